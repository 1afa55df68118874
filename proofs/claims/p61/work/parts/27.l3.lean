def l_L_walks_235 : Nat → Sg → Int32 → Option (Int32 ⊕ (Sg))
  | 0, _, _ => none
  | n + 1, τ, x1 => if 6 ≤ x1 then (some (.inr τ)) else (bn1 (f_X4_rainIn τ 0) fun y90 => if y90 = 0 then (bn1 (f_X4_rainIn τ 2) fun y93 => if y93 = 4 then (bn2 (f_X4_pass τ 40) fun y96 σ98 => if y96 = 0 then (b1 (f_X4_atFair σ98) fun y100 => if y100 = 0 then (l_L_walks_235 n σ98 (x1 + 1)) else (some (.inl 0))) else (some (.inl 0))) else (some (.inl 0))) else (some (.inl 0)))
set_option maxRecDepth 100000 in
def f_L_walks : Option Int32 := bn2 (f_X4_pass s0 1) fun y1 σ3 => if y1 = 0 then (b1 (f_X4_children σ3) fun y5 => if y5 = 1 then (b2 (f_L_is σ3 0 5 60 1 0 2) fun y8 σ10 => if y8 = 0 then (some 0) else (b1 (f_X4_isChildDue σ10) fun y12 => if y12 = 0 then (bn2 (f_X4_pass σ10 3) fun y15 σ17 => if y15 = 0 then (b1 (f_X4_isChildDue σ17) fun y19 => if y19 = 0 then (some 0) else (bn2 (f_X4_pass σ17 1) fun y22 σ24 => if y22 = 0 then (b1 (f_X4_children σ24) fun y26 => if y26 = 2 then (b2 (f_L_is σ24 1 12 60 1 0 2) fun y29 σ31 => if y29 = 0 then (some 0) else (bn2 (f_X4_setRain σ31 2 4) fun y33 σ35 => if y33 = 0 then (bn2 (f_X4_setRain σ35 3 1) fun y37 σ39 => if y37 = 0 then (bn2 (f_X4_pass σ39 3) fun y41 σ43 => if y41 = 0 then (b1 (f_X4_isChildDue σ43) fun y45 => if y45 = 0 then (some 0) else (bn2 (f_X4_pass σ43 1) fun y48 σ50 => if y48 = 0 then (b1 (f_X4_children σ50) fun y52 => if y52 = 3 then (b2 (f_L_is σ50 2 19 58 1 0 2) fun y55 σ57 => if y55 = 0 then (some 0) else (bn1 (f_X4_moodOf σ57 0) fun y59 => if y59 = 58 then (bn2 (f_X4_pass σ57 3) fun y62 σ64 => if y62 = 0 then (b1 (f_X4_isChildDue σ64) fun y66 => if y66 = 0 then (bn2 (f_X4_pass σ64 1) fun y69 σ71 => if y69 = 0 then (bn1 (f_X4_moodOf σ71 2) fun y73 => if y73 = 52 then (bn2 (f_X4_pass σ71 27) fun y76 σ78 => if y76 = 0 then (b1 (f_X4_day σ78) fun y80 => if y80 = 1 then (b1 (f_X4_atFair σ78) fun y83 => if y83 = 0 then (b1 (f_X4_children σ78) fun y86 => if y86 = 9 then (bl id (l_L_walks_235 6 σ78 1) fun q235 => b1 (f_X4_day q235) fun y103 => if y103 = 6 then (bn1 (f_X4_rainIn q235 0) fun y106 => if y106 = 4 then (bn1 (f_X4_rainIn q235 2) fun y109 => if y109 = 8 then (bn1 (f_X4_rainIn q235 3) fun y112 => if y112 = 5 then (bn2 (f_X4_setRain q235 1 9) fun y115 σ117 => if y115 = 0 then (bn1 (f_X4_rainIn σ117 1) fun y119 => if y119 = 9 then (b1 (f_X4_isChildDue σ117) fun y122 => if y122 = 0 then (some 0) else (b1 (f_X4_children σ117) fun y125 => if y125 = 54 then (bn2 (f_X4_pass σ117 1) fun y128 σ130 => if y128 = 0 then (b1 (f_X4_children σ130) fun y132 => if y132 = 55 then (b2 (f_L_is σ130 54 8 58 1 0 2) fun y135 σ137 => if y135 = 0 then (some 0) else (bn2 (f_X4_setRain σ137 0 9) fun y139 σ141 => if y139 = 0 then (bn2 (f_X4_pass σ141 3) fun y143 σ145 => if y143 = 0 then (bn1 (f_X4_moodOf σ145 54) fun y147 => if y147 = 46 then (bn2 (f_X4_pass σ145 4) fun y150 σ152 => if y150 = 0 then (bn1 (f_X4_moodOf σ152 54) fun y154 => if y154 = 30 then (bn2 (f_X4_setRain σ152 2 9) fun y157 σ159 => if y157 = 4 then (bn2 (f_X4_setRain σ159 3 9) fun y161 σ163 => if y161 = 1 then (bn2 (f_X4_homeIn σ163 54) fun y165 σ167 => if y165 = 8 then (bn2 (f_X4_pass σ167 7) fun y169 σ171 => if y169 = 0 then (bn1 (f_X4_moodOf σ171 54) fun y173 => if y173 = 2 then (bn1 (f_X4_isAtFair σ171 54) fun y176 => if y176 = 0 then (some 0) else (bn2 (f_X4_pass σ171 1) fun y179 σ181 => if y179 = 0 then (bn1 (f_X4_moodOf σ181 54) fun y183 => if y183 = 0 then (bn1 (f_X4_isAtFair σ181 54) fun y186 => if y186 = 0 then (bn1 (f_X4_isHomeward σ181 54) fun y189 => if y189 = 0 then (some 0) else (bn1 (f_X4_purseOf σ181 54) fun y192 => if y192 = 8 then (b2 (f_L_refused σ181) fun y195 σ197 => if y195 = 0 then (some 0) else (some 1)) else (some 0))) else (some 0)) else (some 0)) else (some 0))) else (some 0)) else (some 0)) else (some 0)) else (some 0)) else (some 0)) else (some 0)) else (some 0)) else (some 0)) else (some 0)) else (some 0))) else (some 0)) else (some 0)) else (some 0))) else (some 0)) else (some 0)) else (some 0)) else (some 0)) else (some 0)) else (some 0)) else (some 0)) else (some 0)) else (some 0)) else (some 0)) else (some 0)) else (some 0)) else (some 0)) else (some 0)) else (some 0))) else (some 0)) else (some 0))) else (some 0)) else (some 0)) else (some 0))) else (some 0)) else (some 0))) else (some 0)) else (some 0))) else (some 0)) else (some 0)
set_option maxHeartbeats 8000000 in
set_option maxRecDepth 100000 in
theorem c_L_walks (l : Launch) (hfl : l.stackTraces = false) (D : va_G) (t : Nat → ClassId) (b : Nat) (r : Int32) (hf : f_L_walks = some r) : Met l yL_walks (Cond.code yL_walks cL_walks 2 (some .boolean) :: ALL) ({ frames := 13, cells := 15647, slots := 105658, locals := 256 }) (PN D t b) (QN b (some (.int r))) 15647 105658 (geC b) := by
  refine Met.ofW (cc := cL_walks) (maxL := 2) (ret := (some .boolean)) (by decide) rfl ?_
  intro p e s m args below meth c s₁ B hml hv
  obtain ⟨rfl, hz, hE, hEC⟩ := hv
  have hz0 := hz
  have hsub : ∀ q, geA b q → geC b q := fun q h => h.1
  have hx := B.exec
  have hb := B.bytes
  have hr := B.returns
  have hts := atoms_spec (ws := Cond.code yL_walks cL_walks 2 (some .boolean) :: ALL) B.pre
  have hta := fun w h => hts w (List.mem_cons_of_mem _ h)
  have hown : s.vm.findClass RL = some m.cls := findClass_of_methodNamed B.named
  have hlocks := B.notSynchronized
  have hS : va_S (geC b) s.heap s.heap [] := va_S.rf
  have hl := lv_entry ([]) (n := 2) (Nat.le_of_ble_eq_true rfl)
  rw [lg_entry_eq]
  generalize (lg_sl ([]) ++ List.replicate (2 - (lg_sl ([])).length) Slot.unset).toArray = ls at hl ⊢
  have hl : lv_has ls 2 [] := hl
  unfold f_L_walks at hf
  refine lNew (b := b) (b0 := b) (l := l) hx hb hml hown hts hEC hz (Nat.le_refl _) hS q47 q49 q50 q34 q51 hl ⟨Nat.le_of_ble_eq_true rfl, Nat.le_of_ble_eq_true rfl⟩ ⟨show 0 + 193 ≤ 15647 by omega, show 0 + 12934 ≤ 105658 by omega⟩ dL_walks_0 dL_walks_3 dL_walks_4 (fun H locs hW hz hS _ => ?_)
  refine W.widen (k := 193) (n := 12934) (by omega) (by omega) ?_
  refine lv_astore_n (lv' := [(0, .ref (b + 0))]) hx hb dL_walks_7 rfl hl (by decide) rfl (fun ls hl => ?_)
  refine lv_aload_n hx hb dL_walks_8 rfl (lv_at hl 0 rfl) ?_
  refine lv_iconst (v := 1) hx hb dL_walks_9 (by decide) ?_
  obtain ⟨y1, σ3, u2, hf⟩ := bn2_e hf
  refine lVXn (n := 1) (As := [.int 1]) (rest := []) (c_X4_pass l hfl D t b s0 1 (.inr (y1, σ3)) u2) hx hb hml hown hts hE hsub hW hS q616 q617 q618 q34 q619 hy_X4_pass ⟨rfl, rfl⟩ ⟨Nat.le_of_ble_eq_true rfl, Nat.le_of_ble_eq_true rfl⟩ rfl rfl hl.1 (Nat.le_of_ble_eq_true rfl) ⟨show 193 + 1 ≤ 15647 by omega, show 12934 + 6 ≤ 105658 by omega⟩ dL_walks_10 (fun H locs hW hS _ => ?_)
  refine W.widen (k := 194) (n := 12940) (by omega) (by omega) ?_
  refine lv_if_ne (tgt := 231) hx hb dL_walks_13 (by decide) (fun h4 => ?_) (fun h4 => ?_)
  · have hf := ifn h4 hf
    refine lv_iconst (v := 0) hx hb dL_walks_231 (by decide) ?_
    cases hf
    refine W.widen (k := 15647) (n := 105658) (by omega) (by omega) ?_
    exact W.zret (ty := .boolean) hx hb hr (by decide) (fun u hu _ => ⟨rfl, by rw [hu]; exact hS.1, fun q hq => by rw [hu]; exact hS.2.1 q (by omega) (Nat.not_le.mpr hq)⟩) hS.2.2 dL_walks_232
  · have hf := ifp h4 hf
    refine lv_aload_n hx hb dL_walks_16 rfl (lv_at hl 0 rfl) ?_
    obtain ⟨y5, u6, hf⟩ := b1_e hf
    refine lV (n := 0) (As := []) (rest := []) (c_X4_children l D t b σ3 y5 u6) hx hb hml hown hts hE hsub hW hS q977 q978 q979 q34 q980 hy_X4_children ⟨rfl, rfl⟩ ⟨Nat.le_of_ble_eq_true rfl, Nat.le_of_ble_eq_true rfl⟩ rfl rfl hl.1 (Nat.le_of_ble_eq_true rfl) ⟨show 194 ≤ 15647 by omega, show 12940 ≤ 105658 by omega⟩ dL_walks_17 (fun H locs hW hS _ => ?_)
    refine lv_iconst (v := 1) hx hb dL_walks_20 (by decide) ?_
    refine lv_icmp_ne (tgt := 231) hx hb dL_walks_21 (by decide) (fun h7 => ?_) (fun h7 => ?_)
    · have hf := ifn h7 hf
      refine lv_iconst (v := 0) hx hb dL_walks_231 (by decide) ?_
      cases hf
      refine W.widen (k := 15647) (n := 105658) (by omega) (by omega) ?_
      exact W.zret (ty := .boolean) hx hb hr (by decide) (fun u hu _ => ⟨rfl, by rw [hu]; exact hS.1, fun q hq => by rw [hu]; exact hS.2.1 q (by omega) (Nat.not_le.mpr hq)⟩) hS.2.2 dL_walks_232
    · have hf := ifp h7 hf
      refine lv_aload_n hx hb dL_walks_24 rfl (lv_at hl 0 rfl) ?_
      refine lv_iconst (v := 0) hx hb dL_walks_25 (by decide) ?_
      refine lv_iconst (v := 5) hx hb dL_walks_26 (by decide) ?_
      refine lv_bipush (v := 60) hx hb dL_walks_27 (by decide) ?_
      refine lv_iconst (v := 1) hx hb dL_walks_29 (by decide) ?_
      refine lv_iconst (v := 0) hx hb dL_walks_30 (by decide) ?_
      refine lv_iconst (v := 2) hx hb dL_walks_31 (by decide) ?_
      obtain ⟨y8, σ10, u9, hf⟩ := b2_e hf
      refine lS (n := 7) (As := [.ref (b + 0), .int 0, .int 5, .int 60, .int 1, .int 0, .int 2]) (rest := []) (c_L_is l hfl D t b σ3 0 5 60 1 0 2 y8 σ10 u9) hx hb hml hown hts hE hsub hW hS q1030 q1031 q33  q1032 hs_L_is ⟨rfl, rfl⟩ ⟨Nat.le_of_ble_eq_true rfl, Nat.le_of_ble_eq_true rfl⟩ rfl rfl hl.1 (Nat.le_of_ble_eq_true rfl) ⟨show 194 + 6 ≤ 15647 by omega, show 12940 + 36 ≤ 105658 by omega⟩ dL_walks_32 (fun H locs hW hS _ => ?_)
      refine W.widen (k := 200) (n := 12976) (by omega) (by omega) ?_
      refine lv_if_eq (tgt := 231) hx hb dL_walks_35 (by decide) (fun h11 => ?_) (fun h11 => ?_)
      · have hf := ifp h11 hf
        refine lv_iconst (v := 0) hx hb dL_walks_231 (by decide) ?_
        cases hf
        refine W.widen (k := 15647) (n := 105658) (by omega) (by omega) ?_
        exact W.zret (ty := .boolean) hx hb hr (by decide) (fun u hu _ => ⟨rfl, by rw [hu]; exact hS.1, fun q hq => by rw [hu]; exact hS.2.1 q (by omega) (Nat.not_le.mpr hq)⟩) hS.2.2 dL_walks_232
      · have hf := ifn h11 hf
        refine lv_aload_n hx hb dL_walks_38 rfl (lv_at hl 0 rfl) ?_
        obtain ⟨y12, u13, hf⟩ := b1_e hf
        refine lV (n := 0) (As := []) (rest := []) (c_X4_isChildDue l D t b σ10 y12 u13) hx hb hml hown hts hE hsub hW hS q1018 q1019 q1020 q34 q1021 hy_X4_isChildDue ⟨rfl, rfl⟩ ⟨Nat.le_of_ble_eq_true rfl, Nat.le_of_ble_eq_true rfl⟩ rfl rfl hl.1 (Nat.le_of_ble_eq_true rfl) ⟨show 200 ≤ 15647 by omega, show 12976 ≤ 105658 by omega⟩ dL_walks_39 (fun H locs hW hS _ => ?_)
        refine lv_if_ne (tgt := 231) hx hb dL_walks_42 (by decide) (fun h14 => ?_) (fun h14 => ?_)
        · have hf := ifn h14 hf
          refine lv_iconst (v := 0) hx hb dL_walks_231 (by decide) ?_
          cases hf
          refine W.widen (k := 15647) (n := 105658) (by omega) (by omega) ?_
          exact W.zret (ty := .boolean) hx hb hr (by decide) (fun u hu _ => ⟨rfl, by rw [hu]; exact hS.1, fun q hq => by rw [hu]; exact hS.2.1 q (by omega) (Nat.not_le.mpr hq)⟩) hS.2.2 dL_walks_232
        · have hf := ifp h14 hf
          refine lv_aload_n hx hb dL_walks_45 rfl (lv_at hl 0 rfl) ?_
          refine lv_iconst (v := 3) hx hb dL_walks_46 (by decide) ?_
          obtain ⟨y15, σ17, u16, hf⟩ := bn2_e hf
          refine lVXn (n := 1) (As := [.int 3]) (rest := []) (c_X4_pass l hfl D t b σ10 3 (.inr (y15, σ17)) u16) hx hb hml hown hts hE hsub hW hS q616 q617 q618 q34 q619 hy_X4_pass ⟨rfl, rfl⟩ ⟨Nat.le_of_ble_eq_true rfl, Nat.le_of_ble_eq_true rfl⟩ rfl rfl hl.1 (Nat.le_of_ble_eq_true rfl) ⟨show 200 + 1 ≤ 15647 by omega, show 12976 + 6 ≤ 105658 by omega⟩ dL_walks_47 (fun H locs hW hS _ => ?_)
          refine W.widen (k := 201) (n := 12982) (by omega) (by omega) ?_
          refine lv_if_ne (tgt := 231) hx hb dL_walks_50 (by decide) (fun h18 => ?_) (fun h18 => ?_)
          · have hf := ifn h18 hf
            refine lv_iconst (v := 0) hx hb dL_walks_231 (by decide) ?_
            cases hf
            refine W.widen (k := 15647) (n := 105658) (by omega) (by omega) ?_
            exact W.zret (ty := .boolean) hx hb hr (by decide) (fun u hu _ => ⟨rfl, by rw [hu]; exact hS.1, fun q hq => by rw [hu]; exact hS.2.1 q (by omega) (Nat.not_le.mpr hq)⟩) hS.2.2 dL_walks_232
          · have hf := ifp h18 hf
            refine lv_aload_n hx hb dL_walks_53 rfl (lv_at hl 0 rfl) ?_
            obtain ⟨y19, u20, hf⟩ := b1_e hf
            refine lV (n := 0) (As := []) (rest := []) (c_X4_isChildDue l D t b σ17 y19 u20) hx hb hml hown hts hE hsub hW hS q1018 q1019 q1020 q34 q1021 hy_X4_isChildDue ⟨rfl, rfl⟩ ⟨Nat.le_of_ble_eq_true rfl, Nat.le_of_ble_eq_true rfl⟩ rfl rfl hl.1 (Nat.le_of_ble_eq_true rfl) ⟨show 201 ≤ 15647 by omega, show 12982 ≤ 105658 by omega⟩ dL_walks_54 (fun H locs hW hS _ => ?_)
            refine lv_if_eq (tgt := 231) hx hb dL_walks_57 (by decide) (fun h21 => ?_) (fun h21 => ?_)
            · have hf := ifp h21 hf
              refine lv_iconst (v := 0) hx hb dL_walks_231 (by decide) ?_
              cases hf
              refine W.widen (k := 15647) (n := 105658) (by omega) (by omega) ?_
              exact W.zret (ty := .boolean) hx hb hr (by decide) (fun u hu _ => ⟨rfl, by rw [hu]; exact hS.1, fun q hq => by rw [hu]; exact hS.2.1 q (by omega) (Nat.not_le.mpr hq)⟩) hS.2.2 dL_walks_232
            · have hf := ifn h21 hf
              refine lv_aload_n hx hb dL_walks_60 rfl (lv_at hl 0 rfl) ?_
              refine lv_iconst (v := 1) hx hb dL_walks_61 (by decide) ?_
              obtain ⟨y22, σ24, u23, hf⟩ := bn2_e hf
              refine lVXn (n := 1) (As := [.int 1]) (rest := []) (c_X4_pass l hfl D t b σ17 1 (.inr (y22, σ24)) u23) hx hb hml hown hts hE hsub hW hS q616 q617 q618 q34 q619 hy_X4_pass ⟨rfl, rfl⟩ ⟨Nat.le_of_ble_eq_true rfl, Nat.le_of_ble_eq_true rfl⟩ rfl rfl hl.1 (Nat.le_of_ble_eq_true rfl) ⟨show 201 + 1 ≤ 15647 by omega, show 12982 + 6 ≤ 105658 by omega⟩ dL_walks_62 (fun H locs hW hS _ => ?_)
              refine W.widen (k := 202) (n := 12988) (by omega) (by omega) ?_
              refine lv_if_ne (tgt := 231) hx hb dL_walks_65 (by decide) (fun h25 => ?_) (fun h25 => ?_)
              · have hf := ifn h25 hf
                refine lv_iconst (v := 0) hx hb dL_walks_231 (by decide) ?_
                cases hf
                refine W.widen (k := 15647) (n := 105658) (by omega) (by omega) ?_
                exact W.zret (ty := .boolean) hx hb hr (by decide) (fun u hu _ => ⟨rfl, by rw [hu]; exact hS.1, fun q hq => by rw [hu]; exact hS.2.1 q (by omega) (Nat.not_le.mpr hq)⟩) hS.2.2 dL_walks_232
              · have hf := ifp h25 hf
                refine lv_aload_n hx hb dL_walks_68 rfl (lv_at hl 0 rfl) ?_
                obtain ⟨y26, u27, hf⟩ := b1_e hf
                refine lV (n := 0) (As := []) (rest := []) (c_X4_children l D t b σ24 y26 u27) hx hb hml hown hts hE hsub hW hS q977 q978 q979 q34 q980 hy_X4_children ⟨rfl, rfl⟩ ⟨Nat.le_of_ble_eq_true rfl, Nat.le_of_ble_eq_true rfl⟩ rfl rfl hl.1 (Nat.le_of_ble_eq_true rfl) ⟨show 202 ≤ 15647 by omega, show 12988 ≤ 105658 by omega⟩ dL_walks_69 (fun H locs hW hS _ => ?_)
                refine lv_iconst (v := 2) hx hb dL_walks_72 (by decide) ?_
                refine lv_icmp_ne (tgt := 231) hx hb dL_walks_73 (by decide) (fun h28 => ?_) (fun h28 => ?_)
                · have hf := ifn h28 hf
                  refine lv_iconst (v := 0) hx hb dL_walks_231 (by decide) ?_
                  cases hf
                  refine W.widen (k := 15647) (n := 105658) (by omega) (by omega) ?_
                  exact W.zret (ty := .boolean) hx hb hr (by decide) (fun u hu _ => ⟨rfl, by rw [hu]; exact hS.1, fun q hq => by rw [hu]; exact hS.2.1 q (by omega) (Nat.not_le.mpr hq)⟩) hS.2.2 dL_walks_232
                · have hf := ifp h28 hf
                  refine lv_aload_n hx hb dL_walks_76 rfl (lv_at hl 0 rfl) ?_
                  refine lv_iconst (v := 1) hx hb dL_walks_77 (by decide) ?_
                  refine lv_bipush (v := 12) hx hb dL_walks_78 (by decide) ?_
                  refine lv_bipush (v := 60) hx hb dL_walks_80 (by decide) ?_
                  refine lv_iconst (v := 1) hx hb dL_walks_82 (by decide) ?_
                  refine lv_iconst (v := 0) hx hb dL_walks_83 (by decide) ?_
                  refine lv_iconst (v := 2) hx hb dL_walks_84 (by decide) ?_
                  obtain ⟨y29, σ31, u30, hf⟩ := b2_e hf
                  refine lS (n := 7) (As := [.ref (b + 0), .int 1, .int 12, .int 60, .int 1, .int 0, .int 2]) (rest := []) (c_L_is l hfl D t b σ24 1 12 60 1 0 2 y29 σ31 u30) hx hb hml hown hts hE hsub hW hS q1030 q1031 q33  q1032 hs_L_is ⟨rfl, rfl⟩ ⟨Nat.le_of_ble_eq_true rfl, Nat.le_of_ble_eq_true rfl⟩ rfl rfl hl.1 (Nat.le_of_ble_eq_true rfl) ⟨show 202 + 6 ≤ 15647 by omega, show 12988 + 36 ≤ 105658 by omega⟩ dL_walks_85 (fun H locs hW hS _ => ?_)
                  refine W.widen (k := 208) (n := 13024) (by omega) (by omega) ?_
                  refine lv_if_eq (tgt := 231) hx hb dL_walks_88 (by decide) (fun h32 => ?_) (fun h32 => ?_)
                  · have hf := ifp h32 hf
                    refine lv_iconst (v := 0) hx hb dL_walks_231 (by decide) ?_
                    cases hf
                    refine W.widen (k := 15647) (n := 105658) (by omega) (by omega) ?_
                    exact W.zret (ty := .boolean) hx hb hr (by decide) (fun u hu _ => ⟨rfl, by rw [hu]; exact hS.1, fun q hq => by rw [hu]; exact hS.2.1 q (by omega) (Nat.not_le.mpr hq)⟩) hS.2.2 dL_walks_232
                  · have hf := ifn h32 hf
                    refine lv_aload_n hx hb dL_walks_91 rfl (lv_at hl 0 rfl) ?_
                    refine lv_iconst (v := 2) hx hb dL_walks_92 (by decide) ?_
                    refine lv_iconst (v := 4) hx hb dL_walks_93 (by decide) ?_
                    obtain ⟨y33, σ35, u34, hf⟩ := bn2_e hf
                    refine lVXn (n := 2) (As := [.int 2, .int 4]) (rest := []) (c_X4_setRain l hfl D t b σ31 2 4 (.inr (y33, σ35)) u34) hx hb hml hown hts hE hsub hW hS q606 q607 q608 q34 q609 hy_X4_setRain ⟨rfl, rfl⟩ ⟨Nat.le_of_ble_eq_true rfl, Nat.le_of_ble_eq_true rfl⟩ rfl rfl hl.1 (Nat.le_of_ble_eq_true rfl) ⟨show 208 + 2 ≤ 15647 by omega, show 13024 + 12 ≤ 105658 by omega⟩ dL_walks_94 (fun H locs hW hS _ => ?_)
                    refine W.widen (k := 210) (n := 13036) (by omega) (by omega) ?_
                    refine lv_if_ne (tgt := 231) hx hb dL_walks_97 (by decide) (fun h36 => ?_) (fun h36 => ?_)
                    · have hf := ifn h36 hf
                      refine lv_iconst (v := 0) hx hb dL_walks_231 (by decide) ?_
                      cases hf
                      refine W.widen (k := 15647) (n := 105658) (by omega) (by omega) ?_
                      exact W.zret (ty := .boolean) hx hb hr (by decide) (fun u hu _ => ⟨rfl, by rw [hu]; exact hS.1, fun q hq => by rw [hu]; exact hS.2.1 q (by omega) (Nat.not_le.mpr hq)⟩) hS.2.2 dL_walks_232
                    · have hf := ifp h36 hf
                      refine lv_aload_n hx hb dL_walks_100 rfl (lv_at hl 0 rfl) ?_
                      refine lv_iconst (v := 3) hx hb dL_walks_101 (by decide) ?_
                      refine lv_iconst (v := 1) hx hb dL_walks_102 (by decide) ?_
                      obtain ⟨y37, σ39, u38, hf⟩ := bn2_e hf
                      refine lVXn (n := 2) (As := [.int 3, .int 1]) (rest := []) (c_X4_setRain l hfl D t b σ35 3 1 (.inr (y37, σ39)) u38) hx hb hml hown hts hE hsub hW hS q606 q607 q608 q34 q609 hy_X4_setRain ⟨rfl, rfl⟩ ⟨Nat.le_of_ble_eq_true rfl, Nat.le_of_ble_eq_true rfl⟩ rfl rfl hl.1 (Nat.le_of_ble_eq_true rfl) ⟨show 210 + 2 ≤ 15647 by omega, show 13036 + 12 ≤ 105658 by omega⟩ dL_walks_103 (fun H locs hW hS _ => ?_)
                      refine W.widen (k := 212) (n := 13048) (by omega) (by omega) ?_
                      refine lv_if_ne (tgt := 231) hx hb dL_walks_106 (by decide) (fun h40 => ?_) (fun h40 => ?_)
                      · have hf := ifn h40 hf
                        refine lv_iconst (v := 0) hx hb dL_walks_231 (by decide) ?_
                        cases hf
                        refine W.widen (k := 15647) (n := 105658) (by omega) (by omega) ?_
                        exact W.zret (ty := .boolean) hx hb hr (by decide) (fun u hu _ => ⟨rfl, by rw [hu]; exact hS.1, fun q hq => by rw [hu]; exact hS.2.1 q (by omega) (Nat.not_le.mpr hq)⟩) hS.2.2 dL_walks_232
                      · have hf := ifp h40 hf
                        refine lv_aload_n hx hb dL_walks_109 rfl (lv_at hl 0 rfl) ?_
                        refine lv_iconst (v := 3) hx hb dL_walks_110 (by decide) ?_
                        obtain ⟨y41, σ43, u42, hf⟩ := bn2_e hf
                        refine lVXn (n := 1) (As := [.int 3]) (rest := []) (c_X4_pass l hfl D t b σ39 3 (.inr (y41, σ43)) u42) hx hb hml hown hts hE hsub hW hS q616 q617 q618 q34 q619 hy_X4_pass ⟨rfl, rfl⟩ ⟨Nat.le_of_ble_eq_true rfl, Nat.le_of_ble_eq_true rfl⟩ rfl rfl hl.1 (Nat.le_of_ble_eq_true rfl) ⟨show 212 + 1 ≤ 15647 by omega, show 13048 + 6 ≤ 105658 by omega⟩ dL_walks_111 (fun H locs hW hS _ => ?_)
                        refine W.widen (k := 213) (n := 13054) (by omega) (by omega) ?_
                        refine lv_if_ne (tgt := 231) hx hb dL_walks_114 (by decide) (fun h44 => ?_) (fun h44 => ?_)
                        · have hf := ifn h44 hf
                          refine lv_iconst (v := 0) hx hb dL_walks_231 (by decide) ?_
                          cases hf
                          refine W.widen (k := 15647) (n := 105658) (by omega) (by omega) ?_
                          exact W.zret (ty := .boolean) hx hb hr (by decide) (fun u hu _ => ⟨rfl, by rw [hu]; exact hS.1, fun q hq => by rw [hu]; exact hS.2.1 q (by omega) (Nat.not_le.mpr hq)⟩) hS.2.2 dL_walks_232
                        · have hf := ifp h44 hf
                          refine lv_aload_n hx hb dL_walks_117 rfl (lv_at hl 0 rfl) ?_
                          obtain ⟨y45, u46, hf⟩ := b1_e hf
                          refine lV (n := 0) (As := []) (rest := []) (c_X4_isChildDue l D t b σ43 y45 u46) hx hb hml hown hts hE hsub hW hS q1018 q1019 q1020 q34 q1021 hy_X4_isChildDue ⟨rfl, rfl⟩ ⟨Nat.le_of_ble_eq_true rfl, Nat.le_of_ble_eq_true rfl⟩ rfl rfl hl.1 (Nat.le_of_ble_eq_true rfl) ⟨show 213 ≤ 15647 by omega, show 13054 ≤ 105658 by omega⟩ dL_walks_118 (fun H locs hW hS _ => ?_)
                          refine lv_if_eq (tgt := 231) hx hb dL_walks_121 (by decide) (fun h47 => ?_) (fun h47 => ?_)
                          · have hf := ifp h47 hf
                            refine lv_iconst (v := 0) hx hb dL_walks_231 (by decide) ?_
                            cases hf
                            refine W.widen (k := 15647) (n := 105658) (by omega) (by omega) ?_
                            exact W.zret (ty := .boolean) hx hb hr (by decide) (fun u hu _ => ⟨rfl, by rw [hu]; exact hS.1, fun q hq => by rw [hu]; exact hS.2.1 q (by omega) (Nat.not_le.mpr hq)⟩) hS.2.2 dL_walks_232
                          · have hf := ifn h47 hf
                            refine lv_aload_n hx hb dL_walks_124 rfl (lv_at hl 0 rfl) ?_
                            refine lv_iconst (v := 1) hx hb dL_walks_125 (by decide) ?_
                            obtain ⟨y48, σ50, u49, hf⟩ := bn2_e hf
                            refine lVXn (n := 1) (As := [.int 1]) (rest := []) (c_X4_pass l hfl D t b σ43 1 (.inr (y48, σ50)) u49) hx hb hml hown hts hE hsub hW hS q616 q617 q618 q34 q619 hy_X4_pass ⟨rfl, rfl⟩ ⟨Nat.le_of_ble_eq_true rfl, Nat.le_of_ble_eq_true rfl⟩ rfl rfl hl.1 (Nat.le_of_ble_eq_true rfl) ⟨show 213 + 1 ≤ 15647 by omega, show 13054 + 6 ≤ 105658 by omega⟩ dL_walks_126 (fun H locs hW hS _ => ?_)
                            refine W.widen (k := 214) (n := 13060) (by omega) (by omega) ?_
                            refine lv_if_ne (tgt := 231) hx hb dL_walks_129 (by decide) (fun h51 => ?_) (fun h51 => ?_)
                            · have hf := ifn h51 hf
                              refine lv_iconst (v := 0) hx hb dL_walks_231 (by decide) ?_
                              cases hf
                              refine W.widen (k := 15647) (n := 105658) (by omega) (by omega) ?_
                              exact W.zret (ty := .boolean) hx hb hr (by decide) (fun u hu _ => ⟨rfl, by rw [hu]; exact hS.1, fun q hq => by rw [hu]; exact hS.2.1 q (by omega) (Nat.not_le.mpr hq)⟩) hS.2.2 dL_walks_232
                            · have hf := ifp h51 hf
                              refine lv_aload_n hx hb dL_walks_132 rfl (lv_at hl 0 rfl) ?_
                              obtain ⟨y52, u53, hf⟩ := b1_e hf
                              refine lV (n := 0) (As := []) (rest := []) (c_X4_children l D t b σ50 y52 u53) hx hb hml hown hts hE hsub hW hS q977 q978 q979 q34 q980 hy_X4_children ⟨rfl, rfl⟩ ⟨Nat.le_of_ble_eq_true rfl, Nat.le_of_ble_eq_true rfl⟩ rfl rfl hl.1 (Nat.le_of_ble_eq_true rfl) ⟨show 214 ≤ 15647 by omega, show 13060 ≤ 105658 by omega⟩ dL_walks_133 (fun H locs hW hS _ => ?_)
                              refine lv_iconst (v := 3) hx hb dL_walks_136 (by decide) ?_
                              refine lv_icmp_ne (tgt := 231) hx hb dL_walks_137 (by decide) (fun h54 => ?_) (fun h54 => ?_)
                              · have hf := ifn h54 hf
                                refine lv_iconst (v := 0) hx hb dL_walks_231 (by decide) ?_
                                cases hf
                                refine W.widen (k := 15647) (n := 105658) (by omega) (by omega) ?_
                                exact W.zret (ty := .boolean) hx hb hr (by decide) (fun u hu _ => ⟨rfl, by rw [hu]; exact hS.1, fun q hq => by rw [hu]; exact hS.2.1 q (by omega) (Nat.not_le.mpr hq)⟩) hS.2.2 dL_walks_232
                              · have hf := ifp h54 hf
                                refine lv_aload_n hx hb dL_walks_140 rfl (lv_at hl 0 rfl) ?_
                                refine lv_iconst (v := 2) hx hb dL_walks_141 (by decide) ?_
                                refine lv_bipush (v := 19) hx hb dL_walks_142 (by decide) ?_
                                refine lv_bipush (v := 58) hx hb dL_walks_144 (by decide) ?_
                                refine lv_iconst (v := 1) hx hb dL_walks_146 (by decide) ?_
                                refine lv_iconst (v := 0) hx hb dL_walks_147 (by decide) ?_
                                refine lv_iconst (v := 2) hx hb dL_walks_148 (by decide) ?_
                                obtain ⟨y55, σ57, u56, hf⟩ := b2_e hf
                                refine lS (n := 7) (As := [.ref (b + 0), .int 2, .int 19, .int 58, .int 1, .int 0, .int 2]) (rest := []) (c_L_is l hfl D t b σ50 2 19 58 1 0 2 y55 σ57 u56) hx hb hml hown hts hE hsub hW hS q1030 q1031 q33  q1032 hs_L_is ⟨rfl, rfl⟩ ⟨Nat.le_of_ble_eq_true rfl, Nat.le_of_ble_eq_true rfl⟩ rfl rfl hl.1 (Nat.le_of_ble_eq_true rfl) ⟨show 214 + 6 ≤ 15647 by omega, show 13060 + 36 ≤ 105658 by omega⟩ dL_walks_149 (fun H locs hW hS _ => ?_)
                                refine W.widen (k := 220) (n := 13096) (by omega) (by omega) ?_
                                refine lv_if_eq (tgt := 231) hx hb dL_walks_152 (by decide) (fun h58 => ?_) (fun h58 => ?_)
                                · have hf := ifp h58 hf
                                  refine lv_iconst (v := 0) hx hb dL_walks_231 (by decide) ?_
                                  cases hf
                                  refine W.widen (k := 15647) (n := 105658) (by omega) (by omega) ?_
                                  exact W.zret (ty := .boolean) hx hb hr (by decide) (fun u hu _ => ⟨rfl, by rw [hu]; exact hS.1, fun q hq => by rw [hu]; exact hS.2.1 q (by omega) (Nat.not_le.mpr hq)⟩) hS.2.2 dL_walks_232
                                · have hf := ifn h58 hf
                                  refine lv_aload_n hx hb dL_walks_155 rfl (lv_at hl 0 rfl) ?_
                                  refine lv_iconst (v := 0) hx hb dL_walks_156 (by decide) ?_
                                  obtain ⟨y59, u60, hf⟩ := bn1_e hf
                                  refine lVXn (n := 1) (As := [.int 0]) (rest := []) (c_X4_moodOf l hfl D t b σ57 0 (.inr y59) u60) hx hb hml hown hts hE hsub hW hS q779 q780 q781 q34 q782 hy_X4_moodOf ⟨rfl, rfl⟩ ⟨Nat.le_of_ble_eq_true rfl, Nat.le_of_ble_eq_true rfl⟩ rfl rfl hl.1 (Nat.le_of_ble_eq_true rfl) ⟨show 220 + 1 ≤ 15647 by omega, show 13096 + 6 ≤ 105658 by omega⟩ dL_walks_157 (fun H locs hW hS _ => ?_)
                                  refine W.widen (k := 221) (n := 13102) (by omega) (by omega) ?_
                                  refine lv_bipush (v := 58) hx hb dL_walks_160 (by decide) ?_
                                  refine lv_icmp_ne (tgt := 231) hx hb dL_walks_162 (by decide) (fun h61 => ?_) (fun h61 => ?_)
                                  · have hf := ifn h61 hf
                                    refine lv_iconst (v := 0) hx hb dL_walks_231 (by decide) ?_
                                    cases hf
                                    refine W.widen (k := 15647) (n := 105658) (by omega) (by omega) ?_
                                    exact W.zret (ty := .boolean) hx hb hr (by decide) (fun u hu _ => ⟨rfl, by rw [hu]; exact hS.1, fun q hq => by rw [hu]; exact hS.2.1 q (by omega) (Nat.not_le.mpr hq)⟩) hS.2.2 dL_walks_232
                                  · have hf := ifp h61 hf
                                    refine lv_aload_n hx hb dL_walks_165 rfl (lv_at hl 0 rfl) ?_
                                    refine lv_iconst (v := 3) hx hb dL_walks_166 (by decide) ?_
                                    obtain ⟨y62, σ64, u63, hf⟩ := bn2_e hf
                                    refine lVXn (n := 1) (As := [.int 3]) (rest := []) (c_X4_pass l hfl D t b σ57 3 (.inr (y62, σ64)) u63) hx hb hml hown hts hE hsub hW hS q616 q617 q618 q34 q619 hy_X4_pass ⟨rfl, rfl⟩ ⟨Nat.le_of_ble_eq_true rfl, Nat.le_of_ble_eq_true rfl⟩ rfl rfl hl.1 (Nat.le_of_ble_eq_true rfl) ⟨show 221 + 1 ≤ 15647 by omega, show 13102 + 6 ≤ 105658 by omega⟩ dL_walks_167 (fun H locs hW hS _ => ?_)
                                    refine W.widen (k := 222) (n := 13108) (by omega) (by omega) ?_
                                    refine lv_if_ne (tgt := 231) hx hb dL_walks_170 (by decide) (fun h65 => ?_) (fun h65 => ?_)
                                    · have hf := ifn h65 hf
                                      refine lv_iconst (v := 0) hx hb dL_walks_231 (by decide) ?_
                                      cases hf
                                      refine W.widen (k := 15647) (n := 105658) (by omega) (by omega) ?_
                                      exact W.zret (ty := .boolean) hx hb hr (by decide) (fun u hu _ => ⟨rfl, by rw [hu]; exact hS.1, fun q hq => by rw [hu]; exact hS.2.1 q (by omega) (Nat.not_le.mpr hq)⟩) hS.2.2 dL_walks_232
                                    · have hf := ifp h65 hf
                                      refine lv_aload_n hx hb dL_walks_173 rfl (lv_at hl 0 rfl) ?_
                                      obtain ⟨y66, u67, hf⟩ := b1_e hf
                                      refine lV (n := 0) (As := []) (rest := []) (c_X4_isChildDue l D t b σ64 y66 u67) hx hb hml hown hts hE hsub hW hS q1018 q1019 q1020 q34 q1021 hy_X4_isChildDue ⟨rfl, rfl⟩ ⟨Nat.le_of_ble_eq_true rfl, Nat.le_of_ble_eq_true rfl⟩ rfl rfl hl.1 (Nat.le_of_ble_eq_true rfl) ⟨show 222 ≤ 15647 by omega, show 13108 ≤ 105658 by omega⟩ dL_walks_174 (fun H locs hW hS _ => ?_)
                                      refine lv_if_ne (tgt := 231) hx hb dL_walks_177 (by decide) (fun h68 => ?_) (fun h68 => ?_)
                                      · have hf := ifn h68 hf
                                        refine lv_iconst (v := 0) hx hb dL_walks_231 (by decide) ?_
                                        cases hf
                                        refine W.widen (k := 15647) (n := 105658) (by omega) (by omega) ?_
                                        exact W.zret (ty := .boolean) hx hb hr (by decide) (fun u hu _ => ⟨rfl, by rw [hu]; exact hS.1, fun q hq => by rw [hu]; exact hS.2.1 q (by omega) (Nat.not_le.mpr hq)⟩) hS.2.2 dL_walks_232
                                      · have hf := ifp h68 hf
                                        refine lv_aload_n hx hb dL_walks_180 rfl (lv_at hl 0 rfl) ?_
                                        refine lv_iconst (v := 1) hx hb dL_walks_181 (by decide) ?_
                                        obtain ⟨y69, σ71, u70, hf⟩ := bn2_e hf
                                        refine lVXn (n := 1) (As := [.int 1]) (rest := []) (c_X4_pass l hfl D t b σ64 1 (.inr (y69, σ71)) u70) hx hb hml hown hts hE hsub hW hS q616 q617 q618 q34 q619 hy_X4_pass ⟨rfl, rfl⟩ ⟨Nat.le_of_ble_eq_true rfl, Nat.le_of_ble_eq_true rfl⟩ rfl rfl hl.1 (Nat.le_of_ble_eq_true rfl) ⟨show 222 + 1 ≤ 15647 by omega, show 13108 + 6 ≤ 105658 by omega⟩ dL_walks_182 (fun H locs hW hS _ => ?_)
                                        refine W.widen (k := 223) (n := 13114) (by omega) (by omega) ?_
                                        refine lv_if_ne (tgt := 231) hx hb dL_walks_185 (by decide) (fun h72 => ?_) (fun h72 => ?_)
                                        · have hf := ifn h72 hf
                                          refine lv_iconst (v := 0) hx hb dL_walks_231 (by decide) ?_
                                          cases hf
                                          refine W.widen (k := 15647) (n := 105658) (by omega) (by omega) ?_
                                          exact W.zret (ty := .boolean) hx hb hr (by decide) (fun u hu _ => ⟨rfl, by rw [hu]; exact hS.1, fun q hq => by rw [hu]; exact hS.2.1 q (by omega) (Nat.not_le.mpr hq)⟩) hS.2.2 dL_walks_232
                                        · have hf := ifp h72 hf
                                          refine lv_aload_n hx hb dL_walks_188 rfl (lv_at hl 0 rfl) ?_
                                          refine lv_iconst (v := 2) hx hb dL_walks_189 (by decide) ?_
                                          obtain ⟨y73, u74, hf⟩ := bn1_e hf
                                          refine lVXn (n := 1) (As := [.int 2]) (rest := []) (c_X4_moodOf l hfl D t b σ71 2 (.inr y73) u74) hx hb hml hown hts hE hsub hW hS q779 q780 q781 q34 q782 hy_X4_moodOf ⟨rfl, rfl⟩ ⟨Nat.le_of_ble_eq_true rfl, Nat.le_of_ble_eq_true rfl⟩ rfl rfl hl.1 (Nat.le_of_ble_eq_true rfl) ⟨show 223 + 1 ≤ 15647 by omega, show 13114 + 6 ≤ 105658 by omega⟩ dL_walks_190 (fun H locs hW hS _ => ?_)
                                          refine W.widen (k := 224) (n := 13120) (by omega) (by omega) ?_
                                          refine lv_bipush (v := 52) hx hb dL_walks_193 (by decide) ?_
                                          refine lv_icmp_ne (tgt := 231) hx hb dL_walks_195 (by decide) (fun h75 => ?_) (fun h75 => ?_)
                                          · have hf := ifn h75 hf
                                            refine lv_iconst (v := 0) hx hb dL_walks_231 (by decide) ?_
                                            cases hf
                                            refine W.widen (k := 15647) (n := 105658) (by omega) (by omega) ?_
                                            exact W.zret (ty := .boolean) hx hb hr (by decide) (fun u hu _ => ⟨rfl, by rw [hu]; exact hS.1, fun q hq => by rw [hu]; exact hS.2.1 q (by omega) (Nat.not_le.mpr hq)⟩) hS.2.2 dL_walks_232
                                          · have hf := ifp h75 hf
                                            refine lv_aload_n hx hb dL_walks_198 rfl (lv_at hl 0 rfl) ?_
                                            refine lv_bipush (v := 27) hx hb dL_walks_199 (by decide) ?_
                                            obtain ⟨y76, σ78, u77, hf⟩ := bn2_e hf
                                            refine lVXn (n := 1) (As := [.int 27]) (rest := []) (c_X4_pass l hfl D t b σ71 27 (.inr (y76, σ78)) u77) hx hb hml hown hts hE hsub hW hS q616 q617 q618 q34 q619 hy_X4_pass ⟨rfl, rfl⟩ ⟨Nat.le_of_ble_eq_true rfl, Nat.le_of_ble_eq_true rfl⟩ rfl rfl hl.1 (Nat.le_of_ble_eq_true rfl) ⟨show 224 + 1 ≤ 15647 by omega, show 13120 + 6 ≤ 105658 by omega⟩ dL_walks_201 (fun H locs hW hS _ => ?_)
                                            refine W.widen (k := 225) (n := 13126) (by omega) (by omega) ?_
                                            refine lv_if_ne (tgt := 231) hx hb dL_walks_204 (by decide) (fun h79 => ?_) (fun h79 => ?_)
                                            · have hf := ifn h79 hf
                                              refine lv_iconst (v := 0) hx hb dL_walks_231 (by decide) ?_
                                              cases hf
                                              refine W.widen (k := 15647) (n := 105658) (by omega) (by omega) ?_
                                              exact W.zret (ty := .boolean) hx hb hr (by decide) (fun u hu _ => ⟨rfl, by rw [hu]; exact hS.1, fun q hq => by rw [hu]; exact hS.2.1 q (by omega) (Nat.not_le.mpr hq)⟩) hS.2.2 dL_walks_232
                                            · have hf := ifp h79 hf
                                              refine lv_aload_n hx hb dL_walks_207 rfl (lv_at hl 0 rfl) ?_
                                              obtain ⟨y80, u81, hf⟩ := b1_e hf
                                              refine lV (n := 0) (As := []) (rest := []) (c_X4_day l D t b σ78 y80 u81) hx hb hml hown hts hE hsub hW hS q965 q966 q967 q34 q968 hy_X4_day ⟨rfl, rfl⟩ ⟨Nat.le_of_ble_eq_true rfl, Nat.le_of_ble_eq_true rfl⟩ rfl rfl hl.1 (Nat.le_of_ble_eq_true rfl) ⟨show 225 ≤ 15647 by omega, show 13126 ≤ 105658 by omega⟩ dL_walks_208 (fun H locs hW hS _ => ?_)
                                              refine lv_iconst (v := 1) hx hb dL_walks_211 (by decide) ?_
                                              refine lv_icmp_ne (tgt := 231) hx hb dL_walks_212 (by decide) (fun h82 => ?_) (fun h82 => ?_)
                                              · have hf := ifn h82 hf
                                                refine lv_iconst (v := 0) hx hb dL_walks_231 (by decide) ?_
                                                cases hf
                                                refine W.widen (k := 15647) (n := 105658) (by omega) (by omega) ?_
                                                exact W.zret (ty := .boolean) hx hb hr (by decide) (fun u hu _ => ⟨rfl, by rw [hu]; exact hS.1, fun q hq => by rw [hu]; exact hS.2.1 q (by omega) (Nat.not_le.mpr hq)⟩) hS.2.2 dL_walks_232
                                              · have hf := ifp h82 hf
                                                refine lv_aload_n hx hb dL_walks_215 rfl (lv_at hl 0 rfl) ?_
                                                obtain ⟨y83, u84, hf⟩ := b1_e hf
                                                refine lV (n := 0) (As := []) (rest := []) (c_X4_atFair l D t b σ78 y83 u84) hx hb hml hown hts hE hsub hW hS q1051 q1052 q1053 q34 q1054 hy_X4_atFair ⟨rfl, rfl⟩ ⟨Nat.le_of_ble_eq_true rfl, Nat.le_of_ble_eq_true rfl⟩ rfl rfl hl.1 (Nat.le_of_ble_eq_true rfl) ⟨show 225 ≤ 15647 by omega, show 13126 ≤ 105658 by omega⟩ dL_walks_216 (fun H locs hW hS _ => ?_)
                                                refine lv_if_ne (tgt := 231) hx hb dL_walks_219 (by decide) (fun h85 => ?_) (fun h85 => ?_)
                                                · have hf := ifn h85 hf
                                                  refine lv_iconst (v := 0) hx hb dL_walks_231 (by decide) ?_
                                                  cases hf
                                                  refine W.widen (k := 15647) (n := 105658) (by omega) (by omega) ?_
                                                  exact W.zret (ty := .boolean) hx hb hr (by decide) (fun u hu _ => ⟨rfl, by rw [hu]; exact hS.1, fun q hq => by rw [hu]; exact hS.2.1 q (by omega) (Nat.not_le.mpr hq)⟩) hS.2.2 dL_walks_232
                                                · have hf := ifp h85 hf
                                                  refine lv_aload_n hx hb dL_walks_222 rfl (lv_at hl 0 rfl) ?_
                                                  obtain ⟨y86, u87, hf⟩ := b1_e hf
                                                  refine lV (n := 0) (As := []) (rest := []) (c_X4_children l D t b σ78 y86 u87) hx hb hml hown hts hE hsub hW hS q977 q978 q979 q34 q980 hy_X4_children ⟨rfl, rfl⟩ ⟨Nat.le_of_ble_eq_true rfl, Nat.le_of_ble_eq_true rfl⟩ rfl rfl hl.1 (Nat.le_of_ble_eq_true rfl) ⟨show 225 ≤ 15647 by omega, show 13126 ≤ 105658 by omega⟩ dL_walks_223 (fun H locs hW hS _ => ?_)
                                                  refine lv_bipush (v := 9) hx hb dL_walks_226 (by decide) ?_
                                                  refine lv_icmp_eq (tgt := 233) hx hb dL_walks_228 (by decide) (fun h88 => ?_) (fun h88 => ?_)
                                                  · have hf := ifp h88 hf
                                                    refine lv_iconst (v := 1) hx hb dL_walks_233 (by decide) ?_
                                                    refine lv_istore_n (lv' := [(1, .int 1), (0, .ref (b + 0))]) hx hb dL_walks_234 rfl hl (by decide) rfl (fun ls hl => ?_)
                                                    obtain ⟨res, hl0, hA, hB⟩ := bl_e hf
                                                    have key_235 : ∀ (n : Nat) (τ : Sg) (x1 : Int32) (cl sl ce se : Nat) (H : Heap) (locs : List Loc) (ls : Array Slot) (res : Int32 ⊕ (Sg)), l_L_walks_235 n τ x1 = some res → cl + 3 * n = ce → sl + 18 * n = se → ce ≤ 15647 → se ≤ 105658 → (∀ a, res = .inl a → a = r) → (∀ q235, res = .inr q235 → ∀ (H : Heap) (locs : List Loc) (ls : Array Slot), wd D t b q235 H → va_S (geC b) s.heap H locs → lv_has ls 2 [(0, .ref (b + 0))] → W p l e (headSpec (Cond.code yL_walks cL_walks 2 (some .boolean) :: ALL) ({ frames := 13, cells := 15647, slots := 105658, locals := 256 })).room s m (([] : List Value).toArray) below meth c H locs ce se (MQ below (QN b (some (.int r))) (([] : List Value).toArray) s 15647 105658 (geC b)) (F0 m 282 ls [])) → wd D t b τ H → va_S (geC b) s.heap H locs → lv_has ls 2 [(0, .ref (b + 0)), (1, .int x1)] → W p l e (headSpec (Cond.code yL_walks cL_walks 2 (some .boolean) :: ALL) ({ frames := 13, cells := 15647, slots := 105658, locals := 256 })).room s m (([] : List Value).toArray) below meth c H locs cl sl (MQ below (QN b (some (.int r))) (([] : List Value).toArray) s 15647 105658 (geC b)) (F0 m 235 ls []) := by
                                                      intro n
                                                      induction n with
                                                      | zero =>
                                                        intro τ x1 cl sl ce se H locs ls res hf
                                                        rw [l_L_walks_235.eq_1] at hf
                                                        cases hf
                                                      | succ n ih_235 =>
                                                        intro τ x1 cl sl ce se H locs ls res hf hce hse hcm hsm kx kk hW hS hl
                                                        rw [l_L_walks_235.eq_2] at hf
                                                        refine lv_iload_n hx hb dL_walks_235 rfl (lv_at hl 1 rfl) ?_
                                                        refine lv_bipush (v := 6) hx hb dL_walks_236 (by decide) ?_
                                                        refine lv_icmp_ge (tgt := 282) hx hb dL_walks_238 (by decide) (fun h89 => ?_) (fun h89 => ?_)
                                                        · have hf := ifp h89 hf
                                                          cases hf
                                                          refine W.widen (k := ce) (n := se) (by omega) (by omega) ?_
                                                          exact kk _ rfl _ _ _ hW hS (lv_sub hl [0] rfl)
                                                        · have hf := ifn h89 hf
                                                          refine lv_aload_n hx hb dL_walks_241 rfl (lv_at hl 0 rfl) ?_
                                                          refine lv_iconst (v := 0) hx hb dL_walks_242 (by decide) ?_
                                                          obtain ⟨y90, u91, hf⟩ := bn1_e hf
                                                          refine lVXn (n := 1) (As := [.int 0]) (rest := []) (c_X4_rainIn l hfl D t b τ 0 (.inr y90) u91) hx hb hml hown hts hE hsub hW hS q825 q826 q827 q34 q828 hy_X4_rainIn ⟨rfl, rfl⟩ ⟨Nat.le_of_ble_eq_true rfl, Nat.le_of_ble_eq_true rfl⟩ rfl rfl hl.1 (Nat.le_of_ble_eq_true rfl) ⟨show cl + 0 + 1 ≤ 15647 by omega, show sl + 0 + 6 ≤ 105658 by omega⟩ dL_walks_243 (fun H locs hW hS _ => ?_)
                                                          refine W.widen (k := cl + 1) (n := sl + 6) (by omega) (by omega) ?_
                                                          refine lv_if_ne (tgt := 274) hx hb dL_walks_246 (by decide) (fun h92 => ?_) (fun h92 => ?_)
                                                          · have hf := ifn h92 hf
                                                            refine lv_iconst (v := 0) hx hb dL_walks_274 (by decide) ?_
                                                            cases hf
                                                            have h9 := kx _ rfl
                                                            cases h9
                                                            refine W.widen (k := 15647) (n := 105658) (by omega) (by omega) ?_
                                                            exact W.zret (ty := .boolean) hx hb hr (by decide) (fun u hu _ => ⟨rfl, by rw [hu]; exact hS.1, fun q hq => by rw [hu]; exact hS.2.1 q (by omega) (Nat.not_le.mpr hq)⟩) hS.2.2 dL_walks_275
                                                          · have hf := ifp h92 hf
                                                            refine lv_aload_n hx hb dL_walks_249 rfl (lv_at hl 0 rfl) ?_
                                                            refine lv_iconst (v := 2) hx hb dL_walks_250 (by decide) ?_
                                                            obtain ⟨y93, u94, hf⟩ := bn1_e hf
                                                            refine lVXn (n := 1) (As := [.int 2]) (rest := []) (c_X4_rainIn l hfl D t b τ 2 (.inr y93) u94) hx hb hml hown hts hE hsub hW hS q825 q826 q827 q34 q828 hy_X4_rainIn ⟨rfl, rfl⟩ ⟨Nat.le_of_ble_eq_true rfl, Nat.le_of_ble_eq_true rfl⟩ rfl rfl hl.1 (Nat.le_of_ble_eq_true rfl) ⟨show cl + 1 + 1 ≤ 15647 by omega, show sl + 6 + 6 ≤ 105658 by omega⟩ dL_walks_251 (fun H locs hW hS _ => ?_)
                                                            refine W.widen (k := cl + 2) (n := sl + 12) (by omega) (by omega) ?_
                                                            refine lv_iconst (v := 4) hx hb dL_walks_254 (by decide) ?_
                                                            refine lv_icmp_ne (tgt := 274) hx hb dL_walks_255 (by decide) (fun h95 => ?_) (fun h95 => ?_)
                                                            · have hf := ifn h95 hf
                                                              refine lv_iconst (v := 0) hx hb dL_walks_274 (by decide) ?_
                                                              cases hf
                                                              have h9 := kx _ rfl
                                                              cases h9
                                                              refine W.widen (k := 15647) (n := 105658) (by omega) (by omega) ?_
                                                              exact W.zret (ty := .boolean) hx hb hr (by decide) (fun u hu _ => ⟨rfl, by rw [hu]; exact hS.1, fun q hq => by rw [hu]; exact hS.2.1 q (by omega) (Nat.not_le.mpr hq)⟩) hS.2.2 dL_walks_275
                                                            · have hf := ifp h95 hf
                                                              refine lv_aload_n hx hb dL_walks_258 rfl (lv_at hl 0 rfl) ?_
                                                              refine lv_bipush (v := 40) hx hb dL_walks_259 (by decide) ?_
                                                              obtain ⟨y96, σ98, u97, hf⟩ := bn2_e hf
                                                              refine lVXn (n := 1) (As := [.int 40]) (rest := []) (c_X4_pass l hfl D t b τ 40 (.inr (y96, σ98)) u97) hx hb hml hown hts hE hsub hW hS q616 q617 q618 q34 q619 hy_X4_pass ⟨rfl, rfl⟩ ⟨Nat.le_of_ble_eq_true rfl, Nat.le_of_ble_eq_true rfl⟩ rfl rfl hl.1 (Nat.le_of_ble_eq_true rfl) ⟨show cl + 2 + 1 ≤ 15647 by omega, show sl + 12 + 6 ≤ 105658 by omega⟩ dL_walks_261 (fun H locs hW hS _ => ?_)
                                                              refine W.widen (k := cl + 3) (n := sl + 18) (by omega) (by omega) ?_
                                                              refine lv_if_ne (tgt := 274) hx hb dL_walks_264 (by decide) (fun h99 => ?_) (fun h99 => ?_)
                                                              · have hf := ifn h99 hf
                                                                refine lv_iconst (v := 0) hx hb dL_walks_274 (by decide) ?_
                                                                cases hf
                                                                have h9 := kx _ rfl
                                                                cases h9
                                                                refine W.widen (k := 15647) (n := 105658) (by omega) (by omega) ?_
                                                                exact W.zret (ty := .boolean) hx hb hr (by decide) (fun u hu _ => ⟨rfl, by rw [hu]; exact hS.1, fun q hq => by rw [hu]; exact hS.2.1 q (by omega) (Nat.not_le.mpr hq)⟩) hS.2.2 dL_walks_275
                                                              · have hf := ifp h99 hf
                                                                refine lv_aload_n hx hb dL_walks_267 rfl (lv_at hl 0 rfl) ?_
                                                                obtain ⟨y100, u101, hf⟩ := b1_e hf
                                                                refine lV (n := 0) (As := []) (rest := []) (c_X4_atFair l D t b σ98 y100 u101) hx hb hml hown hts hE hsub hW hS q1051 q1052 q1053 q34 q1054 hy_X4_atFair ⟨rfl, rfl⟩ ⟨Nat.le_of_ble_eq_true rfl, Nat.le_of_ble_eq_true rfl⟩ rfl rfl hl.1 (Nat.le_of_ble_eq_true rfl) ⟨show cl + 3 ≤ 15647 by omega, show sl + 18 ≤ 105658 by omega⟩ dL_walks_268 (fun H locs hW hS _ => ?_)
                                                                refine lv_if_eq (tgt := 276) hx hb dL_walks_271 (by decide) (fun h102 => ?_) (fun h102 => ?_)
                                                                · have hf := ifp h102 hf
                                                                  refine lv_iinc (v := (x1 + 1)) (lv' := [(1, .int (x1 + 1)), (0, .ref (b + 0))]) hx hb dL_walks_276 hl (k := 1) rfl (by rfl) (by decide) rfl (fun ls hl => ?_)
                                                                  refine lv_goto (tgt := 235) hx hb dL_walks_279 (by decide) ?_
                                                                  refine W.widen (k := cl + 3) (n := sl + 18) (by omega) (by omega) ?_
                                                                  exact ih_235 σ98 (x1 + 1) (cl + 3) (sl + 18) ce se _ _ _ _ hf (by omega) (by omega) hcm hsm kx kk hW hS (lv_sub hl [1, 0] rfl)
                                                                · have hf := ifn h102 hf
                                                                  refine lv_iconst (v := 0) hx hb dL_walks_274 (by decide) ?_
                                                                  cases hf
                                                                  have h9 := kx _ rfl
                                                                  cases h9
                                                                  refine W.widen (k := 15647) (n := 105658) (by omega) (by omega) ?_
                                                                  exact W.zret (ty := .boolean) hx hb hr (by decide) (fun u hu _ => ⟨rfl, by rw [hu]; exact hS.1, fun q hq => by rw [hu]; exact hS.2.1 q (by omega) (Nat.not_le.mpr hq)⟩) hS.2.2 dL_walks_275
                                                    refine key_235 6 σ78 1 (225) (13126) (243) (13234) _ _ _ res hl0 (by omega) (by omega) (show 243 ≤ 15647 by omega) (show 13234 ≤ 105658 by omega) (fun a h => hA a h) (fun q235 hq H locs ls hW hS hl => ?_) hW hS (lv_sub hl [1, 0] rfl)
                                                    have hf := hB _ hq
                                                    refine lv_aload_n hx hb dL_walks_282 rfl (lv_at hl 0 rfl) ?_
                                                    obtain ⟨y103, u104, hf⟩ := b1_e hf
                                                    refine lV (n := 0) (As := []) (rest := []) (c_X4_day l D t b q235 y103 u104) hx hb hml hown hts hE hsub hW hS q965 q966 q967 q34 q968 hy_X4_day ⟨rfl, rfl⟩ ⟨Nat.le_of_ble_eq_true rfl, Nat.le_of_ble_eq_true rfl⟩ rfl rfl hl.1 (Nat.le_of_ble_eq_true rfl) ⟨show 243 ≤ 15647 by omega, show 13234 ≤ 105658 by omega⟩ dL_walks_283 (fun H locs hW hS _ => ?_)
                                                    refine lv_bipush (v := 6) hx hb dL_walks_286 (by decide) ?_
                                                    refine lv_icmp_ne (tgt := 523) hx hb dL_walks_288 (by decide) (fun h105 => ?_) (fun h105 => ?_)
                                                    · have hf := ifn h105 hf
                                                      refine lv_iconst (v := 0) hx hb dL_walks_523 (by decide) ?_
                                                      cases hf
                                                      refine W.widen (k := 15647) (n := 105658) (by omega) (by omega) ?_
                                                      exact W.zret (ty := .boolean) hx hb hr (by decide) (fun u hu _ => ⟨rfl, by rw [hu]; exact hS.1, fun q hq => by rw [hu]; exact hS.2.1 q (by omega) (Nat.not_le.mpr hq)⟩) hS.2.2 dL_walks_524
                                                    · have hf := ifp h105 hf
                                                      refine lv_aload_n hx hb dL_walks_291 rfl (lv_at hl 0 rfl) ?_
                                                      refine lv_iconst (v := 0) hx hb dL_walks_292 (by decide) ?_
                                                      obtain ⟨y106, u107, hf⟩ := bn1_e hf
                                                      refine lVXn (n := 1) (As := [.int 0]) (rest := []) (c_X4_rainIn l hfl D t b q235 0 (.inr y106) u107) hx hb hml hown hts hE hsub hW hS q825 q826 q827 q34 q828 hy_X4_rainIn ⟨rfl, rfl⟩ ⟨Nat.le_of_ble_eq_true rfl, Nat.le_of_ble_eq_true rfl⟩ rfl rfl hl.1 (Nat.le_of_ble_eq_true rfl) ⟨show 243 + 1 ≤ 15647 by omega, show 13234 + 6 ≤ 105658 by omega⟩ dL_walks_293 (fun H locs hW hS _ => ?_)
                                                      refine W.widen (k := 244) (n := 13240) (by omega) (by omega) ?_
                                                      refine lv_iconst (v := 4) hx hb dL_walks_296 (by decide) ?_
                                                      refine lv_icmp_ne (tgt := 523) hx hb dL_walks_297 (by decide) (fun h108 => ?_) (fun h108 => ?_)
                                                      · have hf := ifn h108 hf
                                                        refine lv_iconst (v := 0) hx hb dL_walks_523 (by decide) ?_
                                                        cases hf
                                                        refine W.widen (k := 15647) (n := 105658) (by omega) (by omega) ?_
                                                        exact W.zret (ty := .boolean) hx hb hr (by decide) (fun u hu _ => ⟨rfl, by rw [hu]; exact hS.1, fun q hq => by rw [hu]; exact hS.2.1 q (by omega) (Nat.not_le.mpr hq)⟩) hS.2.2 dL_walks_524
                                                      · have hf := ifp h108 hf
                                                        refine lv_aload_n hx hb dL_walks_300 rfl (lv_at hl 0 rfl) ?_
                                                        refine lv_iconst (v := 2) hx hb dL_walks_301 (by decide) ?_
                                                        obtain ⟨y109, u110, hf⟩ := bn1_e hf
                                                        refine lVXn (n := 1) (As := [.int 2]) (rest := []) (c_X4_rainIn l hfl D t b q235 2 (.inr y109) u110) hx hb hml hown hts hE hsub hW hS q825 q826 q827 q34 q828 hy_X4_rainIn ⟨rfl, rfl⟩ ⟨Nat.le_of_ble_eq_true rfl, Nat.le_of_ble_eq_true rfl⟩ rfl rfl hl.1 (Nat.le_of_ble_eq_true rfl) ⟨show 244 + 1 ≤ 15647 by omega, show 13240 + 6 ≤ 105658 by omega⟩ dL_walks_302 (fun H locs hW hS _ => ?_)
                                                        refine W.widen (k := 245) (n := 13246) (by omega) (by omega) ?_
                                                        refine lv_bipush (v := 8) hx hb dL_walks_305 (by decide) ?_
                                                        refine lv_icmp_ne (tgt := 523) hx hb dL_walks_307 (by decide) (fun h111 => ?_) (fun h111 => ?_)
                                                        · have hf := ifn h111 hf
                                                          refine lv_iconst (v := 0) hx hb dL_walks_523 (by decide) ?_
                                                          cases hf
                                                          refine W.widen (k := 15647) (n := 105658) (by omega) (by omega) ?_
                                                          exact W.zret (ty := .boolean) hx hb hr (by decide) (fun u hu _ => ⟨rfl, by rw [hu]; exact hS.1, fun q hq => by rw [hu]; exact hS.2.1 q (by omega) (Nat.not_le.mpr hq)⟩) hS.2.2 dL_walks_524
                                                        · have hf := ifp h111 hf
                                                          refine lv_aload_n hx hb dL_walks_310 rfl (lv_at hl 0 rfl) ?_
                                                          refine lv_iconst (v := 3) hx hb dL_walks_311 (by decide) ?_
                                                          obtain ⟨y112, u113, hf⟩ := bn1_e hf
                                                          refine lVXn (n := 1) (As := [.int 3]) (rest := []) (c_X4_rainIn l hfl D t b q235 3 (.inr y112) u113) hx hb hml hown hts hE hsub hW hS q825 q826 q827 q34 q828 hy_X4_rainIn ⟨rfl, rfl⟩ ⟨Nat.le_of_ble_eq_true rfl, Nat.le_of_ble_eq_true rfl⟩ rfl rfl hl.1 (Nat.le_of_ble_eq_true rfl) ⟨show 245 + 1 ≤ 15647 by omega, show 13246 + 6 ≤ 105658 by omega⟩ dL_walks_312 (fun H locs hW hS _ => ?_)
                                                          refine W.widen (k := 246) (n := 13252) (by omega) (by omega) ?_
                                                          refine lv_iconst (v := 5) hx hb dL_walks_315 (by decide) ?_
                                                          refine lv_icmp_ne (tgt := 523) hx hb dL_walks_316 (by decide) (fun h114 => ?_) (fun h114 => ?_)
                                                          · have hf := ifn h114 hf
                                                            refine lv_iconst (v := 0) hx hb dL_walks_523 (by decide) ?_
                                                            cases hf
                                                            refine W.widen (k := 15647) (n := 105658) (by omega) (by omega) ?_
                                                            exact W.zret (ty := .boolean) hx hb hr (by decide) (fun u hu _ => ⟨rfl, by rw [hu]; exact hS.1, fun q hq => by rw [hu]; exact hS.2.1 q (by omega) (Nat.not_le.mpr hq)⟩) hS.2.2 dL_walks_524
                                                          · have hf := ifp h114 hf
                                                            refine lv_aload_n hx hb dL_walks_319 rfl (lv_at hl 0 rfl) ?_
                                                            refine lv_iconst (v := 1) hx hb dL_walks_320 (by decide) ?_
                                                            refine lv_bipush (v := 9) hx hb dL_walks_321 (by decide) ?_
                                                            obtain ⟨y115, σ117, u116, hf⟩ := bn2_e hf
                                                            refine lVXn (n := 2) (As := [.int 1, .int 9]) (rest := []) (c_X4_setRain l hfl D t b q235 1 9 (.inr (y115, σ117)) u116) hx hb hml hown hts hE hsub hW hS q606 q607 q608 q34 q609 hy_X4_setRain ⟨rfl, rfl⟩ ⟨Nat.le_of_ble_eq_true rfl, Nat.le_of_ble_eq_true rfl⟩ rfl rfl hl.1 (Nat.le_of_ble_eq_true rfl) ⟨show 246 + 2 ≤ 15647 by omega, show 13252 + 12 ≤ 105658 by omega⟩ dL_walks_323 (fun H locs hW hS _ => ?_)
                                                            refine W.widen (k := 248) (n := 13264) (by omega) (by omega) ?_
                                                            refine lv_if_ne (tgt := 523) hx hb dL_walks_326 (by decide) (fun h118 => ?_) (fun h118 => ?_)
                                                            · have hf := ifn h118 hf
                                                              refine lv_iconst (v := 0) hx hb dL_walks_523 (by decide) ?_
                                                              cases hf
                                                              refine W.widen (k := 15647) (n := 105658) (by omega) (by omega) ?_
                                                              exact W.zret (ty := .boolean) hx hb hr (by decide) (fun u hu _ => ⟨rfl, by rw [hu]; exact hS.1, fun q hq => by rw [hu]; exact hS.2.1 q (by omega) (Nat.not_le.mpr hq)⟩) hS.2.2 dL_walks_524
                                                            · have hf := ifp h118 hf
                                                              refine lv_aload_n hx hb dL_walks_329 rfl (lv_at hl 0 rfl) ?_
                                                              refine lv_iconst (v := 1) hx hb dL_walks_330 (by decide) ?_
                                                              obtain ⟨y119, u120, hf⟩ := bn1_e hf
                                                              refine lVXn (n := 1) (As := [.int 1]) (rest := []) (c_X4_rainIn l hfl D t b σ117 1 (.inr y119) u120) hx hb hml hown hts hE hsub hW hS q825 q826 q827 q34 q828 hy_X4_rainIn ⟨rfl, rfl⟩ ⟨Nat.le_of_ble_eq_true rfl, Nat.le_of_ble_eq_true rfl⟩ rfl rfl hl.1 (Nat.le_of_ble_eq_true rfl) ⟨show 248 + 1 ≤ 15647 by omega, show 13264 + 6 ≤ 105658 by omega⟩ dL_walks_331 (fun H locs hW hS _ => ?_)
                                                              refine W.widen (k := 249) (n := 13270) (by omega) (by omega) ?_
                                                              refine lv_bipush (v := 9) hx hb dL_walks_334 (by decide) ?_
                                                              refine lv_icmp_ne (tgt := 523) hx hb dL_walks_336 (by decide) (fun h121 => ?_) (fun h121 => ?_)
                                                              · have hf := ifn h121 hf
                                                                refine lv_iconst (v := 0) hx hb dL_walks_523 (by decide) ?_
                                                                cases hf
                                                                refine W.widen (k := 15647) (n := 105658) (by omega) (by omega) ?_
                                                                exact W.zret (ty := .boolean) hx hb hr (by decide) (fun u hu _ => ⟨rfl, by rw [hu]; exact hS.1, fun q hq => by rw [hu]; exact hS.2.1 q (by omega) (Nat.not_le.mpr hq)⟩) hS.2.2 dL_walks_524
                                                              · have hf := ifp h121 hf
                                                                refine lv_aload_n hx hb dL_walks_339 rfl (lv_at hl 0 rfl) ?_
                                                                obtain ⟨y122, u123, hf⟩ := b1_e hf
                                                                refine lV (n := 0) (As := []) (rest := []) (c_X4_isChildDue l D t b σ117 y122 u123) hx hb hml hown hts hE hsub hW hS q1018 q1019 q1020 q34 q1021 hy_X4_isChildDue ⟨rfl, rfl⟩ ⟨Nat.le_of_ble_eq_true rfl, Nat.le_of_ble_eq_true rfl⟩ rfl rfl hl.1 (Nat.le_of_ble_eq_true rfl) ⟨show 249 ≤ 15647 by omega, show 13270 ≤ 105658 by omega⟩ dL_walks_340 (fun H locs hW hS _ => ?_)
                                                                refine lv_if_eq (tgt := 523) hx hb dL_walks_343 (by decide) (fun h124 => ?_) (fun h124 => ?_)
                                                                · have hf := ifp h124 hf
                                                                  refine lv_iconst (v := 0) hx hb dL_walks_523 (by decide) ?_
                                                                  cases hf
                                                                  refine W.widen (k := 15647) (n := 105658) (by omega) (by omega) ?_
                                                                  exact W.zret (ty := .boolean) hx hb hr (by decide) (fun u hu _ => ⟨rfl, by rw [hu]; exact hS.1, fun q hq => by rw [hu]; exact hS.2.1 q (by omega) (Nat.not_le.mpr hq)⟩) hS.2.2 dL_walks_524
                                                                · have hf := ifn h124 hf
                                                                  refine lv_aload_n hx hb dL_walks_346 rfl (lv_at hl 0 rfl) ?_
                                                                  obtain ⟨y125, u126, hf⟩ := b1_e hf
                                                                  refine lV (n := 0) (As := []) (rest := []) (c_X4_children l D t b σ117 y125 u126) hx hb hml hown hts hE hsub hW hS q977 q978 q979 q34 q980 hy_X4_children ⟨rfl, rfl⟩ ⟨Nat.le_of_ble_eq_true rfl, Nat.le_of_ble_eq_true rfl⟩ rfl rfl hl.1 (Nat.le_of_ble_eq_true rfl) ⟨show 249 ≤ 15647 by omega, show 13270 ≤ 105658 by omega⟩ dL_walks_347 (fun H locs hW hS _ => ?_)
                                                                  refine lv_bipush (v := 54) hx hb dL_walks_350 (by decide) ?_
                                                                  refine lv_icmp_ne (tgt := 523) hx hb dL_walks_352 (by decide) (fun h127 => ?_) (fun h127 => ?_)
                                                                  · have hf := ifn h127 hf
                                                                    refine lv_iconst (v := 0) hx hb dL_walks_523 (by decide) ?_
                                                                    cases hf
                                                                    refine W.widen (k := 15647) (n := 105658) (by omega) (by omega) ?_
                                                                    exact W.zret (ty := .boolean) hx hb hr (by decide) (fun u hu _ => ⟨rfl, by rw [hu]; exact hS.1, fun q hq => by rw [hu]; exact hS.2.1 q (by omega) (Nat.not_le.mpr hq)⟩) hS.2.2 dL_walks_524
                                                                  · have hf := ifp h127 hf
                                                                    refine lv_aload_n hx hb dL_walks_355 rfl (lv_at hl 0 rfl) ?_
                                                                    refine lv_iconst (v := 1) hx hb dL_walks_356 (by decide) ?_
                                                                    obtain ⟨y128, σ130, u129, hf⟩ := bn2_e hf
                                                                    refine lVXn (n := 1) (As := [.int 1]) (rest := []) (c_X4_pass l hfl D t b σ117 1 (.inr (y128, σ130)) u129) hx hb hml hown hts hE hsub hW hS q616 q617 q618 q34 q619 hy_X4_pass ⟨rfl, rfl⟩ ⟨Nat.le_of_ble_eq_true rfl, Nat.le_of_ble_eq_true rfl⟩ rfl rfl hl.1 (Nat.le_of_ble_eq_true rfl) ⟨show 249 + 1 ≤ 15647 by omega, show 13270 + 6 ≤ 105658 by omega⟩ dL_walks_357 (fun H locs hW hS _ => ?_)
                                                                    refine W.widen (k := 250) (n := 13276) (by omega) (by omega) ?_
                                                                    refine lv_if_ne (tgt := 523) hx hb dL_walks_360 (by decide) (fun h131 => ?_) (fun h131 => ?_)
                                                                    · have hf := ifn h131 hf
                                                                      refine lv_iconst (v := 0) hx hb dL_walks_523 (by decide) ?_
                                                                      cases hf
                                                                      refine W.widen (k := 15647) (n := 105658) (by omega) (by omega) ?_
                                                                      exact W.zret (ty := .boolean) hx hb hr (by decide) (fun u hu _ => ⟨rfl, by rw [hu]; exact hS.1, fun q hq => by rw [hu]; exact hS.2.1 q (by omega) (Nat.not_le.mpr hq)⟩) hS.2.2 dL_walks_524
                                                                    · have hf := ifp h131 hf
                                                                      refine lv_aload_n hx hb dL_walks_363 rfl (lv_at hl 0 rfl) ?_
                                                                      obtain ⟨y132, u133, hf⟩ := b1_e hf
                                                                      refine lV (n := 0) (As := []) (rest := []) (c_X4_children l D t b σ130 y132 u133) hx hb hml hown hts hE hsub hW hS q977 q978 q979 q34 q980 hy_X4_children ⟨rfl, rfl⟩ ⟨Nat.le_of_ble_eq_true rfl, Nat.le_of_ble_eq_true rfl⟩ rfl rfl hl.1 (Nat.le_of_ble_eq_true rfl) ⟨show 250 ≤ 15647 by omega, show 13276 ≤ 105658 by omega⟩ dL_walks_364 (fun H locs hW hS _ => ?_)
                                                                      refine lv_bipush (v := 55) hx hb dL_walks_367 (by decide) ?_
                                                                      refine lv_icmp_ne (tgt := 523) hx hb dL_walks_369 (by decide) (fun h134 => ?_) (fun h134 => ?_)
                                                                      · have hf := ifn h134 hf
                                                                        refine lv_iconst (v := 0) hx hb dL_walks_523 (by decide) ?_
                                                                        cases hf
                                                                        refine W.widen (k := 15647) (n := 105658) (by omega) (by omega) ?_
                                                                        exact W.zret (ty := .boolean) hx hb hr (by decide) (fun u hu _ => ⟨rfl, by rw [hu]; exact hS.1, fun q hq => by rw [hu]; exact hS.2.1 q (by omega) (Nat.not_le.mpr hq)⟩) hS.2.2 dL_walks_524
                                                                      · have hf := ifp h134 hf
                                                                        refine lv_aload_n hx hb dL_walks_372 rfl (lv_at hl 0 rfl) ?_
                                                                        refine lv_bipush (v := 54) hx hb dL_walks_373 (by decide) ?_
                                                                        refine lv_bipush (v := 8) hx hb dL_walks_375 (by decide) ?_
                                                                        refine lv_bipush (v := 58) hx hb dL_walks_377 (by decide) ?_
                                                                        refine lv_iconst (v := 1) hx hb dL_walks_379 (by decide) ?_
                                                                        refine lv_iconst (v := 0) hx hb dL_walks_380 (by decide) ?_
                                                                        refine lv_iconst (v := 2) hx hb dL_walks_381 (by decide) ?_
                                                                        obtain ⟨y135, σ137, u136, hf⟩ := b2_e hf
                                                                        refine lS (n := 7) (As := [.ref (b + 0), .int 54, .int 8, .int 58, .int 1, .int 0, .int 2]) (rest := []) (c_L_is l hfl D t b σ130 54 8 58 1 0 2 y135 σ137 u136) hx hb hml hown hts hE hsub hW hS q1030 q1031 q33  q1032 hs_L_is ⟨rfl, rfl⟩ ⟨Nat.le_of_ble_eq_true rfl, Nat.le_of_ble_eq_true rfl⟩ rfl rfl hl.1 (Nat.le_of_ble_eq_true rfl) ⟨show 250 + 6 ≤ 15647 by omega, show 13276 + 36 ≤ 105658 by omega⟩ dL_walks_382 (fun H locs hW hS _ => ?_)
                                                                        refine W.widen (k := 256) (n := 13312) (by omega) (by omega) ?_
                                                                        refine lv_if_eq (tgt := 523) hx hb dL_walks_385 (by decide) (fun h138 => ?_) (fun h138 => ?_)
                                                                        · have hf := ifp h138 hf
                                                                          refine lv_iconst (v := 0) hx hb dL_walks_523 (by decide) ?_
                                                                          cases hf
                                                                          refine W.widen (k := 15647) (n := 105658) (by omega) (by omega) ?_
                                                                          exact W.zret (ty := .boolean) hx hb hr (by decide) (fun u hu _ => ⟨rfl, by rw [hu]; exact hS.1, fun q hq => by rw [hu]; exact hS.2.1 q (by omega) (Nat.not_le.mpr hq)⟩) hS.2.2 dL_walks_524
                                                                        · have hf := ifn h138 hf
                                                                          refine lv_aload_n hx hb dL_walks_388 rfl (lv_at hl 0 rfl) ?_
                                                                          refine lv_iconst (v := 0) hx hb dL_walks_389 (by decide) ?_
                                                                          refine lv_bipush (v := 9) hx hb dL_walks_390 (by decide) ?_
                                                                          obtain ⟨y139, σ141, u140, hf⟩ := bn2_e hf
                                                                          refine lVXn (n := 2) (As := [.int 0, .int 9]) (rest := []) (c_X4_setRain l hfl D t b σ137 0 9 (.inr (y139, σ141)) u140) hx hb hml hown hts hE hsub hW hS q606 q607 q608 q34 q609 hy_X4_setRain ⟨rfl, rfl⟩ ⟨Nat.le_of_ble_eq_true rfl, Nat.le_of_ble_eq_true rfl⟩ rfl rfl hl.1 (Nat.le_of_ble_eq_true rfl) ⟨show 256 + 2 ≤ 15647 by omega, show 13312 + 12 ≤ 105658 by omega⟩ dL_walks_392 (fun H locs hW hS _ => ?_)
                                                                          refine W.widen (k := 258) (n := 13324) (by omega) (by omega) ?_
                                                                          refine lv_if_ne (tgt := 523) hx hb dL_walks_395 (by decide) (fun h142 => ?_) (fun h142 => ?_)
                                                                          · have hf := ifn h142 hf
                                                                            refine lv_iconst (v := 0) hx hb dL_walks_523 (by decide) ?_
                                                                            cases hf
                                                                            refine W.widen (k := 15647) (n := 105658) (by omega) (by omega) ?_
                                                                            exact W.zret (ty := .boolean) hx hb hr (by decide) (fun u hu _ => ⟨rfl, by rw [hu]; exact hS.1, fun q hq => by rw [hu]; exact hS.2.1 q (by omega) (Nat.not_le.mpr hq)⟩) hS.2.2 dL_walks_524
                                                                          · have hf := ifp h142 hf
                                                                            refine lv_aload_n hx hb dL_walks_398 rfl (lv_at hl 0 rfl) ?_
                                                                            refine lv_iconst (v := 3) hx hb dL_walks_399 (by decide) ?_
                                                                            obtain ⟨y143, σ145, u144, hf⟩ := bn2_e hf
                                                                            refine lVXn (n := 1) (As := [.int 3]) (rest := []) (c_X4_pass l hfl D t b σ141 3 (.inr (y143, σ145)) u144) hx hb hml hown hts hE hsub hW hS q616 q617 q618 q34 q619 hy_X4_pass ⟨rfl, rfl⟩ ⟨Nat.le_of_ble_eq_true rfl, Nat.le_of_ble_eq_true rfl⟩ rfl rfl hl.1 (Nat.le_of_ble_eq_true rfl) ⟨show 258 + 1 ≤ 15647 by omega, show 13324 + 6 ≤ 105658 by omega⟩ dL_walks_400 (fun H locs hW hS _ => ?_)
                                                                            refine W.widen (k := 259) (n := 13330) (by omega) (by omega) ?_
                                                                            refine lv_if_ne (tgt := 523) hx hb dL_walks_403 (by decide) (fun h146 => ?_) (fun h146 => ?_)
                                                                            · have hf := ifn h146 hf
                                                                              refine lv_iconst (v := 0) hx hb dL_walks_523 (by decide) ?_
                                                                              cases hf
                                                                              refine W.widen (k := 15647) (n := 105658) (by omega) (by omega) ?_
                                                                              exact W.zret (ty := .boolean) hx hb hr (by decide) (fun u hu _ => ⟨rfl, by rw [hu]; exact hS.1, fun q hq => by rw [hu]; exact hS.2.1 q (by omega) (Nat.not_le.mpr hq)⟩) hS.2.2 dL_walks_524
                                                                            · have hf := ifp h146 hf
                                                                              refine lv_aload_n hx hb dL_walks_406 rfl (lv_at hl 0 rfl) ?_
                                                                              refine lv_bipush (v := 54) hx hb dL_walks_407 (by decide) ?_
                                                                              obtain ⟨y147, u148, hf⟩ := bn1_e hf
                                                                              refine lVXn (n := 1) (As := [.int 54]) (rest := []) (c_X4_moodOf l hfl D t b σ145 54 (.inr y147) u148) hx hb hml hown hts hE hsub hW hS q779 q780 q781 q34 q782 hy_X4_moodOf ⟨rfl, rfl⟩ ⟨Nat.le_of_ble_eq_true rfl, Nat.le_of_ble_eq_true rfl⟩ rfl rfl hl.1 (Nat.le_of_ble_eq_true rfl) ⟨show 259 + 1 ≤ 15647 by omega, show 13330 + 6 ≤ 105658 by omega⟩ dL_walks_409 (fun H locs hW hS _ => ?_)
                                                                              refine W.widen (k := 260) (n := 13336) (by omega) (by omega) ?_
                                                                              refine lv_bipush (v := 46) hx hb dL_walks_412 (by decide) ?_
                                                                              refine lv_icmp_ne (tgt := 523) hx hb dL_walks_414 (by decide) (fun h149 => ?_) (fun h149 => ?_)
                                                                              · have hf := ifn h149 hf
                                                                                refine lv_iconst (v := 0) hx hb dL_walks_523 (by decide) ?_
                                                                                cases hf
                                                                                refine W.widen (k := 15647) (n := 105658) (by omega) (by omega) ?_
                                                                                exact W.zret (ty := .boolean) hx hb hr (by decide) (fun u hu _ => ⟨rfl, by rw [hu]; exact hS.1, fun q hq => by rw [hu]; exact hS.2.1 q (by omega) (Nat.not_le.mpr hq)⟩) hS.2.2 dL_walks_524
                                                                              · have hf := ifp h149 hf
                                                                                refine lv_aload_n hx hb dL_walks_417 rfl (lv_at hl 0 rfl) ?_
                                                                                refine lv_iconst (v := 4) hx hb dL_walks_418 (by decide) ?_
                                                                                obtain ⟨y150, σ152, u151, hf⟩ := bn2_e hf
                                                                                refine lVXn (n := 1) (As := [.int 4]) (rest := []) (c_X4_pass l hfl D t b σ145 4 (.inr (y150, σ152)) u151) hx hb hml hown hts hE hsub hW hS q616 q617 q618 q34 q619 hy_X4_pass ⟨rfl, rfl⟩ ⟨Nat.le_of_ble_eq_true rfl, Nat.le_of_ble_eq_true rfl⟩ rfl rfl hl.1 (Nat.le_of_ble_eq_true rfl) ⟨show 260 + 1 ≤ 15647 by omega, show 13336 + 6 ≤ 105658 by omega⟩ dL_walks_419 (fun H locs hW hS _ => ?_)
                                                                                refine W.widen (k := 261) (n := 13342) (by omega) (by omega) ?_
                                                                                refine lv_if_ne (tgt := 523) hx hb dL_walks_422 (by decide) (fun h153 => ?_) (fun h153 => ?_)
                                                                                · have hf := ifn h153 hf
                                                                                  refine lv_iconst (v := 0) hx hb dL_walks_523 (by decide) ?_
                                                                                  cases hf
                                                                                  refine W.widen (k := 15647) (n := 105658) (by omega) (by omega) ?_
                                                                                  exact W.zret (ty := .boolean) hx hb hr (by decide) (fun u hu _ => ⟨rfl, by rw [hu]; exact hS.1, fun q hq => by rw [hu]; exact hS.2.1 q (by omega) (Nat.not_le.mpr hq)⟩) hS.2.2 dL_walks_524
                                                                                · have hf := ifp h153 hf
                                                                                  refine lv_aload_n hx hb dL_walks_425 rfl (lv_at hl 0 rfl) ?_
                                                                                  refine lv_bipush (v := 54) hx hb dL_walks_426 (by decide) ?_
                                                                                  obtain ⟨y154, u155, hf⟩ := bn1_e hf
                                                                                  refine lVXn (n := 1) (As := [.int 54]) (rest := []) (c_X4_moodOf l hfl D t b σ152 54 (.inr y154) u155) hx hb hml hown hts hE hsub hW hS q779 q780 q781 q34 q782 hy_X4_moodOf ⟨rfl, rfl⟩ ⟨Nat.le_of_ble_eq_true rfl, Nat.le_of_ble_eq_true rfl⟩ rfl rfl hl.1 (Nat.le_of_ble_eq_true rfl) ⟨show 261 + 1 ≤ 15647 by omega, show 13342 + 6 ≤ 105658 by omega⟩ dL_walks_428 (fun H locs hW hS _ => ?_)
                                                                                  refine W.widen (k := 262) (n := 13348) (by omega) (by omega) ?_
                                                                                  refine lv_bipush (v := 30) hx hb dL_walks_431 (by decide) ?_
                                                                                  refine lv_icmp_ne (tgt := 523) hx hb dL_walks_433 (by decide) (fun h156 => ?_) (fun h156 => ?_)
                                                                                  · have hf := ifn h156 hf
                                                                                    refine lv_iconst (v := 0) hx hb dL_walks_523 (by decide) ?_
                                                                                    cases hf
                                                                                    refine W.widen (k := 15647) (n := 105658) (by omega) (by omega) ?_
                                                                                    exact W.zret (ty := .boolean) hx hb hr (by decide) (fun u hu _ => ⟨rfl, by rw [hu]; exact hS.1, fun q hq => by rw [hu]; exact hS.2.1 q (by omega) (Nat.not_le.mpr hq)⟩) hS.2.2 dL_walks_524
                                                                                  · have hf := ifp h156 hf
                                                                                    refine lv_aload_n hx hb dL_walks_436 rfl (lv_at hl 0 rfl) ?_
                                                                                    refine lv_iconst (v := 2) hx hb dL_walks_437 (by decide) ?_
                                                                                    refine lv_bipush (v := 9) hx hb dL_walks_438 (by decide) ?_
                                                                                    obtain ⟨y157, σ159, u158, hf⟩ := bn2_e hf
                                                                                    refine lVXn (n := 2) (As := [.int 2, .int 9]) (rest := []) (c_X4_setRain l hfl D t b σ152 2 9 (.inr (y157, σ159)) u158) hx hb hml hown hts hE hsub hW hS q606 q607 q608 q34 q609 hy_X4_setRain ⟨rfl, rfl⟩ ⟨Nat.le_of_ble_eq_true rfl, Nat.le_of_ble_eq_true rfl⟩ rfl rfl hl.1 (Nat.le_of_ble_eq_true rfl) ⟨show 262 + 2 ≤ 15647 by omega, show 13348 + 12 ≤ 105658 by omega⟩ dL_walks_440 (fun H locs hW hS _ => ?_)
                                                                                    refine W.widen (k := 264) (n := 13360) (by omega) (by omega) ?_
                                                                                    refine lv_iconst (v := 4) hx hb dL_walks_443 (by decide) ?_
                                                                                    refine lv_icmp_ne (tgt := 523) hx hb dL_walks_444 (by decide) (fun h160 => ?_) (fun h160 => ?_)
                                                                                    · have hf := ifn h160 hf
                                                                                      refine lv_iconst (v := 0) hx hb dL_walks_523 (by decide) ?_
                                                                                      cases hf
                                                                                      refine W.widen (k := 15647) (n := 105658) (by omega) (by omega) ?_
                                                                                      exact W.zret (ty := .boolean) hx hb hr (by decide) (fun u hu _ => ⟨rfl, by rw [hu]; exact hS.1, fun q hq => by rw [hu]; exact hS.2.1 q (by omega) (Nat.not_le.mpr hq)⟩) hS.2.2 dL_walks_524
                                                                                    · have hf := ifp h160 hf
                                                                                      refine lv_aload_n hx hb dL_walks_447 rfl (lv_at hl 0 rfl) ?_
                                                                                      refine lv_iconst (v := 3) hx hb dL_walks_448 (by decide) ?_
                                                                                      refine lv_bipush (v := 9) hx hb dL_walks_449 (by decide) ?_
                                                                                      obtain ⟨y161, σ163, u162, hf⟩ := bn2_e hf
                                                                                      refine lVXn (n := 2) (As := [.int 3, .int 9]) (rest := []) (c_X4_setRain l hfl D t b σ159 3 9 (.inr (y161, σ163)) u162) hx hb hml hown hts hE hsub hW hS q606 q607 q608 q34 q609 hy_X4_setRain ⟨rfl, rfl⟩ ⟨Nat.le_of_ble_eq_true rfl, Nat.le_of_ble_eq_true rfl⟩ rfl rfl hl.1 (Nat.le_of_ble_eq_true rfl) ⟨show 264 + 2 ≤ 15647 by omega, show 13360 + 12 ≤ 105658 by omega⟩ dL_walks_451 (fun H locs hW hS _ => ?_)
                                                                                      refine W.widen (k := 266) (n := 13372) (by omega) (by omega) ?_
                                                                                      refine lv_iconst (v := 1) hx hb dL_walks_454 (by decide) ?_
                                                                                      refine lv_icmp_ne (tgt := 523) hx hb dL_walks_455 (by decide) (fun h164 => ?_) (fun h164 => ?_)
                                                                                      · have hf := ifn h164 hf
                                                                                        refine lv_iconst (v := 0) hx hb dL_walks_523 (by decide) ?_
                                                                                        cases hf
                                                                                        refine W.widen (k := 15647) (n := 105658) (by omega) (by omega) ?_
                                                                                        exact W.zret (ty := .boolean) hx hb hr (by decide) (fun u hu _ => ⟨rfl, by rw [hu]; exact hS.1, fun q hq => by rw [hu]; exact hS.2.1 q (by omega) (Nat.not_le.mpr hq)⟩) hS.2.2 dL_walks_524
                                                                                      · have hf := ifp h164 hf
                                                                                        refine lv_aload_n hx hb dL_walks_458 rfl (lv_at hl 0 rfl) ?_
                                                                                        refine lv_bipush (v := 54) hx hb dL_walks_459 (by decide) ?_
                                                                                        obtain ⟨y165, σ167, u166, hf⟩ := bn2_e hf
                                                                                        refine lVXn (n := 1) (As := [.int 54]) (rest := []) (c_X4_homeIn l hfl D t b σ163 54 (.inr (y165, σ167)) u166) hx hb hml hown hts hE hsub hW hS q801 q802 q803 q34 q804 hy_X4_homeIn ⟨rfl, rfl⟩ ⟨Nat.le_of_ble_eq_true rfl, Nat.le_of_ble_eq_true rfl⟩ rfl rfl hl.1 (Nat.le_of_ble_eq_true rfl) ⟨show 266 + 1 ≤ 15647 by omega, show 13372 + 6 ≤ 105658 by omega⟩ dL_walks_461 (fun H locs hW hS _ => ?_)
                                                                                        refine W.widen (k := 267) (n := 13378) (by omega) (by omega) ?_
                                                                                        refine lv_bipush (v := 8) hx hb dL_walks_464 (by decide) ?_
                                                                                        refine lv_icmp_ne (tgt := 523) hx hb dL_walks_466 (by decide) (fun h168 => ?_) (fun h168 => ?_)
                                                                                        · have hf := ifn h168 hf
                                                                                          refine lv_iconst (v := 0) hx hb dL_walks_523 (by decide) ?_
                                                                                          cases hf
                                                                                          refine W.widen (k := 15647) (n := 105658) (by omega) (by omega) ?_
                                                                                          exact W.zret (ty := .boolean) hx hb hr (by decide) (fun u hu _ => ⟨rfl, by rw [hu]; exact hS.1, fun q hq => by rw [hu]; exact hS.2.1 q (by omega) (Nat.not_le.mpr hq)⟩) hS.2.2 dL_walks_524
                                                                                        · have hf := ifp h168 hf
                                                                                          refine lv_aload_n hx hb dL_walks_469 rfl (lv_at hl 0 rfl) ?_
                                                                                          refine lv_bipush (v := 7) hx hb dL_walks_470 (by decide) ?_
                                                                                          obtain ⟨y169, σ171, u170, hf⟩ := bn2_e hf
                                                                                          refine lVXn (n := 1) (As := [.int 7]) (rest := []) (c_X4_pass l hfl D t b σ167 7 (.inr (y169, σ171)) u170) hx hb hml hown hts hE hsub hW hS q616 q617 q618 q34 q619 hy_X4_pass ⟨rfl, rfl⟩ ⟨Nat.le_of_ble_eq_true rfl, Nat.le_of_ble_eq_true rfl⟩ rfl rfl hl.1 (Nat.le_of_ble_eq_true rfl) ⟨show 267 + 1 ≤ 15647 by omega, show 13378 + 6 ≤ 105658 by omega⟩ dL_walks_472 (fun H locs hW hS _ => ?_)
                                                                                          refine W.widen (k := 268) (n := 13384) (by omega) (by omega) ?_
                                                                                          refine lv_if_ne (tgt := 523) hx hb dL_walks_475 (by decide) (fun h172 => ?_) (fun h172 => ?_)
                                                                                          · have hf := ifn h172 hf
                                                                                            refine lv_iconst (v := 0) hx hb dL_walks_523 (by decide) ?_
                                                                                            cases hf
                                                                                            refine W.widen (k := 15647) (n := 105658) (by omega) (by omega) ?_
                                                                                            exact W.zret (ty := .boolean) hx hb hr (by decide) (fun u hu _ => ⟨rfl, by rw [hu]; exact hS.1, fun q hq => by rw [hu]; exact hS.2.1 q (by omega) (Nat.not_le.mpr hq)⟩) hS.2.2 dL_walks_524
                                                                                          · have hf := ifp h172 hf
                                                                                            refine lv_aload_n hx hb dL_walks_478 rfl (lv_at hl 0 rfl) ?_
                                                                                            refine lv_bipush (v := 54) hx hb dL_walks_479 (by decide) ?_
                                                                                            obtain ⟨y173, u174, hf⟩ := bn1_e hf
                                                                                            refine lVXn (n := 1) (As := [.int 54]) (rest := []) (c_X4_moodOf l hfl D t b σ171 54 (.inr y173) u174) hx hb hml hown hts hE hsub hW hS q779 q780 q781 q34 q782 hy_X4_moodOf ⟨rfl, rfl⟩ ⟨Nat.le_of_ble_eq_true rfl, Nat.le_of_ble_eq_true rfl⟩ rfl rfl hl.1 (Nat.le_of_ble_eq_true rfl) ⟨show 268 + 1 ≤ 15647 by omega, show 13384 + 6 ≤ 105658 by omega⟩ dL_walks_481 (fun H locs hW hS _ => ?_)
                                                                                            refine W.widen (k := 269) (n := 13390) (by omega) (by omega) ?_
                                                                                            refine lv_iconst (v := 2) hx hb dL_walks_484 (by decide) ?_
                                                                                            refine lv_icmp_ne (tgt := 523) hx hb dL_walks_485 (by decide) (fun h175 => ?_) (fun h175 => ?_)
                                                                                            · have hf := ifn h175 hf
                                                                                              refine lv_iconst (v := 0) hx hb dL_walks_523 (by decide) ?_
                                                                                              cases hf
                                                                                              refine W.widen (k := 15647) (n := 105658) (by omega) (by omega) ?_
                                                                                              exact W.zret (ty := .boolean) hx hb hr (by decide) (fun u hu _ => ⟨rfl, by rw [hu]; exact hS.1, fun q hq => by rw [hu]; exact hS.2.1 q (by omega) (Nat.not_le.mpr hq)⟩) hS.2.2 dL_walks_524
                                                                                            · have hf := ifp h175 hf
                                                                                              refine lv_aload_n hx hb dL_walks_488 rfl (lv_at hl 0 rfl) ?_
                                                                                              refine lv_bipush (v := 54) hx hb dL_walks_489 (by decide) ?_
                                                                                              obtain ⟨y176, u177, hf⟩ := bn1_e hf
                                                                                              refine lVXn (n := 1) (As := [.int 54]) (rest := []) (c_X4_isAtFair l hfl D t b σ171 54 (.inr y176) u177) hx hb hml hown hts hE hsub hW hS q766 q767 q768 q34 q769 hy_X4_isAtFair ⟨rfl, rfl⟩ ⟨Nat.le_of_ble_eq_true rfl, Nat.le_of_ble_eq_true rfl⟩ rfl rfl hl.1 (Nat.le_of_ble_eq_true rfl) ⟨show 269 + 1 ≤ 15647 by omega, show 13390 + 6 ≤ 105658 by omega⟩ dL_walks_491 (fun H locs hW hS _ => ?_)
                                                                                              refine W.widen (k := 270) (n := 13396) (by omega) (by omega) ?_
                                                                                              refine lv_if_eq (tgt := 523) hx hb dL_walks_494 (by decide) (fun h178 => ?_) (fun h178 => ?_)
                                                                                              · have hf := ifp h178 hf
                                                                                                refine lv_iconst (v := 0) hx hb dL_walks_523 (by decide) ?_
                                                                                                cases hf
                                                                                                refine W.widen (k := 15647) (n := 105658) (by omega) (by omega) ?_
                                                                                                exact W.zret (ty := .boolean) hx hb hr (by decide) (fun u hu _ => ⟨rfl, by rw [hu]; exact hS.1, fun q hq => by rw [hu]; exact hS.2.1 q (by omega) (Nat.not_le.mpr hq)⟩) hS.2.2 dL_walks_524
                                                                                              · have hf := ifn h178 hf
                                                                                                refine lv_aload_n hx hb dL_walks_497 rfl (lv_at hl 0 rfl) ?_
                                                                                                refine lv_iconst (v := 1) hx hb dL_walks_498 (by decide) ?_
                                                                                                obtain ⟨y179, σ181, u180, hf⟩ := bn2_e hf
                                                                                                refine lVXn (n := 1) (As := [.int 1]) (rest := []) (c_X4_pass l hfl D t b σ171 1 (.inr (y179, σ181)) u180) hx hb hml hown hts hE hsub hW hS q616 q617 q618 q34 q619 hy_X4_pass ⟨rfl, rfl⟩ ⟨Nat.le_of_ble_eq_true rfl, Nat.le_of_ble_eq_true rfl⟩ rfl rfl hl.1 (Nat.le_of_ble_eq_true rfl) ⟨show 270 + 1 ≤ 15647 by omega, show 13396 + 6 ≤ 105658 by omega⟩ dL_walks_499 (fun H locs hW hS _ => ?_)
                                                                                                refine W.widen (k := 271) (n := 13402) (by omega) (by omega) ?_
                                                                                                refine lv_if_ne (tgt := 523) hx hb dL_walks_502 (by decide) (fun h182 => ?_) (fun h182 => ?_)
                                                                                                · have hf := ifn h182 hf
                                                                                                  refine lv_iconst (v := 0) hx hb dL_walks_523 (by decide) ?_
                                                                                                  cases hf
                                                                                                  refine W.widen (k := 15647) (n := 105658) (by omega) (by omega) ?_
                                                                                                  exact W.zret (ty := .boolean) hx hb hr (by decide) (fun u hu _ => ⟨rfl, by rw [hu]; exact hS.1, fun q hq => by rw [hu]; exact hS.2.1 q (by omega) (Nat.not_le.mpr hq)⟩) hS.2.2 dL_walks_524
                                                                                                · have hf := ifp h182 hf
                                                                                                  refine lv_aload_n hx hb dL_walks_505 rfl (lv_at hl 0 rfl) ?_
                                                                                                  refine lv_bipush (v := 54) hx hb dL_walks_506 (by decide) ?_
                                                                                                  obtain ⟨y183, u184, hf⟩ := bn1_e hf
                                                                                                  refine lVXn (n := 1) (As := [.int 54]) (rest := []) (c_X4_moodOf l hfl D t b σ181 54 (.inr y183) u184) hx hb hml hown hts hE hsub hW hS q779 q780 q781 q34 q782 hy_X4_moodOf ⟨rfl, rfl⟩ ⟨Nat.le_of_ble_eq_true rfl, Nat.le_of_ble_eq_true rfl⟩ rfl rfl hl.1 (Nat.le_of_ble_eq_true rfl) ⟨show 271 + 1 ≤ 15647 by omega, show 13402 + 6 ≤ 105658 by omega⟩ dL_walks_508 (fun H locs hW hS _ => ?_)
                                                                                                  refine W.widen (k := 272) (n := 13408) (by omega) (by omega) ?_
                                                                                                  refine lv_if_ne (tgt := 523) hx hb dL_walks_511 (by decide) (fun h185 => ?_) (fun h185 => ?_)
                                                                                                  · have hf := ifn h185 hf
                                                                                                    refine lv_iconst (v := 0) hx hb dL_walks_523 (by decide) ?_
                                                                                                    cases hf
                                                                                                    refine W.widen (k := 15647) (n := 105658) (by omega) (by omega) ?_
                                                                                                    exact W.zret (ty := .boolean) hx hb hr (by decide) (fun u hu _ => ⟨rfl, by rw [hu]; exact hS.1, fun q hq => by rw [hu]; exact hS.2.1 q (by omega) (Nat.not_le.mpr hq)⟩) hS.2.2 dL_walks_524
                                                                                                  · have hf := ifp h185 hf
                                                                                                    refine lv_aload_n hx hb dL_walks_514 rfl (lv_at hl 0 rfl) ?_
                                                                                                    refine lv_bipush (v := 54) hx hb dL_walks_515 (by decide) ?_
                                                                                                    obtain ⟨y186, u187, hf⟩ := bn1_e hf
                                                                                                    refine lVXn (n := 1) (As := [.int 54]) (rest := []) (c_X4_isAtFair l hfl D t b σ181 54 (.inr y186) u187) hx hb hml hown hts hE hsub hW hS q766 q767 q768 q34 q769 hy_X4_isAtFair ⟨rfl, rfl⟩ ⟨Nat.le_of_ble_eq_true rfl, Nat.le_of_ble_eq_true rfl⟩ rfl rfl hl.1 (Nat.le_of_ble_eq_true rfl) ⟨show 272 + 1 ≤ 15647 by omega, show 13408 + 6 ≤ 105658 by omega⟩ dL_walks_517 (fun H locs hW hS _ => ?_)
                                                                                                    refine W.widen (k := 273) (n := 13414) (by omega) (by omega) ?_
                                                                                                    refine lv_if_eq (tgt := 525) hx hb dL_walks_520 (by decide) (fun h188 => ?_) (fun h188 => ?_)
                                                                                                    · have hf := ifp h188 hf
                                                                                                      refine lv_aload_n hx hb dL_walks_525 rfl (lv_at hl 0 rfl) ?_
                                                                                                      refine lv_bipush (v := 54) hx hb dL_walks_526 (by decide) ?_
                                                                                                      obtain ⟨y189, u190, hf⟩ := bn1_e hf
                                                                                                      refine lVXn (n := 1) (As := [.int 54]) (rest := []) (c_X4_isHomeward l hfl D t b σ181 54 (.inr y189) u190) hx hb hml hown hts hE hsub hW hS q787 q788 q789 q34 q790 hy_X4_isHomeward ⟨rfl, rfl⟩ ⟨Nat.le_of_ble_eq_true rfl, Nat.le_of_ble_eq_true rfl⟩ rfl rfl hl.1 (Nat.le_of_ble_eq_true rfl) ⟨show 273 + 1 ≤ 15647 by omega, show 13414 + 6 ≤ 105658 by omega⟩ dL_walks_528 (fun H locs hW hS _ => ?_)
                                                                                                      refine W.widen (k := 274) (n := 13420) (by omega) (by omega) ?_
                                                                                                      refine lv_if_eq (tgt := 556) hx hb dL_walks_531 (by decide) (fun h191 => ?_) (fun h191 => ?_)
                                                                                                      · have hf := ifp h191 hf
                                                                                                        refine lv_iconst (v := 0) hx hb dL_walks_556 (by decide) ?_
                                                                                                        cases hf
                                                                                                        refine W.widen (k := 15647) (n := 105658) (by omega) (by omega) ?_
                                                                                                        exact W.zret (ty := .boolean) hx hb hr (by decide) (fun u hu _ => ⟨rfl, by rw [hu]; exact hS.1, fun q hq => by rw [hu]; exact hS.2.1 q (by omega) (Nat.not_le.mpr hq)⟩) hS.2.2 dL_walks_557
                                                                                                      · have hf := ifn h191 hf
                                                                                                        refine lv_aload_n hx hb dL_walks_534 rfl (lv_at hl 0 rfl) ?_
                                                                                                        refine lv_bipush (v := 54) hx hb dL_walks_535 (by decide) ?_
                                                                                                        obtain ⟨y192, u193, hf⟩ := bn1_e hf
                                                                                                        refine lVXn (n := 1) (As := [.int 54]) (rest := []) (c_X4_purseOf l hfl D t b σ181 54 (.inr y192) u193) hx hb hml hown hts hE hsub hW hS q775 q776 q777 q34 q778 hy_X4_purseOf ⟨rfl, rfl⟩ ⟨Nat.le_of_ble_eq_true rfl, Nat.le_of_ble_eq_true rfl⟩ rfl rfl hl.1 (Nat.le_of_ble_eq_true rfl) ⟨show 274 + 1 ≤ 15647 by omega, show 13420 + 6 ≤ 105658 by omega⟩ dL_walks_537 (fun H locs hW hS _ => ?_)
                                                                                                        refine W.widen (k := 275) (n := 13426) (by omega) (by omega) ?_
                                                                                                        refine lv_bipush (v := 8) hx hb dL_walks_540 (by decide) ?_
                                                                                                        refine lv_icmp_ne (tgt := 556) hx hb dL_walks_542 (by decide) (fun h194 => ?_) (fun h194 => ?_)
                                                                                                        · have hf := ifn h194 hf
                                                                                                          refine lv_iconst (v := 0) hx hb dL_walks_556 (by decide) ?_
                                                                                                          cases hf
                                                                                                          refine W.widen (k := 15647) (n := 105658) (by omega) (by omega) ?_
                                                                                                          exact W.zret (ty := .boolean) hx hb hr (by decide) (fun u hu _ => ⟨rfl, by rw [hu]; exact hS.1, fun q hq => by rw [hu]; exact hS.2.1 q (by omega) (Nat.not_le.mpr hq)⟩) hS.2.2 dL_walks_557
                                                                                                        · have hf := ifp h194 hf
                                                                                                          refine lv_aload_n hx hb dL_walks_545 rfl (lv_at hl 0 rfl) ?_
                                                                                                          obtain ⟨y195, σ197, u196, hf⟩ := b2_e hf
                                                                                                          refine lS (n := 1) (As := [.ref (b + 0)]) (rest := []) (c_L_refused l hfl D t b σ181 y195 σ197 u196) hx hb hml hown hts hE hsub hW hS q981 q982 q33  q983 hs_L_refused ⟨rfl, rfl⟩ ⟨Nat.le_of_ble_eq_true rfl, Nat.le_of_ble_eq_true rfl⟩ rfl rfl hl.1 (Nat.le_of_ble_eq_true rfl) ⟨show 275 + 15372 ≤ 15647 by omega, show 13426 + 92232 ≤ 105658 by omega⟩ dL_walks_546 (fun H locs hW hS _ => ?_)
                                                                                                          refine W.widen (k := 15647) (n := 105658) (by omega) (by omega) ?_
                                                                                                          refine lv_if_eq (tgt := 556) hx hb dL_walks_549 (by decide) (fun h198 => ?_) (fun h198 => ?_)
                                                                                                          · have hf := ifp h198 hf
                                                                                                            refine lv_iconst (v := 0) hx hb dL_walks_556 (by decide) ?_
                                                                                                            cases hf
                                                                                                            refine W.widen (k := 15647) (n := 105658) (by omega) (by omega) ?_
                                                                                                            exact W.zret (ty := .boolean) hx hb hr (by decide) (fun u hu _ => ⟨rfl, by rw [hu]; exact hS.1, fun q hq => by rw [hu]; exact hS.2.1 q (by omega) (Nat.not_le.mpr hq)⟩) hS.2.2 dL_walks_557
                                                                                                          · have hf := ifn h198 hf
                                                                                                            refine lv_iconst (v := 1) hx hb dL_walks_552 (by decide) ?_
                                                                                                            refine lv_goto (tgt := 557) hx hb dL_walks_553 (by decide) ?_
                                                                                                            cases hf
                                                                                                            refine W.widen (k := 15647) (n := 105658) (by omega) (by omega) ?_
                                                                                                            exact W.zret (ty := .boolean) hx hb hr (by decide) (fun u hu _ => ⟨rfl, by rw [hu]; exact hS.1, fun q hq => by rw [hu]; exact hS.2.1 q (by omega) (Nat.not_le.mpr hq)⟩) hS.2.2 dL_walks_557
                                                                                                    · have hf := ifn h188 hf
                                                                                                      refine lv_iconst (v := 0) hx hb dL_walks_523 (by decide) ?_
                                                                                                      cases hf
                                                                                                      refine W.widen (k := 15647) (n := 105658) (by omega) (by omega) ?_
                                                                                                      exact W.zret (ty := .boolean) hx hb hr (by decide) (fun u hu _ => ⟨rfl, by rw [hu]; exact hS.1, fun q hq => by rw [hu]; exact hS.2.1 q (by omega) (Nat.not_le.mpr hq)⟩) hS.2.2 dL_walks_524
                                                  · have hf := ifn h88 hf
                                                    refine lv_iconst (v := 0) hx hb dL_walks_231 (by decide) ?_
                                                    cases hf
                                                    refine W.widen (k := 15647) (n := 105658) (by omega) (by omega) ?_
                                                    exact W.zret (ty := .boolean) hx hb hr (by decide) (fun u hu _ => ⟨rfl, by rw [hu]; exact hS.1, fun q hq => by rw [hu]; exact hS.2.1 q (by omega) (Nat.not_le.mpr hq)⟩) hS.2.2 dL_walks_232
def l_L_limits_21 : Nat → Sg → Int32 → Option (Int32 ⊕ (Sg))
  | 0, _, _ => none
  | n + 1, τ, x1 => if 6 ≤ x1 then (some (.inr τ)) else (if 2 ≤ x1 then (bn2 (f_X4_build τ (2 * x1) 0 1 0) fun y7 σ9 => if y7 = x1 then (l_L_limits_21 n σ9 (x1 + 1)) else (some (.inl 0))) else (bn2 (f_X4_build τ (2 * x1) 0 1 1) fun y11 σ13 => if y11 = x1 then (l_L_limits_21 n σ13 (x1 + 1)) else (some (.inl 0))))
def l_L_limits_289 : Nat → Sg → Int32 → Option (Int32 ⊕ (Sg))
  | 0, _, _ => none
  | n + 1, τ, x1 => if 200 ≤ x1 then (some (.inr τ)) else (bn2 (f_X4_come τ (x1 - x1 / 2 * 2) 1 0) fun y85 σ87 => if y85 = x1 then (if (x1 - x1 / 40 * 40) = 39 then (b2 (f_L_call σ87 7 5 0 0 0) fun y90 σ92 => if y90 = (-2013) then (b1 (f_X4_atFair σ92) fun y94 => if y94 = 40 then (bn2 (f_X4_pass σ92 40) fun y97 σ99 => if y97 < 0 then (some (.inl 0)) else (b1 (f_X4_atFair σ99) fun y101 => if y101 = 0 then (l_L_limits_289 n σ99 (x1 + 1)) else (some (.inl 0)))) else (some (.inl 0))) else (some (.inl 0))) else (l_L_limits_289 n σ87 (x1 + 1))) else (some (.inl 0)))
set_option maxRecDepth 100000 in
def f_L_limits : Option Int32 := b2 (f_L_rains s0 9) fun y1 σ3 => if y1 = 0 then (some 0) else (bl id (l_L_limits_21 7 σ3 0) fun q21 => b1 (f_X4_bank q21) fun y15 => if y15 = 280 then (b2 (f_L_call q21 0 1 0 1 0) fun y18 σ20 => if y18 = (-2013) then (bn2 (f_X4_bestPitch σ20 4 9) fun y22 σ24 => if y22 = 1 then (bn2 (f_X4_fund σ24 0 99) fun y26 σ28 => if y26 = 99 then (bn2 (f_X4_fund σ28 0 99) fun y30 σ32 => if y30 = 198 then (bn2 (f_X4_fund σ32 1 82) fun y34 σ36 => if y34 = 82 then (b2 (f_L_call σ36 5 1 1 0 0) fun y38 σ40 => if y38 = (-2013) then (bn2 (f_X4_restock σ40 0 0 0 39) fun y42 σ44 => if y42 = 159 then (b2 (f_L_call σ44 4 0 0 1 2) fun y46 σ48 => if y46 = (-2013) then (bn2 (f_X4_restock σ48 0 0 1 1) fun y50 σ52 => if y50 = 158 then (b2 (f_L_call σ52 4 0 0 1 1) fun y54 σ56 => if y54 = (-2013) then (bn2 (f_X4_pullDown σ56 2) fun y58 σ60 => if y58 = 0 then (bn1 (f_X4_pitchOf σ60 2) fun y62 => if y62 = 6 then (b2 (f_L_call σ60 0 5 0 1 0) fun y65 σ67 => if y65 = (-2013) then (bn2 (f_X4_collect σ67 1) fun y69 σ71 => if y69 = 82 then (bn2 (f_X4_build σ71 5 0 1 1) fun y73 σ75 => if y73 = 5 then (b1 (f_X4_bank σ75) fun y77 => if y77 = 32 then (b2 (f_L_call σ75 0 7 0 1 0) fun y80 σ82 => if y80 = (-2013) then (bl id (l_L_limits_289 201 σ82 0) fun q289 => b1 (f_X4_children q289) fun y104 => if y104 = 200 then (b2 (f_L_call q289 7 5 0 0 0) fun y107 σ109 => if y107 = (-2013) then (bn2 (f_X4_setRain σ109 0 0) fun y111 σ113 => if y111 = 9 then (b1 (f_X4_isChildDue σ113) fun y115 => if y115 = 0 then (b1 (f_X4_day σ113) fun y118 => if y118 = 5 then (b2 (f_L_last σ113) fun y121 σ123 => if y121 = 0 then (some 0) else (some 1)) else (some 0)) else (some 0)) else (some 0)) else (some 0)) else (some 0)) else (some 0)) else (some 0)) else (some 0)) else (some 0)) else (some 0)) else (some 0)) else (some 0)) else (some 0)) else (some 0)) else (some 0)) else (some 0)) else (some 0)) else (some 0)) else (some 0)) else (some 0)) else (some 0)) else (some 0)) else (some 0))
set_option maxHeartbeats 8000000 in
set_option maxRecDepth 100000 in
theorem c_L_limits (l : Launch) (hfl : l.stackTraces = false) (D : va_G) (t : Nat → ClassId) (b : Nat) (r : Int32) (hf : f_L_limits = some r) : Met l yL_limits (Cond.code yL_limits cL_limits 2 (some .boolean) :: ALL) ({ frames := 14, cells := 17282, slots := 115468, locals := 277 }) (PN D t b) (QN b (some (.int r))) 17282 115468 (geC b) := by
  refine Met.ofW (cc := cL_limits) (maxL := 2) (ret := (some .boolean)) (by decide) rfl ?_
  intro p e s m args below meth c s₁ B hml hv
  obtain ⟨rfl, hz, hE, hEC⟩ := hv
  have hz0 := hz
  have hsub : ∀ q, geA b q → geC b q := fun q h => h.1
  have hx := B.exec
  have hb := B.bytes
  have hr := B.returns
  have hts := atoms_spec (ws := Cond.code yL_limits cL_limits 2 (some .boolean) :: ALL) B.pre
  have hta := fun w h => hts w (List.mem_cons_of_mem _ h)
  have hown : s.vm.findClass RL = some m.cls := findClass_of_methodNamed B.named
  have hlocks := B.notSynchronized
  have hS : va_S (geC b) s.heap s.heap [] := va_S.rf
  have hl := lv_entry ([]) (n := 2) (Nat.le_of_ble_eq_true rfl)
  rw [lg_entry_eq]
  generalize (lg_sl ([]) ++ List.replicate (2 - (lg_sl ([])).length) Slot.unset).toArray = ls at hl ⊢
  have hl : lv_has ls 2 [] := hl
  unfold f_L_limits at hf
  refine lNew (b := b) (b0 := b) (l := l) hx hb hml hown hts hEC hz (Nat.le_refl _) hS q47 q49 q50 q34 q51 hl ⟨Nat.le_of_ble_eq_true rfl, Nat.le_of_ble_eq_true rfl⟩ ⟨show 0 + 193 ≤ 17282 by omega, show 0 + 12934 ≤ 115468 by omega⟩ dL_limits_0 dL_limits_3 dL_limits_4 (fun H locs hW hz hS _ => ?_)
  refine W.widen (k := 193) (n := 12934) (by omega) (by omega) ?_
  refine lv_astore_n (lv' := [(0, .ref (b + 0))]) hx hb dL_limits_7 rfl hl (by decide) rfl (fun ls hl => ?_)
  refine lv_aload_n hx hb dL_limits_8 rfl (lv_at hl 0 rfl) ?_
  refine lv_bipush (v := 9) hx hb dL_limits_9 (by decide) ?_
  obtain ⟨y1, σ3, u2, hf⟩ := b2_e hf
  refine lS (n := 2) (As := [.ref (b + 0), .int 9]) (rest := []) (c_L_rains l hfl D t b s0 9 y1 σ3 u2) hx hb hml hown hts hE hsub hW hS q1023 q1024 q33  q1025 hs_L_rains ⟨rfl, rfl⟩ ⟨Nat.le_of_ble_eq_true rfl, Nat.le_of_ble_eq_true rfl⟩ rfl rfl hl.1 (Nat.le_of_ble_eq_true rfl) ⟨show 193 + 22 ≤ 17282 by omega, show 12934 + 132 ≤ 115468 by omega⟩ dL_limits_11 (fun H locs hW hS _ => ?_)
  refine W.widen (k := 215) (n := 13066) (by omega) (by omega) ?_
  refine lv_if_ne (tgt := 19) hx hb dL_limits_14 (by decide) (fun h4 => ?_) (fun h4 => ?_)
  · have hf := ifn h4 hf
    refine lv_iconst (v := 0) hx hb dL_limits_19 (by decide) ?_
    refine lv_istore_n (lv' := [(1, .int 0), (0, .ref (b + 0))]) hx hb dL_limits_20 rfl hl (by decide) rfl (fun ls hl => ?_)
    obtain ⟨res, hl0, hA, hB⟩ := bl_e hf
    have key_21 : ∀ (n : Nat) (τ : Sg) (x1 : Int32) (cl sl ce se : Nat) (H : Heap) (locs : List Loc) (ls : Array Slot) (res : Int32 ⊕ (Sg)), l_L_limits_21 n τ x1 = some res → cl + 4 * n = ce → sl + 24 * n = se → ce ≤ 17282 → se ≤ 115468 → (∀ a, res = .inl a → a = r) → (∀ q21, res = .inr q21 → ∀ (H : Heap) (locs : List Loc) (ls : Array Slot), wd D t b q21 H → va_S (geC b) s.heap H locs → lv_has ls 2 [(0, .ref (b + 0))] → W p l e (headSpec (Cond.code yL_limits cL_limits 2 (some .boolean) :: ALL) ({ frames := 14, cells := 17282, slots := 115468, locals := 277 })).room s m (([] : List Value).toArray) below meth c H locs ce se (MQ below (QN b (some (.int r))) (([] : List Value).toArray) s 17282 115468 (geC b)) (F0 m 58 ls [])) → wd D t b τ H → va_S (geC b) s.heap H locs → lv_has ls 2 [(0, .ref (b + 0)), (1, .int x1)] → W p l e (headSpec (Cond.code yL_limits cL_limits 2 (some .boolean) :: ALL) ({ frames := 14, cells := 17282, slots := 115468, locals := 277 })).room s m (([] : List Value).toArray) below meth c H locs cl sl (MQ below (QN b (some (.int r))) (([] : List Value).toArray) s 17282 115468 (geC b)) (F0 m 21 ls []) := by
      intro n
      induction n with
      | zero =>
        intro τ x1 cl sl ce se H locs ls res hf
        rw [l_L_limits_21.eq_1] at hf
        cases hf
      | succ n ih_21 =>
        intro τ x1 cl sl ce se H locs ls res hf hce hse hcm hsm kx kk hW hS hl
        rw [l_L_limits_21.eq_2] at hf
        refine lv_iload_n hx hb dL_limits_21 rfl (lv_at hl 1 rfl) ?_
        refine lv_bipush (v := 6) hx hb dL_limits_22 (by decide) ?_
        refine lv_icmp_ge (tgt := 58) hx hb dL_limits_24 (by decide) (fun h5 => ?_) (fun h5 => ?_)
        · have hf := ifp h5 hf
          cases hf
          refine W.widen (k := ce) (n := se) (by omega) (by omega) ?_
          exact kk _ rfl _ _ _ hW hS (lv_sub hl [0] rfl)
        · have hf := ifn h5 hf
          refine lv_aload_n hx hb dL_limits_27 rfl (lv_at hl 0 rfl) ?_
          refine lv_iconst (v := 2) hx hb dL_limits_28 (by decide) ?_
          refine lv_iload_n hx hb dL_limits_29 rfl (lv_at hl 1 rfl) ?_
          refine lv_imul hx hb dL_limits_30 ?_
          refine lv_iconst (v := 0) hx hb dL_limits_31 (by decide) ?_
          refine lv_iconst (v := 1) hx hb dL_limits_32 (by decide) ?_
          refine lv_iload_n hx hb dL_limits_33 rfl (lv_at hl 1 rfl) ?_
          refine lv_iconst (v := 2) hx hb dL_limits_34 (by decide) ?_
          refine lv_icmp_ge (tgt := 42) hx hb dL_limits_35 (by decide) (fun h6 => ?_) (fun h6 => ?_)
          · have hf := ifp h6 hf
            refine lv_iconst (v := 0) hx hb dL_limits_42 (by decide) ?_
            obtain ⟨y7, σ9, u8, hf⟩ := bn2_e hf
            refine lVXn (n := 4) (As := [.int (2 * x1), .int 0, .int 1, .int 0]) (rest := []) (c_X4_build l hfl D t b τ (2 * x1) 0 1 0 (.inr (y7, σ9)) u8) hx hb hml hown hts hE hsub hW hS q299 q300 q301 q34 q302 hy_X4_build ⟨rfl, rfl⟩ ⟨Nat.le_of_ble_eq_true rfl, Nat.le_of_ble_eq_true rfl⟩ rfl rfl hl.1 (Nat.le_of_ble_eq_true rfl) ⟨show cl + 0 + 4 ≤ 17282 by omega, show sl + 0 + 24 ≤ 115468 by omega⟩ dL_limits_43 (fun H locs hW hS _ => ?_)
            refine W.widen (k := cl + 4) (n := sl + 24) (by omega) (by omega) ?_
            refine lv_iload_n hx hb dL_limits_46 rfl (lv_at hl 1 rfl) ?_
            refine lv_icmp_eq (tgt := 52) hx hb dL_limits_47 (by decide) (fun h10 => ?_) (fun h10 => ?_)
            · have hf := ifp h10 hf
              refine lv_iinc (v := (x1 + 1)) (lv' := [(1, .int (x1 + 1)), (0, .ref (b + 0))]) hx hb dL_limits_52 hl (k := 1) rfl (by rfl) (by decide) rfl (fun ls hl => ?_)
              refine lv_goto (tgt := 21) hx hb dL_limits_55 (by decide) ?_
              refine W.widen (k := cl + 4) (n := sl + 24) (by omega) (by omega) ?_
              exact ih_21 σ9 (x1 + 1) (cl + 4) (sl + 24) ce se _ _ _ _ hf (by omega) (by omega) hcm hsm kx kk hW hS (lv_sub hl [1, 0] rfl)
            · have hf := ifn h10 hf
              refine lv_iconst (v := 0) hx hb dL_limits_50 (by decide) ?_
              cases hf
              have h9 := kx _ rfl
              cases h9
              refine W.widen (k := 17282) (n := 115468) (by omega) (by omega) ?_
              exact W.zret (ty := .boolean) hx hb hr (by decide) (fun u hu _ => ⟨rfl, by rw [hu]; exact hS.1, fun q hq => by rw [hu]; exact hS.2.1 q (by omega) (Nat.not_le.mpr hq)⟩) hS.2.2 dL_limits_51
          · have hf := ifn h6 hf
            refine lv_iconst (v := 1) hx hb dL_limits_38 (by decide) ?_
            refine lv_goto (tgt := 43) hx hb dL_limits_39 (by decide) ?_
            obtain ⟨y11, σ13, u12, hf⟩ := bn2_e hf
            refine lVXn (n := 4) (As := [.int (2 * x1), .int 0, .int 1, .int 1]) (rest := []) (c_X4_build l hfl D t b τ (2 * x1) 0 1 1 (.inr (y11, σ13)) u12) hx hb hml hown hts hE hsub hW hS q299 q300 q301 q34 q302 hy_X4_build ⟨rfl, rfl⟩ ⟨Nat.le_of_ble_eq_true rfl, Nat.le_of_ble_eq_true rfl⟩ rfl rfl hl.1 (Nat.le_of_ble_eq_true rfl) ⟨show cl + 0 + 4 ≤ 17282 by omega, show sl + 0 + 24 ≤ 115468 by omega⟩ dL_limits_43 (fun H locs hW hS _ => ?_)
            refine W.widen (k := cl + 4) (n := sl + 24) (by omega) (by omega) ?_
            refine lv_iload_n hx hb dL_limits_46 rfl (lv_at hl 1 rfl) ?_
            refine lv_icmp_eq (tgt := 52) hx hb dL_limits_47 (by decide) (fun h14 => ?_) (fun h14 => ?_)
            · have hf := ifp h14 hf
              refine lv_iinc (v := (x1 + 1)) (lv' := [(1, .int (x1 + 1)), (0, .ref (b + 0))]) hx hb dL_limits_52 hl (k := 1) rfl (by rfl) (by decide) rfl (fun ls hl => ?_)
              refine lv_goto (tgt := 21) hx hb dL_limits_55 (by decide) ?_
              refine W.widen (k := cl + 4) (n := sl + 24) (by omega) (by omega) ?_
              exact ih_21 σ13 (x1 + 1) (cl + 4) (sl + 24) ce se _ _ _ _ hf (by omega) (by omega) hcm hsm kx kk hW hS (lv_sub hl [1, 0] rfl)
            · have hf := ifn h14 hf
              refine lv_iconst (v := 0) hx hb dL_limits_50 (by decide) ?_
              cases hf
              have h9 := kx _ rfl
              cases h9
              refine W.widen (k := 17282) (n := 115468) (by omega) (by omega) ?_
              exact W.zret (ty := .boolean) hx hb hr (by decide) (fun u hu _ => ⟨rfl, by rw [hu]; exact hS.1, fun q hq => by rw [hu]; exact hS.2.1 q (by omega) (Nat.not_le.mpr hq)⟩) hS.2.2 dL_limits_51
    refine key_21 7 σ3 0 (215) (13066) (243) (13234) _ _ _ res hl0 (by omega) (by omega) (show 243 ≤ 17282 by omega) (show 13234 ≤ 115468 by omega) (fun a h => hA a h) (fun q21 hq H locs ls hW hS hl => ?_) hW hS (lv_sub hl [1, 0] rfl)
    have hf := hB _ hq
    refine lv_aload_n hx hb dL_limits_58 rfl (lv_at hl 0 rfl) ?_
    obtain ⟨y15, u16, hf⟩ := b1_e hf
    refine lV (n := 0) (As := []) (rest := []) (c_X4_bank l D t b q21 y15 u16) hx hb hml hown hts hE hsub hW hS q945 q946 q947 q34 q948 hy_X4_bank ⟨rfl, rfl⟩ ⟨Nat.le_of_ble_eq_true rfl, Nat.le_of_ble_eq_true rfl⟩ rfl rfl hl.1 (Nat.le_of_ble_eq_true rfl) ⟨show 243 ≤ 17282 by omega, show 13234 ≤ 115468 by omega⟩ dL_limits_59 (fun H locs hW hS _ => ?_)
    refine lv_sipush (v := 280) hx hb dL_limits_62 (by decide) ?_
    refine lv_icmp_ne (tgt := 285) hx hb dL_limits_65 (by decide) (fun h17 => ?_) (fun h17 => ?_)
    · have hf := ifn h17 hf
      refine lv_iconst (v := 0) hx hb dL_limits_285 (by decide) ?_
      cases hf
      refine W.widen (k := 17282) (n := 115468) (by omega) (by omega) ?_
      exact W.zret (ty := .boolean) hx hb hr (by decide) (fun u hu _ => ⟨rfl, by rw [hu]; exact hS.1, fun q hq => by rw [hu]; exact hS.2.1 q (by omega) (Nat.not_le.mpr hq)⟩) hS.2.2 dL_limits_286
    · have hf := ifp h17 hf
      refine lv_aload_n hx hb dL_limits_68 rfl (lv_at hl 0 rfl) ?_
      refine lv_iconst (v := 0) hx hb dL_limits_69 (by decide) ?_
      refine lv_iconst (v := 1) hx hb dL_limits_70 (by decide) ?_
      refine lv_iconst (v := 0) hx hb dL_limits_71 (by decide) ?_
      refine lv_iconst (v := 1) hx hb dL_limits_72 (by decide) ?_
      refine lv_iconst (v := 0) hx hb dL_limits_73 (by decide) ?_
      obtain ⟨y18, σ20, u19, hf⟩ := b2_e hf
      refine lSW (n := 6) (As := [.ref (b + 0), .int 0, .int 1, .int 0, .int 1, .int 0]) (rest := []) (c_L_call l hfl D t b q21 0 1 0 1 0 y18 σ20 u19) hx hb hml hown hts hE hsub hW hS q573 q574 q33  qw_L_call hs_L_call ⟨rfl, rfl⟩ ⟨Nat.le_of_ble_eq_true rfl, Nat.le_of_ble_eq_true rfl⟩ rfl rfl hl.1 (Nat.le_of_ble_eq_true rfl) ⟨show 243 + 4 ≤ 17282 by omega, show 13234 + 24 ≤ 115468 by omega⟩ dL_limits_74 (fun H locs hW hS _ => ?_)
      refine W.widen (k := 247) (n := 13258) (by omega) (by omega) ?_
      refine lv_sipush (v := (-2013)) hx hb dL_limits_77 (by decide) ?_
      refine lv_icmp_ne (tgt := 285) hx hb dL_limits_80 (by decide) (fun h21 => ?_) (fun h21 => ?_)
      · have hf := ifn h21 hf
        refine lv_iconst (v := 0) hx hb dL_limits_285 (by decide) ?_
        cases hf
        refine W.widen (k := 17282) (n := 115468) (by omega) (by omega) ?_
        exact W.zret (ty := .boolean) hx hb hr (by decide) (fun u hu _ => ⟨rfl, by rw [hu]; exact hS.1, fun q hq => by rw [hu]; exact hS.2.1 q (by omega) (Nat.not_le.mpr hq)⟩) hS.2.2 dL_limits_286
      · have hf := ifp h21 hf
        refine lv_aload_n hx hb dL_limits_83 rfl (lv_at hl 0 rfl) ?_
        refine lv_iconst (v := 4) hx hb dL_limits_84 (by decide) ?_
        refine lv_bipush (v := 9) hx hb dL_limits_85 (by decide) ?_
        obtain ⟨y22, σ24, u23, hf⟩ := bn2_e hf
        refine lVXn (n := 2) (As := [.int 4, .int 9]) (rest := []) (c_X4_bestPitch l hfl D t b σ20 4 9 (.inr (y22, σ24)) u23) hx hb hml hown hts hE hsub hW hS q830 q831 q832 q34 q833 hy_X4_bestPitch ⟨rfl, rfl⟩ ⟨Nat.le_of_ble_eq_true rfl, Nat.le_of_ble_eq_true rfl⟩ rfl rfl hl.1 (Nat.le_of_ble_eq_true rfl) ⟨show 247 + 2 ≤ 17282 by omega, show 13258 + 12 ≤ 115468 by omega⟩ dL_limits_87 (fun H locs hW hS _ => ?_)
        refine W.widen (k := 249) (n := 13270) (by omega) (by omega) ?_
        refine lv_iconst (v := 1) hx hb dL_limits_90 (by decide) ?_
        refine lv_icmp_ne (tgt := 285) hx hb dL_limits_91 (by decide) (fun h25 => ?_) (fun h25 => ?_)
        · have hf := ifn h25 hf
          refine lv_iconst (v := 0) hx hb dL_limits_285 (by decide) ?_
          cases hf
          refine W.widen (k := 17282) (n := 115468) (by omega) (by omega) ?_
          exact W.zret (ty := .boolean) hx hb hr (by decide) (fun u hu _ => ⟨rfl, by rw [hu]; exact hS.1, fun q hq => by rw [hu]; exact hS.2.1 q (by omega) (Nat.not_le.mpr hq)⟩) hS.2.2 dL_limits_286
        · have hf := ifp h25 hf
          refine lv_aload_n hx hb dL_limits_94 rfl (lv_at hl 0 rfl) ?_
          refine lv_iconst (v := 0) hx hb dL_limits_95 (by decide) ?_
          refine lv_bipush (v := 99) hx hb dL_limits_96 (by decide) ?_
          obtain ⟨y26, σ28, u27, hf⟩ := bn2_e hf
          refine lVXn (n := 2) (As := [.int 0, .int 99]) (rest := []) (c_X4_fund l hfl D t b σ24 0 99 (.inr (y26, σ28)) u27) hx hb hml hown hts hE hsub hW hS q511 q512 q513 q34 q514 hy_X4_fund ⟨rfl, rfl⟩ ⟨Nat.le_of_ble_eq_true rfl, Nat.le_of_ble_eq_true rfl⟩ rfl rfl hl.1 (Nat.le_of_ble_eq_true rfl) ⟨show 249 + 2 ≤ 17282 by omega, show 13270 + 12 ≤ 115468 by omega⟩ dL_limits_98 (fun H locs hW hS _ => ?_)
          refine W.widen (k := 251) (n := 13282) (by omega) (by omega) ?_
          refine lv_bipush (v := 99) hx hb dL_limits_101 (by decide) ?_
          refine lv_icmp_ne (tgt := 285) hx hb dL_limits_103 (by decide) (fun h29 => ?_) (fun h29 => ?_)
          · have hf := ifn h29 hf
            refine lv_iconst (v := 0) hx hb dL_limits_285 (by decide) ?_
            cases hf
            refine W.widen (k := 17282) (n := 115468) (by omega) (by omega) ?_
            exact W.zret (ty := .boolean) hx hb hr (by decide) (fun u hu _ => ⟨rfl, by rw [hu]; exact hS.1, fun q hq => by rw [hu]; exact hS.2.1 q (by omega) (Nat.not_le.mpr hq)⟩) hS.2.2 dL_limits_286
          · have hf := ifp h29 hf
            refine lv_aload_n hx hb dL_limits_106 rfl (lv_at hl 0 rfl) ?_
            refine lv_iconst (v := 0) hx hb dL_limits_107 (by decide) ?_
            refine lv_bipush (v := 99) hx hb dL_limits_108 (by decide) ?_
            obtain ⟨y30, σ32, u31, hf⟩ := bn2_e hf
            refine lVXn (n := 2) (As := [.int 0, .int 99]) (rest := []) (c_X4_fund l hfl D t b σ28 0 99 (.inr (y30, σ32)) u31) hx hb hml hown hts hE hsub hW hS q511 q512 q513 q34 q514 hy_X4_fund ⟨rfl, rfl⟩ ⟨Nat.le_of_ble_eq_true rfl, Nat.le_of_ble_eq_true rfl⟩ rfl rfl hl.1 (Nat.le_of_ble_eq_true rfl) ⟨show 251 + 2 ≤ 17282 by omega, show 13282 + 12 ≤ 115468 by omega⟩ dL_limits_110 (fun H locs hW hS _ => ?_)
            refine W.widen (k := 253) (n := 13294) (by omega) (by omega) ?_
            refine lv_sipush (v := 198) hx hb dL_limits_113 (by decide) ?_
            refine lv_icmp_ne (tgt := 285) hx hb dL_limits_116 (by decide) (fun h33 => ?_) (fun h33 => ?_)
            · have hf := ifn h33 hf
              refine lv_iconst (v := 0) hx hb dL_limits_285 (by decide) ?_
              cases hf
              refine W.widen (k := 17282) (n := 115468) (by omega) (by omega) ?_
              exact W.zret (ty := .boolean) hx hb hr (by decide) (fun u hu _ => ⟨rfl, by rw [hu]; exact hS.1, fun q hq => by rw [hu]; exact hS.2.1 q (by omega) (Nat.not_le.mpr hq)⟩) hS.2.2 dL_limits_286
            · have hf := ifp h33 hf
              refine lv_aload_n hx hb dL_limits_119 rfl (lv_at hl 0 rfl) ?_
              refine lv_iconst (v := 1) hx hb dL_limits_120 (by decide) ?_
              refine lv_bipush (v := 82) hx hb dL_limits_121 (by decide) ?_
              obtain ⟨y34, σ36, u35, hf⟩ := bn2_e hf
              refine lVXn (n := 2) (As := [.int 1, .int 82]) (rest := []) (c_X4_fund l hfl D t b σ32 1 82 (.inr (y34, σ36)) u35) hx hb hml hown hts hE hsub hW hS q511 q512 q513 q34 q514 hy_X4_fund ⟨rfl, rfl⟩ ⟨Nat.le_of_ble_eq_true rfl, Nat.le_of_ble_eq_true rfl⟩ rfl rfl hl.1 (Nat.le_of_ble_eq_true rfl) ⟨show 253 + 2 ≤ 17282 by omega, show 13294 + 12 ≤ 115468 by omega⟩ dL_limits_123 (fun H locs hW hS _ => ?_)
              refine W.widen (k := 255) (n := 13306) (by omega) (by omega) ?_
              refine lv_bipush (v := 82) hx hb dL_limits_126 (by decide) ?_
              refine lv_icmp_ne (tgt := 285) hx hb dL_limits_128 (by decide) (fun h37 => ?_) (fun h37 => ?_)
              · have hf := ifn h37 hf
                refine lv_iconst (v := 0) hx hb dL_limits_285 (by decide) ?_
                cases hf
                refine W.widen (k := 17282) (n := 115468) (by omega) (by omega) ?_
                exact W.zret (ty := .boolean) hx hb hr (by decide) (fun u hu _ => ⟨rfl, by rw [hu]; exact hS.1, fun q hq => by rw [hu]; exact hS.2.1 q (by omega) (Nat.not_le.mpr hq)⟩) hS.2.2 dL_limits_286
              · have hf := ifp h37 hf
                refine lv_aload_n hx hb dL_limits_131 rfl (lv_at hl 0 rfl) ?_
                refine lv_iconst (v := 5) hx hb dL_limits_132 (by decide) ?_
                refine lv_iconst (v := 1) hx hb dL_limits_133 (by decide) ?_
                refine lv_iconst (v := 1) hx hb dL_limits_134 (by decide) ?_
                refine lv_iconst (v := 0) hx hb dL_limits_135 (by decide) ?_
                refine lv_iconst (v := 0) hx hb dL_limits_136 (by decide) ?_
                obtain ⟨y38, σ40, u39, hf⟩ := b2_e hf
                refine lSW (n := 6) (As := [.ref (b + 0), .int 5, .int 1, .int 1, .int 0, .int 0]) (rest := []) (c_L_call l hfl D t b σ36 5 1 1 0 0 y38 σ40 u39) hx hb hml hown hts hE hsub hW hS q573 q574 q33  qw_L_call hs_L_call ⟨rfl, rfl⟩ ⟨Nat.le_of_ble_eq_true rfl, Nat.le_of_ble_eq_true rfl⟩ rfl rfl hl.1 (Nat.le_of_ble_eq_true rfl) ⟨show 255 + 4 ≤ 17282 by omega, show 13306 + 24 ≤ 115468 by omega⟩ dL_limits_137 (fun H locs hW hS _ => ?_)
                refine W.widen (k := 259) (n := 13330) (by omega) (by omega) ?_
                refine lv_sipush (v := (-2013)) hx hb dL_limits_140 (by decide) ?_
                refine lv_icmp_ne (tgt := 285) hx hb dL_limits_143 (by decide) (fun h41 => ?_) (fun h41 => ?_)
                · have hf := ifn h41 hf
                  refine lv_iconst (v := 0) hx hb dL_limits_285 (by decide) ?_
                  cases hf
                  refine W.widen (k := 17282) (n := 115468) (by omega) (by omega) ?_
                  exact W.zret (ty := .boolean) hx hb hr (by decide) (fun u hu _ => ⟨rfl, by rw [hu]; exact hS.1, fun q hq => by rw [hu]; exact hS.2.1 q (by omega) (Nat.not_le.mpr hq)⟩) hS.2.2 dL_limits_286
                · have hf := ifp h41 hf
                  refine lv_aload_n hx hb dL_limits_146 rfl (lv_at hl 0 rfl) ?_
                  refine lv_iconst (v := 0) hx hb dL_limits_147 (by decide) ?_
                  refine lv_iconst (v := 0) hx hb dL_limits_148 (by decide) ?_
                  refine lv_iconst (v := 0) hx hb dL_limits_149 (by decide) ?_
                  refine lv_bipush (v := 39) hx hb dL_limits_150 (by decide) ?_
                  obtain ⟨y42, σ44, u43, hf⟩ := bn2_e hf
                  refine lVXn (n := 4) (As := [.int 0, .int 0, .int 0, .int 39]) (rest := []) (c_X4_restock l hfl D t b σ40 0 0 0 39 (.inr (y42, σ44)) u43) hx hb hml hown hts hE hsub hW hS q466 q467 q468 q34 q469 hy_X4_restock ⟨rfl, rfl⟩ ⟨Nat.le_of_ble_eq_true rfl, Nat.le_of_ble_eq_true rfl⟩ rfl rfl hl.1 (Nat.le_of_ble_eq_true rfl) ⟨show 259 + 4 ≤ 17282 by omega, show 13330 + 24 ≤ 115468 by omega⟩ dL_limits_152 (fun H locs hW hS _ => ?_)
                  refine W.widen (k := 263) (n := 13354) (by omega) (by omega) ?_
                  refine lv_sipush (v := 159) hx hb dL_limits_155 (by decide) ?_
                  refine lv_icmp_ne (tgt := 285) hx hb dL_limits_158 (by decide) (fun h45 => ?_) (fun h45 => ?_)
                  · have hf := ifn h45 hf
                    refine lv_iconst (v := 0) hx hb dL_limits_285 (by decide) ?_
                    cases hf
                    refine W.widen (k := 17282) (n := 115468) (by omega) (by omega) ?_
                    exact W.zret (ty := .boolean) hx hb hr (by decide) (fun u hu _ => ⟨rfl, by rw [hu]; exact hS.1, fun q hq => by rw [hu]; exact hS.2.1 q (by omega) (Nat.not_le.mpr hq)⟩) hS.2.2 dL_limits_286
                  · have hf := ifp h45 hf
                    refine lv_aload_n hx hb dL_limits_161 rfl (lv_at hl 0 rfl) ?_
                    refine lv_iconst (v := 4) hx hb dL_limits_162 (by decide) ?_
                    refine lv_iconst (v := 0) hx hb dL_limits_163 (by decide) ?_
                    refine lv_iconst (v := 0) hx hb dL_limits_164 (by decide) ?_
                    refine lv_iconst (v := 1) hx hb dL_limits_165 (by decide) ?_
                    refine lv_iconst (v := 2) hx hb dL_limits_166 (by decide) ?_
                    obtain ⟨y46, σ48, u47, hf⟩ := b2_e hf
                    refine lSW (n := 6) (As := [.ref (b + 0), .int 4, .int 0, .int 0, .int 1, .int 2]) (rest := []) (c_L_call l hfl D t b σ44 4 0 0 1 2 y46 σ48 u47) hx hb hml hown hts hE hsub hW hS q573 q574 q33  qw_L_call hs_L_call ⟨rfl, rfl⟩ ⟨Nat.le_of_ble_eq_true rfl, Nat.le_of_ble_eq_true rfl⟩ rfl rfl hl.1 (Nat.le_of_ble_eq_true rfl) ⟨show 263 + 4 ≤ 17282 by omega, show 13354 + 24 ≤ 115468 by omega⟩ dL_limits_167 (fun H locs hW hS _ => ?_)
                    refine W.widen (k := 267) (n := 13378) (by omega) (by omega) ?_
                    refine lv_sipush (v := (-2013)) hx hb dL_limits_170 (by decide) ?_
                    refine lv_icmp_ne (tgt := 285) hx hb dL_limits_173 (by decide) (fun h49 => ?_) (fun h49 => ?_)
                    · have hf := ifn h49 hf
                      refine lv_iconst (v := 0) hx hb dL_limits_285 (by decide) ?_
                      cases hf
                      refine W.widen (k := 17282) (n := 115468) (by omega) (by omega) ?_
                      exact W.zret (ty := .boolean) hx hb hr (by decide) (fun u hu _ => ⟨rfl, by rw [hu]; exact hS.1, fun q hq => by rw [hu]; exact hS.2.1 q (by omega) (Nat.not_le.mpr hq)⟩) hS.2.2 dL_limits_286
                    · have hf := ifp h49 hf
                      refine lv_aload_n hx hb dL_limits_176 rfl (lv_at hl 0 rfl) ?_
                      refine lv_iconst (v := 0) hx hb dL_limits_177 (by decide) ?_
                      refine lv_iconst (v := 0) hx hb dL_limits_178 (by decide) ?_
                      refine lv_iconst (v := 1) hx hb dL_limits_179 (by decide) ?_
                      refine lv_iconst (v := 1) hx hb dL_limits_180 (by decide) ?_
                      obtain ⟨y50, σ52, u51, hf⟩ := bn2_e hf
                      refine lVXn (n := 4) (As := [.int 0, .int 0, .int 1, .int 1]) (rest := []) (c_X4_restock l hfl D t b σ48 0 0 1 1 (.inr (y50, σ52)) u51) hx hb hml hown hts hE hsub hW hS q466 q467 q468 q34 q469 hy_X4_restock ⟨rfl, rfl⟩ ⟨Nat.le_of_ble_eq_true rfl, Nat.le_of_ble_eq_true rfl⟩ rfl rfl hl.1 (Nat.le_of_ble_eq_true rfl) ⟨show 267 + 4 ≤ 17282 by omega, show 13378 + 24 ≤ 115468 by omega⟩ dL_limits_181 (fun H locs hW hS _ => ?_)
                      refine W.widen (k := 271) (n := 13402) (by omega) (by omega) ?_
                      refine lv_sipush (v := 158) hx hb dL_limits_184 (by decide) ?_
                      refine lv_icmp_ne (tgt := 285) hx hb dL_limits_187 (by decide) (fun h53 => ?_) (fun h53 => ?_)
                      · have hf := ifn h53 hf
                        refine lv_iconst (v := 0) hx hb dL_limits_285 (by decide) ?_
                        cases hf
                        refine W.widen (k := 17282) (n := 115468) (by omega) (by omega) ?_
                        exact W.zret (ty := .boolean) hx hb hr (by decide) (fun u hu _ => ⟨rfl, by rw [hu]; exact hS.1, fun q hq => by rw [hu]; exact hS.2.1 q (by omega) (Nat.not_le.mpr hq)⟩) hS.2.2 dL_limits_286
                      · have hf := ifp h53 hf
                        refine lv_aload_n hx hb dL_limits_190 rfl (lv_at hl 0 rfl) ?_
                        refine lv_iconst (v := 4) hx hb dL_limits_191 (by decide) ?_
                        refine lv_iconst (v := 0) hx hb dL_limits_192 (by decide) ?_
                        refine lv_iconst (v := 0) hx hb dL_limits_193 (by decide) ?_
                        refine lv_iconst (v := 1) hx hb dL_limits_194 (by decide) ?_
                        refine lv_iconst (v := 1) hx hb dL_limits_195 (by decide) ?_
                        obtain ⟨y54, σ56, u55, hf⟩ := b2_e hf
                        refine lSW (n := 6) (As := [.ref (b + 0), .int 4, .int 0, .int 0, .int 1, .int 1]) (rest := []) (c_L_call l hfl D t b σ52 4 0 0 1 1 y54 σ56 u55) hx hb hml hown hts hE hsub hW hS q573 q574 q33  qw_L_call hs_L_call ⟨rfl, rfl⟩ ⟨Nat.le_of_ble_eq_true rfl, Nat.le_of_ble_eq_true rfl⟩ rfl rfl hl.1 (Nat.le_of_ble_eq_true rfl) ⟨show 271 + 4 ≤ 17282 by omega, show 13402 + 24 ≤ 115468 by omega⟩ dL_limits_196 (fun H locs hW hS _ => ?_)
                        refine W.widen (k := 275) (n := 13426) (by omega) (by omega) ?_
                        refine lv_sipush (v := (-2013)) hx hb dL_limits_199 (by decide) ?_
                        refine lv_icmp_ne (tgt := 285) hx hb dL_limits_202 (by decide) (fun h57 => ?_) (fun h57 => ?_)
                        · have hf := ifn h57 hf
                          refine lv_iconst (v := 0) hx hb dL_limits_285 (by decide) ?_
                          cases hf
                          refine W.widen (k := 17282) (n := 115468) (by omega) (by omega) ?_
                          exact W.zret (ty := .boolean) hx hb hr (by decide) (fun u hu _ => ⟨rfl, by rw [hu]; exact hS.1, fun q hq => by rw [hu]; exact hS.2.1 q (by omega) (Nat.not_le.mpr hq)⟩) hS.2.2 dL_limits_286
                        · have hf := ifp h57 hf
                          refine lv_aload_n hx hb dL_limits_205 rfl (lv_at hl 0 rfl) ?_
                          refine lv_iconst (v := 2) hx hb dL_limits_206 (by decide) ?_
                          obtain ⟨y58, σ60, u59, hf⟩ := bn2_e hf
                          refine lVXn (n := 1) (As := [.int 2]) (rest := []) (c_X4_pullDown l hfl D t b σ56 2 (.inr (y58, σ60)) u59) hx hb hml hown hts hE hsub hW hS q582 q583 q584 q34 q585 hy_X4_pullDown ⟨rfl, rfl⟩ ⟨Nat.le_of_ble_eq_true rfl, Nat.le_of_ble_eq_true rfl⟩ rfl rfl hl.1 (Nat.le_of_ble_eq_true rfl) ⟨show 275 + 1 ≤ 17282 by omega, show 13426 + 6 ≤ 115468 by omega⟩ dL_limits_207 (fun H locs hW hS _ => ?_)
                          refine W.widen (k := 276) (n := 13432) (by omega) (by omega) ?_
                          refine lv_if_ne (tgt := 285) hx hb dL_limits_210 (by decide) (fun h61 => ?_) (fun h61 => ?_)
                          · have hf := ifn h61 hf
                            refine lv_iconst (v := 0) hx hb dL_limits_285 (by decide) ?_
                            cases hf
                            refine W.widen (k := 17282) (n := 115468) (by omega) (by omega) ?_
                            exact W.zret (ty := .boolean) hx hb hr (by decide) (fun u hu _ => ⟨rfl, by rw [hu]; exact hS.1, fun q hq => by rw [hu]; exact hS.2.1 q (by omega) (Nat.not_le.mpr hq)⟩) hS.2.2 dL_limits_286
                          · have hf := ifp h61 hf
                            refine lv_aload_n hx hb dL_limits_213 rfl (lv_at hl 0 rfl) ?_
                            refine lv_iconst (v := 2) hx hb dL_limits_214 (by decide) ?_
                            obtain ⟨y62, u63, hf⟩ := bn1_e hf
                            refine lVXn (n := 1) (As := [.int 2]) (rest := []) (c_X4_pitchOf l hfl D t b σ60 2 (.inr y62) u63) hx hb hml hown hts hE hsub hW hS q719 q720 q721 q34 q722 hy_X4_pitchOf ⟨rfl, rfl⟩ ⟨Nat.le_of_ble_eq_true rfl, Nat.le_of_ble_eq_true rfl⟩ rfl rfl hl.1 (Nat.le_of_ble_eq_true rfl) ⟨show 276 + 1 ≤ 17282 by omega, show 13432 + 6 ≤ 115468 by omega⟩ dL_limits_215 (fun H locs hW hS _ => ?_)
                            refine W.widen (k := 277) (n := 13438) (by omega) (by omega) ?_
                            refine lv_bipush (v := 6) hx hb dL_limits_218 (by decide) ?_
                            refine lv_icmp_ne (tgt := 285) hx hb dL_limits_220 (by decide) (fun h64 => ?_) (fun h64 => ?_)
                            · have hf := ifn h64 hf
                              refine lv_iconst (v := 0) hx hb dL_limits_285 (by decide) ?_
                              cases hf
                              refine W.widen (k := 17282) (n := 115468) (by omega) (by omega) ?_
                              exact W.zret (ty := .boolean) hx hb hr (by decide) (fun u hu _ => ⟨rfl, by rw [hu]; exact hS.1, fun q hq => by rw [hu]; exact hS.2.1 q (by omega) (Nat.not_le.mpr hq)⟩) hS.2.2 dL_limits_286
                            · have hf := ifp h64 hf
                              refine lv_aload_n hx hb dL_limits_223 rfl (lv_at hl 0 rfl) ?_
                              refine lv_iconst (v := 0) hx hb dL_limits_224 (by decide) ?_
                              refine lv_iconst (v := 5) hx hb dL_limits_225 (by decide) ?_
                              refine lv_iconst (v := 0) hx hb dL_limits_226 (by decide) ?_
                              refine lv_iconst (v := 1) hx hb dL_limits_227 (by decide) ?_
                              refine lv_iconst (v := 0) hx hb dL_limits_228 (by decide) ?_
                              obtain ⟨y65, σ67, u66, hf⟩ := b2_e hf
                              refine lSW (n := 6) (As := [.ref (b + 0), .int 0, .int 5, .int 0, .int 1, .int 0]) (rest := []) (c_L_call l hfl D t b σ60 0 5 0 1 0 y65 σ67 u66) hx hb hml hown hts hE hsub hW hS q573 q574 q33  qw_L_call hs_L_call ⟨rfl, rfl⟩ ⟨Nat.le_of_ble_eq_true rfl, Nat.le_of_ble_eq_true rfl⟩ rfl rfl hl.1 (Nat.le_of_ble_eq_true rfl) ⟨show 277 + 4 ≤ 17282 by omega, show 13438 + 24 ≤ 115468 by omega⟩ dL_limits_229 (fun H locs hW hS _ => ?_)
                              refine W.widen (k := 281) (n := 13462) (by omega) (by omega) ?_
                              refine lv_sipush (v := (-2013)) hx hb dL_limits_232 (by decide) ?_
                              refine lv_icmp_ne (tgt := 285) hx hb dL_limits_235 (by decide) (fun h68 => ?_) (fun h68 => ?_)
                              · have hf := ifn h68 hf
                                refine lv_iconst (v := 0) hx hb dL_limits_285 (by decide) ?_
                                cases hf
                                refine W.widen (k := 17282) (n := 115468) (by omega) (by omega) ?_
                                exact W.zret (ty := .boolean) hx hb hr (by decide) (fun u hu _ => ⟨rfl, by rw [hu]; exact hS.1, fun q hq => by rw [hu]; exact hS.2.1 q (by omega) (Nat.not_le.mpr hq)⟩) hS.2.2 dL_limits_286
                              · have hf := ifp h68 hf
                                refine lv_aload_n hx hb dL_limits_238 rfl (lv_at hl 0 rfl) ?_
                                refine lv_iconst (v := 1) hx hb dL_limits_239 (by decide) ?_
                                obtain ⟨y69, σ71, u70, hf⟩ := bn2_e hf
                                refine lVXn (n := 1) (As := [.int 1]) (rest := []) (c_X4_collect l hfl D t b σ67 1 (.inr (y69, σ71)) u70) hx hb hml hown hts hE hsub hW hS q602 q603 q604 q34 q605 hy_X4_collect ⟨rfl, rfl⟩ ⟨Nat.le_of_ble_eq_true rfl, Nat.le_of_ble_eq_true rfl⟩ rfl rfl hl.1 (Nat.le_of_ble_eq_true rfl) ⟨show 281 + 1 ≤ 17282 by omega, show 13462 + 6 ≤ 115468 by omega⟩ dL_limits_240 (fun H locs hW hS _ => ?_)
                                refine W.widen (k := 282) (n := 13468) (by omega) (by omega) ?_
                                refine lv_bipush (v := 82) hx hb dL_limits_243 (by decide) ?_
                                refine lv_icmp_ne (tgt := 285) hx hb dL_limits_245 (by decide) (fun h72 => ?_) (fun h72 => ?_)
                                · have hf := ifn h72 hf
                                  refine lv_iconst (v := 0) hx hb dL_limits_285 (by decide) ?_
                                  cases hf
                                  refine W.widen (k := 17282) (n := 115468) (by omega) (by omega) ?_
                                  exact W.zret (ty := .boolean) hx hb hr (by decide) (fun u hu _ => ⟨rfl, by rw [hu]; exact hS.1, fun q hq => by rw [hu]; exact hS.2.1 q (by omega) (Nat.not_le.mpr hq)⟩) hS.2.2 dL_limits_286
                                · have hf := ifp h72 hf
                                  refine lv_aload_n hx hb dL_limits_248 rfl (lv_at hl 0 rfl) ?_
                                  refine lv_iconst (v := 5) hx hb dL_limits_249 (by decide) ?_
                                  refine lv_iconst (v := 0) hx hb dL_limits_250 (by decide) ?_
                                  refine lv_iconst (v := 1) hx hb dL_limits_251 (by decide) ?_
                                  refine lv_iconst (v := 1) hx hb dL_limits_252 (by decide) ?_
                                  obtain ⟨y73, σ75, u74, hf⟩ := bn2_e hf
                                  refine lVXn (n := 4) (As := [.int 5, .int 0, .int 1, .int 1]) (rest := []) (c_X4_build l hfl D t b σ71 5 0 1 1 (.inr (y73, σ75)) u74) hx hb hml hown hts hE hsub hW hS q299 q300 q301 q34 q302 hy_X4_build ⟨rfl, rfl⟩ ⟨Nat.le_of_ble_eq_true rfl, Nat.le_of_ble_eq_true rfl⟩ rfl rfl hl.1 (Nat.le_of_ble_eq_true rfl) ⟨show 282 + 4 ≤ 17282 by omega, show 13468 + 24 ≤ 115468 by omega⟩ dL_limits_253 (fun H locs hW hS _ => ?_)
                                  refine W.widen (k := 286) (n := 13492) (by omega) (by omega) ?_
                                  refine lv_iconst (v := 5) hx hb dL_limits_256 (by decide) ?_
                                  refine lv_icmp_ne (tgt := 285) hx hb dL_limits_257 (by decide) (fun h76 => ?_) (fun h76 => ?_)
                                  · have hf := ifn h76 hf
                                    refine lv_iconst (v := 0) hx hb dL_limits_285 (by decide) ?_
                                    cases hf
                                    refine W.widen (k := 17282) (n := 115468) (by omega) (by omega) ?_
                                    exact W.zret (ty := .boolean) hx hb hr (by decide) (fun u hu _ => ⟨rfl, by rw [hu]; exact hS.1, fun q hq => by rw [hu]; exact hS.2.1 q (by omega) (Nat.not_le.mpr hq)⟩) hS.2.2 dL_limits_286
                                  · have hf := ifp h76 hf
                                    refine lv_aload_n hx hb dL_limits_260 rfl (lv_at hl 0 rfl) ?_
                                    obtain ⟨y77, u78, hf⟩ := b1_e hf
                                    refine lV (n := 0) (As := []) (rest := []) (c_X4_bank l D t b σ75 y77 u78) hx hb hml hown hts hE hsub hW hS q945 q946 q947 q34 q948 hy_X4_bank ⟨rfl, rfl⟩ ⟨Nat.le_of_ble_eq_true rfl, Nat.le_of_ble_eq_true rfl⟩ rfl rfl hl.1 (Nat.le_of_ble_eq_true rfl) ⟨show 286 ≤ 17282 by omega, show 13492 ≤ 115468 by omega⟩ dL_limits_261 (fun H locs hW hS _ => ?_)
                                    refine lv_bipush (v := 32) hx hb dL_limits_264 (by decide) ?_
                                    refine lv_icmp_ne (tgt := 285) hx hb dL_limits_266 (by decide) (fun h79 => ?_) (fun h79 => ?_)
                                    · have hf := ifn h79 hf
                                      refine lv_iconst (v := 0) hx hb dL_limits_285 (by decide) ?_
                                      cases hf
                                      refine W.widen (k := 17282) (n := 115468) (by omega) (by omega) ?_
                                      exact W.zret (ty := .boolean) hx hb hr (by decide) (fun u hu _ => ⟨rfl, by rw [hu]; exact hS.1, fun q hq => by rw [hu]; exact hS.2.1 q (by omega) (Nat.not_le.mpr hq)⟩) hS.2.2 dL_limits_286
                                    · have hf := ifp h79 hf
                                      refine lv_aload_n hx hb dL_limits_269 rfl (lv_at hl 0 rfl) ?_
                                      refine lv_iconst (v := 0) hx hb dL_limits_270 (by decide) ?_
                                      refine lv_bipush (v := 7) hx hb dL_limits_271 (by decide) ?_
                                      refine lv_iconst (v := 0) hx hb dL_limits_273 (by decide) ?_
                                      refine lv_iconst (v := 1) hx hb dL_limits_274 (by decide) ?_
                                      refine lv_iconst (v := 0) hx hb dL_limits_275 (by decide) ?_
                                      obtain ⟨y80, σ82, u81, hf⟩ := b2_e hf
                                      refine lSW (n := 6) (As := [.ref (b + 0), .int 0, .int 7, .int 0, .int 1, .int 0]) (rest := []) (c_L_call l hfl D t b σ75 0 7 0 1 0 y80 σ82 u81) hx hb hml hown hts hE hsub hW hS q573 q574 q33  qw_L_call hs_L_call ⟨rfl, rfl⟩ ⟨Nat.le_of_ble_eq_true rfl, Nat.le_of_ble_eq_true rfl⟩ rfl rfl hl.1 (Nat.le_of_ble_eq_true rfl) ⟨show 286 + 4 ≤ 17282 by omega, show 13492 + 24 ≤ 115468 by omega⟩ dL_limits_276 (fun H locs hW hS _ => ?_)
                                      refine W.widen (k := 290) (n := 13516) (by omega) (by omega) ?_
                                      refine lv_sipush (v := (-2013)) hx hb dL_limits_279 (by decide) ?_
                                      refine lv_icmp_eq (tgt := 287) hx hb dL_limits_282 (by decide) (fun h83 => ?_) (fun h83 => ?_)
                                      · have hf := ifp h83 hf
                                        refine lv_iconst (v := 0) hx hb dL_limits_287 (by decide) ?_
                                        refine lv_istore_n (lv' := [(1, .int 0), (0, .ref (b + 0))]) hx hb dL_limits_288 rfl hl (by decide) rfl (fun ls hl => ?_)
                                        obtain ⟨res, hl0, hA, hB⟩ := bl_e hf
                                        have key_289 : ∀ (n : Nat) (τ : Sg) (x1 : Int32) (cl sl ce se : Nat) (H : Heap) (locs : List Loc) (ls : Array Slot) (res : Int32 ⊕ (Sg)), l_L_limits_289 n τ x1 = some res → cl + 8 * n = ce → sl + 48 * n = se → ce ≤ 17282 → se ≤ 115468 → (∀ a, res = .inl a → a = r) → (∀ q289, res = .inr q289 → ∀ (H : Heap) (locs : List Loc) (ls : Array Slot), wd D t b q289 H → va_S (geC b) s.heap H locs → lv_has ls 2 [(0, .ref (b + 0))] → W p l e (headSpec (Cond.code yL_limits cL_limits 2 (some .boolean) :: ALL) ({ frames := 14, cells := 17282, slots := 115468, locals := 277 })).room s m (([] : List Value).toArray) below meth c H locs ce se (MQ below (QN b (some (.int r))) (([] : List Value).toArray) s 17282 115468 (geC b)) (F0 m 369 ls [])) → wd D t b τ H → va_S (geC b) s.heap H locs → lv_has ls 2 [(0, .ref (b + 0)), (1, .int x1)] → W p l e (headSpec (Cond.code yL_limits cL_limits 2 (some .boolean) :: ALL) ({ frames := 14, cells := 17282, slots := 115468, locals := 277 })).room s m (([] : List Value).toArray) below meth c H locs cl sl (MQ below (QN b (some (.int r))) (([] : List Value).toArray) s 17282 115468 (geC b)) (F0 m 289 ls []) := by
                                          intro n
                                          induction n with
                                          | zero =>
                                            intro τ x1 cl sl ce se H locs ls res hf
                                            rw [l_L_limits_289.eq_1] at hf
                                            cases hf
                                          | succ n ih_289 =>
                                            intro τ x1 cl sl ce se H locs ls res hf hce hse hcm hsm kx kk hW hS hl
                                            rw [l_L_limits_289.eq_2] at hf
                                            refine lv_iload_n hx hb dL_limits_289 rfl (lv_at hl 1 rfl) ?_
                                            refine lv_sipush (v := 200) hx hb dL_limits_290 (by decide) ?_
                                            refine lv_icmp_ge (tgt := 369) hx hb dL_limits_293 (by decide) (fun h84 => ?_) (fun h84 => ?_)
                                            · have hf := ifp h84 hf
                                              cases hf
                                              refine W.widen (k := ce) (n := se) (by omega) (by omega) ?_
                                              exact kk _ rfl _ _ _ hW hS (lv_sub hl [0] rfl)
                                            · have hf := ifn h84 hf
                                              refine lv_aload_n hx hb dL_limits_296 rfl (lv_at hl 0 rfl) ?_
                                              refine lv_iload_n hx hb dL_limits_297 rfl (lv_at hl 1 rfl) ?_
                                              refine lv_iconst (v := 2) hx hb dL_limits_298 (by decide) ?_
                                              refine lv_irem hx hb dL_limits_299 (by decide) ?_
                                              refine lv_iconst (v := 1) hx hb dL_limits_300 (by decide) ?_
                                              refine lv_iconst (v := 0) hx hb dL_limits_301 (by decide) ?_
                                              obtain ⟨y85, σ87, u86, hf⟩ := bn2_e hf
                                              refine lVXn (n := 3) (As := [.int (x1 - x1 / 2 * 2), .int 1, .int 0]) (rest := []) (c_X4_come l hfl D t b τ (x1 - x1 / 2 * 2) 1 0 (.inr (y85, σ87)) u86) hx hb hml hown hts hE hsub hW hS q525 q526 q527 q34 q528 hy_X4_come ⟨rfl, rfl⟩ ⟨Nat.le_of_ble_eq_true rfl, Nat.le_of_ble_eq_true rfl⟩ rfl rfl hl.1 (Nat.le_of_ble_eq_true rfl) ⟨show cl + 0 + 3 ≤ 17282 by omega, show sl + 0 + 18 ≤ 115468 by omega⟩ dL_limits_302 (fun H locs hW hS _ => ?_)
                                              refine W.widen (k := cl + 3) (n := sl + 18) (by omega) (by omega) ?_
                                              refine lv_iload_n hx hb dL_limits_305 rfl (lv_at hl 1 rfl) ?_
                                              refine lv_icmp_eq (tgt := 311) hx hb dL_limits_306 (by decide) (fun h88 => ?_) (fun h88 => ?_)
                                              · have hf := ifp h88 hf
                                                refine lv_iload_n hx hb dL_limits_311 rfl (lv_at hl 1 rfl) ?_
                                                refine lv_bipush (v := 40) hx hb dL_limits_312 (by decide) ?_
                                                refine lv_irem hx hb dL_limits_314 (by decide) ?_
                                                refine lv_bipush (v := 39) hx hb dL_limits_315 (by decide) ?_
                                                refine lv_icmp_ne (tgt := 363) hx hb dL_limits_317 (by decide) (fun h89 => ?_) (fun h89 => ?_)
                                                · have hf := ifn h89 hf
                                                  refine lv_iinc (v := (x1 + 1)) (lv' := [(1, .int (x1 + 1)), (0, .ref (b + 0))]) hx hb dL_limits_363 hl (k := 1) rfl (by rfl) (by decide) rfl (fun ls hl => ?_)
                                                  refine lv_goto (tgt := 289) hx hb dL_limits_366 (by decide) ?_
                                                  refine W.widen (k := cl + 8) (n := sl + 48) (by omega) (by omega) ?_
                                                  exact ih_289 σ87 (x1 + 1) (cl + 8) (sl + 48) ce se _ _ _ _ hf (by omega) (by omega) hcm hsm kx kk hW hS (lv_sub hl [1, 0] rfl)
                                                · have hf := ifp h89 hf
                                                  refine lv_aload_n hx hb dL_limits_320 rfl (lv_at hl 0 rfl) ?_
                                                  refine lv_bipush (v := 7) hx hb dL_limits_321 (by decide) ?_
                                                  refine lv_iconst (v := 5) hx hb dL_limits_323 (by decide) ?_
                                                  refine lv_iconst (v := 0) hx hb dL_limits_324 (by decide) ?_
                                                  refine lv_iconst (v := 0) hx hb dL_limits_325 (by decide) ?_
                                                  refine lv_iconst (v := 0) hx hb dL_limits_326 (by decide) ?_
                                                  obtain ⟨y90, σ92, u91, hf⟩ := b2_e hf
                                                  refine lSW (n := 6) (As := [.ref (b + 0), .int 7, .int 5, .int 0, .int 0, .int 0]) (rest := []) (c_L_call l hfl D t b σ87 7 5 0 0 0 y90 σ92 u91) hx hb hml hown hts hE hsub hW hS q573 q574 q33  qw_L_call hs_L_call ⟨rfl, rfl⟩ ⟨Nat.le_of_ble_eq_true rfl, Nat.le_of_ble_eq_true rfl⟩ rfl rfl hl.1 (Nat.le_of_ble_eq_true rfl) ⟨show cl + 3 + 4 ≤ 17282 by omega, show sl + 18 + 24 ≤ 115468 by omega⟩ dL_limits_327 (fun H locs hW hS _ => ?_)
                                                  refine W.widen (k := cl + 7) (n := sl + 42) (by omega) (by omega) ?_
                                                  refine lv_sipush (v := (-2013)) hx hb dL_limits_330 (by decide) ?_
                                                  refine lv_icmp_ne (tgt := 361) hx hb dL_limits_333 (by decide) (fun h93 => ?_) (fun h93 => ?_)
                                                  · have hf := ifn h93 hf
                                                    refine lv_iconst (v := 0) hx hb dL_limits_361 (by decide) ?_
                                                    cases hf
                                                    have h9 := kx _ rfl
                                                    cases h9
                                                    refine W.widen (k := 17282) (n := 115468) (by omega) (by omega) ?_
                                                    exact W.zret (ty := .boolean) hx hb hr (by decide) (fun u hu _ => ⟨rfl, by rw [hu]; exact hS.1, fun q hq => by rw [hu]; exact hS.2.1 q (by omega) (Nat.not_le.mpr hq)⟩) hS.2.2 dL_limits_362
                                                  · have hf := ifp h93 hf
                                                    refine lv_aload_n hx hb dL_limits_336 rfl (lv_at hl 0 rfl) ?_
                                                    obtain ⟨y94, u95, hf⟩ := b1_e hf
                                                    refine lV (n := 0) (As := []) (rest := []) (c_X4_atFair l D t b σ92 y94 u95) hx hb hml hown hts hE hsub hW hS q1051 q1052 q1053 q34 q1054 hy_X4_atFair ⟨rfl, rfl⟩ ⟨Nat.le_of_ble_eq_true rfl, Nat.le_of_ble_eq_true rfl⟩ rfl rfl hl.1 (Nat.le_of_ble_eq_true rfl) ⟨show cl + 7 ≤ 17282 by omega, show sl + 42 ≤ 115468 by omega⟩ dL_limits_337 (fun H locs hW hS _ => ?_)
                                                    refine lv_bipush (v := 40) hx hb dL_limits_340 (by decide) ?_
                                                    refine lv_icmp_ne (tgt := 361) hx hb dL_limits_342 (by decide) (fun h96 => ?_) (fun h96 => ?_)
                                                    · have hf := ifn h96 hf
                                                      refine lv_iconst (v := 0) hx hb dL_limits_361 (by decide) ?_
                                                      cases hf
                                                      have h9 := kx _ rfl
                                                      cases h9
                                                      refine W.widen (k := 17282) (n := 115468) (by omega) (by omega) ?_
                                                      exact W.zret (ty := .boolean) hx hb hr (by decide) (fun u hu _ => ⟨rfl, by rw [hu]; exact hS.1, fun q hq => by rw [hu]; exact hS.2.1 q (by omega) (Nat.not_le.mpr hq)⟩) hS.2.2 dL_limits_362
                                                    · have hf := ifp h96 hf
                                                      refine lv_aload_n hx hb dL_limits_345 rfl (lv_at hl 0 rfl) ?_
                                                      refine lv_bipush (v := 40) hx hb dL_limits_346 (by decide) ?_
                                                      obtain ⟨y97, σ99, u98, hf⟩ := bn2_e hf
                                                      refine lVXn (n := 1) (As := [.int 40]) (rest := []) (c_X4_pass l hfl D t b σ92 40 (.inr (y97, σ99)) u98) hx hb hml hown hts hE hsub hW hS q616 q617 q618 q34 q619 hy_X4_pass ⟨rfl, rfl⟩ ⟨Nat.le_of_ble_eq_true rfl, Nat.le_of_ble_eq_true rfl⟩ rfl rfl hl.1 (Nat.le_of_ble_eq_true rfl) ⟨show cl + 7 + 1 ≤ 17282 by omega, show sl + 42 + 6 ≤ 115468 by omega⟩ dL_limits_348 (fun H locs hW hS _ => ?_)
                                                      refine W.widen (k := cl + 8) (n := sl + 48) (by omega) (by omega) ?_
                                                      refine lv_if_lt (tgt := 361) hx hb dL_limits_351 (by decide) (fun h100 => ?_) (fun h100 => ?_)
                                                      · have hf := ifp h100 hf
                                                        refine lv_iconst (v := 0) hx hb dL_limits_361 (by decide) ?_
                                                        cases hf
                                                        have h9 := kx _ rfl
                                                        cases h9
                                                        refine W.widen (k := 17282) (n := 115468) (by omega) (by omega) ?_
                                                        exact W.zret (ty := .boolean) hx hb hr (by decide) (fun u hu _ => ⟨rfl, by rw [hu]; exact hS.1, fun q hq => by rw [hu]; exact hS.2.1 q (by omega) (Nat.not_le.mpr hq)⟩) hS.2.2 dL_limits_362
                                                      · have hf := ifn h100 hf
                                                        refine lv_aload_n hx hb dL_limits_354 rfl (lv_at hl 0 rfl) ?_
                                                        obtain ⟨y101, u102, hf⟩ := b1_e hf
                                                        refine lV (n := 0) (As := []) (rest := []) (c_X4_atFair l D t b σ99 y101 u102) hx hb hml hown hts hE hsub hW hS q1051 q1052 q1053 q34 q1054 hy_X4_atFair ⟨rfl, rfl⟩ ⟨Nat.le_of_ble_eq_true rfl, Nat.le_of_ble_eq_true rfl⟩ rfl rfl hl.1 (Nat.le_of_ble_eq_true rfl) ⟨show cl + 8 ≤ 17282 by omega, show sl + 48 ≤ 115468 by omega⟩ dL_limits_355 (fun H locs hW hS _ => ?_)
                                                        refine lv_if_eq (tgt := 363) hx hb dL_limits_358 (by decide) (fun h103 => ?_) (fun h103 => ?_)
                                                        · have hf := ifp h103 hf
                                                          refine lv_iinc (v := (x1 + 1)) (lv' := [(1, .int (x1 + 1)), (0, .ref (b + 0))]) hx hb dL_limits_363 hl (k := 1) rfl (by rfl) (by decide) rfl (fun ls hl => ?_)
                                                          refine lv_goto (tgt := 289) hx hb dL_limits_366 (by decide) ?_
                                                          refine W.widen (k := cl + 8) (n := sl + 48) (by omega) (by omega) ?_
                                                          exact ih_289 σ99 (x1 + 1) (cl + 8) (sl + 48) ce se _ _ _ _ hf (by omega) (by omega) hcm hsm kx kk hW hS (lv_sub hl [1, 0] rfl)
                                                        · have hf := ifn h103 hf
                                                          refine lv_iconst (v := 0) hx hb dL_limits_361 (by decide) ?_
                                                          cases hf
                                                          have h9 := kx _ rfl
                                                          cases h9
                                                          refine W.widen (k := 17282) (n := 115468) (by omega) (by omega) ?_
                                                          exact W.zret (ty := .boolean) hx hb hr (by decide) (fun u hu _ => ⟨rfl, by rw [hu]; exact hS.1, fun q hq => by rw [hu]; exact hS.2.1 q (by omega) (Nat.not_le.mpr hq)⟩) hS.2.2 dL_limits_362
                                              · have hf := ifn h88 hf
                                                refine lv_iconst (v := 0) hx hb dL_limits_309 (by decide) ?_
                                                cases hf
                                                have h9 := kx _ rfl
                                                cases h9
                                                refine W.widen (k := 17282) (n := 115468) (by omega) (by omega) ?_
                                                exact W.zret (ty := .boolean) hx hb hr (by decide) (fun u hu _ => ⟨rfl, by rw [hu]; exact hS.1, fun q hq => by rw [hu]; exact hS.2.1 q (by omega) (Nat.not_le.mpr hq)⟩) hS.2.2 dL_limits_310
                                        refine key_289 201 σ82 0 (290) (13516) (1898) (23164) _ _ _ res hl0 (by omega) (by omega) (show 1898 ≤ 17282 by omega) (show 23164 ≤ 115468 by omega) (fun a h => hA a h) (fun q289 hq H locs ls hW hS hl => ?_) hW hS (lv_sub hl [1, 0] rfl)
                                        have hf := hB _ hq
                                        refine lv_aload_n hx hb dL_limits_369 rfl (lv_at hl 0 rfl) ?_
                                        obtain ⟨y104, u105, hf⟩ := b1_e hf
                                        refine lV (n := 0) (As := []) (rest := []) (c_X4_children l D t b q289 y104 u105) hx hb hml hown hts hE hsub hW hS q977 q978 q979 q34 q980 hy_X4_children ⟨rfl, rfl⟩ ⟨Nat.le_of_ble_eq_true rfl, Nat.le_of_ble_eq_true rfl⟩ rfl rfl hl.1 (Nat.le_of_ble_eq_true rfl) ⟨show 1898 ≤ 17282 by omega, show 23164 ≤ 115468 by omega⟩ dL_limits_370 (fun H locs hW hS _ => ?_)
                                        refine lv_sipush (v := 200) hx hb dL_limits_373 (by decide) ?_
                                        refine lv_icmp_ne (tgt := 432) hx hb dL_limits_376 (by decide) (fun h106 => ?_) (fun h106 => ?_)
                                        · have hf := ifn h106 hf
                                          refine lv_iconst (v := 0) hx hb dL_limits_432 (by decide) ?_
                                          cases hf
                                          refine W.widen (k := 17282) (n := 115468) (by omega) (by omega) ?_
                                          exact W.zret (ty := .boolean) hx hb hr (by decide) (fun u hu _ => ⟨rfl, by rw [hu]; exact hS.1, fun q hq => by rw [hu]; exact hS.2.1 q (by omega) (Nat.not_le.mpr hq)⟩) hS.2.2 dL_limits_433
                                        · have hf := ifp h106 hf
                                          refine lv_aload_n hx hb dL_limits_379 rfl (lv_at hl 0 rfl) ?_
                                          refine lv_bipush (v := 7) hx hb dL_limits_380 (by decide) ?_
                                          refine lv_iconst (v := 5) hx hb dL_limits_382 (by decide) ?_
                                          refine lv_iconst (v := 0) hx hb dL_limits_383 (by decide) ?_
                                          refine lv_iconst (v := 0) hx hb dL_limits_384 (by decide) ?_
                                          refine lv_iconst (v := 0) hx hb dL_limits_385 (by decide) ?_
                                          obtain ⟨y107, σ109, u108, hf⟩ := b2_e hf
                                          refine lSW (n := 6) (As := [.ref (b + 0), .int 7, .int 5, .int 0, .int 0, .int 0]) (rest := []) (c_L_call l hfl D t b q289 7 5 0 0 0 y107 σ109 u108) hx hb hml hown hts hE hsub hW hS q573 q574 q33  qw_L_call hs_L_call ⟨rfl, rfl⟩ ⟨Nat.le_of_ble_eq_true rfl, Nat.le_of_ble_eq_true rfl⟩ rfl rfl hl.1 (Nat.le_of_ble_eq_true rfl) ⟨show 1898 + 4 ≤ 17282 by omega, show 23164 + 24 ≤ 115468 by omega⟩ dL_limits_386 (fun H locs hW hS _ => ?_)
                                          refine W.widen (k := 1902) (n := 23188) (by omega) (by omega) ?_
                                          refine lv_sipush (v := (-2013)) hx hb dL_limits_389 (by decide) ?_
                                          refine lv_icmp_ne (tgt := 432) hx hb dL_limits_392 (by decide) (fun h110 => ?_) (fun h110 => ?_)
                                          · have hf := ifn h110 hf
                                            refine lv_iconst (v := 0) hx hb dL_limits_432 (by decide) ?_
                                            cases hf
                                            refine W.widen (k := 17282) (n := 115468) (by omega) (by omega) ?_
                                            exact W.zret (ty := .boolean) hx hb hr (by decide) (fun u hu _ => ⟨rfl, by rw [hu]; exact hS.1, fun q hq => by rw [hu]; exact hS.2.1 q (by omega) (Nat.not_le.mpr hq)⟩) hS.2.2 dL_limits_433
                                          · have hf := ifp h110 hf
                                            refine lv_aload_n hx hb dL_limits_395 rfl (lv_at hl 0 rfl) ?_
                                            refine lv_iconst (v := 0) hx hb dL_limits_396 (by decide) ?_
                                            refine lv_iconst (v := 0) hx hb dL_limits_397 (by decide) ?_
                                            obtain ⟨y111, σ113, u112, hf⟩ := bn2_e hf
                                            refine lVXn (n := 2) (As := [.int 0, .int 0]) (rest := []) (c_X4_setRain l hfl D t b σ109 0 0 (.inr (y111, σ113)) u112) hx hb hml hown hts hE hsub hW hS q606 q607 q608 q34 q609 hy_X4_setRain ⟨rfl, rfl⟩ ⟨Nat.le_of_ble_eq_true rfl, Nat.le_of_ble_eq_true rfl⟩ rfl rfl hl.1 (Nat.le_of_ble_eq_true rfl) ⟨show 1902 + 2 ≤ 17282 by omega, show 23188 + 12 ≤ 115468 by omega⟩ dL_limits_398 (fun H locs hW hS _ => ?_)
                                            refine W.widen (k := 1904) (n := 23200) (by omega) (by omega) ?_
                                            refine lv_bipush (v := 9) hx hb dL_limits_401 (by decide) ?_
                                            refine lv_icmp_ne (tgt := 432) hx hb dL_limits_403 (by decide) (fun h114 => ?_) (fun h114 => ?_)
                                            · have hf := ifn h114 hf
                                              refine lv_iconst (v := 0) hx hb dL_limits_432 (by decide) ?_
                                              cases hf
                                              refine W.widen (k := 17282) (n := 115468) (by omega) (by omega) ?_
                                              exact W.zret (ty := .boolean) hx hb hr (by decide) (fun u hu _ => ⟨rfl, by rw [hu]; exact hS.1, fun q hq => by rw [hu]; exact hS.2.1 q (by omega) (Nat.not_le.mpr hq)⟩) hS.2.2 dL_limits_433
                                            · have hf := ifp h114 hf
                                              refine lv_aload_n hx hb dL_limits_406 rfl (lv_at hl 0 rfl) ?_
                                              obtain ⟨y115, u116, hf⟩ := b1_e hf
                                              refine lV (n := 0) (As := []) (rest := []) (c_X4_isChildDue l D t b σ113 y115 u116) hx hb hml hown hts hE hsub hW hS q1018 q1019 q1020 q34 q1021 hy_X4_isChildDue ⟨rfl, rfl⟩ ⟨Nat.le_of_ble_eq_true rfl, Nat.le_of_ble_eq_true rfl⟩ rfl rfl hl.1 (Nat.le_of_ble_eq_true rfl) ⟨show 1904 ≤ 17282 by omega, show 23200 ≤ 115468 by omega⟩ dL_limits_407 (fun H locs hW hS _ => ?_)
                                              refine lv_if_ne (tgt := 432) hx hb dL_limits_410 (by decide) (fun h117 => ?_) (fun h117 => ?_)
                                              · have hf := ifn h117 hf
                                                refine lv_iconst (v := 0) hx hb dL_limits_432 (by decide) ?_
                                                cases hf
                                                refine W.widen (k := 17282) (n := 115468) (by omega) (by omega) ?_
                                                exact W.zret (ty := .boolean) hx hb hr (by decide) (fun u hu _ => ⟨rfl, by rw [hu]; exact hS.1, fun q hq => by rw [hu]; exact hS.2.1 q (by omega) (Nat.not_le.mpr hq)⟩) hS.2.2 dL_limits_433
                                              · have hf := ifp h117 hf
                                                refine lv_aload_n hx hb dL_limits_413 rfl (lv_at hl 0 rfl) ?_
                                                obtain ⟨y118, u119, hf⟩ := b1_e hf
                                                refine lV (n := 0) (As := []) (rest := []) (c_X4_day l D t b σ113 y118 u119) hx hb hml hown hts hE hsub hW hS q965 q966 q967 q34 q968 hy_X4_day ⟨rfl, rfl⟩ ⟨Nat.le_of_ble_eq_true rfl, Nat.le_of_ble_eq_true rfl⟩ rfl rfl hl.1 (Nat.le_of_ble_eq_true rfl) ⟨show 1904 ≤ 17282 by omega, show 23200 ≤ 115468 by omega⟩ dL_limits_414 (fun H locs hW hS _ => ?_)
                                                refine lv_iconst (v := 5) hx hb dL_limits_417 (by decide) ?_
                                                refine lv_icmp_ne (tgt := 432) hx hb dL_limits_418 (by decide) (fun h120 => ?_) (fun h120 => ?_)
                                                · have hf := ifn h120 hf
                                                  refine lv_iconst (v := 0) hx hb dL_limits_432 (by decide) ?_
                                                  cases hf
                                                  refine W.widen (k := 17282) (n := 115468) (by omega) (by omega) ?_
                                                  exact W.zret (ty := .boolean) hx hb hr (by decide) (fun u hu _ => ⟨rfl, by rw [hu]; exact hS.1, fun q hq => by rw [hu]; exact hS.2.1 q (by omega) (Nat.not_le.mpr hq)⟩) hS.2.2 dL_limits_433
                                                · have hf := ifp h120 hf
                                                  refine lv_aload_n hx hb dL_limits_421 rfl (lv_at hl 0 rfl) ?_
                                                  obtain ⟨y121, σ123, u122, hf⟩ := b2_e hf
                                                  refine lS (n := 1) (As := [.ref (b + 0)]) (rest := []) (c_L_last l hfl D t b σ113 y121 σ123 u122) hx hb hml hown hts hE hsub hW hS q1059 q1060 q33  q1061 hs_L_last ⟨rfl, rfl⟩ ⟨Nat.le_of_ble_eq_true rfl, Nat.le_of_ble_eq_true rfl⟩ rfl rfl hl.1 (Nat.le_of_ble_eq_true rfl) ⟨show 1904 + 15378 ≤ 17282 by omega, show 23200 + 92268 ≤ 115468 by omega⟩ dL_limits_422 (fun H locs hW hS _ => ?_)
                                                  refine W.widen (k := 17282) (n := 115468) (by omega) (by omega) ?_
                                                  refine lv_if_eq (tgt := 432) hx hb dL_limits_425 (by decide) (fun h124 => ?_) (fun h124 => ?_)
                                                  · have hf := ifp h124 hf
                                                    refine lv_iconst (v := 0) hx hb dL_limits_432 (by decide) ?_
                                                    cases hf
                                                    refine W.widen (k := 17282) (n := 115468) (by omega) (by omega) ?_
                                                    exact W.zret (ty := .boolean) hx hb hr (by decide) (fun u hu _ => ⟨rfl, by rw [hu]; exact hS.1, fun q hq => by rw [hu]; exact hS.2.1 q (by omega) (Nat.not_le.mpr hq)⟩) hS.2.2 dL_limits_433
                                                  · have hf := ifn h124 hf
                                                    refine lv_iconst (v := 1) hx hb dL_limits_428 (by decide) ?_
                                                    refine lv_goto (tgt := 433) hx hb dL_limits_429 (by decide) ?_
                                                    cases hf
                                                    refine W.widen (k := 17282) (n := 115468) (by omega) (by omega) ?_
                                                    exact W.zret (ty := .boolean) hx hb hr (by decide) (fun u hu _ => ⟨rfl, by rw [hu]; exact hS.1, fun q hq => by rw [hu]; exact hS.2.1 q (by omega) (Nat.not_le.mpr hq)⟩) hS.2.2 dL_limits_433
                                      · have hf := ifn h83 hf
                                        refine lv_iconst (v := 0) hx hb dL_limits_285 (by decide) ?_
                                        cases hf
                                        refine W.widen (k := 17282) (n := 115468) (by omega) (by omega) ?_
                                        exact W.zret (ty := .boolean) hx hb hr (by decide) (fun u hu _ => ⟨rfl, by rw [hu]; exact hS.1, fun q hq => by rw [hu]; exact hS.2.1 q (by omega) (Nat.not_le.mpr hq)⟩) hS.2.2 dL_limits_286
  · have hf := ifp h4 hf
    refine lv_iconst (v := 0) hx hb dL_limits_17 (by decide) ?_
    cases hf
    refine W.widen (k := 17282) (n := 115468) (by omega) (by omega) ?_
    exact W.zret (ty := .boolean) hx hb hr (by decide) (fun u hu _ => ⟨rfl, by rw [hu]; exact hS.1, fun q hq => by rw [hu]; exact hS.2.1 q (by omega) (Nat.not_le.mpr hq)⟩) hS.2.2 dL_limits_18

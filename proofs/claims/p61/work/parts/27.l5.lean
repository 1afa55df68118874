def l_L_texts_532 : Nat → Sg → Int32 → Option (Int32 ⊕ (Sg))
  | 0, _, _ => none
  | n + 1, τ, x1 => if 80 ≤ x1 then (some (.inr τ)) else (if (x1 - x1 / 3 * 3) = 0 then (bn2 (f_X4_type τ 112) fun y193 σ195 => if y193 = (x1 + 1) then (b2 (f_X4_textError σ195) fun y197 σ199 => if (x1 - x1 / 3 * 3) = 1 then (if y197 = (-1) then (l_L_texts_532 n σ199 (x1 + 1)) else (some (.inl 0))) else (if y197 = (x1 + 1) then (l_L_texts_532 n σ199 (x1 + 1)) else (some (.inl 0)))) else (some (.inl 0))) else (if (x1 - x1 / 3 * 3) = 1 then (bn2 (f_X4_type τ 52) fun y204 σ206 => if y204 = (x1 + 1) then (b2 (f_X4_textError σ206) fun y208 σ210 => if (x1 - x1 / 3 * 3) = 1 then (if y208 = (-1) then (l_L_texts_532 n σ210 (x1 + 1)) else (some (.inl 0))) else (if y208 = (x1 + 1) then (l_L_texts_532 n σ210 (x1 + 1)) else (some (.inl 0)))) else (some (.inl 0))) else (bn2 (f_X4_type τ 59) fun y214 σ216 => if y214 = (x1 + 1) then (b2 (f_X4_textError σ216) fun y218 σ220 => if (x1 - x1 / 3 * 3) = 1 then (if y218 = (-1) then (l_L_texts_532 n σ220 (x1 + 1)) else (some (.inl 0))) else (if y218 = (x1 + 1) then (l_L_texts_532 n σ220 (x1 + 1)) else (some (.inl 0)))) else (some (.inl 0)))))
set_option maxRecDepth 100000 in
def f_L_texts : Option Int32 := b2 (f_L_isError s0 (6435122 : Int64) (0 : Int64) 2) fun y1 σ3 => if y1 = 0 then (some 0) else (b2 (f_L_isError σ3 (25137 : Int64) (0 : Int64) 2) fun y5 σ7 => if y5 = 0 then (some 0) else (b2 (f_L_isError σ7 (107963421833566 : Int64) (0 : Int64) (-1)) fun y9 σ11 => if y9 = 0 then (some 0) else (b2 (f_L_isError σ11 (1647405104 : Int64) (0 : Int64) 3) fun y13 σ15 => if y13 = 0 then (some 0) else (b2 (f_L_isError σ15 (6434865 : Int64) (0 : Int64) 2) fun y17 σ19 => if y17 = 0 then (some 0) else (b2 (f_L_isError σ19 (29238 : Int64) (0 : Int64) 1) fun y21 σ23 => if y21 = 0 then (some 0) else (b2 (f_L_isError σ23 (490435392560 : Int64) (0 : Int64) 3) fun y25 σ27 => if y25 = 0 then (some 0) else (b2 (f_L_isError σ27 (8228140510782043185 : Int64) (0 : Int64) 7) fun y29 σ31 => if y29 = 0 then (some 0) else (b2 (f_L_isError σ31 (112357069107248 : Int64) (0 : Int64) 5) fun y33 σ35 => if y33 = 0 then (some 0) else (b2 (f_L_isError σ35 (426161825844 : Int64) (0 : Int64) 4) fun y37 σ39 => if y37 = 0 then (some 0) else (b2 (f_L_isError σ39 (1664167984 : Int64) (0 : Int64) 3) fun y41 σ43 => if y41 = 0 then (some 0) else (b2 (f_L_isError σ43 (511910424880 : Int64) (0 : Int64) 4) fun y45 σ47 => if y45 = 0 then (some 0) else (b2 (f_L_isError σ47 (28720 : Int64) (0 : Int64) 1) fun y49 σ51 => if y49 = 0 then (some 0) else (b2 (f_L_isError σ51 (7353393 : Int64) (0 : Int64) 2) fun y53 σ55 => if y53 = 0 then (some 0) else (b2 (f_L_isError σ55 (107960046280286 : Int64) (0 : Int64) 5) fun y57 σ59 => if y57 = 0 then (some 0) else (b2 (f_L_isError σ59 (0 : Int64) (0 : Int64) 0) fun y61 σ63 => if y61 = 0 then (some 0) else (b2 (f_L_isError σ63 (7352635 : Int64) (0 : Int64) 3) fun y65 σ67 => if y65 = 0 then (some 0) else (b2 (f_L_isError σ67 (8229547885615264816 : Int64) (0 : Int64) (-1)) fun y69 σ71 => if y69 = 0 then (some 0) else (b2 (f_L_isError σ71 (7147340372026340400 : Int64) (0 : Int64) (-1)) fun y73 σ75 => if y73 = 0 then (some 0) else (b2 (f_L_isError σ75 (6435704 : Int64) (0 : Int64) 2) fun y77 σ79 => if y77 = 0 then (some 0) else (b2 (f_L_isError σ79 (8590965080204914731 : Int64) (0 : Int64) 8) fun y81 σ83 => if y81 = 0 then (some 0) else (b2 (f_X4_clearText σ83) fun y85 σ87 => if y85 = 8 then (b2 (f_L_types σ87 (7075282774277187120 : Int64)) fun y89 σ91 => if y89 = 0 then (some 0) else (b2 (f_L_types σ91 (3112884799320111664 : Int64)) fun y93 σ95 => if y93 = 0 then (some 0) else (b2 (f_L_types σ95 (3470649390072948786 : Int64)) fun y97 σ99 => if y97 = 0 then (some 0) else (b2 (f_L_types σ99 (4284949908478980149 : Int64)) fun y101 σ103 => if y101 = 0 then (some 0) else (b2 (f_L_types σ103 (4283539222107793977 : Int64)) fun y105 σ107 => if y105 = 0 then (some 0) else (b2 (f_X4_textError σ107) fun y109 σ111 => if y109 = (-1) then (bn2 (f_X4_impossibleOrder σ111) fun y113 σ115 => if y113 = 6 then (b2 (f_L_call σ115 36 0 0 0 0) fun y117 σ119 => if y117 = (-2013) then (b1 (f_X4_stalls σ119) fun y121 => if y121 = 0 then (b1 (f_X4_recordedStates σ119) fun y124 => if y124 = 0 then (b2 (f_X4_clearText σ119) fun y127 σ129 => if y127 = 40 then (b2 (f_L_types σ129 (7075282774277187120 : Int64)) fun y131 σ133 => if y131 = 0 then (some 0) else (b2 (f_L_types σ133 (3112884799320111664 : Int64)) fun y135 σ137 => if y135 = 0 then (some 0) else (b2 (f_L_types σ137 (3470649390072948786 : Int64)) fun y139 σ141 => if y139 = 0 then (some 0) else (b2 (f_L_types σ141 (4284949908478980149 : Int64)) fun y143 σ145 => if y143 = 0 then (some 0) else (bn2 (f_X4_impossibleOrder σ145) fun y147 σ149 => if y147 = (-1) then (b1 (f_X4_round σ149) fun y151 => if y151 = 0 then (bn2 (f_X4_carryOut σ149) fun y154 σ156 => if y154 = 6 then (b2 (f_X4_textError σ156) fun y158 σ160 => if y158 = (-1) then (b2 (f_X4_clearText σ160) fun y162 σ164 => if y162 = 32 then (b1 (f_X4_bank σ164) fun y166 => if y166 = 420 then (bn1 (f_X4_rainIn σ164 3) fun y169 => if y169 = 7 then (b1 (f_X4_round σ164) fun y172 => if y172 = 5 then (b1 (f_X4_children σ164) fun y175 => if y175 = 3 then (b1 (f_X4_recordedStates σ164) fun y178 => if y178 = 1 then (bn2 (f_X4_undo σ164) fun y181 σ183 => if y181 = 0 then (b1 (f_X4_bank σ183) fun y185 => if y185 = 500 then (b1 (f_X4_children σ183) fun y188 => if y188 = 0 then (bl id (l_L_texts_532 81 σ183 0) fun q532 => b2 (f_L_call q532 35 112 0 0 0) fun y224 σ226 => if y224 = (-2013) then (b2 (f_X4_clearText σ226) fun y228 σ230 => if y228 = 80 then (bn2 (f_X4_type σ230 960) fun y232 σ234 => if y232 = 1 then (b2 (f_X4_textError σ234) fun y236 σ238 => if y236 = 0 then (b2 (f_X4_clearText σ238) fun y240 σ242 => if y240 = 1 then (some 1) else (some 0)) else (some 0)) else (some 0)) else (some 0)) else (some 0)) else (some 0)) else (some 0)) else (some 0)) else (some 0)) else (some 0)) else (some 0)) else (some 0)) else (some 0)) else (some 0)) else (some 0)) else (some 0)) else (some 0)) else (some 0)))))) else (some 0)) else (some 0)) else (some 0)) else (some 0)) else (some 0)) else (some 0))))))) else (some 0))))))))))))))))))))))
set_option maxHeartbeats 8000000 in
set_option maxRecDepth 100000 in
theorem c_L_texts (l : Launch) (hfl : l.stackTraces = false) (D : va_G) (t : Nat → ClassId) (b : Nat) (r : Int32) (hf : f_L_texts = some r) : Met l yL_texts (Cond.code yL_texts cL_texts 2 (some .boolean) :: ALL) ({ frames := 11, cells := 747, slots := 16258, locals := 208 }) (PN D t b) (QN b (some (.int r))) 747 16258 (geC b) := by
  refine Met.ofW (cc := cL_texts) (maxL := 2) (ret := (some .boolean)) (by decide) rfl ?_
  intro p e s m args below meth c s₁ B hml hv
  obtain ⟨rfl, hz, hE, hEC⟩ := hv
  have hz0 := hz
  have hsub : ∀ q, geA b q → geC b q := fun q h => h.1
  have hx := B.exec
  have hb := B.bytes
  have hr := B.returns
  have hts := atoms_spec (ws := Cond.code yL_texts cL_texts 2 (some .boolean) :: ALL) B.pre
  have hta := fun w h => hts w (List.mem_cons_of_mem _ h)
  have hown : s.vm.findClass RL = some m.cls := findClass_of_methodNamed B.named
  have hlocks := B.notSynchronized
  have hS : va_S (geC b) s.heap s.heap [] := va_S.rf
  have hl := lv_entry ([]) (n := 2) (Nat.le_of_ble_eq_true rfl)
  rw [lg_entry_eq]
  generalize (lg_sl ([]) ++ List.replicate (2 - (lg_sl ([])).length) Slot.unset).toArray = ls at hl ⊢
  have hl : lv_has ls 2 [] := hl
  unfold f_L_texts at hf
  refine lNew (b := b) (b0 := b) (l := l) hx hb hml hown hts hEC hz (Nat.le_refl _) hS q47 q49 q50 q34 q51 hl ⟨Nat.le_of_ble_eq_true rfl, Nat.le_of_ble_eq_true rfl⟩ ⟨show 0 + 193 ≤ 747 by omega, show 0 + 12934 ≤ 16258 by omega⟩ dL_texts_0 dL_texts_3 dL_texts_4 (fun H locs hW hz hS _ => ?_)
  refine W.widen (k := 193) (n := 12934) (by omega) (by omega) ?_
  refine lv_astore_n (lv' := [(0, .ref (b + 0))]) hx hb dL_texts_7 rfl hl (by decide) rfl (fun ls hl => ?_)
  refine lv_aload_n hx hb dL_texts_8 rfl (lv_at hl 0 rfl) ?_
  refine lv_ldc2 hx hb hown (hta _ q1065) dL_texts_9 ?_
  refine lv_lconst (v := (0 : Int64)) hx hb dL_texts_12 (by decide) ?_
  refine lv_iconst (v := 2) hx hb dL_texts_13 (by decide) ?_
  obtain ⟨y1, σ3, u2, hf⟩ := b2_e hf
  refine lS (n := 4) (As := [.ref (b + 0), .long (6435122 : Int64), .long (0 : Int64), .int 2]) (rest := []) (c_L_isError l hfl D t b s0 (6435122 : Int64) (0 : Int64) 2 y1 σ3 u2) hx hb hml hown hts hE hsub hW hS q1066 q1067 q33  q1068 hs_L_isError ⟨rfl, rfl⟩ ⟨Nat.le_of_ble_eq_true rfl, Nat.le_of_ble_eq_true rfl⟩ rfl rfl hl.1 (Nat.le_of_ble_eq_true rfl) ⟨show 193 + 18 ≤ 747 by omega, show 12934 + 108 ≤ 16258 by omega⟩ dL_texts_14 (fun H locs hW hS _ => ?_)
  refine W.widen (k := 211) (n := 13042) (by omega) (by omega) ?_
  refine lv_if_eq (tgt := 129) hx hb dL_texts_17 (by decide) (fun h4 => ?_) (fun h4 => ?_)
  · have hf := ifp h4 hf
    refine lv_iconst (v := 0) hx hb dL_texts_129 (by decide) ?_
    cases hf
    refine W.widen (k := 747) (n := 16258) (by omega) (by omega) ?_
    exact W.zret (ty := .boolean) hx hb hr (by decide) (fun u hu _ => ⟨rfl, by rw [hu]; exact hS.1, fun q hq => by rw [hu]; exact hS.2.1 q (by omega) (Nat.not_le.mpr hq)⟩) hS.2.2 dL_texts_130
  · have hf := ifn h4 hf
    refine lv_aload_n hx hb dL_texts_20 rfl (lv_at hl 0 rfl) ?_
    refine lv_ldc2 hx hb hown (hta _ q1073) dL_texts_21 ?_
    refine lv_lconst (v := (0 : Int64)) hx hb dL_texts_24 (by decide) ?_
    refine lv_iconst (v := 2) hx hb dL_texts_25 (by decide) ?_
    obtain ⟨y5, σ7, u6, hf⟩ := b2_e hf
    refine lS (n := 4) (As := [.ref (b + 0), .long (25137 : Int64), .long (0 : Int64), .int 2]) (rest := []) (c_L_isError l hfl D t b σ3 (25137 : Int64) (0 : Int64) 2 y5 σ7 u6) hx hb hml hown hts hE hsub hW hS q1066 q1067 q33  q1068 hs_L_isError ⟨rfl, rfl⟩ ⟨Nat.le_of_ble_eq_true rfl, Nat.le_of_ble_eq_true rfl⟩ rfl rfl hl.1 (Nat.le_of_ble_eq_true rfl) ⟨show 211 + 18 ≤ 747 by omega, show 13042 + 108 ≤ 16258 by omega⟩ dL_texts_26 (fun H locs hW hS _ => ?_)
    refine W.widen (k := 229) (n := 13150) (by omega) (by omega) ?_
    refine lv_if_eq (tgt := 129) hx hb dL_texts_29 (by decide) (fun h8 => ?_) (fun h8 => ?_)
    · have hf := ifp h8 hf
      refine lv_iconst (v := 0) hx hb dL_texts_129 (by decide) ?_
      cases hf
      refine W.widen (k := 747) (n := 16258) (by omega) (by omega) ?_
      exact W.zret (ty := .boolean) hx hb hr (by decide) (fun u hu _ => ⟨rfl, by rw [hu]; exact hS.1, fun q hq => by rw [hu]; exact hS.2.1 q (by omega) (Nat.not_le.mpr hq)⟩) hS.2.2 dL_texts_130
    · have hf := ifn h8 hf
      refine lv_aload_n hx hb dL_texts_32 rfl (lv_at hl 0 rfl) ?_
      refine lv_ldc2 hx hb hown (hta _ q1074) dL_texts_33 ?_
      refine lv_lconst (v := (0 : Int64)) hx hb dL_texts_36 (by decide) ?_
      refine lv_iconst (v := (-1)) hx hb dL_texts_37 (by decide) ?_
      obtain ⟨y9, σ11, u10, hf⟩ := b2_e hf
      refine lS (n := 4) (As := [.ref (b + 0), .long (107963421833566 : Int64), .long (0 : Int64), .int (-1)]) (rest := []) (c_L_isError l hfl D t b σ7 (107963421833566 : Int64) (0 : Int64) (-1) y9 σ11 u10) hx hb hml hown hts hE hsub hW hS q1066 q1067 q33  q1068 hs_L_isError ⟨rfl, rfl⟩ ⟨Nat.le_of_ble_eq_true rfl, Nat.le_of_ble_eq_true rfl⟩ rfl rfl hl.1 (Nat.le_of_ble_eq_true rfl) ⟨show 229 + 18 ≤ 747 by omega, show 13150 + 108 ≤ 16258 by omega⟩ dL_texts_38 (fun H locs hW hS _ => ?_)
      refine W.widen (k := 247) (n := 13258) (by omega) (by omega) ?_
      refine lv_if_eq (tgt := 129) hx hb dL_texts_41 (by decide) (fun h12 => ?_) (fun h12 => ?_)
      · have hf := ifp h12 hf
        refine lv_iconst (v := 0) hx hb dL_texts_129 (by decide) ?_
        cases hf
        refine W.widen (k := 747) (n := 16258) (by omega) (by omega) ?_
        exact W.zret (ty := .boolean) hx hb hr (by decide) (fun u hu _ => ⟨rfl, by rw [hu]; exact hS.1, fun q hq => by rw [hu]; exact hS.2.1 q (by omega) (Nat.not_le.mpr hq)⟩) hS.2.2 dL_texts_130
      · have hf := ifn h12 hf
        refine lv_aload_n hx hb dL_texts_44 rfl (lv_at hl 0 rfl) ?_
        refine lv_ldc2 hx hb hown (hta _ q1075) dL_texts_45 ?_
        refine lv_lconst (v := (0 : Int64)) hx hb dL_texts_48 (by decide) ?_
        refine lv_iconst (v := 3) hx hb dL_texts_49 (by decide) ?_
        obtain ⟨y13, σ15, u14, hf⟩ := b2_e hf
        refine lS (n := 4) (As := [.ref (b + 0), .long (1647405104 : Int64), .long (0 : Int64), .int 3]) (rest := []) (c_L_isError l hfl D t b σ11 (1647405104 : Int64) (0 : Int64) 3 y13 σ15 u14) hx hb hml hown hts hE hsub hW hS q1066 q1067 q33  q1068 hs_L_isError ⟨rfl, rfl⟩ ⟨Nat.le_of_ble_eq_true rfl, Nat.le_of_ble_eq_true rfl⟩ rfl rfl hl.1 (Nat.le_of_ble_eq_true rfl) ⟨show 247 + 18 ≤ 747 by omega, show 13258 + 108 ≤ 16258 by omega⟩ dL_texts_50 (fun H locs hW hS _ => ?_)
        refine W.widen (k := 265) (n := 13366) (by omega) (by omega) ?_
        refine lv_if_eq (tgt := 129) hx hb dL_texts_53 (by decide) (fun h16 => ?_) (fun h16 => ?_)
        · have hf := ifp h16 hf
          refine lv_iconst (v := 0) hx hb dL_texts_129 (by decide) ?_
          cases hf
          refine W.widen (k := 747) (n := 16258) (by omega) (by omega) ?_
          exact W.zret (ty := .boolean) hx hb hr (by decide) (fun u hu _ => ⟨rfl, by rw [hu]; exact hS.1, fun q hq => by rw [hu]; exact hS.2.1 q (by omega) (Nat.not_le.mpr hq)⟩) hS.2.2 dL_texts_130
        · have hf := ifn h16 hf
          refine lv_aload_n hx hb dL_texts_56 rfl (lv_at hl 0 rfl) ?_
          refine lv_ldc2 hx hb hown (hta _ q1076) dL_texts_57 ?_
          refine lv_lconst (v := (0 : Int64)) hx hb dL_texts_60 (by decide) ?_
          refine lv_iconst (v := 2) hx hb dL_texts_61 (by decide) ?_
          obtain ⟨y17, σ19, u18, hf⟩ := b2_e hf
          refine lS (n := 4) (As := [.ref (b + 0), .long (6434865 : Int64), .long (0 : Int64), .int 2]) (rest := []) (c_L_isError l hfl D t b σ15 (6434865 : Int64) (0 : Int64) 2 y17 σ19 u18) hx hb hml hown hts hE hsub hW hS q1066 q1067 q33  q1068 hs_L_isError ⟨rfl, rfl⟩ ⟨Nat.le_of_ble_eq_true rfl, Nat.le_of_ble_eq_true rfl⟩ rfl rfl hl.1 (Nat.le_of_ble_eq_true rfl) ⟨show 265 + 18 ≤ 747 by omega, show 13366 + 108 ≤ 16258 by omega⟩ dL_texts_62 (fun H locs hW hS _ => ?_)
          refine W.widen (k := 283) (n := 13474) (by omega) (by omega) ?_
          refine lv_if_eq (tgt := 129) hx hb dL_texts_65 (by decide) (fun h20 => ?_) (fun h20 => ?_)
          · have hf := ifp h20 hf
            refine lv_iconst (v := 0) hx hb dL_texts_129 (by decide) ?_
            cases hf
            refine W.widen (k := 747) (n := 16258) (by omega) (by omega) ?_
            exact W.zret (ty := .boolean) hx hb hr (by decide) (fun u hu _ => ⟨rfl, by rw [hu]; exact hS.1, fun q hq => by rw [hu]; exact hS.2.1 q (by omega) (Nat.not_le.mpr hq)⟩) hS.2.2 dL_texts_130
          · have hf := ifn h20 hf
            refine lv_aload_n hx hb dL_texts_68 rfl (lv_at hl 0 rfl) ?_
            refine lv_ldc2 hx hb hown (hta _ q1077) dL_texts_69 ?_
            refine lv_lconst (v := (0 : Int64)) hx hb dL_texts_72 (by decide) ?_
            refine lv_iconst (v := 1) hx hb dL_texts_73 (by decide) ?_
            obtain ⟨y21, σ23, u22, hf⟩ := b2_e hf
            refine lS (n := 4) (As := [.ref (b + 0), .long (29238 : Int64), .long (0 : Int64), .int 1]) (rest := []) (c_L_isError l hfl D t b σ19 (29238 : Int64) (0 : Int64) 1 y21 σ23 u22) hx hb hml hown hts hE hsub hW hS q1066 q1067 q33  q1068 hs_L_isError ⟨rfl, rfl⟩ ⟨Nat.le_of_ble_eq_true rfl, Nat.le_of_ble_eq_true rfl⟩ rfl rfl hl.1 (Nat.le_of_ble_eq_true rfl) ⟨show 283 + 18 ≤ 747 by omega, show 13474 + 108 ≤ 16258 by omega⟩ dL_texts_74 (fun H locs hW hS _ => ?_)
            refine W.widen (k := 301) (n := 13582) (by omega) (by omega) ?_
            refine lv_if_eq (tgt := 129) hx hb dL_texts_77 (by decide) (fun h24 => ?_) (fun h24 => ?_)
            · have hf := ifp h24 hf
              refine lv_iconst (v := 0) hx hb dL_texts_129 (by decide) ?_
              cases hf
              refine W.widen (k := 747) (n := 16258) (by omega) (by omega) ?_
              exact W.zret (ty := .boolean) hx hb hr (by decide) (fun u hu _ => ⟨rfl, by rw [hu]; exact hS.1, fun q hq => by rw [hu]; exact hS.2.1 q (by omega) (Nat.not_le.mpr hq)⟩) hS.2.2 dL_texts_130
            · have hf := ifn h24 hf
              refine lv_aload_n hx hb dL_texts_80 rfl (lv_at hl 0 rfl) ?_
              refine lv_ldc2 hx hb hown (hta _ q1078) dL_texts_81 ?_
              refine lv_lconst (v := (0 : Int64)) hx hb dL_texts_84 (by decide) ?_
              refine lv_iconst (v := 3) hx hb dL_texts_85 (by decide) ?_
              obtain ⟨y25, σ27, u26, hf⟩ := b2_e hf
              refine lS (n := 4) (As := [.ref (b + 0), .long (490435392560 : Int64), .long (0 : Int64), .int 3]) (rest := []) (c_L_isError l hfl D t b σ23 (490435392560 : Int64) (0 : Int64) 3 y25 σ27 u26) hx hb hml hown hts hE hsub hW hS q1066 q1067 q33  q1068 hs_L_isError ⟨rfl, rfl⟩ ⟨Nat.le_of_ble_eq_true rfl, Nat.le_of_ble_eq_true rfl⟩ rfl rfl hl.1 (Nat.le_of_ble_eq_true rfl) ⟨show 301 + 18 ≤ 747 by omega, show 13582 + 108 ≤ 16258 by omega⟩ dL_texts_86 (fun H locs hW hS _ => ?_)
              refine W.widen (k := 319) (n := 13690) (by omega) (by omega) ?_
              refine lv_if_eq (tgt := 129) hx hb dL_texts_89 (by decide) (fun h28 => ?_) (fun h28 => ?_)
              · have hf := ifp h28 hf
                refine lv_iconst (v := 0) hx hb dL_texts_129 (by decide) ?_
                cases hf
                refine W.widen (k := 747) (n := 16258) (by omega) (by omega) ?_
                exact W.zret (ty := .boolean) hx hb hr (by decide) (fun u hu _ => ⟨rfl, by rw [hu]; exact hS.1, fun q hq => by rw [hu]; exact hS.2.1 q (by omega) (Nat.not_le.mpr hq)⟩) hS.2.2 dL_texts_130
              · have hf := ifn h28 hf
                refine lv_aload_n hx hb dL_texts_92 rfl (lv_at hl 0 rfl) ?_
                refine lv_ldc2 hx hb hown (hta _ q1079) dL_texts_93 ?_
                refine lv_lconst (v := (0 : Int64)) hx hb dL_texts_96 (by decide) ?_
                refine lv_bipush (v := 7) hx hb dL_texts_97 (by decide) ?_
                obtain ⟨y29, σ31, u30, hf⟩ := b2_e hf
                refine lS (n := 4) (As := [.ref (b + 0), .long (8228140510782043185 : Int64), .long (0 : Int64), .int 7]) (rest := []) (c_L_isError l hfl D t b σ27 (8228140510782043185 : Int64) (0 : Int64) 7 y29 σ31 u30) hx hb hml hown hts hE hsub hW hS q1066 q1067 q33  q1068 hs_L_isError ⟨rfl, rfl⟩ ⟨Nat.le_of_ble_eq_true rfl, Nat.le_of_ble_eq_true rfl⟩ rfl rfl hl.1 (Nat.le_of_ble_eq_true rfl) ⟨show 319 + 18 ≤ 747 by omega, show 13690 + 108 ≤ 16258 by omega⟩ dL_texts_99 (fun H locs hW hS _ => ?_)
                refine W.widen (k := 337) (n := 13798) (by omega) (by omega) ?_
                refine lv_if_eq (tgt := 129) hx hb dL_texts_102 (by decide) (fun h32 => ?_) (fun h32 => ?_)
                · have hf := ifp h32 hf
                  refine lv_iconst (v := 0) hx hb dL_texts_129 (by decide) ?_
                  cases hf
                  refine W.widen (k := 747) (n := 16258) (by omega) (by omega) ?_
                  exact W.zret (ty := .boolean) hx hb hr (by decide) (fun u hu _ => ⟨rfl, by rw [hu]; exact hS.1, fun q hq => by rw [hu]; exact hS.2.1 q (by omega) (Nat.not_le.mpr hq)⟩) hS.2.2 dL_texts_130
                · have hf := ifn h32 hf
                  refine lv_aload_n hx hb dL_texts_105 rfl (lv_at hl 0 rfl) ?_
                  refine lv_ldc2 hx hb hown (hta _ q1080) dL_texts_106 ?_
                  refine lv_lconst (v := (0 : Int64)) hx hb dL_texts_109 (by decide) ?_
                  refine lv_iconst (v := 5) hx hb dL_texts_110 (by decide) ?_
                  obtain ⟨y33, σ35, u34, hf⟩ := b2_e hf
                  refine lS (n := 4) (As := [.ref (b + 0), .long (112357069107248 : Int64), .long (0 : Int64), .int 5]) (rest := []) (c_L_isError l hfl D t b σ31 (112357069107248 : Int64) (0 : Int64) 5 y33 σ35 u34) hx hb hml hown hts hE hsub hW hS q1066 q1067 q33  q1068 hs_L_isError ⟨rfl, rfl⟩ ⟨Nat.le_of_ble_eq_true rfl, Nat.le_of_ble_eq_true rfl⟩ rfl rfl hl.1 (Nat.le_of_ble_eq_true rfl) ⟨show 337 + 18 ≤ 747 by omega, show 13798 + 108 ≤ 16258 by omega⟩ dL_texts_111 (fun H locs hW hS _ => ?_)
                  refine W.widen (k := 355) (n := 13906) (by omega) (by omega) ?_
                  refine lv_if_eq (tgt := 129) hx hb dL_texts_114 (by decide) (fun h36 => ?_) (fun h36 => ?_)
                  · have hf := ifp h36 hf
                    refine lv_iconst (v := 0) hx hb dL_texts_129 (by decide) ?_
                    cases hf
                    refine W.widen (k := 747) (n := 16258) (by omega) (by omega) ?_
                    exact W.zret (ty := .boolean) hx hb hr (by decide) (fun u hu _ => ⟨rfl, by rw [hu]; exact hS.1, fun q hq => by rw [hu]; exact hS.2.1 q (by omega) (Nat.not_le.mpr hq)⟩) hS.2.2 dL_texts_130
                  · have hf := ifn h36 hf
                    refine lv_aload_n hx hb dL_texts_117 rfl (lv_at hl 0 rfl) ?_
                    refine lv_ldc2 hx hb hown (hta _ q1081) dL_texts_118 ?_
                    refine lv_lconst (v := (0 : Int64)) hx hb dL_texts_121 (by decide) ?_
                    refine lv_iconst (v := 4) hx hb dL_texts_122 (by decide) ?_
                    obtain ⟨y37, σ39, u38, hf⟩ := b2_e hf
                    refine lS (n := 4) (As := [.ref (b + 0), .long (426161825844 : Int64), .long (0 : Int64), .int 4]) (rest := []) (c_L_isError l hfl D t b σ35 (426161825844 : Int64) (0 : Int64) 4 y37 σ39 u38) hx hb hml hown hts hE hsub hW hS q1066 q1067 q33  q1068 hs_L_isError ⟨rfl, rfl⟩ ⟨Nat.le_of_ble_eq_true rfl, Nat.le_of_ble_eq_true rfl⟩ rfl rfl hl.1 (Nat.le_of_ble_eq_true rfl) ⟨show 355 + 18 ≤ 747 by omega, show 13906 + 108 ≤ 16258 by omega⟩ dL_texts_123 (fun H locs hW hS _ => ?_)
                    refine W.widen (k := 373) (n := 14014) (by omega) (by omega) ?_
                    refine lv_if_ne (tgt := 131) hx hb dL_texts_126 (by decide) (fun h40 => ?_) (fun h40 => ?_)
                    · have hf := ifn h40 hf
                      refine lv_aload_n hx hb dL_texts_131 rfl (lv_at hl 0 rfl) ?_
                      refine lv_ldc2 hx hb hown (hta _ q1082) dL_texts_132 ?_
                      refine lv_lconst (v := (0 : Int64)) hx hb dL_texts_135 (by decide) ?_
                      refine lv_iconst (v := 3) hx hb dL_texts_136 (by decide) ?_
                      obtain ⟨y41, σ43, u42, hf⟩ := b2_e hf
                      refine lS (n := 4) (As := [.ref (b + 0), .long (1664167984 : Int64), .long (0 : Int64), .int 3]) (rest := []) (c_L_isError l hfl D t b σ39 (1664167984 : Int64) (0 : Int64) 3 y41 σ43 u42) hx hb hml hown hts hE hsub hW hS q1066 q1067 q33  q1068 hs_L_isError ⟨rfl, rfl⟩ ⟨Nat.le_of_ble_eq_true rfl, Nat.le_of_ble_eq_true rfl⟩ rfl rfl hl.1 (Nat.le_of_ble_eq_true rfl) ⟨show 373 + 18 ≤ 747 by omega, show 14014 + 108 ≤ 16258 by omega⟩ dL_texts_137 (fun H locs hW hS _ => ?_)
                      refine W.widen (k := 391) (n := 14122) (by omega) (by omega) ?_
                      refine lv_if_eq (tgt := 262) hx hb dL_texts_140 (by decide) (fun h44 => ?_) (fun h44 => ?_)
                      · have hf := ifp h44 hf
                        refine lv_iconst (v := 0) hx hb dL_texts_262 (by decide) ?_
                        cases hf
                        refine W.widen (k := 747) (n := 16258) (by omega) (by omega) ?_
                        exact W.zret (ty := .boolean) hx hb hr (by decide) (fun u hu _ => ⟨rfl, by rw [hu]; exact hS.1, fun q hq => by rw [hu]; exact hS.2.1 q (by omega) (Nat.not_le.mpr hq)⟩) hS.2.2 dL_texts_263
                      · have hf := ifn h44 hf
                        refine lv_aload_n hx hb dL_texts_143 rfl (lv_at hl 0 rfl) ?_
                        refine lv_ldc2 hx hb hown (hta _ q1083) dL_texts_144 ?_
                        refine lv_lconst (v := (0 : Int64)) hx hb dL_texts_147 (by decide) ?_
                        refine lv_iconst (v := 4) hx hb dL_texts_148 (by decide) ?_
                        obtain ⟨y45, σ47, u46, hf⟩ := b2_e hf
                        refine lS (n := 4) (As := [.ref (b + 0), .long (511910424880 : Int64), .long (0 : Int64), .int 4]) (rest := []) (c_L_isError l hfl D t b σ43 (511910424880 : Int64) (0 : Int64) 4 y45 σ47 u46) hx hb hml hown hts hE hsub hW hS q1066 q1067 q33  q1068 hs_L_isError ⟨rfl, rfl⟩ ⟨Nat.le_of_ble_eq_true rfl, Nat.le_of_ble_eq_true rfl⟩ rfl rfl hl.1 (Nat.le_of_ble_eq_true rfl) ⟨show 391 + 18 ≤ 747 by omega, show 14122 + 108 ≤ 16258 by omega⟩ dL_texts_149 (fun H locs hW hS _ => ?_)
                        refine W.widen (k := 409) (n := 14230) (by omega) (by omega) ?_
                        refine lv_if_eq (tgt := 262) hx hb dL_texts_152 (by decide) (fun h48 => ?_) (fun h48 => ?_)
                        · have hf := ifp h48 hf
                          refine lv_iconst (v := 0) hx hb dL_texts_262 (by decide) ?_
                          cases hf
                          refine W.widen (k := 747) (n := 16258) (by omega) (by omega) ?_
                          exact W.zret (ty := .boolean) hx hb hr (by decide) (fun u hu _ => ⟨rfl, by rw [hu]; exact hS.1, fun q hq => by rw [hu]; exact hS.2.1 q (by omega) (Nat.not_le.mpr hq)⟩) hS.2.2 dL_texts_263
                        · have hf := ifn h48 hf
                          refine lv_aload_n hx hb dL_texts_155 rfl (lv_at hl 0 rfl) ?_
                          refine lv_ldc2 hx hb hown (hta _ q1084) dL_texts_156 ?_
                          refine lv_lconst (v := (0 : Int64)) hx hb dL_texts_159 (by decide) ?_
                          refine lv_iconst (v := 1) hx hb dL_texts_160 (by decide) ?_
                          obtain ⟨y49, σ51, u50, hf⟩ := b2_e hf
                          refine lS (n := 4) (As := [.ref (b + 0), .long (28720 : Int64), .long (0 : Int64), .int 1]) (rest := []) (c_L_isError l hfl D t b σ47 (28720 : Int64) (0 : Int64) 1 y49 σ51 u50) hx hb hml hown hts hE hsub hW hS q1066 q1067 q33  q1068 hs_L_isError ⟨rfl, rfl⟩ ⟨Nat.le_of_ble_eq_true rfl, Nat.le_of_ble_eq_true rfl⟩ rfl rfl hl.1 (Nat.le_of_ble_eq_true rfl) ⟨show 409 + 18 ≤ 747 by omega, show 14230 + 108 ≤ 16258 by omega⟩ dL_texts_161 (fun H locs hW hS _ => ?_)
                          refine W.widen (k := 427) (n := 14338) (by omega) (by omega) ?_
                          refine lv_if_eq (tgt := 262) hx hb dL_texts_164 (by decide) (fun h52 => ?_) (fun h52 => ?_)
                          · have hf := ifp h52 hf
                            refine lv_iconst (v := 0) hx hb dL_texts_262 (by decide) ?_
                            cases hf
                            refine W.widen (k := 747) (n := 16258) (by omega) (by omega) ?_
                            exact W.zret (ty := .boolean) hx hb hr (by decide) (fun u hu _ => ⟨rfl, by rw [hu]; exact hS.1, fun q hq => by rw [hu]; exact hS.2.1 q (by omega) (Nat.not_le.mpr hq)⟩) hS.2.2 dL_texts_263
                          · have hf := ifn h52 hf
                            refine lv_aload_n hx hb dL_texts_167 rfl (lv_at hl 0 rfl) ?_
                            refine lv_ldc2 hx hb hown (hta _ q1085) dL_texts_168 ?_
                            refine lv_lconst (v := (0 : Int64)) hx hb dL_texts_171 (by decide) ?_
                            refine lv_iconst (v := 2) hx hb dL_texts_172 (by decide) ?_
                            obtain ⟨y53, σ55, u54, hf⟩ := b2_e hf
                            refine lS (n := 4) (As := [.ref (b + 0), .long (7353393 : Int64), .long (0 : Int64), .int 2]) (rest := []) (c_L_isError l hfl D t b σ51 (7353393 : Int64) (0 : Int64) 2 y53 σ55 u54) hx hb hml hown hts hE hsub hW hS q1066 q1067 q33  q1068 hs_L_isError ⟨rfl, rfl⟩ ⟨Nat.le_of_ble_eq_true rfl, Nat.le_of_ble_eq_true rfl⟩ rfl rfl hl.1 (Nat.le_of_ble_eq_true rfl) ⟨show 427 + 18 ≤ 747 by omega, show 14338 + 108 ≤ 16258 by omega⟩ dL_texts_173 (fun H locs hW hS _ => ?_)
                            refine W.widen (k := 445) (n := 14446) (by omega) (by omega) ?_
                            refine lv_if_eq (tgt := 262) hx hb dL_texts_176 (by decide) (fun h56 => ?_) (fun h56 => ?_)
                            · have hf := ifp h56 hf
                              refine lv_iconst (v := 0) hx hb dL_texts_262 (by decide) ?_
                              cases hf
                              refine W.widen (k := 747) (n := 16258) (by omega) (by omega) ?_
                              exact W.zret (ty := .boolean) hx hb hr (by decide) (fun u hu _ => ⟨rfl, by rw [hu]; exact hS.1, fun q hq => by rw [hu]; exact hS.2.1 q (by omega) (Nat.not_le.mpr hq)⟩) hS.2.2 dL_texts_263
                            · have hf := ifn h56 hf
                              refine lv_aload_n hx hb dL_texts_179 rfl (lv_at hl 0 rfl) ?_
                              refine lv_ldc2 hx hb hown (hta _ q1086) dL_texts_180 ?_
                              refine lv_lconst (v := (0 : Int64)) hx hb dL_texts_183 (by decide) ?_
                              refine lv_iconst (v := 5) hx hb dL_texts_184 (by decide) ?_
                              obtain ⟨y57, σ59, u58, hf⟩ := b2_e hf
                              refine lS (n := 4) (As := [.ref (b + 0), .long (107960046280286 : Int64), .long (0 : Int64), .int 5]) (rest := []) (c_L_isError l hfl D t b σ55 (107960046280286 : Int64) (0 : Int64) 5 y57 σ59 u58) hx hb hml hown hts hE hsub hW hS q1066 q1067 q33  q1068 hs_L_isError ⟨rfl, rfl⟩ ⟨Nat.le_of_ble_eq_true rfl, Nat.le_of_ble_eq_true rfl⟩ rfl rfl hl.1 (Nat.le_of_ble_eq_true rfl) ⟨show 445 + 18 ≤ 747 by omega, show 14446 + 108 ≤ 16258 by omega⟩ dL_texts_185 (fun H locs hW hS _ => ?_)
                              refine W.widen (k := 463) (n := 14554) (by omega) (by omega) ?_
                              refine lv_if_eq (tgt := 262) hx hb dL_texts_188 (by decide) (fun h60 => ?_) (fun h60 => ?_)
                              · have hf := ifp h60 hf
                                refine lv_iconst (v := 0) hx hb dL_texts_262 (by decide) ?_
                                cases hf
                                refine W.widen (k := 747) (n := 16258) (by omega) (by omega) ?_
                                exact W.zret (ty := .boolean) hx hb hr (by decide) (fun u hu _ => ⟨rfl, by rw [hu]; exact hS.1, fun q hq => by rw [hu]; exact hS.2.1 q (by omega) (Nat.not_le.mpr hq)⟩) hS.2.2 dL_texts_263
                              · have hf := ifn h60 hf
                                refine lv_aload_n hx hb dL_texts_191 rfl (lv_at hl 0 rfl) ?_
                                refine lv_lconst (v := (0 : Int64)) hx hb dL_texts_192 (by decide) ?_
                                refine lv_lconst (v := (0 : Int64)) hx hb dL_texts_193 (by decide) ?_
                                refine lv_iconst (v := 0) hx hb dL_texts_194 (by decide) ?_
                                obtain ⟨y61, σ63, u62, hf⟩ := b2_e hf
                                refine lS (n := 4) (As := [.ref (b + 0), .long (0 : Int64), .long (0 : Int64), .int 0]) (rest := []) (c_L_isError l hfl D t b σ59 (0 : Int64) (0 : Int64) 0 y61 σ63 u62) hx hb hml hown hts hE hsub hW hS q1066 q1067 q33  q1068 hs_L_isError ⟨rfl, rfl⟩ ⟨Nat.le_of_ble_eq_true rfl, Nat.le_of_ble_eq_true rfl⟩ rfl rfl hl.1 (Nat.le_of_ble_eq_true rfl) ⟨show 463 + 18 ≤ 747 by omega, show 14554 + 108 ≤ 16258 by omega⟩ dL_texts_195 (fun H locs hW hS _ => ?_)
                                refine W.widen (k := 481) (n := 14662) (by omega) (by omega) ?_
                                refine lv_if_eq (tgt := 262) hx hb dL_texts_198 (by decide) (fun h64 => ?_) (fun h64 => ?_)
                                · have hf := ifp h64 hf
                                  refine lv_iconst (v := 0) hx hb dL_texts_262 (by decide) ?_
                                  cases hf
                                  refine W.widen (k := 747) (n := 16258) (by omega) (by omega) ?_
                                  exact W.zret (ty := .boolean) hx hb hr (by decide) (fun u hu _ => ⟨rfl, by rw [hu]; exact hS.1, fun q hq => by rw [hu]; exact hS.2.1 q (by omega) (Nat.not_le.mpr hq)⟩) hS.2.2 dL_texts_263
                                · have hf := ifn h64 hf
                                  refine lv_aload_n hx hb dL_texts_201 rfl (lv_at hl 0 rfl) ?_
                                  refine lv_ldc2 hx hb hown (hta _ q1087) dL_texts_202 ?_
                                  refine lv_lconst (v := (0 : Int64)) hx hb dL_texts_205 (by decide) ?_
                                  refine lv_iconst (v := 3) hx hb dL_texts_206 (by decide) ?_
                                  obtain ⟨y65, σ67, u66, hf⟩ := b2_e hf
                                  refine lS (n := 4) (As := [.ref (b + 0), .long (7352635 : Int64), .long (0 : Int64), .int 3]) (rest := []) (c_L_isError l hfl D t b σ63 (7352635 : Int64) (0 : Int64) 3 y65 σ67 u66) hx hb hml hown hts hE hsub hW hS q1066 q1067 q33  q1068 hs_L_isError ⟨rfl, rfl⟩ ⟨Nat.le_of_ble_eq_true rfl, Nat.le_of_ble_eq_true rfl⟩ rfl rfl hl.1 (Nat.le_of_ble_eq_true rfl) ⟨show 481 + 18 ≤ 747 by omega, show 14662 + 108 ≤ 16258 by omega⟩ dL_texts_207 (fun H locs hW hS _ => ?_)
                                  refine W.widen (k := 499) (n := 14770) (by omega) (by omega) ?_
                                  refine lv_if_eq (tgt := 262) hx hb dL_texts_210 (by decide) (fun h68 => ?_) (fun h68 => ?_)
                                  · have hf := ifp h68 hf
                                    refine lv_iconst (v := 0) hx hb dL_texts_262 (by decide) ?_
                                    cases hf
                                    refine W.widen (k := 747) (n := 16258) (by omega) (by omega) ?_
                                    exact W.zret (ty := .boolean) hx hb hr (by decide) (fun u hu _ => ⟨rfl, by rw [hu]; exact hS.1, fun q hq => by rw [hu]; exact hS.2.1 q (by omega) (Nat.not_le.mpr hq)⟩) hS.2.2 dL_texts_263
                                  · have hf := ifn h68 hf
                                    refine lv_aload_n hx hb dL_texts_213 rfl (lv_at hl 0 rfl) ?_
                                    refine lv_ldc2 hx hb hown (hta _ q1088) dL_texts_214 ?_
                                    refine lv_lconst (v := (0 : Int64)) hx hb dL_texts_217 (by decide) ?_
                                    refine lv_iconst (v := (-1)) hx hb dL_texts_218 (by decide) ?_
                                    obtain ⟨y69, σ71, u70, hf⟩ := b2_e hf
                                    refine lS (n := 4) (As := [.ref (b + 0), .long (8229547885615264816 : Int64), .long (0 : Int64), .int (-1)]) (rest := []) (c_L_isError l hfl D t b σ67 (8229547885615264816 : Int64) (0 : Int64) (-1) y69 σ71 u70) hx hb hml hown hts hE hsub hW hS q1066 q1067 q33  q1068 hs_L_isError ⟨rfl, rfl⟩ ⟨Nat.le_of_ble_eq_true rfl, Nat.le_of_ble_eq_true rfl⟩ rfl rfl hl.1 (Nat.le_of_ble_eq_true rfl) ⟨show 499 + 18 ≤ 747 by omega, show 14770 + 108 ≤ 16258 by omega⟩ dL_texts_219 (fun H locs hW hS _ => ?_)
                                    refine W.widen (k := 517) (n := 14878) (by omega) (by omega) ?_
                                    refine lv_if_eq (tgt := 262) hx hb dL_texts_222 (by decide) (fun h72 => ?_) (fun h72 => ?_)
                                    · have hf := ifp h72 hf
                                      refine lv_iconst (v := 0) hx hb dL_texts_262 (by decide) ?_
                                      cases hf
                                      refine W.widen (k := 747) (n := 16258) (by omega) (by omega) ?_
                                      exact W.zret (ty := .boolean) hx hb hr (by decide) (fun u hu _ => ⟨rfl, by rw [hu]; exact hS.1, fun q hq => by rw [hu]; exact hS.2.1 q (by omega) (Nat.not_le.mpr hq)⟩) hS.2.2 dL_texts_263
                                    · have hf := ifn h72 hf
                                      refine lv_aload_n hx hb dL_texts_225 rfl (lv_at hl 0 rfl) ?_
                                      refine lv_ldc2 hx hb hown (hta _ q1089) dL_texts_226 ?_
                                      refine lv_lconst (v := (0 : Int64)) hx hb dL_texts_229 (by decide) ?_
                                      refine lv_iconst (v := (-1)) hx hb dL_texts_230 (by decide) ?_
                                      obtain ⟨y73, σ75, u74, hf⟩ := b2_e hf
                                      refine lS (n := 4) (As := [.ref (b + 0), .long (7147340372026340400 : Int64), .long (0 : Int64), .int (-1)]) (rest := []) (c_L_isError l hfl D t b σ71 (7147340372026340400 : Int64) (0 : Int64) (-1) y73 σ75 u74) hx hb hml hown hts hE hsub hW hS q1066 q1067 q33  q1068 hs_L_isError ⟨rfl, rfl⟩ ⟨Nat.le_of_ble_eq_true rfl, Nat.le_of_ble_eq_true rfl⟩ rfl rfl hl.1 (Nat.le_of_ble_eq_true rfl) ⟨show 517 + 18 ≤ 747 by omega, show 14878 + 108 ≤ 16258 by omega⟩ dL_texts_231 (fun H locs hW hS _ => ?_)
                                      refine W.widen (k := 535) (n := 14986) (by omega) (by omega) ?_
                                      refine lv_if_eq (tgt := 262) hx hb dL_texts_234 (by decide) (fun h76 => ?_) (fun h76 => ?_)
                                      · have hf := ifp h76 hf
                                        refine lv_iconst (v := 0) hx hb dL_texts_262 (by decide) ?_
                                        cases hf
                                        refine W.widen (k := 747) (n := 16258) (by omega) (by omega) ?_
                                        exact W.zret (ty := .boolean) hx hb hr (by decide) (fun u hu _ => ⟨rfl, by rw [hu]; exact hS.1, fun q hq => by rw [hu]; exact hS.2.1 q (by omega) (Nat.not_le.mpr hq)⟩) hS.2.2 dL_texts_263
                                      · have hf := ifn h76 hf
                                        refine lv_aload_n hx hb dL_texts_237 rfl (lv_at hl 0 rfl) ?_
                                        refine lv_ldc2 hx hb hown (hta _ q1090) dL_texts_238 ?_
                                        refine lv_lconst (v := (0 : Int64)) hx hb dL_texts_241 (by decide) ?_
                                        refine lv_iconst (v := 2) hx hb dL_texts_242 (by decide) ?_
                                        obtain ⟨y77, σ79, u78, hf⟩ := b2_e hf
                                        refine lS (n := 4) (As := [.ref (b + 0), .long (6435704 : Int64), .long (0 : Int64), .int 2]) (rest := []) (c_L_isError l hfl D t b σ75 (6435704 : Int64) (0 : Int64) 2 y77 σ79 u78) hx hb hml hown hts hE hsub hW hS q1066 q1067 q33  q1068 hs_L_isError ⟨rfl, rfl⟩ ⟨Nat.le_of_ble_eq_true rfl, Nat.le_of_ble_eq_true rfl⟩ rfl rfl hl.1 (Nat.le_of_ble_eq_true rfl) ⟨show 535 + 18 ≤ 747 by omega, show 14986 + 108 ≤ 16258 by omega⟩ dL_texts_243 (fun H locs hW hS _ => ?_)
                                        refine W.widen (k := 553) (n := 15094) (by omega) (by omega) ?_
                                        refine lv_if_eq (tgt := 262) hx hb dL_texts_246 (by decide) (fun h80 => ?_) (fun h80 => ?_)
                                        · have hf := ifp h80 hf
                                          refine lv_iconst (v := 0) hx hb dL_texts_262 (by decide) ?_
                                          cases hf
                                          refine W.widen (k := 747) (n := 16258) (by omega) (by omega) ?_
                                          exact W.zret (ty := .boolean) hx hb hr (by decide) (fun u hu _ => ⟨rfl, by rw [hu]; exact hS.1, fun q hq => by rw [hu]; exact hS.2.1 q (by omega) (Nat.not_le.mpr hq)⟩) hS.2.2 dL_texts_263
                                        · have hf := ifn h80 hf
                                          refine lv_aload_n hx hb dL_texts_249 rfl (lv_at hl 0 rfl) ?_
                                          refine lv_ldc2 hx hb hown (hta _ q1091) dL_texts_250 ?_
                                          refine lv_lconst (v := (0 : Int64)) hx hb dL_texts_253 (by decide) ?_
                                          refine lv_bipush (v := 8) hx hb dL_texts_254 (by decide) ?_
                                          obtain ⟨y81, σ83, u82, hf⟩ := b2_e hf
                                          refine lS (n := 4) (As := [.ref (b + 0), .long (8590965080204914731 : Int64), .long (0 : Int64), .int 8]) (rest := []) (c_L_isError l hfl D t b σ79 (8590965080204914731 : Int64) (0 : Int64) 8 y81 σ83 u82) hx hb hml hown hts hE hsub hW hS q1066 q1067 q33  q1068 hs_L_isError ⟨rfl, rfl⟩ ⟨Nat.le_of_ble_eq_true rfl, Nat.le_of_ble_eq_true rfl⟩ rfl rfl hl.1 (Nat.le_of_ble_eq_true rfl) ⟨show 553 + 18 ≤ 747 by omega, show 15094 + 108 ≤ 16258 by omega⟩ dL_texts_256 (fun H locs hW hS _ => ?_)
                                          refine W.widen (k := 571) (n := 15202) (by omega) (by omega) ?_
                                          refine lv_if_ne (tgt := 264) hx hb dL_texts_259 (by decide) (fun h84 => ?_) (fun h84 => ?_)
                                          · have hf := ifn h84 hf
                                            refine lv_aload_n hx hb dL_texts_264 rfl (lv_at hl 0 rfl) ?_
                                            obtain ⟨y85, σ87, u86, hf⟩ := b2_e hf
                                            refine lV (n := 0) (As := []) (rest := []) (c_X4_clearText l D t b σ83 y85 σ87 u86) hx hb hml hown hts hE hsub hW hS q991 q992 q993 q34 q994 hy_X4_clearText ⟨rfl, rfl⟩ ⟨Nat.le_of_ble_eq_true rfl, Nat.le_of_ble_eq_true rfl⟩ rfl rfl hl.1 (Nat.le_of_ble_eq_true rfl) ⟨show 571 ≤ 747 by omega, show 15202 ≤ 16258 by omega⟩ dL_texts_265 (fun H locs hW hS _ => ?_)
                                            refine lv_bipush (v := 8) hx hb dL_texts_268 (by decide) ?_
                                            refine lv_icmp_ne (tgt := 528) hx hb dL_texts_270 (by decide) (fun h88 => ?_) (fun h88 => ?_)
                                            · have hf := ifn h88 hf
                                              refine lv_iconst (v := 0) hx hb dL_texts_528 (by decide) ?_
                                              cases hf
                                              refine W.widen (k := 747) (n := 16258) (by omega) (by omega) ?_
                                              exact W.zret (ty := .boolean) hx hb hr (by decide) (fun u hu _ => ⟨rfl, by rw [hu]; exact hS.1, fun q hq => by rw [hu]; exact hS.2.1 q (by omega) (Nat.not_le.mpr hq)⟩) hS.2.2 dL_texts_529
                                            · have hf := ifp h88 hf
                                              refine lv_aload_n hx hb dL_texts_273 rfl (lv_at hl 0 rfl) ?_
                                              refine lv_ldc2 hx hb hown (hta _ q1092) dL_texts_274 ?_
                                              obtain ⟨y89, σ91, u90, hf⟩ := b2_e hf
                                              refine lS (n := 2) (As := [.ref (b + 0), .long (7075282774277187120 : Int64)]) (rest := []) (c_L_types l hfl D t b σ87 (7075282774277187120 : Int64) y89 σ91 u90) hx hb hml hown hts hE hsub hW hS q1069 q1070 q33  q1071 hs_L_types ⟨rfl, rfl⟩ ⟨Nat.le_of_ble_eq_true rfl, Nat.le_of_ble_eq_true rfl⟩ rfl rfl hl.1 (Nat.le_of_ble_eq_true rfl) ⟨show 571 + 9 ≤ 747 by omega, show 15202 + 54 ≤ 16258 by omega⟩ dL_texts_277 (fun H locs hW hS _ => ?_)
                                              refine W.widen (k := 580) (n := 15256) (by omega) (by omega) ?_
                                              refine lv_if_eq (tgt := 528) hx hb dL_texts_280 (by decide) (fun h92 => ?_) (fun h92 => ?_)
                                              · have hf := ifp h92 hf
                                                refine lv_iconst (v := 0) hx hb dL_texts_528 (by decide) ?_
                                                cases hf
                                                refine W.widen (k := 747) (n := 16258) (by omega) (by omega) ?_
                                                exact W.zret (ty := .boolean) hx hb hr (by decide) (fun u hu _ => ⟨rfl, by rw [hu]; exact hS.1, fun q hq => by rw [hu]; exact hS.2.1 q (by omega) (Nat.not_le.mpr hq)⟩) hS.2.2 dL_texts_529
                                              · have hf := ifn h92 hf
                                                refine lv_aload_n hx hb dL_texts_283 rfl (lv_at hl 0 rfl) ?_
                                                refine lv_ldc2 hx hb hown (hta _ q1093) dL_texts_284 ?_
                                                obtain ⟨y93, σ95, u94, hf⟩ := b2_e hf
                                                refine lS (n := 2) (As := [.ref (b + 0), .long (3112884799320111664 : Int64)]) (rest := []) (c_L_types l hfl D t b σ91 (3112884799320111664 : Int64) y93 σ95 u94) hx hb hml hown hts hE hsub hW hS q1069 q1070 q33  q1071 hs_L_types ⟨rfl, rfl⟩ ⟨Nat.le_of_ble_eq_true rfl, Nat.le_of_ble_eq_true rfl⟩ rfl rfl hl.1 (Nat.le_of_ble_eq_true rfl) ⟨show 580 + 9 ≤ 747 by omega, show 15256 + 54 ≤ 16258 by omega⟩ dL_texts_287 (fun H locs hW hS _ => ?_)
                                                refine W.widen (k := 589) (n := 15310) (by omega) (by omega) ?_
                                                refine lv_if_eq (tgt := 528) hx hb dL_texts_290 (by decide) (fun h96 => ?_) (fun h96 => ?_)
                                                · have hf := ifp h96 hf
                                                  refine lv_iconst (v := 0) hx hb dL_texts_528 (by decide) ?_
                                                  cases hf
                                                  refine W.widen (k := 747) (n := 16258) (by omega) (by omega) ?_
                                                  exact W.zret (ty := .boolean) hx hb hr (by decide) (fun u hu _ => ⟨rfl, by rw [hu]; exact hS.1, fun q hq => by rw [hu]; exact hS.2.1 q (by omega) (Nat.not_le.mpr hq)⟩) hS.2.2 dL_texts_529
                                                · have hf := ifn h96 hf
                                                  refine lv_aload_n hx hb dL_texts_293 rfl (lv_at hl 0 rfl) ?_
                                                  refine lv_ldc2 hx hb hown (hta _ q1094) dL_texts_294 ?_
                                                  obtain ⟨y97, σ99, u98, hf⟩ := b2_e hf
                                                  refine lS (n := 2) (As := [.ref (b + 0), .long (3470649390072948786 : Int64)]) (rest := []) (c_L_types l hfl D t b σ95 (3470649390072948786 : Int64) y97 σ99 u98) hx hb hml hown hts hE hsub hW hS q1069 q1070 q33  q1071 hs_L_types ⟨rfl, rfl⟩ ⟨Nat.le_of_ble_eq_true rfl, Nat.le_of_ble_eq_true rfl⟩ rfl rfl hl.1 (Nat.le_of_ble_eq_true rfl) ⟨show 589 + 9 ≤ 747 by omega, show 15310 + 54 ≤ 16258 by omega⟩ dL_texts_297 (fun H locs hW hS _ => ?_)
                                                  refine W.widen (k := 598) (n := 15364) (by omega) (by omega) ?_
                                                  refine lv_if_eq (tgt := 528) hx hb dL_texts_300 (by decide) (fun h100 => ?_) (fun h100 => ?_)
                                                  · have hf := ifp h100 hf
                                                    refine lv_iconst (v := 0) hx hb dL_texts_528 (by decide) ?_
                                                    cases hf
                                                    refine W.widen (k := 747) (n := 16258) (by omega) (by omega) ?_
                                                    exact W.zret (ty := .boolean) hx hb hr (by decide) (fun u hu _ => ⟨rfl, by rw [hu]; exact hS.1, fun q hq => by rw [hu]; exact hS.2.1 q (by omega) (Nat.not_le.mpr hq)⟩) hS.2.2 dL_texts_529
                                                  · have hf := ifn h100 hf
                                                    refine lv_aload_n hx hb dL_texts_303 rfl (lv_at hl 0 rfl) ?_
                                                    refine lv_ldc2 hx hb hown (hta _ q1095) dL_texts_304 ?_
                                                    obtain ⟨y101, σ103, u102, hf⟩ := b2_e hf
                                                    refine lS (n := 2) (As := [.ref (b + 0), .long (4284949908478980149 : Int64)]) (rest := []) (c_L_types l hfl D t b σ99 (4284949908478980149 : Int64) y101 σ103 u102) hx hb hml hown hts hE hsub hW hS q1069 q1070 q33  q1071 hs_L_types ⟨rfl, rfl⟩ ⟨Nat.le_of_ble_eq_true rfl, Nat.le_of_ble_eq_true rfl⟩ rfl rfl hl.1 (Nat.le_of_ble_eq_true rfl) ⟨show 598 + 9 ≤ 747 by omega, show 15364 + 54 ≤ 16258 by omega⟩ dL_texts_307 (fun H locs hW hS _ => ?_)
                                                    refine W.widen (k := 607) (n := 15418) (by omega) (by omega) ?_
                                                    refine lv_if_eq (tgt := 528) hx hb dL_texts_310 (by decide) (fun h104 => ?_) (fun h104 => ?_)
                                                    · have hf := ifp h104 hf
                                                      refine lv_iconst (v := 0) hx hb dL_texts_528 (by decide) ?_
                                                      cases hf
                                                      refine W.widen (k := 747) (n := 16258) (by omega) (by omega) ?_
                                                      exact W.zret (ty := .boolean) hx hb hr (by decide) (fun u hu _ => ⟨rfl, by rw [hu]; exact hS.1, fun q hq => by rw [hu]; exact hS.2.1 q (by omega) (Nat.not_le.mpr hq)⟩) hS.2.2 dL_texts_529
                                                    · have hf := ifn h104 hf
                                                      refine lv_aload_n hx hb dL_texts_313 rfl (lv_at hl 0 rfl) ?_
                                                      refine lv_ldc2 hx hb hown (hta _ q1096) dL_texts_314 ?_
                                                      obtain ⟨y105, σ107, u106, hf⟩ := b2_e hf
                                                      refine lS (n := 2) (As := [.ref (b + 0), .long (4283539222107793977 : Int64)]) (rest := []) (c_L_types l hfl D t b σ103 (4283539222107793977 : Int64) y105 σ107 u106) hx hb hml hown hts hE hsub hW hS q1069 q1070 q33  q1071 hs_L_types ⟨rfl, rfl⟩ ⟨Nat.le_of_ble_eq_true rfl, Nat.le_of_ble_eq_true rfl⟩ rfl rfl hl.1 (Nat.le_of_ble_eq_true rfl) ⟨show 607 + 9 ≤ 747 by omega, show 15418 + 54 ≤ 16258 by omega⟩ dL_texts_317 (fun H locs hW hS _ => ?_)
                                                      refine W.widen (k := 616) (n := 15472) (by omega) (by omega) ?_
                                                      refine lv_if_eq (tgt := 528) hx hb dL_texts_320 (by decide) (fun h108 => ?_) (fun h108 => ?_)
                                                      · have hf := ifp h108 hf
                                                        refine lv_iconst (v := 0) hx hb dL_texts_528 (by decide) ?_
                                                        cases hf
                                                        refine W.widen (k := 747) (n := 16258) (by omega) (by omega) ?_
                                                        exact W.zret (ty := .boolean) hx hb hr (by decide) (fun u hu _ => ⟨rfl, by rw [hu]; exact hS.1, fun q hq => by rw [hu]; exact hS.2.1 q (by omega) (Nat.not_le.mpr hq)⟩) hS.2.2 dL_texts_529
                                                      · have hf := ifn h108 hf
                                                        refine lv_aload_n hx hb dL_texts_323 rfl (lv_at hl 0 rfl) ?_
                                                        obtain ⟨y109, σ111, u110, hf⟩ := b2_e hf
                                                        refine lV (n := 0) (As := []) (rest := []) (c_X4_textError l D t b σ107 y109 σ111 u110) hx hb hml hown hts hE hsub hW hS q936 q937 q938 q34 q939 hy_X4_textError ⟨rfl, rfl⟩ ⟨Nat.le_of_ble_eq_true rfl, Nat.le_of_ble_eq_true rfl⟩ rfl rfl hl.1 (Nat.le_of_ble_eq_true rfl) ⟨show 616 ≤ 747 by omega, show 15472 ≤ 16258 by omega⟩ dL_texts_324 (fun H locs hW hS _ => ?_)
                                                        refine lv_iconst (v := (-1)) hx hb dL_texts_327 (by decide) ?_
                                                        refine lv_icmp_ne (tgt := 528) hx hb dL_texts_328 (by decide) (fun h112 => ?_) (fun h112 => ?_)
                                                        · have hf := ifn h112 hf
                                                          refine lv_iconst (v := 0) hx hb dL_texts_528 (by decide) ?_
                                                          cases hf
                                                          refine W.widen (k := 747) (n := 16258) (by omega) (by omega) ?_
                                                          exact W.zret (ty := .boolean) hx hb hr (by decide) (fun u hu _ => ⟨rfl, by rw [hu]; exact hS.1, fun q hq => by rw [hu]; exact hS.2.1 q (by omega) (Nat.not_le.mpr hq)⟩) hS.2.2 dL_texts_529
                                                        · have hf := ifp h112 hf
                                                          refine lv_aload_n hx hb dL_texts_331 rfl (lv_at hl 0 rfl) ?_
                                                          obtain ⟨y113, σ115, u114, hf⟩ := bn2_e hf
                                                          refine lVXn (n := 0) (As := []) (rest := []) (c_X4_impossibleOrder l hfl D t b σ111 (.inr (y113, σ115)) u114) hx hb hml hown hts hE hsub hW hS q932 q933 q934 q34 q935 hy_X4_impossibleOrder ⟨rfl, rfl⟩ ⟨Nat.le_of_ble_eq_true rfl, Nat.le_of_ble_eq_true rfl⟩ rfl rfl hl.1 (Nat.le_of_ble_eq_true rfl) ⟨show 616 + 1 ≤ 747 by omega, show 15472 + 6 ≤ 16258 by omega⟩ dL_texts_332 (fun H locs hW hS _ => ?_)
                                                          refine W.widen (k := 617) (n := 15478) (by omega) (by omega) ?_
                                                          refine lv_bipush (v := 6) hx hb dL_texts_335 (by decide) ?_
                                                          refine lv_icmp_ne (tgt := 528) hx hb dL_texts_337 (by decide) (fun h116 => ?_) (fun h116 => ?_)
                                                          · have hf := ifn h116 hf
                                                            refine lv_iconst (v := 0) hx hb dL_texts_528 (by decide) ?_
                                                            cases hf
                                                            refine W.widen (k := 747) (n := 16258) (by omega) (by omega) ?_
                                                            exact W.zret (ty := .boolean) hx hb hr (by decide) (fun u hu _ => ⟨rfl, by rw [hu]; exact hS.1, fun q hq => by rw [hu]; exact hS.2.1 q (by omega) (Nat.not_le.mpr hq)⟩) hS.2.2 dL_texts_529
                                                          · have hf := ifp h116 hf
                                                            refine lv_aload_n hx hb dL_texts_340 rfl (lv_at hl 0 rfl) ?_
                                                            refine lv_bipush (v := 36) hx hb dL_texts_341 (by decide) ?_
                                                            refine lv_iconst (v := 0) hx hb dL_texts_343 (by decide) ?_
                                                            refine lv_iconst (v := 0) hx hb dL_texts_344 (by decide) ?_
                                                            refine lv_iconst (v := 0) hx hb dL_texts_345 (by decide) ?_
                                                            refine lv_iconst (v := 0) hx hb dL_texts_346 (by decide) ?_
                                                            obtain ⟨y117, σ119, u118, hf⟩ := b2_e hf
                                                            refine lSW (n := 6) (As := [.ref (b + 0), .int 36, .int 0, .int 0, .int 0, .int 0]) (rest := []) (c_L_call l hfl D t b σ115 36 0 0 0 0 y117 σ119 u118) hx hb hml hown hts hE hsub hW hS q573 q574 q33  qw_L_call hs_L_call ⟨rfl, rfl⟩ ⟨Nat.le_of_ble_eq_true rfl, Nat.le_of_ble_eq_true rfl⟩ rfl rfl hl.1 (Nat.le_of_ble_eq_true rfl) ⟨show 617 + 4 ≤ 747 by omega, show 15478 + 24 ≤ 16258 by omega⟩ dL_texts_347 (fun H locs hW hS _ => ?_)
                                                            refine W.widen (k := 621) (n := 15502) (by omega) (by omega) ?_
                                                            refine lv_sipush (v := (-2013)) hx hb dL_texts_350 (by decide) ?_
                                                            refine lv_icmp_ne (tgt := 528) hx hb dL_texts_353 (by decide) (fun h120 => ?_) (fun h120 => ?_)
                                                            · have hf := ifn h120 hf
                                                              refine lv_iconst (v := 0) hx hb dL_texts_528 (by decide) ?_
                                                              cases hf
                                                              refine W.widen (k := 747) (n := 16258) (by omega) (by omega) ?_
                                                              exact W.zret (ty := .boolean) hx hb hr (by decide) (fun u hu _ => ⟨rfl, by rw [hu]; exact hS.1, fun q hq => by rw [hu]; exact hS.2.1 q (by omega) (Nat.not_le.mpr hq)⟩) hS.2.2 dL_texts_529
                                                            · have hf := ifp h120 hf
                                                              refine lv_aload_n hx hb dL_texts_356 rfl (lv_at hl 0 rfl) ?_
                                                              obtain ⟨y121, u122, hf⟩ := b1_e hf
                                                              refine lV (n := 0) (As := []) (rest := []) (c_X4_stalls l D t b σ119 y121 u122) hx hb hml hown hts hE hsub hW hS q973 q974 q975 q34 q976 hy_X4_stalls ⟨rfl, rfl⟩ ⟨Nat.le_of_ble_eq_true rfl, Nat.le_of_ble_eq_true rfl⟩ rfl rfl hl.1 (Nat.le_of_ble_eq_true rfl) ⟨show 621 ≤ 747 by omega, show 15502 ≤ 16258 by omega⟩ dL_texts_357 (fun H locs hW hS _ => ?_)
                                                              refine lv_if_ne (tgt := 528) hx hb dL_texts_360 (by decide) (fun h123 => ?_) (fun h123 => ?_)
                                                              · have hf := ifn h123 hf
                                                                refine lv_iconst (v := 0) hx hb dL_texts_528 (by decide) ?_
                                                                cases hf
                                                                refine W.widen (k := 747) (n := 16258) (by omega) (by omega) ?_
                                                                exact W.zret (ty := .boolean) hx hb hr (by decide) (fun u hu _ => ⟨rfl, by rw [hu]; exact hS.1, fun q hq => by rw [hu]; exact hS.2.1 q (by omega) (Nat.not_le.mpr hq)⟩) hS.2.2 dL_texts_529
                                                              · have hf := ifp h123 hf
                                                                refine lv_aload_n hx hb dL_texts_363 rfl (lv_at hl 0 rfl) ?_
                                                                obtain ⟨y124, u125, hf⟩ := b1_e hf
                                                                refine lV (n := 0) (As := []) (rest := []) (c_X4_recordedStates l D t b σ119 y124 u125) hx hb hml hown hts hE hsub hW hS q561 q562 q563 q34 q564 hy_X4_recordedStates ⟨rfl, rfl⟩ ⟨Nat.le_of_ble_eq_true rfl, Nat.le_of_ble_eq_true rfl⟩ rfl rfl hl.1 (Nat.le_of_ble_eq_true rfl) ⟨show 621 ≤ 747 by omega, show 15502 ≤ 16258 by omega⟩ dL_texts_364 (fun H locs hW hS _ => ?_)
                                                                refine lv_if_ne (tgt := 528) hx hb dL_texts_367 (by decide) (fun h126 => ?_) (fun h126 => ?_)
                                                                · have hf := ifn h126 hf
                                                                  refine lv_iconst (v := 0) hx hb dL_texts_528 (by decide) ?_
                                                                  cases hf
                                                                  refine W.widen (k := 747) (n := 16258) (by omega) (by omega) ?_
                                                                  exact W.zret (ty := .boolean) hx hb hr (by decide) (fun u hu _ => ⟨rfl, by rw [hu]; exact hS.1, fun q hq => by rw [hu]; exact hS.2.1 q (by omega) (Nat.not_le.mpr hq)⟩) hS.2.2 dL_texts_529
                                                                · have hf := ifp h126 hf
                                                                  refine lv_aload_n hx hb dL_texts_370 rfl (lv_at hl 0 rfl) ?_
                                                                  obtain ⟨y127, σ129, u128, hf⟩ := b2_e hf
                                                                  refine lV (n := 0) (As := []) (rest := []) (c_X4_clearText l D t b σ119 y127 σ129 u128) hx hb hml hown hts hE hsub hW hS q991 q992 q993 q34 q994 hy_X4_clearText ⟨rfl, rfl⟩ ⟨Nat.le_of_ble_eq_true rfl, Nat.le_of_ble_eq_true rfl⟩ rfl rfl hl.1 (Nat.le_of_ble_eq_true rfl) ⟨show 621 ≤ 747 by omega, show 15502 ≤ 16258 by omega⟩ dL_texts_371 (fun H locs hW hS _ => ?_)
                                                                  refine lv_bipush (v := 40) hx hb dL_texts_374 (by decide) ?_
                                                                  refine lv_icmp_ne (tgt := 528) hx hb dL_texts_376 (by decide) (fun h130 => ?_) (fun h130 => ?_)
                                                                  · have hf := ifn h130 hf
                                                                    refine lv_iconst (v := 0) hx hb dL_texts_528 (by decide) ?_
                                                                    cases hf
                                                                    refine W.widen (k := 747) (n := 16258) (by omega) (by omega) ?_
                                                                    exact W.zret (ty := .boolean) hx hb hr (by decide) (fun u hu _ => ⟨rfl, by rw [hu]; exact hS.1, fun q hq => by rw [hu]; exact hS.2.1 q (by omega) (Nat.not_le.mpr hq)⟩) hS.2.2 dL_texts_529
                                                                  · have hf := ifp h130 hf
                                                                    refine lv_aload_n hx hb dL_texts_379 rfl (lv_at hl 0 rfl) ?_
                                                                    refine lv_ldc2 hx hb hown (hta _ q1092) dL_texts_380 ?_
                                                                    obtain ⟨y131, σ133, u132, hf⟩ := b2_e hf
                                                                    refine lS (n := 2) (As := [.ref (b + 0), .long (7075282774277187120 : Int64)]) (rest := []) (c_L_types l hfl D t b σ129 (7075282774277187120 : Int64) y131 σ133 u132) hx hb hml hown hts hE hsub hW hS q1069 q1070 q33  q1071 hs_L_types ⟨rfl, rfl⟩ ⟨Nat.le_of_ble_eq_true rfl, Nat.le_of_ble_eq_true rfl⟩ rfl rfl hl.1 (Nat.le_of_ble_eq_true rfl) ⟨show 621 + 9 ≤ 747 by omega, show 15502 + 54 ≤ 16258 by omega⟩ dL_texts_383 (fun H locs hW hS _ => ?_)
                                                                    refine W.widen (k := 630) (n := 15556) (by omega) (by omega) ?_
                                                                    refine lv_if_eq (tgt := 528) hx hb dL_texts_386 (by decide) (fun h134 => ?_) (fun h134 => ?_)
                                                                    · have hf := ifp h134 hf
                                                                      refine lv_iconst (v := 0) hx hb dL_texts_528 (by decide) ?_
                                                                      cases hf
                                                                      refine W.widen (k := 747) (n := 16258) (by omega) (by omega) ?_
                                                                      exact W.zret (ty := .boolean) hx hb hr (by decide) (fun u hu _ => ⟨rfl, by rw [hu]; exact hS.1, fun q hq => by rw [hu]; exact hS.2.1 q (by omega) (Nat.not_le.mpr hq)⟩) hS.2.2 dL_texts_529
                                                                    · have hf := ifn h134 hf
                                                                      refine lv_aload_n hx hb dL_texts_389 rfl (lv_at hl 0 rfl) ?_
                                                                      refine lv_ldc2 hx hb hown (hta _ q1093) dL_texts_390 ?_
                                                                      obtain ⟨y135, σ137, u136, hf⟩ := b2_e hf
                                                                      refine lS (n := 2) (As := [.ref (b + 0), .long (3112884799320111664 : Int64)]) (rest := []) (c_L_types l hfl D t b σ133 (3112884799320111664 : Int64) y135 σ137 u136) hx hb hml hown hts hE hsub hW hS q1069 q1070 q33  q1071 hs_L_types ⟨rfl, rfl⟩ ⟨Nat.le_of_ble_eq_true rfl, Nat.le_of_ble_eq_true rfl⟩ rfl rfl hl.1 (Nat.le_of_ble_eq_true rfl) ⟨show 630 + 9 ≤ 747 by omega, show 15556 + 54 ≤ 16258 by omega⟩ dL_texts_393 (fun H locs hW hS _ => ?_)
                                                                      refine W.widen (k := 639) (n := 15610) (by omega) (by omega) ?_
                                                                      refine lv_if_eq (tgt := 528) hx hb dL_texts_396 (by decide) (fun h138 => ?_) (fun h138 => ?_)
                                                                      · have hf := ifp h138 hf
                                                                        refine lv_iconst (v := 0) hx hb dL_texts_528 (by decide) ?_
                                                                        cases hf
                                                                        refine W.widen (k := 747) (n := 16258) (by omega) (by omega) ?_
                                                                        exact W.zret (ty := .boolean) hx hb hr (by decide) (fun u hu _ => ⟨rfl, by rw [hu]; exact hS.1, fun q hq => by rw [hu]; exact hS.2.1 q (by omega) (Nat.not_le.mpr hq)⟩) hS.2.2 dL_texts_529
                                                                      · have hf := ifn h138 hf
                                                                        refine lv_aload_n hx hb dL_texts_399 rfl (lv_at hl 0 rfl) ?_
                                                                        refine lv_ldc2 hx hb hown (hta _ q1094) dL_texts_400 ?_
                                                                        obtain ⟨y139, σ141, u140, hf⟩ := b2_e hf
                                                                        refine lS (n := 2) (As := [.ref (b + 0), .long (3470649390072948786 : Int64)]) (rest := []) (c_L_types l hfl D t b σ137 (3470649390072948786 : Int64) y139 σ141 u140) hx hb hml hown hts hE hsub hW hS q1069 q1070 q33  q1071 hs_L_types ⟨rfl, rfl⟩ ⟨Nat.le_of_ble_eq_true rfl, Nat.le_of_ble_eq_true rfl⟩ rfl rfl hl.1 (Nat.le_of_ble_eq_true rfl) ⟨show 639 + 9 ≤ 747 by omega, show 15610 + 54 ≤ 16258 by omega⟩ dL_texts_403 (fun H locs hW hS _ => ?_)
                                                                        refine W.widen (k := 648) (n := 15664) (by omega) (by omega) ?_
                                                                        refine lv_if_eq (tgt := 528) hx hb dL_texts_406 (by decide) (fun h142 => ?_) (fun h142 => ?_)
                                                                        · have hf := ifp h142 hf
                                                                          refine lv_iconst (v := 0) hx hb dL_texts_528 (by decide) ?_
                                                                          cases hf
                                                                          refine W.widen (k := 747) (n := 16258) (by omega) (by omega) ?_
                                                                          exact W.zret (ty := .boolean) hx hb hr (by decide) (fun u hu _ => ⟨rfl, by rw [hu]; exact hS.1, fun q hq => by rw [hu]; exact hS.2.1 q (by omega) (Nat.not_le.mpr hq)⟩) hS.2.2 dL_texts_529
                                                                        · have hf := ifn h142 hf
                                                                          refine lv_aload_n hx hb dL_texts_409 rfl (lv_at hl 0 rfl) ?_
                                                                          refine lv_ldc2 hx hb hown (hta _ q1095) dL_texts_410 ?_
                                                                          obtain ⟨y143, σ145, u144, hf⟩ := b2_e hf
                                                                          refine lS (n := 2) (As := [.ref (b + 0), .long (4284949908478980149 : Int64)]) (rest := []) (c_L_types l hfl D t b σ141 (4284949908478980149 : Int64) y143 σ145 u144) hx hb hml hown hts hE hsub hW hS q1069 q1070 q33  q1071 hs_L_types ⟨rfl, rfl⟩ ⟨Nat.le_of_ble_eq_true rfl, Nat.le_of_ble_eq_true rfl⟩ rfl rfl hl.1 (Nat.le_of_ble_eq_true rfl) ⟨show 648 + 9 ≤ 747 by omega, show 15664 + 54 ≤ 16258 by omega⟩ dL_texts_413 (fun H locs hW hS _ => ?_)
                                                                          refine W.widen (k := 657) (n := 15718) (by omega) (by omega) ?_
                                                                          refine lv_if_eq (tgt := 528) hx hb dL_texts_416 (by decide) (fun h146 => ?_) (fun h146 => ?_)
                                                                          · have hf := ifp h146 hf
                                                                            refine lv_iconst (v := 0) hx hb dL_texts_528 (by decide) ?_
                                                                            cases hf
                                                                            refine W.widen (k := 747) (n := 16258) (by omega) (by omega) ?_
                                                                            exact W.zret (ty := .boolean) hx hb hr (by decide) (fun u hu _ => ⟨rfl, by rw [hu]; exact hS.1, fun q hq => by rw [hu]; exact hS.2.1 q (by omega) (Nat.not_le.mpr hq)⟩) hS.2.2 dL_texts_529
                                                                          · have hf := ifn h146 hf
                                                                            refine lv_aload_n hx hb dL_texts_419 rfl (lv_at hl 0 rfl) ?_
                                                                            obtain ⟨y147, σ149, u148, hf⟩ := bn2_e hf
                                                                            refine lVXn (n := 0) (As := []) (rest := []) (c_X4_impossibleOrder l hfl D t b σ145 (.inr (y147, σ149)) u148) hx hb hml hown hts hE hsub hW hS q932 q933 q934 q34 q935 hy_X4_impossibleOrder ⟨rfl, rfl⟩ ⟨Nat.le_of_ble_eq_true rfl, Nat.le_of_ble_eq_true rfl⟩ rfl rfl hl.1 (Nat.le_of_ble_eq_true rfl) ⟨show 657 + 1 ≤ 747 by omega, show 15718 + 6 ≤ 16258 by omega⟩ dL_texts_420 (fun H locs hW hS _ => ?_)
                                                                            refine W.widen (k := 658) (n := 15724) (by omega) (by omega) ?_
                                                                            refine lv_iconst (v := (-1)) hx hb dL_texts_423 (by decide) ?_
                                                                            refine lv_icmp_ne (tgt := 528) hx hb dL_texts_424 (by decide) (fun h150 => ?_) (fun h150 => ?_)
                                                                            · have hf := ifn h150 hf
                                                                              refine lv_iconst (v := 0) hx hb dL_texts_528 (by decide) ?_
                                                                              cases hf
                                                                              refine W.widen (k := 747) (n := 16258) (by omega) (by omega) ?_
                                                                              exact W.zret (ty := .boolean) hx hb hr (by decide) (fun u hu _ => ⟨rfl, by rw [hu]; exact hS.1, fun q hq => by rw [hu]; exact hS.2.1 q (by omega) (Nat.not_le.mpr hq)⟩) hS.2.2 dL_texts_529
                                                                            · have hf := ifp h150 hf
                                                                              refine lv_aload_n hx hb dL_texts_427 rfl (lv_at hl 0 rfl) ?_
                                                                              obtain ⟨y151, u152, hf⟩ := b1_e hf
                                                                              refine lV (n := 0) (As := []) (rest := []) (c_X4_round l D t b σ149 y151 u152) hx hb hml hown hts hE hsub hW hS q969 q970 q971 q34 q972 hy_X4_round ⟨rfl, rfl⟩ ⟨Nat.le_of_ble_eq_true rfl, Nat.le_of_ble_eq_true rfl⟩ rfl rfl hl.1 (Nat.le_of_ble_eq_true rfl) ⟨show 658 ≤ 747 by omega, show 15724 ≤ 16258 by omega⟩ dL_texts_428 (fun H locs hW hS _ => ?_)
                                                                              refine lv_if_ne (tgt := 528) hx hb dL_texts_431 (by decide) (fun h153 => ?_) (fun h153 => ?_)
                                                                              · have hf := ifn h153 hf
                                                                                refine lv_iconst (v := 0) hx hb dL_texts_528 (by decide) ?_
                                                                                cases hf
                                                                                refine W.widen (k := 747) (n := 16258) (by omega) (by omega) ?_
                                                                                exact W.zret (ty := .boolean) hx hb hr (by decide) (fun u hu _ => ⟨rfl, by rw [hu]; exact hS.1, fun q hq => by rw [hu]; exact hS.2.1 q (by omega) (Nat.not_le.mpr hq)⟩) hS.2.2 dL_texts_529
                                                                              · have hf := ifp h153 hf
                                                                                refine lv_aload_n hx hb dL_texts_434 rfl (lv_at hl 0 rfl) ?_
                                                                                obtain ⟨y154, σ156, u155, hf⟩ := bn2_e hf
                                                                                refine lVXn (n := 0) (As := []) (rest := []) (c_X4_carryOut l hfl D t b σ149 (.inr (y154, σ156)) u155) hx hb hml hown hts hE hsub hW hS q848 q849 q850 q34 q851 hy_X4_carryOut ⟨rfl, rfl⟩ ⟨Nat.le_of_ble_eq_true rfl, Nat.le_of_ble_eq_true rfl⟩ rfl rfl hl.1 (Nat.le_of_ble_eq_true rfl) ⟨show 658 + 1 ≤ 747 by omega, show 15724 + 6 ≤ 16258 by omega⟩ dL_texts_435 (fun H locs hW hS _ => ?_)
                                                                                refine W.widen (k := 659) (n := 15730) (by omega) (by omega) ?_
                                                                                refine lv_bipush (v := 6) hx hb dL_texts_438 (by decide) ?_
                                                                                refine lv_icmp_ne (tgt := 528) hx hb dL_texts_440 (by decide) (fun h157 => ?_) (fun h157 => ?_)
                                                                                · have hf := ifn h157 hf
                                                                                  refine lv_iconst (v := 0) hx hb dL_texts_528 (by decide) ?_
                                                                                  cases hf
                                                                                  refine W.widen (k := 747) (n := 16258) (by omega) (by omega) ?_
                                                                                  exact W.zret (ty := .boolean) hx hb hr (by decide) (fun u hu _ => ⟨rfl, by rw [hu]; exact hS.1, fun q hq => by rw [hu]; exact hS.2.1 q (by omega) (Nat.not_le.mpr hq)⟩) hS.2.2 dL_texts_529
                                                                                · have hf := ifp h157 hf
                                                                                  refine lv_aload_n hx hb dL_texts_443 rfl (lv_at hl 0 rfl) ?_
                                                                                  obtain ⟨y158, σ160, u159, hf⟩ := b2_e hf
                                                                                  refine lV (n := 0) (As := []) (rest := []) (c_X4_textError l D t b σ156 y158 σ160 u159) hx hb hml hown hts hE hsub hW hS q936 q937 q938 q34 q939 hy_X4_textError ⟨rfl, rfl⟩ ⟨Nat.le_of_ble_eq_true rfl, Nat.le_of_ble_eq_true rfl⟩ rfl rfl hl.1 (Nat.le_of_ble_eq_true rfl) ⟨show 659 ≤ 747 by omega, show 15730 ≤ 16258 by omega⟩ dL_texts_444 (fun H locs hW hS _ => ?_)
                                                                                  refine lv_iconst (v := (-1)) hx hb dL_texts_447 (by decide) ?_
                                                                                  refine lv_icmp_ne (tgt := 528) hx hb dL_texts_448 (by decide) (fun h161 => ?_) (fun h161 => ?_)
                                                                                  · have hf := ifn h161 hf
                                                                                    refine lv_iconst (v := 0) hx hb dL_texts_528 (by decide) ?_
                                                                                    cases hf
                                                                                    refine W.widen (k := 747) (n := 16258) (by omega) (by omega) ?_
                                                                                    exact W.zret (ty := .boolean) hx hb hr (by decide) (fun u hu _ => ⟨rfl, by rw [hu]; exact hS.1, fun q hq => by rw [hu]; exact hS.2.1 q (by omega) (Nat.not_le.mpr hq)⟩) hS.2.2 dL_texts_529
                                                                                  · have hf := ifp h161 hf
                                                                                    refine lv_aload_n hx hb dL_texts_451 rfl (lv_at hl 0 rfl) ?_
                                                                                    obtain ⟨y162, σ164, u163, hf⟩ := b2_e hf
                                                                                    refine lV (n := 0) (As := []) (rest := []) (c_X4_clearText l D t b σ160 y162 σ164 u163) hx hb hml hown hts hE hsub hW hS q991 q992 q993 q34 q994 hy_X4_clearText ⟨rfl, rfl⟩ ⟨Nat.le_of_ble_eq_true rfl, Nat.le_of_ble_eq_true rfl⟩ rfl rfl hl.1 (Nat.le_of_ble_eq_true rfl) ⟨show 659 ≤ 747 by omega, show 15730 ≤ 16258 by omega⟩ dL_texts_452 (fun H locs hW hS _ => ?_)
                                                                                    refine lv_bipush (v := 32) hx hb dL_texts_455 (by decide) ?_
                                                                                    refine lv_icmp_ne (tgt := 528) hx hb dL_texts_457 (by decide) (fun h165 => ?_) (fun h165 => ?_)
                                                                                    · have hf := ifn h165 hf
                                                                                      refine lv_iconst (v := 0) hx hb dL_texts_528 (by decide) ?_
                                                                                      cases hf
                                                                                      refine W.widen (k := 747) (n := 16258) (by omega) (by omega) ?_
                                                                                      exact W.zret (ty := .boolean) hx hb hr (by decide) (fun u hu _ => ⟨rfl, by rw [hu]; exact hS.1, fun q hq => by rw [hu]; exact hS.2.1 q (by omega) (Nat.not_le.mpr hq)⟩) hS.2.2 dL_texts_529
                                                                                    · have hf := ifp h165 hf
                                                                                      refine lv_aload_n hx hb dL_texts_460 rfl (lv_at hl 0 rfl) ?_
                                                                                      obtain ⟨y166, u167, hf⟩ := b1_e hf
                                                                                      refine lV (n := 0) (As := []) (rest := []) (c_X4_bank l D t b σ164 y166 u167) hx hb hml hown hts hE hsub hW hS q945 q946 q947 q34 q948 hy_X4_bank ⟨rfl, rfl⟩ ⟨Nat.le_of_ble_eq_true rfl, Nat.le_of_ble_eq_true rfl⟩ rfl rfl hl.1 (Nat.le_of_ble_eq_true rfl) ⟨show 659 ≤ 747 by omega, show 15730 ≤ 16258 by omega⟩ dL_texts_461 (fun H locs hW hS _ => ?_)
                                                                                      refine lv_sipush (v := 420) hx hb dL_texts_464 (by decide) ?_
                                                                                      refine lv_icmp_ne (tgt := 528) hx hb dL_texts_467 (by decide) (fun h168 => ?_) (fun h168 => ?_)
                                                                                      · have hf := ifn h168 hf
                                                                                        refine lv_iconst (v := 0) hx hb dL_texts_528 (by decide) ?_
                                                                                        cases hf
                                                                                        refine W.widen (k := 747) (n := 16258) (by omega) (by omega) ?_
                                                                                        exact W.zret (ty := .boolean) hx hb hr (by decide) (fun u hu _ => ⟨rfl, by rw [hu]; exact hS.1, fun q hq => by rw [hu]; exact hS.2.1 q (by omega) (Nat.not_le.mpr hq)⟩) hS.2.2 dL_texts_529
                                                                                      · have hf := ifp h168 hf
                                                                                        refine lv_aload_n hx hb dL_texts_470 rfl (lv_at hl 0 rfl) ?_
                                                                                        refine lv_iconst (v := 3) hx hb dL_texts_471 (by decide) ?_
                                                                                        obtain ⟨y169, u170, hf⟩ := bn1_e hf
                                                                                        refine lVXn (n := 1) (As := [.int 3]) (rest := []) (c_X4_rainIn l hfl D t b σ164 3 (.inr y169) u170) hx hb hml hown hts hE hsub hW hS q825 q826 q827 q34 q828 hy_X4_rainIn ⟨rfl, rfl⟩ ⟨Nat.le_of_ble_eq_true rfl, Nat.le_of_ble_eq_true rfl⟩ rfl rfl hl.1 (Nat.le_of_ble_eq_true rfl) ⟨show 659 + 1 ≤ 747 by omega, show 15730 + 6 ≤ 16258 by omega⟩ dL_texts_472 (fun H locs hW hS _ => ?_)
                                                                                        refine W.widen (k := 660) (n := 15736) (by omega) (by omega) ?_
                                                                                        refine lv_bipush (v := 7) hx hb dL_texts_475 (by decide) ?_
                                                                                        refine lv_icmp_ne (tgt := 528) hx hb dL_texts_477 (by decide) (fun h171 => ?_) (fun h171 => ?_)
                                                                                        · have hf := ifn h171 hf
                                                                                          refine lv_iconst (v := 0) hx hb dL_texts_528 (by decide) ?_
                                                                                          cases hf
                                                                                          refine W.widen (k := 747) (n := 16258) (by omega) (by omega) ?_
                                                                                          exact W.zret (ty := .boolean) hx hb hr (by decide) (fun u hu _ => ⟨rfl, by rw [hu]; exact hS.1, fun q hq => by rw [hu]; exact hS.2.1 q (by omega) (Nat.not_le.mpr hq)⟩) hS.2.2 dL_texts_529
                                                                                        · have hf := ifp h171 hf
                                                                                          refine lv_aload_n hx hb dL_texts_480 rfl (lv_at hl 0 rfl) ?_
                                                                                          obtain ⟨y172, u173, hf⟩ := b1_e hf
                                                                                          refine lV (n := 0) (As := []) (rest := []) (c_X4_round l D t b σ164 y172 u173) hx hb hml hown hts hE hsub hW hS q969 q970 q971 q34 q972 hy_X4_round ⟨rfl, rfl⟩ ⟨Nat.le_of_ble_eq_true rfl, Nat.le_of_ble_eq_true rfl⟩ rfl rfl hl.1 (Nat.le_of_ble_eq_true rfl) ⟨show 660 ≤ 747 by omega, show 15736 ≤ 16258 by omega⟩ dL_texts_481 (fun H locs hW hS _ => ?_)
                                                                                          refine lv_iconst (v := 5) hx hb dL_texts_484 (by decide) ?_
                                                                                          refine lv_icmp_ne (tgt := 528) hx hb dL_texts_485 (by decide) (fun h174 => ?_) (fun h174 => ?_)
                                                                                          · have hf := ifn h174 hf
                                                                                            refine lv_iconst (v := 0) hx hb dL_texts_528 (by decide) ?_
                                                                                            cases hf
                                                                                            refine W.widen (k := 747) (n := 16258) (by omega) (by omega) ?_
                                                                                            exact W.zret (ty := .boolean) hx hb hr (by decide) (fun u hu _ => ⟨rfl, by rw [hu]; exact hS.1, fun q hq => by rw [hu]; exact hS.2.1 q (by omega) (Nat.not_le.mpr hq)⟩) hS.2.2 dL_texts_529
                                                                                          · have hf := ifp h174 hf
                                                                                            refine lv_aload_n hx hb dL_texts_488 rfl (lv_at hl 0 rfl) ?_
                                                                                            obtain ⟨y175, u176, hf⟩ := b1_e hf
                                                                                            refine lV (n := 0) (As := []) (rest := []) (c_X4_children l D t b σ164 y175 u176) hx hb hml hown hts hE hsub hW hS q977 q978 q979 q34 q980 hy_X4_children ⟨rfl, rfl⟩ ⟨Nat.le_of_ble_eq_true rfl, Nat.le_of_ble_eq_true rfl⟩ rfl rfl hl.1 (Nat.le_of_ble_eq_true rfl) ⟨show 660 ≤ 747 by omega, show 15736 ≤ 16258 by omega⟩ dL_texts_489 (fun H locs hW hS _ => ?_)
                                                                                            refine lv_iconst (v := 3) hx hb dL_texts_492 (by decide) ?_
                                                                                            refine lv_icmp_ne (tgt := 528) hx hb dL_texts_493 (by decide) (fun h177 => ?_) (fun h177 => ?_)
                                                                                            · have hf := ifn h177 hf
                                                                                              refine lv_iconst (v := 0) hx hb dL_texts_528 (by decide) ?_
                                                                                              cases hf
                                                                                              refine W.widen (k := 747) (n := 16258) (by omega) (by omega) ?_
                                                                                              exact W.zret (ty := .boolean) hx hb hr (by decide) (fun u hu _ => ⟨rfl, by rw [hu]; exact hS.1, fun q hq => by rw [hu]; exact hS.2.1 q (by omega) (Nat.not_le.mpr hq)⟩) hS.2.2 dL_texts_529
                                                                                            · have hf := ifp h177 hf
                                                                                              refine lv_aload_n hx hb dL_texts_496 rfl (lv_at hl 0 rfl) ?_
                                                                                              obtain ⟨y178, u179, hf⟩ := b1_e hf
                                                                                              refine lV (n := 0) (As := []) (rest := []) (c_X4_recordedStates l D t b σ164 y178 u179) hx hb hml hown hts hE hsub hW hS q561 q562 q563 q34 q564 hy_X4_recordedStates ⟨rfl, rfl⟩ ⟨Nat.le_of_ble_eq_true rfl, Nat.le_of_ble_eq_true rfl⟩ rfl rfl hl.1 (Nat.le_of_ble_eq_true rfl) ⟨show 660 ≤ 747 by omega, show 15736 ≤ 16258 by omega⟩ dL_texts_497 (fun H locs hW hS _ => ?_)
                                                                                              refine lv_iconst (v := 1) hx hb dL_texts_500 (by decide) ?_
                                                                                              refine lv_icmp_ne (tgt := 528) hx hb dL_texts_501 (by decide) (fun h180 => ?_) (fun h180 => ?_)
                                                                                              · have hf := ifn h180 hf
                                                                                                refine lv_iconst (v := 0) hx hb dL_texts_528 (by decide) ?_
                                                                                                cases hf
                                                                                                refine W.widen (k := 747) (n := 16258) (by omega) (by omega) ?_
                                                                                                exact W.zret (ty := .boolean) hx hb hr (by decide) (fun u hu _ => ⟨rfl, by rw [hu]; exact hS.1, fun q hq => by rw [hu]; exact hS.2.1 q (by omega) (Nat.not_le.mpr hq)⟩) hS.2.2 dL_texts_529
                                                                                              · have hf := ifp h180 hf
                                                                                                refine lv_aload_n hx hb dL_texts_504 rfl (lv_at hl 0 rfl) ?_
                                                                                                obtain ⟨y181, σ183, u182, hf⟩ := bn2_e hf
                                                                                                refine lVXn (n := 0) (As := []) (rest := []) (c_X4_undo l hfl D t b σ164 (.inr (y181, σ183)) u182) hx hb hml hown hts hE hsub hW hS q547 q548 q549 q34 q550 hy_X4_undo ⟨rfl, rfl⟩ ⟨Nat.le_of_ble_eq_true rfl, Nat.le_of_ble_eq_true rfl⟩ rfl rfl hl.1 (Nat.le_of_ble_eq_true rfl) ⟨show 660 + 1 ≤ 747 by omega, show 15736 + 6 ≤ 16258 by omega⟩ dL_texts_505 (fun H locs hW hS _ => ?_)
                                                                                                refine W.widen (k := 661) (n := 15742) (by omega) (by omega) ?_
                                                                                                refine lv_if_ne (tgt := 528) hx hb dL_texts_508 (by decide) (fun h184 => ?_) (fun h184 => ?_)
                                                                                                · have hf := ifn h184 hf
                                                                                                  refine lv_iconst (v := 0) hx hb dL_texts_528 (by decide) ?_
                                                                                                  cases hf
                                                                                                  refine W.widen (k := 747) (n := 16258) (by omega) (by omega) ?_
                                                                                                  exact W.zret (ty := .boolean) hx hb hr (by decide) (fun u hu _ => ⟨rfl, by rw [hu]; exact hS.1, fun q hq => by rw [hu]; exact hS.2.1 q (by omega) (Nat.not_le.mpr hq)⟩) hS.2.2 dL_texts_529
                                                                                                · have hf := ifp h184 hf
                                                                                                  refine lv_aload_n hx hb dL_texts_511 rfl (lv_at hl 0 rfl) ?_
                                                                                                  obtain ⟨y185, u186, hf⟩ := b1_e hf
                                                                                                  refine lV (n := 0) (As := []) (rest := []) (c_X4_bank l D t b σ183 y185 u186) hx hb hml hown hts hE hsub hW hS q945 q946 q947 q34 q948 hy_X4_bank ⟨rfl, rfl⟩ ⟨Nat.le_of_ble_eq_true rfl, Nat.le_of_ble_eq_true rfl⟩ rfl rfl hl.1 (Nat.le_of_ble_eq_true rfl) ⟨show 661 ≤ 747 by omega, show 15742 ≤ 16258 by omega⟩ dL_texts_512 (fun H locs hW hS _ => ?_)
                                                                                                  refine lv_sipush (v := 500) hx hb dL_texts_515 (by decide) ?_
                                                                                                  refine lv_icmp_ne (tgt := 528) hx hb dL_texts_518 (by decide) (fun h187 => ?_) (fun h187 => ?_)
                                                                                                  · have hf := ifn h187 hf
                                                                                                    refine lv_iconst (v := 0) hx hb dL_texts_528 (by decide) ?_
                                                                                                    cases hf
                                                                                                    refine W.widen (k := 747) (n := 16258) (by omega) (by omega) ?_
                                                                                                    exact W.zret (ty := .boolean) hx hb hr (by decide) (fun u hu _ => ⟨rfl, by rw [hu]; exact hS.1, fun q hq => by rw [hu]; exact hS.2.1 q (by omega) (Nat.not_le.mpr hq)⟩) hS.2.2 dL_texts_529
                                                                                                  · have hf := ifp h187 hf
                                                                                                    refine lv_aload_n hx hb dL_texts_521 rfl (lv_at hl 0 rfl) ?_
                                                                                                    obtain ⟨y188, u189, hf⟩ := b1_e hf
                                                                                                    refine lV (n := 0) (As := []) (rest := []) (c_X4_children l D t b σ183 y188 u189) hx hb hml hown hts hE hsub hW hS q977 q978 q979 q34 q980 hy_X4_children ⟨rfl, rfl⟩ ⟨Nat.le_of_ble_eq_true rfl, Nat.le_of_ble_eq_true rfl⟩ rfl rfl hl.1 (Nat.le_of_ble_eq_true rfl) ⟨show 661 ≤ 747 by omega, show 15742 ≤ 16258 by omega⟩ dL_texts_522 (fun H locs hW hS _ => ?_)
                                                                                                    refine lv_if_eq (tgt := 530) hx hb dL_texts_525 (by decide) (fun h190 => ?_) (fun h190 => ?_)
                                                                                                    · have hf := ifp h190 hf
                                                                                                      refine lv_iconst (v := 0) hx hb dL_texts_530 (by decide) ?_
                                                                                                      refine lv_istore_n (lv' := [(1, .int 0), (0, .ref (b + 0))]) hx hb dL_texts_531 rfl hl (by decide) rfl (fun ls hl => ?_)
                                                                                                      obtain ⟨res, hl0, hA, hB⟩ := bl_e hf
                                                                                                      have key_532 : ∀ (n : Nat) (τ : Sg) (x1 : Int32) (cl sl ce se : Nat) (H : Heap) (locs : List Loc) (ls : Array Slot) (res : Int32 ⊕ (Sg)), l_L_texts_532 n τ x1 = some res → cl + 1 * n = ce → sl + 6 * n = se → ce ≤ 747 → se ≤ 16258 → (∀ a, res = .inl a → a = r) → (∀ q532, res = .inr q532 → ∀ (H : Heap) (locs : List Loc) (ls : Array Slot), wd D t b q532 H → va_S (geC b) s.heap H locs → lv_has ls 2 [(0, .ref (b + 0))] → W p l e (headSpec (Cond.code yL_texts cL_texts 2 (some .boolean) :: ALL) ({ frames := 11, cells := 747, slots := 16258, locals := 208 })).room s m (([] : List Value).toArray) below meth c H locs ce se (MQ below (QN b (some (.int r))) (([] : List Value).toArray) s 747 16258 (geC b)) (F0 m 602 ls [])) → wd D t b τ H → va_S (geC b) s.heap H locs → lv_has ls 2 [(0, .ref (b + 0)), (1, .int x1)] → W p l e (headSpec (Cond.code yL_texts cL_texts 2 (some .boolean) :: ALL) ({ frames := 11, cells := 747, slots := 16258, locals := 208 })).room s m (([] : List Value).toArray) below meth c H locs cl sl (MQ below (QN b (some (.int r))) (([] : List Value).toArray) s 747 16258 (geC b)) (F0 m 532 ls []) := by
                                                                                                        intro n
                                                                                                        induction n with
                                                                                                        | zero =>
                                                                                                          intro τ x1 cl sl ce se H locs ls res hf
                                                                                                          rw [l_L_texts_532.eq_1] at hf
                                                                                                          cases hf
                                                                                                        | succ n ih_532 =>
                                                                                                          intro τ x1 cl sl ce se H locs ls res hf hce hse hcm hsm kx kk hW hS hl
                                                                                                          rw [l_L_texts_532.eq_2] at hf
                                                                                                          refine lv_iload_n hx hb dL_texts_532 rfl (lv_at hl 1 rfl) ?_
                                                                                                          refine lv_bipush (v := 80) hx hb dL_texts_533 (by decide) ?_
                                                                                                          refine lv_icmp_ge (tgt := 602) hx hb dL_texts_535 (by decide) (fun h191 => ?_) (fun h191 => ?_)
                                                                                                          · have hf := ifp h191 hf
                                                                                                            cases hf
                                                                                                            refine W.widen (k := ce) (n := se) (by omega) (by omega) ?_
                                                                                                            exact kk _ rfl _ _ _ hW hS (lv_sub hl [0] rfl)
                                                                                                          · have hf := ifn h191 hf
                                                                                                            refine lv_aload_n hx hb dL_texts_538 rfl (lv_at hl 0 rfl) ?_
                                                                                                            refine lv_iload_n hx hb dL_texts_539 rfl (lv_at hl 1 rfl) ?_
                                                                                                            refine lv_iconst (v := 3) hx hb dL_texts_540 (by decide) ?_
                                                                                                            refine lv_irem hx hb dL_texts_541 (by decide) ?_
                                                                                                            refine lv_if_ne (tgt := 550) hx hb dL_texts_542 (by decide) (fun h192 => ?_) (fun h192 => ?_)
                                                                                                            · have hf := ifn h192 hf
                                                                                                              refine lv_iload_n hx hb dL_texts_550 rfl (lv_at hl 1 rfl) ?_
                                                                                                              refine lv_iconst (v := 3) hx hb dL_texts_551 (by decide) ?_
                                                                                                              refine lv_irem hx hb dL_texts_552 (by decide) ?_
                                                                                                              refine lv_iconst (v := 1) hx hb dL_texts_553 (by decide) ?_
                                                                                                              refine lv_icmp_ne (tgt := 562) hx hb dL_texts_554 (by decide) (fun h203 => ?_) (fun h203 => ?_)
                                                                                                              · have hf := ifn h203 hf
                                                                                                                refine lv_bipush (v := 59) hx hb dL_texts_562 (by decide) ?_
                                                                                                                obtain ⟨y214, σ216, u215, hf⟩ := bn2_e hf
                                                                                                                refine lVXn (n := 1) (As := [.int 59]) (rest := []) (c_X4_type l hfl D t b τ 59 (.inr (y214, σ216)) u215) hx hb hml hown hts hE hsub hW hS q839 q840 q841 q34 q842 hy_X4_type ⟨rfl, rfl⟩ ⟨Nat.le_of_ble_eq_true rfl, Nat.le_of_ble_eq_true rfl⟩ rfl rfl hl.1 (Nat.le_of_ble_eq_true rfl) ⟨show cl + 0 + 1 ≤ 747 by omega, show sl + 0 + 6 ≤ 16258 by omega⟩ dL_texts_564 (fun H locs hW hS _ => ?_)
                                                                                                                refine W.widen (k := cl + 1) (n := sl + 6) (by omega) (by omega) ?_
                                                                                                                refine lv_iload_n hx hb dL_texts_567 rfl (lv_at hl 1 rfl) ?_
                                                                                                                refine lv_iconst (v := 1) hx hb dL_texts_568 (by decide) ?_
                                                                                                                refine lv_iadd hx hb dL_texts_569 ?_
                                                                                                                refine lv_icmp_ne (tgt := 594) hx hb dL_texts_570 (by decide) (fun h217 => ?_) (fun h217 => ?_)
                                                                                                                · have hf := ifn h217 hf
                                                                                                                  refine lv_iconst (v := 0) hx hb dL_texts_594 (by decide) ?_
                                                                                                                  cases hf
                                                                                                                  have h9 := kx _ rfl
                                                                                                                  cases h9
                                                                                                                  refine W.widen (k := 747) (n := 16258) (by omega) (by omega) ?_
                                                                                                                  exact W.zret (ty := .boolean) hx hb hr (by decide) (fun u hu _ => ⟨rfl, by rw [hu]; exact hS.1, fun q hq => by rw [hu]; exact hS.2.1 q (by omega) (Nat.not_le.mpr hq)⟩) hS.2.2 dL_texts_595
                                                                                                                · have hf := ifp h217 hf
                                                                                                                  refine lv_aload_n hx hb dL_texts_573 rfl (lv_at hl 0 rfl) ?_
                                                                                                                  obtain ⟨y218, σ220, u219, hf⟩ := b2_e hf
                                                                                                                  refine lV (n := 0) (As := []) (rest := []) (c_X4_textError l D t b σ216 y218 σ220 u219) hx hb hml hown hts hE hsub hW hS q936 q937 q938 q34 q939 hy_X4_textError ⟨rfl, rfl⟩ ⟨Nat.le_of_ble_eq_true rfl, Nat.le_of_ble_eq_true rfl⟩ rfl rfl hl.1 (Nat.le_of_ble_eq_true rfl) ⟨show cl + 1 ≤ 747 by omega, show sl + 6 ≤ 16258 by omega⟩ dL_texts_574 (fun H locs hW hS _ => ?_)
                                                                                                                  refine lv_iload_n hx hb dL_texts_577 rfl (lv_at hl 1 rfl) ?_
                                                                                                                  refine lv_iconst (v := 3) hx hb dL_texts_578 (by decide) ?_
                                                                                                                  refine lv_irem hx hb dL_texts_579 (by decide) ?_
                                                                                                                  refine lv_iconst (v := 1) hx hb dL_texts_580 (by decide) ?_
                                                                                                                  refine lv_icmp_ne (tgt := 588) hx hb dL_texts_581 (by decide) (fun h221 => ?_) (fun h221 => ?_)
                                                                                                                  · have hf := ifn h221 hf
                                                                                                                    refine lv_iload_n hx hb dL_texts_588 rfl (lv_at hl 1 rfl) ?_
                                                                                                                    refine lv_iconst (v := 1) hx hb dL_texts_589 (by decide) ?_
                                                                                                                    refine lv_iadd hx hb dL_texts_590 ?_
                                                                                                                    refine lv_icmp_eq (tgt := 596) hx hb dL_texts_591 (by decide) (fun h223 => ?_) (fun h223 => ?_)
                                                                                                                    · have hf := ifp h223 hf
                                                                                                                      refine lv_iinc (v := (x1 + 1)) (lv' := [(1, .int (x1 + 1)), (0, .ref (b + 0))]) hx hb dL_texts_596 hl (k := 1) rfl (by rfl) (by decide) rfl (fun ls hl => ?_)
                                                                                                                      refine lv_goto (tgt := 532) hx hb dL_texts_599 (by decide) ?_
                                                                                                                      refine W.widen (k := cl + 1) (n := sl + 6) (by omega) (by omega) ?_
                                                                                                                      exact ih_532 σ220 (x1 + 1) (cl + 1) (sl + 6) ce se _ _ _ _ hf (by omega) (by omega) hcm hsm kx kk hW hS (lv_sub hl [1, 0] rfl)
                                                                                                                    · have hf := ifn h223 hf
                                                                                                                      refine lv_iconst (v := 0) hx hb dL_texts_594 (by decide) ?_
                                                                                                                      cases hf
                                                                                                                      have h9 := kx _ rfl
                                                                                                                      cases h9
                                                                                                                      refine W.widen (k := 747) (n := 16258) (by omega) (by omega) ?_
                                                                                                                      exact W.zret (ty := .boolean) hx hb hr (by decide) (fun u hu _ => ⟨rfl, by rw [hu]; exact hS.1, fun q hq => by rw [hu]; exact hS.2.1 q (by omega) (Nat.not_le.mpr hq)⟩) hS.2.2 dL_texts_595
                                                                                                                  · have hf := ifp h221 hf
                                                                                                                    refine lv_iconst (v := (-1)) hx hb dL_texts_584 (by decide) ?_
                                                                                                                    refine lv_goto (tgt := 591) hx hb dL_texts_585 (by decide) ?_
                                                                                                                    refine lv_icmp_eq (tgt := 596) hx hb dL_texts_591 (by decide) (fun h222 => ?_) (fun h222 => ?_)
                                                                                                                    · have hf := ifp h222 hf
                                                                                                                      refine lv_iinc (v := (x1 + 1)) (lv' := [(1, .int (x1 + 1)), (0, .ref (b + 0))]) hx hb dL_texts_596 hl (k := 1) rfl (by rfl) (by decide) rfl (fun ls hl => ?_)
                                                                                                                      refine lv_goto (tgt := 532) hx hb dL_texts_599 (by decide) ?_
                                                                                                                      refine W.widen (k := cl + 1) (n := sl + 6) (by omega) (by omega) ?_
                                                                                                                      exact ih_532 σ220 (x1 + 1) (cl + 1) (sl + 6) ce se _ _ _ _ hf (by omega) (by omega) hcm hsm kx kk hW hS (lv_sub hl [1, 0] rfl)
                                                                                                                    · have hf := ifn h222 hf
                                                                                                                      refine lv_iconst (v := 0) hx hb dL_texts_594 (by decide) ?_
                                                                                                                      cases hf
                                                                                                                      have h9 := kx _ rfl
                                                                                                                      cases h9
                                                                                                                      refine W.widen (k := 747) (n := 16258) (by omega) (by omega) ?_
                                                                                                                      exact W.zret (ty := .boolean) hx hb hr (by decide) (fun u hu _ => ⟨rfl, by rw [hu]; exact hS.1, fun q hq => by rw [hu]; exact hS.2.1 q (by omega) (Nat.not_le.mpr hq)⟩) hS.2.2 dL_texts_595
                                                                                                              · have hf := ifp h203 hf
                                                                                                                refine lv_bipush (v := 52) hx hb dL_texts_557 (by decide) ?_
                                                                                                                refine lv_goto (tgt := 564) hx hb dL_texts_559 (by decide) ?_
                                                                                                                obtain ⟨y204, σ206, u205, hf⟩ := bn2_e hf
                                                                                                                refine lVXn (n := 1) (As := [.int 52]) (rest := []) (c_X4_type l hfl D t b τ 52 (.inr (y204, σ206)) u205) hx hb hml hown hts hE hsub hW hS q839 q840 q841 q34 q842 hy_X4_type ⟨rfl, rfl⟩ ⟨Nat.le_of_ble_eq_true rfl, Nat.le_of_ble_eq_true rfl⟩ rfl rfl hl.1 (Nat.le_of_ble_eq_true rfl) ⟨show cl + 0 + 1 ≤ 747 by omega, show sl + 0 + 6 ≤ 16258 by omega⟩ dL_texts_564 (fun H locs hW hS _ => ?_)
                                                                                                                refine W.widen (k := cl + 1) (n := sl + 6) (by omega) (by omega) ?_
                                                                                                                refine lv_iload_n hx hb dL_texts_567 rfl (lv_at hl 1 rfl) ?_
                                                                                                                refine lv_iconst (v := 1) hx hb dL_texts_568 (by decide) ?_
                                                                                                                refine lv_iadd hx hb dL_texts_569 ?_
                                                                                                                refine lv_icmp_ne (tgt := 594) hx hb dL_texts_570 (by decide) (fun h207 => ?_) (fun h207 => ?_)
                                                                                                                · have hf := ifn h207 hf
                                                                                                                  refine lv_iconst (v := 0) hx hb dL_texts_594 (by decide) ?_
                                                                                                                  cases hf
                                                                                                                  have h9 := kx _ rfl
                                                                                                                  cases h9
                                                                                                                  refine W.widen (k := 747) (n := 16258) (by omega) (by omega) ?_
                                                                                                                  exact W.zret (ty := .boolean) hx hb hr (by decide) (fun u hu _ => ⟨rfl, by rw [hu]; exact hS.1, fun q hq => by rw [hu]; exact hS.2.1 q (by omega) (Nat.not_le.mpr hq)⟩) hS.2.2 dL_texts_595
                                                                                                                · have hf := ifp h207 hf
                                                                                                                  refine lv_aload_n hx hb dL_texts_573 rfl (lv_at hl 0 rfl) ?_
                                                                                                                  obtain ⟨y208, σ210, u209, hf⟩ := b2_e hf
                                                                                                                  refine lV (n := 0) (As := []) (rest := []) (c_X4_textError l D t b σ206 y208 σ210 u209) hx hb hml hown hts hE hsub hW hS q936 q937 q938 q34 q939 hy_X4_textError ⟨rfl, rfl⟩ ⟨Nat.le_of_ble_eq_true rfl, Nat.le_of_ble_eq_true rfl⟩ rfl rfl hl.1 (Nat.le_of_ble_eq_true rfl) ⟨show cl + 1 ≤ 747 by omega, show sl + 6 ≤ 16258 by omega⟩ dL_texts_574 (fun H locs hW hS _ => ?_)
                                                                                                                  refine lv_iload_n hx hb dL_texts_577 rfl (lv_at hl 1 rfl) ?_
                                                                                                                  refine lv_iconst (v := 3) hx hb dL_texts_578 (by decide) ?_
                                                                                                                  refine lv_irem hx hb dL_texts_579 (by decide) ?_
                                                                                                                  refine lv_iconst (v := 1) hx hb dL_texts_580 (by decide) ?_
                                                                                                                  refine lv_icmp_ne (tgt := 588) hx hb dL_texts_581 (by decide) (fun h211 => ?_) (fun h211 => ?_)
                                                                                                                  · have hf := ifn h211 hf
                                                                                                                    refine lv_iload_n hx hb dL_texts_588 rfl (lv_at hl 1 rfl) ?_
                                                                                                                    refine lv_iconst (v := 1) hx hb dL_texts_589 (by decide) ?_
                                                                                                                    refine lv_iadd hx hb dL_texts_590 ?_
                                                                                                                    refine lv_icmp_eq (tgt := 596) hx hb dL_texts_591 (by decide) (fun h213 => ?_) (fun h213 => ?_)
                                                                                                                    · have hf := ifp h213 hf
                                                                                                                      refine lv_iinc (v := (x1 + 1)) (lv' := [(1, .int (x1 + 1)), (0, .ref (b + 0))]) hx hb dL_texts_596 hl (k := 1) rfl (by rfl) (by decide) rfl (fun ls hl => ?_)
                                                                                                                      refine lv_goto (tgt := 532) hx hb dL_texts_599 (by decide) ?_
                                                                                                                      refine W.widen (k := cl + 1) (n := sl + 6) (by omega) (by omega) ?_
                                                                                                                      exact ih_532 σ210 (x1 + 1) (cl + 1) (sl + 6) ce se _ _ _ _ hf (by omega) (by omega) hcm hsm kx kk hW hS (lv_sub hl [1, 0] rfl)
                                                                                                                    · have hf := ifn h213 hf
                                                                                                                      refine lv_iconst (v := 0) hx hb dL_texts_594 (by decide) ?_
                                                                                                                      cases hf
                                                                                                                      have h9 := kx _ rfl
                                                                                                                      cases h9
                                                                                                                      refine W.widen (k := 747) (n := 16258) (by omega) (by omega) ?_
                                                                                                                      exact W.zret (ty := .boolean) hx hb hr (by decide) (fun u hu _ => ⟨rfl, by rw [hu]; exact hS.1, fun q hq => by rw [hu]; exact hS.2.1 q (by omega) (Nat.not_le.mpr hq)⟩) hS.2.2 dL_texts_595
                                                                                                                  · have hf := ifp h211 hf
                                                                                                                    refine lv_iconst (v := (-1)) hx hb dL_texts_584 (by decide) ?_
                                                                                                                    refine lv_goto (tgt := 591) hx hb dL_texts_585 (by decide) ?_
                                                                                                                    refine lv_icmp_eq (tgt := 596) hx hb dL_texts_591 (by decide) (fun h212 => ?_) (fun h212 => ?_)
                                                                                                                    · have hf := ifp h212 hf
                                                                                                                      refine lv_iinc (v := (x1 + 1)) (lv' := [(1, .int (x1 + 1)), (0, .ref (b + 0))]) hx hb dL_texts_596 hl (k := 1) rfl (by rfl) (by decide) rfl (fun ls hl => ?_)
                                                                                                                      refine lv_goto (tgt := 532) hx hb dL_texts_599 (by decide) ?_
                                                                                                                      refine W.widen (k := cl + 1) (n := sl + 6) (by omega) (by omega) ?_
                                                                                                                      exact ih_532 σ210 (x1 + 1) (cl + 1) (sl + 6) ce se _ _ _ _ hf (by omega) (by omega) hcm hsm kx kk hW hS (lv_sub hl [1, 0] rfl)
                                                                                                                    · have hf := ifn h212 hf
                                                                                                                      refine lv_iconst (v := 0) hx hb dL_texts_594 (by decide) ?_
                                                                                                                      cases hf
                                                                                                                      have h9 := kx _ rfl
                                                                                                                      cases h9
                                                                                                                      refine W.widen (k := 747) (n := 16258) (by omega) (by omega) ?_
                                                                                                                      exact W.zret (ty := .boolean) hx hb hr (by decide) (fun u hu _ => ⟨rfl, by rw [hu]; exact hS.1, fun q hq => by rw [hu]; exact hS.2.1 q (by omega) (Nat.not_le.mpr hq)⟩) hS.2.2 dL_texts_595
                                                                                                            · have hf := ifp h192 hf
                                                                                                              refine lv_bipush (v := 112) hx hb dL_texts_545 (by decide) ?_
                                                                                                              refine lv_goto (tgt := 564) hx hb dL_texts_547 (by decide) ?_
                                                                                                              obtain ⟨y193, σ195, u194, hf⟩ := bn2_e hf
                                                                                                              refine lVXn (n := 1) (As := [.int 112]) (rest := []) (c_X4_type l hfl D t b τ 112 (.inr (y193, σ195)) u194) hx hb hml hown hts hE hsub hW hS q839 q840 q841 q34 q842 hy_X4_type ⟨rfl, rfl⟩ ⟨Nat.le_of_ble_eq_true rfl, Nat.le_of_ble_eq_true rfl⟩ rfl rfl hl.1 (Nat.le_of_ble_eq_true rfl) ⟨show cl + 0 + 1 ≤ 747 by omega, show sl + 0 + 6 ≤ 16258 by omega⟩ dL_texts_564 (fun H locs hW hS _ => ?_)
                                                                                                              refine W.widen (k := cl + 1) (n := sl + 6) (by omega) (by omega) ?_
                                                                                                              refine lv_iload_n hx hb dL_texts_567 rfl (lv_at hl 1 rfl) ?_
                                                                                                              refine lv_iconst (v := 1) hx hb dL_texts_568 (by decide) ?_
                                                                                                              refine lv_iadd hx hb dL_texts_569 ?_
                                                                                                              refine lv_icmp_ne (tgt := 594) hx hb dL_texts_570 (by decide) (fun h196 => ?_) (fun h196 => ?_)
                                                                                                              · have hf := ifn h196 hf
                                                                                                                refine lv_iconst (v := 0) hx hb dL_texts_594 (by decide) ?_
                                                                                                                cases hf
                                                                                                                have h9 := kx _ rfl
                                                                                                                cases h9
                                                                                                                refine W.widen (k := 747) (n := 16258) (by omega) (by omega) ?_
                                                                                                                exact W.zret (ty := .boolean) hx hb hr (by decide) (fun u hu _ => ⟨rfl, by rw [hu]; exact hS.1, fun q hq => by rw [hu]; exact hS.2.1 q (by omega) (Nat.not_le.mpr hq)⟩) hS.2.2 dL_texts_595
                                                                                                              · have hf := ifp h196 hf
                                                                                                                refine lv_aload_n hx hb dL_texts_573 rfl (lv_at hl 0 rfl) ?_
                                                                                                                obtain ⟨y197, σ199, u198, hf⟩ := b2_e hf
                                                                                                                refine lV (n := 0) (As := []) (rest := []) (c_X4_textError l D t b σ195 y197 σ199 u198) hx hb hml hown hts hE hsub hW hS q936 q937 q938 q34 q939 hy_X4_textError ⟨rfl, rfl⟩ ⟨Nat.le_of_ble_eq_true rfl, Nat.le_of_ble_eq_true rfl⟩ rfl rfl hl.1 (Nat.le_of_ble_eq_true rfl) ⟨show cl + 1 ≤ 747 by omega, show sl + 6 ≤ 16258 by omega⟩ dL_texts_574 (fun H locs hW hS _ => ?_)
                                                                                                                refine lv_iload_n hx hb dL_texts_577 rfl (lv_at hl 1 rfl) ?_
                                                                                                                refine lv_iconst (v := 3) hx hb dL_texts_578 (by decide) ?_
                                                                                                                refine lv_irem hx hb dL_texts_579 (by decide) ?_
                                                                                                                refine lv_iconst (v := 1) hx hb dL_texts_580 (by decide) ?_
                                                                                                                refine lv_icmp_ne (tgt := 588) hx hb dL_texts_581 (by decide) (fun h200 => ?_) (fun h200 => ?_)
                                                                                                                · have hf := ifn h200 hf
                                                                                                                  refine lv_iload_n hx hb dL_texts_588 rfl (lv_at hl 1 rfl) ?_
                                                                                                                  refine lv_iconst (v := 1) hx hb dL_texts_589 (by decide) ?_
                                                                                                                  refine lv_iadd hx hb dL_texts_590 ?_
                                                                                                                  refine lv_icmp_eq (tgt := 596) hx hb dL_texts_591 (by decide) (fun h202 => ?_) (fun h202 => ?_)
                                                                                                                  · have hf := ifp h202 hf
                                                                                                                    refine lv_iinc (v := (x1 + 1)) (lv' := [(1, .int (x1 + 1)), (0, .ref (b + 0))]) hx hb dL_texts_596 hl (k := 1) rfl (by rfl) (by decide) rfl (fun ls hl => ?_)
                                                                                                                    refine lv_goto (tgt := 532) hx hb dL_texts_599 (by decide) ?_
                                                                                                                    refine W.widen (k := cl + 1) (n := sl + 6) (by omega) (by omega) ?_
                                                                                                                    exact ih_532 σ199 (x1 + 1) (cl + 1) (sl + 6) ce se _ _ _ _ hf (by omega) (by omega) hcm hsm kx kk hW hS (lv_sub hl [1, 0] rfl)
                                                                                                                  · have hf := ifn h202 hf
                                                                                                                    refine lv_iconst (v := 0) hx hb dL_texts_594 (by decide) ?_
                                                                                                                    cases hf
                                                                                                                    have h9 := kx _ rfl
                                                                                                                    cases h9
                                                                                                                    refine W.widen (k := 747) (n := 16258) (by omega) (by omega) ?_
                                                                                                                    exact W.zret (ty := .boolean) hx hb hr (by decide) (fun u hu _ => ⟨rfl, by rw [hu]; exact hS.1, fun q hq => by rw [hu]; exact hS.2.1 q (by omega) (Nat.not_le.mpr hq)⟩) hS.2.2 dL_texts_595
                                                                                                                · have hf := ifp h200 hf
                                                                                                                  refine lv_iconst (v := (-1)) hx hb dL_texts_584 (by decide) ?_
                                                                                                                  refine lv_goto (tgt := 591) hx hb dL_texts_585 (by decide) ?_
                                                                                                                  refine lv_icmp_eq (tgt := 596) hx hb dL_texts_591 (by decide) (fun h201 => ?_) (fun h201 => ?_)
                                                                                                                  · have hf := ifp h201 hf
                                                                                                                    refine lv_iinc (v := (x1 + 1)) (lv' := [(1, .int (x1 + 1)), (0, .ref (b + 0))]) hx hb dL_texts_596 hl (k := 1) rfl (by rfl) (by decide) rfl (fun ls hl => ?_)
                                                                                                                    refine lv_goto (tgt := 532) hx hb dL_texts_599 (by decide) ?_
                                                                                                                    refine W.widen (k := cl + 1) (n := sl + 6) (by omega) (by omega) ?_
                                                                                                                    exact ih_532 σ199 (x1 + 1) (cl + 1) (sl + 6) ce se _ _ _ _ hf (by omega) (by omega) hcm hsm kx kk hW hS (lv_sub hl [1, 0] rfl)
                                                                                                                  · have hf := ifn h201 hf
                                                                                                                    refine lv_iconst (v := 0) hx hb dL_texts_594 (by decide) ?_
                                                                                                                    cases hf
                                                                                                                    have h9 := kx _ rfl
                                                                                                                    cases h9
                                                                                                                    refine W.widen (k := 747) (n := 16258) (by omega) (by omega) ?_
                                                                                                                    exact W.zret (ty := .boolean) hx hb hr (by decide) (fun u hu _ => ⟨rfl, by rw [hu]; exact hS.1, fun q hq => by rw [hu]; exact hS.2.1 q (by omega) (Nat.not_le.mpr hq)⟩) hS.2.2 dL_texts_595
                                                                                                      refine key_532 81 σ183 0 (661) (15742) (742) (16228) _ _ _ res hl0 (by omega) (by omega) (show 742 ≤ 747 by omega) (show 16228 ≤ 16258 by omega) (fun a h => hA a h) (fun q532 hq H locs ls hW hS hl => ?_) hW hS (lv_sub hl [1, 0] rfl)
                                                                                                      have hf := hB _ hq
                                                                                                      refine lv_aload_n hx hb dL_texts_602 rfl (lv_at hl 0 rfl) ?_
                                                                                                      refine lv_bipush (v := 35) hx hb dL_texts_603 (by decide) ?_
                                                                                                      refine lv_bipush (v := 112) hx hb dL_texts_605 (by decide) ?_
                                                                                                      refine lv_iconst (v := 0) hx hb dL_texts_607 (by decide) ?_
                                                                                                      refine lv_iconst (v := 0) hx hb dL_texts_608 (by decide) ?_
                                                                                                      refine lv_iconst (v := 0) hx hb dL_texts_609 (by decide) ?_
                                                                                                      obtain ⟨y224, σ226, u225, hf⟩ := b2_e hf
                                                                                                      refine lSW (n := 6) (As := [.ref (b + 0), .int 35, .int 112, .int 0, .int 0, .int 0]) (rest := []) (c_L_call l hfl D t b q532 35 112 0 0 0 y224 σ226 u225) hx hb hml hown hts hE hsub hW hS q573 q574 q33  qw_L_call hs_L_call ⟨rfl, rfl⟩ ⟨Nat.le_of_ble_eq_true rfl, Nat.le_of_ble_eq_true rfl⟩ rfl rfl hl.1 (Nat.le_of_ble_eq_true rfl) ⟨show 742 + 4 ≤ 747 by omega, show 16228 + 24 ≤ 16258 by omega⟩ dL_texts_610 (fun H locs hW hS _ => ?_)
                                                                                                      refine W.widen (k := 746) (n := 16252) (by omega) (by omega) ?_
                                                                                                      refine lv_sipush (v := (-2013)) hx hb dL_texts_613 (by decide) ?_
                                                                                                      refine lv_icmp_ne (tgt := 658) hx hb dL_texts_616 (by decide) (fun h227 => ?_) (fun h227 => ?_)
                                                                                                      · have hf := ifn h227 hf
                                                                                                        refine lv_iconst (v := 0) hx hb dL_texts_658 (by decide) ?_
                                                                                                        cases hf
                                                                                                        refine W.widen (k := 747) (n := 16258) (by omega) (by omega) ?_
                                                                                                        exact W.zret (ty := .boolean) hx hb hr (by decide) (fun u hu _ => ⟨rfl, by rw [hu]; exact hS.1, fun q hq => by rw [hu]; exact hS.2.1 q (by omega) (Nat.not_le.mpr hq)⟩) hS.2.2 dL_texts_659
                                                                                                      · have hf := ifp h227 hf
                                                                                                        refine lv_aload_n hx hb dL_texts_619 rfl (lv_at hl 0 rfl) ?_
                                                                                                        obtain ⟨y228, σ230, u229, hf⟩ := b2_e hf
                                                                                                        refine lV (n := 0) (As := []) (rest := []) (c_X4_clearText l D t b σ226 y228 σ230 u229) hx hb hml hown hts hE hsub hW hS q991 q992 q993 q34 q994 hy_X4_clearText ⟨rfl, rfl⟩ ⟨Nat.le_of_ble_eq_true rfl, Nat.le_of_ble_eq_true rfl⟩ rfl rfl hl.1 (Nat.le_of_ble_eq_true rfl) ⟨show 746 ≤ 747 by omega, show 16252 ≤ 16258 by omega⟩ dL_texts_620 (fun H locs hW hS _ => ?_)
                                                                                                        refine lv_bipush (v := 80) hx hb dL_texts_623 (by decide) ?_
                                                                                                        refine lv_icmp_ne (tgt := 658) hx hb dL_texts_625 (by decide) (fun h231 => ?_) (fun h231 => ?_)
                                                                                                        · have hf := ifn h231 hf
                                                                                                          refine lv_iconst (v := 0) hx hb dL_texts_658 (by decide) ?_
                                                                                                          cases hf
                                                                                                          refine W.widen (k := 747) (n := 16258) (by omega) (by omega) ?_
                                                                                                          exact W.zret (ty := .boolean) hx hb hr (by decide) (fun u hu _ => ⟨rfl, by rw [hu]; exact hS.1, fun q hq => by rw [hu]; exact hS.2.1 q (by omega) (Nat.not_le.mpr hq)⟩) hS.2.2 dL_texts_659
                                                                                                        · have hf := ifp h231 hf
                                                                                                          refine lv_aload_n hx hb dL_texts_628 rfl (lv_at hl 0 rfl) ?_
                                                                                                          refine lv_sipush (v := 960) hx hb dL_texts_629 (by decide) ?_
                                                                                                          obtain ⟨y232, σ234, u233, hf⟩ := bn2_e hf
                                                                                                          refine lVXn (n := 1) (As := [.int 960]) (rest := []) (c_X4_type l hfl D t b σ230 960 (.inr (y232, σ234)) u233) hx hb hml hown hts hE hsub hW hS q839 q840 q841 q34 q842 hy_X4_type ⟨rfl, rfl⟩ ⟨Nat.le_of_ble_eq_true rfl, Nat.le_of_ble_eq_true rfl⟩ rfl rfl hl.1 (Nat.le_of_ble_eq_true rfl) ⟨show 746 + 1 ≤ 747 by omega, show 16252 + 6 ≤ 16258 by omega⟩ dL_texts_632 (fun H locs hW hS _ => ?_)
                                                                                                          refine W.widen (k := 747) (n := 16258) (by omega) (by omega) ?_
                                                                                                          refine lv_iconst (v := 1) hx hb dL_texts_635 (by decide) ?_
                                                                                                          refine lv_icmp_ne (tgt := 658) hx hb dL_texts_636 (by decide) (fun h235 => ?_) (fun h235 => ?_)
                                                                                                          · have hf := ifn h235 hf
                                                                                                            refine lv_iconst (v := 0) hx hb dL_texts_658 (by decide) ?_
                                                                                                            cases hf
                                                                                                            refine W.widen (k := 747) (n := 16258) (by omega) (by omega) ?_
                                                                                                            exact W.zret (ty := .boolean) hx hb hr (by decide) (fun u hu _ => ⟨rfl, by rw [hu]; exact hS.1, fun q hq => by rw [hu]; exact hS.2.1 q (by omega) (Nat.not_le.mpr hq)⟩) hS.2.2 dL_texts_659
                                                                                                          · have hf := ifp h235 hf
                                                                                                            refine lv_aload_n hx hb dL_texts_639 rfl (lv_at hl 0 rfl) ?_
                                                                                                            obtain ⟨y236, σ238, u237, hf⟩ := b2_e hf
                                                                                                            refine lV (n := 0) (As := []) (rest := []) (c_X4_textError l D t b σ234 y236 σ238 u237) hx hb hml hown hts hE hsub hW hS q936 q937 q938 q34 q939 hy_X4_textError ⟨rfl, rfl⟩ ⟨Nat.le_of_ble_eq_true rfl, Nat.le_of_ble_eq_true rfl⟩ rfl rfl hl.1 (Nat.le_of_ble_eq_true rfl) ⟨show 747 ≤ 747 by omega, show 16258 ≤ 16258 by omega⟩ dL_texts_640 (fun H locs hW hS _ => ?_)
                                                                                                            refine lv_if_ne (tgt := 658) hx hb dL_texts_643 (by decide) (fun h239 => ?_) (fun h239 => ?_)
                                                                                                            · have hf := ifn h239 hf
                                                                                                              refine lv_iconst (v := 0) hx hb dL_texts_658 (by decide) ?_
                                                                                                              cases hf
                                                                                                              refine W.widen (k := 747) (n := 16258) (by omega) (by omega) ?_
                                                                                                              exact W.zret (ty := .boolean) hx hb hr (by decide) (fun u hu _ => ⟨rfl, by rw [hu]; exact hS.1, fun q hq => by rw [hu]; exact hS.2.1 q (by omega) (Nat.not_le.mpr hq)⟩) hS.2.2 dL_texts_659
                                                                                                            · have hf := ifp h239 hf
                                                                                                              refine lv_aload_n hx hb dL_texts_646 rfl (lv_at hl 0 rfl) ?_
                                                                                                              obtain ⟨y240, σ242, u241, hf⟩ := b2_e hf
                                                                                                              refine lV (n := 0) (As := []) (rest := []) (c_X4_clearText l D t b σ238 y240 σ242 u241) hx hb hml hown hts hE hsub hW hS q991 q992 q993 q34 q994 hy_X4_clearText ⟨rfl, rfl⟩ ⟨Nat.le_of_ble_eq_true rfl, Nat.le_of_ble_eq_true rfl⟩ rfl rfl hl.1 (Nat.le_of_ble_eq_true rfl) ⟨show 747 ≤ 747 by omega, show 16258 ≤ 16258 by omega⟩ dL_texts_647 (fun H locs hW hS _ => ?_)
                                                                                                              refine lv_iconst (v := 1) hx hb dL_texts_650 (by decide) ?_
                                                                                                              refine lv_icmp_ne (tgt := 658) hx hb dL_texts_651 (by decide) (fun h243 => ?_) (fun h243 => ?_)
                                                                                                              · have hf := ifn h243 hf
                                                                                                                refine lv_iconst (v := 0) hx hb dL_texts_658 (by decide) ?_
                                                                                                                cases hf
                                                                                                                refine W.widen (k := 747) (n := 16258) (by omega) (by omega) ?_
                                                                                                                exact W.zret (ty := .boolean) hx hb hr (by decide) (fun u hu _ => ⟨rfl, by rw [hu]; exact hS.1, fun q hq => by rw [hu]; exact hS.2.1 q (by omega) (Nat.not_le.mpr hq)⟩) hS.2.2 dL_texts_659
                                                                                                              · have hf := ifp h243 hf
                                                                                                                refine lv_iconst (v := 1) hx hb dL_texts_654 (by decide) ?_
                                                                                                                refine lv_goto (tgt := 659) hx hb dL_texts_655 (by decide) ?_
                                                                                                                cases hf
                                                                                                                refine W.widen (k := 747) (n := 16258) (by omega) (by omega) ?_
                                                                                                                exact W.zret (ty := .boolean) hx hb hr (by decide) (fun u hu _ => ⟨rfl, by rw [hu]; exact hS.1, fun q hq => by rw [hu]; exact hS.2.1 q (by omega) (Nat.not_le.mpr hq)⟩) hS.2.2 dL_texts_659
                                                                                                    · have hf := ifn h190 hf
                                                                                                      refine lv_iconst (v := 0) hx hb dL_texts_528 (by decide) ?_
                                                                                                      cases hf
                                                                                                      refine W.widen (k := 747) (n := 16258) (by omega) (by omega) ?_
                                                                                                      exact W.zret (ty := .boolean) hx hb hr (by decide) (fun u hu _ => ⟨rfl, by rw [hu]; exact hS.1, fun q hq => by rw [hu]; exact hS.2.1 q (by omega) (Nat.not_le.mpr hq)⟩) hS.2.2 dL_texts_529
                                          · have hf := ifp h84 hf
                                            refine lv_iconst (v := 0) hx hb dL_texts_262 (by decide) ?_
                                            cases hf
                                            refine W.widen (k := 747) (n := 16258) (by omega) (by omega) ?_
                                            exact W.zret (ty := .boolean) hx hb hr (by decide) (fun u hu _ => ⟨rfl, by rw [hu]; exact hS.1, fun q hq => by rw [hu]; exact hS.2.1 q (by omega) (Nat.not_le.mpr hq)⟩) hS.2.2 dL_texts_263
                    · have hf := ifp h40 hf
                      refine lv_iconst (v := 0) hx hb dL_texts_129 (by decide) ?_
                      cases hf
                      refine W.widen (k := 747) (n := 16258) (by omega) (by omega) ?_
                      exact W.zret (ty := .boolean) hx hb hr (by decide) (fun u hu _ => ⟨rfl, by rw [hu]; exact hS.1, fun q hq => by rw [hu]; exact hS.2.1 q (by omega) (Nat.not_le.mpr hq)⟩) hS.2.2 dL_texts_130

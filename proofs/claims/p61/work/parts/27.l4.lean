set_option maxRecDepth 100000 in
def f_L_days : Option Int32 := b2 (f_L_call s0 10 0 0 0 0) fun y1 σ3 => if y1 = (-2013) then (b2 (f_L_call σ3 11 0 0 0 0) fun y5 σ7 => if y5 = (-2013) then (b1 (f_X4_bank σ7) fun y9 => if y9 = 500 then (b1 (f_X4_coinsByPlaces σ7) fun y12 => if y12 = 500 then (b1 (f_X4_happiest σ7) fun y15 => if y15 = (-1) then (b1 (f_X4_isChildDue σ7) fun y18 => if y18 = 0 then (some 0) else (bn1 (f_X4_stallOn σ7 11) fun y21 => if y21 = (-1) then (b2 (f_L_refused σ7) fun y24 σ26 => if y24 = 0 then (some 0) else (b2 (f_L_rains σ26 5) fun y28 σ30 => if y28 = 0 then (some 0) else (bn2 (f_X4_bestPitch σ30 0 1) fun y32 σ34 => if y32 = 0 then (b2 (f_X4_takingsToday σ34) fun y36 σ38 => if y36 = 0 then (bn2 (f_X4_come σ38 20 3 1) fun y40 σ42 => if y40 = 0 then (b2 (f_L_is σ42 0 20 60 0 0 2) fun y44 σ46 => if y44 = 0 then (some 0) else (bn2 (f_X4_build σ46 0 4 3 1) fun y48 σ50 => if y48 = 0 then (b1 (f_X4_bank σ50) fun y52 => if y52 = 450 then (bn2 (f_X4_build σ50 1 3 2 0) fun y55 σ57 => if y55 = 1 then (b2 (f_L_call σ57 0 1 0 1 0) fun y59 σ61 => if y59 = (-2013) then (b2 (f_L_call σ61 4 1 0 1 1) fun y63 σ65 => if y63 = (-2013) then (bn2 (f_X4_fund σ65 1 20) fun y67 σ69 => if y67 = 20 then (bn2 (f_X4_restock σ69 1 0 1 2) fun y71 σ73 => if y71 = 18 then (bn2 (f_X4_restock σ73 1 0 3 1) fun y75 σ77 => if y75 = 17 then (bn1 (f_X4_shelfOf σ77 1) fun y79 => if y79 = 3 then (bn1 (f_X4_levelToWin σ77 1) fun y82 => if y82 = 0 then (bn1 (f_X4_levelToWin σ77 0) fun y85 => if y85 = (-1) then (bn1 (f_X4_playsToWin σ77 1) fun y88 => if y88 = 1 then (bn1 (f_X4_playsToWin σ77 0) fun y91 => if y91 = (-1) then (bn1 (f_X4_rentOf σ77 0) fun y94 => if y94 = 8 then (bn1 (f_X4_rentOf σ77 1) fun y97 => if y97 = 7 then (bn2 (f_X4_homeIn σ77 0) fun y100 σ102 => if y100 = 31 then (b2 (f_X4_takingsToday σ102) fun y104 σ106 => if y104 = 20 then (b2 (f_L_is σ106 0 20 60 0 0 0) fun y108 σ110 => if y108 = 0 then (some 0) else (b2 (f_L_refused σ110) fun y112 σ114 => if y112 = 0 then (some 0) else (b2 (f_X4_takeSnapshot σ114) fun y116 σ118 => if y116 = 400 then (bn2 (f_X4_pass σ118 1) fun y120 σ122 => if y120 = 1 then (b2 (f_L_is σ122 0 17 75 0 0 0) fun y124 σ126 => if y124 = 0 then (some 0) else (bn2 (f_X4_pass σ126 1) fun y128 σ130 => if y128 = 1 then (b2 (f_L_is σ130 0 14 90 0 0 4) fun y132 σ134 => if y132 = 0 then (some 0) else (bn2 (f_X4_pass σ134 1) fun y136 σ138 => if y136 = 0 then (b2 (f_L_is σ138 0 14 90 1 0 0) fun y140 σ142 => if y140 = 0 then (some 0) else (bn2 (f_X4_pass σ142 2) fun y144 σ146 => if y144 = 2 then (b2 (f_L_is σ146 0 10 100 1 2 4) fun y148 σ150 => if y148 = 0 then (some 0) else (bn1 (f_X4_prizesOn σ150 1 0 1) fun y152 => if y152 = 0 then (bn1 (f_X4_wonOf σ150 0) fun y155 => if y155 = 2 then (bn2 (f_X4_pass σ150 10) fun y158 σ160 => if y158 = 0 then (b2 (f_L_is σ160 0 10 80 11 2 2) fun y162 σ164 => if y162 = 0 then (some 0) else (bn1 (f_X4_isHomeward σ164 0) fun y166 => if y166 = 0 then (bn2 (f_X4_pass σ164 1) fun y169 σ171 => if y169 = 0 then (b2 (f_L_is σ171 0 10 78 10 2 2) fun y173 σ175 => if y173 = 0 then (some 0) else (bn1 (f_X4_isHomeward σ175 0) fun y177 => if y177 = 0 then (some 0) else (bn2 (f_X4_pass σ175 9) fun y180 σ182 => if y180 = 0 then (b2 (f_L_is σ182 0 10 60 1 2 0) fun y184 σ186 => if y184 = 0 then (some 0) else (bn2 (f_X4_pass σ186 1) fun y188 σ190 => if y188 = 1 then (b2 (f_L_is σ190 0 8 78 1 3 0) fun y192 σ194 => if y192 = 0 then (some 0) else (bn1 (f_X4_levelToWin σ194 1) fun y196 => if y196 = (-1) then (bn2 (f_X4_pass σ194 1) fun y199 σ201 => if y199 = 1 then (b2 (f_L_is σ201 0 6 68 1 3 4) fun y203 σ205 => if y203 = 0 then (some 0) else (bn2 (f_X4_pass σ205 1) fun y207 σ209 => if y207 = 0 then (b2 (f_L_is σ209 0 6 66 0 3 0) fun y211 σ213 => if y211 = 0 then (some 0) else (bn2 (f_X4_pass σ213 2) fun y215 σ217 => if y215 = 2 then (b2 (f_L_is σ217 0 0 96 0 3 3) fun y219 σ221 => if y219 = 0 then (some 0) else (bn2 (f_X4_homeIn σ221 0) fun y223 σ225 => if y223 = 1 then (bn2 (f_X4_pass σ225 1) fun y227 σ229 => if y227 = 0 then (b2 (f_L_is σ229 0 0 96 (-1) 3 1) fun y231 σ233 => if y231 = 0 then (some 0) else (bn1 (f_X4_isHomeward σ233 0) fun y235 => if y235 = 0 then (some 0) else (b1 (f_X4_round σ233) fun y238 => if y238 = 31 then (b1 (f_X4_takings σ233) fun y241 => if y241 = 20 then (b1 (f_X4_takingsByChildren σ233) fun y244 => if y244 = 20 then (bn1 (f_X4_purseOfStall σ233 0) fun y247 => if y247 = 12 then (bn1 (f_X4_purseOfStall σ233 1) fun y250 => if y250 = 25 then (bn2 (f_X4_pass σ233 9) fun y253 σ255 => if y253 = 0 then (b1 (f_X4_day σ255) fun y257 => if y257 = 1 then (b1 (f_X4_round σ255) fun y260 => if y260 = 0 then (bn1 (f_X4_purseOfStall σ255 0) fun y263 => if y263 = 4 then (bn1 (f_X4_purseOfStall σ255 1) fun y266 => if y266 = 18 then (b1 (f_X4_town σ255) fun y269 => if y269 = 15 then (b1 (f_X4_allCoins σ255) fun y272 => if y272 = 520 then (b1 (f_X4_coinsByPlaces σ255) fun y275 => if y275 = 520 then (b1 (f_X4_recordedStates σ255) fun y278 => if y278 = 4 then (b2 (f_L_refused σ255) fun y281 σ283 => if y281 = 0 then (some 0) else (bn2 (f_X4_collect σ283 0) fun y285 σ287 => if y285 = 4 then (bn2 (f_X4_pass σ287 40) fun y289 σ291 => if y289 = 0 then (bn1 (f_X4_isOpen σ291 0) fun y293 => if y293 = 0 then (bn1 (f_X4_purseOfStall σ291 0) fun y296 => if y296 = 0 then (bn1 (f_X4_purseOfStall σ291 1) fun y299 => if y299 = 11 then (b1 (f_X4_town σ291) fun y302 => if y302 = 22 then (bn2 (f_X4_turnStall σ291 0) fun y305 σ307 => if y305 = 0 then (some 0) else (bn2 (f_X4_restoreSnapshot σ307) fun y309 σ311 => if y309 = 400 then (bn2 (f_X4_pass σ311 40) fun y313 σ315 => if y313 = 8 then (b1 (f_X4_town σ315) fun y317 => if y317 = 15 then (bn2 (f_X4_pullDown σ315 0) fun y320 σ322 => if y320 = 4 then (bn1 (f_X4_stallOn σ322 1) fun y324 => if y324 = 0 then (b1 (f_X4_plays σ322) fun y327 => if y327 = 8 then (b1 f_L_games fun y330 => if y330 = 0 then (some 0) else (b1 f_L_walks fun y333 => if y333 = 0 then (some 0) else (b1 f_L_limits fun y336 => if y336 = 0 then (some 0) else (some 1)))) else (some 0)) else (some 0)) else (some 0)) else (some 0)) else (some 0)) else (some 0))) else (some 0)) else (some 0)) else (some 0)) else (some 0)) else (some 0)) else (some 0))) else (some 0)) else (some 0)) else (some 0)) else (some 0)) else (some 0)) else (some 0)) else (some 0)) else (some 0)) else (some 0)) else (some 0)) else (some 0)) else (some 0)) else (some 0)) else (some 0)))) else (some 0)) else (some 0))) else (some 0))) else (some 0))) else (some 0)) else (some 0))) else (some 0))) else (some 0)))) else (some 0)) else (some 0))) else (some 0)) else (some 0)) else (some 0))) else (some 0))) else (some 0))) else (some 0))) else (some 0)) else (some 0)))) else (some 0)) else (some 0)) else (some 0)) else (some 0)) else (some 0)) else (some 0)) else (some 0)) else (some 0)) else (some 0)) else (some 0)) else (some 0)) else (some 0)) else (some 0)) else (some 0)) else (some 0)) else (some 0)) else (some 0))) else (some 0)) else (some 0)) else (some 0)))) else (some 0))) else (some 0)) else (some 0)) else (some 0)) else (some 0)) else (some 0)
set_option maxHeartbeats 8000000 in
set_option maxRecDepth 100000 in
theorem c_L_days (l : Launch) (hfl : l.stackTraces = false) (D : va_G) (t : Nat → ClassId) (b : Nat) (r : Int32) (hf : f_L_days = some r) : Met l yL_days (Cond.code yL_days cL_days 1 (some .boolean) :: ALL) ({ frames := 15, cells := 79790, slots := 525844, locals := 298 }) (PN D t b) (QN b (some (.int r))) 79790 525844 (geC b) := by
  refine Met.ofW (cc := cL_days) (maxL := 1) (ret := (some .boolean)) (by decide) rfl ?_
  intro p e s m args below meth c s₁ B hml hv
  obtain ⟨rfl, hz, hE, hEC⟩ := hv
  have hz0 := hz
  have hsub : ∀ q, geA b q → geC b q := fun q h => h.1
  have hx := B.exec
  have hb := B.bytes
  have hr := B.returns
  have hts := atoms_spec (ws := Cond.code yL_days cL_days 1 (some .boolean) :: ALL) B.pre
  have hta := fun w h => hts w (List.mem_cons_of_mem _ h)
  have hown : s.vm.findClass RL = some m.cls := findClass_of_methodNamed B.named
  have hlocks := B.notSynchronized
  have hS : va_S (geC b) s.heap s.heap [] := va_S.rf
  have hl := lv_entry ([]) (n := 1) (Nat.le_of_ble_eq_true rfl)
  rw [lg_entry_eq]
  generalize (lg_sl ([]) ++ List.replicate (1 - (lg_sl ([])).length) Slot.unset).toArray = ls at hl ⊢
  have hl : lv_has ls 1 [] := hl
  unfold f_L_days at hf
  refine lNew (b := b) (b0 := b) (l := l) hx hb hml hown hts hEC hz (Nat.le_refl _) hS q47 q49 q50 q34 q51 hl ⟨Nat.le_of_ble_eq_true rfl, Nat.le_of_ble_eq_true rfl⟩ ⟨show 0 + 193 ≤ 79790 by omega, show 0 + 12934 ≤ 525844 by omega⟩ dL_days_0 dL_days_3 dL_days_4 (fun H locs hW hz hS _ => ?_)
  refine W.widen (k := 193) (n := 12934) (by omega) (by omega) ?_
  refine lv_astore_n (lv' := [(0, .ref (b + 0))]) hx hb dL_days_7 rfl hl (by decide) rfl (fun ls hl => ?_)
  refine lv_aload_n hx hb dL_days_8 rfl (lv_at hl 0 rfl) ?_
  refine lv_bipush (v := 10) hx hb dL_days_9 (by decide) ?_
  refine lv_iconst (v := 0) hx hb dL_days_11 (by decide) ?_
  refine lv_iconst (v := 0) hx hb dL_days_12 (by decide) ?_
  refine lv_iconst (v := 0) hx hb dL_days_13 (by decide) ?_
  refine lv_iconst (v := 0) hx hb dL_days_14 (by decide) ?_
  obtain ⟨y1, σ3, u2, hf⟩ := b2_e hf
  refine lSW (n := 6) (As := [.ref (b + 0), .int 10, .int 0, .int 0, .int 0, .int 0]) (rest := []) (c_L_call l hfl D t b s0 10 0 0 0 0 y1 σ3 u2) hx hb hml hown hts hE hsub hW hS q573 q574 q33  qw_L_call hs_L_call ⟨rfl, rfl⟩ ⟨Nat.le_of_ble_eq_true rfl, Nat.le_of_ble_eq_true rfl⟩ rfl rfl hl.1 (Nat.le_of_ble_eq_true rfl) ⟨show 193 + 4 ≤ 79790 by omega, show 12934 + 24 ≤ 525844 by omega⟩ dL_days_15 (fun H locs hW hS _ => ?_)
  refine W.widen (k := 197) (n := 12958) (by omega) (by omega) ?_
  refine lv_sipush (v := (-2013)) hx hb dL_days_18 (by decide) ?_
  refine lv_icmp_ne (tgt := 358) hx hb dL_days_21 (by decide) (fun h4 => ?_) (fun h4 => ?_)
  · have hf := ifn h4 hf
    refine lv_iconst (v := 0) hx hb dL_days_358 (by decide) ?_
    cases hf
    refine W.widen (k := 79790) (n := 525844) (by omega) (by omega) ?_
    exact W.zret (ty := .boolean) hx hb hr (by decide) (fun u hu _ => ⟨rfl, by rw [hu]; exact hS.1, fun q hq => by rw [hu]; exact hS.2.1 q (by omega) (Nat.not_le.mpr hq)⟩) hS.2.2 dL_days_359
  · have hf := ifp h4 hf
    refine lv_aload_n hx hb dL_days_24 rfl (lv_at hl 0 rfl) ?_
    refine lv_bipush (v := 11) hx hb dL_days_25 (by decide) ?_
    refine lv_iconst (v := 0) hx hb dL_days_27 (by decide) ?_
    refine lv_iconst (v := 0) hx hb dL_days_28 (by decide) ?_
    refine lv_iconst (v := 0) hx hb dL_days_29 (by decide) ?_
    refine lv_iconst (v := 0) hx hb dL_days_30 (by decide) ?_
    obtain ⟨y5, σ7, u6, hf⟩ := b2_e hf
    refine lSW (n := 6) (As := [.ref (b + 0), .int 11, .int 0, .int 0, .int 0, .int 0]) (rest := []) (c_L_call l hfl D t b σ3 11 0 0 0 0 y5 σ7 u6) hx hb hml hown hts hE hsub hW hS q573 q574 q33  qw_L_call hs_L_call ⟨rfl, rfl⟩ ⟨Nat.le_of_ble_eq_true rfl, Nat.le_of_ble_eq_true rfl⟩ rfl rfl hl.1 (Nat.le_of_ble_eq_true rfl) ⟨show 197 + 4 ≤ 79790 by omega, show 12958 + 24 ≤ 525844 by omega⟩ dL_days_31 (fun H locs hW hS _ => ?_)
    refine W.widen (k := 201) (n := 12982) (by omega) (by omega) ?_
    refine lv_sipush (v := (-2013)) hx hb dL_days_34 (by decide) ?_
    refine lv_icmp_ne (tgt := 358) hx hb dL_days_37 (by decide) (fun h8 => ?_) (fun h8 => ?_)
    · have hf := ifn h8 hf
      refine lv_iconst (v := 0) hx hb dL_days_358 (by decide) ?_
      cases hf
      refine W.widen (k := 79790) (n := 525844) (by omega) (by omega) ?_
      exact W.zret (ty := .boolean) hx hb hr (by decide) (fun u hu _ => ⟨rfl, by rw [hu]; exact hS.1, fun q hq => by rw [hu]; exact hS.2.1 q (by omega) (Nat.not_le.mpr hq)⟩) hS.2.2 dL_days_359
    · have hf := ifp h8 hf
      refine lv_aload_n hx hb dL_days_40 rfl (lv_at hl 0 rfl) ?_
      obtain ⟨y9, u10, hf⟩ := b1_e hf
      refine lV (n := 0) (As := []) (rest := []) (c_X4_bank l D t b σ7 y9 u10) hx hb hml hown hts hE hsub hW hS q945 q946 q947 q34 q948 hy_X4_bank ⟨rfl, rfl⟩ ⟨Nat.le_of_ble_eq_true rfl, Nat.le_of_ble_eq_true rfl⟩ rfl rfl hl.1 (Nat.le_of_ble_eq_true rfl) ⟨show 201 ≤ 79790 by omega, show 12982 ≤ 525844 by omega⟩ dL_days_41 (fun H locs hW hS _ => ?_)
      refine lv_sipush (v := 500) hx hb dL_days_44 (by decide) ?_
      refine lv_icmp_ne (tgt := 358) hx hb dL_days_47 (by decide) (fun h11 => ?_) (fun h11 => ?_)
      · have hf := ifn h11 hf
        refine lv_iconst (v := 0) hx hb dL_days_358 (by decide) ?_
        cases hf
        refine W.widen (k := 79790) (n := 525844) (by omega) (by omega) ?_
        exact W.zret (ty := .boolean) hx hb hr (by decide) (fun u hu _ => ⟨rfl, by rw [hu]; exact hS.1, fun q hq => by rw [hu]; exact hS.2.1 q (by omega) (Nat.not_le.mpr hq)⟩) hS.2.2 dL_days_359
      · have hf := ifp h11 hf
        refine lv_aload_n hx hb dL_days_50 rfl (lv_at hl 0 rfl) ?_
        obtain ⟨y12, u13, hf⟩ := b1_e hf
        refine lV (n := 0) (As := []) (rest := []) (c_X4_coinsByPlaces l D t b σ7 y12 u13) hx hb hml hown hts hE hsub hW hS q998 q999 q1000 q34 q1001 hy_X4_coinsByPlaces ⟨rfl, rfl⟩ ⟨Nat.le_of_ble_eq_true rfl, Nat.le_of_ble_eq_true rfl⟩ rfl rfl hl.1 (Nat.le_of_ble_eq_true rfl) ⟨show 201 ≤ 79790 by omega, show 12982 ≤ 525844 by omega⟩ dL_days_51 (fun H locs hW hS _ => ?_)
        refine lv_sipush (v := 500) hx hb dL_days_54 (by decide) ?_
        refine lv_icmp_ne (tgt := 358) hx hb dL_days_57 (by decide) (fun h14 => ?_) (fun h14 => ?_)
        · have hf := ifn h14 hf
          refine lv_iconst (v := 0) hx hb dL_days_358 (by decide) ?_
          cases hf
          refine W.widen (k := 79790) (n := 525844) (by omega) (by omega) ?_
          exact W.zret (ty := .boolean) hx hb hr (by decide) (fun u hu _ => ⟨rfl, by rw [hu]; exact hS.1, fun q hq => by rw [hu]; exact hS.2.1 q (by omega) (Nat.not_le.mpr hq)⟩) hS.2.2 dL_days_359
        · have hf := ifp h14 hf
          refine lv_aload_n hx hb dL_days_60 rfl (lv_at hl 0 rfl) ?_
          obtain ⟨y15, u16, hf⟩ := b1_e hf
          refine lV (n := 0) (As := []) (rest := []) (c_X4_happiest l D t b σ7 y15 u16) hx hb hml hown hts hE hsub hW hS q1010 q1011 q1012 q34 q1013 hy_X4_happiest ⟨rfl, rfl⟩ ⟨Nat.le_of_ble_eq_true rfl, Nat.le_of_ble_eq_true rfl⟩ rfl rfl hl.1 (Nat.le_of_ble_eq_true rfl) ⟨show 201 ≤ 79790 by omega, show 12982 ≤ 525844 by omega⟩ dL_days_61 (fun H locs hW hS _ => ?_)
          refine lv_iconst (v := (-1)) hx hb dL_days_64 (by decide) ?_
          refine lv_icmp_ne (tgt := 358) hx hb dL_days_65 (by decide) (fun h17 => ?_) (fun h17 => ?_)
          · have hf := ifn h17 hf
            refine lv_iconst (v := 0) hx hb dL_days_358 (by decide) ?_
            cases hf
            refine W.widen (k := 79790) (n := 525844) (by omega) (by omega) ?_
            exact W.zret (ty := .boolean) hx hb hr (by decide) (fun u hu _ => ⟨rfl, by rw [hu]; exact hS.1, fun q hq => by rw [hu]; exact hS.2.1 q (by omega) (Nat.not_le.mpr hq)⟩) hS.2.2 dL_days_359
          · have hf := ifp h17 hf
            refine lv_aload_n hx hb dL_days_68 rfl (lv_at hl 0 rfl) ?_
            obtain ⟨y18, u19, hf⟩ := b1_e hf
            refine lV (n := 0) (As := []) (rest := []) (c_X4_isChildDue l D t b σ7 y18 u19) hx hb hml hown hts hE hsub hW hS q1018 q1019 q1020 q34 q1021 hy_X4_isChildDue ⟨rfl, rfl⟩ ⟨Nat.le_of_ble_eq_true rfl, Nat.le_of_ble_eq_true rfl⟩ rfl rfl hl.1 (Nat.le_of_ble_eq_true rfl) ⟨show 201 ≤ 79790 by omega, show 12982 ≤ 525844 by omega⟩ dL_days_69 (fun H locs hW hS _ => ?_)
            refine lv_if_eq (tgt := 358) hx hb dL_days_72 (by decide) (fun h20 => ?_) (fun h20 => ?_)
            · have hf := ifp h20 hf
              refine lv_iconst (v := 0) hx hb dL_days_358 (by decide) ?_
              cases hf
              refine W.widen (k := 79790) (n := 525844) (by omega) (by omega) ?_
              exact W.zret (ty := .boolean) hx hb hr (by decide) (fun u hu _ => ⟨rfl, by rw [hu]; exact hS.1, fun q hq => by rw [hu]; exact hS.2.1 q (by omega) (Nat.not_le.mpr hq)⟩) hS.2.2 dL_days_359
            · have hf := ifn h20 hf
              refine lv_aload_n hx hb dL_days_75 rfl (lv_at hl 0 rfl) ?_
              refine lv_bipush (v := 11) hx hb dL_days_76 (by decide) ?_
              obtain ⟨y21, u22, hf⟩ := bn1_e hf
              refine lVXn (n := 1) (As := [.int 11]) (rest := []) (c_X4_stallOn l hfl D t b σ7 11 (.inr y21) u22) hx hb hml hown hts hE hsub hW hS q805 q806 q807 q34 q808 hy_X4_stallOn ⟨rfl, rfl⟩ ⟨Nat.le_of_ble_eq_true rfl, Nat.le_of_ble_eq_true rfl⟩ rfl rfl hl.1 (Nat.le_of_ble_eq_true rfl) ⟨show 201 + 1 ≤ 79790 by omega, show 12982 + 6 ≤ 525844 by omega⟩ dL_days_78 (fun H locs hW hS _ => ?_)
              refine W.widen (k := 202) (n := 12988) (by omega) (by omega) ?_
              refine lv_iconst (v := (-1)) hx hb dL_days_81 (by decide) ?_
              refine lv_icmp_ne (tgt := 358) hx hb dL_days_82 (by decide) (fun h23 => ?_) (fun h23 => ?_)
              · have hf := ifn h23 hf
                refine lv_iconst (v := 0) hx hb dL_days_358 (by decide) ?_
                cases hf
                refine W.widen (k := 79790) (n := 525844) (by omega) (by omega) ?_
                exact W.zret (ty := .boolean) hx hb hr (by decide) (fun u hu _ => ⟨rfl, by rw [hu]; exact hS.1, fun q hq => by rw [hu]; exact hS.2.1 q (by omega) (Nat.not_le.mpr hq)⟩) hS.2.2 dL_days_359
              · have hf := ifp h23 hf
                refine lv_aload_n hx hb dL_days_85 rfl (lv_at hl 0 rfl) ?_
                obtain ⟨y24, σ26, u25, hf⟩ := b2_e hf
                refine lS (n := 1) (As := [.ref (b + 0)]) (rest := []) (c_L_refused l hfl D t b σ7 y24 σ26 u25) hx hb hml hown hts hE hsub hW hS q981 q982 q33  q983 hs_L_refused ⟨rfl, rfl⟩ ⟨Nat.le_of_ble_eq_true rfl, Nat.le_of_ble_eq_true rfl⟩ rfl rfl hl.1 (Nat.le_of_ble_eq_true rfl) ⟨show 202 + 15372 ≤ 79790 by omega, show 12988 + 92232 ≤ 525844 by omega⟩ dL_days_86 (fun H locs hW hS _ => ?_)
                refine W.widen (k := 15574) (n := 105220) (by omega) (by omega) ?_
                refine lv_if_eq (tgt := 358) hx hb dL_days_89 (by decide) (fun h27 => ?_) (fun h27 => ?_)
                · have hf := ifp h27 hf
                  refine lv_iconst (v := 0) hx hb dL_days_358 (by decide) ?_
                  cases hf
                  refine W.widen (k := 79790) (n := 525844) (by omega) (by omega) ?_
                  exact W.zret (ty := .boolean) hx hb hr (by decide) (fun u hu _ => ⟨rfl, by rw [hu]; exact hS.1, fun q hq => by rw [hu]; exact hS.2.1 q (by omega) (Nat.not_le.mpr hq)⟩) hS.2.2 dL_days_359
                · have hf := ifn h27 hf
                  refine lv_aload_n hx hb dL_days_92 rfl (lv_at hl 0 rfl) ?_
                  refine lv_iconst (v := 5) hx hb dL_days_93 (by decide) ?_
                  obtain ⟨y28, σ30, u29, hf⟩ := b2_e hf
                  refine lS (n := 2) (As := [.ref (b + 0), .int 5]) (rest := []) (c_L_rains l hfl D t b σ26 5 y28 σ30 u29) hx hb hml hown hts hE hsub hW hS q1023 q1024 q33  q1025 hs_L_rains ⟨rfl, rfl⟩ ⟨Nat.le_of_ble_eq_true rfl, Nat.le_of_ble_eq_true rfl⟩ rfl rfl hl.1 (Nat.le_of_ble_eq_true rfl) ⟨show 15574 + 22 ≤ 79790 by omega, show 105220 + 132 ≤ 525844 by omega⟩ dL_days_94 (fun H locs hW hS _ => ?_)
                  refine W.widen (k := 15596) (n := 105352) (by omega) (by omega) ?_
                  refine lv_if_eq (tgt := 358) hx hb dL_days_97 (by decide) (fun h31 => ?_) (fun h31 => ?_)
                  · have hf := ifp h31 hf
                    refine lv_iconst (v := 0) hx hb dL_days_358 (by decide) ?_
                    cases hf
                    refine W.widen (k := 79790) (n := 525844) (by omega) (by omega) ?_
                    exact W.zret (ty := .boolean) hx hb hr (by decide) (fun u hu _ => ⟨rfl, by rw [hu]; exact hS.1, fun q hq => by rw [hu]; exact hS.2.1 q (by omega) (Nat.not_le.mpr hq)⟩) hS.2.2 dL_days_359
                  · have hf := ifn h31 hf
                    refine lv_aload_n hx hb dL_days_100 rfl (lv_at hl 0 rfl) ?_
                    refine lv_iconst (v := 0) hx hb dL_days_101 (by decide) ?_
                    refine lv_iconst (v := 1) hx hb dL_days_102 (by decide) ?_
                    obtain ⟨y32, σ34, u33, hf⟩ := bn2_e hf
                    refine lVXn (n := 2) (As := [.int 0, .int 1]) (rest := []) (c_X4_bestPitch l hfl D t b σ30 0 1 (.inr (y32, σ34)) u33) hx hb hml hown hts hE hsub hW hS q830 q831 q832 q34 q833 hy_X4_bestPitch ⟨rfl, rfl⟩ ⟨Nat.le_of_ble_eq_true rfl, Nat.le_of_ble_eq_true rfl⟩ rfl rfl hl.1 (Nat.le_of_ble_eq_true rfl) ⟨show 15596 + 2 ≤ 79790 by omega, show 105352 + 12 ≤ 525844 by omega⟩ dL_days_103 (fun H locs hW hS _ => ?_)
                    refine W.widen (k := 15598) (n := 105364) (by omega) (by omega) ?_
                    refine lv_if_ne (tgt := 358) hx hb dL_days_106 (by decide) (fun h35 => ?_) (fun h35 => ?_)
                    · have hf := ifn h35 hf
                      refine lv_iconst (v := 0) hx hb dL_days_358 (by decide) ?_
                      cases hf
                      refine W.widen (k := 79790) (n := 525844) (by omega) (by omega) ?_
                      exact W.zret (ty := .boolean) hx hb hr (by decide) (fun u hu _ => ⟨rfl, by rw [hu]; exact hS.1, fun q hq => by rw [hu]; exact hS.2.1 q (by omega) (Nat.not_le.mpr hq)⟩) hS.2.2 dL_days_359
                    · have hf := ifp h35 hf
                      refine lv_aload_n hx hb dL_days_109 rfl (lv_at hl 0 rfl) ?_
                      obtain ⟨y36, σ38, u37, hf⟩ := b2_e hf
                      refine lV (n := 0) (As := []) (rest := []) (c_X4_takingsToday l D t b σ34 y36 σ38 u37) hx hb hml hown hts hE hsub hW hS q1026 q1027 q1028 q34 q1029 hy_X4_takingsToday ⟨rfl, rfl⟩ ⟨Nat.le_of_ble_eq_true rfl, Nat.le_of_ble_eq_true rfl⟩ rfl rfl hl.1 (Nat.le_of_ble_eq_true rfl) ⟨show 15598 ≤ 79790 by omega, show 105364 ≤ 525844 by omega⟩ dL_days_110 (fun H locs hW hS _ => ?_)
                      refine lv_if_ne (tgt := 358) hx hb dL_days_113 (by decide) (fun h39 => ?_) (fun h39 => ?_)
                      · have hf := ifn h39 hf
                        refine lv_iconst (v := 0) hx hb dL_days_358 (by decide) ?_
                        cases hf
                        refine W.widen (k := 79790) (n := 525844) (by omega) (by omega) ?_
                        exact W.zret (ty := .boolean) hx hb hr (by decide) (fun u hu _ => ⟨rfl, by rw [hu]; exact hS.1, fun q hq => by rw [hu]; exact hS.2.1 q (by omega) (Nat.not_le.mpr hq)⟩) hS.2.2 dL_days_359
                      · have hf := ifp h39 hf
                        refine lv_aload_n hx hb dL_days_116 rfl (lv_at hl 0 rfl) ?_
                        refine lv_bipush (v := 20) hx hb dL_days_117 (by decide) ?_
                        refine lv_iconst (v := 3) hx hb dL_days_119 (by decide) ?_
                        refine lv_iconst (v := 1) hx hb dL_days_120 (by decide) ?_
                        obtain ⟨y40, σ42, u41, hf⟩ := bn2_e hf
                        refine lVXn (n := 3) (As := [.int 20, .int 3, .int 1]) (rest := []) (c_X4_come l hfl D t b σ38 20 3 1 (.inr (y40, σ42)) u41) hx hb hml hown hts hE hsub hW hS q525 q526 q527 q34 q528 hy_X4_come ⟨rfl, rfl⟩ ⟨Nat.le_of_ble_eq_true rfl, Nat.le_of_ble_eq_true rfl⟩ rfl rfl hl.1 (Nat.le_of_ble_eq_true rfl) ⟨show 15598 + 3 ≤ 79790 by omega, show 105364 + 18 ≤ 525844 by omega⟩ dL_days_121 (fun H locs hW hS _ => ?_)
                        refine W.widen (k := 15601) (n := 105382) (by omega) (by omega) ?_
                        refine lv_if_ne (tgt := 358) hx hb dL_days_124 (by decide) (fun h43 => ?_) (fun h43 => ?_)
                        · have hf := ifn h43 hf
                          refine lv_iconst (v := 0) hx hb dL_days_358 (by decide) ?_
                          cases hf
                          refine W.widen (k := 79790) (n := 525844) (by omega) (by omega) ?_
                          exact W.zret (ty := .boolean) hx hb hr (by decide) (fun u hu _ => ⟨rfl, by rw [hu]; exact hS.1, fun q hq => by rw [hu]; exact hS.2.1 q (by omega) (Nat.not_le.mpr hq)⟩) hS.2.2 dL_days_359
                        · have hf := ifp h43 hf
                          refine lv_aload_n hx hb dL_days_127 rfl (lv_at hl 0 rfl) ?_
                          refine lv_iconst (v := 0) hx hb dL_days_128 (by decide) ?_
                          refine lv_bipush (v := 20) hx hb dL_days_129 (by decide) ?_
                          refine lv_bipush (v := 60) hx hb dL_days_131 (by decide) ?_
                          refine lv_iconst (v := 0) hx hb dL_days_133 (by decide) ?_
                          refine lv_iconst (v := 0) hx hb dL_days_134 (by decide) ?_
                          refine lv_iconst (v := 2) hx hb dL_days_135 (by decide) ?_
                          obtain ⟨y44, σ46, u45, hf⟩ := b2_e hf
                          refine lS (n := 7) (As := [.ref (b + 0), .int 0, .int 20, .int 60, .int 0, .int 0, .int 2]) (rest := []) (c_L_is l hfl D t b σ42 0 20 60 0 0 2 y44 σ46 u45) hx hb hml hown hts hE hsub hW hS q1030 q1031 q33  q1032 hs_L_is ⟨rfl, rfl⟩ ⟨Nat.le_of_ble_eq_true rfl, Nat.le_of_ble_eq_true rfl⟩ rfl rfl hl.1 (Nat.le_of_ble_eq_true rfl) ⟨show 15601 + 6 ≤ 79790 by omega, show 105382 + 36 ≤ 525844 by omega⟩ dL_days_136 (fun H locs hW hS _ => ?_)
                          refine W.widen (k := 15607) (n := 105418) (by omega) (by omega) ?_
                          refine lv_if_eq (tgt := 358) hx hb dL_days_139 (by decide) (fun h47 => ?_) (fun h47 => ?_)
                          · have hf := ifp h47 hf
                            refine lv_iconst (v := 0) hx hb dL_days_358 (by decide) ?_
                            cases hf
                            refine W.widen (k := 79790) (n := 525844) (by omega) (by omega) ?_
                            exact W.zret (ty := .boolean) hx hb hr (by decide) (fun u hu _ => ⟨rfl, by rw [hu]; exact hS.1, fun q hq => by rw [hu]; exact hS.2.1 q (by omega) (Nat.not_le.mpr hq)⟩) hS.2.2 dL_days_359
                          · have hf := ifn h47 hf
                            refine lv_aload_n hx hb dL_days_142 rfl (lv_at hl 0 rfl) ?_
                            refine lv_iconst (v := 0) hx hb dL_days_143 (by decide) ?_
                            refine lv_iconst (v := 4) hx hb dL_days_144 (by decide) ?_
                            refine lv_iconst (v := 3) hx hb dL_days_145 (by decide) ?_
                            refine lv_iconst (v := 1) hx hb dL_days_146 (by decide) ?_
                            obtain ⟨y48, σ50, u49, hf⟩ := bn2_e hf
                            refine lVXn (n := 4) (As := [.int 0, .int 4, .int 3, .int 1]) (rest := []) (c_X4_build l hfl D t b σ46 0 4 3 1 (.inr (y48, σ50)) u49) hx hb hml hown hts hE hsub hW hS q299 q300 q301 q34 q302 hy_X4_build ⟨rfl, rfl⟩ ⟨Nat.le_of_ble_eq_true rfl, Nat.le_of_ble_eq_true rfl⟩ rfl rfl hl.1 (Nat.le_of_ble_eq_true rfl) ⟨show 15607 + 4 ≤ 79790 by omega, show 105418 + 24 ≤ 525844 by omega⟩ dL_days_147 (fun H locs hW hS _ => ?_)
                            refine W.widen (k := 15611) (n := 105442) (by omega) (by omega) ?_
                            refine lv_if_ne (tgt := 358) hx hb dL_days_150 (by decide) (fun h51 => ?_) (fun h51 => ?_)
                            · have hf := ifn h51 hf
                              refine lv_iconst (v := 0) hx hb dL_days_358 (by decide) ?_
                              cases hf
                              refine W.widen (k := 79790) (n := 525844) (by omega) (by omega) ?_
                              exact W.zret (ty := .boolean) hx hb hr (by decide) (fun u hu _ => ⟨rfl, by rw [hu]; exact hS.1, fun q hq => by rw [hu]; exact hS.2.1 q (by omega) (Nat.not_le.mpr hq)⟩) hS.2.2 dL_days_359
                            · have hf := ifp h51 hf
                              refine lv_aload_n hx hb dL_days_153 rfl (lv_at hl 0 rfl) ?_
                              obtain ⟨y52, u53, hf⟩ := b1_e hf
                              refine lV (n := 0) (As := []) (rest := []) (c_X4_bank l D t b σ50 y52 u53) hx hb hml hown hts hE hsub hW hS q945 q946 q947 q34 q948 hy_X4_bank ⟨rfl, rfl⟩ ⟨Nat.le_of_ble_eq_true rfl, Nat.le_of_ble_eq_true rfl⟩ rfl rfl hl.1 (Nat.le_of_ble_eq_true rfl) ⟨show 15611 ≤ 79790 by omega, show 105442 ≤ 525844 by omega⟩ dL_days_154 (fun H locs hW hS _ => ?_)
                              refine lv_sipush (v := 450) hx hb dL_days_157 (by decide) ?_
                              refine lv_icmp_ne (tgt := 358) hx hb dL_days_160 (by decide) (fun h54 => ?_) (fun h54 => ?_)
                              · have hf := ifn h54 hf
                                refine lv_iconst (v := 0) hx hb dL_days_358 (by decide) ?_
                                cases hf
                                refine W.widen (k := 79790) (n := 525844) (by omega) (by omega) ?_
                                exact W.zret (ty := .boolean) hx hb hr (by decide) (fun u hu _ => ⟨rfl, by rw [hu]; exact hS.1, fun q hq => by rw [hu]; exact hS.2.1 q (by omega) (Nat.not_le.mpr hq)⟩) hS.2.2 dL_days_359
                              · have hf := ifp h54 hf
                                refine lv_aload_n hx hb dL_days_163 rfl (lv_at hl 0 rfl) ?_
                                refine lv_iconst (v := 1) hx hb dL_days_164 (by decide) ?_
                                refine lv_iconst (v := 3) hx hb dL_days_165 (by decide) ?_
                                refine lv_iconst (v := 2) hx hb dL_days_166 (by decide) ?_
                                refine lv_iconst (v := 0) hx hb dL_days_167 (by decide) ?_
                                obtain ⟨y55, σ57, u56, hf⟩ := bn2_e hf
                                refine lVXn (n := 4) (As := [.int 1, .int 3, .int 2, .int 0]) (rest := []) (c_X4_build l hfl D t b σ50 1 3 2 0 (.inr (y55, σ57)) u56) hx hb hml hown hts hE hsub hW hS q299 q300 q301 q34 q302 hy_X4_build ⟨rfl, rfl⟩ ⟨Nat.le_of_ble_eq_true rfl, Nat.le_of_ble_eq_true rfl⟩ rfl rfl hl.1 (Nat.le_of_ble_eq_true rfl) ⟨show 15611 + 4 ≤ 79790 by omega, show 105442 + 24 ≤ 525844 by omega⟩ dL_days_168 (fun H locs hW hS _ => ?_)
                                refine W.widen (k := 15615) (n := 105466) (by omega) (by omega) ?_
                                refine lv_iconst (v := 1) hx hb dL_days_171 (by decide) ?_
                                refine lv_icmp_ne (tgt := 358) hx hb dL_days_172 (by decide) (fun h58 => ?_) (fun h58 => ?_)
                                · have hf := ifn h58 hf
                                  refine lv_iconst (v := 0) hx hb dL_days_358 (by decide) ?_
                                  cases hf
                                  refine W.widen (k := 79790) (n := 525844) (by omega) (by omega) ?_
                                  exact W.zret (ty := .boolean) hx hb hr (by decide) (fun u hu _ => ⟨rfl, by rw [hu]; exact hS.1, fun q hq => by rw [hu]; exact hS.2.1 q (by omega) (Nat.not_le.mpr hq)⟩) hS.2.2 dL_days_359
                                · have hf := ifp h58 hf
                                  refine lv_aload_n hx hb dL_days_175 rfl (lv_at hl 0 rfl) ?_
                                  refine lv_iconst (v := 0) hx hb dL_days_176 (by decide) ?_
                                  refine lv_iconst (v := 1) hx hb dL_days_177 (by decide) ?_
                                  refine lv_iconst (v := 0) hx hb dL_days_178 (by decide) ?_
                                  refine lv_iconst (v := 1) hx hb dL_days_179 (by decide) ?_
                                  refine lv_iconst (v := 0) hx hb dL_days_180 (by decide) ?_
                                  obtain ⟨y59, σ61, u60, hf⟩ := b2_e hf
                                  refine lSW (n := 6) (As := [.ref (b + 0), .int 0, .int 1, .int 0, .int 1, .int 0]) (rest := []) (c_L_call l hfl D t b σ57 0 1 0 1 0 y59 σ61 u60) hx hb hml hown hts hE hsub hW hS q573 q574 q33  qw_L_call hs_L_call ⟨rfl, rfl⟩ ⟨Nat.le_of_ble_eq_true rfl, Nat.le_of_ble_eq_true rfl⟩ rfl rfl hl.1 (Nat.le_of_ble_eq_true rfl) ⟨show 15615 + 4 ≤ 79790 by omega, show 105466 + 24 ≤ 525844 by omega⟩ dL_days_181 (fun H locs hW hS _ => ?_)
                                  refine W.widen (k := 15619) (n := 105490) (by omega) (by omega) ?_
                                  refine lv_sipush (v := (-2013)) hx hb dL_days_184 (by decide) ?_
                                  refine lv_icmp_ne (tgt := 358) hx hb dL_days_187 (by decide) (fun h62 => ?_) (fun h62 => ?_)
                                  · have hf := ifn h62 hf
                                    refine lv_iconst (v := 0) hx hb dL_days_358 (by decide) ?_
                                    cases hf
                                    refine W.widen (k := 79790) (n := 525844) (by omega) (by omega) ?_
                                    exact W.zret (ty := .boolean) hx hb hr (by decide) (fun u hu _ => ⟨rfl, by rw [hu]; exact hS.1, fun q hq => by rw [hu]; exact hS.2.1 q (by omega) (Nat.not_le.mpr hq)⟩) hS.2.2 dL_days_359
                                  · have hf := ifp h62 hf
                                    refine lv_aload_n hx hb dL_days_190 rfl (lv_at hl 0 rfl) ?_
                                    refine lv_iconst (v := 4) hx hb dL_days_191 (by decide) ?_
                                    refine lv_iconst (v := 1) hx hb dL_days_192 (by decide) ?_
                                    refine lv_iconst (v := 0) hx hb dL_days_193 (by decide) ?_
                                    refine lv_iconst (v := 1) hx hb dL_days_194 (by decide) ?_
                                    refine lv_iconst (v := 1) hx hb dL_days_195 (by decide) ?_
                                    obtain ⟨y63, σ65, u64, hf⟩ := b2_e hf
                                    refine lSW (n := 6) (As := [.ref (b + 0), .int 4, .int 1, .int 0, .int 1, .int 1]) (rest := []) (c_L_call l hfl D t b σ61 4 1 0 1 1 y63 σ65 u64) hx hb hml hown hts hE hsub hW hS q573 q574 q33  qw_L_call hs_L_call ⟨rfl, rfl⟩ ⟨Nat.le_of_ble_eq_true rfl, Nat.le_of_ble_eq_true rfl⟩ rfl rfl hl.1 (Nat.le_of_ble_eq_true rfl) ⟨show 15619 + 4 ≤ 79790 by omega, show 105490 + 24 ≤ 525844 by omega⟩ dL_days_196 (fun H locs hW hS _ => ?_)
                                    refine W.widen (k := 15623) (n := 105514) (by omega) (by omega) ?_
                                    refine lv_sipush (v := (-2013)) hx hb dL_days_199 (by decide) ?_
                                    refine lv_icmp_ne (tgt := 358) hx hb dL_days_202 (by decide) (fun h66 => ?_) (fun h66 => ?_)
                                    · have hf := ifn h66 hf
                                      refine lv_iconst (v := 0) hx hb dL_days_358 (by decide) ?_
                                      cases hf
                                      refine W.widen (k := 79790) (n := 525844) (by omega) (by omega) ?_
                                      exact W.zret (ty := .boolean) hx hb hr (by decide) (fun u hu _ => ⟨rfl, by rw [hu]; exact hS.1, fun q hq => by rw [hu]; exact hS.2.1 q (by omega) (Nat.not_le.mpr hq)⟩) hS.2.2 dL_days_359
                                    · have hf := ifp h66 hf
                                      refine lv_aload_n hx hb dL_days_205 rfl (lv_at hl 0 rfl) ?_
                                      refine lv_iconst (v := 1) hx hb dL_days_206 (by decide) ?_
                                      refine lv_bipush (v := 20) hx hb dL_days_207 (by decide) ?_
                                      obtain ⟨y67, σ69, u68, hf⟩ := bn2_e hf
                                      refine lVXn (n := 2) (As := [.int 1, .int 20]) (rest := []) (c_X4_fund l hfl D t b σ65 1 20 (.inr (y67, σ69)) u68) hx hb hml hown hts hE hsub hW hS q511 q512 q513 q34 q514 hy_X4_fund ⟨rfl, rfl⟩ ⟨Nat.le_of_ble_eq_true rfl, Nat.le_of_ble_eq_true rfl⟩ rfl rfl hl.1 (Nat.le_of_ble_eq_true rfl) ⟨show 15623 + 2 ≤ 79790 by omega, show 105514 + 12 ≤ 525844 by omega⟩ dL_days_209 (fun H locs hW hS _ => ?_)
                                      refine W.widen (k := 15625) (n := 105526) (by omega) (by omega) ?_
                                      refine lv_bipush (v := 20) hx hb dL_days_212 (by decide) ?_
                                      refine lv_icmp_ne (tgt := 358) hx hb dL_days_214 (by decide) (fun h70 => ?_) (fun h70 => ?_)
                                      · have hf := ifn h70 hf
                                        refine lv_iconst (v := 0) hx hb dL_days_358 (by decide) ?_
                                        cases hf
                                        refine W.widen (k := 79790) (n := 525844) (by omega) (by omega) ?_
                                        exact W.zret (ty := .boolean) hx hb hr (by decide) (fun u hu _ => ⟨rfl, by rw [hu]; exact hS.1, fun q hq => by rw [hu]; exact hS.2.1 q (by omega) (Nat.not_le.mpr hq)⟩) hS.2.2 dL_days_359
                                      · have hf := ifp h70 hf
                                        refine lv_aload_n hx hb dL_days_217 rfl (lv_at hl 0 rfl) ?_
                                        refine lv_iconst (v := 1) hx hb dL_days_218 (by decide) ?_
                                        refine lv_iconst (v := 0) hx hb dL_days_219 (by decide) ?_
                                        refine lv_iconst (v := 1) hx hb dL_days_220 (by decide) ?_
                                        refine lv_iconst (v := 2) hx hb dL_days_221 (by decide) ?_
                                        obtain ⟨y71, σ73, u72, hf⟩ := bn2_e hf
                                        refine lVXn (n := 4) (As := [.int 1, .int 0, .int 1, .int 2]) (rest := []) (c_X4_restock l hfl D t b σ69 1 0 1 2 (.inr (y71, σ73)) u72) hx hb hml hown hts hE hsub hW hS q466 q467 q468 q34 q469 hy_X4_restock ⟨rfl, rfl⟩ ⟨Nat.le_of_ble_eq_true rfl, Nat.le_of_ble_eq_true rfl⟩ rfl rfl hl.1 (Nat.le_of_ble_eq_true rfl) ⟨show 15625 + 4 ≤ 79790 by omega, show 105526 + 24 ≤ 525844 by omega⟩ dL_days_222 (fun H locs hW hS _ => ?_)
                                        refine W.widen (k := 15629) (n := 105550) (by omega) (by omega) ?_
                                        refine lv_bipush (v := 18) hx hb dL_days_225 (by decide) ?_
                                        refine lv_icmp_ne (tgt := 358) hx hb dL_days_227 (by decide) (fun h74 => ?_) (fun h74 => ?_)
                                        · have hf := ifn h74 hf
                                          refine lv_iconst (v := 0) hx hb dL_days_358 (by decide) ?_
                                          cases hf
                                          refine W.widen (k := 79790) (n := 525844) (by omega) (by omega) ?_
                                          exact W.zret (ty := .boolean) hx hb hr (by decide) (fun u hu _ => ⟨rfl, by rw [hu]; exact hS.1, fun q hq => by rw [hu]; exact hS.2.1 q (by omega) (Nat.not_le.mpr hq)⟩) hS.2.2 dL_days_359
                                        · have hf := ifp h74 hf
                                          refine lv_aload_n hx hb dL_days_230 rfl (lv_at hl 0 rfl) ?_
                                          refine lv_iconst (v := 1) hx hb dL_days_231 (by decide) ?_
                                          refine lv_iconst (v := 0) hx hb dL_days_232 (by decide) ?_
                                          refine lv_iconst (v := 3) hx hb dL_days_233 (by decide) ?_
                                          refine lv_iconst (v := 1) hx hb dL_days_234 (by decide) ?_
                                          obtain ⟨y75, σ77, u76, hf⟩ := bn2_e hf
                                          refine lVXn (n := 4) (As := [.int 1, .int 0, .int 3, .int 1]) (rest := []) (c_X4_restock l hfl D t b σ73 1 0 3 1 (.inr (y75, σ77)) u76) hx hb hml hown hts hE hsub hW hS q466 q467 q468 q34 q469 hy_X4_restock ⟨rfl, rfl⟩ ⟨Nat.le_of_ble_eq_true rfl, Nat.le_of_ble_eq_true rfl⟩ rfl rfl hl.1 (Nat.le_of_ble_eq_true rfl) ⟨show 15629 + 4 ≤ 79790 by omega, show 105550 + 24 ≤ 525844 by omega⟩ dL_days_235 (fun H locs hW hS _ => ?_)
                                          refine W.widen (k := 15633) (n := 105574) (by omega) (by omega) ?_
                                          refine lv_bipush (v := 17) hx hb dL_days_238 (by decide) ?_
                                          refine lv_icmp_ne (tgt := 358) hx hb dL_days_240 (by decide) (fun h78 => ?_) (fun h78 => ?_)
                                          · have hf := ifn h78 hf
                                            refine lv_iconst (v := 0) hx hb dL_days_358 (by decide) ?_
                                            cases hf
                                            refine W.widen (k := 79790) (n := 525844) (by omega) (by omega) ?_
                                            exact W.zret (ty := .boolean) hx hb hr (by decide) (fun u hu _ => ⟨rfl, by rw [hu]; exact hS.1, fun q hq => by rw [hu]; exact hS.2.1 q (by omega) (Nat.not_le.mpr hq)⟩) hS.2.2 dL_days_359
                                          · have hf := ifp h78 hf
                                            refine lv_aload_n hx hb dL_days_243 rfl (lv_at hl 0 rfl) ?_
                                            refine lv_iconst (v := 1) hx hb dL_days_244 (by decide) ?_
                                            obtain ⟨y79, u80, hf⟩ := bn1_e hf
                                            refine lVXn (n := 1) (As := [.int 1]) (rest := []) (c_X4_shelfOf l hfl D t b σ77 1 (.inr y79) u80) hx hb hml hown hts hE hsub hW hS q749 q750 q751 q34 q752 hy_X4_shelfOf ⟨rfl, rfl⟩ ⟨Nat.le_of_ble_eq_true rfl, Nat.le_of_ble_eq_true rfl⟩ rfl rfl hl.1 (Nat.le_of_ble_eq_true rfl) ⟨show 15633 + 1 ≤ 79790 by omega, show 105574 + 6 ≤ 525844 by omega⟩ dL_days_245 (fun H locs hW hS _ => ?_)
                                            refine W.widen (k := 15634) (n := 105580) (by omega) (by omega) ?_
                                            refine lv_iconst (v := 3) hx hb dL_days_248 (by decide) ?_
                                            refine lv_icmp_ne (tgt := 358) hx hb dL_days_249 (by decide) (fun h81 => ?_) (fun h81 => ?_)
                                            · have hf := ifn h81 hf
                                              refine lv_iconst (v := 0) hx hb dL_days_358 (by decide) ?_
                                              cases hf
                                              refine W.widen (k := 79790) (n := 525844) (by omega) (by omega) ?_
                                              exact W.zret (ty := .boolean) hx hb hr (by decide) (fun u hu _ => ⟨rfl, by rw [hu]; exact hS.1, fun q hq => by rw [hu]; exact hS.2.1 q (by omega) (Nat.not_le.mpr hq)⟩) hS.2.2 dL_days_359
                                            · have hf := ifp h81 hf
                                              refine lv_aload_n hx hb dL_days_252 rfl (lv_at hl 0 rfl) ?_
                                              refine lv_iconst (v := 1) hx hb dL_days_253 (by decide) ?_
                                              obtain ⟨y82, u83, hf⟩ := bn1_e hf
                                              refine lVXn (n := 1) (As := [.int 1]) (rest := []) (c_X4_levelToWin l hfl D t b σ77 1 (.inr y82) u83) hx hb hml hown hts hE hsub hW hS q754 q755 q756 q34 q757 hy_X4_levelToWin ⟨rfl, rfl⟩ ⟨Nat.le_of_ble_eq_true rfl, Nat.le_of_ble_eq_true rfl⟩ rfl rfl hl.1 (Nat.le_of_ble_eq_true rfl) ⟨show 15634 + 1 ≤ 79790 by omega, show 105580 + 6 ≤ 525844 by omega⟩ dL_days_254 (fun H locs hW hS _ => ?_)
                                              refine W.widen (k := 15635) (n := 105586) (by omega) (by omega) ?_
                                              refine lv_if_ne (tgt := 358) hx hb dL_days_257 (by decide) (fun h84 => ?_) (fun h84 => ?_)
                                              · have hf := ifn h84 hf
                                                refine lv_iconst (v := 0) hx hb dL_days_358 (by decide) ?_
                                                cases hf
                                                refine W.widen (k := 79790) (n := 525844) (by omega) (by omega) ?_
                                                exact W.zret (ty := .boolean) hx hb hr (by decide) (fun u hu _ => ⟨rfl, by rw [hu]; exact hS.1, fun q hq => by rw [hu]; exact hS.2.1 q (by omega) (Nat.not_le.mpr hq)⟩) hS.2.2 dL_days_359
                                              · have hf := ifp h84 hf
                                                refine lv_aload_n hx hb dL_days_260 rfl (lv_at hl 0 rfl) ?_
                                                refine lv_iconst (v := 0) hx hb dL_days_261 (by decide) ?_
                                                obtain ⟨y85, u86, hf⟩ := bn1_e hf
                                                refine lVXn (n := 1) (As := [.int 0]) (rest := []) (c_X4_levelToWin l hfl D t b σ77 0 (.inr y85) u86) hx hb hml hown hts hE hsub hW hS q754 q755 q756 q34 q757 hy_X4_levelToWin ⟨rfl, rfl⟩ ⟨Nat.le_of_ble_eq_true rfl, Nat.le_of_ble_eq_true rfl⟩ rfl rfl hl.1 (Nat.le_of_ble_eq_true rfl) ⟨show 15635 + 1 ≤ 79790 by omega, show 105586 + 6 ≤ 525844 by omega⟩ dL_days_262 (fun H locs hW hS _ => ?_)
                                                refine W.widen (k := 15636) (n := 105592) (by omega) (by omega) ?_
                                                refine lv_iconst (v := (-1)) hx hb dL_days_265 (by decide) ?_
                                                refine lv_icmp_ne (tgt := 358) hx hb dL_days_266 (by decide) (fun h87 => ?_) (fun h87 => ?_)
                                                · have hf := ifn h87 hf
                                                  refine lv_iconst (v := 0) hx hb dL_days_358 (by decide) ?_
                                                  cases hf
                                                  refine W.widen (k := 79790) (n := 525844) (by omega) (by omega) ?_
                                                  exact W.zret (ty := .boolean) hx hb hr (by decide) (fun u hu _ => ⟨rfl, by rw [hu]; exact hS.1, fun q hq => by rw [hu]; exact hS.2.1 q (by omega) (Nat.not_le.mpr hq)⟩) hS.2.2 dL_days_359
                                                · have hf := ifp h87 hf
                                                  refine lv_aload_n hx hb dL_days_269 rfl (lv_at hl 0 rfl) ?_
                                                  refine lv_iconst (v := 1) hx hb dL_days_270 (by decide) ?_
                                                  obtain ⟨y88, u89, hf⟩ := bn1_e hf
                                                  refine lVXn (n := 1) (As := [.int 1]) (rest := []) (c_X4_playsToWin l hfl D t b σ77 1 (.inr y88) u89) hx hb hml hown hts hE hsub hW hS q744 q745 q746 q34 q747 hy_X4_playsToWin ⟨rfl, rfl⟩ ⟨Nat.le_of_ble_eq_true rfl, Nat.le_of_ble_eq_true rfl⟩ rfl rfl hl.1 (Nat.le_of_ble_eq_true rfl) ⟨show 15636 + 1 ≤ 79790 by omega, show 105592 + 6 ≤ 525844 by omega⟩ dL_days_271 (fun H locs hW hS _ => ?_)
                                                  refine W.widen (k := 15637) (n := 105598) (by omega) (by omega) ?_
                                                  refine lv_iconst (v := 1) hx hb dL_days_274 (by decide) ?_
                                                  refine lv_icmp_ne (tgt := 358) hx hb dL_days_275 (by decide) (fun h90 => ?_) (fun h90 => ?_)
                                                  · have hf := ifn h90 hf
                                                    refine lv_iconst (v := 0) hx hb dL_days_358 (by decide) ?_
                                                    cases hf
                                                    refine W.widen (k := 79790) (n := 525844) (by omega) (by omega) ?_
                                                    exact W.zret (ty := .boolean) hx hb hr (by decide) (fun u hu _ => ⟨rfl, by rw [hu]; exact hS.1, fun q hq => by rw [hu]; exact hS.2.1 q (by omega) (Nat.not_le.mpr hq)⟩) hS.2.2 dL_days_359
                                                  · have hf := ifp h90 hf
                                                    refine lv_aload_n hx hb dL_days_278 rfl (lv_at hl 0 rfl) ?_
                                                    refine lv_iconst (v := 0) hx hb dL_days_279 (by decide) ?_
                                                    obtain ⟨y91, u92, hf⟩ := bn1_e hf
                                                    refine lVXn (n := 1) (As := [.int 0]) (rest := []) (c_X4_playsToWin l hfl D t b σ77 0 (.inr y91) u92) hx hb hml hown hts hE hsub hW hS q744 q745 q746 q34 q747 hy_X4_playsToWin ⟨rfl, rfl⟩ ⟨Nat.le_of_ble_eq_true rfl, Nat.le_of_ble_eq_true rfl⟩ rfl rfl hl.1 (Nat.le_of_ble_eq_true rfl) ⟨show 15637 + 1 ≤ 79790 by omega, show 105598 + 6 ≤ 525844 by omega⟩ dL_days_280 (fun H locs hW hS _ => ?_)
                                                    refine W.widen (k := 15638) (n := 105604) (by omega) (by omega) ?_
                                                    refine lv_iconst (v := (-1)) hx hb dL_days_283 (by decide) ?_
                                                    refine lv_icmp_ne (tgt := 358) hx hb dL_days_284 (by decide) (fun h93 => ?_) (fun h93 => ?_)
                                                    · have hf := ifn h93 hf
                                                      refine lv_iconst (v := 0) hx hb dL_days_358 (by decide) ?_
                                                      cases hf
                                                      refine W.widen (k := 79790) (n := 525844) (by omega) (by omega) ?_
                                                      exact W.zret (ty := .boolean) hx hb hr (by decide) (fun u hu _ => ⟨rfl, by rw [hu]; exact hS.1, fun q hq => by rw [hu]; exact hS.2.1 q (by omega) (Nat.not_le.mpr hq)⟩) hS.2.2 dL_days_359
                                                    · have hf := ifp h93 hf
                                                      refine lv_aload_n hx hb dL_days_287 rfl (lv_at hl 0 rfl) ?_
                                                      refine lv_iconst (v := 0) hx hb dL_days_288 (by decide) ?_
                                                      obtain ⟨y94, u95, hf⟩ := bn1_e hf
                                                      refine lVXn (n := 1) (As := [.int 0]) (rest := []) (c_X4_rentOf l hfl D t b σ77 0 (.inr y94) u95) hx hb hml hown hts hE hsub hW hS q739 q740 q741 q34 q742 hy_X4_rentOf ⟨rfl, rfl⟩ ⟨Nat.le_of_ble_eq_true rfl, Nat.le_of_ble_eq_true rfl⟩ rfl rfl hl.1 (Nat.le_of_ble_eq_true rfl) ⟨show 15638 + 1 ≤ 79790 by omega, show 105604 + 6 ≤ 525844 by omega⟩ dL_days_289 (fun H locs hW hS _ => ?_)
                                                      refine W.widen (k := 15639) (n := 105610) (by omega) (by omega) ?_
                                                      refine lv_bipush (v := 8) hx hb dL_days_292 (by decide) ?_
                                                      refine lv_icmp_ne (tgt := 358) hx hb dL_days_294 (by decide) (fun h96 => ?_) (fun h96 => ?_)
                                                      · have hf := ifn h96 hf
                                                        refine lv_iconst (v := 0) hx hb dL_days_358 (by decide) ?_
                                                        cases hf
                                                        refine W.widen (k := 79790) (n := 525844) (by omega) (by omega) ?_
                                                        exact W.zret (ty := .boolean) hx hb hr (by decide) (fun u hu _ => ⟨rfl, by rw [hu]; exact hS.1, fun q hq => by rw [hu]; exact hS.2.1 q (by omega) (Nat.not_le.mpr hq)⟩) hS.2.2 dL_days_359
                                                      · have hf := ifp h96 hf
                                                        refine lv_aload_n hx hb dL_days_297 rfl (lv_at hl 0 rfl) ?_
                                                        refine lv_iconst (v := 1) hx hb dL_days_298 (by decide) ?_
                                                        obtain ⟨y97, u98, hf⟩ := bn1_e hf
                                                        refine lVXn (n := 1) (As := [.int 1]) (rest := []) (c_X4_rentOf l hfl D t b σ77 1 (.inr y97) u98) hx hb hml hown hts hE hsub hW hS q739 q740 q741 q34 q742 hy_X4_rentOf ⟨rfl, rfl⟩ ⟨Nat.le_of_ble_eq_true rfl, Nat.le_of_ble_eq_true rfl⟩ rfl rfl hl.1 (Nat.le_of_ble_eq_true rfl) ⟨show 15639 + 1 ≤ 79790 by omega, show 105610 + 6 ≤ 525844 by omega⟩ dL_days_299 (fun H locs hW hS _ => ?_)
                                                        refine W.widen (k := 15640) (n := 105616) (by omega) (by omega) ?_
                                                        refine lv_bipush (v := 7) hx hb dL_days_302 (by decide) ?_
                                                        refine lv_icmp_ne (tgt := 358) hx hb dL_days_304 (by decide) (fun h99 => ?_) (fun h99 => ?_)
                                                        · have hf := ifn h99 hf
                                                          refine lv_iconst (v := 0) hx hb dL_days_358 (by decide) ?_
                                                          cases hf
                                                          refine W.widen (k := 79790) (n := 525844) (by omega) (by omega) ?_
                                                          exact W.zret (ty := .boolean) hx hb hr (by decide) (fun u hu _ => ⟨rfl, by rw [hu]; exact hS.1, fun q hq => by rw [hu]; exact hS.2.1 q (by omega) (Nat.not_le.mpr hq)⟩) hS.2.2 dL_days_359
                                                        · have hf := ifp h99 hf
                                                          refine lv_aload_n hx hb dL_days_307 rfl (lv_at hl 0 rfl) ?_
                                                          refine lv_iconst (v := 0) hx hb dL_days_308 (by decide) ?_
                                                          obtain ⟨y100, σ102, u101, hf⟩ := bn2_e hf
                                                          refine lVXn (n := 1) (As := [.int 0]) (rest := []) (c_X4_homeIn l hfl D t b σ77 0 (.inr (y100, σ102)) u101) hx hb hml hown hts hE hsub hW hS q801 q802 q803 q34 q804 hy_X4_homeIn ⟨rfl, rfl⟩ ⟨Nat.le_of_ble_eq_true rfl, Nat.le_of_ble_eq_true rfl⟩ rfl rfl hl.1 (Nat.le_of_ble_eq_true rfl) ⟨show 15640 + 1 ≤ 79790 by omega, show 105616 + 6 ≤ 525844 by omega⟩ dL_days_309 (fun H locs hW hS _ => ?_)
                                                          refine W.widen (k := 15641) (n := 105622) (by omega) (by omega) ?_
                                                          refine lv_bipush (v := 31) hx hb dL_days_312 (by decide) ?_
                                                          refine lv_icmp_ne (tgt := 358) hx hb dL_days_314 (by decide) (fun h103 => ?_) (fun h103 => ?_)
                                                          · have hf := ifn h103 hf
                                                            refine lv_iconst (v := 0) hx hb dL_days_358 (by decide) ?_
                                                            cases hf
                                                            refine W.widen (k := 79790) (n := 525844) (by omega) (by omega) ?_
                                                            exact W.zret (ty := .boolean) hx hb hr (by decide) (fun u hu _ => ⟨rfl, by rw [hu]; exact hS.1, fun q hq => by rw [hu]; exact hS.2.1 q (by omega) (Nat.not_le.mpr hq)⟩) hS.2.2 dL_days_359
                                                          · have hf := ifp h103 hf
                                                            refine lv_aload_n hx hb dL_days_317 rfl (lv_at hl 0 rfl) ?_
                                                            obtain ⟨y104, σ106, u105, hf⟩ := b2_e hf
                                                            refine lV (n := 0) (As := []) (rest := []) (c_X4_takingsToday l D t b σ102 y104 σ106 u105) hx hb hml hown hts hE hsub hW hS q1026 q1027 q1028 q34 q1029 hy_X4_takingsToday ⟨rfl, rfl⟩ ⟨Nat.le_of_ble_eq_true rfl, Nat.le_of_ble_eq_true rfl⟩ rfl rfl hl.1 (Nat.le_of_ble_eq_true rfl) ⟨show 15641 ≤ 79790 by omega, show 105622 ≤ 525844 by omega⟩ dL_days_318 (fun H locs hW hS _ => ?_)
                                                            refine lv_bipush (v := 20) hx hb dL_days_321 (by decide) ?_
                                                            refine lv_icmp_ne (tgt := 358) hx hb dL_days_323 (by decide) (fun h107 => ?_) (fun h107 => ?_)
                                                            · have hf := ifn h107 hf
                                                              refine lv_iconst (v := 0) hx hb dL_days_358 (by decide) ?_
                                                              cases hf
                                                              refine W.widen (k := 79790) (n := 525844) (by omega) (by omega) ?_
                                                              exact W.zret (ty := .boolean) hx hb hr (by decide) (fun u hu _ => ⟨rfl, by rw [hu]; exact hS.1, fun q hq => by rw [hu]; exact hS.2.1 q (by omega) (Nat.not_le.mpr hq)⟩) hS.2.2 dL_days_359
                                                            · have hf := ifp h107 hf
                                                              refine lv_aload_n hx hb dL_days_326 rfl (lv_at hl 0 rfl) ?_
                                                              refine lv_iconst (v := 0) hx hb dL_days_327 (by decide) ?_
                                                              refine lv_bipush (v := 20) hx hb dL_days_328 (by decide) ?_
                                                              refine lv_bipush (v := 60) hx hb dL_days_330 (by decide) ?_
                                                              refine lv_iconst (v := 0) hx hb dL_days_332 (by decide) ?_
                                                              refine lv_iconst (v := 0) hx hb dL_days_333 (by decide) ?_
                                                              refine lv_iconst (v := 0) hx hb dL_days_334 (by decide) ?_
                                                              obtain ⟨y108, σ110, u109, hf⟩ := b2_e hf
                                                              refine lS (n := 7) (As := [.ref (b + 0), .int 0, .int 20, .int 60, .int 0, .int 0, .int 0]) (rest := []) (c_L_is l hfl D t b σ106 0 20 60 0 0 0 y108 σ110 u109) hx hb hml hown hts hE hsub hW hS q1030 q1031 q33  q1032 hs_L_is ⟨rfl, rfl⟩ ⟨Nat.le_of_ble_eq_true rfl, Nat.le_of_ble_eq_true rfl⟩ rfl rfl hl.1 (Nat.le_of_ble_eq_true rfl) ⟨show 15641 + 6 ≤ 79790 by omega, show 105622 + 36 ≤ 525844 by omega⟩ dL_days_335 (fun H locs hW hS _ => ?_)
                                                              refine W.widen (k := 15647) (n := 105658) (by omega) (by omega) ?_
                                                              refine lv_if_eq (tgt := 358) hx hb dL_days_338 (by decide) (fun h111 => ?_) (fun h111 => ?_)
                                                              · have hf := ifp h111 hf
                                                                refine lv_iconst (v := 0) hx hb dL_days_358 (by decide) ?_
                                                                cases hf
                                                                refine W.widen (k := 79790) (n := 525844) (by omega) (by omega) ?_
                                                                exact W.zret (ty := .boolean) hx hb hr (by decide) (fun u hu _ => ⟨rfl, by rw [hu]; exact hS.1, fun q hq => by rw [hu]; exact hS.2.1 q (by omega) (Nat.not_le.mpr hq)⟩) hS.2.2 dL_days_359
                                                              · have hf := ifn h111 hf
                                                                refine lv_aload_n hx hb dL_days_341 rfl (lv_at hl 0 rfl) ?_
                                                                obtain ⟨y112, σ114, u113, hf⟩ := b2_e hf
                                                                refine lS (n := 1) (As := [.ref (b + 0)]) (rest := []) (c_L_refused l hfl D t b σ110 y112 σ114 u113) hx hb hml hown hts hE hsub hW hS q981 q982 q33  q983 hs_L_refused ⟨rfl, rfl⟩ ⟨Nat.le_of_ble_eq_true rfl, Nat.le_of_ble_eq_true rfl⟩ rfl rfl hl.1 (Nat.le_of_ble_eq_true rfl) ⟨show 15647 + 15372 ≤ 79790 by omega, show 105658 + 92232 ≤ 525844 by omega⟩ dL_days_342 (fun H locs hW hS _ => ?_)
                                                                refine W.widen (k := 31019) (n := 197890) (by omega) (by omega) ?_
                                                                refine lv_if_eq (tgt := 358) hx hb dL_days_345 (by decide) (fun h115 => ?_) (fun h115 => ?_)
                                                                · have hf := ifp h115 hf
                                                                  refine lv_iconst (v := 0) hx hb dL_days_358 (by decide) ?_
                                                                  cases hf
                                                                  refine W.widen (k := 79790) (n := 525844) (by omega) (by omega) ?_
                                                                  exact W.zret (ty := .boolean) hx hb hr (by decide) (fun u hu _ => ⟨rfl, by rw [hu]; exact hS.1, fun q hq => by rw [hu]; exact hS.2.1 q (by omega) (Nat.not_le.mpr hq)⟩) hS.2.2 dL_days_359
                                                                · have hf := ifn h115 hf
                                                                  refine lv_aload_n hx hb dL_days_348 rfl (lv_at hl 0 rfl) ?_
                                                                  obtain ⟨y116, σ118, u117, hf⟩ := b2_e hf
                                                                  refine lV (n := 0) (As := []) (rest := []) (c_X4_takeSnapshot l D t b σ114 y116 σ118 u117) hx hb hml hown hts hE hsub hW hS q552 q553 q554 q34 q555 hy_X4_takeSnapshot ⟨rfl, rfl⟩ ⟨Nat.le_of_ble_eq_true rfl, Nat.le_of_ble_eq_true rfl⟩ rfl rfl hl.1 (Nat.le_of_ble_eq_true rfl) ⟨show 31019 ≤ 79790 by omega, show 197890 ≤ 525844 by omega⟩ dL_days_349 (fun H locs hW hS _ => ?_)
                                                                  refine lv_sipush (v := 400) hx hb dL_days_352 (by decide) ?_
                                                                  refine lv_icmp_eq (tgt := 360) hx hb dL_days_355 (by decide) (fun h119 => ?_) (fun h119 => ?_)
                                                                  · have hf := ifp h119 hf
                                                                    refine lv_aload_n hx hb dL_days_360 rfl (lv_at hl 0 rfl) ?_
                                                                    refine lv_iconst (v := 1) hx hb dL_days_361 (by decide) ?_
                                                                    obtain ⟨y120, σ122, u121, hf⟩ := bn2_e hf
                                                                    refine lVXn (n := 1) (As := [.int 1]) (rest := []) (c_X4_pass l hfl D t b σ118 1 (.inr (y120, σ122)) u121) hx hb hml hown hts hE hsub hW hS q616 q617 q618 q34 q619 hy_X4_pass ⟨rfl, rfl⟩ ⟨Nat.le_of_ble_eq_true rfl, Nat.le_of_ble_eq_true rfl⟩ rfl rfl hl.1 (Nat.le_of_ble_eq_true rfl) ⟨show 31019 + 1 ≤ 79790 by omega, show 197890 + 6 ≤ 525844 by omega⟩ dL_days_362 (fun H locs hW hS _ => ?_)
                                                                    refine W.widen (k := 31020) (n := 197896) (by omega) (by omega) ?_
                                                                    refine lv_iconst (v := 1) hx hb dL_days_365 (by decide) ?_
                                                                    refine lv_icmp_ne (tgt := 839) hx hb dL_days_366 (by decide) (fun h123 => ?_) (fun h123 => ?_)
                                                                    · have hf := ifn h123 hf
                                                                      refine lv_iconst (v := 0) hx hb dL_days_839 (by decide) ?_
                                                                      cases hf
                                                                      refine W.widen (k := 79790) (n := 525844) (by omega) (by omega) ?_
                                                                      exact W.zret (ty := .boolean) hx hb hr (by decide) (fun u hu _ => ⟨rfl, by rw [hu]; exact hS.1, fun q hq => by rw [hu]; exact hS.2.1 q (by omega) (Nat.not_le.mpr hq)⟩) hS.2.2 dL_days_840
                                                                    · have hf := ifp h123 hf
                                                                      refine lv_aload_n hx hb dL_days_369 rfl (lv_at hl 0 rfl) ?_
                                                                      refine lv_iconst (v := 0) hx hb dL_days_370 (by decide) ?_
                                                                      refine lv_bipush (v := 17) hx hb dL_days_371 (by decide) ?_
                                                                      refine lv_bipush (v := 75) hx hb dL_days_373 (by decide) ?_
                                                                      refine lv_iconst (v := 0) hx hb dL_days_375 (by decide) ?_
                                                                      refine lv_iconst (v := 0) hx hb dL_days_376 (by decide) ?_
                                                                      refine lv_iconst (v := 0) hx hb dL_days_377 (by decide) ?_
                                                                      obtain ⟨y124, σ126, u125, hf⟩ := b2_e hf
                                                                      refine lS (n := 7) (As := [.ref (b + 0), .int 0, .int 17, .int 75, .int 0, .int 0, .int 0]) (rest := []) (c_L_is l hfl D t b σ122 0 17 75 0 0 0 y124 σ126 u125) hx hb hml hown hts hE hsub hW hS q1030 q1031 q33  q1032 hs_L_is ⟨rfl, rfl⟩ ⟨Nat.le_of_ble_eq_true rfl, Nat.le_of_ble_eq_true rfl⟩ rfl rfl hl.1 (Nat.le_of_ble_eq_true rfl) ⟨show 31020 + 6 ≤ 79790 by omega, show 197896 + 36 ≤ 525844 by omega⟩ dL_days_378 (fun H locs hW hS _ => ?_)
                                                                      refine W.widen (k := 31026) (n := 197932) (by omega) (by omega) ?_
                                                                      refine lv_if_eq (tgt := 839) hx hb dL_days_381 (by decide) (fun h127 => ?_) (fun h127 => ?_)
                                                                      · have hf := ifp h127 hf
                                                                        refine lv_iconst (v := 0) hx hb dL_days_839 (by decide) ?_
                                                                        cases hf
                                                                        refine W.widen (k := 79790) (n := 525844) (by omega) (by omega) ?_
                                                                        exact W.zret (ty := .boolean) hx hb hr (by decide) (fun u hu _ => ⟨rfl, by rw [hu]; exact hS.1, fun q hq => by rw [hu]; exact hS.2.1 q (by omega) (Nat.not_le.mpr hq)⟩) hS.2.2 dL_days_840
                                                                      · have hf := ifn h127 hf
                                                                        refine lv_aload_n hx hb dL_days_384 rfl (lv_at hl 0 rfl) ?_
                                                                        refine lv_iconst (v := 1) hx hb dL_days_385 (by decide) ?_
                                                                        obtain ⟨y128, σ130, u129, hf⟩ := bn2_e hf
                                                                        refine lVXn (n := 1) (As := [.int 1]) (rest := []) (c_X4_pass l hfl D t b σ126 1 (.inr (y128, σ130)) u129) hx hb hml hown hts hE hsub hW hS q616 q617 q618 q34 q619 hy_X4_pass ⟨rfl, rfl⟩ ⟨Nat.le_of_ble_eq_true rfl, Nat.le_of_ble_eq_true rfl⟩ rfl rfl hl.1 (Nat.le_of_ble_eq_true rfl) ⟨show 31026 + 1 ≤ 79790 by omega, show 197932 + 6 ≤ 525844 by omega⟩ dL_days_386 (fun H locs hW hS _ => ?_)
                                                                        refine W.widen (k := 31027) (n := 197938) (by omega) (by omega) ?_
                                                                        refine lv_iconst (v := 1) hx hb dL_days_389 (by decide) ?_
                                                                        refine lv_icmp_ne (tgt := 839) hx hb dL_days_390 (by decide) (fun h131 => ?_) (fun h131 => ?_)
                                                                        · have hf := ifn h131 hf
                                                                          refine lv_iconst (v := 0) hx hb dL_days_839 (by decide) ?_
                                                                          cases hf
                                                                          refine W.widen (k := 79790) (n := 525844) (by omega) (by omega) ?_
                                                                          exact W.zret (ty := .boolean) hx hb hr (by decide) (fun u hu _ => ⟨rfl, by rw [hu]; exact hS.1, fun q hq => by rw [hu]; exact hS.2.1 q (by omega) (Nat.not_le.mpr hq)⟩) hS.2.2 dL_days_840
                                                                        · have hf := ifp h131 hf
                                                                          refine lv_aload_n hx hb dL_days_393 rfl (lv_at hl 0 rfl) ?_
                                                                          refine lv_iconst (v := 0) hx hb dL_days_394 (by decide) ?_
                                                                          refine lv_bipush (v := 14) hx hb dL_days_395 (by decide) ?_
                                                                          refine lv_bipush (v := 90) hx hb dL_days_397 (by decide) ?_
                                                                          refine lv_iconst (v := 0) hx hb dL_days_399 (by decide) ?_
                                                                          refine lv_iconst (v := 0) hx hb dL_days_400 (by decide) ?_
                                                                          refine lv_iconst (v := 4) hx hb dL_days_401 (by decide) ?_
                                                                          obtain ⟨y132, σ134, u133, hf⟩ := b2_e hf
                                                                          refine lS (n := 7) (As := [.ref (b + 0), .int 0, .int 14, .int 90, .int 0, .int 0, .int 4]) (rest := []) (c_L_is l hfl D t b σ130 0 14 90 0 0 4 y132 σ134 u133) hx hb hml hown hts hE hsub hW hS q1030 q1031 q33  q1032 hs_L_is ⟨rfl, rfl⟩ ⟨Nat.le_of_ble_eq_true rfl, Nat.le_of_ble_eq_true rfl⟩ rfl rfl hl.1 (Nat.le_of_ble_eq_true rfl) ⟨show 31027 + 6 ≤ 79790 by omega, show 197938 + 36 ≤ 525844 by omega⟩ dL_days_402 (fun H locs hW hS _ => ?_)
                                                                          refine W.widen (k := 31033) (n := 197974) (by omega) (by omega) ?_
                                                                          refine lv_if_eq (tgt := 839) hx hb dL_days_405 (by decide) (fun h135 => ?_) (fun h135 => ?_)
                                                                          · have hf := ifp h135 hf
                                                                            refine lv_iconst (v := 0) hx hb dL_days_839 (by decide) ?_
                                                                            cases hf
                                                                            refine W.widen (k := 79790) (n := 525844) (by omega) (by omega) ?_
                                                                            exact W.zret (ty := .boolean) hx hb hr (by decide) (fun u hu _ => ⟨rfl, by rw [hu]; exact hS.1, fun q hq => by rw [hu]; exact hS.2.1 q (by omega) (Nat.not_le.mpr hq)⟩) hS.2.2 dL_days_840
                                                                          · have hf := ifn h135 hf
                                                                            refine lv_aload_n hx hb dL_days_408 rfl (lv_at hl 0 rfl) ?_
                                                                            refine lv_iconst (v := 1) hx hb dL_days_409 (by decide) ?_
                                                                            obtain ⟨y136, σ138, u137, hf⟩ := bn2_e hf
                                                                            refine lVXn (n := 1) (As := [.int 1]) (rest := []) (c_X4_pass l hfl D t b σ134 1 (.inr (y136, σ138)) u137) hx hb hml hown hts hE hsub hW hS q616 q617 q618 q34 q619 hy_X4_pass ⟨rfl, rfl⟩ ⟨Nat.le_of_ble_eq_true rfl, Nat.le_of_ble_eq_true rfl⟩ rfl rfl hl.1 (Nat.le_of_ble_eq_true rfl) ⟨show 31033 + 1 ≤ 79790 by omega, show 197974 + 6 ≤ 525844 by omega⟩ dL_days_410 (fun H locs hW hS _ => ?_)
                                                                            refine W.widen (k := 31034) (n := 197980) (by omega) (by omega) ?_
                                                                            refine lv_if_ne (tgt := 839) hx hb dL_days_413 (by decide) (fun h139 => ?_) (fun h139 => ?_)
                                                                            · have hf := ifn h139 hf
                                                                              refine lv_iconst (v := 0) hx hb dL_days_839 (by decide) ?_
                                                                              cases hf
                                                                              refine W.widen (k := 79790) (n := 525844) (by omega) (by omega) ?_
                                                                              exact W.zret (ty := .boolean) hx hb hr (by decide) (fun u hu _ => ⟨rfl, by rw [hu]; exact hS.1, fun q hq => by rw [hu]; exact hS.2.1 q (by omega) (Nat.not_le.mpr hq)⟩) hS.2.2 dL_days_840
                                                                            · have hf := ifp h139 hf
                                                                              refine lv_aload_n hx hb dL_days_416 rfl (lv_at hl 0 rfl) ?_
                                                                              refine lv_iconst (v := 0) hx hb dL_days_417 (by decide) ?_
                                                                              refine lv_bipush (v := 14) hx hb dL_days_418 (by decide) ?_
                                                                              refine lv_bipush (v := 90) hx hb dL_days_420 (by decide) ?_
                                                                              refine lv_iconst (v := 1) hx hb dL_days_422 (by decide) ?_
                                                                              refine lv_iconst (v := 0) hx hb dL_days_423 (by decide) ?_
                                                                              refine lv_iconst (v := 0) hx hb dL_days_424 (by decide) ?_
                                                                              obtain ⟨y140, σ142, u141, hf⟩ := b2_e hf
                                                                              refine lS (n := 7) (As := [.ref (b + 0), .int 0, .int 14, .int 90, .int 1, .int 0, .int 0]) (rest := []) (c_L_is l hfl D t b σ138 0 14 90 1 0 0 y140 σ142 u141) hx hb hml hown hts hE hsub hW hS q1030 q1031 q33  q1032 hs_L_is ⟨rfl, rfl⟩ ⟨Nat.le_of_ble_eq_true rfl, Nat.le_of_ble_eq_true rfl⟩ rfl rfl hl.1 (Nat.le_of_ble_eq_true rfl) ⟨show 31034 + 6 ≤ 79790 by omega, show 197980 + 36 ≤ 525844 by omega⟩ dL_days_425 (fun H locs hW hS _ => ?_)
                                                                              refine W.widen (k := 31040) (n := 198016) (by omega) (by omega) ?_
                                                                              refine lv_if_eq (tgt := 839) hx hb dL_days_428 (by decide) (fun h143 => ?_) (fun h143 => ?_)
                                                                              · have hf := ifp h143 hf
                                                                                refine lv_iconst (v := 0) hx hb dL_days_839 (by decide) ?_
                                                                                cases hf
                                                                                refine W.widen (k := 79790) (n := 525844) (by omega) (by omega) ?_
                                                                                exact W.zret (ty := .boolean) hx hb hr (by decide) (fun u hu _ => ⟨rfl, by rw [hu]; exact hS.1, fun q hq => by rw [hu]; exact hS.2.1 q (by omega) (Nat.not_le.mpr hq)⟩) hS.2.2 dL_days_840
                                                                              · have hf := ifn h143 hf
                                                                                refine lv_aload_n hx hb dL_days_431 rfl (lv_at hl 0 rfl) ?_
                                                                                refine lv_iconst (v := 2) hx hb dL_days_432 (by decide) ?_
                                                                                obtain ⟨y144, σ146, u145, hf⟩ := bn2_e hf
                                                                                refine lVXn (n := 1) (As := [.int 2]) (rest := []) (c_X4_pass l hfl D t b σ142 2 (.inr (y144, σ146)) u145) hx hb hml hown hts hE hsub hW hS q616 q617 q618 q34 q619 hy_X4_pass ⟨rfl, rfl⟩ ⟨Nat.le_of_ble_eq_true rfl, Nat.le_of_ble_eq_true rfl⟩ rfl rfl hl.1 (Nat.le_of_ble_eq_true rfl) ⟨show 31040 + 1 ≤ 79790 by omega, show 198016 + 6 ≤ 525844 by omega⟩ dL_days_433 (fun H locs hW hS _ => ?_)
                                                                                refine W.widen (k := 31041) (n := 198022) (by omega) (by omega) ?_
                                                                                refine lv_iconst (v := 2) hx hb dL_days_436 (by decide) ?_
                                                                                refine lv_icmp_ne (tgt := 839) hx hb dL_days_437 (by decide) (fun h147 => ?_) (fun h147 => ?_)
                                                                                · have hf := ifn h147 hf
                                                                                  refine lv_iconst (v := 0) hx hb dL_days_839 (by decide) ?_
                                                                                  cases hf
                                                                                  refine W.widen (k := 79790) (n := 525844) (by omega) (by omega) ?_
                                                                                  exact W.zret (ty := .boolean) hx hb hr (by decide) (fun u hu _ => ⟨rfl, by rw [hu]; exact hS.1, fun q hq => by rw [hu]; exact hS.2.1 q (by omega) (Nat.not_le.mpr hq)⟩) hS.2.2 dL_days_840
                                                                                · have hf := ifp h147 hf
                                                                                  refine lv_aload_n hx hb dL_days_440 rfl (lv_at hl 0 rfl) ?_
                                                                                  refine lv_iconst (v := 0) hx hb dL_days_441 (by decide) ?_
                                                                                  refine lv_bipush (v := 10) hx hb dL_days_442 (by decide) ?_
                                                                                  refine lv_bipush (v := 100) hx hb dL_days_444 (by decide) ?_
                                                                                  refine lv_iconst (v := 1) hx hb dL_days_446 (by decide) ?_
                                                                                  refine lv_iconst (v := 2) hx hb dL_days_447 (by decide) ?_
                                                                                  refine lv_iconst (v := 4) hx hb dL_days_448 (by decide) ?_
                                                                                  obtain ⟨y148, σ150, u149, hf⟩ := b2_e hf
                                                                                  refine lS (n := 7) (As := [.ref (b + 0), .int 0, .int 10, .int 100, .int 1, .int 2, .int 4]) (rest := []) (c_L_is l hfl D t b σ146 0 10 100 1 2 4 y148 σ150 u149) hx hb hml hown hts hE hsub hW hS q1030 q1031 q33  q1032 hs_L_is ⟨rfl, rfl⟩ ⟨Nat.le_of_ble_eq_true rfl, Nat.le_of_ble_eq_true rfl⟩ rfl rfl hl.1 (Nat.le_of_ble_eq_true rfl) ⟨show 31041 + 6 ≤ 79790 by omega, show 198022 + 36 ≤ 525844 by omega⟩ dL_days_449 (fun H locs hW hS _ => ?_)
                                                                                  refine W.widen (k := 31047) (n := 198058) (by omega) (by omega) ?_
                                                                                  refine lv_if_eq (tgt := 839) hx hb dL_days_452 (by decide) (fun h151 => ?_) (fun h151 => ?_)
                                                                                  · have hf := ifp h151 hf
                                                                                    refine lv_iconst (v := 0) hx hb dL_days_839 (by decide) ?_
                                                                                    cases hf
                                                                                    refine W.widen (k := 79790) (n := 525844) (by omega) (by omega) ?_
                                                                                    exact W.zret (ty := .boolean) hx hb hr (by decide) (fun u hu _ => ⟨rfl, by rw [hu]; exact hS.1, fun q hq => by rw [hu]; exact hS.2.1 q (by omega) (Nat.not_le.mpr hq)⟩) hS.2.2 dL_days_840
                                                                                  · have hf := ifn h151 hf
                                                                                    refine lv_aload_n hx hb dL_days_455 rfl (lv_at hl 0 rfl) ?_
                                                                                    refine lv_iconst (v := 1) hx hb dL_days_456 (by decide) ?_
                                                                                    refine lv_iconst (v := 0) hx hb dL_days_457 (by decide) ?_
                                                                                    refine lv_iconst (v := 1) hx hb dL_days_458 (by decide) ?_
                                                                                    obtain ⟨y152, u153, hf⟩ := bn1_e hf
                                                                                    refine lVXn (n := 3) (As := [.int 1, .int 0, .int 1]) (rest := []) (c_X4_prizesOn l hfl D t b σ150 1 0 1 (.inr y152) u153) hx hb hml hown hts hE hsub hW hS q759 q760 q761 q34 q762 hy_X4_prizesOn ⟨rfl, rfl⟩ ⟨Nat.le_of_ble_eq_true rfl, Nat.le_of_ble_eq_true rfl⟩ rfl rfl hl.1 (Nat.le_of_ble_eq_true rfl) ⟨show 31047 + 3 ≤ 79790 by omega, show 198058 + 18 ≤ 525844 by omega⟩ dL_days_459 (fun H locs hW hS _ => ?_)
                                                                                    refine W.widen (k := 31050) (n := 198076) (by omega) (by omega) ?_
                                                                                    refine lv_if_ne (tgt := 839) hx hb dL_days_462 (by decide) (fun h154 => ?_) (fun h154 => ?_)
                                                                                    · have hf := ifn h154 hf
                                                                                      refine lv_iconst (v := 0) hx hb dL_days_839 (by decide) ?_
                                                                                      cases hf
                                                                                      refine W.widen (k := 79790) (n := 525844) (by omega) (by omega) ?_
                                                                                      exact W.zret (ty := .boolean) hx hb hr (by decide) (fun u hu _ => ⟨rfl, by rw [hu]; exact hS.1, fun q hq => by rw [hu]; exact hS.2.1 q (by omega) (Nat.not_le.mpr hq)⟩) hS.2.2 dL_days_840
                                                                                    · have hf := ifp h154 hf
                                                                                      refine lv_aload_n hx hb dL_days_465 rfl (lv_at hl 0 rfl) ?_
                                                                                      refine lv_iconst (v := 0) hx hb dL_days_466 (by decide) ?_
                                                                                      obtain ⟨y155, u156, hf⟩ := bn1_e hf
                                                                                      refine lVXn (n := 1) (As := [.int 0]) (rest := []) (c_X4_wonOf l hfl D t b σ150 0 (.inr y155) u156) hx hb hml hown hts hE hsub hW hS q821 q822 q823 q34 q824 hy_X4_wonOf ⟨rfl, rfl⟩ ⟨Nat.le_of_ble_eq_true rfl, Nat.le_of_ble_eq_true rfl⟩ rfl rfl hl.1 (Nat.le_of_ble_eq_true rfl) ⟨show 31050 + 1 ≤ 79790 by omega, show 198076 + 6 ≤ 525844 by omega⟩ dL_days_467 (fun H locs hW hS _ => ?_)
                                                                                      refine W.widen (k := 31051) (n := 198082) (by omega) (by omega) ?_
                                                                                      refine lv_iconst (v := 2) hx hb dL_days_470 (by decide) ?_
                                                                                      refine lv_icmp_ne (tgt := 839) hx hb dL_days_471 (by decide) (fun h157 => ?_) (fun h157 => ?_)
                                                                                      · have hf := ifn h157 hf
                                                                                        refine lv_iconst (v := 0) hx hb dL_days_839 (by decide) ?_
                                                                                        cases hf
                                                                                        refine W.widen (k := 79790) (n := 525844) (by omega) (by omega) ?_
                                                                                        exact W.zret (ty := .boolean) hx hb hr (by decide) (fun u hu _ => ⟨rfl, by rw [hu]; exact hS.1, fun q hq => by rw [hu]; exact hS.2.1 q (by omega) (Nat.not_le.mpr hq)⟩) hS.2.2 dL_days_840
                                                                                      · have hf := ifp h157 hf
                                                                                        refine lv_aload_n hx hb dL_days_474 rfl (lv_at hl 0 rfl) ?_
                                                                                        refine lv_bipush (v := 10) hx hb dL_days_475 (by decide) ?_
                                                                                        obtain ⟨y158, σ160, u159, hf⟩ := bn2_e hf
                                                                                        refine lVXn (n := 1) (As := [.int 10]) (rest := []) (c_X4_pass l hfl D t b σ150 10 (.inr (y158, σ160)) u159) hx hb hml hown hts hE hsub hW hS q616 q617 q618 q34 q619 hy_X4_pass ⟨rfl, rfl⟩ ⟨Nat.le_of_ble_eq_true rfl, Nat.le_of_ble_eq_true rfl⟩ rfl rfl hl.1 (Nat.le_of_ble_eq_true rfl) ⟨show 31051 + 1 ≤ 79790 by omega, show 198082 + 6 ≤ 525844 by omega⟩ dL_days_477 (fun H locs hW hS _ => ?_)
                                                                                        refine W.widen (k := 31052) (n := 198088) (by omega) (by omega) ?_
                                                                                        refine lv_if_ne (tgt := 839) hx hb dL_days_480 (by decide) (fun h161 => ?_) (fun h161 => ?_)
                                                                                        · have hf := ifn h161 hf
                                                                                          refine lv_iconst (v := 0) hx hb dL_days_839 (by decide) ?_
                                                                                          cases hf
                                                                                          refine W.widen (k := 79790) (n := 525844) (by omega) (by omega) ?_
                                                                                          exact W.zret (ty := .boolean) hx hb hr (by decide) (fun u hu _ => ⟨rfl, by rw [hu]; exact hS.1, fun q hq => by rw [hu]; exact hS.2.1 q (by omega) (Nat.not_le.mpr hq)⟩) hS.2.2 dL_days_840
                                                                                        · have hf := ifp h161 hf
                                                                                          refine lv_aload_n hx hb dL_days_483 rfl (lv_at hl 0 rfl) ?_
                                                                                          refine lv_iconst (v := 0) hx hb dL_days_484 (by decide) ?_
                                                                                          refine lv_bipush (v := 10) hx hb dL_days_485 (by decide) ?_
                                                                                          refine lv_bipush (v := 80) hx hb dL_days_487 (by decide) ?_
                                                                                          refine lv_bipush (v := 11) hx hb dL_days_489 (by decide) ?_
                                                                                          refine lv_iconst (v := 2) hx hb dL_days_491 (by decide) ?_
                                                                                          refine lv_iconst (v := 2) hx hb dL_days_492 (by decide) ?_
                                                                                          obtain ⟨y162, σ164, u163, hf⟩ := b2_e hf
                                                                                          refine lS (n := 7) (As := [.ref (b + 0), .int 0, .int 10, .int 80, .int 11, .int 2, .int 2]) (rest := []) (c_L_is l hfl D t b σ160 0 10 80 11 2 2 y162 σ164 u163) hx hb hml hown hts hE hsub hW hS q1030 q1031 q33  q1032 hs_L_is ⟨rfl, rfl⟩ ⟨Nat.le_of_ble_eq_true rfl, Nat.le_of_ble_eq_true rfl⟩ rfl rfl hl.1 (Nat.le_of_ble_eq_true rfl) ⟨show 31052 + 6 ≤ 79790 by omega, show 198088 + 36 ≤ 525844 by omega⟩ dL_days_493 (fun H locs hW hS _ => ?_)
                                                                                          refine W.widen (k := 31058) (n := 198124) (by omega) (by omega) ?_
                                                                                          refine lv_if_eq (tgt := 839) hx hb dL_days_496 (by decide) (fun h165 => ?_) (fun h165 => ?_)
                                                                                          · have hf := ifp h165 hf
                                                                                            refine lv_iconst (v := 0) hx hb dL_days_839 (by decide) ?_
                                                                                            cases hf
                                                                                            refine W.widen (k := 79790) (n := 525844) (by omega) (by omega) ?_
                                                                                            exact W.zret (ty := .boolean) hx hb hr (by decide) (fun u hu _ => ⟨rfl, by rw [hu]; exact hS.1, fun q hq => by rw [hu]; exact hS.2.1 q (by omega) (Nat.not_le.mpr hq)⟩) hS.2.2 dL_days_840
                                                                                          · have hf := ifn h165 hf
                                                                                            refine lv_aload_n hx hb dL_days_499 rfl (lv_at hl 0 rfl) ?_
                                                                                            refine lv_iconst (v := 0) hx hb dL_days_500 (by decide) ?_
                                                                                            obtain ⟨y166, u167, hf⟩ := bn1_e hf
                                                                                            refine lVXn (n := 1) (As := [.int 0]) (rest := []) (c_X4_isHomeward l hfl D t b σ164 0 (.inr y166) u167) hx hb hml hown hts hE hsub hW hS q787 q788 q789 q34 q790 hy_X4_isHomeward ⟨rfl, rfl⟩ ⟨Nat.le_of_ble_eq_true rfl, Nat.le_of_ble_eq_true rfl⟩ rfl rfl hl.1 (Nat.le_of_ble_eq_true rfl) ⟨show 31058 + 1 ≤ 79790 by omega, show 198124 + 6 ≤ 525844 by omega⟩ dL_days_501 (fun H locs hW hS _ => ?_)
                                                                                            refine W.widen (k := 31059) (n := 198130) (by omega) (by omega) ?_
                                                                                            refine lv_if_ne (tgt := 839) hx hb dL_days_504 (by decide) (fun h168 => ?_) (fun h168 => ?_)
                                                                                            · have hf := ifn h168 hf
                                                                                              refine lv_iconst (v := 0) hx hb dL_days_839 (by decide) ?_
                                                                                              cases hf
                                                                                              refine W.widen (k := 79790) (n := 525844) (by omega) (by omega) ?_
                                                                                              exact W.zret (ty := .boolean) hx hb hr (by decide) (fun u hu _ => ⟨rfl, by rw [hu]; exact hS.1, fun q hq => by rw [hu]; exact hS.2.1 q (by omega) (Nat.not_le.mpr hq)⟩) hS.2.2 dL_days_840
                                                                                            · have hf := ifp h168 hf
                                                                                              refine lv_aload_n hx hb dL_days_507 rfl (lv_at hl 0 rfl) ?_
                                                                                              refine lv_iconst (v := 1) hx hb dL_days_508 (by decide) ?_
                                                                                              obtain ⟨y169, σ171, u170, hf⟩ := bn2_e hf
                                                                                              refine lVXn (n := 1) (As := [.int 1]) (rest := []) (c_X4_pass l hfl D t b σ164 1 (.inr (y169, σ171)) u170) hx hb hml hown hts hE hsub hW hS q616 q617 q618 q34 q619 hy_X4_pass ⟨rfl, rfl⟩ ⟨Nat.le_of_ble_eq_true rfl, Nat.le_of_ble_eq_true rfl⟩ rfl rfl hl.1 (Nat.le_of_ble_eq_true rfl) ⟨show 31059 + 1 ≤ 79790 by omega, show 198130 + 6 ≤ 525844 by omega⟩ dL_days_509 (fun H locs hW hS _ => ?_)
                                                                                              refine W.widen (k := 31060) (n := 198136) (by omega) (by omega) ?_
                                                                                              refine lv_if_ne (tgt := 839) hx hb dL_days_512 (by decide) (fun h172 => ?_) (fun h172 => ?_)
                                                                                              · have hf := ifn h172 hf
                                                                                                refine lv_iconst (v := 0) hx hb dL_days_839 (by decide) ?_
                                                                                                cases hf
                                                                                                refine W.widen (k := 79790) (n := 525844) (by omega) (by omega) ?_
                                                                                                exact W.zret (ty := .boolean) hx hb hr (by decide) (fun u hu _ => ⟨rfl, by rw [hu]; exact hS.1, fun q hq => by rw [hu]; exact hS.2.1 q (by omega) (Nat.not_le.mpr hq)⟩) hS.2.2 dL_days_840
                                                                                              · have hf := ifp h172 hf
                                                                                                refine lv_aload_n hx hb dL_days_515 rfl (lv_at hl 0 rfl) ?_
                                                                                                refine lv_iconst (v := 0) hx hb dL_days_516 (by decide) ?_
                                                                                                refine lv_bipush (v := 10) hx hb dL_days_517 (by decide) ?_
                                                                                                refine lv_bipush (v := 78) hx hb dL_days_519 (by decide) ?_
                                                                                                refine lv_bipush (v := 10) hx hb dL_days_521 (by decide) ?_
                                                                                                refine lv_iconst (v := 2) hx hb dL_days_523 (by decide) ?_
                                                                                                refine lv_iconst (v := 2) hx hb dL_days_524 (by decide) ?_
                                                                                                obtain ⟨y173, σ175, u174, hf⟩ := b2_e hf
                                                                                                refine lS (n := 7) (As := [.ref (b + 0), .int 0, .int 10, .int 78, .int 10, .int 2, .int 2]) (rest := []) (c_L_is l hfl D t b σ171 0 10 78 10 2 2 y173 σ175 u174) hx hb hml hown hts hE hsub hW hS q1030 q1031 q33  q1032 hs_L_is ⟨rfl, rfl⟩ ⟨Nat.le_of_ble_eq_true rfl, Nat.le_of_ble_eq_true rfl⟩ rfl rfl hl.1 (Nat.le_of_ble_eq_true rfl) ⟨show 31060 + 6 ≤ 79790 by omega, show 198136 + 36 ≤ 525844 by omega⟩ dL_days_525 (fun H locs hW hS _ => ?_)
                                                                                                refine W.widen (k := 31066) (n := 198172) (by omega) (by omega) ?_
                                                                                                refine lv_if_eq (tgt := 839) hx hb dL_days_528 (by decide) (fun h176 => ?_) (fun h176 => ?_)
                                                                                                · have hf := ifp h176 hf
                                                                                                  refine lv_iconst (v := 0) hx hb dL_days_839 (by decide) ?_
                                                                                                  cases hf
                                                                                                  refine W.widen (k := 79790) (n := 525844) (by omega) (by omega) ?_
                                                                                                  exact W.zret (ty := .boolean) hx hb hr (by decide) (fun u hu _ => ⟨rfl, by rw [hu]; exact hS.1, fun q hq => by rw [hu]; exact hS.2.1 q (by omega) (Nat.not_le.mpr hq)⟩) hS.2.2 dL_days_840
                                                                                                · have hf := ifn h176 hf
                                                                                                  refine lv_aload_n hx hb dL_days_531 rfl (lv_at hl 0 rfl) ?_
                                                                                                  refine lv_iconst (v := 0) hx hb dL_days_532 (by decide) ?_
                                                                                                  obtain ⟨y177, u178, hf⟩ := bn1_e hf
                                                                                                  refine lVXn (n := 1) (As := [.int 0]) (rest := []) (c_X4_isHomeward l hfl D t b σ175 0 (.inr y177) u178) hx hb hml hown hts hE hsub hW hS q787 q788 q789 q34 q790 hy_X4_isHomeward ⟨rfl, rfl⟩ ⟨Nat.le_of_ble_eq_true rfl, Nat.le_of_ble_eq_true rfl⟩ rfl rfl hl.1 (Nat.le_of_ble_eq_true rfl) ⟨show 31066 + 1 ≤ 79790 by omega, show 198172 + 6 ≤ 525844 by omega⟩ dL_days_533 (fun H locs hW hS _ => ?_)
                                                                                                  refine W.widen (k := 31067) (n := 198178) (by omega) (by omega) ?_
                                                                                                  refine lv_if_eq (tgt := 839) hx hb dL_days_536 (by decide) (fun h179 => ?_) (fun h179 => ?_)
                                                                                                  · have hf := ifp h179 hf
                                                                                                    refine lv_iconst (v := 0) hx hb dL_days_839 (by decide) ?_
                                                                                                    cases hf
                                                                                                    refine W.widen (k := 79790) (n := 525844) (by omega) (by omega) ?_
                                                                                                    exact W.zret (ty := .boolean) hx hb hr (by decide) (fun u hu _ => ⟨rfl, by rw [hu]; exact hS.1, fun q hq => by rw [hu]; exact hS.2.1 q (by omega) (Nat.not_le.mpr hq)⟩) hS.2.2 dL_days_840
                                                                                                  · have hf := ifn h179 hf
                                                                                                    refine lv_aload_n hx hb dL_days_539 rfl (lv_at hl 0 rfl) ?_
                                                                                                    refine lv_bipush (v := 9) hx hb dL_days_540 (by decide) ?_
                                                                                                    obtain ⟨y180, σ182, u181, hf⟩ := bn2_e hf
                                                                                                    refine lVXn (n := 1) (As := [.int 9]) (rest := []) (c_X4_pass l hfl D t b σ175 9 (.inr (y180, σ182)) u181) hx hb hml hown hts hE hsub hW hS q616 q617 q618 q34 q619 hy_X4_pass ⟨rfl, rfl⟩ ⟨Nat.le_of_ble_eq_true rfl, Nat.le_of_ble_eq_true rfl⟩ rfl rfl hl.1 (Nat.le_of_ble_eq_true rfl) ⟨show 31067 + 1 ≤ 79790 by omega, show 198178 + 6 ≤ 525844 by omega⟩ dL_days_542 (fun H locs hW hS _ => ?_)
                                                                                                    refine W.widen (k := 31068) (n := 198184) (by omega) (by omega) ?_
                                                                                                    refine lv_if_ne (tgt := 839) hx hb dL_days_545 (by decide) (fun h183 => ?_) (fun h183 => ?_)
                                                                                                    · have hf := ifn h183 hf
                                                                                                      refine lv_iconst (v := 0) hx hb dL_days_839 (by decide) ?_
                                                                                                      cases hf
                                                                                                      refine W.widen (k := 79790) (n := 525844) (by omega) (by omega) ?_
                                                                                                      exact W.zret (ty := .boolean) hx hb hr (by decide) (fun u hu _ => ⟨rfl, by rw [hu]; exact hS.1, fun q hq => by rw [hu]; exact hS.2.1 q (by omega) (Nat.not_le.mpr hq)⟩) hS.2.2 dL_days_840
                                                                                                    · have hf := ifp h183 hf
                                                                                                      refine lv_aload_n hx hb dL_days_548 rfl (lv_at hl 0 rfl) ?_
                                                                                                      refine lv_iconst (v := 0) hx hb dL_days_549 (by decide) ?_
                                                                                                      refine lv_bipush (v := 10) hx hb dL_days_550 (by decide) ?_
                                                                                                      refine lv_bipush (v := 60) hx hb dL_days_552 (by decide) ?_
                                                                                                      refine lv_iconst (v := 1) hx hb dL_days_554 (by decide) ?_
                                                                                                      refine lv_iconst (v := 2) hx hb dL_days_555 (by decide) ?_
                                                                                                      refine lv_iconst (v := 0) hx hb dL_days_556 (by decide) ?_
                                                                                                      obtain ⟨y184, σ186, u185, hf⟩ := b2_e hf
                                                                                                      refine lS (n := 7) (As := [.ref (b + 0), .int 0, .int 10, .int 60, .int 1, .int 2, .int 0]) (rest := []) (c_L_is l hfl D t b σ182 0 10 60 1 2 0 y184 σ186 u185) hx hb hml hown hts hE hsub hW hS q1030 q1031 q33  q1032 hs_L_is ⟨rfl, rfl⟩ ⟨Nat.le_of_ble_eq_true rfl, Nat.le_of_ble_eq_true rfl⟩ rfl rfl hl.1 (Nat.le_of_ble_eq_true rfl) ⟨show 31068 + 6 ≤ 79790 by omega, show 198184 + 36 ≤ 525844 by omega⟩ dL_days_557 (fun H locs hW hS _ => ?_)
                                                                                                      refine W.widen (k := 31074) (n := 198220) (by omega) (by omega) ?_
                                                                                                      refine lv_if_eq (tgt := 839) hx hb dL_days_560 (by decide) (fun h187 => ?_) (fun h187 => ?_)
                                                                                                      · have hf := ifp h187 hf
                                                                                                        refine lv_iconst (v := 0) hx hb dL_days_839 (by decide) ?_
                                                                                                        cases hf
                                                                                                        refine W.widen (k := 79790) (n := 525844) (by omega) (by omega) ?_
                                                                                                        exact W.zret (ty := .boolean) hx hb hr (by decide) (fun u hu _ => ⟨rfl, by rw [hu]; exact hS.1, fun q hq => by rw [hu]; exact hS.2.1 q (by omega) (Nat.not_le.mpr hq)⟩) hS.2.2 dL_days_840
                                                                                                      · have hf := ifn h187 hf
                                                                                                        refine lv_aload_n hx hb dL_days_563 rfl (lv_at hl 0 rfl) ?_
                                                                                                        refine lv_iconst (v := 1) hx hb dL_days_564 (by decide) ?_
                                                                                                        obtain ⟨y188, σ190, u189, hf⟩ := bn2_e hf
                                                                                                        refine lVXn (n := 1) (As := [.int 1]) (rest := []) (c_X4_pass l hfl D t b σ186 1 (.inr (y188, σ190)) u189) hx hb hml hown hts hE hsub hW hS q616 q617 q618 q34 q619 hy_X4_pass ⟨rfl, rfl⟩ ⟨Nat.le_of_ble_eq_true rfl, Nat.le_of_ble_eq_true rfl⟩ rfl rfl hl.1 (Nat.le_of_ble_eq_true rfl) ⟨show 31074 + 1 ≤ 79790 by omega, show 198220 + 6 ≤ 525844 by omega⟩ dL_days_565 (fun H locs hW hS _ => ?_)
                                                                                                        refine W.widen (k := 31075) (n := 198226) (by omega) (by omega) ?_
                                                                                                        refine lv_iconst (v := 1) hx hb dL_days_568 (by decide) ?_
                                                                                                        refine lv_icmp_ne (tgt := 839) hx hb dL_days_569 (by decide) (fun h191 => ?_) (fun h191 => ?_)
                                                                                                        · have hf := ifn h191 hf
                                                                                                          refine lv_iconst (v := 0) hx hb dL_days_839 (by decide) ?_
                                                                                                          cases hf
                                                                                                          refine W.widen (k := 79790) (n := 525844) (by omega) (by omega) ?_
                                                                                                          exact W.zret (ty := .boolean) hx hb hr (by decide) (fun u hu _ => ⟨rfl, by rw [hu]; exact hS.1, fun q hq => by rw [hu]; exact hS.2.1 q (by omega) (Nat.not_le.mpr hq)⟩) hS.2.2 dL_days_840
                                                                                                        · have hf := ifp h191 hf
                                                                                                          refine lv_aload_n hx hb dL_days_572 rfl (lv_at hl 0 rfl) ?_
                                                                                                          refine lv_iconst (v := 0) hx hb dL_days_573 (by decide) ?_
                                                                                                          refine lv_bipush (v := 8) hx hb dL_days_574 (by decide) ?_
                                                                                                          refine lv_bipush (v := 78) hx hb dL_days_576 (by decide) ?_
                                                                                                          refine lv_iconst (v := 1) hx hb dL_days_578 (by decide) ?_
                                                                                                          refine lv_iconst (v := 3) hx hb dL_days_579 (by decide) ?_
                                                                                                          refine lv_iconst (v := 0) hx hb dL_days_580 (by decide) ?_
                                                                                                          obtain ⟨y192, σ194, u193, hf⟩ := b2_e hf
                                                                                                          refine lS (n := 7) (As := [.ref (b + 0), .int 0, .int 8, .int 78, .int 1, .int 3, .int 0]) (rest := []) (c_L_is l hfl D t b σ190 0 8 78 1 3 0 y192 σ194 u193) hx hb hml hown hts hE hsub hW hS q1030 q1031 q33  q1032 hs_L_is ⟨rfl, rfl⟩ ⟨Nat.le_of_ble_eq_true rfl, Nat.le_of_ble_eq_true rfl⟩ rfl rfl hl.1 (Nat.le_of_ble_eq_true rfl) ⟨show 31075 + 6 ≤ 79790 by omega, show 198226 + 36 ≤ 525844 by omega⟩ dL_days_581 (fun H locs hW hS _ => ?_)
                                                                                                          refine W.widen (k := 31081) (n := 198262) (by omega) (by omega) ?_
                                                                                                          refine lv_if_eq (tgt := 839) hx hb dL_days_584 (by decide) (fun h195 => ?_) (fun h195 => ?_)
                                                                                                          · have hf := ifp h195 hf
                                                                                                            refine lv_iconst (v := 0) hx hb dL_days_839 (by decide) ?_
                                                                                                            cases hf
                                                                                                            refine W.widen (k := 79790) (n := 525844) (by omega) (by omega) ?_
                                                                                                            exact W.zret (ty := .boolean) hx hb hr (by decide) (fun u hu _ => ⟨rfl, by rw [hu]; exact hS.1, fun q hq => by rw [hu]; exact hS.2.1 q (by omega) (Nat.not_le.mpr hq)⟩) hS.2.2 dL_days_840
                                                                                                          · have hf := ifn h195 hf
                                                                                                            refine lv_aload_n hx hb dL_days_587 rfl (lv_at hl 0 rfl) ?_
                                                                                                            refine lv_iconst (v := 1) hx hb dL_days_588 (by decide) ?_
                                                                                                            obtain ⟨y196, u197, hf⟩ := bn1_e hf
                                                                                                            refine lVXn (n := 1) (As := [.int 1]) (rest := []) (c_X4_levelToWin l hfl D t b σ194 1 (.inr y196) u197) hx hb hml hown hts hE hsub hW hS q754 q755 q756 q34 q757 hy_X4_levelToWin ⟨rfl, rfl⟩ ⟨Nat.le_of_ble_eq_true rfl, Nat.le_of_ble_eq_true rfl⟩ rfl rfl hl.1 (Nat.le_of_ble_eq_true rfl) ⟨show 31081 + 1 ≤ 79790 by omega, show 198262 + 6 ≤ 525844 by omega⟩ dL_days_589 (fun H locs hW hS _ => ?_)
                                                                                                            refine W.widen (k := 31082) (n := 198268) (by omega) (by omega) ?_
                                                                                                            refine lv_iconst (v := (-1)) hx hb dL_days_592 (by decide) ?_
                                                                                                            refine lv_icmp_ne (tgt := 839) hx hb dL_days_593 (by decide) (fun h198 => ?_) (fun h198 => ?_)
                                                                                                            · have hf := ifn h198 hf
                                                                                                              refine lv_iconst (v := 0) hx hb dL_days_839 (by decide) ?_
                                                                                                              cases hf
                                                                                                              refine W.widen (k := 79790) (n := 525844) (by omega) (by omega) ?_
                                                                                                              exact W.zret (ty := .boolean) hx hb hr (by decide) (fun u hu _ => ⟨rfl, by rw [hu]; exact hS.1, fun q hq => by rw [hu]; exact hS.2.1 q (by omega) (Nat.not_le.mpr hq)⟩) hS.2.2 dL_days_840
                                                                                                            · have hf := ifp h198 hf
                                                                                                              refine lv_aload_n hx hb dL_days_596 rfl (lv_at hl 0 rfl) ?_
                                                                                                              refine lv_iconst (v := 1) hx hb dL_days_597 (by decide) ?_
                                                                                                              obtain ⟨y199, σ201, u200, hf⟩ := bn2_e hf
                                                                                                              refine lVXn (n := 1) (As := [.int 1]) (rest := []) (c_X4_pass l hfl D t b σ194 1 (.inr (y199, σ201)) u200) hx hb hml hown hts hE hsub hW hS q616 q617 q618 q34 q619 hy_X4_pass ⟨rfl, rfl⟩ ⟨Nat.le_of_ble_eq_true rfl, Nat.le_of_ble_eq_true rfl⟩ rfl rfl hl.1 (Nat.le_of_ble_eq_true rfl) ⟨show 31082 + 1 ≤ 79790 by omega, show 198268 + 6 ≤ 525844 by omega⟩ dL_days_598 (fun H locs hW hS _ => ?_)
                                                                                                              refine W.widen (k := 31083) (n := 198274) (by omega) (by omega) ?_
                                                                                                              refine lv_iconst (v := 1) hx hb dL_days_601 (by decide) ?_
                                                                                                              refine lv_icmp_ne (tgt := 839) hx hb dL_days_602 (by decide) (fun h202 => ?_) (fun h202 => ?_)
                                                                                                              · have hf := ifn h202 hf
                                                                                                                refine lv_iconst (v := 0) hx hb dL_days_839 (by decide) ?_
                                                                                                                cases hf
                                                                                                                refine W.widen (k := 79790) (n := 525844) (by omega) (by omega) ?_
                                                                                                                exact W.zret (ty := .boolean) hx hb hr (by decide) (fun u hu _ => ⟨rfl, by rw [hu]; exact hS.1, fun q hq => by rw [hu]; exact hS.2.1 q (by omega) (Nat.not_le.mpr hq)⟩) hS.2.2 dL_days_840
                                                                                                              · have hf := ifp h202 hf
                                                                                                                refine lv_aload_n hx hb dL_days_605 rfl (lv_at hl 0 rfl) ?_
                                                                                                                refine lv_iconst (v := 0) hx hb dL_days_606 (by decide) ?_
                                                                                                                refine lv_bipush (v := 6) hx hb dL_days_607 (by decide) ?_
                                                                                                                refine lv_bipush (v := 68) hx hb dL_days_609 (by decide) ?_
                                                                                                                refine lv_iconst (v := 1) hx hb dL_days_611 (by decide) ?_
                                                                                                                refine lv_iconst (v := 3) hx hb dL_days_612 (by decide) ?_
                                                                                                                refine lv_iconst (v := 4) hx hb dL_days_613 (by decide) ?_
                                                                                                                obtain ⟨y203, σ205, u204, hf⟩ := b2_e hf
                                                                                                                refine lS (n := 7) (As := [.ref (b + 0), .int 0, .int 6, .int 68, .int 1, .int 3, .int 4]) (rest := []) (c_L_is l hfl D t b σ201 0 6 68 1 3 4 y203 σ205 u204) hx hb hml hown hts hE hsub hW hS q1030 q1031 q33  q1032 hs_L_is ⟨rfl, rfl⟩ ⟨Nat.le_of_ble_eq_true rfl, Nat.le_of_ble_eq_true rfl⟩ rfl rfl hl.1 (Nat.le_of_ble_eq_true rfl) ⟨show 31083 + 6 ≤ 79790 by omega, show 198274 + 36 ≤ 525844 by omega⟩ dL_days_614 (fun H locs hW hS _ => ?_)
                                                                                                                refine W.widen (k := 31089) (n := 198310) (by omega) (by omega) ?_
                                                                                                                refine lv_if_eq (tgt := 839) hx hb dL_days_617 (by decide) (fun h206 => ?_) (fun h206 => ?_)
                                                                                                                · have hf := ifp h206 hf
                                                                                                                  refine lv_iconst (v := 0) hx hb dL_days_839 (by decide) ?_
                                                                                                                  cases hf
                                                                                                                  refine W.widen (k := 79790) (n := 525844) (by omega) (by omega) ?_
                                                                                                                  exact W.zret (ty := .boolean) hx hb hr (by decide) (fun u hu _ => ⟨rfl, by rw [hu]; exact hS.1, fun q hq => by rw [hu]; exact hS.2.1 q (by omega) (Nat.not_le.mpr hq)⟩) hS.2.2 dL_days_840
                                                                                                                · have hf := ifn h206 hf
                                                                                                                  refine lv_aload_n hx hb dL_days_620 rfl (lv_at hl 0 rfl) ?_
                                                                                                                  refine lv_iconst (v := 1) hx hb dL_days_621 (by decide) ?_
                                                                                                                  obtain ⟨y207, σ209, u208, hf⟩ := bn2_e hf
                                                                                                                  refine lVXn (n := 1) (As := [.int 1]) (rest := []) (c_X4_pass l hfl D t b σ205 1 (.inr (y207, σ209)) u208) hx hb hml hown hts hE hsub hW hS q616 q617 q618 q34 q619 hy_X4_pass ⟨rfl, rfl⟩ ⟨Nat.le_of_ble_eq_true rfl, Nat.le_of_ble_eq_true rfl⟩ rfl rfl hl.1 (Nat.le_of_ble_eq_true rfl) ⟨show 31089 + 1 ≤ 79790 by omega, show 198310 + 6 ≤ 525844 by omega⟩ dL_days_622 (fun H locs hW hS _ => ?_)
                                                                                                                  refine W.widen (k := 31090) (n := 198316) (by omega) (by omega) ?_
                                                                                                                  refine lv_if_ne (tgt := 839) hx hb dL_days_625 (by decide) (fun h210 => ?_) (fun h210 => ?_)
                                                                                                                  · have hf := ifn h210 hf
                                                                                                                    refine lv_iconst (v := 0) hx hb dL_days_839 (by decide) ?_
                                                                                                                    cases hf
                                                                                                                    refine W.widen (k := 79790) (n := 525844) (by omega) (by omega) ?_
                                                                                                                    exact W.zret (ty := .boolean) hx hb hr (by decide) (fun u hu _ => ⟨rfl, by rw [hu]; exact hS.1, fun q hq => by rw [hu]; exact hS.2.1 q (by omega) (Nat.not_le.mpr hq)⟩) hS.2.2 dL_days_840
                                                                                                                  · have hf := ifp h210 hf
                                                                                                                    refine lv_aload_n hx hb dL_days_628 rfl (lv_at hl 0 rfl) ?_
                                                                                                                    refine lv_iconst (v := 0) hx hb dL_days_629 (by decide) ?_
                                                                                                                    refine lv_bipush (v := 6) hx hb dL_days_630 (by decide) ?_
                                                                                                                    refine lv_bipush (v := 66) hx hb dL_days_632 (by decide) ?_
                                                                                                                    refine lv_iconst (v := 0) hx hb dL_days_634 (by decide) ?_
                                                                                                                    refine lv_iconst (v := 3) hx hb dL_days_635 (by decide) ?_
                                                                                                                    refine lv_iconst (v := 0) hx hb dL_days_636 (by decide) ?_
                                                                                                                    obtain ⟨y211, σ213, u212, hf⟩ := b2_e hf
                                                                                                                    refine lS (n := 7) (As := [.ref (b + 0), .int 0, .int 6, .int 66, .int 0, .int 3, .int 0]) (rest := []) (c_L_is l hfl D t b σ209 0 6 66 0 3 0 y211 σ213 u212) hx hb hml hown hts hE hsub hW hS q1030 q1031 q33  q1032 hs_L_is ⟨rfl, rfl⟩ ⟨Nat.le_of_ble_eq_true rfl, Nat.le_of_ble_eq_true rfl⟩ rfl rfl hl.1 (Nat.le_of_ble_eq_true rfl) ⟨show 31090 + 6 ≤ 79790 by omega, show 198316 + 36 ≤ 525844 by omega⟩ dL_days_637 (fun H locs hW hS _ => ?_)
                                                                                                                    refine W.widen (k := 31096) (n := 198352) (by omega) (by omega) ?_
                                                                                                                    refine lv_if_eq (tgt := 839) hx hb dL_days_640 (by decide) (fun h214 => ?_) (fun h214 => ?_)
                                                                                                                    · have hf := ifp h214 hf
                                                                                                                      refine lv_iconst (v := 0) hx hb dL_days_839 (by decide) ?_
                                                                                                                      cases hf
                                                                                                                      refine W.widen (k := 79790) (n := 525844) (by omega) (by omega) ?_
                                                                                                                      exact W.zret (ty := .boolean) hx hb hr (by decide) (fun u hu _ => ⟨rfl, by rw [hu]; exact hS.1, fun q hq => by rw [hu]; exact hS.2.1 q (by omega) (Nat.not_le.mpr hq)⟩) hS.2.2 dL_days_840
                                                                                                                    · have hf := ifn h214 hf
                                                                                                                      refine lv_aload_n hx hb dL_days_643 rfl (lv_at hl 0 rfl) ?_
                                                                                                                      refine lv_iconst (v := 2) hx hb dL_days_644 (by decide) ?_
                                                                                                                      obtain ⟨y215, σ217, u216, hf⟩ := bn2_e hf
                                                                                                                      refine lVXn (n := 1) (As := [.int 2]) (rest := []) (c_X4_pass l hfl D t b σ213 2 (.inr (y215, σ217)) u216) hx hb hml hown hts hE hsub hW hS q616 q617 q618 q34 q619 hy_X4_pass ⟨rfl, rfl⟩ ⟨Nat.le_of_ble_eq_true rfl, Nat.le_of_ble_eq_true rfl⟩ rfl rfl hl.1 (Nat.le_of_ble_eq_true rfl) ⟨show 31096 + 1 ≤ 79790 by omega, show 198352 + 6 ≤ 525844 by omega⟩ dL_days_645 (fun H locs hW hS _ => ?_)
                                                                                                                      refine W.widen (k := 31097) (n := 198358) (by omega) (by omega) ?_
                                                                                                                      refine lv_iconst (v := 2) hx hb dL_days_648 (by decide) ?_
                                                                                                                      refine lv_icmp_ne (tgt := 839) hx hb dL_days_649 (by decide) (fun h218 => ?_) (fun h218 => ?_)
                                                                                                                      · have hf := ifn h218 hf
                                                                                                                        refine lv_iconst (v := 0) hx hb dL_days_839 (by decide) ?_
                                                                                                                        cases hf
                                                                                                                        refine W.widen (k := 79790) (n := 525844) (by omega) (by omega) ?_
                                                                                                                        exact W.zret (ty := .boolean) hx hb hr (by decide) (fun u hu _ => ⟨rfl, by rw [hu]; exact hS.1, fun q hq => by rw [hu]; exact hS.2.1 q (by omega) (Nat.not_le.mpr hq)⟩) hS.2.2 dL_days_840
                                                                                                                      · have hf := ifp h218 hf
                                                                                                                        refine lv_aload_n hx hb dL_days_652 rfl (lv_at hl 0 rfl) ?_
                                                                                                                        refine lv_iconst (v := 0) hx hb dL_days_653 (by decide) ?_
                                                                                                                        refine lv_iconst (v := 0) hx hb dL_days_654 (by decide) ?_
                                                                                                                        refine lv_bipush (v := 96) hx hb dL_days_655 (by decide) ?_
                                                                                                                        refine lv_iconst (v := 0) hx hb dL_days_657 (by decide) ?_
                                                                                                                        refine lv_iconst (v := 3) hx hb dL_days_658 (by decide) ?_
                                                                                                                        refine lv_iconst (v := 3) hx hb dL_days_659 (by decide) ?_
                                                                                                                        obtain ⟨y219, σ221, u220, hf⟩ := b2_e hf
                                                                                                                        refine lS (n := 7) (As := [.ref (b + 0), .int 0, .int 0, .int 96, .int 0, .int 3, .int 3]) (rest := []) (c_L_is l hfl D t b σ217 0 0 96 0 3 3 y219 σ221 u220) hx hb hml hown hts hE hsub hW hS q1030 q1031 q33  q1032 hs_L_is ⟨rfl, rfl⟩ ⟨Nat.le_of_ble_eq_true rfl, Nat.le_of_ble_eq_true rfl⟩ rfl rfl hl.1 (Nat.le_of_ble_eq_true rfl) ⟨show 31097 + 6 ≤ 79790 by omega, show 198358 + 36 ≤ 525844 by omega⟩ dL_days_660 (fun H locs hW hS _ => ?_)
                                                                                                                        refine W.widen (k := 31103) (n := 198394) (by omega) (by omega) ?_
                                                                                                                        refine lv_if_eq (tgt := 839) hx hb dL_days_663 (by decide) (fun h222 => ?_) (fun h222 => ?_)
                                                                                                                        · have hf := ifp h222 hf
                                                                                                                          refine lv_iconst (v := 0) hx hb dL_days_839 (by decide) ?_
                                                                                                                          cases hf
                                                                                                                          refine W.widen (k := 79790) (n := 525844) (by omega) (by omega) ?_
                                                                                                                          exact W.zret (ty := .boolean) hx hb hr (by decide) (fun u hu _ => ⟨rfl, by rw [hu]; exact hS.1, fun q hq => by rw [hu]; exact hS.2.1 q (by omega) (Nat.not_le.mpr hq)⟩) hS.2.2 dL_days_840
                                                                                                                        · have hf := ifn h222 hf
                                                                                                                          refine lv_aload_n hx hb dL_days_666 rfl (lv_at hl 0 rfl) ?_
                                                                                                                          refine lv_iconst (v := 0) hx hb dL_days_667 (by decide) ?_
                                                                                                                          obtain ⟨y223, σ225, u224, hf⟩ := bn2_e hf
                                                                                                                          refine lVXn (n := 1) (As := [.int 0]) (rest := []) (c_X4_homeIn l hfl D t b σ221 0 (.inr (y223, σ225)) u224) hx hb hml hown hts hE hsub hW hS q801 q802 q803 q34 q804 hy_X4_homeIn ⟨rfl, rfl⟩ ⟨Nat.le_of_ble_eq_true rfl, Nat.le_of_ble_eq_true rfl⟩ rfl rfl hl.1 (Nat.le_of_ble_eq_true rfl) ⟨show 31103 + 1 ≤ 79790 by omega, show 198394 + 6 ≤ 525844 by omega⟩ dL_days_668 (fun H locs hW hS _ => ?_)
                                                                                                                          refine W.widen (k := 31104) (n := 198400) (by omega) (by omega) ?_
                                                                                                                          refine lv_iconst (v := 1) hx hb dL_days_671 (by decide) ?_
                                                                                                                          refine lv_icmp_ne (tgt := 839) hx hb dL_days_672 (by decide) (fun h226 => ?_) (fun h226 => ?_)
                                                                                                                          · have hf := ifn h226 hf
                                                                                                                            refine lv_iconst (v := 0) hx hb dL_days_839 (by decide) ?_
                                                                                                                            cases hf
                                                                                                                            refine W.widen (k := 79790) (n := 525844) (by omega) (by omega) ?_
                                                                                                                            exact W.zret (ty := .boolean) hx hb hr (by decide) (fun u hu _ => ⟨rfl, by rw [hu]; exact hS.1, fun q hq => by rw [hu]; exact hS.2.1 q (by omega) (Nat.not_le.mpr hq)⟩) hS.2.2 dL_days_840
                                                                                                                          · have hf := ifp h226 hf
                                                                                                                            refine lv_aload_n hx hb dL_days_675 rfl (lv_at hl 0 rfl) ?_
                                                                                                                            refine lv_iconst (v := 1) hx hb dL_days_676 (by decide) ?_
                                                                                                                            obtain ⟨y227, σ229, u228, hf⟩ := bn2_e hf
                                                                                                                            refine lVXn (n := 1) (As := [.int 1]) (rest := []) (c_X4_pass l hfl D t b σ225 1 (.inr (y227, σ229)) u228) hx hb hml hown hts hE hsub hW hS q616 q617 q618 q34 q619 hy_X4_pass ⟨rfl, rfl⟩ ⟨Nat.le_of_ble_eq_true rfl, Nat.le_of_ble_eq_true rfl⟩ rfl rfl hl.1 (Nat.le_of_ble_eq_true rfl) ⟨show 31104 + 1 ≤ 79790 by omega, show 198400 + 6 ≤ 525844 by omega⟩ dL_days_677 (fun H locs hW hS _ => ?_)
                                                                                                                            refine W.widen (k := 31105) (n := 198406) (by omega) (by omega) ?_
                                                                                                                            refine lv_if_ne (tgt := 839) hx hb dL_days_680 (by decide) (fun h230 => ?_) (fun h230 => ?_)
                                                                                                                            · have hf := ifn h230 hf
                                                                                                                              refine lv_iconst (v := 0) hx hb dL_days_839 (by decide) ?_
                                                                                                                              cases hf
                                                                                                                              refine W.widen (k := 79790) (n := 525844) (by omega) (by omega) ?_
                                                                                                                              exact W.zret (ty := .boolean) hx hb hr (by decide) (fun u hu _ => ⟨rfl, by rw [hu]; exact hS.1, fun q hq => by rw [hu]; exact hS.2.1 q (by omega) (Nat.not_le.mpr hq)⟩) hS.2.2 dL_days_840
                                                                                                                            · have hf := ifp h230 hf
                                                                                                                              refine lv_aload_n hx hb dL_days_683 rfl (lv_at hl 0 rfl) ?_
                                                                                                                              refine lv_iconst (v := 0) hx hb dL_days_684 (by decide) ?_
                                                                                                                              refine lv_iconst (v := 0) hx hb dL_days_685 (by decide) ?_
                                                                                                                              refine lv_bipush (v := 96) hx hb dL_days_686 (by decide) ?_
                                                                                                                              refine lv_iconst (v := (-1)) hx hb dL_days_688 (by decide) ?_
                                                                                                                              refine lv_iconst (v := 3) hx hb dL_days_689 (by decide) ?_
                                                                                                                              refine lv_iconst (v := 1) hx hb dL_days_690 (by decide) ?_
                                                                                                                              obtain ⟨y231, σ233, u232, hf⟩ := b2_e hf
                                                                                                                              refine lS (n := 7) (As := [.ref (b + 0), .int 0, .int 0, .int 96, .int (-1), .int 3, .int 1]) (rest := []) (c_L_is l hfl D t b σ229 0 0 96 (-1) 3 1 y231 σ233 u232) hx hb hml hown hts hE hsub hW hS q1030 q1031 q33  q1032 hs_L_is ⟨rfl, rfl⟩ ⟨Nat.le_of_ble_eq_true rfl, Nat.le_of_ble_eq_true rfl⟩ rfl rfl hl.1 (Nat.le_of_ble_eq_true rfl) ⟨show 31105 + 6 ≤ 79790 by omega, show 198406 + 36 ≤ 525844 by omega⟩ dL_days_691 (fun H locs hW hS _ => ?_)
                                                                                                                              refine W.widen (k := 31111) (n := 198442) (by omega) (by omega) ?_
                                                                                                                              refine lv_if_eq (tgt := 839) hx hb dL_days_694 (by decide) (fun h234 => ?_) (fun h234 => ?_)
                                                                                                                              · have hf := ifp h234 hf
                                                                                                                                refine lv_iconst (v := 0) hx hb dL_days_839 (by decide) ?_
                                                                                                                                cases hf
                                                                                                                                refine W.widen (k := 79790) (n := 525844) (by omega) (by omega) ?_
                                                                                                                                exact W.zret (ty := .boolean) hx hb hr (by decide) (fun u hu _ => ⟨rfl, by rw [hu]; exact hS.1, fun q hq => by rw [hu]; exact hS.2.1 q (by omega) (Nat.not_le.mpr hq)⟩) hS.2.2 dL_days_840
                                                                                                                              · have hf := ifn h234 hf
                                                                                                                                refine lv_aload_n hx hb dL_days_697 rfl (lv_at hl 0 rfl) ?_
                                                                                                                                refine lv_iconst (v := 0) hx hb dL_days_698 (by decide) ?_
                                                                                                                                obtain ⟨y235, u236, hf⟩ := bn1_e hf
                                                                                                                                refine lVXn (n := 1) (As := [.int 0]) (rest := []) (c_X4_isHomeward l hfl D t b σ233 0 (.inr y235) u236) hx hb hml hown hts hE hsub hW hS q787 q788 q789 q34 q790 hy_X4_isHomeward ⟨rfl, rfl⟩ ⟨Nat.le_of_ble_eq_true rfl, Nat.le_of_ble_eq_true rfl⟩ rfl rfl hl.1 (Nat.le_of_ble_eq_true rfl) ⟨show 31111 + 1 ≤ 79790 by omega, show 198442 + 6 ≤ 525844 by omega⟩ dL_days_699 (fun H locs hW hS _ => ?_)
                                                                                                                                refine W.widen (k := 31112) (n := 198448) (by omega) (by omega) ?_
                                                                                                                                refine lv_if_eq (tgt := 839) hx hb dL_days_702 (by decide) (fun h237 => ?_) (fun h237 => ?_)
                                                                                                                                · have hf := ifp h237 hf
                                                                                                                                  refine lv_iconst (v := 0) hx hb dL_days_839 (by decide) ?_
                                                                                                                                  cases hf
                                                                                                                                  refine W.widen (k := 79790) (n := 525844) (by omega) (by omega) ?_
                                                                                                                                  exact W.zret (ty := .boolean) hx hb hr (by decide) (fun u hu _ => ⟨rfl, by rw [hu]; exact hS.1, fun q hq => by rw [hu]; exact hS.2.1 q (by omega) (Nat.not_le.mpr hq)⟩) hS.2.2 dL_days_840
                                                                                                                                · have hf := ifn h237 hf
                                                                                                                                  refine lv_aload_n hx hb dL_days_705 rfl (lv_at hl 0 rfl) ?_
                                                                                                                                  obtain ⟨y238, u239, hf⟩ := b1_e hf
                                                                                                                                  refine lV (n := 0) (As := []) (rest := []) (c_X4_round l D t b σ233 y238 u239) hx hb hml hown hts hE hsub hW hS q969 q970 q971 q34 q972 hy_X4_round ⟨rfl, rfl⟩ ⟨Nat.le_of_ble_eq_true rfl, Nat.le_of_ble_eq_true rfl⟩ rfl rfl hl.1 (Nat.le_of_ble_eq_true rfl) ⟨show 31112 ≤ 79790 by omega, show 198448 ≤ 525844 by omega⟩ dL_days_706 (fun H locs hW hS _ => ?_)
                                                                                                                                  refine lv_bipush (v := 31) hx hb dL_days_709 (by decide) ?_
                                                                                                                                  refine lv_icmp_ne (tgt := 839) hx hb dL_days_711 (by decide) (fun h240 => ?_) (fun h240 => ?_)
                                                                                                                                  · have hf := ifn h240 hf
                                                                                                                                    refine lv_iconst (v := 0) hx hb dL_days_839 (by decide) ?_
                                                                                                                                    cases hf
                                                                                                                                    refine W.widen (k := 79790) (n := 525844) (by omega) (by omega) ?_
                                                                                                                                    exact W.zret (ty := .boolean) hx hb hr (by decide) (fun u hu _ => ⟨rfl, by rw [hu]; exact hS.1, fun q hq => by rw [hu]; exact hS.2.1 q (by omega) (Nat.not_le.mpr hq)⟩) hS.2.2 dL_days_840
                                                                                                                                  · have hf := ifp h240 hf
                                                                                                                                    refine lv_aload_n hx hb dL_days_714 rfl (lv_at hl 0 rfl) ?_
                                                                                                                                    obtain ⟨y241, u242, hf⟩ := b1_e hf
                                                                                                                                    refine lV (n := 0) (As := []) (rest := []) (c_X4_takings l D t b σ233 y241 u242) hx hb hml hown hts hE hsub hW hS q957 q958 q959 q34 q960 hy_X4_takings ⟨rfl, rfl⟩ ⟨Nat.le_of_ble_eq_true rfl, Nat.le_of_ble_eq_true rfl⟩ rfl rfl hl.1 (Nat.le_of_ble_eq_true rfl) ⟨show 31112 ≤ 79790 by omega, show 198448 ≤ 525844 by omega⟩ dL_days_715 (fun H locs hW hS _ => ?_)
                                                                                                                                    refine lv_bipush (v := 20) hx hb dL_days_718 (by decide) ?_
                                                                                                                                    refine lv_icmp_ne (tgt := 839) hx hb dL_days_720 (by decide) (fun h243 => ?_) (fun h243 => ?_)
                                                                                                                                    · have hf := ifn h243 hf
                                                                                                                                      refine lv_iconst (v := 0) hx hb dL_days_839 (by decide) ?_
                                                                                                                                      cases hf
                                                                                                                                      refine W.widen (k := 79790) (n := 525844) (by omega) (by omega) ?_
                                                                                                                                      exact W.zret (ty := .boolean) hx hb hr (by decide) (fun u hu _ => ⟨rfl, by rw [hu]; exact hS.1, fun q hq => by rw [hu]; exact hS.2.1 q (by omega) (Nat.not_le.mpr hq)⟩) hS.2.2 dL_days_840
                                                                                                                                    · have hf := ifp h243 hf
                                                                                                                                      refine lv_aload_n hx hb dL_days_723 rfl (lv_at hl 0 rfl) ?_
                                                                                                                                      obtain ⟨y244, u245, hf⟩ := b1_e hf
                                                                                                                                      refine lV (n := 0) (As := []) (rest := []) (c_X4_takingsByChildren l D t b σ233 y244 u245) hx hb hml hown hts hE hsub hW hS q1033 q1034 q1035 q34 q1036 hy_X4_takingsByChildren ⟨rfl, rfl⟩ ⟨Nat.le_of_ble_eq_true rfl, Nat.le_of_ble_eq_true rfl⟩ rfl rfl hl.1 (Nat.le_of_ble_eq_true rfl) ⟨show 31112 ≤ 79790 by omega, show 198448 ≤ 525844 by omega⟩ dL_days_724 (fun H locs hW hS _ => ?_)
                                                                                                                                      refine lv_bipush (v := 20) hx hb dL_days_727 (by decide) ?_
                                                                                                                                      refine lv_icmp_ne (tgt := 839) hx hb dL_days_729 (by decide) (fun h246 => ?_) (fun h246 => ?_)
                                                                                                                                      · have hf := ifn h246 hf
                                                                                                                                        refine lv_iconst (v := 0) hx hb dL_days_839 (by decide) ?_
                                                                                                                                        cases hf
                                                                                                                                        refine W.widen (k := 79790) (n := 525844) (by omega) (by omega) ?_
                                                                                                                                        exact W.zret (ty := .boolean) hx hb hr (by decide) (fun u hu _ => ⟨rfl, by rw [hu]; exact hS.1, fun q hq => by rw [hu]; exact hS.2.1 q (by omega) (Nat.not_le.mpr hq)⟩) hS.2.2 dL_days_840
                                                                                                                                      · have hf := ifp h246 hf
                                                                                                                                        refine lv_aload_n hx hb dL_days_732 rfl (lv_at hl 0 rfl) ?_
                                                                                                                                        refine lv_iconst (v := 0) hx hb dL_days_733 (by decide) ?_
                                                                                                                                        obtain ⟨y247, u248, hf⟩ := bn1_e hf
                                                                                                                                        refine lVXn (n := 1) (As := [.int 0]) (rest := []) (c_X4_purseOfStall l hfl D t b σ233 0 (.inr y247) u248) hx hb hml hown hts hE hsub hW hS q731 q732 q733 q34 q734 hy_X4_purseOfStall ⟨rfl, rfl⟩ ⟨Nat.le_of_ble_eq_true rfl, Nat.le_of_ble_eq_true rfl⟩ rfl rfl hl.1 (Nat.le_of_ble_eq_true rfl) ⟨show 31112 + 1 ≤ 79790 by omega, show 198448 + 6 ≤ 525844 by omega⟩ dL_days_734 (fun H locs hW hS _ => ?_)
                                                                                                                                        refine W.widen (k := 31113) (n := 198454) (by omega) (by omega) ?_
                                                                                                                                        refine lv_bipush (v := 12) hx hb dL_days_737 (by decide) ?_
                                                                                                                                        refine lv_icmp_ne (tgt := 839) hx hb dL_days_739 (by decide) (fun h249 => ?_) (fun h249 => ?_)
                                                                                                                                        · have hf := ifn h249 hf
                                                                                                                                          refine lv_iconst (v := 0) hx hb dL_days_839 (by decide) ?_
                                                                                                                                          cases hf
                                                                                                                                          refine W.widen (k := 79790) (n := 525844) (by omega) (by omega) ?_
                                                                                                                                          exact W.zret (ty := .boolean) hx hb hr (by decide) (fun u hu _ => ⟨rfl, by rw [hu]; exact hS.1, fun q hq => by rw [hu]; exact hS.2.1 q (by omega) (Nat.not_le.mpr hq)⟩) hS.2.2 dL_days_840
                                                                                                                                        · have hf := ifp h249 hf
                                                                                                                                          refine lv_aload_n hx hb dL_days_742 rfl (lv_at hl 0 rfl) ?_
                                                                                                                                          refine lv_iconst (v := 1) hx hb dL_days_743 (by decide) ?_
                                                                                                                                          obtain ⟨y250, u251, hf⟩ := bn1_e hf
                                                                                                                                          refine lVXn (n := 1) (As := [.int 1]) (rest := []) (c_X4_purseOfStall l hfl D t b σ233 1 (.inr y250) u251) hx hb hml hown hts hE hsub hW hS q731 q732 q733 q34 q734 hy_X4_purseOfStall ⟨rfl, rfl⟩ ⟨Nat.le_of_ble_eq_true rfl, Nat.le_of_ble_eq_true rfl⟩ rfl rfl hl.1 (Nat.le_of_ble_eq_true rfl) ⟨show 31113 + 1 ≤ 79790 by omega, show 198454 + 6 ≤ 525844 by omega⟩ dL_days_744 (fun H locs hW hS _ => ?_)
                                                                                                                                          refine W.widen (k := 31114) (n := 198460) (by omega) (by omega) ?_
                                                                                                                                          refine lv_bipush (v := 25) hx hb dL_days_747 (by decide) ?_
                                                                                                                                          refine lv_icmp_ne (tgt := 839) hx hb dL_days_749 (by decide) (fun h252 => ?_) (fun h252 => ?_)
                                                                                                                                          · have hf := ifn h252 hf
                                                                                                                                            refine lv_iconst (v := 0) hx hb dL_days_839 (by decide) ?_
                                                                                                                                            cases hf
                                                                                                                                            refine W.widen (k := 79790) (n := 525844) (by omega) (by omega) ?_
                                                                                                                                            exact W.zret (ty := .boolean) hx hb hr (by decide) (fun u hu _ => ⟨rfl, by rw [hu]; exact hS.1, fun q hq => by rw [hu]; exact hS.2.1 q (by omega) (Nat.not_le.mpr hq)⟩) hS.2.2 dL_days_840
                                                                                                                                          · have hf := ifp h252 hf
                                                                                                                                            refine lv_aload_n hx hb dL_days_752 rfl (lv_at hl 0 rfl) ?_
                                                                                                                                            refine lv_bipush (v := 9) hx hb dL_days_753 (by decide) ?_
                                                                                                                                            obtain ⟨y253, σ255, u254, hf⟩ := bn2_e hf
                                                                                                                                            refine lVXn (n := 1) (As := [.int 9]) (rest := []) (c_X4_pass l hfl D t b σ233 9 (.inr (y253, σ255)) u254) hx hb hml hown hts hE hsub hW hS q616 q617 q618 q34 q619 hy_X4_pass ⟨rfl, rfl⟩ ⟨Nat.le_of_ble_eq_true rfl, Nat.le_of_ble_eq_true rfl⟩ rfl rfl hl.1 (Nat.le_of_ble_eq_true rfl) ⟨show 31114 + 1 ≤ 79790 by omega, show 198460 + 6 ≤ 525844 by omega⟩ dL_days_755 (fun H locs hW hS _ => ?_)
                                                                                                                                            refine W.widen (k := 31115) (n := 198466) (by omega) (by omega) ?_
                                                                                                                                            refine lv_if_ne (tgt := 839) hx hb dL_days_758 (by decide) (fun h256 => ?_) (fun h256 => ?_)
                                                                                                                                            · have hf := ifn h256 hf
                                                                                                                                              refine lv_iconst (v := 0) hx hb dL_days_839 (by decide) ?_
                                                                                                                                              cases hf
                                                                                                                                              refine W.widen (k := 79790) (n := 525844) (by omega) (by omega) ?_
                                                                                                                                              exact W.zret (ty := .boolean) hx hb hr (by decide) (fun u hu _ => ⟨rfl, by rw [hu]; exact hS.1, fun q hq => by rw [hu]; exact hS.2.1 q (by omega) (Nat.not_le.mpr hq)⟩) hS.2.2 dL_days_840
                                                                                                                                            · have hf := ifp h256 hf
                                                                                                                                              refine lv_aload_n hx hb dL_days_761 rfl (lv_at hl 0 rfl) ?_
                                                                                                                                              obtain ⟨y257, u258, hf⟩ := b1_e hf
                                                                                                                                              refine lV (n := 0) (As := []) (rest := []) (c_X4_day l D t b σ255 y257 u258) hx hb hml hown hts hE hsub hW hS q965 q966 q967 q34 q968 hy_X4_day ⟨rfl, rfl⟩ ⟨Nat.le_of_ble_eq_true rfl, Nat.le_of_ble_eq_true rfl⟩ rfl rfl hl.1 (Nat.le_of_ble_eq_true rfl) ⟨show 31115 ≤ 79790 by omega, show 198466 ≤ 525844 by omega⟩ dL_days_762 (fun H locs hW hS _ => ?_)
                                                                                                                                              refine lv_iconst (v := 1) hx hb dL_days_765 (by decide) ?_
                                                                                                                                              refine lv_icmp_ne (tgt := 839) hx hb dL_days_766 (by decide) (fun h259 => ?_) (fun h259 => ?_)
                                                                                                                                              · have hf := ifn h259 hf
                                                                                                                                                refine lv_iconst (v := 0) hx hb dL_days_839 (by decide) ?_
                                                                                                                                                cases hf
                                                                                                                                                refine W.widen (k := 79790) (n := 525844) (by omega) (by omega) ?_
                                                                                                                                                exact W.zret (ty := .boolean) hx hb hr (by decide) (fun u hu _ => ⟨rfl, by rw [hu]; exact hS.1, fun q hq => by rw [hu]; exact hS.2.1 q (by omega) (Nat.not_le.mpr hq)⟩) hS.2.2 dL_days_840
                                                                                                                                              · have hf := ifp h259 hf
                                                                                                                                                refine lv_aload_n hx hb dL_days_769 rfl (lv_at hl 0 rfl) ?_
                                                                                                                                                obtain ⟨y260, u261, hf⟩ := b1_e hf
                                                                                                                                                refine lV (n := 0) (As := []) (rest := []) (c_X4_round l D t b σ255 y260 u261) hx hb hml hown hts hE hsub hW hS q969 q970 q971 q34 q972 hy_X4_round ⟨rfl, rfl⟩ ⟨Nat.le_of_ble_eq_true rfl, Nat.le_of_ble_eq_true rfl⟩ rfl rfl hl.1 (Nat.le_of_ble_eq_true rfl) ⟨show 31115 ≤ 79790 by omega, show 198466 ≤ 525844 by omega⟩ dL_days_770 (fun H locs hW hS _ => ?_)
                                                                                                                                                refine lv_if_ne (tgt := 839) hx hb dL_days_773 (by decide) (fun h262 => ?_) (fun h262 => ?_)
                                                                                                                                                · have hf := ifn h262 hf
                                                                                                                                                  refine lv_iconst (v := 0) hx hb dL_days_839 (by decide) ?_
                                                                                                                                                  cases hf
                                                                                                                                                  refine W.widen (k := 79790) (n := 525844) (by omega) (by omega) ?_
                                                                                                                                                  exact W.zret (ty := .boolean) hx hb hr (by decide) (fun u hu _ => ⟨rfl, by rw [hu]; exact hS.1, fun q hq => by rw [hu]; exact hS.2.1 q (by omega) (Nat.not_le.mpr hq)⟩) hS.2.2 dL_days_840
                                                                                                                                                · have hf := ifp h262 hf
                                                                                                                                                  refine lv_aload_n hx hb dL_days_776 rfl (lv_at hl 0 rfl) ?_
                                                                                                                                                  refine lv_iconst (v := 0) hx hb dL_days_777 (by decide) ?_
                                                                                                                                                  obtain ⟨y263, u264, hf⟩ := bn1_e hf
                                                                                                                                                  refine lVXn (n := 1) (As := [.int 0]) (rest := []) (c_X4_purseOfStall l hfl D t b σ255 0 (.inr y263) u264) hx hb hml hown hts hE hsub hW hS q731 q732 q733 q34 q734 hy_X4_purseOfStall ⟨rfl, rfl⟩ ⟨Nat.le_of_ble_eq_true rfl, Nat.le_of_ble_eq_true rfl⟩ rfl rfl hl.1 (Nat.le_of_ble_eq_true rfl) ⟨show 31115 + 1 ≤ 79790 by omega, show 198466 + 6 ≤ 525844 by omega⟩ dL_days_778 (fun H locs hW hS _ => ?_)
                                                                                                                                                  refine W.widen (k := 31116) (n := 198472) (by omega) (by omega) ?_
                                                                                                                                                  refine lv_iconst (v := 4) hx hb dL_days_781 (by decide) ?_
                                                                                                                                                  refine lv_icmp_ne (tgt := 839) hx hb dL_days_782 (by decide) (fun h265 => ?_) (fun h265 => ?_)
                                                                                                                                                  · have hf := ifn h265 hf
                                                                                                                                                    refine lv_iconst (v := 0) hx hb dL_days_839 (by decide) ?_
                                                                                                                                                    cases hf
                                                                                                                                                    refine W.widen (k := 79790) (n := 525844) (by omega) (by omega) ?_
                                                                                                                                                    exact W.zret (ty := .boolean) hx hb hr (by decide) (fun u hu _ => ⟨rfl, by rw [hu]; exact hS.1, fun q hq => by rw [hu]; exact hS.2.1 q (by omega) (Nat.not_le.mpr hq)⟩) hS.2.2 dL_days_840
                                                                                                                                                  · have hf := ifp h265 hf
                                                                                                                                                    refine lv_aload_n hx hb dL_days_785 rfl (lv_at hl 0 rfl) ?_
                                                                                                                                                    refine lv_iconst (v := 1) hx hb dL_days_786 (by decide) ?_
                                                                                                                                                    obtain ⟨y266, u267, hf⟩ := bn1_e hf
                                                                                                                                                    refine lVXn (n := 1) (As := [.int 1]) (rest := []) (c_X4_purseOfStall l hfl D t b σ255 1 (.inr y266) u267) hx hb hml hown hts hE hsub hW hS q731 q732 q733 q34 q734 hy_X4_purseOfStall ⟨rfl, rfl⟩ ⟨Nat.le_of_ble_eq_true rfl, Nat.le_of_ble_eq_true rfl⟩ rfl rfl hl.1 (Nat.le_of_ble_eq_true rfl) ⟨show 31116 + 1 ≤ 79790 by omega, show 198472 + 6 ≤ 525844 by omega⟩ dL_days_787 (fun H locs hW hS _ => ?_)
                                                                                                                                                    refine W.widen (k := 31117) (n := 198478) (by omega) (by omega) ?_
                                                                                                                                                    refine lv_bipush (v := 18) hx hb dL_days_790 (by decide) ?_
                                                                                                                                                    refine lv_icmp_ne (tgt := 839) hx hb dL_days_792 (by decide) (fun h268 => ?_) (fun h268 => ?_)
                                                                                                                                                    · have hf := ifn h268 hf
                                                                                                                                                      refine lv_iconst (v := 0) hx hb dL_days_839 (by decide) ?_
                                                                                                                                                      cases hf
                                                                                                                                                      refine W.widen (k := 79790) (n := 525844) (by omega) (by omega) ?_
                                                                                                                                                      exact W.zret (ty := .boolean) hx hb hr (by decide) (fun u hu _ => ⟨rfl, by rw [hu]; exact hS.1, fun q hq => by rw [hu]; exact hS.2.1 q (by omega) (Nat.not_le.mpr hq)⟩) hS.2.2 dL_days_840
                                                                                                                                                    · have hf := ifp h268 hf
                                                                                                                                                      refine lv_aload_n hx hb dL_days_795 rfl (lv_at hl 0 rfl) ?_
                                                                                                                                                      obtain ⟨y269, u270, hf⟩ := b1_e hf
                                                                                                                                                      refine lV (n := 0) (As := []) (rest := []) (c_X4_town l D t b σ255 y269 u270) hx hb hml hown hts hE hsub hW hS q949 q950 q951 q34 q952 hy_X4_town ⟨rfl, rfl⟩ ⟨Nat.le_of_ble_eq_true rfl, Nat.le_of_ble_eq_true rfl⟩ rfl rfl hl.1 (Nat.le_of_ble_eq_true rfl) ⟨show 31117 ≤ 79790 by omega, show 198478 ≤ 525844 by omega⟩ dL_days_796 (fun H locs hW hS _ => ?_)
                                                                                                                                                      refine lv_bipush (v := 15) hx hb dL_days_799 (by decide) ?_
                                                                                                                                                      refine lv_icmp_ne (tgt := 839) hx hb dL_days_801 (by decide) (fun h271 => ?_) (fun h271 => ?_)
                                                                                                                                                      · have hf := ifn h271 hf
                                                                                                                                                        refine lv_iconst (v := 0) hx hb dL_days_839 (by decide) ?_
                                                                                                                                                        cases hf
                                                                                                                                                        refine W.widen (k := 79790) (n := 525844) (by omega) (by omega) ?_
                                                                                                                                                        exact W.zret (ty := .boolean) hx hb hr (by decide) (fun u hu _ => ⟨rfl, by rw [hu]; exact hS.1, fun q hq => by rw [hu]; exact hS.2.1 q (by omega) (Nat.not_le.mpr hq)⟩) hS.2.2 dL_days_840
                                                                                                                                                      · have hf := ifp h271 hf
                                                                                                                                                        refine lv_aload_n hx hb dL_days_804 rfl (lv_at hl 0 rfl) ?_
                                                                                                                                                        obtain ⟨y272, u273, hf⟩ := b1_e hf
                                                                                                                                                        refine lV (n := 0) (As := []) (rest := []) (c_X4_allCoins l D t b σ255 y272 u273) hx hb hml hown hts hE hsub hW hS q953 q954 q955 q34 q956 hy_X4_allCoins ⟨rfl, rfl⟩ ⟨Nat.le_of_ble_eq_true rfl, Nat.le_of_ble_eq_true rfl⟩ rfl rfl hl.1 (Nat.le_of_ble_eq_true rfl) ⟨show 31117 ≤ 79790 by omega, show 198478 ≤ 525844 by omega⟩ dL_days_805 (fun H locs hW hS _ => ?_)
                                                                                                                                                        refine lv_sipush (v := 520) hx hb dL_days_808 (by decide) ?_
                                                                                                                                                        refine lv_icmp_ne (tgt := 839) hx hb dL_days_811 (by decide) (fun h274 => ?_) (fun h274 => ?_)
                                                                                                                                                        · have hf := ifn h274 hf
                                                                                                                                                          refine lv_iconst (v := 0) hx hb dL_days_839 (by decide) ?_
                                                                                                                                                          cases hf
                                                                                                                                                          refine W.widen (k := 79790) (n := 525844) (by omega) (by omega) ?_
                                                                                                                                                          exact W.zret (ty := .boolean) hx hb hr (by decide) (fun u hu _ => ⟨rfl, by rw [hu]; exact hS.1, fun q hq => by rw [hu]; exact hS.2.1 q (by omega) (Nat.not_le.mpr hq)⟩) hS.2.2 dL_days_840
                                                                                                                                                        · have hf := ifp h274 hf
                                                                                                                                                          refine lv_aload_n hx hb dL_days_814 rfl (lv_at hl 0 rfl) ?_
                                                                                                                                                          obtain ⟨y275, u276, hf⟩ := b1_e hf
                                                                                                                                                          refine lV (n := 0) (As := []) (rest := []) (c_X4_coinsByPlaces l D t b σ255 y275 u276) hx hb hml hown hts hE hsub hW hS q998 q999 q1000 q34 q1001 hy_X4_coinsByPlaces ⟨rfl, rfl⟩ ⟨Nat.le_of_ble_eq_true rfl, Nat.le_of_ble_eq_true rfl⟩ rfl rfl hl.1 (Nat.le_of_ble_eq_true rfl) ⟨show 31117 ≤ 79790 by omega, show 198478 ≤ 525844 by omega⟩ dL_days_815 (fun H locs hW hS _ => ?_)
                                                                                                                                                          refine lv_sipush (v := 520) hx hb dL_days_818 (by decide) ?_
                                                                                                                                                          refine lv_icmp_ne (tgt := 839) hx hb dL_days_821 (by decide) (fun h277 => ?_) (fun h277 => ?_)
                                                                                                                                                          · have hf := ifn h277 hf
                                                                                                                                                            refine lv_iconst (v := 0) hx hb dL_days_839 (by decide) ?_
                                                                                                                                                            cases hf
                                                                                                                                                            refine W.widen (k := 79790) (n := 525844) (by omega) (by omega) ?_
                                                                                                                                                            exact W.zret (ty := .boolean) hx hb hr (by decide) (fun u hu _ => ⟨rfl, by rw [hu]; exact hS.1, fun q hq => by rw [hu]; exact hS.2.1 q (by omega) (Nat.not_le.mpr hq)⟩) hS.2.2 dL_days_840
                                                                                                                                                          · have hf := ifp h277 hf
                                                                                                                                                            refine lv_aload_n hx hb dL_days_824 rfl (lv_at hl 0 rfl) ?_
                                                                                                                                                            obtain ⟨y278, u279, hf⟩ := b1_e hf
                                                                                                                                                            refine lV (n := 0) (As := []) (rest := []) (c_X4_recordedStates l D t b σ255 y278 u279) hx hb hml hown hts hE hsub hW hS q561 q562 q563 q34 q564 hy_X4_recordedStates ⟨rfl, rfl⟩ ⟨Nat.le_of_ble_eq_true rfl, Nat.le_of_ble_eq_true rfl⟩ rfl rfl hl.1 (Nat.le_of_ble_eq_true rfl) ⟨show 31117 ≤ 79790 by omega, show 198478 ≤ 525844 by omega⟩ dL_days_825 (fun H locs hW hS _ => ?_)
                                                                                                                                                            refine lv_iconst (v := 4) hx hb dL_days_828 (by decide) ?_
                                                                                                                                                            refine lv_icmp_ne (tgt := 839) hx hb dL_days_829 (by decide) (fun h280 => ?_) (fun h280 => ?_)
                                                                                                                                                            · have hf := ifn h280 hf
                                                                                                                                                              refine lv_iconst (v := 0) hx hb dL_days_839 (by decide) ?_
                                                                                                                                                              cases hf
                                                                                                                                                              refine W.widen (k := 79790) (n := 525844) (by omega) (by omega) ?_
                                                                                                                                                              exact W.zret (ty := .boolean) hx hb hr (by decide) (fun u hu _ => ⟨rfl, by rw [hu]; exact hS.1, fun q hq => by rw [hu]; exact hS.2.1 q (by omega) (Nat.not_le.mpr hq)⟩) hS.2.2 dL_days_840
                                                                                                                                                            · have hf := ifp h280 hf
                                                                                                                                                              refine lv_aload_n hx hb dL_days_832 rfl (lv_at hl 0 rfl) ?_
                                                                                                                                                              obtain ⟨y281, σ283, u282, hf⟩ := b2_e hf
                                                                                                                                                              refine lS (n := 1) (As := [.ref (b + 0)]) (rest := []) (c_L_refused l hfl D t b σ255 y281 σ283 u282) hx hb hml hown hts hE hsub hW hS q981 q982 q33  q983 hs_L_refused ⟨rfl, rfl⟩ ⟨Nat.le_of_ble_eq_true rfl, Nat.le_of_ble_eq_true rfl⟩ rfl rfl hl.1 (Nat.le_of_ble_eq_true rfl) ⟨show 31117 + 15372 ≤ 79790 by omega, show 198478 + 92232 ≤ 525844 by omega⟩ dL_days_833 (fun H locs hW hS _ => ?_)
                                                                                                                                                              refine W.widen (k := 46489) (n := 290710) (by omega) (by omega) ?_
                                                                                                                                                              refine lv_if_ne (tgt := 841) hx hb dL_days_836 (by decide) (fun h284 => ?_) (fun h284 => ?_)
                                                                                                                                                              · have hf := ifn h284 hf
                                                                                                                                                                refine lv_aload_n hx hb dL_days_841 rfl (lv_at hl 0 rfl) ?_
                                                                                                                                                                refine lv_iconst (v := 0) hx hb dL_days_842 (by decide) ?_
                                                                                                                                                                obtain ⟨y285, σ287, u286, hf⟩ := bn2_e hf
                                                                                                                                                                refine lVXn (n := 1) (As := [.int 0]) (rest := []) (c_X4_collect l hfl D t b σ283 0 (.inr (y285, σ287)) u286) hx hb hml hown hts hE hsub hW hS q602 q603 q604 q34 q605 hy_X4_collect ⟨rfl, rfl⟩ ⟨Nat.le_of_ble_eq_true rfl, Nat.le_of_ble_eq_true rfl⟩ rfl rfl hl.1 (Nat.le_of_ble_eq_true rfl) ⟨show 46489 + 1 ≤ 79790 by omega, show 290710 + 6 ≤ 525844 by omega⟩ dL_days_843 (fun H locs hW hS _ => ?_)
                                                                                                                                                                refine W.widen (k := 46490) (n := 290716) (by omega) (by omega) ?_
                                                                                                                                                                refine lv_iconst (v := 4) hx hb dL_days_846 (by decide) ?_
                                                                                                                                                                refine lv_icmp_ne (tgt := 980) hx hb dL_days_847 (by decide) (fun h288 => ?_) (fun h288 => ?_)
                                                                                                                                                                · have hf := ifn h288 hf
                                                                                                                                                                  refine lv_iconst (v := 0) hx hb dL_days_980 (by decide) ?_
                                                                                                                                                                  cases hf
                                                                                                                                                                  refine W.widen (k := 79790) (n := 525844) (by omega) (by omega) ?_
                                                                                                                                                                  exact W.zret (ty := .boolean) hx hb hr (by decide) (fun u hu _ => ⟨rfl, by rw [hu]; exact hS.1, fun q hq => by rw [hu]; exact hS.2.1 q (by omega) (Nat.not_le.mpr hq)⟩) hS.2.2 dL_days_981
                                                                                                                                                                · have hf := ifp h288 hf
                                                                                                                                                                  refine lv_aload_n hx hb dL_days_850 rfl (lv_at hl 0 rfl) ?_
                                                                                                                                                                  refine lv_bipush (v := 40) hx hb dL_days_851 (by decide) ?_
                                                                                                                                                                  obtain ⟨y289, σ291, u290, hf⟩ := bn2_e hf
                                                                                                                                                                  refine lVXn (n := 1) (As := [.int 40]) (rest := []) (c_X4_pass l hfl D t b σ287 40 (.inr (y289, σ291)) u290) hx hb hml hown hts hE hsub hW hS q616 q617 q618 q34 q619 hy_X4_pass ⟨rfl, rfl⟩ ⟨Nat.le_of_ble_eq_true rfl, Nat.le_of_ble_eq_true rfl⟩ rfl rfl hl.1 (Nat.le_of_ble_eq_true rfl) ⟨show 46490 + 1 ≤ 79790 by omega, show 290716 + 6 ≤ 525844 by omega⟩ dL_days_853 (fun H locs hW hS _ => ?_)
                                                                                                                                                                  refine W.widen (k := 46491) (n := 290722) (by omega) (by omega) ?_
                                                                                                                                                                  refine lv_if_ne (tgt := 980) hx hb dL_days_856 (by decide) (fun h292 => ?_) (fun h292 => ?_)
                                                                                                                                                                  · have hf := ifn h292 hf
                                                                                                                                                                    refine lv_iconst (v := 0) hx hb dL_days_980 (by decide) ?_
                                                                                                                                                                    cases hf
                                                                                                                                                                    refine W.widen (k := 79790) (n := 525844) (by omega) (by omega) ?_
                                                                                                                                                                    exact W.zret (ty := .boolean) hx hb hr (by decide) (fun u hu _ => ⟨rfl, by rw [hu]; exact hS.1, fun q hq => by rw [hu]; exact hS.2.1 q (by omega) (Nat.not_le.mpr hq)⟩) hS.2.2 dL_days_981
                                                                                                                                                                  · have hf := ifp h292 hf
                                                                                                                                                                    refine lv_aload_n hx hb dL_days_859 rfl (lv_at hl 0 rfl) ?_
                                                                                                                                                                    refine lv_iconst (v := 0) hx hb dL_days_860 (by decide) ?_
                                                                                                                                                                    obtain ⟨y293, u294, hf⟩ := bn1_e hf
                                                                                                                                                                    refine lVXn (n := 1) (As := [.int 0]) (rest := []) (c_X4_isOpen l hfl D t b σ291 0 (.inr y293) u294) hx hb hml hown hts hE hsub hW hS q727 q728 q729 q34 q730 hy_X4_isOpen ⟨rfl, rfl⟩ ⟨Nat.le_of_ble_eq_true rfl, Nat.le_of_ble_eq_true rfl⟩ rfl rfl hl.1 (Nat.le_of_ble_eq_true rfl) ⟨show 46491 + 1 ≤ 79790 by omega, show 290722 + 6 ≤ 525844 by omega⟩ dL_days_861 (fun H locs hW hS _ => ?_)
                                                                                                                                                                    refine W.widen (k := 46492) (n := 290728) (by omega) (by omega) ?_
                                                                                                                                                                    refine lv_if_ne (tgt := 980) hx hb dL_days_864 (by decide) (fun h295 => ?_) (fun h295 => ?_)
                                                                                                                                                                    · have hf := ifn h295 hf
                                                                                                                                                                      refine lv_iconst (v := 0) hx hb dL_days_980 (by decide) ?_
                                                                                                                                                                      cases hf
                                                                                                                                                                      refine W.widen (k := 79790) (n := 525844) (by omega) (by omega) ?_
                                                                                                                                                                      exact W.zret (ty := .boolean) hx hb hr (by decide) (fun u hu _ => ⟨rfl, by rw [hu]; exact hS.1, fun q hq => by rw [hu]; exact hS.2.1 q (by omega) (Nat.not_le.mpr hq)⟩) hS.2.2 dL_days_981
                                                                                                                                                                    · have hf := ifp h295 hf
                                                                                                                                                                      refine lv_aload_n hx hb dL_days_867 rfl (lv_at hl 0 rfl) ?_
                                                                                                                                                                      refine lv_iconst (v := 0) hx hb dL_days_868 (by decide) ?_
                                                                                                                                                                      obtain ⟨y296, u297, hf⟩ := bn1_e hf
                                                                                                                                                                      refine lVXn (n := 1) (As := [.int 0]) (rest := []) (c_X4_purseOfStall l hfl D t b σ291 0 (.inr y296) u297) hx hb hml hown hts hE hsub hW hS q731 q732 q733 q34 q734 hy_X4_purseOfStall ⟨rfl, rfl⟩ ⟨Nat.le_of_ble_eq_true rfl, Nat.le_of_ble_eq_true rfl⟩ rfl rfl hl.1 (Nat.le_of_ble_eq_true rfl) ⟨show 46492 + 1 ≤ 79790 by omega, show 290728 + 6 ≤ 525844 by omega⟩ dL_days_869 (fun H locs hW hS _ => ?_)
                                                                                                                                                                      refine W.widen (k := 46493) (n := 290734) (by omega) (by omega) ?_
                                                                                                                                                                      refine lv_if_ne (tgt := 980) hx hb dL_days_872 (by decide) (fun h298 => ?_) (fun h298 => ?_)
                                                                                                                                                                      · have hf := ifn h298 hf
                                                                                                                                                                        refine lv_iconst (v := 0) hx hb dL_days_980 (by decide) ?_
                                                                                                                                                                        cases hf
                                                                                                                                                                        refine W.widen (k := 79790) (n := 525844) (by omega) (by omega) ?_
                                                                                                                                                                        exact W.zret (ty := .boolean) hx hb hr (by decide) (fun u hu _ => ⟨rfl, by rw [hu]; exact hS.1, fun q hq => by rw [hu]; exact hS.2.1 q (by omega) (Nat.not_le.mpr hq)⟩) hS.2.2 dL_days_981
                                                                                                                                                                      · have hf := ifp h298 hf
                                                                                                                                                                        refine lv_aload_n hx hb dL_days_875 rfl (lv_at hl 0 rfl) ?_
                                                                                                                                                                        refine lv_iconst (v := 1) hx hb dL_days_876 (by decide) ?_
                                                                                                                                                                        obtain ⟨y299, u300, hf⟩ := bn1_e hf
                                                                                                                                                                        refine lVXn (n := 1) (As := [.int 1]) (rest := []) (c_X4_purseOfStall l hfl D t b σ291 1 (.inr y299) u300) hx hb hml hown hts hE hsub hW hS q731 q732 q733 q34 q734 hy_X4_purseOfStall ⟨rfl, rfl⟩ ⟨Nat.le_of_ble_eq_true rfl, Nat.le_of_ble_eq_true rfl⟩ rfl rfl hl.1 (Nat.le_of_ble_eq_true rfl) ⟨show 46493 + 1 ≤ 79790 by omega, show 290734 + 6 ≤ 525844 by omega⟩ dL_days_877 (fun H locs hW hS _ => ?_)
                                                                                                                                                                        refine W.widen (k := 46494) (n := 290740) (by omega) (by omega) ?_
                                                                                                                                                                        refine lv_bipush (v := 11) hx hb dL_days_880 (by decide) ?_
                                                                                                                                                                        refine lv_icmp_ne (tgt := 980) hx hb dL_days_882 (by decide) (fun h301 => ?_) (fun h301 => ?_)
                                                                                                                                                                        · have hf := ifn h301 hf
                                                                                                                                                                          refine lv_iconst (v := 0) hx hb dL_days_980 (by decide) ?_
                                                                                                                                                                          cases hf
                                                                                                                                                                          refine W.widen (k := 79790) (n := 525844) (by omega) (by omega) ?_
                                                                                                                                                                          exact W.zret (ty := .boolean) hx hb hr (by decide) (fun u hu _ => ⟨rfl, by rw [hu]; exact hS.1, fun q hq => by rw [hu]; exact hS.2.1 q (by omega) (Nat.not_le.mpr hq)⟩) hS.2.2 dL_days_981
                                                                                                                                                                        · have hf := ifp h301 hf
                                                                                                                                                                          refine lv_aload_n hx hb dL_days_885 rfl (lv_at hl 0 rfl) ?_
                                                                                                                                                                          obtain ⟨y302, u303, hf⟩ := b1_e hf
                                                                                                                                                                          refine lV (n := 0) (As := []) (rest := []) (c_X4_town l D t b σ291 y302 u303) hx hb hml hown hts hE hsub hW hS q949 q950 q951 q34 q952 hy_X4_town ⟨rfl, rfl⟩ ⟨Nat.le_of_ble_eq_true rfl, Nat.le_of_ble_eq_true rfl⟩ rfl rfl hl.1 (Nat.le_of_ble_eq_true rfl) ⟨show 46494 ≤ 79790 by omega, show 290740 ≤ 525844 by omega⟩ dL_days_886 (fun H locs hW hS _ => ?_)
                                                                                                                                                                          refine lv_bipush (v := 22) hx hb dL_days_889 (by decide) ?_
                                                                                                                                                                          refine lv_icmp_ne (tgt := 980) hx hb dL_days_891 (by decide) (fun h304 => ?_) (fun h304 => ?_)
                                                                                                                                                                          · have hf := ifn h304 hf
                                                                                                                                                                            refine lv_iconst (v := 0) hx hb dL_days_980 (by decide) ?_
                                                                                                                                                                            cases hf
                                                                                                                                                                            refine W.widen (k := 79790) (n := 525844) (by omega) (by omega) ?_
                                                                                                                                                                            exact W.zret (ty := .boolean) hx hb hr (by decide) (fun u hu _ => ⟨rfl, by rw [hu]; exact hS.1, fun q hq => by rw [hu]; exact hS.2.1 q (by omega) (Nat.not_le.mpr hq)⟩) hS.2.2 dL_days_981
                                                                                                                                                                          · have hf := ifp h304 hf
                                                                                                                                                                            refine lv_aload_n hx hb dL_days_894 rfl (lv_at hl 0 rfl) ?_
                                                                                                                                                                            refine lv_iconst (v := 0) hx hb dL_days_895 (by decide) ?_
                                                                                                                                                                            obtain ⟨y305, σ307, u306, hf⟩ := bn2_e hf
                                                                                                                                                                            refine lVXn (n := 1) (As := [.int 0]) (rest := []) (c_X4_turnStall l hfl D t b σ291 0 (.inr (y305, σ307)) u306) hx hb hml hown hts hE hsub hW hS q598 q599 q600 q34 q601 hy_X4_turnStall ⟨rfl, rfl⟩ ⟨Nat.le_of_ble_eq_true rfl, Nat.le_of_ble_eq_true rfl⟩ rfl rfl hl.1 (Nat.le_of_ble_eq_true rfl) ⟨show 46494 + 1 ≤ 79790 by omega, show 290740 + 6 ≤ 525844 by omega⟩ dL_days_896 (fun H locs hW hS _ => ?_)
                                                                                                                                                                            refine W.widen (k := 46495) (n := 290746) (by omega) (by omega) ?_
                                                                                                                                                                            refine lv_if_eq (tgt := 980) hx hb dL_days_899 (by decide) (fun h308 => ?_) (fun h308 => ?_)
                                                                                                                                                                            · have hf := ifp h308 hf
                                                                                                                                                                              refine lv_iconst (v := 0) hx hb dL_days_980 (by decide) ?_
                                                                                                                                                                              cases hf
                                                                                                                                                                              refine W.widen (k := 79790) (n := 525844) (by omega) (by omega) ?_
                                                                                                                                                                              exact W.zret (ty := .boolean) hx hb hr (by decide) (fun u hu _ => ⟨rfl, by rw [hu]; exact hS.1, fun q hq => by rw [hu]; exact hS.2.1 q (by omega) (Nat.not_le.mpr hq)⟩) hS.2.2 dL_days_981
                                                                                                                                                                            · have hf := ifn h308 hf
                                                                                                                                                                              refine lv_aload_n hx hb dL_days_902 rfl (lv_at hl 0 rfl) ?_
                                                                                                                                                                              obtain ⟨y309, σ311, u310, hf⟩ := bn2_e hf
                                                                                                                                                                              refine lVXn (n := 0) (As := []) (rest := []) (c_X4_restoreSnapshot l hfl D t b σ307 (.inr (y309, σ311)) u310) hx hb hml hown hts hE hsub hW hS q556 q557 q558 q34 q559 hy_X4_restoreSnapshot ⟨rfl, rfl⟩ ⟨Nat.le_of_ble_eq_true rfl, Nat.le_of_ble_eq_true rfl⟩ rfl rfl hl.1 (Nat.le_of_ble_eq_true rfl) ⟨show 46495 + 1 ≤ 79790 by omega, show 290746 + 6 ≤ 525844 by omega⟩ dL_days_903 (fun H locs hW hS _ => ?_)
                                                                                                                                                                              refine W.widen (k := 46496) (n := 290752) (by omega) (by omega) ?_
                                                                                                                                                                              refine lv_sipush (v := 400) hx hb dL_days_906 (by decide) ?_
                                                                                                                                                                              refine lv_icmp_ne (tgt := 980) hx hb dL_days_909 (by decide) (fun h312 => ?_) (fun h312 => ?_)
                                                                                                                                                                              · have hf := ifn h312 hf
                                                                                                                                                                                refine lv_iconst (v := 0) hx hb dL_days_980 (by decide) ?_
                                                                                                                                                                                cases hf
                                                                                                                                                                                refine W.widen (k := 79790) (n := 525844) (by omega) (by omega) ?_
                                                                                                                                                                                exact W.zret (ty := .boolean) hx hb hr (by decide) (fun u hu _ => ⟨rfl, by rw [hu]; exact hS.1, fun q hq => by rw [hu]; exact hS.2.1 q (by omega) (Nat.not_le.mpr hq)⟩) hS.2.2 dL_days_981
                                                                                                                                                                              · have hf := ifp h312 hf
                                                                                                                                                                                refine lv_aload_n hx hb dL_days_912 rfl (lv_at hl 0 rfl) ?_
                                                                                                                                                                                refine lv_bipush (v := 40) hx hb dL_days_913 (by decide) ?_
                                                                                                                                                                                obtain ⟨y313, σ315, u314, hf⟩ := bn2_e hf
                                                                                                                                                                                refine lVXn (n := 1) (As := [.int 40]) (rest := []) (c_X4_pass l hfl D t b σ311 40 (.inr (y313, σ315)) u314) hx hb hml hown hts hE hsub hW hS q616 q617 q618 q34 q619 hy_X4_pass ⟨rfl, rfl⟩ ⟨Nat.le_of_ble_eq_true rfl, Nat.le_of_ble_eq_true rfl⟩ rfl rfl hl.1 (Nat.le_of_ble_eq_true rfl) ⟨show 46496 + 1 ≤ 79790 by omega, show 290752 + 6 ≤ 525844 by omega⟩ dL_days_915 (fun H locs hW hS _ => ?_)
                                                                                                                                                                                refine W.widen (k := 46497) (n := 290758) (by omega) (by omega) ?_
                                                                                                                                                                                refine lv_bipush (v := 8) hx hb dL_days_918 (by decide) ?_
                                                                                                                                                                                refine lv_icmp_ne (tgt := 980) hx hb dL_days_920 (by decide) (fun h316 => ?_) (fun h316 => ?_)
                                                                                                                                                                                · have hf := ifn h316 hf
                                                                                                                                                                                  refine lv_iconst (v := 0) hx hb dL_days_980 (by decide) ?_
                                                                                                                                                                                  cases hf
                                                                                                                                                                                  refine W.widen (k := 79790) (n := 525844) (by omega) (by omega) ?_
                                                                                                                                                                                  exact W.zret (ty := .boolean) hx hb hr (by decide) (fun u hu _ => ⟨rfl, by rw [hu]; exact hS.1, fun q hq => by rw [hu]; exact hS.2.1 q (by omega) (Nat.not_le.mpr hq)⟩) hS.2.2 dL_days_981
                                                                                                                                                                                · have hf := ifp h316 hf
                                                                                                                                                                                  refine lv_aload_n hx hb dL_days_923 rfl (lv_at hl 0 rfl) ?_
                                                                                                                                                                                  obtain ⟨y317, u318, hf⟩ := b1_e hf
                                                                                                                                                                                  refine lV (n := 0) (As := []) (rest := []) (c_X4_town l D t b σ315 y317 u318) hx hb hml hown hts hE hsub hW hS q949 q950 q951 q34 q952 hy_X4_town ⟨rfl, rfl⟩ ⟨Nat.le_of_ble_eq_true rfl, Nat.le_of_ble_eq_true rfl⟩ rfl rfl hl.1 (Nat.le_of_ble_eq_true rfl) ⟨show 46497 ≤ 79790 by omega, show 290758 ≤ 525844 by omega⟩ dL_days_924 (fun H locs hW hS _ => ?_)
                                                                                                                                                                                  refine lv_bipush (v := 15) hx hb dL_days_927 (by decide) ?_
                                                                                                                                                                                  refine lv_icmp_ne (tgt := 980) hx hb dL_days_929 (by decide) (fun h319 => ?_) (fun h319 => ?_)
                                                                                                                                                                                  · have hf := ifn h319 hf
                                                                                                                                                                                    refine lv_iconst (v := 0) hx hb dL_days_980 (by decide) ?_
                                                                                                                                                                                    cases hf
                                                                                                                                                                                    refine W.widen (k := 79790) (n := 525844) (by omega) (by omega) ?_
                                                                                                                                                                                    exact W.zret (ty := .boolean) hx hb hr (by decide) (fun u hu _ => ⟨rfl, by rw [hu]; exact hS.1, fun q hq => by rw [hu]; exact hS.2.1 q (by omega) (Nat.not_le.mpr hq)⟩) hS.2.2 dL_days_981
                                                                                                                                                                                  · have hf := ifp h319 hf
                                                                                                                                                                                    refine lv_aload_n hx hb dL_days_932 rfl (lv_at hl 0 rfl) ?_
                                                                                                                                                                                    refine lv_iconst (v := 0) hx hb dL_days_933 (by decide) ?_
                                                                                                                                                                                    obtain ⟨y320, σ322, u321, hf⟩ := bn2_e hf
                                                                                                                                                                                    refine lVXn (n := 1) (As := [.int 0]) (rest := []) (c_X4_pullDown l hfl D t b σ315 0 (.inr (y320, σ322)) u321) hx hb hml hown hts hE hsub hW hS q582 q583 q584 q34 q585 hy_X4_pullDown ⟨rfl, rfl⟩ ⟨Nat.le_of_ble_eq_true rfl, Nat.le_of_ble_eq_true rfl⟩ rfl rfl hl.1 (Nat.le_of_ble_eq_true rfl) ⟨show 46497 + 1 ≤ 79790 by omega, show 290758 + 6 ≤ 525844 by omega⟩ dL_days_934 (fun H locs hW hS _ => ?_)
                                                                                                                                                                                    refine W.widen (k := 46498) (n := 290764) (by omega) (by omega) ?_
                                                                                                                                                                                    refine lv_iconst (v := 4) hx hb dL_days_937 (by decide) ?_
                                                                                                                                                                                    refine lv_icmp_ne (tgt := 980) hx hb dL_days_938 (by decide) (fun h323 => ?_) (fun h323 => ?_)
                                                                                                                                                                                    · have hf := ifn h323 hf
                                                                                                                                                                                      refine lv_iconst (v := 0) hx hb dL_days_980 (by decide) ?_
                                                                                                                                                                                      cases hf
                                                                                                                                                                                      refine W.widen (k := 79790) (n := 525844) (by omega) (by omega) ?_
                                                                                                                                                                                      exact W.zret (ty := .boolean) hx hb hr (by decide) (fun u hu _ => ⟨rfl, by rw [hu]; exact hS.1, fun q hq => by rw [hu]; exact hS.2.1 q (by omega) (Nat.not_le.mpr hq)⟩) hS.2.2 dL_days_981
                                                                                                                                                                                    · have hf := ifp h323 hf
                                                                                                                                                                                      refine lv_aload_n hx hb dL_days_941 rfl (lv_at hl 0 rfl) ?_
                                                                                                                                                                                      refine lv_iconst (v := 1) hx hb dL_days_942 (by decide) ?_
                                                                                                                                                                                      obtain ⟨y324, u325, hf⟩ := bn1_e hf
                                                                                                                                                                                      refine lVXn (n := 1) (As := [.int 1]) (rest := []) (c_X4_stallOn l hfl D t b σ322 1 (.inr y324) u325) hx hb hml hown hts hE hsub hW hS q805 q806 q807 q34 q808 hy_X4_stallOn ⟨rfl, rfl⟩ ⟨Nat.le_of_ble_eq_true rfl, Nat.le_of_ble_eq_true rfl⟩ rfl rfl hl.1 (Nat.le_of_ble_eq_true rfl) ⟨show 46498 + 1 ≤ 79790 by omega, show 290764 + 6 ≤ 525844 by omega⟩ dL_days_943 (fun H locs hW hS _ => ?_)
                                                                                                                                                                                      refine W.widen (k := 46499) (n := 290770) (by omega) (by omega) ?_
                                                                                                                                                                                      refine lv_if_ne (tgt := 980) hx hb dL_days_946 (by decide) (fun h326 => ?_) (fun h326 => ?_)
                                                                                                                                                                                      · have hf := ifn h326 hf
                                                                                                                                                                                        refine lv_iconst (v := 0) hx hb dL_days_980 (by decide) ?_
                                                                                                                                                                                        cases hf
                                                                                                                                                                                        refine W.widen (k := 79790) (n := 525844) (by omega) (by omega) ?_
                                                                                                                                                                                        exact W.zret (ty := .boolean) hx hb hr (by decide) (fun u hu _ => ⟨rfl, by rw [hu]; exact hS.1, fun q hq => by rw [hu]; exact hS.2.1 q (by omega) (Nat.not_le.mpr hq)⟩) hS.2.2 dL_days_981
                                                                                                                                                                                      · have hf := ifp h326 hf
                                                                                                                                                                                        refine lv_aload_n hx hb dL_days_949 rfl (lv_at hl 0 rfl) ?_
                                                                                                                                                                                        obtain ⟨y327, u328, hf⟩ := b1_e hf
                                                                                                                                                                                        refine lV (n := 0) (As := []) (rest := []) (c_X4_plays l D t b σ322 y327 u328) hx hb hml hown hts hE hsub hW hS q961 q962 q963 q34 q964 hy_X4_plays ⟨rfl, rfl⟩ ⟨Nat.le_of_ble_eq_true rfl, Nat.le_of_ble_eq_true rfl⟩ rfl rfl hl.1 (Nat.le_of_ble_eq_true rfl) ⟨show 46499 ≤ 79790 by omega, show 290770 ≤ 525844 by omega⟩ dL_days_950 (fun H locs hW hS _ => ?_)
                                                                                                                                                                                        refine lv_bipush (v := 8) hx hb dL_days_953 (by decide) ?_
                                                                                                                                                                                        refine lv_icmp_ne (tgt := 980) hx hb dL_days_955 (by decide) (fun h329 => ?_) (fun h329 => ?_)
                                                                                                                                                                                        · have hf := ifn h329 hf
                                                                                                                                                                                          refine lv_iconst (v := 0) hx hb dL_days_980 (by decide) ?_
                                                                                                                                                                                          cases hf
                                                                                                                                                                                          refine W.widen (k := 79790) (n := 525844) (by omega) (by omega) ?_
                                                                                                                                                                                          exact W.zret (ty := .boolean) hx hb hr (by decide) (fun u hu _ => ⟨rfl, by rw [hu]; exact hS.1, fun q hq => by rw [hu]; exact hS.2.1 q (by omega) (Nat.not_le.mpr hq)⟩) hS.2.2 dL_days_981
                                                                                                                                                                                        · have hf := ifp h329 hf
                                                                                                                                                                                          obtain ⟨y330, u331, hf⟩ := b1_e hf
                                                                                                                                                                                          refine lMkW (b0 := b) (c_L_games l hfl D t H.size y330 u331) hx hb hml hown hts hE hEC rfl (by rw [← hz0]; exact hS.1) hW hS q1037 q1038 q33  q1039 hs_L_games ⟨rfl, rfl⟩ ⟨Nat.le_of_ble_eq_true rfl, Nat.le_of_ble_eq_true rfl⟩ rfl hl.1 (Nat.le_of_ble_eq_true rfl) ⟨show 46499 + 362 ≤ 79790 by omega, show 290770 + 13948 ≤ 525844 by omega⟩ dL_days_958 (fun H locs hW hS => ?_)
                                                                                                                                                                                          refine W.widen (k := 46861) (n := 304718) (by omega) (by omega) ?_
                                                                                                                                                                                          refine lv_if_eq (tgt := 980) hx hb dL_days_961 (by decide) (fun h332 => ?_) (fun h332 => ?_)
                                                                                                                                                                                          · have hf := ifp h332 hf
                                                                                                                                                                                            refine lv_iconst (v := 0) hx hb dL_days_980 (by decide) ?_
                                                                                                                                                                                            cases hf
                                                                                                                                                                                            refine W.widen (k := 79790) (n := 525844) (by omega) (by omega) ?_
                                                                                                                                                                                            exact W.zret (ty := .boolean) hx hb hr (by decide) (fun u hu _ => ⟨rfl, by rw [hu]; exact hS.1, fun q hq => by rw [hu]; exact hS.2.1 q (by omega) (Nat.not_le.mpr hq)⟩) hS.2.2 dL_days_981
                                                                                                                                                                                          · have hf := ifn h332 hf
                                                                                                                                                                                            obtain ⟨y333, u334, hf⟩ := b1_e hf
                                                                                                                                                                                            refine lMkW (b0 := b) (c_L_walks l hfl D t H.size y333 u334) hx hb hml hown hts hE hEC rfl (by rw [← hz0]; exact hS.1) hW hS q1048 q1049 q33  q1050 hs_L_walks ⟨rfl, rfl⟩ ⟨Nat.le_of_ble_eq_true rfl, Nat.le_of_ble_eq_true rfl⟩ rfl hl.1 (Nat.le_of_ble_eq_true rfl) ⟨show 46861 + 15647 ≤ 79790 by omega, show 304718 + 105658 ≤ 525844 by omega⟩ dL_days_964 (fun H locs hW hS => ?_)
                                                                                                                                                                                            refine W.widen (k := 62508) (n := 410376) (by omega) (by omega) ?_
                                                                                                                                                                                            refine lv_if_eq (tgt := 980) hx hb dL_days_967 (by decide) (fun h335 => ?_) (fun h335 => ?_)
                                                                                                                                                                                            · have hf := ifp h335 hf
                                                                                                                                                                                              refine lv_iconst (v := 0) hx hb dL_days_980 (by decide) ?_
                                                                                                                                                                                              cases hf
                                                                                                                                                                                              refine W.widen (k := 79790) (n := 525844) (by omega) (by omega) ?_
                                                                                                                                                                                              exact W.zret (ty := .boolean) hx hb hr (by decide) (fun u hu _ => ⟨rfl, by rw [hu]; exact hS.1, fun q hq => by rw [hu]; exact hS.2.1 q (by omega) (Nat.not_le.mpr hq)⟩) hS.2.2 dL_days_981
                                                                                                                                                                                            · have hf := ifn h335 hf
                                                                                                                                                                                              obtain ⟨y336, u337, hf⟩ := b1_e hf
                                                                                                                                                                                              refine lMkW (b0 := b) (c_L_limits l hfl D t H.size y336 u337) hx hb hml hown hts hE hEC rfl (by rw [← hz0]; exact hS.1) hW hS q1056 q1057 q33  q1058 hs_L_limits ⟨rfl, rfl⟩ ⟨Nat.le_of_ble_eq_true rfl, Nat.le_of_ble_eq_true rfl⟩ rfl hl.1 (Nat.le_of_ble_eq_true rfl) ⟨show 62508 + 17282 ≤ 79790 by omega, show 410376 + 115468 ≤ 525844 by omega⟩ dL_days_970 (fun H locs hW hS => ?_)
                                                                                                                                                                                              refine W.widen (k := 79790) (n := 525844) (by omega) (by omega) ?_
                                                                                                                                                                                              refine lv_if_eq (tgt := 980) hx hb dL_days_973 (by decide) (fun h338 => ?_) (fun h338 => ?_)
                                                                                                                                                                                              · have hf := ifp h338 hf
                                                                                                                                                                                                refine lv_iconst (v := 0) hx hb dL_days_980 (by decide) ?_
                                                                                                                                                                                                cases hf
                                                                                                                                                                                                refine W.widen (k := 79790) (n := 525844) (by omega) (by omega) ?_
                                                                                                                                                                                                exact W.zret (ty := .boolean) hx hb hr (by decide) (fun u hu _ => ⟨rfl, by rw [hu]; exact hS.1, fun q hq => by rw [hu]; exact hS.2.1 q (by omega) (Nat.not_le.mpr hq)⟩) hS.2.2 dL_days_981
                                                                                                                                                                                              · have hf := ifn h338 hf
                                                                                                                                                                                                refine lv_iconst (v := 1) hx hb dL_days_976 (by decide) ?_
                                                                                                                                                                                                refine lv_goto (tgt := 981) hx hb dL_days_977 (by decide) ?_
                                                                                                                                                                                                cases hf
                                                                                                                                                                                                refine W.widen (k := 79790) (n := 525844) (by omega) (by omega) ?_
                                                                                                                                                                                                exact W.zret (ty := .boolean) hx hb hr (by decide) (fun u hu _ => ⟨rfl, by rw [hu]; exact hS.1, fun q hq => by rw [hu]; exact hS.2.1 q (by omega) (Nat.not_le.mpr hq)⟩) hS.2.2 dL_days_981
                                                                                                                                                              · have hf := ifp h284 hf
                                                                                                                                                                refine lv_iconst (v := 0) hx hb dL_days_839 (by decide) ?_
                                                                                                                                                                cases hf
                                                                                                                                                                refine W.widen (k := 79790) (n := 525844) (by omega) (by omega) ?_
                                                                                                                                                                exact W.zret (ty := .boolean) hx hb hr (by decide) (fun u hu _ => ⟨rfl, by rw [hu]; exact hS.1, fun q hq => by rw [hu]; exact hS.2.1 q (by omega) (Nat.not_le.mpr hq)⟩) hS.2.2 dL_days_840
                                                                  · have hf := ifn h119 hf
                                                                    refine lv_iconst (v := 0) hx hb dL_days_358 (by decide) ?_
                                                                    cases hf
                                                                    refine W.widen (k := 79790) (n := 525844) (by omega) (by omega) ?_
                                                                    exact W.zret (ty := .boolean) hx hb hr (by decide) (fun u hu _ => ⟨rfl, by rw [hu]; exact hS.1, fun q hq => by rw [hu]; exact hS.2.1 q (by omega) (Nat.not_le.mpr hq)⟩) hS.2.2 dL_days_359

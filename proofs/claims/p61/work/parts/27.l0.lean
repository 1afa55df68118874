set_option maxRecDepth 100000 in
def f_L_part (p0 : Int32) (p1 : Int32) : Option Int32 := nz p1 (some ((p0 &&& 2147483647) - (p0 &&& 2147483647) / p1 * p1))
set_option maxHeartbeats 8000000 in
set_option maxRecDepth 100000 in
theorem c_L_part (l : Launch) (D : va_G) (t : Nat → ClassId) (b : Nat) (σ : Sg) (p0 : Int32) (p1 : Int32) (r : Int32) (hf : f_L_part p0 p1 = some r) : Met l yL_part (Cond.code yL_part cL_part 2 (some .int) :: ALL) ({ frames := 0, cells := 0, slots := 0, locals := 0 }) (PM D t b σ [.int p0, .int p1]) (QG D t b σ (some (.int r))) 0 0 (geA b) := by
  refine Met.ofW (cc := cL_part) (maxL := 2) (ret := (some .int)) (by decide) rfl ?_
  intro p e s m args below meth c s₁ B hml hv
  obtain ⟨rfl, hW, hE⟩ := hv
  have hE : EVA D t (geA b) s := hE
  have hsub : ∀ q, geA b q → geA b q := fun _ h => h
  have hx := B.exec
  have hb := B.bytes
  have hr := B.returns
  have hts := atoms_spec (ws := Cond.code yL_part cL_part 2 (some .int) :: ALL) B.pre
  have hta := fun w h => hts w (List.mem_cons_of_mem _ h)
  have hown : s.vm.findClass RL = some m.cls := findClass_of_methodNamed B.named
  have hlocks := B.notSynchronized
  have hS : va_S (geA b) s.heap s.heap [] := va_S.rf
  have hl := lv_entry ([.int p0, .int p1]) (n := 2) (Nat.le_of_ble_eq_true rfl)
  rw [lg_entry_eq]
  generalize (lg_sl ([.int p0, .int p1]) ++ List.replicate (2 - (lg_sl ([.int p0, .int p1])).length) Slot.unset).toArray = ls at hl ⊢
  have hl : lv_has ls 2 [(0, .int p0), (1, .int p1)] := hl
  unfold f_L_part at hf
  refine lv_iload_n hx hb dL_part_0 rfl (lv_at hl 0 rfl) ?_
  refine lv_ldc hx hb hown (hta _ q568) dL_part_1 ?_
  refine lv_iand hx hb dL_part_3 ?_
  refine lv_iload_n hx hb dL_part_4 rfl (lv_at hl 1 rfl) ?_
  obtain ⟨g1, hf⟩ := nz_e hf
  refine lv_irem hx hb dL_part_5 g1 ?_
  cases hf
  refine W.widen (k := 0) (n := 0) (by omega) (by omega) ?_
  exact W.iret hx hb hr (fun u hu _ => ⟨⟨rfl, by rw [hu]; exact hW⟩, hS.F hu⟩) hS.2.2 dL_part_6
set_option maxRecDepth 100000 in
def f_L_far (p0 : Int32) (p1 : Int32) (p2 : Int32) : Option Int32 := if p0 = 0 then (some (p1 - 1)) else (if p0 = 1 then (some (p2 + 1)) else (if p0 = 2 then (some (-2147483648)) else (some 2147483647)))
set_option maxHeartbeats 8000000 in
set_option maxRecDepth 100000 in
theorem c_L_far (l : Launch) (D : va_G) (t : Nat → ClassId) (b : Nat) (σ : Sg) (p0 : Int32) (p1 : Int32) (p2 : Int32) (r : Int32) (hf : f_L_far p0 p1 p2 = some r) : Met l yL_far (Cond.code yL_far cL_far 3 (some .int) :: ALL) ({ frames := 0, cells := 0, slots := 0, locals := 0 }) (PM D t b σ [.int p0, .int p1, .int p2]) (QG D t b σ (some (.int r))) 0 0 (geA b) := by
  refine Met.ofW (cc := cL_far) (maxL := 3) (ret := (some .int)) (by decide) rfl ?_
  intro p e s m args below meth c s₁ B hml hv
  obtain ⟨rfl, hW, hE⟩ := hv
  have hE : EVA D t (geA b) s := hE
  have hsub : ∀ q, geA b q → geA b q := fun _ h => h
  have hx := B.exec
  have hb := B.bytes
  have hr := B.returns
  have hts := atoms_spec (ws := Cond.code yL_far cL_far 3 (some .int) :: ALL) B.pre
  have hta := fun w h => hts w (List.mem_cons_of_mem _ h)
  have hown : s.vm.findClass RL = some m.cls := findClass_of_methodNamed B.named
  have hlocks := B.notSynchronized
  have hS : va_S (geA b) s.heap s.heap [] := va_S.rf
  have hl := lv_entry ([.int p0, .int p1, .int p2]) (n := 3) (Nat.le_of_ble_eq_true rfl)
  rw [lg_entry_eq]
  generalize (lg_sl ([.int p0, .int p1, .int p2]) ++ List.replicate (3 - (lg_sl ([.int p0, .int p1, .int p2])).length) Slot.unset).toArray = ls at hl ⊢
  have hl : lv_has ls 3 [(0, .int p0), (1, .int p1), (2, .int p2)] := hl
  unfold f_L_far at hf
  refine lv_iload_n hx hb dL_far_0 rfl (lv_at hl 0 rfl) ?_
  refine lv_if_ne (tgt := 10) hx hb dL_far_1 (by decide) (fun h1 => ?_) (fun h1 => ?_)
  · have hf := ifn h1 hf
    refine lv_iload_n hx hb dL_far_10 rfl (lv_at hl 0 rfl) ?_
    refine lv_iconst (v := 1) hx hb dL_far_11 (by decide) ?_
    refine lv_icmp_ne (tgt := 21) hx hb dL_far_12 (by decide) (fun h2 => ?_) (fun h2 => ?_)
    · have hf := ifn h2 hf
      refine lv_iload_n hx hb dL_far_21 rfl (lv_at hl 0 rfl) ?_
      refine lv_iconst (v := 2) hx hb dL_far_22 (by decide) ?_
      refine lv_icmp_ne (tgt := 31) hx hb dL_far_23 (by decide) (fun h3 => ?_) (fun h3 => ?_)
      · have hf := ifn h3 hf
        refine lv_ldc hx hb hown (hta _ q568) dL_far_31 ?_
        cases hf
        refine W.widen (k := 0) (n := 0) (by omega) (by omega) ?_
        exact W.iret hx hb hr (fun u hu _ => ⟨⟨rfl, by rw [hu]; exact hW⟩, hS.F hu⟩) hS.2.2 dL_far_33
      · have hf := ifp h3 hf
        refine lv_ldc hx hb hown (hta _ q990) dL_far_26 ?_
        refine lv_goto (tgt := 33) hx hb dL_far_28 (by decide) ?_
        cases hf
        refine W.widen (k := 0) (n := 0) (by omega) (by omega) ?_
        exact W.iret hx hb hr (fun u hu _ => ⟨⟨rfl, by rw [hu]; exact hW⟩, hS.F hu⟩) hS.2.2 dL_far_33
    · have hf := ifp h2 hf
      refine lv_iload_n hx hb dL_far_15 rfl (lv_at hl 2 rfl) ?_
      refine lv_iconst (v := 1) hx hb dL_far_16 (by decide) ?_
      refine lv_iadd hx hb dL_far_17 ?_
      refine lv_goto (tgt := 33) hx hb dL_far_18 (by decide) ?_
      cases hf
      refine W.widen (k := 0) (n := 0) (by omega) (by omega) ?_
      exact W.iret hx hb hr (fun u hu _ => ⟨⟨rfl, by rw [hu]; exact hW⟩, hS.F hu⟩) hS.2.2 dL_far_33
  · have hf := ifp h1 hf
    refine lv_iload_n hx hb dL_far_4 rfl (lv_at hl 1 rfl) ?_
    refine lv_iconst (v := 1) hx hb dL_far_5 (by decide) ?_
    refine lv_isub hx hb dL_far_6 ?_
    refine lv_goto (tgt := 33) hx hb dL_far_7 (by decide) ?_
    cases hf
    refine W.widen (k := 0) (n := 0) (by omega) (by omega) ?_
    exact W.iret hx hb hr (fun u hu _ => ⟨⟨rfl, by rw [hu]; exact hW⟩, hS.F hu⟩) hS.2.2 dL_far_33
set_option maxRecDepth 100000 in
def f_L_act (σ : Sg) (p1 : Int32) (p2 : Int32) (p3 : Int32) (p4 : Int32) (p5 : Int32) : Option ((Nat × Sg) ⊕ (Int32 × Sg)) := if p1 = 0 then (if p5 = 1 then (bt2 σ (f_X4_build σ p2 p3 p4 1) fun y3 σ6 => some (.inr (y3, σ6))) else (bt2 σ (f_X4_build σ p2 p3 p4 0) fun y7 σ10 => some (.inr (y7, σ10)))) else (if p1 = 1 then (bt2 σ (f_X4_pullDown σ p2) fun y12 σ15 => some (.inr (y12, σ15))) else (if p1 = 2 then (bt2 σ (f_X4_setPrice σ p2 p3) fun y17 σ20 => some (.inr (y17, σ20))) else (if p1 = 3 then (bt2 σ (f_X4_turnStall σ p2) fun y22 σ25 => if y22 = 0 then (some (.inr (0, σ25))) else (some (.inr (1, σ25)))) else (if p1 = 4 then (bt2 σ (f_X4_restock σ p2 p3 p4 p5) fun y28 σ31 => some (.inr (y28, σ31))) else (if p1 = 5 then (bt2 σ (f_X4_fund σ p2 p3) fun y33 σ36 => some (.inr (y33, σ36))) else (if p1 = 6 then (bt2 σ (f_X4_collect σ p2) fun y38 σ41 => some (.inr (y38, σ41))) else (if p1 = 7 then (bt2 σ (f_X4_come σ p2 p3 p4) fun y43 σ46 => some (.inr (y43, σ46))) else (if p1 = 8 then (bt2 σ (f_X4_setRain σ p2 p3) fun y48 σ51 => some (.inr (y48, σ51))) else (if p1 = 9 then (bt2 σ (f_X4_pass σ p2) fun y53 σ56 => some (.inr (y53, σ56))) else (if p1 = 10 then (bt2 σ (f_X4_undo σ) fun y58 σ61 => some (.inr (y58, σ61))) else (bt2 σ (f_X4_restoreSnapshot σ) fun y62 σ65 => some (.inr (y62, σ65)))))))))))))
set_option maxHeartbeats 8000000 in
set_option maxRecDepth 100000 in
theorem c_L_act (l : Launch) (hfl : l.stackTraces = false) (D : va_G) (t : Nat → ClassId) (b : Nat) (σ : Sg) (p1 : Int32) (p2 : Int32) (p3 : Int32) (p4 : Int32) (p5 : Int32) (r : ((Nat × Sg) ⊕ (Int32 × Sg))) (hf : f_L_act σ p1 p2 p3 p4 p5 = some r) : vx_Met l yL_act (Cond.code yL_act cL_act 6 (some .int) :: ALL) ({ frames := 9, cells := 4, slots := 24, locals := 149 }) (PM D t b σ [.ref (b + 0), .int p1, .int p2, .int p3, .int p4, .int p5]) (QX D t b (Sum.map id (fun y => (some (.int y.1), y.2)) r)) (XX D t b (Sum.map id (fun y => (some (.int y.1), y.2)) r)) 4 24 (geA b) := by
  refine vx_ofW (cc := cL_act) (maxL := 6) (ret := (some .int)) (by decide) rfl ?_
  intro p e s m args below meth c s₁ B hml htab hv
  obtain ⟨rfl, hW, hE⟩ := hv
  have hE : EVA D t (geA b) s := hE
  have hsub : ∀ q, geA b q → geA b q := fun _ h => h
  have hx := B.exec
  have hb := B.bytes
  have hr := B.returns
  have hts := atoms_spec (ws := Cond.code yL_act cL_act 6 (some .int) :: ALL) B.pre
  have hta := fun w h => hts w (List.mem_cons_of_mem _ h)
  have hown : s.vm.findClass RL = some m.cls := findClass_of_methodNamed B.named
  have hlocks := B.notSynchronized
  have hS : va_S (geA b) s.heap s.heap [] := va_S.rf
  have hl := lv_entry ([.ref (b + 0), .int p1, .int p2, .int p3, .int p4, .int p5]) (n := 6) (Nat.le_of_ble_eq_true rfl)
  rw [lg_entry_eq]
  generalize (lg_sl ([.ref (b + 0), .int p1, .int p2, .int p3, .int p4, .int p5]) ++ List.replicate (6 - (lg_sl ([.ref (b + 0), .int p1, .int p2, .int p3, .int p4, .int p5])).length) Slot.unset).toArray = ls at hl ⊢
  have hl : lv_has ls 6 [(0, .ref (b + 0)), (1, .int p1), (2, .int p2), (3, .int p3), (4, .int p4), (5, .int p5)] := hl
  unfold f_L_act at hf
  refine lv_iload_n hx hb dL_act_0 rfl (lv_at hl 1 rfl) ?_
  refine lv_if_ne (tgt := 26) hx hb dL_act_1 (by decide) (fun h1 => ?_) (fun h1 => ?_)
  · have hf := ifn h1 hf
    refine lv_iload_n hx hb dL_act_26 rfl (lv_at hl 1 rfl) ?_
    refine lv_iconst (v := 1) hx hb dL_act_27 (by decide) ?_
    refine lv_icmp_ne (tgt := 39) hx hb dL_act_28 (by decide) (fun h11 => ?_) (fun h11 => ?_)
    · have hf := ifn h11 hf
      refine lv_iload_n hx hb dL_act_39 rfl (lv_at hl 1 rfl) ?_
      refine lv_iconst (v := 2) hx hb dL_act_40 (by decide) ?_
      refine lv_icmp_ne (tgt := 53) hx hb dL_act_41 (by decide) (fun h16 => ?_) (fun h16 => ?_)
      · have hf := ifn h16 hf
        refine lv_iload_n hx hb dL_act_53 rfl (lv_at hl 1 rfl) ?_
        refine lv_iconst (v := 3) hx hb dL_act_54 (by decide) ?_
        refine lv_icmp_ne (tgt := 74) hx hb dL_act_55 (by decide) (fun h21 => ?_) (fun h21 => ?_)
        · have hf := ifn h21 hf
          refine lv_iload_n hx hb dL_act_74 rfl (lv_at hl 1 rfl) ?_
          refine lv_iconst (v := 4) hx hb dL_act_75 (by decide) ?_
          refine lv_icmp_ne (tgt := 92) hx hb dL_act_76 (by decide) (fun h27 => ?_) (fun h27 => ?_)
          · have hf := ifn h27 hf
            refine lv_iload_n hx hb dL_act_92 rfl (lv_at hl 1 rfl) ?_
            refine lv_iconst (v := 5) hx hb dL_act_93 (by decide) ?_
            refine lv_icmp_ne (tgt := 106) hx hb dL_act_94 (by decide) (fun h32 => ?_) (fun h32 => ?_)
            · have hf := ifn h32 hf
              refine lv_iload_n hx hb dL_act_106 rfl (lv_at hl 1 rfl) ?_
              refine lv_bipush (v := 6) hx hb dL_act_107 (by decide) ?_
              refine lv_icmp_ne (tgt := 120) hx hb dL_act_109 (by decide) (fun h37 => ?_) (fun h37 => ?_)
              · have hf := ifn h37 hf
                refine lv_iload_n hx hb dL_act_120 rfl (lv_at hl 1 rfl) ?_
                refine lv_bipush (v := 7) hx hb dL_act_121 (by decide) ?_
                refine lv_icmp_ne (tgt := 137) hx hb dL_act_123 (by decide) (fun h42 => ?_) (fun h42 => ?_)
                · have hf := ifn h42 hf
                  refine lv_iload_n hx hb dL_act_137 rfl (lv_at hl 1 rfl) ?_
                  refine lv_bipush (v := 8) hx hb dL_act_138 (by decide) ?_
                  refine lv_icmp_ne (tgt := 152) hx hb dL_act_140 (by decide) (fun h47 => ?_) (fun h47 => ?_)
                  · have hf := ifn h47 hf
                    refine lv_iload_n hx hb dL_act_152 rfl (lv_at hl 1 rfl) ?_
                    refine lv_bipush (v := 9) hx hb dL_act_153 (by decide) ?_
                    refine lv_icmp_ne (tgt := 166) hx hb dL_act_155 (by decide) (fun h52 => ?_) (fun h52 => ?_)
                    · have hf := ifn h52 hf
                      refine lv_iload_n hx hb dL_act_166 rfl (lv_at hl 1 rfl) ?_
                      refine lv_bipush (v := 10) hx hb dL_act_167 (by decide) ?_
                      refine lv_icmp_ne (tgt := 179) hx hb dL_act_169 (by decide) (fun h57 => ?_) (fun h57 => ?_)
                      · have hf := ifn h57 hf
                        refine lv_aload_n hx hb dL_act_179 rfl (lv_at hl 0 rfl) ?_
                        rcases bt2_e hf with ⟨k64, u63, hf⟩ | ⟨y62, σ65, u63, hf⟩
                        · subst hf
                          refine lVXt (n := 0) (As := []) (rest := []) (c_X4_restoreSnapshot l hfl D t b σ (.inl k64) u63) hx hb hml hown hts hE hsub hW hS q556 q557 q558 q34 q559 hy_X4_restoreSnapshot ⟨rfl, rfl⟩ ⟨Nat.le_of_ble_eq_true rfl, Nat.le_of_ble_eq_true rfl⟩ rfl rfl hl.1 (Nat.le_of_ble_eq_true rfl) ⟨show 0 + 1 ≤ 4 by omega, show 0 + 6 ≤ 24 by omega⟩ dL_act_180 htab hlocks ⟨show 0 + 1 ≤ 4 by omega, show 0 + 6 ≤ 24 by omega⟩
                        · refine lVXn (n := 0) (As := []) (rest := []) (c_X4_restoreSnapshot l hfl D t b σ (.inr (y62, σ65)) u63) hx hb hml hown hts hE hsub hW hS q556 q557 q558 q34 q559 hy_X4_restoreSnapshot ⟨rfl, rfl⟩ ⟨Nat.le_of_ble_eq_true rfl, Nat.le_of_ble_eq_true rfl⟩ rfl rfl hl.1 (Nat.le_of_ble_eq_true rfl) ⟨show 0 + 1 ≤ 4 by omega, show 0 + 6 ≤ 24 by omega⟩ dL_act_180 (fun H locs hW hS _ => ?_)
                          refine W.widen (k := 1) (n := 6) (by omega) (by omega) ?_
                          cases hf
                          refine vx_ret ?_
                          refine W.widen (k := 4) (n := 24) (by omega) (by omega) ?_
                          exact W.iret hx hb hr (fun u hu _ => ⟨_, _, rfl, ⟨rfl, by rw [hu]; exact hW⟩, hS.F hu⟩) hS.2.2 dL_act_183
                      · have hf := ifp h57 hf
                        refine lv_aload_n hx hb dL_act_172 rfl (lv_at hl 0 rfl) ?_
                        rcases bt2_e hf with ⟨k60, u59, hf⟩ | ⟨y58, σ61, u59, hf⟩
                        · subst hf
                          refine lVXt (n := 0) (As := []) (rest := []) (c_X4_undo l hfl D t b σ (.inl k60) u59) hx hb hml hown hts hE hsub hW hS q547 q548 q549 q34 q550 hy_X4_undo ⟨rfl, rfl⟩ ⟨Nat.le_of_ble_eq_true rfl, Nat.le_of_ble_eq_true rfl⟩ rfl rfl hl.1 (Nat.le_of_ble_eq_true rfl) ⟨show 0 + 1 ≤ 4 by omega, show 0 + 6 ≤ 24 by omega⟩ dL_act_173 htab hlocks ⟨show 0 + 1 ≤ 4 by omega, show 0 + 6 ≤ 24 by omega⟩
                        · refine lVXn (n := 0) (As := []) (rest := []) (c_X4_undo l hfl D t b σ (.inr (y58, σ61)) u59) hx hb hml hown hts hE hsub hW hS q547 q548 q549 q34 q550 hy_X4_undo ⟨rfl, rfl⟩ ⟨Nat.le_of_ble_eq_true rfl, Nat.le_of_ble_eq_true rfl⟩ rfl rfl hl.1 (Nat.le_of_ble_eq_true rfl) ⟨show 0 + 1 ≤ 4 by omega, show 0 + 6 ≤ 24 by omega⟩ dL_act_173 (fun H locs hW hS _ => ?_)
                          refine W.widen (k := 1) (n := 6) (by omega) (by omega) ?_
                          refine lv_goto (tgt := 183) hx hb dL_act_176 (by decide) ?_
                          cases hf
                          refine vx_ret ?_
                          refine W.widen (k := 4) (n := 24) (by omega) (by omega) ?_
                          exact W.iret hx hb hr (fun u hu _ => ⟨_, _, rfl, ⟨rfl, by rw [hu]; exact hW⟩, hS.F hu⟩) hS.2.2 dL_act_183
                    · have hf := ifp h52 hf
                      refine lv_aload_n hx hb dL_act_158 rfl (lv_at hl 0 rfl) ?_
                      refine lv_iload_n hx hb dL_act_159 rfl (lv_at hl 2 rfl) ?_
                      rcases bt2_e hf with ⟨k55, u54, hf⟩ | ⟨y53, σ56, u54, hf⟩
                      · subst hf
                        refine lVXt (n := 1) (As := [.int p2]) (rest := []) (c_X4_pass l hfl D t b σ p2 (.inl k55) u54) hx hb hml hown hts hE hsub hW hS q616 q617 q618 q34 q619 hy_X4_pass ⟨rfl, rfl⟩ ⟨Nat.le_of_ble_eq_true rfl, Nat.le_of_ble_eq_true rfl⟩ rfl rfl hl.1 (Nat.le_of_ble_eq_true rfl) ⟨show 0 + 1 ≤ 4 by omega, show 0 + 6 ≤ 24 by omega⟩ dL_act_160 htab hlocks ⟨show 0 + 1 ≤ 4 by omega, show 0 + 6 ≤ 24 by omega⟩
                      · refine lVXn (n := 1) (As := [.int p2]) (rest := []) (c_X4_pass l hfl D t b σ p2 (.inr (y53, σ56)) u54) hx hb hml hown hts hE hsub hW hS q616 q617 q618 q34 q619 hy_X4_pass ⟨rfl, rfl⟩ ⟨Nat.le_of_ble_eq_true rfl, Nat.le_of_ble_eq_true rfl⟩ rfl rfl hl.1 (Nat.le_of_ble_eq_true rfl) ⟨show 0 + 1 ≤ 4 by omega, show 0 + 6 ≤ 24 by omega⟩ dL_act_160 (fun H locs hW hS _ => ?_)
                        refine W.widen (k := 1) (n := 6) (by omega) (by omega) ?_
                        refine lv_goto (tgt := 183) hx hb dL_act_163 (by decide) ?_
                        cases hf
                        refine vx_ret ?_
                        refine W.widen (k := 4) (n := 24) (by omega) (by omega) ?_
                        exact W.iret hx hb hr (fun u hu _ => ⟨_, _, rfl, ⟨rfl, by rw [hu]; exact hW⟩, hS.F hu⟩) hS.2.2 dL_act_183
                  · have hf := ifp h47 hf
                    refine lv_aload_n hx hb dL_act_143 rfl (lv_at hl 0 rfl) ?_
                    refine lv_iload_n hx hb dL_act_144 rfl (lv_at hl 2 rfl) ?_
                    refine lv_iload_n hx hb dL_act_145 rfl (lv_at hl 3 rfl) ?_
                    rcases bt2_e hf with ⟨k50, u49, hf⟩ | ⟨y48, σ51, u49, hf⟩
                    · subst hf
                      refine lVXt (n := 2) (As := [.int p2, .int p3]) (rest := []) (c_X4_setRain l hfl D t b σ p2 p3 (.inl k50) u49) hx hb hml hown hts hE hsub hW hS q606 q607 q608 q34 q609 hy_X4_setRain ⟨rfl, rfl⟩ ⟨Nat.le_of_ble_eq_true rfl, Nat.le_of_ble_eq_true rfl⟩ rfl rfl hl.1 (Nat.le_of_ble_eq_true rfl) ⟨show 0 + 2 ≤ 4 by omega, show 0 + 12 ≤ 24 by omega⟩ dL_act_146 htab hlocks ⟨show 0 + 2 ≤ 4 by omega, show 0 + 12 ≤ 24 by omega⟩
                    · refine lVXn (n := 2) (As := [.int p2, .int p3]) (rest := []) (c_X4_setRain l hfl D t b σ p2 p3 (.inr (y48, σ51)) u49) hx hb hml hown hts hE hsub hW hS q606 q607 q608 q34 q609 hy_X4_setRain ⟨rfl, rfl⟩ ⟨Nat.le_of_ble_eq_true rfl, Nat.le_of_ble_eq_true rfl⟩ rfl rfl hl.1 (Nat.le_of_ble_eq_true rfl) ⟨show 0 + 2 ≤ 4 by omega, show 0 + 12 ≤ 24 by omega⟩ dL_act_146 (fun H locs hW hS _ => ?_)
                      refine W.widen (k := 2) (n := 12) (by omega) (by omega) ?_
                      refine lv_goto (tgt := 183) hx hb dL_act_149 (by decide) ?_
                      cases hf
                      refine vx_ret ?_
                      refine W.widen (k := 4) (n := 24) (by omega) (by omega) ?_
                      exact W.iret hx hb hr (fun u hu _ => ⟨_, _, rfl, ⟨rfl, by rw [hu]; exact hW⟩, hS.F hu⟩) hS.2.2 dL_act_183
                · have hf := ifp h42 hf
                  refine lv_aload_n hx hb dL_act_126 rfl (lv_at hl 0 rfl) ?_
                  refine lv_iload_n hx hb dL_act_127 rfl (lv_at hl 2 rfl) ?_
                  refine lv_iload_n hx hb dL_act_128 rfl (lv_at hl 3 rfl) ?_
                  refine lv_iload hx hb dL_act_129 (lv_at hl 4 rfl) ?_
                  rcases bt2_e hf with ⟨k45, u44, hf⟩ | ⟨y43, σ46, u44, hf⟩
                  · subst hf
                    refine lVXt (n := 3) (As := [.int p2, .int p3, .int p4]) (rest := []) (c_X4_come l hfl D t b σ p2 p3 p4 (.inl k45) u44) hx hb hml hown hts hE hsub hW hS q525 q526 q527 q34 q528 hy_X4_come ⟨rfl, rfl⟩ ⟨Nat.le_of_ble_eq_true rfl, Nat.le_of_ble_eq_true rfl⟩ rfl rfl hl.1 (Nat.le_of_ble_eq_true rfl) ⟨show 0 + 3 ≤ 4 by omega, show 0 + 18 ≤ 24 by omega⟩ dL_act_131 htab hlocks ⟨show 0 + 3 ≤ 4 by omega, show 0 + 18 ≤ 24 by omega⟩
                  · refine lVXn (n := 3) (As := [.int p2, .int p3, .int p4]) (rest := []) (c_X4_come l hfl D t b σ p2 p3 p4 (.inr (y43, σ46)) u44) hx hb hml hown hts hE hsub hW hS q525 q526 q527 q34 q528 hy_X4_come ⟨rfl, rfl⟩ ⟨Nat.le_of_ble_eq_true rfl, Nat.le_of_ble_eq_true rfl⟩ rfl rfl hl.1 (Nat.le_of_ble_eq_true rfl) ⟨show 0 + 3 ≤ 4 by omega, show 0 + 18 ≤ 24 by omega⟩ dL_act_131 (fun H locs hW hS _ => ?_)
                    refine W.widen (k := 3) (n := 18) (by omega) (by omega) ?_
                    refine lv_goto (tgt := 183) hx hb dL_act_134 (by decide) ?_
                    cases hf
                    refine vx_ret ?_
                    refine W.widen (k := 4) (n := 24) (by omega) (by omega) ?_
                    exact W.iret hx hb hr (fun u hu _ => ⟨_, _, rfl, ⟨rfl, by rw [hu]; exact hW⟩, hS.F hu⟩) hS.2.2 dL_act_183
              · have hf := ifp h37 hf
                refine lv_aload_n hx hb dL_act_112 rfl (lv_at hl 0 rfl) ?_
                refine lv_iload_n hx hb dL_act_113 rfl (lv_at hl 2 rfl) ?_
                rcases bt2_e hf with ⟨k40, u39, hf⟩ | ⟨y38, σ41, u39, hf⟩
                · subst hf
                  refine lVXt (n := 1) (As := [.int p2]) (rest := []) (c_X4_collect l hfl D t b σ p2 (.inl k40) u39) hx hb hml hown hts hE hsub hW hS q602 q603 q604 q34 q605 hy_X4_collect ⟨rfl, rfl⟩ ⟨Nat.le_of_ble_eq_true rfl, Nat.le_of_ble_eq_true rfl⟩ rfl rfl hl.1 (Nat.le_of_ble_eq_true rfl) ⟨show 0 + 1 ≤ 4 by omega, show 0 + 6 ≤ 24 by omega⟩ dL_act_114 htab hlocks ⟨show 0 + 1 ≤ 4 by omega, show 0 + 6 ≤ 24 by omega⟩
                · refine lVXn (n := 1) (As := [.int p2]) (rest := []) (c_X4_collect l hfl D t b σ p2 (.inr (y38, σ41)) u39) hx hb hml hown hts hE hsub hW hS q602 q603 q604 q34 q605 hy_X4_collect ⟨rfl, rfl⟩ ⟨Nat.le_of_ble_eq_true rfl, Nat.le_of_ble_eq_true rfl⟩ rfl rfl hl.1 (Nat.le_of_ble_eq_true rfl) ⟨show 0 + 1 ≤ 4 by omega, show 0 + 6 ≤ 24 by omega⟩ dL_act_114 (fun H locs hW hS _ => ?_)
                  refine W.widen (k := 1) (n := 6) (by omega) (by omega) ?_
                  refine lv_goto (tgt := 183) hx hb dL_act_117 (by decide) ?_
                  cases hf
                  refine vx_ret ?_
                  refine W.widen (k := 4) (n := 24) (by omega) (by omega) ?_
                  exact W.iret hx hb hr (fun u hu _ => ⟨_, _, rfl, ⟨rfl, by rw [hu]; exact hW⟩, hS.F hu⟩) hS.2.2 dL_act_183
            · have hf := ifp h32 hf
              refine lv_aload_n hx hb dL_act_97 rfl (lv_at hl 0 rfl) ?_
              refine lv_iload_n hx hb dL_act_98 rfl (lv_at hl 2 rfl) ?_
              refine lv_iload_n hx hb dL_act_99 rfl (lv_at hl 3 rfl) ?_
              rcases bt2_e hf with ⟨k35, u34, hf⟩ | ⟨y33, σ36, u34, hf⟩
              · subst hf
                refine lVXt (n := 2) (As := [.int p2, .int p3]) (rest := []) (c_X4_fund l hfl D t b σ p2 p3 (.inl k35) u34) hx hb hml hown hts hE hsub hW hS q511 q512 q513 q34 q514 hy_X4_fund ⟨rfl, rfl⟩ ⟨Nat.le_of_ble_eq_true rfl, Nat.le_of_ble_eq_true rfl⟩ rfl rfl hl.1 (Nat.le_of_ble_eq_true rfl) ⟨show 0 + 2 ≤ 4 by omega, show 0 + 12 ≤ 24 by omega⟩ dL_act_100 htab hlocks ⟨show 0 + 2 ≤ 4 by omega, show 0 + 12 ≤ 24 by omega⟩
              · refine lVXn (n := 2) (As := [.int p2, .int p3]) (rest := []) (c_X4_fund l hfl D t b σ p2 p3 (.inr (y33, σ36)) u34) hx hb hml hown hts hE hsub hW hS q511 q512 q513 q34 q514 hy_X4_fund ⟨rfl, rfl⟩ ⟨Nat.le_of_ble_eq_true rfl, Nat.le_of_ble_eq_true rfl⟩ rfl rfl hl.1 (Nat.le_of_ble_eq_true rfl) ⟨show 0 + 2 ≤ 4 by omega, show 0 + 12 ≤ 24 by omega⟩ dL_act_100 (fun H locs hW hS _ => ?_)
                refine W.widen (k := 2) (n := 12) (by omega) (by omega) ?_
                refine lv_goto (tgt := 183) hx hb dL_act_103 (by decide) ?_
                cases hf
                refine vx_ret ?_
                refine W.widen (k := 4) (n := 24) (by omega) (by omega) ?_
                exact W.iret hx hb hr (fun u hu _ => ⟨_, _, rfl, ⟨rfl, by rw [hu]; exact hW⟩, hS.F hu⟩) hS.2.2 dL_act_183
          · have hf := ifp h27 hf
            refine lv_aload_n hx hb dL_act_79 rfl (lv_at hl 0 rfl) ?_
            refine lv_iload_n hx hb dL_act_80 rfl (lv_at hl 2 rfl) ?_
            refine lv_iload_n hx hb dL_act_81 rfl (lv_at hl 3 rfl) ?_
            refine lv_iload hx hb dL_act_82 (lv_at hl 4 rfl) ?_
            refine lv_iload hx hb dL_act_84 (lv_at hl 5 rfl) ?_
            rcases bt2_e hf with ⟨k30, u29, hf⟩ | ⟨y28, σ31, u29, hf⟩
            · subst hf
              refine lVXt (n := 4) (As := [.int p2, .int p3, .int p4, .int p5]) (rest := []) (c_X4_restock l hfl D t b σ p2 p3 p4 p5 (.inl k30) u29) hx hb hml hown hts hE hsub hW hS q466 q467 q468 q34 q469 hy_X4_restock ⟨rfl, rfl⟩ ⟨Nat.le_of_ble_eq_true rfl, Nat.le_of_ble_eq_true rfl⟩ rfl rfl hl.1 (Nat.le_of_ble_eq_true rfl) ⟨show 0 + 4 ≤ 4 by omega, show 0 + 24 ≤ 24 by omega⟩ dL_act_86 htab hlocks ⟨show 0 + 4 ≤ 4 by omega, show 0 + 24 ≤ 24 by omega⟩
            · refine lVXn (n := 4) (As := [.int p2, .int p3, .int p4, .int p5]) (rest := []) (c_X4_restock l hfl D t b σ p2 p3 p4 p5 (.inr (y28, σ31)) u29) hx hb hml hown hts hE hsub hW hS q466 q467 q468 q34 q469 hy_X4_restock ⟨rfl, rfl⟩ ⟨Nat.le_of_ble_eq_true rfl, Nat.le_of_ble_eq_true rfl⟩ rfl rfl hl.1 (Nat.le_of_ble_eq_true rfl) ⟨show 0 + 4 ≤ 4 by omega, show 0 + 24 ≤ 24 by omega⟩ dL_act_86 (fun H locs hW hS _ => ?_)
              refine W.widen (k := 4) (n := 24) (by omega) (by omega) ?_
              refine lv_goto (tgt := 183) hx hb dL_act_89 (by decide) ?_
              cases hf
              refine vx_ret ?_
              refine W.widen (k := 4) (n := 24) (by omega) (by omega) ?_
              exact W.iret hx hb hr (fun u hu _ => ⟨_, _, rfl, ⟨rfl, by rw [hu]; exact hW⟩, hS.F hu⟩) hS.2.2 dL_act_183
        · have hf := ifp h21 hf
          refine lv_aload_n hx hb dL_act_58 rfl (lv_at hl 0 rfl) ?_
          refine lv_iload_n hx hb dL_act_59 rfl (lv_at hl 2 rfl) ?_
          rcases bt2_e hf with ⟨k24, u23, hf⟩ | ⟨y22, σ25, u23, hf⟩
          · subst hf
            refine lVXt (n := 1) (As := [.int p2]) (rest := []) (c_X4_turnStall l hfl D t b σ p2 (.inl k24) u23) hx hb hml hown hts hE hsub hW hS q598 q599 q600 q34 q601 hy_X4_turnStall ⟨rfl, rfl⟩ ⟨Nat.le_of_ble_eq_true rfl, Nat.le_of_ble_eq_true rfl⟩ rfl rfl hl.1 (Nat.le_of_ble_eq_true rfl) ⟨show 0 + 1 ≤ 4 by omega, show 0 + 6 ≤ 24 by omega⟩ dL_act_60 htab hlocks ⟨show 0 + 1 ≤ 4 by omega, show 0 + 6 ≤ 24 by omega⟩
          · refine lVXn (n := 1) (As := [.int p2]) (rest := []) (c_X4_turnStall l hfl D t b σ p2 (.inr (y22, σ25)) u23) hx hb hml hown hts hE hsub hW hS q598 q599 q600 q34 q601 hy_X4_turnStall ⟨rfl, rfl⟩ ⟨Nat.le_of_ble_eq_true rfl, Nat.le_of_ble_eq_true rfl⟩ rfl rfl hl.1 (Nat.le_of_ble_eq_true rfl) ⟨show 0 + 1 ≤ 4 by omega, show 0 + 6 ≤ 24 by omega⟩ dL_act_60 (fun H locs hW hS _ => ?_)
            refine W.widen (k := 1) (n := 6) (by omega) (by omega) ?_
            refine lv_if_eq (tgt := 70) hx hb dL_act_63 (by decide) (fun h26 => ?_) (fun h26 => ?_)
            · have hf := ifp h26 hf
              refine lv_iconst (v := 0) hx hb dL_act_70 (by decide) ?_
              refine lv_goto (tgt := 183) hx hb dL_act_71 (by decide) ?_
              cases hf
              refine vx_ret ?_
              refine W.widen (k := 4) (n := 24) (by omega) (by omega) ?_
              exact W.iret hx hb hr (fun u hu _ => ⟨_, _, rfl, ⟨rfl, by rw [hu]; exact hW⟩, hS.F hu⟩) hS.2.2 dL_act_183
            · have hf := ifn h26 hf
              refine lv_iconst (v := 1) hx hb dL_act_66 (by decide) ?_
              refine lv_goto (tgt := 183) hx hb dL_act_67 (by decide) ?_
              cases hf
              refine vx_ret ?_
              refine W.widen (k := 4) (n := 24) (by omega) (by omega) ?_
              exact W.iret hx hb hr (fun u hu _ => ⟨_, _, rfl, ⟨rfl, by rw [hu]; exact hW⟩, hS.F hu⟩) hS.2.2 dL_act_183
      · have hf := ifp h16 hf
        refine lv_aload_n hx hb dL_act_44 rfl (lv_at hl 0 rfl) ?_
        refine lv_iload_n hx hb dL_act_45 rfl (lv_at hl 2 rfl) ?_
        refine lv_iload_n hx hb dL_act_46 rfl (lv_at hl 3 rfl) ?_
        rcases bt2_e hf with ⟨k19, u18, hf⟩ | ⟨y17, σ20, u18, hf⟩
        · subst hf
          refine lVXt (n := 2) (As := [.int p2, .int p3]) (rest := []) (c_X4_setPrice l hfl D t b σ p2 p3 (.inl k19) u18) hx hb hml hown hts hE hsub hW hS q594 q595 q596 q34 q597 hy_X4_setPrice ⟨rfl, rfl⟩ ⟨Nat.le_of_ble_eq_true rfl, Nat.le_of_ble_eq_true rfl⟩ rfl rfl hl.1 (Nat.le_of_ble_eq_true rfl) ⟨show 0 + 2 ≤ 4 by omega, show 0 + 12 ≤ 24 by omega⟩ dL_act_47 htab hlocks ⟨show 0 + 2 ≤ 4 by omega, show 0 + 12 ≤ 24 by omega⟩
        · refine lVXn (n := 2) (As := [.int p2, .int p3]) (rest := []) (c_X4_setPrice l hfl D t b σ p2 p3 (.inr (y17, σ20)) u18) hx hb hml hown hts hE hsub hW hS q594 q595 q596 q34 q597 hy_X4_setPrice ⟨rfl, rfl⟩ ⟨Nat.le_of_ble_eq_true rfl, Nat.le_of_ble_eq_true rfl⟩ rfl rfl hl.1 (Nat.le_of_ble_eq_true rfl) ⟨show 0 + 2 ≤ 4 by omega, show 0 + 12 ≤ 24 by omega⟩ dL_act_47 (fun H locs hW hS _ => ?_)
          refine W.widen (k := 2) (n := 12) (by omega) (by omega) ?_
          refine lv_goto (tgt := 183) hx hb dL_act_50 (by decide) ?_
          cases hf
          refine vx_ret ?_
          refine W.widen (k := 4) (n := 24) (by omega) (by omega) ?_
          exact W.iret hx hb hr (fun u hu _ => ⟨_, _, rfl, ⟨rfl, by rw [hu]; exact hW⟩, hS.F hu⟩) hS.2.2 dL_act_183
    · have hf := ifp h11 hf
      refine lv_aload_n hx hb dL_act_31 rfl (lv_at hl 0 rfl) ?_
      refine lv_iload_n hx hb dL_act_32 rfl (lv_at hl 2 rfl) ?_
      rcases bt2_e hf with ⟨k14, u13, hf⟩ | ⟨y12, σ15, u13, hf⟩
      · subst hf
        refine lVXt (n := 1) (As := [.int p2]) (rest := []) (c_X4_pullDown l hfl D t b σ p2 (.inl k14) u13) hx hb hml hown hts hE hsub hW hS q582 q583 q584 q34 q585 hy_X4_pullDown ⟨rfl, rfl⟩ ⟨Nat.le_of_ble_eq_true rfl, Nat.le_of_ble_eq_true rfl⟩ rfl rfl hl.1 (Nat.le_of_ble_eq_true rfl) ⟨show 0 + 1 ≤ 4 by omega, show 0 + 6 ≤ 24 by omega⟩ dL_act_33 htab hlocks ⟨show 0 + 1 ≤ 4 by omega, show 0 + 6 ≤ 24 by omega⟩
      · refine lVXn (n := 1) (As := [.int p2]) (rest := []) (c_X4_pullDown l hfl D t b σ p2 (.inr (y12, σ15)) u13) hx hb hml hown hts hE hsub hW hS q582 q583 q584 q34 q585 hy_X4_pullDown ⟨rfl, rfl⟩ ⟨Nat.le_of_ble_eq_true rfl, Nat.le_of_ble_eq_true rfl⟩ rfl rfl hl.1 (Nat.le_of_ble_eq_true rfl) ⟨show 0 + 1 ≤ 4 by omega, show 0 + 6 ≤ 24 by omega⟩ dL_act_33 (fun H locs hW hS _ => ?_)
        refine W.widen (k := 1) (n := 6) (by omega) (by omega) ?_
        refine lv_goto (tgt := 183) hx hb dL_act_36 (by decide) ?_
        cases hf
        refine vx_ret ?_
        refine W.widen (k := 4) (n := 24) (by omega) (by omega) ?_
        exact W.iret hx hb hr (fun u hu _ => ⟨_, _, rfl, ⟨rfl, by rw [hu]; exact hW⟩, hS.F hu⟩) hS.2.2 dL_act_183
  · have hf := ifp h1 hf
    refine lv_aload_n hx hb dL_act_4 rfl (lv_at hl 0 rfl) ?_
    refine lv_iload_n hx hb dL_act_5 rfl (lv_at hl 2 rfl) ?_
    refine lv_iload_n hx hb dL_act_6 rfl (lv_at hl 3 rfl) ?_
    refine lv_iload hx hb dL_act_7 (lv_at hl 4 rfl) ?_
    refine lv_iload hx hb dL_act_9 (lv_at hl 5 rfl) ?_
    refine lv_iconst (v := 1) hx hb dL_act_11 (by decide) ?_
    refine lv_icmp_ne (tgt := 19) hx hb dL_act_12 (by decide) (fun h2 => ?_) (fun h2 => ?_)
    · have hf := ifn h2 hf
      refine lv_iconst (v := 0) hx hb dL_act_19 (by decide) ?_
      rcases bt2_e hf with ⟨k9, u8, hf⟩ | ⟨y7, σ10, u8, hf⟩
      · subst hf
        refine lVXt (n := 4) (As := [.int p2, .int p3, .int p4, .int 0]) (rest := []) (c_X4_build l hfl D t b σ p2 p3 p4 0 (.inl k9) u8) hx hb hml hown hts hE hsub hW hS q299 q300 q301 q34 q302 hy_X4_build ⟨rfl, rfl⟩ ⟨Nat.le_of_ble_eq_true rfl, Nat.le_of_ble_eq_true rfl⟩ rfl rfl hl.1 (Nat.le_of_ble_eq_true rfl) ⟨show 0 + 4 ≤ 4 by omega, show 0 + 24 ≤ 24 by omega⟩ dL_act_20 htab hlocks ⟨show 0 + 4 ≤ 4 by omega, show 0 + 24 ≤ 24 by omega⟩
      · refine lVXn (n := 4) (As := [.int p2, .int p3, .int p4, .int 0]) (rest := []) (c_X4_build l hfl D t b σ p2 p3 p4 0 (.inr (y7, σ10)) u8) hx hb hml hown hts hE hsub hW hS q299 q300 q301 q34 q302 hy_X4_build ⟨rfl, rfl⟩ ⟨Nat.le_of_ble_eq_true rfl, Nat.le_of_ble_eq_true rfl⟩ rfl rfl hl.1 (Nat.le_of_ble_eq_true rfl) ⟨show 0 + 4 ≤ 4 by omega, show 0 + 24 ≤ 24 by omega⟩ dL_act_20 (fun H locs hW hS _ => ?_)
        refine W.widen (k := 4) (n := 24) (by omega) (by omega) ?_
        refine lv_goto (tgt := 183) hx hb dL_act_23 (by decide) ?_
        cases hf
        refine vx_ret ?_
        refine W.widen (k := 4) (n := 24) (by omega) (by omega) ?_
        exact W.iret hx hb hr (fun u hu _ => ⟨_, _, rfl, ⟨rfl, by rw [hu]; exact hW⟩, hS.F hu⟩) hS.2.2 dL_act_183
    · have hf := ifp h2 hf
      refine lv_iconst (v := 1) hx hb dL_act_15 (by decide) ?_
      refine lv_goto (tgt := 20) hx hb dL_act_16 (by decide) ?_
      rcases bt2_e hf with ⟨k5, u4, hf⟩ | ⟨y3, σ6, u4, hf⟩
      · subst hf
        refine lVXt (n := 4) (As := [.int p2, .int p3, .int p4, .int 1]) (rest := []) (c_X4_build l hfl D t b σ p2 p3 p4 1 (.inl k5) u4) hx hb hml hown hts hE hsub hW hS q299 q300 q301 q34 q302 hy_X4_build ⟨rfl, rfl⟩ ⟨Nat.le_of_ble_eq_true rfl, Nat.le_of_ble_eq_true rfl⟩ rfl rfl hl.1 (Nat.le_of_ble_eq_true rfl) ⟨show 0 + 4 ≤ 4 by omega, show 0 + 24 ≤ 24 by omega⟩ dL_act_20 htab hlocks ⟨show 0 + 4 ≤ 4 by omega, show 0 + 24 ≤ 24 by omega⟩
      · refine lVXn (n := 4) (As := [.int p2, .int p3, .int p4, .int 1]) (rest := []) (c_X4_build l hfl D t b σ p2 p3 p4 1 (.inr (y3, σ6)) u4) hx hb hml hown hts hE hsub hW hS q299 q300 q301 q34 q302 hy_X4_build ⟨rfl, rfl⟩ ⟨Nat.le_of_ble_eq_true rfl, Nat.le_of_ble_eq_true rfl⟩ rfl rfl hl.1 (Nat.le_of_ble_eq_true rfl) ⟨show 0 + 4 ≤ 4 by omega, show 0 + 24 ≤ 24 by omega⟩ dL_act_20 (fun H locs hW hS _ => ?_)
        refine W.widen (k := 4) (n := 24) (by omega) (by omega) ?_
        refine lv_goto (tgt := 183) hx hb dL_act_23 (by decide) ?_
        cases hf
        refine vx_ret ?_
        refine W.widen (k := 4) (n := 24) (by omega) (by omega) ?_
        exact W.iret hx hb hr (fun u hu _ => ⟨_, _, rfl, ⟨rfl, by rw [hu]; exact hW⟩, hS.F hu⟩) hS.2.2 dL_act_183
set_option maxRecDepth 100000 in
def f_L_stall (σ : Sg) (p1 : Int32) (p2 : Int32) (p3 : Int32) (p4 : Int32) : Option ((Nat × Sg) ⊕ (Int32 × Sg)) := if p1 = 12 then (bt1 σ (f_X4_pitchOf σ p2) fun y2 => some (.inr (y2, σ))) else (if p1 = 13 then (bt1 σ (f_X4_priceOf σ p2) fun y6 => some (.inr (y6, σ))) else (if p1 = 14 then (bt1 σ (f_X4_isOpen σ p2) fun y10 => if y10 = 0 then (some (.inr (0, σ))) else (some (.inr (1, σ)))) else (if p1 = 15 then (bt1 σ (f_X4_purseOfStall σ p2) fun y15 => some (.inr (y15, σ))) else (if p1 = 16 then (bt1 σ (f_X4_playsOf σ p2) fun y19 => some (.inr (y19, σ))) else (if p1 = 17 then (bt1 σ (f_X4_rentOf σ p2) fun y23 => some (.inr (y23, σ))) else (if p1 = 18 then (bt1 σ (f_X4_playsToWin σ p2) fun y27 => some (.inr (y27, σ))) else (if p1 = 19 then (bt1 σ (f_X4_shelfOf σ p2) fun y31 => some (.inr (y31, σ))) else (if p1 = 20 then (bt1 σ (f_X4_levelToWin σ p2) fun y35 => some (.inr (y35, σ))) else (bt1 σ (f_X4_prizesOn σ p2 p3 p4) fun y38 => some (.inr (y38, σ)))))))))))
set_option maxHeartbeats 8000000 in
set_option maxRecDepth 100000 in
theorem c_L_stall (l : Launch) (hfl : l.stackTraces = false) (D : va_G) (t : Nat → ClassId) (b : Nat) (σ : Sg) (p1 : Int32) (p2 : Int32) (p3 : Int32) (p4 : Int32) (r : ((Nat × Sg) ⊕ (Int32 × Sg))) (hf : f_L_stall σ p1 p2 p3 p4 = some r) : vx_Met l yL_stall (Cond.code yL_stall cL_stall 5 (some .int) :: ALL) ({ frames := 9, cells := 3, slots := 18, locals := 148 }) (PM D t b σ [.ref (b + 0), .int p1, .int p2, .int p3, .int p4]) (QX D t b (Sum.map id (fun y => (some (.int y.1), y.2)) r)) (XX D t b (Sum.map id (fun y => (some (.int y.1), y.2)) r)) 3 18 (geA b) := by
  refine vx_ofW (cc := cL_stall) (maxL := 5) (ret := (some .int)) (by decide) rfl ?_
  intro p e s m args below meth c s₁ B hml htab hv
  obtain ⟨rfl, hW, hE⟩ := hv
  have hE : EVA D t (geA b) s := hE
  have hsub : ∀ q, geA b q → geA b q := fun _ h => h
  have hx := B.exec
  have hb := B.bytes
  have hr := B.returns
  have hts := atoms_spec (ws := Cond.code yL_stall cL_stall 5 (some .int) :: ALL) B.pre
  have hta := fun w h => hts w (List.mem_cons_of_mem _ h)
  have hown : s.vm.findClass RL = some m.cls := findClass_of_methodNamed B.named
  have hlocks := B.notSynchronized
  have hS : va_S (geA b) s.heap s.heap [] := va_S.rf
  have hl := lv_entry ([.ref (b + 0), .int p1, .int p2, .int p3, .int p4]) (n := 5) (Nat.le_of_ble_eq_true rfl)
  rw [lg_entry_eq]
  generalize (lg_sl ([.ref (b + 0), .int p1, .int p2, .int p3, .int p4]) ++ List.replicate (5 - (lg_sl ([.ref (b + 0), .int p1, .int p2, .int p3, .int p4])).length) Slot.unset).toArray = ls at hl ⊢
  have hl : lv_has ls 5 [(0, .ref (b + 0)), (1, .int p1), (2, .int p2), (3, .int p3), (4, .int p4)] := hl
  unfold f_L_stall at hf
  refine lv_iload_n hx hb dL_stall_0 rfl (lv_at hl 1 rfl) ?_
  refine lv_bipush (v := 12) hx hb dL_stall_1 (by decide) ?_
  refine lv_icmp_ne (tgt := 14) hx hb dL_stall_3 (by decide) (fun h1 => ?_) (fun h1 => ?_)
  · have hf := ifn h1 hf
    refine lv_iload_n hx hb dL_stall_14 rfl (lv_at hl 1 rfl) ?_
    refine lv_bipush (v := 13) hx hb dL_stall_15 (by decide) ?_
    refine lv_icmp_ne (tgt := 28) hx hb dL_stall_17 (by decide) (fun h5 => ?_) (fun h5 => ?_)
    · have hf := ifn h5 hf
      refine lv_iload_n hx hb dL_stall_28 rfl (lv_at hl 1 rfl) ?_
      refine lv_bipush (v := 14) hx hb dL_stall_29 (by decide) ?_
      refine lv_icmp_ne (tgt := 50) hx hb dL_stall_31 (by decide) (fun h9 => ?_) (fun h9 => ?_)
      · have hf := ifn h9 hf
        refine lv_iload_n hx hb dL_stall_50 rfl (lv_at hl 1 rfl) ?_
        refine lv_bipush (v := 15) hx hb dL_stall_51 (by decide) ?_
        refine lv_icmp_ne (tgt := 64) hx hb dL_stall_53 (by decide) (fun h14 => ?_) (fun h14 => ?_)
        · have hf := ifn h14 hf
          refine lv_iload_n hx hb dL_stall_64 rfl (lv_at hl 1 rfl) ?_
          refine lv_bipush (v := 16) hx hb dL_stall_65 (by decide) ?_
          refine lv_icmp_ne (tgt := 78) hx hb dL_stall_67 (by decide) (fun h18 => ?_) (fun h18 => ?_)
          · have hf := ifn h18 hf
            refine lv_iload_n hx hb dL_stall_78 rfl (lv_at hl 1 rfl) ?_
            refine lv_bipush (v := 17) hx hb dL_stall_79 (by decide) ?_
            refine lv_icmp_ne (tgt := 92) hx hb dL_stall_81 (by decide) (fun h22 => ?_) (fun h22 => ?_)
            · have hf := ifn h22 hf
              refine lv_iload_n hx hb dL_stall_92 rfl (lv_at hl 1 rfl) ?_
              refine lv_bipush (v := 18) hx hb dL_stall_93 (by decide) ?_
              refine lv_icmp_ne (tgt := 106) hx hb dL_stall_95 (by decide) (fun h26 => ?_) (fun h26 => ?_)
              · have hf := ifn h26 hf
                refine lv_iload_n hx hb dL_stall_106 rfl (lv_at hl 1 rfl) ?_
                refine lv_bipush (v := 19) hx hb dL_stall_107 (by decide) ?_
                refine lv_icmp_ne (tgt := 120) hx hb dL_stall_109 (by decide) (fun h30 => ?_) (fun h30 => ?_)
                · have hf := ifn h30 hf
                  refine lv_iload_n hx hb dL_stall_120 rfl (lv_at hl 1 rfl) ?_
                  refine lv_bipush (v := 20) hx hb dL_stall_121 (by decide) ?_
                  refine lv_icmp_ne (tgt := 134) hx hb dL_stall_123 (by decide) (fun h34 => ?_) (fun h34 => ?_)
                  · have hf := ifn h34 hf
                    refine lv_aload_n hx hb dL_stall_134 rfl (lv_at hl 0 rfl) ?_
                    refine lv_iload_n hx hb dL_stall_135 rfl (lv_at hl 2 rfl) ?_
                    refine lv_iload_n hx hb dL_stall_136 rfl (lv_at hl 3 rfl) ?_
                    refine lv_iload hx hb dL_stall_137 (lv_at hl 4 rfl) ?_
                    rcases bt1_e hf with ⟨k40, u39, hf⟩ | ⟨y38, u39, hf⟩
                    · subst hf
                      refine lVXt (n := 3) (As := [.int p2, .int p3, .int p4]) (rest := []) (c_X4_prizesOn l hfl D t b σ p2 p3 p4 (.inl k40) u39) hx hb hml hown hts hE hsub hW hS q759 q760 q761 q34 q762 hy_X4_prizesOn ⟨rfl, rfl⟩ ⟨Nat.le_of_ble_eq_true rfl, Nat.le_of_ble_eq_true rfl⟩ rfl rfl hl.1 (Nat.le_of_ble_eq_true rfl) ⟨show 0 + 3 ≤ 3 by omega, show 0 + 18 ≤ 18 by omega⟩ dL_stall_139 htab hlocks ⟨show 0 + 3 ≤ 3 by omega, show 0 + 18 ≤ 18 by omega⟩
                    · refine lVXn (n := 3) (As := [.int p2, .int p3, .int p4]) (rest := []) (c_X4_prizesOn l hfl D t b σ p2 p3 p4 (.inr y38) u39) hx hb hml hown hts hE hsub hW hS q759 q760 q761 q34 q762 hy_X4_prizesOn ⟨rfl, rfl⟩ ⟨Nat.le_of_ble_eq_true rfl, Nat.le_of_ble_eq_true rfl⟩ rfl rfl hl.1 (Nat.le_of_ble_eq_true rfl) ⟨show 0 + 3 ≤ 3 by omega, show 0 + 18 ≤ 18 by omega⟩ dL_stall_139 (fun H locs hW hS _ => ?_)
                      refine W.widen (k := 3) (n := 18) (by omega) (by omega) ?_
                      cases hf
                      refine vx_ret ?_
                      refine W.widen (k := 3) (n := 18) (by omega) (by omega) ?_
                      exact W.iret hx hb hr (fun u hu _ => ⟨_, _, rfl, ⟨rfl, by rw [hu]; exact hW⟩, hS.F hu⟩) hS.2.2 dL_stall_142
                  · have hf := ifp h34 hf
                    refine lv_aload_n hx hb dL_stall_126 rfl (lv_at hl 0 rfl) ?_
                    refine lv_iload_n hx hb dL_stall_127 rfl (lv_at hl 2 rfl) ?_
                    rcases bt1_e hf with ⟨k37, u36, hf⟩ | ⟨y35, u36, hf⟩
                    · subst hf
                      refine lVXt (n := 1) (As := [.int p2]) (rest := []) (c_X4_levelToWin l hfl D t b σ p2 (.inl k37) u36) hx hb hml hown hts hE hsub hW hS q754 q755 q756 q34 q757 hy_X4_levelToWin ⟨rfl, rfl⟩ ⟨Nat.le_of_ble_eq_true rfl, Nat.le_of_ble_eq_true rfl⟩ rfl rfl hl.1 (Nat.le_of_ble_eq_true rfl) ⟨show 0 + 1 ≤ 3 by omega, show 0 + 6 ≤ 18 by omega⟩ dL_stall_128 htab hlocks ⟨show 0 + 1 ≤ 3 by omega, show 0 + 6 ≤ 18 by omega⟩
                    · refine lVXn (n := 1) (As := [.int p2]) (rest := []) (c_X4_levelToWin l hfl D t b σ p2 (.inr y35) u36) hx hb hml hown hts hE hsub hW hS q754 q755 q756 q34 q757 hy_X4_levelToWin ⟨rfl, rfl⟩ ⟨Nat.le_of_ble_eq_true rfl, Nat.le_of_ble_eq_true rfl⟩ rfl rfl hl.1 (Nat.le_of_ble_eq_true rfl) ⟨show 0 + 1 ≤ 3 by omega, show 0 + 6 ≤ 18 by omega⟩ dL_stall_128 (fun H locs hW hS _ => ?_)
                      refine W.widen (k := 1) (n := 6) (by omega) (by omega) ?_
                      refine lv_goto (tgt := 142) hx hb dL_stall_131 (by decide) ?_
                      cases hf
                      refine vx_ret ?_
                      refine W.widen (k := 3) (n := 18) (by omega) (by omega) ?_
                      exact W.iret hx hb hr (fun u hu _ => ⟨_, _, rfl, ⟨rfl, by rw [hu]; exact hW⟩, hS.F hu⟩) hS.2.2 dL_stall_142
                · have hf := ifp h30 hf
                  refine lv_aload_n hx hb dL_stall_112 rfl (lv_at hl 0 rfl) ?_
                  refine lv_iload_n hx hb dL_stall_113 rfl (lv_at hl 2 rfl) ?_
                  rcases bt1_e hf with ⟨k33, u32, hf⟩ | ⟨y31, u32, hf⟩
                  · subst hf
                    refine lVXt (n := 1) (As := [.int p2]) (rest := []) (c_X4_shelfOf l hfl D t b σ p2 (.inl k33) u32) hx hb hml hown hts hE hsub hW hS q749 q750 q751 q34 q752 hy_X4_shelfOf ⟨rfl, rfl⟩ ⟨Nat.le_of_ble_eq_true rfl, Nat.le_of_ble_eq_true rfl⟩ rfl rfl hl.1 (Nat.le_of_ble_eq_true rfl) ⟨show 0 + 1 ≤ 3 by omega, show 0 + 6 ≤ 18 by omega⟩ dL_stall_114 htab hlocks ⟨show 0 + 1 ≤ 3 by omega, show 0 + 6 ≤ 18 by omega⟩
                  · refine lVXn (n := 1) (As := [.int p2]) (rest := []) (c_X4_shelfOf l hfl D t b σ p2 (.inr y31) u32) hx hb hml hown hts hE hsub hW hS q749 q750 q751 q34 q752 hy_X4_shelfOf ⟨rfl, rfl⟩ ⟨Nat.le_of_ble_eq_true rfl, Nat.le_of_ble_eq_true rfl⟩ rfl rfl hl.1 (Nat.le_of_ble_eq_true rfl) ⟨show 0 + 1 ≤ 3 by omega, show 0 + 6 ≤ 18 by omega⟩ dL_stall_114 (fun H locs hW hS _ => ?_)
                    refine W.widen (k := 1) (n := 6) (by omega) (by omega) ?_
                    refine lv_goto (tgt := 142) hx hb dL_stall_117 (by decide) ?_
                    cases hf
                    refine vx_ret ?_
                    refine W.widen (k := 3) (n := 18) (by omega) (by omega) ?_
                    exact W.iret hx hb hr (fun u hu _ => ⟨_, _, rfl, ⟨rfl, by rw [hu]; exact hW⟩, hS.F hu⟩) hS.2.2 dL_stall_142
              · have hf := ifp h26 hf
                refine lv_aload_n hx hb dL_stall_98 rfl (lv_at hl 0 rfl) ?_
                refine lv_iload_n hx hb dL_stall_99 rfl (lv_at hl 2 rfl) ?_
                rcases bt1_e hf with ⟨k29, u28, hf⟩ | ⟨y27, u28, hf⟩
                · subst hf
                  refine lVXt (n := 1) (As := [.int p2]) (rest := []) (c_X4_playsToWin l hfl D t b σ p2 (.inl k29) u28) hx hb hml hown hts hE hsub hW hS q744 q745 q746 q34 q747 hy_X4_playsToWin ⟨rfl, rfl⟩ ⟨Nat.le_of_ble_eq_true rfl, Nat.le_of_ble_eq_true rfl⟩ rfl rfl hl.1 (Nat.le_of_ble_eq_true rfl) ⟨show 0 + 1 ≤ 3 by omega, show 0 + 6 ≤ 18 by omega⟩ dL_stall_100 htab hlocks ⟨show 0 + 1 ≤ 3 by omega, show 0 + 6 ≤ 18 by omega⟩
                · refine lVXn (n := 1) (As := [.int p2]) (rest := []) (c_X4_playsToWin l hfl D t b σ p2 (.inr y27) u28) hx hb hml hown hts hE hsub hW hS q744 q745 q746 q34 q747 hy_X4_playsToWin ⟨rfl, rfl⟩ ⟨Nat.le_of_ble_eq_true rfl, Nat.le_of_ble_eq_true rfl⟩ rfl rfl hl.1 (Nat.le_of_ble_eq_true rfl) ⟨show 0 + 1 ≤ 3 by omega, show 0 + 6 ≤ 18 by omega⟩ dL_stall_100 (fun H locs hW hS _ => ?_)
                  refine W.widen (k := 1) (n := 6) (by omega) (by omega) ?_
                  refine lv_goto (tgt := 142) hx hb dL_stall_103 (by decide) ?_
                  cases hf
                  refine vx_ret ?_
                  refine W.widen (k := 3) (n := 18) (by omega) (by omega) ?_
                  exact W.iret hx hb hr (fun u hu _ => ⟨_, _, rfl, ⟨rfl, by rw [hu]; exact hW⟩, hS.F hu⟩) hS.2.2 dL_stall_142
            · have hf := ifp h22 hf
              refine lv_aload_n hx hb dL_stall_84 rfl (lv_at hl 0 rfl) ?_
              refine lv_iload_n hx hb dL_stall_85 rfl (lv_at hl 2 rfl) ?_
              rcases bt1_e hf with ⟨k25, u24, hf⟩ | ⟨y23, u24, hf⟩
              · subst hf
                refine lVXt (n := 1) (As := [.int p2]) (rest := []) (c_X4_rentOf l hfl D t b σ p2 (.inl k25) u24) hx hb hml hown hts hE hsub hW hS q739 q740 q741 q34 q742 hy_X4_rentOf ⟨rfl, rfl⟩ ⟨Nat.le_of_ble_eq_true rfl, Nat.le_of_ble_eq_true rfl⟩ rfl rfl hl.1 (Nat.le_of_ble_eq_true rfl) ⟨show 0 + 1 ≤ 3 by omega, show 0 + 6 ≤ 18 by omega⟩ dL_stall_86 htab hlocks ⟨show 0 + 1 ≤ 3 by omega, show 0 + 6 ≤ 18 by omega⟩
              · refine lVXn (n := 1) (As := [.int p2]) (rest := []) (c_X4_rentOf l hfl D t b σ p2 (.inr y23) u24) hx hb hml hown hts hE hsub hW hS q739 q740 q741 q34 q742 hy_X4_rentOf ⟨rfl, rfl⟩ ⟨Nat.le_of_ble_eq_true rfl, Nat.le_of_ble_eq_true rfl⟩ rfl rfl hl.1 (Nat.le_of_ble_eq_true rfl) ⟨show 0 + 1 ≤ 3 by omega, show 0 + 6 ≤ 18 by omega⟩ dL_stall_86 (fun H locs hW hS _ => ?_)
                refine W.widen (k := 1) (n := 6) (by omega) (by omega) ?_
                refine lv_goto (tgt := 142) hx hb dL_stall_89 (by decide) ?_
                cases hf
                refine vx_ret ?_
                refine W.widen (k := 3) (n := 18) (by omega) (by omega) ?_
                exact W.iret hx hb hr (fun u hu _ => ⟨_, _, rfl, ⟨rfl, by rw [hu]; exact hW⟩, hS.F hu⟩) hS.2.2 dL_stall_142
          · have hf := ifp h18 hf
            refine lv_aload_n hx hb dL_stall_70 rfl (lv_at hl 0 rfl) ?_
            refine lv_iload_n hx hb dL_stall_71 rfl (lv_at hl 2 rfl) ?_
            rcases bt1_e hf with ⟨k21, u20, hf⟩ | ⟨y19, u20, hf⟩
            · subst hf
              refine lVXt (n := 1) (As := [.int p2]) (rest := []) (c_X4_playsOf l hfl D t b σ p2 (.inl k21) u20) hx hb hml hown hts hE hsub hW hS q735 q736 q737 q34 q738 hy_X4_playsOf ⟨rfl, rfl⟩ ⟨Nat.le_of_ble_eq_true rfl, Nat.le_of_ble_eq_true rfl⟩ rfl rfl hl.1 (Nat.le_of_ble_eq_true rfl) ⟨show 0 + 1 ≤ 3 by omega, show 0 + 6 ≤ 18 by omega⟩ dL_stall_72 htab hlocks ⟨show 0 + 1 ≤ 3 by omega, show 0 + 6 ≤ 18 by omega⟩
            · refine lVXn (n := 1) (As := [.int p2]) (rest := []) (c_X4_playsOf l hfl D t b σ p2 (.inr y19) u20) hx hb hml hown hts hE hsub hW hS q735 q736 q737 q34 q738 hy_X4_playsOf ⟨rfl, rfl⟩ ⟨Nat.le_of_ble_eq_true rfl, Nat.le_of_ble_eq_true rfl⟩ rfl rfl hl.1 (Nat.le_of_ble_eq_true rfl) ⟨show 0 + 1 ≤ 3 by omega, show 0 + 6 ≤ 18 by omega⟩ dL_stall_72 (fun H locs hW hS _ => ?_)
              refine W.widen (k := 1) (n := 6) (by omega) (by omega) ?_
              refine lv_goto (tgt := 142) hx hb dL_stall_75 (by decide) ?_
              cases hf
              refine vx_ret ?_
              refine W.widen (k := 3) (n := 18) (by omega) (by omega) ?_
              exact W.iret hx hb hr (fun u hu _ => ⟨_, _, rfl, ⟨rfl, by rw [hu]; exact hW⟩, hS.F hu⟩) hS.2.2 dL_stall_142
        · have hf := ifp h14 hf
          refine lv_aload_n hx hb dL_stall_56 rfl (lv_at hl 0 rfl) ?_
          refine lv_iload_n hx hb dL_stall_57 rfl (lv_at hl 2 rfl) ?_
          rcases bt1_e hf with ⟨k17, u16, hf⟩ | ⟨y15, u16, hf⟩
          · subst hf
            refine lVXt (n := 1) (As := [.int p2]) (rest := []) (c_X4_purseOfStall l hfl D t b σ p2 (.inl k17) u16) hx hb hml hown hts hE hsub hW hS q731 q732 q733 q34 q734 hy_X4_purseOfStall ⟨rfl, rfl⟩ ⟨Nat.le_of_ble_eq_true rfl, Nat.le_of_ble_eq_true rfl⟩ rfl rfl hl.1 (Nat.le_of_ble_eq_true rfl) ⟨show 0 + 1 ≤ 3 by omega, show 0 + 6 ≤ 18 by omega⟩ dL_stall_58 htab hlocks ⟨show 0 + 1 ≤ 3 by omega, show 0 + 6 ≤ 18 by omega⟩
          · refine lVXn (n := 1) (As := [.int p2]) (rest := []) (c_X4_purseOfStall l hfl D t b σ p2 (.inr y15) u16) hx hb hml hown hts hE hsub hW hS q731 q732 q733 q34 q734 hy_X4_purseOfStall ⟨rfl, rfl⟩ ⟨Nat.le_of_ble_eq_true rfl, Nat.le_of_ble_eq_true rfl⟩ rfl rfl hl.1 (Nat.le_of_ble_eq_true rfl) ⟨show 0 + 1 ≤ 3 by omega, show 0 + 6 ≤ 18 by omega⟩ dL_stall_58 (fun H locs hW hS _ => ?_)
            refine W.widen (k := 1) (n := 6) (by omega) (by omega) ?_
            refine lv_goto (tgt := 142) hx hb dL_stall_61 (by decide) ?_
            cases hf
            refine vx_ret ?_
            refine W.widen (k := 3) (n := 18) (by omega) (by omega) ?_
            exact W.iret hx hb hr (fun u hu _ => ⟨_, _, rfl, ⟨rfl, by rw [hu]; exact hW⟩, hS.F hu⟩) hS.2.2 dL_stall_142
      · have hf := ifp h9 hf
        refine lv_aload_n hx hb dL_stall_34 rfl (lv_at hl 0 rfl) ?_
        refine lv_iload_n hx hb dL_stall_35 rfl (lv_at hl 2 rfl) ?_
        rcases bt1_e hf with ⟨k12, u11, hf⟩ | ⟨y10, u11, hf⟩
        · subst hf
          refine lVXt (n := 1) (As := [.int p2]) (rest := []) (c_X4_isOpen l hfl D t b σ p2 (.inl k12) u11) hx hb hml hown hts hE hsub hW hS q727 q728 q729 q34 q730 hy_X4_isOpen ⟨rfl, rfl⟩ ⟨Nat.le_of_ble_eq_true rfl, Nat.le_of_ble_eq_true rfl⟩ rfl rfl hl.1 (Nat.le_of_ble_eq_true rfl) ⟨show 0 + 1 ≤ 3 by omega, show 0 + 6 ≤ 18 by omega⟩ dL_stall_36 htab hlocks ⟨show 0 + 1 ≤ 3 by omega, show 0 + 6 ≤ 18 by omega⟩
        · refine lVXn (n := 1) (As := [.int p2]) (rest := []) (c_X4_isOpen l hfl D t b σ p2 (.inr y10) u11) hx hb hml hown hts hE hsub hW hS q727 q728 q729 q34 q730 hy_X4_isOpen ⟨rfl, rfl⟩ ⟨Nat.le_of_ble_eq_true rfl, Nat.le_of_ble_eq_true rfl⟩ rfl rfl hl.1 (Nat.le_of_ble_eq_true rfl) ⟨show 0 + 1 ≤ 3 by omega, show 0 + 6 ≤ 18 by omega⟩ dL_stall_36 (fun H locs hW hS _ => ?_)
          refine W.widen (k := 1) (n := 6) (by omega) (by omega) ?_
          refine lv_if_eq (tgt := 46) hx hb dL_stall_39 (by decide) (fun h13 => ?_) (fun h13 => ?_)
          · have hf := ifp h13 hf
            refine lv_iconst (v := 0) hx hb dL_stall_46 (by decide) ?_
            refine lv_goto (tgt := 142) hx hb dL_stall_47 (by decide) ?_
            cases hf
            refine vx_ret ?_
            refine W.widen (k := 3) (n := 18) (by omega) (by omega) ?_
            exact W.iret hx hb hr (fun u hu _ => ⟨_, _, rfl, ⟨rfl, by rw [hu]; exact hW⟩, hS.F hu⟩) hS.2.2 dL_stall_142
          · have hf := ifn h13 hf
            refine lv_iconst (v := 1) hx hb dL_stall_42 (by decide) ?_
            refine lv_goto (tgt := 142) hx hb dL_stall_43 (by decide) ?_
            cases hf
            refine vx_ret ?_
            refine W.widen (k := 3) (n := 18) (by omega) (by omega) ?_
            exact W.iret hx hb hr (fun u hu _ => ⟨_, _, rfl, ⟨rfl, by rw [hu]; exact hW⟩, hS.F hu⟩) hS.2.2 dL_stall_142
    · have hf := ifp h5 hf
      refine lv_aload_n hx hb dL_stall_20 rfl (lv_at hl 0 rfl) ?_
      refine lv_iload_n hx hb dL_stall_21 rfl (lv_at hl 2 rfl) ?_
      rcases bt1_e hf with ⟨k8, u7, hf⟩ | ⟨y6, u7, hf⟩
      · subst hf
        refine lVXt (n := 1) (As := [.int p2]) (rest := []) (c_X4_priceOf l hfl D t b σ p2 (.inl k8) u7) hx hb hml hown hts hE hsub hW hS q723 q724 q725 q34 q726 hy_X4_priceOf ⟨rfl, rfl⟩ ⟨Nat.le_of_ble_eq_true rfl, Nat.le_of_ble_eq_true rfl⟩ rfl rfl hl.1 (Nat.le_of_ble_eq_true rfl) ⟨show 0 + 1 ≤ 3 by omega, show 0 + 6 ≤ 18 by omega⟩ dL_stall_22 htab hlocks ⟨show 0 + 1 ≤ 3 by omega, show 0 + 6 ≤ 18 by omega⟩
      · refine lVXn (n := 1) (As := [.int p2]) (rest := []) (c_X4_priceOf l hfl D t b σ p2 (.inr y6) u7) hx hb hml hown hts hE hsub hW hS q723 q724 q725 q34 q726 hy_X4_priceOf ⟨rfl, rfl⟩ ⟨Nat.le_of_ble_eq_true rfl, Nat.le_of_ble_eq_true rfl⟩ rfl rfl hl.1 (Nat.le_of_ble_eq_true rfl) ⟨show 0 + 1 ≤ 3 by omega, show 0 + 6 ≤ 18 by omega⟩ dL_stall_22 (fun H locs hW hS _ => ?_)
        refine W.widen (k := 1) (n := 6) (by omega) (by omega) ?_
        refine lv_goto (tgt := 142) hx hb dL_stall_25 (by decide) ?_
        cases hf
        refine vx_ret ?_
        refine W.widen (k := 3) (n := 18) (by omega) (by omega) ?_
        exact W.iret hx hb hr (fun u hu _ => ⟨_, _, rfl, ⟨rfl, by rw [hu]; exact hW⟩, hS.F hu⟩) hS.2.2 dL_stall_142
  · have hf := ifp h1 hf
    refine lv_aload_n hx hb dL_stall_6 rfl (lv_at hl 0 rfl) ?_
    refine lv_iload_n hx hb dL_stall_7 rfl (lv_at hl 2 rfl) ?_
    rcases bt1_e hf with ⟨k4, u3, hf⟩ | ⟨y2, u3, hf⟩
    · subst hf
      refine lVXt (n := 1) (As := [.int p2]) (rest := []) (c_X4_pitchOf l hfl D t b σ p2 (.inl k4) u3) hx hb hml hown hts hE hsub hW hS q719 q720 q721 q34 q722 hy_X4_pitchOf ⟨rfl, rfl⟩ ⟨Nat.le_of_ble_eq_true rfl, Nat.le_of_ble_eq_true rfl⟩ rfl rfl hl.1 (Nat.le_of_ble_eq_true rfl) ⟨show 0 + 1 ≤ 3 by omega, show 0 + 6 ≤ 18 by omega⟩ dL_stall_8 htab hlocks ⟨show 0 + 1 ≤ 3 by omega, show 0 + 6 ≤ 18 by omega⟩
    · refine lVXn (n := 1) (As := [.int p2]) (rest := []) (c_X4_pitchOf l hfl D t b σ p2 (.inr y2) u3) hx hb hml hown hts hE hsub hW hS q719 q720 q721 q34 q722 hy_X4_pitchOf ⟨rfl, rfl⟩ ⟨Nat.le_of_ble_eq_true rfl, Nat.le_of_ble_eq_true rfl⟩ rfl rfl hl.1 (Nat.le_of_ble_eq_true rfl) ⟨show 0 + 1 ≤ 3 by omega, show 0 + 6 ≤ 18 by omega⟩ dL_stall_8 (fun H locs hW hS _ => ?_)
      refine W.widen (k := 1) (n := 6) (by omega) (by omega) ?_
      refine lv_goto (tgt := 142) hx hb dL_stall_11 (by decide) ?_
      cases hf
      refine vx_ret ?_
      refine W.widen (k := 3) (n := 18) (by omega) (by omega) ?_
      exact W.iret hx hb hr (fun u hu _ => ⟨_, _, rfl, ⟨rfl, by rw [hu]; exact hW⟩, hS.F hu⟩) hS.2.2 dL_stall_142
set_option maxRecDepth 100000 in
def f_L_child (σ : Sg) (p1 : Int32) (p2 : Int32) : Option ((Nat × Sg) ⊕ (Int32 × Sg)) := if p1 = 22 then (bt1 σ (f_X4_isAtFair σ p2) fun y2 => if y2 = 0 then (some (.inr (0, σ))) else (some (.inr (1, σ)))) else (if p1 = 23 then (bt1 σ (f_X4_purseOf σ p2) fun y7 => some (.inr (y7, σ))) else (if p1 = 24 then (bt1 σ (f_X4_moodOf σ p2) fun y11 => some (.inr (y11, σ))) else (if p1 = 25 then (bt1 σ (f_X4_placeOf σ p2) fun y15 => some (.inr (y15, σ))) else (if p1 = 26 then (bt1 σ (f_X4_isHomeward σ p2) fun y19 => if y19 = 0 then (some (.inr (0, σ))) else (some (.inr (1, σ)))) else (if p1 = 27 then (bt1 σ (f_X4_prizesOf σ p2) fun y24 => some (.inr (y24, σ))) else (if p1 = 28 then (bt1 σ (f_X4_whyNoPlay σ p2) fun y28 => some (.inr (y28, σ))) else (if p1 = 29 then (bt2 σ (f_X4_homeIn σ p2) fun y32 σ35 => some (.inr (y32, σ35))) else (if p1 = 30 then (bt1 σ (f_X4_stallOn σ p2) fun y37 => some (.inr (y37, σ))) else (bt1 σ (f_X4_crowdOn σ p2) fun y40 => some (.inr (y40, σ)))))))))))
set_option maxHeartbeats 8000000 in
set_option maxRecDepth 100000 in
theorem c_L_child (l : Launch) (hfl : l.stackTraces = false) (D : va_G) (t : Nat → ClassId) (b : Nat) (σ : Sg) (p1 : Int32) (p2 : Int32) (r : ((Nat × Sg) ⊕ (Int32 × Sg))) (hf : f_L_child σ p1 p2 = some r) : vx_Met l yL_child (Cond.code yL_child cL_child 3 (some .int) :: ALL) ({ frames := 8, cells := 1, slots := 6, locals := 126 }) (PM D t b σ [.ref (b + 0), .int p1, .int p2]) (QX D t b (Sum.map id (fun y => (some (.int y.1), y.2)) r)) (XX D t b (Sum.map id (fun y => (some (.int y.1), y.2)) r)) 1 6 (geA b) := by
  refine vx_ofW (cc := cL_child) (maxL := 3) (ret := (some .int)) (by decide) rfl ?_
  intro p e s m args below meth c s₁ B hml htab hv
  obtain ⟨rfl, hW, hE⟩ := hv
  have hE : EVA D t (geA b) s := hE
  have hsub : ∀ q, geA b q → geA b q := fun _ h => h
  have hx := B.exec
  have hb := B.bytes
  have hr := B.returns
  have hts := atoms_spec (ws := Cond.code yL_child cL_child 3 (some .int) :: ALL) B.pre
  have hta := fun w h => hts w (List.mem_cons_of_mem _ h)
  have hown : s.vm.findClass RL = some m.cls := findClass_of_methodNamed B.named
  have hlocks := B.notSynchronized
  have hS : va_S (geA b) s.heap s.heap [] := va_S.rf
  have hl := lv_entry ([.ref (b + 0), .int p1, .int p2]) (n := 3) (Nat.le_of_ble_eq_true rfl)
  rw [lg_entry_eq]
  generalize (lg_sl ([.ref (b + 0), .int p1, .int p2]) ++ List.replicate (3 - (lg_sl ([.ref (b + 0), .int p1, .int p2])).length) Slot.unset).toArray = ls at hl ⊢
  have hl : lv_has ls 3 [(0, .ref (b + 0)), (1, .int p1), (2, .int p2)] := hl
  unfold f_L_child at hf
  refine lv_iload_n hx hb dL_child_0 rfl (lv_at hl 1 rfl) ?_
  refine lv_bipush (v := 22) hx hb dL_child_1 (by decide) ?_
  refine lv_icmp_ne (tgt := 22) hx hb dL_child_3 (by decide) (fun h1 => ?_) (fun h1 => ?_)
  · have hf := ifn h1 hf
    refine lv_iload_n hx hb dL_child_22 rfl (lv_at hl 1 rfl) ?_
    refine lv_bipush (v := 23) hx hb dL_child_23 (by decide) ?_
    refine lv_icmp_ne (tgt := 36) hx hb dL_child_25 (by decide) (fun h6 => ?_) (fun h6 => ?_)
    · have hf := ifn h6 hf
      refine lv_iload_n hx hb dL_child_36 rfl (lv_at hl 1 rfl) ?_
      refine lv_bipush (v := 24) hx hb dL_child_37 (by decide) ?_
      refine lv_icmp_ne (tgt := 50) hx hb dL_child_39 (by decide) (fun h10 => ?_) (fun h10 => ?_)
      · have hf := ifn h10 hf
        refine lv_iload_n hx hb dL_child_50 rfl (lv_at hl 1 rfl) ?_
        refine lv_bipush (v := 25) hx hb dL_child_51 (by decide) ?_
        refine lv_icmp_ne (tgt := 64) hx hb dL_child_53 (by decide) (fun h14 => ?_) (fun h14 => ?_)
        · have hf := ifn h14 hf
          refine lv_iload_n hx hb dL_child_64 rfl (lv_at hl 1 rfl) ?_
          refine lv_bipush (v := 26) hx hb dL_child_65 (by decide) ?_
          refine lv_icmp_ne (tgt := 86) hx hb dL_child_67 (by decide) (fun h18 => ?_) (fun h18 => ?_)
          · have hf := ifn h18 hf
            refine lv_iload_n hx hb dL_child_86 rfl (lv_at hl 1 rfl) ?_
            refine lv_bipush (v := 27) hx hb dL_child_87 (by decide) ?_
            refine lv_icmp_ne (tgt := 100) hx hb dL_child_89 (by decide) (fun h23 => ?_) (fun h23 => ?_)
            · have hf := ifn h23 hf
              refine lv_iload_n hx hb dL_child_100 rfl (lv_at hl 1 rfl) ?_
              refine lv_bipush (v := 28) hx hb dL_child_101 (by decide) ?_
              refine lv_icmp_ne (tgt := 114) hx hb dL_child_103 (by decide) (fun h27 => ?_) (fun h27 => ?_)
              · have hf := ifn h27 hf
                refine lv_iload_n hx hb dL_child_114 rfl (lv_at hl 1 rfl) ?_
                refine lv_bipush (v := 29) hx hb dL_child_115 (by decide) ?_
                refine lv_icmp_ne (tgt := 128) hx hb dL_child_117 (by decide) (fun h31 => ?_) (fun h31 => ?_)
                · have hf := ifn h31 hf
                  refine lv_iload_n hx hb dL_child_128 rfl (lv_at hl 1 rfl) ?_
                  refine lv_bipush (v := 30) hx hb dL_child_129 (by decide) ?_
                  refine lv_icmp_ne (tgt := 142) hx hb dL_child_131 (by decide) (fun h36 => ?_) (fun h36 => ?_)
                  · have hf := ifn h36 hf
                    refine lv_aload_n hx hb dL_child_142 rfl (lv_at hl 0 rfl) ?_
                    refine lv_iload_n hx hb dL_child_143 rfl (lv_at hl 2 rfl) ?_
                    rcases bt1_e hf with ⟨k42, u41, hf⟩ | ⟨y40, u41, hf⟩
                    · subst hf
                      refine lVXt (n := 1) (As := [.int p2]) (rest := []) (c_X4_crowdOn l hfl D t b σ p2 (.inl k42) u41) hx hb hml hown hts hE hsub hW hS q810 q811 q812 q34 q813 hy_X4_crowdOn ⟨rfl, rfl⟩ ⟨Nat.le_of_ble_eq_true rfl, Nat.le_of_ble_eq_true rfl⟩ rfl rfl hl.1 (Nat.le_of_ble_eq_true rfl) ⟨show 0 + 1 ≤ 1 by omega, show 0 + 6 ≤ 6 by omega⟩ dL_child_144 htab hlocks ⟨show 0 + 1 ≤ 1 by omega, show 0 + 6 ≤ 6 by omega⟩
                    · refine lVXn (n := 1) (As := [.int p2]) (rest := []) (c_X4_crowdOn l hfl D t b σ p2 (.inr y40) u41) hx hb hml hown hts hE hsub hW hS q810 q811 q812 q34 q813 hy_X4_crowdOn ⟨rfl, rfl⟩ ⟨Nat.le_of_ble_eq_true rfl, Nat.le_of_ble_eq_true rfl⟩ rfl rfl hl.1 (Nat.le_of_ble_eq_true rfl) ⟨show 0 + 1 ≤ 1 by omega, show 0 + 6 ≤ 6 by omega⟩ dL_child_144 (fun H locs hW hS _ => ?_)
                      refine W.widen (k := 1) (n := 6) (by omega) (by omega) ?_
                      cases hf
                      refine vx_ret ?_
                      refine W.widen (k := 1) (n := 6) (by omega) (by omega) ?_
                      exact W.iret hx hb hr (fun u hu _ => ⟨_, _, rfl, ⟨rfl, by rw [hu]; exact hW⟩, hS.F hu⟩) hS.2.2 dL_child_147
                  · have hf := ifp h36 hf
                    refine lv_aload_n hx hb dL_child_134 rfl (lv_at hl 0 rfl) ?_
                    refine lv_iload_n hx hb dL_child_135 rfl (lv_at hl 2 rfl) ?_
                    rcases bt1_e hf with ⟨k39, u38, hf⟩ | ⟨y37, u38, hf⟩
                    · subst hf
                      refine lVXt (n := 1) (As := [.int p2]) (rest := []) (c_X4_stallOn l hfl D t b σ p2 (.inl k39) u38) hx hb hml hown hts hE hsub hW hS q805 q806 q807 q34 q808 hy_X4_stallOn ⟨rfl, rfl⟩ ⟨Nat.le_of_ble_eq_true rfl, Nat.le_of_ble_eq_true rfl⟩ rfl rfl hl.1 (Nat.le_of_ble_eq_true rfl) ⟨show 0 + 1 ≤ 1 by omega, show 0 + 6 ≤ 6 by omega⟩ dL_child_136 htab hlocks ⟨show 0 + 1 ≤ 1 by omega, show 0 + 6 ≤ 6 by omega⟩
                    · refine lVXn (n := 1) (As := [.int p2]) (rest := []) (c_X4_stallOn l hfl D t b σ p2 (.inr y37) u38) hx hb hml hown hts hE hsub hW hS q805 q806 q807 q34 q808 hy_X4_stallOn ⟨rfl, rfl⟩ ⟨Nat.le_of_ble_eq_true rfl, Nat.le_of_ble_eq_true rfl⟩ rfl rfl hl.1 (Nat.le_of_ble_eq_true rfl) ⟨show 0 + 1 ≤ 1 by omega, show 0 + 6 ≤ 6 by omega⟩ dL_child_136 (fun H locs hW hS _ => ?_)
                      refine W.widen (k := 1) (n := 6) (by omega) (by omega) ?_
                      refine lv_goto (tgt := 147) hx hb dL_child_139 (by decide) ?_
                      cases hf
                      refine vx_ret ?_
                      refine W.widen (k := 1) (n := 6) (by omega) (by omega) ?_
                      exact W.iret hx hb hr (fun u hu _ => ⟨_, _, rfl, ⟨rfl, by rw [hu]; exact hW⟩, hS.F hu⟩) hS.2.2 dL_child_147
                · have hf := ifp h31 hf
                  refine lv_aload_n hx hb dL_child_120 rfl (lv_at hl 0 rfl) ?_
                  refine lv_iload_n hx hb dL_child_121 rfl (lv_at hl 2 rfl) ?_
                  rcases bt2_e hf with ⟨k34, u33, hf⟩ | ⟨y32, σ35, u33, hf⟩
                  · subst hf
                    refine lVXt (n := 1) (As := [.int p2]) (rest := []) (c_X4_homeIn l hfl D t b σ p2 (.inl k34) u33) hx hb hml hown hts hE hsub hW hS q801 q802 q803 q34 q804 hy_X4_homeIn ⟨rfl, rfl⟩ ⟨Nat.le_of_ble_eq_true rfl, Nat.le_of_ble_eq_true rfl⟩ rfl rfl hl.1 (Nat.le_of_ble_eq_true rfl) ⟨show 0 + 1 ≤ 1 by omega, show 0 + 6 ≤ 6 by omega⟩ dL_child_122 htab hlocks ⟨show 0 + 1 ≤ 1 by omega, show 0 + 6 ≤ 6 by omega⟩
                  · refine lVXn (n := 1) (As := [.int p2]) (rest := []) (c_X4_homeIn l hfl D t b σ p2 (.inr (y32, σ35)) u33) hx hb hml hown hts hE hsub hW hS q801 q802 q803 q34 q804 hy_X4_homeIn ⟨rfl, rfl⟩ ⟨Nat.le_of_ble_eq_true rfl, Nat.le_of_ble_eq_true rfl⟩ rfl rfl hl.1 (Nat.le_of_ble_eq_true rfl) ⟨show 0 + 1 ≤ 1 by omega, show 0 + 6 ≤ 6 by omega⟩ dL_child_122 (fun H locs hW hS _ => ?_)
                    refine W.widen (k := 1) (n := 6) (by omega) (by omega) ?_
                    refine lv_goto (tgt := 147) hx hb dL_child_125 (by decide) ?_
                    cases hf
                    refine vx_ret ?_
                    refine W.widen (k := 1) (n := 6) (by omega) (by omega) ?_
                    exact W.iret hx hb hr (fun u hu _ => ⟨_, _, rfl, ⟨rfl, by rw [hu]; exact hW⟩, hS.F hu⟩) hS.2.2 dL_child_147
              · have hf := ifp h27 hf
                refine lv_aload_n hx hb dL_child_106 rfl (lv_at hl 0 rfl) ?_
                refine lv_iload_n hx hb dL_child_107 rfl (lv_at hl 2 rfl) ?_
                rcases bt1_e hf with ⟨k30, u29, hf⟩ | ⟨y28, u29, hf⟩
                · subst hf
                  refine lVXt (n := 1) (As := [.int p2]) (rest := []) (c_X4_whyNoPlay l hfl D t b σ p2 (.inl k30) u29) hx hb hml hown hts hE hsub hW hS q795 q796 q797 q34 q798 hy_X4_whyNoPlay ⟨rfl, rfl⟩ ⟨Nat.le_of_ble_eq_true rfl, Nat.le_of_ble_eq_true rfl⟩ rfl rfl hl.1 (Nat.le_of_ble_eq_true rfl) ⟨show 0 + 1 ≤ 1 by omega, show 0 + 6 ≤ 6 by omega⟩ dL_child_108 htab hlocks ⟨show 0 + 1 ≤ 1 by omega, show 0 + 6 ≤ 6 by omega⟩
                · refine lVXn (n := 1) (As := [.int p2]) (rest := []) (c_X4_whyNoPlay l hfl D t b σ p2 (.inr y28) u29) hx hb hml hown hts hE hsub hW hS q795 q796 q797 q34 q798 hy_X4_whyNoPlay ⟨rfl, rfl⟩ ⟨Nat.le_of_ble_eq_true rfl, Nat.le_of_ble_eq_true rfl⟩ rfl rfl hl.1 (Nat.le_of_ble_eq_true rfl) ⟨show 0 + 1 ≤ 1 by omega, show 0 + 6 ≤ 6 by omega⟩ dL_child_108 (fun H locs hW hS _ => ?_)
                  refine W.widen (k := 1) (n := 6) (by omega) (by omega) ?_
                  refine lv_goto (tgt := 147) hx hb dL_child_111 (by decide) ?_
                  cases hf
                  refine vx_ret ?_
                  refine W.widen (k := 1) (n := 6) (by omega) (by omega) ?_
                  exact W.iret hx hb hr (fun u hu _ => ⟨_, _, rfl, ⟨rfl, by rw [hu]; exact hW⟩, hS.F hu⟩) hS.2.2 dL_child_147
            · have hf := ifp h23 hf
              refine lv_aload_n hx hb dL_child_92 rfl (lv_at hl 0 rfl) ?_
              refine lv_iload_n hx hb dL_child_93 rfl (lv_at hl 2 rfl) ?_
              rcases bt1_e hf with ⟨k26, u25, hf⟩ | ⟨y24, u25, hf⟩
              · subst hf
                refine lVXt (n := 1) (As := [.int p2]) (rest := []) (c_X4_prizesOf l hfl D t b σ p2 (.inl k26) u25) hx hb hml hown hts hE hsub hW hS q791 q792 q793 q34 q794 hy_X4_prizesOf ⟨rfl, rfl⟩ ⟨Nat.le_of_ble_eq_true rfl, Nat.le_of_ble_eq_true rfl⟩ rfl rfl hl.1 (Nat.le_of_ble_eq_true rfl) ⟨show 0 + 1 ≤ 1 by omega, show 0 + 6 ≤ 6 by omega⟩ dL_child_94 htab hlocks ⟨show 0 + 1 ≤ 1 by omega, show 0 + 6 ≤ 6 by omega⟩
              · refine lVXn (n := 1) (As := [.int p2]) (rest := []) (c_X4_prizesOf l hfl D t b σ p2 (.inr y24) u25) hx hb hml hown hts hE hsub hW hS q791 q792 q793 q34 q794 hy_X4_prizesOf ⟨rfl, rfl⟩ ⟨Nat.le_of_ble_eq_true rfl, Nat.le_of_ble_eq_true rfl⟩ rfl rfl hl.1 (Nat.le_of_ble_eq_true rfl) ⟨show 0 + 1 ≤ 1 by omega, show 0 + 6 ≤ 6 by omega⟩ dL_child_94 (fun H locs hW hS _ => ?_)
                refine W.widen (k := 1) (n := 6) (by omega) (by omega) ?_
                refine lv_goto (tgt := 147) hx hb dL_child_97 (by decide) ?_
                cases hf
                refine vx_ret ?_
                refine W.widen (k := 1) (n := 6) (by omega) (by omega) ?_
                exact W.iret hx hb hr (fun u hu _ => ⟨_, _, rfl, ⟨rfl, by rw [hu]; exact hW⟩, hS.F hu⟩) hS.2.2 dL_child_147
          · have hf := ifp h18 hf
            refine lv_aload_n hx hb dL_child_70 rfl (lv_at hl 0 rfl) ?_
            refine lv_iload_n hx hb dL_child_71 rfl (lv_at hl 2 rfl) ?_
            rcases bt1_e hf with ⟨k21, u20, hf⟩ | ⟨y19, u20, hf⟩
            · subst hf
              refine lVXt (n := 1) (As := [.int p2]) (rest := []) (c_X4_isHomeward l hfl D t b σ p2 (.inl k21) u20) hx hb hml hown hts hE hsub hW hS q787 q788 q789 q34 q790 hy_X4_isHomeward ⟨rfl, rfl⟩ ⟨Nat.le_of_ble_eq_true rfl, Nat.le_of_ble_eq_true rfl⟩ rfl rfl hl.1 (Nat.le_of_ble_eq_true rfl) ⟨show 0 + 1 ≤ 1 by omega, show 0 + 6 ≤ 6 by omega⟩ dL_child_72 htab hlocks ⟨show 0 + 1 ≤ 1 by omega, show 0 + 6 ≤ 6 by omega⟩
            · refine lVXn (n := 1) (As := [.int p2]) (rest := []) (c_X4_isHomeward l hfl D t b σ p2 (.inr y19) u20) hx hb hml hown hts hE hsub hW hS q787 q788 q789 q34 q790 hy_X4_isHomeward ⟨rfl, rfl⟩ ⟨Nat.le_of_ble_eq_true rfl, Nat.le_of_ble_eq_true rfl⟩ rfl rfl hl.1 (Nat.le_of_ble_eq_true rfl) ⟨show 0 + 1 ≤ 1 by omega, show 0 + 6 ≤ 6 by omega⟩ dL_child_72 (fun H locs hW hS _ => ?_)
              refine W.widen (k := 1) (n := 6) (by omega) (by omega) ?_
              refine lv_if_eq (tgt := 82) hx hb dL_child_75 (by decide) (fun h22 => ?_) (fun h22 => ?_)
              · have hf := ifp h22 hf
                refine lv_iconst (v := 0) hx hb dL_child_82 (by decide) ?_
                refine lv_goto (tgt := 147) hx hb dL_child_83 (by decide) ?_
                cases hf
                refine vx_ret ?_
                refine W.widen (k := 1) (n := 6) (by omega) (by omega) ?_
                exact W.iret hx hb hr (fun u hu _ => ⟨_, _, rfl, ⟨rfl, by rw [hu]; exact hW⟩, hS.F hu⟩) hS.2.2 dL_child_147
              · have hf := ifn h22 hf
                refine lv_iconst (v := 1) hx hb dL_child_78 (by decide) ?_
                refine lv_goto (tgt := 147) hx hb dL_child_79 (by decide) ?_
                cases hf
                refine vx_ret ?_
                refine W.widen (k := 1) (n := 6) (by omega) (by omega) ?_
                exact W.iret hx hb hr (fun u hu _ => ⟨_, _, rfl, ⟨rfl, by rw [hu]; exact hW⟩, hS.F hu⟩) hS.2.2 dL_child_147
        · have hf := ifp h14 hf
          refine lv_aload_n hx hb dL_child_56 rfl (lv_at hl 0 rfl) ?_
          refine lv_iload_n hx hb dL_child_57 rfl (lv_at hl 2 rfl) ?_
          rcases bt1_e hf with ⟨k17, u16, hf⟩ | ⟨y15, u16, hf⟩
          · subst hf
            refine lVXt (n := 1) (As := [.int p2]) (rest := []) (c_X4_placeOf l hfl D t b σ p2 (.inl k17) u16) hx hb hml hown hts hE hsub hW hS q783 q784 q785 q34 q786 hy_X4_placeOf ⟨rfl, rfl⟩ ⟨Nat.le_of_ble_eq_true rfl, Nat.le_of_ble_eq_true rfl⟩ rfl rfl hl.1 (Nat.le_of_ble_eq_true rfl) ⟨show 0 + 1 ≤ 1 by omega, show 0 + 6 ≤ 6 by omega⟩ dL_child_58 htab hlocks ⟨show 0 + 1 ≤ 1 by omega, show 0 + 6 ≤ 6 by omega⟩
          · refine lVXn (n := 1) (As := [.int p2]) (rest := []) (c_X4_placeOf l hfl D t b σ p2 (.inr y15) u16) hx hb hml hown hts hE hsub hW hS q783 q784 q785 q34 q786 hy_X4_placeOf ⟨rfl, rfl⟩ ⟨Nat.le_of_ble_eq_true rfl, Nat.le_of_ble_eq_true rfl⟩ rfl rfl hl.1 (Nat.le_of_ble_eq_true rfl) ⟨show 0 + 1 ≤ 1 by omega, show 0 + 6 ≤ 6 by omega⟩ dL_child_58 (fun H locs hW hS _ => ?_)
            refine W.widen (k := 1) (n := 6) (by omega) (by omega) ?_
            refine lv_goto (tgt := 147) hx hb dL_child_61 (by decide) ?_
            cases hf
            refine vx_ret ?_
            refine W.widen (k := 1) (n := 6) (by omega) (by omega) ?_
            exact W.iret hx hb hr (fun u hu _ => ⟨_, _, rfl, ⟨rfl, by rw [hu]; exact hW⟩, hS.F hu⟩) hS.2.2 dL_child_147
      · have hf := ifp h10 hf
        refine lv_aload_n hx hb dL_child_42 rfl (lv_at hl 0 rfl) ?_
        refine lv_iload_n hx hb dL_child_43 rfl (lv_at hl 2 rfl) ?_
        rcases bt1_e hf with ⟨k13, u12, hf⟩ | ⟨y11, u12, hf⟩
        · subst hf
          refine lVXt (n := 1) (As := [.int p2]) (rest := []) (c_X4_moodOf l hfl D t b σ p2 (.inl k13) u12) hx hb hml hown hts hE hsub hW hS q779 q780 q781 q34 q782 hy_X4_moodOf ⟨rfl, rfl⟩ ⟨Nat.le_of_ble_eq_true rfl, Nat.le_of_ble_eq_true rfl⟩ rfl rfl hl.1 (Nat.le_of_ble_eq_true rfl) ⟨show 0 + 1 ≤ 1 by omega, show 0 + 6 ≤ 6 by omega⟩ dL_child_44 htab hlocks ⟨show 0 + 1 ≤ 1 by omega, show 0 + 6 ≤ 6 by omega⟩
        · refine lVXn (n := 1) (As := [.int p2]) (rest := []) (c_X4_moodOf l hfl D t b σ p2 (.inr y11) u12) hx hb hml hown hts hE hsub hW hS q779 q780 q781 q34 q782 hy_X4_moodOf ⟨rfl, rfl⟩ ⟨Nat.le_of_ble_eq_true rfl, Nat.le_of_ble_eq_true rfl⟩ rfl rfl hl.1 (Nat.le_of_ble_eq_true rfl) ⟨show 0 + 1 ≤ 1 by omega, show 0 + 6 ≤ 6 by omega⟩ dL_child_44 (fun H locs hW hS _ => ?_)
          refine W.widen (k := 1) (n := 6) (by omega) (by omega) ?_
          refine lv_goto (tgt := 147) hx hb dL_child_47 (by decide) ?_
          cases hf
          refine vx_ret ?_
          refine W.widen (k := 1) (n := 6) (by omega) (by omega) ?_
          exact W.iret hx hb hr (fun u hu _ => ⟨_, _, rfl, ⟨rfl, by rw [hu]; exact hW⟩, hS.F hu⟩) hS.2.2 dL_child_147
    · have hf := ifp h6 hf
      refine lv_aload_n hx hb dL_child_28 rfl (lv_at hl 0 rfl) ?_
      refine lv_iload_n hx hb dL_child_29 rfl (lv_at hl 2 rfl) ?_
      rcases bt1_e hf with ⟨k9, u8, hf⟩ | ⟨y7, u8, hf⟩
      · subst hf
        refine lVXt (n := 1) (As := [.int p2]) (rest := []) (c_X4_purseOf l hfl D t b σ p2 (.inl k9) u8) hx hb hml hown hts hE hsub hW hS q775 q776 q777 q34 q778 hy_X4_purseOf ⟨rfl, rfl⟩ ⟨Nat.le_of_ble_eq_true rfl, Nat.le_of_ble_eq_true rfl⟩ rfl rfl hl.1 (Nat.le_of_ble_eq_true rfl) ⟨show 0 + 1 ≤ 1 by omega, show 0 + 6 ≤ 6 by omega⟩ dL_child_30 htab hlocks ⟨show 0 + 1 ≤ 1 by omega, show 0 + 6 ≤ 6 by omega⟩
      · refine lVXn (n := 1) (As := [.int p2]) (rest := []) (c_X4_purseOf l hfl D t b σ p2 (.inr y7) u8) hx hb hml hown hts hE hsub hW hS q775 q776 q777 q34 q778 hy_X4_purseOf ⟨rfl, rfl⟩ ⟨Nat.le_of_ble_eq_true rfl, Nat.le_of_ble_eq_true rfl⟩ rfl rfl hl.1 (Nat.le_of_ble_eq_true rfl) ⟨show 0 + 1 ≤ 1 by omega, show 0 + 6 ≤ 6 by omega⟩ dL_child_30 (fun H locs hW hS _ => ?_)
        refine W.widen (k := 1) (n := 6) (by omega) (by omega) ?_
        refine lv_goto (tgt := 147) hx hb dL_child_33 (by decide) ?_
        cases hf
        refine vx_ret ?_
        refine W.widen (k := 1) (n := 6) (by omega) (by omega) ?_
        exact W.iret hx hb hr (fun u hu _ => ⟨_, _, rfl, ⟨rfl, by rw [hu]; exact hW⟩, hS.F hu⟩) hS.2.2 dL_child_147
  · have hf := ifp h1 hf
    refine lv_aload_n hx hb dL_child_6 rfl (lv_at hl 0 rfl) ?_
    refine lv_iload_n hx hb dL_child_7 rfl (lv_at hl 2 rfl) ?_
    rcases bt1_e hf with ⟨k4, u3, hf⟩ | ⟨y2, u3, hf⟩
    · subst hf
      refine lVXt (n := 1) (As := [.int p2]) (rest := []) (c_X4_isAtFair l hfl D t b σ p2 (.inl k4) u3) hx hb hml hown hts hE hsub hW hS q766 q767 q768 q34 q769 hy_X4_isAtFair ⟨rfl, rfl⟩ ⟨Nat.le_of_ble_eq_true rfl, Nat.le_of_ble_eq_true rfl⟩ rfl rfl hl.1 (Nat.le_of_ble_eq_true rfl) ⟨show 0 + 1 ≤ 1 by omega, show 0 + 6 ≤ 6 by omega⟩ dL_child_8 htab hlocks ⟨show 0 + 1 ≤ 1 by omega, show 0 + 6 ≤ 6 by omega⟩
    · refine lVXn (n := 1) (As := [.int p2]) (rest := []) (c_X4_isAtFair l hfl D t b σ p2 (.inr y2) u3) hx hb hml hown hts hE hsub hW hS q766 q767 q768 q34 q769 hy_X4_isAtFair ⟨rfl, rfl⟩ ⟨Nat.le_of_ble_eq_true rfl, Nat.le_of_ble_eq_true rfl⟩ rfl rfl hl.1 (Nat.le_of_ble_eq_true rfl) ⟨show 0 + 1 ≤ 1 by omega, show 0 + 6 ≤ 6 by omega⟩ dL_child_8 (fun H locs hW hS _ => ?_)
      refine W.widen (k := 1) (n := 6) (by omega) (by omega) ?_
      refine lv_if_eq (tgt := 18) hx hb dL_child_11 (by decide) (fun h5 => ?_) (fun h5 => ?_)
      · have hf := ifp h5 hf
        refine lv_iconst (v := 0) hx hb dL_child_18 (by decide) ?_
        refine lv_goto (tgt := 147) hx hb dL_child_19 (by decide) ?_
        cases hf
        refine vx_ret ?_
        refine W.widen (k := 1) (n := 6) (by omega) (by omega) ?_
        exact W.iret hx hb hr (fun u hu _ => ⟨_, _, rfl, ⟨rfl, by rw [hu]; exact hW⟩, hS.F hu⟩) hS.2.2 dL_child_147
      · have hf := ifn h5 hf
        refine lv_iconst (v := 1) hx hb dL_child_14 (by decide) ?_
        refine lv_goto (tgt := 147) hx hb dL_child_15 (by decide) ?_
        cases hf
        refine vx_ret ?_
        refine W.widen (k := 1) (n := 6) (by omega) (by omega) ?_
        exact W.iret hx hb hr (fun u hu _ => ⟨_, _, rfl, ⟨rfl, by rw [hu]; exact hW⟩, hS.F hu⟩) hS.2.2 dL_child_147
set_option maxRecDepth 100000 in
def f_L_rest (σ : Sg) (p1 : Int32) (p2 : Int32) (p3 : Int32) : Option ((Nat × Sg) ⊕ (Int32 × Sg)) := if p1 = 32 then (bt1 σ (f_X4_wonOf σ p2) fun y2 => some (.inr (y2, σ))) else (if p1 = 33 then (bt1 σ (f_X4_rainIn σ p2) fun y6 => some (.inr (y6, σ))) else (if p1 = 34 then (bt2 σ (f_X4_bestPitch σ p2 p3) fun y10 σ13 => some (.inr (y10, σ13))) else (if p1 = 35 then (bts (f_X4_type σ (p2.toUInt32 % 65536).toInt32) fun y15 σ18 => some (.inr (y15, σ18))) else (if p1 = 36 then (bts (f_X4_carryOut σ) fun y20 σ23 => some (.inr (y20, σ23))) else (if p1 = 37 then (bts (f_X4_impossibleOrder σ) fun y25 σ28 => some (.inr (y25, σ28))) else (b2 (f_X4_textError σ) fun y29 σ31 => some (.inr (y29, σ31))))))))
set_option maxHeartbeats 8000000 in
set_option maxRecDepth 100000 in
theorem c_L_rest (l : Launch) (hfl : l.stackTraces = false) (D : va_G) (t : Nat → ClassId) (b : Nat) (σ : Sg) (p1 : Int32) (p2 : Int32) (p3 : Int32) (r : ((Nat × Sg) ⊕ (Int32 × Sg))) (hf : f_L_rest σ p1 p2 p3 = some r) : vx_Met l yL_rest (Cond.code yL_rest cL_rest 4 (some .int) :: ALL) ({ frames := 8, cells := 2, slots := 12, locals := 159 }) (PM D t b σ [.ref (b + 0), .int p1, .int p2, .int p3]) (QX D t b (Sum.map id (fun y => (some (.int y.1), y.2)) r)) (XX D t b (Sum.map id (fun y => (some (.int y.1), y.2)) r)) 2 12 (geA b) := by
  refine vx_ofW (cc := cL_rest) (maxL := 4) (ret := (some .int)) (by decide) rfl ?_
  intro p e s m args below meth c s₁ B hml htab hv
  obtain ⟨rfl, hW, hE⟩ := hv
  have hE : EVA D t (geA b) s := hE
  have hsub : ∀ q, geA b q → geA b q := fun _ h => h
  have hx := B.exec
  have hb := B.bytes
  have hr := B.returns
  have hts := atoms_spec (ws := Cond.code yL_rest cL_rest 4 (some .int) :: ALL) B.pre
  have hta := fun w h => hts w (List.mem_cons_of_mem _ h)
  have hown : s.vm.findClass RL = some m.cls := findClass_of_methodNamed B.named
  have hlocks := B.notSynchronized
  have hS : va_S (geA b) s.heap s.heap [] := va_S.rf
  have hl := lv_entry ([.ref (b + 0), .int p1, .int p2, .int p3]) (n := 4) (Nat.le_of_ble_eq_true rfl)
  rw [lg_entry_eq]
  generalize (lg_sl ([.ref (b + 0), .int p1, .int p2, .int p3]) ++ List.replicate (4 - (lg_sl ([.ref (b + 0), .int p1, .int p2, .int p3])).length) Slot.unset).toArray = ls at hl ⊢
  have hl : lv_has ls 4 [(0, .ref (b + 0)), (1, .int p1), (2, .int p2), (3, .int p3)] := hl
  unfold f_L_rest at hf
  refine lv_iload_n hx hb dL_rest_0 rfl (lv_at hl 1 rfl) ?_
  refine lv_bipush (v := 32) hx hb dL_rest_1 (by decide) ?_
  refine lv_icmp_ne (tgt := 14) hx hb dL_rest_3 (by decide) (fun h1 => ?_) (fun h1 => ?_)
  · have hf := ifn h1 hf
    refine lv_iload_n hx hb dL_rest_14 rfl (lv_at hl 1 rfl) ?_
    refine lv_bipush (v := 33) hx hb dL_rest_15 (by decide) ?_
    refine lv_icmp_ne (tgt := 28) hx hb dL_rest_17 (by decide) (fun h5 => ?_) (fun h5 => ?_)
    · have hf := ifn h5 hf
      refine lv_iload_n hx hb dL_rest_28 rfl (lv_at hl 1 rfl) ?_
      refine lv_bipush (v := 34) hx hb dL_rest_29 (by decide) ?_
      refine lv_icmp_ne (tgt := 43) hx hb dL_rest_31 (by decide) (fun h9 => ?_) (fun h9 => ?_)
      · have hf := ifn h9 hf
        refine lv_iload_n hx hb dL_rest_43 rfl (lv_at hl 1 rfl) ?_
        refine lv_bipush (v := 35) hx hb dL_rest_44 (by decide) ?_
        refine lv_icmp_ne (tgt := 58) hx hb dL_rest_46 (by decide) (fun h14 => ?_) (fun h14 => ?_)
        · have hf := ifn h14 hf
          refine lv_iload_n hx hb dL_rest_58 rfl (lv_at hl 1 rfl) ?_
          refine lv_bipush (v := 36) hx hb dL_rest_59 (by decide) ?_
          refine lv_icmp_ne (tgt := 71) hx hb dL_rest_61 (by decide) (fun h19 => ?_) (fun h19 => ?_)
          · have hf := ifn h19 hf
            refine lv_iload_n hx hb dL_rest_71 rfl (lv_at hl 1 rfl) ?_
            refine lv_bipush (v := 37) hx hb dL_rest_72 (by decide) ?_
            refine lv_icmp_ne (tgt := 84) hx hb dL_rest_74 (by decide) (fun h24 => ?_) (fun h24 => ?_)
            · have hf := ifn h24 hf
              refine lv_aload_n hx hb dL_rest_84 rfl (lv_at hl 0 rfl) ?_
              obtain ⟨y29, σ31, u30, hf⟩ := b2_e hf
              refine lV (n := 0) (As := []) (rest := []) (c_X4_textError l D t b σ y29 σ31 u30) hx hb hml hown hts hE hsub hW hS q936 q937 q938 q34 q939 hy_X4_textError ⟨rfl, rfl⟩ ⟨Nat.le_of_ble_eq_true rfl, Nat.le_of_ble_eq_true rfl⟩ rfl rfl hl.1 (Nat.le_of_ble_eq_true rfl) ⟨show 0 ≤ 2 by omega, show 0 ≤ 12 by omega⟩ dL_rest_85 (fun H locs hW hS _ => ?_)
              cases hf
              refine vx_ret ?_
              refine W.widen (k := 2) (n := 12) (by omega) (by omega) ?_
              exact W.iret hx hb hr (fun u hu _ => ⟨_, _, rfl, ⟨rfl, by rw [hu]; exact hW⟩, hS.F hu⟩) hS.2.2 dL_rest_88
            · have hf := ifp h24 hf
              refine lv_aload_n hx hb dL_rest_77 rfl (lv_at hl 0 rfl) ?_
              rcases bts_e hf with ⟨k27, τ, u26, hf⟩ | ⟨y25, σ28, u26, hf⟩
              · subst hf
                refine lVXt (n := 0) (As := []) (rest := []) (c_X4_impossibleOrder l hfl D t b σ (.inl (k27, τ)) u26) hx hb hml hown hts hE hsub hW hS q932 q933 q934 q34 q935 hy_X4_impossibleOrder ⟨rfl, rfl⟩ ⟨Nat.le_of_ble_eq_true rfl, Nat.le_of_ble_eq_true rfl⟩ rfl rfl hl.1 (Nat.le_of_ble_eq_true rfl) ⟨show 0 + 1 ≤ 2 by omega, show 0 + 6 ≤ 12 by omega⟩ dL_rest_78 htab hlocks ⟨show 0 + 1 ≤ 2 by omega, show 0 + 6 ≤ 12 by omega⟩
              · refine lVXn (n := 0) (As := []) (rest := []) (c_X4_impossibleOrder l hfl D t b σ (.inr (y25, σ28)) u26) hx hb hml hown hts hE hsub hW hS q932 q933 q934 q34 q935 hy_X4_impossibleOrder ⟨rfl, rfl⟩ ⟨Nat.le_of_ble_eq_true rfl, Nat.le_of_ble_eq_true rfl⟩ rfl rfl hl.1 (Nat.le_of_ble_eq_true rfl) ⟨show 0 + 1 ≤ 2 by omega, show 0 + 6 ≤ 12 by omega⟩ dL_rest_78 (fun H locs hW hS _ => ?_)
                refine W.widen (k := 1) (n := 6) (by omega) (by omega) ?_
                refine lv_goto (tgt := 88) hx hb dL_rest_81 (by decide) ?_
                cases hf
                refine vx_ret ?_
                refine W.widen (k := 2) (n := 12) (by omega) (by omega) ?_
                exact W.iret hx hb hr (fun u hu _ => ⟨_, _, rfl, ⟨rfl, by rw [hu]; exact hW⟩, hS.F hu⟩) hS.2.2 dL_rest_88
          · have hf := ifp h19 hf
            refine lv_aload_n hx hb dL_rest_64 rfl (lv_at hl 0 rfl) ?_
            rcases bts_e hf with ⟨k22, τ, u21, hf⟩ | ⟨y20, σ23, u21, hf⟩
            · subst hf
              refine lVXt (n := 0) (As := []) (rest := []) (c_X4_carryOut l hfl D t b σ (.inl (k22, τ)) u21) hx hb hml hown hts hE hsub hW hS q848 q849 q850 q34 q851 hy_X4_carryOut ⟨rfl, rfl⟩ ⟨Nat.le_of_ble_eq_true rfl, Nat.le_of_ble_eq_true rfl⟩ rfl rfl hl.1 (Nat.le_of_ble_eq_true rfl) ⟨show 0 + 1 ≤ 2 by omega, show 0 + 6 ≤ 12 by omega⟩ dL_rest_65 htab hlocks ⟨show 0 + 1 ≤ 2 by omega, show 0 + 6 ≤ 12 by omega⟩
            · refine lVXn (n := 0) (As := []) (rest := []) (c_X4_carryOut l hfl D t b σ (.inr (y20, σ23)) u21) hx hb hml hown hts hE hsub hW hS q848 q849 q850 q34 q851 hy_X4_carryOut ⟨rfl, rfl⟩ ⟨Nat.le_of_ble_eq_true rfl, Nat.le_of_ble_eq_true rfl⟩ rfl rfl hl.1 (Nat.le_of_ble_eq_true rfl) ⟨show 0 + 1 ≤ 2 by omega, show 0 + 6 ≤ 12 by omega⟩ dL_rest_65 (fun H locs hW hS _ => ?_)
              refine W.widen (k := 1) (n := 6) (by omega) (by omega) ?_
              refine lv_goto (tgt := 88) hx hb dL_rest_68 (by decide) ?_
              cases hf
              refine vx_ret ?_
              refine W.widen (k := 2) (n := 12) (by omega) (by omega) ?_
              exact W.iret hx hb hr (fun u hu _ => ⟨_, _, rfl, ⟨rfl, by rw [hu]; exact hW⟩, hS.F hu⟩) hS.2.2 dL_rest_88
        · have hf := ifp h14 hf
          refine lv_aload_n hx hb dL_rest_49 rfl (lv_at hl 0 rfl) ?_
          refine lv_iload_n hx hb dL_rest_50 rfl (lv_at hl 2 rfl) ?_
          refine lv_i2c hx hb dL_rest_51 rfl ?_
          rcases bts_e hf with ⟨k17, τ, u16, hf⟩ | ⟨y15, σ18, u16, hf⟩
          · subst hf
            refine lVXt (n := 1) (As := [.int (p2.toUInt32 % 65536).toInt32]) (rest := []) (c_X4_type l hfl D t b σ (p2.toUInt32 % 65536).toInt32 (.inl (k17, τ)) u16) hx hb hml hown hts hE hsub hW hS q839 q840 q841 q34 q842 hy_X4_type ⟨rfl, rfl⟩ ⟨Nat.le_of_ble_eq_true rfl, Nat.le_of_ble_eq_true rfl⟩ rfl rfl hl.1 (Nat.le_of_ble_eq_true rfl) ⟨show 0 + 1 ≤ 2 by omega, show 0 + 6 ≤ 12 by omega⟩ dL_rest_52 htab hlocks ⟨show 0 + 1 ≤ 2 by omega, show 0 + 6 ≤ 12 by omega⟩
          · refine lVXn (n := 1) (As := [.int (p2.toUInt32 % 65536).toInt32]) (rest := []) (c_X4_type l hfl D t b σ (p2.toUInt32 % 65536).toInt32 (.inr (y15, σ18)) u16) hx hb hml hown hts hE hsub hW hS q839 q840 q841 q34 q842 hy_X4_type ⟨rfl, rfl⟩ ⟨Nat.le_of_ble_eq_true rfl, Nat.le_of_ble_eq_true rfl⟩ rfl rfl hl.1 (Nat.le_of_ble_eq_true rfl) ⟨show 0 + 1 ≤ 2 by omega, show 0 + 6 ≤ 12 by omega⟩ dL_rest_52 (fun H locs hW hS _ => ?_)
            refine W.widen (k := 1) (n := 6) (by omega) (by omega) ?_
            refine lv_goto (tgt := 88) hx hb dL_rest_55 (by decide) ?_
            cases hf
            refine vx_ret ?_
            refine W.widen (k := 2) (n := 12) (by omega) (by omega) ?_
            exact W.iret hx hb hr (fun u hu _ => ⟨_, _, rfl, ⟨rfl, by rw [hu]; exact hW⟩, hS.F hu⟩) hS.2.2 dL_rest_88
      · have hf := ifp h9 hf
        refine lv_aload_n hx hb dL_rest_34 rfl (lv_at hl 0 rfl) ?_
        refine lv_iload_n hx hb dL_rest_35 rfl (lv_at hl 2 rfl) ?_
        refine lv_iload_n hx hb dL_rest_36 rfl (lv_at hl 3 rfl) ?_
        rcases bt2_e hf with ⟨k12, u11, hf⟩ | ⟨y10, σ13, u11, hf⟩
        · subst hf
          refine lVXt (n := 2) (As := [.int p2, .int p3]) (rest := []) (c_X4_bestPitch l hfl D t b σ p2 p3 (.inl k12) u11) hx hb hml hown hts hE hsub hW hS q830 q831 q832 q34 q833 hy_X4_bestPitch ⟨rfl, rfl⟩ ⟨Nat.le_of_ble_eq_true rfl, Nat.le_of_ble_eq_true rfl⟩ rfl rfl hl.1 (Nat.le_of_ble_eq_true rfl) ⟨show 0 + 2 ≤ 2 by omega, show 0 + 12 ≤ 12 by omega⟩ dL_rest_37 htab hlocks ⟨show 0 + 2 ≤ 2 by omega, show 0 + 12 ≤ 12 by omega⟩
        · refine lVXn (n := 2) (As := [.int p2, .int p3]) (rest := []) (c_X4_bestPitch l hfl D t b σ p2 p3 (.inr (y10, σ13)) u11) hx hb hml hown hts hE hsub hW hS q830 q831 q832 q34 q833 hy_X4_bestPitch ⟨rfl, rfl⟩ ⟨Nat.le_of_ble_eq_true rfl, Nat.le_of_ble_eq_true rfl⟩ rfl rfl hl.1 (Nat.le_of_ble_eq_true rfl) ⟨show 0 + 2 ≤ 2 by omega, show 0 + 12 ≤ 12 by omega⟩ dL_rest_37 (fun H locs hW hS _ => ?_)
          refine W.widen (k := 2) (n := 12) (by omega) (by omega) ?_
          refine lv_goto (tgt := 88) hx hb dL_rest_40 (by decide) ?_
          cases hf
          refine vx_ret ?_
          refine W.widen (k := 2) (n := 12) (by omega) (by omega) ?_
          exact W.iret hx hb hr (fun u hu _ => ⟨_, _, rfl, ⟨rfl, by rw [hu]; exact hW⟩, hS.F hu⟩) hS.2.2 dL_rest_88
    · have hf := ifp h5 hf
      refine lv_aload_n hx hb dL_rest_20 rfl (lv_at hl 0 rfl) ?_
      refine lv_iload_n hx hb dL_rest_21 rfl (lv_at hl 2 rfl) ?_
      rcases bt1_e hf with ⟨k8, u7, hf⟩ | ⟨y6, u7, hf⟩
      · subst hf
        refine lVXt (n := 1) (As := [.int p2]) (rest := []) (c_X4_rainIn l hfl D t b σ p2 (.inl k8) u7) hx hb hml hown hts hE hsub hW hS q825 q826 q827 q34 q828 hy_X4_rainIn ⟨rfl, rfl⟩ ⟨Nat.le_of_ble_eq_true rfl, Nat.le_of_ble_eq_true rfl⟩ rfl rfl hl.1 (Nat.le_of_ble_eq_true rfl) ⟨show 0 + 1 ≤ 2 by omega, show 0 + 6 ≤ 12 by omega⟩ dL_rest_22 htab hlocks ⟨show 0 + 1 ≤ 2 by omega, show 0 + 6 ≤ 12 by omega⟩
      · refine lVXn (n := 1) (As := [.int p2]) (rest := []) (c_X4_rainIn l hfl D t b σ p2 (.inr y6) u7) hx hb hml hown hts hE hsub hW hS q825 q826 q827 q34 q828 hy_X4_rainIn ⟨rfl, rfl⟩ ⟨Nat.le_of_ble_eq_true rfl, Nat.le_of_ble_eq_true rfl⟩ rfl rfl hl.1 (Nat.le_of_ble_eq_true rfl) ⟨show 0 + 1 ≤ 2 by omega, show 0 + 6 ≤ 12 by omega⟩ dL_rest_22 (fun H locs hW hS _ => ?_)
        refine W.widen (k := 1) (n := 6) (by omega) (by omega) ?_
        refine lv_goto (tgt := 88) hx hb dL_rest_25 (by decide) ?_
        cases hf
        refine vx_ret ?_
        refine W.widen (k := 2) (n := 12) (by omega) (by omega) ?_
        exact W.iret hx hb hr (fun u hu _ => ⟨_, _, rfl, ⟨rfl, by rw [hu]; exact hW⟩, hS.F hu⟩) hS.2.2 dL_rest_88
  · have hf := ifp h1 hf
    refine lv_aload_n hx hb dL_rest_6 rfl (lv_at hl 0 rfl) ?_
    refine lv_iload_n hx hb dL_rest_7 rfl (lv_at hl 2 rfl) ?_
    rcases bt1_e hf with ⟨k4, u3, hf⟩ | ⟨y2, u3, hf⟩
    · subst hf
      refine lVXt (n := 1) (As := [.int p2]) (rest := []) (c_X4_wonOf l hfl D t b σ p2 (.inl k4) u3) hx hb hml hown hts hE hsub hW hS q821 q822 q823 q34 q824 hy_X4_wonOf ⟨rfl, rfl⟩ ⟨Nat.le_of_ble_eq_true rfl, Nat.le_of_ble_eq_true rfl⟩ rfl rfl hl.1 (Nat.le_of_ble_eq_true rfl) ⟨show 0 + 1 ≤ 2 by omega, show 0 + 6 ≤ 12 by omega⟩ dL_rest_8 htab hlocks ⟨show 0 + 1 ≤ 2 by omega, show 0 + 6 ≤ 12 by omega⟩
    · refine lVXn (n := 1) (As := [.int p2]) (rest := []) (c_X4_wonOf l hfl D t b σ p2 (.inr y2) u3) hx hb hml hown hts hE hsub hW hS q821 q822 q823 q34 q824 hy_X4_wonOf ⟨rfl, rfl⟩ ⟨Nat.le_of_ble_eq_true rfl, Nat.le_of_ble_eq_true rfl⟩ rfl rfl hl.1 (Nat.le_of_ble_eq_true rfl) ⟨show 0 + 1 ≤ 2 by omega, show 0 + 6 ≤ 12 by omega⟩ dL_rest_8 (fun H locs hW hS _ => ?_)
      refine W.widen (k := 1) (n := 6) (by omega) (by omega) ?_
      refine lv_goto (tgt := 88) hx hb dL_rest_11 (by decide) ?_
      cases hf
      refine vx_ret ?_
      refine W.widen (k := 2) (n := 12) (by omega) (by omega) ?_
      exact W.iret hx hb hr (fun u hu _ => ⟨_, _, rfl, ⟨rfl, by rw [hu]; exact hW⟩, hS.F hu⟩) hS.2.2 dL_rest_88
set_option maxRecDepth 100000 in
def f_L_call (σ : Sg) (p1 : Int32) (p2 : Int32) (p3 : Int32) (p4 : Int32) (p5 : Int32) : Option (Int32 × Sg) := if 12 ≤ p1 then (if 22 ≤ p1 then (if 32 ≤ p1 then (bws (f_L_rest σ p1 p2 p3) (fun k τ => if k = 1 then (some ((-2011), τ)) else (if k = 2 then (some ((-2012), τ)) else (if k = 3 then (some ((-2013), τ)) else (none)))) (fun y => some (y.1, y.2))) else (bws (f_L_child σ p1 p2) (fun k τ => if k = 1 then (some ((-2011), τ)) else (if k = 2 then (some ((-2012), τ)) else (if k = 3 then (some ((-2013), τ)) else (none)))) (fun y => some (y.1, y.2)))) else (bws (f_L_stall σ p1 p2 p3 p4) (fun k τ => if k = 1 then (some ((-2011), τ)) else (if k = 2 then (some ((-2012), τ)) else (if k = 3 then (some ((-2013), τ)) else (none)))) (fun y => some (y.1, y.2)))) else (bws (f_L_act σ p1 p2 p3 p4 p5) (fun k τ => if k = 1 then (some ((-2011), τ)) else (if k = 2 then (some ((-2012), τ)) else (if k = 3 then (some ((-2013), τ)) else (none)))) (fun y => some (y.1, y.2)))
set_option maxHeartbeats 8000000 in
set_option maxRecDepth 100000 in
theorem c_L_call (l : Launch) (hfl : l.stackTraces = false) (D : va_G) (t : Nat → ClassId) (b : Nat) (σ : Sg) (p1 : Int32) (p2 : Int32) (p3 : Int32) (p4 : Int32) (p5 : Int32) (r : Int32) (σr : Sg) (hf : f_L_call σ p1 p2 p3 p4 p5 = some (r, σr)) : Met l yL_call (Cond.codeWith yL_call cL_call 7 (some .int) [(0, 60, 61, 27), (0, 60, 67, 29), (0, 60, 73, 31)] :: ALL) ({ frames := 10, cells := 4, slots := 24, locals := 182 }) (PM D t b σ [.ref (b + 0), .int p1, .int p2, .int p3, .int p4, .int p5]) (QG D t b σr (some (.int r))) 4 24 (geA b) := by
  refine MetH (cc := cL_call) (maxL := 7) (ret := (some .int)) (hh := [(0, 60, 61, 27), (0, 60, 67, 29), (0, 60, 73, 31)]) (by decide) rfl ?_
  intro p e s m args below meth c s₁ B hml hv
  obtain ⟨rfl, hW, hE⟩ := hv
  have hE : EVA D t (geA b) s := hE
  have hsub : ∀ q, geA b q → geA b q := fun _ h => h
  have hx := B.exec
  have hb := B.bytes
  have hr := B.returns
  have hts := atoms_spec (ws := Cond.codeWith yL_call cL_call 7 (some .int) [(0, 60, 61, 27), (0, 60, 67, 29), (0, 60, 73, 31)] :: ALL) B.pre
  have hta := fun w h => hts w (List.mem_cons_of_mem _ h)
  have htab : c.exceptionTable.toList = tableOf [(0, 60, 61, 27), (0, 60, 67, 29), (0, 60, 73, 31)] := vx_table (x := yL_call) B (hts _ List.mem_cons_self)
  have hown : s.vm.findClass RL = some m.cls := findClass_of_methodNamed B.named
  have hlocks := B.notSynchronized
  have hS : va_S (geA b) s.heap s.heap [] := va_S.rf
  have hl := lv_entry ([.ref (b + 0), .int p1, .int p2, .int p3, .int p4, .int p5]) (n := 7) (Nat.le_of_ble_eq_true rfl)
  rw [lg_entry_eq]
  generalize (lg_sl ([.ref (b + 0), .int p1, .int p2, .int p3, .int p4, .int p5]) ++ List.replicate (7 - (lg_sl ([.ref (b + 0), .int p1, .int p2, .int p3, .int p4, .int p5])).length) Slot.unset).toArray = ls at hl ⊢
  have hl : lv_has ls 7 [(0, .ref (b + 0)), (1, .int p1), (2, .int p2), (3, .int p3), (4, .int p4), (5, .int p5)] := hl
  unfold f_L_call at hf
  refine lv_iload_n hx hb dL_call_0 rfl (lv_at hl 1 rfl) ?_
  refine lv_bipush (v := 12) hx hb dL_call_1 (by decide) ?_
  refine lv_icmp_ge (tgt := 20) hx hb dL_call_3 (by decide) (fun h1 => ?_) (fun h1 => ?_)
  · have hf := ifp h1 hf
    refine lv_iload_n hx hb dL_call_20 rfl (lv_at hl 1 rfl) ?_
    refine lv_bipush (v := 22) hx hb dL_call_21 (by decide) ?_
    refine lv_icmp_ge (tgt := 38) hx hb dL_call_23 (by decide) (fun h2 => ?_) (fun h2 => ?_)
    · have hf := ifp h2 hf
      refine lv_iload_n hx hb dL_call_38 rfl (lv_at hl 1 rfl) ?_
      refine lv_bipush (v := 32) hx hb dL_call_39 (by decide) ?_
      refine lv_icmp_ge (tgt := 53) hx hb dL_call_41 (by decide) (fun h3 => ?_) (fun h3 => ?_)
      · have hf := ifp h3 hf
        refine lv_aload_n hx hb dL_call_53 rfl (lv_at hl 0 rfl) ?_
        refine lv_iload_n hx hb dL_call_54 rfl (lv_at hl 1 rfl) ?_
        refine lv_iload_n hx hb dL_call_55 rfl (lv_at hl 2 rfl) ?_
        refine lv_iload_n hx hb dL_call_56 rfl (lv_at hl 3 rfl) ?_
        rcases bws_e hf with ⟨k6, τ, u7, hf⟩ | ⟨⟨y8, σ9⟩, u7, hf⟩
        · skip
          by_cases h0 : k6 = 1
          · have hf := ifp h0 hf
            subst h0
            refine lSX (n := 4) (As := [.ref (b + 0), .int p1, .int p2, .int p3]) (rest := []) (c_L_rest l hfl D t b σ p1 p2 p3 (.inl (1, τ)) u7) hx hb hml hown hts hE hsub hW hS q818 q819 q33  q820 hs_L_rest ⟨rfl, rfl⟩ ⟨Nat.le_of_ble_eq_true rfl, Nat.le_of_ble_eq_true rfl⟩ rfl rfl hl.1 (Nat.le_of_ble_eq_true rfl) ⟨show 0 + 2 ≤ 4 by omega, show 0 + 12 ≤ 24 by omega⟩ dL_call_57 (fun k2 σ2 hk H locs ce q9 hW hS hce hcv hcl => ?_) (fun _ _ hz => by cases hz)
            cases hk
            refine vx_catch (name := exn 1) hown [] ⟨0, 60, 61, 27⟩ [⟨0, 60, 67, 29⟩, ⟨0, 60, 73, 31⟩] htab (fun z hz => by cases hz) (by decide) (by decide) (hta _ lk_1) (va_Nw.use (NG_tab _ ca_1) (hE.2.1 _ ca_1)) hce hcv hcl ?_
            refine W.widen (k := 2) (n := 12) (by omega) (by omega) ?_
            refine lv_astore (lv' := [(6, .ref q9), (0, .ref (b + 0)), (1, .int p1), (2, .int p2), (3, .int p3), (4, .int p4), (5, .int p5)]) hx hb dL_call_61 hl (by decide) rfl (fun ls hl => ?_)
            refine lv_sipush (v := (-2011)) hx hb dL_call_63 (by decide) ?_
            cases hf
            refine W.widen (k := 4) (n := 24) (by omega) (by omega) ?_
            exact W.iret hx hb hr (fun u hu _ => ⟨⟨rfl, by rw [hu]; exact hW⟩, hS.F hu⟩) hS.2.2 dL_call_66
          · have hf := ifn h0 hf
            by_cases h1 : k6 = 2
            · have hf := ifp h1 hf
              subst h1
              refine lSX (n := 4) (As := [.ref (b + 0), .int p1, .int p2, .int p3]) (rest := []) (c_L_rest l hfl D t b σ p1 p2 p3 (.inl (2, τ)) u7) hx hb hml hown hts hE hsub hW hS q818 q819 q33  q820 hs_L_rest ⟨rfl, rfl⟩ ⟨Nat.le_of_ble_eq_true rfl, Nat.le_of_ble_eq_true rfl⟩ rfl rfl hl.1 (Nat.le_of_ble_eq_true rfl) ⟨show 0 + 2 ≤ 4 by omega, show 0 + 12 ≤ 24 by omega⟩ dL_call_57 (fun k2 σ2 hk H locs ce q9 hW hS hce hcv hcl => ?_) (fun _ _ hz => by cases hz)
              cases hk
              refine vx_catch (name := exn 2) hown [⟨0, 60, 61, 27⟩] ⟨0, 60, 67, 29⟩ [⟨0, 60, 73, 31⟩] htab (fun z hz => by rw [List.mem_singleton.mp hz]; exact Or.inr ⟨by decide, _, hta _ lk_1, nc_21 hE⟩) (by decide) (by decide) (hta _ lk_2) (va_Nw.use (NG_tab _ ca_2) (hE.2.1 _ ca_2)) hce hcv hcl ?_
              refine W.widen (k := 2) (n := 12) (by omega) (by omega) ?_
              refine lv_astore (lv' := [(6, .ref q9), (0, .ref (b + 0)), (1, .int p1), (2, .int p2), (3, .int p3), (4, .int p4), (5, .int p5)]) hx hb dL_call_67 hl (by decide) rfl (fun ls hl => ?_)
              refine lv_sipush (v := (-2012)) hx hb dL_call_69 (by decide) ?_
              cases hf
              refine W.widen (k := 4) (n := 24) (by omega) (by omega) ?_
              exact W.iret hx hb hr (fun u hu _ => ⟨⟨rfl, by rw [hu]; exact hW⟩, hS.F hu⟩) hS.2.2 dL_call_72
            · have hf := ifn h1 hf
              by_cases h2 : k6 = 3
              · have hf := ifp h2 hf
                subst h2
                refine lSX (n := 4) (As := [.ref (b + 0), .int p1, .int p2, .int p3]) (rest := []) (c_L_rest l hfl D t b σ p1 p2 p3 (.inl (3, τ)) u7) hx hb hml hown hts hE hsub hW hS q818 q819 q33  q820 hs_L_rest ⟨rfl, rfl⟩ ⟨Nat.le_of_ble_eq_true rfl, Nat.le_of_ble_eq_true rfl⟩ rfl rfl hl.1 (Nat.le_of_ble_eq_true rfl) ⟨show 0 + 2 ≤ 4 by omega, show 0 + 12 ≤ 24 by omega⟩ dL_call_57 (fun k2 σ2 hk H locs ce q9 hW hS hce hcv hcl => ?_) (fun _ _ hz => by cases hz)
                cases hk
                refine vx_catch (name := exn 3) hown [⟨0, 60, 61, 27⟩, ⟨0, 60, 67, 29⟩] ⟨0, 60, 73, 31⟩ [] htab (fun z hz => (List.mem_cons.mp hz).elim (fun h => by rw [h]; exact Or.inr ⟨by decide, _, hta _ lk_1, nc_31 hE⟩) (fun h => by rw [List.mem_singleton.mp h]; exact Or.inr ⟨by decide, _, hta _ lk_2, nc_32 hE⟩)) (by decide) (by decide) (hta _ lk_3) (va_Nw.use (NG_tab _ ca_3) (hE.2.1 _ ca_3)) hce hcv hcl ?_
                refine W.widen (k := 2) (n := 12) (by omega) (by omega) ?_
                refine lv_astore (lv' := [(6, .ref q9), (0, .ref (b + 0)), (1, .int p1), (2, .int p2), (3, .int p3), (4, .int p4), (5, .int p5)]) hx hb dL_call_73 hl (by decide) rfl (fun ls hl => ?_)
                refine lv_sipush (v := (-2013)) hx hb dL_call_75 (by decide) ?_
                cases hf
                refine W.widen (k := 4) (n := 24) (by omega) (by omega) ?_
                exact W.iret hx hb hr (fun u hu _ => ⟨⟨rfl, by rw [hu]; exact hW⟩, hS.F hu⟩) hS.2.2 dL_call_78
              · have hf := ifn h2 hf
                cases hf
        · refine lSX (n := 4) (As := [.ref (b + 0), .int p1, .int p2, .int p3]) (rest := []) (c_L_rest l hfl D t b σ p1 p2 p3 (.inr (y8, σ9)) u7) hx hb hml hown hts hE hsub hW hS q818 q819 q33  q820 hs_L_rest ⟨rfl, rfl⟩ ⟨Nat.le_of_ble_eq_true rfl, Nat.le_of_ble_eq_true rfl⟩ rfl rfl hl.1 (Nat.le_of_ble_eq_true rfl) ⟨show 0 + 2 ≤ 4 by omega, show 0 + 12 ≤ 24 by omega⟩ dL_call_57 (fun _ _ hz => by cases hz) (fun v2 σ2 hz H locs hW hS _ => ?_)
          cases hz
          refine W.widen (k := 2) (n := 12) (by omega) (by omega) ?_
          cases hf
          refine W.widen (k := 4) (n := 24) (by omega) (by omega) ?_
          exact W.iret hx hb hr (fun u hu _ => ⟨⟨rfl, by rw [hu]; exact hW⟩, hS.F hu⟩) hS.2.2 dL_call_60
      · have hf := ifn h3 hf
        refine lv_aload_n hx hb dL_call_44 rfl (lv_at hl 0 rfl) ?_
        refine lv_iload_n hx hb dL_call_45 rfl (lv_at hl 1 rfl) ?_
        refine lv_iload_n hx hb dL_call_46 rfl (lv_at hl 2 rfl) ?_
        rcases bws_e hf with ⟨k12, τ, u13, hf⟩ | ⟨⟨y14, σ15⟩, u13, hf⟩
        · skip
          by_cases h0 : k12 = 1
          · have hf := ifp h0 hf
            subst h0
            refine lSX (n := 3) (As := [.ref (b + 0), .int p1, .int p2]) (rest := []) (c_L_child l hfl D t b σ p1 p2 (.inl (1, τ)) u13) hx hb hml hown hts hE hsub hW hS q763 q764 q33  q765 hs_L_child ⟨rfl, rfl⟩ ⟨Nat.le_of_ble_eq_true rfl, Nat.le_of_ble_eq_true rfl⟩ rfl rfl hl.1 (Nat.le_of_ble_eq_true rfl) ⟨show 0 + 1 ≤ 4 by omega, show 0 + 6 ≤ 24 by omega⟩ dL_call_47 (fun k2 σ2 hk H locs ce q9 hW hS hce hcv hcl => ?_) (fun _ _ hz => by cases hz)
            cases hk
            refine vx_catch (name := exn 1) hown [] ⟨0, 60, 61, 27⟩ [⟨0, 60, 67, 29⟩, ⟨0, 60, 73, 31⟩] htab (fun z hz => by cases hz) (by decide) (by decide) (hta _ lk_1) (va_Nw.use (NG_tab _ ca_1) (hE.2.1 _ ca_1)) hce hcv hcl ?_
            refine W.widen (k := 1) (n := 6) (by omega) (by omega) ?_
            refine lv_astore (lv' := [(6, .ref q9), (0, .ref (b + 0)), (1, .int p1), (2, .int p2), (3, .int p3), (4, .int p4), (5, .int p5)]) hx hb dL_call_61 hl (by decide) rfl (fun ls hl => ?_)
            refine lv_sipush (v := (-2011)) hx hb dL_call_63 (by decide) ?_
            cases hf
            refine W.widen (k := 4) (n := 24) (by omega) (by omega) ?_
            exact W.iret hx hb hr (fun u hu _ => ⟨⟨rfl, by rw [hu]; exact hW⟩, hS.F hu⟩) hS.2.2 dL_call_66
          · have hf := ifn h0 hf
            by_cases h1 : k12 = 2
            · have hf := ifp h1 hf
              subst h1
              refine lSX (n := 3) (As := [.ref (b + 0), .int p1, .int p2]) (rest := []) (c_L_child l hfl D t b σ p1 p2 (.inl (2, τ)) u13) hx hb hml hown hts hE hsub hW hS q763 q764 q33  q765 hs_L_child ⟨rfl, rfl⟩ ⟨Nat.le_of_ble_eq_true rfl, Nat.le_of_ble_eq_true rfl⟩ rfl rfl hl.1 (Nat.le_of_ble_eq_true rfl) ⟨show 0 + 1 ≤ 4 by omega, show 0 + 6 ≤ 24 by omega⟩ dL_call_47 (fun k2 σ2 hk H locs ce q9 hW hS hce hcv hcl => ?_) (fun _ _ hz => by cases hz)
              cases hk
              refine vx_catch (name := exn 2) hown [⟨0, 60, 61, 27⟩] ⟨0, 60, 67, 29⟩ [⟨0, 60, 73, 31⟩] htab (fun z hz => by rw [List.mem_singleton.mp hz]; exact Or.inr ⟨by decide, _, hta _ lk_1, nc_21 hE⟩) (by decide) (by decide) (hta _ lk_2) (va_Nw.use (NG_tab _ ca_2) (hE.2.1 _ ca_2)) hce hcv hcl ?_
              refine W.widen (k := 1) (n := 6) (by omega) (by omega) ?_
              refine lv_astore (lv' := [(6, .ref q9), (0, .ref (b + 0)), (1, .int p1), (2, .int p2), (3, .int p3), (4, .int p4), (5, .int p5)]) hx hb dL_call_67 hl (by decide) rfl (fun ls hl => ?_)
              refine lv_sipush (v := (-2012)) hx hb dL_call_69 (by decide) ?_
              cases hf
              refine W.widen (k := 4) (n := 24) (by omega) (by omega) ?_
              exact W.iret hx hb hr (fun u hu _ => ⟨⟨rfl, by rw [hu]; exact hW⟩, hS.F hu⟩) hS.2.2 dL_call_72
            · have hf := ifn h1 hf
              by_cases h2 : k12 = 3
              · have hf := ifp h2 hf
                subst h2
                refine lSX (n := 3) (As := [.ref (b + 0), .int p1, .int p2]) (rest := []) (c_L_child l hfl D t b σ p1 p2 (.inl (3, τ)) u13) hx hb hml hown hts hE hsub hW hS q763 q764 q33  q765 hs_L_child ⟨rfl, rfl⟩ ⟨Nat.le_of_ble_eq_true rfl, Nat.le_of_ble_eq_true rfl⟩ rfl rfl hl.1 (Nat.le_of_ble_eq_true rfl) ⟨show 0 + 1 ≤ 4 by omega, show 0 + 6 ≤ 24 by omega⟩ dL_call_47 (fun k2 σ2 hk H locs ce q9 hW hS hce hcv hcl => ?_) (fun _ _ hz => by cases hz)
                cases hk
                refine vx_catch (name := exn 3) hown [⟨0, 60, 61, 27⟩, ⟨0, 60, 67, 29⟩] ⟨0, 60, 73, 31⟩ [] htab (fun z hz => (List.mem_cons.mp hz).elim (fun h => by rw [h]; exact Or.inr ⟨by decide, _, hta _ lk_1, nc_31 hE⟩) (fun h => by rw [List.mem_singleton.mp h]; exact Or.inr ⟨by decide, _, hta _ lk_2, nc_32 hE⟩)) (by decide) (by decide) (hta _ lk_3) (va_Nw.use (NG_tab _ ca_3) (hE.2.1 _ ca_3)) hce hcv hcl ?_
                refine W.widen (k := 1) (n := 6) (by omega) (by omega) ?_
                refine lv_astore (lv' := [(6, .ref q9), (0, .ref (b + 0)), (1, .int p1), (2, .int p2), (3, .int p3), (4, .int p4), (5, .int p5)]) hx hb dL_call_73 hl (by decide) rfl (fun ls hl => ?_)
                refine lv_sipush (v := (-2013)) hx hb dL_call_75 (by decide) ?_
                cases hf
                refine W.widen (k := 4) (n := 24) (by omega) (by omega) ?_
                exact W.iret hx hb hr (fun u hu _ => ⟨⟨rfl, by rw [hu]; exact hW⟩, hS.F hu⟩) hS.2.2 dL_call_78
              · have hf := ifn h2 hf
                cases hf
        · refine lSX (n := 3) (As := [.ref (b + 0), .int p1, .int p2]) (rest := []) (c_L_child l hfl D t b σ p1 p2 (.inr (y14, σ15)) u13) hx hb hml hown hts hE hsub hW hS q763 q764 q33  q765 hs_L_child ⟨rfl, rfl⟩ ⟨Nat.le_of_ble_eq_true rfl, Nat.le_of_ble_eq_true rfl⟩ rfl rfl hl.1 (Nat.le_of_ble_eq_true rfl) ⟨show 0 + 1 ≤ 4 by omega, show 0 + 6 ≤ 24 by omega⟩ dL_call_47 (fun _ _ hz => by cases hz) (fun v2 σ2 hz H locs hW hS _ => ?_)
          cases hz
          refine W.widen (k := 1) (n := 6) (by omega) (by omega) ?_
          refine lv_goto (tgt := 60) hx hb dL_call_50 (by decide) ?_
          cases hf
          refine W.widen (k := 4) (n := 24) (by omega) (by omega) ?_
          exact W.iret hx hb hr (fun u hu _ => ⟨⟨rfl, by rw [hu]; exact hW⟩, hS.F hu⟩) hS.2.2 dL_call_60
    · have hf := ifn h2 hf
      refine lv_aload_n hx hb dL_call_26 rfl (lv_at hl 0 rfl) ?_
      refine lv_iload_n hx hb dL_call_27 rfl (lv_at hl 1 rfl) ?_
      refine lv_iload_n hx hb dL_call_28 rfl (lv_at hl 2 rfl) ?_
      refine lv_iload_n hx hb dL_call_29 rfl (lv_at hl 3 rfl) ?_
      refine lv_iload hx hb dL_call_30 (lv_at hl 4 rfl) ?_
      rcases bws_e hf with ⟨k18, τ, u19, hf⟩ | ⟨⟨y20, σ21⟩, u19, hf⟩
      · skip
        by_cases h0 : k18 = 1
        · have hf := ifp h0 hf
          subst h0
          refine lSX (n := 5) (As := [.ref (b + 0), .int p1, .int p2, .int p3, .int p4]) (rest := []) (c_L_stall l hfl D t b σ p1 p2 p3 p4 (.inl (1, τ)) u19) hx hb hml hown hts hE hsub hW hS q716 q717 q33  q718 hs_L_stall ⟨rfl, rfl⟩ ⟨Nat.le_of_ble_eq_true rfl, Nat.le_of_ble_eq_true rfl⟩ rfl rfl hl.1 (Nat.le_of_ble_eq_true rfl) ⟨show 0 + 3 ≤ 4 by omega, show 0 + 18 ≤ 24 by omega⟩ dL_call_32 (fun k2 σ2 hk H locs ce q9 hW hS hce hcv hcl => ?_) (fun _ _ hz => by cases hz)
          cases hk
          refine vx_catch (name := exn 1) hown [] ⟨0, 60, 61, 27⟩ [⟨0, 60, 67, 29⟩, ⟨0, 60, 73, 31⟩] htab (fun z hz => by cases hz) (by decide) (by decide) (hta _ lk_1) (va_Nw.use (NG_tab _ ca_1) (hE.2.1 _ ca_1)) hce hcv hcl ?_
          refine W.widen (k := 3) (n := 18) (by omega) (by omega) ?_
          refine lv_astore (lv' := [(6, .ref q9), (0, .ref (b + 0)), (1, .int p1), (2, .int p2), (3, .int p3), (4, .int p4), (5, .int p5)]) hx hb dL_call_61 hl (by decide) rfl (fun ls hl => ?_)
          refine lv_sipush (v := (-2011)) hx hb dL_call_63 (by decide) ?_
          cases hf
          refine W.widen (k := 4) (n := 24) (by omega) (by omega) ?_
          exact W.iret hx hb hr (fun u hu _ => ⟨⟨rfl, by rw [hu]; exact hW⟩, hS.F hu⟩) hS.2.2 dL_call_66
        · have hf := ifn h0 hf
          by_cases h1 : k18 = 2
          · have hf := ifp h1 hf
            subst h1
            refine lSX (n := 5) (As := [.ref (b + 0), .int p1, .int p2, .int p3, .int p4]) (rest := []) (c_L_stall l hfl D t b σ p1 p2 p3 p4 (.inl (2, τ)) u19) hx hb hml hown hts hE hsub hW hS q716 q717 q33  q718 hs_L_stall ⟨rfl, rfl⟩ ⟨Nat.le_of_ble_eq_true rfl, Nat.le_of_ble_eq_true rfl⟩ rfl rfl hl.1 (Nat.le_of_ble_eq_true rfl) ⟨show 0 + 3 ≤ 4 by omega, show 0 + 18 ≤ 24 by omega⟩ dL_call_32 (fun k2 σ2 hk H locs ce q9 hW hS hce hcv hcl => ?_) (fun _ _ hz => by cases hz)
            cases hk
            refine vx_catch (name := exn 2) hown [⟨0, 60, 61, 27⟩] ⟨0, 60, 67, 29⟩ [⟨0, 60, 73, 31⟩] htab (fun z hz => by rw [List.mem_singleton.mp hz]; exact Or.inr ⟨by decide, _, hta _ lk_1, nc_21 hE⟩) (by decide) (by decide) (hta _ lk_2) (va_Nw.use (NG_tab _ ca_2) (hE.2.1 _ ca_2)) hce hcv hcl ?_
            refine W.widen (k := 3) (n := 18) (by omega) (by omega) ?_
            refine lv_astore (lv' := [(6, .ref q9), (0, .ref (b + 0)), (1, .int p1), (2, .int p2), (3, .int p3), (4, .int p4), (5, .int p5)]) hx hb dL_call_67 hl (by decide) rfl (fun ls hl => ?_)
            refine lv_sipush (v := (-2012)) hx hb dL_call_69 (by decide) ?_
            cases hf
            refine W.widen (k := 4) (n := 24) (by omega) (by omega) ?_
            exact W.iret hx hb hr (fun u hu _ => ⟨⟨rfl, by rw [hu]; exact hW⟩, hS.F hu⟩) hS.2.2 dL_call_72
          · have hf := ifn h1 hf
            by_cases h2 : k18 = 3
            · have hf := ifp h2 hf
              subst h2
              refine lSX (n := 5) (As := [.ref (b + 0), .int p1, .int p2, .int p3, .int p4]) (rest := []) (c_L_stall l hfl D t b σ p1 p2 p3 p4 (.inl (3, τ)) u19) hx hb hml hown hts hE hsub hW hS q716 q717 q33  q718 hs_L_stall ⟨rfl, rfl⟩ ⟨Nat.le_of_ble_eq_true rfl, Nat.le_of_ble_eq_true rfl⟩ rfl rfl hl.1 (Nat.le_of_ble_eq_true rfl) ⟨show 0 + 3 ≤ 4 by omega, show 0 + 18 ≤ 24 by omega⟩ dL_call_32 (fun k2 σ2 hk H locs ce q9 hW hS hce hcv hcl => ?_) (fun _ _ hz => by cases hz)
              cases hk
              refine vx_catch (name := exn 3) hown [⟨0, 60, 61, 27⟩, ⟨0, 60, 67, 29⟩] ⟨0, 60, 73, 31⟩ [] htab (fun z hz => (List.mem_cons.mp hz).elim (fun h => by rw [h]; exact Or.inr ⟨by decide, _, hta _ lk_1, nc_31 hE⟩) (fun h => by rw [List.mem_singleton.mp h]; exact Or.inr ⟨by decide, _, hta _ lk_2, nc_32 hE⟩)) (by decide) (by decide) (hta _ lk_3) (va_Nw.use (NG_tab _ ca_3) (hE.2.1 _ ca_3)) hce hcv hcl ?_
              refine W.widen (k := 3) (n := 18) (by omega) (by omega) ?_
              refine lv_astore (lv' := [(6, .ref q9), (0, .ref (b + 0)), (1, .int p1), (2, .int p2), (3, .int p3), (4, .int p4), (5, .int p5)]) hx hb dL_call_73 hl (by decide) rfl (fun ls hl => ?_)
              refine lv_sipush (v := (-2013)) hx hb dL_call_75 (by decide) ?_
              cases hf
              refine W.widen (k := 4) (n := 24) (by omega) (by omega) ?_
              exact W.iret hx hb hr (fun u hu _ => ⟨⟨rfl, by rw [hu]; exact hW⟩, hS.F hu⟩) hS.2.2 dL_call_78
            · have hf := ifn h2 hf
              cases hf
      · refine lSX (n := 5) (As := [.ref (b + 0), .int p1, .int p2, .int p3, .int p4]) (rest := []) (c_L_stall l hfl D t b σ p1 p2 p3 p4 (.inr (y20, σ21)) u19) hx hb hml hown hts hE hsub hW hS q716 q717 q33  q718 hs_L_stall ⟨rfl, rfl⟩ ⟨Nat.le_of_ble_eq_true rfl, Nat.le_of_ble_eq_true rfl⟩ rfl rfl hl.1 (Nat.le_of_ble_eq_true rfl) ⟨show 0 + 3 ≤ 4 by omega, show 0 + 18 ≤ 24 by omega⟩ dL_call_32 (fun _ _ hz => by cases hz) (fun v2 σ2 hz H locs hW hS _ => ?_)
        cases hz
        refine W.widen (k := 3) (n := 18) (by omega) (by omega) ?_
        refine lv_goto (tgt := 60) hx hb dL_call_35 (by decide) ?_
        cases hf
        refine W.widen (k := 4) (n := 24) (by omega) (by omega) ?_
        exact W.iret hx hb hr (fun u hu _ => ⟨⟨rfl, by rw [hu]; exact hW⟩, hS.F hu⟩) hS.2.2 dL_call_60
  · have hf := ifn h1 hf
    refine lv_aload_n hx hb dL_call_6 rfl (lv_at hl 0 rfl) ?_
    refine lv_iload_n hx hb dL_call_7 rfl (lv_at hl 1 rfl) ?_
    refine lv_iload_n hx hb dL_call_8 rfl (lv_at hl 2 rfl) ?_
    refine lv_iload_n hx hb dL_call_9 rfl (lv_at hl 3 rfl) ?_
    refine lv_iload hx hb dL_call_10 (lv_at hl 4 rfl) ?_
    refine lv_iload hx hb dL_call_12 (lv_at hl 5 rfl) ?_
    rcases bws_e hf with ⟨k24, τ, u25, hf⟩ | ⟨⟨y26, σ27⟩, u25, hf⟩
    · skip
      by_cases h0 : k24 = 1
      · have hf := ifp h0 hf
        subst h0
        refine lSX (n := 6) (As := [.ref (b + 0), .int p1, .int p2, .int p3, .int p4, .int p5]) (rest := []) (c_L_act l hfl D t b σ p1 p2 p3 p4 p5 (.inl (1, τ)) u25) hx hb hml hown hts hE hsub hW hS q579 q580 q33  q581 hs_L_act ⟨rfl, rfl⟩ ⟨Nat.le_of_ble_eq_true rfl, Nat.le_of_ble_eq_true rfl⟩ rfl rfl hl.1 (Nat.le_of_ble_eq_true rfl) ⟨show 0 + 4 ≤ 4 by omega, show 0 + 24 ≤ 24 by omega⟩ dL_call_14 (fun k2 σ2 hk H locs ce q9 hW hS hce hcv hcl => ?_) (fun _ _ hz => by cases hz)
        cases hk
        refine vx_catch (name := exn 1) hown [] ⟨0, 60, 61, 27⟩ [⟨0, 60, 67, 29⟩, ⟨0, 60, 73, 31⟩] htab (fun z hz => by cases hz) (by decide) (by decide) (hta _ lk_1) (va_Nw.use (NG_tab _ ca_1) (hE.2.1 _ ca_1)) hce hcv hcl ?_
        refine W.widen (k := 4) (n := 24) (by omega) (by omega) ?_
        refine lv_astore (lv' := [(6, .ref q9), (0, .ref (b + 0)), (1, .int p1), (2, .int p2), (3, .int p3), (4, .int p4), (5, .int p5)]) hx hb dL_call_61 hl (by decide) rfl (fun ls hl => ?_)
        refine lv_sipush (v := (-2011)) hx hb dL_call_63 (by decide) ?_
        cases hf
        refine W.widen (k := 4) (n := 24) (by omega) (by omega) ?_
        exact W.iret hx hb hr (fun u hu _ => ⟨⟨rfl, by rw [hu]; exact hW⟩, hS.F hu⟩) hS.2.2 dL_call_66
      · have hf := ifn h0 hf
        by_cases h1 : k24 = 2
        · have hf := ifp h1 hf
          subst h1
          refine lSX (n := 6) (As := [.ref (b + 0), .int p1, .int p2, .int p3, .int p4, .int p5]) (rest := []) (c_L_act l hfl D t b σ p1 p2 p3 p4 p5 (.inl (2, τ)) u25) hx hb hml hown hts hE hsub hW hS q579 q580 q33  q581 hs_L_act ⟨rfl, rfl⟩ ⟨Nat.le_of_ble_eq_true rfl, Nat.le_of_ble_eq_true rfl⟩ rfl rfl hl.1 (Nat.le_of_ble_eq_true rfl) ⟨show 0 + 4 ≤ 4 by omega, show 0 + 24 ≤ 24 by omega⟩ dL_call_14 (fun k2 σ2 hk H locs ce q9 hW hS hce hcv hcl => ?_) (fun _ _ hz => by cases hz)
          cases hk
          refine vx_catch (name := exn 2) hown [⟨0, 60, 61, 27⟩] ⟨0, 60, 67, 29⟩ [⟨0, 60, 73, 31⟩] htab (fun z hz => by rw [List.mem_singleton.mp hz]; exact Or.inr ⟨by decide, _, hta _ lk_1, nc_21 hE⟩) (by decide) (by decide) (hta _ lk_2) (va_Nw.use (NG_tab _ ca_2) (hE.2.1 _ ca_2)) hce hcv hcl ?_
          refine W.widen (k := 4) (n := 24) (by omega) (by omega) ?_
          refine lv_astore (lv' := [(6, .ref q9), (0, .ref (b + 0)), (1, .int p1), (2, .int p2), (3, .int p3), (4, .int p4), (5, .int p5)]) hx hb dL_call_67 hl (by decide) rfl (fun ls hl => ?_)
          refine lv_sipush (v := (-2012)) hx hb dL_call_69 (by decide) ?_
          cases hf
          refine W.widen (k := 4) (n := 24) (by omega) (by omega) ?_
          exact W.iret hx hb hr (fun u hu _ => ⟨⟨rfl, by rw [hu]; exact hW⟩, hS.F hu⟩) hS.2.2 dL_call_72
        · have hf := ifn h1 hf
          by_cases h2 : k24 = 3
          · have hf := ifp h2 hf
            subst h2
            refine lSX (n := 6) (As := [.ref (b + 0), .int p1, .int p2, .int p3, .int p4, .int p5]) (rest := []) (c_L_act l hfl D t b σ p1 p2 p3 p4 p5 (.inl (3, τ)) u25) hx hb hml hown hts hE hsub hW hS q579 q580 q33  q581 hs_L_act ⟨rfl, rfl⟩ ⟨Nat.le_of_ble_eq_true rfl, Nat.le_of_ble_eq_true rfl⟩ rfl rfl hl.1 (Nat.le_of_ble_eq_true rfl) ⟨show 0 + 4 ≤ 4 by omega, show 0 + 24 ≤ 24 by omega⟩ dL_call_14 (fun k2 σ2 hk H locs ce q9 hW hS hce hcv hcl => ?_) (fun _ _ hz => by cases hz)
            cases hk
            refine vx_catch (name := exn 3) hown [⟨0, 60, 61, 27⟩, ⟨0, 60, 67, 29⟩] ⟨0, 60, 73, 31⟩ [] htab (fun z hz => (List.mem_cons.mp hz).elim (fun h => by rw [h]; exact Or.inr ⟨by decide, _, hta _ lk_1, nc_31 hE⟩) (fun h => by rw [List.mem_singleton.mp h]; exact Or.inr ⟨by decide, _, hta _ lk_2, nc_32 hE⟩)) (by decide) (by decide) (hta _ lk_3) (va_Nw.use (NG_tab _ ca_3) (hE.2.1 _ ca_3)) hce hcv hcl ?_
            refine W.widen (k := 4) (n := 24) (by omega) (by omega) ?_
            refine lv_astore (lv' := [(6, .ref q9), (0, .ref (b + 0)), (1, .int p1), (2, .int p2), (3, .int p3), (4, .int p4), (5, .int p5)]) hx hb dL_call_73 hl (by decide) rfl (fun ls hl => ?_)
            refine lv_sipush (v := (-2013)) hx hb dL_call_75 (by decide) ?_
            cases hf
            refine W.widen (k := 4) (n := 24) (by omega) (by omega) ?_
            exact W.iret hx hb hr (fun u hu _ => ⟨⟨rfl, by rw [hu]; exact hW⟩, hS.F hu⟩) hS.2.2 dL_call_78
          · have hf := ifn h2 hf
            cases hf
    · refine lSX (n := 6) (As := [.ref (b + 0), .int p1, .int p2, .int p3, .int p4, .int p5]) (rest := []) (c_L_act l hfl D t b σ p1 p2 p3 p4 p5 (.inr (y26, σ27)) u25) hx hb hml hown hts hE hsub hW hS q579 q580 q33  q581 hs_L_act ⟨rfl, rfl⟩ ⟨Nat.le_of_ble_eq_true rfl, Nat.le_of_ble_eq_true rfl⟩ rfl rfl hl.1 (Nat.le_of_ble_eq_true rfl) ⟨show 0 + 4 ≤ 4 by omega, show 0 + 24 ≤ 24 by omega⟩ dL_call_14 (fun _ _ hz => by cases hz) (fun v2 σ2 hz H locs hW hS _ => ?_)
      cases hz
      refine W.widen (k := 4) (n := 24) (by omega) (by omega) ?_
      refine lv_goto (tgt := 60) hx hb dL_call_17 (by decide) ?_
      cases hf
      refine W.widen (k := 4) (n := 24) (by omega) (by omega) ?_
      exact W.iret hx hb hr (fun u hu _ => ⟨⟨rfl, by rw [hu]; exact hW⟩, hS.F hu⟩) hS.2.2 dL_call_60

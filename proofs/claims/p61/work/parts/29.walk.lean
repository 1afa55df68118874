def l_L_law_96 (X : Int32 → Option Int32) : Nat → Sg → (Nat → Int64) → Int32 → Int64 → Int32 → Option (Int32 ⊕ (Sg × (Nat → Int64) × Int32 × Int64))
  | 0, _, _, _, _, _ => none
  | n + 1, τ, wx, x3, x4, x6 => if 26 ≤ x6 then (some (.inr (τ, wx, x3, x4))) else (b1 (X x6) fun y31 => b1 (f_L_part y31 26) fun y33 => b2L (f_L_seen τ) fun y35 σ37 => gd x3 64 (stw (vp_updL wx (x3).toNatClampNeg y35) fun w39 => b1 (f_X4_recordedStates σ37) fun y41 => b1 (f_L_part (y31 >>> (5 &&& 31)) 4) fun y43 => b1 (f_L_part (y31 >>> (8 &&& 31)) 5) fun y45 => b1 (f_L_part (y31 >>> (10 &&& 31)) 7) fun y47 => if 4 ≤ y33 then (if y33 = 4 then (b2 (f_L_call σ37 1 y43 0 0 0) fun y51 σ53 => if (-1999) ≤ y51 then (l_L_law_96 X n σ53 w39 (x3 + 1) x4 (x6 + 1)) else (b1 (f_X4_recordedStates σ53) fun y58 => if y58 = y41 then (b2L (f_L_seen σ53) fun y61 σ63 => if y61 = (w39 (x3).toNatClampNeg) then (l_L_law_96 X n σ63 w39 (x3 + 0) x4 (x6 + 1)) else (some (.inl 0))) else (some (.inl 0)))) else (if 7 ≤ y33 then (if y33 = 7 then (b2 (f_L_call σ37 3 y43 0 0 0) fun y68 σ70 => if (-1999) ≤ y68 then (l_L_law_96 X n σ70 w39 (x3 + 1) x4 (x6 + 1)) else (b1 (f_X4_recordedStates σ70) fun y75 => if y75 = y41 then (b2L (f_L_seen σ70) fun y78 σ80 => if y78 = (w39 (x3).toNatClampNeg) then (l_L_law_96 X n σ80 w39 (x3 + 0) x4 (x6 + 1)) else (some (.inl 0))) else (some (.inl 0)))) else (if 11 ≤ y33 then (if 14 ≤ y33 then (if y33 = 14 then (b2 (f_L_call σ37 6 y43 0 0 0) fun y86 σ88 => if (-1999) ≤ y86 then (l_L_law_96 X n σ88 w39 (x3 + 1) x4 (x6 + 1)) else (b1 (f_X4_recordedStates σ88) fun y93 => if y93 = y41 then (b2L (f_L_seen σ88) fun y96 σ98 => if y96 = (w39 (x3).toNatClampNeg) then (l_L_law_96 X n σ98 w39 (x3 + 0) x4 (x6 + 1)) else (some (.inl 0))) else (some (.inl 0)))) else (if 18 ≤ y33 then (if y33 = 18 then (b2 (f_L_call σ37 8 y47 y45 0 0) fun y103 σ105 => if (-1999) ≤ y103 then (l_L_law_96 X n σ105 w39 (x3 + 1) x4 (x6 + 1)) else (b1 (f_X4_recordedStates σ105) fun y110 => if y110 = y41 then (b2L (f_L_seen σ105) fun y113 σ115 => if y113 = (w39 (x3).toNatClampNeg) then (l_L_law_96 X n σ115 w39 (x3 + 0) x4 (x6 + 1)) else (some (.inl 0))) else (some (.inl 0)))) else (if 25 ≤ y33 then (b2 (f_L_call σ37 11 0 0 0 0) fun y119 σ121 => if (-1999) ≤ y119 then (l_L_law_96 X n σ121 w39 (x3 + 1) x4 (x6 + 1)) else (b1 (f_X4_recordedStates σ121) fun y126 => if y126 = y41 then (b2L (f_L_seen σ121) fun y129 σ131 => if y129 = (w39 (x3).toNatClampNeg) then (l_L_law_96 X n σ131 w39 (x3 + 0) x4 (x6 + 1)) else (some (.inl 0))) else (some (.inl 0)))) else (b2 (f_L_call σ37 9 y47 0 0 0) fun y134 σ136 => if (-1999) ≤ y134 then (l_L_law_96 X n σ136 w39 (x3 + 1) x4 (x6 + 1)) else (b1 (f_X4_recordedStates σ136) fun y141 => if y141 = y41 then (b2L (f_L_seen σ136) fun y144 σ146 => if y144 = (w39 (x3).toNatClampNeg) then (l_L_law_96 X n σ146 w39 (x3 + 0) x4 (x6 + 1)) else (some (.inl 0))) else (some (.inl 0)))))) else (b2 (f_L_call σ37 7 (9 * y47) y45 y43 0) fun y149 σ151 => if (-1999) ≤ y149 then (l_L_law_96 X n σ151 w39 (x3 + 1) x4 (x6 + 1)) else (b1 (f_X4_recordedStates σ151) fun y156 => if y156 = y41 then (b2L (f_L_seen σ151) fun y159 σ161 => if y159 = (w39 (x3).toNatClampNeg) then (l_L_law_96 X n σ161 w39 (x3 + 0) x4 (x6 + 1)) else (some (.inl 0))) else (some (.inl 0)))))) else (b2 (f_L_call σ37 5 y43 (9 * y47) 0 0) fun y164 σ166 => if (-1999) ≤ y164 then (l_L_law_96 X n σ166 w39 (x3 + 1) x4 (x6 + 1)) else (b1 (f_X4_recordedStates σ166) fun y171 => if y171 = y41 then (b2L (f_L_seen σ166) fun y174 σ176 => if y174 = (w39 (x3).toNatClampNeg) then (l_L_law_96 X n σ176 w39 (x3 + 0) x4 (x6 + 1)) else (some (.inl 0))) else (some (.inl 0))))) else (b2 (f_L_call σ37 4 y43 y45 y47 y47) fun y179 σ181 => if (-1999) ≤ y179 then (l_L_law_96 X n σ181 w39 (x3 + 1) x4 (x6 + 1)) else (b1 (f_X4_recordedStates σ181) fun y186 => if y186 = y41 then (b2L (f_L_seen σ181) fun y189 σ191 => if y189 = (w39 (x3).toNatClampNeg) then (l_L_law_96 X n σ191 w39 (x3 + 0) x4 (x6 + 1)) else (some (.inl 0))) else (some (.inl 0)))))) else (b2 (f_L_call σ37 2 y43 y47 0 0) fun y194 σ196 => if (-1999) ≤ y194 then (l_L_law_96 X n σ196 w39 (x3 + 1) x4 (x6 + 1)) else (b1 (f_X4_recordedStates σ196) fun y201 => if y201 = y41 then (b2L (f_L_seen σ196) fun y204 σ206 => if y204 = (w39 (x3).toNatClampNeg) then (l_L_law_96 X n σ206 w39 (x3 + 0) x4 (x6 + 1)) else (some (.inl 0))) else (some (.inl 0)))))) else (b2 (f_L_call σ37 0 y43 y45 y47 0) fun y209 σ211 => if (-1999) ≤ y209 then (l_L_law_96 X n σ211 w39 (x3 + 1) x4 (x6 + 1)) else (b1 (f_X4_recordedStates σ211) fun y216 => if y216 = y41 then (b2L (f_L_seen σ211) fun y219 σ221 => if y219 = (w39 (x3).toNatClampNeg) then (l_L_law_96 X n σ221 w39 (x3 + 0) x4 (x6 + 1)) else (some (.inl 0))) else (some (.inl 0))))))
def l_L_law_476 (X : Int32 → Option Int32) : Nat → Sg → (Nat → Int64) → Int32 → Int64 → Int32 → Option (Int32 ⊕ (Sg × (Nat → Int64) × Int64))
  | 0, _, _, _, _, _ => none
  | n + 1, τ, wx, x3, x4, x6 => b1 (f_X4_recordedStates τ) fun y234 => if y234 ≤ 0 then (some (.inr (τ, wx, x4))) else (if x3 ≤ x6 then (some (.inr (τ, wx, x4))) else (b1 (f_X4_recordedStates τ) fun y238 => if 3 < x6 then (some (.inl 0)) else (b2L (f_L_seen τ) fun y241 σ243 => gd (x3 - x6) 64 (if y241 = (wx ((x3 - x6)).toNatClampNeg) then (bn2 (f_X4_undo σ243) fun y246 σ248 => if y246 = (y238 - 1) then (l_L_law_476 X n σ248 wx x3 x4 (x6 + 1)) else (some (.inl 0))) else (some (.inl 0))))))
def l_L_law_537 (X : Int32 → Option Int32) : Nat → Sg → (Nat → Int64) → Int64 → Int32 → Option (Int32 ⊕ (Sg × (Nat → Int64) × Int64))
  | 0, _, _, _, _ => none
  | n + 1, τ, wx, x4, x6 => if 4 ≤ x6 then (some (.inr (τ, wx, x4))) else (b1 (f_X4_recordedStates τ) fun y251 => if y251 ≤ 0 then (some (.inr (τ, wx, x4))) else (bn2 (f_X4_undo τ) fun y254 σ256 => if 0 ≤ y254 then (l_L_law_537 X n σ256 wx x4 (x6 + 1)) else (some (.inl 0))))
set_option maxRecDepth 100000 in
def f_law (X : Int32 → Option Int32) : Option Int32 := b1 f_L_days fun y1 => if y1 = 0 then (some 0) else (b1 f_L_texts fun y4 => if y4 = 0 then (some 0) else (bn2 (f_X4_build s0 1 3 1 0) fun y7 σ9 => if y7 = 0 then (bn2 (f_X4_fund σ9 0 9) fun y11 σ13 => if y11 = 9 then (bn2 (f_X4_restock σ13 0 0 0 4) fun y15 σ17 => if y15 = 5 then (bn2 (f_X4_come σ17 30 3 0) fun y19 σ21 => if y19 = 0 then (b2 (f_X4_takeSnapshot σ21) fun y23 σ25 => if y23 = 461 then (b2L (f_L_seen σ25) fun y27 σ29 => bl id (l_L_law_96 X 27 σ29 (fun _ => 0) 0 y27 0) fun q96 => b2L (f_L_seen q96.1) fun y224 σ226 => gd q96.2.2.1 64 (stw (vp_updL q96.2.1 (q96.2.2.1).toNatClampNeg y224) fun w228 => b2 (f_L_refused σ226) fun y230 σ232 => if y230 = 0 then (some 0) else (bl id (l_L_law_476 X 6 σ232 w228 q96.2.2.1 q96.2.2.2 0) fun q476 => bl id (l_L_law_537 X 6 q476.1 q476.2.1 q476.2.2 0) fun q537 => b2 (f_L_call q537.1 10 0 0 0 0) fun y258 σ260 => if y258 = (-2013) then (bn2 (f_X4_restoreSnapshot σ260) fun y262 σ264 => if y262 = 461 then (b2L (f_L_seen σ264) fun y266 σ268 => if y266 = q537.2.2 then (b1 (f_X4_recordedStates σ268) fun y270 => if y270 = 1 then (some 1) else (some 0)) else (some 0)) else (some 0)) else (some 0)))) else (some 0)) else (some 0)) else (some 0)) else (some 0)) else (some 0)))
set_option maxHeartbeats 8000000 in
set_option maxRecDepth 100000 in
theorem law_walk {p : Program} {e : Env} {s : State} {m : MethodId} {below : List Frame} {meth : Method} {c : Code} (l : Launch) (hfl : l.stackTraces = false) {D : va_G} {t : Nat → ClassId} {b0 bA L : Nat} {xs : Nat → Int32} (hz0 : s.heap.size = b0) (hE : EVA D t (geC b0) s) (hEC : EVC D t s) (hx : p.tables.exec = Jvm.exec) (hb : c.code = cL_law) (hr : meth.sig.returnType = ret) (hml : c.maxLocals = 15) (hown : s.vm.findClass RL = some m.cls) {c9 : Cond} (hts : ∀ w ∈ c9 :: ALL, w.before #[Value.ref bA] s = true) (hX : va_X bA L xs s s.heap) (hbl : bA < s.heap.size) (hlocks : meth.locks = false) {X : Int32 → Option Int32} (hXd : ∀ k, X k = f_L_drawn L xs k) (hf : f_law X = some 1) : W p l e room_1 s m #[Value.ref bA] below meth c s.heap [] 0 0 (lw_Z below #[Value.ref bA] s) (entryFrame m ([Value.ref bA] : List Value).toArray 15) := by
  have hta : ∀ w ∈ ALL, w.before #[Value.ref bA] s = true := fun w h => hts w (List.mem_cons_of_mem _ h)
  have hbA : ¬ geC b0 bA := fun q => by have h9 : b0 ≤ bA := q; omega
  have hS : va_S (geC b0) s.heap s.heap [] := va_S.rf
  have hl := lv_entry ([.ref bA]) (n := 15) (Nat.le_of_ble_eq_true rfl)
  rw [lg_entry_eq]
  generalize (lg_sl ([.ref bA]) ++ List.replicate (15 - (lg_sl ([.ref bA])).length) Slot.unset).toArray = ls at hl ⊢
  have hl : lv_has ls 15 [(0, .ref bA)] := hl
  obtain ⟨H, hH⟩ : ∃ H, H = s.heap := ⟨_, rfl⟩
  have hS : va_S (geC b0) s.heap H [] := by rw [hH]; exact hS
  rw [← hH]
  unfold f_law at hf
  obtain ⟨y1, u2, hf⟩ := b1_e hf
  refine lMk (b0 := b0) (c_L_days l hfl D t H.size y1 u2) hx hb hml hown hts hE hEC rfl (by rw [← hz0]; exact hS.1) hS q995 q996 q33 q997 hs_L_days ⟨rfl, rfl⟩ ⟨Nat.le_of_ble_eq_true rfl, Nat.le_of_ble_eq_true rfl⟩ rfl hl.1 (Nat.le_of_ble_eq_true rfl) ⟨show 0 + 79790 ≤ 600104 by omega, show 0 + 525844 ≤ 7301314 by omega⟩ dL_law_0 (fun H locs hS _ => ?_)
  refine W.widen (k := 79790) (n := 525844) (by omega) (by omega) ?_
  refine lv_if_eq (tgt := 12) hx hb dL_law_3 (by decide) (fun h3 => ?_) (fun h3 => ?_)
  · have hf := ifp h3 hf
    refine lv_iconst (v := 0) hx hb dL_law_12 (by decide) ?_
    exact absurd (Option.some.inj hf) (by decide)
  · have hf := ifn h3 hf
    obtain ⟨y4, u5, hf⟩ := b1_e hf
    refine lMk (b0 := b0) (c_L_texts l hfl D t H.size y4 u5) hx hb hml hown hts hE hEC rfl (by rw [← hz0]; exact hS.1) hS q1062 q1063 q33 q1064 hs_L_texts ⟨rfl, rfl⟩ ⟨Nat.le_of_ble_eq_true rfl, Nat.le_of_ble_eq_true rfl⟩ rfl hl.1 (Nat.le_of_ble_eq_true rfl) ⟨show 79790 + 747 ≤ 600104 by omega, show 525844 + 16258 ≤ 7301314 by omega⟩ dL_law_6 (fun H locs hS _ => ?_)
    refine W.widen (k := 80537) (n := 542102) (by omega) (by omega) ?_
    refine lv_if_ne (tgt := 14) hx hb dL_law_9 (by decide) (fun h6 => ?_) (fun h6 => ?_)
    · have hf := ifn h6 hf
      obtain ⟨b, hbz⟩ : ∃ b, b = H.size := ⟨_, rfl⟩
      have hb1 : b0 ≤ b := by rw [hbz, ← hz0]; exact hS.1
      refine lNew (b := b) (b0 := b0) (l := l) hx hb hml hown hts hEC hbz.symm hb1 hS q47 q49 q50 q34 q51 hl ⟨Nat.le_of_ble_eq_true rfl, Nat.le_of_ble_eq_true rfl⟩ ⟨show 80537 + 193 ≤ 600104 by omega, show 542102 + 12934 ≤ 7301314 by omega⟩ dL_law_14 dL_law_17 dL_law_18 (fun H locs hW hz hS _ => ?_)
      have hsub : ∀ q, geA b q → geC b0 q := fun q h => Nat.le_trans hb1 h.1
      refine W.widen (k := 80730) (n := 555036) (by omega) (by omega) ?_
      refine lv_astore_n (lv' := [(1, .ref (b + 0)), (0, .ref bA)]) hx hb dL_law_21 rfl hl (by decide) rfl (fun ls hl => ?_)
      refine lv_bipush (v := 64) hx hb dL_law_22 (by decide) ?_
      refine cnewL (h := H.size) (N := 64) hx hb hta hE.1 qac_long (by decide) (by decide +kernel) (by decide) rfl (show 80730 + 1 ≤ 600104 by omega) (show 555036 + 64 ≤ 7301314 by omega) dL_law_24 (fun H1 hA z1 o1 => ?_)
      obtain ⟨a, ha⟩ : ∃ a, a = H.size := ⟨_, rfl⟩
      rw [← ha] at hA ⊢
      have hW : wd D t b s0 H1 := va_P.kept hW (fun k q hq => o1 q.1 (hW k q hq).lt)
      have hS : va_S (geC b0) s.heap H1 _ := ⟨Nat.le_trans hS.1 (by omega), fun q h1 h2 => (o1 q (Nat.lt_of_lt_of_le h1 hS.1)).trans (hS.2.1 q h1 h2), hS.2.2⟩
      have hna : ¬ geA b a := fun q => by have h9 : b ≤ a ∧ a < b + 193 := q; omega
      have hAa : geC b0 a := show b0 ≤ a by omega
      refine W.widen (k := 80731) (n := 555100) (by omega) (by omega) ?_
      refine lv_astore_n (lv' := [(2, .ref a), (1, .ref (b + 0)), (0, .ref bA)]) hx hb dL_law_26 rfl hl (by decide) rfl (fun ls hl => ?_)
      refine lv_iconst (v := 0) hx hb dL_law_27 (by decide) ?_
      refine lv_istore_n (lv' := [(3, .int 0), (2, .ref a), (1, .ref (b + 0)), (0, .ref bA)]) hx hb dL_law_28 rfl hl (by decide) rfl (fun ls hl => ?_)
      refine lv_aload_n hx hb dL_law_29 rfl (lv_at hl 2 rfl) ?_
      refine lv_iconst (v := 1) hx hb dL_law_30 (by decide) ?_
      refine lv_iconst (v := 3) hx hb dL_law_31 (by decide) ?_
      refine lv_iconst (v := 1) hx hb dL_law_32 (by decide) ?_
      refine lv_iconst (v := 0) hx hb dL_law_33 (by decide) ?_
      obtain ⟨y7, σ9, u8, hf⟩ := bn2_e hf
      refine lVXn (n := 4) (As := [.int 1, .int 3, .int 1, .int 0]) (rest := []) (c_X4_build l hfl D t b s0 1 3 1 0 (.inr (y7, σ9)) u8) hx hb hml hown hts hE hsub hW hS q299 q300 q301 q34 q302 hy_X4_build ⟨rfl, rfl⟩ ⟨Nat.le_of_ble_eq_true rfl, Nat.le_of_ble_eq_true rfl⟩ rfl rfl hl.1 (Nat.le_of_ble_eq_true rfl) ⟨show 80731 + 4 ≤ 600104 by omega, show 555100 + 24 ≤ 7301314 by omega⟩ dL_law_34 (fun H locs hW hS hF => ?_)
      have hA := hA.kept (hF.2 _ hA.lt hna)
      refine W.widen (k := 80735) (n := 555124) (by omega) (by omega) ?_
      refine lv_if_ne (tgt := 85) hx hb dL_law_37 (by decide) (fun h10 => ?_) (fun h10 => ?_)
      · have hf := ifn h10 hf
        refine lv_iconst (v := 0) hx hb dL_law_85 (by decide) ?_
        exact absurd (Option.some.inj hf) (by decide)
      · have hf := ifp h10 hf
        refine lv_aload_n hx hb dL_law_40 rfl (lv_at hl 2 rfl) ?_
        refine lv_iconst (v := 0) hx hb dL_law_41 (by decide) ?_
        refine lv_bipush (v := 9) hx hb dL_law_42 (by decide) ?_
        obtain ⟨y11, σ13, u12, hf⟩ := bn2_e hf
        refine lVXn (n := 2) (As := [.int 0, .int 9]) (rest := []) (c_X4_fund l hfl D t b σ9 0 9 (.inr (y11, σ13)) u12) hx hb hml hown hts hE hsub hW hS q511 q512 q513 q34 q514 hy_X4_fund ⟨rfl, rfl⟩ ⟨Nat.le_of_ble_eq_true rfl, Nat.le_of_ble_eq_true rfl⟩ rfl rfl hl.1 (Nat.le_of_ble_eq_true rfl) ⟨show 80735 + 2 ≤ 600104 by omega, show 555124 + 12 ≤ 7301314 by omega⟩ dL_law_44 (fun H locs hW hS hF => ?_)
        have hA := hA.kept (hF.2 _ hA.lt hna)
        refine W.widen (k := 80737) (n := 555136) (by omega) (by omega) ?_
        refine lv_bipush (v := 9) hx hb dL_law_47 (by decide) ?_
        refine lv_icmp_ne (tgt := 85) hx hb dL_law_49 (by decide) (fun h14 => ?_) (fun h14 => ?_)
        · have hf := ifn h14 hf
          refine lv_iconst (v := 0) hx hb dL_law_85 (by decide) ?_
          exact absurd (Option.some.inj hf) (by decide)
        · have hf := ifp h14 hf
          refine lv_aload_n hx hb dL_law_52 rfl (lv_at hl 2 rfl) ?_
          refine lv_iconst (v := 0) hx hb dL_law_53 (by decide) ?_
          refine lv_iconst (v := 0) hx hb dL_law_54 (by decide) ?_
          refine lv_iconst (v := 0) hx hb dL_law_55 (by decide) ?_
          refine lv_iconst (v := 4) hx hb dL_law_56 (by decide) ?_
          obtain ⟨y15, σ17, u16, hf⟩ := bn2_e hf
          refine lVXn (n := 4) (As := [.int 0, .int 0, .int 0, .int 4]) (rest := []) (c_X4_restock l hfl D t b σ13 0 0 0 4 (.inr (y15, σ17)) u16) hx hb hml hown hts hE hsub hW hS q466 q467 q468 q34 q469 hy_X4_restock ⟨rfl, rfl⟩ ⟨Nat.le_of_ble_eq_true rfl, Nat.le_of_ble_eq_true rfl⟩ rfl rfl hl.1 (Nat.le_of_ble_eq_true rfl) ⟨show 80737 + 4 ≤ 600104 by omega, show 555136 + 24 ≤ 7301314 by omega⟩ dL_law_57 (fun H locs hW hS hF => ?_)
          have hA := hA.kept (hF.2 _ hA.lt hna)
          refine W.widen (k := 80741) (n := 555160) (by omega) (by omega) ?_
          refine lv_iconst (v := 5) hx hb dL_law_60 (by decide) ?_
          refine lv_icmp_ne (tgt := 85) hx hb dL_law_61 (by decide) (fun h18 => ?_) (fun h18 => ?_)
          · have hf := ifn h18 hf
            refine lv_iconst (v := 0) hx hb dL_law_85 (by decide) ?_
            exact absurd (Option.some.inj hf) (by decide)
          · have hf := ifp h18 hf
            refine lv_aload_n hx hb dL_law_64 rfl (lv_at hl 2 rfl) ?_
            refine lv_bipush (v := 30) hx hb dL_law_65 (by decide) ?_
            refine lv_iconst (v := 3) hx hb dL_law_67 (by decide) ?_
            refine lv_iconst (v := 0) hx hb dL_law_68 (by decide) ?_
            obtain ⟨y19, σ21, u20, hf⟩ := bn2_e hf
            refine lVXn (n := 3) (As := [.int 30, .int 3, .int 0]) (rest := []) (c_X4_come l hfl D t b σ17 30 3 0 (.inr (y19, σ21)) u20) hx hb hml hown hts hE hsub hW hS q525 q526 q527 q34 q528 hy_X4_come ⟨rfl, rfl⟩ ⟨Nat.le_of_ble_eq_true rfl, Nat.le_of_ble_eq_true rfl⟩ rfl rfl hl.1 (Nat.le_of_ble_eq_true rfl) ⟨show 80741 + 3 ≤ 600104 by omega, show 555160 + 18 ≤ 7301314 by omega⟩ dL_law_69 (fun H locs hW hS hF => ?_)
            have hA := hA.kept (hF.2 _ hA.lt hna)
            refine W.widen (k := 80744) (n := 555178) (by omega) (by omega) ?_
            refine lv_if_ne (tgt := 85) hx hb dL_law_72 (by decide) (fun h22 => ?_) (fun h22 => ?_)
            · have hf := ifn h22 hf
              refine lv_iconst (v := 0) hx hb dL_law_85 (by decide) ?_
              exact absurd (Option.some.inj hf) (by decide)
            · have hf := ifp h22 hf
              refine lv_aload_n hx hb dL_law_75 rfl (lv_at hl 2 rfl) ?_
              obtain ⟨y23, σ25, u24, hf⟩ := b2_e hf
              refine lV (n := 0) (As := []) (rest := []) (c_X4_takeSnapshot l D t b σ21 y23 σ25 u24) hx hb hml hown hts hE hsub hW hS q552 q553 q554 q34 q555 hy_X4_takeSnapshot ⟨rfl, rfl⟩ ⟨Nat.le_of_ble_eq_true rfl, Nat.le_of_ble_eq_true rfl⟩ rfl rfl hl.1 (Nat.le_of_ble_eq_true rfl) ⟨show 80744 ≤ 600104 by omega, show 555178 ≤ 7301314 by omega⟩ dL_law_76 (fun H locs hW hS hF => ?_)
              have hA := hA.kept (hF.2 _ hA.lt hna)
              refine lv_sipush (v := 461) hx hb dL_law_79 (by decide) ?_
              refine lv_icmp_eq (tgt := 87) hx hb dL_law_82 (by decide) (fun h26 => ?_) (fun h26 => ?_)
              · have hf := ifp h26 hf
                refine lv_aload_n hx hb dL_law_87 rfl (lv_at hl 2 rfl) ?_
                obtain ⟨y27, σ29, u28, hf⟩ := b2L_e hf
                refine lS (n := 1) (As := [.ref (b + 0)]) (rest := []) (c_L_seen l hfl D t b σ25 y27 σ29 u28) hx hb hml hown hts hE hsub hW hS q940 q941 q33  q942 hs_L_seen ⟨rfl, rfl⟩ ⟨Nat.le_of_ble_eq_true rfl, Nat.le_of_ble_eq_true rfl⟩ rfl rfl hl.1 (Nat.le_of_ble_eq_true rfl) ⟨show 80744 + 7176 ≤ 600104 by omega, show 555178 + 43056 ≤ 7301314 by omega⟩ dL_law_88 (fun H locs hW hS hF => ?_)
                have hA := hA.kept (hF.2 _ hA.lt hna)
                refine W.widen (k := 87920) (n := 598234) (by omega) (by omega) ?_
                refine lv_lstore (lv' := [(4, .long y27), (3, .int 0), (2, .ref a), (1, .ref (b + 0)), (0, .ref bA)]) hx hb dL_law_91 hl (by decide) rfl (fun ls hl => ?_)
                refine lv_iconst (v := 0) hx hb dL_law_93 (by decide) ?_
                refine lv_istore (lv' := [(6, .int 0), (4, .long y27), (3, .int 0), (2, .ref a), (1, .ref (b + 0)), (0, .ref bA)]) hx hb dL_law_94 hl (by decide) rfl (fun ls hl => ?_)
                obtain ⟨res, hl0, hA0, hB⟩ := bl_e hf
                have key_96 : ∀ (n : Nat) (τ : Sg) (wx : Nat → Int64) (x3 : Int32) (x4 : Int64) (x6 : Int32) (cl sl ce se : Nat) (H : Heap) (locs : List Loc) (ls : Array Slot) (res : Int32 ⊕ (Sg × (Nat → Int64) × Int32 × Int64)), l_L_law_96 X n τ wx x3 x4 x6 = some res → cl + 14356 * n = ce → sl + 86136 * n = se → ce ≤ 600104 → se ≤ 7301314 → (∀ z, res = .inl z → z = 1) → (∀ q96, res = .inr q96 → ∀ (H : Heap) (locs : List Loc) (ls : Array Slot), va_at D vwCl (a, .inl (t 4, 64, .inr (.inl (q96.2.1)))) H → wd D t b q96.1 H → va_S (geC b0) s.heap H locs → lv_has ls 15 [(1, .ref (b + 0)), (2, .ref a), (3, .int q96.2.2.1), (4, .long q96.2.2.2)] → W p l e room_1 s m #[Value.ref bA] below meth c H locs ce se (lw_Z below #[Value.ref bA] s) (F0 m 457 ls [])) → va_at D vwCl (a, .inl (t 4, 64, .inr (.inl (wx)))) H → wd D t b τ H → va_S (geC b0) s.heap H locs → lv_has ls 15 [(0, .ref bA), (1, .ref (b + 0)), (2, .ref a), (3, .int x3), (4, .long x4), (6, .int x6)] → W p l e room_1 s m #[Value.ref bA] below meth c H locs cl sl (lw_Z below #[Value.ref bA] s) (F0 m 96 ls []) := by
                  intro n
                  induction n with
                  | zero =>
                    intro τ wx x3 x4 x6 cl sl ce se H locs ls res hf
                    rw [l_L_law_96.eq_1] at hf
                    cases hf
                  | succ n ih_96 =>
                    intro τ wx x3 x4 x6 cl sl ce se H locs ls res hf hce hse hcm hsm kx kk hA hW hS hl
                    rw [l_L_law_96.eq_2] at hf
                    refine lv_iload hx hb dL_law_96 (lv_at hl 5 rfl) ?_
                    refine lv_bipush (v := 26) hx hb dL_law_98 (by decide) ?_
                    refine lv_icmp_ge (tgt := 457) hx hb dL_law_100 (by decide) (fun h30 => ?_) (fun h30 => ?_)
                    · have hf := ifp h30 hf
                      cases hf
                      refine W.widen (k := ce) (n := se) (by omega) (by omega) ?_
                      exact kk _ rfl _ _ _ hA hW hS (lv_sub hl [1, 2, 3, 4] rfl)
                    · have hf := ifn h30 hf
                      refine lv_aload_n hx hb dL_law_103 rfl (lv_at hl 0 rfl) ?_
                      refine lv_iload hx hb dL_law_104 (lv_at hl 5 rfl) ?_
                      obtain ⟨y31, u32, hf⟩ := b1_e hf
                      rw [hXd] at u32
                      refine lSd (c_L_drawn l D t b τ bA L xs x6 y31 u32) hx hb hml hown hts hE hsub hW hS hX hbl hbA q569 q570 q33 q571 hs_L_drawn ⟨rfl, rfl⟩ ⟨Nat.le_of_ble_eq_true rfl, Nat.le_of_ble_eq_true rfl⟩ rfl hl.1 (Nat.le_of_ble_eq_true rfl) ⟨show cl + 0 ≤ 600104 by omega, show sl + 0 ≤ 7301314 by omega⟩ dL_law_106 (fun H locs hW hS hF => ?_)
                      have hA := hA.kept (hF.2 _ hA.lt hna)
                      refine lv_istore (lv' := [(7, .int y31), (0, .ref bA), (1, .ref (b + 0)), (2, .ref a), (3, .int x3), (4, .long x4), (6, .int x6)]) hx hb dL_law_109 hl (by decide) rfl (fun ls hl => ?_)
                      refine lv_iload hx hb dL_law_111 (lv_at hl 0 rfl) ?_
                      refine lv_bipush (v := 26) hx hb dL_law_113 (by decide) ?_
                      obtain ⟨y33, u34, hf⟩ := b1_e hf
                      refine lS (n := 2) (As := [.int y31, .int 26]) (rest := []) (c_L_part l D t b τ y31 26 y33 u34) hx hb hml hown hts hE hsub hW hS q565 q566 q33  q567 hs_L_part ⟨rfl, rfl⟩ ⟨Nat.le_of_ble_eq_true rfl, Nat.le_of_ble_eq_true rfl⟩ rfl rfl hl.1 (Nat.le_of_ble_eq_true rfl) ⟨show cl + 0 + 0 ≤ 600104 by omega, show sl + 0 + 0 ≤ 7301314 by omega⟩ dL_law_115 (fun H locs hW hS hF => ?_)
                      have hA := hA.kept (hF.2 _ hA.lt hna)
                      refine lv_istore (lv' := [(8, .int y33), (7, .int y31), (0, .ref bA), (1, .ref (b + 0)), (2, .ref a), (3, .int x3), (4, .long x4), (6, .int x6)]) hx hb dL_law_118 hl (by decide) rfl (fun ls hl => ?_)
                      refine lv_aload_n hx hb dL_law_120 rfl (lv_at hl 4 rfl) ?_
                      refine lv_iload_n hx hb dL_law_121 rfl (lv_at hl 5 rfl) ?_
                      refine lv_aload_n hx hb dL_law_122 rfl (lv_at hl 3 rfl) ?_
                      obtain ⟨y35, σ37, u36, hf⟩ := b2L_e hf
                      refine lS (n := 1) (As := [.ref (b + 0)]) (rest := [.int x3, .ref a]) (c_L_seen l hfl D t b τ y35 σ37 u36) hx hb hml hown hts hE hsub hW hS q940 q941 q33  q942 hs_L_seen ⟨rfl, rfl⟩ ⟨Nat.le_of_ble_eq_true rfl, Nat.le_of_ble_eq_true rfl⟩ rfl rfl hl.1 (Nat.le_of_ble_eq_true rfl) ⟨show cl + 0 + 7176 ≤ 600104 by omega, show sl + 0 + 43056 ≤ 7301314 by omega⟩ dL_law_123 (fun H locs hW hS hF => ?_)
                      have hA := hA.kept (hF.2 _ hA.lt hna)
                      refine W.widen (k := cl + 7176) (n := sl + 43056) (by omega) (by omega) ?_
                      obtain ⟨g38, hf⟩ := gd_e hf
                      refine lLast hx hb hE.1 hA hW hna hS hAa g38 dL_law_126 (fun H locs hA hW hS => ?_)
                      obtain ⟨w39, e40, hf⟩ := stw_e hf
                      rw [e40] at hA
                      refine lv_aload_n hx hb dL_law_127 rfl (lv_at hl 3 rfl) ?_
                      obtain ⟨y41, u42, hf⟩ := b1_e hf
                      refine lV (n := 0) (As := []) (rest := []) (c_X4_recordedStates l D t b σ37 y41 u42) hx hb hml hown hts hE hsub hW hS q561 q562 q563 q34 q564 hy_X4_recordedStates ⟨rfl, rfl⟩ ⟨Nat.le_of_ble_eq_true rfl, Nat.le_of_ble_eq_true rfl⟩ rfl rfl hl.1 (Nat.le_of_ble_eq_true rfl) ⟨show cl + 7176 ≤ 600104 by omega, show sl + 43056 ≤ 7301314 by omega⟩ dL_law_128 (fun H locs hW hS hF => ?_)
                      have hA := hA.kept (hF.2 _ hA.lt hna)
                      refine lv_istore (lv' := [(9, .int y41), (8, .int y33), (7, .int y31), (0, .ref bA), (1, .ref (b + 0)), (2, .ref a), (3, .int x3), (4, .long x4), (6, .int x6)]) hx hb dL_law_131 hl (by decide) rfl (fun ls hl => ?_)
                      refine lv_iload hx hb dL_law_133 (lv_at hl 2 rfl) ?_
                      refine lv_iconst (v := 5) hx hb dL_law_135 (by decide) ?_
                      refine lv_ishr hx hb dL_law_136 ?_
                      refine lv_iconst (v := 4) hx hb dL_law_137 (by decide) ?_
                      obtain ⟨y43, u44, hf⟩ := b1_e hf
                      refine lS (n := 2) (As := [.int (y31 >>> (5 &&& 31)), .int 4]) (rest := []) (c_L_part l D t b σ37 (y31 >>> (5 &&& 31)) 4 y43 u44) hx hb hml hown hts hE hsub hW hS q565 q566 q33  q567 hs_L_part ⟨rfl, rfl⟩ ⟨Nat.le_of_ble_eq_true rfl, Nat.le_of_ble_eq_true rfl⟩ rfl rfl hl.1 (Nat.le_of_ble_eq_true rfl) ⟨show cl + 7176 + 0 ≤ 600104 by omega, show sl + 43056 + 0 ≤ 7301314 by omega⟩ dL_law_138 (fun H locs hW hS hF => ?_)
                      have hA := hA.kept (hF.2 _ hA.lt hna)
                      refine lv_istore (lv' := [(10, .int y43), (9, .int y41), (8, .int y33), (7, .int y31), (0, .ref bA), (1, .ref (b + 0)), (2, .ref a), (3, .int x3), (4, .long x4), (6, .int x6)]) hx hb dL_law_141 hl (by decide) rfl (fun ls hl => ?_)
                      refine lv_iload hx hb dL_law_143 (lv_at hl 3 rfl) ?_
                      refine lv_bipush (v := 8) hx hb dL_law_145 (by decide) ?_
                      refine lv_ishr hx hb dL_law_147 ?_
                      refine lv_iconst (v := 5) hx hb dL_law_148 (by decide) ?_
                      obtain ⟨y45, u46, hf⟩ := b1_e hf
                      refine lS (n := 2) (As := [.int (y31 >>> (8 &&& 31)), .int 5]) (rest := []) (c_L_part l D t b σ37 (y31 >>> (8 &&& 31)) 5 y45 u46) hx hb hml hown hts hE hsub hW hS q565 q566 q33  q567 hs_L_part ⟨rfl, rfl⟩ ⟨Nat.le_of_ble_eq_true rfl, Nat.le_of_ble_eq_true rfl⟩ rfl rfl hl.1 (Nat.le_of_ble_eq_true rfl) ⟨show cl + 7176 + 0 ≤ 600104 by omega, show sl + 43056 + 0 ≤ 7301314 by omega⟩ dL_law_149 (fun H locs hW hS hF => ?_)
                      have hA := hA.kept (hF.2 _ hA.lt hna)
                      refine lv_istore (lv' := [(11, .int y45), (10, .int y43), (9, .int y41), (8, .int y33), (7, .int y31), (0, .ref bA), (1, .ref (b + 0)), (2, .ref a), (3, .int x3), (4, .long x4), (6, .int x6)]) hx hb dL_law_152 hl (by decide) rfl (fun ls hl => ?_)
                      refine lv_iload hx hb dL_law_154 (lv_at hl 4 rfl) ?_
                      refine lv_bipush (v := 10) hx hb dL_law_156 (by decide) ?_
                      refine lv_ishr hx hb dL_law_158 ?_
                      refine lv_bipush (v := 7) hx hb dL_law_159 (by decide) ?_
                      obtain ⟨y47, u48, hf⟩ := b1_e hf
                      refine lS (n := 2) (As := [.int (y31 >>> (10 &&& 31)), .int 7]) (rest := []) (c_L_part l D t b σ37 (y31 >>> (10 &&& 31)) 7 y47 u48) hx hb hml hown hts hE hsub hW hS q565 q566 q33  q567 hs_L_part ⟨rfl, rfl⟩ ⟨Nat.le_of_ble_eq_true rfl, Nat.le_of_ble_eq_true rfl⟩ rfl rfl hl.1 (Nat.le_of_ble_eq_true rfl) ⟨show cl + 7176 + 0 ≤ 600104 by omega, show sl + 43056 + 0 ≤ 7301314 by omega⟩ dL_law_161 (fun H locs hW hS hF => ?_)
                      have hA := hA.kept (hF.2 _ hA.lt hna)
                      refine lv_istore (lv' := [(12, .int y47), (11, .int y45), (10, .int y43), (9, .int y41), (8, .int y33), (7, .int y31), (0, .ref bA), (1, .ref (b + 0)), (2, .ref a), (3, .int x3), (4, .long x4), (6, .int x6)]) hx hb dL_law_164 hl (by decide) rfl (fun ls hl => ?_)
                      refine lv_iload hx hb dL_law_166 (lv_at hl 4 rfl) ?_
                      refine lv_iconst (v := 4) hx hb dL_law_168 (by decide) ?_
                      refine lv_icmp_ge (tgt := 187) hx hb dL_law_169 (by decide) (fun h49 => ?_) (fun h49 => ?_)
                      · have hf := ifp h49 hf
                        refine lv_iload hx hb dL_law_187 (lv_at hl 4 rfl) ?_
                        refine lv_iconst (v := 4) hx hb dL_law_189 (by decide) ?_
                        refine lv_icmp_ne (tgt := 206) hx hb dL_law_190 (by decide) (fun h50 => ?_) (fun h50 => ?_)
                        · have hf := ifn h50 hf
                          refine lv_iload hx hb dL_law_206 (lv_at hl 4 rfl) ?_
                          refine lv_bipush (v := 7) hx hb dL_law_208 (by decide) ?_
                          refine lv_icmp_ge (tgt := 227) hx hb dL_law_210 (by decide) (fun h66 => ?_) (fun h66 => ?_)
                          · have hf := ifp h66 hf
                            refine lv_iload hx hb dL_law_227 (lv_at hl 4 rfl) ?_
                            refine lv_bipush (v := 7) hx hb dL_law_229 (by decide) ?_
                            refine lv_icmp_ne (tgt := 247) hx hb dL_law_231 (by decide) (fun h67 => ?_) (fun h67 => ?_)
                            · have hf := ifn h67 hf
                              refine lv_iload hx hb dL_law_247 (lv_at hl 4 rfl) ?_
                              refine lv_bipush (v := 11) hx hb dL_law_249 (by decide) ?_
                              refine lv_icmp_ge (tgt := 270) hx hb dL_law_251 (by decide) (fun h83 => ?_) (fun h83 => ?_)
                              · have hf := ifp h83 hf
                                refine lv_iload hx hb dL_law_270 (lv_at hl 4 rfl) ?_
                                refine lv_bipush (v := 14) hx hb dL_law_272 (by decide) ?_
                                refine lv_icmp_ge (tgt := 294) hx hb dL_law_274 (by decide) (fun h84 => ?_) (fun h84 => ?_)
                                · have hf := ifp h84 hf
                                  refine lv_iload hx hb dL_law_294 (lv_at hl 4 rfl) ?_
                                  refine lv_bipush (v := 14) hx hb dL_law_296 (by decide) ?_
                                  refine lv_icmp_ne (tgt := 315) hx hb dL_law_298 (by decide) (fun h85 => ?_) (fun h85 => ?_)
                                  · have hf := ifn h85 hf
                                    refine lv_iload hx hb dL_law_315 (lv_at hl 4 rfl) ?_
                                    refine lv_bipush (v := 18) hx hb dL_law_317 (by decide) ?_
                                    refine lv_icmp_ge (tgt := 341) hx hb dL_law_319 (by decide) (fun h101 => ?_) (fun h101 => ?_)
                                    · have hf := ifp h101 hf
                                      refine lv_iload hx hb dL_law_341 (lv_at hl 4 rfl) ?_
                                      refine lv_bipush (v := 18) hx hb dL_law_343 (by decide) ?_
                                      refine lv_icmp_ne (tgt := 363) hx hb dL_law_345 (by decide) (fun h102 => ?_) (fun h102 => ?_)
                                      · have hf := ifn h102 hf
                                        refine lv_iload hx hb dL_law_363 (lv_at hl 4 rfl) ?_
                                        refine lv_bipush (v := 25) hx hb dL_law_365 (by decide) ?_
                                        refine lv_icmp_ge (tgt := 384) hx hb dL_law_367 (by decide) (fun h118 => ?_) (fun h118 => ?_)
                                        · have hf := ifp h118 hf
                                          refine lv_aload_n hx hb dL_law_384 rfl (lv_at hl 7 rfl) ?_
                                          refine lv_bipush (v := 11) hx hb dL_law_385 (by decide) ?_
                                          refine lv_iconst (v := 0) hx hb dL_law_387 (by decide) ?_
                                          refine lv_iconst (v := 0) hx hb dL_law_388 (by decide) ?_
                                          refine lv_iconst (v := 0) hx hb dL_law_389 (by decide) ?_
                                          refine lv_iconst (v := 0) hx hb dL_law_390 (by decide) ?_
                                          obtain ⟨y119, σ121, u120, hf⟩ := b2_e hf
                                          refine lSW (n := 6) (As := [.ref (b + 0), .int 11, .int 0, .int 0, .int 0, .int 0]) (rest := []) (c_L_call l hfl D t b σ37 11 0 0 0 0 y119 σ121 u120) hx hb hml hown hts hE hsub hW hS q573 q574 q33  qw_L_call hs_L_call ⟨rfl, rfl⟩ ⟨Nat.le_of_ble_eq_true rfl, Nat.le_of_ble_eq_true rfl⟩ rfl rfl hl.1 (Nat.le_of_ble_eq_true rfl) ⟨show cl + 7176 + 4 ≤ 600104 by omega, show sl + 43056 + 24 ≤ 7301314 by omega⟩ dL_law_391 (fun H locs hW hS hF => ?_)
                                          have hA := hA.kept (hF.2 _ hA.lt hna)
                                          refine W.widen (k := cl + 7180) (n := sl + 43080) (by omega) (by omega) ?_
                                          refine lv_istore (lv' := [(13, .int y119), (12, .int y47), (11, .int y45), (10, .int y43), (9, .int y41), (8, .int y33), (7, .int y31), (0, .ref bA), (1, .ref (b + 0)), (2, .ref a), (3, .int x3), (4, .long x4), (6, .int x6)]) hx hb dL_law_394 hl (by decide) rfl (fun ls hl => ?_)
                                          refine lv_iload hx hb dL_law_396 (lv_at hl 0 rfl) ?_
                                          refine lv_sipush (v := (-1999)) hx hb dL_law_398 (by decide) ?_
                                          refine lv_icmp_ge (tgt := 408) hx hb dL_law_401 (by decide) (fun h122 => ?_) (fun h122 => ?_)
                                          · have hf := ifp h122 hf
                                            refine lv_iconst (v := 0) hx hb dL_law_408 (by decide) ?_
                                            refine lv_istore (lv' := [(14, .int 0), (13, .int y119), (12, .int y47), (11, .int y45), (10, .int y43), (9, .int y41), (8, .int y33), (7, .int y31), (0, .ref bA), (1, .ref (b + 0)), (2, .ref a), (3, .int x3), (4, .long x4), (6, .int x6)]) hx hb dL_law_409 hl (by decide) rfl (fun ls hl => ?_)
                                            refine lv_iload hx hb dL_law_411 (lv_at hl 0 rfl) ?_
                                            refine lv_if_eq (tgt := 438) hx hb dL_law_413 (by decide) (fun h123 => ?_) (fun h123 => absurd h123 (by decide))
                                            refine lv_iload_n hx hb dL_law_438 rfl (lv_at hl 11 rfl) ?_
                                            refine lv_iload hx hb dL_law_439 (lv_at hl 0 rfl) ?_
                                            refine lv_if_eq (tgt := 448) hx hb dL_law_441 (by decide) (fun h124 => ?_) (fun h124 => absurd h124 (by decide))
                                            refine lv_iconst (v := 1) hx hb dL_law_448 (by decide) ?_
                                            refine lv_iadd hx hb dL_law_449 ?_
                                            refine lv_istore_n (lv' := [(3, .int (x3 + 1)), (14, .int 0), (13, .int y119), (12, .int y47), (11, .int y45), (10, .int y43), (9, .int y41), (8, .int y33), (7, .int y31), (0, .ref bA), (1, .ref (b + 0)), (2, .ref a), (4, .long x4), (6, .int x6)]) hx hb dL_law_450 rfl hl (by decide) rfl (fun ls hl => ?_)
                                            refine lv_iinc (v := (x6 + 1)) (lv' := [(6, .int (x6 + 1)), (3, .int (x3 + 1)), (14, .int 0), (13, .int y119), (12, .int y47), (11, .int y45), (10, .int y43), (9, .int y41), (8, .int y33), (7, .int y31), (0, .ref bA), (1, .ref (b + 0)), (2, .ref a), (4, .long x4)]) hx hb dL_law_451 hl (k := 13) rfl (by rfl) (by decide) rfl (fun ls hl => ?_)
                                            refine lv_goto (tgt := 96) hx hb dL_law_454 (by decide) ?_
                                            refine W.widen (k := cl + 14356) (n := sl + 86136) (by omega) (by omega) ?_
                                            exact ih_96 σ121 w39 (x3 + 1) x4 (x6 + 1) (cl + 14356) (sl + 86136) ce se _ _ _ _ hf (by omega) (by omega) hcm hsm kx kk hA hW hS (lv_sub hl [10, 11, 12, 1, 13, 0] rfl)
                                          · have hf := ifn h122 hf
                                            refine lv_iconst (v := 1) hx hb dL_law_404 (by decide) ?_
                                            refine lv_goto (tgt := 409) hx hb dL_law_405 (by decide) ?_
                                            refine lv_istore (lv' := [(14, .int 1), (13, .int y119), (12, .int y47), (11, .int y45), (10, .int y43), (9, .int y41), (8, .int y33), (7, .int y31), (0, .ref bA), (1, .ref (b + 0)), (2, .ref a), (3, .int x3), (4, .long x4), (6, .int x6)]) hx hb dL_law_409 hl (by decide) rfl (fun ls hl => ?_)
                                            refine lv_iload hx hb dL_law_411 (lv_at hl 0 rfl) ?_
                                            refine lv_if_eq (tgt := 438) hx hb dL_law_413 (by decide) (fun h125 => absurd h125 (by decide)) (fun h125 => ?_)
                                            refine lv_aload_n hx hb dL_law_416 rfl (lv_at hl 9 rfl) ?_
                                            obtain ⟨y126, u127, hf⟩ := b1_e hf
                                            refine lV (n := 0) (As := []) (rest := []) (c_X4_recordedStates l D t b σ121 y126 u127) hx hb hml hown hts hE hsub hW hS q561 q562 q563 q34 q564 hy_X4_recordedStates ⟨rfl, rfl⟩ ⟨Nat.le_of_ble_eq_true rfl, Nat.le_of_ble_eq_true rfl⟩ rfl rfl hl.1 (Nat.le_of_ble_eq_true rfl) ⟨show cl + 7180 ≤ 600104 by omega, show sl + 43080 ≤ 7301314 by omega⟩ dL_law_417 (fun H locs hW hS hF => ?_)
                                            have hA := hA.kept (hF.2 _ hA.lt hna)
                                            refine lv_iload hx hb dL_law_420 (lv_at hl 5 rfl) ?_
                                            refine lv_icmp_ne (tgt := 436) hx hb dL_law_422 (by decide) (fun h128 => ?_) (fun h128 => ?_)
                                            · have hf := ifn h128 hf
                                              refine lv_iconst (v := 0) hx hb dL_law_436 (by decide) ?_
                                              cases hf
                                              exact absurd (kx _ rfl) (by decide)
                                            · have hf := ifp h128 hf
                                              refine lv_aload_n hx hb dL_law_425 rfl (lv_at hl 9 rfl) ?_
                                              obtain ⟨y129, σ131, u130, hf⟩ := b2L_e hf
                                              refine lS (n := 1) (As := [.ref (b + 0)]) (rest := []) (c_L_seen l hfl D t b σ121 y129 σ131 u130) hx hb hml hown hts hE hsub hW hS q940 q941 q33  q942 hs_L_seen ⟨rfl, rfl⟩ ⟨Nat.le_of_ble_eq_true rfl, Nat.le_of_ble_eq_true rfl⟩ rfl rfl hl.1 (Nat.le_of_ble_eq_true rfl) ⟨show cl + 7180 + 7176 ≤ 600104 by omega, show sl + 43080 + 43056 ≤ 7301314 by omega⟩ dL_law_426 (fun H locs hW hS hF => ?_)
                                              have hA := hA.kept (hF.2 _ hA.lt hna)
                                              refine W.widen (k := cl + 14356) (n := sl + 86136) (by omega) (by omega) ?_
                                              refine lv_aload_n hx hb dL_law_429 rfl (lv_at hl 10 rfl) ?_
                                              refine lv_iload_n hx hb dL_law_430 rfl (lv_at hl 11 rfl) ?_
                                              refine lLald hx hb hE.1 hA g38 dL_law_431 ?_
                                              refine lcmp_eq (tgt := 438) hx hb dL_law_432 dL_law_433 (by decide) (fun h132 => ?_) (fun h132 => ?_)
                                              · have hf := ifp h132 hf
                                                refine lv_iload_n hx hb dL_law_438 rfl (lv_at hl 11 rfl) ?_
                                                refine lv_iload hx hb dL_law_439 (lv_at hl 0 rfl) ?_
                                                refine lv_if_eq (tgt := 448) hx hb dL_law_441 (by decide) (fun h133 => absurd h133 (by decide)) (fun h133 => ?_)
                                                refine lv_iconst (v := 0) hx hb dL_law_444 (by decide) ?_
                                                refine lv_goto (tgt := 449) hx hb dL_law_445 (by decide) ?_
                                                refine lv_iadd hx hb dL_law_449 ?_
                                                refine lv_istore_n (lv' := [(3, .int (x3 + 0)), (14, .int 1), (13, .int y119), (12, .int y47), (11, .int y45), (10, .int y43), (9, .int y41), (8, .int y33), (7, .int y31), (0, .ref bA), (1, .ref (b + 0)), (2, .ref a), (4, .long x4), (6, .int x6)]) hx hb dL_law_450 rfl hl (by decide) rfl (fun ls hl => ?_)
                                                refine lv_iinc (v := (x6 + 1)) (lv' := [(6, .int (x6 + 1)), (3, .int (x3 + 0)), (14, .int 1), (13, .int y119), (12, .int y47), (11, .int y45), (10, .int y43), (9, .int y41), (8, .int y33), (7, .int y31), (0, .ref bA), (1, .ref (b + 0)), (2, .ref a), (4, .long x4)]) hx hb dL_law_451 hl (k := 13) rfl (by rfl) (by decide) rfl (fun ls hl => ?_)
                                                refine lv_goto (tgt := 96) hx hb dL_law_454 (by decide) ?_
                                                refine W.widen (k := cl + 14356) (n := sl + 86136) (by omega) (by omega) ?_
                                                exact ih_96 σ131 w39 (x3 + 0) x4 (x6 + 1) (cl + 14356) (sl + 86136) ce se _ _ _ _ hf (by omega) (by omega) hcm hsm kx kk hA hW hS (lv_sub hl [10, 11, 12, 1, 13, 0] rfl)
                                              · have hf := ifn h132 hf
                                                refine lv_iconst (v := 0) hx hb dL_law_436 (by decide) ?_
                                                cases hf
                                                exact absurd (kx _ rfl) (by decide)
                                        · have hf := ifn h118 hf
                                          refine lv_aload_n hx hb dL_law_370 rfl (lv_at hl 7 rfl) ?_
                                          refine lv_bipush (v := 9) hx hb dL_law_371 (by decide) ?_
                                          refine lv_iload hx hb dL_law_373 (lv_at hl 0 rfl) ?_
                                          refine lv_iconst (v := 0) hx hb dL_law_375 (by decide) ?_
                                          refine lv_iconst (v := 0) hx hb dL_law_376 (by decide) ?_
                                          refine lv_iconst (v := 0) hx hb dL_law_377 (by decide) ?_
                                          obtain ⟨y134, σ136, u135, hf⟩ := b2_e hf
                                          refine lSW (n := 6) (As := [.ref (b + 0), .int 9, .int y47, .int 0, .int 0, .int 0]) (rest := []) (c_L_call l hfl D t b σ37 9 y47 0 0 0 y134 σ136 u135) hx hb hml hown hts hE hsub hW hS q573 q574 q33  qw_L_call hs_L_call ⟨rfl, rfl⟩ ⟨Nat.le_of_ble_eq_true rfl, Nat.le_of_ble_eq_true rfl⟩ rfl rfl hl.1 (Nat.le_of_ble_eq_true rfl) ⟨show cl + 7176 + 4 ≤ 600104 by omega, show sl + 43056 + 24 ≤ 7301314 by omega⟩ dL_law_378 (fun H locs hW hS hF => ?_)
                                          have hA := hA.kept (hF.2 _ hA.lt hna)
                                          refine W.widen (k := cl + 7180) (n := sl + 43080) (by omega) (by omega) ?_
                                          refine lv_goto (tgt := 394) hx hb dL_law_381 (by decide) ?_
                                          refine lv_istore (lv' := [(13, .int y134), (12, .int y47), (11, .int y45), (10, .int y43), (9, .int y41), (8, .int y33), (7, .int y31), (0, .ref bA), (1, .ref (b + 0)), (2, .ref a), (3, .int x3), (4, .long x4), (6, .int x6)]) hx hb dL_law_394 hl (by decide) rfl (fun ls hl => ?_)
                                          refine lv_iload hx hb dL_law_396 (lv_at hl 0 rfl) ?_
                                          refine lv_sipush (v := (-1999)) hx hb dL_law_398 (by decide) ?_
                                          refine lv_icmp_ge (tgt := 408) hx hb dL_law_401 (by decide) (fun h137 => ?_) (fun h137 => ?_)
                                          · have hf := ifp h137 hf
                                            refine lv_iconst (v := 0) hx hb dL_law_408 (by decide) ?_
                                            refine lv_istore (lv' := [(14, .int 0), (13, .int y134), (12, .int y47), (11, .int y45), (10, .int y43), (9, .int y41), (8, .int y33), (7, .int y31), (0, .ref bA), (1, .ref (b + 0)), (2, .ref a), (3, .int x3), (4, .long x4), (6, .int x6)]) hx hb dL_law_409 hl (by decide) rfl (fun ls hl => ?_)
                                            refine lv_iload hx hb dL_law_411 (lv_at hl 0 rfl) ?_
                                            refine lv_if_eq (tgt := 438) hx hb dL_law_413 (by decide) (fun h138 => ?_) (fun h138 => absurd h138 (by decide))
                                            refine lv_iload_n hx hb dL_law_438 rfl (lv_at hl 11 rfl) ?_
                                            refine lv_iload hx hb dL_law_439 (lv_at hl 0 rfl) ?_
                                            refine lv_if_eq (tgt := 448) hx hb dL_law_441 (by decide) (fun h139 => ?_) (fun h139 => absurd h139 (by decide))
                                            refine lv_iconst (v := 1) hx hb dL_law_448 (by decide) ?_
                                            refine lv_iadd hx hb dL_law_449 ?_
                                            refine lv_istore_n (lv' := [(3, .int (x3 + 1)), (14, .int 0), (13, .int y134), (12, .int y47), (11, .int y45), (10, .int y43), (9, .int y41), (8, .int y33), (7, .int y31), (0, .ref bA), (1, .ref (b + 0)), (2, .ref a), (4, .long x4), (6, .int x6)]) hx hb dL_law_450 rfl hl (by decide) rfl (fun ls hl => ?_)
                                            refine lv_iinc (v := (x6 + 1)) (lv' := [(6, .int (x6 + 1)), (3, .int (x3 + 1)), (14, .int 0), (13, .int y134), (12, .int y47), (11, .int y45), (10, .int y43), (9, .int y41), (8, .int y33), (7, .int y31), (0, .ref bA), (1, .ref (b + 0)), (2, .ref a), (4, .long x4)]) hx hb dL_law_451 hl (k := 13) rfl (by rfl) (by decide) rfl (fun ls hl => ?_)
                                            refine lv_goto (tgt := 96) hx hb dL_law_454 (by decide) ?_
                                            refine W.widen (k := cl + 14356) (n := sl + 86136) (by omega) (by omega) ?_
                                            exact ih_96 σ136 w39 (x3 + 1) x4 (x6 + 1) (cl + 14356) (sl + 86136) ce se _ _ _ _ hf (by omega) (by omega) hcm hsm kx kk hA hW hS (lv_sub hl [10, 11, 12, 1, 13, 0] rfl)
                                          · have hf := ifn h137 hf
                                            refine lv_iconst (v := 1) hx hb dL_law_404 (by decide) ?_
                                            refine lv_goto (tgt := 409) hx hb dL_law_405 (by decide) ?_
                                            refine lv_istore (lv' := [(14, .int 1), (13, .int y134), (12, .int y47), (11, .int y45), (10, .int y43), (9, .int y41), (8, .int y33), (7, .int y31), (0, .ref bA), (1, .ref (b + 0)), (2, .ref a), (3, .int x3), (4, .long x4), (6, .int x6)]) hx hb dL_law_409 hl (by decide) rfl (fun ls hl => ?_)
                                            refine lv_iload hx hb dL_law_411 (lv_at hl 0 rfl) ?_
                                            refine lv_if_eq (tgt := 438) hx hb dL_law_413 (by decide) (fun h140 => absurd h140 (by decide)) (fun h140 => ?_)
                                            refine lv_aload_n hx hb dL_law_416 rfl (lv_at hl 9 rfl) ?_
                                            obtain ⟨y141, u142, hf⟩ := b1_e hf
                                            refine lV (n := 0) (As := []) (rest := []) (c_X4_recordedStates l D t b σ136 y141 u142) hx hb hml hown hts hE hsub hW hS q561 q562 q563 q34 q564 hy_X4_recordedStates ⟨rfl, rfl⟩ ⟨Nat.le_of_ble_eq_true rfl, Nat.le_of_ble_eq_true rfl⟩ rfl rfl hl.1 (Nat.le_of_ble_eq_true rfl) ⟨show cl + 7180 ≤ 600104 by omega, show sl + 43080 ≤ 7301314 by omega⟩ dL_law_417 (fun H locs hW hS hF => ?_)
                                            have hA := hA.kept (hF.2 _ hA.lt hna)
                                            refine lv_iload hx hb dL_law_420 (lv_at hl 5 rfl) ?_
                                            refine lv_icmp_ne (tgt := 436) hx hb dL_law_422 (by decide) (fun h143 => ?_) (fun h143 => ?_)
                                            · have hf := ifn h143 hf
                                              refine lv_iconst (v := 0) hx hb dL_law_436 (by decide) ?_
                                              cases hf
                                              exact absurd (kx _ rfl) (by decide)
                                            · have hf := ifp h143 hf
                                              refine lv_aload_n hx hb dL_law_425 rfl (lv_at hl 9 rfl) ?_
                                              obtain ⟨y144, σ146, u145, hf⟩ := b2L_e hf
                                              refine lS (n := 1) (As := [.ref (b + 0)]) (rest := []) (c_L_seen l hfl D t b σ136 y144 σ146 u145) hx hb hml hown hts hE hsub hW hS q940 q941 q33  q942 hs_L_seen ⟨rfl, rfl⟩ ⟨Nat.le_of_ble_eq_true rfl, Nat.le_of_ble_eq_true rfl⟩ rfl rfl hl.1 (Nat.le_of_ble_eq_true rfl) ⟨show cl + 7180 + 7176 ≤ 600104 by omega, show sl + 43080 + 43056 ≤ 7301314 by omega⟩ dL_law_426 (fun H locs hW hS hF => ?_)
                                              have hA := hA.kept (hF.2 _ hA.lt hna)
                                              refine W.widen (k := cl + 14356) (n := sl + 86136) (by omega) (by omega) ?_
                                              refine lv_aload_n hx hb dL_law_429 rfl (lv_at hl 10 rfl) ?_
                                              refine lv_iload_n hx hb dL_law_430 rfl (lv_at hl 11 rfl) ?_
                                              refine lLald hx hb hE.1 hA g38 dL_law_431 ?_
                                              refine lcmp_eq (tgt := 438) hx hb dL_law_432 dL_law_433 (by decide) (fun h147 => ?_) (fun h147 => ?_)
                                              · have hf := ifp h147 hf
                                                refine lv_iload_n hx hb dL_law_438 rfl (lv_at hl 11 rfl) ?_
                                                refine lv_iload hx hb dL_law_439 (lv_at hl 0 rfl) ?_
                                                refine lv_if_eq (tgt := 448) hx hb dL_law_441 (by decide) (fun h148 => absurd h148 (by decide)) (fun h148 => ?_)
                                                refine lv_iconst (v := 0) hx hb dL_law_444 (by decide) ?_
                                                refine lv_goto (tgt := 449) hx hb dL_law_445 (by decide) ?_
                                                refine lv_iadd hx hb dL_law_449 ?_
                                                refine lv_istore_n (lv' := [(3, .int (x3 + 0)), (14, .int 1), (13, .int y134), (12, .int y47), (11, .int y45), (10, .int y43), (9, .int y41), (8, .int y33), (7, .int y31), (0, .ref bA), (1, .ref (b + 0)), (2, .ref a), (4, .long x4), (6, .int x6)]) hx hb dL_law_450 rfl hl (by decide) rfl (fun ls hl => ?_)
                                                refine lv_iinc (v := (x6 + 1)) (lv' := [(6, .int (x6 + 1)), (3, .int (x3 + 0)), (14, .int 1), (13, .int y134), (12, .int y47), (11, .int y45), (10, .int y43), (9, .int y41), (8, .int y33), (7, .int y31), (0, .ref bA), (1, .ref (b + 0)), (2, .ref a), (4, .long x4)]) hx hb dL_law_451 hl (k := 13) rfl (by rfl) (by decide) rfl (fun ls hl => ?_)
                                                refine lv_goto (tgt := 96) hx hb dL_law_454 (by decide) ?_
                                                refine W.widen (k := cl + 14356) (n := sl + 86136) (by omega) (by omega) ?_
                                                exact ih_96 σ146 w39 (x3 + 0) x4 (x6 + 1) (cl + 14356) (sl + 86136) ce se _ _ _ _ hf (by omega) (by omega) hcm hsm kx kk hA hW hS (lv_sub hl [10, 11, 12, 1, 13, 0] rfl)
                                              · have hf := ifn h147 hf
                                                refine lv_iconst (v := 0) hx hb dL_law_436 (by decide) ?_
                                                cases hf
                                                exact absurd (kx _ rfl) (by decide)
                                      · have hf := ifp h102 hf
                                        refine lv_aload_n hx hb dL_law_348 rfl (lv_at hl 7 rfl) ?_
                                        refine lv_bipush (v := 8) hx hb dL_law_349 (by decide) ?_
                                        refine lv_iload hx hb dL_law_351 (lv_at hl 0 rfl) ?_
                                        refine lv_iload hx hb dL_law_353 (lv_at hl 1 rfl) ?_
                                        refine lv_iconst (v := 0) hx hb dL_law_355 (by decide) ?_
                                        refine lv_iconst (v := 0) hx hb dL_law_356 (by decide) ?_
                                        obtain ⟨y103, σ105, u104, hf⟩ := b2_e hf
                                        refine lSW (n := 6) (As := [.ref (b + 0), .int 8, .int y47, .int y45, .int 0, .int 0]) (rest := []) (c_L_call l hfl D t b σ37 8 y47 y45 0 0 y103 σ105 u104) hx hb hml hown hts hE hsub hW hS q573 q574 q33  qw_L_call hs_L_call ⟨rfl, rfl⟩ ⟨Nat.le_of_ble_eq_true rfl, Nat.le_of_ble_eq_true rfl⟩ rfl rfl hl.1 (Nat.le_of_ble_eq_true rfl) ⟨show cl + 7176 + 4 ≤ 600104 by omega, show sl + 43056 + 24 ≤ 7301314 by omega⟩ dL_law_357 (fun H locs hW hS hF => ?_)
                                        have hA := hA.kept (hF.2 _ hA.lt hna)
                                        refine W.widen (k := cl + 7180) (n := sl + 43080) (by omega) (by omega) ?_
                                        refine lv_goto (tgt := 394) hx hb dL_law_360 (by decide) ?_
                                        refine lv_istore (lv' := [(13, .int y103), (12, .int y47), (11, .int y45), (10, .int y43), (9, .int y41), (8, .int y33), (7, .int y31), (0, .ref bA), (1, .ref (b + 0)), (2, .ref a), (3, .int x3), (4, .long x4), (6, .int x6)]) hx hb dL_law_394 hl (by decide) rfl (fun ls hl => ?_)
                                        refine lv_iload hx hb dL_law_396 (lv_at hl 0 rfl) ?_
                                        refine lv_sipush (v := (-1999)) hx hb dL_law_398 (by decide) ?_
                                        refine lv_icmp_ge (tgt := 408) hx hb dL_law_401 (by decide) (fun h106 => ?_) (fun h106 => ?_)
                                        · have hf := ifp h106 hf
                                          refine lv_iconst (v := 0) hx hb dL_law_408 (by decide) ?_
                                          refine lv_istore (lv' := [(14, .int 0), (13, .int y103), (12, .int y47), (11, .int y45), (10, .int y43), (9, .int y41), (8, .int y33), (7, .int y31), (0, .ref bA), (1, .ref (b + 0)), (2, .ref a), (3, .int x3), (4, .long x4), (6, .int x6)]) hx hb dL_law_409 hl (by decide) rfl (fun ls hl => ?_)
                                          refine lv_iload hx hb dL_law_411 (lv_at hl 0 rfl) ?_
                                          refine lv_if_eq (tgt := 438) hx hb dL_law_413 (by decide) (fun h107 => ?_) (fun h107 => absurd h107 (by decide))
                                          refine lv_iload_n hx hb dL_law_438 rfl (lv_at hl 11 rfl) ?_
                                          refine lv_iload hx hb dL_law_439 (lv_at hl 0 rfl) ?_
                                          refine lv_if_eq (tgt := 448) hx hb dL_law_441 (by decide) (fun h108 => ?_) (fun h108 => absurd h108 (by decide))
                                          refine lv_iconst (v := 1) hx hb dL_law_448 (by decide) ?_
                                          refine lv_iadd hx hb dL_law_449 ?_
                                          refine lv_istore_n (lv' := [(3, .int (x3 + 1)), (14, .int 0), (13, .int y103), (12, .int y47), (11, .int y45), (10, .int y43), (9, .int y41), (8, .int y33), (7, .int y31), (0, .ref bA), (1, .ref (b + 0)), (2, .ref a), (4, .long x4), (6, .int x6)]) hx hb dL_law_450 rfl hl (by decide) rfl (fun ls hl => ?_)
                                          refine lv_iinc (v := (x6 + 1)) (lv' := [(6, .int (x6 + 1)), (3, .int (x3 + 1)), (14, .int 0), (13, .int y103), (12, .int y47), (11, .int y45), (10, .int y43), (9, .int y41), (8, .int y33), (7, .int y31), (0, .ref bA), (1, .ref (b + 0)), (2, .ref a), (4, .long x4)]) hx hb dL_law_451 hl (k := 13) rfl (by rfl) (by decide) rfl (fun ls hl => ?_)
                                          refine lv_goto (tgt := 96) hx hb dL_law_454 (by decide) ?_
                                          refine W.widen (k := cl + 14356) (n := sl + 86136) (by omega) (by omega) ?_
                                          exact ih_96 σ105 w39 (x3 + 1) x4 (x6 + 1) (cl + 14356) (sl + 86136) ce se _ _ _ _ hf (by omega) (by omega) hcm hsm kx kk hA hW hS (lv_sub hl [10, 11, 12, 1, 13, 0] rfl)
                                        · have hf := ifn h106 hf
                                          refine lv_iconst (v := 1) hx hb dL_law_404 (by decide) ?_
                                          refine lv_goto (tgt := 409) hx hb dL_law_405 (by decide) ?_
                                          refine lv_istore (lv' := [(14, .int 1), (13, .int y103), (12, .int y47), (11, .int y45), (10, .int y43), (9, .int y41), (8, .int y33), (7, .int y31), (0, .ref bA), (1, .ref (b + 0)), (2, .ref a), (3, .int x3), (4, .long x4), (6, .int x6)]) hx hb dL_law_409 hl (by decide) rfl (fun ls hl => ?_)
                                          refine lv_iload hx hb dL_law_411 (lv_at hl 0 rfl) ?_
                                          refine lv_if_eq (tgt := 438) hx hb dL_law_413 (by decide) (fun h109 => absurd h109 (by decide)) (fun h109 => ?_)
                                          refine lv_aload_n hx hb dL_law_416 rfl (lv_at hl 9 rfl) ?_
                                          obtain ⟨y110, u111, hf⟩ := b1_e hf
                                          refine lV (n := 0) (As := []) (rest := []) (c_X4_recordedStates l D t b σ105 y110 u111) hx hb hml hown hts hE hsub hW hS q561 q562 q563 q34 q564 hy_X4_recordedStates ⟨rfl, rfl⟩ ⟨Nat.le_of_ble_eq_true rfl, Nat.le_of_ble_eq_true rfl⟩ rfl rfl hl.1 (Nat.le_of_ble_eq_true rfl) ⟨show cl + 7180 ≤ 600104 by omega, show sl + 43080 ≤ 7301314 by omega⟩ dL_law_417 (fun H locs hW hS hF => ?_)
                                          have hA := hA.kept (hF.2 _ hA.lt hna)
                                          refine lv_iload hx hb dL_law_420 (lv_at hl 5 rfl) ?_
                                          refine lv_icmp_ne (tgt := 436) hx hb dL_law_422 (by decide) (fun h112 => ?_) (fun h112 => ?_)
                                          · have hf := ifn h112 hf
                                            refine lv_iconst (v := 0) hx hb dL_law_436 (by decide) ?_
                                            cases hf
                                            exact absurd (kx _ rfl) (by decide)
                                          · have hf := ifp h112 hf
                                            refine lv_aload_n hx hb dL_law_425 rfl (lv_at hl 9 rfl) ?_
                                            obtain ⟨y113, σ115, u114, hf⟩ := b2L_e hf
                                            refine lS (n := 1) (As := [.ref (b + 0)]) (rest := []) (c_L_seen l hfl D t b σ105 y113 σ115 u114) hx hb hml hown hts hE hsub hW hS q940 q941 q33  q942 hs_L_seen ⟨rfl, rfl⟩ ⟨Nat.le_of_ble_eq_true rfl, Nat.le_of_ble_eq_true rfl⟩ rfl rfl hl.1 (Nat.le_of_ble_eq_true rfl) ⟨show cl + 7180 + 7176 ≤ 600104 by omega, show sl + 43080 + 43056 ≤ 7301314 by omega⟩ dL_law_426 (fun H locs hW hS hF => ?_)
                                            have hA := hA.kept (hF.2 _ hA.lt hna)
                                            refine W.widen (k := cl + 14356) (n := sl + 86136) (by omega) (by omega) ?_
                                            refine lv_aload_n hx hb dL_law_429 rfl (lv_at hl 10 rfl) ?_
                                            refine lv_iload_n hx hb dL_law_430 rfl (lv_at hl 11 rfl) ?_
                                            refine lLald hx hb hE.1 hA g38 dL_law_431 ?_
                                            refine lcmp_eq (tgt := 438) hx hb dL_law_432 dL_law_433 (by decide) (fun h116 => ?_) (fun h116 => ?_)
                                            · have hf := ifp h116 hf
                                              refine lv_iload_n hx hb dL_law_438 rfl (lv_at hl 11 rfl) ?_
                                              refine lv_iload hx hb dL_law_439 (lv_at hl 0 rfl) ?_
                                              refine lv_if_eq (tgt := 448) hx hb dL_law_441 (by decide) (fun h117 => absurd h117 (by decide)) (fun h117 => ?_)
                                              refine lv_iconst (v := 0) hx hb dL_law_444 (by decide) ?_
                                              refine lv_goto (tgt := 449) hx hb dL_law_445 (by decide) ?_
                                              refine lv_iadd hx hb dL_law_449 ?_
                                              refine lv_istore_n (lv' := [(3, .int (x3 + 0)), (14, .int 1), (13, .int y103), (12, .int y47), (11, .int y45), (10, .int y43), (9, .int y41), (8, .int y33), (7, .int y31), (0, .ref bA), (1, .ref (b + 0)), (2, .ref a), (4, .long x4), (6, .int x6)]) hx hb dL_law_450 rfl hl (by decide) rfl (fun ls hl => ?_)
                                              refine lv_iinc (v := (x6 + 1)) (lv' := [(6, .int (x6 + 1)), (3, .int (x3 + 0)), (14, .int 1), (13, .int y103), (12, .int y47), (11, .int y45), (10, .int y43), (9, .int y41), (8, .int y33), (7, .int y31), (0, .ref bA), (1, .ref (b + 0)), (2, .ref a), (4, .long x4)]) hx hb dL_law_451 hl (k := 13) rfl (by rfl) (by decide) rfl (fun ls hl => ?_)
                                              refine lv_goto (tgt := 96) hx hb dL_law_454 (by decide) ?_
                                              refine W.widen (k := cl + 14356) (n := sl + 86136) (by omega) (by omega) ?_
                                              exact ih_96 σ115 w39 (x3 + 0) x4 (x6 + 1) (cl + 14356) (sl + 86136) ce se _ _ _ _ hf (by omega) (by omega) hcm hsm kx kk hA hW hS (lv_sub hl [10, 11, 12, 1, 13, 0] rfl)
                                            · have hf := ifn h116 hf
                                              refine lv_iconst (v := 0) hx hb dL_law_436 (by decide) ?_
                                              cases hf
                                              exact absurd (kx _ rfl) (by decide)
                                    · have hf := ifn h101 hf
                                      refine lv_aload_n hx hb dL_law_322 rfl (lv_at hl 7 rfl) ?_
                                      refine lv_bipush (v := 7) hx hb dL_law_323 (by decide) ?_
                                      refine lv_bipush (v := 9) hx hb dL_law_325 (by decide) ?_
                                      refine lv_iload hx hb dL_law_327 (lv_at hl 0 rfl) ?_
                                      refine lv_imul hx hb dL_law_329 ?_
                                      refine lv_iload hx hb dL_law_330 (lv_at hl 1 rfl) ?_
                                      refine lv_iload hx hb dL_law_332 (lv_at hl 2 rfl) ?_
                                      refine lv_iconst (v := 0) hx hb dL_law_334 (by decide) ?_
                                      obtain ⟨y149, σ151, u150, hf⟩ := b2_e hf
                                      refine lSW (n := 6) (As := [.ref (b + 0), .int 7, .int (9 * y47), .int y45, .int y43, .int 0]) (rest := []) (c_L_call l hfl D t b σ37 7 (9 * y47) y45 y43 0 y149 σ151 u150) hx hb hml hown hts hE hsub hW hS q573 q574 q33  qw_L_call hs_L_call ⟨rfl, rfl⟩ ⟨Nat.le_of_ble_eq_true rfl, Nat.le_of_ble_eq_true rfl⟩ rfl rfl hl.1 (Nat.le_of_ble_eq_true rfl) ⟨show cl + 7176 + 4 ≤ 600104 by omega, show sl + 43056 + 24 ≤ 7301314 by omega⟩ dL_law_335 (fun H locs hW hS hF => ?_)
                                      have hA := hA.kept (hF.2 _ hA.lt hna)
                                      refine W.widen (k := cl + 7180) (n := sl + 43080) (by omega) (by omega) ?_
                                      refine lv_goto (tgt := 394) hx hb dL_law_338 (by decide) ?_
                                      refine lv_istore (lv' := [(13, .int y149), (12, .int y47), (11, .int y45), (10, .int y43), (9, .int y41), (8, .int y33), (7, .int y31), (0, .ref bA), (1, .ref (b + 0)), (2, .ref a), (3, .int x3), (4, .long x4), (6, .int x6)]) hx hb dL_law_394 hl (by decide) rfl (fun ls hl => ?_)
                                      refine lv_iload hx hb dL_law_396 (lv_at hl 0 rfl) ?_
                                      refine lv_sipush (v := (-1999)) hx hb dL_law_398 (by decide) ?_
                                      refine lv_icmp_ge (tgt := 408) hx hb dL_law_401 (by decide) (fun h152 => ?_) (fun h152 => ?_)
                                      · have hf := ifp h152 hf
                                        refine lv_iconst (v := 0) hx hb dL_law_408 (by decide) ?_
                                        refine lv_istore (lv' := [(14, .int 0), (13, .int y149), (12, .int y47), (11, .int y45), (10, .int y43), (9, .int y41), (8, .int y33), (7, .int y31), (0, .ref bA), (1, .ref (b + 0)), (2, .ref a), (3, .int x3), (4, .long x4), (6, .int x6)]) hx hb dL_law_409 hl (by decide) rfl (fun ls hl => ?_)
                                        refine lv_iload hx hb dL_law_411 (lv_at hl 0 rfl) ?_
                                        refine lv_if_eq (tgt := 438) hx hb dL_law_413 (by decide) (fun h153 => ?_) (fun h153 => absurd h153 (by decide))
                                        refine lv_iload_n hx hb dL_law_438 rfl (lv_at hl 11 rfl) ?_
                                        refine lv_iload hx hb dL_law_439 (lv_at hl 0 rfl) ?_
                                        refine lv_if_eq (tgt := 448) hx hb dL_law_441 (by decide) (fun h154 => ?_) (fun h154 => absurd h154 (by decide))
                                        refine lv_iconst (v := 1) hx hb dL_law_448 (by decide) ?_
                                        refine lv_iadd hx hb dL_law_449 ?_
                                        refine lv_istore_n (lv' := [(3, .int (x3 + 1)), (14, .int 0), (13, .int y149), (12, .int y47), (11, .int y45), (10, .int y43), (9, .int y41), (8, .int y33), (7, .int y31), (0, .ref bA), (1, .ref (b + 0)), (2, .ref a), (4, .long x4), (6, .int x6)]) hx hb dL_law_450 rfl hl (by decide) rfl (fun ls hl => ?_)
                                        refine lv_iinc (v := (x6 + 1)) (lv' := [(6, .int (x6 + 1)), (3, .int (x3 + 1)), (14, .int 0), (13, .int y149), (12, .int y47), (11, .int y45), (10, .int y43), (9, .int y41), (8, .int y33), (7, .int y31), (0, .ref bA), (1, .ref (b + 0)), (2, .ref a), (4, .long x4)]) hx hb dL_law_451 hl (k := 13) rfl (by rfl) (by decide) rfl (fun ls hl => ?_)
                                        refine lv_goto (tgt := 96) hx hb dL_law_454 (by decide) ?_
                                        refine W.widen (k := cl + 14356) (n := sl + 86136) (by omega) (by omega) ?_
                                        exact ih_96 σ151 w39 (x3 + 1) x4 (x6 + 1) (cl + 14356) (sl + 86136) ce se _ _ _ _ hf (by omega) (by omega) hcm hsm kx kk hA hW hS (lv_sub hl [10, 11, 12, 1, 13, 0] rfl)
                                      · have hf := ifn h152 hf
                                        refine lv_iconst (v := 1) hx hb dL_law_404 (by decide) ?_
                                        refine lv_goto (tgt := 409) hx hb dL_law_405 (by decide) ?_
                                        refine lv_istore (lv' := [(14, .int 1), (13, .int y149), (12, .int y47), (11, .int y45), (10, .int y43), (9, .int y41), (8, .int y33), (7, .int y31), (0, .ref bA), (1, .ref (b + 0)), (2, .ref a), (3, .int x3), (4, .long x4), (6, .int x6)]) hx hb dL_law_409 hl (by decide) rfl (fun ls hl => ?_)
                                        refine lv_iload hx hb dL_law_411 (lv_at hl 0 rfl) ?_
                                        refine lv_if_eq (tgt := 438) hx hb dL_law_413 (by decide) (fun h155 => absurd h155 (by decide)) (fun h155 => ?_)
                                        refine lv_aload_n hx hb dL_law_416 rfl (lv_at hl 9 rfl) ?_
                                        obtain ⟨y156, u157, hf⟩ := b1_e hf
                                        refine lV (n := 0) (As := []) (rest := []) (c_X4_recordedStates l D t b σ151 y156 u157) hx hb hml hown hts hE hsub hW hS q561 q562 q563 q34 q564 hy_X4_recordedStates ⟨rfl, rfl⟩ ⟨Nat.le_of_ble_eq_true rfl, Nat.le_of_ble_eq_true rfl⟩ rfl rfl hl.1 (Nat.le_of_ble_eq_true rfl) ⟨show cl + 7180 ≤ 600104 by omega, show sl + 43080 ≤ 7301314 by omega⟩ dL_law_417 (fun H locs hW hS hF => ?_)
                                        have hA := hA.kept (hF.2 _ hA.lt hna)
                                        refine lv_iload hx hb dL_law_420 (lv_at hl 5 rfl) ?_
                                        refine lv_icmp_ne (tgt := 436) hx hb dL_law_422 (by decide) (fun h158 => ?_) (fun h158 => ?_)
                                        · have hf := ifn h158 hf
                                          refine lv_iconst (v := 0) hx hb dL_law_436 (by decide) ?_
                                          cases hf
                                          exact absurd (kx _ rfl) (by decide)
                                        · have hf := ifp h158 hf
                                          refine lv_aload_n hx hb dL_law_425 rfl (lv_at hl 9 rfl) ?_
                                          obtain ⟨y159, σ161, u160, hf⟩ := b2L_e hf
                                          refine lS (n := 1) (As := [.ref (b + 0)]) (rest := []) (c_L_seen l hfl D t b σ151 y159 σ161 u160) hx hb hml hown hts hE hsub hW hS q940 q941 q33  q942 hs_L_seen ⟨rfl, rfl⟩ ⟨Nat.le_of_ble_eq_true rfl, Nat.le_of_ble_eq_true rfl⟩ rfl rfl hl.1 (Nat.le_of_ble_eq_true rfl) ⟨show cl + 7180 + 7176 ≤ 600104 by omega, show sl + 43080 + 43056 ≤ 7301314 by omega⟩ dL_law_426 (fun H locs hW hS hF => ?_)
                                          have hA := hA.kept (hF.2 _ hA.lt hna)
                                          refine W.widen (k := cl + 14356) (n := sl + 86136) (by omega) (by omega) ?_
                                          refine lv_aload_n hx hb dL_law_429 rfl (lv_at hl 10 rfl) ?_
                                          refine lv_iload_n hx hb dL_law_430 rfl (lv_at hl 11 rfl) ?_
                                          refine lLald hx hb hE.1 hA g38 dL_law_431 ?_
                                          refine lcmp_eq (tgt := 438) hx hb dL_law_432 dL_law_433 (by decide) (fun h162 => ?_) (fun h162 => ?_)
                                          · have hf := ifp h162 hf
                                            refine lv_iload_n hx hb dL_law_438 rfl (lv_at hl 11 rfl) ?_
                                            refine lv_iload hx hb dL_law_439 (lv_at hl 0 rfl) ?_
                                            refine lv_if_eq (tgt := 448) hx hb dL_law_441 (by decide) (fun h163 => absurd h163 (by decide)) (fun h163 => ?_)
                                            refine lv_iconst (v := 0) hx hb dL_law_444 (by decide) ?_
                                            refine lv_goto (tgt := 449) hx hb dL_law_445 (by decide) ?_
                                            refine lv_iadd hx hb dL_law_449 ?_
                                            refine lv_istore_n (lv' := [(3, .int (x3 + 0)), (14, .int 1), (13, .int y149), (12, .int y47), (11, .int y45), (10, .int y43), (9, .int y41), (8, .int y33), (7, .int y31), (0, .ref bA), (1, .ref (b + 0)), (2, .ref a), (4, .long x4), (6, .int x6)]) hx hb dL_law_450 rfl hl (by decide) rfl (fun ls hl => ?_)
                                            refine lv_iinc (v := (x6 + 1)) (lv' := [(6, .int (x6 + 1)), (3, .int (x3 + 0)), (14, .int 1), (13, .int y149), (12, .int y47), (11, .int y45), (10, .int y43), (9, .int y41), (8, .int y33), (7, .int y31), (0, .ref bA), (1, .ref (b + 0)), (2, .ref a), (4, .long x4)]) hx hb dL_law_451 hl (k := 13) rfl (by rfl) (by decide) rfl (fun ls hl => ?_)
                                            refine lv_goto (tgt := 96) hx hb dL_law_454 (by decide) ?_
                                            refine W.widen (k := cl + 14356) (n := sl + 86136) (by omega) (by omega) ?_
                                            exact ih_96 σ161 w39 (x3 + 0) x4 (x6 + 1) (cl + 14356) (sl + 86136) ce se _ _ _ _ hf (by omega) (by omega) hcm hsm kx kk hA hW hS (lv_sub hl [10, 11, 12, 1, 13, 0] rfl)
                                          · have hf := ifn h162 hf
                                            refine lv_iconst (v := 0) hx hb dL_law_436 (by decide) ?_
                                            cases hf
                                            exact absurd (kx _ rfl) (by decide)
                                  · have hf := ifp h85 hf
                                    refine lv_aload_n hx hb dL_law_301 rfl (lv_at hl 7 rfl) ?_
                                    refine lv_bipush (v := 6) hx hb dL_law_302 (by decide) ?_
                                    refine lv_iload hx hb dL_law_304 (lv_at hl 2 rfl) ?_
                                    refine lv_iconst (v := 0) hx hb dL_law_306 (by decide) ?_
                                    refine lv_iconst (v := 0) hx hb dL_law_307 (by decide) ?_
                                    refine lv_iconst (v := 0) hx hb dL_law_308 (by decide) ?_
                                    obtain ⟨y86, σ88, u87, hf⟩ := b2_e hf
                                    refine lSW (n := 6) (As := [.ref (b + 0), .int 6, .int y43, .int 0, .int 0, .int 0]) (rest := []) (c_L_call l hfl D t b σ37 6 y43 0 0 0 y86 σ88 u87) hx hb hml hown hts hE hsub hW hS q573 q574 q33  qw_L_call hs_L_call ⟨rfl, rfl⟩ ⟨Nat.le_of_ble_eq_true rfl, Nat.le_of_ble_eq_true rfl⟩ rfl rfl hl.1 (Nat.le_of_ble_eq_true rfl) ⟨show cl + 7176 + 4 ≤ 600104 by omega, show sl + 43056 + 24 ≤ 7301314 by omega⟩ dL_law_309 (fun H locs hW hS hF => ?_)
                                    have hA := hA.kept (hF.2 _ hA.lt hna)
                                    refine W.widen (k := cl + 7180) (n := sl + 43080) (by omega) (by omega) ?_
                                    refine lv_goto (tgt := 394) hx hb dL_law_312 (by decide) ?_
                                    refine lv_istore (lv' := [(13, .int y86), (12, .int y47), (11, .int y45), (10, .int y43), (9, .int y41), (8, .int y33), (7, .int y31), (0, .ref bA), (1, .ref (b + 0)), (2, .ref a), (3, .int x3), (4, .long x4), (6, .int x6)]) hx hb dL_law_394 hl (by decide) rfl (fun ls hl => ?_)
                                    refine lv_iload hx hb dL_law_396 (lv_at hl 0 rfl) ?_
                                    refine lv_sipush (v := (-1999)) hx hb dL_law_398 (by decide) ?_
                                    refine lv_icmp_ge (tgt := 408) hx hb dL_law_401 (by decide) (fun h89 => ?_) (fun h89 => ?_)
                                    · have hf := ifp h89 hf
                                      refine lv_iconst (v := 0) hx hb dL_law_408 (by decide) ?_
                                      refine lv_istore (lv' := [(14, .int 0), (13, .int y86), (12, .int y47), (11, .int y45), (10, .int y43), (9, .int y41), (8, .int y33), (7, .int y31), (0, .ref bA), (1, .ref (b + 0)), (2, .ref a), (3, .int x3), (4, .long x4), (6, .int x6)]) hx hb dL_law_409 hl (by decide) rfl (fun ls hl => ?_)
                                      refine lv_iload hx hb dL_law_411 (lv_at hl 0 rfl) ?_
                                      refine lv_if_eq (tgt := 438) hx hb dL_law_413 (by decide) (fun h90 => ?_) (fun h90 => absurd h90 (by decide))
                                      refine lv_iload_n hx hb dL_law_438 rfl (lv_at hl 11 rfl) ?_
                                      refine lv_iload hx hb dL_law_439 (lv_at hl 0 rfl) ?_
                                      refine lv_if_eq (tgt := 448) hx hb dL_law_441 (by decide) (fun h91 => ?_) (fun h91 => absurd h91 (by decide))
                                      refine lv_iconst (v := 1) hx hb dL_law_448 (by decide) ?_
                                      refine lv_iadd hx hb dL_law_449 ?_
                                      refine lv_istore_n (lv' := [(3, .int (x3 + 1)), (14, .int 0), (13, .int y86), (12, .int y47), (11, .int y45), (10, .int y43), (9, .int y41), (8, .int y33), (7, .int y31), (0, .ref bA), (1, .ref (b + 0)), (2, .ref a), (4, .long x4), (6, .int x6)]) hx hb dL_law_450 rfl hl (by decide) rfl (fun ls hl => ?_)
                                      refine lv_iinc (v := (x6 + 1)) (lv' := [(6, .int (x6 + 1)), (3, .int (x3 + 1)), (14, .int 0), (13, .int y86), (12, .int y47), (11, .int y45), (10, .int y43), (9, .int y41), (8, .int y33), (7, .int y31), (0, .ref bA), (1, .ref (b + 0)), (2, .ref a), (4, .long x4)]) hx hb dL_law_451 hl (k := 13) rfl (by rfl) (by decide) rfl (fun ls hl => ?_)
                                      refine lv_goto (tgt := 96) hx hb dL_law_454 (by decide) ?_
                                      refine W.widen (k := cl + 14356) (n := sl + 86136) (by omega) (by omega) ?_
                                      exact ih_96 σ88 w39 (x3 + 1) x4 (x6 + 1) (cl + 14356) (sl + 86136) ce se _ _ _ _ hf (by omega) (by omega) hcm hsm kx kk hA hW hS (lv_sub hl [10, 11, 12, 1, 13, 0] rfl)
                                    · have hf := ifn h89 hf
                                      refine lv_iconst (v := 1) hx hb dL_law_404 (by decide) ?_
                                      refine lv_goto (tgt := 409) hx hb dL_law_405 (by decide) ?_
                                      refine lv_istore (lv' := [(14, .int 1), (13, .int y86), (12, .int y47), (11, .int y45), (10, .int y43), (9, .int y41), (8, .int y33), (7, .int y31), (0, .ref bA), (1, .ref (b + 0)), (2, .ref a), (3, .int x3), (4, .long x4), (6, .int x6)]) hx hb dL_law_409 hl (by decide) rfl (fun ls hl => ?_)
                                      refine lv_iload hx hb dL_law_411 (lv_at hl 0 rfl) ?_
                                      refine lv_if_eq (tgt := 438) hx hb dL_law_413 (by decide) (fun h92 => absurd h92 (by decide)) (fun h92 => ?_)
                                      refine lv_aload_n hx hb dL_law_416 rfl (lv_at hl 9 rfl) ?_
                                      obtain ⟨y93, u94, hf⟩ := b1_e hf
                                      refine lV (n := 0) (As := []) (rest := []) (c_X4_recordedStates l D t b σ88 y93 u94) hx hb hml hown hts hE hsub hW hS q561 q562 q563 q34 q564 hy_X4_recordedStates ⟨rfl, rfl⟩ ⟨Nat.le_of_ble_eq_true rfl, Nat.le_of_ble_eq_true rfl⟩ rfl rfl hl.1 (Nat.le_of_ble_eq_true rfl) ⟨show cl + 7180 ≤ 600104 by omega, show sl + 43080 ≤ 7301314 by omega⟩ dL_law_417 (fun H locs hW hS hF => ?_)
                                      have hA := hA.kept (hF.2 _ hA.lt hna)
                                      refine lv_iload hx hb dL_law_420 (lv_at hl 5 rfl) ?_
                                      refine lv_icmp_ne (tgt := 436) hx hb dL_law_422 (by decide) (fun h95 => ?_) (fun h95 => ?_)
                                      · have hf := ifn h95 hf
                                        refine lv_iconst (v := 0) hx hb dL_law_436 (by decide) ?_
                                        cases hf
                                        exact absurd (kx _ rfl) (by decide)
                                      · have hf := ifp h95 hf
                                        refine lv_aload_n hx hb dL_law_425 rfl (lv_at hl 9 rfl) ?_
                                        obtain ⟨y96, σ98, u97, hf⟩ := b2L_e hf
                                        refine lS (n := 1) (As := [.ref (b + 0)]) (rest := []) (c_L_seen l hfl D t b σ88 y96 σ98 u97) hx hb hml hown hts hE hsub hW hS q940 q941 q33  q942 hs_L_seen ⟨rfl, rfl⟩ ⟨Nat.le_of_ble_eq_true rfl, Nat.le_of_ble_eq_true rfl⟩ rfl rfl hl.1 (Nat.le_of_ble_eq_true rfl) ⟨show cl + 7180 + 7176 ≤ 600104 by omega, show sl + 43080 + 43056 ≤ 7301314 by omega⟩ dL_law_426 (fun H locs hW hS hF => ?_)
                                        have hA := hA.kept (hF.2 _ hA.lt hna)
                                        refine W.widen (k := cl + 14356) (n := sl + 86136) (by omega) (by omega) ?_
                                        refine lv_aload_n hx hb dL_law_429 rfl (lv_at hl 10 rfl) ?_
                                        refine lv_iload_n hx hb dL_law_430 rfl (lv_at hl 11 rfl) ?_
                                        refine lLald hx hb hE.1 hA g38 dL_law_431 ?_
                                        refine lcmp_eq (tgt := 438) hx hb dL_law_432 dL_law_433 (by decide) (fun h99 => ?_) (fun h99 => ?_)
                                        · have hf := ifp h99 hf
                                          refine lv_iload_n hx hb dL_law_438 rfl (lv_at hl 11 rfl) ?_
                                          refine lv_iload hx hb dL_law_439 (lv_at hl 0 rfl) ?_
                                          refine lv_if_eq (tgt := 448) hx hb dL_law_441 (by decide) (fun h100 => absurd h100 (by decide)) (fun h100 => ?_)
                                          refine lv_iconst (v := 0) hx hb dL_law_444 (by decide) ?_
                                          refine lv_goto (tgt := 449) hx hb dL_law_445 (by decide) ?_
                                          refine lv_iadd hx hb dL_law_449 ?_
                                          refine lv_istore_n (lv' := [(3, .int (x3 + 0)), (14, .int 1), (13, .int y86), (12, .int y47), (11, .int y45), (10, .int y43), (9, .int y41), (8, .int y33), (7, .int y31), (0, .ref bA), (1, .ref (b + 0)), (2, .ref a), (4, .long x4), (6, .int x6)]) hx hb dL_law_450 rfl hl (by decide) rfl (fun ls hl => ?_)
                                          refine lv_iinc (v := (x6 + 1)) (lv' := [(6, .int (x6 + 1)), (3, .int (x3 + 0)), (14, .int 1), (13, .int y86), (12, .int y47), (11, .int y45), (10, .int y43), (9, .int y41), (8, .int y33), (7, .int y31), (0, .ref bA), (1, .ref (b + 0)), (2, .ref a), (4, .long x4)]) hx hb dL_law_451 hl (k := 13) rfl (by rfl) (by decide) rfl (fun ls hl => ?_)
                                          refine lv_goto (tgt := 96) hx hb dL_law_454 (by decide) ?_
                                          refine W.widen (k := cl + 14356) (n := sl + 86136) (by omega) (by omega) ?_
                                          exact ih_96 σ98 w39 (x3 + 0) x4 (x6 + 1) (cl + 14356) (sl + 86136) ce se _ _ _ _ hf (by omega) (by omega) hcm hsm kx kk hA hW hS (lv_sub hl [10, 11, 12, 1, 13, 0] rfl)
                                        · have hf := ifn h99 hf
                                          refine lv_iconst (v := 0) hx hb dL_law_436 (by decide) ?_
                                          cases hf
                                          exact absurd (kx _ rfl) (by decide)
                                · have hf := ifn h84 hf
                                  refine lv_aload_n hx hb dL_law_277 rfl (lv_at hl 7 rfl) ?_
                                  refine lv_iconst (v := 5) hx hb dL_law_278 (by decide) ?_
                                  refine lv_iload hx hb dL_law_279 (lv_at hl 2 rfl) ?_
                                  refine lv_bipush (v := 9) hx hb dL_law_281 (by decide) ?_
                                  refine lv_iload hx hb dL_law_283 (lv_at hl 0 rfl) ?_
                                  refine lv_imul hx hb dL_law_285 ?_
                                  refine lv_iconst (v := 0) hx hb dL_law_286 (by decide) ?_
                                  refine lv_iconst (v := 0) hx hb dL_law_287 (by decide) ?_
                                  obtain ⟨y164, σ166, u165, hf⟩ := b2_e hf
                                  refine lSW (n := 6) (As := [.ref (b + 0), .int 5, .int y43, .int (9 * y47), .int 0, .int 0]) (rest := []) (c_L_call l hfl D t b σ37 5 y43 (9 * y47) 0 0 y164 σ166 u165) hx hb hml hown hts hE hsub hW hS q573 q574 q33  qw_L_call hs_L_call ⟨rfl, rfl⟩ ⟨Nat.le_of_ble_eq_true rfl, Nat.le_of_ble_eq_true rfl⟩ rfl rfl hl.1 (Nat.le_of_ble_eq_true rfl) ⟨show cl + 7176 + 4 ≤ 600104 by omega, show sl + 43056 + 24 ≤ 7301314 by omega⟩ dL_law_288 (fun H locs hW hS hF => ?_)
                                  have hA := hA.kept (hF.2 _ hA.lt hna)
                                  refine W.widen (k := cl + 7180) (n := sl + 43080) (by omega) (by omega) ?_
                                  refine lv_goto (tgt := 394) hx hb dL_law_291 (by decide) ?_
                                  refine lv_istore (lv' := [(13, .int y164), (12, .int y47), (11, .int y45), (10, .int y43), (9, .int y41), (8, .int y33), (7, .int y31), (0, .ref bA), (1, .ref (b + 0)), (2, .ref a), (3, .int x3), (4, .long x4), (6, .int x6)]) hx hb dL_law_394 hl (by decide) rfl (fun ls hl => ?_)
                                  refine lv_iload hx hb dL_law_396 (lv_at hl 0 rfl) ?_
                                  refine lv_sipush (v := (-1999)) hx hb dL_law_398 (by decide) ?_
                                  refine lv_icmp_ge (tgt := 408) hx hb dL_law_401 (by decide) (fun h167 => ?_) (fun h167 => ?_)
                                  · have hf := ifp h167 hf
                                    refine lv_iconst (v := 0) hx hb dL_law_408 (by decide) ?_
                                    refine lv_istore (lv' := [(14, .int 0), (13, .int y164), (12, .int y47), (11, .int y45), (10, .int y43), (9, .int y41), (8, .int y33), (7, .int y31), (0, .ref bA), (1, .ref (b + 0)), (2, .ref a), (3, .int x3), (4, .long x4), (6, .int x6)]) hx hb dL_law_409 hl (by decide) rfl (fun ls hl => ?_)
                                    refine lv_iload hx hb dL_law_411 (lv_at hl 0 rfl) ?_
                                    refine lv_if_eq (tgt := 438) hx hb dL_law_413 (by decide) (fun h168 => ?_) (fun h168 => absurd h168 (by decide))
                                    refine lv_iload_n hx hb dL_law_438 rfl (lv_at hl 11 rfl) ?_
                                    refine lv_iload hx hb dL_law_439 (lv_at hl 0 rfl) ?_
                                    refine lv_if_eq (tgt := 448) hx hb dL_law_441 (by decide) (fun h169 => ?_) (fun h169 => absurd h169 (by decide))
                                    refine lv_iconst (v := 1) hx hb dL_law_448 (by decide) ?_
                                    refine lv_iadd hx hb dL_law_449 ?_
                                    refine lv_istore_n (lv' := [(3, .int (x3 + 1)), (14, .int 0), (13, .int y164), (12, .int y47), (11, .int y45), (10, .int y43), (9, .int y41), (8, .int y33), (7, .int y31), (0, .ref bA), (1, .ref (b + 0)), (2, .ref a), (4, .long x4), (6, .int x6)]) hx hb dL_law_450 rfl hl (by decide) rfl (fun ls hl => ?_)
                                    refine lv_iinc (v := (x6 + 1)) (lv' := [(6, .int (x6 + 1)), (3, .int (x3 + 1)), (14, .int 0), (13, .int y164), (12, .int y47), (11, .int y45), (10, .int y43), (9, .int y41), (8, .int y33), (7, .int y31), (0, .ref bA), (1, .ref (b + 0)), (2, .ref a), (4, .long x4)]) hx hb dL_law_451 hl (k := 13) rfl (by rfl) (by decide) rfl (fun ls hl => ?_)
                                    refine lv_goto (tgt := 96) hx hb dL_law_454 (by decide) ?_
                                    refine W.widen (k := cl + 14356) (n := sl + 86136) (by omega) (by omega) ?_
                                    exact ih_96 σ166 w39 (x3 + 1) x4 (x6 + 1) (cl + 14356) (sl + 86136) ce se _ _ _ _ hf (by omega) (by omega) hcm hsm kx kk hA hW hS (lv_sub hl [10, 11, 12, 1, 13, 0] rfl)
                                  · have hf := ifn h167 hf
                                    refine lv_iconst (v := 1) hx hb dL_law_404 (by decide) ?_
                                    refine lv_goto (tgt := 409) hx hb dL_law_405 (by decide) ?_
                                    refine lv_istore (lv' := [(14, .int 1), (13, .int y164), (12, .int y47), (11, .int y45), (10, .int y43), (9, .int y41), (8, .int y33), (7, .int y31), (0, .ref bA), (1, .ref (b + 0)), (2, .ref a), (3, .int x3), (4, .long x4), (6, .int x6)]) hx hb dL_law_409 hl (by decide) rfl (fun ls hl => ?_)
                                    refine lv_iload hx hb dL_law_411 (lv_at hl 0 rfl) ?_
                                    refine lv_if_eq (tgt := 438) hx hb dL_law_413 (by decide) (fun h170 => absurd h170 (by decide)) (fun h170 => ?_)
                                    refine lv_aload_n hx hb dL_law_416 rfl (lv_at hl 9 rfl) ?_
                                    obtain ⟨y171, u172, hf⟩ := b1_e hf
                                    refine lV (n := 0) (As := []) (rest := []) (c_X4_recordedStates l D t b σ166 y171 u172) hx hb hml hown hts hE hsub hW hS q561 q562 q563 q34 q564 hy_X4_recordedStates ⟨rfl, rfl⟩ ⟨Nat.le_of_ble_eq_true rfl, Nat.le_of_ble_eq_true rfl⟩ rfl rfl hl.1 (Nat.le_of_ble_eq_true rfl) ⟨show cl + 7180 ≤ 600104 by omega, show sl + 43080 ≤ 7301314 by omega⟩ dL_law_417 (fun H locs hW hS hF => ?_)
                                    have hA := hA.kept (hF.2 _ hA.lt hna)
                                    refine lv_iload hx hb dL_law_420 (lv_at hl 5 rfl) ?_
                                    refine lv_icmp_ne (tgt := 436) hx hb dL_law_422 (by decide) (fun h173 => ?_) (fun h173 => ?_)
                                    · have hf := ifn h173 hf
                                      refine lv_iconst (v := 0) hx hb dL_law_436 (by decide) ?_
                                      cases hf
                                      exact absurd (kx _ rfl) (by decide)
                                    · have hf := ifp h173 hf
                                      refine lv_aload_n hx hb dL_law_425 rfl (lv_at hl 9 rfl) ?_
                                      obtain ⟨y174, σ176, u175, hf⟩ := b2L_e hf
                                      refine lS (n := 1) (As := [.ref (b + 0)]) (rest := []) (c_L_seen l hfl D t b σ166 y174 σ176 u175) hx hb hml hown hts hE hsub hW hS q940 q941 q33  q942 hs_L_seen ⟨rfl, rfl⟩ ⟨Nat.le_of_ble_eq_true rfl, Nat.le_of_ble_eq_true rfl⟩ rfl rfl hl.1 (Nat.le_of_ble_eq_true rfl) ⟨show cl + 7180 + 7176 ≤ 600104 by omega, show sl + 43080 + 43056 ≤ 7301314 by omega⟩ dL_law_426 (fun H locs hW hS hF => ?_)
                                      have hA := hA.kept (hF.2 _ hA.lt hna)
                                      refine W.widen (k := cl + 14356) (n := sl + 86136) (by omega) (by omega) ?_
                                      refine lv_aload_n hx hb dL_law_429 rfl (lv_at hl 10 rfl) ?_
                                      refine lv_iload_n hx hb dL_law_430 rfl (lv_at hl 11 rfl) ?_
                                      refine lLald hx hb hE.1 hA g38 dL_law_431 ?_
                                      refine lcmp_eq (tgt := 438) hx hb dL_law_432 dL_law_433 (by decide) (fun h177 => ?_) (fun h177 => ?_)
                                      · have hf := ifp h177 hf
                                        refine lv_iload_n hx hb dL_law_438 rfl (lv_at hl 11 rfl) ?_
                                        refine lv_iload hx hb dL_law_439 (lv_at hl 0 rfl) ?_
                                        refine lv_if_eq (tgt := 448) hx hb dL_law_441 (by decide) (fun h178 => absurd h178 (by decide)) (fun h178 => ?_)
                                        refine lv_iconst (v := 0) hx hb dL_law_444 (by decide) ?_
                                        refine lv_goto (tgt := 449) hx hb dL_law_445 (by decide) ?_
                                        refine lv_iadd hx hb dL_law_449 ?_
                                        refine lv_istore_n (lv' := [(3, .int (x3 + 0)), (14, .int 1), (13, .int y164), (12, .int y47), (11, .int y45), (10, .int y43), (9, .int y41), (8, .int y33), (7, .int y31), (0, .ref bA), (1, .ref (b + 0)), (2, .ref a), (4, .long x4), (6, .int x6)]) hx hb dL_law_450 rfl hl (by decide) rfl (fun ls hl => ?_)
                                        refine lv_iinc (v := (x6 + 1)) (lv' := [(6, .int (x6 + 1)), (3, .int (x3 + 0)), (14, .int 1), (13, .int y164), (12, .int y47), (11, .int y45), (10, .int y43), (9, .int y41), (8, .int y33), (7, .int y31), (0, .ref bA), (1, .ref (b + 0)), (2, .ref a), (4, .long x4)]) hx hb dL_law_451 hl (k := 13) rfl (by rfl) (by decide) rfl (fun ls hl => ?_)
                                        refine lv_goto (tgt := 96) hx hb dL_law_454 (by decide) ?_
                                        refine W.widen (k := cl + 14356) (n := sl + 86136) (by omega) (by omega) ?_
                                        exact ih_96 σ176 w39 (x3 + 0) x4 (x6 + 1) (cl + 14356) (sl + 86136) ce se _ _ _ _ hf (by omega) (by omega) hcm hsm kx kk hA hW hS (lv_sub hl [10, 11, 12, 1, 13, 0] rfl)
                                      · have hf := ifn h177 hf
                                        refine lv_iconst (v := 0) hx hb dL_law_436 (by decide) ?_
                                        cases hf
                                        exact absurd (kx _ rfl) (by decide)
                              · have hf := ifn h83 hf
                                refine lv_aload_n hx hb dL_law_254 rfl (lv_at hl 7 rfl) ?_
                                refine lv_iconst (v := 4) hx hb dL_law_255 (by decide) ?_
                                refine lv_iload hx hb dL_law_256 (lv_at hl 2 rfl) ?_
                                refine lv_iload hx hb dL_law_258 (lv_at hl 1 rfl) ?_
                                refine lv_iload hx hb dL_law_260 (lv_at hl 0 rfl) ?_
                                refine lv_iload hx hb dL_law_262 (lv_at hl 0 rfl) ?_
                                obtain ⟨y179, σ181, u180, hf⟩ := b2_e hf
                                refine lSW (n := 6) (As := [.ref (b + 0), .int 4, .int y43, .int y45, .int y47, .int y47]) (rest := []) (c_L_call l hfl D t b σ37 4 y43 y45 y47 y47 y179 σ181 u180) hx hb hml hown hts hE hsub hW hS q573 q574 q33  qw_L_call hs_L_call ⟨rfl, rfl⟩ ⟨Nat.le_of_ble_eq_true rfl, Nat.le_of_ble_eq_true rfl⟩ rfl rfl hl.1 (Nat.le_of_ble_eq_true rfl) ⟨show cl + 7176 + 4 ≤ 600104 by omega, show sl + 43056 + 24 ≤ 7301314 by omega⟩ dL_law_264 (fun H locs hW hS hF => ?_)
                                have hA := hA.kept (hF.2 _ hA.lt hna)
                                refine W.widen (k := cl + 7180) (n := sl + 43080) (by omega) (by omega) ?_
                                refine lv_goto (tgt := 394) hx hb dL_law_267 (by decide) ?_
                                refine lv_istore (lv' := [(13, .int y179), (12, .int y47), (11, .int y45), (10, .int y43), (9, .int y41), (8, .int y33), (7, .int y31), (0, .ref bA), (1, .ref (b + 0)), (2, .ref a), (3, .int x3), (4, .long x4), (6, .int x6)]) hx hb dL_law_394 hl (by decide) rfl (fun ls hl => ?_)
                                refine lv_iload hx hb dL_law_396 (lv_at hl 0 rfl) ?_
                                refine lv_sipush (v := (-1999)) hx hb dL_law_398 (by decide) ?_
                                refine lv_icmp_ge (tgt := 408) hx hb dL_law_401 (by decide) (fun h182 => ?_) (fun h182 => ?_)
                                · have hf := ifp h182 hf
                                  refine lv_iconst (v := 0) hx hb dL_law_408 (by decide) ?_
                                  refine lv_istore (lv' := [(14, .int 0), (13, .int y179), (12, .int y47), (11, .int y45), (10, .int y43), (9, .int y41), (8, .int y33), (7, .int y31), (0, .ref bA), (1, .ref (b + 0)), (2, .ref a), (3, .int x3), (4, .long x4), (6, .int x6)]) hx hb dL_law_409 hl (by decide) rfl (fun ls hl => ?_)
                                  refine lv_iload hx hb dL_law_411 (lv_at hl 0 rfl) ?_
                                  refine lv_if_eq (tgt := 438) hx hb dL_law_413 (by decide) (fun h183 => ?_) (fun h183 => absurd h183 (by decide))
                                  refine lv_iload_n hx hb dL_law_438 rfl (lv_at hl 11 rfl) ?_
                                  refine lv_iload hx hb dL_law_439 (lv_at hl 0 rfl) ?_
                                  refine lv_if_eq (tgt := 448) hx hb dL_law_441 (by decide) (fun h184 => ?_) (fun h184 => absurd h184 (by decide))
                                  refine lv_iconst (v := 1) hx hb dL_law_448 (by decide) ?_
                                  refine lv_iadd hx hb dL_law_449 ?_
                                  refine lv_istore_n (lv' := [(3, .int (x3 + 1)), (14, .int 0), (13, .int y179), (12, .int y47), (11, .int y45), (10, .int y43), (9, .int y41), (8, .int y33), (7, .int y31), (0, .ref bA), (1, .ref (b + 0)), (2, .ref a), (4, .long x4), (6, .int x6)]) hx hb dL_law_450 rfl hl (by decide) rfl (fun ls hl => ?_)
                                  refine lv_iinc (v := (x6 + 1)) (lv' := [(6, .int (x6 + 1)), (3, .int (x3 + 1)), (14, .int 0), (13, .int y179), (12, .int y47), (11, .int y45), (10, .int y43), (9, .int y41), (8, .int y33), (7, .int y31), (0, .ref bA), (1, .ref (b + 0)), (2, .ref a), (4, .long x4)]) hx hb dL_law_451 hl (k := 13) rfl (by rfl) (by decide) rfl (fun ls hl => ?_)
                                  refine lv_goto (tgt := 96) hx hb dL_law_454 (by decide) ?_
                                  refine W.widen (k := cl + 14356) (n := sl + 86136) (by omega) (by omega) ?_
                                  exact ih_96 σ181 w39 (x3 + 1) x4 (x6 + 1) (cl + 14356) (sl + 86136) ce se _ _ _ _ hf (by omega) (by omega) hcm hsm kx kk hA hW hS (lv_sub hl [10, 11, 12, 1, 13, 0] rfl)
                                · have hf := ifn h182 hf
                                  refine lv_iconst (v := 1) hx hb dL_law_404 (by decide) ?_
                                  refine lv_goto (tgt := 409) hx hb dL_law_405 (by decide) ?_
                                  refine lv_istore (lv' := [(14, .int 1), (13, .int y179), (12, .int y47), (11, .int y45), (10, .int y43), (9, .int y41), (8, .int y33), (7, .int y31), (0, .ref bA), (1, .ref (b + 0)), (2, .ref a), (3, .int x3), (4, .long x4), (6, .int x6)]) hx hb dL_law_409 hl (by decide) rfl (fun ls hl => ?_)
                                  refine lv_iload hx hb dL_law_411 (lv_at hl 0 rfl) ?_
                                  refine lv_if_eq (tgt := 438) hx hb dL_law_413 (by decide) (fun h185 => absurd h185 (by decide)) (fun h185 => ?_)
                                  refine lv_aload_n hx hb dL_law_416 rfl (lv_at hl 9 rfl) ?_
                                  obtain ⟨y186, u187, hf⟩ := b1_e hf
                                  refine lV (n := 0) (As := []) (rest := []) (c_X4_recordedStates l D t b σ181 y186 u187) hx hb hml hown hts hE hsub hW hS q561 q562 q563 q34 q564 hy_X4_recordedStates ⟨rfl, rfl⟩ ⟨Nat.le_of_ble_eq_true rfl, Nat.le_of_ble_eq_true rfl⟩ rfl rfl hl.1 (Nat.le_of_ble_eq_true rfl) ⟨show cl + 7180 ≤ 600104 by omega, show sl + 43080 ≤ 7301314 by omega⟩ dL_law_417 (fun H locs hW hS hF => ?_)
                                  have hA := hA.kept (hF.2 _ hA.lt hna)
                                  refine lv_iload hx hb dL_law_420 (lv_at hl 5 rfl) ?_
                                  refine lv_icmp_ne (tgt := 436) hx hb dL_law_422 (by decide) (fun h188 => ?_) (fun h188 => ?_)
                                  · have hf := ifn h188 hf
                                    refine lv_iconst (v := 0) hx hb dL_law_436 (by decide) ?_
                                    cases hf
                                    exact absurd (kx _ rfl) (by decide)
                                  · have hf := ifp h188 hf
                                    refine lv_aload_n hx hb dL_law_425 rfl (lv_at hl 9 rfl) ?_
                                    obtain ⟨y189, σ191, u190, hf⟩ := b2L_e hf
                                    refine lS (n := 1) (As := [.ref (b + 0)]) (rest := []) (c_L_seen l hfl D t b σ181 y189 σ191 u190) hx hb hml hown hts hE hsub hW hS q940 q941 q33  q942 hs_L_seen ⟨rfl, rfl⟩ ⟨Nat.le_of_ble_eq_true rfl, Nat.le_of_ble_eq_true rfl⟩ rfl rfl hl.1 (Nat.le_of_ble_eq_true rfl) ⟨show cl + 7180 + 7176 ≤ 600104 by omega, show sl + 43080 + 43056 ≤ 7301314 by omega⟩ dL_law_426 (fun H locs hW hS hF => ?_)
                                    have hA := hA.kept (hF.2 _ hA.lt hna)
                                    refine W.widen (k := cl + 14356) (n := sl + 86136) (by omega) (by omega) ?_
                                    refine lv_aload_n hx hb dL_law_429 rfl (lv_at hl 10 rfl) ?_
                                    refine lv_iload_n hx hb dL_law_430 rfl (lv_at hl 11 rfl) ?_
                                    refine lLald hx hb hE.1 hA g38 dL_law_431 ?_
                                    refine lcmp_eq (tgt := 438) hx hb dL_law_432 dL_law_433 (by decide) (fun h192 => ?_) (fun h192 => ?_)
                                    · have hf := ifp h192 hf
                                      refine lv_iload_n hx hb dL_law_438 rfl (lv_at hl 11 rfl) ?_
                                      refine lv_iload hx hb dL_law_439 (lv_at hl 0 rfl) ?_
                                      refine lv_if_eq (tgt := 448) hx hb dL_law_441 (by decide) (fun h193 => absurd h193 (by decide)) (fun h193 => ?_)
                                      refine lv_iconst (v := 0) hx hb dL_law_444 (by decide) ?_
                                      refine lv_goto (tgt := 449) hx hb dL_law_445 (by decide) ?_
                                      refine lv_iadd hx hb dL_law_449 ?_
                                      refine lv_istore_n (lv' := [(3, .int (x3 + 0)), (14, .int 1), (13, .int y179), (12, .int y47), (11, .int y45), (10, .int y43), (9, .int y41), (8, .int y33), (7, .int y31), (0, .ref bA), (1, .ref (b + 0)), (2, .ref a), (4, .long x4), (6, .int x6)]) hx hb dL_law_450 rfl hl (by decide) rfl (fun ls hl => ?_)
                                      refine lv_iinc (v := (x6 + 1)) (lv' := [(6, .int (x6 + 1)), (3, .int (x3 + 0)), (14, .int 1), (13, .int y179), (12, .int y47), (11, .int y45), (10, .int y43), (9, .int y41), (8, .int y33), (7, .int y31), (0, .ref bA), (1, .ref (b + 0)), (2, .ref a), (4, .long x4)]) hx hb dL_law_451 hl (k := 13) rfl (by rfl) (by decide) rfl (fun ls hl => ?_)
                                      refine lv_goto (tgt := 96) hx hb dL_law_454 (by decide) ?_
                                      refine W.widen (k := cl + 14356) (n := sl + 86136) (by omega) (by omega) ?_
                                      exact ih_96 σ191 w39 (x3 + 0) x4 (x6 + 1) (cl + 14356) (sl + 86136) ce se _ _ _ _ hf (by omega) (by omega) hcm hsm kx kk hA hW hS (lv_sub hl [10, 11, 12, 1, 13, 0] rfl)
                                    · have hf := ifn h192 hf
                                      refine lv_iconst (v := 0) hx hb dL_law_436 (by decide) ?_
                                      cases hf
                                      exact absurd (kx _ rfl) (by decide)
                            · have hf := ifp h67 hf
                              refine lv_aload_n hx hb dL_law_234 rfl (lv_at hl 7 rfl) ?_
                              refine lv_iconst (v := 3) hx hb dL_law_235 (by decide) ?_
                              refine lv_iload hx hb dL_law_236 (lv_at hl 2 rfl) ?_
                              refine lv_iconst (v := 0) hx hb dL_law_238 (by decide) ?_
                              refine lv_iconst (v := 0) hx hb dL_law_239 (by decide) ?_
                              refine lv_iconst (v := 0) hx hb dL_law_240 (by decide) ?_
                              obtain ⟨y68, σ70, u69, hf⟩ := b2_e hf
                              refine lSW (n := 6) (As := [.ref (b + 0), .int 3, .int y43, .int 0, .int 0, .int 0]) (rest := []) (c_L_call l hfl D t b σ37 3 y43 0 0 0 y68 σ70 u69) hx hb hml hown hts hE hsub hW hS q573 q574 q33  qw_L_call hs_L_call ⟨rfl, rfl⟩ ⟨Nat.le_of_ble_eq_true rfl, Nat.le_of_ble_eq_true rfl⟩ rfl rfl hl.1 (Nat.le_of_ble_eq_true rfl) ⟨show cl + 7176 + 4 ≤ 600104 by omega, show sl + 43056 + 24 ≤ 7301314 by omega⟩ dL_law_241 (fun H locs hW hS hF => ?_)
                              have hA := hA.kept (hF.2 _ hA.lt hna)
                              refine W.widen (k := cl + 7180) (n := sl + 43080) (by omega) (by omega) ?_
                              refine lv_goto (tgt := 394) hx hb dL_law_244 (by decide) ?_
                              refine lv_istore (lv' := [(13, .int y68), (12, .int y47), (11, .int y45), (10, .int y43), (9, .int y41), (8, .int y33), (7, .int y31), (0, .ref bA), (1, .ref (b + 0)), (2, .ref a), (3, .int x3), (4, .long x4), (6, .int x6)]) hx hb dL_law_394 hl (by decide) rfl (fun ls hl => ?_)
                              refine lv_iload hx hb dL_law_396 (lv_at hl 0 rfl) ?_
                              refine lv_sipush (v := (-1999)) hx hb dL_law_398 (by decide) ?_
                              refine lv_icmp_ge (tgt := 408) hx hb dL_law_401 (by decide) (fun h71 => ?_) (fun h71 => ?_)
                              · have hf := ifp h71 hf
                                refine lv_iconst (v := 0) hx hb dL_law_408 (by decide) ?_
                                refine lv_istore (lv' := [(14, .int 0), (13, .int y68), (12, .int y47), (11, .int y45), (10, .int y43), (9, .int y41), (8, .int y33), (7, .int y31), (0, .ref bA), (1, .ref (b + 0)), (2, .ref a), (3, .int x3), (4, .long x4), (6, .int x6)]) hx hb dL_law_409 hl (by decide) rfl (fun ls hl => ?_)
                                refine lv_iload hx hb dL_law_411 (lv_at hl 0 rfl) ?_
                                refine lv_if_eq (tgt := 438) hx hb dL_law_413 (by decide) (fun h72 => ?_) (fun h72 => absurd h72 (by decide))
                                refine lv_iload_n hx hb dL_law_438 rfl (lv_at hl 11 rfl) ?_
                                refine lv_iload hx hb dL_law_439 (lv_at hl 0 rfl) ?_
                                refine lv_if_eq (tgt := 448) hx hb dL_law_441 (by decide) (fun h73 => ?_) (fun h73 => absurd h73 (by decide))
                                refine lv_iconst (v := 1) hx hb dL_law_448 (by decide) ?_
                                refine lv_iadd hx hb dL_law_449 ?_
                                refine lv_istore_n (lv' := [(3, .int (x3 + 1)), (14, .int 0), (13, .int y68), (12, .int y47), (11, .int y45), (10, .int y43), (9, .int y41), (8, .int y33), (7, .int y31), (0, .ref bA), (1, .ref (b + 0)), (2, .ref a), (4, .long x4), (6, .int x6)]) hx hb dL_law_450 rfl hl (by decide) rfl (fun ls hl => ?_)
                                refine lv_iinc (v := (x6 + 1)) (lv' := [(6, .int (x6 + 1)), (3, .int (x3 + 1)), (14, .int 0), (13, .int y68), (12, .int y47), (11, .int y45), (10, .int y43), (9, .int y41), (8, .int y33), (7, .int y31), (0, .ref bA), (1, .ref (b + 0)), (2, .ref a), (4, .long x4)]) hx hb dL_law_451 hl (k := 13) rfl (by rfl) (by decide) rfl (fun ls hl => ?_)
                                refine lv_goto (tgt := 96) hx hb dL_law_454 (by decide) ?_
                                refine W.widen (k := cl + 14356) (n := sl + 86136) (by omega) (by omega) ?_
                                exact ih_96 σ70 w39 (x3 + 1) x4 (x6 + 1) (cl + 14356) (sl + 86136) ce se _ _ _ _ hf (by omega) (by omega) hcm hsm kx kk hA hW hS (lv_sub hl [10, 11, 12, 1, 13, 0] rfl)
                              · have hf := ifn h71 hf
                                refine lv_iconst (v := 1) hx hb dL_law_404 (by decide) ?_
                                refine lv_goto (tgt := 409) hx hb dL_law_405 (by decide) ?_
                                refine lv_istore (lv' := [(14, .int 1), (13, .int y68), (12, .int y47), (11, .int y45), (10, .int y43), (9, .int y41), (8, .int y33), (7, .int y31), (0, .ref bA), (1, .ref (b + 0)), (2, .ref a), (3, .int x3), (4, .long x4), (6, .int x6)]) hx hb dL_law_409 hl (by decide) rfl (fun ls hl => ?_)
                                refine lv_iload hx hb dL_law_411 (lv_at hl 0 rfl) ?_
                                refine lv_if_eq (tgt := 438) hx hb dL_law_413 (by decide) (fun h74 => absurd h74 (by decide)) (fun h74 => ?_)
                                refine lv_aload_n hx hb dL_law_416 rfl (lv_at hl 9 rfl) ?_
                                obtain ⟨y75, u76, hf⟩ := b1_e hf
                                refine lV (n := 0) (As := []) (rest := []) (c_X4_recordedStates l D t b σ70 y75 u76) hx hb hml hown hts hE hsub hW hS q561 q562 q563 q34 q564 hy_X4_recordedStates ⟨rfl, rfl⟩ ⟨Nat.le_of_ble_eq_true rfl, Nat.le_of_ble_eq_true rfl⟩ rfl rfl hl.1 (Nat.le_of_ble_eq_true rfl) ⟨show cl + 7180 ≤ 600104 by omega, show sl + 43080 ≤ 7301314 by omega⟩ dL_law_417 (fun H locs hW hS hF => ?_)
                                have hA := hA.kept (hF.2 _ hA.lt hna)
                                refine lv_iload hx hb dL_law_420 (lv_at hl 5 rfl) ?_
                                refine lv_icmp_ne (tgt := 436) hx hb dL_law_422 (by decide) (fun h77 => ?_) (fun h77 => ?_)
                                · have hf := ifn h77 hf
                                  refine lv_iconst (v := 0) hx hb dL_law_436 (by decide) ?_
                                  cases hf
                                  exact absurd (kx _ rfl) (by decide)
                                · have hf := ifp h77 hf
                                  refine lv_aload_n hx hb dL_law_425 rfl (lv_at hl 9 rfl) ?_
                                  obtain ⟨y78, σ80, u79, hf⟩ := b2L_e hf
                                  refine lS (n := 1) (As := [.ref (b + 0)]) (rest := []) (c_L_seen l hfl D t b σ70 y78 σ80 u79) hx hb hml hown hts hE hsub hW hS q940 q941 q33  q942 hs_L_seen ⟨rfl, rfl⟩ ⟨Nat.le_of_ble_eq_true rfl, Nat.le_of_ble_eq_true rfl⟩ rfl rfl hl.1 (Nat.le_of_ble_eq_true rfl) ⟨show cl + 7180 + 7176 ≤ 600104 by omega, show sl + 43080 + 43056 ≤ 7301314 by omega⟩ dL_law_426 (fun H locs hW hS hF => ?_)
                                  have hA := hA.kept (hF.2 _ hA.lt hna)
                                  refine W.widen (k := cl + 14356) (n := sl + 86136) (by omega) (by omega) ?_
                                  refine lv_aload_n hx hb dL_law_429 rfl (lv_at hl 10 rfl) ?_
                                  refine lv_iload_n hx hb dL_law_430 rfl (lv_at hl 11 rfl) ?_
                                  refine lLald hx hb hE.1 hA g38 dL_law_431 ?_
                                  refine lcmp_eq (tgt := 438) hx hb dL_law_432 dL_law_433 (by decide) (fun h81 => ?_) (fun h81 => ?_)
                                  · have hf := ifp h81 hf
                                    refine lv_iload_n hx hb dL_law_438 rfl (lv_at hl 11 rfl) ?_
                                    refine lv_iload hx hb dL_law_439 (lv_at hl 0 rfl) ?_
                                    refine lv_if_eq (tgt := 448) hx hb dL_law_441 (by decide) (fun h82 => absurd h82 (by decide)) (fun h82 => ?_)
                                    refine lv_iconst (v := 0) hx hb dL_law_444 (by decide) ?_
                                    refine lv_goto (tgt := 449) hx hb dL_law_445 (by decide) ?_
                                    refine lv_iadd hx hb dL_law_449 ?_
                                    refine lv_istore_n (lv' := [(3, .int (x3 + 0)), (14, .int 1), (13, .int y68), (12, .int y47), (11, .int y45), (10, .int y43), (9, .int y41), (8, .int y33), (7, .int y31), (0, .ref bA), (1, .ref (b + 0)), (2, .ref a), (4, .long x4), (6, .int x6)]) hx hb dL_law_450 rfl hl (by decide) rfl (fun ls hl => ?_)
                                    refine lv_iinc (v := (x6 + 1)) (lv' := [(6, .int (x6 + 1)), (3, .int (x3 + 0)), (14, .int 1), (13, .int y68), (12, .int y47), (11, .int y45), (10, .int y43), (9, .int y41), (8, .int y33), (7, .int y31), (0, .ref bA), (1, .ref (b + 0)), (2, .ref a), (4, .long x4)]) hx hb dL_law_451 hl (k := 13) rfl (by rfl) (by decide) rfl (fun ls hl => ?_)
                                    refine lv_goto (tgt := 96) hx hb dL_law_454 (by decide) ?_
                                    refine W.widen (k := cl + 14356) (n := sl + 86136) (by omega) (by omega) ?_
                                    exact ih_96 σ80 w39 (x3 + 0) x4 (x6 + 1) (cl + 14356) (sl + 86136) ce se _ _ _ _ hf (by omega) (by omega) hcm hsm kx kk hA hW hS (lv_sub hl [10, 11, 12, 1, 13, 0] rfl)
                                  · have hf := ifn h81 hf
                                    refine lv_iconst (v := 0) hx hb dL_law_436 (by decide) ?_
                                    cases hf
                                    exact absurd (kx _ rfl) (by decide)
                          · have hf := ifn h66 hf
                            refine lv_aload_n hx hb dL_law_213 rfl (lv_at hl 7 rfl) ?_
                            refine lv_iconst (v := 2) hx hb dL_law_214 (by decide) ?_
                            refine lv_iload hx hb dL_law_215 (lv_at hl 2 rfl) ?_
                            refine lv_iload hx hb dL_law_217 (lv_at hl 0 rfl) ?_
                            refine lv_iconst (v := 0) hx hb dL_law_219 (by decide) ?_
                            refine lv_iconst (v := 0) hx hb dL_law_220 (by decide) ?_
                            obtain ⟨y194, σ196, u195, hf⟩ := b2_e hf
                            refine lSW (n := 6) (As := [.ref (b + 0), .int 2, .int y43, .int y47, .int 0, .int 0]) (rest := []) (c_L_call l hfl D t b σ37 2 y43 y47 0 0 y194 σ196 u195) hx hb hml hown hts hE hsub hW hS q573 q574 q33  qw_L_call hs_L_call ⟨rfl, rfl⟩ ⟨Nat.le_of_ble_eq_true rfl, Nat.le_of_ble_eq_true rfl⟩ rfl rfl hl.1 (Nat.le_of_ble_eq_true rfl) ⟨show cl + 7176 + 4 ≤ 600104 by omega, show sl + 43056 + 24 ≤ 7301314 by omega⟩ dL_law_221 (fun H locs hW hS hF => ?_)
                            have hA := hA.kept (hF.2 _ hA.lt hna)
                            refine W.widen (k := cl + 7180) (n := sl + 43080) (by omega) (by omega) ?_
                            refine lv_goto (tgt := 394) hx hb dL_law_224 (by decide) ?_
                            refine lv_istore (lv' := [(13, .int y194), (12, .int y47), (11, .int y45), (10, .int y43), (9, .int y41), (8, .int y33), (7, .int y31), (0, .ref bA), (1, .ref (b + 0)), (2, .ref a), (3, .int x3), (4, .long x4), (6, .int x6)]) hx hb dL_law_394 hl (by decide) rfl (fun ls hl => ?_)
                            refine lv_iload hx hb dL_law_396 (lv_at hl 0 rfl) ?_
                            refine lv_sipush (v := (-1999)) hx hb dL_law_398 (by decide) ?_
                            refine lv_icmp_ge (tgt := 408) hx hb dL_law_401 (by decide) (fun h197 => ?_) (fun h197 => ?_)
                            · have hf := ifp h197 hf
                              refine lv_iconst (v := 0) hx hb dL_law_408 (by decide) ?_
                              refine lv_istore (lv' := [(14, .int 0), (13, .int y194), (12, .int y47), (11, .int y45), (10, .int y43), (9, .int y41), (8, .int y33), (7, .int y31), (0, .ref bA), (1, .ref (b + 0)), (2, .ref a), (3, .int x3), (4, .long x4), (6, .int x6)]) hx hb dL_law_409 hl (by decide) rfl (fun ls hl => ?_)
                              refine lv_iload hx hb dL_law_411 (lv_at hl 0 rfl) ?_
                              refine lv_if_eq (tgt := 438) hx hb dL_law_413 (by decide) (fun h198 => ?_) (fun h198 => absurd h198 (by decide))
                              refine lv_iload_n hx hb dL_law_438 rfl (lv_at hl 11 rfl) ?_
                              refine lv_iload hx hb dL_law_439 (lv_at hl 0 rfl) ?_
                              refine lv_if_eq (tgt := 448) hx hb dL_law_441 (by decide) (fun h199 => ?_) (fun h199 => absurd h199 (by decide))
                              refine lv_iconst (v := 1) hx hb dL_law_448 (by decide) ?_
                              refine lv_iadd hx hb dL_law_449 ?_
                              refine lv_istore_n (lv' := [(3, .int (x3 + 1)), (14, .int 0), (13, .int y194), (12, .int y47), (11, .int y45), (10, .int y43), (9, .int y41), (8, .int y33), (7, .int y31), (0, .ref bA), (1, .ref (b + 0)), (2, .ref a), (4, .long x4), (6, .int x6)]) hx hb dL_law_450 rfl hl (by decide) rfl (fun ls hl => ?_)
                              refine lv_iinc (v := (x6 + 1)) (lv' := [(6, .int (x6 + 1)), (3, .int (x3 + 1)), (14, .int 0), (13, .int y194), (12, .int y47), (11, .int y45), (10, .int y43), (9, .int y41), (8, .int y33), (7, .int y31), (0, .ref bA), (1, .ref (b + 0)), (2, .ref a), (4, .long x4)]) hx hb dL_law_451 hl (k := 13) rfl (by rfl) (by decide) rfl (fun ls hl => ?_)
                              refine lv_goto (tgt := 96) hx hb dL_law_454 (by decide) ?_
                              refine W.widen (k := cl + 14356) (n := sl + 86136) (by omega) (by omega) ?_
                              exact ih_96 σ196 w39 (x3 + 1) x4 (x6 + 1) (cl + 14356) (sl + 86136) ce se _ _ _ _ hf (by omega) (by omega) hcm hsm kx kk hA hW hS (lv_sub hl [10, 11, 12, 1, 13, 0] rfl)
                            · have hf := ifn h197 hf
                              refine lv_iconst (v := 1) hx hb dL_law_404 (by decide) ?_
                              refine lv_goto (tgt := 409) hx hb dL_law_405 (by decide) ?_
                              refine lv_istore (lv' := [(14, .int 1), (13, .int y194), (12, .int y47), (11, .int y45), (10, .int y43), (9, .int y41), (8, .int y33), (7, .int y31), (0, .ref bA), (1, .ref (b + 0)), (2, .ref a), (3, .int x3), (4, .long x4), (6, .int x6)]) hx hb dL_law_409 hl (by decide) rfl (fun ls hl => ?_)
                              refine lv_iload hx hb dL_law_411 (lv_at hl 0 rfl) ?_
                              refine lv_if_eq (tgt := 438) hx hb dL_law_413 (by decide) (fun h200 => absurd h200 (by decide)) (fun h200 => ?_)
                              refine lv_aload_n hx hb dL_law_416 rfl (lv_at hl 9 rfl) ?_
                              obtain ⟨y201, u202, hf⟩ := b1_e hf
                              refine lV (n := 0) (As := []) (rest := []) (c_X4_recordedStates l D t b σ196 y201 u202) hx hb hml hown hts hE hsub hW hS q561 q562 q563 q34 q564 hy_X4_recordedStates ⟨rfl, rfl⟩ ⟨Nat.le_of_ble_eq_true rfl, Nat.le_of_ble_eq_true rfl⟩ rfl rfl hl.1 (Nat.le_of_ble_eq_true rfl) ⟨show cl + 7180 ≤ 600104 by omega, show sl + 43080 ≤ 7301314 by omega⟩ dL_law_417 (fun H locs hW hS hF => ?_)
                              have hA := hA.kept (hF.2 _ hA.lt hna)
                              refine lv_iload hx hb dL_law_420 (lv_at hl 5 rfl) ?_
                              refine lv_icmp_ne (tgt := 436) hx hb dL_law_422 (by decide) (fun h203 => ?_) (fun h203 => ?_)
                              · have hf := ifn h203 hf
                                refine lv_iconst (v := 0) hx hb dL_law_436 (by decide) ?_
                                cases hf
                                exact absurd (kx _ rfl) (by decide)
                              · have hf := ifp h203 hf
                                refine lv_aload_n hx hb dL_law_425 rfl (lv_at hl 9 rfl) ?_
                                obtain ⟨y204, σ206, u205, hf⟩ := b2L_e hf
                                refine lS (n := 1) (As := [.ref (b + 0)]) (rest := []) (c_L_seen l hfl D t b σ196 y204 σ206 u205) hx hb hml hown hts hE hsub hW hS q940 q941 q33  q942 hs_L_seen ⟨rfl, rfl⟩ ⟨Nat.le_of_ble_eq_true rfl, Nat.le_of_ble_eq_true rfl⟩ rfl rfl hl.1 (Nat.le_of_ble_eq_true rfl) ⟨show cl + 7180 + 7176 ≤ 600104 by omega, show sl + 43080 + 43056 ≤ 7301314 by omega⟩ dL_law_426 (fun H locs hW hS hF => ?_)
                                have hA := hA.kept (hF.2 _ hA.lt hna)
                                refine W.widen (k := cl + 14356) (n := sl + 86136) (by omega) (by omega) ?_
                                refine lv_aload_n hx hb dL_law_429 rfl (lv_at hl 10 rfl) ?_
                                refine lv_iload_n hx hb dL_law_430 rfl (lv_at hl 11 rfl) ?_
                                refine lLald hx hb hE.1 hA g38 dL_law_431 ?_
                                refine lcmp_eq (tgt := 438) hx hb dL_law_432 dL_law_433 (by decide) (fun h207 => ?_) (fun h207 => ?_)
                                · have hf := ifp h207 hf
                                  refine lv_iload_n hx hb dL_law_438 rfl (lv_at hl 11 rfl) ?_
                                  refine lv_iload hx hb dL_law_439 (lv_at hl 0 rfl) ?_
                                  refine lv_if_eq (tgt := 448) hx hb dL_law_441 (by decide) (fun h208 => absurd h208 (by decide)) (fun h208 => ?_)
                                  refine lv_iconst (v := 0) hx hb dL_law_444 (by decide) ?_
                                  refine lv_goto (tgt := 449) hx hb dL_law_445 (by decide) ?_
                                  refine lv_iadd hx hb dL_law_449 ?_
                                  refine lv_istore_n (lv' := [(3, .int (x3 + 0)), (14, .int 1), (13, .int y194), (12, .int y47), (11, .int y45), (10, .int y43), (9, .int y41), (8, .int y33), (7, .int y31), (0, .ref bA), (1, .ref (b + 0)), (2, .ref a), (4, .long x4), (6, .int x6)]) hx hb dL_law_450 rfl hl (by decide) rfl (fun ls hl => ?_)
                                  refine lv_iinc (v := (x6 + 1)) (lv' := [(6, .int (x6 + 1)), (3, .int (x3 + 0)), (14, .int 1), (13, .int y194), (12, .int y47), (11, .int y45), (10, .int y43), (9, .int y41), (8, .int y33), (7, .int y31), (0, .ref bA), (1, .ref (b + 0)), (2, .ref a), (4, .long x4)]) hx hb dL_law_451 hl (k := 13) rfl (by rfl) (by decide) rfl (fun ls hl => ?_)
                                  refine lv_goto (tgt := 96) hx hb dL_law_454 (by decide) ?_
                                  refine W.widen (k := cl + 14356) (n := sl + 86136) (by omega) (by omega) ?_
                                  exact ih_96 σ206 w39 (x3 + 0) x4 (x6 + 1) (cl + 14356) (sl + 86136) ce se _ _ _ _ hf (by omega) (by omega) hcm hsm kx kk hA hW hS (lv_sub hl [10, 11, 12, 1, 13, 0] rfl)
                                · have hf := ifn h207 hf
                                  refine lv_iconst (v := 0) hx hb dL_law_436 (by decide) ?_
                                  cases hf
                                  exact absurd (kx _ rfl) (by decide)
                        · have hf := ifp h50 hf
                          refine lv_aload_n hx hb dL_law_193 rfl (lv_at hl 7 rfl) ?_
                          refine lv_iconst (v := 1) hx hb dL_law_194 (by decide) ?_
                          refine lv_iload hx hb dL_law_195 (lv_at hl 2 rfl) ?_
                          refine lv_iconst (v := 0) hx hb dL_law_197 (by decide) ?_
                          refine lv_iconst (v := 0) hx hb dL_law_198 (by decide) ?_
                          refine lv_iconst (v := 0) hx hb dL_law_199 (by decide) ?_
                          obtain ⟨y51, σ53, u52, hf⟩ := b2_e hf
                          refine lSW (n := 6) (As := [.ref (b + 0), .int 1, .int y43, .int 0, .int 0, .int 0]) (rest := []) (c_L_call l hfl D t b σ37 1 y43 0 0 0 y51 σ53 u52) hx hb hml hown hts hE hsub hW hS q573 q574 q33  qw_L_call hs_L_call ⟨rfl, rfl⟩ ⟨Nat.le_of_ble_eq_true rfl, Nat.le_of_ble_eq_true rfl⟩ rfl rfl hl.1 (Nat.le_of_ble_eq_true rfl) ⟨show cl + 7176 + 4 ≤ 600104 by omega, show sl + 43056 + 24 ≤ 7301314 by omega⟩ dL_law_200 (fun H locs hW hS hF => ?_)
                          have hA := hA.kept (hF.2 _ hA.lt hna)
                          refine W.widen (k := cl + 7180) (n := sl + 43080) (by omega) (by omega) ?_
                          refine lv_goto (tgt := 394) hx hb dL_law_203 (by decide) ?_
                          refine lv_istore (lv' := [(13, .int y51), (12, .int y47), (11, .int y45), (10, .int y43), (9, .int y41), (8, .int y33), (7, .int y31), (0, .ref bA), (1, .ref (b + 0)), (2, .ref a), (3, .int x3), (4, .long x4), (6, .int x6)]) hx hb dL_law_394 hl (by decide) rfl (fun ls hl => ?_)
                          refine lv_iload hx hb dL_law_396 (lv_at hl 0 rfl) ?_
                          refine lv_sipush (v := (-1999)) hx hb dL_law_398 (by decide) ?_
                          refine lv_icmp_ge (tgt := 408) hx hb dL_law_401 (by decide) (fun h54 => ?_) (fun h54 => ?_)
                          · have hf := ifp h54 hf
                            refine lv_iconst (v := 0) hx hb dL_law_408 (by decide) ?_
                            refine lv_istore (lv' := [(14, .int 0), (13, .int y51), (12, .int y47), (11, .int y45), (10, .int y43), (9, .int y41), (8, .int y33), (7, .int y31), (0, .ref bA), (1, .ref (b + 0)), (2, .ref a), (3, .int x3), (4, .long x4), (6, .int x6)]) hx hb dL_law_409 hl (by decide) rfl (fun ls hl => ?_)
                            refine lv_iload hx hb dL_law_411 (lv_at hl 0 rfl) ?_
                            refine lv_if_eq (tgt := 438) hx hb dL_law_413 (by decide) (fun h55 => ?_) (fun h55 => absurd h55 (by decide))
                            refine lv_iload_n hx hb dL_law_438 rfl (lv_at hl 11 rfl) ?_
                            refine lv_iload hx hb dL_law_439 (lv_at hl 0 rfl) ?_
                            refine lv_if_eq (tgt := 448) hx hb dL_law_441 (by decide) (fun h56 => ?_) (fun h56 => absurd h56 (by decide))
                            refine lv_iconst (v := 1) hx hb dL_law_448 (by decide) ?_
                            refine lv_iadd hx hb dL_law_449 ?_
                            refine lv_istore_n (lv' := [(3, .int (x3 + 1)), (14, .int 0), (13, .int y51), (12, .int y47), (11, .int y45), (10, .int y43), (9, .int y41), (8, .int y33), (7, .int y31), (0, .ref bA), (1, .ref (b + 0)), (2, .ref a), (4, .long x4), (6, .int x6)]) hx hb dL_law_450 rfl hl (by decide) rfl (fun ls hl => ?_)
                            refine lv_iinc (v := (x6 + 1)) (lv' := [(6, .int (x6 + 1)), (3, .int (x3 + 1)), (14, .int 0), (13, .int y51), (12, .int y47), (11, .int y45), (10, .int y43), (9, .int y41), (8, .int y33), (7, .int y31), (0, .ref bA), (1, .ref (b + 0)), (2, .ref a), (4, .long x4)]) hx hb dL_law_451 hl (k := 13) rfl (by rfl) (by decide) rfl (fun ls hl => ?_)
                            refine lv_goto (tgt := 96) hx hb dL_law_454 (by decide) ?_
                            refine W.widen (k := cl + 14356) (n := sl + 86136) (by omega) (by omega) ?_
                            exact ih_96 σ53 w39 (x3 + 1) x4 (x6 + 1) (cl + 14356) (sl + 86136) ce se _ _ _ _ hf (by omega) (by omega) hcm hsm kx kk hA hW hS (lv_sub hl [10, 11, 12, 1, 13, 0] rfl)
                          · have hf := ifn h54 hf
                            refine lv_iconst (v := 1) hx hb dL_law_404 (by decide) ?_
                            refine lv_goto (tgt := 409) hx hb dL_law_405 (by decide) ?_
                            refine lv_istore (lv' := [(14, .int 1), (13, .int y51), (12, .int y47), (11, .int y45), (10, .int y43), (9, .int y41), (8, .int y33), (7, .int y31), (0, .ref bA), (1, .ref (b + 0)), (2, .ref a), (3, .int x3), (4, .long x4), (6, .int x6)]) hx hb dL_law_409 hl (by decide) rfl (fun ls hl => ?_)
                            refine lv_iload hx hb dL_law_411 (lv_at hl 0 rfl) ?_
                            refine lv_if_eq (tgt := 438) hx hb dL_law_413 (by decide) (fun h57 => absurd h57 (by decide)) (fun h57 => ?_)
                            refine lv_aload_n hx hb dL_law_416 rfl (lv_at hl 9 rfl) ?_
                            obtain ⟨y58, u59, hf⟩ := b1_e hf
                            refine lV (n := 0) (As := []) (rest := []) (c_X4_recordedStates l D t b σ53 y58 u59) hx hb hml hown hts hE hsub hW hS q561 q562 q563 q34 q564 hy_X4_recordedStates ⟨rfl, rfl⟩ ⟨Nat.le_of_ble_eq_true rfl, Nat.le_of_ble_eq_true rfl⟩ rfl rfl hl.1 (Nat.le_of_ble_eq_true rfl) ⟨show cl + 7180 ≤ 600104 by omega, show sl + 43080 ≤ 7301314 by omega⟩ dL_law_417 (fun H locs hW hS hF => ?_)
                            have hA := hA.kept (hF.2 _ hA.lt hna)
                            refine lv_iload hx hb dL_law_420 (lv_at hl 5 rfl) ?_
                            refine lv_icmp_ne (tgt := 436) hx hb dL_law_422 (by decide) (fun h60 => ?_) (fun h60 => ?_)
                            · have hf := ifn h60 hf
                              refine lv_iconst (v := 0) hx hb dL_law_436 (by decide) ?_
                              cases hf
                              exact absurd (kx _ rfl) (by decide)
                            · have hf := ifp h60 hf
                              refine lv_aload_n hx hb dL_law_425 rfl (lv_at hl 9 rfl) ?_
                              obtain ⟨y61, σ63, u62, hf⟩ := b2L_e hf
                              refine lS (n := 1) (As := [.ref (b + 0)]) (rest := []) (c_L_seen l hfl D t b σ53 y61 σ63 u62) hx hb hml hown hts hE hsub hW hS q940 q941 q33  q942 hs_L_seen ⟨rfl, rfl⟩ ⟨Nat.le_of_ble_eq_true rfl, Nat.le_of_ble_eq_true rfl⟩ rfl rfl hl.1 (Nat.le_of_ble_eq_true rfl) ⟨show cl + 7180 + 7176 ≤ 600104 by omega, show sl + 43080 + 43056 ≤ 7301314 by omega⟩ dL_law_426 (fun H locs hW hS hF => ?_)
                              have hA := hA.kept (hF.2 _ hA.lt hna)
                              refine W.widen (k := cl + 14356) (n := sl + 86136) (by omega) (by omega) ?_
                              refine lv_aload_n hx hb dL_law_429 rfl (lv_at hl 10 rfl) ?_
                              refine lv_iload_n hx hb dL_law_430 rfl (lv_at hl 11 rfl) ?_
                              refine lLald hx hb hE.1 hA g38 dL_law_431 ?_
                              refine lcmp_eq (tgt := 438) hx hb dL_law_432 dL_law_433 (by decide) (fun h64 => ?_) (fun h64 => ?_)
                              · have hf := ifp h64 hf
                                refine lv_iload_n hx hb dL_law_438 rfl (lv_at hl 11 rfl) ?_
                                refine lv_iload hx hb dL_law_439 (lv_at hl 0 rfl) ?_
                                refine lv_if_eq (tgt := 448) hx hb dL_law_441 (by decide) (fun h65 => absurd h65 (by decide)) (fun h65 => ?_)
                                refine lv_iconst (v := 0) hx hb dL_law_444 (by decide) ?_
                                refine lv_goto (tgt := 449) hx hb dL_law_445 (by decide) ?_
                                refine lv_iadd hx hb dL_law_449 ?_
                                refine lv_istore_n (lv' := [(3, .int (x3 + 0)), (14, .int 1), (13, .int y51), (12, .int y47), (11, .int y45), (10, .int y43), (9, .int y41), (8, .int y33), (7, .int y31), (0, .ref bA), (1, .ref (b + 0)), (2, .ref a), (4, .long x4), (6, .int x6)]) hx hb dL_law_450 rfl hl (by decide) rfl (fun ls hl => ?_)
                                refine lv_iinc (v := (x6 + 1)) (lv' := [(6, .int (x6 + 1)), (3, .int (x3 + 0)), (14, .int 1), (13, .int y51), (12, .int y47), (11, .int y45), (10, .int y43), (9, .int y41), (8, .int y33), (7, .int y31), (0, .ref bA), (1, .ref (b + 0)), (2, .ref a), (4, .long x4)]) hx hb dL_law_451 hl (k := 13) rfl (by rfl) (by decide) rfl (fun ls hl => ?_)
                                refine lv_goto (tgt := 96) hx hb dL_law_454 (by decide) ?_
                                refine W.widen (k := cl + 14356) (n := sl + 86136) (by omega) (by omega) ?_
                                exact ih_96 σ63 w39 (x3 + 0) x4 (x6 + 1) (cl + 14356) (sl + 86136) ce se _ _ _ _ hf (by omega) (by omega) hcm hsm kx kk hA hW hS (lv_sub hl [10, 11, 12, 1, 13, 0] rfl)
                              · have hf := ifn h64 hf
                                refine lv_iconst (v := 0) hx hb dL_law_436 (by decide) ?_
                                cases hf
                                exact absurd (kx _ rfl) (by decide)
                      · have hf := ifn h49 hf
                        refine lv_aload_n hx hb dL_law_172 rfl (lv_at hl 7 rfl) ?_
                        refine lv_iconst (v := 0) hx hb dL_law_173 (by decide) ?_
                        refine lv_iload hx hb dL_law_174 (lv_at hl 2 rfl) ?_
                        refine lv_iload hx hb dL_law_176 (lv_at hl 1 rfl) ?_
                        refine lv_iload hx hb dL_law_178 (lv_at hl 0 rfl) ?_
                        refine lv_iconst (v := 0) hx hb dL_law_180 (by decide) ?_
                        obtain ⟨y209, σ211, u210, hf⟩ := b2_e hf
                        refine lSW (n := 6) (As := [.ref (b + 0), .int 0, .int y43, .int y45, .int y47, .int 0]) (rest := []) (c_L_call l hfl D t b σ37 0 y43 y45 y47 0 y209 σ211 u210) hx hb hml hown hts hE hsub hW hS q573 q574 q33  qw_L_call hs_L_call ⟨rfl, rfl⟩ ⟨Nat.le_of_ble_eq_true rfl, Nat.le_of_ble_eq_true rfl⟩ rfl rfl hl.1 (Nat.le_of_ble_eq_true rfl) ⟨show cl + 7176 + 4 ≤ 600104 by omega, show sl + 43056 + 24 ≤ 7301314 by omega⟩ dL_law_181 (fun H locs hW hS hF => ?_)
                        have hA := hA.kept (hF.2 _ hA.lt hna)
                        refine W.widen (k := cl + 7180) (n := sl + 43080) (by omega) (by omega) ?_
                        refine lv_goto (tgt := 394) hx hb dL_law_184 (by decide) ?_
                        refine lv_istore (lv' := [(13, .int y209), (12, .int y47), (11, .int y45), (10, .int y43), (9, .int y41), (8, .int y33), (7, .int y31), (0, .ref bA), (1, .ref (b + 0)), (2, .ref a), (3, .int x3), (4, .long x4), (6, .int x6)]) hx hb dL_law_394 hl (by decide) rfl (fun ls hl => ?_)
                        refine lv_iload hx hb dL_law_396 (lv_at hl 0 rfl) ?_
                        refine lv_sipush (v := (-1999)) hx hb dL_law_398 (by decide) ?_
                        refine lv_icmp_ge (tgt := 408) hx hb dL_law_401 (by decide) (fun h212 => ?_) (fun h212 => ?_)
                        · have hf := ifp h212 hf
                          refine lv_iconst (v := 0) hx hb dL_law_408 (by decide) ?_
                          refine lv_istore (lv' := [(14, .int 0), (13, .int y209), (12, .int y47), (11, .int y45), (10, .int y43), (9, .int y41), (8, .int y33), (7, .int y31), (0, .ref bA), (1, .ref (b + 0)), (2, .ref a), (3, .int x3), (4, .long x4), (6, .int x6)]) hx hb dL_law_409 hl (by decide) rfl (fun ls hl => ?_)
                          refine lv_iload hx hb dL_law_411 (lv_at hl 0 rfl) ?_
                          refine lv_if_eq (tgt := 438) hx hb dL_law_413 (by decide) (fun h213 => ?_) (fun h213 => absurd h213 (by decide))
                          refine lv_iload_n hx hb dL_law_438 rfl (lv_at hl 11 rfl) ?_
                          refine lv_iload hx hb dL_law_439 (lv_at hl 0 rfl) ?_
                          refine lv_if_eq (tgt := 448) hx hb dL_law_441 (by decide) (fun h214 => ?_) (fun h214 => absurd h214 (by decide))
                          refine lv_iconst (v := 1) hx hb dL_law_448 (by decide) ?_
                          refine lv_iadd hx hb dL_law_449 ?_
                          refine lv_istore_n (lv' := [(3, .int (x3 + 1)), (14, .int 0), (13, .int y209), (12, .int y47), (11, .int y45), (10, .int y43), (9, .int y41), (8, .int y33), (7, .int y31), (0, .ref bA), (1, .ref (b + 0)), (2, .ref a), (4, .long x4), (6, .int x6)]) hx hb dL_law_450 rfl hl (by decide) rfl (fun ls hl => ?_)
                          refine lv_iinc (v := (x6 + 1)) (lv' := [(6, .int (x6 + 1)), (3, .int (x3 + 1)), (14, .int 0), (13, .int y209), (12, .int y47), (11, .int y45), (10, .int y43), (9, .int y41), (8, .int y33), (7, .int y31), (0, .ref bA), (1, .ref (b + 0)), (2, .ref a), (4, .long x4)]) hx hb dL_law_451 hl (k := 13) rfl (by rfl) (by decide) rfl (fun ls hl => ?_)
                          refine lv_goto (tgt := 96) hx hb dL_law_454 (by decide) ?_
                          refine W.widen (k := cl + 14356) (n := sl + 86136) (by omega) (by omega) ?_
                          exact ih_96 σ211 w39 (x3 + 1) x4 (x6 + 1) (cl + 14356) (sl + 86136) ce se _ _ _ _ hf (by omega) (by omega) hcm hsm kx kk hA hW hS (lv_sub hl [10, 11, 12, 1, 13, 0] rfl)
                        · have hf := ifn h212 hf
                          refine lv_iconst (v := 1) hx hb dL_law_404 (by decide) ?_
                          refine lv_goto (tgt := 409) hx hb dL_law_405 (by decide) ?_
                          refine lv_istore (lv' := [(14, .int 1), (13, .int y209), (12, .int y47), (11, .int y45), (10, .int y43), (9, .int y41), (8, .int y33), (7, .int y31), (0, .ref bA), (1, .ref (b + 0)), (2, .ref a), (3, .int x3), (4, .long x4), (6, .int x6)]) hx hb dL_law_409 hl (by decide) rfl (fun ls hl => ?_)
                          refine lv_iload hx hb dL_law_411 (lv_at hl 0 rfl) ?_
                          refine lv_if_eq (tgt := 438) hx hb dL_law_413 (by decide) (fun h215 => absurd h215 (by decide)) (fun h215 => ?_)
                          refine lv_aload_n hx hb dL_law_416 rfl (lv_at hl 9 rfl) ?_
                          obtain ⟨y216, u217, hf⟩ := b1_e hf
                          refine lV (n := 0) (As := []) (rest := []) (c_X4_recordedStates l D t b σ211 y216 u217) hx hb hml hown hts hE hsub hW hS q561 q562 q563 q34 q564 hy_X4_recordedStates ⟨rfl, rfl⟩ ⟨Nat.le_of_ble_eq_true rfl, Nat.le_of_ble_eq_true rfl⟩ rfl rfl hl.1 (Nat.le_of_ble_eq_true rfl) ⟨show cl + 7180 ≤ 600104 by omega, show sl + 43080 ≤ 7301314 by omega⟩ dL_law_417 (fun H locs hW hS hF => ?_)
                          have hA := hA.kept (hF.2 _ hA.lt hna)
                          refine lv_iload hx hb dL_law_420 (lv_at hl 5 rfl) ?_
                          refine lv_icmp_ne (tgt := 436) hx hb dL_law_422 (by decide) (fun h218 => ?_) (fun h218 => ?_)
                          · have hf := ifn h218 hf
                            refine lv_iconst (v := 0) hx hb dL_law_436 (by decide) ?_
                            cases hf
                            exact absurd (kx _ rfl) (by decide)
                          · have hf := ifp h218 hf
                            refine lv_aload_n hx hb dL_law_425 rfl (lv_at hl 9 rfl) ?_
                            obtain ⟨y219, σ221, u220, hf⟩ := b2L_e hf
                            refine lS (n := 1) (As := [.ref (b + 0)]) (rest := []) (c_L_seen l hfl D t b σ211 y219 σ221 u220) hx hb hml hown hts hE hsub hW hS q940 q941 q33  q942 hs_L_seen ⟨rfl, rfl⟩ ⟨Nat.le_of_ble_eq_true rfl, Nat.le_of_ble_eq_true rfl⟩ rfl rfl hl.1 (Nat.le_of_ble_eq_true rfl) ⟨show cl + 7180 + 7176 ≤ 600104 by omega, show sl + 43080 + 43056 ≤ 7301314 by omega⟩ dL_law_426 (fun H locs hW hS hF => ?_)
                            have hA := hA.kept (hF.2 _ hA.lt hna)
                            refine W.widen (k := cl + 14356) (n := sl + 86136) (by omega) (by omega) ?_
                            refine lv_aload_n hx hb dL_law_429 rfl (lv_at hl 10 rfl) ?_
                            refine lv_iload_n hx hb dL_law_430 rfl (lv_at hl 11 rfl) ?_
                            refine lLald hx hb hE.1 hA g38 dL_law_431 ?_
                            refine lcmp_eq (tgt := 438) hx hb dL_law_432 dL_law_433 (by decide) (fun h222 => ?_) (fun h222 => ?_)
                            · have hf := ifp h222 hf
                              refine lv_iload_n hx hb dL_law_438 rfl (lv_at hl 11 rfl) ?_
                              refine lv_iload hx hb dL_law_439 (lv_at hl 0 rfl) ?_
                              refine lv_if_eq (tgt := 448) hx hb dL_law_441 (by decide) (fun h223 => absurd h223 (by decide)) (fun h223 => ?_)
                              refine lv_iconst (v := 0) hx hb dL_law_444 (by decide) ?_
                              refine lv_goto (tgt := 449) hx hb dL_law_445 (by decide) ?_
                              refine lv_iadd hx hb dL_law_449 ?_
                              refine lv_istore_n (lv' := [(3, .int (x3 + 0)), (14, .int 1), (13, .int y209), (12, .int y47), (11, .int y45), (10, .int y43), (9, .int y41), (8, .int y33), (7, .int y31), (0, .ref bA), (1, .ref (b + 0)), (2, .ref a), (4, .long x4), (6, .int x6)]) hx hb dL_law_450 rfl hl (by decide) rfl (fun ls hl => ?_)
                              refine lv_iinc (v := (x6 + 1)) (lv' := [(6, .int (x6 + 1)), (3, .int (x3 + 0)), (14, .int 1), (13, .int y209), (12, .int y47), (11, .int y45), (10, .int y43), (9, .int y41), (8, .int y33), (7, .int y31), (0, .ref bA), (1, .ref (b + 0)), (2, .ref a), (4, .long x4)]) hx hb dL_law_451 hl (k := 13) rfl (by rfl) (by decide) rfl (fun ls hl => ?_)
                              refine lv_goto (tgt := 96) hx hb dL_law_454 (by decide) ?_
                              refine W.widen (k := cl + 14356) (n := sl + 86136) (by omega) (by omega) ?_
                              exact ih_96 σ221 w39 (x3 + 0) x4 (x6 + 1) (cl + 14356) (sl + 86136) ce se _ _ _ _ hf (by omega) (by omega) hcm hsm kx kk hA hW hS (lv_sub hl [10, 11, 12, 1, 13, 0] rfl)
                            · have hf := ifn h222 hf
                              refine lv_iconst (v := 0) hx hb dL_law_436 (by decide) ?_
                              cases hf
                              exact absurd (kx _ rfl) (by decide)
                refine key_96 27 σ29 (fun _ => 0) 0 y27 0 (87920) (598234) (475532) (2923906) _ _ _ res hl0 (by omega) (by omega) (show 475532 ≤ 600104 by omega) (show 2923906 ≤ 7301314 by omega) (fun z h => hA0 z h) (fun q96 hq H locs ls hA hW hS hl => ?_) hA hW hS (lv_sub hl [5, 4, 3, 2, 1, 0] rfl)
                have hf := hB _ hq
                refine lv_aload_n hx hb dL_law_457 rfl (lv_at hl 1 rfl) ?_
                refine lv_iload_n hx hb dL_law_458 rfl (lv_at hl 2 rfl) ?_
                refine lv_aload_n hx hb dL_law_459 rfl (lv_at hl 0 rfl) ?_
                obtain ⟨y224, σ226, u225, hf⟩ := b2L_e hf
                refine lS (n := 1) (As := [.ref (b + 0)]) (rest := [.int q96.2.2.1, .ref a]) (c_L_seen l hfl D t b q96.1 y224 σ226 u225) hx hb hml hown hts hE hsub hW hS q940 q941 q33  q942 hs_L_seen ⟨rfl, rfl⟩ ⟨Nat.le_of_ble_eq_true rfl, Nat.le_of_ble_eq_true rfl⟩ rfl rfl hl.1 (Nat.le_of_ble_eq_true rfl) ⟨show 475532 + 7176 ≤ 600104 by omega, show 2923906 + 43056 ≤ 7301314 by omega⟩ dL_law_460 (fun H locs hW hS hF => ?_)
                have hA := hA.kept (hF.2 _ hA.lt hna)
                refine W.widen (k := 482708) (n := 2966962) (by omega) (by omega) ?_
                obtain ⟨g227, hf⟩ := gd_e hf
                refine lLast hx hb hE.1 hA hW hna hS hAa g227 dL_law_463 (fun H locs hA hW hS => ?_)
                obtain ⟨w228, e229, hf⟩ := stw_e hf
                rw [e229] at hA
                refine lv_aload_n hx hb dL_law_464 rfl (lv_at hl 0 rfl) ?_
                obtain ⟨y230, σ232, u231, hf⟩ := b2_e hf
                refine lS (n := 1) (As := [.ref (b + 0)]) (rest := []) (c_L_refused l hfl D t b σ226 y230 σ232 u231) hx hb hml hown hts hE hsub hW hS q981 q982 q33  q983 hs_L_refused ⟨rfl, rfl⟩ ⟨Nat.le_of_ble_eq_true rfl, Nat.le_of_ble_eq_true rfl⟩ rfl rfl hl.1 (Nat.le_of_ble_eq_true rfl) ⟨show 482708 + 15372 ≤ 600104 by omega, show 2966962 + 92232 ≤ 7301314 by omega⟩ dL_law_465 (fun H locs hW hS hF => ?_)
                have hA := hA.kept (hF.2 _ hA.lt hna)
                refine W.widen (k := 498080) (n := 3059194) (by omega) (by omega) ?_
                refine lv_if_ne (tgt := 473) hx hb dL_law_468 (by decide) (fun h233 => ?_) (fun h233 => ?_)
                · have hf := ifn h233 hf
                  refine lv_iconst (v := 0) hx hb dL_law_473 (by decide) ?_
                  refine lv_istore (lv' := [(6, .int 0), (1, .ref (b + 0)), (2, .ref a), (3, .int q96.2.2.1), (4, .long q96.2.2.2)]) hx hb dL_law_474 hl (by decide) rfl (fun ls hl => ?_)
                  obtain ⟨res, hl0, hA0, hB⟩ := bl_e hf
                  have key_476 : ∀ (n : Nat) (τ : Sg) (wx : Nat → Int64) (x3 : Int32) (x4 : Int64) (x6 : Int32) (cl sl ce se : Nat) (H : Heap) (locs : List Loc) (ls : Array Slot) (res : Int32 ⊕ (Sg × (Nat → Int64) × Int64)), l_L_law_476 X n τ wx x3 x4 x6 = some res → cl + 7177 * n = ce → sl + 43062 * n = se → ce ≤ 600104 → se ≤ 7301314 → (∀ z, res = .inl z → z = 1) → (∀ q476, res = .inr q476 → ∀ (H : Heap) (locs : List Loc) (ls : Array Slot), va_at D vwCl (a, .inl (t 4, 64, .inr (.inl (q476.2.1)))) H → wd D t b q476.1 H → va_S (geC b0) s.heap H locs → lv_has ls 15 [(1, .ref (b + 0)), (4, .long q476.2.2)] → W p l e room_1 s m #[Value.ref bA] below meth c H locs ce se (lw_Z below #[Value.ref bA] s) (F0 m 534 ls [])) → va_at D vwCl (a, .inl (t 4, 64, .inr (.inl (wx)))) H → wd D t b τ H → va_S (geC b0) s.heap H locs → lv_has ls 15 [(1, .ref (b + 0)), (2, .ref a), (3, .int x3), (4, .long x4), (6, .int x6)] → W p l e room_1 s m #[Value.ref bA] below meth c H locs cl sl (lw_Z below #[Value.ref bA] s) (F0 m 476 ls []) := by
                    intro n
                    induction n with
                    | zero =>
                      intro τ wx x3 x4 x6 cl sl ce se H locs ls res hf
                      rw [l_L_law_476.eq_1] at hf
                      cases hf
                    | succ n ih_476 =>
                      intro τ wx x3 x4 x6 cl sl ce se H locs ls res hf hce hse hcm hsm kx kk hA hW hS hl
                      rw [l_L_law_476.eq_2] at hf
                      refine lv_aload_n hx hb dL_law_476 rfl (lv_at hl 0 rfl) ?_
                      obtain ⟨y234, u235, hf⟩ := b1_e hf
                      refine lV (n := 0) (As := []) (rest := []) (c_X4_recordedStates l D t b τ y234 u235) hx hb hml hown hts hE hsub hW hS q561 q562 q563 q34 q564 hy_X4_recordedStates ⟨rfl, rfl⟩ ⟨Nat.le_of_ble_eq_true rfl, Nat.le_of_ble_eq_true rfl⟩ rfl rfl hl.1 (Nat.le_of_ble_eq_true rfl) ⟨show cl + 0 ≤ 600104 by omega, show sl + 0 ≤ 7301314 by omega⟩ dL_law_477 (fun H locs hW hS hF => ?_)
                      have hA := hA.kept (hF.2 _ hA.lt hna)
                      refine lv_if_le (tgt := 534) hx hb dL_law_480 (by decide) (fun h236 => ?_) (fun h236 => ?_)
                      · have hf := ifp h236 hf
                        cases hf
                        refine W.widen (k := ce) (n := se) (by omega) (by omega) ?_
                        exact kk _ rfl _ _ _ hA hW hS (lv_sub hl [0, 3] rfl)
                      · have hf := ifn h236 hf
                        refine lv_iload hx hb dL_law_483 (lv_at hl 4 rfl) ?_
                        refine lv_iload_n hx hb dL_law_485 rfl (lv_at hl 2 rfl) ?_
                        refine lv_icmp_ge (tgt := 534) hx hb dL_law_486 (by decide) (fun h237 => ?_) (fun h237 => ?_)
                        · have hf := ifp h237 hf
                          cases hf
                          refine W.widen (k := ce) (n := se) (by omega) (by omega) ?_
                          exact kk _ rfl _ _ _ hA hW hS (lv_sub hl [0, 3] rfl)
                        · have hf := ifn h237 hf
                          refine lv_aload_n hx hb dL_law_489 rfl (lv_at hl 0 rfl) ?_
                          obtain ⟨y238, u239, hf⟩ := b1_e hf
                          refine lV (n := 0) (As := []) (rest := []) (c_X4_recordedStates l D t b τ y238 u239) hx hb hml hown hts hE hsub hW hS q561 q562 q563 q34 q564 hy_X4_recordedStates ⟨rfl, rfl⟩ ⟨Nat.le_of_ble_eq_true rfl, Nat.le_of_ble_eq_true rfl⟩ rfl rfl hl.1 (Nat.le_of_ble_eq_true rfl) ⟨show cl + 0 ≤ 600104 by omega, show sl + 0 ≤ 7301314 by omega⟩ dL_law_490 (fun H locs hW hS hF => ?_)
                          have hA := hA.kept (hF.2 _ hA.lt hna)
                          refine lv_istore (lv' := [(7, .int y238), (1, .ref (b + 0)), (2, .ref a), (3, .int x3), (4, .long x4), (6, .int x6)]) hx hb dL_law_493 hl (by decide) rfl (fun ls hl => ?_)
                          refine lv_iload hx hb dL_law_495 (lv_at hl 5 rfl) ?_
                          refine lv_iconst (v := 3) hx hb dL_law_497 (by decide) ?_
                          refine lv_icmp_gt (tgt := 526) hx hb dL_law_498 (by decide) (fun h240 => ?_) (fun h240 => ?_)
                          · have hf := ifp h240 hf
                            refine lv_iconst (v := 0) hx hb dL_law_526 (by decide) ?_
                            cases hf
                            exact absurd (kx _ rfl) (by decide)
                          · have hf := ifn h240 hf
                            refine lv_aload_n hx hb dL_law_501 rfl (lv_at hl 1 rfl) ?_
                            obtain ⟨y241, σ243, u242, hf⟩ := b2L_e hf
                            refine lS (n := 1) (As := [.ref (b + 0)]) (rest := []) (c_L_seen l hfl D t b τ y241 σ243 u242) hx hb hml hown hts hE hsub hW hS q940 q941 q33  q942 hs_L_seen ⟨rfl, rfl⟩ ⟨Nat.le_of_ble_eq_true rfl, Nat.le_of_ble_eq_true rfl⟩ rfl rfl hl.1 (Nat.le_of_ble_eq_true rfl) ⟨show cl + 0 + 7176 ≤ 600104 by omega, show sl + 0 + 43056 ≤ 7301314 by omega⟩ dL_law_502 (fun H locs hW hS hF => ?_)
                            have hA := hA.kept (hF.2 _ hA.lt hna)
                            refine W.widen (k := cl + 7176) (n := sl + 43056) (by omega) (by omega) ?_
                            refine lv_aload_n hx hb dL_law_505 rfl (lv_at hl 2 rfl) ?_
                            refine lv_iload_n hx hb dL_law_506 rfl (lv_at hl 3 rfl) ?_
                            refine lv_iload hx hb dL_law_507 (lv_at hl 5 rfl) ?_
                            refine lv_isub hx hb dL_law_509 ?_
                            obtain ⟨g244, hf⟩ := gd_e hf
                            refine lLald hx hb hE.1 hA g244 dL_law_510 ?_
                            refine lcmp_ne (tgt := 526) hx hb dL_law_511 dL_law_512 (by decide) (fun h245 => ?_) (fun h245 => ?_)
                            · have hf := ifn h245 hf
                              refine lv_iconst (v := 0) hx hb dL_law_526 (by decide) ?_
                              cases hf
                              exact absurd (kx _ rfl) (by decide)
                            · have hf := ifp h245 hf
                              refine lv_aload_n hx hb dL_law_515 rfl (lv_at hl 1 rfl) ?_
                              obtain ⟨y246, σ248, u247, hf⟩ := bn2_e hf
                              refine lVXn (n := 0) (As := []) (rest := []) (c_X4_undo l hfl D t b σ243 (.inr (y246, σ248)) u247) hx hb hml hown hts hE hsub hW hS q547 q548 q549 q34 q550 hy_X4_undo ⟨rfl, rfl⟩ ⟨Nat.le_of_ble_eq_true rfl, Nat.le_of_ble_eq_true rfl⟩ rfl rfl hl.1 (Nat.le_of_ble_eq_true rfl) ⟨show cl + 7176 + 1 ≤ 600104 by omega, show sl + 43056 + 6 ≤ 7301314 by omega⟩ dL_law_516 (fun H locs hW hS hF => ?_)
                              have hA := hA.kept (hF.2 _ hA.lt hna)
                              refine W.widen (k := cl + 7177) (n := sl + 43062) (by omega) (by omega) ?_
                              refine lv_iload hx hb dL_law_519 (lv_at hl 0 rfl) ?_
                              refine lv_iconst (v := 1) hx hb dL_law_521 (by decide) ?_
                              refine lv_isub hx hb dL_law_522 ?_
                              refine lv_icmp_eq (tgt := 528) hx hb dL_law_523 (by decide) (fun h249 => ?_) (fun h249 => ?_)
                              · have hf := ifp h249 hf
                                refine lv_iinc (v := (x6 + 1)) (lv' := [(6, .int (x6 + 1)), (7, .int y238), (1, .ref (b + 0)), (2, .ref a), (3, .int x3), (4, .long x4)]) hx hb dL_law_528 hl (k := 5) rfl (by rfl) (by decide) rfl (fun ls hl => ?_)
                                refine lv_goto (tgt := 476) hx hb dL_law_531 (by decide) ?_
                                refine W.widen (k := cl + 7177) (n := sl + 43062) (by omega) (by omega) ?_
                                exact ih_476 σ248 wx x3 x4 (x6 + 1) (cl + 7177) (sl + 43062) ce se _ _ _ _ hf (by omega) (by omega) hcm hsm kx kk hA hW hS (lv_sub hl [2, 3, 4, 5, 0] rfl)
                              · have hf := ifn h249 hf
                                refine lv_iconst (v := 0) hx hb dL_law_526 (by decide) ?_
                                cases hf
                                exact absurd (kx _ rfl) (by decide)
                  refine key_476 6 σ232 w228 q96.2.2.1 q96.2.2.2 0 (498080) (3059194) (541142) (3317566) _ _ _ res hl0 (by omega) (by omega) (show 541142 ≤ 600104 by omega) (show 3317566 ≤ 7301314 by omega) (fun z h => hA0 z h) (fun q476 hq H locs ls hA hW hS hl => ?_) hA hW hS (lv_sub hl [1, 2, 3, 4, 0] rfl)
                  have hf := hB _ hq
                  refine lv_iconst (v := 0) hx hb dL_law_534 (by decide) ?_
                  refine lv_istore (lv' := [(6, .int 0), (1, .ref (b + 0)), (4, .long q476.2.2)]) hx hb dL_law_535 hl (by decide) rfl (fun ls hl => ?_)
                  obtain ⟨res, hl0, hA0, hB⟩ := bl_e hf
                  have key_537 : ∀ (n : Nat) (τ : Sg) (wx : Nat → Int64) (x4 : Int64) (x6 : Int32) (cl sl ce se : Nat) (H : Heap) (locs : List Loc) (ls : Array Slot) (res : Int32 ⊕ (Sg × (Nat → Int64) × Int64)), l_L_law_537 X n τ wx x4 x6 = some res → cl + 1 * n = ce → sl + 6 * n = se → ce ≤ 600104 → se ≤ 7301314 → (∀ z, res = .inl z → z = 1) → (∀ q537, res = .inr q537 → ∀ (H : Heap) (locs : List Loc) (ls : Array Slot), va_at D vwCl (a, .inl (t 4, 64, .inr (.inl (q537.2.1)))) H → wd D t b q537.1 H → va_S (geC b0) s.heap H locs → lv_has ls 15 [(1, .ref (b + 0)), (4, .long q537.2.2)] → W p l e room_1 s m #[Value.ref bA] below meth c H locs ce se (lw_Z below #[Value.ref bA] s) (F0 m 565 ls [])) → va_at D vwCl (a, .inl (t 4, 64, .inr (.inl (wx)))) H → wd D t b τ H → va_S (geC b0) s.heap H locs → lv_has ls 15 [(1, .ref (b + 0)), (4, .long x4), (6, .int x6)] → W p l e room_1 s m #[Value.ref bA] below meth c H locs cl sl (lw_Z below #[Value.ref bA] s) (F0 m 537 ls []) := by
                    intro n
                    induction n with
                    | zero =>
                      intro τ wx x4 x6 cl sl ce se H locs ls res hf
                      rw [l_L_law_537.eq_1] at hf
                      cases hf
                    | succ n ih_537 =>
                      intro τ wx x4 x6 cl sl ce se H locs ls res hf hce hse hcm hsm kx kk hA hW hS hl
                      rw [l_L_law_537.eq_2] at hf
                      refine lv_iload hx hb dL_law_537 (lv_at hl 2 rfl) ?_
                      refine lv_iconst (v := 4) hx hb dL_law_539 (by decide) ?_
                      refine lv_icmp_ge (tgt := 565) hx hb dL_law_540 (by decide) (fun h250 => ?_) (fun h250 => ?_)
                      · have hf := ifp h250 hf
                        cases hf
                        refine W.widen (k := ce) (n := se) (by omega) (by omega) ?_
                        exact kk _ rfl _ _ _ hA hW hS (lv_sub hl [0, 1] rfl)
                      · have hf := ifn h250 hf
                        refine lv_aload_n hx hb dL_law_543 rfl (lv_at hl 0 rfl) ?_
                        obtain ⟨y251, u252, hf⟩ := b1_e hf
                        refine lV (n := 0) (As := []) (rest := []) (c_X4_recordedStates l D t b τ y251 u252) hx hb hml hown hts hE hsub hW hS q561 q562 q563 q34 q564 hy_X4_recordedStates ⟨rfl, rfl⟩ ⟨Nat.le_of_ble_eq_true rfl, Nat.le_of_ble_eq_true rfl⟩ rfl rfl hl.1 (Nat.le_of_ble_eq_true rfl) ⟨show cl + 0 ≤ 600104 by omega, show sl + 0 ≤ 7301314 by omega⟩ dL_law_544 (fun H locs hW hS hF => ?_)
                        have hA := hA.kept (hF.2 _ hA.lt hna)
                        refine lv_if_le (tgt := 565) hx hb dL_law_547 (by decide) (fun h253 => ?_) (fun h253 => ?_)
                        · have hf := ifp h253 hf
                          cases hf
                          refine W.widen (k := ce) (n := se) (by omega) (by omega) ?_
                          exact kk _ rfl _ _ _ hA hW hS (lv_sub hl [0, 1] rfl)
                        · have hf := ifn h253 hf
                          refine lv_aload_n hx hb dL_law_550 rfl (lv_at hl 0 rfl) ?_
                          obtain ⟨y254, σ256, u255, hf⟩ := bn2_e hf
                          refine lVXn (n := 0) (As := []) (rest := []) (c_X4_undo l hfl D t b τ (.inr (y254, σ256)) u255) hx hb hml hown hts hE hsub hW hS q547 q548 q549 q34 q550 hy_X4_undo ⟨rfl, rfl⟩ ⟨Nat.le_of_ble_eq_true rfl, Nat.le_of_ble_eq_true rfl⟩ rfl rfl hl.1 (Nat.le_of_ble_eq_true rfl) ⟨show cl + 0 + 1 ≤ 600104 by omega, show sl + 0 + 6 ≤ 7301314 by omega⟩ dL_law_551 (fun H locs hW hS hF => ?_)
                          have hA := hA.kept (hF.2 _ hA.lt hna)
                          refine W.widen (k := cl + 1) (n := sl + 6) (by omega) (by omega) ?_
                          refine lv_if_ge (tgt := 559) hx hb dL_law_554 (by decide) (fun h257 => ?_) (fun h257 => ?_)
                          · have hf := ifp h257 hf
                            refine lv_iinc (v := (x6 + 1)) (lv' := [(6, .int (x6 + 1)), (1, .ref (b + 0)), (4, .long x4)]) hx hb dL_law_559 hl (k := 2) rfl (by rfl) (by decide) rfl (fun ls hl => ?_)
                            refine lv_goto (tgt := 537) hx hb dL_law_562 (by decide) ?_
                            refine W.widen (k := cl + 1) (n := sl + 6) (by omega) (by omega) ?_
                            exact ih_537 σ256 wx x4 (x6 + 1) (cl + 1) (sl + 6) ce se _ _ _ _ hf (by omega) (by omega) hcm hsm kx kk hA hW hS (lv_sub hl [1, 2, 0] rfl)
                          · have hf := ifn h257 hf
                            refine lv_iconst (v := 0) hx hb dL_law_557 (by decide) ?_
                            cases hf
                            exact absurd (kx _ rfl) (by decide)
                  refine key_537 6 q476.1 q476.2.1 q476.2.2 0 (541142) (3317566) (541148) (3317602) _ _ _ res hl0 (by omega) (by omega) (show 541148 ≤ 600104 by omega) (show 3317602 ≤ 7301314 by omega) (fun z h => hA0 z h) (fun q537 hq H locs ls hA hW hS hl => ?_) hA hW hS (lv_sub hl [1, 2, 0] rfl)
                  have hf := hB _ hq
                  refine lv_aload_n hx hb dL_law_565 rfl (lv_at hl 0 rfl) ?_
                  refine lv_bipush (v := 10) hx hb dL_law_566 (by decide) ?_
                  refine lv_iconst (v := 0) hx hb dL_law_568 (by decide) ?_
                  refine lv_iconst (v := 0) hx hb dL_law_569 (by decide) ?_
                  refine lv_iconst (v := 0) hx hb dL_law_570 (by decide) ?_
                  refine lv_iconst (v := 0) hx hb dL_law_571 (by decide) ?_
                  obtain ⟨y258, σ260, u259, hf⟩ := b2_e hf
                  refine lSW (n := 6) (As := [.ref (b + 0), .int 10, .int 0, .int 0, .int 0, .int 0]) (rest := []) (c_L_call l hfl D t b q537.1 10 0 0 0 0 y258 σ260 u259) hx hb hml hown hts hE hsub hW hS q573 q574 q33  qw_L_call hs_L_call ⟨rfl, rfl⟩ ⟨Nat.le_of_ble_eq_true rfl, Nat.le_of_ble_eq_true rfl⟩ rfl rfl hl.1 (Nat.le_of_ble_eq_true rfl) ⟨show 541148 + 4 ≤ 600104 by omega, show 3317602 + 24 ≤ 7301314 by omega⟩ dL_law_572 (fun H locs hW hS hF => ?_)
                  have hA := hA.kept (hF.2 _ hA.lt hna)
                  refine W.widen (k := 541152) (n := 3317626) (by omega) (by omega) ?_
                  refine lv_sipush (v := (-2013)) hx hb dL_law_575 (by decide) ?_
                  refine lv_icmp_ne (tgt := 613) hx hb dL_law_578 (by decide) (fun h261 => ?_) (fun h261 => ?_)
                  · have hf := ifn h261 hf
                    refine lv_iconst (v := 0) hx hb dL_law_613 (by decide) ?_
                    exact absurd (Option.some.inj hf) (by decide)
                  · have hf := ifp h261 hf
                    refine lv_aload_n hx hb dL_law_581 rfl (lv_at hl 0 rfl) ?_
                    obtain ⟨y262, σ264, u263, hf⟩ := bn2_e hf
                    refine lVXn (n := 0) (As := []) (rest := []) (c_X4_restoreSnapshot l hfl D t b σ260 (.inr (y262, σ264)) u263) hx hb hml hown hts hE hsub hW hS q556 q557 q558 q34 q559 hy_X4_restoreSnapshot ⟨rfl, rfl⟩ ⟨Nat.le_of_ble_eq_true rfl, Nat.le_of_ble_eq_true rfl⟩ rfl rfl hl.1 (Nat.le_of_ble_eq_true rfl) ⟨show 541152 + 1 ≤ 600104 by omega, show 3317626 + 6 ≤ 7301314 by omega⟩ dL_law_582 (fun H locs hW hS hF => ?_)
                    have hA := hA.kept (hF.2 _ hA.lt hna)
                    refine W.widen (k := 541153) (n := 3317632) (by omega) (by omega) ?_
                    refine lv_sipush (v := 461) hx hb dL_law_585 (by decide) ?_
                    refine lv_icmp_ne (tgt := 613) hx hb dL_law_588 (by decide) (fun h265 => ?_) (fun h265 => ?_)
                    · have hf := ifn h265 hf
                      refine lv_iconst (v := 0) hx hb dL_law_613 (by decide) ?_
                      exact absurd (Option.some.inj hf) (by decide)
                    · have hf := ifp h265 hf
                      refine lv_aload_n hx hb dL_law_591 rfl (lv_at hl 0 rfl) ?_
                      obtain ⟨y266, σ268, u267, hf⟩ := b2L_e hf
                      refine lS (n := 1) (As := [.ref (b + 0)]) (rest := []) (c_L_seen l hfl D t b σ264 y266 σ268 u267) hx hb hml hown hts hE hsub hW hS q940 q941 q33  q942 hs_L_seen ⟨rfl, rfl⟩ ⟨Nat.le_of_ble_eq_true rfl, Nat.le_of_ble_eq_true rfl⟩ rfl rfl hl.1 (Nat.le_of_ble_eq_true rfl) ⟨show 541153 + 7176 ≤ 600104 by omega, show 3317632 + 43056 ≤ 7301314 by omega⟩ dL_law_592 (fun H locs hW hS hF => ?_)
                      have hA := hA.kept (hF.2 _ hA.lt hna)
                      refine W.widen (k := 548329) (n := 3360688) (by omega) (by omega) ?_
                      refine lv_lload hx hb dL_law_595 (lv_at hl 1 rfl) ?_
                      refine lcmp_ne (tgt := 613) hx hb dL_law_597 dL_law_598 (by decide) (fun h269 => ?_) (fun h269 => ?_)
                      · have hf := ifn h269 hf
                        refine lv_iconst (v := 0) hx hb dL_law_613 (by decide) ?_
                        exact absurd (Option.some.inj hf) (by decide)
                      · have hf := ifp h269 hf
                        refine lv_aload_n hx hb dL_law_601 rfl (lv_at hl 0 rfl) ?_
                        obtain ⟨y270, u271, hf⟩ := b1_e hf
                        refine lV (n := 0) (As := []) (rest := []) (c_X4_recordedStates l D t b σ268 y270 u271) hx hb hml hown hts hE hsub hW hS q561 q562 q563 q34 q564 hy_X4_recordedStates ⟨rfl, rfl⟩ ⟨Nat.le_of_ble_eq_true rfl, Nat.le_of_ble_eq_true rfl⟩ rfl rfl hl.1 (Nat.le_of_ble_eq_true rfl) ⟨show 548329 ≤ 600104 by omega, show 3360688 ≤ 7301314 by omega⟩ dL_law_602 (fun H locs hW hS hF => ?_)
                        have hA := hA.kept (hF.2 _ hA.lt hna)
                        refine lv_iconst (v := 1) hx hb dL_law_605 (by decide) ?_
                        refine lv_icmp_ne (tgt := 613) hx hb dL_law_606 (by decide) (fun h272 => ?_) (fun h272 => ?_)
                        · have hf := ifn h272 hf
                          refine lv_iconst (v := 0) hx hb dL_law_613 (by decide) ?_
                          exact absurd (Option.some.inj hf) (by decide)
                        · have hf := ifp h272 hf
                          refine lv_iconst (v := 1) hx hb dL_law_609 (by decide) ?_
                          refine lv_goto (tgt := 614) hx hb dL_law_610 (by decide) ?_
                          refine va_forget (fun q hq => by rw [hz0]; exact hS.2.2 q hq) ?_
                          refine W.widen (k := 600104) (n := 7301314) (by omega) (by omega) ?_
                          exact lw_ret hx hb hr hlocks dL_law_614
                · have hf := ifp h233 hf
                  refine lv_iconst (v := 0) hx hb dL_law_471 (by decide) ?_
                  exact absurd (Option.some.inj hf) (by decide)
              · have hf := ifn h26 hf
                refine lv_iconst (v := 0) hx hb dL_law_85 (by decide) ?_
                exact absurd (Option.some.inj hf) (by decide)
    · have hf := ifp h6 hf
      refine lv_iconst (v := 0) hx hb dL_law_12 (by decide) ?_
      exact absurd (Option.some.inj hf) (by decide)

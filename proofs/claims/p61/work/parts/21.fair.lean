theorem hs_X0_init : yX0_init.cls ≠ "java/lang/invoke/MethodHandle" ∧ yX0_init.cls ≠ "java/lang/invoke/VarHandle" ∧ (parseMethodDescriptor yX0_init.desc).map (fun d => d.parameters.length) = some 0 := ⟨by decide +kernel, by decide +kernel, by decide +kernel⟩
theorem hs_X1_init : yX1_init.cls ≠ "java/lang/invoke/MethodHandle" ∧ yX1_init.cls ≠ "java/lang/invoke/VarHandle" ∧ (parseMethodDescriptor yX1_init.desc).map (fun d => d.parameters.length) = some 0 := ⟨by decide +kernel, by decide +kernel, by decide +kernel⟩
theorem hs_X2_init : yX2_init.cls ≠ "java/lang/invoke/MethodHandle" ∧ yX2_init.cls ≠ "java/lang/invoke/VarHandle" ∧ (parseMethodDescriptor yX2_init.desc).map (fun d => d.parameters.length) = some 0 := ⟨by decide +kernel, by decide +kernel, by decide +kernel⟩
theorem hs_X3_init : yX3_init.cls ≠ "java/lang/invoke/MethodHandle" ∧ yX3_init.cls ≠ "java/lang/invoke/VarHandle" ∧ (parseMethodDescriptor yX3_init.desc).map (fun d => d.parameters.length) = some 0 := ⟨by decide +kernel, by decide +kernel, by decide +kernel⟩
theorem hs_X4_init : yX4_init.cls ≠ "java/lang/invoke/MethodHandle" ∧ yX4_init.cls ≠ "java/lang/invoke/VarHandle" ∧ (parseMethodDescriptor yX4_init.desc).map (fun d => d.parameters.length) = some 0 := ⟨by decide +kernel, by decide +kernel, by decide +kernel⟩
theorem qin_0 : Cond.instantiable RX0 10 ∈ ALL := by decide +kernel
theorem qin_1 : Cond.instantiable RX1 13 ∈ ALL := by decide +kernel
theorem qin_2 : Cond.instantiable RX2 11 ∈ ALL := by decide +kernel
theorem qin_3 : Cond.instantiable RX3 11 ∈ ALL := by decide +kernel
theorem qin_4 : Cond.instantiable RX4 8 ∈ ALL := by decide +kernel
theorem shF_st {k i : Nat} (h : sh k = (1, 0)) (hi : i < 7) : sh (k + 13 + 2 * i) = (3, 0) := by
  have h9 := (shF_all k (sh_lt h (by decide)) h).2.2.2.2 i hi
  rw [show k + 13 + 2 * i = k + 3 + 10 + 2 * i by omega]
  exact h9
set_option maxHeartbeats 4000000 in
set_option maxRecDepth 100000 in
theorem c_X1_init (l : Launch) (D : va_G) (t : Nat → ClassId) (b : Nat) (k : Nat) (hk : sh k = (1, 0)) : Met l yX1_init (Cond.code yX1_init cX1_init 2 none :: ALL) ({ frames := 2, cells := 26, slots := 1820, locals := 40 }) (PC D t b k (.inr (1, [.int 0, .int 0, .int 0, .int 0, .int 0, .int 0, .int 0, .int 0, .null, .null, .int 0, .null, .null]))) (QC D t b s0 k (k + 27)) 26 1820 (geC (b + k)) := by
  refine Met.ofW (cc := cX1_init) (maxL := 2) (ret := none) (by decide) rfl ?_
  intro p e s m args below meth c s₁ B hml hv
  obtain ⟨rfl, hz, hO, hE⟩ := hv
  have hx := B.exec
  have hb := B.bytes
  have hr := B.returns
  have hts := atoms_spec (ws := Cond.code yX1_init cX1_init 2 none :: ALL) B.pre
  have hta := fun w h => hts w (List.mem_cons_of_mem _ h)
  have hown : s.vm.findClass RX1 = some m.cls := findClass_of_methodNamed B.named
  have hlocks := B.notSynchronized
  have hin : meth.name = "<init>" := (name_of_methodNamed B.named B.method).1
  have hF : ∀ q, q < b + k → s.heap[q]? = s.heap[q]? := fun q _ => rfl
  have hL : ∀ z ∈ ([] : List Loc), b + k ≤ z.base := fun z h => by cases h
  have hl := lv_entry ([.ref (b + k)]) (n := 2) (Nat.le_of_ble_eq_true rfl)
  rw [lg_entry_eq]
  generalize (lg_sl ([.ref (b + k)]) ++ List.replicate (2 - (lg_sl ([.ref (b + k)])).length) Slot.unset).toArray = ls at hl ⊢
  have hl : lv_has ls 2 [(0, .ref (b + k))] := hl
  have hC : CB D t b s0 (k + 1) (k + 1) s.heap := CB.nil
  refine lv_aload_n hx hb dX1_init_0 rfl (lv_at hl 0 rfl) ?_
  refine W.objInit hx hb hown (hta _ q60) (hta _ q53) (hta _ qoi) rfl (by rw [hml]; exact hl.1) rfl dX1_init_1 (Nat.le_of_ble_eq_true rfl) (Nat.le_of_ble_eq_true rfl) ?_
  refine W.eq (g2 := F0 m 4 ls []) rfl ?_
  refine lv_aload_n hx hb dX1_init_4 rfl (lv_at hl 0 rfl) ?_
  refine lv_sipush (v := 500) hx hb dX1_init_5 (by decide) ?_
  refine cput (ci := 1) (a := b + k) (v := .int 500) inA1 tyX1_ok nmX1 rfl hx hb hta hown hE.1 hO 0 (by decide) q170 rfl rfl rfl (Nat.le_of_ble_eq_true rfl) dX1_init_8 (fun H1 zz hO z2 o2 hb2 => ?_)
  have hF : ∀ q, q < b + k → H1[q]? = s.heap[q]? := fun q hq => (o2 q (by omega)).trans (hF q hq)
  have hC := hC.kept (fun j h1 h2 => o2 (b + j) (by omega))
  have hz := z2.trans hz
  have hL := hL_app hL (Nat.le_of_eq hb2.symm : b + k ≤ zz.base)
  refine lv_aload_n hx hb dX1_init_11 rfl (lv_at hl 0 rfl) ?_
  refine lv_bipush (v := 10) hx hb dX1_init_12 (by decide) ?_
  refine cnewI (h := b + (k + 1)) (N := 10) hx hb hta hE.1 qac_int (by decide) (by decide +kernel) (by decide) hz (Nat.le_of_ble_eq_true rfl) (Nat.le_of_ble_eq_true rfl) dX1_init_14 (fun H2 hA z1 o1 => ?_)
  have hO := hO.kept (o1 (b + k) (by omega))
  have hF : ∀ q, q < b + k → H2[q]? = s.heap[q]? := fun q hq => (o1 q (by omega)).trans (hF q hq)
  have hC := (hC.kept (fun j h1 h2 => o1 (b + j) (by omega))).snoc (cI (shF_1 hk) (ne194 (shF_1 hk) (by decide)) hA)
  have hz : H2.size = b + (k + 2) := by omega
  refine cputF (ci := 1) (a := b + k) (v := .ref (b + (k + 1))) inA1 tyX1_ok nmX1 rfl hx hb hta hown hE.1 hO 8 (by decide) q186 rfl hin rfl rfl rfl (Nat.le_of_ble_eq_true rfl) dX1_init_16 (fun H3 zz hO z2 o2 hb2 => ?_)
  have hF : ∀ q, q < b + k → H3[q]? = s.heap[q]? := fun q hq => (o2 q (by omega)).trans (hF q hq)
  have hC := hC.kept (fun j h1 h2 => o2 (b + j) (by omega))
  have hz := z2.trans hz
  have hL := hL_app hL (Nat.le_of_eq hb2.symm : b + k ≤ zz.base)
  refine lv_aload_n hx hb dX1_init_19 rfl (lv_at hl 0 rfl) ?_
  refine lv_iconst (v := 4) hx hb dX1_init_20 (by decide) ?_
  refine cnewI (h := b + (k + 2)) (N := 4) hx hb hta hE.1 qac_int (by decide) (by decide +kernel) (by decide) hz (Nat.le_of_ble_eq_true rfl) (Nat.le_of_ble_eq_true rfl) dX1_init_21 (fun H4 hA z1 o1 => ?_)
  have hO := hO.kept (o1 (b + k) (by omega))
  have hF : ∀ q, q < b + k → H4[q]? = s.heap[q]? := fun q hq => (o1 q (by omega)).trans (hF q hq)
  have hC := (hC.kept (fun j h1 h2 => o1 (b + j) (by omega))).snoc (cI (shF_2 hk) (ne194 (shF_2 hk) (by decide)) hA)
  have hz : H4.size = b + (k + 3) := by omega
  refine cputF (ci := 1) (a := b + k) (v := .ref (b + (k + 2))) inA1 tyX1_ok nmX1 rfl hx hb hta hown hE.1 hO 9 (by decide) q188 rfl hin rfl rfl rfl (Nat.le_of_ble_eq_true rfl) dX1_init_23 (fun H5 zz hO z2 o2 hb2 => ?_)
  have hF : ∀ q, q < b + k → H5[q]? = s.heap[q]? := fun q hq => (o2 q (by omega)).trans (hF q hq)
  have hC := hC.kept (fun j h1 h2 => o2 (b + j) (by omega))
  have hz := z2.trans hz
  have hL := hL_app hL (Nat.le_of_eq hb2.symm : b + k ≤ zz.base)
  refine lv_aload_n hx hb dX1_init_26 rfl (lv_at hl 0 rfl) ?_
  refine lv_bipush (v := 7) hx hb dX1_init_27 (by decide) ?_
  refine cnewA (t0 := 2) (C := "PrizePurses$Stall") (cT := t 2) (h := b + (k + 3)) (N := 7) rfl hx hb hta hown hE.1 q61 hE.2.2.1 (by decide) (by decide +kernel) (by decide) hz (Nat.le_of_ble_eq_true rfl) (Nat.le_of_ble_eq_true rfl) dX1_init_29 (fun H6 hA z1 o1 => ?_)
  have hO := hO.kept (o1 (b + k) (by omega))
  have hF : ∀ q, q < b + k → H6[q]? = s.heap[q]? := fun q hq => (o1 q (by omega)).trans (hF q hq)
  have hC := hC.kept (fun j h1 h2 => o1 (b + j) (by omega))
  have hz : H6.size = b + (k + 4) := by omega
  refine cputF (ci := 1) (a := b + k) (v := .ref (b + (k + 3))) inA1 tyX1_ok nmX1 rfl hx hb hta hown hE.1 hO 11 (by decide) q192 rfl hin rfl rfl rfl (Nat.le_of_ble_eq_true rfl) dX1_init_32 (fun H7 zz hO z2 o2 hb2 => ?_)
  have hF : ∀ q, q < b + k → H7[q]? = s.heap[q]? := fun q hq => (o2 q (by omega)).trans (hF q hq)
  have hC := hC.kept (fun j h1 h2 => o2 (b + j) (by omega))
  have hz := z2.trans hz
  have hL := hL_app hL (Nat.le_of_eq hb2.symm : b + k ≤ zz.base)
  have hA := hA.kept (o2 (b + (k + 3)) (by omega))
  refine lv_aload_n hx hb dX1_init_35 rfl (lv_at hl 0 rfl) ?_
  refine cnew (ci := 0) (C := RX0) (T := TX0) (N := 10) (h := b + (k + 4)) inA0 tyX0_ok rfl (fs := [.int 0, .int 0, .null, .null, .null, .null, .null, .null, .null, .null]) (by decide +kernel) hx hb hta hown hE.1 q63 qin_0 q36 hz (Nat.le_of_ble_eq_true rfl) (Nat.le_of_ble_eq_true rfl) dX1_init_36 (fun H8 hN z1 o1 => ?_)
  have hO := hO.kept (o1 (b + k) (by omega))
  have hF : ∀ q, q < b + k → H8[q]? = s.heap[q]? := fun q hq => (o1 q (by omega)).trans (hF q hq)
  have hA := hA.kept (o1 (b + (k + 3)) (by omega))
  have hC := hC.kept (fun j h1 h2 => o1 (b + j) (by omega))
  have hz : H8.size = b + (k + 4 + 1) := by omega
  refine lv_dup hx hb dX1_init_39 rfl ?_
  refine mIN (k := k + 4) (rest := [.ref (b + (k + 4)), .ref (b + k)]) (c_X0_init l D t b (k + 4) (shF_4 hk)) hx hb hml hown hts hE hz hN ng_65 q66 q36 q67 rfl hs_X0_init ⟨rfl, rfl⟩ ⟨(Nat.le_of_ble_eq_true rfl), (Nat.le_of_ble_eq_true rfl)⟩ rfl hl.1 (Nat.le_of_ble_eq_true rfl) ⟨(Nat.le_of_ble_eq_true rfl), (Nat.le_of_ble_eq_true rfl)⟩ dX1_init_40 (fun H9 L9 hz hC2 o1 hL9 => ?_)
  have hO := hO.kept (o1 (b + k) (by omega))
  have hF : ∀ q, q < b + k → H9[q]? = s.heap[q]? := fun q hq => (o1 q (by omega)).trans (hF q hq)
  have hA := hA.kept (o1 (b + (k + 3)) (by omega))
  have hC := hC.kept (fun j h1 h2 => o1 (b + j) (by omega))
  have hL := hL_apps hL (fun z h => Nat.le_trans (show b + k ≤ b + (k + 4) by omega) (hL9 z h))
  refine cputF (ci := 1) (a := b + k) (v := .ref (b + (k + 4))) inA1 tyX1_ok nmX1 rfl hx hb hta hown hE.1 hO 12 (by decide) q194 rfl hin rfl rfl rfl (Nat.le_of_ble_eq_true rfl) dX1_init_43 (fun H10 zz hO z2 o2 hb2 => ?_)
  have hF : ∀ q, q < b + k → H10[q]? = s.heap[q]? := fun q hq => (o2 q (by omega)).trans (hF q hq)
  have hC := hC.kept (fun j h1 h2 => o2 (b + j) (by omega))
  have hz := z2.trans hz
  have hL := hL_app hL (Nat.le_of_eq hb2.symm : b + k ≤ zz.base)
  have hA := hA.kept (o2 (b + (k + 3)) (by omega))
  have hC2 := hC2.kept (fun j h1 h2 => o2 (b + j) (by omega))
  refine lv_iconst (v := 0) hx hb dX1_init_46 (by decide) ?_
  refine lv_istore_n (lv' := [(1, .int 0), (0, .ref (b + k))]) hx hb dX1_init_47 rfl hl (by decide) rfl (fun ls hl => ?_)
  have key : ∀ (n i : Nat) (H : Heap) (locs : List Loc) (ls : Array Slot), i ≤ 7 → 7 - i < n → H.size = b + (k + 13 + 2 * i) → va_at D vwCl (b + k, .inr (1, [.int 500, .int 0, .int 0, .int 0, .int 0, .int 0, .int 0, .int 0, .ref (b + (k + 1)), .ref (b + (k + 2)), .int 0, .ref (b + (k + 3)), .ref (b + (k + 4))])) H → va_at D vwCl (b + (k + 3), .inl (t 2, 7, .inr (.inr (.inr (.inr (fun j => if j < i then some (b + (k + 13 + 2 * j)) else none)))))) H → CB D t b s0 (k + 1) (k + 3) H → CB D t b s0 (k + 4) (k + 13 + 2 * i) H → (∀ q, q < b + k → H[q]? = s.heap[q]?) → (∀ z ∈ locs, b + k ≤ z.base) → lv_has ls 2 [(1, .int (nI i)), (0, .ref (b + k))] → W p l e (headSpec (Cond.code yX1_init cX1_init 2 none :: ALL) ({ frames := 2, cells := 26, slots := 1820, locals := 40 })).room s m ([.ref (b + k)] : List Value).toArray below meth c H locs (12 + 2 * i) (1631 + 27 * i) (MQ below (QC D t b s0 k (k + 27)) ([.ref (b + k)] : List Value).toArray s 26 1820 (geC (b + k))) (F0 m 48 ls []) := by
    intro n
    induction n with
    | zero => intro i H locs ls _ h2; omega
    | succ n ih =>
      intro i H locs ls h1 h2 hz hO hA hC hC2 hF hL hl
      refine lv_iload_n hx hb dX1_init_48 rfl (lv_at hl 0 rfl) ?_
      refine lv_bipush (v := 6) hx hb dX1_init_49 (by decide) ?_
      refine lv_icmp_gt (tgt := 73) hx hb dX1_init_51 (by decide) (fun g => ?_) (fun g => ?_)
      · have hi : i = 7 := by
          rcases Nat.lt_or_ge 6 i with q | q
          · omega
          · exact absurd g (nI_nlt (a := 6) (b := i) q (by decide))
        subst hi
        refine W.widen (k := 26) (n := 1820) (by omega) (by omega) ?_
        have hR : CB D t b s0 k (k + 27) H := fun j j1 j2 => by
          rcases Nat.lt_or_ge k j with q | q
          · rcases Nat.lt_or_ge j (k + 3) with q2 | q2
            · exact hC j q q2
            · rcases Nat.lt_or_ge (k + 3) j with q3 | q3
              · exact hC2 j (by omega) (by omega)
              · rw [show j = k + 3 by omega, shF_3 hk]
                show H[_]? = some (vp_cell _ _)
                refine Eq.trans (show H[_]? = some (vp_cell _ _) from hA) (congrArg some ?_)
                refine Eq.trans (vp_cell_q (t 2) 7 _) (Eq.trans (arrV_cong (fun j hj => ?_)) (vp_cell_q (t 2) 7 (fun i => some (b + (k + 3 + 10 + 2 * i)))).symm)
                show va_rf (if j < 7 then _ else _) = va_rf _
                rw [if_pos hj]
          · rw [show j = k by omega, s0_F hk, hk]; exact hO
        exact W.vret hx hb hr (fun u hu _ => ⟨rfl, by rw [hu]; exact hz, by rw [hu]; exact hR, by rw [hu]; exact hF⟩) hL dX1_init_73
      · have hi : i < 7 := by
          rcases Nat.lt_or_ge i 7 with q | q
          · exact q
          · exact absurd (show (6 : Int32) < nI i from nI_lt (a := 6) (by omega) (by omega)) g
        refine lv_aload_n hx hb dX1_init_54 rfl (lv_at hl 1 rfl) ?_
        refine cget (ci := 1) (a := b + k) inA1 rfl hx hb hta hown hE.1 hO 11 (by decide) q192 rfl dX1_init_55 ?_
        refine lv_iload_n hx hb dX1_init_58 rfl (lv_at hl 0 rfl) ?_
        refine cnew (ci := 3) (C := RX3) (T := TX3) (N := 11) (h := b + (k + 13 + 2 * i)) inA3 tyX3_ok rfl (fs := [.int 0, .int 0, .int 0, .int 0, .int 0, .int 0, .int 0, .int 0, .int 0, .int 0, .null]) (by decide +kernel) hx hb hta hown hE.1 q61 qin_3 q37 hz (show 12 + 2 * i + 1 ≤ 26 by omega) (show 1631 + 27 * i + 11 ≤ 1820 by omega) dX1_init_59 (fun H1 hN z1 o1 => ?_)
        have hO := hO.kept (o1 (b + k) (by omega))
        have hA := hA.kept (o1 (b + (k + 3)) (by omega))
        have hC := hC.kept (fun j h1 h2 => o1 (b + j) (by omega))
        have hC2 := hC2.kept (fun j h1 h2 => o1 (b + j) (by omega))
        have hF : ∀ q, q < b + k → H1[q]? = s.heap[q]? := fun q hq => (o1 q (by omega)).trans (hF q hq)
        have hz : H1.size = b + (k + 13 + 2 * i + 1) := by omega
        refine lv_dup hx hb dX1_init_62 rfl ?_
        refine mIN (k := k + 13 + 2 * i) (rest := [.ref (b + (k + 13 + 2 * i)), .int (nI i), .ref (b + (k + 3))]) (c_X3_init l D t b (k + 13 + 2 * i) (shF_st hk hi)) hx hb hml hown hts hE hz hN ng_116 q117 q37 q118 rfl hs_X3_init ⟨rfl, rfl⟩ ⟨(Nat.le_of_ble_eq_true rfl), (Nat.le_of_ble_eq_true rfl)⟩ rfl hl.1 (Nat.le_of_ble_eq_true rfl) ⟨show 12 + 2 * i + 1 + 1 ≤ 26 by omega, show 1631 + 27 * i + 11 + 16 ≤ 1820 by omega⟩ dX1_init_63 (fun H2 L9 hz hC3 o2 hL9 => ?_)
        have hO := hO.kept (o2 (b + k) (by omega))
        have hA := hA.kept (o2 (b + (k + 3)) (by omega))
        have hC := hC.kept (fun j h1 h2 => o2 (b + j) (by omega))
        have hC2 := (hC2.kept (fun j h1 h2 => o2 (b + j) (by omega))).app hC3
        have hF : ∀ q, q < b + k → H2[q]? = s.heap[q]? := fun q hq => (o2 q (by omega)).trans (hF q hq)
        have hL := hL_apps hL (fun z h => Nat.le_trans (show b + k ≤ b + (k + 13 + 2 * i) by omega) (hL9 z h))
        have hN : va_at D vwCl (b + (k + 13 + 2 * i), .inr (3, fsS b (k + 13 + 2 * i) (s0 (k + 13 + 2 * i)))) H2 := by
          have h9 := hC3 (k + 13 + 2 * i) (Nat.le_refl _) (by omega)
          rw [shF_st hk hi] at h9
          exact h9
        refine castq (t0 := 2) (ci := 3) (C := RX3) (T := TX3) (N := 11) (i := nI i) rfl rfl hx hb hE.1 hA hN (vp_in_nI hi (by omega)) dX1_init_66 (fun H3 zz hA z2 o3 hb2 => ?_)
        have hO := hO.kept (o3 (b + k) (by omega))
        have hC := hC.kept (fun j h1 h2 => o3 (b + j) (by omega))
        have hC2 := hC2.kept (fun j h1 h2 => o3 (b + j) (by omega))
        have hF : ∀ q, q < b + k → H3[q]? = s.heap[q]? := fun q hq => (o3 q (by omega)).trans (hF q hq)
        have hL := hL_app hL (show b + k ≤ zz.base from Nat.le_trans (show b + k ≤ b + (k + 3) by omega) (Nat.le_of_eq hb2.symm))
        have hz : H3.size = b + (k + 13 + 2 * (i + 1)) := by omega
        refine lv_iinc (v := nI (i + 1)) (lv' := [(1, .int (nI (i + 1))), (0, .ref (b + k))]) hx hb dX1_init_67 hl (k := 0) rfl (nI_1 i) (by decide) rfl (fun ls hl => ?_)
        refine lv_goto (tgt := 48) hx hb dX1_init_70 (by decide) ?_
        refine W.widen (k := 12 + 2 * (i + 1)) (n := 1631 + 27 * (i + 1)) (by omega) (by omega) ?_
        refine ih (i + 1) _ _ _ (by omega) (by omega) hz hO ?_ hC (by rw [show k + 13 + 2 * (i + 1) = k + 13 + 2 * i + 2 by omega]; exact hC2) hF hL hl
        rw [nI_clamp (by omega)] at hA
        rw [show (fun j => if j < i + 1 then some (b + (k + 13 + 2 * j)) else none) = va_up (fun j => if j < i then some (b + (k + 13 + 2 * j)) else none) i (some (b + (k + 13 + 2 * i))) from by
          funext j
          unfold va_up
          by_cases q : j = i
          · rw [q, if_pos (by omega), if_pos rfl]
          · rw [if_neg q]
            show _ = (if j < i then _ else _)
            by_cases q2 : j < i
            · rw [if_pos q2, if_pos (by omega)]
            · rw [if_neg q2, if_neg (by omega)]]
        exact hA
  exact key 8 0 _ _ _ (by omega) (by omega) hz hO hA hC hC2 hF hL (lv_sub hl [0, 1] rfl)


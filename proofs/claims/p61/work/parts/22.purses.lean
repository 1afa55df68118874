set_option maxHeartbeats 4000000 in
set_option maxRecDepth 100000 in
theorem c_X4_init (l : Launch) (D : va_G) (t : Nat → ClassId) (b : Nat) : Met l yX4_init (Cond.code yX4_init cX4_init 2 none :: ALL) ({ frames := 4, cells := 192, slots := 12926, locals := 80 }) (PC D t b 0 (.inr (4, [.null, .null, .null, .int 0, .null, .int 0, .int 0, .null]))) (QC D t b s0 0 (193)) 192 12926 (geC (b + 0)) := by
  refine Met.ofW (cc := cX4_init) (maxL := 2) (ret := none) (by decide) rfl ?_
  intro p e s m args below meth c s₁ B hml hv
  obtain ⟨rfl, hz, hO, hE⟩ := hv
  have hx := B.exec
  have hb := B.bytes
  have hr := B.returns
  have hts := atoms_spec (ws := Cond.code yX4_init cX4_init 2 none :: ALL) B.pre
  have hta := fun w h => hts w (List.mem_cons_of_mem _ h)
  have hown : s.vm.findClass RX4 = some m.cls := findClass_of_methodNamed B.named
  have hlocks := B.notSynchronized
  have hin : meth.name = "<init>" := (name_of_methodNamed B.named B.method).1
  have hF : ∀ q, q < b + 0 → s.heap[q]? = s.heap[q]? := fun q _ => rfl
  have hL : ∀ z ∈ ([] : List Loc), b + 0 ≤ z.base := fun z h => by cases h
  have hl := lv_entry ([.ref (b + 0)]) (n := 2) (Nat.le_of_ble_eq_true rfl)
  rw [lg_entry_eq]
  generalize (lg_sl ([.ref (b + 0)]) ++ List.replicate (2 - (lg_sl ([.ref (b + 0)])).length) Slot.unset).toArray = ls at hl ⊢
  have hl : lv_has ls 2 [(0, .ref (b + 0))] := hl
  have hC : CB D t b s0 (0 + 1) (0 + 1) s.heap := CB.nil
  refine lv_aload_n hx hb dX4_init_0 rfl (lv_at hl 0 rfl) ?_
  refine W.objInit hx hb hown (hta _ q52) (hta _ q53) (hta _ qoi) rfl (by rw [hml]; exact hl.1) rfl dX4_init_1 (Nat.le_of_ble_eq_true rfl) (Nat.le_of_ble_eq_true rfl) ?_
  refine W.eq (g2 := F0 m 4 ls []) rfl ?_
  refine lv_aload_n hx hb dX4_init_4 rfl (lv_at hl 0 rfl) ?_
  refine cnew (ci := 1) (C := RX1) (T := TX1) (N := 13) (h := b + 1) inA1 tyX1_ok rfl (fs := [.int 0, .int 0, .int 0, .int 0, .int 0, .int 0, .int 0, .int 0, .null, .null, .int 0, .null, .null]) (by decide +kernel) hx hb hta hown hE.1 q55 qin_1 q35 hz (Nat.le_of_ble_eq_true rfl) (Nat.le_of_ble_eq_true rfl) dX4_init_5 (fun H1 hN z1 o1 => ?_)
  have hO := hO.kept (o1 (b + 0) (by omega))
  have hF : ∀ q, q < b + 0 → H1[q]? = s.heap[q]? := fun q hq => (o1 q (by omega)).trans (hF q hq)
  have hC := hC.kept (fun j h1 h2 => o1 (b + j) (by omega))
  have hz : H1.size = b + (1 + 1) := by omega
  refine lv_dup hx hb dX4_init_8 rfl ?_
  refine mI (k := 1) (n := 28) (rest := [.ref (b + 1), .ref (b + 0)]) (c_X1_init l D t b 1 sh_1) hx hb hml hown hts hE hz hN q57 q58 q35 q59 rfl hs_X1_init ⟨rfl, rfl⟩ ⟨(Nat.le_of_ble_eq_true rfl), (Nat.le_of_ble_eq_true rfl)⟩ rfl hl.1 (Nat.le_of_ble_eq_true rfl) ⟨(Nat.le_of_ble_eq_true rfl), (Nat.le_of_ble_eq_true rfl)⟩ dX4_init_9 (fun H2 L9 hz hC2 o1 hL9 => ?_)
  have hO := hO.kept (o1 (b + 0) (by omega))
  have hF : ∀ q, q < b + 0 → H2[q]? = s.heap[q]? := fun q hq => (o1 q (by omega)).trans (hF q hq)
  have hC := (hC.kept (fun j h1 h2 => o1 (b + j) (by omega))).app hC2
  have hL := hL_apps hL (fun z h => Nat.le_trans (show b + 0 ≤ b + 1 by omega) (hL9 z h))
  refine cputF (ci := 4) (a := b + 0) (v := .ref (b + 1)) inA4 tyX4_ok nmX4 rfl hx hb hta hown hE.1 hO 0 (by decide) q274 rfl hin rfl rfl rfl (Nat.le_of_ble_eq_true rfl) dX4_init_12 (fun H3 zz hO z2 o2 hb2 => ?_)
  have hF : ∀ q, q < b + 0 → H3[q]? = s.heap[q]? := fun q hq => (o2 q (by omega)).trans (hF q hq)
  have hC := hC.kept (fun j h1 h2 => o2 (b + j) (by omega))
  have hz := z2.trans hz
  have hL := hL_app hL (Nat.le_of_eq hb2.symm : b + 0 ≤ zz.base)
  refine lv_aload_n hx hb dX4_init_15 rfl (lv_at hl 0 rfl) ?_
  refine cnew (ci := 1) (C := RX1) (T := TX1) (N := 13) (h := b + 28) inA1 tyX1_ok rfl (fs := [.int 0, .int 0, .int 0, .int 0, .int 0, .int 0, .int 0, .int 0, .null, .null, .int 0, .null, .null]) (by decide +kernel) hx hb hta hown hE.1 q55 qin_1 q35 hz (Nat.le_of_ble_eq_true rfl) (Nat.le_of_ble_eq_true rfl) dX4_init_16 (fun H4 hN z1 o1 => ?_)
  have hO := hO.kept (o1 (b + 0) (by omega))
  have hF : ∀ q, q < b + 0 → H4[q]? = s.heap[q]? := fun q hq => (o1 q (by omega)).trans (hF q hq)
  have hC := hC.kept (fun j h1 h2 => o1 (b + j) (by omega))
  have hz : H4.size = b + (28 + 1) := by omega
  refine lv_dup hx hb dX4_init_19 rfl ?_
  refine mI (k := 28) (n := 55) (rest := [.ref (b + 28), .ref (b + 0)]) (c_X1_init l D t b 28 sh_28) hx hb hml hown hts hE hz hN q57 q58 q35 q59 rfl hs_X1_init ⟨rfl, rfl⟩ ⟨(Nat.le_of_ble_eq_true rfl), (Nat.le_of_ble_eq_true rfl)⟩ rfl hl.1 (Nat.le_of_ble_eq_true rfl) ⟨(Nat.le_of_ble_eq_true rfl), (Nat.le_of_ble_eq_true rfl)⟩ dX4_init_20 (fun H5 L9 hz hC2 o1 hL9 => ?_)
  have hO := hO.kept (o1 (b + 0) (by omega))
  have hF : ∀ q, q < b + 0 → H5[q]? = s.heap[q]? := fun q hq => (o1 q (by omega)).trans (hF q hq)
  have hC := (hC.kept (fun j h1 h2 => o1 (b + j) (by omega))).app hC2
  have hL := hL_apps hL (fun z h => Nat.le_trans (show b + 0 ≤ b + 28 by omega) (hL9 z h))
  refine cputF (ci := 4) (a := b + 0) (v := .ref (b + 28)) inA4 tyX4_ok nmX4 rfl hx hb hta hown hE.1 hO 1 (by decide) q275 rfl hin rfl rfl rfl (Nat.le_of_ble_eq_true rfl) dX4_init_23 (fun H6 zz hO z2 o2 hb2 => ?_)
  have hF : ∀ q, q < b + 0 → H6[q]? = s.heap[q]? := fun q hq => (o2 q (by omega)).trans (hF q hq)
  have hC := hC.kept (fun j h1 h2 => o2 (b + j) (by omega))
  have hz := z2.trans hz
  have hL := hL_app hL (Nat.le_of_eq hb2.symm : b + 0 ≤ zz.base)
  refine lv_aload_n hx hb dX4_init_26 rfl (lv_at hl 0 rfl) ?_
  refine cnew (ci := 1) (C := RX1) (T := TX1) (N := 13) (h := b + 55) inA1 tyX1_ok rfl (fs := [.int 0, .int 0, .int 0, .int 0, .int 0, .int 0, .int 0, .int 0, .null, .null, .int 0, .null, .null]) (by decide +kernel) hx hb hta hown hE.1 q55 qin_1 q35 hz (Nat.le_of_ble_eq_true rfl) (Nat.le_of_ble_eq_true rfl) dX4_init_27 (fun H7 hN z1 o1 => ?_)
  have hO := hO.kept (o1 (b + 0) (by omega))
  have hF : ∀ q, q < b + 0 → H7[q]? = s.heap[q]? := fun q hq => (o1 q (by omega)).trans (hF q hq)
  have hC := hC.kept (fun j h1 h2 => o1 (b + j) (by omega))
  have hz : H7.size = b + (55 + 1) := by omega
  refine lv_dup hx hb dX4_init_30 rfl ?_
  refine mI (k := 55) (n := 82) (rest := [.ref (b + 55), .ref (b + 0)]) (c_X1_init l D t b 55 sh_55) hx hb hml hown hts hE hz hN q57 q58 q35 q59 rfl hs_X1_init ⟨rfl, rfl⟩ ⟨(Nat.le_of_ble_eq_true rfl), (Nat.le_of_ble_eq_true rfl)⟩ rfl hl.1 (Nat.le_of_ble_eq_true rfl) ⟨(Nat.le_of_ble_eq_true rfl), (Nat.le_of_ble_eq_true rfl)⟩ dX4_init_31 (fun H8 L9 hz hC2 o1 hL9 => ?_)
  have hO := hO.kept (o1 (b + 0) (by omega))
  have hF : ∀ q, q < b + 0 → H8[q]? = s.heap[q]? := fun q hq => (o1 q (by omega)).trans (hF q hq)
  have hC := (hC.kept (fun j h1 h2 => o1 (b + j) (by omega))).app hC2
  have hL := hL_apps hL (fun z h => Nat.le_trans (show b + 0 ≤ b + 55 by omega) (hL9 z h))
  refine cputF (ci := 4) (a := b + 0) (v := .ref (b + 55)) inA4 tyX4_ok nmX4 rfl hx hb hta hown hE.1 hO 2 (by decide) q276 rfl hin rfl rfl rfl (Nat.le_of_ble_eq_true rfl) dX4_init_34 (fun H9 zz hO z2 o2 hb2 => ?_)
  have hF : ∀ q, q < b + 0 → H9[q]? = s.heap[q]? := fun q hq => (o2 q (by omega)).trans (hF q hq)
  have hC := hC.kept (fun j h1 h2 => o2 (b + j) (by omega))
  have hz := z2.trans hz
  have hL := hL_app hL (Nat.le_of_eq hb2.symm : b + 0 ≤ zz.base)
  refine lv_aload_n hx hb dX4_init_37 rfl (lv_at hl 0 rfl) ?_
  refine lv_iconst (v := 0) hx hb dX4_init_38 (by decide) ?_
  refine cput (ci := 4) (a := b + 0) (v := .int 0) inA4 tyX4_ok nmX4 rfl hx hb hta hown hE.1 hO 3 (by decide) q277 rfl (by decide) (by decide) (Nat.le_of_ble_eq_true rfl) dX4_init_39 (fun H10 zz hO z2 o2 hb2 => ?_)
  have hF : ∀ q, q < b + 0 → H10[q]? = s.heap[q]? := fun q hq => (o2 q (by omega)).trans (hF q hq)
  have hC := hC.kept (fun j h1 h2 => o2 (b + j) (by omega))
  have hz := z2.trans hz
  have hL := hL_app hL (Nat.le_of_eq hb2.symm : b + 0 ≤ zz.base)
  refine lv_aload_n hx hb dX4_init_42 rfl (lv_at hl 0 rfl) ?_
  refine lv_iconst (v := 4) hx hb dX4_init_43 (by decide) ?_
  refine cnewA (t0 := 3) (C := "PrizePurses$Fair") (cT := t 3) (h := b + 82) (N := 4) rfl hx hb hta hown hE.1 q55 hE.2.2.2 (by decide) (by decide +kernel) (by decide) hz (Nat.le_of_ble_eq_true rfl) (Nat.le_of_ble_eq_true rfl) dX4_init_44 (fun H11 hA z1 o1 => ?_)
  have hO := hO.kept (o1 (b + 0) (by omega))
  have hF : ∀ q, q < b + 0 → H11[q]? = s.heap[q]? := fun q hq => (o1 q (by omega)).trans (hF q hq)
  have hC := hC.kept (fun j h1 h2 => o1 (b + j) (by omega))
  have hz : H11.size = b + 83 := by omega
  refine cputF (ci := 4) (a := b + 0) (v := .ref (b + 82)) inA4 tyX4_ok nmX4 rfl hx hb hta hown hE.1 hO 4 (by decide) q278 rfl hin rfl rfl rfl (Nat.le_of_ble_eq_true rfl) dX4_init_47 (fun H12 zz hO z2 o2 hb2 => ?_)
  have hF : ∀ q, q < b + 0 → H12[q]? = s.heap[q]? := fun q hq => (o2 q (by omega)).trans (hF q hq)
  have hC := hC.kept (fun j h1 h2 => o2 (b + j) (by omega))
  have hz := z2.trans hz
  have hL := hL_app hL (Nat.le_of_eq hb2.symm : b + 0 ≤ zz.base)
  have hA := hA.kept (o2 (b + 82) (by omega))
  refine lv_iconst (v := 0) hx hb dX4_init_50 (by decide) ?_
  refine lv_istore_n (lv' := [(1, .int 0), (0, .ref (b + 0))]) hx hb dX4_init_51 rfl hl (by decide) rfl (fun ls hl => ?_)
  have key : ∀ (n i : Nat) (H : Heap) (locs : List Loc) (ls : Array Slot), i ≤ 4 → 4 - i < n → H.size = b + (83 + 27 * i) → va_at D vwCl (b + 0, .inr (4, [.ref (b + 1), .ref (b + 28), .ref (b + 55), .int 0, .ref (b + 82), .int 0, .int 0, .null])) H → va_at D vwCl (b + 82, .inl (t 3, 4, .inr (.inr (.inr (.inr (fun j => if j < i then some (b + (82 + 1 + 27 * j)) else none)))))) H → CB D t b s0 1 82 H → CB D t b s0 83 (83 + 27 * i) H → (∀ q, q < b + 0 → H[q]? = s.heap[q]?) → (∀ z ∈ locs, b + 0 ≤ z.base) → lv_has ls 2 [(1, .int (nI i)), (0, .ref (b + 0))] → W p l e (headSpec (Cond.code yX4_init cX4_init 2 none :: ALL) ({ frames := 4, cells := 192, slots := 12926, locals := 80 })).room s m ([.ref (b + 0)] : List Value).toArray below meth c H locs (82 + 27 * i) (5503 + 1833 * i) (MQ below (QC D t b s0 0 193) ([.ref (b + 0)] : List Value).toArray s 192 12926 (geC (b + 0))) (F0 m 52 ls []) := by
    intro n
    induction n with
    | zero => intro i H locs ls _ h2; omega
    | succ n ih =>
      intro i H locs ls h1 h2 hz hO hA hC hC2 hF hL hl
      refine lv_iload_n hx hb dX4_init_52 rfl (lv_at hl 0 rfl) ?_
      refine lv_iconst (v := 4) hx hb dX4_init_53 (by decide) ?_
      refine lv_icmp_ge (tgt := 76) hx hb dX4_init_54 (by decide) (fun g => ?_) (fun g => ?_)
      · have hi : i = 4 := by
          rcases Nat.lt_or_ge i 4 with q | q
          · exact absurd g (nI_ge (a := i) (b := 4) q (by decide))
          · omega
        subst hi
        refine W.widen (k := 190) (n := 12835) (by omega) (by omega) ?_
        have hR : CB D t b s0 1 191 H := fun j j1 j2 => by
          rcases Nat.lt_or_ge j 82 with q | q
          · exact hC j j1 q
          · rcases Nat.lt_or_ge 82 j with q3 | q3
            · exact hC2 j (by omega) (by omega)
            · rw [show j = 82 by omega, sh_82]
              refine Eq.trans (show H[_]? = some (vp_cell _ _) from hA) (congrArg some ?_)
              refine Eq.trans (vp_cell_q (t 3) 4 _) (Eq.trans (arrV_cong (fun j hj => ?_)) (vp_cell_q (t 3) 4 (fun i => some (b + (82 + 1 + 27 * i)))).symm)
              show va_rf (if j < 4 then _ else _) = va_rf _
              rw [if_pos hj]
        have hC := hR
        refine lv_aload_n hx hb dX4_init_76 rfl (lv_at hl 1 rfl) ?_
        refine lv_iconst (v := 0) hx hb dX4_init_77 (by decide) ?_
        refine cput (ci := 4) (a := b + 0) (v := .int 0) inA4 tyX4_ok nmX4 rfl hx hb hta hown hE.1 hO 5 (by decide) q279 rfl (by decide) (by decide) (Nat.le_of_ble_eq_true rfl) dX4_init_78 (fun H13 zz hO z2 o2 hb2 => ?_)
        have hF : ∀ q, q < b + 0 → H13[q]? = s.heap[q]? := fun q hq => (o2 q (by omega)).trans (hF q hq)
        have hC := hC.kept (fun j h1 h2 => o2 (b + j) (by omega))
        have hz := z2.trans hz
        have hL := hL_app hL (Nat.le_of_eq hb2.symm : b + 0 ≤ zz.base)
        refine lv_aload_n hx hb dX4_init_81 rfl (lv_at hl 1 rfl) ?_
        refine lv_iconst (v := 0) hx hb dX4_init_82 (by decide) ?_
        refine cput (ci := 4) (a := b + 0) (v := .int 0) inA4 tyX4_ok nmX4 rfl hx hb hta hown hE.1 hO 6 (by decide) q280 rfl (by decide) (by decide) (Nat.le_of_ble_eq_true rfl) dX4_init_83 (fun H14 zz hO z2 o2 hb2 => ?_)
        have hF : ∀ q, q < b + 0 → H14[q]? = s.heap[q]? := fun q hq => (o2 q (by omega)).trans (hF q hq)
        have hC := hC.kept (fun j h1 h2 => o2 (b + j) (by omega))
        have hz := z2.trans hz
        have hL := hL_app hL (Nat.le_of_eq hb2.symm : b + 0 ≤ zz.base)
        refine lv_aload_n hx hb dX4_init_86 rfl (lv_at hl 1 rfl) ?_
        refine cnew (ci := 2) (C := RX2) (T := TX2) (N := 11) (h := b + 191) inA2 tyX2_ok rfl (fs := [.null, .int 0, .int 0, .int 0, .int 0, .int 0, .int 0, .int 0, .int 0, .int 0, .int 0]) (by decide +kernel) hx hb hta hown hE.1 q224 qin_2 q38 hz (Nat.le_of_ble_eq_true rfl) (Nat.le_of_ble_eq_true rfl) dX4_init_87 (fun H15 hN z1 o1 => ?_)
        have hO := hO.kept (o1 (b + 0) (by omega))
        have hF : ∀ q, q < b + 0 → H15[q]? = s.heap[q]? := fun q hq => (o1 q (by omega)).trans (hF q hq)
        have hC := hC.kept (fun j h1 h2 => o1 (b + j) (by omega))
        have hz : H15.size = b + (191 + 1) := by omega
        refine lv_dup hx hb dX4_init_90 rfl ?_
        refine mIN (k := 191) (n := 193) (rest := [.ref (b + 191), .ref (b + 0)]) (c_X2_init l D t b) hx hb hml hown hts hE hz hN ng_226 q227 q38 q228 rfl hs_X2_init ⟨rfl, rfl⟩ ⟨(Nat.le_of_ble_eq_true rfl), (Nat.le_of_ble_eq_true rfl)⟩ rfl hl.1 (Nat.le_of_ble_eq_true rfl) ⟨(Nat.le_of_ble_eq_true rfl), (Nat.le_of_ble_eq_true rfl)⟩ dX4_init_91 (fun H16 L9 hz hC2 o1 hL9 => ?_)
        have hO := hO.kept (o1 (b + 0) (by omega))
        have hF : ∀ q, q < b + 0 → H16[q]? = s.heap[q]? := fun q hq => (o1 q (by omega)).trans (hF q hq)
        have hC := (hC.kept (fun j h1 h2 => o1 (b + j) (by omega))).app hC2
        have hL := hL_apps hL (fun z h => Nat.le_trans (show b + 0 ≤ b + 191 by omega) (hL9 z h))
        refine cputF (ci := 4) (a := b + 0) (v := .ref (b + 191)) inA4 tyX4_ok nmX4 rfl hx hb hta hown hE.1 hO 7 (by decide) q281 rfl hin rfl rfl rfl (Nat.le_of_ble_eq_true rfl) dX4_init_94 (fun H17 zz hO z2 o2 hb2 => ?_)
        have hF : ∀ q, q < b + 0 → H17[q]? = s.heap[q]? := fun q hq => (o2 q (by omega)).trans (hF q hq)
        have hC := hC.kept (fun j h1 h2 => o2 (b + j) (by omega))
        have hz := z2.trans hz
        have hL := hL_app hL (Nat.le_of_eq hb2.symm : b + 0 ≤ zz.base)
        exact W.vret hx hb hr (fun u hu _ => ⟨rfl, by rw [hu]; exact hz, by rw [hu]; exact (fun j h1 h2 => by
            rcases Nat.lt_or_ge 0 j with g9 | g9
            · exact hC j g9 h2
            · rw [show j = 0 by omega, s0_z (by rw [sh_0]; intro z; cases z) (by decide), sh_0]; exact hO), by rw [hu]; exact hF⟩) hL dX4_init_97
      · have hi : i < 4 := by
          rcases Nat.lt_or_ge i 4 with q | q
          · exact q
          · exact absurd (show (4 : Int32) ≤ nI i from nI_le (a := 4) q (by omega)) g
        refine lv_aload_n hx hb dX4_init_57 rfl (lv_at hl 1 rfl) ?_
        refine cget (ci := 4) (a := b + 0) inA4 rfl hx hb hta hown hE.1 hO 4 (by decide) q278 rfl dX4_init_58 ?_
        refine lv_iload_n hx hb dX4_init_61 rfl (lv_at hl 0 rfl) ?_
        refine cnew (ci := 1) (C := RX1) (T := TX1) (N := 13) (h := b + (83 + 27 * i)) inA1 tyX1_ok rfl (fs := [.int 0, .int 0, .int 0, .int 0, .int 0, .int 0, .int 0, .int 0, .null, .null, .int 0, .null, .null]) (by decide +kernel) hx hb hta hown hE.1 q55 qin_1 q35 hz (show 82 + 27 * i + 1 ≤ 192 by omega) (show 5503 + 1833 * i + 13 ≤ 12926 by omega) dX4_init_62 (fun H1 hN z1 o1 => ?_)
        have hO := hO.kept (o1 (b + 0) (by omega))
        have hA := hA.kept (o1 (b + 82) (by omega))
        have hC := hC.kept (fun j h1 h2 => o1 (b + j) (by omega))
        have hC2 := hC2.kept (fun j h1 h2 => o1 (b + j) (by omega))
        have hF : ∀ q, q < b + 0 → H1[q]? = s.heap[q]? := fun q hq => (o1 q (by omega)).trans (hF q hq)
        have hz : H1.size = b + (83 + 27 * i + 1) := by omega
        refine lv_dup hx hb dX4_init_65 rfl ?_
        refine mI (k := 83 + 27 * i) (n := 83 + 27 * i + 27) (rest := [.ref (b + (83 + 27 * i)), .int (nI i), .ref (b + 82)]) (c_X1_init l D t b (83 + 27 * i) (shR_all i hi)) hx hb hml hown hts hE hz hN q57 q58 q35 q59 rfl hs_X1_init ⟨rfl, rfl⟩ ⟨(Nat.le_of_ble_eq_true rfl), (Nat.le_of_ble_eq_true rfl)⟩ rfl hl.1 (Nat.le_of_ble_eq_true rfl) ⟨show 82 + 27 * i + 1 + 26 ≤ 192 by omega, show 5503 + 1833 * i + 13 + 1820 ≤ 12926 by omega⟩ dX4_init_66 (fun H2 L9 hz hC3 o2 hL9 => ?_)
        have hO := hO.kept (o2 (b + 0) (by omega))
        have hA := hA.kept (o2 (b + 82) (by omega))
        have hC := hC.kept (fun j h1 h2 => o2 (b + j) (by omega))
        have hC2 := (hC2.kept (fun j h1 h2 => o2 (b + j) (by omega))).app hC3
        have hF : ∀ q, q < b + 0 → H2[q]? = s.heap[q]? := fun q hq => (o2 q (by omega)).trans (hF q hq)
        have hL := hL_apps hL (fun z h => Nat.le_trans (show b + 0 ≤ b + (83 + 27 * i) by omega) (hL9 z h))
        have hN : va_at D vwCl (b + (83 + 27 * i), .inr (1, fsF b (83 + 27 * i) (s0 (83 + 27 * i)))) H2 := by
          have h9 := hC3 (83 + 27 * i) (Nat.le_refl _) (by omega)
          rw [shR_all i hi] at h9
          exact h9
        refine castq (t0 := 3) (ci := 1) (C := RX1) (T := TX1) (N := 13) (i := nI i) rfl rfl hx hb hE.1 hA hN (vp_in_nI hi (by omega)) dX4_init_69 (fun H3 zz hA z2 o3 hb2 => ?_)
        have hO := hO.kept (o3 (b + 0) (by omega))
        have hC := hC.kept (fun j h1 h2 => o3 (b + j) (by omega))
        have hC2 := hC2.kept (fun j h1 h2 => o3 (b + j) (by omega))
        have hF : ∀ q, q < b + 0 → H3[q]? = s.heap[q]? := fun q hq => (o3 q (by omega)).trans (hF q hq)
        have hL := hL_app hL (show b + 0 ≤ zz.base from Nat.le_trans (show b + 0 ≤ b + 82 by omega) (Nat.le_of_eq hb2.symm))
        have hz : H3.size = b + (83 + 27 * (i + 1)) := by omega
        refine lv_iinc (v := nI (i + 1)) (lv' := [(1, .int (nI (i + 1))), (0, .ref (b + 0))]) hx hb dX4_init_70 hl (k := 0) rfl (nI_1 i) (by decide) rfl (fun ls hl => ?_)
        refine lv_goto (tgt := 52) hx hb dX4_init_73 (by decide) ?_
        refine W.widen (k := 82 + 27 * (i + 1)) (n := 5503 + 1833 * (i + 1)) (by omega) (by omega) ?_
        refine ih (i + 1) _ _ _ (by omega) (by omega) hz hO ?_ hC (by rw [show 83 + 27 * (i + 1) = 83 + 27 * i + 27 by omega]; exact hC2) hF hL hl
        rw [nI_clamp (by omega)] at hA
        rw [show (fun j => if j < i + 1 then some (b + (82 + 1 + 27 * j)) else none) = va_up (fun j => if j < i then some (b + (82 + 1 + 27 * j)) else none) i (some (b + (83 + 27 * i))) from by
          funext j
          unfold va_up
          by_cases q : j = i
          · rw [q, if_pos (by omega), if_pos rfl]
          · rw [if_neg q]
            show _ = (if j < i then _ else _)
            by_cases q2 : j < i
            · rw [if_pos q2, if_pos (by omega)]
            · rw [if_neg q2, if_neg (by omega)]]
        exact hA
  exact key 5 0 _ _ _ (by omega) (by omega) hz hO hA hC CB.nil hF hL (lv_sub hl [0, 1] rfl)


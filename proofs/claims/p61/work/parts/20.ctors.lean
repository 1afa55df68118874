theorem sh_194 : sh 194 = (99, 0) := by decide +kernel
theorem qac_int : Cond.arrayClass .int ∈ ALL := by decide +kernel
theorem qac_char : Cond.arrayClass .char ∈ ALL := by decide +kernel
theorem qac_long : Cond.arrayClass .long ∈ ALL := by decide +kernel
theorem qoi : Cond.code objectInit ⟨#[0xb1]⟩ 1 none ∈ ALL := by decide +kernel
theorem hL_app {lo : Nat} {locs : List Loc} {z : Loc} (h : ∀ x ∈ locs, lo ≤ x.base) (hz : lo ≤ z.base) : ∀ x ∈ locs ++ [z], lo ≤ x.base := fun x hx => (List.mem_append.mp hx).elim (h x) (fun h9 => by rw [List.mem_singleton.mp h9]; exact hz)
theorem hL_apps {lo : Nat} {locs L : List Loc} (h : ∀ x ∈ locs, lo ≤ x.base) (hz : ∀ x ∈ L, lo ≤ x.base) : ∀ x ∈ locs ++ L, lo ≤ x.base := fun x hx => (List.mem_append.mp hx).elim (h x) (hz x)
/-- the state behind the constructors -/
def s0 : Sg := fun k i => if i = 0 ∧ (sh k = (1, 0) ∨ k = 194) then 500 else 0
def s00 : Sg := fun k i => if i = 0 ∧ sh k = (1, 0) then 500 else 0
theorem s0_z {k : Nat} (h : sh k ≠ (1, 0)) (h2 : k ≠ 194) : s0 k = fun _ => 0 := by
  funext i
  unfold s0
  rw [if_neg]
  rintro ⟨-, z | z⟩
  · exact h z
  · exact h2 z
theorem s00_z {k : Nat} (h : sh k ≠ (1, 0)) : s00 k = fun _ => 0 := by
  funext i
  unfold s00
  rw [if_neg]
  rintro ⟨-, z⟩
  exact h z
theorem s0_F {k : Nat} (h : sh k = (1, 0)) : s0 k = fun i => if i = 0 then 500 else 0 := by
  funext i
  unfold s0
  by_cases g : i = 0
  · rw [if_pos ⟨g, Or.inl h⟩, if_pos g]
  · rw [if_neg (fun z => g z.1), if_neg g]
theorem cI {D : va_G} {t : Nat → ClassId} {b n N : Nat} {H : Heap} (h : sh n = (6, N)) (h2 : n ≠ 194) (hA : va_at D vwCl (b + n, .inl (t 0, N, .inl (fun _ => 0))) H) : va_at D vwCl (b + n, ec b t n (s0 n) (sh n)) H := by
  rw [s0_z (by rw [h]; intro z; cases z) h2, h]
  exact hA
theorem cI0 {D : va_G} {t : Nat → ClassId} {b n N : Nat} {H : Heap} (h : sh n = (6, N)) (hA : va_at D vwCl (b + n, .inl (t 0, N, .inl (fun _ => 0))) H) : va_at D vwCl (b + n, ec b t n (s00 n) (sh n)) H := by
  rw [s00_z (by rw [h]; intro z; cases z), h]
  exact hA
theorem cC {D : va_G} {t : Nat → ClassId} {b n N : Nat} {H : Heap} (h : sh n = (7, N)) (hA : va_at D vwCl (b + n, .inl (t 1, N, .inl (fun _ => 0))) H) : va_at D vwCl (b + n, ec b t n (s0 n) (sh n)) H := by
  rw [s0_z (by rw [h]; intro z; cases z) (by rintro rfl; rw [sh_194] at h; cases h), h]
  exact hA
theorem ne194 {k N : Nat} (h : sh k = (6, N)) (hN : N ≠ 1785) : k ≠ 194 := by
  rintro rfl
  rw [sh_194] at h
  cases h
set_option maxHeartbeats 4000000 in
set_option maxRecDepth 100000 in
theorem c_X3_init (l : Launch) (D : va_G) (t : Nat → ClassId) (b : Nat) (k : Nat) (hk : sh k = (3, 0)) : Met l yX3_init (Cond.code yX3_init cX3_init 1 none :: ALL) ({ frames := 1, cells := 1, slots := 16, locals := 12 }) (PC D t b k (.inr (3, [.int 0, .int 0, .int 0, .int 0, .int 0, .int 0, .int 0, .int 0, .int 0, .int 0, .null]))) (QC D t b s0 k (k + 2)) 1 16 (geC (b + k)) := by
  refine Met.ofW (cc := cX3_init) (maxL := 1) (ret := none) (by decide) rfl ?_
  intro p e s m args below meth c s₁ B hml hv
  obtain ⟨rfl, hz, hO, hE⟩ := hv
  have hx := B.exec
  have hb := B.bytes
  have hr := B.returns
  have hts := atoms_spec (ws := Cond.code yX3_init cX3_init 1 none :: ALL) B.pre
  have hta := fun w h => hts w (List.mem_cons_of_mem _ h)
  have hown : s.vm.findClass RX3 = some m.cls := findClass_of_methodNamed B.named
  have hlocks := B.notSynchronized
  have hin : meth.name = "<init>" := (name_of_methodNamed B.named B.method).1
  have hF : ∀ q, q < b + k → s.heap[q]? = s.heap[q]? := fun q _ => rfl
  have hL : ∀ z ∈ ([] : List Loc), b + k ≤ z.base := fun z h => by cases h
  have hl := lv_entry ([.ref (b + k)]) (n := 1) (Nat.le_of_ble_eq_true rfl)
  rw [lg_entry_eq]
  generalize (lg_sl ([.ref (b + k)]) ++ List.replicate (1 - (lg_sl ([.ref (b + k)])).length) Slot.unset).toArray = ls at hl ⊢
  have hl : lv_has ls 1 [(0, .ref (b + k))] := hl
  have hC : CB D t b s0 (k + 1) (k + 1) s.heap := CB.nil
  refine lv_aload_n hx hb dX3_init_0 rfl (lv_at hl 0 rfl) ?_
  refine W.objInit hx hb hown (hta _ q119) (hta _ q53) (hta _ qoi) rfl (by rw [hml]; exact hl.1) rfl dX3_init_1 (Nat.le_of_ble_eq_true rfl) (Nat.le_of_ble_eq_true rfl) ?_
  refine W.eq (g2 := F0 m 4 ls []) rfl ?_
  refine lv_aload_n hx hb dX3_init_4 rfl (lv_at hl 0 rfl) ?_
  refine lv_bipush (v := 16) hx hb dX3_init_5 (by decide) ?_
  refine cnewI (h := b + (k + 1)) (N := 16) hx hb hta hE.1 qac_int (by decide) (by decide +kernel) (by decide) hz (Nat.le_of_ble_eq_true rfl) (Nat.le_of_ble_eq_true rfl) dX3_init_7 (fun H1 hA z1 o1 => ?_)
  have hO := hO.kept (o1 (b + k) (by omega))
  have hF : ∀ q, q < b + k → H1[q]? = s.heap[q]? := fun q hq => (o1 q (by omega)).trans (hF q hq)
  have hC := (hC.kept (fun j h1 h2 => o1 (b + j) (by omega))).snoc (cI (shS_1 hk) (ne194 (shS_1 hk) (by decide)) hA)
  have hz : H1.size = b + (k + 2) := by omega
  refine cputF (ci := 3) (a := b + k) (v := .ref (b + (k + 1))) inA3 tyX3_ok nmX3 rfl hx hb hta hown hE.1 hO 10 (by decide) q144 rfl hin rfl rfl rfl (Nat.le_of_ble_eq_true rfl) dX3_init_9 (fun H2 zz hO z2 o2 hb2 => ?_)
  have hF : ∀ q, q < b + k → H2[q]? = s.heap[q]? := fun q hq => (o2 q (by omega)).trans (hF q hq)
  have hC := hC.kept (fun j h1 h2 => o2 (b + j) (by omega))
  have hz := z2.trans hz
  have hL := hL_app hL (Nat.le_of_eq hb2.symm : b + k ≤ zz.base)
  exact W.vret hx hb hr (fun u hu _ => ⟨rfl, by rw [hu]; exact hz, by rw [hu]; exact (fun j h1 h2 => by
    rcases Nat.lt_or_ge k j with g | g
    · exact hC j g h2
    · rw [show j = k by omega, s0_z (by rw [hk]; intro z; cases z) (by rintro rfl; rw [sh_194] at hk; cases hk), hk]; exact hO), by rw [hu]; exact hF⟩) hL dX3_init_12

set_option maxHeartbeats 4000000 in
set_option maxRecDepth 100000 in
theorem c_X2_init (l : Launch) (D : va_G) (t : Nat → ClassId) (b : Nat) : Met l yX2_init (Cond.code yX2_init cX2_init 1 none :: ALL) ({ frames := 1, cells := 1, slots := 80, locals := 12 }) (PC D t b 191 (.inr (2, [.null, .int 0, .int 0, .int 0, .int 0, .int 0, .int 0, .int 0, .int 0, .int 0, .int 0]))) (QC D t b s0 191 (193)) 1 80 (geC (b + 191)) := by
  refine Met.ofW (cc := cX2_init) (maxL := 1) (ret := none) (by decide) rfl ?_
  intro p e s m args below meth c s₁ B hml hv
  obtain ⟨rfl, hz, hO, hE⟩ := hv
  have hx := B.exec
  have hb := B.bytes
  have hr := B.returns
  have hts := atoms_spec (ws := Cond.code yX2_init cX2_init 1 none :: ALL) B.pre
  have hta := fun w h => hts w (List.mem_cons_of_mem _ h)
  have hown : s.vm.findClass RX2 = some m.cls := findClass_of_methodNamed B.named
  have hlocks := B.notSynchronized
  have hin : meth.name = "<init>" := (name_of_methodNamed B.named B.method).1
  have hF : ∀ q, q < b + 191 → s.heap[q]? = s.heap[q]? := fun q _ => rfl
  have hL : ∀ z ∈ ([] : List Loc), b + 191 ≤ z.base := fun z h => by cases h
  have hl := lv_entry ([.ref (b + 191)]) (n := 1) (Nat.le_of_ble_eq_true rfl)
  rw [lg_entry_eq]
  generalize (lg_sl ([.ref (b + 191)]) ++ List.replicate (1 - (lg_sl ([.ref (b + 191)])).length) Slot.unset).toArray = ls at hl ⊢
  have hl : lv_has ls 1 [(0, .ref (b + 191))] := hl
  have hC : CB D t b s0 (191 + 1) (191 + 1) s.heap := CB.nil
  refine lv_aload_n hx hb dX2_init_0 rfl (lv_at hl 0 rfl) ?_
  refine W.objInit hx hb hown (hta _ q229) (hta _ q53) (hta _ qoi) rfl (by rw [hml]; exact hl.1) rfl dX2_init_1 (Nat.le_of_ble_eq_true rfl) (Nat.le_of_ble_eq_true rfl) ?_
  refine W.eq (g2 := F0 m 4 ls []) rfl ?_
  refine lv_aload_n hx hb dX2_init_4 rfl (lv_at hl 0 rfl) ?_
  refine lv_bipush (v := 80) hx hb dX2_init_5 (by decide) ?_
  refine cnewC (h := b + (191 + 1)) (N := 80) hx hb hta hE.1 qac_char (by decide) (by decide +kernel) (by decide) hz (Nat.le_of_ble_eq_true rfl) (Nat.le_of_ble_eq_true rfl) dX2_init_7 (fun H1 hA z1 o1 => ?_)
  have hO := hO.kept (o1 (b + 191) (by omega))
  have hF : ∀ q, q < b + 191 → H1[q]? = s.heap[q]? := fun q hq => (o1 q (by omega)).trans (hF q hq)
  have hC := (hC.kept (fun j h1 h2 => o1 (b + j) (by omega))).snoc (cC sh_192 hA)
  have hz : H1.size = b + (191 + 2) := by omega
  refine cputF (ci := 2) (a := b + 191) (v := .ref (b + (191 + 1))) inA2 tyX2_ok nmX2 rfl hx hb hta hown hE.1 hO 0 (by decide) q230 rfl hin rfl rfl rfl (Nat.le_of_ble_eq_true rfl) dX2_init_9 (fun H2 zz hO z2 o2 hb2 => ?_)
  have hF : ∀ q, q < b + 191 → H2[q]? = s.heap[q]? := fun q hq => (o2 q (by omega)).trans (hF q hq)
  have hC := hC.kept (fun j h1 h2 => o2 (b + j) (by omega))
  have hz := z2.trans hz
  have hL := hL_app hL (Nat.le_of_eq hb2.symm : b + 191 ≤ zz.base)
  exact W.vret hx hb hr (fun u hu _ => ⟨rfl, by rw [hu]; exact hz, by rw [hu]; exact (fun j h1 h2 => by
    rcases Nat.lt_or_ge 191 j with g | g
    · exact hC j g h2
    · rw [show j = 191 by omega, s0_z (by rw [sh_191]; intro z; cases z) (by decide), sh_191]; exact hO), by rw [hu]; exact hF⟩) hL dX2_init_12

set_option maxHeartbeats 4000000 in
set_option maxRecDepth 100000 in
theorem c_X0_init (l : Launch) (D : va_G) (t : Nat → ClassId) (b : Nat) (k : Nat) (hk : sh k = (2, 0)) : Met l yX0_init (Cond.code yX0_init cX0_init 1 none :: ALL) ({ frames := 1, cells := 8, slots := 1600, locals := 13 }) (PC D t b k (.inr (0, [.int 0, .int 0, .null, .null, .null, .null, .null, .null, .null, .null]))) (QC D t b s0 k (k + 9)) 8 1600 (geC (b + k)) := by
  refine Met.ofW (cc := cX0_init) (maxL := 1) (ret := none) (by decide) rfl ?_
  intro p e s m args below meth c s₁ B hml hv
  obtain ⟨rfl, hz, hO, hE⟩ := hv
  have hx := B.exec
  have hb := B.bytes
  have hr := B.returns
  have hts := atoms_spec (ws := Cond.code yX0_init cX0_init 1 none :: ALL) B.pre
  have hta := fun w h => hts w (List.mem_cons_of_mem _ h)
  have hown : s.vm.findClass RX0 = some m.cls := findClass_of_methodNamed B.named
  have hlocks := B.notSynchronized
  have hin : meth.name = "<init>" := (name_of_methodNamed B.named B.method).1
  have hF : ∀ q, q < b + k → s.heap[q]? = s.heap[q]? := fun q _ => rfl
  have hL : ∀ z ∈ ([] : List Loc), b + k ≤ z.base := fun z h => by cases h
  have hl := lv_entry ([.ref (b + k)]) (n := 1) (Nat.le_of_ble_eq_true rfl)
  rw [lg_entry_eq]
  generalize (lg_sl ([.ref (b + k)]) ++ List.replicate (1 - (lg_sl ([.ref (b + k)])).length) Slot.unset).toArray = ls at hl ⊢
  have hl : lv_has ls 1 [(0, .ref (b + k))] := hl
  have hC : CB D t b s0 (k + 1) (k + 1) s.heap := CB.nil
  refine lv_aload_n hx hb dX0_init_0 rfl (lv_at hl 0 rfl) ?_
  refine W.objInit hx hb hown (hta _ q68) (hta _ q53) (hta _ qoi) rfl (by rw [hml]; exact hl.1) rfl dX0_init_1 (Nat.le_of_ble_eq_true rfl) (Nat.le_of_ble_eq_true rfl) ?_
  refine W.eq (g2 := F0 m 4 ls []) rfl ?_
  refine lv_aload_n hx hb dX0_init_4 rfl (lv_at hl 0 rfl) ?_
  refine lv_sipush (v := 200) hx hb dX0_init_5 (by decide) ?_
  refine cnewI (h := b + (k + 1)) (N := 200) hx hb hta hE.1 qac_int (by decide) (by decide +kernel) (by decide) hz (Nat.le_of_ble_eq_true rfl) (Nat.le_of_ble_eq_true rfl) dX0_init_8 (fun H1 hA z1 o1 => ?_)
  have hO := hO.kept (o1 (b + k) (by omega))
  have hF : ∀ q, q < b + k → H1[q]? = s.heap[q]? := fun q hq => (o1 q (by omega)).trans (hF q hq)
  have hC := (hC.kept (fun j h1 h2 => o1 (b + j) (by omega))).snoc (cI (shC_1 hk) (ne194 (shC_1 hk) (by decide)) hA)
  have hz : H1.size = b + (k + 2) := by omega
  refine cputF (ci := 0) (a := b + k) (v := .ref (b + (k + 1))) inA0 tyX0_ok nmX0 rfl hx hb hta hown hE.1 hO 2 (by decide) q74 rfl hin rfl rfl rfl (Nat.le_of_ble_eq_true rfl) dX0_init_10 (fun H2 zz hO z2 o2 hb2 => ?_)
  have hF : ∀ q, q < b + k → H2[q]? = s.heap[q]? := fun q hq => (o2 q (by omega)).trans (hF q hq)
  have hC := hC.kept (fun j h1 h2 => o2 (b + j) (by omega))
  have hz := z2.trans hz
  have hL := hL_app hL (Nat.le_of_eq hb2.symm : b + k ≤ zz.base)
  refine lv_aload_n hx hb dX0_init_13 rfl (lv_at hl 0 rfl) ?_
  refine lv_sipush (v := 200) hx hb dX0_init_14 (by decide) ?_
  refine cnewI (h := b + (k + 2)) (N := 200) hx hb hta hE.1 qac_int (by decide) (by decide +kernel) (by decide) hz (Nat.le_of_ble_eq_true rfl) (Nat.le_of_ble_eq_true rfl) dX0_init_17 (fun H3 hA z1 o1 => ?_)
  have hO := hO.kept (o1 (b + k) (by omega))
  have hF : ∀ q, q < b + k → H3[q]? = s.heap[q]? := fun q hq => (o1 q (by omega)).trans (hF q hq)
  have hC := (hC.kept (fun j h1 h2 => o1 (b + j) (by omega))).snoc (cI (shC_2 hk) (ne194 (shC_2 hk) (by decide)) hA)
  have hz : H3.size = b + (k + 3) := by omega
  refine cputF (ci := 0) (a := b + k) (v := .ref (b + (k + 2))) inA0 tyX0_ok nmX0 rfl hx hb hta hown hE.1 hO 3 (by decide) q77 rfl hin rfl rfl rfl (Nat.le_of_ble_eq_true rfl) dX0_init_19 (fun H4 zz hO z2 o2 hb2 => ?_)
  have hF : ∀ q, q < b + k → H4[q]? = s.heap[q]? := fun q hq => (o2 q (by omega)).trans (hF q hq)
  have hC := hC.kept (fun j h1 h2 => o2 (b + j) (by omega))
  have hz := z2.trans hz
  have hL := hL_app hL (Nat.le_of_eq hb2.symm : b + k ≤ zz.base)
  refine lv_aload_n hx hb dX0_init_22 rfl (lv_at hl 0 rfl) ?_
  refine lv_sipush (v := 200) hx hb dX0_init_23 (by decide) ?_
  refine cnewI (h := b + (k + 3)) (N := 200) hx hb hta hE.1 qac_int (by decide) (by decide +kernel) (by decide) hz (Nat.le_of_ble_eq_true rfl) (Nat.le_of_ble_eq_true rfl) dX0_init_26 (fun H5 hA z1 o1 => ?_)
  have hO := hO.kept (o1 (b + k) (by omega))
  have hF : ∀ q, q < b + k → H5[q]? = s.heap[q]? := fun q hq => (o1 q (by omega)).trans (hF q hq)
  have hC := (hC.kept (fun j h1 h2 => o1 (b + j) (by omega))).snoc (cI (shC_3 hk) (ne194 (shC_3 hk) (by decide)) hA)
  have hz : H5.size = b + (k + 4) := by omega
  refine cputF (ci := 0) (a := b + k) (v := .ref (b + (k + 3))) inA0 tyX0_ok nmX0 rfl hx hb hta hown hE.1 hO 4 (by decide) q80 rfl hin rfl rfl rfl (Nat.le_of_ble_eq_true rfl) dX0_init_28 (fun H6 zz hO z2 o2 hb2 => ?_)
  have hF : ∀ q, q < b + k → H6[q]? = s.heap[q]? := fun q hq => (o2 q (by omega)).trans (hF q hq)
  have hC := hC.kept (fun j h1 h2 => o2 (b + j) (by omega))
  have hz := z2.trans hz
  have hL := hL_app hL (Nat.le_of_eq hb2.symm : b + k ≤ zz.base)
  refine lv_aload_n hx hb dX0_init_31 rfl (lv_at hl 0 rfl) ?_
  refine lv_sipush (v := 200) hx hb dX0_init_32 (by decide) ?_
  refine cnewI (h := b + (k + 4)) (N := 200) hx hb hta hE.1 qac_int (by decide) (by decide +kernel) (by decide) hz (Nat.le_of_ble_eq_true rfl) (Nat.le_of_ble_eq_true rfl) dX0_init_35 (fun H7 hA z1 o1 => ?_)
  have hO := hO.kept (o1 (b + k) (by omega))
  have hF : ∀ q, q < b + k → H7[q]? = s.heap[q]? := fun q hq => (o1 q (by omega)).trans (hF q hq)
  have hC := (hC.kept (fun j h1 h2 => o1 (b + j) (by omega))).snoc (cI (shC_4 hk) (ne194 (shC_4 hk) (by decide)) hA)
  have hz : H7.size = b + (k + 5) := by omega
  refine cputF (ci := 0) (a := b + k) (v := .ref (b + (k + 4))) inA0 tyX0_ok nmX0 rfl hx hb hta hown hE.1 hO 5 (by decide) q81 rfl hin rfl rfl rfl (Nat.le_of_ble_eq_true rfl) dX0_init_37 (fun H8 zz hO z2 o2 hb2 => ?_)
  have hF : ∀ q, q < b + k → H8[q]? = s.heap[q]? := fun q hq => (o2 q (by omega)).trans (hF q hq)
  have hC := hC.kept (fun j h1 h2 => o2 (b + j) (by omega))
  have hz := z2.trans hz
  have hL := hL_app hL (Nat.le_of_eq hb2.symm : b + k ≤ zz.base)
  refine lv_aload_n hx hb dX0_init_40 rfl (lv_at hl 0 rfl) ?_
  refine lv_sipush (v := 200) hx hb dX0_init_41 (by decide) ?_
  refine cnewI (h := b + (k + 5)) (N := 200) hx hb hta hE.1 qac_int (by decide) (by decide +kernel) (by decide) hz (Nat.le_of_ble_eq_true rfl) (Nat.le_of_ble_eq_true rfl) dX0_init_44 (fun H9 hA z1 o1 => ?_)
  have hO := hO.kept (o1 (b + k) (by omega))
  have hF : ∀ q, q < b + k → H9[q]? = s.heap[q]? := fun q hq => (o1 q (by omega)).trans (hF q hq)
  have hC := (hC.kept (fun j h1 h2 => o1 (b + j) (by omega))).snoc (cI (shC_5 hk) (ne194 (shC_5 hk) (by decide)) hA)
  have hz : H9.size = b + (k + 6) := by omega
  refine cputF (ci := 0) (a := b + k) (v := .ref (b + (k + 5))) inA0 tyX0_ok nmX0 rfl hx hb hta hown hE.1 hO 6 (by decide) q83 rfl hin rfl rfl rfl (Nat.le_of_ble_eq_true rfl) dX0_init_46 (fun H10 zz hO z2 o2 hb2 => ?_)
  have hF : ∀ q, q < b + k → H10[q]? = s.heap[q]? := fun q hq => (o2 q (by omega)).trans (hF q hq)
  have hC := hC.kept (fun j h1 h2 => o2 (b + j) (by omega))
  have hz := z2.trans hz
  have hL := hL_app hL (Nat.le_of_eq hb2.symm : b + k ≤ zz.base)
  refine lv_aload_n hx hb dX0_init_49 rfl (lv_at hl 0 rfl) ?_
  refine lv_sipush (v := 200) hx hb dX0_init_50 (by decide) ?_
  refine cnewI (h := b + (k + 6)) (N := 200) hx hb hta hE.1 qac_int (by decide) (by decide +kernel) (by decide) hz (Nat.le_of_ble_eq_true rfl) (Nat.le_of_ble_eq_true rfl) dX0_init_53 (fun H11 hA z1 o1 => ?_)
  have hO := hO.kept (o1 (b + k) (by omega))
  have hF : ∀ q, q < b + k → H11[q]? = s.heap[q]? := fun q hq => (o1 q (by omega)).trans (hF q hq)
  have hC := (hC.kept (fun j h1 h2 => o1 (b + j) (by omega))).snoc (cI (shC_6 hk) (ne194 (shC_6 hk) (by decide)) hA)
  have hz : H11.size = b + (k + 7) := by omega
  refine cputF (ci := 0) (a := b + k) (v := .ref (b + (k + 6))) inA0 tyX0_ok nmX0 rfl hx hb hta hown hE.1 hO 7 (by decide) q86 rfl hin rfl rfl rfl (Nat.le_of_ble_eq_true rfl) dX0_init_55 (fun H12 zz hO z2 o2 hb2 => ?_)
  have hF : ∀ q, q < b + k → H12[q]? = s.heap[q]? := fun q hq => (o2 q (by omega)).trans (hF q hq)
  have hC := hC.kept (fun j h1 h2 => o2 (b + j) (by omega))
  have hz := z2.trans hz
  have hL := hL_app hL (Nat.le_of_eq hb2.symm : b + k ≤ zz.base)
  refine lv_aload_n hx hb dX0_init_58 rfl (lv_at hl 0 rfl) ?_
  refine lv_sipush (v := 200) hx hb dX0_init_59 (by decide) ?_
  refine cnewI (h := b + (k + 7)) (N := 200) hx hb hta hE.1 qac_int (by decide) (by decide +kernel) (by decide) hz (Nat.le_of_ble_eq_true rfl) (Nat.le_of_ble_eq_true rfl) dX0_init_62 (fun H13 hA z1 o1 => ?_)
  have hO := hO.kept (o1 (b + k) (by omega))
  have hF : ∀ q, q < b + k → H13[q]? = s.heap[q]? := fun q hq => (o1 q (by omega)).trans (hF q hq)
  have hC := (hC.kept (fun j h1 h2 => o1 (b + j) (by omega))).snoc (cI (shC_7 hk) (ne194 (shC_7 hk) (by decide)) hA)
  have hz : H13.size = b + (k + 8) := by omega
  refine cputF (ci := 0) (a := b + k) (v := .ref (b + (k + 7))) inA0 tyX0_ok nmX0 rfl hx hb hta hown hE.1 hO 8 (by decide) q88 rfl hin rfl rfl rfl (Nat.le_of_ble_eq_true rfl) dX0_init_64 (fun H14 zz hO z2 o2 hb2 => ?_)
  have hF : ∀ q, q < b + k → H14[q]? = s.heap[q]? := fun q hq => (o2 q (by omega)).trans (hF q hq)
  have hC := hC.kept (fun j h1 h2 => o2 (b + j) (by omega))
  have hz := z2.trans hz
  have hL := hL_app hL (Nat.le_of_eq hb2.symm : b + k ≤ zz.base)
  refine lv_aload_n hx hb dX0_init_67 rfl (lv_at hl 0 rfl) ?_
  refine lv_sipush (v := 200) hx hb dX0_init_68 (by decide) ?_
  refine cnewI (h := b + (k + 8)) (N := 200) hx hb hta hE.1 qac_int (by decide) (by decide +kernel) (by decide) hz (Nat.le_of_ble_eq_true rfl) (Nat.le_of_ble_eq_true rfl) dX0_init_71 (fun H15 hA z1 o1 => ?_)
  have hO := hO.kept (o1 (b + k) (by omega))
  have hF : ∀ q, q < b + k → H15[q]? = s.heap[q]? := fun q hq => (o1 q (by omega)).trans (hF q hq)
  have hC := (hC.kept (fun j h1 h2 => o1 (b + j) (by omega))).snoc (cI (shC_8 hk) (ne194 (shC_8 hk) (by decide)) hA)
  have hz : H15.size = b + (k + 9) := by omega
  refine cputF (ci := 0) (a := b + k) (v := .ref (b + (k + 8))) inA0 tyX0_ok nmX0 rfl hx hb hta hown hE.1 hO 9 (by decide) q90 rfl hin rfl rfl rfl (Nat.le_of_ble_eq_true rfl) dX0_init_73 (fun H16 zz hO z2 o2 hb2 => ?_)
  have hF : ∀ q, q < b + k → H16[q]? = s.heap[q]? := fun q hq => (o2 q (by omega)).trans (hF q hq)
  have hC := hC.kept (fun j h1 h2 => o2 (b + j) (by omega))
  have hz := z2.trans hz
  have hL := hL_app hL (Nat.le_of_eq hb2.symm : b + k ≤ zz.base)
  exact W.vret hx hb hr (fun u hu _ => ⟨rfl, by rw [hu]; exact hz, by rw [hu]; exact (fun j h1 h2 => by
    rcases Nat.lt_or_ge k j with g | g
    · exact hC j g h2
    · rw [show j = k by omega, s0_z (by rw [hk]; intro z; cases z) (by rintro rfl; rw [sh_194] at hk; cases hk), hk]; exact hO), by rw [hu]; exact hF⟩) hL dX0_init_76


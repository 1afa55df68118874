def l_L_seen_112 : Nat → Sg → Int64 → Int32 → Int32 → Option ((Int64 × Sg) ⊕ (Sg × Int64 × Int32))
  | 0, _, _, _, _ => none
  | n + 1, τ, x1, x3, x4 => if 21 ≤ x4 then (some (.inr (τ, x1, x3))) else (b2 (f_L_call τ x4 x3 0 0 0) fun y23 σ25 => l_L_seen_112 n σ25 (((31 : Int64) * x1) + y23.toInt64) x3 (x4 + 1))
def l_L_seen_146 : Nat → Sg → Int64 → Int32 → Int32 → Option ((Int64 × Sg) ⊕ (Sg × Int64 × Int32))
  | 0, _, _, _, _ => none
  | n + 1, τ, x1, x3, x4 => if 16 ≤ x4 then (some (.inr (τ, x1, x3))) else (bn1 (f_X4_prizesOn τ x3 (x4 / 4) (x4 - x4 / 4 * 4)) fun y27 => l_L_seen_146 n τ (((31 : Int64) * x1) + y27.toInt64) x3 (x4 + 1))
def l_L_seen_100 : Nat → Sg → Int64 → Int32 → Option ((Int64 × Sg) ⊕ (Sg × Int64))
  | 0, _, _, _ => none
  | n + 1, τ, x1, x3 => b1 (f_X4_stalls τ) fun y19 => if y19 ≤ x3 then (some (.inr (τ, x1))) else (bl Sum.inl (l_L_seen_112 10 τ x1 x3 12) fun q112 => bl Sum.inl (l_L_seen_146 17 q112.1 q112.2.1 q112.2.2 0) fun q146 => l_L_seen_100 n q146.1 q146.2.1 (q146.2.2 + 1))
def l_L_seen_200 : Nat → Sg → Int64 → Int32 → Int32 → Option ((Int64 × Sg) ⊕ (Sg × Int64 × Int32))
  | 0, _, _, _, _ => none
  | n + 1, τ, x1, x3, x4 => if 29 ≤ x4 then (some (.inr (τ, x1, x3))) else (b2 (f_L_call τ x4 x3 0 0 0) fun y33 σ35 => l_L_seen_200 n σ35 (((31 : Int64) * x1) + y33.toInt64) x3 (x4 + 1))
def l_L_seen_188 : Nat → Sg → Int64 → Int32 → Option ((Int64 × Sg) ⊕ (Sg × Int64))
  | 0, _, _, _ => none
  | n + 1, τ, x1, x3 => b1 (f_X4_children τ) fun y29 => if y29 ≤ x3 then (some (.inr (τ, x1))) else (bl Sum.inl (l_L_seen_200 8 τ x1 x3 22) fun q200 => l_L_seen_188 n q200.1 q200.2.1 (q200.2.2 + 1))
def l_L_seen_239 : Nat → Sg → Int64 → Int32 → Option ((Int64 × Sg) ⊕ (Sg × Int64))
  | 0, _, _, _ => none
  | n + 1, τ, x1, x3 => if 10 ≤ x3 then (some (.inr (τ, x1))) else (bn1 (f_X4_rainIn τ x3) fun y37 => l_L_seen_239 n τ (((31 : Int64) * x1) + y37.toInt64) (x3 + 1))
def l_L_seen_266 : Nat → Sg → Int64 → Int32 → Option ((Int64 × Sg) ⊕ (Sg × Int64))
  | 0, _, _, _ => none
  | n + 1, τ, x1, x3 => if 4 ≤ x3 then (some (.inr (τ, x1))) else (bn1 (f_X4_wonOf τ x3) fun y40 => l_L_seen_266 n τ (((31 : Int64) * x1) + y40.toInt64) (x3 + 1))
set_option maxRecDepth 100000 in
def f_L_seen (σ : Sg) : Option (Int64 × Sg) := b1 (f_X4_bank σ) fun y1 => b1 (f_X4_town σ) fun y3 => b1 (f_X4_allCoins σ) fun y5 => b1 (f_X4_takings σ) fun y7 => b1 (f_X4_plays σ) fun y9 => b1 (f_X4_day σ) fun y11 => b1 (f_X4_round σ) fun y13 => b1 (f_X4_stalls σ) fun y15 => b1 (f_X4_children σ) fun y17 => bl id (l_L_seen_100 8 σ (((31 : Int64) * (((31 : Int64) * (((31 : Int64) * (((31 : Int64) * (((31 : Int64) * (((31 : Int64) * (((31 : Int64) * (((31 : Int64) * (((31 : Int64) * (3880 : Int64)) + y1.toInt64)) + y3.toInt64)) + y5.toInt64)) + y7.toInt64)) + y9.toInt64)) + y11.toInt64)) + y13.toInt64)) + y15.toInt64)) + y17.toInt64) 0) fun q100 => bl id (l_L_seen_188 201 q100.1 q100.2 0) fun q188 => bl id (l_L_seen_239 11 q188.1 q188.2 0) fun q239 => bl id (l_L_seen_266 5 q239.1 q239.2 0) fun q266 => some (q266.2, q266.1)
set_option maxHeartbeats 8000000 in
set_option maxRecDepth 100000 in
theorem c_L_seen (l : Launch) (hfl : l.stackTraces = false) (D : va_G) (t : Nat → ClassId) (b : Nat) (σ : Sg) (r : Int64) (σr : Sg) (hf : f_L_seen σ = some (r, σr)) : Met l yL_seen (Cond.code yL_seen cL_seen 5 (some .long) :: ALL) ({ frames := 11, cells := 7176, slots := 43056, locals := 208 }) (PM D t b σ [.ref (b + 0)]) (QG D t b σr (some (.long r))) 7176 43056 (geA b) := by
  refine Met.ofW (cc := cL_seen) (maxL := 5) (ret := (some .long)) (by decide) rfl ?_
  intro p e s m args below meth c s₁ B hml hv
  obtain ⟨rfl, hW, hE⟩ := hv
  have hE : EVA D t (geA b) s := hE
  have hsub : ∀ q, geA b q → geA b q := fun _ h => h
  have hx := B.exec
  have hb := B.bytes
  have hr := B.returns
  have hts := atoms_spec (ws := Cond.code yL_seen cL_seen 5 (some .long) :: ALL) B.pre
  have hta := fun w h => hts w (List.mem_cons_of_mem _ h)
  have hown : s.vm.findClass RL = some m.cls := findClass_of_methodNamed B.named
  have hlocks := B.notSynchronized
  have hS : va_S (geA b) s.heap s.heap [] := va_S.rf
  have hl := lv_entry ([.ref (b + 0)]) (n := 5) (Nat.le_of_ble_eq_true rfl)
  rw [lg_entry_eq]
  generalize (lg_sl ([.ref (b + 0)]) ++ List.replicate (5 - (lg_sl ([.ref (b + 0)])).length) Slot.unset).toArray = ls at hl ⊢
  have hl : lv_has ls 5 [(0, .ref (b + 0))] := hl
  unfold f_L_seen at hf
  refine lv_ldc2 hx hb hown (hta _ q943) dL_seen_0 ?_
  refine lv_lstore_n (lv' := [(1, .long (3880 : Int64)), (0, .ref (b + 0))]) hx hb dL_seen_3 rfl hl (by decide) rfl (fun ls hl => ?_)
  refine lv_ldc2 hx hb hown (hta _ q944) dL_seen_4 ?_
  refine lv_ldc2 hx hb hown (hta _ q944) dL_seen_7 ?_
  refine lv_ldc2 hx hb hown (hta _ q944) dL_seen_10 ?_
  refine lv_ldc2 hx hb hown (hta _ q944) dL_seen_13 ?_
  refine lv_ldc2 hx hb hown (hta _ q944) dL_seen_16 ?_
  refine lv_lload_n hx hb dL_seen_19 rfl (lv_at hl 0 rfl) ?_
  refine lv_lmul hx hb dL_seen_20 ?_
  refine lv_aload_n hx hb dL_seen_21 rfl (lv_at hl 1 rfl) ?_
  obtain ⟨y1, u2, hf⟩ := b1_e hf
  refine lV12 (n := 0) (As := []) (rest := [.long ((31 : Int64) * (3880 : Int64)), .long (31 : Int64), .long (31 : Int64), .long (31 : Int64), .long (31 : Int64)]) (c_X4_bank l D t b σ y1 u2) hx hb hml hown hts hE hsub hW hS q945 q946 q947 q34 q948 hy_X4_bank ⟨rfl, rfl⟩ ⟨Nat.le_of_ble_eq_true rfl, Nat.le_of_ble_eq_true rfl⟩ rfl rfl hl.1 (Nat.le_of_ble_eq_true rfl) ⟨show 0 ≤ 7176 by omega, show 0 ≤ 43056 by omega⟩ dL_seen_22 (fun H locs hW hS _ => ?_)
  refine lv_i2l hx hb dL_seen_25 rfl ?_
  refine lv_ladd hx hb dL_seen_26 ?_
  refine lv_lmul hx hb dL_seen_27 ?_
  refine lv_aload_n hx hb dL_seen_28 rfl (lv_at hl 1 rfl) ?_
  obtain ⟨y3, u4, hf⟩ := b1_e hf
  refine lV (n := 0) (As := []) (rest := [.long ((31 : Int64) * (((31 : Int64) * (3880 : Int64)) + y1.toInt64)), .long (31 : Int64), .long (31 : Int64), .long (31 : Int64)]) (c_X4_town l D t b σ y3 u4) hx hb hml hown hts hE hsub hW hS q949 q950 q951 q34 q952 hy_X4_town ⟨rfl, rfl⟩ ⟨Nat.le_of_ble_eq_true rfl, Nat.le_of_ble_eq_true rfl⟩ rfl rfl hl.1 (Nat.le_of_ble_eq_true rfl) ⟨show 0 ≤ 7176 by omega, show 0 ≤ 43056 by omega⟩ dL_seen_29 (fun H locs hW hS _ => ?_)
  refine lv_i2l hx hb dL_seen_32 rfl ?_
  refine lv_ladd hx hb dL_seen_33 ?_
  refine lv_lmul hx hb dL_seen_34 ?_
  refine lv_aload_n hx hb dL_seen_35 rfl (lv_at hl 1 rfl) ?_
  obtain ⟨y5, u6, hf⟩ := b1_e hf
  refine lV (n := 0) (As := []) (rest := [.long ((31 : Int64) * (((31 : Int64) * (((31 : Int64) * (3880 : Int64)) + y1.toInt64)) + y3.toInt64)), .long (31 : Int64), .long (31 : Int64)]) (c_X4_allCoins l D t b σ y5 u6) hx hb hml hown hts hE hsub hW hS q953 q954 q955 q34 q956 hy_X4_allCoins ⟨rfl, rfl⟩ ⟨Nat.le_of_ble_eq_true rfl, Nat.le_of_ble_eq_true rfl⟩ rfl rfl hl.1 (Nat.le_of_ble_eq_true rfl) ⟨show 0 ≤ 7176 by omega, show 0 ≤ 43056 by omega⟩ dL_seen_36 (fun H locs hW hS _ => ?_)
  refine lv_i2l hx hb dL_seen_39 rfl ?_
  refine lv_ladd hx hb dL_seen_40 ?_
  refine lv_lmul hx hb dL_seen_41 ?_
  refine lv_aload_n hx hb dL_seen_42 rfl (lv_at hl 1 rfl) ?_
  obtain ⟨y7, u8, hf⟩ := b1_e hf
  refine lV (n := 0) (As := []) (rest := [.long ((31 : Int64) * (((31 : Int64) * (((31 : Int64) * (((31 : Int64) * (3880 : Int64)) + y1.toInt64)) + y3.toInt64)) + y5.toInt64)), .long (31 : Int64)]) (c_X4_takings l D t b σ y7 u8) hx hb hml hown hts hE hsub hW hS q957 q958 q959 q34 q960 hy_X4_takings ⟨rfl, rfl⟩ ⟨Nat.le_of_ble_eq_true rfl, Nat.le_of_ble_eq_true rfl⟩ rfl rfl hl.1 (Nat.le_of_ble_eq_true rfl) ⟨show 0 ≤ 7176 by omega, show 0 ≤ 43056 by omega⟩ dL_seen_43 (fun H locs hW hS _ => ?_)
  refine lv_i2l hx hb dL_seen_46 rfl ?_
  refine lv_ladd hx hb dL_seen_47 ?_
  refine lv_lmul hx hb dL_seen_48 ?_
  refine lv_aload_n hx hb dL_seen_49 rfl (lv_at hl 1 rfl) ?_
  obtain ⟨y9, u10, hf⟩ := b1_e hf
  refine lV (n := 0) (As := []) (rest := [.long ((31 : Int64) * (((31 : Int64) * (((31 : Int64) * (((31 : Int64) * (((31 : Int64) * (3880 : Int64)) + y1.toInt64)) + y3.toInt64)) + y5.toInt64)) + y7.toInt64))]) (c_X4_plays l D t b σ y9 u10) hx hb hml hown hts hE hsub hW hS q961 q962 q963 q34 q964 hy_X4_plays ⟨rfl, rfl⟩ ⟨Nat.le_of_ble_eq_true rfl, Nat.le_of_ble_eq_true rfl⟩ rfl rfl hl.1 (Nat.le_of_ble_eq_true rfl) ⟨show 0 ≤ 7176 by omega, show 0 ≤ 43056 by omega⟩ dL_seen_50 (fun H locs hW hS _ => ?_)
  refine lv_i2l hx hb dL_seen_53 rfl ?_
  refine lv_ladd hx hb dL_seen_54 ?_
  refine lv_lstore_n (lv' := [(1, .long (((31 : Int64) * (((31 : Int64) * (((31 : Int64) * (((31 : Int64) * (((31 : Int64) * (3880 : Int64)) + y1.toInt64)) + y3.toInt64)) + y5.toInt64)) + y7.toInt64)) + y9.toInt64)), (0, .ref (b + 0))]) hx hb dL_seen_55 rfl hl (by decide) rfl (fun ls hl => ?_)
  refine lv_ldc2 hx hb hown (hta _ q944) dL_seen_56 ?_
  refine lv_ldc2 hx hb hown (hta _ q944) dL_seen_59 ?_
  refine lv_ldc2 hx hb hown (hta _ q944) dL_seen_62 ?_
  refine lv_ldc2 hx hb hown (hta _ q944) dL_seen_65 ?_
  refine lv_lload_n hx hb dL_seen_68 rfl (lv_at hl 0 rfl) ?_
  refine lv_lmul hx hb dL_seen_69 ?_
  refine lv_aload_n hx hb dL_seen_70 rfl (lv_at hl 1 rfl) ?_
  obtain ⟨y11, u12, hf⟩ := b1_e hf
  refine lV (n := 0) (As := []) (rest := [.long ((31 : Int64) * (((31 : Int64) * (((31 : Int64) * (((31 : Int64) * (((31 : Int64) * (((31 : Int64) * (3880 : Int64)) + y1.toInt64)) + y3.toInt64)) + y5.toInt64)) + y7.toInt64)) + y9.toInt64)), .long (31 : Int64), .long (31 : Int64), .long (31 : Int64)]) (c_X4_day l D t b σ y11 u12) hx hb hml hown hts hE hsub hW hS q965 q966 q967 q34 q968 hy_X4_day ⟨rfl, rfl⟩ ⟨Nat.le_of_ble_eq_true rfl, Nat.le_of_ble_eq_true rfl⟩ rfl rfl hl.1 (Nat.le_of_ble_eq_true rfl) ⟨show 0 ≤ 7176 by omega, show 0 ≤ 43056 by omega⟩ dL_seen_71 (fun H locs hW hS _ => ?_)
  refine lv_i2l hx hb dL_seen_74 rfl ?_
  refine lv_ladd hx hb dL_seen_75 ?_
  refine lv_lmul hx hb dL_seen_76 ?_
  refine lv_aload_n hx hb dL_seen_77 rfl (lv_at hl 1 rfl) ?_
  obtain ⟨y13, u14, hf⟩ := b1_e hf
  refine lV (n := 0) (As := []) (rest := [.long ((31 : Int64) * (((31 : Int64) * (((31 : Int64) * (((31 : Int64) * (((31 : Int64) * (((31 : Int64) * (((31 : Int64) * (3880 : Int64)) + y1.toInt64)) + y3.toInt64)) + y5.toInt64)) + y7.toInt64)) + y9.toInt64)) + y11.toInt64)), .long (31 : Int64), .long (31 : Int64)]) (c_X4_round l D t b σ y13 u14) hx hb hml hown hts hE hsub hW hS q969 q970 q971 q34 q972 hy_X4_round ⟨rfl, rfl⟩ ⟨Nat.le_of_ble_eq_true rfl, Nat.le_of_ble_eq_true rfl⟩ rfl rfl hl.1 (Nat.le_of_ble_eq_true rfl) ⟨show 0 ≤ 7176 by omega, show 0 ≤ 43056 by omega⟩ dL_seen_78 (fun H locs hW hS _ => ?_)
  refine lv_i2l hx hb dL_seen_81 rfl ?_
  refine lv_ladd hx hb dL_seen_82 ?_
  refine lv_lmul hx hb dL_seen_83 ?_
  refine lv_aload_n hx hb dL_seen_84 rfl (lv_at hl 1 rfl) ?_
  obtain ⟨y15, u16, hf⟩ := b1_e hf
  refine lV (n := 0) (As := []) (rest := [.long ((31 : Int64) * (((31 : Int64) * (((31 : Int64) * (((31 : Int64) * (((31 : Int64) * (((31 : Int64) * (((31 : Int64) * (((31 : Int64) * (3880 : Int64)) + y1.toInt64)) + y3.toInt64)) + y5.toInt64)) + y7.toInt64)) + y9.toInt64)) + y11.toInt64)) + y13.toInt64)), .long (31 : Int64)]) (c_X4_stalls l D t b σ y15 u16) hx hb hml hown hts hE hsub hW hS q973 q974 q975 q34 q976 hy_X4_stalls ⟨rfl, rfl⟩ ⟨Nat.le_of_ble_eq_true rfl, Nat.le_of_ble_eq_true rfl⟩ rfl rfl hl.1 (Nat.le_of_ble_eq_true rfl) ⟨show 0 ≤ 7176 by omega, show 0 ≤ 43056 by omega⟩ dL_seen_85 (fun H locs hW hS _ => ?_)
  refine lv_i2l hx hb dL_seen_88 rfl ?_
  refine lv_ladd hx hb dL_seen_89 ?_
  refine lv_lmul hx hb dL_seen_90 ?_
  refine lv_aload_n hx hb dL_seen_91 rfl (lv_at hl 1 rfl) ?_
  obtain ⟨y17, u18, hf⟩ := b1_e hf
  refine lV (n := 0) (As := []) (rest := [.long ((31 : Int64) * (((31 : Int64) * (((31 : Int64) * (((31 : Int64) * (((31 : Int64) * (((31 : Int64) * (((31 : Int64) * (((31 : Int64) * (((31 : Int64) * (3880 : Int64)) + y1.toInt64)) + y3.toInt64)) + y5.toInt64)) + y7.toInt64)) + y9.toInt64)) + y11.toInt64)) + y13.toInt64)) + y15.toInt64))]) (c_X4_children l D t b σ y17 u18) hx hb hml hown hts hE hsub hW hS q977 q978 q979 q34 q980 hy_X4_children ⟨rfl, rfl⟩ ⟨Nat.le_of_ble_eq_true rfl, Nat.le_of_ble_eq_true rfl⟩ rfl rfl hl.1 (Nat.le_of_ble_eq_true rfl) ⟨show 0 ≤ 7176 by omega, show 0 ≤ 43056 by omega⟩ dL_seen_92 (fun H locs hW hS _ => ?_)
  refine lv_i2l hx hb dL_seen_95 rfl ?_
  refine lv_ladd hx hb dL_seen_96 ?_
  refine lv_lstore_n (lv' := [(1, .long (((31 : Int64) * (((31 : Int64) * (((31 : Int64) * (((31 : Int64) * (((31 : Int64) * (((31 : Int64) * (((31 : Int64) * (((31 : Int64) * (((31 : Int64) * (3880 : Int64)) + y1.toInt64)) + y3.toInt64)) + y5.toInt64)) + y7.toInt64)) + y9.toInt64)) + y11.toInt64)) + y13.toInt64)) + y15.toInt64)) + y17.toInt64)), (0, .ref (b + 0))]) hx hb dL_seen_97 rfl hl (by decide) rfl (fun ls hl => ?_)
  refine lv_iconst (v := 0) hx hb dL_seen_98 (by decide) ?_
  refine lv_istore_n (lv' := [(3, .int 0), (1, .long (((31 : Int64) * (((31 : Int64) * (((31 : Int64) * (((31 : Int64) * (((31 : Int64) * (((31 : Int64) * (((31 : Int64) * (((31 : Int64) * (((31 : Int64) * (3880 : Int64)) + y1.toInt64)) + y3.toInt64)) + y5.toInt64)) + y7.toInt64)) + y9.toInt64)) + y11.toInt64)) + y13.toInt64)) + y15.toInt64)) + y17.toInt64)), (0, .ref (b + 0))]) hx hb dL_seen_99 rfl hl (by decide) rfl (fun ls hl => ?_)
  obtain ⟨res, hl0, hA, hB⟩ := bl_e hf
  have key_100 : ∀ (n : Nat) (τ : Sg) (x1 : Int64) (x3 : Int32) (cl sl ce se : Nat) (H : Heap) (locs : List Loc) (ls : Array Slot) (res : (Int64 × Sg) ⊕ (Sg × Int64)), l_L_seen_100 n τ x1 x3 = some res → cl + 91 * n = ce → sl + 546 * n = se → ce ≤ 7176 → se ≤ 43056 → (∀ a, res = .inl a → a = (r, σr)) → (∀ q100, res = .inr q100 → ∀ (H : Heap) (locs : List Loc) (ls : Array Slot), wd D t b q100.1 H → va_S (geA b) s.heap H locs → lv_has ls 5 [(0, .ref (b + 0)), (1, .long q100.2)] → W p l e (headSpec (Cond.code yL_seen cL_seen 5 (some .long) :: ALL) ({ frames := 11, cells := 7176, slots := 43056, locals := 208 })).room s m (([.ref (b + 0)] : List Value).toArray) below meth c H locs ce se (MQ below (QG D t b σr (some (.long r))) (([.ref (b + 0)] : List Value).toArray) s 7176 43056 (geA b)) (F0 m 186 ls [])) → wd D t b τ H → va_S (geA b) s.heap H locs → lv_has ls 5 [(0, .ref (b + 0)), (1, .long x1), (3, .int x3)] → W p l e (headSpec (Cond.code yL_seen cL_seen 5 (some .long) :: ALL) ({ frames := 11, cells := 7176, slots := 43056, locals := 208 })).room s m (([.ref (b + 0)] : List Value).toArray) below meth c H locs cl sl (MQ below (QG D t b σr (some (.long r))) (([.ref (b + 0)] : List Value).toArray) s 7176 43056 (geA b)) (F0 m 100 ls []) := by
    intro n
    induction n with
    | zero =>
      intro τ x1 x3 cl sl ce se H locs ls res hf
      rw [l_L_seen_100.eq_1] at hf
      cases hf
    | succ n ih_100 =>
      intro τ x1 x3 cl sl ce se H locs ls res hf hce hse hcm hsm kx kk hW hS hl
      rw [l_L_seen_100.eq_2] at hf
      refine lv_iload_n hx hb dL_seen_100 rfl (lv_at hl 2 rfl) ?_
      refine lv_aload_n hx hb dL_seen_101 rfl (lv_at hl 0 rfl) ?_
      obtain ⟨y19, u20, hf⟩ := b1_e hf
      refine lV (n := 0) (As := []) (rest := [.int x3]) (c_X4_stalls l D t b τ y19 u20) hx hb hml hown hts hE hsub hW hS q973 q974 q975 q34 q976 hy_X4_stalls ⟨rfl, rfl⟩ ⟨Nat.le_of_ble_eq_true rfl, Nat.le_of_ble_eq_true rfl⟩ rfl rfl hl.1 (Nat.le_of_ble_eq_true rfl) ⟨show cl + 0 ≤ 7176 by omega, show sl + 0 ≤ 43056 by omega⟩ dL_seen_102 (fun H locs hW hS _ => ?_)
      refine lv_icmp_ge (tgt := 186) hx hb dL_seen_105 (by decide) (fun h21 => ?_) (fun h21 => ?_)
      · have hf := ifp h21 hf
        cases hf
        refine W.widen (k := ce) (n := se) (by omega) (by omega) ?_
        exact kk _ rfl _ _ _ hW hS (lv_sub hl [0, 1] rfl)
      · have hf := ifn h21 hf
        refine lv_bipush (v := 12) hx hb dL_seen_108 (by decide) ?_
        refine lv_istore (lv' := [(4, .int 12), (0, .ref (b + 0)), (1, .long x1), (3, .int x3)]) hx hb dL_seen_110 hl (by decide) rfl (fun ls hl => ?_)
        obtain ⟨res, hl0, hA, hB⟩ := bl_e hf
        have key_112 : ∀ (n : Nat) (τ : Sg) (x1 : Int64) (x3 : Int32) (x4 : Int32) (cl sl ce se : Nat) (H : Heap) (locs : List Loc) (ls : Array Slot) (res : (Int64 × Sg) ⊕ (Sg × Int64 × Int32)), l_L_seen_112 n τ x1 x3 x4 = some res → cl + 4 * n = ce → sl + 24 * n = se → ce ≤ 7176 → se ≤ 43056 → (∀ a, res = .inl a → a = (r, σr)) → (∀ q112, res = .inr q112 → ∀ (H : Heap) (locs : List Loc) (ls : Array Slot), wd D t b q112.1 H → va_S (geA b) s.heap H locs → lv_has ls 5 [(0, .ref (b + 0)), (1, .long q112.2.1), (3, .int q112.2.2)] → W p l e (headSpec (Cond.code yL_seen cL_seen 5 (some .long) :: ALL) ({ frames := 11, cells := 7176, slots := 43056, locals := 208 })).room s m (([.ref (b + 0)] : List Value).toArray) below meth c H locs ce se (MQ below (QG D t b σr (some (.long r))) (([.ref (b + 0)] : List Value).toArray) s 7176 43056 (geA b)) (F0 m 143 ls [])) → wd D t b τ H → va_S (geA b) s.heap H locs → lv_has ls 5 [(0, .ref (b + 0)), (1, .long x1), (3, .int x3), (4, .int x4)] → W p l e (headSpec (Cond.code yL_seen cL_seen 5 (some .long) :: ALL) ({ frames := 11, cells := 7176, slots := 43056, locals := 208 })).room s m (([.ref (b + 0)] : List Value).toArray) below meth c H locs cl sl (MQ below (QG D t b σr (some (.long r))) (([.ref (b + 0)] : List Value).toArray) s 7176 43056 (geA b)) (F0 m 112 ls []) := by
          intro n
          induction n with
          | zero =>
            intro τ x1 x3 x4 cl sl ce se H locs ls res hf
            rw [l_L_seen_112.eq_1] at hf
            cases hf
          | succ n ih_112 =>
            intro τ x1 x3 x4 cl sl ce se H locs ls res hf hce hse hcm hsm kx kk hW hS hl
            rw [l_L_seen_112.eq_2] at hf
            refine lv_iload hx hb dL_seen_112 (lv_at hl 3 rfl) ?_
            refine lv_bipush (v := 21) hx hb dL_seen_114 (by decide) ?_
            refine lv_icmp_ge (tgt := 143) hx hb dL_seen_116 (by decide) (fun h22 => ?_) (fun h22 => ?_)
            · have hf := ifp h22 hf
              cases hf
              refine W.widen (k := ce) (n := se) (by omega) (by omega) ?_
              exact kk _ rfl _ _ _ hW hS (lv_sub hl [0, 1, 2] rfl)
            · have hf := ifn h22 hf
              refine lv_ldc2 hx hb hown (hta _ q944) dL_seen_119 ?_
              refine lv_lload_n hx hb dL_seen_122 rfl (lv_at hl 1 rfl) ?_
              refine lv_lmul hx hb dL_seen_123 ?_
              refine lv_aload_n hx hb dL_seen_124 rfl (lv_at hl 0 rfl) ?_
              refine lv_iload hx hb dL_seen_125 (lv_at hl 3 rfl) ?_
              refine lv_iload_n hx hb dL_seen_127 rfl (lv_at hl 2 rfl) ?_
              refine lv_iconst (v := 0) hx hb dL_seen_128 (by decide) ?_
              refine lv_iconst (v := 0) hx hb dL_seen_129 (by decide) ?_
              refine lv_iconst (v := 0) hx hb dL_seen_130 (by decide) ?_
              obtain ⟨y23, σ25, u24, hf⟩ := b2_e hf
              refine lSW (n := 6) (As := [.ref (b + 0), .int x4, .int x3, .int 0, .int 0, .int 0]) (rest := [.long ((31 : Int64) * x1)]) (c_L_call l hfl D t b τ x4 x3 0 0 0 y23 σ25 u24) hx hb hml hown hts hE hsub hW hS q573 q574 q33  qw_L_call hs_L_call ⟨rfl, rfl⟩ ⟨Nat.le_of_ble_eq_true rfl, Nat.le_of_ble_eq_true rfl⟩ rfl rfl hl.1 (Nat.le_of_ble_eq_true rfl) ⟨show cl + 0 + 4 ≤ 7176 by omega, show sl + 0 + 24 ≤ 43056 by omega⟩ dL_seen_131 (fun H locs hW hS _ => ?_)
              refine W.widen (k := cl + 4) (n := sl + 24) (by omega) (by omega) ?_
              refine lv_i2l hx hb dL_seen_134 rfl ?_
              refine lv_ladd hx hb dL_seen_135 ?_
              refine lv_lstore_n (lv' := [(1, .long (((31 : Int64) * x1) + y23.toInt64)), (0, .ref (b + 0)), (3, .int x3), (4, .int x4)]) hx hb dL_seen_136 rfl hl (by decide) rfl (fun ls hl => ?_)
              refine lv_iinc (v := (x4 + 1)) (lv' := [(4, .int (x4 + 1)), (1, .long (((31 : Int64) * x1) + y23.toInt64)), (0, .ref (b + 0)), (3, .int x3)]) hx hb dL_seen_137 hl (k := 3) rfl (by rfl) (by decide) rfl (fun ls hl => ?_)
              refine lv_goto (tgt := 112) hx hb dL_seen_140 (by decide) ?_
              refine W.widen (k := cl + 4) (n := sl + 24) (by omega) (by omega) ?_
              exact ih_112 σ25 (((31 : Int64) * x1) + y23.toInt64) x3 (x4 + 1) (cl + 4) (sl + 24) ce se _ _ _ _ hf (by omega) (by omega) hcm hsm kx kk hW hS (lv_sub hl [2, 1, 3, 0] rfl)
        refine key_112 10 τ x1 x3 12 (cl + 0) (sl + 0) (cl + 40) (sl + 240) _ _ _ res hl0 (by omega) (by omega) (show cl + 40 ≤ 7176 by omega) (show sl + 240 ≤ 43056 by omega) (fun a h => kx a (hA a h).symm) (fun q112 hq H locs ls hW hS hl => ?_) hW hS (lv_sub hl [1, 2, 3, 0] rfl)
        have hf := hB _ hq
        refine lv_iconst (v := 0) hx hb dL_seen_143 (by decide) ?_
        refine lv_istore (lv' := [(4, .int 0), (0, .ref (b + 0)), (1, .long q112.2.1), (3, .int q112.2.2)]) hx hb dL_seen_144 hl (by decide) rfl (fun ls hl => ?_)
        obtain ⟨res, hl0, hA, hB⟩ := bl_e hf
        have key_146 : ∀ (n : Nat) (τ : Sg) (x1 : Int64) (x3 : Int32) (x4 : Int32) (cl sl ce se : Nat) (H : Heap) (locs : List Loc) (ls : Array Slot) (res : (Int64 × Sg) ⊕ (Sg × Int64 × Int32)), l_L_seen_146 n τ x1 x3 x4 = some res → cl + 3 * n = ce → sl + 18 * n = se → ce ≤ 7176 → se ≤ 43056 → (∀ a, res = .inl a → a = (r, σr)) → (∀ q146, res = .inr q146 → ∀ (H : Heap) (locs : List Loc) (ls : Array Slot), wd D t b q146.1 H → va_S (geA b) s.heap H locs → lv_has ls 5 [(0, .ref (b + 0)), (1, .long q146.2.1), (3, .int q146.2.2)] → W p l e (headSpec (Cond.code yL_seen cL_seen 5 (some .long) :: ALL) ({ frames := 11, cells := 7176, slots := 43056, locals := 208 })).room s m (([.ref (b + 0)] : List Value).toArray) below meth c H locs ce se (MQ below (QG D t b σr (some (.long r))) (([.ref (b + 0)] : List Value).toArray) s 7176 43056 (geA b)) (F0 m 180 ls [])) → wd D t b τ H → va_S (geA b) s.heap H locs → lv_has ls 5 [(0, .ref (b + 0)), (1, .long x1), (3, .int x3), (4, .int x4)] → W p l e (headSpec (Cond.code yL_seen cL_seen 5 (some .long) :: ALL) ({ frames := 11, cells := 7176, slots := 43056, locals := 208 })).room s m (([.ref (b + 0)] : List Value).toArray) below meth c H locs cl sl (MQ below (QG D t b σr (some (.long r))) (([.ref (b + 0)] : List Value).toArray) s 7176 43056 (geA b)) (F0 m 146 ls []) := by
          intro n
          induction n with
          | zero =>
            intro τ x1 x3 x4 cl sl ce se H locs ls res hf
            rw [l_L_seen_146.eq_1] at hf
            cases hf
          | succ n ih_146 =>
            intro τ x1 x3 x4 cl sl ce se H locs ls res hf hce hse hcm hsm kx kk hW hS hl
            rw [l_L_seen_146.eq_2] at hf
            refine lv_iload hx hb dL_seen_146 (lv_at hl 3 rfl) ?_
            refine lv_bipush (v := 16) hx hb dL_seen_148 (by decide) ?_
            refine lv_icmp_ge (tgt := 180) hx hb dL_seen_150 (by decide) (fun h26 => ?_) (fun h26 => ?_)
            · have hf := ifp h26 hf
              cases hf
              refine W.widen (k := ce) (n := se) (by omega) (by omega) ?_
              exact kk _ rfl _ _ _ hW hS (lv_sub hl [0, 1, 2] rfl)
            · have hf := ifn h26 hf
              refine lv_ldc2 hx hb hown (hta _ q944) dL_seen_153 ?_
              refine lv_lload_n hx hb dL_seen_156 rfl (lv_at hl 1 rfl) ?_
              refine lv_lmul hx hb dL_seen_157 ?_
              refine lv_aload_n hx hb dL_seen_158 rfl (lv_at hl 0 rfl) ?_
              refine lv_iload_n hx hb dL_seen_159 rfl (lv_at hl 2 rfl) ?_
              refine lv_iload hx hb dL_seen_160 (lv_at hl 3 rfl) ?_
              refine lv_iconst (v := 4) hx hb dL_seen_162 (by decide) ?_
              refine lv_idiv hx hb dL_seen_163 (by decide) ?_
              refine lv_iload hx hb dL_seen_164 (lv_at hl 3 rfl) ?_
              refine lv_iconst (v := 4) hx hb dL_seen_166 (by decide) ?_
              refine lv_irem hx hb dL_seen_167 (by decide) ?_
              obtain ⟨y27, u28, hf⟩ := bn1_e hf
              refine lVXn (n := 3) (As := [.int x3, .int (x4 / 4), .int (x4 - x4 / 4 * 4)]) (rest := [.long ((31 : Int64) * x1)]) (c_X4_prizesOn l hfl D t b τ x3 (x4 / 4) (x4 - x4 / 4 * 4) (.inr y27) u28) hx hb hml hown hts hE hsub hW hS q759 q760 q761 q34 q762 hy_X4_prizesOn ⟨rfl, rfl⟩ ⟨Nat.le_of_ble_eq_true rfl, Nat.le_of_ble_eq_true rfl⟩ rfl rfl hl.1 (Nat.le_of_ble_eq_true rfl) ⟨show cl + 0 + 3 ≤ 7176 by omega, show sl + 0 + 18 ≤ 43056 by omega⟩ dL_seen_168 (fun H locs hW hS _ => ?_)
              refine W.widen (k := cl + 3) (n := sl + 18) (by omega) (by omega) ?_
              refine lv_i2l hx hb dL_seen_171 rfl ?_
              refine lv_ladd hx hb dL_seen_172 ?_
              refine lv_lstore_n (lv' := [(1, .long (((31 : Int64) * x1) + y27.toInt64)), (0, .ref (b + 0)), (3, .int x3), (4, .int x4)]) hx hb dL_seen_173 rfl hl (by decide) rfl (fun ls hl => ?_)
              refine lv_iinc (v := (x4 + 1)) (lv' := [(4, .int (x4 + 1)), (1, .long (((31 : Int64) * x1) + y27.toInt64)), (0, .ref (b + 0)), (3, .int x3)]) hx hb dL_seen_174 hl (k := 3) rfl (by rfl) (by decide) rfl (fun ls hl => ?_)
              refine lv_goto (tgt := 146) hx hb dL_seen_177 (by decide) ?_
              refine W.widen (k := cl + 3) (n := sl + 18) (by omega) (by omega) ?_
              exact ih_146 τ (((31 : Int64) * x1) + y27.toInt64) x3 (x4 + 1) (cl + 3) (sl + 18) ce se _ _ _ _ hf (by omega) (by omega) hcm hsm kx kk hW hS (lv_sub hl [2, 1, 3, 0] rfl)
        refine key_146 17 q112.1 q112.2.1 q112.2.2 0 (cl + 40) (sl + 240) (cl + 91) (sl + 546) _ _ _ res hl0 (by omega) (by omega) (show cl + 91 ≤ 7176 by omega) (show sl + 546 ≤ 43056 by omega) (fun a h => kx a (hA a h).symm) (fun q146 hq H locs ls hW hS hl => ?_) hW hS (lv_sub hl [1, 2, 3, 0] rfl)
        have hf := hB _ hq
        refine lv_iinc (v := (q146.2.2 + 1)) (lv' := [(3, .int (q146.2.2 + 1)), (0, .ref (b + 0)), (1, .long q146.2.1)]) hx hb dL_seen_180 hl (k := 2) rfl (by rfl) (by decide) rfl (fun ls hl => ?_)
        refine lv_goto (tgt := 100) hx hb dL_seen_183 (by decide) ?_
        refine W.widen (k := cl + 91) (n := sl + 546) (by omega) (by omega) ?_
        exact ih_100 q146.1 q146.2.1 (q146.2.2 + 1) (cl + 91) (sl + 546) ce se _ _ _ _ hf (by omega) (by omega) hcm hsm kx kk hW hS (lv_sub hl [1, 2, 0] rfl)
  refine key_100 8 σ (((31 : Int64) * (((31 : Int64) * (((31 : Int64) * (((31 : Int64) * (((31 : Int64) * (((31 : Int64) * (((31 : Int64) * (((31 : Int64) * (((31 : Int64) * (3880 : Int64)) + y1.toInt64)) + y3.toInt64)) + y5.toInt64)) + y7.toInt64)) + y9.toInt64)) + y11.toInt64)) + y13.toInt64)) + y15.toInt64)) + y17.toInt64) 0 (0) (0) (728) (4368) _ _ _ res hl0 (by omega) (by omega) (show 728 ≤ 7176 by omega) (show 4368 ≤ 43056 by omega) (fun a h => hA a h) (fun q100 hq H locs ls hW hS hl => ?_) hW hS (lv_sub hl [2, 1, 0] rfl)
  have hf := hB _ hq
  refine lv_iconst (v := 0) hx hb dL_seen_186 (by decide) ?_
  refine lv_istore_n (lv' := [(3, .int 0), (0, .ref (b + 0)), (1, .long q100.2)]) hx hb dL_seen_187 rfl hl (by decide) rfl (fun ls hl => ?_)
  obtain ⟨res, hl0, hA, hB⟩ := bl_e hf
  have key_188 : ∀ (n : Nat) (τ : Sg) (x1 : Int64) (x3 : Int32) (cl sl ce se : Nat) (H : Heap) (locs : List Loc) (ls : Array Slot) (res : (Int64 × Sg) ⊕ (Sg × Int64)), l_L_seen_188 n τ x1 x3 = some res → cl + 32 * n = ce → sl + 192 * n = se → ce ≤ 7176 → se ≤ 43056 → (∀ a, res = .inl a → a = (r, σr)) → (∀ q188, res = .inr q188 → ∀ (H : Heap) (locs : List Loc) (ls : Array Slot), wd D t b q188.1 H → va_S (geA b) s.heap H locs → lv_has ls 5 [(0, .ref (b + 0)), (1, .long q188.2)] → W p l e (headSpec (Cond.code yL_seen cL_seen 5 (some .long) :: ALL) ({ frames := 11, cells := 7176, slots := 43056, locals := 208 })).room s m (([.ref (b + 0)] : List Value).toArray) below meth c H locs ce se (MQ below (QG D t b σr (some (.long r))) (([.ref (b + 0)] : List Value).toArray) s 7176 43056 (geA b)) (F0 m 237 ls [])) → wd D t b τ H → va_S (geA b) s.heap H locs → lv_has ls 5 [(0, .ref (b + 0)), (1, .long x1), (3, .int x3)] → W p l e (headSpec (Cond.code yL_seen cL_seen 5 (some .long) :: ALL) ({ frames := 11, cells := 7176, slots := 43056, locals := 208 })).room s m (([.ref (b + 0)] : List Value).toArray) below meth c H locs cl sl (MQ below (QG D t b σr (some (.long r))) (([.ref (b + 0)] : List Value).toArray) s 7176 43056 (geA b)) (F0 m 188 ls []) := by
    intro n
    induction n with
    | zero =>
      intro τ x1 x3 cl sl ce se H locs ls res hf
      rw [l_L_seen_188.eq_1] at hf
      cases hf
    | succ n ih_188 =>
      intro τ x1 x3 cl sl ce se H locs ls res hf hce hse hcm hsm kx kk hW hS hl
      rw [l_L_seen_188.eq_2] at hf
      refine lv_iload_n hx hb dL_seen_188 rfl (lv_at hl 2 rfl) ?_
      refine lv_aload_n hx hb dL_seen_189 rfl (lv_at hl 0 rfl) ?_
      obtain ⟨y29, u30, hf⟩ := b1_e hf
      refine lV (n := 0) (As := []) (rest := [.int x3]) (c_X4_children l D t b τ y29 u30) hx hb hml hown hts hE hsub hW hS q977 q978 q979 q34 q980 hy_X4_children ⟨rfl, rfl⟩ ⟨Nat.le_of_ble_eq_true rfl, Nat.le_of_ble_eq_true rfl⟩ rfl rfl hl.1 (Nat.le_of_ble_eq_true rfl) ⟨show cl + 0 ≤ 7176 by omega, show sl + 0 ≤ 43056 by omega⟩ dL_seen_190 (fun H locs hW hS _ => ?_)
      refine lv_icmp_ge (tgt := 237) hx hb dL_seen_193 (by decide) (fun h31 => ?_) (fun h31 => ?_)
      · have hf := ifp h31 hf
        cases hf
        refine W.widen (k := ce) (n := se) (by omega) (by omega) ?_
        exact kk _ rfl _ _ _ hW hS (lv_sub hl [0, 1] rfl)
      · have hf := ifn h31 hf
        refine lv_bipush (v := 22) hx hb dL_seen_196 (by decide) ?_
        refine lv_istore (lv' := [(4, .int 22), (0, .ref (b + 0)), (1, .long x1), (3, .int x3)]) hx hb dL_seen_198 hl (by decide) rfl (fun ls hl => ?_)
        obtain ⟨res, hl0, hA, hB⟩ := bl_e hf
        have key_200 : ∀ (n : Nat) (τ : Sg) (x1 : Int64) (x3 : Int32) (x4 : Int32) (cl sl ce se : Nat) (H : Heap) (locs : List Loc) (ls : Array Slot) (res : (Int64 × Sg) ⊕ (Sg × Int64 × Int32)), l_L_seen_200 n τ x1 x3 x4 = some res → cl + 4 * n = ce → sl + 24 * n = se → ce ≤ 7176 → se ≤ 43056 → (∀ a, res = .inl a → a = (r, σr)) → (∀ q200, res = .inr q200 → ∀ (H : Heap) (locs : List Loc) (ls : Array Slot), wd D t b q200.1 H → va_S (geA b) s.heap H locs → lv_has ls 5 [(0, .ref (b + 0)), (1, .long q200.2.1), (3, .int q200.2.2)] → W p l e (headSpec (Cond.code yL_seen cL_seen 5 (some .long) :: ALL) ({ frames := 11, cells := 7176, slots := 43056, locals := 208 })).room s m (([.ref (b + 0)] : List Value).toArray) below meth c H locs ce se (MQ below (QG D t b σr (some (.long r))) (([.ref (b + 0)] : List Value).toArray) s 7176 43056 (geA b)) (F0 m 231 ls [])) → wd D t b τ H → va_S (geA b) s.heap H locs → lv_has ls 5 [(0, .ref (b + 0)), (1, .long x1), (3, .int x3), (4, .int x4)] → W p l e (headSpec (Cond.code yL_seen cL_seen 5 (some .long) :: ALL) ({ frames := 11, cells := 7176, slots := 43056, locals := 208 })).room s m (([.ref (b + 0)] : List Value).toArray) below meth c H locs cl sl (MQ below (QG D t b σr (some (.long r))) (([.ref (b + 0)] : List Value).toArray) s 7176 43056 (geA b)) (F0 m 200 ls []) := by
          intro n
          induction n with
          | zero =>
            intro τ x1 x3 x4 cl sl ce se H locs ls res hf
            rw [l_L_seen_200.eq_1] at hf
            cases hf
          | succ n ih_200 =>
            intro τ x1 x3 x4 cl sl ce se H locs ls res hf hce hse hcm hsm kx kk hW hS hl
            rw [l_L_seen_200.eq_2] at hf
            refine lv_iload hx hb dL_seen_200 (lv_at hl 3 rfl) ?_
            refine lv_bipush (v := 29) hx hb dL_seen_202 (by decide) ?_
            refine lv_icmp_ge (tgt := 231) hx hb dL_seen_204 (by decide) (fun h32 => ?_) (fun h32 => ?_)
            · have hf := ifp h32 hf
              cases hf
              refine W.widen (k := ce) (n := se) (by omega) (by omega) ?_
              exact kk _ rfl _ _ _ hW hS (lv_sub hl [0, 1, 2] rfl)
            · have hf := ifn h32 hf
              refine lv_ldc2 hx hb hown (hta _ q944) dL_seen_207 ?_
              refine lv_lload_n hx hb dL_seen_210 rfl (lv_at hl 1 rfl) ?_
              refine lv_lmul hx hb dL_seen_211 ?_
              refine lv_aload_n hx hb dL_seen_212 rfl (lv_at hl 0 rfl) ?_
              refine lv_iload hx hb dL_seen_213 (lv_at hl 3 rfl) ?_
              refine lv_iload_n hx hb dL_seen_215 rfl (lv_at hl 2 rfl) ?_
              refine lv_iconst (v := 0) hx hb dL_seen_216 (by decide) ?_
              refine lv_iconst (v := 0) hx hb dL_seen_217 (by decide) ?_
              refine lv_iconst (v := 0) hx hb dL_seen_218 (by decide) ?_
              obtain ⟨y33, σ35, u34, hf⟩ := b2_e hf
              refine lSW (n := 6) (As := [.ref (b + 0), .int x4, .int x3, .int 0, .int 0, .int 0]) (rest := [.long ((31 : Int64) * x1)]) (c_L_call l hfl D t b τ x4 x3 0 0 0 y33 σ35 u34) hx hb hml hown hts hE hsub hW hS q573 q574 q33  qw_L_call hs_L_call ⟨rfl, rfl⟩ ⟨Nat.le_of_ble_eq_true rfl, Nat.le_of_ble_eq_true rfl⟩ rfl rfl hl.1 (Nat.le_of_ble_eq_true rfl) ⟨show cl + 0 + 4 ≤ 7176 by omega, show sl + 0 + 24 ≤ 43056 by omega⟩ dL_seen_219 (fun H locs hW hS _ => ?_)
              refine W.widen (k := cl + 4) (n := sl + 24) (by omega) (by omega) ?_
              refine lv_i2l hx hb dL_seen_222 rfl ?_
              refine lv_ladd hx hb dL_seen_223 ?_
              refine lv_lstore_n (lv' := [(1, .long (((31 : Int64) * x1) + y33.toInt64)), (0, .ref (b + 0)), (3, .int x3), (4, .int x4)]) hx hb dL_seen_224 rfl hl (by decide) rfl (fun ls hl => ?_)
              refine lv_iinc (v := (x4 + 1)) (lv' := [(4, .int (x4 + 1)), (1, .long (((31 : Int64) * x1) + y33.toInt64)), (0, .ref (b + 0)), (3, .int x3)]) hx hb dL_seen_225 hl (k := 3) rfl (by rfl) (by decide) rfl (fun ls hl => ?_)
              refine lv_goto (tgt := 200) hx hb dL_seen_228 (by decide) ?_
              refine W.widen (k := cl + 4) (n := sl + 24) (by omega) (by omega) ?_
              exact ih_200 σ35 (((31 : Int64) * x1) + y33.toInt64) x3 (x4 + 1) (cl + 4) (sl + 24) ce se _ _ _ _ hf (by omega) (by omega) hcm hsm kx kk hW hS (lv_sub hl [2, 1, 3, 0] rfl)
        refine key_200 8 τ x1 x3 22 (cl + 0) (sl + 0) (cl + 32) (sl + 192) _ _ _ res hl0 (by omega) (by omega) (show cl + 32 ≤ 7176 by omega) (show sl + 192 ≤ 43056 by omega) (fun a h => kx a (hA a h).symm) (fun q200 hq H locs ls hW hS hl => ?_) hW hS (lv_sub hl [1, 2, 3, 0] rfl)
        have hf := hB _ hq
        refine lv_iinc (v := (q200.2.2 + 1)) (lv' := [(3, .int (q200.2.2 + 1)), (0, .ref (b + 0)), (1, .long q200.2.1)]) hx hb dL_seen_231 hl (k := 2) rfl (by rfl) (by decide) rfl (fun ls hl => ?_)
        refine lv_goto (tgt := 188) hx hb dL_seen_234 (by decide) ?_
        refine W.widen (k := cl + 32) (n := sl + 192) (by omega) (by omega) ?_
        exact ih_188 q200.1 q200.2.1 (q200.2.2 + 1) (cl + 32) (sl + 192) ce se _ _ _ _ hf (by omega) (by omega) hcm hsm kx kk hW hS (lv_sub hl [1, 2, 0] rfl)
  refine key_188 201 q100.1 q100.2 0 (728) (4368) (7160) (42960) _ _ _ res hl0 (by omega) (by omega) (show 7160 ≤ 7176 by omega) (show 42960 ≤ 43056 by omega) (fun a h => hA a h) (fun q188 hq H locs ls hW hS hl => ?_) hW hS (lv_sub hl [1, 2, 0] rfl)
  have hf := hB _ hq
  refine lv_iconst (v := 0) hx hb dL_seen_237 (by decide) ?_
  refine lv_istore_n (lv' := [(3, .int 0), (0, .ref (b + 0)), (1, .long q188.2)]) hx hb dL_seen_238 rfl hl (by decide) rfl (fun ls hl => ?_)
  obtain ⟨res, hl0, hA, hB⟩ := bl_e hf
  have key_239 : ∀ (n : Nat) (τ : Sg) (x1 : Int64) (x3 : Int32) (cl sl ce se : Nat) (H : Heap) (locs : List Loc) (ls : Array Slot) (res : (Int64 × Sg) ⊕ (Sg × Int64)), l_L_seen_239 n τ x1 x3 = some res → cl + 1 * n = ce → sl + 6 * n = se → ce ≤ 7176 → se ≤ 43056 → (∀ a, res = .inl a → a = (r, σr)) → (∀ q239, res = .inr q239 → ∀ (H : Heap) (locs : List Loc) (ls : Array Slot), wd D t b q239.1 H → va_S (geA b) s.heap H locs → lv_has ls 5 [(0, .ref (b + 0)), (1, .long q239.2)] → W p l e (headSpec (Cond.code yL_seen cL_seen 5 (some .long) :: ALL) ({ frames := 11, cells := 7176, slots := 43056, locals := 208 })).room s m (([.ref (b + 0)] : List Value).toArray) below meth c H locs ce se (MQ below (QG D t b σr (some (.long r))) (([.ref (b + 0)] : List Value).toArray) s 7176 43056 (geA b)) (F0 m 264 ls [])) → wd D t b τ H → va_S (geA b) s.heap H locs → lv_has ls 5 [(0, .ref (b + 0)), (1, .long x1), (3, .int x3)] → W p l e (headSpec (Cond.code yL_seen cL_seen 5 (some .long) :: ALL) ({ frames := 11, cells := 7176, slots := 43056, locals := 208 })).room s m (([.ref (b + 0)] : List Value).toArray) below meth c H locs cl sl (MQ below (QG D t b σr (some (.long r))) (([.ref (b + 0)] : List Value).toArray) s 7176 43056 (geA b)) (F0 m 239 ls []) := by
    intro n
    induction n with
    | zero =>
      intro τ x1 x3 cl sl ce se H locs ls res hf
      rw [l_L_seen_239.eq_1] at hf
      cases hf
    | succ n ih_239 =>
      intro τ x1 x3 cl sl ce se H locs ls res hf hce hse hcm hsm kx kk hW hS hl
      rw [l_L_seen_239.eq_2] at hf
      refine lv_iload_n hx hb dL_seen_239 rfl (lv_at hl 2 rfl) ?_
      refine lv_bipush (v := 10) hx hb dL_seen_240 (by decide) ?_
      refine lv_icmp_ge (tgt := 264) hx hb dL_seen_242 (by decide) (fun h36 => ?_) (fun h36 => ?_)
      · have hf := ifp h36 hf
        cases hf
        refine W.widen (k := ce) (n := se) (by omega) (by omega) ?_
        exact kk _ rfl _ _ _ hW hS (lv_sub hl [0, 1] rfl)
      · have hf := ifn h36 hf
        refine lv_ldc2 hx hb hown (hta _ q944) dL_seen_245 ?_
        refine lv_lload_n hx hb dL_seen_248 rfl (lv_at hl 1 rfl) ?_
        refine lv_lmul hx hb dL_seen_249 ?_
        refine lv_aload_n hx hb dL_seen_250 rfl (lv_at hl 0 rfl) ?_
        refine lv_iload_n hx hb dL_seen_251 rfl (lv_at hl 2 rfl) ?_
        obtain ⟨y37, u38, hf⟩ := bn1_e hf
        refine lVXn (n := 1) (As := [.int x3]) (rest := [.long ((31 : Int64) * x1)]) (c_X4_rainIn l hfl D t b τ x3 (.inr y37) u38) hx hb hml hown hts hE hsub hW hS q825 q826 q827 q34 q828 hy_X4_rainIn ⟨rfl, rfl⟩ ⟨Nat.le_of_ble_eq_true rfl, Nat.le_of_ble_eq_true rfl⟩ rfl rfl hl.1 (Nat.le_of_ble_eq_true rfl) ⟨show cl + 0 + 1 ≤ 7176 by omega, show sl + 0 + 6 ≤ 43056 by omega⟩ dL_seen_252 (fun H locs hW hS _ => ?_)
        refine W.widen (k := cl + 1) (n := sl + 6) (by omega) (by omega) ?_
        refine lv_i2l hx hb dL_seen_255 rfl ?_
        refine lv_ladd hx hb dL_seen_256 ?_
        refine lv_lstore_n (lv' := [(1, .long (((31 : Int64) * x1) + y37.toInt64)), (0, .ref (b + 0)), (3, .int x3)]) hx hb dL_seen_257 rfl hl (by decide) rfl (fun ls hl => ?_)
        refine lv_iinc (v := (x3 + 1)) (lv' := [(3, .int (x3 + 1)), (1, .long (((31 : Int64) * x1) + y37.toInt64)), (0, .ref (b + 0))]) hx hb dL_seen_258 hl (k := 2) rfl (by rfl) (by decide) rfl (fun ls hl => ?_)
        refine lv_goto (tgt := 239) hx hb dL_seen_261 (by decide) ?_
        refine W.widen (k := cl + 1) (n := sl + 6) (by omega) (by omega) ?_
        exact ih_239 τ (((31 : Int64) * x1) + y37.toInt64) (x3 + 1) (cl + 1) (sl + 6) ce se _ _ _ _ hf (by omega) (by omega) hcm hsm kx kk hW hS (lv_sub hl [2, 1, 0] rfl)
  refine key_239 11 q188.1 q188.2 0 (7160) (42960) (7171) (43026) _ _ _ res hl0 (by omega) (by omega) (show 7171 ≤ 7176 by omega) (show 43026 ≤ 43056 by omega) (fun a h => hA a h) (fun q239 hq H locs ls hW hS hl => ?_) hW hS (lv_sub hl [1, 2, 0] rfl)
  have hf := hB _ hq
  refine lv_iconst (v := 0) hx hb dL_seen_264 (by decide) ?_
  refine lv_istore_n (lv' := [(3, .int 0), (0, .ref (b + 0)), (1, .long q239.2)]) hx hb dL_seen_265 rfl hl (by decide) rfl (fun ls hl => ?_)
  obtain ⟨res, hl0, hA, hB⟩ := bl_e hf
  have key_266 : ∀ (n : Nat) (τ : Sg) (x1 : Int64) (x3 : Int32) (cl sl ce se : Nat) (H : Heap) (locs : List Loc) (ls : Array Slot) (res : (Int64 × Sg) ⊕ (Sg × Int64)), l_L_seen_266 n τ x1 x3 = some res → cl + 1 * n = ce → sl + 6 * n = se → ce ≤ 7176 → se ≤ 43056 → (∀ a, res = .inl a → a = (r, σr)) → (∀ q266, res = .inr q266 → ∀ (H : Heap) (locs : List Loc) (ls : Array Slot), wd D t b q266.1 H → va_S (geA b) s.heap H locs → lv_has ls 5 [(1, .long q266.2)] → W p l e (headSpec (Cond.code yL_seen cL_seen 5 (some .long) :: ALL) ({ frames := 11, cells := 7176, slots := 43056, locals := 208 })).room s m (([.ref (b + 0)] : List Value).toArray) below meth c H locs ce se (MQ below (QG D t b σr (some (.long r))) (([.ref (b + 0)] : List Value).toArray) s 7176 43056 (geA b)) (F0 m 290 ls [])) → wd D t b τ H → va_S (geA b) s.heap H locs → lv_has ls 5 [(0, .ref (b + 0)), (1, .long x1), (3, .int x3)] → W p l e (headSpec (Cond.code yL_seen cL_seen 5 (some .long) :: ALL) ({ frames := 11, cells := 7176, slots := 43056, locals := 208 })).room s m (([.ref (b + 0)] : List Value).toArray) below meth c H locs cl sl (MQ below (QG D t b σr (some (.long r))) (([.ref (b + 0)] : List Value).toArray) s 7176 43056 (geA b)) (F0 m 266 ls []) := by
    intro n
    induction n with
    | zero =>
      intro τ x1 x3 cl sl ce se H locs ls res hf
      rw [l_L_seen_266.eq_1] at hf
      cases hf
    | succ n ih_266 =>
      intro τ x1 x3 cl sl ce se H locs ls res hf hce hse hcm hsm kx kk hW hS hl
      rw [l_L_seen_266.eq_2] at hf
      refine lv_iload_n hx hb dL_seen_266 rfl (lv_at hl 2 rfl) ?_
      refine lv_iconst (v := 4) hx hb dL_seen_267 (by decide) ?_
      refine lv_icmp_ge (tgt := 290) hx hb dL_seen_268 (by decide) (fun h39 => ?_) (fun h39 => ?_)
      · have hf := ifp h39 hf
        cases hf
        refine W.widen (k := ce) (n := se) (by omega) (by omega) ?_
        exact kk _ rfl _ _ _ hW hS (lv_sub hl [1] rfl)
      · have hf := ifn h39 hf
        refine lv_ldc2 hx hb hown (hta _ q944) dL_seen_271 ?_
        refine lv_lload_n hx hb dL_seen_274 rfl (lv_at hl 1 rfl) ?_
        refine lv_lmul hx hb dL_seen_275 ?_
        refine lv_aload_n hx hb dL_seen_276 rfl (lv_at hl 0 rfl) ?_
        refine lv_iload_n hx hb dL_seen_277 rfl (lv_at hl 2 rfl) ?_
        obtain ⟨y40, u41, hf⟩ := bn1_e hf
        refine lVXn (n := 1) (As := [.int x3]) (rest := [.long ((31 : Int64) * x1)]) (c_X4_wonOf l hfl D t b τ x3 (.inr y40) u41) hx hb hml hown hts hE hsub hW hS q821 q822 q823 q34 q824 hy_X4_wonOf ⟨rfl, rfl⟩ ⟨Nat.le_of_ble_eq_true rfl, Nat.le_of_ble_eq_true rfl⟩ rfl rfl hl.1 (Nat.le_of_ble_eq_true rfl) ⟨show cl + 0 + 1 ≤ 7176 by omega, show sl + 0 + 6 ≤ 43056 by omega⟩ dL_seen_278 (fun H locs hW hS _ => ?_)
        refine W.widen (k := cl + 1) (n := sl + 6) (by omega) (by omega) ?_
        refine lv_i2l hx hb dL_seen_281 rfl ?_
        refine lv_ladd hx hb dL_seen_282 ?_
        refine lv_lstore_n (lv' := [(1, .long (((31 : Int64) * x1) + y40.toInt64)), (0, .ref (b + 0)), (3, .int x3)]) hx hb dL_seen_283 rfl hl (by decide) rfl (fun ls hl => ?_)
        refine lv_iinc (v := (x3 + 1)) (lv' := [(3, .int (x3 + 1)), (1, .long (((31 : Int64) * x1) + y40.toInt64)), (0, .ref (b + 0))]) hx hb dL_seen_284 hl (k := 2) rfl (by rfl) (by decide) rfl (fun ls hl => ?_)
        refine lv_goto (tgt := 266) hx hb dL_seen_287 (by decide) ?_
        refine W.widen (k := cl + 1) (n := sl + 6) (by omega) (by omega) ?_
        exact ih_266 τ (((31 : Int64) * x1) + y40.toInt64) (x3 + 1) (cl + 1) (sl + 6) ce se _ _ _ _ hf (by omega) (by omega) hcm hsm kx kk hW hS (lv_sub hl [2, 1, 0] rfl)
  refine key_266 5 q239.1 q239.2 0 (7171) (43026) (7176) (43056) _ _ _ res hl0 (by omega) (by omega) (show 7176 ≤ 7176 by omega) (show 43056 ≤ 43056 by omega) (fun a h => hA a h) (fun q266 hq H locs ls hW hS hl => ?_) hW hS (lv_sub hl [1, 2, 0] rfl)
  have hf := hB _ hq
  refine lv_lload_n hx hb dL_seen_290 rfl (lv_at hl 0 rfl) ?_
  cases hf
  refine W.widen (k := 7176) (n := 43056) (by omega) (by omega) ?_
  exact W.lret hx hb hr (fun u hu _ => ⟨⟨rfl, by rw [hu]; exact hW⟩, hS.F hu⟩) hS.2.2 dL_seen_291
def l_L_refusesOne_373 : Nat → Sg → Int32 → Int32 → Int32 → Int32 → Option ((Int32 × Sg) ⊕ (Sg × Int32 × Int32 × Int32))
  | 0, _, _, _, _, _ => none
  | n + 1, τ, x1, x2, x3, x4 => if 7 ≤ x4 then (some (.inr (τ, x1, x2, x3))) else (b2 (f_L_call τ x4 x2 0 0 0) fun y102 σ104 => if y102 = (-2011) then (l_L_refusesOne_373 n σ104 x1 x2 x3 (x4 + 1)) else (some (.inl (0, σ104))))
def l_L_refusesOne_408 : Nat → Sg → Int32 → Int32 → Int32 → Int32 → Option ((Int32 × Sg) ⊕ (Sg × Int32 × Int32))
  | 0, _, _, _, _, _ => none
  | n + 1, τ, x1, x2, x3, x4 => if 22 ≤ x4 then (some (.inr (τ, x1, x3))) else (b2 (f_L_call τ x4 x2 0 0 0) fun y107 σ109 => if y107 = (-2011) then (l_L_refusesOne_408 n σ109 x1 x2 x3 (x4 + 1)) else (some (.inl (0, σ109))))
def l_L_refusesOne_443 : Nat → Sg → Int32 → Int32 → Int32 → Option ((Int32 × Sg) ⊕ (Sg × Int32 × Int32))
  | 0, _, _, _, _ => none
  | n + 1, τ, x1, x3, x4 => if 30 ≤ x4 then (some (.inr (τ, x1, x3))) else (b1 (f_X4_children τ) fun y112 => b1 (f_L_far x1 0 (y112 - 1)) fun y114 => b2 (f_L_call τ x4 y114 0 0 0) fun y116 σ118 => if y116 = (-2011) then (l_L_refusesOne_443 n σ118 x1 x3 (x4 + 1)) else (some (.inl (0, σ118))))
set_option maxRecDepth 100000 in
def f_L_refusesOne (σ : Sg) (p1 : Int32) : Option (Int32 × Sg) := b1 (f_X4_stalls σ) fun y1 => b1 (f_L_far p1 0 (y1 - 1)) fun y3 => b1 (f_L_far p1 0 3) fun y5 => b1 (f_L_far p1 0 11) fun y7 => b2 (f_L_call σ 0 y7 0 0 0) fun y9 σ11 => if y9 = (-2011) then (b1 (f_L_far p1 0 4) fun y13 => b2 (f_L_call σ11 0 0 y13 0 0) fun y15 σ17 => if y15 = (-2011) then (b1 (f_L_far p1 1 9) fun y19 => b2 (f_L_call σ17 0 11 4 y19 1) fun y21 σ23 => if y21 = (-2012) then (b1 (f_L_far p1 0 4) fun y25 => b2 (f_L_call σ23 7 100 y25 0 0) fun y27 σ29 => if y27 = (-2011) then (b2 (f_L_call σ29 7 100 0 y5 0) fun y31 σ33 => if y31 = (-2011) then (b1 (f_L_far p1 0 99) fun y35 => b2 (f_L_call σ33 7 y35 4 3 0) fun y37 σ39 => if y37 = (-2012) then (b1 (f_L_far p1 0 9) fun y41 => b2 (f_L_call σ39 8 y41 10 0 0) fun y43 σ45 => if y43 = (-2011) then (b1 (f_L_far p1 0 9) fun y47 => b2 (f_L_call σ45 8 9 y47 0 0) fun y49 σ51 => if y49 = (-2012) then (b1 (f_L_far p1 1 40) fun y53 => b2 (f_L_call σ51 9 y53 0 0 0) fun y55 σ57 => if y55 = (-2012) then (b1 (f_L_far p1 0 11) fun y59 => b2 (f_L_call σ57 30 y59 0 0 0) fun y61 σ63 => if y61 = (-2011) then (b1 (f_L_far p1 0 11) fun y65 => b2 (f_L_call σ63 31 y65 0 0 0) fun y67 σ69 => if y67 = (-2011) then (b2 (f_L_call σ69 32 y5 0 0 0) fun y71 σ73 => if y71 = (-2011) then (b1 (f_L_far p1 0 9) fun y75 => b2 (f_L_call σ73 33 y75 0 0 0) fun y77 σ79 => if y77 = (-2011) then (b1 (f_L_far p1 0 4) fun y81 => b2 (f_L_call σ79 34 y81 0 0 0) fun y83 σ85 => if y83 = (-2011) then (b1 (f_L_far p1 1 9) fun y87 => b2 (f_L_call σ85 34 4 y87 0 0) fun y89 σ91 => if y89 = (-2012) then (b2 (f_L_call σ91 36 0 0 0 0) fun y93 σ95 => if y93 = (-2013) then (b2 (f_L_call σ95 37 0 0 0 0) fun y97 σ99 => if y97 = (-2013) then (bl id (l_L_refusesOne_373 7 σ99 p1 y3 y5 1) fun q373 => bl id (l_L_refusesOne_408 11 q373.1 q373.2.1 q373.2.2.1 q373.2.2.2 12) fun q408 => bl id (l_L_refusesOne_443 9 q408.1 q408.2.1 q408.2.2 22) fun q443 => b1 (f_X4_stalls q443.1) fun y120 => if y120 = 0 then (some (1, q443.1)) else (b1 (f_L_far q443.2.1 1 9) fun y123 => b2 (f_L_call q443.1 2 0 y123 0 0) fun y125 σ127 => if y125 = (-2012) then (b2 (f_L_call σ127 4 0 q443.2.2 0 0) fun y129 σ131 => if y129 = (-2011) then (b2 (f_L_call σ131 4 0 0 q443.2.2 0) fun y133 σ135 => if y133 = (-2011) then (b1 (f_L_far q443.2.1 1 40) fun y137 => b2 (f_L_call σ135 4 0 3 3 y137) fun y139 σ141 => if y139 = (-2012) then (b1 (f_L_far q443.2.1 1 99) fun y143 => b2 (f_L_call σ141 5 0 y143 0 0) fun y145 σ147 => if y145 = (-2012) then (b2 (f_L_call σ147 21 0 q443.2.2 0 0) fun y149 σ151 => if y149 = (-2011) then (b2 (f_L_call σ151 21 0 0 q443.2.2 0) fun y153 σ155 => if y153 = (-2011) then (some (1, σ155)) else (some (0, σ155))) else (some (0, σ151))) else (some (0, σ147))) else (some (0, σ141))) else (some (0, σ135))) else (some (0, σ131))) else (some (0, σ127)))) else (some (0, σ99))) else (some (0, σ95))) else (some (0, σ91))) else (some (0, σ85))) else (some (0, σ79))) else (some (0, σ73))) else (some (0, σ69))) else (some (0, σ63))) else (some (0, σ57))) else (some (0, σ51))) else (some (0, σ45))) else (some (0, σ39))) else (some (0, σ33))) else (some (0, σ29))) else (some (0, σ23))) else (some (0, σ17))) else (some (0, σ11))
set_option maxHeartbeats 8000000 in
set_option maxRecDepth 100000 in
theorem c_L_refusesOne (l : Launch) (hfl : l.stackTraces = false) (D : va_G) (t : Nat → ClassId) (b : Nat) (σ : Sg) (p1 : Int32) (r : Int32) (σr : Sg) (hf : f_L_refusesOne σ p1 = some (r, σr)) : Met l yL_refusesOne (Cond.code yL_refusesOne cL_refusesOne 5 (some .boolean) :: ALL) ({ frames := 11, cells := 204, slots := 1224, locals := 208 }) (PM D t b σ [.ref (b + 0), .int p1]) (QG D t b σr (some (.int r))) 204 1224 (geA b) := by
  refine Met.ofW (cc := cL_refusesOne) (maxL := 5) (ret := (some .boolean)) (by decide) rfl ?_
  intro p e s m args below meth c s₁ B hml hv
  obtain ⟨rfl, hW, hE⟩ := hv
  have hE : EVA D t (geA b) s := hE
  have hsub : ∀ q, geA b q → geA b q := fun _ h => h
  have hx := B.exec
  have hb := B.bytes
  have hr := B.returns
  have hts := atoms_spec (ws := Cond.code yL_refusesOne cL_refusesOne 5 (some .boolean) :: ALL) B.pre
  have hta := fun w h => hts w (List.mem_cons_of_mem _ h)
  have hown : s.vm.findClass RL = some m.cls := findClass_of_methodNamed B.named
  have hlocks := B.notSynchronized
  have hS : va_S (geA b) s.heap s.heap [] := va_S.rf
  have hl := lv_entry ([.ref (b + 0), .int p1]) (n := 5) (Nat.le_of_ble_eq_true rfl)
  rw [lg_entry_eq]
  generalize (lg_sl ([.ref (b + 0), .int p1]) ++ List.replicate (5 - (lg_sl ([.ref (b + 0), .int p1])).length) Slot.unset).toArray = ls at hl ⊢
  have hl : lv_has ls 5 [(0, .ref (b + 0)), (1, .int p1)] := hl
  unfold f_L_refusesOne at hf
  refine lv_iload_n hx hb dL_refusesOne_0 rfl (lv_at hl 1 rfl) ?_
  refine lv_iconst (v := 0) hx hb dL_refusesOne_1 (by decide) ?_
  refine lv_aload_n hx hb dL_refusesOne_2 rfl (lv_at hl 0 rfl) ?_
  obtain ⟨y1, u2, hf⟩ := b1_e hf
  refine lV (n := 0) (As := []) (rest := [.int 0, .int p1]) (c_X4_stalls l D t b σ y1 u2) hx hb hml hown hts hE hsub hW hS q973 q974 q975 q34 q976 hy_X4_stalls ⟨rfl, rfl⟩ ⟨Nat.le_of_ble_eq_true rfl, Nat.le_of_ble_eq_true rfl⟩ rfl rfl hl.1 (Nat.le_of_ble_eq_true rfl) ⟨show 0 ≤ 204 by omega, show 0 ≤ 1224 by omega⟩ dL_refusesOne_3 (fun H locs hW hS _ => ?_)
  refine lv_iconst (v := 1) hx hb dL_refusesOne_6 (by decide) ?_
  refine lv_isub hx hb dL_refusesOne_7 ?_
  obtain ⟨y3, u4, hf⟩ := b1_e hf
  refine lS (n := 3) (As := [.int p1, .int 0, .int (y1 - 1)]) (rest := []) (c_L_far l D t b σ p1 0 (y1 - 1) y3 u4) hx hb hml hown hts hE hsub hW hS q987 q988 q33  q989 hs_L_far ⟨rfl, rfl⟩ ⟨Nat.le_of_ble_eq_true rfl, Nat.le_of_ble_eq_true rfl⟩ rfl rfl hl.1 (Nat.le_of_ble_eq_true rfl) ⟨show 0 + 0 ≤ 204 by omega, show 0 + 0 ≤ 1224 by omega⟩ dL_refusesOne_8 (fun H locs hW hS _ => ?_)
  refine lv_istore_n (lv' := [(2, .int y3), (0, .ref (b + 0)), (1, .int p1)]) hx hb dL_refusesOne_11 rfl hl (by decide) rfl (fun ls hl => ?_)
  refine lv_iload_n hx hb dL_refusesOne_12 rfl (lv_at hl 2 rfl) ?_
  refine lv_iconst (v := 0) hx hb dL_refusesOne_13 (by decide) ?_
  refine lv_iconst (v := 3) hx hb dL_refusesOne_14 (by decide) ?_
  obtain ⟨y5, u6, hf⟩ := b1_e hf
  refine lS (n := 3) (As := [.int p1, .int 0, .int 3]) (rest := []) (c_L_far l D t b σ p1 0 3 y5 u6) hx hb hml hown hts hE hsub hW hS q987 q988 q33  q989 hs_L_far ⟨rfl, rfl⟩ ⟨Nat.le_of_ble_eq_true rfl, Nat.le_of_ble_eq_true rfl⟩ rfl rfl hl.1 (Nat.le_of_ble_eq_true rfl) ⟨show 0 + 0 ≤ 204 by omega, show 0 + 0 ≤ 1224 by omega⟩ dL_refusesOne_15 (fun H locs hW hS _ => ?_)
  refine lv_istore_n (lv' := [(3, .int y5), (2, .int y3), (0, .ref (b + 0)), (1, .int p1)]) hx hb dL_refusesOne_18 rfl hl (by decide) rfl (fun ls hl => ?_)
  refine lv_aload_n hx hb dL_refusesOne_19 rfl (lv_at hl 2 rfl) ?_
  refine lv_iconst (v := 0) hx hb dL_refusesOne_20 (by decide) ?_
  refine lv_iload_n hx hb dL_refusesOne_21 rfl (lv_at hl 3 rfl) ?_
  refine lv_iconst (v := 0) hx hb dL_refusesOne_22 (by decide) ?_
  refine lv_bipush (v := 11) hx hb dL_refusesOne_23 (by decide) ?_
  obtain ⟨y7, u8, hf⟩ := b1_e hf
  refine lS (n := 3) (As := [.int p1, .int 0, .int 11]) (rest := [.int 0, .ref (b + 0)]) (c_L_far l D t b σ p1 0 11 y7 u8) hx hb hml hown hts hE hsub hW hS q987 q988 q33  q989 hs_L_far ⟨rfl, rfl⟩ ⟨Nat.le_of_ble_eq_true rfl, Nat.le_of_ble_eq_true rfl⟩ rfl rfl hl.1 (Nat.le_of_ble_eq_true rfl) ⟨show 0 + 0 ≤ 204 by omega, show 0 + 0 ≤ 1224 by omega⟩ dL_refusesOne_25 (fun H locs hW hS _ => ?_)
  refine lv_iconst (v := 0) hx hb dL_refusesOne_28 (by decide) ?_
  refine lv_iconst (v := 0) hx hb dL_refusesOne_29 (by decide) ?_
  refine lv_iconst (v := 0) hx hb dL_refusesOne_30 (by decide) ?_
  obtain ⟨y9, σ11, u10, hf⟩ := b2_e hf
  refine lSW (n := 6) (As := [.ref (b + 0), .int 0, .int y7, .int 0, .int 0, .int 0]) (rest := []) (c_L_call l hfl D t b σ 0 y7 0 0 0 y9 σ11 u10) hx hb hml hown hts hE hsub hW hS q573 q574 q33  qw_L_call hs_L_call ⟨rfl, rfl⟩ ⟨Nat.le_of_ble_eq_true rfl, Nat.le_of_ble_eq_true rfl⟩ rfl rfl hl.1 (Nat.le_of_ble_eq_true rfl) ⟨show 0 + 4 ≤ 204 by omega, show 0 + 24 ≤ 1224 by omega⟩ dL_refusesOne_31 (fun H locs hW hS _ => ?_)
  refine W.widen (k := 4) (n := 24) (by omega) (by omega) ?_
  refine lv_sipush (v := (-2011)) hx hb dL_refusesOne_34 (by decide) ?_
  refine lv_icmp_ne (tgt := 368) hx hb dL_refusesOne_37 (by decide) (fun h12 => ?_) (fun h12 => ?_)
  · have hf := ifn h12 hf
    refine lv_iconst (v := 0) hx hb dL_refusesOne_368 (by decide) ?_
    cases hf
    refine W.widen (k := 204) (n := 1224) (by omega) (by omega) ?_
    exact W.zret (ty := .boolean) hx hb hr (by decide) (fun u hu _ => ⟨⟨rfl, by rw [hu]; exact hW⟩, hS.F hu⟩) hS.2.2 dL_refusesOne_369
  · have hf := ifp h12 hf
    refine lv_aload_n hx hb dL_refusesOne_40 rfl (lv_at hl 2 rfl) ?_
    refine lv_iconst (v := 0) hx hb dL_refusesOne_41 (by decide) ?_
    refine lv_iconst (v := 0) hx hb dL_refusesOne_42 (by decide) ?_
    refine lv_iload_n hx hb dL_refusesOne_43 rfl (lv_at hl 3 rfl) ?_
    refine lv_iconst (v := 0) hx hb dL_refusesOne_44 (by decide) ?_
    refine lv_iconst (v := 4) hx hb dL_refusesOne_45 (by decide) ?_
    obtain ⟨y13, u14, hf⟩ := b1_e hf
    refine lS (n := 3) (As := [.int p1, .int 0, .int 4]) (rest := [.int 0, .int 0, .ref (b + 0)]) (c_L_far l D t b σ11 p1 0 4 y13 u14) hx hb hml hown hts hE hsub hW hS q987 q988 q33  q989 hs_L_far ⟨rfl, rfl⟩ ⟨Nat.le_of_ble_eq_true rfl, Nat.le_of_ble_eq_true rfl⟩ rfl rfl hl.1 (Nat.le_of_ble_eq_true rfl) ⟨show 4 + 0 ≤ 204 by omega, show 24 + 0 ≤ 1224 by omega⟩ dL_refusesOne_46 (fun H locs hW hS _ => ?_)
    refine lv_iconst (v := 0) hx hb dL_refusesOne_49 (by decide) ?_
    refine lv_iconst (v := 0) hx hb dL_refusesOne_50 (by decide) ?_
    obtain ⟨y15, σ17, u16, hf⟩ := b2_e hf
    refine lSW (n := 6) (As := [.ref (b + 0), .int 0, .int 0, .int y13, .int 0, .int 0]) (rest := []) (c_L_call l hfl D t b σ11 0 0 y13 0 0 y15 σ17 u16) hx hb hml hown hts hE hsub hW hS q573 q574 q33  qw_L_call hs_L_call ⟨rfl, rfl⟩ ⟨Nat.le_of_ble_eq_true rfl, Nat.le_of_ble_eq_true rfl⟩ rfl rfl hl.1 (Nat.le_of_ble_eq_true rfl) ⟨show 4 + 4 ≤ 204 by omega, show 24 + 24 ≤ 1224 by omega⟩ dL_refusesOne_51 (fun H locs hW hS _ => ?_)
    refine W.widen (k := 8) (n := 48) (by omega) (by omega) ?_
    refine lv_sipush (v := (-2011)) hx hb dL_refusesOne_54 (by decide) ?_
    refine lv_icmp_ne (tgt := 368) hx hb dL_refusesOne_57 (by decide) (fun h18 => ?_) (fun h18 => ?_)
    · have hf := ifn h18 hf
      refine lv_iconst (v := 0) hx hb dL_refusesOne_368 (by decide) ?_
      cases hf
      refine W.widen (k := 204) (n := 1224) (by omega) (by omega) ?_
      exact W.zret (ty := .boolean) hx hb hr (by decide) (fun u hu _ => ⟨⟨rfl, by rw [hu]; exact hW⟩, hS.F hu⟩) hS.2.2 dL_refusesOne_369
    · have hf := ifp h18 hf
      refine lv_aload_n hx hb dL_refusesOne_60 rfl (lv_at hl 2 rfl) ?_
      refine lv_iconst (v := 0) hx hb dL_refusesOne_61 (by decide) ?_
      refine lv_bipush (v := 11) hx hb dL_refusesOne_62 (by decide) ?_
      refine lv_iconst (v := 4) hx hb dL_refusesOne_64 (by decide) ?_
      refine lv_iload_n hx hb dL_refusesOne_65 rfl (lv_at hl 3 rfl) ?_
      refine lv_iconst (v := 1) hx hb dL_refusesOne_66 (by decide) ?_
      refine lv_bipush (v := 9) hx hb dL_refusesOne_67 (by decide) ?_
      obtain ⟨y19, u20, hf⟩ := b1_e hf
      refine lS (n := 3) (As := [.int p1, .int 1, .int 9]) (rest := [.int 4, .int 11, .int 0, .ref (b + 0)]) (c_L_far l D t b σ17 p1 1 9 y19 u20) hx hb hml hown hts hE hsub hW hS q987 q988 q33  q989 hs_L_far ⟨rfl, rfl⟩ ⟨Nat.le_of_ble_eq_true rfl, Nat.le_of_ble_eq_true rfl⟩ rfl rfl hl.1 (Nat.le_of_ble_eq_true rfl) ⟨show 8 + 0 ≤ 204 by omega, show 48 + 0 ≤ 1224 by omega⟩ dL_refusesOne_69 (fun H locs hW hS _ => ?_)
      refine lv_iconst (v := 1) hx hb dL_refusesOne_72 (by decide) ?_
      obtain ⟨y21, σ23, u22, hf⟩ := b2_e hf
      refine lSW (n := 6) (As := [.ref (b + 0), .int 0, .int 11, .int 4, .int y19, .int 1]) (rest := []) (c_L_call l hfl D t b σ17 0 11 4 y19 1 y21 σ23 u22) hx hb hml hown hts hE hsub hW hS q573 q574 q33  qw_L_call hs_L_call ⟨rfl, rfl⟩ ⟨Nat.le_of_ble_eq_true rfl, Nat.le_of_ble_eq_true rfl⟩ rfl rfl hl.1 (Nat.le_of_ble_eq_true rfl) ⟨show 8 + 4 ≤ 204 by omega, show 48 + 24 ≤ 1224 by omega⟩ dL_refusesOne_73 (fun H locs hW hS _ => ?_)
      refine W.widen (k := 12) (n := 72) (by omega) (by omega) ?_
      refine lv_sipush (v := (-2012)) hx hb dL_refusesOne_76 (by decide) ?_
      refine lv_icmp_ne (tgt := 368) hx hb dL_refusesOne_79 (by decide) (fun h24 => ?_) (fun h24 => ?_)
      · have hf := ifn h24 hf
        refine lv_iconst (v := 0) hx hb dL_refusesOne_368 (by decide) ?_
        cases hf
        refine W.widen (k := 204) (n := 1224) (by omega) (by omega) ?_
        exact W.zret (ty := .boolean) hx hb hr (by decide) (fun u hu _ => ⟨⟨rfl, by rw [hu]; exact hW⟩, hS.F hu⟩) hS.2.2 dL_refusesOne_369
      · have hf := ifp h24 hf
        refine lv_aload_n hx hb dL_refusesOne_82 rfl (lv_at hl 2 rfl) ?_
        refine lv_bipush (v := 7) hx hb dL_refusesOne_83 (by decide) ?_
        refine lv_bipush (v := 100) hx hb dL_refusesOne_85 (by decide) ?_
        refine lv_iload_n hx hb dL_refusesOne_87 rfl (lv_at hl 3 rfl) ?_
        refine lv_iconst (v := 0) hx hb dL_refusesOne_88 (by decide) ?_
        refine lv_iconst (v := 4) hx hb dL_refusesOne_89 (by decide) ?_
        obtain ⟨y25, u26, hf⟩ := b1_e hf
        refine lS (n := 3) (As := [.int p1, .int 0, .int 4]) (rest := [.int 100, .int 7, .ref (b + 0)]) (c_L_far l D t b σ23 p1 0 4 y25 u26) hx hb hml hown hts hE hsub hW hS q987 q988 q33  q989 hs_L_far ⟨rfl, rfl⟩ ⟨Nat.le_of_ble_eq_true rfl, Nat.le_of_ble_eq_true rfl⟩ rfl rfl hl.1 (Nat.le_of_ble_eq_true rfl) ⟨show 12 + 0 ≤ 204 by omega, show 72 + 0 ≤ 1224 by omega⟩ dL_refusesOne_90 (fun H locs hW hS _ => ?_)
        refine lv_iconst (v := 0) hx hb dL_refusesOne_93 (by decide) ?_
        refine lv_iconst (v := 0) hx hb dL_refusesOne_94 (by decide) ?_
        obtain ⟨y27, σ29, u28, hf⟩ := b2_e hf
        refine lSW (n := 6) (As := [.ref (b + 0), .int 7, .int 100, .int y25, .int 0, .int 0]) (rest := []) (c_L_call l hfl D t b σ23 7 100 y25 0 0 y27 σ29 u28) hx hb hml hown hts hE hsub hW hS q573 q574 q33  qw_L_call hs_L_call ⟨rfl, rfl⟩ ⟨Nat.le_of_ble_eq_true rfl, Nat.le_of_ble_eq_true rfl⟩ rfl rfl hl.1 (Nat.le_of_ble_eq_true rfl) ⟨show 12 + 4 ≤ 204 by omega, show 72 + 24 ≤ 1224 by omega⟩ dL_refusesOne_95 (fun H locs hW hS _ => ?_)
        refine W.widen (k := 16) (n := 96) (by omega) (by omega) ?_
        refine lv_sipush (v := (-2011)) hx hb dL_refusesOne_98 (by decide) ?_
        refine lv_icmp_ne (tgt := 368) hx hb dL_refusesOne_101 (by decide) (fun h30 => ?_) (fun h30 => ?_)
        · have hf := ifn h30 hf
          refine lv_iconst (v := 0) hx hb dL_refusesOne_368 (by decide) ?_
          cases hf
          refine W.widen (k := 204) (n := 1224) (by omega) (by omega) ?_
          exact W.zret (ty := .boolean) hx hb hr (by decide) (fun u hu _ => ⟨⟨rfl, by rw [hu]; exact hW⟩, hS.F hu⟩) hS.2.2 dL_refusesOne_369
        · have hf := ifp h30 hf
          refine lv_aload_n hx hb dL_refusesOne_104 rfl (lv_at hl 2 rfl) ?_
          refine lv_bipush (v := 7) hx hb dL_refusesOne_105 (by decide) ?_
          refine lv_bipush (v := 100) hx hb dL_refusesOne_107 (by decide) ?_
          refine lv_iconst (v := 0) hx hb dL_refusesOne_109 (by decide) ?_
          refine lv_iload_n hx hb dL_refusesOne_110 rfl (lv_at hl 0 rfl) ?_
          refine lv_iconst (v := 0) hx hb dL_refusesOne_111 (by decide) ?_
          obtain ⟨y31, σ33, u32, hf⟩ := b2_e hf
          refine lSW (n := 6) (As := [.ref (b + 0), .int 7, .int 100, .int 0, .int y5, .int 0]) (rest := []) (c_L_call l hfl D t b σ29 7 100 0 y5 0 y31 σ33 u32) hx hb hml hown hts hE hsub hW hS q573 q574 q33  qw_L_call hs_L_call ⟨rfl, rfl⟩ ⟨Nat.le_of_ble_eq_true rfl, Nat.le_of_ble_eq_true rfl⟩ rfl rfl hl.1 (Nat.le_of_ble_eq_true rfl) ⟨show 16 + 4 ≤ 204 by omega, show 96 + 24 ≤ 1224 by omega⟩ dL_refusesOne_112 (fun H locs hW hS _ => ?_)
          refine W.widen (k := 20) (n := 120) (by omega) (by omega) ?_
          refine lv_sipush (v := (-2011)) hx hb dL_refusesOne_115 (by decide) ?_
          refine lv_icmp_ne (tgt := 368) hx hb dL_refusesOne_118 (by decide) (fun h34 => ?_) (fun h34 => ?_)
          · have hf := ifn h34 hf
            refine lv_iconst (v := 0) hx hb dL_refusesOne_368 (by decide) ?_
            cases hf
            refine W.widen (k := 204) (n := 1224) (by omega) (by omega) ?_
            exact W.zret (ty := .boolean) hx hb hr (by decide) (fun u hu _ => ⟨⟨rfl, by rw [hu]; exact hW⟩, hS.F hu⟩) hS.2.2 dL_refusesOne_369
          · have hf := ifp h34 hf
            refine lv_aload_n hx hb dL_refusesOne_121 rfl (lv_at hl 2 rfl) ?_
            refine lv_bipush (v := 7) hx hb dL_refusesOne_122 (by decide) ?_
            refine lv_iload_n hx hb dL_refusesOne_124 rfl (lv_at hl 3 rfl) ?_
            refine lv_iconst (v := 0) hx hb dL_refusesOne_125 (by decide) ?_
            refine lv_bipush (v := 99) hx hb dL_refusesOne_126 (by decide) ?_
            obtain ⟨y35, u36, hf⟩ := b1_e hf
            refine lS (n := 3) (As := [.int p1, .int 0, .int 99]) (rest := [.int 7, .ref (b + 0)]) (c_L_far l D t b σ33 p1 0 99 y35 u36) hx hb hml hown hts hE hsub hW hS q987 q988 q33  q989 hs_L_far ⟨rfl, rfl⟩ ⟨Nat.le_of_ble_eq_true rfl, Nat.le_of_ble_eq_true rfl⟩ rfl rfl hl.1 (Nat.le_of_ble_eq_true rfl) ⟨show 20 + 0 ≤ 204 by omega, show 120 + 0 ≤ 1224 by omega⟩ dL_refusesOne_128 (fun H locs hW hS _ => ?_)
            refine lv_iconst (v := 4) hx hb dL_refusesOne_131 (by decide) ?_
            refine lv_iconst (v := 3) hx hb dL_refusesOne_132 (by decide) ?_
            refine lv_iconst (v := 0) hx hb dL_refusesOne_133 (by decide) ?_
            obtain ⟨y37, σ39, u38, hf⟩ := b2_e hf
            refine lSW (n := 6) (As := [.ref (b + 0), .int 7, .int y35, .int 4, .int 3, .int 0]) (rest := []) (c_L_call l hfl D t b σ33 7 y35 4 3 0 y37 σ39 u38) hx hb hml hown hts hE hsub hW hS q573 q574 q33  qw_L_call hs_L_call ⟨rfl, rfl⟩ ⟨Nat.le_of_ble_eq_true rfl, Nat.le_of_ble_eq_true rfl⟩ rfl rfl hl.1 (Nat.le_of_ble_eq_true rfl) ⟨show 20 + 4 ≤ 204 by omega, show 120 + 24 ≤ 1224 by omega⟩ dL_refusesOne_134 (fun H locs hW hS _ => ?_)
            refine W.widen (k := 24) (n := 144) (by omega) (by omega) ?_
            refine lv_sipush (v := (-2012)) hx hb dL_refusesOne_137 (by decide) ?_
            refine lv_icmp_ne (tgt := 368) hx hb dL_refusesOne_140 (by decide) (fun h40 => ?_) (fun h40 => ?_)
            · have hf := ifn h40 hf
              refine lv_iconst (v := 0) hx hb dL_refusesOne_368 (by decide) ?_
              cases hf
              refine W.widen (k := 204) (n := 1224) (by omega) (by omega) ?_
              exact W.zret (ty := .boolean) hx hb hr (by decide) (fun u hu _ => ⟨⟨rfl, by rw [hu]; exact hW⟩, hS.F hu⟩) hS.2.2 dL_refusesOne_369
            · have hf := ifp h40 hf
              refine lv_aload_n hx hb dL_refusesOne_143 rfl (lv_at hl 2 rfl) ?_
              refine lv_bipush (v := 8) hx hb dL_refusesOne_144 (by decide) ?_
              refine lv_iload_n hx hb dL_refusesOne_146 rfl (lv_at hl 3 rfl) ?_
              refine lv_iconst (v := 0) hx hb dL_refusesOne_147 (by decide) ?_
              refine lv_bipush (v := 9) hx hb dL_refusesOne_148 (by decide) ?_
              obtain ⟨y41, u42, hf⟩ := b1_e hf
              refine lS (n := 3) (As := [.int p1, .int 0, .int 9]) (rest := [.int 8, .ref (b + 0)]) (c_L_far l D t b σ39 p1 0 9 y41 u42) hx hb hml hown hts hE hsub hW hS q987 q988 q33  q989 hs_L_far ⟨rfl, rfl⟩ ⟨Nat.le_of_ble_eq_true rfl, Nat.le_of_ble_eq_true rfl⟩ rfl rfl hl.1 (Nat.le_of_ble_eq_true rfl) ⟨show 24 + 0 ≤ 204 by omega, show 144 + 0 ≤ 1224 by omega⟩ dL_refusesOne_150 (fun H locs hW hS _ => ?_)
              refine lv_bipush (v := 10) hx hb dL_refusesOne_153 (by decide) ?_
              refine lv_iconst (v := 0) hx hb dL_refusesOne_155 (by decide) ?_
              refine lv_iconst (v := 0) hx hb dL_refusesOne_156 (by decide) ?_
              obtain ⟨y43, σ45, u44, hf⟩ := b2_e hf
              refine lSW (n := 6) (As := [.ref (b + 0), .int 8, .int y41, .int 10, .int 0, .int 0]) (rest := []) (c_L_call l hfl D t b σ39 8 y41 10 0 0 y43 σ45 u44) hx hb hml hown hts hE hsub hW hS q573 q574 q33  qw_L_call hs_L_call ⟨rfl, rfl⟩ ⟨Nat.le_of_ble_eq_true rfl, Nat.le_of_ble_eq_true rfl⟩ rfl rfl hl.1 (Nat.le_of_ble_eq_true rfl) ⟨show 24 + 4 ≤ 204 by omega, show 144 + 24 ≤ 1224 by omega⟩ dL_refusesOne_157 (fun H locs hW hS _ => ?_)
              refine W.widen (k := 28) (n := 168) (by omega) (by omega) ?_
              refine lv_sipush (v := (-2011)) hx hb dL_refusesOne_160 (by decide) ?_
              refine lv_icmp_ne (tgt := 368) hx hb dL_refusesOne_163 (by decide) (fun h46 => ?_) (fun h46 => ?_)
              · have hf := ifn h46 hf
                refine lv_iconst (v := 0) hx hb dL_refusesOne_368 (by decide) ?_
                cases hf
                refine W.widen (k := 204) (n := 1224) (by omega) (by omega) ?_
                exact W.zret (ty := .boolean) hx hb hr (by decide) (fun u hu _ => ⟨⟨rfl, by rw [hu]; exact hW⟩, hS.F hu⟩) hS.2.2 dL_refusesOne_369
              · have hf := ifp h46 hf
                refine lv_aload_n hx hb dL_refusesOne_166 rfl (lv_at hl 2 rfl) ?_
                refine lv_bipush (v := 8) hx hb dL_refusesOne_167 (by decide) ?_
                refine lv_bipush (v := 9) hx hb dL_refusesOne_169 (by decide) ?_
                refine lv_iload_n hx hb dL_refusesOne_171 rfl (lv_at hl 3 rfl) ?_
                refine lv_iconst (v := 0) hx hb dL_refusesOne_172 (by decide) ?_
                refine lv_bipush (v := 9) hx hb dL_refusesOne_173 (by decide) ?_
                obtain ⟨y47, u48, hf⟩ := b1_e hf
                refine lS (n := 3) (As := [.int p1, .int 0, .int 9]) (rest := [.int 9, .int 8, .ref (b + 0)]) (c_L_far l D t b σ45 p1 0 9 y47 u48) hx hb hml hown hts hE hsub hW hS q987 q988 q33  q989 hs_L_far ⟨rfl, rfl⟩ ⟨Nat.le_of_ble_eq_true rfl, Nat.le_of_ble_eq_true rfl⟩ rfl rfl hl.1 (Nat.le_of_ble_eq_true rfl) ⟨show 28 + 0 ≤ 204 by omega, show 168 + 0 ≤ 1224 by omega⟩ dL_refusesOne_175 (fun H locs hW hS _ => ?_)
                refine lv_iconst (v := 0) hx hb dL_refusesOne_178 (by decide) ?_
                refine lv_iconst (v := 0) hx hb dL_refusesOne_179 (by decide) ?_
                obtain ⟨y49, σ51, u50, hf⟩ := b2_e hf
                refine lSW (n := 6) (As := [.ref (b + 0), .int 8, .int 9, .int y47, .int 0, .int 0]) (rest := []) (c_L_call l hfl D t b σ45 8 9 y47 0 0 y49 σ51 u50) hx hb hml hown hts hE hsub hW hS q573 q574 q33  qw_L_call hs_L_call ⟨rfl, rfl⟩ ⟨Nat.le_of_ble_eq_true rfl, Nat.le_of_ble_eq_true rfl⟩ rfl rfl hl.1 (Nat.le_of_ble_eq_true rfl) ⟨show 28 + 4 ≤ 204 by omega, show 168 + 24 ≤ 1224 by omega⟩ dL_refusesOne_180 (fun H locs hW hS _ => ?_)
                refine W.widen (k := 32) (n := 192) (by omega) (by omega) ?_
                refine lv_sipush (v := (-2012)) hx hb dL_refusesOne_183 (by decide) ?_
                refine lv_icmp_ne (tgt := 368) hx hb dL_refusesOne_186 (by decide) (fun h52 => ?_) (fun h52 => ?_)
                · have hf := ifn h52 hf
                  refine lv_iconst (v := 0) hx hb dL_refusesOne_368 (by decide) ?_
                  cases hf
                  refine W.widen (k := 204) (n := 1224) (by omega) (by omega) ?_
                  exact W.zret (ty := .boolean) hx hb hr (by decide) (fun u hu _ => ⟨⟨rfl, by rw [hu]; exact hW⟩, hS.F hu⟩) hS.2.2 dL_refusesOne_369
                · have hf := ifp h52 hf
                  refine lv_aload_n hx hb dL_refusesOne_189 rfl (lv_at hl 2 rfl) ?_
                  refine lv_bipush (v := 9) hx hb dL_refusesOne_190 (by decide) ?_
                  refine lv_iload_n hx hb dL_refusesOne_192 rfl (lv_at hl 3 rfl) ?_
                  refine lv_iconst (v := 1) hx hb dL_refusesOne_193 (by decide) ?_
                  refine lv_bipush (v := 40) hx hb dL_refusesOne_194 (by decide) ?_
                  obtain ⟨y53, u54, hf⟩ := b1_e hf
                  refine lS (n := 3) (As := [.int p1, .int 1, .int 40]) (rest := [.int 9, .ref (b + 0)]) (c_L_far l D t b σ51 p1 1 40 y53 u54) hx hb hml hown hts hE hsub hW hS q987 q988 q33  q989 hs_L_far ⟨rfl, rfl⟩ ⟨Nat.le_of_ble_eq_true rfl, Nat.le_of_ble_eq_true rfl⟩ rfl rfl hl.1 (Nat.le_of_ble_eq_true rfl) ⟨show 32 + 0 ≤ 204 by omega, show 192 + 0 ≤ 1224 by omega⟩ dL_refusesOne_196 (fun H locs hW hS _ => ?_)
                  refine lv_iconst (v := 0) hx hb dL_refusesOne_199 (by decide) ?_
                  refine lv_iconst (v := 0) hx hb dL_refusesOne_200 (by decide) ?_
                  refine lv_iconst (v := 0) hx hb dL_refusesOne_201 (by decide) ?_
                  obtain ⟨y55, σ57, u56, hf⟩ := b2_e hf
                  refine lSW (n := 6) (As := [.ref (b + 0), .int 9, .int y53, .int 0, .int 0, .int 0]) (rest := []) (c_L_call l hfl D t b σ51 9 y53 0 0 0 y55 σ57 u56) hx hb hml hown hts hE hsub hW hS q573 q574 q33  qw_L_call hs_L_call ⟨rfl, rfl⟩ ⟨Nat.le_of_ble_eq_true rfl, Nat.le_of_ble_eq_true rfl⟩ rfl rfl hl.1 (Nat.le_of_ble_eq_true rfl) ⟨show 32 + 4 ≤ 204 by omega, show 192 + 24 ≤ 1224 by omega⟩ dL_refusesOne_202 (fun H locs hW hS _ => ?_)
                  refine W.widen (k := 36) (n := 216) (by omega) (by omega) ?_
                  refine lv_sipush (v := (-2012)) hx hb dL_refusesOne_205 (by decide) ?_
                  refine lv_icmp_ne (tgt := 368) hx hb dL_refusesOne_208 (by decide) (fun h58 => ?_) (fun h58 => ?_)
                  · have hf := ifn h58 hf
                    refine lv_iconst (v := 0) hx hb dL_refusesOne_368 (by decide) ?_
                    cases hf
                    refine W.widen (k := 204) (n := 1224) (by omega) (by omega) ?_
                    exact W.zret (ty := .boolean) hx hb hr (by decide) (fun u hu _ => ⟨⟨rfl, by rw [hu]; exact hW⟩, hS.F hu⟩) hS.2.2 dL_refusesOne_369
                  · have hf := ifp h58 hf
                    refine lv_aload_n hx hb dL_refusesOne_211 rfl (lv_at hl 2 rfl) ?_
                    refine lv_bipush (v := 30) hx hb dL_refusesOne_212 (by decide) ?_
                    refine lv_iload_n hx hb dL_refusesOne_214 rfl (lv_at hl 3 rfl) ?_
                    refine lv_iconst (v := 0) hx hb dL_refusesOne_215 (by decide) ?_
                    refine lv_bipush (v := 11) hx hb dL_refusesOne_216 (by decide) ?_
                    obtain ⟨y59, u60, hf⟩ := b1_e hf
                    refine lS (n := 3) (As := [.int p1, .int 0, .int 11]) (rest := [.int 30, .ref (b + 0)]) (c_L_far l D t b σ57 p1 0 11 y59 u60) hx hb hml hown hts hE hsub hW hS q987 q988 q33  q989 hs_L_far ⟨rfl, rfl⟩ ⟨Nat.le_of_ble_eq_true rfl, Nat.le_of_ble_eq_true rfl⟩ rfl rfl hl.1 (Nat.le_of_ble_eq_true rfl) ⟨show 36 + 0 ≤ 204 by omega, show 216 + 0 ≤ 1224 by omega⟩ dL_refusesOne_218 (fun H locs hW hS _ => ?_)
                    refine lv_iconst (v := 0) hx hb dL_refusesOne_221 (by decide) ?_
                    refine lv_iconst (v := 0) hx hb dL_refusesOne_222 (by decide) ?_
                    refine lv_iconst (v := 0) hx hb dL_refusesOne_223 (by decide) ?_
                    obtain ⟨y61, σ63, u62, hf⟩ := b2_e hf
                    refine lSW (n := 6) (As := [.ref (b + 0), .int 30, .int y59, .int 0, .int 0, .int 0]) (rest := []) (c_L_call l hfl D t b σ57 30 y59 0 0 0 y61 σ63 u62) hx hb hml hown hts hE hsub hW hS q573 q574 q33  qw_L_call hs_L_call ⟨rfl, rfl⟩ ⟨Nat.le_of_ble_eq_true rfl, Nat.le_of_ble_eq_true rfl⟩ rfl rfl hl.1 (Nat.le_of_ble_eq_true rfl) ⟨show 36 + 4 ≤ 204 by omega, show 216 + 24 ≤ 1224 by omega⟩ dL_refusesOne_224 (fun H locs hW hS _ => ?_)
                    refine W.widen (k := 40) (n := 240) (by omega) (by omega) ?_
                    refine lv_sipush (v := (-2011)) hx hb dL_refusesOne_227 (by decide) ?_
                    refine lv_icmp_ne (tgt := 368) hx hb dL_refusesOne_230 (by decide) (fun h64 => ?_) (fun h64 => ?_)
                    · have hf := ifn h64 hf
                      refine lv_iconst (v := 0) hx hb dL_refusesOne_368 (by decide) ?_
                      cases hf
                      refine W.widen (k := 204) (n := 1224) (by omega) (by omega) ?_
                      exact W.zret (ty := .boolean) hx hb hr (by decide) (fun u hu _ => ⟨⟨rfl, by rw [hu]; exact hW⟩, hS.F hu⟩) hS.2.2 dL_refusesOne_369
                    · have hf := ifp h64 hf
                      refine lv_aload_n hx hb dL_refusesOne_233 rfl (lv_at hl 2 rfl) ?_
                      refine lv_bipush (v := 31) hx hb dL_refusesOne_234 (by decide) ?_
                      refine lv_iload_n hx hb dL_refusesOne_236 rfl (lv_at hl 3 rfl) ?_
                      refine lv_iconst (v := 0) hx hb dL_refusesOne_237 (by decide) ?_
                      refine lv_bipush (v := 11) hx hb dL_refusesOne_238 (by decide) ?_
                      obtain ⟨y65, u66, hf⟩ := b1_e hf
                      refine lS (n := 3) (As := [.int p1, .int 0, .int 11]) (rest := [.int 31, .ref (b + 0)]) (c_L_far l D t b σ63 p1 0 11 y65 u66) hx hb hml hown hts hE hsub hW hS q987 q988 q33  q989 hs_L_far ⟨rfl, rfl⟩ ⟨Nat.le_of_ble_eq_true rfl, Nat.le_of_ble_eq_true rfl⟩ rfl rfl hl.1 (Nat.le_of_ble_eq_true rfl) ⟨show 40 + 0 ≤ 204 by omega, show 240 + 0 ≤ 1224 by omega⟩ dL_refusesOne_240 (fun H locs hW hS _ => ?_)
                      refine lv_iconst (v := 0) hx hb dL_refusesOne_243 (by decide) ?_
                      refine lv_iconst (v := 0) hx hb dL_refusesOne_244 (by decide) ?_
                      refine lv_iconst (v := 0) hx hb dL_refusesOne_245 (by decide) ?_
                      obtain ⟨y67, σ69, u68, hf⟩ := b2_e hf
                      refine lSW (n := 6) (As := [.ref (b + 0), .int 31, .int y65, .int 0, .int 0, .int 0]) (rest := []) (c_L_call l hfl D t b σ63 31 y65 0 0 0 y67 σ69 u68) hx hb hml hown hts hE hsub hW hS q573 q574 q33  qw_L_call hs_L_call ⟨rfl, rfl⟩ ⟨Nat.le_of_ble_eq_true rfl, Nat.le_of_ble_eq_true rfl⟩ rfl rfl hl.1 (Nat.le_of_ble_eq_true rfl) ⟨show 40 + 4 ≤ 204 by omega, show 240 + 24 ≤ 1224 by omega⟩ dL_refusesOne_246 (fun H locs hW hS _ => ?_)
                      refine W.widen (k := 44) (n := 264) (by omega) (by omega) ?_
                      refine lv_sipush (v := (-2011)) hx hb dL_refusesOne_249 (by decide) ?_
                      refine lv_icmp_ne (tgt := 368) hx hb dL_refusesOne_252 (by decide) (fun h70 => ?_) (fun h70 => ?_)
                      · have hf := ifn h70 hf
                        refine lv_iconst (v := 0) hx hb dL_refusesOne_368 (by decide) ?_
                        cases hf
                        refine W.widen (k := 204) (n := 1224) (by omega) (by omega) ?_
                        exact W.zret (ty := .boolean) hx hb hr (by decide) (fun u hu _ => ⟨⟨rfl, by rw [hu]; exact hW⟩, hS.F hu⟩) hS.2.2 dL_refusesOne_369
                      · have hf := ifp h70 hf
                        refine lv_aload_n hx hb dL_refusesOne_255 rfl (lv_at hl 2 rfl) ?_
                        refine lv_bipush (v := 32) hx hb dL_refusesOne_256 (by decide) ?_
                        refine lv_iload_n hx hb dL_refusesOne_258 rfl (lv_at hl 0 rfl) ?_
                        refine lv_iconst (v := 0) hx hb dL_refusesOne_259 (by decide) ?_
                        refine lv_iconst (v := 0) hx hb dL_refusesOne_260 (by decide) ?_
                        refine lv_iconst (v := 0) hx hb dL_refusesOne_261 (by decide) ?_
                        obtain ⟨y71, σ73, u72, hf⟩ := b2_e hf
                        refine lSW (n := 6) (As := [.ref (b + 0), .int 32, .int y5, .int 0, .int 0, .int 0]) (rest := []) (c_L_call l hfl D t b σ69 32 y5 0 0 0 y71 σ73 u72) hx hb hml hown hts hE hsub hW hS q573 q574 q33  qw_L_call hs_L_call ⟨rfl, rfl⟩ ⟨Nat.le_of_ble_eq_true rfl, Nat.le_of_ble_eq_true rfl⟩ rfl rfl hl.1 (Nat.le_of_ble_eq_true rfl) ⟨show 44 + 4 ≤ 204 by omega, show 264 + 24 ≤ 1224 by omega⟩ dL_refusesOne_262 (fun H locs hW hS _ => ?_)
                        refine W.widen (k := 48) (n := 288) (by omega) (by omega) ?_
                        refine lv_sipush (v := (-2011)) hx hb dL_refusesOne_265 (by decide) ?_
                        refine lv_icmp_ne (tgt := 368) hx hb dL_refusesOne_268 (by decide) (fun h74 => ?_) (fun h74 => ?_)
                        · have hf := ifn h74 hf
                          refine lv_iconst (v := 0) hx hb dL_refusesOne_368 (by decide) ?_
                          cases hf
                          refine W.widen (k := 204) (n := 1224) (by omega) (by omega) ?_
                          exact W.zret (ty := .boolean) hx hb hr (by decide) (fun u hu _ => ⟨⟨rfl, by rw [hu]; exact hW⟩, hS.F hu⟩) hS.2.2 dL_refusesOne_369
                        · have hf := ifp h74 hf
                          refine lv_aload_n hx hb dL_refusesOne_271 rfl (lv_at hl 2 rfl) ?_
                          refine lv_bipush (v := 33) hx hb dL_refusesOne_272 (by decide) ?_
                          refine lv_iload_n hx hb dL_refusesOne_274 rfl (lv_at hl 3 rfl) ?_
                          refine lv_iconst (v := 0) hx hb dL_refusesOne_275 (by decide) ?_
                          refine lv_bipush (v := 9) hx hb dL_refusesOne_276 (by decide) ?_
                          obtain ⟨y75, u76, hf⟩ := b1_e hf
                          refine lS (n := 3) (As := [.int p1, .int 0, .int 9]) (rest := [.int 33, .ref (b + 0)]) (c_L_far l D t b σ73 p1 0 9 y75 u76) hx hb hml hown hts hE hsub hW hS q987 q988 q33  q989 hs_L_far ⟨rfl, rfl⟩ ⟨Nat.le_of_ble_eq_true rfl, Nat.le_of_ble_eq_true rfl⟩ rfl rfl hl.1 (Nat.le_of_ble_eq_true rfl) ⟨show 48 + 0 ≤ 204 by omega, show 288 + 0 ≤ 1224 by omega⟩ dL_refusesOne_278 (fun H locs hW hS _ => ?_)
                          refine lv_iconst (v := 0) hx hb dL_refusesOne_281 (by decide) ?_
                          refine lv_iconst (v := 0) hx hb dL_refusesOne_282 (by decide) ?_
                          refine lv_iconst (v := 0) hx hb dL_refusesOne_283 (by decide) ?_
                          obtain ⟨y77, σ79, u78, hf⟩ := b2_e hf
                          refine lSW (n := 6) (As := [.ref (b + 0), .int 33, .int y75, .int 0, .int 0, .int 0]) (rest := []) (c_L_call l hfl D t b σ73 33 y75 0 0 0 y77 σ79 u78) hx hb hml hown hts hE hsub hW hS q573 q574 q33  qw_L_call hs_L_call ⟨rfl, rfl⟩ ⟨Nat.le_of_ble_eq_true rfl, Nat.le_of_ble_eq_true rfl⟩ rfl rfl hl.1 (Nat.le_of_ble_eq_true rfl) ⟨show 48 + 4 ≤ 204 by omega, show 288 + 24 ≤ 1224 by omega⟩ dL_refusesOne_284 (fun H locs hW hS _ => ?_)
                          refine W.widen (k := 52) (n := 312) (by omega) (by omega) ?_
                          refine lv_sipush (v := (-2011)) hx hb dL_refusesOne_287 (by decide) ?_
                          refine lv_icmp_ne (tgt := 368) hx hb dL_refusesOne_290 (by decide) (fun h80 => ?_) (fun h80 => ?_)
                          · have hf := ifn h80 hf
                            refine lv_iconst (v := 0) hx hb dL_refusesOne_368 (by decide) ?_
                            cases hf
                            refine W.widen (k := 204) (n := 1224) (by omega) (by omega) ?_
                            exact W.zret (ty := .boolean) hx hb hr (by decide) (fun u hu _ => ⟨⟨rfl, by rw [hu]; exact hW⟩, hS.F hu⟩) hS.2.2 dL_refusesOne_369
                          · have hf := ifp h80 hf
                            refine lv_aload_n hx hb dL_refusesOne_293 rfl (lv_at hl 2 rfl) ?_
                            refine lv_bipush (v := 34) hx hb dL_refusesOne_294 (by decide) ?_
                            refine lv_iload_n hx hb dL_refusesOne_296 rfl (lv_at hl 3 rfl) ?_
                            refine lv_iconst (v := 0) hx hb dL_refusesOne_297 (by decide) ?_
                            refine lv_iconst (v := 4) hx hb dL_refusesOne_298 (by decide) ?_
                            obtain ⟨y81, u82, hf⟩ := b1_e hf
                            refine lS (n := 3) (As := [.int p1, .int 0, .int 4]) (rest := [.int 34, .ref (b + 0)]) (c_L_far l D t b σ79 p1 0 4 y81 u82) hx hb hml hown hts hE hsub hW hS q987 q988 q33  q989 hs_L_far ⟨rfl, rfl⟩ ⟨Nat.le_of_ble_eq_true rfl, Nat.le_of_ble_eq_true rfl⟩ rfl rfl hl.1 (Nat.le_of_ble_eq_true rfl) ⟨show 52 + 0 ≤ 204 by omega, show 312 + 0 ≤ 1224 by omega⟩ dL_refusesOne_299 (fun H locs hW hS _ => ?_)
                            refine lv_iconst (v := 0) hx hb dL_refusesOne_302 (by decide) ?_
                            refine lv_iconst (v := 0) hx hb dL_refusesOne_303 (by decide) ?_
                            refine lv_iconst (v := 0) hx hb dL_refusesOne_304 (by decide) ?_
                            obtain ⟨y83, σ85, u84, hf⟩ := b2_e hf
                            refine lSW (n := 6) (As := [.ref (b + 0), .int 34, .int y81, .int 0, .int 0, .int 0]) (rest := []) (c_L_call l hfl D t b σ79 34 y81 0 0 0 y83 σ85 u84) hx hb hml hown hts hE hsub hW hS q573 q574 q33  qw_L_call hs_L_call ⟨rfl, rfl⟩ ⟨Nat.le_of_ble_eq_true rfl, Nat.le_of_ble_eq_true rfl⟩ rfl rfl hl.1 (Nat.le_of_ble_eq_true rfl) ⟨show 52 + 4 ≤ 204 by omega, show 312 + 24 ≤ 1224 by omega⟩ dL_refusesOne_305 (fun H locs hW hS _ => ?_)
                            refine W.widen (k := 56) (n := 336) (by omega) (by omega) ?_
                            refine lv_sipush (v := (-2011)) hx hb dL_refusesOne_308 (by decide) ?_
                            refine lv_icmp_ne (tgt := 368) hx hb dL_refusesOne_311 (by decide) (fun h86 => ?_) (fun h86 => ?_)
                            · have hf := ifn h86 hf
                              refine lv_iconst (v := 0) hx hb dL_refusesOne_368 (by decide) ?_
                              cases hf
                              refine W.widen (k := 204) (n := 1224) (by omega) (by omega) ?_
                              exact W.zret (ty := .boolean) hx hb hr (by decide) (fun u hu _ => ⟨⟨rfl, by rw [hu]; exact hW⟩, hS.F hu⟩) hS.2.2 dL_refusesOne_369
                            · have hf := ifp h86 hf
                              refine lv_aload_n hx hb dL_refusesOne_314 rfl (lv_at hl 2 rfl) ?_
                              refine lv_bipush (v := 34) hx hb dL_refusesOne_315 (by decide) ?_
                              refine lv_iconst (v := 4) hx hb dL_refusesOne_317 (by decide) ?_
                              refine lv_iload_n hx hb dL_refusesOne_318 rfl (lv_at hl 3 rfl) ?_
                              refine lv_iconst (v := 1) hx hb dL_refusesOne_319 (by decide) ?_
                              refine lv_bipush (v := 9) hx hb dL_refusesOne_320 (by decide) ?_
                              obtain ⟨y87, u88, hf⟩ := b1_e hf
                              refine lS (n := 3) (As := [.int p1, .int 1, .int 9]) (rest := [.int 4, .int 34, .ref (b + 0)]) (c_L_far l D t b σ85 p1 1 9 y87 u88) hx hb hml hown hts hE hsub hW hS q987 q988 q33  q989 hs_L_far ⟨rfl, rfl⟩ ⟨Nat.le_of_ble_eq_true rfl, Nat.le_of_ble_eq_true rfl⟩ rfl rfl hl.1 (Nat.le_of_ble_eq_true rfl) ⟨show 56 + 0 ≤ 204 by omega, show 336 + 0 ≤ 1224 by omega⟩ dL_refusesOne_322 (fun H locs hW hS _ => ?_)
                              refine lv_iconst (v := 0) hx hb dL_refusesOne_325 (by decide) ?_
                              refine lv_iconst (v := 0) hx hb dL_refusesOne_326 (by decide) ?_
                              obtain ⟨y89, σ91, u90, hf⟩ := b2_e hf
                              refine lSW (n := 6) (As := [.ref (b + 0), .int 34, .int 4, .int y87, .int 0, .int 0]) (rest := []) (c_L_call l hfl D t b σ85 34 4 y87 0 0 y89 σ91 u90) hx hb hml hown hts hE hsub hW hS q573 q574 q33  qw_L_call hs_L_call ⟨rfl, rfl⟩ ⟨Nat.le_of_ble_eq_true rfl, Nat.le_of_ble_eq_true rfl⟩ rfl rfl hl.1 (Nat.le_of_ble_eq_true rfl) ⟨show 56 + 4 ≤ 204 by omega, show 336 + 24 ≤ 1224 by omega⟩ dL_refusesOne_327 (fun H locs hW hS _ => ?_)
                              refine W.widen (k := 60) (n := 360) (by omega) (by omega) ?_
                              refine lv_sipush (v := (-2012)) hx hb dL_refusesOne_330 (by decide) ?_
                              refine lv_icmp_ne (tgt := 368) hx hb dL_refusesOne_333 (by decide) (fun h92 => ?_) (fun h92 => ?_)
                              · have hf := ifn h92 hf
                                refine lv_iconst (v := 0) hx hb dL_refusesOne_368 (by decide) ?_
                                cases hf
                                refine W.widen (k := 204) (n := 1224) (by omega) (by omega) ?_
                                exact W.zret (ty := .boolean) hx hb hr (by decide) (fun u hu _ => ⟨⟨rfl, by rw [hu]; exact hW⟩, hS.F hu⟩) hS.2.2 dL_refusesOne_369
                              · have hf := ifp h92 hf
                                refine lv_aload_n hx hb dL_refusesOne_336 rfl (lv_at hl 2 rfl) ?_
                                refine lv_bipush (v := 36) hx hb dL_refusesOne_337 (by decide) ?_
                                refine lv_iconst (v := 0) hx hb dL_refusesOne_339 (by decide) ?_
                                refine lv_iconst (v := 0) hx hb dL_refusesOne_340 (by decide) ?_
                                refine lv_iconst (v := 0) hx hb dL_refusesOne_341 (by decide) ?_
                                refine lv_iconst (v := 0) hx hb dL_refusesOne_342 (by decide) ?_
                                obtain ⟨y93, σ95, u94, hf⟩ := b2_e hf
                                refine lSW (n := 6) (As := [.ref (b + 0), .int 36, .int 0, .int 0, .int 0, .int 0]) (rest := []) (c_L_call l hfl D t b σ91 36 0 0 0 0 y93 σ95 u94) hx hb hml hown hts hE hsub hW hS q573 q574 q33  qw_L_call hs_L_call ⟨rfl, rfl⟩ ⟨Nat.le_of_ble_eq_true rfl, Nat.le_of_ble_eq_true rfl⟩ rfl rfl hl.1 (Nat.le_of_ble_eq_true rfl) ⟨show 60 + 4 ≤ 204 by omega, show 360 + 24 ≤ 1224 by omega⟩ dL_refusesOne_343 (fun H locs hW hS _ => ?_)
                                refine W.widen (k := 64) (n := 384) (by omega) (by omega) ?_
                                refine lv_sipush (v := (-2013)) hx hb dL_refusesOne_346 (by decide) ?_
                                refine lv_icmp_ne (tgt := 368) hx hb dL_refusesOne_349 (by decide) (fun h96 => ?_) (fun h96 => ?_)
                                · have hf := ifn h96 hf
                                  refine lv_iconst (v := 0) hx hb dL_refusesOne_368 (by decide) ?_
                                  cases hf
                                  refine W.widen (k := 204) (n := 1224) (by omega) (by omega) ?_
                                  exact W.zret (ty := .boolean) hx hb hr (by decide) (fun u hu _ => ⟨⟨rfl, by rw [hu]; exact hW⟩, hS.F hu⟩) hS.2.2 dL_refusesOne_369
                                · have hf := ifp h96 hf
                                  refine lv_aload_n hx hb dL_refusesOne_352 rfl (lv_at hl 2 rfl) ?_
                                  refine lv_bipush (v := 37) hx hb dL_refusesOne_353 (by decide) ?_
                                  refine lv_iconst (v := 0) hx hb dL_refusesOne_355 (by decide) ?_
                                  refine lv_iconst (v := 0) hx hb dL_refusesOne_356 (by decide) ?_
                                  refine lv_iconst (v := 0) hx hb dL_refusesOne_357 (by decide) ?_
                                  refine lv_iconst (v := 0) hx hb dL_refusesOne_358 (by decide) ?_
                                  obtain ⟨y97, σ99, u98, hf⟩ := b2_e hf
                                  refine lSW (n := 6) (As := [.ref (b + 0), .int 37, .int 0, .int 0, .int 0, .int 0]) (rest := []) (c_L_call l hfl D t b σ95 37 0 0 0 0 y97 σ99 u98) hx hb hml hown hts hE hsub hW hS q573 q574 q33  qw_L_call hs_L_call ⟨rfl, rfl⟩ ⟨Nat.le_of_ble_eq_true rfl, Nat.le_of_ble_eq_true rfl⟩ rfl rfl hl.1 (Nat.le_of_ble_eq_true rfl) ⟨show 64 + 4 ≤ 204 by omega, show 384 + 24 ≤ 1224 by omega⟩ dL_refusesOne_359 (fun H locs hW hS _ => ?_)
                                  refine W.widen (k := 68) (n := 408) (by omega) (by omega) ?_
                                  refine lv_sipush (v := (-2013)) hx hb dL_refusesOne_362 (by decide) ?_
                                  refine lv_icmp_eq (tgt := 370) hx hb dL_refusesOne_365 (by decide) (fun h100 => ?_) (fun h100 => ?_)
                                  · have hf := ifp h100 hf
                                    refine lv_iconst (v := 1) hx hb dL_refusesOne_370 (by decide) ?_
                                    refine lv_istore (lv' := [(4, .int 1), (3, .int y5), (2, .int y3), (0, .ref (b + 0)), (1, .int p1)]) hx hb dL_refusesOne_371 hl (by decide) rfl (fun ls hl => ?_)
                                    obtain ⟨res, hl0, hA, hB⟩ := bl_e hf
                                    have key_373 : ∀ (n : Nat) (τ : Sg) (x1 : Int32) (x2 : Int32) (x3 : Int32) (x4 : Int32) (cl sl ce se : Nat) (H : Heap) (locs : List Loc) (ls : Array Slot) (res : (Int32 × Sg) ⊕ (Sg × Int32 × Int32 × Int32)), l_L_refusesOne_373 n τ x1 x2 x3 x4 = some res → cl + 4 * n = ce → sl + 24 * n = se → ce ≤ 204 → se ≤ 1224 → (∀ a, res = .inl a → a = (r, σr)) → (∀ q373, res = .inr q373 → ∀ (H : Heap) (locs : List Loc) (ls : Array Slot), wd D t b q373.1 H → va_S (geA b) s.heap H locs → lv_has ls 5 [(0, .ref (b + 0)), (1, .int q373.2.1), (2, .int q373.2.2.1), (3, .int q373.2.2.2)] → W p l e (headSpec (Cond.code yL_refusesOne cL_refusesOne 5 (some .boolean) :: ALL) ({ frames := 11, cells := 204, slots := 1224, locals := 208 })).room s m (([.ref (b + 0), .int p1] : List Value).toArray) below meth c H locs ce se (MQ below (QG D t b σr (some (.int r))) (([.ref (b + 0), .int p1] : List Value).toArray) s 204 1224 (geA b)) (F0 m 404 ls [])) → wd D t b τ H → va_S (geA b) s.heap H locs → lv_has ls 5 [(0, .ref (b + 0)), (1, .int x1), (2, .int x2), (3, .int x3), (4, .int x4)] → W p l e (headSpec (Cond.code yL_refusesOne cL_refusesOne 5 (some .boolean) :: ALL) ({ frames := 11, cells := 204, slots := 1224, locals := 208 })).room s m (([.ref (b + 0), .int p1] : List Value).toArray) below meth c H locs cl sl (MQ below (QG D t b σr (some (.int r))) (([.ref (b + 0), .int p1] : List Value).toArray) s 204 1224 (geA b)) (F0 m 373 ls []) := by
                                      intro n
                                      induction n with
                                      | zero =>
                                        intro τ x1 x2 x3 x4 cl sl ce se H locs ls res hf
                                        rw [l_L_refusesOne_373.eq_1] at hf
                                        cases hf
                                      | succ n ih_373 =>
                                        intro τ x1 x2 x3 x4 cl sl ce se H locs ls res hf hce hse hcm hsm kx kk hW hS hl
                                        rw [l_L_refusesOne_373.eq_2] at hf
                                        refine lv_iload hx hb dL_refusesOne_373 (lv_at hl 4 rfl) ?_
                                        refine lv_bipush (v := 7) hx hb dL_refusesOne_375 (by decide) ?_
                                        refine lv_icmp_ge (tgt := 404) hx hb dL_refusesOne_377 (by decide) (fun h101 => ?_) (fun h101 => ?_)
                                        · have hf := ifp h101 hf
                                          cases hf
                                          refine W.widen (k := ce) (n := se) (by omega) (by omega) ?_
                                          exact kk _ rfl _ _ _ hW hS (lv_sub hl [0, 1, 2, 3] rfl)
                                        · have hf := ifn h101 hf
                                          refine lv_aload_n hx hb dL_refusesOne_380 rfl (lv_at hl 0 rfl) ?_
                                          refine lv_iload hx hb dL_refusesOne_381 (lv_at hl 4 rfl) ?_
                                          refine lv_iload_n hx hb dL_refusesOne_383 rfl (lv_at hl 2 rfl) ?_
                                          refine lv_iconst (v := 0) hx hb dL_refusesOne_384 (by decide) ?_
                                          refine lv_iconst (v := 0) hx hb dL_refusesOne_385 (by decide) ?_
                                          refine lv_iconst (v := 0) hx hb dL_refusesOne_386 (by decide) ?_
                                          obtain ⟨y102, σ104, u103, hf⟩ := b2_e hf
                                          refine lSW (n := 6) (As := [.ref (b + 0), .int x4, .int x2, .int 0, .int 0, .int 0]) (rest := []) (c_L_call l hfl D t b τ x4 x2 0 0 0 y102 σ104 u103) hx hb hml hown hts hE hsub hW hS q573 q574 q33  qw_L_call hs_L_call ⟨rfl, rfl⟩ ⟨Nat.le_of_ble_eq_true rfl, Nat.le_of_ble_eq_true rfl⟩ rfl rfl hl.1 (Nat.le_of_ble_eq_true rfl) ⟨show cl + 0 + 4 ≤ 204 by omega, show sl + 0 + 24 ≤ 1224 by omega⟩ dL_refusesOne_387 (fun H locs hW hS _ => ?_)
                                          refine W.widen (k := cl + 4) (n := sl + 24) (by omega) (by omega) ?_
                                          refine lv_sipush (v := (-2011)) hx hb dL_refusesOne_390 (by decide) ?_
                                          refine lv_icmp_eq (tgt := 398) hx hb dL_refusesOne_393 (by decide) (fun h105 => ?_) (fun h105 => ?_)
                                          · have hf := ifp h105 hf
                                            refine lv_iinc (v := (x4 + 1)) (lv' := [(4, .int (x4 + 1)), (0, .ref (b + 0)), (1, .int x1), (2, .int x2), (3, .int x3)]) hx hb dL_refusesOne_398 hl (k := 4) rfl (by rfl) (by decide) rfl (fun ls hl => ?_)
                                            refine lv_goto (tgt := 373) hx hb dL_refusesOne_401 (by decide) ?_
                                            refine W.widen (k := cl + 4) (n := sl + 24) (by omega) (by omega) ?_
                                            exact ih_373 σ104 x1 x2 x3 (x4 + 1) (cl + 4) (sl + 24) ce se _ _ _ _ hf (by omega) (by omega) hcm hsm kx kk hW hS (lv_sub hl [1, 2, 3, 4, 0] rfl)
                                          · have hf := ifn h105 hf
                                            refine lv_iconst (v := 0) hx hb dL_refusesOne_396 (by decide) ?_
                                            cases hf
                                            have h9 := kx _ rfl
                                            cases h9
                                            refine W.widen (k := 204) (n := 1224) (by omega) (by omega) ?_
                                            exact W.zret (ty := .boolean) hx hb hr (by decide) (fun u hu _ => ⟨⟨rfl, by rw [hu]; exact hW⟩, hS.F hu⟩) hS.2.2 dL_refusesOne_397
                                    refine key_373 7 σ99 p1 y3 y5 1 (68) (408) (96) (576) _ _ _ res hl0 (by omega) (by omega) (show 96 ≤ 204 by omega) (show 576 ≤ 1224 by omega) (fun a h => hA a h) (fun q373 hq H locs ls hW hS hl => ?_) hW hS (lv_sub hl [3, 4, 2, 1, 0] rfl)
                                    have hf := hB _ hq
                                    refine lv_bipush (v := 12) hx hb dL_refusesOne_404 (by decide) ?_
                                    refine lv_istore (lv' := [(4, .int 12), (0, .ref (b + 0)), (1, .int q373.2.1), (2, .int q373.2.2.1), (3, .int q373.2.2.2)]) hx hb dL_refusesOne_406 hl (by decide) rfl (fun ls hl => ?_)
                                    obtain ⟨res, hl0, hA, hB⟩ := bl_e hf
                                    have key_408 : ∀ (n : Nat) (τ : Sg) (x1 : Int32) (x2 : Int32) (x3 : Int32) (x4 : Int32) (cl sl ce se : Nat) (H : Heap) (locs : List Loc) (ls : Array Slot) (res : (Int32 × Sg) ⊕ (Sg × Int32 × Int32)), l_L_refusesOne_408 n τ x1 x2 x3 x4 = some res → cl + 4 * n = ce → sl + 24 * n = se → ce ≤ 204 → se ≤ 1224 → (∀ a, res = .inl a → a = (r, σr)) → (∀ q408, res = .inr q408 → ∀ (H : Heap) (locs : List Loc) (ls : Array Slot), wd D t b q408.1 H → va_S (geA b) s.heap H locs → lv_has ls 5 [(0, .ref (b + 0)), (1, .int q408.2.1), (3, .int q408.2.2)] → W p l e (headSpec (Cond.code yL_refusesOne cL_refusesOne 5 (some .boolean) :: ALL) ({ frames := 11, cells := 204, slots := 1224, locals := 208 })).room s m (([.ref (b + 0), .int p1] : List Value).toArray) below meth c H locs ce se (MQ below (QG D t b σr (some (.int r))) (([.ref (b + 0), .int p1] : List Value).toArray) s 204 1224 (geA b)) (F0 m 439 ls [])) → wd D t b τ H → va_S (geA b) s.heap H locs → lv_has ls 5 [(0, .ref (b + 0)), (1, .int x1), (2, .int x2), (3, .int x3), (4, .int x4)] → W p l e (headSpec (Cond.code yL_refusesOne cL_refusesOne 5 (some .boolean) :: ALL) ({ frames := 11, cells := 204, slots := 1224, locals := 208 })).room s m (([.ref (b + 0), .int p1] : List Value).toArray) below meth c H locs cl sl (MQ below (QG D t b σr (some (.int r))) (([.ref (b + 0), .int p1] : List Value).toArray) s 204 1224 (geA b)) (F0 m 408 ls []) := by
                                      intro n
                                      induction n with
                                      | zero =>
                                        intro τ x1 x2 x3 x4 cl sl ce se H locs ls res hf
                                        rw [l_L_refusesOne_408.eq_1] at hf
                                        cases hf
                                      | succ n ih_408 =>
                                        intro τ x1 x2 x3 x4 cl sl ce se H locs ls res hf hce hse hcm hsm kx kk hW hS hl
                                        rw [l_L_refusesOne_408.eq_2] at hf
                                        refine lv_iload hx hb dL_refusesOne_408 (lv_at hl 4 rfl) ?_
                                        refine lv_bipush (v := 22) hx hb dL_refusesOne_410 (by decide) ?_
                                        refine lv_icmp_ge (tgt := 439) hx hb dL_refusesOne_412 (by decide) (fun h106 => ?_) (fun h106 => ?_)
                                        · have hf := ifp h106 hf
                                          cases hf
                                          refine W.widen (k := ce) (n := se) (by omega) (by omega) ?_
                                          exact kk _ rfl _ _ _ hW hS (lv_sub hl [0, 1, 3] rfl)
                                        · have hf := ifn h106 hf
                                          refine lv_aload_n hx hb dL_refusesOne_415 rfl (lv_at hl 0 rfl) ?_
                                          refine lv_iload hx hb dL_refusesOne_416 (lv_at hl 4 rfl) ?_
                                          refine lv_iload_n hx hb dL_refusesOne_418 rfl (lv_at hl 2 rfl) ?_
                                          refine lv_iconst (v := 0) hx hb dL_refusesOne_419 (by decide) ?_
                                          refine lv_iconst (v := 0) hx hb dL_refusesOne_420 (by decide) ?_
                                          refine lv_iconst (v := 0) hx hb dL_refusesOne_421 (by decide) ?_
                                          obtain ⟨y107, σ109, u108, hf⟩ := b2_e hf
                                          refine lSW (n := 6) (As := [.ref (b + 0), .int x4, .int x2, .int 0, .int 0, .int 0]) (rest := []) (c_L_call l hfl D t b τ x4 x2 0 0 0 y107 σ109 u108) hx hb hml hown hts hE hsub hW hS q573 q574 q33  qw_L_call hs_L_call ⟨rfl, rfl⟩ ⟨Nat.le_of_ble_eq_true rfl, Nat.le_of_ble_eq_true rfl⟩ rfl rfl hl.1 (Nat.le_of_ble_eq_true rfl) ⟨show cl + 0 + 4 ≤ 204 by omega, show sl + 0 + 24 ≤ 1224 by omega⟩ dL_refusesOne_422 (fun H locs hW hS _ => ?_)
                                          refine W.widen (k := cl + 4) (n := sl + 24) (by omega) (by omega) ?_
                                          refine lv_sipush (v := (-2011)) hx hb dL_refusesOne_425 (by decide) ?_
                                          refine lv_icmp_eq (tgt := 433) hx hb dL_refusesOne_428 (by decide) (fun h110 => ?_) (fun h110 => ?_)
                                          · have hf := ifp h110 hf
                                            refine lv_iinc (v := (x4 + 1)) (lv' := [(4, .int (x4 + 1)), (0, .ref (b + 0)), (1, .int x1), (2, .int x2), (3, .int x3)]) hx hb dL_refusesOne_433 hl (k := 4) rfl (by rfl) (by decide) rfl (fun ls hl => ?_)
                                            refine lv_goto (tgt := 408) hx hb dL_refusesOne_436 (by decide) ?_
                                            refine W.widen (k := cl + 4) (n := sl + 24) (by omega) (by omega) ?_
                                            exact ih_408 σ109 x1 x2 x3 (x4 + 1) (cl + 4) (sl + 24) ce se _ _ _ _ hf (by omega) (by omega) hcm hsm kx kk hW hS (lv_sub hl [1, 2, 3, 4, 0] rfl)
                                          · have hf := ifn h110 hf
                                            refine lv_iconst (v := 0) hx hb dL_refusesOne_431 (by decide) ?_
                                            cases hf
                                            have h9 := kx _ rfl
                                            cases h9
                                            refine W.widen (k := 204) (n := 1224) (by omega) (by omega) ?_
                                            exact W.zret (ty := .boolean) hx hb hr (by decide) (fun u hu _ => ⟨⟨rfl, by rw [hu]; exact hW⟩, hS.F hu⟩) hS.2.2 dL_refusesOne_432
                                    refine key_408 11 q373.1 q373.2.1 q373.2.2.1 q373.2.2.2 12 (96) (576) (140) (840) _ _ _ res hl0 (by omega) (by omega) (show 140 ≤ 204 by omega) (show 840 ≤ 1224 by omega) (fun a h => hA a h) (fun q408 hq H locs ls hW hS hl => ?_) hW hS (lv_sub hl [1, 2, 3, 4, 0] rfl)
                                    have hf := hB _ hq
                                    refine lv_bipush (v := 22) hx hb dL_refusesOne_439 (by decide) ?_
                                    refine lv_istore (lv' := [(4, .int 22), (0, .ref (b + 0)), (1, .int q408.2.1), (3, .int q408.2.2)]) hx hb dL_refusesOne_441 hl (by decide) rfl (fun ls hl => ?_)
                                    obtain ⟨res, hl0, hA, hB⟩ := bl_e hf
                                    have key_443 : ∀ (n : Nat) (τ : Sg) (x1 : Int32) (x3 : Int32) (x4 : Int32) (cl sl ce se : Nat) (H : Heap) (locs : List Loc) (ls : Array Slot) (res : (Int32 × Sg) ⊕ (Sg × Int32 × Int32)), l_L_refusesOne_443 n τ x1 x3 x4 = some res → cl + 4 * n = ce → sl + 24 * n = se → ce ≤ 204 → se ≤ 1224 → (∀ a, res = .inl a → a = (r, σr)) → (∀ q443, res = .inr q443 → ∀ (H : Heap) (locs : List Loc) (ls : Array Slot), wd D t b q443.1 H → va_S (geA b) s.heap H locs → lv_has ls 5 [(0, .ref (b + 0)), (1, .int q443.2.1), (3, .int q443.2.2)] → W p l e (headSpec (Cond.code yL_refusesOne cL_refusesOne 5 (some .boolean) :: ALL) ({ frames := 11, cells := 204, slots := 1224, locals := 208 })).room s m (([.ref (b + 0), .int p1] : List Value).toArray) below meth c H locs ce se (MQ below (QG D t b σr (some (.int r))) (([.ref (b + 0), .int p1] : List Value).toArray) s 204 1224 (geA b)) (F0 m 484 ls [])) → wd D t b τ H → va_S (geA b) s.heap H locs → lv_has ls 5 [(0, .ref (b + 0)), (1, .int x1), (3, .int x3), (4, .int x4)] → W p l e (headSpec (Cond.code yL_refusesOne cL_refusesOne 5 (some .boolean) :: ALL) ({ frames := 11, cells := 204, slots := 1224, locals := 208 })).room s m (([.ref (b + 0), .int p1] : List Value).toArray) below meth c H locs cl sl (MQ below (QG D t b σr (some (.int r))) (([.ref (b + 0), .int p1] : List Value).toArray) s 204 1224 (geA b)) (F0 m 443 ls []) := by
                                      intro n
                                      induction n with
                                      | zero =>
                                        intro τ x1 x3 x4 cl sl ce se H locs ls res hf
                                        rw [l_L_refusesOne_443.eq_1] at hf
                                        cases hf
                                      | succ n ih_443 =>
                                        intro τ x1 x3 x4 cl sl ce se H locs ls res hf hce hse hcm hsm kx kk hW hS hl
                                        rw [l_L_refusesOne_443.eq_2] at hf
                                        refine lv_iload hx hb dL_refusesOne_443 (lv_at hl 3 rfl) ?_
                                        refine lv_bipush (v := 30) hx hb dL_refusesOne_445 (by decide) ?_
                                        refine lv_icmp_ge (tgt := 484) hx hb dL_refusesOne_447 (by decide) (fun h111 => ?_) (fun h111 => ?_)
                                        · have hf := ifp h111 hf
                                          cases hf
                                          refine W.widen (k := ce) (n := se) (by omega) (by omega) ?_
                                          exact kk _ rfl _ _ _ hW hS (lv_sub hl [0, 1, 2] rfl)
                                        · have hf := ifn h111 hf
                                          refine lv_aload_n hx hb dL_refusesOne_450 rfl (lv_at hl 0 rfl) ?_
                                          refine lv_iload hx hb dL_refusesOne_451 (lv_at hl 3 rfl) ?_
                                          refine lv_iload_n hx hb dL_refusesOne_453 rfl (lv_at hl 1 rfl) ?_
                                          refine lv_iconst (v := 0) hx hb dL_refusesOne_454 (by decide) ?_
                                          refine lv_aload_n hx hb dL_refusesOne_455 rfl (lv_at hl 0 rfl) ?_
                                          obtain ⟨y112, u113, hf⟩ := b1_e hf
                                          refine lV (n := 0) (As := []) (rest := [.int 0, .int x1, .int x4, .ref (b + 0)]) (c_X4_children l D t b τ y112 u113) hx hb hml hown hts hE hsub hW hS q977 q978 q979 q34 q980 hy_X4_children ⟨rfl, rfl⟩ ⟨Nat.le_of_ble_eq_true rfl, Nat.le_of_ble_eq_true rfl⟩ rfl rfl hl.1 (Nat.le_of_ble_eq_true rfl) ⟨show cl + 0 ≤ 204 by omega, show sl + 0 ≤ 1224 by omega⟩ dL_refusesOne_456 (fun H locs hW hS _ => ?_)
                                          refine lv_iconst (v := 1) hx hb dL_refusesOne_459 (by decide) ?_
                                          refine lv_isub hx hb dL_refusesOne_460 ?_
                                          obtain ⟨y114, u115, hf⟩ := b1_e hf
                                          refine lS (n := 3) (As := [.int x1, .int 0, .int (y112 - 1)]) (rest := [.int x4, .ref (b + 0)]) (c_L_far l D t b τ x1 0 (y112 - 1) y114 u115) hx hb hml hown hts hE hsub hW hS q987 q988 q33  q989 hs_L_far ⟨rfl, rfl⟩ ⟨Nat.le_of_ble_eq_true rfl, Nat.le_of_ble_eq_true rfl⟩ rfl rfl hl.1 (Nat.le_of_ble_eq_true rfl) ⟨show cl + 0 + 0 ≤ 204 by omega, show sl + 0 + 0 ≤ 1224 by omega⟩ dL_refusesOne_461 (fun H locs hW hS _ => ?_)
                                          refine lv_iconst (v := 0) hx hb dL_refusesOne_464 (by decide) ?_
                                          refine lv_iconst (v := 0) hx hb dL_refusesOne_465 (by decide) ?_
                                          refine lv_iconst (v := 0) hx hb dL_refusesOne_466 (by decide) ?_
                                          obtain ⟨y116, σ118, u117, hf⟩ := b2_e hf
                                          refine lSW (n := 6) (As := [.ref (b + 0), .int x4, .int y114, .int 0, .int 0, .int 0]) (rest := []) (c_L_call l hfl D t b τ x4 y114 0 0 0 y116 σ118 u117) hx hb hml hown hts hE hsub hW hS q573 q574 q33  qw_L_call hs_L_call ⟨rfl, rfl⟩ ⟨Nat.le_of_ble_eq_true rfl, Nat.le_of_ble_eq_true rfl⟩ rfl rfl hl.1 (Nat.le_of_ble_eq_true rfl) ⟨show cl + 0 + 4 ≤ 204 by omega, show sl + 0 + 24 ≤ 1224 by omega⟩ dL_refusesOne_467 (fun H locs hW hS _ => ?_)
                                          refine W.widen (k := cl + 4) (n := sl + 24) (by omega) (by omega) ?_
                                          refine lv_sipush (v := (-2011)) hx hb dL_refusesOne_470 (by decide) ?_
                                          refine lv_icmp_eq (tgt := 478) hx hb dL_refusesOne_473 (by decide) (fun h119 => ?_) (fun h119 => ?_)
                                          · have hf := ifp h119 hf
                                            refine lv_iinc (v := (x4 + 1)) (lv' := [(4, .int (x4 + 1)), (0, .ref (b + 0)), (1, .int x1), (3, .int x3)]) hx hb dL_refusesOne_478 hl (k := 3) rfl (by rfl) (by decide) rfl (fun ls hl => ?_)
                                            refine lv_goto (tgt := 443) hx hb dL_refusesOne_481 (by decide) ?_
                                            refine W.widen (k := cl + 4) (n := sl + 24) (by omega) (by omega) ?_
                                            exact ih_443 σ118 x1 x3 (x4 + 1) (cl + 4) (sl + 24) ce se _ _ _ _ hf (by omega) (by omega) hcm hsm kx kk hW hS (lv_sub hl [1, 2, 3, 0] rfl)
                                          · have hf := ifn h119 hf
                                            refine lv_iconst (v := 0) hx hb dL_refusesOne_476 (by decide) ?_
                                            cases hf
                                            have h9 := kx _ rfl
                                            cases h9
                                            refine W.widen (k := 204) (n := 1224) (by omega) (by omega) ?_
                                            exact W.zret (ty := .boolean) hx hb hr (by decide) (fun u hu _ => ⟨⟨rfl, by rw [hu]; exact hW⟩, hS.F hu⟩) hS.2.2 dL_refusesOne_477
                                    refine key_443 9 q408.1 q408.2.1 q408.2.2 22 (140) (840) (176) (1056) _ _ _ res hl0 (by omega) (by omega) (show 176 ≤ 204 by omega) (show 1056 ≤ 1224 by omega) (fun a h => hA a h) (fun q443 hq H locs ls hW hS hl => ?_) hW hS (lv_sub hl [1, 2, 3, 0] rfl)
                                    have hf := hB _ hq
                                    refine lv_aload_n hx hb dL_refusesOne_484 rfl (lv_at hl 0 rfl) ?_
                                    obtain ⟨y120, u121, hf⟩ := b1_e hf
                                    refine lV (n := 0) (As := []) (rest := []) (c_X4_stalls l D t b q443.1 y120 u121) hx hb hml hown hts hE hsub hW hS q973 q974 q975 q34 q976 hy_X4_stalls ⟨rfl, rfl⟩ ⟨Nat.le_of_ble_eq_true rfl, Nat.le_of_ble_eq_true rfl⟩ rfl rfl hl.1 (Nat.le_of_ble_eq_true rfl) ⟨show 176 ≤ 204 by omega, show 1056 ≤ 1224 by omega⟩ dL_refusesOne_485 (fun H locs hW hS _ => ?_)
                                    refine lv_if_eq (tgt := 616) hx hb dL_refusesOne_488 (by decide) (fun h122 => ?_) (fun h122 => ?_)
                                    · have hf := ifp h122 hf
                                      refine lv_iconst (v := 1) hx hb dL_refusesOne_616 (by decide) ?_
                                      refine lv_goto (tgt := 621) hx hb dL_refusesOne_617 (by decide) ?_
                                      cases hf
                                      refine W.widen (k := 204) (n := 1224) (by omega) (by omega) ?_
                                      exact W.zret (ty := .boolean) hx hb hr (by decide) (fun u hu _ => ⟨⟨rfl, by rw [hu]; exact hW⟩, hS.F hu⟩) hS.2.2 dL_refusesOne_621
                                    · have hf := ifn h122 hf
                                      refine lv_aload_n hx hb dL_refusesOne_491 rfl (lv_at hl 0 rfl) ?_
                                      refine lv_iconst (v := 2) hx hb dL_refusesOne_492 (by decide) ?_
                                      refine lv_iconst (v := 0) hx hb dL_refusesOne_493 (by decide) ?_
                                      refine lv_iload_n hx hb dL_refusesOne_494 rfl (lv_at hl 1 rfl) ?_
                                      refine lv_iconst (v := 1) hx hb dL_refusesOne_495 (by decide) ?_
                                      refine lv_bipush (v := 9) hx hb dL_refusesOne_496 (by decide) ?_
                                      obtain ⟨y123, u124, hf⟩ := b1_e hf
                                      refine lS (n := 3) (As := [.int q443.2.1, .int 1, .int 9]) (rest := [.int 0, .int 2, .ref (b + 0)]) (c_L_far l D t b q443.1 q443.2.1 1 9 y123 u124) hx hb hml hown hts hE hsub hW hS q987 q988 q33  q989 hs_L_far ⟨rfl, rfl⟩ ⟨Nat.le_of_ble_eq_true rfl, Nat.le_of_ble_eq_true rfl⟩ rfl rfl hl.1 (Nat.le_of_ble_eq_true rfl) ⟨show 176 + 0 ≤ 204 by omega, show 1056 + 0 ≤ 1224 by omega⟩ dL_refusesOne_498 (fun H locs hW hS _ => ?_)
                                      refine lv_iconst (v := 0) hx hb dL_refusesOne_501 (by decide) ?_
                                      refine lv_iconst (v := 0) hx hb dL_refusesOne_502 (by decide) ?_
                                      obtain ⟨y125, σ127, u126, hf⟩ := b2_e hf
                                      refine lSW (n := 6) (As := [.ref (b + 0), .int 2, .int 0, .int y123, .int 0, .int 0]) (rest := []) (c_L_call l hfl D t b q443.1 2 0 y123 0 0 y125 σ127 u126) hx hb hml hown hts hE hsub hW hS q573 q574 q33  qw_L_call hs_L_call ⟨rfl, rfl⟩ ⟨Nat.le_of_ble_eq_true rfl, Nat.le_of_ble_eq_true rfl⟩ rfl rfl hl.1 (Nat.le_of_ble_eq_true rfl) ⟨show 176 + 4 ≤ 204 by omega, show 1056 + 24 ≤ 1224 by omega⟩ dL_refusesOne_503 (fun H locs hW hS _ => ?_)
                                      refine W.widen (k := 180) (n := 1080) (by omega) (by omega) ?_
                                      refine lv_sipush (v := (-2012)) hx hb dL_refusesOne_506 (by decide) ?_
                                      refine lv_icmp_ne (tgt := 620) hx hb dL_refusesOne_509 (by decide) (fun h128 => ?_) (fun h128 => ?_)
                                      · have hf := ifn h128 hf
                                        refine lv_iconst (v := 0) hx hb dL_refusesOne_620 (by decide) ?_
                                        cases hf
                                        refine W.widen (k := 204) (n := 1224) (by omega) (by omega) ?_
                                        exact W.zret (ty := .boolean) hx hb hr (by decide) (fun u hu _ => ⟨⟨rfl, by rw [hu]; exact hW⟩, hS.F hu⟩) hS.2.2 dL_refusesOne_621
                                      · have hf := ifp h128 hf
                                        refine lv_aload_n hx hb dL_refusesOne_512 rfl (lv_at hl 0 rfl) ?_
                                        refine lv_iconst (v := 4) hx hb dL_refusesOne_513 (by decide) ?_
                                        refine lv_iconst (v := 0) hx hb dL_refusesOne_514 (by decide) ?_
                                        refine lv_iload_n hx hb dL_refusesOne_515 rfl (lv_at hl 2 rfl) ?_
                                        refine lv_iconst (v := 0) hx hb dL_refusesOne_516 (by decide) ?_
                                        refine lv_iconst (v := 0) hx hb dL_refusesOne_517 (by decide) ?_
                                        obtain ⟨y129, σ131, u130, hf⟩ := b2_e hf
                                        refine lSW (n := 6) (As := [.ref (b + 0), .int 4, .int 0, .int q443.2.2, .int 0, .int 0]) (rest := []) (c_L_call l hfl D t b σ127 4 0 q443.2.2 0 0 y129 σ131 u130) hx hb hml hown hts hE hsub hW hS q573 q574 q33  qw_L_call hs_L_call ⟨rfl, rfl⟩ ⟨Nat.le_of_ble_eq_true rfl, Nat.le_of_ble_eq_true rfl⟩ rfl rfl hl.1 (Nat.le_of_ble_eq_true rfl) ⟨show 180 + 4 ≤ 204 by omega, show 1080 + 24 ≤ 1224 by omega⟩ dL_refusesOne_518 (fun H locs hW hS _ => ?_)
                                        refine W.widen (k := 184) (n := 1104) (by omega) (by omega) ?_
                                        refine lv_sipush (v := (-2011)) hx hb dL_refusesOne_521 (by decide) ?_
                                        refine lv_icmp_ne (tgt := 620) hx hb dL_refusesOne_524 (by decide) (fun h132 => ?_) (fun h132 => ?_)
                                        · have hf := ifn h132 hf
                                          refine lv_iconst (v := 0) hx hb dL_refusesOne_620 (by decide) ?_
                                          cases hf
                                          refine W.widen (k := 204) (n := 1224) (by omega) (by omega) ?_
                                          exact W.zret (ty := .boolean) hx hb hr (by decide) (fun u hu _ => ⟨⟨rfl, by rw [hu]; exact hW⟩, hS.F hu⟩) hS.2.2 dL_refusesOne_621
                                        · have hf := ifp h132 hf
                                          refine lv_aload_n hx hb dL_refusesOne_527 rfl (lv_at hl 0 rfl) ?_
                                          refine lv_iconst (v := 4) hx hb dL_refusesOne_528 (by decide) ?_
                                          refine lv_iconst (v := 0) hx hb dL_refusesOne_529 (by decide) ?_
                                          refine lv_iconst (v := 0) hx hb dL_refusesOne_530 (by decide) ?_
                                          refine lv_iload_n hx hb dL_refusesOne_531 rfl (lv_at hl 2 rfl) ?_
                                          refine lv_iconst (v := 0) hx hb dL_refusesOne_532 (by decide) ?_
                                          obtain ⟨y133, σ135, u134, hf⟩ := b2_e hf
                                          refine lSW (n := 6) (As := [.ref (b + 0), .int 4, .int 0, .int 0, .int q443.2.2, .int 0]) (rest := []) (c_L_call l hfl D t b σ131 4 0 0 q443.2.2 0 y133 σ135 u134) hx hb hml hown hts hE hsub hW hS q573 q574 q33  qw_L_call hs_L_call ⟨rfl, rfl⟩ ⟨Nat.le_of_ble_eq_true rfl, Nat.le_of_ble_eq_true rfl⟩ rfl rfl hl.1 (Nat.le_of_ble_eq_true rfl) ⟨show 184 + 4 ≤ 204 by omega, show 1104 + 24 ≤ 1224 by omega⟩ dL_refusesOne_533 (fun H locs hW hS _ => ?_)
                                          refine W.widen (k := 188) (n := 1128) (by omega) (by omega) ?_
                                          refine lv_sipush (v := (-2011)) hx hb dL_refusesOne_536 (by decide) ?_
                                          refine lv_icmp_ne (tgt := 620) hx hb dL_refusesOne_539 (by decide) (fun h136 => ?_) (fun h136 => ?_)
                                          · have hf := ifn h136 hf
                                            refine lv_iconst (v := 0) hx hb dL_refusesOne_620 (by decide) ?_
                                            cases hf
                                            refine W.widen (k := 204) (n := 1224) (by omega) (by omega) ?_
                                            exact W.zret (ty := .boolean) hx hb hr (by decide) (fun u hu _ => ⟨⟨rfl, by rw [hu]; exact hW⟩, hS.F hu⟩) hS.2.2 dL_refusesOne_621
                                          · have hf := ifp h136 hf
                                            refine lv_aload_n hx hb dL_refusesOne_542 rfl (lv_at hl 0 rfl) ?_
                                            refine lv_iconst (v := 4) hx hb dL_refusesOne_543 (by decide) ?_
                                            refine lv_iconst (v := 0) hx hb dL_refusesOne_544 (by decide) ?_
                                            refine lv_iconst (v := 3) hx hb dL_refusesOne_545 (by decide) ?_
                                            refine lv_iconst (v := 3) hx hb dL_refusesOne_546 (by decide) ?_
                                            refine lv_iload_n hx hb dL_refusesOne_547 rfl (lv_at hl 1 rfl) ?_
                                            refine lv_iconst (v := 1) hx hb dL_refusesOne_548 (by decide) ?_
                                            refine lv_bipush (v := 40) hx hb dL_refusesOne_549 (by decide) ?_
                                            obtain ⟨y137, u138, hf⟩ := b1_e hf
                                            refine lS (n := 3) (As := [.int q443.2.1, .int 1, .int 40]) (rest := [.int 3, .int 3, .int 0, .int 4, .ref (b + 0)]) (c_L_far l D t b σ135 q443.2.1 1 40 y137 u138) hx hb hml hown hts hE hsub hW hS q987 q988 q33  q989 hs_L_far ⟨rfl, rfl⟩ ⟨Nat.le_of_ble_eq_true rfl, Nat.le_of_ble_eq_true rfl⟩ rfl rfl hl.1 (Nat.le_of_ble_eq_true rfl) ⟨show 188 + 0 ≤ 204 by omega, show 1128 + 0 ≤ 1224 by omega⟩ dL_refusesOne_551 (fun H locs hW hS _ => ?_)
                                            obtain ⟨y139, σ141, u140, hf⟩ := b2_e hf
                                            refine lSW (n := 6) (As := [.ref (b + 0), .int 4, .int 0, .int 3, .int 3, .int y137]) (rest := []) (c_L_call l hfl D t b σ135 4 0 3 3 y137 y139 σ141 u140) hx hb hml hown hts hE hsub hW hS q573 q574 q33  qw_L_call hs_L_call ⟨rfl, rfl⟩ ⟨Nat.le_of_ble_eq_true rfl, Nat.le_of_ble_eq_true rfl⟩ rfl rfl hl.1 (Nat.le_of_ble_eq_true rfl) ⟨show 188 + 4 ≤ 204 by omega, show 1128 + 24 ≤ 1224 by omega⟩ dL_refusesOne_554 (fun H locs hW hS _ => ?_)
                                            refine W.widen (k := 192) (n := 1152) (by omega) (by omega) ?_
                                            refine lv_sipush (v := (-2012)) hx hb dL_refusesOne_557 (by decide) ?_
                                            refine lv_icmp_ne (tgt := 620) hx hb dL_refusesOne_560 (by decide) (fun h142 => ?_) (fun h142 => ?_)
                                            · have hf := ifn h142 hf
                                              refine lv_iconst (v := 0) hx hb dL_refusesOne_620 (by decide) ?_
                                              cases hf
                                              refine W.widen (k := 204) (n := 1224) (by omega) (by omega) ?_
                                              exact W.zret (ty := .boolean) hx hb hr (by decide) (fun u hu _ => ⟨⟨rfl, by rw [hu]; exact hW⟩, hS.F hu⟩) hS.2.2 dL_refusesOne_621
                                            · have hf := ifp h142 hf
                                              refine lv_aload_n hx hb dL_refusesOne_563 rfl (lv_at hl 0 rfl) ?_
                                              refine lv_iconst (v := 5) hx hb dL_refusesOne_564 (by decide) ?_
                                              refine lv_iconst (v := 0) hx hb dL_refusesOne_565 (by decide) ?_
                                              refine lv_iload_n hx hb dL_refusesOne_566 rfl (lv_at hl 1 rfl) ?_
                                              refine lv_iconst (v := 1) hx hb dL_refusesOne_567 (by decide) ?_
                                              refine lv_bipush (v := 99) hx hb dL_refusesOne_568 (by decide) ?_
                                              obtain ⟨y143, u144, hf⟩ := b1_e hf
                                              refine lS (n := 3) (As := [.int q443.2.1, .int 1, .int 99]) (rest := [.int 0, .int 5, .ref (b + 0)]) (c_L_far l D t b σ141 q443.2.1 1 99 y143 u144) hx hb hml hown hts hE hsub hW hS q987 q988 q33  q989 hs_L_far ⟨rfl, rfl⟩ ⟨Nat.le_of_ble_eq_true rfl, Nat.le_of_ble_eq_true rfl⟩ rfl rfl hl.1 (Nat.le_of_ble_eq_true rfl) ⟨show 192 + 0 ≤ 204 by omega, show 1152 + 0 ≤ 1224 by omega⟩ dL_refusesOne_570 (fun H locs hW hS _ => ?_)
                                              refine lv_iconst (v := 0) hx hb dL_refusesOne_573 (by decide) ?_
                                              refine lv_iconst (v := 0) hx hb dL_refusesOne_574 (by decide) ?_
                                              obtain ⟨y145, σ147, u146, hf⟩ := b2_e hf
                                              refine lSW (n := 6) (As := [.ref (b + 0), .int 5, .int 0, .int y143, .int 0, .int 0]) (rest := []) (c_L_call l hfl D t b σ141 5 0 y143 0 0 y145 σ147 u146) hx hb hml hown hts hE hsub hW hS q573 q574 q33  qw_L_call hs_L_call ⟨rfl, rfl⟩ ⟨Nat.le_of_ble_eq_true rfl, Nat.le_of_ble_eq_true rfl⟩ rfl rfl hl.1 (Nat.le_of_ble_eq_true rfl) ⟨show 192 + 4 ≤ 204 by omega, show 1152 + 24 ≤ 1224 by omega⟩ dL_refusesOne_575 (fun H locs hW hS _ => ?_)
                                              refine W.widen (k := 196) (n := 1176) (by omega) (by omega) ?_
                                              refine lv_sipush (v := (-2012)) hx hb dL_refusesOne_578 (by decide) ?_
                                              refine lv_icmp_ne (tgt := 620) hx hb dL_refusesOne_581 (by decide) (fun h148 => ?_) (fun h148 => ?_)
                                              · have hf := ifn h148 hf
                                                refine lv_iconst (v := 0) hx hb dL_refusesOne_620 (by decide) ?_
                                                cases hf
                                                refine W.widen (k := 204) (n := 1224) (by omega) (by omega) ?_
                                                exact W.zret (ty := .boolean) hx hb hr (by decide) (fun u hu _ => ⟨⟨rfl, by rw [hu]; exact hW⟩, hS.F hu⟩) hS.2.2 dL_refusesOne_621
                                              · have hf := ifp h148 hf
                                                refine lv_aload_n hx hb dL_refusesOne_584 rfl (lv_at hl 0 rfl) ?_
                                                refine lv_bipush (v := 21) hx hb dL_refusesOne_585 (by decide) ?_
                                                refine lv_iconst (v := 0) hx hb dL_refusesOne_587 (by decide) ?_
                                                refine lv_iload_n hx hb dL_refusesOne_588 rfl (lv_at hl 2 rfl) ?_
                                                refine lv_iconst (v := 0) hx hb dL_refusesOne_589 (by decide) ?_
                                                refine lv_iconst (v := 0) hx hb dL_refusesOne_590 (by decide) ?_
                                                obtain ⟨y149, σ151, u150, hf⟩ := b2_e hf
                                                refine lSW (n := 6) (As := [.ref (b + 0), .int 21, .int 0, .int q443.2.2, .int 0, .int 0]) (rest := []) (c_L_call l hfl D t b σ147 21 0 q443.2.2 0 0 y149 σ151 u150) hx hb hml hown hts hE hsub hW hS q573 q574 q33  qw_L_call hs_L_call ⟨rfl, rfl⟩ ⟨Nat.le_of_ble_eq_true rfl, Nat.le_of_ble_eq_true rfl⟩ rfl rfl hl.1 (Nat.le_of_ble_eq_true rfl) ⟨show 196 + 4 ≤ 204 by omega, show 1176 + 24 ≤ 1224 by omega⟩ dL_refusesOne_591 (fun H locs hW hS _ => ?_)
                                                refine W.widen (k := 200) (n := 1200) (by omega) (by omega) ?_
                                                refine lv_sipush (v := (-2011)) hx hb dL_refusesOne_594 (by decide) ?_
                                                refine lv_icmp_ne (tgt := 620) hx hb dL_refusesOne_597 (by decide) (fun h152 => ?_) (fun h152 => ?_)
                                                · have hf := ifn h152 hf
                                                  refine lv_iconst (v := 0) hx hb dL_refusesOne_620 (by decide) ?_
                                                  cases hf
                                                  refine W.widen (k := 204) (n := 1224) (by omega) (by omega) ?_
                                                  exact W.zret (ty := .boolean) hx hb hr (by decide) (fun u hu _ => ⟨⟨rfl, by rw [hu]; exact hW⟩, hS.F hu⟩) hS.2.2 dL_refusesOne_621
                                                · have hf := ifp h152 hf
                                                  refine lv_aload_n hx hb dL_refusesOne_600 rfl (lv_at hl 0 rfl) ?_
                                                  refine lv_bipush (v := 21) hx hb dL_refusesOne_601 (by decide) ?_
                                                  refine lv_iconst (v := 0) hx hb dL_refusesOne_603 (by decide) ?_
                                                  refine lv_iconst (v := 0) hx hb dL_refusesOne_604 (by decide) ?_
                                                  refine lv_iload_n hx hb dL_refusesOne_605 rfl (lv_at hl 2 rfl) ?_
                                                  refine lv_iconst (v := 0) hx hb dL_refusesOne_606 (by decide) ?_
                                                  obtain ⟨y153, σ155, u154, hf⟩ := b2_e hf
                                                  refine lSW (n := 6) (As := [.ref (b + 0), .int 21, .int 0, .int 0, .int q443.2.2, .int 0]) (rest := []) (c_L_call l hfl D t b σ151 21 0 0 q443.2.2 0 y153 σ155 u154) hx hb hml hown hts hE hsub hW hS q573 q574 q33  qw_L_call hs_L_call ⟨rfl, rfl⟩ ⟨Nat.le_of_ble_eq_true rfl, Nat.le_of_ble_eq_true rfl⟩ rfl rfl hl.1 (Nat.le_of_ble_eq_true rfl) ⟨show 200 + 4 ≤ 204 by omega, show 1200 + 24 ≤ 1224 by omega⟩ dL_refusesOne_607 (fun H locs hW hS _ => ?_)
                                                  refine W.widen (k := 204) (n := 1224) (by omega) (by omega) ?_
                                                  refine lv_sipush (v := (-2011)) hx hb dL_refusesOne_610 (by decide) ?_
                                                  refine lv_icmp_ne (tgt := 620) hx hb dL_refusesOne_613 (by decide) (fun h156 => ?_) (fun h156 => ?_)
                                                  · have hf := ifn h156 hf
                                                    refine lv_iconst (v := 0) hx hb dL_refusesOne_620 (by decide) ?_
                                                    cases hf
                                                    refine W.widen (k := 204) (n := 1224) (by omega) (by omega) ?_
                                                    exact W.zret (ty := .boolean) hx hb hr (by decide) (fun u hu _ => ⟨⟨rfl, by rw [hu]; exact hW⟩, hS.F hu⟩) hS.2.2 dL_refusesOne_621
                                                  · have hf := ifp h156 hf
                                                    refine lv_iconst (v := 1) hx hb dL_refusesOne_616 (by decide) ?_
                                                    refine lv_goto (tgt := 621) hx hb dL_refusesOne_617 (by decide) ?_
                                                    cases hf
                                                    refine W.widen (k := 204) (n := 1224) (by omega) (by omega) ?_
                                                    exact W.zret (ty := .boolean) hx hb hr (by decide) (fun u hu _ => ⟨⟨rfl, by rw [hu]; exact hW⟩, hS.F hu⟩) hS.2.2 dL_refusesOne_621
                                  · have hf := ifn h100 hf
                                    refine lv_iconst (v := 0) hx hb dL_refusesOne_368 (by decide) ?_
                                    cases hf
                                    refine W.widen (k := 204) (n := 1224) (by omega) (by omega) ?_
                                    exact W.zret (ty := .boolean) hx hb hr (by decide) (fun u hu _ => ⟨⟨rfl, by rw [hu]; exact hW⟩, hS.F hu⟩) hS.2.2 dL_refusesOne_369
def l_L_refused_13 : Nat → Sg → Int64 → Int32 → Int32 → Option ((Int32 × Sg) ⊕ (Sg × Int64 × Int32))
  | 0, _, _, _, _ => none
  | n + 1, τ, x1, x3, x4 => if 4 ≤ x4 then (some (.inr (τ, x1, x3))) else (b2 (f_L_refusesOne τ x4) fun y7 σ9 => if y7 = 0 then (some (.inl (0, σ9))) else (l_L_refused_13 n σ9 x1 x3 (x4 + 1)))
set_option maxRecDepth 100000 in
def f_L_refused (σ : Sg) : Option (Int32 × Sg) := b2L (f_L_seen σ) fun y1 σ3 => b1 (f_X4_recordedStates σ3) fun y4 => bl id (l_L_refused_13 5 σ3 y1 y4 0) fun q13 => b2L (f_L_seen q13.1) fun y11 σ13 => if y11 = q13.2.1 then (b1 (f_X4_recordedStates σ13) fun y15 => if y15 = q13.2.2 then (b2 (f_X4_clearText σ13) fun y18 σ20 => if y18 = 0 then (some (1, σ20)) else (some (0, σ20))) else (some (0, σ13))) else (some (0, σ13))
set_option maxHeartbeats 8000000 in
set_option maxRecDepth 100000 in
theorem c_L_refused (l : Launch) (hfl : l.stackTraces = false) (D : va_G) (t : Nat → ClassId) (b : Nat) (σ : Sg) (r : Int32) (σr : Sg) (hf : f_L_refused σ = some (r, σr)) : Met l yL_refused (Cond.code yL_refused cL_refused 5 (some .boolean) :: ALL) ({ frames := 12, cells := 15372, slots := 92232, locals := 232 }) (PM D t b σ [.ref (b + 0)]) (QG D t b σr (some (.int r))) 15372 92232 (geA b) := by
  refine Met.ofW (cc := cL_refused) (maxL := 5) (ret := (some .boolean)) (by decide) rfl ?_
  intro p e s m args below meth c s₁ B hml hv
  obtain ⟨rfl, hW, hE⟩ := hv
  have hE : EVA D t (geA b) s := hE
  have hsub : ∀ q, geA b q → geA b q := fun _ h => h
  have hx := B.exec
  have hb := B.bytes
  have hr := B.returns
  have hts := atoms_spec (ws := Cond.code yL_refused cL_refused 5 (some .boolean) :: ALL) B.pre
  have hta := fun w h => hts w (List.mem_cons_of_mem _ h)
  have hown : s.vm.findClass RL = some m.cls := findClass_of_methodNamed B.named
  have hlocks := B.notSynchronized
  have hS : va_S (geA b) s.heap s.heap [] := va_S.rf
  have hl := lv_entry ([.ref (b + 0)]) (n := 5) (Nat.le_of_ble_eq_true rfl)
  rw [lg_entry_eq]
  generalize (lg_sl ([.ref (b + 0)]) ++ List.replicate (5 - (lg_sl ([.ref (b + 0)])).length) Slot.unset).toArray = ls at hl ⊢
  have hl : lv_has ls 5 [(0, .ref (b + 0))] := hl
  unfold f_L_refused at hf
  refine lv_aload_n hx hb dL_refused_0 rfl (lv_at hl 0 rfl) ?_
  obtain ⟨y1, σ3, u2, hf⟩ := b2L_e hf
  refine lS (n := 1) (As := [.ref (b + 0)]) (rest := []) (c_L_seen l hfl D t b σ y1 σ3 u2) hx hb hml hown hts hE hsub hW hS q940 q941 q33  q942 hs_L_seen ⟨rfl, rfl⟩ ⟨Nat.le_of_ble_eq_true rfl, Nat.le_of_ble_eq_true rfl⟩ rfl rfl hl.1 (Nat.le_of_ble_eq_true rfl) ⟨show 0 + 7176 ≤ 15372 by omega, show 0 + 43056 ≤ 92232 by omega⟩ dL_refused_1 (fun H locs hW hS _ => ?_)
  refine W.widen (k := 7176) (n := 43056) (by omega) (by omega) ?_
  refine lv_lstore_n (lv' := [(1, .long y1), (0, .ref (b + 0))]) hx hb dL_refused_4 rfl hl (by decide) rfl (fun ls hl => ?_)
  refine lv_aload_n hx hb dL_refused_5 rfl (lv_at hl 1 rfl) ?_
  obtain ⟨y4, u5, hf⟩ := b1_e hf
  refine lV (n := 0) (As := []) (rest := []) (c_X4_recordedStates l D t b σ3 y4 u5) hx hb hml hown hts hE hsub hW hS q561 q562 q563 q34 q564 hy_X4_recordedStates ⟨rfl, rfl⟩ ⟨Nat.le_of_ble_eq_true rfl, Nat.le_of_ble_eq_true rfl⟩ rfl rfl hl.1 (Nat.le_of_ble_eq_true rfl) ⟨show 7176 ≤ 15372 by omega, show 43056 ≤ 92232 by omega⟩ dL_refused_6 (fun H locs hW hS _ => ?_)
  refine lv_istore_n (lv' := [(3, .int y4), (1, .long y1), (0, .ref (b + 0))]) hx hb dL_refused_9 rfl hl (by decide) rfl (fun ls hl => ?_)
  refine lv_iconst (v := 0) hx hb dL_refused_10 (by decide) ?_
  refine lv_istore (lv' := [(4, .int 0), (3, .int y4), (1, .long y1), (0, .ref (b + 0))]) hx hb dL_refused_11 hl (by decide) rfl (fun ls hl => ?_)
  obtain ⟨res, hl0, hA, hB⟩ := bl_e hf
  have key_13 : ∀ (n : Nat) (τ : Sg) (x1 : Int64) (x3 : Int32) (x4 : Int32) (cl sl ce se : Nat) (H : Heap) (locs : List Loc) (ls : Array Slot) (res : (Int32 × Sg) ⊕ (Sg × Int64 × Int32)), l_L_refused_13 n τ x1 x3 x4 = some res → cl + 204 * n = ce → sl + 1224 * n = se → ce ≤ 15372 → se ≤ 92232 → (∀ a, res = .inl a → a = (r, σr)) → (∀ q13, res = .inr q13 → ∀ (H : Heap) (locs : List Loc) (ls : Array Slot), wd D t b q13.1 H → va_S (geA b) s.heap H locs → lv_has ls 5 [(0, .ref (b + 0)), (1, .long q13.2.1), (3, .int q13.2.2)] → W p l e (headSpec (Cond.code yL_refused cL_refused 5 (some .boolean) :: ALL) ({ frames := 12, cells := 15372, slots := 92232, locals := 232 })).room s m (([.ref (b + 0)] : List Value).toArray) below meth c H locs ce se (MQ below (QG D t b σr (some (.int r))) (([.ref (b + 0)] : List Value).toArray) s 15372 92232 (geA b)) (F0 m 36 ls [])) → wd D t b τ H → va_S (geA b) s.heap H locs → lv_has ls 5 [(0, .ref (b + 0)), (1, .long x1), (3, .int x3), (4, .int x4)] → W p l e (headSpec (Cond.code yL_refused cL_refused 5 (some .boolean) :: ALL) ({ frames := 12, cells := 15372, slots := 92232, locals := 232 })).room s m (([.ref (b + 0)] : List Value).toArray) below meth c H locs cl sl (MQ below (QG D t b σr (some (.int r))) (([.ref (b + 0)] : List Value).toArray) s 15372 92232 (geA b)) (F0 m 13 ls []) := by
    intro n
    induction n with
    | zero =>
      intro τ x1 x3 x4 cl sl ce se H locs ls res hf
      rw [l_L_refused_13.eq_1] at hf
      cases hf
    | succ n ih_13 =>
      intro τ x1 x3 x4 cl sl ce se H locs ls res hf hce hse hcm hsm kx kk hW hS hl
      rw [l_L_refused_13.eq_2] at hf
      refine lv_iload hx hb dL_refused_13 (lv_at hl 3 rfl) ?_
      refine lv_iconst (v := 4) hx hb dL_refused_15 (by decide) ?_
      refine lv_icmp_ge (tgt := 36) hx hb dL_refused_16 (by decide) (fun h6 => ?_) (fun h6 => ?_)
      · have hf := ifp h6 hf
        cases hf
        refine W.widen (k := ce) (n := se) (by omega) (by omega) ?_
        exact kk _ rfl _ _ _ hW hS (lv_sub hl [0, 1, 2] rfl)
      · have hf := ifn h6 hf
        refine lv_aload_n hx hb dL_refused_19 rfl (lv_at hl 0 rfl) ?_
        refine lv_iload hx hb dL_refused_20 (lv_at hl 3 rfl) ?_
        obtain ⟨y7, σ9, u8, hf⟩ := b2_e hf
        refine lS (n := 2) (As := [.ref (b + 0), .int x4]) (rest := []) (c_L_refusesOne l hfl D t b τ x4 y7 σ9 u8) hx hb hml hown hts hE hsub hW hS q984 q985 q33  q986 hs_L_refusesOne ⟨rfl, rfl⟩ ⟨Nat.le_of_ble_eq_true rfl, Nat.le_of_ble_eq_true rfl⟩ rfl rfl hl.1 (Nat.le_of_ble_eq_true rfl) ⟨show cl + 0 + 204 ≤ 15372 by omega, show sl + 0 + 1224 ≤ 92232 by omega⟩ dL_refused_22 (fun H locs hW hS _ => ?_)
        refine W.widen (k := cl + 204) (n := sl + 1224) (by omega) (by omega) ?_
        refine lv_if_ne (tgt := 30) hx hb dL_refused_25 (by decide) (fun h10 => ?_) (fun h10 => ?_)
        · have hf := ifn h10 hf
          refine lv_iinc (v := (x4 + 1)) (lv' := [(4, .int (x4 + 1)), (0, .ref (b + 0)), (1, .long x1), (3, .int x3)]) hx hb dL_refused_30 hl (k := 3) rfl (by rfl) (by decide) rfl (fun ls hl => ?_)
          refine lv_goto (tgt := 13) hx hb dL_refused_33 (by decide) ?_
          refine W.widen (k := cl + 204) (n := sl + 1224) (by omega) (by omega) ?_
          exact ih_13 σ9 x1 x3 (x4 + 1) (cl + 204) (sl + 1224) ce se _ _ _ _ hf (by omega) (by omega) hcm hsm kx kk hW hS (lv_sub hl [1, 2, 3, 0] rfl)
        · have hf := ifp h10 hf
          refine lv_iconst (v := 0) hx hb dL_refused_28 (by decide) ?_
          cases hf
          have h9 := kx _ rfl
          cases h9
          refine W.widen (k := 15372) (n := 92232) (by omega) (by omega) ?_
          exact W.zret (ty := .boolean) hx hb hr (by decide) (fun u hu _ => ⟨⟨rfl, by rw [hu]; exact hW⟩, hS.F hu⟩) hS.2.2 dL_refused_29
  refine key_13 5 σ3 y1 y4 0 (7176) (43056) (8196) (49176) _ _ _ res hl0 (by omega) (by omega) (show 8196 ≤ 15372 by omega) (show 49176 ≤ 92232 by omega) (fun a h => hA a h) (fun q13 hq H locs ls hW hS hl => ?_) hW hS (lv_sub hl [3, 2, 1, 0] rfl)
  have hf := hB _ hq
  refine lv_aload_n hx hb dL_refused_36 rfl (lv_at hl 0 rfl) ?_
  obtain ⟨y11, σ13, u12, hf⟩ := b2L_e hf
  refine lS (n := 1) (As := [.ref (b + 0)]) (rest := []) (c_L_seen l hfl D t b q13.1 y11 σ13 u12) hx hb hml hown hts hE hsub hW hS q940 q941 q33  q942 hs_L_seen ⟨rfl, rfl⟩ ⟨Nat.le_of_ble_eq_true rfl, Nat.le_of_ble_eq_true rfl⟩ rfl rfl hl.1 (Nat.le_of_ble_eq_true rfl) ⟨show 8196 + 7176 ≤ 15372 by omega, show 49176 + 43056 ≤ 92232 by omega⟩ dL_refused_37 (fun H locs hW hS _ => ?_)
  refine W.widen (k := 15372) (n := 92232) (by omega) (by omega) ?_
  refine lv_lload_n hx hb dL_refused_40 rfl (lv_at hl 1 rfl) ?_
  refine lcmp_ne (tgt := 64) hx hb dL_refused_41 dL_refused_42 (by decide) (fun h14 => ?_) (fun h14 => ?_)
  · have hf := ifn h14 hf
    refine lv_iconst (v := 0) hx hb dL_refused_64 (by decide) ?_
    cases hf
    refine W.widen (k := 15372) (n := 92232) (by omega) (by omega) ?_
    exact W.zret (ty := .boolean) hx hb hr (by decide) (fun u hu _ => ⟨⟨rfl, by rw [hu]; exact hW⟩, hS.F hu⟩) hS.2.2 dL_refused_65
  · have hf := ifp h14 hf
    refine lv_aload_n hx hb dL_refused_45 rfl (lv_at hl 0 rfl) ?_
    obtain ⟨y15, u16, hf⟩ := b1_e hf
    refine lV (n := 0) (As := []) (rest := []) (c_X4_recordedStates l D t b σ13 y15 u16) hx hb hml hown hts hE hsub hW hS q561 q562 q563 q34 q564 hy_X4_recordedStates ⟨rfl, rfl⟩ ⟨Nat.le_of_ble_eq_true rfl, Nat.le_of_ble_eq_true rfl⟩ rfl rfl hl.1 (Nat.le_of_ble_eq_true rfl) ⟨show 15372 ≤ 15372 by omega, show 92232 ≤ 92232 by omega⟩ dL_refused_46 (fun H locs hW hS _ => ?_)
    refine lv_iload_n hx hb dL_refused_49 rfl (lv_at hl 2 rfl) ?_
    refine lv_icmp_ne (tgt := 64) hx hb dL_refused_50 (by decide) (fun h17 => ?_) (fun h17 => ?_)
    · have hf := ifn h17 hf
      refine lv_iconst (v := 0) hx hb dL_refused_64 (by decide) ?_
      cases hf
      refine W.widen (k := 15372) (n := 92232) (by omega) (by omega) ?_
      exact W.zret (ty := .boolean) hx hb hr (by decide) (fun u hu _ => ⟨⟨rfl, by rw [hu]; exact hW⟩, hS.F hu⟩) hS.2.2 dL_refused_65
    · have hf := ifp h17 hf
      refine lv_aload_n hx hb dL_refused_53 rfl (lv_at hl 0 rfl) ?_
      obtain ⟨y18, σ20, u19, hf⟩ := b2_e hf
      refine lV (n := 0) (As := []) (rest := []) (c_X4_clearText l D t b σ13 y18 σ20 u19) hx hb hml hown hts hE hsub hW hS q991 q992 q993 q34 q994 hy_X4_clearText ⟨rfl, rfl⟩ ⟨Nat.le_of_ble_eq_true rfl, Nat.le_of_ble_eq_true rfl⟩ rfl rfl hl.1 (Nat.le_of_ble_eq_true rfl) ⟨show 15372 ≤ 15372 by omega, show 92232 ≤ 92232 by omega⟩ dL_refused_54 (fun H locs hW hS _ => ?_)
      refine lv_if_ne (tgt := 64) hx hb dL_refused_57 (by decide) (fun h21 => ?_) (fun h21 => ?_)
      · have hf := ifn h21 hf
        refine lv_iconst (v := 0) hx hb dL_refused_64 (by decide) ?_
        cases hf
        refine W.widen (k := 15372) (n := 92232) (by omega) (by omega) ?_
        exact W.zret (ty := .boolean) hx hb hr (by decide) (fun u hu _ => ⟨⟨rfl, by rw [hu]; exact hW⟩, hS.F hu⟩) hS.2.2 dL_refused_65
      · have hf := ifp h21 hf
        refine lv_iconst (v := 1) hx hb dL_refused_60 (by decide) ?_
        refine lv_goto (tgt := 65) hx hb dL_refused_61 (by decide) ?_
        cases hf
        refine W.widen (k := 15372) (n := 92232) (by omega) (by omega) ?_
        exact W.zret (ty := .boolean) hx hb hr (by decide) (fun u hu _ => ⟨⟨rfl, by rw [hu]; exact hW⟩, hS.F hu⟩) hS.2.2 dL_refused_65
set_option maxRecDepth 100000 in
def f_L_is (σ : Sg) (p1 : Int32) (p2 : Int32) (p3 : Int32) (p4 : Int32) (p5 : Int32) (p6 : Int32) : Option (Int32 × Sg) := bn1 (f_X4_purseOf σ p1) fun y1 => if y1 = p2 then (bn1 (f_X4_moodOf σ p1) fun y4 => if y4 = p3 then (bn1 (f_X4_placeOf σ p1) fun y7 => if y7 = p4 then (bn1 (f_X4_prizesOf σ p1) fun y10 => if y10 = p5 then (bn1 (f_X4_whyNoPlay σ p1) fun y13 => if y13 = p6 then (bn1 (f_X4_isAtFair σ p1) fun y16 => if p4 = (-1) then (if y16 = 0 then (some (1, σ)) else (some (0, σ))) else (if y16 = 1 then (some (1, σ)) else (some (0, σ)))) else (some (0, σ))) else (some (0, σ))) else (some (0, σ))) else (some (0, σ))) else (some (0, σ))
set_option maxHeartbeats 8000000 in
set_option maxRecDepth 100000 in
theorem c_L_is (l : Launch) (hfl : l.stackTraces = false) (D : va_G) (t : Nat → ClassId) (b : Nat) (σ : Sg) (p1 : Int32) (p2 : Int32) (p3 : Int32) (p4 : Int32) (p5 : Int32) (p6 : Int32) (r : Int32) (σr : Sg) (hf : f_L_is σ p1 p2 p3 p4 p5 p6 = some (r, σr)) : Met l yL_is (Cond.code yL_is cL_is 7 (some .boolean) :: ALL) ({ frames := 8, cells := 6, slots := 36, locals := 126 }) (PM D t b σ [.ref (b + 0), .int p1, .int p2, .int p3, .int p4, .int p5, .int p6]) (QG D t b σr (some (.int r))) 6 36 (geA b) := by
  refine Met.ofW (cc := cL_is) (maxL := 7) (ret := (some .boolean)) (by decide) rfl ?_
  intro p e s m args below meth c s₁ B hml hv
  obtain ⟨rfl, hW, hE⟩ := hv
  have hE : EVA D t (geA b) s := hE
  have hsub : ∀ q, geA b q → geA b q := fun _ h => h
  have hx := B.exec
  have hb := B.bytes
  have hr := B.returns
  have hts := atoms_spec (ws := Cond.code yL_is cL_is 7 (some .boolean) :: ALL) B.pre
  have hta := fun w h => hts w (List.mem_cons_of_mem _ h)
  have hown : s.vm.findClass RL = some m.cls := findClass_of_methodNamed B.named
  have hlocks := B.notSynchronized
  have hS : va_S (geA b) s.heap s.heap [] := va_S.rf
  have hl := lv_entry ([.ref (b + 0), .int p1, .int p2, .int p3, .int p4, .int p5, .int p6]) (n := 7) (Nat.le_of_ble_eq_true rfl)
  rw [lg_entry_eq]
  generalize (lg_sl ([.ref (b + 0), .int p1, .int p2, .int p3, .int p4, .int p5, .int p6]) ++ List.replicate (7 - (lg_sl ([.ref (b + 0), .int p1, .int p2, .int p3, .int p4, .int p5, .int p6])).length) Slot.unset).toArray = ls at hl ⊢
  have hl : lv_has ls 7 [(0, .ref (b + 0)), (1, .int p1), (2, .int p2), (3, .int p3), (4, .int p4), (5, .int p5), (6, .int p6)] := hl
  unfold f_L_is at hf
  refine lv_aload_n hx hb dL_is_0 rfl (lv_at hl 0 rfl) ?_
  refine lv_iload_n hx hb dL_is_1 rfl (lv_at hl 1 rfl) ?_
  obtain ⟨y1, u2, hf⟩ := bn1_e hf
  refine lVXn (n := 1) (As := [.int p1]) (rest := []) (c_X4_purseOf l hfl D t b σ p1 (.inr y1) u2) hx hb hml hown hts hE hsub hW hS q775 q776 q777 q34 q778 hy_X4_purseOf ⟨rfl, rfl⟩ ⟨Nat.le_of_ble_eq_true rfl, Nat.le_of_ble_eq_true rfl⟩ rfl rfl hl.1 (Nat.le_of_ble_eq_true rfl) ⟨show 0 + 1 ≤ 6 by omega, show 0 + 6 ≤ 36 by omega⟩ dL_is_2 (fun H locs hW hS _ => ?_)
  refine W.widen (k := 1) (n := 6) (by omega) (by omega) ?_
  refine lv_iload_n hx hb dL_is_5 rfl (lv_at hl 2 rfl) ?_
  refine lv_icmp_ne (tgt := 71) hx hb dL_is_6 (by decide) (fun h3 => ?_) (fun h3 => ?_)
  · have hf := ifn h3 hf
    refine lv_iconst (v := 0) hx hb dL_is_71 (by decide) ?_
    cases hf
    refine W.widen (k := 6) (n := 36) (by omega) (by omega) ?_
    exact W.zret (ty := .boolean) hx hb hr (by decide) (fun u hu _ => ⟨⟨rfl, by rw [hu]; exact hW⟩, hS.F hu⟩) hS.2.2 dL_is_72
  · have hf := ifp h3 hf
    refine lv_aload_n hx hb dL_is_9 rfl (lv_at hl 0 rfl) ?_
    refine lv_iload_n hx hb dL_is_10 rfl (lv_at hl 1 rfl) ?_
    obtain ⟨y4, u5, hf⟩ := bn1_e hf
    refine lVXn (n := 1) (As := [.int p1]) (rest := []) (c_X4_moodOf l hfl D t b σ p1 (.inr y4) u5) hx hb hml hown hts hE hsub hW hS q779 q780 q781 q34 q782 hy_X4_moodOf ⟨rfl, rfl⟩ ⟨Nat.le_of_ble_eq_true rfl, Nat.le_of_ble_eq_true rfl⟩ rfl rfl hl.1 (Nat.le_of_ble_eq_true rfl) ⟨show 1 + 1 ≤ 6 by omega, show 6 + 6 ≤ 36 by omega⟩ dL_is_11 (fun H locs hW hS _ => ?_)
    refine W.widen (k := 2) (n := 12) (by omega) (by omega) ?_
    refine lv_iload_n hx hb dL_is_14 rfl (lv_at hl 3 rfl) ?_
    refine lv_icmp_ne (tgt := 71) hx hb dL_is_15 (by decide) (fun h6 => ?_) (fun h6 => ?_)
    · have hf := ifn h6 hf
      refine lv_iconst (v := 0) hx hb dL_is_71 (by decide) ?_
      cases hf
      refine W.widen (k := 6) (n := 36) (by omega) (by omega) ?_
      exact W.zret (ty := .boolean) hx hb hr (by decide) (fun u hu _ => ⟨⟨rfl, by rw [hu]; exact hW⟩, hS.F hu⟩) hS.2.2 dL_is_72
    · have hf := ifp h6 hf
      refine lv_aload_n hx hb dL_is_18 rfl (lv_at hl 0 rfl) ?_
      refine lv_iload_n hx hb dL_is_19 rfl (lv_at hl 1 rfl) ?_
      obtain ⟨y7, u8, hf⟩ := bn1_e hf
      refine lVXn (n := 1) (As := [.int p1]) (rest := []) (c_X4_placeOf l hfl D t b σ p1 (.inr y7) u8) hx hb hml hown hts hE hsub hW hS q783 q784 q785 q34 q786 hy_X4_placeOf ⟨rfl, rfl⟩ ⟨Nat.le_of_ble_eq_true rfl, Nat.le_of_ble_eq_true rfl⟩ rfl rfl hl.1 (Nat.le_of_ble_eq_true rfl) ⟨show 2 + 1 ≤ 6 by omega, show 12 + 6 ≤ 36 by omega⟩ dL_is_20 (fun H locs hW hS _ => ?_)
      refine W.widen (k := 3) (n := 18) (by omega) (by omega) ?_
      refine lv_iload hx hb dL_is_23 (lv_at hl 4 rfl) ?_
      refine lv_icmp_ne (tgt := 71) hx hb dL_is_25 (by decide) (fun h9 => ?_) (fun h9 => ?_)
      · have hf := ifn h9 hf
        refine lv_iconst (v := 0) hx hb dL_is_71 (by decide) ?_
        cases hf
        refine W.widen (k := 6) (n := 36) (by omega) (by omega) ?_
        exact W.zret (ty := .boolean) hx hb hr (by decide) (fun u hu _ => ⟨⟨rfl, by rw [hu]; exact hW⟩, hS.F hu⟩) hS.2.2 dL_is_72
      · have hf := ifp h9 hf
        refine lv_aload_n hx hb dL_is_28 rfl (lv_at hl 0 rfl) ?_
        refine lv_iload_n hx hb dL_is_29 rfl (lv_at hl 1 rfl) ?_
        obtain ⟨y10, u11, hf⟩ := bn1_e hf
        refine lVXn (n := 1) (As := [.int p1]) (rest := []) (c_X4_prizesOf l hfl D t b σ p1 (.inr y10) u11) hx hb hml hown hts hE hsub hW hS q791 q792 q793 q34 q794 hy_X4_prizesOf ⟨rfl, rfl⟩ ⟨Nat.le_of_ble_eq_true rfl, Nat.le_of_ble_eq_true rfl⟩ rfl rfl hl.1 (Nat.le_of_ble_eq_true rfl) ⟨show 3 + 1 ≤ 6 by omega, show 18 + 6 ≤ 36 by omega⟩ dL_is_30 (fun H locs hW hS _ => ?_)
        refine W.widen (k := 4) (n := 24) (by omega) (by omega) ?_
        refine lv_iload hx hb dL_is_33 (lv_at hl 5 rfl) ?_
        refine lv_icmp_ne (tgt := 71) hx hb dL_is_35 (by decide) (fun h12 => ?_) (fun h12 => ?_)
        · have hf := ifn h12 hf
          refine lv_iconst (v := 0) hx hb dL_is_71 (by decide) ?_
          cases hf
          refine W.widen (k := 6) (n := 36) (by omega) (by omega) ?_
          exact W.zret (ty := .boolean) hx hb hr (by decide) (fun u hu _ => ⟨⟨rfl, by rw [hu]; exact hW⟩, hS.F hu⟩) hS.2.2 dL_is_72
        · have hf := ifp h12 hf
          refine lv_aload_n hx hb dL_is_38 rfl (lv_at hl 0 rfl) ?_
          refine lv_iload_n hx hb dL_is_39 rfl (lv_at hl 1 rfl) ?_
          obtain ⟨y13, u14, hf⟩ := bn1_e hf
          refine lVXn (n := 1) (As := [.int p1]) (rest := []) (c_X4_whyNoPlay l hfl D t b σ p1 (.inr y13) u14) hx hb hml hown hts hE hsub hW hS q795 q796 q797 q34 q798 hy_X4_whyNoPlay ⟨rfl, rfl⟩ ⟨Nat.le_of_ble_eq_true rfl, Nat.le_of_ble_eq_true rfl⟩ rfl rfl hl.1 (Nat.le_of_ble_eq_true rfl) ⟨show 4 + 1 ≤ 6 by omega, show 24 + 6 ≤ 36 by omega⟩ dL_is_40 (fun H locs hW hS _ => ?_)
          refine W.widen (k := 5) (n := 30) (by omega) (by omega) ?_
          refine lv_iload hx hb dL_is_43 (lv_at hl 6 rfl) ?_
          refine lv_icmp_ne (tgt := 71) hx hb dL_is_45 (by decide) (fun h15 => ?_) (fun h15 => ?_)
          · have hf := ifn h15 hf
            refine lv_iconst (v := 0) hx hb dL_is_71 (by decide) ?_
            cases hf
            refine W.widen (k := 6) (n := 36) (by omega) (by omega) ?_
            exact W.zret (ty := .boolean) hx hb hr (by decide) (fun u hu _ => ⟨⟨rfl, by rw [hu]; exact hW⟩, hS.F hu⟩) hS.2.2 dL_is_72
          · have hf := ifp h15 hf
            refine lv_aload_n hx hb dL_is_48 rfl (lv_at hl 0 rfl) ?_
            refine lv_iload_n hx hb dL_is_49 rfl (lv_at hl 1 rfl) ?_
            obtain ⟨y16, u17, hf⟩ := bn1_e hf
            refine lVXn (n := 1) (As := [.int p1]) (rest := []) (c_X4_isAtFair l hfl D t b σ p1 (.inr y16) u17) hx hb hml hown hts hE hsub hW hS q766 q767 q768 q34 q769 hy_X4_isAtFair ⟨rfl, rfl⟩ ⟨Nat.le_of_ble_eq_true rfl, Nat.le_of_ble_eq_true rfl⟩ rfl rfl hl.1 (Nat.le_of_ble_eq_true rfl) ⟨show 5 + 1 ≤ 6 by omega, show 30 + 6 ≤ 36 by omega⟩ dL_is_50 (fun H locs hW hS _ => ?_)
            refine W.widen (k := 6) (n := 36) (by omega) (by omega) ?_
            refine lv_iload hx hb dL_is_53 (lv_at hl 4 rfl) ?_
            refine lv_iconst (v := (-1)) hx hb dL_is_55 (by decide) ?_
            refine lv_icmp_eq (tgt := 63) hx hb dL_is_56 (by decide) (fun h18 => ?_) (fun h18 => ?_)
            · have hf := ifp h18 hf
              refine lv_iconst (v := 0) hx hb dL_is_63 (by decide) ?_
              refine lv_icmp_ne (tgt := 71) hx hb dL_is_64 (by decide) (fun h19 => ?_) (fun h19 => ?_)
              · have hf := ifn h19 hf
                refine lv_iconst (v := 0) hx hb dL_is_71 (by decide) ?_
                cases hf
                refine W.widen (k := 6) (n := 36) (by omega) (by omega) ?_
                exact W.zret (ty := .boolean) hx hb hr (by decide) (fun u hu _ => ⟨⟨rfl, by rw [hu]; exact hW⟩, hS.F hu⟩) hS.2.2 dL_is_72
              · have hf := ifp h19 hf
                refine lv_iconst (v := 1) hx hb dL_is_67 (by decide) ?_
                refine lv_goto (tgt := 72) hx hb dL_is_68 (by decide) ?_
                cases hf
                refine W.widen (k := 6) (n := 36) (by omega) (by omega) ?_
                exact W.zret (ty := .boolean) hx hb hr (by decide) (fun u hu _ => ⟨⟨rfl, by rw [hu]; exact hW⟩, hS.F hu⟩) hS.2.2 dL_is_72
            · have hf := ifn h18 hf
              refine lv_iconst (v := 1) hx hb dL_is_59 (by decide) ?_
              refine lv_goto (tgt := 64) hx hb dL_is_60 (by decide) ?_
              refine lv_icmp_ne (tgt := 71) hx hb dL_is_64 (by decide) (fun h20 => ?_) (fun h20 => ?_)
              · have hf := ifn h20 hf
                refine lv_iconst (v := 0) hx hb dL_is_71 (by decide) ?_
                cases hf
                refine W.widen (k := 6) (n := 36) (by omega) (by omega) ?_
                exact W.zret (ty := .boolean) hx hb hr (by decide) (fun u hu _ => ⟨⟨rfl, by rw [hu]; exact hW⟩, hS.F hu⟩) hS.2.2 dL_is_72
              · have hf := ifp h20 hf
                refine lv_iconst (v := 1) hx hb dL_is_67 (by decide) ?_
                refine lv_goto (tgt := 72) hx hb dL_is_68 (by decide) ?_
                cases hf
                refine W.widen (k := 6) (n := 36) (by omega) (by omega) ?_
                exact W.zret (ty := .boolean) hx hb hr (by decide) (fun u hu _ => ⟨⟨rfl, by rw [hu]; exact hW⟩, hS.F hu⟩) hS.2.2 dL_is_72

/-! rows of the layer: reads and writes of the one world -/
section LAY
variable {p : Program} {l : Launch} {e : Env} {R : Room} {s : State} {m : MethodId} {args : Array Value} {below : List Frame} {meth : Method} {c : Code} {H : Heap} {locs : List Loc} {cells slots : Nat} {Q : State → Prop} {D : va_G} {t : Nat → ClassId} {b : Nat} {σ : Sg} {pc : Nat} {ls : Array Slot} {rest : List Value} {cc : ByteArray} {own ref : String} {index k : Nat} {H0 : Heap}
theorem getP (hx : p.tables.exec = Jvm.exec) (hb : c.code = cc) (hta : ∀ w ∈ ALL, w.before args s = true) (hown : s.vm.findClass own = some m.cls) (hK : va_K D vwCl (tyL t) s) (hW : wd D t b σ H) (j : Nat) (hj : j < 8) (hlink : Cond.fieldLink own index (TX4 j).1 (TX4 j).2.1 (TX4 j).2.2.1 ∈ ALL) {v : Value} (hv : (fsP b (σ 0))[j]? = some v) (hdg : decode cc pc = .ok (.getfield index, 3)) (kk : W p l e R s m args below meth c H locs cells slots Q (F0 m (pc + 3) ls (v :: rest))) : W p l e R s m args below meth c H locs cells slots Q (F0 m pc ls (.ref (b + 0) :: rest)) :=
  va_get (C := RX4) (T := TX4) (N := 8) (ci := 4) hx hb hta inA4 hown hK hW 0 (wl_at (k := 0) (q := (0, 0)) (by decide +kernel) (by decide)) rfl j hj (hta _ hlink) (fun _ h9 => h9) hv hdg kk
theorem getM (hx : p.tables.exec = Jvm.exec) (hb : c.code = cc) (hta : ∀ w ∈ ALL, w.before args s = true) (hown : s.vm.findClass own = some m.cls) (hK : va_K D vwCl (tyL t) s) (hW : wd D t b σ H) (j : Nat) (hj : j < 14) (hlink : Cond.fieldLink own index (TX5 j).1 (TX5 j).2.1 (TX5 j).2.2.1 ∈ ALL) {v : Value} (hv : (fsM b (σ 193))[j]? = some v) (hdg : decode cc pc = .ok (.getfield index, 3)) (kk : W p l e R s m args below meth c H locs cells slots Q (F0 m (pc + 3) ls (v :: rest))) : W p l e R s m args below meth c H locs cells slots Q (F0 m pc ls (.ref (b + 193) :: rest)) :=
  va_get (C := RX5) (T := TX5) (N := 14) (ci := 5) hx hb hta inA5 hown hK hW 193 (wl_at (k := 193) (q := (5, 0)) (by decide +kernel) (by decide)) rfl j hj (hta _ hlink) (fun _ h9 => h9) hv hdg kk
theorem getF (hx : p.tables.exec = Jvm.exec) (hb : c.code = cc) (hta : ∀ w ∈ ALL, w.before args s = true) (hown : s.vm.findClass own = some m.cls) (hK : va_K D vwCl (tyL t) s) (hW : wd D t b σ H) (hq : sh k = (1, 0)) (j : Nat) (hj : j < 13) (hlink : Cond.fieldLink own index (TX1 j).1 (TX1 j).2.1 (TX1 j).2.2.1 ∈ ALL) {v : Value} (hv : (fsF b k (σ k))[j]? = some v) (hdg : decode cc pc = .ok (.getfield index, 3)) (kk : W p l e R s m args below meth c H locs cells slots Q (F0 m (pc + 3) ls (v :: rest))) : W p l e R s m args below meth c H locs cells slots Q (F0 m pc ls (.ref (b + k) :: rest)) :=
  va_get (C := RX1) (T := TX1) (N := 13) (ci := 1) hx hb hta inA1 hown hK hW k (wl_at hq (by decide)) rfl j hj (hta _ hlink) (fun _ h9 => h9) hv hdg kk
theorem getC (hx : p.tables.exec = Jvm.exec) (hb : c.code = cc) (hta : ∀ w ∈ ALL, w.before args s = true) (hown : s.vm.findClass own = some m.cls) (hK : va_K D vwCl (tyL t) s) (hW : wd D t b σ H) (hq : sh k = (2, 0)) (j : Nat) (hj : j < 10) (hlink : Cond.fieldLink own index (TX0 j).1 (TX0 j).2.1 (TX0 j).2.2.1 ∈ ALL) {v : Value} (hv : (fsC b k (σ k))[j]? = some v) (hdg : decode cc pc = .ok (.getfield index, 3)) (kk : W p l e R s m args below meth c H locs cells slots Q (F0 m (pc + 3) ls (v :: rest))) : W p l e R s m args below meth c H locs cells slots Q (F0 m pc ls (.ref (b + k) :: rest)) :=
  va_get (C := RX0) (T := TX0) (N := 10) (ci := 0) hx hb hta inA0 hown hK hW k (wl_at hq (by decide)) rfl j hj (hta _ hlink) (fun _ h9 => h9) hv hdg kk
theorem getS (hx : p.tables.exec = Jvm.exec) (hb : c.code = cc) (hta : ∀ w ∈ ALL, w.before args s = true) (hown : s.vm.findClass own = some m.cls) (hK : va_K D vwCl (tyL t) s) (hW : wd D t b σ H) (hq : sh k = (3, 0)) (j : Nat) (hj : j < 11) (hlink : Cond.fieldLink own index (TX3 j).1 (TX3 j).2.1 (TX3 j).2.2.1 ∈ ALL) {v : Value} (hv : (fsS b k (σ k))[j]? = some v) (hdg : decode cc pc = .ok (.getfield index, 3)) (kk : W p l e R s m args below meth c H locs cells slots Q (F0 m (pc + 3) ls (v :: rest))) : W p l e R s m args below meth c H locs cells slots Q (F0 m pc ls (.ref (b + k) :: rest)) :=
  va_get (C := RX3) (T := TX3) (N := 11) (ci := 3) hx hb hta inA3 hown hK hW k (wl_at hq (by decide)) rfl j hj (hta _ hlink) (fun _ h9 => h9) hv hdg kk
theorem getO (hx : p.tables.exec = Jvm.exec) (hb : c.code = cc) (hta : ∀ w ∈ ALL, w.before args s = true) (hown : s.vm.findClass own = some m.cls) (hK : va_K D vwCl (tyL t) s) (hW : wd D t b σ H) (hq : sh k = (4, 0)) (j : Nat) (hj : j < 11) (hlink : Cond.fieldLink own index (TX2 j).1 (TX2 j).2.1 (TX2 j).2.2.1 ∈ ALL) {v : Value} (hv : (fsO b k (σ k))[j]? = some v) (hdg : decode cc pc = .ok (.getfield index, 3)) (kk : W p l e R s m args below meth c H locs cells slots Q (F0 m (pc + 3) ls (v :: rest))) : W p l e R s m args below meth c H locs cells slots Q (F0 m pc ls (.ref (b + k) :: rest)) :=
  va_get (C := RX2) (T := TX2) (N := 11) (ci := 2) hx hb hta inA2 hown hK hW k (wl_at hq (by decide)) rfl j hj (hta _ hlink) (fun _ h9 => h9) hv hdg kk
theorem putX {C : String} {T : u_T} {N ci : Nat} {q : Nat × Nat} {fs : List Value} {tyf : Nat → FieldType} (hin : ∀ w ∈ u_ws C T N, w ∈ ALL) (hty : ∀ k, k < N → parseFieldDescriptor (T k).2.2.1 = some (tyf k)) (hnm : ∀ a, a < N → ∀ b, b < N → a ≠ b → (T a).2.1 ≠ (T b).2.1) (hcl : vwCl[ci]? = some (C, T, N)) (h9 : q.1 ≠ 99) (hfs : ec b t k (σ k) q = .inr (ci, fs)) (hx : p.tables.exec = Jvm.exec) (hb : c.code = cc) (hta : ∀ w ∈ ALL, w.before args s = true) (hown : s.vm.findClass own = some m.cls) (hK : va_K D vwCl (tyL t) s) (hW : wd D t b σ H) (hS : va_S (geA b) H0 H locs) (hq : sh k = q) (j : Nat) (hj : j < N) (hlink : Cond.fieldLink own index (T j).1 (T j).2.1 (T j).2.2.1 ∈ ALL) (hfin : (T j).2.2.2 = false) {x : Int32} (hn : narrow (tyf j) (.int x) = .int x) (hfit : fits (tyf j) (.int x) = true) (hl : j < fs.length) (hset : ec b t k (upd (σ k) j x) q = .inr (ci, fs.set j (.int x))) (hdg : decode cc pc = .ok (.putfield index, 3)) (kk : ∀ (H1 : Heap) (locs1 : List Loc), wd D t b (u2 σ k j x) H1 → va_S (geA b) H0 H1 locs1 → W p l e R s m args below meth c H1 locs1 cells slots Q (F0 m (pc + 3) ls rest)) : W p l e R s m args below meth c H locs cells slots Q (F0 m pc ls (.int x :: .ref (b + k) :: rest)) := by
  refine va_put (C := C) (T := T) (N := N) (ci := ci) (ty := tyf j) (A := geA b) hx hb hta hin tyf hty hnm hown hK hW wl_D hS k ((wl_at hq h9).trans (by rw [hfs])) hcl j hj (hta _ hlink) (fun _ h9 => h9) hfin (hty j hj) hn hfit hl hdg (fun H1 locs1 hP _ hS1 => kk H1 locs1 ?_ hS1)
  rw [wl_set (σ' := u2 σ k j x) hq h9 (by rw [u2_s]; exact hset) (fun a h => u2_n h)] at hP
  exact hP
theorem iald {n : Nat} {i : Int32} (hx : p.tables.exec = Jvm.exec) (hb : c.code = cc) (hK : va_K D vwCl (tyL t) s) (hW : wd D t b σ H) (hq : sh k = (6, n)) (hin : vp_in i n) (hdg : decode cc pc = .ok (.iaload, 1)) (kk : W p l e R s m args below meth c H locs cells slots Q (F0 m (pc + 1) ls (.int (σ k i.toNatClampNeg) :: rest))) : W p l e R s m args below meth c H locs cells slots Q (F0 m pc ls (.int i :: .ref (b + k) :: rest)) :=
  va_iald hx hb hK hW k 0 (wl_at hq (show (6 : Nat) ≠ 99 by decide)) rfl hin hdg kk
theorem cald {n : Nat} {i : Int32} (hx : p.tables.exec = Jvm.exec) (hb : c.code = cc) (hK : va_K D vwCl (tyL t) s) (hW : wd D t b σ H) (hq : sh k = (7, n)) (hin : vp_in i n) (hdg : decode cc pc = .ok (.caload, 1)) (kk : W p l e R s m args below meth c H locs cells slots Q (F0 m (pc + 1) ls (.int (σ k i.toNatClampNeg) :: rest))) : W p l e R s m args below meth c H locs cells slots Q (F0 m pc ls (.int i :: .ref (b + k) :: rest)) :=
  va_cald hx hb hK hW k 1 (wl_at hq (show (7 : Nat) ≠ 99 by decide)) rfl hin hdg kk
theorem sald {n : Nat} {i : Int32} (hx : p.tables.exec = Jvm.exec) (hb : c.code = cc) (hK : va_K D vwCl (tyL t) s) (hW : wd D t b σ H) (hq : sh k = (8, n)) (hin : vp_in i n) (hdg : decode cc pc = .ok (.aaload, 1)) (kk : W p l e R s m args below meth c H locs cells slots Q (F0 m (pc + 1) ls (.ref (b + sk k i) :: rest))) : W p l e R s m args below meth c H locs cells slots Q (F0 m pc ls (.int i :: .ref (b + k) :: rest)) :=
  va_aldq hx hb hK hW k 2 (wl_at hq (show (8 : Nat) ≠ 99 by decide)) rfl hin hdg kk
theorem rald {n : Nat} {i : Int32} (hx : p.tables.exec = Jvm.exec) (hb : c.code = cc) (hK : va_K D vwCl (tyL t) s) (hW : wd D t b σ H) (hq : sh k = (9, n)) (hin : vp_in i n) (hdg : decode cc pc = .ok (.aaload, 1)) (kk : W p l e R s m args below meth c H locs cells slots Q (F0 m (pc + 1) ls (.ref (b + rk k i) :: rest))) : W p l e R s m args below meth c H locs cells slots Q (F0 m pc ls (.int i :: .ref (b + k) :: rest)) :=
  va_aldq hx hb hK hW k 3 (wl_at hq (show (9 : Nat) ≠ 99 by decide)) rfl hin hdg kk
theorem lald {n : Nat} {i : Int32} (hx : p.tables.exec = Jvm.exec) (hb : c.code = cc) (hK : va_K D vwCl (tyL t) s) (hW : wd D t b σ H) (hq : sh k = (10, n)) (hin : vp_in i n) (hdg : decode cc pc = .ok (.laload, 1)) (kk : W p l e R s m args below meth c H locs cells slots Q (F0 m (pc + 1) ls (.long (σ k i.toNatClampNeg).toInt64 :: rest))) : W p l e R s m args below meth c H locs cells slots Q (F0 m pc ls (.int i :: .ref (b + k) :: rest)) :=
  va_lald hx hb hK hW k 4 (wl_at hq (show (10 : Nat) ≠ 99 by decide)) rfl hin hdg kk
theorem iast {n : Nat} {i x : Int32} (hx : p.tables.exec = Jvm.exec) (hb : c.code = cc) (hK : va_K D vwCl (tyL t) s) (hW : wd D t b σ H) (hS : va_S (geA b) H0 H locs) (hq : sh k = (6, n)) (hin : vp_in i n) (hdg : decode cc pc = .ok (.iastore, 1)) (kk : ∀ (H1 : Heap) (locs1 : List Loc), wd D t b (u2 σ k i.toNatClampNeg x) H1 → va_S (geA b) H0 H1 locs1 → W p l e R s m args below meth c H1 locs1 cells slots Q (F0 m (pc + 1) ls rest)) : W p l e R s m args below meth c H locs cells slots Q (F0 m pc ls (.int x :: .int i :: .ref (b + k) :: rest)) := by
  refine va_iast hx hb hK hW wl_D hS k 0 (wl_at hq (show (6 : Nat) ≠ 99 by decide)) rfl hin hdg (fun H1 locs1 hP _ hS1 => kk H1 locs1 ?_ hS1)
  rw [wl_set (σ' := u2 σ k i.toNatClampNeg x) hq (show (6 : Nat) ≠ 99 by decide) (by rw [u2_s]; rfl) (fun a h => u2_n h)] at hP
  exact hP
theorem cast {n : Nat} {i x : Int32} (hx : p.tables.exec = Jvm.exec) (hb : c.code = cc) (hK : va_K D vwCl (tyL t) s) (hW : wd D t b σ H) (hS : va_S (geA b) H0 H locs) (hq : sh k = (7, n)) (hin : vp_in i n) (hdg : decode cc pc = .ok (.castore, 1)) (kk : ∀ (H1 : Heap) (locs1 : List Loc), wd D t b (u2 σ k i.toNatClampNeg (vp_nar .char x)) H1 → va_S (geA b) H0 H1 locs1 → W p l e R s m args below meth c H1 locs1 cells slots Q (F0 m (pc + 1) ls rest)) : W p l e R s m args below meth c H locs cells slots Q (F0 m pc ls (.int x :: .int i :: .ref (b + k) :: rest)) := by
  refine va_cast hx hb hK hW wl_D hS k 1 (wl_at hq (show (7 : Nat) ≠ 99 by decide)) rfl hin hdg (fun H1 locs1 hP _ hS1 => kk H1 locs1 ?_ hS1)
  rw [wl_set (σ' := u2 σ k i.toNatClampNeg (vp_nar .char x)) hq (show (7 : Nat) ≠ 99 by decide) (by rw [u2_s]; rfl) (fun a h => u2_n h)] at hP
  exact hP
theorem last {n : Nat} {i x : Int32} {y : Int64} (hy : y = x.toInt64) (hx : p.tables.exec = Jvm.exec) (hb : c.code = cc) (hK : va_K D vwCl (tyL t) s) (hW : wd D t b σ H) (hS : va_S (geA b) H0 H locs) (hq : sh k = (10, n)) (hin : vp_in i n) (hdg : decode cc pc = .ok (.lastore, 1)) (kk : ∀ (H1 : Heap) (locs1 : List Loc), wd D t b (u2 σ k i.toNatClampNeg x) H1 → va_S (geA b) H0 H1 locs1 → W p l e R s m args below meth c H1 locs1 cells slots Q (F0 m (pc + 1) ls rest)) : W p l e R s m args below meth c H locs cells slots Q (F0 m pc ls (.long y :: .int i :: .ref (b + k) :: rest)) := by
  refine va_last hx hb hK hW wl_D hS k 4 (wl_at hq (show (10 : Nat) ≠ 99 by decide)) rfl hin hdg (fun H1 locs1 hP _ hS1 => kk H1 locs1 ?_ hS1)
  rw [wl_set (σ' := u2 σ k i.toNatClampNeg x) hq (show (10 : Nat) ≠ 99 by decide) (by
    rw [u2_s]
    have h5 : (fun j => (upd (σ k) i.toNatClampNeg x j).toInt64) = vp_updL (fun j => (σ k j).toInt64) i.toNatClampNeg y := by
      funext j
      unfold upd vp_updL
      by_cases h : j = i.toNatClampNeg
      · rw [if_pos h, if_pos h, hy]
      · rw [if_neg h, if_neg h]
    show (Sum.inl (t 4, n, Sum.inr (Sum.inl (fun j => (upd (σ k) i.toNatClampNeg x j).toInt64))) : va_E) = _
    rw [h5]) (fun a h => u2_n h)] at hP
  exact hP
theorem copy {k0 k1 n0 n1 : Nat} {n : Int32} (hx : p.tables.exec = Jvm.exec) (hb : c.code = cc) (hml : c.maxLocals = ls.size) (hta : ∀ w ∈ ALL, w.before args s = true) (hown : s.vm.findClass own = some m.cls) (hK : va_K D vwCl (tyL t) s) (hW : wd D t b σ H) (hS : va_S (geA b) H0 H locs) (hlink : Cond.methodLink own index arraycopyName ∈ ALL) (hnat : Cond.native arraycopyName ∈ ALL) (hstat : Cond.static arraycopyName ∈ ALL) (hini : Cond.initialized "java/lang/System" ∈ ALL) (hq0 : sh k0 = (6, n0)) (hq1 : sh k1 = (6, n1)) (hn0 : vp_in n (n0 + 1)) (hn1 : vp_in n (n1 + 1)) (hframes : 1 ≤ R.frames) (hlocals : (rest.map fun v => v.category).sum + (nativeFrameWords "java/lang/System" "arraycopy" 5 + 11) ≤ R.locals) (hdg : decode cc pc = .ok (.invokestatic index, 3)) (kk : ∀ (H1 : Heap) (locs1 : List Loc), wd D t b (cpy2 σ k0 k1 n.toNatClampNeg) H1 → va_S (geA b) H0 H1 locs1 → W p l e R s m args below meth c H1 locs1 cells slots Q (F0 m (pc + 3) ls rest)) : W p l e R s m args below meth c H locs cells slots Q (F0 m pc ls (.int n :: .int 0 :: .ref (b + k1) :: .int 0 :: .ref (b + k0) :: rest)) := by
  have z : (0 : Int32).toNatClampNeg = 0 := by decide
  have g0 : n.toNatClampNeg < n0 + 1 := Nat.not_le.mp fun q => hn0 (Or.inr q)
  have g1 : n.toNatClampNeg < n1 + 1 := Nat.not_le.mp fun q => hn1 (Or.inr q)
  refine va_copyi (ty := .int) hx hb hml hown (hta _ hlink) (hta _ hnat) (hta _ hstat) (hta _ hini) hK hW wl_D hS k0 k1 0 0 (wl_at hq0 (show (6 : Nat) ≠ 99 by decide)) (wl_at hq1 (show (6 : Nat) ≠ 99 by decide)) rfl rfl rfl (by decide) (by decide) (fun q => hn0 (Or.inl q)) (by rw [z]; omega) (by rw [z]; omega) (fun _ _ => rfl) hframes hlocals hdg (fun H1 locs1 hP _ hS1 => kk H1 locs1 ?_ hS1)
  rw [wl_set (σ' := cpy2 σ k0 k1 n.toNatClampNeg) hq1 (show (6 : Nat) ≠ 99 by decide) (by
    rw [z]
    have h5 : cpy2 σ k0 k1 n.toNatClampNeg k1 = va_cpy (σ k0) (σ k1) 0 0 n.toNatClampNeg := by simp [cpy2]
    show (Sum.inl (t 0, n1, Sum.inl (cpy2 σ k0 k1 n.toNatClampNeg k1)) : va_E) = _
    rw [h5]) (fun a h => by simp [cpy2, h])] at hP
  exact hP
/-- a call that returns -/
theorem mret {mc ms : Nat} {σ' : Sg} {v : Option Value} {a : Array Value} {st0 : List Value} (hr : va_Run p l e R s m args below meth c H locs cells slots mc ms (F0 m pc ls st0) rest (QG D t b σ' v a) (geA b)) (hW : wd D t b σ H) (hS : va_S (geA b) H0 H locs) (kk : ∀ (H1 : Heap) (locs1 : List Loc), wd D t b σ' H1 → va_S (geA b) H0 H1 locs1 → W p l e R s m args below meth c H1 locs1 (cells + mc) (slots + ms) Q (F0 m (pc + 3) ls (v.toList ++ rest))) : W p l e R s m args below meth c H locs cells slots Q (F0 m pc ls st0) := by
  intro T hT X
  obtain ⟨v', st₀, u, T', L, h0, X', hL, e1, e2, ⟨⟨hv, hb⟩, hz, hk⟩, st⟩ := hr T hT X
  cases hv
  rw [h0] at hz hk
  obtain ⟨t2, a1, b1⟩ := kk T'.heap (locs ++ L) (by rw [e1]; exact hb)
    ⟨Nat.le_trans hS.1 (by rw [e1]; exact hz), fun q h1 h2 => by rw [e1, hk q (Nat.lt_of_lt_of_le h1 hS.1) h2]; exact hS.2.1 q h1 h2, fun q hq => by
      rcases List.mem_append.mp hq with h | h
      · exact hS.2.2 q h
      · exact hL q h⟩ T' rfl X'
  exact ⟨t2, st t2 a1, b1⟩
theorem mV {C : String} {T : u_T} {N ci maxL nL n : Nat} {q : Nat × Nat} {fs : List Value} {y : MethodName} {bytes : ByteArray} {ret : Option FieldType} {rm : Room} {c9 : Cond} {σ' : Sg} {v : Option Value} {As st0 : List Value} (hM : Met l y (Cond.code y bytes maxL ret :: ALL) rm (PM D t b σ (.ref (b + k) :: As)) (QG D t b σ' v) 0 0 (geA b)) (hq : sh k = q) (h9 : q.1 ≠ 99) (hfs : ec b t k (σ k) q = .inr (ci, fs)) (hcl : vwCl[ci]? = some (C, T, N)) (hx : p.tables.exec = Jvm.exec) (hb : c.code = cc) (hml : c.maxLocals = nL) (hown : s.vm.findClass own = some m.cls) (hts : ∀ w ∈ c9 :: ALL, w.before args s = true) (hE : EV D t b s) (hW : wd D t b σ H) (hS : va_S (geA b) s.heap H locs) (w1 : Cond.methodLink own index y ∈ ALL) (w2 : Cond.instanceMethod y ∈ ALL) (w3 : Cond.selects C y y ∈ ALL) (w4 : Cond.initialized C ∈ ALL) (w5 : Cond.code y bytes maxL ret ∈ ALL) (hy : y.cls = C ∧ y.cls ≠ "java/lang/invoke/MethodHandle" ∧ y.cls ≠ "java/lang/invoke/VarHandle" ∧ (parseMethodDescriptor y.desc).map (fun d => d.parameters.length) = some n) (hrm : rm.cells = 0 ∧ rm.slots = 0) (hR : rm.frames + 1 ≤ R.frames ∧ 8 + (maxL + 11) + rm.locals ≤ R.locals) (hn : As.length = n) (hst : st0 = As.reverse ++ .ref (b + k) :: rest) (hsize : ls.size = nL) (hroom : (rest.map fun v => v.category).sum ≤ 8) (hc : cells ≤ R.cells ∧ slots ≤ R.slots) (hdg : decode cc pc = .ok (.invokevirtual index, 3)) (kk : ∀ (H1 : Heap) (locs1 : List Loc), wd D t b σ' H1 → va_S (geA b) s.heap H1 locs1 → W p l e R s m args below meth c H1 locs1 cells slots Q (F0 m (pc + 3) ls (v.toList ++ rest))) : W p l e R s m args below meth c H locs cells slots Q (F0 m pc ls st0) := by
  have hG : GoodIn (c9 :: ALL) (wsV own index C y (Cond.code y bytes maxL ret :: ALL)) := by
    intro w hw
    have hw : w ∈ ALL := by
      unfold wsV at hw
      rcases List.mem_append.mp hw with h | h
      · simp only [List.mem_cons, List.not_mem_nil, or_false] at h
        rcases h with rfl | rfl | rfl | rfl
        · exact w1
        · exact w2
        · exact w3
        · exact w4
      · rcases List.mem_cons.mp h with h | h
        · rw [h]; exact w5
        · exact h
    exact ⟨List.mem_cons_of_mem _ hw, good_of_word (List.mem_filter.mp hw).2⟩
  have he := (wl_at (b := b) (t := t) (σ := σ) hq h9).trans (by rw [hfs])
  exact mret (va_runV (As := As) (rest := rest) ⟨hx, hb, hml, hown, hts⟩ hM (cwV n hts hG rfl hrm.1 hrm.2 hy hR) ⟨PM_blind, va_recv (q := (C, T, N)) hE.1 hW hcl he, fun U hU hWm => ⟨rfl, by rw [hU]; exact hW, hE.step hWm hU hS⟩⟩ rfl hn hsize hst (lv_room hroom) hdg hc) hW hS kk
theorem mS {maxL nL n : Nat} {y : MethodName} {bytes : ByteArray} {ret : Option FieldType} {rm : Room} {c9 : Cond} {σ' : Sg} {v : Option Value} {As st0 : List Value} (hM : Met l y (Cond.code y bytes maxL ret :: ALL) rm (PM D t b σ As) (QG D t b σ' v) 0 0 (geA b)) (hx : p.tables.exec = Jvm.exec) (hb : c.code = cc) (hml : c.maxLocals = nL) (hown : s.vm.findClass own = some m.cls) (hts : ∀ w ∈ c9 :: ALL, w.before args s = true) (hE : EV D t b s) (hW : wd D t b σ H) (hS : va_S (geA b) s.heap H locs) (w1 : Cond.methodLink own index y ∈ ALL) (w2 : Cond.static y ∈ ALL) (w4 : Cond.initialized y.cls ∈ ALL) (w5 : Cond.code y bytes maxL ret ∈ ALL) (hy : y.cls ≠ "java/lang/invoke/MethodHandle" ∧ y.cls ≠ "java/lang/invoke/VarHandle" ∧ (parseMethodDescriptor y.desc).map (fun d => d.parameters.length) = some n) (hrm : rm.cells = 0 ∧ rm.slots = 0) (hR : rm.frames + 1 ≤ R.frames ∧ 8 + (maxL + 11) + rm.locals ≤ R.locals) (hn : As.length = n) (hst : st0 = As.reverse ++ rest) (hsize : ls.size = nL) (hroom : (rest.map fun v => v.category).sum ≤ 8) (hc : cells ≤ R.cells ∧ slots ≤ R.slots) (hdg : decode cc pc = .ok (.invokestatic index, 3)) (kk : ∀ (H1 : Heap) (locs1 : List Loc), wd D t b σ' H1 → va_S (geA b) s.heap H1 locs1 → W p l e R s m args below meth c H1 locs1 cells slots Q (F0 m (pc + 3) ls (v.toList ++ rest))) : W p l e R s m args below meth c H locs cells slots Q (F0 m pc ls st0) := by
  have hG : GoodIn (c9 :: ALL) (va_wsS own index y (Cond.code y bytes maxL ret :: ALL)) := by
    intro w hw
    have hw : w ∈ ALL := by
      unfold va_wsS at hw
      rcases List.mem_append.mp hw with h | h
      · simp only [List.mem_cons, List.not_mem_nil, or_false] at h
        rcases h with rfl | rfl | rfl
        · exact w1
        · exact w2
        · exact w4
      · rcases List.mem_cons.mp h with h | h
        · rw [h]; exact w5
        · exact h
    exact ⟨List.mem_cons_of_mem _ hw, good_of_word (List.mem_filter.mp hw).2⟩
  exact mret (va_runS (As := As) (rest := rest) ⟨hx, hb, hml, hown, hts⟩ hM (va_cwS n hts hG rfl hrm.1 hrm.2 hy hR) ⟨PM_blind, fun U hU hWm => ⟨rfl, by rw [hU]; exact hW, hE.step hWm hU hS⟩⟩ rfl hn hsize hst (lv_room hroom) hdg hc) hW hS kk
theorem mSN {maxL nL n : Nat} {host : String} {y : MethodName} {bytes : ByteArray} {ret : Option FieldType} {rm : Room} {c9 : Cond} {σ' : Sg} {v : Option Value} {As st0 : List Value} (hM : Met l y (Cond.code y bytes maxL ret :: ALL) rm (PM D t b σ As) (QG D t b σ' v) 0 0 (geA b)) (hx : p.tables.exec = Jvm.exec) (hb : c.code = cc) (hml : c.maxLocals = nL) (hown : s.vm.findClass own = some m.cls) (hts : ∀ w ∈ c9 :: ALL, w.before args s = true) (hE : EV D t b s) (hW : wd D t b σ H) (hS : va_S (geA b) s.heap H locs) (w1 : Cond.methodLinkNest own index y host ∈ NG) (w2 : Cond.static y ∈ ALL) (w4 : Cond.initialized y.cls ∈ ALL) (w5 : Cond.code y bytes maxL ret ∈ ALL) (hy : y.cls ≠ "java/lang/invoke/MethodHandle" ∧ y.cls ≠ "java/lang/invoke/VarHandle" ∧ (parseMethodDescriptor y.desc).map (fun d => d.parameters.length) = some n) (hrm : rm.cells = 0 ∧ rm.slots = 0) (hR : rm.frames + 1 ≤ R.frames ∧ 8 + (maxL + 11) + rm.locals ≤ R.locals) (hn : As.length = n) (hst : st0 = As.reverse ++ rest) (hsize : ls.size = nL) (hroom : (rest.map fun v => v.category).sum ≤ 8) (hc : cells ≤ R.cells ∧ slots ≤ R.slots) (hdg : decode cc pc = .ok (.invokestatic index, 3)) (kk : ∀ (H1 : Heap) (locs1 : List Loc), wd D t b σ' H1 → va_S (geA b) s.heap H1 locs1 → W p l e R s m args below meth c H1 locs1 cells slots Q (F0 m (pc + 3) ls (v.toList ++ rest))) : W p l e R s m args below meth c H locs cells slots Q (F0 m pc ls st0) := by
  exact mret (va_runSN (As := As) (rest := rest) ⟨hx, hb, hml, hown, hts⟩ hM ⟨va_cnB n hts (good_all c9 w5) rfl hrm.1 hrm.2 (hE.2.1 _ w1) (hts _ (List.mem_cons_of_mem _ w4)) hy hR, hts _ (List.mem_cons_of_mem _ w2), trivial⟩ ⟨PM_blind, fun U hU hWm => ⟨rfl, by rw [hU]; exact hW, hE.step hWm hU hS⟩⟩ rfl hn hsize hst (lv_room hroom) hdg hc) hW hS kk
end LAY

/-! constructors: cells are made one behind another, so the new cell lies at the heap's size -/
def EVC (D : va_G) (t : Nat → ClassId) (U : State) : Prop := va_K D vwCl (tyL t) U ∧ (∀ w ∈ NG, va_Nw w U) ∧ va_AO "PrizePurses$Stall" U ∧ va_AO "PrizePurses$Fair" U
theorem EVC.warm {D : va_G} {t : Nat → ClassId} {s U : State} (h : EVC D t s) (hW : s.WarmedH U.vm) : EVC D t U := ⟨va_K.moved hW.alike h.1, NG_warm hW h.2.1, va_AO.moved hW.alike h.2.2.1, va_AO.moved hW.alike h.2.2.2⟩
theorem EVC.blind {D : va_G} {t : Nat → ClassId} {U : State} {g : JFrame} {mk : MethodId} {a : Array Value} (h : EVC D t U) : EVC D t (U.calling g mk a) := ⟨va_K.moved (u := U) (U := U.calling g mk a) (Vm.Alike.refl U.vm) h.1, fun w hw => va_Nw.same (u := U) (U := U.calling g mk a) (NG_tab w hw) rfl (h.2.1 w hw), va_AO.moved (u := U) (U := U.calling g mk a) (Vm.Alike.refl U.vm) h.2.2.1, va_AO.moved (u := U) (U := U.calling g mk a) (Vm.Alike.refl U.vm) h.2.2.2⟩
/-- the cells from lo up to n are complete -/
def CB (D : va_G) (t : Nat → ClassId) (b : Nat) (σ : Sg) (lo n : Nat) (H : Heap) : Prop := ∀ j, lo ≤ j → j < n → va_at D vwCl (b + j, ec b t j (σ j) (sh j)) H
theorem CB.kept {D : va_G} {t : Nat → ClassId} {b : Nat} {σ : Sg} {lo n : Nat} {H H1 : Heap} (h : CB D t b σ lo n H) (hq : ∀ j, lo ≤ j → j < n → H1[b + j]? = H[b + j]?) : CB D t b σ lo n H1 := fun j h1 h2 => (h j h1 h2).kept (hq j h1 h2)
theorem CB.nil {D : va_G} {t : Nat → ClassId} {b : Nat} {σ : Sg} {lo : Nat} {H : Heap} : CB D t b σ lo lo H := fun j h1 h2 => by omega
theorem CB.snoc {D : va_G} {t : Nat → ClassId} {b : Nat} {σ : Sg} {lo n : Nat} {H : Heap} (h : CB D t b σ lo n H) (hn : va_at D vwCl (b + n, ec b t n (σ n) (sh n)) H) : CB D t b σ lo (n + 1) H := fun j h1 h2 => by
  rcases Nat.lt_or_ge j n with g | g
  · exact h j h1 g
  · rw [show j = n by omega]; exact hn
theorem CB.app {D : va_G} {t : Nat → ClassId} {b : Nat} {σ : Sg} {lo m n : Nat} {H : Heap} (h : CB D t b σ lo m H) (h2 : CB D t b σ m n H) : CB D t b σ lo n H := fun j h1 h3 => by
  rcases Nat.lt_or_ge j m with g | g
  · exact h j h1 g
  · exact h2 j g h3
def PC (D : va_G) (t : Nat → ClassId) (b k : Nat) (e : va_E) : Array Value → State → Prop := va_Pc [.ref (b + k)] (fun U => U.heap.size = b + (k + 1) ∧ va_at D vwCl (b + k, e) U.heap ∧ EVC D t U)
def QC (D : va_G) (t : Nat → ClassId) (b : Nat) (σ : Sg) (k n : Nat) : Array Value → State → Outcome → State → Prop := fun _ st oc u => oc = .returned none ∧ u.heap.size = b + n ∧ CB D t b σ k n u.heap ∧ ∀ q, q < b + k → u.heap[q]? = st.heap[q]?
theorem PC_blind {D : va_G} {t : Nat → ClassId} {b k : Nat} {e : va_E} : FrameBlind (PC D t b k e) := fun a U g mk q => by
  obtain ⟨q0, q1, q2, q3⟩ := q
  exact ⟨q0, q1, q2, EVC.blind q3⟩
theorem arrV_cong {cA : ClassId} {n : Nat} {f g : Nat → Value} (h : ∀ j, j < n → f j = g j) : arrV cA n f = arrV cA n g := by
  unfold arrV
  congr 1
  congr 1
  funext j
  exact h j.val j.isLt
section LAYC
variable {p : Program} {l : Launch} {e : Env} {R : Room} {s : State} {m : MethodId} {args : Array Value} {below : List Frame} {meth : Method} {c : Code} {H : Heap} {locs : List Loc} {cells slots : Nat} {Q : State → Prop} {D : va_G} {t : Nat → ClassId} {b : Nat} {σ : Sg} {pc : Nat} {ls : Array Slot} {rest : List Value} {cc : ByteArray} {own ref : String} {index k : Nat} {H0 : Heap}
theorem cnew {C : String} {T : u_T} {N ci h : Nat} (hin : ∀ w ∈ u_ws C T N, w ∈ ALL) {ty : Nat → FieldType} (hty : ∀ k, k < N → parseFieldDescriptor (T k).2.2.1 = some (ty k)) (hc : vwCl[ci]? = some (C, T, N)) {fs : List Value} (hfs : ∀ j, j < N → defaultValue (ty j) = vp_V fs j) (hx : p.tables.exec = Jvm.exec) (hb : c.code = cc) (hta : ∀ w ∈ ALL, w.before args s = true) (hown : s.vm.findClass own = some m.cls) (hK : va_K D vwCl (tyL t) s) (w1 : Cond.classLink own index C ∈ ALL) (w2 : Cond.instantiable C N ∈ ALL) (w3 : Cond.initialized C ∈ ALL) (hz : H.size = h) (hcells : cells + 1 ≤ R.cells) (hslots : slots + N ≤ R.slots) (hdg : decode cc pc = .ok (.new index, 3))
    (kk : ∀ H1 : Heap, va_at D vwCl (h, .inr (ci, fs)) H1 → H1.size = h + 1 → (∀ q, q < h → H1[q]? = H[q]?) → W p l e R s m args below meth c H1 locs (cells + 1) (slots + N) Q (F0 m (pc + 3) ls (.ref h :: rest))) : W p l e R s m args below meth c H locs cells slots Q (F0 m pc ls rest) := by
  have hKn := hK.1 ci _ hc
  refine W.newcK hx hb hown (hta _ w1) (hta _ w2) (hta _ w3) rfl hdg hcells hslots hKn.2.1 hz fun H1 kC hkC e1 z1 o1 => ?_
  exact kk H1 ⟨_, hc, (u_born ty hta hin hKn hkC e1 hty).to hfs⟩ z1 o1
theorem cnewI {n : Int32} {N h : Nat} (hx : p.tables.exec = Jvm.exec) (hb : c.code = cc) (hta : ∀ w ∈ ALL, w.before args s = true) (hK : va_K D vwCl (tyL t) s) (w1 : Cond.arrayClass .int ∈ ALL) (hn : ¬ n < 0) (hN : n.toNatClampNeg = N) (hbytes : N * 4 ≤ 536870912) (hz : H.size = h) (hcells : cells + 1 ≤ R.cells) (hslots : slots + N ≤ R.slots) (hdg : decode cc pc = .ok (.newarray .int, 2))
    (kk : ∀ H1 : Heap, va_at D vwCl (h, .inl (t 0, N, .inl (fun _ => 0))) H1 → H1.size = h + 1 → (∀ q, q < h → H1[q]? = H[q]?) → W p l e R s m args below meth c H1 locs (cells + 1) (slots + N) Q (F0 m (pc + 2) ls (.ref h :: rest))) : W p l e R s m args below meth c H locs cells slots Q (F0 m pc ls (.int n :: rest)) := by
  refine va_newaK (atype := .int) hx hb (hta _ w1) rfl hdg rfl hn hN hbytes hcells hslots hz fun H1 cA e1 z1 o1 hAr hNm => ?_
  have hcA : cA = t 0 := Option.some.inj (hNm.symm.trans (hK.2 0 _ rfl).2)
  subst hcA
  exact kk H1 e1 z1 o1
theorem cnewC {n : Int32} {N h : Nat} (hx : p.tables.exec = Jvm.exec) (hb : c.code = cc) (hta : ∀ w ∈ ALL, w.before args s = true) (hK : va_K D vwCl (tyL t) s) (w1 : Cond.arrayClass .char ∈ ALL) (hn : ¬ n < 0) (hN : n.toNatClampNeg = N) (hbytes : N * 2 ≤ 536870912) (hz : H.size = h) (hcells : cells + 1 ≤ R.cells) (hslots : slots + N ≤ R.slots) (hdg : decode cc pc = .ok (.newarray .char, 2))
    (kk : ∀ H1 : Heap, va_at D vwCl (h, .inl (t 1, N, .inl (fun _ => 0))) H1 → H1.size = h + 1 → (∀ q, q < h → H1[q]? = H[q]?) → W p l e R s m args below meth c H1 locs (cells + 1) (slots + N) Q (F0 m (pc + 2) ls (.ref h :: rest))) : W p l e R s m args below meth c H locs cells slots Q (F0 m pc ls (.int n :: rest)) := by
  refine va_newaK (atype := .char) hx hb (hta _ w1) rfl hdg rfl hn hN hbytes hcells hslots hz fun H1 cA e1 z1 o1 hAr hNm => ?_
  have hcA : cA = t 1 := Option.some.inj (hNm.symm.trans (hK.2 1 _ rfl).2)
  subst hcA
  exact kk H1 e1 z1 o1
theorem cnewL {n : Int32} {N h : Nat} (hx : p.tables.exec = Jvm.exec) (hb : c.code = cc) (hta : ∀ w ∈ ALL, w.before args s = true) (hK : va_K D vwCl (tyL t) s) (w1 : Cond.arrayClass .long ∈ ALL) (hn : ¬ n < 0) (hN : n.toNatClampNeg = N) (hbytes : N * 8 ≤ 536870912) (hz : H.size = h) (hcells : cells + 1 ≤ R.cells) (hslots : slots + N ≤ R.slots) (hdg : decode cc pc = .ok (.newarray .long, 2))
    (kk : ∀ H1 : Heap, va_at D vwCl (h, .inl (t 4, N, .inr (.inl (fun _ => 0)))) H1 → H1.size = h + 1 → (∀ q, q < h → H1[q]? = H[q]?) → W p l e R s m args below meth c H1 locs (cells + 1) (slots + N) Q (F0 m (pc + 2) ls (.ref h :: rest))) : W p l e R s m args below meth c H locs cells slots Q (F0 m pc ls (.int n :: rest)) := by
  refine va_newaK (atype := .long) hx hb (hta _ w1) rfl hdg rfl hn hN hbytes hcells hslots hz fun H1 cA e1 z1 o1 hAr hNm => ?_
  have hcA : cA = t 4 := Option.some.inj (hNm.symm.trans (hK.2 4 _ rfl).2)
  subst hcA
  exact kk H1 e1 z1 o1
theorem cnewA {C : String} {n : Int32} {N h t0 : Nat} {cT : ClassId} (ht : (tyL t)[t0]? = some (cT, .object C)) (hx : p.tables.exec = Jvm.exec) (hb : c.code = cc) (hta : ∀ w ∈ ALL, w.before args s = true) (hown : s.vm.findClass own = some m.cls) (hK : va_K D vwCl (tyL t) s) (w1 : Cond.classLink own index C ∈ ALL) (hover : va_AO C s) (hn : ¬ n < 0) (hN : n.toNatClampNeg = N) (hbytes : N * 4 ≤ 536870912) (hz : H.size = h) (hcells : cells + 1 ≤ R.cells) (hslots : slots + N ≤ R.slots) (hdg : decode cc pc = .ok (.anewarray index, 3))
    (kk : ∀ H1 : Heap, va_at D vwCl (h, .inl (cT, N, .inr (.inr (.inr (.inr (fun _ => none)))))) H1 → H1.size = h + 1 → (∀ q, q < h → H1[q]? = H[q]?) → W p l e R s m args below meth c H1 locs (cells + 1) (slots + N) Q (F0 m (pc + 3) ls (.ref h :: rest))) : W p l e R s m args below meth c H locs cells slots Q (F0 m pc ls (.int n :: rest)) := by
  subst hN
  subst hz
  refine W.anew hx hb hown (hta _ w1) (va_AO.use hover) rfl hdg rfl hn hbytes hcells hslots fun cA kA comp f1 f2 f3 f4 => ?_
  have hcA : cA = cT := by
    obtain ⟨kA', comp', -, -, -, g4⟩ := (hK.2 t0 _ ht).2
    exact Option.some.inj (f1.symm.trans g4)
  subst hcA
  refine kk _ ?_ (by rw [Array.size_push]) (fun q hq => by rw [Array.getElem?_push, if_neg (Nat.ne_of_lt hq)])
  show (H.push _)[H.size]? = some (vp_cell _ _)
  rw [Array.getElem?_push_size]
  exact congrArg some (arrV_new cA _ .null)
theorem cputF {C : String} {T : u_T} {N ci a : Nat} {fs : List Value} {tyf : Nat → FieldType} (hin : ∀ w ∈ u_ws C T N, w ∈ ALL) (hty : ∀ k, k < N → parseFieldDescriptor (T k).2.2.1 = some (tyf k)) (hnm : ∀ a, a < N → ∀ b, b < N → a ≠ b → (T a).2.1 ≠ (T b).2.1) (hcl : vwCl[ci]? = some (C, T, N)) (hx : p.tables.exec = Jvm.exec) (hb : c.code = cc) (hta : ∀ w ∈ ALL, w.before args s = true) (hown : s.vm.findClass own = some m.cls) (hK : va_K D vwCl (tyL t) s) (hO : va_at D vwCl (a, .inr (ci, fs)) H) (j : Nat) (hj : j < N) (hlink : Cond.fieldLink own index (T j).1 (T j).2.1 (T j).2.2.1 ∈ ALL) (hfin : (T j).2.2.2 = true) (hin2 : meth.name = "<init>") (hdecl : (T j).1 = own) {v : Value} (hn : narrow (tyf j) v = v) (hfit : fits (tyf j) v = true) (hl : j < fs.length) (hdg : decode cc pc = .ok (.putfield index, 3))
    (kk : ∀ (H1 : Heap) (z : Loc), va_at D vwCl (a, .inr (ci, fs.set j v)) H1 → H1.size = H.size → (∀ q, q ≠ a → H1[q]? = H[q]?) → z.base = a → W p l e R s m args below meth c H1 (locs ++ [z]) cells slots Q (F0 m (pc + 3) ls rest)) : W p l e R s m args below meth c H locs cells slots Q (F0 m pc ls (v :: .ref a :: rest)) := by
  have hap := va_apart (own := own) hta hin tyf hty hnm hK hcl
  obtain ⟨r, h1, cell, q1, q2, q3, q4⟩ := hO
  have hr : r = (C, T, N) := Option.some.inj (h1.symm.trans hcl)
  subst hr
  obtain ⟨hS, hfc, kC, hkC, hkind⟩ := hK.1 ci _ hcl
  obtain ⟨cf, kf, fi, f, hi, hsl⟩ := hS j hj
  have hlay := hta _ (hin _ (u_in_lay hj))
  unfold u_lay at hlay
  rw [if_pos hfin] at hlay
  have hst := (u_facts hfc hkC (u_lays hta hin hj) hi).1
  have hcf : m.cls = cf := by
    obtain ⟨_, _, c', _, _, _, -, -, hf', -, -, -, hown2, -⟩ := Cond.laysFinal_spec hlay
    have e1 : c' = cf := by have := hi.symm.trans hf'; simp at this; exact this.1.symm
    rw [hdecl] at hown2
    rw [← e1]; exact Option.some.inj (hown.symm.trans hown2)
  have h6 := u_fits hfc hkC hkind (Or.inr hlay) hi (hty j hj) hn hfit
  refine W.putFinK hx hb hown (hta _ hlink) hi hst hcf hin2 (by rw [q2]; exact h6) q1 q3 (by rw [hsl]; exact k2_hasslot (q4 j hj)) rfl rfl hdg fun H' e1 e2 e3 => ?_
  rw [hsl] at e1
  exact kk H' _ ⟨_, hcl, t_OB.to (V := updV (vp_V fs) j v) ⟨_, e1, q2, q3, t_set q4 hap hj v⟩ (fun j _ => vp_updV_set hl v j)⟩ e2 e3 rfl
theorem cput {C : String} {T : u_T} {N ci a : Nat} {fs : List Value} {tyf : Nat → FieldType} (hin : ∀ w ∈ u_ws C T N, w ∈ ALL) (hty : ∀ k, k < N → parseFieldDescriptor (T k).2.2.1 = some (tyf k)) (hnm : ∀ a, a < N → ∀ b, b < N → a ≠ b → (T a).2.1 ≠ (T b).2.1) (hcl : vwCl[ci]? = some (C, T, N)) (hx : p.tables.exec = Jvm.exec) (hb : c.code = cc) (hta : ∀ w ∈ ALL, w.before args s = true) (hown : s.vm.findClass own = some m.cls) (hK : va_K D vwCl (tyL t) s) (hO : va_at D vwCl (a, .inr (ci, fs)) H) (j : Nat) (hj : j < N) (hlink : Cond.fieldLink own index (T j).1 (T j).2.1 (T j).2.2.1 ∈ ALL) (hfin : (T j).2.2.2 = false) {v : Value} (hn : narrow (tyf j) v = v) (hfit : fits (tyf j) v = true) (hl : j < fs.length) (hdg : decode cc pc = .ok (.putfield index, 3))
    (kk : ∀ (H1 : Heap) (z : Loc), va_at D vwCl (a, .inr (ci, fs.set j v)) H1 → H1.size = H.size → (∀ q, q ≠ a → H1[q]? = H[q]?) → z.base = a → W p l e R s m args below meth c H1 (locs ++ [z]) cells slots Q (F0 m (pc + 3) ls rest)) : W p l e R s m args below meth c H locs cells slots Q (F0 m pc ls (v :: .ref a :: rest)) := by
  have hap := va_apart (own := own) hta hin tyf hty hnm hK hcl
  obtain ⟨r, h1, cell, q1, q2, q3, q4⟩ := hO
  have hr : r = (C, T, N) := Option.some.inj (h1.symm.trans hcl)
  subst hr
  obtain ⟨hS, hfc, kC, hkC, hkind⟩ := hK.1 ci _ hcl
  obtain ⟨cf, kf, fi, f, hi, hsl⟩ := hS j hj
  have hlay := hta _ (hin _ (u_in_lay hj))
  unfold u_lay at hlay
  rw [if_neg (by rw [hfin]; decide)] at hlay
  have hst := (u_facts hfc hkC (u_lays hta hin hj) hi).1
  have h6 := u_store hfc hkC hkind hlay hi (hty j hj) hn hfit
  refine W.putK hx hb (f := f) ⟨hown, hta _ hlink, ⟨_, _, _, hi⟩, hst⟩ (by rw [q2]; exact h6) q1 q3 (by rw [hsl]; exact k2_hasslot (q4 j hj)) rfl rfl hdg fun H' e1 e2 e3 => ?_
  rw [hsl] at e1
  exact kk H' _ ⟨_, hcl, t_OB.to (V := updV (vp_V fs) j v) ⟨_, e1, q2, q3, t_set q4 hap hj v⟩ (fun j _ => vp_updV_set hl v j)⟩ e2 e3 rfl
theorem cget {C : String} {T : u_T} {N ci a : Nat} {fs : List Value} (hin : ∀ w ∈ u_ws C T N, w ∈ ALL) (hcl : vwCl[ci]? = some (C, T, N)) (hx : p.tables.exec = Jvm.exec) (hb : c.code = cc) (hta : ∀ w ∈ ALL, w.before args s = true) (hown : s.vm.findClass own = some m.cls) (hK : va_K D vwCl (tyL t) s) (hO : va_at D vwCl (a, .inr (ci, fs)) H) (j : Nat) (hj : j < N) (hlink : Cond.fieldLink own index (T j).1 (T j).2.1 (T j).2.2.1 ∈ ALL) {v : Value} (hv : fs[j]? = some v) (hdg : decode cc pc = .ok (.getfield index, 3)) (kk : W p l e R s m args below meth c H locs cells slots Q (F0 m (pc + 3) ls (v :: rest))) : W p l e R s m args below meth c H locs cells slots Q (F0 m pc ls (.ref a :: rest)) :=
  va_get (C := C) (T := T) (N := N) (ci := ci) (ws := [(a, .inr (ci, fs))]) hx hb hta hin hown hK (fun k q hq => by
    have hz : k < 1 := (List.getElem?_eq_some_iff.mp hq).1
    rw [show k = 0 by omega] at hq
    cases hq
    exact hO) 0 rfl hcl j hj (hta _ hlink) (fun _ h9 => h9) hv hdg kk
theorem castq {C : String} {T : u_T} {N ci a v n t0 : Nat} {cT : ClassId} {fs : List Value} {f : Nat → Option Nat} (ht : (tyL t)[t0]? = some (cT, .object C)) (hcl : vwCl[ci]? = some (C, T, N)) (hx : p.tables.exec = Jvm.exec) (hb : c.code = cc) (hK : va_K D vwCl (tyL t) s) (hA : va_at D vwCl (a, .inl (cT, n, .inr (.inr (.inr (.inr f))))) H) (hO : va_at D vwCl (v, .inr (ci, fs)) H) {i : Int32} (hin : vp_in i n) (hdg : decode cc pc = .ok (.aastore, 1))
    (kk : ∀ (H1 : Heap) (z : Loc), va_at D vwCl (a, .inl (cT, n, .inr (.inr (.inr (.inr (va_up f i.toNatClampNeg (some v))))))) H1 → H1.size = H.size → (∀ q, q ≠ a → H1[q]? = H[q]?) → z.base = a → W p l e R s m args below meth c H1 (locs ++ [z]) cells slots Q (F0 m (pc + 1) ls rest)) : W p l e R s m args below meth c H locs cells slots Q (F0 m pc ls (.ref v :: .int i :: .ref a :: rest)) := by
  have hlt : i.toNatClampNeg < n := Nat.not_le.mp fun q => hin (Or.inr q)
  have h0 : ¬ i < 0 := fun q => hin (Or.inl q)
  obtain ⟨r', hr', cellV, g1, g2, g3, -⟩ := hO
  have hcls := (hK.1 ci _ hcl).2
  obtain ⟨kA, comp, k1, k2, k3, -⟩ := (hK.2 t0 _ ht).2
  have hcomp : comp = D.1 ci := Option.some.inj (k3.symm.trans hcls.1)
  subst hcomp
  obtain ⟨kC, hkC, -⟩ := hcls.2
  refine W.aast hx hb hA (fun q h => by cases h) (fun h => by cases h) k1 k2 rfl hkC ⟨h0, by show _ < (arrV _ _ _).slots.size; rw [arrV_size]; exact hlt⟩ g1 (fun q h => by rw [g3] at h; cases h) (by rw [g2]; exact hkC) (by rw [g2]; exact va_assign hcls) rfl rfl hdg fun H1 e z oq => ?_
  refine kk H1 _ ?_ z oq rfl
  show H1[a]? = some (vp_cell _ _)
  rw [e]
  rw [vp_cell_q, vp_cell_q, arrV_store]
  congr 2
  funext q
  by_cases hq : q = i.toNatClampNeg
  · subst hq
    simp [updV, va_up, va_rf]
  · simp [updV, va_up, hq]
theorem ciast {a n : Nat} {f : Nat → Int32} {i x : Int32} (hx : p.tables.exec = Jvm.exec) (hb : c.code = cc) (hK : va_K D vwCl (tyL t) s) (hA : va_at D vwCl (a, .inl (t 0, n, .inl f)) H) (hin : vp_in i n) (hdg : decode cc pc = .ok (.iastore, 1))
    (kk : ∀ (H1 : Heap) (z : Loc), va_at D vwCl (a, .inl (t 0, n, .inl (upd f i.toNatClampNeg x))) H1 → H1.size = H.size → (∀ q, q ≠ a → H1[q]? = H[q]?) → z.base = a → W p l e R s m args below meth c H1 (locs ++ [z]) cells slots Q (F0 m (pc + 1) ls rest)) : W p l e R s m args below meth c H locs cells slots Q (F0 m pc ls (.int x :: .int i :: .ref a :: rest)) := by
  refine W.iast hx hb hA ((hK.2 0 _ rfl).1 n (fun j => .int (f j))) (fun q => by cases q) (by show ¬ (i < 0 ∨ (arrV _ _ _).slots.size ≤ _); rw [arrV_size]; exact hin) rfl rfl hdg fun H1 e z oq => ?_
  refine kk H1 _ ?_ z oq rfl
  show H1[a]? = some (vp_cell _ _)
  rw [e]
  rw [vp_cell_i, vp_cell_i, arrV_store]
  congr 2
  funext q
  by_cases hq : q = i.toNatClampNeg
  · subst hq
    simp [updV, upd]
  · simp [updV, upd, hq]
/-- behind a constructor's call -/
theorem cret {mc ms n : Nat} {a : Array Value} {st0 : List Value} (hr : va_Run p l e R s m args below meth c H locs cells slots mc ms (F0 m pc ls st0) rest (QC D t b σ k n a) (geC (b + k))) (kk : ∀ (H1 : Heap) (L : List Loc), H1.size = b + n → CB D t b σ k n H1 → (∀ q, q < b + k → H1[q]? = H[q]?) → (∀ z ∈ L, b + k ≤ z.base) → W p l e R s m args below meth c H1 (locs ++ L) (cells + mc) (slots + ms) Q (F0 m (pc + 3) ls rest)) : W p l e R s m args below meth c H locs cells slots Q (F0 m pc ls st0) := by
  intro T hT X
  obtain ⟨v', st₀, u, T', L, h0, X', hL, e1, e2, ⟨hv, hz, hC, hk⟩, st⟩ := hr T hT X
  cases hv
  rw [h0] at hk
  obtain ⟨t2, a1, b1⟩ := kk T'.heap L (by rw [e1]; exact hz) (by rw [e1]; exact hC) (fun q hq => by rw [e1]; exact hk q hq) hL T' rfl X'
  exact ⟨t2, st t2 a1, b1⟩
theorem mI {maxL nL mc ms n : Nat} {y : MethodName} {bytes : ByteArray} {rm : Room} {c9 : Cond} {el : va_E} {st0 : List Value} (hM : Met l y (Cond.code y bytes maxL none :: ALL) rm (PC D t b k el) (QC D t b σ k n) mc ms (geC (b + k))) (hx : p.tables.exec = Jvm.exec) (hb : c.code = cc) (hml : c.maxLocals = nL) (hown : s.vm.findClass own = some m.cls) (hts : ∀ w ∈ c9 :: ALL, w.before args s = true) (hE : EVC D t s) (hz : H.size = b + (k + 1)) (hO : va_at D vwCl (b + k, el) H) (w1 : Cond.methodLink own index y ∈ ALL) (w2 : Cond.instanceMethod y ∈ ALL) (w4 : Cond.initialized y.cls ∈ ALL) (w5 : Cond.code y bytes maxL none ∈ ALL) (hy1 : y.name = "<init>") (hy : y.cls ≠ "java/lang/invoke/MethodHandle" ∧ y.cls ≠ "java/lang/invoke/VarHandle" ∧ (parseMethodDescriptor y.desc).map (fun d => d.parameters.length) = some 0) (hrm : rm.cells = mc ∧ rm.slots = ms) (hR : rm.frames + 1 ≤ R.frames ∧ 8 + (maxL + 11) + rm.locals ≤ R.locals) (hst : st0 = .ref (b + k) :: rest) (hsize : ls.size = nL) (hroom : (rest.map fun v => v.category).sum ≤ 8) (hc : cells + mc ≤ R.cells ∧ slots + ms ≤ R.slots) (hdg : decode cc pc = .ok (.invokespecial index, 3)) (kk : ∀ (H1 : Heap) (L : List Loc), H1.size = b + n → CB D t b σ k n H1 → (∀ q, q < b + k → H1[q]? = H[q]?) → (∀ z ∈ L, b + k ≤ z.base) → W p l e R s m args below meth c H1 (locs ++ L) (cells + mc) (slots + ms) Q (F0 m (pc + 3) ls rest)) : W p l e R s m args below meth c H locs cells slots Q (F0 m pc ls st0) := by
  exact cret (va_runI (As := []) (rest := rest) ⟨hx, hb, hml, hown, hts⟩ hM (cwI 0 hts (good_all c9 w5) rfl hrm.1 hrm.2 (hts _ (List.mem_cons_of_mem _ w4)) (hts _ (List.mem_cons_of_mem _ w1)) (hts _ (List.mem_cons_of_mem _ w2)) hy1 hy hR) ⟨PC_blind, fun U hU hWm => ⟨rfl, by rw [hU]; exact hz, by rw [hU]; exact hO, hE.warm hWm⟩⟩ rfl rfl hsize hst (lv_room hroom) hdg hc) kk
theorem mIN {maxL nL mc ms n : Nat} {host : String} {y : MethodName} {bytes : ByteArray} {rm : Room} {c9 : Cond} {el : va_E} {st0 : List Value} (hM : Met l y (Cond.code y bytes maxL none :: ALL) rm (PC D t b k el) (QC D t b σ k n) mc ms (geC (b + k))) (hx : p.tables.exec = Jvm.exec) (hb : c.code = cc) (hml : c.maxLocals = nL) (hown : s.vm.findClass own = some m.cls) (hts : ∀ w ∈ c9 :: ALL, w.before args s = true) (hE : EVC D t s) (hz : H.size = b + (k + 1)) (hO : va_at D vwCl (b + k, el) H) (w1 : Cond.methodLinkNest own index y host ∈ NG) (w2 : Cond.instanceMethod y ∈ ALL) (w4 : Cond.initialized y.cls ∈ ALL) (w5 : Cond.code y bytes maxL none ∈ ALL) (hy1 : y.name = "<init>") (hy : y.cls ≠ "java/lang/invoke/MethodHandle" ∧ y.cls ≠ "java/lang/invoke/VarHandle" ∧ (parseMethodDescriptor y.desc).map (fun d => d.parameters.length) = some 0) (hrm : rm.cells = mc ∧ rm.slots = ms) (hR : rm.frames + 1 ≤ R.frames ∧ 8 + (maxL + 11) + rm.locals ≤ R.locals) (hst : st0 = .ref (b + k) :: rest) (hsize : ls.size = nL) (hroom : (rest.map fun v => v.category).sum ≤ 8) (hc : cells + mc ≤ R.cells ∧ slots + ms ≤ R.slots) (hdg : decode cc pc = .ok (.invokespecial index, 3)) (kk : ∀ (H1 : Heap) (L : List Loc), H1.size = b + n → CB D t b σ k n H1 → (∀ q, q < b + k → H1[q]? = H[q]?) → (∀ z ∈ L, b + k ≤ z.base) → W p l e R s m args below meth c H1 (locs ++ L) (cells + mc) (slots + ms) Q (F0 m (pc + 3) ls rest)) : W p l e R s m args below meth c H locs cells slots Q (F0 m pc ls st0) := by
  exact cret (va_runIN (As := []) (rest := rest) ⟨hx, hb, hml, hown, hts⟩ hM ⟨va_cnB 0 hts (good_all c9 w5) rfl hrm.1 hrm.2 (hE.2.1 _ w1) (hts _ (List.mem_cons_of_mem _ w4)) hy hR, hy1, hts _ (List.mem_cons_of_mem _ w2)⟩ ⟨PC_blind, fun U hU hWm => ⟨rfl, by rw [hU]; exact hz, by rw [hU]; exact hO, hE.warm hWm⟩⟩ rfl rfl hsize hst (lv_room hroom) hdg hc) kk
end LAYC

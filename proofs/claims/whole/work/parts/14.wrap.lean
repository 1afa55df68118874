/-! the law's own helpers: a call in a try, its answer laid into out, or the number of the catch -/
theorem MetH {l : Launch} {y : MethodName} {ws ws' : List Cond} {rm : Room} {Pc : Array Value → State → Prop} {Qc : Array Value → State → Outcome → State → Prop} {mc ms : Nat} {free : Addr → Prop} {cc : ByteArray} {maxL : Nat} {ret : Option FieldType} {hh : List (Nat × Nat × Nat × Nat)}
    (hy : plainName y.cls = true) (hw : ws = Cond.codeWith y cc maxL ret hh :: ws')
    (body : ∀ p e s m args below meth c s₁, BodyLoose p l y (headSpec ws rm) cc maxL ret e s m args below meth c s₁ → c.maxLocals = maxL → Pc args s →
      W p l e (headSpec ws rm).room s m args below meth c s.heap [] 0 0 (MQ below Qc args s mc ms free) (entryFrame m args maxL)) : Met l y ws rm Pc Qc mc ms free := by
  refine MetFree.of_bodyS (code := cc) (maxLocals := maxL) (ret := ret) hy ?_ ?_
  · intro args s m h hn
    obtain ⟨m9, meth, c, hn9, h1, h2, h3, h4, -, h5, h6, -⟩ := Cond.codeWith_spec (atoms_spec (ws := ws) h _ (by rw [hw]; exact List.mem_cons_self))
    cases hn.symm.trans hn9
    exact ⟨meth, c, h1, h2, h3, h4, h5, h6⟩
  · intro p e s m args below meth c s₁ B hml hP _
    have hh0 : s₁.heap = s.heap := by rw [B.state]; rfl
    obtain ⟨t, a1, o, b1, b2, b3⟩ := body p e s m args below meth c s₁ B hml hP s₁ hh0 (Stand.of_body B)
    exact ⟨t, o, a1, b1, b2, ⟨b3.1, b3.2⟩⟩
/-- a helper's answer out of the call's -/
def bw {α : Type} (x : Option (Nat ⊕ α)) (kx : Nat → Option (Int32 × Sg)) (kv : α → Option (Int32 × Sg)) : Option (Int32 × Sg) := match x with
  | none => none
  | some (.inl e) => kx e
  | some (.inr y) => kv y
theorem bw_e {α : Type} {x : Option (Nat ⊕ α)} {kx : Nat → Option (Int32 × Sg)} {kv : α → Option (Int32 × Sg)} {r : Int32 × Sg} (h : bw x kx kv = some r) : (∃ e, x = some (.inl e) ∧ kx e = some r) ∨ ∃ y, x = some (.inr y) ∧ kv y = some r := by
  match x, h with
  | none, h => cases h
  | some (.inl e), h => exact Or.inl ⟨e, rfl, h⟩
  | some (.inr y), h => exact Or.inr ⟨y, rfl, h⟩
/-- the same where the throw carries a state -/
def bws {α : Type} (x : Option ((Nat × Sg) ⊕ α)) (kx : Nat → Sg → Option (Int32 × Sg)) (kv : α → Option (Int32 × Sg)) : Option (Int32 × Sg) := match x with
  | none => none
  | some (.inl e) => kx e.1 e.2
  | some (.inr y) => kv y
theorem bws_e {α : Type} {x : Option ((Nat × Sg) ⊕ α)} {kx : Nat → Sg → Option (Int32 × Sg)} {kv : α → Option (Int32 × Sg)} {r : Int32 × Sg} (h : bws x kx kv = some r) : (∃ e τ, x = some (.inl (e, τ)) ∧ kx e τ = some r) ∨ ∃ y, x = some (.inr y) ∧ kv y = some r := by
  match x, h with
  | none, h => cases h
  | some (.inl e), h => exact Or.inl ⟨e.1, e.2, rfl, h⟩
  | some (.inr y), h => exact Or.inr ⟨y, rfl, h⟩
theorem lg_cmp0 {x y : Int32} : lg_cmp x.toInt64 y.toInt64 = 0 ↔ x = y := by
  unfold lg_cmp
  simp only [gt_iff_lt, Int64.lt_iff_toInt_lt, ← Int64.toInt_inj, Int32.toInt_toInt64, ← Int32.toInt_inj]
  by_cases h1 : y.toInt < x.toInt
  · rw [if_pos h1]
    exact ⟨fun h => absurd h (by decide), fun h => by omega⟩
  · rw [if_neg h1]
    by_cases h2 : x.toInt = y.toInt
    · rw [if_pos h2]
      exact ⟨fun _ => h2, fun _ => rfl⟩
    · rw [if_neg h2]
      exact ⟨fun h => absurd h (by decide), fun h => absurd h h2⟩
theorem ca_1 : Cond.castable (exn 1) (exn 1) ∈ NG := by decide +kernel
theorem ca_2 : Cond.castable (exn 2) (exn 2) ∈ NG := by decide +kernel
theorem ca_3 : Cond.castable (exn 3) (exn 3) ∈ NG := by decide +kernel
theorem lk_1 : Cond.classLink RL 13 (exn 1) ∈ ALL := by decide +kernel
theorem lk_2 : Cond.classLink RL 15 (exn 2) ∈ ALL := by decide +kernel
theorem lk_3 : Cond.classLink RL 17 (exn 3) ∈ ALL := by decide +kernel
theorem nc_21 {D : va_G} {t : Nat → ClassId} {b : Nat} {s : State} (h : EV D t b s) : va_Nc (exn 2) (exn 1) s := h.2.2.2.2.2 ("java/lang/IllegalArgumentException", "java/lang/IndexOutOfBoundsException") (by decide +kernel)
theorem nc_31 {D : va_G} {t : Nat → ClassId} {b : Nat} {s : State} (h : EV D t b s) : va_Nc (exn 3) (exn 1) s := h.2.2.2.2.2 ("java/lang/IllegalStateException", "java/lang/IndexOutOfBoundsException") (by decide +kernel)
theorem nc_32 {D : va_G} {t : Nat → ClassId} {b : Nat} {s : State} (h : EV D t b s) : va_Nc (exn 3) (exn 2) s := h.2.2.2.2.2 ("java/lang/IllegalStateException", "java/lang/IllegalArgumentException") (by decide +kernel)
section LAYW
variable {p : Program} {l : Launch} {e : Env} {R : Room} {s : State} {m : MethodId} {args : Array Value} {below : List Frame} {meth : Method} {c : Code} {H : Heap} {locs : List Loc} {cells slots : Nat} {Q : State → Prop} {D : va_G} {t : Nat → ClassId} {b : Nat} {σ : Sg} {pc : Nat} {ls : Array Slot} {rest : List Value} {cc : ByteArray} {own ref : String} {index k : Nat} {H0 : Heap}
theorem lcmp_if {x y : Int32} {off : Int} {tgt : Nat} (hx : p.tables.exec = Jvm.exec) (hb : c.code = cc) (d1 : decode cc pc = .ok (.lcmp, 1)) (d2 : decode cc (pc + 1) = .ok (.ifCond .eq off, 3)) (ht : ((pc + 1 : Nat) : Int) + off = (tgt : Int)) (kt : x = y → W p l e R s m args below meth c H locs cells slots Q (F0 m tgt ls rest)) (kf : ¬ x = y → W p l e R s m args below meth c H locs cells slots Q (F0 m (pc + 1 + 3) ls rest)) : W p l e R s m args below meth c H locs cells slots Q (F0 m pc ls (.long y.toInt64 :: .long x.toInt64 :: rest)) := by
  refine W.lcmp hx hb d1 ?_
  refine lv_if_eq (tgt := tgt) hx hb d2 ht (fun h => kt ?_) (fun h => kf ?_)
  · exact lg_cmp0.mp h
  · exact fun z => h (lg_cmp0.mpr z)
/-- a static call of a helper -/
theorem mSH {maxL nL n mc ms : Nat} {y : MethodName} {bytes : ByteArray} {ret : Option FieldType} {hh : List (Nat × Nat × Nat × Nat)} {rm : Room} {c9 : Cond} {σ' : Sg} {v : Option Value} {As st0 : List Value} (hM : Met l y (Cond.codeWith y bytes maxL ret hh :: ALL) rm (PM D t b σ As) (QG D t b σ' v) mc ms (geA b)) (hx : p.tables.exec = Jvm.exec) (hb : c.code = cc) (hml : c.maxLocals = nL) (hown : s.vm.findClass own = some m.cls) (hts : ∀ w ∈ c9 :: ALL, w.before args s = true) (hE : EV D t b s) (hW : wd D t b σ H) (hS : va_S (geA b) s.heap H locs) (w1 : Cond.methodLink own index y ∈ ALL) (w2 : Cond.static y ∈ ALL) (w4 : Cond.initialized y.cls ∈ ALL) (w5 : Cond.codeWith y bytes maxL ret hh ∈ ALL) (hy : y.cls ≠ "java/lang/invoke/MethodHandle" ∧ y.cls ≠ "java/lang/invoke/VarHandle" ∧ (parseMethodDescriptor y.desc).map (fun d => d.parameters.length) = some n) (hrm : rm.cells = mc ∧ rm.slots = ms) (hR : rm.frames + 1 ≤ R.frames ∧ 8 + (maxL + 11) + rm.locals ≤ R.locals) (hn : As.length = n) (hst : st0 = As.reverse ++ rest) (hsize : ls.size = nL) (hroom : (rest.map fun v => v.category).sum ≤ 8) (hc : cells + mc ≤ R.cells ∧ slots + ms ≤ R.slots) (hdg : decode cc pc = .ok (.invokestatic index, 3)) (kk : ∀ (H1 : Heap) (locs1 : List Loc), wd D t b σ' H1 → va_S (geA b) s.heap H1 locs1 → W p l e R s m args below meth c H1 locs1 (cells + mc) (slots + ms) Q (F0 m (pc + 3) ls (v.toList ++ rest))) : W p l e R s m args below meth c H locs cells slots Q (F0 m pc ls st0) := by
  have hG : GoodIn (c9 :: ALL) (va_wsS own index y (Cond.codeWith y bytes maxL ret hh :: ALL)) := by
    intro w hw
    have hw : w ∈ ALL := by
      unfold va_wsS at hw
      rcases List.mem_append.mp hw with h | h
      · simp only [List.mem_cons, List.not_mem_nil, or_false] at h
        rcases h with rfl | rfl | rfl
        · exact w1
        · exact w2
        · exact w4
      · rcases List.mem_cons.mp h with h | h
        · rw [h]; exact w5
        · exact h
    exact ⟨List.mem_cons_of_mem _ hw, good_of_word (List.mem_filter.mp hw).2⟩
  exact mret (vx_runSW (As := As) (rest := rest) ⟨hx, hb, hml, hown, hts⟩ hM (vx_cwSW n hts hG rfl hrm.1 hrm.2 hy hR) ⟨PM_blind, fun U hU hWm => ⟨rfl, by rw [hU]; exact hW, hE.step hWm hU hS⟩⟩ rfl hn hsize hst (lv_room hroom) hdg hc) hW hS kk
end LAYW

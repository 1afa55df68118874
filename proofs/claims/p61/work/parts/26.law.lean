/-! the law's own methods: calls out of them, where the frame A may be wider than the object's own cells -/
def PN (D : va_G) (t : Nat → ClassId) (b1 : Nat) : Array Value → State → Prop := va_Pc [] (fun U => U.heap.size = b1 ∧ EVA D t (geC b1) U ∧ EVC D t U)
def QN (b1 : Nat) (v : Option Value) : Array Value → State → Outcome → State → Prop := fun _ st oc u => oc = .returned v ∧ st.heap.size ≤ u.heap.size ∧ ∀ q, q < b1 → u.heap[q]? = st.heap[q]?
theorem PN_blind {D : va_G} {t : Nat → ClassId} {b1 : Nat} : FrameBlind (PN D t b1) := fun a U g mk q => by
  obtain ⟨q0, q1, q2, q3⟩ := q
  exact ⟨q0, q1, EVA.blind q2, EVC.blind q3⟩
/-! a call that must return -/
def bn1 {α γ : Type} (x : Option (α ⊕ Int32)) (k : Int32 → Option γ) : Option γ := match x with
  | some (.inr y) => k y
  | _ => none
theorem bn1_e {α γ : Type} {x : Option (α ⊕ Int32)} {k : Int32 → Option γ} {r : γ} (h : bn1 x k = some r) : ∃ y, x = some (.inr y) ∧ k y = some r := by
  match x, h with
  | none, h => cases h
  | some (.inl e), h => cases h
  | some (.inr y), h => exact ⟨y, rfl, h⟩
def bn2 {α γ : Type} (x : Option (α ⊕ (Int32 × Sg))) (k : Int32 → Sg → Option γ) : Option γ := match x with
  | some (.inr y) => k y.1 y.2
  | _ => none
theorem bn2_e {α γ : Type} {x : Option (α ⊕ (Int32 × Sg))} {k : Int32 → Sg → Option γ} {r : γ} (h : bn2 x k = some r) : ∃ y σ, x = some (.inr (y, σ)) ∧ k y σ = some r := by
  match x, h with
  | none, h => cases h
  | some (.inl e), h => cases h
  | some (.inr y), h => exact ⟨y.1, y.2, rfl, h⟩
/-! a call whose throw goes on -/
def bt1 {γ : Type} (σ : Sg) (x : Option (Nat ⊕ Int32)) (k : Int32 → Option ((Nat × Sg) ⊕ γ)) : Option ((Nat × Sg) ⊕ γ) := match x with
  | none => none
  | some (.inl e) => some (.inl (e, σ))
  | some (.inr y) => k y
theorem bt1_e {γ : Type} {σ : Sg} {x : Option (Nat ⊕ Int32)} {k : Int32 → Option ((Nat × Sg) ⊕ γ)} {r : (Nat × Sg) ⊕ γ} (h : bt1 σ x k = some r) : (∃ e, x = some (.inl e) ∧ r = .inl (e, σ)) ∨ ∃ y, x = some (.inr y) ∧ k y = some r := by
  match x, h with
  | none, h => cases h
  | some (.inl e), h => cases h; exact Or.inl ⟨e, rfl, rfl⟩
  | some (.inr y), h => exact Or.inr ⟨y, rfl, h⟩
def bt2 {γ : Type} (σ : Sg) (x : Option (Nat ⊕ (Int32 × Sg))) (k : Int32 → Sg → Option ((Nat × Sg) ⊕ γ)) : Option ((Nat × Sg) ⊕ γ) := match x with
  | none => none
  | some (.inl e) => some (.inl (e, σ))
  | some (.inr y) => k y.1 y.2
theorem bt2_e {γ : Type} {σ : Sg} {x : Option (Nat ⊕ (Int32 × Sg))} {k : Int32 → Sg → Option ((Nat × Sg) ⊕ γ)} {r : (Nat × Sg) ⊕ γ} (h : bt2 σ x k = some r) : (∃ e, x = some (.inl e) ∧ r = .inl (e, σ)) ∨ ∃ y τ, x = some (.inr (y, τ)) ∧ k y τ = some r := by
  match x, h with
  | none, h => cases h
  | some (.inl e), h => cases h; exact Or.inl ⟨e, rfl, rfl⟩
  | some (.inr y), h => exact Or.inr ⟨y.1, y.2, rfl, h⟩
def bts {γ : Type} (x : Option ((Nat × Sg) ⊕ (Int32 × Sg))) (k : Int32 → Sg → Option ((Nat × Sg) ⊕ γ)) : Option ((Nat × Sg) ⊕ γ) := match x with
  | none => none
  | some (.inl e) => some (.inl e)
  | some (.inr y) => k y.1 y.2
theorem bts_e {γ : Type} {x : Option ((Nat × Sg) ⊕ (Int32 × Sg))} {k : Int32 → Sg → Option ((Nat × Sg) ⊕ γ)} {r : (Nat × Sg) ⊕ γ} (h : bts x k = some r) : (∃ e τ, x = some (.inl (e, τ)) ∧ r = .inl (e, τ)) ∨ ∃ y τ, x = some (.inr (y, τ)) ∧ k y τ = some r := by
  match x, h with
  | none, h => cases h
  | some (.inl e), h => cases h; exact Or.inl ⟨e.1, e.2, rfl, rfl⟩
  | some (.inr y), h => exact Or.inr ⟨y.1, y.2, rfl, h⟩
/-! a loop: it leaves the method with an answer, or goes on with a state -/
def bl {α β γ : Type} (inj : α → γ) (x : Option (α ⊕ β)) (k : β → Option γ) : Option γ := match x with
  | none => none
  | some (.inl r) => some (inj r)
  | some (.inr s) => k s
theorem bl_e {α β γ : Type} {inj : α → γ} {x : Option (α ⊕ β)} {k : β → Option γ} {r : γ} (h : bl inj x k = some r) : ∃ res, x = some res ∧ (∀ a, res = .inl a → inj a = r) ∧ ∀ s, res = .inr s → k s = some r := by
  match x, h with
  | none, h => cases h
  | some (.inl a), h => cases h; exact ⟨.inl a, rfl, (fun _ e => by cases e; rfl), (fun _ e => by cases e)⟩
  | some (.inr s), h => exact ⟨.inr s, rfl, (fun _ e => by cases e), (fun _ e => by cases e; exact h)⟩
def b2L {α : Type} (x : Option (Int64 × Sg)) (k : Int64 → Sg → Option α) : Option α := match x with
  | none => none
  | some y => k y.1 y.2
theorem b2L_e {α : Type} {x : Option (Int64 × Sg)} {k : Int64 → Sg → Option α} {r : α} (h : b2L x k = some r) : ∃ y σ, x = some (y, σ) ∧ k y σ = some r := by
  cases x with
  | none => cases h
  | some y => exact ⟨y.1, y.2, rfl, h⟩
theorem lcmp_z {x y : Int64} : lg_cmp x y = 0 ↔ x = y := by
  unfold lg_cmp
  simp only [gt_iff_lt, Int64.lt_iff_toInt_lt, ← Int64.toInt_inj]
  by_cases h1 : y.toInt < x.toInt
  · rw [if_pos h1]
    exact ⟨fun h => absurd h (by decide), fun h => by omega⟩
  · rw [if_neg h1]
    by_cases h2 : x.toInt = y.toInt
    · rw [if_pos h2]
      exact ⟨fun _ => h2, fun _ => rfl⟩
    · rw [if_neg h2]
      exact ⟨fun h => absurd h (by decide), fun h => absurd h h2⟩
theorem MetH {l : Launch} {y : MethodName} {ws ws' : List Cond} {rm : Room} {Pc : Array Value → State → Prop} {Qc : Array Value → State → Outcome → State → Prop} {mc ms : Nat} {free : Addr → Prop} {cc : ByteArray} {maxL : Nat} {ret : Option FieldType} {hh : List (Nat × Nat × Nat × Nat)}
    (hy : plainName y.cls = true) (hw : ws = Cond.codeWith y cc maxL ret hh :: ws')
    (body : ∀ p e s m args below meth c s₁, BodyLoose p l y (headSpec ws rm) cc maxL ret e s m args below meth c s₁ → c.maxLocals = maxL → Pc args s →
      W p l e (headSpec ws rm).room s m args below meth c s.heap [] 0 0 (MQ below Qc args s mc ms free) (entryFrame m args maxL)) : Met l y ws rm Pc Qc mc ms free := by
  refine MetFree.of_bodyS (code := cc) (maxLocals := maxL) (ret := ret) hy ?_ ?_
  · intro args s m h hn
    obtain ⟨m9, meth, c, hn9, h1, h2, h3, h4, -, h5, h6, -⟩ := Cond.codeWith_spec (atoms_spec (ws := ws) h _ (by rw [hw]; exact List.mem_cons_self))
    cases hn.symm.trans hn9
    exact ⟨meth, c, h1, h2, h3, h4, h5, h6⟩
  · intro p e s m args below meth c s₁ B hml hP _
    have hh0 : s₁.heap = s.heap := by rw [B.state]; rfl
    obtain ⟨t, a1, o, b1, b2, b3⟩ := body p e s m args below meth c s₁ B hml hP s₁ hh0 (Stand.of_body B)
    exact ⟨t, o, a1, b1, b2, ⟨b3.1, b3.2⟩⟩
/-- the same where the throw carries a state -/
def bws {α : Type} (x : Option ((Nat × Sg) ⊕ α)) (kx : Nat → Sg → Option (Int32 × Sg)) (kv : α → Option (Int32 × Sg)) : Option (Int32 × Sg) := match x with
  | none => none
  | some (.inl e) => kx e.1 e.2
  | some (.inr y) => kv y
theorem bws_e {α : Type} {x : Option ((Nat × Sg) ⊕ α)} {kx : Nat → Sg → Option (Int32 × Sg)} {kv : α → Option (Int32 × Sg)} {r : Int32 × Sg} (h : bws x kx kv = some r) : (∃ e τ, x = some (.inl (e, τ)) ∧ kx e τ = some r) ∨ ∃ y, x = some (.inr y) ∧ kv y = some r := by
  match x, h with
  | none, h => cases h
  | some (.inl e), h => exact Or.inl ⟨e.1, e.2, rfl, h⟩
  | some (.inr y), h => exact Or.inr ⟨y, rfl, h⟩
theorem ca_1 : Cond.castable (exn 1) (exn 1) ∈ NG := by decide +kernel
theorem ca_2 : Cond.castable (exn 2) (exn 2) ∈ NG := by decide +kernel
theorem ca_3 : Cond.castable (exn 3) (exn 3) ∈ NG := by decide +kernel
theorem lk_1 : Cond.classLink RL 27 (exn 1) ∈ ALL := by decide +kernel
theorem lk_2 : Cond.classLink RL 29 (exn 2) ∈ ALL := by decide +kernel
theorem lk_3 : Cond.classLink RL 31 (exn 3) ∈ ALL := by decide +kernel
theorem nc_21 {D : va_G} {t : Nat → ClassId} {b : Nat} {s : State} (h : EV D t b s) : va_Nc (exn 2) (exn 1) s := h.2.2.2.2.2 ("java/lang/IllegalArgumentException", "java/lang/IndexOutOfBoundsException") (by decide +kernel)
theorem nc_31 {D : va_G} {t : Nat → ClassId} {b : Nat} {s : State} (h : EV D t b s) : va_Nc (exn 3) (exn 1) s := h.2.2.2.2.2 ("java/lang/IllegalStateException", "java/lang/IndexOutOfBoundsException") (by decide +kernel)
theorem nc_32 {D : va_G} {t : Nat → ClassId} {b : Nat} {s : State} (h : EV D t b s) : va_Nc (exn 3) (exn 2) s := h.2.2.2.2.2 ("java/lang/IllegalStateException", "java/lang/IllegalArgumentException") (by decide +kernel)

section LAW
variable {p : Program} {l : Launch} {e : Env} {R : Room} {s : State} {m : MethodId} {args : Array Value} {below : List Frame} {meth : Method} {c : Code} {H : Heap} {locs : List Loc} {cells slots : Nat} {Q : State → Prop} {D : va_G} {t : Nat → ClassId} {b : Nat} {σ : Sg} {pc : Nat} {ls : Array Slot} {rest : List Value} {cc : ByteArray} {own ref : String} {index k : Nat} {H0 : Heap} {A : Nat → Prop}
theorem lcmp_eq {x y : Int64} {off : Int} {tgt : Nat} (hx : p.tables.exec = Jvm.exec) (hb : c.code = cc) (d1 : decode cc pc = .ok (.lcmp, 1)) (d2 : decode cc (pc + 1) = .ok (.ifCond .eq off, 3)) (ht : ((pc + 1 : Nat) : Int) + off = (tgt : Int)) (kt : x = y → W p l e R s m args below meth c H locs cells slots Q (F0 m tgt ls rest)) (kf : ¬ x = y → W p l e R s m args below meth c H locs cells slots Q (F0 m (pc + 1 + 3) ls rest)) : W p l e R s m args below meth c H locs cells slots Q (F0 m pc ls (.long y :: .long x :: rest)) := by
  refine W.lcmp hx hb d1 ?_
  exact lv_if_eq (tgt := tgt) hx hb d2 ht (fun h => kt (lcmp_z.mp h)) (fun h => kf (fun z => h (lcmp_z.mpr z)))
theorem lcmp_ne {x y : Int64} {off : Int} {tgt : Nat} (hx : p.tables.exec = Jvm.exec) (hb : c.code = cc) (d1 : decode cc pc = .ok (.lcmp, 1)) (d2 : decode cc (pc + 1) = .ok (.ifCond .ne off, 3)) (ht : ((pc + 1 : Nat) : Int) + off = (tgt : Int)) (kt : ¬ x = y → W p l e R s m args below meth c H locs cells slots Q (F0 m tgt ls rest)) (kf : x = y → W p l e R s m args below meth c H locs cells slots Q (F0 m (pc + 1 + 3) ls rest)) : W p l e R s m args below meth c H locs cells slots Q (F0 m pc ls (.long y :: .long x :: rest)) := by
  refine W.lcmp hx hb d1 ?_
  exact lv_if_ne (tgt := tgt) hx hb d2 ht (fun h => kt (fun z => h (lcmp_z.mpr z))) (fun h => kf (lcmp_z.mp h))
theorem mretA {mc ms : Nat} {σ' : Sg} {v : Option Value} {a : Array Value} {st0 : List Value} (hr : va_Run p l e R s m args below meth c H locs cells slots mc ms (F0 m pc ls st0) rest (QG D t b σ' v a) (geA b)) (hS : va_S A s.heap H locs) (hsub : ∀ q, geA b q → A q) (kk : ∀ (H1 : Heap) (locs1 : List Loc), wd D t b σ' H1 → va_S A s.heap H1 locs1 → (H.size ≤ H1.size ∧ ∀ q, q < H.size → ¬ geA b q → H1[q]? = H[q]?) → W p l e R s m args below meth c H1 locs1 (cells + mc) (slots + ms) Q (F0 m (pc + 3) ls (v.toList ++ rest))) : W p l e R s m args below meth c H locs cells slots Q (F0 m pc ls st0) := by
  intro T hT X
  obtain ⟨v', st₀, u, T', L, h0, X', hL, e1, e2, ⟨⟨hv, hb⟩, hz, hk⟩, st⟩ := hr T hT X
  cases hv
  rw [h0] at hz hk
  obtain ⟨t2, a1, b1⟩ := kk T'.heap (locs ++ L) (by rw [e1]; exact hb)
    ⟨Nat.le_trans hS.1 (by rw [e1]; exact hz), fun q h1 h2 => by rw [e1, hk q (Nat.lt_of_lt_of_le h1 hS.1) (fun h => h2 (hsub q h))]; exact hS.2.1 q h1 h2, fun q hq => by
      rcases List.mem_append.mp hq with h | h
      · exact hS.2.2 q h
      · exact hsub _ (hL q h)⟩ ⟨by rw [e1]; exact hz, fun q h1 h2 => by rw [e1]; exact hk q h1 h2⟩ T' rfl X'
  exact ⟨t2, st t2 a1, b1⟩
theorem lV {maxL nL n : Nat} {y : MethodName} {bytes : ByteArray} {ret : Option FieldType} {rm : Room} {c9 : Cond} {σ' : Sg} {v : Option Value} {As st0 : List Value} (hM : Met l y (Cond.code y bytes maxL ret :: ALL) rm (PM D t b σ (.ref (b + 0) :: As)) (QG D t b σ' v) 0 0 (geA b)) (hx : p.tables.exec = Jvm.exec) (hb : c.code = cc) (hml : c.maxLocals = nL) (hown : s.vm.findClass own = some m.cls) (hts : ∀ w ∈ c9 :: ALL, w.before args s = true) (hE : EVA D t A s) (hsub : ∀ q, geA b q → A q) (hW : wd D t b σ H) (hS : va_S A s.heap H locs) (w1 : Cond.methodLink own index y ∈ ALL) (w2 : Cond.instanceMethod y ∈ ALL) (w3 : Cond.selects RX4 y y ∈ ALL) (w4 : Cond.initialized RX4 ∈ ALL) (w5 : Cond.code y bytes maxL ret ∈ ALL) (hy : y.cls = RX4 ∧ y.cls ≠ "java/lang/invoke/MethodHandle" ∧ y.cls ≠ "java/lang/invoke/VarHandle" ∧ (parseMethodDescriptor y.desc).map (fun d => d.parameters.length) = some n) (hrm : rm.cells = 0 ∧ rm.slots = 0) (hR : rm.frames + 1 ≤ R.frames ∧ 8 + (maxL + 11) + rm.locals ≤ R.locals) (hn : As.length = n) (hst : st0 = As.reverse ++ .ref (b + 0) :: rest) (hsize : ls.size = nL) (hroom : (rest.map fun v => v.category).sum ≤ 8) (hc : cells ≤ R.cells ∧ slots ≤ R.slots) (hdg : decode cc pc = .ok (.invokevirtual index, 3)) (kk : ∀ (H1 : Heap) (locs1 : List Loc), wd D t b σ' H1 → va_S A s.heap H1 locs1 → (H.size ≤ H1.size ∧ ∀ q, q < H.size → ¬ geA b q → H1[q]? = H[q]?) → W p l e R s m args below meth c H1 locs1 cells slots Q (F0 m (pc + 3) ls (v.toList ++ rest))) : W p l e R s m args below meth c H locs cells slots Q (F0 m pc ls st0) := by
  have hG : GoodIn (c9 :: ALL) (wsV own index RX4 y (Cond.code y bytes maxL ret :: ALL)) := by
    intro w hw
    have hw : w ∈ ALL := by
      unfold wsV at hw
      rcases List.mem_append.mp hw with h | h
      · simp only [List.mem_cons, List.not_mem_nil, or_false] at h
        rcases h with rfl | rfl | rfl | rfl
        · exact w1
        · exact w2
        · exact w3
        · exact w4
      · rcases List.mem_cons.mp h with h | h
        · rw [h]; exact w5
        · exact h
    exact ⟨List.mem_cons_of_mem _ hw, good_of_word (List.mem_filter.mp hw).2⟩
  exact mretA (va_runV (As := As) (rest := rest) ⟨hx, hb, hml, hown, hts⟩ hM (cwV n hts hG rfl hrm.1 hrm.2 hy hR) ⟨PM_blind, (va_recv (q := (RX4, TX4, 8)) hE.1 hW (show vwCl[4]? = some (RX4, TX4, 8) from rfl) (wl_at (b := b) (t := t) (σ := σ) (k := 0) (q := (0, 0)) sh_0 (by decide))), fun U hU hWm => ⟨rfl, by rw [hU]; exact hW, ((hE.step hWm hU hS).narrow hsub)⟩⟩ rfl hn hsize hst (lv_room hroom) hdg hc) hS hsub kk
theorem va_runV12 {y : MethodName} {bytes cc : ByteArray} {maxL nL mc ms n index : Nat} {ret : Option FieldType} {ws : List Cond} {rm : Room} {Pc : Array Value → State → Prop} {Qc : Array Value → State → Outcome → State → Prop} {free : Addr → Prop} {Ts : List Cond} {own C : String} {b : Addr} {As rest : List Value} {g : JFrame} (S : CallFix p m c cc nL s args Ts own) (hM : Met l y ws rm Pc Qc mc ms free) (cw : CallW R s args own C index y bytes maxL ret ws rm mc ms n) (hlo12 : 12 + (maxL + 11) + rm.locals ≤ R.locals) (hp : PreV s H C b Pc As)
    (hg : g.method = m) (hn : As.length = n) (hsize : g.locals.size = nL) (hstack : g.stack = As.reverse ++ .ref b :: rest) (hW : 2 * g.monitorRoom + (rest.map fun v => v.category).sum ≤ 12) (hdg : decode cc g.pc = .ok (.invokevirtual index, 3)) (hf : cells + mc ≤ R.cells ∧ slots + ms ≤ R.slots) :
    va_Run p l e R s m args below meth c H locs cells slots mc ms g rest (Qc (Value.ref b :: As).toArray) (free) := by
  have hK : Back l R p e below s args y 3 12 (PreOf R mc ms Pc) (PostOf Qc mc ms free) := by
    obtain ⟨hrc, hrs, hfr, hlo, hws, hcw, -, hini, -⟩ := cw.1
    exact back_of (bytes := bytes) (maxL := maxL) (ret := ret) hM hp.1 hrc hrs hfr hlo12 hws hcw (fun a' U hW => word_at hW (Or.inl (by first | rfl | simp [Cond.onTables, Cond.keeps, Cond.steady])) hini)
  obtain ⟨⟨-, -, -, -, -, -, hcode, -, hy, hlen, hl⟩, hin, hse⟩ := cw
  obtain ⟨hx, hb, hml, ho, -⟩ := S
  obtain ⟨-, ⟨cellB, hcB, hoB, hclB⟩, hPc⟩ := hp
  intro T hT X
  obtain ⟨v, vm₁, ⟨U', l2, c2, s2⟩, hW₁, X', ⟨g', mk, t, L, e1, e2, hq, h1, hL, h2, h3⟩, st⟩ := callV X hx (C := C) (bytes := bytes) (maxL := maxL) (ret := ret) ho hl hin hse hcode hy hK (by rw [hT]; exact hcB) hoB hclB hg (hsize.trans hml.symm) (argsL := As) (rest := rest) (fun sig h => hn.trans (hlen sig h)) hstack hW (by rw [hb]; exact hdg)
    (fun vm₁ hW₁ => ⟨hf.1, hf.2, hPc (T.setVm vm₁) hT hW₁⟩)
  dsimp only [Pt.U, Pt.locs, Pt.cells, Pt.slots] at X' e1 e2 h1 h2 h3 st
  subst h1; subst h2; subst h3
  exact ⟨v, (T.setVm vm₁).calling g' mk (Value.ref b :: As).toArray, t, U', L, hT, X', hL, e1, e2, hq, st⟩
theorem lv_room12 {st : List Value} (h : (st.map fun v => v.category).sum ≤ 12) : 2 * (F0 m pc ls rest).monitorRoom + (st.map fun v => v.category).sum ≤ 12 := by
  show 2 * 0 + _ ≤ 12
  omega
theorem lV12 {maxL nL n : Nat} {y : MethodName} {bytes : ByteArray} {ret : Option FieldType} {rm : Room} {c9 : Cond} {σ' : Sg} {v : Option Value} {As st0 : List Value} (hM : Met l y (Cond.code y bytes maxL ret :: ALL) rm (PM D t b σ (.ref (b + 0) :: As)) (QG D t b σ' v) 0 0 (geA b)) (hx : p.tables.exec = Jvm.exec) (hb : c.code = cc) (hml : c.maxLocals = nL) (hown : s.vm.findClass own = some m.cls) (hts : ∀ w ∈ c9 :: ALL, w.before args s = true) (hE : EVA D t A s) (hsub : ∀ q, geA b q → A q) (hW : wd D t b σ H) (hS : va_S A s.heap H locs) (w1 : Cond.methodLink own index y ∈ ALL) (w2 : Cond.instanceMethod y ∈ ALL) (w3 : Cond.selects RX4 y y ∈ ALL) (w4 : Cond.initialized RX4 ∈ ALL) (w5 : Cond.code y bytes maxL ret ∈ ALL) (hy : y.cls = RX4 ∧ y.cls ≠ "java/lang/invoke/MethodHandle" ∧ y.cls ≠ "java/lang/invoke/VarHandle" ∧ (parseMethodDescriptor y.desc).map (fun d => d.parameters.length) = some n) (hrm : rm.cells = 0 ∧ rm.slots = 0) (hR : rm.frames + 1 ≤ R.frames ∧ 12 + (maxL + 11) + rm.locals ≤ R.locals) (hn : As.length = n) (hst : st0 = As.reverse ++ .ref (b + 0) :: rest) (hsize : ls.size = nL) (hroom : (rest.map fun v => v.category).sum ≤ 12) (hc : cells ≤ R.cells ∧ slots ≤ R.slots) (hdg : decode cc pc = .ok (.invokevirtual index, 3)) (kk : ∀ (H1 : Heap) (locs1 : List Loc), wd D t b σ' H1 → va_S A s.heap H1 locs1 → (H.size ≤ H1.size ∧ ∀ q, q < H.size → ¬ geA b q → H1[q]? = H[q]?) → W p l e R s m args below meth c H1 locs1 cells slots Q (F0 m (pc + 3) ls (v.toList ++ rest))) : W p l e R s m args below meth c H locs cells slots Q (F0 m pc ls st0) := by
  have hG : GoodIn (c9 :: ALL) (wsV own index RX4 y (Cond.code y bytes maxL ret :: ALL)) := by
    intro w hw
    have hw : w ∈ ALL := by
      unfold wsV at hw
      rcases List.mem_append.mp hw with h | h
      · simp only [List.mem_cons, List.not_mem_nil, or_false] at h
        rcases h with rfl | rfl | rfl | rfl
        · exact w1
        · exact w2
        · exact w3
        · exact w4
      · rcases List.mem_cons.mp h with h | h
        · rw [h]; exact w5
        · exact h
    exact ⟨List.mem_cons_of_mem _ hw, good_of_word (List.mem_filter.mp hw).2⟩
  exact mretA (va_runV12 (As := As) (rest := rest) ⟨hx, hb, hml, hown, hts⟩ hM (cwV n hts hG rfl hrm.1 hrm.2 hy ⟨hR.1, by omega⟩) hR.2 ⟨PM_blind, (va_recv (q := (RX4, TX4, 8)) hE.1 hW (show vwCl[4]? = some (RX4, TX4, 8) from rfl) (wl_at (b := b) (t := t) (σ := σ) (k := 0) (q := (0, 0)) sh_0 (by decide))), fun U hU hWm => ⟨rfl, by rw [hU]; exact hW, ((hE.step hWm hU hS).narrow hsub)⟩⟩ rfl hn hsize hst (lv_room12 hroom) hdg hc) hS hsub kk
theorem mretXA {mc ms : Nat} {res : (Nat × Sg) ⊕ (Option Value × Sg)} {a : Array Value} {st0 : List Value} (hr : vx_Run p l e R s m args below meth c H locs cells slots mc ms (F0 m pc ls st0) rest (QX D t b res a) (XX D t b res) (geA b)) (hS : va_S A s.heap H locs) (hsub : ∀ q, geA b q → A q)
    (kx : ∀ (k1 : Nat) (σ' : Sg), res = .inl (k1, σ') → ∀ (H1 : Heap) (locs1 : List Loc) (ce : Cell) (q9 : Addr), wd D t b σ' H1 → va_S A s.heap H1 locs1 → H1[q9]? = some ce → ce.vm = .none → s.vm.findClass (exn k1) = some ce.cls → vx_W p l e R s m args below meth c H1 locs1 (cells + mc) (slots + ms) Q (F0 m pc ls rest) q9)
    (kk : ∀ (v : Option Value) (σ' : Sg), res = .inr (v, σ') → ∀ (H1 : Heap) (locs1 : List Loc), wd D t b σ' H1 → va_S A s.heap H1 locs1 → (H.size ≤ H1.size ∧ ∀ q, q < H.size → ¬ geA b q → H1[q]? = H[q]?) → W p l e R s m args below meth c H1 locs1 (cells + mc) (slots + ms) Q (F0 m (pc + 3) ls (v.toList ++ rest))) : W p l e R s m args below meth c H locs cells slots Q (F0 m pc ls st0) := by
  intro T hT X
  have keep : ∀ {st₀ u T' : State} {L : List Loc}, st₀.heap = H → T'.heap = u.heap → (∀ q ∈ L, geA b q.base) → va_F (geA b) st₀ u → va_S A s.heap T'.heap (locs ++ L) ∧ (H.size ≤ T'.heap.size ∧ ∀ q, q < H.size → ¬ geA b q → T'.heap[q]? = H[q]?) := by
    intro st₀ u T' L h0 e1 hL hF
    obtain ⟨hz, hk⟩ := hF
    rw [h0] at hz hk
    exact ⟨⟨Nat.le_trans hS.1 (by rw [e1]; exact hz), fun q h1 h2 => by rw [e1, hk q (Nat.lt_of_lt_of_le h1 hS.1) (fun h => h2 (hsub q h))]; exact hS.2.1 q h1 h2, fun q hq => by
      rcases List.mem_append.mp hq with h | h
      · exact hS.2.2 q h
      · exact hsub _ (hL q h)⟩, by rw [e1]; exact hz, fun q h1 h2 => by rw [e1]; exact hk q h1 h2⟩
  rcases hr T hT X with ⟨v', st₀, u, T', L, h0, X', hL, e1, e2, ⟨v, σ', hres, ⟨hv, hb⟩, hF⟩, st⟩ | ⟨q, st₀, u, T', L, E, ce, h0, X', hL, e1, e2, ⟨k1, σ', hres, hE, hb, hF⟩, hce, hcv, hcl, st⟩
  · cases hv
    have K := keep h0 e1 hL hF
    obtain ⟨t2, a1, b1⟩ := kk v' σ' hres T'.heap (locs ++ L) (by rw [e1]; exact hb) K.1 K.2 T' rfl X'
    exact ⟨t2, st t2 a1, b1⟩
  · rw [hE] at hcl
    have K := keep h0 e1 hL hF
    obtain ⟨t2, a1, b1⟩ := kx k1 σ' hres T'.heap (locs ++ L) ce q (by rw [e1]; exact hb) K.1 (by rw [e1]; exact hce) hcv hcl T' rfl X'
    exact ⟨t2, st.trans a1, b1⟩
theorem lVX {maxL nL n mc ms : Nat} {y : MethodName} {bytes : ByteArray} {ret : Option FieldType} {rm : Room} {c9 : Cond} {res : (Nat × Sg) ⊕ (Option Value × Sg)} {As st0 : List Value} (hM : vx_Met l y (Cond.code y bytes maxL ret :: ALL) rm (PM D t b σ (.ref (b + 0) :: As)) (QX D t b res) (XX D t b res) mc ms (geA b)) (hx : p.tables.exec = Jvm.exec) (hb : c.code = cc) (hml : c.maxLocals = nL) (hown : s.vm.findClass own = some m.cls) (hts : ∀ w ∈ c9 :: ALL, w.before args s = true) (hE : EVA D t A s) (hsub : ∀ q, geA b q → A q) (hW : wd D t b σ H) (hS : va_S A s.heap H locs) (w1 : Cond.methodLink own index y ∈ ALL) (w2 : Cond.instanceMethod y ∈ ALL) (w3 : Cond.selects RX4 y y ∈ ALL) (w4 : Cond.initialized RX4 ∈ ALL) (w5 : Cond.code y bytes maxL ret ∈ ALL) (hy : y.cls = RX4 ∧ y.cls ≠ "java/lang/invoke/MethodHandle" ∧ y.cls ≠ "java/lang/invoke/VarHandle" ∧ (parseMethodDescriptor y.desc).map (fun d => d.parameters.length) = some n) (hrm : rm.cells = mc ∧ rm.slots = ms) (hR : rm.frames + 1 ≤ R.frames ∧ 8 + (maxL + 11) + rm.locals ≤ R.locals) (hn : As.length = n) (hst : st0 = As.reverse ++ .ref (b + 0) :: rest) (hsize : ls.size = nL) (hroom : (rest.map fun v => v.category).sum ≤ 8) (hc : cells + mc ≤ R.cells ∧ slots + ms ≤ R.slots) (hdg : decode cc pc = .ok (.invokevirtual index, 3)) (kx : ∀ (k1 : Nat) (σ' : Sg), res = .inl (k1, σ') → ∀ (H1 : Heap) (locs1 : List Loc) (ce : Cell) (q9 : Addr), wd D t b σ' H1 → va_S A s.heap H1 locs1 → H1[q9]? = some ce → ce.vm = .none → s.vm.findClass (exn k1) = some ce.cls → vx_W p l e R s m args below meth c H1 locs1 (cells + mc) (slots + ms) Q (F0 m pc ls rest) q9) (kk : ∀ (v : Option Value) (σ' : Sg), res = .inr (v, σ') → ∀ (H1 : Heap) (locs1 : List Loc), wd D t b σ' H1 → va_S A s.heap H1 locs1 → (H.size ≤ H1.size ∧ ∀ q, q < H.size → ¬ geA b q → H1[q]? = H[q]?) → W p l e R s m args below meth c H1 locs1 (cells + mc) (slots + ms) Q (F0 m (pc + 3) ls (v.toList ++ rest))) : W p l e R s m args below meth c H locs cells slots Q (F0 m pc ls st0) := by
  have hG : GoodIn (c9 :: ALL) (wsV own index RX4 y (Cond.code y bytes maxL ret :: ALL)) := by
    intro w hw
    have hw : w ∈ ALL := by
      unfold wsV at hw
      rcases List.mem_append.mp hw with h | h
      · simp only [List.mem_cons, List.not_mem_nil, or_false] at h
        rcases h with rfl | rfl | rfl | rfl
        · exact w1
        · exact w2
        · exact w3
        · exact w4
      · rcases List.mem_cons.mp h with h | h
        · rw [h]; exact w5
        · exact h
    exact ⟨List.mem_cons_of_mem _ hw, good_of_word (List.mem_filter.mp hw).2⟩
  exact mretXA (vx_runV (As := As) (rest := rest) ⟨hx, hb, hml, hown, hts⟩ hM (cwV n hts hG rfl hrm.1 hrm.2 hy hR) ⟨PM_blind, (va_recv (q := (RX4, TX4, 8)) hE.1 hW (show vwCl[4]? = some (RX4, TX4, 8) from rfl) (wl_at (b := b) (t := t) (σ := σ) (k := 0) (q := (0, 0)) sh_0 (by decide))), fun U hU hWm => ⟨rfl, by rw [hU]; exact hW, ((hE.step hWm hU hS).narrow hsub)⟩⟩ rfl hn hsize hst (lv_room hroom) hdg hc) hS hsub kx kk
theorem lSX {maxL nL n mc ms : Nat} {y : MethodName} {bytes : ByteArray} {ret : Option FieldType} {rm : Room} {c9 : Cond} {res : (Nat × Sg) ⊕ (Option Value × Sg)} {As st0 : List Value} (hM : vx_Met l y (Cond.code y bytes maxL ret :: ALL) rm (PM D t b σ As) (QX D t b res) (XX D t b res) mc ms (geA b)) (hx : p.tables.exec = Jvm.exec) (hb : c.code = cc) (hml : c.maxLocals = nL) (hown : s.vm.findClass own = some m.cls) (hts : ∀ w ∈ c9 :: ALL, w.before args s = true) (hE : EVA D t A s) (hsub : ∀ q, geA b q → A q) (hW : wd D t b σ H) (hS : va_S A s.heap H locs) (w1 : Cond.methodLink own index y ∈ ALL) (w2 : Cond.static y ∈ ALL) (w4 : Cond.initialized y.cls ∈ ALL) (w5 : Cond.code y bytes maxL ret ∈ ALL) (hy : y.cls ≠ "java/lang/invoke/MethodHandle" ∧ y.cls ≠ "java/lang/invoke/VarHandle" ∧ (parseMethodDescriptor y.desc).map (fun d => d.parameters.length) = some n) (hrm : rm.cells = mc ∧ rm.slots = ms) (hR : rm.frames + 1 ≤ R.frames ∧ 8 + (maxL + 11) + rm.locals ≤ R.locals) (hn : As.length = n) (hst : st0 = As.reverse ++ rest) (hsize : ls.size = nL) (hroom : (rest.map fun v => v.category).sum ≤ 8) (hc : cells + mc ≤ R.cells ∧ slots + ms ≤ R.slots) (hdg : decode cc pc = .ok (.invokestatic index, 3)) (kx : ∀ (k1 : Nat) (σ' : Sg), res = .inl (k1, σ') → ∀ (H1 : Heap) (locs1 : List Loc) (ce : Cell) (q9 : Addr), wd D t b σ' H1 → va_S A s.heap H1 locs1 → H1[q9]? = some ce → ce.vm = .none → s.vm.findClass (exn k1) = some ce.cls → vx_W p l e R s m args below meth c H1 locs1 (cells + mc) (slots + ms) Q (F0 m pc ls rest) q9) (kk : ∀ (v : Option Value) (σ' : Sg), res = .inr (v, σ') → ∀ (H1 : Heap) (locs1 : List Loc), wd D t b σ' H1 → va_S A s.heap H1 locs1 → (H.size ≤ H1.size ∧ ∀ q, q < H.size → ¬ geA b q → H1[q]? = H[q]?) → W p l e R s m args below meth c H1 locs1 (cells + mc) (slots + ms) Q (F0 m (pc + 3) ls (v.toList ++ rest))) : W p l e R s m args below meth c H locs cells slots Q (F0 m pc ls st0) := by
  have hG : GoodIn (c9 :: ALL) (va_wsS own index y (Cond.code y bytes maxL ret :: ALL)) := by
    intro w hw
    have hw : w ∈ ALL := by
      unfold va_wsS at hw
      rcases List.mem_append.mp hw with h | h
      · simp only [List.mem_cons, List.not_mem_nil, or_false] at h
        rcases h with rfl | rfl | rfl
        · exact w1
        · exact w2
        · exact w4
      · rcases List.mem_cons.mp h with h | h
        · rw [h]; exact w5
        · exact h
    exact ⟨List.mem_cons_of_mem _ hw, good_of_word (List.mem_filter.mp hw).2⟩
  exact mretXA (vx_runS (As := As) (rest := rest) ⟨hx, hb, hml, hown, hts⟩ hM (va_cwS n hts hG rfl hrm.1 hrm.2 hy hR) ⟨PM_blind, fun U hU hWm => ⟨rfl, by rw [hU]; exact hW, ((hE.step hWm hU hS).narrow hsub)⟩⟩ rfl hn hsize hst (lv_room hroom) hdg hc) hS hsub kx kk
theorem lVXn {maxL nL n mc ms : Nat} {y : MethodName} {bytes : ByteArray} {ret : Option FieldType} {rm : Room} {c9 : Cond} {v : Option Value} {σ' : Sg} {As st0 : List Value} (hM : vx_Met l y (Cond.code y bytes maxL ret :: ALL) rm (PM D t b σ (.ref (b + 0) :: As)) (QX D t b (.inr (v, σ'))) (XX D t b (.inr (v, σ'))) mc ms (geA b)) (hx : p.tables.exec = Jvm.exec) (hb : c.code = cc) (hml : c.maxLocals = nL) (hown : s.vm.findClass own = some m.cls) (hts : ∀ w ∈ c9 :: ALL, w.before args s = true) (hE : EVA D t A s) (hsub : ∀ q, geA b q → A q) (hW : wd D t b σ H) (hS : va_S A s.heap H locs) (w1 : Cond.methodLink own index y ∈ ALL) (w2 : Cond.instanceMethod y ∈ ALL) (w3 : Cond.selects RX4 y y ∈ ALL) (w4 : Cond.initialized RX4 ∈ ALL) (w5 : Cond.code y bytes maxL ret ∈ ALL) (hy : y.cls = RX4 ∧ y.cls ≠ "java/lang/invoke/MethodHandle" ∧ y.cls ≠ "java/lang/invoke/VarHandle" ∧ (parseMethodDescriptor y.desc).map (fun d => d.parameters.length) = some n) (hrm : rm.cells = mc ∧ rm.slots = ms) (hR : rm.frames + 1 ≤ R.frames ∧ 8 + (maxL + 11) + rm.locals ≤ R.locals) (hn : As.length = n) (hst : st0 = As.reverse ++ .ref (b + 0) :: rest) (hsize : ls.size = nL) (hroom : (rest.map fun v => v.category).sum ≤ 8) (hc : cells + mc ≤ R.cells ∧ slots + ms ≤ R.slots) (hdg : decode cc pc = .ok (.invokevirtual index, 3)) (kk : ∀ (H1 : Heap) (locs1 : List Loc), wd D t b σ' H1 → va_S A s.heap H1 locs1 → (H.size ≤ H1.size ∧ ∀ q, q < H.size → ¬ geA b q → H1[q]? = H[q]?) → W p l e R s m args below meth c H1 locs1 (cells + mc) (slots + ms) Q (F0 m (pc + 3) ls (v.toList ++ rest))) : W p l e R s m args below meth c H locs cells slots Q (F0 m pc ls st0) := by
  refine lVX hM hx hb hml hown hts hE hsub hW hS w1 w2 w3 w4 w5 hy hrm hR hn hst hsize hroom hc hdg (fun k2 σ2 hk => by cases hk) (fun v2 σ2 h H1 locs1 hW hS hF => ?_)
  cases h
  exact kk H1 locs1 hW hS hF
theorem lVXt {maxL nL n mc ms mcM msM : Nat} {y : MethodName} {bytes : ByteArray} {ret : Option FieldType} {rm : Room} {c9 : Cond} {k1 : Nat} {τ : Sg} {As st0 : List Value} {Qc : Array Value → State → Outcome → State → Prop} (hM : vx_Met l y (Cond.code y bytes maxL ret :: ALL) rm (PM D t b σ (.ref (b + 0) :: As)) (QX D t b (.inl (k1, τ))) (XX D t b (.inl (k1, τ))) mc ms (geA b)) (hx : p.tables.exec = Jvm.exec) (hb : c.code = cc) (hml : c.maxLocals = nL) (hown : s.vm.findClass own = some m.cls) (hts : ∀ w ∈ c9 :: ALL, w.before args s = true) (hE : EVA D t (geA b) s) (hsub : ∀ q, geA b q → geA b q) (hW : wd D t b σ H) (hS : va_S (geA b) s.heap H locs) (w1 : Cond.methodLink own index y ∈ ALL) (w2 : Cond.instanceMethod y ∈ ALL) (w3 : Cond.selects RX4 y y ∈ ALL) (w4 : Cond.initialized RX4 ∈ ALL) (w5 : Cond.code y bytes maxL ret ∈ ALL) (hy : y.cls = RX4 ∧ y.cls ≠ "java/lang/invoke/MethodHandle" ∧ y.cls ≠ "java/lang/invoke/VarHandle" ∧ (parseMethodDescriptor y.desc).map (fun d => d.parameters.length) = some n) (hrm : rm.cells = mc ∧ rm.slots = ms) (hR : rm.frames + 1 ≤ R.frames ∧ 8 + (maxL + 11) + rm.locals ≤ R.locals) (hn : As.length = n) (hst : st0 = As.reverse ++ .ref (b + 0) :: rest) (hsize : ls.size = nL) (hroom : (rest.map fun v => v.category).sum ≤ 8) (hc : cells + mc ≤ R.cells ∧ slots + ms ≤ R.slots) (hdg : decode cc pc = .ok (.invokevirtual index, 3)) (htab : ∀ x ∈ c.exceptionTable.toList, False) (hlocks : meth.locks = false) (hmc : cells + mc ≤ mcM ∧ slots + ms ≤ msM) : W p l e R s m args below meth c H locs cells slots (vx_MQ below Qc (XX D t b (.inl (k1, τ))) args s mcM msM (geA b)) (F0 m pc ls st0) := by
  refine lVX hM hx hb hml hown hts hE hsub hW hS w1 w2 w3 w4 w5 hy hrm hR hn hst hsize hroom hc hdg (fun k2 σ2 hk H1 locs1 ce q9 hW hS hce hcv hcl => ?_) (fun _ _ h => by cases h)
  exact vx_out (fun x h => (htab x h).elim) hlocks hce hcv hcl (fun u hu _ => ⟨k2, σ2, hk, rfl, by rw [hu]; exact hW, hS.F hu⟩) hS.2.2 hmc.1 hmc.2
theorem lS {maxL nL n mc ms : Nat} {y : MethodName} {bytes : ByteArray} {ret : Option FieldType} {rm : Room} {c9 : Cond} {σ' : Sg} {v : Option Value} {As st0 : List Value} (hM : Met l y (Cond.code y bytes maxL ret :: ALL) rm (PM D t b σ As) (QG D t b σ' v) mc ms (geA b)) (hx : p.tables.exec = Jvm.exec) (hb : c.code = cc) (hml : c.maxLocals = nL) (hown : s.vm.findClass own = some m.cls) (hts : ∀ w ∈ c9 :: ALL, w.before args s = true) (hE : EVA D t A s) (hsub : ∀ q, geA b q → A q) (hW : wd D t b σ H) (hS : va_S A s.heap H locs) (w1 : Cond.methodLink own index y ∈ ALL) (w2 : Cond.static y ∈ ALL) (w4 : Cond.initialized y.cls ∈ ALL) (w5 : Cond.code y bytes maxL ret ∈ ALL) (hy : y.cls ≠ "java/lang/invoke/MethodHandle" ∧ y.cls ≠ "java/lang/invoke/VarHandle" ∧ (parseMethodDescriptor y.desc).map (fun d => d.parameters.length) = some n) (hrm : rm.cells = mc ∧ rm.slots = ms) (hR : rm.frames + 1 ≤ R.frames ∧ 8 + (maxL + 11) + rm.locals ≤ R.locals) (hn : As.length = n) (hst : st0 = As.reverse ++ rest) (hsize : ls.size = nL) (hroom : (rest.map fun v => v.category).sum ≤ 8) (hc : cells + mc ≤ R.cells ∧ slots + ms ≤ R.slots) (hdg : decode cc pc = .ok (.invokestatic index, 3)) (kk : ∀ (H1 : Heap) (locs1 : List Loc), wd D t b σ' H1 → va_S A s.heap H1 locs1 → (H.size ≤ H1.size ∧ ∀ q, q < H.size → ¬ geA b q → H1[q]? = H[q]?) → W p l e R s m args below meth c H1 locs1 (cells + mc) (slots + ms) Q (F0 m (pc + 3) ls (v.toList ++ rest))) : W p l e R s m args below meth c H locs cells slots Q (F0 m pc ls st0) := by
  have hG : GoodIn (c9 :: ALL) (va_wsS own index y (Cond.code y bytes maxL ret :: ALL)) := by
    intro w hw
    have hw : w ∈ ALL := by
      unfold va_wsS at hw
      rcases List.mem_append.mp hw with h | h
      · simp only [List.mem_cons, List.not_mem_nil, or_false] at h
        rcases h with rfl | rfl | rfl
        · exact w1
        · exact w2
        · exact w4
      · rcases List.mem_cons.mp h with h | h
        · rw [h]; exact w5
        · exact h
    exact ⟨List.mem_cons_of_mem _ hw, good_of_word (List.mem_filter.mp hw).2⟩
  exact mretA (va_runS (As := As) (rest := rest) ⟨hx, hb, hml, hown, hts⟩ hM (va_cwS n hts hG rfl hrm.1 hrm.2 hy hR) ⟨PM_blind, fun U hU hWm => ⟨rfl, by rw [hU]; exact hW, ((hE.step hWm hU hS).narrow hsub)⟩⟩ rfl hn hsize hst (lv_room hroom) hdg hc) hS hsub kk
theorem lSW {maxL nL n mc ms : Nat} {y : MethodName} {bytes : ByteArray} {ret : Option FieldType} {hh : List (Nat × Nat × Nat × Nat)} {rm : Room} {c9 : Cond} {σ' : Sg} {v : Option Value} {As st0 : List Value} (hM : Met l y (Cond.codeWith y bytes maxL ret hh :: ALL) rm (PM D t b σ As) (QG D t b σ' v) mc ms (geA b)) (hx : p.tables.exec = Jvm.exec) (hb : c.code = cc) (hml : c.maxLocals = nL) (hown : s.vm.findClass own = some m.cls) (hts : ∀ w ∈ c9 :: ALL, w.before args s = true) (hE : EVA D t A s) (hsub : ∀ q, geA b q → A q) (hW : wd D t b σ H) (hS : va_S A s.heap H locs) (w1 : Cond.methodLink own index y ∈ ALL) (w2 : Cond.static y ∈ ALL) (w4 : Cond.initialized y.cls ∈ ALL) (w5 : Cond.codeWith y bytes maxL ret hh ∈ ALL) (hy : y.cls ≠ "java/lang/invoke/MethodHandle" ∧ y.cls ≠ "java/lang/invoke/VarHandle" ∧ (parseMethodDescriptor y.desc).map (fun d => d.parameters.length) = some n) (hrm : rm.cells = mc ∧ rm.slots = ms) (hR : rm.frames + 1 ≤ R.frames ∧ 8 + (maxL + 11) + rm.locals ≤ R.locals) (hn : As.length = n) (hst : st0 = As.reverse ++ rest) (hsize : ls.size = nL) (hroom : (rest.map fun v => v.category).sum ≤ 8) (hc : cells + mc ≤ R.cells ∧ slots + ms ≤ R.slots) (hdg : decode cc pc = .ok (.invokestatic index, 3)) (kk : ∀ (H1 : Heap) (locs1 : List Loc), wd D t b σ' H1 → va_S A s.heap H1 locs1 → (H.size ≤ H1.size ∧ ∀ q, q < H.size → ¬ geA b q → H1[q]? = H[q]?) → W p l e R s m args below meth c H1 locs1 (cells + mc) (slots + ms) Q (F0 m (pc + 3) ls (v.toList ++ rest))) : W p l e R s m args below meth c H locs cells slots Q (F0 m pc ls st0) := by
  have hG : GoodIn (c9 :: ALL) (va_wsS own index y (Cond.codeWith y bytes maxL ret hh :: ALL)) := by
    intro w hw
    have hw : w ∈ ALL := by
      unfold va_wsS at hw
      rcases List.mem_append.mp hw with h | h
      · simp only [List.mem_cons, List.not_mem_nil, or_false] at h
        rcases h with rfl | rfl | rfl
        · exact w1
        · exact w2
        · exact w4
      · rcases List.mem_cons.mp h with h | h
        · rw [h]; exact w5
        · exact h
    exact ⟨List.mem_cons_of_mem _ hw, good_of_word (List.mem_filter.mp hw).2⟩
  exact mretA (vx_runSW (As := As) (rest := rest) ⟨hx, hb, hml, hown, hts⟩ hM (vx_cwSW n hts hG rfl hrm.1 hrm.2 hy hR) ⟨PM_blind, fun U hU hWm => ⟨rfl, by rw [hU]; exact hW, ((hE.step hWm hU hS).narrow hsub)⟩⟩ rfl hn hsize hst (lv_room hroom) hdg hc) hS hsub kk
theorem lMk {b0 b1 maxL nL mc ms : Nat} {y : MethodName} {bytes : ByteArray} {ret : Option FieldType} {rm : Room} {c9 : Cond} {v : Option Value} {st0 : List Value} (hM : Met l y (Cond.code y bytes maxL ret :: ALL) rm (PN D t b1) (QN b1 v) mc ms (geC b1)) (hx : p.tables.exec = Jvm.exec) (hb : c.code = cc) (hml : c.maxLocals = nL) (hown : s.vm.findClass own = some m.cls) (hts : ∀ w ∈ c9 :: ALL, w.before args s = true) (hE : EVA D t (geC b0) s) (hEC : EVC D t s) (hz : H.size = b1) (hb1 : b0 ≤ b1) (hS : va_S (geC b0) s.heap H locs) (w1 : Cond.methodLink own index y ∈ ALL) (w2 : Cond.static y ∈ ALL) (w4 : Cond.initialized y.cls ∈ ALL) (w5 : Cond.code y bytes maxL ret ∈ ALL) (hy : y.cls ≠ "java/lang/invoke/MethodHandle" ∧ y.cls ≠ "java/lang/invoke/VarHandle" ∧ (parseMethodDescriptor y.desc).map (fun d => d.parameters.length) = some 0) (hrm : rm.cells = mc ∧ rm.slots = ms) (hR : rm.frames + 1 ≤ R.frames ∧ 8 + (maxL + 11) + rm.locals ≤ R.locals) (hst : st0 = rest) (hsize : ls.size = nL) (hroom : (rest.map fun v => v.category).sum ≤ 8) (hc : cells + mc ≤ R.cells ∧ slots + ms ≤ R.slots) (hdg : decode cc pc = .ok (.invokestatic index, 3)) (kk : ∀ (H1 : Heap) (locs1 : List Loc), va_S (geC b0) s.heap H1 locs1 → (H.size ≤ H1.size ∧ ∀ q, q < H.size → H1[q]? = H[q]?) → W p l e R s m args below meth c H1 locs1 (cells + mc) (slots + ms) Q (F0 m (pc + 3) ls (v.toList ++ rest))) : W p l e R s m args below meth c H locs cells slots Q (F0 m pc ls st0) := by
  have hG : GoodIn (c9 :: ALL) (va_wsS own index y (Cond.code y bytes maxL ret :: ALL)) := by
    intro w hw
    have hw : w ∈ ALL := by
      unfold va_wsS at hw
      rcases List.mem_append.mp hw with h | h
      · simp only [List.mem_cons, List.not_mem_nil, or_false] at h
        rcases h with rfl | rfl | rfl
        · exact w1
        · exact w2
        · exact w4
      · rcases List.mem_cons.mp h with h | h
        · rw [h]; exact w5
        · exact h
    exact ⟨List.mem_cons_of_mem _ hw, good_of_word (List.mem_filter.mp hw).2⟩
  have hr : va_Run p l e R s m args below meth c H locs cells slots mc ms (F0 m pc ls st0) rest (QN b1 v ([] : List Value).toArray) (geC b1) := va_runS (As := []) (rest := rest) ⟨hx, hb, hml, hown, hts⟩ hM (va_cwS 0 hts hG rfl hrm.1 hrm.2 hy hR) ⟨PN_blind, fun U hU hWm => ⟨rfl, by rw [hU]; exact hz, (hE.step hWm hU hS).narrow (fun q h => Nat.le_trans hb1 h), hEC.warm hWm⟩⟩ rfl rfl hsize hst (lv_room hroom) hdg hc
  intro T hT X
  obtain ⟨v', st₀, u, T', L, h0, X', hL, e1, e2, ⟨hv, hz2, hk⟩, st⟩ := hr T hT X
  cases hv
  rw [h0] at hz2 hk
  obtain ⟨t2, a1, b9⟩ := kk T'.heap (locs ++ L) ⟨Nat.le_trans hS.1 (by rw [e1]; exact hz2), fun q h1 h2 => by rw [e1, hk q (by have := hS.1; omega)]; exact hS.2.1 q h1 h2, fun q hq => by
      rcases List.mem_append.mp hq with h | h
      · exact hS.2.2 q h
      · exact Nat.le_trans hb1 (hL q h)⟩ ⟨by rw [e1]; exact hz2, fun q h1 => by rw [e1]; exact hk q (by omega)⟩ T' rfl X'
  exact ⟨t2, st t2 a1, b9⟩
theorem lMkW {b0 b1 maxL nL mc ms : Nat} {y : MethodName} {bytes : ByteArray} {ret : Option FieldType} {rm : Room} {c9 : Cond} {v : Option Value} {st0 : List Value} (hM : Met l y (Cond.code y bytes maxL ret :: ALL) rm (PN D t b1) (QN b1 v) mc ms (geC b1)) (hx : p.tables.exec = Jvm.exec) (hb : c.code = cc) (hml : c.maxLocals = nL) (hown : s.vm.findClass own = some m.cls) (hts : ∀ w ∈ c9 :: ALL, w.before args s = true) (hE : EVA D t (geC b0) s) (hEC : EVC D t s) (hz : H.size = b1) (hb1 : b0 ≤ b1) (hW : wd D t b σ H) (hS : va_S (geC b0) s.heap H locs) (w1 : Cond.methodLink own index y ∈ ALL) (w2 : Cond.static y ∈ ALL) (w4 : Cond.initialized y.cls ∈ ALL) (w5 : Cond.code y bytes maxL ret ∈ ALL) (hy : y.cls ≠ "java/lang/invoke/MethodHandle" ∧ y.cls ≠ "java/lang/invoke/VarHandle" ∧ (parseMethodDescriptor y.desc).map (fun d => d.parameters.length) = some 0) (hrm : rm.cells = mc ∧ rm.slots = ms) (hR : rm.frames + 1 ≤ R.frames ∧ 8 + (maxL + 11) + rm.locals ≤ R.locals) (hst : st0 = rest) (hsize : ls.size = nL) (hroom : (rest.map fun v => v.category).sum ≤ 8) (hc : cells + mc ≤ R.cells ∧ slots + ms ≤ R.slots) (hdg : decode cc pc = .ok (.invokestatic index, 3)) (kk : ∀ (H1 : Heap) (locs1 : List Loc), wd D t b σ H1 → va_S (geC b0) s.heap H1 locs1 → W p l e R s m args below meth c H1 locs1 (cells + mc) (slots + ms) Q (F0 m (pc + 3) ls (v.toList ++ rest))) : W p l e R s m args below meth c H locs cells slots Q (F0 m pc ls st0) :=
  lMk hM hx hb hml hown hts hE hEC hz hb1 hS w1 w2 w4 w5 hy hrm hR hst hsize hroom hc hdg (fun H1 locs1 hS hF => kk H1 locs1 (va_P.kept hW (fun k q hq => hF.2 q.1 (hW k q hq).lt)) hS)
/-- new PrizePurses(): the object's world behind the heap's end -/
theorem lNew {b0 i1 i2 nL : Nat} {c9 : Cond} {lv : List (Nat × Value)} (hx : p.tables.exec = Jvm.exec) (hb : c.code = cc) (hml : c.maxLocals = nL) (hown : s.vm.findClass RL = some m.cls) (hts : ∀ w ∈ c9 :: ALL, w.before args s = true) (hEC : EVC D t s) (hz : H.size = b) (hb1 : b0 ≤ b) (hS : va_S (geC b0) s.heap H locs) (w1 : Cond.classLink RL i1 RX4 ∈ ALL) (w2 : Cond.methodLink RL i2 yX4_init ∈ ALL) (w3 : Cond.instanceMethod yX4_init ∈ ALL) (w4 : Cond.initialized RX4 ∈ ALL) (w5 : Cond.code yX4_init cX4_init 2 none ∈ ALL) (hl : lv_has ls nL lv) (hR : 5 ≤ R.frames ∧ 101 ≤ R.locals) (hc : cells + 193 ≤ R.cells ∧ slots + 12934 ≤ R.slots) (d0 : decode cc pc = .ok (.new i1, 3)) (d3 : decode cc (pc + 3) = .ok (.dup, 1)) (d4 : decode cc (pc + 4) = .ok (.invokespecial i2, 3))
    (kk : ∀ (H1 : Heap) (locs1 : List Loc), wd D t b s0 H1 → H1.size = b + 193 → va_S (geC b0) s.heap H1 locs1 → (∀ q, q < H.size → H1[q]? = H[q]?) → W p l e R s m args below meth c H1 locs1 (cells + 193) (slots + 12934) Q (F0 m (pc + 7) ls [.ref (b + 0)])) : W p l e R s m args below meth c H locs cells slots Q (F0 m pc ls []) := by
  have hta : ∀ w ∈ ALL, w.before args s = true := fun w h => hts w (List.mem_cons_of_mem _ h)
  refine cnew (ci := 4) (C := RX4) (T := TX4) (N := 8) (h := b + 0) inA4 tyX4_ok rfl (fs := [.null, .null, .null, .int 0, .null, .int 0, .int 0, .null]) (by decide +kernel) hx hb hta hown hEC.1 w1 qin_4 w4 (by rw [hz]; rfl) (by omega) (by omega) d0 (fun H1 hN z1 o1 => ?_)
  refine lv_dup hx hb d3 rfl ?_
  refine mI (k := 0) (n := 193) (rest := [.ref (b + 0)]) (c_X4_init l D t b) hx hb hml hown hts hEC (by rw [z1]) hN w2 w3 w4 w5 rfl hs_X4_init ⟨rfl, rfl⟩ ⟨hR.1, hR.2⟩ rfl hl.1 (Nat.le_of_ble_eq_true rfl) ⟨by omega, by omega⟩ d4 (fun H2 L2 hz2 hC o2 hL2 => ?_)
  refine W.widen (k := cells + 193) (n := slots + 12934) (by omega) (by omega) ?_
  have hW : wd D t b s0 H2 := by
    intro k q hq
    obtain ⟨hk, hq1⟩ := wl_1 hq
    have h9 := wl_at (b := b) (t := t) (σ := s0) (k := k) (q := sh k) rfl (by
      have h7 : ∀ k, k < 193 → (sh k).1 ≠ 99 := by decide +kernel
      exact h7 k hk)
    rw [hq] at h9
    cases h9
    exact hC k (Nat.zero_le _) hk
  have ho : ∀ q, q < H.size → H2[q]? = H[q]? := fun q hq => (o2 q (by omega)).trans (o1 q (by omega))
  refine kk H2 (locs ++ L2) hW (by rw [hz2]) ⟨by have := hS.1; omega, fun q h1 h2 => ?_, fun z hz9 => ?_⟩ ho
  · rw [ho q (by have := hS.1; omega)]
    exact hS.2.1 q h1 h2
  · rcases List.mem_append.mp hz9 with h | h
    · exact hS.2.2 z h
    · exact Nat.le_trans hb1 (Nat.le_trans (Nat.le_add_right b 0) (hL2 z h))
end LAW

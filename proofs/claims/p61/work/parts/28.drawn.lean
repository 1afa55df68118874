/-! drawn: what it answers is nothing to the law; that it answers is *-/
def f_L_drawn (L : Nat) (xs : Nat → Int32) (k : Int32) : Option Int32 := if Int32.ofNat L = 0 then (some (7919 * k + 3)) else (nz (Int32.ofNat L) (gd (k - k / Int32.ofNat L * Int32.ofNat L) L (some (((xs (k - k / Int32.ofNat L * Int32.ofNat L).toNatClampNeg >>> ((k - k / 7 * 7) &&& 31)) ^^^ (k / Int32.ofNat L * 31)) ^^^ (k * 2654435)))))
def PD (D : va_G) (t : Nat → ClassId) (b : Nat) (σ : Sg) (bA L : Nat) (xs : Nat → Int32) (k : Int32) : Array Value → State → Prop := va_Pc [.ref bA, .int k] (fun U => wd D t b σ U.heap ∧ EV D t b U ∧ va_X bA L xs U U.heap ∧ bA < U.heap.size ∧ ¬ geA b bA)
theorem PD_blind {D : va_G} {t : Nat → ClassId} {b : Nat} {σ : Sg} {bA L : Nat} {xs : Nat → Int32} {k : Int32} : FrameBlind (PD D t b σ bA L xs k) := fun a U g mk q => by
  obtain ⟨q0, q1, q2, q3, q4, q5⟩ := q
  exact ⟨q0, q1, EV.blind q2, va_X.moved (u := U) (U := U.calling g mk a) (Vm.Alike.refl U.vm) q3, q4, q5⟩
def stw {α : Type} (w : Nat → Int64) (k : (Nat → Int64) → Option α) : Option α := k w
theorem stw_e {α : Type} {w : Nat → Int64} {k : (Nat → Int64) → Option α} {r : α} (h : stw w k = some r) : ∃ w1, w = w1 ∧ k w1 = some r := ⟨w, rfl, h⟩
set_option maxHeartbeats 4000000 in
theorem c_L_drawn (l : Launch) (D : va_G) (t : Nat → ClassId) (b : Nat) (σ : Sg) (bA L : Nat) (xs : Nat → Int32) (k r : Int32) (hf : f_L_drawn L xs k = some r) : Met l yL_drawn (Cond.code yL_drawn cL_drawn 2 (some .int) :: ALL) ({ frames := 0, cells := 0, slots := 0, locals := 0 }) (PD D t b σ bA L xs k) (QG D t b σ (some (.int r))) 0 0 (geA b) := by
  refine Met.ofW (cc := cL_drawn) (maxL := 2) (ret := (some .int)) (by decide) rfl ?_
  intro p e s m args below meth c s₁ B hml hv
  obtain ⟨rfl, hW, hE, hX, hbl, hbA⟩ := hv
  have hx := B.exec
  have hb := B.bytes
  have hr := B.returns
  have hts := atoms_spec (ws := Cond.code yL_drawn cL_drawn 2 (some .int) :: ALL) B.pre
  have hta := fun w h => hts w (List.mem_cons_of_mem _ h)
  have hown : s.vm.findClass RL = some m.cls := findClass_of_methodNamed B.named
  have hlocks := B.notSynchronized
  have hS : va_S (geA b) s.heap s.heap [] := va_S.rf
  have hl := lv_entry ([.ref bA, .int k]) (n := 2) (Nat.le_of_ble_eq_true rfl)
  rw [lg_entry_eq]
  generalize (lg_sl ([.ref bA, .int k]) ++ List.replicate (2 - (lg_sl ([.ref bA, .int k])).length) Slot.unset).toArray = ls at hl ⊢
  have hl : lv_has ls 2 [(0, .ref bA), (1, .int k)] := hl
  unfold f_L_drawn at hf
  refine lv_aload_n hx hb dL_drawn_0 rfl (lv_at hl 0 rfl) ?_
  refine va_slen hx hb hX hbl hbA hS dL_drawn_1 ?_
  refine lv_if_ne (tgt := 15) hx hb dL_drawn_2 (by decide) (fun h => ?_) (fun h => ?_)
  · have hf := ifn h hf
    obtain ⟨g1, hf⟩ := nz_e hf
    refine lv_aload_n hx hb dL_drawn_15 rfl (lv_at hl 0 rfl) ?_
    refine lv_iload_n hx hb dL_drawn_16 rfl (lv_at hl 1 rfl) ?_
    refine lv_aload_n hx hb dL_drawn_17 rfl (lv_at hl 0 rfl) ?_
    refine va_slen hx hb hX hbl hbA hS dL_drawn_18 ?_
    refine lv_irem hx hb dL_drawn_19 g1 ?_
    obtain ⟨g2, hf⟩ := gd_e hf
    refine va_sld hx hb hX hbl hbA hS g2 dL_drawn_20 ?_
    refine lv_iload_n hx hb dL_drawn_21 rfl (lv_at hl 1 rfl) ?_
    refine lv_bipush (v := 7) hx hb dL_drawn_22 (by decide) ?_
    refine lv_irem hx hb dL_drawn_24 (by decide) ?_
    refine lv_ishr hx hb dL_drawn_25 ?_
    refine lv_iload_n hx hb dL_drawn_26 rfl (lv_at hl 1 rfl) ?_
    refine lv_aload_n hx hb dL_drawn_27 rfl (lv_at hl 0 rfl) ?_
    refine va_slen hx hb hX hbl hbA hS dL_drawn_28 ?_
    refine lv_idiv hx hb dL_drawn_29 g1 ?_
    refine lv_bipush (v := 31) hx hb dL_drawn_30 (by decide) ?_
    refine lv_imul hx hb dL_drawn_32 ?_
    refine lv_ixor hx hb dL_drawn_33 ?_
    refine lv_iload_n hx hb dL_drawn_34 rfl (lv_at hl 1 rfl) ?_
    refine lv_ldc hx hb hown (hta _ q572) dL_drawn_35 ?_
    refine lv_imul hx hb dL_drawn_37 ?_
    refine lv_ixor hx hb dL_drawn_38 ?_
    cases hf
    exact W.iret hx hb hr (fun u hu _ => ⟨⟨rfl, by rw [hu]; exact hW⟩, hS.F hu⟩) hS.2.2 dL_drawn_39
  · have hf := ifp h hf
    refine lv_sipush (v := 7919) hx hb dL_drawn_5 (by decide) ?_
    refine lv_iload_n hx hb dL_drawn_8 rfl (lv_at hl 1 rfl) ?_
    refine lv_imul hx hb dL_drawn_9 ?_
    refine lv_iconst (v := 3) hx hb dL_drawn_10 (by decide) ?_
    refine lv_iadd hx hb dL_drawn_11 ?_
    refine lv_goto (tgt := 39) hx hb dL_drawn_12 (by decide) ?_
    cases hf
    exact W.iret hx hb hr (fun u hu _ => ⟨⟨rfl, by rw [hu]; exact hW⟩, hS.F hu⟩) hS.2.2 dL_drawn_39
section LAWW
variable {p : Program} {l : Launch} {e : Env} {R : Room} {s : State} {m : MethodId} {args : Array Value} {below : List Frame} {meth : Method} {c : Code} {H : Heap} {locs : List Loc} {cells slots : Nat} {Q : State → Prop} {D : va_G} {t : Nat → ClassId} {b : Nat} {σ : Sg} {pc : Nat} {ls : Array Slot} {rest : List Value} {cc : ByteArray} {own ref : String} {index k : Nat} {H0 : Heap} {A : Nat → Prop} {a : Nat} {w : Nat → Int64}
theorem lLald {n : Nat} {i : Int32} (hx : p.tables.exec = Jvm.exec) (hb : c.code = cc) (hK : va_K D vwCl (tyL t) s) (hA : va_at D vwCl (a, .inl (t 4, n, .inr (.inl w))) H) (hin : vp_in i n) (hdg : decode cc pc = .ok (.laload, 1)) (kk : W p l e R s m args below meth c H locs cells slots Q (F0 m (pc + 1) ls (.long (w i.toNatClampNeg) :: rest))) : W p l e R s m args below meth c H locs cells slots Q (F0 m pc ls (.int i :: .ref a :: rest)) :=
  va_lald (ws := [(a, .inl (t 4, n, .inr (.inl w)))]) hx hb hK (fun k q hq => by
    have hz : k < 1 := (List.getElem?_eq_some_iff.mp hq).1
    rw [show k = 0 by omega] at hq
    cases hq
    exact hA) 0 4 rfl rfl hin hdg kk
theorem lLast {n : Nat} {i : Int32} {x : Int64} (hx : p.tables.exec = Jvm.exec) (hb : c.code = cc) (hK : va_K D vwCl (tyL t) s) (hA : va_at D vwCl (a, .inl (t 4, n, .inr (.inl w))) H) (hW : wd D t b σ H) (hna : ¬ geA b a) (hS : va_S A s.heap H locs) (hAa : A a) (hin : vp_in i n) (hdg : decode cc pc = .ok (.lastore, 1))
    (kk : ∀ (H1 : Heap) (locs1 : List Loc), va_at D vwCl (a, .inl (t 4, n, .inr (.inl (vp_updL w i.toNatClampNeg x)))) H1 → wd D t b σ H1 → va_S A s.heap H1 locs1 → W p l e R s m args below meth c H1 locs1 cells slots Q (F0 m (pc + 1) ls rest)) : W p l e R s m args below meth c H locs cells slots Q (F0 m pc ls (.long x :: .int i :: .ref a :: rest)) := by
  refine W.last hx hb hA ((hK.2 4 _ rfl).1 n (fun j => .long (w j))) (fun q => by cases q) (by show ¬ (i < 0 ∨ (arrV _ _ _).slots.size ≤ _); rw [arrV_size]; exact hin) rfl rfl hdg fun H1 e z oq => ?_
  refine kk H1 _ ?_ (va_P.kept hW (fun k q hq => oq q.1 (fun h => hna ?_))) (hS.put z oq hAa)
  · show H1[a]? = some (vp_cell _ _)
    rw [e]
    rw [vp_cell_l, vp_cell_l, arrV_store]
    congr 2
    funext q
    by_cases hq : q = i.toNatClampNeg
    · subst hq
      simp [updV, vp_updL]
    · simp [updV, vp_updL, hq]
  · have h9 := wl_1 hq
    have h8 : q.1 = a := h
    show b ≤ a ∧ a < b + 193
    omega
theorem lSd {maxL nL bA L : Nat} {xs : Nat → Int32} {ka : Int32} {y : MethodName} {bytes : ByteArray} {ret : Option FieldType} {rm : Room} {c9 : Cond} {v : Option Value} (hM : Met l y (Cond.code y bytes maxL ret :: ALL) rm (PD D t b σ bA L xs ka) (QG D t b σ v) 0 0 (geA b)) (hx : p.tables.exec = Jvm.exec) (hb : c.code = cc) (hml : c.maxLocals = nL) (hown : s.vm.findClass own = some m.cls) (hts : ∀ w ∈ c9 :: ALL, w.before args s = true) (hE : EVA D t A s) (hsub : ∀ q, geA b q → A q) (hW : wd D t b σ H) (hS : va_S A s.heap H locs) (hX : va_X bA L xs s s.heap) (hbl : bA < s.heap.size) (hbA : ¬ A bA) (w1 : Cond.methodLink own index y ∈ ALL) (w2 : Cond.static y ∈ ALL) (w4 : Cond.initialized y.cls ∈ ALL) (w5 : Cond.code y bytes maxL ret ∈ ALL) (hy : y.cls ≠ "java/lang/invoke/MethodHandle" ∧ y.cls ≠ "java/lang/invoke/VarHandle" ∧ (parseMethodDescriptor y.desc).map (fun d => d.parameters.length) = some 2) (hrm : rm.cells = 0 ∧ rm.slots = 0) (hR : rm.frames + 1 ≤ R.frames ∧ 8 + (maxL + 11) + rm.locals ≤ R.locals) (hn : ([.ref bA, .int ka] : List Value).length = 2) (hsize : ls.size = nL) (hroom : (rest.map fun v => v.category).sum ≤ 8) (hc : cells ≤ R.cells ∧ slots ≤ R.slots) (hdg : decode cc pc = .ok (.invokestatic index, 3)) (kk : ∀ (H1 : Heap) (locs1 : List Loc), wd D t b σ H1 → va_S A s.heap H1 locs1 → (H.size ≤ H1.size ∧ ∀ q, q < H.size → ¬ geA b q → H1[q]? = H[q]?) → W p l e R s m args below meth c H1 locs1 cells slots Q (F0 m (pc + 3) ls (v.toList ++ rest))) : W p l e R s m args below meth c H locs cells slots Q (F0 m pc ls (.int ka :: .ref bA :: rest)) := by
  have hG : GoodIn (c9 :: ALL) (va_wsS own index y (Cond.code y bytes maxL ret :: ALL)) := by
    intro w hw
    have hw : w ∈ ALL := by
      unfold va_wsS at hw
      rcases List.mem_append.mp hw with h | h
      · simp only [List.mem_cons, List.not_mem_nil, or_false] at h
        rcases h with rfl | rfl | rfl
        · exact w1
        · exact w2
        · exact w4
      · rcases List.mem_cons.mp h with h | h
        · rw [h]; exact w5
        · exact h
    exact ⟨List.mem_cons_of_mem _ hw, good_of_word (List.mem_filter.mp hw).2⟩
  exact mretA (va_runS (As := [.ref bA, .int ka]) (rest := rest) ⟨hx, hb, hml, hown, hts⟩ hM (va_cwS 2 hts hG rfl hrm.1 hrm.2 hy hR) ⟨PD_blind, fun U hU hWm => ⟨rfl, by rw [hU]; exact hW, ((hE.step hWm hU hS).narrow hsub), by rw [hU]; exact va_X.kept (va_X.moved hWm.alike hX) (hS.2.1 bA hbl hbA), by rw [hU]; exact Nat.lt_of_lt_of_le hbl hS.1, fun q => hbA (hsub _ q)⟩⟩ rfl rfl hsize rfl (lv_room hroom) hdg hc) hS hsub kk
end LAWW

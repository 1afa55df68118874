/-! THE SURROUNDINGS that a method relies on: the classes, the words that warming keeps one by one, the string constants, the two statics of Throwable -/
def NG : List Cond := [Cond.methodLinkNest RX1 30 yX0_init RX4, Cond.methodLinkNest RX1 35 yX3_init RX4, Cond.methodLinkNest RX4 39 yX2_init RX4, Cond.methodLinkNest RX1 146 yX4_costOfStall RX4, Cond.methodLinkNest RX3 38 yX4_winningPlay RX4, Cond.methodLinkNest RX3 45 yX4_greatestLevelOf RX4, Cond.methodLinkNest RX1 167 yX4_costOfPrize RX4, Cond.castable "java/lang/IndexOutOfBoundsException" "java/lang/IndexOutOfBoundsException", Cond.castable "java/lang/IllegalArgumentException" "java/lang/IllegalArgumentException", Cond.castable "java/lang/IllegalStateException" "java/lang/IllegalStateException", Cond.declares ⟨"java/lang/RuntimeException", "<init>", "()V"⟩, Cond.declares ⟨"java/lang/RuntimeException", "<init>", "(Ljava/lang/String;)V"⟩, Cond.declares ⟨"java/lang/Exception", "<init>", "()V"⟩, Cond.declares ⟨"java/lang/Exception", "<init>", "(Ljava/lang/String;)V"⟩, Cond.declares ⟨"java/lang/Throwable", "<init>", "()V"⟩, Cond.declares ⟨"java/lang/Throwable", "<init>", "(Ljava/lang/String;)V"⟩]
def STRS : List (String × Nat × String) := [(RX4, 307, "there is no such pitch"), (RX4, 310, "there is no such kind"), (RX4, 329, "the price is 1 to 9"), (RX4, 60, "the pitch is taken, there are 6 stalls, or coins lack"), (RX4, 323, "there is no such stall"), (RX4, 312, "there is no such level"), (RX4, 314, "there is no such colour"), (RX4, 102, "the number of prizes is 1 to 40"), (RX4, 109, "the shelf lacks room or the purse lacks coins"), (RX4, 118, "the number of coins is 1 to 99"), (RX4, 124, "the bank does not have the coins"), (RX4, 130, "the purse is 0 to 99"), (RX4, 142, "200 children have come or 40 are at the fair"), (RX4, 316, "there is no such hour"), (RX4, 151, "the rain is 0 to 9"), (RX4, 157, "the number of rounds is 1 to 40"), (RX4, 163, "the last day is 9999"), (RX4, 175, "the text has 80 characters"), (RX4, 184, "the text is not valid"), (RX4, 189, "an order cannot be carried out"), (RX4, 198, "no state is recorded"), (RX4, 203, "there is no snapshot"), (RX4, 318, "there is no such child")]
def NCS : List (String × String) := [("java/lang/IllegalArgumentException", "java/lang/IndexOutOfBoundsException"), ("java/lang/IllegalStateException", "java/lang/IndexOutOfBoundsException"), ("java/lang/IllegalStateException", "java/lang/IllegalArgumentException")]
def EVA (D : va_G) (t : Nat → ClassId) (A : Nat → Prop) (U : State) : Prop := va_K D vwCl (tyL t) U ∧ (∀ w ∈ NG, va_Nw w U) ∧ (∀ q ∈ STRS, ∃ a, vk_R q.1 q.2.1 q.2.2 a U) ∧ vx_Zq Bundle.tN "UNASSIGNED_STACK" Bundle.steD A U U.heap ∧ vx_Zq Bundle.tN "SUPPRESSED_SENTINEL" Bundle.listD A U U.heap ∧ ∀ q ∈ NCS, va_Nc q.1 q.2 U
theorem NG_tab : ∀ w ∈ NG, w.onTables = true := by decide +kernel
theorem NG_warm {s U : State} (hW : s.WarmedH U.vm) (h : ∀ w ∈ NG, va_Nw w s) : ∀ w ∈ NG, va_Nw w U := by
  intro w hw
  have h1 := h w hw
  simp only [NG, List.mem_cons, List.not_mem_nil, or_false] at hw
  rcases hw with rfl | rfl | rfl | rfl | rfl | rfl | rfl | rfl | rfl | rfl | rfl | rfl | rfl | rfl | rfl | rfl
  · exact va_Nw.warmM hW h1
  · exact va_Nw.warmM hW h1
  · exact va_Nw.warmM hW h1
  · exact va_Nw.warmM hW h1
  · exact va_Nw.warmM hW h1
  · exact va_Nw.warmM hW h1
  · exact va_Nw.warmM hW h1
  · exact va_Nw.warmC hW h1
  · exact va_Nw.warmC hW h1
  · exact va_Nw.warmC hW h1
  · exact va_Nw.warmD hW h1
  · exact va_Nw.warmD hW h1
  · exact va_Nw.warmD hW h1
  · exact va_Nw.warmD hW h1
  · exact va_Nw.warmD hW h1
  · exact va_Nw.warmD hW h1
theorem EVA.step {D : va_G} {t : Nat → ClassId} {A : Nat → Prop} {s U : State} {H : Heap} {locs : List Loc} (h : EVA D t A s) (hW : s.WarmedH U.vm) (hU : U.heap = H) (hS : va_S A s.heap H locs) : EVA D t A U := by
  obtain ⟨h1, h2, h3, h4, h5, h6⟩ := h
  refine ⟨va_K.moved hW.alike h1, NG_warm hW h2, fun q hq => ?_, ?_, ?_, fun q hq => va_Nc.moved hW.alike (h6 q hq)⟩
  · obtain ⟨a, ha⟩ := h3 q hq
    exact ⟨a, vk_R.warm hW ha⟩
  · rw [hU]
    exact (vx_Zq.moved hW.alike h4).kept (fun a h1 h2 => hS.2.1 a h1 h2)
  · rw [hU]
    exact (vx_Zq.moved hW.alike h5).kept (fun a h1 h2 => hS.2.1 a h1 h2)
theorem EVA.blind {D : va_G} {t : Nat → ClassId} {A : Nat → Prop} {U : State} {g : JFrame} {mk : MethodId} {a : Array Value} (h : EVA D t A U) : EVA D t A (U.calling g mk a) := by
  obtain ⟨h1, h2, h3, h4, h5, h6⟩ := h
  refine ⟨va_K.moved (u := U) (U := U.calling g mk a) (Vm.Alike.refl U.vm) h1, fun w hw => va_Nw.same (u := U) (U := U.calling g mk a) (NG_tab w hw) rfl (h2 w hw), fun q hq => ?_, vx_Zq.moved (u := U) (U := U.calling g mk a) (Vm.Alike.refl U.vm) h4, vx_Zq.moved (u := U) (U := U.calling g mk a) (Vm.Alike.refl U.vm) h5, fun q hq => va_Nc.moved (u := U) (U := U.calling g mk a) (Vm.Alike.refl U.vm) (h6 q hq)⟩
  obtain ⟨a9, ha⟩ := h3 q hq
  exact ⟨a9, vk_R.same (u := U) (U := U.calling g mk a) rfl ha⟩
theorem EVA.narrow {D : va_G} {t : Nat → ClassId} {A B : Nat → Prop} {U : State} (h : EVA D t A U) (hAB : ∀ q, B q → A q) : EVA D t B U := ⟨h.1, h.2.1, h.2.2.1, vx_Zq.narrow h.2.2.2.1 hAB, vx_Zq.narrow h.2.2.2.2.1 hAB, h.2.2.2.2.2⟩
def EV (D : va_G) (t : Nat → ClassId) (b : Nat) (U : State) : Prop := EVA D t (geA b) U
theorem EV.step {D : va_G} {t : Nat → ClassId} {b : Nat} {s U : State} {H : Heap} {locs : List Loc} (h : EV D t b s) (hW : s.WarmedH U.vm) (hU : U.heap = H) (hS : va_S (geA b) s.heap H locs) : EV D t b U := EVA.step h hW hU hS
theorem EV.blind {D : va_G} {t : Nat → ClassId} {b : Nat} {U : State} {g : JFrame} {mk : MethodId} {a : Array Value} (h : EV D t b U) : EV D t b (U.calling g mk a) := EVA.blind h
/-- a method's start and its end -/
def PM (D : va_G) (t : Nat → ClassId) (b : Nat) (σ : Sg) (av : List Value) : Array Value → State → Prop := va_Pc av (fun U => wd D t b σ U.heap ∧ EV D t b U)
def QG (D : va_G) (t : Nat → ClassId) (b : Nat) (σ' : Sg) (v : Option Value) : Array Value → State → Outcome → State → Prop := fun _ st oc u => (oc = .returned v ∧ wd D t b σ' u.heap) ∧ va_F (geA b) st u
theorem PM_blind {D : va_G} {t : Nat → ClassId} {b : Nat} {σ : Sg} {av : List Value} : FrameBlind (PM D t b σ av) := fun a U g mk q => by
  obtain ⟨q0, q1, q2⟩ := q
  exact ⟨q0, q1, EV.blind q2⟩

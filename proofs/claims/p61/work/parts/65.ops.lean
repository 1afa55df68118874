/-! the other orders keep the bounds -/
theorem W_builds {f : Nat → Int32} {p kd pr rf : Int32} {N : Nat} (hw : WB f) (hm : Mo f) (hq : QB f N) (h6 : nS f ≤ 6) (hp : vp_in p 12) (hkd : vp_in kd 5) (hpr : vp_in pr 10) (hp0 : pr ≠ 0) (hrf : vp_in rf 2) : WB (s_builds f p kd pr rf) ∧ Mo (s_builds f p kd pr rf) ∧ QB (s_builds f p kd pr rf) N := by
  have h7 := hw.s7
  have n8 := nS_builds (p := p) (kd := kd) (pr := pr) (rf := rf) hw.ns
  have n9 := nC_builds (p := p) (kd := kd) (pr := pr) (rf := rf) (show nS f < 7 by omega)
  have o : ∀ i, i ≠ 8 → (i < 24 + 23 * nS f ∨ 24 + 23 * nS f + 23 ≤ i) → s_builds f p kd pr rf i = f i := fun i h1 h2 => s_builds_o h1 h2
  have v : ∀ w, w < 23 → s_builds f p kd pr rf (24 + 23 * nS f + w) = if w = 0 then p else if w = 1 then kd else if w = 2 then pr else if w = 3 then rf else if w = 6 then 1 else 0 := by
    intro w hw
    unfold s_builds s_stall
    rw [upd_n (by omega)]
    grind (splits := 40)
  have v8 : s_builds f p kd pr rf 8 = nI (nS f + 1) := by
    unfold s_builds
    rw [upd_s, ns_eq hw.ns (by omega), nI_1]
  refine ⟨⟨?_, ?_, ?_, ?_, fun h hh => ?_, fun s hs => ?_, fun k hk => ?_⟩, ?_, fun s hs => ?_⟩
  · rw [o _ (by omega) (by omega)]; exact hw.day
  · rw [o _ (by omega) (by omega)]; exact hw.rnd
  · rw [v8]; exact vp_in_nI (by omega) (by omega)
  · rw [o _ (by omega) (by omega)]; exact hw.nc
  · rw [o _ (by omega) (by omega)]; exact hw.rain h hh
  · rw [n8] at hs
    by_cases e : s = nS f
    · subst e
      refine ⟨?_, ?_, ?_, ?_, ?_, ?_, fun i hi => ?_⟩
      · rw [v 0 (by omega)]; exact hp
      · rw [v 1 (by omega)]; exact hkd
      · rw [v 2 (by omega)]; exact hpr
      · rw [v 2 (by omega)]; exact hp0
      · rw [v 3 (by omega)]; exact hrf
      · rw [v 6 (by omega)]
        show vp_in 1 2
        exact vp_lit (by decide)
      · rw [show 24 + 23 * nS f + 7 + i = 24 + 23 * nS f + (7 + i) by omega, v (7 + i) (by omega), if_neg (by omega), if_neg (by omega), if_neg (by omega), if_neg (by omega), if_neg (by omega)]
        exact vp_lit (by decide)
    · obtain ⟨a1, a2, a3, a4, a5, a6, a7⟩ := hw.st s (by omega)
      refine ⟨?_, ?_, ?_, ?_, ?_, ?_, fun i hi => ?_⟩
      all_goals rw [o _ (by omega) (by omega)]
      all_goals first
        | assumption
        | exact a7 i hi
  · rw [n9] at hk
    obtain ⟨a1, a2, a3, a4, a5, a6⟩ := hw.ch k hk
    refine ⟨?_, ?_, ?_, ?_, ?_, ?_⟩
    · rw [o _ (by omega) (by omega)]; exact a1
    · rw [o _ (by omega) (by omega)]; exact a2
    · rw [o _ (by omega) (by omega)]; exact a3
    · rw [o _ (by omega) (by omega), o _ (by omega) (by omega)]; exact a4
    · rw [o _ (by omega) (by omega)]; exact a5
    · rw [o _ (by omega) (by omega)]; exact a6
  · obtain ⟨a0, a1, a2, a3, a4, a5, a6, a7⟩ := hm
    have e4 : pS (s_builds f p kd pr rf) (nS f) = 0 := by
      unfold pS
      rw [v 4 (by omega)]
      rfl
    have eS : sm (pS (s_builds f p kd pr rf)) (nS (s_builds f p kd pr rf)) = sm (pS f) (nS f) := by
      rw [n8, sm, e4, sm_congr (h := pS f) (fun i hi => by unfold pS; rw [o _ (by omega) (by omega)])]
      omega
    have eC : sm (pC (s_builds f p kd pr rf)) (nC (s_builds f p kd pr rf)) = sm (pC f) (nC f) := by
      rw [n9]
      exact sm_congr (fun i hi => by unfold pC; rw [o _ (by omega) (by omega)])
    refine ⟨by rw [o _ (by omega) (by omega)]; exact a0, by rw [o _ (by omega) (by omega)]; exact a1, by rw [o _ (by omega) (by omega)]; exact a2, fun t ht => ?_, fun k hk => ?_, ?_, by rw [o _ (by omega) (by omega), n9]; exact a6, by rw [eC, o _ (by omega) (by omega), o _ (by omega) (by omega)]; exact a7⟩
    · rw [n8] at ht
      by_cases e : t = nS f
      · subst e; rw [e4]; exact Int.le_refl _
      · unfold pS; rw [o _ (by omega) (by omega)]; exact a3 t (by omega)
    · rw [n9] at hk
      unfold pC; rw [o _ (by omega) (by omega)]; exact a4 k hk
    · rw [eS, eC, o _ (by omega) (by omega), o _ (by omega) (by omega), o _ (by omega) (by omega), o _ (by omega) (by omega)]; exact a5
  · rw [n8] at hs
    by_cases e : s = nS f
    · subst e
      rw [v 5 (by omega)]
      exact vp_tI (x := 0) (by decide) (by rw [show (0 : Int32).toInt = 0 from by decide]; omega)
    · rw [o _ (by omega) (by omega)]; exact hq s (by omega)
/-! one stall's cells changed -/
theorem W_setP {f : Nat → Int32} {s : Nat} {p : Int32} (h : OKf f) (hs : s < nS f) (hp : vp_in p 10) (hp0 : p ≠ 0) : OKf (upd f (24 + 23 * s + 2) p) := by
  have h7 := h.1.s7
  have n8 : nS (upd f (24 + 23 * s + 2) p) = nS f := nS_upd (by omega)
  have n9 : nC (upd f (24 + 23 * s + 2) p) = nC f := nC_upd (by omega)
  have o : ∀ i, i ≠ 24 + 23 * s + 2 → upd f (24 + 23 * s + 2) p i = f i := fun i h1 => upd_n h1
  refine h.stall hs (fun i h1 h2 => o i (by omega)) ?_ (o _ (by omega)) ?_
  · obtain ⟨a1, a2, a3, a4, a5, a6, a7⟩ := h.1.st s hs
    refine ⟨?_, ?_, ?_, ?_, ?_, ?_, fun i hi => ?_⟩
    · rw [o _ (by omega)]; exact a1
    · rw [o _ (by omega)]; exact a2
    · rw [upd_s]; exact hp
    · rw [upd_s]; exact hp0
    · rw [o _ (by omega)]; exact a5
    · rw [o _ (by omega)]; exact a6
    · rw [o _ (by omega)]; exact a7 i hi
  · exact h.2.1.frame (o _ (by omega)) (o _ (by omega)) (o _ (by omega)) (o _ (by omega)) (o _ (by omega)) n8 n9 (fun t ht => o _ (by omega)) (fun k hk => o _ (by omega))
theorem turn_in {x : Int32} (h : vp_in x 2) : vp_in (1 - x) 2 := by
  obtain ⟨j, hj, rfl⟩ := vp_ex h (by omega)
  rw [show (1 : Int32) = nI 1 from rfl, pk_sub (by omega)]
  exact vp_in_nI (by omega) (by omega)
theorem W_turn {f : Nat → Int32} {s : Nat} (h : OKf f) (hs : s < nS f) : OKf (upd f (24 + 23 * s + 6) (1 - f (24 + 23 * s + 6))) := by
  have h7 := h.1.s7
  have n8 : nS (upd f (24 + 23 * s + 6) (1 - f (24 + 23 * s + 6))) = nS f := nS_upd (by omega)
  have n9 : nC (upd f (24 + 23 * s + 6) (1 - f (24 + 23 * s + 6))) = nC f := nC_upd (by omega)
  have o : ∀ i, i ≠ 24 + 23 * s + 6 → upd f (24 + 23 * s + 6) (1 - f (24 + 23 * s + 6)) i = f i := fun i h1 => upd_n h1
  refine h.stall hs (fun i h1 h2 => o i (by omega)) ?_ (o _ (by omega)) ?_
  · obtain ⟨a1, a2, a3, a4, a5, a6, a7⟩ := h.1.st s hs
    refine ⟨?_, ?_, ?_, ?_, ?_, ?_, fun i hi => ?_⟩
    · rw [o _ (by omega)]; exact a1
    · rw [o _ (by omega)]; exact a2
    · rw [o _ (by omega)]; exact a3
    · rw [o _ (by omega)]; exact a4
    · rw [o _ (by omega)]; exact a5
    · rw [upd_s]; exact turn_in a6
    · rw [o _ (by omega)]; exact a7 i hi
  · exact h.2.1.frame (o _ (by omega)) (o _ (by omega)) (o _ (by omega)) (o _ (by omega)) (o _ (by omega)) n8 n9 (fun t ht => o _ (by omega)) (fun k hk => o _ (by omega))
theorem W_rains {f : Nat → Int32} {i : Nat} {r : Int32} (h : OKf f) (hi : i < 10) (hr : vp_in r 10) : OKf (upd f (14 + i) r) := by
  have h7 := h.1.s7
  have n8 : nS (upd f (14 + i) r) = nS f := nS_upd (by omega)
  have n9 : nC (upd f (14 + i) r) = nC f := nC_upd (by omega)
  have o : ∀ j, j ≠ 14 + i → upd f (14 + i) r j = f j := fun j h1 => upd_n h1
  refine h.of ⟨?_, ?_, ?_, ?_, fun j hj => ?_, fun s hs => ?_, fun k hk => ?_⟩ ?_ (o _ (by omega)) (o _ (by omega)) n8 (fun t ht => o _ (by omega))
  · rw [o _ (by omega)]; exact h.1.day
  · rw [o _ (by omega)]; exact h.1.rnd
  · rw [o _ (by omega)]; exact h.1.ns
  · rw [o _ (by omega)]; exact h.1.nc
  · by_cases e : j = i
    · subst e; rw [upd_s]; exact hr
    · rw [o _ (by omega)]; exact h.1.rain j hj
  · rw [n8] at hs
    obtain ⟨a1, a2, a3, a4, a5, a6, a7⟩ := h.1.st s hs
    refine ⟨?_, ?_, ?_, ?_, ?_, ?_, fun i hi => ?_⟩
    all_goals rw [o _ (by omega)]
    all_goals first
      | assumption
      | exact a7 i hi
  · rw [n9] at hk
    obtain ⟨a1, a2, a3, a4, a5, a6⟩ := h.1.ch k hk
    refine ⟨?_, ?_, ?_, ?_, ?_, ?_⟩
    · rw [o _ (by omega)]; exact a1
    · rw [o _ (by omega)]; exact a2
    · rw [o _ (by omega)]; exact a3
    · rw [o _ (by omega), o _ (by omega)]; exact a4
    · rw [o _ (by omega)]; exact a5
    · rw [o _ (by omega)]; exact a6
  · exact h.2.1.frame (o _ (by omega)) (o _ (by omega)) (o _ (by omega)) (o _ (by omega)) (o _ (by omega)) n8 n9 (fun t ht => o _ (by omega)) (fun k hk => o _ (by omega))
theorem W_coll {f : Nat → Int32} {s : Nat} (h : OKf f) (hs : s < nS f) : OKf (s_coll f s) := by
  have h7 := h.1.s7
  have hB := h.2.1.bounds h.1
  have o : ∀ i, i ≠ 0 → i ≠ 24 + 23 * s + 4 → s_coll f s i = f i := fun i h1 h2 => by unfold s_coll; rw [upd_n h2, upd_n h1]
  have v4 : s_coll f s (24 + 23 * s + 4) = 0 := by unfold s_coll; rw [upd_s]
  have v0 : s_coll f s 0 = f 0 + f (24 + 23 * s + 4) := by unfold s_coll; rw [upd_n (by omega), upd_s]
  obtain ⟨a0, a1, a2, a3, a4, a5, a6, a7⟩ := h.2.1
  have lS : (f (24 + 23 * s + 4)).toInt ≤ sm (pS f) (nS f) := sm_le (g := pS f) hs a3
  have s0 : 0 ≤ (f (24 + 23 * s + 4)).toInt := a3 s hs
  have i0 : (s_coll f s 0).toInt = (f 0).toInt + (f (24 + 23 * s + 4)).toInt := by rw [v0, tI_add (by omega) (by omega)]
  have i4 : pS (s_coll f s) s = pS f s + -(f (24 + 23 * s + 4)).toInt := by
    unfold pS
    rw [v4, show (0 : Int32).toInt = 0 from by decide]
    omega
  refine h.stall hs (fun i h1 h2 => o i (by omega) (by omega)) ?_ (o _ (by omega) (by omega)) ?_
  · obtain ⟨b1, b2, b3, b4, b5, b6, b7⟩ := h.1.st s hs
    refine ⟨?_, ?_, ?_, ?_, ?_, ?_, fun i hi => ?_⟩
    all_goals rw [o _ (by omega) (by omega)]
    all_goals first
      | assumption
      | exact b7 i hi
  · exact h.2.1.gen (s := s) (-(f (24 + 23 * s + 4)).toInt) hs (by unfold pS; omega) nS_coll (nC_coll (by omega)) i4 (fun t ht hn => o _ (by omega) (by omega)) (fun k hk => o _ (by omega) (by omega)) (o _ (by omega) (by omega)) (o _ (by omega) (by omega)) (by omega) (by rw [o _ (by omega) (by omega)]; exact a1) (by rw [o _ (by omega) (by omega)]; exact a2) (by rw [i0, o 1 (by omega) (by omega), o 2 (by omega) (by omega)]; omega)
theorem sm_del {g h : Nat → Int} {s : Nat} : ∀ {n : Nat}, s ≤ n → (∀ i, i < n → h i = if i < s then g i else g (i + 1)) → sm h n = sm g (n + 1) - g s := by
  intro n
  induction n with
  | zero =>
    intro e _
    have : s = 0 := by omega
    subst this
    rw [sm, sm, sm]
    omega
  | succ n ih =>
    intro e o
    by_cases q : s = n + 1
    · rw [sm_congr (g := h) (h := g) (fun i hi => by rw [o i hi, if_pos (by omega)]), q]
      conv => rhs; rw [sm]
      omega
    · rw [sm, ih (by omega) (fun i hi => o i (by omega)), o n (by omega), if_neg (by omega)]
      conv => rhs; rw [sm]
      omega
theorem W_down {f : Nat → Int32} {s : Nat} (h : OKf f) (hs : s < nS f) : OKf (s_down f s) := by
  have h7 := h.1.s7
  have hB := h.2.1.bounds h.1
  have d8 := nS_down (s := s) h.1.ns (by omega)
  have d9 := nC_down h7 hs
  have o : ∀ i, i ≠ 0 → i ≠ 8 → (i < 24 + 23 * s ∨ 24 + 23 * (nS f - 1) ≤ i) → s_down f s i = f i := fun i h1 h2 h3 => s_down_o h1 h2 h3
  have v0 : s_down f s 0 = f 0 + f (24 + 23 * s + 4) := by unfold s_down; rw [if_pos rfl]
  have v8 : s_down f s 8 = nI (nS f - 1) := by
    unfold s_down
    rw [if_neg (by omega), if_pos rfl, ns_eq h.1.ns (by omega), show (1 : Int32) = nI 1 from rfl, pk_sub (by omega)]
  obtain ⟨a0, a1, a2, a3, a4, a5, a6, a7⟩ := h.2.1
  have lS : (f (24 + 23 * s + 4)).toInt ≤ sm (pS f) (nS f) := sm_le (g := pS f) hs a3
  have s0 : 0 ≤ (f (24 + 23 * s + 4)).toInt := a3 s hs
  have i0 : (s_down f s 0).toInt = (f 0).toInt + (f (24 + 23 * s + 4)).toInt := by rw [v0, tI_add (by omega) (by omega)]
  have key : ∀ t, t < nS f - 1 → ∃ q, q < nS f ∧ (q = if t < s then t else t + 1) ∧ ∀ w, w < 23 → s_down f s (24 + 23 * t + w) = f (24 + 23 * q + w) := by
    intro t ht
    by_cases e : t < s
    · exact ⟨t, by omega, by rw [if_pos e], fun w hw => o _ (by omega) (by omega) (by omega)⟩
    · exact ⟨t + 1, by omega, by rw [if_neg e], fun w hw => s_down_s (by omega) (by omega) hw⟩
  have e6 : s_down f s 6 = f 6 := o _ (by omega) (by omega) (by omega)
  have e7 : s_down f s 7 = f 7 := o _ (by omega) (by omega) (by omega)
  refine ⟨⟨?_, ?_, ?_, ?_, fun h' hh => ?_, fun t ht => ?_, fun k hk => ?_⟩, ?_, by rw [e7]; exact h.2.2.1, fun t ht => ?_, by rw [tm_of e6 e7]; exact h.2.2.2.2.1, by rw [d8]; have := h.2.2.2.2.2; omega⟩
  · rw [e6]; exact h.1.day
  · rw [e7]; exact h.1.rnd
  · rw [v8]; exact vp_in_nI (by omega) (by omega)
  · rw [o _ (by omega) (by omega) (by omega)]; exact h.1.nc
  · rw [o _ (by omega) (by omega) (by omega)]; exact h.1.rain h' hh
  · rw [d8] at ht
    obtain ⟨q, hq, -, e⟩ := key t ht
    obtain ⟨b1, b2, b3, b4, b5, b6, b7⟩ := h.1.st q hq
    refine ⟨?_, ?_, ?_, ?_, ?_, ?_, fun i hi => ?_⟩
    · rw [e 0 (by omega)]; exact b1
    · rw [e 1 (by omega)]; exact b2
    · rw [e 2 (by omega)]; exact b3
    · rw [e 2 (by omega)]; exact b4
    · rw [e 3 (by omega)]; exact b5
    · rw [e 6 (by omega)]; exact b6
    · have := b7 i hi
      rw [Nat.add_assoc] at this ⊢
      rw [e (7 + i) (by omega)]; exact this
  · rw [d9] at hk
    obtain ⟨b1, b2, b3, b4, b5, b6⟩ := h.1.ch k hk
    refine ⟨?_, ?_, ?_, ?_, ?_, ?_⟩
    · rw [o _ (by omega) (by omega) (by omega)]; exact b1
    · rw [o _ (by omega) (by omega) (by omega)]; exact b2
    · rw [o _ (by omega) (by omega) (by omega)]; exact b3
    · rw [o _ (by omega) (by omega) (by omega), o _ (by omega) (by omega) (by omega)]; exact b4
    · rw [o _ (by omega) (by omega) (by omega)]; exact b5
    · rw [o _ (by omega) (by omega) (by omega)]; exact b6
  · have eS := sm_del (g := pS f) (h := pS (s_down f s)) (s := s) (n := nS f - 1) (by omega) (fun t ht => by
      obtain ⟨q, hq, hq2, e⟩ := key t ht
      have e4 : pS (s_down f s) t = pS f q := by unfold pS; rw [e 4 (by omega)]
      rw [e4, hq2]
      split <;> rfl)
    rw [show nS f - 1 + 1 = nS f by omega] at eS
    have eC : sm (pC (s_down f s)) (nC f) = sm (pC f) (nC f) := sm_congr (fun i hi => by unfold pC; rw [o _ (by omega) (by omega) (by omega)])
    have x4 : pS f s = (f (24 + 23 * s + 4)).toInt := rfl
    refine ⟨by omega, by rw [o _ (by omega) (by omega) (by omega)]; exact a1, by rw [o _ (by omega) (by omega) (by omega)]; exact a2, fun t ht => ?_, fun k hk => ?_, ?_, by rw [o _ (by omega) (by omega) (by omega), d9]; exact a6, by rw [d9, eC, o 4 (by omega) (by omega) (by omega), o 3 (by omega) (by omega) (by omega)]; exact a7⟩
    · rw [d8] at ht
      obtain ⟨q, hq, -, e⟩ := key t ht
      unfold pS
      rw [e 4 (by omega)]
      exact a3 q hq
    · rw [d9] at hk
      unfold pC; rw [o _ (by omega) (by omega) (by omega)]; exact a4 k hk
    · rw [d8, d9, eS, eC, i0, o 1 (by omega) (by omega) (by omega), o 2 (by omega) (by omega) (by omega), o 3 (by omega) (by omega) (by omega)]; omega
  · rw [d8] at ht
    obtain ⟨q, hq, -, e⟩ := key t ht
    rw [tm_of e6 e7, e 5 (by omega)]
    exact h.2.2.2.1 q hq
theorem W_come {f : Nat → Int32} {p kd cl : Int32} (h : OKf f) (hk : nC f < 200) (hp : vp_in p 100) (hkd : vp_in kd 5) (hcl : vp_in cl 4) : OKf (s_comes f p kd cl) := by
  have h7 := h.1.s7
  obtain ⟨w1, w2⟩ := W_comes h.1 h.2.1 hk hp hkd hcl
  exact h.of w1 w2 (s_comes_o (by omega) (by omega) (by omega)) (s_comes_o (by omega) (by omega) (by omega)) nS_comes (fun s hs => s_comes_o (by omega) (by omega) (by omega))
/-! a stall paid for -/
def cst (r : Int32) : Int32 := if r = 0 then 30 else 50
def s_paid (f : Nat → Int32) (k : Int32) : Nat → Int32 := upd (upd f 0 (f 0 - k)) 2 (f 2 + k)
def s_pays (f : Nat → Int32) (p kd pr rf : Int32) : Nat → Int32 := s_builds (s_paid f (cst rf)) p kd pr (rfI rf)
theorem cst_in {r : Int32} : 30 ≤ (cst r).toInt ∧ (cst r).toInt ≤ 50 := by
  unfold cst
  split <;> decide
theorem rfI_in {r : Int32} : vp_in (rfI r) 2 := by
  unfold rfI
  split <;> exact vp_lit (by decide)
theorem rfI_id {r : Int32} (h : vp_in r 2) : rfI r = r := by
  obtain ⟨j, hj, rfl⟩ := vp_ex h (by omega)
  have : j = 0 ∨ j = 1 := by omega
  rcases this with rfl | rfl <;> rfl
theorem nS_paid {f : Nat → Int32} {k : Int32} : nS (s_paid f k) = nS f := by
  unfold s_paid
  rw [nS_upd (by omega), nS_upd (by omega)]
theorem W_pays {f : Nat → Int32} {p kd pr rf : Int32} (h : OKf f) (h6 : nS f < 6) (hb : cst rf ≤ f 0) (hp : vp_in p 12) (hkd : vp_in kd 5) (hpr : vp_in pr 10) (hp0 : pr ≠ 0) : OKf (s_pays f p kd pr rf) := by
  have hB := h.2.1.bounds h.1
  have hc := @cst_in rf
  rw [tI_le] at hb
  obtain ⟨k, hk⟩ : ∃ k, k = cst rf := ⟨_, rfl⟩
  unfold s_pays
  rw [← hk] at hb hc ⊢
  have n8 : nS (s_paid f k) = nS f := nS_paid
  have n9 : nC (s_paid f k) = nC f := by unfold s_paid; rw [nC_upd (by omega), nC_upd (by omega)]
  have o : ∀ i, i ≠ 0 → i ≠ 2 → s_paid f k i = f i := fun i h1 h2 => by unfold s_paid; rw [upd_n h2, upd_n h1]
  have v0 : s_paid f k 0 = f 0 - k := by unfold s_paid; rw [upd_n (by omega), upd_s]
  have v2 : s_paid f k 2 = f 2 + k := by unfold s_paid; rw [upd_s]
  obtain ⟨a0, a1, a2, a3, a4, a5, a6, a7⟩ := h.2.1
  have i0 : (s_paid f k 0).toInt = (f 0).toInt - k.toInt := by rw [v0, tI_sub (by omega) (by omega)]
  have i2 : (s_paid f k 2).toInt = (f 2).toInt + k.toInt := by rw [v2, tI_add (by omega) (by omega)]
  have hw : WB (s_paid f k) := by
    refine ⟨?_, ?_, ?_, ?_, fun j hj => ?_, fun s hs => ?_, fun q hq => ?_⟩
    · rw [o _ (by omega) (by omega)]; exact h.1.day
    · rw [o _ (by omega) (by omega)]; exact h.1.rnd
    · rw [o _ (by omega) (by omega)]; exact h.1.ns
    · rw [o _ (by omega) (by omega)]; exact h.1.nc
    · rw [o _ (by omega) (by omega)]; exact h.1.rain j hj
    · rw [n8] at hs
      obtain ⟨a1, a2, a3, a4, a5, a6, a7⟩ := h.1.st s hs
      refine ⟨?_, ?_, ?_, ?_, ?_, ?_, fun i hi => ?_⟩
      all_goals rw [o _ (by omega) (by omega)]
      all_goals first
        | assumption
        | exact a7 i hi
    · rw [n9] at hq
      obtain ⟨a1, a2, a3, a4, a5, a6⟩ := h.1.ch q hq
      refine ⟨?_, ?_, ?_, ?_, ?_, ?_⟩
      · rw [o _ (by omega) (by omega)]; exact a1
      · rw [o _ (by omega) (by omega)]; exact a2
      · rw [o _ (by omega) (by omega)]; exact a3
      · rw [o _ (by omega) (by omega), o _ (by omega) (by omega)]; exact a4
      · rw [o _ (by omega) (by omega)]; exact a5
      · rw [o _ (by omega) (by omega)]; exact a6
  have hm : Mo (s_paid f k) := by
    have eS : sm (pS (s_paid f k)) (nS f) = sm (pS f) (nS f) := sm_congr (fun i hi => by unfold pS; rw [o _ (by omega) (by omega)])
    have eC : sm (pC (s_paid f k)) (nC f) = sm (pC f) (nC f) := sm_congr (fun i hi => by unfold pC; rw [o _ (by omega) (by omega)])
    refine ⟨by omega, by rw [o _ (by omega) (by omega)]; exact a1, by omega, fun t ht => ?_, fun q hq => ?_, ?_, by rw [o 3 (by omega) (by omega), n9]; exact a6, by rw [n9, eC, o 4 (by omega) (by omega), o 3 (by omega) (by omega)]; exact a7⟩
    · rw [n8] at ht
      unfold pS; rw [o _ (by omega) (by omega)]; exact a3 t ht
    · rw [n9] at hq
      unfold pC; rw [o _ (by omega) (by omega)]; exact a4 q hq
    · rw [n8, n9, eS, eC, i0, i2, o 1 (by omega) (by omega), o 3 (by omega) (by omega)]; omega
  have e6 : s_builds (s_paid f k) p kd pr (rfI rf) 6 = f 6 := by rw [s_builds_o (by omega) (by omega), o _ (by omega) (by omega)]
  have e7 : s_builds (s_paid f k) p kd pr (rfI rf) 7 = f 7 := by rw [s_builds_o (by omega) (by omega), o _ (by omega) (by omega)]
  obtain ⟨b1, b2, b3⟩ := W_builds (p := p) (kd := kd) (pr := pr) (rf := rfI rf) (N := 200 * tm f) hw hm (fun s hs => by
    rw [n8] at hs
    rw [o _ (by omega) (by omega)]
    exact h.2.2.2.1 s hs) (by omega) hp hkd hpr hp0 rfI_in
  refine ⟨b1, b2, by rw [e7]; exact h.2.2.1, by rw [tm_of e6 e7]; exact b3, by rw [tm_of e6 e7]; exact h.2.2.2.2.1, ?_⟩
  rw [nS_builds hw.ns, n8]
  omega

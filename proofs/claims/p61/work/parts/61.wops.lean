/-! the orders keep the bounds -/
theorem s_shA_ge {f : Nat → Int32} {s : Nat} (h : ∀ i, i < 16 → vp_in (f (24 + 23 * s + 7 + i)) 41) : ∀ (d i : Nat) (a : Int32), i + d ≤ 16 → 0 ≤ a.toInt → a.toInt + 40 * d ≤ 1000 → a.toInt ≤ (s_shA f s d i a).toInt ∧ (s_shA f s d i a).toInt ≤ a.toInt + 40 * d ∧ ∀ j, i ≤ j → j < i + d → a.toInt + (f (24 + 23 * s + 7 + j)).toInt ≤ (s_shA f s d i a).toInt := by
  intro d
  induction d with
  | zero =>
    intro i a hi h0 h1
    exact ⟨Int.le_refl _, by rw [s_shA]; omega, fun j h1 h2 => by omega⟩
  | succ d ih =>
    intro i a hi h0 h1
    have hv := tI_vp (h i (by omega))
    have e : (a + f (24 + 23 * s + 7 + i)).toInt = a.toInt + (f (24 + 23 * s + 7 + i)).toInt := tI_add (by omega) (by omega)
    obtain ⟨b1, b2, b3⟩ := ih (i + 1) (a + f (24 + 23 * s + 7 + i)) (by omega) (by omega) (by omega)
    rw [s_shA]
    refine ⟨by omega, by omega, fun j h1 h2 => ?_⟩
    by_cases q : j = i
    · subst q; omega
    · have := b3 j (by omega) (by omega)
      omega
theorem s_onShelf_in {f : Nat → Int32} {s : Nat} (h : SW f s) : 0 ≤ (s_onShelf f s).toInt ∧ (s_onShelf f s).toInt ≤ 640 ∧ ∀ j, j < 16 → (f (24 + 23 * s + 7 + j)).toInt ≤ (s_onShelf f s).toInt := by
  obtain ⟨b1, b2, b3⟩ := s_shA_ge h.shelf 16 0 0 (by omega) (by decide) (by rw [show (0 : Int32).toInt = 0 from by decide]; omega)
  rw [show (0 : Int32).toInt = 0 from by decide] at b1 b2 b3
  refine ⟨b1, by unfold s_onShelf; omega, fun j hj => ?_⟩
  have := b3 j (by omega) (by omega)
  unfold s_onShelf
  omega
/-- a fair at rest -/
def OKf (f : Nat → Int32) : Prop := WB f ∧ Mo f ∧ vp_in (f 7) 40 ∧ QB f (200 * tm f) ∧ tm f < 400000 ∧ nS f ≤ 6
theorem tm_of {f g : Nat → Int32} (e6 : g 6 = f 6) (e7 : g 7 = f 7) : tm g = tm f := by unfold tm; rw [e6, e7]
theorem OKf.of {f g : Nat → Int32} (h : OKf f) (hw : WB g) (hm : Mo g) (e6 : g 6 = f 6) (e7 : g 7 = f 7) (hn : nS g = nS f) (hp : ∀ s, s < nS f → g (24 + 23 * s + 5) = f (24 + 23 * s + 5)) : OKf g := by
  obtain ⟨a1, a2, a3, a4, a5, a6⟩ := h
  refine ⟨hw, hm, by rw [e7]; exact a3, fun s hs => ?_, by rw [tm_of e6 e7]; exact a5, by omega⟩
  rw [hn] at hs
  rw [tm_of e6 e7, hp s hs]
  exact a4 s hs
/-- another stall's cells, or one of the first six -/
theorem OKf.stall {f g : Nat → Int32} {s : Nat} (h : OKf f) (hs : s < nS f) (ho : ∀ i, 6 ≤ i → (i < 24 + 23 * s ∨ 24 + 23 * s + 23 ≤ i) → g i = f i) (hS : SW g s) (hp : g (24 + 23 * s + 5) = f (24 + 23 * s + 5)) (hm : Mo g) : OKf g := by
  have h7 := h.1.s7
  have hw : WB g := h.1.two (nC f) s (fun i h1 _ h3 _ => ho i h1 h3) (fun _ => hS) (by omega) (fun q => by omega)
  refine h.of hw hm (ho _ (by omega) (by omega)) (ho _ (by omega) (by omega)) (by unfold nS; rw [ho 8 (by omega) (by omega)]) (fun t ht => ?_)
  by_cases e : t = s
  · subst e; exact hp
  · exact ho _ (by omega) (by omega)
theorem W_funds {f : Nat → Int32} {s : Nat} {p : Int32} (h : OKf f) (hs : s < nS f) (hp : vp_in p 100) (hb : p ≤ f 0) : OKf (s_funds f s p) := by
  have h7 := h.1.s7
  have hB := h.2.1.bounds h.1
  have hp' := tI_vp hp
  rw [tI_le] at hb
  have o : ∀ i, i ≠ 0 → i ≠ 24 + 23 * s + 4 → s_funds f s p i = f i := fun i h1 h2 => by unfold s_funds; rw [upd_n h2, upd_n h1]
  have v4 : s_funds f s p (24 + 23 * s + 4) = f (24 + 23 * s + 4) + p := by unfold s_funds; rw [upd_s]
  have v0 : s_funds f s p 0 = f 0 - p := by unfold s_funds; rw [upd_n (by omega), upd_s]
  obtain ⟨a0, a1, a2, a3, a4, a5, a6, a7⟩ := h.2.1
  have lS : (f (24 + 23 * s + 4)).toInt ≤ sm (pS f) (nS f) := sm_le (g := pS f) hs a3
  have s0 : 0 ≤ (f (24 + 23 * s + 4)).toInt := a3 s hs
  have i4 : (s_funds f s p (24 + 23 * s + 4)).toInt = (f (24 + 23 * s + 4)).toInt + p.toInt := by rw [v4, tI_add (by omega) (by omega)]
  have i0 : (s_funds f s p 0).toInt = (f 0).toInt - p.toInt := by rw [v0, tI_sub (by omega) (by omega)]
  have n8 : nS (s_funds f s p) = nS f := by unfold nS; rw [o 8 (by omega) (by omega)]
  have n9 : nC (s_funds f s p) = nC f := by unfold nC; rw [o 9 (by omega) (by omega)]
  refine h.stall hs (fun i h1 h2 => o i (by omega) (by omega)) ?_ (o _ (by omega) (by omega)) ?_
  · obtain ⟨a1, a2, a3, a4, a5, a6, a7⟩ := h.1.st s hs
    refine ⟨?_, ?_, ?_, ?_, ?_, ?_, fun i hi => ?_⟩
    all_goals rw [o _ (by omega) (by omega)]
    all_goals first
      | assumption
      | exact a7 i hi
  · have eS := sm_upd (g := pS f) (h := pS (s_funds f s p)) hs (fun i hi hj => by unfold pS; rw [o _ (by omega) (by omega)])
    have eC : sm (pC (s_funds f s p)) (nC f) = sm (pC f) (nC f) := sm_congr (fun i hi => by unfold pC; rw [o _ (by omega) (by omega)])
    have xS : pS (s_funds f s p) s = pS f s + p.toInt := i4
    refine ⟨by omega, by rw [o 1 (by omega) (by omega)]; exact a1, by rw [o 2 (by omega) (by omega)]; exact a2, fun t ht => ?_, fun k hk => ?_, ?_, by rw [o 3 (by omega) (by omega), n9]; exact a6, by rw [o 4 (by omega) (by omega), o 3 (by omega) (by omega), n9, eC]; exact a7⟩
    · rw [n8] at ht
      by_cases e : t = s
      · subst e; rw [xS]; have := a3 t ht; omega
      · unfold pS; rw [o _ (by omega) (by omega)]; exact a3 t ht
    · rw [n9] at hk
      unfold pC; rw [o _ (by omega) (by omega)]; exact a4 k hk
    · rw [n8, n9, eS, eC, xS, i0, o 1 (by omega) (by omega), o 2 (by omega) (by omega), o 3 (by omega) (by omega)]; omega

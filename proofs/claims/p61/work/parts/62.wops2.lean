theorem Mo.gen {f g : Nat → Int32} {s : Nat} (x : Int) (h : Mo f) (hs : s < nS f) (hp : 0 ≤ pS f s + x) (h8 : nS g = nS f) (h9 : nC g = nC f) (hS : pS g s = pS f s + x) (ho : ∀ t, t < nS f → t ≠ s → g (24 + 23 * t + 4) = f (24 + 23 * t + 4)) (hc : ∀ k, k < nC f → g (185 + 8 * k + 0) = f (185 + 8 * k + 0)) (h3 : g 3 = f 3) (h4 : g 4 = f 4) (h0 : 0 ≤ (g 0).toInt) (h1 : 0 ≤ (g 1).toInt) (h2 : 0 ≤ (g 2).toInt) (hz : (g 0).toInt + (g 1).toInt + (g 2).toInt = (f 0).toInt + (f 1).toInt + (f 2).toInt - x) : Mo g := by
  obtain ⟨a0, a1, a2, a3, a4, a5, a6, a7⟩ := h
  have eS := sm_upd (g := pS f) (h := pS g) hs (fun t ht hn => by unfold pS; rw [ho t ht hn])
  have eC : sm (pC g) (nC g) = sm (pC f) (nC f) := by
    rw [h9]
    exact sm_congr (fun k hk => by unfold pC; rw [hc k hk])
  refine ⟨h0, h1, h2, fun t ht => ?_, fun k hk => ?_, ?_, by rw [h3, h9]; exact a6, by rw [h4, h3, eC]; exact a7⟩
  · rw [h8] at ht
    by_cases e : t = s
    · subst e; rw [hS]; omega
    · unfold pS; rw [ho t ht e]; exact a3 t ht
  · rw [h9] at hk
    unfold pC; rw [hc k hk]; exact a4 k hk
  · rw [h8, eS, eC, h3, hS]; omega
theorem s_cost_in {l : Int32} : 1 ≤ (s_cost l).toInt ∧ (s_cost l).toInt ≤ 10 := by
  unfold s_cost
  repeat' split
  all_goals decide
theorem tI_mul {x y : Int32} {n m : Nat} (hx : 0 ≤ x.toInt ∧ x.toInt ≤ n) (hy : 0 ≤ y.toInt ∧ y.toInt ≤ m) (h : n * m < 2 ^ 31) : (x * y).toInt = x.toInt * y.toInt ∧ 0 ≤ x.toInt * y.toInt ∧ x.toInt * y.toInt ≤ n * m := by
  have h1 : 0 ≤ x.toInt * y.toInt := Int.mul_nonneg hx.1 hy.1
  have h2 : x.toInt * y.toInt ≤ n * m := Int.mul_le_mul hx.2 hy.2 hy.1 (Int.natCast_nonneg n)
  refine ⟨?_, h1, h2⟩
  rw [Int32.toInt_mul]
  have h3 : ((n * m : Nat) : Int) < 2 ^ 31 := by exact_mod_cast h
  rw [Int.natCast_mul] at h3
  exact Int.bmod_eq_of_le (by omega) (by omega)
theorem W_stocks {f : Nat → Int32} {s l j : Nat} {q : Int32} (h : OKf f) (hs : s < nS f) (hl : l < 4) (hj : j < 4) (hq : 1 ≤ q.toInt ∧ q.toInt ≤ 40) (hsh : ¬ 40 < s_onShelf f s + q) (hb : q * s_cost (nI l) ≤ f (24 + 23 * s + 4)) : OKf (s_stocks f s l j q) := by
  have h7 := h.1.s7
  have hB := h.2.1.bounds h.1
  have hSs := h.1.st s hs
  have hc := @s_cost_in (nI l)
  obtain ⟨m1, m2, m3⟩ := tI_mul (x := q) (y := s_cost (nI l)) (n := 40) (m := 10) (by omega) (by omega) (by omega)
  obtain ⟨x, hx⟩ : ∃ x, x = q * s_cost (nI l) := ⟨_, rfl⟩
  rw [← hx] at hb m1
  rw [tI_le] at hb
  have o : ∀ i, i ≠ 2 → i ≠ 24 + 23 * s + 4 → i ≠ 24 + 23 * s + 7 + (4 * l + j) → s_stocks f s l j q i = f i := fun i h1 h2 h3 => by unfold s_stocks; rw [upd_n h3, upd_n h1, upd_n h2]
  have v4 : s_stocks f s l j q (24 + 23 * s + 4) = f (24 + 23 * s + 4) - x := by unfold s_stocks; rw [upd_n (by omega), upd_n (by omega), upd_s, hx]
  have v2 : s_stocks f s l j q 2 = f 2 + x := by unfold s_stocks; rw [upd_n (by omega), upd_s, hx]
  have vs : s_stocks f s l j q (24 + 23 * s + 7 + (4 * l + j)) = f (24 + 23 * s + 7 + (4 * l + j)) + q := by unfold s_stocks; rw [upd_s]
  obtain ⟨a0, a1, a2, a3, a4, a5, a6, a7⟩ := h.2.1
  have lS : (f (24 + 23 * s + 4)).toInt ≤ sm (pS f) (nS f) := sm_le (g := pS f) hs a3
  have s0 : 0 ≤ (f (24 + 23 * s + 4)).toInt := a3 s hs
  have i4 : (s_stocks f s l j q (24 + 23 * s + 4)).toInt = (f (24 + 23 * s + 4)).toInt + -x.toInt := by rw [v4, tI_sub (by omega) (by omega)]; omega
  have i2 : (s_stocks f s l j q 2).toInt = (f 2).toInt + x.toInt := by rw [v2, tI_add (by omega) (by omega)]
  have n8 : nS (s_stocks f s l j q) = nS f := by unfold nS; rw [o 8 (by omega) (by omega) (by omega)]
  have n9 : nC (s_stocks f s l j q) = nC f := by unfold nC; rw [o 9 (by omega) (by omega) (by omega)]
  refine h.stall hs (fun i h1 h2 => o i (by omega) (by omega) (by omega)) ?_ (o _ (by omega) (by omega) (by omega)) ?_
  · obtain ⟨g1, g2, g3⟩ := s_onShelf_in hSs
    obtain ⟨b1, b2, b3, b4, b5, b6, b7⟩ := hSs
    refine ⟨?_, ?_, ?_, ?_, ?_, ?_, fun i hi => ?_⟩
    · rw [o _ (by omega) (by omega) (by omega)]; exact b1
    · rw [o _ (by omega) (by omega) (by omega)]; exact b2
    · rw [o _ (by omega) (by omega) (by omega)]; exact b3
    · rw [o _ (by omega) (by omega) (by omega)]; exact b4
    · rw [o _ (by omega) (by omega) (by omega)]; exact b5
    · rw [o _ (by omega) (by omega) (by omega)]; exact b6
    · by_cases e : i = 4 * l + j
      · subst e
        have hv := tI_vp (b7 (4 * l + j) hi)
        have hle := g3 (4 * l + j) hi
        have es : (s_onShelf f s + q).toInt = (s_onShelf f s).toInt + q.toInt := tI_add (by omega) (by omega)
        have hsh' : (s_onShelf f s).toInt + q.toInt ≤ 40 := by
          rw [tI_lt, es, show (40 : Int32).toInt = 40 from by decide] at hsh
          omega
        have ev : (f (24 + 23 * s + 7 + (4 * l + j)) + q).toInt = (f (24 + 23 * s + 7 + (4 * l + j))).toInt + q.toInt := tI_add (by omega) (by omega)
        rw [vs]
        exact vp_tI (by omega) (by omega)
      · rw [o _ (by omega) (by omega) (by omega)]; exact b7 i hi
  · refine h.2.1.gen (s := s) (-x.toInt) hs (by unfold pS; omega) n8 n9 i4 (fun t ht hn => o _ (by omega) (by omega) (by omega)) (fun k hk => o _ (by omega) (by omega) (by omega)) (o _ (by omega) (by omega) (by omega)) (o _ (by omega) (by omega) (by omega)) (by rw [o _ (by omega) (by omega) (by omega)]; exact a0) (by rw [o _ (by omega) (by omega) (by omega)]; exact a1) (by omega) (by rw [o 0 (by omega) (by omega) (by omega), o 1 (by omega) (by omega) (by omega), i2]; omega)

theorem GR.ext {c : Nat} {σ0 : Sg} {f b b' : Nat → Int32} {σ : Sg} (h : GR c σ0 f b σ) (e : ∀ s, s < nS f → b s = b' s) : GR c σ0 f b' σ :=
  ⟨h.1, fun s hs => (h.2.1 s hs).trans (e s hs), h.2.2⟩
theorem c_freeA {c : Nat} : ∀ (d s n : Nat) (σ0 : Sg) (f b : Nat → Int32) (σ : Sg), GR c σ0 f b σ → vp_in (f 8) 8 → s + d = nS f → d < n → ∃ σ', l_X1_freeStalls_2 c n σ (nI s) = some σ' ∧ GR c σ0 f (fun t => if s ≤ t ∧ t < s + d then 0 else b t) σ' := by
  intro d
  induction d with
  | zero =>
    intro s n σ0 f b σ h h8 hk hn
    have h7 : nS f < 8 := tc_vp h8
    obtain ⟨m, rfl⟩ : ∃ m, n = m + 1 := ⟨n - 1, by omega⟩
    rw [l_X1_freeStalls_2.eq_2, h.1.r8, ns_eq h8 (by omega), if_pos (nI_le (by omega) (by omega))]
    refine ⟨_, rfl, h.ext (fun t ht => ?_)⟩
    rw [if_neg (by omega)]
  | succ d ih =>
    intro s n σ0 f b σ h h8 hk hn
    have h7 : nS f < 8 := tc_vp h8
    obtain ⟨m, rfl⟩ : ∃ m, n = m + 1 := ⟨n - 1, by omega⟩
    have h1 := h.busy (s := s) (v := 0) (by omega)
    rw [l_X1_freeStalls_2.eq_2, h.1.r8, ns_eq h8 (by omega), if_neg (nI_ge (by omega) (by omega)), gd_ok rfl (show s < 7 by omega) (by omega), sk_nI (by omega), st_eq, nI_1]
    obtain ⟨σ', x, g⟩ := ih (s + 1) m σ0 f _ _ h1 h8 (by omega) (by omega)
    refine ⟨σ', x, g.ext (fun t ht => ?_)⟩
    rw [upd_app]
    grind
theorem c_free {c : Nat} {σ0 : Sg} {f b : Nat → Int32} {σ : Sg} (h : FR c σ f) (hs : ∀ a, a < c ∨ c + 27 ≤ a → σ a = σ0 a) (h8 : vp_in (f 8) 8) : ∃ σ', f_X1_freeStalls c σ = some σ' ∧ GR c σ0 f (s_z7 b) σ' := by
  have h7 : nS f < 8 := tc_vp h8
  have h0 : GR c σ0 f (fun s => σ (c + 13 + 2 * s) 9) σ := ⟨h, fun _ _ => rfl, hs⟩
  obtain ⟨σ', x, g⟩ := c_freeA (nS f) 0 10000 σ0 f _ σ h0 h8 (by omega) (by omega)
  refine ⟨σ', x, g.ext (fun t ht => ?_)⟩
  unfold s_z7
  rw [if_pos (by omega), if_pos (by omega)]
theorem s_rain_next {f : Nat → Int32} {h : Nat} (hh : h < 10) : s_rain (s_next f) h = s_rain f h := by
  unfold s_rain
  rw [s_next_o (i := 6) (by omega) (by omega) (by omega), s_next_o (i := 14 + h) (by omega) (by omega) (by omega)]
theorem QB.next {f : Nat → Int32} {N : Nat} (h : QB f N) (hw : WB f) : QB (s_next f) N := by
  have h7 := hw.s7
  intro s hs
  rw [nS_next] at hs
  rw [s_next_o (by omega) (by omega) (by omega)]
  exact h s hs
theorem c_next {c : Nat} {σ0 : Sg} {f : Nat → Int32} {σ : Sg} (h : FR c σ f) (hs : ∀ a, a < c ∨ c + 27 ≤ a → σ a = σ0 a) (hw : WB f) (hd : ¬ s_due f = 0) : ∃ σ', f_X1_letNextIn c σ = some σ' ∧ FR c σ' (s_next f) ∧ ∀ a, a < c ∨ c + 27 ≤ a → σ' a = σ0 a := by
  have h0 : GR c σ0 f (fun s => σ (c + 13 + 2 * s) 9) σ := ⟨h, fun _ _ => rfl, hs⟩
  unfold f_X1_letNextIn
  rw [h.r9]
  obtain ⟨σ', x, g⟩ := c_add (p := 5 + ((7 * f 9) - (7 * f 9) / 25 * 25)) (kd := f 9 - f 9 / 5 * 5) (cl := f 9 - f 9 / 4 * 4) h0 hw (s_due_room hw hd)
  rw [x, b2_some]
  refine ⟨σ', rfl, ?_, g.2.2⟩
  unfold s_next
  rw [if_neg hd]
  exact g.1
theorem c_round {c n N : Nat} {x1 x2 : Int32} (hcc : c = 1 ∨ c = 28 ∨ c = 55) {σ0 : Sg} {f b : Nat → Int32} {σ : Sg} (h : FR c σ f) (hs : ∀ a, a < c ∨ c + 27 ≤ a → σ a = σ0 a) (hw : WB f) (hm : Mo f) (hr : vp_in (f 7) 40) (hq : QB f N) (hN : N + 200 < 100000000) (hx : ¬ x1 ≤ x2) : ∃ σ', l_X1_letPass_2 c (n + 1) σ x1 x2 = l_X1_letPass_2 c n σ' x1 (x2 + 1) ∧ FR c σ' (s_round f b).1 ∧ ∀ a, a < c ∨ c + 27 ≤ a → σ' a = σ0 a := by
  obtain ⟨e4, l4⟩ := rnd4 hr
  obtain ⟨nw, nm⟩ := W_next hw hm
  have hc := nw.c200
  have key : ∀ (T : Sg) (K : Sg → Int32 → Int32 → Option Sg), FR c T (s_next f) → (∀ a, a < c ∨ c + 27 ≤ a → T a = σ0 a) → ∃ σ', (b1 (f_X1_freeStalls c T) fun σ7 => b1 (f_X1_rainToday c σ7 ((σ7 c 7) / 4)) fun y8 => l_X1_letPass_42 K c 10000 σ7 x1 x2 y8 (σ7 (c + 4) 1)) = K σ' x1 (x2 + 1) ∧ FR c σ' (s_round f b).1 ∧ ∀ a, a < c ∨ c + 27 ≤ a → σ' a = σ0 a := by
    intro T K hT hTs
    obtain ⟨σ1, y1, g1⟩ := c_free (b := b) hT hTs nw.ns
    obtain ⟨ft, t1, t2, t3⟩ := g1.1.2.1
    have hsk := s_turns_skip (r := s_rain f ((f 7).toNatClampNeg / 4)) (f := s_next f) (b := s_z7 b) ft (nC (s_next f) - ft) 0 (fun j _ hj => t3 j (by omega))
    rw [show ft + (nC (s_next f) - ft) = nC (s_next f) by omega, show 0 + ft = ft by omega] at hsk
    obtain ⟨P, hP⟩ : ∃ P, P = s_turns (s_rain f ((f 7).toNatClampNeg / 4)) (nC (s_next f)) 0 (s_next f) (s_z7 b) := ⟨_, rfl⟩
    have ht := TW.turns (r := s_rain f ((f 7).toNatClampNeg / 4)) (nC (s_next f)) 0 (s_next f) (s_z7 b) nw nm (by omega)
    rw [← hP] at ht hsk
    have hW := W_turned ht (by rw [s_next_7]; exact hr)
    have es : s_round f b = (if upd P.1 7 (P.1 7 + 1) 7 = 40 then s_ends (upd P.1 7 (P.1 7 + 1)) else upd P.1 7 (P.1 7 + 1), P.2) := by rw [hP]; rfl
    rw [y1, b1_some, g1.1.r7, s_next_7, e4, c_rain g1.1 l4, b1_some, s_rain_next l4, t2]
    obtain ⟨σ2, g2, y2⟩ := c_turns (K := K) (r := s_rain f ((f 7).toNatClampNeg / 4)) (x1 := x1) (x2 := x2) hcc (nC (s_next f) - ft) ft 10000 N σ0 (s_next f) (s_z7 b) σ1 g1 nw nm (hq.next hw) (by omega) (by omega) (by omega)
    rw [← hsk] at g2 y2
    rw [y2, es, st_eq]
    dsimp only
    have g3 := g2.F (i := 7) (v := P.1 7 + 1) (by omega)
    obtain ⟨G, hG⟩ : ∃ G, G = upd P.1 7 (P.1 7 + 1) := ⟨_, rfl⟩
    rw [← hG] at hW g3 ⊢
    have h40 : G 7 < 40 ↔ ¬ G 7 = 40 := by
      obtain ⟨j, hj, ej⟩ := vp_ex hr (by omega)
      rw [hW.2.2, s_next_7, ej, nI_1, show (40 : Int32) = nI 40 from rfl, nI_ltI (by omega) (by omega), nI_eq (by omega) (by omega)]
      omega
    rw [g3.1.r7]
    by_cases h4 : G 7 = 40
    · rw [if_neg (fun q => (h40.mp q) h4), if_pos h4]
      obtain ⟨σ4, y4, g4⟩ := c_ends g3 hW.1 hW.2.1
      rw [y4, b1_some]
      exact ⟨σ4, rfl, g4.1, g4.2.2⟩
    · rw [if_pos (h40.mpr h4), if_neg h4]
      exact ⟨_, rfl, g3.1, g3.2.2⟩
  rw [l_X1_letPass_2.eq_2, if_neg hx, c_due h hw hr, b1_some]
  by_cases hd : s_due f = 0
  · rw [if_pos hd]
    have e : s_next f = f := by unfold s_next; rw [if_pos hd]
    exact key σ _ (by rw [e]; exact h) hs
  · rw [if_neg hd]
    obtain ⟨σ3, y3, g3, g4⟩ := c_next h hs hw hd
    rw [y3, b1_some]
    exact key σ3 _ g3 g4

theorem QB.upd7 {p : Nat → Int32} {N : Nat} {v : Int32} (h : QB p N) (h7 : nS p ≤ 7) : QB (upd p 7 v) N := by
  intro s hs
  rw [nS_upd (by omega)] at hs
  rw [upd_n (by omega)]
  exact h s hs
theorem nC_next {f : Nat → Int32} (hw : WB f) : nC f ≤ nC (s_next f) := by
  unfold s_next
  split
  · exact Nat.le_refl _
  · rw [nC_comes hw.nc]; omega
/-- a round: the bounds, and how far the day goes -/
theorem W_round {f b : Nat → Int32} {N : Nat} (hw : WB f) (hm : Mo f) (hr : vp_in (f 7) 40) (hq : QB f N) (hN : N + 200 < 100000000) (hd : (f 6).toInt < 10000) : WB (s_round f b).1 ∧ Mo (s_round f b).1 ∧ vp_in ((s_round f b).1 7) 40 ∧ QB (s_round f b).1 (N + 200) ∧ nS (s_round f b).1 = nS f ∧ nC f ≤ nC (s_round f b).1 ∧ (∃ j, j ≤ 200 ∧ (s_round f b).1 5 = f 5 + nI j) ∧ (((f 7).toNatClampNeg < 39 ∧ (s_round f b).1 7 = f 7 + 1 ∧ (s_round f b).1 6 = f 6) ∨ ((f 7).toNatClampNeg = 39 ∧ (s_round f b).1 7 = 0 ∧ (s_round f b).1 6 = f 6 + 1 ∧ ∀ k, k < nC (s_round f b).1 → (s_round f b).1 (185 + 8 * k + 4) = -1)) := by
  obtain ⟨nw, nm⟩ := W_next hw hm
  have hc := nw.c200
  have hn9 := nC_next hw
  obtain ⟨P, hP⟩ : ∃ P, P = s_turns (s_rain f ((f 7).toNatClampNeg / 4)) (nC (s_next f)) 0 (s_next f) (s_z7 b) := ⟨_, rfl⟩
  have ht := TW.turns (r := s_rain f ((f 7).toNatClampNeg / 4)) (nC (s_next f)) 0 (s_next f) (s_z7 b) nw nm (by omega)
  rw [← hP] at ht
  have hW := W_turned ht (by rw [s_next_7]; exact hr)
  have es : s_round f b = (if upd P.1 7 (P.1 7 + 1) 7 = 40 then s_ends (upd P.1 7 (P.1 7 + 1)) else upd P.1 7 (P.1 7 + 1), P.2) := by rw [hP]; rfl
  have hQ := ((hq.next hw).tw ht (by omega)).mono (M := N + 200) (by omega)
  have hQ2 := hQ.upd7 (v := P.1 7 + 1) ht.1.s7
  have g6 : upd P.1 7 (P.1 7 + 1) 6 = f 6 := by rw [upd_n (by omega), ht.2.2.1.2.1, s_next_o (by omega) (by omega) (by omega)]
  have g5 : ∃ j, j ≤ 200 ∧ upd P.1 7 (P.1 7 + 1) 5 = f 5 + nI j := by
    obtain ⟨j, hj, ej⟩ := ht.2.2.2.2.1
    exact ⟨j, by omega, by rw [upd_n (by omega), ej, s_next_o (by omega) (by omega) (by omega)]⟩
  have g8 : nS (upd P.1 7 (P.1 7 + 1)) = nS f := by rw [nS_upd (by omega), ht.ns, nS_next]
  have g9 : nC (upd P.1 7 (P.1 7 + 1)) = nC (s_next f) := by rw [nC_upd (by omega), ht.nc]
  have g7 : upd P.1 7 (P.1 7 + 1) 7 = f 7 + 1 := by rw [hW.2.2, s_next_7]
  rw [es]
  dsimp only
  obtain ⟨G, hG⟩ : ∃ G, G = upd P.1 7 (P.1 7 + 1) := ⟨_, rfl⟩
  rw [← hG] at hW hQ2 g6 g5 g8 g9 g7 ⊢
  obtain ⟨j, hj, ej⟩ := vp_ex hr (by omega)
  have hcl : (f 7).toNatClampNeg = j := by rw [ej]; exact cl_nI (by omega)
  have h40 : G 7 = 40 ↔ j = 39 := by
    rw [g7, ej, nI_1, show (40 : Int32) = nI 40 from rfl, nI_eq (by omega) (by omega)]
    omega
  by_cases h4 : G 7 = 40
  · rw [if_pos h4]
    obtain ⟨w1, w2, w3, w5, w6, w7, w8, w9, wr, wp, wa⟩ := W_ends hW.1 hW.2.1 (by rw [g6]; exact hd)
    have m8 : nS (s_ends G) = nS f := by rw [← g8]; unfold nS; rw [w8]
    have m9 : nC (s_ends G) = nC G := by unfold nC; rw [w9]
    refine ⟨w1, w2, by rw [w7]; exact vp_lit (by decide), fun s hs => ?_, m8, by omega, by rw [w5]; exact g5, Or.inr ⟨by rw [hcl]; exact h40.mp h4, w7, by rw [w6, g6], fun k hk => wa k (by omega)⟩⟩
    rw [wp s (by omega)]
    exact hQ2 s (by omega)
  · rw [if_neg h4]
    have hj9 : j ≠ 39 := fun q => h4 (h40.mpr q)
    refine ⟨hW.1, hW.2.1, ?_, hQ2, g8, by omega, g5, Or.inl ⟨by omega, g7, g6⟩⟩
    rw [g7, ej, nI_1]
    exact vp_in_nI (by omega) (by omega)

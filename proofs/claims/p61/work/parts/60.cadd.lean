theorem s_builds_o {f : Nat → Int32} {p kd pr rf : Int32} {i : Nat} (h8 : i ≠ 8) (hb : i < 24 + 23 * nS f ∨ 24 + 23 * nS f + 23 ≤ i) : s_builds f p kd pr rf i = f i := by
  unfold s_builds s_stall
  rw [upd_n h8, if_neg (by omega), if_neg (by omega), if_neg (by omega), if_neg (by omega), if_neg (by omega), if_neg (by omega)]
theorem nC_builds {f : Nat → Int32} {p kd pr rf : Int32} (h7 : nS f < 7) : nC (s_builds f p kd pr rf) = nC f := by
  unfold nC
  rw [s_builds_o (by omega) (by omega)]
theorem nS_builds {f : Nat → Int32} {p kd pr rf : Int32} (h8 : vp_in (f 8) 8) : nS (s_builds f p kd pr rf) = nS f + 1 := by
  have h := tc_vp h8
  have e : s_builds f p kd pr rf 8 = f 8 + 1 := by
    unfold s_builds
    rw [upd_s]
  have e2 : nS (s_builds f p kd pr rf) = (f 8 + 1).toNatClampNeg := by unfold nS; rw [e]
  rw [e2, ns_eq h8 (by omega), nI_1]
  exact cl_nI (by unfold nS; omega)
theorem c_addStall {c : Nat} {σ0 : Sg} {f : Nat → Int32} {σ : Sg} {p kd pr rf : Int32} (h : FR c σ f) (hs : ∀ a, a < c ∨ c + 27 ≤ a → σ a = σ0 a) (h8 : vp_in (f 8) 8) (h7 : nS f < 7) (hc : nC f ≤ 200) (hrf : vp_in rf 2) : ∃ σ', f_X1_addStall c σ p kd pr rf = some (nI (nS f), σ') ∧ FR c σ' (s_builds f p kd pr rf) ∧ ∀ a, a < c ∨ c + 27 ≤ a → σ' a = σ0 a := by
  have e8 : f 8 = nI (nS f) := ns_eq h8 (by omega)
  obtain ⟨T, hT⟩ : ∃ T, T = wr (s_obj σ (c + 13 + 2 * nS f) p kd pr rf) (c + 13 + 2 * nS f + 1) (fun j => if 0 ≤ j ∧ j < 16 then 0 else s_obj σ (c + 13 + 2 * nS f) p kd pr rf (c + 13 + 2 * nS f + 1) j) := ⟨_, rfl⟩
  have To : ∀ a, a ≠ c + 13 + 2 * nS f → a ≠ c + 13 + 2 * nS f + 1 → T a = σ a := fun a h1 h2 => by rw [hT, wr_n h2, s_obj_o h1]
  have Tv : ∀ i, T (c + 13 + 2 * nS f) i = if i = 8 then grt kd else if i = 7 then evr kd else if i = 6 then 0 else if i = 5 then 0 else if i = 4 then 1 else if i = 3 then rf else if i = 2 then pr else if i = 1 then kd else if i = 0 then p else σ (c + 13 + 2 * nS f) i := fun i => by rw [hT, wr_n (by omega), s_obj_v]
  have Ts : ∀ i, i < 16 → T (c + 13 + 2 * nS f + 1) i = 0 := fun i hi => by rw [hT, wr_s, if_pos (by omega)]
  have T10 : T c 10 = f 8 := by rw [To c (by omega) (by omega), h.r8]
  unfold f_X1_addStall
  rw [h.r8, e8, if_neg (show ¬ (6 : Int32) < nI (nS f) by rw [show (6 : Int32) = nI 6 from rfl, nI_ltI (by omega) (by omega)]; omega), gd_ok rfl (show nS f < 7 by omega) (by omega), sk_nI (by omega), c_setUp hrf, b1_some, ← hT, st_eq, T10, e8]
  refine ⟨_, rfl, ?_, ?_⟩
  · obtain ⟨r1, ⟨ft, r2, r3, r4⟩, r5, r6⟩ := h
    have n8 := nS_builds (p := p) (kd := kd) (pr := pr) (rf := rf) h8
    have n9 := nC_builds (p := p) (kd := kd) (pr := pr) (rf := rf) h7
    refine ⟨fun j hj => ?_, ⟨ft, by omega, ?_, fun k hk => ?_⟩, fun k hk => ?_, fun t ht => ?_⟩
    · rw [fl_8, upd_app]
      rw [n8, n9] at hj
      by_cases j8 : j = 8
      · rw [if_pos j8, j8]
        unfold s_builds
        rw [upd_s, e8]
      · rw [if_neg j8]
        by_cases hb : j < 24 + 23 * nS f ∨ 24 + 23 * nS f + 23 ≤ j
        · rw [s_builds_o j8 hb, fl_st_ext (σ := σ) (fun a _ _ h3 h4 => To a h3 h4) h7 j (by unfold vld at hj; omega) hb]
          exact r1 j (by unfold vld at hj ⊢; omega)
        · obtain ⟨w, hw, rfl⟩ : ∃ w, w < 23 ∧ j = 24 + 23 * nS f + w := ⟨j - (24 + 23 * nS f), by omega, by omega⟩
          have es : s_builds f p kd pr rf (24 + 23 * nS f + w) = if w = 0 then p else if w = 1 then kd else if w = 2 then pr else if w = 3 then rf else if w = 6 then 1 else 0 := by
            unfold s_builds s_stall
            rw [upd_n (by omega)]
            grind (splits := 40)
          rw [es]
          by_cases w7 : w < 7
          · have : w = 0 ∨ w = 1 ∨ w = 2 ∨ w = 3 ∨ w = 4 ∨ w = 5 ∨ w = 6 := by omega
            rcases this with rfl | rfl | rfl | rfl | rfl | rfl | rfl
            · rw [fr_s0 h7, Tv]; rfl
            · rw [fr_s1 h7, Tv]; rfl
            · rw [fr_s2 h7, Tv]; rfl
            · rw [fr_s3 h7, Tv]; rfl
            · rw [fr_s4 h7, Tv]; rfl
            · rw [fr_s5 h7, Tv]; rfl
            · rw [fr_s6 h7, Tv]; rfl
          · rw [show 24 + 23 * nS f + w = 24 + 23 * nS f + 7 + (w - 7) by omega, fr_sh h7 (by omega), Ts _ (by omega), if_neg (by omega), if_neg (by omega), if_neg (by omega), if_neg (by omega), if_neg (by omega)]
    · rw [u2_cell (by omega), To _ (by omega) (by omega)]; exact r3
    · rw [s_builds_o (by omega) (by omega)]; exact r4 k hk
    · rw [n9] at hk
      rw [u2_cell (by omega), To _ (by omega) (by omega)]; exact r5 k hk
    · rw [n8] at ht
      rw [u2_cell (by omega)]
      by_cases e : t = nS f
      · subst e
        have ek : s_builds f p kd pr rf (24 + 23 * nS f + 1) = kd := by
          unfold s_builds s_stall
          rw [upd_n (by omega), if_neg (by omega), if_pos rfl]
        rw [ek, Tv, Tv]
        exact ⟨rfl, rfl⟩
      · rw [To _ (by omega) (by omega), s_builds_o (by omega) (by omega)]
        exact r6 t (by omega)
  · intro a ha
    rw [u2_cell (by omega), To a (by omega) (by omega)]
    exact hs a ha

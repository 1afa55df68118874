theorem c_add {c : Nat} {σ0 : Sg} {f b : Nat → Int32} {σ : Sg} {p kd cl : Int32} (h : GR c σ0 f b σ) (hw : WB f) (hk : nC f < 200) : ∃ σ', f_X1_letIn c σ p kd cl = some (nI (nC f), σ') ∧ GR c σ0 (s_comes f p kd cl) b σ' := by
  have h7 := hw.s7
  have e9 : f 9 = nI (nC f) := nc_eq hw.nc (by omega)
  have r9 := h.1.r9
  have r3 := h.1.r3
  unfold f_X1_letIn f_X0_add
  rw [r3, st_eq]
  have q9 : u2 σ c 3 (f 3 + p) (c + 4) 0 = nI (nC f) := by rw [u2_rc (by omega), r9, e9]
  rw [q9, if_neg (show ¬ (200 : Int32) ≤ nI (nC f) from nI_ge (a := nC f) (b := 200) (by omega) (by omega)), gd_ok rfl hk (by omega), cl_nI (by omega)]
  simp only [st_eq, b2_some]
  have q : u2 (u2 (u2 (u2 (u2 (u2 (u2 (u2 (u2 σ c 3 (f 3 + p)) (c + 4 + 1) (nC f) p) (c + 4 + 2) (nC f) 60) (c + 4 + 3) (nC f) kd) (c + 4 + 4) (nC f) cl) (c + 4 + 5) (nC f) 0) (c + 4 + 6) (nC f) 1) (c + 4 + 7) (nC f) 0) (c + 4 + 8) (nC f) 0 (c + 4) 0 = f 9 := by
    rw [u2_rc (by omega), u2_rc (by omega), u2_rc (by omega), u2_rc (by omega), u2_rc (by omega), u2_rc (by omega), u2_rc (by omega), u2_rc (by omega), u2_rc (by omega), r9]
  rw [q]
  refine ⟨_, rfl, ?_⟩
  obtain ⟨⟨r1, ⟨ft, r2, r3, r4⟩, r5, r6⟩, hb, hs⟩ := h
  have n9 := nC_comes (p := p) (kd := kd) (cl := cl) hw.nc
  have n8 := nS_comes (f := f) (p := p) (kd := kd) (cl := cl)
  refine ⟨⟨fun j hj => ?_, ⟨ft, by omega, ?_, fun k hk => ?_⟩, fun k hk => ?_, fun t ht => ?_⟩, fun t ht => ?_, fun a ha => ?_⟩
  · rw [fl_9, fl_c7, fl_c6, fl_c5, fl_c4, fl_c3, fl_c2, fl_c1, fl_c0, fl_F (by omega), hw_1]
    rw [n8, n9] at hj
    by_cases hv : vld (nS f) (nC f) j
    · have := r1 j hv
      unfold s_comes s_new
      simp only [upd_app]
      have hlt : j < 185 + 8 * nC f := by
        rcases hv with hv | hv <;> omega
      clear q q9 r4 r5 r6 hb hs hj hv
      grind (splits := 40)
    · unfold s_comes s_new
      simp only [upd_app]
      have : 185 + 8 * nC f ≤ j ∧ j < 185 + 8 * nC f + 8 := by
        unfold vld at hv hj
        omega
      clear q q9 r4 r5 r6 hb hs hj hv r1
      grind (splits := 40)
  · rw [u2_ri (by omega), u2_cell (by omega), u2_cell (by omega), u2_cell (by omega), u2_cell (by omega), u2_cell (by omega), u2_cell (by omega), u2_cell (by omega), u2_cell (by omega), u2_cell (by omega)]
    exact r3
  · rw [s_comes_o (by omega) (by omega) (by omega)]; exact r4 k hk
  · rw [n9] at hk
    rw [u2_cell (by omega), u2_cell (by omega), u2_cell (by omega)]
    by_cases e : k = nC f
    · subst e
      left
      rw [u2_rs]
    · rw [u2_ri e, u2_cell (by omega), u2_cell (by omega), u2_cell (by omega), u2_cell (by omega), u2_cell (by omega), u2_cell (by omega)]
      exact r5 k (by omega)
  · rw [n8] at ht
    rw [s_comes_o (by omega) (by omega) (by omega), u2_cell (by omega), u2_cell (by omega), u2_cell (by omega), u2_cell (by omega), u2_cell (by omega), u2_cell (by omega), u2_cell (by omega), u2_cell (by omega), u2_cell (by omega), u2_cell (by omega)]
    exact r6 t ht
  · rw [n8] at ht
    rw [u2_cell (by omega), u2_cell (by omega), u2_cell (by omega), u2_cell (by omega), u2_cell (by omega), u2_cell (by omega), u2_cell (by omega), u2_cell (by omega), u2_cell (by omega), u2_cell (by omega)]
    exact hb t ht
  · rw [u2_cell (by omega), u2_cell (by omega), u2_cell (by omega), u2_cell (by omega), u2_cell (by omega), u2_cell (by omega), u2_cell (by omega), u2_cell (by omega), u2_cell (by omega), u2_cell (by omega)]
    exact hs a ha
/-- one round -/
def s_next (f : Nat → Int32) : Nat → Int32 := if s_due f = 0 then f else s_comes f (5 + ((7 * f 9) - (7 * f 9) / 25 * 25)) (f 9 - f 9 / 5 * 5) (f 9 - f 9 / 4 * 4)
def s_z7 (b : Nat → Int32) : Nat → Int32 := fun s => if s < 7 then 0 else b s
def s_round (f b : Nat → Int32) : (Nat → Int32) × (Nat → Int32) :=
  let p := s_turns (s_rain f ((f 7).toNatClampNeg / 4)) (nC (s_next f)) 0 (s_next f) (s_z7 b)
  let g := upd p.1 7 (p.1 7 + 1)
  (if g 7 = 40 then s_ends g else g, p.2)
theorem s_due_room {f : Nat → Int32} (hw : WB f) (h : ¬ s_due f = 0) : nC f < 200 := by
  unfold s_due at h
  have h1 : ¬ s_room f = 0 := by
    intro e
    rw [if_pos e] at h
    exact h rfl
  unfold s_room at h1
  by_cases h2 : 200 ≤ f 9
  · rw [if_pos h2] at h1; exact absurd rfl h1
  · rw [nc_eq hw.nc (by omega), show (200 : Int32) = nI 200 from rfl, nI_leI (by omega) (by have := hw.c200; omega)] at h2
    omega
theorem s_next_args {f : Nat → Int32} (hw : WB f) : vp_in (5 + ((7 * f 9) - (7 * f 9) / 25 * 25)) 100 ∧ vp_in (f 9 - f 9 / 5 * 5) 5 ∧ vp_in (f 9 - f 9 / 4 * 4) 4 := by
  have hc := hw.c200
  rw [nc_eq hw.nc (by omega)]
  refine ⟨?_, ?_, ?_⟩
  · rw [show (7 : Int32) = nI 7 from rfl, pk_mul, show (25 : Int32) = nI 25 from rfl, pk_rem (by omega) (by omega) (by omega), show (5 : Int32) = nI 5 from rfl, nI_add]
    exact vp_in_nI (by have := Nat.mod_lt (7 * nC f) (show 0 < 25 by omega); omega) (by omega)
  · rw [show (5 : Int32) = nI 5 from rfl, pk_rem (by omega) (by omega) (by omega)]
    exact vp_in_nI (Nat.mod_lt _ (by omega)) (by omega)
  · rw [show (4 : Int32) = nI 4 from rfl, pk_rem (by omega) (by omega) (by omega)]
    exact vp_in_nI (Nat.mod_lt _ (by omega)) (by omega)
theorem W_next {f : Nat → Int32} (hw : WB f) (hm : Mo f) : WB (s_next f) ∧ Mo (s_next f) := by
  unfold s_next
  split
  · exact ⟨hw, hm⟩
  · rename_i h
    obtain ⟨a1, a2, a3⟩ := s_next_args hw
    exact W_comes hw hm (s_due_room hw h) a1 a2 a3
theorem s_next_o {f : Nat → Int32} {i : Nat} (h3 : i ≠ 3) (h9 : i < 185) (h : i ≠ 9) : s_next f i = f i := by
  unfold s_next
  split
  · rfl
  · exact s_comes_o h3 h (by omega)
theorem nS_next {f : Nat → Int32} : nS (s_next f) = nS f := by
  unfold nS
  rw [s_next_o (by omega) (by omega) (by omega)]

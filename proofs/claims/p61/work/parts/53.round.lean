theorem st_if {α : Type} {σ : Sg} {k : Sg → Option α} : st σ k = k σ := rfl
theorem s_z7_e {b : Nat → Int32} : (fun s => if 0 ≤ s ∧ s < 7 then 0 else b s) = s_z7 b := by
  funext s
  unfold s_z7
  by_cases h : s < 7
  · rw [if_pos ⟨Nat.zero_le _, h⟩, if_pos h]
  · rw [if_neg (fun q => h q.2), if_neg h]
/-- the row before the day's end: the round one on -/
theorem W_turned {f p : Nat → Int32} {n : Nat} (h : TW n f p) (hr : vp_in (f 7) 40) : WB (upd p 7 (p 7 + 1)) ∧ Mo (upd p 7 (p 7 + 1)) ∧ upd p 7 (p 7 + 1) 7 = f 7 + 1 := by
  obtain ⟨hw, hm, ⟨e3, e6, e7, e8, e9⟩, -⟩ := h
  have n8 : nS (upd p 7 (p 7 + 1)) = nS p := nS_upd (by omega)
  have n9 : nC (upd p 7 (p 7 + 1)) = nC p := nC_upd (by omega)
  have h7 := hw.s7
  obtain ⟨j, hj, ej⟩ := vp_ex hr (by omega)
  refine ⟨⟨?_, ?_, ?_, ?_, fun h hh => ?_, fun s hs => ?_, fun k hk => ?_⟩, ?_, ?_⟩
  · rw [upd_n (by omega)]; exact hw.day
  · rw [upd_s, e7, ej, nI_1]; exact vp_in_nI (by omega) (by omega)
  · rw [upd_n (by omega)]; exact hw.ns
  · rw [upd_n (by omega)]; exact hw.nc
  · rw [upd_n (by omega)]; exact hw.rain h hh
  · rw [n8] at hs
    obtain ⟨a1, a2, a3, a4, a5, a6, a7⟩ := hw.st s hs
    refine ⟨?_, ?_, ?_, ?_, ?_, ?_, fun i hi => ?_⟩
    all_goals rw [upd_n (by omega)]
    all_goals first
      | assumption
      | exact a7 i hi
  · rw [n9] at hk
    obtain ⟨a1, a2, a3, a4, a5, a6⟩ := hw.ch k hk
    refine ⟨?_, ?_, ?_, ?_, ?_, ?_⟩
    · rw [upd_n (by omega)]; exact a1
    · rw [upd_n (by omega)]; exact a2
    · rw [upd_n (by omega)]; exact a3
    · rw [upd_n (by omega), upd_n (show 185 + 8 * k + 5 ≠ 7 by omega)]; exact a4
    · rw [upd_n (by omega)]; exact a5
    · rw [upd_n (by omega)]; exact a6
  · exact hm.frame (upd_n (by omega)) (upd_n (by omega)) (upd_n (by omega)) (upd_n (by omega)) (upd_n (by omega)) n8 n9 (fun s hs => upd_n (by omega)) (fun k hk => upd_n (by omega))
  · rw [upd_s, e7]
theorem s_next_7 {f : Nat → Int32} : s_next f 7 = f 7 := s_next_o (by omega) (by omega) (by omega)

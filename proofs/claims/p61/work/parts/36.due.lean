def s_due (f : Nat → Int32) : Int32 := if s_room f = 0 then 0 else if f 7 - f 7 / 4 * 4 = 0 then (if s_rain f ((f 7).toNatClampNeg / 4) = 0 then 1 else if f 7 - f 7 / 8 * 8 = 0 then (if 1 ≤ s_rain f ((f 7).toNatClampNeg / 4) ∧ s_rain f ((f 7).toNatClampNeg / 4) ≤ 4 then 1 else 0) else 0) else 0
theorem rnd4 {f : Nat → Int32} (h : vp_in (f 7) 40) : f 7 / 4 = nI ((f 7).toNatClampNeg / 4) ∧ (f 7).toNatClampNeg / 4 < 10 := by
  have h1 := tc_vp h
  refine ⟨?_, by omega⟩
  have h2 := tc_eq h (by omega)
  rw [show f 7 / 4 = nI (f 7).toNatClampNeg / nI 4 from congrArg (· / (4 : Int32)) h2, pk_div (by omega) (by omega) (by omega)]
/-- an eighth is a fourth -/
theorem rnd8 {x : Int32} (h : vp_in x 40) (h8 : x - x / 8 * 8 = 0) : x - x / 4 * 4 = 0 := by
  obtain ⟨j, hj, rfl⟩ := vp_ex h (by omega)
  rw [show (8 : Int32) = nI 8 from rfl, pk_rem (by omega) (by omega) (by omega), show (0 : Int32) = nI 0 from rfl, nI_eq (by omega) (by omega)] at h8
  rw [show (4 : Int32) = nI 4 from rfl, pk_rem (by omega) (by omega) (by omega), show (0 : Int32) = nI 0 from rfl, nI_eq (by omega) (by omega)]
  omega
theorem s_rain_in {f : Nat → Int32} {h : Nat} (hw : WB f) (hh : h < 10) : vp_in (s_rain f h) 10 := by
  have h1 := tI_vp (hw.rain h hh)
  have e4 : (f (14 + h) + 4).toInt = (f (14 + h)).toInt + 4 := by rw [tI_add] <;> simp <;> omega
  unfold s_rain
  rw [Int32.add_zero]
  repeat' split
  · rename_i h3
    rw [tI_le] at h3
    exact vp_tI (by omega) (by rw [show (9 : Int32).toInt = 9 from by decide] at h3; omega)
  · exact vp_lit (by decide)
  · rename_i h3
    exact hw.rain h hh
  · exact vp_lit (by decide)
theorem c_due {c : Nat} {σ : Sg} {f : Nat → Int32} (hR : FR c σ f) (hw : WB f) (hr : vp_in (f 7) 40) : f_X1_childComesNext c σ = some (s_due f) := by
  obtain ⟨e4, l4⟩ := rnd4 hr
  have e8 := rnd8 hr
  have er := s_rain_in hw l4
  unfold f_X1_childComesNext s_due
  rw [hR.r7, e4, c_rain hR l4, b1_some, c_room hR hw.nc]
  simp only [b1_some]
  rw [← e4]
  generalize s_rain f _ = y at er ⊢
  obtain ⟨j, hj, rfl⟩ := vp_ex er (by omega)
  have h1 : (1 : Int32) ≤ nI j ↔ 1 ≤ j := by rw [show (1 : Int32) = nI 1 from rfl, nI_leI (by omega) (by omega)]
  have h2 : nI j ≤ (4 : Int32) ↔ j ≤ 4 := by rw [show (4 : Int32) = nI 4 from rfl, nI_leI (by omega) (by omega)]
  have h3 : (4 : Int32) < nI j ↔ 4 < j := by rw [show (4 : Int32) = nI 4 from rfl, nI_ltI (by omega) (by omega)]
  have h4 : nI j = 0 ↔ j = 0 := by rw [show (0 : Int32) = nI 0 from rfl, nI_eq (by omega) (by omega)]
  simp only [h1, h2, h3, h4]
  generalize s_room f = r
  grind

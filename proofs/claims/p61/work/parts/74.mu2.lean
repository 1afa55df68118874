/-! more calls that keep a record first -/
theorem up_vp {p : Int32} (h : up1 99 p) : vp_in p 100 := vp_tI (by unfold up1 at h; omega) (by unfold up1 at h; omega)
theorem le_vp {p k : Int32} {n : Nat} (hk : k.toInt = (n : Int) - 1) (h : vp_in p n) : p ≤ k := ((in0 hk).mpr h).2
theorem nle_vp {p k : Int32} {n : Nat} (hk : k.toInt = (n : Int) - 1) (h : ¬ vp_in p n) (h0 : ¬ p < 0) : ¬ p ≤ k := by
  intro q
  refine h ((in0 hk).mp ⟨?_, q⟩)
  rw [tI_lt] at h0
  rw [tI_le]
  omega
theorem up_ex {p : Int32} {k : Nat} (h : up1 k p) (hk : k ≤ 1000) : ∃ n, 1 ≤ n ∧ n ≤ k ∧ p = nI n := by
  obtain ⟨n, hn, e⟩ := vp_ex (x := p) (n := k + 1) (vp_tI (by unfold up1 at h; omega) (by unfold up1 at h; omega)) (by omega)
  refine ⟨n, ?_, by omega, e⟩
  have := h.1
  rw [e, nI_toInt (by omega)] at this
  omega
theorem sub_nI {x : Int32} {j : Nat} : x + nI j - x = nI j := by
  rw [Int32.add_comm, Int32.add_sub_cancel]

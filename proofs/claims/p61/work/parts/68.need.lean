/-! what there is: tests of the two sides -/
theorem in0 {v k : Int32} {n : Nat} (hk : k.toInt = (n : Int) - 1) : (0 ≤ v ∧ v ≤ k) ↔ vp_in v n := by
  rw [vp_in_iff, tI_le, tI_le, show (0 : Int32).toInt = 0 from by decide]
  omega
theorem gd_b {α : Type} {b : Prop} {d : Decidable b} {k : Int32 → Option α} : (gd (if b then 1 else 0) 2 (k (if b then 1 else 0))) = k (if b then 1 else 0) := by
  split
  · exact gd_in (vp_lit (by decide))
  · exact gd_in (vp_lit (by decide))
theorem ns_t {f : Nat → Int32} (h8 : vp_in (f 8) 8) : (f 8 - 1).toInt = (nS f : Int) - 1 := by
  have h := tc_vp h8
  have e : (f 8).toInt = (nS f : Int) := by
    rw [ns_eq h8 (by omega)]
    exact nI_toInt (by unfold nS; omega)
  rw [tI_sub, e]
  · rfl
  · rw [e, show (1 : Int32).toInt = 1 from by decide]; omega
  · rw [e, show (1 : Int32).toInt = 1 from by decide]; unfold nS; omega
theorem nc_t {f : Nat → Int32} (h9 : vp_in (f 9) 201) : (f 9 - 1).toInt = (nC f : Int) - 1 := by
  have h := tc_vp h9
  have e : (f 9).toInt = (nC f : Int) := by
    rw [nc_eq h9 (by omega)]
    exact nI_toInt (by unfold nC; omega)
  rw [tI_sub, e]
  · rfl
  · rw [e, show (1 : Int32).toInt = 1 from by decide]; omega
  · rw [e, show (1 : Int32).toInt = 1 from by decide]; unfold nC; omega
/-- 1 to 9, as a test -/
def pr9 (p : Int32) : Prop := 1 ≤ p.toInt ∧ p.toInt ≤ 9
theorem pr9_vp {p : Int32} (h : pr9 p) : vp_in p 10 ∧ p ≠ 0 := by
  refine ⟨vp_tI (by unfold pr9 at h; omega) (by unfold pr9 at h; omega), fun e => ?_⟩
  subst e
  exact absurd h.1 (by decide)
/-! the first side's tests -/
theorem lo_neg {p : Int32} {n : Nat} (h : vp_in p n) : ¬ p < 0 := by
  rw [vp_in_iff] at h
  rw [tI_lt, show (0 : Int32).toInt = 0 from by decide]
  omega
theorem hi_lt {p k : Int32} {n : Nat} (h : vp_in p n) (hk : k.toInt = (n : Int)) : p < k := by
  rw [vp_in_iff] at h
  rw [tI_lt, hk]
  omega
theorem hi_ge {p k : Int32} {n : Nat} (h : ¬ vp_in p n) (hk : k.toInt = (n : Int)) (h0 : ¬ p < 0) : ¬ p < k := by
  rw [vp_in_iff] at h
  rw [tI_lt, show (0 : Int32).toInt = 0 from by decide] at h0
  rw [tI_lt, hk]
  omega
theorem need_gen {p k : Int32} {n : Nat} (hk : k.toInt = (n : Int)) : (vp_in p n → (if p < 0 then (some (.inl 1)) else (if p < k then (some (.inr ())) else (some (.inl 1))) : Option (Nat ⊕ Unit)) = some (.inr ())) ∧ (¬ vp_in p n → (if p < 0 then (some (.inl 1)) else (if p < k then (some (.inr ())) else (some (.inl 1))) : Option (Nat ⊕ Unit)) = some (.inl 1)) := by
  refine ⟨fun h => ?_, fun h => ?_⟩
  · rw [if_neg (lo_neg h), if_pos (hi_lt h hk)]
  · by_cases h0 : p < 0
    · rw [if_pos h0]
    · rw [if_neg h0, if_neg (hi_ge h hk h0)]
theorem c_pitch1 {σ : Sg} {p : Int32} (h : vp_in p 12) : f_X4_needPitch σ p = some (.inr ()) := (need_gen (by decide)).1 h
theorem c_pitch0 {σ : Sg} {p : Int32} (h : ¬ vp_in p 12) : f_X4_needPitch σ p = some (.inl 1) := (need_gen (by decide)).2 h
theorem c_kind1 {σ : Sg} {p : Int32} (h : vp_in p 5) : f_X4_needKind σ p = some (.inr ()) := (need_gen (by decide)).1 h
theorem c_kind0 {σ : Sg} {p : Int32} (h : ¬ vp_in p 5) : f_X4_needKind σ p = some (.inl 1) := (need_gen (by decide)).2 h
theorem c_level1 {σ : Sg} {p : Int32} (h : vp_in p 4) : f_X4_needLevel σ p = some (.inr ()) := (need_gen (by decide)).1 h
theorem c_level0 {σ : Sg} {p : Int32} (h : ¬ vp_in p 4) : f_X4_needLevel σ p = some (.inl 1) := (need_gen (by decide)).2 h
theorem c_colour1 {σ : Sg} {p : Int32} (h : vp_in p 4) : f_X4_needColour σ p = some (.inr ()) := (need_gen (by decide)).1 h
theorem c_colour0 {σ : Sg} {p : Int32} (h : ¬ vp_in p 4) : f_X4_needColour σ p = some (.inl 1) := (need_gen (by decide)).2 h
theorem c_hour1 {σ : Sg} {p : Int32} (h : vp_in p 10) : f_X4_needHour σ p = some (.inr ()) := (need_gen (by decide)).1 h
theorem c_hour0 {σ : Sg} {p : Int32} (h : ¬ vp_in p 10) : f_X4_needHour σ p = some (.inl 1) := (need_gen (by decide)).2 h
theorem c_price1 {σ : Sg} {p : Int32} (h : pr9 p) : f_X4_needPrice σ p = some (.inr ()) := by
  unfold f_X4_needPrice
  rw [if_neg (by rw [tI_lt, show (1 : Int32).toInt = 1 from by decide]; unfold pr9 at h; omega), if_pos (by rw [tI_le, show (9 : Int32).toInt = 9 from by decide]; exact h.2)]
theorem c_price0 {σ : Sg} {p : Int32} (h : ¬ pr9 p) : f_X4_needPrice σ p = some (.inl 2) := by
  unfold f_X4_needPrice
  by_cases h0 : p < 1
  · rw [if_pos h0]
  · rw [if_neg h0, if_neg]
    intro q
    rw [tI_le, show (9 : Int32).toInt = 9 from by decide] at q
    rw [tI_lt, show (1 : Int32).toInt = 1 from by decide] at h0
    exact h ⟨by omega, q⟩
theorem ns_i {f : Nat → Int32} (h8 : vp_in (f 8) 8) : (f 8).toInt = (nS f : Int) := by
  have h := tc_vp h8
  rw [ns_eq h8 (by omega)]
  exact nI_toInt (by unfold nS; omega)
theorem nc_i {f : Nat → Int32} (h9 : vp_in (f 9) 201) : (f 9).toInt = (nC f : Int) := by
  have h := tc_vp h9
  rw [nc_eq h9 (by omega)]
  exact nI_toInt (by unfold nC; omega)
theorem c_has1 {c : Nat} {σ : Sg} {f : Nat → Int32} {p : Int32} (hR : FR c σ f) (h8 : vp_in (f 8) 8) (h : vp_in p (nS f)) : f_X1_hasStall c σ p = some 1 := by
  unfold f_X1_hasStall
  rw [hR.r8, if_neg (lo_neg h), if_neg]
  rw [tI_le, ns_i h8]
  have := vp_in_iff.mp h
  omega
theorem c_has0 {c : Nat} {σ : Sg} {f : Nat → Int32} {p : Int32} (hR : FR c σ f) (h8 : vp_in (f 8) 8) (h : ¬ vp_in p (nS f)) : f_X1_hasStall c σ p = some 0 := by
  unfold f_X1_hasStall
  by_cases h0 : p < 0
  · rw [if_pos h0]
  · rw [if_neg h0, hR.r8, if_pos]
    rw [tI_le, ns_i h8]
    rw [vp_in_iff] at h
    rw [tI_lt, show (0 : Int32).toInt = 0 from by decide] at h0
    omega
theorem bt_inr {α β : Type} {y : β} {k : β → Option (Nat ⊕ α)} : bt (some (.inr y)) k = k y := rfl
theorem bt_inl {α β : Type} {e : Nat} {k : β → Option (Nat ⊕ α)} : bt (some (.inl e)) k = some (.inl e) := rfl
theorem c_need1 {σ : Sg} {f : Nat → Int32} {p : Int32} (hR : FR 1 σ f) (h8 : vp_in (f 8) 8) (h : vp_in p (nS f)) : f_X4_needStall σ p = some (.inr ()) := by
  unfold f_X4_needStall
  rw [c_has1 hR h8 h, b1_some, if_neg (by decide)]
theorem c_need0 {σ : Sg} {f : Nat → Int32} {p : Int32} (hR : FR 1 σ f) (h8 : vp_in (f 8) 8) (h : ¬ vp_in p (nS f)) : f_X4_needStall σ p = some (.inl 1) := by
  unfold f_X4_needStall
  rw [c_has0 hR h8 h, b1_some, if_pos rfl]
theorem c_num1 {σ : Sg} {f : Nat → Int32} {s : Nat} (hR : FR 1 σ f) (h8 : vp_in (f 8) 8) (h : s < nS f) : f_X4_stallNumbered σ (nI s) = some (.inr (1 + 13 + 2 * s)) := by
  have h7 : nS f < 8 := tc_vp h8
  unfold f_X4_stallNumbered
  rw [c_need1 hR h8 (vp_in_nI h (by omega)), bt_inr, gd_ok rfl (show s < 7 by omega) (by omega), sk_nI (by omega)]
theorem c_num0 {σ : Sg} {f : Nat → Int32} {p : Int32} (hR : FR 1 σ f) (h8 : vp_in (f 8) 8) (h : ¬ vp_in p (nS f)) : f_X4_stallNumbered σ p = some (.inl 1) := by
  unfold f_X4_stallNumbered
  rw [c_need0 hR h8 h, bt_inl]
theorem c_nch1 {σ : Sg} {f : Nat → Int32} {p : Int32} (hR : FR 1 σ f) (h9 : vp_in (f 9) 201) (h : vp_in p (nC f)) : f_X4_needChild σ p = some (.inr ()) := by
  unfold f_X4_needChild
  rw [hR.r9, if_neg (lo_neg h), if_pos (hi_lt h (nc_i h9))]
theorem c_nch0 {σ : Sg} {f : Nat → Int32} {p : Int32} (hR : FR 1 σ f) (h9 : vp_in (f 9) 201) (h : ¬ vp_in p (nC f)) : f_X4_needChild σ p = some (.inl 1) := by
  unfold f_X4_needChild
  rw [hR.r9]
  by_cases h0 : p < 0
  · rw [if_pos h0]
  · rw [if_neg h0, if_neg (hi_ge h (nc_i h9) h0)]
theorem vp_s {p : Int32} {n : Nat} (h : vp_in p n) (hn : n ≤ 1000) : ∃ s, s < n ∧ p = nI s := vp_ex h (by omega)
/-! one call of a reader, on both sides -/
theorem z202 : (0 : Int32).toNatClampNeg = 0 := by decide
theorem dr_g {σ : Sg} (hI : IV σ) {y : Int32} {C : Option Int32} {X : Option (Int32 × Sg)} (h1 : C = some y) (h2 : X = some (y, u2 σ 193 10 0)) : ∃ σ', (b1 C fun y1 => b2 X fun y3 σ5 => if y1 = y3 then (some σ5) else (none)) = some σ' ∧ IV σ' := by
  refine ⟨u2 σ 193 10 0, ?_, hI.same (Same.u (by omega))⟩
  rw [h1, b1_some, h2, b2_some, if_pos rfl]

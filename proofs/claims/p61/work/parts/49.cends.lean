theorem s_rt_in {f : Nat → Int32} {s : Nat} (h : SW f s) : vp_in (s_rt f s) 9 := by
  obtain ⟨j, hj, e⟩ := vp_ex h.pitch (by omega)
  unfold s_rt
  rw [e, show (12 : Int32) = nI 12 from rfl, pk_sub (by omega), show (2 : Int32) = nI 2 from rfl, pk_div (by omega) (by omega) (by omega), nI_add]
  exact vp_in_nI (by omega) (by omega)
/-- what a stall pays -/
def s_due1 (f : Nat → Int32) (s : Nat) : Int32 := if s_rt f s ≤ f (24 + 23 * s + 4) then s_rt f s else f (24 + 23 * s + 4)
theorem s_rent1_e {f : Nat → Int32} {s : Nat} : s_rent1 f s = if f (24 + 23 * s + 6) = 1 then upd (upd (upd f (24 + 23 * s + 4) (f (24 + 23 * s + 4) - s_due1 f s)) (24 + 23 * s + 6) (if s_rt f s ≤ f (24 + 23 * s + 4) then 1 else 0)) 1 (f 1 + s_due1 f s) else f := by
  unfold s_rent1 s_due1
  split
  · split <;> rfl
  · rfl
theorem s_rent1_o {f : Nat → Int32} {s i : Nat} (h1 : i ≠ 24 + 23 * s + 4) (h2 : i ≠ 24 + 23 * s + 6) (h3 : i ≠ 1) : s_rent1 f s i = f i := by
  rw [s_rent1_e]
  split
  · rw [upd_n h3, upd_n h2, upd_n h1]
  · rfl
theorem Mo.move {f g : Nat → Int32} {s : Nat} {q : Int} (h : Mo f) (hs : s < nS f) (hq : 0 ≤ q) (hp : q ≤ pS f s) (h8 : nS g = nS f) (h9 : nC g = nC f) (hS : pS g s = pS f s - q) (ho : ∀ t, t < nS f → t ≠ s → pS g t = pS f t) (hc : ∀ k, k < nC f → pC g k = pC f k) (h3 : g 3 = f 3) (h4 : g 4 = f 4) (h0 : 0 ≤ (g 0).toInt) (h1 : 0 ≤ (g 1).toInt) (h2 : 0 ≤ (g 2).toInt) (hz : (g 0).toInt + (g 1).toInt + (g 2).toInt = (f 0).toInt + (f 1).toInt + (f 2).toInt + q) : Mo g := by
  obtain ⟨a0, a1, a2, a3, a4, a5, a6, a7⟩ := h
  have eS := sm_upd (g := pS f) (h := pS g) hs ho
  have eC : sm (pC g) (nC g) = sm (pC f) (nC f) := by
    rw [h9]
    exact sm_congr hc
  refine ⟨h0, h1, h2, fun t ht => ?_, fun k hk => ?_, ?_, by rw [h3, h9]; exact a6, by rw [h4, h3, eC]; exact a7⟩
  · rw [h8] at ht
    by_cases e : t = s
    · subst e; rw [hS]; omega
    · rw [ho t ht e]; exact a3 t ht
  · rw [h9] at hk
    rw [hc k hk]; exact a4 k hk
  · rw [h8, eS, eC, h3, hS]; omega
theorem TW.rent1 {f : Nat → Int32} {s : Nat} (hw : WB f) (hm : Mo f) (hs : s < nS f) : TW 0 f (s_rent1 f s) := by
  have h7 := hw.s7
  have hs7 : s < 7 := by omega
  have n8 : nS (s_rent1 f s) = nS f := nS_rent1
  have n9 : nC (s_rent1 f s) = nC f := by unfold nC; rw [s_rent1_o (by omega) (by omega) (by omega)]
  have hB := hm.bounds hw
  refine ⟨?_, ?_, ⟨?_, ?_, ?_, ?_, ?_⟩, fun h hh => ?_, ⟨0, Nat.le_refl _, ?_⟩, fun t ht => ⟨0, Nat.le_refl _, ?_⟩⟩
  · refine hw.two (nC f) s (fun i _ _ _ _ => s_rent1_o (by omega) (by omega) (by omega)) (fun _ => ?_) hs7 (fun h0 => by omega)
    obtain ⟨a1, a2, a3, a4, a5, a6, a7⟩ := hw.st s hs
    refine ⟨?_, ?_, ?_, ?_, ?_, ?_, fun i hi => ?_⟩
    · rw [s_rent1_o (by omega) (by omega) (by omega)]; exact a1
    · rw [s_rent1_o (by omega) (by omega) (by omega)]; exact a2
    · rw [s_rent1_o (by omega) (by omega) (by omega)]; exact a3
    · rw [s_rent1_o (by omega) (by omega) (by omega)]; exact a4
    · rw [s_rent1_o (by omega) (by omega) (by omega)]; exact a5
    · rw [s_rent1_e]
      split
      · rw [upd_n (by omega), upd_s]
        split
        · exact vp_lit (by decide)
        · exact vp_lit (by decide)
      · exact a6
    · rw [s_rent1_o (by omega) (by omega) (by omega)]; exact a7 i hi
  · have hr := tI_vp (s_rt_in (hw.st s hs))
    have s0 : 0 ≤ (f (24 + 23 * s + 4)).toInt := hm.2.2.2.1 s hs
    have lS : (f (24 + 23 * s + 4)).toInt ≤ sm (pS f) (nS f) := sm_le (g := pS f) hs hm.2.2.2.1
    have hq : 0 ≤ (s_due1 f s).toInt ∧ (s_due1 f s).toInt ≤ (f (24 + 23 * s + 4)).toInt := by
      unfold s_due1
      split
      · rename_i h; rw [tI_le] at h; exact ⟨hr.1, h⟩
      · exact ⟨s0, Int.le_refl _⟩
    by_cases h6 : f (24 + 23 * s + 6) = 1
    · have e4 : s_rent1 f s (24 + 23 * s + 4) = f (24 + 23 * s + 4) - s_due1 f s := by
        rw [s_rent1_e, if_pos h6, upd_n (by omega), upd_n (by omega), upd_s]
      have e1 : s_rent1 f s 1 = f 1 + s_due1 f s := by
        rw [s_rent1_e, if_pos h6, upd_s]
      have e0 : s_rent1 f s 0 = f 0 := s_rent1_o (by omega) (by omega) (by omega)
      have e2 : s_rent1 f s 2 = f 2 := s_rent1_o (by omega) (by omega) (by omega)
      have i1 : (s_rent1 f s 1).toInt = (f 1).toInt + (s_due1 f s).toInt := by
        have := hm.2.1
        rw [e1, tI_add (by omega) (by omega)]
      refine hm.move hs hq.1 hq.2 n8 n9 ?_ (fun t ht hn => ?_) (fun k hk => ?_) (s_rent1_o (by omega) (by omega) (by omega)) (s_rent1_o (by omega) (by omega) (by omega)) (by rw [e0]; exact hm.1) (by rw [i1]; have := hm.2.1; omega) (by rw [e2]; exact hm.2.2.1) (by rw [e0, e2, i1]; omega)
      · show (s_rent1 f s (24 + 23 * s + 4)).toInt = (f (24 + 23 * s + 4)).toInt - (s_due1 f s).toInt
        rw [e4, tI_sub (by omega) (by omega)]
      · unfold pS
        rw [s_rent1_o (by omega) (by omega) (by omega)]
      · unfold pC
        rw [s_rent1_o (by omega) (by omega) (by omega)]
    · rw [s_rent1_e, if_neg h6]; exact hm
  · exact s_rent1_o (by omega) (by omega) (by omega)
  · exact s_rent1_o (by omega) (by omega) (by omega)
  · exact s_rent1_o (by omega) (by omega) (by omega)
  · exact s_rent1_o (by omega) (by omega) (by omega)
  · exact s_rent1_o (by omega) (by omega) (by omega)
  · exact s_rent1_o (by omega) (by omega) (by omega)
  · rw [s_rent1_o (by omega) (by omega) (by omega)]; exact add_nI0
  · rw [s_rent1_o (by omega) (by omega) (by omega)]; exact add_nI0
theorem TW.rents : ∀ (d s : Nat) (f : Nat → Int32), WB f → Mo f → s + d ≤ nS f → TW 0 f (s_rents d s f) := by
  intro d
  induction d with
  | zero => intro s f hw hm _; exact TW.refl hw hm
  | succ d ih =>
    intro s f hw hm hs
    have h1 := TW.rent1 (s := s) hw hm (by omega)
    exact h1.trans (ih (s + 1) _ h1.1 h1.2.1 (by rw [h1.ns]; omega))
theorem jmin_e {x y : Int32} : jmin x y = if x ≤ y then x else y := by
  unfold jmin
  simp only [tI_lt, tI_le]
  by_cases h : y.toInt < x.toInt
  · rw [if_pos h, if_neg (by omega)]
  · rw [if_neg h, if_pos (by omega)]
theorem c_rent1 {c s : Nat} {σ0 : Sg} {f b : Nat → Int32} {σ : Sg} (h : GR c σ0 f b σ) (hw : WB f) (hs : s < nS f) (h6 : f (24 + 23 * s + 6) = 1) : ∃ σ', f_X1_payRent c (c + 13 + 2 * s) σ = some σ' ∧ GR c σ0 (s_rent1 f s) b σ' := by
  have h7 := hw.s7
  have hs7 : s < 7 := by omega
  unfold f_X1_payRent f_X3_rent
  rw [h.1.s0 hs h7, h.1.s4 hs h7]
  change ∃ σ', (b1 (some (s_rt f s)) fun y1 => b1 (some (s_rt f s)) fun y3 => _) = some σ' ∧ _
  rw [b1_some, b1_some]
  have e : s_rent1 f s = upd (upd (upd f (24 + 23 * s + 6) (if s_rt f s ≤ f (24 + 23 * s + 4) then 1 else 0)) (24 + 23 * s + 4) (f (24 + 23 * s + 4) - s_due1 f s)) 1 (f 1 + s_due1 f s) := by
    rw [s_rent1_e, if_pos h6]
    funext i
    simp only [upd_app]
    grind
  have ej : jmin (s_rt f s) (f (24 + 23 * s + 4)) = s_due1 f s := jmin_e
  rw [e, ej]
  have hlt : f (24 + 23 * s + 4) < s_rt f s ↔ ¬ s_rt f s ≤ f (24 + 23 * s + 4) := by
    rw [tI_lt, tI_le]; omega
  have key : ∀ o : Int32, ∃ σ', (st (u2 σ (c + 13 + 2 * s) 4 o) fun σ6 => st (u2 σ6 (c + 13 + 2 * s) 5 ((σ6 (c + 13 + 2 * s) 5) - s_due1 f s)) fun σ8 => st (u2 σ8 c 1 ((σ8 c 1) + s_due1 f s)) fun σ10 => some σ10) = some σ' ∧ GR c σ0 (upd (upd (upd f (24 + 23 * s + 6) o) (24 + 23 * s + 4) (f (24 + 23 * s + 4) - s_due1 f s)) 1 (f 1 + s_due1 f s)) b σ' := by
    intro o
    have h1 := h.s6 (s := s) (v := o) hs7
    rw [st_eq, st_eq, h1.1.s4 (by rw [nS_upd (by omega)]; omega) (by rw [nS_upd (by omega)]; omega), upd_n (by omega)]
    have h2 := h1.s4 (s := s) (v := f (24 + 23 * s + 4) - s_due1 f s) hs7
    rw [st_eq, h2.1.r1, upd_n (by omega), upd_n (by omega)]
    exact ⟨_, rfl, h2.F (i := 1) (by omega)⟩
  by_cases hr : s_rt f s ≤ f (24 + 23 * s + 4)
  · rw [if_neg (fun q => (hlt.mp q) hr), if_pos hr]
    exact key 1
  · rw [if_pos (hlt.mpr hr), if_neg hr]
    exact key 0

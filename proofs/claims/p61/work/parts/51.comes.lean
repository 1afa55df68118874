/-! a child comes -/
def s_new (f : Nat → Int32) (k : Nat) (p kd cl : Int32) : Nat → Int32 := fun i =>
  if i = 185 + 8 * k + 0 then p else if i = 185 + 8 * k + 1 then 60 else if i = 185 + 8 * k + 2 then kd else if i = 185 + 8 * k + 3 then cl
  else if 185 + 8 * k + 4 ≤ i ∧ i < 185 + 8 * k + 8 then 0 else f i
def s_comes (f : Nat → Int32) (p kd cl : Int32) : Nat → Int32 := upd (upd (s_new f (nC f) p kd cl) 9 (f 9 + 1)) 3 (f 3 + p)
def s_zA (k : Nat) : Nat → Nat → (Nat → Int32) → Nat → Int32
  | 0, _, f => f
  | d + 1, i, f => s_zA k d (i + 1) (upd f (185 + 8 * k + i) 0)
theorem s_zA_v {k : Nat} : ∀ (d i : Nat) (f : Nat → Int32) (j : Nat), s_zA k d i f j = if 185 + 8 * k + i ≤ j ∧ j < 185 + 8 * k + i + d then 0 else f j := by
  intro d
  induction d with
  | zero =>
    intro i f j
    rw [s_zA, if_neg (by omega)]
  | succ d ih =>
    intro i f j
    rw [s_zA, ih, upd_app]
    by_cases h1 : 185 + 8 * k + (i + 1) ≤ j ∧ j < 185 + 8 * k + (i + 1) + d
    · rw [if_pos h1, if_pos (by omega)]
    · rw [if_neg h1]
      by_cases h2 : j = 185 + 8 * k + i
      · rw [if_pos h2, if_pos (by omega)]
      · rw [if_neg h2, if_neg (by omega)]
theorem s_comes_o {f : Nat → Int32} {p kd cl : Int32} {i : Nat} (h3 : i ≠ 3) (h9 : i ≠ 9) (hb : i < 185 + 8 * nC f ∨ 185 + 8 * nC f + 8 ≤ i) : s_comes f p kd cl i = f i := by
  unfold s_comes s_new
  rw [upd_n h3, upd_n h9, if_neg (by omega), if_neg (by omega), if_neg (by omega), if_neg (by omega), if_neg (by omega)]
theorem nC_comes {f : Nat → Int32} {p kd cl : Int32} (h9 : vp_in (f 9) 201) : nC (s_comes f p kd cl) = nC f + 1 := by
  have h := tc_vp h9
  have e : s_comes f p kd cl 9 = f 9 + 1 := by
    unfold s_comes
    rw [upd_n (by omega), upd_s]
  have e2 : nC (s_comes f p kd cl) = (f 9 + 1).toNatClampNeg := by unfold nC; rw [e]
  rw [e2, nc_eq h9 (by omega), nI_1]
  exact cl_nI (by unfold nC; omega)
theorem nS_comes {f : Nat → Int32} {p kd cl : Int32} : nS (s_comes f p kd cl) = nS f := by
  unfold nS
  rw [s_comes_o (by omega) (by omega) (by omega)]
theorem W_comes {f : Nat → Int32} {p kd cl : Int32} (hw : WB f) (hm : Mo f) (hk : nC f < 200) (hp : vp_in p 100) (hkd : vp_in kd 5) (hcl : vp_in cl 4) : WB (s_comes f p kd cl) ∧ Mo (s_comes f p kd cl) := by
  have h7 := hw.s7
  have n9 := nC_comes (p := p) (kd := kd) (cl := cl) hw.nc
  have n8 := nS_comes (f := f) (p := p) (kd := kd) (cl := cl)
  have hp' := tI_vp hp
  have hB := hm.bounds hw
  have c0 : s_comes f p kd cl (185 + 8 * nC f + 0) = p := by
    unfold s_comes s_new
    rw [upd_n (by omega), upd_n (by omega), if_pos rfl]
  constructor
  · refine ⟨?_, ?_, ?_, ?_, fun h hh => ?_, fun s hs => ?_, fun k hkk => ?_⟩
    · rw [s_comes_o (by omega) (by omega) (by omega)]; exact hw.day
    · rw [s_comes_o (by omega) (by omega) (by omega)]; exact hw.rnd
    · rw [s_comes_o (by omega) (by omega) (by omega)]; exact hw.ns
    · have e : s_comes f p kd cl 9 = f 9 + 1 := by
        unfold s_comes
        rw [upd_n (by omega), upd_s]
      rw [e, nc_eq hw.nc (by omega), nI_1]
      exact vp_in_nI (by omega) (by omega)
    · rw [s_comes_o (by omega) (by omega) (by omega)]; exact hw.rain h hh
    · rw [n8] at hs
      obtain ⟨a1, a2, a3, a4, a5, a6, a7⟩ := hw.st s hs
      refine ⟨?_, ?_, ?_, ?_, ?_, ?_, fun i hi => ?_⟩
      all_goals rw [s_comes_o (by omega) (by omega) (by omega)]
      all_goals first
        | assumption
        | exact a7 i hi
    · rw [n9] at hkk
      by_cases e : k = nC f
      · subst e
        unfold s_comes s_new
        refine ⟨?_, ?_, ?_, ?_, ?_, ?_⟩
        all_goals simp only [upd_app]
        · rw [if_neg (by omega), if_neg (by omega), if_neg (by omega), if_pos trivial]; exact vp_lit (by decide)
        · rw [if_neg (by omega), if_neg (by omega), if_neg (by omega), if_neg (by omega), if_pos trivial]; exact hkd
        · rw [if_neg (by omega), if_neg (by omega), if_neg (by omega), if_neg (by omega), if_neg (by omega), if_pos trivial]; exact hcl
        · refine Or.inr ?_
          rw [if_neg (by omega), if_neg (by omega), if_neg (by omega), if_neg (by omega), if_neg (by omega), if_neg (by omega), if_pos (by omega)]; exact vp_lit (by decide)
        · rw [if_neg (by omega), if_neg (by omega), if_neg (by omega), if_neg (by omega), if_neg (by omega), if_neg (by omega), if_pos (by omega)]; exact vp_lit (by decide)
        · rw [if_neg (by omega), if_neg (by omega), if_neg (by omega), if_neg (by omega), if_neg (by omega), if_neg (by omega), if_pos (by omega)]; exact vp_lit (by decide)
      · obtain ⟨a1, a2, a3, a4, a5, a6⟩ := hw.ch k (by omega)
        refine ⟨?_, ?_, ?_, ?_, ?_, ?_⟩
        · rw [s_comes_o (by omega) (by omega) (by omega)]; exact a1
        · rw [s_comes_o (by omega) (by omega) (by omega)]; exact a2
        · rw [s_comes_o (by omega) (by omega) (by omega)]; exact a3
        · rw [s_comes_o (by omega) (by omega) (by omega), s_comes_o (i := 185 + 8 * k + 5) (by omega) (by omega) (by omega)]; exact a4
        · rw [s_comes_o (by omega) (by omega) (by omega)]; exact a5
        · rw [s_comes_o (by omega) (by omega) (by omega)]; exact a6
  · obtain ⟨a0, a1, a2, a3, a4, a5, a6, a7⟩ := hm
    have e3 : (s_comes f p kd cl 3).toInt = (f 3).toInt + p.toInt := by
      have : s_comes f p kd cl 3 = f 3 + p := by unfold s_comes; rw [upd_s]
      rw [this, tI_add (by omega) (by omega)]
    have e0 : s_comes f p kd cl 0 = f 0 := s_comes_o (by omega) (by omega) (by omega)
    have e1 : s_comes f p kd cl 1 = f 1 := s_comes_o (by omega) (by omega) (by omega)
    have e2 : s_comes f p kd cl 2 = f 2 := s_comes_o (by omega) (by omega) (by omega)
    have e4 : s_comes f p kd cl 4 = f 4 := s_comes_o (by omega) (by omega) (by omega)
    have es : sm (pS (s_comes f p kd cl)) (nS f) = sm (pS f) (nS f) := sm_congr (fun i hi => by unfold pS; rw [s_comes_o (by omega) (by omega) (by omega)])
    have ec : sm (pC (s_comes f p kd cl)) (nC f) = sm (pC f) (nC f) := sm_congr (fun i hi => by unfold pC; rw [s_comes_o (by omega) (by omega) (by omega)])
    have ec2 : sm (pC (s_comes f p kd cl)) (nC f + 1) = sm (pC f) (nC f) + p.toInt := by
      rw [sm, ec]
      unfold pC
      rw [c0]
    refine ⟨by rw [e0]; exact a0, by rw [e1]; exact a1, by rw [e2]; exact a2, fun s hs => ?_, fun k hkk => ?_, ?_, ?_, ?_⟩
    · rw [n8] at hs
      unfold pS; rw [s_comes_o (by omega) (by omega) (by omega)]; exact a3 s hs
    · rw [n9] at hkk
      by_cases e : k = nC f
      · subst e; unfold pC; rw [c0]; exact hp'.1
      · unfold pC; rw [s_comes_o (by omega) (by omega) (by omega)]; exact a4 k (by omega)
    · rw [n8, n9, es, ec2, e0, e1, e2, e3]; omega
    · rw [e3, n9]; omega
    · rw [e4, e3, n9, ec2]; omega

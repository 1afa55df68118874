/-! counts of children, accounts -/
def s_slA (f : Nat → Int32) : Nat → Nat → Int32 → Int32
  | 0, _, a => a
  | d + 1, k, a => if f (185 + 8 * k + 4) = -1 then s_slA f d (k + 1) a else if 50 ≤ f (185 + 8 * k + 1) then s_slA f d (k + 1) a else s_slA f d (k + 1) (a + 1)
theorem s_slA_skip {f : Nat → Int32} {a : Int32} : ∀ (e d k : Nat), (∀ j, k ≤ j → j < k + e → f (185 + 8 * j + 4) = -1) → s_slA f (e + d) k a = s_slA f d (k + e) a := by
  intro e
  induction e with
  | zero => intro d k _; rw [Nat.zero_add]; rfl
  | succ e ih =>
    intro d k h
    rw [show e + 1 + d = e + d + 1 by omega, s_slA, if_pos (h k (by omega) (by omega)), ih d (k + 1) (fun j h1 h2 => h j (by omega) (by omega)), show k + 1 + e = k + (e + 1) by omega]
theorem c_sl {c : Nat} {σ : Sg} {f : Nat → Int32} (hR : FR c σ f) (h9 : vp_in (f 9) 201) : ∀ (d k n : Nat) (a : Int32), k + d = nC f → d < n → l_X0_countSulkers_7 (c + 4) n σ a (nI k) = some (s_slA f d k a) := by
  have h7 : nC f < 201 := tc_vp h9
  intro d
  induction d with
  | zero =>
    intro k n a hk hn
    obtain ⟨m, rfl⟩ : ∃ m, n = m + 1 := ⟨n - 1, by omega⟩
    rw [l_X0_countSulkers_7.eq_2, hR.r9, nc_eq h9 (by omega), if_pos (nI_le (by omega) (by omega))]
    rfl
  | succ d ih =>
    intro k n a hk hn
    obtain ⟨m, rfl⟩ : ∃ m, n = m + 1 := ⟨n - 1, by omega⟩
    rw [l_X0_countSulkers_7.eq_2, hR.r9, nc_eq h9 (by omega), if_neg (nI_ge (by omega) (by omega)), gd_ok rfl (show k < 200 by omega) (by omega), cl_nI (by omega), hR.c4 (by omega), hR.c1 (by omega), s_slA, nI_1, ih _ _ _ (by omega) (by omega), ih _ _ _ (by omega) (by omega)]
    repeat' split
    all_goals rfl
def s_hp1 (f : Nat → Int32) (k : Nat) (b : Option Nat) : Option Nat := match b with
  | none => some k
  | some q => if f (185 + 8 * k + 1) ≤ f (185 + 8 * q + 1) then some q else some k
def s_hpA (f : Nat → Int32) : Nat → Nat → Option Nat → Option Nat
  | 0, _, b => b
  | d + 1, k, b => if f (185 + 8 * k + 4) = -1 then s_hpA f d (k + 1) b else s_hpA f d (k + 1) (s_hp1 f k b)
theorem s_hpA_skip {f : Nat → Int32} {b : Option Nat} : ∀ (e d k : Nat), (∀ j, k ≤ j → j < k + e → f (185 + 8 * j + 4) = -1) → s_hpA f (e + d) k b = s_hpA f d (k + e) b := by
  intro e
  induction e with
  | zero => intro d k _; rw [Nat.zero_add]; rfl
  | succ e ih =>
    intro d k h
    rw [show e + 1 + d = e + d + 1 by omega, s_hpA, if_pos (h k (by omega) (by omega)), ih d (k + 1) (fun j h1 h2 => h j (by omega) (by omega)), show k + 1 + e = k + (e + 1) by omega]
def s_mst (f : Nat → Int32) (b : Option Nat) : Int32 := match b with
  | none => -1
  | some q => f (185 + 8 * q + 1)
theorem c_hp {c : Nat} {σ : Sg} {f : Nat → Int32} (hR : FR c σ f) (hw : WB f) : ∀ (d k n : Nat) (b : Option Nat), k + d = nC f → d < n → l_X0_findHappiest_9 (c + 4) n σ (oI b) (s_mst f b) (nI k) = some (oI (s_hpA f d k b)) := by
  have h7 : nC f < 201 := tc_vp hw.nc
  intro d
  induction d with
  | zero =>
    intro k n b hk hn
    obtain ⟨m, rfl⟩ : ∃ m, n = m + 1 := ⟨n - 1, by omega⟩
    rw [l_X0_findHappiest_9.eq_2, hR.r9, nc_eq hw.nc (by omega), if_pos (nI_le (by omega) (by omega))]
    rfl
  | succ d ih =>
    intro k n b hk hn
    obtain ⟨m, rfl⟩ : ∃ m, n = m + 1 := ⟨n - 1, by omega⟩
    rw [l_X0_findHappiest_9.eq_2, hR.r9, nc_eq hw.nc (by omega), if_neg (nI_ge (by omega) (by omega)), gd_ok rfl (show k < 200 by omega) (by omega), cl_nI (by omega), hR.c4 (by omega), hR.c1 (by omega), s_hpA, nI_1]
    have ihk := ih (k + 1) m (some k) (by omega) (by omega)
    rw [oI_some] at ihk
    have hmd := tI_vp (hw.ch k (by omega)).mood
    by_cases h : f (185 + 8 * k + 4) = -1
    · rw [if_pos h, if_pos h]
      exact ih (k + 1) m b (by omega) (by omega)
    · rw [if_neg h, if_neg h]
      cases b with
      | none =>
        have hn1 : ¬ f (185 + 8 * k + 1) ≤ s_mst f none := by
          rw [tI_le, show (s_mst f none).toInt = -1 from (show (-1 : Int32).toInt = -1 by decide)]
          omega
        rw [if_neg hn1]
        exact ihk
      | some q =>
        have ihq := ih (k + 1) m (some q) (by omega) (by omega)
        unfold s_hp1
        change (if f (185 + 8 * k + 1) ≤ f (185 + 8 * q + 1) then _ else _) = _
        dsimp only
        by_cases hle : f (185 + 8 * k + 1) ≤ f (185 + 8 * q + 1)
        · rw [if_pos hle, if_pos hle]; exact ihq
        · rw [if_neg hle, if_neg hle]; exact ihk
theorem sm_mono {g : Nat → Int} {k : Nat} : ∀ {n : Nat}, k ≤ n → (∀ i, i < n → 0 ≤ g i) → sm g k ≤ sm g n := by
  intro n
  induction n with
  | zero =>
    intro e _
    have : k = 0 := by omega
    subst this
    exact Int.le_refl _
  | succ n ih =>
    intro e o
    by_cases q : k = n + 1
    · subst q; exact Int.le_refl _
    · have h1 := ih (by omega) (fun i hi => o i (by omega))
      have h2 := o n (by omega)
      rw [sm]
      omega
theorem c_sumS {c : Nat} {σ : Sg} {f : Nat → Int32} (hR : FR c σ f) (hw : WB f) (hm : Mo f) : ∀ (d k n : Nat) (a : Int32), k + d = nS f → d < n → a.toInt = sm (pS f) k → ∃ y, l_X1_coinsInStalls_4 c n σ a (nI k) = some y ∧ y.toInt = sm (pS f) (nS f) := by
  have h7 := hw.s7
  have hB := hm.bounds hw
  have hp := hm.2.2.2.1
  intro d
  induction d with
  | zero =>
    intro k n a hk hn ha
    obtain ⟨m, rfl⟩ : ∃ m, n = m + 1 := ⟨n - 1, by omega⟩
    rw [l_X1_coinsInStalls_4.eq_2, hR.r8, ns_eq hw.ns (by omega), if_pos (nI_le (by omega) (by omega))]
    exact ⟨a, rfl, by rw [ha, show k = nS f by omega]⟩
  | succ d ih =>
    intro k n a hk hn ha
    obtain ⟨m, rfl⟩ : ∃ m, n = m + 1 := ⟨n - 1, by omega⟩
    rw [l_X1_coinsInStalls_4.eq_2, hR.r8, ns_eq hw.ns (by omega), if_neg (nI_ge (by omega) (by omega)), gd_ok rfl (show k < 7 by omega) (by omega), sk_nI (by omega), hR.s4 (by omega) h7, nI_1]
    refine ih (k + 1) m _ (by omega) (by omega) ?_
    have h1 := sm_mono (g := pS f) (show k + 1 ≤ nS f by omega) hp
    have h2 := sm_nn (g := pS f) (n := k) (fun i hi => hp i (by omega))
    have h3 := hp k (by omega)
    rw [sm] at h1
    rw [sm, tI_add, ha]
    · rfl
    · have ep : pS f k = (f (24 + 23 * k + 4)).toInt := rfl
      rw [ha]; omega
    · have ep : pS f k = (f (24 + 23 * k + 4)).toInt := rfl
      rw [ha]; omega
theorem c_sumC {c : Nat} {σ : Sg} {f : Nat → Int32} (hR : FR c σ f) (hw : WB f) (hm : Mo f) : ∀ (d k n : Nat) (a : Int32), k + d = nC f → d < n → a.toInt = sm (pC f) k → ∃ y, l_X0_coinsInPurses_4 (c + 4) n σ a (nI k) = some y ∧ y.toInt = sm (pC f) (nC f) := by
  have h7 := hw.c200
  have hB := hm.bounds hw
  have hp := hm.2.2.2.2.1
  intro d
  induction d with
  | zero =>
    intro k n a hk hn ha
    obtain ⟨m, rfl⟩ : ∃ m, n = m + 1 := ⟨n - 1, by omega⟩
    rw [l_X0_coinsInPurses_4.eq_2, hR.r9, nc_eq hw.nc (by omega), if_pos (nI_le (by omega) (by omega))]
    exact ⟨a, rfl, by rw [ha, show k = nC f by omega]⟩
  | succ d ih =>
    intro k n a hk hn ha
    obtain ⟨m, rfl⟩ : ∃ m, n = m + 1 := ⟨n - 1, by omega⟩
    rw [l_X0_coinsInPurses_4.eq_2, hR.r9, nc_eq hw.nc (by omega), if_neg (nI_ge (by omega) (by omega)), gd_ok rfl (show k < 200 by omega) (by omega), cl_nI (by omega), hR.c0 (by omega), nI_1]
    refine ih (k + 1) m _ (by omega) (by omega) ?_
    have h1 := sm_mono (g := pC f) (show k + 1 ≤ nC f by omega) hp
    have h2 := sm_nn (g := pC f) (n := k) (fun i hi => hp i (by omega))
    have h3 := hp k (by omega)
    rw [sm] at h1
    rw [sm, tI_add, ha]
    · rfl
    · have ep : pC f k = (f (185 + 8 * k + 0)).toInt := rfl
      rw [ha]; omega
    · have ep : pC f k = (f (185 + 8 * k + 0)).toInt := rfl
      rw [ha]; omega
theorem i500 : (500 : Int32).toInt = 500 := by decide

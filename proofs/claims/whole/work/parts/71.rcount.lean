/-! counts of children, accounts -/
def s_slA (f : Nat → Int32) : Nat → Nat → Int32 → Int32
  | 0, _, a => a
  | d + 1, k, a => if f (185 + 8 * k + 4) = -1 then s_slA f d (k + 1) a else if 50 ≤ f (185 + 8 * k + 1) then s_slA f d (k + 1) a else s_slA f d (k + 1) (a + 1)
theorem s_slA_skip {f : Nat → Int32} {a : Int32} : ∀ (e d k : Nat), (∀ j, k ≤ j → j < k + e → f (185 + 8 * j + 4) = -1) → s_slA f (e + d) k a = s_slA f d (k + e) a := by
  intro e
  induction e with
  | zero => intro d k _; rw [Nat.zero_add]; rfl
  | succ e ih =>
    intro d k h
    rw [show e + 1 + d = e + d + 1 by omega, s_slA, if_pos (h k (by omega) (by omega)), ih d (k + 1) (fun j h1 h2 => h j (by omega) (by omega)), show k + 1 + e = k + (e + 1) by omega]
theorem m_sl {τ : Sg} (h9 : vp_in (τ 194 9) 201) : ∀ (d k n : Nat) (a : Int32), k + d = nC (τ 194) → d < n → l_X5_sulkers_9 n τ a (nI k) = some (s_slA (τ 194) d k a, τ) := by
  have h7 : nC (τ 194) < 201 := tc_vp h9
  intro d
  induction d with
  | zero =>
    intro k n a hk hn
    obtain ⟨m, rfl⟩ : ∃ m, n = m + 1 := ⟨n - 1, by omega⟩
    rw [l_X5_sulkers_9.eq_2, lc_9, nc_eq h9 (by omega), if_pos (nI_le (by omega) (by omega))]
    rfl
  | succ d ih =>
    intro k n a hk hn
    obtain ⟨m, rfl⟩ : ∃ m, n = m + 1 := ⟨n - 1, by omega⟩
    rw [l_X5_sulkers_9.eq_2, lc_9, nc_eq h9 (by omega), if_neg (nI_ge (by omega) (by omega)), m_isHere (by omega), b1_some, m_of1 (by omega), b1_some, s_slA, nI_1, Int32.add_zero, ih _ _ _ (by omega) (by omega), ih _ _ _ (by omega) (by omega)]
    by_cases h : τ 194 (185 + 8 * k + 4) = -1
    · rw [if_pos h, if_pos h, if_pos rfl]
    · rw [if_neg h, if_neg h, if_neg (by decide)]
      split <;> rfl
theorem c_sl {c : Nat} {σ : Sg} {f : Nat → Int32} (hR : FR c σ f) (h9 : vp_in (f 9) 201) : ∀ (d k n : Nat) (a : Int32), k + d = nC f → d < n → l_X0_countSulkers_7 (c + 4) n σ a (nI k) = some (s_slA f d k a) := by
  have h7 : nC f < 201 := tc_vp h9
  intro d
  induction d with
  | zero =>
    intro k n a hk hn
    obtain ⟨m, rfl⟩ : ∃ m, n = m + 1 := ⟨n - 1, by omega⟩
    rw [l_X0_countSulkers_7.eq_2, hR.r9, nc_eq h9 (by omega), if_pos (nI_le (by omega) (by omega))]
    rfl
  | succ d ih =>
    intro k n a hk hn
    obtain ⟨m, rfl⟩ : ∃ m, n = m + 1 := ⟨n - 1, by omega⟩
    rw [l_X0_countSulkers_7.eq_2, hR.r9, nc_eq h9 (by omega), if_neg (nI_ge (by omega) (by omega)), gd_ok rfl (show k < 200 by omega) (by omega), cl_nI (by omega), hR.c4 (by omega), hR.c1 (by omega), s_slA, nI_1, ih _ _ _ (by omega) (by omega), ih _ _ _ (by omega) (by omega)]
    repeat' split
    all_goals rfl
def s_hp1 (f : Nat → Int32) (k : Nat) (b : Option Nat) : Option Nat := match b with
  | none => some k
  | some q => if f (185 + 8 * k + 1) ≤ f (185 + 8 * q + 1) then some q else some k
def s_hpA (f : Nat → Int32) : Nat → Nat → Option Nat → Option Nat
  | 0, _, b => b
  | d + 1, k, b => if f (185 + 8 * k + 4) = -1 then s_hpA f d (k + 1) b else s_hpA f d (k + 1) (s_hp1 f k b)
theorem s_hpA_skip {f : Nat → Int32} {b : Option Nat} : ∀ (e d k : Nat), (∀ j, k ≤ j → j < k + e → f (185 + 8 * j + 4) = -1) → s_hpA f (e + d) k b = s_hpA f d (k + e) b := by
  intro e
  induction e with
  | zero => intro d k _; rw [Nat.zero_add]; rfl
  | succ e ih =>
    intro d k h
    rw [show e + 1 + d = e + d + 1 by omega, s_hpA, if_pos (h k (by omega) (by omega)), ih d (k + 1) (fun j h1 h2 => h j (by omega) (by omega)), show k + 1 + e = k + (e + 1) by omega]
theorem m_hp {τ : Sg} (h9 : vp_in (τ 194 9) 201) : ∀ (d k n : Nat) (b : Option Nat), (∀ q, b = some q → q < 200) → k + d = nC (τ 194) → d < n → l_X5_happiest_9 n τ (oI b) (nI k) = some (oI (s_hpA (τ 194) d k b), τ) := by
  have h7 : nC (τ 194) < 201 := tc_vp h9
  intro d
  induction d with
  | zero =>
    intro k n b hb hk hn
    obtain ⟨m, rfl⟩ : ∃ m, n = m + 1 := ⟨n - 1, by omega⟩
    rw [l_X5_happiest_9.eq_2, lc_9, nc_eq h9 (by omega), if_pos (nI_le (by omega) (by omega))]
    rfl
  | succ d ih =>
    intro k n b hb hk hn
    obtain ⟨m, rfl⟩ : ∃ m, n = m + 1 := ⟨n - 1, by omega⟩
    rw [l_X5_happiest_9.eq_2, lc_9, nc_eq h9 (by omega), if_neg (nI_ge (by omega) (by omega)), m_isHere (by omega), b1_some, s_hpA, nI_1]
    have ihk := ih (k + 1) m (some k) (fun q e => by cases e; omega) (by omega) (by omega)
    rw [oI_some] at ihk
    by_cases h : τ 194 (185 + 8 * k + 4) = -1
    · rw [if_pos h, if_pos h, if_pos rfl]
      exact ih (k + 1) m b hb (by omega) (by omega)
    · rw [if_neg h, if_neg h, if_neg (by decide)]
      cases b with
      | none =>
        rw [oI_none, if_pos rfl]
        exact ihk
      | some q =>
        have hq := hb q rfl
        have ihq := ih (k + 1) m (some q) hb (by omega) (by omega)
        rw [oI_some] at ihq
        rw [oI_some, if_neg (nI_neg1 (by omega)), m_of1 (by omega), b1_some, m_of1 hq, b1_some]
        unfold s_hp1
        dsimp only
        by_cases hle : τ 194 (185 + 8 * k + 1) ≤ τ 194 (185 + 8 * q + 1)
        · rw [if_pos hle, if_pos hle]; exact ihq
        · rw [if_neg hle, if_neg hle]; exact ihk
def s_mst (f : Nat → Int32) (b : Option Nat) : Int32 := match b with
  | none => -1
  | some q => f (185 + 8 * q + 1)
theorem c_hp {c : Nat} {σ : Sg} {f : Nat → Int32} (hR : FR c σ f) (hw : WB f) : ∀ (d k n : Nat) (b : Option Nat), k + d = nC f → d < n → l_X0_findHappiest_9 (c + 4) n σ (oI b) (s_mst f b) (nI k) = some (oI (s_hpA f d k b)) := by
  have h7 : nC f < 201 := tc_vp hw.nc
  intro d
  induction d with
  | zero =>
    intro k n b hk hn
    obtain ⟨m, rfl⟩ : ∃ m, n = m + 1 := ⟨n - 1, by omega⟩
    rw [l_X0_findHappiest_9.eq_2, hR.r9, nc_eq hw.nc (by omega), if_pos (nI_le (by omega) (by omega))]
    rfl
  | succ d ih =>
    intro k n b hk hn
    obtain ⟨m, rfl⟩ : ∃ m, n = m + 1 := ⟨n - 1, by omega⟩
    rw [l_X0_findHappiest_9.eq_2, hR.r9, nc_eq hw.nc (by omega), if_neg (nI_ge (by omega) (by omega)), gd_ok rfl (show k < 200 by omega) (by omega), cl_nI (by omega), hR.c4 (by omega), hR.c1 (by omega), s_hpA, nI_1]
    have ihk := ih (k + 1) m (some k) (by omega) (by omega)
    rw [oI_some] at ihk
    have hmd := tI_vp (hw.ch k (by omega)).mood
    by_cases h : f (185 + 8 * k + 4) = -1
    · rw [if_pos h, if_pos h]
      exact ih (k + 1) m b (by omega) (by omega)
    · rw [if_neg h, if_neg h]
      cases b with
      | none =>
        have hn1 : ¬ f (185 + 8 * k + 1) ≤ s_mst f none := by
          rw [tI_le, show (s_mst f none).toInt = -1 from (show (-1 : Int32).toInt = -1 by decide)]
          omega
        rw [if_neg hn1]
        exact ihk
      | some q =>
        have ihq := ih (k + 1) m (some q) (by omega) (by omega)
        unfold s_hp1
        change (if f (185 + 8 * k + 1) ≤ f (185 + 8 * q + 1) then _ else _) = _
        dsimp only
        by_cases hle : f (185 + 8 * k + 1) ≤ f (185 + 8 * q + 1)
        · rw [if_pos hle, if_pos hle]; exact ihq
        · rw [if_neg hle, if_neg hle]; exact ihk
theorem sm_mono {g : Nat → Int} {k : Nat} : ∀ {n : Nat}, k ≤ n → (∀ i, i < n → 0 ≤ g i) → sm g k ≤ sm g n := by
  intro n
  induction n with
  | zero =>
    intro e _
    have : k = 0 := by omega
    subst this
    exact Int.le_refl _
  | succ n ih =>
    intro e o
    by_cases q : k = n + 1
    · subst q; exact Int.le_refl _
    · have h1 := ih (by omega) (fun i hi => o i (by omega))
      have h2 := o n (by omega)
      rw [sm]
      omega
theorem c_sumS {c : Nat} {σ : Sg} {f : Nat → Int32} (hR : FR c σ f) (hw : WB f) (hm : Mo f) : ∀ (d k n : Nat) (a : Int32), k + d = nS f → d < n → a.toInt = sm (pS f) k → ∃ y, l_X1_coinsInStalls_4 c n σ a (nI k) = some y ∧ y.toInt = sm (pS f) (nS f) := by
  have h7 := hw.s7
  have hB := hm.bounds hw
  have hp := hm.2.2.2.1
  intro d
  induction d with
  | zero =>
    intro k n a hk hn ha
    obtain ⟨m, rfl⟩ : ∃ m, n = m + 1 := ⟨n - 1, by omega⟩
    rw [l_X1_coinsInStalls_4.eq_2, hR.r8, ns_eq hw.ns (by omega), if_pos (nI_le (by omega) (by omega))]
    exact ⟨a, rfl, by rw [ha, show k = nS f by omega]⟩
  | succ d ih =>
    intro k n a hk hn ha
    obtain ⟨m, rfl⟩ : ∃ m, n = m + 1 := ⟨n - 1, by omega⟩
    rw [l_X1_coinsInStalls_4.eq_2, hR.r8, ns_eq hw.ns (by omega), if_neg (nI_ge (by omega) (by omega)), gd_ok rfl (show k < 7 by omega) (by omega), sk_nI (by omega), hR.s4 (by omega) h7, nI_1]
    refine ih (k + 1) m _ (by omega) (by omega) ?_
    have h1 := sm_mono (g := pS f) (show k + 1 ≤ nS f by omega) hp
    have h2 := sm_nn (g := pS f) (n := k) (fun i hi => hp i (by omega))
    have h3 := hp k (by omega)
    rw [sm] at h1
    rw [sm, tI_add, ha]
    · rfl
    · have ep : pS f k = (f (24 + 23 * k + 4)).toInt := rfl
      rw [ha]; omega
    · have ep : pS f k = (f (24 + 23 * k + 4)).toInt := rfl
      rw [ha]; omega
theorem c_sumC {c : Nat} {σ : Sg} {f : Nat → Int32} (hR : FR c σ f) (hw : WB f) (hm : Mo f) : ∀ (d k n : Nat) (a : Int32), k + d = nC f → d < n → a.toInt = sm (pC f) k → ∃ y, l_X0_coinsInPurses_4 (c + 4) n σ a (nI k) = some y ∧ y.toInt = sm (pC f) (nC f) := by
  have h7 := hw.c200
  have hB := hm.bounds hw
  have hp := hm.2.2.2.2.1
  intro d
  induction d with
  | zero =>
    intro k n a hk hn ha
    obtain ⟨m, rfl⟩ : ∃ m, n = m + 1 := ⟨n - 1, by omega⟩
    rw [l_X0_coinsInPurses_4.eq_2, hR.r9, nc_eq hw.nc (by omega), if_pos (nI_le (by omega) (by omega))]
    exact ⟨a, rfl, by rw [ha, show k = nC f by omega]⟩
  | succ d ih =>
    intro k n a hk hn ha
    obtain ⟨m, rfl⟩ : ∃ m, n = m + 1 := ⟨n - 1, by omega⟩
    rw [l_X0_coinsInPurses_4.eq_2, hR.r9, nc_eq hw.nc (by omega), if_neg (nI_ge (by omega) (by omega)), gd_ok rfl (show k < 200 by omega) (by omega), cl_nI (by omega), hR.c0 (by omega), nI_1]
    refine ih (k + 1) m _ (by omega) (by omega) ?_
    have h1 := sm_mono (g := pC f) (show k + 1 ≤ nC f by omega) hp
    have h2 := sm_nn (g := pC f) (n := k) (fun i hi => hp i (by omega))
    have h3 := hp k (by omega)
    rw [sm] at h1
    rw [sm, tI_add, ha]
    · rfl
    · have ep : pC f k = (f (185 + 8 * k + 0)).toInt := rfl
      rw [ha]; omega
    · have ep : pC f k = (f (185 + 8 * k + 0)).toInt := rfl
      rw [ha]; omega
theorem i500 : (500 : Int32).toInt = 500 := by decide
theorem m_count {τ : Sg} {w : Nat} (hw : w < 1785) : f_X5_count τ (nI w) = some (τ 194 w, u2 τ 193 10 0) := by
  unfold f_X5_count
  rw [st_eq, gd_ok rfl hw (by omega), cl_nI (by omega), u10]
theorem kk_18 {σ : Sg} {a1 a2 a3 a4 : Int32} (hI : IV σ) : ∃ σ', g_18 σ a1 a2 a3 a4 = some σ' ∧ IV σ' := by
  obtain ⟨m, R, hs, sn, hc, hr, ok⟩ := hI.parts
  unfold g_18
  refine dr_g (y := σ 194 8) hI ?_ ?_
  · unfold f_X4_stalls
    rw [hc.1.r8]
  · unfold f_X5_stalls
    rw [show f_X5_count σ 8 = _ from m_count (w := 8) (by omega), b2_some]
theorem kk_31 {σ : Sg} {a1 a2 a3 a4 : Int32} (hI : IV σ) : ∃ σ', g_31 σ a1 a2 a3 a4 = some σ' ∧ IV σ' := by
  obtain ⟨m, R, hs, sn, hc, hr, ok⟩ := hI.parts
  unfold g_31
  refine dr_g (y := σ 194 9) hI ?_ ?_
  · unfold f_X4_children
    rw [hc.1.r9]
  · unfold f_X5_children
    rw [show f_X5_count σ 9 = _ from m_count (w := 9) (by omega), b2_some]
theorem kk_43 {σ : Sg} {a1 a2 a3 a4 : Int32} (hI : IV σ) : ∃ σ', g_43 σ a1 a2 a3 a4 = some σ' ∧ IV σ' := by
  obtain ⟨m, R, hs, sn, hc, hr, ok⟩ := hI.parts
  unfold g_43
  refine dr_g (y := σ 194 6) hI ?_ ?_
  · unfold f_X4_day
    rw [hc.1.r6]
  · unfold f_X5_day
    rw [show f_X5_count σ 6 = _ from m_count (w := 6) (by omega), b2_some]
theorem kk_44 {σ : Sg} {a1 a2 a3 a4 : Int32} (hI : IV σ) : ∃ σ', g_44 σ a1 a2 a3 a4 = some σ' ∧ IV σ' := by
  obtain ⟨m, R, hs, sn, hc, hr, ok⟩ := hI.parts
  unfold g_44
  refine dr_g (y := σ 194 7) hI ?_ ?_
  · unfold f_X4_round
    rw [hc.1.r7]
  · unfold f_X5_round
    rw [show f_X5_count σ 7 = _ from m_count (w := 7) (by omega), b2_some]
theorem kk_47 {σ : Sg} {a1 a2 a3 a4 : Int32} (hI : IV σ) : ∃ σ', g_47 σ a1 a2 a3 a4 = some σ' ∧ IV σ' := by
  obtain ⟨m, R, hs, sn, hc, hr, ok⟩ := hI.parts
  unfold g_47
  refine dr_g (y := σ 194 0) hI ?_ ?_
  · unfold f_X4_bank
    rw [hc.1.r0]
  · unfold f_X5_bank
    rw [show f_X5_count σ 0 = _ from m_count (w := 0) (by omega), b2_some]
theorem kk_48 {σ : Sg} {a1 a2 a3 a4 : Int32} (hI : IV σ) : ∃ σ', g_48 σ a1 a2 a3 a4 = some σ' ∧ IV σ' := by
  obtain ⟨m, R, hs, sn, hc, hr, ok⟩ := hI.parts
  unfold g_48
  refine dr_g (y := σ 194 1) hI ?_ ?_
  · unfold f_X4_town
    rw [hc.1.r1]
  · unfold f_X5_town
    rw [show f_X5_count σ 1 = _ from m_count (w := 1) (by omega), b2_some]
theorem kk_51 {σ : Sg} {a1 a2 a3 a4 : Int32} (hI : IV σ) : ∃ σ', g_51 σ a1 a2 a3 a4 = some σ' ∧ IV σ' := by
  obtain ⟨m, R, hs, sn, hc, hr, ok⟩ := hI.parts
  unfold g_51
  refine dr_g (y := σ 194 4) hI ?_ ?_
  · unfold f_X4_takings
    rw [hc.1.r4]
  · unfold f_X5_takings
    rw [show f_X5_count σ 4 = _ from m_count (w := 4) (by omega), b2_some]
theorem kk_53 {σ : Sg} {a1 a2 a3 a4 : Int32} (hI : IV σ) : ∃ σ', g_53 σ a1 a2 a3 a4 = some σ' ∧ IV σ' := by
  obtain ⟨m, R, hs, sn, hc, hr, ok⟩ := hI.parts
  unfold g_53
  refine dr_g (y := σ 194 5) hI ?_ ?_
  · unfold f_X4_plays
    rw [hc.1.r5]
  · unfold f_X5_plays
    rw [show f_X5_count σ 5 = _ from m_count (w := 5) (by omega), b2_some]
theorem kk_49 {σ : Sg} {a1 a2 a3 a4 : Int32} (hI : IV σ) : ∃ σ', g_49 σ a1 a2 a3 a4 = some σ' ∧ IV σ' := by
  obtain ⟨m, R, hs, sn, hc, hr, ok⟩ := hI.parts
  unfold g_49
  refine dr_g (y := 500 + σ 194 3) hI ?_ ?_
  · unfold f_X4_allCoins
    rw [hc.1.r3]
  · unfold f_X5_allCoins f_X5_all
    rw [st_eq, b2_some, lc_3, u10]
theorem kk_50 {σ : Sg} {a1 a2 a3 a4 : Int32} (hI : IV σ) : ∃ σ', g_50 σ a1 a2 a3 a4 = some σ' ∧ IV σ' := by
  obtain ⟨m, R, hs, sn, hc, hr, ok⟩ := hI.parts
  have hw := ok.1.1
  have hm := ok.1.2.1
  have hB := hm.bounds hw
  have h7 := hw.s7
  have h9 := hw.c200
  obtain ⟨y1, x1, z1⟩ := c_sumS hc.1 hw hm (nS (σ 194)) 0 10000 0 (by omega) (by omega) rfl
  obtain ⟨y2, x2, z2⟩ := c_sumC hc.1 hw hm (nC (σ 194)) 0 10000 0 (by omega) (by omega) rfl
  obtain ⟨b0, b1, b2, b3, b4, b5, b6, b7⟩ := hm
  unfold g_50
  refine dr_g (y := 500 + σ 194 3) hI ?_ ?_
  · unfold f_X4_coinsByPlaces f_X1_coinsInStalls f_X0_coinsInPurses
    rw [show l_X1_coinsInStalls_4 1 10000 σ 0 0 = some y1 from x1, b1_some, show l_X0_coinsInPurses_4 (1 + 4) 10000 σ 0 0 = some y2 from x2, b1_some, hc.1.r0, hc.1.r1, hc.1.r2]
    congr 1
    have e1 : (σ 194 0 + y1).toInt = (σ 194 0).toInt + y1.toInt := tI_add (by omega) (by omega)
    have e2 : (σ 194 0 + y1 + y2).toInt = (σ 194 0).toInt + y1.toInt + y2.toInt := by rw [tI_add (by omega) (by omega), e1]
    have e3 : (σ 194 0 + y1 + y2 + σ 194 1).toInt = (σ 194 0).toInt + y1.toInt + y2.toInt + (σ 194 1).toInt := by rw [tI_add (by omega) (by omega), e2]
    have e4 : (σ 194 0 + y1 + y2 + σ 194 1 + σ 194 2).toInt = (σ 194 0).toInt + y1.toInt + y2.toInt + (σ 194 1).toInt + (σ 194 2).toInt := by rw [tI_add (by omega) (by omega), e3]
    have e5 : (500 + σ 194 3).toInt = 500 + (σ 194 3).toInt := by rw [tI_add (by rw [i500]; omega) (by rw [i500]; omega), i500]
    rw [tI_eq, e4, e5]
    omega
  · unfold f_X5_coinsByPlaces f_X5_all
    rw [st_eq, b2_some, lc_3, u10]
theorem kk_52 {σ : Sg} {a1 a2 a3 a4 : Int32} (hI : IV σ) : ∃ σ', g_52 σ a1 a2 a3 a4 = some σ' ∧ IV σ' := by
  obtain ⟨m, R, hs, sn, hc, hr, ok⟩ := hI.parts
  have hw := ok.1.1
  have hm := ok.1.2.1
  have hB := hm.bounds hw
  have h9 := hw.c200
  obtain ⟨y2, x2, z2⟩ := c_sumC hc.1 hw hm (nC (σ 194)) 0 10000 0 (by omega) (by omega) rfl
  obtain ⟨b0, b1, b2, b3, b4, b5, b6, b7⟩ := hm
  unfold g_52
  refine dr_g (y := σ 194 4) hI ?_ ?_
  · unfold f_X4_takingsByChildren f_X0_coinsInPurses
    rw [show l_X0_coinsInPurses_4 (1 + 4) 10000 σ 0 0 = some y2 from x2, b1_some, hc.1.r3]
    congr 1
    rw [tI_eq, tI_sub (by omega) (by omega), z2, b7]
  · unfold f_X5_takingsByChildren
    rw [show f_X5_count σ 4 = _ from m_count (w := 4) (by omega), b2_some]
theorem kk_32 {σ : Sg} {a1 a2 a3 a4 : Int32} (hI : IV σ) : ∃ σ', g_32 σ a1 a2 a3 a4 = some σ' ∧ IV σ' := by
  obtain ⟨m, R, hs, sn, hc, hr, ok⟩ := hI.parts
  have hw := ok.1.1
  unfold g_32
  refine dr_g (y := s_crowd (σ 194)) hI ?_ ?_
  · unfold f_X4_atFair
    rw [c_crowd hc.1 hw.nc, b1_some]
  · unfold f_X5_atFair
    rw [st_eq, m_crowd (by rw [u10]; exact hw.nc), b1_some, u10]
theorem kk_46 {σ : Sg} {a1 a2 a3 a4 : Int32} (hI : IV σ) : ∃ σ', g_46 σ a1 a2 a3 a4 = some σ' ∧ IV σ' := by
  obtain ⟨m, R, hs, sn, hc, hr, ok⟩ := hI.parts
  have hw := ok.1.1
  have hd : vp_in (s_due (σ 194)) 2 := by
    unfold s_due
    repeat' split
    all_goals exact vp_lit (by decide)
  unfold g_46
  refine dr_g (y := s_due (σ 194)) hI ?_ ?_
  · unfold f_X4_isChildDue
    rw [c_due hc.1 hw ok.1.2.2.1, b1_some, gd_in hd]
  · unfold f_X5_isChildDue
    rw [st_eq, m_due (by rw [u10]; exact hw) (by rw [u10]; exact ok.1.2.2.1), b1_some, u10, gd_in hd]
theorem kk_57 {σ : Sg} {a1 a2 a3 a4 : Int32} (hI : IV σ) : ∃ σ', g_57 σ a1 a2 a3 a4 = some σ' ∧ IV σ' := by
  obtain ⟨m, R, hs, sn, hc, hr, ok⟩ := hI.parts
  unfold g_57
  refine dr_g (y := nI m) hI ?_ ?_
  · unfold f_X4_recordedStates
    rw [hc.2.2.1]
  · unfold f_X5_recordedStates
    rw [st_eq, u2_ri (by omega), hr.2.1]
theorem kk_41 {σ : Sg} {a1 a2 a3 a4 : Int32} (hI : IV σ) : ∃ σ', g_41 σ a1 a2 a3 a4 = some σ' ∧ IV σ' := by
  obtain ⟨m, R, hs, sn, hc, hr, ok⟩ := hI.parts
  have hw := ok.1.1
  have h9 := hw.c200
  unfold g_41
  refine dr_g (y := s_slA (σ 194) (nC (σ 194)) 0 0) hI ?_ ?_
  · obtain ⟨ft, t1, t2, t3⟩ := hc.1.2.1
    unfold f_X4_sulkers f_X0_countSulkers
    have := s_slA_skip (f := σ 194) (a := 0) ft (nC (σ 194) - ft) 0 (fun j _ h => t3 j (by omega))
    rw [show ft + (nC (σ 194) - ft) = nC (σ 194) by omega, show 0 + ft = ft by omega] at this
    rw [t2, c_sl hc.1 hw.nc (nC (σ 194) - ft) ft 10000 0 (by omega) (by omega), b1_some, this]
  · unfold f_X5_sulkers
    have := m_sl (τ := u2 σ 193 10 0) (by rw [u10]; exact hw.nc) (nC (σ 194)) 0 10000 0 (by rw [u10]; omega) (by omega)
    rw [u10] at this
    rw [st_eq]
    exact this
theorem kk_40 {σ : Sg} {a1 a2 a3 a4 : Int32} (hI : IV σ) : ∃ σ', g_40 σ a1 a2 a3 a4 = some σ' ∧ IV σ' := by
  obtain ⟨m, R, hs, sn, hc, hr, ok⟩ := hI.parts
  have hw := ok.1.1
  have h9 := hw.c200
  unfold g_40
  refine dr_g (y := oI (s_hpA (σ 194) (nC (σ 194)) 0 none)) hI ?_ ?_
  · obtain ⟨ft, t1, t2, t3⟩ := hc.1.2.1
    unfold f_X4_happiest f_X0_findHappiest
    have := s_hpA_skip (f := σ 194) (b := none) ft (nC (σ 194) - ft) 0 (fun j _ h => t3 j (by omega))
    rw [show ft + (nC (σ 194) - ft) = nC (σ 194) by omega, show 0 + ft = ft by omega] at this
    have hq := c_hp hc.1 hw (nC (σ 194) - ft) ft 10000 none (by omega) (by omega)
    rw [t2, show l_X0_findHappiest_9 (1 + 4) 10000 σ (-1) (-1) (nI ft) = _ from hq, b1_some, this]
  · unfold f_X5_happiest
    have := m_hp (τ := u2 σ 193 10 0) (by rw [u10]; exact hw.nc) (nC (σ 194)) 0 10000 none (fun q e => by cases e) (by rw [u10]; omega) (by omega)
    rw [u10] at this
    rw [st_eq]
    exact this

/-! the day's end: all go home, the stalls pay rent -/
def s_homes : Nat → Nat → (Nat → Int32) → Nat → Int32
  | 0, _, f => f
  | d + 1, k, f => s_homes d (k + 1) (s_home f k)
theorem TW.homes : ∀ (d k : Nat) (f : Nat → Int32), WB f → Mo f → TW 0 f (s_homes d k f) := by
  intro d
  induction d with
  | zero => intro k f hw hm; exact TW.refl hw hm
  | succ d ih =>
    intro k f hw hm
    have h1 := TW.home (k := k) hw hm
    exact h1.trans (ih (k + 1) _ h1.1 h1.2.1)
theorem s_homes_o : ∀ (d k : Nat) (f : Nat → Int32) (j : Nat), j < k → s_homes d k f (185 + 8 * j + 4) = f (185 + 8 * j + 4) := by
  intro d
  induction d with
  | zero => intro k f j h; rfl
  | succ d ih =>
    intro k f j h
    rw [s_homes, ih (k + 1) _ j (by omega), s_home_o (by omega) (by omega)]
theorem s_homes_at : ∀ (d k : Nat) (f : Nat → Int32) (j : Nat), k ≤ j → j < k + d → s_homes d k f (185 + 8 * j + 4) = -1 := by
  intro d
  induction d with
  | zero => intro k f j h1 h2; omega
  | succ d ih =>
    intro k f j h1 h2
    rw [s_homes]
    by_cases e : j = k
    · subst e
      rw [s_homes_o d (j + 1) _ j (by omega), s_home_4]
    · exact ih (k + 1) _ j (by omega) (by omega)
theorem s_home_id {f : Nat → Int32} {k : Nat} (h1 : f (185 + 8 * k + 4) = -1) (h2 : f (185 + 8 * k + 5) = 1) : s_home f k = f := by
  funext i
  simp only [s_home, upd_app]
  grind
theorem s_homes_skip : ∀ (e d k : Nat) (f : Nat → Int32), (∀ j, k ≤ j → j < k + e → f (185 + 8 * j + 4) = -1 ∧ f (185 + 8 * j + 5) = 1) → s_homes (e + d) k f = s_homes d (k + e) f := by
  intro e
  induction e with
  | zero => intro d k f _; rw [Nat.zero_add]; rfl
  | succ e ih =>
    intro d k f h
    have h0 := h k (by omega) (by omega)
    rw [show e + 1 + d = e + d + 1 by omega, s_homes, s_home_id h0.1 h0.2, ih d (k + 1) f (fun j h1 h2 => h j (by omega) (by omega)), show k + 1 + e = k + (e + 1) by omega]
theorem GR.ft {c : Nat} {σ0 : Sg} {f b : Nat → Int32} {σ : Sg} (h : GR c σ0 f b σ) (hn : ∀ k, k < nC f → f (185 + 8 * k + 4) = -1) : GR c σ0 f b (u2 σ (c + 4) 1 (nI (nC f))) := by
  obtain ⟨⟨r1, ⟨ft, r2, r3, r4⟩, r5, r6⟩, hb, hs⟩ := h
  refine ⟨⟨fun j hj => ?_, ⟨nC f, Nat.le_refl _, u2_rs, hn⟩, fun k hk => ?_, fun t ht => ?_⟩, fun t ht => ?_, fun a ha => ?_⟩
  · rw [fl_ft]; exact r1 j hj
  · rw [u2_cell (by omega)]; exact r5 k hk
  · rw [u2_cell (by omega)]; exact r6 t ht
  · rw [u2_cell (by omega)]; exact hb t ht
  · rw [u2_cell (by omega)]; exact hs a ha
theorem c_homesA {c : Nat} : ∀ (d k n : Nat) (σ0 : Sg) (f b : Nat → Int32) (σ : Sg), GR c σ0 f b σ → WB f → Mo f → k + d = nC f → d < n → (∀ j, j < k → f (185 + 8 * j + 4) = -1) → ∃ σ', l_X0_allGoHome_5 (c + 4) n σ (nI k) = some σ' ∧ GR c σ0 (s_homes d k f) b σ' := by
  intro d
  induction d with
  | zero =>
    intro k n σ0 f b σ h hw hm hk hn ha
    have h7 := hw.c200
    obtain ⟨m, rfl⟩ : ∃ m, n = m + 1 := ⟨n - 1, by omega⟩
    rw [l_X0_allGoHome_5.eq_2, h.1.r9, nc_eq hw.nc (by omega), if_pos (nI_le (by omega) (by omega))]
    exact ⟨_, rfl, h.ft (fun j hj => ha j (by omega))⟩
  | succ d ih =>
    intro k n σ0 f b σ h hw hm hk hn ha
    have h7 := hw.c200
    obtain ⟨m, rfl⟩ : ∃ m, n = m + 1 := ⟨n - 1, by omega⟩
    have h1 := TW.home (k := k) hw hm
    obtain ⟨σ1, x1, g1⟩ := c_home h hw.s7 hw.c200 (show k < nC f by omega)
    rw [l_X0_allGoHome_5.eq_2, h.1.r9, nc_eq hw.nc (by omega), if_neg (nI_ge (by omega) (by omega)), x1, b1_some, nI_1]
    refine ih (k + 1) m σ0 _ b σ1 g1 h1.1 h1.2.1 (by rw [h1.nc]; omega) (by omega) (fun j hj => ?_)
    by_cases e : j = k
    · subst e; exact s_home_4
    · rw [s_home_o (by omega) (by omega)]; exact ha j (by omega)
theorem c_homes {c : Nat} {σ0 : Sg} {f b : Nat → Int32} {σ : Sg} (h : GR c σ0 f b σ) (hw : WB f) (hm : Mo f) : ∃ σ', f_X0_allGoHome (c + 4) σ = some σ' ∧ GR c σ0 (s_homes (nC f) 0 f) b σ' := by
  have h7 := hw.c200
  obtain ⟨ft, h1, h2, h3⟩ := h.1.2.1
  have hh : ∀ j, j < ft → f (185 + 8 * j + 4) = -1 ∧ f (185 + 8 * j + 5) = 1 := by
    intro j hj
    have := h3 j hj
    rcases (hw.ch j (by omega)).at_ with q | q
    · exact q
    · rw [this] at q
      exact absurd (Or.inl (by decide)) q
  unfold f_X0_allGoHome
  rw [h2]
  have := s_homes_skip ft (nC f - ft) 0 f (fun j _ hj => hh j (by omega))
  rw [show ft + (nC f - ft) = nC f by omega, show 0 + ft = ft by omega] at this
  rw [this]
  exact c_homesA (nC f - ft) ft 10000 σ0 f b σ h hw hm (by omega) (by omega) h3
def s_rt (f : Nat → Int32) (s : Nat) : Int32 := 2 + (12 - f (24 + 23 * s + 0)) / 2
def s_rent1 (f : Nat → Int32) (s : Nat) : Nat → Int32 :=
  if f (24 + 23 * s + 6) = 1 then
    (if s_rt f s ≤ f (24 + 23 * s + 4) then upd (upd (upd f (24 + 23 * s + 4) (f (24 + 23 * s + 4) - s_rt f s)) (24 + 23 * s + 6) 1) 1 (f 1 + s_rt f s)
    else upd (upd (upd f (24 + 23 * s + 4) (f (24 + 23 * s + 4) - f (24 + 23 * s + 4))) (24 + 23 * s + 6) 0) 1 (f 1 + f (24 + 23 * s + 4)))
  else f
def s_rents : Nat → Nat → (Nat → Int32) → Nat → Int32
  | 0, _, f => f
  | d + 1, s, f => s_rents d (s + 1) (s_rent1 f s)
def s_ends (f : Nat → Int32) : Nat → Int32 :=
  let g := s_rents (nS f) 0 (s_homes (nC f) 0 f)
  upd (upd g 6 (g 6 + 1)) 7 0
theorem nS_rent1 {f : Nat → Int32} {s : Nat} : nS (s_rent1 f s) = nS f := by
  unfold s_rent1
  repeat' split
  · rw [nS_upd (by omega), nS_upd (by omega), nS_upd (by omega)]
  · rw [nS_upd (by omega), nS_upd (by omega), nS_upd (by omega)]
  · rfl

def s_turns (r : Int32) : Nat → Nat → (Nat → Int32) → (Nat → Int32) → (Nat → Int32) × (Nat → Int32)
  | 0, _, f, b => (f, b)
  | d + 1, k, f, b => if f (185 + 8 * k + 4) = -1 then s_turns r d (k + 1) f b else s_turns r d (k + 1) (s_act f b r k) (s_actB f b r k)
theorem CW.place {f : Nat → Int32} {k : Nat} (h : CW f k) (n : ¬ f (185 + 8 * k + 4) = -1) : vp_in (f (185 + 8 * k + 4)) 12 := by
  rcases h.at_ with q | q
  · exact absurd q.1 n
  · exact q
theorem TW.refl {f : Nat → Int32} (hw : WB f) (hm : Mo f) : TW 0 f f := ⟨hw, hm, ⟨rfl, rfl, rfl, rfl, rfl⟩, fun _ _ => rfl, ⟨0, Nat.le_refl _, add_nI0⟩, fun s hs => ⟨0, Nat.le_refl _, add_nI0⟩⟩
theorem TW.turns {r : Int32} : ∀ (d k : Nat) (f b : Nat → Int32), WB f → Mo f → k + d ≤ nC f → TW d f (s_turns r d k f b).1 := by
  intro d
  induction d with
  | zero => intro k f b hw hm _; exact TW.refl hw hm
  | succ d ih =>
    intro k f b hw hm hk
    rw [s_turns]
    split
    · exact (ih (k + 1) f b hw hm (by omega)).mono (by omega)
    · rename_i hn
      have h1 := TW.act (b := b) (r := r) hw hm (show k < nC f by omega) ((hw.ch k (by omega)).place hn)
      have h2 := h1.trans (ih (k + 1) (s_act f b r k) (s_actB f b r k) h1.1 h1.2.1 (by rw [h1.nc]; omega))
      exact h2.mono (by omega)
theorem s_turns_skip {r : Int32} {f b : Nat → Int32} : ∀ (e d k : Nat), (∀ j, k ≤ j → j < k + e → f (185 + 8 * j + 4) = -1) → s_turns r (e + d) k f b = s_turns r d (k + e) f b := by
  intro e
  induction e with
  | zero => intro d k _; rw [Nat.zero_add]; rfl
  | succ e ih =>
    intro d k h
    rw [show e + 1 + d = e + d + 1 by omega, s_turns, if_pos (h k (by omega) (by omega)), ih d (k + 1) (fun j h1 h2 => h j (by omega) (by omega)), show k + 1 + e = k + (e + 1) by omega]
def QB (f : Nat → Int32) (N : Nat) : Prop := ∀ s, s < nS f → vp_in (f (24 + 23 * s + 5)) (N + 1)
theorem QB.tw {f g : Nat → Int32} {N n : Nat} (h : QB f N) (x : TW n f g) (hN : N + n < 1000000000) : QB g (N + n) := by
  intro s hs
  rw [x.ns] at hs
  obtain ⟨j, hj, ej⟩ := x.2.2.2.2.2 s hs
  obtain ⟨p, hp, ep⟩ := vp_in_of (h s hs) (by omega)
  rw [ej, ep, nI_add]
  exact vp_in_nI (by omega) (by omega)
theorem QB.mono {f : Nat → Int32} {N M : Nat} (h : QB f N) (hM : N ≤ M) : QB f M := fun s hs => vp_mono (h s hs) (by omega)
theorem c_turns {K : Sg → Int32 → Int32 → Option Sg} {r x1 x2 : Int32} {c : Nat} (hcc : c = 1 ∨ c = 28 ∨ c = 55) : ∀ (d k n N : Nat) (σ0 : Sg) (f b : Nat → Int32) (σ : Sg), GR c σ0 f b σ → WB f → Mo f → QB f N → N + d < 100000000 → k + d = nC f → d < n → ∃ σ', GR c σ0 (s_turns r d k f b).1 (s_turns r d k f b).2 σ' ∧ l_X1_letPass_42 K c n σ x1 x2 r (nI k) = st (u2 σ' c 7 ((s_turns r d k f b).1 7 + 1)) fun σ11 => if σ11 c 7 < 40 then K σ11 x1 (x2 + 1) else (b1 (f_X1_endDay c σ11) fun σ16 => K σ16 x1 (x2 + 1)) := by
  intro d
  induction d with
  | zero =>
    intro k n N σ0 f b σ h hw hm hq hN hk hn
    have h7 := hw.c200
    obtain ⟨m, rfl⟩ : ∃ m, n = m + 1 := ⟨n - 1, by omega⟩
    refine ⟨σ, h, ?_⟩
    rw [l_X1_letPass_42.eq_2, h.1.r9, nc_eq hw.nc (by omega), if_pos (nI_le (by omega) (by omega)), h.1.r7]
    rfl
  | succ d ih =>
    intro k n N σ0 f b σ h hw hm hq hN hk hn
    have h7 := hw.c200
    obtain ⟨m, rfl⟩ : ∃ m, n = m + 1 := ⟨n - 1, by omega⟩
    rw [l_X1_letPass_42.eq_2, h.1.r9, nc_eq hw.nc (by omega), if_neg (nI_ge (by omega) (by omega)), gd_ok rfl (show k < 200 by omega) (by omega), cl_nI (by omega), h.1.c4 (by omega), s_turns, nI_1]
    by_cases hh : f (185 + 8 * k + 4) = -1
    · rw [if_pos hh, if_pos hh]
      exact ih (k + 1) m N σ0 f b σ h hw hm hq (by omega) (by omega) (by omega)
    · have ha := (hw.ch k (by omega)).place hh
      have h1 := TW.act (b := b) (r := r) hw hm (show k < nC f by omega) ha
      obtain ⟨σ1, y1, g1⟩ := c_acts (r := r) hcc h hw (show k < nC f by omega) (fun s hs => vp_mono (hq s hs) (by omega)) ha
      rw [if_neg hh, if_neg hh, y1, b1_some]
      exact ih (k + 1) m (N + 1) σ0 _ _ σ1 g1 h1.1 h1.2.1 (hq.tw h1 (by omega)) (by omega) (by rw [h1.nc]; omega) (by omega)

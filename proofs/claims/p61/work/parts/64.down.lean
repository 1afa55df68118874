/-! a stall pulled down; its purse emptied -/
def s_down (f : Nat → Int32) (s : Nat) : Nat → Int32 := fun i =>
  if i = 0 then f 0 + f (24 + 23 * s + 4) else if i = 8 then f 8 - 1 else if 24 + 23 * s ≤ i ∧ i < 24 + 23 * (nS f - 1) then f (i + 23) else f i
def s_coll (f : Nat → Int32) (s : Nat) : Nat → Int32 := upd (upd f 0 (f 0 + f (24 + 23 * s + 4))) (24 + 23 * s + 4) 0
theorem ix_23 (s : Nat) : (24 : Int32) + 23 * nI s = nI (24 + 23 * s) := by
  rw [show (24 : Int32) = nI 24 from rfl, show (23 : Int32) = nI 23 from rfl, pk_mul, nI_add]
theorem c_empty {c s : Nat} {σ0 : Sg} {f b : Nat → Int32} {σ : Sg} (h : GR c σ0 f b σ) (h7 : nS f ≤ 7) (hs : s < nS f) : ∃ σ', f_X1_emptyPurse c σ (nI s) = some (f (24 + 23 * s + 4), σ') ∧ GR c σ0 (s_coll f s) b σ' := by
  unfold f_X1_emptyPurse s_coll
  rw [gd_ok rfl (show s < 7 by omega) (by omega), sk_nI (by omega), h.1.s4 hs h7, st_eq, u2_rc (by omega), h.1.r0, st_eq]
  have h1 := (h.s4 (s := s) (v := 0) (by omega)).F (i := 0) (v := f 0 + f (24 + 23 * s + 4)) (by omega)
  refine ⟨_, rfl, ?_⟩
  have e : upd (upd f 0 (f 0 + f (24 + 23 * s + 4))) (24 + 23 * s + 4) 0 = upd (upd f (24 + 23 * s + 4) 0) 0 (f 0 + f (24 + 23 * s + 4)) := by
    funext i
    simp only [upd_app]
    grind
  rw [e]
  exact h1
theorem c_remL {c ns : Nat} (h7 : ns ≤ 7) : ∀ (e i n : Nat) (τ : Sg), i + 1 + e = ns → e < n → τ c 10 = nI ns → (∀ s, s < ns → vp_in (τ (c + 13 + 2 * s) 3) 2 ∧ vp_in (τ (c + 13 + 2 * s) 4) 2) → ∃ τ', l_X1_removeStall_2 c n τ (nI i) = some τ' ∧ τ' c = upd (τ c) 10 (nI (ns - 1)) ∧ (∀ s, i ≤ s → s + 1 < ns → (∀ w, w < 9 → τ' (c + 13 + 2 * s) w = τ (c + 13 + 2 * (s + 1)) w) ∧ ∀ w, w < 16 → τ' (c + 13 + 2 * s + 1) w = τ (c + 13 + 2 * (s + 1) + 1) w) ∧ ∀ a, a ≠ c → (a < c + 13 + 2 * i ∨ c + 13 + 2 * (ns - 1) ≤ a) → τ' a = τ a := by
  intro e
  induction e with
  | zero =>
    intro i n τ hi hn h10 hb
    obtain ⟨m, rfl⟩ : ∃ m, n = m + 1 := ⟨n - 1, by omega⟩
    rw [l_X1_removeStall_2.eq_2, h10, nI_1, if_pos (nI_le (by omega) (by omega)), st_eq]
    refine ⟨_, rfl, ?_, fun s h1 h2 => by omega, fun a ha _ => u2_cell ha⟩
    rw [u2_row, show (1 : Int32) = nI 1 from rfl, pk_sub (by omega)]
  | succ e ih =>
    intro i n τ hi hn h10 hb
    obtain ⟨m, rfl⟩ : ∃ m, n = m + 1 := ⟨n - 1, by omega⟩
    obtain ⟨b3, b4⟩ := hb (i + 1) (by omega)
    obtain ⟨τ1, x1, y1, y2, y3⟩ := c3_copy (q := c + 13 + 2 * i) (r := c + 13 + 2 * (i + 1)) (σ := τ) (by omega) b3 b4
    rw [l_X1_removeStall_2.eq_2, h10, nI_1, if_neg (nI_ge (by omega) (by omega)), gd_ok rfl (show i < 7 by omega) (by omega), gd_ok rfl (show i + 1 < 7 by omega) (by omega), sk_nI (by omega), sk_nI (by omega), x1, b1_some]
    have hb' : ∀ s, s < ns → vp_in (τ1 (c + 13 + 2 * s) 3) 2 ∧ vp_in (τ1 (c + 13 + 2 * s) 4) 2 := by
      intro s hs
      by_cases q : s = i
      · subst q
        rw [y1 3 (by omega), y1 4 (by omega)]
        exact ⟨b3, b4⟩
      · rw [y3 _ (by omega) (by omega)]
        exact hb s hs
    obtain ⟨τ2, x2, z0, z1, z2⟩ := ih (i + 1) m τ1 (by omega) (by omega) (by rw [y3 c (by omega) (by omega)]; exact h10) hb'
    refine ⟨τ2, x2, by rw [z0, y3 c (by omega) (by omega)], fun s h1 h2 => ?_, fun a ha hb2 => ?_⟩
    · by_cases q : s = i
      · subst q
        rw [z2 (c + 13 + 2 * s) (by omega) (by omega), z2 (c + 13 + 2 * s + 1) (by omega) (by omega)]
        exact ⟨y1, y2⟩
      · have := z1 s (by omega) h2
        rw [y3 (c + 13 + 2 * (s + 1)) (by omega) (by omega), y3 (c + 13 + 2 * (s + 1) + 1) (by omega) (by omega)] at this
        exact this
    · rw [z2 a ha (by omega), y3 a (by omega) (by omega)]
theorem nS_coll {f : Nat → Int32} {s : Nat} : nS (s_coll f s) = nS f := by
  unfold s_coll
  rw [nS_upd (by omega), nS_upd (by omega)]
theorem nC_coll {f : Nat → Int32} {s : Nat} (hs : s < 7) : nC (s_coll f s) = nC f := by
  unfold s_coll
  rw [nC_upd (by omega), nC_upd (by omega)]
theorem nS_down {f : Nat → Int32} {s : Nat} (h8 : vp_in (f 8) 8) (h0 : 0 < nS f) : nS (s_down f s) = nS f - 1 := by
  have h := tc_vp h8
  have e : s_down f s 8 = nI (nS f - 1) := by
    unfold s_down
    rw [if_neg (by omega), if_pos rfl, ns_eq h8 (by omega), show (1 : Int32) = nI 1 from rfl, pk_sub (by omega)]
  have e2 : nS (s_down f s) = (nI (nS f - 1)).toNatClampNeg := by rw [← e]; rfl
  rw [e2]
  exact cl_nI (by unfold nS; omega)
theorem s_down_o {f : Nat → Int32} {s i : Nat} (h0 : i ≠ 0) (h8 : i ≠ 8) (h : i < 24 + 23 * s ∨ 24 + 23 * (nS f - 1) ≤ i) : s_down f s i = f i := by
  unfold s_down
  rw [if_neg h0, if_neg h8, if_neg (by omega)]
theorem s_down_s {f : Nat → Int32} {s t w : Nat} (h1 : s ≤ t) (h2 : t + 1 < nS f) (hw : w < 23) : s_down f s (24 + 23 * t + w) = f (24 + 23 * (t + 1) + w) := by
  unfold s_down
  rw [if_neg (by omega), if_neg (by omega), if_pos (by omega), show 24 + 23 * t + w + 23 = 24 + 23 * (t + 1) + w by omega]
theorem nC_down {f : Nat → Int32} {s : Nat} (h7 : nS f ≤ 7) (hs : s < nS f) : nC (s_down f s) = nC f := by
  unfold nC
  rw [s_down_o (by omega) (by omega) (by omega)]
/-- the stalls of the fair at c moved down one place, from s on -/
theorem fl_down {c s : Nat} {σ σ' : Sg} {f : Nat → Int32} (hr : FR c σ f) (h7 : nS f ≤ 7) (hs : s < nS f) (h8 : vp_in (f 8) 8) (h0 : ∀ i, i ≠ 10 → σ' c i = σ c i) (h10 : σ' c 10 = nI (nS f - 1)) (hS : ∀ t, s ≤ t → t + 1 < nS f → (∀ w, w < 9 → σ' (c + 13 + 2 * t) w = σ (c + 13 + 2 * (t + 1)) w) ∧ ∀ w, w < 16 → σ' (c + 13 + 2 * t + 1) w = σ (c + 13 + 2 * (t + 1) + 1) w) (ho : ∀ a, a ≠ c → a < c + 13 + 2 * s → σ' a = σ a) (g : Nat → Int32) (hg0 : ∀ i, i < 8 → g i = f i) (hg8 : g 8 = nI (nS f - 1)) (hg : ∀ i, 9 ≤ i → (i < 24 + 23 * s ∨ 185 ≤ i) → g i = f i) (hgs : ∀ t w, s ≤ t → t + 1 < nS f → w < 23 → g (24 + 23 * t + w) = f (24 + 23 * (t + 1) + w)) (i : Nat) (hv : vld (nS f - 1) (nC f) i) : fl c σ' i = g i := by
  have hrv := hr.1
  unfold vld at hv hrv
  by_cases a1 : i < 8
  · rw [hg0 i a1, ← hrv i (by omega)]
    unfold fl
    rw [if_pos a1, if_pos a1]
    exact h0 i (by omega)
  by_cases a2 : i = 8
  · subst a2
    rw [fr_8, h10, hg8]
  by_cases a3 : i < 24 + 23 * s ∨ 185 ≤ i
  · rw [hg i (by omega) a3, ← hrv i (by omega)]
    unfold fl
    rw [if_neg a1, if_neg a1, if_neg a2, if_neg a2]
    by_cases b1 : i = 9
    · rw [if_pos b1, if_pos b1, ho _ (by omega) (by omega)]
    rw [if_neg b1, if_neg b1]
    by_cases b2 : i < 14
    · rw [if_pos b2, if_pos b2, ho _ (by omega) (by omega)]
    rw [if_neg b2, if_neg b2]
    by_cases b3 : i < 24
    · rw [if_pos b3, if_pos b3, ho _ (by omega) (by omega)]
    rw [if_neg b3, if_neg b3]
    by_cases b4 : i < 185
    · rw [if_pos b4, if_pos b4, ho _ (by omega) (by omega), ho (c + 13 + 2 * ((i - 24) / 23) + 1) (by omega) (by omega)]
    · rw [if_neg b4, if_neg b4, ho (c + 4 + 6) (by omega) (by omega), ho (c + 4 + (1 + (i - 185) % 8)) (by omega) (by omega)]
  · obtain ⟨t, w, hw, rfl⟩ : ∃ t w, w < 23 ∧ i = 24 + 23 * t + w := ⟨(i - 24) / 23, (i - 24) % 23, by omega, by omega⟩
    have ht : s ≤ t ∧ t + 1 < nS f := by omega
    obtain ⟨S1, S2⟩ := hS t ht.1 ht.2
    rw [hgs t w ht.1 ht.2 hw]
    by_cases w7 : w < 7
    · have : w = 0 ∨ w = 1 ∨ w = 2 ∨ w = 3 ∨ w = 4 ∨ w = 5 ∨ w = 6 := by omega
      rcases this with rfl | rfl | rfl | rfl | rfl | rfl | rfl
      · rw [fr_s0 (by omega), S1 _ (by omega), hr.s0 ht.2 h7]
      · rw [fr_s1 (by omega), S1 _ (by omega), hr.s1 ht.2 h7]
      · rw [fr_s2 (by omega), S1 _ (by omega), hr.s2 ht.2 h7]
      · rw [fr_s3 (by omega), S1 _ (by omega), hr.s3 ht.2 h7]
      · rw [fr_s4 (by omega), S1 _ (by omega), hr.s4 ht.2 h7]
      · rw [fr_s5 (by omega), S1 _ (by omega), hr.s5 ht.2 h7]
      · rw [fr_s6 (by omega), S1 _ (by omega), hr.s6 ht.2 h7]
    · rw [show 24 + 23 * t + w = 24 + 23 * t + 7 + (w - 7) by omega, fr_sh (by omega) (by omega), S2 _ (by omega), hr.sh ht.2 h7 (by omega), show 24 + 23 * (t + 1) + 7 + (w - 7) = 24 + 23 * (t + 1) + w by omega]
theorem c_down {c s : Nat} {σ0 : Sg} {f : Nat → Int32} {σ : Sg} (h : FR c σ f) (ho : ∀ a, a < c ∨ c + 27 ≤ a → σ a = σ0 a) (hw : WB f) (hs : s < nS f) : ∃ σ1 σ', f_X1_emptyPurse c σ (nI s) = some (f (24 + 23 * s + 4), σ1) ∧ f_X1_removeStall c σ1 (nI s) = some σ' ∧ FR c σ' (s_down f s) ∧ ∀ a, a < c ∨ c + 27 ≤ a → σ' a = σ0 a := by
  have h7 := hw.s7
  have hc := hw.c200
  have hs7 : s < 7 := by omega
  have h0 : GR c σ0 f (fun s => σ (c + 13 + 2 * s) 9) σ := ⟨h, fun _ _ => rfl, ho⟩
  obtain ⟨σ1, x1, g1⟩ := c_empty h0 h7 hs
  have n8 : nS (s_coll f s) = nS f := nS_coll
  have n9 : nC (s_coll f s) = nC f := nC_coll hs7
  have e8 : s_coll f s 8 = f 8 := by unfold s_coll; rw [upd_n (by omega), upd_n (by omega)]
  have v8 : vp_in (s_coll f s 8) 8 := by rw [e8]; exact hw.ns
  have co : ∀ i, i ≠ 0 → i ≠ 24 + 23 * s + 4 → s_coll f s i = f i := fun i h1 h2 => by unfold s_coll; rw [upd_n h2, upd_n h1]
  have c0 : s_coll f s 0 = f 0 + f (24 + 23 * s + 4) := by unfold s_coll; rw [upd_n (by omega), upd_s]
  obtain ⟨σ2, x2, y0, y1, y2⟩ := c_remL (c := c) (ns := nS f) h7 (nS f - 1 - s) s 10000 σ1 (by omega) (by omega) (by rw [g1.1.r8, e8]; exact ns_eq hw.ns (by omega)) (fun t ht => by
    rw [g1.1.s3 (by omega) (by omega), g1.1.s6 (by omega) (by omega), co _ (by omega) (by omega), co _ (by omega) (by omega)]
    exact ⟨(hw.st t ht).roof, (hw.st t ht).opn⟩)
  have d8 := nS_down (s := s) hw.ns (by omega)
  have d9 := nC_down h7 hs
  have hvr := g1.1.1
  refine ⟨σ1, σ2, x1, x2, ?_, fun a ha => ?_⟩
  · obtain ⟨r1, ⟨ft, r2, r3, r4⟩, r5, r6⟩ := g1.1
    refine ⟨fun i hi => ?_, ⟨ft, by omega, ?_, fun k hk => ?_⟩, fun k hk => ?_, fun t ht => ?_⟩
    · rw [d8, d9, ← n8, ← n9] at hi
      refine fl_down g1.1 (by omega) (show s < nS (s_coll f s) by omega) v8 (fun i hi => by rw [y0, upd_n hi]) (by rw [y0, upd_s, n8]) (fun t h1 h2 => y1 t h1 (by omega)) (fun a h1 h2 => y2 a h1 (by omega)) (s_down f s) (fun i hi => ?_) ?_ (fun i h1 h2 => ?_) (fun t w h1 h2 hw => ?_) i hi
      · by_cases e : i = 0
        · subst e; rw [c0]; rfl
        · rw [s_down_o e (by omega) (by omega), co i e (by omega)]
      · unfold s_down
        rw [if_neg (by omega), if_pos rfl, n8, ns_eq hw.ns (by omega), show (1 : Int32) = nI 1 from rfl, pk_sub (by omega)]
      · rw [s_down_o (by omega) (by omega) (by omega), co i (by omega) (by omega)]
      · rw [s_down_s h1 (by omega) hw, co _ (by omega) (by omega)]
    · rw [y2 _ (by omega) (by omega)]; exact r3
    · rw [s_down_o (by omega) (by omega) (by omega), ← co _ (by omega) (by omega)]; exact r4 k hk
    · rw [d9] at hk
      rw [y2 _ (by omega) (by omega)]; exact r5 k (by omega)
    · rw [d8] at ht
      by_cases e : t < s
      · rw [y2 _ (by omega) (by omega), s_down_o (by omega) (by omega) (by omega), ← co _ (by omega) (by omega)]
        exact r6 t (by omega)
      · obtain ⟨S1, S2⟩ := y1 t (by omega) (by omega)
        rw [S1 7 (by omega), S1 8 (by omega), s_down_s (by omega) (by omega) (by omega), ← co _ (by omega) (by omega)]
        exact r6 (t + 1) (by omega)
  · rw [y2 a (by omega) (by omega)]
    exact g1.2.2 a ha

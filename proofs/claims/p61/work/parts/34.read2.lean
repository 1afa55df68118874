/-! bounds of a fair -/
def SW (f : Nat → Int32) (s : Nat) : Prop := (vp_in (f (24 + 23 * s + 0)) 12) ∧ (vp_in (f (24 + 23 * s + 1)) 5) ∧ (vp_in (f (24 + 23 * s + 2)) 10) ∧ (f (24 + 23 * s + 2) ≠ 0) ∧ (vp_in (f (24 + 23 * s + 3)) 2) ∧ (vp_in (f (24 + 23 * s + 6)) 2) ∧ (∀ i, i < 16 → vp_in (f (24 + 23 * s + 7 + i)) 41)
theorem SW.pitch {f : Nat → Int32} {s : Nat} (h : SW f s) : vp_in (f (24 + 23 * s + 0)) 12 := h.1
theorem SW.kind {f : Nat → Int32} {s : Nat} (h : SW f s) : vp_in (f (24 + 23 * s + 1)) 5 := h.2.1
theorem SW.price {f : Nat → Int32} {s : Nat} (h : SW f s) : vp_in (f (24 + 23 * s + 2)) 10 := h.2.2.1
theorem SW.price1 {f : Nat → Int32} {s : Nat} (h : SW f s) : f (24 + 23 * s + 2) ≠ 0 := h.2.2.2.1
theorem SW.roof {f : Nat → Int32} {s : Nat} (h : SW f s) : vp_in (f (24 + 23 * s + 3)) 2 := h.2.2.2.2.1
theorem SW.opn {f : Nat → Int32} {s : Nat} (h : SW f s) : vp_in (f (24 + 23 * s + 6)) 2 := h.2.2.2.2.2.1
theorem SW.shelf {f : Nat → Int32} {s : Nat} (h : SW f s) : ∀ i, i < 16 → vp_in (f (24 + 23 * s + 7 + i)) 41 := h.2.2.2.2.2.2
def CW (f : Nat → Int32) (k : Nat) : Prop := (vp_in (f (185 + 8 * k + 1)) 101) ∧ (vp_in (f (185 + 8 * k + 2)) 5) ∧ (vp_in (f (185 + 8 * k + 3)) 4) ∧ (f (185 + 8 * k + 4) = -1 ∧ f (185 + 8 * k + 5) = 1 ∨ vp_in (f (185 + 8 * k + 4)) 12) ∧ (vp_in (f (185 + 8 * k + 5)) 2) ∧ (vp_in (f (185 + 8 * k + 6)) 3)
theorem CW.mood {f : Nat → Int32} {k : Nat} (h : CW f k) : vp_in (f (185 + 8 * k + 1)) 101 := h.1
theorem CW.likes {f : Nat → Int32} {k : Nat} (h : CW f k) : vp_in (f (185 + 8 * k + 2)) 5 := h.2.1
theorem CW.colour {f : Nat → Int32} {k : Nat} (h : CW f k) : vp_in (f (185 + 8 * k + 3)) 4 := h.2.2.1
theorem CW.at_ {f : Nat → Int32} {k : Nat} (h : CW f k) : f (185 + 8 * k + 4) = -1 ∧ f (185 + 8 * k + 5) = 1 ∨ vp_in (f (185 + 8 * k + 4)) 12 := h.2.2.2.1
theorem CW.way {f : Nat → Int32} {k : Nat} (h : CW f k) : vp_in (f (185 + 8 * k + 5)) 2 := h.2.2.2.2.1
theorem CW.here {f : Nat → Int32} {k : Nat} (h : CW f k) : vp_in (f (185 + 8 * k + 6)) 3 := h.2.2.2.2.2
def WB (f : Nat → Int32) : Prop := (vp_in (f 6) 10001) ∧ (vp_in (f 7) 41) ∧ (vp_in (f 8) 8) ∧ (vp_in (f 9) 201) ∧ (∀ h, h < 10 → vp_in (f (14 + h)) 10) ∧ (∀ s, s < nS f → SW f s) ∧ (∀ k, k < nC f → CW f k)
theorem WB.day {f : Nat → Int32} (h : WB f) : vp_in (f 6) 10001 := h.1
theorem WB.rnd {f : Nat → Int32} (h : WB f) : vp_in (f 7) 41 := h.2.1
theorem WB.ns {f : Nat → Int32} (h : WB f) : vp_in (f 8) 8 := h.2.2.1
theorem WB.nc {f : Nat → Int32} (h : WB f) : vp_in (f 9) 201 := h.2.2.2.1
theorem WB.rain {f : Nat → Int32} (h : WB f) : ∀ h, h < 10 → vp_in (f (14 + h)) 10 := h.2.2.2.2.1
theorem WB.st {f : Nat → Int32} (h : WB f) : ∀ s, s < nS f → SW f s := h.2.2.2.2.2.1
theorem WB.ch {f : Nat → Int32} (h : WB f) : ∀ k, k < nC f → CW f k := h.2.2.2.2.2.2
theorem WB.s7 {f : Nat → Int32} (h : WB f) : nS f ≤ 7 := by
  have := tc_vp h.ns
  unfold nS
  omega
theorem WB.c200 {f : Nat → Int32} (h : WB f) : nC f ≤ 200 := by
  have := tc_vp h.nc
  unfold nC
  omega
/-! the class's search of a prize -/
def s_lvc (f : Nat → Int32) (s : Nat) : Nat → Int32
  | 0 => -1
  | i + 1 => if f (24 + 23 * s + 7 + i) ≤ 0 then s_lvc f s i else if grt (f (24 + 23 * s + 1)) < nI (i / 4) then s_lvc f s i else nI (i / 4)
theorem c_lvcA {c s : Nat} {σ : Sg} {f : Nat → Int32} (hR : FR c σ f) (hs : s < nS f) (h7 : nS f ≤ 7) : ∀ (i n : Nat), i ≤ 16 → i < n → l_X3_levelOnOffer_3 (c + 13 + 2 * s) n σ (nI i + (-1)) = some (s_lvc f s i) := by
  intro i
  induction i with
  | zero =>
    intro n hk hn
    obtain ⟨m, rfl⟩ : ∃ m, n = m + 1 := ⟨n - 1, by omega⟩
    rw [l_X3_levelOnOffer_3.eq_2, if_pos (by decide)]
    rfl
  | succ i ih =>
    intro n hk hn
    obtain ⟨m, rfl⟩ : ∃ m, n = m + 1 := ⟨n - 1, by omega⟩
    rw [l_X3_levelOnOffer_3.eq_2, pk_m1, if_neg (nI_nlt0 (by omega)), gd_ok rfl (show i < 16 by omega) (by omega), cl_nI (by omega), hR.sh hs h7 (by omega), show (4 : Int32) = nI 4 from rfl, pk_div (by omega) (by omega) (by omega), (hR.2.2.2 s hs).2, ih m (by omega) (by omega), s_lvc]
    repeat' split
    all_goals rfl
theorem vp_le0 {x : Int32} {n : Nat} (h : vp_in x n) : x ≤ 0 ↔ x = 0 := by
  have := tI_vp h
  rw [tI_le, tI_eq, Int32.toInt_zero]
  omega
theorem s_four {a b c d : Int32} (ha : vp_in a 41) (hb : vp_in b 41) (hc : vp_in c 41) (hd : vp_in d 41) : a + b + c + d = 0 ↔ a = 0 ∧ b = 0 ∧ c = 0 ∧ d = 0 := by
  obtain ⟨a, ha, rfl⟩ := vp_ex ha (by omega)
  obtain ⟨b, hb, rfl⟩ := vp_ex hb (by omega)
  obtain ⟨c, hc, rfl⟩ := vp_ex hc (by omega)
  obtain ⟨d, hd, rfl⟩ := vp_ex hd (by omega)
  rw [nI_add, nI_add, nI_add, show (0 : Int32) = nI 0 from rfl, nI_eq (by omega) (by omega), nI_eq (by omega) (by omega), nI_eq (by omega) (by omega), nI_eq (by omega) (by omega), nI_eq (by omega) (by omega)]
  omega
theorem grt_lt {k : Int32} {l : Nat} (hl : l < 4) : grt k < nI l ↔ grn k ≤ l := by
  have h1 : l = 0 ∨ l = 1 ∨ l = 2 ∨ l = 3 := by omega
  unfold grn grt
  rcases h1 with rfl | rfl | rfl | rfl
  all_goals
    repeat' split
  all_goals decide
theorem s_lvc1 {f : Nat → Int32} {s i l : Nat} (hw : SW f s) (hl : l < 4) (hi : i / 4 = l) : s_lvc f s (i + 1) = if f (24 + 23 * s + 7 + i) = 0 then s_lvc f s i else if grn (f (24 + 23 * s + 1)) ≤ l then s_lvc f s i else nI l := by
  have e0 := hw.shelf i (by omega)
  rw [s_lvc]
  simp only [vp_le0 e0, hi, grt_lt hl]
theorem s_lvc4 {f : Nat → Int32} {s l : Nat} (hw : SW f s) (hl : l < 4) : s_lvc f s (4 * (l + 1)) = if f (24 + 23 * s + (7 + 4 * l + 0)) + f (24 + 23 * s + (7 + 4 * l + 1)) + f (24 + 23 * s + (7 + 4 * l + 2)) + f (24 + 23 * s + (7 + 4 * l + 3)) = 0 then s_lvc f s (4 * l) else if grn (f (24 + 23 * s + 1)) ≤ l then s_lvc f s (4 * l) else nI l := by
  have e0 := hw.shelf (4 * l) (by omega)
  have e1 := hw.shelf (4 * l + 1) (by omega)
  have e2 := hw.shelf (4 * l + 2) (by omega)
  have e3 := hw.shelf (4 * l + 3) (by omega)
  have k0 := s_lvc1 (i := 4 * l) hw hl (by omega)
  have k1 := s_lvc1 (i := 4 * l + 1) hw hl (by omega)
  have k2 := s_lvc1 (i := 4 * l + 2) hw hl (by omega)
  have k3 := s_lvc1 (i := 4 * l + 3) hw hl (by omega)
  rw [show 24 + 23 * s + (7 + 4 * l + 0) = 24 + 23 * s + 7 + 4 * l by omega, show 24 + 23 * s + (7 + 4 * l + 1) = 24 + 23 * s + 7 + (4 * l + 1) by omega, show 24 + 23 * s + (7 + 4 * l + 2) = 24 + 23 * s + 7 + (4 * l + 2) by omega, show 24 + 23 * s + (7 + 4 * l + 3) = 24 + 23 * s + 7 + (4 * l + 3) by omega]
  simp only [s_four e0 e1 e2 e3]
  rw [show 4 * (l + 1) = 4 * l + 3 + 1 from rfl, k3, show 4 * l + 3 = 4 * l + 2 + 1 from rfl, k2, show 4 * l + 2 = 4 * l + 1 + 1 from rfl, k1, k0]
  generalize f (24 + 23 * s + 7 + 4 * l) = x0
  generalize f (24 + 23 * s + 7 + (4 * l + 1)) = x1
  generalize f (24 + 23 * s + 7 + (4 * l + 1 + 1)) = x2
  generalize f (24 + 23 * s + 7 + (4 * l + 1 + 1 + 1)) = x3
  grind
theorem s_lvc_eq {f : Nat → Int32} {s : Nat} (hw : SW f s) : s_lvc f s 16 = oI (s_best f s) := by
  have h3 := s_lvc4 (l := 3) hw (by omega)
  have h2 := s_lvc4 (l := 2) hw (by omega)
  have h1 := s_lvc4 (l := 1) hw (by omega)
  have h0 := s_lvc4 (l := 0) hw (by omega)
  have hg := @grn_lt (f (24 + 23 * s + 1))
  have hz : s_lvc f s (4 * 0) = -1 := rfl
  unfold s_best
  rw [show 16 = 4 * (3 + 1) from rfl, h3, show 4 * 3 = 4 * (2 + 1) from rfl, h2, show 4 * 2 = 4 * (1 + 1) from rfl, h1, show 4 * 1 = 4 * (0 + 1) from rfl, h0, hz]
  generalize hgg : grn (f (24 + 23 * s + 1)) = g at hg ⊢
  have h1 : g = 0 ∨ g = 1 ∨ g = 2 ∨ g = 3 ∨ g = 4 := by omega
  rcases h1 with rfl | rfl | rfl | rfl | rfl
  all_goals simp only [s_lvl]
  all_goals repeat' split
  all_goals first
    | rfl
    | omega
theorem c_best {c s : Nat} {σ : Sg} {f : Nat → Int32} (hR : FR c σ f) (hw : WB f) (hs : s < nS f) : f_X3_levelOnOffer (c + 13 + 2 * s) σ = some (oI (s_best f s)) := by
  rw [← s_lvc_eq (hw.st s hs)]
  exact c_lvcA hR hs hw.s7 16 10000 (by omega) (by omega)
/-- the colour of the prize that a child gets -/
def s_colA (f : Nat → Int32) (s l : Nat) : Nat → Nat → Nat
  | 0, j => j
  | d + 1, j => if f (24 + 23 * s + (7 + 4 * l + j)) = 0 then s_colA f s l d (j + 1) else j
def s_col (f : Nat → Int32) (s l q : Nat) : Nat := if f (24 + 23 * s + (7 + 4 * l + q)) ≤ 0 then s_colA f s l 3 0 else q

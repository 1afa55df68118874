/-! copies from fair to fair, in the class -/
theorem lc_16 : (16 : Int32).toNatClampNeg = 16 := by decide
theorem cpy2_o {σ : Sg} {k0 k1 n a : Nat} (h : a ≠ k1) : cpy2 σ k0 k1 n a = σ a := if_neg h
theorem cpy2_s {σ : Sg} {k0 k1 n i : Nat} (h : i < n) : cpy2 σ k0 k1 n k1 i = σ k0 i := by
  show (if k1 = k1 then va_cpy (σ k0) (σ k1) 0 0 n else σ k1) i = _
  rw [if_pos rfl]
  show (if 0 ≤ i ∧ i < 0 + n then σ k0 (0 + (i - 0)) else σ k1 i) = _
  rw [if_pos (by omega), show 0 + (i - 0) = i by omega]
theorem c3_copy {q r : Nat} {σ : Sg} (hd : q + 1 < r ∨ r + 1 < q) (h3 : vp_in (σ r 3) 2) (h4 : vp_in (σ r 4) 2) : ∃ σ', f_X3_copyFrom q r σ = some σ' ∧ (∀ i, i < 9 → σ' q i = σ r i) ∧ (∀ i, i < 16 → σ' (q + 1) i = σ (r + 1) i) ∧ ∀ a, a ≠ q → a ≠ q + 1 → σ' a = σ a := by
  have hrq : r ≠ q := by omega
  unfold f_X3_copyFrom
  simp only [st_eq, u2_rc hrq, lc_16]
  rw [gd_in h3, gd_in h4]
  refine ⟨_, rfl, fun i hi => ?_, fun i hi => ?_, fun a h1 h2 => ?_⟩
  · rw [cpy2_o (by omega)]
    simp only [u2_app, if_true]
    have : i = 0 ∨ i = 1 ∨ i = 2 ∨ i = 3 ∨ i = 4 ∨ i = 5 ∨ i = 6 ∨ i = 7 ∨ i = 8 := by omega
    rcases this with rfl | rfl | rfl | rfl | rfl | rfl | rfl | rfl | rfl <;> rfl
  · rw [cpy2_s hi]
    simp only [u2_cell (show r + 1 ≠ q by omega)]
  · rw [cpy2_o h2]
    simp only [u2_cell h1]
theorem c0_copy {q r nc : Nat} {σ : Sg} (hd : q + 8 < r ∨ r + 8 < q) (h : σ r 0 = nI nc) (hn : nc ≤ 200) : ∃ σ', f_X0_copyFrom q r σ = some σ' ∧ σ' q 0 = σ r 0 ∧ σ' q 1 = σ r 1 ∧ (∀ w, 1 ≤ w → w ≤ 8 → ∀ i, i < nc → σ' (q + w) i = σ (r + w) i) ∧ ∀ a, a < q ∨ q + 8 < a → σ' a = σ a := by
  have hrq : r ≠ q := by omega
  have g : ∀ {α : Type} {k : Option α}, gd (nI nc) 201 k = k := gd_ok rfl (by omega) (by omega)
  have hc : (nI nc).toNatClampNeg = nc := cl_nI (by omega)
  unfold f_X0_copyFrom
  simp only [st_eq, u2_rc hrq, cpy2_o (show r ≠ q + 1 by omega), cpy2_o (show r ≠ q + 2 by omega), cpy2_o (show r ≠ q + 3 by omega), cpy2_o (show r ≠ q + 4 by omega), cpy2_o (show r ≠ q + 5 by omega), cpy2_o (show r ≠ q + 6 by omega), cpy2_o (show r ≠ q + 7 by omega), h, g, hc]
  refine ⟨_, rfl, ?_, ?_, fun w h1 h2 i hi => ?_, fun a ha => ?_⟩
  · rw [cpy2_o (by omega), cpy2_o (by omega), cpy2_o (by omega), cpy2_o (by omega), cpy2_o (by omega), cpy2_o (by omega), cpy2_o (by omega), cpy2_o (by omega), u2_ri (by omega), u2_rs]
  · rw [cpy2_o (by omega), cpy2_o (by omega), cpy2_o (by omega), cpy2_o (by omega), cpy2_o (by omega), cpy2_o (by omega), cpy2_o (by omega), cpy2_o (by omega), u2_rs]
  · have : w = 1 ∨ w = 2 ∨ w = 3 ∨ w = 4 ∨ w = 5 ∨ w = 6 ∨ w = 7 ∨ w = 8 := by omega
    rcases this with rfl | rfl | rfl | rfl | rfl | rfl | rfl | rfl
    · rw [cpy2_o (by omega), cpy2_o (by omega), cpy2_o (by omega), cpy2_o (by omega), cpy2_o (by omega), cpy2_o (by omega), cpy2_o (by omega), cpy2_s hi, u2_cell (by omega), u2_cell (by omega)]
    · rw [cpy2_o (by omega), cpy2_o (by omega), cpy2_o (by omega), cpy2_o (by omega), cpy2_o (by omega), cpy2_o (by omega), cpy2_s hi, cpy2_o (by omega), u2_cell (by omega), u2_cell (by omega)]
    · rw [cpy2_o (by omega), cpy2_o (by omega), cpy2_o (by omega), cpy2_o (by omega), cpy2_o (by omega), cpy2_s hi, cpy2_o (by omega), cpy2_o (by omega), u2_cell (by omega), u2_cell (by omega)]
    · rw [cpy2_o (by omega), cpy2_o (by omega), cpy2_o (by omega), cpy2_o (by omega), cpy2_s hi, cpy2_o (by omega), cpy2_o (by omega), cpy2_o (by omega), u2_cell (by omega), u2_cell (by omega)]
    · rw [cpy2_o (by omega), cpy2_o (by omega), cpy2_o (by omega), cpy2_s hi, cpy2_o (by omega), cpy2_o (by omega), cpy2_o (by omega), cpy2_o (by omega), u2_cell (by omega), u2_cell (by omega)]
    · rw [cpy2_o (by omega), cpy2_o (by omega), cpy2_s hi, cpy2_o (by omega), cpy2_o (by omega), cpy2_o (by omega), cpy2_o (by omega), cpy2_o (by omega), u2_cell (by omega), u2_cell (by omega)]
    · rw [cpy2_o (by omega), cpy2_s hi, cpy2_o (by omega), cpy2_o (by omega), cpy2_o (by omega), cpy2_o (by omega), cpy2_o (by omega), cpy2_o (by omega), u2_cell (by omega), u2_cell (by omega)]
    · rw [cpy2_s hi, cpy2_o (by omega), cpy2_o (by omega), cpy2_o (by omega), cpy2_o (by omega), cpy2_o (by omega), cpy2_o (by omega), cpy2_o (by omega), u2_cell (by omega), u2_cell (by omega)]
  · rw [cpy2_o (by omega), cpy2_o (by omega), cpy2_o (by omega), cpy2_o (by omega), cpy2_o (by omega), cpy2_o (by omega), cpy2_o (by omega), cpy2_o (by omega), u2_cell (by omega), u2_cell (by omega)]
theorem c1_copyL {c d ns : Nat} (hd : c + 27 ≤ d ∨ d + 27 ≤ c) (h7 : ns ≤ 7) : ∀ (e i n : Nat) (τ : Sg), i + e = ns → e < n → τ c 10 = nI ns → (∀ s, s < ns → vp_in (τ (d + 13 + 2 * s) 3) 2 ∧ vp_in (τ (d + 13 + 2 * s) 4) 2) → ∃ τ', l_X1_copyFrom_103 c d n τ (nI i) = (b1 (f_X0_copyFrom (c + 4) (d + 4) τ') fun σ26 => some σ26) ∧ (∀ s, i ≤ s → s < ns → (∀ w, w < 9 → τ' (c + 13 + 2 * s) w = τ (d + 13 + 2 * s) w) ∧ ∀ w, w < 16 → τ' (c + 13 + 2 * s + 1) w = τ (d + 13 + 2 * s + 1) w) ∧ ∀ a, a < c + 13 + 2 * i ∨ c + 27 ≤ a → τ' a = τ a := by
  intro e
  induction e with
  | zero =>
    intro i n τ hi hn h10 hb
    obtain ⟨m, rfl⟩ : ∃ m, n = m + 1 := ⟨n - 1, by omega⟩
    rw [l_X1_copyFrom_103.eq_2, h10, if_pos (nI_le (by omega) (by omega))]
    exact ⟨τ, rfl, fun s h1 h2 => by omega, fun _ _ => rfl⟩
  | succ e ih =>
    intro i n τ hi hn h10 hb
    obtain ⟨m, rfl⟩ : ∃ m, n = m + 1 := ⟨n - 1, by omega⟩
    obtain ⟨b3, b4⟩ := hb i (by omega)
    obtain ⟨τ1, x1, y1, y2, y3⟩ := c3_copy (q := c + 13 + 2 * i) (r := d + 13 + 2 * i) (σ := τ) (by omega) b3 b4
    rw [l_X1_copyFrom_103.eq_2, h10, if_neg (nI_ge (by omega) (by omega)), gd_ok rfl (show i < 7 by omega) (by omega), sk_nI (by omega), sk_nI (by omega), x1, b1_some, nI_1]
    obtain ⟨τ2, x2, z1, z2⟩ := ih (i + 1) m τ1 (by omega) (by omega) (by rw [y3 c (by omega) (by omega)]; exact h10) (fun s hs => by rw [y3 (d + 13 + 2 * s) (by omega) (by omega)]; exact hb s hs)
    refine ⟨τ2, x2, fun s h1 h2 => ?_, fun a ha => ?_⟩
    · by_cases e : s = i
      · subst e
        rw [z2 (c + 13 + 2 * s) (by omega), z2 (c + 13 + 2 * s + 1) (by omega)]
        exact ⟨y1, y2⟩
      · have := z1 s (by omega) h2
        rw [y3 (d + 13 + 2 * s) (by omega) (by omega), y3 (d + 13 + 2 * s + 1) (by omega) (by omega)] at this
        exact this
    · rw [z2 a (by omega), y3 a (by omega) (by omega)]
theorem lc_10' : (10 : Int32).toNatClampNeg = 10 := by decide
theorem sw_lt {w : Nat} (h : w < 7) : sw w < 9 := by
  unfold sw
  repeat' split
  all_goals omega
/-- what a copy of a fair has in its cells is what the fair had -/
theorem fl_copy {c d : Nat} {σ σ' : Sg} {ns nc : Nat} (h7 : ns ≤ 7) (hF : ∀ i, i < 8 → σ' c i = σ d i) (h10 : σ' c 10 = σ d 10) (hr : ∀ i, i < 10 → σ' (c + 1) i = σ (d + 1) i) (hwn : ∀ i, i < 4 → σ' (c + 2) i = σ (d + 2) i) (h40 : σ' (c + 4) 0 = σ (d + 4) 0) (hS : ∀ s, s < ns → (∀ w, w < 9 → σ' (c + 13 + 2 * s) w = σ (d + 13 + 2 * s) w) ∧ ∀ w, w < 16 → σ' (c + 13 + 2 * s + 1) w = σ (d + 13 + 2 * s + 1) w) (hC : ∀ w, 1 ≤ w → w ≤ 8 → ∀ i, i < nc → σ' (c + 4 + w) i = σ (d + 4 + w) i) (i : Nat) (hv : vld ns nc i) : fl c σ' i = fl d σ i := by
  unfold vld at hv
  unfold fl
  by_cases a1 : i < 8
  · rw [if_pos a1, if_pos a1]; exact hF i a1
  rw [if_neg a1, if_neg a1]
  by_cases a2 : i = 8
  · rw [if_pos a2, if_pos a2]; exact h10
  rw [if_neg a2, if_neg a2]
  by_cases a3 : i = 9
  · rw [if_pos a3, if_pos a3]; exact h40
  rw [if_neg a3, if_neg a3]
  by_cases a4 : i < 14
  · rw [if_pos a4, if_pos a4]; exact hwn _ (by omega)
  rw [if_neg a4, if_neg a4]
  by_cases a5 : i < 24
  · rw [if_pos a5, if_pos a5]; exact hr _ (by omega)
  rw [if_neg a5, if_neg a5]
  by_cases a6 : i < 185
  · rw [if_pos a6, if_pos a6]
    have hs := hS ((i - 24) / 23) (by omega)
    by_cases a7 : (i - 24) % 23 < 7
    · rw [if_pos a7, if_pos a7]; exact hs.1 _ (sw_lt a7)
    · rw [if_neg a7, if_neg a7]; exact hs.2 _ (by omega)
  · rw [if_neg a6, if_neg a6]
    by_cases a7 : (i - 185) % 8 = 5
    · rw [if_pos a7, if_pos a7, hC 6 (by omega) (by omega) _ (by omega)]
    · rw [if_neg a7, if_neg a7]; exact hC _ (by omega) (by omega) _ (by omega)
theorem c_copy {c d : Nat} (hd : c + 27 ≤ d ∨ d + 27 ≤ c) {σ : Sg} {f : Nat → Int32} (h : FR d σ f) (hw : WB f) : ∃ σ', f_X1_copyFrom c d σ = some σ' ∧ FR c σ' f ∧ ∀ a, a < c ∨ c + 27 ≤ a → σ' a = σ a := by
  have h7 := hw.s7
  have hc := hw.c200
  have hdc : d ≠ c := by omega
  obtain ⟨T, hT⟩ : ∃ T, T = u2 (cpy2 (cpy2 (u2 (u2 (u2 (u2 (u2 (u2 (u2 (u2 σ c 0 (σ d 0)) c 1 (σ d 1)) c 2 (σ d 2)) c 3 (σ d 3)) c 4 (σ d 4)) c 5 (σ d 5)) c 6 (σ d 6)) c 7 (σ d 7)) (d + 1) (c + 1) 10) (d + 2) (c + 2) 4) c 10 (σ d 10) := ⟨_, rfl⟩
  have To : ∀ a, a ≠ c → a ≠ c + 1 → a ≠ c + 2 → T a = σ a := by
    intro a h1 h2 h3
    rw [hT, u2_cell h1, cpy2_o h3, cpy2_o h2]
    simp only [u2_cell h1]
  have TF : ∀ i, i < 8 → T c i = σ d i := by
    intro i hi
    rw [hT, u2_ri (by omega), cpy2_o (by omega), cpy2_o (by omega)]
    simp only [u2_app, if_true]
    have : i = 0 ∨ i = 1 ∨ i = 2 ∨ i = 3 ∨ i = 4 ∨ i = 5 ∨ i = 6 ∨ i = 7 := by omega
    rcases this with rfl | rfl | rfl | rfl | rfl | rfl | rfl | rfl <;> rfl
  have T10 : T c 10 = σ d 10 := by rw [hT, u2_rs]
  have Tr : ∀ i, i < 10 → T (c + 1) i = σ (d + 1) i := by
    intro i hi
    rw [hT, u2_cell (by omega), cpy2_o (by omega), cpy2_s hi]
    simp only [u2_cell (show d + 1 ≠ c by omega)]
  have Tw : ∀ i, i < 4 → T (c + 2) i = σ (d + 2) i := by
    intro i hi
    rw [hT, u2_cell (by omega), cpy2_s hi, cpy2_o (by omega)]
    simp only [u2_cell (show d + 2 ≠ c by omega)]
  unfold f_X1_copyFrom
  simp only [st_eq, u2_rc hdc, cpy2_o (show d ≠ c + 1 by omega), cpy2_o (show d ≠ c + 2 by omega), lc_10, lc_4]
  rw [← hT]
  obtain ⟨σ1, x1, y1, y2⟩ := c1_copyL (ns := nS f) hd h7 (nS f) 0 10000 T (by omega) (by omega) (by rw [T10, h.r8]; exact ns_eq hw.ns (by omega)) (fun s hs => by
    rw [To _ (by omega) (by omega) (by omega), h.s3 hs h7, h.s6 hs h7]
    exact ⟨(hw.st s hs).roof, (hw.st s hs).opn⟩)
  obtain ⟨σ2, x2, z1, z2, z3, z4⟩ := c0_copy (q := c + 4) (r := d + 4) (nc := nC f) (σ := σ1) (by omega) (by rw [y2 _ (by omega), To _ (by omega) (by omega) (by omega), h.r9]; exact nc_eq hw.nc (by omega)) hc
  have e0 : (0 : Int32) = nI 0 := rfl
  rw [e0, x1, x2, b1_some]
  have S1 : ∀ a, a < c + 4 ∨ c + 27 ≤ a → σ2 a = T a := fun a ha => by rw [z4 a (by omega), y2 a (by omega)]
  have S2 : ∀ s, s < nS f → (∀ w, w < 9 → σ2 (c + 13 + 2 * s) w = σ (d + 13 + 2 * s) w) ∧ ∀ w, w < 16 → σ2 (c + 13 + 2 * s + 1) w = σ (d + 13 + 2 * s + 1) w := by
    intro s hs
    have := y1 s (by omega) hs
    rw [z4 _ (by omega), z4 _ (by omega)]
    rw [To (d + 13 + 2 * s) (by omega) (by omega) (by omega), To (d + 13 + 2 * s + 1) (by omega) (by omega) (by omega)] at this
    exact this
  have S3 : ∀ w, 1 ≤ w → w ≤ 8 → ∀ i, i < nC f → σ2 (c + 4 + w) i = σ (d + 4 + w) i := by
    intro w h1 h2 i hi
    rw [z3 w h1 h2 i hi, y2 _ (by omega), To _ (by omega) (by omega) (by omega)]
  have S4 : ∀ i, i < 2 → σ2 (c + 4) i = σ (d + 4) i := by
    intro i hi
    have : i = 0 ∨ i = 1 := by omega
    rcases this with rfl | rfl
    · rw [z1, y2 _ (by omega), To _ (by omega) (by omega) (by omega)]
    · rw [z2, y2 _ (by omega), To _ (by omega) (by omega) (by omega)]
  refine ⟨σ2, rfl, ?_, fun a ha => ?_⟩
  · obtain ⟨r1, ⟨ft, r2, r3, r4⟩, r5, r6⟩ := h
    refine ⟨fun i hi => ?_, ⟨ft, r2, by rw [S4 1 (by omega)]; exact r3, r4⟩, fun k hk => ?_, fun s hs => ?_⟩
    · rw [← r1 i hi]
      exact fl_copy h7 (fun i hi => by rw [S1 c (by omega)]; exact TF i hi) (by rw [S1 c (by omega)]; exact T10) (fun i hi => by rw [S1 _ (by omega)]; exact Tr i hi) (fun i hi => by rw [S1 _ (by omega)]; exact Tw i hi) (S4 0 (by omega)) S2 S3 i hi
    · rw [S3 6 (by omega) (by omega) k hk]; exact r5 k hk
    · rw [(S2 s hs).1 7 (by omega), (S2 s hs).1 8 (by omega)]; exact r6 s hs
  · rw [S1 a (by omega), To a (by omega) (by omega) (by omega)]

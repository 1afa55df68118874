/-! forecasts: what the day will bring -/
def PK (f : Nat → Int32) (n : Nat) : Prop := WB f ∧ Mo f ∧ vp_in (f 7) 40 ∧ QB f (200 * tm f) ∧ tm f + n ≤ 400000
theorem PK.c {c n e : Nat} {σ : Sg} {f : Nat → Int32} (b : Nat → Int32) (hcc : c = 1 ∨ c = 28 ∨ c = 55) (hR : FR c σ f) (h : PK f n) (hn : e ≤ n) (h40 : e ≤ 40) : ∃ σ', f_X1_letPass c σ (nI e) = some σ' ∧ FR c σ' (s_pass e f b).1 ∧ ∀ a, a < c ∨ c + 27 ≤ a → σ' a = σ a := by
  obtain ⟨h1, h2, h3, h4, h5⟩ := h
  exact c_pass hcc (show e < 5000 by omega) e 0 10000 (200 * tm f) σ f b σ hR (fun _ _ => rfl) h1 h2 h3 h4 (by omega) (by omega) (by omega) (by omega)
theorem PK.w {n e : Nat} {f b : Nat → Int32} (h : PK f n) (hn : e ≤ n) (h40 : e ≤ 40) : PK (s_pass e f b).1 (n - e) ∧ (∃ j, j ≤ 200 * e ∧ (s_pass e f b).1 5 = f 5 + nI j) ∧ nS (s_pass e f b).1 = nS f ∧ nC f ≤ nC (s_pass e f b).1 ∧ QB (s_pass e f b).1 80010000 := by
  obtain ⟨h1, h2, h3, h4, h5⟩ := h
  obtain ⟨w1, w2, w3, w4, w5, w6, w7, w8⟩ := W_pass e f b (200 * tm f) h1 h2 h3 h4 (by omega) (by omega)
  refine ⟨⟨w1, w2, w3, ?_, by omega⟩, w7, w5, w6, w4.mono (by omega)⟩
  rw [w8, show 200 * (tm f + e) = 200 * tm f + 200 * e by omega]
  exact w4
theorem OKf.pk {f : Nat → Int32} (h : OKf f) : ∃ r, r < 40 ∧ f 7 = nI r ∧ 40 - f 7 = nI (40 - r) ∧ PK f (40 - r) := by
  obtain ⟨h1, h2, h3, h4, h5, h6⟩ := h
  obtain ⟨r, hr, e⟩ := vp_ex h3 (by omega)
  refine ⟨r, hr, e, by rw [e, show (40 : Int32) = nI 40 from rfl, pk_sub (by omega)], h1, h2, h3, h4, ?_⟩
  have e7 : (f 7).toNatClampNeg = r := by rw [e]; exact cl_nI (by omega)
  unfold tm at h5 ⊢
  omega
theorem nn_nI {j : Nat} (h : j < 100000) : (0 : Int32) ≤ nI j := by
  rw [show (0 : Int32) = nI 0 from rfl, nI_leI (by omega) (by omega)]
  omega
theorem s_pass1 {f b : Nat → Int32} : s_pass 1 f b = s_round f b := by
  obtain ⟨p, hp⟩ : ∃ p, p = s_round f b := ⟨_, rfl⟩
  rw [show (1 : Nat) = 0 + 1 from rfl, s_pass, s_pass, ← hp]
/-! in how many rounds a child is at home -/
def s_hm (k : Nat) : Nat → (Nat → Int32) → (Nat → Int32) → Nat
  | 0, _, _ => 0
  | e + 1, f, b => if f (185 + 8 * k + 4) = -1 then 0 else s_hm k e (s_round f b).1 (s_round f b).2 + 1
/-- e rounds are left to the day, or none is and the child has gone -/
def HM (k e : Nat) (f : Nat → Int32) : Prop := PK f e ∧ k < nC f ∧ ((e = 0 ∧ f (185 + 8 * k + 4) = -1) ∨ (1 ≤ e ∧ e ≤ 40 ∧ f 7 = nI (40 - e)))
theorem HM.next {k e : Nat} {f b : Nat → Int32} (h : HM k (e + 1) f) : HM k e (s_round f b).1 := by
  obtain ⟨hp, hk, h3⟩ := h
  obtain ⟨e1, e2, e7⟩ : 1 ≤ e + 1 ∧ e + 1 ≤ 40 ∧ f 7 = nI (40 - (e + 1)) := by
    rcases h3 with h | h
    · omega
    · exact h
  obtain ⟨p1, p2, p3, p4, p5⟩ := id hp
  obtain ⟨w1, w2, w3, w4, w5⟩ := PK.w (e := 1) (b := b) hp (by omega) (by omega)
  have es : s_pass 1 f b = s_round f b := s_pass1
  rw [es] at w1 w2 w3 w4 w5
  obtain ⟨t1, t2⟩ := W_round_tm (b := b) p1 p2 p3 p4 (by omega) (by omega)
  obtain ⟨-, -, -, -, -, -, -, hx⟩ := W_round (b := b) p1 p2 p3 p4 (by omega) t2
  refine ⟨w1, by omega, ?_⟩
  have ec : (f 7).toNatClampNeg = 40 - (e + 1) := by rw [e7]; exact cl_nI (by omega)
  rcases hx with ⟨a1, a2, -⟩ | ⟨a1, -, -, a4⟩
  · right
    refine ⟨by omega, by omega, ?_⟩
    rw [a2, e7, nI_1, show 40 - (e + 1) + 1 = 40 - e by omega]
  · left
    exact ⟨by omega, a4 k (by omega)⟩
theorem c_hm {k : Nat} : ∀ (e x n : Nat) (σ : Sg) (f b : Nat → Int32), FR 28 σ f → HM k e f → x + e ≤ 40 → e < n → ∃ F, l_X4_homeIn_18 n σ (nI k) (nI x) = some (.inr (nI (x + s_hm k e f b), F)) ∧ ∀ a, a < 28 ∨ 55 ≤ a → F a = σ a := by
  intro e
  induction e with
  | zero =>
    intro x n σ f b hR h hx hn
    obtain ⟨m, rfl⟩ : ∃ m, n = m + 1 := ⟨n - 1, by omega⟩
    have hc := h.1.1.c200
    have hk := h.2.1
    have h0 : f (185 + 8 * k + 4) = -1 := by
      rcases h.2.2 with q | q
      · exact q.2
      · omega
    rw [l_X4_homeIn_18.eq_2]
    by_cases q : (40 : Int32) ≤ nI x
    · rw [if_pos q]
      exact ⟨σ, rfl, fun _ _ => rfl⟩
    · rw [if_neg q, gd_ok rfl (show k < 200 by omega) (by omega), cl_nI (by omega), hR.c4 hk, if_pos h0]
      exact ⟨σ, rfl, fun _ _ => rfl⟩
  | succ e ih =>
    intro x n σ f b hR h hx hn
    obtain ⟨m, rfl⟩ : ∃ m, n = m + 1 := ⟨n - 1, by omega⟩
    have hc := h.1.1.c200
    have hk := h.2.1
    rw [s_hm, l_X4_homeIn_18.eq_2, if_neg (show ¬ (40 : Int32) ≤ nI x from nI_ge (a := x) (b := 40) (by omega) (by omega)), gd_ok rfl (show k < 200 by omega) (by omega), cl_nI (by omega), hR.c4 hk]
    by_cases h0 : f (185 + 8 * k + 4) = -1
    · rw [if_pos h0, if_pos h0]
      exact ⟨σ, rfl, fun _ _ => rfl⟩
    · rw [if_neg h0, if_neg h0]
      obtain ⟨σ1, x1, x2, x3⟩ := PK.c (e := 1) b (Or.inr (Or.inl rfl)) hR h.1 (by omega) (by omega)
      have es : s_pass 1 f b = s_round f b := s_pass1
      rw [es] at x2
      obtain ⟨F, f1, f2⟩ := ih (x + 1) m σ1 (s_round f b).1 (s_round f b).2 x2 h.next (by omega) (by omega)
      rw [show (1 : Int32) = nI 1 from rfl, x1, b1_some, nI_add, f1]
      refine ⟨F, ?_, fun a ha => by rw [f2 a ha, x3 a (by omega)]⟩
      rw [show x + 1 + s_hm k e (s_round f b).1 (s_round f b).2 = x + (s_hm k e (s_round f b).1 (s_round f b).2 + 1) by omega]

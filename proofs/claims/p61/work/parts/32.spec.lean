/-! SPEC: what the reference does to its row, in plain words; first the readers -/
theorem lc_0 : (0 : Int32).toNatClampNeg = 0 := by decide
theorem lc_1 : (1 : Int32).toNatClampNeg = 1 := by decide
theorem lc_2 : (2 : Int32).toNatClampNeg = 2 := by decide
theorem lc_3 : (3 : Int32).toNatClampNeg = 3 := by decide
theorem lc_4 : (4 : Int32).toNatClampNeg = 4 := by decide
theorem lc_5 : (5 : Int32).toNatClampNeg = 5 := by decide
theorem lc_6 : (6 : Int32).toNatClampNeg = 6 := by decide
theorem lc_7 : (7 : Int32).toNatClampNeg = 7 := by decide
theorem lc_8 : (8 : Int32).toNatClampNeg = 8 := by decide
theorem lc_9 : (9 : Int32).toNatClampNeg = 9 := by decide
theorem lc_10 : (10 : Int32).toNatClampNeg = 10 := by decide
theorem lc_11 : (11 : Int32).toNatClampNeg = 11 := by decide
theorem lc_12 : (12 : Int32).toNatClampNeg = 12 := by decide
theorem lc_13 : (13 : Int32).toNatClampNeg = 13 := by decide
theorem lc_14 : (14 : Int32).toNatClampNeg = 14 := by decide
theorem lc_15 : (15 : Int32).toNatClampNeg = 15 := by decide
theorem lcn : ((-1) : Int32).toNatClampNeg = 0 := by decide
def nS (f : Nat → Int32) : Nat := (f 8).toNatClampNeg
def nC (f : Nat → Int32) : Nat := (f 9).toNatClampNeg
def vld (ns nc i : Nat) : Prop := i < 24 + 23 * ns ∨ (185 ≤ i ∧ i < 185 + 8 * nc)
def oI (r : Option Nat) : Int32 := match r with
  | none => -1
  | some s => nI s
theorem oI_none : oI none = -1 := rfl
theorem oI_some {s : Nat} : oI (some s) = nI s := rfl
theorem nI_neg1 {s : Nat} (h : s < 1000000) : ¬ nI s = -1 := by
  intro z
  have h1 := congrArg Int32.toInt z
  rw [nI_toInt (by omega)] at h1
  have h2 : ((-1) : Int32).toInt = -1 := by decide
  omega
/-- what the class's fair at c has beside the flat row f -/
def evr (k : Int32) : Int32 := if k = 0 then 4 else if k = 1 then 3 else if k = 2 then 5 else if k = 3 then 1 else 0
def grt (k : Int32) : Int32 := if k = 0 then 2 else if k = 1 then 1 else if k = 2 then 3 else if k = 3 then 0 else -1
def FR (c : Nat) (σ : Sg) (f : Nat → Int32) : Prop := (∀ i, vld (nS f) (nC f) i → fl c σ i = f i) ∧ (∃ ft, ft ≤ nC f ∧ σ (c + 4) 1 = nI ft ∧ ∀ k, k < ft → f (185 + 8 * k + 4) = -1) ∧ (∀ k, k < nC f → σ (c + 4 + 6) k = 1 ∨ σ (c + 4 + 6) k = -1) ∧ ∀ s, s < nS f → σ (c + 13 + 2 * s) 7 = evr (f (24 + 23 * s + 1)) ∧ σ (c + 13 + 2 * s) 8 = grt (f (24 + 23 * s + 1))
theorem sk_nI {c s : Nat} (h : s < 100) : sk (c + 3) (nI s) = c + 13 + 2 * s := by
  unfold sk
  rw [cl_nI (by omega)]
/-! reading through FR -/
theorem FR.r0 {c : Nat} {σ : Sg} {f : Nat → Int32} (h : FR c σ f) : σ c 0 = f 0 := by rw [← fr_0 (c := c) (σ := σ)]; exact h.1 0 (Or.inl (by omega))
theorem FR.r1 {c : Nat} {σ : Sg} {f : Nat → Int32} (h : FR c σ f) : σ c 1 = f 1 := by rw [← fr_1 (c := c) (σ := σ)]; exact h.1 1 (Or.inl (by omega))
theorem FR.r2 {c : Nat} {σ : Sg} {f : Nat → Int32} (h : FR c σ f) : σ c 2 = f 2 := by rw [← fr_2 (c := c) (σ := σ)]; exact h.1 2 (Or.inl (by omega))
theorem FR.r3 {c : Nat} {σ : Sg} {f : Nat → Int32} (h : FR c σ f) : σ c 3 = f 3 := by rw [← fr_3 (c := c) (σ := σ)]; exact h.1 3 (Or.inl (by omega))
theorem FR.r4 {c : Nat} {σ : Sg} {f : Nat → Int32} (h : FR c σ f) : σ c 4 = f 4 := by rw [← fr_4 (c := c) (σ := σ)]; exact h.1 4 (Or.inl (by omega))
theorem FR.r5 {c : Nat} {σ : Sg} {f : Nat → Int32} (h : FR c σ f) : σ c 5 = f 5 := by rw [← fr_5 (c := c) (σ := σ)]; exact h.1 5 (Or.inl (by omega))
theorem FR.r6 {c : Nat} {σ : Sg} {f : Nat → Int32} (h : FR c σ f) : σ c 6 = f 6 := by rw [← fr_6 (c := c) (σ := σ)]; exact h.1 6 (Or.inl (by omega))
theorem FR.r7 {c : Nat} {σ : Sg} {f : Nat → Int32} (h : FR c σ f) : σ c 7 = f 7 := by rw [← fr_7 (c := c) (σ := σ)]; exact h.1 7 (Or.inl (by omega))
theorem FR.r8 {c : Nat} {σ : Sg} {f : Nat → Int32} (h : FR c σ f) : σ c 10 = f 8 := by rw [← fr_8 (c := c) (σ := σ)]; exact h.1 8 (Or.inl (by omega))
theorem FR.r9 {c : Nat} {σ : Sg} {f : Nat → Int32} (h : FR c σ f) : σ (c + 4) 0 = f 9 := by rw [← fr_9 (c := c) (σ := σ)]; exact h.1 9 (Or.inl (by omega))
theorem FR.won {c i : Nat} {σ : Sg} {f : Nat → Int32} (h : FR c σ f) (hi : i < 4) : σ (c + 2) i = f (10 + i) := by rw [← fr_won (c := c) (σ := σ) hi]; exact h.1 _ (Or.inl (by omega))
theorem FR.rain {c i : Nat} {σ : Sg} {f : Nat → Int32} (h : FR c σ f) (hi : i < 10) : σ (c + 1) i = f (14 + i) := by rw [← fr_rain (c := c) (σ := σ) hi]; exact h.1 _ (Or.inl (by omega))
theorem FR.s0 {c s : Nat} {σ : Sg} {f : Nat → Int32} (h : FR c σ f) (hs : s < nS f) (h7 : nS f ≤ 7) : σ (c + 13 + 2 * s) 0 = f (24 + 23 * s + 0) := by rw [← fr_s0 (c := c) (σ := σ) (show s < 7 by omega)]; exact h.1 _ (Or.inl (by omega))
theorem FR.s1 {c s : Nat} {σ : Sg} {f : Nat → Int32} (h : FR c σ f) (hs : s < nS f) (h7 : nS f ≤ 7) : σ (c + 13 + 2 * s) 1 = f (24 + 23 * s + 1) := by rw [← fr_s1 (c := c) (σ := σ) (show s < 7 by omega)]; exact h.1 _ (Or.inl (by omega))
theorem FR.s2 {c s : Nat} {σ : Sg} {f : Nat → Int32} (h : FR c σ f) (hs : s < nS f) (h7 : nS f ≤ 7) : σ (c + 13 + 2 * s) 2 = f (24 + 23 * s + 2) := by rw [← fr_s2 (c := c) (σ := σ) (show s < 7 by omega)]; exact h.1 _ (Or.inl (by omega))
theorem FR.s3 {c s : Nat} {σ : Sg} {f : Nat → Int32} (h : FR c σ f) (hs : s < nS f) (h7 : nS f ≤ 7) : σ (c + 13 + 2 * s) 3 = f (24 + 23 * s + 3) := by rw [← fr_s3 (c := c) (σ := σ) (show s < 7 by omega)]; exact h.1 _ (Or.inl (by omega))
theorem FR.s4 {c s : Nat} {σ : Sg} {f : Nat → Int32} (h : FR c σ f) (hs : s < nS f) (h7 : nS f ≤ 7) : σ (c + 13 + 2 * s) 5 = f (24 + 23 * s + 4) := by rw [← fr_s4 (c := c) (σ := σ) (show s < 7 by omega)]; exact h.1 _ (Or.inl (by omega))
theorem FR.s5 {c s : Nat} {σ : Sg} {f : Nat → Int32} (h : FR c σ f) (hs : s < nS f) (h7 : nS f ≤ 7) : σ (c + 13 + 2 * s) 6 = f (24 + 23 * s + 5) := by rw [← fr_s5 (c := c) (σ := σ) (show s < 7 by omega)]; exact h.1 _ (Or.inl (by omega))
theorem FR.s6 {c s : Nat} {σ : Sg} {f : Nat → Int32} (h : FR c σ f) (hs : s < nS f) (h7 : nS f ≤ 7) : σ (c + 13 + 2 * s) 4 = f (24 + 23 * s + 6) := by rw [← fr_s6 (c := c) (σ := σ) (show s < 7 by omega)]; exact h.1 _ (Or.inl (by omega))
theorem FR.sh {c s i : Nat} {σ : Sg} {f : Nat → Int32} (h : FR c σ f) (hs : s < nS f) (h7 : nS f ≤ 7) (hi : i < 16) : σ (c + 13 + 2 * s + 1) i = f (24 + 23 * s + 7 + i) := by rw [← fr_sh (c := c) (σ := σ) (show s < 7 by omega) hi]; exact h.1 _ (Or.inl (by omega))
theorem FR.c0 {c k : Nat} {σ : Sg} {f : Nat → Int32} (h : FR c σ f) (hk : k < nC f) : σ (c + 4 + 1) k = f (185 + 8 * k + 0) := by rw [← fr_c0 (c := c) (σ := σ)]; exact h.1 _ (Or.inr (by omega))
theorem FR.c1 {c k : Nat} {σ : Sg} {f : Nat → Int32} (h : FR c σ f) (hk : k < nC f) : σ (c + 4 + 2) k = f (185 + 8 * k + 1) := by rw [← fr_c1 (c := c) (σ := σ)]; exact h.1 _ (Or.inr (by omega))
theorem FR.c2 {c k : Nat} {σ : Sg} {f : Nat → Int32} (h : FR c σ f) (hk : k < nC f) : σ (c + 4 + 3) k = f (185 + 8 * k + 2) := by rw [← fr_c2 (c := c) (σ := σ)]; exact h.1 _ (Or.inr (by omega))
theorem FR.c3 {c k : Nat} {σ : Sg} {f : Nat → Int32} (h : FR c σ f) (hk : k < nC f) : σ (c + 4 + 4) k = f (185 + 8 * k + 3) := by rw [← fr_c3 (c := c) (σ := σ)]; exact h.1 _ (Or.inr (by omega))
theorem FR.c4 {c k : Nat} {σ : Sg} {f : Nat → Int32} (h : FR c σ f) (hk : k < nC f) : σ (c + 4 + 5) k = f (185 + 8 * k + 4) := by rw [← fr_c4 (c := c) (σ := σ)]; exact h.1 _ (Or.inr (by omega))
theorem FR.c6 {c k : Nat} {σ : Sg} {f : Nat → Int32} (h : FR c σ f) (hk : k < nC f) : σ (c + 4 + 7) k = f (185 + 8 * k + 6) := by rw [← fr_c6 (c := c) (σ := σ)]; exact h.1 _ (Or.inr (by omega))
theorem FR.c7 {c k : Nat} {σ : Sg} {f : Nat → Int32} (h : FR c σ f) (hk : k < nC f) : σ (c + 4 + 8) k = f (185 + 8 * k + 7) := by rw [← fr_c7 (c := c) (σ := σ)]; exact h.1 _ (Or.inr (by omega))
theorem FR.c5 {c k : Nat} {σ : Sg} {f : Nat → Int32} (h : FR c σ f) (hk : k < nC f) : hw (σ (c + 4 + 6) k) = f (185 + 8 * k + 5) := by rw [← fr_c5 (c := c) (σ := σ)]; exact h.1 _ (Or.inr (by omega))
/-! the reference's small functions -/
theorem ns_eq {f : Nat → Int32} {n : Nat} (h : vp_in (f 8) n) (hn : n ≤ 1000000) : f 8 = nI (nS f) := tc_eq h hn
theorem nc_eq {f : Nat → Int32} {n : Nat} (h : vp_in (f 9) n) (hn : n ≤ 1000000) : f 9 = nI (nC f) := tc_eq h hn
/-! the stall on a pitch -/
def s_onA (f : Nat → Int32) (p : Int32) : Nat → Nat → Option Nat
  | 0, _ => none
  | d + 1, k => if f (24 + 23 * k + 0) = p then some k else s_onA f p d (k + 1)
def s_on (f : Nat → Int32) (p : Int32) : Option Nat := s_onA f p (nS f) 0
theorem s_onA_lt {f : Nat → Int32} {p : Int32} : ∀ (d k s : Nat), s_onA f p d k = some s → k ≤ s ∧ s < k + d ∧ f (24 + 23 * s + 0) = p := by
  intro d
  induction d with
  | zero => intro k s h; cases h
  | succ d ih =>
    intro k s h
    unfold s_onA at h
    split at h
    · rename_i hp
      cases h
      exact ⟨Nat.le_refl _, by omega, hp⟩
    · have := ih (k + 1) s h
      exact ⟨by omega, by omega, this.2.2⟩
theorem s_on_lt {f : Nat → Int32} {p : Int32} {s : Nat} (h : s_on f p = some s) : s < nS f ∧ f (24 + 23 * s + 0) = p := by
  have := s_onA_lt _ _ _ h
  exact ⟨by omega, this.2.2⟩
theorem c_onA {c : Nat} {σ : Sg} {f : Nat → Int32} {p : Int32} (hR : FR c σ f) (h8 : vp_in (f 8) 8) : ∀ (d k n : Nat), k + d = nS f → d < n → l_X1_findStall_2 c n σ p (nI k) = some (oI (s_onA f p d k)) := by
  have h7 : nS f < 8 := tc_vp h8
  intro d
  induction d with
  | zero =>
    intro k n hk hn
    obtain ⟨m, rfl⟩ : ∃ m, n = m + 1 := ⟨n - 1, by omega⟩
    rw [l_X1_findStall_2.eq_2, hR.r8, ns_eq h8 (by omega), if_pos (nI_le (by omega) (by omega))]
    rfl
  | succ d ih =>
    intro k n hk hn
    obtain ⟨m, rfl⟩ : ∃ m, n = m + 1 := ⟨n - 1, by omega⟩
    rw [l_X1_findStall_2.eq_2, hR.r8, ns_eq h8 (by omega), if_neg (nI_ge (by omega) (by omega)), gd_ok rfl (show k < 7 by omega) (by omega), sk_nI (by omega), hR.s0 (by omega) (by omega)]
    unfold s_onA
    split
    · rfl
    · rw [nI_1]
      exact ih (k + 1) m (by omega) (by omega)
theorem c_on {c : Nat} {σ : Sg} {f : Nat → Int32} {p : Int32} (hR : FR c σ f) (h8 : vp_in (f 8) 8) : f_X1_findStall c σ p = some (oI (s_on f p)) := by
  have h7 : nS f < 8 := tc_vp h8
  exact c_onA hR h8 _ 0 10000 (by omega) (by omega)

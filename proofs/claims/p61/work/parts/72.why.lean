/-! what keeps an order from being done, on both sides -/
def s_whyB (f : Nat → Int32) (p rf : Int32) : Int32 := match s_on f p with
  | none => if nS f = 6 then 3 else if cst rf ≤ f 0 then 0 else 3
  | some _ => 3
theorem s_whyB_0 {f : Nat → Int32} {p rf : Int32} (h6 : nS f ≤ 6) (h : s_whyB f p rf = 0) : nS f < 6 ∧ cst rf ≤ f 0 := by
  unfold s_whyB at h
  split at h
  · split at h
    · exact absurd h (by decide)
    · split at h
      · exact ⟨by omega, by assumption⟩
      · exact absurd h (by decide)
  · exact absurd h (by decide)
theorem s_whyB_n {f : Nat → Int32} {p rf : Int32} (h : ¬ s_whyB f p rf = 0) : s_whyB f p rf = 3 := by
  unfold s_whyB at h ⊢
  split at h
  · split at h
    · rename_i h1; rw [if_pos h1]
    · rename_i h1
      rw [if_neg h1]
      split at h
      · exact absurd rfl h
      · rename_i h2; rw [if_neg h2]
  · rfl
theorem c_canB {c : Nat} {σ : Sg} {f : Nat → Int32} {p rf : Int32} (hR : FR c σ f) (hw : WB f) (h6 : nS f ≤ 6) : f_X1_canBuild c σ p rf = some (if s_whyB f p rf = 0 then 1 else 0) := by
  have e8 : (6 : Int32) ≤ f 8 ↔ nS f = 6 := by rw [ns_eq hw.ns (by omega), show (6 : Int32) = nI 6 from rfl, nI_leI (by omega) (by omega)]; omega
  have eb : f 0 < cst rf ↔ ¬ cst rf ≤ f 0 := by rw [tI_lt, tI_le]; omega
  unfold f_X1_canBuild s_whyB
  rw [c_on hR hw.ns, b1_some, hR.r8, hR.r0]
  cases ho : s_on f p with
  | none =>
    rw [oI_none, if_pos rfl]
    dsimp only
    by_cases h : nS f = 6
    · rw [if_pos (e8.mpr h), if_pos h, if_neg (by decide)]
    · rw [if_neg (fun q => h (e8.mp q)), if_neg h, c_cst, b1_some]
      by_cases hb : cst rf ≤ f 0
      · rw [if_neg (fun q => eb.mp q hb), if_pos hb, if_pos rfl]
      · rw [if_pos (eb.mpr hb), if_neg hb, if_neg (by decide)]
  | some s =>
    have := (s_on_lt ho).1
    have h7 := hw.s7
    rw [oI_some, if_neg (nI_neg1 (by omega))]
    dsimp only
    rw [if_neg (by decide)]
def s_whyS (f : Nat → Int32) (s l : Nat) (q : Int32) : Int32 := if 40 < s_onShelf f s + q then 3 else if q * s_cost (nI l) ≤ f (24 + 23 * s + 4) then 0 else 3
theorem s_whyS_0 {f : Nat → Int32} {s l : Nat} {q : Int32} (h : s_whyS f s l q = 0) : ¬ 40 < s_onShelf f s + q ∧ q * s_cost (nI l) ≤ f (24 + 23 * s + 4) := by
  unfold s_whyS at h
  split at h
  · exact absurd h (by decide)
  · split at h
    · exact ⟨by assumption, by assumption⟩
    · exact absurd h (by decide)
theorem s_whyS_n {f : Nat → Int32} {s l : Nat} {q : Int32} (h : ¬ s_whyS f s l q = 0) : s_whyS f s l q = 3 := by
  unfold s_whyS at h ⊢
  split at h
  · rename_i h1; rw [if_pos h1]
  · rename_i h1
    rw [if_neg h1]
    split at h
    · exact absurd rfl h
    · rename_i h2; rw [if_neg h2]
/-- a number from 1 up to k, as a test -/
def up1 (k : Int) (p : Int32) : Prop := 1 ≤ p.toInt ∧ p.toInt ≤ k
theorem c_canS {c : Nat} {σ : Sg} {f : Nat → Int32} {s l : Nat} {q : Int32} (hR : FR c σ f) (hw : WB f) (hs : s < nS f) : f_X1_canRestock c σ (nI s) (nI l) q = some (if s_whyS f s l q = 0 then 1 else 0) := by
  have h7 := hw.s7
  have eb : f (24 + 23 * s + 4) < s_cost (nI l) * q ↔ ¬ q * s_cost (nI l) ≤ f (24 + 23 * s + 4) := by rw [tI_lt, tI_le, Int32.mul_comm q]; omega
  unfold f_X1_canRestock s_whyS
  rw [c_has1 hR hw.ns (vp_in_nI hs (by omega)), b1_some, if_neg (by decide), gd_ok rfl (show s < 7 by omega) (by omega), sk_nI (by omega), c_onShelf hR hs h7, b1_some]
  by_cases h1 : 40 < s_onShelf f s + q
  · rw [if_pos h1, if_pos h1, if_neg (by decide)]
  · rw [if_neg h1, if_neg h1, c_cost, b1_some, hR.s4 hs h7]
    by_cases h2 : q * s_cost (nI l) ≤ f (24 + 23 * s + 4)
    · rw [if_neg (fun z => eb.mp z h2), if_pos h2, if_pos rfl]
    · rw [if_pos (eb.mpr h2), if_neg h2, if_neg (by decide)]
theorem c_canF {c : Nat} {σ : Sg} {f : Nat → Int32} {s : Nat} {q : Int32} (hR : FR c σ f) (hw : WB f) (hs : s < nS f) : f_X1_canFund c σ (nI s) q = some (if q ≤ f 0 then 1 else 0) := by
  have h7 := hw.s7
  have eb : f 0 < q ↔ ¬ q ≤ f 0 := by rw [tI_lt, tI_le]; omega
  unfold f_X1_canFund
  rw [c_has1 hR hw.ns (vp_in_nI hs (by omega)), b1_some, if_neg (by decide), hR.r0]
  by_cases h : q ≤ f 0
  · rw [if_neg (fun z => eb.mp z h), if_pos h]
  · rw [if_pos (eb.mpr h), if_neg h]
theorem room_lt {f : Nat → Int32} (hw : WB f) (h : ¬ s_room f = 0) : nC f < 200 := by
  have h9 := hw.c200
  unfold s_room at h
  split at h
  · exact absurd rfl h
  · rename_i h1
    rw [nc_eq hw.nc (by omega), show (200 : Int32) = nI 200 from rfl, nI_leI (by omega) (by omega)] at h1
    omega
/-- whether so many rounds can pass -/
theorem pass_tm {f : Nat → Int32} {n : Nat} (hw : WB f) (hr : vp_in (f 7) 40) (hn : n ≤ 40) : (9999 < f 6 + (f 7 + nI n) / 40) ↔ ¬ tm f + n < 400000 := by
  have h6 := tc_vp hw.day
  have h7 := tc_vp hr
  have e6 := tc_eq hw.day (by omega)
  have e7 := tc_eq hr (by omega)
  unfold tm
  obtain ⟨a, ha⟩ : ∃ a, a = (f 6).toNatClampNeg := ⟨_, rfl⟩
  obtain ⟨b, hb⟩ : ∃ b, b = (f 7).toNatClampNeg := ⟨_, rfl⟩
  rw [← ha] at e6 h6 ⊢
  rw [← hb] at e7 h7 ⊢
  rw [e6, e7, nI_add, show (40 : Int32) = nI 40 from rfl, pk_div (by omega) (by omega) (by omega), nI_add, show (9999 : Int32) = nI 9999 from rfl, nI_ltI (by omega) (by omega)]
  omega
theorem c_canP {c : Nat} {σ : Sg} {f : Nat → Int32} {n : Nat} (hR : FR c σ f) (hw : WB f) (hr : vp_in (f 7) 40) (hn : n ≤ 40) : f_X1_canPass c σ (nI n) = some (if tm f + n < 400000 then 1 else 0) := by
  have h := pass_tm hw hr hn
  unfold f_X1_canPass
  rw [hR.r6, hR.r7]
  by_cases q : tm f + n < 400000
  · rw [if_neg (fun z => h.mp z q), if_pos q]
  · rw [if_pos (h.mpr q), if_neg q]
theorem C_pass {c n : Nat} {σ : Sg} {f b : Nat → Int32} (hcc : c = 1 ∨ c = 28 ∨ c = 55) (hR : FR c σ f) (h : OKf f) (hn : n ≤ 40) (ht : tm f + n ≤ 400000) : ∃ σ', f_X1_letPass c σ (nI n) = some σ' ∧ FR c σ' (s_pass n f b).1 ∧ ∀ a, a < c ∨ c + 27 ≤ a → σ' a = σ a :=
  c_pass hcc (show n < 5000 by omega) n 0 10000 (200 * tm f) σ f b σ hR (fun _ _ => rfl) h.1 h.2.1 h.2.2.1 h.2.2.2.1 (by omega) ht (by omega) (by omega)
theorem W_passes {n : Nat} {f b : Nat → Int32} (h : OKf f) (hn : n ≤ 40) (ht : tm f + n < 400000) : OKf (s_pass n f b).1 ∧ ∃ j, j ≤ 200 * n ∧ (s_pass n f b).1 5 = f 5 + nI j := by
  obtain ⟨w1, w2, w3, w4, w5, w6, w7, w8⟩ := W_pass n f b (200 * tm f) h.1 h.2.1 h.2.2.1 h.2.2.2.1 (by omega) (by omega)
  refine ⟨⟨w1, w2, w3, ?_, by omega, by rw [w5]; exact h.2.2.2.2.2⟩, w7⟩
  rw [w8, show 200 * (tm f + n) = 200 * tm f + 200 * n by omega]
  exact w4

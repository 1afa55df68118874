/-! the best pitch for a new stall -/
theorem PK.builds {f : Nat → Int32} {r : Nat} {p kd pr : Int32} (ok : OKf f) (h : PK f (40 - r)) (hp : vp_in p 12) (hkd : vp_in kd 5) (hpr : pr9 pr) : PK (s_builds f p kd pr 0) (40 - r) ∧ s_builds f p kd pr 0 7 = f 7 := by
  obtain ⟨h1, h2, h3, h4, h5⟩ := h
  have h6 := ok.2.2.2.2.2
  have e6 : s_builds f p kd pr 0 6 = f 6 := s_builds_o (by omega) (by omega)
  have e7 : s_builds f p kd pr 0 7 = f 7 := s_builds_o (by omega) (by omega)
  obtain ⟨b1, b2, b3⟩ := W_builds (rf := 0) h1 h2 h4 h6 hp hkd (pr9_vp hpr).1 (pr9_vp hpr).2 (vp_lit (by decide))
  exact ⟨⟨b1, b2, by rw [e7]; exact h3, by rw [tm_of e6 e7]; exact b3, by rw [tm_of e6 e7]; exact h5⟩, e7⟩
def s_val (f b : Nat → Int32) (r : Nat) (p kd pr : Int32) : Int32 := (s_pass (40 - r) (s_builds f p kd pr 0) b).1 (24 + 23 * nS f + 5)
theorem s_val_in {f b : Nat → Int32} {r : Nat} {p kd pr : Int32} (ok : OKf f) (h : PK f (40 - r)) (hp : vp_in p 12) (hkd : vp_in kd 5) (hpr : pr9 pr) : vp_in (s_val f b r p kd pr) 80010001 := by
  obtain ⟨k1, k2⟩ := PK.builds ok h hp hkd hpr
  obtain ⟨-, -, w3, -, w5⟩ := PK.w (e := 40 - r) (b := b) k1 (by omega) (by omega)
  exact w5 (nS f) (by rw [w3, nS_builds h.1.ns]; omega)
theorem c_new {σ : Sg} {f : Nat → Int32} {r : Nat} {p kd pr : Int32} (b : Nat → Int32) (hR : FR 1 σ f) (ok : OKf f) (h : PK f (40 - r)) (e40 : 40 - f 7 = nI (40 - r)) (hp : vp_in p 12) (hkd : vp_in kd 5) (hpr : pr9 pr) : ∃ σ', f_X4_coinsOfNewStall σ p kd pr = some (s_val f b r p kd pr * pr, σ') ∧ σ' (28 + 13 + 2 * nS f) 6 = s_val f b r p kd pr ∧ ∀ a, a < 28 ∨ 55 ≤ a → σ' a = σ a := by
  have h6 := ok.2.2.2.2.2
  have hw := ok.1
  obtain ⟨k1, k2⟩ := PK.builds ok h hp hkd hpr
  obtain ⟨S, x1, x2, x3⟩ := c_copy (c := 28) (d := 1) (by omega) hR hw
  obtain ⟨T, y1, y2, y3⟩ := c_addStall (p := p) (kd := kd) (pr := pr) (rf := 0) x2 (fun _ _ => rfl) hw.ns (by omega) hw.c200 (vp_lit (by decide))
  obtain ⟨U, z1, z2, z3⟩ := PK.c (e := 40 - r) b (Or.inr (Or.inl rfl)) y2 k1 (by omega) (by omega)
  have n1 := (PK.w (e := 40 - r) (b := b) k1 (by omega) (by omega)).2.2.1
  have n2 := nS_builds (p := p) (kd := kd) (pr := pr) (rf := 0) hw.ns
  have v := z2.s5 (s := nS f) (by omega) (by omega)
  refine ⟨U, ?_, v, fun a ha => by rw [z3 a (by omega), y3 a (by omega), x3 a (by omega)]⟩
  unfold f_X4_coinsOfNewStall
  rw [x1, b1_some, y1, b2_some, y3 1 (by omega), x3 1 (by omega), hR.r7, e40, z1, b1_some, gd_ok rfl (show nS f < 7 by omega) (by omega), sk_nI (by omega), v]
  rfl
/-- the same for each row that agrees and for each busy row -/
theorem s_val_det {σ : Sg} {f f' b b' : Nat → Int32} {r : Nat} {p kd pr : Int32} (hR : FR 1 σ f) (ok : OKf f) (h : PK f (40 - r)) (e40 : 40 - f 7 = nI (40 - r)) (hp : vp_in p 12) (hkd : vp_in kd 5) (hpr : pr9 pr) (e : ∀ i, i < 1785 → f' i = f i) (h' : PK f' (40 - r)) : s_val f' b' r p kd pr = s_val f b r p kd pr := by
  obtain ⟨S, x1, x2, -⟩ := c_new b hR ok h e40 hp hkd hpr
  obtain ⟨S', y1, y2, -⟩ := c_new b' (hR.ext e ok.b.1 ok.b.2) (ok.ext e) h' (by rw [e 7 (by omega)]; exact e40) hp hkd hpr
  rw [x1] at y1
  have e1 : S = S' := congrArg Prod.snd (Option.some.inj y1)
  rw [nS_ext e, ← e1] at y2
  rw [← y2, ← x2]
theorem m_would {τ : Sg} {r : Nat} {p kd pr : Int32} (ok : OKf (τ 194)) (h : PK (τ 194) (40 - r)) (e40 : 40 - τ 194 7 = nI (40 - r)) (hp : vp_in p 12) (hkd : vp_in kd 5) (hpr : pr9 pr) : ∃ F b, f_X5_would τ p kd pr = some (s_val (τ 194) b r p kd pr, F) ∧ (∀ a, a ≠ 194 → a ≠ 197 → a ≠ 199 → F a = τ a) ∧ ∀ i, i < 1785 → F 194 i = τ 194 i := by
  have h6 := ok.2.2.2.2.2
  obtain ⟨k1, k2⟩ := PK.builds ok h hp hkd hpr
  obtain ⟨T, hT⟩ : ∃ T, T = wr τ 197 (s_lay (τ 194) (τ 197) 0 0) := ⟨_, rfl⟩
  have T94 : T 194 = τ 194 := by rw [hT, wr_n (by omega)]
  have To : ∀ a, a ≠ 197 → T a = τ a := fun a ha => by rw [hT, wr_n ha]
  have hb := m_builds (τ := T) (p := p) (kd := kd) (pr := pr) (rf := 0) (by rw [T94]; rw [ns_eq ok.1.ns (by omega)]; exact vp_in_nI (by omega) (by omega))
  rw [T94, show rfI 0 = 0 from rfl] at hb
  obtain ⟨V, hV⟩ : ∃ V, V = w4 T (s_builds (τ 194) p kd pr 0) := ⟨_, rfl⟩
  have V94 : V 194 = s_builds (τ 194) p kd pr 0 := by rw [hV, w4_194]
  have Vo : ∀ a, a ≠ 194 → V a = T a := fun a ha => by rw [hV, w4_o ha]
  have hm := PK.m (τ := V) (e := 40 - r) (by rw [V94]; exact k1) (by omega) (by omega)
  obtain ⟨j, hj, ej⟩ := (PK.w (e := 40 - r) (b := V 199) k1 (by omega) (by omega)).2.1
  rw [V94, ej, sub_nI] at hm
  obtain ⟨X, hX⟩ : ∃ X, X = w49 V (s_pass (40 - r) (s_builds (τ 194) p kd pr 0) (V 199)).1 (s_pass (40 - r) (s_builds (τ 194) p kd pr 0) (V 199)).2 := ⟨_, rfl⟩
  have X94 : X 194 = (s_pass (40 - r) (s_builds (τ 194) p kd pr 0) (V 199)).1 := by rw [hX]; rfl
  have Xo : ∀ a, a ≠ 194 → a ≠ 199 → X a = V a := fun a h1 h2 => by
    rw [hX]
    show (if a = 194 then _ else if a = 199 then _ else _) = _
    rw [if_neg h1, if_neg h2]
  rw [← hX] at hm
  refine ⟨wr X 194 (s_lay (X 197) (X 194) 0 0), V 199, ?_, fun a h1 h2 h3 => by rw [wr_n h1, Xo a h1 h3, Vo a h1, To a h2], fun i hi => ?_⟩
  · unfold f_X5_would
    rw [m_aside, b1_some, ← hT, hb, b2_some, ← hV, lc_7, V94, k2, e40, hm, b2_some, if_pos (nn_nI (by omega)), m_it5 (by omega), b1_some, m_back, b1_some, X94]
    rfl
  · rw [wr_s, s_lay0 hi, Xo 197 (by omega) (by omega), Vo 197 (by omega), hT, wr_s, s_lay0 hi]
def s_pk (V : Nat → Int32) (p : Nat) (b : Option Nat) : Option Nat := match b with
  | none => some p
  | some q => if V p ≤ V q then some q else some p
def s_bpA (f V : Nat → Int32) : Nat → Nat → Option Nat → Option Nat
  | 0, _, b => b
  | d + 1, p, b => if oI (s_on f (nI p)) = -1 then s_bpA f V d (p + 1) (s_pk V p b) else s_bpA f V d (p + 1) b
def mM (V : Nat → Int32) (b : Option Nat) : Int32 := match b with
  | none => -1
  | some q => V q
theorem mul_le9 {x y k : Int32} (hx : vp_in x 80010001) (hy : vp_in y 80010001) (hk : pr9 k) : x * k ≤ y * k ↔ x ≤ y := by
  have hx' := tI_vp hx
  have hy' := tI_vp hy
  have hk' := id hk
  unfold pr9 at hk'
  obtain ⟨a1, -, -⟩ := tI_mul (x := x) (y := k) (n := 80010000) (m := 9) (by omega) (by omega) (by omega)
  obtain ⟨a2, -, -⟩ := tI_mul (x := y) (y := k) (n := 80010000) (m := 9) (by omega) (by omega) (by omega)
  rw [tI_le, tI_le, a1, a2]
  obtain ⟨z, hz⟩ : ∃ z, z = k.toInt := ⟨_, rfl⟩
  rw [← hz] at hk' ⊢
  have : z = 1 ∨ z = 2 ∨ z = 3 ∨ z = 4 ∨ z = 5 ∨ z = 6 ∨ z = 7 ∨ z = 8 ∨ z = 9 := by omega
  rcases this with rfl | rfl | rfl | rfl | rfl | rfl | rfl | rfl | rfl <;> omega
theorem mul_nn {x k : Int32} (hx : vp_in x 80010001) (hk : pr9 k) : ¬ x * k ≤ -1 := by
  have hx' := tI_vp hx
  have hk' := id hk
  unfold pr9 at hk'
  obtain ⟨a1, a2, -⟩ := tI_mul (x := x) (y := k) (n := 80010000) (m := 9) (by omega) (by omega) (by omega)
  rw [tI_le, a1, show (-1 : Int32).toInt = -1 from by decide]
  omega
theorem c_bp {f b0 : Nat → Int32} {r : Nat} {kd pr : Int32} (ok : OKf f) (h : PK f (40 - r)) (e40 : 40 - f 7 = nI (40 - r)) (hkd : vp_in kd 5) (hpr : pr9 pr) : ∀ (d p n : Nat) (σ : Sg) (b : Option Nat), p + d = 12 → d < n → FR 1 σ f → (∀ q, b = some q → q < 12) → ∃ F, l_X4_bestPitch_18 n σ kd pr (oI b) (match b with | none => -1 | some q => s_val f b0 r (nI q) kd pr * pr) (nI p) = some (.inr (oI (s_bpA f (fun p => s_val f b0 r (nI p) kd pr) d p b), F)) ∧ ∀ a, a < 28 ∨ 55 ≤ a → F a = σ a := by
  intro d
  induction d with
  | zero =>
    intro p n σ b hp hn hR hb
    obtain ⟨m, rfl⟩ : ∃ m, n = m + 1 := ⟨n - 1, by omega⟩
    rw [l_X4_bestPitch_18.eq_2, if_pos (show (12 : Int32) ≤ nI p from nI_le (a := 12) (b := p) (by omega) (by omega))]
    exact ⟨σ, rfl, fun _ _ => rfl⟩
  | succ d ih =>
    intro p n σ b hp hn hR hb
    obtain ⟨m, rfl⟩ : ∃ m, n = m + 1 := ⟨n - 1, by omega⟩
    have hv : ∀ q, q < 12 → vp_in (s_val f b0 r (nI q) kd pr) 80010001 := fun q hq => s_val_in ok h (vp_in_nI hq (by omega)) hkd hpr
    rw [l_X4_bestPitch_18.eq_2, if_neg (show ¬ (12 : Int32) ≤ nI p from nI_ge (a := p) (b := 12) (by omega) (by omega)), c_on hR ok.1.ns, b1_some, s_bpA, nI_1]
    by_cases ho : oI (s_on f (nI p)) = -1
    · rw [if_pos ho, if_pos ho]
      obtain ⟨S, x1, -, x3⟩ := c_new b0 hR ok h e40 (vp_in_nI (show p < 12 by omega) (by omega)) hkd hpr
      rw [x1, b2_some]
      have hRS : FR 1 S f := hR.at (fun a h1 h2 => x3 a (by omega)) ok.b.1 ok.b.2
      have hsome : ∃ F, l_X4_bestPitch_18 m S kd pr (nI p) (s_val f b0 r (nI p) kd pr * pr) (nI (p + 1)) = some (.inr (oI (s_bpA f (fun p => s_val f b0 r (nI p) kd pr) d (p + 1) (some p)), F)) ∧ ∀ a, a < 28 ∨ 55 ≤ a → F a = σ a := by
        obtain ⟨F, f1, f2⟩ := ih (p + 1) m S (some p) (by omega) (by omega) hRS (fun q e => by cases e; omega)
        exact ⟨F, f1, fun a ha => by rw [f2 a ha, x3 a ha]⟩
      cases b with
      | none =>
        dsimp only
        rw [if_neg (mul_nn (hv p (by omega)) hpr)]
        exact hsome
      | some q =>
        have hq := hb q rfl
        dsimp only [s_pk]
        by_cases hle : s_val f b0 r (nI p) kd pr ≤ s_val f b0 r (nI q) kd pr
        · rw [if_pos ((mul_le9 (hv p (by omega)) (hv q hq) hpr).mpr hle), if_pos hle]
          obtain ⟨F, f1, f2⟩ := ih (p + 1) m S (some q) (by omega) (by omega) hRS hb
          exact ⟨F, f1, fun a ha => by rw [f2 a ha, x3 a ha]⟩
        · rw [if_neg (fun z => hle ((mul_le9 (hv p (by omega)) (hv q hq) hpr).mp z)), if_neg hle]
          exact hsome
    · rw [if_neg ho, if_neg ho]
      exact ih (p + 1) m σ b (by omega) (by omega) hR hb
theorem m_bp {σ0 : Sg} {f b0 : Nat → Int32} {r : Nat} {kd pr : Int32} (hR : FR 1 σ0 f) (ok : OKf f) (h : PK f (40 - r)) (e40 : 40 - f 7 = nI (40 - r)) (hkd : vp_in kd 5) (hpr : pr9 pr) : ∀ (d p n : Nat) (τ : Sg) (b : Option Nat), p + d = 12 → d < n → (∀ i, i < 1785 → τ 194 i = f i) → (∀ q, b = some q → q < 12) → ∃ F, l_X5_bestPitch_44 n τ kd pr (oI b) (mM (fun p => s_val f b0 r (nI p) kd pr) b) (nI p) = some (oI (s_bpA f (fun p => s_val f b0 r (nI p) kd pr) d p b), F) ∧ (∀ a, a ≠ 194 → a ≠ 197 → a ≠ 199 → F a = τ a) ∧ ∀ i, i < 1785 → F 194 i = τ 194 i := by
  intro d
  induction d with
  | zero =>
    intro p n τ b hp hn hA hb
    obtain ⟨m, rfl⟩ : ∃ m, n = m + 1 := ⟨n - 1, by omega⟩
    rw [l_X5_bestPitch_44.eq_2, if_pos (show (12 : Int32) ≤ nI p from nI_le (a := 12) (b := p) (by omega) (by omega))]
    exact ⟨τ, rfl, fun _ _ _ _ => rfl, fun _ _ => rfl⟩
  | succ d ih =>
    intro p n τ b hp hn hA hb
    obtain ⟨m, rfl⟩ : ∃ m, n = m + 1 := ⟨n - 1, by omega⟩
    have hv : ∀ q, q < 12 → vp_in (s_val f b0 r (nI q) kd pr) 80010001 := fun q hq => s_val_in ok h (vp_in_nI hq (by omega)) hkd hpr
    have okT := ok.ext hA
    have eon : s_on (τ 194) (nI p) = s_on f (nI p) := by
      have h1 := c_on (p := nI p) hR ok.1.ns
      have h2 := c_on (p := nI p) (hR.ext hA ok.b.1 ok.b.2) okT.1.ns
      rw [h1] at h2
      have h3 := Option.some.inj h2
      have h7 := ok.b.1
      have h7' := okT.b.1
      cases q1 : s_on f (nI p) with
      | none =>
        cases q2 : s_on (τ 194) (nI p) with
        | none => rfl
        | some s2 =>
          have := (s_on_lt q2).1
          rw [q1, q2, oI_none, oI_some] at h3
          exact absurd h3.symm (nI_neg1 (by omega))
      | some s1 =>
        have l1 := (s_on_lt q1).1
        cases q2 : s_on (τ 194) (nI p) with
        | none =>
          rw [q1, q2, oI_none, oI_some] at h3
          exact absurd h3 (nI_neg1 (by omega))
        | some s2 =>
          have l2 := (s_on_lt q2).1
          rw [q1, q2, oI_some, oI_some] at h3
          rw [nI_inj (by omega) (by omega) h3]
    have hm1 : (-1 : Int32) ≤ mM (fun p => s_val f b0 r (nI p) kd pr) b := by
      cases b with
      | none => exact tI_le.mpr (Int.le_refl _)
      | some q =>
        have hq := tI_vp (hv q (hb q rfl))
        rw [tI_le, show (-1 : Int32).toInt = -1 from by decide]
        show -1 ≤ (s_val f b0 r (nI q) kd pr).toInt
        omega
    rw [l_X5_bestPitch_44.eq_2, if_neg (show ¬ (12 : Int32) ≤ nI p from nI_ge (a := p) (b := 12) (by omega) (by omega)), m_on okT.1.ns, b1_some, s_bpA, nI_1, eon]
    by_cases ho : oI (s_on f (nI p)) = -1
    · have hPT : PK (τ 194) (40 - r) := ⟨okT.1, okT.2.1, okT.2.2.1, okT.2.2.2.1, by rw [tm_of (hA 6 (by omega)) (hA 7 (by omega))]; exact h.2.2.2.2⟩
      rw [if_pos ho, if_pos ho]
      obtain ⟨S, bb, x1, x2, x3⟩ := m_would (p := nI p) okT hPT (by rw [hA 7 (by omega)]; exact e40) (vp_in_nI (show p < 12 by omega) (by omega)) hkd hpr
      rw [s_val_det (b := b0) hR ok h e40 (vp_in_nI (show p < 12 by omega) (by omega)) hkd hpr hA hPT] at x1
      rw [x1, b2_some]
      have hAS : ∀ i, i < 1785 → S 194 i = f i := fun i hi => by rw [x3 i hi]; exact hA i hi
      have hsome : ∃ F, l_X5_bestPitch_44 m S kd pr (nI p) (s_val f b0 r (nI p) kd pr) (nI (p + 1)) = some (oI (s_bpA f (fun p => s_val f b0 r (nI p) kd pr) d (p + 1) (some p)), F) ∧ (∀ a, a ≠ 194 → a ≠ 197 → a ≠ 199 → F a = τ a) ∧ ∀ i, i < 1785 → F 194 i = τ 194 i := by
        obtain ⟨F, f1, f2, f3⟩ := ih (p + 1) m S (some p) (by omega) (by omega) hAS (fun q e => by cases e; omega)
        exact ⟨F, f1, fun a h1 h2 h3 => by rw [f2 a h1 h2 h3, x2 a h1 h2 h3], fun i hi => by rw [f3 i hi, x3 i hi]⟩
      cases b with
      | none =>
        have hn1 : ¬ s_val f b0 r (nI p) kd pr ≤ mM (fun p => s_val f b0 r (nI p) kd pr) none := by
          have hq := tI_vp (hv p (by omega))
          rw [tI_le, show (mM (fun p => s_val f b0 r (nI p) kd pr) none).toInt = -1 from (show (-1 : Int32).toInt = -1 by decide)]
          omega
        rw [if_neg hn1, if_neg hn1]
        exact hsome
      | some q =>
        by_cases hle : s_val f b0 r (nI p) kd pr ≤ mM (fun p => s_val f b0 r (nI p) kd pr) (some q)
        · have e1 : s_pk (fun p => s_val f b0 r (nI p) kd pr) p (some q) = some q := if_pos hle
          rw [if_pos hle, if_pos hle, e1]
          obtain ⟨F, f1, f2, f3⟩ := ih (p + 1) m S (some q) (by omega) (by omega) hAS hb
          exact ⟨F, f1, fun a h1 h2 h3 => by rw [f2 a h1 h2 h3, x2 a h1 h2 h3], fun i hi => by rw [f3 i hi, x3 i hi]⟩
        · have e1 : s_pk (fun p => s_val f b0 r (nI p) kd pr) p (some q) = some p := if_neg hle
          rw [if_neg hle, if_neg hle, e1]
          exact hsome
    · rw [if_neg ho, if_neg ho, if_pos hm1, if_pos hm1]
      exact ih (p + 1) m τ b (by omega) (by omega) hA hb
theorem kk_56 {σ : Sg} {a1 a2 a3 a4 : Int32} (hI : IV σ) : ∃ σ', g_56 σ a1 a2 a3 a4 = some σ' ∧ IV σ' := by
  obtain ⟨m, R, hs, sn, hc, hr, ok⟩ := hI.parts
  have hw := ok.1.1
  unfold g_56 f_L_bestPitch
  by_cases h1 : vp_in a1 5
  · by_cases h2 : pr9 a2
    · obtain ⟨r, hr40, er, e40, hpk⟩ := ok.1.pk
      obtain ⟨U, y1, y2⟩ := c_bp (b0 := σ 199) ok.1 hpk e40 h1 h2 12 0 10000 σ none (by omega) (by omega) hc.1 (fun q e => by cases e)
      obtain ⟨y, hy⟩ : ∃ y, y = oI (s_bpA (σ 194) (fun p => s_val (σ 194) (σ 199) r (nI p) a1 a2) 12 0 none) := ⟨_, rfl⟩
      rw [← hy] at y1
      have hC : f_X4_bestPitch σ a1 a2 = some (.inr (y, U)) := by
        unfold f_X4_bestPitch
        rw [c_kind1 h1, bt_inr, c_price1 h2, bt_inr]
        exact y1
      obtain ⟨T, hT⟩ : ∃ T, T = u2 (u2 U 202 0 y) 193 10 0 := ⟨_, rfl⟩
      have To : ∀ a, a ≠ 193 → a ≠ 202 → T a = U a := fun a h1 h3 => by rw [hT, u2_cell h1, u2_cell h3]
      have T3 : ∀ i, i ≠ 10 → T 193 i = σ 193 i := fun i hi => by rw [hT, u2_ri hi, u2_cell (by omega), y2 193 (by omega)]
      have T94 : T 194 = σ 194 := by rw [To 194 (by omega) (by omega), y2 194 (by omega)]
      obtain ⟨F, f1, f2, f3⟩ := m_bp (b0 := σ 199) hc.1 ok.1 hpk e40 h1 h2 12 0 10000 T none (by omega) (by omega) (fun i hi => by rw [T94]) (fun q e => by cases e)
      rw [← hy] at f1
      have hX : f_X5_bestPitch (u2 U 202 0 y) a1 a2 = some (y, F) := by
        unfold f_X5_bestPitch
        rw [m_kind1 h1, b1_some, if_neg (by decide), m_price1 h2, b1_some, if_neg (by decide), st_eq, u2_rs, if_pos le00, ← hT]
        exact f1
      refine g_thr (X := fun τ => f_X5_bestPitch τ a1 a2) (k := 0) (σ1 := u2 U 202 0 y) (by rw [hC]; rfl) hX ?_ (fun _ => ?_) (hI.same ⟨fun a ha => ?_, fun i hi => ?_, ?_, ?_, ?_, ?_⟩)
      · rw [f2 193 (by omega) (by omega) (by omega), hT, u2_rs]
      · rw [f2 202 (by omega) (by omega) (by omega), hT, u2_cell (by omega), u2_rs]
      · rw [f2 a (by omega) (by omega) (by omega), To a (by omega) (by omega), y2 a (by omega)]
      · rw [f3 i hi, T94]
      · rw [f2 191 (by omega) (by omega) (by omega), To 191 (by omega) (by omega), y2 191 (by omega)]
      · rw [f2 193 (by omega) (by omega) (by omega), T3 2 (by omega)]
      · rw [f2 193 (by omega) (by omega) (by omega), T3 4 (by omega)]
      · rw [f2 193 (by omega) (by omega) (by omega), T3 9 (by omega)]
    · refine mu_no hI (e := 2) (k := 2) (X := fun τ => f_X5_bestPitch τ a1 a2) ?_ rfl (by decide) ?_
      · unfold f_X4_bestPitch
        rw [c_kind1 h1, bt_inr, c_price0 h2, bt_inl]
      · show ∃ y', f_X5_bestPitch σ a1 a2 = _
        unfold f_X5_bestPitch
        rw [m_kind1 h1, b1_some, if_neg (by decide), m_price0 h2, b1_some, if_pos rfl, st_eq, u2_rs, if_neg nle20]
        exact ⟨_, rfl⟩
  · refine mu_no hI (e := 1) (k := 1) (X := fun τ => f_X5_bestPitch τ a1 a2) ?_ rfl (by decide) ?_
    · unfold f_X4_bestPitch
      rw [c_kind0 h1, bt_inl]
    · show ∃ y', f_X5_bestPitch σ a1 a2 = _
      unfold f_X5_bestPitch
      rw [m_kind0 h1, b1_some, if_pos rfl, st_eq, u2_rs, if_neg nle10]
      exact ⟨_, rfl⟩

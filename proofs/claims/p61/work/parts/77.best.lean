/-! the best pitch for a new stall -/
theorem PK.builds {f : Nat → Int32} {r : Nat} {p kd pr : Int32} (ok : OKf f) (h : PK f (40 - r)) (hp : vp_in p 12) (hkd : vp_in kd 5) (hpr : pr9 pr) : PK (s_builds f p kd pr 0) (40 - r) ∧ s_builds f p kd pr 0 7 = f 7 := by
  obtain ⟨h1, h2, h3, h4, h5⟩ := h
  have h6 := ok.2.2.2.2.2
  have e6 : s_builds f p kd pr 0 6 = f 6 := s_builds_o (by omega) (by omega)
  have e7 : s_builds f p kd pr 0 7 = f 7 := s_builds_o (by omega) (by omega)
  obtain ⟨b1, b2, b3⟩ := W_builds (rf := 0) h1 h2 h4 h6 hp hkd (pr9_vp hpr).1 (pr9_vp hpr).2 (vp_lit (by decide))
  exact ⟨⟨b1, b2, by rw [e7]; exact h3, by rw [tm_of e6 e7]; exact b3, by rw [tm_of e6 e7]; exact h5⟩, e7⟩
def s_val (f b : Nat → Int32) (r : Nat) (p kd pr : Int32) : Int32 := (s_pass (40 - r) (s_builds f p kd pr 0) b).1 (24 + 23 * nS f + 5)
theorem s_val_in {f b : Nat → Int32} {r : Nat} {p kd pr : Int32} (ok : OKf f) (h : PK f (40 - r)) (hp : vp_in p 12) (hkd : vp_in kd 5) (hpr : pr9 pr) : vp_in (s_val f b r p kd pr) 80010001 := by
  obtain ⟨k1, k2⟩ := PK.builds ok h hp hkd hpr
  obtain ⟨-, -, w3, -, w5⟩ := PK.w (e := 40 - r) (b := b) k1 (by omega) (by omega)
  exact w5 (nS f) (by rw [w3, nS_builds h.1.ns]; omega)
theorem c_new {σ : Sg} {f : Nat → Int32} {r : Nat} {p kd pr : Int32} (b : Nat → Int32) (hR : FR 1 σ f) (ok : OKf f) (h : PK f (40 - r)) (e40 : 40 - f 7 = nI (40 - r)) (hp : vp_in p 12) (hkd : vp_in kd 5) (hpr : pr9 pr) : ∃ σ', f_X4_coinsOfNewStall σ p kd pr = some (s_val f b r p kd pr * pr, σ') ∧ σ' (28 + 13 + 2 * nS f) 6 = s_val f b r p kd pr ∧ ∀ a, a < 28 ∨ 55 ≤ a → σ' a = σ a := by
  have h6 := ok.2.2.2.2.2
  have hw := ok.1
  obtain ⟨k1, k2⟩ := PK.builds ok h hp hkd hpr
  obtain ⟨S, x1, x2, x3⟩ := c_copy (c := 28) (d := 1) (by omega) hR hw
  obtain ⟨T, y1, y2, y3⟩ := c_addStall (p := p) (kd := kd) (pr := pr) (rf := 0) x2 (fun _ _ => rfl) hw.ns (by omega) hw.c200 (vp_lit (by decide))
  obtain ⟨U, z1, z2, z3⟩ := PK.c (e := 40 - r) b (Or.inr (Or.inl rfl)) y2 k1 (by omega) (by omega)
  have n1 := (PK.w (e := 40 - r) (b := b) k1 (by omega) (by omega)).2.2.1
  have n2 := nS_builds (p := p) (kd := kd) (pr := pr) (rf := 0) hw.ns
  have v := z2.s5 (s := nS f) (by omega) (by omega)
  refine ⟨U, ?_, v, fun a ha => by rw [z3 a (by omega), y3 a (by omega), x3 a (by omega)]⟩
  unfold f_X4_coinsOfNewStall
  rw [x1, b1_some, y1, b2_some, y3 1 (by omega), x3 1 (by omega), hR.r7, e40, z1, b1_some, gd_ok rfl (show nS f < 7 by omega) (by omega), sk_nI (by omega), v]
  rfl
/-- the same for each row that agrees and for each busy row -/
theorem s_val_det {σ : Sg} {f f' b b' : Nat → Int32} {r : Nat} {p kd pr : Int32} (hR : FR 1 σ f) (ok : OKf f) (h : PK f (40 - r)) (e40 : 40 - f 7 = nI (40 - r)) (hp : vp_in p 12) (hkd : vp_in kd 5) (hpr : pr9 pr) (e : ∀ i, i < 1785 → f' i = f i) (h' : PK f' (40 - r)) : s_val f' b' r p kd pr = s_val f b r p kd pr := by
  obtain ⟨S, x1, x2, -⟩ := c_new b hR ok h e40 hp hkd hpr
  obtain ⟨S', y1, y2, -⟩ := c_new b' (hR.ext e ok.b.1 ok.b.2) (ok.ext e) h' (by rw [e 7 (by omega)]; exact e40) hp hkd hpr
  rw [x1] at y1
  have e1 : S = S' := congrArg Prod.snd (Option.some.inj y1)
  rw [nS_ext e, ← e1] at y2
  rw [← y2, ← x2]
def s_pk (V : Nat → Int32) (p : Nat) (b : Option Nat) : Option Nat := match b with
  | none => some p
  | some q => if V p ≤ V q then some q else some p
def s_bpA (f V : Nat → Int32) : Nat → Nat → Option Nat → Option Nat
  | 0, _, b => b
  | d + 1, p, b => if oI (s_on f (nI p)) = -1 then s_bpA f V d (p + 1) (s_pk V p b) else s_bpA f V d (p + 1) b
def mM (V : Nat → Int32) (b : Option Nat) : Int32 := match b with
  | none => -1
  | some q => V q
theorem mul_le9 {x y k : Int32} (hx : vp_in x 80010001) (hy : vp_in y 80010001) (hk : pr9 k) : x * k ≤ y * k ↔ x ≤ y := by
  have hx' := tI_vp hx
  have hy' := tI_vp hy
  have hk' := id hk
  unfold pr9 at hk'
  obtain ⟨a1, -, -⟩ := tI_mul (x := x) (y := k) (n := 80010000) (m := 9) (by omega) (by omega) (by omega)
  obtain ⟨a2, -, -⟩ := tI_mul (x := y) (y := k) (n := 80010000) (m := 9) (by omega) (by omega) (by omega)
  rw [tI_le, tI_le, a1, a2]
  obtain ⟨z, hz⟩ : ∃ z, z = k.toInt := ⟨_, rfl⟩
  rw [← hz] at hk' ⊢
  have : z = 1 ∨ z = 2 ∨ z = 3 ∨ z = 4 ∨ z = 5 ∨ z = 6 ∨ z = 7 ∨ z = 8 ∨ z = 9 := by omega
  rcases this with rfl | rfl | rfl | rfl | rfl | rfl | rfl | rfl | rfl <;> omega
theorem mul_nn {x k : Int32} (hx : vp_in x 80010001) (hk : pr9 k) : ¬ x * k ≤ -1 := by
  have hx' := tI_vp hx
  have hk' := id hk
  unfold pr9 at hk'
  obtain ⟨a1, a2, -⟩ := tI_mul (x := x) (y := k) (n := 80010000) (m := 9) (by omega) (by omega) (by omega)
  rw [tI_le, a1, show (-1 : Int32).toInt = -1 from by decide]
  omega
theorem c_bp {f b0 : Nat → Int32} {r : Nat} {kd pr : Int32} (ok : OKf f) (h : PK f (40 - r)) (e40 : 40 - f 7 = nI (40 - r)) (hkd : vp_in kd 5) (hpr : pr9 pr) : ∀ (d p n : Nat) (σ : Sg) (b : Option Nat), p + d = 12 → d < n → FR 1 σ f → (∀ q, b = some q → q < 12) → ∃ F, l_X4_bestPitch_18 n σ kd pr (oI b) (match b with | none => -1 | some q => s_val f b0 r (nI q) kd pr * pr) (nI p) = some (.inr (oI (s_bpA f (fun p => s_val f b0 r (nI p) kd pr) d p b), F)) ∧ ∀ a, a < 28 ∨ 55 ≤ a → F a = σ a := by
  intro d
  induction d with
  | zero =>
    intro p n σ b hp hn hR hb
    obtain ⟨m, rfl⟩ : ∃ m, n = m + 1 := ⟨n - 1, by omega⟩
    rw [l_X4_bestPitch_18.eq_2, if_pos (show (12 : Int32) ≤ nI p from nI_le (a := 12) (b := p) (by omega) (by omega))]
    exact ⟨σ, rfl, fun _ _ => rfl⟩
  | succ d ih =>
    intro p n σ b hp hn hR hb
    obtain ⟨m, rfl⟩ : ∃ m, n = m + 1 := ⟨n - 1, by omega⟩
    have hv : ∀ q, q < 12 → vp_in (s_val f b0 r (nI q) kd pr) 80010001 := fun q hq => s_val_in ok h (vp_in_nI hq (by omega)) hkd hpr
    rw [l_X4_bestPitch_18.eq_2, if_neg (show ¬ (12 : Int32) ≤ nI p from nI_ge (a := p) (b := 12) (by omega) (by omega)), c_on hR ok.1.ns, b1_some, s_bpA, nI_1]
    by_cases ho : oI (s_on f (nI p)) = -1
    · rw [if_pos ho, if_pos ho]
      obtain ⟨S, x1, -, x3⟩ := c_new b0 hR ok h e40 (vp_in_nI (show p < 12 by omega) (by omega)) hkd hpr
      rw [x1, b2_some]
      have hRS : FR 1 S f := hR.at (fun a h1 h2 => x3 a (by omega)) ok.b.1 ok.b.2
      have hsome : ∃ F, l_X4_bestPitch_18 m S kd pr (nI p) (s_val f b0 r (nI p) kd pr * pr) (nI (p + 1)) = some (.inr (oI (s_bpA f (fun p => s_val f b0 r (nI p) kd pr) d (p + 1) (some p)), F)) ∧ ∀ a, a < 28 ∨ 55 ≤ a → F a = σ a := by
        obtain ⟨F, f1, f2⟩ := ih (p + 1) m S (some p) (by omega) (by omega) hRS (fun q e => by cases e; omega)
        exact ⟨F, f1, fun a ha => by rw [f2 a ha, x3 a ha]⟩
      cases b with
      | none =>
        dsimp only
        rw [if_neg (mul_nn (hv p (by omega)) hpr)]
        exact hsome
      | some q =>
        have hq := hb q rfl
        dsimp only [s_pk]
        by_cases hle : s_val f b0 r (nI p) kd pr ≤ s_val f b0 r (nI q) kd pr
        · rw [if_pos ((mul_le9 (hv p (by omega)) (hv q hq) hpr).mpr hle), if_pos hle]
          obtain ⟨F, f1, f2⟩ := ih (p + 1) m S (some q) (by omega) (by omega) hRS hb
          exact ⟨F, f1, fun a ha => by rw [f2 a ha, x3 a ha]⟩
        · rw [if_neg (fun z => hle ((mul_le9 (hv p (by omega)) (hv q hq) hpr).mp z)), if_neg hle]
          exact hsome
    · rw [if_neg ho, if_neg ho]
      exact ih (p + 1) m σ b (by omega) (by omega) hR hb

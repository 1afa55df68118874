/-! the start of an object -/
theorem dz {i : Nat} (h : i ≠ 0) : DD 9223372036854775808000 i = 0 := by
  have e : dg 500 i = 0 := by
    show (500 >>> (32 * i)) % 4294967296 = 0
    rw [Nat.shiftRight_eq_div_pow, Nat.div_eq_of_lt]
    exact Nat.lt_of_lt_of_le (show 500 < 2 ^ 32 by decide) (Nat.pow_le_pow_right (by decide) (by omega))
  show DI 500 i = 0
  unfold DI
  rw [e]
  rfl
theorem s0_n {k i : Nat} (h : i ≠ 0) : s0 k i = 0 := if_neg (fun z => h z.1)
theorem p_init {R : Nat → Nat → Int32} {sn T : Nat → Int32} : PI s0 (DD 9223372036854775808000) 0 R 0 sn 0 T := by
  obtain ⟨f, hf⟩ : ∃ f, f = DD 9223372036854775808000 := ⟨_, rfl⟩
  have f0 : f 0 = 500 := by rw [hf]; decide +kernel
  have fn : ∀ i, i ≠ 0 → f i = 0 := fun i h => by rw [hf]; exact dz h
  rw [← hf]
  clear hf
  have n8 : nS f = 0 := by
    unfold nS
    rw [fn 8 (by omega)]
    rfl
  have n9 : nC f = 0 := by
    unfold nC
    rw [fn 9 (by omega)]
    rfl
  have c10 : s0 1 0 = 500 := by rw [s0_F (by decide +kernel)]; rfl
  have c20 : s0 (1 + 1) 0 = 0 := by rw [s0_z (by decide +kernel) (by decide)]
  have c30 : s0 (1 + 2) 0 = 0 := by rw [s0_z (by decide +kernel) (by decide)]
  have c50 : s0 (1 + 4) 0 = 0 := by rw [s0_z (by decide +kernel) (by decide)]
  have hz : ∀ (i N : Nat), i ≠ 0 → 0 < N → vp_in (f i) N := fun i N h hN => by
    rw [fn i h]
    exact vp_tI (by decide) (by rw [show (0 : Int32).toInt = 0 from by decide]; omega)
  have e0 : (f 0).toInt = 500 := by rw [f0]; decide
  have ez : ∀ i, i ≠ 0 → (f i).toInt = 0 := fun i h => by rw [fn i h]; decide
  refine ⟨⟨⟨fun i hi => ?_, ⟨0, Nat.zero_le _, s0_n (by omega), fun k hk => by omega⟩, fun k hk => by omega, fun s hs => by omega⟩, by omega, s0_n (by omega), ⟨0, by omega, s0_n (by omega), fun j hj => by omega⟩, s0_n (by omega), fun h => absurd h (by decide)⟩, ⟨⟨?_, ?_, hz 7 40 (by omega) (by omega), fun s hs => by omega, ?_, by omega⟩, fun j hj => by omega, Or.inl rfl, fun h => absurd h (by decide)⟩, by omega, s0_n (by omega), fun i hi => by omega⟩
  · unfold vld at hi
    rw [n8, n9] at hi
    have h24 : i < 24 := by omega
    by_cases a : i = 0
    · subst a
      rw [fr_0, c10, f0]
    · rw [fn i a]
      unfold fl
      by_cases a1 : i < 8
      · rw [if_pos a1]; exact s0_n a
      rw [if_neg a1]
      by_cases a2 : i = 8
      · rw [if_pos a2]; exact s0_n (by omega)
      rw [if_neg a2]
      by_cases a3 : i = 9
      · rw [if_pos a3]; exact c50
      rw [if_neg a3]
      by_cases a4 : i < 14
      · rw [if_pos a4]
        by_cases b : i - 10 = 0
        · rw [b]; exact c30
        · exact s0_n b
      rw [if_neg a4, if_pos h24]
      by_cases b : i - 14 = 0
      · rw [b]; exact c20
      · exact s0_n b
  · exact ⟨hz 6 _ (by omega) (by omega), hz 7 _ (by omega) (by omega), hz 8 _ (by omega) (by omega), hz 9 _ (by omega) (by omega), fun h hh => hz _ _ (by omega) (by omega), fun s hs => by omega, fun k hk => by omega⟩
  · refine ⟨by omega, by rw [ez 1 (by omega)]; exact Int.le_refl _, by rw [ez 2 (by omega)]; exact Int.le_refl _, fun s hs => by omega, fun k hk => by omega, ?_, ?_, ?_⟩
    · rw [n8, n9, sm, sm, e0, ez 1 (by omega), ez 2 (by omega), ez 3 (by omega)]
      rfl
    · rw [n9, ez 3 (by omega)]
      exact Int.le_refl _
    · rw [n9, sm, ez 4 (by omega), ez 3 (by omega)]
      rfl
  · unfold tm
    rw [fn 6 (by omega), fn 7 (by omega)]
    decide
/-! any act with any numbers: it throws and nothing has changed, or it is done and recorded -/
def CO1 (c : Option (Int32 × Sg)) (σ : Sg) (f : Nat → Int32) (m : Nat) (R : Nat → Nat → Int32) (hs : Int32) (sn : Nat → Int32) (n : Nat) (T : Nat → Int32) : Prop := (∃ e, (e = 1 ∨ e = 2 ∨ e = 3) ∧ c = some (cde e, σ)) ∨ ∃ y τ g, c = some (y, τ) ∧ PI τ g (kp m) (kR m R f) hs sn n T ∧ (-1999 : Int32) ≤ y
theorem ge_nI {j : Nat} (h : j < 2 ^ 31) : (-1999 : Int32) ≤ nI j := by
  rw [tI_le, nI_toInt h, show (-1999 : Int32).toInt = -1999 from by decide]
  omega
theorem ge_tI {x : Int32} (h : 0 ≤ x.toInt) : (-1999 : Int32) ≤ x := by
  rw [tI_le, show (-1999 : Int32).toInt = -1999 from by decide]
  omega
section ACTS
variable {σ : Sg} {f : Nat → Int32} {m : Nat} {R : Nat → Nat → Int32} {hs : Int32} {sn : Nat → Int32} {n : Nat} {T : Nat → Int32}
theorem t_build {a1 a2 a3 a5 : Int32} (h : PI σ f m R hs sn n T) (h5 : ¬ a5 = 1) : CO1 (f_L_call σ 0 a1 a2 a3 a5) σ f m R hs sn n T := by
  have h7 := h.2.1.1.1.s7
  by_cases h1 : vp_in a1 12
  · by_cases h2 : vp_in a2 5
    · by_cases h3 : pr9 a3
      · by_cases h4 : s_whyB f a1 0 = 0
        · obtain ⟨σ1, c, p⟩ := p_build (rf := 0) h h1 h2 h3 (vp_lit (by decide)) h4
          exact Or.inr ⟨_, σ1, _, cl_00r h5 c, p, ge_nI (by omega)⟩
        · exact Or.inl ⟨3, by omega, cl_00i (by omega) h5 (n_build4 h h1 h2 h3 h4)⟩
      · exact Or.inl ⟨2, by omega, cl_00i (by omega) h5 (n_build3 h1 h2 h3)⟩
    · exact Or.inl ⟨1, by omega, cl_00i (by omega) h5 (n_build2 h1 h2)⟩
  · exact Or.inl ⟨1, by omega, cl_00i (by omega) h5 (n_build1 h1)⟩
theorem pS_nn {s : Nat} (h : PI σ f m R hs sn n T) (h1 : s < nS f) : 0 ≤ (f (24 + 23 * s + 4)).toInt := h.2.1.1.2.1.2.2.2.1 s h1
theorem t_down {a1 a2 a3 a5 : Int32} (h : PI σ f m R hs sn n T) : CO1 (f_L_call σ 1 a1 a2 a3 a5) σ f m R hs sn n T := by
  have h7 := h.2.1.1.1.s7
  by_cases h1 : vp_in a1 (nS f)
  · obtain ⟨s, q, rfl⟩ := vp_s h1 (by omega)
    obtain ⟨σ1, c, p⟩ := p_down h q
    exact Or.inr ⟨_, σ1, _, cl_1r c, p, ge_tI (pS_nn h q)⟩
  · exact Or.inl ⟨1, by omega, cl_1i (by omega) (n_down h h1)⟩
theorem t_setP {a1 a2 a3 a5 : Int32} (h : PI σ f m R hs sn n T) : CO1 (f_L_call σ 2 a1 a2 a3 a5) σ f m R hs sn n T := by
  have h7 := h.2.1.1.1.s7
  by_cases h1 : vp_in a1 (nS f)
  · obtain ⟨s, q, rfl⟩ := vp_s h1 (by omega)
    by_cases h2 : pr9 a2
    · obtain ⟨σ1, c, p⟩ := p_setP h q h2
      exact Or.inr ⟨_, σ1, _, cl_2r c, p, ge_tI (tI_vp (h.2.1.1.1.st s q).2.2.1).1⟩
    · exact Or.inl ⟨2, by omega, cl_2i (by omega) (n_setP2 h q h2)⟩
  · exact Or.inl ⟨1, by omega, cl_2i (by omega) (n_setP1 h h1)⟩
theorem t_turn {a1 a2 a3 a5 : Int32} (h : PI σ f m R hs sn n T) : CO1 (f_L_call σ 3 a1 a2 a3 a5) σ f m R hs sn n T := by
  have h7 := h.2.1.1.1.s7
  by_cases h1 : vp_in a1 (nS f)
  · obtain ⟨s, q, rfl⟩ := vp_s h1 (by omega)
    obtain ⟨σ1, c, p⟩ := p_turn h q
    refine Or.inr ⟨_, σ1, _, cl_3r c, p, ?_⟩
    split <;> decide
  · exact Or.inl ⟨1, by omega, cl_3i (by omega) (n_turn h h1)⟩
theorem t_stock {a1 a2 a3 a4 : Int32} (h : PI σ f m R hs sn n T) : CO1 (f_L_call σ 4 a1 a2 a3 a4) σ f m R hs sn n T := by
  have h7 := h.2.1.1.1.s7
  by_cases h1 : vp_in a1 (nS f)
  · obtain ⟨s, q, rfl⟩ := vp_s h1 (by omega)
    by_cases h2 : vp_in a2 4
    · obtain ⟨l, hl, rfl⟩ := vp_s h2 (by omega)
      by_cases h3 : vp_in a3 4
      · obtain ⟨j, hj, rfl⟩ := vp_s h3 (by omega)
        by_cases h4 : up1 40 a4
        · by_cases h5 : s_whyS f s l a4 = 0
          · obtain ⟨σ1, c, p⟩ := p_stock h q hl hj h4 h5
            have e8 : nS (s_stocks f s l j a4) = nS f := by
              unfold s_stocks
              rw [nS_upd (by omega), nS_upd (by omega), nS_upd (by omega)]
            have := pS_nn p (s := s) (by rw [e8]; exact q)
            rw [show s_stocks f s l j a4 (24 + 23 * s + 4) = f (24 + 23 * s + 4) - a4 * s_cost (nI l) from by
              unfold s_stocks
              rw [upd_n (by omega), upd_n (by omega), upd_s]] at this
            exact Or.inr ⟨_, σ1, _, cl_4r c, p, ge_tI this⟩
          · exact Or.inl ⟨3, by omega, cl_4i (by omega) (n_stock5 h q hl h3 h4 h5)⟩
        · exact Or.inl ⟨2, by omega, cl_4i (by omega) (n_stock4 h q h2 h3 h4)⟩
      · exact Or.inl ⟨1, by omega, cl_4i (by omega) (n_stock3 h q h2 h3)⟩
    · exact Or.inl ⟨1, by omega, cl_4i (by omega) (n_stock2 h q h2)⟩
  · exact Or.inl ⟨1, by omega, cl_4i (by omega) (n_stock1 h h1)⟩
theorem t_fund {a1 a2 a3 a5 : Int32} (h : PI σ f m R hs sn n T) : CO1 (f_L_call σ 5 a1 a2 a3 a5) σ f m R hs sn n T := by
  have h7 := h.2.1.1.1.s7
  by_cases h1 : vp_in a1 (nS f)
  · obtain ⟨s, q, rfl⟩ := vp_s h1 (by omega)
    by_cases h4 : up1 99 a2
    · by_cases h5 : a2 ≤ f 0
      · obtain ⟨σ1, c, p⟩ := p_fund h q h4 h5
        have e8 : nS (s_funds f s a2) = nS f := by
          unfold s_funds
          rw [nS_upd (by omega), nS_upd (by omega)]
        have := pS_nn p (s := s) (by rw [e8]; exact q)
        rw [show s_funds f s a2 (24 + 23 * s + 4) = f (24 + 23 * s + 4) + a2 from by
          unfold s_funds
          rw [upd_s]] at this
        exact Or.inr ⟨_, σ1, _, cl_5r c, p, ge_tI this⟩
      · exact Or.inl ⟨3, by omega, cl_5i (by omega) (n_fund3 h q h4 h5)⟩
    · exact Or.inl ⟨2, by omega, cl_5i (by omega) (n_fund2 h q h4)⟩
  · exact Or.inl ⟨1, by omega, cl_5i (by omega) (n_fund1 h h1)⟩
theorem t_coll {a1 a2 a3 a5 : Int32} (h : PI σ f m R hs sn n T) : CO1 (f_L_call σ 6 a1 a2 a3 a5) σ f m R hs sn n T := by
  have h7 := h.2.1.1.1.s7
  by_cases h1 : vp_in a1 (nS f)
  · obtain ⟨s, q, rfl⟩ := vp_s h1 (by omega)
    obtain ⟨σ1, c, p⟩ := p_coll h q
    exact Or.inr ⟨_, σ1, _, cl_6r c, p, ge_tI (pS_nn h q)⟩
  · exact Or.inl ⟨1, by omega, cl_6i (by omega) (n_coll h h1)⟩
theorem t_come {a1 a2 a3 a5 : Int32} (h : PI σ f m R hs sn n T) : CO1 (f_L_call σ 7 a1 a2 a3 a5) σ f m R hs sn n T := by
  have h9 := h.2.1.1.1.c200
  by_cases h2 : vp_in a2 5
  · by_cases h3 : vp_in a3 4
    · by_cases h1 : vp_in a1 100
      · by_cases h5 : s_room f = 0
        · exact Or.inl ⟨3, by omega, cl_7i (by omega) (n_come4 h h1 h2 h3 h5)⟩
        · obtain ⟨σ1, c, p⟩ := p_come h h1 h2 h3 h5
          exact Or.inr ⟨_, σ1, _, cl_7r c, p, ge_nI (by omega)⟩
      · exact Or.inl ⟨2, by omega, cl_7i (by omega) (n_come3 h1 h2 h3)⟩
    · exact Or.inl ⟨1, by omega, cl_7i (by omega) (n_come2 h2 h3)⟩
  · exact Or.inl ⟨1, by omega, cl_7i (by omega) (n_come1 h2)⟩
theorem t_setR {a1 a2 a3 a5 : Int32} (h : PI σ f m R hs sn n T) : CO1 (f_L_call σ 8 a1 a2 a3 a5) σ f m R hs sn n T := by
  by_cases h1 : vp_in a1 10
  · obtain ⟨s, q, rfl⟩ := vp_s h1 (by omega)
    by_cases h2 : vp_in a2 10
    · obtain ⟨σ1, c, p⟩ := p_setR h q h2
      exact Or.inr ⟨_, σ1, _, cl_8r c, p, ge_tI (tI_vp (h.2.1.1.1.rain s q)).1⟩
    · exact Or.inl ⟨2, by omega, cl_8i (by omega) (n_setR2 h1 h2)⟩
  · exact Or.inl ⟨1, by omega, cl_8i (by omega) (n_setR1 h1)⟩
theorem t_pass {a1 a2 a3 a5 : Int32} (h : PI σ f m R hs sn n T) : CO1 (f_L_call σ 9 a1 a2 a3 a5) σ f m R hs sn n T := by
  by_cases h1 : up1 40 a1
  · obtain ⟨k, k1, k2, rfl⟩ := up_ex (k := 40) h1 (by omega)
    by_cases h5 : tm f + k < 400000
    · obtain ⟨j, σ1, hj, -, c, p⟩ := p_pass (fun _ => 0) h k1 k2 h5
      exact Or.inr ⟨_, σ1, _, cl_9r c, p, ge_nI (by omega)⟩
    · exact Or.inl ⟨3, by omega, cl_9i (by omega) (n_pass2 h k1 k2 h5)⟩
  · exact Or.inl ⟨2, by omega, cl_9i (by omega) (n_pass1 h1)⟩
theorem t_rest {a1 a2 a3 a5 : Int32} (h : PI σ f m R hs sn n T) : CO1 (f_L_call σ 11 a1 a2 a3 a5) σ f m R hs sn n T := by
  rcases h.2.1.2.2.1 with q | q
  · exact Or.inl ⟨3, by omega, cl_11i (by omega) (n_rest h q)⟩
  · obtain ⟨σ1, c, p⟩ := p_rest h q
    exact Or.inr ⟨_, σ1, _, cl_11r c, p, ge_tI (h.2.1.2.2.2 q).2.1.1⟩
end ACTS
/-! the law's loops -/
/-- what the law knows: the latest four records are as the sums were taken -/
def LI (σ : Sg) (f : Nat → Int32) (R : Nat → Nat → Int32) (sn T : Nat → Int32) (acts : Nat) (w : Nat → Int64) : Prop := PI σ f 4 R 1 sn 0 T ∧ ∀ j, j < 4 → j < acts → w (acts - 1 - j) = s_seen (R (3 - j))
theorem cde_lt {e : Nat} (h : e = 1 ∨ e = 2 ∨ e = 3) : ¬ (-1999 : Int32) ≤ cde e := by
  rcases h with rfl | rfl | rfl <;> decide
theorem w_at {w : Nat → Int64} {k : Nat} {x : Int64} : vp_updL w k x k = x := if_pos rfl
theorem w_ne {w : Nat → Int64} {k j : Nat} {x : Int64} (h : j ≠ k) : vp_updL w k x j = w j := if_neg h
theorem law_br {σ : Sg} {f : Nat → Int32} {R : Nat → Nat → Int32} {sn T : Nat → Int32} {β : Type} {P : Option (Int32 ⊕ β) → Prop} {c : Option (Int32 × Sg)} {K1 K2 : Sg → Option (Int32 ⊕ β)} {v : Int64} (h : PI σ f 4 R 1 sn 0 T) (hv : v = s_seen f) (hc : CO1 c σ f 4 R 1 sn 0 T) (h1 : ∀ τ g, PI τ g 4 (kR 4 R f) 1 sn 0 T → P (K1 τ)) (h2 : P (K2 σ)) : P (b2 c fun y τ => if (-1999 : Int32) ≤ y then K1 τ else b1 (f_X4_recordedStates τ) fun z => if z = nI 4 then b2L (f_L_seen τ) fun u τ2 => if u = v then K2 τ2 else some (.inl 0) else some (.inl 0)) := by
  rcases hc with ⟨e, he, hc⟩ | ⟨y, τ, g, hc, hp, hy⟩
  · rw [hc, b2_some, if_neg (cde_lt he), q_recorded h, b1_some, if_pos rfl, y_seen h, b2L_some, if_pos hv.symm]
    exact h2
  · rw [hc, b2_some, if_pos hy]
    exact h1 τ g hp
theorem part_ok {x n : Int32} (h : ¬ n = 0) : ∃ y, f_L_part x n = some y := ⟨_, if_neg h⟩
theorem law96 {X : Int32 → Option Int32} (hX : ∀ j, j < 26 → ∃ x, X (nI j) = some x) {sn T : Nat → Int32} {x4 : Int64} : ∀ (d j N acts : Nat) (σ : Sg) (f : Nat → Int32) (R : Nat → Nat → Int32) (w : Nat → Int64), j + d = 26 → d < N → acts ≤ j → LI σ f R sn T acts w → ∃ σ' w' acts' f' R', l_L_law_96 X N σ w (nI acts) x4 (nI j) = some (.inr (σ', w', nI acts', x4)) ∧ LI σ' f' R' sn T acts' w' ∧ acts' ≤ 26 := by
  intro d
  induction d with
  | zero =>
    intro j N acts σ f R w hj hN ha hI
    obtain ⟨M, rfl⟩ : ∃ M, N = M + 1 := ⟨N - 1, by omega⟩
    refine ⟨σ, w, acts, f, R, ?_, hI, by omega⟩
    rw [l_L_law_96.eq_2, if_pos (show (26 : Int32) ≤ nI j from nI_le (a := 26) (b := j) (by omega) (by omega))]
  | succ d ih =>
    intro j N acts σ f R w hj hN ha hI
    obtain ⟨M, rfl⟩ : ∃ M, N = M + 1 := ⟨N - 1, by omega⟩
    obtain ⟨h, hR⟩ := hI
    obtain ⟨x, ex⟩ := hX j (by omega)
    obtain ⟨y1, p1⟩ := part_ok (x := x) (n := 26) (by decide)
    obtain ⟨y2, p2⟩ := part_ok (x := x >>> (5 &&& 31)) (n := 4) (by decide)
    obtain ⟨y3, p3⟩ := part_ok (x := x >>> (8 &&& 31)) (n := 5) (by decide)
    obtain ⟨y4, p4⟩ := part_ok (x := x >>> (10 &&& 31)) (n := 7) (by decide)
    obtain ⟨w2, hw2⟩ : ∃ w2, w2 = vp_updL w acts (s_seen f) := ⟨_, rfl⟩
    have ea : (nI acts).toNatClampNeg = acts := cl_nI (by omega)
    have hv : w2 acts = s_seen f := by rw [hw2, w_at]
    have k1 : ∀ τ g, PI τ g 4 (kR 4 R f) 1 sn 0 T → ∃ σ' w' acts' f' R', l_L_law_96 X M τ w2 (nI acts + 1) x4 (nI j + 1) = some (.inr (σ', w', nI acts', x4)) ∧ LI σ' f' R' sn T acts' w' ∧ acts' ≤ 26 := by
      intro τ g hp
      rw [nI_1, nI_1]
      refine ih (j + 1) M (acts + 1) τ g (kR 4 R f) w2 (by omega) (by omega) (by omega) ⟨hp, fun i hi hia => ?_⟩
      by_cases q : i = 0
      · subst q
        rw [show acts + 1 - 1 - 0 = acts by omega, hv]
        rfl
      · rw [hw2, w_ne (by omega), show acts + 1 - 1 - i = acts - 1 - (i - 1) by omega, hR (i - 1) (by omega) (by omega)]
        congr 1
        unfold kR
        rw [if_neg (show ¬ 3 - i + 1 = kp 4 by unfold kp; rw [if_neg (by omega)]; omega), if_neg (by omega)]
        congr 1
        omega
    have k2 : ∃ σ' w' acts' f' R', l_L_law_96 X M σ w2 (nI acts + 0) x4 (nI j + 1) = some (.inr (σ', w', nI acts', x4)) ∧ LI σ' f' R' sn T acts' w' ∧ acts' ≤ 26 := by
      rw [Int32.add_zero, nI_1]
      refine ih (j + 1) M acts σ f R w2 (by omega) (by omega) (by omega) ⟨h, fun i hi hia => ?_⟩
      rw [hw2, w_ne (by omega)]
      exact hR i hi hia
    rw [l_L_law_96.eq_2, if_neg (show ¬ (26 : Int32) ≤ nI j from nI_ge (a := j) (b := 26) (by omega) (by omega)), ex, b1_some, p1, b1_some, y_seen h, b2L_some, gd_ok rfl (show acts < 64 by omega) (by omega), ea, show ∀ K : (Nat → Int64) → Option (Int32 ⊕ (Sg × (Nat → Int64) × Int32 × Int64)), stw (vp_updL w acts (s_seen f)) K = K w2 from fun K => by rw [hw2]; rfl, q_recorded h, b1_some, p2, b1_some, p3, b1_some, p4, b1_some]
    have key : ∀ {c : Option (Int32 × Sg)}, CO1 c σ f 4 R 1 sn 0 T → ∃ σ' w' acts' f' R', (b2 c fun y τ => if (-1999 : Int32) ≤ y then l_L_law_96 X M τ w2 (nI acts + 1) x4 (nI j + 1) else b1 (f_X4_recordedStates τ) fun z => if z = nI 4 then b2L (f_L_seen τ) fun u τ2 => if u = w2 acts then l_L_law_96 X M τ2 w2 (nI acts + 0) x4 (nI j + 1) else some (.inl 0) else some (.inl 0)) = some (.inr (σ', w', nI acts', x4)) ∧ LI σ' f' R' sn T acts' w' ∧ acts' ≤ 26 := fun {c} hc =>
      law_br (P := fun z => ∃ σ' w' acts' f' R', z = some (.inr (σ', w', nI acts', x4)) ∧ LI σ' f' R' sn T acts' w' ∧ acts' ≤ 26) h hv hc k1 k2
    by_cases q1 : 4 ≤ y1
    · rw [if_pos q1]
      by_cases q2 : y1 = 4
      · rw [if_pos q2]
        exact key (t_down h)
      rw [if_neg q2]
      by_cases q3 : 7 ≤ y1
      · rw [if_pos q3]
        by_cases q4 : y1 = 7
        · rw [if_pos q4]
          exact key (t_turn h)
        rw [if_neg q4]
        by_cases q5 : 11 ≤ y1
        · rw [if_pos q5]
          by_cases q6 : 14 ≤ y1
          · rw [if_pos q6]
            by_cases q7 : y1 = 14
            · rw [if_pos q7]
              exact key (t_coll h)
            rw [if_neg q7]
            by_cases q8 : 18 ≤ y1
            · rw [if_pos q8]
              by_cases q9 : y1 = 18
              · rw [if_pos q9]
                exact key (t_setR h)
              rw [if_neg q9]
              by_cases q10 : 25 ≤ y1
              · rw [if_pos q10]
                exact key (t_rest h)
              rw [if_neg q10]
              exact key (t_pass h)
            rw [if_neg q8]
            exact key (t_come h)
          rw [if_neg q6]
          exact key (t_fund h)
        rw [if_neg q5]
        exact key (t_stock h)
      rw [if_neg q3]
      exact key (t_setP h)
    rw [if_neg q1]
    exact key (t_build h (by decide))
theorem law476 {X : Int32 → Option Int32} {sn T : Nat → Int32} {x4 : Int64} {acts : Nat} {w : Nat → Int64} {R : Nat → Nat → Int32} (ha : acts ≤ 26) (hR : ∀ j, j < 4 → j < acts → w (acts - 1 - j) = s_seen (R (3 - j))) : ∀ (m j N : Nat) (σ : Sg) (f : Nat → Int32), m + j = 4 → m < N → PI σ f m R 1 sn 0 T → (j ≤ acts → w (acts - j) = s_seen f) → ∃ σ' f' m', l_L_law_476 X N σ w (nI acts) x4 (nI j) = some (.inr (σ', w, x4)) ∧ PI σ' f' m' R 1 sn 0 T ∧ m' ≤ 4 := by
  intro m
  induction m with
  | zero =>
    intro j N σ f hj hN h hw
    obtain ⟨M, rfl⟩ : ∃ M, N = M + 1 := ⟨N - 1, by omega⟩
    refine ⟨σ, f, 0, ?_, h, by omega⟩
    rw [l_L_law_476.eq_2, q_recorded h, b1_some, if_pos (show nI 0 ≤ 0 by decide)]
  | succ m ih =>
    intro j N σ f hj hN h hw
    obtain ⟨M, rfl⟩ : ∃ M, N = M + 1 := ⟨N - 1, by omega⟩
    have e0 : ¬ nI (m + 1) ≤ 0 := by
      rw [show (0 : Int32) = nI 0 from rfl, nI_leI (by omega) (by omega)]
      omega
    by_cases q : acts ≤ j
    · refine ⟨σ, f, m + 1, ?_, h, by omega⟩
      rw [l_L_law_476.eq_2, q_recorded h, b1_some, if_neg e0, if_pos (nI_le (by omega) (by omega))]
    · obtain ⟨σ1, c1, p1⟩ := p_undo h
      have e1 : nI acts - nI j = nI (acts - j) := pk_sub (by omega)
      have e2 : nI (m + 1) - 1 = nI m := by rw [show (1 : Int32) = nI 1 from rfl, pk_sub (by omega), Nat.add_sub_cancel]
      have e3 : ¬ (3 : Int32) < nI j := by
        rw [show (3 : Int32) = nI 3 from rfl, nI_ltI (by omega) (by omega)]
        omega
      rw [l_L_law_476.eq_2, q_recorded h, b1_some, if_neg e0, if_neg (nI_ge (by omega) (by omega)), b1_some, if_neg e3, y_seen h, b2L_some, e1, gd_ok rfl (show acts - j < 64 by omega) (by omega), cl_nI (by omega), if_pos (hw (by omega)).symm, c1, bn2_some, e2, if_pos rfl, nI_1]
      refine ih (j + 1) M σ1 (R m) (by omega) (by omega) p1 (fun h9 => ?_)
      rw [show acts - (j + 1) = acts - 1 - j by omega, hR j (by omega) (by omega), show 3 - j = m by omega]
theorem law537 {X : Int32 → Option Int32} {sn T : Nat → Int32} {x4 : Int64} {w : Nat → Int64} {R : Nat → Nat → Int32} : ∀ (m j N : Nat) (σ : Sg) (f : Nat → Int32), m + j ≤ 4 → m < N → PI σ f m R 1 sn 0 T → ∃ σ' f', l_L_law_537 X N σ w x4 (nI j) = some (.inr (σ', w, x4)) ∧ PI σ' f' 0 R 1 sn 0 T := by
  intro m
  induction m with
  | zero =>
    intro j N σ f hj hN h
    obtain ⟨M, rfl⟩ : ∃ M, N = M + 1 := ⟨N - 1, by omega⟩
    refine ⟨σ, f, ?_, h⟩
    rw [l_L_law_537.eq_2]
    by_cases q : (4 : Int32) ≤ nI j
    · rw [if_pos q]
    · rw [if_neg q, q_recorded h, b1_some, if_pos (show nI 0 ≤ 0 by decide)]
  | succ m ih =>
    intro j N σ f hj hN h
    obtain ⟨M, rfl⟩ : ∃ M, N = M + 1 := ⟨N - 1, by omega⟩
    have e0 : ¬ nI (m + 1) ≤ 0 := by
      rw [show (0 : Int32) = nI 0 from rfl, nI_leI (by omega) (by omega)]
      omega
    obtain ⟨σ1, c1, p1⟩ := p_undo h
    rw [l_L_law_537.eq_2, if_neg (show ¬ (4 : Int32) ≤ nI j from nI_ge (a := j) (b := 4) (by omega) (by omega)), q_recorded h, b1_some, if_neg e0, c1, bn2_some, if_pos (show (0 : Int32) ≤ nI m from nI_le (a := 0) (b := m) (by omega) (by omega)), nI_1]
    exact ih (j + 1) M σ1 (R m) (by omega) (by omega) p1

/-! scripts: calls with the answers that are asked, on a row that is one number -/
noncomputable def e_fill (g : Nat → Int32) : Nat → Nat → Nat → Nat
  | 0, _, N => N
  | d + 1, a, N => frc (dw N a (g a)) fun M => e_fill g d (a + 1) M
theorem D_fill {g : Nat → Int32} : ∀ (d a N i : Nat), DD (e_fill g d a N) i = if a ≤ i ∧ i < a + d then g i else DD N i := by
  intro d
  induction d with
  | zero =>
    intro a N i
    rw [e_fill, if_neg (by omega)]
  | succ d ih =>
    intro a N i
    rw [e_fill, frc_e, ih, ← DD_upd]
    by_cases q : i = a
    · subst q
      rw [if_neg (by omega), upd_s, if_pos (by omega)]
    · rw [upd_n q]
      by_cases r : a + 1 ≤ i ∧ i < a + 1 + d
      · rw [if_pos r, if_pos (by omega)]
      · rw [if_neg r, if_neg (by omega)]
noncomputable def e_stall (N s : Nat) (p kd pr rf : Int32) : Nat := e_fill (s_stall (DD N) s p kd pr rf) 23 (24 + 23 * s) N
theorem D_stall {N s : Nat} {p kd pr rf : Int32} : s_stall (DD N) s p kd pr rf = DD (e_stall N s p kd pr rf) := by
  funext i
  unfold e_stall
  rw [D_fill]
  by_cases q : 24 + 23 * s ≤ i ∧ i < 24 + 23 * s + 23
  · rw [if_pos q]
  · rw [if_neg q]
    unfold s_stall
    rw [if_neg (by omega), if_neg (by omega), if_neg (by omega), if_neg (by omega), if_neg (by omega), if_neg q]
noncomputable def e_builds (N : Nat) (p kd pr rf : Int32) : Nat := frc (e_stall N (nS (DD N)) p kd pr rf) fun g => dw g 8 (DD N 8 + 1)
theorem D_builds {N : Nat} {p kd pr rf : Int32} : s_builds (DD N) p kd pr rf = DD (e_builds N p kd pr rf) := by
  unfold s_builds e_builds
  rw [frc_e, D_stall, DD_upd]
noncomputable def e_pays (N : Nat) (p kd pr rf : Int32) : Nat := frc (dw (dw N 0 (DD N 0 - cst rf)) 2 (DD N 2 + cst rf)) fun g => e_builds g p kd pr (rfI rf)
theorem D_pays {N : Nat} {p kd pr rf : Int32} : s_pays (DD N) p kd pr rf = DD (e_pays N p kd pr rf) := by
  unfold s_pays s_paid e_pays
  rw [frc_e, DD_upd, DD_upd, D_builds]
noncomputable def e_down (N s : Nat) : Nat := frc (e_fill (fun i => DD N (i + 23)) (23 * (nS (DD N) - 1 - s)) (24 + 23 * s) N) fun g => dw (dw g 8 (DD N 8 - 1)) 0 (DD N 0 + DD N (24 + 23 * s + 4))
theorem D_down {N s : Nat} : s_down (DD N) s = DD (e_down N s) := by
  funext i
  unfold e_down s_down
  rw [frc_e, ← DD_upd]
  by_cases q : i = 0
  · subst q
    rw [if_pos rfl, upd_s]
  · rw [if_neg q, upd_n q, ← DD_upd]
    by_cases r : i = 8
    · subst r
      rw [if_pos rfl, upd_s]
    · rw [if_neg r, upd_n r, D_fill]
      by_cases t : 24 + 23 * s ≤ i ∧ i < 24 + 23 * (nS (DD N) - 1)
      · rw [if_pos t, if_pos (by omega)]
      · rw [if_neg t, if_neg (by omega)]
def e_stocks (N s l j : Nat) (q : Int32) : Nat := dw (dw (dw N (24 + 23 * s + 4) (DD N (24 + 23 * s + 4) - q * s_cost (nI l))) 2 (DD N 2 + q * s_cost (nI l))) (24 + 23 * s + 7 + (4 * l + j)) (DD N (24 + 23 * s + 7 + (4 * l + j)) + q)
theorem D_stocks {N s l j : Nat} {q : Int32} : s_stocks (DD N) s l j q = DD (e_stocks N s l j q) := by
  unfold s_stocks e_stocks
  rw [DD_upd, DD_upd, DD_upd]
def e_funds (N s : Nat) (p : Int32) : Nat := dw (dw N 0 (DD N 0 - p)) (24 + 23 * s + 4) (DD N (24 + 23 * s + 4) + p)
theorem D_funds {N s : Nat} {p : Int32} : s_funds (DD N) s p = DD (e_funds N s p) := by
  unfold s_funds e_funds
  rw [DD_upd, DD_upd]
def e_coll (N s : Nat) : Nat := dw (dw N 0 (DD N 0 + DD N (24 + 23 * s + 4))) (24 + 23 * s + 4) 0
theorem D_coll {N s : Nat} : s_coll (DD N) s = DD (e_coll N s) := by
  unfold s_coll e_coll
  rw [DD_upd, DD_upd]
noncomputable def e_hm (k : Nat) : Nat → Nat → Nat → Nat
  | 0, _, _ => 0
  | e + 1, N, M => if DD N (185 + 8 * k + 4) = -1 then 0 else e_round N M fun g b => e_hm k e g b + 1
theorem D_hm {k : Nat} : ∀ e N M, s_hm k e (DD N) (DD M) = e_hm k e N M := by
  intro e
  induction e with
  | zero => intro N M; rfl
  | succ e ih =>
    intro N M
    rw [s_hm, e_hm]
    by_cases h : DD N (185 + 8 * k + 4) = -1
    · rw [if_pos h, if_pos h]
    · rw [if_neg h, if_neg h]
      obtain ⟨g, b, h1, h2⟩ := D_round (N := N) (M := M) (K := fun g b => e_hm k e g b + 1)
      rw [h1, h2, ih]
def vpb (i : Int32) (n : Nat) : Bool := !(decide (i < 0)) && Nat.ble (i.toNatClampNeg + 1) n
def inb (lo hi : Int) (i : Int32) : Bool := decide (lo ≤ i.toInt) && decide (i.toInt ≤ hi)
theorem inb_of {lo hi : Int} {i : Int32} (h : inb lo hi i = true) : lo ≤ i.toInt ∧ i.toInt ≤ hi := by
  simpa only [inb, Bool.and_eq_true, decide_eq_true_eq] using h
def QI (σ : Sg) (N m : Nat) (hs : Int32) (S : Nat) : Prop := ∃ R T, PI σ (DD N) m R hs (DD S) 0 T
def KQ (K : Nat → Nat → Int32 → Nat → Bool) (σ : Sg) : Prop := ∃ N m hs S, QI σ N m hs S ∧ K N m hs S = true

noncomputable def k_build (a1 : Int32) (a2 : Int32) (a3 : Int32) (rf : Int32) (y : Int32) (K : Nat → Nat → Int32 → Nat → Bool) (N m : Nat) (hs : Int32) (S : Nat) : Bool := (vpb a1 12 && (vpb a2 5 && (inb 1 9 a3 && (vpb rf 2 && (decide (s_whyB (DD N) a1 rf = 0) && (decide (nI (nS (DD N)) = y) && frc (e_pays N a1 a2 a3 rf) fun X => frc (kp m) fun m2 => K X m2 hs S))))))
theorem z_build {a1 : Int32} {a2 : Int32} {a3 : Int32} {rf : Int32} {y : Int32} {K : Nat → Nat → Int32 → Nat → Bool} {σ : Sg} (h : KQ (k_build a1 a2 a3 rf y K) σ) : ∃ τ, f_X4_build σ a1 a2 a3 rf = some (.inr (y, τ)) ∧ KQ K τ := by
  obtain ⟨N, m, hs, S, ⟨R, T, hp⟩, hc⟩ := h
  simp only [k_build, frc_e, Bool.and_eq_true, decide_eq_true_eq] at hc
  obtain ⟨h1, h2, h3, h4, h5, hy, hk⟩ := hc
  obtain ⟨τ, e, p⟩ := p_build hp (vp_lit h1) (vp_lit h2) (inb_of h3) (vp_lit h4) h5
  rw [D_pays] at p
  exact ⟨τ, by rw [e, hy], _, _, _, _, ⟨_, _, p⟩, hk⟩
noncomputable def k_down (s : Nat) (y : Int32) (K : Nat → Nat → Int32 → Nat → Bool) (N m : Nat) (hs : Int32) (S : Nat) : Bool := (decide (s < nS (DD N)) && (decide (DD N (24 + 23 * s + 4) = y) && frc (e_down N s) fun X => frc (kp m) fun m2 => K X m2 hs S))
theorem z_down {s : Nat} {y : Int32} {K : Nat → Nat → Int32 → Nat → Bool} {σ : Sg} (h : KQ (k_down s y K) σ) : ∃ τ, f_X4_pullDown σ (nI s) = some (.inr (y, τ)) ∧ KQ K τ := by
  obtain ⟨N, m, hs, S, ⟨R, T, hp⟩, hc⟩ := h
  simp only [k_down, frc_e, Bool.and_eq_true, decide_eq_true_eq] at hc
  obtain ⟨h1, hy, hk⟩ := hc
  obtain ⟨τ, e, p⟩ := p_down hp h1
  rw [D_down] at p
  exact ⟨τ, by rw [e, hy], _, _, _, _, ⟨_, _, p⟩, hk⟩
noncomputable def k_setP (s : Nat) (a2 : Int32) (y : Int32) (K : Nat → Nat → Int32 → Nat → Bool) (N m : Nat) (hs : Int32) (S : Nat) : Bool := (decide (s < nS (DD N)) && (inb 1 9 a2 && (decide (DD N (24 + 23 * s + 2) = y) && frc (dw N (24 + 23 * s + 2) a2) fun X => frc (kp m) fun m2 => K X m2 hs S)))
theorem z_setP {s : Nat} {a2 : Int32} {y : Int32} {K : Nat → Nat → Int32 → Nat → Bool} {σ : Sg} (h : KQ (k_setP s a2 y K) σ) : ∃ τ, f_X4_setPrice σ (nI s) a2 = some (.inr (y, τ)) ∧ KQ K τ := by
  obtain ⟨N, m, hs, S, ⟨R, T, hp⟩, hc⟩ := h
  simp only [k_setP, frc_e, Bool.and_eq_true, decide_eq_true_eq] at hc
  obtain ⟨h1, h2, hy, hk⟩ := hc
  obtain ⟨τ, e, p⟩ := p_setP hp h1 (inb_of h2)
  rw [DD_upd] at p
  exact ⟨τ, by rw [e, hy], _, _, _, _, ⟨_, _, p⟩, hk⟩
noncomputable def k_turn (s : Nat) (y : Int32) (K : Nat → Nat → Int32 → Nat → Bool) (N m : Nat) (hs : Int32) (S : Nat) : Bool := (decide (s < nS (DD N)) && (decide (1 - DD N (24 + 23 * s + 6) = y) && frc (dw N (24 + 23 * s + 6) (1 - DD N (24 + 23 * s + 6))) fun X => frc (kp m) fun m2 => K X m2 hs S))
theorem z_turn {s : Nat} {y : Int32} {K : Nat → Nat → Int32 → Nat → Bool} {σ : Sg} (h : KQ (k_turn s y K) σ) : ∃ τ, f_X4_turnStall σ (nI s) = some (.inr (y, τ)) ∧ KQ K τ := by
  obtain ⟨N, m, hs, S, ⟨R, T, hp⟩, hc⟩ := h
  simp only [k_turn, frc_e, Bool.and_eq_true, decide_eq_true_eq] at hc
  obtain ⟨h1, hy, hk⟩ := hc
  obtain ⟨τ, e, p⟩ := p_turn hp h1
  rw [DD_upd] at p
  exact ⟨τ, by rw [e, hy], _, _, _, _, ⟨_, _, p⟩, hk⟩
noncomputable def k_stock (s : Nat) (l : Nat) (j : Nat) (a4 : Int32) (y : Int32) (K : Nat → Nat → Int32 → Nat → Bool) (N m : Nat) (hs : Int32) (S : Nat) : Bool := (decide (s < nS (DD N)) && (decide (l < 4) && (decide (j < 4) && (inb 1 40 a4 && (decide (s_whyS (DD N) s l a4 = 0) && (decide (DD N (24 + 23 * s + 4) - a4 * s_cost (nI l) = y) && frc (e_stocks N s l j a4) fun X => frc (kp m) fun m2 => K X m2 hs S))))))
theorem z_stock {s : Nat} {l : Nat} {j : Nat} {a4 : Int32} {y : Int32} {K : Nat → Nat → Int32 → Nat → Bool} {σ : Sg} (h : KQ (k_stock s l j a4 y K) σ) : ∃ τ, f_X4_restock σ (nI s) (nI l) (nI j) a4 = some (.inr (y, τ)) ∧ KQ K τ := by
  obtain ⟨N, m, hs, S, ⟨R, T, hp⟩, hc⟩ := h
  simp only [k_stock, frc_e, Bool.and_eq_true, decide_eq_true_eq] at hc
  obtain ⟨h1, h2, h3, h4, h5, hy, hk⟩ := hc
  obtain ⟨τ, e, p⟩ := p_stock hp h1 h2 h3 (inb_of h4) h5
  rw [D_stocks] at p
  exact ⟨τ, by rw [e, hy], _, _, _, _, ⟨_, _, p⟩, hk⟩
noncomputable def k_fund (s : Nat) (a2 : Int32) (y : Int32) (K : Nat → Nat → Int32 → Nat → Bool) (N m : Nat) (hs : Int32) (S : Nat) : Bool := (decide (s < nS (DD N)) && (inb 1 99 a2 && (decide (a2 ≤ DD N 0) && (decide (DD N (24 + 23 * s + 4) + a2 = y) && frc (e_funds N s a2) fun X => frc (kp m) fun m2 => K X m2 hs S))))
theorem z_fund {s : Nat} {a2 : Int32} {y : Int32} {K : Nat → Nat → Int32 → Nat → Bool} {σ : Sg} (h : KQ (k_fund s a2 y K) σ) : ∃ τ, f_X4_fund σ (nI s) a2 = some (.inr (y, τ)) ∧ KQ K τ := by
  obtain ⟨N, m, hs, S, ⟨R, T, hp⟩, hc⟩ := h
  simp only [k_fund, frc_e, Bool.and_eq_true, decide_eq_true_eq] at hc
  obtain ⟨h1, h2, h3, hy, hk⟩ := hc
  obtain ⟨τ, e, p⟩ := p_fund hp h1 (inb_of h2) h3
  rw [D_funds] at p
  exact ⟨τ, by rw [e, hy], _, _, _, _, ⟨_, _, p⟩, hk⟩
noncomputable def k_coll (s : Nat) (y : Int32) (K : Nat → Nat → Int32 → Nat → Bool) (N m : Nat) (hs : Int32) (S : Nat) : Bool := (decide (s < nS (DD N)) && (decide (DD N (24 + 23 * s + 4) = y) && frc (e_coll N s) fun X => frc (kp m) fun m2 => K X m2 hs S))
theorem z_coll {s : Nat} {y : Int32} {K : Nat → Nat → Int32 → Nat → Bool} {σ : Sg} (h : KQ (k_coll s y K) σ) : ∃ τ, f_X4_collect σ (nI s) = some (.inr (y, τ)) ∧ KQ K τ := by
  obtain ⟨N, m, hs, S, ⟨R, T, hp⟩, hc⟩ := h
  simp only [k_coll, frc_e, Bool.and_eq_true, decide_eq_true_eq] at hc
  obtain ⟨h1, hy, hk⟩ := hc
  obtain ⟨τ, e, p⟩ := p_coll hp h1
  rw [D_coll] at p
  exact ⟨τ, by rw [e, hy], _, _, _, _, ⟨_, _, p⟩, hk⟩
noncomputable def k_come (a1 : Int32) (a2 : Int32) (a3 : Int32) (y : Int32) (K : Nat → Nat → Int32 → Nat → Bool) (N m : Nat) (hs : Int32) (S : Nat) : Bool := (vpb a1 100 && (vpb a2 5 && (vpb a3 4 && (decide (¬ s_room (DD N) = 0) && (decide (nI (nC (DD N)) = y) && frc (e_comes N a1 a2 a3) fun X => frc (kp m) fun m2 => K X m2 hs S)))))
theorem z_come {a1 : Int32} {a2 : Int32} {a3 : Int32} {y : Int32} {K : Nat → Nat → Int32 → Nat → Bool} {σ : Sg} (h : KQ (k_come a1 a2 a3 y K) σ) : ∃ τ, f_X4_come σ a1 a2 a3 = some (.inr (y, τ)) ∧ KQ K τ := by
  obtain ⟨N, m, hs, S, ⟨R, T, hp⟩, hc⟩ := h
  simp only [k_come, frc_e, Bool.and_eq_true, decide_eq_true_eq] at hc
  obtain ⟨h1, h2, h3, h4, hy, hk⟩ := hc
  obtain ⟨τ, e, p⟩ := p_come hp (vp_lit h1) (vp_lit h2) (vp_lit h3) h4
  rw [D_comes] at p
  exact ⟨τ, by rw [e, hy], _, _, _, _, ⟨_, _, p⟩, hk⟩
noncomputable def k_setR (s : Nat) (a2 : Int32) (y : Int32) (K : Nat → Nat → Int32 → Nat → Bool) (N m : Nat) (hs : Int32) (S : Nat) : Bool := (decide (s < 10) && (vpb a2 10 && (decide (DD N (14 + s) = y) && frc (dw N (14 + s) a2) fun X => frc (kp m) fun m2 => K X m2 hs S)))
theorem z_setR {s : Nat} {a2 : Int32} {y : Int32} {K : Nat → Nat → Int32 → Nat → Bool} {σ : Sg} (h : KQ (k_setR s a2 y K) σ) : ∃ τ, f_X4_setRain σ (nI s) a2 = some (.inr (y, τ)) ∧ KQ K τ := by
  obtain ⟨N, m, hs, S, ⟨R, T, hp⟩, hc⟩ := h
  simp only [k_setR, frc_e, Bool.and_eq_true, decide_eq_true_eq] at hc
  obtain ⟨h1, h2, hy, hk⟩ := hc
  obtain ⟨τ, e, p⟩ := p_setR hp h1 (vp_lit h2)
  rw [DD_upd] at p
  exact ⟨τ, by rw [e, hy], _, _, _, _, ⟨_, _, p⟩, hk⟩
noncomputable def k_pass (k : Nat) (y : Int32) (K : Nat → Nat → Int32 → Nat → Bool) (N m : Nat) (hs : Int32) (S : Nat) : Bool := (decide (1 ≤ k) && (decide (k ≤ 40) && (decide (tm (DD N) + k < 400000) && frc (ep k N) fun X => decide (DD X 5 - DD N 5 = y) && frc (kp m) fun m2 => K X m2 hs S)))
theorem z_pass {k : Nat} {y : Int32} {K : Nat → Nat → Int32 → Nat → Bool} {σ : Sg} (h : KQ (k_pass k y K) σ) : ∃ τ, f_X4_pass σ (nI k) = some (.inr (y, τ)) ∧ KQ K τ := by
  obtain ⟨N, m, hs, S, ⟨R, T, hp⟩, hc⟩ := h
  simp only [k_pass, frc_e, Bool.and_eq_true, decide_eq_true_eq] at hc
  obtain ⟨h1, h2, h3, hy, hk⟩ := hc
  obtain ⟨j, τ, -, e5, e, p⟩ := p_pass (DD 0) hp h1 h2 h3
  rw [D_ep] at p e5
  have ej : nI j = y := by rw [← hy, e5, Int32.add_comm, Int32.add_sub_cancel]
  exact ⟨τ, by rw [e, ej], _, _, _, _, ⟨_, _, p⟩, hk⟩
noncomputable def k_passA (k : Nat) (K : Nat → Nat → Int32 → Nat → Bool) (N m : Nat) (hs : Int32) (S : Nat) : Bool := (decide (1 ≤ k) && (decide (k ≤ 40) && (decide (tm (DD N) + k < 400000) && frc (ep k N) fun X => frc (kp m) fun m2 => K X m2 hs S)))
theorem z_passA {k : Nat} {K : Nat → Nat → Int32 → Nat → Bool} {σ : Sg} (h : KQ (k_passA k K) σ) : ∃ y τ, f_X4_pass σ (nI k) = some (.inr (y, τ)) ∧ ¬ y < 0 ∧ KQ K τ := by
  obtain ⟨N, m, hs, S, ⟨R, T, hp⟩, hc⟩ := h
  simp only [k_passA, frc_e, Bool.and_eq_true, decide_eq_true_eq] at hc
  obtain ⟨h1, h2, h3, hk⟩ := hc
  obtain ⟨j, τ, hj, -, e, p⟩ := p_pass (DD 0) hp h1 h2 h3
  rw [D_ep] at p
  exact ⟨_, τ, e, nneg (by rw [nI_toInt (by omega)]; omega), _, _, _, _, ⟨_, _, p⟩, hk⟩
noncomputable def k_snap (y : Int32) (K : Nat → Nat → Int32 → Nat → Bool) (N m : Nat) (hs : Int32) (S : Nat) : Bool := (decide (DD N 0 = y) && K N m 1 N)
theorem z_snap {y : Int32} {K : Nat → Nat → Int32 → Nat → Bool} {σ : Sg} (h : KQ (k_snap y K) σ) : ∃ τ, f_X4_takeSnapshot σ = some (y, τ) ∧ KQ K τ := by
  obtain ⟨N, m, hs, S, ⟨R, T, hp⟩, hc⟩ := h
  simp only [k_snap, Bool.and_eq_true, decide_eq_true_eq] at hc
  obtain ⟨hy, hk⟩ := hc
  obtain ⟨τ, e, p⟩ := p_snap hp
  exact ⟨τ, by rw [e, hy], _, _, _, _, ⟨_, _, p⟩, hk⟩
noncomputable def k_rest (y : Int32) (K : Nat → Nat → Int32 → Nat → Bool) (N m : Nat) (hs : Int32) (S : Nat) : Bool := (decide (hs = 1) && (decide (DD S 0 = y) && frc (kp m) fun m2 => K S m2 hs S))
theorem z_rest {y : Int32} {K : Nat → Nat → Int32 → Nat → Bool} {σ : Sg} (h : KQ (k_rest y K) σ) : ∃ τ, f_X4_restoreSnapshot σ = some (.inr (y, τ)) ∧ KQ K τ := by
  obtain ⟨N, m, hs, S, ⟨R, T, hp⟩, hc⟩ := h
  simp only [k_rest, frc_e, Bool.and_eq_true, decide_eq_true_eq] at hc
  obtain ⟨h1, hy, hk⟩ := hc
  obtain ⟨τ, e, p⟩ := p_rest hp h1
  exact ⟨τ, by rw [e, hy], _, _, _, _, ⟨_, _, p⟩, hk⟩
noncomputable def k_home (k : Nat) (y : Int32) (K : Nat → Nat → Int32 → Nat → Bool) (N m : Nat) (hs : Int32) (S : Nat) : Bool := (decide (k < nC (DD N)) && (vpb (DD N 7) 40 && (decide (nI (e_hm k (40 - (DD N 7).toNatClampNeg) N 0) = y) && K N m hs S)))
theorem z_home {k : Nat} {y : Int32} {K : Nat → Nat → Int32 → Nat → Bool} {σ : Sg} (h : KQ (k_home k y K) σ) : ∃ τ, f_X4_homeIn σ (nI k) = some (.inr (y, τ)) ∧ KQ K τ := by
  obtain ⟨N, m, hs, S, ⟨R, T, hp⟩, hc⟩ := h
  simp only [k_home, Bool.and_eq_true, decide_eq_true_eq] at hc
  obtain ⟨h1, h2, hy, hk⟩ := hc
  have h7 := vp_lit h2
  have t7 := tc_vp h7
  obtain ⟨τ, e, p⟩ := p_homeIn (r := (DD N 7).toNatClampNeg) (DD 0) hp h1 (by omega) (tc_eq h7 (by omega))
  rw [D_hm, hy] at e
  exact ⟨τ, e, _, _, _, _, ⟨_, _, p⟩, hk⟩
noncomputable def k_today (y : Int32) (K : Nat → Nat → Int32 → Nat → Bool) (N m : Nat) (hs : Int32) (S : Nat) : Bool := (vpb (DD N 7) 40 && (decide (DD (ep (40 - (DD N 7).toNatClampNeg) N) 4 - DD N 4 = y) && K N m hs S))
theorem z_today {y : Int32} {K : Nat → Nat → Int32 → Nat → Bool} {σ : Sg} (h : KQ (k_today y K) σ) : ∃ τ, f_X4_takingsToday σ = some (y, τ) ∧ KQ K τ := by
  obtain ⟨N, m, hs, S, ⟨R, T, hp⟩, hc⟩ := h
  simp only [k_today, Bool.and_eq_true, decide_eq_true_eq] at hc
  obtain ⟨h2, hy, hk⟩ := hc
  have h7 := vp_lit h2
  have t7 := tc_vp h7
  obtain ⟨τ, e, p⟩ := p_today (r := (DD N 7).toNatClampNeg) (DD 0) hp (by omega) (tc_eq h7 (by omega))
  rw [D_ep, hy] at e
  exact ⟨τ, e, _, _, _, _, ⟨_, _, p⟩, hk⟩
noncomputable def e_val (N r : Nat) (a1 a2 : Int32) (p : Nat) : Int32 := DD (ep (40 - r) (e_builds N (nI p) a1 a2 0)) (24 + 23 * nS (DD N) + 5)
theorem D_val {N r : Nat} {a1 a2 : Int32} : (fun p => s_val (DD N) (DD 0) r (nI p) a1 a2) = e_val N r a1 a2 := by
  funext p
  unfold s_val e_val
  rw [D_builds, D_ep]
noncomputable def k_best (a1 a2 : Int32) (y : Int32) (K : Nat → Nat → Int32 → Nat → Bool) (N m : Nat) (hs : Int32) (S : Nat) : Bool := (vpb a1 5 && (inb 1 9 a2 && (vpb (DD N 7) 40 && (decide (oI (s_bpA (DD N) (e_val N (DD N 7).toNatClampNeg a1 a2) 12 0 none) = y) && K N m hs S))))
theorem z_best {a1 a2 y : Int32} {K : Nat → Nat → Int32 → Nat → Bool} {σ : Sg} (h : KQ (k_best a1 a2 y K) σ) : ∃ τ, f_X4_bestPitch σ a1 a2 = some (.inr (y, τ)) ∧ KQ K τ := by
  obtain ⟨N, m, hs, S, ⟨R, T, hp⟩, hc⟩ := h
  simp only [k_best, Bool.and_eq_true, decide_eq_true_eq] at hc
  obtain ⟨h1, h3, h2, hy, hk⟩ := hc
  have h7 := vp_lit h2
  have t7 := tc_vp h7
  obtain ⟨τ, e, p⟩ := p_best (r := (DD N 7).toNatClampNeg) (DD 0) hp (vp_lit h1) (inb_of h3) (by omega) (tc_eq h7 (by omega))
  rw [D_val, hy] at e
  exact ⟨τ, e, _, _, _, _, ⟨_, _, p⟩, hk⟩
noncomputable def r_bank (y : Int32) (K : Nat → Nat → Int32 → Nat → Bool) (N m : Nat) (hs : Int32) (S : Nat) : Bool := (decide ((DD N 0) = y) && K N m hs S)
theorem y_bank {y : Int32} {K : Nat → Nat → Int32 → Nat → Bool} {σ : Sg} (h : KQ (r_bank y K) σ) : f_X4_bank σ  = some y ∧ KQ K σ := by
  obtain ⟨N, m, hs, S, ⟨R, T, hp⟩, hc⟩ := h
  simp only [r_bank, Bool.and_eq_true, decide_eq_true_eq] at hc
  obtain ⟨hy, hk⟩ := hc
  exact ⟨by rw [q_bank hp, hy], _, _, _, _, ⟨_, _, hp⟩, hk⟩
noncomputable def r_town (y : Int32) (K : Nat → Nat → Int32 → Nat → Bool) (N m : Nat) (hs : Int32) (S : Nat) : Bool := (decide ((DD N 1) = y) && K N m hs S)
theorem y_town {y : Int32} {K : Nat → Nat → Int32 → Nat → Bool} {σ : Sg} (h : KQ (r_town y K) σ) : f_X4_town σ  = some y ∧ KQ K σ := by
  obtain ⟨N, m, hs, S, ⟨R, T, hp⟩, hc⟩ := h
  simp only [r_town, Bool.and_eq_true, decide_eq_true_eq] at hc
  obtain ⟨hy, hk⟩ := hc
  exact ⟨by rw [q_town hp, hy], _, _, _, _, ⟨_, _, hp⟩, hk⟩
noncomputable def r_takings (y : Int32) (K : Nat → Nat → Int32 → Nat → Bool) (N m : Nat) (hs : Int32) (S : Nat) : Bool := (decide ((DD N 4) = y) && K N m hs S)
theorem y_takings {y : Int32} {K : Nat → Nat → Int32 → Nat → Bool} {σ : Sg} (h : KQ (r_takings y K) σ) : f_X4_takings σ  = some y ∧ KQ K σ := by
  obtain ⟨N, m, hs, S, ⟨R, T, hp⟩, hc⟩ := h
  simp only [r_takings, Bool.and_eq_true, decide_eq_true_eq] at hc
  obtain ⟨hy, hk⟩ := hc
  exact ⟨by rw [q_takings hp, hy], _, _, _, _, ⟨_, _, hp⟩, hk⟩
noncomputable def r_plays (y : Int32) (K : Nat → Nat → Int32 → Nat → Bool) (N m : Nat) (hs : Int32) (S : Nat) : Bool := (decide ((DD N 5) = y) && K N m hs S)
theorem y_plays {y : Int32} {K : Nat → Nat → Int32 → Nat → Bool} {σ : Sg} (h : KQ (r_plays y K) σ) : f_X4_plays σ  = some y ∧ KQ K σ := by
  obtain ⟨N, m, hs, S, ⟨R, T, hp⟩, hc⟩ := h
  simp only [r_plays, Bool.and_eq_true, decide_eq_true_eq] at hc
  obtain ⟨hy, hk⟩ := hc
  exact ⟨by rw [q_plays hp, hy], _, _, _, _, ⟨_, _, hp⟩, hk⟩
noncomputable def r_day (y : Int32) (K : Nat → Nat → Int32 → Nat → Bool) (N m : Nat) (hs : Int32) (S : Nat) : Bool := (decide ((DD N 6) = y) && K N m hs S)
theorem y_day {y : Int32} {K : Nat → Nat → Int32 → Nat → Bool} {σ : Sg} (h : KQ (r_day y K) σ) : f_X4_day σ  = some y ∧ KQ K σ := by
  obtain ⟨N, m, hs, S, ⟨R, T, hp⟩, hc⟩ := h
  simp only [r_day, Bool.and_eq_true, decide_eq_true_eq] at hc
  obtain ⟨hy, hk⟩ := hc
  exact ⟨by rw [q_day hp, hy], _, _, _, _, ⟨_, _, hp⟩, hk⟩
noncomputable def r_round (y : Int32) (K : Nat → Nat → Int32 → Nat → Bool) (N m : Nat) (hs : Int32) (S : Nat) : Bool := (decide ((DD N 7) = y) && K N m hs S)
theorem y_round {y : Int32} {K : Nat → Nat → Int32 → Nat → Bool} {σ : Sg} (h : KQ (r_round y K) σ) : f_X4_round σ  = some y ∧ KQ K σ := by
  obtain ⟨N, m, hs, S, ⟨R, T, hp⟩, hc⟩ := h
  simp only [r_round, Bool.and_eq_true, decide_eq_true_eq] at hc
  obtain ⟨hy, hk⟩ := hc
  exact ⟨by rw [q_round hp, hy], _, _, _, _, ⟨_, _, hp⟩, hk⟩
noncomputable def r_stalls (y : Int32) (K : Nat → Nat → Int32 → Nat → Bool) (N m : Nat) (hs : Int32) (S : Nat) : Bool := (decide ((DD N 8) = y) && K N m hs S)
theorem y_stalls {y : Int32} {K : Nat → Nat → Int32 → Nat → Bool} {σ : Sg} (h : KQ (r_stalls y K) σ) : f_X4_stalls σ  = some y ∧ KQ K σ := by
  obtain ⟨N, m, hs, S, ⟨R, T, hp⟩, hc⟩ := h
  simp only [r_stalls, Bool.and_eq_true, decide_eq_true_eq] at hc
  obtain ⟨hy, hk⟩ := hc
  exact ⟨by rw [q_stalls hp, hy], _, _, _, _, ⟨_, _, hp⟩, hk⟩
noncomputable def r_children (y : Int32) (K : Nat → Nat → Int32 → Nat → Bool) (N m : Nat) (hs : Int32) (S : Nat) : Bool := (decide ((DD N 9) = y) && K N m hs S)
theorem y_children {y : Int32} {K : Nat → Nat → Int32 → Nat → Bool} {σ : Sg} (h : KQ (r_children y K) σ) : f_X4_children σ  = some y ∧ KQ K σ := by
  obtain ⟨N, m, hs, S, ⟨R, T, hp⟩, hc⟩ := h
  simp only [r_children, Bool.and_eq_true, decide_eq_true_eq] at hc
  obtain ⟨hy, hk⟩ := hc
  exact ⟨by rw [q_children hp, hy], _, _, _, _, ⟨_, _, hp⟩, hk⟩
noncomputable def r_allCoins (y : Int32) (K : Nat → Nat → Int32 → Nat → Bool) (N m : Nat) (hs : Int32) (S : Nat) : Bool := (decide ((500 + DD N 3) = y) && K N m hs S)
theorem y_allCoins {y : Int32} {K : Nat → Nat → Int32 → Nat → Bool} {σ : Sg} (h : KQ (r_allCoins y K) σ) : f_X4_allCoins σ  = some y ∧ KQ K σ := by
  obtain ⟨N, m, hs, S, ⟨R, T, hp⟩, hc⟩ := h
  simp only [r_allCoins, Bool.and_eq_true, decide_eq_true_eq] at hc
  obtain ⟨hy, hk⟩ := hc
  exact ⟨by rw [q_allCoins hp, hy], _, _, _, _, ⟨_, _, hp⟩, hk⟩
noncomputable def r_coinsByPlaces (y : Int32) (K : Nat → Nat → Int32 → Nat → Bool) (N m : Nat) (hs : Int32) (S : Nat) : Bool := (decide ((500 + DD N 3) = y) && K N m hs S)
theorem y_coinsByPlaces {y : Int32} {K : Nat → Nat → Int32 → Nat → Bool} {σ : Sg} (h : KQ (r_coinsByPlaces y K) σ) : f_X4_coinsByPlaces σ  = some y ∧ KQ K σ := by
  obtain ⟨N, m, hs, S, ⟨R, T, hp⟩, hc⟩ := h
  simp only [r_coinsByPlaces, Bool.and_eq_true, decide_eq_true_eq] at hc
  obtain ⟨hy, hk⟩ := hc
  exact ⟨by rw [q_places hp, hy], _, _, _, _, ⟨_, _, hp⟩, hk⟩
noncomputable def r_takingsByChildren (y : Int32) (K : Nat → Nat → Int32 → Nat → Bool) (N m : Nat) (hs : Int32) (S : Nat) : Bool := (decide ((DD N 4) = y) && K N m hs S)
theorem y_takingsByChildren {y : Int32} {K : Nat → Nat → Int32 → Nat → Bool} {σ : Sg} (h : KQ (r_takingsByChildren y K) σ) : f_X4_takingsByChildren σ  = some y ∧ KQ K σ := by
  obtain ⟨N, m, hs, S, ⟨R, T, hp⟩, hc⟩ := h
  simp only [r_takingsByChildren, Bool.and_eq_true, decide_eq_true_eq] at hc
  obtain ⟨hy, hk⟩ := hc
  exact ⟨by rw [q_takC hp, hy], _, _, _, _, ⟨_, _, hp⟩, hk⟩
noncomputable def r_recordedStates (y : Int32) (K : Nat → Nat → Int32 → Nat → Bool) (N m : Nat) (hs : Int32) (S : Nat) : Bool := (decide ((nI m) = y) && K N m hs S)
theorem y_recordedStates {y : Int32} {K : Nat → Nat → Int32 → Nat → Bool} {σ : Sg} (h : KQ (r_recordedStates y K) σ) : f_X4_recordedStates σ  = some y ∧ KQ K σ := by
  obtain ⟨N, m, hs, S, ⟨R, T, hp⟩, hc⟩ := h
  simp only [r_recordedStates, Bool.and_eq_true, decide_eq_true_eq] at hc
  obtain ⟨hy, hk⟩ := hc
  exact ⟨by rw [q_recorded hp, hy], _, _, _, _, ⟨_, _, hp⟩, hk⟩
noncomputable def r_atFair (y : Int32) (K : Nat → Nat → Int32 → Nat → Bool) (N m : Nat) (hs : Int32) (S : Nat) : Bool := (decide ((s_crowd (DD N)) = y) && K N m hs S)
theorem y_atFair {y : Int32} {K : Nat → Nat → Int32 → Nat → Bool} {σ : Sg} (h : KQ (r_atFair y K) σ) : f_X4_atFair σ  = some y ∧ KQ K σ := by
  obtain ⟨N, m, hs, S, ⟨R, T, hp⟩, hc⟩ := h
  simp only [r_atFair, Bool.and_eq_true, decide_eq_true_eq] at hc
  obtain ⟨hy, hk⟩ := hc
  exact ⟨by rw [q_atFair hp, hy], _, _, _, _, ⟨_, _, hp⟩, hk⟩
noncomputable def r_isChildDue (y : Int32) (K : Nat → Nat → Int32 → Nat → Bool) (N m : Nat) (hs : Int32) (S : Nat) : Bool := (decide ((s_due (DD N)) = y) && K N m hs S)
theorem y_isChildDue {y : Int32} {K : Nat → Nat → Int32 → Nat → Bool} {σ : Sg} (h : KQ (r_isChildDue y K) σ) : f_X4_isChildDue σ  = some y ∧ KQ K σ := by
  obtain ⟨N, m, hs, S, ⟨R, T, hp⟩, hc⟩ := h
  simp only [r_isChildDue, Bool.and_eq_true, decide_eq_true_eq] at hc
  obtain ⟨hy, hk⟩ := hc
  exact ⟨by rw [q_due hp, hy], _, _, _, _, ⟨_, _, hp⟩, hk⟩
noncomputable def r_sulkers (y : Int32) (K : Nat → Nat → Int32 → Nat → Bool) (N m : Nat) (hs : Int32) (S : Nat) : Bool := (decide ((s_slA (DD N) (nC (DD N)) 0 0) = y) && K N m hs S)
theorem y_sulkers {y : Int32} {K : Nat → Nat → Int32 → Nat → Bool} {σ : Sg} (h : KQ (r_sulkers y K) σ) : f_X4_sulkers σ  = some y ∧ KQ K σ := by
  obtain ⟨N, m, hs, S, ⟨R, T, hp⟩, hc⟩ := h
  simp only [r_sulkers, Bool.and_eq_true, decide_eq_true_eq] at hc
  obtain ⟨hy, hk⟩ := hc
  exact ⟨by rw [q_sulkers hp, hy], _, _, _, _, ⟨_, _, hp⟩, hk⟩
noncomputable def r_happiest (y : Int32) (K : Nat → Nat → Int32 → Nat → Bool) (N m : Nat) (hs : Int32) (S : Nat) : Bool := (decide ((oI (s_hpA (DD N) (nC (DD N)) 0 none)) = y) && K N m hs S)
theorem y_happiest {y : Int32} {K : Nat → Nat → Int32 → Nat → Bool} {σ : Sg} (h : KQ (r_happiest y K) σ) : f_X4_happiest σ  = some y ∧ KQ K σ := by
  obtain ⟨N, m, hs, S, ⟨R, T, hp⟩, hc⟩ := h
  simp only [r_happiest, Bool.and_eq_true, decide_eq_true_eq] at hc
  obtain ⟨hy, hk⟩ := hc
  exact ⟨by rw [q_happiest hp, hy], _, _, _, _, ⟨_, _, hp⟩, hk⟩
noncomputable def r_levelToWin (s : Nat) (y : Int32) (K : Nat → Nat → Int32 → Nat → Bool) (N m : Nat) (hs : Int32) (S : Nat) : Bool := (decide (s < nS (DD N)) && (decide ((oI (s_best (DD N) s)) = y) && K N m hs S))
theorem y_levelToWin {s : Nat} {y : Int32} {K : Nat → Nat → Int32 → Nat → Bool} {σ : Sg} (h : KQ (r_levelToWin s y K) σ) : f_X4_levelToWin σ (nI s) = some (.inr y) ∧ KQ K σ := by
  obtain ⟨N, m, hs, S, ⟨R, T, hp⟩, hc⟩ := h
  simp only [r_levelToWin, Bool.and_eq_true, decide_eq_true_eq] at hc
  obtain ⟨h1, hy, hk⟩ := hc
  exact ⟨by rw [q_levelToWin hp h1, hy], _, _, _, _, ⟨_, _, hp⟩, hk⟩
noncomputable def r_playsToWin (s : Nat) (y : Int32) (K : Nat → Nat → Int32 → Nat → Bool) (N m : Nat) (hs : Int32) (S : Nat) : Bool := (decide (s < nS (DD N)) && (decide ((s_ptw (DD N) s) = y) && K N m hs S))
theorem y_playsToWin {s : Nat} {y : Int32} {K : Nat → Nat → Int32 → Nat → Bool} {σ : Sg} (h : KQ (r_playsToWin s y K) σ) : f_X4_playsToWin σ (nI s) = some (.inr y) ∧ KQ K σ := by
  obtain ⟨N, m, hs, S, ⟨R, T, hp⟩, hc⟩ := h
  simp only [r_playsToWin, Bool.and_eq_true, decide_eq_true_eq] at hc
  obtain ⟨h1, hy, hk⟩ := hc
  exact ⟨by rw [q_playsToWin hp h1, hy], _, _, _, _, ⟨_, _, hp⟩, hk⟩
noncomputable def r_shelfOf (s : Nat) (y : Int32) (K : Nat → Nat → Int32 → Nat → Bool) (N m : Nat) (hs : Int32) (S : Nat) : Bool := (decide (s < nS (DD N)) && (decide ((s_onShelf (DD N) s) = y) && K N m hs S))
theorem y_shelfOf {s : Nat} {y : Int32} {K : Nat → Nat → Int32 → Nat → Bool} {σ : Sg} (h : KQ (r_shelfOf s y K) σ) : f_X4_shelfOf σ (nI s) = some (.inr y) ∧ KQ K σ := by
  obtain ⟨N, m, hs, S, ⟨R, T, hp⟩, hc⟩ := h
  simp only [r_shelfOf, Bool.and_eq_true, decide_eq_true_eq] at hc
  obtain ⟨h1, hy, hk⟩ := hc
  exact ⟨by rw [q_shelfOf hp h1, hy], _, _, _, _, ⟨_, _, hp⟩, hk⟩
noncomputable def r_rentOf (s : Nat) (y : Int32) (K : Nat → Nat → Int32 → Nat → Bool) (N m : Nat) (hs : Int32) (S : Nat) : Bool := (decide (s < nS (DD N)) && (decide ((s_rt (DD N) s) = y) && K N m hs S))
theorem y_rentOf {s : Nat} {y : Int32} {K : Nat → Nat → Int32 → Nat → Bool} {σ : Sg} (h : KQ (r_rentOf s y K) σ) : f_X4_rentOf σ (nI s) = some (.inr y) ∧ KQ K σ := by
  obtain ⟨N, m, hs, S, ⟨R, T, hp⟩, hc⟩ := h
  simp only [r_rentOf, Bool.and_eq_true, decide_eq_true_eq] at hc
  obtain ⟨h1, hy, hk⟩ := hc
  exact ⟨by rw [q_rentOf hp h1, hy], _, _, _, _, ⟨_, _, hp⟩, hk⟩
noncomputable def r_purseOfStall (s : Nat) (y : Int32) (K : Nat → Nat → Int32 → Nat → Bool) (N m : Nat) (hs : Int32) (S : Nat) : Bool := (decide (s < nS (DD N)) && (decide ((DD N (24 + 23 * s + 4)) = y) && K N m hs S))
theorem y_purseOfStall {s : Nat} {y : Int32} {K : Nat → Nat → Int32 → Nat → Bool} {σ : Sg} (h : KQ (r_purseOfStall s y K) σ) : f_X4_purseOfStall σ (nI s) = some (.inr y) ∧ KQ K σ := by
  obtain ⟨N, m, hs, S, ⟨R, T, hp⟩, hc⟩ := h
  simp only [r_purseOfStall, Bool.and_eq_true, decide_eq_true_eq] at hc
  obtain ⟨h1, hy, hk⟩ := hc
  exact ⟨by rw [q_purseOfStall hp h1, hy], _, _, _, _, ⟨_, _, hp⟩, hk⟩
noncomputable def r_playsOf (s : Nat) (y : Int32) (K : Nat → Nat → Int32 → Nat → Bool) (N m : Nat) (hs : Int32) (S : Nat) : Bool := (decide (s < nS (DD N)) && (decide ((DD N (24 + 23 * s + 5)) = y) && K N m hs S))
theorem y_playsOf {s : Nat} {y : Int32} {K : Nat → Nat → Int32 → Nat → Bool} {σ : Sg} (h : KQ (r_playsOf s y K) σ) : f_X4_playsOf σ (nI s) = some (.inr y) ∧ KQ K σ := by
  obtain ⟨N, m, hs, S, ⟨R, T, hp⟩, hc⟩ := h
  simp only [r_playsOf, Bool.and_eq_true, decide_eq_true_eq] at hc
  obtain ⟨h1, hy, hk⟩ := hc
  exact ⟨by rw [q_playsOf hp h1, hy], _, _, _, _, ⟨_, _, hp⟩, hk⟩
noncomputable def r_isOpen (s : Nat) (y : Int32) (K : Nat → Nat → Int32 → Nat → Bool) (N m : Nat) (hs : Int32) (S : Nat) : Bool := (decide (s < nS (DD N)) && (decide ((DD N (24 + 23 * s + 6)) = y) && K N m hs S))
theorem y_isOpen {s : Nat} {y : Int32} {K : Nat → Nat → Int32 → Nat → Bool} {σ : Sg} (h : KQ (r_isOpen s y K) σ) : f_X4_isOpen σ (nI s) = some (.inr y) ∧ KQ K σ := by
  obtain ⟨N, m, hs, S, ⟨R, T, hp⟩, hc⟩ := h
  simp only [r_isOpen, Bool.and_eq_true, decide_eq_true_eq] at hc
  obtain ⟨h1, hy, hk⟩ := hc
  exact ⟨by rw [q_isOpen hp h1, hy], _, _, _, _, ⟨_, _, hp⟩, hk⟩
noncomputable def r_pitchOf (s : Nat) (y : Int32) (K : Nat → Nat → Int32 → Nat → Bool) (N m : Nat) (hs : Int32) (S : Nat) : Bool := (decide (s < nS (DD N)) && (decide ((DD N (24 + 23 * s + 0)) = y) && K N m hs S))
theorem y_pitchOf {s : Nat} {y : Int32} {K : Nat → Nat → Int32 → Nat → Bool} {σ : Sg} (h : KQ (r_pitchOf s y K) σ) : f_X4_pitchOf σ (nI s) = some (.inr y) ∧ KQ K σ := by
  obtain ⟨N, m, hs, S, ⟨R, T, hp⟩, hc⟩ := h
  simp only [r_pitchOf, Bool.and_eq_true, decide_eq_true_eq] at hc
  obtain ⟨h1, hy, hk⟩ := hc
  exact ⟨by rw [q_pitchOf hp h1, hy], _, _, _, _, ⟨_, _, hp⟩, hk⟩
noncomputable def r_prizesOn (s : Nat) (l : Nat) (j : Nat) (y : Int32) (K : Nat → Nat → Int32 → Nat → Bool) (N m : Nat) (hs : Int32) (S : Nat) : Bool := (decide (s < nS (DD N)) && (decide (l < 4) && (decide (j < 4) && (decide ((DD N (24 + 23 * s + (7 + 4 * l + j))) = y) && K N m hs S))))
theorem y_prizesOn {s : Nat} {l : Nat} {j : Nat} {y : Int32} {K : Nat → Nat → Int32 → Nat → Bool} {σ : Sg} (h : KQ (r_prizesOn s l j y K) σ) : f_X4_prizesOn σ (nI s) (nI l) (nI j) = some (.inr y) ∧ KQ K σ := by
  obtain ⟨N, m, hs, S, ⟨R, T, hp⟩, hc⟩ := h
  simp only [r_prizesOn, Bool.and_eq_true, decide_eq_true_eq] at hc
  obtain ⟨h1, h2, h3, hy, hk⟩ := hc
  exact ⟨by rw [q_prizesOn hp h1 h2 h3, hy], _, _, _, _, ⟨_, _, hp⟩, hk⟩
noncomputable def r_purseOf (s : Nat) (y : Int32) (K : Nat → Nat → Int32 → Nat → Bool) (N m : Nat) (hs : Int32) (S : Nat) : Bool := (decide (s < nC (DD N)) && (decide ((DD N (185 + 8 * s + 0)) = y) && K N m hs S))
theorem y_purseOf {s : Nat} {y : Int32} {K : Nat → Nat → Int32 → Nat → Bool} {σ : Sg} (h : KQ (r_purseOf s y K) σ) : f_X4_purseOf σ (nI s) = some (.inr y) ∧ KQ K σ := by
  obtain ⟨N, m, hs, S, ⟨R, T, hp⟩, hc⟩ := h
  simp only [r_purseOf, Bool.and_eq_true, decide_eq_true_eq] at hc
  obtain ⟨h1, hy, hk⟩ := hc
  exact ⟨by rw [q_purseOf hp h1, hy], _, _, _, _, ⟨_, _, hp⟩, hk⟩
noncomputable def r_moodOf (s : Nat) (y : Int32) (K : Nat → Nat → Int32 → Nat → Bool) (N m : Nat) (hs : Int32) (S : Nat) : Bool := (decide (s < nC (DD N)) && (decide ((DD N (185 + 8 * s + 1)) = y) && K N m hs S))
theorem y_moodOf {s : Nat} {y : Int32} {K : Nat → Nat → Int32 → Nat → Bool} {σ : Sg} (h : KQ (r_moodOf s y K) σ) : f_X4_moodOf σ (nI s) = some (.inr y) ∧ KQ K σ := by
  obtain ⟨N, m, hs, S, ⟨R, T, hp⟩, hc⟩ := h
  simp only [r_moodOf, Bool.and_eq_true, decide_eq_true_eq] at hc
  obtain ⟨h1, hy, hk⟩ := hc
  exact ⟨by rw [q_moodOf hp h1, hy], _, _, _, _, ⟨_, _, hp⟩, hk⟩
noncomputable def r_placeOf (s : Nat) (y : Int32) (K : Nat → Nat → Int32 → Nat → Bool) (N m : Nat) (hs : Int32) (S : Nat) : Bool := (decide (s < nC (DD N)) && (decide ((DD N (185 + 8 * s + 4)) = y) && K N m hs S))
theorem y_placeOf {s : Nat} {y : Int32} {K : Nat → Nat → Int32 → Nat → Bool} {σ : Sg} (h : KQ (r_placeOf s y K) σ) : f_X4_placeOf σ (nI s) = some (.inr y) ∧ KQ K σ := by
  obtain ⟨N, m, hs, S, ⟨R, T, hp⟩, hc⟩ := h
  simp only [r_placeOf, Bool.and_eq_true, decide_eq_true_eq] at hc
  obtain ⟨h1, hy, hk⟩ := hc
  exact ⟨by rw [q_placeOf hp h1, hy], _, _, _, _, ⟨_, _, hp⟩, hk⟩
noncomputable def r_prizesOf (s : Nat) (y : Int32) (K : Nat → Nat → Int32 → Nat → Bool) (N m : Nat) (hs : Int32) (S : Nat) : Bool := (decide (s < nC (DD N)) && (decide ((DD N (185 + 8 * s + 7)) = y) && K N m hs S))
theorem y_prizesOf {s : Nat} {y : Int32} {K : Nat → Nat → Int32 → Nat → Bool} {σ : Sg} (h : KQ (r_prizesOf s y K) σ) : f_X4_prizesOf σ (nI s) = some (.inr y) ∧ KQ K σ := by
  obtain ⟨N, m, hs, S, ⟨R, T, hp⟩, hc⟩ := h
  simp only [r_prizesOf, Bool.and_eq_true, decide_eq_true_eq] at hc
  obtain ⟨h1, hy, hk⟩ := hc
  exact ⟨by rw [q_prizesOf hp h1, hy], _, _, _, _, ⟨_, _, hp⟩, hk⟩
noncomputable def r_isAtFair (s : Nat) (y : Int32) (K : Nat → Nat → Int32 → Nat → Bool) (N m : Nat) (hs : Int32) (S : Nat) : Bool := (decide (s < nC (DD N)) && (decide ((if DD N (185 + 8 * s + 4) = -1 then 0 else 1) = y) && K N m hs S))
theorem y_isAtFair {s : Nat} {y : Int32} {K : Nat → Nat → Int32 → Nat → Bool} {σ : Sg} (h : KQ (r_isAtFair s y K) σ) : f_X4_isAtFair σ (nI s) = some (.inr y) ∧ KQ K σ := by
  obtain ⟨N, m, hs, S, ⟨R, T, hp⟩, hc⟩ := h
  simp only [r_isAtFair, Bool.and_eq_true, decide_eq_true_eq] at hc
  obtain ⟨h1, hy, hk⟩ := hc
  exact ⟨by rw [q_isAtFair hp h1, hy], _, _, _, _, ⟨_, _, hp⟩, hk⟩
noncomputable def r_isHomeward (s : Nat) (y : Int32) (K : Nat → Nat → Int32 → Nat → Bool) (N m : Nat) (hs : Int32) (S : Nat) : Bool := (decide (s < nC (DD N)) && (decide ((DD N (185 + 8 * s + 5)) = y) && K N m hs S))
theorem y_isHomeward {s : Nat} {y : Int32} {K : Nat → Nat → Int32 → Nat → Bool} {σ : Sg} (h : KQ (r_isHomeward s y K) σ) : f_X4_isHomeward σ (nI s) = some (.inr y) ∧ KQ K σ := by
  obtain ⟨N, m, hs, S, ⟨R, T, hp⟩, hc⟩ := h
  simp only [r_isHomeward, Bool.and_eq_true, decide_eq_true_eq] at hc
  obtain ⟨h1, hy, hk⟩ := hc
  exact ⟨by rw [q_isHomeward hp h1, hy], _, _, _, _, ⟨_, _, hp⟩, hk⟩
noncomputable def r_whyNoPlay (s : Nat) (y : Int32) (K : Nat → Nat → Int32 → Nat → Bool) (N m : Nat) (hs : Int32) (S : Nat) : Bool := (decide (s < nC (DD N)) && (decide ((s_rsn (DD N) s) = y) && K N m hs S))
theorem y_whyNoPlay {s : Nat} {y : Int32} {K : Nat → Nat → Int32 → Nat → Bool} {σ : Sg} (h : KQ (r_whyNoPlay s y K) σ) : f_X4_whyNoPlay σ (nI s) = some (.inr y) ∧ KQ K σ := by
  obtain ⟨N, m, hs, S, ⟨R, T, hp⟩, hc⟩ := h
  simp only [r_whyNoPlay, Bool.and_eq_true, decide_eq_true_eq] at hc
  obtain ⟨h1, hy, hk⟩ := hc
  exact ⟨by rw [q_whyNoPlay hp h1, hy], _, _, _, _, ⟨_, _, hp⟩, hk⟩
noncomputable def r_stallOn (s : Nat) (y : Int32) (K : Nat → Nat → Int32 → Nat → Bool) (N m : Nat) (hs : Int32) (S : Nat) : Bool := (decide (s < 12) && (decide ((oI (s_on (DD N) (nI s))) = y) && K N m hs S))
theorem y_stallOn {s : Nat} {y : Int32} {K : Nat → Nat → Int32 → Nat → Bool} {σ : Sg} (h : KQ (r_stallOn s y K) σ) : f_X4_stallOn σ (nI s) = some (.inr y) ∧ KQ K σ := by
  obtain ⟨N, m, hs, S, ⟨R, T, hp⟩, hc⟩ := h
  simp only [r_stallOn, Bool.and_eq_true, decide_eq_true_eq] at hc
  obtain ⟨h1, hy, hk⟩ := hc
  exact ⟨by rw [q_stallOn hp h1, hy], _, _, _, _, ⟨_, _, hp⟩, hk⟩
noncomputable def r_crowdOn (s : Nat) (y : Int32) (K : Nat → Nat → Int32 → Nat → Bool) (N m : Nat) (hs : Int32) (S : Nat) : Bool := (decide (s < 12) && (decide ((s_onPA (DD N) (nI s) (nC (DD N)) 0 0) = y) && K N m hs S))
theorem y_crowdOn {s : Nat} {y : Int32} {K : Nat → Nat → Int32 → Nat → Bool} {σ : Sg} (h : KQ (r_crowdOn s y K) σ) : f_X4_crowdOn σ (nI s) = some (.inr y) ∧ KQ K σ := by
  obtain ⟨N, m, hs, S, ⟨R, T, hp⟩, hc⟩ := h
  simp only [r_crowdOn, Bool.and_eq_true, decide_eq_true_eq] at hc
  obtain ⟨h1, hy, hk⟩ := hc
  exact ⟨by rw [q_crowdOn hp h1, hy], _, _, _, _, ⟨_, _, hp⟩, hk⟩
noncomputable def r_wonOf (s : Nat) (y : Int32) (K : Nat → Nat → Int32 → Nat → Bool) (N m : Nat) (hs : Int32) (S : Nat) : Bool := (decide (s < 4) && (decide ((DD N (10 + s)) = y) && K N m hs S))
theorem y_wonOf {s : Nat} {y : Int32} {K : Nat → Nat → Int32 → Nat → Bool} {σ : Sg} (h : KQ (r_wonOf s y K) σ) : f_X4_wonOf σ (nI s) = some (.inr y) ∧ KQ K σ := by
  obtain ⟨N, m, hs, S, ⟨R, T, hp⟩, hc⟩ := h
  simp only [r_wonOf, Bool.and_eq_true, decide_eq_true_eq] at hc
  obtain ⟨h1, hy, hk⟩ := hc
  exact ⟨by rw [q_wonOf hp h1, hy], _, _, _, _, ⟨_, _, hp⟩, hk⟩
noncomputable def r_rainIn (s : Nat) (y : Int32) (K : Nat → Nat → Int32 → Nat → Bool) (N m : Nat) (hs : Int32) (S : Nat) : Bool := (decide (s < 10) && (decide ((s_rain (DD N) s) = y) && K N m hs S))
theorem y_rainIn {s : Nat} {y : Int32} {K : Nat → Nat → Int32 → Nat → Bool} {σ : Sg} (h : KQ (r_rainIn s y K) σ) : f_X4_rainIn σ (nI s) = some (.inr y) ∧ KQ K σ := by
  obtain ⟨N, m, hs, S, ⟨R, T, hp⟩, hc⟩ := h
  simp only [r_rainIn, Bool.and_eq_true, decide_eq_true_eq] at hc
  obtain ⟨h1, hy, hk⟩ := hc
  exact ⟨by rw [q_rainIn hp h1, hy], _, _, _, _, ⟨_, _, hp⟩, hk⟩
noncomputable def r_is (s : Nat) (p2 p3 p4 p5 p6 : Int32) (K : Nat → Nat → Int32 → Nat → Bool) (N m : Nat) (hs : Int32) (S : Nat) : Bool := (decide (s < nC (DD N)) && (decide (DD N (185 + 8 * s + 0) = p2) && (decide (DD N (185 + 8 * s + 1) = p3) && (decide (DD N (185 + 8 * s + 4) = p4) && (decide (DD N (185 + 8 * s + 7) = p5) && (decide (s_rsn (DD N) s = p6) && K N m hs S))))))
theorem y_is {s : Nat} {p2 p3 p4 p5 p6 : Int32} {K : Nat → Nat → Int32 → Nat → Bool} {σ : Sg} (h : KQ (r_is s p2 p3 p4 p5 p6 K) σ) : f_L_is σ (nI s) p2 p3 p4 p5 p6 = some (1, σ) ∧ KQ K σ := by
  obtain ⟨N, m, hs, S, ⟨R, T, hp⟩, hc⟩ := h
  simp only [r_is, Bool.and_eq_true, decide_eq_true_eq] at hc
  obtain ⟨h1, e2, e3, e4, e5, e6, hk⟩ := hc
  refine ⟨?_, _, _, _, _, ⟨_, _, hp⟩, hk⟩
  unfold f_L_is
  rw [q_purseOf hp h1, bn1_some, if_pos e2, q_moodOf hp h1, bn1_some, if_pos e3, q_placeOf hp h1, bn1_some, if_pos e4, q_prizesOf hp h1, bn1_some, if_pos e5, q_whyNoPlay hp h1, bn1_some, if_pos e6, q_isAtFair hp h1, bn1_some, e4]
  by_cases q : p4 = -1
  · rw [if_pos q, if_pos q, if_pos rfl]
  · rw [if_neg q, if_neg q, if_pos rfl]
theorem y_sum {K : Nat → Nat → Int32 → Nat → Bool} {σ : Sg} (h : KQ K σ) : ∃ y, f_X4_allCoins σ = some y ∧ f_X4_coinsByPlaces σ = some y ∧ KQ K σ := by
  obtain ⟨N, m, hs, S, ⟨R, T, hp⟩, hc⟩ := h
  exact ⟨_, q_allCoins hp, q_places hp, _, _, _, _, ⟨_, _, hp⟩, hc⟩
theorem z_refused {K : Nat → Nat → Int32 → Nat → Bool} {σ : Sg} (h : KQ K σ) : ∃ τ, f_L_refused σ = some (1, τ) ∧ KQ K τ := by
  obtain ⟨N, m, hs, S, ⟨R, T, hp⟩, hc⟩ := h
  obtain ⟨τ, e, p⟩ := y_refused hp
  exact ⟨τ, e, _, _, _, _, ⟨_, _, p⟩, hc⟩
noncomputable def x_undo (K : Nat → Nat → Int32 → Nat → Bool) (N m : Nat) (hs : Int32) (S : Nat) : Bool := decide (m = 0) && (K N m hs S)
theorem w_undo  {K : Nat → Nat → Int32 → Nat → Bool} {σ : Sg} (h : KQ (x_undo  K) σ) : f_L_call σ 10 0 0 0 0 = some (-2013, σ) ∧ KQ K σ := by
  obtain ⟨N, m, hs, S, ⟨R, T, hp⟩, hc⟩ := h
  simp only [x_undo, Bool.and_eq_true, decide_eq_true_eq] at hc
  obtain ⟨h1, hk⟩ := hc
  subst h1
  exact ⟨cl_10i (e := 3) (by omega) (n_undo hp), _, _, _, _, ⟨_, _, hp⟩, hk⟩
noncomputable def x_rest (K : Nat → Nat → Int32 → Nat → Bool) (N m : Nat) (hs : Int32) (S : Nat) : Bool := decide (hs = 0) && (K N m hs S)
theorem w_rest  {K : Nat → Nat → Int32 → Nat → Bool} {σ : Sg} (h : KQ (x_rest  K) σ) : f_L_call σ 11 0 0 0 0 = some (-2013, σ) ∧ KQ K σ := by
  obtain ⟨N, m, hs, S, ⟨R, T, hp⟩, hc⟩ := h
  simp only [x_rest, Bool.and_eq_true, decide_eq_true_eq] at hc
  obtain ⟨h1, hk⟩ := hc
  subst h1
  exact ⟨cl_11i (e := 3) (by omega) (n_rest hp rfl), _, _, _, _, ⟨_, _, hp⟩, hk⟩
noncomputable def x_build (a1 : Int32) (a2 : Int32) (a3 : Int32) (K : Nat → Nat → Int32 → Nat → Bool) (N m : Nat) (hs : Int32) (S : Nat) : Bool := vpb a1 12 && (vpb a2 5 && (inb 1 9 a3 && (decide (¬ s_whyB (DD N) a1 0 = 0) && (K N m hs S))))
theorem w_build {a1 : Int32} {a2 : Int32} {a3 : Int32} {K : Nat → Nat → Int32 → Nat → Bool} {σ : Sg} (h : KQ (x_build a1 a2 a3 K) σ) : f_L_call σ 0 a1 a2 a3 0 = some (-2013, σ) ∧ KQ K σ := by
  obtain ⟨N, m, hs, S, ⟨R, T, hp⟩, hc⟩ := h
  simp only [x_build, Bool.and_eq_true, decide_eq_true_eq] at hc
  obtain ⟨h1, h2, h3, h4, hk⟩ := hc
  exact ⟨cl_00i (e := 3) (by omega) (by decide) (n_build4 hp (vp_lit h1) (vp_lit h2) (inb_of h3) h4), _, _, _, _, ⟨_, _, hp⟩, hk⟩
noncomputable def x_stock (s : Nat) (l : Nat) (a3 : Int32) (a4 : Int32) (K : Nat → Nat → Int32 → Nat → Bool) (N m : Nat) (hs : Int32) (S : Nat) : Bool := decide (s < nS (DD N)) && (decide (l < 4) && (vpb a3 4 && (inb 1 40 a4 && (decide (¬ s_whyS (DD N) s l a4 = 0) && (K N m hs S)))))
theorem w_stock {s : Nat} {l : Nat} {a3 : Int32} {a4 : Int32} {K : Nat → Nat → Int32 → Nat → Bool} {σ : Sg} (h : KQ (x_stock s l a3 a4 K) σ) : f_L_call σ 4 (nI s) (nI l) a3 a4 = some (-2013, σ) ∧ KQ K σ := by
  obtain ⟨N, m, hs, S, ⟨R, T, hp⟩, hc⟩ := h
  simp only [x_stock, Bool.and_eq_true, decide_eq_true_eq] at hc
  obtain ⟨h1, h2, h3, h4, h5, hk⟩ := hc
  exact ⟨cl_4i (e := 3) (by omega) (n_stock5 hp h1 h2 (vp_lit h3) (inb_of h4) h5), _, _, _, _, ⟨_, _, hp⟩, hk⟩
noncomputable def x_fund (s : Nat) (a2 : Int32) (K : Nat → Nat → Int32 → Nat → Bool) (N m : Nat) (hs : Int32) (S : Nat) : Bool := decide (s < nS (DD N)) && (inb 1 99 a2 && (decide (¬ a2 ≤ DD N 0) && (K N m hs S)))
theorem w_fund {s : Nat} {a2 : Int32} {K : Nat → Nat → Int32 → Nat → Bool} {σ : Sg} (h : KQ (x_fund s a2 K) σ) : f_L_call σ 5 (nI s) a2 0 0 = some (-2013, σ) ∧ KQ K σ := by
  obtain ⟨N, m, hs, S, ⟨R, T, hp⟩, hc⟩ := h
  simp only [x_fund, Bool.and_eq_true, decide_eq_true_eq] at hc
  obtain ⟨h1, h2, h3, hk⟩ := hc
  exact ⟨cl_5i (e := 3) (by omega) (n_fund3 hp h1 (inb_of h2) h3), _, _, _, _, ⟨_, _, hp⟩, hk⟩
noncomputable def x_come (a1 : Int32) (a2 : Int32) (a3 : Int32) (K : Nat → Nat → Int32 → Nat → Bool) (N m : Nat) (hs : Int32) (S : Nat) : Bool := vpb a1 100 && (vpb a2 5 && (vpb a3 4 && (decide (s_room (DD N) = 0) && (K N m hs S))))
theorem w_come {a1 : Int32} {a2 : Int32} {a3 : Int32} {K : Nat → Nat → Int32 → Nat → Bool} {σ : Sg} (h : KQ (x_come a1 a2 a3 K) σ) : f_L_call σ 7 a1 a2 a3 0 = some (-2013, σ) ∧ KQ K σ := by
  obtain ⟨N, m, hs, S, ⟨R, T, hp⟩, hc⟩ := h
  simp only [x_come, Bool.and_eq_true, decide_eq_true_eq] at hc
  obtain ⟨h1, h2, h3, h4, hk⟩ := hc
  exact ⟨cl_7i (e := 3) (by omega) (n_come4 hp (vp_lit h1) (vp_lit h2) (vp_lit h3) h4), _, _, _, _, ⟨_, _, hp⟩, hk⟩
noncomputable def k_end (_ _ : Nat) (_ : Int32) (_ : Nat) : Bool := true
/-- the row is this number; four states are recorded, no snapshot -/
noncomputable def k_at (L : Nat) (N m : Nat) (hs : Int32) (S : Nat) : Bool := (Nat.beq N L && (Nat.beq m 4 && (decide (hs = 0) && Nat.beq S 0)))
theorem z_at {L : Nat} {K : Nat → Nat → Int32 → Nat → Bool} {σ : Sg} (h : KQ (k_at L) σ) (hK : K L 4 0 0 = true) : KQ K σ := by
  obtain ⟨N, m, hs, S, hp, hc⟩ := h
  simp only [k_at, Bool.and_eq_true, decide_eq_true_eq] at hc
  obtain ⟨h1, h2, h3, h4⟩ := hc
  have e1 := Nat.eq_of_beq_eq_true h1
  have e2 := Nat.eq_of_beq_eq_true h2
  have e4 := Nat.eq_of_beq_eq_true h4
  subst e1 e2 h3 e4
  exact ⟨_, _, _, _, hp, hK⟩
theorem z_start {K : Nat → Nat → Int32 → Nat → Bool} (h : K 9223372036854775808000 0 0 0 = true) : KQ K s0 := ⟨9223372036854775808000, 0, 0, 0, ⟨fun _ _ => 0, fun _ => 0, p_init⟩, h⟩

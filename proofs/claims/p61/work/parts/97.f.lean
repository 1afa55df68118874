/-! scripts with the text: its length, its characters as one number, the row, the states recorded, the row recorded -/
noncomputable def e_all {α : Type} (tx : Nat → Int32) (n : Nat) : Nat → Nat → (Nat → Bool → List (Int32 × Int32 × Int32 × Int32 × Int32) → α) → α
  | 0, i, K => K i false []
  | m + 1, i, K => frc (s_ord tx n i).1 fun p => if (s_ord tx n i).2.1 = -1 then K p false [] else if (s_sgn tx n p 59).1 = 0 then K p (decide (p = n)) [(s_ord tx n i).2] else frc (p + 1) fun j => e_all tx n m j fun a b c => K a b ((s_ord tx n i).2 :: c)
theorem D_all {α : Type} {tx : Nat → Int32} {n : Nat} : ∀ (m i : Nat) (K : Nat → Bool → List (Int32 × Int32 × Int32 × Int32 × Int32) → α), e_all tx n m i K = K (s_all tx n m i).1 (s_all tx n m i).2.1 (s_all tx n m i).2.2 := by
  intro m
  induction m with
  | zero => intro i K; rfl
  | succ m ih =>
    intro i K
    rw [e_all, s_all, frc_e, frc_e]
    split
    · rfl
    · split
      · rfl
      · rw [ih]
noncomputable def e_do {α : Type} (N M : Nat) (F : (Int32 × Int32 × Int32 × Int32 × Int32)) (K : Nat → Nat → α) : α :=
  if F.1 = 98 then frc (e_pays N F.2.1 F.2.2.1 F.2.2.2.1 F.2.2.2.2) fun g => K g M
  else if F.1 = 114 then frc (e_stocks N F.2.1.toNatClampNeg F.2.2.1.toNatClampNeg F.2.2.2.1.toNatClampNeg F.2.2.2.2) fun g => K g M
  else if F.1 = 102 then frc (e_funds N F.2.1.toNatClampNeg F.2.2.1) fun g => K g M
  else if F.1 = 99 then frc (e_comes N F.2.1 F.2.2.1 F.2.2.2.1) fun g => K g M
  else if F.1 = 119 then frc (dw N (14 + F.2.1.toNatClampNeg) F.2.2.1) fun g => K g M
  else e_pass K F.2.1.toNatClampNeg N M
theorem D_do {α : Type} {N M : Nat} {F : (Int32 × Int32 × Int32 × Int32 × Int32)} {K : Nat → Nat → α} : ∃ g b, e_do N M F K = K g b ∧ s_do (DD N) (DD M) F = (DD g, DD b) := by
  unfold e_do s_do
  simp only [frc_e, D_pays, D_stocks, D_funds, D_comes, DD_upd]
  split
  · exact ⟨_, _, rfl, rfl⟩
  split
  · exact ⟨_, _, rfl, rfl⟩
  split
  · exact ⟨_, _, rfl, rfl⟩
  split
  · exact ⟨_, _, rfl, rfl⟩
  split
  · exact ⟨_, _, rfl, rfl⟩
  exact D_pass _ _ _
noncomputable def e_run {α : Type} (K : Int32 → Nat → Nat → α) : List (Int32 × Int32 × Int32 × Int32 × Int32) → Nat → Nat → Nat → α
  | [], _, N, M => K (-1) N M
  | F :: l, k, N, M => if s_can (DD N) F = 0 then K (nI k) N M else e_do N M F fun g b => e_run K l (k + 1) g b
theorem D_run {α : Type} {K : Int32 → Nat → Nat → α} : ∀ l k N M, ∃ y g b, e_run K l k N M = K y g b ∧ s_run l k (DD N) (DD M) = (y, DD g, DD b) := by
  intro l
  induction l with
  | nil => intro k N M; exact ⟨_, N, M, rfl, rfl⟩
  | cons F l ih =>
    intro k N M
    rw [e_run, s_run]
    by_cases h : s_can (DD N) F = 0
    · rw [if_pos h, if_pos h]
      exact ⟨_, N, M, rfl, rfl⟩
    · rw [if_neg h, if_neg h]
      obtain ⟨g, b, h1, h2⟩ := D_do (N := N) (M := M) (F := F) (K := fun g b => e_run K l (k + 1) g b)
      rw [h1, h2]
      exact ih (k + 1) g b
def TI (σ : Sg) (n W N m P : Nat) : Prop := ∃ R sn, PI σ (DD N) m R 0 sn n (DD W) ∧ (m = 1 → R 0 = DD P)
def TQ (K : Nat → Nat → Nat → Nat → Nat → Bool) (σ : Sg) : Prop := ∃ n W N m P, TI σ n W N m P ∧ K n W N m P = true
theorem t_start {K : Nat → Nat → Nat → Nat → Nat → Bool} (h : K 0 0 9223372036854775808000 0 0 = true) : TQ K s0 := ⟨_, _, _, _, _, ⟨fun _ _ => 0, fun _ => 0, p_init, fun z => absurd z (by decide)⟩, h⟩
noncomputable def v_type (c : Int32) (K : Nat → Nat → Nat → Nat → Nat → Bool) (n W N m P : Nat) : Bool := (vpb c 65536 && (Nat.blt n 80 && frc (n + 1) fun n2 => frc (dw W n c) fun X => K n2 X N m P))
theorem t_type {c : Int32} {K : Nat → Nat → Nat → Nat → Nat → Bool} {σ : Sg} (h : TQ (v_type c K) σ) : ∃ τ k, f_X4_type σ c = some (.inr (nI (k + 1), τ)) ∧ k < 80 ∧ TQ K τ := by
  obtain ⟨n, W, N, m, P, ⟨R, sn, hp, hr⟩, hc⟩ := h
  simp only [v_type, frc_e, Bool.and_eq_true, Nat.blt_eq] at hc
  obtain ⟨h1, h2, hk⟩ := hc
  have hv := vp_lit h1
  have t := tc_vp hv
  have ec : nI c.toNatClampNeg = c := (tc_eq hv (by omega)).symm
  obtain ⟨τ, e, p⟩ := p_type (z := c.toNatClampNeg) hp (by omega) h2
  rw [ec] at e p
  rw [DD_upd] at p
  exact ⟨τ, n, e, h2, _, _, _, _, _, ⟨_, _, p, hr⟩, hk⟩
noncomputable def v_typeN (c : Int32) (y : Int32) (K : Nat → Nat → Nat → Nat → Nat → Bool) (n W N m P : Nat) : Bool := (vpb c 65536 && (Nat.blt n 80 && (decide (nI (n + 1) = y) && frc (n + 1) fun n2 => frc (dw W n c) fun X => K n2 X N m P)))
theorem t_typeN {c y : Int32} {K : Nat → Nat → Nat → Nat → Nat → Bool} {σ : Sg} (h : TQ (v_typeN c y K) σ) : ∃ τ, f_X4_type σ c = some (.inr (y, τ)) ∧ TQ K τ := by
  obtain ⟨n, W, N, m, P, ⟨R, sn, hp, hr⟩, hc⟩ := h
  simp only [v_typeN, frc_e, Bool.and_eq_true, Nat.blt_eq, decide_eq_true_eq] at hc
  obtain ⟨h1, h2, hy, hk⟩ := hc
  have hv := vp_lit h1
  have t := tc_vp hv
  have ec : nI c.toNatClampNeg = c := (tc_eq hv (by omega)).symm
  obtain ⟨τ, e, p⟩ := p_type (z := c.toNatClampNeg) hp (by omega) h2
  rw [ec] at e p
  rw [DD_upd] at p
  exact ⟨τ, by rw [e, hy], _, _, _, _, _, ⟨_, _, p, hr⟩, hk⟩
noncomputable def v_clear (y : Int32) (K : Nat → Nat → Nat → Nat → Nat → Bool) (n W N m P : Nat) : Bool := (decide (nI n = y) && K 0 W N m P)
theorem t_clear {y : Int32} {K : Nat → Nat → Nat → Nat → Nat → Bool} {σ : Sg} (h : TQ (v_clear y K) σ) : ∃ τ, f_X4_clearText σ = some (y, τ) ∧ TQ K τ := by
  obtain ⟨n, W, N, m, P, ⟨R, sn, hp, hr⟩, hc⟩ := h
  simp only [v_clear, Bool.and_eq_true, decide_eq_true_eq] at hc
  obtain ⟨τ, e, p⟩ := p_clear hp
  exact ⟨τ, by rw [e, hc.1], _, _, _, _, _, ⟨_, _, p, hr⟩, hc.2⟩
noncomputable def v_clr (K : Nat → Nat → Nat → Nat → Nat → Bool) (n W N m P : Nat) : Bool := K 0 W N m P
theorem t_clr {K : Nat → Nat → Nat → Nat → Nat → Bool} {σ : Sg} (h : TQ (v_clr K) σ) : ∃ y τ, f_X4_clearText σ = some (y, τ) ∧ ¬ y < 0 ∧ TQ K τ := by
  obtain ⟨n, W, N, m, P, ⟨R, sn, hp, hr⟩, hc⟩ := h
  obtain ⟨τ, e, p⟩ := p_clear hp
  have h80 := hp.2.2.1
  exact ⟨_, τ, e, nneg (by rw [nI_toInt (by omega)]; omega), _, _, _, _, _, ⟨_, _, p, hr⟩, hc⟩
noncomputable def v_err (y : Int32) (K : Nat → Nat → Nat → Nat → Nat → Bool) (n W N m P : Nat) : Bool := e_all (DD W) n 40 0 fun a b _ => (decide ((if b = true then -1 else nI a) = y) && K n W N m P)
theorem t_err {y : Int32} {K : Nat → Nat → Nat → Nat → Nat → Bool} {σ : Sg} (h : TQ (v_err y K) σ) : ∃ τ, f_X4_textError σ = some (y, τ) ∧ TQ K τ := by
  obtain ⟨n, W, N, m, P, ⟨R, sn, hp, hr⟩, hc⟩ := h
  simp only [v_err, D_all, Bool.and_eq_true, decide_eq_true_eq] at hc
  obtain ⟨τ, e, p⟩ := p_textError hp
  rw [hc.1] at e
  exact ⟨τ, e, _, _, _, _, _, ⟨_, _, p, hr⟩, hc.2⟩
noncomputable def v_imp (y : Int32) (K : Nat → Nat → Nat → Nat → Nat → Bool) (n W N m P : Nat) : Bool := e_all (DD W) n 40 0 fun _ b c => (b && e_run (fun r _ _ => (decide (r = y) && K n W N m P)) c 0 N 0)
theorem t_imp {y : Int32} {K : Nat → Nat → Nat → Nat → Nat → Bool} {σ : Sg} (h : TQ (v_imp y K) σ) : ∃ τ, f_X4_impossibleOrder σ = some (.inr (y, τ)) ∧ TQ K τ := by
  obtain ⟨n, W, N, m, P, ⟨R, sn, hp, hr⟩, hc⟩ := h
  simp only [v_imp, D_all, Bool.and_eq_true] at hc
  obtain ⟨q, hc⟩ := hc
  obtain ⟨r, g, b, e1, e2⟩ := D_run (K := fun r _ _ => (decide (r = y) && K n W N m P)) (s_all (DD W) n 40 0).2.2 0 N 0
  rw [e1] at hc
  simp only [Bool.and_eq_true, decide_eq_true_eq] at hc
  obtain ⟨τ, e, p⟩ := p_imp (DD 0) hp q
  rw [e2, hc.1] at e
  exact ⟨τ, e, _, _, _, _, _, ⟨_, _, p, hr⟩, hc.2⟩
noncomputable def vx_car (K : Nat → Nat → Nat → Nat → Nat → Bool) (n W N m P : Nat) : Bool := e_all (DD W) n 40 0 fun _ b c => (b && e_run (fun r _ _ => (decide (¬ r = -1) && K n W N m P)) c 0 N 0)
theorem w_car {K : Nat → Nat → Nat → Nat → Nat → Bool} {σ : Sg} (h : TQ (vx_car K) σ) : ∃ τ, f_L_call σ 36 0 0 0 0 = some (-2013, τ) ∧ TQ K τ := by
  obtain ⟨n, W, N, m, P, ⟨R, sn, hp, hr⟩, hc⟩ := h
  simp only [vx_car, D_all, Bool.and_eq_true] at hc
  obtain ⟨q, hc⟩ := hc
  obtain ⟨r, g, b, e1, e2⟩ := D_run (K := fun r _ _ => (decide (¬ r = -1) && K n W N m P)) (s_all (DD W) n 40 0).2.2 0 N 0
  rw [e1] at hc
  simp only [Bool.and_eq_true, decide_eq_true_eq] at hc
  obtain ⟨τ, e, p⟩ := n_car2 (DD 0) hp q (by rw [e2]; exact hc.1)
  exact ⟨τ, cl_36i (e := 3) (by omega) e, _, _, _, _, _, ⟨_, _, p, hr⟩, hc.2⟩
noncomputable def v_car (y : Int32) (K : Nat → Nat → Nat → Nat → Nat → Bool) (n W N m P : Nat) : Bool := e_all (DD W) n 40 0 fun _ b c => (b && e_run (fun r g _ => (decide (r = -1) && (decide (nI c.length = y) && (Nat.beq m 0 && K n W g 1 N)))) c 0 N 0)
theorem t_car {y : Int32} {K : Nat → Nat → Nat → Nat → Nat → Bool} {σ : Sg} (h : TQ (v_car y K) σ) : ∃ τ, f_X4_carryOut σ = some (.inr (y, τ)) ∧ TQ K τ := by
  obtain ⟨n, W, N, m, P, ⟨R, sn, hp, hr⟩, hc⟩ := h
  simp only [v_car, D_all, Bool.and_eq_true] at hc
  obtain ⟨q, hc⟩ := hc
  obtain ⟨r, g, b, e1, e2⟩ := D_run (K := fun r g _ => (decide (r = -1) && (decide (nI (s_all (DD W) n 40 0).2.2.length = y) && (Nat.beq m 0 && K n W g 1 N)))) (s_all (DD W) n 40 0).2.2 0 N 0
  rw [e1] at hc
  simp only [Bool.and_eq_true, decide_eq_true_eq] at hc
  obtain ⟨h1, h2, h3, hk⟩ := hc
  have h3 := Nat.eq_of_beq_eq_true h3
  subst h3
  obtain ⟨τ, e, p⟩ := p_car (DD 0) hp q (by rw [e2]; exact h1)
  rw [h2] at e
  rw [e2] at p
  exact ⟨τ, e, _, _, _, _, _, ⟨_, _, p, fun _ => rfl⟩, hk⟩
noncomputable def v_undo (y : Int32) (K : Nat → Nat → Nat → Nat → Nat → Bool) (n W N m P : Nat) : Bool := (decide (m = 1) && (decide (nI 0 = y) && K n W P 0 P))
theorem t_undo {y : Int32} {K : Nat → Nat → Nat → Nat → Nat → Bool} {σ : Sg} (h : TQ (v_undo y K) σ) : ∃ τ, f_X4_undo σ = some (.inr (y, τ)) ∧ TQ K τ := by
  obtain ⟨n, W, N, m, P, ⟨R, sn, hp, hr⟩, hc⟩ := h
  simp only [v_undo, Bool.and_eq_true, decide_eq_true_eq] at hc
  obtain ⟨h1, hy, hk⟩ := hc
  subst h1
  obtain ⟨τ, e, p⟩ := p_undo hp
  rw [hr rfl] at p
  exact ⟨τ, by rw [e, hy], _, _, _, _, _, ⟨_, _, p, fun z => absurd z (by decide)⟩, hk⟩
noncomputable def vx_type (K : Nat → Nat → Nat → Nat → Nat → Bool) (n W N m P : Nat) : Bool := (decide (n = 80) && K n W N m P)
theorem w_type {K : Nat → Nat → Nat → Nat → Nat → Bool} {σ : Sg} (h : TQ (vx_type K) σ) : f_L_call σ 35 112 0 0 0 = some (-2013, σ) ∧ TQ K σ := by
  obtain ⟨n, W, N, m, P, ⟨R, sn, hp, hr⟩, hc⟩ := h
  simp only [vx_type, Bool.and_eq_true, decide_eq_true_eq] at hc
  obtain ⟨h1, hk⟩ := hc
  subst h1
  exact ⟨cl_35i (e := 3) (by omega) (n_type hp), _, _, _, _, _, ⟨_, _, hp, hr⟩, hk⟩
/-- a byte of a word -/
def btw (w : Int64) (x : Int32) : Int32 := ((w >>> (x.toInt64 &&& 63)) &&& (255 : Int64)).toInt32
noncomputable def v_tyA (w : Int64) : Nat → (Nat → Nat → Nat → Nat → Nat → Bool) → Nat → Nat → Nat → Nat → Nat → Bool
  | 0, K => K
  | d + 1, K => if btw w (nI (8 * d)) = 0 then v_tyA w d K else v_type ((btw w (nI (8 * d))).toUInt32 % 65536).toInt32 (v_tyA w d K)
theorem ty_n : ∀ d, d < 8 → nI (8 * (d + 1)) + (-8) = nI (8 * d) ∧ ¬ nI (8 * d) < 0 := by decide
theorem t_tyA {w : Int64} {K : Nat → Nat → Nat → Nat → Nat → Bool} : ∀ (d n : Nat) (σ : Sg), d ≤ 8 → d < n → TQ (v_tyA w d K) σ → ∃ τ, l_L_types_6 n σ w 1 (nI (8 * d) + (-8)) = some (.inr (τ, 1)) ∧ TQ K τ := by
  intro d
  induction d with
  | zero =>
    intro n σ _ hn h
    obtain ⟨M, rfl⟩ : ∃ M, n = M + 1 := ⟨n - 1, by omega⟩
    refine ⟨σ, ?_, h⟩
    rw [l_L_types_6.eq_2]
    exact if_pos (by decide)
  | succ d ih =>
    intro n σ hd hn h
    obtain ⟨M, rfl⟩ : ∃ M, n = M + 1 := ⟨n - 1, by omega⟩
    obtain ⟨n1, n2⟩ := ty_n d (by omega)
    rw [n1, l_L_types_6.eq_2, if_neg n2, if_neg (by decide)]
    rw [v_tyA] at h
    by_cases q : btw w (nI (8 * d)) = 0
    · rw [if_pos q] at h
      obtain ⟨τ, e, h⟩ := ih M σ (by omega) (by omega) h
      refine ⟨τ, ?_, h⟩
      have q' : ((w >>> ((nI (8 * d)).toInt64 &&& 63)) &&& (255 : Int64)).toInt32 = 0 := q
      rw [if_pos q']
      exact e
    · rw [if_neg q] at h
      obtain ⟨σ1, k, e1, hk, h⟩ := t_type h
      obtain ⟨τ, e, h⟩ := ih M σ1 (by omega) (by omega) h
      refine ⟨τ, ?_, h⟩
      have q' : ¬ ((w >>> ((nI (8 * d)).toInt64 &&& 63)) &&& (255 : Int64)).toInt32 = 0 := q
      have e1' : f_X4_type σ (((w >>> ((nI (8 * d)).toInt64 &&& 63)) &&& (255 : Int64)).toInt32.toUInt32 % 65536).toInt32 = some (.inr (nI (k + 1), σ1)) := e1
      have hz : ¬ nI (k + 1) ≤ 0 := by
        rw [show (0 : Int32) = nI 0 from rfl, nI_leI (by omega) (by omega)]
        omega
      rw [if_neg q', e1', bn2_some, if_neg hz]
      exact e
theorem t_types {w : Int64} {K : Nat → Nat → Nat → Nat → Nat → Bool} {σ : Sg} (h : TQ (v_tyA w 8 K) σ) : ∃ τ, f_L_types σ w = some (1, τ) ∧ TQ K τ := by
  obtain ⟨τ, e, h⟩ := t_tyA 8 9 σ (by omega) (by omega) h
  refine ⟨τ, ?_, h⟩
  unfold f_L_types
  exact bl_ok (s := (τ, 1)) e (gd_lit (i := 1) (by decide) rfl)
noncomputable def v_isE (a b : Int64) (y : Int32) (K : Nat → Nat → Nat → Nat → Nat → Bool) : Nat → Nat → Nat → Nat → Nat → Bool := v_clr (v_tyA a 8 (v_tyA b 8 (v_err y K)))
theorem t_isE {a b : Int64} {y : Int32} {K : Nat → Nat → Nat → Nat → Nat → Bool} {σ : Sg} (h : TQ (v_isE a b y K) σ) : ∃ τ, f_L_isError σ a b y = some (1, τ) ∧ TQ K τ := by
  unfold v_isE at h
  obtain ⟨y0, σ1, e1, hn, h⟩ := t_clr h
  obtain ⟨σ2, e2, h⟩ := t_types h
  obtain ⟨σ3, e3, h⟩ := t_types h
  obtain ⟨σ4, e4, h⟩ := t_err h
  refine ⟨σ4, ?_, h⟩
  unfold f_L_isError
  exact b2_ok e1 (in_ok hn (b2_ok e2 (in_ok (by decide) (b2_ok e3 (in_ok (by decide) (b2_ok e4 (ip_ok rfl rfl)))))))
noncomputable def v_lp : Nat → Nat → (Nat → Nat → Nat → Nat → Nat → Bool) → Nat → Nat → Nat → Nat → Nat → Bool
  | 0, _, K => K
  | d + 1, k, K => v_typeN (if k % 3 = 0 then 112 else if k % 3 = 1 then 52 else 59) (nI (k + 1)) (v_err (if k % 3 = 1 then -1 else nI (k + 1)) (v_lp d (k + 1) K))
theorem t_lp {K : Nat → Nat → Nat → Nat → Nat → Bool} : ∀ (d k n : Nat) (σ : Sg), k + d = 80 → d < n → TQ (v_lp d k K) σ → ∃ τ, l_L_texts_532 n σ (nI k) = some (.inr τ) ∧ TQ K τ := by
  intro d
  induction d with
  | zero =>
    intro k n σ hk hn h
    obtain ⟨M, rfl⟩ : ∃ M, n = M + 1 := ⟨n - 1, by omega⟩
    refine ⟨σ, ?_, h⟩
    rw [l_L_texts_532.eq_2]
    exact if_pos (nI_le (a := 80) (b := k) (by omega) (by omega))
  | succ d ih =>
    intro k n σ hk hn h
    obtain ⟨M, rfl⟩ : ∃ M, n = M + 1 := ⟨n - 1, by omega⟩
    rw [v_lp] at h
    obtain ⟨σ1, e1, h⟩ := t_typeN h
    obtain ⟨σ2, e2, h⟩ := t_err h
    obtain ⟨τ, e, h⟩ := ih (k + 1) M σ2 (by omega) (by omega) h
    refine ⟨τ, ?_, h⟩
    have em : (nI k - nI k / 3 * 3 : Int32) = nI (k % 3) := by rw [show (3 : Int32) = nI 3 from rfl, pk_rem (by omega) (by omega) (by omega)]
    have e0 : (nI (k % 3) = 0) ↔ k % 3 = 0 := ⟨fun z => nI_inj (by omega) (by omega) z, fun z => by rw [z]; rfl⟩
    have e01 : (nI (k % 3) = 1) ↔ k % 3 = 1 := ⟨fun z => nI_inj (by omega) (by omega) z, fun z => by rw [z]; rfl⟩
    rw [l_L_texts_532.eq_2, if_neg (show ¬ (80 : Int32) ≤ nI k from nI_ge (a := k) (b := 80) (by omega) (by omega)), em]
    simp only [e0, e01, nI_1]
    have h3 : k % 3 < 3 := Nat.mod_lt _ (by omega)
    by_cases q0 : k % 3 = 0
    · have q1 : ¬ k % 3 = 1 := by omega
      rw [if_pos q0] at e1
      rw [if_neg q1] at e2
      rw [if_pos q0, e1, bn2_some, if_pos rfl, e2, b2_some, if_neg q1, if_pos rfl]
      exact e
    · by_cases q1 : k % 3 = 1
      · rw [if_neg q0, if_pos q1] at e1
        rw [if_pos q1] at e2
        rw [if_neg q0, if_pos q1, e1, bn2_some, if_pos rfl, e2, b2_some, if_pos q1, if_pos rfl]
        exact e
      · rw [if_neg q0, if_neg q1] at e1
        rw [if_neg q1] at e2
        rw [if_neg q0, if_neg q1, e1, bn2_some, if_pos rfl, e2, b2_some, if_neg q1, if_pos rfl]
        exact e
theorem t_l532 {K : Nat → Nat → Nat → Nat → Nat → Bool} {σ : Sg} (h : TQ (v_lp 80 0 K) σ) : ∃ τ, l_L_texts_532 81 σ 0 = some (.inr τ) ∧ TQ K τ := t_lp 80 0 81 σ (by omega) (by omega) h
noncomputable def v_end (_ _ _ _ _ : Nat) : Bool := true
noncomputable def vr_bank (y : Int32) (K : Nat → Nat → Nat → Nat → Nat → Bool) (n W N m P : Nat) : Bool := (decide (DD N 0 = y) && K n W N m P)
theorem tr_bank {y : Int32} {K : Nat → Nat → Nat → Nat → Nat → Bool} {σ : Sg} (h : TQ (vr_bank y K) σ) : f_X4_bank σ = some y ∧ TQ K σ := by
  obtain ⟨n, W, N, m, P, ⟨R, sn, hp, hr⟩, hc⟩ := h
  simp only [vr_bank, Bool.and_eq_true, decide_eq_true_eq] at hc
  exact ⟨by rw [q_bank hp, hc.1], _, _, _, _, _, ⟨_, _, hp, hr⟩, hc.2⟩
noncomputable def vr_round (y : Int32) (K : Nat → Nat → Nat → Nat → Nat → Bool) (n W N m P : Nat) : Bool := (decide (DD N 7 = y) && K n W N m P)
theorem tr_round {y : Int32} {K : Nat → Nat → Nat → Nat → Nat → Bool} {σ : Sg} (h : TQ (vr_round y K) σ) : f_X4_round σ = some y ∧ TQ K σ := by
  obtain ⟨n, W, N, m, P, ⟨R, sn, hp, hr⟩, hc⟩ := h
  simp only [vr_round, Bool.and_eq_true, decide_eq_true_eq] at hc
  exact ⟨by rw [q_round hp, hc.1], _, _, _, _, _, ⟨_, _, hp, hr⟩, hc.2⟩
noncomputable def vr_stalls (y : Int32) (K : Nat → Nat → Nat → Nat → Nat → Bool) (n W N m P : Nat) : Bool := (decide (DD N 8 = y) && K n W N m P)
theorem tr_stalls {y : Int32} {K : Nat → Nat → Nat → Nat → Nat → Bool} {σ : Sg} (h : TQ (vr_stalls y K) σ) : f_X4_stalls σ = some y ∧ TQ K σ := by
  obtain ⟨n, W, N, m, P, ⟨R, sn, hp, hr⟩, hc⟩ := h
  simp only [vr_stalls, Bool.and_eq_true, decide_eq_true_eq] at hc
  exact ⟨by rw [q_stalls hp, hc.1], _, _, _, _, _, ⟨_, _, hp, hr⟩, hc.2⟩
noncomputable def vr_children (y : Int32) (K : Nat → Nat → Nat → Nat → Nat → Bool) (n W N m P : Nat) : Bool := (decide (DD N 9 = y) && K n W N m P)
theorem tr_children {y : Int32} {K : Nat → Nat → Nat → Nat → Nat → Bool} {σ : Sg} (h : TQ (vr_children y K) σ) : f_X4_children σ = some y ∧ TQ K σ := by
  obtain ⟨n, W, N, m, P, ⟨R, sn, hp, hr⟩, hc⟩ := h
  simp only [vr_children, Bool.and_eq_true, decide_eq_true_eq] at hc
  exact ⟨by rw [q_children hp, hc.1], _, _, _, _, _, ⟨_, _, hp, hr⟩, hc.2⟩
noncomputable def vr_recordedStates (y : Int32) (K : Nat → Nat → Nat → Nat → Nat → Bool) (n W N m P : Nat) : Bool := (decide (nI m = y) && K n W N m P)
theorem tr_recordedStates {y : Int32} {K : Nat → Nat → Nat → Nat → Nat → Bool} {σ : Sg} (h : TQ (vr_recordedStates y K) σ) : f_X4_recordedStates σ = some y ∧ TQ K σ := by
  obtain ⟨n, W, N, m, P, ⟨R, sn, hp, hr⟩, hc⟩ := h
  simp only [vr_recordedStates, Bool.and_eq_true, decide_eq_true_eq] at hc
  exact ⟨by rw [q_recorded hp, hc.1], _, _, _, _, _, ⟨_, _, hp, hr⟩, hc.2⟩
noncomputable def vr_rainIn (i : Nat) (y : Int32) (K : Nat → Nat → Nat → Nat → Nat → Bool) (n W N m P : Nat) : Bool := (decide (i < 10) && (decide (s_rain (DD N) i = y) && K n W N m P))
theorem tr_rainIn {i : Nat} {y : Int32} {K : Nat → Nat → Nat → Nat → Nat → Bool} {σ : Sg} (h : TQ (vr_rainIn i y K) σ) : f_X4_rainIn σ (nI i) = some (.inr y) ∧ TQ K σ := by
  obtain ⟨n, W, N, m, P, ⟨R, sn, hp, hr⟩, hc⟩ := h
  simp only [vr_rainIn, Bool.and_eq_true, decide_eq_true_eq] at hc
  exact ⟨by rw [q_rainIn hp hc.1, hc.2.1], _, _, _, _, _, ⟨_, _, hp, hr⟩, hc.2.2⟩

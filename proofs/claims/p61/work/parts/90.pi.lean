/-! THE CLASS ALONE: what each call answers and leaves, where now is f, the records R, the snapshot sn, the text T of n signs -/
def TXT (σ : Sg) (n : Nat) (T : Nat → Int32) : Prop := n ≤ 80 ∧ σ 191 1 = nI n ∧ ∀ i, i < n → σ 192 i = T i ∧ vp_in (T i) 65536
def PI (σ : Sg) (f : Nat → Int32) (m : Nat) (R : Nat → Nat → Int32) (hs : Int32) (sn : Nat → Int32) (n : Nat) (T : Nat → Int32) : Prop := RC σ f m R hs sn ∧ OKA f m R hs sn ∧ TXT σ n T
theorem TXT.at {σ σ' : Sg} {n : Nat} {T : Nat → Int32} (h : TXT σ n T) (h1 : σ' 191 1 = σ 191 1) (h2 : σ' 192 = σ 192) : TXT σ' n T := by
  obtain ⟨a1, a2, a3⟩ := h
  exact ⟨a1, by rw [h1]; exact a2, fun i hi => by rw [h2]; exact a3 i hi⟩
/-- nothing that matters has changed -/
theorem PI.same {σ σ' : Sg} {f : Nat → Int32} {m : Nat} {R : Nat → Nat → Int32} {hs : Int32} {sn : Nat → Int32} {n : Nat} {T : Nat → Int32} (h : PI σ f m R hs sn n T) (ho : ∀ a, a < 28 ∨ (55 ≤ a ∧ a < 191) ∨ a = 192 → σ' a = σ a) (h1 : σ' 191 1 = σ 191 1) : PI σ' f m R hs sn n T := by
  obtain ⟨hc, ok, ht⟩ := h
  have b := ok.1.b
  exact ⟨hc.op ok (hc.1.at (fun a h1 h2 => ho a (by omega)) b.1 b.2) (ho 0 (by omega)) (fun a h1 h2 => ho a (by omega)), ok, ht.at h1 (ho 192 (by omega))⟩
/-- a call that changes something: a record is kept first -/
theorem pa_op {σ : Sg} {f : Nat → Int32} {m : Nat} {R : Nat → Nat → Int32} {hs : Int32} {sn : Nat → Int32} {n : Nat} {T : Nat → Int32} (h : PI σ f m R hs sn n T) {C : Option (Nat ⊕ (Int32 × Sg))} {g : Nat → Int32} {y : Int32} (hg : OKf g) (hC : ∀ σk, f_X4_keepRecord σ = some σk → RC σk f (kp m) (kR m R f) hs sn → FR 1 σk f → ∃ σ1, C = some (.inr (y, σ1)) ∧ FR 1 σ1 g ∧ ∀ a, a < 1 ∨ 28 ≤ a → σ1 a = σk a) : ∃ σ1, C = some (.inr (y, σ1)) ∧ PI σ1 g (kp m) (kR m R f) hs sn n T := by
  obtain ⟨hc, ok, ht⟩ := h
  obtain ⟨σk, k1, k2, k3⟩ := hc.keep ok
  have ok2 := ok.keep hc.2.1
  obtain ⟨σ1, c1, c2, c3⟩ := hC σk k1 k2 k2.1
  have s1 : ∀ a, 191 ≤ a → σ1 a = σ a := fun a ha => by rw [c3 a (by omega), k3 a (by omega)]
  have o2 : OKA g (kp m) (kR m R f) hs sn := ⟨hg, ok2.2⟩
  exact ⟨σ1, c1, k2.op ok2 c2 (c3 0 (by omega)) (fun a h1 h2 => c3 a (by omega)), o2, ht.at (by rw [s1 191 (by omega)]) (s1 192 (by omega))⟩
section PIX
variable {σ : Sg} {f : Nat → Int32} {m : Nat} {R : Nat → Nat → Int32} {hs : Int32} {sn : Nat → Int32} {n : Nat} {T : Nat → Int32}
theorem p_build {a1 a2 a3 rf : Int32} (h : PI σ f m R hs sn n T) (h1 : vp_in a1 12) (h2 : vp_in a2 5) (h3 : pr9 a3) (hrf : vp_in rf 2) (h4 : s_whyB f a1 rf = 0) : ∃ σ1, f_X4_build σ a1 a2 a3 rf = some (.inr (nI (nS f), σ1)) ∧ PI σ1 (s_pays f a1 a2 a3 rf) (kp m) (kR m R f) hs sn n T := by
  obtain ⟨hc, ok, ht⟩ := id h
  have hw := ok.1.1
  have h6 := ok.1.2.2.2.2.2
  obtain ⟨q1, q2⟩ := s_whyB_0 h6 h4
  refine pa_op h (W_pays ok.1 q1 q2 h1 h2 (pr9_vp h3).1 (pr9_vp h3).2) (fun σk e1 _ e2 => ?_)
  obtain ⟨σ1, x1, x2, x3⟩ := c_pays (p := a1) (kd := a2) (pr := a3) e2 (fun _ _ => rfl) hw (by omega) hrf
  refine ⟨σ1, ?_, x2, x3⟩
  unfold f_X4_build
  rw [c_pitch1 h1, bt_inr, c_kind1 h2, bt_inr, c_price1 h3, bt_inr, c_canB hc.1 hw h6, b1_some, if_pos h4, if_neg (by decide), e1, b1_some, x1, b2_some]
theorem n_build1 {a1 a2 a3 rf : Int32} (h1 : ¬ vp_in a1 12) : f_X4_build σ a1 a2 a3 rf = some (.inl 1) := by
  unfold f_X4_build
  rw [c_pitch0 h1, bt_inl]
theorem n_build2 {a1 a2 a3 rf : Int32} (h1 : vp_in a1 12) (h2 : ¬ vp_in a2 5) : f_X4_build σ a1 a2 a3 rf = some (.inl 1) := by
  unfold f_X4_build
  rw [c_pitch1 h1, bt_inr, c_kind0 h2, bt_inl]
theorem n_build3 {a1 a2 a3 rf : Int32} (h1 : vp_in a1 12) (h2 : vp_in a2 5) (h3 : ¬ pr9 a3) : f_X4_build σ a1 a2 a3 rf = some (.inl 2) := by
  unfold f_X4_build
  rw [c_pitch1 h1, bt_inr, c_kind1 h2, bt_inr, c_price0 h3, bt_inl]
theorem n_build4 {a1 a2 a3 rf : Int32} (h : PI σ f m R hs sn n T) (h1 : vp_in a1 12) (h2 : vp_in a2 5) (h3 : pr9 a3) (h4 : ¬ s_whyB f a1 rf = 0) : f_X4_build σ a1 a2 a3 rf = some (.inl 3) := by
  obtain ⟨hc, ok, ht⟩ := id h
  unfold f_X4_build
  rw [c_pitch1 h1, bt_inr, c_kind1 h2, bt_inr, c_price1 h3, bt_inr, c_canB hc.1 ok.1.1 ok.1.2.2.2.2.2, b1_some, if_neg h4, if_pos rfl]
theorem p_down {s : Nat} (h : PI σ f m R hs sn n T) (h1 : s < nS f) : ∃ σ1, f_X4_pullDown σ (nI s) = some (.inr (f (24 + 23 * s + 4), σ1)) ∧ PI σ1 (s_down f s) (kp m) (kR m R f) hs sn n T := by
  obtain ⟨hc, ok, ht⟩ := id h
  have hw := ok.1.1
  have h7 := hw.s7
  refine pa_op h (W_down ok.1 h1) (fun σk e1 _ e2 => ?_)
  obtain ⟨σ1, σ2, x1, x2, x3, x4⟩ := c_down e2 (fun _ _ => rfl) hw h1
  refine ⟨σ2, ?_, x3, x4⟩
  unfold f_X4_pullDown
  rw [c_need1 hc.1 hw.ns (vp_in_nI h1 (by omega)), bt_inr, e1, b1_some, x1, b2_some, x2, b1_some]
theorem n_down {a1 : Int32} (h : PI σ f m R hs sn n T) (h1 : ¬ vp_in a1 (nS f)) : f_X4_pullDown σ a1 = some (.inl 1) := by
  unfold f_X4_pullDown
  rw [c_need0 h.1.1 h.2.1.1.1.ns h1, bt_inl]
theorem p_setP {s : Nat} {a2 : Int32} (h : PI σ f m R hs sn n T) (h1 : s < nS f) (h2 : pr9 a2) : ∃ σ1, f_X4_setPrice σ (nI s) a2 = some (.inr (f (24 + 23 * s + 2), σ1)) ∧ PI σ1 (upd f (24 + 23 * s + 2) a2) (kp m) (kR m R f) hs sn n T := by
  obtain ⟨hc, ok, ht⟩ := id h
  have hw := ok.1.1
  have h7 := hw.s7
  refine pa_op h (W_setP ok.1 h1 (pr9_vp h2).1 (pr9_vp h2).2) (fun σk e1 _ e2 => ?_)
  have x2 := (gr_of e2).s2 (s := s) (v := a2) (by omega)
  refine ⟨_, ?_, x2.1, x2.2.2⟩
  unfold f_X4_setPrice
  rw [c_num1 hc.1 hw.ns h1, bt_inr, sg_ok (sk_cell (Or.inl rfl) (by omega)), c_price1 h2, bt_inr, e1, b1_some, st_eq, e2.s2 h1 h7]
theorem n_setP1 {a1 a2 : Int32} (h : PI σ f m R hs sn n T) (h1 : ¬ vp_in a1 (nS f)) : f_X4_setPrice σ a1 a2 = some (.inl 1) := by
  unfold f_X4_setPrice
  rw [c_num0 h.1.1 h.2.1.1.1.ns h1, bt_inl]
theorem n_setP2 {s : Nat} {a2 : Int32} (h : PI σ f m R hs sn n T) (h1 : s < nS f) (h2 : ¬ pr9 a2) : f_X4_setPrice σ (nI s) a2 = some (.inl 2) := by
  have h7 := h.2.1.1.1.s7
  unfold f_X4_setPrice
  rw [c_num1 h.1.1 h.2.1.1.1.ns h1, bt_inr, sg_ok (sk_cell (Or.inl rfl) (by omega)), c_price0 h2, bt_inl]
theorem p_turn {s : Nat} (h : PI σ f m R hs sn n T) (h1 : s < nS f) : ∃ σ1, f_X4_turnStall σ (nI s) = some (.inr (1 - f (24 + 23 * s + 6), σ1)) ∧ PI σ1 (upd f (24 + 23 * s + 6) (1 - f (24 + 23 * s + 6))) (kp m) (kR m R f) hs sn n T := by
  obtain ⟨hc, ok, ht⟩ := id h
  have hw := ok.1.1
  have h7 := hw.s7
  have ho := (hw.st s h1).opn
  obtain ⟨o, ho2, eo⟩ := vp_ex ho (by omega)
  have e01 : o = 0 ∨ o = 1 := by omega
  refine pa_op h (W_turn ok.1 h1) (fun σk e1 _ e2 => ?_)
  have x2 := (gr_of e2).s6 (s := s) (v := 1 - f (24 + 23 * s + 6)) (by omega)
  refine ⟨_, ?_, x2.1, x2.2.2⟩
  unfold f_X4_turnStall
  rw [c_num1 hc.1 hw.ns h1, bt_inr, sg_ok (sk_cell (Or.inl rfl) (by omega)), e1, b1_some, e2.s6 h1 h7, eo]
  rcases e01 with rfl | rfl
  · rw [if_pos (show nI 0 = 0 from rfl), st_eq, u2_rs, gd_in (vp_lit (by decide))]
    rfl
  · rw [if_neg (show ¬ nI 1 = 0 by decide), st_eq, u2_rs, gd_in (vp_lit (by decide))]
    rfl
theorem n_turn {a1 : Int32} (h : PI σ f m R hs sn n T) (h1 : ¬ vp_in a1 (nS f)) : f_X4_turnStall σ a1 = some (.inl 1) := by
  unfold f_X4_turnStall
  rw [c_num0 h.1.1 h.2.1.1.1.ns h1, bt_inl]
theorem p_stock {s l j : Nat} {a4 : Int32} (h : PI σ f m R hs sn n T) (h1 : s < nS f) (hl : l < 4) (hj : j < 4) (h4 : up1 40 a4) (h5 : s_whyS f s l a4 = 0) : ∃ σ1, f_X4_restock σ (nI s) (nI l) (nI j) a4 = some (.inr (f (24 + 23 * s + 4) - a4 * s_cost (nI l), σ1)) ∧ PI σ1 (s_stocks f s l j a4) (kp m) (kR m R f) hs sn n T := by
  obtain ⟨hc, ok, ht⟩ := id h
  have hw := ok.1.1
  have h7 := hw.s7
  have t1 : ¬ a4 < 1 := by rw [tI_lt, show (1 : Int32).toInt = 1 from by decide]; unfold up1 at h4; omega
  have t2 : a4 ≤ 40 := by rw [tI_le, show (40 : Int32).toInt = 40 from by decide]; exact h4.2
  obtain ⟨q1, q2⟩ := s_whyS_0 h5
  refine pa_op h (W_stocks ok.1 h1 hl hj h4 q1 q2) (fun σk e1 _ e2 => ?_)
  obtain ⟨σ1, x1, x2⟩ := c_stocks (q := a4) (gr_of e2) h7 h1 hl hj
  refine ⟨σ1, ?_, x2.1, x2.2.2⟩
  have ep : s_stocks f s l j a4 (24 + 23 * s + 4) = f (24 + 23 * s + 4) - a4 * s_cost (nI l) := by
    unfold s_stocks
    rw [upd_n (by omega), upd_n (by omega), upd_s]
  have n8 : nS (s_stocks f s l j a4) = nS f := by
    unfold s_stocks
    rw [nS_upd (by omega), nS_upd (by omega), nS_upd (by omega)]
  unfold f_X4_restock
  rw [c_num1 hc.1 hw.ns h1, bt_inr, sg_ok (sk_cell (Or.inl rfl) (by omega)), c_level1 (vp_in_nI hl (by omega)), bt_inr, c_colour1 (vp_in_nI hj (by omega)), bt_inr, if_neg t1, if_pos t2, c_canS hc.1 hw h1, b1_some, if_pos h5, if_neg (by decide), e1, b1_some, x1, b1_some, x2.1.s4 (by omega) (by omega), ep]
theorem n_stock1 {a1 a2 a3 a4 : Int32} (h : PI σ f m R hs sn n T) (h1 : ¬ vp_in a1 (nS f)) : f_X4_restock σ a1 a2 a3 a4 = some (.inl 1) := by
  unfold f_X4_restock
  rw [c_num0 h.1.1 h.2.1.1.1.ns h1, bt_inl]
theorem n_stock2 {s : Nat} {a2 a3 a4 : Int32} (h : PI σ f m R hs sn n T) (h1 : s < nS f) (h2 : ¬ vp_in a2 4) : f_X4_restock σ (nI s) a2 a3 a4 = some (.inl 1) := by
  have h7 := h.2.1.1.1.s7
  unfold f_X4_restock
  rw [c_num1 h.1.1 h.2.1.1.1.ns h1, bt_inr, sg_ok (sk_cell (Or.inl rfl) (by omega)), c_level0 h2, bt_inl]
theorem n_stock3 {s : Nat} {a2 a3 a4 : Int32} (h : PI σ f m R hs sn n T) (h1 : s < nS f) (h2 : vp_in a2 4) (h3 : ¬ vp_in a3 4) : f_X4_restock σ (nI s) a2 a3 a4 = some (.inl 1) := by
  have h7 := h.2.1.1.1.s7
  unfold f_X4_restock
  rw [c_num1 h.1.1 h.2.1.1.1.ns h1, bt_inr, sg_ok (sk_cell (Or.inl rfl) (by omega)), c_level1 h2, bt_inr, c_colour0 h3, bt_inl]
theorem n_stock4 {s : Nat} {a2 a3 a4 : Int32} (h : PI σ f m R hs sn n T) (h1 : s < nS f) (h2 : vp_in a2 4) (h3 : vp_in a3 4) (h4 : ¬ up1 40 a4) : f_X4_restock σ (nI s) a2 a3 a4 = some (.inl 2) := by
  have h7 := h.2.1.1.1.s7
  unfold f_X4_restock
  rw [c_num1 h.1.1 h.2.1.1.1.ns h1, bt_inr, sg_ok (sk_cell (Or.inl rfl) (by omega)), c_level1 h2, bt_inr, c_colour1 h3, bt_inr]
  by_cases t1 : a4 < 1
  · rw [if_pos t1]
  · rw [if_neg t1, if_neg]
    intro t2
    rw [tI_le, show (40 : Int32).toInt = 40 from by decide] at t2
    rw [tI_lt, show (1 : Int32).toInt = 1 from by decide] at t1
    exact h4 ⟨by omega, t2⟩
theorem n_stock5 {s l : Nat} {a3 a4 : Int32} (h : PI σ f m R hs sn n T) (h1 : s < nS f) (h2 : l < 4) (h3 : vp_in a3 4) (h4 : up1 40 a4) (h5 : ¬ s_whyS f s l a4 = 0) : f_X4_restock σ (nI s) (nI l) a3 a4 = some (.inl 3) := by
  have h7 := h.2.1.1.1.s7
  have t1 : ¬ a4 < 1 := by rw [tI_lt, show (1 : Int32).toInt = 1 from by decide]; unfold up1 at h4; omega
  have t2 : a4 ≤ 40 := by rw [tI_le, show (40 : Int32).toInt = 40 from by decide]; exact h4.2
  unfold f_X4_restock
  rw [c_num1 h.1.1 h.2.1.1.1.ns h1, bt_inr, sg_ok (sk_cell (Or.inl rfl) (by omega)), c_level1 (vp_in_nI h2 (by omega)), bt_inr, c_colour1 h3, bt_inr, if_neg t1, if_pos t2, c_canS h.1.1 h.2.1.1.1 h1, b1_some, if_neg h5, if_pos rfl]
theorem p_fund {s : Nat} {a2 : Int32} (h : PI σ f m R hs sn n T) (h1 : s < nS f) (h4 : up1 99 a2) (h5 : a2 ≤ f 0) : ∃ σ1, f_X4_fund σ (nI s) a2 = some (.inr (f (24 + 23 * s + 4) + a2, σ1)) ∧ PI σ1 (s_funds f s a2) (kp m) (kR m R f) hs sn n T := by
  obtain ⟨hc, ok, ht⟩ := id h
  have hw := ok.1.1
  have h7 := hw.s7
  have t1 : ¬ a2 < 1 := by rw [tI_lt, show (1 : Int32).toInt = 1 from by decide]; unfold up1 at h4; omega
  have t2 : a2 ≤ 99 := by rw [tI_le, show (99 : Int32).toInt = 99 from by decide]; exact h4.2
  refine pa_op h (W_funds ok.1 h1 (up_vp h4) h5) (fun σk e1 _ e2 => ?_)
  obtain ⟨σ1, x1, x2⟩ := c_funds (p := a2) (gr_of e2) h7 h1
  refine ⟨σ1, ?_, x2.1, x2.2.2⟩
  have ep : s_funds f s a2 (24 + 23 * s + 4) = f (24 + 23 * s + 4) + a2 := by
    unfold s_funds
    rw [upd_s]
  have n8 : nS (s_funds f s a2) = nS f := by
    unfold s_funds
    rw [nS_upd (by omega), nS_upd (by omega)]
  unfold f_X4_fund
  rw [c_num1 hc.1 hw.ns h1, bt_inr, sg_ok (sk_cell (Or.inl rfl) (by omega)), if_neg t1, if_pos t2, c_canF hc.1 hw h1, b1_some, if_pos h5, if_neg (by decide), e1, b1_some, x1, b1_some, x2.1.s4 (by omega) (by omega), ep]
theorem n_fund1 {a1 a2 : Int32} (h : PI σ f m R hs sn n T) (h1 : ¬ vp_in a1 (nS f)) : f_X4_fund σ a1 a2 = some (.inl 1) := by
  unfold f_X4_fund
  rw [c_num0 h.1.1 h.2.1.1.1.ns h1, bt_inl]
theorem n_fund2 {s : Nat} {a2 : Int32} (h : PI σ f m R hs sn n T) (h1 : s < nS f) (h4 : ¬ up1 99 a2) : f_X4_fund σ (nI s) a2 = some (.inl 2) := by
  have h7 := h.2.1.1.1.s7
  unfold f_X4_fund
  rw [c_num1 h.1.1 h.2.1.1.1.ns h1, bt_inr, sg_ok (sk_cell (Or.inl rfl) (by omega))]
  by_cases t1 : a2 < 1
  · rw [if_pos t1]
  · rw [if_neg t1, if_neg]
    intro t2
    rw [tI_le, show (99 : Int32).toInt = 99 from by decide] at t2
    rw [tI_lt, show (1 : Int32).toInt = 1 from by decide] at t1
    exact h4 ⟨by omega, t2⟩
theorem n_fund3 {s : Nat} {a2 : Int32} (h : PI σ f m R hs sn n T) (h1 : s < nS f) (h4 : up1 99 a2) (h5 : ¬ a2 ≤ f 0) : f_X4_fund σ (nI s) a2 = some (.inl 3) := by
  have h7 := h.2.1.1.1.s7
  have t1 : ¬ a2 < 1 := by rw [tI_lt, show (1 : Int32).toInt = 1 from by decide]; unfold up1 at h4; omega
  have t2 : a2 ≤ 99 := by rw [tI_le, show (99 : Int32).toInt = 99 from by decide]; exact h4.2
  unfold f_X4_fund
  rw [c_num1 h.1.1 h.2.1.1.1.ns h1, bt_inr, sg_ok (sk_cell (Or.inl rfl) (by omega)), if_neg t1, if_pos t2, c_canF h.1.1 h.2.1.1.1 h1, b1_some, if_neg h5, if_pos rfl]
theorem p_coll {s : Nat} (h : PI σ f m R hs sn n T) (h1 : s < nS f) : ∃ σ1, f_X4_collect σ (nI s) = some (.inr (f (24 + 23 * s + 4), σ1)) ∧ PI σ1 (s_coll f s) (kp m) (kR m R f) hs sn n T := by
  obtain ⟨hc, ok, ht⟩ := id h
  have hw := ok.1.1
  have h7 := hw.s7
  refine pa_op h (W_coll ok.1 h1) (fun σk e1 _ e2 => ?_)
  obtain ⟨σ1, x1, x2⟩ := c_empty (gr_of e2) h7 h1
  refine ⟨σ1, ?_, x2.1, x2.2.2⟩
  unfold f_X4_collect
  rw [c_need1 hc.1 hw.ns (vp_in_nI h1 (by omega)), bt_inr, e1, b1_some, x1, b2_some]
theorem n_coll {a1 : Int32} (h : PI σ f m R hs sn n T) (h1 : ¬ vp_in a1 (nS f)) : f_X4_collect σ a1 = some (.inl 1) := by
  unfold f_X4_collect
  rw [c_need0 h.1.1 h.2.1.1.1.ns h1, bt_inl]
theorem p_come {a1 a2 a3 : Int32} (h : PI σ f m R hs sn n T) (h1 : vp_in a1 100) (h2 : vp_in a2 5) (h3 : vp_in a3 4) (h5 : ¬ s_room f = 0) : ∃ σ1, f_X4_come σ a1 a2 a3 = some (.inr (nI (nC f), σ1)) ∧ PI σ1 (s_comes f a1 a2 a3) (kp m) (kR m R f) hs sn n T := by
  obtain ⟨hc, ok, ht⟩ := id h
  have hw := ok.1.1
  have t2 : a1 ≤ 99 := le_vp (n := 100) (by decide) h1
  have hk := room_lt hw h5
  refine pa_op h (W_come ok.1 hk h1 h2 h3) (fun σk e1 _ e2 => ?_)
  obtain ⟨σ1, x1, x2⟩ := c_add (p := a1) (kd := a2) (cl := a3) (gr_of e2) hw hk
  refine ⟨σ1, ?_, x2.1, x2.2.2⟩
  unfold f_X4_come
  rw [c_kind1 h2, bt_inr, c_colour1 h3, bt_inr, if_neg (lo_neg h1), if_pos t2, c_room hc.1 hw.nc, b1_some, if_neg h5, e1, b1_some, x1, b2_some]
theorem n_come1 {a1 a2 a3 : Int32} (h2 : ¬ vp_in a2 5) : f_X4_come σ a1 a2 a3 = some (.inl 1) := by
  unfold f_X4_come
  rw [c_kind0 h2, bt_inl]
theorem n_come2 {a1 a2 a3 : Int32} (h2 : vp_in a2 5) (h3 : ¬ vp_in a3 4) : f_X4_come σ a1 a2 a3 = some (.inl 1) := by
  unfold f_X4_come
  rw [c_kind1 h2, bt_inr, c_colour0 h3, bt_inl]
theorem n_come3 {a1 a2 a3 : Int32} (h1 : ¬ vp_in a1 100) (h2 : vp_in a2 5) (h3 : vp_in a3 4) : f_X4_come σ a1 a2 a3 = some (.inl 2) := by
  unfold f_X4_come
  rw [c_kind1 h2, bt_inr, c_colour1 h3, bt_inr]
  by_cases t1 : a1 < 0
  · rw [if_pos t1]
  · rw [if_neg t1, if_neg (nle_vp (n := 100) (by decide) h1 t1)]
theorem n_come4 {a1 a2 a3 : Int32} (h : PI σ f m R hs sn n T) (h1 : vp_in a1 100) (h2 : vp_in a2 5) (h3 : vp_in a3 4) (h5 : s_room f = 0) : f_X4_come σ a1 a2 a3 = some (.inl 3) := by
  have t2 : a1 ≤ 99 := le_vp (n := 100) (by decide) h1
  unfold f_X4_come
  rw [c_kind1 h2, bt_inr, c_colour1 h3, bt_inr, if_neg (lo_neg h1), if_pos t2, c_room h.1.1 h.2.1.1.1.nc, b1_some, if_pos h5]
theorem p_setR {s : Nat} {a2 : Int32} (h : PI σ f m R hs sn n T) (h1 : s < 10) (h2 : vp_in a2 10) : ∃ σ1, f_X4_setRain σ (nI s) a2 = some (.inr (f (14 + s), σ1)) ∧ PI σ1 (upd f (14 + s) a2) (kp m) (kR m R f) hs sn n T := by
  obtain ⟨hc, ok, ht⟩ := id h
  refine pa_op h (W_rains ok.1 h1 h2) (fun σk e1 _ e2 => ?_)
  have x2 := (gr_of e2).rain (i := s) (v := a2) h1
  refine ⟨_, ?_, x2.1, x2.2.2⟩
  unfold f_X4_setRain
  rw [c_hour1 (vp_in_nI h1 (by omega)), bt_inr, if_neg (lo_neg h2), if_pos (le_vp (n := 10) (by decide) h2), e1, b1_some, gd_ok rfl h1 (by omega), cl_nI (by omega), st_eq, e2.rain h1]
theorem n_setR1 {a1 a2 : Int32} (h1 : ¬ vp_in a1 10) : f_X4_setRain σ a1 a2 = some (.inl 1) := by
  unfold f_X4_setRain
  rw [c_hour0 h1, bt_inl]
theorem n_setR2 {a1 a2 : Int32} (h1 : vp_in a1 10) (h2 : ¬ vp_in a2 10) : f_X4_setRain σ a1 a2 = some (.inl 2) := by
  unfold f_X4_setRain
  rw [c_hour1 h1, bt_inr]
  by_cases t1 : a2 < 0
  · rw [if_pos t1]
  · rw [if_neg t1, if_neg (nle_vp (n := 10) (by decide) h2 t1)]
theorem p_pass {k : Nat} (b : Nat → Int32) (h : PI σ f m R hs sn n T) (h1 : 1 ≤ k) (h2 : k ≤ 40) (h5 : tm f + k < 400000) : ∃ (j : Nat) (σ1 : Sg), j ≤ 200 * k ∧ (s_pass k f b).1 5 = f 5 + nI j ∧ f_X4_pass σ (nI k) = some (.inr (nI j, σ1)) ∧ PI σ1 (s_pass k f b).1 (kp m) (kR m R f) hs sn n T := by
  obtain ⟨hc, ok, ht⟩ := id h
  have hw := ok.1.1
  have hr7 := ok.1.2.2.1
  have t1 : ¬ nI k < 1 := by
    rw [show (1 : Int32) = nI 1 from rfl, nI_ltI (by omega) (by omega)]
    omega
  have t2 : nI k ≤ 40 := by
    rw [show (40 : Int32) = nI 40 from rfl, nI_leI (by omega) (by omega)]
    omega
  obtain ⟨w1, j, hj, ej⟩ := W_passes (n := k) (b := b) ok.1 h2 h5
  obtain ⟨σ1, c1, c2⟩ := pa_op h (C := f_X4_pass σ (nI k)) (y := nI j) w1 (fun σk e1 _ e2 => by
    obtain ⟨σ1, x1, x2, x3⟩ := C_pass (b := b) (Or.inl rfl) e2 ok.1 h2 (by omega)
    refine ⟨σ1, ?_, x2, x3⟩
    unfold f_X4_pass
    rw [if_neg t1, if_pos t2, c_canP hc.1 hw hr7 h2, b1_some, if_pos h5, if_neg (by decide), e1, b1_some, x1, b1_some, x2.r5, e2.r5, ej, sub_nI])
  exact ⟨j, σ1, hj, ej, c1, c2⟩
theorem n_pass1 {a1 : Int32} (h1 : ¬ up1 40 a1) : f_X4_pass σ a1 = some (.inl 2) := by
  unfold f_X4_pass
  by_cases t1 : a1 < 1
  · rw [if_pos t1]
  · rw [if_neg t1, if_neg]
    intro t2
    rw [tI_le, show (40 : Int32).toInt = 40 from by decide] at t2
    rw [tI_lt, show (1 : Int32).toInt = 1 from by decide] at t1
    exact h1 ⟨by omega, t2⟩
theorem n_pass2 {k : Nat} (h : PI σ f m R hs sn n T) (h1 : 1 ≤ k) (h2 : k ≤ 40) (h5 : ¬ tm f + k < 400000) : f_X4_pass σ (nI k) = some (.inl 3) := by
  obtain ⟨hc, ok, ht⟩ := id h
  have t1 : ¬ nI k < 1 := by
    rw [show (1 : Int32) = nI 1 from rfl, nI_ltI (by omega) (by omega)]
    omega
  have t2 : nI k ≤ 40 := by
    rw [show (40 : Int32) = nI 40 from rfl, nI_leI (by omega) (by omega)]
    omega
  unfold f_X4_pass
  rw [if_neg t1, if_pos t2, c_canP hc.1 ok.1.1 ok.1.2.2.1 h2, b1_some, if_neg h5, if_pos rfl]
end PIX

/-! an order done by the second side -/
def MD (τ : Sg) (k : Nat) (F : Int32 × Int32 × Int32 × Int32 × Int32) : Prop := (s_can (τ 194) F = 0 ∧ f_X5_isDone τ (nI k) = some (0, τ)) ∨ (¬ s_can (τ 194) F = 0 ∧ f_X5_isDone τ (nI k) = some (1, w49 τ (s_do (τ 194) (τ 199) F).1 (s_do (τ 194) (τ 199) F).2))
theorem w4_w49 {τ : Sg} {g : Nat → Int32} : w4 τ g = w49 τ g (τ 199) := w49_w
theorem m_done {τ : Sg} {k : Nat} {F : Int32 × Int32 × Int32 × Int32 × Int32} (hk : k ≤ 40) (ok : OKf (τ 194)) (hv : VF F) (hF : FM (τ 201) k F) : MD τ k F := by
  have hw := ok.1
  have h7 := hw.s7
  have h6 := ok.2.2.2.2.2
  obtain ⟨L, f1, f2, f3, f4⟩ := F
  obtain ⟨g0, g1, g2, g3, g4⟩ := hF
  have z0 : (5 : Int32) * nI k = nI (5 * k) := pk_mul 5 k
  have z1 : nI (5 * k) + 1 = nI (5 * k + 1) := nI_1 _
  have z2 : nI (5 * k) + 2 = nI (5 * k + 2) := nI_add _ 2
  have z3 : nI (5 * k) + 3 = nI (5 * k + 3) := nI_add _ 3
  have z4 : nI (5 * k) + 4 = nI (5 * k + 4) := nI_add _ 4
  have n10 : ¬ (1 : Int32) = 0 := by decide
  have n30 : ¬ (3 : Int32) = 0 := by decide
  unfold MD f_X5_isDone
  rw [z0, z1, z2, z3, z4, gd_ok rfl (show 5 * k + 1 < 205 by omega) (by omega), gd_ok rfl (show 5 * k + 2 < 205 by omega) (by omega), gd_ok rfl (show 5 * k + 3 < 205 by omega) (by omega), gd_ok rfl (show 5 * k + 4 < 205 by omega) (by omega), gd_ok rfl (show 5 * k < 205 by omega) (by omega), cl_nI (show 5 * k + 1 < 100000 by omega), cl_nI (show 5 * k + 2 < 100000 by omega), cl_nI (show 5 * k + 3 < 100000 by omega), cl_nI (show 5 * k + 4 < 100000 by omega), cl_nI (show 5 * k < 100000 by omega), g0, g1]
  rcases hv with ⟨e, v1, v2, v3, v4⟩ | ⟨e, v1, v2, v3, v4⟩ | ⟨e, v1, v2⟩ | ⟨e, v1, v2, v3⟩ | ⟨e, v1, v2⟩ | ⟨e, v1⟩
  · dsimp only at e v1 v2 v3 v4 g0 g1 g2 g3 g4 ⊢
    subst e
    rw [g2 (by decide), g3 (Or.inl rfl), g4 (Or.inl rfl)]
    have e1 : s_can (τ 194) (98, f1, f2, f3, f4) = if s_whyB (τ 194) f1 f4 = 0 then 1 else 0 := by
      unfold s_can
      dsimp only
      rw [if_pos rfl]
    have e2 : s_do (τ 194) (τ 199) (98, f1, f2, f3, f4) = (s_pays (τ 194) f1 f2 f3 f4, τ 199) := by
      unfold s_do
      dsimp only
      rw [if_pos rfl]
    rw [e1, e2, if_pos rfl]
    have key : ∀ rf, s_whyB (τ 194) f1 rf = 0 → (b2 (f_X5_paysBuilding τ f1 f2 f3 rf) fun y12 σ14 => if y12 < 0 then (some (0, σ14)) else (some (1, σ14))) = some ((1 : Int32), w49 τ (s_pays (τ 194) f1 f2 f3 rf) (τ 199)) := by
      intro rf q
      obtain ⟨q1, q2⟩ := s_whyB_0 h6 q
      rw [m_pays (by rw [ns_eq hw.ns (by omega)]; exact vp_in_nI (by omega) (by omega)), b2_some, if_neg (nI_nlt0 (by omega)), w4_w49]
    obtain ⟨j, hj, ej⟩ := vp_ex v4 (by omega)
    have : j = 0 ∨ j = 1 := by omega
    rcases this with rfl | rfl
    · have e4 : f4 = 0 := ej
      rw [e4, if_neg (show ¬ (0 : Int32) = 1 by decide), m_whyB hw v1 v2 v3, b1_some]
      by_cases q : s_whyB (τ 194) f1 0 = 0
      · right
        rw [if_pos q, if_pos q, if_neg (show ¬ (0 : Int32) = 1 by decide)]
        exact ⟨by decide, key 0 q⟩
      · left
        rw [if_neg q, if_neg q]
        exact ⟨rfl, rfl⟩
    · have e4 : f4 = 1 := ej
      rw [e4, if_pos rfl, m_whyB hw v1 v2 v3, b1_some]
      by_cases q : s_whyB (τ 194) f1 1 = 0
      · right
        rw [if_pos q, if_pos q, if_pos rfl]
        exact ⟨by decide, key 1 q⟩
      · left
        rw [if_neg q, if_neg q]
        exact ⟨rfl, rfl⟩
  · dsimp only at e v1 v2 v3 v4 g0 g1 g2 g3 g4 ⊢
    subst e
    have n1 : ¬ (114 : Int32) = 98 := by decide
    rw [g2 (by decide), g3 (Or.inr (Or.inl rfl)), g4 (Or.inr rfl)]
    have e1 : s_can (τ 194) (114, f1, f2, f3, f4) = if f1 < τ 194 8 then (if s_whyS (τ 194) f1.toNatClampNeg f2.toNatClampNeg f4 = 0 then 1 else 0) else 0 := by
      unfold s_can
      dsimp only
      rw [if_neg n1, if_pos rfl]
    have e2 : s_do (τ 194) (τ 199) (114, f1, f2, f3, f4) = (s_stocks (τ 194) f1.toNatClampNeg f2.toNatClampNeg f3.toNatClampNeg f4, τ 199) := by
      unfold s_do
      dsimp only
      rw [if_neg n1, if_pos rfl]
    rw [e1, e2, if_neg n1, if_neg (show ¬ (114 : Int32) = 99 by decide), if_neg (show ¬ (114 : Int32) = 102 by decide), if_pos rfl]
    obtain ⟨l, hl, rfl⟩ := vp_s v2 (by omega)
    obtain ⟨j, hj, rfl⟩ := vp_s v3 (by omega)
    by_cases p : f1 < τ 194 8
    · obtain ⟨s, hs, rfl⟩ := vp_s ((lt_vp hw.ns v1).mp p) (by omega)
      rw [if_pos p, cl_nI (show s < 100000 by omega), cl_nI (show l < 100000 by omega), cl_nI (show j < 100000 by omega), m_whyS hw hs hl hj v4, b1_some]
      by_cases q : s_whyS (τ 194) s l f4 = 0
      · right
        obtain ⟨q1, q2⟩ := s_whyS_0 q
        have hc := @s_cost_in (nI l)
        have v4' := id v4
        unfold up1 at v4'
        obtain ⟨m1, m2, m3⟩ := tI_mul (x := f4) (y := s_cost (nI l)) (n := 40) (m := 10) (by omega) (by omega) (by omega)
        have hB := ok.2.1.bounds hw
        have lS : (τ 194 (24 + 23 * s + 4)).toInt ≤ sm (pS (τ 194)) (nS (τ 194)) := sm_le (g := pS (τ 194)) hs ok.2.1.2.2.2.1
        have s0 : 0 ≤ (τ 194 (24 + 23 * s + 4)).toInt := ok.2.1.2.2.2.1 s hs
        rw [tI_le] at q2
        rw [if_pos q, if_pos q, m_stocks (by omega) hl hj, b2_some, if_neg (nneg (by rw [tI_sub (by omega) (by omega)]; omega)), w4_w49]
        exact ⟨by decide, rfl⟩
      · left
        rw [if_neg q, if_neg q]
        exact ⟨rfl, rfl⟩
    · left
      rw [if_neg p]
      unfold f_X5_whyNotStocked
      rw [m_stall0 hw.ns (fun z => p ((lt_vp hw.ns v1).mpr z)), b1_some, if_pos rfl, b1_some, if_neg n10]
      exact ⟨rfl, rfl⟩
  · dsimp only at e v1 v2 g0 g1 g2 g3 g4 ⊢
    subst e
    have n1 : ¬ (102 : Int32) = 98 := by decide
    have n2 : ¬ (102 : Int32) = 114 := by decide
    rw [g2 (by decide)]
    have e1 : s_can (τ 194) (102, f1, f2, f3, f4) = if f1 < τ 194 8 then (if f2 ≤ τ 194 0 then 1 else 0) else 0 := by
      unfold s_can
      dsimp only
      rw [if_neg n1, if_neg n2, if_pos rfl]
    have e2 : s_do (τ 194) (τ 199) (102, f1, f2, f3, f4) = (s_funds (τ 194) f1.toNatClampNeg f2, τ 199) := by
      unfold s_do
      dsimp only
      rw [if_neg n1, if_neg n2, if_pos rfl]
    rw [e1, e2, if_neg n1, if_neg (show ¬ (102 : Int32) = 99 by decide), if_pos rfl]
    by_cases p : f1 < τ 194 8
    · obtain ⟨s, hs, rfl⟩ := vp_s ((lt_vp hw.ns v1).mp p) (by omega)
      rw [if_pos p, cl_nI (show s < 100000 by omega), m_whyF hw hs v2, b1_some]
      by_cases q : f2 ≤ τ 194 0
      · right
        have v2' := id v2
        unfold up1 at v2'
        have hB := ok.2.1.bounds hw
        have lS : (τ 194 (24 + 23 * s + 4)).toInt ≤ sm (pS (τ 194)) (nS (τ 194)) := sm_le (g := pS (τ 194)) hs ok.2.1.2.2.2.1
        have s0 : 0 ≤ (τ 194 (24 + 23 * s + 4)).toInt := ok.2.1.2.2.2.1 s hs
        rw [if_pos q, if_pos q, if_pos rfl, m_funds (by omega), b2_some, if_neg (nneg (by rw [tI_add (by omega) (by omega)]; omega)), w4_w49]
        exact ⟨by decide, rfl⟩
      · left
        rw [if_neg q, if_neg q, if_neg n30]
        exact ⟨rfl, rfl⟩
    · left
      rw [if_neg p]
      unfold f_X5_whyNotFunded
      rw [m_stall0 hw.ns (fun z => p ((lt_vp hw.ns v1).mpr z)), b1_some, if_pos rfl, b1_some, if_neg n10]
      exact ⟨rfl, rfl⟩
  · dsimp only at e v1 v2 v3 g0 g1 g2 g3 g4 ⊢
    subst e
    have n1 : ¬ (99 : Int32) = 98 := by decide
    have n2 : ¬ (99 : Int32) = 114 := by decide
    have n3 : ¬ (99 : Int32) = 102 := by decide
    rw [g2 (by decide), g3 (Or.inr (Or.inr rfl))]
    have e1 : s_can (τ 194) (99, f1, f2, f3, f4) = if s_room (τ 194) = 0 then 0 else 1 := by
      unfold s_can
      dsimp only
      rw [if_neg n1, if_neg n2, if_neg n3, if_pos rfl]
    have e2 : s_do (τ 194) (τ 199) (99, f1, f2, f3, f4) = (s_comes (τ 194) f1 f2 f3, τ 199) := by
      unfold s_do
      dsimp only
      rw [if_neg n1, if_neg n2, if_neg n3, if_pos rfl]
    rw [e1, e2, if_neg n1, if_pos rfl, m_whyC hw v1 v2 v3, b1_some]
    by_cases q : s_room (τ 194) = 0
    · left
      rw [if_pos q, if_pos q, if_neg n30]
      exact ⟨rfl, rfl⟩
    · right
      have hl := room_lt hw q
      rw [if_neg q, if_neg q, if_pos rfl, m_comes hl hw.nc, b2_some, if_neg (nI_nlt0 (by omega)), w4_w49]
      exact ⟨by decide, rfl⟩
  · dsimp only at e v1 v2 g0 g1 g2 g3 g4 ⊢
    subst e
    have n1 : ¬ (119 : Int32) = 98 := by decide
    have n2 : ¬ (119 : Int32) = 114 := by decide
    have n3 : ¬ (119 : Int32) = 102 := by decide
    have n4 : ¬ (119 : Int32) = 99 := by decide
    rw [g2 (by decide)]
    have e1 : s_can (τ 194) (119, f1, f2, f3, f4) = 1 := by
      unfold s_can
      dsimp only
      rw [if_neg n1, if_neg n2, if_neg n3, if_neg n4, if_pos rfl]
    have e2 : s_do (τ 194) (τ 199) (119, f1, f2, f3, f4) = (upd (τ 194) (14 + f1.toNatClampNeg) f2, τ 199) := by
      unfold s_do
      dsimp only
      rw [if_neg n1, if_neg n2, if_neg n3, if_neg n4, if_pos rfl]
    obtain ⟨s, hs, rfl⟩ := vp_s v1 (by omega)
    right
    rw [e1, e2, if_neg n1, if_neg n4, if_neg n3, if_neg n2, if_pos rfl, cl_nI (show s < 100000 by omega), m_rains hs, b2_some, if_neg (lo_neg (hw.rain s hs)), w4_w49]
    exact ⟨by decide, rfl⟩
  · dsimp only at e v1 g0 g1 g2 g3 g4 ⊢
    subst e
    have n1 : ¬ (112 : Int32) = 98 := by decide
    have n2 : ¬ (112 : Int32) = 114 := by decide
    have n3 : ¬ (112 : Int32) = 102 := by decide
    have n4 : ¬ (112 : Int32) = 99 := by decide
    have n5 : ¬ (112 : Int32) = 119 := by decide
    have e1 : s_can (τ 194) (112, f1, f2, f3, f4) = if tm (τ 194) + f1.toNatClampNeg < 400000 then 1 else 0 := by
      unfold s_can
      dsimp only
      rw [if_neg n1, if_neg n2, if_neg n3, if_neg n4, if_neg n5]
    have e2 : s_do (τ 194) (τ 199) (112, f1, f2, f3, f4) = s_pass f1.toNatClampNeg (τ 194) (τ 199) := by
      unfold s_do
      dsimp only
      rw [if_neg n1, if_neg n2, if_neg n3, if_neg n4, if_neg n5]
    obtain ⟨n, m1, m2, rfl⟩ := up_ex (k := 40) v1 (by omega)
    rw [e1, e2, if_neg n1, if_neg n4, if_neg n3, if_neg n2, if_neg n5, cl_nI (show n < 100000 by omega), m_canP hw ok.2.2.1 m2, b1_some]
    by_cases q : tm (τ 194) + n < 400000
    · right
      obtain ⟨-, j, hj, ej⟩ := W_passes (b := τ 199) ok m2 q
      rw [if_pos q, if_neg n10, M_pass ok m2 (by omega), b2_some, ej, sub_nI, if_neg (nI_nlt0 (by omega))]
      exact ⟨by decide, rfl⟩
    · left
      rw [if_neg q, if_pos rfl]
      exact ⟨rfl, rfl⟩

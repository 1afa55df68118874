/-! the orders of a text carried out -/
def VF (F : Int32 × Int32 × Int32 × Int32 × Int32) : Prop := (F.1 = 98 ∧ vp_in F.2.1 12 ∧ vp_in F.2.2.1 5 ∧ pr9 F.2.2.2.1 ∧ vp_in F.2.2.2.2 2) ∨ (F.1 = 114 ∧ vp_in F.2.1 6 ∧ vp_in F.2.2.1 4 ∧ vp_in F.2.2.2.1 4 ∧ up1 40 F.2.2.2.2) ∨ (F.1 = 102 ∧ vp_in F.2.1 6 ∧ up1 99 F.2.2.1) ∨ (F.1 = 99 ∧ vp_in F.2.1 100 ∧ vp_in F.2.2.1 5 ∧ vp_in F.2.2.2.1 4) ∨ (F.1 = 119 ∧ vp_in F.2.1 10 ∧ vp_in F.2.2.1 10) ∨ (F.1 = 112 ∧ up1 40 F.2.1)
theorem s_num_v {tx : Nat → Int32} {n i : Nat} {lo hi : Int32} (hc : ∀ i, i < n → vp_in (tx i) 65536) (hlo : 0 ≤ lo.toInt) (h : (s_num tx n i lo hi).1 ≠ -1) : lo.toInt ≤ (s_num tx n i lo hi).1.toInt ∧ (s_num tx n i lo hi).1.toInt ≤ hi.toInt := by
  unfold s_num at h ⊢
  by_cases q1 : s_dig tx n i < lo ∨ hi < s_dig tx n i
  · rw [if_pos q1] at h
    exact absurd rfl h
  · have b1 : ¬ s_dig tx n i < lo := fun z => q1 (Or.inl z)
    have b2 : ¬ hi < s_dig tx n i := fun z => q1 (Or.inr z)
    obtain ⟨j, hj, hjn, ej⟩ := dig_v hlo hc b1
    rw [tI_lt] at b1 b2
    rw [if_neg q1]
    by_cases q2 : s_dig tx n i ≤ 0 ∨ s_dig tx n (i + 1) = -1 ∨ hi < s_dig tx n i * 10 + s_dig tx n (i + 1)
    · rw [if_pos q2]
      exact ⟨by dsimp only; omega, by dsimp only; omega⟩
    · rw [if_neg q2]
      have c2 : ¬ s_dig tx n (i + 1) = -1 := fun z => q2 (Or.inr (Or.inl z))
      have c3 : ¬ hi < s_dig tx n i * 10 + s_dig tx n (i + 1) := fun z => q2 (Or.inr (Or.inr z))
      rcases s_dig_c (tx := tx) (n := n) (i := i + 1) (hc _) with z | ⟨e, he, hen, ee⟩
      · exact absurd z c2
      · have ev : s_dig tx n i * 10 + s_dig tx n (i + 1) = nI (j * 10 + e) := by rw [ej, ee, show (10 : Int32) = nI 10 from rfl, pk_mul, nI_add]
        rw [tI_lt] at c3
        have e1 : (s_dig tx n i).toInt = (j : Int) := by rw [ej]; exact nI_toInt (by omega)
        have e2 : (s_dig tx n i * 10 + s_dig tx n (i + 1)).toInt = ((j * 10 + e : Nat) : Int) := by rw [ev]; exact nI_toInt (by omega)
        exact ⟨by dsimp only; omega, by dsimp only; omega⟩
theorem num_vp {tx : Nat → Int32} {n i N : Nat} {hi : Int32} (hc : ∀ i, i < n → vp_in (tx i) 65536) (hN : hi.toInt = (N : Int) - 1) (h : (s_num tx n i 0 hi).1 ≠ -1) : vp_in (s_num tx n i 0 hi).1 N := by
  have := s_num_v hc (by decide) h
  rw [show (0 : Int32).toInt = 0 from by decide] at this
  exact vp_tI this.1 (by omega)
theorem num_up {tx : Nat → Int32} {n i : Nat} {hi : Int32} {N : Int} (hc : ∀ i, i < n → vp_in (tx i) 65536) (hN : hi.toInt = N) (h : (s_num tx n i 1 hi).1 ≠ -1) : 1 ≤ (s_num tx n i 1 hi).1.toInt ∧ (s_num tx n i 1 hi).1.toInt ≤ N := by
  have := s_num_v hc (by decide) h
  rw [show (1 : Int32).toInt = 1 from by decide] at this
  exact ⟨this.1, by omega⟩
theorem let_vp {tx : Nat → Int32} {n i : Nat} (h : (s_let tx n i).1 ≠ -1) : vp_in (s_let tx n i).1 5 := by
  unfold s_let at h ⊢
  by_cases q : i < n
  · rw [if_pos q] at h ⊢
    by_cases p1 : tx i = 104
    · rw [if_pos p1]; exact vp_in_nI (n := 0) (by omega) (by omega)
    rw [if_neg p1] at h ⊢
    by_cases p2 : tx i = 100
    · rw [if_pos p2]; exact vp_in_nI (n := 1) (by omega) (by omega)
    rw [if_neg p2] at h ⊢
    by_cases p3 : tx i = 99
    · rw [if_pos p3]; exact vp_in_nI (n := 2) (by omega) (by omega)
    rw [if_neg p3] at h ⊢
    by_cases p4 : tx i = 108
    · rw [if_pos p4]; exact vp_in_nI (n := 3) (by omega) (by omega)
    rw [if_neg p4] at h ⊢
    by_cases p5 : tx i = 116
    · rw [if_pos p5]; exact vp_in_nI (n := 4) (by omega) (by omega)
    rw [if_neg p5] at h
    exact absurd rfl h
  · rw [if_neg q] at h
    exact absurd rfl h
theorem thn_ok {a : Int32 × Nat} {k : Int32 → Nat → Nat × Int32 × Int32 × Int32 × Int32 × Int32} (h : (thn a k).2.1 ≠ -1) : a.1 ≠ -1 ∧ thn a k = k a.1 a.2 := by
  unfold thn at h ⊢
  by_cases q : a.1 = -1
  · rw [if_pos q] at h
    exact absurd rfl h
  · rw [if_neg q]
    exact ⟨q, rfl⟩
theorem ths_ok {a : Int32 × Nat} {k : Nat → Nat × Int32 × Int32 × Int32 × Int32 × Int32} (h : (ths a k).2.1 ≠ -1) : ths a k = k a.2 := by
  unfold ths at h ⊢
  by_cases q : a.1 = 0
  · rw [if_pos q] at h
    exact absurd rfl h
  · rw [if_neg q]
theorem s_ord_vf {tx : Nat → Int32} {n i : Nat} (hc : ∀ i, i < n → vp_in (tx i) 65536) (h : (s_ord tx n i).2.1 ≠ -1) : VF (s_ord tx n i).2 := by
  unfold s_ord at h ⊢
  by_cases q : i < n
  · rw [if_pos q] at h ⊢
    by_cases q1 : tx i = 98
    · rw [if_pos q1] at h ⊢
      unfold s_ordB at h ⊢
      obtain ⟨a1, b1⟩ := thn_ok h
      rw [b1] at h ⊢
      obtain ⟨a2, b2⟩ := thn_ok h
      rw [b2] at h ⊢
      obtain ⟨a3, b3⟩ := thn_ok h
      rw [b3]
      exact Or.inl ⟨rfl, num_vp hc (by decide) a1, let_vp a2, num_up hc (by decide) a3, s_sgn_in⟩
    rw [if_neg q1] at h ⊢
    by_cases q2 : tx i = 114
    · rw [if_pos q2] at h ⊢
      unfold s_ordR at h ⊢
      obtain ⟨a1, b1⟩ := thn_ok h
      rw [b1] at h ⊢
      have b2 := ths_ok h
      rw [b2] at h ⊢
      obtain ⟨a3, b3⟩ := thn_ok h
      rw [b3] at h ⊢
      obtain ⟨a4, b4⟩ := thn_ok h
      rw [b4] at h ⊢
      have b5 := ths_ok h
      rw [b5] at h ⊢
      obtain ⟨a6, b6⟩ := thn_ok h
      rw [b6]
      exact Or.inr (Or.inl ⟨rfl, num_vp hc (by decide) a1, num_vp hc (by decide) a3, num_vp hc (by decide) a4, num_up hc (by decide) a6⟩)
    rw [if_neg q2] at h ⊢
    by_cases q3 : tx i = 102
    · rw [if_pos q3] at h ⊢
      unfold s_ordF at h ⊢
      obtain ⟨a1, b1⟩ := thn_ok h
      rw [b1] at h ⊢
      have b2 := ths_ok h
      rw [b2] at h ⊢
      obtain ⟨a3, b3⟩ := thn_ok h
      rw [b3]
      exact Or.inr (Or.inr (Or.inl ⟨rfl, num_vp hc (by decide) a1, num_up hc (by decide) a3⟩))
    rw [if_neg q3] at h ⊢
    by_cases q4 : tx i = 99
    · rw [if_pos q4] at h ⊢
      unfold s_ordC at h ⊢
      obtain ⟨a1, b1⟩ := thn_ok h
      rw [b1] at h ⊢
      obtain ⟨a2, b2⟩ := thn_ok h
      rw [b2] at h ⊢
      obtain ⟨a3, b3⟩ := thn_ok h
      rw [b3]
      exact Or.inr (Or.inr (Or.inr (Or.inl ⟨rfl, num_vp hc (by decide) a1, let_vp a2, num_vp hc (by decide) a3⟩)))
    rw [if_neg q4] at h ⊢
    by_cases q5 : tx i = 119
    · rw [if_pos q5] at h ⊢
      unfold s_ordW at h ⊢
      obtain ⟨a1, b1⟩ := thn_ok h
      rw [b1] at h ⊢
      have b2 := ths_ok h
      rw [b2] at h ⊢
      obtain ⟨a3, b3⟩ := thn_ok h
      rw [b3]
      exact Or.inr (Or.inr (Or.inr (Or.inr (Or.inl ⟨rfl, num_vp hc (by decide) a1, num_vp hc (by decide) a3⟩))))
    rw [if_neg q5] at h ⊢
    by_cases q6 : tx i = 112
    · rw [if_pos q6] at h ⊢
      unfold s_ordP at h ⊢
      obtain ⟨a1, b1⟩ := thn_ok h
      rw [b1]
      exact Or.inr (Or.inr (Or.inr (Or.inr (Or.inr ⟨rfl, num_up hc (by decide) a1⟩))))
    rw [if_neg q6] at h
    exact absurd rfl h
  · rw [if_neg q] at h
    exact absurd rfl h
def VFs : List (Int32 × Int32 × Int32 × Int32 × Int32) → Prop
  | [] => True
  | F :: l => VF F ∧ VFs l
theorem s_all_vf {tx : Nat → Int32} {n : Nat} (hc : ∀ i, i < n → vp_in (tx i) 65536) : ∀ m i, VFs (s_all tx n m i).2.2 := by
  intro m
  induction m with
  | zero => intro i; exact trivial
  | succ m ih =>
    intro i
    rw [s_all]
    by_cases q : (s_ord tx n i).2.1 = -1
    · rw [if_pos q]; exact trivial
    · rw [if_neg q]
      by_cases p : (s_sgn tx n (s_ord tx n i).1 59).1 = 0
      · rw [if_pos p]
        exact ⟨s_ord_vf hc q, trivial⟩
      · rw [if_neg p]
        exact ⟨s_ord_vf hc q, ih _⟩
/-! what an order does -/
def s_can (f : Nat → Int32) (F : Int32 × Int32 × Int32 × Int32 × Int32) : Int32 :=
  if F.1 = 98 then (if s_whyB f F.2.1 F.2.2.2.2 = 0 then 1 else 0)
  else if F.1 = 114 then (if F.2.1 < f 8 then (if s_whyS f F.2.1.toNatClampNeg F.2.2.1.toNatClampNeg F.2.2.2.2 = 0 then 1 else 0) else 0)
  else if F.1 = 102 then (if F.2.1 < f 8 then (if F.2.2.1 ≤ f 0 then 1 else 0) else 0)
  else if F.1 = 99 then (if s_room f = 0 then 0 else 1)
  else if F.1 = 119 then 1
  else (if tm f + F.2.1.toNatClampNeg < 400000 then 1 else 0)
def s_do (f b : Nat → Int32) (F : Int32 × Int32 × Int32 × Int32 × Int32) : (Nat → Int32) × (Nat → Int32) :=
  if F.1 = 98 then (s_pays f F.2.1 F.2.2.1 F.2.2.2.1 F.2.2.2.2, b)
  else if F.1 = 114 then (s_stocks f F.2.1.toNatClampNeg F.2.2.1.toNatClampNeg F.2.2.2.1.toNatClampNeg F.2.2.2.2, b)
  else if F.1 = 102 then (s_funds f F.2.1.toNatClampNeg F.2.2.1, b)
  else if F.1 = 99 then (s_comes f F.2.1 F.2.2.1 F.2.2.2.1, b)
  else if F.1 = 119 then (upd f (14 + F.2.1.toNatClampNeg) F.2.2.1, b)
  else s_pass F.2.1.toNatClampNeg f b
theorem lt_vp {f : Nat → Int32} {p : Int32} (h8 : vp_in (f 8) 8) (h : vp_in p 6) : p < f 8 ↔ vp_in p (nS f) := by
  have h' := vp_in_iff.mp h
  rw [tI_lt, ns_i h8, vp_in_iff]
  omega
theorem nneg {y : Int32} (h : 0 ≤ y.toInt) : ¬ y < 0 := by
  rw [tI_lt, show (0 : Int32).toInt = 0 from by decide]
  omega
theorem gd_01 {α : Type} {b : Prop} {d : Decidable b} {k : Option α} : gd (if b then 1 else 0) 2 k = k := by
  split
  · exact gd_in (vp_lit (by decide))
  · exact gd_in (vp_lit (by decide))
/-- the first side: on the fair at 28 -/
def CD (σ : Sg) (f b : Nat → Int32) (F : Int32 × Int32 × Int32 × Int32 × Int32) : Prop := (s_can f F = 0 ∧ f_X1_obey 28 σ = some (0, σ)) ∨ (¬ s_can f F = 0 ∧ OKf (s_do f b F).1 ∧ ∃ σ', f_X1_obey 28 σ = some (1, σ') ∧ FR 28 σ' (s_do f b F).1 ∧ ∀ a, a < 28 ∨ 55 ≤ a → σ' a = σ a)
theorem c_obey {σ : Sg} {f : Nat → Int32} {F : Int32 × Int32 × Int32 × Int32 × Int32} (b : Nat → Int32) (hR : FR 28 σ f) (ok : OKf f) (hv : VF F) (hF : FC (σ 191) F) : CD σ f b F := by
  have hw := ok.1
  have h7 := hw.s7
  have h6 := ok.2.2.2.2.2
  obtain ⟨L, f1, f2, f3, f4⟩ := F
  obtain ⟨g4, gB, gR, gF, gC, gW, gP⟩ := hF
  rcases hv with ⟨e, v1, v2, v3, v4⟩ | ⟨e, v1, v2, v3, v4⟩ | ⟨e, v1, v2⟩ | ⟨e, v1, v2, v3⟩ | ⟨e, v1, v2⟩ | ⟨e, v1⟩
  · dsimp only at e v1 v2 v3 v4 g4 gB
    subst e
    obtain ⟨g5, g6, g9, g10⟩ := gB rfl
    have e1 : s_can f (98, f1, f2, f3, f4) = if s_whyB f f1 f4 = 0 then 1 else 0 := by
      unfold s_can
      dsimp only
      rw [if_pos rfl]
    have e2 : s_do f b (98, f1, f2, f3, f4) = (s_pays f f1 f2 f3 f4, b) := by
      unfold s_do
      dsimp only
      rw [if_pos rfl]
    unfold CD
    rw [e1, e2]
    unfold f_X1_obey f_X1_canObey
    rw [g4, g5, g6, g9, g10, if_pos rfl, if_pos rfl, c_canB hR hw h6, b1_some, gd_01, b1_some]
    by_cases q : s_whyB f f1 f4 = 0
    · right
      obtain ⟨q1, q2⟩ := s_whyB_0 h6 q
      obtain ⟨σ', x1, x2, x3⟩ := c_pays (p := f1) (kd := f2) (pr := f3) hR (fun _ _ => rfl) hw (by omega) v4
      rw [if_pos q, if_neg (show ¬ (1 : Int32) = 0 by decide), x1, b2_some]
      exact ⟨by decide, W_pays ok q1 q2 v1 v2 (pr9_vp v3).1 (pr9_vp v3).2, σ', rfl, x2, x3⟩
    · left
      rw [if_neg q, if_pos rfl]
      exact ⟨rfl, rfl⟩
  · dsimp only at e v1 v2 v3 v4 g4 gR
    subst e
    obtain ⟨g5, g7, g8, g9⟩ := gR rfl
    have n1 : ¬ (114 : Int32) = 98 := by decide
    have e1 : s_can f (114, f1, f2, f3, f4) = if f1 < f 8 then (if s_whyS f f1.toNatClampNeg f2.toNatClampNeg f4 = 0 then 1 else 0) else 0 := by
      unfold s_can
      dsimp only
      rw [if_neg n1, if_pos rfl]
    have e2 : s_do f b (114, f1, f2, f3, f4) = (s_stocks f f1.toNatClampNeg f2.toNatClampNeg f3.toNatClampNeg f4, b) := by
      unfold s_do
      dsimp only
      rw [if_neg n1, if_pos rfl]
    unfold CD
    rw [e1, e2]
    obtain ⟨l, hl, rfl⟩ := vp_s v2 (by omega)
    obtain ⟨j, hj, rfl⟩ := vp_s v3 (by omega)
    unfold f_X1_obey f_X1_canObey
    rw [g4, g5, g7, g8, g9, if_neg n1, if_neg n1, if_pos rfl, if_pos rfl, cl_nI (by omega), cl_nI (by omega)]
    by_cases p : f1 < f 8
    · obtain ⟨s, hs, rfl⟩ := vp_s ((lt_vp hw.ns v1).mp p) (by omega)
      rw [if_pos p, cl_nI (by omega), c_canS hR hw hs, b1_some, gd_01, b1_some]
      by_cases q : s_whyS f s l f4 = 0
      · right
        obtain ⟨q1, q2⟩ := s_whyS_0 q
        obtain ⟨σ', x1, x2⟩ := c_stocks (q := f4) (gr_of hR) h7 hs hl hj
        rw [if_pos q, if_neg (show ¬ (1 : Int32) = 0 by decide), x1, b1_some]
        exact ⟨by decide, W_stocks ok hs hl hj v4 q1 q2, σ', rfl, x2.1, x2.2.2⟩
      · left
        rw [if_neg q, if_pos rfl]
        exact ⟨rfl, rfl⟩
    · left
      rw [if_neg p]
      unfold f_X1_canRestock
      rw [c_has0 hR hw.ns (fun z => p ((lt_vp hw.ns v1).mpr z)), b1_some, if_pos rfl, b1_some, gd_in (vp_lit (by decide)), b1_some, if_pos rfl]
      exact ⟨rfl, rfl⟩
  · dsimp only at e v1 v2 g4 gF
    subst e
    obtain ⟨g5, g9⟩ := gF rfl
    have n1 : ¬ (102 : Int32) = 98 := by decide
    have n2 : ¬ (102 : Int32) = 114 := by decide
    have e1 : s_can f (102, f1, f2, f3, f4) = if f1 < f 8 then (if f2 ≤ f 0 then 1 else 0) else 0 := by
      unfold s_can
      dsimp only
      rw [if_neg n1, if_neg n2, if_pos rfl]
    have e2 : s_do f b (102, f1, f2, f3, f4) = (s_funds f f1.toNatClampNeg f2, b) := by
      unfold s_do
      dsimp only
      rw [if_neg n1, if_neg n2, if_pos rfl]
    unfold CD
    rw [e1, e2]
    unfold f_X1_obey f_X1_canObey
    rw [g4, g5, g9, if_neg n1, if_neg n1, if_neg n2, if_neg n2, if_pos rfl, if_pos rfl]
    by_cases p : f1 < f 8
    · obtain ⟨s, hs, rfl⟩ := vp_s ((lt_vp hw.ns v1).mp p) (by omega)
      rw [if_pos p, cl_nI (by omega), c_canF hR hw hs, b1_some, gd_01, b1_some]
      by_cases q : f2 ≤ f 0
      · right
        obtain ⟨σ', x1, x2⟩ := c_funds (p := f2) (gr_of hR) h7 hs
        rw [if_pos q, if_neg (show ¬ (1 : Int32) = 0 by decide), x1, b1_some]
        exact ⟨by decide, W_funds ok hs (up_vp v2) q, σ', rfl, x2.1, x2.2.2⟩
      · left
        rw [if_neg q, if_pos rfl]
        exact ⟨rfl, rfl⟩
    · left
      rw [if_neg p]
      unfold f_X1_canFund
      rw [c_has0 hR hw.ns (fun z => p ((lt_vp hw.ns v1).mpr z)), b1_some, if_pos rfl, b1_some, gd_in (vp_lit (by decide)), b1_some, if_pos rfl]
      exact ⟨rfl, rfl⟩
  · dsimp only at e v1 v2 v3 g4 gC
    subst e
    obtain ⟨g9, g6, g8⟩ := gC rfl
    have n1 : ¬ (99 : Int32) = 98 := by decide
    have n2 : ¬ (99 : Int32) = 114 := by decide
    have n3 : ¬ (99 : Int32) = 102 := by decide
    have e1 : s_can f (99, f1, f2, f3, f4) = if s_room f = 0 then 0 else 1 := by
      unfold s_can
      dsimp only
      rw [if_neg n1, if_neg n2, if_neg n3, if_pos rfl]
    have e2 : s_do f b (99, f1, f2, f3, f4) = (s_comes f f1 f2 f3, b) := by
      unfold s_do
      dsimp only
      rw [if_neg n1, if_neg n2, if_neg n3, if_pos rfl]
    unfold CD
    rw [e1, e2]
    unfold f_X1_obey f_X1_canObey
    have er : s_room f = 0 ∨ s_room f = 1 := by
      unfold s_room
      repeat' split
      all_goals first
        | exact Or.inl rfl
        | exact Or.inr rfl
    rw [g4, g6, g8, g9, if_neg n1, if_neg n1, if_neg n2, if_neg n2, if_neg n3, if_neg n3, if_pos rfl, if_pos rfl, c_room hR hw.nc, b1_some]
    rcases er with q | q
    · left
      rw [q, if_pos rfl, gd_in (vp_lit (by decide)), b1_some, if_pos rfl]
      exact ⟨rfl, rfl⟩
    · right
      have hn : ¬ s_room f = 0 := by rw [q]; decide
      obtain ⟨σ', x1, x2⟩ := c_add (p := f1) (kd := f2) (cl := f3) (gr_of hR) hw (room_lt hw hn)
      rw [if_neg hn, q, gd_in (vp_lit (by decide)), b1_some, if_neg (show ¬ (1 : Int32) = 0 by decide), x1, b2_some]
      exact ⟨by decide, W_come ok (room_lt hw hn) v1 v2 v3, σ', rfl, x2.1, x2.2.2⟩
  · dsimp only at e v1 v2 g4 gW
    subst e
    obtain ⟨g5, g9⟩ := gW rfl
    have n1 : ¬ (119 : Int32) = 98 := by decide
    have n2 : ¬ (119 : Int32) = 114 := by decide
    have n3 : ¬ (119 : Int32) = 102 := by decide
    have n4 : ¬ (119 : Int32) = 99 := by decide
    have e1 : s_can f (119, f1, f2, f3, f4) = 1 := by
      unfold s_can
      dsimp only
      rw [if_neg n1, if_neg n2, if_neg n3, if_neg n4, if_pos rfl]
    have e2 : s_do f b (119, f1, f2, f3, f4) = (upd f (14 + f1.toNatClampNeg) f2, b) := by
      unfold s_do
      dsimp only
      rw [if_neg n1, if_neg n2, if_neg n3, if_neg n4, if_pos rfl]
    unfold CD
    rw [e1, e2]
    obtain ⟨s, hs, rfl⟩ := vp_s v1 (by omega)
    right
    have x2 := (gr_of hR).rain (i := s) (v := f2) hs
    unfold f_X1_obey f_X1_canObey
    rw [g4, g5, g9, if_neg n1, if_neg n1, if_neg n2, if_neg n2, if_neg n3, if_neg n3, if_neg n4, if_neg n4, if_pos rfl, if_pos rfl, if_neg (lo_neg v1), if_neg (show ¬ (10 : Int32) ≤ nI s from nI_ge (a := s) (b := 10) (by omega) (by omega)), b1_some, if_neg (show ¬ (1 : Int32) = 0 by decide), gd_ok rfl hs (by omega), cl_nI (by omega), st_eq]
    exact ⟨by decide, W_rains ok hs v2, _, rfl, x2.1, x2.2.2⟩
  · dsimp only at e v1 g4 gP
    subst e
    have g9 := gP rfl
    have n1 : ¬ (112 : Int32) = 98 := by decide
    have n2 : ¬ (112 : Int32) = 114 := by decide
    have n3 : ¬ (112 : Int32) = 102 := by decide
    have n4 : ¬ (112 : Int32) = 99 := by decide
    have n5 : ¬ (112 : Int32) = 119 := by decide
    have e1 : s_can f (112, f1, f2, f3, f4) = if tm f + f1.toNatClampNeg < 400000 then 1 else 0 := by
      unfold s_can
      dsimp only
      rw [if_neg n1, if_neg n2, if_neg n3, if_neg n4, if_neg n5]
    have e2 : s_do f b (112, f1, f2, f3, f4) = s_pass f1.toNatClampNeg f b := by
      unfold s_do
      dsimp only
      rw [if_neg n1, if_neg n2, if_neg n3, if_neg n4, if_neg n5]
    unfold CD
    rw [e1, e2]
    obtain ⟨n, m1, m2, rfl⟩ := up_ex (k := 40) v1 (by omega)
    unfold f_X1_obey f_X1_canObey
    rw [g4, g9, if_neg n1, if_neg n1, if_neg n2, if_neg n2, if_neg n3, if_neg n3, if_neg n4, if_neg n4, if_neg n5, if_neg n5, if_pos rfl, cl_nI (by omega), c_canP hR hw ok.2.2.1 m2, b1_some, gd_01, b1_some]
    by_cases q : tm f + n < 400000
    · right
      obtain ⟨σ', x1, x2, x3⟩ := C_pass (b := b) (Or.inr (Or.inl rfl)) hR ok m2 (by omega)
      rw [if_pos q, if_neg (show ¬ (1 : Int32) = 0 by decide), x1, b1_some]
      exact ⟨by decide, (W_passes ok m2 q).1, σ', rfl, x2, x3⟩
    · left
      rw [if_neg q, if_pos rfl]
      exact ⟨rfl, rfl⟩

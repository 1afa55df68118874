/-! an order read: where the reader stands then, and what it has read -/
theorem s_num_le {tx : Nat → Int32} {n i : Nat} {lo hi : Int32} (hlo : 0 ≤ lo.toInt) (h : i ≤ n) : i ≤ (s_num tx n i lo hi).2 ∧ (s_num tx n i lo hi).2 ≤ n ∧ ((s_num tx n i lo hi).1 ≠ -1 → i + 1 ≤ (s_num tx n i lo hi).2) := by
  have key : ∀ j, ¬ s_dig tx n j = -1 → j < n := by
    intro j q
    unfold s_dig at q
    by_cases z : j < n
    · exact z
    · rw [if_neg z] at q
      exact absurd rfl q
  unfold s_num
  by_cases q1 : s_dig tx n i < lo ∨ hi < s_dig tx n i
  · rw [if_pos q1]
    exact ⟨Nat.le_refl _, h, fun z => absurd rfl z⟩
  · have hd : ¬ s_dig tx n i = -1 := by
      intro z
      apply q1
      left
      rw [z, tI_lt, show (-1 : Int32).toInt = -1 from by decide]
      omega
    have := key i hd
    rw [if_neg q1]
    by_cases q2 : s_dig tx n i ≤ 0 ∨ s_dig tx n (i + 1) = -1 ∨ hi < s_dig tx n i * 10 + s_dig tx n (i + 1)
    · rw [if_pos q2]
      exact ⟨by dsimp only; omega, by dsimp only; omega, fun _ => Nat.le_refl _⟩
    · rw [if_neg q2]
      have := key (i + 1) (fun z => q2 (Or.inr (Or.inl z)))
      exact ⟨by dsimp only; omega, by dsimp only; omega, fun _ => by dsimp only; omega⟩
theorem s_let_le {tx : Nat → Int32} {n i : Nat} (h : i ≤ n) : i ≤ (s_let tx n i).2 ∧ (s_let tx n i).2 ≤ n := by
  unfold s_let
  repeat' split
  all_goals first
    | exact ⟨Nat.le_refl _, h⟩
    | exact ⟨Nat.le_succ _, by assumption⟩
theorem s_sgn_le {tx : Nat → Int32} {n i : Nat} {c : Int32} (h : i ≤ n) : i ≤ (s_sgn tx n i c).2 ∧ (s_sgn tx n i c).2 ≤ n := by
  unfold s_sgn
  repeat' split
  all_goals first
    | exact ⟨Nat.le_refl _, h⟩
    | exact ⟨Nat.le_succ _, by assumption⟩
def s_fail (i : Nat) : Nat × Int32 × Int32 × Int32 × Int32 × Int32 := (i, -1, 0, 0, 0, 0)
def thn (a : Int32 × Nat) (k : Int32 → Nat → Nat × Int32 × Int32 × Int32 × Int32 × Int32) : Nat × Int32 × Int32 × Int32 × Int32 × Int32 := if a.1 = -1 then s_fail a.2 else k a.1 a.2
def ths (a : Int32 × Nat) (k : Nat → Nat × Int32 × Int32 × Int32 × Int32 × Int32) : Nat × Int32 × Int32 × Int32 × Int32 × Int32 := if a.1 = 0 then s_fail a.2 else k a.2
def s_ordB (tx : Nat → Int32) (n i : Nat) : Nat × Int32 × Int32 × Int32 × Int32 × Int32 := thn (s_num tx n i 0 11) fun v1 p1 => thn (s_let tx n p1) fun v2 p2 => thn (s_num tx n p2 1 9) fun v3 p3 => ((s_sgn tx n p3 94).2, 98, v1, v2, v3, (s_sgn tx n p3 94).1)
def s_ordR (tx : Nat → Int32) (n i : Nat) : Nat × Int32 × Int32 × Int32 × Int32 × Int32 := thn (s_num tx n i 0 5) fun v1 p1 => ths (s_sgn tx n p1 58) fun p2 => thn (s_num tx n p2 0 3) fun v2 p3 => thn (s_num tx n p3 0 3) fun v3 p4 => ths (s_sgn tx n p4 42) fun p5 => thn (s_num tx n p5 1 40) fun v4 p6 => (p6, 114, v1, v2, v3, v4)
def s_ordF (tx : Nat → Int32) (n i : Nat) : Nat × Int32 × Int32 × Int32 × Int32 × Int32 := thn (s_num tx n i 0 5) fun v1 p1 => ths (s_sgn tx n p1 43) fun p2 => thn (s_num tx n p2 1 99) fun v2 p3 => (p3, 102, v1, v2, 0, 0)
def s_ordC (tx : Nat → Int32) (n i : Nat) : Nat × Int32 × Int32 × Int32 × Int32 × Int32 := thn (s_num tx n i 0 99) fun v1 p1 => thn (s_let tx n p1) fun v2 p2 => thn (s_num tx n p2 0 3) fun v3 p3 => (p3, 99, v1, v2, v3, 0)
def s_ordW (tx : Nat → Int32) (n i : Nat) : Nat × Int32 × Int32 × Int32 × Int32 × Int32 := thn (s_num tx n i 0 9) fun v1 p1 => ths (s_sgn tx n p1 61) fun p2 => thn (s_num tx n p2 0 9) fun v2 p3 => (p3, 119, v1, v2, 0, 0)
def s_ordP (tx : Nat → Int32) (n i : Nat) : Nat × Int32 × Int32 × Int32 × Int32 × Int32 := thn (s_num tx n i 1 40) fun v1 p1 => (p1, 112, v1, 0, 0, 0)
def s_ord (tx : Nat → Int32) (n i : Nat) : Nat × Int32 × Int32 × Int32 × Int32 × Int32 :=
  if i < n then (if tx i = 98 then s_ordB tx n (i + 1) else if tx i = 114 then s_ordR tx n (i + 1) else if tx i = 102 then s_ordF tx n (i + 1) else if tx i = 99 then s_ordC tx n (i + 1) else if tx i = 119 then s_ordW tx n (i + 1) else if tx i = 112 then s_ordP tx n (i + 1) else s_fail i) else s_fail i
/-- the fields of the order that was read last, in the reader's object -/
def FC (G : Nat → Int32) (F : Int32 × Int32 × Int32 × Int32 × Int32) : Prop := G 4 = F.1 ∧ (F.1 = 98 → G 5 = F.2.1 ∧ G 6 = F.2.2.1 ∧ G 9 = F.2.2.2.1 ∧ G 10 = F.2.2.2.2) ∧ (F.1 = 114 → G 5 = F.2.1 ∧ G 7 = F.2.2.1 ∧ G 8 = F.2.2.2.1 ∧ G 9 = F.2.2.2.2) ∧ (F.1 = 102 → G 5 = F.2.1 ∧ G 9 = F.2.2.1) ∧ (F.1 = 99 → G 9 = F.2.1 ∧ G 6 = F.2.2.1 ∧ G 8 = F.2.2.2.1) ∧ (F.1 = 119 → G 5 = F.2.1 ∧ G 9 = F.2.2.1) ∧ (F.1 = 112 → G 9 = F.2.1)
def CO (r : Option (Int32 × Sg)) (σ : Sg) (g : Nat → Int32) (o : Nat × Int32 × Int32 × Int32 × Int32 × Int32) : Prop := ∃ G, r = some (fl1 o.2.1, wr σ 191 G) ∧ G 1 = g 1 ∧ G 3 = g 3 ∧ G 2 = nI o.1 ∧ (o.2.1 ≠ -1 → FC G o.2)
theorem cs_bind {r : Option (Int32 × Sg)} {σ : Sg} {g : Nat → Int32} {a : Int32 × Nat} {slot : Nat} {K : Sg → Option (Int32 × Sg)} {k : Int32 → Nat → Nat × Int32 × Int32 × Int32 × Int32 × Int32} (hs1 : slot ≠ 1) (hs3 : slot ≠ 3) (h : CS r σ g (fl1 a.1) a.2 slot a.1) (hk : ∀ G, G 2 = nI a.2 → G slot = a.1 → (∀ j, j ≠ 2 → j ≠ slot → G j = g j) → a.1 ≠ -1 → CO (K (wr σ 191 G)) σ G (k a.1 a.2)) : CO (b2 r fun y σ' => if y = 0 then (some (0, σ')) else K σ') σ g (thn a k) := by
  obtain ⟨G, e1, e2, e3, e4⟩ := h
  rw [e1, b2_some]
  unfold thn
  by_cases q : a.1 = -1
  · have ef : fl1 a.1 = 0 := if_pos q
    rw [if_pos q, ef, if_pos rfl]
    exact ⟨G, rfl, e4 1 (by omega) (fun z => hs1 z.symm), e4 3 (by omega) (fun z => hs3 z.symm), e2, fun z => absurd rfl z⟩
  · have ef : fl1 a.1 = 1 := if_neg q
    rw [if_neg q, ef, if_neg (by decide)]
    obtain ⟨H, h1, h2, h3, h4, h5⟩ := hk G e2 e3 e4 q
    exact ⟨H, h1, h2.trans (e4 1 (by omega) (fun z => hs1 z.symm)), h3.trans (e4 3 (by omega) (fun z => hs3 z.symm)), h4, h5⟩
theorem sg_bind {r : Option (Int32 × Sg)} {σ : Sg} {g : Nat → Int32} {a : Int32 × Nat} {K : Sg → Option (Int32 × Sg)} {k : Nat → Nat × Int32 × Int32 × Int32 × Int32 × Int32} (h : r = some (a.1, wr σ 191 (upd g 2 (nI a.2)))) (hk : ∀ G, G 2 = nI a.2 → (∀ j, j ≠ 2 → G j = g j) → CO (K (wr σ 191 G)) σ G (k a.2)) : CO (b2 r fun y σ' => if y = 0 then (some (0, σ')) else K σ') σ g (ths a k) := by
  rw [h, b2_some]
  unfold ths
  by_cases q : a.1 = 0
  · rw [if_pos q, if_pos q]
    exact ⟨_, rfl, upd_n (by omega), upd_n (by omega), upd_s, fun z => absurd rfl z⟩
  · rw [if_neg q, if_neg q]
    obtain ⟨H, h1, h2, h3, h4, h5⟩ := hk (upd g 2 (nI a.2)) upd_s (fun j hj => upd_n hj)
    exact ⟨H, h1, h2.trans (upd_n (by omega)), h3.trans (upd_n (by omega)), h4, h5⟩
theorem CO.of {r : Option (Int32 × Sg)} {σ : Sg} {g g' : Nat → Int32} {o : Nat × Int32 × Int32 × Int32 × Int32 × Int32} (h : CO r σ g o) (h1 : g 1 = g' 1) (h3 : g 3 = g' 3) : CO r σ g' o := by
  obtain ⟨G, e1, e2, e3, e4, e5⟩ := h
  exact ⟨G, e1, e2.trans h1, e3.trans h3, e4, e5⟩
theorem c_sg1 {σ : Sg} {g : Nat → Int32} {n i : Nat} {c : Int32} (h1 : g 1 = nI n) (h2 : g 2 = nI i) (hn : n ≤ 80) (hi : i < n) (h : σ 192 i = c) : f_X2_readSign (wr σ 191 g) c = some (1, wr σ 191 (upd g 2 (nI (i + 1)))) := by
  have e : s_sgn (σ 192) n i c = (1, i + 1) := by
    unfold s_sgn
    rw [if_pos hi, if_pos h]
  rw [c_sgn h1 h2 hn (by omega), e]
theorem c_sg0 {σ : Sg} {g : Nat → Int32} {n i : Nat} {c : Int32} (h1 : g 1 = nI n) (h2 : g 2 = nI i) (hn : n ≤ 80) (hi : i ≤ n) (h : ¬ (i < n ∧ σ 192 i = c)) : f_X2_readSign (wr σ 191 g) c = some (0, wr σ 191 g) := by
  have e : s_sgn (σ 192) n i c = (0, i) := by
    unfold s_sgn
    by_cases q : i < n
    · rw [if_pos q, if_neg (fun z => h ⟨q, z⟩)]
    · rw [if_neg q]
  rw [c_sgn h1 h2 hn hi, e]
  dsimp only
  rw [← h2, upd_self]
theorem c_ord {σ : Sg} {g : Nat → Int32} {n i : Nat} (h1 : g 1 = nI n) (h2 : g 2 = nI i) (hn : n ≤ 80) (hi : i ≤ n) (hc : ∀ i, i < n → vp_in (σ 192 i) 65536) : CO (f_X2_readOrder (wr σ 191 g)) σ g (s_ord (σ 192) n i) := by
  unfold f_X2_readOrder s_ord
  rw [wr_s, h1, h2]
  by_cases q : i < n
  · rw [if_pos ((nI_ltI (by omega) (by omega)).mpr q), if_pos q, gd_ok rfl (show i < 80 by omega) (by omega), cl_nI (by omega), w92, gd_in (hc i q), wr_u, st_eq]
    obtain ⟨g1, hg1⟩ : ∃ g1, g1 = upd g 4 (σ 192 i) := ⟨_, rfl⟩
    rw [← hg1]
    have k1 : g1 1 = nI n := by rw [hg1, upd_n (by omega)]; exact h1
    have k2 : g1 2 = nI i := by rw [hg1, upd_n (by omega)]; exact h2
    have k4 : g1 4 = σ 192 i := by rw [hg1, upd_s]
    have hg : ∀ (r : Option (Int32 × Sg)) (o : Nat × Int32 × Int32 × Int32 × Int32 × Int32), CO r σ (upd g1 2 (nI (i + 1))) o → CO r σ g o := fun r o h => h.of (by rw [upd_n (by omega), hg1, upd_n (by omega)]) (by rw [upd_n (by omega), hg1, upd_n (by omega)])
    have n1 : upd g1 2 (nI (i + 1)) 1 = nI n := by rw [upd_n (by omega)]; exact k1
    have n2 : upd g1 2 (nI (i + 1)) 2 = nI (i + 1) := upd_s
    have n4 : upd g1 2 (nI (i + 1)) 4 = σ 192 i := by rw [upd_n (by omega)]; exact k4
    obtain ⟨g2, hg2⟩ : ∃ g2, g2 = upd g1 2 (nI (i + 1)) := ⟨_, rfl⟩
    by_cases q1 : σ 192 i = 98
    · rw [c_sg1 k1 k2 hn q q1, b2_some, if_neg (show ¬ (1 : Int32) = 0 by decide), if_pos q1]
      apply hg
      rw [← hg2] at n1 n2 n4 ⊢
      have l1 := s_num_le (tx := σ 192) (n := n) (i := i + 1) (lo := 0) (hi := 11) (by decide) (by omega)
      refine cs_bind (by omega) (by omega) (c_place n1 n2 hn (by omega) hc) (fun G1 a2 a5 ao av => ?_)
      have G11 : G1 1 = nI n := (ao 1 (by omega) (by omega)).trans n1
      have l2 := s_let_le (tx := σ 192) (n := n) l1.2.1
      refine cs_bind (by omega) (by omega) (c_knd G11 a2 hn l1.2.1) (fun G2 b2' b6 bo bv => ?_)
      have G21 : G2 1 = nI n := (bo 1 (by omega) (by omega)).trans G11
      have l3 := s_num_le (tx := σ 192) (n := n) (lo := 1) (hi := 9) (by decide) l2.2
      refine cs_bind (by omega) (by omega) (c_cnt G21 b2' hn l2.2 hc (by decide)) (fun G3 c2 c9 co cv => ?_)
      have G31 : G3 1 = nI n := (co 1 (by omega) (by omega)).trans G21
      obtain ⟨G4, e1, e2, e10, eo⟩ := c_rf G31 c2 hn l3.2.1
      rw [e1, b2_some, if_neg (by decide)]
      refine ⟨G4, rfl, eo 1 (by omega) (by omega), eo 3 (by omega) (by omega), e2, fun _ => ⟨?_, fun _ => ⟨?_, ?_, ?_, e10⟩, fun z => absurd z (show ¬ (98 : Int32) = 114 by decide), fun z => absurd z (show ¬ (98 : Int32) = 102 by decide), fun z => absurd z (show ¬ (98 : Int32) = 99 by decide), fun z => absurd z (show ¬ (98 : Int32) = 119 by decide), fun z => absurd z (show ¬ (98 : Int32) = 112 by decide)⟩⟩
      · rw [eo 4 (by omega) (by omega), co 4 (by omega) (by omega), bo 4 (by omega) (by omega), ao 4 (by omega) (by omega), n4, q1]
      · rw [eo 5 (by omega) (by omega), co 5 (by omega) (by omega), bo 5 (by omega) (by omega), a5]
      · rw [eo 6 (by omega) (by omega), co 6 (by omega) (by omega), b6]
      · rw [eo 9 (by omega) (by omega), c9]
    rw [c_sg0 k1 k2 hn hi (fun z => q1 z.2), b2_some, if_pos rfl, if_neg q1]
    by_cases q2 : σ 192 i = 114
    · rw [c_sg1 k1 k2 hn q q2, b2_some, if_neg (show ¬ (1 : Int32) = 0 by decide), if_pos q2]
      apply hg
      rw [← hg2] at n1 n2 n4 ⊢
      have l1 := s_num_le (tx := σ 192) (n := n) (i := i + 1) (lo := 0) (hi := 5) (by decide) (by omega)
      refine cs_bind (by omega) (by omega) (c_place n1 n2 hn (by omega) hc) (fun G1 a2 a5 ao av => ?_)
      have G11 : G1 1 = nI n := (ao 1 (by omega) (by omega)).trans n1
      have l2 := s_sgn_le (tx := σ 192) (n := n) (c := 58) l1.2.1
      refine sg_bind (c_sgn G11 a2 hn l1.2.1) (fun G2 b2' bo => ?_)
      have G21 : G2 1 = nI n := (bo 1 (by omega)).trans G11
      have l3 := s_num_le (tx := σ 192) (n := n) (lo := 0) (hi := 3) (by decide) l2.2
      refine cs_bind (by omega) (by omega) (c_lvl G21 b2' hn l2.2 hc) (fun G3 c2 c7 co cv => ?_)
      have G31 : G3 1 = nI n := (co 1 (by omega) (by omega)).trans G21
      have l4 := s_num_le (tx := σ 192) (n := n) (lo := 0) (hi := 3) (by decide) l3.2.1
      refine cs_bind (by omega) (by omega) (c_clr G31 c2 hn l3.2.1 hc) (fun G4 d2 d8 dO dv => ?_)
      have G41 : G4 1 = nI n := (dO 1 (by omega) (by omega)).trans G31
      have l5 := s_sgn_le (tx := σ 192) (n := n) (c := 42) l4.2.1
      refine sg_bind (c_sgn G41 d2 hn l4.2.1) (fun G5 e2 eo => ?_)
      have G51 : G5 1 = nI n := (eo 1 (by omega)).trans G41
      refine cs_bind (by omega) (by omega) (c_cnt G51 e2 hn l5.2 hc (by decide)) (fun G6 f2 f9 fo fv => ?_)
      refine ⟨G6, rfl, rfl, rfl, f2, fun _ => ⟨?_, fun z => absurd z (show ¬ (114 : Int32) = 98 by decide), fun _ => ⟨?_, ?_, ?_, f9⟩, fun z => absurd z (show ¬ (114 : Int32) = 102 by decide), fun z => absurd z (show ¬ (114 : Int32) = 99 by decide), fun z => absurd z (show ¬ (114 : Int32) = 119 by decide), fun z => absurd z (show ¬ (114 : Int32) = 112 by decide)⟩⟩
      · rw [fo 4 (by omega) (by omega), eo 4 (by omega), dO 4 (by omega) (by omega), co 4 (by omega) (by omega), bo 4 (by omega), ao 4 (by omega) (by omega), n4, q2]
      · rw [fo 5 (by omega) (by omega), eo 5 (by omega), dO 5 (by omega) (by omega), co 5 (by omega) (by omega), bo 5 (by omega), a5]
      · rw [fo 7 (by omega) (by omega), eo 7 (by omega), dO 7 (by omega) (by omega), c7]
      · rw [fo 8 (by omega) (by omega), eo 8 (by omega), d8]
    rw [c_sg0 k1 k2 hn hi (fun z => q2 z.2), b2_some, if_pos rfl, if_neg q2]
    by_cases q3 : σ 192 i = 102
    · rw [c_sg1 k1 k2 hn q q3, b2_some, if_neg (show ¬ (1 : Int32) = 0 by decide), if_pos q3]
      apply hg
      rw [← hg2] at n1 n2 n4 ⊢
      have l1 := s_num_le (tx := σ 192) (n := n) (i := i + 1) (lo := 0) (hi := 5) (by decide) (by omega)
      refine cs_bind (by omega) (by omega) (c_place n1 n2 hn (by omega) hc) (fun G1 a2 a5 ao av => ?_)
      have G11 : G1 1 = nI n := (ao 1 (by omega) (by omega)).trans n1
      have l2 := s_sgn_le (tx := σ 192) (n := n) (c := 43) l1.2.1
      refine sg_bind (c_sgn G11 a2 hn l1.2.1) (fun G2 b2' bo => ?_)
      have G21 : G2 1 = nI n := (bo 1 (by omega)).trans G11
      refine cs_bind (by omega) (by omega) (c_cnt G21 b2' hn l2.2 hc (by decide)) (fun G3 c2 c9 co cv => ?_)
      refine ⟨G3, rfl, rfl, rfl, c2, fun _ => ⟨?_, fun z => absurd z (show ¬ (102 : Int32) = 98 by decide), fun z => absurd z (show ¬ (102 : Int32) = 114 by decide), fun _ => ⟨?_, c9⟩, fun z => absurd z (show ¬ (102 : Int32) = 99 by decide), fun z => absurd z (show ¬ (102 : Int32) = 119 by decide), fun z => absurd z (show ¬ (102 : Int32) = 112 by decide)⟩⟩
      · rw [co 4 (by omega) (by omega), bo 4 (by omega), ao 4 (by omega) (by omega), n4, q3]
      · rw [co 5 (by omega) (by omega), bo 5 (by omega), a5]
    rw [c_sg0 k1 k2 hn hi (fun z => q3 z.2), b2_some, if_pos rfl, if_neg q3]
    by_cases q4 : σ 192 i = 99
    · rw [c_sg1 k1 k2 hn q q4, b2_some, if_neg (show ¬ (1 : Int32) = 0 by decide), if_pos q4]
      apply hg
      rw [← hg2] at n1 n2 n4 ⊢
      have l1 := s_num_le (tx := σ 192) (n := n) (i := i + 1) (lo := 0) (hi := 99) (by decide) (by omega)
      refine cs_bind (by omega) (by omega) (c_cnt n1 n2 hn (by omega) hc (by decide)) (fun G1 a2 a9 ao av => ?_)
      have G11 : G1 1 = nI n := (ao 1 (by omega) (by omega)).trans n1
      have l2 := s_let_le (tx := σ 192) (n := n) l1.2.1
      refine cs_bind (by omega) (by omega) (c_knd G11 a2 hn l1.2.1) (fun G2 b2' b6 bo bv => ?_)
      have G21 : G2 1 = nI n := (bo 1 (by omega) (by omega)).trans G11
      refine cs_bind (by omega) (by omega) (c_clr G21 b2' hn l2.2 hc) (fun G3 c2 c8 co cv => ?_)
      refine ⟨G3, rfl, rfl, rfl, c2, fun _ => ⟨?_, fun z => absurd z (show ¬ (99 : Int32) = 98 by decide), fun z => absurd z (show ¬ (99 : Int32) = 114 by decide), fun z => absurd z (show ¬ (99 : Int32) = 102 by decide), fun _ => ⟨?_, ?_, c8⟩, fun z => absurd z (show ¬ (99 : Int32) = 119 by decide), fun z => absurd z (show ¬ (99 : Int32) = 112 by decide)⟩⟩
      · rw [co 4 (by omega) (by omega), bo 4 (by omega) (by omega), ao 4 (by omega) (by omega), n4, q4]
      · rw [co 9 (by omega) (by omega), bo 9 (by omega) (by omega), a9]
      · rw [co 6 (by omega) (by omega), b6]
    rw [c_sg0 k1 k2 hn hi (fun z => q4 z.2), b2_some, if_pos rfl, if_neg q4]
    by_cases q5 : σ 192 i = 119
    · rw [c_sg1 k1 k2 hn q q5, b2_some, if_neg (show ¬ (1 : Int32) = 0 by decide), if_pos q5]
      apply hg
      rw [← hg2] at n1 n2 n4 ⊢
      have l1 := s_num_le (tx := σ 192) (n := n) (i := i + 1) (lo := 0) (hi := 9) (by decide) (by omega)
      refine cs_bind (by omega) (by omega) (c_place n1 n2 hn (by omega) hc) (fun G1 a2 a5 ao av => ?_)
      have G11 : G1 1 = nI n := (ao 1 (by omega) (by omega)).trans n1
      have l2 := s_sgn_le (tx := σ 192) (n := n) (c := 61) l1.2.1
      refine sg_bind (c_sgn G11 a2 hn l1.2.1) (fun G2 b2' bo => ?_)
      have G21 : G2 1 = nI n := (bo 1 (by omega)).trans G11
      refine cs_bind (by omega) (by omega) (c_cnt G21 b2' hn l2.2 hc (by decide)) (fun G3 c2 c9 co cv => ?_)
      refine ⟨G3, rfl, rfl, rfl, c2, fun _ => ⟨?_, fun z => absurd z (show ¬ (119 : Int32) = 98 by decide), fun z => absurd z (show ¬ (119 : Int32) = 114 by decide), fun z => absurd z (show ¬ (119 : Int32) = 102 by decide), fun z => absurd z (show ¬ (119 : Int32) = 99 by decide), fun _ => ⟨?_, c9⟩, fun z => absurd z (show ¬ (119 : Int32) = 112 by decide)⟩⟩
      · rw [co 4 (by omega) (by omega), bo 4 (by omega), ao 4 (by omega) (by omega), n4, q5]
      · rw [co 5 (by omega) (by omega), bo 5 (by omega), a5]
    rw [c_sg0 k1 k2 hn hi (fun z => q5 z.2), b2_some, if_pos rfl, if_neg q5]
    by_cases q6 : σ 192 i = 112
    · rw [c_sg1 k1 k2 hn q q6, b2_some, if_neg (show ¬ (1 : Int32) = 0 by decide), if_pos q6]
      apply hg
      rw [← hg2] at n1 n2 n4 ⊢
      refine cs_bind (by omega) (by omega) (c_cnt n1 n2 hn (by omega) hc (by decide)) (fun G1 a2 a9 ao av => ?_)
      refine ⟨G1, rfl, rfl, rfl, a2, fun _ => ⟨?_, fun z => absurd z (show ¬ (112 : Int32) = 98 by decide), fun z => absurd z (show ¬ (112 : Int32) = 114 by decide), fun z => absurd z (show ¬ (112 : Int32) = 102 by decide), fun z => absurd z (show ¬ (112 : Int32) = 99 by decide), fun z => absurd z (show ¬ (112 : Int32) = 119 by decide), fun _ => a9⟩⟩
      rw [ao 4 (by omega) (by omega), n4, q6]
    rw [c_sg0 k1 k2 hn hi (fun z => q6 z.2), b2_some, if_pos rfl, if_neg q6]
    exact ⟨g1, rfl, by rw [hg1, upd_n (by omega)], by rw [hg1, upd_n (by omega)], k2, fun z => absurd rfl z⟩
  · rw [if_neg (fun z => q ((nI_ltI (by omega) (by omega)).mp z)), if_neg q]
    exact ⟨g, rfl, rfl, rfl, h2, fun z => absurd rfl z⟩

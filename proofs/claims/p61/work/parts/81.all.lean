/-! the whole text -/
def s_all (tx : Nat → Int32) (n : Nat) : Nat → Nat → Nat × Bool × List (Int32 × Int32 × Int32 × Int32 × Int32)
  | 0, i => (i, false, [])
  | m + 1, i => if (s_ord tx n i).2.1 = -1 then ((s_ord tx n i).1, false, [])
    else if (s_sgn tx n (s_ord tx n i).1 59).1 = 0 then ((s_ord tx n i).1, decide ((s_ord tx n i).1 = n), [(s_ord tx n i).2])
    else ((s_all tx n m ((s_ord tx n i).1 + 1)).1, (s_all tx n m ((s_ord tx n i).1 + 1)).2.1, (s_ord tx n i).2 :: (s_all tx n m ((s_ord tx n i).1 + 1)).2.2)
theorem thn_le {a : Int32 × Nat} {k : Int32 → Nat → Nat × Int32 × Int32 × Int32 × Int32 × Int32} {i j n : Nat} (h1 : i ≤ a.2 ∧ a.2 ≤ n) (hk : a.1 ≠ -1 → i ≤ (k a.1 a.2).1 ∧ (k a.1 a.2).1 ≤ n ∧ ((k a.1 a.2).2.1 ≠ -1 → j ≤ (k a.1 a.2).1)) : i ≤ (thn a k).1 ∧ (thn a k).1 ≤ n ∧ ((thn a k).2.1 ≠ -1 → j ≤ (thn a k).1) := by
  unfold thn
  by_cases q : a.1 = -1
  · rw [if_pos q]
    exact ⟨h1.1, h1.2, fun z => absurd rfl z⟩
  · rw [if_neg q]
    exact hk q
theorem ths_le {a : Int32 × Nat} {k : Nat → Nat × Int32 × Int32 × Int32 × Int32 × Int32} {i j n : Nat} (h1 : i ≤ a.2 ∧ a.2 ≤ n) (hk : i ≤ (k a.2).1 ∧ (k a.2).1 ≤ n ∧ ((k a.2).2.1 ≠ -1 → j ≤ (k a.2).1)) : i ≤ (ths a k).1 ∧ (ths a k).1 ≤ n ∧ ((ths a k).2.1 ≠ -1 → j ≤ (ths a k).1) := by
  unfold ths
  by_cases q : a.1 = 0
  · rw [if_pos q]
    exact ⟨h1.1, h1.2, fun z => absurd rfl z⟩
  · rw [if_neg q]
    exact hk
/-- an order takes two signs at least -/
theorem s_ord_le {tx : Nat → Int32} {n i : Nat} (h : i ≤ n) : i ≤ (s_ord tx n i).1 ∧ (s_ord tx n i).1 ≤ n ∧ ((s_ord tx n i).2.1 ≠ -1 → i + 2 ≤ (s_ord tx n i).1) := by
  have fl : ∀ j, i ≤ j → j ≤ n → i ≤ (s_fail j).1 ∧ (s_fail j).1 ≤ n ∧ ((s_fail j).2.1 ≠ -1 → i + 2 ≤ (s_fail j).1) := fun j h1 h2 => ⟨h1, h2, fun z => absurd rfl z⟩
  unfold s_ord
  by_cases q : i < n
  · rw [if_pos q]
    by_cases q1 : tx i = 98
    · rw [if_pos q1]
      have l1 := s_num_le (tx := tx) (n := n) (i := i + 1) (lo := 0) (hi := 11) (by decide) (by omega)
      refine thn_le ⟨by omega, l1.2.1⟩ (fun e => ?_)
      have l1' := l1.2.2 e
      have l2 := s_let_le (tx := tx) (n := n) l1.2.1
      refine thn_le ⟨by omega, l2.2⟩ (fun _ => ?_)
      have l3 := s_num_le (tx := tx) (n := n) (lo := 1) (hi := 9) (by decide) l2.2
      refine thn_le ⟨by omega, l3.2.1⟩ (fun _ => ?_)
      have l4 := s_sgn_le (tx := tx) (n := n) (c := 94) l3.2.1
      exact ⟨by dsimp only; omega, l4.2, fun _ => by dsimp only; omega⟩
    rw [if_neg q1]
    by_cases q2 : tx i = 114
    · rw [if_pos q2]
      have l1 := s_num_le (tx := tx) (n := n) (i := i + 1) (lo := 0) (hi := 5) (by decide) (by omega)
      refine thn_le ⟨by omega, l1.2.1⟩ (fun e => ?_)
      have l1' := l1.2.2 e
      have l2 := s_sgn_le (tx := tx) (n := n) (c := 58) l1.2.1
      refine ths_le ⟨by omega, l2.2⟩ ?_
      have l3 := s_num_le (tx := tx) (n := n) (lo := 0) (hi := 3) (by decide) l2.2
      refine thn_le ⟨by omega, l3.2.1⟩ (fun _ => ?_)
      have l4 := s_num_le (tx := tx) (n := n) (lo := 0) (hi := 3) (by decide) l3.2.1
      refine thn_le ⟨by omega, l4.2.1⟩ (fun _ => ?_)
      have l5 := s_sgn_le (tx := tx) (n := n) (c := 42) l4.2.1
      refine ths_le ⟨by omega, l5.2⟩ ?_
      have l6 := s_num_le (tx := tx) (n := n) (lo := 1) (hi := 40) (by decide) l5.2
      refine thn_le ⟨by omega, l6.2.1⟩ (fun _ => ?_)
      exact ⟨by dsimp only; omega, l6.2.1, fun _ => by dsimp only; omega⟩
    rw [if_neg q2]
    by_cases q3 : tx i = 102
    · rw [if_pos q3]
      have l1 := s_num_le (tx := tx) (n := n) (i := i + 1) (lo := 0) (hi := 5) (by decide) (by omega)
      refine thn_le ⟨by omega, l1.2.1⟩ (fun e => ?_)
      have l1' := l1.2.2 e
      have l2 := s_sgn_le (tx := tx) (n := n) (c := 43) l1.2.1
      refine ths_le ⟨by omega, l2.2⟩ ?_
      have l3 := s_num_le (tx := tx) (n := n) (lo := 1) (hi := 99) (by decide) l2.2
      refine thn_le ⟨by omega, l3.2.1⟩ (fun _ => ?_)
      exact ⟨by dsimp only; omega, l3.2.1, fun _ => by dsimp only; omega⟩
    rw [if_neg q3]
    by_cases q4 : tx i = 99
    · rw [if_pos q4]
      have l1 := s_num_le (tx := tx) (n := n) (i := i + 1) (lo := 0) (hi := 99) (by decide) (by omega)
      refine thn_le ⟨by omega, l1.2.1⟩ (fun e => ?_)
      have l1' := l1.2.2 e
      have l2 := s_let_le (tx := tx) (n := n) l1.2.1
      refine thn_le ⟨by omega, l2.2⟩ (fun _ => ?_)
      have l3 := s_num_le (tx := tx) (n := n) (lo := 0) (hi := 3) (by decide) l2.2
      refine thn_le ⟨by omega, l3.2.1⟩ (fun _ => ?_)
      exact ⟨by dsimp only; omega, l3.2.1, fun _ => by dsimp only; omega⟩
    rw [if_neg q4]
    by_cases q5 : tx i = 119
    · rw [if_pos q5]
      have l1 := s_num_le (tx := tx) (n := n) (i := i + 1) (lo := 0) (hi := 9) (by decide) (by omega)
      refine thn_le ⟨by omega, l1.2.1⟩ (fun e => ?_)
      have l1' := l1.2.2 e
      have l2 := s_sgn_le (tx := tx) (n := n) (c := 61) l1.2.1
      refine ths_le ⟨by omega, l2.2⟩ ?_
      have l3 := s_num_le (tx := tx) (n := n) (lo := 0) (hi := 9) (by decide) l2.2
      refine thn_le ⟨by omega, l3.2.1⟩ (fun _ => ?_)
      exact ⟨by dsimp only; omega, l3.2.1, fun _ => by dsimp only; omega⟩
    rw [if_neg q5]
    by_cases q6 : tx i = 112
    · rw [if_pos q6]
      have l1 := s_num_le (tx := tx) (n := n) (i := i + 1) (lo := 1) (hi := 40) (by decide) (by omega)
      refine thn_le ⟨by omega, l1.2.1⟩ (fun e => ?_)
      have l1' := l1.2.2 e
      exact ⟨by dsimp only; omega, l1.2.1, fun _ => by dsimp only; omega⟩
    rw [if_neg q6]
    exact fl i (Nat.le_refl _) h
  · rw [if_neg q]
    exact fl i (Nat.le_refl _) h
theorem s_sgn1 {tx : Nat → Int32} {n i : Nat} {c : Int32} (h : ¬ (s_sgn tx n i c).1 = 0) : i < n ∧ tx i = c ∧ s_sgn tx n i c = (1, i + 1) := by
  unfold s_sgn at h ⊢
  by_cases q : i < n
  · rw [if_pos q] at h ⊢
    by_cases p : tx i = c
    · rw [if_pos p]; exact ⟨q, p, rfl⟩
    · rw [if_neg p] at h
      exact absurd rfl h
  · rw [if_neg q] at h
    exact absurd rfl h
theorem s_sgn0 {tx : Nat → Int32} {n i : Nat} {c : Int32} (h : (s_sgn tx n i c).1 = 0) : ¬ (i < n ∧ tx i = c) ∧ s_sgn tx n i c = (0, i) := by
  unfold s_sgn at h ⊢
  by_cases q : i < n
  · rw [if_pos q] at h ⊢
    by_cases p : tx i = c
    · rw [if_pos p] at h
      exact absurd h (show ¬ (1 : Int32) = 0 by decide)
    · rw [if_neg p]; exact ⟨fun z => p z.2, rfl⟩
  · rw [if_neg q]; exact ⟨fun z => q z.1, rfl⟩
/-! the second reader -/
def FMs (t : Nat → Int32) : Nat → List (Int32 × Int32 × Int32 × Int32 × Int32) → Prop
  | _, [] => True
  | k, F :: l => FM t k F ∧ FMs t (k + 1) l
theorem FM.at {t t' : Nat → Int32} {k : Nat} {F : Int32 × Int32 × Int32 × Int32 × Int32} (h : FM t k F) (e : ∀ j, j < 5 * (k + 1) → t' j = t j) : FM t' k F := by
  obtain ⟨h1, h2, h3, h4, h5⟩ := h
  exact ⟨by rw [e _ (by omega)]; exact h1, by rw [e _ (by omega)]; exact h2, fun z => by rw [e _ (by omega)]; exact h3 z, fun z => by rw [e _ (by omega)]; exact h4 z, fun z => by rw [e _ (by omega)]; exact h5 z⟩
theorem wT_13 {τ : Sg} {x v : Int32} {t : Nat → Int32} : u2 (wT τ x t) 193 13 v = wT (u2 τ 193 13 v) x t := by
  funext a
  unfold wT
  by_cases h : a = 193
  · subst h
    rw [u2_row, if_pos rfl, if_pos rfl, u2_row]
    funext j
    simp only [upd_app]
    grind
  · rw [u2_cell h, if_neg h, if_neg h, u2_cell h]
/-! the first reader -/
def RN (σ : Sg) (g : Nat → Int32) (n k i : Nat) : Prop := g 1 = nI n ∧ g 3 = nI k ∧ ((k = 0 ∧ g 2 = nI i) ∨ (0 < k ∧ 0 < i ∧ g 2 = nI (i - 1) ∧ i ≤ n ∧ σ 192 (i - 1) = 59))
theorem FC.at {G H : Nat → Int32} {F : Int32 × Int32 × Int32 × Int32 × Int32} (h : FC G F) (e : ∀ j, 4 ≤ j → H j = G j) : FC H F := by
  obtain ⟨h1, h2, h3, h4, h5, h6, h7⟩ := h
  refine ⟨by rw [e _ (by omega)]; exact h1, fun z => ?_, fun z => ?_, fun z => ?_, fun z => ?_, fun z => ?_, fun z => ?_⟩
  · rw [e 5 (by omega), e 6 (by omega), e 9 (by omega), e 10 (by omega)]; exact h2 z
  · rw [e 5 (by omega), e 7 (by omega), e 8 (by omega), e 9 (by omega)]; exact h3 z
  · rw [e 5 (by omega), e 9 (by omega)]; exact h4 z
  · rw [e 9 (by omega), e 6 (by omega), e 8 (by omega)]; exact h5 z
  · rw [e 5 (by omega), e 9 (by omega)]; exact h6 z
  · rw [e 9 (by omega)]; exact h7 z
theorem c_next' {σ : Sg} {g : Nat → Int32} {n i k : Nat} (h : RN σ g n k i) (hn : n ≤ 80) (hi : i ≤ n) (hk : k ≤ 80) (hc : ∀ i, i < n → vp_in (σ 192 i) 65536) : ∃ G, f_X2_readNext (wr σ 191 g) = some (fl1 (s_ord (σ 192) n i).2.1, wr σ 191 G) ∧ G 1 = nI n ∧ G 2 = nI (s_ord (σ 192) n i).1 ∧ ((s_ord (σ 192) n i).2.1 ≠ -1 → G 3 = nI (k + 1) ∧ FC G (s_ord (σ 192) n i).2) := by
  obtain ⟨h1, h3, h2⟩ := h
  have key : ∀ g' : Nat → Int32, g' 1 = nI n → g' 3 = nI k → g' 2 = nI i → ∃ G, (b2 (f_X2_readOrder (wr σ 191 g')) fun y2 σ4 => if y2 = 0 then (some (0, σ4)) else (st (u2 σ4 191 3 ((σ4 191 3) + 1)) fun σ6 => some (1, σ6))) = some (fl1 (s_ord (σ 192) n i).2.1, wr σ 191 G) ∧ G 1 = nI n ∧ G 2 = nI (s_ord (σ 192) n i).1 ∧ ((s_ord (σ 192) n i).2.1 ≠ -1 → G 3 = nI (k + 1) ∧ FC G (s_ord (σ 192) n i).2) := by
    intro g' k1 k3 k2
    obtain ⟨G, e1, e2, e3, e4, e5⟩ := c_ord k1 k2 hn hi hc
    rw [e1, b2_some]
    by_cases q : (s_ord (σ 192) n i).2.1 = -1
    · rw [show fl1 (s_ord (σ 192) n i).2.1 = 0 from if_pos q, if_pos rfl]
      exact ⟨G, rfl, e2.trans k1, e4, fun z => absurd q z⟩
    · rw [show fl1 (s_ord (σ 192) n i).2.1 = 1 from if_neg q, if_neg (by decide), wr_s, e3, k3, nI_1, wr_u, st_eq]
      exact ⟨_, rfl, by rw [upd_n (by omega)]; exact e2.trans k1, by rw [upd_n (by omega)]; exact e4, fun z => ⟨upd_s, (e5 z).at (fun j hj => upd_n (by omega))⟩⟩
  unfold f_X2_readNext
  rw [wr_s, h3]
  rcases h2 with ⟨a, b⟩ | ⟨a, b, c, d, e⟩
  · subst a
    rw [if_pos (show nI 0 ≤ 0 by decide)]
    exact key g h1 h3 b
  · rw [if_neg (show ¬ nI k ≤ 0 from nI_ge (a := 0) (b := k) (by omega) (by omega)), c_sg1 h1 c hn (by omega) e, b2_some, if_neg (by decide)]
    exact key _ (by rw [upd_n (by omega)]; exact h1) (by rw [upd_n (by omega)]; exact h3) (by rw [upd_s, show i - 1 + 1 = i by omega])
theorem c_end {σ : Sg} {g : Nat → Int32} {n k j : Nat} (h1 : g 1 = nI n) (h3 : g 3 = nI k) (h2 : g 2 = nI j) (hn : n ≤ 80) (hj : j ≤ n) (hk0 : 0 < k) (hk : k ≤ 80) (h : ¬ (j < n ∧ σ 192 j = 59)) : f_X2_readNext (wr σ 191 g) = some (0, wr σ 191 g) := by
  unfold f_X2_readNext
  rw [wr_s, h3, if_neg (show ¬ nI k ≤ 0 from nI_ge (a := 0) (b := k) (by omega) (by omega)), c_sg0 h1 h2 hn hj h, b2_some, if_pos rfl]
theorem c_err {σ : Sg} {n : Nat} (hn : n ≤ 80) (hc : ∀ i, i < n → vp_in (σ 192 i) 65536) : ∀ (m i k N : Nat) (g : Nat → Int32), n < i + 3 * m → i ≤ n → 3 * k ≤ i → m + 1 < N → RN σ g n k i → ∃ G, l_X2_firstError_6 N (wr σ 191 g) (nI k) = some (if (s_all (σ 192) n m i).2.1 = true then -1 else nI (s_all (σ 192) n m i).1, wr σ 191 G) ∧ G 1 = nI n := by
  intro m
  induction m with
  | zero => intro i k N g h1 h2; omega
  | succ m ih =>
    intro i k N g h1 h2 h3 hN h
    obtain ⟨M, rfl⟩ : ∃ M, N = M + 1 := ⟨N - 1, by omega⟩
    obtain ⟨G, e1, e2, e3, e4⟩ := c_next' h hn h2 (by omega) hc
    have le := s_ord_le (tx := σ 192) h2
    obtain ⟨o, ho⟩ : ∃ o, o = s_ord (σ 192) n i := ⟨_, rfl⟩
    rw [l_X2_firstError_6.eq_2, if_neg (show ¬ (80 : Int32) ≤ nI k from nI_ge (a := k) (b := 80) (by omega) (by omega)), e1, b2_some, s_all]
    rw [← ho] at e3 e4 le ⊢
    by_cases q : o.2.1 = -1
    · rw [if_pos q, show fl1 o.2.1 = 0 from if_pos q, if_pos rfl, wr_s, e3, if_neg Bool.false_ne_true]
      exact ⟨G, rfl, e2⟩
    · obtain ⟨e5, e6⟩ := e4 q
      have le2 := le.2.2 q
      have eo : nI o.1 = nI n ↔ o.1 = n := nI_eq (by omega) (by omega)
      rw [if_neg q, show fl1 o.2.1 = 1 from if_neg q, if_neg (show ¬ (1 : Int32) = 0 by decide), wr_s, e2, e3]
      by_cases p : (s_sgn (σ 192) n o.1 59).1 = 0
      · obtain ⟨p1, p2⟩ := s_sgn0 p
        rw [if_pos p]
        by_cases w : o.1 = n
        · rw [if_pos (eo.mpr w), if_pos (decide_eq_true w)]
          exact ⟨G, rfl, e2⟩
        · obtain ⟨M2, rfl⟩ : ∃ M2, M = M2 + 1 := ⟨M - 1, by omega⟩
          rw [if_neg (fun z => w (eo.mp z)), if_neg (fun z => w (of_decide_eq_true z)), nI_1, l_X2_firstError_6.eq_2, if_neg (show ¬ (80 : Int32) ≤ nI (k + 1) from nI_ge (a := k + 1) (b := 80) (by omega) (by omega)), c_end e2 e5 e3 hn le.2.1 (by omega) (by omega) p1, b2_some, if_pos rfl, wr_s, e3]
          exact ⟨G, rfl, e2⟩
      · obtain ⟨p1, p2, p3⟩ := s_sgn1 p
        rw [if_neg p, if_neg (fun z => by have := eo.mp z; omega), nI_1]
        exact ih (o.1 + 1) (k + 1) M G (by omega) (by omega) (by omega) (by omega) ⟨e2, e5, Or.inr ⟨by omega, by omega, e3, by omega, p2⟩⟩
theorem wr_self {σ : Sg} {k : Nat} : wr σ k (σ k) = σ := by
  funext a
  unfold wr
  split
  · rename_i h; rw [h]
  · rfl
/-- the first error, by the first reader -/
theorem C_err {σ : Sg} {n : Nat} (hn : n ≤ 80) (h1 : σ 191 1 = nI n) (hc : ∀ i, i < n → vp_in (σ 192 i) 65536) : ∃ G, f_X2_firstError σ = some (if (s_all (σ 192) n 40 0).2.1 = true then -1 else nI (s_all (σ 192) n 40 0).1, wr σ 191 G) ∧ G 1 = nI n := by
  unfold f_X2_firstError f_X2_rewind
  rw [st_eq, st_eq, b1_some]
  have e : u2 (u2 σ 191 2 0) 191 3 0 = wr σ 191 (upd (upd (σ 191) 2 0) 3 0) := by
    have : u2 (u2 (wr σ 191 (σ 191)) 191 2 0) 191 3 0 = wr σ 191 (upd (upd (σ 191) 2 0) 3 0) := by rw [wr_u, wr_u]
    rwa [wr_self] at this
  rw [e]
  exact c_err hn hc 40 0 0 10000 _ (by omega) (by omega) (by omega) (by omega) ⟨by rw [upd_n (by omega), upd_n (by omega)]; exact h1, upd_s, Or.inl ⟨rfl, by rw [upd_n (by omega), upd_s]; rfl⟩⟩
theorem s_all_ext {tx ty : Nat → Int32} {n : Nat} (h : ∀ i, i < n → tx i = ty i) : ∀ m i, s_all tx n m i = s_all ty n m i := by
  have e1 : ∀ i, s_dig tx n i = s_dig ty n i := fun i => by
    unfold s_dig
    by_cases q : i < n
    · rw [if_pos q, if_pos q, h i q]
    · rw [if_neg q, if_neg q]
  have e2 : ∀ i lo hi, s_num tx n i lo hi = s_num ty n i lo hi := fun i lo hi => by
    unfold s_num
    rw [e1, e1]
  have e3 : ∀ i, s_let tx n i = s_let ty n i := fun i => by
    unfold s_let
    by_cases q : i < n
    · rw [if_pos q, if_pos q, h i q]
    · rw [if_neg q, if_neg q]
  have e4 : ∀ i c, s_sgn tx n i c = s_sgn ty n i c := fun i c => by
    unfold s_sgn
    by_cases q : i < n
    · rw [if_pos q, if_pos q, h i q]
    · rw [if_neg q, if_neg q]
  have e5 : ∀ i, s_ord tx n i = s_ord ty n i := fun i => by
    unfold s_ord s_ordB s_ordR s_ordF s_ordC s_ordW s_ordP
    simp only [e2, e3, e4]
    by_cases q : i < n
    · rw [if_pos q, if_pos q, h i q]
    · rw [if_neg q, if_neg q]
  intro m
  induction m with
  | zero => intro i; rfl
  | succ m ih =>
    intro i
    rw [s_all, s_all, e5, e4, ih]

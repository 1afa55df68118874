/-! all orders, one after the other -/
theorem W_do {f b : Nat → Int32} {F : Int32 × Int32 × Int32 × Int32 × Int32} (ok : OKf f) (hv : VF F) (h : ¬ s_can f F = 0) : OKf (s_do f b F).1 := by
  have hw := ok.1
  have h7 := hw.s7
  have h6 := ok.2.2.2.2.2
  obtain ⟨L, f1, f2, f3, f4⟩ := F
  unfold s_can at h
  unfold s_do
  rcases hv with ⟨e, v1, v2, v3, v4⟩ | ⟨e, v1, v2, v3, v4⟩ | ⟨e, v1, v2⟩ | ⟨e, v1, v2, v3⟩ | ⟨e, v1, v2⟩ | ⟨e, v1⟩
  · dsimp only at e v1 v2 v3 v4 h ⊢
    subst e
    rw [if_pos rfl] at h ⊢
    by_cases q : s_whyB f f1 f4 = 0
    · obtain ⟨q1, q2⟩ := s_whyB_0 h6 q
      exact W_pays ok q1 q2 v1 v2 (pr9_vp v3).1 (pr9_vp v3).2
    · rw [if_neg q] at h
      exact absurd rfl h
  · dsimp only at e v1 v2 v3 v4 h ⊢
    subst e
    have n1 : ¬ (114 : Int32) = 98 := by decide
    rw [if_neg n1, if_pos rfl] at h ⊢
    obtain ⟨l, hl, rfl⟩ := vp_s v2 (by omega)
    obtain ⟨j, hj, rfl⟩ := vp_s v3 (by omega)
    by_cases p : f1 < f 8
    · obtain ⟨s, hs, rfl⟩ := vp_s ((lt_vp hw.ns v1).mp p) (by omega)
      rw [if_pos p, cl_nI (show s < 100000 by omega), cl_nI (show l < 100000 by omega)] at h
      rw [cl_nI (show s < 100000 by omega), cl_nI (show l < 100000 by omega), cl_nI (show j < 100000 by omega)]
      by_cases q : s_whyS f s l f4 = 0
      · obtain ⟨q1, q2⟩ := s_whyS_0 q
        exact W_stocks ok hs hl hj v4 q1 q2
      · rw [if_neg q] at h
        exact absurd rfl h
    · rw [if_neg p] at h
      exact absurd rfl h
  · dsimp only at e v1 v2 h ⊢
    subst e
    have n1 : ¬ (102 : Int32) = 98 := by decide
    have n2 : ¬ (102 : Int32) = 114 := by decide
    rw [if_neg n1, if_neg n2, if_pos rfl] at h ⊢
    by_cases p : f1 < f 8
    · obtain ⟨s, hs, rfl⟩ := vp_s ((lt_vp hw.ns v1).mp p) (by omega)
      rw [if_pos p] at h
      rw [cl_nI (show s < 100000 by omega)]
      by_cases q : f2 ≤ f 0
      · exact W_funds ok hs (up_vp v2) q
      · rw [if_neg q] at h
        exact absurd rfl h
    · rw [if_neg p] at h
      exact absurd rfl h
  · dsimp only at e v1 v2 v3 h ⊢
    subst e
    have n1 : ¬ (99 : Int32) = 98 := by decide
    have n2 : ¬ (99 : Int32) = 114 := by decide
    have n3 : ¬ (99 : Int32) = 102 := by decide
    rw [if_neg n1, if_neg n2, if_neg n3, if_pos rfl] at h ⊢
    by_cases q : s_room f = 0
    · rw [if_pos q] at h
      exact absurd rfl h
    · exact W_come ok (room_lt hw q) v1 v2 v3
  · dsimp only at e v1 v2 h ⊢
    subst e
    have n1 : ¬ (119 : Int32) = 98 := by decide
    have n2 : ¬ (119 : Int32) = 114 := by decide
    have n3 : ¬ (119 : Int32) = 102 := by decide
    have n4 : ¬ (119 : Int32) = 99 := by decide
    rw [if_neg n1, if_neg n2, if_neg n3, if_neg n4, if_pos rfl]
    obtain ⟨s, hs, rfl⟩ := vp_s v1 (by omega)
    rw [cl_nI (show s < 100000 by omega)]
    exact W_rains ok hs v2
  · dsimp only at e v1 h ⊢
    subst e
    have n1 : ¬ (112 : Int32) = 98 := by decide
    have n2 : ¬ (112 : Int32) = 114 := by decide
    have n3 : ¬ (112 : Int32) = 102 := by decide
    have n4 : ¬ (112 : Int32) = 99 := by decide
    have n5 : ¬ (112 : Int32) = 119 := by decide
    rw [if_neg n1, if_neg n2, if_neg n3, if_neg n4, if_neg n5] at h ⊢
    obtain ⟨n, m1, m2, rfl⟩ := up_ex (k := 40) v1 (by omega)
    rw [cl_nI (show n < 100000 by omega)] at h ⊢
    by_cases q : tm f + n < 400000
    · exact (W_passes ok m2 q).1
    · rw [if_neg q] at h
      exact absurd rfl h
def s_run : List (Int32 × Int32 × Int32 × Int32 × Int32) → Nat → (Nat → Int32) → (Nat → Int32) → Int32 × (Nat → Int32) × (Nat → Int32)
  | [], _, f, b => (-1, f, b)
  | F :: l, k, f, b => if s_can f F = 0 then (nI k, f, b) else s_run l (k + 1) (s_do f b F).1 (s_do f b F).2
theorem W_run : ∀ (l : List (Int32 × Int32 × Int32 × Int32 × Int32)) (k : Nat) (f b : Nat → Int32), VFs l → OKf f → OKf (s_run l k f b).2.1 := by
  intro l
  induction l with
  | nil => intro k f b _ ok; exact ok
  | cons F l ih =>
    intro k f b hV ok
    rw [s_run]
    by_cases q : s_can f F = 0
    · rw [if_pos q]; exact ok
    · rw [if_neg q]
      exact ih _ _ _ hV.2 (W_do ok hV.1 q)
/-- the first side, on the trial: the text is read once more, order by order -/
theorem c_run {n : Nat} (hn : n ≤ 80) : ∀ (m i k N : Nat) (σ : Sg) (g f b : Nat → Int32), n < i + 3 * m → i ≤ n → 3 * k ≤ i → m + 1 < N → (∀ i, i < n → vp_in (σ 192 i) 65536) → RN σ g n k i → (s_all (σ 192) n m i).2.1 = true → FR 28 (wr σ 191 g) f → OKf f → ∃ F', l_X4_tryOrders_20 N (wr σ 191 g) (nI k) = some ((s_run (s_all (σ 192) n m i).2.2 k f b).1, F') ∧ F' 191 1 = nI n ∧ (∀ a, a < 28 ∨ (55 ≤ a ∧ a ≠ 191) → F' a = σ a) ∧ ((s_run (s_all (σ 192) n m i).2.2 k f b).1 = -1 → F' 191 3 = nI (k + (s_all (σ 192) n m i).2.2.length) ∧ FR 28 F' (s_run (s_all (σ 192) n m i).2.2 k f b).2.1) := by
  intro m
  induction m with
  | zero => intro i k N σ g f b h1 h2; omega
  | succ m ih =>
    intro i k N σ g f b h1 h2 h3 hN hc h hok hR ok
    obtain ⟨M, rfl⟩ : ∃ M, N = M + 1 := ⟨N - 1, by omega⟩
    obtain ⟨G, e1, e2, e3, e4⟩ := c_next' h hn h2 (by omega) hc
    have le := s_ord_le (tx := σ 192) h2
    have hvf := fun z => s_ord_vf (i := i) hc z
    rw [s_all] at hok ⊢
    obtain ⟨o, ho⟩ : ∃ o, o = s_ord (σ 192) n i := ⟨_, rfl⟩
    rw [← ho] at e1 e3 e4 le hvf hok ⊢
    by_cases q : o.2.1 = -1
    · rw [if_pos q] at hok
      exact absurd hok Bool.false_ne_true
    · obtain ⟨e5, e6⟩ := e4 q
      have le2 := le.2.2 q
      have hV := hvf q
      rw [if_neg q] at hok ⊢
      have hRG : FR 28 (wr σ 191 G) f := hR.at (fun a z1 z2 => by rw [wr_n (by omega), wr_n (by omega)]) ok.b.1 ok.b.2
      rw [l_X4_tryOrders_20.eq_2, if_neg (show ¬ (80 : Int32) ≤ nI k from nI_ge (a := k) (b := 80) (by omega) (by omega)), e1, b2_some, show fl1 o.2.1 = 1 from if_neg q, if_neg (show ¬ (1 : Int32) = 0 by decide)]
      have hO := c_obey b hRG ok hV (show FC (wr σ 191 G 191) o.2 by rw [wr_s]; exact e6)
      have stop : ∀ (l : List (Int32 × Int32 × Int32 × Int32 × Int32)), s_can f o.2 = 0 → f_X1_obey 28 (wr σ 191 G) = some (0, wr σ 191 G) → ∃ F', (b2 (f_X1_obey 28 (wr σ 191 G)) fun y12 σ14 => if y12 = 0 then (some (nI k, σ14)) else (l_X4_tryOrders_20 M σ14 (nI k + 1))) = some ((s_run (o.2 :: l) k f b).1, F') ∧ F' 191 1 = nI n ∧ (∀ a, a < 28 ∨ (55 ≤ a ∧ a ≠ 191) → F' a = σ a) ∧ ((s_run (o.2 :: l) k f b).1 = -1 → F' 191 3 = nI (k + (o.2 :: l).length) ∧ FR 28 F' (s_run (o.2 :: l) k f b).2.1) := by
        intro l d1 d2
        rw [d2, b2_some, if_pos rfl, s_run, if_pos d1]
        refine ⟨wr σ 191 G, rfl, by rw [wr_s]; exact e2, fun a ha => wr_n (by omega), fun z => absurd z (nI_neg1 (by omega))⟩
      by_cases p : (s_sgn (σ 192) n o.1 59).1 = 0
      · obtain ⟨p1, p2⟩ := s_sgn0 p
        rw [if_pos p] at hok ⊢
        dsimp only at hok ⊢
        rcases hO with ⟨d1, d2⟩ | ⟨d1, dW, S, d2, d3, d4⟩
        · exact stop [] d1 d2
        · obtain ⟨M2, rfl⟩ : ∃ M2, M = M2 + 1 := ⟨M - 1, by omega⟩
          have hS : S = wr S 191 G := by rw [← wr_s (τ := σ) (k := 191) (g := G), ← d4 191 (by omega), wr_self]
          have S92 : S 192 = σ 192 := by rw [d4 192 (by omega), wr_n (by omega)]
          have hend := c_end (σ := S) e2 e5 e3 hn le.2.1 (by omega) (by omega) (by rw [S92]; exact p1)
          rw [← hS] at hend
          rw [d2, b2_some, if_neg (show ¬ (1 : Int32) = 0 by decide), nI_1, l_X4_tryOrders_20.eq_2, if_neg (show ¬ (80 : Int32) ≤ nI (k + 1) from nI_ge (a := k + 1) (b := 80) (by omega) (by omega)), hend, b2_some, if_pos rfl, s_run, if_neg d1, s_run]
          refine ⟨S, rfl, by rw [d4 191 (by omega), wr_s]; exact e2, fun a ha => by rw [d4 a (by omega), wr_n (by omega)], fun _ => ⟨by rw [d4 191 (by omega), wr_s]; exact e5, d3⟩⟩
      · obtain ⟨p1, p2, p3⟩ := s_sgn1 p
        rw [if_neg p] at hok ⊢
        dsimp only at hok ⊢
        rcases hO with ⟨d1, d2⟩ | ⟨d1, dW, S, d2, d3, d4⟩
        · exact stop _ d1 d2
        · have hS : S = wr S 191 G := by rw [← wr_s (τ := σ) (k := 191) (g := G), ← d4 191 (by omega), wr_self]
          have S92 : S 192 = σ 192 := by rw [d4 192 (by omega), wr_n (by omega)]
          obtain ⟨F', i1, i2, i3, i4⟩ := ih (o.1 + 1) (k + 1) M S G (s_do f b o.2).1 (s_do f b o.2).2 (by omega) (by omega) (by omega) (by omega) (by rw [S92]; exact hc) ⟨e2, e5, Or.inr ⟨by omega, by omega, e3, by omega, by rw [S92]; exact p2⟩⟩ (by rw [S92]; exact hok) (by rw [← hS]; exact d3) dW
          rw [← hS, S92] at i1
          rw [S92] at i4
          rw [d2, b2_some, if_neg (show ¬ (1 : Int32) = 0 by decide), nI_1, s_run, if_neg d1]
          refine ⟨F', i1, i2, fun a ha => by rw [i3 a ha, d4 a (by omega), wr_n (by omega)], fun z => ?_⟩
          obtain ⟨i5, i6⟩ := i4 z
          exact ⟨by rw [i5, List.length_cons]; congr 1; omega, i6⟩

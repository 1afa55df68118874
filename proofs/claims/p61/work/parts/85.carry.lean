/-! impossibleOrder, carryOut -/
theorem s_all_len {tx : Nat → Int32} {n : Nat} : ∀ m i, (s_all tx n m i).2.2.length ≤ m := by
  intro m
  induction m with
  | zero => intro i; exact Nat.le_refl _
  | succ m ih =>
    intro i
    rw [s_all]
    by_cases q : (s_ord tx n i).2.1 = -1
    · rw [if_pos q]; exact Nat.zero_le _
    · rw [if_neg q]
      by_cases p : (s_sgn tx n (s_ord tx n i).1 59).1 = 0
      · rw [if_pos p]
        show 1 ≤ m + 1
        omega
      · rw [if_neg p]
        show (s_all tx n m ((s_ord tx n i).1 + 1)).2.2.length + 1 ≤ m + 1
        have := ih ((s_ord tx n i).1 + 1)
        omega
theorem s_all_le {tx : Nat → Int32} {n : Nat} : ∀ m i, i ≤ n → (s_all tx n m i).1 ≤ n := by
  intro m
  induction m with
  | zero => intro i h; exact h
  | succ m ih =>
    intro i h
    have le := s_ord_le (tx := tx) h
    rw [s_all]
    by_cases q : (s_ord tx n i).2.1 = -1
    · rw [if_pos q]; exact le.2.1
    · rw [if_neg q]
      by_cases p : (s_sgn tx n (s_ord tx n i).1 59).1 = 0
      · rw [if_pos p]; exact le.2.1
      · rw [if_neg p]
        obtain ⟨p1, p2, p3⟩ := s_sgn1 p
        exact ih _ (by omega)
theorem C_try {σ : Sg} {n : Nat} {f : Nat → Int32} (b : Nat → Int32) (hn : n ≤ 80) (h1 : σ 191 1 = nI n) (hc : ∀ i, i < n → vp_in (σ 192 i) 65536) (hR : FR 1 σ f) (ok : OKf f) (hok : (s_all (σ 192) n 40 0).2.1 = true) : ∃ F', f_X4_tryOrders σ = some ((s_run (s_all (σ 192) n 40 0).2.2 0 f b).1, F') ∧ F' 191 1 = nI n ∧ (∀ a, a < 28 ∨ (55 ≤ a ∧ a ≠ 191) → F' a = σ a) ∧ ((s_run (s_all (σ 192) n 40 0).2.2 0 f b).1 = -1 → F' 191 3 = nI (s_all (σ 192) n 40 0).2.2.length ∧ FR 28 F' (s_run (s_all (σ 192) n 40 0).2.2 0 f b).2.1) := by
  obtain ⟨S, x1, x2, x3⟩ := c_copy (c := 28) (d := 1) (by omega) hR ok.1
  have S92 : S 192 = σ 192 := x3 192 (by omega)
  have e : u2 (u2 S 191 2 0) 191 3 0 = wr S 191 (upd (upd (S 191) 2 0) 3 0) := by
    have : u2 (u2 (wr S 191 (S 191)) 191 2 0) 191 3 0 = wr S 191 (upd (upd (S 191) 2 0) 3 0) := by rw [wr_u, wr_u]
    rwa [wr_self] at this
  obtain ⟨F', i1, i2, i3, i4⟩ := c_run hn 40 0 0 10000 S (upd (upd (S 191) 2 0) 3 0) f b (by omega) (by omega) (by omega) (by omega) (by rw [S92]; exact hc) ⟨by rw [upd_n (by omega), upd_n (by omega), x3 191 (by omega)]; exact h1, upd_s, Or.inl ⟨rfl, by rw [upd_n (by omega), upd_s]; rfl⟩⟩ (by rw [S92]; exact hok) (x2.at (fun a z1 z2 => wr_n (by omega)) ok.b.1 ok.b.2) ok
  rw [S92] at i1 i4
  rw [Nat.zero_add] at i4
  unfold f_X4_tryOrders f_X2_rewind
  rw [x1, b1_some, st_eq, st_eq, b1_some, e]
  exact ⟨F', i1, i2, fun a ha => by rw [i3 a ha, x3 a (by omega)], i4⟩
theorem RM.kR_ext {τ : Sg} {m M : Nat} {R : Nat → Nat → Int32} {g f : Nat → Int32} {hs : Int32} {sn : Nat → Int32} (h : RM τ M (kR m R g) hs sn) (e : ∀ i, i < 1785 → g i = f i) : RM τ M (kR m R f) hs sn := by
  obtain ⟨h1, h2⟩ := h
  refine ⟨fun j hj i hi => ?_, h2⟩
  rw [h1 j hj i hi]
  unfold kR
  split
  · exact e i hi
  · rfl

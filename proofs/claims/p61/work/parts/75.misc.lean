/-! text typed and emptied, undo, snapshots -/
theorem IV.text {σ σ' : Sg} {n : Nat} (h : IV σ) (ht : TX σ' n) (ho : ∀ a, a < 191 ∨ a = 194 ∨ a = 195 ∨ a = 196 → σ' a = σ a) (h2 : σ' 193 2 = σ 193 2) (h4 : σ' 193 4 = σ 193 4) : IV σ' := by
  obtain ⟨-, m, R, hs, sn, hc, hr, ok⟩ := h
  have b := ok.1.b
  have hc' : RC σ' (σ 194) m R hs sn := hc.op ok (hc.1.at (fun a h1 h2 => ho a (by omega)) b.1 b.2) (ho 0 (by omega)) (fun a h1 h2 => ho a (by omega))
  exact IV.of ht hc' (hr.at (ho 195 (by omega)) (ho 196 (by omega)) h2 h4) ok (fun i hi => by rw [ho 194 (by omega)])
theorem wr_row {τ : Sg} {g : Nat → Int32} : wr τ 194 g = w4 τ g := rfl
theorem s_lay0 {g h : Nat → Int32} {i : Nat} (hi : i < 1785) : s_lay g h 0 0 i = g i := by
  have := s_lay_in (g := g) (h := h) (x1 := 0) (x3 := 0) hi
  rwa [Nat.zero_add] at this

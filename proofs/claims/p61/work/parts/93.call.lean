/-! the law's call of a method by its number: the answer, or the number of what is thrown -/
def cde (e : Nat) : Int32 := if e = 1 then -2011 else if e = 2 then -2012 else -2013
theorem bn1_ok {α γ : Type} {x : Option (α ⊕ Int32)} {k : Int32 → Option γ} {r : Option γ} {y : Int32} (h : x = some (.inr y)) (hk : k y = r) : bn1 x k = r := by rw [h]; exact hk
theorem bn2_ok {α γ : Type} {x : Option (α ⊕ (Int32 × Sg))} {k : Int32 → Sg → Option γ} {r : Option γ} {y : Int32} {τ : Sg} (h : x = some (.inr (y, τ))) (hk : k y τ = r) : bn2 x k = r := by rw [h]; exact hk
theorem b1_ok {α β : Type} {x : Option β} {k : β → Option α} {r : Option α} {y : β} (h : x = some y) (hk : k y = r) : b1 x k = r := by rw [h]; exact hk
theorem b2_ok {α : Type} {x : Option (Int32 × Sg)} {k : Int32 → Sg → Option α} {r : Option α} {y : Int32} {τ : Sg} (h : x = some (y, τ)) (hk : k y τ = r) : b2 x k = r := by rw [h]; exact hk
theorem b2L_ok {α : Type} {x : Option (Int64 × Sg)} {k : Int64 → Sg → Option α} {r : Option α} {y : Int64} {τ : Sg} (h : x = some (y, τ)) (hk : k y τ = r) : b2L x k = r := by rw [h]; exact hk
theorem bl_ok {α β γ : Type} {inj : α → γ} {x : Option (α ⊕ β)} {k : β → Option γ} {r : Option γ} {s : β} (h : x = some (.inr s)) (hk : k s = r) : bl inj x k = r := by rw [h]; exact hk
theorem ip_ok {α : Type} {c : Prop} [Decidable c] {a b r : Option α} (h : c) (hk : a = r) : (if c then a else b) = r := by rw [if_pos h]; exact hk
theorem in_ok {α : Type} {c : Prop} [Decidable c] {a b r : Option α} (h : ¬ c) (hk : b = r) : (if c then a else b) = r := by rw [if_neg h]; exact hk
theorem gd_lit {α : Type} {i : Int32} {n : Nat} {k r : Option α} (h : (!(decide (i < 0)) && Nat.ble (i.toNatClampNeg + 1) n) = true) (hk : k = r) : gd i n k = r := by rw [gd_in (vp_lit h)]; exact hk
theorem cl_00i {σ : Sg} {p2 p3 p4 p5 : Int32} {e : Nat} (he : e = 1 ∨ e = 2 ∨ e = 3) (hr : ¬ p5 = 1) (h : f_X4_build σ p2 p3 p4 0 = some (.inl e)) : f_L_call σ 0 p2 p3 p4 p5 = some (cde e, σ) := by
  unfold f_L_call
  rw [if_neg (show ¬ (12 : Int32) ≤ 0 by decide)]
  unfold f_L_act
  rw [if_pos (show (0 : Int32) = 0 from rfl), if_neg hr, h]
  rcases he with rfl | rfl | rfl <;> rfl
theorem cl_00r {σ τ : Sg} {p2 p3 p4 p5 : Int32} {y : Int32} (hr : ¬ p5 = 1) (h : f_X4_build σ p2 p3 p4 0 = some (.inr (y, τ))) : f_L_call σ 0 p2 p3 p4 p5 = some (y, τ) := by
  unfold f_L_call
  rw [if_neg (show ¬ (12 : Int32) ≤ 0 by decide)]
  unfold f_L_act
  rw [if_pos (show (0 : Int32) = 0 from rfl), if_neg hr, h]
  rfl
theorem cl_01i {σ : Sg} {p2 p3 p4 : Int32} {e : Nat} (he : e = 1 ∨ e = 2 ∨ e = 3) (h : f_X4_build σ p2 p3 p4 1 = some (.inl e)) : f_L_call σ 0 p2 p3 p4 1 = some (cde e, σ) := by
  unfold f_L_call
  rw [if_neg (show ¬ (12 : Int32) ≤ 0 by decide)]
  unfold f_L_act
  rw [if_pos (show (0 : Int32) = 0 from rfl), if_pos rfl, h]
  rcases he with rfl | rfl | rfl <;> rfl
theorem cl_01r {σ τ : Sg} {p2 p3 p4 : Int32} {y : Int32} (h : f_X4_build σ p2 p3 p4 1 = some (.inr (y, τ))) : f_L_call σ 0 p2 p3 p4 1 = some (y, τ) := by
  unfold f_L_call
  rw [if_neg (show ¬ (12 : Int32) ≤ 0 by decide)]
  unfold f_L_act
  rw [if_pos (show (0 : Int32) = 0 from rfl), if_pos rfl, h]
  rfl
theorem cl_1i {σ : Sg} {p2 : Int32} {p3 : Int32} {p4 : Int32} {p5 : Int32} {e : Nat} (he : e = 1 ∨ e = 2 ∨ e = 3) (h : f_X4_pullDown σ p2 = some (.inl e)) : f_L_call σ 1 p2 p3 p4 p5 = some (cde e, σ) := by
  unfold f_L_call
  rw [if_neg (show ¬ (12 : Int32) ≤ 1 by decide)]
  unfold f_L_act
  rw [if_neg (show ¬ (1 : Int32) = 0 by decide), if_pos (show (1 : Int32) = 1 from rfl)]
  rw [h]
  rcases he with rfl | rfl | rfl <;> rfl
theorem cl_1r {σ τ : Sg} {p2 : Int32} {p3 : Int32} {p4 : Int32} {p5 : Int32} {y : Int32} (h : f_X4_pullDown σ p2 = some (.inr (y, τ))) : f_L_call σ 1 p2 p3 p4 p5 = some (y, τ) := by
  unfold f_L_call
  rw [if_neg (show ¬ (12 : Int32) ≤ 1 by decide)]
  unfold f_L_act
  rw [if_neg (show ¬ (1 : Int32) = 0 by decide), if_pos (show (1 : Int32) = 1 from rfl)]
  rw [h]
  rfl
theorem cl_2i {σ : Sg} {p2 : Int32} {p3 : Int32} {p4 : Int32} {p5 : Int32} {e : Nat} (he : e = 1 ∨ e = 2 ∨ e = 3) (h : f_X4_setPrice σ p2 p3 = some (.inl e)) : f_L_call σ 2 p2 p3 p4 p5 = some (cde e, σ) := by
  unfold f_L_call
  rw [if_neg (show ¬ (12 : Int32) ≤ 2 by decide)]
  unfold f_L_act
  rw [if_neg (show ¬ (2 : Int32) = 0 by decide), if_neg (show ¬ (2 : Int32) = 1 by decide), if_pos (show (2 : Int32) = 2 from rfl)]
  rw [h]
  rcases he with rfl | rfl | rfl <;> rfl
theorem cl_2r {σ τ : Sg} {p2 : Int32} {p3 : Int32} {p4 : Int32} {p5 : Int32} {y : Int32} (h : f_X4_setPrice σ p2 p3 = some (.inr (y, τ))) : f_L_call σ 2 p2 p3 p4 p5 = some (y, τ) := by
  unfold f_L_call
  rw [if_neg (show ¬ (12 : Int32) ≤ 2 by decide)]
  unfold f_L_act
  rw [if_neg (show ¬ (2 : Int32) = 0 by decide), if_neg (show ¬ (2 : Int32) = 1 by decide), if_pos (show (2 : Int32) = 2 from rfl)]
  rw [h]
  rfl
theorem cl_3i {σ : Sg} {p2 : Int32} {p3 : Int32} {p4 : Int32} {p5 : Int32} {e : Nat} (he : e = 1 ∨ e = 2 ∨ e = 3) (h : f_X4_turnStall σ p2 = some (.inl e)) : f_L_call σ 3 p2 p3 p4 p5 = some (cde e, σ) := by
  unfold f_L_call
  rw [if_neg (show ¬ (12 : Int32) ≤ 3 by decide)]
  unfold f_L_act
  rw [if_neg (show ¬ (3 : Int32) = 0 by decide), if_neg (show ¬ (3 : Int32) = 1 by decide), if_neg (show ¬ (3 : Int32) = 2 by decide), if_pos (show (3 : Int32) = 3 from rfl)]
  rw [h]
  rcases he with rfl | rfl | rfl <;> rfl
theorem cl_3r {σ τ : Sg} {p2 : Int32} {p3 : Int32} {p4 : Int32} {p5 : Int32} {y : Int32} (h : f_X4_turnStall σ p2 = some (.inr (y, τ))) : f_L_call σ 3 p2 p3 p4 p5 = some (if y = 0 then 0 else 1, τ) := by
  unfold f_L_call
  rw [if_neg (show ¬ (12 : Int32) ≤ 3 by decide)]
  unfold f_L_act
  rw [if_neg (show ¬ (3 : Int32) = 0 by decide), if_neg (show ¬ (3 : Int32) = 1 by decide), if_neg (show ¬ (3 : Int32) = 2 by decide), if_pos (show (3 : Int32) = 3 from rfl)]
  rw [h]
  by_cases q : y = 0
  · subst q; rfl
  · show bws (if y = 0 then _ else _) _ _ = _
    rw [if_neg q, if_neg q]
    rfl
theorem cl_4i {σ : Sg} {p2 : Int32} {p3 : Int32} {p4 : Int32} {p5 : Int32} {e : Nat} (he : e = 1 ∨ e = 2 ∨ e = 3) (h : f_X4_restock σ p2 p3 p4 p5 = some (.inl e)) : f_L_call σ 4 p2 p3 p4 p5 = some (cde e, σ) := by
  unfold f_L_call
  rw [if_neg (show ¬ (12 : Int32) ≤ 4 by decide)]
  unfold f_L_act
  rw [if_neg (show ¬ (4 : Int32) = 0 by decide), if_neg (show ¬ (4 : Int32) = 1 by decide), if_neg (show ¬ (4 : Int32) = 2 by decide), if_neg (show ¬ (4 : Int32) = 3 by decide), if_pos (show (4 : Int32) = 4 from rfl)]
  rw [h]
  rcases he with rfl | rfl | rfl <;> rfl
theorem cl_4r {σ τ : Sg} {p2 : Int32} {p3 : Int32} {p4 : Int32} {p5 : Int32} {y : Int32} (h : f_X4_restock σ p2 p3 p4 p5 = some (.inr (y, τ))) : f_L_call σ 4 p2 p3 p4 p5 = some (y, τ) := by
  unfold f_L_call
  rw [if_neg (show ¬ (12 : Int32) ≤ 4 by decide)]
  unfold f_L_act
  rw [if_neg (show ¬ (4 : Int32) = 0 by decide), if_neg (show ¬ (4 : Int32) = 1 by decide), if_neg (show ¬ (4 : Int32) = 2 by decide), if_neg (show ¬ (4 : Int32) = 3 by decide), if_pos (show (4 : Int32) = 4 from rfl)]
  rw [h]
  rfl
theorem cl_5i {σ : Sg} {p2 : Int32} {p3 : Int32} {p4 : Int32} {p5 : Int32} {e : Nat} (he : e = 1 ∨ e = 2 ∨ e = 3) (h : f_X4_fund σ p2 p3 = some (.inl e)) : f_L_call σ 5 p2 p3 p4 p5 = some (cde e, σ) := by
  unfold f_L_call
  rw [if_neg (show ¬ (12 : Int32) ≤ 5 by decide)]
  unfold f_L_act
  rw [if_neg (show ¬ (5 : Int32) = 0 by decide), if_neg (show ¬ (5 : Int32) = 1 by decide), if_neg (show ¬ (5 : Int32) = 2 by decide), if_neg (show ¬ (5 : Int32) = 3 by decide), if_neg (show ¬ (5 : Int32) = 4 by decide), if_pos (show (5 : Int32) = 5 from rfl)]
  rw [h]
  rcases he with rfl | rfl | rfl <;> rfl
theorem cl_5r {σ τ : Sg} {p2 : Int32} {p3 : Int32} {p4 : Int32} {p5 : Int32} {y : Int32} (h : f_X4_fund σ p2 p3 = some (.inr (y, τ))) : f_L_call σ 5 p2 p3 p4 p5 = some (y, τ) := by
  unfold f_L_call
  rw [if_neg (show ¬ (12 : Int32) ≤ 5 by decide)]
  unfold f_L_act
  rw [if_neg (show ¬ (5 : Int32) = 0 by decide), if_neg (show ¬ (5 : Int32) = 1 by decide), if_neg (show ¬ (5 : Int32) = 2 by decide), if_neg (show ¬ (5 : Int32) = 3 by decide), if_neg (show ¬ (5 : Int32) = 4 by decide), if_pos (show (5 : Int32) = 5 from rfl)]
  rw [h]
  rfl
theorem cl_6i {σ : Sg} {p2 : Int32} {p3 : Int32} {p4 : Int32} {p5 : Int32} {e : Nat} (he : e = 1 ∨ e = 2 ∨ e = 3) (h : f_X4_collect σ p2 = some (.inl e)) : f_L_call σ 6 p2 p3 p4 p5 = some (cde e, σ) := by
  unfold f_L_call
  rw [if_neg (show ¬ (12 : Int32) ≤ 6 by decide)]
  unfold f_L_act
  rw [if_neg (show ¬ (6 : Int32) = 0 by decide), if_neg (show ¬ (6 : Int32) = 1 by decide), if_neg (show ¬ (6 : Int32) = 2 by decide), if_neg (show ¬ (6 : Int32) = 3 by decide), if_neg (show ¬ (6 : Int32) = 4 by decide), if_neg (show ¬ (6 : Int32) = 5 by decide), if_pos (show (6 : Int32) = 6 from rfl)]
  rw [h]
  rcases he with rfl | rfl | rfl <;> rfl
theorem cl_6r {σ τ : Sg} {p2 : Int32} {p3 : Int32} {p4 : Int32} {p5 : Int32} {y : Int32} (h : f_X4_collect σ p2 = some (.inr (y, τ))) : f_L_call σ 6 p2 p3 p4 p5 = some (y, τ) := by
  unfold f_L_call
  rw [if_neg (show ¬ (12 : Int32) ≤ 6 by decide)]
  unfold f_L_act
  rw [if_neg (show ¬ (6 : Int32) = 0 by decide), if_neg (show ¬ (6 : Int32) = 1 by decide), if_neg (show ¬ (6 : Int32) = 2 by decide), if_neg (show ¬ (6 : Int32) = 3 by decide), if_neg (show ¬ (6 : Int32) = 4 by decide), if_neg (show ¬ (6 : Int32) = 5 by decide), if_pos (show (6 : Int32) = 6 from rfl)]
  rw [h]
  rfl
theorem cl_7i {σ : Sg} {p2 : Int32} {p3 : Int32} {p4 : Int32} {p5 : Int32} {e : Nat} (he : e = 1 ∨ e = 2 ∨ e = 3) (h : f_X4_come σ p2 p3 p4 = some (.inl e)) : f_L_call σ 7 p2 p3 p4 p5 = some (cde e, σ) := by
  unfold f_L_call
  rw [if_neg (show ¬ (12 : Int32) ≤ 7 by decide)]
  unfold f_L_act
  rw [if_neg (show ¬ (7 : Int32) = 0 by decide), if_neg (show ¬ (7 : Int32) = 1 by decide), if_neg (show ¬ (7 : Int32) = 2 by decide), if_neg (show ¬ (7 : Int32) = 3 by decide), if_neg (show ¬ (7 : Int32) = 4 by decide), if_neg (show ¬ (7 : Int32) = 5 by decide), if_neg (show ¬ (7 : Int32) = 6 by decide), if_pos (show (7 : Int32) = 7 from rfl)]
  rw [h]
  rcases he with rfl | rfl | rfl <;> rfl
theorem cl_7r {σ τ : Sg} {p2 : Int32} {p3 : Int32} {p4 : Int32} {p5 : Int32} {y : Int32} (h : f_X4_come σ p2 p3 p4 = some (.inr (y, τ))) : f_L_call σ 7 p2 p3 p4 p5 = some (y, τ) := by
  unfold f_L_call
  rw [if_neg (show ¬ (12 : Int32) ≤ 7 by decide)]
  unfold f_L_act
  rw [if_neg (show ¬ (7 : Int32) = 0 by decide), if_neg (show ¬ (7 : Int32) = 1 by decide), if_neg (show ¬ (7 : Int32) = 2 by decide), if_neg (show ¬ (7 : Int32) = 3 by decide), if_neg (show ¬ (7 : Int32) = 4 by decide), if_neg (show ¬ (7 : Int32) = 5 by decide), if_neg (show ¬ (7 : Int32) = 6 by decide), if_pos (show (7 : Int32) = 7 from rfl)]
  rw [h]
  rfl
theorem cl_8i {σ : Sg} {p2 : Int32} {p3 : Int32} {p4 : Int32} {p5 : Int32} {e : Nat} (he : e = 1 ∨ e = 2 ∨ e = 3) (h : f_X4_setRain σ p2 p3 = some (.inl e)) : f_L_call σ 8 p2 p3 p4 p5 = some (cde e, σ) := by
  unfold f_L_call
  rw [if_neg (show ¬ (12 : Int32) ≤ 8 by decide)]
  unfold f_L_act
  rw [if_neg (show ¬ (8 : Int32) = 0 by decide), if_neg (show ¬ (8 : Int32) = 1 by decide), if_neg (show ¬ (8 : Int32) = 2 by decide), if_neg (show ¬ (8 : Int32) = 3 by decide), if_neg (show ¬ (8 : Int32) = 4 by decide), if_neg (show ¬ (8 : Int32) = 5 by decide), if_neg (show ¬ (8 : Int32) = 6 by decide), if_neg (show ¬ (8 : Int32) = 7 by decide), if_pos (show (8 : Int32) = 8 from rfl)]
  rw [h]
  rcases he with rfl | rfl | rfl <;> rfl
theorem cl_8r {σ τ : Sg} {p2 : Int32} {p3 : Int32} {p4 : Int32} {p5 : Int32} {y : Int32} (h : f_X4_setRain σ p2 p3 = some (.inr (y, τ))) : f_L_call σ 8 p2 p3 p4 p5 = some (y, τ) := by
  unfold f_L_call
  rw [if_neg (show ¬ (12 : Int32) ≤ 8 by decide)]
  unfold f_L_act
  rw [if_neg (show ¬ (8 : Int32) = 0 by decide), if_neg (show ¬ (8 : Int32) = 1 by decide), if_neg (show ¬ (8 : Int32) = 2 by decide), if_neg (show ¬ (8 : Int32) = 3 by decide), if_neg (show ¬ (8 : Int32) = 4 by decide), if_neg (show ¬ (8 : Int32) = 5 by decide), if_neg (show ¬ (8 : Int32) = 6 by decide), if_neg (show ¬ (8 : Int32) = 7 by decide), if_pos (show (8 : Int32) = 8 from rfl)]
  rw [h]
  rfl
theorem cl_9i {σ : Sg} {p2 : Int32} {p3 : Int32} {p4 : Int32} {p5 : Int32} {e : Nat} (he : e = 1 ∨ e = 2 ∨ e = 3) (h : f_X4_pass σ p2 = some (.inl e)) : f_L_call σ 9 p2 p3 p4 p5 = some (cde e, σ) := by
  unfold f_L_call
  rw [if_neg (show ¬ (12 : Int32) ≤ 9 by decide)]
  unfold f_L_act
  rw [if_neg (show ¬ (9 : Int32) = 0 by decide), if_neg (show ¬ (9 : Int32) = 1 by decide), if_neg (show ¬ (9 : Int32) = 2 by decide), if_neg (show ¬ (9 : Int32) = 3 by decide), if_neg (show ¬ (9 : Int32) = 4 by decide), if_neg (show ¬ (9 : Int32) = 5 by decide), if_neg (show ¬ (9 : Int32) = 6 by decide), if_neg (show ¬ (9 : Int32) = 7 by decide), if_neg (show ¬ (9 : Int32) = 8 by decide), if_pos (show (9 : Int32) = 9 from rfl)]
  rw [h]
  rcases he with rfl | rfl | rfl <;> rfl
theorem cl_9r {σ τ : Sg} {p2 : Int32} {p3 : Int32} {p4 : Int32} {p5 : Int32} {y : Int32} (h : f_X4_pass σ p2 = some (.inr (y, τ))) : f_L_call σ 9 p2 p3 p4 p5 = some (y, τ) := by
  unfold f_L_call
  rw [if_neg (show ¬ (12 : Int32) ≤ 9 by decide)]
  unfold f_L_act
  rw [if_neg (show ¬ (9 : Int32) = 0 by decide), if_neg (show ¬ (9 : Int32) = 1 by decide), if_neg (show ¬ (9 : Int32) = 2 by decide), if_neg (show ¬ (9 : Int32) = 3 by decide), if_neg (show ¬ (9 : Int32) = 4 by decide), if_neg (show ¬ (9 : Int32) = 5 by decide), if_neg (show ¬ (9 : Int32) = 6 by decide), if_neg (show ¬ (9 : Int32) = 7 by decide), if_neg (show ¬ (9 : Int32) = 8 by decide), if_pos (show (9 : Int32) = 9 from rfl)]
  rw [h]
  rfl
theorem cl_10i {σ : Sg} {p2 : Int32} {p3 : Int32} {p4 : Int32} {p5 : Int32} {e : Nat} (he : e = 1 ∨ e = 2 ∨ e = 3) (h : f_X4_undo σ = some (.inl e)) : f_L_call σ 10 p2 p3 p4 p5 = some (cde e, σ) := by
  unfold f_L_call
  rw [if_neg (show ¬ (12 : Int32) ≤ 10 by decide)]
  unfold f_L_act
  rw [if_neg (show ¬ (10 : Int32) = 0 by decide), if_neg (show ¬ (10 : Int32) = 1 by decide), if_neg (show ¬ (10 : Int32) = 2 by decide), if_neg (show ¬ (10 : Int32) = 3 by decide), if_neg (show ¬ (10 : Int32) = 4 by decide), if_neg (show ¬ (10 : Int32) = 5 by decide), if_neg (show ¬ (10 : Int32) = 6 by decide), if_neg (show ¬ (10 : Int32) = 7 by decide), if_neg (show ¬ (10 : Int32) = 8 by decide), if_neg (show ¬ (10 : Int32) = 9 by decide), if_pos (show (10 : Int32) = 10 from rfl)]
  rw [h]
  rcases he with rfl | rfl | rfl <;> rfl
theorem cl_10r {σ τ : Sg} {p2 : Int32} {p3 : Int32} {p4 : Int32} {p5 : Int32} {y : Int32} (h : f_X4_undo σ = some (.inr (y, τ))) : f_L_call σ 10 p2 p3 p4 p5 = some (y, τ) := by
  unfold f_L_call
  rw [if_neg (show ¬ (12 : Int32) ≤ 10 by decide)]
  unfold f_L_act
  rw [if_neg (show ¬ (10 : Int32) = 0 by decide), if_neg (show ¬ (10 : Int32) = 1 by decide), if_neg (show ¬ (10 : Int32) = 2 by decide), if_neg (show ¬ (10 : Int32) = 3 by decide), if_neg (show ¬ (10 : Int32) = 4 by decide), if_neg (show ¬ (10 : Int32) = 5 by decide), if_neg (show ¬ (10 : Int32) = 6 by decide), if_neg (show ¬ (10 : Int32) = 7 by decide), if_neg (show ¬ (10 : Int32) = 8 by decide), if_neg (show ¬ (10 : Int32) = 9 by decide), if_pos (show (10 : Int32) = 10 from rfl)]
  rw [h]
  rfl
theorem cl_11i {σ : Sg} {p2 : Int32} {p3 : Int32} {p4 : Int32} {p5 : Int32} {e : Nat} (he : e = 1 ∨ e = 2 ∨ e = 3) (h : f_X4_restoreSnapshot σ = some (.inl e)) : f_L_call σ 11 p2 p3 p4 p5 = some (cde e, σ) := by
  unfold f_L_call
  rw [if_neg (show ¬ (12 : Int32) ≤ 11 by decide)]
  unfold f_L_act
  rw [if_neg (show ¬ (11 : Int32) = 0 by decide), if_neg (show ¬ (11 : Int32) = 1 by decide), if_neg (show ¬ (11 : Int32) = 2 by decide), if_neg (show ¬ (11 : Int32) = 3 by decide), if_neg (show ¬ (11 : Int32) = 4 by decide), if_neg (show ¬ (11 : Int32) = 5 by decide), if_neg (show ¬ (11 : Int32) = 6 by decide), if_neg (show ¬ (11 : Int32) = 7 by decide), if_neg (show ¬ (11 : Int32) = 8 by decide), if_neg (show ¬ (11 : Int32) = 9 by decide), if_neg (show ¬ (11 : Int32) = 10 by decide)]
  rw [h]
  rcases he with rfl | rfl | rfl <;> rfl
theorem cl_11r {σ τ : Sg} {p2 : Int32} {p3 : Int32} {p4 : Int32} {p5 : Int32} {y : Int32} (h : f_X4_restoreSnapshot σ = some (.inr (y, τ))) : f_L_call σ 11 p2 p3 p4 p5 = some (y, τ) := by
  unfold f_L_call
  rw [if_neg (show ¬ (12 : Int32) ≤ 11 by decide)]
  unfold f_L_act
  rw [if_neg (show ¬ (11 : Int32) = 0 by decide), if_neg (show ¬ (11 : Int32) = 1 by decide), if_neg (show ¬ (11 : Int32) = 2 by decide), if_neg (show ¬ (11 : Int32) = 3 by decide), if_neg (show ¬ (11 : Int32) = 4 by decide), if_neg (show ¬ (11 : Int32) = 5 by decide), if_neg (show ¬ (11 : Int32) = 6 by decide), if_neg (show ¬ (11 : Int32) = 7 by decide), if_neg (show ¬ (11 : Int32) = 8 by decide), if_neg (show ¬ (11 : Int32) = 9 by decide), if_neg (show ¬ (11 : Int32) = 10 by decide)]
  rw [h]
  rfl
theorem cl_12i {σ : Sg} {p2 : Int32} {p3 : Int32} {p4 : Int32} {p5 : Int32} {e : Nat} (he : e = 1 ∨ e = 2 ∨ e = 3) (h : f_X4_pitchOf σ p2 = some (.inl e)) : f_L_call σ 12 p2 p3 p4 p5 = some (cde e, σ) := by
  unfold f_L_call
  rw [if_pos (show (12 : Int32) ≤ 12 by decide), if_neg (show ¬ (22 : Int32) ≤ 12 by decide)]
  unfold f_L_stall
  rw [if_pos (show (12 : Int32) = 12 from rfl)]
  rw [h]
  rcases he with rfl | rfl | rfl <;> rfl
theorem cl_12r {σ : Sg} {p2 : Int32} {p3 : Int32} {p4 : Int32} {p5 : Int32} {y : Int32} (h : f_X4_pitchOf σ p2 = some (.inr y)) : f_L_call σ 12 p2 p3 p4 p5 = some (y, σ) := by
  unfold f_L_call
  rw [if_pos (show (12 : Int32) ≤ 12 by decide), if_neg (show ¬ (22 : Int32) ≤ 12 by decide)]
  unfold f_L_stall
  rw [if_pos (show (12 : Int32) = 12 from rfl)]
  rw [h]
  rfl
theorem cl_13i {σ : Sg} {p2 : Int32} {p3 : Int32} {p4 : Int32} {p5 : Int32} {e : Nat} (he : e = 1 ∨ e = 2 ∨ e = 3) (h : f_X4_priceOf σ p2 = some (.inl e)) : f_L_call σ 13 p2 p3 p4 p5 = some (cde e, σ) := by
  unfold f_L_call
  rw [if_pos (show (12 : Int32) ≤ 13 by decide), if_neg (show ¬ (22 : Int32) ≤ 13 by decide)]
  unfold f_L_stall
  rw [if_neg (show ¬ (13 : Int32) = 12 by decide), if_pos (show (13 : Int32) = 13 from rfl)]
  rw [h]
  rcases he with rfl | rfl | rfl <;> rfl
theorem cl_13r {σ : Sg} {p2 : Int32} {p3 : Int32} {p4 : Int32} {p5 : Int32} {y : Int32} (h : f_X4_priceOf σ p2 = some (.inr y)) : f_L_call σ 13 p2 p3 p4 p5 = some (y, σ) := by
  unfold f_L_call
  rw [if_pos (show (12 : Int32) ≤ 13 by decide), if_neg (show ¬ (22 : Int32) ≤ 13 by decide)]
  unfold f_L_stall
  rw [if_neg (show ¬ (13 : Int32) = 12 by decide), if_pos (show (13 : Int32) = 13 from rfl)]
  rw [h]
  rfl
theorem cl_14i {σ : Sg} {p2 : Int32} {p3 : Int32} {p4 : Int32} {p5 : Int32} {e : Nat} (he : e = 1 ∨ e = 2 ∨ e = 3) (h : f_X4_isOpen σ p2 = some (.inl e)) : f_L_call σ 14 p2 p3 p4 p5 = some (cde e, σ) := by
  unfold f_L_call
  rw [if_pos (show (12 : Int32) ≤ 14 by decide), if_neg (show ¬ (22 : Int32) ≤ 14 by decide)]
  unfold f_L_stall
  rw [if_neg (show ¬ (14 : Int32) = 12 by decide), if_neg (show ¬ (14 : Int32) = 13 by decide), if_pos (show (14 : Int32) = 14 from rfl)]
  rw [h]
  rcases he with rfl | rfl | rfl <;> rfl
theorem cl_14r {σ : Sg} {p2 : Int32} {p3 : Int32} {p4 : Int32} {p5 : Int32} {y : Int32} (h : f_X4_isOpen σ p2 = some (.inr y)) : f_L_call σ 14 p2 p3 p4 p5 = some (if y = 0 then 0 else 1, σ) := by
  unfold f_L_call
  rw [if_pos (show (12 : Int32) ≤ 14 by decide), if_neg (show ¬ (22 : Int32) ≤ 14 by decide)]
  unfold f_L_stall
  rw [if_neg (show ¬ (14 : Int32) = 12 by decide), if_neg (show ¬ (14 : Int32) = 13 by decide), if_pos (show (14 : Int32) = 14 from rfl)]
  rw [h]
  by_cases q : y = 0
  · subst q; rfl
  · show bws (if y = 0 then _ else _) _ _ = _
    rw [if_neg q, if_neg q]
    rfl
theorem cl_15i {σ : Sg} {p2 : Int32} {p3 : Int32} {p4 : Int32} {p5 : Int32} {e : Nat} (he : e = 1 ∨ e = 2 ∨ e = 3) (h : f_X4_purseOfStall σ p2 = some (.inl e)) : f_L_call σ 15 p2 p3 p4 p5 = some (cde e, σ) := by
  unfold f_L_call
  rw [if_pos (show (12 : Int32) ≤ 15 by decide), if_neg (show ¬ (22 : Int32) ≤ 15 by decide)]
  unfold f_L_stall
  rw [if_neg (show ¬ (15 : Int32) = 12 by decide), if_neg (show ¬ (15 : Int32) = 13 by decide), if_neg (show ¬ (15 : Int32) = 14 by decide), if_pos (show (15 : Int32) = 15 from rfl)]
  rw [h]
  rcases he with rfl | rfl | rfl <;> rfl
theorem cl_15r {σ : Sg} {p2 : Int32} {p3 : Int32} {p4 : Int32} {p5 : Int32} {y : Int32} (h : f_X4_purseOfStall σ p2 = some (.inr y)) : f_L_call σ 15 p2 p3 p4 p5 = some (y, σ) := by
  unfold f_L_call
  rw [if_pos (show (12 : Int32) ≤ 15 by decide), if_neg (show ¬ (22 : Int32) ≤ 15 by decide)]
  unfold f_L_stall
  rw [if_neg (show ¬ (15 : Int32) = 12 by decide), if_neg (show ¬ (15 : Int32) = 13 by decide), if_neg (show ¬ (15 : Int32) = 14 by decide), if_pos (show (15 : Int32) = 15 from rfl)]
  rw [h]
  rfl
theorem cl_16i {σ : Sg} {p2 : Int32} {p3 : Int32} {p4 : Int32} {p5 : Int32} {e : Nat} (he : e = 1 ∨ e = 2 ∨ e = 3) (h : f_X4_playsOf σ p2 = some (.inl e)) : f_L_call σ 16 p2 p3 p4 p5 = some (cde e, σ) := by
  unfold f_L_call
  rw [if_pos (show (12 : Int32) ≤ 16 by decide), if_neg (show ¬ (22 : Int32) ≤ 16 by decide)]
  unfold f_L_stall
  rw [if_neg (show ¬ (16 : Int32) = 12 by decide), if_neg (show ¬ (16 : Int32) = 13 by decide), if_neg (show ¬ (16 : Int32) = 14 by decide), if_neg (show ¬ (16 : Int32) = 15 by decide), if_pos (show (16 : Int32) = 16 from rfl)]
  rw [h]
  rcases he with rfl | rfl | rfl <;> rfl
theorem cl_16r {σ : Sg} {p2 : Int32} {p3 : Int32} {p4 : Int32} {p5 : Int32} {y : Int32} (h : f_X4_playsOf σ p2 = some (.inr y)) : f_L_call σ 16 p2 p3 p4 p5 = some (y, σ) := by
  unfold f_L_call
  rw [if_pos (show (12 : Int32) ≤ 16 by decide), if_neg (show ¬ (22 : Int32) ≤ 16 by decide)]
  unfold f_L_stall
  rw [if_neg (show ¬ (16 : Int32) = 12 by decide), if_neg (show ¬ (16 : Int32) = 13 by decide), if_neg (show ¬ (16 : Int32) = 14 by decide), if_neg (show ¬ (16 : Int32) = 15 by decide), if_pos (show (16 : Int32) = 16 from rfl)]
  rw [h]
  rfl
theorem cl_17i {σ : Sg} {p2 : Int32} {p3 : Int32} {p4 : Int32} {p5 : Int32} {e : Nat} (he : e = 1 ∨ e = 2 ∨ e = 3) (h : f_X4_rentOf σ p2 = some (.inl e)) : f_L_call σ 17 p2 p3 p4 p5 = some (cde e, σ) := by
  unfold f_L_call
  rw [if_pos (show (12 : Int32) ≤ 17 by decide), if_neg (show ¬ (22 : Int32) ≤ 17 by decide)]
  unfold f_L_stall
  rw [if_neg (show ¬ (17 : Int32) = 12 by decide), if_neg (show ¬ (17 : Int32) = 13 by decide), if_neg (show ¬ (17 : Int32) = 14 by decide), if_neg (show ¬ (17 : Int32) = 15 by decide), if_neg (show ¬ (17 : Int32) = 16 by decide), if_pos (show (17 : Int32) = 17 from rfl)]
  rw [h]
  rcases he with rfl | rfl | rfl <;> rfl
theorem cl_17r {σ : Sg} {p2 : Int32} {p3 : Int32} {p4 : Int32} {p5 : Int32} {y : Int32} (h : f_X4_rentOf σ p2 = some (.inr y)) : f_L_call σ 17 p2 p3 p4 p5 = some (y, σ) := by
  unfold f_L_call
  rw [if_pos (show (12 : Int32) ≤ 17 by decide), if_neg (show ¬ (22 : Int32) ≤ 17 by decide)]
  unfold f_L_stall
  rw [if_neg (show ¬ (17 : Int32) = 12 by decide), if_neg (show ¬ (17 : Int32) = 13 by decide), if_neg (show ¬ (17 : Int32) = 14 by decide), if_neg (show ¬ (17 : Int32) = 15 by decide), if_neg (show ¬ (17 : Int32) = 16 by decide), if_pos (show (17 : Int32) = 17 from rfl)]
  rw [h]
  rfl
theorem cl_18i {σ : Sg} {p2 : Int32} {p3 : Int32} {p4 : Int32} {p5 : Int32} {e : Nat} (he : e = 1 ∨ e = 2 ∨ e = 3) (h : f_X4_playsToWin σ p2 = some (.inl e)) : f_L_call σ 18 p2 p3 p4 p5 = some (cde e, σ) := by
  unfold f_L_call
  rw [if_pos (show (12 : Int32) ≤ 18 by decide), if_neg (show ¬ (22 : Int32) ≤ 18 by decide)]
  unfold f_L_stall
  rw [if_neg (show ¬ (18 : Int32) = 12 by decide), if_neg (show ¬ (18 : Int32) = 13 by decide), if_neg (show ¬ (18 : Int32) = 14 by decide), if_neg (show ¬ (18 : Int32) = 15 by decide), if_neg (show ¬ (18 : Int32) = 16 by decide), if_neg (show ¬ (18 : Int32) = 17 by decide), if_pos (show (18 : Int32) = 18 from rfl)]
  rw [h]
  rcases he with rfl | rfl | rfl <;> rfl
theorem cl_18r {σ : Sg} {p2 : Int32} {p3 : Int32} {p4 : Int32} {p5 : Int32} {y : Int32} (h : f_X4_playsToWin σ p2 = some (.inr y)) : f_L_call σ 18 p2 p3 p4 p5 = some (y, σ) := by
  unfold f_L_call
  rw [if_pos (show (12 : Int32) ≤ 18 by decide), if_neg (show ¬ (22 : Int32) ≤ 18 by decide)]
  unfold f_L_stall
  rw [if_neg (show ¬ (18 : Int32) = 12 by decide), if_neg (show ¬ (18 : Int32) = 13 by decide), if_neg (show ¬ (18 : Int32) = 14 by decide), if_neg (show ¬ (18 : Int32) = 15 by decide), if_neg (show ¬ (18 : Int32) = 16 by decide), if_neg (show ¬ (18 : Int32) = 17 by decide), if_pos (show (18 : Int32) = 18 from rfl)]
  rw [h]
  rfl
theorem cl_19i {σ : Sg} {p2 : Int32} {p3 : Int32} {p4 : Int32} {p5 : Int32} {e : Nat} (he : e = 1 ∨ e = 2 ∨ e = 3) (h : f_X4_shelfOf σ p2 = some (.inl e)) : f_L_call σ 19 p2 p3 p4 p5 = some (cde e, σ) := by
  unfold f_L_call
  rw [if_pos (show (12 : Int32) ≤ 19 by decide), if_neg (show ¬ (22 : Int32) ≤ 19 by decide)]
  unfold f_L_stall
  rw [if_neg (show ¬ (19 : Int32) = 12 by decide), if_neg (show ¬ (19 : Int32) = 13 by decide), if_neg (show ¬ (19 : Int32) = 14 by decide), if_neg (show ¬ (19 : Int32) = 15 by decide), if_neg (show ¬ (19 : Int32) = 16 by decide), if_neg (show ¬ (19 : Int32) = 17 by decide), if_neg (show ¬ (19 : Int32) = 18 by decide), if_pos (show (19 : Int32) = 19 from rfl)]
  rw [h]
  rcases he with rfl | rfl | rfl <;> rfl
theorem cl_19r {σ : Sg} {p2 : Int32} {p3 : Int32} {p4 : Int32} {p5 : Int32} {y : Int32} (h : f_X4_shelfOf σ p2 = some (.inr y)) : f_L_call σ 19 p2 p3 p4 p5 = some (y, σ) := by
  unfold f_L_call
  rw [if_pos (show (12 : Int32) ≤ 19 by decide), if_neg (show ¬ (22 : Int32) ≤ 19 by decide)]
  unfold f_L_stall
  rw [if_neg (show ¬ (19 : Int32) = 12 by decide), if_neg (show ¬ (19 : Int32) = 13 by decide), if_neg (show ¬ (19 : Int32) = 14 by decide), if_neg (show ¬ (19 : Int32) = 15 by decide), if_neg (show ¬ (19 : Int32) = 16 by decide), if_neg (show ¬ (19 : Int32) = 17 by decide), if_neg (show ¬ (19 : Int32) = 18 by decide), if_pos (show (19 : Int32) = 19 from rfl)]
  rw [h]
  rfl
theorem cl_20i {σ : Sg} {p2 : Int32} {p3 : Int32} {p4 : Int32} {p5 : Int32} {e : Nat} (he : e = 1 ∨ e = 2 ∨ e = 3) (h : f_X4_levelToWin σ p2 = some (.inl e)) : f_L_call σ 20 p2 p3 p4 p5 = some (cde e, σ) := by
  unfold f_L_call
  rw [if_pos (show (12 : Int32) ≤ 20 by decide), if_neg (show ¬ (22 : Int32) ≤ 20 by decide)]
  unfold f_L_stall
  rw [if_neg (show ¬ (20 : Int32) = 12 by decide), if_neg (show ¬ (20 : Int32) = 13 by decide), if_neg (show ¬ (20 : Int32) = 14 by decide), if_neg (show ¬ (20 : Int32) = 15 by decide), if_neg (show ¬ (20 : Int32) = 16 by decide), if_neg (show ¬ (20 : Int32) = 17 by decide), if_neg (show ¬ (20 : Int32) = 18 by decide), if_neg (show ¬ (20 : Int32) = 19 by decide), if_pos (show (20 : Int32) = 20 from rfl)]
  rw [h]
  rcases he with rfl | rfl | rfl <;> rfl
theorem cl_20r {σ : Sg} {p2 : Int32} {p3 : Int32} {p4 : Int32} {p5 : Int32} {y : Int32} (h : f_X4_levelToWin σ p2 = some (.inr y)) : f_L_call σ 20 p2 p3 p4 p5 = some (y, σ) := by
  unfold f_L_call
  rw [if_pos (show (12 : Int32) ≤ 20 by decide), if_neg (show ¬ (22 : Int32) ≤ 20 by decide)]
  unfold f_L_stall
  rw [if_neg (show ¬ (20 : Int32) = 12 by decide), if_neg (show ¬ (20 : Int32) = 13 by decide), if_neg (show ¬ (20 : Int32) = 14 by decide), if_neg (show ¬ (20 : Int32) = 15 by decide), if_neg (show ¬ (20 : Int32) = 16 by decide), if_neg (show ¬ (20 : Int32) = 17 by decide), if_neg (show ¬ (20 : Int32) = 18 by decide), if_neg (show ¬ (20 : Int32) = 19 by decide), if_pos (show (20 : Int32) = 20 from rfl)]
  rw [h]
  rfl
theorem cl_21i {σ : Sg} {p2 : Int32} {p3 : Int32} {p4 : Int32} {p5 : Int32} {e : Nat} (he : e = 1 ∨ e = 2 ∨ e = 3) (h : f_X4_prizesOn σ p2 p3 p4 = some (.inl e)) : f_L_call σ 21 p2 p3 p4 p5 = some (cde e, σ) := by
  unfold f_L_call
  rw [if_pos (show (12 : Int32) ≤ 21 by decide), if_neg (show ¬ (22 : Int32) ≤ 21 by decide)]
  unfold f_L_stall
  rw [if_neg (show ¬ (21 : Int32) = 12 by decide), if_neg (show ¬ (21 : Int32) = 13 by decide), if_neg (show ¬ (21 : Int32) = 14 by decide), if_neg (show ¬ (21 : Int32) = 15 by decide), if_neg (show ¬ (21 : Int32) = 16 by decide), if_neg (show ¬ (21 : Int32) = 17 by decide), if_neg (show ¬ (21 : Int32) = 18 by decide), if_neg (show ¬ (21 : Int32) = 19 by decide), if_neg (show ¬ (21 : Int32) = 20 by decide)]
  rw [h]
  rcases he with rfl | rfl | rfl <;> rfl
theorem cl_21r {σ : Sg} {p2 : Int32} {p3 : Int32} {p4 : Int32} {p5 : Int32} {y : Int32} (h : f_X4_prizesOn σ p2 p3 p4 = some (.inr y)) : f_L_call σ 21 p2 p3 p4 p5 = some (y, σ) := by
  unfold f_L_call
  rw [if_pos (show (12 : Int32) ≤ 21 by decide), if_neg (show ¬ (22 : Int32) ≤ 21 by decide)]
  unfold f_L_stall
  rw [if_neg (show ¬ (21 : Int32) = 12 by decide), if_neg (show ¬ (21 : Int32) = 13 by decide), if_neg (show ¬ (21 : Int32) = 14 by decide), if_neg (show ¬ (21 : Int32) = 15 by decide), if_neg (show ¬ (21 : Int32) = 16 by decide), if_neg (show ¬ (21 : Int32) = 17 by decide), if_neg (show ¬ (21 : Int32) = 18 by decide), if_neg (show ¬ (21 : Int32) = 19 by decide), if_neg (show ¬ (21 : Int32) = 20 by decide)]
  rw [h]
  rfl
theorem cl_22i {σ : Sg} {p2 : Int32} {p3 : Int32} {p4 : Int32} {p5 : Int32} {e : Nat} (he : e = 1 ∨ e = 2 ∨ e = 3) (h : f_X4_isAtFair σ p2 = some (.inl e)) : f_L_call σ 22 p2 p3 p4 p5 = some (cde e, σ) := by
  unfold f_L_call
  rw [if_pos (show (12 : Int32) ≤ 22 by decide), if_pos (show (22 : Int32) ≤ 22 by decide), if_neg (show ¬ (32 : Int32) ≤ 22 by decide)]
  unfold f_L_child
  rw [if_pos (show (22 : Int32) = 22 from rfl)]
  rw [h]
  rcases he with rfl | rfl | rfl <;> rfl
theorem cl_22r {σ : Sg} {p2 : Int32} {p3 : Int32} {p4 : Int32} {p5 : Int32} {y : Int32} (h : f_X4_isAtFair σ p2 = some (.inr y)) : f_L_call σ 22 p2 p3 p4 p5 = some (if y = 0 then 0 else 1, σ) := by
  unfold f_L_call
  rw [if_pos (show (12 : Int32) ≤ 22 by decide), if_pos (show (22 : Int32) ≤ 22 by decide), if_neg (show ¬ (32 : Int32) ≤ 22 by decide)]
  unfold f_L_child
  rw [if_pos (show (22 : Int32) = 22 from rfl)]
  rw [h]
  by_cases q : y = 0
  · subst q; rfl
  · show bws (if y = 0 then _ else _) _ _ = _
    rw [if_neg q, if_neg q]
    rfl
theorem cl_23i {σ : Sg} {p2 : Int32} {p3 : Int32} {p4 : Int32} {p5 : Int32} {e : Nat} (he : e = 1 ∨ e = 2 ∨ e = 3) (h : f_X4_purseOf σ p2 = some (.inl e)) : f_L_call σ 23 p2 p3 p4 p5 = some (cde e, σ) := by
  unfold f_L_call
  rw [if_pos (show (12 : Int32) ≤ 23 by decide), if_pos (show (22 : Int32) ≤ 23 by decide), if_neg (show ¬ (32 : Int32) ≤ 23 by decide)]
  unfold f_L_child
  rw [if_neg (show ¬ (23 : Int32) = 22 by decide), if_pos (show (23 : Int32) = 23 from rfl)]
  rw [h]
  rcases he with rfl | rfl | rfl <;> rfl
theorem cl_23r {σ : Sg} {p2 : Int32} {p3 : Int32} {p4 : Int32} {p5 : Int32} {y : Int32} (h : f_X4_purseOf σ p2 = some (.inr y)) : f_L_call σ 23 p2 p3 p4 p5 = some (y, σ) := by
  unfold f_L_call
  rw [if_pos (show (12 : Int32) ≤ 23 by decide), if_pos (show (22 : Int32) ≤ 23 by decide), if_neg (show ¬ (32 : Int32) ≤ 23 by decide)]
  unfold f_L_child
  rw [if_neg (show ¬ (23 : Int32) = 22 by decide), if_pos (show (23 : Int32) = 23 from rfl)]
  rw [h]
  rfl
theorem cl_24i {σ : Sg} {p2 : Int32} {p3 : Int32} {p4 : Int32} {p5 : Int32} {e : Nat} (he : e = 1 ∨ e = 2 ∨ e = 3) (h : f_X4_moodOf σ p2 = some (.inl e)) : f_L_call σ 24 p2 p3 p4 p5 = some (cde e, σ) := by
  unfold f_L_call
  rw [if_pos (show (12 : Int32) ≤ 24 by decide), if_pos (show (22 : Int32) ≤ 24 by decide), if_neg (show ¬ (32 : Int32) ≤ 24 by decide)]
  unfold f_L_child
  rw [if_neg (show ¬ (24 : Int32) = 22 by decide), if_neg (show ¬ (24 : Int32) = 23 by decide), if_pos (show (24 : Int32) = 24 from rfl)]
  rw [h]
  rcases he with rfl | rfl | rfl <;> rfl
theorem cl_24r {σ : Sg} {p2 : Int32} {p3 : Int32} {p4 : Int32} {p5 : Int32} {y : Int32} (h : f_X4_moodOf σ p2 = some (.inr y)) : f_L_call σ 24 p2 p3 p4 p5 = some (y, σ) := by
  unfold f_L_call
  rw [if_pos (show (12 : Int32) ≤ 24 by decide), if_pos (show (22 : Int32) ≤ 24 by decide), if_neg (show ¬ (32 : Int32) ≤ 24 by decide)]
  unfold f_L_child
  rw [if_neg (show ¬ (24 : Int32) = 22 by decide), if_neg (show ¬ (24 : Int32) = 23 by decide), if_pos (show (24 : Int32) = 24 from rfl)]
  rw [h]
  rfl
theorem cl_25i {σ : Sg} {p2 : Int32} {p3 : Int32} {p4 : Int32} {p5 : Int32} {e : Nat} (he : e = 1 ∨ e = 2 ∨ e = 3) (h : f_X4_placeOf σ p2 = some (.inl e)) : f_L_call σ 25 p2 p3 p4 p5 = some (cde e, σ) := by
  unfold f_L_call
  rw [if_pos (show (12 : Int32) ≤ 25 by decide), if_pos (show (22 : Int32) ≤ 25 by decide), if_neg (show ¬ (32 : Int32) ≤ 25 by decide)]
  unfold f_L_child
  rw [if_neg (show ¬ (25 : Int32) = 22 by decide), if_neg (show ¬ (25 : Int32) = 23 by decide), if_neg (show ¬ (25 : Int32) = 24 by decide), if_pos (show (25 : Int32) = 25 from rfl)]
  rw [h]
  rcases he with rfl | rfl | rfl <;> rfl
theorem cl_25r {σ : Sg} {p2 : Int32} {p3 : Int32} {p4 : Int32} {p5 : Int32} {y : Int32} (h : f_X4_placeOf σ p2 = some (.inr y)) : f_L_call σ 25 p2 p3 p4 p5 = some (y, σ) := by
  unfold f_L_call
  rw [if_pos (show (12 : Int32) ≤ 25 by decide), if_pos (show (22 : Int32) ≤ 25 by decide), if_neg (show ¬ (32 : Int32) ≤ 25 by decide)]
  unfold f_L_child
  rw [if_neg (show ¬ (25 : Int32) = 22 by decide), if_neg (show ¬ (25 : Int32) = 23 by decide), if_neg (show ¬ (25 : Int32) = 24 by decide), if_pos (show (25 : Int32) = 25 from rfl)]
  rw [h]
  rfl
theorem cl_26i {σ : Sg} {p2 : Int32} {p3 : Int32} {p4 : Int32} {p5 : Int32} {e : Nat} (he : e = 1 ∨ e = 2 ∨ e = 3) (h : f_X4_isHomeward σ p2 = some (.inl e)) : f_L_call σ 26 p2 p3 p4 p5 = some (cde e, σ) := by
  unfold f_L_call
  rw [if_pos (show (12 : Int32) ≤ 26 by decide), if_pos (show (22 : Int32) ≤ 26 by decide), if_neg (show ¬ (32 : Int32) ≤ 26 by decide)]
  unfold f_L_child
  rw [if_neg (show ¬ (26 : Int32) = 22 by decide), if_neg (show ¬ (26 : Int32) = 23 by decide), if_neg (show ¬ (26 : Int32) = 24 by decide), if_neg (show ¬ (26 : Int32) = 25 by decide), if_pos (show (26 : Int32) = 26 from rfl)]
  rw [h]
  rcases he with rfl | rfl | rfl <;> rfl
theorem cl_26r {σ : Sg} {p2 : Int32} {p3 : Int32} {p4 : Int32} {p5 : Int32} {y : Int32} (h : f_X4_isHomeward σ p2 = some (.inr y)) : f_L_call σ 26 p2 p3 p4 p5 = some (if y = 0 then 0 else 1, σ) := by
  unfold f_L_call
  rw [if_pos (show (12 : Int32) ≤ 26 by decide), if_pos (show (22 : Int32) ≤ 26 by decide), if_neg (show ¬ (32 : Int32) ≤ 26 by decide)]
  unfold f_L_child
  rw [if_neg (show ¬ (26 : Int32) = 22 by decide), if_neg (show ¬ (26 : Int32) = 23 by decide), if_neg (show ¬ (26 : Int32) = 24 by decide), if_neg (show ¬ (26 : Int32) = 25 by decide), if_pos (show (26 : Int32) = 26 from rfl)]
  rw [h]
  by_cases q : y = 0
  · subst q; rfl
  · show bws (if y = 0 then _ else _) _ _ = _
    rw [if_neg q, if_neg q]
    rfl
theorem cl_27i {σ : Sg} {p2 : Int32} {p3 : Int32} {p4 : Int32} {p5 : Int32} {e : Nat} (he : e = 1 ∨ e = 2 ∨ e = 3) (h : f_X4_prizesOf σ p2 = some (.inl e)) : f_L_call σ 27 p2 p3 p4 p5 = some (cde e, σ) := by
  unfold f_L_call
  rw [if_pos (show (12 : Int32) ≤ 27 by decide), if_pos (show (22 : Int32) ≤ 27 by decide), if_neg (show ¬ (32 : Int32) ≤ 27 by decide)]
  unfold f_L_child
  rw [if_neg (show ¬ (27 : Int32) = 22 by decide), if_neg (show ¬ (27 : Int32) = 23 by decide), if_neg (show ¬ (27 : Int32) = 24 by decide), if_neg (show ¬ (27 : Int32) = 25 by decide), if_neg (show ¬ (27 : Int32) = 26 by decide), if_pos (show (27 : Int32) = 27 from rfl)]
  rw [h]
  rcases he with rfl | rfl | rfl <;> rfl
theorem cl_27r {σ : Sg} {p2 : Int32} {p3 : Int32} {p4 : Int32} {p5 : Int32} {y : Int32} (h : f_X4_prizesOf σ p2 = some (.inr y)) : f_L_call σ 27 p2 p3 p4 p5 = some (y, σ) := by
  unfold f_L_call
  rw [if_pos (show (12 : Int32) ≤ 27 by decide), if_pos (show (22 : Int32) ≤ 27 by decide), if_neg (show ¬ (32 : Int32) ≤ 27 by decide)]
  unfold f_L_child
  rw [if_neg (show ¬ (27 : Int32) = 22 by decide), if_neg (show ¬ (27 : Int32) = 23 by decide), if_neg (show ¬ (27 : Int32) = 24 by decide), if_neg (show ¬ (27 : Int32) = 25 by decide), if_neg (show ¬ (27 : Int32) = 26 by decide), if_pos (show (27 : Int32) = 27 from rfl)]
  rw [h]
  rfl
theorem cl_28i {σ : Sg} {p2 : Int32} {p3 : Int32} {p4 : Int32} {p5 : Int32} {e : Nat} (he : e = 1 ∨ e = 2 ∨ e = 3) (h : f_X4_whyNoPlay σ p2 = some (.inl e)) : f_L_call σ 28 p2 p3 p4 p5 = some (cde e, σ) := by
  unfold f_L_call
  rw [if_pos (show (12 : Int32) ≤ 28 by decide), if_pos (show (22 : Int32) ≤ 28 by decide), if_neg (show ¬ (32 : Int32) ≤ 28 by decide)]
  unfold f_L_child
  rw [if_neg (show ¬ (28 : Int32) = 22 by decide), if_neg (show ¬ (28 : Int32) = 23 by decide), if_neg (show ¬ (28 : Int32) = 24 by decide), if_neg (show ¬ (28 : Int32) = 25 by decide), if_neg (show ¬ (28 : Int32) = 26 by decide), if_neg (show ¬ (28 : Int32) = 27 by decide), if_pos (show (28 : Int32) = 28 from rfl)]
  rw [h]
  rcases he with rfl | rfl | rfl <;> rfl
theorem cl_28r {σ : Sg} {p2 : Int32} {p3 : Int32} {p4 : Int32} {p5 : Int32} {y : Int32} (h : f_X4_whyNoPlay σ p2 = some (.inr y)) : f_L_call σ 28 p2 p3 p4 p5 = some (y, σ) := by
  unfold f_L_call
  rw [if_pos (show (12 : Int32) ≤ 28 by decide), if_pos (show (22 : Int32) ≤ 28 by decide), if_neg (show ¬ (32 : Int32) ≤ 28 by decide)]
  unfold f_L_child
  rw [if_neg (show ¬ (28 : Int32) = 22 by decide), if_neg (show ¬ (28 : Int32) = 23 by decide), if_neg (show ¬ (28 : Int32) = 24 by decide), if_neg (show ¬ (28 : Int32) = 25 by decide), if_neg (show ¬ (28 : Int32) = 26 by decide), if_neg (show ¬ (28 : Int32) = 27 by decide), if_pos (show (28 : Int32) = 28 from rfl)]
  rw [h]
  rfl
theorem cl_29i {σ : Sg} {p2 : Int32} {p3 : Int32} {p4 : Int32} {p5 : Int32} {e : Nat} (he : e = 1 ∨ e = 2 ∨ e = 3) (h : f_X4_homeIn σ p2 = some (.inl e)) : f_L_call σ 29 p2 p3 p4 p5 = some (cde e, σ) := by
  unfold f_L_call
  rw [if_pos (show (12 : Int32) ≤ 29 by decide), if_pos (show (22 : Int32) ≤ 29 by decide), if_neg (show ¬ (32 : Int32) ≤ 29 by decide)]
  unfold f_L_child
  rw [if_neg (show ¬ (29 : Int32) = 22 by decide), if_neg (show ¬ (29 : Int32) = 23 by decide), if_neg (show ¬ (29 : Int32) = 24 by decide), if_neg (show ¬ (29 : Int32) = 25 by decide), if_neg (show ¬ (29 : Int32) = 26 by decide), if_neg (show ¬ (29 : Int32) = 27 by decide), if_neg (show ¬ (29 : Int32) = 28 by decide), if_pos (show (29 : Int32) = 29 from rfl)]
  rw [h]
  rcases he with rfl | rfl | rfl <;> rfl
theorem cl_29r {σ τ : Sg} {p2 : Int32} {p3 : Int32} {p4 : Int32} {p5 : Int32} {y : Int32} (h : f_X4_homeIn σ p2 = some (.inr (y, τ))) : f_L_call σ 29 p2 p3 p4 p5 = some (y, τ) := by
  unfold f_L_call
  rw [if_pos (show (12 : Int32) ≤ 29 by decide), if_pos (show (22 : Int32) ≤ 29 by decide), if_neg (show ¬ (32 : Int32) ≤ 29 by decide)]
  unfold f_L_child
  rw [if_neg (show ¬ (29 : Int32) = 22 by decide), if_neg (show ¬ (29 : Int32) = 23 by decide), if_neg (show ¬ (29 : Int32) = 24 by decide), if_neg (show ¬ (29 : Int32) = 25 by decide), if_neg (show ¬ (29 : Int32) = 26 by decide), if_neg (show ¬ (29 : Int32) = 27 by decide), if_neg (show ¬ (29 : Int32) = 28 by decide), if_pos (show (29 : Int32) = 29 from rfl)]
  rw [h]
  rfl
theorem cl_30i {σ : Sg} {p2 : Int32} {p3 : Int32} {p4 : Int32} {p5 : Int32} {e : Nat} (he : e = 1 ∨ e = 2 ∨ e = 3) (h : f_X4_stallOn σ p2 = some (.inl e)) : f_L_call σ 30 p2 p3 p4 p5 = some (cde e, σ) := by
  unfold f_L_call
  rw [if_pos (show (12 : Int32) ≤ 30 by decide), if_pos (show (22 : Int32) ≤ 30 by decide), if_neg (show ¬ (32 : Int32) ≤ 30 by decide)]
  unfold f_L_child
  rw [if_neg (show ¬ (30 : Int32) = 22 by decide), if_neg (show ¬ (30 : Int32) = 23 by decide), if_neg (show ¬ (30 : Int32) = 24 by decide), if_neg (show ¬ (30 : Int32) = 25 by decide), if_neg (show ¬ (30 : Int32) = 26 by decide), if_neg (show ¬ (30 : Int32) = 27 by decide), if_neg (show ¬ (30 : Int32) = 28 by decide), if_neg (show ¬ (30 : Int32) = 29 by decide), if_pos (show (30 : Int32) = 30 from rfl)]
  rw [h]
  rcases he with rfl | rfl | rfl <;> rfl
theorem cl_30r {σ : Sg} {p2 : Int32} {p3 : Int32} {p4 : Int32} {p5 : Int32} {y : Int32} (h : f_X4_stallOn σ p2 = some (.inr y)) : f_L_call σ 30 p2 p3 p4 p5 = some (y, σ) := by
  unfold f_L_call
  rw [if_pos (show (12 : Int32) ≤ 30 by decide), if_pos (show (22 : Int32) ≤ 30 by decide), if_neg (show ¬ (32 : Int32) ≤ 30 by decide)]
  unfold f_L_child
  rw [if_neg (show ¬ (30 : Int32) = 22 by decide), if_neg (show ¬ (30 : Int32) = 23 by decide), if_neg (show ¬ (30 : Int32) = 24 by decide), if_neg (show ¬ (30 : Int32) = 25 by decide), if_neg (show ¬ (30 : Int32) = 26 by decide), if_neg (show ¬ (30 : Int32) = 27 by decide), if_neg (show ¬ (30 : Int32) = 28 by decide), if_neg (show ¬ (30 : Int32) = 29 by decide), if_pos (show (30 : Int32) = 30 from rfl)]
  rw [h]
  rfl
theorem cl_31i {σ : Sg} {p2 : Int32} {p3 : Int32} {p4 : Int32} {p5 : Int32} {e : Nat} (he : e = 1 ∨ e = 2 ∨ e = 3) (h : f_X4_crowdOn σ p2 = some (.inl e)) : f_L_call σ 31 p2 p3 p4 p5 = some (cde e, σ) := by
  unfold f_L_call
  rw [if_pos (show (12 : Int32) ≤ 31 by decide), if_pos (show (22 : Int32) ≤ 31 by decide), if_neg (show ¬ (32 : Int32) ≤ 31 by decide)]
  unfold f_L_child
  rw [if_neg (show ¬ (31 : Int32) = 22 by decide), if_neg (show ¬ (31 : Int32) = 23 by decide), if_neg (show ¬ (31 : Int32) = 24 by decide), if_neg (show ¬ (31 : Int32) = 25 by decide), if_neg (show ¬ (31 : Int32) = 26 by decide), if_neg (show ¬ (31 : Int32) = 27 by decide), if_neg (show ¬ (31 : Int32) = 28 by decide), if_neg (show ¬ (31 : Int32) = 29 by decide), if_neg (show ¬ (31 : Int32) = 30 by decide)]
  rw [h]
  rcases he with rfl | rfl | rfl <;> rfl
theorem cl_31r {σ : Sg} {p2 : Int32} {p3 : Int32} {p4 : Int32} {p5 : Int32} {y : Int32} (h : f_X4_crowdOn σ p2 = some (.inr y)) : f_L_call σ 31 p2 p3 p4 p5 = some (y, σ) := by
  unfold f_L_call
  rw [if_pos (show (12 : Int32) ≤ 31 by decide), if_pos (show (22 : Int32) ≤ 31 by decide), if_neg (show ¬ (32 : Int32) ≤ 31 by decide)]
  unfold f_L_child
  rw [if_neg (show ¬ (31 : Int32) = 22 by decide), if_neg (show ¬ (31 : Int32) = 23 by decide), if_neg (show ¬ (31 : Int32) = 24 by decide), if_neg (show ¬ (31 : Int32) = 25 by decide), if_neg (show ¬ (31 : Int32) = 26 by decide), if_neg (show ¬ (31 : Int32) = 27 by decide), if_neg (show ¬ (31 : Int32) = 28 by decide), if_neg (show ¬ (31 : Int32) = 29 by decide), if_neg (show ¬ (31 : Int32) = 30 by decide)]
  rw [h]
  rfl
theorem cl_32i {σ : Sg} {p2 : Int32} {p3 : Int32} {p4 : Int32} {p5 : Int32} {e : Nat} (he : e = 1 ∨ e = 2 ∨ e = 3) (h : f_X4_wonOf σ p2 = some (.inl e)) : f_L_call σ 32 p2 p3 p4 p5 = some (cde e, σ) := by
  unfold f_L_call
  rw [if_pos (show (12 : Int32) ≤ 32 by decide), if_pos (show (22 : Int32) ≤ 32 by decide), if_pos (show (32 : Int32) ≤ 32 by decide)]
  unfold f_L_rest
  rw [if_pos (show (32 : Int32) = 32 from rfl)]
  rw [h]
  rcases he with rfl | rfl | rfl <;> rfl
theorem cl_32r {σ : Sg} {p2 : Int32} {p3 : Int32} {p4 : Int32} {p5 : Int32} {y : Int32} (h : f_X4_wonOf σ p2 = some (.inr y)) : f_L_call σ 32 p2 p3 p4 p5 = some (y, σ) := by
  unfold f_L_call
  rw [if_pos (show (12 : Int32) ≤ 32 by decide), if_pos (show (22 : Int32) ≤ 32 by decide), if_pos (show (32 : Int32) ≤ 32 by decide)]
  unfold f_L_rest
  rw [if_pos (show (32 : Int32) = 32 from rfl)]
  rw [h]
  rfl
theorem cl_33i {σ : Sg} {p2 : Int32} {p3 : Int32} {p4 : Int32} {p5 : Int32} {e : Nat} (he : e = 1 ∨ e = 2 ∨ e = 3) (h : f_X4_rainIn σ p2 = some (.inl e)) : f_L_call σ 33 p2 p3 p4 p5 = some (cde e, σ) := by
  unfold f_L_call
  rw [if_pos (show (12 : Int32) ≤ 33 by decide), if_pos (show (22 : Int32) ≤ 33 by decide), if_pos (show (32 : Int32) ≤ 33 by decide)]
  unfold f_L_rest
  rw [if_neg (show ¬ (33 : Int32) = 32 by decide), if_pos (show (33 : Int32) = 33 from rfl)]
  rw [h]
  rcases he with rfl | rfl | rfl <;> rfl
theorem cl_33r {σ : Sg} {p2 : Int32} {p3 : Int32} {p4 : Int32} {p5 : Int32} {y : Int32} (h : f_X4_rainIn σ p2 = some (.inr y)) : f_L_call σ 33 p2 p3 p4 p5 = some (y, σ) := by
  unfold f_L_call
  rw [if_pos (show (12 : Int32) ≤ 33 by decide), if_pos (show (22 : Int32) ≤ 33 by decide), if_pos (show (32 : Int32) ≤ 33 by decide)]
  unfold f_L_rest
  rw [if_neg (show ¬ (33 : Int32) = 32 by decide), if_pos (show (33 : Int32) = 33 from rfl)]
  rw [h]
  rfl
theorem cl_34i {σ : Sg} {p2 : Int32} {p3 : Int32} {p4 : Int32} {p5 : Int32} {e : Nat} (he : e = 1 ∨ e = 2 ∨ e = 3) (h : f_X4_bestPitch σ p2 p3 = some (.inl e)) : f_L_call σ 34 p2 p3 p4 p5 = some (cde e, σ) := by
  unfold f_L_call
  rw [if_pos (show (12 : Int32) ≤ 34 by decide), if_pos (show (22 : Int32) ≤ 34 by decide), if_pos (show (32 : Int32) ≤ 34 by decide)]
  unfold f_L_rest
  rw [if_neg (show ¬ (34 : Int32) = 32 by decide), if_neg (show ¬ (34 : Int32) = 33 by decide), if_pos (show (34 : Int32) = 34 from rfl)]
  rw [h]
  rcases he with rfl | rfl | rfl <;> rfl
theorem cl_34r {σ τ : Sg} {p2 : Int32} {p3 : Int32} {p4 : Int32} {p5 : Int32} {y : Int32} (h : f_X4_bestPitch σ p2 p3 = some (.inr (y, τ))) : f_L_call σ 34 p2 p3 p4 p5 = some (y, τ) := by
  unfold f_L_call
  rw [if_pos (show (12 : Int32) ≤ 34 by decide), if_pos (show (22 : Int32) ≤ 34 by decide), if_pos (show (32 : Int32) ≤ 34 by decide)]
  unfold f_L_rest
  rw [if_neg (show ¬ (34 : Int32) = 32 by decide), if_neg (show ¬ (34 : Int32) = 33 by decide), if_pos (show (34 : Int32) = 34 from rfl)]
  rw [h]
  rfl
theorem cl_36i {σ τ : Sg} {p2 : Int32} {p3 : Int32} {p4 : Int32} {p5 : Int32} {e : Nat} (he : e = 1 ∨ e = 2 ∨ e = 3) (h : f_X4_carryOut σ = some (.inl (e, τ))) : f_L_call σ 36 p2 p3 p4 p5 = some (cde e, τ) := by
  unfold f_L_call
  rw [if_pos (show (12 : Int32) ≤ 36 by decide), if_pos (show (22 : Int32) ≤ 36 by decide), if_pos (show (32 : Int32) ≤ 36 by decide)]
  unfold f_L_rest
  rw [if_neg (show ¬ (36 : Int32) = 32 by decide), if_neg (show ¬ (36 : Int32) = 33 by decide), if_neg (show ¬ (36 : Int32) = 34 by decide), if_neg (show ¬ (36 : Int32) = 35 by decide), if_pos (show (36 : Int32) = 36 from rfl)]
  rw [h]
  rcases he with rfl | rfl | rfl <;> rfl
theorem cl_36r {σ τ : Sg} {p2 : Int32} {p3 : Int32} {p4 : Int32} {p5 : Int32} {y : Int32} (h : f_X4_carryOut σ = some (.inr (y, τ))) : f_L_call σ 36 p2 p3 p4 p5 = some (y, τ) := by
  unfold f_L_call
  rw [if_pos (show (12 : Int32) ≤ 36 by decide), if_pos (show (22 : Int32) ≤ 36 by decide), if_pos (show (32 : Int32) ≤ 36 by decide)]
  unfold f_L_rest
  rw [if_neg (show ¬ (36 : Int32) = 32 by decide), if_neg (show ¬ (36 : Int32) = 33 by decide), if_neg (show ¬ (36 : Int32) = 34 by decide), if_neg (show ¬ (36 : Int32) = 35 by decide), if_pos (show (36 : Int32) = 36 from rfl)]
  rw [h]
  rfl
theorem cl_37i {σ τ : Sg} {p2 : Int32} {p3 : Int32} {p4 : Int32} {p5 : Int32} {e : Nat} (he : e = 1 ∨ e = 2 ∨ e = 3) (h : f_X4_impossibleOrder σ = some (.inl (e, τ))) : f_L_call σ 37 p2 p3 p4 p5 = some (cde e, τ) := by
  unfold f_L_call
  rw [if_pos (show (12 : Int32) ≤ 37 by decide), if_pos (show (22 : Int32) ≤ 37 by decide), if_pos (show (32 : Int32) ≤ 37 by decide)]
  unfold f_L_rest
  rw [if_neg (show ¬ (37 : Int32) = 32 by decide), if_neg (show ¬ (37 : Int32) = 33 by decide), if_neg (show ¬ (37 : Int32) = 34 by decide), if_neg (show ¬ (37 : Int32) = 35 by decide), if_neg (show ¬ (37 : Int32) = 36 by decide), if_pos (show (37 : Int32) = 37 from rfl)]
  rw [h]
  rcases he with rfl | rfl | rfl <;> rfl
theorem cl_37r {σ τ : Sg} {p2 : Int32} {p3 : Int32} {p4 : Int32} {p5 : Int32} {y : Int32} (h : f_X4_impossibleOrder σ = some (.inr (y, τ))) : f_L_call σ 37 p2 p3 p4 p5 = some (y, τ) := by
  unfold f_L_call
  rw [if_pos (show (12 : Int32) ≤ 37 by decide), if_pos (show (22 : Int32) ≤ 37 by decide), if_pos (show (32 : Int32) ≤ 37 by decide)]
  unfold f_L_rest
  rw [if_neg (show ¬ (37 : Int32) = 32 by decide), if_neg (show ¬ (37 : Int32) = 33 by decide), if_neg (show ¬ (37 : Int32) = 34 by decide), if_neg (show ¬ (37 : Int32) = 35 by decide), if_neg (show ¬ (37 : Int32) = 36 by decide), if_pos (show (37 : Int32) = 37 from rfl)]
  rw [h]
  rfl
theorem cl_35i {σ τ : Sg} {p2 : Int32} {p3 : Int32} {p4 : Int32} {p5 : Int32} {e : Nat} (he : e = 1 ∨ e = 2 ∨ e = 3) (h : f_X4_type σ (p2.toUInt32 % 65536).toInt32 = some (.inl (e, τ))) : f_L_call σ 35 p2 p3 p4 p5 = some (cde e, τ) := by
  unfold f_L_call
  rw [if_pos (show (12 : Int32) ≤ 35 by decide), if_pos (show (22 : Int32) ≤ 35 by decide), if_pos (show (32 : Int32) ≤ 35 by decide)]
  unfold f_L_rest
  rw [if_neg (show ¬ (35 : Int32) = 32 by decide), if_neg (show ¬ (35 : Int32) = 33 by decide), if_neg (show ¬ (35 : Int32) = 34 by decide), if_pos (show (35 : Int32) = 35 from rfl)]
  rw [h]
  rcases he with rfl | rfl | rfl <;> rfl
theorem cl_35r {σ τ : Sg} {p2 : Int32} {p3 : Int32} {p4 : Int32} {p5 : Int32} {y : Int32} (h : f_X4_type σ (p2.toUInt32 % 65536).toInt32 = some (.inr (y, τ))) : f_L_call σ 35 p2 p3 p4 p5 = some (y, τ) := by
  unfold f_L_call
  rw [if_pos (show (12 : Int32) ≤ 35 by decide), if_pos (show (22 : Int32) ≤ 35 by decide), if_pos (show (32 : Int32) ≤ 35 by decide)]
  unfold f_L_rest
  rw [if_neg (show ¬ (35 : Int32) = 32 by decide), if_neg (show ¬ (35 : Int32) = 33 by decide), if_neg (show ¬ (35 : Int32) = 34 by decide), if_pos (show (35 : Int32) = 35 from rfl)]
  rw [h]
  rfl

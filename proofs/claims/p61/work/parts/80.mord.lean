/-! the second reader's steps: its spot and its row of what it was told -/
def wT (τ : Sg) (x : Int32) (t : Nat → Int32) : Sg := fun a => if a = 193 then upd (τ 193) 11 x else if a = 201 then t else τ a
theorem wT_11 {τ : Sg} {x : Int32} {t : Nat → Int32} : wT τ x t 193 11 = x := by
  show upd (τ 193) 11 x 11 = x
  exact upd_s
theorem wT_93 {τ : Sg} {x : Int32} {t : Nat → Int32} {i : Nat} (h : i ≠ 11) : wT τ x t 193 i = τ 193 i := by
  show upd (τ 193) 11 x i = _
  exact upd_n h
theorem wT_01 {τ : Sg} {x : Int32} {t : Nat → Int32} : wT τ x t 201 = t := rfl
theorem wT_o {τ : Sg} {x : Int32} {t : Nat → Int32} {a : Nat} (h1 : a ≠ 193) (h2 : a ≠ 201) : wT τ x t a = τ a := by
  show (if a = 193 then _ else if a = 201 then _ else _) = _
  rw [if_neg h1, if_neg h2]
theorem wT_s {τ : Sg} {x y : Int32} {t : Nat → Int32} : u2 (wT τ x t) 193 11 y = wT τ y t := by
  funext a
  unfold u2 wT
  by_cases h : a = 193
  · rw [if_pos h, if_pos h, if_pos h, upd_upd]
  · rw [if_neg h, if_neg h, if_neg h]
theorem wT_t {τ : Sg} {x v : Int32} {t : Nat → Int32} {i : Nat} : u2 (wT τ x t) 201 i v = wT τ x (upd t i v) := by
  funext a
  unfold u2 wT
  by_cases h : a = 201
  · subst h; rfl
  · rw [if_neg h]
    by_cases h1 : a = 193
    · rw [if_pos h1, if_pos h1]
    · rw [if_neg h1, if_neg h1, if_neg h, if_neg h]
theorem wT_self {τ : Sg} {x : Int32} (h : τ 193 11 = x) : wT τ x (τ 201) = τ := by
  funext a
  unfold wT
  by_cases h1 : a = 193
  · rw [if_pos h1, ← h, upd_self, h1]
  · rw [if_neg h1]
    by_cases h2 : a = 201
    · rw [if_pos h2, h2]
    · rw [if_neg h2]
theorem dig_v {tx : Nat → Int32} {n i : Nat} {lo : Int32} (hlo : 0 ≤ lo.toInt) (hc : ∀ i, i < n → vp_in (tx i) 65536) (h : ¬ s_dig tx n i < lo) : ∃ d, d ≤ 9 ∧ i < n ∧ s_dig tx n i = nI d := by
  rcases s_dig_c (tx := tx) (n := n) (i := i) (hc i) with z | z
  · rw [z, tI_lt, show (-1 : Int32).toInt = -1 from by decide] at h
    omega
  · exact z
/-- what the second reader was told of the k-th order -/
def FM (t : Nat → Int32) (k : Nat) (F : Int32 × Int32 × Int32 × Int32 × Int32) : Prop := t (5 * k) = F.1 ∧ t (5 * k + 1) = F.2.1 ∧ (F.1 ≠ 112 → t (5 * k + 2) = F.2.2.1) ∧ (F.1 = 98 ∨ F.1 = 114 ∨ F.1 = 99 → t (5 * k + 3) = F.2.2.2.1) ∧ (F.1 = 98 ∨ F.1 = 114 → t (5 * k + 4) = F.2.2.2.2)
def MO (r : Option (Int32 × Sg)) (τ : Sg) (t : Nat → Int32) (k : Nat) (o : Nat × Int32 × Int32 × Int32 × Int32 × Int32) : Prop := ∃ t', r = some (fl1 o.2.1, wT τ (nI o.1) t') ∧ (∀ j, j < 5 * k → t' j = t j) ∧ (o.2.1 ≠ -1 → FM t' k o.2)
theorem ms_bind {r : Option (Int32 × Sg)} {τ : Sg} {t : Nat → Int32} {k pl : Nat} {a : Int32 × Nat} {K : Sg → Option (Int32 × Sg)} {q : Int32 → Nat → Nat × Int32 × Int32 × Int32 × Int32 × Int32} (h : r = some (fl1 a.1, wT τ (nI a.2) (if a.1 = -1 then t else upd t (5 * k + pl) a.1))) (hk : a.1 ≠ -1 → MO (K (wT τ (nI a.2) (upd t (5 * k + pl) a.1))) τ (upd t (5 * k + pl) a.1) k (q a.1 a.2)) : MO (b2 r fun y σ' => if y = 0 then (some (0, σ')) else K σ') τ t k (thn a q) := by
  rw [h, b2_some]
  unfold thn
  by_cases z : a.1 = -1
  · rw [if_pos z, if_pos z, show fl1 a.1 = 0 from if_pos z, if_pos rfl]
    exact ⟨t, rfl, fun _ _ => rfl, fun w => absurd rfl w⟩
  · rw [if_neg z, if_neg z, show fl1 a.1 = 1 from if_neg z, if_neg (by decide)]
    obtain ⟨t', h1, h2, h3⟩ := hk z
    exact ⟨t', h1, fun j hj => (h2 j hj).trans (upd_n (by omega)), h3⟩
theorem mg_bind {r : Option (Int32 × Sg)} {τ : Sg} {t : Nat → Int32} {k : Nat} {a : Int32 × Nat} {K : Sg → Option (Int32 × Sg)} {q : Nat → Nat × Int32 × Int32 × Int32 × Int32 × Int32} (h : r = some (a.1, wT τ (nI a.2) t)) (hk : MO (K (wT τ (nI a.2) t)) τ t k (q a.2)) : MO (b2 r fun y σ' => if y = 0 then (some (0, σ')) else K σ') τ t k (ths a q) := by
  rw [h, b2_some]
  unfold ths
  by_cases z : a.1 = 0
  · rw [if_pos z, if_pos z]
    exact ⟨t, rfl, fun _ _ => rfl, fun w => absurd rfl w⟩
  · rw [if_neg z, if_neg z]
    exact hk
theorem MO.of {r : Option (Int32 × Sg)} {τ : Sg} {t t' : Nat → Int32} {k : Nat} {o : Nat × Int32 × Int32 × Int32 × Int32 × Int32} (h : MO r τ t k o) (e : ∀ j, j < 5 * k → t j = t' j) : MO r τ t' k o := by
  obtain ⟨u, h1, h2, h3⟩ := h
  exact ⟨u, h1, fun j hj => (h2 j hj).trans (e j hj), h3⟩

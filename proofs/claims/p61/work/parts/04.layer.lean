/-! THE LAYER: all cells of one object of the class are one world of 193 cells, laid one behind another from b on (b: the heap's size at the law's entry); a state is σ : cell → slot → int. -/
abbrev Sg : Type := Nat → Nat → Int32
def u2 (σ : Sg) (k i : Nat) (x : Int32) : Sg := fun a => if a = k then upd (σ a) i x else σ a
theorem u2_s {σ : Sg} {k i : Nat} {x : Int32} : u2 σ k i x k = upd (σ k) i x := by simp [u2]
theorem u2_n {σ : Sg} {a k i : Nat} {x : Int32} (h : a ≠ k) : u2 σ k i x a = σ a := by simp [u2, h]
def cpy2 (σ : Sg) (k0 k1 n : Nat) : Sg := fun a => if a = k1 then va_cpy (σ k0) (σ k1) 0 0 n else σ a
def fairL : List (Nat × Nat) := [(1, 0), (6, 10), (6, 4), (8, 7), (2, 0), (6, 200), (6, 200), (6, 200), (6, 200), (6, 200), (6, 200), (6, 200), (6, 200), (3, 0), (6, 16), (3, 0), (6, 16), (3, 0), (6, 16), (3, 0), (6, 16), (3, 0), (6, 16), (3, 0), (6, 16), (3, 0), (6, 16)]
def shl : List (Nat × Nat) := (0, 0) :: fairL ++ fairL ++ fairL ++ [(9, 4)] ++ fairL ++ fairL ++ fairL ++ fairL ++ [(4, 0), (7, 80)]
def sh (k : Nat) : Nat × Nat := shl.getD k (99, 0)
theorem shl_len : shl.length = 193 := by decide +kernel
theorem sh_lt {k : Nat} {q : Nat × Nat} (h : sh k = q) (h9 : q.1 ≠ 99) : k < 193 := by
  rcases Nat.lt_or_ge k 193 with g | g
  · exact g
  · exfalso
    apply h9
    rw [← h]
    unfold sh
    rw [List.getD_eq_getElem?_getD, List.getElem?_eq_none (by rw [shl_len]; exact g)]
    rfl
def fsP (b : Nat) (f : Nat → Int32) : List Value := [.ref (b + 1), .ref (b + 28), .ref (b + 55), .int (f 3), .ref (b + 82), .int (f 5), .int (f 6), .ref (b + 191)]
def fsF (b k : Nat) (f : Nat → Int32) : List Value := [.int (f 0), .int (f 1), .int (f 2), .int (f 3), .int (f 4), .int (f 5), .int (f 6), .int (f 7), .ref (b + (k + 1)), .ref (b + (k + 2)), .int (f 10), .ref (b + (k + 3)), .ref (b + (k + 4))]
def fsC (b k : Nat) (f : Nat → Int32) : List Value := [.int (f 0), .int (f 1), .ref (b + (k + 1)), .ref (b + (k + 2)), .ref (b + (k + 3)), .ref (b + (k + 4)), .ref (b + (k + 5)), .ref (b + (k + 6)), .ref (b + (k + 7)), .ref (b + (k + 8))]
def fsS (b k : Nat) (f : Nat → Int32) : List Value := [.int (f 0), .int (f 1), .int (f 2), .int (f 3), .int (f 4), .int (f 5), .int (f 6), .int (f 7), .int (f 8), .int (f 9), .ref (b + (k + 1))]
def fsO (b k : Nat) (f : Nat → Int32) : List Value := [.ref (b + (k + 1)), .int (f 1), .int (f 2), .int (f 3), .int (f 4), .int (f 5), .int (f 6), .int (f 7), .int (f 8), .int (f 9), .int (f 10)]
/-- the stall's cell that a row of stalls at cell k holds at i; the fair that the row of records at cell k holds -/
def sk (k : Nat) (i : Int32) : Nat := k + 10 + 2 * i.toNatClampNeg
def rk (k : Nat) (i : Int32) : Nat := k + 1 + 27 * i.toNatClampNeg
def ec (b : Nat) (t : Nat → ClassId) (k : Nat) (f : Nat → Int32) (q : Nat × Nat) : va_E := match q.1 with
  | 0 => .inr (4, fsP b f)
  | 1 => .inr (1, fsF b k f)
  | 2 => .inr (0, fsC b k f)
  | 3 => .inr (3, fsS b k f)
  | 4 => .inr (2, fsO b k f)
  | 6 => .inl (t 0, q.2, .inl f)
  | 7 => .inl (t 1, q.2, .inl f)
  | 8 => .inl (t 2, q.2, .inr (.inr (.inr (.inr (fun i => some (b + (k + 10 + 2 * i)))))))
  | 9 => .inl (t 3, q.2, .inr (.inr (.inr (.inr (fun i => some (b + (k + 1 + 27 * i)))))))
  | _ => .inl (t 4, q.2, .inr (.inl (fun j => (f j).toInt64)))
def tyL (t : Nat → ClassId) : List (ClassId × FieldType) := [(t 0, .int), (t 1, .char), (t 2, .object "PrizePurses$Stall"), (t 3, .object "PrizePurses$Fair"), (t 4, .long)]
def wl (b : Nat) (t : Nat → ClassId) (σ : Sg) : va_W := (List.range 193).map (fun k => (b + k, ec b t k (σ k) (sh k)))
theorem wl_len {b : Nat} {t : Nat → ClassId} {σ : Sg} : (wl b t σ).length = 193 := by
  unfold wl
  rw [List.length_map, List.length_range]
theorem wl_at {b : Nat} {t : Nat → ClassId} {σ : Sg} {k : Nat} {q : Nat × Nat} (h : sh k = q) (h9 : q.1 ≠ 99) : (wl b t σ)[k]? = some (b + k, ec b t k (σ k) q) := by
  have hl := sh_lt h h9
  unfold wl
  rw [List.getElem?_map, List.getElem?_range hl, ← h]
  rfl
theorem wl_set {b : Nat} {t : Nat → ClassId} {σ σ' : Sg} {k : Nat} {q : Nat × Nat} {e : va_E} (h : sh k = q) (h9 : q.1 ≠ 99) (he : ec b t k (σ' k) q = e) (ho : ∀ a, a ≠ k → σ' a = σ a) : (wl b t σ).set k (b + k, e) = wl b t σ' := by
  have hl := sh_lt h h9
  apply List.ext_getElem?
  intro j
  by_cases hj : j = k
  · subst hj
    rw [List.getElem?_set_self (by rw [wl_len]; exact hl), wl_at h h9, he]
  · rw [List.getElem?_set_ne (Ne.symm hj)]
    unfold wl
    rw [List.getElem?_map, List.getElem?_map]
    rcases Nat.lt_or_ge j 193 with g | g
    · rw [List.getElem?_range g, Option.map_some, Option.map_some, ho j hj]
    · rw [List.getElem?_eq_none (by rw [List.length_range]; exact g), Option.map_none, Option.map_none]
theorem wl_1 {b : Nat} {t : Nat → ClassId} {σ : Sg} {i : Nat} {p : Nat × va_E} (h : (wl b t σ)[i]? = some p) : i < 193 ∧ p.1 = b + i := by
  have hi : i < 193 := by
    have := (List.getElem?_eq_some_iff.mp h).1
    rw [wl_len] at this
    exact this
  unfold wl at h
  rw [List.getElem?_map, List.getElem?_range hi] at h
  cases h
  exact ⟨hi, rfl⟩
def geA (b : Nat) : Nat → Prop := fun q => b ≤ q ∧ q < b + 193
def geC (b : Nat) : Nat → Prop := fun q => b ≤ q
theorem wl_D {b : Nat} {t : Nat → ClassId} {σ : Sg} : va_D (geA b) (wl b t σ) := by
  refine ⟨fun i j p q h1 h2 h => ?_, fun k q h => ?_⟩
  · have a1 := (wl_1 h1).2
    have a2 := (wl_1 h2).2
    omega
  · have a1 := wl_1 h
    show b ≤ q.1 ∧ q.1 < b + 193
    omega
/-- the world -/
abbrev wd (D : va_G) (t : Nat → ClassId) (b : Nat) (σ : Sg) (H : Heap) : Prop := va_P D vwCl (wl b t σ) H
theorem wd_size {D : va_G} {t : Nat → ClassId} {b : Nat} {σ : Sg} {H : Heap} (h : wd D t b σ H) : b + 193 ≤ H.size := by
  have h1 := (h 192 _ (wl_at (q := (7, 80)) (by decide +kernel) (by decide))).lt
  simp at h1
  omega
/-- the words that every method may use: the tables' good words -/
def ALL : List Cond := lw_tbl.filter goodWord
theorem mem_all {w : Cond} (i : Nat) (h : lw_tbl[i]? = some w) (g : goodWord w = true) : w ∈ ALL := List.mem_filter.mpr ⟨List.mem_of_getElem? h, g⟩
theorem good_all (c : Cond) {y : Cond} (hy : y ∈ ALL) : GoodIn (c :: ALL) (y :: ALL) := by
  intro w hw
  have hw : w ∈ ALL := by
    rcases List.mem_cons.mp hw with h | h
    · rw [h]; exact hy
    · exact h
  exact ⟨List.mem_cons_of_mem _ hw, good_of_word (List.mem_filter.mp hw).2⟩
/-! partial functions: what a method does, where it does it -/
def gd {α : Type} (i : Int32) (n : Nat) (k : Option α) : Option α := if i < 0 ∨ n ≤ i.toNatClampNeg then none else k
theorem gd_e {α : Type} {i : Int32} {n : Nat} {k : Option α} {r : α} (h : gd i n k = some r) : vp_in i n ∧ k = some r := by
  unfold gd at h
  by_cases g : i < 0 ∨ n ≤ i.toNatClampNeg
  · rw [if_pos g] at h; cases h
  · rw [if_neg g] at h; exact ⟨g, h⟩
def nz {α : Type} (i : Int32) (k : Option α) : Option α := if i = 0 then none else k
theorem nz_e {α : Type} {i : Int32} {k : Option α} {r : α} (h : nz i k = some r) : ¬ i = 0 ∧ k = some r := by
  unfold nz at h
  by_cases g : i = 0
  · rw [if_pos g] at h; cases h
  · rw [if_neg g] at h; exact ⟨g, h⟩
def st {α : Type} (σ : Sg) (k : Sg → Option α) : Option α := k σ
theorem st_e {α : Type} {σ : Sg} {k : Sg → Option α} {r : α} (h : st σ k = some r) : ∃ σ1, σ = σ1 ∧ k σ1 = some r := ⟨σ, rfl, h⟩
def b1 {α β : Type} (x : Option β) (k : β → Option α) : Option α := match x with
  | none => none
  | some y => k y
theorem b1_e {α β : Type} {x : Option β} {k : β → Option α} {r : α} (h : b1 x k = some r) : ∃ y, x = some y ∧ k y = some r := by
  cases x with
  | none => cases h
  | some y => exact ⟨y, rfl, h⟩
def b2 {α : Type} (x : Option (Int32 × Sg)) (k : Int32 → Sg → Option α) : Option α := match x with
  | none => none
  | some y => k y.1 y.2
theorem b2_e {α : Type} {x : Option (Int32 × Sg)} {k : Int32 → Sg → Option α} {r : α} (h : b2 x k = some r) : ∃ y σ, x = some (y, σ) ∧ k y σ = some r := by
  cases x with
  | none => cases h
  | some y => exact ⟨y.1, y.2, rfl, h⟩
/-- a callee that throws hands its number on -/
def bt {α β : Type} (x : Option (Nat ⊕ β)) (k : β → Option (Nat ⊕ α)) : Option (Nat ⊕ α) := match x with
  | none => none
  | some (.inl e) => some (.inl e)
  | some (.inr y) => k y
theorem bt_e {α β : Type} {x : Option (Nat ⊕ β)} {k : β → Option (Nat ⊕ α)} {r : Nat ⊕ α} (h : bt x k = some r) : (∃ e, x = some (.inl e) ∧ r = .inl e) ∨ ∃ y, x = some (.inr y) ∧ k y = some r := by
  match x, h with
  | none, h => cases h
  | some (.inl e), h => cases h; exact Or.inl ⟨e, rfl, rfl⟩
  | some (.inr y), h => exact Or.inr ⟨y, rfl, h⟩
theorem ifp {α : Type} {c : Prop} [Decidable c] {a b : Option α} {r : α} (h : c) (hf : (if c then a else b) = some r) : a = some r := by rw [if_pos h] at hf; exact hf
theorem ifn {α : Type} {c : Prop} [Decidable c] {a b : Option α} {r : α} (h : ¬ c) (hf : (if c then a else b) = some r) : b = some r := by rw [if_neg h] at hf; exact hf
def jmin (x y : Int32) : Int32 := if y < x then y else x
theorem nar_bool {x : Int32} (h : vp_in x 2) : narrow .boolean (.int x) = .int x ∧ fits .boolean (.int x) = true := by
  obtain ⟨j, hj, rfl⟩ := vp_in_of h (by decide)
  rcases (show j = 0 ∨ j = 1 by omega) with rfl | rfl <;> exact ⟨by decide +kernel, by decide +kernel⟩
theorem nar_char {x : Int32} (h : vp_in x 65536) : narrow .char (.int x) = .int x ∧ fits .char (.int x) = true := by
  obtain ⟨j, hj, rfl⟩ := vp_in_of h (by decide)
  exact pk_charN hj

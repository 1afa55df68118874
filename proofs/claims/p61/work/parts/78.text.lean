/-! the order text: what a reader finds -/
def s_dig (tx : Nat → Int32) (n i : Nat) : Int32 := if i < n then (if 48 ≤ tx i ∧ tx i ≤ 57 then tx i - 48 else -1) else -1
def s_num (tx : Nat → Int32) (n i : Nat) (lo hi : Int32) : Int32 × Nat :=
  if s_dig tx n i < lo ∨ hi < s_dig tx n i then (-1, i)
  else if s_dig tx n i ≤ 0 ∨ s_dig tx n (i + 1) = -1 ∨ hi < s_dig tx n i * 10 + s_dig tx n (i + 1) then (s_dig tx n i, i + 1)
  else (s_dig tx n i * 10 + s_dig tx n (i + 1), i + 2)
def s_let (tx : Nat → Int32) (n i : Nat) : Int32 × Nat :=
  if i < n then (if tx i = 104 then (0, i + 1) else if tx i = 100 then (1, i + 1) else if tx i = 99 then (2, i + 1) else if tx i = 108 then (3, i + 1) else if tx i = 116 then (4, i + 1) else (-1, i)) else (-1, i)
def s_sgn (tx : Nat → Int32) (n i : Nat) (c : Int32) : Int32 × Nat := if i < n then (if tx i = c then (1, i + 1) else (0, i)) else (0, i)
theorem chr {x : Int32} (h : vp_in x 65536) : ∃ c, c < 65536 ∧ x = nI c ∧ (x - 48).toInt = (c : Int) - 48 ∧ x.toInt = (c : Int) := by
  obtain ⟨c, hc, e⟩ := vp_ex h (by omega)
  have ei : x.toInt = (c : Int) := by rw [e]; exact nI_toInt (by omega)
  have e48 : (48 : Int32).toInt = 48 := by decide
  refine ⟨c, hc, e, ?_, ei⟩
  rw [tI_sub, ei, e48]
  · rw [ei, e48]; omega
  · rw [ei, e48]; omega
theorem s_dig_c {tx : Nat → Int32} {n i : Nat} (h : i < n → vp_in (tx i) 65536) : s_dig tx n i = -1 ∨ ∃ d, d ≤ 9 ∧ i < n ∧ s_dig tx n i = nI d := by
  unfold s_dig
  by_cases q : i < n
  · rw [if_pos q]
    obtain ⟨c, hc, e, -, -⟩ := chr (h q)
    by_cases p : 48 ≤ tx i ∧ tx i ≤ 57
    · rw [if_pos p]
      rw [e, show (48 : Int32) = nI 48 from rfl, show (57 : Int32) = nI 57 from rfl, nI_leI (by omega) (by omega), nI_leI (by omega) (by omega)] at p
      exact Or.inr ⟨c - 48, by omega, q, by rw [e, show (48 : Int32) = nI 48 from rfl, pk_sub (by omega)]⟩
    · rw [if_neg p]; exact Or.inl rfl
  · rw [if_neg q]; exact Or.inl rfl
theorem wr_u {σ : Sg} {k i : Nat} {g : Nat → Int32} {v : Int32} : u2 (wr σ k g) k i v = wr σ k (upd g i v) := by
  funext a
  unfold u2 wr
  by_cases h : a = k
  · rw [if_pos h, if_pos h, if_pos h]
  · rw [if_neg h, if_neg h, if_neg h]
theorem upd_upd {f : Nat → Int32} {i : Nat} {x y : Int32} : upd (upd f i x) i y = upd f i y := by
  funext j
  simp only [upd_app]
  by_cases h : j = i
  · rw [if_pos h, if_pos h]
  · rw [if_neg h, if_neg h, if_neg h]
theorem w92 {σ : Sg} {g : Nat → Int32} : wr σ 191 g (191 + 1) = σ 192 := wr_n (by omega)
theorem c_dig {σ : Sg} {g : Nat → Int32} {n i : Nat} (h1 : g 1 = nI n) (hn : n ≤ 80) (hi : i ≤ 100) (hc : ∀ i, i < n → vp_in (σ 192 i) 65536) : f_X2_digitAt (wr σ 191 g) (nI i) = some (s_dig (σ 192) n i) := by
  unfold f_X2_digitAt s_dig
  rw [wr_s, h1, w92]
  by_cases q : i < n
  · obtain ⟨c, hc1, e, e1, e2⟩ := chr (hc i q)
    rw [if_pos ((nI_ltI (by omega) (by omega)).mpr q), if_pos q, gd_ok rfl (show i < 80 by omega) (by omega), cl_nI (by omega)]
    have a1 : σ 192 i - 48 < 0 ↔ c < 48 := by rw [tI_lt, e1, show (0 : Int32).toInt = 0 from by decide]; omega
    have a2 : 9 < σ 192 i - 48 ↔ 57 < c := by rw [tI_lt, e1, show (9 : Int32).toInt = 9 from by decide]; omega
    have a3 : 48 ≤ σ 192 i ∧ σ 192 i ≤ 57 ↔ 48 ≤ c ∧ c ≤ 57 := by rw [tI_le, tI_le, e2, show (48 : Int32).toInt = 48 from by decide, show (57 : Int32).toInt = 57 from by decide]; omega
    by_cases b1 : c < 48
    · rw [if_pos (a1.mpr b1), if_neg (fun z => by have := a3.mp z; omega)]
    · rw [if_neg (fun z => b1 (a1.mp z))]
      by_cases b2 : 57 < c
      · rw [if_pos (a2.mpr b2), if_neg (fun z => by have := a3.mp z; omega)]
      · rw [if_neg (fun z => b2 (a2.mp z)), if_pos (a3.mpr (by omega))]
  · rw [if_neg (fun z => q ((nI_ltI (by omega) (by omega)).mp z)), if_neg q]
theorem c_num {σ : Sg} {g : Nat → Int32} {n i : Nat} {lo hi : Int32} (h1 : g 1 = nI n) (h2 : g 2 = nI i) (hn : n ≤ 80) (hin : i ≤ n) (hc : ∀ i, i < n → vp_in (σ 192 i) 65536) (hlo : 0 ≤ lo.toInt) : f_X2_readDigits (wr σ 191 g) lo hi = some ((s_num (σ 192) n i lo hi).1, wr σ 191 (upd g 2 (nI (s_num (σ 192) n i lo hi).2))) := by
  have self : upd g 2 (nI i) = g := by rw [← h2]; exact upd_self
  unfold f_X2_readDigits s_num
  rw [wr_s, h2, c_dig h1 hn (by omega) hc, b1_some]
  obtain ⟨d, hd⟩ : ∃ d, d = s_dig (σ 192) n i := ⟨_, rfl⟩
  rw [← hd]
  by_cases q1 : d < lo ∨ hi < d
  · rw [if_pos q1]
    dsimp only
    rw [self]
    by_cases a : d = -1
    · rw [if_pos a]
    · rw [if_neg a]
      by_cases b : d < lo
      · rw [if_pos b]
      · rw [if_neg b, if_neg]
        rcases q1 with q | q
        · exact absurd q b
        · rw [tI_lt] at q
          rw [tI_le]
          omega
  · have b1 : ¬ d < lo := fun z => q1 (Or.inl z)
    have b2 : d ≤ hi := by
      have : ¬ hi < d := fun z => q1 (Or.inr z)
      rw [tI_lt] at this
      rw [tI_le]
      omega
    have b3 : ¬ d = -1 := by
      intro z
      rw [z, tI_lt, show (-1 : Int32).toInt = -1 from by decide] at b1
      omega
    rw [if_neg q1, if_neg b3, if_neg b1, if_pos b2, nI_1, st_eq, wr_u, wr_s, upd_s, c_dig (g := upd g 2 (nI (i + 1))) (by rw [upd_n (by omega)]; exact h1) hn (by omega) hc, b1_some]
    obtain ⟨e, he⟩ : ∃ e, e = s_dig (σ 192) n (i + 1) := ⟨_, rfl⟩
    rw [← he]
    by_cases c1 : d ≤ 0
    · rw [if_pos c1, if_pos (Or.inl c1)]
    · rw [if_neg c1]
      by_cases c2 : e = -1
      · rw [if_pos c2, if_pos (Or.inr (Or.inl c2))]
      · rw [if_neg c2]
        by_cases c3 : hi < d * 10 + e
        · rw [if_pos c3, if_pos (Or.inr (Or.inr c3))]
        · rw [if_neg c3, if_neg (fun z => z.elim c1 (fun z => z.elim c2 c3)), nI_1, st_eq, wr_u, upd_upd]
theorem c_sgn {σ : Sg} {g : Nat → Int32} {n i : Nat} {c : Int32} (h1 : g 1 = nI n) (h2 : g 2 = nI i) (hn : n ≤ 80) (hi : i ≤ n) : f_X2_readSign (wr σ 191 g) c = some ((s_sgn (σ 192) n i c).1, wr σ 191 (upd g 2 (nI (s_sgn (σ 192) n i c).2))) := by
  have self : upd g 2 (nI i) = g := by rw [← h2]; exact upd_self
  unfold f_X2_readSign s_sgn
  rw [wr_s, h1, h2, w92]
  by_cases q : i < n
  · rw [if_neg (nI_ge (by omega) (by omega)), if_pos q, gd_ok rfl (show i < 80 by omega) (by omega), cl_nI (by omega)]
    by_cases p : σ 192 i = c
    · rw [if_pos p, if_pos p, nI_1, st_eq, wr_u]
    · rw [if_neg p, if_neg p]
      dsimp only
      rw [self]
  · rw [if_pos (nI_le (by omega) (by omega)), if_neg q]
    dsimp only
    rw [self]
/-! the first reader's steps: the row of the reader's object after it -/
def CS (r : Option (Int32 × Sg)) (σ : Sg) (g : Nat → Int32) (fl : Int32) (p slot : Nat) (v : Int32) : Prop := ∃ G, r = some (fl, wr σ 191 G) ∧ G 2 = nI p ∧ G slot = v ∧ ∀ j, j ≠ 2 → j ≠ slot → G j = g j
def fl1 (x : Int32) : Int32 := if x = -1 then 0 else 1
theorem cs_set {σ : Sg} {g : Nat → Int32} {a : Int32 × Nat} {slot : Nat} {r : Option (Int32 × Sg)} (hs : slot ≠ 2) (h : r = some (a.1, wr σ 191 (upd g 2 (nI a.2)))) : CS (b2 r fun y1 σ3 => st (u2 σ3 191 slot y1) fun σ4 => if (σ4 191 slot) = (-1) then (some (0, σ4)) else (some (1, σ4))) σ g (fl1 a.1) a.2 slot a.1 := by
  refine ⟨upd (upd g 2 (nI a.2)) slot a.1, ?_, by rw [upd_n (Ne.symm hs), upd_s], upd_s, fun j h1 h2 => by rw [upd_n h2, upd_n h1]⟩
  rw [h, b2_some, wr_u, st_eq, wr_s, upd_s]
  unfold fl1
  split <;> rfl
theorem c_place {σ : Sg} {g : Nat → Int32} {n i : Nat} {hi : Int32} (h1 : g 1 = nI n) (h2 : g 2 = nI i) (hn : n ≤ 80) (hi2 : i ≤ n) (hc : ∀ i, i < n → vp_in (σ 192 i) 65536) : CS (f_X2_readPlace (wr σ 191 g) hi) σ g (fl1 (s_num (σ 192) n i 0 hi).1) (s_num (σ 192) n i 0 hi).2 5 (s_num (σ 192) n i 0 hi).1 :=
  cs_set (by omega) (c_num h1 h2 hn hi2 hc (by decide))
theorem c_cnt {σ : Sg} {g : Nat → Int32} {n i : Nat} {lo hi : Int32} (h1 : g 1 = nI n) (h2 : g 2 = nI i) (hn : n ≤ 80) (hi2 : i ≤ n) (hc : ∀ i, i < n → vp_in (σ 192 i) 65536) (hlo : 0 ≤ lo.toInt) : CS (f_X2_readCount (wr σ 191 g) lo hi) σ g (fl1 (s_num (σ 192) n i lo hi).1) (s_num (σ 192) n i lo hi).2 9 (s_num (σ 192) n i lo hi).1 :=
  cs_set (by omega) (c_num h1 h2 hn hi2 hc hlo)
theorem c_lvl {σ : Sg} {g : Nat → Int32} {n i : Nat} (h1 : g 1 = nI n) (h2 : g 2 = nI i) (hn : n ≤ 80) (hi2 : i ≤ n) (hc : ∀ i, i < n → vp_in (σ 192 i) 65536) : CS (f_X2_readLevel (wr σ 191 g)) σ g (fl1 (s_num (σ 192) n i 0 3).1) (s_num (σ 192) n i 0 3).2 7 (s_num (σ 192) n i 0 3).1 :=
  cs_set (by omega) (c_num h1 h2 hn hi2 hc (by decide))
theorem c_clr {σ : Sg} {g : Nat → Int32} {n i : Nat} (h1 : g 1 = nI n) (h2 : g 2 = nI i) (hn : n ≤ 80) (hi2 : i ≤ n) (hc : ∀ i, i < n → vp_in (σ 192 i) 65536) : CS (f_X2_readColour (wr σ 191 g)) σ g (fl1 (s_num (σ 192) n i 0 3).1) (s_num (σ 192) n i 0 3).2 8 (s_num (σ 192) n i 0 3).1 :=
  cs_set (by omega) (c_num h1 h2 hn hi2 hc (by decide))
theorem c_knd {σ : Sg} {g : Nat → Int32} {n i : Nat} (h1 : g 1 = nI n) (h2 : g 2 = nI i) (hn : n ≤ 80) (hi : i ≤ n) : CS (f_X2_readKind (wr σ 191 g)) σ g (fl1 (s_let (σ 192) n i).1) (s_let (σ 192) n i).2 6 (s_let (σ 192) n i).1 := by
  have hk : f_X2_kindAt (wr σ 191 g) (nI i) = some (s_let (σ 192) n i).1 ∧ (s_let (σ 192) n i).2 = if (s_let (σ 192) n i).1 = -1 then i else i + 1 := by
    unfold f_X2_kindAt s_let
    rw [wr_s, h1, w92]
    by_cases q : i < n
    · rw [if_pos ((nI_ltI (by omega) (by omega)).mpr q), if_pos q, gd_ok rfl (show i < 80 by omega) (by omega), cl_nI (by omega)]
      repeat' split
      all_goals first
        | exact ⟨rfl, rfl⟩
        | (rename_i z; exact absurd z (by decide))
        | (refine ⟨by simp_all, by simp_all⟩)
    · rw [if_neg (fun z => q ((nI_ltI (by omega) (by omega)).mp z)), if_neg q]
      exact ⟨rfl, rfl⟩
  obtain ⟨k1, k2⟩ := hk
  obtain ⟨x, hx⟩ : ∃ x, x = s_let (σ 192) n i := ⟨_, rfl⟩
  rw [← hx] at k1 k2 ⊢
  unfold f_X2_readKind
  rw [wr_s, h2, k1, b1_some, st_eq, wr_u, wr_s, upd_s]
  by_cases e : x.1 = -1
  · rw [if_pos e] at k2 ⊢
    refine ⟨upd g 6 x.1, ?_, by rw [upd_n (by omega), k2]; exact h2, upd_s, fun j a b => upd_n b⟩
    unfold fl1
    rw [if_pos e]
  · rw [if_neg e] at k2 ⊢
    refine ⟨upd (upd g 6 x.1) 2 (nI (i + 1)), ?_, by rw [upd_s, k2], by rw [upd_n (by omega), upd_s], fun j a b => by rw [upd_n a, upd_n b]⟩
    unfold fl1
    rw [if_neg e, upd_n (by omega), h2, nI_1, st_eq, wr_u]
theorem s_sgn_v {tx : Nat → Int32} {n i : Nat} {c : Int32} : (s_sgn tx n i c).1 = 1 ∨ (s_sgn tx n i c).1 = 0 := by
  unfold s_sgn
  repeat' split
  all_goals first
    | exact Or.inl rfl
    | exact Or.inr rfl
theorem s_sgn_in {tx : Nat → Int32} {n i : Nat} {c : Int32} : vp_in (s_sgn tx n i c).1 2 := by
  rcases s_sgn_v (tx := tx) (n := n) (i := i) (c := c) with h | h
  · rw [h]; exact vp_lit (by decide)
  · rw [h]; exact vp_lit (by decide)
theorem c_rf {σ : Sg} {g : Nat → Int32} {n i : Nat} (h1 : g 1 = nI n) (h2 : g 2 = nI i) (hn : n ≤ 80) (hi : i ≤ n) : CS (f_X2_readRoof (wr σ 191 g)) σ g 1 (s_sgn (σ 192) n i 94).2 10 (s_sgn (σ 192) n i 94).1 := by
  unfold f_X2_readRoof
  rw [c_sgn h1 h2 hn hi, b2_some, gd_in s_sgn_in, wr_u, st_eq]
  exact ⟨_, rfl, by rw [upd_n (by omega), upd_s], upd_s, fun j a b => by rw [upd_n b, upd_n a]⟩

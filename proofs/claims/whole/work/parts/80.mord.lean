/-! the second reader's steps: its spot and its row of what it was told -/
def wT (τ : Sg) (x : Int32) (t : Nat → Int32) : Sg := fun a => if a = 193 then upd (τ 193) 11 x else if a = 201 then t else τ a
theorem wT_11 {τ : Sg} {x : Int32} {t : Nat → Int32} : wT τ x t 193 11 = x := by
  show upd (τ 193) 11 x 11 = x
  exact upd_s
theorem wT_93 {τ : Sg} {x : Int32} {t : Nat → Int32} {i : Nat} (h : i ≠ 11) : wT τ x t 193 i = τ 193 i := by
  show upd (τ 193) 11 x i = _
  exact upd_n h
theorem wT_01 {τ : Sg} {x : Int32} {t : Nat → Int32} : wT τ x t 201 = t := rfl
theorem wT_o {τ : Sg} {x : Int32} {t : Nat → Int32} {a : Nat} (h1 : a ≠ 193) (h2 : a ≠ 201) : wT τ x t a = τ a := by
  show (if a = 193 then _ else if a = 201 then _ else _) = _
  rw [if_neg h1, if_neg h2]
theorem wT_s {τ : Sg} {x y : Int32} {t : Nat → Int32} : u2 (wT τ x t) 193 11 y = wT τ y t := by
  funext a
  unfold u2 wT
  by_cases h : a = 193
  · rw [if_pos h, if_pos h, if_pos h, upd_upd]
  · rw [if_neg h, if_neg h, if_neg h]
theorem wT_t {τ : Sg} {x v : Int32} {t : Nat → Int32} {i : Nat} : u2 (wT τ x t) 201 i v = wT τ x (upd t i v) := by
  funext a
  unfold u2 wT
  by_cases h : a = 201
  · subst h; rfl
  · rw [if_neg h]
    by_cases h1 : a = 193
    · rw [if_pos h1, if_pos h1]
    · rw [if_neg h1, if_neg h1, if_neg h, if_neg h]
theorem wT_self {τ : Sg} {x : Int32} (h : τ 193 11 = x) : wT τ x (τ 201) = τ := by
  funext a
  unfold wT
  by_cases h1 : a = 193
  · rw [if_pos h1, ← h, upd_self, h1]
  · rw [if_neg h1]
    by_cases h2 : a = 201
    · rw [if_pos h2, h2]
    · rw [if_neg h2]
theorem m_fig {τ : Sg} {t : Nat → Int32} {n i : Nat} (h9 : τ 193 9 = nI n) (hn : n ≤ 80) (hi : i ≤ 100) (hc : ∀ i, i < n → vp_in (τ 200 i) 65536) : f_X5_figure (wT τ (nI i) t) = some (s_dig (τ 200) n i) := by
  unfold f_X5_figure s_dig
  rw [wT_93 (by omega), h9, wT_11, wT_o (show 200 ≠ 193 by omega) (by omega)]
  by_cases q : i < n
  · rw [if_neg (nI_ge (by omega) (by omega)), if_pos q, gd_ok rfl (show i < 80 by omega) (by omega), cl_nI (by omega), m_in, b1_some]
    by_cases p : 48 ≤ τ 200 i ∧ τ 200 i ≤ 57
    · rw [if_pos p, if_pos p, if_neg (by decide)]
    · rw [if_neg p, if_neg p, if_pos rfl]
  · rw [if_pos (nI_le (by omega) (by omega)), if_neg q]
theorem m_told {τ : Sg} {t : Nat → Int32} {x v : Int32} {k pl : Nat} (h13 : τ 193 13 = nI k) (hk : k ≤ 40) (hp : pl ≤ 4) : f_X5_isTold (wT τ x t) (nI pl) v = some (1, wT τ x (upd t (5 * k + pl) v)) := by
  unfold f_X5_isTold
  rw [wT_93 (by omega), h13, show (5 : Int32) = nI 5 from rfl, pk_mul, nI_add, gd_ok rfl (show 5 * k + pl < 205 by omega) (by omega), cl_nI (by omega), st_eq, wT_t]
theorem dig_v {tx : Nat → Int32} {n i : Nat} {lo : Int32} (hlo : 0 ≤ lo.toInt) (hc : ∀ i, i < n → vp_in (tx i) 65536) (h : ¬ s_dig tx n i < lo) : ∃ d, d ≤ 9 ∧ i < n ∧ s_dig tx n i = nI d := by
  rcases s_dig_c (tx := tx) (n := n) (i := i) (hc i) with z | z
  · rw [z, tI_lt, show (-1 : Int32).toInt = -1 from by decide] at h
    omega
  · exact z
/-- how a number ends -/
theorem m_numE {τ : Sg} {t : Nat → Int32} {k pl : Nat} {x hi v : Int32} {m : Nat} (h13 : τ 193 13 = nI k) (hk : k ≤ 40) (hp : pl ≤ 4) (h : v ≤ 0 ∨ f_X5_figure (wT τ x t) = some (-1) ∨ ∃ y, f_X5_figure (wT τ x t) = some y ∧ hi < 10 * v + y) : l_X5_isNumber_30 (m + 1) (wT τ x t) (nI pl) hi v = some (1, wT τ x (upd t (5 * k + pl) v)) := by
  have e := m_told (t := t) (x := x) (v := v) h13 hk hp
  have fin : (b2 (f_X5_isTold (wT τ x t) (nI pl) v) fun y8 σ10 => gd y8 2 (some (y8, σ10))) = some (1, wT τ x (upd t (5 * k + pl) v)) := by
    rw [e, b2_some, gd_in (vp_lit (by decide))]
  rw [l_X5_isNumber_30.eq_2]
  by_cases h0 : v ≤ 0
  · rw [if_pos h0]; exact fin
  · rw [if_neg h0]
    rcases h with h | h | ⟨y, h, hy⟩
    · exact absurd h h0
    · rw [h, b1_some, if_pos rfl]; exact fin
    · rw [h, b1_some]
      by_cases hm : y = -1
      · rw [if_pos hm]; exact fin
      · rw [if_neg hm, b1_some, if_pos hy]; exact fin
theorem m_num {τ : Sg} {t : Nat → Int32} {n i k pl : Nat} {lo hi : Int32} (h9 : τ 193 9 = nI n) (h13 : τ 193 13 = nI k) (hn : n ≤ 80) (hin : i ≤ n) (hk : k ≤ 40) (hp : pl ≤ 4) (hc : ∀ i, i < n → vp_in (τ 200 i) 65536) (hlo : 0 ≤ lo.toInt) (hhi : hi.toInt ≤ 99) : f_X5_isNumber (wT τ (nI i) t) (nI pl) lo hi = some (fl1 (s_num (τ 200) n i lo hi).1, wT τ (nI (s_num (τ 200) n i lo hi).2) (if (s_num (τ 200) n i lo hi).1 = -1 then t else upd t (5 * k + pl) (s_num (τ 200) n i lo hi).1)) := by
  unfold f_X5_isNumber s_num
  rw [m_fig h9 hn (by omega) hc, b1_some]
  obtain ⟨d, hd⟩ : ∃ d, d = s_dig (τ 200) n i := ⟨_, rfl⟩
  by_cases q1 : s_dig (τ 200) n i < lo ∨ hi < s_dig (τ 200) n i
  · rw [if_pos q1]
    dsimp only
    rw [if_pos rfl, show fl1 (-1) = 0 from if_pos rfl]
    by_cases b : s_dig (τ 200) n i < lo
    · rw [if_pos b]
    · rw [if_neg b, if_neg]
      rcases q1 with q | q
      · exact absurd q b
      · rw [tI_lt] at q
        rw [tI_le]
        omega
  · have b1 : ¬ s_dig (τ 200) n i < lo := fun z => q1 (Or.inl z)
    have b2 : s_dig (τ 200) n i ≤ hi := by
      have : ¬ hi < s_dig (τ 200) n i := fun z => q1 (Or.inr z)
      rw [tI_lt] at this
      rw [tI_le]
      omega
    obtain ⟨j, hj, hjn, ej⟩ := dig_v hlo hc b1
    have nj : ∀ z : Nat, z < 1000 → ¬ nI z = -1 := fun z hz => nI_neg1 (by omega)
    rw [if_neg q1, if_neg b1, if_pos b2, wT_11, nI_1, st_eq, wT_s]
    have hf1 := m_fig (t := t) (i := i + 1) h9 hn (by omega) hc
    by_cases q2 : s_dig (τ 200) n i ≤ 0 ∨ s_dig (τ 200) n (i + 1) = -1 ∨ hi < s_dig (τ 200) n i * 10 + s_dig (τ 200) n (i + 1)
    · rw [if_pos q2]
      dsimp only
      have e1 : fl1 (s_dig (τ 200) n i) = 1 := by rw [ej]; exact if_neg (nj j (by omega))
      rw [e1, if_neg (show ¬ s_dig (τ 200) n i = -1 by rw [ej]; exact nj j (by omega))]
      refine m_numE (m := 9999) h13 hk hp ?_
      rcases q2 with z | z | z
      · exact Or.inl z
      · exact Or.inr (Or.inl (by rw [hf1, z]))
      · exact Or.inr (Or.inr ⟨_, hf1, by rw [Int32.mul_comm 10]; exact z⟩)
    · rw [if_neg q2]
      dsimp only
      have c1 : ¬ s_dig (τ 200) n i ≤ 0 := fun z => q2 (Or.inl z)
      have c2 : ¬ s_dig (τ 200) n (i + 1) = -1 := fun z => q2 (Or.inr (Or.inl z))
      have c3 : ¬ hi < s_dig (τ 200) n i * 10 + s_dig (τ 200) n (i + 1) := fun z => q2 (Or.inr (Or.inr z))
      obtain ⟨e, he, hen, ee⟩ : ∃ d, d ≤ 9 ∧ i + 1 < n ∧ s_dig (τ 200) n (i + 1) = nI d := by
        rcases s_dig_c (tx := τ 200) (n := n) (i := i + 1) (hc _) with z | z
        · exact absurd z c2
        · exact z
      have j0 : 0 < j := by
        rcases Nat.eq_zero_or_pos j with z | z
        · rw [ej, z] at c1
          exact absurd (show nI 0 ≤ 0 by decide) c1
        · exact z
      have ev : s_dig (τ 200) n i * 10 + s_dig (τ 200) n (i + 1) = nI (j * 10 + e) := by rw [ej, ee, show (10 : Int32) = nI 10 from rfl, pk_mul, nI_add]
      have e1 : fl1 (nI (j * 10 + e)) = 1 := if_neg (nj _ (by omega))
      rw [ev] at c3 ⊢
      rw [e1, if_neg (nj _ (by omega)), show (10000 : Nat) = 9999 + 1 from rfl, l_X5_isNumber_30.eq_2, if_neg c1, hf1, b1_some, if_neg c2, b1_some, Int32.mul_comm 10, ev, if_neg c3, b1_some, wT_11, nI_1, st_eq, wT_s, ev]
      refine m_numE (m := 9998) h13 hk hp ?_
      have hf2 := m_fig (t := t) (i := i + 1 + 1) h9 hn (by omega) hc
      rcases s_dig_c (tx := τ 200) (n := n) (i := i + 1 + 1) (hc _) with z | ⟨u, hu, hun, eu⟩
      · exact Or.inr (Or.inl (by rw [hf2, z]))
      · refine Or.inr (Or.inr ⟨_, hf2, ?_⟩)
        rw [eu, show (10 : Int32) = nI 10 from rfl, pk_mul, nI_add, tI_lt, nI_toInt (by omega)]
        omega
theorem m_sgn {τ : Sg} {t : Nat → Int32} {n i : Nat} {c : Int32} (h9 : τ 193 9 = nI n) (hn : n ≤ 80) (hi : i ≤ n) : f_X5_takes (wT τ (nI i) t) c = some ((s_sgn (τ 200) n i c).1, wT τ (nI (s_sgn (τ 200) n i c).2) t) := by
  have z : nI i + 0 = nI i := Int32.add_zero _
  unfold f_X5_takes s_sgn
  rw [wT_93 (by omega), h9, wT_11, wT_o (show 200 ≠ 193 by omega) (by omega)]
  by_cases q : i < n
  · rw [if_neg (nI_ge (by omega) (by omega)), if_pos q, gd_ok rfl (show i < 80 by omega) (by omega), cl_nI (by omega)]
    by_cases p : τ 200 i = c
    · rw [if_pos p, if_pos p, nI_1, st_eq, wT_s]
    · rw [if_neg p, if_neg p, z, st_eq, wT_s]
  · rw [if_pos (nI_le (by omega) (by omega)), if_neg q, z, st_eq, wT_s]
theorem m_ltr {τ : Sg} {t : Nat → Int32} {n i k pl : Nat} (h9 : τ 193 9 = nI n) (h13 : τ 193 13 = nI k) (hn : n ≤ 80) (hi : i ≤ n) (hk : k ≤ 40) (hp : pl ≤ 4) : f_X5_isLetter (wT τ (nI i) t) (nI pl) = some (fl1 (s_let (τ 200) n i).1, wT τ (nI (s_let (τ 200) n i).2) (if (s_let (τ 200) n i).1 = -1 then t else upd t (5 * k + pl) (s_let (τ 200) n i).1)) := by
  have z : nI i + 0 = nI i := Int32.add_zero _
  have fin : ∀ v : Int32, ¬ v = -1 → (st (wT τ (nI (i + 1)) t) fun σ14 => b2 (f_X5_isTold σ14 (nI pl) v) fun y17 σ19 => if y17 = 0 then (some (0, σ19)) else (some (1, σ19))) = some (fl1 v, wT τ (nI (i + 1)) (if v = -1 then t else upd t (5 * k + pl) v)) := by
    intro v hv
    rw [st_eq, m_told h13 hk hp, b2_some, if_neg (by decide), if_neg hv, show fl1 v = 1 from if_neg hv]
  unfold f_X5_isLetter s_let
  rw [wT_93 (by omega), h9, wT_11, wT_o (show 200 ≠ 193 by omega) (by omega)]
  by_cases q : i < n
  · rw [if_neg (nI_ge (by omega) (by omega)), if_pos q, gd_ok rfl (show i < 80 by omega) (by omega), cl_nI (by omega), nI_1, wT_s]
    by_cases p1 : τ 200 i = 104
    · rw [if_pos p1, if_pos p1]; exact fin 0 (by decide)
    rw [if_neg p1, if_neg p1]
    by_cases p2 : τ 200 i = 100
    · rw [if_pos p2, if_pos p2]; exact fin 1 (by decide)
    rw [if_neg p2, if_neg p2]
    by_cases p3 : τ 200 i = 99
    · rw [if_pos p3, if_pos p3]; exact fin 2 (by decide)
    rw [if_neg p3, if_neg p3]
    by_cases p4 : τ 200 i = 108
    · rw [if_pos p4, if_pos p4]; exact fin 3 (by decide)
    rw [if_neg p4, if_neg p4]
    by_cases p5 : τ 200 i = 116
    · rw [if_pos p5, if_pos p5]; exact fin 4 (by decide)
    rw [if_neg p5, if_neg p5, z, wT_s, st_eq]
    rfl
  · rw [if_pos (nI_le (by omega) (by omega)), if_neg q, z, wT_s, st_eq]
    rfl
/-- what the second reader was told of the k-th order -/
def FM (t : Nat → Int32) (k : Nat) (F : Int32 × Int32 × Int32 × Int32 × Int32) : Prop := t (5 * k) = F.1 ∧ t (5 * k + 1) = F.2.1 ∧ (F.1 ≠ 112 → t (5 * k + 2) = F.2.2.1) ∧ (F.1 = 98 ∨ F.1 = 114 ∨ F.1 = 99 → t (5 * k + 3) = F.2.2.2.1) ∧ (F.1 = 98 ∨ F.1 = 114 → t (5 * k + 4) = F.2.2.2.2)
def MO (r : Option (Int32 × Sg)) (τ : Sg) (t : Nat → Int32) (k : Nat) (o : Nat × Int32 × Int32 × Int32 × Int32 × Int32) : Prop := ∃ t', r = some (fl1 o.2.1, wT τ (nI o.1) t') ∧ (∀ j, j < 5 * k → t' j = t j) ∧ (o.2.1 ≠ -1 → FM t' k o.2)
theorem ms_bind {r : Option (Int32 × Sg)} {τ : Sg} {t : Nat → Int32} {k pl : Nat} {a : Int32 × Nat} {K : Sg → Option (Int32 × Sg)} {q : Int32 → Nat → Nat × Int32 × Int32 × Int32 × Int32 × Int32} (h : r = some (fl1 a.1, wT τ (nI a.2) (if a.1 = -1 then t else upd t (5 * k + pl) a.1))) (hk : a.1 ≠ -1 → MO (K (wT τ (nI a.2) (upd t (5 * k + pl) a.1))) τ (upd t (5 * k + pl) a.1) k (q a.1 a.2)) : MO (b2 r fun y σ' => if y = 0 then (some (0, σ')) else K σ') τ t k (thn a q) := by
  rw [h, b2_some]
  unfold thn
  by_cases z : a.1 = -1
  · rw [if_pos z, if_pos z, show fl1 a.1 = 0 from if_pos z, if_pos rfl]
    exact ⟨t, rfl, fun _ _ => rfl, fun w => absurd rfl w⟩
  · rw [if_neg z, if_neg z, show fl1 a.1 = 1 from if_neg z, if_neg (by decide)]
    obtain ⟨t', h1, h2, h3⟩ := hk z
    exact ⟨t', h1, fun j hj => (h2 j hj).trans (upd_n (by omega)), h3⟩
theorem mg_bind {r : Option (Int32 × Sg)} {τ : Sg} {t : Nat → Int32} {k : Nat} {a : Int32 × Nat} {K : Sg → Option (Int32 × Sg)} {q : Nat → Nat × Int32 × Int32 × Int32 × Int32 × Int32} (h : r = some (a.1, wT τ (nI a.2) t)) (hk : MO (K (wT τ (nI a.2) t)) τ t k (q a.2)) : MO (b2 r fun y σ' => if y = 0 then (some (0, σ')) else K σ') τ t k (ths a q) := by
  rw [h, b2_some]
  unfold ths
  by_cases z : a.1 = 0
  · rw [if_pos z, if_pos z]
    exact ⟨t, rfl, fun _ _ => rfl, fun w => absurd rfl w⟩
  · rw [if_neg z, if_neg z]
    exact hk
theorem MO.of {r : Option (Int32 × Sg)} {τ : Sg} {t t' : Nat → Int32} {k : Nat} {o : Nat × Int32 × Int32 × Int32 × Int32 × Int32} (h : MO r τ t k o) (e : ∀ j, j < 5 * k → t j = t' j) : MO r τ t' k o := by
  obtain ⟨u, h1, h2, h3⟩ := h
  exact ⟨u, h1, fun j hj => (h2 j hj).trans (e j hj), h3⟩
theorem m_ord {τ : Sg} {t : Nat → Int32} {n i k : Nat} (h9 : τ 193 9 = nI n) (h13 : τ 193 13 = nI k) (hn : n ≤ 80) (hi : i ≤ n) (hk : k ≤ 40) (hc : ∀ i, i < n → vp_in (τ 200 i) 65536) : MO (f_X5_isOrder (wT τ (nI i) t)) τ t k (s_ord (τ 200) n i) := by
  unfold f_X5_isOrder s_ord
  rw [wT_93 (show 9 ≠ 11 by omega), wT_93 (show 13 ≠ 11 by omega), h9, h13, wT_11, wT_o (show 200 ≠ 193 by omega) (by omega)]
  by_cases q : i < n
  · rw [if_neg (show ¬ nI i = nI n by rw [nI_eq (by omega) (by omega)]; omega), if_pos q, gd_ok rfl (show i < 80 by omega) (by omega), show (5 : Int32) = nI 5 from rfl, pk_mul, gd_ok rfl (show 5 * k < 205 by omega) (by omega), cl_nI (by omega), cl_nI (by omega), wT_t, st_eq, wT_11, nI_1, wT_s, st_eq]
    obtain ⟨t1, ht1⟩ : ∃ t1, t1 = upd t (5 * k) (τ 200 i) := ⟨_, rfl⟩
    rw [← ht1]
    have t10 : t1 (5 * k) = τ 200 i := by rw [ht1, upd_s]
    have hg : ∀ (r : Option (Int32 × Sg)) (o : Nat × Int32 × Int32 × Int32 × Int32 × Int32), MO r τ t1 k o → MO r τ t k o := fun r o h => h.of (fun j hj => by rw [ht1, upd_n (by omega)])
    apply hg
    by_cases q1 : τ 200 i = 98
    · rw [if_pos q1, if_pos q1]
      have l1 := s_num_le (tx := τ 200) (n := n) (i := i + 1) (lo := 0) (hi := 11) (by decide) (by omega)
      refine ms_bind (pl := 1) (m_num (pl := 1) h9 h13 hn (by omega) hk (by omega) hc (by decide) (by decide)) (fun _ => ?_)
      have l2 := s_let_le (tx := τ 200) (n := n) l1.2.1
      refine ms_bind (pl := 2) (m_ltr (pl := 2) h9 h13 hn l1.2.1 hk (by omega)) (fun _ => ?_)
      have l3 := s_num_le (tx := τ 200) (n := n) (lo := 1) (hi := 9) (by decide) l2.2
      refine ms_bind (pl := 3) (m_num (pl := 3) h9 h13 hn l2.2 hk (by omega) hc (by decide) (by decide)) (fun _ => ?_)
      rw [m_sgn h9 hn l3.2.1, b2_some]
      have tl := fun x v u => m_told (τ := τ) (t := u) (x := x) (v := v) (pl := 4) h13 hk (by omega)
      have e4 : ∀ v x u, f_X5_isTold (wT τ x u) 4 v = some (1, wT τ x (upd u (5 * k + 4) v)) := fun v x u => tl x v u
      have fin : ∀ u v p, u (5 * k) = 98 → u (5 * k + 1) = (s_num (τ 200) n (i + 1) 0 11).1 → u (5 * k + 2) = (s_let (τ 200) n (s_num (τ 200) n (i + 1) 0 11).2).1 → u (5 * k + 3) = (s_num (τ 200) n (s_let (τ 200) n (s_num (τ 200) n (i + 1) 0 11).2).2 1 9).1 → MO (b2 (f_X5_isTold (wT τ (nI p) u) 4 v) fun y σ' => if y = 0 then (some (0, σ')) else (some (1, σ'))) τ u k (p, 98, (s_num (τ 200) n (i + 1) 0 11).1, (s_let (τ 200) n (s_num (τ 200) n (i + 1) 0 11).2).1, (s_num (τ 200) n (s_let (τ 200) n (s_num (τ 200) n (i + 1) 0 11).2).2 1 9).1, v) := by
        intro u v p u0 u1 u2' u3
        rw [e4, b2_some, if_neg (by decide)]
        refine ⟨upd u (5 * k + 4) v, rfl, fun j hj => upd_n (by omega), fun _ => ⟨?_, ?_, fun _ => ?_, fun _ => ?_, fun _ => upd_s⟩⟩
        · rw [upd_n (by omega)]; exact u0
        · rw [upd_n (by omega)]; exact u1
        · rw [upd_n (by omega)]; exact u2'
        · rw [upd_n (by omega)]; exact u3
      have u0 : upd (upd (upd t1 (5 * k + 1) (s_num (τ 200) n (i + 1) 0 11).1) (5 * k + 2) (s_let (τ 200) n (s_num (τ 200) n (i + 1) 0 11).2).1) (5 * k + 3) (s_num (τ 200) n (s_let (τ 200) n (s_num (τ 200) n (i + 1) 0 11).2).2 1 9).1 (5 * k) = 98 := by rw [upd_n (by omega), upd_n (by omega), upd_n (by omega), t10, q1]
      have fin2 := fun v p => fin _ v p u0 (by rw [upd_n (by omega), upd_n (by omega), upd_s]) (by rw [upd_n (by omega), upd_s]) upd_s
      rcases s_sgn_v (tx := τ 200) (n := n) (i := (s_num (τ 200) n (s_let (τ 200) n (s_num (τ 200) n (i + 1) 0 11).2).2 1 9).2) (c := 94) with z | z
      · rw [z, if_neg (by decide)]
        exact fin2 1 _
      · rw [z, if_pos rfl]
        exact fin2 0 _
    rw [if_neg q1, if_neg q1]
    by_cases q4 : τ 200 i = 99
    · rw [if_pos q4, if_neg (show ¬ τ 200 i = 114 by rw [q4]; decide), if_neg (show ¬ τ 200 i = 102 by rw [q4]; decide), if_pos q4]
      have l1 := s_num_le (tx := τ 200) (n := n) (i := i + 1) (lo := 0) (hi := 99) (by decide) (by omega)
      refine ms_bind (pl := 1) (m_num (pl := 1) h9 h13 hn (by omega) hk (by omega) hc (by decide) (by decide)) (fun _ => ?_)
      have l2 := s_let_le (tx := τ 200) (n := n) l1.2.1
      refine ms_bind (pl := 2) (m_ltr (pl := 2) h9 h13 hn l1.2.1 hk (by omega)) (fun _ => ?_)
      refine ms_bind (pl := 3) (m_num (pl := 3) h9 h13 hn l2.2 hk (by omega) hc (by decide) (by decide)) (fun _ => ?_)
      refine ⟨_, rfl, fun _ _ => rfl, fun _ => ⟨?_, ?_, fun _ => ?_, fun _ => upd_s, fun z => z.elim (fun z => absurd z (show ¬ (99 : Int32) = 98 by decide)) (fun z => absurd z (show ¬ (99 : Int32) = 114 by decide))⟩⟩
      · rw [upd_n (by omega), upd_n (by omega), upd_n (by omega), t10, q4]
      · rw [upd_n (by omega), upd_n (by omega), upd_s]
      · rw [upd_n (by omega), upd_s]
    rw [if_neg q4]
    by_cases q3 : τ 200 i = 102
    · rw [if_pos q3, if_neg (show ¬ τ 200 i = 114 by rw [q3]; decide), if_pos q3]
      have l1 := s_num_le (tx := τ 200) (n := n) (i := i + 1) (lo := 0) (hi := 5) (by decide) (by omega)
      refine ms_bind (pl := 1) (m_num (pl := 1) h9 h13 hn (by omega) hk (by omega) hc (by decide) (by decide)) (fun _ => ?_)
      have l2 := s_sgn_le (tx := τ 200) (n := n) (c := 43) l1.2.1
      refine mg_bind (m_sgn h9 hn l1.2.1) ?_
      refine ms_bind (pl := 2) (m_num (pl := 2) h9 h13 hn l2.2 hk (by omega) hc (by decide) (by decide)) (fun _ => ?_)
      refine ⟨_, rfl, fun _ _ => rfl, fun _ => ⟨?_, ?_, fun _ => upd_s, fun z => z.elim (fun z => absurd z (show ¬ (102 : Int32) = 98 by decide)) (fun z => z.elim (fun z => absurd z (show ¬ (102 : Int32) = 114 by decide)) (fun z => absurd z (show ¬ (102 : Int32) = 99 by decide))), fun z => z.elim (fun z => absurd z (show ¬ (102 : Int32) = 98 by decide)) (fun z => absurd z (show ¬ (102 : Int32) = 114 by decide))⟩⟩
      · rw [upd_n (by omega), upd_n (by omega), t10, q3]
      · rw [upd_n (by omega), upd_s]
    rw [if_neg q3]
    by_cases q6 : τ 200 i = 112
    · rw [if_pos q6, if_neg (show ¬ τ 200 i = 114 by rw [q6]; decide), if_neg (show ¬ τ 200 i = 102 by rw [q6]; decide), if_neg q4, if_neg (show ¬ τ 200 i = 119 by rw [q6]; decide), if_pos q6]
      have e := m_num (t := t1) (pl := 1) (lo := 1) (hi := 40) h9 h13 hn (show i + 1 ≤ n by omega) hk (by omega) hc (by decide) (by decide)
      rw [show (1 : Int32) = nI 1 from rfl] at e ⊢
      rw [e, b2_some]
      unfold s_ordP thn
      by_cases z : (s_num (τ 200) n (i + 1) 1 40).1 = -1
      · rw [if_pos z]
        rw [show (1 : Int32) = nI 1 from rfl] at z
        rw [if_pos z, show fl1 (s_num (τ 200) n (i + 1) (nI 1) 40).1 = 0 from if_pos z, gd_in (vp_lit (by decide))]
        exact ⟨t1, rfl, fun _ _ => rfl, fun w => absurd rfl w⟩
      · rw [if_neg z]
        rw [show (1 : Int32) = nI 1 from rfl] at z
        rw [if_neg z, show fl1 (s_num (τ 200) n (i + 1) (nI 1) 40).1 = 1 from if_neg z, gd_in (vp_lit (by decide))]
        refine ⟨_, rfl, fun j hj => upd_n (by omega), fun _ => ⟨?_, upd_s, fun z => absurd rfl z, fun z => z.elim (fun z => absurd z (show ¬ (112 : Int32) = 98 by decide)) (fun z => z.elim (fun z => absurd z (show ¬ (112 : Int32) = 114 by decide)) (fun z => absurd z (show ¬ (112 : Int32) = 99 by decide))), fun z => z.elim (fun z => absurd z (show ¬ (112 : Int32) = 98 by decide)) (fun z => absurd z (show ¬ (112 : Int32) = 114 by decide))⟩⟩
        rw [upd_n (by omega), t10, q6]
    rw [if_neg q6]
    by_cases q2 : τ 200 i = 114
    · rw [if_pos q2, if_pos q2]
      have l1 := s_num_le (tx := τ 200) (n := n) (i := i + 1) (lo := 0) (hi := 5) (by decide) (by omega)
      refine ms_bind (pl := 1) (m_num (pl := 1) h9 h13 hn (by omega) hk (by omega) hc (by decide) (by decide)) (fun _ => ?_)
      have l2 := s_sgn_le (tx := τ 200) (n := n) (c := 58) l1.2.1
      refine mg_bind (m_sgn h9 hn l1.2.1) ?_
      have l3 := s_num_le (tx := τ 200) (n := n) (lo := 0) (hi := 3) (by decide) l2.2
      refine ms_bind (pl := 2) (m_num (pl := 2) h9 h13 hn l2.2 hk (by omega) hc (by decide) (by decide)) (fun _ => ?_)
      have l4 := s_num_le (tx := τ 200) (n := n) (lo := 0) (hi := 3) (by decide) l3.2.1
      refine ms_bind (pl := 3) (m_num (pl := 3) h9 h13 hn l3.2.1 hk (by omega) hc (by decide) (by decide)) (fun _ => ?_)
      have l5 := s_sgn_le (tx := τ 200) (n := n) (c := 42) l4.2.1
      refine mg_bind (m_sgn h9 hn l4.2.1) ?_
      refine ms_bind (pl := 4) (m_num (pl := 4) h9 h13 hn l5.2 hk (by omega) hc (by decide) (by decide)) (fun _ => ?_)
      refine ⟨_, rfl, fun _ _ => rfl, fun _ => ⟨?_, ?_, fun _ => ?_, fun _ => ?_, fun _ => upd_s⟩⟩
      · rw [upd_n (by omega), upd_n (by omega), upd_n (by omega), upd_n (by omega), t10, q2]
      · rw [upd_n (by omega), upd_n (by omega), upd_n (by omega), upd_s]
      · rw [upd_n (by omega), upd_n (by omega), upd_s]
      · rw [upd_n (by omega), upd_s]
    rw [if_neg q2, if_neg q2, if_neg q3, if_neg q4]
    by_cases q5 : τ 200 i = 119
    · rw [if_pos q5, if_pos q5]
      have l1 := s_num_le (tx := τ 200) (n := n) (i := i + 1) (lo := 0) (hi := 9) (by decide) (by omega)
      refine ms_bind (pl := 1) (m_num (pl := 1) h9 h13 hn (by omega) hk (by omega) hc (by decide) (by decide)) (fun _ => ?_)
      have l2 := s_sgn_le (tx := τ 200) (n := n) (c := 61) l1.2.1
      refine mg_bind (m_sgn h9 hn l1.2.1) ?_
      refine ms_bind (pl := 2) (m_num (pl := 2) h9 h13 hn l2.2 hk (by omega) hc (by decide) (by decide)) (fun _ => ?_)
      refine ⟨_, rfl, fun _ _ => rfl, fun _ => ⟨?_, ?_, fun _ => upd_s, fun z => z.elim (fun z => absurd z (show ¬ (119 : Int32) = 98 by decide)) (fun z => z.elim (fun z => absurd z (show ¬ (119 : Int32) = 114 by decide)) (fun z => absurd z (show ¬ (119 : Int32) = 99 by decide))), fun z => z.elim (fun z => absurd z (show ¬ (119 : Int32) = 98 by decide)) (fun z => absurd z (show ¬ (119 : Int32) = 114 by decide))⟩⟩
      · rw [upd_n (by omega), upd_n (by omega), t10, q5]
      · rw [upd_n (by omega), upd_s]
    rw [if_neg q5, if_neg q5, if_neg q6, wT_11, show (1 : Int32) = nI 1 from rfl, pk_sub (by omega), wT_s, st_eq]
    exact ⟨t1, rfl, fun _ _ => rfl, fun w => absurd rfl w⟩
  · have : i = n := by omega
    rw [if_pos (by rw [this]), if_neg q]
    exact ⟨t, rfl, fun _ _ => rfl, fun w => absurd rfl w⟩

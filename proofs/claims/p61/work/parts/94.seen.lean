/-! what 'seen' makes of a state: a number out of the row alone -/
theorem bn1_some {α γ : Type} {y : Int32} {k : Int32 → Option γ} : bn1 (α := α) (some (.inr y)) k = k y := rfl
theorem bn2_some {α γ : Type} {y : Int32} {τ : Sg} {k : Int32 → Sg → Option γ} : bn2 (α := α) (some (.inr (y, τ))) k = k y τ := rfl
theorem bl_inr {α β γ : Type} {inj : α → γ} {s : β} {k : β → Option γ} : bl inj (some (.inr s)) k = k s := rfl
theorem b2L_some {α : Type} {y : Int64} {τ : Sg} {k : Int64 → Sg → Option α} : b2L (some (y, τ)) k = k y τ := rfl
def hx (h : Int64) (x : Int32) : Int64 := ((31 : Int64) * h) + x.toInt64
def hL (h : Int64) (l : List Int32) : Int64 := l.foldl hx h
def bl01 (x : Int32) : Int32 := if x = 0 then 0 else 1
def s_row (f : Nat → Int32) (s : Nat) : List Int32 := [f (24 + 23 * s + 0), f (24 + 23 * s + 2), bl01 (f (24 + 23 * s + 6)), f (24 + 23 * s + 4), f (24 + 23 * s + 5), s_rt f s, s_ptw f s, s_onShelf f s, oI (s_best f s)]
def s_shl (f : Nat → Int32) (s : Nat) : Nat → Nat → List Int32
  | 0, _ => []
  | d + 1, i => f (24 + 23 * s + (7 + 4 * (i / 4) + i % 4)) :: s_shl f s d (i + 1)
def s_kid (f : Nat → Int32) (k : Nat) : List Int32 := [bl01 (if f (185 + 8 * k + 4) = -1 then 0 else 1), f (185 + 8 * k + 0), f (185 + 8 * k + 1), f (185 + 8 * k + 4), bl01 (f (185 + 8 * k + 5)), f (185 + 8 * k + 7), s_rsn f k]
def s_hS (f : Nat → Int32) : Nat → Nat → Int64 → Int64
  | 0, _, h => h
  | d + 1, k, h => s_hS f d (k + 1) (hL (hL h (s_row f k)) (s_shl f k 16 0))
def s_hC (f : Nat → Int32) : Nat → Nat → Int64 → Int64
  | 0, _, h => h
  | d + 1, k, h => s_hC f d (k + 1) (hL h (s_kid f k))
def s_hR (f : Nat → Int32) : Nat → Nat → Int64 → Int64
  | 0, _, h => h
  | d + 1, i, h => s_hR f d (i + 1) (hx h (s_rain f i))
def s_hW (f : Nat → Int32) : Nat → Nat → Int64 → Int64
  | 0, _, h => h
  | d + 1, i, h => s_hW f d (i + 1) (hx h (f (10 + i)))
def s_top (f : Nat → Int32) : Int64 := hL 3880 [f 0, f 1, 500 + f 3, f 4, f 5, f 6, f 7, f 8, f 9]
def s_seen (f : Nat → Int32) : Int64 := s_hW f 4 0 (s_hR f 10 0 (s_hC f (nC f) 0 (s_hS f (nS f) 0 (s_top f))))
section SEEN
variable {σ : Sg} {f : Nat → Int32} {m : Nat} {R : Nat → Nat → Int32} {hs : Int32} {sn : Nat → Int32} {n : Nat} {T : Nat → Int32}
theorem seen112 {s : Nat} {x : Int64} (h : PI σ f m R hs sn n T) (h1 : s < nS f) : l_L_seen_112 10 σ x (nI s) 12 = some (.inr (σ, hL x (s_row f s), nI s)) := by
  rw [l_L_seen_112.eq_2, if_neg (show ¬ (21 : Int32) ≤ 12 by decide), cl_12r (q_pitchOf h h1), b2_some, show (12 : Int32) + 1 = 13 from rfl, l_L_seen_112.eq_2, if_neg (show ¬ (21 : Int32) ≤ 13 by decide), cl_13r (q_priceOf h h1), b2_some, show (13 : Int32) + 1 = 14 from rfl, l_L_seen_112.eq_2, if_neg (show ¬ (21 : Int32) ≤ 14 by decide), cl_14r (q_isOpen h h1), b2_some, show (14 : Int32) + 1 = 15 from rfl, l_L_seen_112.eq_2, if_neg (show ¬ (21 : Int32) ≤ 15 by decide), cl_15r (q_purseOfStall h h1), b2_some, show (15 : Int32) + 1 = 16 from rfl, l_L_seen_112.eq_2, if_neg (show ¬ (21 : Int32) ≤ 16 by decide), cl_16r (q_playsOf h h1), b2_some, show (16 : Int32) + 1 = 17 from rfl, l_L_seen_112.eq_2, if_neg (show ¬ (21 : Int32) ≤ 17 by decide), cl_17r (q_rentOf h h1), b2_some, show (17 : Int32) + 1 = 18 from rfl, l_L_seen_112.eq_2, if_neg (show ¬ (21 : Int32) ≤ 18 by decide), cl_18r (q_playsToWin h h1), b2_some, show (18 : Int32) + 1 = 19 from rfl, l_L_seen_112.eq_2, if_neg (show ¬ (21 : Int32) ≤ 19 by decide), cl_19r (q_shelfOf h h1), b2_some, show (19 : Int32) + 1 = 20 from rfl, l_L_seen_112.eq_2, if_neg (show ¬ (21 : Int32) ≤ 20 by decide), cl_20r (q_levelToWin h h1), b2_some, show (20 : Int32) + 1 = 21 from rfl, l_L_seen_112.eq_2, if_pos (show (21 : Int32) ≤ 21 by decide)]
  rfl
theorem seen146 {s : Nat} (h : PI σ f m R hs sn n T) (h1 : s < nS f) : ∀ (d i N : Nat) (x : Int64), i + d = 16 → d < N → l_L_seen_146 N σ x (nI s) (nI i) = some (.inr (σ, hL x (s_shl f s d i), nI s)) := by
  intro d
  induction d with
  | zero =>
    intro i N x hi hN
    obtain ⟨M, rfl⟩ : ∃ M, N = M + 1 := ⟨N - 1, by omega⟩
    rw [l_L_seen_146.eq_2, if_pos (show (16 : Int32) ≤ nI i from nI_le (a := 16) (b := i) (by omega) (by omega))]
    rfl
  | succ d ih =>
    intro i N x hi hN
    obtain ⟨M, rfl⟩ : ∃ M, N = M + 1 := ⟨N - 1, by omega⟩
    have e1 : nI i / 4 = nI (i / 4) := by rw [show (4 : Int32) = nI 4 from rfl, pk_div (by omega) (by omega) (by omega)]
    have e2 : nI i - nI i / 4 * 4 = nI (i % 4) := by rw [show (4 : Int32) = nI 4 from rfl, pk_rem (by omega) (by omega) (by omega)]
    rw [l_L_seen_146.eq_2, if_neg (show ¬ (16 : Int32) ≤ nI i from nI_ge (a := i) (b := 16) (by omega) (by omega)), e2, e1, q_prizesOn h h1 (show i / 4 < 4 by omega) (show i % 4 < 4 by omega), bn1_some, nI_1, ih (i + 1) M _ (by omega) (by omega)]
    rfl
theorem seen100 (h : PI σ f m R hs sn n T) : ∀ (d k N : Nat) (x : Int64), k + d = nS f → d < N → l_L_seen_100 N σ x (nI k) = some (.inr (σ, s_hS f d k x)) := by
  have h7 := h.2.1.1.1.s7
  have h8 := ns_eq h.2.1.1.1.ns (by omega)
  intro d
  induction d with
  | zero =>
    intro k N x hk hN
    obtain ⟨M, rfl⟩ : ∃ M, N = M + 1 := ⟨N - 1, by omega⟩
    rw [l_L_seen_100.eq_2, q_stalls h, b1_some, h8, if_pos (nI_le (by omega) (by omega))]
    rfl
  | succ d ih =>
    intro k N x hk hN
    obtain ⟨M, rfl⟩ : ∃ M, N = M + 1 := ⟨N - 1, by omega⟩
    rw [l_L_seen_100.eq_2, q_stalls h, b1_some, h8, if_neg (nI_ge (by omega) (by omega)), seen112 h (show k < nS f by omega), bl_inr]
    dsimp only
    rw [show (0 : Int32) = nI 0 from rfl, seen146 h (show k < nS f by omega) 16 0 17 _ (by omega) (by omega), bl_inr]
    dsimp only
    rw [nI_1, ih (k + 1) M _ (by omega) (by omega)]
    rfl
theorem seen200 {k : Nat} {x : Int64} (h : PI σ f m R hs sn n T) (h1 : k < nC f) : l_L_seen_200 8 σ x (nI k) 22 = some (.inr (σ, hL x (s_kid f k), nI k)) := by
  rw [l_L_seen_200.eq_2, if_neg (show ¬ (29 : Int32) ≤ 22 by decide), cl_22r (q_isAtFair h h1), b2_some, show (22 : Int32) + 1 = 23 from rfl, l_L_seen_200.eq_2, if_neg (show ¬ (29 : Int32) ≤ 23 by decide), cl_23r (q_purseOf h h1), b2_some, show (23 : Int32) + 1 = 24 from rfl, l_L_seen_200.eq_2, if_neg (show ¬ (29 : Int32) ≤ 24 by decide), cl_24r (q_moodOf h h1), b2_some, show (24 : Int32) + 1 = 25 from rfl, l_L_seen_200.eq_2, if_neg (show ¬ (29 : Int32) ≤ 25 by decide), cl_25r (q_placeOf h h1), b2_some, show (25 : Int32) + 1 = 26 from rfl, l_L_seen_200.eq_2, if_neg (show ¬ (29 : Int32) ≤ 26 by decide), cl_26r (q_isHomeward h h1), b2_some, show (26 : Int32) + 1 = 27 from rfl, l_L_seen_200.eq_2, if_neg (show ¬ (29 : Int32) ≤ 27 by decide), cl_27r (q_prizesOf h h1), b2_some, show (27 : Int32) + 1 = 28 from rfl, l_L_seen_200.eq_2, if_neg (show ¬ (29 : Int32) ≤ 28 by decide), cl_28r (q_whyNoPlay h h1), b2_some, show (28 : Int32) + 1 = 29 from rfl, l_L_seen_200.eq_2, if_pos (show (29 : Int32) ≤ 29 by decide)]
  rfl
theorem seen188 (h : PI σ f m R hs sn n T) : ∀ (d k N : Nat) (x : Int64), k + d = nC f → d < N → l_L_seen_188 N σ x (nI k) = some (.inr (σ, s_hC f d k x)) := by
  have h7 := h.2.1.1.1.c200
  have h9 := nc_eq h.2.1.1.1.nc (by omega)
  intro d
  induction d with
  | zero =>
    intro k N x hk hN
    obtain ⟨M, rfl⟩ : ∃ M, N = M + 1 := ⟨N - 1, by omega⟩
    rw [l_L_seen_188.eq_2, q_children h, b1_some, h9, if_pos (nI_le (by omega) (by omega))]
    rfl
  | succ d ih =>
    intro k N x hk hN
    obtain ⟨M, rfl⟩ : ∃ M, N = M + 1 := ⟨N - 1, by omega⟩
    rw [l_L_seen_188.eq_2, q_children h, b1_some, h9, if_neg (nI_ge (by omega) (by omega)), seen200 h (show k < nC f by omega), bl_inr]
    dsimp only
    rw [nI_1, ih (k + 1) M _ (by omega) (by omega)]
    rfl
theorem seen239 (h : PI σ f m R hs sn n T) : ∀ (d k N : Nat) (x : Int64), k + d = 10 → d < N → l_L_seen_239 N σ x (nI k) = some (.inr (σ, s_hR f d k x)) := by
  intro d
  induction d with
  | zero =>
    intro k N x hk hN
    obtain ⟨M, rfl⟩ : ∃ M, N = M + 1 := ⟨N - 1, by omega⟩
    rw [l_L_seen_239.eq_2, if_pos (show (10 : Int32) ≤ nI k from nI_le (a := 10) (b := k) (by omega) (by omega))]
    rfl
  | succ d ih =>
    intro k N x hk hN
    obtain ⟨M, rfl⟩ : ∃ M, N = M + 1 := ⟨N - 1, by omega⟩
    rw [l_L_seen_239.eq_2, if_neg (show ¬ (10 : Int32) ≤ nI k from nI_ge (a := k) (b := 10) (by omega) (by omega)), q_rainIn h (show k < 10 by omega), bn1_some, nI_1, ih (k + 1) M _ (by omega) (by omega)]
    rfl
theorem seen266 (h : PI σ f m R hs sn n T) : ∀ (d k N : Nat) (x : Int64), k + d = 4 → d < N → l_L_seen_266 N σ x (nI k) = some (.inr (σ, s_hW f d k x)) := by
  intro d
  induction d with
  | zero =>
    intro k N x hk hN
    obtain ⟨M, rfl⟩ : ∃ M, N = M + 1 := ⟨N - 1, by omega⟩
    rw [l_L_seen_266.eq_2, if_pos (show (4 : Int32) ≤ nI k from nI_le (a := 4) (b := k) (by omega) (by omega))]
    rfl
  | succ d ih =>
    intro k N x hk hN
    obtain ⟨M, rfl⟩ : ∃ M, N = M + 1 := ⟨N - 1, by omega⟩
    rw [l_L_seen_266.eq_2, if_neg (show ¬ (4 : Int32) ≤ nI k from nI_ge (a := k) (b := 4) (by omega) (by omega)), q_wonOf h (show k < 4 by omega), bn1_some, nI_1, ih (k + 1) M _ (by omega) (by omega)]
    rfl
theorem y_seen (h : PI σ f m R hs sn n T) : f_L_seen σ = some (s_seen f, σ) := by
  have h7 := h.2.1.1.1.s7
  have h9 := h.2.1.1.1.c200
  unfold f_L_seen
  rw [q_bank h, b1_some, q_town h, b1_some, q_allCoins h, b1_some, q_takings h, b1_some, q_plays h, b1_some, q_day h, b1_some, q_round h, b1_some, q_stalls h, b1_some, q_children h, b1_some]
  rw [show (0 : Int32) = nI 0 from rfl, seen100 h (nS f) 0 8 _ (by omega) (by omega), bl_inr]
  dsimp only
  rw [seen188 h (nC f) 0 201 _ (by omega) (by omega), bl_inr]
  dsimp only
  rw [seen239 h 10 0 11 _ (by omega) (by omega), bl_inr]
  dsimp only
  rw [seen266 h 4 0 5 _ (by omega) (by omega), bl_inr]
  rfl
end SEEN

theorem u2_cell {σ : Sg} {k i a : Nat} {x : Int32} (h : a ≠ k) : u2 σ k i x a = σ a := if_neg h
/-! the class's fair at c, seen through its flat row f and its busy marks b; σ0 is the state before the writes -/
def GR (c : Nat) (σ0 : Sg) (f b : Nat → Int32) (σ : Sg) : Prop := FR c σ f ∧ (∀ s, s < nS f → σ (c + 13 + 2 * s) 9 = b s) ∧ ∀ a, a < c ∨ c + 27 ≤ a → σ a = σ0 a
theorem nS_upd {f : Nat → Int32} {i : Nat} {v : Int32} (h : i ≠ 8) : nS (upd f i v) = nS f := by
  unfold nS
  rw [upd_n (by omega)]
theorem nC_upd {f : Nat → Int32} {i : Nat} {v : Int32} (h : i ≠ 9) : nC (upd f i v) = nC f := by
  unfold nC
  rw [upd_n (by omega)]
theorem GR.w {c : Nat} {σ0 : Sg} {f b : Nat → Int32} {σ : Sg} (h : GR c σ0 f b σ) {cell slot i : Nat} {v w : Int32} (hfl : fl c (u2 σ cell slot v) = upd (fl c σ) i w) (h8 : i ≠ 8) (h9 : i ≠ 9) (hc : c ≤ cell ∧ cell < c + 27) (ha : cell ≠ c + 4 ∨ slot ≠ 1) (hat : ∀ k, i = 185 + 8 * k + 4 → w = -1 ∨ f i ≠ -1) (hdir : cell = c + 4 + 6 → v = 1 ∨ v = -1) (hk : ∀ s, s < nS f → i ≠ 24 + 23 * s + 1) (hx : ∀ s, s < nS f → cell = c + 13 + 2 * s → slot ≠ 7 ∧ slot ≠ 8 ∧ slot ≠ 9) : GR c σ0 (upd f i w) b (u2 σ cell slot v) := by
  obtain ⟨⟨r1, ⟨ft, r2, r3, r4⟩, r5, r6⟩, hb, hs⟩ := h
  refine ⟨⟨fun j hj => ?_, ⟨ft, ?_, ?_, fun k hk => ?_⟩, fun k hk => ?_, fun s hs => ?_⟩, fun s hs => ?_, fun a ha => ?_⟩
  · rw [hfl, upd_app, upd_app]
    rw [nS_upd h8, nC_upd h9] at hj
    rw [r1 j hj]
  · rw [nC_upd h9]; exact r2
  · rw [u2_app]
    split
    · rename_i e
      rw [if_neg (by omega), ← r3]
    · exact r3
  · rw [upd_app]
    split
    · rename_i e
      rcases hat k e.symm with h | h
      · exact h
      · exact absurd (by rw [← e]; exact r4 k hk) h
    · exact r4 k hk
  · rw [nC_upd h9] at hk
    rw [u2_app]
    split
    · rename_i e
      split
      · exact hdir e.symm
      · exact r5 k hk
    · exact r5 k hk
  · rw [nS_upd h8] at hs
    have h1 := r6 s hs
    have h2 := hx s hs
    have h3 := hk s hs
    rw [upd_n (fun e => h3 e.symm), u2_app, u2_app]
    constructor
    · split
      · rename_i e
        rw [if_neg (fun q => (h2 e.symm).1 q.symm)]; exact h1.1
      · exact h1.1
    · split
      · rename_i e
        rw [if_neg (fun q => (h2 e.symm).2.1 q.symm)]; exact h1.2
      · exact h1.2
  · rw [nS_upd h8] at hs
    have h2 := hx s hs
    rw [u2_app]
    split
    · rename_i e
      rw [if_neg (fun q => (h2 e.symm).2.2 q.symm)]; exact hb s hs
    · exact hb s hs
  · rw [u2_cell (by omega)]
    exact hs a ha
theorem GR.F {c i : Nat} {σ0 : Sg} {f b : Nat → Int32} {σ : Sg} {v : Int32} (h : GR c σ0 f b σ) (hi : i < 8) : GR c σ0 (upd f i v) b (u2 σ c i v) :=
  h.w (fl_F hi) (by omega) (by omega) (by omega) (by omega) (fun k e => by omega) (fun e => by omega) (fun s _ e => by omega) (fun s _ e => by omega)
theorem GR.won {c i : Nat} {σ0 : Sg} {f b : Nat → Int32} {σ : Sg} {v : Int32} (h : GR c σ0 f b σ) (hi : i < 4) : GR c σ0 (upd f (10 + i) v) b (u2 σ (c + 2) i v) :=
  h.w (fl_won hi) (by omega) (by omega) (by omega) (by omega) (fun k e => by omega) (fun e => by omega) (fun s _ e => by omega) (fun s _ e => by omega)
theorem GR.rain {c i : Nat} {σ0 : Sg} {f b : Nat → Int32} {σ : Sg} {v : Int32} (h : GR c σ0 f b σ) (hi : i < 10) : GR c σ0 (upd f (14 + i) v) b (u2 σ (c + 1) i v) :=
  h.w (fl_rain hi) (by omega) (by omega) (by omega) (by omega) (fun k e => by omega) (fun e => by omega) (fun s _ e => by omega) (fun s _ e => by omega)
theorem GR.s0 {c s : Nat} {σ0 : Sg} {f b : Nat → Int32} {σ : Sg} {v : Int32} (h : GR c σ0 f b σ) (hs : s < 7) : GR c σ0 (upd f (24 + 23 * s + 0) v) b (u2 σ (c + 13 + 2 * s) 0 v) :=
  h.w (fl_s0 hs) (by omega) (by omega) (by omega) (by omega) (fun k e => by omega) (fun e => by omega) (fun s _ e => by omega) (fun s _ e => by omega)
theorem GR.s2 {c s : Nat} {σ0 : Sg} {f b : Nat → Int32} {σ : Sg} {v : Int32} (h : GR c σ0 f b σ) (hs : s < 7) : GR c σ0 (upd f (24 + 23 * s + 2) v) b (u2 σ (c + 13 + 2 * s) 2 v) :=
  h.w (fl_s2 hs) (by omega) (by omega) (by omega) (by omega) (fun k e => by omega) (fun e => by omega) (fun s _ e => by omega) (fun s _ e => by omega)
theorem GR.s3 {c s : Nat} {σ0 : Sg} {f b : Nat → Int32} {σ : Sg} {v : Int32} (h : GR c σ0 f b σ) (hs : s < 7) : GR c σ0 (upd f (24 + 23 * s + 3) v) b (u2 σ (c + 13 + 2 * s) 3 v) :=
  h.w (fl_s3 hs) (by omega) (by omega) (by omega) (by omega) (fun k e => by omega) (fun e => by omega) (fun s _ e => by omega) (fun s _ e => by omega)
theorem GR.s4 {c s : Nat} {σ0 : Sg} {f b : Nat → Int32} {σ : Sg} {v : Int32} (h : GR c σ0 f b σ) (hs : s < 7) : GR c σ0 (upd f (24 + 23 * s + 4) v) b (u2 σ (c + 13 + 2 * s) 5 v) :=
  h.w (fl_s4 hs) (by omega) (by omega) (by omega) (by omega) (fun k e => by omega) (fun e => by omega) (fun s _ e => by omega) (fun s _ e => by omega)
theorem GR.s5 {c s : Nat} {σ0 : Sg} {f b : Nat → Int32} {σ : Sg} {v : Int32} (h : GR c σ0 f b σ) (hs : s < 7) : GR c σ0 (upd f (24 + 23 * s + 5) v) b (u2 σ (c + 13 + 2 * s) 6 v) :=
  h.w (fl_s5 hs) (by omega) (by omega) (by omega) (by omega) (fun k e => by omega) (fun e => by omega) (fun s _ e => by omega) (fun s _ e => by omega)
theorem GR.s6 {c s : Nat} {σ0 : Sg} {f b : Nat → Int32} {σ : Sg} {v : Int32} (h : GR c σ0 f b σ) (hs : s < 7) : GR c σ0 (upd f (24 + 23 * s + 6) v) b (u2 σ (c + 13 + 2 * s) 4 v) :=
  h.w (fl_s6 hs) (by omega) (by omega) (by omega) (by omega) (fun k e => by omega) (fun e => by omega) (fun s _ e => by omega) (fun s _ e => by omega)
theorem GR.sh {c s i : Nat} {σ0 : Sg} {f b : Nat → Int32} {σ : Sg} {v : Int32} (h : GR c σ0 f b σ) (hs : s < 7) (hi : i < 16) : GR c σ0 (upd f (24 + 23 * s + 7 + i) v) b (u2 σ (c + 13 + 2 * s + 1) i v) :=
  h.w (fl_sh hs hi) (by omega) (by omega) (by omega) (by omega) (fun k e => by omega) (fun e => by omega) (fun s _ e => by omega) (fun s _ e => by omega)
theorem GR.c0 {c k : Nat} {σ0 : Sg} {f b : Nat → Int32} {σ : Sg} {v : Int32} (h : GR c σ0 f b σ) (h7 : nS f ≤ 7) : GR c σ0 (upd f (185 + 8 * k + 0) v) b (u2 σ (c + 4 + 1) k v) :=
  h.w fl_c0 (by omega) (by omega) (by omega) (by omega) (fun k e => by omega) (fun e => by omega) (fun s _ e => by omega) (fun s _ e => by omega)
theorem GR.c1 {c k : Nat} {σ0 : Sg} {f b : Nat → Int32} {σ : Sg} {v : Int32} (h : GR c σ0 f b σ) (h7 : nS f ≤ 7) : GR c σ0 (upd f (185 + 8 * k + 1) v) b (u2 σ (c + 4 + 2) k v) :=
  h.w fl_c1 (by omega) (by omega) (by omega) (by omega) (fun k e => by omega) (fun e => by omega) (fun s _ e => by omega) (fun s _ e => by omega)
theorem GR.c2 {c k : Nat} {σ0 : Sg} {f b : Nat → Int32} {σ : Sg} {v : Int32} (h : GR c σ0 f b σ) (h7 : nS f ≤ 7) : GR c σ0 (upd f (185 + 8 * k + 2) v) b (u2 σ (c + 4 + 3) k v) :=
  h.w fl_c2 (by omega) (by omega) (by omega) (by omega) (fun k e => by omega) (fun e => by omega) (fun s _ e => by omega) (fun s _ e => by omega)
theorem GR.c3 {c k : Nat} {σ0 : Sg} {f b : Nat → Int32} {σ : Sg} {v : Int32} (h : GR c σ0 f b σ) (h7 : nS f ≤ 7) : GR c σ0 (upd f (185 + 8 * k + 3) v) b (u2 σ (c + 4 + 4) k v) :=
  h.w fl_c3 (by omega) (by omega) (by omega) (by omega) (fun k e => by omega) (fun e => by omega) (fun s _ e => by omega) (fun s _ e => by omega)
theorem GR.c6 {c k : Nat} {σ0 : Sg} {f b : Nat → Int32} {σ : Sg} {v : Int32} (h : GR c σ0 f b σ) (h7 : nS f ≤ 7) : GR c σ0 (upd f (185 + 8 * k + 6) v) b (u2 σ (c + 4 + 7) k v) :=
  h.w fl_c6 (by omega) (by omega) (by omega) (by omega) (fun k e => by omega) (fun e => by omega) (fun s _ e => by omega) (fun s _ e => by omega)
theorem GR.c7 {c k : Nat} {σ0 : Sg} {f b : Nat → Int32} {σ : Sg} {v : Int32} (h : GR c σ0 f b σ) (h7 : nS f ≤ 7) : GR c σ0 (upd f (185 + 8 * k + 7) v) b (u2 σ (c + 4 + 8) k v) :=
  h.w fl_c7 (by omega) (by omega) (by omega) (by omega) (fun k e => by omega) (fun e => by omega) (fun s _ e => by omega) (fun s _ e => by omega)
theorem GR.c4 {c k : Nat} {σ0 : Sg} {f b : Nat → Int32} {σ : Sg} {v : Int32} (h : GR c σ0 f b σ) (h7 : nS f ≤ 7) (ha : v = -1 ∨ f (185 + 8 * k + 4) ≠ -1) : GR c σ0 (upd f (185 + 8 * k + 4) v) b (u2 σ (c + 4 + 5) k v) :=
  h.w fl_c4 (by omega) (by omega) (by omega) (by omega) (fun q e => ha) (fun e => by omega) (fun s _ e => by omega) (fun s _ e => by omega)
theorem GR.c5 {c k : Nat} {σ0 : Sg} {f b : Nat → Int32} {σ : Sg} {v : Int32} (h : GR c σ0 f b σ) (h7 : nS f ≤ 7) (ha : v = 1 ∨ v = -1) : GR c σ0 (upd f (185 + 8 * k + 5) (hw v)) b (u2 σ (c + 4 + 6) k v) :=
  h.w fl_c5 (by omega) (by omega) (by omega) (by omega) (fun q e => by omega) (fun e => ha) (fun s _ e => by omega) (fun s _ e => by omega)
theorem GR.busy {c s : Nat} {σ0 : Sg} {f b : Nat → Int32} {σ : Sg} {v : Int32} (h : GR c σ0 f b σ) (hs7 : s < 7) : GR c σ0 f (upd b s v) (u2 σ (c + 13 + 2 * s) 9 v) := by
  obtain ⟨⟨r1, ⟨ft, r2, r3, r4⟩, r5, r6⟩, hb, hs⟩ := h
  refine ⟨⟨fun j hj => ?_, ⟨ft, r2, ?_, r4⟩, fun k hk => ?_, fun t ht => ?_⟩, fun t ht => ?_, fun a ha => ?_⟩
  · rw [fl_sx9]; exact r1 j hj
  · rw [u2_cell (by omega)]; exact r3
  · rw [u2_cell (by omega)]; exact r5 k hk
  · rw [u2_app, u2_app, if_neg (show ¬ 7 = 9 by decide), if_neg (show ¬ 8 = 9 by decide), ite_self, ite_self]
    exact r6 t ht
  · rw [u2_app, upd_app, if_pos rfl]
    by_cases e : t = s
    · subst e
      rw [if_pos rfl, if_pos rfl]
    · rw [if_neg (by omega), if_neg e]
      exact hb t ht
  · rw [u2_cell (by omega)]
    exact hs a ha

/-! the invariant -/
theorem FR.at {c : Nat} {σ σ' : Sg} {f : Nat → Int32} (h : FR c σ f) (ho : ∀ a, c ≤ a → a < c + 27 → σ' a = σ a) (h7 : nS f ≤ 7) (hc : nC f ≤ 200) : FR c σ' f := by
  obtain ⟨r1, ⟨ft, r2, r3, r4⟩, r5, r6⟩ := h
  refine ⟨fun i hi => ?_, ⟨ft, r2, by rw [ho _ (by omega) (by omega)]; exact r3, r4⟩, fun k hk => by rw [ho _ (by omega) (by omega)]; exact r5 k hk, fun s hs => by rw [ho _ (by omega) (by omega)]; exact r6 s hs⟩
  rw [fl_ext (σ := σ) ho i (by unfold vld at hi; omega)]
  exact r1 i hi
theorem nS_ext {f g : Nat → Int32} (h : ∀ i, i < 1785 → g i = f i) : nS g = nS f := by unfold nS; rw [h 8 (by omega)]
theorem nC_ext {f g : Nat → Int32} (h : ∀ i, i < 1785 → g i = f i) : nC g = nC f := by unfold nC; rw [h 9 (by omega)]
theorem FR.ext {c : Nat} {σ : Sg} {f g : Nat → Int32} (h : FR c σ f) (e : ∀ i, i < 1785 → g i = f i) (h7 : nS f ≤ 7) (hc : nC f ≤ 200) : FR c σ g := by
  have n8 := nS_ext e
  have n9 := nC_ext e
  obtain ⟨r1, ⟨ft, r2, r3, r4⟩, r5, r6⟩ := h
  refine ⟨fun i hi => ?_, ⟨ft, by omega, r3, fun k hk => ?_⟩, fun k hk => r5 k (by omega), fun s hs => ?_⟩
  · rw [n8, n9] at hi
    rw [e i (by unfold vld at hi; omega)]
    exact r1 i hi
  · rw [e _ (by omega)]; exact r4 k hk
  · rw [e _ (by omega)]; exact r6 s (by omega)
theorem OKf.ext {f g : Nat → Int32} (h : OKf f) (e : ∀ i, i < 1785 → g i = f i) : OKf g := by
  have n8 := nS_ext e
  have n9 := nC_ext e
  have h7 := h.1.s7
  have hc := h.1.c200
  refine h.of ⟨?_, ?_, ?_, ?_, fun j hj => ?_, fun s hs => ?_, fun k hk => ?_⟩ ?_ (e _ (by omega)) (e _ (by omega)) n8 (fun t ht => e _ (by omega))
  · rw [e _ (by omega)]; exact h.1.day
  · rw [e _ (by omega)]; exact h.1.rnd
  · rw [e _ (by omega)]; exact h.1.ns
  · rw [e _ (by omega)]; exact h.1.nc
  · rw [e _ (by omega)]; exact h.1.rain j hj
  · rw [n8] at hs
    obtain ⟨a1, a2, a3, a4, a5, a6, a7⟩ := h.1.st s hs
    refine ⟨?_, ?_, ?_, ?_, ?_, ?_, fun i hi => ?_⟩
    all_goals rw [e _ (by omega)]
    all_goals first
      | assumption
      | exact a7 i hi
  · rw [n9] at hk
    obtain ⟨a1, a2, a3, a4, a5, a6⟩ := h.1.ch k hk
    refine ⟨?_, ?_, ?_, ?_, ?_, ?_⟩
    · rw [e _ (by omega)]; exact a1
    · rw [e _ (by omega)]; exact a2
    · rw [e _ (by omega)]; exact a3
    · rw [e _ (by omega), e _ (by omega)]; exact a4
    · rw [e _ (by omega)]; exact a5
    · rw [e _ (by omega)]; exact a6
  · exact h.2.1.frame (e _ (by omega)) (e _ (by omega)) (e _ (by omega)) (e _ (by omega)) (e _ (by omega)) n8 n9 (fun t ht => e _ (by omega)) (fun k hk => e _ (by omega))
/-- the class: now, the ring of records, the snapshot -/
def RC (σ : Sg) (f : Nat → Int32) (m : Nat) (R : Nat → Nat → Int32) (hs : Int32) (sn : Nat → Int32) : Prop := FR 1 σ f ∧ m ≤ 4 ∧ σ 0 6 = nI m ∧ (∃ q, q < 4 ∧ σ 0 5 = nI q ∧ ∀ j, j < m → FR (83 + 27 * ((q + 4 - m + j) % 4)) σ (R j)) ∧ σ 0 3 = hs ∧ (hs = 1 → FR 55 σ sn)
def OKA (f : Nat → Int32) (m : Nat) (R : Nat → Nat → Int32) (hs : Int32) (sn : Nat → Int32) : Prop := OKf f ∧ (∀ j, j < m → OKf (R j)) ∧ (hs = 0 ∨ hs = 1) ∧ (hs = 1 → OKf sn)
/-- the order text on both sides -/
def TX (σ : Sg) (n : Nat) : Prop := n ≤ 80 ∧ σ 191 1 = nI n ∧ σ 193 9 = nI n ∧ ∀ i, i < n → σ 192 i = σ 200 i ∧ vp_in (σ 200 i) 65536
def IV (σ : Sg) : Prop := (∃ n, TX σ n) ∧ ∃ m R hs sn, RC σ (σ 194) m R hs sn ∧ RM σ m R hs sn ∧ OKA (σ 194) m R hs sn
theorem OKf.b {f : Nat → Int32} (h : OKf f) : nS f ≤ 7 ∧ nC f ≤ 200 := ⟨h.1.s7, h.1.c200⟩
/-- a change of now alone -/
theorem RC.op {σ σ' : Sg} {f g : Nat → Int32} {m : Nat} {R : Nat → Nat → Int32} {hs : Int32} {sn : Nat → Int32} (h : RC σ f m R hs sn) (ok : OKA f m R hs sn) (hg : FR 1 σ' g) (h0 : σ' 0 = σ 0) (ho : ∀ a, 55 ≤ a → a < 191 → σ' a = σ a) : RC σ' g m R hs sn := by
  obtain ⟨r1, r2, r3, ⟨q, r4, r5, r6⟩, r7, r8⟩ := h
  refine ⟨hg, r2, by rw [h0]; exact r3, ⟨q, r4, by rw [h0]; exact r5, fun j hj => ?_⟩, by rw [h0]; exact r7, fun e => ?_⟩
  · have hb := (ok.2.1 j hj).b
    exact (r6 j hj).at (fun a h1 h2 => ho a (by omega) (by omega)) hb.1 hb.2
  · have hb := (ok.2.2.2 e).b
    exact (r8 e).at (fun a h1 h2 => ho a (by omega) (by omega)) hb.1 hb.2
theorem rk_nI {q : Nat} (h : q < 100) : rk 82 (nI q) = 83 + 27 * q := by
  unfold rk
  rw [cl_nI (by omega)]
theorem OKA.keep {f : Nat → Int32} {m : Nat} {R : Nat → Nat → Int32} {hs : Int32} {sn : Nat → Int32} (ok : OKA f m R hs sn) (hm : m ≤ 4) : OKA f (kp m) (kR m R f) hs sn := by
  obtain ⟨a1, a2, a3, a4⟩ := ok
  refine ⟨a1, fun j hj => ?_, a3, a4⟩
  unfold kR
  by_cases h4 : m < 4
  · have ek : kp m = m + 1 := by unfold kp; rw [if_pos h4]
    rw [ek] at hj ⊢
    by_cases q : j + 1 = m + 1
    · rw [if_pos q]; exact a1
    · rw [if_neg q, if_pos h4]; exact a2 j (by omega)
  · have ek : kp m = 4 := by unfold kp; rw [if_neg h4]
    rw [ek] at hj ⊢
    by_cases q : j + 1 = 4
    · rw [if_pos q]; exact a1
    · rw [if_neg q, if_neg h4]; exact a2 (j + 1) (by omega)
theorem RC.keep {σ : Sg} {f : Nat → Int32} {m : Nat} {R : Nat → Nat → Int32} {hs : Int32} {sn : Nat → Int32} (h : RC σ f m R hs sn) (ok : OKA f m R hs sn) : ∃ σ', f_X4_keepRecord σ = some σ' ∧ RC σ' f (kp m) (kR m R f) hs sn ∧ ∀ a, (1 ≤ a ∧ a < 55) ∨ 191 ≤ a → σ' a = σ a := by
  obtain ⟨r1, r2, r3, ⟨q, r4, r5, r6⟩, r7, r8⟩ := id h
  obtain ⟨σ1, x1, y1, y2⟩ := c_copy (c := 83 + 27 * q) (d := 1) (by omega) r1 ok.1.1
  have h0 : σ1 0 = σ 0 := y2 0 (by omega)
  have e5 : σ1 0 5 = nI q := by rw [h0]; exact r5
  have hq : nI q + 1 - (nI q + 1) / 4 * 4 = nI ((q + 1) % 4) := by
    rw [nI_1, show (4 : Int32) = nI 4 from rfl, pk_rem (by omega) (by omega) (by omega)]
  obtain ⟨σ2, h2⟩ : ∃ σ2, σ2 = u2 σ1 0 5 (nI ((q + 1) % 4)) := ⟨_, rfl⟩
  have b1 := ok.1.b
  unfold f_X4_keepRecord
  rw [r5, gd_ok rfl r4 (by omega), rk_nI (by omega), x1, b1_some, e5, hq, st_eq, ← h2]
  have s6 : σ2 0 6 = nI m := by rw [h2, u2_ri (by omega), h0]; exact r3
  have so : ∀ a, a ≠ 0 → σ2 a = σ1 a := fun a ha => by rw [h2, u2_cell ha]
  have key : ∀ σ3 : Sg, (∀ a, a ≠ 0 → σ3 a = σ2 a) → σ3 0 6 = nI (kp m) → (∀ i, i ≠ 6 → σ3 0 i = σ2 0 i) → RC σ3 f (kp m) (kR m R f) hs sn ∧ ∀ a, (1 ≤ a ∧ a < 55) ∨ 191 ≤ a → σ3 a = σ a := by
    intro σ3 z1 z2 z3
    have zz : ∀ a, a ≠ 0 → a < 83 + 27 * q ∨ 83 + 27 * q + 27 ≤ a → σ3 a = σ a := fun a h1 h3 => by rw [z1 a h1, so a h1, y2 a h3]
    have zq : ∀ a, 83 + 27 * q ≤ a → a < 83 + 27 * q + 27 → σ3 a = σ1 a := fun a h1 h3 => by rw [z1 a (by omega), so a (by omega)]
    refine ⟨⟨r1.at (fun a h1 h3 => zz a (by omega) (by omega)) b1.1 b1.2, ?_, z2, ⟨(q + 1) % 4, by omega, by rw [z3 5 (by omega), h2, u2_rs], fun j hj => ?_⟩, ?_, fun e => ?_⟩, fun a ha => zz a (by omega) (by omega)⟩
    · unfold kp
      split <;> omega
    · unfold kR
      by_cases h4 : m < 4
      · have ek : kp m = m + 1 := by unfold kp; rw [if_pos h4]
        rw [ek] at hj ⊢
        by_cases qj : j + 1 = m + 1
        · rw [if_pos qj, show ((q + 1) % 4 + 4 - (m + 1) + j) % 4 = q by omega]
          exact y1.at (fun a h1 h3 => zq a h1 h3) b1.1 b1.2
        · rw [if_neg qj, if_pos h4, show ((q + 1) % 4 + 4 - (m + 1) + j) % 4 = (q + 4 - m + j) % 4 by omega]
          have hb := (ok.2.1 j (by omega)).b
          have hne : (q + 4 - m + j) % 4 ≠ q := by omega
          exact (r6 j (by omega)).at (fun a h1 h3 => zz a (by omega) (by omega)) hb.1 hb.2
      · have ek : kp m = 4 := by unfold kp; rw [if_neg h4]
        rw [ek] at hj ⊢
        have hm4 : m = 4 := by omega
        by_cases qj : j + 1 = 4
        · rw [if_pos qj, show ((q + 1) % 4 + 4 - 4 + j) % 4 = q by omega]
          exact y1.at (fun a h1 h3 => zq a h1 h3) b1.1 b1.2
        · rw [if_neg qj, if_neg h4, show ((q + 1) % 4 + 4 - 4 + j) % 4 = (q + 4 - m + (j + 1)) % 4 by omega]
          have hb := (ok.2.1 (j + 1) (by omega)).b
          have hne : (q + 4 - m + (j + 1)) % 4 ≠ q := by omega
          exact (r6 (j + 1) (by omega)).at (fun a h1 h3 => zz a (by omega) (by omega)) hb.1 hb.2
    · rw [z3 3 (by omega), h2, u2_ri (by omega), h0]; exact r7
    · have hb := (ok.2.2.2 e).b
      exact (r8 e).at (fun a h1 h3 => zz a (by omega) (by omega)) hb.1 hb.2
  rw [s6]
  by_cases h4 : m < 4
  · have hn : ¬ (4 : Int32) ≤ nI m := nI_ge (a := m) (b := 4) (by omega) (by omega)
    rw [if_neg hn, nI_1, st_eq]
    exact ⟨_, rfl, key _ (fun a ha => u2_cell ha) (by rw [u2_rs]; unfold kp; rw [if_pos h4]) (fun i hi => u2_ri hi)⟩
  · rw [if_pos (show (4 : Int32) ≤ nI m from nI_le (a := 4) (b := m) (by omega) (by omega))]
    exact ⟨_, rfl, key _ (fun _ _ => rfl) (by rw [s6]; unfold kp; rw [if_neg h4, show m = 4 by omega]) (fun _ _ => rfl)⟩
/-- the rows of the reference through a change elsewhere -/
theorem RM.at {τ τ' : Sg} {m : Nat} {R : Nat → Nat → Int32} {hs : Int32} {sn : Nat → Int32} (h : RM τ m R hs sn) (h5 : τ' 195 = τ 195) (h6 : τ' 196 = τ 196) (h2 : τ' 193 2 = τ 193 2) (h4 : τ' 193 4 = τ 193 4) : RM τ' m R hs sn := by
  obtain ⟨r1, r2, r3, r4⟩ := h
  refine ⟨fun j hj i hi => by rw [h5]; exact r1 j hj i hi, by rw [h2]; exact r2, by rw [h4]; exact r3, fun e i hi => by rw [h6]; exact r4 e i hi⟩
theorem TX.at {σ σ' : Sg} {n : Nat} (h : TX σ n) (h1 : σ' 191 1 = σ 191 1) (h2 : σ' 192 = σ 192) (h3 : σ' 193 9 = σ 193 9) (h4 : σ' 200 = σ 200) : TX σ' n := by
  obtain ⟨a1, a2, a3, a4⟩ := h
  refine ⟨a1, by rw [h1]; exact a2, by rw [h3]; exact a3, fun i hi => by rw [h2, h4]; exact a4 i hi⟩
/-- the invariant put together: now is f up to the row's end -/
theorem IV.of {σ : Sg} {f : Nat → Int32} {n m : Nat} {R : Nat → Nat → Int32} {hs : Int32} {sn : Nat → Int32} (ht : TX σ n) (hc : RC σ f m R hs sn) (hr : RM σ m R hs sn) (ok : OKA f m R hs sn) (e : ∀ i, i < 1785 → σ 194 i = f i) : IV σ := by
  obtain ⟨r1, r2⟩ := hc
  obtain ⟨o1, o2⟩ := ok
  exact ⟨⟨n, ht⟩, m, R, hs, sn, ⟨r1.ext e o1.b.1 o1.b.2, r2⟩, hr, o1.ext e, o2⟩
/-- nothing that matters has changed -/
def Same (σ σ' : Sg) : Prop := (∀ a, a < 28 ∨ (55 ≤ a ∧ a < 191) ∨ a = 192 ∨ a = 195 ∨ a = 196 ∨ a = 200 → σ' a = σ a) ∧ (∀ i, i < 1785 → σ' 194 i = σ 194 i) ∧ σ' 191 1 = σ 191 1 ∧ σ' 193 2 = σ 193 2 ∧ σ' 193 4 = σ 193 4 ∧ σ' 193 9 = σ 193 9
theorem Same.refl {σ : Sg} : Same σ σ := ⟨fun _ _ => rfl, fun _ _ => rfl, rfl, rfl, rfl, rfl⟩
theorem Same.trans {σ σ' τ : Sg} (h : Same σ σ') (k : Same σ' τ) : Same σ τ := by
  obtain ⟨a1, a2, a3, a4, a5, a6⟩ := h
  obtain ⟨b1, b2, b3, b4, b5, b6⟩ := k
  exact ⟨fun a ha => (b1 a ha).trans (a1 a ha), fun i hi => (b2 i hi).trans (a2 i hi), b3.trans a3, b4.trans a4, b5.trans a5, b6.trans a6⟩
theorem Same.u {σ : Sg} {k i : Nat} {v : Int32} (h : k = 202 ∨ (k = 193 ∧ (i = 10 ∨ i = 11 ∨ i = 13)) ∨ (28 ≤ k ∧ k < 55) ∨ k = 197 ∨ k = 198 ∨ k = 199 ∨ k = 201 ∨ (k = 191 ∧ 2 ≤ i)) : Same σ (u2 σ k i v) := by
  refine ⟨fun a ha => u2_cell (by omega), fun j hj => ?_, ?_, ?_, ?_, ?_⟩
  all_goals simp only [u2_app]
  all_goals split
  all_goals first
    | rfl
    | (rw [if_neg (by omega)])
    | omega
theorem IV.same {σ σ' : Sg} (h : IV σ) (s : Same σ σ') : IV σ' := by
  obtain ⟨⟨n, ht⟩, m, R, hs, sn, hc, hr, ok⟩ := h
  obtain ⟨s1, s2, s3, s4, s5, s6⟩ := s
  have b := ok.1.b
  have hc' : RC σ' (σ 194) m R hs sn := hc.op ok (hc.1.at (fun a h1 h2 => s1 a (by omega)) b.1 b.2) (s1 0 (by omega)) (fun a h1 h2 => s1 a (by omega))
  exact IV.of (ht.at s3 (s1 192 (by omega)) s6 (s1 200 (by omega))) hc' (hr.at (s1 195 (by omega)) (s1 196 (by omega)) s4 s5) ok s2

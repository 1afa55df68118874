/-- what a turn leaves: at most n plays more -/
def TW (n : Nat) (f g : Nat → Int32) : Prop := WB g ∧ Mo g ∧ (g 3 = f 3 ∧ g 6 = f 6 ∧ g 7 = f 7 ∧ g 8 = f 8 ∧ g 9 = f 9) ∧ (∀ h, h < 10 → g (14 + h) = f (14 + h)) ∧ (∃ j, j ≤ n ∧ g 5 = f 5 + nI j) ∧ (∀ s, s < nS f → ∃ j, j ≤ n ∧ g (24 + 23 * s + 5) = f (24 + 23 * s + 5) + nI j)
theorem add_nI0 {x : Int32} : x = x + nI 0 := (Int32.add_zero x).symm
theorem TW.ns {n : Nat} {f g : Nat → Int32} (h : TW n f g) : nS g = nS f := by
  unfold nS; rw [h.2.2.1.2.2.2.1]
theorem TW.nc {n : Nat} {f g : Nat → Int32} (h : TW n f g) : nC g = nC f := by
  unfold nC; rw [h.2.2.1.2.2.2.2]
theorem TW.trans {n m : Nat} {f g h : Nat → Int32} (x : TW n f g) (y : TW m g h) : TW (n + m) f h := by
  have xn := x.ns
  obtain ⟨-, -, ⟨p3, p6, p7, p8, p9⟩, pr, ⟨i, hi, ei⟩, ps⟩ := x
  obtain ⟨q1, q2, ⟨q3, q6, q7, q8, q9⟩, qr, ⟨j, hj, ej⟩, qs⟩ := y
  refine ⟨q1, q2, ⟨q3.trans p3, q6.trans p6, q7.trans p7, q8.trans p8, q9.trans p9⟩, fun a ha => (qr a ha).trans (pr a ha), ⟨i + j, by omega, ?_⟩, fun s hs => ?_⟩
  · rw [ej, ei, Int32.add_assoc, nI_add]
  · obtain ⟨i, hi, ei⟩ := ps s hs
    obtain ⟨j, hj, ej⟩ := qs s (by omega)
    exact ⟨i + j, by omega, by rw [ej, ei, Int32.add_assoc, nI_add]⟩
theorem TW.child {f g : Nat → Int32} {k : Nat} (hw : WB f) (hm : Mo f) (ho : ∀ i, (i < 185 + 8 * k + 1 ∨ 185 + 8 * k + 8 ≤ i) → g i = f i) (hc : k < nC f → CW g k) : TW 0 f g := by
  have h7 := hw.s7
  have e8 : g 8 = f 8 := ho 8 (by omega)
  have e9 : g 9 = f 9 := ho 9 (by omega)
  have n8 : nS g = nS f := by unfold nS; rw [e8]
  have n9 : nC g = nC f := by unfold nC; rw [e9]
  refine ⟨?_, ?_, ⟨ho _ (by omega), ho _ (by omega), ho _ (by omega), ho _ (by omega), ho _ (by omega)⟩, fun h hh => ho _ (by omega), ⟨0, Nat.le_refl _, by rw [ho _ (by omega)]; exact add_nI0⟩, fun s hs => ⟨0, Nat.le_refl _, by rw [ho _ (by omega)]; exact add_nI0⟩⟩
  · refine hw.two k 0 (fun i _ _ _ _ => ho i (by omega)) (fun h0 => ?_) (by omega) hc
    obtain ⟨a1, a2, a3, a4, a5, a6, a7⟩ := hw.st 0 h0
    refine ⟨?_, ?_, ?_, ?_, ?_, ?_, fun i hi => ?_⟩
    all_goals rw [ho _ (by omega)]
    all_goals first
      | assumption
      | exact a7 i hi
  · exact hm.frame (ho _ (by omega)) (ho _ (by omega)) (ho _ (by omega)) (ho _ (by omega)) (ho _ (by omega)) n8 n9 (fun s hs => ho _ (by omega)) (fun q hq => ho _ (by omega))
theorem TW.feels {f : Nat → Int32} {k : Nat} {v : Int32} (hw : WB f) (hm : Mo f) : TW 0 f (s_feels f k v) :=
  TW.child (k := k) hw hm (fun i _ => s_feels_o (by omega)) (fun hk => CW.feels (hw.ch k hk))
theorem TW.home {f : Nat → Int32} {k : Nat} (hw : WB f) (hm : Mo f) : TW 0 f (s_home f k) :=
  TW.child (k := k) hw hm (fun i _ => s_home_o (by omega) (by omega)) (fun hk => CW.home (hw.ch k hk))
theorem TW.moves {f : Nat → Int32} {k : Nat} (hw : WB f) (hm : Mo f) (ha : vp_in (f (185 + 8 * k + 4)) 12) : TW 0 f (s_moves f k) :=
  TW.child (k := k) hw hm (fun i _ => s_moves_o (by omega) (by omega) (by omega)) (fun hk => CW.moves (hw.ch k hk) ha)
theorem TW.give {f : Nat → Int32} {k s l j : Nat} {v : Int32} (hw : WB f) (hm : Mo f) (hs : s < nS f) (hl : l < 4) (hj : j < 4) (hn : f (24 + 23 * s + 7 + (4 * l + j)) ≠ 0) : TW 0 f (s_give f k s l j v) := by
  have h7 := hw.s7
  have hs7 : s < 7 := by omega
  have n8 : nS (s_give f k s l j v) = nS f := by unfold nS; rw [s_give_o hs7 hl hj (by omega) (by omega) (by omega) (by omega)]
  have n9 : nC (s_give f k s l j v) = nC f := by unfold nC; rw [s_give_o hs7 hl hj (by omega) (by omega) (by omega) (by omega)]
  refine ⟨?_, ?_, ⟨?_, ?_, ?_, ?_, ?_⟩, fun h hh => ?_, ⟨0, Nat.le_refl _, ?_⟩, fun t ht => ⟨0, Nat.le_refl _, ?_⟩⟩
  · refine hw.two k s (fun i _ _ _ _ => s_give_o hs7 hl hj (by omega) (by omega) (by omega) (by omega)) (fun h0 => SW.give hs7 hl hj (hw.st s hs) hn) hs7 (fun h0 => CW.give hs7 hl hj (hw.ch k h0))
  · exact hm.frame (s_give_o hs7 hl hj (by omega) (by omega) (by omega) (by omega)) (s_give_o hs7 hl hj (by omega) (by omega) (by omega) (by omega)) (s_give_o hs7 hl hj (by omega) (by omega) (by omega) (by omega)) (s_give_o hs7 hl hj (by omega) (by omega) (by omega) (by omega)) (s_give_o hs7 hl hj (by omega) (by omega) (by omega) (by omega)) n8 n9 (fun t ht => s_give_o hs7 hl hj (by omega) (by omega) (by omega) (by omega)) (fun q hq => s_give_o hs7 hl hj (by omega) (by omega) (by omega) (by omega))
  · exact s_give_o hs7 hl hj (by omega) (by omega) (by omega) (by omega)
  · exact s_give_o hs7 hl hj (by omega) (by omega) (by omega) (by omega)
  · exact s_give_o hs7 hl hj (by omega) (by omega) (by omega) (by omega)
  · exact s_give_o hs7 hl hj (by omega) (by omega) (by omega) (by omega)
  · exact s_give_o hs7 hl hj (by omega) (by omega) (by omega) (by omega)
  · exact s_give_o hs7 hl hj (by omega) (by omega) (by omega) (by omega)
  · rw [s_give_o hs7 hl hj (by omega) (by omega) (by omega) (by omega)]; exact add_nI0
  · rw [s_give_o hs7 hl hj (by omega) (by omega) (by omega) (by omega)]; exact add_nI0
theorem TW.pay {f : Nat → Int32} {k s : Nat} (hw : WB f) (hm : Mo f) (hk : k < nC f) (hs : s < nS f) (h1 : ¬ f (185 + 8 * k + 0) < f (24 + 23 * s + 2)) (h2 : ¬ 2 ≤ f (185 + 8 * k + 6)) : TW 1 f (s_pay f k s) := by
  have h7 := hw.s7
  have hs7 : s < 7 := by omega
  refine ⟨hw.pay hs h2, hm.pay hw hk hs h1, ⟨?_, ?_, ?_, ?_, ?_⟩, fun h hh => ?_, ⟨1, Nat.le_refl _, s_pay_w5 hs7⟩, fun t ht => ?_⟩
  · exact s_pay_o (by omega) (by omega) (by omega) (by omega) (by omega) (by omega)
  · exact s_pay_o (by omega) (by omega) (by omega) (by omega) (by omega) (by omega)
  · exact s_pay_o (by omega) (by omega) (by omega) (by omega) (by omega) (by omega)
  · exact s_pay_o (by omega) (by omega) (by omega) (by omega) (by omega) (by omega)
  · exact s_pay_o (by omega) (by omega) (by omega) (by omega) (by omega) (by omega)
  · exact s_pay_o (by omega) (by omega) (by omega) (by omega) (by omega) (by omega)
  · by_cases e : t = s
    · subst e
      exact ⟨1, Nat.le_refl _, s_pay_v5 hs7⟩
    · exact ⟨0, by omega, by rw [s_pay_o (by omega) (by omega) (by omega) (by omega) (by omega) (by omega)]; exact add_nI0⟩
theorem TW.playsAt {f : Nat → Int32} {k s : Nat} (hw : WB f) (hm : Mo f) (hk : k < nC f) (hs : s < nS f) (hn : ¬ s_wants f k s = 0) : TW 1 f (s_playsAt f k s) := by
  have h7 := hw.s7
  have hs7 : s < 7 := by omega
  obtain ⟨h1, h2, -⟩ := s_wants_2 hn
  have hp := TW.pay hw hm hk hs h1 h2
  have hsp : s < nS (s_pay f k s) := by rw [hp.ns]; exact hs
  have hkp : k < nC (s_pay f k s) := by rw [hp.nc]; exact hk
  unfold s_playsAt
  dsimp only
  split
  · exact hp.trans (TW.feels hp.1 hp.2.1)
  · split
    · cases hb : s_best (s_pay f k s) s with
      | none => exact hp.trans (TW.feels hp.1 hp.2.1)
      | some l =>
        have hSs := hp.1.st s hsp
        have hCk := hp.1.ch k hkp
        have hne := s_col_ne (q := s_cq (s_pay f k s) k) hSs hb
        refine hp.trans (TW.give hp.1 hp.2.1 hsp (s_best_lt hb).1 (s_col_lt (tc_vp hCk.colour)) ?_)
        rwa [show 24 + 23 * s + (7 + 4 * l + s_col (s_pay f k s) s l (s_cq (s_pay f k s) k)) = 24 + 23 * s + 7 + (4 * l + s_col (s_pay f k s) s l (s_cq (s_pay f k s) k)) by omega] at hne
    · exact hp.trans (TW.feels hp.1 hp.2.1)
theorem TW.mono {n m : Nat} {f g : Nat → Int32} (x : TW n f g) (h : n ≤ m) : TW m f g := by
  obtain ⟨q1, q2, q3, qr, ⟨j, hj, ej⟩, qs⟩ := x
  exact ⟨q1, q2, q3, qr, ⟨j, by omega, ej⟩, fun s hs => by obtain ⟨j, hj, ej⟩ := qs s hs; exact ⟨j, by omega, ej⟩⟩
theorem TW.act {f b : Nat → Int32} {r : Int32} {k : Nat} (hw : WB f) (hm : Mo f) (hk : k < nC f) (ha : vp_in (f (185 + 8 * k + 4)) 12) : TW 1 f (s_act f b r k) := by
  have hS : TW 0 f (s_actS f r k) := by
    unfold s_actS
    cases ho : s_openOn f (f (185 + 8 * k + 4)) with
    | none => exact TW.feels hw hm
    | some s =>
      dsimp only
      split
      · exact TW.feels hw hm
      · exact ⟨hw, hm, ⟨rfl, rfl, rfl, rfl, rfl⟩, fun _ _ => rfl, ⟨0, Nat.le_refl _, add_nI0⟩, fun s hs => ⟨0, Nat.le_refl _, add_nI0⟩⟩
  have hAt : s_actS f r k (185 + 8 * k + 4) = f (185 + 8 * k + 4) := by
    unfold s_actS
    cases ho : s_openOn f (f (185 + 8 * k + 4)) with
    | none => exact s_feels_o (by omega)
    | some s =>
      dsimp only
      split
      · exact s_feels_o (by omega)
      · rfl
  have hS' := hS.mono (m := 1) (by omega)
  unfold s_act
  split
  · exact hS.trans (TW.home hS.1 hS.2.1) |>.mono (by omega)
  · rename_i hm0
    unfold s_actP
    cases ho : s_openOn f (f (185 + 8 * k + 4)) with
    | none => exact hS.trans (TW.moves hS.1 hS.2.1 (by rw [hAt]; exact ha)) |>.mono (by omega)
    | some s =>
      obtain ⟨q1, q2, q3⟩ := s_openOn_lt ho
      dsimp only
      rw [if_neg hm0]
      by_cases hn : s_wants (s_actS f r k) k s = 0
      · rw [if_pos hn]
        exact hS.trans (TW.moves hS.1 hS.2.1 (by rw [hAt]; exact ha)) |>.mono (by omega)
      · rw [if_neg hn]
        by_cases hb : b s = 0
        · rw [if_pos hb]
          exact hS.trans (TW.playsAt hS.1 hS.2.1 (by rw [hS.nc]; exact hk) (by rw [hS.ns]; exact q1) hn) |>.mono (by omega)
        · rw [if_neg hb]
          exact hS.trans (TW.moves hS.1 hS.2.1 (by rw [hAt]; exact ha)) |>.mono (by omega)

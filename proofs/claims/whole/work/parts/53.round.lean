theorem st_if {α : Type} {σ : Sg} {k : Sg → Option α} : st σ k = k σ := rfl
theorem s_z7_e {b : Nat → Int32} : (fun s => if 0 ≤ s ∧ s < 7 then 0 else b s) = s_z7 b := by
  funext s
  unfold s_z7
  by_cases h : s < 7
  · rw [if_pos ⟨Nat.zero_le _, h⟩, if_pos h]
  · rw [if_neg (fun q => h q.2), if_neg h]
/-- the row before the day's end: the round one on -/
theorem W_turned {f p : Nat → Int32} {n : Nat} (h : TW n f p) (hr : vp_in (f 7) 40) : WB (upd p 7 (p 7 + 1)) ∧ Mo (upd p 7 (p 7 + 1)) ∧ upd p 7 (p 7 + 1) 7 = f 7 + 1 := by
  obtain ⟨hw, hm, ⟨e3, e6, e7, e8, e9⟩, -⟩ := h
  have n8 : nS (upd p 7 (p 7 + 1)) = nS p := nS_upd (by omega)
  have n9 : nC (upd p 7 (p 7 + 1)) = nC p := nC_upd (by omega)
  have h7 := hw.s7
  obtain ⟨j, hj, ej⟩ := vp_ex hr (by omega)
  refine ⟨⟨?_, ?_, ?_, ?_, fun h hh => ?_, fun s hs => ?_, fun k hk => ?_⟩, ?_, ?_⟩
  · rw [upd_n (by omega)]; exact hw.day
  · rw [upd_s, e7, ej, nI_1]; exact vp_in_nI (by omega) (by omega)
  · rw [upd_n (by omega)]; exact hw.ns
  · rw [upd_n (by omega)]; exact hw.nc
  · rw [upd_n (by omega)]; exact hw.rain h hh
  · rw [n8] at hs
    obtain ⟨a1, a2, a3, a4, a5, a6, a7⟩ := hw.st s hs
    refine ⟨?_, ?_, ?_, ?_, ?_, ?_, fun i hi => ?_⟩
    all_goals rw [upd_n (by omega)]
    all_goals first
      | assumption
      | exact a7 i hi
  · rw [n9] at hk
    obtain ⟨a1, a2, a3, a4, a5, a6⟩ := hw.ch k hk
    refine ⟨?_, ?_, ?_, ?_, ?_, ?_⟩
    · rw [upd_n (by omega)]; exact a1
    · rw [upd_n (by omega)]; exact a2
    · rw [upd_n (by omega)]; exact a3
    · rw [upd_n (by omega), upd_n (show 185 + 8 * k + 5 ≠ 7 by omega)]; exact a4
    · rw [upd_n (by omega)]; exact a5
    · rw [upd_n (by omega)]; exact a6
  · exact hm.frame (upd_n (by omega)) (upd_n (by omega)) (upd_n (by omega)) (upd_n (by omega)) (upd_n (by omega)) n8 n9 (fun s hs => upd_n (by omega)) (fun k hk => upd_n (by omega))
  · rw [upd_s, e7]
theorem s_next_7 {f : Nat → Int32} : s_next f 7 = f 7 := s_next_o (by omega) (by omega) (by omega)
theorem m_round {τ : Sg} (hw : WB (τ 194)) (hm : Mo (τ 194)) (hr : vp_in (τ 194 7) 40) : f_X5_passesRound τ = some (w49 τ (s_round (τ 194) (τ 199)).1 (s_round (τ 194) (τ 199)).2) := by
  obtain ⟨e4, l4⟩ := rnd4 hr
  obtain ⟨nw, nm⟩ := W_next hw hm
  have hc := nw.c200
  have key : ∀ T : Sg, T 194 = s_next (τ 194) → T 199 = τ 199 → (∀ a, a ≠ 194 → T a = τ a) → l_X5_passesRound_51 10000 T (s_rain (τ 194) ((τ 194 7).toNatClampNeg / 4)) 0 = some (w49 τ (s_round (τ 194) (τ 199)).1 (s_round (τ 194) (τ 199)).2) := by
    intro T h1 h2 h3
    obtain ⟨K, hK⟩ := m_z7 (r := s_rain (τ 194) ((τ 194 7).toNatClampNeg / 4)) 7 0 10000 T (by omega) (by omega)
    obtain ⟨P, hP⟩ : ∃ P, P = s_turns (s_rain (τ 194) ((τ 194 7).toNatClampNeg / 4)) (nC (s_next (τ 194))) 0 (s_next (τ 194)) (s_z7 (τ 199)) := ⟨_, rfl⟩
    have ht := TW.turns (r := s_rain (τ 194) ((τ 194 7).toNatClampNeg / 4)) (nC (s_next (τ 194))) 0 (s_next (τ 194)) (s_z7 (τ 199)) nw nm (by omega)
    rw [← hP] at ht
    have hW := W_turned ht (by rw [s_next_7]; exact hr)
    have es : s_round (τ 194) (τ 199) = (if upd P.1 7 (P.1 7 + 1) 7 = 40 then s_ends (upd P.1 7 (P.1 7 + 1)) else upd P.1 7 (P.1 7 + 1), P.2) := by rw [hP]; rfl
    have hmt := m_turns (K := K) (r := s_rain (τ 194) ((τ 194 7).toNatClampNeg / 4)) (nC (s_next (τ 194))) 0 10000 (w49 T (s_next (τ 194)) (s_z7 (τ 199))) nw nm (by rw [w49_1]; omega) (by omega)
    rw [w49_1, w49_2, ← hP] at hmt
    rw [s_z7_e, h1, h2] at hK
    rw [es]
    refine hK.trans (hmt.trans ?_)
    have eT : ∀ g b, w49 T g b = w49 τ g b := by
      intro g b
      funext a
      unfold w49
      by_cases q : a = 194
      · rw [if_pos q, if_pos q]
      · rw [if_neg q, if_neg q, h3 a q]
    rw [st_eq, u2_w4, w49_1, w49_4, w49_w49, eT, w49_1]
    obtain ⟨G, hG⟩ : ∃ G, G = upd P.1 7 (P.1 7 + 1) := ⟨_, rfl⟩
    rw [← hG] at hW ⊢
    have hE := m_ends (τ := w49 τ G P.2) hW.1 hW.2.1
    rw [w49_1, w49_4] at hE
    rw [hE, b1_some]
    by_cases h40 : G 7 = 40
    · rw [if_pos h40, if_pos h40]
    · rw [if_neg h40, if_neg h40]
  unfold f_X5_passesRound
  rw [lc_7, lc_9, e4, m_rain l4, b1_some, m_due hw hr, b1_some]
  by_cases hd : s_due (τ 194) = 0
  · rw [if_pos hd]
    exact key τ (by unfold s_next; rw [if_pos hd]) rfl (fun _ _ => rfl)
  · rw [if_neg hd, m_comes (s_due_room hw hd) hw.nc, b2_some]
    exact key _ (by unfold s_next; rw [if_neg hd]; rfl) (w4_o (by decide)) (fun a ha => w4_o ha)

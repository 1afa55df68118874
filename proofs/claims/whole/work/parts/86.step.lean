/-! the start, and one step of the law -/
theorem s0_194 : s0 194 = fun i => if i = 0 then 500 else 0 := by
  funext i
  show (if i = 0 ∧ (sh 194 = (1, 0) ∨ 194 = 194) then 500 else 0) = _
  by_cases h : i = 0
  · rw [if_pos ⟨h, Or.inr rfl⟩, if_pos h]
  · rw [if_neg (fun z => h z.1), if_neg h]
theorem s0_n {k i : Nat} (h : i ≠ 0) : s0 k i = 0 := if_neg (fun z => h z.1)
theorem IV_0 : IV s0 := by
  have f0 : s0 194 0 = 500 := by rw [s0_194]; rfl
  have fn : ∀ i, i ≠ 0 → s0 194 i = 0 := fun i h => s0_n h
  have n8 : nS (s0 194) = 0 := by
    unfold nS
    rw [fn 8 (by omega)]
    rfl
  have n9 : nC (s0 194) = 0 := by
    unfold nC
    rw [fn 9 (by omega)]
    rfl
  have c10 : s0 1 0 = 500 := by rw [s0_F (by decide +kernel)]; rfl
  have c20 : s0 (1 + 1) 0 = 0 := by rw [s0_z (by decide +kernel) (by decide)]
  have c30 : s0 (1 + 2) 0 = 0 := by rw [s0_z (by decide +kernel) (by decide)]
  have c50 : s0 (1 + 4) 0 = 0 := by rw [s0_z (by decide +kernel) (by decide)]
  have z0 : vp_in (0 : Int32) 2 := vp_lit (by decide)
  have hz : ∀ (i N : Nat), i ≠ 0 → 0 < N → vp_in (s0 194 i) N := fun i N h hN => by
    rw [fn i h]
    exact vp_tI (by decide) (by rw [show (0 : Int32).toInt = 0 from by decide]; omega)
  have e0 : (s0 194 0).toInt = 500 := by rw [f0]; decide
  have ez : ∀ i, i ≠ 0 → (s0 194 i).toInt = 0 := fun i h => by rw [fn i h]; decide
  refine ⟨⟨0, by omega, s0_n (by omega), s0_n (by omega), fun i hi => by omega⟩, 0, fun _ => s0 194, 0, s0 194, ⟨⟨fun i hi => ?_, ⟨0, Nat.zero_le _, s0_n (by omega), fun k hk => by omega⟩, fun k hk => by omega, fun s hs => by omega⟩, by omega, s0_n (by omega), ⟨0, by omega, s0_n (by omega), fun j hj => by omega⟩, s0_n (by omega), fun h => absurd h (by decide)⟩, ⟨fun j hj => by omega, s0_n (by omega), s0_n (by omega), fun h => absurd h (by decide)⟩, ⟨⟨?_, ?_, hz 7 40 (by omega) (by omega), fun s hs => by omega, ?_, by omega⟩, fun j hj => by omega, Or.inl rfl, fun h => absurd h (by decide)⟩⟩
  · unfold vld at hi
    rw [n8, n9] at hi
    have h24 : i < 24 := by omega
    by_cases a : i = 0
    · subst a
      rw [fr_0, c10, f0]
    · rw [fn i a]
      unfold fl
      by_cases a1 : i < 8
      · rw [if_pos a1]; exact s0_n a
      rw [if_neg a1]
      by_cases a2 : i = 8
      · rw [if_pos a2]; exact s0_n (by omega)
      rw [if_neg a2]
      by_cases a3 : i = 9
      · rw [if_pos a3]; exact c50
      rw [if_neg a3]
      by_cases a4 : i < 14
      · rw [if_pos a4]
        by_cases b : i - 10 = 0
        · rw [b]; exact c30
        · exact s0_n b
      rw [if_neg a4, if_pos h24]
      by_cases b : i - 14 = 0
      · rw [b]; exact c20
      · exact s0_n b
  · exact ⟨hz 6 _ (by omega) (by omega), hz 7 _ (by omega) (by omega), hz 8 _ (by omega) (by omega), hz 9 _ (by omega) (by omega), fun h hh => hz _ _ (by omega) (by omega), fun s hs => by omega, fun k hk => by omega⟩
  · refine ⟨by omega, by rw [ez 1 (by omega)]; exact Int.le_refl _, by rw [ez 2 (by omega)]; exact Int.le_refl _, fun s hs => by omega, fun k hk => by omega, ?_, ?_, ?_⟩
    · rw [n8, n9, sm, sm, e0, ez 1 (by omega), ez 2 (by omega), ez 3 (by omega)]
      rfl
    · rw [n9, ez 3 (by omega)]
      exact Int.le_refl _
    · rw [n9, sm, ez 4 (by omega), ez 3 (by omega)]
      rfl
  · unfold tm
    rw [fn 6 (by omega), fn 7 (by omega)]
    decide
theorem gl_ok : ∀ g ∈ gl, ∀ (σ : Sg) (a1 a2 a3 a4 : Int32), IV σ → ∃ σ', g σ a1 a2 a3 a4 = some σ' ∧ IV σ' := by
  intro g hg σ a1 a2 a3 a4 hI
  unfold gl at hg
  simp only [List.mem_cons, List.not_mem_nil, or_false] at hg
  rcases hg with rfl | rfl | rfl | rfl | rfl | rfl | rfl | rfl | rfl | rfl | rfl | rfl | rfl | rfl | rfl | rfl | rfl | rfl | rfl | rfl | rfl | rfl | rfl | rfl | rfl | rfl | rfl | rfl | rfl | rfl | rfl | rfl | rfl | rfl | rfl | rfl | rfl | rfl | rfl | rfl | rfl | rfl | rfl | rfl | rfl | rfl | rfl | rfl | rfl | rfl | rfl | rfl | rfl | rfl | rfl | rfl | rfl | rfl
  · exact kk_0 hI
  · exact kk_1 hI
  · exact kk_2 hI
  · exact kk_3 hI
  · exact kk_4 hI
  · exact kk_5 hI
  · exact kk_6 hI
  · exact kk_7 hI
  · exact kk_8 hI
  · exact kk_9 hI
  · exact kk_10 hI
  · exact kk_11 hI
  · exact kk_12 hI
  · exact kk_13 hI
  · exact kk_14 hI
  · exact kk_15 hI
  · exact kk_16 hI
  · exact kk_17 hI
  · exact kk_18 hI
  · exact kk_19 hI
  · exact kk_20 hI
  · exact kk_21 hI
  · exact kk_22 hI
  · exact kk_23 hI
  · exact kk_24 hI
  · exact kk_25 hI
  · exact kk_26 hI
  · exact kk_27 hI
  · exact kk_28 hI
  · exact kk_29 hI
  · exact kk_30 hI
  · exact kk_31 hI
  · exact kk_32 hI
  · exact kk_33 hI
  · exact kk_34 hI
  · exact kk_35 hI
  · exact kk_36 hI
  · exact kk_37 hI
  · exact kk_38 hI
  · exact kk_39 hI
  · exact kk_40 hI
  · exact kk_41 hI
  · exact kk_42 hI
  · exact kk_43 hI
  · exact kk_44 hI
  · exact kk_45 hI
  · exact kk_46 hI
  · exact kk_47 hI
  · exact kk_48 hI
  · exact kk_49 hI
  · exact kk_50 hI
  · exact kk_51 hI
  · exact kk_52 hI
  · exact kk_53 hI
  · exact kk_54 hI
  · exact kk_55 hI
  · exact kk_56 hI
  · exact kk_57 hI
theorem step_ok : ∀ (σ : Sg) (a0 a1 a2 a3 a4 : Int32), IV σ → ∃ σ', gstep σ a0 a1 a2 a3 a4 = some σ' ∧ IV σ' := by
  intro σ a0 a1 a2 a3 a4 hI
  unfold gstep
  cases h : gl[(a0 &&& 63).toNatClampNeg]? with
  | none => exact ⟨σ, rfl, hI⟩
  | some g => exact gl_ok g (List.mem_of_getElem? h) σ a1 a2 a3 a4 hI

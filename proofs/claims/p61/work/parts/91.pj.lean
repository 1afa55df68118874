/-! undo, snapshots, readers, forecasts, the text: the class alone -/
section PIY
variable {σ : Sg} {f : Nat → Int32} {m : Nat} {R : Nat → Nat → Int32} {hs : Int32} {sn : Nat → Int32} {n : Nat} {T : Nat → Int32}
theorem p_rest (h : PI σ f m R hs sn n T) (h1 : hs = 1) : ∃ σ1, f_X4_restoreSnapshot σ = some (.inr (sn 0, σ1)) ∧ PI σ1 sn (kp m) (kR m R f) hs sn n T := by
  obtain ⟨hc, ok, ht⟩ := id h
  have oks := ok.2.2.2 h1
  refine pa_op h oks (fun σk e1 k2 e2 => ?_)
  obtain ⟨U, x1, x2, x3⟩ := c_copy (c := 1) (d := 55) (by omega) (k2.2.2.2.2.2 h1) oks.1
  refine ⟨U, ?_, x2, x3⟩
  unfold f_X4_restoreSnapshot
  rw [hc.2.2.2.2.1, if_neg (by rw [h1]; decide), e1, b1_some, x1, b1_some, x2.r0]
theorem n_rest (h : PI σ f m R hs sn n T) (h1 : hs = 0) : f_X4_restoreSnapshot σ = some (.inl 3) := by
  unfold f_X4_restoreSnapshot
  rw [h.1.2.2.2.2.1, if_pos h1]
theorem p_undo (h : PI σ f (m + 1) R hs sn n T) : ∃ σ1, f_X4_undo σ = some (.inr (nI m, σ1)) ∧ PI σ1 (R m) m R hs sn n T := by
  obtain ⟨hc, ok, ht⟩ := id h
  obtain ⟨r1, r2, r3, ⟨q, r4, r5, r6⟩, r7, r8⟩ := id hc
  have hm0 : ¬ nI (m + 1) = 0 := by rw [show (0 : Int32) = nI 0 from rfl, nI_eq (by omega) (by omega)]; omega
  have hq : nI q + 4 - 1 - (nI q + 4 - 1) / 4 * 4 = nI ((q + 3) % 4) := by
    rw [show nI q + 4 = nI (q + 4) from nI_add q 4, show (1 : Int32) = nI 1 from rfl, pk_sub (by omega), show (4 : Int32) = nI 4 from rfl, pk_rem (by omega) (by omega) (by omega), show q + 4 - 1 = q + 3 by omega]
  have hm1 : nI (m + 1) - 1 = nI m := by rw [show (1 : Int32) = nI 1 from rfl, pk_sub (by omega), Nat.add_sub_cancel]
  obtain ⟨S, hS⟩ : ∃ S, S = u2 (u2 σ 0 5 (nI ((q + 3) % 4))) 0 6 (nI m) := ⟨_, rfl⟩
  have So : ∀ a, a ≠ 0 → S a = σ a := fun a ha => by rw [hS, u2_cell ha, u2_cell ha]
  have S5 : S 0 5 = nI ((q + 3) % 4) := by rw [hS, u2_ri (by omega), u2_rs]
  have S6 : S 0 6 = nI m := by rw [hS, u2_rs]
  have S3 : S 0 3 = σ 0 3 := by rw [hS, u2_ri (by omega), u2_ri (by omega)]
  have okm := ok.2.1 m (by omega)
  have f6 := r6 m (by omega)
  rw [show (q + 4 - (m + 1) + m) % 4 = (q + 3) % 4 by omega] at f6
  obtain ⟨U, x1, x2, x3⟩ := c_copy (c := 1) (d := 83 + 27 * ((q + 3) % 4)) (σ := S) (f := R m) (by omega) (f6.at (fun a h1 h2 => So a (by omega)) okm.b.1 okm.b.2) okm.1
  have U0 : U 0 = S 0 := x3 0 (by omega)
  have Uo : ∀ a, 28 ≤ a → U a = σ a := fun a ha => by rw [x3 a (by omega), So a (by omega)]
  refine ⟨U, ?_, ?_, ⟨okm, fun j hj => ok.2.1 j (by omega), ok.2.2⟩, ht.at (by rw [Uo 191 (by omega)]) (Uo 192 (by omega))⟩
  · unfold f_X4_undo
    rw [r3, if_neg hm0, r5, hq, st_eq, u2_ri (by omega), r3, hm1, st_eq, ← hS, S5, gd_ok rfl (show (q + 3) % 4 < 4 by omega) (by omega), rk_nI (by omega), x1, b1_some, U0, S6]
  · refine ⟨x2, by omega, by rw [U0, S6], ⟨(q + 3) % 4, by omega, by rw [U0, S5], fun j hj => ?_⟩, by rw [U0, S3]; exact r7, fun e => ?_⟩
    · have hb := (ok.2.1 j (by omega)).b
      rw [show ((q + 3) % 4 + 4 - m + j) % 4 = (q + 4 - (m + 1) + j) % 4 by omega]
      exact (r6 j (by omega)).at (fun a h1 h2 => by rw [Uo a (by omega)]) hb.1 hb.2
    · have hb := (ok.2.2.2 e).b
      exact (r8 e).at (fun a h1 h2 => by rw [Uo a (by omega)]) hb.1 hb.2
theorem n_undo (h : PI σ f 0 R hs sn n T) : f_X4_undo σ = some (.inl 3) := by
  unfold f_X4_undo
  rw [h.1.2.2.1, if_pos (show nI 0 = 0 from rfl)]
theorem p_snap (h : PI σ f m R hs sn n T) : ∃ σ1, f_X4_takeSnapshot σ = some (f 0, σ1) ∧ PI σ1 f m R 1 f n T := by
  obtain ⟨hc, ok, ht⟩ := id h
  obtain ⟨r1, r2, r3, ⟨q, r4, r5, r6⟩, r7, r8⟩ := id hc
  obtain ⟨U, x1, x2, x3⟩ := c_copy (c := 55) (d := 1) (by omega) r1 ok.1.1
  obtain ⟨S, hS⟩ : ∃ S, S = u2 U 0 3 1 := ⟨_, rfl⟩
  have So : ∀ a, a ≠ 0 → a < 55 ∨ 82 ≤ a → S a = σ a := fun a h1 h2 => by rw [hS, u2_cell h1, x3 a (by omega)]
  have b := ok.1.b
  refine ⟨S, ?_, ?_, ⟨ok.1, ok.2.1, Or.inr rfl, fun _ => ok.1⟩, ht.at (by rw [So 191 (by omega) (by omega)]) (So 192 (by omega) (by omega))⟩
  · unfold f_X4_takeSnapshot
    rw [x1, b1_some, st_eq, ← hS, So 1 (by omega) (by omega), r1.r0]
  · refine ⟨r1.at (fun a h1 h2 => So a (by omega) (by omega)) b.1 b.2, r2, ?_, ⟨q, r4, ?_, fun j hj => ?_⟩, ?_, fun _ => ?_⟩
    · rw [hS, u2_ri (by omega), x3 0 (by omega)]; exact r3
    · rw [hS, u2_ri (by omega), x3 0 (by omega)]; exact r5
    · have hb := (ok.2.1 j hj).b
      exact (r6 j hj).at (fun a h1 h2 => So a (by omega) (by omega)) hb.1 hb.2
    · rw [hS, u2_rs]
    · exact x2.at (fun a h1 h2 => by rw [hS, u2_cell (by omega)]) b.1 b.2
theorem q_stalls (h : PI σ f m R hs sn n T) : f_X4_stalls σ = some (f 8) := by
  unfold f_X4_stalls
  rw [h.1.1.r8]
theorem q_children (h : PI σ f m R hs sn n T) : f_X4_children σ = some (f 9) := by
  unfold f_X4_children
  rw [h.1.1.r9]
theorem q_day (h : PI σ f m R hs sn n T) : f_X4_day σ = some (f 6) := by
  unfold f_X4_day
  rw [h.1.1.r6]
theorem q_round (h : PI σ f m R hs sn n T) : f_X4_round σ = some (f 7) := by
  unfold f_X4_round
  rw [h.1.1.r7]
theorem q_bank (h : PI σ f m R hs sn n T) : f_X4_bank σ = some (f 0) := by
  unfold f_X4_bank
  rw [h.1.1.r0]
theorem q_town (h : PI σ f m R hs sn n T) : f_X4_town σ = some (f 1) := by
  unfold f_X4_town
  rw [h.1.1.r1]
theorem q_takings (h : PI σ f m R hs sn n T) : f_X4_takings σ = some (f 4) := by
  unfold f_X4_takings
  rw [h.1.1.r4]
theorem q_plays (h : PI σ f m R hs sn n T) : f_X4_plays σ = some (f 5) := by
  unfold f_X4_plays
  rw [h.1.1.r5]
theorem q_allCoins (h : PI σ f m R hs sn n T) : f_X4_allCoins σ = some (500 + f 3) := by
  unfold f_X4_allCoins
  rw [h.1.1.r3]
theorem q_recorded (h : PI σ f m R hs sn n T) : f_X4_recordedStates σ = some (nI m) := by
  unfold f_X4_recordedStates
  rw [h.1.2.2.1]
theorem q_atFair (h : PI σ f m R hs sn n T) : f_X4_atFair σ = some (s_crowd f) := by
  unfold f_X4_atFair
  rw [c_crowd h.1.1 h.2.1.1.1.nc, b1_some]
theorem q_due (h : PI σ f m R hs sn n T) : f_X4_isChildDue σ = some (s_due f) := by
  have hd : vp_in (s_due f) 2 := by
    unfold s_due
    repeat' split
    all_goals exact vp_lit (by decide)
  unfold f_X4_isChildDue
  rw [c_due h.1.1 h.2.1.1.1 h.2.1.1.2.2.1, b1_some, gd_in hd]
theorem q_places (h : PI σ f m R hs sn n T) : f_X4_coinsByPlaces σ = some (500 + f 3) := by
  obtain ⟨hc, ok, ht⟩ := id h
  have hw := ok.1.1
  have hm := ok.1.2.1
  have hB := hm.bounds hw
  have h7 := hw.s7
  have h9 := hw.c200
  obtain ⟨y1, x1, z1⟩ := c_sumS hc.1 hw hm (nS f) 0 10000 0 (by omega) (by omega) rfl
  obtain ⟨y2, x2, z2⟩ := c_sumC hc.1 hw hm (nC f) 0 10000 0 (by omega) (by omega) rfl
  obtain ⟨b0, b1, b2, b3, b4, b5, b6, b7⟩ := hm
  unfold f_X4_coinsByPlaces f_X1_coinsInStalls f_X0_coinsInPurses
  rw [show l_X1_coinsInStalls_4 1 10000 σ 0 0 = some y1 from x1, b1_some, show l_X0_coinsInPurses_4 (1 + 4) 10000 σ 0 0 = some y2 from x2, b1_some, hc.1.r0, hc.1.r1, hc.1.r2]
  congr 1
  have e1 : (f 0 + y1).toInt = (f 0).toInt + y1.toInt := tI_add (by omega) (by omega)
  have e2 : (f 0 + y1 + y2).toInt = (f 0).toInt + y1.toInt + y2.toInt := by rw [tI_add (by omega) (by omega), e1]
  have e3 : (f 0 + y1 + y2 + f 1).toInt = (f 0).toInt + y1.toInt + y2.toInt + (f 1).toInt := by rw [tI_add (by omega) (by omega), e2]
  have e4 : (f 0 + y1 + y2 + f 1 + f 2).toInt = (f 0).toInt + y1.toInt + y2.toInt + (f 1).toInt + (f 2).toInt := by rw [tI_add (by omega) (by omega), e3]
  have e5 : (500 + f 3).toInt = 500 + (f 3).toInt := by rw [tI_add (by rw [i500]; omega) (by rw [i500]; omega), i500]
  rw [tI_eq, e4, e5]
  omega
theorem q_takC (h : PI σ f m R hs sn n T) : f_X4_takingsByChildren σ = some (f 4) := by
  obtain ⟨hc, ok, ht⟩ := id h
  have hw := ok.1.1
  have hm := ok.1.2.1
  have hB := hm.bounds hw
  have h9 := hw.c200
  obtain ⟨y2, x2, z2⟩ := c_sumC hc.1 hw hm (nC f) 0 10000 0 (by omega) (by omega) rfl
  obtain ⟨b0, b1, b2, b3, b4, b5, b6, b7⟩ := hm
  unfold f_X4_takingsByChildren f_X0_coinsInPurses
  rw [show l_X0_coinsInPurses_4 (1 + 4) 10000 σ 0 0 = some y2 from x2, b1_some, hc.1.r3]
  congr 1
  rw [tI_eq, tI_sub (by omega) (by omega), z2, b7]
theorem q_sulkers (h : PI σ f m R hs sn n T) : f_X4_sulkers σ = some (s_slA f (nC f) 0 0) := by
  obtain ⟨hc, ok, ht⟩ := id h
  have hw := ok.1.1
  have h9 := hw.c200
  obtain ⟨ft, t1, t2, t3⟩ := hc.1.2.1
  unfold f_X4_sulkers f_X0_countSulkers
  have := s_slA_skip (f := f) (a := 0) ft (nC f - ft) 0 (fun j _ h => t3 j (by omega))
  rw [show ft + (nC f - ft) = nC f by omega, show 0 + ft = ft by omega] at this
  rw [t2, c_sl hc.1 hw.nc (nC f - ft) ft 10000 0 (by omega) (by omega), b1_some, this]
theorem q_happiest (h : PI σ f m R hs sn n T) : f_X4_happiest σ = some (oI (s_hpA f (nC f) 0 none)) := by
  obtain ⟨hc, ok, ht⟩ := id h
  have hw := ok.1.1
  have h9 := hw.c200
  obtain ⟨ft, t1, t2, t3⟩ := hc.1.2.1
  unfold f_X4_happiest f_X0_findHappiest
  have := s_hpA_skip (f := f) (b := none) ft (nC f - ft) 0 (fun j _ h => t3 j (by omega))
  rw [show ft + (nC f - ft) = nC f by omega, show 0 + ft = ft by omega] at this
  have hq := c_hp hc.1 hw (nC f - ft) ft 10000 none (by omega) (by omega)
  rw [t2, show l_X0_findHappiest_9 (1 + 4) 10000 σ (-1) (-1) (nI ft) = _ from hq, b1_some, this]
theorem q_pitchOf {s : Nat} (h : PI σ f m R hs sn n T) (h1 : s < nS f) : f_X4_pitchOf σ (nI s) = some (.inr (f (24 + 23 * s + 0))) := by
  have h7 := h.2.1.1.1.s7
  unfold f_X4_pitchOf
  rw [c_num1 h.1.1 h.2.1.1.1.ns h1, bt_inr, sg_ok (sk_cell (Or.inl rfl) (by omega)), h.1.1.s0 h1 h7]
theorem q_priceOf {s : Nat} (h : PI σ f m R hs sn n T) (h1 : s < nS f) : f_X4_priceOf σ (nI s) = some (.inr (f (24 + 23 * s + 2))) := by
  have h7 := h.2.1.1.1.s7
  unfold f_X4_priceOf
  rw [c_num1 h.1.1 h.2.1.1.1.ns h1, bt_inr, sg_ok (sk_cell (Or.inl rfl) (by omega)), h.1.1.s2 h1 h7]
theorem q_purseOfStall {s : Nat} (h : PI σ f m R hs sn n T) (h1 : s < nS f) : f_X4_purseOfStall σ (nI s) = some (.inr (f (24 + 23 * s + 4))) := by
  have h7 := h.2.1.1.1.s7
  unfold f_X4_purseOfStall
  rw [c_num1 h.1.1 h.2.1.1.1.ns h1, bt_inr, sg_ok (sk_cell (Or.inl rfl) (by omega)), h.1.1.s4 h1 h7]
theorem q_playsOf {s : Nat} (h : PI σ f m R hs sn n T) (h1 : s < nS f) : f_X4_playsOf σ (nI s) = some (.inr (f (24 + 23 * s + 5))) := by
  have h7 := h.2.1.1.1.s7
  unfold f_X4_playsOf
  rw [c_num1 h.1.1 h.2.1.1.1.ns h1, bt_inr, sg_ok (sk_cell (Or.inl rfl) (by omega)), h.1.1.s5 h1 h7]
theorem q_isOpen {s : Nat} (h : PI σ f m R hs sn n T) (h1 : s < nS f) : f_X4_isOpen σ (nI s) = some (.inr (f (24 + 23 * s + 6))) := by
  have h7 := h.2.1.1.1.s7
  unfold f_X4_isOpen
  rw [c_num1 h.1.1 h.2.1.1.1.ns h1, bt_inr, sg_ok (sk_cell (Or.inl rfl) (by omega)), h.1.1.s6 h1 h7, gd_in (h.2.1.1.1.st s h1).opn]
theorem q_shelfOf {s : Nat} (h : PI σ f m R hs sn n T) (h1 : s < nS f) : f_X4_shelfOf σ (nI s) = some (.inr (s_onShelf f s)) := by
  have h7 := h.2.1.1.1.s7
  unfold f_X4_shelfOf
  rw [c_num1 h.1.1 h.2.1.1.1.ns h1, bt_inr, sg_ok (sk_cell (Or.inl rfl) (by omega)), c_onShelf h.1.1 h1 h7, b1_some]
theorem q_levelToWin {s : Nat} (h : PI σ f m R hs sn n T) (h1 : s < nS f) : f_X4_levelToWin σ (nI s) = some (.inr (oI (s_best f s))) := by
  have h7 := h.2.1.1.1.s7
  unfold f_X4_levelToWin
  rw [c_num1 h.1.1 h.2.1.1.1.ns h1, bt_inr, sg_ok (sk_cell (Or.inl rfl) (by omega)), c_best h.1.1 h.2.1.1.1 h1, b1_some]
theorem q_rentOf {s : Nat} (h : PI σ f m R hs sn n T) (h1 : s < nS f) : f_X4_rentOf σ (nI s) = some (.inr (s_rt f s)) := by
  have h7 := h.2.1.1.1.s7
  unfold f_X4_rentOf
  rw [c_num1 h.1.1 h.2.1.1.1.ns h1, bt_inr, sg_ok (sk_cell (Or.inl rfl) (by omega))]
  unfold f_X3_rent s_rt
  rw [h.1.1.s0 h1 h7, b1_some]
def s_ptw (f : Nat → Int32) (s : Nat) : Int32 := if evr (f (24 + 23 * s + 1)) = 0 then -1 else evr (f (24 + 23 * s + 1)) - (f (24 + 23 * s + 5) - f (24 + 23 * s + 5) / evr (f (24 + 23 * s + 1)) * evr (f (24 + 23 * s + 1)))
theorem q_playsToWin {s : Nat} (h : PI σ f m R hs sn n T) (h1 : s < nS f) : f_X4_playsToWin σ (nI s) = some (.inr (s_ptw f s)) := by
  have h7 := h.2.1.1.1.s7
  unfold f_X4_playsToWin s_ptw
  rw [c_num1 h.1.1 h.2.1.1.1.ns h1, bt_inr, sg_ok (sk_cell (Or.inl rfl) (by omega))]
  unfold f_X3_playsUntilWin
  rw [(h.1.1.2.2.2 s h1).1, h.1.1.s5 h1 h7]
  split
  · rfl
  · rename_i hne
    rw [nz_ok hne, b1_some]
theorem q_prizesOn {s l j : Nat} (h : PI σ f m R hs sn n T) (h1 : s < nS f) (hl : l < 4) (hj : j < 4) : f_X4_prizesOn σ (nI s) (nI l) (nI j) = some (.inr (f (24 + 23 * s + (7 + 4 * l + j)))) := by
  have h7 := h.2.1.1.1.s7
  unfold f_X4_prizesOn
  rw [c_num1 h.1.1 h.2.1.1.1.ns h1, bt_inr, sg_ok (sk_cell (Or.inl rfl) (by omega)), c_level1 (vp_in_nI hl (by omega)), bt_inr, c_colour1 (vp_in_nI hj (by omega)), bt_inr, ix_4, gd_ok rfl (show 4 * l + j < 16 by omega) (by omega), cl_nI (by omega), h.1.1.sh h1 h7 (by omega), show 24 + 23 * s + 7 + (4 * l + j) = 24 + 23 * s + (7 + 4 * l + j) by omega]
theorem n_pitchOf {a1 : Int32} (h : PI σ f m R hs sn n T) (h1 : ¬ vp_in a1 (nS f)) : f_X4_pitchOf σ a1 = some (.inl 1) := by
  unfold f_X4_pitchOf
  rw [c_num0 h.1.1 h.2.1.1.1.ns h1, bt_inl]
theorem n_priceOf {a1 : Int32} (h : PI σ f m R hs sn n T) (h1 : ¬ vp_in a1 (nS f)) : f_X4_priceOf σ a1 = some (.inl 1) := by
  unfold f_X4_priceOf
  rw [c_num0 h.1.1 h.2.1.1.1.ns h1, bt_inl]
theorem n_purseOfStall {a1 : Int32} (h : PI σ f m R hs sn n T) (h1 : ¬ vp_in a1 (nS f)) : f_X4_purseOfStall σ a1 = some (.inl 1) := by
  unfold f_X4_purseOfStall
  rw [c_num0 h.1.1 h.2.1.1.1.ns h1, bt_inl]
theorem n_playsOf {a1 : Int32} (h : PI σ f m R hs sn n T) (h1 : ¬ vp_in a1 (nS f)) : f_X4_playsOf σ a1 = some (.inl 1) := by
  unfold f_X4_playsOf
  rw [c_num0 h.1.1 h.2.1.1.1.ns h1, bt_inl]
theorem n_isOpen {a1 : Int32} (h : PI σ f m R hs sn n T) (h1 : ¬ vp_in a1 (nS f)) : f_X4_isOpen σ a1 = some (.inl 1) := by
  unfold f_X4_isOpen
  rw [c_num0 h.1.1 h.2.1.1.1.ns h1, bt_inl]
theorem n_shelfOf {a1 : Int32} (h : PI σ f m R hs sn n T) (h1 : ¬ vp_in a1 (nS f)) : f_X4_shelfOf σ a1 = some (.inl 1) := by
  unfold f_X4_shelfOf
  rw [c_num0 h.1.1 h.2.1.1.1.ns h1, bt_inl]
theorem n_levelToWin {a1 : Int32} (h : PI σ f m R hs sn n T) (h1 : ¬ vp_in a1 (nS f)) : f_X4_levelToWin σ a1 = some (.inl 1) := by
  unfold f_X4_levelToWin
  rw [c_num0 h.1.1 h.2.1.1.1.ns h1, bt_inl]
theorem n_rentOf {a1 : Int32} (h : PI σ f m R hs sn n T) (h1 : ¬ vp_in a1 (nS f)) : f_X4_rentOf σ a1 = some (.inl 1) := by
  unfold f_X4_rentOf
  rw [c_num0 h.1.1 h.2.1.1.1.ns h1, bt_inl]
theorem n_playsToWin {a1 : Int32} (h : PI σ f m R hs sn n T) (h1 : ¬ vp_in a1 (nS f)) : f_X4_playsToWin σ a1 = some (.inl 1) := by
  unfold f_X4_playsToWin
  rw [c_num0 h.1.1 h.2.1.1.1.ns h1, bt_inl]
theorem n_prizesOn1 {a1 a2 a3 : Int32} (h : PI σ f m R hs sn n T) (h1 : ¬ vp_in a1 (nS f)) : f_X4_prizesOn σ a1 a2 a3 = some (.inl 1) := by
  unfold f_X4_prizesOn
  rw [c_num0 h.1.1 h.2.1.1.1.ns h1, bt_inl]
theorem n_prizesOn2 {s : Nat} {a2 a3 : Int32} (h : PI σ f m R hs sn n T) (h1 : s < nS f) (h2 : ¬ vp_in a2 4) : f_X4_prizesOn σ (nI s) a2 a3 = some (.inl 1) := by
  have h7 := h.2.1.1.1.s7
  unfold f_X4_prizesOn
  rw [c_num1 h.1.1 h.2.1.1.1.ns h1, bt_inr, sg_ok (sk_cell (Or.inl rfl) (by omega)), c_level0 h2, bt_inl]
theorem n_prizesOn3 {s : Nat} {a2 a3 : Int32} (h : PI σ f m R hs sn n T) (h1 : s < nS f) (h2 : vp_in a2 4) (h3 : ¬ vp_in a3 4) : f_X4_prizesOn σ (nI s) a2 a3 = some (.inl 1) := by
  have h7 := h.2.1.1.1.s7
  unfold f_X4_prizesOn
  rw [c_num1 h.1.1 h.2.1.1.1.ns h1, bt_inr, sg_ok (sk_cell (Or.inl rfl) (by omega)), c_level1 h2, bt_inr, c_colour0 h3, bt_inl]
theorem q_purseOf {k : Nat} (h : PI σ f m R hs sn n T) (h1 : k < nC f) : f_X4_purseOf σ (nI k) = some (.inr (f (185 + 8 * k + 0))) := by
  have h9 := h.2.1.1.1.c200
  unfold f_X4_purseOf
  rw [c_nch1 h.1.1 h.2.1.1.1.nc (vp_in_nI h1 (by omega)), bt_inr, gd_ok rfl (show k < 200 by omega) (by omega), cl_nI (by omega), h.1.1.c0 h1]
theorem q_moodOf {k : Nat} (h : PI σ f m R hs sn n T) (h1 : k < nC f) : f_X4_moodOf σ (nI k) = some (.inr (f (185 + 8 * k + 1))) := by
  have h9 := h.2.1.1.1.c200
  unfold f_X4_moodOf
  rw [c_nch1 h.1.1 h.2.1.1.1.nc (vp_in_nI h1 (by omega)), bt_inr, gd_ok rfl (show k < 200 by omega) (by omega), cl_nI (by omega), h.1.1.c1 h1]
theorem q_placeOf {k : Nat} (h : PI σ f m R hs sn n T) (h1 : k < nC f) : f_X4_placeOf σ (nI k) = some (.inr (f (185 + 8 * k + 4))) := by
  have h9 := h.2.1.1.1.c200
  unfold f_X4_placeOf
  rw [c_nch1 h.1.1 h.2.1.1.1.nc (vp_in_nI h1 (by omega)), bt_inr, gd_ok rfl (show k < 200 by omega) (by omega), cl_nI (by omega), h.1.1.c4 h1]
theorem q_prizesOf {k : Nat} (h : PI σ f m R hs sn n T) (h1 : k < nC f) : f_X4_prizesOf σ (nI k) = some (.inr (f (185 + 8 * k + 7))) := by
  have h9 := h.2.1.1.1.c200
  unfold f_X4_prizesOf
  rw [c_nch1 h.1.1 h.2.1.1.1.nc (vp_in_nI h1 (by omega)), bt_inr, gd_ok rfl (show k < 200 by omega) (by omega), cl_nI (by omega), h.1.1.c7 h1]
theorem q_isAtFair {k : Nat} (h : PI σ f m R hs sn n T) (h1 : k < nC f) : f_X4_isAtFair σ (nI k) = some (.inr (if f (185 + 8 * k + 4) = -1 then 0 else 1)) := by
  have h9 := h.2.1.1.1.c200
  unfold f_X4_isAtFair
  rw [c_nch1 h.1.1 h.2.1.1.1.nc (vp_in_nI h1 (by omega)), bt_inr, gd_ok rfl (show k < 200 by omega) (by omega), cl_nI (by omega), h.1.1.c4 h1]
  split <;> rfl
theorem q_isHomeward {k : Nat} (h : PI σ f m R hs sn n T) (h1 : k < nC f) : f_X4_isHomeward σ (nI k) = some (.inr (f (185 + 8 * k + 5))) := by
  have h9 := h.2.1.1.1.c200
  unfold f_X4_isHomeward
  have hd := h.1.1.2.2.1 k h1
  rw [c_nch1 h.1.1 h.2.1.1.1.nc (vp_in_nI h1 (by omega)), bt_inr, gd_ok rfl (show k < 200 by omega) (by omega), cl_nI (by omega), ← h.1.1.c5 h1]
  rcases hd with hd | hd
  · rw [hd]; rfl
  · rw [hd]; rfl
theorem q_whyNoPlay {k : Nat} (h : PI σ f m R hs sn n T) (h1 : k < nC f) : f_X4_whyNoPlay σ (nI k) = some (.inr (s_rsn f k)) := by
  obtain ⟨hc, ok, ht⟩ := id h
  have hw := ok.1.1
  have h7 := hw.c200
  have hs7 := hw.s7
  unfold f_X4_whyNoPlay s_rsn
  rw [c_nch1 h.1.1 h.2.1.1.1.nc (vp_in_nI h1 (by omega)), bt_inr, gd_ok rfl (show k < 200 by omega) (by omega), cl_nI (by omega), hc.1.c4 h1]
  by_cases h0 : f (185 + 8 * k + 4) = -1
  · rw [if_pos h0, if_pos h0]
  · rw [if_neg h0, if_neg h0, c_openOn hc.1 hw.ns (fun s hs => (hw.st s hs).opn), b1_some]
    cases ho : s_openOn f (f (185 + 8 * k + 4)) with
    | none =>
      dsimp only
      rw [if_pos rfl]
    | some s =>
      obtain ⟨q1, q2, q3⟩ := s_openOn_lt ho
      dsimp only
      rw [if_neg (show ¬ 1 + 13 + 2 * s = 0 by omega), sg_ok (sk_cell (Or.inl rfl) (by omega)), c_why hc.1 hs7 h7 h1 q1, b1_some]
theorem n_purseOf {a1 : Int32} (h : PI σ f m R hs sn n T) (h1 : ¬ vp_in a1 (nC f)) : f_X4_purseOf σ a1 = some (.inl 1) := by
  unfold f_X4_purseOf
  rw [c_nch0 h.1.1 h.2.1.1.1.nc h1, bt_inl]
theorem n_moodOf {a1 : Int32} (h : PI σ f m R hs sn n T) (h1 : ¬ vp_in a1 (nC f)) : f_X4_moodOf σ a1 = some (.inl 1) := by
  unfold f_X4_moodOf
  rw [c_nch0 h.1.1 h.2.1.1.1.nc h1, bt_inl]
theorem n_placeOf {a1 : Int32} (h : PI σ f m R hs sn n T) (h1 : ¬ vp_in a1 (nC f)) : f_X4_placeOf σ a1 = some (.inl 1) := by
  unfold f_X4_placeOf
  rw [c_nch0 h.1.1 h.2.1.1.1.nc h1, bt_inl]
theorem n_prizesOf {a1 : Int32} (h : PI σ f m R hs sn n T) (h1 : ¬ vp_in a1 (nC f)) : f_X4_prizesOf σ a1 = some (.inl 1) := by
  unfold f_X4_prizesOf
  rw [c_nch0 h.1.1 h.2.1.1.1.nc h1, bt_inl]
theorem n_isAtFair {a1 : Int32} (h : PI σ f m R hs sn n T) (h1 : ¬ vp_in a1 (nC f)) : f_X4_isAtFair σ a1 = some (.inl 1) := by
  unfold f_X4_isAtFair
  rw [c_nch0 h.1.1 h.2.1.1.1.nc h1, bt_inl]
theorem n_isHomeward {a1 : Int32} (h : PI σ f m R hs sn n T) (h1 : ¬ vp_in a1 (nC f)) : f_X4_isHomeward σ a1 = some (.inl 1) := by
  unfold f_X4_isHomeward
  rw [c_nch0 h.1.1 h.2.1.1.1.nc h1, bt_inl]
theorem n_whyNoPlay {a1 : Int32} (h : PI σ f m R hs sn n T) (h1 : ¬ vp_in a1 (nC f)) : f_X4_whyNoPlay σ a1 = some (.inl 1) := by
  unfold f_X4_whyNoPlay
  rw [c_nch0 h.1.1 h.2.1.1.1.nc h1, bt_inl]
theorem q_stallOn {p : Nat} (h : PI σ f m R hs sn n T) (h1 : p < 12) : f_X4_stallOn σ (nI p) = some (.inr (oI (s_on f (nI p)))) := by
  unfold f_X4_stallOn
  rw [c_pitch1 (vp_in_nI h1 (by omega)), bt_inr, c_on h.1.1 h.2.1.1.1.ns, b1_some]
theorem n_stallOn {a1 : Int32} (h1 : ¬ vp_in a1 12) : f_X4_stallOn σ a1 = some (.inl 1) := by
  unfold f_X4_stallOn
  rw [c_pitch0 h1, bt_inl]
theorem q_crowdOn {p : Nat} (h : PI σ f m R hs sn n T) (h1 : p < 12) : f_X4_crowdOn σ (nI p) = some (.inr (s_onPA f (nI p) (nC f) 0 0)) := by
  obtain ⟨hc, ok, ht⟩ := id h
  have hw := ok.1.1
  have h7 := hw.c200
  obtain ⟨ft, t1, t2, t3⟩ := hc.1.2.1
  unfold f_X4_crowdOn f_X0_countOn
  rw [c_pitch1 (vp_in_nI h1 (by omega)), bt_inr, t2, c_onP hc.1 hw.nc (nC f - ft) ft 10000 0 (by omega) (by omega), b1_some]
  have := s_onPA_skip (f := f) (a := 0) (nI_neg1 (s := p) (by omega)) ft (nC f - ft) 0 (fun j _ h => t3 j (by omega))
  rw [show ft + (nC f - ft) = nC f by omega, show 0 + ft = ft by omega] at this
  rw [this]
theorem n_crowdOn {a1 : Int32} (h1 : ¬ vp_in a1 12) : f_X4_crowdOn σ a1 = some (.inl 1) := by
  unfold f_X4_crowdOn
  rw [c_pitch0 h1, bt_inl]
theorem q_wonOf {l : Nat} (h : PI σ f m R hs sn n T) (h1 : l < 4) : f_X4_wonOf σ (nI l) = some (.inr (f (10 + l))) := by
  unfold f_X4_wonOf
  rw [c_level1 (vp_in_nI h1 (by omega)), bt_inr, gd_ok rfl h1 (by omega), cl_nI (by omega), h.1.1.won h1]
theorem n_wonOf {a1 : Int32} (h1 : ¬ vp_in a1 4) : f_X4_wonOf σ a1 = some (.inl 1) := by
  unfold f_X4_wonOf
  rw [c_level0 h1, bt_inl]
theorem q_rainIn {i : Nat} (h : PI σ f m R hs sn n T) (h1 : i < 10) : f_X4_rainIn σ (nI i) = some (.inr (s_rain f i)) := by
  unfold f_X4_rainIn
  rw [c_hour1 (vp_in_nI h1 (by omega)), bt_inr, c_rain h.1.1 h1, b1_some]
theorem n_rainIn {a1 : Int32} (h1 : ¬ vp_in a1 10) : f_X4_rainIn σ a1 = some (.inl 1) := by
  unfold f_X4_rainIn
  rw [c_hour0 h1, bt_inl]
/-- only the trial has changed -/
theorem PI.trial {σ' : Sg} (h : PI σ f m R hs sn n T) (ho : ∀ a, a < 28 ∨ 55 ≤ a → σ' a = σ a) : PI σ' f m R hs sn n T := h.same (fun a ha => ho a (by omega)) (by rw [ho 191 (by omega)])
theorem p_today {r : Nat} (b : Nat → Int32) (h : PI σ f m R hs sn n T) (hr : r < 40) (er : f 7 = nI r) : ∃ U, f_X4_takingsToday σ = some ((s_pass (40 - r) f b).1 4 - f 4, U) ∧ PI U f m R hs sn n T := by
  obtain ⟨hc, ok, ht⟩ := id h
  have hw := ok.1.1
  obtain ⟨r', hr40, er', e40, hpk⟩ := ok.1.pk
  have : r' = r := nI_inj (by omega) (by omega) (er'.symm.trans er)
  subst this
  obtain ⟨S, x1, x2, x3⟩ := c_copy (c := 28) (d := 1) (by omega) hc.1 hw
  obtain ⟨U, y1, y2, y3⟩ := PK.c (e := 40 - r') b (Or.inr (Or.inl rfl)) x2 hpk (by omega) (by omega)
  have Uo : ∀ a, a < 28 ∨ 55 ≤ a → U a = σ a := fun a ha => by rw [y3 a (by omega), x3 a (by omega)]
  refine ⟨U, ?_, h.trial Uo⟩
  unfold f_X4_takingsToday
  rw [x1, b1_some, x3 1 (by omega), hc.1.r7, e40, y1, b1_some, y2.r4, Uo 1 (by omega), hc.1.r4]
theorem p_homeIn {k r : Nat} (b : Nat → Int32) (h : PI σ f m R hs sn n T) (hk : k < nC f) (hr : r < 40) (er : f 7 = nI r) : ∃ U, f_X4_homeIn σ (nI k) = some (.inr (nI (s_hm k (40 - r) f b), U)) ∧ PI U f m R hs sn n T := by
  obtain ⟨hc, ok, ht⟩ := id h
  have hw := ok.1.1
  have h9 := hw.c200
  obtain ⟨r', hr40, er', e40, hpk⟩ := ok.1.pk
  have : r' = r := nI_inj (by omega) (by omega) (er'.symm.trans er)
  subst this
  have hH : HM k (40 - r') f := ⟨hpk, hk, Or.inr ⟨by omega, by omega, by rw [er, show 40 - (40 - r') = r' by omega]⟩⟩
  obtain ⟨S, x1, x2, x3⟩ := c_copy (c := 28) (d := 1) (by omega) hc.1 hw
  obtain ⟨U, y1, y2⟩ := c_hm (40 - r') 0 10000 S f b x2 hH (by omega) (by omega)
  have Uo : ∀ a, a < 28 ∨ 55 ≤ a → U a = σ a := fun a ha => by rw [y2 a (by omega), x3 a (by omega)]
  rw [Nat.zero_add] at y1
  refine ⟨U, ?_, h.trial Uo⟩
  unfold f_X4_homeIn
  rw [c_nch1 hc.1 hw.nc (vp_in_nI hk (by omega)), bt_inr, x1, b1_some]
  exact y1
theorem n_homeIn {a1 : Int32} (h : PI σ f m R hs sn n T) (h1 : ¬ vp_in a1 (nC f)) : f_X4_homeIn σ a1 = some (.inl 1) := by
  unfold f_X4_homeIn
  rw [c_nch0 h.1.1 h.2.1.1.1.nc h1, bt_inl]
theorem p_best {a1 a2 : Int32} {r : Nat} (b : Nat → Int32) (h : PI σ f m R hs sn n T) (h1 : vp_in a1 5) (h2 : pr9 a2) (hr : r < 40) (er : f 7 = nI r) : ∃ U, f_X4_bestPitch σ a1 a2 = some (.inr (oI (s_bpA f (fun p => s_val f b r (nI p) a1 a2) 12 0 none), U)) ∧ PI U f m R hs sn n T := by
  obtain ⟨hc, ok, ht⟩ := id h
  obtain ⟨r', hr40, er', e40, hpk⟩ := ok.1.pk
  have : r' = r := nI_inj (by omega) (by omega) (er'.symm.trans er)
  subst this
  obtain ⟨U, y1, y2⟩ := c_bp (b0 := b) ok.1 hpk e40 h1 h2 12 0 10000 σ none (by omega) (by omega) hc.1 (fun q e => by cases e)
  refine ⟨U, ?_, h.trial y2⟩
  unfold f_X4_bestPitch
  rw [c_kind1 h1, bt_inr, c_price1 h2, bt_inr]
  exact y1
theorem n_best1 {a1 a2 : Int32} (h1 : ¬ vp_in a1 5) : f_X4_bestPitch σ a1 a2 = some (.inl 1) := by
  unfold f_X4_bestPitch
  rw [c_kind0 h1, bt_inl]
theorem n_best2 {a1 a2 : Int32} (h1 : vp_in a1 5) (h2 : ¬ pr9 a2) : f_X4_bestPitch σ a1 a2 = some (.inl 2) := by
  unfold f_X4_bestPitch
  rw [c_kind1 h1, bt_inr, c_price0 h2, bt_inl]
theorem p_type {z : Nat} (h : PI σ f m R hs sn n T) (hz : z < 65536) (h80 : n < 80) : ∃ σ1, f_X4_type σ (nI z) = some (.inr (nI (n + 1), σ1)) ∧ PI σ1 f m R hs sn (n + 1) (upd T n (nI z)) := by
  obtain ⟨hc, ok, t1, t2, t3⟩ := id h
  have hv : vp_nar .char (nI z) = nI z := by
    have := (nar_char (vp_in_nI hz (by omega))).1
    exact Value.int.inj this
  obtain ⟨S, hS⟩ : ∃ S, S = u2 (u2 σ 192 n (nI z)) 191 1 (nI (n + 1)) := ⟨_, rfl⟩
  have So : ∀ a, a < 191 → S a = σ a := fun a ha => by rw [hS, u2_cell (by omega), u2_cell (by omega)]
  have b := ok.1.b
  refine ⟨S, ?_, hc.op ok (hc.1.at (fun a h1 h2 => So a (by omega)) b.1 b.2) (So 0 (by omega)) (fun a h1 h2 => So a (by omega)), ok, by omega, by rw [hS, u2_rs], fun i hi => ?_⟩
  · unfold f_X4_type f_X2_append
    rw [t2, if_pos (show nI n < 80 by rw [show (80 : Int32) = nI 80 from rfl, nI_ltI (by omega) (by omega)]; omega), gd_ok rfl (show n < 80 by omega) (by omega), cl_nI (by omega), st_eq, hv, u2_rc (by omega), t2, nI_1, st_eq, b2_some, if_neg (by decide), u2_rs, ← hS]
  · rw [hS, u2_rc (by omega)]
    by_cases q : i = n
    · subst q
      rw [u2_rs, upd_s]
      exact ⟨rfl, vp_in_nI hz (by omega)⟩
    · rw [u2_ri q, upd_n q]
      exact t3 i (by omega)
theorem n_type {a1 : Int32} (h : PI σ f m R hs sn 80 T) : f_X4_type σ a1 = some (.inl (3, σ)) := by
  obtain ⟨hc, ok, t1, t2, t3⟩ := id h
  unfold f_X4_type f_X2_append
  rw [t2, if_neg (show ¬ nI 80 < 80 by decide), b2_some, if_pos rfl]
theorem p_clear (h : PI σ f m R hs sn n T) : ∃ σ1, f_X4_clearText σ = some (nI n, σ1) ∧ PI σ1 f m R hs sn 0 T := by
  obtain ⟨hc, ok, t1, t2, t3⟩ := id h
  obtain ⟨S, hS⟩ : ∃ S, S = u2 σ 191 1 0 := ⟨_, rfl⟩
  have So : ∀ a, a < 191 → S a = σ a := fun a ha => by rw [hS, u2_cell (by omega)]
  have b := ok.1.b
  refine ⟨S, ?_, hc.op ok (hc.1.at (fun a h1 h2 => So a (by omega)) b.1 b.2) (So 0 (by omega)) (fun a h1 h2 => So a (by omega)), ok, by omega, by rw [hS, u2_rs]; rfl, fun i hi => by omega⟩
  unfold f_X4_clearText
  rw [st_eq, t2, ← hS]
/-- the text read -/
theorem p_err (h : PI σ f m R hs sn n T) : ∃ G, f_X2_firstError σ = some (if (s_all T n 40 0).2.1 = true then -1 else nI (s_all T n 40 0).1, wr σ 191 G) ∧ PI (wr σ 191 G) f m R hs sn n T := by
  obtain ⟨hc, ok, t1, t2, t3⟩ := id h
  obtain ⟨G, x1, x2⟩ := C_err t1 t2 (fun i hi => by rw [(t3 i hi).1]; exact (t3 i hi).2)
  rw [s_all_ext (fun i hi => (t3 i hi).1)] at x1
  exact ⟨G, x1, h.same (fun a ha => wr_n (by omega)) (by rw [wr_s, x2, t2])⟩
theorem p_textError (h : PI σ f m R hs sn n T) : ∃ σ1, f_X4_textError σ = some (if (s_all T n 40 0).2.1 = true then -1 else nI (s_all T n 40 0).1, σ1) ∧ PI σ1 f m R hs sn n T := by
  obtain ⟨G, x1, x2⟩ := p_err h
  refine ⟨_, ?_, x2⟩
  unfold f_X4_textError
  rw [x1, b2_some]
theorem n_imp (h : PI σ f m R hs sn n T) (q : ¬ (s_all T n 40 0).2.1 = true) : ∃ σ1, f_X4_impossibleOrder σ = some (.inl (3, σ1)) ∧ PI σ1 f m R hs sn n T := by
  obtain ⟨G, x1, x2⟩ := p_err h
  have le := s_all_le (tx := T) (n := n) 40 0 (by omega)
  have t1 := h.2.2.1
  rw [if_neg q] at x1
  refine ⟨_, ?_, x2⟩
  unfold f_X4_impossibleOrder
  rw [x1, b2_some, if_neg (nI_neg1 (by omega))]
theorem n_car (h : PI σ f m R hs sn n T) (q : ¬ (s_all T n 40 0).2.1 = true) : ∃ σ1, f_X4_carryOut σ = some (.inl (3, σ1)) ∧ PI σ1 f m R hs sn n T := by
  obtain ⟨G, x1, x2⟩ := p_err h
  have le := s_all_le (tx := T) (n := n) 40 0 (by omega)
  have t1 := h.2.2.1
  rw [if_neg q] at x1
  refine ⟨_, ?_, x2⟩
  unfold f_X4_carryOut
  rw [x1, b2_some, if_neg (nI_neg1 (by omega))]
/-- the orders tried -/
theorem p_try (b : Nat → Int32) (h : PI σ f m R hs sn n T) (q : (s_all T n 40 0).2.1 = true) : ∃ F', f_X4_tryOrders σ = some ((s_run (s_all T n 40 0).2.2 0 f b).1, F') ∧ PI F' f m R hs sn n T ∧ ((s_run (s_all T n 40 0).2.2 0 f b).1 = -1 → F' 191 3 = nI (s_all T n 40 0).2.2.length ∧ FR 28 F' (s_run (s_all T n 40 0).2.2 0 f b).2.1) := by
  obtain ⟨hc, ok, t1, t2, t3⟩ := id h
  have e : s_all (σ 192) n 40 0 = s_all T n 40 0 := s_all_ext (fun i hi => (t3 i hi).1) 40 0
  obtain ⟨F', y1, y2, y3, y4⟩ := C_try b t1 t2 (fun i hi => by rw [(t3 i hi).1]; exact (t3 i hi).2) hc.1 ok.1 (by rw [e]; exact q)
  rw [e] at y1 y4
  exact ⟨F', y1, h.same (fun a ha => y3 a (by omega)) (by rw [y2, t2]), y4⟩
theorem p_imp (b : Nat → Int32) (h : PI σ f m R hs sn n T) (q : (s_all T n 40 0).2.1 = true) : ∃ F', f_X4_impossibleOrder σ = some (.inr ((s_run (s_all T n 40 0).2.2 0 f b).1, F')) ∧ PI F' f m R hs sn n T := by
  obtain ⟨G, x1, x2⟩ := p_err h
  obtain ⟨F', y1, y2, -⟩ := p_try b x2 q
  rw [if_pos q] at x1
  refine ⟨F', ?_, y2⟩
  unfold f_X4_impossibleOrder
  rw [x1, b2_some, if_pos rfl, y1, b2_some]
theorem n_car2 (b : Nat → Int32) (h : PI σ f m R hs sn n T) (q : (s_all T n 40 0).2.1 = true) (p : ¬ (s_run (s_all T n 40 0).2.2 0 f b).1 = -1) : ∃ σ1, f_X4_carryOut σ = some (.inl (3, σ1)) ∧ PI σ1 f m R hs sn n T := by
  obtain ⟨G, x1, x2⟩ := p_err h
  obtain ⟨F', y1, y2, -⟩ := p_try b x2 q
  rw [if_pos q] at x1
  refine ⟨F', ?_, y2⟩
  unfold f_X4_carryOut
  rw [x1, b2_some, if_pos rfl, y1, b2_some, if_neg p]
theorem p_car (b : Nat → Int32) (h : PI σ f m R hs sn n T) (q : (s_all T n 40 0).2.1 = true) (p : (s_run (s_all T n 40 0).2.2 0 f b).1 = -1) : ∃ σ1, f_X4_carryOut σ = some (.inr (nI (s_all T n 40 0).2.2.length, σ1)) ∧ PI σ1 (s_run (s_all T n 40 0).2.2 0 f b).2.1 (kp m) (kR m R f) hs sn n T := by
  obtain ⟨G, x1, x2⟩ := p_err h
  obtain ⟨F', y1, y2, y4⟩ := p_try b x2 q
  rw [if_pos q] at x1
  obtain ⟨y5, y6⟩ := y4 p
  obtain ⟨hc, ok, ht⟩ := id y2
  have okP : OKf (s_run (s_all T n 40 0).2.2 0 f b).2.1 := W_run _ _ _ _ (s_all_vf (fun i hi => (ht.2.2 i hi).2) 40 0) ok.1
  obtain ⟨P, hP⟩ : ∃ P, P = (s_run (s_all T n 40 0).2.2 0 f b).2.1 := ⟨_, rfl⟩
  rw [← hP] at okP y6 ⊢
  obtain ⟨σk, k1, k2, k3⟩ := hc.keep ok
  have ok2 := ok.keep hc.2.1
  obtain ⟨U, u1, u2', u3⟩ := c_copy (c := 1) (d := 28) (by omega) (y6.at (fun a z1 z2 => k3 a (by omega)) okP.b.1 okP.b.2) okP.1
  have Uo : ∀ a, 191 ≤ a → U a = F' a := fun a ha => by rw [u3 a (by omega), k3 a (by omega)]
  refine ⟨U, ?_, k2.op ok2 u2' (u3 0 (by omega)) (fun a h1 h2 => u3 a (by omega)), ⟨okP, ok2.2⟩, ht.at (by rw [Uo 191 (by omega)]) (Uo 192 (by omega))⟩
  unfold f_X4_carryOut
  rw [x1, b2_some, if_pos rfl, y1, b2_some, if_pos p, k1, b1_some, u1, b1_some, Uo 191 (by omega), y5]
end PIY

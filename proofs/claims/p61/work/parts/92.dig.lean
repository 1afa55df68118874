/-! a flat row out of one number: 32 bits a place; a write is one exclusive or; the last 64 bits count the writes, so that two rows are told apart by them -/
def dg (N i : Nat) : Nat := Nat.mod (Nat.shiftRight N (Nat.mul 32 i)) 4294967296
def DI (N : Nat) : Nat → Int32 := fun i => ⟨⟨BitVec.ofNat 32 (dg N i)⟩⟩
def di (N i : Nat) (v : Int32) : Nat := Nat.xor N (Nat.shiftLeft (Nat.xor (dg N i) v.toBitVec.toNat) (Nat.mul 32 i))
theorem dg_bit {N i k : Nat} : (dg N i).testBit k = (decide (k < 32) && N.testBit (32 * i + k)) := by
  show ((N >>> (32 * i)) % 2 ^ 32).testBit k = _
  rw [Nat.testBit_mod_two_pow, Nat.testBit_shiftRight]
theorem dg_lt {N i : Nat} : dg N i < 2 ^ 32 := Nat.mod_lt _ (by decide)
theorem dw_bit {N i k : Nat} {v : Int32} : (di N i v).testBit k = (N.testBit k ^^ (decide (32 * i ≤ k) && ((dg N i).testBit (k - 32 * i) ^^ v.toBitVec.toNat.testBit (k - 32 * i)))) := by
  show (N ^^^ ((dg N i ^^^ v.toBitVec.toNat) <<< (32 * i))).testBit k = _
  rw [Nat.testBit_xor, Nat.testBit_shiftLeft, Nat.testBit_xor]
theorem dg_dw {N i : Nat} {v : Int32} : dg (di N i v) i = v.toBitVec.toNat := by
  apply Nat.eq_of_testBit_eq
  intro k
  rw [dg_bit, dw_bit, dg_bit, Nat.add_sub_cancel_left]
  by_cases h : k < 32
  · simp [h]
  · have : v.toBitVec.toNat.testBit k = false := Nat.testBit_lt_two_pow (Nat.lt_of_lt_of_le v.toBitVec.isLt (Nat.pow_le_pow_right (by decide) (by omega)))
    simp [h, this]
theorem dg_dwo {N i j : Nat} {v : Int32} (h : j ≠ i) : dg (di N i v) j = dg N j := by
  apply Nat.eq_of_testBit_eq
  intro k
  rw [dg_bit, dw_bit, dg_bit (i := j)]
  by_cases hk : k < 32
  · by_cases hj : 32 * i ≤ 32 * j + k
    · have h1 : (dg N i).testBit (32 * j + k - 32 * i) = false := Nat.testBit_lt_two_pow (Nat.lt_of_lt_of_le dg_lt (Nat.pow_le_pow_right (by decide) (by omega)))
      have h2 : v.toBitVec.toNat.testBit (32 * j + k - 32 * i) = false := Nat.testBit_lt_two_pow (Nat.lt_of_lt_of_le v.toBitVec.isLt (Nat.pow_le_pow_right (by decide) (by omega)))
      rw [h1, h2]
      simp
    · simp [hj]
  · simp [hk]
theorem DI_upd {N i : Nat} {v : Int32} : upd (DI N) i v = DI (di N i v) := by
  funext j
  by_cases h : j = i
  · subst h
    rw [upd_s]
    show v = ⟨⟨BitVec.ofNat 32 (dg (di N j v) j)⟩⟩
    rw [dg_dw]
    apply Int32.toBitVec_inj.mp
    show v.toBitVec = BitVec.ofNat 32 v.toBitVec.toNat
    simp
  · rw [upd_n h]
    show (⟨⟨BitVec.ofNat 32 (dg N j)⟩⟩ : Int32) = ⟨⟨BitVec.ofNat 32 (dg (di N i v) j)⟩⟩
    rw [dg_dwo h]
def DD (N : Nat) : Nat → Int32 := DI (Nat.shiftRight N 64)
def dw (N i : Nat) (v : Int32) : Nat := Nat.add (Nat.shiftLeft (di (Nat.shiftRight N 64) i v) 64) (Nat.mod (Nat.add N 1) 18446744073709551616)
theorem DD_upd {N i : Nat} {v : Int32} : upd (DD N) i v = DD (dw N i v) := by
  unfold DD
  rw [DI_upd]
  have e : Nat.shiftRight (dw N i v) 64 = di (Nat.shiftRight N 64) i v := by
    show ((di (Nat.shiftRight N 64) i v) <<< 64 + (N + 1) % 2 ^ 64) >>> 64 = _
    rw [Nat.shiftRight_eq_div_pow, Nat.shiftLeft_eq, Nat.add_comm, Nat.add_mul_div_right _ _ (Nat.two_pow_pos 64), Nat.div_eq_of_lt (Nat.mod_lt _ (Nat.two_pow_pos 64)), Nat.zero_add]
  rw [e]
/-- a number made out before it is handed on -/
noncomputable def frc {α : Type} (n : Nat) (k : Nat → α) : α := Nat.rec (motive := fun _ => α) (k 0) (fun m _ => k (Nat.succ m)) n
theorem frc_e {α : Type} {n : Nat} {k : Nat → α} : frc n k = k n := by cases n <;> rfl
def e_home (N k : Nat) : Nat := dw (dw N (185 + 8 * k + 4) (-1)) (185 + 8 * k + 5) 1
theorem D_home {N k : Nat} : s_home (DD N) k = DD (e_home N k) := by
  unfold s_home e_home
  rw [DD_upd, DD_upd]
def e_feels (N k : Nat) (v : Int32) : Nat := dw N (185 + 8 * k + 1) (s_mood (DD N (185 + 8 * k + 1)) v)
theorem D_feels {N k : Nat} {v : Int32} : s_feels (DD N) k v = DD (e_feels N k v) := by
  unfold s_feels e_feels
  rw [DD_upd]
noncomputable def e_give (N k s l j : Nat) (v : Int32) : Nat :=
  frc (dw N (24 + 23 * s + (7 + 4 * l + j)) (DD N (24 + 23 * s + (7 + 4 * l + j)) - 1)) fun g =>
  frc (dw g (185 + 8 * k + 7) (DD g (185 + 8 * k + 7) + 1)) fun h =>
  frc (dw h (10 + l) (DD h (10 + l) + 1)) fun q => e_feels q k v
theorem D_give {N k s l j : Nat} {v : Int32} : s_give (DD N) k s l j v = DD (e_give N k s l j v) := by
  unfold s_give e_give
  simp only [frc_e, DD_upd, D_feels]
noncomputable def e_wins (N k s l : Nat) : Nat := e_give N k s l (s_col (DD N) s l (s_cq (DD N) k)) (if DD N (24 + 23 * s + (7 + 4 * l + s_cq (DD N) k)) ≤ 0 then 20 else 30)
theorem D_wins {N k s l : Nat} : s_wins (DD N) k s l = DD (e_wins N k s l) := by
  unfold s_wins e_wins
  rw [D_give]
noncomputable def e_pay (N k s : Nat) : Nat :=
  frc (dw N (185 + 8 * k + 0) (DD N (185 + 8 * k + 0) - DD N (24 + 23 * s + 2))) fun a =>
  frc (dw a (24 + 23 * s + 4) (DD a (24 + 23 * s + 4) + DD N (24 + 23 * s + 2))) fun b =>
  frc (dw b (24 + 23 * s + 5) (DD b (24 + 23 * s + 5) + 1)) fun c =>
  frc (dw c (185 + 8 * k + 6) (DD c (185 + 8 * k + 6) + 1)) fun d =>
  frc (dw d 4 (DD d 4 + DD N (24 + 23 * s + 2))) fun e => dw e 5 (DD e 5 + 1)
theorem D_pay {N k s : Nat} : s_pay (DD N) k s = DD (e_pay N k s) := by
  unfold s_pay e_pay
  simp only [frc_e, DD_upd]
noncomputable def e_playsAt (N k s : Nat) : Nat :=
  frc (e_pay N k s) fun g =>
  if DD g (24 + 23 * s + 1) = 4 then e_feels g k 15
  else if DD g (24 + 23 * s + 5) - DD g (24 + 23 * s + 5) / evr (DD g (24 + 23 * s + 1)) * evr (DD g (24 + 23 * s + 1)) = 0 then (match s_best (DD g) s with
    | none => e_feels g k (-8)
    | some l => e_wins g k s l)
  else e_feels g k (-8)
theorem D_playsAt {N k s : Nat} : s_playsAt (DD N) k s = DD (e_playsAt N k s) := by
  unfold s_playsAt e_playsAt
  simp only [frc_e, D_pay]
  split
  · rw [D_feels]
  · split
    · cases s_best (DD (e_pay N k s)) s with
      | none => exact D_feels
      | some l => exact D_wins
    · rw [D_feels]
noncomputable def e_moves (N k : Nat) : Nat :=
  frc (dw N (185 + 8 * k + 6) 0) fun g =>
  if DD g (185 + 8 * k + 5) = 0 then
    (if DD N (185 + 8 * k + 4) = 11 then dw (dw g (185 + 8 * k + 5) 1) (185 + 8 * k + 4) (DD N (185 + 8 * k + 4) - 1) else dw (dw g (185 + 8 * k + 5) 0) (185 + 8 * k + 4) (DD N (185 + 8 * k + 4) + 1))
  else if DD N (185 + 8 * k + 4) = 0 then e_home g k else dw g (185 + 8 * k + 4) (DD N (185 + 8 * k + 4) - 1)
theorem D_moves {N k : Nat} : s_moves (DD N) k = DD (e_moves N k) := by
  unfold s_moves e_moves
  simp only [frc_e, DD_upd, D_home]
  repeat' split
  all_goals rfl
noncomputable def e_actS (N : Nat) (r : Int32) (k : Nat) : Nat := match s_openOn (DD N) (DD N (185 + 8 * k + 4)) with
  | none => e_feels N k (-(r / 2))
  | some s => if DD N (24 + 23 * s + 3) = 0 then e_feels N k (-(r / 2)) else N
theorem D_actS {N k : Nat} {r : Int32} : s_actS (DD N) r k = DD (e_actS N r k) := by
  unfold s_actS e_actS
  cases s_openOn (DD N) (DD N (185 + 8 * k + 4)) with
  | none => exact D_feels
  | some s =>
    dsimp only
    split
    · exact D_feels
    · rfl
/-- a turn: the row and the busy row -/
noncomputable def e_act {α : Type} (N M : Nat) (r : Int32) (k : Nat) (K : Nat → Nat → α) : α :=
  frc (e_actS N r k) fun g =>
  if DD g (185 + 8 * k + 1) = 0 then frc (e_home g k) fun h => K h M
  else match s_openOn (DD N) (DD N (185 + 8 * k + 4)) with
    | none => frc (e_moves g k) fun h => K h M
    | some s => if s_wants (DD g) k s = 0 then frc (e_moves g k) fun h => K h M else if DD M s = 0 then frc (e_playsAt g k s) fun h => frc (dw M s 1) fun q => K h q else frc (e_moves g k) fun h => K h M
theorem D_act {α : Type} {N M k : Nat} {r : Int32} {K : Nat → Nat → α} : ∃ g b, e_act N M r k K = K g b ∧ s_act (DD N) (DD M) r k = DD g ∧ s_actB (DD N) (DD M) r k = DD b := by
  unfold e_act s_act s_actB s_actP
  simp only [frc_e, D_actS]
  cases s_openOn (DD N) (DD N (185 + 8 * k + 4)) with
  | none =>
    dsimp only
    by_cases h0 : DD (e_actS N r k) (185 + 8 * k + 1) = 0
    · rw [if_pos h0, if_pos h0, D_home]
      exact ⟨_, _, rfl, rfl, rfl⟩
    · rw [if_neg h0, if_neg h0, D_moves]
      exact ⟨_, _, rfl, rfl, rfl⟩
  | some s =>
    dsimp only
    by_cases h0 : DD (e_actS N r k) (185 + 8 * k + 1) = 0
    · rw [if_pos h0, if_pos h0, if_pos h0, D_home]
      exact ⟨_, _, rfl, rfl, rfl⟩
    · rw [if_neg h0, if_neg h0, if_neg h0]
      by_cases h1 : s_wants (DD (e_actS N r k)) k s = 0
      · rw [if_pos h1, if_pos h1]
        dsimp only
        rw [D_moves]
        exact ⟨_, _, rfl, rfl, rfl⟩
      · rw [if_neg h1, if_neg h1]
        by_cases h2 : DD M s = 0
        · rw [if_pos h2, if_pos h2]
          dsimp only
          rw [D_playsAt, DD_upd]
          exact ⟨_, _, rfl, rfl, rfl⟩
        · rw [if_neg h2, if_neg h2]
          dsimp only
          rw [D_moves]
          exact ⟨_, _, rfl, rfl, rfl⟩
noncomputable def e_turns {α : Type} (r : Int32) (K : Nat → Nat → α) : Nat → Nat → Nat → Nat → α
  | 0, _, N, M => K N M
  | d + 1, k, N, M => if DD N (185 + 8 * k + 4) = -1 then e_turns r K d (k + 1) N M else e_act N M r k (e_turns r K d (k + 1))
theorem D_turns {α : Type} {r : Int32} {K : Nat → Nat → α} : ∀ d k N M, ∃ g b, e_turns r K d k N M = K g b ∧ s_turns r d k (DD N) (DD M) = (DD g, DD b) := by
  intro d
  induction d with
  | zero => intro k N M; exact ⟨N, M, rfl, rfl⟩
  | succ d ih =>
    intro k N M
    rw [e_turns, s_turns]
    by_cases h : DD N (185 + 8 * k + 4) = -1
    · rw [if_pos h, if_pos h]
      exact ih (k + 1) N M
    · rw [if_neg h, if_neg h]
      obtain ⟨g, b, h1, h2, h3⟩ := D_act (N := N) (M := M) (r := r) (k := k) (K := e_turns r K d (k + 1))
      rw [h1, h2, h3]
      exact ih (k + 1) g b
noncomputable def e_homes : Nat → Nat → Nat → Nat
  | 0, _, N => N
  | d + 1, k, N => frc (e_home N k) fun h => e_homes d (k + 1) h
theorem D_homes : ∀ d k N, s_homes d k (DD N) = DD (e_homes d k N) := by
  intro d
  induction d with
  | zero => intro k N; rfl
  | succ d ih =>
    intro k N
    rw [s_homes, e_homes, frc_e, D_home, ih]
noncomputable def e_rent1 (N s : Nat) : Nat :=
  if DD N (24 + 23 * s + 6) = 1 then
    (if s_rt (DD N) s ≤ DD N (24 + 23 * s + 4) then dw (dw (dw N (24 + 23 * s + 4) (DD N (24 + 23 * s + 4) - s_rt (DD N) s)) (24 + 23 * s + 6) 1) 1 (DD N 1 + s_rt (DD N) s)
    else dw (dw (dw N (24 + 23 * s + 4) (DD N (24 + 23 * s + 4) - DD N (24 + 23 * s + 4))) (24 + 23 * s + 6) 0) 1 (DD N 1 + DD N (24 + 23 * s + 4)))
  else N
theorem D_rent1 {N s : Nat} : s_rent1 (DD N) s = DD (e_rent1 N s) := by
  unfold s_rent1 e_rent1
  repeat' split
  all_goals simp only [DD_upd]
noncomputable def e_rents : Nat → Nat → Nat → Nat
  | 0, _, N => N
  | d + 1, s, N => frc (e_rent1 N s) fun h => e_rents d (s + 1) h
theorem D_rents : ∀ d s N, s_rents d s (DD N) = DD (e_rents d s N) := by
  intro d
  induction d with
  | zero => intro s N; rfl
  | succ d ih =>
    intro s N
    rw [s_rents, e_rents, frc_e, D_rent1, ih]
noncomputable def e_ends (N : Nat) : Nat :=
  frc (e_homes (nC (DD N)) 0 N) fun h => frc (e_rents (nS (DD N)) 0 h) fun g => dw (dw g 6 (DD g 6 + 1)) 7 0
theorem D_ends {N : Nat} : s_ends (DD N) = DD (e_ends N) := by
  unfold s_ends e_ends
  simp only [frc_e, D_homes, D_rents, DD_upd]
theorem s_new_u {f : Nat → Int32} {k : Nat} {p kd cl : Int32} : s_new f k p kd cl = upd (upd (upd (upd (upd (upd (upd (upd f (185 + 8 * k + 0) p) (185 + 8 * k + 1) 60) (185 + 8 * k + 2) kd) (185 + 8 * k + 3) cl) (185 + 8 * k + 4) 0) (185 + 8 * k + 5) 0) (185 + 8 * k + 6) 0) (185 + 8 * k + 7) 0 := by
  funext i
  simp only [s_new, upd_app]
  grind
def e_comes (N : Nat) (p kd cl : Int32) : Nat :=
  dw (dw (dw (dw (dw (dw (dw (dw (dw (dw N (185 + 8 * nC (DD N) + 0) p) (185 + 8 * nC (DD N) + 1) 60) (185 + 8 * nC (DD N) + 2) kd) (185 + 8 * nC (DD N) + 3) cl) (185 + 8 * nC (DD N) + 4) 0) (185 + 8 * nC (DD N) + 5) 0) (185 + 8 * nC (DD N) + 6) 0) (185 + 8 * nC (DD N) + 7) 0) 9 (DD N 9 + 1)) 3 (DD N 3 + p)
theorem D_comes {N : Nat} {p kd cl : Int32} : s_comes (DD N) p kd cl = DD (e_comes N p kd cl) := by
  unfold s_comes e_comes
  rw [s_new_u]
  simp only [DD_upd]
def e_next (N : Nat) : Nat := if s_due (DD N) = 0 then N else e_comes N (5 + ((7 * DD N 9) - (7 * DD N 9) / 25 * 25)) (DD N 9 - DD N 9 / 5 * 5) (DD N 9 - DD N 9 / 4 * 4)
theorem D_next {N : Nat} : s_next (DD N) = DD (e_next N) := by
  unfold s_next e_next
  split
  · rfl
  · rw [D_comes]
def e_z7 (M : Nat) : Nat := dw (dw (dw (dw (dw (dw (dw M 0 0) 1 0) 2 0) 3 0) 4 0) 5 0) 6 0
theorem D_z7 {M : Nat} : s_z7 (DD M) = DD (e_z7 M) := by
  unfold e_z7
  simp only [← DD_upd]
  funext i
  simp only [s_z7, upd_app]
  grind
/-- a round: the row and the busy row -/
noncomputable def e_round {α : Type} (N M : Nat) (K : Nat → Nat → α) : α :=
  frc (e_next N) fun A => frc (e_z7 M) fun Z =>
  e_turns (s_rain (DD N) ((DD N 7).toNatClampNeg / 4)) (fun p q => frc (dw p 7 (DD p 7 + 1)) fun g => if DD g 7 = 40 then frc (e_ends g) fun h => K h q else K g q) (nC (DD A)) 0 A Z
theorem D_round {α : Type} {N M : Nat} {K : Nat → Nat → α} : ∃ g b, e_round N M K = K g b ∧ s_round (DD N) (DD M) = (DD g, DD b) := by
  unfold e_round s_round
  simp only [frc_e, D_next, D_z7]
  obtain ⟨g, b, h1, h2⟩ := D_turns (r := s_rain (DD N) ((DD N 7).toNatClampNeg / 4)) (K := fun p q => if DD (dw p 7 (DD p 7 + 1)) 7 = 40 then K (e_ends (dw p 7 (DD p 7 + 1))) q else K (dw p 7 (DD p 7 + 1)) q) (nC (DD (e_next N))) 0 (e_next N) (e_z7 M)
  rw [h1, h2]
  dsimp only
  rw [DD_upd, D_ends]
  by_cases h : DD (dw g 7 (DD g 7 + 1)) 7 = 40
  · rw [if_pos h, if_pos h]
    exact ⟨_, _, rfl, rfl⟩
  · rw [if_neg h, if_neg h]
    exact ⟨_, _, rfl, rfl⟩
noncomputable def e_pass {α : Type} (K : Nat → Nat → α) : Nat → Nat → Nat → α
  | 0, N, M => K N M
  | n + 1, N, M => e_round N M (e_pass K n)
theorem D_pass {α : Type} {K : Nat → Nat → α} : ∀ n N M, ∃ g b, e_pass K n N M = K g b ∧ s_pass n (DD N) (DD M) = (DD g, DD b) := by
  intro n
  induction n with
  | zero => intro N M; exact ⟨N, M, rfl, rfl⟩
  | succ n ih =>
    intro N M
    rw [e_pass, s_pass]
    obtain ⟨g, b, h1, h2⟩ := D_round (N := N) (M := M) (K := e_pass K n)
    rw [h1, h2]
    exact ih g b
/-- n rounds from N -/
noncomputable def ep (n N : Nat) : Nat := e_pass (fun g _ => g) n N 0
theorem D_ep {n N : Nat} : (s_pass n (DD N) (DD 0)).1 = DD (ep n N) := by
  obtain ⟨g, b, h1, h2⟩ := D_pass (K := fun g _ => g) n N 0
  rw [h2, show ep n N = g from h1]

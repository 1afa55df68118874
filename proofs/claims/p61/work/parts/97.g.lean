/-! the law's texts -/
noncomputable def k_texts : Nat → Nat → Nat → Nat → Nat → Bool := v_isE (6435122 : Int64) (0 : Int64) 2 (v_isE (25137 : Int64) (0 : Int64) 2 (v_isE (107963421833566 : Int64) (0 : Int64) (-1) (v_isE (1647405104 : Int64) (0 : Int64) 3 (v_isE (6434865 : Int64) (0 : Int64) 2 (v_isE (29238 : Int64) (0 : Int64) 1 (v_isE (490435392560 : Int64) (0 : Int64) 3 (v_isE (8228140510782043185 : Int64) (0 : Int64) 7 (v_isE (112357069107248 : Int64) (0 : Int64) 5 (v_isE (426161825844 : Int64) (0 : Int64) 4 (v_isE (1664167984 : Int64) (0 : Int64) 3 (v_isE (511910424880 : Int64) (0 : Int64) 4 (v_isE (28720 : Int64) (0 : Int64) 1 (v_isE (7353393 : Int64) (0 : Int64) 2 (v_isE (107960046280286 : Int64) (0 : Int64) 5 (v_isE (0 : Int64) (0 : Int64) 0 (v_isE (7352635 : Int64) (0 : Int64) 3 (v_isE (8229547885615264816 : Int64) (0 : Int64) (-1) (v_isE (7147340372026340400 : Int64) (0 : Int64) (-1) (v_isE (6435704 : Int64) (0 : Int64) 2 (v_isE (8590965080204914731 : Int64) (0 : Int64) 8 (v_clear 8 (v_tyA (7075282774277187120 : Int64) 8 (v_tyA (3112884799320111664 : Int64) 8 (v_tyA (3470649390072948786 : Int64) 8 (v_tyA (4284949908478980149 : Int64) 8 (v_tyA (4283539222107793977 : Int64) 8 (v_err (-1) (v_imp 6 (vx_car (vr_stalls 0 (vr_recordedStates 0 (v_clear 40 (v_tyA (7075282774277187120 : Int64) 8 (v_tyA (3112884799320111664 : Int64) 8 (v_tyA (3470649390072948786 : Int64) 8 (v_tyA (4284949908478980149 : Int64) 8 (v_imp (-1) (vr_round 0 (v_car 6 (v_err (-1) (v_clear 32 (vr_bank 420 (vr_rainIn 3 7 (vr_round 5 (vr_children 3 (vr_recordedStates 1 (v_undo 0 (vr_bank 500 (vr_children 0 (v_lp 80 0 (vx_type (v_clear 80 (v_typeN 960 1 (v_err 0 (v_clear 1 (v_end))))))))))))))))))))))))))))))))))))))))))))))))))))))))
theorem k_texts_ok : k_texts 0 0 9223372036854775808000 0 0 = true := by decide +kernel
theorem r_texts : f_L_texts = some 1 := by
  have h := t_start k_texts_ok
  unfold k_texts at h
  unfold f_L_texts
  obtain ⟨τ, e, h⟩ := t_isE h
  refine b2_ok e (in_ok (by decide) ?_)
  obtain ⟨τ, e, h⟩ := t_isE h
  refine b2_ok e (in_ok (by decide) ?_)
  obtain ⟨τ, e, h⟩ := t_isE h
  refine b2_ok e (in_ok (by decide) ?_)
  obtain ⟨τ, e, h⟩ := t_isE h
  refine b2_ok e (in_ok (by decide) ?_)
  obtain ⟨τ, e, h⟩ := t_isE h
  refine b2_ok e (in_ok (by decide) ?_)
  obtain ⟨τ, e, h⟩ := t_isE h
  refine b2_ok e (in_ok (by decide) ?_)
  obtain ⟨τ, e, h⟩ := t_isE h
  refine b2_ok e (in_ok (by decide) ?_)
  obtain ⟨τ, e, h⟩ := t_isE h
  refine b2_ok e (in_ok (by decide) ?_)
  obtain ⟨τ, e, h⟩ := t_isE h
  refine b2_ok e (in_ok (by decide) ?_)
  obtain ⟨τ, e, h⟩ := t_isE h
  refine b2_ok e (in_ok (by decide) ?_)
  obtain ⟨τ, e, h⟩ := t_isE h
  refine b2_ok e (in_ok (by decide) ?_)
  obtain ⟨τ, e, h⟩ := t_isE h
  refine b2_ok e (in_ok (by decide) ?_)
  obtain ⟨τ, e, h⟩ := t_isE h
  refine b2_ok e (in_ok (by decide) ?_)
  obtain ⟨τ, e, h⟩ := t_isE h
  refine b2_ok e (in_ok (by decide) ?_)
  obtain ⟨τ, e, h⟩ := t_isE h
  refine b2_ok e (in_ok (by decide) ?_)
  obtain ⟨τ, e, h⟩ := t_isE h
  refine b2_ok e (in_ok (by decide) ?_)
  obtain ⟨τ, e, h⟩ := t_isE h
  refine b2_ok e (in_ok (by decide) ?_)
  obtain ⟨τ, e, h⟩ := t_isE h
  refine b2_ok e (in_ok (by decide) ?_)
  obtain ⟨τ, e, h⟩ := t_isE h
  refine b2_ok e (in_ok (by decide) ?_)
  obtain ⟨τ, e, h⟩ := t_isE h
  refine b2_ok e (in_ok (by decide) ?_)
  obtain ⟨τ, e, h⟩ := t_isE h
  refine b2_ok e (in_ok (by decide) ?_)
  obtain ⟨τ, e, h⟩ := t_clear h
  refine b2_ok e (ip_ok rfl ?_)
  obtain ⟨τ, e, h⟩ := t_types h
  refine b2_ok e (in_ok (by decide) ?_)
  obtain ⟨τ, e, h⟩ := t_types h
  refine b2_ok e (in_ok (by decide) ?_)
  obtain ⟨τ, e, h⟩ := t_types h
  refine b2_ok e (in_ok (by decide) ?_)
  obtain ⟨τ, e, h⟩ := t_types h
  refine b2_ok e (in_ok (by decide) ?_)
  obtain ⟨τ, e, h⟩ := t_types h
  refine b2_ok e (in_ok (by decide) ?_)
  obtain ⟨τ, e, h⟩ := t_err h
  refine b2_ok e (ip_ok rfl ?_)
  obtain ⟨τ, e, h⟩ := t_imp h
  refine bn2_ok e (ip_ok rfl ?_)
  obtain ⟨τ, e, h⟩ := w_car h
  refine b2_ok e (ip_ok rfl ?_)
  obtain ⟨e, h⟩ := tr_stalls h
  refine b1_ok e (ip_ok rfl ?_)
  obtain ⟨e, h⟩ := tr_recordedStates h
  refine b1_ok e (ip_ok rfl ?_)
  obtain ⟨τ, e, h⟩ := t_clear h
  refine b2_ok e (ip_ok rfl ?_)
  obtain ⟨τ, e, h⟩ := t_types h
  refine b2_ok e (in_ok (by decide) ?_)
  obtain ⟨τ, e, h⟩ := t_types h
  refine b2_ok e (in_ok (by decide) ?_)
  obtain ⟨τ, e, h⟩ := t_types h
  refine b2_ok e (in_ok (by decide) ?_)
  obtain ⟨τ, e, h⟩ := t_types h
  refine b2_ok e (in_ok (by decide) ?_)
  obtain ⟨τ, e, h⟩ := t_imp h
  refine bn2_ok e (ip_ok rfl ?_)
  obtain ⟨e, h⟩ := tr_round h
  refine b1_ok e (ip_ok rfl ?_)
  obtain ⟨τ, e, h⟩ := t_car h
  refine bn2_ok e (ip_ok rfl ?_)
  obtain ⟨τ, e, h⟩ := t_err h
  refine b2_ok e (ip_ok rfl ?_)
  obtain ⟨τ, e, h⟩ := t_clear h
  refine b2_ok e (ip_ok rfl ?_)
  obtain ⟨e, h⟩ := tr_bank h
  refine b1_ok e (ip_ok rfl ?_)
  obtain ⟨e, h⟩ := tr_rainIn h
  refine bn1_ok e (ip_ok rfl ?_)
  obtain ⟨e, h⟩ := tr_round h
  refine b1_ok e (ip_ok rfl ?_)
  obtain ⟨e, h⟩ := tr_children h
  refine b1_ok e (ip_ok rfl ?_)
  obtain ⟨e, h⟩ := tr_recordedStates h
  refine b1_ok e (ip_ok rfl ?_)
  obtain ⟨τ, e, h⟩ := t_undo h
  refine bn2_ok e (ip_ok rfl ?_)
  obtain ⟨e, h⟩ := tr_bank h
  refine b1_ok e (ip_ok rfl ?_)
  obtain ⟨e, h⟩ := tr_children h
  refine b1_ok e (ip_ok rfl ?_)
  obtain ⟨τ, e, h⟩ := t_l532 h
  refine bl_ok e ?_
  obtain ⟨e, h⟩ := w_type h
  refine b2_ok e (ip_ok rfl ?_)
  obtain ⟨τ, e, h⟩ := t_clear h
  refine b2_ok e (ip_ok rfl ?_)
  obtain ⟨τ, e, h⟩ := t_typeN h
  refine bn2_ok e (ip_ok rfl ?_)
  obtain ⟨τ, e, h⟩ := t_err h
  refine b2_ok e (ip_ok rfl ?_)
  obtain ⟨τ, e, h⟩ := t_clear h
  refine b2_ok e (ip_ok rfl ?_)
  rfl

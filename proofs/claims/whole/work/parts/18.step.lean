def gl : List (Sg → Int32 → Int32 → Int32 → Int32 → Option Sg) := [g_0, g_1, g_2, g_3, g_4, g_5, g_6, g_7, g_8, g_9, g_10, g_11, g_12, g_13, g_14, g_15, g_16, g_17, g_18, g_19, g_20, g_21, g_22, g_23, g_24, g_25, g_26, g_27, g_28, g_29, g_30, g_31, g_32, g_33, g_34, g_35, g_36, g_37, g_38, g_39, g_40, g_41, g_42, g_43, g_44, g_45, g_46, g_47, g_48, g_49, g_50, g_51, g_52, g_53, g_54, g_55, g_56, g_57]
/-- one call of the script: what the law's step does to the state, where the answers agree -/
def gstep (σ : Sg) (a0 a1 a2 a3 a4 : Int32) : Option Sg := match gl[(a0 &&& 63).toNatClampNeg]? with
  | some g => g σ a1 a2 a3 a4
  | none => some σ

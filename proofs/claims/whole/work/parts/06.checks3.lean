set_option maxRecDepth 100000 in
theorem zlw_all : zc212.all (fun q => q.2.all (zchk 212)) = true := List.all_eq_true.mpr (List.forall_mem_cons.mpr ⟨zlw_0, List.forall_mem_cons.mpr ⟨zlw_1, List.forall_mem_cons.mpr ⟨zlw_2, List.forall_mem_cons.mpr ⟨zlw_3, List.forall_mem_cons.mpr ⟨zlw_4, List.forall_mem_cons.mpr ⟨zlw_5, List.forall_mem_cons.mpr ⟨zlw_6, List.forall_mem_cons.mpr ⟨zlw_7, List.forall_mem_cons.mpr ⟨zlw_8, List.forall_mem_cons.mpr ⟨zlw_9, List.forall_mem_cons.mpr ⟨zlw_10, List.forall_mem_cons.mpr ⟨zlw_11, List.forall_mem_cons.mpr ⟨zlw_12, List.forall_mem_cons.mpr ⟨zlw_13, List.forall_mem_cons.mpr ⟨zlw_14, List.forall_mem_cons.mpr ⟨zlw_15, List.forall_mem_cons.mpr ⟨zlw_16, List.forall_mem_cons.mpr ⟨zlw_17, List.forall_mem_cons.mpr ⟨zlw_18, List.forall_mem_cons.mpr ⟨zlw_19, List.forall_mem_cons.mpr ⟨zlw_20, List.forall_mem_cons.mpr ⟨zlw_21, List.forall_mem_cons.mpr ⟨zlw_22, List.forall_mem_cons.mpr ⟨zlw_23, List.forall_mem_cons.mpr ⟨zlw_24, List.forall_mem_cons.mpr ⟨zlw_25, List.forall_mem_cons.mpr ⟨zlw_26, List.forall_mem_cons.mpr ⟨zlw_27, List.forall_mem_cons.mpr ⟨zlw_28, List.forall_mem_cons.mpr ⟨zlw_29, List.forall_mem_cons.mpr ⟨zlw_30, List.forall_mem_cons.mpr ⟨zlw_31, List.forall_mem_cons.mpr ⟨zlw_32, List.forall_mem_cons.mpr ⟨zlw_33, List.forall_mem_cons.mpr ⟨zlw_34, List.forall_mem_cons.mpr ⟨zlw_35, List.forall_mem_cons.mpr ⟨zlw_36, List.forall_mem_cons.mpr ⟨zlw_37, List.forall_mem_cons.mpr ⟨zlw_38, List.forall_mem_cons.mpr ⟨zlw_39, List.forall_mem_cons.mpr ⟨zlw_40, List.forall_mem_cons.mpr ⟨zlw_41, List.forall_mem_cons.mpr ⟨zlw_42, List.forall_mem_cons.mpr ⟨zlw_43, List.forall_mem_cons.mpr ⟨zlw_44, List.forall_mem_cons.mpr ⟨zlw_45, List.forall_mem_cons.mpr ⟨zlw_46, List.forall_mem_cons.mpr ⟨zlw_47, List.forall_mem_cons.mpr ⟨zlw_48, List.forall_mem_cons.mpr ⟨zlw_49, List.forall_mem_cons.mpr ⟨zlw_50, List.forall_mem_cons.mpr ⟨zlw_51, List.forall_mem_cons.mpr ⟨zlw_52, List.forall_mem_cons.mpr ⟨zlw_53, List.forall_mem_cons.mpr ⟨zlw_54, List.forall_mem_cons.mpr ⟨zlw_55, List.forall_mem_cons.mpr ⟨zlw_56, List.forall_mem_cons.mpr ⟨zlw_57, List.forall_mem_cons.mpr ⟨zlw_58, List.forall_mem_cons.mpr ⟨zlw_59, List.forall_mem_cons.mpr ⟨zlw_60, List.forall_mem_cons.mpr ⟨zlw_61, List.forall_mem_cons.mpr ⟨zlw_62, List.forall_mem_cons.mpr ⟨zlw_63, List.forall_mem_cons.mpr ⟨zlw_64, List.forall_mem_cons.mpr ⟨zlw_65, List.forall_mem_cons.mpr ⟨zlw_66, List.forall_mem_cons.mpr ⟨zlw_67, List.forall_mem_cons.mpr ⟨zlw_68, List.forall_mem_cons.mpr ⟨zlw_69, List.forall_mem_cons.mpr ⟨zlw_70, List.forall_mem_cons.mpr ⟨zlw_71, List.forall_mem_cons.mpr ⟨zlw_72, List.forall_mem_cons.mpr ⟨zlw_73, List.forall_mem_cons.mpr ⟨zlw_74, List.forall_mem_cons.mpr ⟨zlw_75, List.forall_mem_cons.mpr ⟨zlw_76, List.forall_mem_cons.mpr ⟨zlw_77, List.forall_mem_cons.mpr ⟨zlw_78, List.forall_mem_cons.mpr ⟨zlw_79, fun _ h => absurd h List.not_mem_nil⟩⟩⟩⟩⟩⟩⟩⟩⟩⟩⟩⟩⟩⟩⟩⟩⟩⟩⟩⟩⟩⟩⟩⟩⟩⟩⟩⟩⟩⟩⟩⟩⟩⟩⟩⟩⟩⟩⟩⟩⟩⟩⟩⟩⟩⟩⟩⟩⟩⟩⟩⟩⟩⟩⟩⟩⟩⟩⟩⟩⟩⟩⟩⟩⟩⟩⟩⟩⟩⟩⟩⟩⟩⟩⟩⟩⟩⟩⟩⟩)
theorem zck_law : zmchk 212 = true := by
  have h : decide ((zmn 212).cls = zown (zmo 212)) = true := by decide +kernel
  have h2 : zcode 212 = zc212 := rfl
  rw [zmchk, h2, zlw_all, h]; rfl
theorem zmchk_ok (y : Nat) (h : y < 213) : zmchk y = true := by
  by_cases h0 : y < 12
  · exact List.all_eq_true.mp zck_0 y (List.mem_range'_1.mpr ⟨by omega, by omega⟩)
  by_cases h12 : y < 24
  · exact List.all_eq_true.mp zck_12 y (List.mem_range'_1.mpr ⟨by omega, by omega⟩)
  by_cases h24 : y < 36
  · exact List.all_eq_true.mp zck_24 y (List.mem_range'_1.mpr ⟨by omega, by omega⟩)
  by_cases h36 : y < 48
  · exact List.all_eq_true.mp zck_36 y (List.mem_range'_1.mpr ⟨by omega, by omega⟩)
  by_cases h48 : y < 60
  · exact List.all_eq_true.mp zck_48 y (List.mem_range'_1.mpr ⟨by omega, by omega⟩)
  by_cases h60 : y < 72
  · exact List.all_eq_true.mp zck_60 y (List.mem_range'_1.mpr ⟨by omega, by omega⟩)
  by_cases h72 : y < 84
  · exact List.all_eq_true.mp zck_72 y (List.mem_range'_1.mpr ⟨by omega, by omega⟩)
  by_cases h84 : y < 96
  · exact List.all_eq_true.mp zck_84 y (List.mem_range'_1.mpr ⟨by omega, by omega⟩)
  by_cases h96 : y < 108
  · exact List.all_eq_true.mp zck_96 y (List.mem_range'_1.mpr ⟨by omega, by omega⟩)
  by_cases h108 : y < 120
  · exact List.all_eq_true.mp zck_108 y (List.mem_range'_1.mpr ⟨by omega, by omega⟩)
  by_cases h120 : y < 132
  · exact List.all_eq_true.mp zck_120 y (List.mem_range'_1.mpr ⟨by omega, by omega⟩)
  by_cases h132 : y < 144
  · exact List.all_eq_true.mp zck_132 y (List.mem_range'_1.mpr ⟨by omega, by omega⟩)
  by_cases h144 : y < 156
  · exact List.all_eq_true.mp zck_144 y (List.mem_range'_1.mpr ⟨by omega, by omega⟩)
  by_cases h156 : y < 168
  · exact List.all_eq_true.mp zck_156 y (List.mem_range'_1.mpr ⟨by omega, by omega⟩)
  by_cases h168 : y < 180
  · exact List.all_eq_true.mp zck_168 y (List.mem_range'_1.mpr ⟨by omega, by omega⟩)
  by_cases h180 : y < 192
  · exact List.all_eq_true.mp zck_180 y (List.mem_range'_1.mpr ⟨by omega, by omega⟩)
  by_cases h192 : y < 204
  · exact List.all_eq_true.mp zck_192 y (List.mem_range'_1.mpr ⟨by omega, by omega⟩)
  by_cases h204 : y < 212
  · exact List.all_eq_true.mp zck_204 y (List.mem_range'_1.mpr ⟨by omega, by omega⟩)
  have : y = 212 := by omega
  rw [this]; exact zck_law
theorem zmcode_ok (y : Nat) (h : y < 212) : zmcode y = true := by
  by_cases h0 : y < 12
  · exact List.all_eq_true.mp zco_0 y (List.mem_range'_1.mpr ⟨by omega, by omega⟩)
  by_cases h12 : y < 24
  · exact List.all_eq_true.mp zco_12 y (List.mem_range'_1.mpr ⟨by omega, by omega⟩)
  by_cases h24 : y < 36
  · exact List.all_eq_true.mp zco_24 y (List.mem_range'_1.mpr ⟨by omega, by omega⟩)
  by_cases h36 : y < 48
  · exact List.all_eq_true.mp zco_36 y (List.mem_range'_1.mpr ⟨by omega, by omega⟩)
  by_cases h48 : y < 60
  · exact List.all_eq_true.mp zco_48 y (List.mem_range'_1.mpr ⟨by omega, by omega⟩)
  by_cases h60 : y < 72
  · exact List.all_eq_true.mp zco_60 y (List.mem_range'_1.mpr ⟨by omega, by omega⟩)
  by_cases h72 : y < 84
  · exact List.all_eq_true.mp zco_72 y (List.mem_range'_1.mpr ⟨by omega, by omega⟩)
  by_cases h84 : y < 96
  · exact List.all_eq_true.mp zco_84 y (List.mem_range'_1.mpr ⟨by omega, by omega⟩)
  by_cases h96 : y < 108
  · exact List.all_eq_true.mp zco_96 y (List.mem_range'_1.mpr ⟨by omega, by omega⟩)
  by_cases h108 : y < 120
  · exact List.all_eq_true.mp zco_108 y (List.mem_range'_1.mpr ⟨by omega, by omega⟩)
  by_cases h120 : y < 132
  · exact List.all_eq_true.mp zco_120 y (List.mem_range'_1.mpr ⟨by omega, by omega⟩)
  by_cases h132 : y < 144
  · exact List.all_eq_true.mp zco_132 y (List.mem_range'_1.mpr ⟨by omega, by omega⟩)
  by_cases h144 : y < 156
  · exact List.all_eq_true.mp zco_144 y (List.mem_range'_1.mpr ⟨by omega, by omega⟩)
  by_cases h156 : y < 168
  · exact List.all_eq_true.mp zco_156 y (List.mem_range'_1.mpr ⟨by omega, by omega⟩)
  by_cases h168 : y < 180
  · exact List.all_eq_true.mp zco_168 y (List.mem_range'_1.mpr ⟨by omega, by omega⟩)
  by_cases h180 : y < 192
  · exact List.all_eq_true.mp zco_180 y (List.mem_range'_1.mpr ⟨by omega, by omega⟩)
  by_cases h192 : y < 204
  · exact List.all_eq_true.mp zco_192 y (List.mem_range'_1.mpr ⟨by omega, by omega⟩)
  by_cases h204 : y < 212
  · exact List.all_eq_true.mp zco_204 y (List.mem_range'_1.mpr ⟨by omega, by omega⟩)
  omega

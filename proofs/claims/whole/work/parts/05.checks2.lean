set_option maxRecDepth 100000 in
theorem zlw_0 : zc212_0.all (zchk 212) = true := by decide +kernel
set_option maxRecDepth 100000 in
theorem zlw_1 : zc212_1.all (zchk 212) = true := by decide +kernel
set_option maxRecDepth 100000 in
theorem zlw_2 : zc212_2.all (zchk 212) = true := by decide +kernel
set_option maxRecDepth 100000 in
theorem zlw_3 : zc212_3.all (zchk 212) = true := by decide +kernel
set_option maxRecDepth 100000 in
theorem zlw_4 : zc212_4.all (zchk 212) = true := by decide +kernel
set_option maxRecDepth 100000 in
theorem zlw_5 : zc212_5.all (zchk 212) = true := by decide +kernel
set_option maxRecDepth 100000 in
theorem zlw_6 : zc212_6.all (zchk 212) = true := by decide +kernel
set_option maxRecDepth 100000 in
theorem zlw_7 : zc212_7.all (zchk 212) = true := by decide +kernel
set_option maxRecDepth 100000 in
theorem zlw_8 : zc212_8.all (zchk 212) = true := by decide +kernel
set_option maxRecDepth 100000 in
theorem zlw_9 : zc212_9.all (zchk 212) = true := by decide +kernel
set_option maxRecDepth 100000 in
theorem zlw_10 : zc212_10.all (zchk 212) = true := by decide +kernel
set_option maxRecDepth 100000 in
theorem zlw_11 : zc212_11.all (zchk 212) = true := by decide +kernel
set_option maxRecDepth 100000 in
theorem zlw_12 : zc212_12.all (zchk 212) = true := by decide +kernel
set_option maxRecDepth 100000 in
theorem zlw_13 : zc212_13.all (zchk 212) = true := by decide +kernel
set_option maxRecDepth 100000 in
theorem zlw_14 : zc212_14.all (zchk 212) = true := by decide +kernel
set_option maxRecDepth 100000 in
theorem zlw_15 : zc212_15.all (zchk 212) = true := by decide +kernel
set_option maxRecDepth 100000 in
theorem zlw_16 : zc212_16.all (zchk 212) = true := by decide +kernel
set_option maxRecDepth 100000 in
theorem zlw_17 : zc212_17.all (zchk 212) = true := by decide +kernel
set_option maxRecDepth 100000 in
theorem zlw_18 : zc212_18.all (zchk 212) = true := by decide +kernel
set_option maxRecDepth 100000 in
theorem zlw_19 : zc212_19.all (zchk 212) = true := by decide +kernel
set_option maxRecDepth 100000 in
theorem zlw_20 : zc212_20.all (zchk 212) = true := by decide +kernel
set_option maxRecDepth 100000 in
theorem zlw_21 : zc212_21.all (zchk 212) = true := by decide +kernel
set_option maxRecDepth 100000 in
theorem zlw_22 : zc212_22.all (zchk 212) = true := by decide +kernel
set_option maxRecDepth 100000 in
theorem zlw_23 : zc212_23.all (zchk 212) = true := by decide +kernel
set_option maxRecDepth 100000 in
theorem zlw_24 : zc212_24.all (zchk 212) = true := by decide +kernel
set_option maxRecDepth 100000 in
theorem zlw_25 : zc212_25.all (zchk 212) = true := by decide +kernel
set_option maxRecDepth 100000 in
theorem zlw_26 : zc212_26.all (zchk 212) = true := by decide +kernel
set_option maxRecDepth 100000 in
theorem zlw_27 : zc212_27.all (zchk 212) = true := by decide +kernel
set_option maxRecDepth 100000 in
theorem zlw_28 : zc212_28.all (zchk 212) = true := by decide +kernel
set_option maxRecDepth 100000 in
theorem zlw_29 : zc212_29.all (zchk 212) = true := by decide +kernel
set_option maxRecDepth 100000 in
theorem zlw_30 : zc212_30.all (zchk 212) = true := by decide +kernel
set_option maxRecDepth 100000 in
theorem zlw_31 : zc212_31.all (zchk 212) = true := by decide +kernel
set_option maxRecDepth 100000 in
theorem zlw_32 : zc212_32.all (zchk 212) = true := by decide +kernel
set_option maxRecDepth 100000 in
theorem zlw_33 : zc212_33.all (zchk 212) = true := by decide +kernel
set_option maxRecDepth 100000 in
theorem zlw_34 : zc212_34.all (zchk 212) = true := by decide +kernel
set_option maxRecDepth 100000 in
theorem zlw_35 : zc212_35.all (zchk 212) = true := by decide +kernel
set_option maxRecDepth 100000 in
theorem zlw_36 : zc212_36.all (zchk 212) = true := by decide +kernel
set_option maxRecDepth 100000 in
theorem zlw_37 : zc212_37.all (zchk 212) = true := by decide +kernel
set_option maxRecDepth 100000 in
theorem zlw_38 : zc212_38.all (zchk 212) = true := by decide +kernel
set_option maxRecDepth 100000 in
theorem zlw_39 : zc212_39.all (zchk 212) = true := by decide +kernel
set_option maxRecDepth 100000 in
theorem zlw_40 : zc212_40.all (zchk 212) = true := by decide +kernel
set_option maxRecDepth 100000 in
theorem zlw_41 : zc212_41.all (zchk 212) = true := by decide +kernel
set_option maxRecDepth 100000 in
theorem zlw_42 : zc212_42.all (zchk 212) = true := by decide +kernel
set_option maxRecDepth 100000 in
theorem zlw_43 : zc212_43.all (zchk 212) = true := by decide +kernel
set_option maxRecDepth 100000 in
theorem zlw_44 : zc212_44.all (zchk 212) = true := by decide +kernel
set_option maxRecDepth 100000 in
theorem zlw_45 : zc212_45.all (zchk 212) = true := by decide +kernel
set_option maxRecDepth 100000 in
theorem zlw_46 : zc212_46.all (zchk 212) = true := by decide +kernel
set_option maxRecDepth 100000 in
theorem zlw_47 : zc212_47.all (zchk 212) = true := by decide +kernel
set_option maxRecDepth 100000 in
theorem zlw_48 : zc212_48.all (zchk 212) = true := by decide +kernel
set_option maxRecDepth 100000 in
theorem zlw_49 : zc212_49.all (zchk 212) = true := by decide +kernel
set_option maxRecDepth 100000 in
theorem zlw_50 : zc212_50.all (zchk 212) = true := by decide +kernel
set_option maxRecDepth 100000 in
theorem zlw_51 : zc212_51.all (zchk 212) = true := by decide +kernel
set_option maxRecDepth 100000 in
theorem zlw_52 : zc212_52.all (zchk 212) = true := by decide +kernel
set_option maxRecDepth 100000 in
theorem zlw_53 : zc212_53.all (zchk 212) = true := by decide +kernel
set_option maxRecDepth 100000 in
theorem zlw_54 : zc212_54.all (zchk 212) = true := by decide +kernel
set_option maxRecDepth 100000 in
theorem zlw_55 : zc212_55.all (zchk 212) = true := by decide +kernel
set_option maxRecDepth 100000 in
theorem zlw_56 : zc212_56.all (zchk 212) = true := by decide +kernel
set_option maxRecDepth 100000 in
theorem zlw_57 : zc212_57.all (zchk 212) = true := by decide +kernel
set_option maxRecDepth 100000 in
theorem zlw_58 : zc212_58.all (zchk 212) = true := by decide +kernel
set_option maxRecDepth 100000 in
theorem zlw_59 : zc212_59.all (zchk 212) = true := by decide +kernel
set_option maxRecDepth 100000 in
theorem zlw_60 : zc212_60.all (zchk 212) = true := by decide +kernel
set_option maxRecDepth 100000 in
theorem zlw_61 : zc212_61.all (zchk 212) = true := by decide +kernel
set_option maxRecDepth 100000 in
theorem zlw_62 : zc212_62.all (zchk 212) = true := by decide +kernel
set_option maxRecDepth 100000 in
theorem zlw_63 : zc212_63.all (zchk 212) = true := by decide +kernel
set_option maxRecDepth 100000 in
theorem zlw_64 : zc212_64.all (zchk 212) = true := by decide +kernel
set_option maxRecDepth 100000 in
theorem zlw_65 : zc212_65.all (zchk 212) = true := by decide +kernel
set_option maxRecDepth 100000 in
theorem zlw_66 : zc212_66.all (zchk 212) = true := by decide +kernel
set_option maxRecDepth 100000 in
theorem zlw_67 : zc212_67.all (zchk 212) = true := by decide +kernel
set_option maxRecDepth 100000 in
theorem zlw_68 : zc212_68.all (zchk 212) = true := by decide +kernel
set_option maxRecDepth 100000 in
theorem zlw_69 : zc212_69.all (zchk 212) = true := by decide +kernel
set_option maxRecDepth 100000 in
theorem zlw_70 : zc212_70.all (zchk 212) = true := by decide +kernel
set_option maxRecDepth 100000 in
theorem zlw_71 : zc212_71.all (zchk 212) = true := by decide +kernel
set_option maxRecDepth 100000 in
theorem zlw_72 : zc212_72.all (zchk 212) = true := by decide +kernel
set_option maxRecDepth 100000 in
theorem zlw_73 : zc212_73.all (zchk 212) = true := by decide +kernel
set_option maxRecDepth 100000 in
theorem zlw_74 : zc212_74.all (zchk 212) = true := by decide +kernel
set_option maxRecDepth 100000 in
theorem zlw_75 : zc212_75.all (zchk 212) = true := by decide +kernel
set_option maxRecDepth 100000 in
theorem zlw_76 : zc212_76.all (zchk 212) = true := by decide +kernel
set_option maxRecDepth 100000 in
theorem zlw_77 : zc212_77.all (zchk 212) = true := by decide +kernel
set_option maxRecDepth 100000 in
theorem zlw_78 : zc212_78.all (zchk 212) = true := by decide +kernel
set_option maxRecDepth 100000 in
theorem zlw_79 : zc212_79.all (zchk 212) = true := by decide +kernel

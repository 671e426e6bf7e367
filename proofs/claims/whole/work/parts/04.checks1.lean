set_option maxRecDepth 100000 in
theorem zck_0 : (List.range' 0 12).all zmchk = true := by decide +kernel
set_option maxRecDepth 100000 in
theorem zco_0 : (List.range' 0 12).all zmcode = true := by decide +kernel
set_option maxRecDepth 100000 in
theorem zck_12 : (List.range' 12 12).all zmchk = true := by decide +kernel
set_option maxRecDepth 100000 in
theorem zco_12 : (List.range' 12 12).all zmcode = true := by decide +kernel
set_option maxRecDepth 100000 in
theorem zck_24 : (List.range' 24 12).all zmchk = true := by decide +kernel
set_option maxRecDepth 100000 in
theorem zco_24 : (List.range' 24 12).all zmcode = true := by decide +kernel
set_option maxRecDepth 100000 in
theorem zck_36 : (List.range' 36 12).all zmchk = true := by decide +kernel
set_option maxRecDepth 100000 in
theorem zco_36 : (List.range' 36 12).all zmcode = true := by decide +kernel
set_option maxRecDepth 100000 in
theorem zck_48 : (List.range' 48 12).all zmchk = true := by decide +kernel
set_option maxRecDepth 100000 in
theorem zco_48 : (List.range' 48 12).all zmcode = true := by decide +kernel
set_option maxRecDepth 100000 in
theorem zck_60 : (List.range' 60 12).all zmchk = true := by decide +kernel
set_option maxRecDepth 100000 in
theorem zco_60 : (List.range' 60 12).all zmcode = true := by decide +kernel
set_option maxRecDepth 100000 in
theorem zck_72 : (List.range' 72 12).all zmchk = true := by decide +kernel
set_option maxRecDepth 100000 in
theorem zco_72 : (List.range' 72 12).all zmcode = true := by decide +kernel
set_option maxRecDepth 100000 in
theorem zck_84 : (List.range' 84 12).all zmchk = true := by decide +kernel
set_option maxRecDepth 100000 in
theorem zco_84 : (List.range' 84 12).all zmcode = true := by decide +kernel
set_option maxRecDepth 100000 in
theorem zck_96 : (List.range' 96 12).all zmchk = true := by decide +kernel
set_option maxRecDepth 100000 in
theorem zco_96 : (List.range' 96 12).all zmcode = true := by decide +kernel
set_option maxRecDepth 100000 in
theorem zck_108 : (List.range' 108 12).all zmchk = true := by decide +kernel
set_option maxRecDepth 100000 in
theorem zco_108 : (List.range' 108 12).all zmcode = true := by decide +kernel
set_option maxRecDepth 100000 in
theorem zck_120 : (List.range' 120 12).all zmchk = true := by decide +kernel
set_option maxRecDepth 100000 in
theorem zco_120 : (List.range' 120 12).all zmcode = true := by decide +kernel
set_option maxRecDepth 100000 in
theorem zck_132 : (List.range' 132 12).all zmchk = true := by decide +kernel
set_option maxRecDepth 100000 in
theorem zco_132 : (List.range' 132 12).all zmcode = true := by decide +kernel
set_option maxRecDepth 100000 in
theorem zck_144 : (List.range' 144 12).all zmchk = true := by decide +kernel
set_option maxRecDepth 100000 in
theorem zco_144 : (List.range' 144 12).all zmcode = true := by decide +kernel
set_option maxRecDepth 100000 in
theorem zck_156 : (List.range' 156 12).all zmchk = true := by decide +kernel
set_option maxRecDepth 100000 in
theorem zco_156 : (List.range' 156 12).all zmcode = true := by decide +kernel
set_option maxRecDepth 100000 in
theorem zck_168 : (List.range' 168 12).all zmchk = true := by decide +kernel
set_option maxRecDepth 100000 in
theorem zco_168 : (List.range' 168 12).all zmcode = true := by decide +kernel
set_option maxRecDepth 100000 in
theorem zck_180 : (List.range' 180 12).all zmchk = true := by decide +kernel
set_option maxRecDepth 100000 in
theorem zco_180 : (List.range' 180 12).all zmcode = true := by decide +kernel
set_option maxRecDepth 100000 in
theorem zck_192 : (List.range' 192 12).all zmchk = true := by decide +kernel
set_option maxRecDepth 100000 in
theorem zco_192 : (List.range' 192 12).all zmcode = true := by decide +kernel
set_option maxRecDepth 100000 in
theorem zck_204 : (List.range' 204 8).all zmchk = true := by decide +kernel
set_option maxRecDepth 100000 in
theorem zco_204 : (List.range' 204 8).all zmcode = true := by decide +kernel

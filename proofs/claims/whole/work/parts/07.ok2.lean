set_option maxRecDepth 100000 in
theorem xo_61 : ∀ pc q, xm_i 61 pc = some q → x_ok 61 pc q := x_ok_all (by decide +kernel)
set_option maxRecDepth 100000 in
theorem xo_62 : ∀ pc q, xm_i 62 pc = some q → x_ok 62 pc q := x_ok_all (by decide +kernel)
set_option maxRecDepth 100000 in
theorem xo_63 : ∀ pc q, xm_i 63 pc = some q → x_ok 63 pc q := x_ok_all (by decide +kernel)
set_option maxRecDepth 100000 in
theorem xo_64 : ∀ pc q, xm_i 64 pc = some q → x_ok 64 pc q := x_ok_all (by decide +kernel)
set_option maxRecDepth 100000 in
theorem xo_65 : ∀ pc q, xm_i 65 pc = some q → x_ok 65 pc q := x_ok_all (by decide +kernel)
set_option maxRecDepth 100000 in
theorem xo_66 : ∀ pc q, xm_i 66 pc = some q → x_ok 66 pc q := x_ok_all (by decide +kernel)
set_option maxRecDepth 100000 in
theorem xo_67 : ∀ pc q, xm_i 67 pc = some q → x_ok 67 pc q := x_ok_all (by decide +kernel)
set_option maxRecDepth 100000 in
theorem xo_68 : ∀ pc q, xm_i 68 pc = some q → x_ok 68 pc q := x_ok_all (by decide +kernel)
set_option maxRecDepth 100000 in
theorem xo_69 : ∀ pc q, xm_i 69 pc = some q → x_ok 69 pc q := x_ok_all (by decide +kernel)
set_option maxRecDepth 100000 in
theorem xo_70 : ∀ pc q, xm_i 70 pc = some q → x_ok 70 pc q := x_ok_all (by decide +kernel)
set_option maxRecDepth 100000 in
theorem xo_71 : ∀ pc q, xm_i 71 pc = some q → x_ok 71 pc q := x_ok_all (by decide +kernel)
set_option maxRecDepth 100000 in
theorem xo_72 : ∀ pc q, xm_i 72 pc = some q → x_ok 72 pc q := x_ok_all (by decide +kernel)
set_option maxRecDepth 100000 in
theorem xo_73 : ∀ pc q, xm_i 73 pc = some q → x_ok 73 pc q := x_ok_all (by decide +kernel)
set_option maxRecDepth 100000 in
theorem xo_74 : ∀ pc q, xm_i 74 pc = some q → x_ok 74 pc q := x_ok_all (by decide +kernel)
set_option maxRecDepth 100000 in
theorem xo_75 : ∀ pc q, xm_i 75 pc = some q → x_ok 75 pc q := x_ok_all (by decide +kernel)
set_option maxRecDepth 100000 in
theorem xo_76 : ∀ pc q, xm_i 76 pc = some q → x_ok 76 pc q := x_ok_all (by decide +kernel)
set_option maxRecDepth 100000 in
theorem xo_77 : ∀ pc q, xm_i 77 pc = some q → x_ok 77 pc q := x_ok_all (by decide +kernel)
set_option maxRecDepth 100000 in
theorem xo_78 : ∀ pc q, xm_i 78 pc = some q → x_ok 78 pc q := x_ok_all (by decide +kernel)
set_option maxRecDepth 100000 in
theorem xo_79 : ∀ pc q, xm_i 79 pc = some q → x_ok 79 pc q := x_ok_all (by decide +kernel)
set_option maxRecDepth 100000 in
theorem xo_80 : ∀ pc q, xm_i 80 pc = some q → x_ok 80 pc q := x_ok_all (by decide +kernel)
set_option maxRecDepth 100000 in
theorem xo_81 : ∀ pc q, xm_i 81 pc = some q → x_ok 81 pc q := x_ok_all (by decide +kernel)
set_option maxRecDepth 100000 in
theorem xo_82 : ∀ pc q, xm_i 82 pc = some q → x_ok 82 pc q := x_ok_all (by decide +kernel)
set_option maxRecDepth 100000 in
theorem xo_83 : ∀ pc q, xm_i 83 pc = some q → x_ok 83 pc q := x_ok_all (by decide +kernel)
set_option maxRecDepth 100000 in
theorem xo_84 : ∀ pc q, xm_i 84 pc = some q → x_ok 84 pc q := x_ok_all (by decide +kernel)
set_option maxRecDepth 100000 in
theorem xo_85 : ∀ pc q, xm_i 85 pc = some q → x_ok 85 pc q := x_ok_all (by decide +kernel)
set_option maxRecDepth 100000 in
theorem xo_86 : ∀ pc q, xm_i 86 pc = some q → x_ok 86 pc q := x_ok_all (by decide +kernel)
set_option maxRecDepth 100000 in
theorem xo_87 : ∀ pc q, xm_i 87 pc = some q → x_ok 87 pc q := x_ok_all (by decide +kernel)
set_option maxRecDepth 100000 in
theorem xo_88 : ∀ pc q, xm_i 88 pc = some q → x_ok 88 pc q := x_ok_all (by decide +kernel)
set_option maxRecDepth 100000 in
theorem xo_89 : ∀ pc q, xm_i 89 pc = some q → x_ok 89 pc q := x_ok_all (by decide +kernel)

set_option maxRecDepth 100000 in
theorem xo_102 : ∀ pc q, xm_i 102 pc = some q → x_ok 102 pc q := x_ok_all (by decide +kernel)
set_option maxRecDepth 100000 in
theorem xo_103 : ∀ pc q, xm_i 103 pc = some q → x_ok 103 pc q := x_ok_all (by decide +kernel)
set_option maxRecDepth 100000 in
theorem xo_104 : ∀ pc q, xm_i 104 pc = some q → x_ok 104 pc q := x_ok_all (by decide +kernel)
set_option maxRecDepth 100000 in
theorem xo_105 : ∀ pc q, xm_i 105 pc = some q → x_ok 105 pc q := x_ok_all (by decide +kernel)
set_option maxRecDepth 100000 in
theorem xo_106 : ∀ pc q, xm_i 106 pc = some q → x_ok 106 pc q := x_ok_all (by decide +kernel)
set_option maxRecDepth 100000 in
theorem xo_107 : ∀ pc q, xm_i 107 pc = some q → x_ok 107 pc q := x_ok_all (by decide +kernel)
set_option maxRecDepth 100000 in
theorem xo_108 : ∀ pc q, xm_i 108 pc = some q → x_ok 108 pc q := x_ok_all (by decide +kernel)
set_option maxRecDepth 100000 in
theorem xo_109 : ∀ pc q, xm_i 109 pc = some q → x_ok 109 pc q := x_ok_all (by decide +kernel)
set_option maxRecDepth 100000 in
theorem xo_110 : ∀ pc q, xm_i 110 pc = some q → x_ok 110 pc q := x_ok_all (by decide +kernel)
set_option maxRecDepth 100000 in
theorem xo_111 : ∀ pc q, xm_i 111 pc = some q → x_ok 111 pc q := x_ok_all (by decide +kernel)
set_option maxRecDepth 100000 in
theorem xo_112 : ∀ pc q, xm_i 112 pc = some q → x_ok 112 pc q := x_ok_all (by decide +kernel)
set_option maxRecDepth 100000 in
theorem xo_113 : ∀ pc q, xm_i 113 pc = some q → x_ok 113 pc q := x_ok_all (by decide +kernel)
set_option maxRecDepth 100000 in
theorem xo_114 : ∀ pc q, xm_i 114 pc = some q → x_ok 114 pc q := x_ok_all (by decide +kernel)
set_option maxRecDepth 100000 in
theorem xo_115 : ∀ pc q, xm_i 115 pc = some q → x_ok 115 pc q := x_ok_all (by decide +kernel)
set_option maxRecDepth 100000 in
theorem xo_116 : ∀ pc q, xm_i 116 pc = some q → x_ok 116 pc q := x_ok_all (by decide +kernel)
set_option maxRecDepth 100000 in
theorem xo_117 : ∀ pc q, xm_i 117 pc = some q → x_ok 117 pc q := x_ok_all (by decide +kernel)
set_option maxRecDepth 100000 in
theorem xo_118 : ∀ pc q, xm_i 118 pc = some q → x_ok 118 pc q := x_ok_all (by decide +kernel)
set_option maxRecDepth 100000 in
theorem xo_119 : ∀ pc q, xm_i 119 pc = some q → x_ok 119 pc q := x_ok_all (by decide +kernel)
set_option maxRecDepth 100000 in
theorem xo_120 : ∀ pc q, xm_i 120 pc = some q → x_ok 120 pc q := x_ok_all (by decide +kernel)
set_option maxRecDepth 100000 in
theorem xo_121 : ∀ pc q, xm_i 121 pc = some q → x_ok 121 pc q := x_ok_all (by decide +kernel)

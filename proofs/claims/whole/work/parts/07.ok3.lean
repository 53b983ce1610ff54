set_option maxRecDepth 100000 in
theorem xo_90 : ∀ pc q, xm_i 90 pc = some q → x_ok 90 pc q := x_ok_all (by decide +kernel)
set_option maxRecDepth 100000 in
theorem xo_91 : ∀ pc q, xm_i 91 pc = some q → x_ok 91 pc q := x_ok_all (by decide +kernel)
set_option maxRecDepth 100000 in
theorem xo_92 : ∀ pc q, xm_i 92 pc = some q → x_ok 92 pc q := x_ok_all (by decide +kernel)
set_option maxRecDepth 100000 in
theorem xo_93 : ∀ pc q, xm_i 93 pc = some q → x_ok 93 pc q := x_ok_all (by decide +kernel)
set_option maxRecDepth 100000 in
theorem xo_94 : ∀ pc q, xm_i 94 pc = some q → x_ok 94 pc q := x_ok_all (by decide +kernel)
set_option maxRecDepth 100000 in
theorem xo_95 : ∀ pc q, xm_i 95 pc = some q → x_ok 95 pc q := x_ok_all (by decide +kernel)
set_option maxRecDepth 100000 in
theorem xo_96 : ∀ pc q, xm_i 96 pc = some q → x_ok 96 pc q := x_ok_all (by decide +kernel)
set_option maxRecDepth 100000 in
theorem xo_97 : ∀ pc q, xm_i 97 pc = some q → x_ok 97 pc q := x_ok_all (by decide +kernel)
set_option maxRecDepth 100000 in
theorem xo_98 : ∀ pc q, xm_i 98 pc = some q → x_ok 98 pc q := x_ok_all (by decide +kernel)
set_option maxRecDepth 100000 in
theorem xo_99 : ∀ pc q, xm_i 99 pc = some q → x_ok 99 pc q := x_ok_all (by decide +kernel)
set_option maxRecDepth 100000 in
theorem xo_100 : ∀ pc q, xm_i 100 pc = some q → x_ok 100 pc q := x_ok_all (by decide +kernel)
set_option maxRecDepth 100000 in
theorem xo_101 : ∀ pc q, xm_i 101 pc = some q → x_ok 101 pc q := x_ok_all (by decide +kernel)

set_option maxRecDepth 100000 in
theorem xo_122 : ∀ pc q, xm_i 122 pc = some q → x_ok 122 pc q := x_ok_all (by decide +kernel)
set_option maxRecDepth 100000 in
theorem xo_123 : ∀ pc q, xm_i 123 pc = some q → x_ok 123 pc q := x_ok_all (by decide +kernel)
set_option maxRecDepth 100000 in
theorem xo_124 : ∀ pc q, xm_i 124 pc = some q → x_ok 124 pc q := x_ok_all (by decide +kernel)

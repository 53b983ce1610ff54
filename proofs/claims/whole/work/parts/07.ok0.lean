set_option maxRecDepth 100000 in
theorem xo_0 : ∀ pc q, xm_i 0 pc = some q → x_ok 0 pc q := x_ok_all (by decide +kernel)
set_option maxRecDepth 100000 in
theorem xo_1 : ∀ pc q, xm_i 1 pc = some q → x_ok 1 pc q := x_ok_all (by decide +kernel)
set_option maxRecDepth 100000 in
theorem xo_2 : ∀ pc q, xm_i 2 pc = some q → x_ok 2 pc q := x_ok_all (by decide +kernel)
set_option maxRecDepth 100000 in
theorem xo_3 : ∀ pc q, xm_i 3 pc = some q → x_ok 3 pc q := x_ok_all (by decide +kernel)
set_option maxRecDepth 100000 in
theorem xo_4 : ∀ pc q, xm_i 4 pc = some q → x_ok 4 pc q := x_ok_all (by decide +kernel)
set_option maxRecDepth 100000 in
theorem xo_5 : ∀ pc q, xm_i 5 pc = some q → x_ok 5 pc q := x_ok_all (by decide +kernel)
set_option maxRecDepth 100000 in
theorem xo_6 : ∀ pc q, xm_i 6 pc = some q → x_ok 6 pc q := x_ok_all (by decide +kernel)
set_option maxRecDepth 100000 in
theorem xo_7 : ∀ pc q, xm_i 7 pc = some q → x_ok 7 pc q := x_ok_all (by decide +kernel)
set_option maxRecDepth 100000 in
theorem xo_8 : ∀ pc q, xm_i 8 pc = some q → x_ok 8 pc q := x_ok_all (by decide +kernel)
set_option maxRecDepth 100000 in
theorem xo_9 : ∀ pc q, xm_i 9 pc = some q → x_ok 9 pc q := x_ok_all (by decide +kernel)
set_option maxRecDepth 100000 in
theorem xo_10 : ∀ pc q, xm_i 10 pc = some q → x_ok 10 pc q := x_ok_all (by decide +kernel)
set_option maxRecDepth 100000 in
theorem xo_11 : ∀ pc q, xm_i 11 pc = some q → x_ok 11 pc q := x_ok_all (by decide +kernel)
set_option maxRecDepth 100000 in
theorem xo_12 : ∀ pc q, xm_i 12 pc = some q → x_ok 12 pc q := x_ok_all (by decide +kernel)
set_option maxRecDepth 100000 in
theorem xo_13 : ∀ pc q, xm_i 13 pc = some q → x_ok 13 pc q := x_ok_all (by decide +kernel)
set_option maxRecDepth 100000 in
theorem xo_14 : ∀ pc q, xm_i 14 pc = some q → x_ok 14 pc q := x_ok_all (by decide +kernel)
set_option maxRecDepth 100000 in
theorem xo_15 : ∀ pc q, xm_i 15 pc = some q → x_ok 15 pc q := x_ok_all (by decide +kernel)
set_option maxRecDepth 100000 in
theorem xo_16 : ∀ pc q, xm_i 16 pc = some q → x_ok 16 pc q := x_ok_all (by decide +kernel)
set_option maxRecDepth 100000 in
theorem xo_17 : ∀ pc q, xm_i 17 pc = some q → x_ok 17 pc q := x_ok_all (by decide +kernel)
set_option maxRecDepth 100000 in
theorem xo_18 : ∀ pc q, xm_i 18 pc = some q → x_ok 18 pc q := x_ok_all (by decide +kernel)
set_option maxRecDepth 100000 in
theorem xo_19 : ∀ pc q, xm_i 19 pc = some q → x_ok 19 pc q := x_ok_all (by decide +kernel)
set_option maxRecDepth 100000 in
theorem xo_20 : ∀ pc q, xm_i 20 pc = some q → x_ok 20 pc q := x_ok_all (by decide +kernel)
set_option maxRecDepth 100000 in
theorem xo_21 : ∀ pc q, xm_i 21 pc = some q → x_ok 21 pc q := x_ok_all (by decide +kernel)
set_option maxRecDepth 100000 in
theorem xo_22 : ∀ pc q, xm_i 22 pc = some q → x_ok 22 pc q := x_ok_all (by decide +kernel)
set_option maxRecDepth 100000 in
theorem xo_23 : ∀ pc q, xm_i 23 pc = some q → x_ok 23 pc q := x_ok_all (by decide +kernel)
set_option maxRecDepth 100000 in
theorem xo_24 : ∀ pc q, xm_i 24 pc = some q → x_ok 24 pc q := x_ok_all (by decide +kernel)
set_option maxRecDepth 100000 in
theorem xo_25 : ∀ pc q, xm_i 25 pc = some q → x_ok 25 pc q := x_ok_all (by decide +kernel)
set_option maxRecDepth 100000 in
theorem xo_26 : ∀ pc q, xm_i 26 pc = some q → x_ok 26 pc q := x_ok_all (by decide +kernel)
set_option maxRecDepth 100000 in
theorem xo_27 : ∀ pc q, xm_i 27 pc = some q → x_ok 27 pc q := x_ok_all (by decide +kernel)
set_option maxRecDepth 100000 in
theorem xo_28 : ∀ pc q, xm_i 28 pc = some q → x_ok 28 pc q := x_ok_all (by decide +kernel)
set_option maxRecDepth 100000 in
theorem xo_29 : ∀ pc q, xm_i 29 pc = some q → x_ok 29 pc q := x_ok_all (by decide +kernel)

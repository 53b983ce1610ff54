set_option maxRecDepth 100000 in
theorem xo_30 : ∀ pc q, xm_i 30 pc = some q → x_ok 30 pc q := x_ok_all (by decide +kernel)
set_option maxRecDepth 100000 in
theorem xo_31 : ∀ pc q, xm_i 31 pc = some q → x_ok 31 pc q := x_ok_all (by decide +kernel)
set_option maxRecDepth 100000 in
theorem xo_32 : ∀ pc q, xm_i 32 pc = some q → x_ok 32 pc q := x_ok_all (by decide +kernel)
set_option maxRecDepth 100000 in
theorem xo_33 : ∀ pc q, xm_i 33 pc = some q → x_ok 33 pc q := x_ok_all (by decide +kernel)
set_option maxRecDepth 100000 in
theorem xo_34 : ∀ pc q, xm_i 34 pc = some q → x_ok 34 pc q := x_ok_all (by decide +kernel)
set_option maxRecDepth 100000 in
theorem xo_35 : ∀ pc q, xm_i 35 pc = some q → x_ok 35 pc q := x_ok_all (by decide +kernel)
set_option maxRecDepth 100000 in
theorem xo_36 : ∀ pc q, xm_i 36 pc = some q → x_ok 36 pc q := x_ok_all (by decide +kernel)
set_option maxRecDepth 100000 in
theorem xo_37 : ∀ pc q, xm_i 37 pc = some q → x_ok 37 pc q := x_ok_all (by decide +kernel)
set_option maxRecDepth 100000 in
theorem xo_38 : ∀ pc q, xm_i 38 pc = some q → x_ok 38 pc q := x_ok_all (by decide +kernel)
set_option maxRecDepth 100000 in
theorem xo_39 : ∀ pc q, xm_i 39 pc = some q → x_ok 39 pc q := x_ok_all (by decide +kernel)
set_option maxRecDepth 100000 in
theorem xo_40 : ∀ pc q, xm_i 40 pc = some q → x_ok 40 pc q := x_ok_all (by decide +kernel)
set_option maxRecDepth 100000 in
theorem xo_41 : ∀ pc q, xm_i 41 pc = some q → x_ok 41 pc q := x_ok_all (by decide +kernel)
set_option maxRecDepth 100000 in
theorem xo_42 : ∀ pc q, xm_i 42 pc = some q → x_ok 42 pc q := x_ok_all (by decide +kernel)
set_option maxRecDepth 100000 in
theorem xo_43 : ∀ pc q, xm_i 43 pc = some q → x_ok 43 pc q := x_ok_all (by decide +kernel)
set_option maxRecDepth 100000 in
theorem xo_44 : ∀ pc q, xm_i 44 pc = some q → x_ok 44 pc q := x_ok_all (by decide +kernel)
set_option maxRecDepth 100000 in
theorem xo_45 : ∀ pc q, xm_i 45 pc = some q → x_ok 45 pc q := x_ok_all (by decide +kernel)
set_option maxRecDepth 100000 in
theorem xo_46 : ∀ pc q, xm_i 46 pc = some q → x_ok 46 pc q := x_ok_all (by decide +kernel)
set_option maxRecDepth 100000 in
theorem xo_47 : ∀ pc q, xm_i 47 pc = some q → x_ok 47 pc q := x_ok_all (by decide +kernel)
set_option maxRecDepth 100000 in
theorem xo_48 : ∀ pc q, xm_i 48 pc = some q → x_ok 48 pc q := x_ok_all (by decide +kernel)
set_option maxRecDepth 100000 in
theorem xo_49 : ∀ pc q, xm_i 49 pc = some q → x_ok 49 pc q := x_ok_all (by decide +kernel)
set_option maxRecDepth 100000 in
theorem xo_50 : ∀ pc q, xm_i 50 pc = some q → x_ok 50 pc q := x_ok_all (by decide +kernel)
set_option maxRecDepth 100000 in
theorem xo_51 : ∀ pc q, xm_i 51 pc = some q → x_ok 51 pc q := x_ok_all (by decide +kernel)
set_option maxRecDepth 100000 in
theorem xo_52 : ∀ pc q, xm_i 52 pc = some q → x_ok 52 pc q := x_ok_all (by decide +kernel)
set_option maxRecDepth 100000 in
theorem xo_53 : ∀ pc q, xm_i 53 pc = some q → x_ok 53 pc q := x_ok_all (by decide +kernel)
set_option maxRecDepth 100000 in
theorem xo_54 : ∀ pc q, xm_i 54 pc = some q → x_ok 54 pc q := x_ok_all (by decide +kernel)
set_option maxRecDepth 100000 in
theorem xo_55 : ∀ pc q, xm_i 55 pc = some q → x_ok 55 pc q := x_ok_all (by decide +kernel)
set_option maxRecDepth 100000 in
theorem xo_56 : ∀ pc q, xm_i 56 pc = some q → x_ok 56 pc q := x_ok_all (by decide +kernel)
set_option maxRecDepth 100000 in
theorem xo_57 : ∀ pc q, xm_i 57 pc = some q → x_ok 57 pc q := x_ok_all (by decide +kernel)
set_option maxRecDepth 100000 in
theorem xo_58 : ∀ pc q, xm_i 58 pc = some q → x_ok 58 pc q := x_ok_all (by decide +kernel)
set_option maxRecDepth 100000 in
theorem xo_59 : ∀ pc q, xm_i 59 pc = some q → x_ok 59 pc q := x_ok_all (by decide +kernel)
set_option maxRecDepth 100000 in
theorem xo_60 : ∀ pc q, xm_i 60 pc = some q → x_ok 60 pc q := x_ok_all (by decide +kernel)

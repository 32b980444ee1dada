/-! What they are owed: proved in parts of their own, later. -/
theorem ct_A_new (z : xzs) (l : Launch) : xCt z l y_A_new w_A_new 3 100 (f_A_new z) := sorry
theorem ct_A_add (z : xzs) (l : Launch) : xCt z l y_A_add w_A_add 8 300 (f_A_add z) := sorry
theorem ct_A_size (z : xzs) (l : Launch) : xCt z l y_A_size w_A_size 0 0 (f_A_size z) := sorry
theorem ct_X_state (z : xzs) (l : Launch) : xCt z l y_X_state w_X_state 9 400 (f_X_state z) := sorry
theorem ct_X_arg (z : xzs) (l : Launch) : xCt z l y_X_arg w_X_arg 9 400 (f_X_arg z) := sorry
theorem ct_X_elem (z : xzs) (l : Launch) : xCt z l y_X_elem w_X_elem 9 400 (f_X_elem z) := sorry
theorem ct_A_get (z : xzs) (l : Launch) : xCt z l y_A_get w_A_get 4 150 (f_A_get z) := sorry
theorem ct_A_remove (z : xzs) (l : Launch) : xCt z l y_A_remove w_A_remove 6 250 (f_A_remove z) := sorry
theorem ct_X_unsup (z : xzs) (l : Launch) : xCt z l y_X_unsup w_X_unsup 9 400 (f_X_unsup z) := sorry

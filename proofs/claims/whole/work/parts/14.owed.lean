/-! What the list's methods are owed. -/
theorem ct_A_new (z : xzs) (l : Launch) (hl : l.stackTraces = false) : xCt z l y_A_new w_A_new 3 100 (f_A_new z) := sorry
theorem ct_A_add (z : xzs) (l : Launch) (hl : l.stackTraces = false) : xCt z l y_A_add w_A_add 8 300 (f_A_add z) := sorry
theorem ct_A_size (z : xzs) (l : Launch) (hl : l.stackTraces = false) : xCt z l y_A_size w_A_size 0 0 (f_A_size z) := sorry
theorem ct_A_get (z : xzs) (l : Launch) (hl : l.stackTraces = false) : xCt z l y_A_get w_A_get 4 150 (f_A_get z) := sorry
theorem ct_A_remove (z : xzs) (l : Launch) (hl : l.stackTraces = false) : xCt z l y_A_remove w_A_remove 6 250 (f_A_remove z) := sorry

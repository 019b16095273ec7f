/-! written ints (printed by wip/fn/lits.py) -/
theorem qe0 {a : Int} (h1 : -2147483648 ≤ a) (h2 : a < 2147483648) : (iI a = (0 : Int32)) = (a = 0) := iI_eqD h1 h2 (b := 0) (by omega) (by omega)
theorem ql0 {a : Int} (h1 : -2147483648 ≤ a) (h2 : a < 2147483648) : (iI a < (0 : Int32)) = (a < 0) := iI_ltD h1 h2 (b := 0) (by omega) (by omega)
theorem qg0 {a : Int} (h1 : -2147483648 ≤ a) (h2 : a < 2147483648) : ((0 : Int32) < iI a) = (0 < a) := iI_ltD (a := 0) (by omega) (by omega) h1 h2
theorem qm0 {a : Int} (h1 : -2147483648 ≤ a) (h2 : a < 2147483648) : (iI a ≤ (0 : Int32)) = (a ≤ 0) := iI_leD h1 h2 (b := 0) (by omega) (by omega)
theorem qM0 {a : Int} (h1 : -2147483648 ≤ a) (h2 : a < 2147483648) : ((0 : Int32) ≤ iI a) = (0 ≤ a) := iI_leD (a := 0) (by omega) (by omega) h1 h2
theorem qa0 {a : Int} : iI a + 0 = iI (a + 0) := iI_add a 0
theorem qs0 {a : Int} : iI a - 0 = iI (a - 0) := iI_sub a 0
theorem qx0 {a : Int} : iI a * 0 = iI (a * 0) := iI_mul a 0
theorem qy0 {a : Int} : 0 * iI a = iI (0 * a) := iI_mul 0 a
theorem qe1 {a : Int} (h1 : -2147483648 ≤ a) (h2 : a < 2147483648) : (iI a = (1 : Int32)) = (a = 1) := iI_eqD h1 h2 (b := 1) (by omega) (by omega)
theorem ql1 {a : Int} (h1 : -2147483648 ≤ a) (h2 : a < 2147483648) : (iI a < (1 : Int32)) = (a < 1) := iI_ltD h1 h2 (b := 1) (by omega) (by omega)
theorem qg1 {a : Int} (h1 : -2147483648 ≤ a) (h2 : a < 2147483648) : ((1 : Int32) < iI a) = (1 < a) := iI_ltD (a := 1) (by omega) (by omega) h1 h2
theorem qm1 {a : Int} (h1 : -2147483648 ≤ a) (h2 : a < 2147483648) : (iI a ≤ (1 : Int32)) = (a ≤ 1) := iI_leD h1 h2 (b := 1) (by omega) (by omega)
theorem qM1 {a : Int} (h1 : -2147483648 ≤ a) (h2 : a < 2147483648) : ((1 : Int32) ≤ iI a) = (1 ≤ a) := iI_leD (a := 1) (by omega) (by omega) h1 h2
theorem qa1 {a : Int} : iI a + 1 = iI (a + 1) := iI_add a 1
theorem qs1 {a : Int} : iI a - 1 = iI (a - 1) := iI_sub a 1
theorem qx1 {a : Int} : iI a * 1 = iI (a * 1) := iI_mul a 1
theorem qy1 {a : Int} : 1 * iI a = iI (1 * a) := iI_mul 1 a
theorem qe2 {a : Int} (h1 : -2147483648 ≤ a) (h2 : a < 2147483648) : (iI a = (2 : Int32)) = (a = 2) := iI_eqD h1 h2 (b := 2) (by omega) (by omega)
theorem ql2 {a : Int} (h1 : -2147483648 ≤ a) (h2 : a < 2147483648) : (iI a < (2 : Int32)) = (a < 2) := iI_ltD h1 h2 (b := 2) (by omega) (by omega)
theorem qg2 {a : Int} (h1 : -2147483648 ≤ a) (h2 : a < 2147483648) : ((2 : Int32) < iI a) = (2 < a) := iI_ltD (a := 2) (by omega) (by omega) h1 h2
theorem qm2 {a : Int} (h1 : -2147483648 ≤ a) (h2 : a < 2147483648) : (iI a ≤ (2 : Int32)) = (a ≤ 2) := iI_leD h1 h2 (b := 2) (by omega) (by omega)
theorem qM2 {a : Int} (h1 : -2147483648 ≤ a) (h2 : a < 2147483648) : ((2 : Int32) ≤ iI a) = (2 ≤ a) := iI_leD (a := 2) (by omega) (by omega) h1 h2
theorem qa2 {a : Int} : iI a + 2 = iI (a + 2) := iI_add a 2
theorem qs2 {a : Int} : iI a - 2 = iI (a - 2) := iI_sub a 2
theorem qx2 {a : Int} : iI a * 2 = iI (a * 2) := iI_mul a 2
theorem qy2 {a : Int} : 2 * iI a = iI (2 * a) := iI_mul 2 a
theorem qe3 {a : Int} (h1 : -2147483648 ≤ a) (h2 : a < 2147483648) : (iI a = (3 : Int32)) = (a = 3) := iI_eqD h1 h2 (b := 3) (by omega) (by omega)
theorem ql3 {a : Int} (h1 : -2147483648 ≤ a) (h2 : a < 2147483648) : (iI a < (3 : Int32)) = (a < 3) := iI_ltD h1 h2 (b := 3) (by omega) (by omega)
theorem qg3 {a : Int} (h1 : -2147483648 ≤ a) (h2 : a < 2147483648) : ((3 : Int32) < iI a) = (3 < a) := iI_ltD (a := 3) (by omega) (by omega) h1 h2
theorem qm3 {a : Int} (h1 : -2147483648 ≤ a) (h2 : a < 2147483648) : (iI a ≤ (3 : Int32)) = (a ≤ 3) := iI_leD h1 h2 (b := 3) (by omega) (by omega)
theorem qM3 {a : Int} (h1 : -2147483648 ≤ a) (h2 : a < 2147483648) : ((3 : Int32) ≤ iI a) = (3 ≤ a) := iI_leD (a := 3) (by omega) (by omega) h1 h2
theorem qa3 {a : Int} : iI a + 3 = iI (a + 3) := iI_add a 3
theorem qs3 {a : Int} : iI a - 3 = iI (a - 3) := iI_sub a 3
theorem qx3 {a : Int} : iI a * 3 = iI (a * 3) := iI_mul a 3
theorem qy3 {a : Int} : 3 * iI a = iI (3 * a) := iI_mul 3 a
theorem qe4 {a : Int} (h1 : -2147483648 ≤ a) (h2 : a < 2147483648) : (iI a = (4 : Int32)) = (a = 4) := iI_eqD h1 h2 (b := 4) (by omega) (by omega)
theorem ql4 {a : Int} (h1 : -2147483648 ≤ a) (h2 : a < 2147483648) : (iI a < (4 : Int32)) = (a < 4) := iI_ltD h1 h2 (b := 4) (by omega) (by omega)
theorem qg4 {a : Int} (h1 : -2147483648 ≤ a) (h2 : a < 2147483648) : ((4 : Int32) < iI a) = (4 < a) := iI_ltD (a := 4) (by omega) (by omega) h1 h2
theorem qm4 {a : Int} (h1 : -2147483648 ≤ a) (h2 : a < 2147483648) : (iI a ≤ (4 : Int32)) = (a ≤ 4) := iI_leD h1 h2 (b := 4) (by omega) (by omega)
theorem qM4 {a : Int} (h1 : -2147483648 ≤ a) (h2 : a < 2147483648) : ((4 : Int32) ≤ iI a) = (4 ≤ a) := iI_leD (a := 4) (by omega) (by omega) h1 h2
theorem qa4 {a : Int} : iI a + 4 = iI (a + 4) := iI_add a 4
theorem qs4 {a : Int} : iI a - 4 = iI (a - 4) := iI_sub a 4
theorem qx4 {a : Int} : iI a * 4 = iI (a * 4) := iI_mul a 4
theorem qy4 {a : Int} : 4 * iI a = iI (4 * a) := iI_mul 4 a
theorem qe5 {a : Int} (h1 : -2147483648 ≤ a) (h2 : a < 2147483648) : (iI a = (5 : Int32)) = (a = 5) := iI_eqD h1 h2 (b := 5) (by omega) (by omega)
theorem ql5 {a : Int} (h1 : -2147483648 ≤ a) (h2 : a < 2147483648) : (iI a < (5 : Int32)) = (a < 5) := iI_ltD h1 h2 (b := 5) (by omega) (by omega)
theorem qg5 {a : Int} (h1 : -2147483648 ≤ a) (h2 : a < 2147483648) : ((5 : Int32) < iI a) = (5 < a) := iI_ltD (a := 5) (by omega) (by omega) h1 h2
theorem qm5 {a : Int} (h1 : -2147483648 ≤ a) (h2 : a < 2147483648) : (iI a ≤ (5 : Int32)) = (a ≤ 5) := iI_leD h1 h2 (b := 5) (by omega) (by omega)
theorem qM5 {a : Int} (h1 : -2147483648 ≤ a) (h2 : a < 2147483648) : ((5 : Int32) ≤ iI a) = (5 ≤ a) := iI_leD (a := 5) (by omega) (by omega) h1 h2
theorem qa5 {a : Int} : iI a + 5 = iI (a + 5) := iI_add a 5
theorem qs5 {a : Int} : iI a - 5 = iI (a - 5) := iI_sub a 5
theorem qx5 {a : Int} : iI a * 5 = iI (a * 5) := iI_mul a 5
theorem qy5 {a : Int} : 5 * iI a = iI (5 * a) := iI_mul 5 a
theorem qe6 {a : Int} (h1 : -2147483648 ≤ a) (h2 : a < 2147483648) : (iI a = (6 : Int32)) = (a = 6) := iI_eqD h1 h2 (b := 6) (by omega) (by omega)
theorem ql6 {a : Int} (h1 : -2147483648 ≤ a) (h2 : a < 2147483648) : (iI a < (6 : Int32)) = (a < 6) := iI_ltD h1 h2 (b := 6) (by omega) (by omega)
theorem qg6 {a : Int} (h1 : -2147483648 ≤ a) (h2 : a < 2147483648) : ((6 : Int32) < iI a) = (6 < a) := iI_ltD (a := 6) (by omega) (by omega) h1 h2
theorem qm6 {a : Int} (h1 : -2147483648 ≤ a) (h2 : a < 2147483648) : (iI a ≤ (6 : Int32)) = (a ≤ 6) := iI_leD h1 h2 (b := 6) (by omega) (by omega)
theorem qM6 {a : Int} (h1 : -2147483648 ≤ a) (h2 : a < 2147483648) : ((6 : Int32) ≤ iI a) = (6 ≤ a) := iI_leD (a := 6) (by omega) (by omega) h1 h2
theorem qa6 {a : Int} : iI a + 6 = iI (a + 6) := iI_add a 6
theorem qs6 {a : Int} : iI a - 6 = iI (a - 6) := iI_sub a 6
theorem qx6 {a : Int} : iI a * 6 = iI (a * 6) := iI_mul a 6
theorem qy6 {a : Int} : 6 * iI a = iI (6 * a) := iI_mul 6 a
theorem qe7 {a : Int} (h1 : -2147483648 ≤ a) (h2 : a < 2147483648) : (iI a = (7 : Int32)) = (a = 7) := iI_eqD h1 h2 (b := 7) (by omega) (by omega)
theorem ql7 {a : Int} (h1 : -2147483648 ≤ a) (h2 : a < 2147483648) : (iI a < (7 : Int32)) = (a < 7) := iI_ltD h1 h2 (b := 7) (by omega) (by omega)
theorem qg7 {a : Int} (h1 : -2147483648 ≤ a) (h2 : a < 2147483648) : ((7 : Int32) < iI a) = (7 < a) := iI_ltD (a := 7) (by omega) (by omega) h1 h2
theorem qm7 {a : Int} (h1 : -2147483648 ≤ a) (h2 : a < 2147483648) : (iI a ≤ (7 : Int32)) = (a ≤ 7) := iI_leD h1 h2 (b := 7) (by omega) (by omega)
theorem qM7 {a : Int} (h1 : -2147483648 ≤ a) (h2 : a < 2147483648) : ((7 : Int32) ≤ iI a) = (7 ≤ a) := iI_leD (a := 7) (by omega) (by omega) h1 h2
theorem qa7 {a : Int} : iI a + 7 = iI (a + 7) := iI_add a 7
theorem qs7 {a : Int} : iI a - 7 = iI (a - 7) := iI_sub a 7
theorem qx7 {a : Int} : iI a * 7 = iI (a * 7) := iI_mul a 7
theorem qy7 {a : Int} : 7 * iI a = iI (7 * a) := iI_mul 7 a
theorem qe8 {a : Int} (h1 : -2147483648 ≤ a) (h2 : a < 2147483648) : (iI a = (8 : Int32)) = (a = 8) := iI_eqD h1 h2 (b := 8) (by omega) (by omega)
theorem ql8 {a : Int} (h1 : -2147483648 ≤ a) (h2 : a < 2147483648) : (iI a < (8 : Int32)) = (a < 8) := iI_ltD h1 h2 (b := 8) (by omega) (by omega)
theorem qg8 {a : Int} (h1 : -2147483648 ≤ a) (h2 : a < 2147483648) : ((8 : Int32) < iI a) = (8 < a) := iI_ltD (a := 8) (by omega) (by omega) h1 h2
theorem qm8 {a : Int} (h1 : -2147483648 ≤ a) (h2 : a < 2147483648) : (iI a ≤ (8 : Int32)) = (a ≤ 8) := iI_leD h1 h2 (b := 8) (by omega) (by omega)
theorem qM8 {a : Int} (h1 : -2147483648 ≤ a) (h2 : a < 2147483648) : ((8 : Int32) ≤ iI a) = (8 ≤ a) := iI_leD (a := 8) (by omega) (by omega) h1 h2
theorem qa8 {a : Int} : iI a + 8 = iI (a + 8) := iI_add a 8
theorem qs8 {a : Int} : iI a - 8 = iI (a - 8) := iI_sub a 8
theorem qx8 {a : Int} : iI a * 8 = iI (a * 8) := iI_mul a 8
theorem qy8 {a : Int} : 8 * iI a = iI (8 * a) := iI_mul 8 a
theorem qe9 {a : Int} (h1 : -2147483648 ≤ a) (h2 : a < 2147483648) : (iI a = (9 : Int32)) = (a = 9) := iI_eqD h1 h2 (b := 9) (by omega) (by omega)
theorem ql9 {a : Int} (h1 : -2147483648 ≤ a) (h2 : a < 2147483648) : (iI a < (9 : Int32)) = (a < 9) := iI_ltD h1 h2 (b := 9) (by omega) (by omega)
theorem qg9 {a : Int} (h1 : -2147483648 ≤ a) (h2 : a < 2147483648) : ((9 : Int32) < iI a) = (9 < a) := iI_ltD (a := 9) (by omega) (by omega) h1 h2
theorem qm9 {a : Int} (h1 : -2147483648 ≤ a) (h2 : a < 2147483648) : (iI a ≤ (9 : Int32)) = (a ≤ 9) := iI_leD h1 h2 (b := 9) (by omega) (by omega)
theorem qM9 {a : Int} (h1 : -2147483648 ≤ a) (h2 : a < 2147483648) : ((9 : Int32) ≤ iI a) = (9 ≤ a) := iI_leD (a := 9) (by omega) (by omega) h1 h2
theorem qa9 {a : Int} : iI a + 9 = iI (a + 9) := iI_add a 9
theorem qs9 {a : Int} : iI a - 9 = iI (a - 9) := iI_sub a 9
theorem qx9 {a : Int} : iI a * 9 = iI (a * 9) := iI_mul a 9
theorem qy9 {a : Int} : 9 * iI a = iI (9 * a) := iI_mul 9 a
theorem qe10 {a : Int} (h1 : -2147483648 ≤ a) (h2 : a < 2147483648) : (iI a = (10 : Int32)) = (a = 10) := iI_eqD h1 h2 (b := 10) (by omega) (by omega)
theorem ql10 {a : Int} (h1 : -2147483648 ≤ a) (h2 : a < 2147483648) : (iI a < (10 : Int32)) = (a < 10) := iI_ltD h1 h2 (b := 10) (by omega) (by omega)
theorem qg10 {a : Int} (h1 : -2147483648 ≤ a) (h2 : a < 2147483648) : ((10 : Int32) < iI a) = (10 < a) := iI_ltD (a := 10) (by omega) (by omega) h1 h2
theorem qm10 {a : Int} (h1 : -2147483648 ≤ a) (h2 : a < 2147483648) : (iI a ≤ (10 : Int32)) = (a ≤ 10) := iI_leD h1 h2 (b := 10) (by omega) (by omega)
theorem qM10 {a : Int} (h1 : -2147483648 ≤ a) (h2 : a < 2147483648) : ((10 : Int32) ≤ iI a) = (10 ≤ a) := iI_leD (a := 10) (by omega) (by omega) h1 h2
theorem qa10 {a : Int} : iI a + 10 = iI (a + 10) := iI_add a 10
theorem qs10 {a : Int} : iI a - 10 = iI (a - 10) := iI_sub a 10
theorem qx10 {a : Int} : iI a * 10 = iI (a * 10) := iI_mul a 10
theorem qy10 {a : Int} : 10 * iI a = iI (10 * a) := iI_mul 10 a
theorem qe12 {a : Int} (h1 : -2147483648 ≤ a) (h2 : a < 2147483648) : (iI a = (12 : Int32)) = (a = 12) := iI_eqD h1 h2 (b := 12) (by omega) (by omega)
theorem ql12 {a : Int} (h1 : -2147483648 ≤ a) (h2 : a < 2147483648) : (iI a < (12 : Int32)) = (a < 12) := iI_ltD h1 h2 (b := 12) (by omega) (by omega)
theorem qg12 {a : Int} (h1 : -2147483648 ≤ a) (h2 : a < 2147483648) : ((12 : Int32) < iI a) = (12 < a) := iI_ltD (a := 12) (by omega) (by omega) h1 h2
theorem qm12 {a : Int} (h1 : -2147483648 ≤ a) (h2 : a < 2147483648) : (iI a ≤ (12 : Int32)) = (a ≤ 12) := iI_leD h1 h2 (b := 12) (by omega) (by omega)
theorem qM12 {a : Int} (h1 : -2147483648 ≤ a) (h2 : a < 2147483648) : ((12 : Int32) ≤ iI a) = (12 ≤ a) := iI_leD (a := 12) (by omega) (by omega) h1 h2
theorem qa12 {a : Int} : iI a + 12 = iI (a + 12) := iI_add a 12
theorem qs12 {a : Int} : iI a - 12 = iI (a - 12) := iI_sub a 12
theorem qx12 {a : Int} : iI a * 12 = iI (a * 12) := iI_mul a 12
theorem qy12 {a : Int} : 12 * iI a = iI (12 * a) := iI_mul 12 a
theorem qe13 {a : Int} (h1 : -2147483648 ≤ a) (h2 : a < 2147483648) : (iI a = (13 : Int32)) = (a = 13) := iI_eqD h1 h2 (b := 13) (by omega) (by omega)
theorem ql13 {a : Int} (h1 : -2147483648 ≤ a) (h2 : a < 2147483648) : (iI a < (13 : Int32)) = (a < 13) := iI_ltD h1 h2 (b := 13) (by omega) (by omega)
theorem qg13 {a : Int} (h1 : -2147483648 ≤ a) (h2 : a < 2147483648) : ((13 : Int32) < iI a) = (13 < a) := iI_ltD (a := 13) (by omega) (by omega) h1 h2
theorem qm13 {a : Int} (h1 : -2147483648 ≤ a) (h2 : a < 2147483648) : (iI a ≤ (13 : Int32)) = (a ≤ 13) := iI_leD h1 h2 (b := 13) (by omega) (by omega)
theorem qM13 {a : Int} (h1 : -2147483648 ≤ a) (h2 : a < 2147483648) : ((13 : Int32) ≤ iI a) = (13 ≤ a) := iI_leD (a := 13) (by omega) (by omega) h1 h2
theorem qa13 {a : Int} : iI a + 13 = iI (a + 13) := iI_add a 13
theorem qs13 {a : Int} : iI a - 13 = iI (a - 13) := iI_sub a 13
theorem qx13 {a : Int} : iI a * 13 = iI (a * 13) := iI_mul a 13
theorem qy13 {a : Int} : 13 * iI a = iI (13 * a) := iI_mul 13 a
theorem qe16 {a : Int} (h1 : -2147483648 ≤ a) (h2 : a < 2147483648) : (iI a = (16 : Int32)) = (a = 16) := iI_eqD h1 h2 (b := 16) (by omega) (by omega)
theorem ql16 {a : Int} (h1 : -2147483648 ≤ a) (h2 : a < 2147483648) : (iI a < (16 : Int32)) = (a < 16) := iI_ltD h1 h2 (b := 16) (by omega) (by omega)
theorem qg16 {a : Int} (h1 : -2147483648 ≤ a) (h2 : a < 2147483648) : ((16 : Int32) < iI a) = (16 < a) := iI_ltD (a := 16) (by omega) (by omega) h1 h2
theorem qm16 {a : Int} (h1 : -2147483648 ≤ a) (h2 : a < 2147483648) : (iI a ≤ (16 : Int32)) = (a ≤ 16) := iI_leD h1 h2 (b := 16) (by omega) (by omega)
theorem qM16 {a : Int} (h1 : -2147483648 ≤ a) (h2 : a < 2147483648) : ((16 : Int32) ≤ iI a) = (16 ≤ a) := iI_leD (a := 16) (by omega) (by omega) h1 h2
theorem qa16 {a : Int} : iI a + 16 = iI (a + 16) := iI_add a 16
theorem qs16 {a : Int} : iI a - 16 = iI (a - 16) := iI_sub a 16
theorem qx16 {a : Int} : iI a * 16 = iI (a * 16) := iI_mul a 16
theorem qy16 {a : Int} : 16 * iI a = iI (16 * a) := iI_mul 16 a
theorem qe20 {a : Int} (h1 : -2147483648 ≤ a) (h2 : a < 2147483648) : (iI a = (20 : Int32)) = (a = 20) := iI_eqD h1 h2 (b := 20) (by omega) (by omega)
theorem ql20 {a : Int} (h1 : -2147483648 ≤ a) (h2 : a < 2147483648) : (iI a < (20 : Int32)) = (a < 20) := iI_ltD h1 h2 (b := 20) (by omega) (by omega)
theorem qg20 {a : Int} (h1 : -2147483648 ≤ a) (h2 : a < 2147483648) : ((20 : Int32) < iI a) = (20 < a) := iI_ltD (a := 20) (by omega) (by omega) h1 h2
theorem qm20 {a : Int} (h1 : -2147483648 ≤ a) (h2 : a < 2147483648) : (iI a ≤ (20 : Int32)) = (a ≤ 20) := iI_leD h1 h2 (b := 20) (by omega) (by omega)
theorem qM20 {a : Int} (h1 : -2147483648 ≤ a) (h2 : a < 2147483648) : ((20 : Int32) ≤ iI a) = (20 ≤ a) := iI_leD (a := 20) (by omega) (by omega) h1 h2
theorem qa20 {a : Int} : iI a + 20 = iI (a + 20) := iI_add a 20
theorem qs20 {a : Int} : iI a - 20 = iI (a - 20) := iI_sub a 20
theorem qx20 {a : Int} : iI a * 20 = iI (a * 20) := iI_mul a 20
theorem qy20 {a : Int} : 20 * iI a = iI (20 * a) := iI_mul 20 a
theorem qe23 {a : Int} (h1 : -2147483648 ≤ a) (h2 : a < 2147483648) : (iI a = (23 : Int32)) = (a = 23) := iI_eqD h1 h2 (b := 23) (by omega) (by omega)
theorem ql23 {a : Int} (h1 : -2147483648 ≤ a) (h2 : a < 2147483648) : (iI a < (23 : Int32)) = (a < 23) := iI_ltD h1 h2 (b := 23) (by omega) (by omega)
theorem qg23 {a : Int} (h1 : -2147483648 ≤ a) (h2 : a < 2147483648) : ((23 : Int32) < iI a) = (23 < a) := iI_ltD (a := 23) (by omega) (by omega) h1 h2
theorem qm23 {a : Int} (h1 : -2147483648 ≤ a) (h2 : a < 2147483648) : (iI a ≤ (23 : Int32)) = (a ≤ 23) := iI_leD h1 h2 (b := 23) (by omega) (by omega)
theorem qM23 {a : Int} (h1 : -2147483648 ≤ a) (h2 : a < 2147483648) : ((23 : Int32) ≤ iI a) = (23 ≤ a) := iI_leD (a := 23) (by omega) (by omega) h1 h2
theorem qa23 {a : Int} : iI a + 23 = iI (a + 23) := iI_add a 23
theorem qs23 {a : Int} : iI a - 23 = iI (a - 23) := iI_sub a 23
theorem qx23 {a : Int} : iI a * 23 = iI (a * 23) := iI_mul a 23
theorem qy23 {a : Int} : 23 * iI a = iI (23 * a) := iI_mul 23 a
theorem qe24 {a : Int} (h1 : -2147483648 ≤ a) (h2 : a < 2147483648) : (iI a = (24 : Int32)) = (a = 24) := iI_eqD h1 h2 (b := 24) (by omega) (by omega)
theorem ql24 {a : Int} (h1 : -2147483648 ≤ a) (h2 : a < 2147483648) : (iI a < (24 : Int32)) = (a < 24) := iI_ltD h1 h2 (b := 24) (by omega) (by omega)
theorem qg24 {a : Int} (h1 : -2147483648 ≤ a) (h2 : a < 2147483648) : ((24 : Int32) < iI a) = (24 < a) := iI_ltD (a := 24) (by omega) (by omega) h1 h2
theorem qm24 {a : Int} (h1 : -2147483648 ≤ a) (h2 : a < 2147483648) : (iI a ≤ (24 : Int32)) = (a ≤ 24) := iI_leD h1 h2 (b := 24) (by omega) (by omega)
theorem qM24 {a : Int} (h1 : -2147483648 ≤ a) (h2 : a < 2147483648) : ((24 : Int32) ≤ iI a) = (24 ≤ a) := iI_leD (a := 24) (by omega) (by omega) h1 h2
theorem qa24 {a : Int} : iI a + 24 = iI (a + 24) := iI_add a 24
theorem qs24 {a : Int} : iI a - 24 = iI (a - 24) := iI_sub a 24
theorem qx24 {a : Int} : iI a * 24 = iI (a * 24) := iI_mul a 24
theorem qy24 {a : Int} : 24 * iI a = iI (24 * a) := iI_mul 24 a
theorem qe25 {a : Int} (h1 : -2147483648 ≤ a) (h2 : a < 2147483648) : (iI a = (25 : Int32)) = (a = 25) := iI_eqD h1 h2 (b := 25) (by omega) (by omega)
theorem ql25 {a : Int} (h1 : -2147483648 ≤ a) (h2 : a < 2147483648) : (iI a < (25 : Int32)) = (a < 25) := iI_ltD h1 h2 (b := 25) (by omega) (by omega)
theorem qg25 {a : Int} (h1 : -2147483648 ≤ a) (h2 : a < 2147483648) : ((25 : Int32) < iI a) = (25 < a) := iI_ltD (a := 25) (by omega) (by omega) h1 h2
theorem qm25 {a : Int} (h1 : -2147483648 ≤ a) (h2 : a < 2147483648) : (iI a ≤ (25 : Int32)) = (a ≤ 25) := iI_leD h1 h2 (b := 25) (by omega) (by omega)
theorem qM25 {a : Int} (h1 : -2147483648 ≤ a) (h2 : a < 2147483648) : ((25 : Int32) ≤ iI a) = (25 ≤ a) := iI_leD (a := 25) (by omega) (by omega) h1 h2
theorem qa25 {a : Int} : iI a + 25 = iI (a + 25) := iI_add a 25
theorem qs25 {a : Int} : iI a - 25 = iI (a - 25) := iI_sub a 25
theorem qx25 {a : Int} : iI a * 25 = iI (a * 25) := iI_mul a 25
theorem qy25 {a : Int} : 25 * iI a = iI (25 * a) := iI_mul 25 a
theorem qe30 {a : Int} (h1 : -2147483648 ≤ a) (h2 : a < 2147483648) : (iI a = (30 : Int32)) = (a = 30) := iI_eqD h1 h2 (b := 30) (by omega) (by omega)
theorem ql30 {a : Int} (h1 : -2147483648 ≤ a) (h2 : a < 2147483648) : (iI a < (30 : Int32)) = (a < 30) := iI_ltD h1 h2 (b := 30) (by omega) (by omega)
theorem qg30 {a : Int} (h1 : -2147483648 ≤ a) (h2 : a < 2147483648) : ((30 : Int32) < iI a) = (30 < a) := iI_ltD (a := 30) (by omega) (by omega) h1 h2
theorem qm30 {a : Int} (h1 : -2147483648 ≤ a) (h2 : a < 2147483648) : (iI a ≤ (30 : Int32)) = (a ≤ 30) := iI_leD h1 h2 (b := 30) (by omega) (by omega)
theorem qM30 {a : Int} (h1 : -2147483648 ≤ a) (h2 : a < 2147483648) : ((30 : Int32) ≤ iI a) = (30 ≤ a) := iI_leD (a := 30) (by omega) (by omega) h1 h2
theorem qa30 {a : Int} : iI a + 30 = iI (a + 30) := iI_add a 30
theorem qs30 {a : Int} : iI a - 30 = iI (a - 30) := iI_sub a 30
theorem qx30 {a : Int} : iI a * 30 = iI (a * 30) := iI_mul a 30
theorem qy30 {a : Int} : 30 * iI a = iI (30 * a) := iI_mul 30 a
theorem qe31 {a : Int} (h1 : -2147483648 ≤ a) (h2 : a < 2147483648) : (iI a = (31 : Int32)) = (a = 31) := iI_eqD h1 h2 (b := 31) (by omega) (by omega)
theorem ql31 {a : Int} (h1 : -2147483648 ≤ a) (h2 : a < 2147483648) : (iI a < (31 : Int32)) = (a < 31) := iI_ltD h1 h2 (b := 31) (by omega) (by omega)
theorem qg31 {a : Int} (h1 : -2147483648 ≤ a) (h2 : a < 2147483648) : ((31 : Int32) < iI a) = (31 < a) := iI_ltD (a := 31) (by omega) (by omega) h1 h2
theorem qm31 {a : Int} (h1 : -2147483648 ≤ a) (h2 : a < 2147483648) : (iI a ≤ (31 : Int32)) = (a ≤ 31) := iI_leD h1 h2 (b := 31) (by omega) (by omega)
theorem qM31 {a : Int} (h1 : -2147483648 ≤ a) (h2 : a < 2147483648) : ((31 : Int32) ≤ iI a) = (31 ≤ a) := iI_leD (a := 31) (by omega) (by omega) h1 h2
theorem qa31 {a : Int} : iI a + 31 = iI (a + 31) := iI_add a 31
theorem qs31 {a : Int} : iI a - 31 = iI (a - 31) := iI_sub a 31
theorem qx31 {a : Int} : iI a * 31 = iI (a * 31) := iI_mul a 31
theorem qy31 {a : Int} : 31 * iI a = iI (31 * a) := iI_mul 31 a
theorem qe32 {a : Int} (h1 : -2147483648 ≤ a) (h2 : a < 2147483648) : (iI a = (32 : Int32)) = (a = 32) := iI_eqD h1 h2 (b := 32) (by omega) (by omega)
theorem ql32 {a : Int} (h1 : -2147483648 ≤ a) (h2 : a < 2147483648) : (iI a < (32 : Int32)) = (a < 32) := iI_ltD h1 h2 (b := 32) (by omega) (by omega)
theorem qg32 {a : Int} (h1 : -2147483648 ≤ a) (h2 : a < 2147483648) : ((32 : Int32) < iI a) = (32 < a) := iI_ltD (a := 32) (by omega) (by omega) h1 h2
theorem qm32 {a : Int} (h1 : -2147483648 ≤ a) (h2 : a < 2147483648) : (iI a ≤ (32 : Int32)) = (a ≤ 32) := iI_leD h1 h2 (b := 32) (by omega) (by omega)
theorem qM32 {a : Int} (h1 : -2147483648 ≤ a) (h2 : a < 2147483648) : ((32 : Int32) ≤ iI a) = (32 ≤ a) := iI_leD (a := 32) (by omega) (by omega) h1 h2
theorem qa32 {a : Int} : iI a + 32 = iI (a + 32) := iI_add a 32
theorem qs32 {a : Int} : iI a - 32 = iI (a - 32) := iI_sub a 32
theorem qx32 {a : Int} : iI a * 32 = iI (a * 32) := iI_mul a 32
theorem qy32 {a : Int} : 32 * iI a = iI (32 * a) := iI_mul 32 a
theorem qe48 {a : Int} (h1 : -2147483648 ≤ a) (h2 : a < 2147483648) : (iI a = (48 : Int32)) = (a = 48) := iI_eqD h1 h2 (b := 48) (by omega) (by omega)
theorem ql48 {a : Int} (h1 : -2147483648 ≤ a) (h2 : a < 2147483648) : (iI a < (48 : Int32)) = (a < 48) := iI_ltD h1 h2 (b := 48) (by omega) (by omega)
theorem qg48 {a : Int} (h1 : -2147483648 ≤ a) (h2 : a < 2147483648) : ((48 : Int32) < iI a) = (48 < a) := iI_ltD (a := 48) (by omega) (by omega) h1 h2
theorem qm48 {a : Int} (h1 : -2147483648 ≤ a) (h2 : a < 2147483648) : (iI a ≤ (48 : Int32)) = (a ≤ 48) := iI_leD h1 h2 (b := 48) (by omega) (by omega)
theorem qM48 {a : Int} (h1 : -2147483648 ≤ a) (h2 : a < 2147483648) : ((48 : Int32) ≤ iI a) = (48 ≤ a) := iI_leD (a := 48) (by omega) (by omega) h1 h2
theorem qa48 {a : Int} : iI a + 48 = iI (a + 48) := iI_add a 48
theorem qs48 {a : Int} : iI a - 48 = iI (a - 48) := iI_sub a 48
theorem qx48 {a : Int} : iI a * 48 = iI (a * 48) := iI_mul a 48
theorem qy48 {a : Int} : 48 * iI a = iI (48 * a) := iI_mul 48 a
theorem qe57 {a : Int} (h1 : -2147483648 ≤ a) (h2 : a < 2147483648) : (iI a = (57 : Int32)) = (a = 57) := iI_eqD h1 h2 (b := 57) (by omega) (by omega)
theorem ql57 {a : Int} (h1 : -2147483648 ≤ a) (h2 : a < 2147483648) : (iI a < (57 : Int32)) = (a < 57) := iI_ltD h1 h2 (b := 57) (by omega) (by omega)
theorem qg57 {a : Int} (h1 : -2147483648 ≤ a) (h2 : a < 2147483648) : ((57 : Int32) < iI a) = (57 < a) := iI_ltD (a := 57) (by omega) (by omega) h1 h2
theorem qm57 {a : Int} (h1 : -2147483648 ≤ a) (h2 : a < 2147483648) : (iI a ≤ (57 : Int32)) = (a ≤ 57) := iI_leD h1 h2 (b := 57) (by omega) (by omega)
theorem qM57 {a : Int} (h1 : -2147483648 ≤ a) (h2 : a < 2147483648) : ((57 : Int32) ≤ iI a) = (57 ≤ a) := iI_leD (a := 57) (by omega) (by omega) h1 h2
theorem qa57 {a : Int} : iI a + 57 = iI (a + 57) := iI_add a 57
theorem qs57 {a : Int} : iI a - 57 = iI (a - 57) := iI_sub a 57
theorem qx57 {a : Int} : iI a * 57 = iI (a * 57) := iI_mul a 57
theorem qy57 {a : Int} : 57 * iI a = iI (57 * a) := iI_mul 57 a
theorem qe59 {a : Int} (h1 : -2147483648 ≤ a) (h2 : a < 2147483648) : (iI a = (59 : Int32)) = (a = 59) := iI_eqD h1 h2 (b := 59) (by omega) (by omega)
theorem ql59 {a : Int} (h1 : -2147483648 ≤ a) (h2 : a < 2147483648) : (iI a < (59 : Int32)) = (a < 59) := iI_ltD h1 h2 (b := 59) (by omega) (by omega)
theorem qg59 {a : Int} (h1 : -2147483648 ≤ a) (h2 : a < 2147483648) : ((59 : Int32) < iI a) = (59 < a) := iI_ltD (a := 59) (by omega) (by omega) h1 h2
theorem qm59 {a : Int} (h1 : -2147483648 ≤ a) (h2 : a < 2147483648) : (iI a ≤ (59 : Int32)) = (a ≤ 59) := iI_leD h1 h2 (b := 59) (by omega) (by omega)
theorem qM59 {a : Int} (h1 : -2147483648 ≤ a) (h2 : a < 2147483648) : ((59 : Int32) ≤ iI a) = (59 ≤ a) := iI_leD (a := 59) (by omega) (by omega) h1 h2
theorem qa59 {a : Int} : iI a + 59 = iI (a + 59) := iI_add a 59
theorem qs59 {a : Int} : iI a - 59 = iI (a - 59) := iI_sub a 59
theorem qx59 {a : Int} : iI a * 59 = iI (a * 59) := iI_mul a 59
theorem qy59 {a : Int} : 59 * iI a = iI (59 * a) := iI_mul 59 a
theorem qe60 {a : Int} (h1 : -2147483648 ≤ a) (h2 : a < 2147483648) : (iI a = (60 : Int32)) = (a = 60) := iI_eqD h1 h2 (b := 60) (by omega) (by omega)
theorem ql60 {a : Int} (h1 : -2147483648 ≤ a) (h2 : a < 2147483648) : (iI a < (60 : Int32)) = (a < 60) := iI_ltD h1 h2 (b := 60) (by omega) (by omega)
theorem qg60 {a : Int} (h1 : -2147483648 ≤ a) (h2 : a < 2147483648) : ((60 : Int32) < iI a) = (60 < a) := iI_ltD (a := 60) (by omega) (by omega) h1 h2
theorem qm60 {a : Int} (h1 : -2147483648 ≤ a) (h2 : a < 2147483648) : (iI a ≤ (60 : Int32)) = (a ≤ 60) := iI_leD h1 h2 (b := 60) (by omega) (by omega)
theorem qM60 {a : Int} (h1 : -2147483648 ≤ a) (h2 : a < 2147483648) : ((60 : Int32) ≤ iI a) = (60 ≤ a) := iI_leD (a := 60) (by omega) (by omega) h1 h2
theorem qa60 {a : Int} : iI a + 60 = iI (a + 60) := iI_add a 60
theorem qs60 {a : Int} : iI a - 60 = iI (a - 60) := iI_sub a 60
theorem qx60 {a : Int} : iI a * 60 = iI (a * 60) := iI_mul a 60
theorem qy60 {a : Int} : 60 * iI a = iI (60 * a) := iI_mul 60 a
theorem qe96 {a : Int} (h1 : -2147483648 ≤ a) (h2 : a < 2147483648) : (iI a = (96 : Int32)) = (a = 96) := iI_eqD h1 h2 (b := 96) (by omega) (by omega)
theorem ql96 {a : Int} (h1 : -2147483648 ≤ a) (h2 : a < 2147483648) : (iI a < (96 : Int32)) = (a < 96) := iI_ltD h1 h2 (b := 96) (by omega) (by omega)
theorem qg96 {a : Int} (h1 : -2147483648 ≤ a) (h2 : a < 2147483648) : ((96 : Int32) < iI a) = (96 < a) := iI_ltD (a := 96) (by omega) (by omega) h1 h2
theorem qm96 {a : Int} (h1 : -2147483648 ≤ a) (h2 : a < 2147483648) : (iI a ≤ (96 : Int32)) = (a ≤ 96) := iI_leD h1 h2 (b := 96) (by omega) (by omega)
theorem qM96 {a : Int} (h1 : -2147483648 ≤ a) (h2 : a < 2147483648) : ((96 : Int32) ≤ iI a) = (96 ≤ a) := iI_leD (a := 96) (by omega) (by omega) h1 h2
theorem qa96 {a : Int} : iI a + 96 = iI (a + 96) := iI_add a 96
theorem qs96 {a : Int} : iI a - 96 = iI (a - 96) := iI_sub a 96
theorem qx96 {a : Int} : iI a * 96 = iI (a * 96) := iI_mul a 96
theorem qy96 {a : Int} : 96 * iI a = iI (96 * a) := iI_mul 96 a
theorem qe97 {a : Int} (h1 : -2147483648 ≤ a) (h2 : a < 2147483648) : (iI a = (97 : Int32)) = (a = 97) := iI_eqD h1 h2 (b := 97) (by omega) (by omega)
theorem ql97 {a : Int} (h1 : -2147483648 ≤ a) (h2 : a < 2147483648) : (iI a < (97 : Int32)) = (a < 97) := iI_ltD h1 h2 (b := 97) (by omega) (by omega)
theorem qg97 {a : Int} (h1 : -2147483648 ≤ a) (h2 : a < 2147483648) : ((97 : Int32) < iI a) = (97 < a) := iI_ltD (a := 97) (by omega) (by omega) h1 h2
theorem qm97 {a : Int} (h1 : -2147483648 ≤ a) (h2 : a < 2147483648) : (iI a ≤ (97 : Int32)) = (a ≤ 97) := iI_leD h1 h2 (b := 97) (by omega) (by omega)
theorem qM97 {a : Int} (h1 : -2147483648 ≤ a) (h2 : a < 2147483648) : ((97 : Int32) ≤ iI a) = (97 ≤ a) := iI_leD (a := 97) (by omega) (by omega) h1 h2
theorem qa97 {a : Int} : iI a + 97 = iI (a + 97) := iI_add a 97
theorem qs97 {a : Int} : iI a - 97 = iI (a - 97) := iI_sub a 97
theorem qx97 {a : Int} : iI a * 97 = iI (a * 97) := iI_mul a 97
theorem qy97 {a : Int} : 97 * iI a = iI (97 * a) := iI_mul 97 a
theorem qe99 {a : Int} (h1 : -2147483648 ≤ a) (h2 : a < 2147483648) : (iI a = (99 : Int32)) = (a = 99) := iI_eqD h1 h2 (b := 99) (by omega) (by omega)
theorem ql99 {a : Int} (h1 : -2147483648 ≤ a) (h2 : a < 2147483648) : (iI a < (99 : Int32)) = (a < 99) := iI_ltD h1 h2 (b := 99) (by omega) (by omega)
theorem qg99 {a : Int} (h1 : -2147483648 ≤ a) (h2 : a < 2147483648) : ((99 : Int32) < iI a) = (99 < a) := iI_ltD (a := 99) (by omega) (by omega) h1 h2
theorem qm99 {a : Int} (h1 : -2147483648 ≤ a) (h2 : a < 2147483648) : (iI a ≤ (99 : Int32)) = (a ≤ 99) := iI_leD h1 h2 (b := 99) (by omega) (by omega)
theorem qM99 {a : Int} (h1 : -2147483648 ≤ a) (h2 : a < 2147483648) : ((99 : Int32) ≤ iI a) = (99 ≤ a) := iI_leD (a := 99) (by omega) (by omega) h1 h2
theorem qa99 {a : Int} : iI a + 99 = iI (a + 99) := iI_add a 99
theorem qs99 {a : Int} : iI a - 99 = iI (a - 99) := iI_sub a 99
theorem qx99 {a : Int} : iI a * 99 = iI (a * 99) := iI_mul a 99
theorem qy99 {a : Int} : 99 * iI a = iI (99 * a) := iI_mul 99 a
theorem qe100 {a : Int} (h1 : -2147483648 ≤ a) (h2 : a < 2147483648) : (iI a = (100 : Int32)) = (a = 100) := iI_eqD h1 h2 (b := 100) (by omega) (by omega)
theorem ql100 {a : Int} (h1 : -2147483648 ≤ a) (h2 : a < 2147483648) : (iI a < (100 : Int32)) = (a < 100) := iI_ltD h1 h2 (b := 100) (by omega) (by omega)
theorem qg100 {a : Int} (h1 : -2147483648 ≤ a) (h2 : a < 2147483648) : ((100 : Int32) < iI a) = (100 < a) := iI_ltD (a := 100) (by omega) (by omega) h1 h2
theorem qm100 {a : Int} (h1 : -2147483648 ≤ a) (h2 : a < 2147483648) : (iI a ≤ (100 : Int32)) = (a ≤ 100) := iI_leD h1 h2 (b := 100) (by omega) (by omega)
theorem qM100 {a : Int} (h1 : -2147483648 ≤ a) (h2 : a < 2147483648) : ((100 : Int32) ≤ iI a) = (100 ≤ a) := iI_leD (a := 100) (by omega) (by omega) h1 h2
theorem qa100 {a : Int} : iI a + 100 = iI (a + 100) := iI_add a 100
theorem qs100 {a : Int} : iI a - 100 = iI (a - 100) := iI_sub a 100
theorem qx100 {a : Int} : iI a * 100 = iI (a * 100) := iI_mul a 100
theorem qy100 {a : Int} : 100 * iI a = iI (100 * a) := iI_mul 100 a
theorem qe122 {a : Int} (h1 : -2147483648 ≤ a) (h2 : a < 2147483648) : (iI a = (122 : Int32)) = (a = 122) := iI_eqD h1 h2 (b := 122) (by omega) (by omega)
theorem ql122 {a : Int} (h1 : -2147483648 ≤ a) (h2 : a < 2147483648) : (iI a < (122 : Int32)) = (a < 122) := iI_ltD h1 h2 (b := 122) (by omega) (by omega)
theorem qg122 {a : Int} (h1 : -2147483648 ≤ a) (h2 : a < 2147483648) : ((122 : Int32) < iI a) = (122 < a) := iI_ltD (a := 122) (by omega) (by omega) h1 h2
theorem qm122 {a : Int} (h1 : -2147483648 ≤ a) (h2 : a < 2147483648) : (iI a ≤ (122 : Int32)) = (a ≤ 122) := iI_leD h1 h2 (b := 122) (by omega) (by omega)
theorem qM122 {a : Int} (h1 : -2147483648 ≤ a) (h2 : a < 2147483648) : ((122 : Int32) ≤ iI a) = (122 ≤ a) := iI_leD (a := 122) (by omega) (by omega) h1 h2
theorem qa122 {a : Int} : iI a + 122 = iI (a + 122) := iI_add a 122
theorem qs122 {a : Int} : iI a - 122 = iI (a - 122) := iI_sub a 122
theorem qx122 {a : Int} : iI a * 122 = iI (a * 122) := iI_mul a 122
theorem qy122 {a : Int} : 122 * iI a = iI (122 * a) := iI_mul 122 a
theorem qe600 {a : Int} (h1 : -2147483648 ≤ a) (h2 : a < 2147483648) : (iI a = (600 : Int32)) = (a = 600) := iI_eqD h1 h2 (b := 600) (by omega) (by omega)
theorem ql600 {a : Int} (h1 : -2147483648 ≤ a) (h2 : a < 2147483648) : (iI a < (600 : Int32)) = (a < 600) := iI_ltD h1 h2 (b := 600) (by omega) (by omega)
theorem qg600 {a : Int} (h1 : -2147483648 ≤ a) (h2 : a < 2147483648) : ((600 : Int32) < iI a) = (600 < a) := iI_ltD (a := 600) (by omega) (by omega) h1 h2
theorem qm600 {a : Int} (h1 : -2147483648 ≤ a) (h2 : a < 2147483648) : (iI a ≤ (600 : Int32)) = (a ≤ 600) := iI_leD h1 h2 (b := 600) (by omega) (by omega)
theorem qM600 {a : Int} (h1 : -2147483648 ≤ a) (h2 : a < 2147483648) : ((600 : Int32) ≤ iI a) = (600 ≤ a) := iI_leD (a := 600) (by omega) (by omega) h1 h2
theorem qa600 {a : Int} : iI a + 600 = iI (a + 600) := iI_add a 600
theorem qs600 {a : Int} : iI a - 600 = iI (a - 600) := iI_sub a 600
theorem qx600 {a : Int} : iI a * 600 = iI (a * 600) := iI_mul a 600
theorem qy600 {a : Int} : 600 * iI a = iI (600 * a) := iI_mul 600 a
theorem qe999 {a : Int} (h1 : -2147483648 ≤ a) (h2 : a < 2147483648) : (iI a = (999 : Int32)) = (a = 999) := iI_eqD h1 h2 (b := 999) (by omega) (by omega)
theorem ql999 {a : Int} (h1 : -2147483648 ≤ a) (h2 : a < 2147483648) : (iI a < (999 : Int32)) = (a < 999) := iI_ltD h1 h2 (b := 999) (by omega) (by omega)
theorem qg999 {a : Int} (h1 : -2147483648 ≤ a) (h2 : a < 2147483648) : ((999 : Int32) < iI a) = (999 < a) := iI_ltD (a := 999) (by omega) (by omega) h1 h2
theorem qm999 {a : Int} (h1 : -2147483648 ≤ a) (h2 : a < 2147483648) : (iI a ≤ (999 : Int32)) = (a ≤ 999) := iI_leD h1 h2 (b := 999) (by omega) (by omega)
theorem qM999 {a : Int} (h1 : -2147483648 ≤ a) (h2 : a < 2147483648) : ((999 : Int32) ≤ iI a) = (999 ≤ a) := iI_leD (a := 999) (by omega) (by omega) h1 h2
theorem qa999 {a : Int} : iI a + 999 = iI (a + 999) := iI_add a 999
theorem qs999 {a : Int} : iI a - 999 = iI (a - 999) := iI_sub a 999
theorem qx999 {a : Int} : iI a * 999 = iI (a * 999) := iI_mul a 999
theorem qy999 {a : Int} : 999 * iI a = iI (999 * a) := iI_mul 999 a
theorem qe3599 {a : Int} (h1 : -2147483648 ≤ a) (h2 : a < 2147483648) : (iI a = (3599 : Int32)) = (a = 3599) := iI_eqD h1 h2 (b := 3599) (by omega) (by omega)
theorem ql3599 {a : Int} (h1 : -2147483648 ≤ a) (h2 : a < 2147483648) : (iI a < (3599 : Int32)) = (a < 3599) := iI_ltD h1 h2 (b := 3599) (by omega) (by omega)
theorem qg3599 {a : Int} (h1 : -2147483648 ≤ a) (h2 : a < 2147483648) : ((3599 : Int32) < iI a) = (3599 < a) := iI_ltD (a := 3599) (by omega) (by omega) h1 h2
theorem qm3599 {a : Int} (h1 : -2147483648 ≤ a) (h2 : a < 2147483648) : (iI a ≤ (3599 : Int32)) = (a ≤ 3599) := iI_leD h1 h2 (b := 3599) (by omega) (by omega)
theorem qM3599 {a : Int} (h1 : -2147483648 ≤ a) (h2 : a < 2147483648) : ((3599 : Int32) ≤ iI a) = (3599 ≤ a) := iI_leD (a := 3599) (by omega) (by omega) h1 h2
theorem qa3599 {a : Int} : iI a + 3599 = iI (a + 3599) := iI_add a 3599
theorem qs3599 {a : Int} : iI a - 3599 = iI (a - 3599) := iI_sub a 3599
theorem qx3599 {a : Int} : iI a * 3599 = iI (a * 3599) := iI_mul a 3599
theorem qy3599 {a : Int} : 3599 * iI a = iI (3599 * a) := iI_mul 3599 a
theorem qe3600 {a : Int} (h1 : -2147483648 ≤ a) (h2 : a < 2147483648) : (iI a = (3600 : Int32)) = (a = 3600) := iI_eqD h1 h2 (b := 3600) (by omega) (by omega)
theorem ql3600 {a : Int} (h1 : -2147483648 ≤ a) (h2 : a < 2147483648) : (iI a < (3600 : Int32)) = (a < 3600) := iI_ltD h1 h2 (b := 3600) (by omega) (by omega)
theorem qg3600 {a : Int} (h1 : -2147483648 ≤ a) (h2 : a < 2147483648) : ((3600 : Int32) < iI a) = (3600 < a) := iI_ltD (a := 3600) (by omega) (by omega) h1 h2
theorem qm3600 {a : Int} (h1 : -2147483648 ≤ a) (h2 : a < 2147483648) : (iI a ≤ (3600 : Int32)) = (a ≤ 3600) := iI_leD h1 h2 (b := 3600) (by omega) (by omega)
theorem qM3600 {a : Int} (h1 : -2147483648 ≤ a) (h2 : a < 2147483648) : ((3600 : Int32) ≤ iI a) = (3600 ≤ a) := iI_leD (a := 3600) (by omega) (by omega) h1 h2
theorem qa3600 {a : Int} : iI a + 3600 = iI (a + 3600) := iI_add a 3600
theorem qs3600 {a : Int} : iI a - 3600 = iI (a - 3600) := iI_sub a 3600
theorem qx3600 {a : Int} : iI a * 3600 = iI (a * 3600) := iI_mul a 3600
theorem qy3600 {a : Int} : 3600 * iI a = iI (3600 * a) := iI_mul 3600 a
theorem qe9999 {a : Int} (h1 : -2147483648 ≤ a) (h2 : a < 2147483648) : (iI a = (9999 : Int32)) = (a = 9999) := iI_eqD h1 h2 (b := 9999) (by omega) (by omega)
theorem ql9999 {a : Int} (h1 : -2147483648 ≤ a) (h2 : a < 2147483648) : (iI a < (9999 : Int32)) = (a < 9999) := iI_ltD h1 h2 (b := 9999) (by omega) (by omega)
theorem qg9999 {a : Int} (h1 : -2147483648 ≤ a) (h2 : a < 2147483648) : ((9999 : Int32) < iI a) = (9999 < a) := iI_ltD (a := 9999) (by omega) (by omega) h1 h2
theorem qm9999 {a : Int} (h1 : -2147483648 ≤ a) (h2 : a < 2147483648) : (iI a ≤ (9999 : Int32)) = (a ≤ 9999) := iI_leD h1 h2 (b := 9999) (by omega) (by omega)
theorem qM9999 {a : Int} (h1 : -2147483648 ≤ a) (h2 : a < 2147483648) : ((9999 : Int32) ≤ iI a) = (9999 ≤ a) := iI_leD (a := 9999) (by omega) (by omega) h1 h2
theorem qa9999 {a : Int} : iI a + 9999 = iI (a + 9999) := iI_add a 9999
theorem qs9999 {a : Int} : iI a - 9999 = iI (a - 9999) := iI_sub a 9999
theorem qx9999 {a : Int} : iI a * 9999 = iI (a * 9999) := iI_mul a 9999
theorem qy9999 {a : Int} : 9999 * iI a = iI (9999 * a) := iI_mul 9999 a
theorem qe10000 {a : Int} (h1 : -2147483648 ≤ a) (h2 : a < 2147483648) : (iI a = (10000 : Int32)) = (a = 10000) := iI_eqD h1 h2 (b := 10000) (by omega) (by omega)
theorem ql10000 {a : Int} (h1 : -2147483648 ≤ a) (h2 : a < 2147483648) : (iI a < (10000 : Int32)) = (a < 10000) := iI_ltD h1 h2 (b := 10000) (by omega) (by omega)
theorem qg10000 {a : Int} (h1 : -2147483648 ≤ a) (h2 : a < 2147483648) : ((10000 : Int32) < iI a) = (10000 < a) := iI_ltD (a := 10000) (by omega) (by omega) h1 h2
theorem qm10000 {a : Int} (h1 : -2147483648 ≤ a) (h2 : a < 2147483648) : (iI a ≤ (10000 : Int32)) = (a ≤ 10000) := iI_leD h1 h2 (b := 10000) (by omega) (by omega)
theorem qM10000 {a : Int} (h1 : -2147483648 ≤ a) (h2 : a < 2147483648) : ((10000 : Int32) ≤ iI a) = (10000 ≤ a) := iI_leD (a := 10000) (by omega) (by omega) h1 h2
theorem qa10000 {a : Int} : iI a + 10000 = iI (a + 10000) := iI_add a 10000
theorem qs10000 {a : Int} : iI a - 10000 = iI (a - 10000) := iI_sub a 10000
theorem qx10000 {a : Int} : iI a * 10000 = iI (a * 10000) := iI_mul a 10000
theorem qy10000 {a : Int} : 10000 * iI a = iI (10000 * a) := iI_mul 10000 a
theorem qeM {a : Int} (h1 : -2147483648 ≤ a) (h2 : a < 2147483648) : (iI a = (-1 : Int32)) = (a = -1) := by rw [im1]; exact iI_eqD h1 h2 (by omega) (by omega)
theorem qaM {a : Int} : iI a + (-1) = iI (a + -1) := by rw [im1]; exact iI_add a (-1)

/-! the cells behind the constructors: x is 1, the reference 75, the law's row 84 -/
def zK0 : List Nat := [99, 9, 3, 13, 5, 14, 14, 14, 14, 14, 14, 14, 14, 14, 14, 14, 15, 14, 14, 0, 8, 5, 14, 14, 14, 14, 14, 14, 14, 14, 14, 14, 14, 14, 15, 15, 6, 15, 14, 14, 14, 15, 14, 14, 15, 15, 14, 14, 2, 4, 15, 14, 1, 14, 14, 14, 14, 14, 14, 14, 14, 7, 14, 14, 14, 14, 4, 15, 4, 15, 4, 15, 6, 15, 14, 12, 13, 13, 16, 14, 14, 14, 14, 14, 15]
def zL0 : List Nat := [0, 0, 0, 900, 0, 8, 8, 6, 6, 6, 6, 6, 17, 17, 17, 5, 19, 19, 19, 0, 0, 0, 8, 8, 6, 6, 6, 6, 6, 17, 17, 17, 5, 8, 2048, 64, 0, 4, 17, 17, 17, 17, 17, 17, 17, 17, 8, 8, 0, 0, 64, 8, 0, 8, 8, 8, 8, 8, 0, 0, 0, 0, 3, 3, 3, 3, 0, 64, 0, 64, 0, 64, 0, 4, 8, 0, 900, 32768, 4096, 32, 8, 8, 11, 33, 1]
def zR0 : List (Nat × Nat × Nat) := [(1, 0, 2), (1, 1, 19), (1, 2, 20), (1, 4, 48), (1, 5, 52), (1, 6, 61), (1, 7, 66), (1, 8, 68), (1, 9, 70), (1, 10, 72), (1, 11, 74), (2, 0, 3), (2, 12, 16), (2, 13, 17), (2, 14, 18), (4, 1, 5), (4, 3, 6), (4, 6, 7), (4, 7, 8), (4, 8, 9), (4, 9, 10), (4, 11, 11), (4, 15, 12), (4, 16, 13), (4, 17, 14), (4, 19, 15), (19, 0, 20), (19, 1, 36), (19, 5, 38), (19, 6, 39), (19, 7, 40), (19, 8, 41), (19, 10, 42), (19, 11, 43), (19, 12, 44), (19, 13, 45), (19, 15, 46), (19, 16, 47), (20, 3, 33), (20, 4, 34), (20, 5, 35), (21, 1, 22), (21, 3, 23), (21, 6, 24), (21, 7, 25), (21, 8, 26), (21, 9, 27), (21, 11, 28), (21, 15, 29), (21, 16, 30), (21, 17, 31), (21, 19, 32), (36, 0, 37), (48, 0, 49), (48, 3, 51), (49, 0, 50), (52, 8, 53), (52, 9, 54), (52, 10, 55), (52, 11, 56), (52, 12, 57), (61, 5, 62), (61, 6, 63), (61, 7, 64), (61, 8, 65), (66, 0, 67), (68, 0, 69), (70, 0, 71), (72, 0, 73), (75, 5, 76), (75, 16, 77), (75, 17, 78), (75, 18, 79), (75, 20, 80), (75, 25, 81), (75, 26, 82), (75, 27, 83)]
def Lay (t : zT) (m : zM) : Prop := 85 ≤ tN t ∧ (∀ i, i < 85 → tK t i = zK0.getD i 99 ∧ tL t i = zL0.getD i 0) ∧ ∀ q ∈ zR0, gR m q.1 q.2.1 = q.2.2
section
variable {t : zT} {m : zM}
theorem lk1 (L : Lay t m) : tK t 1 = 9 := (L.2.1 1 (by decide)).1
theorem lk2 (L : Lay t m) : tK t 2 = 3 := (L.2.1 2 (by decide)).1
theorem lk3 (L : Lay t m) : tK t 3 = 13 := (L.2.1 3 (by decide)).1
theorem ll3 (L : Lay t m) : tL t 3 = 900 := (L.2.1 3 (by decide)).2
theorem lk4 (L : Lay t m) : tK t 4 = 5 := (L.2.1 4 (by decide)).1
theorem lk5 (L : Lay t m) : tK t 5 = 14 := (L.2.1 5 (by decide)).1
theorem ll5 (L : Lay t m) : tL t 5 = 8 := (L.2.1 5 (by decide)).2
theorem lk6 (L : Lay t m) : tK t 6 = 14 := (L.2.1 6 (by decide)).1
theorem ll6 (L : Lay t m) : tL t 6 = 8 := (L.2.1 6 (by decide)).2
theorem lk7 (L : Lay t m) : tK t 7 = 14 := (L.2.1 7 (by decide)).1
theorem ll7 (L : Lay t m) : tL t 7 = 6 := (L.2.1 7 (by decide)).2
theorem lk8 (L : Lay t m) : tK t 8 = 14 := (L.2.1 8 (by decide)).1
theorem ll8 (L : Lay t m) : tL t 8 = 6 := (L.2.1 8 (by decide)).2
theorem lk9 (L : Lay t m) : tK t 9 = 14 := (L.2.1 9 (by decide)).1
theorem ll9 (L : Lay t m) : tL t 9 = 6 := (L.2.1 9 (by decide)).2
theorem lk10 (L : Lay t m) : tK t 10 = 14 := (L.2.1 10 (by decide)).1
theorem ll10 (L : Lay t m) : tL t 10 = 6 := (L.2.1 10 (by decide)).2
theorem lk11 (L : Lay t m) : tK t 11 = 14 := (L.2.1 11 (by decide)).1
theorem ll11 (L : Lay t m) : tL t 11 = 6 := (L.2.1 11 (by decide)).2
theorem lk12 (L : Lay t m) : tK t 12 = 14 := (L.2.1 12 (by decide)).1
theorem ll12 (L : Lay t m) : tL t 12 = 17 := (L.2.1 12 (by decide)).2
theorem lk13 (L : Lay t m) : tK t 13 = 14 := (L.2.1 13 (by decide)).1
theorem ll13 (L : Lay t m) : tL t 13 = 17 := (L.2.1 13 (by decide)).2
theorem lk14 (L : Lay t m) : tK t 14 = 14 := (L.2.1 14 (by decide)).1
theorem ll14 (L : Lay t m) : tL t 14 = 17 := (L.2.1 14 (by decide)).2
theorem lk15 (L : Lay t m) : tK t 15 = 14 := (L.2.1 15 (by decide)).1
theorem ll15 (L : Lay t m) : tL t 15 = 5 := (L.2.1 15 (by decide)).2
theorem lk16 (L : Lay t m) : tK t 16 = 15 := (L.2.1 16 (by decide)).1
theorem ll16 (L : Lay t m) : tL t 16 = 19 := (L.2.1 16 (by decide)).2
theorem lk17 (L : Lay t m) : tK t 17 = 14 := (L.2.1 17 (by decide)).1
theorem ll17 (L : Lay t m) : tL t 17 = 19 := (L.2.1 17 (by decide)).2
theorem lk18 (L : Lay t m) : tK t 18 = 14 := (L.2.1 18 (by decide)).1
theorem ll18 (L : Lay t m) : tL t 18 = 19 := (L.2.1 18 (by decide)).2
theorem lk19 (L : Lay t m) : tK t 19 = 0 := (L.2.1 19 (by decide)).1
theorem lk20 (L : Lay t m) : tK t 20 = 8 := (L.2.1 20 (by decide)).1
theorem lk21 (L : Lay t m) : tK t 21 = 5 := (L.2.1 21 (by decide)).1
theorem lk22 (L : Lay t m) : tK t 22 = 14 := (L.2.1 22 (by decide)).1
theorem ll22 (L : Lay t m) : tL t 22 = 8 := (L.2.1 22 (by decide)).2
theorem lk23 (L : Lay t m) : tK t 23 = 14 := (L.2.1 23 (by decide)).1
theorem ll23 (L : Lay t m) : tL t 23 = 8 := (L.2.1 23 (by decide)).2
theorem lk24 (L : Lay t m) : tK t 24 = 14 := (L.2.1 24 (by decide)).1
theorem ll24 (L : Lay t m) : tL t 24 = 6 := (L.2.1 24 (by decide)).2
theorem lk25 (L : Lay t m) : tK t 25 = 14 := (L.2.1 25 (by decide)).1
theorem ll25 (L : Lay t m) : tL t 25 = 6 := (L.2.1 25 (by decide)).2
theorem lk26 (L : Lay t m) : tK t 26 = 14 := (L.2.1 26 (by decide)).1
theorem ll26 (L : Lay t m) : tL t 26 = 6 := (L.2.1 26 (by decide)).2
theorem lk27 (L : Lay t m) : tK t 27 = 14 := (L.2.1 27 (by decide)).1
theorem ll27 (L : Lay t m) : tL t 27 = 6 := (L.2.1 27 (by decide)).2
theorem lk28 (L : Lay t m) : tK t 28 = 14 := (L.2.1 28 (by decide)).1
theorem ll28 (L : Lay t m) : tL t 28 = 6 := (L.2.1 28 (by decide)).2
theorem lk29 (L : Lay t m) : tK t 29 = 14 := (L.2.1 29 (by decide)).1
theorem ll29 (L : Lay t m) : tL t 29 = 17 := (L.2.1 29 (by decide)).2
theorem lk30 (L : Lay t m) : tK t 30 = 14 := (L.2.1 30 (by decide)).1
theorem ll30 (L : Lay t m) : tL t 30 = 17 := (L.2.1 30 (by decide)).2
theorem lk31 (L : Lay t m) : tK t 31 = 14 := (L.2.1 31 (by decide)).1
theorem ll31 (L : Lay t m) : tL t 31 = 17 := (L.2.1 31 (by decide)).2
theorem lk32 (L : Lay t m) : tK t 32 = 14 := (L.2.1 32 (by decide)).1
theorem ll32 (L : Lay t m) : tL t 32 = 5 := (L.2.1 32 (by decide)).2
theorem lk33 (L : Lay t m) : tK t 33 = 14 := (L.2.1 33 (by decide)).1
theorem ll33 (L : Lay t m) : tL t 33 = 8 := (L.2.1 33 (by decide)).2
theorem lk34 (L : Lay t m) : tK t 34 = 15 := (L.2.1 34 (by decide)).1
theorem ll34 (L : Lay t m) : tL t 34 = 2048 := (L.2.1 34 (by decide)).2
theorem lk35 (L : Lay t m) : tK t 35 = 15 := (L.2.1 35 (by decide)).1
theorem ll35 (L : Lay t m) : tL t 35 = 64 := (L.2.1 35 (by decide)).2
theorem lk36 (L : Lay t m) : tK t 36 = 6 := (L.2.1 36 (by decide)).1
theorem lk37 (L : Lay t m) : tK t 37 = 15 := (L.2.1 37 (by decide)).1
theorem ll37 (L : Lay t m) : tL t 37 = 4 := (L.2.1 37 (by decide)).2
theorem lk38 (L : Lay t m) : tK t 38 = 14 := (L.2.1 38 (by decide)).1
theorem ll38 (L : Lay t m) : tL t 38 = 17 := (L.2.1 38 (by decide)).2
theorem lk39 (L : Lay t m) : tK t 39 = 14 := (L.2.1 39 (by decide)).1
theorem ll39 (L : Lay t m) : tL t 39 = 17 := (L.2.1 39 (by decide)).2
theorem lk40 (L : Lay t m) : tK t 40 = 14 := (L.2.1 40 (by decide)).1
theorem ll40 (L : Lay t m) : tL t 40 = 17 := (L.2.1 40 (by decide)).2
theorem lk41 (L : Lay t m) : tK t 41 = 15 := (L.2.1 41 (by decide)).1
theorem ll41 (L : Lay t m) : tL t 41 = 17 := (L.2.1 41 (by decide)).2
theorem lk42 (L : Lay t m) : tK t 42 = 14 := (L.2.1 42 (by decide)).1
theorem ll42 (L : Lay t m) : tL t 42 = 17 := (L.2.1 42 (by decide)).2
theorem lk43 (L : Lay t m) : tK t 43 = 14 := (L.2.1 43 (by decide)).1
theorem ll43 (L : Lay t m) : tL t 43 = 17 := (L.2.1 43 (by decide)).2
theorem lk44 (L : Lay t m) : tK t 44 = 15 := (L.2.1 44 (by decide)).1
theorem ll44 (L : Lay t m) : tL t 44 = 17 := (L.2.1 44 (by decide)).2
theorem lk45 (L : Lay t m) : tK t 45 = 15 := (L.2.1 45 (by decide)).1
theorem ll45 (L : Lay t m) : tL t 45 = 17 := (L.2.1 45 (by decide)).2
theorem lk46 (L : Lay t m) : tK t 46 = 14 := (L.2.1 46 (by decide)).1
theorem ll46 (L : Lay t m) : tL t 46 = 8 := (L.2.1 46 (by decide)).2
theorem lk47 (L : Lay t m) : tK t 47 = 14 := (L.2.1 47 (by decide)).1
theorem ll47 (L : Lay t m) : tL t 47 = 8 := (L.2.1 47 (by decide)).2
theorem lk48 (L : Lay t m) : tK t 48 = 2 := (L.2.1 48 (by decide)).1
theorem lk49 (L : Lay t m) : tK t 49 = 4 := (L.2.1 49 (by decide)).1
theorem lk50 (L : Lay t m) : tK t 50 = 15 := (L.2.1 50 (by decide)).1
theorem ll50 (L : Lay t m) : tL t 50 = 64 := (L.2.1 50 (by decide)).2
theorem lk51 (L : Lay t m) : tK t 51 = 14 := (L.2.1 51 (by decide)).1
theorem ll51 (L : Lay t m) : tL t 51 = 8 := (L.2.1 51 (by decide)).2
theorem lk52 (L : Lay t m) : tK t 52 = 1 := (L.2.1 52 (by decide)).1
theorem lk53 (L : Lay t m) : tK t 53 = 14 := (L.2.1 53 (by decide)).1
theorem ll53 (L : Lay t m) : tL t 53 = 8 := (L.2.1 53 (by decide)).2
theorem lk54 (L : Lay t m) : tK t 54 = 14 := (L.2.1 54 (by decide)).1
theorem ll54 (L : Lay t m) : tL t 54 = 8 := (L.2.1 54 (by decide)).2
theorem lk55 (L : Lay t m) : tK t 55 = 14 := (L.2.1 55 (by decide)).1
theorem ll55 (L : Lay t m) : tL t 55 = 8 := (L.2.1 55 (by decide)).2
theorem lk56 (L : Lay t m) : tK t 56 = 14 := (L.2.1 56 (by decide)).1
theorem ll56 (L : Lay t m) : tL t 56 = 8 := (L.2.1 56 (by decide)).2
theorem lk57 (L : Lay t m) : tK t 57 = 14 := (L.2.1 57 (by decide)).1
theorem ll57 (L : Lay t m) : tL t 57 = 8 := (L.2.1 57 (by decide)).2
theorem lk58 (L : Lay t m) : tK t 58 = 14 := (L.2.1 58 (by decide)).1
theorem ll58 (L : Lay t m) : tL t 58 = 0 := (L.2.1 58 (by decide)).2
theorem lk59 (L : Lay t m) : tK t 59 = 14 := (L.2.1 59 (by decide)).1
theorem ll59 (L : Lay t m) : tL t 59 = 0 := (L.2.1 59 (by decide)).2
theorem lk60 (L : Lay t m) : tK t 60 = 14 := (L.2.1 60 (by decide)).1
theorem ll60 (L : Lay t m) : tL t 60 = 0 := (L.2.1 60 (by decide)).2
theorem lk61 (L : Lay t m) : tK t 61 = 7 := (L.2.1 61 (by decide)).1
theorem lk62 (L : Lay t m) : tK t 62 = 14 := (L.2.1 62 (by decide)).1
theorem ll62 (L : Lay t m) : tL t 62 = 3 := (L.2.1 62 (by decide)).2
theorem lk63 (L : Lay t m) : tK t 63 = 14 := (L.2.1 63 (by decide)).1
theorem ll63 (L : Lay t m) : tL t 63 = 3 := (L.2.1 63 (by decide)).2
theorem lk64 (L : Lay t m) : tK t 64 = 14 := (L.2.1 64 (by decide)).1
theorem ll64 (L : Lay t m) : tL t 64 = 3 := (L.2.1 64 (by decide)).2
theorem lk65 (L : Lay t m) : tK t 65 = 14 := (L.2.1 65 (by decide)).1
theorem ll65 (L : Lay t m) : tL t 65 = 3 := (L.2.1 65 (by decide)).2
theorem lk66 (L : Lay t m) : tK t 66 = 4 := (L.2.1 66 (by decide)).1
theorem lk67 (L : Lay t m) : tK t 67 = 15 := (L.2.1 67 (by decide)).1
theorem ll67 (L : Lay t m) : tL t 67 = 64 := (L.2.1 67 (by decide)).2
theorem lk68 (L : Lay t m) : tK t 68 = 4 := (L.2.1 68 (by decide)).1
theorem lk69 (L : Lay t m) : tK t 69 = 15 := (L.2.1 69 (by decide)).1
theorem ll69 (L : Lay t m) : tL t 69 = 64 := (L.2.1 69 (by decide)).2
theorem lk70 (L : Lay t m) : tK t 70 = 4 := (L.2.1 70 (by decide)).1
theorem lk71 (L : Lay t m) : tK t 71 = 15 := (L.2.1 71 (by decide)).1
theorem ll71 (L : Lay t m) : tL t 71 = 64 := (L.2.1 71 (by decide)).2
theorem lk72 (L : Lay t m) : tK t 72 = 6 := (L.2.1 72 (by decide)).1
theorem lk73 (L : Lay t m) : tK t 73 = 15 := (L.2.1 73 (by decide)).1
theorem ll73 (L : Lay t m) : tL t 73 = 4 := (L.2.1 73 (by decide)).2
theorem lk74 (L : Lay t m) : tK t 74 = 14 := (L.2.1 74 (by decide)).1
theorem ll74 (L : Lay t m) : tL t 74 = 8 := (L.2.1 74 (by decide)).2
theorem lk75 (L : Lay t m) : tK t 75 = 12 := (L.2.1 75 (by decide)).1
theorem lk76 (L : Lay t m) : tK t 76 = 13 := (L.2.1 76 (by decide)).1
theorem ll76 (L : Lay t m) : tL t 76 = 900 := (L.2.1 76 (by decide)).2
theorem lk77 (L : Lay t m) : tK t 77 = 13 := (L.2.1 77 (by decide)).1
theorem ll77 (L : Lay t m) : tL t 77 = 32768 := (L.2.1 77 (by decide)).2
theorem lk78 (L : Lay t m) : tK t 78 = 16 := (L.2.1 78 (by decide)).1
theorem ll78 (L : Lay t m) : tL t 78 = 4096 := (L.2.1 78 (by decide)).2
theorem lk79 (L : Lay t m) : tK t 79 = 14 := (L.2.1 79 (by decide)).1
theorem ll79 (L : Lay t m) : tL t 79 = 32 := (L.2.1 79 (by decide)).2
theorem lk80 (L : Lay t m) : tK t 80 = 14 := (L.2.1 80 (by decide)).1
theorem ll80 (L : Lay t m) : tL t 80 = 8 := (L.2.1 80 (by decide)).2
theorem lk81 (L : Lay t m) : tK t 81 = 14 := (L.2.1 81 (by decide)).1
theorem ll81 (L : Lay t m) : tL t 81 = 8 := (L.2.1 81 (by decide)).2
theorem lk82 (L : Lay t m) : tK t 82 = 14 := (L.2.1 82 (by decide)).1
theorem ll82 (L : Lay t m) : tL t 82 = 11 := (L.2.1 82 (by decide)).2
theorem lk83 (L : Lay t m) : tK t 83 = 14 := (L.2.1 83 (by decide)).1
theorem ll83 (L : Lay t m) : tL t 83 = 33 := (L.2.1 83 (by decide)).2
theorem lk84 (L : Lay t m) : tK t 84 = 15 := (L.2.1 84 (by decide)).1
theorem ll84 (L : Lay t m) : tL t 84 = 1 := (L.2.1 84 (by decide)).2
theorem lr1_0 (L : Lay t m) : gR m 1 0 = 2 := L.2.2 (1, 0, 2) (by decide)
theorem lr1_1 (L : Lay t m) : gR m 1 1 = 19 := L.2.2 (1, 1, 19) (by decide)
theorem lr1_2 (L : Lay t m) : gR m 1 2 = 20 := L.2.2 (1, 2, 20) (by decide)
theorem lr1_4 (L : Lay t m) : gR m 1 4 = 48 := L.2.2 (1, 4, 48) (by decide)
theorem lr1_5 (L : Lay t m) : gR m 1 5 = 52 := L.2.2 (1, 5, 52) (by decide)
theorem lr1_6 (L : Lay t m) : gR m 1 6 = 61 := L.2.2 (1, 6, 61) (by decide)
theorem lr1_7 (L : Lay t m) : gR m 1 7 = 66 := L.2.2 (1, 7, 66) (by decide)
theorem lr1_8 (L : Lay t m) : gR m 1 8 = 68 := L.2.2 (1, 8, 68) (by decide)
theorem lr1_9 (L : Lay t m) : gR m 1 9 = 70 := L.2.2 (1, 9, 70) (by decide)
theorem lr1_10 (L : Lay t m) : gR m 1 10 = 72 := L.2.2 (1, 10, 72) (by decide)
theorem lr1_11 (L : Lay t m) : gR m 1 11 = 74 := L.2.2 (1, 11, 74) (by decide)
theorem lr2_0 (L : Lay t m) : gR m 2 0 = 3 := L.2.2 (2, 0, 3) (by decide)
theorem lr2_12 (L : Lay t m) : gR m 2 12 = 16 := L.2.2 (2, 12, 16) (by decide)
theorem lr2_13 (L : Lay t m) : gR m 2 13 = 17 := L.2.2 (2, 13, 17) (by decide)
theorem lr2_14 (L : Lay t m) : gR m 2 14 = 18 := L.2.2 (2, 14, 18) (by decide)
theorem lr4_1 (L : Lay t m) : gR m 4 1 = 5 := L.2.2 (4, 1, 5) (by decide)
theorem lr4_3 (L : Lay t m) : gR m 4 3 = 6 := L.2.2 (4, 3, 6) (by decide)
theorem lr4_6 (L : Lay t m) : gR m 4 6 = 7 := L.2.2 (4, 6, 7) (by decide)
theorem lr4_7 (L : Lay t m) : gR m 4 7 = 8 := L.2.2 (4, 7, 8) (by decide)
theorem lr4_8 (L : Lay t m) : gR m 4 8 = 9 := L.2.2 (4, 8, 9) (by decide)
theorem lr4_9 (L : Lay t m) : gR m 4 9 = 10 := L.2.2 (4, 9, 10) (by decide)
theorem lr4_11 (L : Lay t m) : gR m 4 11 = 11 := L.2.2 (4, 11, 11) (by decide)
theorem lr4_15 (L : Lay t m) : gR m 4 15 = 12 := L.2.2 (4, 15, 12) (by decide)
theorem lr4_16 (L : Lay t m) : gR m 4 16 = 13 := L.2.2 (4, 16, 13) (by decide)
theorem lr4_17 (L : Lay t m) : gR m 4 17 = 14 := L.2.2 (4, 17, 14) (by decide)
theorem lr4_19 (L : Lay t m) : gR m 4 19 = 15 := L.2.2 (4, 19, 15) (by decide)
theorem lr19_0 (L : Lay t m) : gR m 19 0 = 20 := L.2.2 (19, 0, 20) (by decide)
theorem lr19_1 (L : Lay t m) : gR m 19 1 = 36 := L.2.2 (19, 1, 36) (by decide)
theorem lr19_5 (L : Lay t m) : gR m 19 5 = 38 := L.2.2 (19, 5, 38) (by decide)
theorem lr19_6 (L : Lay t m) : gR m 19 6 = 39 := L.2.2 (19, 6, 39) (by decide)
theorem lr19_7 (L : Lay t m) : gR m 19 7 = 40 := L.2.2 (19, 7, 40) (by decide)
theorem lr19_8 (L : Lay t m) : gR m 19 8 = 41 := L.2.2 (19, 8, 41) (by decide)
theorem lr19_10 (L : Lay t m) : gR m 19 10 = 42 := L.2.2 (19, 10, 42) (by decide)
theorem lr19_11 (L : Lay t m) : gR m 19 11 = 43 := L.2.2 (19, 11, 43) (by decide)
theorem lr19_12 (L : Lay t m) : gR m 19 12 = 44 := L.2.2 (19, 12, 44) (by decide)
theorem lr19_13 (L : Lay t m) : gR m 19 13 = 45 := L.2.2 (19, 13, 45) (by decide)
theorem lr19_15 (L : Lay t m) : gR m 19 15 = 46 := L.2.2 (19, 15, 46) (by decide)
theorem lr19_16 (L : Lay t m) : gR m 19 16 = 47 := L.2.2 (19, 16, 47) (by decide)
theorem lr20_3 (L : Lay t m) : gR m 20 3 = 33 := L.2.2 (20, 3, 33) (by decide)
theorem lr20_4 (L : Lay t m) : gR m 20 4 = 34 := L.2.2 (20, 4, 34) (by decide)
theorem lr20_5 (L : Lay t m) : gR m 20 5 = 35 := L.2.2 (20, 5, 35) (by decide)
theorem lr21_1 (L : Lay t m) : gR m 21 1 = 22 := L.2.2 (21, 1, 22) (by decide)
theorem lr21_3 (L : Lay t m) : gR m 21 3 = 23 := L.2.2 (21, 3, 23) (by decide)
theorem lr21_6 (L : Lay t m) : gR m 21 6 = 24 := L.2.2 (21, 6, 24) (by decide)
theorem lr21_7 (L : Lay t m) : gR m 21 7 = 25 := L.2.2 (21, 7, 25) (by decide)
theorem lr21_8 (L : Lay t m) : gR m 21 8 = 26 := L.2.2 (21, 8, 26) (by decide)
theorem lr21_9 (L : Lay t m) : gR m 21 9 = 27 := L.2.2 (21, 9, 27) (by decide)
theorem lr21_11 (L : Lay t m) : gR m 21 11 = 28 := L.2.2 (21, 11, 28) (by decide)
theorem lr21_15 (L : Lay t m) : gR m 21 15 = 29 := L.2.2 (21, 15, 29) (by decide)
theorem lr21_16 (L : Lay t m) : gR m 21 16 = 30 := L.2.2 (21, 16, 30) (by decide)
theorem lr21_17 (L : Lay t m) : gR m 21 17 = 31 := L.2.2 (21, 17, 31) (by decide)
theorem lr21_19 (L : Lay t m) : gR m 21 19 = 32 := L.2.2 (21, 19, 32) (by decide)
theorem lr36_0 (L : Lay t m) : gR m 36 0 = 37 := L.2.2 (36, 0, 37) (by decide)
theorem lr48_0 (L : Lay t m) : gR m 48 0 = 49 := L.2.2 (48, 0, 49) (by decide)
theorem lr48_3 (L : Lay t m) : gR m 48 3 = 51 := L.2.2 (48, 3, 51) (by decide)
theorem lr49_0 (L : Lay t m) : gR m 49 0 = 50 := L.2.2 (49, 0, 50) (by decide)
theorem lr52_8 (L : Lay t m) : gR m 52 8 = 53 := L.2.2 (52, 8, 53) (by decide)
theorem lr52_9 (L : Lay t m) : gR m 52 9 = 54 := L.2.2 (52, 9, 54) (by decide)
theorem lr52_10 (L : Lay t m) : gR m 52 10 = 55 := L.2.2 (52, 10, 55) (by decide)
theorem lr52_11 (L : Lay t m) : gR m 52 11 = 56 := L.2.2 (52, 11, 56) (by decide)
theorem lr52_12 (L : Lay t m) : gR m 52 12 = 57 := L.2.2 (52, 12, 57) (by decide)
theorem lr61_5 (L : Lay t m) : gR m 61 5 = 62 := L.2.2 (61, 5, 62) (by decide)
theorem lr61_6 (L : Lay t m) : gR m 61 6 = 63 := L.2.2 (61, 6, 63) (by decide)
theorem lr61_7 (L : Lay t m) : gR m 61 7 = 64 := L.2.2 (61, 7, 64) (by decide)
theorem lr61_8 (L : Lay t m) : gR m 61 8 = 65 := L.2.2 (61, 8, 65) (by decide)
theorem lr66_0 (L : Lay t m) : gR m 66 0 = 67 := L.2.2 (66, 0, 67) (by decide)
theorem lr68_0 (L : Lay t m) : gR m 68 0 = 69 := L.2.2 (68, 0, 69) (by decide)
theorem lr70_0 (L : Lay t m) : gR m 70 0 = 71 := L.2.2 (70, 0, 71) (by decide)
theorem lr72_0 (L : Lay t m) : gR m 72 0 = 73 := L.2.2 (72, 0, 73) (by decide)
theorem lr75_5 (L : Lay t m) : gR m 75 5 = 76 := L.2.2 (75, 5, 76) (by decide)
theorem lr75_16 (L : Lay t m) : gR m 75 16 = 77 := L.2.2 (75, 16, 77) (by decide)
theorem lr75_17 (L : Lay t m) : gR m 75 17 = 78 := L.2.2 (75, 17, 78) (by decide)
theorem lr75_18 (L : Lay t m) : gR m 75 18 = 79 := L.2.2 (75, 18, 79) (by decide)
theorem lr75_20 (L : Lay t m) : gR m 75 20 = 80 := L.2.2 (75, 20, 80) (by decide)
theorem lr75_25 (L : Lay t m) : gR m 75 25 = 81 := L.2.2 (75, 25, 81) (by decide)
theorem lr75_26 (L : Lay t m) : gR m 75 26 = 82 := L.2.2 (75, 26, 82) (by decide)
theorem lr75_27 (L : Lay t m) : gR m 75 27 = 83 := L.2.2 (75, 27, 83) (by decide)
theorem Lay.fr {S : List Nat} {m' : zM} (L : Lay t m) (h : Fr S m m') : Lay t m' := ⟨L.1, L.2.1, fun q hq => (h.2 _ _).trans (L.2.2 q hq)⟩
def isSch (a : Nat) : Prop := a = 4 ∨ a = 21
theorem ls_k (L : Lay t m) {a : Nat} (h : isSch a) : tK t a = 5 := by rcases h with rfl | rfl; exact lk4 L; exact lk21 L
theorem ls_r1 (L : Lay t m) {a : Nat} (h : isSch a) : gR m a 1 = a + 1 := by rcases h with rfl | rfl; exact lr4_1 L; exact lr21_1 L
theorem ls_k1 (L : Lay t m) {a : Nat} (h : isSch a) : tK t (a + 1) = 14 := by rcases h with rfl | rfl; exact lk5 L; exact lk22 L
theorem ls_l1 (L : Lay t m) {a : Nat} (h : isSch a) : tL t (a + 1) = 8 := by rcases h with rfl | rfl; exact ll5 L; exact ll22 L
theorem ls_r3 (L : Lay t m) {a : Nat} (h : isSch a) : gR m a 3 = a + 2 := by rcases h with rfl | rfl; exact lr4_3 L; exact lr21_3 L
theorem ls_k3 (L : Lay t m) {a : Nat} (h : isSch a) : tK t (a + 2) = 14 := by rcases h with rfl | rfl; exact lk6 L; exact lk23 L
theorem ls_l3 (L : Lay t m) {a : Nat} (h : isSch a) : tL t (a + 2) = 8 := by rcases h with rfl | rfl; exact ll6 L; exact ll23 L
theorem ls_r6 (L : Lay t m) {a : Nat} (h : isSch a) : gR m a 6 = a + 3 := by rcases h with rfl | rfl; exact lr4_6 L; exact lr21_6 L
theorem ls_k6 (L : Lay t m) {a : Nat} (h : isSch a) : tK t (a + 3) = 14 := by rcases h with rfl | rfl; exact lk7 L; exact lk24 L
theorem ls_l6 (L : Lay t m) {a : Nat} (h : isSch a) : tL t (a + 3) = 6 := by rcases h with rfl | rfl; exact ll7 L; exact ll24 L
theorem ls_r7 (L : Lay t m) {a : Nat} (h : isSch a) : gR m a 7 = a + 4 := by rcases h with rfl | rfl; exact lr4_7 L; exact lr21_7 L
theorem ls_k7 (L : Lay t m) {a : Nat} (h : isSch a) : tK t (a + 4) = 14 := by rcases h with rfl | rfl; exact lk8 L; exact lk25 L
theorem ls_l7 (L : Lay t m) {a : Nat} (h : isSch a) : tL t (a + 4) = 6 := by rcases h with rfl | rfl; exact ll8 L; exact ll25 L
theorem ls_r8 (L : Lay t m) {a : Nat} (h : isSch a) : gR m a 8 = a + 5 := by rcases h with rfl | rfl; exact lr4_8 L; exact lr21_8 L
theorem ls_k8 (L : Lay t m) {a : Nat} (h : isSch a) : tK t (a + 5) = 14 := by rcases h with rfl | rfl; exact lk9 L; exact lk26 L
theorem ls_l8 (L : Lay t m) {a : Nat} (h : isSch a) : tL t (a + 5) = 6 := by rcases h with rfl | rfl; exact ll9 L; exact ll26 L
theorem ls_r9 (L : Lay t m) {a : Nat} (h : isSch a) : gR m a 9 = a + 6 := by rcases h with rfl | rfl; exact lr4_9 L; exact lr21_9 L
theorem ls_k9 (L : Lay t m) {a : Nat} (h : isSch a) : tK t (a + 6) = 14 := by rcases h with rfl | rfl; exact lk10 L; exact lk27 L
theorem ls_l9 (L : Lay t m) {a : Nat} (h : isSch a) : tL t (a + 6) = 6 := by rcases h with rfl | rfl; exact ll10 L; exact ll27 L
theorem ls_r11 (L : Lay t m) {a : Nat} (h : isSch a) : gR m a 11 = a + 7 := by rcases h with rfl | rfl; exact lr4_11 L; exact lr21_11 L
theorem ls_k11 (L : Lay t m) {a : Nat} (h : isSch a) : tK t (a + 7) = 14 := by rcases h with rfl | rfl; exact lk11 L; exact lk28 L
theorem ls_l11 (L : Lay t m) {a : Nat} (h : isSch a) : tL t (a + 7) = 6 := by rcases h with rfl | rfl; exact ll11 L; exact ll28 L
theorem ls_r15 (L : Lay t m) {a : Nat} (h : isSch a) : gR m a 15 = a + 8 := by rcases h with rfl | rfl; exact lr4_15 L; exact lr21_15 L
theorem ls_k15 (L : Lay t m) {a : Nat} (h : isSch a) : tK t (a + 8) = 14 := by rcases h with rfl | rfl; exact lk12 L; exact lk29 L
theorem ls_l15 (L : Lay t m) {a : Nat} (h : isSch a) : tL t (a + 8) = 17 := by rcases h with rfl | rfl; exact ll12 L; exact ll29 L
theorem ls_r16 (L : Lay t m) {a : Nat} (h : isSch a) : gR m a 16 = a + 9 := by rcases h with rfl | rfl; exact lr4_16 L; exact lr21_16 L
theorem ls_k16 (L : Lay t m) {a : Nat} (h : isSch a) : tK t (a + 9) = 14 := by rcases h with rfl | rfl; exact lk13 L; exact lk30 L
theorem ls_l16 (L : Lay t m) {a : Nat} (h : isSch a) : tL t (a + 9) = 17 := by rcases h with rfl | rfl; exact ll13 L; exact ll30 L
theorem ls_r17 (L : Lay t m) {a : Nat} (h : isSch a) : gR m a 17 = a + 10 := by rcases h with rfl | rfl; exact lr4_17 L; exact lr21_17 L
theorem ls_k17 (L : Lay t m) {a : Nat} (h : isSch a) : tK t (a + 10) = 14 := by rcases h with rfl | rfl; exact lk14 L; exact lk31 L
theorem ls_l17 (L : Lay t m) {a : Nat} (h : isSch a) : tL t (a + 10) = 17 := by rcases h with rfl | rfl; exact ll14 L; exact ll31 L
theorem ls_r19 (L : Lay t m) {a : Nat} (h : isSch a) : gR m a 19 = a + 11 := by rcases h with rfl | rfl; exact lr4_19 L; exact lr21_19 L
theorem ls_k19 (L : Lay t m) {a : Nat} (h : isSch a) : tK t (a + 11) = 14 := by rcases h with rfl | rfl; exact lk15 L; exact lk32 L
theorem ls_l19 (L : Lay t m) {a : Nat} (h : isSch a) : tL t (a + 11) = 5 := by rcases h with rfl | rfl; exact ll15 L; exact ll32 L
end

def sh_Kl : List Nat := [99, 11, 8, 13, 15, 16, 14, 19, 14, 14, 14, 14, 14, 14, 19, 14, 14, 14, 14, 14, 14, 1, 6, 14, 14, 5, 20, 15, 15, 15, 15, 15, 15, 15, 15, 15, 14, 14, 14, 4, 17, 14, 14, 16, 6, 14, 14, 6, 14, 14, 6, 14, 14, 6, 14, 14, 6, 14, 14, 6, 14, 14, 6, 14, 14, 6, 14, 14, 6, 14, 14, 6, 14, 14, 6, 14, 14, 6, 14, 14, 6, 14, 14, 6, 14, 14, 6, 14, 14, 0, 14, 14, 14, 0, 14, 14, 14, 2, 14, 14, 14, 14, 7, 13, 9, 18, 9, 18, 9, 18, 12, 13, 15, 14, 14, 14, 14, 14, 14, 14, 16, 14, 14, 14, 14, 14, 14, 15, 15, 15, 14, 14, 14, 15, 16, 13, 14, 14, 14, 14, 14, 15]
def sh_Ll : List Nat := [0, 0, 0, 600, 6, 6, 6, 6, 29, 29, 29, 29, 29, 29, 6, 29, 29, 29, 29, 29, 29, 0, 0, 25, 25, 0, 9, 10, 10, 10, 10, 10, 10, 10, 10, 10, 14, 14, 14, 0, 15, 14, 14, 14, 0, 15, 15, 0, 15, 15, 0, 15, 15, 0, 15, 15, 0, 15, 15, 0, 15, 15, 0, 15, 15, 0, 15, 15, 0, 15, 15, 0, 15, 15, 0, 15, 15, 0, 15, 15, 0, 15, 15, 0, 15, 15, 0, 15, 15, 0, 40, 40, 40, 0, 40, 40, 40, 0, 80, 80, 80, 80, 0, 480, 0, 12, 0, 12, 0, 12, 0, 600, 6, 6, 6, 6, 174, 1488, 2976, 2, 2, 6, 6, 6, 168, 6, 6, 6, 54, 84, 42, 1764, 1764, 64, 14, 700, 80, 80, 80, 80, 124, 1]
def sh_Rl : List (Nat × Nat × Nat) := [(1, 0, 2), (2, 0, 3), (2, 6, 4), (2, 9, 5), (2, 10, 6), (7, 0, 8), (7, 1, 9), (7, 2, 10), (7, 3, 11), (7, 4, 12), (7, 5, 13), (2, 11, 7), (14, 0, 15), (14, 1, 16), (14, 2, 17), (14, 3, 18), (14, 4, 19), (14, 5, 20), (2, 12, 14), (1, 1, 21), (22, 0, 23), (22, 1, 24), (21, 0, 22), (1, 2, 25), (26, 0, 27), (26, 1, 28), (26, 2, 29), (26, 3, 30), (26, 4, 31), (26, 5, 32), (26, 6, 33), (26, 7, 34), (26, 8, 35), (25, 0, 26), (25, 1, 36), (25, 2, 37), (25, 3, 38), (1, 3, 39), (39, 0, 40), (39, 1, 41), (39, 2, 42), (39, 3, 43), (44, 0, 45), (44, 1, 46), (40, 0, 44), (47, 0, 48), (47, 1, 49), (40, 1, 47), (50, 0, 51), (50, 1, 52), (40, 2, 50), (53, 0, 54), (53, 1, 55), (40, 3, 53), (56, 0, 57), (56, 1, 58), (40, 4, 56), (59, 0, 60), (59, 1, 61), (40, 5, 59), (62, 0, 63), (62, 1, 64), (40, 6, 62), (65, 0, 66), (65, 1, 67), (40, 7, 65), (68, 0, 69), (68, 1, 70), (40, 8, 68), (71, 0, 72), (71, 1, 73), (40, 9, 71), (74, 0, 75), (74, 1, 76), (40, 10, 74), (77, 0, 78), (77, 1, 79), (40, 11, 77), (80, 0, 81), (80, 1, 82), (40, 12, 80), (83, 0, 84), (83, 1, 85), (40, 13, 83), (86, 0, 87), (86, 1, 88), (40, 14, 86), (1, 4, 89), (89, 0, 90), (89, 1, 91), (89, 2, 92), (1, 5, 93), (93, 0, 94), (93, 1, 95), (93, 2, 96), (1, 6, 97), (97, 0, 98), (97, 1, 99), (97, 2, 100), (97, 3, 101), (1, 7, 102), (102, 0, 103), (1, 8, 104), (104, 0, 105), (1, 9, 106), (106, 0, 107), (1, 10, 108), (108, 0, 109), (110, 1, 111), (110, 12, 112), (110, 13, 113), (110, 14, 114), (110, 15, 115), (110, 16, 116), (110, 17, 117), (110, 20, 118), (110, 21, 119), (110, 22, 120), (110, 23, 121), (110, 24, 122), (110, 25, 123), (110, 26, 124), (110, 27, 125), (110, 28, 126), (110, 29, 127), (110, 30, 128), (110, 31, 129), (110, 32, 130), (110, 33, 131), (110, 34, 132), (110, 36, 133), (110, 37, 134), (110, 41, 135), (110, 43, 136), (110, 44, 137), (110, 45, 138), (110, 46, 139), (110, 48, 140)]
/-- the things that are there from the start -/
def Shp (M : am_Mem) : Prop := 141 ≤ am_n M ∧ (∀ a, a ≤ 141 → am_K M a = sh_Kl.getD a 99 ∧ am_L M a = sh_Ll.getD a 0) ∧ ∀ q ∈ sh_Rl, am_R M q.1 q.2.1 = q.2.2
section
variable {M : am_Mem}
theorem sk1 (h : Shp M) : am_K M 1 = 11 := (h.2.1 1 (by decide)).1
theorem sk2 (h : Shp M) : am_K M 2 = 8 := (h.2.1 2 (by decide)).1
theorem sk3 (h : Shp M) : am_K M 3 = 13 := (h.2.1 3 (by decide)).1
theorem sl3 (h : Shp M) : am_L M 3 = 600 := (h.2.1 3 (by decide)).2
theorem sk4 (h : Shp M) : am_K M 4 = 15 := (h.2.1 4 (by decide)).1
theorem sl4 (h : Shp M) : am_L M 4 = 6 := (h.2.1 4 (by decide)).2
theorem sk5 (h : Shp M) : am_K M 5 = 16 := (h.2.1 5 (by decide)).1
theorem sl5 (h : Shp M) : am_L M 5 = 6 := (h.2.1 5 (by decide)).2
theorem sk6 (h : Shp M) : am_K M 6 = 14 := (h.2.1 6 (by decide)).1
theorem sl6 (h : Shp M) : am_L M 6 = 6 := (h.2.1 6 (by decide)).2
theorem sk7 (h : Shp M) : am_K M 7 = 19 := (h.2.1 7 (by decide)).1
theorem sl7 (h : Shp M) : am_L M 7 = 6 := (h.2.1 7 (by decide)).2
theorem sk8 (h : Shp M) : am_K M 8 = 14 := (h.2.1 8 (by decide)).1
theorem sl8 (h : Shp M) : am_L M 8 = 29 := (h.2.1 8 (by decide)).2
theorem sk9 (h : Shp M) : am_K M 9 = 14 := (h.2.1 9 (by decide)).1
theorem sl9 (h : Shp M) : am_L M 9 = 29 := (h.2.1 9 (by decide)).2
theorem sk10 (h : Shp M) : am_K M 10 = 14 := (h.2.1 10 (by decide)).1
theorem sl10 (h : Shp M) : am_L M 10 = 29 := (h.2.1 10 (by decide)).2
theorem sk11 (h : Shp M) : am_K M 11 = 14 := (h.2.1 11 (by decide)).1
theorem sl11 (h : Shp M) : am_L M 11 = 29 := (h.2.1 11 (by decide)).2
theorem sk12 (h : Shp M) : am_K M 12 = 14 := (h.2.1 12 (by decide)).1
theorem sl12 (h : Shp M) : am_L M 12 = 29 := (h.2.1 12 (by decide)).2
theorem sk13 (h : Shp M) : am_K M 13 = 14 := (h.2.1 13 (by decide)).1
theorem sl13 (h : Shp M) : am_L M 13 = 29 := (h.2.1 13 (by decide)).2
theorem sk14 (h : Shp M) : am_K M 14 = 19 := (h.2.1 14 (by decide)).1
theorem sl14 (h : Shp M) : am_L M 14 = 6 := (h.2.1 14 (by decide)).2
theorem sk15 (h : Shp M) : am_K M 15 = 14 := (h.2.1 15 (by decide)).1
theorem sl15 (h : Shp M) : am_L M 15 = 29 := (h.2.1 15 (by decide)).2
theorem sk16 (h : Shp M) : am_K M 16 = 14 := (h.2.1 16 (by decide)).1
theorem sl16 (h : Shp M) : am_L M 16 = 29 := (h.2.1 16 (by decide)).2
theorem sk17 (h : Shp M) : am_K M 17 = 14 := (h.2.1 17 (by decide)).1
theorem sl17 (h : Shp M) : am_L M 17 = 29 := (h.2.1 17 (by decide)).2
theorem sk18 (h : Shp M) : am_K M 18 = 14 := (h.2.1 18 (by decide)).1
theorem sl18 (h : Shp M) : am_L M 18 = 29 := (h.2.1 18 (by decide)).2
theorem sk19 (h : Shp M) : am_K M 19 = 14 := (h.2.1 19 (by decide)).1
theorem sl19 (h : Shp M) : am_L M 19 = 29 := (h.2.1 19 (by decide)).2
theorem sk20 (h : Shp M) : am_K M 20 = 14 := (h.2.1 20 (by decide)).1
theorem sl20 (h : Shp M) : am_L M 20 = 29 := (h.2.1 20 (by decide)).2
theorem sk21 (h : Shp M) : am_K M 21 = 1 := (h.2.1 21 (by decide)).1
theorem sk22 (h : Shp M) : am_K M 22 = 6 := (h.2.1 22 (by decide)).1
theorem sk23 (h : Shp M) : am_K M 23 = 14 := (h.2.1 23 (by decide)).1
theorem sl23 (h : Shp M) : am_L M 23 = 25 := (h.2.1 23 (by decide)).2
theorem sk24 (h : Shp M) : am_K M 24 = 14 := (h.2.1 24 (by decide)).1
theorem sl24 (h : Shp M) : am_L M 24 = 25 := (h.2.1 24 (by decide)).2
theorem sk25 (h : Shp M) : am_K M 25 = 5 := (h.2.1 25 (by decide)).1
theorem sk26 (h : Shp M) : am_K M 26 = 20 := (h.2.1 26 (by decide)).1
theorem sl26 (h : Shp M) : am_L M 26 = 9 := (h.2.1 26 (by decide)).2
theorem sk27 (h : Shp M) : am_K M 27 = 15 := (h.2.1 27 (by decide)).1
theorem sl27 (h : Shp M) : am_L M 27 = 10 := (h.2.1 27 (by decide)).2
theorem sk28 (h : Shp M) : am_K M 28 = 15 := (h.2.1 28 (by decide)).1
theorem sl28 (h : Shp M) : am_L M 28 = 10 := (h.2.1 28 (by decide)).2
theorem sk29 (h : Shp M) : am_K M 29 = 15 := (h.2.1 29 (by decide)).1
theorem sl29 (h : Shp M) : am_L M 29 = 10 := (h.2.1 29 (by decide)).2
theorem sk30 (h : Shp M) : am_K M 30 = 15 := (h.2.1 30 (by decide)).1
theorem sl30 (h : Shp M) : am_L M 30 = 10 := (h.2.1 30 (by decide)).2
theorem sk31 (h : Shp M) : am_K M 31 = 15 := (h.2.1 31 (by decide)).1
theorem sl31 (h : Shp M) : am_L M 31 = 10 := (h.2.1 31 (by decide)).2
theorem sk32 (h : Shp M) : am_K M 32 = 15 := (h.2.1 32 (by decide)).1
theorem sl32 (h : Shp M) : am_L M 32 = 10 := (h.2.1 32 (by decide)).2
theorem sk33 (h : Shp M) : am_K M 33 = 15 := (h.2.1 33 (by decide)).1
theorem sl33 (h : Shp M) : am_L M 33 = 10 := (h.2.1 33 (by decide)).2
theorem sk34 (h : Shp M) : am_K M 34 = 15 := (h.2.1 34 (by decide)).1
theorem sl34 (h : Shp M) : am_L M 34 = 10 := (h.2.1 34 (by decide)).2
theorem sk35 (h : Shp M) : am_K M 35 = 15 := (h.2.1 35 (by decide)).1
theorem sl35 (h : Shp M) : am_L M 35 = 10 := (h.2.1 35 (by decide)).2
theorem sk36 (h : Shp M) : am_K M 36 = 14 := (h.2.1 36 (by decide)).1
theorem sl36 (h : Shp M) : am_L M 36 = 14 := (h.2.1 36 (by decide)).2
theorem sk37 (h : Shp M) : am_K M 37 = 14 := (h.2.1 37 (by decide)).1
theorem sl37 (h : Shp M) : am_L M 37 = 14 := (h.2.1 37 (by decide)).2
theorem sk38 (h : Shp M) : am_K M 38 = 14 := (h.2.1 38 (by decide)).1
theorem sl38 (h : Shp M) : am_L M 38 = 14 := (h.2.1 38 (by decide)).2
theorem sk39 (h : Shp M) : am_K M 39 = 4 := (h.2.1 39 (by decide)).1
theorem sk40 (h : Shp M) : am_K M 40 = 17 := (h.2.1 40 (by decide)).1
theorem sl40 (h : Shp M) : am_L M 40 = 15 := (h.2.1 40 (by decide)).2
theorem sk41 (h : Shp M) : am_K M 41 = 14 := (h.2.1 41 (by decide)).1
theorem sl41 (h : Shp M) : am_L M 41 = 14 := (h.2.1 41 (by decide)).2
theorem sk42 (h : Shp M) : am_K M 42 = 14 := (h.2.1 42 (by decide)).1
theorem sl42 (h : Shp M) : am_L M 42 = 14 := (h.2.1 42 (by decide)).2
theorem sk43 (h : Shp M) : am_K M 43 = 16 := (h.2.1 43 (by decide)).1
theorem sl43 (h : Shp M) : am_L M 43 = 14 := (h.2.1 43 (by decide)).2
theorem sk44 (h : Shp M) : am_K M 44 = 6 := (h.2.1 44 (by decide)).1
theorem sk45 (h : Shp M) : am_K M 45 = 14 := (h.2.1 45 (by decide)).1
theorem sl45 (h : Shp M) : am_L M 45 = 15 := (h.2.1 45 (by decide)).2
theorem sk46 (h : Shp M) : am_K M 46 = 14 := (h.2.1 46 (by decide)).1
theorem sl46 (h : Shp M) : am_L M 46 = 15 := (h.2.1 46 (by decide)).2
theorem sk47 (h : Shp M) : am_K M 47 = 6 := (h.2.1 47 (by decide)).1
theorem sk48 (h : Shp M) : am_K M 48 = 14 := (h.2.1 48 (by decide)).1
theorem sl48 (h : Shp M) : am_L M 48 = 15 := (h.2.1 48 (by decide)).2
theorem sk49 (h : Shp M) : am_K M 49 = 14 := (h.2.1 49 (by decide)).1
theorem sl49 (h : Shp M) : am_L M 49 = 15 := (h.2.1 49 (by decide)).2
theorem sk50 (h : Shp M) : am_K M 50 = 6 := (h.2.1 50 (by decide)).1
theorem sk51 (h : Shp M) : am_K M 51 = 14 := (h.2.1 51 (by decide)).1
theorem sl51 (h : Shp M) : am_L M 51 = 15 := (h.2.1 51 (by decide)).2
theorem sk52 (h : Shp M) : am_K M 52 = 14 := (h.2.1 52 (by decide)).1
theorem sl52 (h : Shp M) : am_L M 52 = 15 := (h.2.1 52 (by decide)).2
theorem sk53 (h : Shp M) : am_K M 53 = 6 := (h.2.1 53 (by decide)).1
theorem sk54 (h : Shp M) : am_K M 54 = 14 := (h.2.1 54 (by decide)).1
theorem sl54 (h : Shp M) : am_L M 54 = 15 := (h.2.1 54 (by decide)).2
theorem sk55 (h : Shp M) : am_K M 55 = 14 := (h.2.1 55 (by decide)).1
theorem sl55 (h : Shp M) : am_L M 55 = 15 := (h.2.1 55 (by decide)).2
theorem sk56 (h : Shp M) : am_K M 56 = 6 := (h.2.1 56 (by decide)).1
theorem sk57 (h : Shp M) : am_K M 57 = 14 := (h.2.1 57 (by decide)).1
theorem sl57 (h : Shp M) : am_L M 57 = 15 := (h.2.1 57 (by decide)).2
theorem sk58 (h : Shp M) : am_K M 58 = 14 := (h.2.1 58 (by decide)).1
theorem sl58 (h : Shp M) : am_L M 58 = 15 := (h.2.1 58 (by decide)).2
theorem sk59 (h : Shp M) : am_K M 59 = 6 := (h.2.1 59 (by decide)).1
theorem sk60 (h : Shp M) : am_K M 60 = 14 := (h.2.1 60 (by decide)).1
theorem sl60 (h : Shp M) : am_L M 60 = 15 := (h.2.1 60 (by decide)).2
theorem sk61 (h : Shp M) : am_K M 61 = 14 := (h.2.1 61 (by decide)).1
theorem sl61 (h : Shp M) : am_L M 61 = 15 := (h.2.1 61 (by decide)).2
theorem sk62 (h : Shp M) : am_K M 62 = 6 := (h.2.1 62 (by decide)).1
theorem sk63 (h : Shp M) : am_K M 63 = 14 := (h.2.1 63 (by decide)).1
theorem sl63 (h : Shp M) : am_L M 63 = 15 := (h.2.1 63 (by decide)).2
theorem sk64 (h : Shp M) : am_K M 64 = 14 := (h.2.1 64 (by decide)).1
theorem sl64 (h : Shp M) : am_L M 64 = 15 := (h.2.1 64 (by decide)).2
theorem sk65 (h : Shp M) : am_K M 65 = 6 := (h.2.1 65 (by decide)).1
theorem sk66 (h : Shp M) : am_K M 66 = 14 := (h.2.1 66 (by decide)).1
theorem sl66 (h : Shp M) : am_L M 66 = 15 := (h.2.1 66 (by decide)).2
theorem sk67 (h : Shp M) : am_K M 67 = 14 := (h.2.1 67 (by decide)).1
theorem sl67 (h : Shp M) : am_L M 67 = 15 := (h.2.1 67 (by decide)).2
theorem sk68 (h : Shp M) : am_K M 68 = 6 := (h.2.1 68 (by decide)).1
theorem sk69 (h : Shp M) : am_K M 69 = 14 := (h.2.1 69 (by decide)).1
theorem sl69 (h : Shp M) : am_L M 69 = 15 := (h.2.1 69 (by decide)).2
theorem sk70 (h : Shp M) : am_K M 70 = 14 := (h.2.1 70 (by decide)).1
theorem sl70 (h : Shp M) : am_L M 70 = 15 := (h.2.1 70 (by decide)).2
theorem sk71 (h : Shp M) : am_K M 71 = 6 := (h.2.1 71 (by decide)).1
theorem sk72 (h : Shp M) : am_K M 72 = 14 := (h.2.1 72 (by decide)).1
theorem sl72 (h : Shp M) : am_L M 72 = 15 := (h.2.1 72 (by decide)).2
theorem sk73 (h : Shp M) : am_K M 73 = 14 := (h.2.1 73 (by decide)).1
theorem sl73 (h : Shp M) : am_L M 73 = 15 := (h.2.1 73 (by decide)).2
theorem sk74 (h : Shp M) : am_K M 74 = 6 := (h.2.1 74 (by decide)).1
theorem sk75 (h : Shp M) : am_K M 75 = 14 := (h.2.1 75 (by decide)).1
theorem sl75 (h : Shp M) : am_L M 75 = 15 := (h.2.1 75 (by decide)).2
theorem sk76 (h : Shp M) : am_K M 76 = 14 := (h.2.1 76 (by decide)).1
theorem sl76 (h : Shp M) : am_L M 76 = 15 := (h.2.1 76 (by decide)).2
theorem sk77 (h : Shp M) : am_K M 77 = 6 := (h.2.1 77 (by decide)).1
theorem sk78 (h : Shp M) : am_K M 78 = 14 := (h.2.1 78 (by decide)).1
theorem sl78 (h : Shp M) : am_L M 78 = 15 := (h.2.1 78 (by decide)).2
theorem sk79 (h : Shp M) : am_K M 79 = 14 := (h.2.1 79 (by decide)).1
theorem sl79 (h : Shp M) : am_L M 79 = 15 := (h.2.1 79 (by decide)).2
theorem sk80 (h : Shp M) : am_K M 80 = 6 := (h.2.1 80 (by decide)).1
theorem sk81 (h : Shp M) : am_K M 81 = 14 := (h.2.1 81 (by decide)).1
theorem sl81 (h : Shp M) : am_L M 81 = 15 := (h.2.1 81 (by decide)).2
theorem sk82 (h : Shp M) : am_K M 82 = 14 := (h.2.1 82 (by decide)).1
theorem sl82 (h : Shp M) : am_L M 82 = 15 := (h.2.1 82 (by decide)).2
theorem sk83 (h : Shp M) : am_K M 83 = 6 := (h.2.1 83 (by decide)).1
theorem sk84 (h : Shp M) : am_K M 84 = 14 := (h.2.1 84 (by decide)).1
theorem sl84 (h : Shp M) : am_L M 84 = 15 := (h.2.1 84 (by decide)).2
theorem sk85 (h : Shp M) : am_K M 85 = 14 := (h.2.1 85 (by decide)).1
theorem sl85 (h : Shp M) : am_L M 85 = 15 := (h.2.1 85 (by decide)).2
theorem sk86 (h : Shp M) : am_K M 86 = 6 := (h.2.1 86 (by decide)).1
theorem sk87 (h : Shp M) : am_K M 87 = 14 := (h.2.1 87 (by decide)).1
theorem sl87 (h : Shp M) : am_L M 87 = 15 := (h.2.1 87 (by decide)).2
theorem sk88 (h : Shp M) : am_K M 88 = 14 := (h.2.1 88 (by decide)).1
theorem sl88 (h : Shp M) : am_L M 88 = 15 := (h.2.1 88 (by decide)).2
theorem sk89 (h : Shp M) : am_K M 89 = 0 := (h.2.1 89 (by decide)).1
theorem sk90 (h : Shp M) : am_K M 90 = 14 := (h.2.1 90 (by decide)).1
theorem sl90 (h : Shp M) : am_L M 90 = 40 := (h.2.1 90 (by decide)).2
theorem sk91 (h : Shp M) : am_K M 91 = 14 := (h.2.1 91 (by decide)).1
theorem sl91 (h : Shp M) : am_L M 91 = 40 := (h.2.1 91 (by decide)).2
theorem sk92 (h : Shp M) : am_K M 92 = 14 := (h.2.1 92 (by decide)).1
theorem sl92 (h : Shp M) : am_L M 92 = 40 := (h.2.1 92 (by decide)).2
theorem sk93 (h : Shp M) : am_K M 93 = 0 := (h.2.1 93 (by decide)).1
theorem sk94 (h : Shp M) : am_K M 94 = 14 := (h.2.1 94 (by decide)).1
theorem sl94 (h : Shp M) : am_L M 94 = 40 := (h.2.1 94 (by decide)).2
theorem sk95 (h : Shp M) : am_K M 95 = 14 := (h.2.1 95 (by decide)).1
theorem sl95 (h : Shp M) : am_L M 95 = 40 := (h.2.1 95 (by decide)).2
theorem sk96 (h : Shp M) : am_K M 96 = 14 := (h.2.1 96 (by decide)).1
theorem sl96 (h : Shp M) : am_L M 96 = 40 := (h.2.1 96 (by decide)).2
theorem sk97 (h : Shp M) : am_K M 97 = 2 := (h.2.1 97 (by decide)).1
theorem sk98 (h : Shp M) : am_K M 98 = 14 := (h.2.1 98 (by decide)).1
theorem sl98 (h : Shp M) : am_L M 98 = 80 := (h.2.1 98 (by decide)).2
theorem sk99 (h : Shp M) : am_K M 99 = 14 := (h.2.1 99 (by decide)).1
theorem sl99 (h : Shp M) : am_L M 99 = 80 := (h.2.1 99 (by decide)).2
theorem sk100 (h : Shp M) : am_K M 100 = 14 := (h.2.1 100 (by decide)).1
theorem sl100 (h : Shp M) : am_L M 100 = 80 := (h.2.1 100 (by decide)).2
theorem sk101 (h : Shp M) : am_K M 101 = 14 := (h.2.1 101 (by decide)).1
theorem sl101 (h : Shp M) : am_L M 101 = 80 := (h.2.1 101 (by decide)).2
theorem sk102 (h : Shp M) : am_K M 102 = 7 := (h.2.1 102 (by decide)).1
theorem sk103 (h : Shp M) : am_K M 103 = 13 := (h.2.1 103 (by decide)).1
theorem sl103 (h : Shp M) : am_L M 103 = 480 := (h.2.1 103 (by decide)).2
theorem sk104 (h : Shp M) : am_K M 104 = 9 := (h.2.1 104 (by decide)).1
theorem sk105 (h : Shp M) : am_K M 105 = 18 := (h.2.1 105 (by decide)).1
theorem sl105 (h : Shp M) : am_L M 105 = 12 := (h.2.1 105 (by decide)).2
theorem sk106 (h : Shp M) : am_K M 106 = 9 := (h.2.1 106 (by decide)).1
theorem sk107 (h : Shp M) : am_K M 107 = 18 := (h.2.1 107 (by decide)).1
theorem sl107 (h : Shp M) : am_L M 107 = 12 := (h.2.1 107 (by decide)).2
theorem sk108 (h : Shp M) : am_K M 108 = 9 := (h.2.1 108 (by decide)).1
theorem sk109 (h : Shp M) : am_K M 109 = 18 := (h.2.1 109 (by decide)).1
theorem sl109 (h : Shp M) : am_L M 109 = 12 := (h.2.1 109 (by decide)).2
theorem sk110 (h : Shp M) : am_K M 110 = 12 := (h.2.1 110 (by decide)).1
theorem sk111 (h : Shp M) : am_K M 111 = 13 := (h.2.1 111 (by decide)).1
theorem sl111 (h : Shp M) : am_L M 111 = 600 := (h.2.1 111 (by decide)).2
theorem sk112 (h : Shp M) : am_K M 112 = 15 := (h.2.1 112 (by decide)).1
theorem sl112 (h : Shp M) : am_L M 112 = 6 := (h.2.1 112 (by decide)).2
theorem sk113 (h : Shp M) : am_K M 113 = 14 := (h.2.1 113 (by decide)).1
theorem sl113 (h : Shp M) : am_L M 113 = 6 := (h.2.1 113 (by decide)).2
theorem sk114 (h : Shp M) : am_K M 114 = 14 := (h.2.1 114 (by decide)).1
theorem sl114 (h : Shp M) : am_L M 114 = 6 := (h.2.1 114 (by decide)).2
theorem sk115 (h : Shp M) : am_K M 115 = 14 := (h.2.1 115 (by decide)).1
theorem sl115 (h : Shp M) : am_L M 115 = 6 := (h.2.1 115 (by decide)).2
theorem sk116 (h : Shp M) : am_K M 116 = 14 := (h.2.1 116 (by decide)).1
theorem sl116 (h : Shp M) : am_L M 116 = 174 := (h.2.1 116 (by decide)).2
theorem sk117 (h : Shp M) : am_K M 117 = 14 := (h.2.1 117 (by decide)).1
theorem sl117 (h : Shp M) : am_L M 117 = 1488 := (h.2.1 117 (by decide)).2
theorem sk118 (h : Shp M) : am_K M 118 = 14 := (h.2.1 118 (by decide)).1
theorem sl118 (h : Shp M) : am_L M 118 = 2976 := (h.2.1 118 (by decide)).2
theorem sk119 (h : Shp M) : am_K M 119 = 14 := (h.2.1 119 (by decide)).1
theorem sl119 (h : Shp M) : am_L M 119 = 2 := (h.2.1 119 (by decide)).2
theorem sk120 (h : Shp M) : am_K M 120 = 16 := (h.2.1 120 (by decide)).1
theorem sl120 (h : Shp M) : am_L M 120 = 2 := (h.2.1 120 (by decide)).2
theorem sk121 (h : Shp M) : am_K M 121 = 14 := (h.2.1 121 (by decide)).1
theorem sl121 (h : Shp M) : am_L M 121 = 6 := (h.2.1 121 (by decide)).2
theorem sk122 (h : Shp M) : am_K M 122 = 14 := (h.2.1 122 (by decide)).1
theorem sl122 (h : Shp M) : am_L M 122 = 6 := (h.2.1 122 (by decide)).2
theorem sk123 (h : Shp M) : am_K M 123 = 14 := (h.2.1 123 (by decide)).1
theorem sl123 (h : Shp M) : am_L M 123 = 6 := (h.2.1 123 (by decide)).2
theorem sk124 (h : Shp M) : am_K M 124 = 14 := (h.2.1 124 (by decide)).1
theorem sl124 (h : Shp M) : am_L M 124 = 168 := (h.2.1 124 (by decide)).2
theorem sk125 (h : Shp M) : am_K M 125 = 14 := (h.2.1 125 (by decide)).1
theorem sl125 (h : Shp M) : am_L M 125 = 6 := (h.2.1 125 (by decide)).2
theorem sk126 (h : Shp M) : am_K M 126 = 14 := (h.2.1 126 (by decide)).1
theorem sl126 (h : Shp M) : am_L M 126 = 6 := (h.2.1 126 (by decide)).2
theorem sk127 (h : Shp M) : am_K M 127 = 15 := (h.2.1 127 (by decide)).1
theorem sl127 (h : Shp M) : am_L M 127 = 6 := (h.2.1 127 (by decide)).2
theorem sk128 (h : Shp M) : am_K M 128 = 15 := (h.2.1 128 (by decide)).1
theorem sl128 (h : Shp M) : am_L M 128 = 54 := (h.2.1 128 (by decide)).2
theorem sk129 (h : Shp M) : am_K M 129 = 15 := (h.2.1 129 (by decide)).1
theorem sl129 (h : Shp M) : am_L M 129 = 84 := (h.2.1 129 (by decide)).2
theorem sk130 (h : Shp M) : am_K M 130 = 14 := (h.2.1 130 (by decide)).1
theorem sl130 (h : Shp M) : am_L M 130 = 42 := (h.2.1 130 (by decide)).2
theorem sk131 (h : Shp M) : am_K M 131 = 14 := (h.2.1 131 (by decide)).1
theorem sl131 (h : Shp M) : am_L M 131 = 1764 := (h.2.1 131 (by decide)).2
theorem sk132 (h : Shp M) : am_K M 132 = 14 := (h.2.1 132 (by decide)).1
theorem sl132 (h : Shp M) : am_L M 132 = 1764 := (h.2.1 132 (by decide)).2
theorem sk133 (h : Shp M) : am_K M 133 = 15 := (h.2.1 133 (by decide)).1
theorem sl133 (h : Shp M) : am_L M 133 = 64 := (h.2.1 133 (by decide)).2
theorem sk134 (h : Shp M) : am_K M 134 = 16 := (h.2.1 134 (by decide)).1
theorem sl134 (h : Shp M) : am_L M 134 = 14 := (h.2.1 134 (by decide)).2
theorem sk135 (h : Shp M) : am_K M 135 = 13 := (h.2.1 135 (by decide)).1
theorem sl135 (h : Shp M) : am_L M 135 = 700 := (h.2.1 135 (by decide)).2
theorem sk136 (h : Shp M) : am_K M 136 = 14 := (h.2.1 136 (by decide)).1
theorem sl136 (h : Shp M) : am_L M 136 = 80 := (h.2.1 136 (by decide)).2
theorem sk137 (h : Shp M) : am_K M 137 = 14 := (h.2.1 137 (by decide)).1
theorem sl137 (h : Shp M) : am_L M 137 = 80 := (h.2.1 137 (by decide)).2
theorem sk138 (h : Shp M) : am_K M 138 = 14 := (h.2.1 138 (by decide)).1
theorem sl138 (h : Shp M) : am_L M 138 = 80 := (h.2.1 138 (by decide)).2
theorem sk139 (h : Shp M) : am_K M 139 = 14 := (h.2.1 139 (by decide)).1
theorem sl139 (h : Shp M) : am_L M 139 = 80 := (h.2.1 139 (by decide)).2
theorem sk140 (h : Shp M) : am_K M 140 = 14 := (h.2.1 140 (by decide)).1
theorem sl140 (h : Shp M) : am_L M 140 = 124 := (h.2.1 140 (by decide)).2
theorem sk141 (h : Shp M) : am_K M 141 = 15 := (h.2.1 141 (by decide)).1
theorem sl141 (h : Shp M) : am_L M 141 = 1 := (h.2.1 141 (by decide)).2
theorem sr1_0 (h : Shp M) : am_R M 1 0 = 2 := h.2.2 (1, 0, 2) (by decide)
theorem sr2_0 (h : Shp M) : am_R M 2 0 = 3 := h.2.2 (2, 0, 3) (by decide)
theorem sr2_6 (h : Shp M) : am_R M 2 6 = 4 := h.2.2 (2, 6, 4) (by decide)
theorem sr2_9 (h : Shp M) : am_R M 2 9 = 5 := h.2.2 (2, 9, 5) (by decide)
theorem sr2_10 (h : Shp M) : am_R M 2 10 = 6 := h.2.2 (2, 10, 6) (by decide)
theorem sr7_0 (h : Shp M) : am_R M 7 0 = 8 := h.2.2 (7, 0, 8) (by decide)
theorem sr7_1 (h : Shp M) : am_R M 7 1 = 9 := h.2.2 (7, 1, 9) (by decide)
theorem sr7_2 (h : Shp M) : am_R M 7 2 = 10 := h.2.2 (7, 2, 10) (by decide)
theorem sr7_3 (h : Shp M) : am_R M 7 3 = 11 := h.2.2 (7, 3, 11) (by decide)
theorem sr7_4 (h : Shp M) : am_R M 7 4 = 12 := h.2.2 (7, 4, 12) (by decide)
theorem sr7_5 (h : Shp M) : am_R M 7 5 = 13 := h.2.2 (7, 5, 13) (by decide)
theorem sr2_11 (h : Shp M) : am_R M 2 11 = 7 := h.2.2 (2, 11, 7) (by decide)
theorem sr14_0 (h : Shp M) : am_R M 14 0 = 15 := h.2.2 (14, 0, 15) (by decide)
theorem sr14_1 (h : Shp M) : am_R M 14 1 = 16 := h.2.2 (14, 1, 16) (by decide)
theorem sr14_2 (h : Shp M) : am_R M 14 2 = 17 := h.2.2 (14, 2, 17) (by decide)
theorem sr14_3 (h : Shp M) : am_R M 14 3 = 18 := h.2.2 (14, 3, 18) (by decide)
theorem sr14_4 (h : Shp M) : am_R M 14 4 = 19 := h.2.2 (14, 4, 19) (by decide)
theorem sr14_5 (h : Shp M) : am_R M 14 5 = 20 := h.2.2 (14, 5, 20) (by decide)
theorem sr2_12 (h : Shp M) : am_R M 2 12 = 14 := h.2.2 (2, 12, 14) (by decide)
theorem sr1_1 (h : Shp M) : am_R M 1 1 = 21 := h.2.2 (1, 1, 21) (by decide)
theorem sr22_0 (h : Shp M) : am_R M 22 0 = 23 := h.2.2 (22, 0, 23) (by decide)
theorem sr22_1 (h : Shp M) : am_R M 22 1 = 24 := h.2.2 (22, 1, 24) (by decide)
theorem sr21_0 (h : Shp M) : am_R M 21 0 = 22 := h.2.2 (21, 0, 22) (by decide)
theorem sr1_2 (h : Shp M) : am_R M 1 2 = 25 := h.2.2 (1, 2, 25) (by decide)
theorem sr26_0 (h : Shp M) : am_R M 26 0 = 27 := h.2.2 (26, 0, 27) (by decide)
theorem sr26_1 (h : Shp M) : am_R M 26 1 = 28 := h.2.2 (26, 1, 28) (by decide)
theorem sr26_2 (h : Shp M) : am_R M 26 2 = 29 := h.2.2 (26, 2, 29) (by decide)
theorem sr26_3 (h : Shp M) : am_R M 26 3 = 30 := h.2.2 (26, 3, 30) (by decide)
theorem sr26_4 (h : Shp M) : am_R M 26 4 = 31 := h.2.2 (26, 4, 31) (by decide)
theorem sr26_5 (h : Shp M) : am_R M 26 5 = 32 := h.2.2 (26, 5, 32) (by decide)
theorem sr26_6 (h : Shp M) : am_R M 26 6 = 33 := h.2.2 (26, 6, 33) (by decide)
theorem sr26_7 (h : Shp M) : am_R M 26 7 = 34 := h.2.2 (26, 7, 34) (by decide)
theorem sr26_8 (h : Shp M) : am_R M 26 8 = 35 := h.2.2 (26, 8, 35) (by decide)
theorem sr25_0 (h : Shp M) : am_R M 25 0 = 26 := h.2.2 (25, 0, 26) (by decide)
theorem sr25_1 (h : Shp M) : am_R M 25 1 = 36 := h.2.2 (25, 1, 36) (by decide)
theorem sr25_2 (h : Shp M) : am_R M 25 2 = 37 := h.2.2 (25, 2, 37) (by decide)
theorem sr25_3 (h : Shp M) : am_R M 25 3 = 38 := h.2.2 (25, 3, 38) (by decide)
theorem sr1_3 (h : Shp M) : am_R M 1 3 = 39 := h.2.2 (1, 3, 39) (by decide)
theorem sr39_0 (h : Shp M) : am_R M 39 0 = 40 := h.2.2 (39, 0, 40) (by decide)
theorem sr39_1 (h : Shp M) : am_R M 39 1 = 41 := h.2.2 (39, 1, 41) (by decide)
theorem sr39_2 (h : Shp M) : am_R M 39 2 = 42 := h.2.2 (39, 2, 42) (by decide)
theorem sr39_3 (h : Shp M) : am_R M 39 3 = 43 := h.2.2 (39, 3, 43) (by decide)
theorem sr44_0 (h : Shp M) : am_R M 44 0 = 45 := h.2.2 (44, 0, 45) (by decide)
theorem sr44_1 (h : Shp M) : am_R M 44 1 = 46 := h.2.2 (44, 1, 46) (by decide)
theorem sr40_0 (h : Shp M) : am_R M 40 0 = 44 := h.2.2 (40, 0, 44) (by decide)
theorem sr47_0 (h : Shp M) : am_R M 47 0 = 48 := h.2.2 (47, 0, 48) (by decide)
theorem sr47_1 (h : Shp M) : am_R M 47 1 = 49 := h.2.2 (47, 1, 49) (by decide)
theorem sr40_1 (h : Shp M) : am_R M 40 1 = 47 := h.2.2 (40, 1, 47) (by decide)
theorem sr50_0 (h : Shp M) : am_R M 50 0 = 51 := h.2.2 (50, 0, 51) (by decide)
theorem sr50_1 (h : Shp M) : am_R M 50 1 = 52 := h.2.2 (50, 1, 52) (by decide)
theorem sr40_2 (h : Shp M) : am_R M 40 2 = 50 := h.2.2 (40, 2, 50) (by decide)
theorem sr53_0 (h : Shp M) : am_R M 53 0 = 54 := h.2.2 (53, 0, 54) (by decide)
theorem sr53_1 (h : Shp M) : am_R M 53 1 = 55 := h.2.2 (53, 1, 55) (by decide)
theorem sr40_3 (h : Shp M) : am_R M 40 3 = 53 := h.2.2 (40, 3, 53) (by decide)
theorem sr56_0 (h : Shp M) : am_R M 56 0 = 57 := h.2.2 (56, 0, 57) (by decide)
theorem sr56_1 (h : Shp M) : am_R M 56 1 = 58 := h.2.2 (56, 1, 58) (by decide)
theorem sr40_4 (h : Shp M) : am_R M 40 4 = 56 := h.2.2 (40, 4, 56) (by decide)
theorem sr59_0 (h : Shp M) : am_R M 59 0 = 60 := h.2.2 (59, 0, 60) (by decide)
theorem sr59_1 (h : Shp M) : am_R M 59 1 = 61 := h.2.2 (59, 1, 61) (by decide)
theorem sr40_5 (h : Shp M) : am_R M 40 5 = 59 := h.2.2 (40, 5, 59) (by decide)
theorem sr62_0 (h : Shp M) : am_R M 62 0 = 63 := h.2.2 (62, 0, 63) (by decide)
theorem sr62_1 (h : Shp M) : am_R M 62 1 = 64 := h.2.2 (62, 1, 64) (by decide)
theorem sr40_6 (h : Shp M) : am_R M 40 6 = 62 := h.2.2 (40, 6, 62) (by decide)
theorem sr65_0 (h : Shp M) : am_R M 65 0 = 66 := h.2.2 (65, 0, 66) (by decide)
theorem sr65_1 (h : Shp M) : am_R M 65 1 = 67 := h.2.2 (65, 1, 67) (by decide)
theorem sr40_7 (h : Shp M) : am_R M 40 7 = 65 := h.2.2 (40, 7, 65) (by decide)
theorem sr68_0 (h : Shp M) : am_R M 68 0 = 69 := h.2.2 (68, 0, 69) (by decide)
theorem sr68_1 (h : Shp M) : am_R M 68 1 = 70 := h.2.2 (68, 1, 70) (by decide)
theorem sr40_8 (h : Shp M) : am_R M 40 8 = 68 := h.2.2 (40, 8, 68) (by decide)
theorem sr71_0 (h : Shp M) : am_R M 71 0 = 72 := h.2.2 (71, 0, 72) (by decide)
theorem sr71_1 (h : Shp M) : am_R M 71 1 = 73 := h.2.2 (71, 1, 73) (by decide)
theorem sr40_9 (h : Shp M) : am_R M 40 9 = 71 := h.2.2 (40, 9, 71) (by decide)
theorem sr74_0 (h : Shp M) : am_R M 74 0 = 75 := h.2.2 (74, 0, 75) (by decide)
theorem sr74_1 (h : Shp M) : am_R M 74 1 = 76 := h.2.2 (74, 1, 76) (by decide)
theorem sr40_10 (h : Shp M) : am_R M 40 10 = 74 := h.2.2 (40, 10, 74) (by decide)
theorem sr77_0 (h : Shp M) : am_R M 77 0 = 78 := h.2.2 (77, 0, 78) (by decide)
theorem sr77_1 (h : Shp M) : am_R M 77 1 = 79 := h.2.2 (77, 1, 79) (by decide)
theorem sr40_11 (h : Shp M) : am_R M 40 11 = 77 := h.2.2 (40, 11, 77) (by decide)
theorem sr80_0 (h : Shp M) : am_R M 80 0 = 81 := h.2.2 (80, 0, 81) (by decide)
theorem sr80_1 (h : Shp M) : am_R M 80 1 = 82 := h.2.2 (80, 1, 82) (by decide)
theorem sr40_12 (h : Shp M) : am_R M 40 12 = 80 := h.2.2 (40, 12, 80) (by decide)
theorem sr83_0 (h : Shp M) : am_R M 83 0 = 84 := h.2.2 (83, 0, 84) (by decide)
theorem sr83_1 (h : Shp M) : am_R M 83 1 = 85 := h.2.2 (83, 1, 85) (by decide)
theorem sr40_13 (h : Shp M) : am_R M 40 13 = 83 := h.2.2 (40, 13, 83) (by decide)
theorem sr86_0 (h : Shp M) : am_R M 86 0 = 87 := h.2.2 (86, 0, 87) (by decide)
theorem sr86_1 (h : Shp M) : am_R M 86 1 = 88 := h.2.2 (86, 1, 88) (by decide)
theorem sr40_14 (h : Shp M) : am_R M 40 14 = 86 := h.2.2 (40, 14, 86) (by decide)
theorem sr1_4 (h : Shp M) : am_R M 1 4 = 89 := h.2.2 (1, 4, 89) (by decide)
theorem sr89_0 (h : Shp M) : am_R M 89 0 = 90 := h.2.2 (89, 0, 90) (by decide)
theorem sr89_1 (h : Shp M) : am_R M 89 1 = 91 := h.2.2 (89, 1, 91) (by decide)
theorem sr89_2 (h : Shp M) : am_R M 89 2 = 92 := h.2.2 (89, 2, 92) (by decide)
theorem sr1_5 (h : Shp M) : am_R M 1 5 = 93 := h.2.2 (1, 5, 93) (by decide)
theorem sr93_0 (h : Shp M) : am_R M 93 0 = 94 := h.2.2 (93, 0, 94) (by decide)
theorem sr93_1 (h : Shp M) : am_R M 93 1 = 95 := h.2.2 (93, 1, 95) (by decide)
theorem sr93_2 (h : Shp M) : am_R M 93 2 = 96 := h.2.2 (93, 2, 96) (by decide)
theorem sr1_6 (h : Shp M) : am_R M 1 6 = 97 := h.2.2 (1, 6, 97) (by decide)
theorem sr97_0 (h : Shp M) : am_R M 97 0 = 98 := h.2.2 (97, 0, 98) (by decide)
theorem sr97_1 (h : Shp M) : am_R M 97 1 = 99 := h.2.2 (97, 1, 99) (by decide)
theorem sr97_2 (h : Shp M) : am_R M 97 2 = 100 := h.2.2 (97, 2, 100) (by decide)
theorem sr97_3 (h : Shp M) : am_R M 97 3 = 101 := h.2.2 (97, 3, 101) (by decide)
theorem sr1_7 (h : Shp M) : am_R M 1 7 = 102 := h.2.2 (1, 7, 102) (by decide)
theorem sr102_0 (h : Shp M) : am_R M 102 0 = 103 := h.2.2 (102, 0, 103) (by decide)
theorem sr1_8 (h : Shp M) : am_R M 1 8 = 104 := h.2.2 (1, 8, 104) (by decide)
theorem sr104_0 (h : Shp M) : am_R M 104 0 = 105 := h.2.2 (104, 0, 105) (by decide)
theorem sr1_9 (h : Shp M) : am_R M 1 9 = 106 := h.2.2 (1, 9, 106) (by decide)
theorem sr106_0 (h : Shp M) : am_R M 106 0 = 107 := h.2.2 (106, 0, 107) (by decide)
theorem sr1_10 (h : Shp M) : am_R M 1 10 = 108 := h.2.2 (1, 10, 108) (by decide)
theorem sr108_0 (h : Shp M) : am_R M 108 0 = 109 := h.2.2 (108, 0, 109) (by decide)
theorem sr110_1 (h : Shp M) : am_R M 110 1 = 111 := h.2.2 (110, 1, 111) (by decide)
theorem sr110_12 (h : Shp M) : am_R M 110 12 = 112 := h.2.2 (110, 12, 112) (by decide)
theorem sr110_13 (h : Shp M) : am_R M 110 13 = 113 := h.2.2 (110, 13, 113) (by decide)
theorem sr110_14 (h : Shp M) : am_R M 110 14 = 114 := h.2.2 (110, 14, 114) (by decide)
theorem sr110_15 (h : Shp M) : am_R M 110 15 = 115 := h.2.2 (110, 15, 115) (by decide)
theorem sr110_16 (h : Shp M) : am_R M 110 16 = 116 := h.2.2 (110, 16, 116) (by decide)
theorem sr110_17 (h : Shp M) : am_R M 110 17 = 117 := h.2.2 (110, 17, 117) (by decide)
theorem sr110_20 (h : Shp M) : am_R M 110 20 = 118 := h.2.2 (110, 20, 118) (by decide)
theorem sr110_21 (h : Shp M) : am_R M 110 21 = 119 := h.2.2 (110, 21, 119) (by decide)
theorem sr110_22 (h : Shp M) : am_R M 110 22 = 120 := h.2.2 (110, 22, 120) (by decide)
theorem sr110_23 (h : Shp M) : am_R M 110 23 = 121 := h.2.2 (110, 23, 121) (by decide)
theorem sr110_24 (h : Shp M) : am_R M 110 24 = 122 := h.2.2 (110, 24, 122) (by decide)
theorem sr110_25 (h : Shp M) : am_R M 110 25 = 123 := h.2.2 (110, 25, 123) (by decide)
theorem sr110_26 (h : Shp M) : am_R M 110 26 = 124 := h.2.2 (110, 26, 124) (by decide)
theorem sr110_27 (h : Shp M) : am_R M 110 27 = 125 := h.2.2 (110, 27, 125) (by decide)
theorem sr110_28 (h : Shp M) : am_R M 110 28 = 126 := h.2.2 (110, 28, 126) (by decide)
theorem sr110_29 (h : Shp M) : am_R M 110 29 = 127 := h.2.2 (110, 29, 127) (by decide)
theorem sr110_30 (h : Shp M) : am_R M 110 30 = 128 := h.2.2 (110, 30, 128) (by decide)
theorem sr110_31 (h : Shp M) : am_R M 110 31 = 129 := h.2.2 (110, 31, 129) (by decide)
theorem sr110_32 (h : Shp M) : am_R M 110 32 = 130 := h.2.2 (110, 32, 130) (by decide)
theorem sr110_33 (h : Shp M) : am_R M 110 33 = 131 := h.2.2 (110, 33, 131) (by decide)
theorem sr110_34 (h : Shp M) : am_R M 110 34 = 132 := h.2.2 (110, 34, 132) (by decide)
theorem sr110_36 (h : Shp M) : am_R M 110 36 = 133 := h.2.2 (110, 36, 133) (by decide)
theorem sr110_37 (h : Shp M) : am_R M 110 37 = 134 := h.2.2 (110, 37, 134) (by decide)
theorem sr110_41 (h : Shp M) : am_R M 110 41 = 135 := h.2.2 (110, 41, 135) (by decide)
theorem sr110_43 (h : Shp M) : am_R M 110 43 = 136 := h.2.2 (110, 43, 136) (by decide)
theorem sr110_44 (h : Shp M) : am_R M 110 44 = 137 := h.2.2 (110, 44, 137) (by decide)
theorem sr110_45 (h : Shp M) : am_R M 110 45 = 138 := h.2.2 (110, 45, 138) (by decide)
theorem sr110_46 (h : Shp M) : am_R M 110 46 = 139 := h.2.2 (110, 46, 139) (by decide)
theorem sr110_48 (h : Shp M) : am_R M 110 48 = 140 := h.2.2 (110, 48, 140) (by decide)
end
theorem shp_n {M : am_Mem} (h : Shp M) : 141 ≤ am_n M := h.1
theorem sh_rle : ∀ q ∈ sh_Rl, q.1 ≤ 141 := by decide +kernel
theorem shp_fr {W : List Nat} {M M' : am_Mem} (h : Shp M) (f : am_Fr W M M') : Shp M' := by
  have hn := h.1
  refine ⟨Nat.le_trans hn f.1, fun a ha => ?_, fun q hq => ?_⟩
  · rw [fr_K f (by omega), fr_L f (by omega)]
    exact h.2.1 a ha
  · have := sh_rle q hq
    rw [fr_R f (by omega)]
    exact h.2.2 q hq
theorem shp_wI {M : am_Mem} (h : Shp M) (a i : Nat) (v : Int32) : Shp (am_wI M a i v) := h
theorem shp_wJ {M : am_Mem} (h : Shp M) (a i : Nat) (v : Int64) : Shp (am_wJ M a i v) := h
theorem shp_new {M : am_Mem} (h : Shp M) (k l : Nat) : Shp (am_new M k l) := shp_fr h (fr_new [] M k l)
theorem shp_wR {M : am_Mem} (h : Shp M) (a i v : Nat) (hq : ∀ q ∈ sh_Rl, ¬ (q.1 = a ∧ q.2.1 = i)) : Shp (am_wR M a i v) := by
  refine ⟨h.1, h.2.1, fun q hm => ?_⟩
  have h1 := hq q hm
  by_cases e : q.1 = a
  · have h2 : ¬ q.2.1 = i := fun e2 => h1 ⟨e, e2⟩
    rw [e, rR_ix M a v h2, ← e]
    exact h.2.2 q hm
  · rw [rR_ne M i v e]
    exact h.2.2 q hm
theorem shp_wR97 {M : am_Mem} (h : Shp M) (v : Nat) : Shp (am_wR M 97 5 v) := shp_wR h 97 5 v (by decide +kernel)
theorem sh_big : ∀ q ∈ sh_Rl, ¬ q.1 = 105 ∧ ¬ q.1 = 107 ∧ ¬ q.1 = 109 ∧ ¬ 141 < q.1 := by decide +kernel
theorem shp_wRd {M : am_Mem} (h : Shp M) (a i v : Nat) (ha : a = 105 ∨ a = 107 ∨ a = 109 ∨ 141 < a) : Shp (am_wR M a i v) := shp_wR h a i v (fun q hq e => by
  have := sh_big q hq
  omega)

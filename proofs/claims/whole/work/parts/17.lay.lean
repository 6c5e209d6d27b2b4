/-! the layout of the cells, and single facts of the tables (printed by wip/whole/gen17.py) -/
def pm_ll0 : List (Nat × Nat × Nat) := [(0, 5, 0), (1, 2, 0), (2, 8, 320), (3, 8, 8), (4, 8, 8), (5, 4, 0), (6, 9, 400), (7, 0, 0), (8, 8, 480), (9, 1, 0), (10, 8, 16), (11, 3, 0), (12, 8, 4), (13, 8, 6), (14, 8, 6), (15, 8, 6), (16, 8, 6), (17, 8, 6), (18, 8, 6), (19, 8, 6), (20, 8, 4), (21, 3, 0), (22, 8, 4), (23, 8, 6), (24, 8, 6), (25, 8, 6), (26, 8, 6), (27, 8, 6), (28, 8, 6), (29, 8, 6), (30, 8, 4), (31, 11, 2), (32, 6, 0), (33, 8, 8), (34, 8, 8), (35, 8, 320), (36, 8, 45), (37, 8, 45), (38, 8, 1080), (39, 8, 400), (40, 8, 6), (41, 8, 6), (42, 8, 6), (43, 10, 2), (44, 8, 90), (45, 8, 16)]
def pm_lr0 : List (Nat × Nat × Nat) := [(0, 0, 1), (1, 0, 2), (1, 1, 3), (1, 2, 4), (0, 1, 5), (5, 0, 6), (0, 2, 7), (7, 0, 8), (0, 3, 9), (9, 0, 10), (11, 5, 12), (11, 6, 13), (11, 7, 14), (11, 8, 15), (11, 9, 16), (11, 10, 17), (11, 11, 18), (11, 12, 19), (11, 13, 20), (0, 4, 11), (21, 5, 22), (21, 6, 23), (21, 7, 24), (21, 8, 25), (21, 9, 26), (21, 10, 27), (21, 11, 28), (21, 12, 29), (21, 13, 30), (0, 5, 21), (0, 6, 31), (32, 2, 33), (32, 3, 34), (32, 4, 35), (32, 5, 36), (32, 6, 37), (32, 7, 38), (32, 9, 39), (32, 19, 40), (32, 20, 41), (32, 21, 42), (32, 22, 43), (32, 23, 44), (32, 24, 45)]
/-- the cells of the class and of the reference stand as laid -/
def pm_lay (g : pm_G) : Prop := (∀ e ∈ pm_ll0, g.1 e.1 = some (e.2.1, e.2.2)) ∧ (∀ e ∈ pm_lr0, g.2.1 e.1 e.2.1 = some e.2.2)
theorem ly0 {g : pm_G} (h : pm_lay g) : g.1 0 = some (5, 0) := h.1 (0, 5, 0) (List.mem_of_getElem? (i := 0) rfl)
theorem ly1 {g : pm_G} (h : pm_lay g) : g.1 1 = some (2, 0) := h.1 (1, 2, 0) (List.mem_of_getElem? (i := 1) rfl)
theorem ly2 {g : pm_G} (h : pm_lay g) : g.1 2 = some (8, 320) := h.1 (2, 8, 320) (List.mem_of_getElem? (i := 2) rfl)
theorem ly3 {g : pm_G} (h : pm_lay g) : g.1 3 = some (8, 8) := h.1 (3, 8, 8) (List.mem_of_getElem? (i := 3) rfl)
theorem ly4 {g : pm_G} (h : pm_lay g) : g.1 4 = some (8, 8) := h.1 (4, 8, 8) (List.mem_of_getElem? (i := 4) rfl)
theorem ly5 {g : pm_G} (h : pm_lay g) : g.1 5 = some (4, 0) := h.1 (5, 4, 0) (List.mem_of_getElem? (i := 5) rfl)
theorem ly6 {g : pm_G} (h : pm_lay g) : g.1 6 = some (9, 400) := h.1 (6, 9, 400) (List.mem_of_getElem? (i := 6) rfl)
theorem ly7 {g : pm_G} (h : pm_lay g) : g.1 7 = some (0, 0) := h.1 (7, 0, 0) (List.mem_of_getElem? (i := 7) rfl)
theorem ly8 {g : pm_G} (h : pm_lay g) : g.1 8 = some (8, 480) := h.1 (8, 8, 480) (List.mem_of_getElem? (i := 8) rfl)
theorem ly9 {g : pm_G} (h : pm_lay g) : g.1 9 = some (1, 0) := h.1 (9, 1, 0) (List.mem_of_getElem? (i := 9) rfl)
theorem ly10 {g : pm_G} (h : pm_lay g) : g.1 10 = some (8, 16) := h.1 (10, 8, 16) (List.mem_of_getElem? (i := 10) rfl)
theorem ly11 {g : pm_G} (h : pm_lay g) : g.1 11 = some (3, 0) := h.1 (11, 3, 0) (List.mem_of_getElem? (i := 11) rfl)
theorem ly12 {g : pm_G} (h : pm_lay g) : g.1 12 = some (8, 4) := h.1 (12, 8, 4) (List.mem_of_getElem? (i := 12) rfl)
theorem ly13 {g : pm_G} (h : pm_lay g) : g.1 13 = some (8, 6) := h.1 (13, 8, 6) (List.mem_of_getElem? (i := 13) rfl)
theorem ly14 {g : pm_G} (h : pm_lay g) : g.1 14 = some (8, 6) := h.1 (14, 8, 6) (List.mem_of_getElem? (i := 14) rfl)
theorem ly15 {g : pm_G} (h : pm_lay g) : g.1 15 = some (8, 6) := h.1 (15, 8, 6) (List.mem_of_getElem? (i := 15) rfl)
theorem ly16 {g : pm_G} (h : pm_lay g) : g.1 16 = some (8, 6) := h.1 (16, 8, 6) (List.mem_of_getElem? (i := 16) rfl)
theorem ly17 {g : pm_G} (h : pm_lay g) : g.1 17 = some (8, 6) := h.1 (17, 8, 6) (List.mem_of_getElem? (i := 17) rfl)
theorem ly18 {g : pm_G} (h : pm_lay g) : g.1 18 = some (8, 6) := h.1 (18, 8, 6) (List.mem_of_getElem? (i := 18) rfl)
theorem ly19 {g : pm_G} (h : pm_lay g) : g.1 19 = some (8, 6) := h.1 (19, 8, 6) (List.mem_of_getElem? (i := 19) rfl)
theorem ly20 {g : pm_G} (h : pm_lay g) : g.1 20 = some (8, 4) := h.1 (20, 8, 4) (List.mem_of_getElem? (i := 20) rfl)
theorem ly21 {g : pm_G} (h : pm_lay g) : g.1 21 = some (3, 0) := h.1 (21, 3, 0) (List.mem_of_getElem? (i := 21) rfl)
theorem ly22 {g : pm_G} (h : pm_lay g) : g.1 22 = some (8, 4) := h.1 (22, 8, 4) (List.mem_of_getElem? (i := 22) rfl)
theorem ly23 {g : pm_G} (h : pm_lay g) : g.1 23 = some (8, 6) := h.1 (23, 8, 6) (List.mem_of_getElem? (i := 23) rfl)
theorem ly24 {g : pm_G} (h : pm_lay g) : g.1 24 = some (8, 6) := h.1 (24, 8, 6) (List.mem_of_getElem? (i := 24) rfl)
theorem ly25 {g : pm_G} (h : pm_lay g) : g.1 25 = some (8, 6) := h.1 (25, 8, 6) (List.mem_of_getElem? (i := 25) rfl)
theorem ly26 {g : pm_G} (h : pm_lay g) : g.1 26 = some (8, 6) := h.1 (26, 8, 6) (List.mem_of_getElem? (i := 26) rfl)
theorem ly27 {g : pm_G} (h : pm_lay g) : g.1 27 = some (8, 6) := h.1 (27, 8, 6) (List.mem_of_getElem? (i := 27) rfl)
theorem ly28 {g : pm_G} (h : pm_lay g) : g.1 28 = some (8, 6) := h.1 (28, 8, 6) (List.mem_of_getElem? (i := 28) rfl)
theorem ly29 {g : pm_G} (h : pm_lay g) : g.1 29 = some (8, 6) := h.1 (29, 8, 6) (List.mem_of_getElem? (i := 29) rfl)
theorem ly30 {g : pm_G} (h : pm_lay g) : g.1 30 = some (8, 4) := h.1 (30, 8, 4) (List.mem_of_getElem? (i := 30) rfl)
theorem ly31 {g : pm_G} (h : pm_lay g) : g.1 31 = some (11, 2) := h.1 (31, 11, 2) (List.mem_of_getElem? (i := 31) rfl)
theorem ly32 {g : pm_G} (h : pm_lay g) : g.1 32 = some (6, 0) := h.1 (32, 6, 0) (List.mem_of_getElem? (i := 32) rfl)
theorem ly33 {g : pm_G} (h : pm_lay g) : g.1 33 = some (8, 8) := h.1 (33, 8, 8) (List.mem_of_getElem? (i := 33) rfl)
theorem ly34 {g : pm_G} (h : pm_lay g) : g.1 34 = some (8, 8) := h.1 (34, 8, 8) (List.mem_of_getElem? (i := 34) rfl)
theorem ly35 {g : pm_G} (h : pm_lay g) : g.1 35 = some (8, 320) := h.1 (35, 8, 320) (List.mem_of_getElem? (i := 35) rfl)
theorem ly36 {g : pm_G} (h : pm_lay g) : g.1 36 = some (8, 45) := h.1 (36, 8, 45) (List.mem_of_getElem? (i := 36) rfl)
theorem ly37 {g : pm_G} (h : pm_lay g) : g.1 37 = some (8, 45) := h.1 (37, 8, 45) (List.mem_of_getElem? (i := 37) rfl)
theorem ly38 {g : pm_G} (h : pm_lay g) : g.1 38 = some (8, 1080) := h.1 (38, 8, 1080) (List.mem_of_getElem? (i := 38) rfl)
theorem ly39 {g : pm_G} (h : pm_lay g) : g.1 39 = some (8, 400) := h.1 (39, 8, 400) (List.mem_of_getElem? (i := 39) rfl)
theorem ly40 {g : pm_G} (h : pm_lay g) : g.1 40 = some (8, 6) := h.1 (40, 8, 6) (List.mem_of_getElem? (i := 40) rfl)
theorem ly41 {g : pm_G} (h : pm_lay g) : g.1 41 = some (8, 6) := h.1 (41, 8, 6) (List.mem_of_getElem? (i := 41) rfl)
theorem ly42 {g : pm_G} (h : pm_lay g) : g.1 42 = some (8, 6) := h.1 (42, 8, 6) (List.mem_of_getElem? (i := 42) rfl)
theorem ly43 {g : pm_G} (h : pm_lay g) : g.1 43 = some (10, 2) := h.1 (43, 10, 2) (List.mem_of_getElem? (i := 43) rfl)
theorem ly44 {g : pm_G} (h : pm_lay g) : g.1 44 = some (8, 90) := h.1 (44, 8, 90) (List.mem_of_getElem? (i := 44) rfl)
theorem ly45 {g : pm_G} (h : pm_lay g) : g.1 45 = some (8, 16) := h.1 (45, 8, 16) (List.mem_of_getElem? (i := 45) rfl)
theorem lr0_0 {g : pm_G} (h : pm_lay g) : g.2.1 0 0 = some 1 := h.2 (0, 0, 1) (List.mem_of_getElem? (i := 0) rfl)
theorem lr1_0 {g : pm_G} (h : pm_lay g) : g.2.1 1 0 = some 2 := h.2 (1, 0, 2) (List.mem_of_getElem? (i := 1) rfl)
theorem lr1_1 {g : pm_G} (h : pm_lay g) : g.2.1 1 1 = some 3 := h.2 (1, 1, 3) (List.mem_of_getElem? (i := 2) rfl)
theorem lr1_2 {g : pm_G} (h : pm_lay g) : g.2.1 1 2 = some 4 := h.2 (1, 2, 4) (List.mem_of_getElem? (i := 3) rfl)
theorem lr0_1 {g : pm_G} (h : pm_lay g) : g.2.1 0 1 = some 5 := h.2 (0, 1, 5) (List.mem_of_getElem? (i := 4) rfl)
theorem lr5_0 {g : pm_G} (h : pm_lay g) : g.2.1 5 0 = some 6 := h.2 (5, 0, 6) (List.mem_of_getElem? (i := 5) rfl)
theorem lr0_2 {g : pm_G} (h : pm_lay g) : g.2.1 0 2 = some 7 := h.2 (0, 2, 7) (List.mem_of_getElem? (i := 6) rfl)
theorem lr7_0 {g : pm_G} (h : pm_lay g) : g.2.1 7 0 = some 8 := h.2 (7, 0, 8) (List.mem_of_getElem? (i := 7) rfl)
theorem lr0_3 {g : pm_G} (h : pm_lay g) : g.2.1 0 3 = some 9 := h.2 (0, 3, 9) (List.mem_of_getElem? (i := 8) rfl)
theorem lr9_0 {g : pm_G} (h : pm_lay g) : g.2.1 9 0 = some 10 := h.2 (9, 0, 10) (List.mem_of_getElem? (i := 9) rfl)
theorem lr11_5 {g : pm_G} (h : pm_lay g) : g.2.1 11 5 = some 12 := h.2 (11, 5, 12) (List.mem_of_getElem? (i := 10) rfl)
theorem lr11_6 {g : pm_G} (h : pm_lay g) : g.2.1 11 6 = some 13 := h.2 (11, 6, 13) (List.mem_of_getElem? (i := 11) rfl)
theorem lr11_7 {g : pm_G} (h : pm_lay g) : g.2.1 11 7 = some 14 := h.2 (11, 7, 14) (List.mem_of_getElem? (i := 12) rfl)
theorem lr11_8 {g : pm_G} (h : pm_lay g) : g.2.1 11 8 = some 15 := h.2 (11, 8, 15) (List.mem_of_getElem? (i := 13) rfl)
theorem lr11_9 {g : pm_G} (h : pm_lay g) : g.2.1 11 9 = some 16 := h.2 (11, 9, 16) (List.mem_of_getElem? (i := 14) rfl)
theorem lr11_10 {g : pm_G} (h : pm_lay g) : g.2.1 11 10 = some 17 := h.2 (11, 10, 17) (List.mem_of_getElem? (i := 15) rfl)
theorem lr11_11 {g : pm_G} (h : pm_lay g) : g.2.1 11 11 = some 18 := h.2 (11, 11, 18) (List.mem_of_getElem? (i := 16) rfl)
theorem lr11_12 {g : pm_G} (h : pm_lay g) : g.2.1 11 12 = some 19 := h.2 (11, 12, 19) (List.mem_of_getElem? (i := 17) rfl)
theorem lr11_13 {g : pm_G} (h : pm_lay g) : g.2.1 11 13 = some 20 := h.2 (11, 13, 20) (List.mem_of_getElem? (i := 18) rfl)
theorem lr0_4 {g : pm_G} (h : pm_lay g) : g.2.1 0 4 = some 11 := h.2 (0, 4, 11) (List.mem_of_getElem? (i := 19) rfl)
theorem lr21_5 {g : pm_G} (h : pm_lay g) : g.2.1 21 5 = some 22 := h.2 (21, 5, 22) (List.mem_of_getElem? (i := 20) rfl)
theorem lr21_6 {g : pm_G} (h : pm_lay g) : g.2.1 21 6 = some 23 := h.2 (21, 6, 23) (List.mem_of_getElem? (i := 21) rfl)
theorem lr21_7 {g : pm_G} (h : pm_lay g) : g.2.1 21 7 = some 24 := h.2 (21, 7, 24) (List.mem_of_getElem? (i := 22) rfl)
theorem lr21_8 {g : pm_G} (h : pm_lay g) : g.2.1 21 8 = some 25 := h.2 (21, 8, 25) (List.mem_of_getElem? (i := 23) rfl)
theorem lr21_9 {g : pm_G} (h : pm_lay g) : g.2.1 21 9 = some 26 := h.2 (21, 9, 26) (List.mem_of_getElem? (i := 24) rfl)
theorem lr21_10 {g : pm_G} (h : pm_lay g) : g.2.1 21 10 = some 27 := h.2 (21, 10, 27) (List.mem_of_getElem? (i := 25) rfl)
theorem lr21_11 {g : pm_G} (h : pm_lay g) : g.2.1 21 11 = some 28 := h.2 (21, 11, 28) (List.mem_of_getElem? (i := 26) rfl)
theorem lr21_12 {g : pm_G} (h : pm_lay g) : g.2.1 21 12 = some 29 := h.2 (21, 12, 29) (List.mem_of_getElem? (i := 27) rfl)
theorem lr21_13 {g : pm_G} (h : pm_lay g) : g.2.1 21 13 = some 30 := h.2 (21, 13, 30) (List.mem_of_getElem? (i := 28) rfl)
theorem lr0_5 {g : pm_G} (h : pm_lay g) : g.2.1 0 5 = some 21 := h.2 (0, 5, 21) (List.mem_of_getElem? (i := 29) rfl)
theorem lr0_6 {g : pm_G} (h : pm_lay g) : g.2.1 0 6 = some 31 := h.2 (0, 6, 31) (List.mem_of_getElem? (i := 30) rfl)
theorem lr32_2 {g : pm_G} (h : pm_lay g) : g.2.1 32 2 = some 33 := h.2 (32, 2, 33) (List.mem_of_getElem? (i := 31) rfl)
theorem lr32_3 {g : pm_G} (h : pm_lay g) : g.2.1 32 3 = some 34 := h.2 (32, 3, 34) (List.mem_of_getElem? (i := 32) rfl)
theorem lr32_4 {g : pm_G} (h : pm_lay g) : g.2.1 32 4 = some 35 := h.2 (32, 4, 35) (List.mem_of_getElem? (i := 33) rfl)
theorem lr32_5 {g : pm_G} (h : pm_lay g) : g.2.1 32 5 = some 36 := h.2 (32, 5, 36) (List.mem_of_getElem? (i := 34) rfl)
theorem lr32_6 {g : pm_G} (h : pm_lay g) : g.2.1 32 6 = some 37 := h.2 (32, 6, 37) (List.mem_of_getElem? (i := 35) rfl)
theorem lr32_7 {g : pm_G} (h : pm_lay g) : g.2.1 32 7 = some 38 := h.2 (32, 7, 38) (List.mem_of_getElem? (i := 36) rfl)
theorem lr32_9 {g : pm_G} (h : pm_lay g) : g.2.1 32 9 = some 39 := h.2 (32, 9, 39) (List.mem_of_getElem? (i := 37) rfl)
theorem lr32_19 {g : pm_G} (h : pm_lay g) : g.2.1 32 19 = some 40 := h.2 (32, 19, 40) (List.mem_of_getElem? (i := 38) rfl)
theorem lr32_20 {g : pm_G} (h : pm_lay g) : g.2.1 32 20 = some 41 := h.2 (32, 20, 41) (List.mem_of_getElem? (i := 39) rfl)
theorem lr32_21 {g : pm_G} (h : pm_lay g) : g.2.1 32 21 = some 42 := h.2 (32, 21, 42) (List.mem_of_getElem? (i := 40) rfl)
theorem lr32_22 {g : pm_G} (h : pm_lay g) : g.2.1 32 22 = some 43 := h.2 (32, 22, 43) (List.mem_of_getElem? (i := 41) rfl)
theorem lr32_23 {g : pm_G} (h : pm_lay g) : g.2.1 32 23 = some 44 := h.2 (32, 23, 44) (List.mem_of_getElem? (i := 42) rfl)
theorem lr32_24 {g : pm_G} (h : pm_lay g) : g.2.1 32 24 = some 45 := h.2 (32, 24, 45) (List.mem_of_getElem? (i := 43) rfl)
/-- a slope stands at k -/
def pm_sl (g : pm_G) (k : Nat) : Prop := g.1 k = some (3, 0) ∧ g.1 (k + 1) = some (8, 4) ∧ g.1 (k + 2) = some (8, 6) ∧ g.1 (k + 3) = some (8, 6) ∧ g.1 (k + 4) = some (8, 6) ∧ g.1 (k + 5) = some (8, 6) ∧ g.1 (k + 6) = some (8, 6) ∧ g.1 (k + 7) = some (8, 6) ∧ g.1 (k + 8) = some (8, 6) ∧ g.1 (k + 9) = some (8, 4) ∧ g.2.1 k 5 = some (k + 1) ∧ g.2.1 k 6 = some (k + 2) ∧ g.2.1 k 7 = some (k + 3) ∧ g.2.1 k 8 = some (k + 4) ∧ g.2.1 k 9 = some (k + 5) ∧ g.2.1 k 10 = some (k + 6) ∧ g.2.1 k 11 = some (k + 7) ∧ g.2.1 k 12 = some (k + 8) ∧ g.2.1 k 13 = some (k + 9)
theorem sl1 {g : pm_G} {k : Nat} (h : pm_sl g k) : g.1 (k + 1) = some (8, 4) := h.2.1
theorem sr5 {g : pm_G} {k : Nat} (h : pm_sl g k) : g.2.1 k 5 = some (k + 1) := h.2.2.2.2.2.2.2.2.2.2.1
theorem sl2 {g : pm_G} {k : Nat} (h : pm_sl g k) : g.1 (k + 2) = some (8, 6) := h.2.2.1
theorem sr6 {g : pm_G} {k : Nat} (h : pm_sl g k) : g.2.1 k 6 = some (k + 2) := h.2.2.2.2.2.2.2.2.2.2.2.1
theorem sl3 {g : pm_G} {k : Nat} (h : pm_sl g k) : g.1 (k + 3) = some (8, 6) := h.2.2.2.1
theorem sr7 {g : pm_G} {k : Nat} (h : pm_sl g k) : g.2.1 k 7 = some (k + 3) := h.2.2.2.2.2.2.2.2.2.2.2.2.1
theorem sl4 {g : pm_G} {k : Nat} (h : pm_sl g k) : g.1 (k + 4) = some (8, 6) := h.2.2.2.2.1
theorem sr8 {g : pm_G} {k : Nat} (h : pm_sl g k) : g.2.1 k 8 = some (k + 4) := h.2.2.2.2.2.2.2.2.2.2.2.2.2.1
theorem sl5 {g : pm_G} {k : Nat} (h : pm_sl g k) : g.1 (k + 5) = some (8, 6) := h.2.2.2.2.2.1
theorem sr9 {g : pm_G} {k : Nat} (h : pm_sl g k) : g.2.1 k 9 = some (k + 5) := h.2.2.2.2.2.2.2.2.2.2.2.2.2.2.1
theorem sl6 {g : pm_G} {k : Nat} (h : pm_sl g k) : g.1 (k + 6) = some (8, 6) := h.2.2.2.2.2.2.1
theorem sr10 {g : pm_G} {k : Nat} (h : pm_sl g k) : g.2.1 k 10 = some (k + 6) := h.2.2.2.2.2.2.2.2.2.2.2.2.2.2.2.1
theorem sl7 {g : pm_G} {k : Nat} (h : pm_sl g k) : g.1 (k + 7) = some (8, 6) := h.2.2.2.2.2.2.2.1
theorem sr11 {g : pm_G} {k : Nat} (h : pm_sl g k) : g.2.1 k 11 = some (k + 7) := h.2.2.2.2.2.2.2.2.2.2.2.2.2.2.2.2.1
theorem sl8 {g : pm_G} {k : Nat} (h : pm_sl g k) : g.1 (k + 8) = some (8, 6) := h.2.2.2.2.2.2.2.2.1
theorem sr12 {g : pm_G} {k : Nat} (h : pm_sl g k) : g.2.1 k 12 = some (k + 8) := h.2.2.2.2.2.2.2.2.2.2.2.2.2.2.2.2.2.1
theorem sl9 {g : pm_G} {k : Nat} (h : pm_sl g k) : g.1 (k + 9) = some (8, 4) := h.2.2.2.2.2.2.2.2.2.1
theorem sr13 {g : pm_G} {k : Nat} (h : pm_sl g k) : g.2.1 k 13 = some (k + 9) := h.2.2.2.2.2.2.2.2.2.2.2.2.2.2.2.2.2.2
theorem pm_sl11 {g : pm_G} (h : pm_lay g) : pm_sl g 11 := ⟨ly11 h, ly12 h, ly13 h, ly14 h, ly15 h, ly16 h, ly17 h, ly18 h, ly19 h, ly20 h, lr11_5 h, lr11_6 h, lr11_7 h, lr11_8 h, lr11_9 h, lr11_10 h, lr11_11 h, lr11_12 h, lr11_13 h⟩
theorem pm_sl21 {g : pm_G} (h : pm_lay g) : pm_sl g 21 := ⟨ly21 h, ly22 h, ly23 h, ly24 h, ly25 h, ly26 h, ly27 h, ly28 h, ly29 h, ly30 h, lr21_5 h, lr21_6 h, lr21_7 h, lr21_8 h, lr21_9 h, lr21_10 h, lr21_11 h, lr21_12 h, lr21_13 h⟩
def pm_xg (g : pm_G) : Prop := ∀ k, 1000 ≤ k → g.1 k = none
theorem pm_xS {X : pm_X} {g : pm_G} {iv : pm_V} (h : pm_xg g) : pm_ar X g iv 1300 = some (8, X.1, X.2) := by
  unfold pm_ar
  rw [h 1300 (by decide)]
  rfl
def pm_tX1200 (j : Nat) : Int32 := ([0, 0, 1, 0, 3, 3] : List Int32).getD j 0
theorem pm_xT1200 {X : pm_X} {g : pm_G} {iv : pm_V} (h : pm_xg g) : pm_ar X g iv 1200 = some (8, 6, pm_tX1200) := by
  unfold pm_ar
  rw [h 1200 (by decide)]
  rfl
def pm_tX1201 (j : Nat) : Int32 := ([10, 13, 14, 11, 12, 0] : List Int32).getD j 0
theorem pm_xT1201 {X : pm_X} {g : pm_G} {iv : pm_V} (h : pm_xg g) : pm_ar X g iv 1201 = some (8, 6, pm_tX1201) := by
  unfold pm_ar
  rw [h 1201 (by decide)]
  rfl
def pm_tX1202 (j : Nat) : Int32 := ([20, 23, 0, 21, 24, 22] : List Int32).getD j 0
theorem pm_xT1202 {X : pm_X} {g : pm_G} {iv : pm_V} (h : pm_xg g) : pm_ar X g iv 1202 = some (8, 6, pm_tX1202) := by
  unfold pm_ar
  rw [h 1202 (by decide)]
  rfl
theorem at_zretG {X : pm_X} {d mi pc : Nat} {lo : List (Option Value)} {g : pm_G} {iv : pm_V} {x : Int32} (hd : decode (pm_mb mi) pc = .ok (.ireturn, 1)) (hr : pm_mr mi = some .boolean) : pm_at X d mi (pc, lo, [.int x], g, iv) = pm_zr x (some (some (.int x), g, iv)) := by
  by_cases h : x = 0 ∨ x = 1
  · rw [at_zret hd hr h]
    exact (if_pos h).symm
  · rw [show pm_zr x (some (some (.int x), g, iv)) = none from if_neg h]
    refine pm_at_none ?_
    rw [pm_nI hd (Or.inl rfl)]
    show pm_ri mi [.int x] g iv = _
    unfold pm_ri
    simp only [hr]
    refine if_neg (fun q => h ?_)
    have q2 : x &&& 1 = x := by
      have q3 : (Value.int (x &&& 1)) = .int x := q
      exact Value.int.inj q3
    obtain ⟨j, hj, e⟩ := pk_andE x (m := 1) 1 (by decide)
    rw [q2] at e
    rcases (show j = 0 ∨ j = 1 by omega) with rfl | rfl
    · exact Or.inl e
    · exact Or.inr e
theorem mc0 : pm_mc 0 = 0 := by decide +kernel
theorem mr0 : pm_mr 0 = none := by decide +kernel
theorem mc1 : pm_mc 1 = 0 := by decide +kernel
theorem mr1 : pm_mr 1 = some .int := by decide +kernel
theorem mc2 : pm_mc 2 = 0 := by decide +kernel
theorem mr2 : pm_mr 2 = none := by decide +kernel
theorem mc3 : pm_mc 3 = 0 := by decide +kernel
theorem mr3 : pm_mr 3 = none := by decide +kernel
theorem mc4 : pm_mc 4 = 0 := by decide +kernel
theorem mr4 : pm_mr 4 = some .boolean := by decide +kernel
theorem mc5 : pm_mc 5 = 1 := by decide +kernel
theorem mr5 : pm_mr 5 = none := by decide +kernel
theorem mc6 : pm_mc 6 = 1 := by decide +kernel
theorem mr6 : pm_mr 6 = some .boolean := by decide +kernel
theorem mc7 : pm_mc 7 = 1 := by decide +kernel
theorem mr7 : pm_mr 7 = some .int := by decide +kernel
theorem mc8 : pm_mc 8 = 1 := by decide +kernel
theorem mr8 : pm_mr 8 = some .int := by decide +kernel
theorem mc9 : pm_mc 9 = 1 := by decide +kernel
theorem mr9 : pm_mr 9 = some .int := by decide +kernel
theorem mc10 : pm_mc 10 = 1 := by decide +kernel
theorem mr10 : pm_mr 10 = some .int := by decide +kernel
theorem mc11 : pm_mc 11 = 1 := by decide +kernel
theorem mr11 : pm_mr 11 = some .int := by decide +kernel
theorem mc12 : pm_mc 12 = 1 := by decide +kernel
theorem mr12 : pm_mr 12 = some .int := by decide +kernel
theorem mc13 : pm_mc 13 = 1 := by decide +kernel
theorem mr13 : pm_mr 13 = none := by decide +kernel
theorem mc14 : pm_mc 14 = 2 := by decide +kernel
theorem mr14 : pm_mr 14 = none := by decide +kernel
theorem mc15 : pm_mc 15 = 2 := by decide +kernel
theorem mr15 : pm_mr 15 = some .boolean := by decide +kernel
theorem mc16 : pm_mc 16 = 2 := by decide +kernel
theorem mr16 : pm_mr 16 = some .boolean := by decide +kernel
theorem mc17 : pm_mc 17 = 2 := by decide +kernel
theorem mr17 : pm_mr 17 = some .int := by decide +kernel
theorem mc18 : pm_mc 18 = 2 := by decide +kernel
theorem mr18 : pm_mr 18 = some .int := by decide +kernel
theorem mc19 : pm_mc 19 = 2 := by decide +kernel
theorem mr19 : pm_mr 19 = some .int := by decide +kernel
theorem mc20 : pm_mc 20 = 2 := by decide +kernel
theorem mr20 : pm_mr 20 = none := by decide +kernel
theorem mc21 : pm_mc 21 = 2 := by decide +kernel
theorem mr21 : pm_mr 21 = some .int := by decide +kernel
theorem mc22 : pm_mc 22 = 2 := by decide +kernel
theorem mr22 : pm_mr 22 = none := by decide +kernel
theorem mc23 : pm_mc 23 = 2 := by decide +kernel
theorem mr23 : pm_mr 23 = some .int := by decide +kernel
theorem mc24 : pm_mc 24 = 2 := by decide +kernel
theorem mr24 : pm_mr 24 = some .int := by decide +kernel
theorem mc25 : pm_mc 25 = 3 := by decide +kernel
theorem mr25 : pm_mr 25 = none := by decide +kernel
theorem mc26 : pm_mc 26 = 3 := by decide +kernel
theorem mr26 : pm_mr 26 = some .boolean := by decide +kernel
theorem mc27 : pm_mc 27 = 3 := by decide +kernel
theorem mr27 : pm_mr 27 = some .int := by decide +kernel
theorem mc28 : pm_mc 28 = 3 := by decide +kernel
theorem mr28 : pm_mr 28 = some .int := by decide +kernel
theorem mc29 : pm_mc 29 = 3 := by decide +kernel
theorem mr29 : pm_mr 29 = some .int := by decide +kernel
theorem mc30 : pm_mc 30 = 3 := by decide +kernel
theorem mr30 : pm_mr 30 = some .int := by decide +kernel
theorem mc31 : pm_mc 31 = 3 := by decide +kernel
theorem mr31 : pm_mr 31 = some .int := by decide +kernel
theorem mc32 : pm_mc 32 = 3 := by decide +kernel
theorem mr32 : pm_mr 32 = some .int := by decide +kernel
theorem mc33 : pm_mc 33 = 3 := by decide +kernel
theorem mr33 : pm_mr 33 = some .boolean := by decide +kernel
theorem mc34 : pm_mc 34 = 3 := by decide +kernel
theorem mr34 : pm_mr 34 = some .boolean := by decide +kernel
theorem mc35 : pm_mc 35 = 3 := by decide +kernel
theorem mr35 : pm_mr 35 = some .boolean := by decide +kernel
theorem mc36 : pm_mc 36 = 3 := by decide +kernel
theorem mr36 : pm_mr 36 = some .int := by decide +kernel
theorem mc37 : pm_mc 37 = 3 := by decide +kernel
theorem mr37 : pm_mr 37 = some .int := by decide +kernel
theorem mc38 : pm_mc 38 = 3 := by decide +kernel
theorem mr38 : pm_mr 38 = some .int := by decide +kernel
theorem mc39 : pm_mc 39 = 3 := by decide +kernel
theorem mr39 : pm_mr 39 = some .int := by decide +kernel
theorem mc40 : pm_mc 40 = 3 := by decide +kernel
theorem mr40 : pm_mr 40 = some .int := by decide +kernel
theorem mc41 : pm_mc 41 = 3 := by decide +kernel
theorem mr41 : pm_mr 41 = some .boolean := by decide +kernel
theorem mc42 : pm_mc 42 = 3 := by decide +kernel
theorem mr42 : pm_mr 42 = some .boolean := by decide +kernel
theorem mc43 : pm_mc 43 = 3 := by decide +kernel
theorem mr43 : pm_mr 43 = some .boolean := by decide +kernel
theorem mc44 : pm_mc 44 = 3 := by decide +kernel
theorem mr44 : pm_mr 44 = some .boolean := by decide +kernel
theorem mc45 : pm_mc 45 = 3 := by decide +kernel
theorem mr45 : pm_mr 45 = some .int := by decide +kernel
theorem mc46 : pm_mc 46 = 3 := by decide +kernel
theorem mr46 : pm_mr 46 = some .int := by decide +kernel
theorem mc47 : pm_mc 47 = 3 := by decide +kernel
theorem mr47 : pm_mr 47 = some .int := by decide +kernel
theorem mc48 : pm_mc 48 = 3 := by decide +kernel
theorem mr48 : pm_mr 48 = some .boolean := by decide +kernel
theorem mc49 : pm_mc 49 = 3 := by decide +kernel
theorem mr49 : pm_mr 49 = none := by decide +kernel
theorem mc50 : pm_mc 50 = 3 := by decide +kernel
theorem mr50 : pm_mr 50 = none := by decide +kernel
theorem mc51 : pm_mc 51 = 3 := by decide +kernel
theorem mr51 : pm_mr 51 = none := by decide +kernel
theorem mc52 : pm_mc 52 = 3 := by decide +kernel
theorem mr52 : pm_mr 52 = none := by decide +kernel
theorem mc53 : pm_mc 53 = 3 := by decide +kernel
theorem mr53 : pm_mr 53 = none := by decide +kernel
theorem mc54 : pm_mc 54 = 3 := by decide +kernel
theorem mr54 : pm_mr 54 = none := by decide +kernel
theorem mc55 : pm_mc 55 = 3 := by decide +kernel
theorem mr55 : pm_mr 55 = none := by decide +kernel
theorem mc56 : pm_mc 56 = 3 := by decide +kernel
theorem mr56 : pm_mr 56 = some .int := by decide +kernel
theorem mc57 : pm_mc 57 = 3 := by decide +kernel
theorem mr57 : pm_mr 57 = none := by decide +kernel
theorem mc58 : pm_mc 58 = 3 := by decide +kernel
theorem mr58 : pm_mr 58 = none := by decide +kernel
theorem mc59 : pm_mc 59 = 3 := by decide +kernel
theorem mr59 : pm_mr 59 = none := by decide +kernel
theorem mc60 : pm_mc 60 = 3 := by decide +kernel
theorem mr60 : pm_mr 60 = some .int := by decide +kernel
theorem mc61 : pm_mc 61 = 3 := by decide +kernel
theorem mr61 : pm_mr 61 = none := by decide +kernel
theorem mc62 : pm_mc 62 = 3 := by decide +kernel
theorem mr62 : pm_mr 62 = some .int := by decide +kernel
theorem mc63 : pm_mc 63 = 3 := by decide +kernel
theorem mr63 : pm_mr 63 = some .boolean := by decide +kernel
theorem mc64 : pm_mc 64 = 3 := by decide +kernel
theorem mr64 : pm_mr 64 = some .boolean := by decide +kernel
theorem mc65 : pm_mc 65 = 3 := by decide +kernel
theorem mr65 : pm_mr 65 = some .boolean := by decide +kernel
theorem mc66 : pm_mc 66 = 4 := by decide +kernel
theorem mr66 : pm_mr 66 = none := by decide +kernel
theorem mc67 : pm_mc 67 = 4 := by decide +kernel
theorem mr67 : pm_mr 67 = some .int := by decide +kernel
theorem mc68 : pm_mc 68 = 4 := by decide +kernel
theorem mr68 : pm_mr 68 = some .int := by decide +kernel
theorem mc69 : pm_mc 69 = 4 := by decide +kernel
theorem mr69 : pm_mr 69 = some .int := by decide +kernel
theorem mc70 : pm_mc 70 = 4 := by decide +kernel
theorem mr70 : pm_mr 70 = none := by decide +kernel
theorem mc71 : pm_mc 71 = 4 := by decide +kernel
theorem mr71 : pm_mr 71 = some .boolean := by decide +kernel
theorem mc72 : pm_mc 72 = 4 := by decide +kernel
theorem mr72 : pm_mr 72 = some .boolean := by decide +kernel
theorem mc73 : pm_mc 73 = 4 := by decide +kernel
theorem mr73 : pm_mr 73 = some .boolean := by decide +kernel
theorem mc74 : pm_mc 74 = 4 := by decide +kernel
theorem mr74 : pm_mr 74 = some .boolean := by decide +kernel
theorem mc75 : pm_mc 75 = 4 := by decide +kernel
theorem mr75 : pm_mr 75 = some .boolean := by decide +kernel
theorem mc76 : pm_mc 76 = 4 := by decide +kernel
theorem mr76 : pm_mr 76 = some .boolean := by decide +kernel
theorem mc77 : pm_mc 77 = 4 := by decide +kernel
theorem mr77 : pm_mr 77 = some .boolean := by decide +kernel
theorem mc78 : pm_mc 78 = 4 := by decide +kernel
theorem mr78 : pm_mr 78 = some .int := by decide +kernel
theorem mc79 : pm_mc 79 = 4 := by decide +kernel
theorem mr79 : pm_mr 79 = some .int := by decide +kernel
theorem mc80 : pm_mc 80 = 4 := by decide +kernel
theorem mr80 : pm_mr 80 = some .int := by decide +kernel
theorem mc81 : pm_mc 81 = 4 := by decide +kernel
theorem mr81 : pm_mr 81 = some .boolean := by decide +kernel
theorem mc82 : pm_mc 82 = 4 := by decide +kernel
theorem mr82 : pm_mr 82 = some .boolean := by decide +kernel
theorem mc83 : pm_mc 83 = 4 := by decide +kernel
theorem mr83 : pm_mr 83 = none := by decide +kernel
theorem mc84 : pm_mc 84 = 4 := by decide +kernel
theorem mr84 : pm_mr 84 = none := by decide +kernel
theorem mc85 : pm_mc 85 = 4 := by decide +kernel
theorem mr85 : pm_mr 85 = none := by decide +kernel
theorem mc86 : pm_mc 86 = 4 := by decide +kernel
theorem mr86 : pm_mr 86 = some .int := by decide +kernel
theorem mc87 : pm_mc 87 = 4 := by decide +kernel
theorem mr87 : pm_mr 87 = some .boolean := by decide +kernel
theorem mc88 : pm_mc 88 = 4 := by decide +kernel
theorem mr88 : pm_mr 88 = some .boolean := by decide +kernel
theorem mc89 : pm_mc 89 = 4 := by decide +kernel
theorem mr89 : pm_mr 89 = some .boolean := by decide +kernel
theorem mc90 : pm_mc 90 = 5 := by decide +kernel
theorem mr90 : pm_mr 90 = none := by decide +kernel
theorem mc91 : pm_mc 91 = 5 := by decide +kernel
theorem mr91 : pm_mr 91 = some .int := by decide +kernel
theorem mc92 : pm_mc 92 = 5 := by decide +kernel
theorem mr92 : pm_mr 92 = some .int := by decide +kernel
theorem mc93 : pm_mc 93 = 5 := by decide +kernel
theorem mr93 : pm_mr 93 = some .int := by decide +kernel
theorem mc94 : pm_mc 94 = 5 := by decide +kernel
theorem mr94 : pm_mr 94 = some .int := by decide +kernel
theorem mc95 : pm_mc 95 = 5 := by decide +kernel
theorem mr95 : pm_mr 95 = some .int := by decide +kernel
theorem mc96 : pm_mc 96 = 5 := by decide +kernel
theorem mr96 : pm_mr 96 = some .int := by decide +kernel
theorem mc97 : pm_mc 97 = 5 := by decide +kernel
theorem mr97 : pm_mr 97 = some .int := by decide +kernel
theorem mc98 : pm_mc 98 = 5 := by decide +kernel
theorem mr98 : pm_mr 98 = some .int := by decide +kernel
theorem mc99 : pm_mc 99 = 5 := by decide +kernel
theorem mr99 : pm_mr 99 = some .int := by decide +kernel
theorem mc100 : pm_mc 100 = 5 := by decide +kernel
theorem mr100 : pm_mr 100 = some .int := by decide +kernel
theorem mc101 : pm_mc 101 = 5 := by decide +kernel
theorem mr101 : pm_mr 101 = some .int := by decide +kernel
theorem mc102 : pm_mc 102 = 5 := by decide +kernel
theorem mr102 : pm_mr 102 = some .int := by decide +kernel
theorem mc103 : pm_mc 103 = 5 := by decide +kernel
theorem mr103 : pm_mr 103 = some .int := by decide +kernel
theorem mc104 : pm_mc 104 = 5 := by decide +kernel
theorem mr104 : pm_mr 104 = some .int := by decide +kernel
theorem mc105 : pm_mc 105 = 5 := by decide +kernel
theorem mr105 : pm_mr 105 = some .int := by decide +kernel
theorem mc106 : pm_mc 106 = 5 := by decide +kernel
theorem mr106 : pm_mr 106 = some .int := by decide +kernel
theorem mc107 : pm_mc 107 = 5 := by decide +kernel
theorem mr107 : pm_mr 107 = some .int := by decide +kernel
theorem mc108 : pm_mc 108 = 5 := by decide +kernel
theorem mr108 : pm_mr 108 = some .int := by decide +kernel
theorem mc109 : pm_mc 109 = 5 := by decide +kernel
theorem mr109 : pm_mr 109 = some .int := by decide +kernel
theorem mc110 : pm_mc 110 = 5 := by decide +kernel
theorem mr110 : pm_mr 110 = some .int := by decide +kernel
theorem mc111 : pm_mc 111 = 5 := by decide +kernel
theorem mr111 : pm_mr 111 = some .int := by decide +kernel
theorem mc112 : pm_mc 112 = 5 := by decide +kernel
theorem mr112 : pm_mr 112 = some .int := by decide +kernel
theorem mc113 : pm_mc 113 = 5 := by decide +kernel
theorem mr113 : pm_mr 113 = some .int := by decide +kernel
theorem mc114 : pm_mc 114 = 5 := by decide +kernel
theorem mr114 : pm_mr 114 = some .int := by decide +kernel
theorem mc115 : pm_mc 115 = 5 := by decide +kernel
theorem mr115 : pm_mr 115 = some .int := by decide +kernel
theorem mc116 : pm_mc 116 = 5 := by decide +kernel
theorem mr116 : pm_mr 116 = some .int := by decide +kernel
theorem mc117 : pm_mc 117 = 5 := by decide +kernel
theorem mr117 : pm_mr 117 = some .int := by decide +kernel
theorem mc118 : pm_mc 118 = 5 := by decide +kernel
theorem mr118 : pm_mr 118 = some .int := by decide +kernel
theorem mc119 : pm_mc 119 = 5 := by decide +kernel
theorem mr119 : pm_mr 119 = some .int := by decide +kernel
theorem mc120 : pm_mc 120 = 5 := by decide +kernel
theorem mr120 : pm_mr 120 = some .boolean := by decide +kernel
theorem mc121 : pm_mc 121 = 5 := by decide +kernel
theorem mr121 : pm_mr 121 = some .boolean := by decide +kernel
theorem mc122 : pm_mc 122 = 5 := by decide +kernel
theorem mr122 : pm_mr 122 = some .boolean := by decide +kernel
theorem mc123 : pm_mc 123 = 5 := by decide +kernel
theorem mr123 : pm_mr 123 = some .int := by decide +kernel
theorem mc124 : pm_mc 124 = 5 := by decide +kernel
theorem mr124 : pm_mr 124 = some .int := by decide +kernel
theorem mc125 : pm_mc 125 = 5 := by decide +kernel
theorem mr125 : pm_mr 125 = some .int := by decide +kernel
theorem mc126 : pm_mc 126 = 5 := by decide +kernel
theorem mr126 : pm_mr 126 = none := by decide +kernel
theorem mc127 : pm_mc 127 = 5 := by decide +kernel
theorem mr127 : pm_mr 127 = some .boolean := by decide +kernel
theorem mc128 : pm_mc 128 = 5 := by decide +kernel
theorem mr128 : pm_mr 128 = some .boolean := by decide +kernel
theorem mc129 : pm_mc 129 = 6 := by decide +kernel
theorem mr129 : pm_mr 129 = none := by decide +kernel
theorem mc130 : pm_mc 130 = 6 := by decide +kernel
theorem mr130 : pm_mr 130 = some .boolean := by decide +kernel
theorem mc131 : pm_mc 131 = 6 := by decide +kernel
theorem mr131 : pm_mr 131 = some .int := by decide +kernel
theorem mc132 : pm_mc 132 = 6 := by decide +kernel
theorem mr132 : pm_mr 132 = some .boolean := by decide +kernel
theorem mc133 : pm_mc 133 = 6 := by decide +kernel
theorem mr133 : pm_mr 133 = some .int := by decide +kernel
theorem mc134 : pm_mc 134 = 6 := by decide +kernel
theorem mr134 : pm_mr 134 = some .int := by decide +kernel
theorem mc135 : pm_mc 135 = 6 := by decide +kernel
theorem mr135 : pm_mr 135 = some .int := by decide +kernel
theorem mc136 : pm_mc 136 = 6 := by decide +kernel
theorem mr136 : pm_mr 136 = some .int := by decide +kernel
theorem mc137 : pm_mc 137 = 6 := by decide +kernel
theorem mr137 : pm_mr 137 = some .int := by decide +kernel
theorem mc138 : pm_mc 138 = 6 := by decide +kernel
theorem mr138 : pm_mr 138 = some .int := by decide +kernel
theorem mc139 : pm_mc 139 = 6 := by decide +kernel
theorem mr139 : pm_mr 139 = some .boolean := by decide +kernel
theorem mc140 : pm_mc 140 = 6 := by decide +kernel
theorem mr140 : pm_mr 140 = some .boolean := by decide +kernel
theorem mc141 : pm_mc 141 = 6 := by decide +kernel
theorem mr141 : pm_mr 141 = none := by decide +kernel
theorem mc142 : pm_mc 142 = 6 := by decide +kernel
theorem mr142 : pm_mr 142 = none := by decide +kernel
theorem mc143 : pm_mc 143 = 6 := by decide +kernel
theorem mr143 : pm_mr 143 = none := by decide +kernel
theorem mc144 : pm_mc 144 = 6 := by decide +kernel
theorem mr144 : pm_mr 144 = none := by decide +kernel
theorem mc145 : pm_mc 145 = 6 := by decide +kernel
theorem mr145 : pm_mr 145 = some .long := by decide +kernel
theorem mc146 : pm_mc 146 = 6 := by decide +kernel
theorem mr146 : pm_mr 146 = some .int := by decide +kernel
theorem mc147 : pm_mc 147 = 6 := by decide +kernel
theorem mr147 : pm_mr 147 = some .int := by decide +kernel
theorem mc148 : pm_mc 148 = 6 := by decide +kernel
theorem mr148 : pm_mr 148 = some .int := by decide +kernel
theorem mc149 : pm_mc 149 = 6 := by decide +kernel
theorem mr149 : pm_mr 149 = none := by decide +kernel
theorem mc150 : pm_mc 150 = 6 := by decide +kernel
theorem mr150 : pm_mr 150 = none := by decide +kernel
theorem mc151 : pm_mc 151 = 6 := by decide +kernel
theorem mr151 : pm_mr 151 = none := by decide +kernel
theorem mc152 : pm_mc 152 = 6 := by decide +kernel
theorem mr152 : pm_mr 152 = some .boolean := by decide +kernel
theorem mc153 : pm_mc 153 = 6 := by decide +kernel
theorem mr153 : pm_mr 153 = none := by decide +kernel
theorem mc154 : pm_mc 154 = 6 := by decide +kernel
theorem mr154 : pm_mr 154 = some .int := by decide +kernel
theorem mc155 : pm_mc 155 = 6 := by decide +kernel
theorem mr155 : pm_mr 155 = some .int := by decide +kernel
theorem mc156 : pm_mc 156 = 6 := by decide +kernel
theorem mr156 : pm_mr 156 = some .boolean := by decide +kernel
theorem mc157 : pm_mc 157 = 6 := by decide +kernel
theorem mr157 : pm_mr 157 = some .boolean := by decide +kernel
theorem mc158 : pm_mc 158 = 6 := by decide +kernel
theorem mr158 : pm_mr 158 = some .boolean := by decide +kernel
theorem mc159 : pm_mc 159 = 6 := by decide +kernel
theorem mr159 : pm_mr 159 = some .int := by decide +kernel
theorem mc160 : pm_mc 160 = 6 := by decide +kernel
theorem mr160 : pm_mr 160 = some .boolean := by decide +kernel
theorem mc161 : pm_mc 161 = 6 := by decide +kernel
theorem mr161 : pm_mr 161 = none := by decide +kernel
theorem mc162 : pm_mc 162 = 6 := by decide +kernel
theorem mr162 : pm_mr 162 = some .int := by decide +kernel
theorem mc163 : pm_mc 163 = 6 := by decide +kernel
theorem mr163 : pm_mr 163 = none := by decide +kernel
theorem mc164 : pm_mc 164 = 6 := by decide +kernel
theorem mr164 : pm_mr 164 = some .boolean := by decide +kernel
theorem mc165 : pm_mc 165 = 6 := by decide +kernel
theorem mr165 : pm_mr 165 = none := by decide +kernel
theorem mc166 : pm_mc 166 = 6 := by decide +kernel
theorem mr166 : pm_mr 166 = none := by decide +kernel
theorem mc167 : pm_mc 167 = 6 := by decide +kernel
theorem mr167 : pm_mr 167 = none := by decide +kernel
theorem mc168 : pm_mc 168 = 6 := by decide +kernel
theorem mr168 : pm_mr 168 = some .int := by decide +kernel
theorem mc169 : pm_mc 169 = 6 := by decide +kernel
theorem mr169 : pm_mr 169 = some .int := by decide +kernel
theorem mc170 : pm_mc 170 = 6 := by decide +kernel
theorem mr170 : pm_mr 170 = some .int := by decide +kernel
theorem mc171 : pm_mc 171 = 6 := by decide +kernel
theorem mr171 : pm_mr 171 = some .int := by decide +kernel
theorem mc172 : pm_mc 172 = 6 := by decide +kernel
theorem mr172 : pm_mr 172 = some .int := by decide +kernel
theorem mc173 : pm_mc 173 = 6 := by decide +kernel
theorem mr173 : pm_mr 173 = some .int := by decide +kernel
theorem mc174 : pm_mc 174 = 6 := by decide +kernel
theorem mr174 : pm_mr 174 = some .int := by decide +kernel
theorem mc175 : pm_mc 175 = 6 := by decide +kernel
theorem mr175 : pm_mr 175 = some .int := by decide +kernel
theorem mc176 : pm_mc 176 = 6 := by decide +kernel
theorem mr176 : pm_mr 176 = some .int := by decide +kernel
theorem mc177 : pm_mc 177 = 6 := by decide +kernel
theorem mr177 : pm_mr 177 = none := by decide +kernel
theorem mc178 : pm_mc 178 = 6 := by decide +kernel
theorem mr178 : pm_mr 178 = some .int := by decide +kernel
theorem mc179 : pm_mc 179 = 6 := by decide +kernel
theorem mr179 : pm_mr 179 = some .int := by decide +kernel
theorem mc180 : pm_mc 180 = 6 := by decide +kernel
theorem mr180 : pm_mr 180 = some .boolean := by decide +kernel
theorem mc181 : pm_mc 181 = 6 := by decide +kernel
theorem mr181 : pm_mr 181 = some .int := by decide +kernel
theorem mc182 : pm_mc 182 = 6 := by decide +kernel
theorem mr182 : pm_mr 182 = some .boolean := by decide +kernel
theorem mc183 : pm_mc 183 = 6 := by decide +kernel
theorem mr183 : pm_mr 183 = some .int := by decide +kernel
theorem mc184 : pm_mc 184 = 6 := by decide +kernel
theorem mr184 : pm_mr 184 = some .int := by decide +kernel
theorem mc185 : pm_mc 185 = 6 := by decide +kernel
theorem mr185 : pm_mr 185 = some .int := by decide +kernel
theorem mc186 : pm_mc 186 = 6 := by decide +kernel
theorem mr186 : pm_mr 186 = some .int := by decide +kernel
theorem mc187 : pm_mc 187 = 6 := by decide +kernel
theorem mr187 : pm_mr 187 = some .int := by decide +kernel
theorem mc188 : pm_mc 188 = 6 := by decide +kernel
theorem mr188 : pm_mr 188 = some .boolean := by decide +kernel
theorem mc189 : pm_mc 189 = 6 := by decide +kernel
theorem mr189 : pm_mr 189 = some .int := by decide +kernel
theorem mc190 : pm_mc 190 = 6 := by decide +kernel
theorem mr190 : pm_mr 190 = some .int := by decide +kernel
theorem mc191 : pm_mc 191 = 6 := by decide +kernel
theorem mr191 : pm_mr 191 = some .boolean := by decide +kernel
theorem mc192 : pm_mc 192 = 6 := by decide +kernel
theorem mr192 : pm_mr 192 = some .int := by decide +kernel
theorem mc193 : pm_mc 193 = 6 := by decide +kernel
theorem mr193 : pm_mr 193 = some .int := by decide +kernel
theorem mc194 : pm_mc 194 = 6 := by decide +kernel
theorem mr194 : pm_mr 194 = none := by decide +kernel
theorem mc195 : pm_mc 195 = 6 := by decide +kernel
theorem mr195 : pm_mr 195 = some .int := by decide +kernel
theorem mc196 : pm_mc 196 = 6 := by decide +kernel
theorem mr196 : pm_mr 196 = some .int := by decide +kernel
theorem mc197 : pm_mc 197 = 6 := by decide +kernel
theorem mr197 : pm_mr 197 = some .int := by decide +kernel
theorem mc198 : pm_mc 198 = 6 := by decide +kernel
theorem mr198 : pm_mr 198 = some .int := by decide +kernel
theorem mc199 : pm_mc 199 = 6 := by decide +kernel
theorem mr199 : pm_mr 199 = some .int := by decide +kernel
theorem mc200 : pm_mc 200 = 6 := by decide +kernel
theorem mr200 : pm_mr 200 = some .int := by decide +kernel
theorem mc201 : pm_mc 201 = 6 := by decide +kernel
theorem mr201 : pm_mr 201 = some .int := by decide +kernel
theorem mc202 : pm_mc 202 = 6 := by decide +kernel
theorem mr202 : pm_mr 202 = some .int := by decide +kernel
theorem mc203 : pm_mc 203 = 8 := by decide +kernel
theorem mr203 : pm_mr 203 = some .int := by decide +kernel
theorem mc204 : pm_mc 204 = 10 := by decide +kernel
theorem mr204 : pm_mr 204 = some .int := by decide +kernel
theorem mc205 : pm_mc 205 = 10 := by decide +kernel
theorem mr205 : pm_mr 205 = some .char := by decide +kernel
theorem mc206 : pm_mc 206 = 10 := by decide +kernel
theorem mr206 : pm_mr 206 = some .byte := by decide +kernel
theorem mc207 : pm_mc 207 = 10 := by decide +kernel
theorem mr207 : pm_mr 207 = some .boolean := by decide +kernel
theorem mc208 : pm_mc 208 = 10 := by decide +kernel
theorem mr208 : pm_mr 208 = none := by decide +kernel
theorem mc209 : pm_mc 209 = 11 := by decide +kernel
theorem mr209 : pm_mr 209 = some .char := by decide +kernel
theorem mc210 : pm_mc 210 = 12 := by decide +kernel
theorem mr210 : pm_mr 210 = none := by decide +kernel
theorem mc211 : pm_mc 211 = 13 := by decide +kernel
theorem mr211 : pm_mr 211 = some .int := by decide +kernel
theorem mc212 : pm_mc 212 = 7 := by decide +kernel
theorem mr212 : pm_mr 212 = some .boolean := by decide +kernel
theorem lf2_9 : pm_lft.lookup (2, 9) = some (2, 0, 98) := by decide +kernel
theorem lf2_15 : pm_lft.lookup (2, 15) = some (2, 1, 99) := by decide +kernel
theorem lf2_18 : pm_lft.lookup (2, 18) = some (2, 2, 100) := by decide +kernel
theorem lf2_25 : pm_lft.lookup (2, 25) = some (2, 3, 101) := by decide +kernel
theorem lf4_9 : pm_lft.lookup (4, 9) = some (4, 0, 118) := by decide +kernel
theorem lf4_15 : pm_lft.lookup (4, 15) = some (4, 1, 119) := by decide +kernel
theorem lf4_57 : pm_lft.lookup (4, 57) = some (4, 2, 120) := by decide +kernel
theorem lf4_118 : pm_lft.lookup (4, 118) = some (4, 3, 121) := by decide +kernel
theorem lf4_29 : pm_lft.lookup (4, 29) = some (4, 4, 122) := by decide +kernel
theorem lf4_92 : pm_lft.lookup (4, 92) = some (4, 5, 123) := by decide +kernel
theorem lf4_19 : pm_lft.lookup (4, 19) = some (4, 6, 124) := by decide +kernel
theorem lf4_22 : pm_lft.lookup (4, 22) = some (4, 7, 125) := by decide +kernel
theorem lf0_11 : pm_lft.lookup (0, 11) = some (0, 0, 150) := by decide +kernel
theorem lf0_21 : pm_lft.lookup (0, 21) = some (0, 1, 151) := by decide +kernel
theorem lf0_17 : pm_lft.lookup (0, 17) = some (0, 2, 152) := by decide +kernel
theorem lf1_9 : pm_lft.lookup (1, 9) = some (1, 0, 166) := by decide +kernel
theorem lf1_32 : pm_lft.lookup (1, 32) = some (1, 1, 167) := by decide +kernel
theorem lf3_39 : pm_lft.lookup (3, 39) = some (3, 0, 179) := by decide +kernel
theorem lf3_43 : pm_lft.lookup (3, 43) = some (3, 1, 180) := by decide +kernel
theorem lf3_46 : pm_lft.lookup (3, 46) = some (3, 2, 181) := by decide +kernel
theorem lf3_49 : pm_lft.lookup (3, 49) = some (3, 3, 182) := by decide +kernel
theorem lf3_52 : pm_lft.lookup (3, 52) = some (3, 4, 183) := by decide +kernel
theorem lf3_9 : pm_lft.lookup (3, 9) = some (3, 5, 184) := by decide +kernel
theorem lf3_15 : pm_lft.lookup (3, 15) = some (3, 6, 185) := by decide +kernel
theorem lf3_18 : pm_lft.lookup (3, 18) = some (3, 7, 186) := by decide +kernel
theorem lf3_21 : pm_lft.lookup (3, 21) = some (3, 8, 187) := by decide +kernel
theorem lf3_24 : pm_lft.lookup (3, 24) = some (3, 9, 188) := by decide +kernel
theorem lf3_27 : pm_lft.lookup (3, 27) = some (3, 10, 189) := by decide +kernel
theorem lf3_30 : pm_lft.lookup (3, 30) = some (3, 11, 190) := by decide +kernel
theorem lf3_33 : pm_lft.lookup (3, 33) = some (3, 12, 191) := by decide +kernel
theorem lf3_36 : pm_lft.lookup (3, 36) = some (3, 13, 192) := by decide +kernel
theorem lf5_10 : pm_lft.lookup (5, 10) = some (5, 0, 223) := by decide +kernel
theorem lf5_19 : pm_lft.lookup (5, 19) = some (5, 1, 224) := by decide +kernel
theorem lf5_26 : pm_lft.lookup (5, 26) = some (5, 2, 225) := by decide +kernel
theorem lf5_33 : pm_lft.lookup (5, 33) = some (5, 3, 226) := by decide +kernel
theorem lf5_40 : pm_lft.lookup (5, 40) = some (5, 4, 227) := by decide +kernel
theorem lf5_44 : pm_lft.lookup (5, 44) = some (5, 5, 228) := by decide +kernel
theorem lf5_47 : pm_lft.lookup (5, 47) = some (5, 6, 229) := by decide +kernel
theorem lf5_243 : pm_lft.lookup (5, 243) = some (5, 7, 230) := by decide +kernel
theorem lf6_50 : pm_lft.lookup (6, 50) = some (6, 0, 849) := by decide +kernel
theorem lf6_54 : pm_lft.lookup (6, 54) = some (6, 1, 850) := by decide +kernel
theorem lf6_7 : pm_lft.lookup (6, 7) = some (6, 2, 851) := by decide +kernel
theorem lf6_13 : pm_lft.lookup (6, 13) = some (6, 3, 852) := by decide +kernel
theorem lf6_16 : pm_lft.lookup (6, 16) = some (6, 4, 853) := by decide +kernel
theorem lf6_19 : pm_lft.lookup (6, 19) = some (6, 5, 854) := by decide +kernel
theorem lf6_22 : pm_lft.lookup (6, 22) = some (6, 6, 855) := by decide +kernel
theorem lf6_25 : pm_lft.lookup (6, 25) = some (6, 7, 856) := by decide +kernel
theorem lf6_181 : pm_lft.lookup (6, 181) = some (6, 8, 857) := by decide +kernel
theorem lf6_28 : pm_lft.lookup (6, 28) = some (6, 9, 858) := by decide +kernel
theorem lf6_77 : pm_lft.lookup (6, 77) = some (6, 10, 859) := by decide +kernel
theorem lf6_177 : pm_lft.lookup (6, 177) = some (6, 11, 860) := by decide +kernel
theorem lf6_83 : pm_lft.lookup (6, 83) = some (6, 12, 861) := by decide +kernel
theorem lf6_87 : pm_lft.lookup (6, 87) = some (6, 13, 862) := by decide +kernel
theorem lf6_96 : pm_lft.lookup (6, 96) = some (6, 14, 863) := by decide +kernel
theorem lf6_93 : pm_lft.lookup (6, 93) = some (6, 15, 864) := by decide +kernel
theorem lf6_105 : pm_lft.lookup (6, 105) = some (6, 16, 865) := by decide +kernel
theorem lf6_108 : pm_lft.lookup (6, 108) = some (6, 17, 866) := by decide +kernel
theorem lf6_114 : pm_lft.lookup (6, 114) = some (6, 18, 867) := by decide +kernel
theorem lf6_31 : pm_lft.lookup (6, 31) = some (6, 19, 868) := by decide +kernel
theorem lf6_34 : pm_lft.lookup (6, 34) = some (6, 20, 869) := by decide +kernel
theorem lf6_37 : pm_lft.lookup (6, 37) = some (6, 21, 870) := by decide +kernel
theorem lf6_40 : pm_lft.lookup (6, 40) = some (6, 22, 871) := by decide +kernel
theorem lf6_44 : pm_lft.lookup (6, 44) = some (6, 23, 872) := by decide +kernel
theorem lf6_47 : pm_lft.lookup (6, 47) = some (6, 24, 873) := by decide +kernel
theorem lf6_256 : pm_lft.lookup (6, 256) = some (6, 25, 874) := by decide +kernel
theorem lf10_9 : pm_lft.lookup (10, 9) = some (100, 0, 1238) := by decide +kernel
theorem lf10_15 : pm_lft.lookup (10, 15) = some (100, 1, 1239) := by decide +kernel
theorem fo0_0 : ¬ 0 = 100 ∧ 0 < 7 ∧ 0 < pm_nf 0 ∧ pm_rf 0 0 = true := by decide
theorem fo0_1 : ¬ 0 = 100 ∧ 0 < 7 ∧ 1 < pm_nf 0 ∧ pm_rf 0 1 = false := by decide
theorem po0_1 : 0 < 7 ∧ 1 < pm_nf 0 ∧ pm_ff 0 1 = false ∧ pm_rf 0 1 = false := by decide
theorem fo0_2 : ¬ 0 = 100 ∧ 0 < 7 ∧ 2 < pm_nf 0 ∧ pm_rf 0 2 = false := by decide
theorem po0_2 : 0 < 7 ∧ 2 < pm_nf 0 ∧ pm_ff 0 2 = false ∧ pm_rf 0 2 = false := by decide
theorem fo1_0 : ¬ 1 = 100 ∧ 1 < 7 ∧ 0 < pm_nf 1 ∧ pm_rf 1 0 = true := by decide
theorem fo1_1 : ¬ 1 = 100 ∧ 1 < 7 ∧ 1 < pm_nf 1 ∧ pm_rf 1 1 = false := by decide
theorem po1_1 : 1 < 7 ∧ 1 < pm_nf 1 ∧ pm_ff 1 1 = false ∧ pm_rf 1 1 = false := by decide
theorem fo2_0 : ¬ 2 = 100 ∧ 2 < 7 ∧ 0 < pm_nf 2 ∧ pm_rf 2 0 = true := by decide
theorem fo2_1 : ¬ 2 = 100 ∧ 2 < 7 ∧ 1 < pm_nf 2 ∧ pm_rf 2 1 = true := by decide
theorem fo2_2 : ¬ 2 = 100 ∧ 2 < 7 ∧ 2 < pm_nf 2 ∧ pm_rf 2 2 = true := by decide
theorem fo2_3 : ¬ 2 = 100 ∧ 2 < 7 ∧ 3 < pm_nf 2 ∧ pm_rf 2 3 = false := by decide
theorem po2_3 : 2 < 7 ∧ 3 < pm_nf 2 ∧ pm_ff 2 3 = false ∧ pm_rf 2 3 = false := by decide
theorem fo3_0 : ¬ 3 = 100 ∧ 3 < 7 ∧ 0 < pm_nf 3 ∧ pm_rf 3 0 = false := by decide
theorem po3_0 : 3 < 7 ∧ 0 < pm_nf 3 ∧ pm_ff 3 0 = false ∧ pm_rf 3 0 = false := by decide
theorem fo3_1 : ¬ 3 = 100 ∧ 3 < 7 ∧ 1 < pm_nf 3 ∧ pm_rf 3 1 = false := by decide
theorem po3_1 : 3 < 7 ∧ 1 < pm_nf 3 ∧ pm_ff 3 1 = false ∧ pm_rf 3 1 = false := by decide
theorem fo3_2 : ¬ 3 = 100 ∧ 3 < 7 ∧ 2 < pm_nf 3 ∧ pm_rf 3 2 = false := by decide
theorem po3_2 : 3 < 7 ∧ 2 < pm_nf 3 ∧ pm_ff 3 2 = false ∧ pm_rf 3 2 = false := by decide
theorem fo3_3 : ¬ 3 = 100 ∧ 3 < 7 ∧ 3 < pm_nf 3 ∧ pm_rf 3 3 = false := by decide
theorem po3_3 : 3 < 7 ∧ 3 < pm_nf 3 ∧ pm_ff 3 3 = false ∧ pm_rf 3 3 = false := by decide
theorem fo3_4 : ¬ 3 = 100 ∧ 3 < 7 ∧ 4 < pm_nf 3 ∧ pm_rf 3 4 = false := by decide
theorem po3_4 : 3 < 7 ∧ 4 < pm_nf 3 ∧ pm_ff 3 4 = false ∧ pm_rf 3 4 = false := by decide
theorem fo3_5 : ¬ 3 = 100 ∧ 3 < 7 ∧ 5 < pm_nf 3 ∧ pm_rf 3 5 = true := by decide
theorem fo3_6 : ¬ 3 = 100 ∧ 3 < 7 ∧ 6 < pm_nf 3 ∧ pm_rf 3 6 = true := by decide
theorem fo3_7 : ¬ 3 = 100 ∧ 3 < 7 ∧ 7 < pm_nf 3 ∧ pm_rf 3 7 = true := by decide
theorem fo3_8 : ¬ 3 = 100 ∧ 3 < 7 ∧ 8 < pm_nf 3 ∧ pm_rf 3 8 = true := by decide
theorem fo3_9 : ¬ 3 = 100 ∧ 3 < 7 ∧ 9 < pm_nf 3 ∧ pm_rf 3 9 = true := by decide
theorem fo3_10 : ¬ 3 = 100 ∧ 3 < 7 ∧ 10 < pm_nf 3 ∧ pm_rf 3 10 = true := by decide
theorem fo3_11 : ¬ 3 = 100 ∧ 3 < 7 ∧ 11 < pm_nf 3 ∧ pm_rf 3 11 = true := by decide
theorem fo3_12 : ¬ 3 = 100 ∧ 3 < 7 ∧ 12 < pm_nf 3 ∧ pm_rf 3 12 = true := by decide
theorem fo3_13 : ¬ 3 = 100 ∧ 3 < 7 ∧ 13 < pm_nf 3 ∧ pm_rf 3 13 = true := by decide
theorem fo4_0 : ¬ 4 = 100 ∧ 4 < 7 ∧ 0 < pm_nf 4 ∧ pm_rf 4 0 = true := by decide
theorem fo4_1 : ¬ 4 = 100 ∧ 4 < 7 ∧ 1 < pm_nf 4 ∧ pm_rf 4 1 = false := by decide
theorem po4_1 : 4 < 7 ∧ 1 < pm_nf 4 ∧ pm_ff 4 1 = false ∧ pm_rf 4 1 = false := by decide
theorem fo4_2 : ¬ 4 = 100 ∧ 4 < 7 ∧ 2 < pm_nf 4 ∧ pm_rf 4 2 = false := by decide
theorem po4_2 : 4 < 7 ∧ 2 < pm_nf 4 ∧ pm_ff 4 2 = false ∧ pm_rf 4 2 = false := by decide
theorem fo4_3 : ¬ 4 = 100 ∧ 4 < 7 ∧ 3 < pm_nf 4 ∧ pm_rf 4 3 = false := by decide
theorem po4_3 : 4 < 7 ∧ 3 < pm_nf 4 ∧ pm_ff 4 3 = false ∧ pm_rf 4 3 = false := by decide
theorem fo4_4 : ¬ 4 = 100 ∧ 4 < 7 ∧ 4 < pm_nf 4 ∧ pm_rf 4 4 = false := by decide
theorem po4_4 : 4 < 7 ∧ 4 < pm_nf 4 ∧ pm_ff 4 4 = false ∧ pm_rf 4 4 = false := by decide
theorem fo4_5 : ¬ 4 = 100 ∧ 4 < 7 ∧ 5 < pm_nf 4 ∧ pm_rf 4 5 = false := by decide
theorem po4_5 : 4 < 7 ∧ 5 < pm_nf 4 ∧ pm_ff 4 5 = false ∧ pm_rf 4 5 = false := by decide
theorem fo4_6 : ¬ 4 = 100 ∧ 4 < 7 ∧ 6 < pm_nf 4 ∧ pm_rf 4 6 = false := by decide
theorem po4_6 : 4 < 7 ∧ 6 < pm_nf 4 ∧ pm_ff 4 6 = false ∧ pm_rf 4 6 = false := by decide
theorem fo4_7 : ¬ 4 = 100 ∧ 4 < 7 ∧ 7 < pm_nf 4 ∧ pm_rf 4 7 = false := by decide
theorem po4_7 : 4 < 7 ∧ 7 < pm_nf 4 ∧ pm_ff 4 7 = false ∧ pm_rf 4 7 = false := by decide
theorem fo5_0 : ¬ 5 = 100 ∧ 5 < 7 ∧ 0 < pm_nf 5 ∧ pm_rf 5 0 = true := by decide
theorem fo5_1 : ¬ 5 = 100 ∧ 5 < 7 ∧ 1 < pm_nf 5 ∧ pm_rf 5 1 = true := by decide
theorem fo5_2 : ¬ 5 = 100 ∧ 5 < 7 ∧ 2 < pm_nf 5 ∧ pm_rf 5 2 = true := by decide
theorem fo5_3 : ¬ 5 = 100 ∧ 5 < 7 ∧ 3 < pm_nf 5 ∧ pm_rf 5 3 = true := by decide
theorem fo5_4 : ¬ 5 = 100 ∧ 5 < 7 ∧ 4 < pm_nf 5 ∧ pm_rf 5 4 = true := by decide
theorem fo5_5 : ¬ 5 = 100 ∧ 5 < 7 ∧ 5 < pm_nf 5 ∧ pm_rf 5 5 = true := by decide
theorem fo5_6 : ¬ 5 = 100 ∧ 5 < 7 ∧ 6 < pm_nf 5 ∧ pm_rf 5 6 = true := by decide
theorem fo5_7 : ¬ 5 = 100 ∧ 5 < 7 ∧ 7 < pm_nf 5 ∧ pm_rf 5 7 = false := by decide
theorem po5_7 : 5 < 7 ∧ 7 < pm_nf 5 ∧ pm_ff 5 7 = false ∧ pm_rf 5 7 = false := by decide
theorem fo6_0 : ¬ 6 = 100 ∧ 6 < 7 ∧ 0 < pm_nf 6 ∧ pm_rf 6 0 = false := by decide
theorem po6_0 : 6 < 7 ∧ 0 < pm_nf 6 ∧ pm_ff 6 0 = false ∧ pm_rf 6 0 = false := by decide
theorem fo6_1 : ¬ 6 = 100 ∧ 6 < 7 ∧ 1 < pm_nf 6 ∧ pm_rf 6 1 = false := by decide
theorem po6_1 : 6 < 7 ∧ 1 < pm_nf 6 ∧ pm_ff 6 1 = false ∧ pm_rf 6 1 = false := by decide
theorem fo6_2 : ¬ 6 = 100 ∧ 6 < 7 ∧ 2 < pm_nf 6 ∧ pm_rf 6 2 = true := by decide
theorem fo6_3 : ¬ 6 = 100 ∧ 6 < 7 ∧ 3 < pm_nf 6 ∧ pm_rf 6 3 = true := by decide
theorem fo6_4 : ¬ 6 = 100 ∧ 6 < 7 ∧ 4 < pm_nf 6 ∧ pm_rf 6 4 = true := by decide
theorem fo6_5 : ¬ 6 = 100 ∧ 6 < 7 ∧ 5 < pm_nf 6 ∧ pm_rf 6 5 = true := by decide
theorem fo6_6 : ¬ 6 = 100 ∧ 6 < 7 ∧ 6 < pm_nf 6 ∧ pm_rf 6 6 = true := by decide
theorem fo6_7 : ¬ 6 = 100 ∧ 6 < 7 ∧ 7 < pm_nf 6 ∧ pm_rf 6 7 = true := by decide
theorem fo6_8 : ¬ 6 = 100 ∧ 6 < 7 ∧ 8 < pm_nf 6 ∧ pm_rf 6 8 = false := by decide
theorem po6_8 : 6 < 7 ∧ 8 < pm_nf 6 ∧ pm_ff 6 8 = false ∧ pm_rf 6 8 = false := by decide
theorem fo6_9 : ¬ 6 = 100 ∧ 6 < 7 ∧ 9 < pm_nf 6 ∧ pm_rf 6 9 = true := by decide
theorem fo6_10 : ¬ 6 = 100 ∧ 6 < 7 ∧ 10 < pm_nf 6 ∧ pm_rf 6 10 = false := by decide
theorem po6_10 : 6 < 7 ∧ 10 < pm_nf 6 ∧ pm_ff 6 10 = false ∧ pm_rf 6 10 = false := by decide
theorem fo6_11 : ¬ 6 = 100 ∧ 6 < 7 ∧ 11 < pm_nf 6 ∧ pm_rf 6 11 = false := by decide
theorem po6_11 : 6 < 7 ∧ 11 < pm_nf 6 ∧ pm_ff 6 11 = false ∧ pm_rf 6 11 = false := by decide
theorem fo6_12 : ¬ 6 = 100 ∧ 6 < 7 ∧ 12 < pm_nf 6 ∧ pm_rf 6 12 = false := by decide
theorem po6_12 : 6 < 7 ∧ 12 < pm_nf 6 ∧ pm_ff 6 12 = false ∧ pm_rf 6 12 = false := by decide
theorem fo6_13 : ¬ 6 = 100 ∧ 6 < 7 ∧ 13 < pm_nf 6 ∧ pm_rf 6 13 = false := by decide
theorem po6_13 : 6 < 7 ∧ 13 < pm_nf 6 ∧ pm_ff 6 13 = false ∧ pm_rf 6 13 = false := by decide
theorem fo6_14 : ¬ 6 = 100 ∧ 6 < 7 ∧ 14 < pm_nf 6 ∧ pm_rf 6 14 = false := by decide
theorem po6_14 : 6 < 7 ∧ 14 < pm_nf 6 ∧ pm_ff 6 14 = false ∧ pm_rf 6 14 = false := by decide
theorem fo6_15 : ¬ 6 = 100 ∧ 6 < 7 ∧ 15 < pm_nf 6 ∧ pm_rf 6 15 = false := by decide
theorem po6_15 : 6 < 7 ∧ 15 < pm_nf 6 ∧ pm_ff 6 15 = false ∧ pm_rf 6 15 = false := by decide
theorem fo6_16 : ¬ 6 = 100 ∧ 6 < 7 ∧ 16 < pm_nf 6 ∧ pm_rf 6 16 = false := by decide
theorem po6_16 : 6 < 7 ∧ 16 < pm_nf 6 ∧ pm_ff 6 16 = false ∧ pm_rf 6 16 = false := by decide
theorem fo6_17 : ¬ 6 = 100 ∧ 6 < 7 ∧ 17 < pm_nf 6 ∧ pm_rf 6 17 = false := by decide
theorem po6_17 : 6 < 7 ∧ 17 < pm_nf 6 ∧ pm_ff 6 17 = false ∧ pm_rf 6 17 = false := by decide
theorem fo6_18 : ¬ 6 = 100 ∧ 6 < 7 ∧ 18 < pm_nf 6 ∧ pm_rf 6 18 = false := by decide
theorem po6_18 : 6 < 7 ∧ 18 < pm_nf 6 ∧ pm_ff 6 18 = false ∧ pm_rf 6 18 = false := by decide
theorem fo6_19 : ¬ 6 = 100 ∧ 6 < 7 ∧ 19 < pm_nf 6 ∧ pm_rf 6 19 = true := by decide
theorem fo6_20 : ¬ 6 = 100 ∧ 6 < 7 ∧ 20 < pm_nf 6 ∧ pm_rf 6 20 = true := by decide
theorem fo6_21 : ¬ 6 = 100 ∧ 6 < 7 ∧ 21 < pm_nf 6 ∧ pm_rf 6 21 = true := by decide
theorem fo6_22 : ¬ 6 = 100 ∧ 6 < 7 ∧ 22 < pm_nf 6 ∧ pm_rf 6 22 = true := by decide
theorem fo6_23 : ¬ 6 = 100 ∧ 6 < 7 ∧ 23 < pm_nf 6 ∧ pm_rf 6 23 = true := by decide
theorem fo6_24 : ¬ 6 = 100 ∧ 6 < 7 ∧ 24 < pm_nf 6 ∧ pm_rf 6 24 = true := by decide
theorem fo6_25 : ¬ 6 = 100 ∧ 6 < 7 ∧ 25 < pm_nf 6 ∧ pm_rf 6 25 = false := by decide
theorem po6_25 : 6 < 7 ∧ 25 < pm_nf 6 ∧ pm_ff 6 25 = false ∧ pm_rf 6 25 = false := by decide
theorem ls10_38 : pm_lst.lookup (10, 38) = some (3, 387) := by decide +kernel
theorem ls10_1053 : pm_lst.lookup (10, 1053) = some (4, 403) := by decide +kernel
theorem ls1_15 : pm_lst.lookup (1, 15) = some (0, 771) := by decide +kernel
theorem ls1_26 : pm_lst.lookup (1, 26) = some (1, 793) := by decide +kernel
theorem ls1_29 : pm_lst.lookup (1, 29) = some (2, 795) := by decide +kernel
theorem lm7_9 : pm_lmt.lookup (7, 9) = some (2, 90, 0, 86) := by decide +kernel
theorem lm5_1 : pm_lmt.lookup (5, 1) = some (5, 0, 0, 89) := by decide +kernel
theorem lm5_9 : pm_lmt.lookup (5, 9) = some (4, 14, 0, 0) := by decide +kernel
theorem lm2_3 : pm_lmt.lookup (2, 3) = some (5, 0, 0, 97) := by decide +kernel
theorem lm5_18 : pm_lmt.lookup (5, 18) = some (4, 66, 0, 1) := by decide +kernel
theorem lm4_3 : pm_lmt.lookup (4, 3) = some (5, 0, 0, 117) := by decide +kernel
theorem lm5_25 : pm_lmt.lookup (5, 25) = some (4, 0, 0, 2) := by decide +kernel
theorem lm0_3 : pm_lmt.lookup (0, 3) = some (5, 0, 0, 149) := by decide +kernel
theorem lm5_32 : pm_lmt.lookup (5, 32) = some (4, 5, 0, 3) := by decide +kernel
theorem lm1_3 : pm_lmt.lookup (1, 3) = some (5, 0, 0, 165) := by decide +kernel
theorem lm5_39 : pm_lmt.lookup (5, 39) = some (4, 25, 0, 4) := by decide +kernel
theorem lm3_3 : pm_lmt.lookup (3, 3) = some (5, 0, 0, 178) := by decide +kernel
theorem lm7_13 : pm_lmt.lookup (7, 13) = some (0, 91, 3, 248) := by decide +kernel
theorem lm5_51 : pm_lmt.lookup (5, 51) = some (1, 121, 1, 252) := by decide +kernel
theorem lm5_55 : pm_lmt.lookup (5, 55) = some (1, 120, 2, 255) := by decide +kernel
theorem lm5_60 : pm_lmt.lookup (5, 60) = some (0, 123, 1, 259) := by decide +kernel
theorem lm5_64 : pm_lmt.lookup (5, 64) = some (0, 20, 3, 264) := by decide +kernel
theorem lm2_21 : pm_lmt.lookup (2, 21) = some (3, 121, 1, 5) := by decide +kernel
theorem lm2_43 : pm_lmt.lookup (2, 43) = some (3, 120, 2, 6) := by decide +kernel
theorem lm5_68 : pm_lmt.lookup (5, 68) = some (0, 124, 1, 270) := by decide +kernel
theorem lm7_18 : pm_lmt.lookup (7, 18) = some (0, 92, 3, 274) := by decide +kernel
theorem lm5_71 : pm_lmt.lookup (5, 71) = some (0, 15, 1, 278) := by decide +kernel
theorem lm5_74 : pm_lmt.lookup (5, 74) = some (0, 16, 3, 282) := by decide +kernel
theorem lm2_29 : pm_lmt.lookup (2, 29) = some (0, 15, 1, 286) := by decide +kernel
theorem lm5_78 : pm_lmt.lookup (5, 78) = some (0, 21, 3, 287) := by decide +kernel
theorem lm2_33 : pm_lmt.lookup (2, 33) = some (0, 16, 3, 291) := by decide +kernel
theorem lm2_47 : pm_lmt.lookup (2, 47) = some (1, 24, 2, 293) := by decide +kernel
theorem lm7_22 : pm_lmt.lookup (7, 22) = some (0, 93, 5, 296) := by decide +kernel
theorem lm5_82 : pm_lmt.lookup (5, 82) = some (0, 17, 1, 300) := by decide +kernel
theorem lm5_85 : pm_lmt.lookup (5, 85) = some (0, 22, 5, 304) := by decide +kernel
theorem lm2_51 : pm_lmt.lookup (2, 51) = some (6, 0, 5, 308) := by decide +kernel
theorem lm7_27 : pm_lmt.lookup (7, 27) = some (0, 94, 1, 311) := by decide +kernel
theorem lm5_89 : pm_lmt.lookup (5, 89) = some (0, 23, 1, 315) := by decide +kernel
theorem lm7_34 : pm_lmt.lookup (7, 34) = some (0, 95, 2, 319) := by decide +kernel
theorem lm5_92 : pm_lmt.lookup (5, 92) = some (0, 71, 2, 323) := by decide +kernel
theorem lm4_25 : pm_lmt.lookup (4, 25) = some (3, 120, 2, 7) := by decide +kernel
theorem lm5_96 : pm_lmt.lookup (5, 96) = some (0, 67, 0, 328) := by decide +kernel
theorem lm7_39 : pm_lmt.lookup (7, 39) = some (0, 96, 0, 333) := by decide +kernel
theorem lm5_101 : pm_lmt.lookup (5, 101) = some (0, 72, 1, 337) := by decide +kernel
theorem lm4_32 : pm_lmt.lookup (4, 32) = some (0, 83, 0, 341) := by decide +kernel
theorem lm4_126 : pm_lmt.lookup (4, 126) = some (0, 86, 1, 345) := by decide +kernel
theorem lm4_134 : pm_lmt.lookup (4, 134) = some (1, 87, 1, 349) := by decide +kernel
theorem lm4_137 : pm_lmt.lookup (4, 137) = some (1, 88, 1, 352) := by decide +kernel
theorem lm4_140 : pm_lmt.lookup (4, 140) = some (0, 84, 0, 355) := by decide +kernel
theorem lm4_143 : pm_lmt.lookup (4, 143) = some (1, 89, 1, 359) := by decide +kernel
theorem lm4_146 : pm_lmt.lookup (4, 146) = some (0, 85, 0, 362) := by decide +kernel
theorem lm4_35 : pm_lmt.lookup (4, 35) = some (0, 73, 1, 366) := by decide +kernel
theorem lm4_62 : pm_lmt.lookup (4, 62) = some (0, 76, 1, 371) := by decide +kernel
theorem lm4_41 : pm_lmt.lookup (4, 41) = some (0, 82, 1, 375) := by decide +kernel
theorem lm4_121 : pm_lmt.lookup (4, 121) = some (0, 204, 0, 379) := by decide +kernel
theorem lm10_335 : pm_lmt.lookup (10, 335) = some (0, 206, 0, 383) := by decide +kernel
theorem lm4_130 : pm_lmt.lookup (4, 130) = some (0, 205, 1, 389) := by decide +kernel
theorem lm10_492 : pm_lmt.lookup (10, 492) = some (0, 207, 0, 393) := by decide +kernel
theorem lm10_495 : pm_lmt.lookup (10, 495) = some (1, 209, 2, 397) := by decide +kernel
theorem lm11_9 : pm_lmt.lookup (11, 9) = some (1, 208, 2, 400) := by decide +kernel
theorem lm10_1059 : pm_lmt.lookup (10, 1059) = some (1, 211, 3, 405) := by decide +kernel
theorem lm4_45 : pm_lmt.lookup (4, 45) = some (0, 81, 1, 427) := by decide +kernel
theorem lm4_65 : pm_lmt.lookup (4, 65) = some (0, 78, 2, 431) := by decide +kernel
theorem lm4_69 : pm_lmt.lookup (4, 69) = some (0, 49, 2, 435) := by decide +kernel
theorem lm3_92 : pm_lmt.lookup (3, 92) = some (1, 210, 2, 439) := by decide +kernel
theorem lm4_75 : pm_lmt.lookup (4, 75) = some (0, 77, 0, 442) := by decide +kernel
theorem lm4_49 : pm_lmt.lookup (4, 49) = some (0, 74, 1, 447) := by decide +kernel
theorem lm4_79 : pm_lmt.lookup (4, 79) = some (0, 27, 0, 451) := by decide +kernel
theorem lm4_83 : pm_lmt.lookup (4, 83) = some (0, 28, 0, 455) := by decide +kernel
theorem lm4_86 : pm_lmt.lookup (4, 86) = some (0, 50, 2, 459) := by decide +kernel
theorem lm3_66 : pm_lmt.lookup (3, 66) = some (0, 33, 1, 463) := by decide +kernel
theorem lm3_69 : pm_lmt.lookup (3, 69) = some (0, 34, 1, 467) := by decide +kernel
theorem lm4_54 : pm_lmt.lookup (4, 54) = some (0, 75, 1, 472) := by decide +kernel
theorem lm4_89 : pm_lmt.lookup (4, 89) = some (0, 79, 0, 476) := by decide +kernel
theorem lm4_105 : pm_lmt.lookup (4, 105) = some (0, 80, 0, 480) := by decide +kernel
theorem lm4_95 : pm_lmt.lookup (4, 95) = some (0, 34, 1, 489) := by decide +kernel
theorem lm4_98 : pm_lmt.lookup (4, 98) = some (0, 45, 2, 490) := by decide +kernel
theorem lm3_72 : pm_lmt.lookup (3, 72) = some (0, 44, 2, 494) := by decide +kernel
theorem lm3_76 : pm_lmt.lookup (3, 76) = some (0, 39, 1, 498) := by decide +kernel
theorem lm3_61 : pm_lmt.lookup (3, 61) = some (0, 35, 1, 502) := by decide +kernel
theorem lm3_78 : pm_lmt.lookup (3, 78) = some (0, 38, 1, 507) := by decide +kernel
theorem lm4_101 : pm_lmt.lookup (4, 101) = some (0, 51, 4, 511) := by decide +kernel
theorem lm5_105 : pm_lmt.lookup (5, 105) = some (0, 70, 0, 515) := by decide +kernel
theorem lm5_109 : pm_lmt.lookup (5, 109) = some (0, 69, 0, 520) := by decide +kernel
theorem lm5_112 : pm_lmt.lookup (5, 112) = some (0, 52, 1, 524) := by decide +kernel
theorem lm3_98 : pm_lmt.lookup (3, 98) = some (6, 0, 5, 528) := by decide +kernel
theorem lm5_116 : pm_lmt.lookup (5, 116) = some (0, 2, 0, 529) := by decide +kernel
theorem lm5_119 : pm_lmt.lookup (5, 119) = some (0, 29, 0, 533) := by decide +kernel
theorem lm7_44 : pm_lmt.lookup (7, 44) = some (0, 97, 0, 537) := by decide +kernel
theorem lm5_122 : pm_lmt.lookup (5, 122) = some (0, 68, 0, 541) := by decide +kernel
theorem lm7_48 : pm_lmt.lookup (7, 48) = some (0, 98, 0, 545) := by decide +kernel
theorem lm5_125 : pm_lmt.lookup (5, 125) = some (0, 26, 0, 549) := by decide +kernel
theorem lm5_130 : pm_lmt.lookup (5, 130) = some (0, 30, 0, 554) := by decide +kernel
theorem lm5_133 : pm_lmt.lookup (5, 133) = some (0, 3, 1, 558) := by decide +kernel
theorem lm0_24 : pm_lmt.lookup (0, 24) = some (0, 53, 2, 562) := by decide +kernel
theorem lm5_136 : pm_lmt.lookup (5, 136) = some (0, 60, 0, 566) := by decide +kernel
theorem lm3_110 : pm_lmt.lookup (3, 110) = some (0, 61, 0, 570) := by decide +kernel
theorem lm3_119 : pm_lmt.lookup (3, 119) = some (0, 62, 1, 574) := by decide +kernel
theorem lm3_113 : pm_lmt.lookup (3, 113) = some (0, 63, 1, 578) := by decide +kernel
theorem lm3_121 : pm_lmt.lookup (3, 121) = some (0, 41, 1, 582) := by decide +kernel
theorem lm3_124 : pm_lmt.lookup (3, 124) = some (0, 64, 1, 586) := by decide +kernel
theorem lm3_116 : pm_lmt.lookup (3, 116) = some (0, 65, 1, 590) := by decide +kernel
theorem lm7_52 : pm_lmt.lookup (7, 52) = some (0, 99, 2, 594) := by decide +kernel
theorem lm5_139 : pm_lmt.lookup (5, 139) = some (0, 35, 1, 598) := by decide +kernel
theorem lm5_142 : pm_lmt.lookup (5, 142) = some (0, 33, 1, 599) := by decide +kernel
theorem lm5_145 : pm_lmt.lookup (5, 145) = some (0, 45, 2, 600) := by decide +kernel
theorem lm5_149 : pm_lmt.lookup (5, 149) = some (0, 56, 2, 601) := by decide +kernel
theorem lm3_104 : pm_lmt.lookup (3, 104) = some (0, 57, 1, 605) := by decide +kernel
theorem lm3_108 : pm_lmt.lookup (3, 108) = some (0, 37, 1, 609) := by decide +kernel
theorem lm7_57 : pm_lmt.lookup (7, 57) = some (0, 100, 2, 613) := by decide +kernel
theorem lm5_152 : pm_lmt.lookup (5, 152) = some (0, 125, 2, 617) := by decide +kernel
theorem lm5_169 : pm_lmt.lookup (5, 169) = some (0, 41, 1, 621) := by decide +kernel
theorem lm5_248 : pm_lmt.lookup (5, 248) = some (0, 55, 2, 622) := by decide +kernel
theorem lm7_61 : pm_lmt.lookup (7, 61) = some (0, 101, 3, 626) := by decide +kernel
theorem lm5_155 : pm_lmt.lookup (5, 155) = some (0, 18, 2, 630) := by decide +kernel
theorem lm7_65 : pm_lmt.lookup (7, 65) = some (0, 102, 0, 634) := by decide +kernel
theorem lm5_158 : pm_lmt.lookup (5, 158) = some (0, 4, 1, 638) := by decide +kernel
theorem lm0_28 : pm_lmt.lookup (0, 28) = some (0, 54, 2, 642) := by decide +kernel
theorem lm5_161 : pm_lmt.lookup (5, 161) = some (0, 1, 0, 646) := by decide +kernel
theorem lm7_69 : pm_lmt.lookup (7, 69) = some (0, 103, 2, 650) := by decide +kernel
theorem lm5_162 : pm_lmt.lookup (5, 162) = some (0, 38, 1, 654) := by decide +kernel
theorem lm5_163 : pm_lmt.lookup (5, 163) = some (0, 39, 1, 655) := by decide +kernel
theorem lm5_166 : pm_lmt.lookup (5, 166) = some (0, 37, 1, 656) := by decide +kernel
theorem lm5_172 : pm_lmt.lookup (5, 172) = some (0, 40, 1, 657) := by decide +kernel
theorem lm5_175 : pm_lmt.lookup (5, 175) = some (0, 46, 1, 661) := by decide +kernel
theorem lm3_80 : pm_lmt.lookup (3, 80) = some (0, 45, 2, 665) := by decide +kernel
theorem lm7_73 : pm_lmt.lookup (7, 73) = some (0, 104, 2, 666) := by decide +kernel
theorem lm5_178 : pm_lmt.lookup (5, 178) = some (0, 34, 1, 670) := by decide +kernel
theorem lm7_77 : pm_lmt.lookup (7, 77) = some (0, 105, 3, 671) := by decide +kernel
theorem lm5_181 : pm_lmt.lookup (5, 181) = some (0, 126, 1, 675) := by decide +kernel
theorem lm7_81 : pm_lmt.lookup (7, 81) = some (0, 106, 1, 679) := by decide +kernel
theorem lm5_185 : pm_lmt.lookup (5, 185) = some (0, 43, 1, 683) := by decide +kernel
theorem lm7_85 : pm_lmt.lookup (7, 85) = some (0, 107, 3, 688) := by decide +kernel
theorem lm5_189 : pm_lmt.lookup (5, 189) = some (0, 122, 2, 692) := by decide +kernel
theorem lm5_192 : pm_lmt.lookup (5, 192) = some (0, 48, 2, 696) := by decide +kernel
theorem lm3_87 : pm_lmt.lookup (3, 87) = some (8, 0, 1, 700) := by decide +kernel
theorem lm7_89 : pm_lmt.lookup (7, 89) = some (0, 108, 4, 703) := by decide +kernel
theorem lm5_195 : pm_lmt.lookup (5, 195) = some (7, 0, 2, 707) := by decide +kernel
theorem lm5_200 : pm_lmt.lookup (5, 200) = some (0, 127, 5, 710) := by decide +kernel
theorem lm7_94 : pm_lmt.lookup (7, 94) = some (0, 109, 1, 714) := by decide +kernel
theorem lm5_204 : pm_lmt.lookup (5, 204) = some (0, 47, 1, 718) := by decide +kernel
theorem lm3_84 : pm_lmt.lookup (3, 84) = some (0, 43, 1, 722) := by decide +kernel
theorem lm7_98 : pm_lmt.lookup (7, 98) = some (0, 110, 3, 723) := by decide +kernel
theorem lm5_207 : pm_lmt.lookup (5, 207) = some (0, 58, 1, 727) := by decide +kernel
theorem lm5_210 : pm_lmt.lookup (5, 210) = some (0, 44, 2, 731) := by decide +kernel
theorem lm5_213 : pm_lmt.lookup (5, 213) = some (0, 59, 2, 732) := by decide +kernel
theorem lm7_102 : pm_lmt.lookup (7, 102) = some (0, 111, 1, 736) := by decide +kernel
theorem lm5_217 : pm_lmt.lookup (5, 217) = some (0, 42, 1, 740) := by decide +kernel
theorem lm5_220 : pm_lmt.lookup (5, 220) = some (0, 128, 2, 744) := by decide +kernel
theorem lm7_106 : pm_lmt.lookup (7, 106) = some (0, 112, 1, 748) := by decide +kernel
theorem lm7_110 : pm_lmt.lookup (7, 110) = some (0, 113, 1, 752) := by decide +kernel
theorem lm7_114 : pm_lmt.lookup (7, 114) = some (0, 114, 1, 756) := by decide +kernel
theorem lm5_223 : pm_lmt.lookup (5, 223) = some (0, 36, 1, 760) := by decide +kernel
theorem lm7_118 : pm_lmt.lookup (7, 118) = some (0, 115, 2, 764) := by decide +kernel
theorem lm5_226 : pm_lmt.lookup (5, 226) = some (1, 6, 2, 768) := by decide +kernel
theorem lm1_18 : pm_lmt.lookup (1, 18) = some (1, 7, 1, 773) := by decide +kernel
theorem lm1_22 : pm_lmt.lookup (1, 22) = some (3, 120, 2, 8) := by decide +kernel
theorem lm7_122 : pm_lmt.lookup (7, 122) = some (0, 116, 2, 777) := by decide +kernel
theorem lm5_229 : pm_lmt.lookup (5, 229) = some (0, 10, 3, 781) := by decide +kernel
theorem lm1_37 : pm_lmt.lookup (1, 37) = some (0, 11, 4, 785) := by decide +kernel
theorem lm1_41 : pm_lmt.lookup (1, 41) = some (0, 36, 1, 789) := by decide +kernel
theorem lm1_46 : pm_lmt.lookup (1, 46) = some (1, 8, 2, 790) := by decide +kernel
theorem lm1_50 : pm_lmt.lookup (1, 50) = some (0, 12, 4, 797) := by decide +kernel
theorem lm1_53 : pm_lmt.lookup (1, 53) = some (0, 13, 1, 801) := by decide +kernel
theorem lm1_57 : pm_lmt.lookup (1, 57) = some (0, 37, 1, 805) := by decide +kernel
theorem lm1_60 : pm_lmt.lookup (1, 60) = some (0, 39, 1, 806) := by decide +kernel
theorem lm7_126 : pm_lmt.lookup (7, 126) = some (0, 117, 1, 807) := by decide +kernel
theorem lm5_233 : pm_lmt.lookup (5, 233) = some (0, 9, 1, 811) := by decide +kernel
theorem lm7_130 : pm_lmt.lookup (7, 130) = some (0, 118, 1, 816) := by decide +kernel
theorem lm5_236 : pm_lmt.lookup (5, 236) = some (0, 19, 0, 820) := by decide +kernel
theorem lm2_37 : pm_lmt.lookup (2, 37) = some (1, 203, 1, 824) := by decide +kernel
theorem lm5_237 : pm_lmt.lookup (5, 237) = some (0, 32, 0, 830) := by decide +kernel
theorem lm3_55 : pm_lmt.lookup (3, 55) = some (1, 203, 1, 834) := by decide +kernel
theorem lm5_240 : pm_lmt.lookup (5, 240) = some (0, 31, 0, 835) := by decide +kernel
theorem lm7_134 : pm_lmt.lookup (7, 134) = some (0, 119, 0, 839) := by decide +kernel
theorem lm7_12 : pm_lmt.lookup (7, 12) = some (2, 129, 0, 845) := by decide +kernel
theorem lm6_1 : pm_lmt.lookup (6, 1) = some (5, 0, 0, 848) := by decide +kernel
theorem lm7_17 : pm_lmt.lookup (7, 17) = some (0, 133, 3, 929) := by decide +kernel
theorem lm6_64 : pm_lmt.lookup (6, 64) = some (1, 132, 1, 933) := by decide +kernel
theorem lm6_60 : pm_lmt.lookup (6, 60) = some (1, 130, 3, 937) := by decide +kernel
theorem lm6_71 : pm_lmt.lookup (6, 71) = some (0, 131, 1, 942) := by decide +kernel
theorem lm7_21 : pm_lmt.lookup (7, 21) = some (0, 134, 3, 947) := by decide +kernel
theorem lm7_26 : pm_lmt.lookup (7, 26) = some (0, 135, 5, 951) := by decide +kernel
theorem lm7_31 : pm_lmt.lookup (7, 31) = some (0, 136, 1, 955) := by decide +kernel
theorem lm7_38 : pm_lmt.lookup (7, 38) = some (0, 137, 2, 959) := by decide +kernel
theorem lm7_43 : pm_lmt.lookup (7, 43) = some (0, 154, 0, 966) := by decide +kernel
theorem lm6_162 : pm_lmt.lookup (6, 162) = some (0, 142, 0, 970) := by decide +kernel
theorem lm6_111 : pm_lmt.lookup (6, 111) = some (0, 141, 0, 974) := by decide +kernel
theorem lm6_90 : pm_lmt.lookup (6, 90) = some (0, 138, 1, 978) := by decide +kernel
theorem lm6_99 : pm_lmt.lookup (6, 99) = some (1, 139, 1, 983) := by decide +kernel
theorem lm6_102 : pm_lmt.lookup (6, 102) = some (1, 140, 1, 986) := by decide +kernel
theorem lm6_150 : pm_lmt.lookup (6, 150) = some (0, 145, 0, 989) := by decide +kernel
theorem lm6_125 : pm_lmt.lookup (6, 125) = some (0, 144, 1, 994) := by decide +kernel
theorem lm6_117 : pm_lmt.lookup (6, 117) = some (0, 143, 1, 998) := by decide +kernel
theorem lm6_143 : pm_lmt.lookup (6, 143) = some (0, 147, 2, 1002) := by decide +kernel
theorem lm6_121 : pm_lmt.lookup (6, 121) = some (0, 146, 0, 1006) := by decide +kernel
theorem lm6_147 : pm_lmt.lookup (6, 147) = some (0, 149, 0, 1010) := by decide +kernel
theorem lm6_169 : pm_lmt.lookup (6, 169) = some (0, 151, 0, 1015) := by decide +kernel
theorem lm6_139 : pm_lmt.lookup (6, 139) = some (0, 150, 2, 1019) := by decide +kernel
theorem lm6_174 : pm_lmt.lookup (6, 174) = some (0, 153, 0, 1024) := by decide +kernel
theorem lm6_154 : pm_lmt.lookup (6, 154) = some (1, 148, 1, 1028) := by decide +kernel
theorem lm6_158 : pm_lmt.lookup (6, 158) = some (0, 152, 2, 1036) := by decide +kernel
theorem lm7_47 : pm_lmt.lookup (7, 47) = some (0, 155, 0, 1041) := by decide +kernel
theorem lm7_51 : pm_lmt.lookup (7, 51) = some (0, 168, 0, 1045) := by decide +kernel
theorem lm6_205 : pm_lmt.lookup (6, 205) = some (0, 156, 0, 1049) := by decide +kernel
theorem lm6_210 : pm_lmt.lookup (6, 210) = some (0, 167, 0, 1054) := by decide +kernel
theorem lm6_213 : pm_lmt.lookup (6, 213) = some (0, 161, 0, 1058) := by decide +kernel
theorem lm6_187 : pm_lmt.lookup (6, 187) = some (0, 159, 2, 1062) := by decide +kernel
theorem lm6_216 : pm_lmt.lookup (6, 216) = some (0, 166, 1, 1066) := by decide +kernel
theorem lm6_202 : pm_lmt.lookup (6, 202) = some (0, 165, 2, 1070) := by decide +kernel
theorem lm6_196 : pm_lmt.lookup (6, 196) = some (0, 164, 1, 1074) := by decide +kernel
theorem lm6_199 : pm_lmt.lookup (6, 199) = some (0, 163, 1, 1078) := by decide +kernel
theorem lm6_190 : pm_lmt.lookup (6, 190) = some (0, 160, 2, 1082) := by decide +kernel
theorem lm6_193 : pm_lmt.lookup (6, 193) = some (0, 162, 2, 1086) := by decide +kernel
theorem lm7_56 : pm_lmt.lookup (7, 56) = some (0, 169, 2, 1090) := by decide +kernel
theorem lm6_184 : pm_lmt.lookup (6, 184) = some (0, 157, 1, 1094) := by decide +kernel
theorem lm7_60 : pm_lmt.lookup (7, 60) = some (0, 171, 2, 1098) := by decide +kernel
theorem lm6_219 : pm_lmt.lookup (6, 219) = some (0, 170, 2, 1102) := by decide +kernel
theorem lm7_64 : pm_lmt.lookup (7, 64) = some (0, 172, 3, 1106) := by decide +kernel
theorem lm7_68 : pm_lmt.lookup (7, 68) = some (0, 173, 0, 1111) := by decide +kernel
theorem lm7_72 : pm_lmt.lookup (7, 72) = some (0, 175, 2, 1115) := by decide +kernel
theorem lm6_226 : pm_lmt.lookup (6, 226) = some (0, 174, 1, 1120) := by decide +kernel
theorem lm7_76 : pm_lmt.lookup (7, 76) = some (0, 176, 2, 1124) := by decide +kernel
theorem lm7_80 : pm_lmt.lookup (7, 80) = some (0, 178, 3, 1128) := by decide +kernel
theorem lm6_231 : pm_lmt.lookup (6, 231) = some (0, 177, 1, 1133) := by decide +kernel
theorem lm7_84 : pm_lmt.lookup (7, 84) = some (0, 179, 1, 1137) := by decide +kernel
theorem lm7_88 : pm_lmt.lookup (7, 88) = some (0, 181, 3, 1141) := by decide +kernel
theorem lm6_234 : pm_lmt.lookup (6, 234) = some (0, 158, 2, 1145) := by decide +kernel
theorem lm6_237 : pm_lmt.lookup (6, 237) = some (0, 180, 2, 1149) := by decide +kernel
theorem lm7_93 : pm_lmt.lookup (7, 93) = some (0, 183, 4, 1153) := by decide +kernel
theorem lm6_242 : pm_lmt.lookup (6, 242) = some (0, 182, 5, 1158) := by decide +kernel
theorem lm7_97 : pm_lmt.lookup (7, 97) = some (0, 184, 1, 1162) := by decide +kernel
theorem lm7_101 : pm_lmt.lookup (7, 101) = some (0, 186, 3, 1166) := by decide +kernel
theorem lm6_246 : pm_lmt.lookup (6, 246) = some (0, 185, 4, 1170) := by decide +kernel
theorem lm7_105 : pm_lmt.lookup (7, 105) = some (0, 187, 1, 1174) := by decide +kernel
theorem lm6_250 : pm_lmt.lookup (6, 250) = some (0, 188, 2, 1178) := by decide +kernel
theorem lm7_109 : pm_lmt.lookup (7, 109) = some (0, 189, 1, 1182) := by decide +kernel
theorem lm7_113 : pm_lmt.lookup (7, 113) = some (0, 190, 1, 1186) := by decide +kernel
theorem lm7_117 : pm_lmt.lookup (7, 117) = some (0, 192, 1, 1190) := by decide +kernel
theorem lm7_121 : pm_lmt.lookup (7, 121) = some (0, 193, 2, 1194) := by decide +kernel
theorem lm6_253 : pm_lmt.lookup (6, 253) = some (1, 191, 2, 1198) := by decide +kernel
theorem lm7_125 : pm_lmt.lookup (7, 125) = some (0, 199, 2, 1201) := by decide +kernel
theorem lm6_271 : pm_lmt.lookup (6, 271) = some (0, 198, 1, 1205) := by decide +kernel
theorem lm6_265 : pm_lmt.lookup (6, 265) = some (0, 196, 1, 1209) := by decide +kernel
theorem lm6_259 : pm_lmt.lookup (6, 259) = some (0, 194, 1, 1213) := by decide +kernel
theorem lm6_262 : pm_lmt.lookup (6, 262) = some (0, 195, 1, 1217) := by decide +kernel
theorem lm6_268 : pm_lmt.lookup (6, 268) = some (0, 197, 1, 1221) := by decide +kernel
theorem lm7_129 : pm_lmt.lookup (7, 129) = some (0, 200, 1, 1225) := by decide +kernel
theorem lm7_133 : pm_lmt.lookup (7, 133) = some (0, 201, 1, 1229) := by decide +kernel
theorem lm7_137 : pm_lmt.lookup (7, 137) = some (0, 202, 0, 1233) := by decide +kernel
theorem lc7_7 : pm_lct.lookup (7, 7) = some (5, 84) := by decide +kernel
theorem lc5_7 : pm_lct.lookup (5, 7) = some (2, 92) := by decide +kernel
theorem lc5_16 : pm_lct.lookup (5, 16) = some (4, 112) := by decide +kernel
theorem lc5_23 : pm_lct.lookup (5, 23) = some (0, 144) := by decide +kernel
theorem lc5_30 : pm_lct.lookup (5, 30) = some (1, 160) := by decide +kernel
theorem lc5_37 : pm_lct.lookup (5, 37) = some (3, 173) := by decide +kernel
theorem lc7_10 : pm_lct.lookup (7, 10) = some (6, 843) := by decide +kernel
theorem lk5_59 : pm_lkt.lookup (5, 59) = some (-1000001, 258) := by decide +kernel
theorem lk5_247 : pm_lkt.lookup (5, 247) = some (-1000010, 263) := by decide +kernel
theorem lk2_32 : pm_lkt.lookup (2, 32) = some (-1000000, 292) := by decide +kernel
theorem lk5_100 : pm_lkt.lookup (5, 100) = some (-1000003, 332) := by decide +kernel
theorem lk3_65 : pm_lkt.lookup (3, 65) = some (-1000000, 506) := by decide +kernel
theorem lk5_108 : pm_lkt.lookup (5, 108) = some (-1000100, 519) := by decide +kernel
theorem lk5_129 : pm_lkt.lookup (5, 129) = some (-1000002, 553) := by decide +kernel
theorem lk5_188 : pm_lkt.lookup (5, 188) = some (-1000000, 687) := by decide +kernel
theorem lk1_36 : pm_lkt.lookup (1, 36) = some (-1000000, 815) := by decide +kernel
theorem lk8_265 : pm_lkt.lookup (8, 265) = some (1431655765, 827) := by decide +kernel
theorem lk8_266 : pm_lkt.lookup (8, 266) = some (858993459, 828) := by decide +kernel
theorem lk8_267 : pm_lkt.lookup (8, 267) = some (252645135, 829) := by decide +kernel
theorem lk6_70 : pm_lkt.lookup (6, 70) = some (-1000001, 941) := by decide +kernel
theorem lk6_57 : pm_lkt.lookup (6, 57) = some (-1000010, 946) := by decide +kernel
theorem lk6_80 : pm_lkt.lookup (6, 80) = some (-1000003, 964) := by decide +kernel
theorem lk6_86 : pm_lkt.lookup (6, 86) = some (-1000000, 982) := by decide +kernel
theorem lk6_180 : pm_lkt.lookup (6, 180) = some (-1000100, 1040) := by decide +kernel
theorem lk6_209 : pm_lkt.lookup (6, 209) = some (-1000002, 1053) := by decide +kernel
theorem ll6_58 : pm_llt.lookup (6, 58) = some (7, 936) := by decide +kernel
theorem ll6_68 : pm_llt.lookup (6, 68) = some (2, 940) := by decide +kernel
theorem ll6_75 : pm_llt.lookup (6, 75) = some (8, 963) := by decide +kernel
theorem ll6_81 : pm_llt.lookup (6, 81) = some (255, 965) := by decide +kernel
theorem ll6_165 : pm_llt.lookup (6, 165) = some (495740481637, 993) := by decide +kernel
theorem ll6_167 : pm_llt.lookup (6, 167) = some (495874698853, 1014) := by decide +kernel
theorem ll6_172 : pm_llt.lookup (6, 172) = some (448546567013, 1023) := by decide +kernel
theorem ll6_129 : pm_llt.lookup (6, 129) = some (109300298179432, 1031) := by decide +kernel
theorem ll6_131 : pm_llt.lookup (6, 131) = some (6909550, 1032) := by decide +kernel
theorem ll6_133 : pm_llt.lookup (6, 133) = some (1835625580, 1033) := by decide +kernel
theorem ll6_135 : pm_llt.lookup (6, 135) = some (6845812, 1034) := by decide +kernel
theorem ll6_137 : pm_llt.lookup (6, 137) = some (1650553454, 1035) := by decide +kernel
theorem ll6_222 : pm_llt.lookup (6, 222) = some (6, 1110) := by decide +kernel
theorem ll6_224 : pm_llt.lookup (6, 224) = some (5, 1119) := by decide +kernel
theorem ll6_229 : pm_llt.lookup (6, 229) = some (40, 1132) := by decide +kernel
theorem ll6_240 : pm_llt.lookup (6, 240) = some (20, 1157) := by decide +kernel
theorem ll7_32 : pm_llt.lookup (7, 32) = some (4294967295, 1237) := by decide +kernel
theorem lt4_60 : pm_ltt.lookup (4, 60) = some 0 := by decide +kernel
theorem lkn4_60 : pm_lkt.lookup (4, 60) = none := by decide +kernel
theorem lt4_39 : pm_ltt.lookup (4, 39) = some 1 := by decide +kernel
theorem lkn4_39 : pm_lkt.lookup (4, 39) = none := by decide +kernel
theorem lt4_52 : pm_ltt.lookup (4, 52) = some 2 := by decide +kernel
theorem lkn4_52 : pm_lkt.lookup (4, 52) = none := by decide +kernel
theorem lt4_108 : pm_ltt.lookup (4, 108) = some 3 := by decide +kernel
theorem lkn4_108 : pm_lkt.lookup (4, 108) = none := by decide +kernel
theorem lt4_110 : pm_ltt.lookup (4, 110) = some 4 := by decide +kernel
theorem lkn4_110 : pm_lkt.lookup (4, 110) = none := by decide +kernel
theorem lt4_112 : pm_ltt.lookup (4, 112) = some 5 := by decide +kernel
theorem lkn4_112 : pm_lkt.lookup (4, 112) = none := by decide +kernel
theorem lt4_114 : pm_ltt.lookup (4, 114) = some 6 := by decide +kernel
theorem lkn4_114 : pm_lkt.lookup (4, 114) = none := by decide +kernel
theorem lt4_116 : pm_ltt.lookup (4, 116) = some 7 := by decide +kernel
theorem lkn4_116 : pm_lkt.lookup (4, 116) = none := by decide +kernel

/-! places: an object or an array each; what a constant reference slot holds; field kinds (0 int, 1 boolean, 2 constant reference, 3 moving reference) -/
abbrev vwCl : List vw_C := [(RX0, TX0, 5), (RX1, TX1, 8), (RX2, TX2, 8), (RX4, TX4, 17), (RX5, TX5, 6), (RX6, TX6, 9), (RX7, TX7, 6), (RX8, TX8, 7), (RX9, TX9, 9), (RX10, TX10, 9), (RX11, TX11, 39)]
def m_shL : List (Nat × Nat) := [(9, 9), (5, 9), (20, 8), (20, 8), (20, 8), (20, 8), (20, 8), (21, 6), (1, 8), (20, 6), (20, 6), (1, 8), (20, 6), (20, 6), (1, 8), (20, 6), (20, 6), (1, 8), (20, 6), (20, 6), (1, 8), (20, 6), (20, 6), (1, 8), (20, 6), (20, 6), (8, 9), (20, 50), (20, 6), (20, 6), (3, 17), (20, 8), (20, 8), (20, 8), (20, 6), (20, 6), (20, 6), (20, 6), (20, 6), (20, 6), (20, 3), (20, 3), (20, 3), (20, 3), (22, 3), (20, 6), (20, 6), (20, 6), (4, 6), (20, 6), (20, 5), (20, 108), (22, 7), (20, 108), (20, 108), (20, 108), (20, 108), (20, 108), (20, 108), (20, 108), (7, 7), (20, 8), (20, 6), (20, 6), (20, 8), (7, 7), (20, 8), (20, 6), (20, 6), (20, 8), (2, 8), (20, 6), (20, 6), (20, 6), (0, 5), (6, 6), (20, 8), (20, 8), (20, 3), (10, 39), (20, 8), (20, 8), (20, 8), (20, 8), (20, 6), (20, 6), (20, 6), (20, 50), (20, 180), (20, 36), (20, 6), (20, 6), (20, 1536), (20, 8), (20, 8), (20, 8), (20, 6), (20, 6), (20, 3), (20, 3), (20, 1792), (20, 8), (20, 8), (20, 6), (20, 8), (20, 8), (20, 8), (20, 6), (20, 8), (20, 24), (20, 8)]
def m_sh (p : Nat) : Nat × Nat := (m_shL[p]?).getD (99, 0)
def m_ggL : List (List Nat) := [[1, 26, 30, 48, 60, 65, 70, 74, 75], [0, 2, 3, 4, 5, 6, 0, 7, 0], [], [], [], [], [], [], [0, 0, 0, 0, 9, 10, 0, 0], [], [], [0, 0, 0, 0, 12, 13, 0, 0], [], [], [0, 0, 0, 0, 15, 16, 0, 0], [], [], [0, 0, 0, 0, 18, 19, 0, 0], [], [], [0, 0, 0, 0, 21, 22, 0, 0], [], [], [0, 0, 0, 0, 24, 25, 0, 0], [], [], [27, 0, 28, 29, 0, 0, 0, 0, 0], [], [], [], [1, 31, 32, 33, 34, 35, 36, 37, 38, 39, 40, 41, 42, 43, 44, 0, 0], [], [], [], [], [], [], [], [], [], [], [], [], [], [], [], [], [], [1, 49, 50, 51, 52, 0], [], [], [], [], [], [], [], [], [], [], [], [1, 61, 62, 63, 0, 0, 64], [], [], [], [], [1, 66, 67, 68, 0, 0, 69], [], [], [], [], [1, 30, 71, 72, 73, 0, 0, 0], [], [], [], [1, 48, 65, 0, 0], [30, 76, 0, 77, 78, 0], [], [], [], [80, 81, 82, 83, 0, 84, 85, 86, 0, 0, 87, 0, 88, 89, 90, 91, 92, 93, 94, 95, 96, 97, 98, 99, 100, 101, 102, 103, 0, 104, 105, 106, 0, 0, 107, 108, 0, 109, 110], [], [], [], [], [], [], [], [], [], [], [], [], [], [], [], [], [], [], [], [], [], [], [], [], [], [], [], [], [], [], []]
def m_gg (p j : Nat) : Nat := if p = 7 then 8 + 3 * j else if p = 44 then 45 + j else if p = 52 then 53 + j else ((m_ggL[p]?).getD []).getD j 0
def m_fkL : List (List Nat) := [[2, 2, 2, 0, 1], [0, 0, 0, 0, 2, 2, 0, 0], [2, 2, 2, 2, 2, 0, 0, 1], [2, 2, 2, 2, 2, 2, 2, 2, 2, 2, 2, 2, 2, 2, 2, 3, 0], [2, 2, 2, 2, 2, 0], [0, 2, 2, 2, 2, 2, 0, 2, 0], [2, 2, 0, 2, 2, 0], [2, 2, 2, 2, 0, 0, 2], [2, 0, 2, 2, 0, 0, 0, 0, 0], [2, 2, 2, 2, 2, 2, 2, 2, 2], [2, 2, 2, 2, 0, 2, 2, 2, 0, 0, 2, 0, 2, 2, 2, 2, 2, 2, 2, 2, 2, 2, 2, 2, 2, 2, 2, 2, 0, 2, 2, 2, 0, 0, 2, 2, 0, 2, 2]]
def m_fk (ci j : Nat) : Nat := ((m_fkL[ci]?).getD []).getD j 9
theorem sh_0 : m_sh 0 = (9, 9) := rfl -- FallClocks
theorem sh_1 : m_sh 1 = (5, 9) := rfl -- Hall
theorem sh_2 : m_sh 2 = (20, 8) := rfl -- Hall.unit
theorem sh_3 : m_sh 3 = (20, 8) := rfl -- Hall.clock
theorem sh_4 : m_sh 4 = (20, 8) := rfl -- Hall.least
theorem sh_5 : m_sh 5 = (20, 8) := rfl -- Hall.order
theorem sh_6 : m_sh 6 = (20, 8) := rfl -- Hall.byNumber
theorem sh_7 : m_sh 7 = (21, 6) := rfl -- Hall.buyers
theorem sh_8 : m_sh 8 = (1, 8) := rfl -- Buyer0
theorem sh_9 : m_sh 9 = (20, 6) := rfl -- Buyer0.numbers
theorem sh_10 : m_sh 10 = (20, 6) := rfl -- Buyer0.needs
theorem sh_11 : m_sh 11 = (1, 8) := rfl -- Buyer1
theorem sh_12 : m_sh 12 = (20, 6) := rfl -- Buyer1.numbers
theorem sh_13 : m_sh 13 = (20, 6) := rfl -- Buyer1.needs
theorem sh_14 : m_sh 14 = (1, 8) := rfl -- Buyer2
theorem sh_15 : m_sh 15 = (20, 6) := rfl -- Buyer2.numbers
theorem sh_16 : m_sh 16 = (20, 6) := rfl -- Buyer2.needs
theorem sh_17 : m_sh 17 = (1, 8) := rfl -- Buyer3
theorem sh_18 : m_sh 18 = (20, 6) := rfl -- Buyer3.numbers
theorem sh_19 : m_sh 19 = (20, 6) := rfl -- Buyer3.needs
theorem sh_20 : m_sh 20 = (1, 8) := rfl -- Buyer4
theorem sh_21 : m_sh 21 = (20, 6) := rfl -- Buyer4.numbers
theorem sh_22 : m_sh 22 = (20, 6) := rfl -- Buyer4.needs
theorem sh_23 : m_sh 23 = (1, 8) := rfl -- Buyer5
theorem sh_24 : m_sh 24 = (20, 6) := rfl -- Buyer5.numbers
theorem sh_25 : m_sh 25 = (20, 6) := rfl -- Buyer5.needs
theorem sh_26 : m_sh 26 = (8, 9) := rfl -- Signs
theorem sh_27 : m_sh 27 = (20, 50) := rfl -- Signs.codes
theorem sh_28 : m_sh 28 = (20, 6) := rfl -- Signs.numbers
theorem sh_29 : m_sh 29 = (20, 6) := rfl -- Signs.needs
theorem sh_30 : m_sh 30 = (3, 17) := rfl -- Day
theorem sh_31 : m_sh 31 = (20, 8) := rfl -- Day.owner
theorem sh_32 : m_sh 32 = (20, 8) := rfl -- Day.price
theorem sh_33 : m_sh 33 = (20, 8) := rfl -- Day.tick
theorem sh_34 : m_sh 34 = (20, 6) := rfl -- Day.heap
theorem sh_35 : m_sh 35 = (20, 6) := rfl -- Day.worth
theorem sh_36 : m_sh 36 = (20, 6) := rfl -- Day.paid
theorem sh_37 : m_sh 37 = (20, 6) := rfl -- Day.coin
theorem sh_38 : m_sh 38 = (20, 6) := rfl -- Day.counts
theorem sh_39 : m_sh 39 = (20, 6) := rfl -- Day.keeps
theorem sh_40 : m_sh 40 = (20, 3) := rfl -- Day.place
theorem sh_41 : m_sh 41 = (20, 3) := rfl -- Day.came
theorem sh_42 : m_sh 42 = (20, 3) := rfl -- Day.from
theorem sh_43 : m_sh 43 = (20, 3) := rfl -- Day.end
theorem sh_44 : m_sh 44 = (22, 3) := rfl -- Day.reach
theorem sh_45 : m_sh 45 = (20, 6) := rfl -- Day.reach0
theorem sh_46 : m_sh 46 = (20, 6) := rfl -- Day.reach1
theorem sh_47 : m_sh 47 = (20, 6) := rfl -- Day.reach2
theorem sh_48 : m_sh 48 = (4, 6) := rfl -- Deal
theorem sh_49 : m_sh 49 = (20, 6) := rfl -- Deal.heaps
theorem sh_50 : m_sh 50 = (20, 5) := rfl -- Deal.step
theorem sh_51 : m_sh 51 = (20, 108) := rfl -- Deal.counts
theorem sh_52 : m_sh 52 = (22, 7) := rfl -- Deal.best
theorem sh_53 : m_sh 53 = (20, 108) := rfl -- Deal.best0
theorem sh_54 : m_sh 54 = (20, 108) := rfl -- Deal.best1
theorem sh_55 : m_sh 55 = (20, 108) := rfl -- Deal.best2
theorem sh_56 : m_sh 56 = (20, 108) := rfl -- Deal.best3
theorem sh_57 : m_sh 57 = (20, 108) := rfl -- Deal.best4
theorem sh_58 : m_sh 58 = (20, 108) := rfl -- Deal.best5
theorem sh_59 : m_sh 59 = (20, 108) := rfl -- Deal.best6
theorem sh_60 : m_sh 60 = (7, 7) := rfl -- Prices.asked
theorem sh_61 : m_sh 61 = (20, 8) := rfl -- asked.price
theorem sh_62 : m_sh 62 = (20, 6) := rfl -- asked.heap
theorem sh_63 : m_sh 63 = (20, 6) := rfl -- asked.gain
theorem sh_64 : m_sh 64 = (20, 8) := rfl -- asked.cheapest
theorem sh_65 : m_sh 65 = (7, 7) := rfl -- Prices.grown
theorem sh_66 : m_sh 66 = (20, 8) := rfl -- grown.price
theorem sh_67 : m_sh 67 = (20, 6) := rfl -- grown.heap
theorem sh_68 : m_sh 68 = (20, 6) := rfl -- grown.gain
theorem sh_69 : m_sh 69 = (20, 8) := rfl -- grown.cheapest
theorem sh_70 : m_sh 70 = (2, 8) := rfl -- Carts
theorem sh_71 : m_sh 71 = (20, 6) := rfl -- Carts.best
theorem sh_72 : m_sh 72 = (20, 6) := rfl -- Carts.worst
theorem sh_73 : m_sh 73 = (20, 6) := rfl -- Carts.tried
theorem sh_74 : m_sh 74 = (0, 5) := rfl -- Break
theorem sh_75 : m_sh 75 = (6, 6) := rfl -- Lessons
theorem sh_76 : m_sh 76 = (20, 8) := rfl -- Lessons.tops
theorem sh_77 : m_sh 77 = (20, 8) := rfl -- Lessons.chosen
theorem sh_78 : m_sh 78 = (20, 3) := rfl -- Lessons.total
theorem sh_79 : m_sh 79 = (10, 39) := rfl -- Model
theorem sh_80 : m_sh 80 = (20, 8) := rfl -- Model.sortOf
theorem sh_81 : m_sh 81 = (20, 8) := rfl -- Model.clockOf
theorem sh_82 : m_sh 82 = (20, 8) := rfl -- Model.leastOf
theorem sh_83 : m_sh 83 = (20, 8) := rfl -- Model.orderOf
theorem sh_84 : m_sh 84 = (20, 6) := rfl -- Model.coins
theorem sh_85 : m_sh 85 = (20, 6) := rfl -- Model.cuts
theorem sh_86 : m_sh 86 = (20, 6) := rfl -- Model.marks
theorem sh_87 : m_sh 87 = (20, 50) := rfl -- Model.signs
theorem sh_88 : m_sh 88 = (20, 180) := rfl -- Model.wants
theorem sh_89 : m_sh 89 = (20, 36) := rfl -- Model.brings
theorem sh_90 : m_sh 90 = (20, 6) := rfl -- Model.wishMany
theorem sh_91 : m_sh 91 = (20, 6) := rfl -- Model.left
theorem sh_92 : m_sh 92 = (20, 1536) := rfl -- Model.worths
theorem sh_93 : m_sh 93 = (20, 8) := rfl -- Model.soldTo
theorem sh_94 : m_sh 94 = (20, 8) := rfl -- Model.soldFor
theorem sh_95 : m_sh 95 = (20, 8) := rfl -- Model.soldIn
theorem sh_96 : m_sh 96 = (20, 6) := rfl -- Model.heaps
theorem sh_97 : m_sh 97 = (20, 6) := rfl -- Model.rest
theorem sh_98 : m_sh 98 = (20, 3) := rfl -- Model.placeOn
theorem sh_99 : m_sh 99 = (20, 3) := rfl -- Model.cameOn
theorem sh_100 : m_sh 100 = (20, 1792) := rfl -- Model.mostFrom
theorem sh_101 : m_sh 101 = (20, 8) := rfl -- Model.prices
theorem sh_102 : m_sh 102 = (20, 8) := rfl -- Model.raising
theorem sh_103 : m_sh 103 = (20, 6) := rfl -- Model.likedBy
theorem sh_104 : m_sh 104 = (20, 8) := rfl -- Model.orderWas
theorem sh_105 : m_sh 105 = (20, 8) := rfl -- Model.orderBest
theorem sh_106 : m_sh 106 = (20, 8) := rfl -- Model.orderWorst
theorem sh_107 : m_sh 107 = (20, 6) := rfl -- Model.leftWas
theorem sh_108 : m_sh 108 = (20, 8) := rfl -- Model.lessons
theorem sh_109 : m_sh 109 = (20, 24) := rfl -- Model.brought
theorem sh_110 : m_sh 110 = (20, 8) := rfl -- Model.picked
theorem gg_0_0 : m_gg 0 0 = 1 := rfl
theorem gg_0_1 : m_gg 0 1 = 26 := rfl
theorem gg_0_2 : m_gg 0 2 = 30 := rfl
theorem gg_0_3 : m_gg 0 3 = 48 := rfl
theorem gg_0_4 : m_gg 0 4 = 60 := rfl
theorem gg_0_5 : m_gg 0 5 = 65 := rfl
theorem gg_0_6 : m_gg 0 6 = 70 := rfl
theorem gg_0_7 : m_gg 0 7 = 74 := rfl
theorem gg_0_8 : m_gg 0 8 = 75 := rfl
theorem gg_1_1 : m_gg 1 1 = 2 := rfl
theorem gg_1_2 : m_gg 1 2 = 3 := rfl
theorem gg_1_3 : m_gg 1 3 = 4 := rfl
theorem gg_1_4 : m_gg 1 4 = 5 := rfl
theorem gg_1_5 : m_gg 1 5 = 6 := rfl
theorem gg_1_7 : m_gg 1 7 = 7 := rfl
theorem gg_8_4 : m_gg 8 4 = 9 := rfl
theorem gg_8_5 : m_gg 8 5 = 10 := rfl
theorem gg_11_4 : m_gg 11 4 = 12 := rfl
theorem gg_11_5 : m_gg 11 5 = 13 := rfl
theorem gg_14_4 : m_gg 14 4 = 15 := rfl
theorem gg_14_5 : m_gg 14 5 = 16 := rfl
theorem gg_17_4 : m_gg 17 4 = 18 := rfl
theorem gg_17_5 : m_gg 17 5 = 19 := rfl
theorem gg_20_4 : m_gg 20 4 = 21 := rfl
theorem gg_20_5 : m_gg 20 5 = 22 := rfl
theorem gg_23_4 : m_gg 23 4 = 24 := rfl
theorem gg_23_5 : m_gg 23 5 = 25 := rfl
theorem gg_26_0 : m_gg 26 0 = 27 := rfl
theorem gg_26_2 : m_gg 26 2 = 28 := rfl
theorem gg_26_3 : m_gg 26 3 = 29 := rfl
theorem gg_30_0 : m_gg 30 0 = 1 := rfl
theorem gg_30_1 : m_gg 30 1 = 31 := rfl
theorem gg_30_2 : m_gg 30 2 = 32 := rfl
theorem gg_30_3 : m_gg 30 3 = 33 := rfl
theorem gg_30_4 : m_gg 30 4 = 34 := rfl
theorem gg_30_5 : m_gg 30 5 = 35 := rfl
theorem gg_30_6 : m_gg 30 6 = 36 := rfl
theorem gg_30_7 : m_gg 30 7 = 37 := rfl
theorem gg_30_8 : m_gg 30 8 = 38 := rfl
theorem gg_30_9 : m_gg 30 9 = 39 := rfl
theorem gg_30_10 : m_gg 30 10 = 40 := rfl
theorem gg_30_11 : m_gg 30 11 = 41 := rfl
theorem gg_30_12 : m_gg 30 12 = 42 := rfl
theorem gg_30_13 : m_gg 30 13 = 43 := rfl
theorem gg_30_14 : m_gg 30 14 = 44 := rfl
theorem gg_48_0 : m_gg 48 0 = 1 := rfl
theorem gg_48_1 : m_gg 48 1 = 49 := rfl
theorem gg_48_2 : m_gg 48 2 = 50 := rfl
theorem gg_48_3 : m_gg 48 3 = 51 := rfl
theorem gg_48_4 : m_gg 48 4 = 52 := rfl
theorem gg_60_0 : m_gg 60 0 = 1 := rfl
theorem gg_60_1 : m_gg 60 1 = 61 := rfl
theorem gg_60_2 : m_gg 60 2 = 62 := rfl
theorem gg_60_3 : m_gg 60 3 = 63 := rfl
theorem gg_60_6 : m_gg 60 6 = 64 := rfl
theorem gg_65_0 : m_gg 65 0 = 1 := rfl
theorem gg_65_1 : m_gg 65 1 = 66 := rfl
theorem gg_65_2 : m_gg 65 2 = 67 := rfl
theorem gg_65_3 : m_gg 65 3 = 68 := rfl
theorem gg_65_6 : m_gg 65 6 = 69 := rfl
theorem gg_70_0 : m_gg 70 0 = 1 := rfl
theorem gg_70_1 : m_gg 70 1 = 30 := rfl
theorem gg_70_2 : m_gg 70 2 = 71 := rfl
theorem gg_70_3 : m_gg 70 3 = 72 := rfl
theorem gg_70_4 : m_gg 70 4 = 73 := rfl
theorem gg_74_0 : m_gg 74 0 = 1 := rfl
theorem gg_74_1 : m_gg 74 1 = 48 := rfl
theorem gg_74_2 : m_gg 74 2 = 65 := rfl
theorem gg_75_0 : m_gg 75 0 = 30 := rfl
theorem gg_75_1 : m_gg 75 1 = 76 := rfl
theorem gg_75_3 : m_gg 75 3 = 77 := rfl
theorem gg_75_4 : m_gg 75 4 = 78 := rfl
theorem gg_79_0 : m_gg 79 0 = 80 := rfl
theorem gg_79_1 : m_gg 79 1 = 81 := rfl
theorem gg_79_2 : m_gg 79 2 = 82 := rfl
theorem gg_79_3 : m_gg 79 3 = 83 := rfl
theorem gg_79_5 : m_gg 79 5 = 84 := rfl
theorem gg_79_6 : m_gg 79 6 = 85 := rfl
theorem gg_79_7 : m_gg 79 7 = 86 := rfl
theorem gg_79_10 : m_gg 79 10 = 87 := rfl
theorem gg_79_12 : m_gg 79 12 = 88 := rfl
theorem gg_79_13 : m_gg 79 13 = 89 := rfl
theorem gg_79_14 : m_gg 79 14 = 90 := rfl
theorem gg_79_15 : m_gg 79 15 = 91 := rfl
theorem gg_79_16 : m_gg 79 16 = 92 := rfl
theorem gg_79_17 : m_gg 79 17 = 93 := rfl
theorem gg_79_18 : m_gg 79 18 = 94 := rfl
theorem gg_79_19 : m_gg 79 19 = 95 := rfl
theorem gg_79_20 : m_gg 79 20 = 96 := rfl
theorem gg_79_21 : m_gg 79 21 = 97 := rfl
theorem gg_79_22 : m_gg 79 22 = 98 := rfl
theorem gg_79_23 : m_gg 79 23 = 99 := rfl
theorem gg_79_24 : m_gg 79 24 = 100 := rfl
theorem gg_79_25 : m_gg 79 25 = 101 := rfl
theorem gg_79_26 : m_gg 79 26 = 102 := rfl
theorem gg_79_27 : m_gg 79 27 = 103 := rfl
theorem gg_79_29 : m_gg 79 29 = 104 := rfl
theorem gg_79_30 : m_gg 79 30 = 105 := rfl
theorem gg_79_31 : m_gg 79 31 = 106 := rfl
theorem gg_79_34 : m_gg 79 34 = 107 := rfl
theorem gg_79_35 : m_gg 79 35 = 108 := rfl
theorem gg_79_37 : m_gg 79 37 = 109 := rfl
theorem gg_79_38 : m_gg 79 38 = 110 := rfl
def lw_gd : List Cond := lw_tbl.filter goodWord
theorem m_in1 {w : Cond} (h : w ∈ tables_1_1) (hg : goodWord w = true) : w ∈ lw_gd := List.mem_filter.mpr ⟨List.mem_append_right _ (List.mem_append_left _ h), hg⟩
theorem m_in2 {w : Cond} (h : w ∈ tables_1_2) (hg : goodWord w = true) : w ∈ lw_gd := List.mem_filter.mpr ⟨List.mem_append_right _ (List.mem_append_right _ (List.mem_append_left _ h)), hg⟩
theorem m_in3 {w : Cond} (h : w ∈ tables_1_3) (hg : goodWord w = true) : w ∈ lw_gd := List.mem_filter.mpr ⟨List.mem_append_right _ (List.mem_append_right _ (List.mem_append_right _ (List.mem_append_left _ h))), hg⟩
theorem m_in4 {w : Cond} (h : w ∈ tables_1_4) (hg : goodWord w = true) : w ∈ lw_gd := List.mem_filter.mpr ⟨List.mem_append_right _ (List.mem_append_right _ (List.mem_append_right _ (List.mem_append_right _ (List.mem_append_left _ h)))), hg⟩
theorem m_in5 {w : Cond} (h : w ∈ tables_1_5) (hg : goodWord w = true) : w ∈ lw_gd := List.mem_filter.mpr ⟨List.mem_append_right _ (List.mem_append_right _ (List.mem_append_right _ (List.mem_append_right _ (List.mem_append_right _ (List.mem_append_left _ h))))), hg⟩
theorem m_in6 {w : Cond} (h : w ∈ tables_1_6) (hg : goodWord w = true) : w ∈ lw_gd := List.mem_filter.mpr ⟨List.mem_append_right _ (List.mem_append_right _ (List.mem_append_right _ (List.mem_append_right _ (List.mem_append_right _ (List.mem_append_right _ (h)))))), hg⟩
theorem m_inS {w : Cond} (h : w ∈ k2_sels lw_privs) (hg : goodWord w = true) : w ∈ lw_gd := List.mem_filter.mpr ⟨List.mem_append_left _ h, hg⟩
theorem fl0_X1_9 : Cond.fieldLink RX1 9 (TX1 0).1 (TX1 0).2.1 (TX1 0).2.2.1 ∈ lw_gd := m_in1 (List.mem_of_getElem? (i := 37) rfl) rfl -- FallClocks$Buyer.coin
theorem fl0_X4_89 : Cond.fieldLink RX4 89 (TX1 0).1 (TX1 0).2.1 (TX1 0).2.2.1 ∈ lw_gd := m_in1 (List.mem_of_getElem? (i := 38) rfl) rfl -- FallClocks$Buyer.coin
theorem fl0_X1_15 : Cond.fieldLink RX1 15 (TX1 1).1 (TX1 1).2.1 (TX1 1).2.2.1 ∈ lw_gd := m_in1 (List.mem_of_getElem? (i := 39) rfl) rfl -- FallClocks$Buyer.cut
theorem fl0_X4_93 : Cond.fieldLink RX4 93 (TX1 1).1 (TX1 1).2.1 (TX1 1).2.2.1 ∈ lw_gd := m_in1 (List.mem_of_getElem? (i := 40) rfl) rfl -- FallClocks$Buyer.cut
theorem fl0_X1_18 : Cond.fieldLink RX1 18 (TX1 2).1 (TX1 2).2.1 (TX1 2).2.2.1 ∈ lw_gd := m_in1 (List.mem_of_getElem? (i := 41) rfl) rfl -- FallClocks$Buyer.mark
theorem fl0_X4_147 : Cond.fieldLink RX4 147 (TX1 2).1 (TX1 2).2.1 (TX1 2).2.2.1 ∈ lw_gd := m_in1 (List.mem_of_getElem? (i := 42) rfl) rfl -- FallClocks$Buyer.mark
theorem fl0_X5_52 : Cond.fieldLink RX5 52 (TX1 3).1 (TX1 3).2.1 (TX1 3).2.2.1 ∈ lw_gd := m_in1 (List.mem_of_getElem? (i := 43) rfl) rfl -- FallClocks$Buyer.alternatives
theorem fl0_X1_33 : Cond.fieldLink RX1 33 (TX1 3).1 (TX1 3).2.1 (TX1 3).2.2.1 ∈ lw_gd := m_in1 (List.mem_of_getElem? (i := 44) rfl) rfl -- FallClocks$Buyer.alternatives
theorem fl0_X0_85 : Cond.fieldLink RX0 85 (TX1 3).1 (TX1 3).2.1 (TX1 3).2.2.1 ∈ lw_gd := m_in1 (List.mem_of_getElem? (i := 45) rfl) rfl -- FallClocks$Buyer.alternatives
theorem fl0_X8_65 : Cond.fieldLink RX8 65 (TX1 3).1 (TX1 3).2.1 (TX1 3).2.2.1 ∈ lw_gd := m_in1 (List.mem_of_getElem? (i := 46) rfl) rfl -- FallClocks$Buyer.alternatives
theorem fl0_X6_50 : Cond.fieldLink RX6 50 (TX1 3).1 (TX1 3).2.1 (TX1 3).2.2.1 ∈ lw_gd := m_in1 (List.mem_of_getElem? (i := 47) rfl) rfl -- FallClocks$Buyer.alternatives
theorem fl0_X10_125 : Cond.fieldLink RX10 125 (TX1 3).1 (TX1 3).2.1 (TX1 3).2.2.1 ∈ lw_gd := m_in1 (List.mem_of_getElem? (i := 48) rfl) rfl -- FallClocks$Buyer.alternatives
theorem fl0_X1_21 : Cond.fieldLink RX1 21 (TX1 4).1 (TX1 4).2.1 (TX1 4).2.2.1 ∈ lw_gd := m_in1 (List.mem_of_getElem? (i := 49) rfl) rfl -- FallClocks$Buyer.numbers
theorem fl0_X5_61 : Cond.fieldLink RX5 61 (TX1 4).1 (TX1 4).2.1 (TX1 4).2.2.1 ∈ lw_gd := m_in1 (List.mem_of_getElem? (i := 50) rfl) rfl -- FallClocks$Buyer.numbers
theorem fl0_X8_74 : Cond.fieldLink RX8 74 (TX1 4).1 (TX1 4).2.1 (TX1 4).2.2.1 ∈ lw_gd := m_in1 (List.mem_of_getElem? (i := 51) rfl) rfl -- FallClocks$Buyer.numbers
theorem fl0_X10_128 : Cond.fieldLink RX10 128 (TX1 4).1 (TX1 4).2.1 (TX1 4).2.2.1 ∈ lw_gd := m_in1 (List.mem_of_getElem? (i := 52) rfl) rfl -- FallClocks$Buyer.numbers
theorem fl0_X1_25 : Cond.fieldLink RX1 25 (TX1 5).1 (TX1 5).2.1 (TX1 5).2.2.1 ∈ lw_gd := m_in1 (List.mem_of_getElem? (i := 53) rfl) rfl -- FallClocks$Buyer.needs
theorem fl0_X5_64 : Cond.fieldLink RX5 64 (TX1 5).1 (TX1 5).2.1 (TX1 5).2.2.1 ∈ lw_gd := m_in1 (List.mem_of_getElem? (i := 54) rfl) rfl -- FallClocks$Buyer.needs
theorem fl0_X8_77 : Cond.fieldLink RX8 77 (TX1 5).1 (TX1 5).2.1 (TX1 5).2.2.1 ∈ lw_gd := m_in1 (List.mem_of_getElem? (i := 55) rfl) rfl -- FallClocks$Buyer.needs
theorem fl0_X10_131 : Cond.fieldLink RX10 131 (TX1 5).1 (TX1 5).2.1 (TX1 5).2.2.1 ∈ lw_gd := m_in1 (List.mem_of_getElem? (i := 56) rfl) rfl -- FallClocks$Buyer.needs
theorem fl0_X0_80 : Cond.fieldLink RX0 80 (TX1 6).1 (TX1 6).2.1 (TX1 6).2.2.1 ∈ lw_gd := m_in1 (List.mem_of_getElem? (i := 57) rfl) rfl -- FallClocks$Buyer.left
theorem fl0_X1_44 : Cond.fieldLink RX1 44 (TX1 6).1 (TX1 6).2.1 (TX1 6).2.2.1 ∈ lw_gd := m_in1 (List.mem_of_getElem? (i := 58) rfl) rfl -- FallClocks$Buyer.left
theorem fl0_X10_139 : Cond.fieldLink RX10 139 (TX1 6).1 (TX1 6).2.1 (TX1 6).2.2.1 ∈ lw_gd := m_in1 (List.mem_of_getElem? (i := 59) rfl) rfl -- FallClocks$Buyer.left
theorem fl0_X1_47 : Cond.fieldLink RX1 47 (TX1 7).1 (TX1 7).2.1 (TX1 7).2.2.1 ∈ lw_gd := m_in1 (List.mem_of_getElem? (i := 60) rfl) rfl -- FallClocks$Buyer.trial
theorem fl0_X0_87 : Cond.fieldLink RX0 87 (TX1 7).1 (TX1 7).2.1 (TX1 7).2.2.1 ∈ lw_gd := m_in1 (List.mem_of_getElem? (i := 61) rfl) rfl -- FallClocks$Buyer.trial
theorem fl0_X6_38 : Cond.fieldLink RX6 38 (TX6 0).1 (TX6 0).2.1 (TX6 0).2.2.1 ∈ lw_gd := m_in1 (List.mem_of_getElem? (i := 80) rfl) rfl -- FallClocks$Hall.lots
theorem fl0_X2_33 : Cond.fieldLink RX2 33 (TX6 0).1 (TX6 0).2.1 (TX6 0).2.2.1 ∈ lw_gd := m_in1 (List.mem_of_getElem? (i := 81) rfl) rfl -- FallClocks$Hall.lots
theorem fl0_X10_80 : Cond.fieldLink RX10 80 (TX6 0).1 (TX6 0).2.1 (TX6 0).2.2.1 ∈ lw_gd := m_in1 (List.mem_of_getElem? (i := 82) rfl) rfl -- FallClocks$Hall.lots
theorem fl0_X8_45 : Cond.fieldLink RX8 45 (TX6 0).1 (TX6 0).2.1 (TX6 0).2.2.1 ∈ lw_gd := m_in1 (List.mem_of_getElem? (i := 83) rfl) rfl -- FallClocks$Hall.lots
theorem fl0_X4_100 : Cond.fieldLink RX4 100 (TX6 0).1 (TX6 0).2.1 (TX6 0).2.2.1 ∈ lw_gd := m_in1 (List.mem_of_getElem? (i := 84) rfl) rfl -- FallClocks$Hall.lots
theorem fl0_X6_9 : Cond.fieldLink RX6 9 (TX6 1).1 (TX6 1).2.1 (TX6 1).2.2.1 ∈ lw_gd := m_in1 (List.mem_of_getElem? (i := 85) rfl) rfl -- FallClocks$Hall.unit
theorem fl0_X4_130 : Cond.fieldLink RX4 130 (TX6 1).1 (TX6 1).2.1 (TX6 1).2.2.1 ∈ lw_gd := m_in1 (List.mem_of_getElem? (i := 86) rfl) rfl -- FallClocks$Hall.unit
theorem fl0_X6_15 : Cond.fieldLink RX6 15 (TX6 2).1 (TX6 2).2.1 (TX6 2).2.2.1 ∈ lw_gd := m_in1 (List.mem_of_getElem? (i := 87) rfl) rfl -- FallClocks$Hall.clock
theorem fl0_X4_124 : Cond.fieldLink RX4 124 (TX6 2).1 (TX6 2).2.1 (TX6 2).2.2.1 ∈ lw_gd := m_in1 (List.mem_of_getElem? (i := 88) rfl) rfl -- FallClocks$Hall.clock
theorem fl0_X6_18 : Cond.fieldLink RX6 18 (TX6 3).1 (TX6 3).2.1 (TX6 3).2.2.1 ∈ lw_gd := m_in1 (List.mem_of_getElem? (i := 89) rfl) rfl -- FallClocks$Hall.least
theorem fl0_X4_110 : Cond.fieldLink RX4 110 (TX6 3).1 (TX6 3).2.1 (TX6 3).2.2.1 ∈ lw_gd := m_in1 (List.mem_of_getElem? (i := 90) rfl) rfl -- FallClocks$Hall.least
theorem fl0_X6_21 : Cond.fieldLink RX6 21 (TX6 4).1 (TX6 4).2.1 (TX6 4).2.2.1 ∈ lw_gd := m_in1 (List.mem_of_getElem? (i := 91) rfl) rfl -- FallClocks$Hall.order
theorem fl0_X4_60 : Cond.fieldLink RX4 60 (TX6 4).1 (TX6 4).2.1 (TX6 4).2.2.1 ∈ lw_gd := m_in1 (List.mem_of_getElem? (i := 92) rfl) rfl -- FallClocks$Hall.order
theorem fl0_X10_164 : Cond.fieldLink RX10 164 (TX6 4).1 (TX6 4).2.1 (TX6 4).2.2.1 ∈ lw_gd := m_in1 (List.mem_of_getElem? (i := 93) rfl) rfl -- FallClocks$Hall.order
theorem fl0_X6_24 : Cond.fieldLink RX6 24 (TX6 5).1 (TX6 5).2.1 (TX6 5).2.2.1 ∈ lw_gd := m_in1 (List.mem_of_getElem? (i := 94) rfl) rfl -- FallClocks$Hall.byNumber
theorem fl0_X2_39 : Cond.fieldLink RX2 39 (TX6 5).1 (TX6 5).2.1 (TX6 5).2.2.1 ∈ lw_gd := m_in1 (List.mem_of_getElem? (i := 95) rfl) rfl -- FallClocks$Hall.byNumber
theorem fl0_X5_104 : Cond.fieldLink RX5 104 (TX6 5).1 (TX6 5).2.1 (TX6 5).2.2.1 ∈ lw_gd := m_in1 (List.mem_of_getElem? (i := 96) rfl) rfl -- FallClocks$Hall.byNumber
theorem fl0_X8_31 : Cond.fieldLink RX8 31 (TX6 6).1 (TX6 6).2.1 (TX6 6).2.2.1 ∈ lw_gd := m_in1 (List.mem_of_getElem? (i := 97) rfl) rfl -- FallClocks$Hall.count
theorem fl0_X5_37 : Cond.fieldLink RX5 37 (TX6 6).1 (TX6 6).2.1 (TX6 6).2.2.1 ∈ lw_gd := m_in1 (List.mem_of_getElem? (i := 98) rfl) rfl -- FallClocks$Hall.count
theorem fl0_X10_91 : Cond.fieldLink RX10 91 (TX6 6).1 (TX6 6).2.1 (TX6 6).2.2.1 ∈ lw_gd := m_in1 (List.mem_of_getElem? (i := 99) rfl) rfl -- FallClocks$Hall.count
theorem fl0_X6_41 : Cond.fieldLink RX6 41 (TX6 6).1 (TX6 6).2.1 (TX6 6).2.2.1 ∈ lw_gd := m_in1 (List.mem_of_getElem? (i := 100) rfl) rfl -- FallClocks$Hall.count
theorem fl0_X0_73 : Cond.fieldLink RX0 73 (TX6 6).1 (TX6 6).2.1 (TX6 6).2.2.1 ∈ lw_gd := m_in1 (List.mem_of_getElem? (i := 101) rfl) rfl -- FallClocks$Hall.count
theorem fl0_X4_81 : Cond.fieldLink RX4 81 (TX6 6).1 (TX6 6).2.1 (TX6 6).2.2.1 ∈ lw_gd := m_in1 (List.mem_of_getElem? (i := 102) rfl) rfl -- FallClocks$Hall.count
theorem fl0_X6_29 : Cond.fieldLink RX6 29 (TX6 7).1 (TX6 7).2.1 (TX6 7).2.2.1 ∈ lw_gd := m_in1 (List.mem_of_getElem? (i := 103) rfl) rfl -- FallClocks$Hall.buyers
theorem fl0_X8_37 : Cond.fieldLink RX8 37 (TX6 7).1 (TX6 7).2.1 (TX6 7).2.2.1 ∈ lw_gd := m_in1 (List.mem_of_getElem? (i := 104) rfl) rfl -- FallClocks$Hall.buyers
theorem fl0_X5_48 : Cond.fieldLink RX5 48 (TX6 7).1 (TX6 7).2.1 (TX6 7).2.2.1 ∈ lw_gd := m_in1 (List.mem_of_getElem? (i := 105) rfl) rfl -- FallClocks$Hall.buyers
theorem fl0_X0_76 : Cond.fieldLink RX0 76 (TX6 7).1 (TX6 7).2.1 (TX6 7).2.2.1 ∈ lw_gd := m_in1 (List.mem_of_getElem? (i := 106) rfl) rfl -- FallClocks$Hall.buyers
theorem fl0_X10_104 : Cond.fieldLink RX10 104 (TX6 7).1 (TX6 7).2.1 (TX6 7).2.2.1 ∈ lw_gd := m_in1 (List.mem_of_getElem? (i := 107) rfl) rfl -- FallClocks$Hall.buyers
theorem fl0_X4_85 : Cond.fieldLink RX4 85 (TX6 7).1 (TX6 7).2.1 (TX6 7).2.2.1 ∈ lw_gd := m_in1 (List.mem_of_getElem? (i := 108) rfl) rfl -- FallClocks$Hall.buyers
theorem fl0_X6_33 : Cond.fieldLink RX6 33 (TX6 8).1 (TX6 8).2.1 (TX6 8).2.2.1 ∈ lw_gd := m_in1 (List.mem_of_getElem? (i := 109) rfl) rfl -- FallClocks$Hall.top
theorem fl0_X4_66 : Cond.fieldLink RX4 66 (TX6 8).1 (TX6 8).2.1 (TX6 8).2.2.1 ∈ lw_gd := m_in1 (List.mem_of_getElem? (i := 110) rfl) rfl -- FallClocks$Hall.top
theorem fl0_X2_48 : Cond.fieldLink RX2 48 (TX6 8).1 (TX6 8).2.1 (TX6 8).2.2.1 ∈ lw_gd := m_in1 (List.mem_of_getElem? (i := 111) rfl) rfl -- FallClocks$Hall.top
theorem fl0_X10_154 : Cond.fieldLink RX10 154 (TX6 8).1 (TX6 8).2.1 (TX6 8).2.2.1 ∈ lw_gd := m_in1 (List.mem_of_getElem? (i := 112) rfl) rfl -- FallClocks$Hall.top
theorem fl0_X9_9 : Cond.fieldLink RX9 9 (TX9 0).1 (TX9 0).2.1 (TX9 0).2.2.1 ∈ lw_gd := m_in1 (List.mem_of_getElem? (i := 138) rfl) rfl -- FallClocks$Signs.codes
theorem fl0_X10_113 : Cond.fieldLink RX10 113 (TX9 0).1 (TX9 0).2.1 (TX9 0).2.2.1 ∈ lw_gd := m_in1 (List.mem_of_getElem? (i := 139) rfl) rfl -- FallClocks$Signs.codes
theorem fl0_X9_25 : Cond.fieldLink RX9 25 (TX9 1).1 (TX9 1).2.1 (TX9 1).2.2.1 ∈ lw_gd := m_in1 (List.mem_of_getElem? (i := 140) rfl) rfl -- FallClocks$Signs.count
theorem fl0_X10_112 : Cond.fieldLink RX10 112 (TX9 1).1 (TX9 1).2.1 (TX9 1).2.2.1 ∈ lw_gd := m_in1 (List.mem_of_getElem? (i := 141) rfl) rfl -- FallClocks$Signs.count
theorem fl0_X9_15 : Cond.fieldLink RX9 15 (TX9 2).1 (TX9 2).2.1 (TX9 2).2.2.1 ∈ lw_gd := m_in1 (List.mem_of_getElem? (i := 142) rfl) rfl -- FallClocks$Signs.numbers
theorem fl0_X1_36 : Cond.fieldLink RX1 36 (TX9 2).1 (TX9 2).2.1 (TX9 2).2.2.1 ∈ lw_gd := m_in1 (List.mem_of_getElem? (i := 143) rfl) rfl -- FallClocks$Signs.numbers
theorem fl0_X9_18 : Cond.fieldLink RX9 18 (TX9 3).1 (TX9 3).2.1 (TX9 3).2.2.1 ∈ lw_gd := m_in1 (List.mem_of_getElem? (i := 144) rfl) rfl -- FallClocks$Signs.needs
theorem fl0_X1_43 : Cond.fieldLink RX1 43 (TX9 3).1 (TX9 3).2.1 (TX9 3).2.2.1 ∈ lw_gd := m_in1 (List.mem_of_getElem? (i := 145) rfl) rfl -- FallClocks$Signs.needs
theorem fl0_X9_36 : Cond.fieldLink RX9 36 (TX9 4).1 (TX9 4).2.1 (TX9 4).2.2.1 ∈ lw_gd := m_in1 (List.mem_of_getElem? (i := 146) rfl) rfl -- FallClocks$Signs.last
theorem fl0_X1_28 : Cond.fieldLink RX1 28 (TX9 4).1 (TX9 4).2.1 (TX9 4).2.2.1 ∈ lw_gd := m_in1 (List.mem_of_getElem? (i := 147) rfl) rfl -- FallClocks$Signs.last
theorem fl0_X9_33 : Cond.fieldLink RX9 33 (TX9 5).1 (TX9 5).2.1 (TX9 5).2.2.1 ∈ lw_gd := m_in1 (List.mem_of_getElem? (i := 148) rfl) rfl -- FallClocks$Signs.awaited
theorem fl0_X9_61 : Cond.fieldLink RX9 61 (TX9 6).1 (TX9 6).2.1 (TX9 6).2.2.1 ∈ lw_gd := m_in1 (List.mem_of_getElem? (i := 149) rfl) rfl -- FallClocks$Signs.many
theorem fl0_X9_39 : Cond.fieldLink RX9 39 (TX9 7).1 (TX9 7).2.1 (TX9 7).2.2.1 ∈ lw_gd := m_in1 (List.mem_of_getElem? (i := 150) rfl) rfl -- FallClocks$Signs.nextSort
theorem fl0_X9_42 : Cond.fieldLink RX9 42 (TX9 8).1 (TX9 8).2.1 (TX9 8).2.2.1 ∈ lw_gd := m_in1 (List.mem_of_getElem? (i := 151) rfl) rfl -- FallClocks$Signs.digits
theorem fl0_X4_56 : Cond.fieldLink RX4 56 (TX4 0).1 (TX4 0).2.1 (TX4 0).2.2.1 ∈ lw_gd := m_in1 (List.mem_of_getElem? (i := 179) rfl) rfl -- FallClocks$Day.hall
theorem fl0_X4_9 : Cond.fieldLink RX4 9 (TX4 1).1 (TX4 1).2.1 (TX4 1).2.2.1 ∈ lw_gd := m_in1 (List.mem_of_getElem? (i := 180) rfl) rfl -- FallClocks$Day.owner
theorem fl0_X10_170 : Cond.fieldLink RX10 170 (TX4 1).1 (TX4 1).2.1 (TX4 1).2.2.1 ∈ lw_gd := m_in1 (List.mem_of_getElem? (i := 181) rfl) rfl -- FallClocks$Day.owner
theorem fl0_X4_15 : Cond.fieldLink RX4 15 (TX4 2).1 (TX4 2).2.1 (TX4 2).2.2.1 ∈ lw_gd := m_in1 (List.mem_of_getElem? (i := 182) rfl) rfl -- FallClocks$Day.price
theorem fl0_X10_173 : Cond.fieldLink RX10 173 (TX4 2).1 (TX4 2).2.1 (TX4 2).2.2.1 ∈ lw_gd := m_in1 (List.mem_of_getElem? (i := 183) rfl) rfl -- FallClocks$Day.price
theorem fl0_X4_18 : Cond.fieldLink RX4 18 (TX4 3).1 (TX4 3).2.1 (TX4 3).2.2.1 ∈ lw_gd := m_in1 (List.mem_of_getElem? (i := 184) rfl) rfl -- FallClocks$Day.tick
theorem fl0_X10_176 : Cond.fieldLink RX10 176 (TX4 3).1 (TX4 3).2.1 (TX4 3).2.2.1 ∈ lw_gd := m_in1 (List.mem_of_getElem? (i := 185) rfl) rfl -- FallClocks$Day.tick
theorem fl0_X4_21 : Cond.fieldLink RX4 21 (TX4 4).1 (TX4 4).2.1 (TX4 4).2.2.1 ∈ lw_gd := m_in1 (List.mem_of_getElem? (i := 186) rfl) rfl -- FallClocks$Day.heap
theorem fl0_X10_179 : Cond.fieldLink RX10 179 (TX4 4).1 (TX4 4).2.1 (TX4 4).2.2.1 ∈ lw_gd := m_in1 (List.mem_of_getElem? (i := 187) rfl) rfl -- FallClocks$Day.heap
theorem fl0_X4_24 : Cond.fieldLink RX4 24 (TX4 5).1 (TX4 5).2.1 (TX4 5).2.2.1 ∈ lw_gd := m_in1 (List.mem_of_getElem? (i := 188) rfl) rfl -- FallClocks$Day.worth
theorem fl0_X10_182 : Cond.fieldLink RX10 182 (TX4 5).1 (TX4 5).2.1 (TX4 5).2.2.1 ∈ lw_gd := m_in1 (List.mem_of_getElem? (i := 189) rfl) rfl -- FallClocks$Day.worth
theorem fl0_X4_27 : Cond.fieldLink RX4 27 (TX4 6).1 (TX4 6).2.1 (TX4 6).2.2.1 ∈ lw_gd := m_in1 (List.mem_of_getElem? (i := 190) rfl) rfl -- FallClocks$Day.paid
theorem fl0_X10_185 : Cond.fieldLink RX10 185 (TX4 6).1 (TX4 6).2.1 (TX4 6).2.2.1 ∈ lw_gd := m_in1 (List.mem_of_getElem? (i := 191) rfl) rfl -- FallClocks$Day.paid
theorem fl0_X4_30 : Cond.fieldLink RX4 30 (TX4 7).1 (TX4 7).2.1 (TX4 7).2.2.1 ∈ lw_gd := m_in1 (List.mem_of_getElem? (i := 192) rfl) rfl -- FallClocks$Day.coin
theorem fl0_X10_188 : Cond.fieldLink RX10 188 (TX4 7).1 (TX4 7).2.1 (TX4 7).2.2.1 ∈ lw_gd := m_in1 (List.mem_of_getElem? (i := 193) rfl) rfl -- FallClocks$Day.coin
theorem fl0_X4_33 : Cond.fieldLink RX4 33 (TX4 8).1 (TX4 8).2.1 (TX4 8).2.2.1 ∈ lw_gd := m_in1 (List.mem_of_getElem? (i := 194) rfl) rfl -- FallClocks$Day.counts
theorem fl0_X4_36 : Cond.fieldLink RX4 36 (TX4 9).1 (TX4 9).2.1 (TX4 9).2.2.1 ∈ lw_gd := m_in1 (List.mem_of_getElem? (i := 195) rfl) rfl -- FallClocks$Day.keeps
theorem fl0_X4_39 : Cond.fieldLink RX4 39 (TX4 10).1 (TX4 10).2.1 (TX4 10).2.2.1 ∈ lw_gd := m_in1 (List.mem_of_getElem? (i := 196) rfl) rfl -- FallClocks$Day.place
theorem fl0_X4_42 : Cond.fieldLink RX4 42 (TX4 11).1 (TX4 11).2.1 (TX4 11).2.2.1 ∈ lw_gd := m_in1 (List.mem_of_getElem? (i := 197) rfl) rfl -- FallClocks$Day.came
theorem fl0_X4_45 : Cond.fieldLink RX4 45 (TX4 12).1 (TX4 12).2.1 (TX4 12).2.2.1 ∈ lw_gd := m_in1 (List.mem_of_getElem? (i := 198) rfl) rfl -- FallClocks$Day.from
theorem fl0_X4_48 : Cond.fieldLink RX4 48 (TX4 13).1 (TX4 13).2.1 (TX4 13).2.2.1 ∈ lw_gd := m_in1 (List.mem_of_getElem? (i := 199) rfl) rfl -- FallClocks$Day.end
theorem fl0_X4_53 : Cond.fieldLink RX4 53 (TX4 14).1 (TX4 14).2.1 (TX4 14).2.2.1 ∈ lw_gd := m_in1 (List.mem_of_getElem? (i := 200) rfl) rfl -- FallClocks$Day.reach
theorem fl0_X4_65 : Cond.fieldLink RX4 65 (TX4 15).1 (TX4 15).2.1 (TX4 15).2.2.1 ∈ lw_gd := m_in1 (List.mem_of_getElem? (i := 201) rfl) rfl -- FallClocks$Day.order
theorem fl0_X4_84 : Cond.fieldLink RX4 84 (TX4 16).1 (TX4 16).2.1 (TX4 16).2.2.1 ∈ lw_gd := m_in1 (List.mem_of_getElem? (i := 202) rfl) rfl -- FallClocks$Day.top
theorem fl0_X5_26 : Cond.fieldLink RX5 26 (TX5 0).1 (TX5 0).2.1 (TX5 0).2.2.1 ∈ lw_gd := m_in2 (List.mem_of_getElem? (i := 5) rfl) rfl -- FallClocks$Deal.hall
theorem fl0_X5_9 : Cond.fieldLink RX5 9 (TX5 1).1 (TX5 1).2.1 (TX5 1).2.2.1 ∈ lw_gd := m_in2 (List.mem_of_getElem? (i := 6) rfl) rfl -- FallClocks$Deal.heaps
theorem fl0_X10_197 : Cond.fieldLink RX10 197 (TX5 1).1 (TX5 1).2.1 (TX5 1).2.2.1 ∈ lw_gd := m_in2 (List.mem_of_getElem? (i := 7) rfl) rfl -- FallClocks$Deal.heaps
theorem fl0_X5_15 : Cond.fieldLink RX5 15 (TX5 2).1 (TX5 2).2.1 (TX5 2).2.2.1 ∈ lw_gd := m_in2 (List.mem_of_getElem? (i := 8) rfl) rfl -- FallClocks$Deal.step
theorem fl0_X5_18 : Cond.fieldLink RX5 18 (TX5 3).1 (TX5 3).2.1 (TX5 3).2.2.1 ∈ lw_gd := m_in2 (List.mem_of_getElem? (i := 9) rfl) rfl -- FallClocks$Deal.counts
theorem fl0_X5_23 : Cond.fieldLink RX5 23 (TX5 4).1 (TX5 4).2.1 (TX5 4).2.2.1 ∈ lw_gd := m_in2 (List.mem_of_getElem? (i := 10) rfl) rfl -- FallClocks$Deal.best
theorem fl0_X5_33 : Cond.fieldLink RX5 33 (TX5 5).1 (TX5 5).2.1 (TX5 5).2.2.1 ∈ lw_gd := m_in2 (List.mem_of_getElem? (i := 11) rfl) rfl -- FallClocks$Deal.states
theorem fl0_X8_24 : Cond.fieldLink RX8 24 (TX8 0).1 (TX8 0).2.1 (TX8 0).2.2.1 ∈ lw_gd := m_in2 (List.mem_of_getElem? (i := 31) rfl) rfl -- FallClocks$Prices.hall
theorem fl0_X8_9 : Cond.fieldLink RX8 9 (TX8 1).1 (TX8 1).2.1 (TX8 1).2.2.1 ∈ lw_gd := m_in2 (List.mem_of_getElem? (i := 32) rfl) rfl -- FallClocks$Prices.price
theorem fl0_X10_200 : Cond.fieldLink RX10 200 (TX8 1).1 (TX8 1).2.1 (TX8 1).2.2.1 ∈ lw_gd := m_in2 (List.mem_of_getElem? (i := 33) rfl) rfl -- FallClocks$Prices.price
theorem fl0_X8_15 : Cond.fieldLink RX8 15 (TX8 2).1 (TX8 2).2.1 (TX8 2).2.2.1 ∈ lw_gd := m_in2 (List.mem_of_getElem? (i := 34) rfl) rfl -- FallClocks$Prices.heap
theorem fl0_X10_204 : Cond.fieldLink RX10 204 (TX8 2).1 (TX8 2).2.1 (TX8 2).2.2.1 ∈ lw_gd := m_in2 (List.mem_of_getElem? (i := 35) rfl) rfl -- FallClocks$Prices.heap
theorem fl0_X8_18 : Cond.fieldLink RX8 18 (TX8 3).1 (TX8 3).2.1 (TX8 3).2.2.1 ∈ lw_gd := m_in2 (List.mem_of_getElem? (i := 36) rfl) rfl -- FallClocks$Prices.gain
theorem fl0_X10_205 : Cond.fieldLink RX10 205 (TX8 3).1 (TX8 3).2.1 (TX8 3).2.2.1 ∈ lw_gd := m_in2 (List.mem_of_getElem? (i := 37) rfl) rfl -- FallClocks$Prices.gain
theorem fl0_X8_48 : Cond.fieldLink RX8 48 (TX8 4).1 (TX8 4).2.1 (TX8 4).2.2.1 ∈ lw_gd := m_in2 (List.mem_of_getElem? (i := 38) rfl) rfl -- FallClocks$Prices.rounds
theorem fl0_X10_215 : Cond.fieldLink RX10 215 (TX8 4).1 (TX8 4).2.1 (TX8 4).2.2.1 ∈ lw_gd := m_in2 (List.mem_of_getElem? (i := 39) rfl) rfl -- FallClocks$Prices.rounds
theorem fl0_X0_70 : Cond.fieldLink RX0 70 (TX8 5).1 (TX8 5).2.1 (TX8 5).2.2.1 ∈ lw_gd := m_in2 (List.mem_of_getElem? (i := 40) rfl) rfl -- FallClocks$Prices.missing
theorem fl0_X8_58 : Cond.fieldLink RX8 58 (TX8 5).1 (TX8 5).2.1 (TX8 5).2.2.1 ∈ lw_gd := m_in2 (List.mem_of_getElem? (i := 41) rfl) rfl -- FallClocks$Prices.missing
theorem fl0_X10_218 : Cond.fieldLink RX10 218 (TX8 5).1 (TX8 5).2.1 (TX8 5).2.2.1 ∈ lw_gd := m_in2 (List.mem_of_getElem? (i := 42) rfl) rfl -- FallClocks$Prices.missing
theorem fl0_X8_21 : Cond.fieldLink RX8 21 (TX8 6).1 (TX8 6).2.1 (TX8 6).2.2.1 ∈ lw_gd := m_in2 (List.mem_of_getElem? (i := 43) rfl) rfl -- FallClocks$Prices.cheapest
theorem fl0_X2_21 : Cond.fieldLink RX2 21 (TX2 0).1 (TX2 0).2.1 (TX2 0).2.2.1 ∈ lw_gd := m_in2 (List.mem_of_getElem? (i := 65) rfl) rfl -- FallClocks$Carts.hall
theorem fl0_X2_25 : Cond.fieldLink RX2 25 (TX2 1).1 (TX2 1).2.1 (TX2 1).2.2.1 ∈ lw_gd := m_in2 (List.mem_of_getElem? (i := 66) rfl) rfl -- FallClocks$Carts.course
theorem fl0_X2_9 : Cond.fieldLink RX2 9 (TX2 2).1 (TX2 2).2.1 (TX2 2).2.2.1 ∈ lw_gd := m_in2 (List.mem_of_getElem? (i := 67) rfl) rfl -- FallClocks$Carts.best
theorem fl0_X10_229 : Cond.fieldLink RX10 229 (TX2 2).1 (TX2 2).2.1 (TX2 2).2.2.1 ∈ lw_gd := m_in2 (List.mem_of_getElem? (i := 68) rfl) rfl -- FallClocks$Carts.best
theorem fl0_X2_15 : Cond.fieldLink RX2 15 (TX2 3).1 (TX2 3).2.1 (TX2 3).2.2.1 ∈ lw_gd := m_in2 (List.mem_of_getElem? (i := 69) rfl) rfl -- FallClocks$Carts.worst
theorem fl0_X10_232 : Cond.fieldLink RX10 232 (TX2 3).1 (TX2 3).2.1 (TX2 3).2.2.1 ∈ lw_gd := m_in2 (List.mem_of_getElem? (i := 70) rfl) rfl -- FallClocks$Carts.worst
theorem fl0_X2_18 : Cond.fieldLink RX2 18 (TX2 4).1 (TX2 4).2.1 (TX2 4).2.2.1 ∈ lw_gd := m_in2 (List.mem_of_getElem? (i := 71) rfl) rfl -- FallClocks$Carts.tried
theorem fl0_X2_72 : Cond.fieldLink RX2 72 (TX2 5).1 (TX2 5).2.1 (TX2 5).2.2.1 ∈ lw_gd := m_in2 (List.mem_of_getElem? (i := 72) rfl) rfl -- FallClocks$Carts.most
theorem fl0_X10_224 : Cond.fieldLink RX10 224 (TX2 5).1 (TX2 5).2.1 (TX2 5).2.2.1 ∈ lw_gd := m_in2 (List.mem_of_getElem? (i := 73) rfl) rfl -- FallClocks$Carts.most
theorem fl0_X2_75 : Cond.fieldLink RX2 75 (TX2 6).1 (TX2 6).2.1 (TX2 6).2.2.1 ∈ lw_gd := m_in2 (List.mem_of_getElem? (i := 74) rfl) rfl -- FallClocks$Carts.fewest
theorem fl0_X10_226 : Cond.fieldLink RX10 226 (TX2 6).1 (TX2 6).2.1 (TX2 6).2.2.1 ∈ lw_gd := m_in2 (List.mem_of_getElem? (i := 75) rfl) rfl -- FallClocks$Carts.fewest
theorem fl0_X2_29 : Cond.fieldLink RX2 29 (TX2 7).1 (TX2 7).2.1 (TX2 7).2.2.1 ∈ lw_gd := m_in2 (List.mem_of_getElem? (i := 76) rfl) rfl -- FallClocks$Carts.known
theorem fl0_X10_275 : Cond.fieldLink RX10 275 (TX2 7).1 (TX2 7).2.1 (TX2 7).2.2.1 ∈ lw_gd := m_in2 (List.mem_of_getElem? (i := 77) rfl) rfl -- FallClocks$Carts.known
theorem fl0_X0_9 : Cond.fieldLink RX0 9 (TX0 0).1 (TX0 0).2.1 (TX0 0).2.2.1 ∈ lw_gd := m_in2 (List.mem_of_getElem? (i := 101) rfl) rfl -- FallClocks$Break.hall
theorem fl0_X0_15 : Cond.fieldLink RX0 15 (TX0 1).1 (TX0 1).2.1 (TX0 1).2.2.1 ∈ lw_gd := m_in2 (List.mem_of_getElem? (i := 102) rfl) rfl -- FallClocks$Break.deal
theorem fl0_X0_19 : Cond.fieldLink RX0 19 (TX0 2).1 (TX0 2).2.1 (TX0 2).2.2.1 ∈ lw_gd := m_in2 (List.mem_of_getElem? (i := 103) rfl) rfl -- FallClocks$Break.grown
theorem fl0_X0_42 : Cond.fieldLink RX0 42 (TX0 3).1 (TX0 3).2.1 (TX0 3).2.2.1 ∈ lw_gd := m_in2 (List.mem_of_getElem? (i := 104) rfl) rfl -- FallClocks$Break.set
theorem fl0_X10_248 : Cond.fieldLink RX10 248 (TX0 3).1 (TX0 3).2.1 (TX0 3).2.2.1 ∈ lw_gd := m_in2 (List.mem_of_getElem? (i := 105) rfl) rfl -- FallClocks$Break.set
theorem fl0_X0_23 : Cond.fieldLink RX0 23 (TX0 4).1 (TX0 4).2.1 (TX0 4).2.2.1 ∈ lw_gd := m_in2 (List.mem_of_getElem? (i := 106) rfl) rfl -- FallClocks$Break.known
theorem fl0_X10_279 : Cond.fieldLink RX10 279 (TX0 4).1 (TX0 4).2.1 (TX0 4).2.2.1 ∈ lw_gd := m_in2 (List.mem_of_getElem? (i := 107) rfl) rfl -- FallClocks$Break.known
theorem fl0_X7_21 : Cond.fieldLink RX7 21 (TX7 0).1 (TX7 0).2.1 (TX7 0).2.2.1 ∈ lw_gd := m_in2 (List.mem_of_getElem? (i := 125) rfl) rfl -- FallClocks$Lessons.course
theorem fl0_X7_9 : Cond.fieldLink RX7 9 (TX7 1).1 (TX7 1).2.1 (TX7 1).2.2.1 ∈ lw_gd := m_in2 (List.mem_of_getElem? (i := 126) rfl) rfl -- FallClocks$Lessons.tops
theorem fl0_X10_257 : Cond.fieldLink RX10 257 (TX7 1).1 (TX7 1).2.1 (TX7 1).2.2.1 ∈ lw_gd := m_in2 (List.mem_of_getElem? (i := 127) rfl) rfl -- FallClocks$Lessons.tops
theorem fl0_X7_29 : Cond.fieldLink RX7 29 (TX7 2).1 (TX7 2).2.1 (TX7 2).2.2.1 ∈ lw_gd := m_in2 (List.mem_of_getElem? (i := 128) rfl) rfl -- FallClocks$Lessons.count
theorem fl0_X10_256 : Cond.fieldLink RX10 256 (TX7 2).1 (TX7 2).2.1 (TX7 2).2.2.1 ∈ lw_gd := m_in2 (List.mem_of_getElem? (i := 129) rfl) rfl -- FallClocks$Lessons.count
theorem fl0_X7_15 : Cond.fieldLink RX7 15 (TX7 3).1 (TX7 3).2.1 (TX7 3).2.2.1 ∈ lw_gd := m_in2 (List.mem_of_getElem? (i := 130) rfl) rfl -- FallClocks$Lessons.chosen
theorem fl0_X10_263 : Cond.fieldLink RX10 263 (TX7 3).1 (TX7 3).2.1 (TX7 3).2.2.1 ∈ lw_gd := m_in2 (List.mem_of_getElem? (i := 131) rfl) rfl -- FallClocks$Lessons.chosen
theorem fl0_X7_18 : Cond.fieldLink RX7 18 (TX7 4).1 (TX7 4).2.1 (TX7 4).2.2.1 ∈ lw_gd := m_in2 (List.mem_of_getElem? (i := 132) rfl) rfl -- FallClocks$Lessons.total
theorem fl0_X10_266 : Cond.fieldLink RX10 266 (TX7 4).1 (TX7 4).2.1 (TX7 4).2.2.1 ∈ lw_gd := m_in2 (List.mem_of_getElem? (i := 133) rfl) rfl -- FallClocks$Lessons.total
theorem fl0_X7_25 : Cond.fieldLink RX7 25 (TX7 5).1 (TX7 5).2.1 (TX7 5).2.2.1 ∈ lw_gd := m_in2 (List.mem_of_getElem? (i := 134) rfl) rfl -- FallClocks$Lessons.brought
theorem fl0_X10_272 : Cond.fieldLink RX10 272 (TX7 5).1 (TX7 5).2.1 (TX7 5).2.2.1 ∈ lw_gd := m_in2 (List.mem_of_getElem? (i := 135) rfl) rfl -- FallClocks$Lessons.brought
theorem fl0_X10_10 : Cond.fieldLink RX10 10 (TX10 0).1 (TX10 0).2.1 (TX10 0).2.2.1 ∈ lw_gd := m_in2 (List.mem_of_getElem? (i := 149) rfl) rfl -- FallClocks.hall
theorem fl0_X10_19 : Cond.fieldLink RX10 19 (TX10 1).1 (TX10 1).2.1 (TX10 1).2.2.1 ∈ lw_gd := m_in2 (List.mem_of_getElem? (i := 150) rfl) rfl -- FallClocks.signs
theorem fl0_X10_28 : Cond.fieldLink RX10 28 (TX10 2).1 (TX10 2).2.1 (TX10 2).2.2.1 ∈ lw_gd := m_in2 (List.mem_of_getElem? (i := 151) rfl) rfl -- FallClocks.course
theorem fl0_X10_35 : Cond.fieldLink RX10 35 (TX10 3).1 (TX10 3).2.1 (TX10 3).2.2.1 ∈ lw_gd := m_in2 (List.mem_of_getElem? (i := 152) rfl) rfl -- FallClocks.deal
theorem fl0_X10_42 : Cond.fieldLink RX10 42 (TX10 4).1 (TX10 4).2.1 (TX10 4).2.2.1 ∈ lw_gd := m_in2 (List.mem_of_getElem? (i := 153) rfl) rfl -- FallClocks.asked
theorem fl0_X10_46 : Cond.fieldLink RX10 46 (TX10 5).1 (TX10 5).2.1 (TX10 5).2.2.1 ∈ lw_gd := m_in2 (List.mem_of_getElem? (i := 154) rfl) rfl -- FallClocks.grown
theorem fl0_X10_54 : Cond.fieldLink RX10 54 (TX10 6).1 (TX10 6).2.1 (TX10 6).2.2.1 ∈ lw_gd := m_in2 (List.mem_of_getElem? (i := 155) rfl) rfl -- FallClocks.carts
theorem fl0_X10_63 : Cond.fieldLink RX10 63 (TX10 7).1 (TX10 7).2.1 (TX10 7).2.2.1 ∈ lw_gd := m_in2 (List.mem_of_getElem? (i := 156) rfl) rfl -- FallClocks.breach
theorem fl0_X10_72 : Cond.fieldLink RX10 72 (TX10 8).1 (TX10 8).2.1 (TX10 8).2.2.1 ∈ lw_gd := m_in2 (List.mem_of_getElem? (i := 157) rfl) rfl -- FallClocks.lessons
theorem ct_X1_52 : Cond.constant RX1 52 (17318416) ∈ lw_gd := m_in3 (List.mem_of_getElem? (i := 57) rfl) rfl
theorem ct_X3_9 : Cond.constant RX3 9 (17318416) ∈ lw_gd := m_in3 (List.mem_of_getElem? (i := 73) rfl) rfl
theorem ct_X10_235 : Cond.constant RX10 235 (-1000000001) ∈ lw_gd := m_in4 (List.mem_of_getElem? (i := 34) rfl) rfl
theorem ct_X10_239 : Cond.constant RX10 239 (-1000000002) ∈ lw_gd := m_in4 (List.mem_of_getElem? (i := 43) rfl) rfl
theorem ct_J6_265 : Cond.constant RJ6 265 (1431655765) ∈ lw_gd := m_in4 (List.mem_of_getElem? (i := 70) rfl) rfl
theorem ct_J6_266 : Cond.constant RJ6 266 (858993459) ∈ lw_gd := m_in4 (List.mem_of_getElem? (i := 71) rfl) rfl
theorem ct_J6_267 : Cond.constant RJ6 267 (252645135) ∈ lw_gd := m_in4 (List.mem_of_getElem? (i := 72) rfl) rfl
theorem fl0_X11_7 : Cond.fieldLink RX11 7 (TX11 0).1 (TX11 0).2.1 (TX11 0).2.2.1 ∈ lw_gd := m_in4 (List.mem_of_getElem? (i := 116) rfl) rfl -- FallClocksModel.sortOf
theorem fl0_X11_13 : Cond.fieldLink RX11 13 (TX11 1).1 (TX11 1).2.1 (TX11 1).2.2.1 ∈ lw_gd := m_in4 (List.mem_of_getElem? (i := 117) rfl) rfl -- FallClocksModel.clockOf
theorem fl0_X11_16 : Cond.fieldLink RX11 16 (TX11 2).1 (TX11 2).2.1 (TX11 2).2.2.1 ∈ lw_gd := m_in4 (List.mem_of_getElem? (i := 118) rfl) rfl -- FallClocksModel.leastOf
theorem fl0_X11_19 : Cond.fieldLink RX11 19 (TX11 3).1 (TX11 3).2.1 (TX11 3).2.2.1 ∈ lw_gd := m_in4 (List.mem_of_getElem? (i := 119) rfl) rfl -- FallClocksModel.orderOf
theorem fl0_X11_107 : Cond.fieldLink RX11 107 (TX11 4).1 (TX11 4).2.1 (TX11 4).2.2.1 ∈ lw_gd := m_in4 (List.mem_of_getElem? (i := 120) rfl) rfl -- FallClocksModel.lots
theorem fl0_X11_22 : Cond.fieldLink RX11 22 (TX11 5).1 (TX11 5).2.1 (TX11 5).2.2.1 ∈ lw_gd := m_in4 (List.mem_of_getElem? (i := 121) rfl) rfl -- FallClocksModel.coins
theorem fl0_X11_25 : Cond.fieldLink RX11 25 (TX11 6).1 (TX11 6).2.1 (TX11 6).2.2.1 ∈ lw_gd := m_in4 (List.mem_of_getElem? (i := 122) rfl) rfl -- FallClocksModel.cuts
theorem fl0_X11_28 : Cond.fieldLink RX11 28 (TX11 7).1 (TX11 7).2.1 (TX11 7).2.2.1 ∈ lw_gd := m_in4 (List.mem_of_getElem? (i := 123) rfl) rfl -- FallClocksModel.marks
theorem fl0_X11_114 : Cond.fieldLink RX11 114 (TX11 8).1 (TX11 8).2.1 (TX11 8).2.2.1 ∈ lw_gd := m_in4 (List.mem_of_getElem? (i := 124) rfl) rfl -- FallClocksModel.buyers
theorem fl0_X11_103 : Cond.fieldLink RX11 103 (TX11 9).1 (TX11 9).2.1 (TX11 9).2.2.1 ∈ lw_gd := m_in4 (List.mem_of_getElem? (i := 125) rfl) rfl -- FallClocksModel.topIs
theorem fl0_X11_31 : Cond.fieldLink RX11 31 (TX11 10).1 (TX11 10).2.1 (TX11 10).2.2.1 ∈ lw_gd := m_in4 (List.mem_of_getElem? (i := 126) rfl) rfl -- FallClocksModel.signs
theorem fl0_X11_135 : Cond.fieldLink RX11 135 (TX11 11).1 (TX11 11).2.1 (TX11 11).2.2.1 ∈ lw_gd := m_in4 (List.mem_of_getElem? (i := 127) rfl) rfl -- FallClocksModel.signMany
theorem fl0_X11_34 : Cond.fieldLink RX11 34 (TX11 12).1 (TX11 12).2.1 (TX11 12).2.2.1 ∈ lw_gd := m_in4 (List.mem_of_getElem? (i := 128) rfl) rfl -- FallClocksModel.wants
theorem fl0_X11_37 : Cond.fieldLink RX11 37 (TX11 13).1 (TX11 13).2.1 (TX11 13).2.2.1 ∈ lw_gd := m_in4 (List.mem_of_getElem? (i := 129) rfl) rfl -- FallClocksModel.brings
theorem fl0_X11_40 : Cond.fieldLink RX11 40 (TX11 14).1 (TX11 14).2.1 (TX11 14).2.2.1 ∈ lw_gd := m_in4 (List.mem_of_getElem? (i := 130) rfl) rfl -- FallClocksModel.wishMany
theorem fl0_X11_43 : Cond.fieldLink RX11 43 (TX11 15).1 (TX11 15).2.1 (TX11 15).2.2.1 ∈ lw_gd := m_in4 (List.mem_of_getElem? (i := 131) rfl) rfl -- FallClocksModel.left
theorem fl0_X11_46 : Cond.fieldLink RX11 46 (TX11 16).1 (TX11 16).2.1 (TX11 16).2.2.1 ∈ lw_gd := m_in4 (List.mem_of_getElem? (i := 132) rfl) rfl -- FallClocksModel.worths
theorem fl0_X11_49 : Cond.fieldLink RX11 49 (TX11 17).1 (TX11 17).2.1 (TX11 17).2.2.1 ∈ lw_gd := m_in4 (List.mem_of_getElem? (i := 133) rfl) rfl -- FallClocksModel.soldTo
theorem fl0_X11_52 : Cond.fieldLink RX11 52 (TX11 18).1 (TX11 18).2.1 (TX11 18).2.2.1 ∈ lw_gd := m_in4 (List.mem_of_getElem? (i := 134) rfl) rfl -- FallClocksModel.soldFor
theorem fl0_X11_55 : Cond.fieldLink RX11 55 (TX11 19).1 (TX11 19).2.1 (TX11 19).2.2.1 ∈ lw_gd := m_in4 (List.mem_of_getElem? (i := 135) rfl) rfl -- FallClocksModel.soldIn
theorem fl0_X11_58 : Cond.fieldLink RX11 58 (TX11 20).1 (TX11 20).2.1 (TX11 20).2.2.1 ∈ lw_gd := m_in4 (List.mem_of_getElem? (i := 136) rfl) rfl -- FallClocksModel.heaps
theorem fl0_X11_61 : Cond.fieldLink RX11 61 (TX11 21).1 (TX11 21).2.1 (TX11 21).2.2.1 ∈ lw_gd := m_in4 (List.mem_of_getElem? (i := 137) rfl) rfl -- FallClocksModel.rest
theorem fl0_X11_64 : Cond.fieldLink RX11 64 (TX11 22).1 (TX11 22).2.1 (TX11 22).2.2.1 ∈ lw_gd := m_in4 (List.mem_of_getElem? (i := 138) rfl) rfl -- FallClocksModel.placeOn
theorem fl0_X11_67 : Cond.fieldLink RX11 67 (TX11 23).1 (TX11 23).2.1 (TX11 23).2.2.1 ∈ lw_gd := m_in4 (List.mem_of_getElem? (i := 139) rfl) rfl -- FallClocksModel.cameOn
theorem fl0_X11_70 : Cond.fieldLink RX11 70 (TX11 24).1 (TX11 24).2.1 (TX11 24).2.2.1 ∈ lw_gd := m_in4 (List.mem_of_getElem? (i := 140) rfl) rfl -- FallClocksModel.mostFrom
theorem fl0_X11_73 : Cond.fieldLink RX11 73 (TX11 25).1 (TX11 25).2.1 (TX11 25).2.2.1 ∈ lw_gd := m_in4 (List.mem_of_getElem? (i := 141) rfl) rfl -- FallClocksModel.prices
theorem fl0_X11_76 : Cond.fieldLink RX11 76 (TX11 26).1 (TX11 26).2.1 (TX11 26).2.2.1 ∈ lw_gd := m_in4 (List.mem_of_getElem? (i := 142) rfl) rfl -- FallClocksModel.raising
theorem fl0_X11_79 : Cond.fieldLink RX11 79 (TX11 27).1 (TX11 27).2.1 (TX11 27).2.2.1 ∈ lw_gd := m_in4 (List.mem_of_getElem? (i := 143) rfl) rfl -- FallClocksModel.likedBy
theorem fl0_X11_216 : Cond.fieldLink RX11 216 (TX11 28).1 (TX11 28).2.1 (TX11 28).2.2.1 ∈ lw_gd := m_in4 (List.mem_of_getElem? (i := 144) rfl) rfl -- FallClocksModel.raiseRounds
theorem fl0_X11_82 : Cond.fieldLink RX11 82 (TX11 29).1 (TX11 29).2.1 (TX11 29).2.2.1 ∈ lw_gd := m_in4 (List.mem_of_getElem? (i := 145) rfl) rfl -- FallClocksModel.orderWas
theorem fl0_X11_85 : Cond.fieldLink RX11 85 (TX11 30).1 (TX11 30).2.1 (TX11 30).2.2.1 ∈ lw_gd := m_in4 (List.mem_of_getElem? (i := 146) rfl) rfl -- FallClocksModel.orderBest
theorem fl0_X11_88 : Cond.fieldLink RX11 88 (TX11 31).1 (TX11 31).2.1 (TX11 31).2.2.1 ∈ lw_gd := m_in4 (List.mem_of_getElem? (i := 147) rfl) rfl -- FallClocksModel.orderWorst
theorem fl0_X11_230 : Cond.fieldLink RX11 230 (TX11 32).1 (TX11 32).2.1 (TX11 32).2.2.1 ∈ lw_gd := m_in4 (List.mem_of_getElem? (i := 148) rfl) rfl -- FallClocksModel.mostWorth
theorem fl0_X11_234 : Cond.fieldLink RX11 234 (TX11 33).1 (TX11 33).2.1 (TX11 33).2.2.1 ∈ lw_gd := m_in4 (List.mem_of_getElem? (i := 149) rfl) rfl -- FallClocksModel.leastWorth
theorem fl0_X11_91 : Cond.fieldLink RX11 91 (TX11 34).1 (TX11 34).2.1 (TX11 34).2.2.1 ∈ lw_gd := m_in4 (List.mem_of_getElem? (i := 150) rfl) rfl -- FallClocksModel.leftWas
theorem fl0_X11_94 : Cond.fieldLink RX11 94 (TX11 35).1 (TX11 35).2.1 (TX11 35).2.2.1 ∈ lw_gd := m_in4 (List.mem_of_getElem? (i := 151) rfl) rfl -- FallClocksModel.lessons
theorem fl0_X11_268 : Cond.fieldLink RX11 268 (TX11 36).1 (TX11 36).2.1 (TX11 36).2.2.1 ∈ lw_gd := m_in4 (List.mem_of_getElem? (i := 152) rfl) rfl -- FallClocksModel.lessonMany
theorem fl0_X11_97 : Cond.fieldLink RX11 97 (TX11 37).1 (TX11 37).2.1 (TX11 37).2.2.1 ∈ lw_gd := m_in4 (List.mem_of_getElem? (i := 153) rfl) rfl -- FallClocksModel.brought
theorem fl0_X11_100 : Cond.fieldLink RX11 100 (TX11 38).1 (TX11 38).2.1 (TX11 38).2.2.1 ∈ lw_gd := m_in4 (List.mem_of_getElem? (i := 154) rfl) rfl -- FallClocksModel.picked
theorem cl_X11_117 : Cond.constantLong RX11 117 (4) ∈ lw_gd := m_in4 (List.mem_of_getElem? (i := 238) rfl) rfl
theorem cl_X11_119 : Cond.constantLong RX11 119 (2) ∈ lw_gd := m_in5 (List.mem_of_getElem? (i := 2) rfl) rfl
theorem cl_X11_121 : Cond.constantLong RX11 121 (200) ∈ lw_gd := m_in5 (List.mem_of_getElem? (i := 3) rfl) rfl
theorem cl_X11_127 : Cond.constantLong RX11 127 (1000) ∈ lw_gd := m_in5 (List.mem_of_getElem? (i := 16) rfl) rfl
theorem cl_X11_129 : Cond.constantLong RX11 129 (99) ∈ lw_gd := m_in5 (List.mem_of_getElem? (i := 17) rfl) rfl
theorem cl_X11_131 : Cond.constantLong RX11 131 (33) ∈ lw_gd := m_in5 (List.mem_of_getElem? (i := 22) rfl) rfl
theorem cl_X11_133 : Cond.constantLong RX11 133 (126) ∈ lw_gd := m_in5 (List.mem_of_getElem? (i := 23) rfl) rfl
theorem cl_X11_138 : Cond.constantLong RX11 138 (49) ∈ lw_gd := m_in5 (List.mem_of_getElem? (i := 35) rfl) rfl
theorem cl_X11_140 : Cond.constantLong RX11 140 (57) ∈ lw_gd := m_in5 (List.mem_of_getElem? (i := 36) rfl) rfl
theorem cl_X11_142 : Cond.constantLong RX11 142 (97) ∈ lw_gd := m_in5 (List.mem_of_getElem? (i := 37) rfl) rfl
theorem cl_X11_144 : Cond.constantLong RX11 144 (101) ∈ lw_gd := m_in5 (List.mem_of_getElem? (i := 38) rfl) rfl
theorem cl_X11_146 : Cond.constantLong RX11 146 (48) ∈ lw_gd := m_in5 (List.mem_of_getElem? (i := 39) rfl) rfl
theorem cl_X11_156 : Cond.constantLong RX11 156 (5) ∈ lw_gd := m_in5 (List.mem_of_getElem? (i := 49) rfl) rfl
theorem cl_X11_189 : Cond.constantLong RX11 189 (3) ∈ lw_gd := m_in5 (List.mem_of_getElem? (i := 118) rfl) rfl
theorem cl_X11_219 : Cond.constantLong RX11 219 (10) ∈ lw_gd := m_in5 (List.mem_of_getElem? (i := 167) rfl) rfl
theorem cl_X11_221 : Cond.constantLong RX11 221 (17) ∈ lw_gd := m_in5 (List.mem_of_getElem? (i := 168) rfl) rfl
theorem cl_X11_244 : Cond.constantLong RX11 244 (15) ∈ lw_gd := m_in5 (List.mem_of_getElem? (i := 177) rfl) rfl
theorem cl_X11_246 : Cond.constantLong RX11 246 (20) ∈ lw_gd := m_in5 (List.mem_of_getElem? (i := 178) rfl) rfl
theorem cl_X11_248 : Cond.constantLong RX11 248 (25) ∈ lw_gd := m_in5 (List.mem_of_getElem? (i := 179) rfl) rfl
theorem ct_X11_233 : Cond.constant RX11 233 (1000000000) ∈ lw_gd := m_in5 (List.mem_of_getElem? (i := 184) rfl) rfl
theorem ct_X11_253 : Cond.constant RX11 253 (-1000000001) ∈ lw_gd := m_in5 (List.mem_of_getElem? (i := 201) rfl) rfl
theorem ct_X11_257 : Cond.constant RX11 257 (-1000000002) ∈ lw_gd := m_in5 (List.mem_of_getElem? (i := 210) rfl) rfl
theorem ct_X11_258 : Cond.constant RX11 258 (-1000000000) ∈ lw_gd := m_in5 (List.mem_of_getElem? (i := 211) rfl) rfl
theorem cl_X11_274 : Cond.constantLong RX11 274 (79) ∈ lw_gd := m_in5 (List.mem_of_getElem? (i := 239) rfl) rfl
theorem inF_X0 : ∀ w ∈ u_ws RX0 TX0 5, w ∈ lw_gd := by
  intro w hw
  obtain ⟨k, hk, rfl⟩ := List.mem_map.mp hw
  have hk2 := List.mem_range.mp hk
  match k, hk2 with
  | 0, _ => exact m_in2 (List.mem_of_getElem? (i := 108) rfl) rfl
  | 1, _ => exact m_in2 (List.mem_of_getElem? (i := 110) rfl) rfl
  | 2, _ => exact m_in2 (List.mem_of_getElem? (i := 112) rfl) rfl
  | 3, _ => exact m_in2 (List.mem_of_getElem? (i := 114) rfl) rfl
  | 4, _ => exact m_in2 (List.mem_of_getElem? (i := 116) rfl) rfl
  | k + 5, h => exact absurd h (by omega)
theorem inF_X1 : ∀ w ∈ u_ws RX1 TX1 8, w ∈ lw_gd := by
  intro w hw
  obtain ⟨k, hk, rfl⟩ := List.mem_map.mp hw
  have hk2 := List.mem_range.mp hk
  match k, hk2 with
  | 0, _ => exact m_in1 (List.mem_of_getElem? (i := 62) rfl) rfl
  | 1, _ => exact m_in1 (List.mem_of_getElem? (i := 64) rfl) rfl
  | 2, _ => exact m_in1 (List.mem_of_getElem? (i := 66) rfl) rfl
  | 3, _ => exact m_in1 (List.mem_of_getElem? (i := 68) rfl) rfl
  | 4, _ => exact m_in1 (List.mem_of_getElem? (i := 70) rfl) rfl
  | 5, _ => exact m_in1 (List.mem_of_getElem? (i := 72) rfl) rfl
  | 6, _ => exact m_in1 (List.mem_of_getElem? (i := 74) rfl) rfl
  | 7, _ => exact m_in1 (List.mem_of_getElem? (i := 76) rfl) rfl
  | k + 8, h => exact absurd h (by omega)
theorem inF_X2 : ∀ w ∈ u_ws RX2 TX2 8, w ∈ lw_gd := by
  intro w hw
  obtain ⟨k, hk, rfl⟩ := List.mem_map.mp hw
  have hk2 := List.mem_range.mp hk
  match k, hk2 with
  | 0, _ => exact m_in2 (List.mem_of_getElem? (i := 78) rfl) rfl
  | 1, _ => exact m_in2 (List.mem_of_getElem? (i := 80) rfl) rfl
  | 2, _ => exact m_in2 (List.mem_of_getElem? (i := 82) rfl) rfl
  | 3, _ => exact m_in2 (List.mem_of_getElem? (i := 84) rfl) rfl
  | 4, _ => exact m_in2 (List.mem_of_getElem? (i := 86) rfl) rfl
  | 5, _ => exact m_in2 (List.mem_of_getElem? (i := 88) rfl) rfl
  | 6, _ => exact m_in2 (List.mem_of_getElem? (i := 90) rfl) rfl
  | 7, _ => exact m_in2 (List.mem_of_getElem? (i := 92) rfl) rfl
  | k + 8, h => exact absurd h (by omega)
theorem inF_X4 : ∀ w ∈ u_ws RX4 TX4 17, w ∈ lw_gd := by
  intro w hw
  obtain ⟨k, hk, rfl⟩ := List.mem_map.mp hw
  have hk2 := List.mem_range.mp hk
  match k, hk2 with
  | 0, _ => exact m_in1 (List.mem_of_getElem? (i := 203) rfl) rfl
  | 1, _ => exact m_in1 (List.mem_of_getElem? (i := 205) rfl) rfl
  | 2, _ => exact m_in1 (List.mem_of_getElem? (i := 207) rfl) rfl
  | 3, _ => exact m_in1 (List.mem_of_getElem? (i := 209) rfl) rfl
  | 4, _ => exact m_in1 (List.mem_of_getElem? (i := 211) rfl) rfl
  | 5, _ => exact m_in1 (List.mem_of_getElem? (i := 213) rfl) rfl
  | 6, _ => exact m_in1 (List.mem_of_getElem? (i := 215) rfl) rfl
  | 7, _ => exact m_in1 (List.mem_of_getElem? (i := 217) rfl) rfl
  | 8, _ => exact m_in1 (List.mem_of_getElem? (i := 219) rfl) rfl
  | 9, _ => exact m_in1 (List.mem_of_getElem? (i := 221) rfl) rfl
  | 10, _ => exact m_in1 (List.mem_of_getElem? (i := 223) rfl) rfl
  | 11, _ => exact m_in1 (List.mem_of_getElem? (i := 225) rfl) rfl
  | 12, _ => exact m_in1 (List.mem_of_getElem? (i := 227) rfl) rfl
  | 13, _ => exact m_in1 (List.mem_of_getElem? (i := 229) rfl) rfl
  | 14, _ => exact m_in1 (List.mem_of_getElem? (i := 231) rfl) rfl
  | 15, _ => exact m_in1 (List.mem_of_getElem? (i := 233) rfl) rfl
  | 16, _ => exact m_in1 (List.mem_of_getElem? (i := 235) rfl) rfl
  | k + 17, h => exact absurd h (by omega)
theorem inF_X5 : ∀ w ∈ u_ws RX5 TX5 6, w ∈ lw_gd := by
  intro w hw
  obtain ⟨k, hk, rfl⟩ := List.mem_map.mp hw
  have hk2 := List.mem_range.mp hk
  match k, hk2 with
  | 0, _ => exact m_in2 (List.mem_of_getElem? (i := 12) rfl) rfl
  | 1, _ => exact m_in2 (List.mem_of_getElem? (i := 14) rfl) rfl
  | 2, _ => exact m_in2 (List.mem_of_getElem? (i := 16) rfl) rfl
  | 3, _ => exact m_in2 (List.mem_of_getElem? (i := 18) rfl) rfl
  | 4, _ => exact m_in2 (List.mem_of_getElem? (i := 20) rfl) rfl
  | 5, _ => exact m_in2 (List.mem_of_getElem? (i := 22) rfl) rfl
  | k + 6, h => exact absurd h (by omega)
theorem inF_X6 : ∀ w ∈ u_ws RX6 TX6 9, w ∈ lw_gd := by
  intro w hw
  obtain ⟨k, hk, rfl⟩ := List.mem_map.mp hw
  have hk2 := List.mem_range.mp hk
  match k, hk2 with
  | 0, _ => exact m_in1 (List.mem_of_getElem? (i := 113) rfl) rfl
  | 1, _ => exact m_in1 (List.mem_of_getElem? (i := 115) rfl) rfl
  | 2, _ => exact m_in1 (List.mem_of_getElem? (i := 117) rfl) rfl
  | 3, _ => exact m_in1 (List.mem_of_getElem? (i := 119) rfl) rfl
  | 4, _ => exact m_in1 (List.mem_of_getElem? (i := 121) rfl) rfl
  | 5, _ => exact m_in1 (List.mem_of_getElem? (i := 123) rfl) rfl
  | 6, _ => exact m_in1 (List.mem_of_getElem? (i := 125) rfl) rfl
  | 7, _ => exact m_in1 (List.mem_of_getElem? (i := 127) rfl) rfl
  | 8, _ => exact m_in1 (List.mem_of_getElem? (i := 129) rfl) rfl
  | k + 9, h => exact absurd h (by omega)
theorem inF_X7 : ∀ w ∈ u_ws RX7 TX7 6, w ∈ lw_gd := by
  intro w hw
  obtain ⟨k, hk, rfl⟩ := List.mem_map.mp hw
  have hk2 := List.mem_range.mp hk
  match k, hk2 with
  | 0, _ => exact m_in2 (List.mem_of_getElem? (i := 136) rfl) rfl
  | 1, _ => exact m_in2 (List.mem_of_getElem? (i := 138) rfl) rfl
  | 2, _ => exact m_in2 (List.mem_of_getElem? (i := 140) rfl) rfl
  | 3, _ => exact m_in2 (List.mem_of_getElem? (i := 142) rfl) rfl
  | 4, _ => exact m_in2 (List.mem_of_getElem? (i := 144) rfl) rfl
  | 5, _ => exact m_in2 (List.mem_of_getElem? (i := 146) rfl) rfl
  | k + 6, h => exact absurd h (by omega)
theorem inF_X8 : ∀ w ∈ u_ws RX8 TX8 7, w ∈ lw_gd := by
  intro w hw
  obtain ⟨k, hk, rfl⟩ := List.mem_map.mp hw
  have hk2 := List.mem_range.mp hk
  match k, hk2 with
  | 0, _ => exact m_in2 (List.mem_of_getElem? (i := 44) rfl) rfl
  | 1, _ => exact m_in2 (List.mem_of_getElem? (i := 46) rfl) rfl
  | 2, _ => exact m_in2 (List.mem_of_getElem? (i := 48) rfl) rfl
  | 3, _ => exact m_in2 (List.mem_of_getElem? (i := 50) rfl) rfl
  | 4, _ => exact m_in2 (List.mem_of_getElem? (i := 52) rfl) rfl
  | 5, _ => exact m_in2 (List.mem_of_getElem? (i := 54) rfl) rfl
  | 6, _ => exact m_in2 (List.mem_of_getElem? (i := 56) rfl) rfl
  | k + 7, h => exact absurd h (by omega)
theorem inF_X9 : ∀ w ∈ u_ws RX9 TX9 9, w ∈ lw_gd := by
  intro w hw
  obtain ⟨k, hk, rfl⟩ := List.mem_map.mp hw
  have hk2 := List.mem_range.mp hk
  match k, hk2 with
  | 0, _ => exact m_in1 (List.mem_of_getElem? (i := 152) rfl) rfl
  | 1, _ => exact m_in1 (List.mem_of_getElem? (i := 154) rfl) rfl
  | 2, _ => exact m_in1 (List.mem_of_getElem? (i := 156) rfl) rfl
  | 3, _ => exact m_in1 (List.mem_of_getElem? (i := 158) rfl) rfl
  | 4, _ => exact m_in1 (List.mem_of_getElem? (i := 160) rfl) rfl
  | 5, _ => exact m_in1 (List.mem_of_getElem? (i := 162) rfl) rfl
  | 6, _ => exact m_in1 (List.mem_of_getElem? (i := 164) rfl) rfl
  | 7, _ => exact m_in1 (List.mem_of_getElem? (i := 166) rfl) rfl
  | 8, _ => exact m_in1 (List.mem_of_getElem? (i := 168) rfl) rfl
  | k + 9, h => exact absurd h (by omega)
theorem inF_X10 : ∀ w ∈ u_ws RX10 TX10 9, w ∈ lw_gd := by
  intro w hw
  obtain ⟨k, hk, rfl⟩ := List.mem_map.mp hw
  have hk2 := List.mem_range.mp hk
  match k, hk2 with
  | 0, _ => exact m_in2 (List.mem_of_getElem? (i := 158) rfl) rfl
  | 1, _ => exact m_in2 (List.mem_of_getElem? (i := 160) rfl) rfl
  | 2, _ => exact m_in2 (List.mem_of_getElem? (i := 162) rfl) rfl
  | 3, _ => exact m_in2 (List.mem_of_getElem? (i := 164) rfl) rfl
  | 4, _ => exact m_in2 (List.mem_of_getElem? (i := 166) rfl) rfl
  | 5, _ => exact m_in2 (List.mem_of_getElem? (i := 168) rfl) rfl
  | 6, _ => exact m_in2 (List.mem_of_getElem? (i := 170) rfl) rfl
  | 7, _ => exact m_in2 (List.mem_of_getElem? (i := 172) rfl) rfl
  | 8, _ => exact m_in2 (List.mem_of_getElem? (i := 174) rfl) rfl
  | k + 9, h => exact absurd h (by omega)
theorem inF_X11 : ∀ w ∈ u_ws RX11 TX11 39, w ∈ lw_gd := by
  intro w hw
  obtain ⟨k, hk, rfl⟩ := List.mem_map.mp hw
  have hk2 := List.mem_range.mp hk
  match k, hk2 with
  | 0, _ => exact m_in4 (List.mem_of_getElem? (i := 155) rfl) rfl
  | 1, _ => exact m_in4 (List.mem_of_getElem? (i := 157) rfl) rfl
  | 2, _ => exact m_in4 (List.mem_of_getElem? (i := 159) rfl) rfl
  | 3, _ => exact m_in4 (List.mem_of_getElem? (i := 161) rfl) rfl
  | 4, _ => exact m_in4 (List.mem_of_getElem? (i := 163) rfl) rfl
  | 5, _ => exact m_in4 (List.mem_of_getElem? (i := 165) rfl) rfl
  | 6, _ => exact m_in4 (List.mem_of_getElem? (i := 167) rfl) rfl
  | 7, _ => exact m_in4 (List.mem_of_getElem? (i := 169) rfl) rfl
  | 8, _ => exact m_in4 (List.mem_of_getElem? (i := 171) rfl) rfl
  | 9, _ => exact m_in4 (List.mem_of_getElem? (i := 173) rfl) rfl
  | 10, _ => exact m_in4 (List.mem_of_getElem? (i := 175) rfl) rfl
  | 11, _ => exact m_in4 (List.mem_of_getElem? (i := 177) rfl) rfl
  | 12, _ => exact m_in4 (List.mem_of_getElem? (i := 179) rfl) rfl
  | 13, _ => exact m_in4 (List.mem_of_getElem? (i := 181) rfl) rfl
  | 14, _ => exact m_in4 (List.mem_of_getElem? (i := 183) rfl) rfl
  | 15, _ => exact m_in4 (List.mem_of_getElem? (i := 185) rfl) rfl
  | 16, _ => exact m_in4 (List.mem_of_getElem? (i := 187) rfl) rfl
  | 17, _ => exact m_in4 (List.mem_of_getElem? (i := 189) rfl) rfl
  | 18, _ => exact m_in4 (List.mem_of_getElem? (i := 191) rfl) rfl
  | 19, _ => exact m_in4 (List.mem_of_getElem? (i := 193) rfl) rfl
  | 20, _ => exact m_in4 (List.mem_of_getElem? (i := 195) rfl) rfl
  | 21, _ => exact m_in4 (List.mem_of_getElem? (i := 197) rfl) rfl
  | 22, _ => exact m_in4 (List.mem_of_getElem? (i := 199) rfl) rfl
  | 23, _ => exact m_in4 (List.mem_of_getElem? (i := 201) rfl) rfl
  | 24, _ => exact m_in4 (List.mem_of_getElem? (i := 203) rfl) rfl
  | 25, _ => exact m_in4 (List.mem_of_getElem? (i := 205) rfl) rfl
  | 26, _ => exact m_in4 (List.mem_of_getElem? (i := 207) rfl) rfl
  | 27, _ => exact m_in4 (List.mem_of_getElem? (i := 209) rfl) rfl
  | 28, _ => exact m_in4 (List.mem_of_getElem? (i := 211) rfl) rfl
  | 29, _ => exact m_in4 (List.mem_of_getElem? (i := 213) rfl) rfl
  | 30, _ => exact m_in4 (List.mem_of_getElem? (i := 215) rfl) rfl
  | 31, _ => exact m_in4 (List.mem_of_getElem? (i := 217) rfl) rfl
  | 32, _ => exact m_in4 (List.mem_of_getElem? (i := 219) rfl) rfl
  | 33, _ => exact m_in4 (List.mem_of_getElem? (i := 221) rfl) rfl
  | 34, _ => exact m_in4 (List.mem_of_getElem? (i := 223) rfl) rfl
  | 35, _ => exact m_in4 (List.mem_of_getElem? (i := 225) rfl) rfl
  | 36, _ => exact m_in4 (List.mem_of_getElem? (i := 227) rfl) rfl
  | 37, _ => exact m_in4 (List.mem_of_getElem? (i := 229) rfl) rfl
  | 38, _ => exact m_in4 (List.mem_of_getElem? (i := 231) rfl) rfl
  | k + 39, h => exact absurd h (by omega)

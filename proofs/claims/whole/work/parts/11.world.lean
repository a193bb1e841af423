/-! ===== the fixed world: what the two constructors make, in the order of its making ===== -/
def KS : List (Nat × Nat) := [(0, 11), (0, 10), (5, 4), (2, 60), (2, 60), (2, 60), (2, 60), (1, 4), (1, 4), (0, 9), (3, 900), (2, 23), (0, 1), (2, 24), (1, 12), (1, 16), (1, 16), (1, 6), (1, 72), (1, 12), (0, 7), (1, 60), (1, 60), (1, 60), (1, 60), (1, 60), (0, 1), (2, 24), (1, 12), (1, 16), (1, 16), (1, 6), (1, 72), (1, 12), (0, 7), (1, 60), (1, 60), (1, 60), (1, 60), (1, 60), (0, 2), (0, 8), (1, 3), (4, 3), (0, 1), (2, 24), (1, 12), (1, 16), (1, 16), (1, 6), (1, 72), (1, 12), (0, 7), (1, 60), (1, 60), (1, 60), (1, 60), (1, 60), (0, 1), (2, 24), (1, 12), (1, 16), (1, 16), (1, 6), (1, 72), (1, 12), (0, 7), (1, 60), (1, 60), (1, 60), (1, 60), (1, 60), (0, 1), (2, 24), (1, 12), (1, 16), (1, 16), (1, 6), (1, 72), (1, 12), (0, 7), (1, 60), (1, 60), (1, 60), (1, 60), (1, 60), (1, 4096), (0, 6), (1, 4096), (0, 0), (1, 4096), (1, 12), (0, 5), (1, 6), (0, 4), (1, 12), (0, 3), (1, 5), (1, 60), (1, 5), (0, 12), (1, 4), (1, 4), (2, 240), (3, 900), (1, 2105), (1, 142), (2, 120), (1, 12), (1, 12), (1, 12), (1, 6), (1, 6), (1, 12), (1, 4096), (2, 4096), (1, 4096), (1, 5)]
def CSTL : List (Nat × Nat × Nat) := [(1, 0, 2), (1, 1, 10), (1, 2, 41), (1, 3, 42), (1, 4, 88), (1, 5, 90), (1, 6, 93), (1, 7, 95), (1, 8, 97), (1, 9, 44), (1, 10, 100), (2, 0, 3), (2, 1, 8), (2, 2, 9), (3, 0, 4), (3, 1, 5), (3, 2, 6), (3, 3, 7), (10, 0, 11), (10, 1, 12), (13, 0, 14), (13, 1, 15), (13, 2, 16), (13, 3, 17), (13, 4, 18), (13, 5, 19), (13, 6, 20), (13, 7, 21), (21, 0, 22), (21, 1, 23), (21, 2, 24), (21, 3, 25), (21, 4, 26), (27, 0, 28), (27, 1, 29), (27, 2, 30), (27, 3, 31), (27, 4, 32), (27, 5, 33), (27, 6, 34), (27, 7, 35), (35, 0, 36), (35, 1, 37), (35, 2, 38), (35, 3, 39), (35, 4, 40), (41, 0, 10), (42, 0, 10), (42, 1, 43), (44, 0, 45), (44, 1, 59), (44, 2, 73), (45, 0, 46), (45, 1, 47), (45, 2, 48), (45, 3, 49), (45, 4, 50), (45, 5, 51), (45, 6, 52), (45, 7, 53), (53, 0, 54), (53, 1, 55), (53, 2, 56), (53, 3, 57), (53, 4, 58), (59, 0, 60), (59, 1, 61), (59, 2, 62), (59, 3, 63), (59, 4, 64), (59, 5, 65), (59, 6, 66), (59, 7, 67), (67, 0, 68), (67, 1, 69), (67, 2, 70), (67, 3, 71), (67, 4, 72), (73, 0, 74), (73, 1, 75), (73, 2, 76), (73, 3, 77), (73, 4, 78), (73, 5, 79), (73, 6, 80), (73, 7, 81), (81, 0, 82), (81, 1, 83), (81, 2, 84), (81, 3, 85), (81, 4, 86), (88, 0, 89), (90, 0, 88), (90, 1, 91), (90, 2, 92), (93, 0, 88), (93, 1, 90), (93, 2, 87), (93, 3, 94), (95, 0, 88), (95, 1, 87), (95, 2, 96), (97, 0, 88), (97, 1, 90), (97, 2, 98), (97, 3, 99), (101, 4, 102), (101, 5, 103), (101, 6, 104), (101, 7, 105), (101, 20, 106), (101, 21, 107), (101, 22, 108), (101, 26, 109), (101, 27, 110), (101, 28, 111), (101, 29, 112), (101, 30, 113), (101, 34, 114), (101, 35, 115), (101, 36, 116), (101, 37, 117), (101, 38, 118)]
def CST (a k : Nat) : Option Nat := (CSTL.find? (fun t => t.1 == a && t.2.1 == k)).map (fun t => t.2.2)
def WT (_ : Nat → Nat → Nat) : Prop := True
def isO (a ci : Nat) : Prop := ∃ i, i + 1 = a ∧ KS[i]? = some (0, ci)
def isA (a kd n : Nat) : Prop := ∃ i, i + 1 = a ∧ KS[i]? = some (kd, n)
def isCity (a : Nat) : Prop := a = 13 ∨ a = 27 ∨ a = 45 ∨ a = 59 ∨ a = 73
def isStory (a : Nat) : Prop := a = 21 ∨ a = 35 ∨ a = 53 ∨ a = 67 ∨ a = 81
theorem o1 : isO 1 11 := ⟨0, rfl, rfl⟩
theorem o2 : isO 2 10 := ⟨1, rfl, rfl⟩
theorem a3 : isA 3 5 4 := ⟨2, rfl, rfl⟩
theorem a4 : isA 4 2 60 := ⟨3, rfl, rfl⟩
theorem a5 : isA 5 2 60 := ⟨4, rfl, rfl⟩
theorem a6 : isA 6 2 60 := ⟨5, rfl, rfl⟩
theorem a7 : isA 7 2 60 := ⟨6, rfl, rfl⟩
theorem a8 : isA 8 1 4 := ⟨7, rfl, rfl⟩
theorem a9 : isA 9 1 4 := ⟨8, rfl, rfl⟩
theorem o10 : isO 10 9 := ⟨9, rfl, rfl⟩
theorem a11 : isA 11 3 900 := ⟨10, rfl, rfl⟩
theorem a12 : isA 12 2 23 := ⟨11, rfl, rfl⟩
theorem o13 : isO 13 1 := ⟨12, rfl, rfl⟩
theorem a14 : isA 14 2 24 := ⟨13, rfl, rfl⟩
theorem a15 : isA 15 1 12 := ⟨14, rfl, rfl⟩
theorem a16 : isA 16 1 16 := ⟨15, rfl, rfl⟩
theorem a17 : isA 17 1 16 := ⟨16, rfl, rfl⟩
theorem a18 : isA 18 1 6 := ⟨17, rfl, rfl⟩
theorem a19 : isA 19 1 72 := ⟨18, rfl, rfl⟩
theorem a20 : isA 20 1 12 := ⟨19, rfl, rfl⟩
theorem o21 : isO 21 7 := ⟨20, rfl, rfl⟩
theorem a22 : isA 22 1 60 := ⟨21, rfl, rfl⟩
theorem a23 : isA 23 1 60 := ⟨22, rfl, rfl⟩
theorem a24 : isA 24 1 60 := ⟨23, rfl, rfl⟩
theorem a25 : isA 25 1 60 := ⟨24, rfl, rfl⟩
theorem a26 : isA 26 1 60 := ⟨25, rfl, rfl⟩
theorem o27 : isO 27 1 := ⟨26, rfl, rfl⟩
theorem a28 : isA 28 2 24 := ⟨27, rfl, rfl⟩
theorem a29 : isA 29 1 12 := ⟨28, rfl, rfl⟩
theorem a30 : isA 30 1 16 := ⟨29, rfl, rfl⟩
theorem a31 : isA 31 1 16 := ⟨30, rfl, rfl⟩
theorem a32 : isA 32 1 6 := ⟨31, rfl, rfl⟩
theorem a33 : isA 33 1 72 := ⟨32, rfl, rfl⟩
theorem a34 : isA 34 1 12 := ⟨33, rfl, rfl⟩
theorem o35 : isO 35 7 := ⟨34, rfl, rfl⟩
theorem a36 : isA 36 1 60 := ⟨35, rfl, rfl⟩
theorem a37 : isA 37 1 60 := ⟨36, rfl, rfl⟩
theorem a38 : isA 38 1 60 := ⟨37, rfl, rfl⟩
theorem a39 : isA 39 1 60 := ⟨38, rfl, rfl⟩
theorem a40 : isA 40 1 60 := ⟨39, rfl, rfl⟩
theorem o41 : isO 41 2 := ⟨40, rfl, rfl⟩
theorem o42 : isO 42 8 := ⟨41, rfl, rfl⟩
theorem a43 : isA 43 1 3 := ⟨42, rfl, rfl⟩
theorem a44 : isA 44 4 3 := ⟨43, rfl, rfl⟩
theorem o45 : isO 45 1 := ⟨44, rfl, rfl⟩
theorem a46 : isA 46 2 24 := ⟨45, rfl, rfl⟩
theorem a47 : isA 47 1 12 := ⟨46, rfl, rfl⟩
theorem a48 : isA 48 1 16 := ⟨47, rfl, rfl⟩
theorem a49 : isA 49 1 16 := ⟨48, rfl, rfl⟩
theorem a50 : isA 50 1 6 := ⟨49, rfl, rfl⟩
theorem a51 : isA 51 1 72 := ⟨50, rfl, rfl⟩
theorem a52 : isA 52 1 12 := ⟨51, rfl, rfl⟩
theorem o53 : isO 53 7 := ⟨52, rfl, rfl⟩
theorem a54 : isA 54 1 60 := ⟨53, rfl, rfl⟩
theorem a55 : isA 55 1 60 := ⟨54, rfl, rfl⟩
theorem a56 : isA 56 1 60 := ⟨55, rfl, rfl⟩
theorem a57 : isA 57 1 60 := ⟨56, rfl, rfl⟩
theorem a58 : isA 58 1 60 := ⟨57, rfl, rfl⟩
theorem o59 : isO 59 1 := ⟨58, rfl, rfl⟩
theorem a60 : isA 60 2 24 := ⟨59, rfl, rfl⟩
theorem a61 : isA 61 1 12 := ⟨60, rfl, rfl⟩
theorem a62 : isA 62 1 16 := ⟨61, rfl, rfl⟩
theorem a63 : isA 63 1 16 := ⟨62, rfl, rfl⟩
theorem a64 : isA 64 1 6 := ⟨63, rfl, rfl⟩
theorem a65 : isA 65 1 72 := ⟨64, rfl, rfl⟩
theorem a66 : isA 66 1 12 := ⟨65, rfl, rfl⟩
theorem o67 : isO 67 7 := ⟨66, rfl, rfl⟩
theorem a68 : isA 68 1 60 := ⟨67, rfl, rfl⟩
theorem a69 : isA 69 1 60 := ⟨68, rfl, rfl⟩
theorem a70 : isA 70 1 60 := ⟨69, rfl, rfl⟩
theorem a71 : isA 71 1 60 := ⟨70, rfl, rfl⟩
theorem a72 : isA 72 1 60 := ⟨71, rfl, rfl⟩
theorem o73 : isO 73 1 := ⟨72, rfl, rfl⟩
theorem a74 : isA 74 2 24 := ⟨73, rfl, rfl⟩
theorem a75 : isA 75 1 12 := ⟨74, rfl, rfl⟩
theorem a76 : isA 76 1 16 := ⟨75, rfl, rfl⟩
theorem a77 : isA 77 1 16 := ⟨76, rfl, rfl⟩
theorem a78 : isA 78 1 6 := ⟨77, rfl, rfl⟩
theorem a79 : isA 79 1 72 := ⟨78, rfl, rfl⟩
theorem a80 : isA 80 1 12 := ⟨79, rfl, rfl⟩
theorem o81 : isO 81 7 := ⟨80, rfl, rfl⟩
theorem a82 : isA 82 1 60 := ⟨81, rfl, rfl⟩
theorem a83 : isA 83 1 60 := ⟨82, rfl, rfl⟩
theorem a84 : isA 84 1 60 := ⟨83, rfl, rfl⟩
theorem a85 : isA 85 1 60 := ⟨84, rfl, rfl⟩
theorem a86 : isA 86 1 60 := ⟨85, rfl, rfl⟩
theorem a87 : isA 87 1 4096 := ⟨86, rfl, rfl⟩
theorem o88 : isO 88 6 := ⟨87, rfl, rfl⟩
theorem a89 : isA 89 1 4096 := ⟨88, rfl, rfl⟩
theorem o90 : isO 90 0 := ⟨89, rfl, rfl⟩
theorem a91 : isA 91 1 4096 := ⟨90, rfl, rfl⟩
theorem a92 : isA 92 1 12 := ⟨91, rfl, rfl⟩
theorem o93 : isO 93 5 := ⟨92, rfl, rfl⟩
theorem a94 : isA 94 1 6 := ⟨93, rfl, rfl⟩
theorem o95 : isO 95 4 := ⟨94, rfl, rfl⟩
theorem a96 : isA 96 1 12 := ⟨95, rfl, rfl⟩
theorem o97 : isO 97 3 := ⟨96, rfl, rfl⟩
theorem a98 : isA 98 1 5 := ⟨97, rfl, rfl⟩
theorem a99 : isA 99 1 60 := ⟨98, rfl, rfl⟩
theorem a100 : isA 100 1 5 := ⟨99, rfl, rfl⟩
theorem o101 : isO 101 12 := ⟨100, rfl, rfl⟩
theorem a102 : isA 102 1 4 := ⟨101, rfl, rfl⟩
theorem a103 : isA 103 1 4 := ⟨102, rfl, rfl⟩
theorem a104 : isA 104 2 240 := ⟨103, rfl, rfl⟩
theorem a105 : isA 105 3 900 := ⟨104, rfl, rfl⟩
theorem a106 : isA 106 1 2105 := ⟨105, rfl, rfl⟩
theorem a107 : isA 107 1 142 := ⟨106, rfl, rfl⟩
theorem a108 : isA 108 2 120 := ⟨107, rfl, rfl⟩
theorem a109 : isA 109 1 12 := ⟨108, rfl, rfl⟩
theorem a110 : isA 110 1 12 := ⟨109, rfl, rfl⟩
theorem a111 : isA 111 1 12 := ⟨110, rfl, rfl⟩
theorem a112 : isA 112 1 6 := ⟨111, rfl, rfl⟩
theorem a113 : isA 113 1 6 := ⟨112, rfl, rfl⟩
theorem a114 : isA 114 1 12 := ⟨113, rfl, rfl⟩
theorem a115 : isA 115 1 4096 := ⟨114, rfl, rfl⟩
theorem a116 : isA 116 2 4096 := ⟨115, rfl, rfl⟩
theorem a117 : isA 117 1 4096 := ⟨116, rfl, rfl⟩
theorem a118 : isA 118 1 5 := ⟨117, rfl, rfl⟩
theorem cs1_0 : CST 1 0 = some 2 := by decide +kernel
theorem cs1_1 : CST 1 1 = some 10 := by decide +kernel
theorem cs1_2 : CST 1 2 = some 41 := by decide +kernel
theorem cs1_3 : CST 1 3 = some 42 := by decide +kernel
theorem cs1_4 : CST 1 4 = some 88 := by decide +kernel
theorem cs1_5 : CST 1 5 = some 90 := by decide +kernel
theorem cs1_6 : CST 1 6 = some 93 := by decide +kernel
theorem cs1_7 : CST 1 7 = some 95 := by decide +kernel
theorem cs1_8 : CST 1 8 = some 97 := by decide +kernel
theorem cs1_9 : CST 1 9 = some 44 := by decide +kernel
theorem cs1_10 : CST 1 10 = some 100 := by decide +kernel
theorem cs2_0 : CST 2 0 = some 3 := by decide +kernel
theorem cs2_1 : CST 2 1 = some 8 := by decide +kernel
theorem cs2_2 : CST 2 2 = some 9 := by decide +kernel
theorem cs3_0 : CST 3 0 = some 4 := by decide +kernel
theorem cs3_1 : CST 3 1 = some 5 := by decide +kernel
theorem cs3_2 : CST 3 2 = some 6 := by decide +kernel
theorem cs3_3 : CST 3 3 = some 7 := by decide +kernel
theorem cs10_0 : CST 10 0 = some 11 := by decide +kernel
theorem cs10_1 : CST 10 1 = some 12 := by decide +kernel
theorem cs41_0 : CST 41 0 = some 10 := by decide +kernel
theorem cs42_0 : CST 42 0 = some 10 := by decide +kernel
theorem cs42_1 : CST 42 1 = some 43 := by decide +kernel
theorem cs44_0 : CST 44 0 = some 45 := by decide +kernel
theorem cs44_1 : CST 44 1 = some 59 := by decide +kernel
theorem cs44_2 : CST 44 2 = some 73 := by decide +kernel
theorem cs88_0 : CST 88 0 = some 89 := by decide +kernel
theorem cs90_0 : CST 90 0 = some 88 := by decide +kernel
theorem cs90_1 : CST 90 1 = some 91 := by decide +kernel
theorem cs90_2 : CST 90 2 = some 92 := by decide +kernel
theorem cs93_0 : CST 93 0 = some 88 := by decide +kernel
theorem cs93_1 : CST 93 1 = some 90 := by decide +kernel
theorem cs93_2 : CST 93 2 = some 87 := by decide +kernel
theorem cs93_3 : CST 93 3 = some 94 := by decide +kernel
theorem cs95_0 : CST 95 0 = some 88 := by decide +kernel
theorem cs95_1 : CST 95 1 = some 87 := by decide +kernel
theorem cs95_2 : CST 95 2 = some 96 := by decide +kernel
theorem cs97_0 : CST 97 0 = some 88 := by decide +kernel
theorem cs97_1 : CST 97 1 = some 90 := by decide +kernel
theorem cs97_2 : CST 97 2 = some 98 := by decide +kernel
theorem cs97_3 : CST 97 3 = some 99 := by decide +kernel
theorem cs101_4 : CST 101 4 = some 102 := by decide +kernel
theorem cs101_5 : CST 101 5 = some 103 := by decide +kernel
theorem cs101_6 : CST 101 6 = some 104 := by decide +kernel
theorem cs101_7 : CST 101 7 = some 105 := by decide +kernel
theorem cs101_20 : CST 101 20 = some 106 := by decide +kernel
theorem cs101_21 : CST 101 21 = some 107 := by decide +kernel
theorem cs101_22 : CST 101 22 = some 108 := by decide +kernel
theorem cs101_26 : CST 101 26 = some 109 := by decide +kernel
theorem cs101_27 : CST 101 27 = some 110 := by decide +kernel
theorem cs101_28 : CST 101 28 = some 111 := by decide +kernel
theorem cs101_29 : CST 101 29 = some 112 := by decide +kernel
theorem cs101_30 : CST 101 30 = some 113 := by decide +kernel
theorem cs101_34 : CST 101 34 = some 114 := by decide +kernel
theorem cs101_35 : CST 101 35 = some 115 := by decide +kernel
theorem cs101_36 : CST 101 36 = some 116 := by decide +kernel
theorem cs101_37 : CST 101 37 = some 117 := by decide +kernel
theorem cs101_38 : CST 101 38 = some 118 := by decide +kernel
def tn (x : Int32) : Nat := x.toNatClampNeg
theorem vp_lit {x : Int32} {n : Nat} (h : (decide (x < 0) || decide (n ≤ x.toNatClampNeg)) = false) : vp_in x n := by
  intro h2
  rcases h2 with h2 | h2 <;> simp [h2] at h
theorem isCity.o {a : Nat} (h : isCity a) : isO a 1 := by
  rcases h with rfl | rfl | rfl | rfl | rfl <;> first | exact o13 | exact o27 | exact o45 | exact o59 | exact o73
theorem isStory.o {a : Nat} (h : isStory a) : isO a 7 := by
  rcases h with rfl | rfl | rfl | rfl | rfl <;> first | exact o21 | exact o35 | exact o53 | exact o67 | exact o81
theorem isCity.a0 {a : Nat} (h : isCity a) : isA (a + 1) 2 24 := by
  rcases h with rfl | rfl | rfl | rfl | rfl <;> first | exact a14 | exact a28 | exact a46 | exact a60 | exact a74
theorem isCity.a1 {a : Nat} (h : isCity a) : isA (a + 2) 1 12 := by
  rcases h with rfl | rfl | rfl | rfl | rfl <;> first | exact a15 | exact a29 | exact a47 | exact a61 | exact a75
theorem isCity.a2 {a : Nat} (h : isCity a) : isA (a + 3) 1 16 := by
  rcases h with rfl | rfl | rfl | rfl | rfl <;> first | exact a16 | exact a30 | exact a48 | exact a62 | exact a76
theorem isCity.a3 {a : Nat} (h : isCity a) : isA (a + 4) 1 16 := by
  rcases h with rfl | rfl | rfl | rfl | rfl <;> first | exact a17 | exact a31 | exact a49 | exact a63 | exact a77
theorem isCity.a4 {a : Nat} (h : isCity a) : isA (a + 5) 1 6 := by
  rcases h with rfl | rfl | rfl | rfl | rfl <;> first | exact a18 | exact a32 | exact a50 | exact a64 | exact a78
theorem isCity.a5 {a : Nat} (h : isCity a) : isA (a + 6) 1 72 := by
  rcases h with rfl | rfl | rfl | rfl | rfl <;> first | exact a19 | exact a33 | exact a51 | exact a65 | exact a79
theorem isCity.a6 {a : Nat} (h : isCity a) : isA (a + 7) 1 12 := by
  rcases h with rfl | rfl | rfl | rfl | rfl <;> first | exact a20 | exact a34 | exact a52 | exact a66 | exact a80
theorem isCity.c0 {a : Nat} (h : isCity a) : CST a 0 = some (a + 1) := by
  rcases h with rfl | rfl | rfl | rfl | rfl <;> decide +kernel
theorem isCity.c1 {a : Nat} (h : isCity a) : CST a 1 = some (a + 2) := by
  rcases h with rfl | rfl | rfl | rfl | rfl <;> decide +kernel
theorem isCity.c2 {a : Nat} (h : isCity a) : CST a 2 = some (a + 3) := by
  rcases h with rfl | rfl | rfl | rfl | rfl <;> decide +kernel
theorem isCity.c3 {a : Nat} (h : isCity a) : CST a 3 = some (a + 4) := by
  rcases h with rfl | rfl | rfl | rfl | rfl <;> decide +kernel
theorem isCity.c4 {a : Nat} (h : isCity a) : CST a 4 = some (a + 5) := by
  rcases h with rfl | rfl | rfl | rfl | rfl <;> decide +kernel
theorem isCity.c5 {a : Nat} (h : isCity a) : CST a 5 = some (a + 6) := by
  rcases h with rfl | rfl | rfl | rfl | rfl <;> decide +kernel
theorem isCity.c6 {a : Nat} (h : isCity a) : CST a 6 = some (a + 7) := by
  rcases h with rfl | rfl | rfl | rfl | rfl <;> decide +kernel
theorem isCity.c7 {a : Nat} (h : isCity a) : CST a 7 = some (a + 8) := by
  rcases h with rfl | rfl | rfl | rfl | rfl <;> decide +kernel
theorem isCity.s {a : Nat} (h : isCity a) : isStory (a + 8) := by
  rcases h with rfl | rfl | rfl | rfl | rfl <;> simp [isStory]
theorem isCity.z {a : Nat} (h : isCity a) : a ≠ 0 := by
  rcases h with rfl | rfl | rfl | rfl | rfl <;> decide
theorem isStory.z {a : Nat} (h : isStory a) : a ≠ 0 := by
  rcases h with rfl | rfl | rfl | rfl | rfl <;> decide
theorem isStory.a0 {a : Nat} (h : isStory a) : isA (a + 1) 1 60 := by
  rcases h with rfl | rfl | rfl | rfl | rfl <;> first | exact a22 | exact a36 | exact a54 | exact a68 | exact a82
theorem isStory.c0 {a : Nat} (h : isStory a) : CST a 0 = some (a + 1) := by
  rcases h with rfl | rfl | rfl | rfl | rfl <;> decide +kernel
theorem isStory.a1 {a : Nat} (h : isStory a) : isA (a + 2) 1 60 := by
  rcases h with rfl | rfl | rfl | rfl | rfl <;> first | exact a23 | exact a37 | exact a55 | exact a69 | exact a83
theorem isStory.c1 {a : Nat} (h : isStory a) : CST a 1 = some (a + 2) := by
  rcases h with rfl | rfl | rfl | rfl | rfl <;> decide +kernel
theorem isStory.a2 {a : Nat} (h : isStory a) : isA (a + 3) 1 60 := by
  rcases h with rfl | rfl | rfl | rfl | rfl <;> first | exact a24 | exact a38 | exact a56 | exact a70 | exact a84
theorem isStory.c2 {a : Nat} (h : isStory a) : CST a 2 = some (a + 3) := by
  rcases h with rfl | rfl | rfl | rfl | rfl <;> decide +kernel
theorem isStory.a3 {a : Nat} (h : isStory a) : isA (a + 4) 1 60 := by
  rcases h with rfl | rfl | rfl | rfl | rfl <;> first | exact a25 | exact a39 | exact a57 | exact a71 | exact a85
theorem isStory.c3 {a : Nat} (h : isStory a) : CST a 3 = some (a + 4) := by
  rcases h with rfl | rfl | rfl | rfl | rfl <;> decide +kernel
theorem isStory.a4 {a : Nat} (h : isStory a) : isA (a + 5) 1 60 := by
  rcases h with rfl | rfl | rfl | rfl | rfl <;> first | exact a26 | exact a40 | exact a58 | exact a72 | exact a86
theorem isStory.c4 {a : Nat} (h : isStory a) : CST a 4 = some (a + 5) := by
  rcases h with rfl | rfl | rfl | rfl | rfl <;> decide +kernel
theorem cn90_3 : CST 90 3 = none := by decide +kernel
theorem cn41_1 : CST 41 1 = none := by decide +kernel
theorem cn97_4 : CST 97 4 = none := by decide +kernel
theorem cn95_3 : CST 95 3 = none := by decide +kernel
theorem cn93_5 : CST 93 5 = none := by decide +kernel
theorem cn88_1 : CST 88 1 = none := by decide +kernel
theorem cn42_3 : CST 42 3 = none := by decide +kernel
theorem cn42_4 : CST 42 4 = none := by decide +kernel
theorem cn1_11 : CST 1 11 = none := by decide +kernel
theorem cn1_12 : CST 1 12 = none := by decide +kernel
theorem cs_marked {x : Int32} (h : vp_in x 3) : CST 44 x.toNatClampNeg = some (45 + 14 * x.toNatClampNeg) := by
  have h1 : x.toNatClampNeg < 3 := Nat.lt_of_not_le (fun q => h (Or.inr q))
  generalize x.toNatClampNeg = n at h1
  match n, h1 with
  | 0, _ => decide +kernel
  | 1, _ => decide +kernel
  | 2, _ => decide +kernel
theorem cs_rows {x : Int32} (h : vp_in x 4) : CST 3 x.toNatClampNeg = some (4 + x.toNatClampNeg) := by
  have h1 : x.toNatClampNeg < 4 := Nat.lt_of_not_le (fun q => h (Or.inr q))
  generalize x.toNatClampNeg = n at h1
  match n, h1 with
  | 0, _ => decide +kernel
  | 1, _ => decide +kernel
  | 2, _ => decide +kernel
  | 3, _ => decide +kernel
theorem is_marked {x : Int32} (h : vp_in x 3) : isCity (45 + 14 * x.toNatClampNeg) := by
  have h1 : x.toNatClampNeg < 3 := Nat.lt_of_not_le (fun q => h (Or.inr q))
  generalize x.toNatClampNeg = n at h1
  match n, h1 with
  | 0, _ => simp [isCity]
  | 1, _ => simp [isCity]
  | 2, _ => simp [isCity]
theorem is_row {x : Int32} (h : vp_in x 4) : isA (4 + x.toNatClampNeg) 2 60 := by
  have h1 : x.toNatClampNeg < 4 := Nat.lt_of_not_le (fun q => h (Or.inr q))
  generalize x.toNatClampNeg = n at h1
  match n, h1 with
  | 0, _ => exact a4
  | 1, _ => exact a5
  | 2, _ => exact a6
  | 3, _ => exact a7
/-! ===== loops: a body over a state; it ends ===== -/
def Lpn {S : Type} (body : (S → Prop) → S → Prop) : Nat → S → Prop
  | 0, _ => False
  | n + 1, s => body (Lpn body n) s
def Lp {S : Type} (body : (S → Prop) → S → Prop) (s : S) : Prop := ∃ n, Lpn body n s
theorem Lp_sound {S : Type} {body : (S → Prop) → S → Prop} {s : S} (G : S → Prop) (h : Lp body s) (step : ∀ (K : S → Prop) (s : S), (∀ s, K s → G s) → body K s → G s) : G s := by
  obtain ⟨n, h⟩ := h
  induction n generalizing s with
  | zero => cases h
  | succ n ih => exact step _ s (fun s hs => ih hs) h
/-- to show that a loop ends well: an invariant and a measure -/
theorem Lp_inv {S : Type} {body : (S → Prop) → S → Prop} {s : S} (I : S → Prop) (μ : S → Nat) (h0 : I s) (step : ∀ (K : S → Prop) (s : S), I s → (∀ s', I s' → μ s' < μ s → K s') → body K s) : Lp body s := by
  have key : ∀ n s, I s → μ s < n → Lpn body n s := by
    intro n
    induction n with
    | zero => intro s _ h; exact absurd h (Nat.not_lt_zero _)
    | succ n ih => intro s hI hm; exact step _ s hI (fun s' hI' hm' => ih s' hI' (Nat.lt_of_lt_of_le hm' (Nat.le_of_lt_succ hm)))
  exact ⟨μ s + 1, key _ s h0 (Nat.lt_succ_self _)⟩
/-! ===== the words of the tables ===== -/
theorem gin_tbl : GoodIn tbG tbG := fun w hw => ⟨hw, good_of_word (List.mem_filter.mp hw).2⟩
def tbW (y : MethodName) (cc : ByteArray) (n : Nat) (ret : Option FieldType) : List Cond := Cond.code y cc n ret :: tbG
theorem gin_one {w : Cond} (h : w ∈ tbG) : w ∈ tbG ∧ ((w.onTables && w.keeps) = true ∨ ∃ ty, w = .arrayClass ty) := gin_tbl w h
theorem gin_tbW {y : MethodName} {cc : ByteArray} {n : Nat} {ret : Option FieldType} (h : Cond.code y cc n ret ∈ tbG) : GoodIn tbG (tbW y cc n ret) := by
  intro w hw
  rcases List.mem_cons.mp hw with rfl | hw
  · exact gin_tbl _ h
  · exact gin_tbl _ hw
/-! ===== contracts of methods that make nothing ===== -/
def Inw (B : Nat) (D : va_G) (ca : Nat → ClassId) (σ : Sto) (U : State) : Prop := va_P D vwCl (wsOf B ca CST KS σ) U.heap ∧ va_K D vwCl (tysOf ca) U ∧ B + 1 ≤ U.heap.size
abbrev QF : Type := Nat → va_G → (Nat → ClassId) → Array Value → State → Outcome → State → Prop
abbrev ZF : Type := Nat → va_G → (Nat → ClassId) → Program → Room → State → Array Value → List Frame → Nat → Nat → (State → Prop) → Prop
def QFi (P : Int32 → Sto → Prop) : QF := fun B D ca => va_Qi P (Inw B D ca) (fun q => B < q)
def QFl (P : Int64 → Sto → Prop) : QF := fun B D ca => va_Ql P (Inw B D ca) (fun q => B < q)
def QFv (P : Sto → Prop) : QF := fun B D ca => va_Qv P (Inw B D ca) (fun q => B < q)
/-- method y, by its bytes, locals and result: from the arguments As, in the world σ, it comes to Q; fr frames and lo locals are left -/
def Ct (y : MethodName) (cc : ByteArray) (n : Nat) (ret : Option FieldType) (fr lo : Nat) (As : Nat → List Value) (σ : Sto) (Qf : QF) : Prop :=
  ∀ (l : Launch) (B : Nat) (D : va_G) (ca : Nat → ClassId), Met l y (tbW y cc n ret) { frames := fr, cells := 0, slots := 0, locals := lo } (va_Pc (As B) (Inw B D ca σ)) (Qf B D ca) 0 0 (fun q => B < q)
/-! ===== the compact judgement ===== -/
def Zm (Qc : QF) : ZF := fun B D ca _ _ s args below cells slots Q => cells = 0 ∧ slots = 0 ∧ Q = MQ below (Qc B D ca) args s 0 0 (fun q => B < q)
def Cy (B : Nat) (E : Nat → List (Nat × Value) → List Value → Sto → Prop) (own : String) (cc : ByteArray) (nL : Nat) (ret : Option FieldType) (fr lo : Nat) (Qf : ZF) : Prop :=
  ∃ (D : va_G) (ca : Nat → ClassId) (p : Program) (l : Launch) (e : Env) (R : Room) (s : State) (m : MethodId) (args : Array Value) (below : List Frame) (meth : Method) (c : Code) (cells slots : Nat) (Q : State → Prop),
    E = (fun pc lv st σ => Ev B D ca CST WT nL p l e R s m args below meth c cells slots Q KS pc lv st σ) ∧
    Cx B D ca nL own cc p s m args meth c ∧ meth.sig.returnType = ret ∧ fr ≤ R.frames ∧ lo ≤ R.locals ∧ (cells ≤ R.cells ∧ slots ≤ R.slots) ∧ Qf B D ca p R s args below cells slots Q
/-- the law's result type -/
def ret_law : Option FieldType := ret
section FRows
variable {B : Nat} {E : Nat → List (Nat × Value) → List Value → Sto → Prop} {own : String} {cc : ByteArray} {nL : Nat} {ret : Option FieldType} {fr lo : Nat} {Qf : ZF} {pc q : Nat} {lv : List (Nat × Value)} {st : List Value} {σ : Sto}
theorem f_lv (C : Cy B E own cc nL ret fr lo Qf) {lv2 : List (Nat × Value)} (is : List Nat) (h : lv_pick lv is = lv2) (k : E pc lv2 st σ) : E pc lv st σ := by
  obtain ⟨D, ca, p, l, e, R, s, m, args, below, meth, c, cells, slots, Q, rfl, C, hr, hfr, hlo, hcs, hZ⟩ := C
  exact e_lv is h k

theorem f_iadd (C : Cy B E own cc nL ret fr lo Qf) {x y : Int32} (hd : decode cc pc = .ok (.iadd, 1))  (hq : pc + 1 = q) (k : E q lv (.int (x + y) :: st) σ) : E pc lv (.int y :: .int x :: st) σ := by
  obtain ⟨D, ca, p, l, e, R, s, m, args, below, meth, c, cells, slots, Q, rfl, C, hr, hfr, hlo, hcs, hZ⟩ := C
  exact e_iadd C hd hq k
theorem f_isub (C : Cy B E own cc nL ret fr lo Qf) {x y : Int32} (hd : decode cc pc = .ok (.isub, 1))  (hq : pc + 1 = q) (k : E q lv (.int (x - y) :: st) σ) : E pc lv (.int y :: .int x :: st) σ := by
  obtain ⟨D, ca, p, l, e, R, s, m, args, below, meth, c, cells, slots, Q, rfl, C, hr, hfr, hlo, hcs, hZ⟩ := C
  exact e_isub C hd hq k
theorem f_imul (C : Cy B E own cc nL ret fr lo Qf) {x y : Int32} (hd : decode cc pc = .ok (.imul, 1))  (hq : pc + 1 = q) (k : E q lv (.int (x * y) :: st) σ) : E pc lv (.int y :: .int x :: st) σ := by
  obtain ⟨D, ca, p, l, e, R, s, m, args, below, meth, c, cells, slots, Q, rfl, C, hr, hfr, hlo, hcs, hZ⟩ := C
  exact e_imul C hd hq k
theorem f_iand (C : Cy B E own cc nL ret fr lo Qf) {x y : Int32} (hd : decode cc pc = .ok (.iand, 1))  (hq : pc + 1 = q) (k : E q lv (.int (x &&& y) :: st) σ) : E pc lv (.int y :: .int x :: st) σ := by
  obtain ⟨D, ca, p, l, e, R, s, m, args, below, meth, c, cells, slots, Q, rfl, C, hr, hfr, hlo, hcs, hZ⟩ := C
  exact e_iand C hd hq k
theorem f_ior (C : Cy B E own cc nL ret fr lo Qf) {x y : Int32} (hd : decode cc pc = .ok (.ior, 1))  (hq : pc + 1 = q) (k : E q lv (.int (x ||| y) :: st) σ) : E pc lv (.int y :: .int x :: st) σ := by
  obtain ⟨D, ca, p, l, e, R, s, m, args, below, meth, c, cells, slots, Q, rfl, C, hr, hfr, hlo, hcs, hZ⟩ := C
  exact e_ior C hd hq k
theorem f_ixor (C : Cy B E own cc nL ret fr lo Qf) {x y : Int32} (hd : decode cc pc = .ok (.ixor, 1))  (hq : pc + 1 = q) (k : E q lv (.int (x ^^^ y) :: st) σ) : E pc lv (.int y :: .int x :: st) σ := by
  obtain ⟨D, ca, p, l, e, R, s, m, args, below, meth, c, cells, slots, Q, rfl, C, hr, hfr, hlo, hcs, hZ⟩ := C
  exact e_ixor C hd hq k
theorem f_ishr (C : Cy B E own cc nL ret fr lo Qf) {x y : Int32} (hd : decode cc pc = .ok (.ishr, 1))  (hq : pc + 1 = q) (k : E q lv (.int (x >>> (y &&& 31)) :: st) σ) : E pc lv (.int y :: .int x :: st) σ := by
  obtain ⟨D, ca, p, l, e, R, s, m, args, below, meth, c, cells, slots, Q, rfl, C, hr, hfr, hlo, hcs, hZ⟩ := C
  exact e_ishr C hd hq k
theorem f_idiv (C : Cy B E own cc nL ret fr lo Qf) {x y : Int32} (hd : decode cc pc = .ok (.idiv, 1)) (hne : ¬ y = 0) (hq : pc + 1 = q) (k : E q lv (.int (x / y) :: st) σ) : E pc lv (.int y :: .int x :: st) σ := by
  obtain ⟨D, ca, p, l, e, R, s, m, args, below, meth, c, cells, slots, Q, rfl, C, hr, hfr, hlo, hcs, hZ⟩ := C
  exact e_idiv C hd hne hq k
theorem f_irem (C : Cy B E own cc nL ret fr lo Qf) {x y : Int32} (hd : decode cc pc = .ok (.irem, 1)) (hne : ¬ y = 0) (hq : pc + 1 = q) (k : E q lv (.int (x - x / y * y) :: st) σ) : E pc lv (.int y :: .int x :: st) σ := by
  obtain ⟨D, ca, p, l, e, R, s, m, args, below, meth, c, cells, slots, Q, rfl, C, hr, hfr, hlo, hcs, hZ⟩ := C
  exact e_irem C hd hne hq k
theorem f_ladd (C : Cy B E own cc nL ret fr lo Qf) {x y : Int64} (hd : decode cc pc = .ok (.ladd, 1))  (hq : pc + 1 = q) (k : E q lv (.long (x + y) :: st) σ) : E pc lv (.long y :: .long x :: st) σ := by
  obtain ⟨D, ca, p, l, e, R, s, m, args, below, meth, c, cells, slots, Q, rfl, C, hr, hfr, hlo, hcs, hZ⟩ := C
  exact e_ladd C hd hq k
theorem f_lsub (C : Cy B E own cc nL ret fr lo Qf) {x y : Int64} (hd : decode cc pc = .ok (.lsub, 1))  (hq : pc + 1 = q) (k : E q lv (.long (x - y) :: st) σ) : E pc lv (.long y :: .long x :: st) σ := by
  obtain ⟨D, ca, p, l, e, R, s, m, args, below, meth, c, cells, slots, Q, rfl, C, hr, hfr, hlo, hcs, hZ⟩ := C
  exact e_lsub C hd hq k
theorem f_lmul (C : Cy B E own cc nL ret fr lo Qf) {x y : Int64} (hd : decode cc pc = .ok (.lmul, 1))  (hq : pc + 1 = q) (k : E q lv (.long (x * y) :: st) σ) : E pc lv (.long y :: .long x :: st) σ := by
  obtain ⟨D, ca, p, l, e, R, s, m, args, below, meth, c, cells, slots, Q, rfl, C, hr, hfr, hlo, hcs, hZ⟩ := C
  exact e_lmul C hd hq k
theorem f_land (C : Cy B E own cc nL ret fr lo Qf) {x y : Int64} (hd : decode cc pc = .ok (.land, 1))  (hq : pc + 1 = q) (k : E q lv (.long (x &&& y) :: st) σ) : E pc lv (.long y :: .long x :: st) σ := by
  obtain ⟨D, ca, p, l, e, R, s, m, args, below, meth, c, cells, slots, Q, rfl, C, hr, hfr, hlo, hcs, hZ⟩ := C
  exact e_land C hd hq k
theorem f_lor (C : Cy B E own cc nL ret fr lo Qf) {x y : Int64} (hd : decode cc pc = .ok (.lor, 1))  (hq : pc + 1 = q) (k : E q lv (.long (x ||| y) :: st) σ) : E pc lv (.long y :: .long x :: st) σ := by
  obtain ⟨D, ca, p, l, e, R, s, m, args, below, meth, c, cells, slots, Q, rfl, C, hr, hfr, hlo, hcs, hZ⟩ := C
  exact e_lor C hd hq k
theorem f_ldiv (C : Cy B E own cc nL ret fr lo Qf) {x y : Int64} (hd : decode cc pc = .ok (.ldiv, 1)) (hne : ¬ y = 0) (hq : pc + 1 = q) (k : E q lv (.long (x / y) :: st) σ) : E pc lv (.long y :: .long x :: st) σ := by
  obtain ⟨D, ca, p, l, e, R, s, m, args, below, meth, c, cells, slots, Q, rfl, C, hr, hfr, hlo, hcs, hZ⟩ := C
  exact e_ldiv C hd hne hq k
theorem f_lrem (C : Cy B E own cc nL ret fr lo Qf) {x y : Int64} (hd : decode cc pc = .ok (.lrem, 1)) (hne : ¬ y = 0) (hq : pc + 1 = q) (k : E q lv (.long (x - x / y * y) :: st) σ) : E pc lv (.long y :: .long x :: st) σ := by
  obtain ⟨D, ca, p, l, e, R, s, m, args, below, meth, c, cells, slots, Q, rfl, C, hr, hfr, hlo, hcs, hZ⟩ := C
  exact e_lrem C hd hne hq k
theorem f_lneg (C : Cy B E own cc nL ret fr lo Qf) {x : Int64} (hd : decode cc pc = .ok (.lneg, 1))  (hq : pc + 1 = q) (k : E q lv (.long (-x) :: st) σ) : E pc lv (.long x :: st) σ := by
  obtain ⟨D, ca, p, l, e, R, s, m, args, below, meth, c, cells, slots, Q, rfl, C, hr, hfr, hlo, hcs, hZ⟩ := C
  exact e_lneg C hd hq k
theorem f_i2l (C : Cy B E own cc nL ret fr lo Qf) {x : Int32} (hd : decode cc pc = .ok (.i2l, 1))  (hq : pc + 1 = q) (k : E q lv (.long x.toInt64 :: st) σ) : E pc lv (.int x :: st) σ := by
  obtain ⟨D, ca, p, l, e, R, s, m, args, below, meth, c, cells, slots, Q, rfl, C, hr, hfr, hlo, hcs, hZ⟩ := C
  exact e_i2l C hd hq k
theorem f_l2i (C : Cy B E own cc nL ret fr lo Qf) {x : Int64} (hd : decode cc pc = .ok (.l2i, 1))  (hq : pc + 1 = q) (k : E q lv (.int x.toInt32 :: st) σ) : E pc lv (.long x :: st) σ := by
  obtain ⟨D, ca, p, l, e, R, s, m, args, below, meth, c, cells, slots, Q, rfl, C, hr, hfr, hlo, hcs, hZ⟩ := C
  exact e_l2i C hd hq k
theorem f_i2b (C : Cy B E own cc nL ret fr lo Qf) {x : Int32} (hd : decode cc pc = .ok (.i2b, 1))  (hq : pc + 1 = q) (k : E q lv (.int x.toInt8.toInt32 :: st) σ) : E pc lv (.int x :: st) σ := by
  obtain ⟨D, ca, p, l, e, R, s, m, args, below, meth, c, cells, slots, Q, rfl, C, hr, hfr, hlo, hcs, hZ⟩ := C
  exact e_i2b C hd hq k
theorem f_i2s (C : Cy B E own cc nL ret fr lo Qf) {x : Int32} (hd : decode cc pc = .ok (.i2s, 1))  (hq : pc + 1 = q) (k : E q lv (.int x.toInt16.toInt32 :: st) σ) : E pc lv (.int x :: st) σ := by
  obtain ⟨D, ca, p, l, e, R, s, m, args, below, meth, c, cells, slots, Q, rfl, C, hr, hfr, hlo, hcs, hZ⟩ := C
  exact e_i2s C hd hq k
theorem f_iushr (C : Cy B E own cc nL ret fr lo Qf) {x y : Int32} (hd : decode cc pc = .ok (.iushr, 1))  (hq : pc + 1 = q) (k : E q lv (.int (x.toUInt32 >>> (y.toUInt32 &&& Int32.toUInt32 31)).toInt32 :: st) σ) : E pc lv (.int y :: .int x :: st) σ := by
  obtain ⟨D, ca, p, l, e, R, s, m, args, below, meth, c, cells, slots, Q, rfl, C, hr, hfr, hlo, hcs, hZ⟩ := C
  exact e_iushr C hd hq k
theorem f_lcmp (C : Cy B E own cc nL ret fr lo Qf) {x y : Int64} (hd : decode cc pc = .ok (.lcmp, 1))  (hq : pc + 1 = q) (k : E q lv (.int (lg_cmp x y) :: st) σ) : E pc lv (.long y :: .long x :: st) σ := by
  obtain ⟨D, ca, p, l, e, R, s, m, args, below, meth, c, cells, slots, Q, rfl, C, hr, hfr, hlo, hcs, hZ⟩ := C
  exact e_lcmp C hd hq k
theorem f_dup (C : Cy B E own cc nL ret fr lo Qf) {v : Value} (hd : decode cc pc = .ok (.dup, 1)) (hv : v.category = 1) (hq : pc + 1 = q) (k : E q lv (v :: v :: st) σ) : E pc lv (v :: st) σ := by
  obtain ⟨D, ca, p, l, e, R, s, m, args, below, meth, c, cells, slots, Q, rfl, C, hr, hfr, hlo, hcs, hZ⟩ := C
  exact e_dup C hd hv hq k
theorem f_pop (C : Cy B E own cc nL ret fr lo Qf) {v : Value} (hd : decode cc pc = .ok (.pop, 1)) (hv : v.category = 1) (hq : pc + 1 = q) (k : E q lv st σ) : E pc lv (v :: st) σ := by
  obtain ⟨D, ca, p, l, e, R, s, m, args, below, meth, c, cells, slots, Q, rfl, C, hr, hfr, hlo, hcs, hZ⟩ := C
  exact e_pop C hd hv hq k
theorem f_dup2 (C : Cy B E own cc nL ret fr lo Qf) {v w : Value} (hd : decode cc pc = .ok (.dup2, 1)) (hv : v.category = 1) (hw : w.category = 1) (hq : pc + 1 = q) (k : E q lv (v :: w :: v :: w :: st) σ) : E pc lv (v :: w :: st) σ := by
  obtain ⟨D, ca, p, l, e, R, s, m, args, below, meth, c, cells, slots, Q, rfl, C, hr, hfr, hlo, hcs, hZ⟩ := C
  exact e_dup2 C hd hv hw hq k
theorem f_iconst (C : Cy B E own cc nL ret fr lo Qf) {n : Int} {v : Int32} (hd : decode cc pc = .ok (.iconst n, 1)) (hv : Int32.ofInt n = v) (hq : pc + 1 = q) (k : E q lv (.int v :: st) σ) : E pc lv st σ := by
  obtain ⟨D, ca, p, l, e, R, s, m, args, below, meth, c, cells, slots, Q, rfl, C, hr, hfr, hlo, hcs, hZ⟩ := C
  exact e_iconst C hd hv hq k
theorem f_bipush (C : Cy B E own cc nL ret fr lo Qf) {n : Int} {v : Int32} (hd : decode cc pc = .ok (.bipush n, 2)) (hv : (Int8.ofInt n).toInt32 = v) (hq : pc + 2 = q) (k : E q lv (.int v :: st) σ) : E pc lv st σ := by
  obtain ⟨D, ca, p, l, e, R, s, m, args, below, meth, c, cells, slots, Q, rfl, C, hr, hfr, hlo, hcs, hZ⟩ := C
  exact e_bipush C hd hv hq k
theorem f_sipush (C : Cy B E own cc nL ret fr lo Qf) {n : Int} {v : Int32} (hd : decode cc pc = .ok (.sipush n, 3)) (hv : (Int16.ofInt n).toInt32 = v) (hq : pc + 3 = q) (k : E q lv (.int v :: st) σ) : E pc lv st σ := by
  obtain ⟨D, ca, p, l, e, R, s, m, args, below, meth, c, cells, slots, Q, rfl, C, hr, hfr, hlo, hcs, hZ⟩ := C
  exact e_sipush C hd hv hq k
theorem f_lconst (C : Cy B E own cc nL ret fr lo Qf) {n : Fin 2} {v : Int64} (hd : decode cc pc = .ok (.lconst n, 1)) (hv : Int64.ofNat (n : Nat) = v) (hq : pc + 1 = q) (k : E q lv (.long v :: st) σ) : E pc lv st σ := by
  obtain ⟨D, ca, p, l, e, R, s, m, args, below, meth, c, cells, slots, Q, rfl, C, hr, hfr, hlo, hcs, hZ⟩ := C
  exact e_lconst C hd hv hq k
theorem f_iload_n (C : Cy B E own cc nL ret fr lo Qf) {j i : Nat} {x : Int32} {f : Fin 4} (hd : decode cc pc = .ok (.iload_n f, 1)) (hi : (f : Nat) = i) (hx : lv[j]? = some (i, .int x)) (hq : pc + 1 = q) (k : E q lv (.int x :: st) σ) : E pc lv st σ := by
  obtain ⟨D, ca, p, l, e, R, s, m, args, below, meth, c, cells, slots, Q, rfl, C, hr, hfr, hlo, hcs, hZ⟩ := C
  exact e_iload_n C hd hi hx hq k
theorem f_iload (C : Cy B E own cc nL ret fr lo Qf) {j i : Nat} {x : Int32} (hd : decode cc pc = .ok (.iload i, 2)) (hx : lv[j]? = some (i, .int x)) (hq : pc + 2 = q) (k : E q lv (.int x :: st) σ) : E pc lv st σ := by
  obtain ⟨D, ca, p, l, e, R, s, m, args, below, meth, c, cells, slots, Q, rfl, C, hr, hfr, hlo, hcs, hZ⟩ := C
  exact e_iload C hd hx hq k
theorem f_lload_n (C : Cy B E own cc nL ret fr lo Qf) {j i : Nat} {x : Int64} {f : Fin 4} (hd : decode cc pc = .ok (.lload_n f, 1)) (hi : (f : Nat) = i) (hx : lv[j]? = some (i, .long x)) (hq : pc + 1 = q) (k : E q lv (.long x :: st) σ) : E pc lv st σ := by
  obtain ⟨D, ca, p, l, e, R, s, m, args, below, meth, c, cells, slots, Q, rfl, C, hr, hfr, hlo, hcs, hZ⟩ := C
  exact e_lload_n C hd hi hx hq k
theorem f_lload (C : Cy B E own cc nL ret fr lo Qf) {j i : Nat} {x : Int64} (hd : decode cc pc = .ok (.lload i, 2)) (hx : lv[j]? = some (i, .long x)) (hq : pc + 2 = q) (k : E q lv (.long x :: st) σ) : E pc lv st σ := by
  obtain ⟨D, ca, p, l, e, R, s, m, args, below, meth, c, cells, slots, Q, rfl, C, hr, hfr, hlo, hcs, hZ⟩ := C
  exact e_lload C hd hx hq k
theorem f_aload_n (C : Cy B E own cc nL ret fr lo Qf) {j i : Nat} {x : Nat} {f : Fin 4} (hd : decode cc pc = .ok (.aload_n f, 1)) (hi : (f : Nat) = i) (hx : lv[j]? = some (i, .ref x)) (hq : pc + 1 = q) (k : E q lv (.ref x :: st) σ) : E pc lv st σ := by
  obtain ⟨D, ca, p, l, e, R, s, m, args, below, meth, c, cells, slots, Q, rfl, C, hr, hfr, hlo, hcs, hZ⟩ := C
  exact e_aload_n C hd hi hx hq k
theorem f_aload (C : Cy B E own cc nL ret fr lo Qf) {j i : Nat} {x : Nat} (hd : decode cc pc = .ok (.aload i, 2)) (hx : lv[j]? = some (i, .ref x)) (hq : pc + 2 = q) (k : E q lv (.ref x :: st) σ) : E pc lv st σ := by
  obtain ⟨D, ca, p, l, e, R, s, m, args, below, meth, c, cells, slots, Q, rfl, C, hr, hfr, hlo, hcs, hZ⟩ := C
  exact e_aload C hd hx hq k
theorem f_istore_n (C : Cy B E own cc nL ret fr lo Qf) {i : Nat} {x : Int32} {lv2 : List (Nat × Value)} {f : Fin 4} (hd : decode cc pc = .ok (.istore_n f, 1)) (hi : (f : Nat) = i) (hn : i < nL) (hl : (i, Value.int x) :: lv.filter (fun q => !(q.1 == i) && !(q.1 + 1 == i && q.2.category == 2)) = lv2) (hq : pc + 1 = q) (k : E q lv2 st σ) : E pc lv (.int x :: st) σ := by
  obtain ⟨D, ca, p, l, e, R, s, m, args, below, meth, c, cells, slots, Q, rfl, C, hr, hfr, hlo, hcs, hZ⟩ := C
  exact e_istore_n C hd hi hn hl hq k
theorem f_istore (C : Cy B E own cc nL ret fr lo Qf) {i : Nat} {x : Int32} {lv2 : List (Nat × Value)} (hd : decode cc pc = .ok (.istore i, 2)) (hn : i < nL) (hl : (i, Value.int x) :: lv.filter (fun q => !(q.1 == i) && !(q.1 + 1 == i && q.2.category == 2)) = lv2) (hq : pc + 2 = q) (k : E q lv2 st σ) : E pc lv (.int x :: st) σ := by
  obtain ⟨D, ca, p, l, e, R, s, m, args, below, meth, c, cells, slots, Q, rfl, C, hr, hfr, hlo, hcs, hZ⟩ := C
  exact e_istore C hd hn hl hq k
theorem f_lstore_n (C : Cy B E own cc nL ret fr lo Qf) {i : Nat} {x : Int64} {lv2 : List (Nat × Value)} {f : Fin 4} (hd : decode cc pc = .ok (.lstore_n f, 1)) (hi : (f : Nat) = i) (hn : i + 1 < nL) (hl : (i, Value.long x) :: lv.filter (fun q => !(q.1 == i) && (!(q.1 == i + 1) && !(q.1 + 1 == i && q.2.category == 2))) = lv2) (hq : pc + 1 = q) (k : E q lv2 st σ) : E pc lv (.long x :: st) σ := by
  obtain ⟨D, ca, p, l, e, R, s, m, args, below, meth, c, cells, slots, Q, rfl, C, hr, hfr, hlo, hcs, hZ⟩ := C
  exact e_lstore_n C hd hi hn hl hq k
theorem f_lstore (C : Cy B E own cc nL ret fr lo Qf) {i : Nat} {x : Int64} {lv2 : List (Nat × Value)} (hd : decode cc pc = .ok (.lstore i, 2)) (hn : i + 1 < nL) (hl : (i, Value.long x) :: lv.filter (fun q => !(q.1 == i) && (!(q.1 == i + 1) && !(q.1 + 1 == i && q.2.category == 2))) = lv2) (hq : pc + 2 = q) (k : E q lv2 st σ) : E pc lv (.long x :: st) σ := by
  obtain ⟨D, ca, p, l, e, R, s, m, args, below, meth, c, cells, slots, Q, rfl, C, hr, hfr, hlo, hcs, hZ⟩ := C
  exact e_lstore C hd hn hl hq k
theorem f_astore_n (C : Cy B E own cc nL ret fr lo Qf) {i : Nat} {x : Nat} {lv2 : List (Nat × Value)} {f : Fin 4} (hd : decode cc pc = .ok (.astore_n f, 1)) (hi : (f : Nat) = i) (hn : i < nL) (hl : (i, Value.ref x) :: lv.filter (fun q => !(q.1 == i) && !(q.1 + 1 == i && q.2.category == 2)) = lv2) (hq : pc + 1 = q) (k : E q lv2 st σ) : E pc lv (.ref x :: st) σ := by
  obtain ⟨D, ca, p, l, e, R, s, m, args, below, meth, c, cells, slots, Q, rfl, C, hr, hfr, hlo, hcs, hZ⟩ := C
  exact e_astore_n C hd hi hn hl hq k
theorem f_astore (C : Cy B E own cc nL ret fr lo Qf) {i : Nat} {x : Nat} {lv2 : List (Nat × Value)} (hd : decode cc pc = .ok (.astore i, 2)) (hn : i < nL) (hl : (i, Value.ref x) :: lv.filter (fun q => !(q.1 == i) && !(q.1 + 1 == i && q.2.category == 2)) = lv2) (hq : pc + 2 = q) (k : E q lv2 st σ) : E pc lv (.ref x :: st) σ := by
  obtain ⟨D, ca, p, l, e, R, s, m, args, below, meth, c, cells, slots, Q, rfl, C, hr, hfr, hlo, hcs, hZ⟩ := C
  exact e_astore C hd hn hl hq k
theorem f_iinc (C : Cy B E own cc nL ret fr lo Qf) {i j : Nat} {n : Int} {x v : Int32} {lv2 : List (Nat × Value)} (hd : decode cc pc = .ok (.iinc i n, 3)) (hx : lv[j]? = some (i, .int x)) (hv : x + Int32.ofInt n = v) (hn : i < nL) (hl : (i, Value.int v) :: lv.filter (fun q => !(q.1 == i) && !(q.1 + 1 == i && q.2.category == 2)) = lv2) (hq : pc + 3 = q) (k : E q lv2 st σ) : E pc lv st σ := by
  obtain ⟨D, ca, p, l, e, R, s, m, args, below, meth, c, cells, slots, Q, rfl, C, hr, hfr, hlo, hcs, hZ⟩ := C
  exact e_iinc C hd hx hv hn hl hq k
theorem f_if_eq (C : Cy B E own cc nL ret fr lo Qf) {x : Int32} {off : Int} {t : Nat} (hd : decode cc pc = .ok (.ifCond .eq off, 3)) (ht : (pc : Int) + off = (t : Int)) (hq : pc + 3 = q) (k1 : x = 0 → E t lv st σ) (k2 : ¬ x = 0 → E q lv st σ) : E pc lv (.int x :: st) σ := by
  obtain ⟨D, ca, p, l, e, R, s, m, args, below, meth, c, cells, slots, Q, rfl, C, hr, hfr, hlo, hcs, hZ⟩ := C
  exact e_if_eq C hd ht hq k1 k2
theorem f_icmp_eq (C : Cy B E own cc nL ret fr lo Qf) {x y : Int32} {off : Int} {t : Nat} (hd : decode cc pc = .ok (.if_icmp .eq off, 3)) (ht : (pc : Int) + off = (t : Int)) (hq : pc + 3 = q) (k1 : x = y → E t lv st σ) (k2 : ¬ x = y → E q lv st σ) : E pc lv (.int y :: .int x :: st) σ := by
  obtain ⟨D, ca, p, l, e, R, s, m, args, below, meth, c, cells, slots, Q, rfl, C, hr, hfr, hlo, hcs, hZ⟩ := C
  exact e_icmp_eq C hd ht hq k1 k2
theorem f_if_ne (C : Cy B E own cc nL ret fr lo Qf) {x : Int32} {off : Int} {t : Nat} (hd : decode cc pc = .ok (.ifCond .ne off, 3)) (ht : (pc : Int) + off = (t : Int)) (hq : pc + 3 = q) (k1 : ¬ x = 0 → E t lv st σ) (k2 : x = 0 → E q lv st σ) : E pc lv (.int x :: st) σ := by
  obtain ⟨D, ca, p, l, e, R, s, m, args, below, meth, c, cells, slots, Q, rfl, C, hr, hfr, hlo, hcs, hZ⟩ := C
  exact e_if_ne C hd ht hq k1 k2
theorem f_icmp_ne (C : Cy B E own cc nL ret fr lo Qf) {x y : Int32} {off : Int} {t : Nat} (hd : decode cc pc = .ok (.if_icmp .ne off, 3)) (ht : (pc : Int) + off = (t : Int)) (hq : pc + 3 = q) (k1 : ¬ x = y → E t lv st σ) (k2 : x = y → E q lv st σ) : E pc lv (.int y :: .int x :: st) σ := by
  obtain ⟨D, ca, p, l, e, R, s, m, args, below, meth, c, cells, slots, Q, rfl, C, hr, hfr, hlo, hcs, hZ⟩ := C
  exact e_icmp_ne C hd ht hq k1 k2
theorem f_if_lt (C : Cy B E own cc nL ret fr lo Qf) {x : Int32} {off : Int} {t : Nat} (hd : decode cc pc = .ok (.ifCond .lt off, 3)) (ht : (pc : Int) + off = (t : Int)) (hq : pc + 3 = q) (k1 : x < 0 → E t lv st σ) (k2 : ¬ x < 0 → E q lv st σ) : E pc lv (.int x :: st) σ := by
  obtain ⟨D, ca, p, l, e, R, s, m, args, below, meth, c, cells, slots, Q, rfl, C, hr, hfr, hlo, hcs, hZ⟩ := C
  exact e_if_lt C hd ht hq k1 k2
theorem f_icmp_lt (C : Cy B E own cc nL ret fr lo Qf) {x y : Int32} {off : Int} {t : Nat} (hd : decode cc pc = .ok (.if_icmp .lt off, 3)) (ht : (pc : Int) + off = (t : Int)) (hq : pc + 3 = q) (k1 : x < y → E t lv st σ) (k2 : ¬ x < y → E q lv st σ) : E pc lv (.int y :: .int x :: st) σ := by
  obtain ⟨D, ca, p, l, e, R, s, m, args, below, meth, c, cells, slots, Q, rfl, C, hr, hfr, hlo, hcs, hZ⟩ := C
  exact e_icmp_lt C hd ht hq k1 k2
theorem f_if_ge (C : Cy B E own cc nL ret fr lo Qf) {x : Int32} {off : Int} {t : Nat} (hd : decode cc pc = .ok (.ifCond .ge off, 3)) (ht : (pc : Int) + off = (t : Int)) (hq : pc + 3 = q) (k1 : 0 ≤ x → E t lv st σ) (k2 : ¬ 0 ≤ x → E q lv st σ) : E pc lv (.int x :: st) σ := by
  obtain ⟨D, ca, p, l, e, R, s, m, args, below, meth, c, cells, slots, Q, rfl, C, hr, hfr, hlo, hcs, hZ⟩ := C
  exact e_if_ge C hd ht hq k1 k2
theorem f_icmp_ge (C : Cy B E own cc nL ret fr lo Qf) {x y : Int32} {off : Int} {t : Nat} (hd : decode cc pc = .ok (.if_icmp .ge off, 3)) (ht : (pc : Int) + off = (t : Int)) (hq : pc + 3 = q) (k1 : y ≤ x → E t lv st σ) (k2 : ¬ y ≤ x → E q lv st σ) : E pc lv (.int y :: .int x :: st) σ := by
  obtain ⟨D, ca, p, l, e, R, s, m, args, below, meth, c, cells, slots, Q, rfl, C, hr, hfr, hlo, hcs, hZ⟩ := C
  exact e_icmp_ge C hd ht hq k1 k2
theorem f_if_gt (C : Cy B E own cc nL ret fr lo Qf) {x : Int32} {off : Int} {t : Nat} (hd : decode cc pc = .ok (.ifCond .gt off, 3)) (ht : (pc : Int) + off = (t : Int)) (hq : pc + 3 = q) (k1 : 0 < x → E t lv st σ) (k2 : ¬ 0 < x → E q lv st σ) : E pc lv (.int x :: st) σ := by
  obtain ⟨D, ca, p, l, e, R, s, m, args, below, meth, c, cells, slots, Q, rfl, C, hr, hfr, hlo, hcs, hZ⟩ := C
  exact e_if_gt C hd ht hq k1 k2
theorem f_icmp_gt (C : Cy B E own cc nL ret fr lo Qf) {x y : Int32} {off : Int} {t : Nat} (hd : decode cc pc = .ok (.if_icmp .gt off, 3)) (ht : (pc : Int) + off = (t : Int)) (hq : pc + 3 = q) (k1 : y < x → E t lv st σ) (k2 : ¬ y < x → E q lv st σ) : E pc lv (.int y :: .int x :: st) σ := by
  obtain ⟨D, ca, p, l, e, R, s, m, args, below, meth, c, cells, slots, Q, rfl, C, hr, hfr, hlo, hcs, hZ⟩ := C
  exact e_icmp_gt C hd ht hq k1 k2
theorem f_if_le (C : Cy B E own cc nL ret fr lo Qf) {x : Int32} {off : Int} {t : Nat} (hd : decode cc pc = .ok (.ifCond .le off, 3)) (ht : (pc : Int) + off = (t : Int)) (hq : pc + 3 = q) (k1 : x ≤ 0 → E t lv st σ) (k2 : ¬ x ≤ 0 → E q lv st σ) : E pc lv (.int x :: st) σ := by
  obtain ⟨D, ca, p, l, e, R, s, m, args, below, meth, c, cells, slots, Q, rfl, C, hr, hfr, hlo, hcs, hZ⟩ := C
  exact e_if_le C hd ht hq k1 k2
theorem f_icmp_le (C : Cy B E own cc nL ret fr lo Qf) {x y : Int32} {off : Int} {t : Nat} (hd : decode cc pc = .ok (.if_icmp .le off, 3)) (ht : (pc : Int) + off = (t : Int)) (hq : pc + 3 = q) (k1 : x ≤ y → E t lv st σ) (k2 : ¬ x ≤ y → E q lv st σ) : E pc lv (.int y :: .int x :: st) σ := by
  obtain ⟨D, ca, p, l, e, R, s, m, args, below, meth, c, cells, slots, Q, rfl, C, hr, hfr, hlo, hcs, hZ⟩ := C
  exact e_icmp_le C hd ht hq k1 k2
theorem f_goto (C : Cy B E own cc nL ret fr lo Qf) {off : Int} {t : Nat} (hd : decode cc pc = .ok (.goto off, 3)) (ht : (pc : Int) + off = (t : Int)) (k : E t lv st σ) : E pc lv st σ := by
  obtain ⟨D, ca, p, l, e, R, s, m, args, below, meth, c, cells, slots, Q, rfl, C, hr, hfr, hlo, hcs, hZ⟩ := C
  exact e_goto C hd ht k
theorem f_tableOut (C : Cy B E own cc nL ret fr lo Qf) {dflt lo hi : Int} {offs : Array Int} {len : Nat} {x : Int32} {t : Nat} (hd : decode cc pc = .ok (.tableswitch dflt lo hi offs, len)) (h : x.toInt < lo ∨ hi < x.toInt) (ht : (pc : Int) + dflt = (t : Int)) (k : E t lv st σ) : E pc lv (.int x :: st) σ := by
  obtain ⟨D, ca, p, l, e, R, s, m, args, below, meth, c, cells, slots, Q, rfl, C, hr, hfr, hlo, hcs, hZ⟩ := C
  exact e_tableOut C hd h ht k
theorem f_tableIn (C : Cy B E own cc nL ret fr lo Qf) {dflt lo hi off : Int} {offs : Array Int} {len : Nat} {x : Int32} {t : Nat} (hd : decode cc pc = .ok (.tableswitch dflt lo hi offs, len)) (h1 : ¬ x.toInt < lo) (h2 : ¬ hi < x.toInt) (ho : offs[(x.toInt - lo).toNat]? = some off) (ht : (pc : Int) + off = (t : Int)) (k : E t lv st σ) : E pc lv (.int x :: st) σ := by
  obtain ⟨D, ca, p, l, e, R, s, m, args, below, meth, c, cells, slots, Q, rfl, C, hr, hfr, hlo, hcs, hZ⟩ := C
  exact e_tableIn C hd h1 h2 ho ht k
theorem f_lookup (C : Cy B E own cc nL ret fr lo Qf) {dflt off : Int} {ps : Array (Int × Int)} {len : Nat} {x : Int32} {t : Nat} (hd : decode cc pc = .ok (.lookupswitch dflt ps, len)) (hp : (ps.toList.zip (ps.toList.drop 1)).all (fun (a, next) => a.1 < next.1) = true) (ho : Op.lookupswitch.offset ps.toList dflt x.toInt = off) (ht : (pc : Int) + off = (t : Int)) (k : E t lv st σ) : E pc lv (.int x :: st) σ := by
  obtain ⟨D, ca, p, l, e, R, s, m, args, below, meth, c, cells, slots, Q, rfl, C, hr, hfr, hlo, hcs, hZ⟩ := C
  exact e_lookup C hd hp ho ht k
theorem f_ldc (C : Cy B E own cc nL ret fr lo Qf) {idx : Nat} {v : Int32} (hw : Cond.constant own idx v ∈ tbG) (hd : decode cc pc = .ok (.ldc idx, 2)) (hq : pc + 2 = q) (k : E q lv (.int v :: st) σ) : E pc lv st σ := by
  obtain ⟨D, ca, p, l, e, R, s, m, args, below, meth, c, cells, slots, Q, rfl, C, hr, hfr, hlo, hcs, hZ⟩ := C
  exact e_ldc C hw hd hq k
theorem f_ldc_w (C : Cy B E own cc nL ret fr lo Qf) {idx : Nat} {v : Int32} (hw : Cond.constant own idx v ∈ tbG) (hd : decode cc pc = .ok (.ldc_w idx, 3)) (hq : pc + 3 = q) (k : E q lv (.int v :: st) σ) : E pc lv st σ := by
  obtain ⟨D, ca, p, l, e, R, s, m, args, below, meth, c, cells, slots, Q, rfl, C, hr, hfr, hlo, hcs, hZ⟩ := C
  exact e_ldc_w C hw hd hq k
theorem f_ldc2_w (C : Cy B E own cc nL ret fr lo Qf) {idx : Nat} {v : Int64} (hw : Cond.constantLong own idx v ∈ tbG) (hd : decode cc pc = .ok (.ldc2_w idx, 3)) (hq : pc + 3 = q) (k : E q lv (.long v :: st) σ) : E pc lv st σ := by
  obtain ⟨D, ca, p, l, e, R, s, m, args, below, meth, c, cells, slots, Q, rfl, C, hr, hfr, hlo, hcs, hZ⟩ := C
  exact e_ldc2_w C hw hd hq k
theorem f_ishl (C : Cy B E own cc nL ret fr lo Qf) {x y : Int32} (hd : decode cc pc = .ok (.ishl, 1))  (hq : pc + 1 = q) (k : E q lv (.int (x <<< (y &&& 31)) :: st) σ) : E pc lv (.int y :: .int x :: st) σ := by
  obtain ⟨D, ca, p, l, e, R, s, m, args, below, meth, c, cells, slots, Q, rfl, C, hr, hfr, hlo, hcs, hZ⟩ := C
  exact e_ishl C hd hq k
theorem f_lshl (C : Cy B E own cc nL ret fr lo Qf) {x : Int64} {y : Int32} (hd : decode cc pc = .ok (.lshl, 1))  (hq : pc + 1 = q) (k : E q lv (.long (x <<< (y.toInt64 &&& 63)) :: st) σ) : E pc lv (.int y :: .long x :: st) σ := by
  obtain ⟨D, ca, p, l, e, R, s, m, args, below, meth, c, cells, slots, Q, rfl, C, hr, hfr, hlo, hcs, hZ⟩ := C
  exact e_lshl C hd hq k
theorem f_name {x : Int32} (k : ∀ y : Int32, y = x → E pc lv (.int y :: st) σ) : E pc lv (.int x :: st) σ := k x rfl
theorem f_namel {x : Int64} (k : ∀ y : Int64, y = x → E pc lv (.long y :: st) σ) : E pc lv (.long x :: st) σ := k x rfl
theorem f_names (k : ∀ τ : Sto, τ = σ → E pc lv st τ) : E pc lv st σ := k σ rfl
theorem f_inot (C : Cy B E own cc nL ret fr lo Qf) {x : Int32} (hd : decode cc pc = .ok (.ixor, 1)) (hq : pc + 1 = q) (k : E q lv (.int (~~~x) :: st) σ) : E pc lv (.int (-1) :: .int x :: st) σ := by
  refine f_ixor C hd hq ?_
  have e : x ^^^ (-1 : Int32) = ~~~x := by
    apply Int32.toBitVec_inj.mp
    have : (-1 : Int32).toBitVec = BitVec.allOnes 32 := by decide
    rw [Int32.toBitVec_xor, this, Int32.toBitVec_not, BitVec.xor_allOnes]
  rw [e]
  exact k
theorem f_ishlk (C : Cy B E own cc nL ret fr lo Qf) {x y z : Int32} (hy : y &&& 31 = z) (hd : decode cc pc = .ok (.ishl, 1)) (hq : pc + 1 = q) (k : E q lv (.int (x <<< z) :: st) σ) : E pc lv (.int y :: .int x :: st) σ := by
  subst hy
  exact f_ishl C hd hq k
theorem f_ishrk (C : Cy B E own cc nL ret fr lo Qf) {x y z : Int32} (hy : y &&& 31 = z) (hd : decode cc pc = .ok (.ishr, 1)) (hq : pc + 1 = q) (k : E q lv (.int (x >>> z) :: st) σ) : E pc lv (.int y :: .int x :: st) σ := by
  subst hy
  exact f_ishr C hd hq k
theorem f_geti (C : Cy B E own cc nL ret fr lo Qf) {idx ci k a : Nat} (F : Fl own idx ci k) (hp : fpl (fTy ci k) = 0) (ho : isO a ci) (hd : decode cc pc = .ok (.getfield idx, 3)) (hq : pc + 3 = q) (kk : E q lv (.int (gi σ a k) :: st) σ) : E pc lv (.ref (B + a) :: st) σ := by
  obtain ⟨D, ca, p, l, e, R, s, m, args, below, meth, c, cells, slots, Q, rfl, C, hr, hfr, hlo, hcs, hZ⟩ := C
  obtain ⟨i, ha, hk⟩ := ho
  exact e_geti C F hp ha hk hd hq kk
theorem f_getl (C : Cy B E own cc nL ret fr lo Qf) {idx ci k a : Nat} (F : Fl own idx ci k) (hp : fpl (fTy ci k) = 1) (ho : isO a ci) (hd : decode cc pc = .ok (.getfield idx, 3)) (hq : pc + 3 = q) (kk : E q lv (.long (gl σ a k) :: st) σ) : E pc lv (.ref (B + a) :: st) σ := by
  obtain ⟨D, ca, p, l, e, R, s, m, args, below, meth, c, cells, slots, Q, rfl, C, hr, hfr, hlo, hcs, hZ⟩ := C
  obtain ⟨i, ha, hk⟩ := ho
  exact e_getl C F hp ha hk hd hq kk
theorem f_getc (C : Cy B E own cc nL ret fr lo Qf) {idx ci k a b : Nat} (F : Fl own idx ci k) (hp : fpl (fTy ci k) = 2) (ho : isO a ci) (hc : CST a k = some b) (hz : b ≠ 0) (hd : decode cc pc = .ok (.getfield idx, 3)) (hq : pc + 3 = q) (kk : E q lv (.ref (B + b) :: st) σ) : E pc lv (.ref (B + a) :: st) σ := by
  obtain ⟨D, ca, p, l, e, R, s, m, args, below, meth, c, cells, slots, Q, rfl, C, hr, hfr, hlo, hcs, hZ⟩ := C
  obtain ⟨i, ha, hk⟩ := ho
  exact e_getr C F hp ha hk (by simp [rf, hc]) hz hd hq kk
theorem f_getm (C : Cy B E own cc nL ret fr lo Qf) {idx ci k a : Nat} (F : Fl own idx ci k) (hp : fpl (fTy ci k) = 2) (ho : isO a ci) (hc : CST a k = none) (hz : gr σ a k ≠ 0) (hd : decode cc pc = .ok (.getfield idx, 3)) (hq : pc + 3 = q) (kk : E q lv (.ref (B + gr σ a k) :: st) σ) : E pc lv (.ref (B + a) :: st) σ := by
  obtain ⟨D, ca, p, l, e, R, s, m, args, below, meth, c, cells, slots, Q, rfl, C, hr, hfr, hlo, hcs, hZ⟩ := C
  obtain ⟨i, ha, hk⟩ := ho
  exact e_getr C F hp ha hk (by simp [rf, hc]) hz hd hq kk
theorem f_puti (C : Cy B E own cc nL ret fr lo Qf) {idx ci k a : Nat} {v : Int32} (F : Fl own idx ci k) (M : FlM ci k) (hp : fTy ci k = .int) (ho : isO a ci) (hd : decode cc pc = .ok (.putfield idx, 3)) (hq : pc + 3 = q) (kk : E q lv st (si σ a k v)) : E pc lv (.int v :: .ref (B + a) :: st) σ := by
  obtain ⟨D, ca, p, l, e, R, s, m, args, below, meth, c, cells, slots, Q, rfl, C, hr, hfr, hlo, hcs, hZ⟩ := C
  obtain ⟨i, ha, hk⟩ := ho
  exact e_puti C F M hp ha hk hd hq kk
theorem f_putz (C : Cy B E own cc nL ret fr lo Qf) {idx ci k a : Nat} {v : Int32} (F : Fl own idx ci k) (M : FlM ci k) (hp : fTy ci k = .boolean) (hb : v = 0 ∨ v = 1) (ho : isO a ci) (hd : decode cc pc = .ok (.putfield idx, 3)) (hq : pc + 3 = q) (kk : E q lv st (si σ a k v)) : E pc lv (.int v :: .ref (B + a) :: st) σ := by
  obtain ⟨D, ca, p, l, e, R, s, m, args, below, meth, c, cells, slots, Q, rfl, C, hr, hfr, hlo, hcs, hZ⟩ := C
  obtain ⟨i, ha, hk⟩ := ho
  exact e_putz C F M hp hb ha hk hd hq kk
theorem f_putl (C : Cy B E own cc nL ret fr lo Qf) {idx ci k a : Nat} {v : Int64} (F : Fl own idx ci k) (M : FlM ci k) (hp : fTy ci k = .long) (ho : isO a ci) (hd : decode cc pc = .ok (.putfield idx, 3)) (hq : pc + 3 = q) (kk : E q lv st (sl σ a k v)) : E pc lv (.long v :: .ref (B + a) :: st) σ := by
  obtain ⟨D, ca, p, l, e, R, s, m, args, below, meth, c, cells, slots, Q, rfl, C, hr, hfr, hlo, hcs, hZ⟩ := C
  obtain ⟨i, ha, hk⟩ := ho
  exact e_putl C F M hp ha hk hd hq kk
theorem f_putr (C : Cy B E own cc nL ret fr lo Qf) {idx ci k a b : Nat} (F : Fl own idx ci k) (M : FlM ci k) (hp : fpl (fTy ci k) = 2) (hz : b ≠ 0) (hcn : CST a k = none) (ho : isO a ci) (hd : decode cc pc = .ok (.putfield idx, 3)) (hq : pc + 3 = q) (kk : E q lv st (sr σ a k b)) : E pc lv (.ref (B + b) :: .ref (B + a) :: st) σ := by
  obtain ⟨D, ca, p, l, e, R, s, m, args, below, meth, c, cells, slots, Q, rfl, C, hr, hfr, hlo, hcs, hZ⟩ := C
  obtain ⟨i, ha, hk⟩ := ho
  exact e_putr C F M hp hz hcn trivial ha hk hd hq kk
theorem f_iald (C : Cy B E own cc nL ret fr lo Qf) {a n j : Nat} {x : Int32} (ho : isA a 1 n) (hin : vp_in x n) (hj : x.toNatClampNeg = j) (hd : decode cc pc = .ok (.iaload, 1)) (hq : pc + 1 = q) (k : E q lv (.int (gi σ a j) :: st) σ) : E pc lv (.int x :: .ref (B + a) :: st) σ := by
  obtain ⟨D, ca, p, l, e, R, s, m, args, below, meth, c, cells, slots, Q, rfl, C, hr, hfr, hlo, hcs, hZ⟩ := C
  subst hj
  obtain ⟨i, ha, hk⟩ := ho
  exact e_iald C ha hk hin hd hq k
theorem f_bald (C : Cy B E own cc nL ret fr lo Qf) {a n j : Nat} {x : Int32} (ho : isA a 3 n) (hin : vp_in x n) (hj : x.toNatClampNeg = j) (hd : decode cc pc = .ok (.baload, 1)) (hq : pc + 1 = q) (k : E q lv (.int (gi σ a j) :: st) σ) : E pc lv (.int x :: .ref (B + a) :: st) σ := by
  obtain ⟨D, ca, p, l, e, R, s, m, args, below, meth, c, cells, slots, Q, rfl, C, hr, hfr, hlo, hcs, hZ⟩ := C
  subst hj
  obtain ⟨i, ha, hk⟩ := ho
  exact e_bald C ha hk hin hd hq k
theorem f_lald (C : Cy B E own cc nL ret fr lo Qf) {a n j : Nat} {x : Int32} (ho : isA a 2 n) (hin : vp_in x n) (hj : x.toNatClampNeg = j) (hd : decode cc pc = .ok (.laload, 1)) (hq : pc + 1 = q) (k : E q lv (.long (gl σ a j) :: st) σ) : E pc lv (.int x :: .ref (B + a) :: st) σ := by
  obtain ⟨D, ca, p, l, e, R, s, m, args, below, meth, c, cells, slots, Q, rfl, C, hr, hfr, hlo, hcs, hZ⟩ := C
  subst hj
  obtain ⟨i, ha, hk⟩ := ho
  exact e_lald C ha hk hin hd hq k
theorem f_iast (C : Cy B E own cc nL ret fr lo Qf) {a n j : Nat} {x : Int32} {v : Int32} (ho : isA a 1 n) (hin : vp_in x n) (hj : x.toNatClampNeg = j) (hd : decode cc pc = .ok (.iastore, 1)) (hq : pc + 1 = q) (k : E q lv st (si σ a j v)) : E pc lv (.int v :: .int x :: .ref (B + a) :: st) σ := by
  obtain ⟨D, ca, p, l, e, R, s, m, args, below, meth, c, cells, slots, Q, rfl, C, hr, hfr, hlo, hcs, hZ⟩ := C
  subst hj
  obtain ⟨i, ha, hk⟩ := ho
  exact e_iast C ha hk hin hd hq k
theorem f_bast (C : Cy B E own cc nL ret fr lo Qf) {a n j : Nat} {x : Int32} {v : Int32} (ho : isA a 3 n) (hin : vp_in x n) (hj : x.toNatClampNeg = j) (hd : decode cc pc = .ok (.bastore, 1)) (hq : pc + 1 = q) (k : E q lv st (si σ a j (vp_nar .byte v))) : E pc lv (.int v :: .int x :: .ref (B + a) :: st) σ := by
  obtain ⟨D, ca, p, l, e, R, s, m, args, below, meth, c, cells, slots, Q, rfl, C, hr, hfr, hlo, hcs, hZ⟩ := C
  subst hj
  obtain ⟨i, ha, hk⟩ := ho
  exact e_bast C ha hk hin hd hq k
theorem f_last (C : Cy B E own cc nL ret fr lo Qf) {a n j : Nat} {x : Int32} {v : Int64} (ho : isA a 2 n) (hin : vp_in x n) (hj : x.toNatClampNeg = j) (hd : decode cc pc = .ok (.lastore, 1)) (hq : pc + 1 = q) (k : E q lv st (sl σ a j v)) : E pc lv (.long v :: .int x :: .ref (B + a) :: st) σ := by
  obtain ⟨D, ca, p, l, e, R, s, m, args, below, meth, c, cells, slots, Q, rfl, C, hr, hfr, hlo, hcs, hZ⟩ := C
  subst hj
  obtain ⟨i, ha, hk⟩ := ho
  exact e_last C ha hk hin hd hq k
theorem f_aald4 (C : Cy B E own cc nL ret fr lo Qf) {a n b : Nat} {x : Int32} (ho : isA a 4 n) (hin : vp_in x n) (hc : CST a x.toNatClampNeg = some b) (hz : b ≠ 0) (hd : decode cc pc = .ok (.aaload, 1)) (hq : pc + 1 = q) (k : E q lv (.ref (B + b) :: st) σ) : E pc lv (.int x :: .ref (B + a) :: st) σ := by
  obtain ⟨D, ca, p, l, e, R, s, m, args, below, meth, c, cells, slots, Q, rfl, C, hr, hfr, hlo, hcs, hZ⟩ := C
  obtain ⟨i, ha, hk⟩ := ho
  exact e_aald4 C ha hk hin (by simp [rf, hc]) hz hd hq k
theorem f_aald5 (C : Cy B E own cc nL ret fr lo Qf) {a n b : Nat} {x : Int32} (ho : isA a 5 n) (hin : vp_in x n) (hc : CST a x.toNatClampNeg = some b) (hz : b ≠ 0) (hd : decode cc pc = .ok (.aaload, 1)) (hq : pc + 1 = q) (k : E q lv (.ref (B + b) :: st) σ) : E pc lv (.int x :: .ref (B + a) :: st) σ := by
  obtain ⟨D, ca, p, l, e, R, s, m, args, below, meth, c, cells, slots, Q, rfl, C, hr, hfr, hlo, hcs, hZ⟩ := C
  obtain ⟨i, ha, hk⟩ := ho
  exact e_aald5 C ha hk hin (by simp [rf, hc]) hz hd hq k
theorem f_alen1 (C : Cy B E own cc nL ret fr lo Qf) {a n : Nat} (ho : isA a 1 n) (hd : decode cc pc = .ok (.arraylength, 1)) (hq : pc + 1 = q) (k : E q lv (.int (nI n) :: st) σ) : E pc lv (.ref (B + a) :: st) σ := by
  obtain ⟨D, ca, p, l, e, R, s, m, args, below, meth, c, cells, slots, Q, rfl, C, hr, hfr, hlo, hcs, hZ⟩ := C
  obtain ⟨i, ha, hk⟩ := ho
  exact e_alen1 C ha hk hd hq k
theorem f_alen2 (C : Cy B E own cc nL ret fr lo Qf) {a n : Nat} (ho : isA a 2 n) (hd : decode cc pc = .ok (.arraylength, 1)) (hq : pc + 1 = q) (k : E q lv (.int (nI n) :: st) σ) : E pc lv (.ref (B + a) :: st) σ := by
  obtain ⟨D, ca, p, l, e, R, s, m, args, below, meth, c, cells, slots, Q, rfl, C, hr, hfr, hlo, hcs, hZ⟩ := C
  obtain ⟨i, ha, hk⟩ := ho
  exact e_alen2 C ha hk hd hq k
theorem f_alen3 (C : Cy B E own cc nL ret fr lo Qf) {a n : Nat} (ho : isA a 3 n) (hd : decode cc pc = .ok (.arraylength, 1)) (hq : pc + 1 = q) (k : E q lv (.int (nI n) :: st) σ) : E pc lv (.ref (B + a) :: st) σ := by
  obtain ⟨D, ca, p, l, e, R, s, m, args, below, meth, c, cells, slots, Q, rfl, C, hr, hfr, hlo, hcs, hZ⟩ := C
  obtain ⟨i, ha, hk⟩ := ho
  exact e_alen3 C ha hk hd hq k
theorem f_copyi (C : Cy B E own cc nL ret fr lo Qf) {idx a n0 b n1 spj dpj nj : Nat} {sp dp n : Int32} (hw1 : Cond.methodLink own idx arraycopyName ∈ tbG) (hw2 : Cond.native arraycopyName ∈ tbG) (hw3 : Cond.static arraycopyName ∈ tbG) (hw4 : Cond.initialized "java/lang/System" ∈ tbG) (hfr1 : 1 ≤ fr) (hlo1 : 26 ≤ lo) (ho : isA a 1 n0) (hob : isA b 1 n1) (h1 : ¬ sp < 0) (h2 : ¬ dp < 0) (h3 : ¬ n < 0) (hj1 : sp.toNatClampNeg = spj) (hj2 : dp.toNatClampNeg = dpj) (hj3 : n.toNatClampNeg = nj) (h4 : spj + nj ≤ n0) (h5 : dpj + nj ≤ n1) (hR2 : (st.map fun v => v.category).sum ≤ 8) (hd : decode cc pc = .ok (.invokestatic idx, 3)) (hq : pc + 3 = q) (k : E q lv st (cpi σ a spj b dpj nj)) : E pc lv (.int n :: .int dp :: .ref (B + b) :: .int sp :: .ref (B + a) :: st) σ := by
  obtain ⟨D, ca, p, l, e, R, s, m, args, below, meth, c, cells, slots, Q, rfl, C, hr, hfr, hlo, hcs, hZ⟩ := C
  obtain ⟨i, ha, hk⟩ := ho
  obtain ⟨j, hb, hkb⟩ := hob
  subst hj1
  subst hj2
  subst hj3
  have hnf : nativeFrameWords "java/lang/System" "arraycopy" 5 = 7 := by decide +kernel
  exact e_copyi C hw1 hw2 hw3 hw4 ha hk hb hkb h1 h2 h3 h4 h5 (by omega) (by rw [hnf]; omega) hd hq k
theorem f_copyl (C : Cy B E own cc nL ret fr lo Qf) {idx a n0 b n1 spj dpj nj : Nat} {sp dp n : Int32} (hw1 : Cond.methodLink own idx arraycopyName ∈ tbG) (hw2 : Cond.native arraycopyName ∈ tbG) (hw3 : Cond.static arraycopyName ∈ tbG) (hw4 : Cond.initialized "java/lang/System" ∈ tbG) (hfr1 : 1 ≤ fr) (hlo1 : 26 ≤ lo) (ho : isA a 2 n0) (hob : isA b 2 n1) (h1 : ¬ sp < 0) (h2 : ¬ dp < 0) (h3 : ¬ n < 0) (hj1 : sp.toNatClampNeg = spj) (hj2 : dp.toNatClampNeg = dpj) (hj3 : n.toNatClampNeg = nj) (h4 : spj + nj ≤ n0) (h5 : dpj + nj ≤ n1) (hR2 : (st.map fun v => v.category).sum ≤ 8) (hd : decode cc pc = .ok (.invokestatic idx, 3)) (hq : pc + 3 = q) (k : E q lv st (cpl σ a spj b dpj nj)) : E pc lv (.int n :: .int dp :: .ref (B + b) :: .int sp :: .ref (B + a) :: st) σ := by
  obtain ⟨D, ca, p, l, e, R, s, m, args, below, meth, c, cells, slots, Q, rfl, C, hr, hfr, hlo, hcs, hZ⟩ := C
  obtain ⟨i, ha, hk⟩ := ho
  obtain ⟨j, hb, hkb⟩ := hob
  subst hj1
  subst hj2
  subst hj3
  have hnf : nativeFrameWords "java/lang/System" "arraycopy" 5 = 7 := by decide +kernel
  exact e_copyl C hw1 hw2 hw3 hw4 ha hk hb hkb h1 h2 h3 h4 h5 (by omega) (by rw [hnf]; omega) hd hq k
theorem f_mmax (C : Cy B E own cc nL ret fr lo Qf) {idx : Nat} {x y : Int32} (hw1 : Cond.methodLink own idx Lib.Math.max.name ∈ tbG) (hw2 : Cond.static Lib.Math.max.name ∈ tbG) (hw3 : Cond.initialized "java/lang/Math" ∈ tbG) (hw4 : Cond.code Lib.Math.max.name Lib.Math.max.code 2 (some .int) ∈ tbG) (hf : 1 ≤ fr) (hlo1 : 21 ≤ lo) (hR2 : (st.map fun v => v.category).sum ≤ 8) (hd : decode cc pc = .ok (.invokestatic idx, 3)) (hq : pc + 3 = q) (k : E q lv (.int (if x < y then y else x) :: st) σ) : E pc lv (.int y :: .int x :: st) σ := by
  obtain ⟨D, ca, p, l, e, R, s, m, args, below, meth, c, cells, slots, Q, rfl, C, hr, hfr, hlo, hcs, hZ⟩ := C
  intro H locs ls hR hl
  subst hq
  exact va_mmax C.1 C.2.1 (C.2.2.1.trans hl.1.symm) C.2.2.2.1 (C.2.2.2.2.1 _ hw1) (C.2.2.2.2.1 _ hw2) (C.2.2.2.2.1 _ hw3) (C.2.2.2.2.1 _ hw4) (by omega) (by omega) hcs.1 hcs.2 hd (k H locs ls hR hl)
theorem f_mmin (C : Cy B E own cc nL ret fr lo Qf) {idx : Nat} {x y : Int32} (hw1 : Cond.methodLink own idx Lib.Math.min.name ∈ tbG) (hw2 : Cond.static Lib.Math.min.name ∈ tbG) (hw3 : Cond.initialized "java/lang/Math" ∈ tbG) (hw4 : Cond.code Lib.Math.min.name Lib.Math.min.code 2 (some .int) ∈ tbG) (hf : 1 ≤ fr) (hlo1 : 21 ≤ lo) (hR2 : (st.map fun v => v.category).sum ≤ 8) (hd : decode cc pc = .ok (.invokestatic idx, 3)) (hq : pc + 3 = q) (k : E q lv (.int (if y < x then y else x) :: st) σ) : E pc lv (.int y :: .int x :: st) σ := by
  obtain ⟨D, ca, p, l, e, R, s, m, args, below, meth, c, cells, slots, Q, rfl, C, hr, hfr, hlo, hcs, hZ⟩ := C
  intro H locs ls hR hl
  subst hq
  exact va_mmin C.1 C.2.1 (C.2.2.1.trans hl.1.symm) C.2.2.2.1 (C.2.2.2.2.1 _ hw1) (C.2.2.2.2.1 _ hw2) (C.2.2.2.2.1 _ hw3) (C.2.2.2.2.1 _ hw4) (by omega) (by omega) hcs.1 hcs.2 hd (k H locs ls hR hl)
theorem f_mabsl (C : Cy B E own cc nL ret fr lo Qf) {idx : Nat} {x : Int64} (hw1 : Cond.methodLink own idx Lib.MathLoose.abs_long.x ∈ tbG) (hw2 : Cond.static Lib.MathLoose.abs_long.x ∈ tbG) (hw3 : Cond.initialized "java/lang/Math" ∈ tbG) (hw4 : Cond.code Lib.MathLoose.abs_long.x Lib.MathLoose.abs_long.code 2 (some .long) ∈ tbG) (hf : 1 ≤ fr) (hlo1 : 21 ≤ lo) (hR2 : (st.map fun v => v.category).sum ≤ 8) (hd : decode cc pc = .ok (.invokestatic idx, 3)) (hq : pc + 3 = q) (k : E q lv (.long (if 0 < x then x else -x) :: st) σ) : E pc lv (.long x :: st) σ := by
  obtain ⟨D, ca, p, l, e, R, s, m, args, below, meth, c, cells, slots, Q, rfl, C, hr, hfr, hlo, hcs, hZ⟩ := C
  intro H locs ls hR hl
  subst hq
  exact va_mabs_long C.1 C.2.1 (C.2.2.1.trans hl.1.symm) C.2.2.2.1 (C.2.2.2.2.1 _ hw1) (C.2.2.2.2.1 _ hw2) (C.2.2.2.2.1 _ hw3) (C.2.2.2.2.1 _ hw4) (by omega) (by omega) hcs.1 hcs.2 hd (k H locs ls hR hl)
theorem tsw_out {lo hi : Int} {x : Int32} (n : Nat) (hn : hi < lo + n) (h : ∀ k : Nat, k < n → x.toInt ≠ lo + k) : x.toInt < lo ∨ hi < x.toInt := by
  refine Classical.byContradiction (fun hc => ?_)
  have h1 : lo ≤ x.toInt := by omega
  have h2 : x.toInt ≤ hi := by omega
  exact h (x.toInt - lo).toNat (by omega) (by omega)
theorem toInt_ne {x y : Int32} {z : Int} (hz : y.toInt = z) (h : ¬ x = y) : x.toInt ≠ z := fun e => h (Int32.toInt_inj.mp (e.trans hz.symm))

theorem f_iret {P : Int32 → Sto → Prop} (C : Cy B E own cc nL (some .int) fr lo (Zm (QFi P))) {v : Int32} (hd : decode cc pc = .ok (.ireturn, 1)) (h : P v σ) : E pc lv [.int v] σ := by
  obtain ⟨D, ca, p, l, e, R, s, m, args, below, meth, c, cells, slots, Q, rfl, C, hr, hfr, hlo, hcs, hZ⟩ := C
  obtain ⟨rfl, rfl, rfl⟩ := hZ
  intro H locs ls hR hl
  exact W.iret C.1 C.2.1 hr (fun t ht hW => ⟨⟨v, σ, rfl, h, by rw [ht]; exact hR.1, va_K.moved hW.alike C.2.2.2.2.2.1, by rw [ht]; exact Nat.le_trans C.2.2.2.2.2.2.2 hR.2.1.1⟩, hR.2.1.F ht⟩) hR.2.1.2.2 hd C.2.2.2.2.2.2.1
theorem f_zret {P : Int32 → Sto → Prop} (C : Cy B E own cc nL (some .boolean) fr lo (Zm (QFi P))) {v : Int32} (hb : v = 0 ∨ v = 1) (hd : decode cc pc = .ok (.ireturn, 1)) (h : P v σ) : E pc lv [.int v] σ := by
  obtain ⟨D, ca, p, l, e, R, s, m, args, below, meth, c, cells, slots, Q, rfl, C, hr, hfr, hlo, hcs, hZ⟩ := C
  obtain ⟨rfl, rfl, rfl⟩ := hZ
  intro H locs ls hR hl
  refine W.zret C.1 C.2.1 hr (by rcases hb with rfl | rfl <;> rfl) (fun t ht hW => ⟨⟨v, σ, rfl, h, by rw [ht]; exact hR.1, va_K.moved hW.alike C.2.2.2.2.2.1, by rw [ht]; exact Nat.le_trans C.2.2.2.2.2.2.2 hR.2.1.1⟩, hR.2.1.F ht⟩) hR.2.1.2.2 hd C.2.2.2.2.2.2.1
theorem f_lret {P : Int64 → Sto → Prop} (C : Cy B E own cc nL (some .long) fr lo (Zm (QFl P))) {v : Int64} (hd : decode cc pc = .ok (.lreturn, 1)) (h : P v σ) : E pc lv [.long v] σ := by
  obtain ⟨D, ca, p, l, e, R, s, m, args, below, meth, c, cells, slots, Q, rfl, C, hr, hfr, hlo, hcs, hZ⟩ := C
  obtain ⟨rfl, rfl, rfl⟩ := hZ
  intro H locs ls hR hl
  exact W.lret C.1 C.2.1 hr (fun t ht hW => ⟨⟨v, σ, rfl, h, by rw [ht]; exact hR.1, va_K.moved hW.alike C.2.2.2.2.2.1, by rw [ht]; exact Nat.le_trans C.2.2.2.2.2.2.2 hR.2.1.1⟩, hR.2.1.F ht⟩) hR.2.1.2.2 hd C.2.2.2.2.2.2.1
theorem f_vret {P : Sto → Prop} (C : Cy B E own cc nL none fr lo (Zm (QFv P))) (hd : decode cc pc = .ok (.return_, 1)) (h : P σ) : E pc lv [] σ := by
  obtain ⟨D, ca, p, l, e, R, s, m, args, below, meth, c, cells, slots, Q, rfl, C, hr, hfr, hlo, hcs, hZ⟩ := C
  obtain ⟨rfl, rfl, rfl⟩ := hZ
  intro H locs ls hR hl
  exact W.vret C.1 C.2.1 hr (fun t ht hW => ⟨⟨σ, rfl, h, by rw [ht]; exact hR.1, va_K.moved hW.alike C.2.2.2.2.2.1, by rw [ht]; exact Nat.le_trans C.2.2.2.2.2.2.2 hR.2.1.1⟩, hR.2.1.F ht⟩) hR.2.1.2.2 hd C.2.2.2.2.2.2.1
theorem f_callVi (C : Cy B E own cc nL ret fr lo Qf) {P : Int32 → Sto → Prop} {y : MethodName} {bytes : ByteArray} {maxL idx f2 l2 : Nat} {r2 : Option FieldType} {As : Nat → List Value} {st0 : List Value} {a ci : Nat} (hoc : isO a ci) (hcl : (vwCl[ci]?).map (·.1) = some y.cls) (hM : Ct y bytes maxL r2 f2 l2 (fun B => .ref (B + a) :: As B) σ (QFi P)) (hw1 : Cond.methodLink own idx y ∈ tbG) (hw2 : Cond.instanceMethod y ∈ tbG) (hw3 : Cond.selects y.cls y y ∈ tbG) (hw4 : Cond.initialized y.cls ∈ tbG) (hcode : Cond.code y bytes maxL r2 ∈ tbG) (np : Nat) (hdd : y.cls ≠ "java/lang/invoke/MethodHandle" ∧ y.cls ≠ "java/lang/invoke/VarHandle" ∧ (parseMethodDescriptor y.desc).map (fun d => d.parameters.length) = some np) (hnp : (As B).length = np) (hf1 : f2 + 1 ≤ fr) (hf2 : 8 + (maxL + 11) + l2 ≤ lo) (hst : (As B).reverse ++ Value.ref (B + a) :: st = st0) (hw8 : (st.map fun v => v.category).sum ≤ 8) (hd : decode cc pc = .ok (.invokevirtual idx, 3)) (hq : pc + 3 = q) (k : ∀ (r : Int32) (σ2 : Sto), P r σ2 → E q lv (.int r :: st) σ2) : E pc lv st0 σ := by
  obtain ⟨D, ca, p, l, e, R, s, m, args, below, meth, c, cells, slots, Q, rfl, C, hr, hfr, hlo, hcs, hZ⟩ := C
  intro H locs ls hR hl
  subst hq
  obtain ⟨i, ha, hk⟩ := hoc
  subst ha
  have hat := hR.1 i _ (wsOf_at hk)
  obtain ⟨q0, hq0, hob⟩ := hat
  simp only [hq0, Option.map_some, Option.some.injEq] at hcl
  have hrcv := va_recv C.2.2.2.2.2.1 hR.1 (ci := ci) (q0 := i) hq0 (wsOf_at hk)
  rw [hcl] at hrcv
  have hpre : PreV s H y.cls (B + (i + 1)) (va_Pc (.ref (B + (i + 1)) :: As B) (Inw B D ca σ)) (As B) := ⟨fun a U g mk h => h, hrcv, fun U hU hW => ⟨rfl, by rw [hU]; exact hR.1, va_K.moved hW.alike C.2.2.2.2.2.1, by rw [hU]; exact Nat.le_trans C.2.2.2.2.2.2.2 hR.2.1.1⟩⟩
  have hrun := va_runV (Ts := tbG) (rest := st) (As := As B) (H := H) (locs := locs) (cells := cells) (slots := slots) (g := F0 m pc ls st0) (l := l) (R := R) (e := e) (below := below) (meth := meth) ⟨C.1, C.2.1, C.2.2.1, C.2.2.2.1, C.2.2.2.2.1⟩ (hM l B D ca) (cwV np C.2.2.2.2.1 (fun w hw => (List.mem_append.mp hw).elim (fun hw => by rcases List.mem_cons.mp hw with rfl | hw; exact gin_one hw1; rcases List.mem_cons.mp hw with rfl | hw; exact gin_one hw2; rcases List.mem_cons.mp hw with rfl | hw; exact gin_one hw3; rcases List.mem_cons.mp hw with rfl | hw; exact gin_one hw4; cases hw) (gin_tbW hcode w)) rfl rfl rfl ⟨rfl, hdd⟩ ⟨Nat.le_trans hf1 hfr, Nat.le_trans hf2 hlo⟩) hpre rfl hnp hl.1 hst.symm (lv_room hw8) hd hcs
  refine va_calli hrun hR.2.1 (fun q _ h => h) (fun q h => h) ?_
  intro r u t H1 locs1 ht hvm hp hB _ _ hS1
  obtain ⟨hB1, hB2, hB3⟩ := hB
  rw [ht] at hB1
  exact k r u hp H1 locs1 ls ⟨hB1, hS1, trivial⟩ hl
theorem f_callSi (C : Cy B E own cc nL ret fr lo Qf) {P : Int32 → Sto → Prop} {y : MethodName} {bytes : ByteArray} {maxL idx f2 l2 : Nat} {r2 : Option FieldType} {As : Nat → List Value} {st0 : List Value}  (hM : Ct y bytes maxL r2 f2 l2 As σ (QFi P)) (hw1 : Cond.methodLink own idx y ∈ tbG) (hw2 : Cond.static y ∈ tbG) (hw4 : Cond.initialized y.cls ∈ tbG) (hcode : Cond.code y bytes maxL r2 ∈ tbG) (np : Nat) (hdd : y.cls ≠ "java/lang/invoke/MethodHandle" ∧ y.cls ≠ "java/lang/invoke/VarHandle" ∧ (parseMethodDescriptor y.desc).map (fun d => d.parameters.length) = some np) (hnp : (As B).length = np) (hf1 : f2 + 1 ≤ fr) (hf2 : 8 + (maxL + 11) + l2 ≤ lo) (hst : (As B).reverse ++ st = st0) (hw8 : (st.map fun v => v.category).sum ≤ 8) (hd : decode cc pc = .ok (.invokestatic idx, 3)) (hq : pc + 3 = q) (k : ∀ (r : Int32) (σ2 : Sto), P r σ2 → E q lv (.int r :: st) σ2) : E pc lv st0 σ := by
  obtain ⟨D, ca, p, l, e, R, s, m, args, below, meth, c, cells, slots, Q, rfl, C, hr, hfr, hlo, hcs, hZ⟩ := C
  intro H locs ls hR hl
  subst hq
  have hpre : PreS s H (va_Pc (As B) (Inw B D ca σ)) (As B) := ⟨fun a U g mk h => h, fun U hU hW => ⟨rfl, by rw [hU]; exact hR.1, va_K.moved hW.alike C.2.2.2.2.2.1, by rw [hU]; exact Nat.le_trans C.2.2.2.2.2.2.2 hR.2.1.1⟩⟩
  have hrun := va_runS (Ts := tbG) (rest := st) (As := As B) (H := H) (locs := locs) (cells := cells) (slots := slots) (g := F0 m pc ls st0) (l := l) (R := R) (e := e) (below := below) (meth := meth) ⟨C.1, C.2.1, C.2.2.1, C.2.2.2.1, C.2.2.2.2.1⟩ (hM l B D ca) (va_cwS np C.2.2.2.2.1 (fun w hw => (List.mem_append.mp hw).elim (fun hw => by rcases List.mem_cons.mp hw with rfl | hw; exact gin_one hw1; rcases List.mem_cons.mp hw with rfl | hw; exact gin_one hw2; rcases List.mem_cons.mp hw with rfl | hw; exact gin_one hw4; cases hw) (gin_tbW hcode w)) rfl rfl rfl hdd ⟨Nat.le_trans hf1 hfr, Nat.le_trans hf2 hlo⟩) hpre rfl hnp hl.1 hst.symm (lv_room hw8) hd hcs
  refine va_calli hrun hR.2.1 (fun q _ h => h) (fun q h => h) ?_
  intro r u t H1 locs1 ht hvm hp hB _ _ hS1
  obtain ⟨hB1, hB2, hB3⟩ := hB
  rw [ht] at hB1
  exact k r u hp H1 locs1 ls ⟨hB1, hS1, trivial⟩ hl
theorem f_callVl (C : Cy B E own cc nL ret fr lo Qf) {P : Int64 → Sto → Prop} {y : MethodName} {bytes : ByteArray} {maxL idx f2 l2 : Nat} {r2 : Option FieldType} {As : Nat → List Value} {st0 : List Value} {a ci : Nat} (hoc : isO a ci) (hcl : (vwCl[ci]?).map (·.1) = some y.cls) (hM : Ct y bytes maxL r2 f2 l2 (fun B => .ref (B + a) :: As B) σ (QFl P)) (hw1 : Cond.methodLink own idx y ∈ tbG) (hw2 : Cond.instanceMethod y ∈ tbG) (hw3 : Cond.selects y.cls y y ∈ tbG) (hw4 : Cond.initialized y.cls ∈ tbG) (hcode : Cond.code y bytes maxL r2 ∈ tbG) (np : Nat) (hdd : y.cls ≠ "java/lang/invoke/MethodHandle" ∧ y.cls ≠ "java/lang/invoke/VarHandle" ∧ (parseMethodDescriptor y.desc).map (fun d => d.parameters.length) = some np) (hnp : (As B).length = np) (hf1 : f2 + 1 ≤ fr) (hf2 : 8 + (maxL + 11) + l2 ≤ lo) (hst : (As B).reverse ++ Value.ref (B + a) :: st = st0) (hw8 : (st.map fun v => v.category).sum ≤ 8) (hd : decode cc pc = .ok (.invokevirtual idx, 3)) (hq : pc + 3 = q) (k : ∀ (r : Int64) (σ2 : Sto), P r σ2 → E q lv (.long r :: st) σ2) : E pc lv st0 σ := by
  obtain ⟨D, ca, p, l, e, R, s, m, args, below, meth, c, cells, slots, Q, rfl, C, hr, hfr, hlo, hcs, hZ⟩ := C
  intro H locs ls hR hl
  subst hq
  obtain ⟨i, ha, hk⟩ := hoc
  subst ha
  have hat := hR.1 i _ (wsOf_at hk)
  obtain ⟨q0, hq0, hob⟩ := hat
  simp only [hq0, Option.map_some, Option.some.injEq] at hcl
  have hrcv := va_recv C.2.2.2.2.2.1 hR.1 (ci := ci) (q0 := i) hq0 (wsOf_at hk)
  rw [hcl] at hrcv
  have hpre : PreV s H y.cls (B + (i + 1)) (va_Pc (.ref (B + (i + 1)) :: As B) (Inw B D ca σ)) (As B) := ⟨fun a U g mk h => h, hrcv, fun U hU hW => ⟨rfl, by rw [hU]; exact hR.1, va_K.moved hW.alike C.2.2.2.2.2.1, by rw [hU]; exact Nat.le_trans C.2.2.2.2.2.2.2 hR.2.1.1⟩⟩
  have hrun := va_runV (Ts := tbG) (rest := st) (As := As B) (H := H) (locs := locs) (cells := cells) (slots := slots) (g := F0 m pc ls st0) (l := l) (R := R) (e := e) (below := below) (meth := meth) ⟨C.1, C.2.1, C.2.2.1, C.2.2.2.1, C.2.2.2.2.1⟩ (hM l B D ca) (cwV np C.2.2.2.2.1 (fun w hw => (List.mem_append.mp hw).elim (fun hw => by rcases List.mem_cons.mp hw with rfl | hw; exact gin_one hw1; rcases List.mem_cons.mp hw with rfl | hw; exact gin_one hw2; rcases List.mem_cons.mp hw with rfl | hw; exact gin_one hw3; rcases List.mem_cons.mp hw with rfl | hw; exact gin_one hw4; cases hw) (gin_tbW hcode w)) rfl rfl rfl ⟨rfl, hdd⟩ ⟨Nat.le_trans hf1 hfr, Nat.le_trans hf2 hlo⟩) hpre rfl hnp hl.1 hst.symm (lv_room hw8) hd hcs
  refine va_calll hrun hR.2.1 (fun q _ h => h) (fun q h => h) ?_
  intro r u t H1 locs1 ht hvm hp hB _ _ hS1
  obtain ⟨hB1, hB2, hB3⟩ := hB
  rw [ht] at hB1
  exact k r u hp H1 locs1 ls ⟨hB1, hS1, trivial⟩ hl
theorem f_callSl (C : Cy B E own cc nL ret fr lo Qf) {P : Int64 → Sto → Prop} {y : MethodName} {bytes : ByteArray} {maxL idx f2 l2 : Nat} {r2 : Option FieldType} {As : Nat → List Value} {st0 : List Value}  (hM : Ct y bytes maxL r2 f2 l2 As σ (QFl P)) (hw1 : Cond.methodLink own idx y ∈ tbG) (hw2 : Cond.static y ∈ tbG) (hw4 : Cond.initialized y.cls ∈ tbG) (hcode : Cond.code y bytes maxL r2 ∈ tbG) (np : Nat) (hdd : y.cls ≠ "java/lang/invoke/MethodHandle" ∧ y.cls ≠ "java/lang/invoke/VarHandle" ∧ (parseMethodDescriptor y.desc).map (fun d => d.parameters.length) = some np) (hnp : (As B).length = np) (hf1 : f2 + 1 ≤ fr) (hf2 : 8 + (maxL + 11) + l2 ≤ lo) (hst : (As B).reverse ++ st = st0) (hw8 : (st.map fun v => v.category).sum ≤ 8) (hd : decode cc pc = .ok (.invokestatic idx, 3)) (hq : pc + 3 = q) (k : ∀ (r : Int64) (σ2 : Sto), P r σ2 → E q lv (.long r :: st) σ2) : E pc lv st0 σ := by
  obtain ⟨D, ca, p, l, e, R, s, m, args, below, meth, c, cells, slots, Q, rfl, C, hr, hfr, hlo, hcs, hZ⟩ := C
  intro H locs ls hR hl
  subst hq
  have hpre : PreS s H (va_Pc (As B) (Inw B D ca σ)) (As B) := ⟨fun a U g mk h => h, fun U hU hW => ⟨rfl, by rw [hU]; exact hR.1, va_K.moved hW.alike C.2.2.2.2.2.1, by rw [hU]; exact Nat.le_trans C.2.2.2.2.2.2.2 hR.2.1.1⟩⟩
  have hrun := va_runS (Ts := tbG) (rest := st) (As := As B) (H := H) (locs := locs) (cells := cells) (slots := slots) (g := F0 m pc ls st0) (l := l) (R := R) (e := e) (below := below) (meth := meth) ⟨C.1, C.2.1, C.2.2.1, C.2.2.2.1, C.2.2.2.2.1⟩ (hM l B D ca) (va_cwS np C.2.2.2.2.1 (fun w hw => (List.mem_append.mp hw).elim (fun hw => by rcases List.mem_cons.mp hw with rfl | hw; exact gin_one hw1; rcases List.mem_cons.mp hw with rfl | hw; exact gin_one hw2; rcases List.mem_cons.mp hw with rfl | hw; exact gin_one hw4; cases hw) (gin_tbW hcode w)) rfl rfl rfl hdd ⟨Nat.le_trans hf1 hfr, Nat.le_trans hf2 hlo⟩) hpre rfl hnp hl.1 hst.symm (lv_room hw8) hd hcs
  refine va_calll hrun hR.2.1 (fun q _ h => h) (fun q h => h) ?_
  intro r u t H1 locs1 ht hvm hp hB _ _ hS1
  obtain ⟨hB1, hB2, hB3⟩ := hB
  rw [ht] at hB1
  exact k r u hp H1 locs1 ls ⟨hB1, hS1, trivial⟩ hl
theorem f_callVv (C : Cy B E own cc nL ret fr lo Qf) {P : Sto → Prop} {y : MethodName} {bytes : ByteArray} {maxL idx f2 l2 : Nat} {r2 : Option FieldType} {As : Nat → List Value} {st0 : List Value} {a ci : Nat} (hoc : isO a ci) (hcl : (vwCl[ci]?).map (·.1) = some y.cls) (hM : Ct y bytes maxL r2 f2 l2 (fun B => .ref (B + a) :: As B) σ (QFv P)) (hw1 : Cond.methodLink own idx y ∈ tbG) (hw2 : Cond.instanceMethod y ∈ tbG) (hw3 : Cond.selects y.cls y y ∈ tbG) (hw4 : Cond.initialized y.cls ∈ tbG) (hcode : Cond.code y bytes maxL r2 ∈ tbG) (np : Nat) (hdd : y.cls ≠ "java/lang/invoke/MethodHandle" ∧ y.cls ≠ "java/lang/invoke/VarHandle" ∧ (parseMethodDescriptor y.desc).map (fun d => d.parameters.length) = some np) (hnp : (As B).length = np) (hf1 : f2 + 1 ≤ fr) (hf2 : 8 + (maxL + 11) + l2 ≤ lo) (hst : (As B).reverse ++ Value.ref (B + a) :: st = st0) (hw8 : (st.map fun v => v.category).sum ≤ 8) (hd : decode cc pc = .ok (.invokevirtual idx, 3)) (hq : pc + 3 = q) (k : ∀ (σ2 : Sto), P σ2 → E q lv (st) σ2) : E pc lv st0 σ := by
  obtain ⟨D, ca, p, l, e, R, s, m, args, below, meth, c, cells, slots, Q, rfl, C, hr, hfr, hlo, hcs, hZ⟩ := C
  intro H locs ls hR hl
  subst hq
  obtain ⟨i, ha, hk⟩ := hoc
  subst ha
  have hat := hR.1 i _ (wsOf_at hk)
  obtain ⟨q0, hq0, hob⟩ := hat
  simp only [hq0, Option.map_some, Option.some.injEq] at hcl
  have hrcv := va_recv C.2.2.2.2.2.1 hR.1 (ci := ci) (q0 := i) hq0 (wsOf_at hk)
  rw [hcl] at hrcv
  have hpre : PreV s H y.cls (B + (i + 1)) (va_Pc (.ref (B + (i + 1)) :: As B) (Inw B D ca σ)) (As B) := ⟨fun a U g mk h => h, hrcv, fun U hU hW => ⟨rfl, by rw [hU]; exact hR.1, va_K.moved hW.alike C.2.2.2.2.2.1, by rw [hU]; exact Nat.le_trans C.2.2.2.2.2.2.2 hR.2.1.1⟩⟩
  have hrun := va_runV (Ts := tbG) (rest := st) (As := As B) (H := H) (locs := locs) (cells := cells) (slots := slots) (g := F0 m pc ls st0) (l := l) (R := R) (e := e) (below := below) (meth := meth) ⟨C.1, C.2.1, C.2.2.1, C.2.2.2.1, C.2.2.2.2.1⟩ (hM l B D ca) (cwV np C.2.2.2.2.1 (fun w hw => (List.mem_append.mp hw).elim (fun hw => by rcases List.mem_cons.mp hw with rfl | hw; exact gin_one hw1; rcases List.mem_cons.mp hw with rfl | hw; exact gin_one hw2; rcases List.mem_cons.mp hw with rfl | hw; exact gin_one hw3; rcases List.mem_cons.mp hw with rfl | hw; exact gin_one hw4; cases hw) (gin_tbW hcode w)) rfl rfl rfl ⟨rfl, hdd⟩ ⟨Nat.le_trans hf1 hfr, Nat.le_trans hf2 hlo⟩) hpre rfl hnp hl.1 hst.symm (lv_room hw8) hd hcs
  refine va_callv hrun hR.2.1 (fun q _ h => h) (fun q h => h) ?_
  intro u t H1 locs1 ht hvm hp hB _ _ hS1
  obtain ⟨hB1, hB2, hB3⟩ := hB
  rw [ht] at hB1
  exact k u hp H1 locs1 ls ⟨hB1, hS1, trivial⟩ hl
theorem f_callSv (C : Cy B E own cc nL ret fr lo Qf) {P : Sto → Prop} {y : MethodName} {bytes : ByteArray} {maxL idx f2 l2 : Nat} {r2 : Option FieldType} {As : Nat → List Value} {st0 : List Value}  (hM : Ct y bytes maxL r2 f2 l2 As σ (QFv P)) (hw1 : Cond.methodLink own idx y ∈ tbG) (hw2 : Cond.static y ∈ tbG) (hw4 : Cond.initialized y.cls ∈ tbG) (hcode : Cond.code y bytes maxL r2 ∈ tbG) (np : Nat) (hdd : y.cls ≠ "java/lang/invoke/MethodHandle" ∧ y.cls ≠ "java/lang/invoke/VarHandle" ∧ (parseMethodDescriptor y.desc).map (fun d => d.parameters.length) = some np) (hnp : (As B).length = np) (hf1 : f2 + 1 ≤ fr) (hf2 : 8 + (maxL + 11) + l2 ≤ lo) (hst : (As B).reverse ++ st = st0) (hw8 : (st.map fun v => v.category).sum ≤ 8) (hd : decode cc pc = .ok (.invokestatic idx, 3)) (hq : pc + 3 = q) (k : ∀ (σ2 : Sto), P σ2 → E q lv (st) σ2) : E pc lv st0 σ := by
  obtain ⟨D, ca, p, l, e, R, s, m, args, below, meth, c, cells, slots, Q, rfl, C, hr, hfr, hlo, hcs, hZ⟩ := C
  intro H locs ls hR hl
  subst hq
  have hpre : PreS s H (va_Pc (As B) (Inw B D ca σ)) (As B) := ⟨fun a U g mk h => h, fun U hU hW => ⟨rfl, by rw [hU]; exact hR.1, va_K.moved hW.alike C.2.2.2.2.2.1, by rw [hU]; exact Nat.le_trans C.2.2.2.2.2.2.2 hR.2.1.1⟩⟩
  have hrun := va_runS (Ts := tbG) (rest := st) (As := As B) (H := H) (locs := locs) (cells := cells) (slots := slots) (g := F0 m pc ls st0) (l := l) (R := R) (e := e) (below := below) (meth := meth) ⟨C.1, C.2.1, C.2.2.1, C.2.2.2.1, C.2.2.2.2.1⟩ (hM l B D ca) (va_cwS np C.2.2.2.2.1 (fun w hw => (List.mem_append.mp hw).elim (fun hw => by rcases List.mem_cons.mp hw with rfl | hw; exact gin_one hw1; rcases List.mem_cons.mp hw with rfl | hw; exact gin_one hw2; rcases List.mem_cons.mp hw with rfl | hw; exact gin_one hw4; cases hw) (gin_tbW hcode w)) rfl rfl rfl hdd ⟨Nat.le_trans hf1 hfr, Nat.le_trans hf2 hlo⟩) hpre rfl hnp hl.1 hst.symm (lv_room hw8) hd hcs
  refine va_callv hrun hR.2.1 (fun q _ h => h) (fun q h => h) ?_
  intro u t H1 locs1 ht hvm hp hB _ _ hS1
  obtain ⟨hB1, hB2, hB3⟩ := hB
  rw [ht] at hB1
  exact k u hp H1 locs1 ls ⟨hB1, hS1, trivial⟩ hl
/-- the law's own: its script, its end -/
def Zl (b L : Nat) (xs : Nat → Int32) : ZF := fun B _ _ _ R s args below cells slots Q => args = #[Value.ref b] ∧ va_X b L xs s s.heap ∧ b ≤ B ∧ B + 1 = s.heap.size ∧ cells ≤ 600000 ∧ slots ≤ 7302250 ∧ R = room_1 ∧ Q = lw_Z below #[Value.ref b] s
theorem f_sld {b L : Nat} {xs : Nat → Int32} (C : Cy B E own cc nL ret fr lo (Zl b L xs)) {x : Int32} {j : Nat} (hin : vp_in x L) (hj : x.toNatClampNeg = j) (hd : decode cc pc = .ok (.iaload, 1)) (hq : pc + 1 = q) (k : E q lv (.int (xs j) :: st) σ) : E pc lv (.int x :: .ref b :: st) σ := by
  obtain ⟨D, ca, p, l, e, R, s, m, args, below, meth, c, cells, slots, Q, rfl, C, hr, hfr, hlo, hcs, hZ⟩ := C
  obtain ⟨-, hX, hb, hB, -⟩ := hZ
  intro H locs ls hR hl
  subst hq
  subst hj
  exact va_sld C.1 C.2.1 hX (by omega) (by show ¬ B < b; omega) hR.2.1 hin hd (k H locs ls hR hl)
theorem f_slen {b L : Nat} {xs : Nat → Int32} (C : Cy B E own cc nL ret fr lo (Zl b L xs)) (hd : decode cc pc = .ok (.arraylength, 1)) (hq : pc + 1 = q) (k : E q lv (.int (nI L) :: st) σ) : E pc lv (.ref b :: st) σ := by
  obtain ⟨D, ca, p, l, e, R, s, m, args, below, meth, c, cells, slots, Q, rfl, C, hr, hfr, hlo, hcs, hZ⟩ := C
  obtain ⟨-, hX, hb, hB, -⟩ := hZ
  intro H locs ls hR hl
  subst hq
  exact va_slen C.1 C.2.1 hX (by omega) (by show ¬ B < b; omega) hR.2.1 hd (k H locs ls hR hl)
theorem f_law1 {b L : Nat} {xs : Nat → Int32} (C : Cy B E own code nL ret_law fr lo (Zl b L xs)) (hd : decode code pc = .ok (.ireturn, 1)) : E pc lv [.int 1] σ := by
  obtain ⟨D, ca, p, l, e, R, s, m, args, below, meth, c, cells, slots, Q, rfl, C, hr, hfr, hlo, hcs, hZ⟩ := C
  obtain ⟨rfl, hX, hb, hB, hc, hs, rfl, rfl⟩ := hZ
  intro H locs ls hR hl
  refine va_forget (fun q hq => ?_) (W.widen hc hs (lw_ret C.1 C.2.1 hr C.2.2.2.2.2.2.1 hd))
  have := hR.2.1.2.2 q hq
  omega

end FRows
/-- a contract out of a walk -/
theorem Ct.of {y : MethodName} {cc : ByteArray} {n : Nat} {ret : Option FieldType} {fr lo : Nat} {As : Nat → List Value} {σ : Sto} {Qf : QF} (hy : plainName y.cls = true) (hlen : ∀ B, (lg_sl (As B)).length ≤ n)
    (body : ∀ (B : Nat) (E : Nat → List (Nat × Value) → List Value → Sto → Prop), Cy B E y.cls cc n ret fr lo (Zm Qf) → E 0 (lv_args 0 (As B)) [] σ) : Ct y cc n ret fr lo As σ Qf := by
  intro l B D ca
  refine Met.ofW (cc := cc) (maxL := n) (ret := ret) hy rfl ?_
  intro p e s m args below meth c s₁ Bd hml hv
  obtain ⟨rfl, hP, hK, hsz⟩ := hv
  have hts := atoms_spec (ws := tbW y cc n ret) Bd.pre
  have hown : s.vm.findClass y.cls = some m.cls := findClass_of_methodNamed Bd.named
  have hl := lv_entry (As B) (n := n) (hlen B)
  have C : Cx B D ca n y.cls cc p s m (As B).toArray meth c := ⟨Bd.exec, Bd.bytes, hml, hown, fun w hw => hts w (List.mem_cons_of_mem _ hw), hK, Bd.notSynchronized, hsz⟩
  rw [lg_entry_eq]
  exact body B _ ⟨D, ca, p, l, e, _, s, m, _, below, meth, c, 0, 0, _, rfl, C, Bd.returns, Nat.le_refl _, Nat.le_refl _, ⟨Nat.zero_le _, Nat.zero_le _⟩, rfl, rfl, rfl⟩ s.heap [] _ ⟨hP, va_S.rf, trivial⟩ hl

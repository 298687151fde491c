def sxT : List Sh := [.inl 11, .inr (1, 900), .inl 8, .inr (0, 14), .inr (0, 8), .inl 4, .inr (0, 900), .inl 4, .inr (0, 900), .inl 8, .inr (0, 14), .inr (0, 8), .inl 4, .inr (0, 900), .inl 4, .inr (0, 900), .inl 5, .inr (0, 8), .inr (0, 8), .inr (0, 8), .inr (0, 14), .inr (0, 112), .inl 0, .inr (0, 7), .inr (0, 32), .inl 10, .inl 5, .inr (0, 8), .inr (0, 8), .inr (0, 8), .inr (0, 14), .inr (0, 112), .inl 10, .inl 5, .inr (0, 8), .inr (0, 8), .inr (0, 8), .inr (0, 14), .inr (0, 112), .inl 7, .inl 2, .inr (4, 8), .inl 5, .inr (0, 8), .inr (0, 8), .inr (0, 8), .inr (0, 14), .inr (0, 112), .inl 5, .inr (0, 8), .inr (0, 8), .inr (0, 8), .inr (0, 14), .inr (0, 112), .inl 5, .inr (0, 8), .inr (0, 8), .inr (0, 8), .inr (0, 14), .inr (0, 112), .inl 5, .inr (0, 8), .inr (0, 8), .inr (0, 8), .inr (0, 14), .inr (0, 112), .inl 5, .inr (0, 8), .inr (0, 8), .inr (0, 8), .inr (0, 14), .inr (0, 112), .inl 5, .inr (0, 8), .inr (0, 8), .inr (0, 8), .inr (0, 14), .inr (0, 112), .inl 5, .inr (0, 8), .inr (0, 8), .inr (0, 8), .inr (0, 14), .inr (0, 112), .inl 5, .inr (0, 8), .inr (0, 8), .inr (0, 8), .inr (0, 14), .inr (0, 112), .inl 6, .inr (2, 64), .inr (0, 64), .inr (0, 256), .inr (0, 256), .inr (0, 8), .inl 1, .inr (0, 14), .inr (0, 14), .inr (5, 4), .inl 9, .inr (3, 40), .inl 9, .inr (3, 40), .inl 9, .inr (3, 40), .inl 9, .inr (3, 40), .inr (6, 2)]
def siT : List Sh := [.inl 3, .inl 8, .inr (0, 14), .inr (0, 8), .inl 4, .inr (0, 900), .inl 4, .inr (0, 900), .inl 5, .inr (0, 8), .inr (0, 8), .inr (0, 8), .inr (0, 14), .inr (0, 112)]
def SX (a : Nat) : Sh := if a < 109 then sxT.getD a (.inl 0) else siT.getD ((a - 109) % 14) (.inl 0)
def rxT : List (List (Option Nat)) := [[some 1, none, none, some 2, some 9, some 16, some 25, some 32, some 39, some 40, some 90, some 96, some 99, some 108], [], [none, none, none, none, none, some 3, some 4, some 5, some 7], [], [], [some 6], [], [some 8], [], [none, none, none, none, none, some 10, some 11, some 12, some 14], [], [], [some 13], [], [some 15], [], [none, some 17, some 18, some 19, some 20, some 21], [], [], [], [], [], [some 23, some 24], [], [], [some 2, some 22, some 26], [none, some 27, some 28, some 29, some 30, some 31], [], [], [], [], [], [some 2, some 22, some 33], [none, some 34, some 35, some 36, some 37, some 38], [], [], [], [], [], [some 1, some 9, some 16], [some 41], [some 42, some 48, some 54, some 60, some 66, some 72, some 78, some 84], [none, some 43, some 44, some 45, some 46, some 47], [], [], [], [], [], [none, some 49, some 50, some 51, some 52, some 53], [], [], [], [], [], [none, some 55, some 56, some 57, some 58, some 59], [], [], [], [], [], [none, some 61, some 62, some 63, some 64, some 65], [], [], [], [], [], [none, some 67, some 68, some 69, some 70, some 71], [], [], [], [], [], [none, some 73, some 74, some 75, some 76, some 77], [], [], [], [], [], [none, some 79, some 80, some 81, some 82, some 83], [], [], [], [], [], [none, some 85, some 86, some 87, some 88, some 89], [], [], [], [], [], [none, some 91, some 92, some 93, some 94, some 95], [], [], [], [], [], [some 25, none, none, none, some 97, some 98], [], [], [some 100, some 102, some 104, some 106], [none, none, none, some 101], [], [none, none, none, some 103], [], [none, none, none, some 105], [], [none, none, none, some 107], [], []]
def riT : List (List (Option Nat)) := [[some 1, some 8], [none, none, none, none, none, some 2, some 3, some 4, some 6], [], [], [some 5], [], [some 7], [], [none, some 9, some 10, some 11, some 12, some 13], [], [], [], [], []]
def RX (a j : Nat) : Option Nat := if a < 109 then (rxT.getD a []).getD j none else ((riT.getD ((a - 109) % 14) []).getD j none).map (fun d => a - (a - 109) % 14 + d)
def smT : List Sh := [.inl 12, .inr (0, 6288), .inr (2, 2), .inr (0, 900), .inr (0, 2096), .inr (0, 7), .inr (0, 900), .inr (0, 129), .inr (0, 8), .inr (0, 64), .inr (0, 8), .inr (0, 8), .inr (2, 64), .inr (0, 129), .inr (0, 4), .inr (0, 4), .inr (3, 160)]
def SM (a : Nat) : Sh := smT.getD a (.inl 0)
def rmT : List (List (Option Nat)) := [[none, some 1, some 2, some 3, some 4, none, none, none, none, none, none, none, none, none, none, some 5, some 6, some 7, some 8, none, none, some 9, some 10, some 11, some 12, none, none, none, none, some 13, some 14, some 15, some 16]]
def RM (a j : Nat) : Option Nat := (rmT.getD a []).getD j none
theorem sX0 : SX 0 = .inl 11 := rfl
theorem kX0 {N : Nat} (h : 109 ≤ N) : 0 < N := by omega
theorem sX1 : SX 1 = .inr (1, 900) := rfl
theorem kX1 {N : Nat} (h : 109 ≤ N) : 1 < N := by omega
theorem sX2 : SX 2 = .inl 8 := rfl
theorem kX2 {N : Nat} (h : 109 ≤ N) : 2 < N := by omega
theorem sX3 : SX 3 = .inr (0, 14) := rfl
theorem kX3 {N : Nat} (h : 109 ≤ N) : 3 < N := by omega
theorem sX4 : SX 4 = .inr (0, 8) := rfl
theorem kX4 {N : Nat} (h : 109 ≤ N) : 4 < N := by omega
theorem sX5 : SX 5 = .inl 4 := rfl
theorem kX5 {N : Nat} (h : 109 ≤ N) : 5 < N := by omega
theorem sX6 : SX 6 = .inr (0, 900) := rfl
theorem kX6 {N : Nat} (h : 109 ≤ N) : 6 < N := by omega
theorem sX7 : SX 7 = .inl 4 := rfl
theorem kX7 {N : Nat} (h : 109 ≤ N) : 7 < N := by omega
theorem sX8 : SX 8 = .inr (0, 900) := rfl
theorem kX8 {N : Nat} (h : 109 ≤ N) : 8 < N := by omega
theorem sX9 : SX 9 = .inl 8 := rfl
theorem kX9 {N : Nat} (h : 109 ≤ N) : 9 < N := by omega
theorem sX10 : SX 10 = .inr (0, 14) := rfl
theorem kX10 {N : Nat} (h : 109 ≤ N) : 10 < N := by omega
theorem sX11 : SX 11 = .inr (0, 8) := rfl
theorem kX11 {N : Nat} (h : 109 ≤ N) : 11 < N := by omega
theorem sX12 : SX 12 = .inl 4 := rfl
theorem kX12 {N : Nat} (h : 109 ≤ N) : 12 < N := by omega
theorem sX13 : SX 13 = .inr (0, 900) := rfl
theorem kX13 {N : Nat} (h : 109 ≤ N) : 13 < N := by omega
theorem sX14 : SX 14 = .inl 4 := rfl
theorem kX14 {N : Nat} (h : 109 ≤ N) : 14 < N := by omega
theorem sX15 : SX 15 = .inr (0, 900) := rfl
theorem kX15 {N : Nat} (h : 109 ≤ N) : 15 < N := by omega
theorem sX16 : SX 16 = .inl 5 := rfl
theorem kX16 {N : Nat} (h : 109 ≤ N) : 16 < N := by omega
theorem sX17 : SX 17 = .inr (0, 8) := rfl
theorem kX17 {N : Nat} (h : 109 ≤ N) : 17 < N := by omega
theorem sX18 : SX 18 = .inr (0, 8) := rfl
theorem kX18 {N : Nat} (h : 109 ≤ N) : 18 < N := by omega
theorem sX19 : SX 19 = .inr (0, 8) := rfl
theorem kX19 {N : Nat} (h : 109 ≤ N) : 19 < N := by omega
theorem sX20 : SX 20 = .inr (0, 14) := rfl
theorem kX20 {N : Nat} (h : 109 ≤ N) : 20 < N := by omega
theorem sX21 : SX 21 = .inr (0, 112) := rfl
theorem kX21 {N : Nat} (h : 109 ≤ N) : 21 < N := by omega
theorem sX22 : SX 22 = .inl 0 := rfl
theorem kX22 {N : Nat} (h : 109 ≤ N) : 22 < N := by omega
theorem sX23 : SX 23 = .inr (0, 7) := rfl
theorem kX23 {N : Nat} (h : 109 ≤ N) : 23 < N := by omega
theorem sX24 : SX 24 = .inr (0, 32) := rfl
theorem kX24 {N : Nat} (h : 109 ≤ N) : 24 < N := by omega
theorem sX25 : SX 25 = .inl 10 := rfl
theorem kX25 {N : Nat} (h : 109 ≤ N) : 25 < N := by omega
theorem sX26 : SX 26 = .inl 5 := rfl
theorem kX26 {N : Nat} (h : 109 ≤ N) : 26 < N := by omega
theorem sX27 : SX 27 = .inr (0, 8) := rfl
theorem kX27 {N : Nat} (h : 109 ≤ N) : 27 < N := by omega
theorem sX28 : SX 28 = .inr (0, 8) := rfl
theorem kX28 {N : Nat} (h : 109 ≤ N) : 28 < N := by omega
theorem sX29 : SX 29 = .inr (0, 8) := rfl
theorem kX29 {N : Nat} (h : 109 ≤ N) : 29 < N := by omega
theorem sX30 : SX 30 = .inr (0, 14) := rfl
theorem kX30 {N : Nat} (h : 109 ≤ N) : 30 < N := by omega
theorem sX31 : SX 31 = .inr (0, 112) := rfl
theorem kX31 {N : Nat} (h : 109 ≤ N) : 31 < N := by omega
theorem sX32 : SX 32 = .inl 10 := rfl
theorem kX32 {N : Nat} (h : 109 ≤ N) : 32 < N := by omega
theorem sX33 : SX 33 = .inl 5 := rfl
theorem kX33 {N : Nat} (h : 109 ≤ N) : 33 < N := by omega
theorem sX34 : SX 34 = .inr (0, 8) := rfl
theorem kX34 {N : Nat} (h : 109 ≤ N) : 34 < N := by omega
theorem sX35 : SX 35 = .inr (0, 8) := rfl
theorem kX35 {N : Nat} (h : 109 ≤ N) : 35 < N := by omega
theorem sX36 : SX 36 = .inr (0, 8) := rfl
theorem kX36 {N : Nat} (h : 109 ≤ N) : 36 < N := by omega
theorem sX37 : SX 37 = .inr (0, 14) := rfl
theorem kX37 {N : Nat} (h : 109 ≤ N) : 37 < N := by omega
theorem sX38 : SX 38 = .inr (0, 112) := rfl
theorem kX38 {N : Nat} (h : 109 ≤ N) : 38 < N := by omega
theorem sX39 : SX 39 = .inl 7 := rfl
theorem kX39 {N : Nat} (h : 109 ≤ N) : 39 < N := by omega
theorem sX40 : SX 40 = .inl 2 := rfl
theorem kX40 {N : Nat} (h : 109 ≤ N) : 40 < N := by omega
theorem sX41 : SX 41 = .inr (4, 8) := rfl
theorem kX41 {N : Nat} (h : 109 ≤ N) : 41 < N := by omega
theorem sX42 : SX 42 = .inl 5 := rfl
theorem kX42 {N : Nat} (h : 109 ≤ N) : 42 < N := by omega
theorem sX43 : SX 43 = .inr (0, 8) := rfl
theorem kX43 {N : Nat} (h : 109 ≤ N) : 43 < N := by omega
theorem sX44 : SX 44 = .inr (0, 8) := rfl
theorem kX44 {N : Nat} (h : 109 ≤ N) : 44 < N := by omega
theorem sX45 : SX 45 = .inr (0, 8) := rfl
theorem kX45 {N : Nat} (h : 109 ≤ N) : 45 < N := by omega
theorem sX46 : SX 46 = .inr (0, 14) := rfl
theorem kX46 {N : Nat} (h : 109 ≤ N) : 46 < N := by omega
theorem sX47 : SX 47 = .inr (0, 112) := rfl
theorem kX47 {N : Nat} (h : 109 ≤ N) : 47 < N := by omega
theorem sX48 : SX 48 = .inl 5 := rfl
theorem kX48 {N : Nat} (h : 109 ≤ N) : 48 < N := by omega
theorem sX49 : SX 49 = .inr (0, 8) := rfl
theorem kX49 {N : Nat} (h : 109 ≤ N) : 49 < N := by omega
theorem sX50 : SX 50 = .inr (0, 8) := rfl
theorem kX50 {N : Nat} (h : 109 ≤ N) : 50 < N := by omega
theorem sX51 : SX 51 = .inr (0, 8) := rfl
theorem kX51 {N : Nat} (h : 109 ≤ N) : 51 < N := by omega
theorem sX52 : SX 52 = .inr (0, 14) := rfl
theorem kX52 {N : Nat} (h : 109 ≤ N) : 52 < N := by omega
theorem sX53 : SX 53 = .inr (0, 112) := rfl
theorem kX53 {N : Nat} (h : 109 ≤ N) : 53 < N := by omega
theorem sX54 : SX 54 = .inl 5 := rfl
theorem kX54 {N : Nat} (h : 109 ≤ N) : 54 < N := by omega
theorem sX55 : SX 55 = .inr (0, 8) := rfl
theorem kX55 {N : Nat} (h : 109 ≤ N) : 55 < N := by omega
theorem sX56 : SX 56 = .inr (0, 8) := rfl
theorem kX56 {N : Nat} (h : 109 ≤ N) : 56 < N := by omega
theorem sX57 : SX 57 = .inr (0, 8) := rfl
theorem kX57 {N : Nat} (h : 109 ≤ N) : 57 < N := by omega
theorem sX58 : SX 58 = .inr (0, 14) := rfl
theorem kX58 {N : Nat} (h : 109 ≤ N) : 58 < N := by omega
theorem sX59 : SX 59 = .inr (0, 112) := rfl
theorem kX59 {N : Nat} (h : 109 ≤ N) : 59 < N := by omega
theorem sX60 : SX 60 = .inl 5 := rfl
theorem kX60 {N : Nat} (h : 109 ≤ N) : 60 < N := by omega
theorem sX61 : SX 61 = .inr (0, 8) := rfl
theorem kX61 {N : Nat} (h : 109 ≤ N) : 61 < N := by omega
theorem sX62 : SX 62 = .inr (0, 8) := rfl
theorem kX62 {N : Nat} (h : 109 ≤ N) : 62 < N := by omega
theorem sX63 : SX 63 = .inr (0, 8) := rfl
theorem kX63 {N : Nat} (h : 109 ≤ N) : 63 < N := by omega
theorem sX64 : SX 64 = .inr (0, 14) := rfl
theorem kX64 {N : Nat} (h : 109 ≤ N) : 64 < N := by omega
theorem sX65 : SX 65 = .inr (0, 112) := rfl
theorem kX65 {N : Nat} (h : 109 ≤ N) : 65 < N := by omega
theorem sX66 : SX 66 = .inl 5 := rfl
theorem kX66 {N : Nat} (h : 109 ≤ N) : 66 < N := by omega
theorem sX67 : SX 67 = .inr (0, 8) := rfl
theorem kX67 {N : Nat} (h : 109 ≤ N) : 67 < N := by omega
theorem sX68 : SX 68 = .inr (0, 8) := rfl
theorem kX68 {N : Nat} (h : 109 ≤ N) : 68 < N := by omega
theorem sX69 : SX 69 = .inr (0, 8) := rfl
theorem kX69 {N : Nat} (h : 109 ≤ N) : 69 < N := by omega
theorem sX70 : SX 70 = .inr (0, 14) := rfl
theorem kX70 {N : Nat} (h : 109 ≤ N) : 70 < N := by omega
theorem sX71 : SX 71 = .inr (0, 112) := rfl
theorem kX71 {N : Nat} (h : 109 ≤ N) : 71 < N := by omega
theorem sX72 : SX 72 = .inl 5 := rfl
theorem kX72 {N : Nat} (h : 109 ≤ N) : 72 < N := by omega
theorem sX73 : SX 73 = .inr (0, 8) := rfl
theorem kX73 {N : Nat} (h : 109 ≤ N) : 73 < N := by omega
theorem sX74 : SX 74 = .inr (0, 8) := rfl
theorem kX74 {N : Nat} (h : 109 ≤ N) : 74 < N := by omega
theorem sX75 : SX 75 = .inr (0, 8) := rfl
theorem kX75 {N : Nat} (h : 109 ≤ N) : 75 < N := by omega
theorem sX76 : SX 76 = .inr (0, 14) := rfl
theorem kX76 {N : Nat} (h : 109 ≤ N) : 76 < N := by omega
theorem sX77 : SX 77 = .inr (0, 112) := rfl
theorem kX77 {N : Nat} (h : 109 ≤ N) : 77 < N := by omega
theorem sX78 : SX 78 = .inl 5 := rfl
theorem kX78 {N : Nat} (h : 109 ≤ N) : 78 < N := by omega
theorem sX79 : SX 79 = .inr (0, 8) := rfl
theorem kX79 {N : Nat} (h : 109 ≤ N) : 79 < N := by omega
theorem sX80 : SX 80 = .inr (0, 8) := rfl
theorem kX80 {N : Nat} (h : 109 ≤ N) : 80 < N := by omega
theorem sX81 : SX 81 = .inr (0, 8) := rfl
theorem kX81 {N : Nat} (h : 109 ≤ N) : 81 < N := by omega
theorem sX82 : SX 82 = .inr (0, 14) := rfl
theorem kX82 {N : Nat} (h : 109 ≤ N) : 82 < N := by omega
theorem sX83 : SX 83 = .inr (0, 112) := rfl
theorem kX83 {N : Nat} (h : 109 ≤ N) : 83 < N := by omega
theorem sX84 : SX 84 = .inl 5 := rfl
theorem kX84 {N : Nat} (h : 109 ≤ N) : 84 < N := by omega
theorem sX85 : SX 85 = .inr (0, 8) := rfl
theorem kX85 {N : Nat} (h : 109 ≤ N) : 85 < N := by omega
theorem sX86 : SX 86 = .inr (0, 8) := rfl
theorem kX86 {N : Nat} (h : 109 ≤ N) : 86 < N := by omega
theorem sX87 : SX 87 = .inr (0, 8) := rfl
theorem kX87 {N : Nat} (h : 109 ≤ N) : 87 < N := by omega
theorem sX88 : SX 88 = .inr (0, 14) := rfl
theorem kX88 {N : Nat} (h : 109 ≤ N) : 88 < N := by omega
theorem sX89 : SX 89 = .inr (0, 112) := rfl
theorem kX89 {N : Nat} (h : 109 ≤ N) : 89 < N := by omega
theorem sX90 : SX 90 = .inl 6 := rfl
theorem kX90 {N : Nat} (h : 109 ≤ N) : 90 < N := by omega
theorem sX91 : SX 91 = .inr (2, 64) := rfl
theorem kX91 {N : Nat} (h : 109 ≤ N) : 91 < N := by omega
theorem sX92 : SX 92 = .inr (0, 64) := rfl
theorem kX92 {N : Nat} (h : 109 ≤ N) : 92 < N := by omega
theorem sX93 : SX 93 = .inr (0, 256) := rfl
theorem kX93 {N : Nat} (h : 109 ≤ N) : 93 < N := by omega
theorem sX94 : SX 94 = .inr (0, 256) := rfl
theorem kX94 {N : Nat} (h : 109 ≤ N) : 94 < N := by omega
theorem sX95 : SX 95 = .inr (0, 8) := rfl
theorem kX95 {N : Nat} (h : 109 ≤ N) : 95 < N := by omega
theorem sX96 : SX 96 = .inl 1 := rfl
theorem kX96 {N : Nat} (h : 109 ≤ N) : 96 < N := by omega
theorem sX97 : SX 97 = .inr (0, 14) := rfl
theorem kX97 {N : Nat} (h : 109 ≤ N) : 97 < N := by omega
theorem sX98 : SX 98 = .inr (0, 14) := rfl
theorem kX98 {N : Nat} (h : 109 ≤ N) : 98 < N := by omega
theorem sX99 : SX 99 = .inr (5, 4) := rfl
theorem kX99 {N : Nat} (h : 109 ≤ N) : 99 < N := by omega
theorem sX100 : SX 100 = .inl 9 := rfl
theorem kX100 {N : Nat} (h : 109 ≤ N) : 100 < N := by omega
theorem sX101 : SX 101 = .inr (3, 40) := rfl
theorem kX101 {N : Nat} (h : 109 ≤ N) : 101 < N := by omega
theorem sX102 : SX 102 = .inl 9 := rfl
theorem kX102 {N : Nat} (h : 109 ≤ N) : 102 < N := by omega
theorem sX103 : SX 103 = .inr (3, 40) := rfl
theorem kX103 {N : Nat} (h : 109 ≤ N) : 103 < N := by omega
theorem sX104 : SX 104 = .inl 9 := rfl
theorem kX104 {N : Nat} (h : 109 ≤ N) : 104 < N := by omega
theorem sX105 : SX 105 = .inr (3, 40) := rfl
theorem kX105 {N : Nat} (h : 109 ≤ N) : 105 < N := by omega
theorem sX106 : SX 106 = .inl 9 := rfl
theorem kX106 {N : Nat} (h : 109 ≤ N) : 106 < N := by omega
theorem sX107 : SX 107 = .inr (3, 40) := rfl
theorem kX107 {N : Nat} (h : 109 ≤ N) : 107 < N := by omega
theorem sX108 : SX 108 = .inr (6, 2) := rfl
theorem kX108 {N : Nat} (h : 109 ≤ N) : 108 < N := by omega
theorem rX0_0 : RX 0 0 = some 1 := rfl
theorem rX0_3 : RX 0 3 = some 2 := rfl
theorem rX0_4 : RX 0 4 = some 9 := rfl
theorem rX0_5 : RX 0 5 = some 16 := rfl
theorem rX0_6 : RX 0 6 = some 25 := rfl
theorem rX0_7 : RX 0 7 = some 32 := rfl
theorem rX0_8 : RX 0 8 = some 39 := rfl
theorem rX0_9 : RX 0 9 = some 40 := rfl
theorem rX0_10 : RX 0 10 = some 90 := rfl
theorem rX0_11 : RX 0 11 = some 96 := rfl
theorem rX0_12 : RX 0 12 = some 99 := rfl
theorem rX0_13 : RX 0 13 = some 108 := rfl
theorem rX2_5 : RX 2 5 = some 3 := rfl
theorem rX2_6 : RX 2 6 = some 4 := rfl
theorem rX2_7 : RX 2 7 = some 5 := rfl
theorem rX2_8 : RX 2 8 = some 7 := rfl
theorem rX5_0 : RX 5 0 = some 6 := rfl
theorem rX7_0 : RX 7 0 = some 8 := rfl
theorem rX9_5 : RX 9 5 = some 10 := rfl
theorem rX9_6 : RX 9 6 = some 11 := rfl
theorem rX9_7 : RX 9 7 = some 12 := rfl
theorem rX9_8 : RX 9 8 = some 14 := rfl
theorem rX12_0 : RX 12 0 = some 13 := rfl
theorem rX14_0 : RX 14 0 = some 15 := rfl
theorem rX16_1 : RX 16 1 = some 17 := rfl
theorem rX16_2 : RX 16 2 = some 18 := rfl
theorem rX16_3 : RX 16 3 = some 19 := rfl
theorem rX16_4 : RX 16 4 = some 20 := rfl
theorem rX16_5 : RX 16 5 = some 21 := rfl
theorem rX22_0 : RX 22 0 = some 23 := rfl
theorem rX22_1 : RX 22 1 = some 24 := rfl
theorem rX25_0 : RX 25 0 = some 2 := rfl
theorem rX25_1 : RX 25 1 = some 22 := rfl
theorem rX25_2 : RX 25 2 = some 26 := rfl
theorem rX26_1 : RX 26 1 = some 27 := rfl
theorem rX26_2 : RX 26 2 = some 28 := rfl
theorem rX26_3 : RX 26 3 = some 29 := rfl
theorem rX26_4 : RX 26 4 = some 30 := rfl
theorem rX26_5 : RX 26 5 = some 31 := rfl
theorem rX32_0 : RX 32 0 = some 2 := rfl
theorem rX32_1 : RX 32 1 = some 22 := rfl
theorem rX32_2 : RX 32 2 = some 33 := rfl
theorem rX33_1 : RX 33 1 = some 34 := rfl
theorem rX33_2 : RX 33 2 = some 35 := rfl
theorem rX33_3 : RX 33 3 = some 36 := rfl
theorem rX33_4 : RX 33 4 = some 37 := rfl
theorem rX33_5 : RX 33 5 = some 38 := rfl
theorem rX39_0 : RX 39 0 = some 1 := rfl
theorem rX39_1 : RX 39 1 = some 9 := rfl
theorem rX39_2 : RX 39 2 = some 16 := rfl
theorem rX40_0 : RX 40 0 = some 41 := rfl
theorem rX41_0 : RX 41 0 = some 42 := rfl
theorem rX41_1 : RX 41 1 = some 48 := rfl
theorem rX41_2 : RX 41 2 = some 54 := rfl
theorem rX41_3 : RX 41 3 = some 60 := rfl
theorem rX41_4 : RX 41 4 = some 66 := rfl
theorem rX41_5 : RX 41 5 = some 72 := rfl
theorem rX41_6 : RX 41 6 = some 78 := rfl
theorem rX41_7 : RX 41 7 = some 84 := rfl
theorem rX42_1 : RX 42 1 = some 43 := rfl
theorem rX42_2 : RX 42 2 = some 44 := rfl
theorem rX42_3 : RX 42 3 = some 45 := rfl
theorem rX42_4 : RX 42 4 = some 46 := rfl
theorem rX42_5 : RX 42 5 = some 47 := rfl
theorem rX48_1 : RX 48 1 = some 49 := rfl
theorem rX48_2 : RX 48 2 = some 50 := rfl
theorem rX48_3 : RX 48 3 = some 51 := rfl
theorem rX48_4 : RX 48 4 = some 52 := rfl
theorem rX48_5 : RX 48 5 = some 53 := rfl
theorem rX54_1 : RX 54 1 = some 55 := rfl
theorem rX54_2 : RX 54 2 = some 56 := rfl
theorem rX54_3 : RX 54 3 = some 57 := rfl
theorem rX54_4 : RX 54 4 = some 58 := rfl
theorem rX54_5 : RX 54 5 = some 59 := rfl
theorem rX60_1 : RX 60 1 = some 61 := rfl
theorem rX60_2 : RX 60 2 = some 62 := rfl
theorem rX60_3 : RX 60 3 = some 63 := rfl
theorem rX60_4 : RX 60 4 = some 64 := rfl
theorem rX60_5 : RX 60 5 = some 65 := rfl
theorem rX66_1 : RX 66 1 = some 67 := rfl
theorem rX66_2 : RX 66 2 = some 68 := rfl
theorem rX66_3 : RX 66 3 = some 69 := rfl
theorem rX66_4 : RX 66 4 = some 70 := rfl
theorem rX66_5 : RX 66 5 = some 71 := rfl
theorem rX72_1 : RX 72 1 = some 73 := rfl
theorem rX72_2 : RX 72 2 = some 74 := rfl
theorem rX72_3 : RX 72 3 = some 75 := rfl
theorem rX72_4 : RX 72 4 = some 76 := rfl
theorem rX72_5 : RX 72 5 = some 77 := rfl
theorem rX78_1 : RX 78 1 = some 79 := rfl
theorem rX78_2 : RX 78 2 = some 80 := rfl
theorem rX78_3 : RX 78 3 = some 81 := rfl
theorem rX78_4 : RX 78 4 = some 82 := rfl
theorem rX78_5 : RX 78 5 = some 83 := rfl
theorem rX84_1 : RX 84 1 = some 85 := rfl
theorem rX84_2 : RX 84 2 = some 86 := rfl
theorem rX84_3 : RX 84 3 = some 87 := rfl
theorem rX84_4 : RX 84 4 = some 88 := rfl
theorem rX84_5 : RX 84 5 = some 89 := rfl
theorem rX90_1 : RX 90 1 = some 91 := rfl
theorem rX90_2 : RX 90 2 = some 92 := rfl
theorem rX90_3 : RX 90 3 = some 93 := rfl
theorem rX90_4 : RX 90 4 = some 94 := rfl
theorem rX90_5 : RX 90 5 = some 95 := rfl
theorem rX96_0 : RX 96 0 = some 25 := rfl
theorem rX96_4 : RX 96 4 = some 97 := rfl
theorem rX96_5 : RX 96 5 = some 98 := rfl
theorem rX99_0 : RX 99 0 = some 100 := rfl
theorem rX99_1 : RX 99 1 = some 102 := rfl
theorem rX99_2 : RX 99 2 = some 104 := rfl
theorem rX99_3 : RX 99 3 = some 106 := rfl
theorem rX100_3 : RX 100 3 = some 101 := rfl
theorem rX102_3 : RX 102 3 = some 103 := rfl
theorem rX104_3 : RX 104 3 = some 105 := rfl
theorem rX106_3 : RX 106 3 = some 107 := rfl
theorem sM0 : SM 0 = .inl 12 := rfl
theorem kM0 : 0 < 17 := by decide
theorem sM1 : SM 1 = .inr (0, 6288) := rfl
theorem kM1 : 1 < 17 := by decide
theorem sM2 : SM 2 = .inr (2, 2) := rfl
theorem kM2 : 2 < 17 := by decide
theorem sM3 : SM 3 = .inr (0, 900) := rfl
theorem kM3 : 3 < 17 := by decide
theorem sM4 : SM 4 = .inr (0, 2096) := rfl
theorem kM4 : 4 < 17 := by decide
theorem sM5 : SM 5 = .inr (0, 7) := rfl
theorem kM5 : 5 < 17 := by decide
theorem sM6 : SM 6 = .inr (0, 900) := rfl
theorem kM6 : 6 < 17 := by decide
theorem sM7 : SM 7 = .inr (0, 129) := rfl
theorem kM7 : 7 < 17 := by decide
theorem sM8 : SM 8 = .inr (0, 8) := rfl
theorem kM8 : 8 < 17 := by decide
theorem sM9 : SM 9 = .inr (0, 64) := rfl
theorem kM9 : 9 < 17 := by decide
theorem sM10 : SM 10 = .inr (0, 8) := rfl
theorem kM10 : 10 < 17 := by decide
theorem sM11 : SM 11 = .inr (0, 8) := rfl
theorem kM11 : 11 < 17 := by decide
theorem sM12 : SM 12 = .inr (2, 64) := rfl
theorem kM12 : 12 < 17 := by decide
theorem sM13 : SM 13 = .inr (0, 129) := rfl
theorem kM13 : 13 < 17 := by decide
theorem sM14 : SM 14 = .inr (0, 4) := rfl
theorem kM14 : 14 < 17 := by decide
theorem sM15 : SM 15 = .inr (0, 4) := rfl
theorem kM15 : 15 < 17 := by decide
theorem sM16 : SM 16 = .inr (3, 160) := rfl
theorem kM16 : 16 < 17 := by decide
theorem rM0_1 : RM 0 1 = some 1 := rfl
theorem rM0_2 : RM 0 2 = some 2 := rfl
theorem rM0_3 : RM 0 3 = some 3 := rfl
theorem rM0_4 : RM 0 4 = some 4 := rfl
theorem rM0_15 : RM 0 15 = some 5 := rfl
theorem rM0_16 : RM 0 16 = some 6 := rfl
theorem rM0_17 : RM 0 17 = some 7 := rfl
theorem rM0_18 : RM 0 18 = some 8 := rfl
theorem rM0_21 : RM 0 21 = some 9 := rfl
theorem rM0_22 : RM 0 22 = some 10 := rfl
theorem rM0_23 : RM 0 23 = some 11 := rfl
theorem rM0_24 : RM 0 24 = some 12 := rfl
theorem rM0_29 : RM 0 29 = some 13 := rfl
theorem rM0_30 : RM 0 30 = some 14 := rfl
theorem rM0_31 : RM 0 31 = some 15 := rfl
theorem rM0_32 : RM 0 32 = some 16 := rfl
def isLife (N a : Nat) : Prop := a + 5 < N ∧ SX a = .inl 5 ∧ SX (a + 1) = .inr (0, 8) ∧ SX (a + 2) = .inr (0, 8) ∧ SX (a + 3) = .inr (0, 8) ∧ SX (a + 4) = .inr (0, 14) ∧ SX (a + 5) = .inr (0, 112) ∧ RX a 1 = some (a + 1) ∧ RX a 2 = some (a + 2) ∧ RX a 3 = some (a + 3) ∧ RX a 4 = some (a + 4) ∧ RX a 5 = some (a + 5)
def isLaw (N a : Nat) : Prop := a + 1 < N ∧ SX a = .inl 4 ∧ SX (a + 1) = .inr (0, 900) ∧ RX a 0 = some (a + 1)
def isRules (N a : Nat) : Prop := a + 6 < N ∧ SX a = .inl 8 ∧ SX (a + 1) = .inr (0, 14) ∧ SX (a + 2) = .inr (0, 8) ∧ RX a 5 = some (a + 1) ∧ RX a 6 = some (a + 2) ∧ RX a 7 = some (a + 3) ∧ RX a 8 = some (a + 5) ∧ isLaw N (a + 3) ∧ isLaw N (a + 5)
def isWorld (N a : Nat) : Prop := a < N ∧ SX a = .inl 10 ∧ RX a 0 = some 2 ∧ RX a 1 = some 22 ∧ RX a 2 = some (a + 1) ∧ isLife N (a + 1)
def isTray (N a : Nat) : Prop := a + 1 < N ∧ SX a = .inl 9 ∧ SX (a + 1) = .inr (3, 40) ∧ RX a 3 = some (a + 1)
def isImage (N a : Nat) : Prop := a < N ∧ SX a = .inl 3 ∧ RX a 0 = some (a + 1) ∧ RX a 1 = some (a + 8) ∧ isRules N (a + 1) ∧ isLife N (a + 8)
theorem isLife.s {N a : Nat} (h : isLife N a) : SX a = .inl 5 := h.2.1
theorem isLife.s1 {N a : Nat} (h : isLife N a) : SX (a + 1) = .inr (0, 8) := h.2.2.1
theorem isLife.r1 {N a : Nat} (h : isLife N a) : RX a 1 = some (a + 1) := h.2.2.2.2.2.2.2.1
theorem isLife.s2 {N a : Nat} (h : isLife N a) : SX (a + 2) = .inr (0, 8) := h.2.2.2.1
theorem isLife.r2 {N a : Nat} (h : isLife N a) : RX a 2 = some (a + 2) := h.2.2.2.2.2.2.2.2.1
theorem isLife.s3 {N a : Nat} (h : isLife N a) : SX (a + 3) = .inr (0, 8) := h.2.2.2.2.1
theorem isLife.r3 {N a : Nat} (h : isLife N a) : RX a 3 = some (a + 3) := h.2.2.2.2.2.2.2.2.2.1
theorem isLife.s4 {N a : Nat} (h : isLife N a) : SX (a + 4) = .inr (0, 14) := h.2.2.2.2.2.1
theorem isLife.r4 {N a : Nat} (h : isLife N a) : RX a 4 = some (a + 4) := h.2.2.2.2.2.2.2.2.2.2.1
theorem isLife.s5 {N a : Nat} (h : isLife N a) : SX (a + 5) = .inr (0, 112) := h.2.2.2.2.2.2.1
theorem isLife.r5 {N a : Nat} (h : isLife N a) : RX a 5 = some (a + 5) := h.2.2.2.2.2.2.2.2.2.2.2
theorem isLife.k {N a : Nat} (h : isLife N a) : a < N := by have := h.1; omega
theorem isLife.k1 {N a : Nat} (h : isLife N a) : a + 1 < N := by have := h.1; omega
theorem isLife.k2 {N a : Nat} (h : isLife N a) : a + 2 < N := by have := h.1; omega
theorem isLife.k3 {N a : Nat} (h : isLife N a) : a + 3 < N := by have := h.1; omega
theorem isLife.k4 {N a : Nat} (h : isLife N a) : a + 4 < N := by have := h.1; omega
theorem isLife.k5 {N a : Nat} (h : isLife N a) : a + 5 < N := by have := h.1; omega
theorem isLaw.s {N a : Nat} (h : isLaw N a) : SX a = .inl 4 := h.2.1
theorem isLaw.s1 {N a : Nat} (h : isLaw N a) : SX (a + 1) = .inr (0, 900) := h.2.2.1
theorem isLaw.r0 {N a : Nat} (h : isLaw N a) : RX a 0 = some (a + 1) := h.2.2.2
theorem isLaw.k {N a : Nat} (h : isLaw N a) : a < N := by have := h.1; omega
theorem isLaw.k1 {N a : Nat} (h : isLaw N a) : a + 1 < N := by have := h.1; omega
theorem isRules.s {N a : Nat} (h : isRules N a) : SX a = .inl 8 := h.2.1
theorem isRules.s1 {N a : Nat} (h : isRules N a) : SX (a + 1) = .inr (0, 14) := h.2.2.1
theorem isRules.s2 {N a : Nat} (h : isRules N a) : SX (a + 2) = .inr (0, 8) := h.2.2.2.1
theorem isRules.r5 {N a : Nat} (h : isRules N a) : RX a 5 = some (a + 1) := h.2.2.2.2.1
theorem isRules.r6 {N a : Nat} (h : isRules N a) : RX a 6 = some (a + 2) := h.2.2.2.2.2.1
theorem isRules.r7 {N a : Nat} (h : isRules N a) : RX a 7 = some (a + 3) := h.2.2.2.2.2.2.1
theorem isRules.r8 {N a : Nat} (h : isRules N a) : RX a 8 = some (a + 5) := h.2.2.2.2.2.2.2.1
theorem isRules.l7 {N a : Nat} (h : isRules N a) : isLaw N (a + 3) := h.2.2.2.2.2.2.2.2.1
theorem isRules.l8 {N a : Nat} (h : isRules N a) : isLaw N (a + 5) := h.2.2.2.2.2.2.2.2.2
theorem isRules.k {N a : Nat} (h : isRules N a) : a < N := by have := h.1; omega
theorem isRules.k1 {N a : Nat} (h : isRules N a) : a + 1 < N := by have := h.1; omega
theorem isRules.k2 {N a : Nat} (h : isRules N a) : a + 2 < N := by have := h.1; omega
theorem isWorld.s {N a : Nat} (h : isWorld N a) : SX a = .inl 10 := h.2.1
theorem isWorld.r0 {N a : Nat} (h : isWorld N a) : RX a 0 = some 2 := h.2.2.1
theorem isWorld.r1 {N a : Nat} (h : isWorld N a) : RX a 1 = some 22 := h.2.2.2.1
theorem isWorld.r2 {N a : Nat} (h : isWorld N a) : RX a 2 = some (a + 1) := h.2.2.2.2.1
theorem isWorld.life {N a : Nat} (h : isWorld N a) : isLife N (a + 1) := h.2.2.2.2.2
theorem isWorld.k {N a : Nat} (h : isWorld N a) : a < N := by have := h.1; omega
theorem isTray.s {N a : Nat} (h : isTray N a) : SX a = .inl 9 := h.2.1
theorem isTray.s1 {N a : Nat} (h : isTray N a) : SX (a + 1) = .inr (3, 40) := h.2.2.1
theorem isTray.r3 {N a : Nat} (h : isTray N a) : RX a 3 = some (a + 1) := h.2.2.2
theorem isTray.k {N a : Nat} (h : isTray N a) : a < N := by have := h.1; omega
theorem isTray.k1 {N a : Nat} (h : isTray N a) : a + 1 < N := by have := h.1; omega
theorem isImage.s {N a : Nat} (h : isImage N a) : SX a = .inl 3 := h.2.1
theorem isImage.r0 {N a : Nat} (h : isImage N a) : RX a 0 = some (a + 1) := h.2.2.1
theorem isImage.r1 {N a : Nat} (h : isImage N a) : RX a 1 = some (a + 8) := h.2.2.2.1
theorem isImage.ru {N a : Nat} (h : isImage N a) : isRules N (a + 1) := h.2.2.2.2.1
theorem isImage.li {N a : Nat} (h : isImage N a) : isLife N (a + 8) := h.2.2.2.2.2
theorem isImage.k {N a : Nat} (h : isImage N a) : a < N := by have := h.1; omega
theorem iX2 {N : Nat} (h : 109 ≤ N) : isRules N 2 := ⟨by omega, rfl, rfl, rfl, rfl, rfl, rfl, rfl, ⟨by omega, rfl, rfl, rfl⟩, ⟨by omega, rfl, rfl, rfl⟩⟩
theorem iX5 {N : Nat} (h : 109 ≤ N) : isLaw N 5 := ⟨by omega, rfl, rfl, rfl⟩
theorem iX7 {N : Nat} (h : 109 ≤ N) : isLaw N 7 := ⟨by omega, rfl, rfl, rfl⟩
theorem iX9 {N : Nat} (h : 109 ≤ N) : isRules N 9 := ⟨by omega, rfl, rfl, rfl, rfl, rfl, rfl, rfl, ⟨by omega, rfl, rfl, rfl⟩, ⟨by omega, rfl, rfl, rfl⟩⟩
theorem iX12 {N : Nat} (h : 109 ≤ N) : isLaw N 12 := ⟨by omega, rfl, rfl, rfl⟩
theorem iX14 {N : Nat} (h : 109 ≤ N) : isLaw N 14 := ⟨by omega, rfl, rfl, rfl⟩
theorem iX16 {N : Nat} (h : 109 ≤ N) : isLife N 16 := ⟨by omega, rfl, rfl, rfl, rfl, rfl, rfl, rfl, rfl, rfl, rfl, rfl⟩
theorem iX25 {N : Nat} (h : 109 ≤ N) : isWorld N 25 := ⟨by omega, rfl, rfl, rfl, rfl, ⟨by omega, rfl, rfl, rfl, rfl, rfl, rfl, rfl, rfl, rfl, rfl, rfl⟩⟩
theorem iX26 {N : Nat} (h : 109 ≤ N) : isLife N 26 := ⟨by omega, rfl, rfl, rfl, rfl, rfl, rfl, rfl, rfl, rfl, rfl, rfl⟩
theorem iX32 {N : Nat} (h : 109 ≤ N) : isWorld N 32 := ⟨by omega, rfl, rfl, rfl, rfl, ⟨by omega, rfl, rfl, rfl, rfl, rfl, rfl, rfl, rfl, rfl, rfl, rfl⟩⟩
theorem iX33 {N : Nat} (h : 109 ≤ N) : isLife N 33 := ⟨by omega, rfl, rfl, rfl, rfl, rfl, rfl, rfl, rfl, rfl, rfl, rfl⟩
theorem iX42 {N : Nat} (h : 109 ≤ N) : isLife N 42 := ⟨by omega, rfl, rfl, rfl, rfl, rfl, rfl, rfl, rfl, rfl, rfl, rfl⟩
theorem iX48 {N : Nat} (h : 109 ≤ N) : isLife N 48 := ⟨by omega, rfl, rfl, rfl, rfl, rfl, rfl, rfl, rfl, rfl, rfl, rfl⟩
theorem iX54 {N : Nat} (h : 109 ≤ N) : isLife N 54 := ⟨by omega, rfl, rfl, rfl, rfl, rfl, rfl, rfl, rfl, rfl, rfl, rfl⟩
theorem iX60 {N : Nat} (h : 109 ≤ N) : isLife N 60 := ⟨by omega, rfl, rfl, rfl, rfl, rfl, rfl, rfl, rfl, rfl, rfl, rfl⟩
theorem iX66 {N : Nat} (h : 109 ≤ N) : isLife N 66 := ⟨by omega, rfl, rfl, rfl, rfl, rfl, rfl, rfl, rfl, rfl, rfl, rfl⟩
theorem iX72 {N : Nat} (h : 109 ≤ N) : isLife N 72 := ⟨by omega, rfl, rfl, rfl, rfl, rfl, rfl, rfl, rfl, rfl, rfl, rfl⟩
theorem iX78 {N : Nat} (h : 109 ≤ N) : isLife N 78 := ⟨by omega, rfl, rfl, rfl, rfl, rfl, rfl, rfl, rfl, rfl, rfl, rfl⟩
theorem iX84 {N : Nat} (h : 109 ≤ N) : isLife N 84 := ⟨by omega, rfl, rfl, rfl, rfl, rfl, rfl, rfl, rfl, rfl, rfl, rfl⟩
theorem iX100 {N : Nat} (h : 109 ≤ N) : isTray N 100 := ⟨by omega, rfl, rfl, rfl⟩
theorem iX102 {N : Nat} (h : 109 ≤ N) : isTray N 102 := ⟨by omega, rfl, rfl, rfl⟩
theorem iX104 {N : Nat} (h : 109 ≤ N) : isTray N 104 := ⟨by omega, rfl, rfl, rfl⟩
theorem iX106 {N : Nat} (h : 109 ≤ N) : isTray N 106 := ⟨by omega, rfl, rfl, rfl⟩
theorem rPast : ∀ j, j < 8 → RX 41 j = some (42 + 6 * j) := by decide +kernel
theorem rTrays : ∀ j, j < 4 → RX 99 j = some (100 + 2 * j) := by decide +kernel
theorem lifePast {N : Nat} (h : 109 ≤ N) {i : Int32} (hi : vp_in i 8) : isLife N (42 + 6 * ix i) := by
  have hlt : i.toNatClampNeg < 8 := Nat.not_le.mp fun q => hi (Or.inr q)
  show isLife N (42 + 6 * i.toNatClampNeg)
  generalize i.toNatClampNeg = j at hlt
  match j, hlt with
  | 0, _ => exact iX42 h
  | 1, _ => exact iX48 h
  | 2, _ => exact iX54 h
  | 3, _ => exact iX60 h
  | 4, _ => exact iX66 h
  | 5, _ => exact iX72 h
  | 6, _ => exact iX78 h
  | 7, _ => exact iX84 h
  | n + 8, q => omega
theorem trayAt {N : Nat} (h : 109 ≤ N) {i : Int32} (hi : vp_in i 4) : isTray N (100 + 2 * ix i) := by
  have hlt : i.toNatClampNeg < 4 := Nat.not_le.mp fun q => hi (Or.inr q)
  show isTray N (100 + 2 * i.toNatClampNeg)
  generalize i.toNatClampNeg = j at hlt
  match j, hlt with
  | 0, _ => exact iX100 h
  | 1, _ => exact iX102 h
  | 2, _ => exact iX104 h
  | 3, _ => exact iX106 h
  | n + 4, q => omega
def okl (v : Int32) : Bool := decide (v = 12 ∨ v = 14)
theorem okl_d {v : Int32} (h : okl v = true) : dcr v = some (ix v) := by
  rcases of_decide_eq_true h with rfl | rfl <;> rfl
theorem okl_law {N : Nat} (hN : 109 ≤ N) {v : Int32} (h : okl v = true) : isLaw N (ix v) := by
  rcases of_decide_eq_true h with rfl | rfl
  · exact iX12 hN
  · exact iX14 hN
def oki (N : Nat) (v : Int32) : Bool := decide ((v = 109 ∧ 123 ≤ N) ∨ (v = 123 ∧ 137 ≤ N))
theorem oki_d {N : Nat} {v : Int32} (h : oki N v = true) : dcr v = some (ix v) := by
  rcases of_decide_eq_true h with ⟨rfl, _⟩ | ⟨rfl, _⟩ <;> rfl
theorem img0 {N : Nat} (h : 123 ≤ N) : isImage N 109 := ⟨by omega, rfl, rfl, rfl, ⟨by omega, rfl, rfl, rfl, rfl, rfl, rfl, rfl, ⟨by omega, rfl, rfl, rfl⟩, ⟨by omega, rfl, rfl, rfl⟩⟩, ⟨by omega, rfl, rfl, rfl, rfl, rfl, rfl, rfl, rfl, rfl, rfl, rfl⟩⟩
theorem img1 {N : Nat} (h : 137 ≤ N) : isImage N 123 := ⟨by omega, rfl, rfl, rfl, ⟨by omega, rfl, rfl, rfl, rfl, rfl, rfl, rfl, ⟨by omega, rfl, rfl, rfl⟩, ⟨by omega, rfl, rfl, rfl⟩⟩, ⟨by omega, rfl, rfl, rfl, rfl, rfl, rfl, rfl, rfl, rfl, rfl, rfl⟩⟩
theorem oki_img {N : Nat} {v : Int32} (h : oki N v = true) : isImage N (ix v) := by
  rcases of_decide_eq_true h with ⟨rfl, q⟩ | ⟨rfl, q⟩
  · exact img0 q
  · exact img1 q
def FU : Nat := 20000

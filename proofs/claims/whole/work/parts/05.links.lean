-- needs: 01
/-- links of methods: class number, place, number of the method, 1 if of another class of the nest and private -/
def aMl_0 : List (Nat × Nat × Nat × Nat) := [(9, 13, 2, 0), (2, 19, 4, 0), (0, 71, 10, 1), (0, 59, 8, 0), (0, 66, 9, 1), (0, 74, 11, 0), (0, 78, 12, 0), (0, 81, 14, 0), (0, 30, 6, 0), (0, 40, 1, 0), (0, 52, 13, 0), (0, 56, 15, 0), (0, 63, 5, 0), (1, 17, 23, 1), (1, 29, 25, 0), (2, 31, 10, 0), (2, 25, 1, 0), (2, 35, 9, 0), (3, 47, 1, 0), (3, 53, 36, 0), (3, 25, 8, 1), (3, 34, 33, 1), (3, 43, 14, 1), (4, 106, 1, 0), (4, 112, 29, 1), (4, 56, 39, 0), (4, 118, 40, 0), (4, 121, 34, 1), (4, 131, 30, 1), (4, 134, 28, 1), (4, 125, 43, 0), (4, 128, 44, 0)]
def aMl_1 : List (Nat × Nat × Nat × Nat) := [(4, 97, 41, 0), (4, 100, 42, 0), (4, 103, 45, 0), (4, 81, 49, 0), (4, 85, 51, 0), (4, 88, 50, 0), (4, 63, 52, 0), (4, 66, 46, 0), (5, 20, 1, 0), (6, 105, 34, 1), (6, 101, 28, 1), (6, 91, 61, 0), (6, 94, 62, 0), (6, 225, 20, 1), (6, 143, 0, 0), (6, 186, 67, 0), (6, 204, 16, 1), (6, 166, 66, 0), (6, 148, 68, 0), (6, 182, 57, 1), (6, 140, 33, 1), (6, 246, 27, 1), (6, 289, 70, 0), (6, 295, 71, 0), (6, 175, 14, 1), (6, 129, 47, 1), (6, 78, 32, 1), (6, 85, 1, 0), (6, 109, 29, 1), (6, 116, 35, 1), (6, 196, 21, 1), (6, 200, 76, 0)]
def aMl_2 : List (Nat × Nat × Nat × Nat) := [(6, 157, 19, 1), (6, 160, 8, 1), (6, 217, 38, 1), (6, 221, 22, 1), (6, 9, 31, 1), (6, 23, 48, 1), (6, 43, 18, 1), (6, 66, 24, 1), (6, 77, 56, 1), (6, 113, 30, 1), (6, 248, 26, 1), (6, 179, 80, 0), (6, 189, 59, 1), (6, 97, 10, 1), (6, 284, 6, 0), (6, 255, 55, 1), (6, 237, 36, 1), (6, 258, 58, 1), (6, 192, 60, 0), (6, 251, 54, 1), (6, 126, 3, 0), (6, 240, 37, 1), (6, 136, 53, 1), (6, 153, 7, 1), (6, 163, 17, 1), (7, 126, 104, 0), (7, 134, 105, 0), (7, 182, 108, 0), (7, 185, 109, 0), (7, 194, 107, 0), (7, 200, 110, 0), (7, 157, 111, 0)]
def aMl_3 : List (Nat × Nat × Nat × Nat) := [(7, 282, 113, 0), (7, 247, 115, 0), (7, 137, 118, 0), (7, 141, 121, 0), (7, 236, 119, 0), (7, 240, 120, 0), (7, 244, 122, 0), (7, 250, 117, 0), (7, 253, 123, 0), (7, 256, 124, 0), (7, 263, 125, 0), (7, 266, 126, 0), (7, 145, 127, 0), (7, 153, 130, 0), (7, 161, 131, 0), (7, 164, 133, 0), (7, 130, 137, 0), (7, 269, 139, 0), (7, 207, 141, 0), (7, 211, 142, 0), (7, 215, 132, 0), (7, 218, 129, 0), (7, 149, 144, 0), (7, 275, 145, 0), (7, 259, 146, 0), (7, 288, 150, 0), (7, 285, 156, 0), (7, 221, 112, 0), (7, 224, 143, 0), (11, 19, 78, 0), (11, 22, 148, 0), (11, 23, 75, 0)]
def aMl_4 : List (Nat × Nat × Nat × Nat) := [(11, 27, 138, 0), (11, 28, 96, 0), (11, 32, 167, 0), (11, 33, 63, 0), (11, 36, 106, 0), (11, 37, 84, 0), (11, 41, 154, 0), (11, 42, 99, 0), (11, 45, 171, 0), (11, 46, 79, 0), (11, 49, 149, 0), (11, 50, 102, 0), (11, 53, 174, 0), (11, 54, 93, 0), (11, 57, 164, 0), (11, 58, 74, 0), (11, 61, 136, 0), (11, 62, 98, 0), (11, 65, 169, 0), (11, 66, 103, 0), (11, 69, 175, 0), (11, 70, 65, 0), (11, 73, 116, 0), (11, 74, 81, 0), (11, 77, 151, 0), (11, 78, 86, 0), (11, 81, 157, 0), (11, 82, 100, 0), (11, 85, 172, 0), (11, 86, 91, 0), (11, 89, 162, 0), (11, 90, 73, 0)]
def aMl_5 : List (Nat × Nat × Nat × Nat) := [(11, 93, 135, 0), (11, 94, 90, 0), (11, 97, 161, 0), (11, 98, 69, 0), (11, 101, 128, 0), (11, 102, 89, 0), (11, 105, 160, 0), (11, 106, 77, 0), (11, 109, 147, 0), (11, 110, 64, 0), (11, 113, 114, 0), (11, 114, 87, 0), (11, 117, 158, 0), (11, 118, 97, 0), (11, 121, 168, 0), (11, 122, 101, 0), (11, 125, 173, 0), (11, 126, 95, 0), (11, 129, 166, 0), (11, 130, 82, 0), (11, 133, 152, 0), (11, 134, 92, 0), (11, 137, 163, 0), (11, 138, 88, 0), (11, 141, 159, 0), (11, 147, 140, 0), (11, 148, 170, 0), (11, 152, 85, 0), (11, 155, 155, 0), (11, 156, 83, 0), (11, 159, 153, 0), (11, 160, 94, 0)]
def aMl_6 : List (Nat × Nat × Nat × Nat) := [(11, 163, 165, 0), (11, 164, 72, 0), (11, 167, 134, 0)]
def aMl : List (Nat × Nat × Nat × Nat) := aMl_0 ++ (aMl_1 ++ (aMl_2 ++ (aMl_3 ++ (aMl_4 ++ (aMl_5 ++ (aMl_6))))))
def aMlk (q : Nat × Nat × Nat × Nat) : Prop := (q.2.2.2 = 0 → Cond.methodLink (aCN q.1) q.2.1 (aMe q.2.2.1).2.1 ∈ aWS) ∧ (q.2.2.2 ≠ 0 → Cond.methodLinkNest (aCN q.1) q.2.1 (aMe q.2.2.1).2.1 "HiddenRelations" ∈ aNW)
theorem aMlk0 : aMlk (9, 13, 2, 0) := ⟨fun _ => aW_2 109 (by decide +kernel) (by decide +kernel), fun h => absurd rfl h⟩
theorem aMlk1 : aMlk (2, 19, 4, 0) := ⟨fun _ => aW_2 49 (by decide +kernel) (by decide +kernel), fun h => absurd rfl h⟩
theorem aMlk2 : aMlk (0, 71, 10, 1) := ⟨fun h => absurd h (by decide), fun _ => List.mem_of_getElem? (i := 42) (by decide +kernel)⟩
theorem aMlk3 : aMlk (0, 59, 8, 0) := ⟨fun _ => aW_4 80 (by decide +kernel) (by decide +kernel), fun h => absurd rfl h⟩
theorem aMlk4 : aMlk (0, 66, 9, 1) := ⟨fun h => absurd h (by decide), fun _ => List.mem_of_getElem? (i := 41) (by decide +kernel)⟩
theorem aMlk5 : aMlk (0, 74, 11, 0) := ⟨fun _ => aW_4 86 (by decide +kernel) (by decide +kernel), fun h => absurd rfl h⟩
theorem aMlk6 : aMlk (0, 78, 12, 0) := ⟨fun _ => aW_4 90 (by decide +kernel) (by decide +kernel), fun h => absurd rfl h⟩
theorem aMlk7 : aMlk (0, 81, 14, 0) := ⟨fun _ => aW_4 98 (by decide +kernel) (by decide +kernel), fun h => absurd rfl h⟩
theorem aMlk8 : aMlk (0, 30, 6, 0) := ⟨fun _ => aW_4 73 (by decide +kernel) (by decide +kernel), fun h => absurd rfl h⟩
theorem aMlk9 : aMlk (0, 40, 1, 0) := ⟨fun _ => aW_4 74 (by decide +kernel) (by decide +kernel), fun h => absurd rfl h⟩
theorem aMlk10 : aMlk (0, 52, 13, 0) := ⟨fun _ => aW_4 76 (by decide +kernel) (by decide +kernel), fun h => absurd rfl h⟩
theorem aMlk11 : aMlk (0, 56, 15, 0) := ⟨fun _ => aW_4 94 (by decide +kernel) (by decide +kernel), fun h => absurd rfl h⟩
theorem aMlk12 : aMlk (0, 63, 5, 0) := ⟨fun _ => aW_4 115 (by decide +kernel) (by decide +kernel), fun h => absurd rfl h⟩
theorem aMlk13 : aMlk (1, 17, 23, 1) := ⟨fun h => absurd h (by decide), fun _ => List.mem_of_getElem? (i := 11) (by decide +kernel)⟩
theorem aMlk14 : aMlk (1, 29, 25, 0) := ⟨fun _ => aW_4 225 (by decide +kernel) (by decide +kernel), fun h => absurd rfl h⟩
theorem aMlk15 : aMlk (2, 31, 10, 0) := ⟨fun _ => aW_2 64 (by decide +kernel) (by decide +kernel), fun h => absurd rfl h⟩
theorem aMlk16 : aMlk (2, 25, 1, 0) := ⟨fun _ => aW_2 81 (by decide +kernel) (by decide +kernel), fun h => absurd rfl h⟩
theorem aMlk17 : aMlk (2, 35, 9, 0) := ⟨fun _ => aW_2 86 (by decide +kernel) (by decide +kernel), fun h => absurd rfl h⟩
theorem aMlk18 : aMlk (3, 47, 1, 0) := ⟨fun _ => aW_4 203 (by decide +kernel) (by decide +kernel), fun h => absurd rfl h⟩
theorem aMlk19 : aMlk (3, 53, 36, 0) := ⟨fun _ => aW_4 204 (by decide +kernel) (by decide +kernel), fun h => absurd rfl h⟩
theorem aMlk20 : aMlk (3, 25, 8, 1) := ⟨fun h => absurd h (by decide), fun _ => List.mem_of_getElem? (i := 52) (by decide +kernel)⟩
theorem aMlk21 : aMlk (3, 34, 33, 1) := ⟨fun h => absurd h (by decide), fun _ => List.mem_of_getElem? (i := 53) (by decide +kernel)⟩
theorem aMlk22 : aMlk (3, 43, 14, 1) := ⟨fun h => absurd h (by decide), fun _ => List.mem_of_getElem? (i := 54) (by decide +kernel)⟩
theorem aMlk23 : aMlk (4, 106, 1, 0) := ⟨fun _ => aW_3 224 (by decide +kernel) (by decide +kernel), fun h => absurd rfl h⟩
theorem aMlk24 : aMlk (4, 112, 29, 1) := ⟨fun h => absurd h (by decide), fun _ => List.mem_of_getElem? (i := 35) (by decide +kernel)⟩
theorem aMlk25 : aMlk (4, 56, 39, 0) := ⟨fun _ => aW_3 220 (by decide +kernel) (by decide +kernel), fun h => absurd rfl h⟩
theorem aMlk26 : aMlk (4, 118, 40, 0) := ⟨fun _ => aW_4 8 (by decide +kernel) (by decide +kernel), fun h => absurd rfl h⟩
theorem aMlk27 : aMlk (4, 121, 34, 1) := ⟨fun h => absurd h (by decide), fun _ => List.mem_of_getElem? (i := 36) (by decide +kernel)⟩
theorem aMlk28 : aMlk (4, 131, 30, 1) := ⟨fun h => absurd h (by decide), fun _ => List.mem_of_getElem? (i := 37) (by decide +kernel)⟩
theorem aMlk29 : aMlk (4, 134, 28, 1) := ⟨fun h => absurd h (by decide), fun _ => List.mem_of_getElem? (i := 38) (by decide +kernel)⟩
theorem aMlk30 : aMlk (4, 125, 43, 0) := ⟨fun _ => aW_4 22 (by decide +kernel) (by decide +kernel), fun h => absurd rfl h⟩
theorem aMlk31 : aMlk (4, 128, 44, 0) := ⟨fun _ => aW_4 27 (by decide +kernel) (by decide +kernel), fun h => absurd rfl h⟩
theorem aMlk32 : aMlk (4, 97, 41, 0) := ⟨fun _ => aW_4 4 (by decide +kernel) (by decide +kernel), fun h => absurd rfl h⟩
theorem aMlk33 : aMlk (4, 100, 42, 0) := ⟨fun _ => aW_4 12 (by decide +kernel) (by decide +kernel), fun h => absurd rfl h⟩
theorem aMlk34 : aMlk (4, 103, 45, 0) := ⟨fun _ => aW_4 18 (by decide +kernel) (by decide +kernel), fun h => absurd rfl h⟩
theorem aMlk35 : aMlk (4, 81, 49, 0) := ⟨fun _ => aW_3 230 (by decide +kernel) (by decide +kernel), fun h => absurd rfl h⟩
theorem aMlk36 : aMlk (4, 85, 51, 0) := ⟨fun _ => aW_3 233 (by decide +kernel) (by decide +kernel), fun h => absurd rfl h⟩
theorem aMlk37 : aMlk (4, 88, 50, 0) := ⟨fun _ => aW_3 237 (by decide +kernel) (by decide +kernel), fun h => absurd rfl h⟩
theorem aMlk38 : aMlk (4, 63, 52, 0) := ⟨fun _ => aW_3 226 (by decide +kernel) (by decide +kernel), fun h => absurd rfl h⟩
theorem aMlk39 : aMlk (4, 66, 46, 0) := ⟨fun _ => aW_4 0 (by decide +kernel) (by decide +kernel), fun h => absurd rfl h⟩
theorem aMlk40 : aMlk (5, 20, 1, 0) := ⟨fun _ => aW_4 237 (by decide +kernel) (by decide +kernel), fun h => absurd rfl h⟩
theorem aMlk41 : aMlk (6, 105, 34, 1) := ⟨fun h => absurd h (by decide), fun _ => List.mem_of_getElem? (i := 29) (by decide +kernel)⟩
theorem aMlk42 : aMlk (6, 101, 28, 1) := ⟨fun h => absurd h (by decide), fun _ => List.mem_of_getElem? (i := 28) (by decide +kernel)⟩
theorem aMlk43 : aMlk (6, 91, 61, 0) := ⟨fun _ => aW_2 39 (by decide +kernel) (by decide +kernel), fun h => absurd rfl h⟩
theorem aMlk44 : aMlk (6, 94, 62, 0) := ⟨fun _ => aW_2 42 (by decide +kernel) (by decide +kernel), fun h => absurd rfl h⟩
theorem aMlk45 : aMlk (6, 225, 20, 1) := ⟨fun h => absurd h (by decide), fun _ => List.mem_of_getElem? (i := 56) (by decide +kernel)⟩
theorem aMlk46 : aMlk (6, 143, 0, 0) := ⟨fun _ => aW_4 43 (by decide +kernel) (by decide +kernel), fun h => absurd rfl h⟩
theorem aMlk47 : aMlk (6, 186, 67, 0) := ⟨fun _ => aW_4 65 (by decide +kernel) (by decide +kernel), fun h => absurd rfl h⟩
theorem aMlk48 : aMlk (6, 204, 16, 1) := ⟨fun h => absurd h (by decide), fun _ => List.mem_of_getElem? (i := 40) (by decide +kernel)⟩
theorem aMlk49 : aMlk (6, 166, 66, 0) := ⟨fun _ => aW_4 120 (by decide +kernel) (by decide +kernel), fun h => absurd rfl h⟩
theorem aMlk50 : aMlk (6, 148, 68, 0) := ⟨fun _ => aW_4 61 (by decide +kernel) (by decide +kernel), fun h => absurd rfl h⟩
theorem aMlk51 : aMlk (6, 182, 57, 1) := ⟨fun h => absurd h (by decide), fun _ => List.mem_of_getElem? (i := 48) (by decide +kernel)⟩
theorem aMlk52 : aMlk (6, 140, 33, 1) := ⟨fun h => absurd h (by decide), fun _ => List.mem_of_getElem? (i := 39) (by decide +kernel)⟩
theorem aMlk53 : aMlk (6, 246, 27, 1) := ⟨fun h => absurd h (by decide), fun _ => List.mem_of_getElem? (i := 59) (by decide +kernel)⟩
theorem aMlk54 : aMlk (6, 289, 70, 0) := ⟨fun _ => aW_5 27 (by decide +kernel) (by decide +kernel), fun h => absurd rfl h⟩
theorem aMlk55 : aMlk (6, 295, 71, 0) := ⟨fun _ => aW_5 31 (by decide +kernel) (by decide +kernel), fun h => absurd rfl h⟩
theorem aMlk56 : aMlk (6, 175, 14, 1) := ⟨fun h => absurd h (by decide), fun _ => List.mem_of_getElem? (i := 47) (by decide +kernel)⟩
theorem aMlk57 : aMlk (6, 129, 47, 1) := ⟨fun h => absurd h (by decide), fun _ => List.mem_of_getElem? (i := 33) (by decide +kernel)⟩
theorem aMlk58 : aMlk (6, 78, 32, 1) := ⟨fun h => absurd h (by decide), fun _ => List.mem_of_getElem? (i := 26) (by decide +kernel)⟩
theorem aMlk59 : aMlk (6, 85, 1, 0) := ⟨fun _ => aW_2 32 (by decide +kernel) (by decide +kernel), fun h => absurd rfl h⟩
theorem aMlk60 : aMlk (6, 109, 29, 1) := ⟨fun h => absurd h (by decide), fun _ => List.mem_of_getElem? (i := 30) (by decide +kernel)⟩
theorem aMlk61 : aMlk (6, 116, 35, 1) := ⟨fun h => absurd h (by decide), fun _ => List.mem_of_getElem? (i := 32) (by decide +kernel)⟩
theorem aMlk62 : aMlk (6, 196, 21, 1) := ⟨fun h => absurd h (by decide), fun _ => List.mem_of_getElem? (i := 50) (by decide +kernel)⟩
theorem aMlk63 : aMlk (6, 200, 76, 0) := ⟨fun _ => aW_4 164 (by decide +kernel) (by decide +kernel), fun h => absurd rfl h⟩
theorem aMlk64 : aMlk (6, 157, 19, 1) := ⟨fun h => absurd h (by decide), fun _ => List.mem_of_getElem? (i := 44) (by decide +kernel)⟩
theorem aMlk65 : aMlk (6, 160, 8, 1) := ⟨fun h => absurd h (by decide), fun _ => List.mem_of_getElem? (i := 45) (by decide +kernel)⟩
theorem aMlk66 : aMlk (6, 217, 38, 1) := ⟨fun h => absurd h (by decide), fun _ => List.mem_of_getElem? (i := 51) (by decide +kernel)⟩
theorem aMlk67 : aMlk (6, 221, 22, 1) := ⟨fun h => absurd h (by decide), fun _ => List.mem_of_getElem? (i := 55) (by decide +kernel)⟩
theorem aMlk68 : aMlk (6, 9, 31, 1) := ⟨fun h => absurd h (by decide), fun _ => List.mem_of_getElem? (i := 0) (by decide +kernel)⟩
theorem aMlk69 : aMlk (6, 23, 48, 1) := ⟨fun h => absurd h (by decide), fun _ => List.mem_of_getElem? (i := 2) (by decide +kernel)⟩
theorem aMlk70 : aMlk (6, 43, 18, 1) := ⟨fun h => absurd h (by decide), fun _ => List.mem_of_getElem? (i := 4) (by decide +kernel)⟩
theorem aMlk71 : aMlk (6, 66, 24, 1) := ⟨fun h => absurd h (by decide), fun _ => List.mem_of_getElem? (i := 10) (by decide +kernel)⟩
theorem aMlk72 : aMlk (6, 77, 56, 1) := ⟨fun h => absurd h (by decide), fun _ => List.mem_of_getElem? (i := 22) (by decide +kernel)⟩
theorem aMlk73 : aMlk (6, 113, 30, 1) := ⟨fun h => absurd h (by decide), fun _ => List.mem_of_getElem? (i := 31) (by decide +kernel)⟩
theorem aMlk74 : aMlk (6, 248, 26, 1) := ⟨fun h => absurd h (by decide), fun _ => List.mem_of_getElem? (i := 60) (by decide +kernel)⟩
theorem aMlk75 : aMlk (6, 179, 80, 0) := ⟨fun _ => aW_4 141 (by decide +kernel) (by decide +kernel), fun h => absurd rfl h⟩
theorem aMlk76 : aMlk (6, 189, 59, 1) := ⟨fun h => absurd h (by decide), fun _ => List.mem_of_getElem? (i := 49) (by decide +kernel)⟩
theorem aMlk77 : aMlk (6, 97, 10, 1) := ⟨fun h => absurd h (by decide), fun _ => List.mem_of_getElem? (i := 27) (by decide +kernel)⟩
theorem aMlk78 : aMlk (6, 284, 6, 0) := ⟨fun _ => aW_5 18 (by decide +kernel) (by decide +kernel), fun h => absurd rfl h⟩
theorem aMlk79 : aMlk (6, 255, 55, 1) := ⟨fun h => absurd h (by decide), fun _ => List.mem_of_getElem? (i := 62) (by decide +kernel)⟩
theorem aMlk80 : aMlk (6, 237, 36, 1) := ⟨fun h => absurd h (by decide), fun _ => List.mem_of_getElem? (i := 57) (by decide +kernel)⟩
theorem aMlk81 : aMlk (6, 258, 58, 1) := ⟨fun h => absurd h (by decide), fun _ => List.mem_of_getElem? (i := 63) (by decide +kernel)⟩
theorem aMlk82 : aMlk (6, 192, 60, 0) := ⟨fun _ => aW_4 152 (by decide +kernel) (by decide +kernel), fun h => absurd rfl h⟩
theorem aMlk83 : aMlk (6, 251, 54, 1) := ⟨fun h => absurd h (by decide), fun _ => List.mem_of_getElem? (i := 61) (by decide +kernel)⟩
theorem aMlk84 : aMlk (6, 126, 3, 0) := ⟨fun _ => aW_2 106 (by decide +kernel) (by decide +kernel), fun h => absurd rfl h⟩
theorem aMlk85 : aMlk (6, 240, 37, 1) := ⟨fun h => absurd h (by decide), fun _ => List.mem_of_getElem? (i := 58) (by decide +kernel)⟩
theorem aMlk86 : aMlk (6, 136, 53, 1) := ⟨fun h => absurd h (by decide), fun _ => List.mem_of_getElem? (i := 34) (by decide +kernel)⟩
theorem aMlk87 : aMlk (6, 153, 7, 1) := ⟨fun h => absurd h (by decide), fun _ => List.mem_of_getElem? (i := 43) (by decide +kernel)⟩
theorem aMlk88 : aMlk (6, 163, 17, 1) := ⟨fun h => absurd h (by decide), fun _ => List.mem_of_getElem? (i := 46) (by decide +kernel)⟩
theorem aMlk89 : aMlk (7, 126, 104, 0) := ⟨fun _ => aW_6 11 (by decide +kernel) (by decide +kernel), fun h => absurd rfl h⟩
theorem aMlk90 : aMlk (7, 134, 105, 0) := ⟨fun _ => aW_6 18 (by decide +kernel) (by decide +kernel), fun h => absurd rfl h⟩
theorem aMlk91 : aMlk (7, 182, 108, 0) := ⟨fun _ => aW_6 96 (by decide +kernel) (by decide +kernel), fun h => absurd rfl h⟩
theorem aMlk92 : aMlk (7, 185, 109, 0) := ⟨fun _ => aW_6 99 (by decide +kernel) (by decide +kernel), fun h => absurd rfl h⟩
theorem aMlk93 : aMlk (7, 194, 107, 0) := ⟨fun _ => aW_6 88 (by decide +kernel) (by decide +kernel), fun h => absurd rfl h⟩
theorem aMlk94 : aMlk (7, 200, 110, 0) := ⟨fun _ => aW_6 92 (by decide +kernel) (by decide +kernel), fun h => absurd rfl h⟩
theorem aMlk95 : aMlk (7, 157, 111, 0) := ⟨fun _ => aW_6 53 (by decide +kernel) (by decide +kernel), fun h => absurd rfl h⟩
theorem aMlk96 : aMlk (7, 282, 113, 0) := ⟨fun _ => aW_6 216 (by decide +kernel) (by decide +kernel), fun h => absurd rfl h⟩
theorem aMlk97 : aMlk (7, 247, 115, 0) := ⟨fun _ => aW_6 130 (by decide +kernel) (by decide +kernel), fun h => absurd rfl h⟩
theorem aMlk98 : aMlk (7, 137, 118, 0) := ⟨fun _ => aW_6 21 (by decide +kernel) (by decide +kernel), fun h => absurd rfl h⟩
theorem aMlk99 : aMlk (7, 141, 121, 0) := ⟨fun _ => aW_6 61 (by decide +kernel) (by decide +kernel), fun h => absurd rfl h⟩
theorem aMlk100 : aMlk (7, 236, 119, 0) := ⟨fun _ => aW_6 157 (by decide +kernel) (by decide +kernel), fun h => absurd rfl h⟩
theorem aMlk101 : aMlk (7, 240, 120, 0) := ⟨fun _ => aW_6 161 (by decide +kernel) (by decide +kernel), fun h => absurd rfl h⟩
theorem aMlk102 : aMlk (7, 244, 122, 0) := ⟨fun _ => aW_6 165 (by decide +kernel) (by decide +kernel), fun h => absurd rfl h⟩
theorem aMlk103 : aMlk (7, 250, 117, 0) := ⟨fun _ => aW_6 149 (by decide +kernel) (by decide +kernel), fun h => absurd rfl h⟩
theorem aMlk104 : aMlk (7, 253, 123, 0) := ⟨fun _ => aW_6 153 (by decide +kernel) (by decide +kernel), fun h => absurd rfl h⟩
theorem aMlk105 : aMlk (7, 256, 124, 0) := ⟨fun _ => aW_6 145 (by decide +kernel) (by decide +kernel), fun h => absurd rfl h⟩
theorem aMlk106 : aMlk (7, 263, 125, 0) := ⟨fun _ => aW_6 177 (by decide +kernel) (by decide +kernel), fun h => absurd rfl h⟩
theorem aMlk107 : aMlk (7, 266, 126, 0) := ⟨fun _ => aW_6 181 (by decide +kernel) (by decide +kernel), fun h => absurd rfl h⟩
theorem aMlk108 : aMlk (7, 145, 127, 0) := ⟨fun _ => aW_6 33 (by decide +kernel) (by decide +kernel), fun h => absurd rfl h⟩
theorem aMlk109 : aMlk (7, 153, 130, 0) := ⟨fun _ => aW_6 45 (by decide +kernel) (by decide +kernel), fun h => absurd rfl h⟩
theorem aMlk110 : aMlk (7, 161, 131, 0) := ⟨fun _ => aW_6 57 (by decide +kernel) (by decide +kernel), fun h => absurd rfl h⟩
theorem aMlk111 : aMlk (7, 164, 133, 0) := ⟨fun _ => aW_6 77 (by decide +kernel) (by decide +kernel), fun h => absurd rfl h⟩
theorem aMlk112 : aMlk (7, 130, 137, 0) := ⟨fun _ => aW_6 8 (by decide +kernel) (by decide +kernel), fun h => absurd rfl h⟩
theorem aMlk113 : aMlk (7, 269, 139, 0) := ⟨fun _ => aW_6 201 (by decide +kernel) (by decide +kernel), fun h => absurd rfl h⟩
theorem aMlk114 : aMlk (7, 207, 141, 0) := ⟨fun _ => aW_6 114 (by decide +kernel) (by decide +kernel), fun h => absurd rfl h⟩
theorem aMlk115 : aMlk (7, 211, 142, 0) := ⟨fun _ => aW_6 110 (by decide +kernel) (by decide +kernel), fun h => absurd rfl h⟩
theorem aMlk116 : aMlk (7, 215, 132, 0) := ⟨fun _ => aW_6 118 (by decide +kernel) (by decide +kernel), fun h => absurd rfl h⟩
theorem aMlk117 : aMlk (7, 218, 129, 0) := ⟨fun _ => aW_6 122 (by decide +kernel) (by decide +kernel), fun h => absurd rfl h⟩
theorem aMlk118 : aMlk (7, 149, 144, 0) := ⟨fun _ => aW_6 41 (by decide +kernel) (by decide +kernel), fun h => absurd rfl h⟩
theorem aMlk119 : aMlk (7, 275, 145, 0) := ⟨fun _ => aW_6 208 (by decide +kernel) (by decide +kernel), fun h => absurd rfl h⟩
theorem aMlk120 : aMlk (7, 259, 146, 0) := ⟨fun _ => aW_6 169 (by decide +kernel) (by decide +kernel), fun h => absurd rfl h⟩
theorem aMlk121 : aMlk (7, 288, 150, 0) := ⟨fun _ => aW_7 12 (by decide +kernel) (by decide +kernel), fun h => absurd rfl h⟩
theorem aMlk122 : aMlk (7, 285, 156, 0) := ⟨fun _ => aW_6 236 (by decide +kernel) (by decide +kernel), fun h => absurd rfl h⟩
theorem aMlk123 : aMlk (7, 221, 112, 0) := ⟨fun _ => aW_6 102 (by decide +kernel) (by decide +kernel), fun h => absurd rfl h⟩
theorem aMlk124 : aMlk (7, 224, 143, 0) := ⟨fun _ => aW_6 106 (by decide +kernel) (by decide +kernel), fun h => absurd rfl h⟩
theorem aMlk125 : aMlk (11, 19, 78, 0) := ⟨fun _ => aW_1 30 (by decide +kernel) (by decide +kernel), fun h => absurd rfl h⟩
theorem aMlk126 : aMlk (11, 22, 148, 0) := ⟨fun _ => aW_5 79 (by decide +kernel) (by decide +kernel), fun h => absurd rfl h⟩
theorem aMlk127 : aMlk (11, 23, 75, 0) := ⟨fun _ => aW_2 25 (by decide +kernel) (by decide +kernel), fun h => absurd rfl h⟩
theorem aMlk128 : aMlk (11, 27, 138, 0) := ⟨fun _ => aW_6 4 (by decide +kernel) (by decide +kernel), fun h => absurd rfl h⟩
theorem aMlk129 : aMlk (11, 28, 96, 0) := ⟨fun _ => aW_2 35 (by decide +kernel) (by decide +kernel), fun h => absurd rfl h⟩
theorem aMlk130 : aMlk (11, 32, 167, 0) := ⟨fun _ => aW_6 14 (by decide +kernel) (by decide +kernel), fun h => absurd rfl h⟩
theorem aMlk131 : aMlk (11, 33, 63, 0) := ⟨fun _ => aW_2 52 (by decide +kernel) (by decide +kernel), fun h => absurd rfl h⟩
theorem aMlk132 : aMlk (11, 36, 106, 0) := ⟨fun _ => aW_6 25 (by decide +kernel) (by decide +kernel), fun h => absurd rfl h⟩
theorem aMlk133 : aMlk (11, 37, 84, 0) := ⟨fun _ => aW_2 56 (by decide +kernel) (by decide +kernel), fun h => absurd rfl h⟩
theorem aMlk134 : aMlk (11, 41, 154, 0) := ⟨fun _ => aW_6 29 (by decide +kernel) (by decide +kernel), fun h => absurd rfl h⟩
theorem aMlk135 : aMlk (11, 42, 99, 0) := ⟨fun _ => aW_2 65 (by decide +kernel) (by decide +kernel), fun h => absurd rfl h⟩
theorem aMlk136 : aMlk (11, 45, 171, 0) := ⟨fun _ => aW_6 37 (by decide +kernel) (by decide +kernel), fun h => absurd rfl h⟩
theorem aMlk137 : aMlk (11, 46, 79, 0) := ⟨fun _ => aW_2 73 (by decide +kernel) (by decide +kernel), fun h => absurd rfl h⟩
theorem aMlk138 : aMlk (11, 49, 149, 0) := ⟨fun _ => aW_6 49 (by decide +kernel) (by decide +kernel), fun h => absurd rfl h⟩
theorem aMlk139 : aMlk (11, 50, 102, 0) := ⟨fun _ => aW_2 93 (by decide +kernel) (by decide +kernel), fun h => absurd rfl h⟩
theorem aMlk140 : aMlk (11, 53, 174, 0) := ⟨fun _ => aW_6 65 (by decide +kernel) (by decide +kernel), fun h => absurd rfl h⟩
theorem aMlk141 : aMlk (11, 54, 93, 0) := ⟨fun _ => aW_2 101 (by decide +kernel) (by decide +kernel), fun h => absurd rfl h⟩
theorem aMlk142 : aMlk (11, 57, 164, 0) := ⟨fun _ => aW_6 69 (by decide +kernel) (by decide +kernel), fun h => absurd rfl h⟩
theorem aMlk143 : aMlk (11, 58, 74, 0) := ⟨fun _ => aW_3 204 (by decide +kernel) (by decide +kernel), fun h => absurd rfl h⟩
theorem aMlk144 : aMlk (11, 61, 136, 0) := ⟨fun _ => aW_6 80 (by decide +kernel) (by decide +kernel), fun h => absurd rfl h⟩
theorem aMlk145 : aMlk (11, 62, 98, 0) := ⟨fun _ => aW_3 212 (by decide +kernel) (by decide +kernel), fun h => absurd rfl h⟩
theorem aMlk146 : aMlk (11, 65, 169, 0) := ⟨fun _ => aW_6 84 (by decide +kernel) (by decide +kernel), fun h => absurd rfl h⟩
theorem aMlk147 : aMlk (11, 66, 103, 0) := ⟨fun _ => aW_4 32 (by decide +kernel) (by decide +kernel), fun h => absurd rfl h⟩
theorem aMlk148 : aMlk (11, 69, 175, 0) := ⟨fun _ => aW_6 73 (by decide +kernel) (by decide +kernel), fun h => absurd rfl h⟩
theorem aMlk149 : aMlk (11, 70, 65, 0) := ⟨fun _ => aW_4 39 (by decide +kernel) (by decide +kernel), fun h => absurd rfl h⟩
theorem aMlk150 : aMlk (11, 73, 116, 0) := ⟨fun _ => aW_6 126 (by decide +kernel) (by decide +kernel), fun h => absurd rfl h⟩
theorem aMlk151 : aMlk (11, 74, 81, 0) := ⟨fun _ => aW_4 49 (by decide +kernel) (by decide +kernel), fun h => absurd rfl h⟩
theorem aMlk152 : aMlk (11, 77, 151, 0) := ⟨fun _ => aW_6 133 (by decide +kernel) (by decide +kernel), fun h => absurd rfl h⟩
theorem aMlk153 : aMlk (11, 78, 86, 0) := ⟨fun _ => aW_4 53 (by decide +kernel) (by decide +kernel), fun h => absurd rfl h⟩
theorem aMlk154 : aMlk (11, 81, 157, 0) := ⟨fun _ => aW_6 137 (by decide +kernel) (by decide +kernel), fun h => absurd rfl h⟩
theorem aMlk155 : aMlk (11, 82, 100, 0) := ⟨fun _ => aW_4 57 (by decide +kernel) (by decide +kernel), fun h => absurd rfl h⟩
theorem aMlk156 : aMlk (11, 85, 172, 0) := ⟨fun _ => aW_6 141 (by decide +kernel) (by decide +kernel), fun h => absurd rfl h⟩
theorem aMlk157 : aMlk (11, 86, 91, 0) := ⟨fun _ => aW_4 116 (by decide +kernel) (by decide +kernel), fun h => absurd rfl h⟩
theorem aMlk158 : aMlk (11, 89, 162, 0) := ⟨fun _ => aW_6 173 (by decide +kernel) (by decide +kernel), fun h => absurd rfl h⟩
theorem aMlk159 : aMlk (11, 90, 73, 0) := ⟨fun _ => aW_4 124 (by decide +kernel) (by decide +kernel), fun h => absurd rfl h⟩
theorem aMlk160 : aMlk (11, 93, 135, 0) := ⟨fun _ => aW_6 185 (by decide +kernel) (by decide +kernel), fun h => absurd rfl h⟩
theorem aMlk161 : aMlk (11, 94, 90, 0) := ⟨fun _ => aW_4 129 (by decide +kernel) (by decide +kernel), fun h => absurd rfl h⟩
theorem aMlk162 : aMlk (11, 97, 161, 0) := ⟨fun _ => aW_6 189 (by decide +kernel) (by decide +kernel), fun h => absurd rfl h⟩
theorem aMlk163 : aMlk (11, 98, 69, 0) := ⟨fun _ => aW_4 133 (by decide +kernel) (by decide +kernel), fun h => absurd rfl h⟩
theorem aMlk164 : aMlk (11, 101, 128, 0) := ⟨fun _ => aW_6 193 (by decide +kernel) (by decide +kernel), fun h => absurd rfl h⟩
theorem aMlk165 : aMlk (11, 102, 89, 0) := ⟨fun _ => aW_4 137 (by decide +kernel) (by decide +kernel), fun h => absurd rfl h⟩
theorem aMlk166 : aMlk (11, 105, 160, 0) := ⟨fun _ => aW_6 197 (by decide +kernel) (by decide +kernel), fun h => absurd rfl h⟩
theorem aMlk167 : aMlk (11, 106, 77, 0) := ⟨fun _ => aW_4 156 (by decide +kernel) (by decide +kernel), fun h => absurd rfl h⟩
theorem aMlk168 : aMlk (11, 109, 147, 0) := ⟨fun _ => aW_6 204 (by decide +kernel) (by decide +kernel), fun h => absurd rfl h⟩
theorem aMlk169 : aMlk (11, 110, 64, 0) := ⟨fun _ => aW_4 179 (by decide +kernel) (by decide +kernel), fun h => absurd rfl h⟩
theorem aMlk170 : aMlk (11, 113, 114, 0) := ⟨fun _ => aW_6 212 (by decide +kernel) (by decide +kernel), fun h => absurd rfl h⟩
theorem aMlk171 : aMlk (11, 114, 87, 0) := ⟨fun _ => aW_4 187 (by decide +kernel) (by decide +kernel), fun h => absurd rfl h⟩
theorem aMlk172 : aMlk (11, 117, 158, 0) := ⟨fun _ => aW_6 220 (by decide +kernel) (by decide +kernel), fun h => absurd rfl h⟩
theorem aMlk173 : aMlk (11, 118, 97, 0) := ⟨fun _ => aW_4 195 (by decide +kernel) (by decide +kernel), fun h => absurd rfl h⟩
theorem aMlk174 : aMlk (11, 121, 168, 0) := ⟨fun _ => aW_6 224 (by decide +kernel) (by decide +kernel), fun h => absurd rfl h⟩
theorem aMlk175 : aMlk (11, 122, 101, 0) := ⟨fun _ => aW_4 205 (by decide +kernel) (by decide +kernel), fun h => absurd rfl h⟩
theorem aMlk176 : aMlk (11, 125, 173, 0) := ⟨fun _ => aW_6 228 (by decide +kernel) (by decide +kernel), fun h => absurd rfl h⟩
theorem aMlk177 : aMlk (11, 126, 95, 0) := ⟨fun _ => aW_4 209 (by decide +kernel) (by decide +kernel), fun h => absurd rfl h⟩
theorem aMlk178 : aMlk (11, 129, 166, 0) := ⟨fun _ => aW_6 232 (by decide +kernel) (by decide +kernel), fun h => absurd rfl h⟩
theorem aMlk179 : aMlk (11, 130, 82, 0) := ⟨fun _ => aW_4 217 (by decide +kernel) (by decide +kernel), fun h => absurd rfl h⟩
theorem aMlk180 : aMlk (11, 133, 152, 0) := ⟨fun _ => aW_7 0 (by decide +kernel) (by decide +kernel), fun h => absurd rfl h⟩
theorem aMlk181 : aMlk (11, 134, 92, 0) := ⟨fun _ => aW_4 229 (by decide +kernel) (by decide +kernel), fun h => absurd rfl h⟩
theorem aMlk182 : aMlk (11, 137, 163, 0) := ⟨fun _ => aW_7 4 (by decide +kernel) (by decide +kernel), fun h => absurd rfl h⟩
theorem aMlk183 : aMlk (11, 138, 88, 0) := ⟨fun _ => aW_4 238 (by decide +kernel) (by decide +kernel), fun h => absurd rfl h⟩
theorem aMlk184 : aMlk (11, 141, 159, 0) := ⟨fun _ => aW_7 8 (by decide +kernel) (by decide +kernel), fun h => absurd rfl h⟩
theorem aMlk185 : aMlk (11, 147, 140, 0) := ⟨fun _ => aW_7 16 (by decide +kernel) (by decide +kernel), fun h => absurd rfl h⟩
theorem aMlk186 : aMlk (11, 148, 170, 0) := ⟨fun _ => aW_6 0 (by decide +kernel) (by decide +kernel), fun h => absurd rfl h⟩
theorem aMlk187 : aMlk (11, 152, 85, 0) := ⟨fun _ => aW_5 10 (by decide +kernel) (by decide +kernel), fun h => absurd rfl h⟩
theorem aMlk188 : aMlk (11, 155, 155, 0) := ⟨fun _ => aW_7 20 (by decide +kernel) (by decide +kernel), fun h => absurd rfl h⟩
theorem aMlk189 : aMlk (11, 156, 83, 0) := ⟨fun _ => aW_5 14 (by decide +kernel) (by decide +kernel), fun h => absurd rfl h⟩
theorem aMlk190 : aMlk (11, 159, 153, 0) := ⟨fun _ => aW_7 24 (by decide +kernel) (by decide +kernel), fun h => absurd rfl h⟩
theorem aMlk191 : aMlk (11, 160, 94, 0) := ⟨fun _ => aW_5 19 (by decide +kernel) (by decide +kernel), fun h => absurd rfl h⟩
theorem aMlk192 : aMlk (11, 163, 165, 0) := ⟨fun _ => aW_7 28 (by decide +kernel) (by decide +kernel), fun h => absurd rfl h⟩
theorem aMlk193 : aMlk (11, 164, 72, 0) := ⟨fun _ => aW_5 23 (by decide +kernel) (by decide +kernel), fun h => absurd rfl h⟩
theorem aMlk194 : aMlk (11, 167, 134, 0) := ⟨fun _ => aW_7 32 (by decide +kernel) (by decide +kernel), fun h => absurd rfl h⟩
theorem aMl_ok0 : ∀ q ∈ aMl_0, aMlk q := List.forall_mem_cons.mpr ⟨aMlk0, List.forall_mem_cons.mpr ⟨aMlk1, List.forall_mem_cons.mpr ⟨aMlk2, List.forall_mem_cons.mpr ⟨aMlk3, List.forall_mem_cons.mpr ⟨aMlk4, List.forall_mem_cons.mpr ⟨aMlk5, List.forall_mem_cons.mpr ⟨aMlk6, List.forall_mem_cons.mpr ⟨aMlk7, List.forall_mem_cons.mpr ⟨aMlk8, List.forall_mem_cons.mpr ⟨aMlk9, List.forall_mem_cons.mpr ⟨aMlk10, List.forall_mem_cons.mpr ⟨aMlk11, List.forall_mem_cons.mpr ⟨aMlk12, List.forall_mem_cons.mpr ⟨aMlk13, List.forall_mem_cons.mpr ⟨aMlk14, List.forall_mem_cons.mpr ⟨aMlk15, List.forall_mem_cons.mpr ⟨aMlk16, List.forall_mem_cons.mpr ⟨aMlk17, List.forall_mem_cons.mpr ⟨aMlk18, List.forall_mem_cons.mpr ⟨aMlk19, List.forall_mem_cons.mpr ⟨aMlk20, List.forall_mem_cons.mpr ⟨aMlk21, List.forall_mem_cons.mpr ⟨aMlk22, List.forall_mem_cons.mpr ⟨aMlk23, List.forall_mem_cons.mpr ⟨aMlk24, List.forall_mem_cons.mpr ⟨aMlk25, List.forall_mem_cons.mpr ⟨aMlk26, List.forall_mem_cons.mpr ⟨aMlk27, List.forall_mem_cons.mpr ⟨aMlk28, List.forall_mem_cons.mpr ⟨aMlk29, List.forall_mem_cons.mpr ⟨aMlk30, List.forall_mem_cons.mpr ⟨aMlk31, (fun _ h => absurd h List.not_mem_nil)⟩⟩⟩⟩⟩⟩⟩⟩⟩⟩⟩⟩⟩⟩⟩⟩⟩⟩⟩⟩⟩⟩⟩⟩⟩⟩⟩⟩⟩⟩⟩⟩
theorem aMl_ok1 : ∀ q ∈ aMl_1, aMlk q := List.forall_mem_cons.mpr ⟨aMlk32, List.forall_mem_cons.mpr ⟨aMlk33, List.forall_mem_cons.mpr ⟨aMlk34, List.forall_mem_cons.mpr ⟨aMlk35, List.forall_mem_cons.mpr ⟨aMlk36, List.forall_mem_cons.mpr ⟨aMlk37, List.forall_mem_cons.mpr ⟨aMlk38, List.forall_mem_cons.mpr ⟨aMlk39, List.forall_mem_cons.mpr ⟨aMlk40, List.forall_mem_cons.mpr ⟨aMlk41, List.forall_mem_cons.mpr ⟨aMlk42, List.forall_mem_cons.mpr ⟨aMlk43, List.forall_mem_cons.mpr ⟨aMlk44, List.forall_mem_cons.mpr ⟨aMlk45, List.forall_mem_cons.mpr ⟨aMlk46, List.forall_mem_cons.mpr ⟨aMlk47, List.forall_mem_cons.mpr ⟨aMlk48, List.forall_mem_cons.mpr ⟨aMlk49, List.forall_mem_cons.mpr ⟨aMlk50, List.forall_mem_cons.mpr ⟨aMlk51, List.forall_mem_cons.mpr ⟨aMlk52, List.forall_mem_cons.mpr ⟨aMlk53, List.forall_mem_cons.mpr ⟨aMlk54, List.forall_mem_cons.mpr ⟨aMlk55, List.forall_mem_cons.mpr ⟨aMlk56, List.forall_mem_cons.mpr ⟨aMlk57, List.forall_mem_cons.mpr ⟨aMlk58, List.forall_mem_cons.mpr ⟨aMlk59, List.forall_mem_cons.mpr ⟨aMlk60, List.forall_mem_cons.mpr ⟨aMlk61, List.forall_mem_cons.mpr ⟨aMlk62, List.forall_mem_cons.mpr ⟨aMlk63, (fun _ h => absurd h List.not_mem_nil)⟩⟩⟩⟩⟩⟩⟩⟩⟩⟩⟩⟩⟩⟩⟩⟩⟩⟩⟩⟩⟩⟩⟩⟩⟩⟩⟩⟩⟩⟩⟩⟩
theorem aMl_ok2 : ∀ q ∈ aMl_2, aMlk q := List.forall_mem_cons.mpr ⟨aMlk64, List.forall_mem_cons.mpr ⟨aMlk65, List.forall_mem_cons.mpr ⟨aMlk66, List.forall_mem_cons.mpr ⟨aMlk67, List.forall_mem_cons.mpr ⟨aMlk68, List.forall_mem_cons.mpr ⟨aMlk69, List.forall_mem_cons.mpr ⟨aMlk70, List.forall_mem_cons.mpr ⟨aMlk71, List.forall_mem_cons.mpr ⟨aMlk72, List.forall_mem_cons.mpr ⟨aMlk73, List.forall_mem_cons.mpr ⟨aMlk74, List.forall_mem_cons.mpr ⟨aMlk75, List.forall_mem_cons.mpr ⟨aMlk76, List.forall_mem_cons.mpr ⟨aMlk77, List.forall_mem_cons.mpr ⟨aMlk78, List.forall_mem_cons.mpr ⟨aMlk79, List.forall_mem_cons.mpr ⟨aMlk80, List.forall_mem_cons.mpr ⟨aMlk81, List.forall_mem_cons.mpr ⟨aMlk82, List.forall_mem_cons.mpr ⟨aMlk83, List.forall_mem_cons.mpr ⟨aMlk84, List.forall_mem_cons.mpr ⟨aMlk85, List.forall_mem_cons.mpr ⟨aMlk86, List.forall_mem_cons.mpr ⟨aMlk87, List.forall_mem_cons.mpr ⟨aMlk88, List.forall_mem_cons.mpr ⟨aMlk89, List.forall_mem_cons.mpr ⟨aMlk90, List.forall_mem_cons.mpr ⟨aMlk91, List.forall_mem_cons.mpr ⟨aMlk92, List.forall_mem_cons.mpr ⟨aMlk93, List.forall_mem_cons.mpr ⟨aMlk94, List.forall_mem_cons.mpr ⟨aMlk95, (fun _ h => absurd h List.not_mem_nil)⟩⟩⟩⟩⟩⟩⟩⟩⟩⟩⟩⟩⟩⟩⟩⟩⟩⟩⟩⟩⟩⟩⟩⟩⟩⟩⟩⟩⟩⟩⟩⟩
theorem aMl_ok3 : ∀ q ∈ aMl_3, aMlk q := List.forall_mem_cons.mpr ⟨aMlk96, List.forall_mem_cons.mpr ⟨aMlk97, List.forall_mem_cons.mpr ⟨aMlk98, List.forall_mem_cons.mpr ⟨aMlk99, List.forall_mem_cons.mpr ⟨aMlk100, List.forall_mem_cons.mpr ⟨aMlk101, List.forall_mem_cons.mpr ⟨aMlk102, List.forall_mem_cons.mpr ⟨aMlk103, List.forall_mem_cons.mpr ⟨aMlk104, List.forall_mem_cons.mpr ⟨aMlk105, List.forall_mem_cons.mpr ⟨aMlk106, List.forall_mem_cons.mpr ⟨aMlk107, List.forall_mem_cons.mpr ⟨aMlk108, List.forall_mem_cons.mpr ⟨aMlk109, List.forall_mem_cons.mpr ⟨aMlk110, List.forall_mem_cons.mpr ⟨aMlk111, List.forall_mem_cons.mpr ⟨aMlk112, List.forall_mem_cons.mpr ⟨aMlk113, List.forall_mem_cons.mpr ⟨aMlk114, List.forall_mem_cons.mpr ⟨aMlk115, List.forall_mem_cons.mpr ⟨aMlk116, List.forall_mem_cons.mpr ⟨aMlk117, List.forall_mem_cons.mpr ⟨aMlk118, List.forall_mem_cons.mpr ⟨aMlk119, List.forall_mem_cons.mpr ⟨aMlk120, List.forall_mem_cons.mpr ⟨aMlk121, List.forall_mem_cons.mpr ⟨aMlk122, List.forall_mem_cons.mpr ⟨aMlk123, List.forall_mem_cons.mpr ⟨aMlk124, List.forall_mem_cons.mpr ⟨aMlk125, List.forall_mem_cons.mpr ⟨aMlk126, List.forall_mem_cons.mpr ⟨aMlk127, (fun _ h => absurd h List.not_mem_nil)⟩⟩⟩⟩⟩⟩⟩⟩⟩⟩⟩⟩⟩⟩⟩⟩⟩⟩⟩⟩⟩⟩⟩⟩⟩⟩⟩⟩⟩⟩⟩⟩
theorem aMl_ok4 : ∀ q ∈ aMl_4, aMlk q := List.forall_mem_cons.mpr ⟨aMlk128, List.forall_mem_cons.mpr ⟨aMlk129, List.forall_mem_cons.mpr ⟨aMlk130, List.forall_mem_cons.mpr ⟨aMlk131, List.forall_mem_cons.mpr ⟨aMlk132, List.forall_mem_cons.mpr ⟨aMlk133, List.forall_mem_cons.mpr ⟨aMlk134, List.forall_mem_cons.mpr ⟨aMlk135, List.forall_mem_cons.mpr ⟨aMlk136, List.forall_mem_cons.mpr ⟨aMlk137, List.forall_mem_cons.mpr ⟨aMlk138, List.forall_mem_cons.mpr ⟨aMlk139, List.forall_mem_cons.mpr ⟨aMlk140, List.forall_mem_cons.mpr ⟨aMlk141, List.forall_mem_cons.mpr ⟨aMlk142, List.forall_mem_cons.mpr ⟨aMlk143, List.forall_mem_cons.mpr ⟨aMlk144, List.forall_mem_cons.mpr ⟨aMlk145, List.forall_mem_cons.mpr ⟨aMlk146, List.forall_mem_cons.mpr ⟨aMlk147, List.forall_mem_cons.mpr ⟨aMlk148, List.forall_mem_cons.mpr ⟨aMlk149, List.forall_mem_cons.mpr ⟨aMlk150, List.forall_mem_cons.mpr ⟨aMlk151, List.forall_mem_cons.mpr ⟨aMlk152, List.forall_mem_cons.mpr ⟨aMlk153, List.forall_mem_cons.mpr ⟨aMlk154, List.forall_mem_cons.mpr ⟨aMlk155, List.forall_mem_cons.mpr ⟨aMlk156, List.forall_mem_cons.mpr ⟨aMlk157, List.forall_mem_cons.mpr ⟨aMlk158, List.forall_mem_cons.mpr ⟨aMlk159, (fun _ h => absurd h List.not_mem_nil)⟩⟩⟩⟩⟩⟩⟩⟩⟩⟩⟩⟩⟩⟩⟩⟩⟩⟩⟩⟩⟩⟩⟩⟩⟩⟩⟩⟩⟩⟩⟩⟩
theorem aMl_ok5 : ∀ q ∈ aMl_5, aMlk q := List.forall_mem_cons.mpr ⟨aMlk160, List.forall_mem_cons.mpr ⟨aMlk161, List.forall_mem_cons.mpr ⟨aMlk162, List.forall_mem_cons.mpr ⟨aMlk163, List.forall_mem_cons.mpr ⟨aMlk164, List.forall_mem_cons.mpr ⟨aMlk165, List.forall_mem_cons.mpr ⟨aMlk166, List.forall_mem_cons.mpr ⟨aMlk167, List.forall_mem_cons.mpr ⟨aMlk168, List.forall_mem_cons.mpr ⟨aMlk169, List.forall_mem_cons.mpr ⟨aMlk170, List.forall_mem_cons.mpr ⟨aMlk171, List.forall_mem_cons.mpr ⟨aMlk172, List.forall_mem_cons.mpr ⟨aMlk173, List.forall_mem_cons.mpr ⟨aMlk174, List.forall_mem_cons.mpr ⟨aMlk175, List.forall_mem_cons.mpr ⟨aMlk176, List.forall_mem_cons.mpr ⟨aMlk177, List.forall_mem_cons.mpr ⟨aMlk178, List.forall_mem_cons.mpr ⟨aMlk179, List.forall_mem_cons.mpr ⟨aMlk180, List.forall_mem_cons.mpr ⟨aMlk181, List.forall_mem_cons.mpr ⟨aMlk182, List.forall_mem_cons.mpr ⟨aMlk183, List.forall_mem_cons.mpr ⟨aMlk184, List.forall_mem_cons.mpr ⟨aMlk185, List.forall_mem_cons.mpr ⟨aMlk186, List.forall_mem_cons.mpr ⟨aMlk187, List.forall_mem_cons.mpr ⟨aMlk188, List.forall_mem_cons.mpr ⟨aMlk189, List.forall_mem_cons.mpr ⟨aMlk190, List.forall_mem_cons.mpr ⟨aMlk191, (fun _ h => absurd h List.not_mem_nil)⟩⟩⟩⟩⟩⟩⟩⟩⟩⟩⟩⟩⟩⟩⟩⟩⟩⟩⟩⟩⟩⟩⟩⟩⟩⟩⟩⟩⟩⟩⟩⟩
theorem aMl_ok6 : ∀ q ∈ aMl_6, aMlk q := List.forall_mem_cons.mpr ⟨aMlk192, List.forall_mem_cons.mpr ⟨aMlk193, List.forall_mem_cons.mpr ⟨aMlk194, (fun _ h => absurd h List.not_mem_nil)⟩⟩⟩
theorem aMl_ok : ∀ q ∈ aMl, aMlk q := fun q h => (List.mem_append.mp h).elim (aMl_ok0 q) (fun h => (List.mem_append.mp h).elim (aMl_ok1 q) (fun h => (List.mem_append.mp h).elim (aMl_ok2 q) (fun h => (List.mem_append.mp h).elim (aMl_ok3 q) (fun h => (List.mem_append.mp h).elim (aMl_ok4 q) (fun h => (List.mem_append.mp h).elim (aMl_ok5 q) (fun h => aMl_ok6 q h))))))
/-- links of classes: class number, place, the name -/
def aKl : List (Nat × Nat × String) := [(0, 11, "[[I"), (3, 11, "[[I"), (1, 11, "HiddenRelations$Place"), (1, 11, "HiddenRelations$Place"), (4, 15, "[[I"), (6, 7, "HiddenRelations$Numbers"), (6, 16, "[[I"), (6, 21, "HiddenRelations$Reader"), (6, 41, "HiddenRelations$Basis"), (6, 64, "HiddenRelations$Ledger"), (6, 71, "HiddenRelations$Sheet"), (6, 71, "HiddenRelations$Sheet"), (11, 8, "HiddenRelations"), (11, 20, "HiddenRelationsModel")]
def aKok (q : Nat × Nat × String) : Prop := Cond.classLink (aCN q.1) q.2.1 q.2.2 ∈ aWS
theorem aKok0 : aKok (0, 11, "[[I") := aW_1 123 (by decide +kernel) (by decide +kernel)
theorem aKok1 : aKok (3, 11, "[[I") := aW_1 161 (by decide +kernel) (by decide +kernel)
theorem aKok2 : aKok (1, 11, "HiddenRelations$Place") := aW_1 154 (by decide +kernel) (by decide +kernel)
theorem aKok3 : aKok (1, 11, "HiddenRelations$Place") := aW_1 154 (by decide +kernel) (by decide +kernel)
theorem aKok4 : aKok (4, 15, "[[I") := aW_1 59 (by decide +kernel) (by decide +kernel)
theorem aKok5 : aKok (6, 7, "HiddenRelations$Numbers") := aW_1 36 (by decide +kernel) (by decide +kernel)
theorem aKok6 : aKok (6, 16, "[[I") := aW_1 51 (by decide +kernel) (by decide +kernel)
theorem aKok7 : aKok (6, 21, "HiddenRelations$Reader") := aW_1 53 (by decide +kernel) (by decide +kernel)
theorem aKok8 : aKok (6, 41, "HiddenRelations$Basis") := aW_1 117 (by decide +kernel) (by decide +kernel)
theorem aKok9 : aKok (6, 64, "HiddenRelations$Ledger") := aW_1 148 (by decide +kernel) (by decide +kernel)
theorem aKok10 : aKok (6, 71, "HiddenRelations$Sheet") := aW_1 202 (by decide +kernel) (by decide +kernel)
theorem aKok11 : aKok (6, 71, "HiddenRelations$Sheet") := aW_1 202 (by decide +kernel) (by decide +kernel)
theorem aKok12 : aKok (11, 8, "HiddenRelations") := aW_1 28 (by decide +kernel) (by decide +kernel)
theorem aKok13 : aKok (11, 20, "HiddenRelationsModel") := aW_5 77 (by decide +kernel) (by decide +kernel)
theorem aKl_ok : ∀ q ∈ aKl, aKok q := List.forall_mem_cons.mpr ⟨aKok0, List.forall_mem_cons.mpr ⟨aKok1, List.forall_mem_cons.mpr ⟨aKok2, List.forall_mem_cons.mpr ⟨aKok3, List.forall_mem_cons.mpr ⟨aKok4, List.forall_mem_cons.mpr ⟨aKok5, List.forall_mem_cons.mpr ⟨aKok6, List.forall_mem_cons.mpr ⟨aKok7, List.forall_mem_cons.mpr ⟨aKok8, List.forall_mem_cons.mpr ⟨aKok9, List.forall_mem_cons.mpr ⟨aKok10, List.forall_mem_cons.mpr ⟨aKok11, List.forall_mem_cons.mpr ⟨aKok12, List.forall_mem_cons.mpr ⟨aKok13, (fun _ h => absurd h List.not_mem_nil)⟩⟩⟩⟩⟩⟩⟩⟩⟩⟩⟩⟩⟩⟩
/-- int constants of a pool -/
def aVl : List (Nat × Nat × Int32) := [(8, 265, 1431655765), (8, 266, 858993459), (8, 267, 252645135)]
def aVok (q : Nat × Nat × Int32) : Prop := Cond.constant (aCN q.1) q.2.1 q.2.2 ∈ aWS
theorem aVok0 : aVok (8, 265, 1431655765) := aW_4 46 (by decide +kernel) (by decide +kernel)
theorem aVok1 : aVok (8, 266, 858993459) := aW_4 47 (by decide +kernel) (by decide +kernel)
theorem aVok2 : aVok (8, 267, 252645135) := aW_4 48 (by decide +kernel) (by decide +kernel)
theorem aVl_ok : ∀ q ∈ aVl, aVok q := List.forall_mem_cons.mpr ⟨aVok0, List.forall_mem_cons.mpr ⟨aVok1, List.forall_mem_cons.mpr ⟨aVok2, (fun _ h => absurd h List.not_mem_nil)⟩⟩⟩
theorem aWarr0 : Cond.arrayClass .int ∈ aWS := aW_1 50 (by decide +kernel) (by decide +kernel)
theorem aWarr1 : Cond.arrayClass .boolean ∈ aWS := aW_1 116 (by decide +kernel) (by decide +kernel)
theorem aWarr5 : Cond.arrayClass .long ∈ aWS := aW_7 36 (by decide +kernel) (by decide +kernel)
theorem aWinst0 : Cond.instantiable "HiddenRelations$Basis" 6 ∈ aWS := aW_1 118 (by decide +kernel) (by decide +kernel)
theorem aWini0 : Cond.initialized "HiddenRelations$Basis" ∈ aWS := aW_1 4 (by decide +kernel) (by decide +kernel)
theorem aWinst1 : Cond.instantiable "HiddenRelations$Ledger" 2 ∈ aWS := aW_1 149 (by decide +kernel) (by decide +kernel)
theorem aWini1 : Cond.initialized "HiddenRelations$Ledger" ∈ aWS := aW_1 5 (by decide +kernel) (by decide +kernel)
theorem aWinst2 : Cond.instantiable "HiddenRelations$Numbers" 2 ∈ aWS := aW_1 37 (by decide +kernel) (by decide +kernel)
theorem aWini2 : Cond.initialized "HiddenRelations$Numbers" ∈ aWS := aW_1 2 (by decide +kernel) (by decide +kernel)
theorem aWinst3 : Cond.instantiable "HiddenRelations$Place" 9 ∈ aWS := aW_1 156 (by decide +kernel) (by decide +kernel)
theorem aWini3 : Cond.initialized "HiddenRelations$Place" ∈ aWS := aW_1 6 (by decide +kernel) (by decide +kernel)
theorem aWinst4 : Cond.instantiable "HiddenRelations$Reader" 18 ∈ aWS := aW_1 54 (by decide +kernel) (by decide +kernel)
theorem aWini4 : Cond.initialized "HiddenRelations$Reader" ∈ aWS := aW_1 3 (by decide +kernel) (by decide +kernel)
theorem aWinst5 : Cond.instantiable "HiddenRelations$Sheet" 3 ∈ aWS := aW_1 204 (by decide +kernel) (by decide +kernel)
theorem aWini5 : Cond.initialized "HiddenRelations$Sheet" ∈ aWS := aW_1 7 (by decide +kernel) (by decide +kernel)
theorem aWinst6 : Cond.instantiable "HiddenRelations" 14 ∈ aWS := aW_1 29 (by decide +kernel) (by decide +kernel)
theorem aWini6 : Cond.initialized "HiddenRelations" ∈ aWS := aW_1 1 (by decide +kernel) (by decide +kernel)
theorem aWinst7 : Cond.instantiable "HiddenRelationsModel" 52 ∈ aWS := aW_5 78 (by decide +kernel) (by decide +kernel)
theorem aWini7 : Cond.initialized "HiddenRelationsModel" ∈ aWS := aW_1 8 (by decide +kernel) (by decide +kernel)
/-- links of Object() and of System.arraycopy: class number, place -/
def aOi : List (Nat × Nat) := [(0, 3), (1, 3), (2, 3), (3, 3), (4, 3), (5, 1), (6, 1), (7, 1)]
theorem aOi_ok : ∀ q ∈ aOi, Cond.methodLink (aCN q.1) q.2 objectInit ∈ aWS := List.forall_mem_cons.mpr ⟨aW_1 122 (by decide +kernel) (by decide +kernel), List.forall_mem_cons.mpr ⟨aW_1 153 (by decide +kernel) (by decide +kernel), List.forall_mem_cons.mpr ⟨aW_1 41 (by decide +kernel) (by decide +kernel), List.forall_mem_cons.mpr ⟨aW_1 160 (by decide +kernel) (by decide +kernel), List.forall_mem_cons.mpr ⟨aW_1 58 (by decide +kernel) (by decide +kernel), List.forall_mem_cons.mpr ⟨aW_1 208 (by decide +kernel) (by decide +kernel), List.forall_mem_cons.mpr ⟨aW_1 33 (by decide +kernel) (by decide +kernel), List.forall_mem_cons.mpr ⟨aW_5 82 (by decide +kernel) (by decide +kernel), (fun _ h => absurd h List.not_mem_nil)⟩⟩⟩⟩⟩⟩⟩⟩
def aCy : List (Nat × Nat) := [(0, 46), (2, 38), (4, 69), (6, 120)]
theorem aCy_ok : ∀ q ∈ aCy, Cond.methodLink (aCN q.1) q.2 arraycopyName ∈ aWS := List.forall_mem_cons.mpr ⟨aW_4 75 (by decide +kernel) (by decide +kernel), List.forall_mem_cons.mpr ⟨aW_2 90 (by decide +kernel) (by decide +kernel), List.forall_mem_cons.mpr ⟨aW_4 16 (by decide +kernel) (by decide +kernel), List.forall_mem_cons.mpr ⟨aW_2 105 (by decide +kernel) (by decide +kernel), (fun _ h => absurd h List.not_mem_nil)⟩⟩⟩⟩
theorem aWoi : Cond.instanceMethod objectInit ∈ aWS := aW_1 34 (by decide +kernel) (by decide +kernel)
theorem aWoc : Cond.code objectInit ⟨#[0xb1]⟩ 1 none ∈ aWS := aW_1 35 (by decide +kernel) (by decide +kernel)
theorem aWcn : Cond.native arraycopyName ∈ aWS := aW_2 92 (by decide +kernel) (by decide +kernel)
theorem aWcs : Cond.static arraycopyName ∈ aWS := aW_2 91 (by decide +kernel) (by decide +kernel)
theorem aWci : Cond.initialized "java/lang/System" ∈ aWS := aW_1 11 (by decide +kernel) (by decide +kernel)

-- needs: 01
/-- links of fields: class number, place in its pool, class of the field, its place there, 1 if of another class of the nest -/
def aFl_0 : List (Nat × Nat × Nat × Nat × Nat) := [(0, 36, 0, 5, 0), (0, 19, 0, 3, 0), (0, 23, 0, 4, 0), (2, 9, 2, 0, 0), (0, 13, 0, 1, 0), (0, 26, 0, 0, 0), (0, 16, 0, 2, 0), (1, 13, 1, 0, 0), (1, 18, 3, 1, 1), (1, 22, 3, 2, 1), (1, 26, 1, 1, 0), (3, 13, 3, 0, 0), (2, 15, 2, 1, 0), (3, 22, 3, 4, 0), (3, 16, 0, 5, 1), (3, 29, 3, 6, 0), (3, 31, 0, 2, 1), (3, 40, 3, 7, 0), (4, 94, 4, 10, 0), (4, 17, 4, 11, 0), (4, 39, 4, 0, 0), (4, 20, 4, 12, 0), (4, 30, 4, 15, 0), (4, 26, 4, 14, 0), (4, 60, 4, 7, 0), (4, 75, 4, 5, 0), (4, 50, 4, 8, 0), (4, 78, 4, 4, 0), (4, 23, 4, 13, 0), (4, 91, 4, 6, 0), (4, 36, 4, 17, 0), (4, 53, 4, 9, 0)]
def aFl_1 : List (Nat × Nat × Nat × Nat × Nat) := [(4, 33, 4, 16, 0), (4, 43, 4, 2, 0), (4, 11, 4, 1, 0), (4, 47, 4, 3, 0), (5, 17, 5, 1, 0), (5, 13, 5, 2, 0), (5, 9, 5, 0, 0), (6, 10, 6, 0, 0), (6, 58, 6, 10, 0), (6, 61, 6, 11, 0), (6, 18, 6, 1, 0), (6, 67, 6, 12, 0), (6, 208, 3, 3, 1), (6, 229, 3, 4, 1), (6, 213, 3, 5, 1), (6, 232, 3, 6, 1), (6, 234, 3, 7, 1), (6, 216, 3, 8, 1), (6, 30, 6, 3, 0), (6, 48, 6, 7, 0), (6, 52, 6, 8, 0), (6, 55, 6, 9, 0), (6, 37, 6, 5, 0), (6, 44, 6, 6, 0), (6, 34, 6, 4, 0), (6, 172, 0, 2, 1), (6, 73, 6, 13, 0), (6, 82, 2, 0, 1), (6, 26, 6, 2, 0), (6, 133, 4, 2, 1), (6, 292, 1, 1, 1), (6, 283, 5, 2, 1)]
def aFl_2 : List (Nat × Nat × Nat × Nat × Nat) := [(6, 278, 5, 1, 1), (6, 281, 5, 0, 1), (6, 169, 0, 3, 1), (6, 243, 3, 1, 1), (6, 152, 0, 5, 1), (7, 13, 7, 1, 0), (7, 29, 7, 12, 0), (7, 188, 7, 17, 0), (7, 35, 7, 14, 0), (7, 39, 7, 15, 0), (7, 170, 7, 8, 0), (7, 167, 7, 7, 0), (7, 26, 7, 6, 0), (7, 173, 7, 9, 0), (7, 176, 7, 10, 0), (7, 179, 7, 11, 0), (7, 197, 7, 20, 0), (7, 45, 7, 19, 0), (7, 7, 7, 0, 0), (7, 203, 7, 21, 0), (7, 272, 7, 38, 0), (7, 84, 7, 40, 0), (7, 87, 7, 41, 0), (7, 90, 7, 42, 0), (7, 93, 7, 43, 0), (7, 96, 7, 44, 0), (7, 99, 7, 45, 0), (7, 102, 7, 46, 0), (7, 120, 7, 22, 0), (7, 227, 7, 25, 0), (7, 51, 7, 24, 0), (7, 230, 7, 26, 0)]
def aFl_3 : List (Nat × Nat × Nat × Nat × Nat) := [(7, 54, 7, 27, 0), (7, 57, 7, 28, 0), (7, 48, 7, 23, 0), (7, 78, 7, 36, 0), (7, 81, 7, 37, 0), (7, 233, 7, 31, 0), (7, 75, 7, 35, 0), (7, 69, 7, 33, 0), (7, 72, 7, 34, 0), (7, 60, 7, 29, 0), (7, 66, 7, 32, 0), (7, 63, 7, 30, 0), (7, 17, 7, 3, 0), (7, 32, 7, 13, 0), (7, 20, 7, 4, 0), (7, 191, 7, 18, 0), (7, 42, 7, 16, 0), (7, 108, 7, 48, 0), (7, 279, 7, 39, 0), (7, 123, 7, 2, 0), (7, 114, 7, 50, 0), (7, 23, 7, 5, 0), (7, 105, 7, 47, 0), (7, 111, 7, 49, 0), (7, 117, 7, 51, 0)]
def aFl : List (Nat × Nat × Nat × Nat × Nat) := aFl_0 ++ (aFl_1 ++ (aFl_2 ++ (aFl_3)))
def aFok (q : Nat × Nat × Nat × Nat × Nat) : Prop := ∃ r : vw_C, aCl[q.2.2.1]? = some r ∧ q.2.2.2.1 < r.2.2 ∧ (r.2.1 q.2.2.2.1).1 = r.1 ∧ (q.2.2.2.2 = 0 → Cond.fieldLink (aCN q.1) q.2.1 r.1 (r.2.1 q.2.2.2.1).2.1 (r.2.1 q.2.2.2.1).2.2.1 ∈ aWS) ∧ (q.2.2.2.2 ≠ 0 → Cond.fieldLinkNest (aCN q.1) q.2.1 r.1 (r.2.1 q.2.2.2.1).2.1 (r.2.1 q.2.2.2.1).2.2.1 "HiddenRelations" ∈ aNW)
theorem aFok0 : aFok (0, 36, 0, 5, 0) := ⟨_, rfl, by decide, rfl, fun _ => aW_1 133 (by decide +kernel) (by decide +kernel), fun h => absurd rfl h⟩
theorem aFok1 : aFok (0, 19, 0, 3, 0) := ⟨_, rfl, by decide, rfl, fun _ => aW_1 129 (by decide +kernel) (by decide +kernel), fun h => absurd rfl h⟩
theorem aFok2 : aFok (0, 23, 0, 4, 0) := ⟨_, rfl, by decide, rfl, fun _ => aW_1 131 (by decide +kernel) (by decide +kernel), fun h => absurd rfl h⟩
theorem aFok3 : aFok (2, 9, 2, 0, 0) := ⟨_, rfl, by decide, rfl, fun _ => aW_1 42 (by decide +kernel) (by decide +kernel), fun h => absurd rfl h⟩
theorem aFok4 : aFok (0, 13, 0, 1, 0) := ⟨_, rfl, by decide, rfl, fun _ => aW_1 125 (by decide +kernel) (by decide +kernel), fun h => absurd rfl h⟩
theorem aFok5 : aFok (0, 26, 0, 0, 0) := ⟨_, rfl, by decide, rfl, fun _ => aW_1 124 (by decide +kernel) (by decide +kernel), fun h => absurd rfl h⟩
theorem aFok6 : aFok (0, 16, 0, 2, 0) := ⟨_, rfl, by decide, rfl, fun _ => aW_1 126 (by decide +kernel) (by decide +kernel), fun h => absurd rfl h⟩
theorem aFok7 : aFok (1, 13, 1, 0, 0) := ⟨_, rfl, by decide, rfl, fun _ => aW_1 194 (by decide +kernel) (by decide +kernel), fun h => absurd rfl h⟩
theorem aFok8 : aFok (1, 18, 3, 1, 1) := ⟨_, rfl, by decide, rfl, fun h => absurd h (by decide), fun _ => List.mem_of_getElem? (i := 12) (by decide +kernel)⟩
theorem aFok9 : aFok (1, 22, 3, 2, 1) := ⟨_, rfl, by decide, rfl, fun h => absurd h (by decide), fun _ => List.mem_of_getElem? (i := 14) (by decide +kernel)⟩
theorem aFok10 : aFok (1, 26, 1, 1, 0) := ⟨_, rfl, by decide, rfl, fun _ => aW_1 195 (by decide +kernel) (by decide +kernel), fun h => absurd rfl h⟩
theorem aFok11 : aFok (3, 13, 3, 0, 0) := ⟨_, rfl, by decide, rfl, fun _ => aW_1 162 (by decide +kernel) (by decide +kernel), fun h => absurd rfl h⟩
theorem aFok12 : aFok (2, 15, 2, 1, 0) := ⟨_, rfl, by decide, rfl, fun _ => aW_1 44 (by decide +kernel) (by decide +kernel), fun h => absurd rfl h⟩
theorem aFok13 : aFok (3, 22, 3, 4, 0) := ⟨_, rfl, by decide, rfl, fun _ => aW_1 167 (by decide +kernel) (by decide +kernel), fun h => absurd rfl h⟩
theorem aFok14 : aFok (3, 16, 0, 5, 1) := ⟨_, rfl, by decide, rfl, fun h => absurd h (by decide), fun _ => List.mem_of_getElem? (i := 8) (by decide +kernel)⟩
theorem aFok15 : aFok (3, 29, 3, 6, 0) := ⟨_, rfl, by decide, rfl, fun _ => aW_1 170 (by decide +kernel) (by decide +kernel), fun h => absurd rfl h⟩
theorem aFok16 : aFok (3, 31, 0, 2, 1) := ⟨_, rfl, by decide, rfl, fun h => absurd h (by decide), fun _ => List.mem_of_getElem? (i := 5) (by decide +kernel)⟩
theorem aFok17 : aFok (3, 40, 3, 7, 0) := ⟨_, rfl, by decide, rfl, fun _ => aW_1 172 (by decide +kernel) (by decide +kernel), fun h => absurd rfl h⟩
theorem aFok18 : aFok (4, 94, 4, 10, 0) := ⟨_, rfl, by decide, rfl, fun _ => aW_1 71 (by decide +kernel) (by decide +kernel), fun h => absurd rfl h⟩
theorem aFok19 : aFok (4, 17, 4, 11, 0) := ⟨_, rfl, by decide, rfl, fun _ => aW_1 72 (by decide +kernel) (by decide +kernel), fun h => absurd rfl h⟩
theorem aFok20 : aFok (4, 39, 4, 0, 0) := ⟨_, rfl, by decide, rfl, fun _ => aW_1 60 (by decide +kernel) (by decide +kernel), fun h => absurd rfl h⟩
theorem aFok21 : aFok (4, 20, 4, 12, 0) := ⟨_, rfl, by decide, rfl, fun _ => aW_1 73 (by decide +kernel) (by decide +kernel), fun h => absurd rfl h⟩
theorem aFok22 : aFok (4, 30, 4, 15, 0) := ⟨_, rfl, by decide, rfl, fun _ => aW_1 76 (by decide +kernel) (by decide +kernel), fun h => absurd rfl h⟩
theorem aFok23 : aFok (4, 26, 4, 14, 0) := ⟨_, rfl, by decide, rfl, fun _ => aW_1 75 (by decide +kernel) (by decide +kernel), fun h => absurd rfl h⟩
theorem aFok24 : aFok (4, 60, 4, 7, 0) := ⟨_, rfl, by decide, rfl, fun _ => aW_1 68 (by decide +kernel) (by decide +kernel), fun h => absurd rfl h⟩
theorem aFok25 : aFok (4, 75, 4, 5, 0) := ⟨_, rfl, by decide, rfl, fun _ => aW_1 66 (by decide +kernel) (by decide +kernel), fun h => absurd rfl h⟩
theorem aFok26 : aFok (4, 50, 4, 8, 0) := ⟨_, rfl, by decide, rfl, fun _ => aW_1 69 (by decide +kernel) (by decide +kernel), fun h => absurd rfl h⟩
theorem aFok27 : aFok (4, 78, 4, 4, 0) := ⟨_, rfl, by decide, rfl, fun _ => aW_1 65 (by decide +kernel) (by decide +kernel), fun h => absurd rfl h⟩
theorem aFok28 : aFok (4, 23, 4, 13, 0) := ⟨_, rfl, by decide, rfl, fun _ => aW_1 74 (by decide +kernel) (by decide +kernel), fun h => absurd rfl h⟩
theorem aFok29 : aFok (4, 91, 4, 6, 0) := ⟨_, rfl, by decide, rfl, fun _ => aW_1 67 (by decide +kernel) (by decide +kernel), fun h => absurd rfl h⟩
theorem aFok30 : aFok (4, 36, 4, 17, 0) := ⟨_, rfl, by decide, rfl, fun _ => aW_1 78 (by decide +kernel) (by decide +kernel), fun h => absurd rfl h⟩
theorem aFok31 : aFok (4, 53, 4, 9, 0) := ⟨_, rfl, by decide, rfl, fun _ => aW_1 70 (by decide +kernel) (by decide +kernel), fun h => absurd rfl h⟩
theorem aFok32 : aFok (4, 33, 4, 16, 0) := ⟨_, rfl, by decide, rfl, fun _ => aW_1 77 (by decide +kernel) (by decide +kernel), fun h => absurd rfl h⟩
theorem aFok33 : aFok (4, 43, 4, 2, 0) := ⟨_, rfl, by decide, rfl, fun _ => aW_1 62 (by decide +kernel) (by decide +kernel), fun h => absurd rfl h⟩
theorem aFok34 : aFok (4, 11, 4, 1, 0) := ⟨_, rfl, by decide, rfl, fun _ => aW_1 61 (by decide +kernel) (by decide +kernel), fun h => absurd rfl h⟩
theorem aFok35 : aFok (4, 47, 4, 3, 0) := ⟨_, rfl, by decide, rfl, fun _ => aW_1 64 (by decide +kernel) (by decide +kernel), fun h => absurd rfl h⟩
theorem aFok36 : aFok (5, 17, 5, 1, 0) := ⟨_, rfl, by decide, rfl, fun _ => aW_1 211 (by decide +kernel) (by decide +kernel), fun h => absurd rfl h⟩
theorem aFok37 : aFok (5, 13, 5, 2, 0) := ⟨_, rfl, by decide, rfl, fun _ => aW_1 213 (by decide +kernel) (by decide +kernel), fun h => absurd rfl h⟩
theorem aFok38 : aFok (5, 9, 5, 0, 0) := ⟨_, rfl, by decide, rfl, fun _ => aW_1 209 (by decide +kernel) (by decide +kernel), fun h => absurd rfl h⟩
theorem aFok39 : aFok (6, 10, 6, 0, 0) := ⟨_, rfl, by decide, rfl, fun _ => aW_1 222 (by decide +kernel) (by decide +kernel), fun h => absurd rfl h⟩
theorem aFok40 : aFok (6, 58, 6, 10, 0) := ⟨_, rfl, by decide, rfl, fun _ => aW_1 232 (by decide +kernel) (by decide +kernel), fun h => absurd rfl h⟩
theorem aFok41 : aFok (6, 61, 6, 11, 0) := ⟨_, rfl, by decide, rfl, fun _ => aW_1 233 (by decide +kernel) (by decide +kernel), fun h => absurd rfl h⟩
theorem aFok42 : aFok (6, 18, 6, 1, 0) := ⟨_, rfl, by decide, rfl, fun _ => aW_1 223 (by decide +kernel) (by decide +kernel), fun h => absurd rfl h⟩
theorem aFok43 : aFok (6, 67, 6, 12, 0) := ⟨_, rfl, by decide, rfl, fun _ => aW_1 234 (by decide +kernel) (by decide +kernel), fun h => absurd rfl h⟩
theorem aFok44 : aFok (6, 208, 3, 3, 1) := ⟨_, rfl, by decide, rfl, fun h => absurd h (by decide), fun _ => List.mem_of_getElem? (i := 15) (by decide +kernel)⟩
theorem aFok45 : aFok (6, 229, 3, 4, 1) := ⟨_, rfl, by decide, rfl, fun h => absurd h (by decide), fun _ => List.mem_of_getElem? (i := 16) (by decide +kernel)⟩
theorem aFok46 : aFok (6, 213, 3, 5, 1) := ⟨_, rfl, by decide, rfl, fun h => absurd h (by decide), fun _ => List.mem_of_getElem? (i := 17) (by decide +kernel)⟩
theorem aFok47 : aFok (6, 232, 3, 6, 1) := ⟨_, rfl, by decide, rfl, fun h => absurd h (by decide), fun _ => List.mem_of_getElem? (i := 18) (by decide +kernel)⟩
theorem aFok48 : aFok (6, 234, 3, 7, 1) := ⟨_, rfl, by decide, rfl, fun h => absurd h (by decide), fun _ => List.mem_of_getElem? (i := 19) (by decide +kernel)⟩
theorem aFok49 : aFok (6, 216, 3, 8, 1) := ⟨_, rfl, by decide, rfl, fun h => absurd h (by decide), fun _ => List.mem_of_getElem? (i := 20) (by decide +kernel)⟩
theorem aFok50 : aFok (6, 30, 6, 3, 0) := ⟨_, rfl, by decide, rfl, fun _ => aW_1 225 (by decide +kernel) (by decide +kernel), fun h => absurd rfl h⟩
theorem aFok51 : aFok (6, 48, 6, 7, 0) := ⟨_, rfl, by decide, rfl, fun _ => aW_1 229 (by decide +kernel) (by decide +kernel), fun h => absurd rfl h⟩
theorem aFok52 : aFok (6, 52, 6, 8, 0) := ⟨_, rfl, by decide, rfl, fun _ => aW_1 230 (by decide +kernel) (by decide +kernel), fun h => absurd rfl h⟩
theorem aFok53 : aFok (6, 55, 6, 9, 0) := ⟨_, rfl, by decide, rfl, fun _ => aW_1 231 (by decide +kernel) (by decide +kernel), fun h => absurd rfl h⟩
theorem aFok54 : aFok (6, 37, 6, 5, 0) := ⟨_, rfl, by decide, rfl, fun _ => aW_1 227 (by decide +kernel) (by decide +kernel), fun h => absurd rfl h⟩
theorem aFok55 : aFok (6, 44, 6, 6, 0) := ⟨_, rfl, by decide, rfl, fun _ => aW_1 228 (by decide +kernel) (by decide +kernel), fun h => absurd rfl h⟩
theorem aFok56 : aFok (6, 34, 6, 4, 0) := ⟨_, rfl, by decide, rfl, fun _ => aW_1 226 (by decide +kernel) (by decide +kernel), fun h => absurd rfl h⟩
theorem aFok57 : aFok (6, 172, 0, 2, 1) := ⟨_, rfl, by decide, rfl, fun h => absurd h (by decide), fun _ => List.mem_of_getElem? (i := 6) (by decide +kernel)⟩
theorem aFok58 : aFok (6, 73, 6, 13, 0) := ⟨_, rfl, by decide, rfl, fun _ => aW_1 235 (by decide +kernel) (by decide +kernel), fun h => absurd rfl h⟩
theorem aFok59 : aFok (6, 82, 2, 0, 1) := ⟨_, rfl, by decide, rfl, fun h => absurd h (by decide), fun _ => List.mem_of_getElem? (i := 1) (by decide +kernel)⟩
theorem aFok60 : aFok (6, 26, 6, 2, 0) := ⟨_, rfl, by decide, rfl, fun _ => aW_1 224 (by decide +kernel) (by decide +kernel), fun h => absurd rfl h⟩
theorem aFok61 : aFok (6, 133, 4, 2, 1) := ⟨_, rfl, by decide, rfl, fun h => absurd h (by decide), fun _ => List.mem_of_getElem? (i := 3) (by decide +kernel)⟩
theorem aFok62 : aFok (6, 292, 1, 1, 1) := ⟨_, rfl, by decide, rfl, fun h => absurd h (by decide), fun _ => List.mem_of_getElem? (i := 21) (by decide +kernel)⟩
theorem aFok63 : aFok (6, 283, 5, 2, 1) := ⟨_, rfl, by decide, rfl, fun h => absurd h (by decide), fun _ => List.mem_of_getElem? (i := 25) (by decide +kernel)⟩
theorem aFok64 : aFok (6, 278, 5, 1, 1) := ⟨_, rfl, by decide, rfl, fun h => absurd h (by decide), fun _ => List.mem_of_getElem? (i := 24) (by decide +kernel)⟩
theorem aFok65 : aFok (6, 281, 5, 0, 1) := ⟨_, rfl, by decide, rfl, fun h => absurd h (by decide), fun _ => List.mem_of_getElem? (i := 23) (by decide +kernel)⟩
theorem aFok66 : aFok (6, 169, 0, 3, 1) := ⟨_, rfl, by decide, rfl, fun h => absurd h (by decide), fun _ => List.mem_of_getElem? (i := 7) (by decide +kernel)⟩
theorem aFok67 : aFok (6, 243, 3, 1, 1) := ⟨_, rfl, by decide, rfl, fun h => absurd h (by decide), fun _ => List.mem_of_getElem? (i := 13) (by decide +kernel)⟩
theorem aFok68 : aFok (6, 152, 0, 5, 1) := ⟨_, rfl, by decide, rfl, fun h => absurd h (by decide), fun _ => List.mem_of_getElem? (i := 9) (by decide +kernel)⟩
theorem aFok69 : aFok (7, 13, 7, 1, 0) := ⟨_, rfl, by decide, rfl, fun _ => aW_5 84 (by decide +kernel) (by decide +kernel), fun h => absurd rfl h⟩
theorem aFok70 : aFok (7, 29, 7, 12, 0) := ⟨_, rfl, by decide, rfl, fun _ => aW_5 95 (by decide +kernel) (by decide +kernel), fun h => absurd rfl h⟩
theorem aFok71 : aFok (7, 188, 7, 17, 0) := ⟨_, rfl, by decide, rfl, fun _ => aW_5 100 (by decide +kernel) (by decide +kernel), fun h => absurd rfl h⟩
theorem aFok72 : aFok (7, 35, 7, 14, 0) := ⟨_, rfl, by decide, rfl, fun _ => aW_5 97 (by decide +kernel) (by decide +kernel), fun h => absurd rfl h⟩
theorem aFok73 : aFok (7, 39, 7, 15, 0) := ⟨_, rfl, by decide, rfl, fun _ => aW_5 98 (by decide +kernel) (by decide +kernel), fun h => absurd rfl h⟩
theorem aFok74 : aFok (7, 170, 7, 8, 0) := ⟨_, rfl, by decide, rfl, fun _ => aW_5 91 (by decide +kernel) (by decide +kernel), fun h => absurd rfl h⟩
theorem aFok75 : aFok (7, 167, 7, 7, 0) := ⟨_, rfl, by decide, rfl, fun _ => aW_5 90 (by decide +kernel) (by decide +kernel), fun h => absurd rfl h⟩
theorem aFok76 : aFok (7, 26, 7, 6, 0) := ⟨_, rfl, by decide, rfl, fun _ => aW_5 89 (by decide +kernel) (by decide +kernel), fun h => absurd rfl h⟩
theorem aFok77 : aFok (7, 173, 7, 9, 0) := ⟨_, rfl, by decide, rfl, fun _ => aW_5 92 (by decide +kernel) (by decide +kernel), fun h => absurd rfl h⟩
theorem aFok78 : aFok (7, 176, 7, 10, 0) := ⟨_, rfl, by decide, rfl, fun _ => aW_5 93 (by decide +kernel) (by decide +kernel), fun h => absurd rfl h⟩
theorem aFok79 : aFok (7, 179, 7, 11, 0) := ⟨_, rfl, by decide, rfl, fun _ => aW_5 94 (by decide +kernel) (by decide +kernel), fun h => absurd rfl h⟩
theorem aFok80 : aFok (7, 197, 7, 20, 0) := ⟨_, rfl, by decide, rfl, fun _ => aW_5 103 (by decide +kernel) (by decide +kernel), fun h => absurd rfl h⟩
theorem aFok81 : aFok (7, 45, 7, 19, 0) := ⟨_, rfl, by decide, rfl, fun _ => aW_5 102 (by decide +kernel) (by decide +kernel), fun h => absurd rfl h⟩
theorem aFok82 : aFok (7, 7, 7, 0, 0) := ⟨_, rfl, by decide, rfl, fun _ => aW_5 83 (by decide +kernel) (by decide +kernel), fun h => absurd rfl h⟩
theorem aFok83 : aFok (7, 203, 7, 21, 0) := ⟨_, rfl, by decide, rfl, fun _ => aW_5 104 (by decide +kernel) (by decide +kernel), fun h => absurd rfl h⟩
theorem aFok84 : aFok (7, 272, 7, 38, 0) := ⟨_, rfl, by decide, rfl, fun _ => aW_5 121 (by decide +kernel) (by decide +kernel), fun h => absurd rfl h⟩
theorem aFok85 : aFok (7, 84, 7, 40, 0) := ⟨_, rfl, by decide, rfl, fun _ => aW_5 123 (by decide +kernel) (by decide +kernel), fun h => absurd rfl h⟩
theorem aFok86 : aFok (7, 87, 7, 41, 0) := ⟨_, rfl, by decide, rfl, fun _ => aW_5 124 (by decide +kernel) (by decide +kernel), fun h => absurd rfl h⟩
theorem aFok87 : aFok (7, 90, 7, 42, 0) := ⟨_, rfl, by decide, rfl, fun _ => aW_5 125 (by decide +kernel) (by decide +kernel), fun h => absurd rfl h⟩
theorem aFok88 : aFok (7, 93, 7, 43, 0) := ⟨_, rfl, by decide, rfl, fun _ => aW_5 126 (by decide +kernel) (by decide +kernel), fun h => absurd rfl h⟩
theorem aFok89 : aFok (7, 96, 7, 44, 0) := ⟨_, rfl, by decide, rfl, fun _ => aW_5 127 (by decide +kernel) (by decide +kernel), fun h => absurd rfl h⟩
theorem aFok90 : aFok (7, 99, 7, 45, 0) := ⟨_, rfl, by decide, rfl, fun _ => aW_5 128 (by decide +kernel) (by decide +kernel), fun h => absurd rfl h⟩
theorem aFok91 : aFok (7, 102, 7, 46, 0) := ⟨_, rfl, by decide, rfl, fun _ => aW_5 129 (by decide +kernel) (by decide +kernel), fun h => absurd rfl h⟩
theorem aFok92 : aFok (7, 120, 7, 22, 0) := ⟨_, rfl, by decide, rfl, fun _ => aW_5 105 (by decide +kernel) (by decide +kernel), fun h => absurd rfl h⟩
theorem aFok93 : aFok (7, 227, 7, 25, 0) := ⟨_, rfl, by decide, rfl, fun _ => aW_5 108 (by decide +kernel) (by decide +kernel), fun h => absurd rfl h⟩
theorem aFok94 : aFok (7, 51, 7, 24, 0) := ⟨_, rfl, by decide, rfl, fun _ => aW_5 107 (by decide +kernel) (by decide +kernel), fun h => absurd rfl h⟩
theorem aFok95 : aFok (7, 230, 7, 26, 0) := ⟨_, rfl, by decide, rfl, fun _ => aW_5 109 (by decide +kernel) (by decide +kernel), fun h => absurd rfl h⟩
theorem aFok96 : aFok (7, 54, 7, 27, 0) := ⟨_, rfl, by decide, rfl, fun _ => aW_5 110 (by decide +kernel) (by decide +kernel), fun h => absurd rfl h⟩
theorem aFok97 : aFok (7, 57, 7, 28, 0) := ⟨_, rfl, by decide, rfl, fun _ => aW_5 111 (by decide +kernel) (by decide +kernel), fun h => absurd rfl h⟩
theorem aFok98 : aFok (7, 48, 7, 23, 0) := ⟨_, rfl, by decide, rfl, fun _ => aW_5 106 (by decide +kernel) (by decide +kernel), fun h => absurd rfl h⟩
theorem aFok99 : aFok (7, 78, 7, 36, 0) := ⟨_, rfl, by decide, rfl, fun _ => aW_5 119 (by decide +kernel) (by decide +kernel), fun h => absurd rfl h⟩
theorem aFok100 : aFok (7, 81, 7, 37, 0) := ⟨_, rfl, by decide, rfl, fun _ => aW_5 120 (by decide +kernel) (by decide +kernel), fun h => absurd rfl h⟩
theorem aFok101 : aFok (7, 233, 7, 31, 0) := ⟨_, rfl, by decide, rfl, fun _ => aW_5 114 (by decide +kernel) (by decide +kernel), fun h => absurd rfl h⟩
theorem aFok102 : aFok (7, 75, 7, 35, 0) := ⟨_, rfl, by decide, rfl, fun _ => aW_5 118 (by decide +kernel) (by decide +kernel), fun h => absurd rfl h⟩
theorem aFok103 : aFok (7, 69, 7, 33, 0) := ⟨_, rfl, by decide, rfl, fun _ => aW_5 116 (by decide +kernel) (by decide +kernel), fun h => absurd rfl h⟩
theorem aFok104 : aFok (7, 72, 7, 34, 0) := ⟨_, rfl, by decide, rfl, fun _ => aW_5 117 (by decide +kernel) (by decide +kernel), fun h => absurd rfl h⟩
theorem aFok105 : aFok (7, 60, 7, 29, 0) := ⟨_, rfl, by decide, rfl, fun _ => aW_5 112 (by decide +kernel) (by decide +kernel), fun h => absurd rfl h⟩
theorem aFok106 : aFok (7, 66, 7, 32, 0) := ⟨_, rfl, by decide, rfl, fun _ => aW_5 115 (by decide +kernel) (by decide +kernel), fun h => absurd rfl h⟩
theorem aFok107 : aFok (7, 63, 7, 30, 0) := ⟨_, rfl, by decide, rfl, fun _ => aW_5 113 (by decide +kernel) (by decide +kernel), fun h => absurd rfl h⟩
theorem aFok108 : aFok (7, 17, 7, 3, 0) := ⟨_, rfl, by decide, rfl, fun _ => aW_5 86 (by decide +kernel) (by decide +kernel), fun h => absurd rfl h⟩
theorem aFok109 : aFok (7, 32, 7, 13, 0) := ⟨_, rfl, by decide, rfl, fun _ => aW_5 96 (by decide +kernel) (by decide +kernel), fun h => absurd rfl h⟩
theorem aFok110 : aFok (7, 20, 7, 4, 0) := ⟨_, rfl, by decide, rfl, fun _ => aW_5 87 (by decide +kernel) (by decide +kernel), fun h => absurd rfl h⟩
theorem aFok111 : aFok (7, 191, 7, 18, 0) := ⟨_, rfl, by decide, rfl, fun _ => aW_5 101 (by decide +kernel) (by decide +kernel), fun h => absurd rfl h⟩
theorem aFok112 : aFok (7, 42, 7, 16, 0) := ⟨_, rfl, by decide, rfl, fun _ => aW_5 99 (by decide +kernel) (by decide +kernel), fun h => absurd rfl h⟩
theorem aFok113 : aFok (7, 108, 7, 48, 0) := ⟨_, rfl, by decide, rfl, fun _ => aW_5 131 (by decide +kernel) (by decide +kernel), fun h => absurd rfl h⟩
theorem aFok114 : aFok (7, 279, 7, 39, 0) := ⟨_, rfl, by decide, rfl, fun _ => aW_5 122 (by decide +kernel) (by decide +kernel), fun h => absurd rfl h⟩
theorem aFok115 : aFok (7, 123, 7, 2, 0) := ⟨_, rfl, by decide, rfl, fun _ => aW_5 85 (by decide +kernel) (by decide +kernel), fun h => absurd rfl h⟩
theorem aFok116 : aFok (7, 114, 7, 50, 0) := ⟨_, rfl, by decide, rfl, fun _ => aW_5 133 (by decide +kernel) (by decide +kernel), fun h => absurd rfl h⟩
theorem aFok117 : aFok (7, 23, 7, 5, 0) := ⟨_, rfl, by decide, rfl, fun _ => aW_5 88 (by decide +kernel) (by decide +kernel), fun h => absurd rfl h⟩
theorem aFok118 : aFok (7, 105, 7, 47, 0) := ⟨_, rfl, by decide, rfl, fun _ => aW_5 130 (by decide +kernel) (by decide +kernel), fun h => absurd rfl h⟩
theorem aFok119 : aFok (7, 111, 7, 49, 0) := ⟨_, rfl, by decide, rfl, fun _ => aW_5 132 (by decide +kernel) (by decide +kernel), fun h => absurd rfl h⟩
theorem aFok120 : aFok (7, 117, 7, 51, 0) := ⟨_, rfl, by decide, rfl, fun _ => aW_5 134 (by decide +kernel) (by decide +kernel), fun h => absurd rfl h⟩
theorem aFl_ok0 : ∀ q ∈ aFl_0, aFok q := List.forall_mem_cons.mpr ⟨aFok0, List.forall_mem_cons.mpr ⟨aFok1, List.forall_mem_cons.mpr ⟨aFok2, List.forall_mem_cons.mpr ⟨aFok3, List.forall_mem_cons.mpr ⟨aFok4, List.forall_mem_cons.mpr ⟨aFok5, List.forall_mem_cons.mpr ⟨aFok6, List.forall_mem_cons.mpr ⟨aFok7, List.forall_mem_cons.mpr ⟨aFok8, List.forall_mem_cons.mpr ⟨aFok9, List.forall_mem_cons.mpr ⟨aFok10, List.forall_mem_cons.mpr ⟨aFok11, List.forall_mem_cons.mpr ⟨aFok12, List.forall_mem_cons.mpr ⟨aFok13, List.forall_mem_cons.mpr ⟨aFok14, List.forall_mem_cons.mpr ⟨aFok15, List.forall_mem_cons.mpr ⟨aFok16, List.forall_mem_cons.mpr ⟨aFok17, List.forall_mem_cons.mpr ⟨aFok18, List.forall_mem_cons.mpr ⟨aFok19, List.forall_mem_cons.mpr ⟨aFok20, List.forall_mem_cons.mpr ⟨aFok21, List.forall_mem_cons.mpr ⟨aFok22, List.forall_mem_cons.mpr ⟨aFok23, List.forall_mem_cons.mpr ⟨aFok24, List.forall_mem_cons.mpr ⟨aFok25, List.forall_mem_cons.mpr ⟨aFok26, List.forall_mem_cons.mpr ⟨aFok27, List.forall_mem_cons.mpr ⟨aFok28, List.forall_mem_cons.mpr ⟨aFok29, List.forall_mem_cons.mpr ⟨aFok30, List.forall_mem_cons.mpr ⟨aFok31, (fun _ h => absurd h List.not_mem_nil)⟩⟩⟩⟩⟩⟩⟩⟩⟩⟩⟩⟩⟩⟩⟩⟩⟩⟩⟩⟩⟩⟩⟩⟩⟩⟩⟩⟩⟩⟩⟩⟩
theorem aFl_ok1 : ∀ q ∈ aFl_1, aFok q := List.forall_mem_cons.mpr ⟨aFok32, List.forall_mem_cons.mpr ⟨aFok33, List.forall_mem_cons.mpr ⟨aFok34, List.forall_mem_cons.mpr ⟨aFok35, List.forall_mem_cons.mpr ⟨aFok36, List.forall_mem_cons.mpr ⟨aFok37, List.forall_mem_cons.mpr ⟨aFok38, List.forall_mem_cons.mpr ⟨aFok39, List.forall_mem_cons.mpr ⟨aFok40, List.forall_mem_cons.mpr ⟨aFok41, List.forall_mem_cons.mpr ⟨aFok42, List.forall_mem_cons.mpr ⟨aFok43, List.forall_mem_cons.mpr ⟨aFok44, List.forall_mem_cons.mpr ⟨aFok45, List.forall_mem_cons.mpr ⟨aFok46, List.forall_mem_cons.mpr ⟨aFok47, List.forall_mem_cons.mpr ⟨aFok48, List.forall_mem_cons.mpr ⟨aFok49, List.forall_mem_cons.mpr ⟨aFok50, List.forall_mem_cons.mpr ⟨aFok51, List.forall_mem_cons.mpr ⟨aFok52, List.forall_mem_cons.mpr ⟨aFok53, List.forall_mem_cons.mpr ⟨aFok54, List.forall_mem_cons.mpr ⟨aFok55, List.forall_mem_cons.mpr ⟨aFok56, List.forall_mem_cons.mpr ⟨aFok57, List.forall_mem_cons.mpr ⟨aFok58, List.forall_mem_cons.mpr ⟨aFok59, List.forall_mem_cons.mpr ⟨aFok60, List.forall_mem_cons.mpr ⟨aFok61, List.forall_mem_cons.mpr ⟨aFok62, List.forall_mem_cons.mpr ⟨aFok63, (fun _ h => absurd h List.not_mem_nil)⟩⟩⟩⟩⟩⟩⟩⟩⟩⟩⟩⟩⟩⟩⟩⟩⟩⟩⟩⟩⟩⟩⟩⟩⟩⟩⟩⟩⟩⟩⟩⟩
theorem aFl_ok2 : ∀ q ∈ aFl_2, aFok q := List.forall_mem_cons.mpr ⟨aFok64, List.forall_mem_cons.mpr ⟨aFok65, List.forall_mem_cons.mpr ⟨aFok66, List.forall_mem_cons.mpr ⟨aFok67, List.forall_mem_cons.mpr ⟨aFok68, List.forall_mem_cons.mpr ⟨aFok69, List.forall_mem_cons.mpr ⟨aFok70, List.forall_mem_cons.mpr ⟨aFok71, List.forall_mem_cons.mpr ⟨aFok72, List.forall_mem_cons.mpr ⟨aFok73, List.forall_mem_cons.mpr ⟨aFok74, List.forall_mem_cons.mpr ⟨aFok75, List.forall_mem_cons.mpr ⟨aFok76, List.forall_mem_cons.mpr ⟨aFok77, List.forall_mem_cons.mpr ⟨aFok78, List.forall_mem_cons.mpr ⟨aFok79, List.forall_mem_cons.mpr ⟨aFok80, List.forall_mem_cons.mpr ⟨aFok81, List.forall_mem_cons.mpr ⟨aFok82, List.forall_mem_cons.mpr ⟨aFok83, List.forall_mem_cons.mpr ⟨aFok84, List.forall_mem_cons.mpr ⟨aFok85, List.forall_mem_cons.mpr ⟨aFok86, List.forall_mem_cons.mpr ⟨aFok87, List.forall_mem_cons.mpr ⟨aFok88, List.forall_mem_cons.mpr ⟨aFok89, List.forall_mem_cons.mpr ⟨aFok90, List.forall_mem_cons.mpr ⟨aFok91, List.forall_mem_cons.mpr ⟨aFok92, List.forall_mem_cons.mpr ⟨aFok93, List.forall_mem_cons.mpr ⟨aFok94, List.forall_mem_cons.mpr ⟨aFok95, (fun _ h => absurd h List.not_mem_nil)⟩⟩⟩⟩⟩⟩⟩⟩⟩⟩⟩⟩⟩⟩⟩⟩⟩⟩⟩⟩⟩⟩⟩⟩⟩⟩⟩⟩⟩⟩⟩⟩
theorem aFl_ok3 : ∀ q ∈ aFl_3, aFok q := List.forall_mem_cons.mpr ⟨aFok96, List.forall_mem_cons.mpr ⟨aFok97, List.forall_mem_cons.mpr ⟨aFok98, List.forall_mem_cons.mpr ⟨aFok99, List.forall_mem_cons.mpr ⟨aFok100, List.forall_mem_cons.mpr ⟨aFok101, List.forall_mem_cons.mpr ⟨aFok102, List.forall_mem_cons.mpr ⟨aFok103, List.forall_mem_cons.mpr ⟨aFok104, List.forall_mem_cons.mpr ⟨aFok105, List.forall_mem_cons.mpr ⟨aFok106, List.forall_mem_cons.mpr ⟨aFok107, List.forall_mem_cons.mpr ⟨aFok108, List.forall_mem_cons.mpr ⟨aFok109, List.forall_mem_cons.mpr ⟨aFok110, List.forall_mem_cons.mpr ⟨aFok111, List.forall_mem_cons.mpr ⟨aFok112, List.forall_mem_cons.mpr ⟨aFok113, List.forall_mem_cons.mpr ⟨aFok114, List.forall_mem_cons.mpr ⟨aFok115, List.forall_mem_cons.mpr ⟨aFok116, List.forall_mem_cons.mpr ⟨aFok117, List.forall_mem_cons.mpr ⟨aFok118, List.forall_mem_cons.mpr ⟨aFok119, List.forall_mem_cons.mpr ⟨aFok120, (fun _ h => absurd h List.not_mem_nil)⟩⟩⟩⟩⟩⟩⟩⟩⟩⟩⟩⟩⟩⟩⟩⟩⟩⟩⟩⟩⟩⟩⟩⟩⟩
theorem aFl_ok : ∀ q ∈ aFl, aFok q := fun q h => (List.mem_append.mp h).elim (aFl_ok0 q) (fun h => (List.mem_append.mp h).elim (aFl_ok1 q) (fun h => (List.mem_append.mp h).elim (aFl_ok2 q) (fun h => aFl_ok3 q h)))

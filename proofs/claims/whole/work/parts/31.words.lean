def pwl (q : Nat × Nat) (c : Cond) : Cond := match q with
  | (0, _) => c
  | (ci + 1, k) => u_lay (pown ci) (pfT ci) k
def pLy_1 : List (Nat × Nat) := [(0, 0), (0, 0), (0, 0), (0, 0), (0, 0), (0, 0), (0, 0), (0, 0), (0, 0), (0, 0), (0, 0), (0, 0), (0, 0), (0, 0), (0, 0), (0, 0), (0, 0), (0, 0), (0, 0), (0, 0), (0, 0), (0, 0), (0, 0), (0, 0), (0, 0), (0, 0), (0, 0), (0, 0), (0, 0), (0, 0), (0, 0), (0, 0), (0, 0), (0, 0), (0, 0), (0, 0), (0, 0), (0, 0), (0, 0), (0, 0), (0, 0), (0, 0), (0, 0), (0, 0), (0, 0), (0, 0), (0, 0), (0, 0), (0, 0), (10, 0), (0, 0), (10, 1), (0, 0), (10, 2), (0, 0), (10, 3), (0, 0), (10, 4), (0, 0), (10, 5), (0, 0), (0, 0), (0, 0), (0, 0), (0, 0), (0, 0), (0, 0), (0, 0), (0, 0), (0, 0), (0, 0), (0, 0), (0, 0), (0, 0), (0, 0), (0, 0), (0, 0), (0, 0), (0, 0), (0, 0), (0, 0), (0, 0), (0, 0), (0, 0), (0, 0), (0, 0), (0, 0), (0, 0), (0, 0), (0, 0), (0, 0), (0, 0), (0, 0), (0, 0), (0, 0), (0, 0), (0, 0), (0, 0), (0, 0), (0, 0), (0, 0), (0, 0), (0, 0), (0, 0), (0, 0), (0, 0), (0, 0), (0, 0), (0, 0), (0, 0), (0, 0), (0, 0), (0, 0), (7, 0), (0, 0), (7, 1), (0, 0), (7, 2), (0, 0), (7, 3), (0, 0), (7, 4), (0, 0), (7, 5), (0, 0), (7, 6), (0, 0), (7, 7), (0, 0), (7, 8), (0, 0), (7, 9), (0, 0), (7, 10), (0, 0), (7, 11), (0, 0), (0, 0), (0, 0), (0, 0), (0, 0), (0, 0), (0, 0), (0, 0), (0, 0), (0, 0), (0, 0), (0, 0), (0, 0), (0, 0), (0, 0), (0, 0), (0, 0), (0, 0), (0, 0), (0, 0), (8, 0), (0, 0), (8, 1), (0, 0), (8, 2), (0, 0), (8, 3), (0, 0), (8, 4), (0, 0), (0, 0), (0, 0), (0, 0), (0, 0), (0, 0), (0, 0), (0, 0), (0, 0), (0, 0), (0, 0), (0, 0), (0, 0), (0, 0), (0, 0), (0, 0), (0, 0), (0, 0), (0, 0), (0, 0), (0, 0), (0, 0), (0, 0), (0, 0), (0, 0), (9, 0), (0, 0), (9, 1), (0, 0), (9, 2), (0, 0), (9, 3), (0, 0), (9, 4), (0, 0), (9, 5), (0, 0), (9, 6), (0, 0), (9, 7), (0, 0), (9, 8), (0, 0), (9, 9), (0, 0), (9, 10), (0, 0), (0, 0), (0, 0), (0, 0), (0, 0), (0, 0), (0, 0), (0, 0), (0, 0), (0, 0), (0, 0), (0, 0), (0, 0), (0, 0), (0, 0), (0, 0), (2, 0), (0, 0), (2, 1), (0, 0), (2, 2), (0, 0), (2, 3), (0, 0), (2, 4), (0, 0), (0, 0), (0, 0), (0, 0)]
set_option maxRecDepth 100000 in
theorem pLy_ok_1 : tables_1_1 = List.zipWith pwl pLy_1 tables_1_1 := rfl
def pLy_2 : List (Nat × Nat) := [(0, 0), (0, 0), (0, 0), (0, 0), (0, 0), (0, 0), (0, 0), (0, 0), (0, 0), (0, 0), (0, 0), (0, 0), (0, 0), (0, 0), (0, 0), (0, 0), (0, 0), (0, 0), (0, 0), (0, 0), (0, 0), (0, 0), (0, 0), (0, 0), (0, 0), (0, 0), (0, 0), (0, 0), (6, 0), (0, 0), (6, 1), (0, 0), (6, 2), (0, 0), (6, 3), (0, 0), (6, 4), (0, 0), (6, 5), (0, 0), (6, 6), (0, 0), (6, 7), (0, 0), (6, 8), (0, 0), (6, 9), (0, 0), (0, 0), (0, 0), (0, 0), (0, 0), (0, 0), (0, 0), (0, 0), (0, 0), (0, 0), (0, 0), (0, 0), (0, 0), (0, 0), (0, 0), (0, 0), (0, 0), (0, 0), (0, 0), (0, 0), (0, 0), (0, 0), (0, 0), (0, 0), (0, 0), (0, 0), (0, 0), (0, 0), (0, 0), (0, 0), (0, 0), (0, 0), (11, 0), (0, 0), (11, 1), (0, 0), (11, 2), (0, 0), (11, 3), (0, 0), (11, 4), (0, 0), (11, 5), (0, 0), (11, 6), (0, 0), (11, 7), (0, 0), (11, 8), (0, 0), (11, 9), (0, 0), (11, 10), (0, 0), (11, 11), (0, 0), (11, 12), (0, 0), (11, 13), (0, 0), (11, 14), (0, 0), (11, 15), (0, 0), (0, 0), (0, 0), (0, 0), (0, 0), (0, 0), (0, 0), (0, 0), (0, 0), (0, 0), (0, 0), (0, 0), (0, 0), (0, 0), (0, 0), (0, 0), (0, 0), (0, 0), (0, 0), (0, 0), (0, 0), (0, 0), (0, 0), (0, 0), (0, 0), (0, 0), (0, 0), (0, 0), (0, 0), (4, 0), (0, 0), (4, 1), (0, 0), (4, 2), (0, 0), (4, 3), (0, 0), (4, 4), (0, 0), (4, 5), (0, 0), (4, 6), (0, 0), (4, 7), (0, 0), (4, 8), (0, 0), (4, 9), (0, 0), (4, 10), (0, 0), (4, 11), (0, 0), (4, 12), (0, 0), (4, 13), (0, 0), (0, 0), (0, 0), (0, 0), (0, 0), (0, 0), (0, 0), (0, 0), (0, 0), (0, 0), (0, 0), (0, 0), (0, 0), (0, 0), (0, 0), (0, 0), (0, 0), (0, 0), (0, 0), (0, 0), (0, 0), (1, 0), (0, 0), (1, 1), (0, 0), (1, 2), (0, 0), (1, 3), (0, 0), (1, 4), (0, 0), (1, 5), (0, 0), (1, 6), (0, 0), (0, 0), (0, 0), (0, 0), (0, 0), (0, 0), (0, 0), (0, 0), (0, 0), (0, 0), (0, 0), (0, 0), (0, 0), (0, 0), (0, 0), (0, 0), (0, 0), (0, 0), (0, 0), (0, 0), (0, 0), (0, 0), (0, 0), (0, 0), (0, 0), (0, 0), (0, 0), (0, 0), (0, 0), (0, 0), (0, 0), (0, 0), (0, 0), (0, 0), (0, 0), (3, 0), (0, 0), (3, 1), (0, 0), (3, 2)]
set_option maxRecDepth 100000 in
theorem pLy_ok_2 : tables_1_2 = List.zipWith pwl pLy_2 tables_1_2 := rfl
def pLy_3 : List (Nat × Nat) := [(0, 0), (3, 3), (0, 0), (3, 4), (0, 0), (3, 5), (0, 0), (3, 6), (0, 0), (3, 7), (0, 0), (3, 8), (0, 0), (3, 9), (0, 0), (3, 10), (0, 0), (3, 11), (0, 0), (3, 12), (0, 0), (3, 13), (0, 0), (3, 14), (0, 0), (3, 15), (0, 0), (0, 0), (0, 0), (0, 0), (0, 0), (0, 0), (0, 0), (0, 0), (0, 0), (0, 0), (0, 0), (0, 0), (0, 0), (0, 0), (0, 0), (0, 0), (0, 0), (5, 0), (0, 0), (5, 1), (0, 0), (5, 2), (0, 0), (5, 3), (0, 0), (5, 4), (0, 0), (5, 5), (0, 0), (5, 6), (0, 0), (5, 7), (0, 0), (5, 8), (0, 0), (0, 0), (0, 0), (0, 0), (0, 0), (0, 0), (0, 0), (0, 0), (0, 0), (0, 0), (0, 0), (0, 0), (0, 0), (12, 0), (0, 0), (12, 1), (0, 0), (12, 2), (0, 0), (12, 3), (0, 0), (12, 4), (0, 0), (12, 5), (0, 0), (12, 6), (0, 0), (12, 7), (0, 0), (12, 8), (0, 0), (12, 9), (0, 0), (12, 10), (0, 0), (0, 0), (0, 0), (0, 0), (0, 0), (0, 0), (0, 0), (0, 0), (0, 0), (0, 0), (0, 0), (0, 0), (0, 0), (0, 0), (0, 0), (0, 0), (0, 0), (0, 0), (0, 0), (0, 0), (0, 0), (0, 0), (0, 0), (0, 0), (0, 0), (0, 0), (0, 0), (0, 0), (0, 0), (0, 0), (0, 0), (0, 0), (0, 0), (0, 0), (0, 0), (0, 0), (0, 0), (0, 0), (0, 0), (0, 0), (0, 0), (0, 0), (0, 0), (0, 0), (0, 0), (0, 0), (0, 0), (0, 0), (0, 0), (0, 0), (0, 0), (0, 0), (0, 0), (0, 0), (0, 0), (0, 0), (0, 0), (0, 0), (0, 0), (0, 0), (0, 0), (0, 0), (0, 0), (0, 0), (0, 0), (0, 0), (0, 0), (0, 0), (0, 0), (0, 0), (0, 0), (0, 0), (0, 0), (0, 0), (0, 0), (0, 0), (0, 0), (0, 0), (0, 0), (0, 0), (0, 0), (0, 0), (0, 0), (0, 0), (0, 0), (0, 0), (0, 0), (0, 0), (0, 0), (0, 0), (0, 0), (0, 0), (0, 0), (0, 0), (0, 0), (0, 0), (0, 0), (0, 0), (0, 0), (0, 0), (0, 0), (0, 0), (0, 0), (0, 0), (0, 0), (0, 0), (0, 0), (0, 0), (0, 0), (0, 0), (0, 0), (0, 0), (0, 0), (0, 0), (0, 0), (0, 0), (0, 0), (0, 0), (0, 0), (0, 0), (0, 0), (0, 0), (0, 0), (0, 0), (0, 0), (0, 0), (0, 0), (0, 0), (0, 0), (0, 0), (0, 0), (0, 0), (0, 0), (0, 0), (0, 0), (0, 0), (0, 0), (0, 0), (0, 0), (0, 0), (0, 0), (0, 0), (0, 0), (0, 0), (0, 0), (0, 0)]
set_option maxRecDepth 100000 in
theorem pLy_ok_3 : tables_1_3 = List.zipWith pwl pLy_3 tables_1_3 := rfl
def pLy_6 : List (Nat × Nat) := [(0, 0), (0, 0), (0, 0), (0, 0), (0, 0), (0, 0), (0, 0), (0, 0), (0, 0), (0, 0), (0, 0), (0, 0), (0, 0), (0, 0), (0, 0), (0, 0), (0, 0), (0, 0), (0, 0), (0, 0), (0, 0), (0, 0), (0, 0), (0, 0), (0, 0), (0, 0), (0, 0), (0, 0), (0, 0), (0, 0), (0, 0), (0, 0), (0, 0), (0, 0), (0, 0), (0, 0), (0, 0), (0, 0), (0, 0), (0, 0), (0, 0), (0, 0), (0, 0), (0, 0), (0, 0), (0, 0), (0, 0), (0, 0), (0, 0), (0, 0), (0, 0), (0, 0), (0, 0), (0, 0), (0, 0), (0, 0), (0, 0), (0, 0), (0, 0), (0, 0), (0, 0), (0, 0), (0, 0), (0, 0), (0, 0), (0, 0), (0, 0), (0, 0), (0, 0), (0, 0), (0, 0), (0, 0), (0, 0), (0, 0), (0, 0), (0, 0), (0, 0), (0, 0), (0, 0), (0, 0), (0, 0), (0, 0), (0, 0), (0, 0), (0, 0), (0, 0), (0, 0), (0, 0), (0, 0), (0, 0), (0, 0), (0, 0), (0, 0), (0, 0), (0, 0), (0, 0), (0, 0), (0, 0), (0, 0), (0, 0), (0, 0), (0, 0), (0, 0), (0, 0), (0, 0), (0, 0), (0, 0), (0, 0), (0, 0), (0, 0), (0, 0), (0, 0), (0, 0), (0, 0), (0, 0), (0, 0), (0, 0), (0, 0), (0, 0), (0, 0), (0, 0), (0, 0), (0, 0), (0, 0), (0, 0), (0, 0), (0, 0), (0, 0), (0, 0), (0, 0), (0, 0), (0, 0), (0, 0), (0, 0), (0, 0), (0, 0), (0, 0), (0, 0), (0, 0), (0, 0), (0, 0), (0, 0), (0, 0), (0, 0), (0, 0), (0, 0), (0, 0), (0, 0), (0, 0), (0, 0), (13, 0), (0, 0), (13, 1), (0, 0), (13, 2), (0, 0), (13, 3), (0, 0), (13, 4), (0, 0), (13, 5), (0, 0), (13, 6), (0, 0), (13, 7), (0, 0), (13, 8), (0, 0), (13, 9), (0, 0), (13, 10), (0, 0), (13, 11), (0, 0), (13, 12), (0, 0), (13, 13), (0, 0), (13, 14), (0, 0), (13, 15), (0, 0), (13, 16), (0, 0), (13, 17), (0, 0), (13, 18), (0, 0), (13, 19), (0, 0), (13, 20), (0, 0), (13, 21), (0, 0), (13, 22), (0, 0), (13, 23), (0, 0), (13, 24), (0, 0), (13, 25), (0, 0), (13, 26), (0, 0), (13, 27), (0, 0), (13, 28), (0, 0), (13, 29), (0, 0), (13, 30), (0, 0), (13, 31), (0, 0), (13, 32), (0, 0), (13, 33), (0, 0), (13, 34), (0, 0), (13, 35), (0, 0), (13, 36), (0, 0), (13, 37), (0, 0), (13, 38), (0, 0), (13, 39), (0, 0), (13, 40), (0, 0), (13, 41), (0, 0), (13, 42), (0, 0), (13, 43), (0, 0), (13, 44), (0, 0)]
set_option maxRecDepth 100000 in
theorem pLy_ok_6 : tables_1_6 = List.zipWith pwl pLy_6 tables_1_6 := rfl
def pLy_7 : List (Nat × Nat) := [(13, 45), (0, 0), (13, 46), (0, 0), (13, 47), (0, 0), (13, 48), (0, 0), (13, 49), (0, 0), (13, 50), (0, 0), (13, 51), (0, 0), (13, 52), (0, 0), (13, 53), (0, 0), (13, 54), (0, 0), (13, 55), (0, 0), (13, 56), (0, 0), (13, 57), (0, 0), (13, 58), (0, 0), (13, 59), (0, 0), (13, 60), (0, 0), (13, 61), (0, 0), (13, 62), (0, 0), (13, 63), (0, 0), (13, 64), (0, 0), (13, 65), (0, 0), (13, 66), (0, 0), (13, 67), (0, 0), (13, 68), (0, 0), (13, 69), (0, 0), (13, 70), (0, 0), (13, 71), (0, 0), (13, 72), (0, 0), (13, 73), (0, 0), (0, 0), (0, 0), (0, 0), (0, 0), (0, 0), (0, 0), (0, 0), (0, 0), (0, 0), (0, 0), (0, 0), (0, 0), (0, 0), (0, 0), (0, 0), (0, 0), (0, 0), (0, 0), (0, 0), (0, 0), (0, 0), (0, 0), (0, 0), (0, 0), (0, 0), (0, 0), (0, 0), (0, 0), (0, 0), (0, 0), (0, 0), (0, 0), (0, 0), (0, 0), (0, 0), (0, 0), (0, 0), (0, 0), (0, 0), (0, 0), (0, 0), (0, 0), (0, 0), (0, 0), (0, 0), (0, 0), (0, 0), (0, 0), (0, 0), (0, 0), (0, 0), (0, 0), (0, 0), (0, 0), (0, 0), (0, 0), (0, 0), (0, 0), (0, 0), (0, 0), (0, 0), (0, 0), (0, 0), (0, 0), (0, 0), (0, 0), (0, 0), (0, 0), (0, 0), (0, 0), (0, 0), (0, 0), (0, 0), (0, 0), (0, 0), (0, 0), (0, 0), (0, 0), (0, 0), (0, 0), (0, 0), (0, 0), (0, 0), (0, 0), (0, 0), (0, 0), (0, 0), (0, 0), (0, 0), (0, 0), (0, 0), (0, 0), (0, 0), (0, 0), (0, 0), (0, 0), (0, 0), (0, 0), (0, 0), (0, 0), (0, 0), (0, 0), (0, 0), (0, 0), (0, 0), (0, 0), (0, 0), (0, 0), (0, 0), (0, 0), (0, 0), (0, 0), (0, 0), (0, 0), (0, 0), (0, 0), (0, 0), (0, 0), (0, 0), (0, 0), (0, 0), (0, 0), (0, 0), (0, 0), (0, 0), (0, 0), (0, 0), (0, 0), (0, 0), (0, 0), (0, 0), (0, 0), (0, 0), (0, 0), (0, 0), (0, 0), (0, 0), (0, 0), (0, 0), (0, 0), (0, 0), (0, 0), (0, 0), (0, 0), (0, 0), (0, 0), (0, 0), (0, 0), (0, 0), (0, 0), (0, 0), (0, 0), (0, 0), (0, 0), (0, 0), (0, 0), (0, 0), (0, 0), (0, 0), (0, 0), (0, 0), (0, 0), (0, 0), (0, 0), (0, 0), (0, 0), (0, 0), (0, 0), (0, 0), (0, 0), (0, 0), (0, 0), (0, 0), (0, 0), (0, 0), (0, 0), (0, 0), (0, 0), (0, 0), (0, 0), (0, 0), (0, 0)]
set_option maxRecDepth 100000 in
theorem pLy_ok_7 : tables_1_7 = List.zipWith pwl pLy_7 tables_1_7 := rfl
/-- the words that stand at any point -/
def lw_use : List Cond := lw_tbl.filter goodWord
theorem use_mem {w : Cond} (h : w ∈ lw_tbl) (hg : goodWord w = true) : w ∈ lw_use := List.mem_filter.mpr ⟨h, hg⟩
theorem pD_use {q : pWd} (hq : q ∈ pDall) (ht : q.1 ≤ 12) (hn : q.1 ≠ 3) : pwd q .tt ∈ lw_use := by
  refine use_mem (pD_mem hq ht) ?_
  obtain ⟨t, a, b, x, y⟩ := q
  have ht : t ≤ 12 := ht
  have hn : t ≠ 3 := hn
  rcases t with _ | _ | _ | _ | _ | _ | _ | _ | _ | _ | _ | _ | _ | t
  all_goals first | rfl | omega
theorem zipl {D : List (Nat × Nat)} {l : List Cond} (h : l = List.zipWith pwl D l) (hl : D.length = l.length) {ci k : Nat} (hq : (ci + 1, k) ∈ D) : u_lay (pown ci) (pfT ci) k ∈ l := by
  obtain ⟨j, hj⟩ := List.getElem?_of_mem hq
  have hlt : j < l.length := by rw [← hl]; exact (List.getElem?_eq_some_iff.mp hj).1
  have h2 : l[j]? = some l[j] := List.getElem?_eq_getElem hlt
  have h3 : (List.zipWith pwl D l)[j]? = some (pwl (ci + 1, k) l[j]) := by
    rw [List.getElem?_zipWith, hj, h2]
  rw [← h, h2] at h3
  have h4 := Option.some.inj h3
  rw [show u_lay (pown ci) (pfT ci) k = pwl (ci + 1, k) l[j] from rfl, ← h4]
  exact List.getElem_mem hlt
def pLyA : List (Nat × Nat) := pLy_1 ++ (pLy_2 ++ (pLy_3 ++ (pLy_6 ++ (pLy_7))))
theorem pLy_mem {ci k : Nat} (hq : (ci + 1, k) ∈ pLyA) : u_lay (pown ci) (pfT ci) k ∈ tables_1 := by
  unfold pLyA at hq
  unfold tables_1
  rcases List.mem_append.mp hq with hq | hq
  · have h := zipl pLy_ok_1 (by decide +kernel) hq
    exact (List.mem_append_left _ h)
  rcases List.mem_append.mp hq with hq | hq
  · have h := zipl pLy_ok_2 (by decide +kernel) hq
    exact (List.mem_append_right _ (List.mem_append_left _ h))
  rcases List.mem_append.mp hq with hq | hq
  · have h := zipl pLy_ok_3 (by decide +kernel) hq
    exact (List.mem_append_right _ (List.mem_append_right _ (List.mem_append_left _ h)))
  rcases List.mem_append.mp hq with hq | hq
  · have h := zipl pLy_ok_6 (by decide +kernel) hq
    exact (List.mem_append_right _ (List.mem_append_right _ (List.mem_append_right _ (List.mem_append_right _ (List.mem_append_right _ (List.mem_append_left _ h))))))
  have h := zipl pLy_ok_7 (by decide +kernel) hq
  exact (List.mem_append_right _ (List.mem_append_right _ (List.mem_append_right _ (List.mem_append_right _ (List.mem_append_right _ (List.mem_append_right _ (List.mem_append_left _ h)))))))
theorem pLy_all : ∀ ci, ci < 13 → ∀ k, k < pfN ci → (ci + 1, k) ∈ pLyA := by decide +kernel
theorem pin {ci : Nat} (hc : ci < 13) : ∀ w ∈ u_ws (pown ci) (pfT ci) (pfN ci), w ∈ lw_use := by
  intro w hw
  unfold u_ws at hw
  obtain ⟨k, hk, rfl⟩ := List.mem_map.mp hw
  refine use_mem (List.mem_append_right _ (pLy_mem (pLy_all ci hc k (List.mem_range.mp hk)))) ?_
  unfold u_lay
  split <;> rfl
theorem pcl_at : ∀ ci, ci < 13 → pcl[ci]? = some (pown ci, pfT ci, pfN ci)
  | 0, _ => rfl | 1, _ => rfl | 2, _ => rfl | 3, _ => rfl | 4, _ => rfl | 5, _ => rfl | 6, _ => rfl | 7, _ => rfl | 8, _ => rfl | 9, _ => rfl | 10, _ => rfl | 11, _ => rfl | 12, _ => rfl
  | n + 13, h => by omega
theorem pfY_ok : ∀ ci, ci < 13 → ∀ k, k < pfN ci → parseFieldDescriptor (pfT ci k).2.2.1 = some (pfY ci k)
  | 0, _ => tyX0_ok | 1, _ => tyX1_ok | 2, _ => tyX2_ok | 3, _ => tyX3_ok | 4, _ => tyX4_ok | 5, _ => tyX5_ok | 6, _ => tyX6_ok | 7, _ => tyX7_ok | 8, _ => tyX8_ok | 9, _ => tyX9_ok | 10, _ => tyX10_ok | 11, _ => tyX11_ok | 12, _ => tyX12_ok
  | n + 13, h => by omega
theorem pfNm : ∀ ci, ci < 13 → ∀ a, a < pfN ci → ∀ b, b < pfN ci → a ≠ b → (pfT ci a).2.1 ≠ (pfT ci b).2.1
  | 0, _ => nmX0 | 1, _ => nmX1 | 2, _ => nmX2 | 3, _ => nmX3 | 4, _ => nmX4 | 5, _ => nmX5 | 6, _ => nmX6 | 7, _ => nmX7 | 8, _ => nmX8 | 9, _ => nmX9 | 10, _ => nmX10 | 11, _ => nmX11 | 12, _ => nmX12
  | n + 13, h => by omega
/-- fields that hold numbers are not final -/
theorem pfin : ∀ ci, ci < 13 → ∀ k, k < pfN ci → (pfk ci k = 2 ∨ (pfT ci k).2.2.2 = false) := by decide +kernel
theorem lkF_in {K i ci k : Nat} (h : lkf lkF K i = some (ci, k)) : Cond.fieldLink (pown K) i (pfT ci k).1 (pfT ci k).2.1 (pfT ci k).2.2.1 ∈ lw_use := by
  obtain ⟨⟨t, a, b, x, y⟩, h1, h2, h3⟩ := pfm lkF_eq (lkf_mem h)
  have h2 : t = 0 := h2
  subst h2
  cases h3
  exact pD_use h1 (Nat.le_of_ble_eq_true rfl) (fun e => by cases e)
theorem lkF_bd : ∀ q ∈ lkF, q.2.2.1 < 13 ∧ q.2.2.2 < pfN q.2.2.1 := by decide +kernel
theorem lkL_in {K i : Nat} {v : Int} (h : lkf lkL K i = some v) : Cond.constantLong (pown K) i (Int64.ofInt v) ∈ lw_use := by
  obtain ⟨⟨t, a, b, x, y⟩, h1, h2, h3⟩ := pfm lkL_eq (lkf_mem h)
  have h2 : t = 11 := h2
  subst h2
  cases h3
  exact pD_use h1 (Nat.le_of_ble_eq_true rfl) (fun e => by cases e)
theorem lkL_bd : ∀ q ∈ lkL, (Int64.ofInt q.2.2).toInt = q.2.2 := by decide +kernel
theorem lkM_in {K i M : Nat} (h : lkf lkM K i = some M) : Cond.methodLink (pown K) i (pyn M) ∈ lw_use := by
  obtain ⟨⟨t, a, b, x, y⟩, h1, h2, h3⟩ := pfm lkM_eq (lkf_mem h)
  have h2 : t = 1 := h2
  subst h2
  cases h3
  exact pD_use h1 (Nat.le_of_ble_eq_true rfl) (fun e => by cases e)
theorem lkJ_in {K i J : Nat} (h : lkf lkJ K i = some J) : Cond.methodLink (pown K) i (pjn J) ∈ lw_use := by
  obtain ⟨⟨t, a, b, x, y⟩, h1, h2, h3⟩ := pfm lkJ_eq (lkf_mem h)
  have h2 : t = 2 := h2
  subst h2
  cases h3
  exact pD_use h1 (Nat.le_of_ble_eq_true rfl) (fun e => by cases e)
theorem lkC_in {K i ci : Nat} (h : lkf lkC K i = some ci) : Cond.classLink (pown K) i (pown ci) ∈ lw_use := by
  obtain ⟨⟨t, a, b, x, y⟩, h1, h2, h3⟩ := pfm lkC_eq (lkf_mem h)
  have h2 : t = 4 := h2
  subst h2
  cases h3
  exact pD_use h1 (Nat.le_of_ble_eq_true rfl) (fun e => by cases e)
theorem lkC_bd : ∀ q ∈ lkC, q.2.2 < 13 := by decide +kernel
theorem lkA_in {K i z : Nat} (h : lkf lkA K i = some z) : Cond.classLink (pown K) i "[[I" ∈ lw_use := by
  obtain ⟨⟨t, a, b, x, y⟩, h1, h2, h3⟩ := pfm lkA_eq (lkf_mem h)
  have h2 : t = 5 := h2
  subst h2
  cases h3
  exact pD_use h1 (Nat.le_of_ble_eq_true rfl) (fun e => by cases e)
theorem w1_in {t a : Nat} {L : List Nat} (e : pDall.filterMap (fun q => bif Nat.beq q.1 t then some q.2.1 else none) = L) (ha : a ∈ L) (ht : t = 6 ∨ t = 7 ∨ t = 8 ∨ t = 9 ∨ t = 10) : pwd (t, a, 0, 0, 0) .tt ∈ lw_use := by
  obtain ⟨⟨t', a', b, x, y⟩, h1, h2, h3⟩ := pfm e ha
  have h2 : t' = t := h2
  have h3 : a' = a := h3
  subst h2; subst h3
  have := pD_use h1 (show t' ≤ 12 by omega) (show t' ≠ 3 by omega)
  rcases ht with rfl | rfl | rfl | rfl | rfl <;> exact this
theorem lk12_in {ci n : Nat} (h : (ci, n) ∈ lk12) : Cond.instantiable (pown ci) n ∈ lw_use := by
  obtain ⟨⟨t, a, b, x, y⟩, h1, h2, h3⟩ := pfm lk12_eq h
  have h2 : t = 12 := h2
  subst h2
  cases h3
  exact pD_use h1 (Nat.le_of_ble_eq_true rfl) (fun e => by cases e)
theorem lk12_all : ∀ ci, ci < 13 → (ci, pfN ci) ∈ lk12 := by decide +kernel
theorem lk7_all : ∀ ci, ci < 15 → ci ∈ lk7 := by decide +kernel
/-- of every method that is called: the words that it needs -/
def pmwB (M : Nat) : Bool := match pmw M with
  | none => true
  | some w => pmem lk6 M && Nat.blt w.1 15 && !(Nat.beq w.1 13) && Nat.ble w.2.1 40 && (match w.2.2.1 with
    | none => true
    | some .int => true
    | some .long => true
    | some .boolean => true
    | _ => false) && (bif w.2.2.2.2 then pmem lk8 M else pmem lk9 M && (bif pini M then (match w.2.2.1 with
    | none => true
    | _ => false) else pmem lk10 M))
theorem pmwB_all : (List.range 268).all pmwB = true := by decide +kernel
theorem pmem_mem {n : Nat} : ∀ {l : List Nat}, pmem l n = true → n ∈ l
  | [], h => by cases h
  | a :: l, h => by
    unfold pmem at h
    rw [Bool.or_eq_true] at h
    rcases h with h | h
    · rw [Nat.eq_of_beq_eq_true h]; exact List.mem_cons_self
    · exact List.mem_cons_of_mem _ (pmem_mem h)
theorem pmw_lt {M : Nat} {w : pMW} (h : pmw M = some w) : 1 ≤ M ∧ M < 268 := by
  unfold pmw at h
  obtain ⟨h1, -⟩ := bif_s h
  rw [Bool.and_eq_true] at h1
  exact ⟨Nat.le_of_ble_eq_true h1.1, Nat.lt_succ_of_le (Nat.le_of_ble_eq_true h1.2)⟩
theorem pmw_at {M : Nat} {w : pMW} (h : pmw M = some w) : pn2 pmwT (M - 1) = some w := (bif_s h).2
theorem pmw_ml {M : Nat} {w : pMW} (h : pmw M = some w) : pml M = w.2.1 := by
  unfold pml; rw [pmw_at h]
theorem pmw_mr {M : Nat} {w : pMW} (h : pmw M = some w) : pmr M = w.2.2.1 := by
  unfold pmr; rw [pmw_at h]
theorem pmw_bd {M : Nat} {w : pMW} (h : pmw M = some w) : M ∈ lk6 ∧ w.1 < 15 ∧ w.1 ≠ 13 ∧ w.2.1 ≤ 40 ∧ (w.2.2.1 = none ∨ w.2.2.1 = some .int ∨ w.2.2.1 = some .long ∨ w.2.2.1 = some .boolean) ∧ (w.2.2.2.2 = true → M ∈ lk8) ∧ (w.2.2.2.2 = false → M ∈ lk9 ∧ (pini M = true → w.2.2.1 = none) ∧ (pini M = false → M ∈ lk10)) := by
  have h1 := List.all_eq_true.mp pmwB_all M (List.mem_range.mpr (pmw_lt h).2)
  unfold pmwB at h1
  rw [h] at h1
  dsimp only at h1
  obtain ⟨K, mL, r, n, st⟩ := w
  dsimp only at h1 ⊢
  simp only [Bool.and_eq_true, Bool.not_eq_true'] at h1
  obtain ⟨⟨⟨⟨⟨a1, a2⟩, a3⟩, a4⟩, a5⟩, a6⟩ := h1
  refine ⟨pmem_mem a1, by simpa [Nat.blt_eq] using a2, (fun e => by subst e; cases a3), Nat.le_of_ble_eq_true a4, ?_, fun e => ?_, fun e => ?_⟩
  · split at a5
    · exact Or.inl rfl
    · exact Or.inr (Or.inl rfl)
    · exact Or.inr (Or.inr (Or.inl rfl))
    · exact Or.inr (Or.inr (Or.inr rfl))
    · cases a5
  · subst e; exact pmem_mem a6
  · subst e
    simp only [cond_false, Bool.and_eq_true] at a6
    refine ⟨pmem_mem a6.1, fun e2 => ?_, fun e2 => ?_⟩
    · have a7 := a6.2
      rw [e2, cond_true] at a7
      split at a7
      · rfl
      · cases a7
    · have a7 := a6.2
      rw [e2, cond_false] at a7
      exact pmem_mem a7
theorem pyn_cls : (pynT.map (fun r => r.map (fun y => y.cls))) = (pmwT.map (fun r => r.map (fun w => pown w.1))) := rfl

/-! The cells of the two objects and of the law's row, in the order in which they are made: written by wip/whole/gen2.py -/
abbrev ev_M : Type := (Nat → Int) × (Nat → Nat → Int)
def hp (M : ev_M) : tm_H := [
  .inr (7, [.inr (.inr (some 1)), .inr (.inr (some 5)), .inr (.inr (some 10)), .inr (.inr (some 13)), .inr (.inr (some 15)), .inr (.inr (some 20)), .inr (.inr (some 25)), .inl (M.1 0), .inl (M.1 1), .inl (M.1 2)]),
  .inr (0, [.inl (M.1 3), .inr (.inr (some 2)), .inr (.inr (some 3)), .inr (.inr (some 4))]),
  .inl (0, 14, M.2 2),
  .inl (0, 14, M.2 3),
  .inl (0, 56, M.2 4),
  .inr (1, [.inl (M.1 4), .inr (.inr (some 1)), .inr (.inr (some 6)), .inr (.inr (some 7)), .inr (.inr (some 8)), .inr (.inr (some 9))]),
  .inl (1, 60, M.2 6),
  .inl (0, 60, M.2 7),
  .inl (0, 600, M.2 8),
  .inl (1, 10, M.2 9),
  .inr (2, [.inl (M.1 5), .inr (.inr (some 11)), .inr (.inr (some 1)), .inr (.inr (some 12))]),
  .inl (0, 10, M.2 11),
  .inl (0, 110, M.2 12),
  .inr (3, [.inr (.inr (some 14)), .inr (.inr (some 5)), .inr (.inr (some 10))]),
  .inl (1, 11, M.2 14),
  .inr (4, [.inr (.inr (some 1)), .inr (.inr (some 10)), .inr (.inr (some 16)), .inr (.inr (some 17)), .inl (M.1 6), .inr (.inr (some 18)), .inr (.inr (some 19))]),
  .inl (0, 66, M.2 16),
  .inl (0, 396, M.2 17),
  .inl (0, 4, M.2 18),
  .inl (0, 11, M.2 19),
  .inr (5, [.inl (M.1 7), .inr (.inr (some 21)), .inr (.inr (some 22)), .inr (.inr (some 23)), .inr (.inr (some 24)), .inr (.inr (some 1)), .inr (.inr (some 10)), .inr (.inr (some 15))]),
  .inl (0, 1210, M.2 21),
  .inl (0, 1210, M.2 22),
  .inl (1, 55, M.2 23),
  .inl (0, 55, M.2 24),
  .inr (6, [.inr (.inr (some 1)), .inr (.inr (some 10)), .inr (.inr (some 20)), .inr (.inr (some 26)), .inr (.inr (some 27)), .inr (.inr (some 28)), .inr (.inr (some 29)), .inl (M.1 8), .inl (M.1 9)]),
  .inl (0, 5, M.2 26),
  .inl (0, 4, M.2 27),
  .inl (0, 256, M.2 28),
  .inl (0, 256, M.2 29),
  .inr (8, [.inl (M.1 10), .inl (M.1 11), .inr (.inr (some 31)), .inr (.inr (some 32)), .inr (.inr (some 33)), .inl (M.1 12), .inr (.inr (some 34)), .inl (M.1 13), .inr (.inr (some 35)), .inr (.inr (some 36)), .inr (.inr (some 37)), .inr (.inl (M.1 14)), .inr (.inl (M.1 15)), .inl (M.1 16), .inr (.inr (some 38)), .inr (.inr (some 39)), .inr (.inr (some 40)), .inr (.inr (some 41)), .inr (.inr (some 42)), .inl (M.1 17), .inr (.inr (some 43)), .inl (M.1 18), .inl (M.1 19), .inl (M.1 20), .inl (M.1 21), .inl (M.1 22), .inl (M.1 23), .inl (M.1 24), .inl (M.1 25), .inr (.inr (some 44)), .inr (.inr (some 45))]),
  .inl (0, 14, M.2 31),
  .inl (0, 14, M.2 32),
  .inl (0, 56, M.2 33),
  .inl (0, 10, M.2 34),
  .inl (1, 61, M.2 35),
  .inl (1, 61, M.2 36),
  .inl (0, 610, M.2 37),
  .inl (2, 6, M.2 38),
  .inl (2, 1210, M.2 39),
  .inl (2, 726, M.2 40),
  .inl (2, 726, M.2 41),
  .inl (1, 726, M.2 42),
  .inl (2, 660, M.2 43),
  .inl (0, 800, M.2 44),
  .inl (1, 800, M.2 45),
  .inl (1, 1, M.2 46)]
abbrev sX_chartReady (M : ev_M) : Int := M.1 0
abbrev sX_frontReady (M : ev_M) : Int := M.1 1
abbrev sX_forestReady (M : ev_M) : Int := M.1 2
abbrev sG_count (M : ev_M) : Int := M.1 3
abbrev sA_count (M : ev_M) : Int := M.1 4
abbrev sC_size (M : ev_M) : Int := M.1 5
abbrev sU_count (M : ev_M) : Int := M.1 6
abbrev sT_endless (M : ev_M) : Int := M.1 7
abbrev sW_waiting (M : ev_M) : Int := M.1 8
abbrev sW_passed (M : ev_M) : Int := M.1 9
abbrev sM_code (M : ev_M) : Int := M.1 10
abbrev sM_rules (M : ev_M) : Int := M.1 11
abbrev sM_length (M : ev_M) : Int := M.1 12
abbrev sM_states (M : ev_M) : Int := M.1 13
abbrev sM_newLow (M : ev_M) : Int := M.1 14
abbrev sM_newHigh (M : ev_M) : Int := M.1 15
abbrev sM_known (M : ev_M) : Int := M.1 16
abbrev sM_endless (M : ev_M) : Int := M.1 17
abbrev sM_maker (M : ev_M) : Int := M.1 18
abbrev sM_from (M : ev_M) : Int := M.1 19
abbrev sM_to (M : ev_M) : Int := M.1 20
abbrev sM_rule (M : ev_M) : Int := M.1 21
abbrev sM_one (M : ev_M) : Int := M.1 22
abbrev sM_two (M : ev_M) : Int := M.1 23
abbrev sM_three (M : ev_M) : Int := M.1 24
abbrev sM_waiting (M : ev_M) : Int := M.1 25
abbrev aG_left (M : ev_M) : Nat → Int := M.2 2
abbrev aG_size (M : ev_M) : Nat → Int := M.2 3
abbrev aG_right (M : ev_M) : Nat → Int := M.2 4
abbrev aA_kernel (M : ev_M) : Nat → Int := M.2 6
abbrev aA_awaited (M : ev_M) : Nat → Int := M.2 7
abbrev aA_goal (M : ev_M) : Nat → Int := M.2 8
abbrev aA_moved (M : ev_M) : Nat → Int := M.2 9
abbrev aC_text (M : ev_M) : Nat → Int := M.2 11
abbrev aC_ends (M : ev_M) : Nat → Int := M.2 12
abbrev aF_at (M : ev_M) : Nat → Int := M.2 14
abbrev aU_ends (M : ev_M) : Nat → Int := M.2 16
abbrev aU_queue (M : ev_M) : Nat → Int := M.2 17
abbrev aU_reached (M : ev_M) : Nat → Int := M.2 18
abbrev aU_ways (M : ev_M) : Nat → Int := M.2 19
abbrev aT_count (M : ev_M) : Nat → Int := M.2 21
abbrev aT_firstLength (M : ev_M) : Nat → Int := M.2 22
abbrev aT_rest (M : ev_M) : Nat → Int := M.2 23
abbrev aT_firstRest (M : ev_M) : Nat → Int := M.2 24
abbrev aW_cut (M : ev_M) : Nat → Int := M.2 26
abbrev aW_share (M : ev_M) : Nat → Int := M.2 27
abbrev aW_waitingNode (M : ev_M) : Nat → Int := M.2 28
abbrev aW_waitingTree (M : ev_M) : Nat → Int := M.2 29
abbrev aM_left (M : ev_M) : Nat → Int := M.2 31
abbrev aM_sizes (M : ev_M) : Nat → Int := M.2 32
abbrev aM_right (M : ev_M) : Nat → Int := M.2 33
abbrev aM_text (M : ev_M) : Nat → Int := M.2 34
abbrev aM_low (M : ev_M) : Nat → Int := M.2 35
abbrev aM_high (M : ev_M) : Nat → Int := M.2 36
abbrev aM_ways (M : ev_M) : Nat → Int := M.2 37
abbrev aM_empty (M : ev_M) : Nat → Int := M.2 38
abbrev aM_table (M : ev_M) : Nat → Int := M.2 39
abbrev aM_used (M : ev_M) : Nat → Int := M.2 40
abbrev aM_done (M : ev_M) : Nat → Int := M.2 41
abbrev aM_counts (M : ev_M) : Nat → Int := M.2 42
abbrev aM_front (M : ev_M) : Nat → Int := M.2 43
abbrev aM_nodes (M : ev_M) : Nat → Int := M.2 44
abbrev aM_picks (M : ev_M) : Nat → Int := M.2 45
abbrev aL_out (M : ev_M) : Nat → Int := M.2 46
def ev_sS (M : ev_M) (i : Nat) (x : Int) : ev_M := (fun j => if j = i then x else M.1 j, M.2)
def ev_sA (M : ev_M) (a i : Nat) (x : Int) : ev_M := (M.1, fun b => if b = a then tm_up (M.2 a) i x else M.2 b)
theorem hp_s0 (M : ev_M) (x : Int) : (hp M).set 0 (.inr (7, ([.inr (.inr (some 1)), .inr (.inr (some 5)), .inr (.inr (some 10)), .inr (.inr (some 13)), .inr (.inr (some 15)), .inr (.inr (some 20)), .inr (.inr (some 25)), .inl (M.1 0), .inl (M.1 1), .inl (M.1 2)] : List tm_V).set 7 (.inl x))) = hp (ev_sS M 0 x) := rfl
theorem hp_s1 (M : ev_M) (x : Int) : (hp M).set 0 (.inr (7, ([.inr (.inr (some 1)), .inr (.inr (some 5)), .inr (.inr (some 10)), .inr (.inr (some 13)), .inr (.inr (some 15)), .inr (.inr (some 20)), .inr (.inr (some 25)), .inl (M.1 0), .inl (M.1 1), .inl (M.1 2)] : List tm_V).set 8 (.inl x))) = hp (ev_sS M 1 x) := rfl
theorem hp_s2 (M : ev_M) (x : Int) : (hp M).set 0 (.inr (7, ([.inr (.inr (some 1)), .inr (.inr (some 5)), .inr (.inr (some 10)), .inr (.inr (some 13)), .inr (.inr (some 15)), .inr (.inr (some 20)), .inr (.inr (some 25)), .inl (M.1 0), .inl (M.1 1), .inl (M.1 2)] : List tm_V).set 9 (.inl x))) = hp (ev_sS M 2 x) := rfl
theorem hp_s3 (M : ev_M) (x : Int) : (hp M).set 1 (.inr (0, ([.inl (M.1 3), .inr (.inr (some 2)), .inr (.inr (some 3)), .inr (.inr (some 4))] : List tm_V).set 0 (.inl x))) = hp (ev_sS M 3 x) := rfl
theorem hp_s4 (M : ev_M) (x : Int) : (hp M).set 5 (.inr (1, ([.inl (M.1 4), .inr (.inr (some 1)), .inr (.inr (some 6)), .inr (.inr (some 7)), .inr (.inr (some 8)), .inr (.inr (some 9))] : List tm_V).set 0 (.inl x))) = hp (ev_sS M 4 x) := rfl
theorem hp_s5 (M : ev_M) (x : Int) : (hp M).set 10 (.inr (2, ([.inl (M.1 5), .inr (.inr (some 11)), .inr (.inr (some 1)), .inr (.inr (some 12))] : List tm_V).set 0 (.inl x))) = hp (ev_sS M 5 x) := rfl
theorem hp_s6 (M : ev_M) (x : Int) : (hp M).set 15 (.inr (4, ([.inr (.inr (some 1)), .inr (.inr (some 10)), .inr (.inr (some 16)), .inr (.inr (some 17)), .inl (M.1 6), .inr (.inr (some 18)), .inr (.inr (some 19))] : List tm_V).set 4 (.inl x))) = hp (ev_sS M 6 x) := rfl
theorem hp_s7 (M : ev_M) (x : Int) : (hp M).set 20 (.inr (5, ([.inl (M.1 7), .inr (.inr (some 21)), .inr (.inr (some 22)), .inr (.inr (some 23)), .inr (.inr (some 24)), .inr (.inr (some 1)), .inr (.inr (some 10)), .inr (.inr (some 15))] : List tm_V).set 0 (.inl x))) = hp (ev_sS M 7 x) := rfl
theorem hp_s8 (M : ev_M) (x : Int) : (hp M).set 25 (.inr (6, ([.inr (.inr (some 1)), .inr (.inr (some 10)), .inr (.inr (some 20)), .inr (.inr (some 26)), .inr (.inr (some 27)), .inr (.inr (some 28)), .inr (.inr (some 29)), .inl (M.1 8), .inl (M.1 9)] : List tm_V).set 7 (.inl x))) = hp (ev_sS M 8 x) := rfl
theorem hp_s9 (M : ev_M) (x : Int) : (hp M).set 25 (.inr (6, ([.inr (.inr (some 1)), .inr (.inr (some 10)), .inr (.inr (some 20)), .inr (.inr (some 26)), .inr (.inr (some 27)), .inr (.inr (some 28)), .inr (.inr (some 29)), .inl (M.1 8), .inl (M.1 9)] : List tm_V).set 8 (.inl x))) = hp (ev_sS M 9 x) := rfl
theorem hp_s10 (M : ev_M) (x : Int) : (hp M).set 30 (.inr (8, ([.inl (M.1 10), .inl (M.1 11), .inr (.inr (some 31)), .inr (.inr (some 32)), .inr (.inr (some 33)), .inl (M.1 12), .inr (.inr (some 34)), .inl (M.1 13), .inr (.inr (some 35)), .inr (.inr (some 36)), .inr (.inr (some 37)), .inr (.inl (M.1 14)), .inr (.inl (M.1 15)), .inl (M.1 16), .inr (.inr (some 38)), .inr (.inr (some 39)), .inr (.inr (some 40)), .inr (.inr (some 41)), .inr (.inr (some 42)), .inl (M.1 17), .inr (.inr (some 43)), .inl (M.1 18), .inl (M.1 19), .inl (M.1 20), .inl (M.1 21), .inl (M.1 22), .inl (M.1 23), .inl (M.1 24), .inl (M.1 25), .inr (.inr (some 44)), .inr (.inr (some 45))] : List tm_V).set 0 (.inl x))) = hp (ev_sS M 10 x) := rfl
theorem hp_s11 (M : ev_M) (x : Int) : (hp M).set 30 (.inr (8, ([.inl (M.1 10), .inl (M.1 11), .inr (.inr (some 31)), .inr (.inr (some 32)), .inr (.inr (some 33)), .inl (M.1 12), .inr (.inr (some 34)), .inl (M.1 13), .inr (.inr (some 35)), .inr (.inr (some 36)), .inr (.inr (some 37)), .inr (.inl (M.1 14)), .inr (.inl (M.1 15)), .inl (M.1 16), .inr (.inr (some 38)), .inr (.inr (some 39)), .inr (.inr (some 40)), .inr (.inr (some 41)), .inr (.inr (some 42)), .inl (M.1 17), .inr (.inr (some 43)), .inl (M.1 18), .inl (M.1 19), .inl (M.1 20), .inl (M.1 21), .inl (M.1 22), .inl (M.1 23), .inl (M.1 24), .inl (M.1 25), .inr (.inr (some 44)), .inr (.inr (some 45))] : List tm_V).set 1 (.inl x))) = hp (ev_sS M 11 x) := rfl
theorem hp_s12 (M : ev_M) (x : Int) : (hp M).set 30 (.inr (8, ([.inl (M.1 10), .inl (M.1 11), .inr (.inr (some 31)), .inr (.inr (some 32)), .inr (.inr (some 33)), .inl (M.1 12), .inr (.inr (some 34)), .inl (M.1 13), .inr (.inr (some 35)), .inr (.inr (some 36)), .inr (.inr (some 37)), .inr (.inl (M.1 14)), .inr (.inl (M.1 15)), .inl (M.1 16), .inr (.inr (some 38)), .inr (.inr (some 39)), .inr (.inr (some 40)), .inr (.inr (some 41)), .inr (.inr (some 42)), .inl (M.1 17), .inr (.inr (some 43)), .inl (M.1 18), .inl (M.1 19), .inl (M.1 20), .inl (M.1 21), .inl (M.1 22), .inl (M.1 23), .inl (M.1 24), .inl (M.1 25), .inr (.inr (some 44)), .inr (.inr (some 45))] : List tm_V).set 5 (.inl x))) = hp (ev_sS M 12 x) := rfl
theorem hp_s13 (M : ev_M) (x : Int) : (hp M).set 30 (.inr (8, ([.inl (M.1 10), .inl (M.1 11), .inr (.inr (some 31)), .inr (.inr (some 32)), .inr (.inr (some 33)), .inl (M.1 12), .inr (.inr (some 34)), .inl (M.1 13), .inr (.inr (some 35)), .inr (.inr (some 36)), .inr (.inr (some 37)), .inr (.inl (M.1 14)), .inr (.inl (M.1 15)), .inl (M.1 16), .inr (.inr (some 38)), .inr (.inr (some 39)), .inr (.inr (some 40)), .inr (.inr (some 41)), .inr (.inr (some 42)), .inl (M.1 17), .inr (.inr (some 43)), .inl (M.1 18), .inl (M.1 19), .inl (M.1 20), .inl (M.1 21), .inl (M.1 22), .inl (M.1 23), .inl (M.1 24), .inl (M.1 25), .inr (.inr (some 44)), .inr (.inr (some 45))] : List tm_V).set 7 (.inl x))) = hp (ev_sS M 13 x) := rfl
theorem hp_s14 (M : ev_M) (x : Int) : (hp M).set 30 (.inr (8, ([.inl (M.1 10), .inl (M.1 11), .inr (.inr (some 31)), .inr (.inr (some 32)), .inr (.inr (some 33)), .inl (M.1 12), .inr (.inr (some 34)), .inl (M.1 13), .inr (.inr (some 35)), .inr (.inr (some 36)), .inr (.inr (some 37)), .inr (.inl (M.1 14)), .inr (.inl (M.1 15)), .inl (M.1 16), .inr (.inr (some 38)), .inr (.inr (some 39)), .inr (.inr (some 40)), .inr (.inr (some 41)), .inr (.inr (some 42)), .inl (M.1 17), .inr (.inr (some 43)), .inl (M.1 18), .inl (M.1 19), .inl (M.1 20), .inl (M.1 21), .inl (M.1 22), .inl (M.1 23), .inl (M.1 24), .inl (M.1 25), .inr (.inr (some 44)), .inr (.inr (some 45))] : List tm_V).set 11 (.inr (.inl x)))) = hp (ev_sS M 14 x) := rfl
theorem hp_s15 (M : ev_M) (x : Int) : (hp M).set 30 (.inr (8, ([.inl (M.1 10), .inl (M.1 11), .inr (.inr (some 31)), .inr (.inr (some 32)), .inr (.inr (some 33)), .inl (M.1 12), .inr (.inr (some 34)), .inl (M.1 13), .inr (.inr (some 35)), .inr (.inr (some 36)), .inr (.inr (some 37)), .inr (.inl (M.1 14)), .inr (.inl (M.1 15)), .inl (M.1 16), .inr (.inr (some 38)), .inr (.inr (some 39)), .inr (.inr (some 40)), .inr (.inr (some 41)), .inr (.inr (some 42)), .inl (M.1 17), .inr (.inr (some 43)), .inl (M.1 18), .inl (M.1 19), .inl (M.1 20), .inl (M.1 21), .inl (M.1 22), .inl (M.1 23), .inl (M.1 24), .inl (M.1 25), .inr (.inr (some 44)), .inr (.inr (some 45))] : List tm_V).set 12 (.inr (.inl x)))) = hp (ev_sS M 15 x) := rfl
theorem hp_s16 (M : ev_M) (x : Int) : (hp M).set 30 (.inr (8, ([.inl (M.1 10), .inl (M.1 11), .inr (.inr (some 31)), .inr (.inr (some 32)), .inr (.inr (some 33)), .inl (M.1 12), .inr (.inr (some 34)), .inl (M.1 13), .inr (.inr (some 35)), .inr (.inr (some 36)), .inr (.inr (some 37)), .inr (.inl (M.1 14)), .inr (.inl (M.1 15)), .inl (M.1 16), .inr (.inr (some 38)), .inr (.inr (some 39)), .inr (.inr (some 40)), .inr (.inr (some 41)), .inr (.inr (some 42)), .inl (M.1 17), .inr (.inr (some 43)), .inl (M.1 18), .inl (M.1 19), .inl (M.1 20), .inl (M.1 21), .inl (M.1 22), .inl (M.1 23), .inl (M.1 24), .inl (M.1 25), .inr (.inr (some 44)), .inr (.inr (some 45))] : List tm_V).set 13 (.inl x))) = hp (ev_sS M 16 x) := rfl
theorem hp_s17 (M : ev_M) (x : Int) : (hp M).set 30 (.inr (8, ([.inl (M.1 10), .inl (M.1 11), .inr (.inr (some 31)), .inr (.inr (some 32)), .inr (.inr (some 33)), .inl (M.1 12), .inr (.inr (some 34)), .inl (M.1 13), .inr (.inr (some 35)), .inr (.inr (some 36)), .inr (.inr (some 37)), .inr (.inl (M.1 14)), .inr (.inl (M.1 15)), .inl (M.1 16), .inr (.inr (some 38)), .inr (.inr (some 39)), .inr (.inr (some 40)), .inr (.inr (some 41)), .inr (.inr (some 42)), .inl (M.1 17), .inr (.inr (some 43)), .inl (M.1 18), .inl (M.1 19), .inl (M.1 20), .inl (M.1 21), .inl (M.1 22), .inl (M.1 23), .inl (M.1 24), .inl (M.1 25), .inr (.inr (some 44)), .inr (.inr (some 45))] : List tm_V).set 19 (.inl x))) = hp (ev_sS M 17 x) := rfl
theorem hp_s18 (M : ev_M) (x : Int) : (hp M).set 30 (.inr (8, ([.inl (M.1 10), .inl (M.1 11), .inr (.inr (some 31)), .inr (.inr (some 32)), .inr (.inr (some 33)), .inl (M.1 12), .inr (.inr (some 34)), .inl (M.1 13), .inr (.inr (some 35)), .inr (.inr (some 36)), .inr (.inr (some 37)), .inr (.inl (M.1 14)), .inr (.inl (M.1 15)), .inl (M.1 16), .inr (.inr (some 38)), .inr (.inr (some 39)), .inr (.inr (some 40)), .inr (.inr (some 41)), .inr (.inr (some 42)), .inl (M.1 17), .inr (.inr (some 43)), .inl (M.1 18), .inl (M.1 19), .inl (M.1 20), .inl (M.1 21), .inl (M.1 22), .inl (M.1 23), .inl (M.1 24), .inl (M.1 25), .inr (.inr (some 44)), .inr (.inr (some 45))] : List tm_V).set 21 (.inl x))) = hp (ev_sS M 18 x) := rfl
theorem hp_s19 (M : ev_M) (x : Int) : (hp M).set 30 (.inr (8, ([.inl (M.1 10), .inl (M.1 11), .inr (.inr (some 31)), .inr (.inr (some 32)), .inr (.inr (some 33)), .inl (M.1 12), .inr (.inr (some 34)), .inl (M.1 13), .inr (.inr (some 35)), .inr (.inr (some 36)), .inr (.inr (some 37)), .inr (.inl (M.1 14)), .inr (.inl (M.1 15)), .inl (M.1 16), .inr (.inr (some 38)), .inr (.inr (some 39)), .inr (.inr (some 40)), .inr (.inr (some 41)), .inr (.inr (some 42)), .inl (M.1 17), .inr (.inr (some 43)), .inl (M.1 18), .inl (M.1 19), .inl (M.1 20), .inl (M.1 21), .inl (M.1 22), .inl (M.1 23), .inl (M.1 24), .inl (M.1 25), .inr (.inr (some 44)), .inr (.inr (some 45))] : List tm_V).set 22 (.inl x))) = hp (ev_sS M 19 x) := rfl
theorem hp_s20 (M : ev_M) (x : Int) : (hp M).set 30 (.inr (8, ([.inl (M.1 10), .inl (M.1 11), .inr (.inr (some 31)), .inr (.inr (some 32)), .inr (.inr (some 33)), .inl (M.1 12), .inr (.inr (some 34)), .inl (M.1 13), .inr (.inr (some 35)), .inr (.inr (some 36)), .inr (.inr (some 37)), .inr (.inl (M.1 14)), .inr (.inl (M.1 15)), .inl (M.1 16), .inr (.inr (some 38)), .inr (.inr (some 39)), .inr (.inr (some 40)), .inr (.inr (some 41)), .inr (.inr (some 42)), .inl (M.1 17), .inr (.inr (some 43)), .inl (M.1 18), .inl (M.1 19), .inl (M.1 20), .inl (M.1 21), .inl (M.1 22), .inl (M.1 23), .inl (M.1 24), .inl (M.1 25), .inr (.inr (some 44)), .inr (.inr (some 45))] : List tm_V).set 23 (.inl x))) = hp (ev_sS M 20 x) := rfl
theorem hp_s21 (M : ev_M) (x : Int) : (hp M).set 30 (.inr (8, ([.inl (M.1 10), .inl (M.1 11), .inr (.inr (some 31)), .inr (.inr (some 32)), .inr (.inr (some 33)), .inl (M.1 12), .inr (.inr (some 34)), .inl (M.1 13), .inr (.inr (some 35)), .inr (.inr (some 36)), .inr (.inr (some 37)), .inr (.inl (M.1 14)), .inr (.inl (M.1 15)), .inl (M.1 16), .inr (.inr (some 38)), .inr (.inr (some 39)), .inr (.inr (some 40)), .inr (.inr (some 41)), .inr (.inr (some 42)), .inl (M.1 17), .inr (.inr (some 43)), .inl (M.1 18), .inl (M.1 19), .inl (M.1 20), .inl (M.1 21), .inl (M.1 22), .inl (M.1 23), .inl (M.1 24), .inl (M.1 25), .inr (.inr (some 44)), .inr (.inr (some 45))] : List tm_V).set 24 (.inl x))) = hp (ev_sS M 21 x) := rfl
theorem hp_s22 (M : ev_M) (x : Int) : (hp M).set 30 (.inr (8, ([.inl (M.1 10), .inl (M.1 11), .inr (.inr (some 31)), .inr (.inr (some 32)), .inr (.inr (some 33)), .inl (M.1 12), .inr (.inr (some 34)), .inl (M.1 13), .inr (.inr (some 35)), .inr (.inr (some 36)), .inr (.inr (some 37)), .inr (.inl (M.1 14)), .inr (.inl (M.1 15)), .inl (M.1 16), .inr (.inr (some 38)), .inr (.inr (some 39)), .inr (.inr (some 40)), .inr (.inr (some 41)), .inr (.inr (some 42)), .inl (M.1 17), .inr (.inr (some 43)), .inl (M.1 18), .inl (M.1 19), .inl (M.1 20), .inl (M.1 21), .inl (M.1 22), .inl (M.1 23), .inl (M.1 24), .inl (M.1 25), .inr (.inr (some 44)), .inr (.inr (some 45))] : List tm_V).set 25 (.inl x))) = hp (ev_sS M 22 x) := rfl
theorem hp_s23 (M : ev_M) (x : Int) : (hp M).set 30 (.inr (8, ([.inl (M.1 10), .inl (M.1 11), .inr (.inr (some 31)), .inr (.inr (some 32)), .inr (.inr (some 33)), .inl (M.1 12), .inr (.inr (some 34)), .inl (M.1 13), .inr (.inr (some 35)), .inr (.inr (some 36)), .inr (.inr (some 37)), .inr (.inl (M.1 14)), .inr (.inl (M.1 15)), .inl (M.1 16), .inr (.inr (some 38)), .inr (.inr (some 39)), .inr (.inr (some 40)), .inr (.inr (some 41)), .inr (.inr (some 42)), .inl (M.1 17), .inr (.inr (some 43)), .inl (M.1 18), .inl (M.1 19), .inl (M.1 20), .inl (M.1 21), .inl (M.1 22), .inl (M.1 23), .inl (M.1 24), .inl (M.1 25), .inr (.inr (some 44)), .inr (.inr (some 45))] : List tm_V).set 26 (.inl x))) = hp (ev_sS M 23 x) := rfl
theorem hp_s24 (M : ev_M) (x : Int) : (hp M).set 30 (.inr (8, ([.inl (M.1 10), .inl (M.1 11), .inr (.inr (some 31)), .inr (.inr (some 32)), .inr (.inr (some 33)), .inl (M.1 12), .inr (.inr (some 34)), .inl (M.1 13), .inr (.inr (some 35)), .inr (.inr (some 36)), .inr (.inr (some 37)), .inr (.inl (M.1 14)), .inr (.inl (M.1 15)), .inl (M.1 16), .inr (.inr (some 38)), .inr (.inr (some 39)), .inr (.inr (some 40)), .inr (.inr (some 41)), .inr (.inr (some 42)), .inl (M.1 17), .inr (.inr (some 43)), .inl (M.1 18), .inl (M.1 19), .inl (M.1 20), .inl (M.1 21), .inl (M.1 22), .inl (M.1 23), .inl (M.1 24), .inl (M.1 25), .inr (.inr (some 44)), .inr (.inr (some 45))] : List tm_V).set 27 (.inl x))) = hp (ev_sS M 24 x) := rfl
theorem hp_s25 (M : ev_M) (x : Int) : (hp M).set 30 (.inr (8, ([.inl (M.1 10), .inl (M.1 11), .inr (.inr (some 31)), .inr (.inr (some 32)), .inr (.inr (some 33)), .inl (M.1 12), .inr (.inr (some 34)), .inl (M.1 13), .inr (.inr (some 35)), .inr (.inr (some 36)), .inr (.inr (some 37)), .inr (.inl (M.1 14)), .inr (.inl (M.1 15)), .inl (M.1 16), .inr (.inr (some 38)), .inr (.inr (some 39)), .inr (.inr (some 40)), .inr (.inr (some 41)), .inr (.inr (some 42)), .inl (M.1 17), .inr (.inr (some 43)), .inl (M.1 18), .inl (M.1 19), .inl (M.1 20), .inl (M.1 21), .inl (M.1 22), .inl (M.1 23), .inl (M.1 24), .inl (M.1 25), .inr (.inr (some 44)), .inr (.inr (some 45))] : List tm_V).set 28 (.inl x))) = hp (ev_sS M 25 x) := rfl
theorem hp_a2 (M : ev_M) (i : Nat) (x : Int) : (hp M).set 2 (.inl (0, 14, tm_up (M.2 2) i x)) = hp (ev_sA M 2 i x) := rfl
theorem hp_a3 (M : ev_M) (i : Nat) (x : Int) : (hp M).set 3 (.inl (0, 14, tm_up (M.2 3) i x)) = hp (ev_sA M 3 i x) := rfl
theorem hp_a4 (M : ev_M) (i : Nat) (x : Int) : (hp M).set 4 (.inl (0, 56, tm_up (M.2 4) i x)) = hp (ev_sA M 4 i x) := rfl
theorem hp_a6 (M : ev_M) (i : Nat) (x : Int) : (hp M).set 6 (.inl (1, 60, tm_up (M.2 6) i x)) = hp (ev_sA M 6 i x) := rfl
theorem hp_a7 (M : ev_M) (i : Nat) (x : Int) : (hp M).set 7 (.inl (0, 60, tm_up (M.2 7) i x)) = hp (ev_sA M 7 i x) := rfl
theorem hp_a8 (M : ev_M) (i : Nat) (x : Int) : (hp M).set 8 (.inl (0, 600, tm_up (M.2 8) i x)) = hp (ev_sA M 8 i x) := rfl
theorem hp_a9 (M : ev_M) (i : Nat) (x : Int) : (hp M).set 9 (.inl (1, 10, tm_up (M.2 9) i x)) = hp (ev_sA M 9 i x) := rfl
theorem hp_a11 (M : ev_M) (i : Nat) (x : Int) : (hp M).set 11 (.inl (0, 10, tm_up (M.2 11) i x)) = hp (ev_sA M 11 i x) := rfl
theorem hp_a12 (M : ev_M) (i : Nat) (x : Int) : (hp M).set 12 (.inl (0, 110, tm_up (M.2 12) i x)) = hp (ev_sA M 12 i x) := rfl
theorem hp_a14 (M : ev_M) (i : Nat) (x : Int) : (hp M).set 14 (.inl (1, 11, tm_up (M.2 14) i x)) = hp (ev_sA M 14 i x) := rfl
theorem hp_a16 (M : ev_M) (i : Nat) (x : Int) : (hp M).set 16 (.inl (0, 66, tm_up (M.2 16) i x)) = hp (ev_sA M 16 i x) := rfl
theorem hp_a17 (M : ev_M) (i : Nat) (x : Int) : (hp M).set 17 (.inl (0, 396, tm_up (M.2 17) i x)) = hp (ev_sA M 17 i x) := rfl
theorem hp_a18 (M : ev_M) (i : Nat) (x : Int) : (hp M).set 18 (.inl (0, 4, tm_up (M.2 18) i x)) = hp (ev_sA M 18 i x) := rfl
theorem hp_a19 (M : ev_M) (i : Nat) (x : Int) : (hp M).set 19 (.inl (0, 11, tm_up (M.2 19) i x)) = hp (ev_sA M 19 i x) := rfl
theorem hp_a21 (M : ev_M) (i : Nat) (x : Int) : (hp M).set 21 (.inl (0, 1210, tm_up (M.2 21) i x)) = hp (ev_sA M 21 i x) := rfl
theorem hp_a22 (M : ev_M) (i : Nat) (x : Int) : (hp M).set 22 (.inl (0, 1210, tm_up (M.2 22) i x)) = hp (ev_sA M 22 i x) := rfl
theorem hp_a23 (M : ev_M) (i : Nat) (x : Int) : (hp M).set 23 (.inl (1, 55, tm_up (M.2 23) i x)) = hp (ev_sA M 23 i x) := rfl
theorem hp_a24 (M : ev_M) (i : Nat) (x : Int) : (hp M).set 24 (.inl (0, 55, tm_up (M.2 24) i x)) = hp (ev_sA M 24 i x) := rfl
theorem hp_a26 (M : ev_M) (i : Nat) (x : Int) : (hp M).set 26 (.inl (0, 5, tm_up (M.2 26) i x)) = hp (ev_sA M 26 i x) := rfl
theorem hp_a27 (M : ev_M) (i : Nat) (x : Int) : (hp M).set 27 (.inl (0, 4, tm_up (M.2 27) i x)) = hp (ev_sA M 27 i x) := rfl
theorem hp_a28 (M : ev_M) (i : Nat) (x : Int) : (hp M).set 28 (.inl (0, 256, tm_up (M.2 28) i x)) = hp (ev_sA M 28 i x) := rfl
theorem hp_a29 (M : ev_M) (i : Nat) (x : Int) : (hp M).set 29 (.inl (0, 256, tm_up (M.2 29) i x)) = hp (ev_sA M 29 i x) := rfl
theorem hp_a31 (M : ev_M) (i : Nat) (x : Int) : (hp M).set 31 (.inl (0, 14, tm_up (M.2 31) i x)) = hp (ev_sA M 31 i x) := rfl
theorem hp_a32 (M : ev_M) (i : Nat) (x : Int) : (hp M).set 32 (.inl (0, 14, tm_up (M.2 32) i x)) = hp (ev_sA M 32 i x) := rfl
theorem hp_a33 (M : ev_M) (i : Nat) (x : Int) : (hp M).set 33 (.inl (0, 56, tm_up (M.2 33) i x)) = hp (ev_sA M 33 i x) := rfl
theorem hp_a34 (M : ev_M) (i : Nat) (x : Int) : (hp M).set 34 (.inl (0, 10, tm_up (M.2 34) i x)) = hp (ev_sA M 34 i x) := rfl
theorem hp_a35 (M : ev_M) (i : Nat) (x : Int) : (hp M).set 35 (.inl (1, 61, tm_up (M.2 35) i x)) = hp (ev_sA M 35 i x) := rfl
theorem hp_a36 (M : ev_M) (i : Nat) (x : Int) : (hp M).set 36 (.inl (1, 61, tm_up (M.2 36) i x)) = hp (ev_sA M 36 i x) := rfl
theorem hp_a37 (M : ev_M) (i : Nat) (x : Int) : (hp M).set 37 (.inl (0, 610, tm_up (M.2 37) i x)) = hp (ev_sA M 37 i x) := rfl
theorem hp_a38 (M : ev_M) (i : Nat) (x : Int) : (hp M).set 38 (.inl (2, 6, tm_up (M.2 38) i x)) = hp (ev_sA M 38 i x) := rfl
theorem hp_a39 (M : ev_M) (i : Nat) (x : Int) : (hp M).set 39 (.inl (2, 1210, tm_up (M.2 39) i x)) = hp (ev_sA M 39 i x) := rfl
theorem hp_a40 (M : ev_M) (i : Nat) (x : Int) : (hp M).set 40 (.inl (2, 726, tm_up (M.2 40) i x)) = hp (ev_sA M 40 i x) := rfl
theorem hp_a41 (M : ev_M) (i : Nat) (x : Int) : (hp M).set 41 (.inl (2, 726, tm_up (M.2 41) i x)) = hp (ev_sA M 41 i x) := rfl
theorem hp_a42 (M : ev_M) (i : Nat) (x : Int) : (hp M).set 42 (.inl (1, 726, tm_up (M.2 42) i x)) = hp (ev_sA M 42 i x) := rfl
theorem hp_a43 (M : ev_M) (i : Nat) (x : Int) : (hp M).set 43 (.inl (2, 660, tm_up (M.2 43) i x)) = hp (ev_sA M 43 i x) := rfl
theorem hp_a44 (M : ev_M) (i : Nat) (x : Int) : (hp M).set 44 (.inl (0, 800, tm_up (M.2 44) i x)) = hp (ev_sA M 44 i x) := rfl
theorem hp_a45 (M : ev_M) (i : Nat) (x : Int) : (hp M).set 45 (.inl (1, 800, tm_up (M.2 45) i x)) = hp (ev_sA M 45 i x) := rfl
theorem hp_a46 (M : ev_M) (i : Nat) (x : Int) : (hp M).set 46 (.inl (1, 1, tm_up (M.2 46) i x)) = hp (ev_sA M 46 i x) := rfl

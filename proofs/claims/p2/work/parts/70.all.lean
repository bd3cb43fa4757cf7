/-! every script; printed by wip/gen/gen64.py -/
theorem cls4 (z : Int32) : z.toInt ≤ 3 ∨ z.toInt = 4 ∨ z.toInt = 5 ∨ 6 ≤ z.toInt := by omega
theorem all_ok {n : Nat} {xs : Nat → Int32} (hn : n ≤ 3074) : pLaw n xs := by
  rcases cls4 (sx n xs 0) with h | h | h | h
  · rcases cls4 (sx n xs 1) with g | g | g | g
    · exact bd33 hn (sv_in (i32_rng _).1 h) (sv_in (i32_rng _).1 g)
    · exact bd34 hn (sv_in (i32_rng _).1 h) (sv_in (Int.le_of_eq g.symm) (Int.le_of_eq g))
    · exact bd35 hn (sv_in (i32_rng _).1 h) (sv_in (Int.le_of_eq g.symm) (Int.le_of_eq g))
    · exact bd36 hn (sv_in (i32_rng _).1 h) (sv_in g (i32_rng _).2)
  · rcases cls4 (sx n xs 1) with g | g | g | g
    · exact bd43 hn (sv_in (Int.le_of_eq h.symm) (Int.le_of_eq h)) (sv_in (i32_rng _).1 g)
    · exact bd44 hn (sv_in (Int.le_of_eq h.symm) (Int.le_of_eq h)) (sv_in (Int.le_of_eq g.symm) (Int.le_of_eq g))
    · exact bd45 hn (sv_in (Int.le_of_eq h.symm) (Int.le_of_eq h)) (sv_in (Int.le_of_eq g.symm) (Int.le_of_eq g))
    · exact bd46 hn (sv_in (Int.le_of_eq h.symm) (Int.le_of_eq h)) (sv_in g (i32_rng _).2)
  · rcases cls4 (sx n xs 1) with g | g | g | g
    · exact bd53 hn (sv_in (Int.le_of_eq h.symm) (Int.le_of_eq h)) (sv_in (i32_rng _).1 g)
    · exact bd54 hn (sv_in (Int.le_of_eq h.symm) (Int.le_of_eq h)) (sv_in (Int.le_of_eq g.symm) (Int.le_of_eq g))
    · exact bd55 hn (sv_in (Int.le_of_eq h.symm) (Int.le_of_eq h)) (sv_in (Int.le_of_eq g.symm) (Int.le_of_eq g))
    · exact bd56 hn (sv_in (Int.le_of_eq h.symm) (Int.le_of_eq h)) (sv_in g (i32_rng _).2)
  · rcases cls4 (sx n xs 1) with g | g | g | g
    · exact bd63 hn (sv_in h (i32_rng _).2) (sv_in (i32_rng _).1 g)
    · exact bd64 hn (sv_in h (i32_rng _).2) (sv_in (Int.le_of_eq g.symm) (Int.le_of_eq g))
    · exact bd65 hn (sv_in h (i32_rng _).2) (sv_in (Int.le_of_eq g.symm) (Int.le_of_eq g))
    · exact bd66 hn (sv_in h (i32_rng _).2) (sv_in g (i32_rng _).2)

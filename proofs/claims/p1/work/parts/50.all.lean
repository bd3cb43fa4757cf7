/-! every script of at most 8 ints; printed by wip/gen/gen50.py -/
theorem cls4 (z : Int32) : z.toInt ≤ 3 ∨ z.toInt = 4 ∨ z.toInt = 5 ∨ 6 ≤ z.toInt := by omega
theorem all_0 {xs : Nat → Int32} : pLaw 0 xs := by
  exact bd33_0 trivial
theorem all_1 {xs : Nat → Int32} : pLaw 1 xs := by
  rcases cls4 (xs 0) with h | h | h | h
  · exact bd33_1 ⟨sv_in (i32_rng _).1 h, trivial⟩
  · exact bd43_1 ⟨sv_in (Int.le_of_eq h.symm) (Int.le_of_eq h), trivial⟩
  · exact bd53_1 ⟨sv_in (Int.le_of_eq h.symm) (Int.le_of_eq h), trivial⟩
  · exact bd63_1 ⟨sv_in h (i32_rng _).2, trivial⟩
theorem all_2 {xs : Nat → Int32} : pLaw 2 xs := by
  rcases cls4 (xs 0) with h | h | h | h
  · rcases cls4 (xs 1) with g | g | g | g
    · exact bd33_2 ⟨sv_in (i32_rng _).1 h, sv_in (i32_rng _).1 g, trivial⟩
    · exact bd34_2 ⟨sv_in (i32_rng _).1 h, sv_in (Int.le_of_eq g.symm) (Int.le_of_eq g), trivial⟩
    · exact bd35_2 ⟨sv_in (i32_rng _).1 h, sv_in (Int.le_of_eq g.symm) (Int.le_of_eq g), trivial⟩
    · exact bd36_2 ⟨sv_in (i32_rng _).1 h, sv_in g (i32_rng _).2, trivial⟩
  · rcases cls4 (xs 1) with g | g | g | g
    · exact bd43_2 ⟨sv_in (Int.le_of_eq h.symm) (Int.le_of_eq h), sv_in (i32_rng _).1 g, trivial⟩
    · exact bd44_2 ⟨sv_in (Int.le_of_eq h.symm) (Int.le_of_eq h), sv_in (Int.le_of_eq g.symm) (Int.le_of_eq g), trivial⟩
    · exact bd45_2 ⟨sv_in (Int.le_of_eq h.symm) (Int.le_of_eq h), sv_in (Int.le_of_eq g.symm) (Int.le_of_eq g), trivial⟩
    · exact bd46_2 ⟨sv_in (Int.le_of_eq h.symm) (Int.le_of_eq h), sv_in g (i32_rng _).2, trivial⟩
  · rcases cls4 (xs 1) with g | g | g | g
    · exact bd53_2 ⟨sv_in (Int.le_of_eq h.symm) (Int.le_of_eq h), sv_in (i32_rng _).1 g, trivial⟩
    · exact bd54_2 ⟨sv_in (Int.le_of_eq h.symm) (Int.le_of_eq h), sv_in (Int.le_of_eq g.symm) (Int.le_of_eq g), trivial⟩
    · exact bd55_2 ⟨sv_in (Int.le_of_eq h.symm) (Int.le_of_eq h), sv_in (Int.le_of_eq g.symm) (Int.le_of_eq g), trivial⟩
    · exact bd56_2 ⟨sv_in (Int.le_of_eq h.symm) (Int.le_of_eq h), sv_in g (i32_rng _).2, trivial⟩
  · rcases cls4 (xs 1) with g | g | g | g
    · exact bd63_2 ⟨sv_in h (i32_rng _).2, sv_in (i32_rng _).1 g, trivial⟩
    · exact bd64_2 ⟨sv_in h (i32_rng _).2, sv_in (Int.le_of_eq g.symm) (Int.le_of_eq g), trivial⟩
    · exact bd65_2 ⟨sv_in h (i32_rng _).2, sv_in (Int.le_of_eq g.symm) (Int.le_of_eq g), trivial⟩
    · exact bd66_2 ⟨sv_in h (i32_rng _).2, sv_in g (i32_rng _).2, trivial⟩
theorem all_3 {xs : Nat → Int32} : pLaw 3 xs := by
  rcases cls4 (xs 0) with h | h | h | h
  · rcases cls4 (xs 1) with g | g | g | g
    · exact bd33_3 ⟨sv_in (i32_rng _).1 h, sv_in (i32_rng _).1 g, sv_any, trivial⟩
    · exact bd34_3 ⟨sv_in (i32_rng _).1 h, sv_in (Int.le_of_eq g.symm) (Int.le_of_eq g), sv_any, trivial⟩
    · exact bd35_3 ⟨sv_in (i32_rng _).1 h, sv_in (Int.le_of_eq g.symm) (Int.le_of_eq g), sv_any, trivial⟩
    · exact bd36_3 ⟨sv_in (i32_rng _).1 h, sv_in g (i32_rng _).2, sv_any, trivial⟩
  · rcases cls4 (xs 1) with g | g | g | g
    · exact bd43_3 ⟨sv_in (Int.le_of_eq h.symm) (Int.le_of_eq h), sv_in (i32_rng _).1 g, sv_any, trivial⟩
    · exact bd44_3 ⟨sv_in (Int.le_of_eq h.symm) (Int.le_of_eq h), sv_in (Int.le_of_eq g.symm) (Int.le_of_eq g), sv_any, trivial⟩
    · exact bd45_3 ⟨sv_in (Int.le_of_eq h.symm) (Int.le_of_eq h), sv_in (Int.le_of_eq g.symm) (Int.le_of_eq g), sv_any, trivial⟩
    · exact bd46_3 ⟨sv_in (Int.le_of_eq h.symm) (Int.le_of_eq h), sv_in g (i32_rng _).2, sv_any, trivial⟩
  · rcases cls4 (xs 1) with g | g | g | g
    · exact bd53_3 ⟨sv_in (Int.le_of_eq h.symm) (Int.le_of_eq h), sv_in (i32_rng _).1 g, sv_any, trivial⟩
    · exact bd54_3 ⟨sv_in (Int.le_of_eq h.symm) (Int.le_of_eq h), sv_in (Int.le_of_eq g.symm) (Int.le_of_eq g), sv_any, trivial⟩
    · exact bd55_3 ⟨sv_in (Int.le_of_eq h.symm) (Int.le_of_eq h), sv_in (Int.le_of_eq g.symm) (Int.le_of_eq g), sv_any, trivial⟩
    · exact bd56_3 ⟨sv_in (Int.le_of_eq h.symm) (Int.le_of_eq h), sv_in g (i32_rng _).2, sv_any, trivial⟩
  · rcases cls4 (xs 1) with g | g | g | g
    · exact bd63_3 ⟨sv_in h (i32_rng _).2, sv_in (i32_rng _).1 g, sv_any, trivial⟩
    · exact bd64_3 ⟨sv_in h (i32_rng _).2, sv_in (Int.le_of_eq g.symm) (Int.le_of_eq g), sv_any, trivial⟩
    · exact bd65_3 ⟨sv_in h (i32_rng _).2, sv_in (Int.le_of_eq g.symm) (Int.le_of_eq g), sv_any, trivial⟩
    · exact bd66_3 ⟨sv_in h (i32_rng _).2, sv_in g (i32_rng _).2, sv_any, trivial⟩
theorem all_4 {xs : Nat → Int32} : pLaw 4 xs := by
  rcases cls4 (xs 0) with h | h | h | h
  · rcases cls4 (xs 1) with g | g | g | g
    · exact bd33_4 ⟨sv_in (i32_rng _).1 h, sv_in (i32_rng _).1 g, sv_any, sv_any, trivial⟩
    · exact bd34_4 ⟨sv_in (i32_rng _).1 h, sv_in (Int.le_of_eq g.symm) (Int.le_of_eq g), sv_any, sv_any, trivial⟩
    · exact bd35_4 ⟨sv_in (i32_rng _).1 h, sv_in (Int.le_of_eq g.symm) (Int.le_of_eq g), sv_any, sv_any, trivial⟩
    · exact bd36_4 ⟨sv_in (i32_rng _).1 h, sv_in g (i32_rng _).2, sv_any, sv_any, trivial⟩
  · rcases cls4 (xs 1) with g | g | g | g
    · exact bd43_4 ⟨sv_in (Int.le_of_eq h.symm) (Int.le_of_eq h), sv_in (i32_rng _).1 g, sv_any, sv_any, trivial⟩
    · exact bd44_4 ⟨sv_in (Int.le_of_eq h.symm) (Int.le_of_eq h), sv_in (Int.le_of_eq g.symm) (Int.le_of_eq g), sv_any, sv_any, trivial⟩
    · exact bd45_4 ⟨sv_in (Int.le_of_eq h.symm) (Int.le_of_eq h), sv_in (Int.le_of_eq g.symm) (Int.le_of_eq g), sv_any, sv_any, trivial⟩
    · exact bd46_4 ⟨sv_in (Int.le_of_eq h.symm) (Int.le_of_eq h), sv_in g (i32_rng _).2, sv_any, sv_any, trivial⟩
  · rcases cls4 (xs 1) with g | g | g | g
    · exact bd53_4 ⟨sv_in (Int.le_of_eq h.symm) (Int.le_of_eq h), sv_in (i32_rng _).1 g, sv_any, sv_any, trivial⟩
    · exact bd54_4 ⟨sv_in (Int.le_of_eq h.symm) (Int.le_of_eq h), sv_in (Int.le_of_eq g.symm) (Int.le_of_eq g), sv_any, sv_any, trivial⟩
    · exact bd55_4 ⟨sv_in (Int.le_of_eq h.symm) (Int.le_of_eq h), sv_in (Int.le_of_eq g.symm) (Int.le_of_eq g), sv_any, sv_any, trivial⟩
    · exact bd56_4 ⟨sv_in (Int.le_of_eq h.symm) (Int.le_of_eq h), sv_in g (i32_rng _).2, sv_any, sv_any, trivial⟩
  · rcases cls4 (xs 1) with g | g | g | g
    · exact bd63_4 ⟨sv_in h (i32_rng _).2, sv_in (i32_rng _).1 g, sv_any, sv_any, trivial⟩
    · exact bd64_4 ⟨sv_in h (i32_rng _).2, sv_in (Int.le_of_eq g.symm) (Int.le_of_eq g), sv_any, sv_any, trivial⟩
    · exact bd65_4 ⟨sv_in h (i32_rng _).2, sv_in (Int.le_of_eq g.symm) (Int.le_of_eq g), sv_any, sv_any, trivial⟩
    · exact bd66_4 ⟨sv_in h (i32_rng _).2, sv_in g (i32_rng _).2, sv_any, sv_any, trivial⟩
theorem all_5 {xs : Nat → Int32} : pLaw 5 xs := by
  rcases cls4 (xs 0) with h | h | h | h
  · rcases cls4 (xs 1) with g | g | g | g
    · exact bd33_5 ⟨sv_in (i32_rng _).1 h, sv_in (i32_rng _).1 g, sv_any, sv_any, sv_any, trivial⟩
    · exact bd34_5 ⟨sv_in (i32_rng _).1 h, sv_in (Int.le_of_eq g.symm) (Int.le_of_eq g), sv_any, sv_any, sv_any, trivial⟩
    · exact bd35_5 ⟨sv_in (i32_rng _).1 h, sv_in (Int.le_of_eq g.symm) (Int.le_of_eq g), sv_any, sv_any, sv_any, trivial⟩
    · exact bd36_5 ⟨sv_in (i32_rng _).1 h, sv_in g (i32_rng _).2, sv_any, sv_any, sv_any, trivial⟩
  · rcases cls4 (xs 1) with g | g | g | g
    · exact bd43_5 ⟨sv_in (Int.le_of_eq h.symm) (Int.le_of_eq h), sv_in (i32_rng _).1 g, sv_any, sv_any, sv_any, trivial⟩
    · exact bd44_5 ⟨sv_in (Int.le_of_eq h.symm) (Int.le_of_eq h), sv_in (Int.le_of_eq g.symm) (Int.le_of_eq g), sv_any, sv_any, sv_any, trivial⟩
    · exact bd45_5 ⟨sv_in (Int.le_of_eq h.symm) (Int.le_of_eq h), sv_in (Int.le_of_eq g.symm) (Int.le_of_eq g), sv_any, sv_any, sv_any, trivial⟩
    · exact bd46_5 ⟨sv_in (Int.le_of_eq h.symm) (Int.le_of_eq h), sv_in g (i32_rng _).2, sv_any, sv_any, sv_any, trivial⟩
  · rcases cls4 (xs 1) with g | g | g | g
    · exact bd53_5 ⟨sv_in (Int.le_of_eq h.symm) (Int.le_of_eq h), sv_in (i32_rng _).1 g, sv_any, sv_any, sv_any, trivial⟩
    · exact bd54_5 ⟨sv_in (Int.le_of_eq h.symm) (Int.le_of_eq h), sv_in (Int.le_of_eq g.symm) (Int.le_of_eq g), sv_any, sv_any, sv_any, trivial⟩
    · exact bd55_5 ⟨sv_in (Int.le_of_eq h.symm) (Int.le_of_eq h), sv_in (Int.le_of_eq g.symm) (Int.le_of_eq g), sv_any, sv_any, sv_any, trivial⟩
    · exact bd56_5 ⟨sv_in (Int.le_of_eq h.symm) (Int.le_of_eq h), sv_in g (i32_rng _).2, sv_any, sv_any, sv_any, trivial⟩
  · rcases cls4 (xs 1) with g | g | g | g
    · exact bd63_5 ⟨sv_in h (i32_rng _).2, sv_in (i32_rng _).1 g, sv_any, sv_any, sv_any, trivial⟩
    · exact bd64_5 ⟨sv_in h (i32_rng _).2, sv_in (Int.le_of_eq g.symm) (Int.le_of_eq g), sv_any, sv_any, sv_any, trivial⟩
    · exact bd65_5 ⟨sv_in h (i32_rng _).2, sv_in (Int.le_of_eq g.symm) (Int.le_of_eq g), sv_any, sv_any, sv_any, trivial⟩
    · exact bd66_5 ⟨sv_in h (i32_rng _).2, sv_in g (i32_rng _).2, sv_any, sv_any, sv_any, trivial⟩
theorem all_6 {xs : Nat → Int32} : pLaw 6 xs := by
  rcases cls4 (xs 0) with h | h | h | h
  · rcases cls4 (xs 1) with g | g | g | g
    · exact bd33_6 ⟨sv_in (i32_rng _).1 h, sv_in (i32_rng _).1 g, sv_any, sv_any, sv_any, sv_any, trivial⟩
    · exact bd34_6 ⟨sv_in (i32_rng _).1 h, sv_in (Int.le_of_eq g.symm) (Int.le_of_eq g), sv_any, sv_any, sv_any, sv_any, trivial⟩
    · exact bd35_6 ⟨sv_in (i32_rng _).1 h, sv_in (Int.le_of_eq g.symm) (Int.le_of_eq g), sv_any, sv_any, sv_any, sv_any, trivial⟩
    · exact bd36_6 ⟨sv_in (i32_rng _).1 h, sv_in g (i32_rng _).2, sv_any, sv_any, sv_any, sv_any, trivial⟩
  · rcases cls4 (xs 1) with g | g | g | g
    · exact bd43_6 ⟨sv_in (Int.le_of_eq h.symm) (Int.le_of_eq h), sv_in (i32_rng _).1 g, sv_any, sv_any, sv_any, sv_any, trivial⟩
    · exact bd44_6 ⟨sv_in (Int.le_of_eq h.symm) (Int.le_of_eq h), sv_in (Int.le_of_eq g.symm) (Int.le_of_eq g), sv_any, sv_any, sv_any, sv_any, trivial⟩
    · exact bd45_6 ⟨sv_in (Int.le_of_eq h.symm) (Int.le_of_eq h), sv_in (Int.le_of_eq g.symm) (Int.le_of_eq g), sv_any, sv_any, sv_any, sv_any, trivial⟩
    · exact bd46_6 ⟨sv_in (Int.le_of_eq h.symm) (Int.le_of_eq h), sv_in g (i32_rng _).2, sv_any, sv_any, sv_any, sv_any, trivial⟩
  · rcases cls4 (xs 1) with g | g | g | g
    · exact bd53_6 ⟨sv_in (Int.le_of_eq h.symm) (Int.le_of_eq h), sv_in (i32_rng _).1 g, sv_any, sv_any, sv_any, sv_any, trivial⟩
    · exact bd54_6 ⟨sv_in (Int.le_of_eq h.symm) (Int.le_of_eq h), sv_in (Int.le_of_eq g.symm) (Int.le_of_eq g), sv_any, sv_any, sv_any, sv_any, trivial⟩
    · exact bd55_6 ⟨sv_in (Int.le_of_eq h.symm) (Int.le_of_eq h), sv_in (Int.le_of_eq g.symm) (Int.le_of_eq g), sv_any, sv_any, sv_any, sv_any, trivial⟩
    · exact bd56_6 ⟨sv_in (Int.le_of_eq h.symm) (Int.le_of_eq h), sv_in g (i32_rng _).2, sv_any, sv_any, sv_any, sv_any, trivial⟩
  · rcases cls4 (xs 1) with g | g | g | g
    · exact bd63_6 ⟨sv_in h (i32_rng _).2, sv_in (i32_rng _).1 g, sv_any, sv_any, sv_any, sv_any, trivial⟩
    · exact bd64_6 ⟨sv_in h (i32_rng _).2, sv_in (Int.le_of_eq g.symm) (Int.le_of_eq g), sv_any, sv_any, sv_any, sv_any, trivial⟩
    · exact bd65_6 ⟨sv_in h (i32_rng _).2, sv_in (Int.le_of_eq g.symm) (Int.le_of_eq g), sv_any, sv_any, sv_any, sv_any, trivial⟩
    · exact bd66_6 ⟨sv_in h (i32_rng _).2, sv_in g (i32_rng _).2, sv_any, sv_any, sv_any, sv_any, trivial⟩
theorem all_7 {xs : Nat → Int32} : pLaw 7 xs := by
  rcases cls4 (xs 0) with h | h | h | h
  · rcases cls4 (xs 1) with g | g | g | g
    · exact bd33_7 ⟨sv_in (i32_rng _).1 h, sv_in (i32_rng _).1 g, sv_any, sv_any, sv_any, sv_any, sv_any, trivial⟩
    · exact bd34_7 ⟨sv_in (i32_rng _).1 h, sv_in (Int.le_of_eq g.symm) (Int.le_of_eq g), sv_any, sv_any, sv_any, sv_any, sv_any, trivial⟩
    · exact bd35_7 ⟨sv_in (i32_rng _).1 h, sv_in (Int.le_of_eq g.symm) (Int.le_of_eq g), sv_any, sv_any, sv_any, sv_any, sv_any, trivial⟩
    · exact bd36_7 ⟨sv_in (i32_rng _).1 h, sv_in g (i32_rng _).2, sv_any, sv_any, sv_any, sv_any, sv_any, trivial⟩
  · rcases cls4 (xs 1) with g | g | g | g
    · exact bd43_7 ⟨sv_in (Int.le_of_eq h.symm) (Int.le_of_eq h), sv_in (i32_rng _).1 g, sv_any, sv_any, sv_any, sv_any, sv_any, trivial⟩
    · exact bd44_7 ⟨sv_in (Int.le_of_eq h.symm) (Int.le_of_eq h), sv_in (Int.le_of_eq g.symm) (Int.le_of_eq g), sv_any, sv_any, sv_any, sv_any, sv_any, trivial⟩
    · exact bd45_7 ⟨sv_in (Int.le_of_eq h.symm) (Int.le_of_eq h), sv_in (Int.le_of_eq g.symm) (Int.le_of_eq g), sv_any, sv_any, sv_any, sv_any, sv_any, trivial⟩
    · exact bd46_7 ⟨sv_in (Int.le_of_eq h.symm) (Int.le_of_eq h), sv_in g (i32_rng _).2, sv_any, sv_any, sv_any, sv_any, sv_any, trivial⟩
  · rcases cls4 (xs 1) with g | g | g | g
    · exact bd53_7 ⟨sv_in (Int.le_of_eq h.symm) (Int.le_of_eq h), sv_in (i32_rng _).1 g, sv_any, sv_any, sv_any, sv_any, sv_any, trivial⟩
    · exact bd54_7 ⟨sv_in (Int.le_of_eq h.symm) (Int.le_of_eq h), sv_in (Int.le_of_eq g.symm) (Int.le_of_eq g), sv_any, sv_any, sv_any, sv_any, sv_any, trivial⟩
    · exact bd55_7 ⟨sv_in (Int.le_of_eq h.symm) (Int.le_of_eq h), sv_in (Int.le_of_eq g.symm) (Int.le_of_eq g), sv_any, sv_any, sv_any, sv_any, sv_any, trivial⟩
    · exact bd56_7 ⟨sv_in (Int.le_of_eq h.symm) (Int.le_of_eq h), sv_in g (i32_rng _).2, sv_any, sv_any, sv_any, sv_any, sv_any, trivial⟩
  · rcases cls4 (xs 1) with g | g | g | g
    · exact bd63_7 ⟨sv_in h (i32_rng _).2, sv_in (i32_rng _).1 g, sv_any, sv_any, sv_any, sv_any, sv_any, trivial⟩
    · exact bd64_7 ⟨sv_in h (i32_rng _).2, sv_in (Int.le_of_eq g.symm) (Int.le_of_eq g), sv_any, sv_any, sv_any, sv_any, sv_any, trivial⟩
    · exact bd65_7 ⟨sv_in h (i32_rng _).2, sv_in (Int.le_of_eq g.symm) (Int.le_of_eq g), sv_any, sv_any, sv_any, sv_any, sv_any, trivial⟩
    · exact bd66_7 ⟨sv_in h (i32_rng _).2, sv_in g (i32_rng _).2, sv_any, sv_any, sv_any, sv_any, sv_any, trivial⟩
theorem all_8 {xs : Nat → Int32} : pLaw 8 xs := by
  rcases cls4 (xs 0) with h | h | h | h
  · rcases cls4 (xs 1) with g | g | g | g
    · exact bd33_8 ⟨sv_in (i32_rng _).1 h, sv_in (i32_rng _).1 g, sv_any, sv_any, sv_any, sv_any, sv_any, sv_any, trivial⟩
    · exact bd34_8 ⟨sv_in (i32_rng _).1 h, sv_in (Int.le_of_eq g.symm) (Int.le_of_eq g), sv_any, sv_any, sv_any, sv_any, sv_any, sv_any, trivial⟩
    · exact bd35_8 ⟨sv_in (i32_rng _).1 h, sv_in (Int.le_of_eq g.symm) (Int.le_of_eq g), sv_any, sv_any, sv_any, sv_any, sv_any, sv_any, trivial⟩
    · exact bd36_8 ⟨sv_in (i32_rng _).1 h, sv_in g (i32_rng _).2, sv_any, sv_any, sv_any, sv_any, sv_any, sv_any, trivial⟩
  · rcases cls4 (xs 1) with g | g | g | g
    · exact bd43_8 ⟨sv_in (Int.le_of_eq h.symm) (Int.le_of_eq h), sv_in (i32_rng _).1 g, sv_any, sv_any, sv_any, sv_any, sv_any, sv_any, trivial⟩
    · exact bd44_8 ⟨sv_in (Int.le_of_eq h.symm) (Int.le_of_eq h), sv_in (Int.le_of_eq g.symm) (Int.le_of_eq g), sv_any, sv_any, sv_any, sv_any, sv_any, sv_any, trivial⟩
    · exact bd45_8 ⟨sv_in (Int.le_of_eq h.symm) (Int.le_of_eq h), sv_in (Int.le_of_eq g.symm) (Int.le_of_eq g), sv_any, sv_any, sv_any, sv_any, sv_any, sv_any, trivial⟩
    · exact bd46_8 ⟨sv_in (Int.le_of_eq h.symm) (Int.le_of_eq h), sv_in g (i32_rng _).2, sv_any, sv_any, sv_any, sv_any, sv_any, sv_any, trivial⟩
  · rcases cls4 (xs 1) with g | g | g | g
    · exact bd53_8 ⟨sv_in (Int.le_of_eq h.symm) (Int.le_of_eq h), sv_in (i32_rng _).1 g, sv_any, sv_any, sv_any, sv_any, sv_any, sv_any, trivial⟩
    · exact bd54_8 ⟨sv_in (Int.le_of_eq h.symm) (Int.le_of_eq h), sv_in (Int.le_of_eq g.symm) (Int.le_of_eq g), sv_any, sv_any, sv_any, sv_any, sv_any, sv_any, trivial⟩
    · exact bd55_8 ⟨sv_in (Int.le_of_eq h.symm) (Int.le_of_eq h), sv_in (Int.le_of_eq g.symm) (Int.le_of_eq g), sv_any, sv_any, sv_any, sv_any, sv_any, sv_any, trivial⟩
    · exact bd56_8 ⟨sv_in (Int.le_of_eq h.symm) (Int.le_of_eq h), sv_in g (i32_rng _).2, sv_any, sv_any, sv_any, sv_any, sv_any, sv_any, trivial⟩
  · rcases cls4 (xs 1) with g | g | g | g
    · exact bd63_8 ⟨sv_in h (i32_rng _).2, sv_in (i32_rng _).1 g, sv_any, sv_any, sv_any, sv_any, sv_any, sv_any, trivial⟩
    · exact bd64_8 ⟨sv_in h (i32_rng _).2, sv_in (Int.le_of_eq g.symm) (Int.le_of_eq g), sv_any, sv_any, sv_any, sv_any, sv_any, sv_any, trivial⟩
    · exact bd65_8 ⟨sv_in h (i32_rng _).2, sv_in (Int.le_of_eq g.symm) (Int.le_of_eq g), sv_any, sv_any, sv_any, sv_any, sv_any, sv_any, trivial⟩
    · exact bd66_8 ⟨sv_in h (i32_rng _).2, sv_in g (i32_rng _).2, sv_any, sv_any, sv_any, sv_any, sv_any, sv_any, trivial⟩
theorem all_ok {L : Nat} {xs : Nat → Int32} (hL : L ≤ 8) : pLaw L xs := by
  match L, hL with
  | 0, _ => exact all_0
  | 1, _ => exact all_1
  | 2, _ => exact all_2
  | 3, _ => exact all_3
  | 4, _ => exact all_4
  | 5, _ => exact all_5
  | 6, _ => exact all_6
  | 7, _ => exact all_7
  | 8, _ => exact all_8
  | L + 9, hL => omega

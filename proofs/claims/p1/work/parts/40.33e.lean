noncomputable def kc33_43 : fCn := ([(1, Int.ofNat 0, Int.ofNat 0, [185]), (0, Int.ofNat 3, Int.ofNat 3, [])], [(0, Int.ofNat 0, Int.ofNat 0, [])], (some [185, 191, 194]), [((186, 20), Int.ofNat 0), ((186, 21), Int.ofNat 20), ((186, 22), Int.ofNat 0), ((186, 0), Int.ofNat 0), ((186, 1), Int.ofNat 0)], [((185, 39), Int.ofNat 1)])
theorem kn33_43 {S : pScr} : cnOk tB33 S 371 266 kc33_43 := con_ok (f := 1000000) (d := 370) (cs := []) (sp := []) (n := 0) tB33_t ko33_42 rfl (by decide +kernel)
noncomputable def kt33_43 : List (Nat × fCn) := (266, kc33_43) :: kt33_42
theorem ko33_43 {S : pScr} : tabOk tB33 S 371 kt33_43 := tab_cons ko33_42 kn33_43 (by decide)

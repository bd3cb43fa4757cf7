noncomputable def kc33_42 : fCn := ([(1, Int.ofNat 0, Int.ofNat 0, [184]), (0, Int.ofNat 3, Int.ofNat 3, [])], [(0, Int.ofNat 0, Int.ofNat 0, [])], (some []), [((9, 0), Int.ofNat 0), ((9, 1), Int.ofNat 20), ((9, 3), Int.ofNat 0), ((134, 0), Int.ofNat 0), ((134, 1), Int.ofNat 0), ((134, 5), Int.ofNat 0), ((2, 10), Int.ofNat 0)], [])
theorem kn33_42 {S : pScr} : cnOk tB33 S 362 35 kc33_42 := con_ok (f := 1000000) (d := 361) (cs := []) (sp := []) (n := 0) tB33_t ko33_41 rfl (by decide +kernel)
noncomputable def kt33_42 : List (Nat × fCn) := (35, kc33_42) :: kt33_41
theorem ko33_42 {S : pScr} : tabOk tB33 S 362 kt33_42 := tab_cons ko33_41 kn33_42 (by decide)

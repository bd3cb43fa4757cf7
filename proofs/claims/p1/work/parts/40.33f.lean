noncomputable def kc33_44 : fCn := ([(1, Int.ofNat 0, Int.ofNat 0, [185]), (0, Int.ofNat 3, Int.ofNat 3, [])], [(0, Int.ofNat 0, Int.ofNat 0, [])], (some [186, 191, 194, 195, 196, 197, 204]), [((186, 20), Int.ofNat 0), ((186, 21), Int.ofNat 20), ((186, 22), Int.ofNat 0), ((186, 0), Int.ofNat 0), ((186, 1), Int.ofNat 0), ((186, 4), Int.ofNat 0), ((186, 180), Int.ofNat 0), ((186, 181), Int.ofNat 0), ((186, 182), Int.ofNat 0)], [])
theorem kn33_44 {S : pScr} : cnOk tB33 S 380 268 kc33_44 := con_ok (f := 1000000) (d := 379) (cs := []) (sp := []) (n := 0) tB33_t ko33_43 rfl (by decide +kernel)
noncomputable def kt33_44 : List (Nat × fCn) := (268, kc33_44) :: kt33_43
theorem ko33_44 {S : pScr} : tabOk tB33 S 380 kt33_44 := tab_cons ko33_43 kn33_44 (by decide)

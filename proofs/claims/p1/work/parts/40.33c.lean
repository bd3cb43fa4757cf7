noncomputable def kc33_32 : fCn := ([(1, Int.ofNat 0, Int.ofNat 0, [185]), (0, Int.negSucc 0, Int.negSucc 0, [])], [(0, Int.ofNat 9, Int.ofNat 9, [])], (some [191, 194, 197]), [((186, 20), Int.ofNat 0), ((186, 0), Int.ofNat 0), ((186, 1), Int.ofNat 0)], [])
theorem kn33_32 {S : pScr} : cnOk tB33 S 272 270 kc33_32 := con_ok (f := 1000000) (d := 271) (cs := []) (sp := []) (n := 0) tB33_t kLo33 rfl (by decide +kernel)
noncomputable def kt33_32 : List (Nat × fCn) := (270, kc33_32) :: kL33
theorem ko33_32 {S : pScr} : tabOk tB33 S 272 kt33_32 := tab_cons kLo33 kn33_32 (by decide)
noncomputable def kc33_33 : fCn := ([(1, Int.ofNat 0, Int.ofNat 0, [184]), (0, Int.ofNat 1, Int.ofNat 1, [])], [], (some [184]), [((9, 0), Int.ofNat 0), ((9, 1), Int.ofNat 20), ((9, 3), Int.ofNat 0), ((134, 0), Int.ofNat 0)], [((184, 4), Int.ofNat 0), ((184, 5), Int.ofNat 1)])
theorem kn33_33 {S : pScr} : cnOk tB33 S 281 31 kc33_33 := con_ok (f := 1000000) (d := 280) (cs := []) (sp := []) (n := 0) tB33_t ko33_32 rfl (by decide +kernel)
noncomputable def kt33_33 : List (Nat × fCn) := (31, kc33_33) :: kt33_32
theorem ko33_33 {S : pScr} : tabOk tB33 S 281 kt33_33 := tab_cons ko33_32 kn33_33 (by decide)
noncomputable def kc33_34 : fCn := ([(1, Int.ofNat 0, Int.ofNat 0, [184]), (0, Int.ofNat 1, Int.ofNat 1, [])], [(0, Int.ofNat 0, Int.ofNat 0, [])], (some []), [((9, 0), Int.ofNat 0), ((9, 1), Int.ofNat 20), ((9, 3), Int.ofNat 0), ((134, 0), Int.ofNat 0), ((2, 10), Int.ofNat 0)], [])
theorem kn33_34 {S : pScr} : cnOk tB33 S 290 35 kc33_34 := con_ok (f := 1000000) (d := 289) (cs := []) (sp := []) (n := 0) tB33_t ko33_33 rfl (by decide +kernel)
noncomputable def kt33_34 : List (Nat × fCn) := (35, kc33_34) :: kt33_33
theorem ko33_34 {S : pScr} : tabOk tB33 S 290 kt33_34 := tab_cons ko33_33 kn33_34 (by decide)
noncomputable def kc33_35 : fCn := ([(1, Int.ofNat 0, Int.ofNat 0, [185]), (0, Int.ofNat 1, Int.ofNat 1, [])], [(0, Int.ofNat 0, Int.ofNat 0, [])], (some [185, 191, 194]), [((186, 20), Int.ofNat 0), ((186, 21), Int.ofNat 20), ((186, 22), Int.ofNat 0), ((186, 0), Int.ofNat 0), ((186, 1), Int.ofNat 0)], [((185, 39), Int.ofNat 1)])
theorem kn33_35 {S : pScr} : cnOk tB33 S 299 266 kc33_35 := con_ok (f := 1000000) (d := 298) (cs := []) (sp := []) (n := 0) tB33_t ko33_34 rfl (by decide +kernel)
noncomputable def kt33_35 : List (Nat × fCn) := (266, kc33_35) :: kt33_34
theorem ko33_35 {S : pScr} : tabOk tB33 S 299 kt33_35 := tab_cons ko33_34 kn33_35 (by decide)
noncomputable def kc33_36 : fCn := ([(1, Int.ofNat 0, Int.ofNat 0, [185]), (0, Int.ofNat 1, Int.ofNat 1, [])], [(0, Int.ofNat 0, Int.ofNat 0, [])], (some [186, 191, 194, 195, 196, 197, 204]), [((186, 20), Int.ofNat 0), ((186, 21), Int.ofNat 20), ((186, 22), Int.ofNat 0), ((186, 0), Int.ofNat 0), ((186, 1), Int.ofNat 0), ((186, 4), Int.ofNat 0), ((186, 180), Int.ofNat 0), ((186, 181), Int.ofNat 0), ((186, 182), Int.ofNat 0)], [])
theorem kn33_36 {S : pScr} : cnOk tB33 S 308 268 kc33_36 := con_ok (f := 1000000) (d := 307) (cs := []) (sp := []) (n := 0) tB33_t ko33_35 rfl (by decide +kernel)
noncomputable def kt33_36 : List (Nat × fCn) := (268, kc33_36) :: kt33_35
theorem ko33_36 {S : pScr} : tabOk tB33 S 308 kt33_36 := tab_cons ko33_35 kn33_36 (by decide)
noncomputable def kc33_37 : fCn := ([(1, Int.ofNat 0, Int.ofNat 0, [184]), (0, Int.ofNat 2, Int.ofNat 2, [])], [], (some [184]), [((9, 0), Int.ofNat 0), ((9, 1), Int.ofNat 20), ((9, 3), Int.ofNat 0), ((134, 0), Int.ofNat 0), ((134, 1), Int.ofNat 0)], [((184, 4), Int.ofNat 0), ((184, 5), Int.ofNat 1)])
theorem kn33_37 {S : pScr} : cnOk tB33 S 317 31 kc33_37 := con_ok (f := 1000000) (d := 316) (cs := []) (sp := []) (n := 0) tB33_t ko33_36 rfl (by decide +kernel)
noncomputable def kt33_37 : List (Nat × fCn) := (31, kc33_37) :: kt33_36
theorem ko33_37 {S : pScr} : tabOk tB33 S 317 kt33_37 := tab_cons ko33_36 kn33_37 (by decide)
noncomputable def kc33_38 : fCn := ([(1, Int.ofNat 0, Int.ofNat 0, [184]), (0, Int.ofNat 2, Int.ofNat 2, [])], [(0, Int.ofNat 0, Int.ofNat 0, [])], (some []), [((9, 0), Int.ofNat 0), ((9, 1), Int.ofNat 20), ((9, 3), Int.ofNat 0), ((134, 0), Int.ofNat 0), ((134, 1), Int.ofNat 0), ((2, 10), Int.ofNat 0)], [])
theorem kn33_38 {S : pScr} : cnOk tB33 S 326 35 kc33_38 := con_ok (f := 1000000) (d := 325) (cs := []) (sp := []) (n := 0) tB33_t ko33_37 rfl (by decide +kernel)
noncomputable def kt33_38 : List (Nat × fCn) := (35, kc33_38) :: kt33_37
theorem ko33_38 {S : pScr} : tabOk tB33 S 326 kt33_38 := tab_cons ko33_37 kn33_38 (by decide)
noncomputable def kc33_39 : fCn := ([(1, Int.ofNat 0, Int.ofNat 0, [185]), (0, Int.ofNat 2, Int.ofNat 2, [])], [(0, Int.ofNat 0, Int.ofNat 0, [])], (some [185, 191, 194]), [((186, 20), Int.ofNat 0), ((186, 21), Int.ofNat 20), ((186, 22), Int.ofNat 0), ((186, 0), Int.ofNat 0), ((186, 1), Int.ofNat 0)], [((185, 39), Int.ofNat 1)])
theorem kn33_39 {S : pScr} : cnOk tB33 S 335 266 kc33_39 := con_ok (f := 1000000) (d := 334) (cs := []) (sp := []) (n := 0) tB33_t ko33_38 rfl (by decide +kernel)
noncomputable def kt33_39 : List (Nat × fCn) := (266, kc33_39) :: kt33_38
theorem ko33_39 {S : pScr} : tabOk tB33 S 335 kt33_39 := tab_cons ko33_38 kn33_39 (by decide)
noncomputable def kc33_40 : fCn := ([(1, Int.ofNat 0, Int.ofNat 0, [185]), (0, Int.ofNat 2, Int.ofNat 2, [])], [(0, Int.ofNat 0, Int.ofNat 0, [])], (some [186, 191, 194, 195, 196, 197, 204]), [((186, 20), Int.ofNat 0), ((186, 21), Int.ofNat 20), ((186, 22), Int.ofNat 0), ((186, 0), Int.ofNat 0), ((186, 1), Int.ofNat 0), ((186, 4), Int.ofNat 0), ((186, 180), Int.ofNat 0), ((186, 181), Int.ofNat 0), ((186, 182), Int.ofNat 0)], [])
theorem kn33_40 {S : pScr} : cnOk tB33 S 344 268 kc33_40 := con_ok (f := 1000000) (d := 343) (cs := []) (sp := []) (n := 0) tB33_t ko33_39 rfl (by decide +kernel)
noncomputable def kt33_40 : List (Nat × fCn) := (268, kc33_40) :: kt33_39
theorem ko33_40 {S : pScr} : tabOk tB33 S 344 kt33_40 := tab_cons ko33_39 kn33_40 (by decide)
noncomputable def kc33_41 : fCn := ([(1, Int.ofNat 0, Int.ofNat 0, [184]), (0, Int.ofNat 3, Int.ofNat 3, [])], [], (some [184]), [((9, 0), Int.ofNat 0), ((9, 1), Int.ofNat 20), ((9, 3), Int.ofNat 0), ((134, 0), Int.ofNat 0), ((134, 1), Int.ofNat 0), ((134, 5), Int.ofNat 0)], [((184, 4), Int.ofNat 0), ((184, 5), Int.ofNat 1)])
theorem kn33_41 {S : pScr} : cnOk tB33 S 353 31 kc33_41 := con_ok (f := 1000000) (d := 352) (cs := []) (sp := []) (n := 0) tB33_t ko33_40 rfl (by decide +kernel)
noncomputable def kt33_41 : List (Nat × fCn) := (31, kc33_41) :: kt33_40
theorem ko33_41 {S : pScr} : tabOk tB33 S 353 kt33_41 := tab_cons ko33_40 kn33_41 (by decide)

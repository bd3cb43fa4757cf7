/-! nextToken by hand, printed by wip/gen/gen39.py -/
def NF (M0 M : pMem) : Prop := (∀ o, o ≠ 185 → M o = M0 o) ∧ ∀ f, (f < 10 ∨ 14 < f) → M 185 f = M0 185 f
theorem NF_up {M0 M : pMem} {k : Nat} {v : Value} (h : NF M0 M) (hk : 10 ≤ k ∧ k ≤ 14) : NF M0 (pUp M 185 k v) := ⟨fun o ho => by rw [pUp_ne ho]; exact h.1 o ho, fun f hf => by rw [pUp_other _ _ _ _ (fun z => by omega)]; exact h.2 f hf⟩
def NP (τ : fT) (a : Nat) (M0 M : pMem) : Prop := tyM (tOf τ) M ∧ NF M0 M ∧ ∃ (at' : Nat) (tok : Int32), M 185 10 = .int (nI at') ∧ M 185 12 = .int tok ∧ a ≤ at' ∧ at' ≤ 300 ∧ (tok.toInt ≠ 0 → a + 1 ≤ at')
abbrev nK (S : pScr) (d : Nat) (Q : Option Value → pHp → Prop) (σ : pSt) : Prop := pOk S 12 false 3 (pCode 180) d (fun i len τ' => ∃ v, pRet none i len τ'.2.2.1 = some v ∧ Q v (τ'.2.2.2.1, τ'.2.2.2.2)) σ
theorem btA_det {M : pMem} {tp k : Nat} {x y : Int32} (h1 : btA M tp k x) (h2 : btA M tp k y) : x = y := by
  rcases h1 with ⟨a1, a2⟩ | ⟨a1, a2⟩ <;> rcases h2 with ⟨b1, b2⟩ | ⟨b1, b2⟩
  · rw [a2] at b2
    cases b2
    rfl
  · omega
  · omega
  · rw [a2, b2]
theorem mI_int : mI.toInt = -1 := by decide
theorem bt_ex {τ : fT} {M : pMem} {tp k : Nat} (hT : pT τ) (hM : tyM (tOf τ) M) (htp : tp ≤ 300) : (∃ b : Nat, b ≤ 255 ∧ k < tp ∧ btA M tp k (nI b)) ∨ (tp ≤ k ∧ btA M tp k mI) := by
  by_cases h : k < tp
  · obtain ⟨n, h1, h2⟩ := pt189 hT hM (k := k) (by omega)
    exact Or.inl ⟨n, h1, h, Or.inl ⟨h, h2⟩⟩
  · exact Or.inr ⟨by omega, Or.inr ⟨by omega, rfl⟩⟩
theorem btA_nf {M0 M : pMem} {tp k : Nat} {x : Int32} (hN : NF M0 M) (h : btA M tp k x) : btA M0 tp k x := by
  unfold btA at h ⊢
  rw [hN.1 189 (by decide)] at h
  exact h
theorem sat_l (z : Int64) : satE eL (.long z) := ⟨z, rfl, by have := z.minValue_le_toInt; show (-9223372036854775808 : Int) ≤ z.toInt; exact this, by have := z.toInt_lt; show z.toInt ≤ (9223372036854775807 : Int); omega⟩
theorem ptw {τ : fT} {M : pMem} (hT : pT τ) (hM : tyM (tOf τ) M) (z : Int64) : tyM (tOf τ) (pUp M 185 14 (.long z)) := tyM_up hM (by rw [tyAt_row hT.1]; exact hT.2.2.1) (sat_l z)
theorem ptl {τ : fT} {M : pMem} (hT : pT τ) (hM : tyM (tOf τ) M) : ∃ z, M 185 14 = .long z := by
  obtain ⟨z, h, -⟩ := hM 185 14 eL (by decide) (by rw [tyAt_row hT.1]; exact hT.2.2.1)
  exact ⟨z, h⟩
section NTK
variable {S : pScr} {d a tp : Nat} {τ : fT} {M0 : pMem} {Q : Option Value → pHp → Prop}
theorem nt_d (hT : pT τ) (h7 : M0 185 7 = .int (nI tp)) (h6 : M0 185 6 = .ref 189) (htp : tp ≤ 300) (hQ : ∀ M, NP τ a M0 M → Q none (gSh, M)) (x0 : Int32) : ∀ (n at' : Nat) (M : pMem), 300 - at' = n → at' ≤ 300 → tyM (tOf τ) M → NF M0 M → M 185 10 = .int (nI at') → M 185 12 = .int (nI 1) → a ≤ at' → (a + 1 ≤ at' ∨ ∃ x, btA M tp at' x ∧ (48 : Nat) ≤ x.toInt ∧ x.toInt ≤ (57 : Nat)) → nK S (d + 3) Q (85, [(1, .int x0), (0, .ref 185)], [], gSh, M) := by
  intro n
  induction n using Nat.strongRecOn with
  | _ n ih =>
  intro at' M hn hat hM hN h10 h12 ha hor
  have g7 : M 185 7 = .int (nI tp) := by rw [hN.2 7 (by omega)]; exact h7
  have g6 : M 185 6 = .ref 189 := by rw [hN.2 6 (by omega)]; exact h6
  obtain ⟨nb, hnb, h13⟩ := ty_nat (pty hT hM 9 rfl rfl)
  rcases bt_ex (k := at') hT hM htp with ⟨b, hb1, hb2, hb⟩ | ⟨hb2, hb⟩
  · refine ok_seq 3 (σ' := (90, [(1, .int x0), (0, .ref 185)], [M 185 10, .ref 185], gSh, M)) rfl ?_
    rw [h10]
    refine ok_call (mi := 177) (as := [.ref 185, .int (nI (at'))]) (pc' := 93) (L' := [(1, .int x0), (0, .ref 185)]) (st' := []) (sh' := gSh) (M' := M) (i := .invokevirtual 122) (len := 3) rfl rfl ?_
    refine (c_byteAt (k := at') (tp := tp) (M := M) (by first | exact g7 | (show M 185 7 = _; exact g7)) (by first | exact g6 | (show M 185 6 = _; exact g6)) htp (by omega) (show btA M tp (at') (nI b) from hb)).mono ?_
    rintro v hp ⟨rfl, rfl⟩
    refine ok_call (mi := 179) (as := [.int (nI b)]) (pc' := 96) (L' := [(1, .int x0), (0, .ref 185)]) (st' := []) (sh' := gSh) (M' := M) (i := .invokestatic 132) (len := 3) rfl rfl ?_
    refine (c_isDigit (d := d + 1)).mono ?_
    rintro v hp ⟨hv, rfl⟩
    rcases hv with ⟨rfl, k1, k2⟩ | ⟨rfl, k1⟩
    · rw [hI_int (a := b) (by omega)] at k1 k2
      refine ok_if 390 rfl rfl (fun hz => absurd hz (by simp only [pCP]; rw [hI_int (a := 1) (by omega)]; omega)) (fun _ => ?_)
      refine ok_seq 2 (σ' := (103, [(1, .int x0), (0, .ref 185)], [M 185 13], gSh, M)) rfl ?_
      rw [h13]
      refine ok_seq 1 (σ' := (105, [(1, .int x0), (0, .ref 185)], [.int ((100000 : Int32)), .int (nI nb)], gSh, M)) rfl ?_
      have e9 : (100000 : Int32).toInt = 100000 := by decide
      refine ok_icmp 131 rfl rfl ?_ ?_
      · intro _
        refine ok_seq 3 (σ' := (136, [(1, .int x0), (0, .ref 185)], [M 185 10, .ref 185], gSh, M)) rfl ?_
        rw [h10]
        refine ok_seq 2 (σ' := (138, [(1, .int x0), (0, .ref 185)], [.int ((nI (at')) + (Int32.ofInt 1)), .ref 185], gSh, M)) rfl ?_
        rw [cI_1, hI_add (at') 1]
        refine ok_put (q := 119) (ci := 12) (k := 10) (n := 47) (ty := .int) rfl rfl rfl rfl rfl rfl (fi_int _) ?_
        refine ok_seq 1 (σ' := (85, [(1, .int x0), (0, .ref 185)], [], gSh, pUp M 185 10 (.int (nI ((at') + 1))))) rfl ?_
        refine ih (300 - (at' + 1)) (by omega) (at' + 1) _ rfl (by omega) (ptu hT hM 6 rfl (sat_n (by omega) (by omega))) (NF_up hN (by omega)) (pUp_self _ _ _ _) ?_ (by omega) (Or.inl (by omega))
        exact h12
      · intro hz
        simp only [pCP] at hz
        rw [hI_int (a := nb) (by omega), e9] at hz
        refine ok_seq 4 (σ' := (115, [(1, .int x0), (0, .ref 185)], [M 185 13, .int ((Int8.ofInt 10).toInt32), .ref 185], gSh, M)) rfl ?_
        rw [h13]
        rw [(show (Int8.ofInt 10).toInt32 = nI 10 by decide)]
        refine ok_seq 4 (σ' := (121, [(1, .int x0), (0, .ref 185)], [M 185 10, .ref 185, .int ((nI 10) * (nI nb)), .ref 185], gSh, M)) rfl ?_
        rw [h10]
        rw [hI_mul 10 nb]
        refine ok_call (mi := 177) (as := [.ref 185, .int (nI (at'))]) (pc' := 124) (L' := [(1, .int x0), (0, .ref 185)]) (st' := [.int (nI (10 * nb)), .ref 185]) (sh' := gSh) (M' := M) (i := .invokevirtual 122) (len := 3) rfl rfl ?_
        refine (c_byteAt (k := at') (tp := tp) (M := M) (by first | exact g7 | (show M 185 7 = _; exact g7)) (by first | exact g6 | (show M 185 6 = _; exact g6)) htp (by omega) (show btA M tp (at') (nI b) from hb)).mono ?_
        rintro v hp ⟨rfl, rfl⟩
        refine ok_seq 3 (σ' := (128, [(1, .int x0), (0, .ref 185)], [.int (((nI (10 * nb)) + (nI b)) - ((Int8.ofInt 48).toInt32)), .ref 185], gSh, M)) rfl ?_
        rw [hI_add (10 * nb) b, (show (Int8.ofInt 48).toInt32 = nI 48 by decide), hI_sub ((10 * nb) + b) 48 (by omega)]
        refine ok_put (q := 135) (ci := 12) (k := 13) (n := 47) (ty := .int) rfl rfl rfl rfl rfl rfl (fi_int _) ?_
        refine ok_seq 3 (σ' := (136, [(1, .int x0), (0, .ref 185)], [M 185 10, .ref 185], gSh, pUp M 185 13 (.int (nI (((10 * nb) + b) - 48))))) rfl ?_
        rw [h10]
        refine ok_seq 2 (σ' := (138, [(1, .int x0), (0, .ref 185)], [.int ((nI (at')) + (Int32.ofInt 1)), .ref 185], gSh, pUp M 185 13 (.int (nI (((10 * nb) + b) - 48))))) rfl ?_
        rw [cI_1, hI_add (at') 1]
        refine ok_put (q := 119) (ci := 12) (k := 10) (n := 47) (ty := .int) rfl rfl rfl rfl rfl rfl (fi_int _) ?_
        refine ok_seq 1 (σ' := (85, [(1, .int x0), (0, .ref 185)], [], gSh, pUp (pUp M 185 13 (.int (nI (((10 * nb) + b) - 48)))) 185 10 (.int (nI ((at') + 1))))) rfl ?_
        refine ih (300 - (at' + 1)) (by omega) (at' + 1) _ rfl (by omega) (ptu hT (ptu hT hM 9 rfl (sat_n (by omega) (by omega))) 6 rfl (sat_n (by omega) (by omega))) (NF_up (NF_up hN (by omega)) (by omega)) (pUp_self _ _ _ _) ?_ (by omega) (Or.inl (by omega))
        exact h12
    · rw [hI_int (a := b) (by omega)] at k1
      refine ok_if 390 rfl rfl (fun _ => ?_) (fun hz => absurd (by simp only [pCP]; rw [hI_int (a := 0) (by omega)]; omega) hz)
      refine ok_ret (i := .return_) (len := 1) rfl rfl ⟨none, rfl, hQ _ ⟨hM, hN, at', nI 1, h10, h12, ha, hat, fun _ => ?_⟩⟩
      rcases hor with hor | ⟨x, hx, hx1, hx2⟩
      · exact hor
      · rw [btA_det hx hb, hI_int (a := b) (by omega)] at hx1 hx2
        exact absurd ⟨hx1, hx2⟩ k1
  · refine ok_seq 3 (σ' := (90, [(1, .int x0), (0, .ref 185)], [M 185 10, .ref 185], gSh, M)) rfl ?_
    rw [h10]
    refine ok_call (mi := 177) (as := [.ref 185, .int (nI (at'))]) (pc' := 93) (L' := [(1, .int x0), (0, .ref 185)]) (st' := []) (sh' := gSh) (M' := M) (i := .invokevirtual 122) (len := 3) rfl rfl ?_
    refine (c_byteAt (k := at') (tp := tp) (M := M) (by first | exact g7 | (show M 185 7 = _; exact g7)) (by first | exact g6 | (show M 185 6 = _; exact g6)) htp (by omega) (show btA M tp (at') mI from hb)).mono ?_
    rintro v hp ⟨rfl, rfl⟩
    refine ok_call (mi := 179) (as := [.int mI]) (pc' := 96) (L' := [(1, .int x0), (0, .ref 185)]) (st' := []) (sh' := gSh) (M' := M) (i := .invokestatic 132) (len := 3) rfl rfl ?_
    refine (c_isDigit (d := d + 1)).mono ?_
    rintro v hp ⟨hv, rfl⟩
    rcases hv with ⟨rfl, k1, k2⟩ | ⟨rfl, k1⟩
    · rw [mI_int] at k1
      omega
    · refine ok_if 390 rfl rfl (fun _ => ?_) (fun hz => absurd (by simp only [pCP]; rw [hI_int (a := 0) (by omega)]; omega) hz)
      refine ok_ret (i := .return_) (len := 1) rfl rfl ⟨none, rfl, hQ _ ⟨hM, hN, at', nI 1, h10, h12, ha, hat, fun _ => ?_⟩⟩
      rcases hor with hor | ⟨x, hx, hx1, hx2⟩
      · exact hor
      · rw [btA_det hx hb, mI_int] at hx1
        omega
theorem nt_l (hT : pT τ) (h7 : M0 185 7 = .int (nI tp)) (h6 : M0 185 6 = .ref 189) (htp : tp ≤ 300) (hQ : ∀ M, NP τ a M0 M → Q none (gSh, M)) (x0 : Int32) : ∀ (n at' : Nat) (M : pMem), 300 - at' = n → at' ≤ 300 → tyM (tOf τ) M → NF M0 M → M 185 10 = .int (nI at') → M 185 12 = .int (nI 2) → a ≤ at' → (a + 1 ≤ at' ∨ ∃ x, btA M tp at' x ∧ isLt x) → nK S (d + 3) Q (161, [(1, .int x0), (0, .ref 185)], [], gSh, M) := by
  intro n
  induction n using Nat.strongRecOn with
  | _ n ih =>
  intro at' M hn hat hM hN h10 h12 ha hor
  have g7 : M 185 7 = .int (nI tp) := by rw [hN.2 7 (by omega)]; exact h7
  have g6 : M 185 6 = .ref 189 := by rw [hN.2 6 (by omega)]; exact h6
  obtain ⟨pl, h11, -⟩ := ty_int (pty hT hM 7 rfl rfl)
  obtain ⟨wd, h14⟩ := ptl hT hM
  have fin : ∀ (M2 : pMem), tyM (tOf τ) M2 → NF M0 M2 → M2 185 10 = .int (nI at') → M2 185 12 = .int (nI 2) → a + 1 ≤ at' → nK S (d + 3) Q (390, [(1, .int x0), (0, .ref 185)], [], gSh, M2) := fun M2 q1 q2 q3 q4 q5 => ok_ret (i := .return_) (len := 1) rfl rfl ⟨none, rfl, hQ _ ⟨q1, q2, at', nI 2, q3, q4, ha, hat, fun _ => q5⟩⟩
  have out : a + 1 ≤ at' → nK S (d + 3) Q (223, [(1, .int x0), (0, .ref 185)], [], gSh, M) := by
    intro ha1
    refine ok_seq 2 (σ' := (227, [(1, .int x0), (0, .ref 185)], [M 185 10], gSh, M)) rfl ?_
    rw [h10]
    refine ok_seq 2 (σ' := (231, [(1, .int x0), (0, .ref 185)], [M 185 11, .int (nI (at'))], gSh, M)) rfl ?_
    rw [h11]
    refine ok_seq 2 (σ' := (234, [(1, .int x0), (0, .ref 185)], [.int ((Int8.ofInt 7).toInt32), .int ((nI (at')) - pl)], gSh, M)) rfl ?_
    rw [(show (Int8.ofInt 7).toInt32 = nI 7 by decide)]
    refine ok_icmp 390 rfl rfl (fun _ => fin M hM hN h10 h12 ha1) (fun _ => ?_)
    refine ok_seq 2 (σ' := (239, [(1, .int x0), (0, .ref 185)], [.long (Int64.ofNat 0), .ref 185], gSh, M)) rfl ?_
    refine ok_put (q := 142) (ci := 12) (k := 14) (n := 47) (ty := .long) rfl rfl rfl rfl rfl rfl (fi_long _) ?_
    refine ok_seq 1 (σ' := (390, [(1, .int x0), (0, .ref 185)], [], gSh, pUp M 185 14 (.long (Int64.ofNat 0)))) rfl ?_
    exact fin _ (ptw hT hM _) (NF_up hN (by omega)) h10 h12 ha1
  rcases bt_ex (k := at') hT hM htp with ⟨b, hb1, hb2, hb⟩ | ⟨hb2, hb⟩
  · refine ok_seq 3 (σ' := (166, [(1, .int x0), (0, .ref 185)], [M 185 10, .ref 185], gSh, M)) rfl ?_
    rw [h10]
    refine ok_call (mi := 177) (as := [.ref 185, .int (nI (at'))]) (pc' := 169) (L' := [(1, .int x0), (0, .ref 185)]) (st' := []) (sh' := gSh) (M' := M) (i := .invokevirtual 122) (len := 3) rfl rfl ?_
    refine (c_byteAt (k := at') (tp := tp) (M := M) (by first | exact g7 | (show M 185 7 = _; exact g7)) (by first | exact g6 | (show M 185 6 = _; exact g6)) htp (by omega) (show btA M tp (at') (nI b) from hb)).mono ?_
    rintro v hp ⟨rfl, rfl⟩
    refine ok_call (mi := 178) (as := [.int (nI b)]) (pc' := 172) (L' := [(1, .int x0), (0, .ref 185)]) (st' := []) (sh' := gSh) (M' := M) (i := .invokestatic 139) (len := 3) rfl rfl ?_
    refine (c_isLetter (d := d + 1)).mono ?_
    rintro v hp ⟨hv, rfl⟩
    rcases hv with ⟨rfl, k1⟩ | ⟨rfl, k1⟩
    · refine ok_if 223 rfl rfl (fun hz => absurd hz (by simp only [pCP]; rw [hI_int (a := 1) (by omega)]; omega)) (fun _ => ?_)
      refine ok_seq 2 (σ' := (179, [(1, .int x0), (0, .ref 185)], [M 185 10], gSh, M)) rfl ?_
      rw [h10]
      refine ok_seq 2 (σ' := (183, [(1, .int x0), (0, .ref 185)], [M 185 11, .int (nI (at'))], gSh, M)) rfl ?_
      rw [h11]
      refine ok_seq 2 (σ' := (186, [(1, .int x0), (0, .ref 185)], [.int ((Int8.ofInt 7).toInt32), .int ((nI (at')) - pl)], gSh, M)) rfl ?_
      rw [(show (Int8.ofInt 7).toInt32 = nI 7 by decide)]
      refine ok_icmp 210 rfl rfl (fun _ => ?_) (fun _ => ?_)
      · refine ok_seq 3 (σ' := (215, [(1, .int x0), (0, .ref 185)], [M 185 10, .ref 185], gSh, M)) rfl ?_
        rw [h10]
        refine ok_seq 2 (σ' := (217, [(1, .int x0), (0, .ref 185)], [.int ((nI (at')) + (Int32.ofInt 1)), .ref 185], gSh, M)) rfl ?_
        rw [cI_1, hI_add (at') 1]
        refine ok_put (q := 119) (ci := 12) (k := 10) (n := 47) (ty := .int) rfl rfl rfl rfl rfl rfl (fi_int _) ?_
        refine ok_seq 1 (σ' := (161, [(1, .int x0), (0, .ref 185)], [], gSh, pUp M 185 10 (.int (nI ((at') + 1))))) rfl ?_
        refine ih (300 - (at' + 1)) (by omega) (at' + 1) _ rfl (by omega) (ptu hT hM 6 rfl (sat_n (by omega) (by omega))) (NF_up hN (by omega)) (pUp_self _ _ _ _) ?_ (by omega) (Or.inl (by omega))
        exact h12
      · refine ok_seq 3 (σ' := (194, [(1, .int x0), (0, .ref 185)], [M 185 14, .ref 185], gSh, M)) rfl ?_
        rw [h14]
        refine ok_seq 5 (σ' := (202, [(1, .int x0), (0, .ref 185)], [M 185 10, .ref 185, .long (wd <<< (((Int8.ofInt 8).toInt32).toInt64 &&& 63)), .ref 185], gSh, M)) rfl ?_
        rw [h10]
        refine ok_call (mi := 177) (as := [.ref 185, .int (nI (at'))]) (pc' := 205) (L' := [(1, .int x0), (0, .ref 185)]) (st' := [.long (wd <<< (((Int8.ofInt 8).toInt32).toInt64 &&& 63)), .ref 185]) (sh' := gSh) (M' := M) (i := .invokevirtual 122) (len := 3) rfl rfl ?_
        refine (c_byteAt (k := at') (tp := tp) (M := M) (by first | exact g7 | (show M 185 7 = _; exact g7)) (by first | exact g6 | (show M 185 6 = _; exact g6)) htp (by omega) (show btA M tp (at') (nI b) from hb)).mono ?_
        rintro v hp ⟨rfl, rfl⟩
        refine ok_seq 2 (σ' := (207, [(1, .int x0), (0, .ref 185)], [.long ((wd <<< (((Int8.ofInt 8).toInt32).toInt64 &&& 63)) ||| ((nI b).toInt64)), .ref 185], gSh, M)) rfl ?_
        refine ok_put (q := 142) (ci := 12) (k := 14) (n := 47) (ty := .long) rfl rfl rfl rfl rfl rfl (fi_long _) ?_
        refine ok_seq 3 (σ' := (215, [(1, .int x0), (0, .ref 185)], [M 185 10, .ref 185], gSh, pUp M 185 14 (.long ((wd <<< (((Int8.ofInt 8).toInt32).toInt64 &&& 63)) ||| ((nI b).toInt64))))) rfl ?_
        rw [h10]
        refine ok_seq 2 (σ' := (217, [(1, .int x0), (0, .ref 185)], [.int ((nI (at')) + (Int32.ofInt 1)), .ref 185], gSh, pUp M 185 14 (.long ((wd <<< (((Int8.ofInt 8).toInt32).toInt64 &&& 63)) ||| ((nI b).toInt64))))) rfl ?_
        rw [cI_1, hI_add (at') 1]
        refine ok_put (q := 119) (ci := 12) (k := 10) (n := 47) (ty := .int) rfl rfl rfl rfl rfl rfl (fi_int _) ?_
        refine ok_seq 1 (σ' := (161, [(1, .int x0), (0, .ref 185)], [], gSh, pUp (pUp M 185 14 (.long ((wd <<< (((Int8.ofInt 8).toInt32).toInt64 &&& 63)) ||| ((nI b).toInt64)))) 185 10 (.int (nI ((at') + 1))))) rfl ?_
        refine ih (300 - (at' + 1)) (by omega) (at' + 1) _ rfl (by omega) (ptu hT (ptw hT hM _) 6 rfl (sat_n (by omega) (by omega))) (NF_up (NF_up hN (by omega)) (by omega)) (pUp_self _ _ _ _) ?_ (by omega) (Or.inl (by omega))
        exact h12
    · refine ok_if 223 rfl rfl (fun _ => ?_) (fun hz => absurd (by simp only [pCP]; rw [hI_int (a := 0) (by omega)]; omega) hz)
      refine out ?_
      rcases hor with hor | ⟨x, hx, hx1⟩
      · exact hor
      · rw [btA_det hx hb] at hx1
        exact absurd hx1 k1
  · refine ok_seq 3 (σ' := (166, [(1, .int x0), (0, .ref 185)], [M 185 10, .ref 185], gSh, M)) rfl ?_
    rw [h10]
    refine ok_call (mi := 177) (as := [.ref 185, .int (nI (at'))]) (pc' := 169) (L' := [(1, .int x0), (0, .ref 185)]) (st' := []) (sh' := gSh) (M' := M) (i := .invokevirtual 122) (len := 3) rfl rfl ?_
    refine (c_byteAt (k := at') (tp := tp) (M := M) (by first | exact g7 | (show M 185 7 = _; exact g7)) (by first | exact g6 | (show M 185 6 = _; exact g6)) htp (by omega) (show btA M tp (at') mI from hb)).mono ?_
    rintro v hp ⟨rfl, rfl⟩
    refine ok_call (mi := 178) (as := [.int mI]) (pc' := 172) (L' := [(1, .int x0), (0, .ref 185)]) (st' := []) (sh' := gSh) (M' := M) (i := .invokestatic 139) (len := 3) rfl rfl ?_
    refine (c_isLetter (d := d + 1)).mono ?_
    rintro v hp ⟨hv, rfl⟩
    rcases hv with ⟨rfl, k1⟩ | ⟨rfl, k1⟩
    · unfold isLt at k1
      rw [mI_int] at k1
      omega
    · refine ok_if 223 rfl rfl (fun _ => ?_) (fun hz => absurd (by simp only [pCP]; rw [hI_int (a := 0) (by omega)]; omega) hz)
      refine out ?_
      rcases hor with hor | ⟨x, hx, hx1⟩
      · exact hor
      · rw [btA_det hx hb] at hx1
        exact absurd hx1 k1
theorem nt_c (hT : pT τ) (h7 : M0 185 7 = .int (nI tp)) (h6 : M0 185 6 = .ref 189) (htp : tp ≤ 300) (hQ : ∀ M, NP τ a M0 M → Q none (gSh, M)) (x0 : Int32) (b0 : Nat) {at' : Nat} {M : pMem} (hat : at' ≤ 300) (ha : a + 1 ≤ at') (hM : tyM (tOf τ) M) (hN : NF M0 M) (h10 : M 185 10 = .int (nI at')) (hb0 : b0 < 2) : nK S (d + 3) Q (326, [(1, .int x0), (0, .ref 185)], [.int (nI b0)], gSh, M) := by
  have g7 : M 185 7 = .int (nI tp) := by rw [hN.2 7 (by omega)]; exact h7
  have g6 : M 185 6 = .ref 189 := by rw [hN.2 6 (by omega)]; exact h6
  have fin : ∀ (M2 : pMem) (tk : Int32) (a2 : Nat), tyM (tOf τ) M2 → NF M0 M2 → M2 185 10 = .int (nI a2) → M2 185 12 = .int tk → a + 1 ≤ a2 → a2 ≤ 300 → nK S (d + 3) Q (390, [(2, .int (nI b0)), (1, .int x0), (0, .ref 185)], [], gSh, M2) := fun M2 tk a2 q1 q2 q3 q4 q5 q6 => ok_ret (i := .return_) (len := 1) rfl rfl ⟨none, rfl, hQ _ ⟨q1, q2, a2, tk, q3, q4, by omega, q6, fun _ => q5⟩⟩
  have two : ∀ tk : Int32, nK S (d + 3) Q (352, [(2, .int (nI b0)), (1, .int x0), (0, .ref 185)], [], gSh, pUp M 185 12 (.int tk)) := by
    intro tk
    have hM1 := ptu hT hM 8 rfl (sat_a tk)
    rcases bt_ex (k := at') hT hM htp with ⟨b, hb1, hb2, hb⟩ | ⟨hb2, hb⟩
    · refine ok_seq 3 (σ' := (357, [(2, .int (nI b0)), (1, .int x0), (0, .ref 185)], [M 185 10, .ref 185], gSh, pUp M 185 12 (.int tk))) rfl ?_
      rw [h10]
      refine ok_call (mi := 177) (as := [.ref 185, .int (nI (at'))]) (pc' := 360) (L' := [(2, .int (nI b0)), (1, .int x0), (0, .ref 185)]) (st' := []) (sh' := gSh) (M' := pUp M 185 12 (.int tk)) (i := .invokevirtual 122) (len := 3) rfl rfl ?_
      refine (c_byteAt (k := at') (tp := tp) (M := (pUp M 185 12 (.int tk))) (by first | exact g7 | (show M 185 7 = _; exact g7)) (by first | exact g6 | (show M 185 6 = _; exact g6)) htp (by omega) (show btA (pUp M 185 12 (.int tk)) tp (at') (nI b) from hb)).mono ?_
      rintro v hp ⟨rfl, rfl⟩
      refine ok_seq 1 (σ' := (362, [(2, .int (nI b0)), (1, .int x0), (0, .ref 185)], [.int ((Int8.ofInt 61).toInt32), .int (nI b)], gSh, pUp M 185 12 (.int tk))) rfl ?_
      rw [(show (Int8.ofInt 61).toInt32 = nI 61 by decide)]
      refine ok_icmp 390 rfl rfl (fun _ => fin _ tk at' hM1 (NF_up hN (by omega)) h10 (pUp_self _ _ _ _) ha hat) (fun _ => ?_)
      refine ok_seq 3 (σ' := (370, [(2, .int (nI b0)), (1, .int x0), (0, .ref 185)], [M 185 10, .ref 185], gSh, pUp M 185 12 (.int tk))) rfl ?_
      rw [h10]
      refine ok_seq 2 (σ' := (372, [(2, .int (nI b0)), (1, .int x0), (0, .ref 185)], [.int ((nI (at')) + (Int32.ofInt 1)), .ref 185], gSh, pUp M 185 12 (.int tk))) rfl ?_
      rw [cI_1, hI_add (at') 1]
      refine ok_put (q := 119) (ci := 12) (k := 10) (n := 47) (ty := .int) rfl rfl rfl rfl rfl rfl (fi_int _) ?_
      refine ok_seq 3 (σ' := (379, [(2, .int (nI b0)), (1, .int x0), (0, .ref 185)], [.int ((Int8.ofInt 60).toInt32), .int x0, .ref 185], gSh, pUp (pUp M 185 12 (.int tk)) 185 10 (.int (nI ((at') + 1))))) rfl ?_
      rw [(show (Int8.ofInt 60).toInt32 = nI 60 by decide)]
      refine ok_icmp 386 rfl rfl (fun _ => ?_) (fun _ => ?_)
      · refine ok_seq 1 (σ' := (387, [(2, .int (nI b0)), (1, .int x0), (0, .ref 185)], [.int (Int32.ofInt 5), .ref 185], gSh, pUp (pUp M 185 12 (.int tk)) 185 10 (.int (nI ((at') + 1))))) rfl ?_
        rw [cI_5]
        refine ok_put (q := 129) (ci := 12) (k := 12) (n := 47) (ty := .int) rfl rfl rfl rfl rfl rfl (fi_int _) ?_
        exact fin _ _ (at' + 1) (ptu hT (ptu hT hM1 6 rfl (sat_n (by omega) (by omega))) 8 rfl (sat_a _)) (NF_up (NF_up (NF_up hN (by omega)) (by omega)) (by omega)) (by rw [pUp_other _ _ _ _ (by decide)]; exact pUp_self _ _ _ _) (pUp_self _ _ _ _) (by omega) (by omega)
      · refine ok_seq 2 (σ' := (387, [(2, .int (nI b0)), (1, .int x0), (0, .ref 185)], [.int (Int32.ofInt 4), .ref 185], gSh, pUp (pUp M 185 12 (.int tk)) 185 10 (.int (nI ((at') + 1))))) rfl ?_
        rw [cI_4]
        refine ok_put (q := 129) (ci := 12) (k := 12) (n := 47) (ty := .int) rfl rfl rfl rfl rfl rfl (fi_int _) ?_
        exact fin _ _ (at' + 1) (ptu hT (ptu hT hM1 6 rfl (sat_n (by omega) (by omega))) 8 rfl (sat_a _)) (NF_up (NF_up (NF_up hN (by omega)) (by omega)) (by omega)) (by rw [pUp_other _ _ _ _ (by decide)]; exact pUp_self _ _ _ _) (pUp_self _ _ _ _) (by omega) (by omega)
    · refine ok_seq 3 (σ' := (357, [(2, .int (nI b0)), (1, .int x0), (0, .ref 185)], [M 185 10, .ref 185], gSh, pUp M 185 12 (.int tk))) rfl ?_
      rw [h10]
      refine ok_call (mi := 177) (as := [.ref 185, .int (nI (at'))]) (pc' := 360) (L' := [(2, .int (nI b0)), (1, .int x0), (0, .ref 185)]) (st' := []) (sh' := gSh) (M' := pUp M 185 12 (.int tk)) (i := .invokevirtual 122) (len := 3) rfl rfl ?_
      refine (c_byteAt (k := at') (tp := tp) (M := (pUp M 185 12 (.int tk))) (by first | exact g7 | (show M 185 7 = _; exact g7)) (by first | exact g6 | (show M 185 6 = _; exact g6)) htp (by omega) (show btA (pUp M 185 12 (.int tk)) tp (at') mI from hb)).mono ?_
      rintro v hp ⟨rfl, rfl⟩
      refine ok_seq 1 (σ' := (362, [(2, .int (nI b0)), (1, .int x0), (0, .ref 185)], [.int ((Int8.ofInt 61).toInt32), .int mI], gSh, pUp M 185 12 (.int tk))) rfl ?_
      rw [(show (Int8.ofInt 61).toInt32 = nI 61 by decide)]
      refine ok_icmp 390 rfl rfl (fun _ => fin _ tk at' hM1 (NF_up hN (by omega)) h10 (pUp_self _ _ _ _) ha hat) (fun hz => ?_)
      exact absurd (show mI.toInt ≠ (nI 61).toInt by decide) hz
  have one : ∀ tk : Int32, nK S (d + 3) Q (340, [(2, .int (nI b0)), (1, .int x0), (0, .ref 185)], [], gSh, pUp M 185 12 (.int tk)) := by
    intro tk
    refine ok_seq 2 (σ' := (343, [(2, .int (nI b0)), (1, .int x0), (0, .ref 185)], [.int ((Int8.ofInt 60).toInt32), .int x0], gSh, pUp M 185 12 (.int tk))) rfl ?_
    rw [(show (Int8.ofInt 60).toInt32 = nI 60 by decide)]
    refine ok_icmp 352 rfl rfl (fun _ => two tk) (fun _ => ?_)
    refine ok_seq 2 (σ' := (349, [(2, .int (nI b0)), (1, .int x0), (0, .ref 185)], [.int ((Int8.ofInt 62).toInt32), .int x0], gSh, pUp M 185 12 (.int tk))) rfl ?_
    rw [(show (Int8.ofInt 62).toInt32 = nI 62 by decide)]
    refine ok_icmp 390 rfl rfl (fun _ => fin _ tk at' (ptu hT hM 8 rfl (sat_a tk)) (NF_up hN (by omega)) h10 (pUp_self _ _ _ _) ha hat) (fun _ => two tk)
  refine ok_seq 3 (σ' := (329, [(2, .int (nI b0)), (1, .int x0), (0, .ref 185)], [.int (nI b0), .ref 185], gSh, M)) rfl ?_
  refine ok_if 336 rfl rfl (fun _ => ?_) (fun _ => ?_)
  · refine ok_seq 1 (σ' := (337, [(2, .int (nI b0)), (1, .int x0), (0, .ref 185)], [.int (Int32.ofInt 3), .ref 185], gSh, M)) rfl ?_
    rw [cI_3]
    refine ok_put (q := 129) (ci := 12) (k := 12) (n := 47) (ty := .int) rfl rfl rfl rfl rfl rfl (fi_int _) ?_
    exact one _
  · refine ok_seq 2 (σ' := (337, [(2, .int (nI b0)), (1, .int x0), (0, .ref 185)], [.int x0, .ref 185], gSh, M)) rfl ?_
    refine ok_put (q := 129) (ci := 12) (k := 12) (n := 47) (ty := .int) rfl rfl rfl rfl rfl rfl (fi_int _) ?_
    exact one _
theorem nt_s (hT : pT τ) (h7 : M0 185 7 = .int (nI tp)) (h6 : M0 185 6 = .ref 189) (htp : tp ≤ 300) (hQ : ∀ M, NP τ a M0 M → Q none (gSh, M)) (x0 : Int32) {at' : Nat} {M : pMem} (hat : at' < 300) (ha : a ≤ at') (hM : tyM (tOf τ) M) (hN : NF M0 M) (h10 : M 185 10 = .int (nI at')) : nK S (d + 3) Q (245, [(1, .int x0), (0, .ref 185)], [], gSh, M) := by
  have fin : ∀ b0 : Nat, b0 < 2 → nK S (d + 3) Q (326, [(1, .int x0), (0, .ref 185)], [.int (nI b0)], gSh, pUp M 185 10 (.int (nI (at' + 1)))) := fun b0 hb0 => nt_c hT h7 h6 htp hQ x0 b0 (at' := at' + 1) (by omega) (by omega) (ptu hT hM 6 rfl (sat_n (by omega) (by omega))) (NF_up hN (by omega)) (pUp_self _ _ _ _) hb0
  have yes : nK S (d + 3) Q (321, [(1, .int x0), (0, .ref 185)], [], gSh, pUp M 185 10 (.int (nI (at' + 1)))) := by
    refine ok_seq 2 (σ' := (326, [(1, .int x0), (0, .ref 185)], [.int (Int32.ofInt 1)], gSh, pUp M 185 10 (.int (nI (at' + 1))))) rfl ?_
    rw [cI_1]
    exact fin 1 (by decide)
  refine ok_seq 3 (σ' := (250, [(1, .int x0), (0, .ref 185)], [M 185 10, .ref 185], gSh, M)) rfl ?_
  rw [h10]
  refine ok_seq 2 (σ' := (252, [(1, .int x0), (0, .ref 185)], [.int ((nI (at')) + (Int32.ofInt 1)), .ref 185], gSh, M)) rfl ?_
  rw [cI_1, hI_add (at') 1]
  refine ok_put (q := 119) (ci := 12) (k := 10) (n := 47) (ty := .int) rfl rfl rfl rfl rfl rfl (fi_int _) ?_
  refine ok_seq 2 (σ' := (258, [(1, .int x0), (0, .ref 185)], [.int ((Int8.ofInt 60).toInt32), .int x0], gSh, pUp M 185 10 (.int (nI ((at') + 1))))) rfl ?_
  rw [(show (Int8.ofInt 60).toInt32 = nI 60 by decide)]
  refine ok_icmp 321 rfl rfl (fun _ => yes) (fun _ => ?_)
  refine ok_seq 2 (σ' := (264, [(1, .int x0), (0, .ref 185)], [.int ((Int8.ofInt 62).toInt32), .int x0], gSh, pUp M 185 10 (.int (nI ((at') + 1))))) rfl ?_
  rw [(show (Int8.ofInt 62).toInt32 = nI 62 by decide)]
  refine ok_icmp 321 rfl rfl (fun _ => yes) (fun _ => ?_)
  refine ok_seq 2 (σ' := (270, [(1, .int x0), (0, .ref 185)], [.int ((Int8.ofInt 61).toInt32), .int x0], gSh, pUp M 185 10 (.int (nI ((at') + 1))))) rfl ?_
  rw [(show (Int8.ofInt 61).toInt32 = nI 61 by decide)]
  refine ok_icmp 321 rfl rfl (fun _ => yes) (fun _ => ?_)
  refine ok_seq 2 (σ' := (276, [(1, .int x0), (0, .ref 185)], [.int ((Int8.ofInt 35).toInt32), .int x0], gSh, pUp M 185 10 (.int (nI ((at') + 1))))) rfl ?_
  rw [(show (Int8.ofInt 35).toInt32 = nI 35 by decide)]
  refine ok_icmp 321 rfl rfl (fun _ => yes) (fun _ => ?_)
  refine ok_seq 2 (σ' := (282, [(1, .int x0), (0, .ref 185)], [.int ((Int8.ofInt 43).toInt32), .int x0], gSh, pUp M 185 10 (.int (nI ((at') + 1))))) rfl ?_
  rw [(show (Int8.ofInt 43).toInt32 = nI 43 by decide)]
  refine ok_icmp 321 rfl rfl (fun _ => yes) (fun _ => ?_)
  refine ok_seq 2 (σ' := (288, [(1, .int x0), (0, .ref 185)], [.int ((Int8.ofInt 45).toInt32), .int x0], gSh, pUp M 185 10 (.int (nI ((at') + 1))))) rfl ?_
  rw [(show (Int8.ofInt 45).toInt32 = nI 45 by decide)]
  refine ok_icmp 321 rfl rfl (fun _ => yes) (fun _ => ?_)
  refine ok_seq 2 (σ' := (294, [(1, .int x0), (0, .ref 185)], [.int ((Int8.ofInt 42).toInt32), .int x0], gSh, pUp M 185 10 (.int (nI ((at') + 1))))) rfl ?_
  rw [(show (Int8.ofInt 42).toInt32 = nI 42 by decide)]
  refine ok_icmp 321 rfl rfl (fun _ => yes) (fun _ => ?_)
  refine ok_seq 2 (σ' := (300, [(1, .int x0), (0, .ref 185)], [.int ((Int8.ofInt 47).toInt32), .int x0], gSh, pUp M 185 10 (.int (nI ((at') + 1))))) rfl ?_
  rw [(show (Int8.ofInt 47).toInt32 = nI 47 by decide)]
  refine ok_icmp 321 rfl rfl (fun _ => yes) (fun _ => ?_)
  refine ok_seq 2 (σ' := (306, [(1, .int x0), (0, .ref 185)], [.int ((Int8.ofInt 40).toInt32), .int x0], gSh, pUp M 185 10 (.int (nI ((at') + 1))))) rfl ?_
  rw [(show (Int8.ofInt 40).toInt32 = nI 40 by decide)]
  refine ok_icmp 321 rfl rfl (fun _ => yes) (fun _ => ?_)
  refine ok_seq 2 (σ' := (312, [(1, .int x0), (0, .ref 185)], [.int ((Int8.ofInt 41).toInt32), .int x0], gSh, pUp M 185 10 (.int (nI ((at') + 1))))) rfl ?_
  rw [(show (Int8.ofInt 41).toInt32 = nI 41 by decide)]
  refine ok_icmp 321 rfl rfl (fun _ => yes) (fun _ => ?_)
  refine ok_seq 2 (σ' := (318, [(1, .int x0), (0, .ref 185)], [.int ((Int8.ofInt 59).toInt32), .int x0], gSh, pUp M 185 10 (.int (nI ((at') + 1))))) rfl ?_
  rw [(show (Int8.ofInt 59).toInt32 = nI 59 by decide)]
  refine ok_icmp 325 rfl rfl (fun _ => ?_) (fun _ => yes)
  refine ok_seq 1 (σ' := (326, [(1, .int x0), (0, .ref 185)], [.int (Int32.ofInt 0)], gSh, pUp M 185 10 (.int (nI ((at') + 1))))) rfl ?_
  rw [cI_0]
  exact fin 0 (by decide)
theorem nt_a (hT : pT τ) (h7 : M0 185 7 = .int (nI tp)) (h6 : M0 185 6 = .ref 189) (htp : tp ≤ 300) (hQ : ∀ M, NP τ a M0 M → Q none (gSh, M)) {at' : Nat} {M : pMem} (hat : at' ≤ 300) (ha : a ≤ at') (hM : tyM (tOf τ) M) (hN : NF M0 M) (h10 : M 185 10 = .int (nI at')) : nK S (d + 3) Q (39, [(0, .ref 185)], [], gSh, M) := by
  have g7 : M 185 7 = .int (nI tp) := by rw [hN.2 7 (by omega)]; exact h7
  have g6 : M 185 6 = .ref 189 := by rw [hN.2 6 (by omega)]; exact h6
  have hM1 := ptu hT hM 7 rfl (sat_n (n := at') (by omega) (by omega))
  rcases bt_ex (k := at') hT hM htp with ⟨b, hb1, hb2, hb⟩ | ⟨hb2, hb⟩
  · refine ok_seq 3 (σ' := (44, [(0, .ref 185)], [M 185 10, .ref 185], gSh, M)) rfl ?_
    rw [h10]
    refine ok_put (q := 126) (ci := 12) (k := 11) (n := 47) (ty := .int) rfl rfl rfl rfl rfl rfl (fi_int _) ?_
    refine ok_seq 3 (σ' := (52, [(0, .ref 185)], [M 185 10, .ref 185], gSh, pUp M 185 11 (.int (nI (at'))))) rfl ?_
    rw [h10]
    refine ok_call (mi := 177) (as := [.ref 185, .int (nI (at'))]) (pc' := 55) (L' := [(0, .ref 185)]) (st' := []) (sh' := gSh) (M' := pUp M 185 11 (.int (nI (at')))) (i := .invokevirtual 122) (len := 3) rfl rfl ?_
    refine (c_byteAt (k := at') (tp := tp) (M := (pUp M 185 11 (.int (nI (at'))))) (by first | exact g7 | (show M 185 7 = _; exact g7)) (by first | exact g6 | (show M 185 6 = _; exact g6)) htp (by omega) (show btA (pUp M 185 11 (.int (nI (at')))) tp (at') (nI b) from hb)).mono ?_
    rintro v hp ⟨rfl, rfl⟩
    refine ok_seq 2 (σ' := (57, [(1, .int (nI b)), (0, .ref 185)], [.int (nI b)], gSh, pUp M 185 11 (.int (nI (at'))))) rfl ?_
    refine ok_if 68 rfl rfl (fun _ => ?_) (fun hz => absurd (by simp only [pCP]; rw [hI_int (a := b) (by omega)]; omega) hz)
    refine ok_seq 1 (σ' := (69, [(1, .int (nI b)), (0, .ref 185)], [.int (nI b)], gSh, pUp M 185 11 (.int (nI (at'))))) rfl ?_
    refine ok_call (mi := 179) (as := [.int (nI b)]) (pc' := 72) (L' := [(1, .int (nI b)), (0, .ref 185)]) (st' := []) (sh' := gSh) (M' := pUp M 185 11 (.int (nI (at')))) (i := .invokestatic 132) (len := 3) rfl rfl ?_
    refine (c_isDigit (d := d + 1)).mono ?_
    rintro v hp ⟨hv, rfl⟩
    rcases hv with ⟨rfl, k1, k2⟩ | ⟨rfl, k1⟩
    · refine ok_if 144 rfl rfl (fun hz => absurd hz (by simp only [pCP]; rw [hI_int (a := 1) (by omega)]; omega)) (fun _ => ?_)
      refine ok_seq 2 (σ' := (77, [(1, .int (nI b)), (0, .ref 185)], [.int (Int32.ofInt 1), .ref 185], gSh, pUp M 185 11 (.int (nI (at'))))) rfl ?_
      rw [cI_1]
      refine ok_put (q := 129) (ci := 12) (k := 12) (n := 47) (ty := .int) rfl rfl rfl rfl rfl rfl (fi_int _) ?_
      refine ok_seq 2 (σ' := (82, [(1, .int (nI b)), (0, .ref 185)], [.int (Int32.ofInt 0), .ref 185], gSh, pUp (pUp M 185 11 (.int (nI (at')))) 185 12 (.int (nI 1)))) rfl ?_
      rw [cI_0]
      refine ok_put (q := 135) (ci := 12) (k := 13) (n := 47) (ty := .int) rfl rfl rfl rfl rfl rfl (fi_int _) ?_
      exact nt_d hT h7 h6 htp hQ _ _ at' _ rfl hat (ptu hT (ptu hT hM1 8 rfl (sat_a _)) 9 rfl (sat_n (by omega) (by omega))) (NF_up (NF_up (NF_up hN (by omega)) (by omega)) (by omega)) h10 rfl ha (Or.inr ⟨nI b, hb, k1, k2⟩)
    · refine ok_if 144 rfl rfl (fun _ => ?_) (fun hz => absurd (by simp only [pCP]; rw [hI_int (a := 0) (by omega)]; omega) hz)
      refine ok_seq 1 (σ' := (145, [(1, .int (nI b)), (0, .ref 185)], [.int (nI b)], gSh, pUp M 185 11 (.int (nI (at'))))) rfl ?_
      refine ok_call (mi := 178) (as := [.int (nI b)]) (pc' := 148) (L' := [(1, .int (nI b)), (0, .ref 185)]) (st' := []) (sh' := gSh) (M' := pUp M 185 11 (.int (nI (at')))) (i := .invokestatic 139) (len := 3) rfl rfl ?_
      refine (c_isLetter (d := d + 1)).mono ?_
      rintro v hp ⟨hv, rfl⟩
      rcases hv with ⟨rfl, l1⟩ | ⟨rfl, l1⟩
      · refine ok_if 245 rfl rfl (fun hz => absurd hz (by simp only [pCP]; rw [hI_int (a := 1) (by omega)]; omega)) (fun _ => ?_)
        refine ok_seq 2 (σ' := (153, [(1, .int (nI b)), (0, .ref 185)], [.int (Int32.ofInt 2), .ref 185], gSh, pUp M 185 11 (.int (nI (at'))))) rfl ?_
        rw [cI_2]
        refine ok_put (q := 129) (ci := 12) (k := 12) (n := 47) (ty := .int) rfl rfl rfl rfl rfl rfl (fi_int _) ?_
        refine ok_seq 2 (σ' := (158, [(1, .int (nI b)), (0, .ref 185)], [.long (Int64.ofNat 0), .ref 185], gSh, pUp (pUp M 185 11 (.int (nI (at')))) 185 12 (.int (nI 2)))) rfl ?_
        refine ok_put (q := 142) (ci := 12) (k := 14) (n := 47) (ty := .long) rfl rfl rfl rfl rfl rfl (fi_long _) ?_
        exact nt_l hT h7 h6 htp hQ _ _ at' _ rfl hat (ptw hT (ptu hT hM1 8 rfl (sat_a _)) _) (NF_up (NF_up (NF_up hN (by omega)) (by omega)) (by omega)) h10 rfl ha (Or.inr ⟨nI b, hb, l1⟩)
      · refine ok_if 245 rfl rfl (fun _ => ?_) (fun hz => absurd (by simp only [pCP]; rw [hI_int (a := 0) (by omega)]; omega) hz)
        exact nt_s hT h7 h6 htp hQ _ (by omega) ha hM1 (NF_up hN (by omega)) h10
  · refine ok_seq 3 (σ' := (44, [(0, .ref 185)], [M 185 10, .ref 185], gSh, M)) rfl ?_
    rw [h10]
    refine ok_put (q := 126) (ci := 12) (k := 11) (n := 47) (ty := .int) rfl rfl rfl rfl rfl rfl (fi_int _) ?_
    refine ok_seq 3 (σ' := (52, [(0, .ref 185)], [M 185 10, .ref 185], gSh, pUp M 185 11 (.int (nI (at'))))) rfl ?_
    rw [h10]
    refine ok_call (mi := 177) (as := [.ref 185, .int (nI (at'))]) (pc' := 55) (L' := [(0, .ref 185)]) (st' := []) (sh' := gSh) (M' := pUp M 185 11 (.int (nI (at')))) (i := .invokevirtual 122) (len := 3) rfl rfl ?_
    refine (c_byteAt (k := at') (tp := tp) (M := (pUp M 185 11 (.int (nI (at'))))) (by first | exact g7 | (show M 185 7 = _; exact g7)) (by first | exact g6 | (show M 185 6 = _; exact g6)) htp (by omega) (show btA (pUp M 185 11 (.int (nI (at')))) tp (at') mI from hb)).mono ?_
    rintro v hp ⟨rfl, rfl⟩
    refine ok_seq 2 (σ' := (57, [(1, .int mI), (0, .ref 185)], [.int mI], gSh, pUp M 185 11 (.int (nI (at'))))) rfl ?_
    refine ok_if 68 rfl rfl (fun hz => absurd hz (by simp only [pCP]; decide)) (fun _ => ?_)
    refine ok_seq 2 (σ' := (62, [(1, .int mI), (0, .ref 185)], [.int (Int32.ofInt 0), .ref 185], gSh, pUp M 185 11 (.int (nI (at'))))) rfl ?_
    rw [cI_0]
    refine ok_put (q := 129) (ci := 12) (k := 12) (n := 47) (ty := .int) rfl rfl rfl rfl rfl rfl (fi_int _) ?_
    refine ok_seq 1 (σ' := (390, [(1, .int mI), (0, .ref 185)], [], gSh, pUp (pUp M 185 11 (.int (nI (at')))) 185 12 (.int (nI 0)))) rfl ?_
    exact ok_ret (i := .return_) (len := 1) rfl rfl ⟨none, rfl, hQ _ ⟨ptu hT hM1 8 rfl (sat_a _), NF_up (NF_up hN (by omega)) (by omega), at', nI 0, h10, rfl, ha, hat, fun hz => absurd (by decide) hz⟩⟩
theorem nt_0 (hT : pT τ) (h7 : M0 185 7 = .int (nI tp)) (h6 : M0 185 6 = .ref 189) (htp : tp ≤ 300) (hQ : ∀ M, NP τ a M0 M → Q none (gSh, M)) : ∀ (n at' : Nat) (M : pMem), 300 - at' = n → at' ≤ 300 → tyM (tOf τ) M → NF M0 M → M 185 10 = .int (nI at') → a ≤ at' → nK S (d + 3) Q (0, [(0, .ref 185)], [], gSh, M) := by
  intro n
  induction n using Nat.strongRecOn with
  | _ n ih =>
  intro at' M hn hat hM hN h10 ha
  have g7 : M 185 7 = .int (nI tp) := by rw [hN.2 7 (by omega)]; exact h7
  have g6 : M 185 6 = .ref 189 := by rw [hN.2 6 (by omega)]; exact h6
  have fin : nK S (d + 3) Q (39, [(0, .ref 185)], [], gSh, M) := nt_a hT h7 h6 htp hQ hat ha hM hN h10
  have more : at' < 300 → nK S (d + 3) Q (26, [(0, .ref 185)], [], gSh, M) := by
    intro hlt
    refine ok_seq 3 (σ' := (31, [(0, .ref 185)], [M 185 10, .ref 185], gSh, M)) rfl ?_
    rw [h10]
    refine ok_seq 2 (σ' := (33, [(0, .ref 185)], [.int ((nI (at')) + (Int32.ofInt 1)), .ref 185], gSh, M)) rfl ?_
    rw [cI_1, hI_add (at') 1]
    refine ok_put (q := 119) (ci := 12) (k := 10) (n := 47) (ty := .int) rfl rfl rfl rfl rfl rfl (fi_int _) ?_
    refine ok_seq 1 (σ' := (0, [(0, .ref 185)], [], gSh, pUp M 185 10 (.int (nI ((at') + 1))))) rfl ?_
    exact ih (300 - (at' + 1)) (by omega) (at' + 1) _ rfl (by omega) (ptu hT hM 6 rfl (sat_n (by omega) (by omega))) (NF_up hN (by omega)) (pUp_self _ _ _ _) (by omega)
  rcases bt_ex (k := at') hT hM htp with ⟨b, hb1, hb2, hb⟩ | ⟨hb2, hb⟩
  · refine ok_seq 3 (σ' := (5, [(0, .ref 185)], [M 185 10, .ref 185], gSh, M)) rfl ?_
    rw [h10]
    refine ok_call (mi := 177) (as := [.ref 185, .int (nI (at'))]) (pc' := 8) (L' := [(0, .ref 185)]) (st' := []) (sh' := gSh) (M' := M) (i := .invokevirtual 122) (len := 3) rfl rfl ?_
    refine (c_byteAt (k := at') (tp := tp) (M := M) (by first | exact g7 | (show M 185 7 = _; exact g7)) (by first | exact g6 | (show M 185 6 = _; exact g6)) htp (by omega) (show btA M tp (at') (nI b) from hb)).mono ?_
    rintro v hp ⟨rfl, rfl⟩
    refine ok_seq 1 (σ' := (10, [(0, .ref 185)], [.int ((Int8.ofInt 32).toInt32), .int (nI b)], gSh, M)) rfl ?_
    rw [(show (Int8.ofInt 32).toInt32 = nI 32 by decide)]
    refine ok_icmp 26 rfl rfl (fun _ => more (by omega)) (fun _ => ?_)
    refine ok_seq 3 (σ' := (18, [(0, .ref 185)], [M 185 10, .ref 185], gSh, M)) rfl ?_
    rw [h10]
    refine ok_call (mi := 177) (as := [.ref 185, .int (nI (at'))]) (pc' := 21) (L' := [(0, .ref 185)]) (st' := []) (sh' := gSh) (M' := M) (i := .invokevirtual 122) (len := 3) rfl rfl ?_
    refine (c_byteAt (k := at') (tp := tp) (M := M) (by first | exact g7 | (show M 185 7 = _; exact g7)) (by first | exact g6 | (show M 185 6 = _; exact g6)) htp (by omega) (show btA M tp (at') (nI b) from hb)).mono ?_
    rintro v hp ⟨rfl, rfl⟩
    refine ok_seq 1 (σ' := (23, [(0, .ref 185)], [.int ((Int8.ofInt 10).toInt32), .int (nI b)], gSh, M)) rfl ?_
    rw [(show (Int8.ofInt 10).toInt32 = nI 10 by decide)]
    exact ok_icmp 39 rfl rfl (fun _ => fin) (fun _ => more (by omega))
  · refine ok_seq 3 (σ' := (5, [(0, .ref 185)], [M 185 10, .ref 185], gSh, M)) rfl ?_
    rw [h10]
    refine ok_call (mi := 177) (as := [.ref 185, .int (nI (at'))]) (pc' := 8) (L' := [(0, .ref 185)]) (st' := []) (sh' := gSh) (M' := M) (i := .invokevirtual 122) (len := 3) rfl rfl ?_
    refine (c_byteAt (k := at') (tp := tp) (M := M) (by first | exact g7 | (show M 185 7 = _; exact g7)) (by first | exact g6 | (show M 185 6 = _; exact g6)) htp (by omega) (show btA M tp (at') mI from hb)).mono ?_
    rintro v hp ⟨rfl, rfl⟩
    refine ok_seq 1 (σ' := (10, [(0, .ref 185)], [.int ((Int8.ofInt 32).toInt32), .int mI], gSh, M)) rfl ?_
    rw [(show (Int8.ofInt 32).toInt32 = nI 32 by decide)]
    refine ok_icmp 26 rfl rfl (fun hz => absurd hz (by simp only [pCP]; decide)) (fun _ => ?_)
    refine ok_seq 3 (σ' := (18, [(0, .ref 185)], [M 185 10, .ref 185], gSh, M)) rfl ?_
    rw [h10]
    refine ok_call (mi := 177) (as := [.ref 185, .int (nI (at'))]) (pc' := 21) (L' := [(0, .ref 185)]) (st' := []) (sh' := gSh) (M' := M) (i := .invokevirtual 122) (len := 3) rfl rfl ?_
    refine (c_byteAt (k := at') (tp := tp) (M := M) (by first | exact g7 | (show M 185 7 = _; exact g7)) (by first | exact g6 | (show M 185 6 = _; exact g6)) htp (by omega) (show btA M tp (at') mI from hb)).mono ?_
    rintro v hp ⟨rfl, rfl⟩
    refine ok_seq 1 (σ' := (23, [(0, .ref 185)], [.int ((Int8.ofInt 10).toInt32), .int mI], gSh, M)) rfl ?_
    rw [(show (Int8.ofInt 10).toInt32 = nI 10 by decide)]
    refine ok_icmp 39 rfl rfl (fun _ => ?_) (fun hz => absurd (by simp only [pCP]; decide) hz)
    exact fin
end NTK
/-- the next token: at is no less, and more unless the tape's end is come to -/
theorem c_next {S : pScr} {d a : Nat} {τ : fT} {M : pMem} (hT : pT τ) (hM : tyM (tOf τ) M) (h10 : M 185 10 = .int (nI a)) (ha : a ≤ 300) : cOk S (d + 4) 180 [.ref 185] (gSh, M) (fun r hp => r = none ∧ hp.1 = gSh ∧ NP τ a M hp.2) := by
  obtain ⟨tp, htp, h7⟩ := ty_nat (pty hT hM 3 rfl rfl)
  have h6 := ty_ref (pty hT hM 2 rfl rfl)
  refine c_of_ok (Nat.le_of_ble_eq_true rfl) ?_
  exact nt_0 (Q := fun r hp => r = none ∧ hp.1 = gSh ∧ NP τ a M hp.2) hT h7 h6 (by omega) (fun M' h => ⟨rfl, rfl, h⟩) _ a M rfl ha hM ⟨fun _ _ => rfl, fun _ _ => rfl⟩ h10 (Nat.le_refl _)

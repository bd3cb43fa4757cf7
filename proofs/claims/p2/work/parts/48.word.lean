/-! by hand, printed by wip/gen/gen48.py -/
theorem ok_chr {sc : Nat × (Nat → Int32)} {nL d pc i : Nat} {ini : Bool} {code : Nat → Option (Instr × Nat)} {Post : Instr → Nat → pSt → Prop} {L : pLs} {st : List Value} {sh : pSh} {M : pMem} (hc : code pc = some (.invokevirtual 122, 3)) (hi : i < 97) (hcat : pCat st = true) (k : pOk (some sc) 5 ini nL code d Post (pc + 3, L, .int (pChr i) :: st, sh, M)) : pOk (some sc) 5 ini nL code d Post (pc, L, .int (nI i) :: .retAddr 2 :: st, sh, M) := by
  refine ok_step hc ?_ k
  have e1 : pCall 1 5 122 pc L (.int (nI i) :: .retAddr 2 :: st) sh M = none := by
    unfold pCall
    rfl
  have e2 : pJdkV (some sc) 5 122 pc L (.int (nI i) :: .retAddr 2 :: st) sh M = pGo (pc + 3) L (.int (pChr i) :: st) sh M := by
    have hj : (tJdk.getD 5 []).find? (fun e => e.1 == 122) = some (122, 6) := by decide +kernel
    unfold pJdkV
    simp only [hj]
    rw [if_pos ⟨hI_in hi (by decide), hcat⟩, hI_nat (by omega)]
  show (match pCall 1 5 122 pc L (.int (nI i) :: .retAddr 2 :: st) sh M with | some r => some r | none => pJdkV (some sc) 5 122 pc L (.int (nI i) :: .retAddr 2 :: st) sh M) = _
  rw [e1]
  simp only [e2]
  rfl
/-- kinds that the class's reader of words uses -/
def pS5 (τ : fT) : Prop := fTau τ ∧ rowAt (τ 56) 0 = some (1, 0, 0, [57]) ∧ rowAt (τ 56) 4 = some (0, 0, 300, []) ∧ rowAt (τ 56) 8 = some (0, 0, 300, []) ∧ τ 57 = [(300, (0, 0, 255, []))]
theorem pt57 {τ : fT} {M : pMem} (hT : pS5 τ) (hM : tyM (tOf τ) M) {k : Nat} (h : k < 300) : ∃ n : Nat, n ≤ 255 ∧ M 57 k = .int (nI n) := by
  obtain ⟨n, h1, h2⟩ := ty_nat (hM 57 k (0, 0, 255, []) (by decide) (by rw [tyAt_row hT.1]; show rowAt (τ 57) k = _; rw [hT.2.2.2.2]; exact row1_at h))
  exact ⟨n, by omega, h2⟩
abbrev iwK (S : pScr) (d : Nat) (Q : Option Value → pHp → Prop) (σ : pSt) : Prop := pOk S 5 false 5 (pCode 59) d (fun i len τ' => ∃ v, pRet (some .boolean) i len τ'.2.2.1 = some v ∧ Q v (τ'.2.2.2.1, τ'.2.2.2.2)) σ
theorem c_isWord {sc : Nat × (Nat → Int32)} {d b e s0 : Nat} {τ : fT} {M : pMem} (hT : pS5 τ) (hM : tyM (tOf τ) M) (hbe : b ≤ e) (he : e ≤ 97) (hs : s0 + (e - b) ≤ 300) : cOk (some sc) (d + 1) 59 [.ref 56, .int (nI b), .int (nI e), .int (nI s0)] (gSh, M) (fun r hp => (r = some (.int (nI 0)) ∨ r = some (.int (nI 1))) ∧ hp = (gSh, M)) := by
  have h0 : M 56 0 = .ref 57 := ty_ref (hM 56 0 _ (by decide) (by rw [tyAt_row hT.1]; exact hT.2.1))
  have loop : ∀ (r i : Nat), i + r = e → b ≤ i → iwK (some sc) d (fun r hp => (r = some (.int (nI 0)) ∨ r = some (.int (nI 1))) ∧ hp = (gSh, M)) (3, [(4, .int (nI i)), (0, .ref 56), (1, .int (nI b)), (2, .int (nI e)), (3, .int (nI s0))], [], gSh, M) := by
    intro r
    induction r with
    | zero =>
      intro i hi hb
      refine ok_seq 2 (σ' := (6, [(4, .int (nI i)), (0, .ref 56), (1, .int (nI b)), (2, .int (nI e)), (3, .int (nI s0))], [.int (nI e), .int (nI i)], gSh, M)) rfl ?_
      refine ok_icmp 38 rfl rfl (fun _ => ?_) (fun hz => absurd (by simp only [pCP]; rw [hI_int (a := i) (by omega), hI_int (a := e) (by omega)]; omega) hz)
      refine ok_seq 1 (σ' := (39, [(4, .int (nI i)), (0, .ref 56), (1, .int (nI b)), (2, .int (nI e)), (3, .int (nI s0))], [.int (Int32.ofInt 1)], gSh, M)) rfl ?_
      rw [cI_1]
      exact ok_ret (i := .ireturn) (len := 1) rfl rfl ⟨some (.int (nI 1)), pb1, Or.inr rfl, rfl⟩
    | succ r ih =>
      intro i hi hb
      obtain ⟨x, hx, hx2⟩ := pt57 hT hM (k := s0 + i - b) (by omega)
      refine ok_seq 2 (σ' := (6, [(4, .int (nI i)), (0, .ref 56), (1, .int (nI b)), (2, .int (nI e)), (3, .int (nI s0))], [.int (nI e), .int (nI i)], gSh, M)) rfl ?_
      refine ok_icmp 38 rfl rfl (fun hz => absurd hz (by simp only [pCP]; rw [hI_int (a := i) (by omega), hI_int (a := e) (by omega)]; omega)) (fun _ => ?_)
      refine ok_seq 2 (σ' := (13, [(4, .int (nI i)), (0, .ref 56), (1, .int (nI b)), (2, .int (nI e)), (3, .int (nI s0))], [.int (nI i), .retAddr 2], gSh, M)) rfl ?_
      refine ok_chr rfl (by omega) rfl ?_
      refine ok_seq 2 (σ' := (20, [(4, .int (nI i)), (0, .ref 56), (1, .int (nI b)), (2, .int (nI e)), (3, .int (nI s0))], [M 56 0, .int (pChr i)], gSh, M)) rfl ?_
      rw [h0]
      refine ok_seq 5 (σ' := (26, [(4, .int (nI i)), (0, .ref 56), (1, .int (nI b)), (2, .int (nI e)), (3, .int (nI s0))], [.int (((nI s0) + (nI i)) - (nI b)), .ref 57, .int (pChr i)], gSh, M)) rfl ?_
      rw [hI_add s0 i, hI_sub (s0 + i) b (by omega)]
      refine ok_iald (n := 300) (v := nI x) rfl rfl (hI_in (by omega) (by decide)) (by rw [hI_nat (by omega)]; exact hx2) ?_
      refine ok_icmp 32 rfl rfl ?_ ?_
      · intro hc
        simp only [pCP] at hc
        rw [hI_int (a := x) (by omega)] at hc
        have hc : (pChr i).toInt = ((x : Nat) : Int) := by omega
        refine ok_seq 2 (σ' := (3, [(4, .int ((nI i) + (Int32.ofInt 1))), (0, .ref 56), (1, .int (nI b)), (2, .int (nI e)), (3, .int (nI s0))], [], gSh, M)) rfl ?_
        rw [cI_1, hI_add i 1]
        exact ih (i + 1) (by omega) (by omega)
      · intro hc
        simp only [pCP] at hc
        rw [hI_int (a := x) (by omega)] at hc
        have hc : (pChr i).toInt ≠ ((x : Nat) : Int) := by omega
        refine ok_seq 1 (σ' := (31, [(4, .int (nI i)), (0, .ref 56), (1, .int (nI b)), (2, .int (nI e)), (3, .int (nI s0))], [.int (Int32.ofInt 0)], gSh, M)) rfl ?_
        rw [cI_0]
        exact ok_ret (i := .ireturn) (len := 1) rfl rfl ⟨some (.int (nI 0)), pb0, Or.inl rfl, rfl⟩
  refine c_of_ok (Nat.le_of_ble_eq_true rfl) ?_
  refine ok_seq 2 (σ' := (3, [(4, .int (nI b)), (0, .ref 56), (1, .int (nI b)), (2, .int (nI e)), (3, .int (nI s0))], [], gSh, M)) rfl ?_
  exact loop (e - b) b (by omega) (Nat.le_refl _)
theorem c_isLt5 {S : pScr} {d : Nat} {M : pMem} {x : Int32} : cOk S (d + 1) 63 [.int x] (gSh, M) (fun r hp => (∃ b : Nat, b ≤ 1 ∧ r = some (.int (nI b))) ∧ hp = (gSh, M)) := by
  refine c_of_ok (Nat.le_of_ble_eq_true rfl) ?_
  refine ok_seq 2 (σ' := (3, [(0, .int x)], [.int ((Int8.ofInt 97).toInt32), .int x], gSh, M)) rfl ?_
  rw [(show (Int8.ofInt 97).toInt32 = nI 97 by decide)]
  refine ok_icmp 12 rfl rfl ?_ ?_
  · intro h1
    simp only [pCP] at h1
    rw [hI_int (a := 97) (by omega)] at h1
    have h1 : (x).toInt < ((97 : Nat) : Int) := by omega
    refine ok_seq 2 (σ' := (15, [(0, .int x)], [.int ((Int8.ofInt 65).toInt32), .int x], gSh, M)) rfl ?_
    rw [(show (Int8.ofInt 65).toInt32 = nI 65 by decide)]
    refine ok_icmp 28 rfl rfl ?_ ?_
    · intro h3
      simp only [pCP] at h3
      rw [hI_int (a := 65) (by omega)] at h3
      have h3 : (x).toInt < ((65 : Nat) : Int) := by omega
      refine ok_seq 1 (σ' := (29, [(0, .int x)], [.int (Int32.ofInt 0)], gSh, M)) rfl ?_
      rw [cI_0]
      exact ok_ret (i := .ireturn) (len := 1) rfl rfl ⟨some (.int (nI 0)), pb0, ⟨0, by decide, rfl⟩, rfl⟩
    · intro h3
      simp only [pCP] at h3
      rw [hI_int (a := 65) (by omega)] at h3
      have h3 : (x).toInt ≥ ((65 : Nat) : Int) := by omega
      refine ok_seq 2 (σ' := (21, [(0, .int x)], [.int ((Int8.ofInt 90).toInt32), .int x], gSh, M)) rfl ?_
      rw [(show (Int8.ofInt 90).toInt32 = nI 90 by decide)]
      refine ok_icmp 28 rfl rfl ?_ ?_
      · intro h4
        simp only [pCP] at h4
        rw [hI_int (a := 90) (by omega)] at h4
        have h4 : (x).toInt > ((90 : Nat) : Int) := by omega
        refine ok_seq 1 (σ' := (29, [(0, .int x)], [.int (Int32.ofInt 0)], gSh, M)) rfl ?_
        rw [cI_0]
        exact ok_ret (i := .ireturn) (len := 1) rfl rfl ⟨some (.int (nI 0)), pb0, ⟨0, by decide, rfl⟩, rfl⟩
      · intro h4
        simp only [pCP] at h4
        rw [hI_int (a := 90) (by omega)] at h4
        have h4 : (x).toInt ≤ ((90 : Nat) : Int) := by omega
        refine ok_seq 2 (σ' := (29, [(0, .int x)], [.int (Int32.ofInt 1)], gSh, M)) rfl ?_
        rw [cI_1]
        exact ok_ret (i := .ireturn) (len := 1) rfl rfl ⟨some (.int (nI 1)), pb1, ⟨1, by decide, rfl⟩, rfl⟩
  · intro h1
    simp only [pCP] at h1
    rw [hI_int (a := 97) (by omega)] at h1
    have h1 : (x).toInt ≥ ((97 : Nat) : Int) := by omega
    refine ok_seq 2 (σ' := (9, [(0, .int x)], [.int ((Int8.ofInt 122).toInt32), .int x], gSh, M)) rfl ?_
    rw [(show (Int8.ofInt 122).toInt32 = nI 122 by decide)]
    refine ok_icmp 24 rfl rfl ?_ ?_
    · intro h2
      simp only [pCP] at h2
      rw [hI_int (a := 122) (by omega)] at h2
      have h2 : (x).toInt ≤ ((122 : Nat) : Int) := by omega
      refine ok_seq 2 (σ' := (29, [(0, .int x)], [.int (Int32.ofInt 1)], gSh, M)) rfl ?_
      rw [cI_1]
      exact ok_ret (i := .ireturn) (len := 1) rfl rfl ⟨some (.int (nI 1)), pb1, ⟨1, by decide, rfl⟩, rfl⟩
    · intro h2
      simp only [pCP] at h2
      rw [hI_int (a := 122) (by omega)] at h2
      have h2 : (x).toInt > ((122 : Nat) : Int) := by omega
      refine ok_seq 2 (σ' := (15, [(0, .int x)], [.int ((Int8.ofInt 65).toInt32), .int x], gSh, M)) rfl ?_
      rw [(show (Int8.ofInt 65).toInt32 = nI 65 by decide)]
      refine ok_icmp 28 rfl rfl ?_ ?_
      · intro h3
        simp only [pCP] at h3
        rw [hI_int (a := 65) (by omega)] at h3
        have h3 : (x).toInt < ((65 : Nat) : Int) := by omega
        refine ok_seq 1 (σ' := (29, [(0, .int x)], [.int (Int32.ofInt 0)], gSh, M)) rfl ?_
        rw [cI_0]
        exact ok_ret (i := .ireturn) (len := 1) rfl rfl ⟨some (.int (nI 0)), pb0, ⟨0, by decide, rfl⟩, rfl⟩
      · intro h3
        simp only [pCP] at h3
        rw [hI_int (a := 65) (by omega)] at h3
        have h3 : (x).toInt ≥ ((65 : Nat) : Int) := by omega
        refine ok_seq 2 (σ' := (21, [(0, .int x)], [.int ((Int8.ofInt 90).toInt32), .int x], gSh, M)) rfl ?_
        rw [(show (Int8.ofInt 90).toInt32 = nI 90 by decide)]
        refine ok_icmp 28 rfl rfl ?_ ?_
        · intro h4
          simp only [pCP] at h4
          rw [hI_int (a := 90) (by omega)] at h4
          have h4 : (x).toInt > ((90 : Nat) : Int) := by omega
          refine ok_seq 1 (σ' := (29, [(0, .int x)], [.int (Int32.ofInt 0)], gSh, M)) rfl ?_
          rw [cI_0]
          exact ok_ret (i := .ireturn) (len := 1) rfl rfl ⟨some (.int (nI 0)), pb0, ⟨0, by decide, rfl⟩, rfl⟩
        · intro h4
          simp only [pCP] at h4
          rw [hI_int (a := 90) (by omega)] at h4
          have h4 : (x).toInt ≤ ((90 : Nat) : Int) := by omega
          refine ok_seq 2 (σ' := (29, [(0, .int x)], [.int (Int32.ofInt 1)], gSh, M)) rfl ?_
          rw [cI_1]
          exact ok_ret (i := .ireturn) (len := 1) rfl rfl ⟨some (.int (nI 1)), pb1, ⟨1, by decide, rfl⟩, rfl⟩
abbrev swK (S : pScr) (d : Nat) (Q : Option Value → pHp → Prop) (σ : pSt) : Prop := pOk S 5 false 5 (pCode 58) d (fun i len τ' => ∃ v, pRet (some .int) i len τ'.2.2.1 = some v ∧ Q v (τ'.2.2.2.1, τ'.2.2.2.2)) σ
theorem sw_words {sc : Nat × (Nat → Int32)} {d st sp : Nat} {τ : fT} {M0 M : pMem} (hT : pS5 τ) (hM : tyM (tOf τ) M) (hF : ∀ o, o ≠ 56 → M o = M0 o) (h8 : M 56 8 = .int (nI sp)) (hst : st ≤ sp) (hsp : sp ≤ 300) : ∀ (r i b w : Nat), i + r = 97 → b ≤ i → w ≤ i → swK (some sc) (d + 1) (fun r hp => hp.1 = gSh ∧ (∃ n : Nat, n ≤ 97 ∧ r = some (.int (nI n))) ∧ tyM (tOf τ) hp.2 ∧ ∀ o, o ≠ 56 → hp.2 o = M0 o) (51, [(4, .int (nI i)), (3, .int (nI b)), (2, .int (nI w)), (1, .int (nI st)), (0, .ref 56)], [], gSh, M) := by
  intro r
  induction r with
  | zero =>
    intro i b w hi hb hw
    refine ok_seq 2 (σ' := (55, [(4, .int (nI i)), (3, .int (nI b)), (2, .int (nI w)), (1, .int (nI st)), (0, .ref 56)], [.retAddr 2, .int (nI i)], gSh, M)) rfl ?_
    refine ok_seq 1 (σ' := (58, [(4, .int (nI i)), (3, .int (nI b)), (2, .int (nI w)), (1, .int (nI st)), (0, .ref 56)], [.int ((97 : Int32)), .int (nI i)], gSh, M)) rfl ?_
    rw [show (97 : Int32) = nI 97 by decide]
    refine ok_icmp 113 rfl rfl (fun _ => ?_) (fun hz => absurd (by simp only [pCP]; rw [hI_int (a := i) (by omega), hI_int (a := 97) (by omega)]; omega) hz)
    refine ok_seq 1 (σ' := (115, [(4, .int (nI i)), (3, .int (nI b)), (2, .int (nI w)), (1, .int (nI st)), (0, .ref 56)], [.int ((Int8.ofInt 51).toInt32)], gSh, M)) rfl ?_
    rw [(show (Int8.ofInt 51).toInt32 = nI 51 by decide)]
    exact ok_ret (i := .ireturn) (len := 1) rfl rfl ⟨some (.int (nI 51)), rfl, rfl, ⟨51, by decide, rfl⟩, hM, hF⟩
  | succ r ih =>
    intro i b w hi hb hw
    refine ok_seq 2 (σ' := (55, [(4, .int (nI i)), (3, .int (nI b)), (2, .int (nI w)), (1, .int (nI st)), (0, .ref 56)], [.retAddr 2, .int (nI i)], gSh, M)) rfl ?_
    refine ok_seq 1 (σ' := (58, [(4, .int (nI i)), (3, .int (nI b)), (2, .int (nI w)), (1, .int (nI st)), (0, .ref 56)], [.int ((97 : Int32)), .int (nI i)], gSh, M)) rfl ?_
    rw [show (97 : Int32) = nI 97 by decide]
    refine ok_icmp 113 rfl rfl (fun hz => absurd hz (by simp only [pCP]; rw [hI_int (a := i) (by omega), hI_int (a := 97) (by omega)]; omega)) (fun _ => ?_)
    refine ok_seq 2 (σ' := (65, [(4, .int (nI i)), (3, .int (nI b)), (2, .int (nI w)), (1, .int (nI st)), (0, .ref 56)], [.int (nI i), .retAddr 2], gSh, M)) rfl ?_
    refine ok_chr rfl (by omega) rfl ?_
    refine ok_seq 1 (σ' := (70, [(4, .int (nI i)), (3, .int (nI b)), (2, .int (nI w)), (1, .int (nI st)), (0, .ref 56)], [.int ((Int8.ofInt 32).toInt32), .int (pChr i)], gSh, M)) rfl ?_
    rw [(show (Int8.ofInt 32).toInt32 = nI 32 by decide)]
    refine ok_icmp 107 rfl rfl ?_ ?_
    · intro hc
      simp only [pCP] at hc
      rw [hI_int (a := 32) (by omega)] at hc
      have hc : (pChr i).toInt ≠ ((32 : Nat) : Int) := by omega
      refine ok_seq 2 (σ' := (51, [(4, .int ((nI i) + (Int32.ofInt 1))), (3, .int (nI b)), (2, .int (nI w)), (1, .int (nI st)), (0, .ref 56)], [], gSh, M)) rfl ?_
      rw [cI_1, hI_add i 1]
      exact ih (i + 1) b w (by omega) (by omega) (by omega)
    · intro hc
      simp only [pCP] at hc
      rw [hI_int (a := 32) (by omega)] at hc
      have hc : (pChr i).toInt = ((32 : Nat) : Int) := by omega
      refine ok_seq 5 (σ' := (81, [(4, .int (nI i)), (3, .int (nI b)), (2, .int (nI w)), (1, .int (nI st)), (0, .ref 56)], [M 56 8, .int ((nI i) - (nI b))], gSh, M)) rfl ?_
      rw [h8]
      rw [hI_sub i b (by omega)]
      refine ok_seq 2 (σ' := (83, [(4, .int (nI i)), (3, .int (nI b)), (2, .int (nI w)), (1, .int (nI st)), (0, .ref 56)], [.int ((nI sp) - (nI st)), .int (nI (i - b))], gSh, M)) rfl ?_
      rw [hI_sub sp st (by omega)]
      refine ok_icmp 99 rfl rfl ?_ ?_
      · intro hl
        simp only [pCP] at hl
        rw [hI_int (a := i - b) (by omega), hI_int (a := sp - st) (by omega)] at hl
        have hl : ((i - b : Nat) : Int) ≠ ((sp - st : Nat) : Int) := by omega
        refine ok_seq 7 (σ' := (51, [(4, .int ((nI i) + (Int32.ofInt 1))), (3, .int ((nI i) + (Int32.ofInt 1))), (2, .int ((nI w) + (Int32.ofInt 1))), (1, .int (nI st)), (0, .ref 56)], [], gSh, M)) rfl ?_
        rw [cI_1, hI_add i 1, hI_add w 1]
        exact ih (i + 1) (i + 1) (w + 1) (by omega) (by omega) (by omega)
      · intro hl
        simp only [pCP] at hl
        rw [hI_int (a := i - b) (by omega), hI_int (a := sp - st) (by omega)] at hl
        have hl : ((i - b : Nat) : Int) = ((sp - st : Nat) : Int) := by omega
        refine ok_seq 4 (σ' := (91, [(4, .int (nI i)), (3, .int (nI b)), (2, .int (nI w)), (1, .int (nI st)), (0, .ref 56)], [.int (nI st), .int (nI i), .int (nI b), .ref 56], gSh, M)) rfl ?_
        refine ok_call (mi := 59) (as := [.ref 56, .int (nI b), .int (nI i), .int (nI st)]) (pc' := 94) (L' := [(4, .int (nI i)), (3, .int (nI b)), (2, .int (nI w)), (1, .int (nI st)), (0, .ref 56)]) (st' := []) (sh' := gSh) (M' := M) (i := .invokevirtual 126) (len := 3) rfl rfl ?_
        refine (((c_isWord (d := 0) (s0 := st) hT hM hb (by omega) (by omega)).deep (by omega))).mono ?_
        rintro v hp ⟨hv, rfl⟩
        rcases hv with rfl | rfl
        · refine ok_if 99 rfl rfl (fun _ => ?_) (fun hz => absurd (by simp only [pCP]; rw [hI_int (a := 0) (by omega)]; omega) hz)
          refine ok_seq 7 (σ' := (51, [(4, .int ((nI i) + (Int32.ofInt 1))), (3, .int ((nI i) + (Int32.ofInt 1))), (2, .int ((nI w) + (Int32.ofInt 1))), (1, .int (nI st)), (0, .ref 56)], [], gSh, M)) rfl ?_
          rw [cI_1, hI_add i 1, hI_add w 1]
          exact ih (i + 1) (i + 1) (w + 1) (by omega) (by omega) (by omega)
        · refine ok_if 99 rfl rfl (fun hz => absurd hz (by simp only [pCP]; rw [hI_int (a := 1) (by omega)]; omega)) (fun _ => ?_)
          refine ok_seq 1 (σ' := (98, [(4, .int (nI i)), (3, .int (nI b)), (2, .int (nI w)), (1, .int (nI st)), (0, .ref 56)], [.int (nI w)], gSh, M)) rfl ?_
          exact ok_ret (i := .ireturn) (len := 1) rfl rfl ⟨some (.int (nI w)), rfl, rfl, ⟨w, by omega, rfl⟩, hM, hF⟩
theorem sw_letters {sc : Nat × (Nat → Int32)} {d st by' : Nat} {τ : fT} {M0 : pMem} (hT : pS5 τ) (hby : by' ≤ 300) (h4 : M0 56 4 = .int (nI by')) : ∀ (r sp : Nat) (M : pMem), 300 - sp = r → sp ≤ 300 → st ≤ sp → tyM (tOf τ) M → (∀ o, o ≠ 56 → M o = M0 o) → M 56 4 = M0 56 4 → M 56 8 = .int (nI sp) → swK (some sc) (d + 1) (fun r hp => hp.1 = gSh ∧ (∃ n : Nat, n ≤ 97 ∧ r = some (.int (nI n))) ∧ tyM (tOf τ) hp.2 ∧ ∀ o, o ≠ 56 → hp.2 o = M0 o) (5, [(1, .int (nI st)), (0, .ref 56)], [], gSh, M) := by
  intro r
  induction r using Nat.strongRecOn with
  | _ r ih =>
  intro sp M hr hsp hst hM hF h4e h8
  have h0 : M 56 0 = .ref 57 := ty_ref (hM 56 0 _ (by decide) (by rw [tyAt_row hT.1]; exact hT.2.1))
  have h4 : M 56 4 = .int (nI by') := by rw [h4e]; exact h4
  have fin : swK (some sc) (d + 1) (fun r hp => hp.1 = gSh ∧ (∃ n : Nat, n ≤ 97 ∧ r = some (.int (nI n))) ∧ tyM (tOf τ) hp.2 ∧ ∀ o, o ≠ 56 → hp.2 o = M0 o) (44, [(1, .int (nI st)), (0, .ref 56)], [], gSh, M) := by
    refine ok_seq 6 (σ' := (51, [(4, .int (Int32.ofInt 0)), (3, .int (Int32.ofInt 0)), (2, .int (Int32.ofInt 0)), (1, .int (nI st)), (0, .ref 56)], [], gSh, M)) rfl ?_
    rw [cI_0]
    exact sw_words hT hM hF h8 hst hsp 97 0 0 0 rfl (Nat.le_refl _) (Nat.le_refl _)
  refine ok_seq 2 (σ' := (9, [(1, .int (nI st)), (0, .ref 56)], [M 56 8], gSh, M)) rfl ?_
  rw [h8]
  refine ok_seq 2 (σ' := (13, [(1, .int (nI st)), (0, .ref 56)], [M 56 4, .int (nI sp)], gSh, M)) rfl ?_
  rw [h4]
  refine ok_icmp 44 rfl rfl ?_ ?_
  · intro hb
    simp only [pCP] at hb
    rw [hI_int (a := sp) (by omega), hI_int (a := by') (by omega)] at hb
    have hb : ((sp : Nat) : Int) ≥ ((by' : Nat) : Int) := by omega
    exact fin
  · intro hb
    simp only [pCP] at hb
    rw [hI_int (a := sp) (by omega), hI_int (a := by') (by omega)] at hb
    have hb : ((sp : Nat) : Int) < ((by' : Nat) : Int) := by omega
    obtain ⟨x, hx, hx2⟩ := pt57 hT hM (k := sp) (by omega)
    refine ok_seq 2 (σ' := (20, [(1, .int (nI st)), (0, .ref 56)], [M 56 0], gSh, M)) rfl ?_
    rw [h0]
    refine ok_seq 2 (σ' := (24, [(1, .int (nI st)), (0, .ref 56)], [M 56 8, .ref 57], gSh, M)) rfl ?_
    rw [h8]
    refine ok_iald (n := 300) (v := nI x) rfl rfl (hI_in (by omega) (by decide)) (by rw [hI_nat (by omega)]; exact hx2) ?_
    refine ok_call (mi := 63) (as := [.int (nI x)]) (pc' := 28) (L' := [(1, .int (nI st)), (0, .ref 56)]) (st' := []) (sh' := gSh) (M' := M) (i := .invokestatic 100) (len := 3) rfl rfl ?_
    refine (((c_isLt5 (d := 0)).deep (by omega))).mono ?_
    rintro v hp ⟨⟨lb, hlb, rfl⟩, rfl⟩
    refine ok_if 44 rfl rfl ?_ ?_
    · intro hl
      simp only [pCP] at hl
      rw [hI_int (a := lb) (by omega)] at hl
      have hl : ((lb : Nat) : Int) = (0 : Int) := by omega
      exact fin
    · intro hl
      simp only [pCP] at hl
      rw [hI_int (a := lb) (by omega)] at hl
      have hl : ((lb : Nat) : Int) ≠ (0 : Int) := by omega
      refine ok_seq 3 (σ' := (36, [(1, .int (nI st)), (0, .ref 56)], [M 56 8, .ref 56], gSh, M)) rfl ?_
      rw [h8]
      refine ok_seq 2 (σ' := (38, [(1, .int (nI st)), (0, .ref 56)], [.int ((nI sp) + (Int32.ofInt 1)), .ref 56], gSh, M)) rfl ?_
      rw [cI_1, hI_add sp 1]
      refine ok_put (q := 97) (ci := 5) (k := 8) (n := 12) (ty := .int) rfl rfl rfl rfl rfl rfl (fi_int _) ?_
      refine ok_seq 1 (σ' := (5, [(1, .int (nI st)), (0, .ref 56)], [], gSh, pUp M 56 8 (.int (nI (sp + 1))))) rfl ?_
      exact ih (300 - (sp + 1)) (by omega) (sp + 1) _ rfl (by omega) (by omega) (tyM_up hM (by rw [tyAt_row hT.1]; exact hT.2.2.2.1) (sat_n (by omega) (by omega))) (fun o ho => by rw [pUp_ne ho]; exact hF o ho) (by rw [pUp_other _ _ _ _ (by decide)]; exact h4e) (pUp_self _ _ _ _)
theorem h_splitWord {sc : Nat × (Nat → Int32)} {d : Nat} {τ : fT} (hT : pS5 τ) : cnOk τ (some sc) (d + 2) 58 ([(1, 0, 0, [56])], [(0, 0, 97, [])], some [56], [], []) := by
  intro vs M hvs hM hg hf
  match vs, hvs with
  | [v0], ⟨k0, _⟩ =>
    have k0 := ty_ref k0
    subst k0
    have post : ∀ (r : Option Value) (hp : pHp), (fun r hp => hp.1 = gSh ∧ (∃ n : Nat, n ≤ 97 ∧ r = some (.int (nI n))) ∧ tyM (tOf τ) hp.2 ∧ ∀ o, o ≠ 56 → hp.2 o = M o) r hp → (hp.1 = gSh ∧ tyM (tOf τ) hp.2 ∧ satS [(0, 0, 97, [])] r.toList ∧ frm (some [56]) M hp.2 ∧ fctM [] hp.2) := by
      rintro r hp ⟨q1, ⟨n, hn, rfl⟩, q3, q4⟩
      exact ⟨q1, q3, ⟨sat_n (by omega) (by omega), trivial⟩, ⟨fun o ho => q4 o (fun hz => ho (by rw [hz]; decide)), q4 188 (by decide), q4 187 (by decide), fun k _ => by rw [q4 186 (by decide)]⟩, fun q hq => by cases hq⟩
    refine cOk.mono ?_ post
    refine c_of_ok (Nat.le_of_ble_eq_true rfl) ?_
    obtain ⟨sp, hsp, h8⟩ := ty_nat (hM 56 8 _ (by decide) (by rw [tyAt_row hT.1]; exact hT.2.2.2.1))
    obtain ⟨by', hby, h4⟩ := ty_nat (hM 56 4 _ (by decide) (by rw [tyAt_row hT.1]; exact hT.2.2.1))
    refine ok_seq 2 (σ' := (4, [(0, .ref 56)], [M 56 8], gSh, M)) rfl ?_
    rw [h8]
    refine ok_seq 1 (σ' := (5, [(1, .int (nI sp)), (0, .ref 56)], [], gSh, M)) rfl ?_
    exact sw_letters (st := sp) hT (by omega) h4 _ sp M rfl (by omega) (Nat.le_refl _) hM (fun _ _ => rfl) rfl h8

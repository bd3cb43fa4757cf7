/-! by hand, printed by wip/gen/gen41.py -/
theorem pb0 : pRet (some .boolean) .ireturn 1 [.int (nI 0)] = some (some (.int (nI 0))) := by
  show (if nI 0 &&& 1 = nI 0 then some (some (Value.int (nI 0))) else none) = _
  rw [if_pos (by decide)]
theorem pb1 : pRet (some .boolean) .ireturn 1 [.int (nI 1)] = some (some (.int (nI 1))) := by
  show (if nI 1 &&& 1 = nI 1 then some (some (Value.int (nI 1))) else none) = _
  rw [if_pos (by decide)]
abbrev whK (S : pScr) (d : Nat) (Q : Option Value → pHp → Prop) (σ : pSt) : Prop := pOk S 12 false 1 (pCode 188) d (fun i len τ' => ∃ v, pRet none i len τ'.2.2.1 = some v ∧ Q v (τ'.2.2.2.1, τ'.2.2.2.2)) σ
theorem wh_loop {S : pScr} {d s n i0 n0 W nb : Nat} {D : Nat × Nat} {τ : fT} {M0 Mi : pMem} {Q : Option Value → pHp → Prop} (hT : pT τ) (hD : 1 ≤ D.1) (hW : W ≤ 300) (hQ : ∀ (M' : pMem) (ps' : List Nat) (w' : Nat), PQ τ s n i0 D w' ps' n0 M0 M' → nBin ps' = nb → w' + nPar ps' = W → M' 185 22 = .int (nI 1) → FK [17, 20, 21, 22] Mi M' → Q none (gSh, M')) : ∀ (ps : List Nat) (w : Nat) (M : pMem), PQ τ s n i0 D w ps n0 M0 M → nBin ps = nb → w + nPar ps = W → M 185 22 = .int (nI 1) → FK [17, 20, 21, 22] Mi M → whK S (d + 1) Q (5, [(0, .ref 185)], [], gSh, M) := by
  intro ps
  induction ps with
  | nil =>
    intro w M hq hb hw h22 hf
    have h20 : M 185 20 = .int (nI 0) := hq.1.2.2.1.2.2
    refine ok_seq 2 (σ' := (9, [(0, .ref 185)], [M 185 20], gSh, M)) rfl ?_
    rw [h20]
    refine ok_if 56 rfl rfl (fun _ => ?_) (fun hz => absurd (by simp only [pCP]; rw [hI_int (a := 0) (by omega)]; omega) hz)
    exact ok_ret (i := .return_) (len := 1) rfl rfl ⟨none, rfl, hQ M [] w hq hb hw h22 hf⟩
  | cons p t ih =>
    intro w M hq hb hw h22 hf
    have h20 : M 185 20 = .int (nI (t.length + 1)) := hq.1.2.2.1.2.2
    have h19 := ty_ref (pty hT hq.1.1.1 12 rfl rfl)
    have h21 := hq.1.2.2.2.1
    have htop : M 190 t.length = .int (nI p) := hq.1.2.2.1.1.1
    have hp := hq.1.2.2.1.2.1.1
    have hl := hq.1.len
    have hl : t.length + 1 ≤ 26 := hl
    have hn := hq.1.2.2.2.2
    refine ok_seq 2 (σ' := (9, [(0, .ref 185)], [M 185 20], gSh, M)) rfl ?_
    rw [h20]
    refine ok_if 56 rfl rfl (fun hz => absurd hz (by simp only [pCP]; rw [hI_int (a := t.length + 1) (by omega)]; omega)) (fun _ => ?_)
    refine ok_seq 2 (σ' := (16, [(0, .ref 185)], [M 185 19], gSh, M)) rfl ?_
    rw [h19]
    refine ok_seq 2 (σ' := (20, [(0, .ref 185)], [M 185 20, .ref 190], gSh, M)) rfl ?_
    rw [h20]
    refine ok_seq 2 (σ' := (22, [(0, .ref 185)], [.int ((nI (t.length + 1)) - (Int32.ofInt 1)), .ref 190], gSh, M)) rfl ?_
    rw [cI_1, hI_sub (t.length + 1) 1 (by omega)]
    refine ok_iald (n := 160) (v := nI p) rfl rfl (hI_in (by omega) (by decide)) (by rw [hI_nat (by omega)]; exact htop) ?_
    refine ok_seq 1 (σ' := (24, [(0, .ref 185)], [.int (Int32.ofInt 2), .int (nI p)], gSh, M)) rfl ?_
    rw [cI_2]
    refine ok_icmp 56 rfl rfl ?_ ?_
    · intro hc
      simp only [pCP] at hc
      rw [hI_int (a := p) (by omega), hI_int (a := 2) (by omega)] at hc
      have hc : ((p : Nat) : Int) ≠ ((2 : Nat) : Int) := by omega
      exact ok_ret (i := .return_) (len := 1) rfl rfl ⟨none, rfl, hQ M (p :: t) w hq hb hw h22 hf⟩
    · intro hc
      simp only [pCP] at hc
      rw [hI_int (a := p) (by omega), hI_int (a := 2) (by omega)] at hc
      have hc : ((p : Nat) : Int) = ((2 : Nat) : Int) := by omega
      have e2 : p = 2 := by omega
      subst e2
      have k1 : nNon (2 :: t) = 1 + nNon t := nNon_2 (by decide)
      have k2 : nBin (2 :: t) = nBin t := nBin_2 (by decide)
      have k3 : nPar (2 :: t) = 1 + nPar t := nPar_n (by decide)
      refine ok_seq 3 (σ' := (32, [(0, .ref 185)], [M 185 20, .ref 185], gSh, M)) rfl ?_
      rw [h20]
      refine ok_seq 2 (σ' := (34, [(0, .ref 185)], [.int ((nI (t.length + 1)) - (Int32.ofInt 1)), .ref 185], gSh, M)) rfl ?_
      rw [cI_1, hI_sub (t.length + 1) 1 (by omega)]
      refine ok_put (q := 160) (ci := 12) (k := 20) (n := 47) (ty := .int) rfl rfl rfl rfl rfl rfl (fi_int _) ?_
      refine ok_seq 3 (σ' := (42, [(0, .ref 185)], [M 185 21, .ref 185], gSh, pUp M 185 20 (.int (nI ((t.length + 1) - 1))))) rfl ?_
      rw [h21]
      refine ok_seq 2 (σ' := (44, [(0, .ref 185)], [.int ((nI (n0 + nNon (2 :: t))) - (Int32.ofInt 1)), .ref 185], gSh, pUp M 185 20 (.int (nI ((t.length + 1) - 1))))) rfl ?_
      rw [cI_1, hI_sub (n0 + nNon (2 :: t)) 1 (by omega)]
      refine ok_put (q := 167) (ci := 12) (k := 21) (n := 47) (ty := .int) rfl rfl rfl rfl rfl rfl (fi_int _) ?_
      refine ok_seq 3 (σ' := (50, [(0, .ref 185)], [.int (Int32.ofInt 0), .int (Int32.ofInt 2), .ref 185], gSh, pUp (pUp M 185 20 (.int (nI ((t.length + 1) - 1)))) 185 21 (.int (nI ((n0 + nNon (2 :: t)) - 1))))) rfl ?_
      rw [cI_2, cI_0]
      have hq1 : PQ τ s n i0 D w t n0 M0 (pUp (pUp M 185 20 (.int (nI ((t.length + 1) - 1)))) 185 21 (.int (nI ((n0 + nNon (2 :: t)) - 1)))) := hq.pop (ptu hT (ptu hT hq.1.1.1 13 rfl (sat_n (by omega) (by omega))) 14 rfl (sat_a _)) (fun o ho => by rw [pUp_ne ho, pUp_ne ho]) rfl rfl rfl (by rw [pUp_self, k1, show n0 + (1 + nNon t) - 1 = n0 + nNon t by omega]) (by omega)
      refine ok_call (mi := 186) (as := [.ref 185, .int (nI 2), .int (nI 0)]) (pc' := 53) (L' := [(0, .ref 185)]) (st' := []) (sh' := gSh) (M' := pUp (pUp M 185 20 (.int (nI ((t.length + 1) - 1)))) 185 21 (.int (nI ((n0 + nNon (2 :: t)) - 1)))) (i := .invokevirtual 170) (len := 3) rfl rfl ?_
      refine (c_emitQ (d := d) hT hq1 (D' := D) (o := nI 2) (v := nI 0) (Or.inr (Or.inr (Or.inl ⟨by decide, hD, rfl⟩))) (by omega)).mono ?_
      rintro v ⟨sh2, M2⟩ ⟨rfl, hsh, hq2, hf2⟩
      have hsh : sh2 = gSh := hsh
      subst hsh
      dsimp only at hq2 hf2
      refine ok_seq 1 (σ' := (5, [(0, .ref 185)], [], gSh, M2)) rfl ?_
      refine ih (w + 1) M2 hq2 (by omega) (by omega) ?_ ?_
      · rw [hf2 22 (by decide)]
        exact h22
      · intro f hz
        simp only [List.mem_cons, List.not_mem_nil, or_false, not_or] at hz
        rw [hf2 f (by simp only [List.mem_cons, List.not_mem_nil, or_false]; exact hz.1), pUp_other _ _ _ _ (fun z => hz.2.2.1 z.2), pUp_other _ _ _ _ (fun z => hz.2.1 z.2)]
        exact hf f (by simp only [List.mem_cons, List.not_mem_nil, or_false, not_or]; exact hz)
theorem c_whole {S : pScr} {d s n i0 n0 w : Nat} {D : Nat × Nat} {ps : List Nat} {τ : fT} {M0 M : pMem} (hT : pT τ) (hq : PQ τ s n i0 D w ps n0 M0 M) (hD : 1 ≤ D.1) (hW : w + nPar ps ≤ 300) : cOk S (d + 2) 188 [.ref 185] (gSh, M) (fun r hp => r = none ∧ hp.1 = gSh ∧ ∃ ps' w', PQ τ s n i0 D w' ps' n0 M0 hp.2 ∧ nBin ps' = nBin ps ∧ w' + nPar ps' = w + nPar ps ∧ hp.2 185 22 = .int (nI 1) ∧ FK [17, 20, 21, 22] M hp.2) := by
  refine c_of_ok (Nat.le_of_ble_eq_true rfl) ?_
  refine ok_seq 2 (σ' := (2, [(0, .ref 185)], [.int (Int32.ofInt 1), .ref 185], gSh, M)) rfl ?_
  rw [cI_1]
  refine ok_put (q := 163) (ci := 12) (k := 22) (n := 47) (ty := .boolean) rfl rfl rfl rfl rfl rfl fi_b1 ?_
  refine wh_loop (Mi := M) (nb := nBin ps) (W := w + nPar ps) (Q := fun r hp => r = none ∧ hp.1 = gSh ∧ ∃ ps' w', PQ τ s n i0 D w' ps' n0 M0 hp.2 ∧ nBin ps' = nBin ps ∧ w' + nPar ps' = w + nPar ps ∧ hp.2 185 22 = .int (nI 1) ∧ FK [17, 20, 21, 22] M hp.2) hT hD hW (fun M' ps' w' a1 a2 a3 a4 a5 => ⟨rfl, rfl, ps', w', a1, a2, a3, a4, a5⟩) ps w _ ?_ rfl rfl rfl ?_
  · exact hq.fields (ptu hT hq.1.1.1 15 rfl (sat_n (by decide) (by decide))) (fun o ho => pUp_ne ho) rfl rfl rfl rfl
  · intro f hz
    simp only [List.mem_cons, List.not_mem_nil, or_false, not_or] at hz
    exact pUp_other _ _ _ _ (fun z => hz.2.2.2 z.2)
abbrev seK (S : pScr) (d : Nat) (Q : Option Value → pHp → Prop) (σ : pSt) : Prop := pOk S 12 false 2 (pCode 189) d (fun i len τ' => ∃ v, pRet none i len τ'.2.2.1 = some v ∧ Q v (τ'.2.2.2.1, τ'.2.2.2.2)) σ
theorem se_loop {S : pScr} {d s n i0 n0 W nn v0 D2 ls : Nat} {hp40 : Prop} {τ : fT} {M0 Mi : pMem} {Q : Option Value → pHp → Prop} (hT : pT τ) (hls : 3 ≤ ls ∧ ls < 40) (hW : W ≤ 300) (hQ : ∀ (M' : pMem) (ps' : List Nat) (w' : Nat) (D' : Nat × Nat), PQ τ s n i0 D' w' ps' n0 M0 M' → v0 + nBin ps' + 1 ≤ D'.1 → D'.2 = D2 → w' + nPar ps' = W → nNon ps' = nn → (hp40 → 40 ∈ ps') → (∀ p t, ps' = p :: t → ¬ (ls ≤ p ∧ p < 40)) → FK [17, 20] Mi M' → Q none (gSh, M')) : ∀ (ps : List Nat) (w : Nat) (D : Nat × Nat) (M : pMem), PQ τ s n i0 D w ps n0 M0 M → v0 + nBin ps + 1 ≤ D.1 → D.2 = D2 → w + nPar ps = W → nNon ps = nn → (hp40 → 40 ∈ ps) → FK [17, 20] Mi M → seK S (d + 1) Q (0, [(0, .ref 185), (1, .int (nI ls))], [], gSh, M) := by
  intro ps
  induction ps with
  | nil =>
    intro w D M hq hb hD2 hw hnn h40 hf
    have h20 : M 185 20 = .int (nI 0) := hq.1.2.2.1.2.2
    refine ok_seq 2 (σ' := (4, [(0, .ref 185), (1, .int (nI ls))], [M 185 20], gSh, M)) rfl ?_
    rw [h20]
    refine ok_if 65 rfl rfl (fun _ => ?_) (fun hz => absurd (by simp only [pCP]; rw [hI_int (a := 0) (by omega)]; omega) hz)
    exact ok_ret (i := .return_) (len := 1) rfl rfl ⟨none, rfl, hQ M [] w D hq hb hD2 hw hnn h40 (fun p t hz => by cases hz) hf⟩
  | cons p t ih =>
    intro w D M hq hb hD2 hw hnn h40 hf
    have h20 : M 185 20 = .int (nI (t.length + 1)) := hq.1.2.2.1.2.2
    have h19 := ty_ref (pty hT hq.1.1.1 12 rfl rfl)
    have htop : M 190 t.length = .int (nI p) := hq.1.2.2.1.1.1
    have hp := hq.1.2.2.1.2.1.1
    have hl := hq.1.len
    have hl : t.length + 1 ≤ 26 := hl
    have hn := hq.1.2.2.2.2
    refine ok_seq 2 (σ' := (4, [(0, .ref 185), (1, .int (nI ls))], [M 185 20], gSh, M)) rfl ?_
    rw [h20]
    refine ok_if 65 rfl rfl (fun hz => absurd hz (by simp only [pCP]; rw [hI_int (a := t.length + 1) (by omega)]; omega)) (fun _ => ?_)
    refine ok_seq 2 (σ' := (11, [(0, .ref 185), (1, .int (nI ls))], [M 185 19], gSh, M)) rfl ?_
    rw [h19]
    refine ok_seq 2 (σ' := (15, [(0, .ref 185), (1, .int (nI ls))], [M 185 20, .ref 190], gSh, M)) rfl ?_
    rw [h20]
    refine ok_seq 2 (σ' := (17, [(0, .ref 185), (1, .int (nI ls))], [.int ((nI (t.length + 1)) - (Int32.ofInt 1)), .ref 190], gSh, M)) rfl ?_
    rw [cI_1, hI_sub (t.length + 1) 1 (by omega)]
    refine ok_iald (n := 160) (v := nI p) rfl rfl (hI_in (by omega) (by decide)) (by rw [hI_nat (by omega)]; exact htop) ?_
    refine ok_seq 1 (σ' := (20, [(0, .ref 185), (1, .int (nI ls))], [.int ((Int8.ofInt 40).toInt32), .int (nI p)], gSh, M)) rfl ?_
    rw [(show (Int8.ofInt 40).toInt32 = nI 40 by decide)]
    refine ok_icmp 65 rfl rfl ?_ ?_
    · intro hc
      simp only [pCP] at hc
      rw [hI_int (a := p) (by omega), hI_int (a := 40) (by omega)] at hc
      have hc : ((p : Nat) : Int) ≥ ((40 : Nat) : Int) := by omega
      exact ok_ret (i := .return_) (len := 1) rfl rfl ⟨none, rfl, hQ M (p :: t) w D hq hb hD2 hw hnn h40 (fun p2 t2 hz => by cases hz; omega) hf⟩
    · intro hc
      simp only [pCP] at hc
      rw [hI_int (a := p) (by omega), hI_int (a := 40) (by omega)] at hc
      have hc : ((p : Nat) : Int) < ((40 : Nat) : Int) := by omega
      refine ok_seq 2 (σ' := (27, [(0, .ref 185), (1, .int (nI ls))], [M 185 19], gSh, M)) rfl ?_
      rw [h19]
      refine ok_seq 2 (σ' := (31, [(0, .ref 185), (1, .int (nI ls))], [M 185 20, .ref 190], gSh, M)) rfl ?_
      rw [h20]
      refine ok_seq 2 (σ' := (33, [(0, .ref 185), (1, .int (nI ls))], [.int ((nI (t.length + 1)) - (Int32.ofInt 1)), .ref 190], gSh, M)) rfl ?_
      rw [cI_1, hI_sub (t.length + 1) 1 (by omega)]
      refine ok_iald (n := 160) (v := nI p) rfl rfl (hI_in (by omega) (by decide)) (by rw [hI_nat (by omega)]; exact htop) ?_
      refine ok_seq 1 (σ' := (35, [(0, .ref 185), (1, .int (nI ls))], [.int (nI ls), .int (nI p)], gSh, M)) rfl ?_
      refine ok_icmp 65 rfl rfl ?_ ?_
      · intro hd
        simp only [pCP] at hd
        rw [hI_int (a := p) (by omega), hI_int (a := ls) (by omega)] at hd
        have hd : ((p : Nat) : Int) < ((ls : Nat) : Int) := by omega
        exact ok_ret (i := .return_) (len := 1) rfl rfl ⟨none, rfl, hQ M (p :: t) w D hq hb hD2 hw hnn h40 (fun p2 t2 hz => by cases hz; omega) hf⟩
      · intro hd
        simp only [pCP] at hd
        rw [hI_int (a := p) (by omega), hI_int (a := ls) (by omega)] at hd
        have hd : ((p : Nat) : Int) ≥ ((ls : Nat) : Int) := by omega
        have hpb : 3 ≤ p ∧ p ≤ 6 := by omega
        have k1 : nNon (p :: t) = nNon t := nNon_b hpb
        have k2 : nBin (p :: t) = 1 + nBin t := nBin_b hpb
        have k3 : nPar (p :: t) = 1 + nPar t := nPar_n (by omega)
        refine ok_seq 3 (σ' := (43, [(0, .ref 185), (1, .int (nI ls))], [M 185 20, .ref 185], gSh, M)) rfl ?_
        rw [h20]
        refine ok_seq 2 (σ' := (45, [(0, .ref 185), (1, .int (nI ls))], [.int ((nI (t.length + 1)) - (Int32.ofInt 1)), .ref 185], gSh, M)) rfl ?_
        rw [cI_1, hI_sub (t.length + 1) 1 (by omega)]
        refine ok_put (q := 160) (ci := 12) (k := 20) (n := 47) (ty := .int) rfl rfl rfl rfl rfl rfl (fi_int _) ?_
        refine ok_seq 3 (σ' := (53, [(0, .ref 185), (1, .int (nI ls))], [M 185 19, .ref 185], gSh, pUp M 185 20 (.int (nI ((t.length + 1) - 1))))) rfl ?_
        rw [h19]
        refine ok_seq 2 (σ' := (57, [(0, .ref 185), (1, .int (nI ls))], [.int (nI ((t.length + 1) - 1)), .ref 190, .ref 185], gSh, pUp M 185 20 (.int (nI ((t.length + 1) - 1))))) rfl ?_
        refine ok_iald (n := 160) (v := nI p) rfl rfl (hI_in (by omega) (by decide)) (by rw [hI_nat (by omega)]; exact htop) ?_
        refine ok_seq 1 (σ' := (59, [(0, .ref 185), (1, .int (nI ls))], [.int (Int32.ofInt 0), .int (nI p), .ref 185], gSh, pUp M 185 20 (.int (nI ((t.length + 1) - 1))))) rfl ?_
        rw [cI_0]
        have hq1 : PQ τ s n i0 D w t n0 M0 (pUp M 185 20 (.int (nI ((t.length + 1) - 1)))) := hq.pop (ptu hT hq.1.1.1 13 rfl (sat_n (by omega) (by omega))) (fun o ho => pUp_ne ho) rfl rfl rfl (by rw [pUp_other _ _ _ _ (by decide), ← k1]; exact hq.1.2.2.2.1) (by omega)
        refine ok_call (mi := 186) (as := [.ref 185, .int (nI p), .int (nI 0)]) (pc' := 62) (L' := [(0, .ref 185), (1, .int (nI ls))]) (st' := []) (sh' := gSh) (M' := pUp M 185 20 (.int (nI ((t.length + 1) - 1)))) (i := .invokevirtual 170) (len := 3) rfl rfl ?_
        refine (c_emitQ (d := d) hT hq1 (D' := (D.1 - 1, D.2)) (o := nI p) (v := nI 0) (Or.inr (Or.inr (Or.inr (Or.inl ⟨by rw [hI_int (a := p) (by omega)]; omega, by rw [hI_int (a := p) (by omega)]; omega, by omega, rfl⟩)))) (by omega)).mono ?_
        rintro v ⟨sh2, M2⟩ ⟨rfl, hsh, hq2, hf2⟩
        have hsh : sh2 = gSh := hsh
        subst hsh
        dsimp only at hq2 hf2
        refine ok_seq 1 (σ' := (0, [(0, .ref 185), (1, .int (nI ls))], [], gSh, M2)) rfl ?_
        refine ih (w + 1) (D.1 - 1, D.2) M2 hq2 (by show _ ≤ D.1 - 1; omega) hD2 (by omega) (by omega) ?_ ?_
        · intro hz
          rcases List.mem_cons.mp (h40 hz) with e9 | e9
          · omega
          · exact e9
        · intro f hz
          simp only [List.mem_cons, List.not_mem_nil, or_false, not_or] at hz
          rw [hf2 f (by simp only [List.mem_cons, List.not_mem_nil, or_false]; exact hz.1), pUp_other _ _ _ _ (fun z => hz.2 z.2)]
          exact hf f (by simp only [List.mem_cons, List.not_mem_nil, or_false, not_or]; exact hz)
theorem c_settle {S : pScr} {d s n i0 n0 w v0 ls : Nat} {D : Nat × Nat} {ps : List Nat} {τ : fT} {M0 M : pMem} (hT : pT τ) (hq : PQ τ s n i0 D w ps n0 M0 M) (hls : 3 ≤ ls ∧ ls < 40) (hD : v0 + nBin ps + 1 ≤ D.1) (hW : w + nPar ps ≤ 300) : cOk S (d + 2) 189 [.ref 185, .int (nI ls)] (gSh, M) (fun r hp => r = none ∧ hp.1 = gSh ∧ ∃ ps' w' D', PQ τ s n i0 D' w' ps' n0 M0 hp.2 ∧ v0 + nBin ps' + 1 ≤ D'.1 ∧ D'.2 = D.2 ∧ w' + nPar ps' = w + nPar ps ∧ nNon ps' = nNon ps ∧ (40 ∈ ps → 40 ∈ ps') ∧ (∀ p t, ps' = p :: t → ¬ (ls ≤ p ∧ p < 40)) ∧ FK [17, 20] M hp.2) := by
  refine c_of_ok (Nat.le_of_ble_eq_true rfl) ?_
  exact se_loop (Mi := M) (nn := nNon ps) (W := w + nPar ps) (D2 := D.2) (hp40 := 40 ∈ ps) (Q := fun r hp => r = none ∧ hp.1 = gSh ∧ ∃ ps' w' D', PQ τ s n i0 D' w' ps' n0 M0 hp.2 ∧ v0 + nBin ps' + 1 ≤ D'.1 ∧ D'.2 = D.2 ∧ w' + nPar ps' = w + nPar ps ∧ nNon ps' = nNon ps ∧ (40 ∈ ps → 40 ∈ ps') ∧ (∀ p t, ps' = p :: t → ¬ (ls ≤ p ∧ p < 40)) ∧ FK [17, 20] M hp.2) hT hls hW (fun M' ps' w' D' a1 a2 a3 a4 a5 a6 a7 a8 => ⟨rfl, rfl, ps', w', D', a1, a2, a3, a4, a5, a6, a7, a8⟩) ps w D M hq hD rfl rfl rfl id (fun _ _ => rfl)
theorem pil_get {M : pMem} : ∀ {ps : List Nat} {k : Nat}, pil M ps → k < ps.length → ∃ p ∈ ps, M 190 k = .int (nI p)
  | [], k, _, hk => absurd hk (Nat.not_lt_zero k)
  | p :: t, k, h, hk => by
    by_cases e : k = t.length
    · subst e
      exact ⟨p, List.mem_cons_self, h.1⟩
    · have hk : k < t.length + 1 := hk
      obtain ⟨q, h1, h2⟩ := pil_get h.2 (k := k) (by omega)
      exact ⟨q, List.mem_cons_of_mem _ h1, h2⟩
theorem pOkk_mem : ∀ {ps : List Nat} {p : Nat}, pOkk ps → p ∈ ps → (2 ≤ p ∧ p ≤ 6 ∨ p = 40)
  | [], p, _, h => by cases h
  | q :: t, p, h, hp => by
    rcases List.mem_cons.mp hp with rfl | hp
    · exact h.1
    · exact pOkk_mem h.2.2 hp
abbrev haK (S : pScr) (d : Nat) (Q : Option Value → pHp → Prop) (σ : pSt) : Prop := pOk S 12 false 2 (pCode 193) d (fun i len τ' => ∃ v, pRet (some .boolean) i len τ'.2.2.1 = some v ∧ Q v (τ'.2.2.2.1, τ'.2.2.2.2)) σ
theorem ha_loop {S : pScr} {d s n w n0 : Nat} {ps : List Nat} {τ : fT} {M0 M : pMem} {Q : Option Value → pHp → Prop} (hT : pT τ) (hq : PB τ s n w ps n0 M0 M) (hQ0 : Q (some (.int (nI 0))) (gSh, M)) (hQ1 : 40 ∈ ps → Q (some (.int (nI 1))) (gSh, M)) : ∀ (j k : Nat), k + j = ps.length → haK S d Q (2, [(1, .int (nI k)), (0, .ref 185)], [], gSh, M) := by
  have h20 := hq.2.2.1.2.2
  have h19 := ty_ref (pty hT hq.1.1 12 rfl rfl)
  have hl := hq.len
  intro j
  induction j with
  | zero =>
    intro k hk
    refine ok_seq 3 (σ' := (7, [(1, .int (nI k)), (0, .ref 185)], [M 185 20, .int (nI k)], gSh, M)) rfl ?_
    rw [h20]
    refine ok_icmp 29 rfl rfl (fun _ => ?_) (fun hz => absurd (by simp only [pCP]; rw [hI_int (a := k) (by omega), hI_int (a := ps.length) (by omega)]; omega) hz)
    refine ok_seq 1 (σ' := (30, [(1, .int (nI k)), (0, .ref 185)], [.int (Int32.ofInt 0)], gSh, M)) rfl ?_
    rw [cI_0]
    exact ok_ret (i := .ireturn) (len := 1) rfl rfl ⟨some (.int (nI 0)), pb0, hQ0⟩
  | succ j ih =>
    intro k hk
    obtain ⟨p, hp1, hp2⟩ := pil_get hq.2.2.1.1 (k := k) (by omega)
    have hp3 := pOkk_mem hq.2.2.1.2.1 hp1
    refine ok_seq 3 (σ' := (7, [(1, .int (nI k)), (0, .ref 185)], [M 185 20, .int (nI k)], gSh, M)) rfl ?_
    rw [h20]
    refine ok_icmp 29 rfl rfl (fun hz => absurd hz (by simp only [pCP]; rw [hI_int (a := k) (by omega), hI_int (a := ps.length) (by omega)]; omega)) (fun _ => ?_)
    refine ok_seq 2 (σ' := (14, [(1, .int (nI k)), (0, .ref 185)], [M 185 19], gSh, M)) rfl ?_
    rw [h19]
    refine ok_seq 1 (σ' := (15, [(1, .int (nI k)), (0, .ref 185)], [.int (nI k), .ref 190], gSh, M)) rfl ?_
    refine ok_iald (n := 160) (v := nI p) rfl rfl (hI_in (by omega) (by decide)) (by rw [hI_nat (by omega)]; exact hp2) ?_
    refine ok_seq 1 (σ' := (18, [(1, .int (nI k)), (0, .ref 185)], [.int ((Int8.ofInt 40).toInt32), .int (nI p)], gSh, M)) rfl ?_
    rw [(show (Int8.ofInt 40).toInt32 = nI 40 by decide)]
    refine ok_icmp 23 rfl rfl ?_ ?_
    · intro hc
      simp only [pCP] at hc
      rw [hI_int (a := p) (by omega), hI_int (a := 40) (by omega)] at hc
      have hc : ((p : Nat) : Int) ≠ ((40 : Nat) : Int) := by omega
      refine ok_seq 2 (σ' := (2, [(1, .int ((nI k) + (Int32.ofInt 1))), (0, .ref 185)], [], gSh, M)) rfl ?_
      rw [cI_1, hI_add k 1]
      exact ih (k + 1) (by omega)
    · intro hc
      simp only [pCP] at hc
      rw [hI_int (a := p) (by omega), hI_int (a := 40) (by omega)] at hc
      have hc : ((p : Nat) : Int) = ((40 : Nat) : Int) := by omega
      refine ok_seq 1 (σ' := (22, [(1, .int (nI k)), (0, .ref 185)], [.int (Int32.ofInt 1)], gSh, M)) rfl ?_
      rw [cI_1]
      exact ok_ret (i := .ireturn) (len := 1) rfl rfl ⟨some (.int (nI 1)), pb1, hQ1 (by rw [show 40 = p by omega]; exact hp1)⟩
theorem c_hasParen {S : pScr} {d s n w n0 : Nat} {ps : List Nat} {τ : fT} {M0 M : pMem} (hT : pT τ) (hq : PB τ s n w ps n0 M0 M) : cOk S (d + 1) 193 [.ref 185] (gSh, M) (fun r hp => (r = some (.int (nI 0)) ∨ (r = some (.int (nI 1)) ∧ 40 ∈ ps)) ∧ hp = (gSh, M)) := by
  refine c_of_ok (Nat.le_of_ble_eq_true rfl) ?_
  refine ok_seq 2 (σ' := (2, [(1, .int (Int32.ofInt 0)), (0, .ref 185)], [], gSh, M)) rfl ?_
  rw [cI_0]
  exact ha_loop (Q := fun r hp => (r = some (.int (nI 0)) ∨ (r = some (.int (nI 1)) ∧ 40 ∈ ps)) ∧ hp = (gSh, M)) hT hq ⟨Or.inl rfl, rfl⟩ (fun h => ⟨Or.inr ⟨rfl, h⟩, rfl⟩) ps.length 0 (by omega)
abbrev goK (S : pScr) (d : Nat) (Q : Option Value → pHp → Prop) (σ : pSt) : Prop := pOk S 12 false 1 (pCode 194) d (fun i len τ' => ∃ v, pRet (some .boolean) i len τ'.2.2.1 = some v ∧ Q v (τ'.2.2.2.1, τ'.2.2.2.2)) σ
theorem c_goesOn {S : pScr} {d s n w n0 : Nat} {ps : List Nat} {τ : fT} {M0 M : pMem} {tok : Int32} (hT : pT τ) (hq : PB τ s n w ps n0 M0 M) (h12 : M 185 12 = .int tok) : cOk S (d + 2) 194 [.ref 185] (gSh, M) (fun r hp => (r = some (.int (nI 0)) ∨ (r = some (.int (nI 1)) ∧ (tok.toInt = 43 ∨ tok.toInt = 45 ∨ tok.toInt = 42 ∨ tok.toInt = 47 ∨ (tok.toInt = 41 ∧ 40 ∈ ps)))) ∧ hp = (gSh, M)) := by
  refine c_of_ok (Nat.le_of_ble_eq_true rfl) ?_
  have yes : (tok.toInt = 43 ∨ tok.toInt = 45 ∨ tok.toInt = 42 ∨ tok.toInt = 47 ∨ (tok.toInt = 41 ∧ 40 ∈ ps)) → goK S (d + 1) (fun r hp => (r = some (.int (nI 0)) ∨ (r = some (.int (nI 1)) ∧ (tok.toInt = 43 ∨ tok.toInt = 45 ∨ tok.toInt = 42 ∨ tok.toInt = 47 ∨ (tok.toInt = 41 ∧ 40 ∈ ps)))) ∧ hp = (gSh, M)) (52, [(0, .ref 185)], [], gSh, M) := by
    intro hz
    refine ok_seq 2 (σ' := (57, [(0, .ref 185)], [.int (Int32.ofInt 1)], gSh, M)) rfl ?_
    rw [cI_1]
    exact ok_ret (i := .ireturn) (len := 1) rfl rfl ⟨some (.int (nI 1)), pb1, Or.inr ⟨rfl, hz⟩, rfl⟩
  have no : goK S (d + 1) (fun r hp => (r = some (.int (nI 0)) ∨ (r = some (.int (nI 1)) ∧ (tok.toInt = 43 ∨ tok.toInt = 45 ∨ tok.toInt = 42 ∨ tok.toInt = 47 ∨ (tok.toInt = 41 ∧ 40 ∈ ps)))) ∧ hp = (gSh, M)) (56, [(0, .ref 185)], [], gSh, M) := by
    refine ok_seq 1 (σ' := (57, [(0, .ref 185)], [.int (Int32.ofInt 0)], gSh, M)) rfl ?_
    rw [cI_0]
    exact ok_ret (i := .ireturn) (len := 1) rfl rfl ⟨some (.int (nI 0)), pb0, Or.inl rfl, rfl⟩
  refine ok_seq 2 (σ' := (4, [(0, .ref 185)], [M 185 12], gSh, M)) rfl ?_
  rw [h12]
  refine ok_seq 1 (σ' := (6, [(0, .ref 185)], [.int ((Int8.ofInt 43).toInt32), .int tok], gSh, M)) rfl ?_
  rw [(show (Int8.ofInt 43).toInt32 = nI 43 by decide)]
  refine ok_icmp 52 rfl rfl (fun hz => yes (by simp only [pCP] at hz; rw [hI_int (a := 43) (by omega)] at hz; omega)) (fun _ => ?_)
  refine ok_seq 2 (σ' := (13, [(0, .ref 185)], [M 185 12], gSh, M)) rfl ?_
  rw [h12]
  refine ok_seq 1 (σ' := (15, [(0, .ref 185)], [.int ((Int8.ofInt 45).toInt32), .int tok], gSh, M)) rfl ?_
  rw [(show (Int8.ofInt 45).toInt32 = nI 45 by decide)]
  refine ok_icmp 52 rfl rfl (fun hz => yes (by simp only [pCP] at hz; rw [hI_int (a := 45) (by omega)] at hz; omega)) (fun _ => ?_)
  refine ok_seq 2 (σ' := (22, [(0, .ref 185)], [M 185 12], gSh, M)) rfl ?_
  rw [h12]
  refine ok_seq 1 (σ' := (24, [(0, .ref 185)], [.int ((Int8.ofInt 42).toInt32), .int tok], gSh, M)) rfl ?_
  rw [(show (Int8.ofInt 42).toInt32 = nI 42 by decide)]
  refine ok_icmp 52 rfl rfl (fun hz => yes (by simp only [pCP] at hz; rw [hI_int (a := 42) (by omega)] at hz; omega)) (fun _ => ?_)
  refine ok_seq 2 (σ' := (31, [(0, .ref 185)], [M 185 12], gSh, M)) rfl ?_
  rw [h12]
  refine ok_seq 1 (σ' := (33, [(0, .ref 185)], [.int ((Int8.ofInt 47).toInt32), .int tok], gSh, M)) rfl ?_
  rw [(show (Int8.ofInt 47).toInt32 = nI 47 by decide)]
  refine ok_icmp 52 rfl rfl (fun hz => yes (by simp only [pCP] at hz; rw [hI_int (a := 47) (by omega)] at hz; omega)) (fun _ => ?_)
  refine ok_seq 2 (σ' := (40, [(0, .ref 185)], [M 185 12], gSh, M)) rfl ?_
  rw [h12]
  refine ok_seq 1 (σ' := (42, [(0, .ref 185)], [.int ((Int8.ofInt 41).toInt32), .int tok], gSh, M)) rfl ?_
  rw [(show (Int8.ofInt 41).toInt32 = nI 41 by decide)]
  refine ok_icmp 56 rfl rfl (fun _ => no) (fun hz => ?_)
  simp only [pCP] at hz
  rw [hI_int (a := 41) (by omega)] at hz
  refine ok_seq 1 (σ' := (46, [(0, .ref 185)], [.ref 185], gSh, M)) rfl ?_
  refine ok_call (mi := 193) (as := [.ref 185]) (pc' := 49) (L' := [(0, .ref 185)]) (st' := []) (sh' := gSh) (M' := M) (i := .invokevirtual 204) (len := 3) rfl rfl ?_
  refine (c_hasParen (d := d) hT hq).mono ?_
  rintro v hp ⟨hv, rfl⟩
  rcases hv with rfl | ⟨rfl, h40⟩
  · refine ok_if 56 rfl rfl (fun _ => ?_) (fun hz => absurd (by simp only [pCP]; rw [hI_int (a := 0) (by omega)]; omega) hz)
    exact no
  · refine ok_if 56 rfl rfl (fun hz => absurd hz (by simp only [pCP]; rw [hI_int (a := 1) (by omega)]; omega)) (fun _ => ?_)
    exact yes (Or.inr (Or.inr (Or.inr (Or.inr ⟨by omega, h40⟩))))

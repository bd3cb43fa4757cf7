/-! by hand, printed by wip/gen/gen42.py -/
/-- what the machine tells of the reader's pure methods -/
def PH (τ : fT) (S : pScr) (dN : Nat) : Prop :=
  (cnOk τ S dN 190 ([(1, 0, 0, [185])], [(0, -1, 10, [])], some [], [], []) ∧ cnOk τ S dN 190 ([(1, 0, 0, [185])], [(0, -1, -1, [])], some [], [((185, 12), 0)], [])) ∧
  cnOk τ S dN 191 ([(1, 0, 0, [185]), (0, 0, 10, [])], [(0, 0, 1, [])], some [], [], []) ∧
  (cnOk τ S dN 185 ([(1, 0, 0, [185]), eL], [(0, 0, 1, [])], some [], [], []) ∧ cnOk τ S dN 185 ([(1, 0, 0, [185]), eL], [(0, 0, 0, [])], some [], [((185, 12), 0)], [])) ∧
  (cnOk τ S dN 200 ([(1, 0, 0, [185])], [(0, 0, 6, [])], some [], [], []) ∧ cnOk τ S dN 200 ([(1, 0, 0, [185])], [(0, 0, 0, [])], some [], [((185, 12), 0)], []))
theorem PB.gr {τ : fT} {s n w n0 : Nat} {ps : List Nat} {M0 M : pMem} (h : PB τ s n w ps n0 M0 M) (hg : gR M0) : gR M := by
  have e1 : M 187 = M0 187 := h.1.2.1 187 (by decide) (by decide) (by decide)
  have e2 : M 186 = M0 186 := h.1.2.1 186 (by decide) (by decide) (by decide)
  unfold gR gRel
  rw [e1, e2]
  exact ⟨hg.1, hg.2.1, TI_text h.2.1.2.2⟩
theorem r185 : satE (1, 0, 0, [185]) (.ref 185) := Or.inr ⟨185, List.mem_singleton.mpr rfl, rfl⟩
/-- a pure method that answers otherwise at the tape's end -/
theorem c_pure0 {τ : fT} {S : pScr} {d m : Nat} {es : List aE} {lo hi z0 : Int} {x x' : List Nat} {vs : List Value} {M : pMem} {tok : Int32} (h : cnOk τ S d m (es, [(0, lo, hi, x)], some [], [], [])) (h0 : cnOk τ S d m (es, [(0, z0, z0, x')], some [], [((185, 12), 0)], [])) (hvs : satS es vs) (hM : tyM (tOf τ) M) (hg : gR M) (h12 : M 185 12 = .int tok) : ∃ z : Int32, lo ≤ z.toInt ∧ z.toInt ≤ hi ∧ (z.toInt ≠ z0 → tok.toInt ≠ 0) ∧ cOk S d m vs (gSh, M) (fun r hp => r = some (.int z) ∧ hp = (gSh, M)) := by
  obtain ⟨z, z1, z2, z3⟩ := c_pure h hvs hM hg (fun q hq => by cases hq)
  refine ⟨z, z1, z2, fun hz ht => ?_, z3⟩
  obtain ⟨z', y1, y2, y3⟩ := c_pure h0 hvs hM hg (fun q hq => by
    rw [List.mem_singleton.mp hq]
    show M 185 12 = .int (Int32.ofInt 0)
    rw [h12, Int32.toInt_inj.mp (show tok.toInt = (Int32.ofInt 0).toInt from ht)])
  obtain ⟨v, hp2, -, -, k1, k2⟩ := c_both z3 y3
  have e := k1.1.symm.trans k2.1
  cases e
  omega
def SM (τ : fT) (s n i0 n0 : Nat) (M0 : pMem) (v0 D2 pd c : Nat) (M : pMem) : Prop := ∃ (ps : List Nat) (w : Nat) (D : Nat × Nat) (b : Nat), PQ τ s n i0 D w ps n0 M0 M ∧ PC c M ∧ b < 2 ∧ M 185 22 = .int (nI b) ∧ v0 + nBin ps + b ≤ D.1 ∧ D.2 = D2 ∧ w + nPar ps + pd ≤ c
theorem PQ.push {τ : fT} {s n i0 w n0 n1 p : Nat} {D : Nat × Nat} {ps : List Nat} {M0 M M' : pMem} (h : PQ τ s n i0 D w ps n0 M0 M) (hM : tyM (tOf τ) M') (ho : ∀ o, o ≠ 185 → o ≠ 190 → M' o = M o) (h190 : ∀ k, k < ps.length → M' 190 k = M 190 k) (htop : M' 190 ps.length = .int (nI p)) (h15 : M' 185 15 = M 185 15) (h17 : M' 185 17 = M 185 17) (h20 : M' 185 20 = .int (nI (ps.length + 1))) (h21 : M' 185 21 = .int (nI (n1 + nNon (p :: ps)))) (hn : n1 + nNon (p :: ps) ≤ 8) (hok : pOkk (p :: ps)) : PQ τ s n i0 D w (p :: ps) n1 M0 M' := by
  obtain ⟨⟨⟨a1, a2, a3⟩, ⟨b1, b2, b3⟩, ⟨c1, c2, c3⟩, d1, d2⟩, e1, e2, e3, e4⟩ := h
  refine ⟨⟨⟨hM, fun o k1 k2 k3 => by rw [ho o k1 k3]; exact a2 o k1 k2 k3, a3⟩, ⟨by rw [h15]; exact b1, by rw [h17]; exact b2, TI_ext b3 (Nat.le_refl _) b3.2.1 (fun k _ => by rw [ho 188 (by decide) (by decide)])⟩, ⟨⟨htop, pil_ext c1 h190⟩, hok, h20⟩, h21, hn⟩, ?_, e2, e3, ?_⟩
  · rw [ho 188 (by decide) (by decide)]
    exact e1
  · rw [ho 188 (by decide) (by decide)]
    exact e4
theorem PC.le {c : Nat} {M : pMem} {tok : Int32} (h : PC c M) (h12 : M 185 12 = .int tok) (ht : tok.toInt ≠ 0) : c < 300 := by
  obtain ⟨a, t, g1, g2, g3, g4, g5⟩ := h
  rw [h12] at g2
  cases g2
  have := g5 ht
  omega
theorem FK.at {ks : List Nat} {M M' : pMem} (h : FK ks M M') (f : Nat) (hf : f ∉ ks) : M' 185 f = M 185 f := h f hf
abbrev beK (S : pScr) (d : Nat) (Q : Option Value → pHp → Prop) (σ : pSt) : Prop := pOk S 12 false 2 (pCode 192) d (fun i len τ' => ∃ v, pRet (some .int) i len τ'.2.2.1 = some v ∧ Q v (τ'.2.2.2.1, τ'.2.2.2.2)) σ
theorem c_begin {S : pScr} {d dN s n i0 n0 w v0 pd c : Nat} {D : Nat × Nat} {ps : List Nat} {τ : fT} {M0 M : pMem} (hT : pT τ) (hH : PH τ S dN) (hg : gR M0) (hq : PQ τ s n i0 D w ps n0 M0 M) (hC : PC c M) (h22 : M 185 22 = .int (nI 0)) (hD : v0 + nBin ps ≤ D.1) (hw : w + nPar ps + pd ≤ c) : cOk S (d + dN + 5) 192 [.ref 185] (gSh, M) (fun r hp => hp.1 = gSh ∧ ((r = some (.int (nI 0)) ∧ c < 300 ∧ SM τ s n i0 n0 M0 v0 D.2 pd (c + 1) hp.2) ∨ (∃ z, r = some (.int z) ∧ z.toInt ≠ 0 ∧ PE τ s M0 hp.2))) := by
  refine c_of_ok (Nat.le_of_ble_eq_true rfl) ?_
  obtain ⟨tok, h12, -⟩ := ty_int (pty hT hq.1.1.1 8 rfl rfl)
  obtain ⟨nb, hnb, h13⟩ := ty_nat (pty hT hq.1.1.1 9 rfl rfl)
  have hl := hq.1.len
  have h21 := hq.1.2.2.2.1
  have hn8 := hq.1.2.2.2.2
  have h20 := hq.1.2.2.1.2.2
  have hw3 := hq.1.w300
  refine ok_seq 2 (σ' := (4, [(0, .ref 185)], [M 185 12], gSh, M)) rfl ?_
  rw [h12]
  refine ok_seq 1 (σ' := (5, [(0, .ref 185)], [.int (Int32.ofInt 1), .int tok], gSh, M)) rfl ?_
  rw [cI_1]
  refine ok_icmp 39 rfl rfl ?_ ?_
  · intro hk
    simp only [pCP] at hk
    rw [hI_int (a := 1) (by omega)] at hk
    have hk : (tok).toInt ≠ ((1 : Nat) : Int) := by omega
    obtain ⟨z, z1, z2, z3, z4⟩ := c_pure0 hH.1.1 hH.1.2 (vs := [.ref 185]) ⟨r185, trivial⟩ hq.1.1.1 (hq.1.gr hg) h12
    refine ok_seq 1 (σ' := (40, [(0, .ref 185)], [.ref 185], gSh, M)) rfl ?_
    refine ok_call (mi := 190) (as := [.ref 185]) (pc' := 43) (L' := [(0, .ref 185)]) (st' := []) (sh' := gSh) (M' := M) (i := .invokevirtual 195) (len := 3) rfl rfl ?_
    refine ((z4.deep (by omega))).mono ?_
    rintro v hp ⟨rfl, rfl⟩
    refine ok_if 78 rfl rfl ?_ ?_
    · intro hz
      simp only [pCP] at hz
      have hz : (z).toInt < (0 : Int) := by omega
      have more : ∀ p : Nat, (p = 2 ∨ p = 40) → tok.toInt ≠ 0 → beK S (d + dN + 4) (fun r hp => hp.1 = gSh ∧ ((r = some (.int (nI 0)) ∧ c < 300 ∧ SM τ s n i0 n0 M0 v0 D.2 pd (c + 1) hp.2) ∨ (∃ z, r = some (.int z) ∧ z.toInt ≠ 0 ∧ PE τ s M0 hp.2))) (113, [(1, .int (nI p)), (0, .ref 185)], [], gSh, M) := by
        intro p hp ht
        have hc3 := hC.le h12 ht
        refine ok_seq 2 (σ' := (117, [(1, .int (nI p)), (0, .ref 185)], [M 185 21], gSh, M)) rfl ?_
        rw [h21]
        refine ok_seq 1 (σ' := (119, [(1, .int (nI p)), (0, .ref 185)], [.int ((Int8.ofInt 8).toInt32), .int (nI (n0 + nNon ps))], gSh, M)) rfl ?_
        rw [(show (Int8.ofInt 8).toInt32 = nI 8 by decide)]
        refine ok_icmp 124 rfl rfl ?_ ?_
        · intro h8
          simp only [pCP] at h8
          rw [hI_int (a := n0 + nNon ps) (by omega), hI_int (a := 8) (by omega)] at h8
          have h8 : ((n0 + nNon ps : Nat) : Int) ≠ ((8 : Nat) : Int) := by omega
          refine ok_seq 3 (σ' := (129, [(1, .int (nI p)), (0, .ref 185)], [M 185 21, .ref 185], gSh, M)) rfl ?_
          rw [h21]
          refine ok_seq 2 (σ' := (131, [(1, .int (nI p)), (0, .ref 185)], [.int ((nI (n0 + nNon ps)) + (Int32.ofInt 1)), .ref 185], gSh, M)) rfl ?_
          rw [cI_1, hI_add (n0 + nNon ps) 1]
          refine ok_put (q := 167) (ci := 12) (k := 21) (n := 47) (ty := .int) rfl rfl rfl rfl rfl rfl (fi_int _) ?_
          refine ok_seq 2 (σ' := (136, [(1, .int (nI p)), (0, .ref 185)], [.int (nI p), .ref 185], gSh, pUp M 185 21 (.int (nI (n0 + nNon ps + 1))))) rfl ?_
          have hpb : ¬ (3 ≤ p ∧ p ≤ 6) := by omega
          have k1 := nNon_2 (t := ps) hpb
          refine ok_call (mi := 187) (as := [.ref 185, .int (nI p)]) (pc' := 139) (L' := [(1, .int (nI p)), (0, .ref 185)]) (st' := []) (sh' := gSh) (M' := pUp M 185 21 (.int (nI (n0 + nNon ps + 1)))) (i := .invokevirtual 202) (len := 3) rfl rfl ?_
          refine ((c_push (d := d + dN + 3) (q := ps.length) (o := nI p) (M := pUp M 185 21 (.int (nI (n0 + nNon ps + 1)))) (ty_ref (pty hT hq.1.1.1 12 rfl rfl)) h20 (by omega))).mono ?_
          rintro v1 hp ⟨rfl, rfl⟩
          have hq2 : PQ τ s n i0 D w (p :: ps) n0 M0 (pUp (pUp (pUp M 185 21 (.int (nI (n0 + nNon ps + 1)))) 190 ps.length (.int (nI p))) 185 20 (.int (nI (ps.length + 1)))) := hq.push (ptu hT (pu190 hT (ptu hT hq.1.1.1 14 rfl (sat_a _)) _) 13 rfl (sat_n (by omega) (by omega))) (fun o k1 k2 => by rw [pUp_ne k1, pUp_ne k2, pUp_ne k1]) (fun k hk => by rw [pUp_ne (by decide), pUp_other _ _ _ _ (fun z => by omega), pUp_ne (by decide)]) (by rw [pUp_ne (by decide)]; exact pUp_self _ _ _ _) (by rw [pUp_other _ _ _ _ (by decide), pUp_ne (by decide), pUp_other _ _ _ _ (by decide)]) (by rw [pUp_other _ _ _ _ (by decide), pUp_ne (by decide), pUp_other _ _ _ _ (by decide)]) (pUp_self _ _ _ _) (by rw [pUp_other _ _ _ _ (by decide), pUp_ne (by decide), pUp_self, k1, show n0 + (1 + nNon ps) = n0 + nNon ps + 1 by omega]) (by omega) ⟨by omega, fun q r _ hz => absurd hz hpb, hq.1.2.2.1.2.1⟩
          generalize hMM : pUp (pUp (pUp M 185 21 (.int (nI (n0 + nNon ps + 1)))) 190 ps.length (.int (nI p))) 185 20 (.int (nI (ps.length + 1))) = MM at hq2
          have f10 : ∀ f, f ≠ 20 → f ≠ 21 → MM 185 f = M 185 f := fun f hf1 hf2 => by rw [← hMM, pUp_other _ _ _ _ (fun z => hf1 z.2), pUp_ne (by decide), pUp_other _ _ _ _ (fun z => hf2 z.2)]
          have hC2 : PC c MM := hC.keep (f10 10 (by decide) (by decide)) (f10 12 (by decide) (by decide))
          refine ok_seq 1 (σ' := (140, [(1, .int (nI p)), (0, .ref 185)], [.ref 185], gSh, MM)) rfl ?_
          refine ok_call (mi := 180) (as := [.ref 185]) (pc' := 143) (L' := [(1, .int (nI p)), (0, .ref 185)]) (st' := []) (sh' := gSh) (M' := MM) (i := .invokevirtual 189) (len := 3) rfl rfl ?_
          refine ((c_nextQ (d := d + dN) hT hq2.1.1.1 hC2 (by rw [f10 12 (by decide) (by decide)]; exact h12) ht)).mono ?_
          rintro v2 ⟨sh2, M3⟩ ⟨rfl, hsh, ⟨a3, hN3⟩, hC3⟩
          have hsh : sh2 = gSh := hsh
          subst hsh
          dsimp only at hN3 hC3
          have hq3 := hq2.next hN3
          refine ok_seq 1 (σ' := (144, [(1, .int (nI p)), (0, .ref 185)], [.int (Int32.ofInt 0)], gSh, M3)) rfl ?_
          rw [cI_0]
          exact ok_ret (i := .ireturn) (len := 1) rfl rfl ⟨some (.int (nI 0)), rfl, rfl, Or.inl ⟨rfl, hc3, p :: ps, w, D, 0, hq3, hC3, by decide, (hN3.2.1.2 22 (by omega)).trans ((f10 22 (by decide) (by decide)).trans h22), by rw [nBin_2 hpb]; omega, rfl, by have : nPar (p :: ps) ≤ 1 + nPar ps := (by show (if p = 40 then 0 else 1) + nPar ps ≤ _; split <;> omega); omega⟩⟩
        · intro h8
          simp only [pCP] at h8
          rw [hI_int (a := n0 + nNon ps) (by omega), hI_int (a := 8) (by omega)] at h8
          have h8 : ((n0 + nNon ps : Nat) : Int) = ((8 : Nat) : Int) := by omega
          refine ok_seq 1 (σ' := (123, [(1, .int (nI p)), (0, .ref 185)], [.int (Int32.ofInt 3)], gSh, M)) rfl ?_
          rw [cI_3]
          exact ok_ret (i := .ireturn) (len := 1) rfl rfl ⟨some (.int (nI 3)), rfl, rfl, Or.inr ⟨nI 3, rfl, by decide, hq.1.pe⟩⟩
      refine ok_seq 2 (σ' := (82, [(0, .ref 185)], [M 185 12], gSh, M)) rfl ?_
      rw [h12]
      refine ok_seq 1 (σ' := (84, [(0, .ref 185)], [.int ((Int8.ofInt 40).toInt32), .int tok], gSh, M)) rfl ?_
      rw [(show (Int8.ofInt 40).toInt32 = nI 40 by decide)]
      refine ok_icmp 92 rfl rfl ?_ ?_
      · intro h40
        simp only [pCP] at h40
        rw [hI_int (a := 40) (by omega)] at h40
        have h40 : (tok).toInt ≠ ((40 : Nat) : Int) := by omega
        refine ok_seq 2 (σ' := (96, [(0, .ref 185)], [M 185 12], gSh, M)) rfl ?_
        rw [h12]
        refine ok_seq 1 (σ' := (98, [(0, .ref 185)], [.int ((Int8.ofInt 45).toInt32), .int tok], gSh, M)) rfl ?_
        rw [(show (Int8.ofInt 45).toInt32 = nI 45 by decide)]
        refine ok_icmp 105 rfl rfl ?_ ?_
        · intro h45
          simp only [pCP] at h45
          rw [hI_int (a := 45) (by omega)] at h45
          have h45 : (tok).toInt ≠ ((45 : Nat) : Int) := by omega
          refine ok_seq 3 (σ' := (108, [(1, .int (Int32.ofInt 0)), (0, .ref 185)], [.int (Int32.ofInt 0)], gSh, M)) rfl ?_
          rw [cI_0]
          refine ok_if 113 rfl rfl (fun hz => absurd hz (by simp only [pCP]; rw [hI_int (a := 0) (by omega)]; omega)) (fun _ => ?_)
          refine ok_seq 1 (σ' := (112, [(1, .int (nI 0)), (0, .ref 185)], [.int (Int32.ofInt 1)], gSh, M)) rfl ?_
          rw [cI_1]
          exact ok_ret (i := .ireturn) (len := 1) rfl rfl ⟨some (.int (nI 1)), rfl, rfl, Or.inr ⟨nI 1, rfl, by decide, hq.1.pe⟩⟩
        · intro h45
          simp only [pCP] at h45
          rw [hI_int (a := 45) (by omega)] at h45
          have h45 : (tok).toInt = ((45 : Nat) : Int) := by omega
          refine ok_seq 4 (σ' := (108, [(1, .int (Int32.ofInt 2)), (0, .ref 185)], [.int (Int32.ofInt 2)], gSh, M)) rfl ?_
          rw [cI_2]
          refine ok_if 113 rfl rfl (fun _ => ?_) (fun hz => absurd (by simp only [pCP]; rw [hI_int (a := 2) (by omega)]; omega) hz)
          exact more 2 (Or.inl rfl) (by omega)
      · intro h40
        simp only [pCP] at h40
        rw [hI_int (a := 40) (by omega)] at h40
        have h40 : (tok).toInt = ((40 : Nat) : Int) := by omega
        refine ok_seq 4 (σ' := (108, [(1, .int ((Int8.ofInt 40).toInt32)), (0, .ref 185)], [.int ((Int8.ofInt 40).toInt32)], gSh, M)) rfl ?_
        rw [(show (Int8.ofInt 40).toInt32 = nI 40 by decide)]
        refine ok_if 113 rfl rfl (fun _ => ?_) (fun hz => absurd (by simp only [pCP]; rw [hI_int (a := 40) (by omega)]; omega) hz)
        exact more 40 (Or.inr rfl) (by omega)
    · intro hz
      simp only [pCP] at hz
      have hz : (z).toInt ≥ (0 : Int) := by omega
      have ht := z3 (by omega)
      have hc3 := hC.le h12 ht
      obtain ⟨y, y1, y2, y4⟩ := c_pure hH.2.1 (vs := [.ref 185, .int z]) ⟨r185, ⟨z, rfl, hz, z2⟩, trivial⟩ hq.1.1.1 (hq.1.gr hg) (fun q hq => by cases hq)
      refine ok_seq 2 (σ' := (48, [(0, .ref 185)], [.ref 185, .ref 185], gSh, M)) rfl ?_
      refine ok_call (mi := 190) (as := [.ref 185]) (pc' := 51) (L' := [(0, .ref 185)]) (st' := [.ref 185]) (sh' := gSh) (M' := M) (i := .invokevirtual 195) (len := 3) rfl rfl ?_
      refine ((z4.deep (by omega))).mono ?_
      rintro v hp ⟨rfl, rfl⟩
      refine ok_call (mi := 191) (as := [.ref 185, .int z]) (pc' := 54) (L' := [(0, .ref 185)]) (st' := []) (sh' := gSh) (M' := M) (i := .invokevirtual 199) (len := 3) rfl rfl ?_
      refine ((y4.deep (by omega))).mono ?_
      rintro v hp ⟨rfl, rfl⟩
      refine ok_if 59 rfl rfl ?_ ?_
      · intro hy
        simp only [pCP] at hy
        have hy : (y).toInt = (0 : Int) := by omega
        refine ok_seq 3 (σ' := (62, [(0, .ref 185)], [.ref 185, .int (Int32.ofInt 1), .ref 185], gSh, M)) rfl ?_
        rw [cI_1]
        refine ok_call (mi := 190) (as := [.ref 185]) (pc' := 65) (L' := [(0, .ref 185)]) (st' := [.int (nI 1), .ref 185]) (sh' := gSh) (M' := M) (i := .invokevirtual 195) (len := 3) rfl rfl ?_
        refine ((z4.deep (by omega))).mono ?_
        rintro v hp ⟨rfl, rfl⟩
        refine ok_call (mi := 186) (as := [.ref 185, .int (nI 1), .int z]) (pc' := 68) (L' := [(0, .ref 185)]) (st' := []) (sh' := gSh) (M' := M) (i := .invokevirtual 170) (len := 3) rfl rfl ?_
        refine ((c_emitQ (d := d + dN + 3) hT hq (D' := (D.1 + 1, D.2)) (o := nI 1) (v := z) (Or.inr (Or.inl ⟨by decide, by omega, by omega, rfl⟩)) (by omega))).mono ?_
        rintro v1 ⟨sh2, M2⟩ ⟨rfl, hsh, hq2, hf2⟩
        have hsh : sh2 = gSh := hsh
        subst hsh
        dsimp only at hq2 hf2
        refine ok_seq 1 (σ' := (69, [(0, .ref 185)], [.ref 185], gSh, M2)) rfl ?_
        refine ok_call (mi := 180) (as := [.ref 185]) (pc' := 72) (L' := [(0, .ref 185)]) (st' := []) (sh' := gSh) (M' := M2) (i := .invokevirtual 189) (len := 3) rfl rfl ?_
        refine ((c_nextQ (d := d + dN) hT hq2.1.1.1 (hC.keep (hf2.at 10 (by decide)) (hf2.at 12 (by decide))) (by rw [hf2.at 12 (by decide)]; exact h12) ht)).mono ?_
        rintro v2 ⟨sh2, M3⟩ ⟨rfl, hsh, ⟨a3, hN3⟩, hC3⟩
        have hsh : sh2 = gSh := hsh
        subst hsh
        dsimp only at hN3 hC3
        have hq3 := hq2.next hN3
        refine ok_seq 1 (σ' := (73, [(0, .ref 185)], [.ref 185], gSh, M3)) rfl ?_
        refine ok_call (mi := 188) (as := [.ref 185]) (pc' := 76) (L' := [(0, .ref 185)]) (st' := []) (sh' := gSh) (M' := M3) (i := .invokevirtual 192) (len := 3) rfl rfl ?_
        refine ((c_whole (d := d + dN + 2) hT hq3 (by show 1 ≤ D.1 + 1; omega) (by omega))).mono ?_
        rintro v3 ⟨sh2, M4⟩ ⟨rfl, hsh, ps4, w4, hq4, hb4, hw4, h224, hf4⟩
        have hsh : sh2 = gSh := hsh
        subst hsh
        dsimp only at hq4 h224 hf4
        refine ok_seq 1 (σ' := (77, [(0, .ref 185)], [.int (Int32.ofInt 0)], gSh, M4)) rfl ?_
        rw [cI_0]
        exact ok_ret (i := .ireturn) (len := 1) rfl rfl ⟨some (.int (nI 0)), rfl, rfl, Or.inl ⟨rfl, hc3, ps4, w4, (D.1 + 1, D.2), 1, hq4, hC3.keep (hf4.at 10 (by decide)) (hf4.at 12 (by decide)), by decide, h224, by show _ ≤ D.1 + 1; omega, rfl, by omega⟩⟩
      · intro hy
        simp only [pCP] at hy
        have hy : (y).toInt ≠ (0 : Int) := by omega
        refine ok_seq 1 (σ' := (58, [(0, .ref 185)], [.int (Int32.ofInt 5)], gSh, M)) rfl ?_
        rw [cI_5]
        exact ok_ret (i := .ireturn) (len := 1) rfl rfl ⟨some (.int (nI 5)), rfl, rfl, Or.inr ⟨nI 5, rfl, by decide, hq.1.pe⟩⟩
  · intro hk
    simp only [pCP] at hk
    rw [hI_int (a := 1) (by omega)] at hk
    have hk : (tok).toInt = ((1 : Nat) : Int) := by omega
    have ht : tok.toInt ≠ 0 := by omega
    have hc3 := hC.le h12 ht
    refine ok_seq 2 (σ' := (12, [(0, .ref 185)], [M 185 13], gSh, M)) rfl ?_
    rw [h13]
    refine ok_seq 1 (σ' := (15, [(0, .ref 185)], [.int ((Int16.ofInt 999).toInt32), .int (nI nb)], gSh, M)) rfl ?_
    rw [(show (Int16.ofInt 999).toInt32 = nI 999 by decide)]
    refine ok_icmp 20 rfl rfl ?_ ?_
    · intro hm
      simp only [pCP] at hm
      rw [hI_int (a := nb) (by omega), hI_int (a := 999) (by omega)] at hm
      have hm : ((nb : Nat) : Int) ≤ ((999 : Nat) : Int) := by omega
      refine ok_seq 4 (σ' := (26, [(0, .ref 185)], [M 185 13, .int (Int32.ofInt 0), .ref 185], gSh, M)) rfl ?_
      rw [h13]
      rw [cI_0]
      refine ok_call (mi := 186) (as := [.ref 185, .int (nI 0), .int (nI nb)]) (pc' := 29) (L' := [(0, .ref 185)]) (st' := []) (sh' := gSh) (M' := M) (i := .invokevirtual 170) (len := 3) rfl rfl ?_
      refine ((c_emitQ (d := d + dN + 3) hT hq (D' := (D.1 + 1, D.2)) (o := nI 0) (v := nI nb) (Or.inl ⟨by decide, rfl⟩) (by omega))).mono ?_
      rintro v1 ⟨sh2, M2⟩ ⟨rfl, hsh, hq2, hf2⟩
      have hsh : sh2 = gSh := hsh
      subst hsh
      dsimp only at hq2 hf2
      refine ok_seq 1 (σ' := (30, [(0, .ref 185)], [.ref 185], gSh, M2)) rfl ?_
      refine ok_call (mi := 180) (as := [.ref 185]) (pc' := 33) (L' := [(0, .ref 185)]) (st' := []) (sh' := gSh) (M' := M2) (i := .invokevirtual 189) (len := 3) rfl rfl ?_
      refine ((c_nextQ (d := d + dN) hT hq2.1.1.1 (hC.keep (hf2.at 10 (by decide)) (hf2.at 12 (by decide))) (by rw [hf2.at 12 (by decide)]; exact h12) ht)).mono ?_
      rintro v2 ⟨sh2, M3⟩ ⟨rfl, hsh, ⟨a3, hN3⟩, hC3⟩
      have hsh : sh2 = gSh := hsh
      subst hsh
      dsimp only at hN3 hC3
      have hq3 := hq2.next hN3
      refine ok_seq 1 (σ' := (34, [(0, .ref 185)], [.ref 185], gSh, M3)) rfl ?_
      refine ok_call (mi := 188) (as := [.ref 185]) (pc' := 37) (L' := [(0, .ref 185)]) (st' := []) (sh' := gSh) (M' := M3) (i := .invokevirtual 192) (len := 3) rfl rfl ?_
      refine ((c_whole (d := d + dN + 2) hT hq3 (by show 1 ≤ D.1 + 1; omega) (by omega))).mono ?_
      rintro v3 ⟨sh2, M4⟩ ⟨rfl, hsh, ps4, w4, hq4, hb4, hw4, h224, hf4⟩
      have hsh : sh2 = gSh := hsh
      subst hsh
      dsimp only at hq4 h224 hf4
      refine ok_seq 1 (σ' := (38, [(0, .ref 185)], [.int (Int32.ofInt 0)], gSh, M4)) rfl ?_
      rw [cI_0]
      exact ok_ret (i := .ireturn) (len := 1) rfl rfl ⟨some (.int (nI 0)), rfl, rfl, Or.inl ⟨rfl, hc3, ps4, w4, (D.1 + 1, D.2), 1, hq4, hC3.keep (hf4.at 10 (by decide)) (hf4.at 12 (by decide)), by decide, h224, by show _ ≤ D.1 + 1; omega, rfl, by omega⟩⟩
    · intro hm
      simp only [pCP] at hm
      rw [hI_int (a := nb) (by omega), hI_int (a := 999) (by omega)] at hm
      have hm : ((nb : Nat) : Int) > ((999 : Nat) : Int) := by omega
      refine ok_seq 1 (σ' := (19, [(0, .ref 185)], [.int (Int32.ofInt 2)], gSh, M)) rfl ?_
      rw [cI_2]
      exact ok_ret (i := .ireturn) (len := 1) rfl rfl ⟨some (.int (nI 2)), rfl, rfl, Or.inr ⟨nI 2, rfl, by decide, hq.1.pe⟩⟩
abbrev bhK (S : pScr) (d : Nat) (Q : Option Value → pHp → Prop) (σ : pSt) : Prop := pOk S 12 false 2 (pCode 195) d (fun i len τ' => ∃ v, pRet (some .int) i len τ'.2.2.1 = some v ∧ Q v (τ'.2.2.2.1, τ'.2.2.2.2)) σ
theorem c_behind {S : pScr} {d dN s n i0 n0 w v0 pd c : Nat} {D : Nat × Nat} {ps : List Nat} {τ : fT} {M0 M : pMem} {tok : Int32} (hT : pT τ) (hq : PQ τ s n i0 D w ps n0 M0 M) (hC : PC c M) (hD : v0 + nBin ps + 1 ≤ D.1) (hw : w + nPar ps + pd ≤ c) (h12 : M 185 12 = .int tok) (hk : tok.toInt = 43 ∨ tok.toInt = 45 ∨ tok.toInt = 42 ∨ tok.toInt = 47 ∨ (tok.toInt = 41 ∧ 40 ∈ ps)) : cOk S (d + dN + 5) 195 [.ref 185] (gSh, M) (fun r hp => hp.1 = gSh ∧ ((r = some (.int (nI 0)) ∧ c < 300 ∧ SM τ s n i0 n0 M0 v0 D.2 pd (c + 1) hp.2) ∨ (∃ z, r = some (.int z) ∧ z.toInt ≠ 0 ∧ PE τ s M0 hp.2))) := by
  have ht : tok.toInt ≠ 0 := by omega
  have hc3 := hC.le h12 ht
  have hl := hq.1.len
  have hw3 := hq.1.w300
  refine c_of_ok (Nat.le_of_ble_eq_true rfl) ?_
  have fin : ∀ (M2 : pMem) (ps2 : List Nat) (w2 b : Nat) (D' : Nat × Nat), PQ τ s n i0 D' w2 ps2 n0 M0 M2 → PC c M2 → M2 185 12 = .int tok → b < 2 → M2 185 22 = .int (nI b) → v0 + nBin ps2 + b ≤ D'.1 → D'.2 = D.2 → w2 + nPar ps2 + pd ≤ c + 1 → bhK S (d + dN + 4) (fun r hp => hp.1 = gSh ∧ ((r = some (.int (nI 0)) ∧ c < 300 ∧ SM τ s n i0 n0 M0 v0 D.2 pd (c + 1) hp.2) ∨ (∃ z, r = some (.int z) ∧ z.toInt ≠ 0 ∧ PE τ s M0 hp.2))) (115, [(1, .int tok), (0, .ref 185)], [], gSh, M2) := by
    intro M2 ps2 w2 b D' hq2 hC2 h122 hb h222 hD2 hD3 hw2
    refine ok_seq 1 (σ' := (116, [(1, .int tok), (0, .ref 185)], [.ref 185], gSh, M2)) rfl ?_
    refine ok_call (mi := 180) (as := [.ref 185]) (pc' := 119) (L' := [(1, .int tok), (0, .ref 185)]) (st' := []) (sh' := gSh) (M' := M2) (i := .invokevirtual 189) (len := 3) rfl rfl ?_
    refine ((c_nextQ (d := d + dN) hT hq2.1.1.1 hC2 h122 ht)).mono ?_
    rintro v2 ⟨sh2, M3⟩ ⟨rfl, hsh, ⟨a3, hN3⟩, hC3⟩
    have hsh : sh2 = gSh := hsh
    subst hsh
    dsimp only at hN3 hC3
    refine ok_seq 1 (σ' := (120, [(1, .int tok), (0, .ref 185)], [.int (Int32.ofInt 0)], gSh, M3)) rfl ?_
    rw [cI_0]
    exact ok_ret (i := .ireturn) (len := 1) rfl rfl ⟨some (.int (nI 0)), rfl, rfl, Or.inl ⟨rfl, hc3, ps2, w2, D', b, hq2.next hN3, hC3, hb, (hN3.2.1.2 22 (by omega)).trans h222, hD2, hD3, hw2⟩⟩
  have pu34 : ∀ (M2 : pMem) (ps2 : List Nat) (w2 p : Nat) (D' : Nat × Nat), PQ τ s n i0 D' w2 ps2 n0 M0 M2 → PC c M2 → M2 185 12 = .int tok → v0 + nBin ps2 + 1 ≤ D'.1 → D'.2 = D.2 → w2 + nPar ps2 + pd ≤ c → (3 ≤ p ∧ p ≤ 6) → (∀ q r, ps2 = q :: r → (3 ≤ q ∧ q ≤ 6) → q ≤ 4 ∧ 5 ≤ p) → bhK S (d + dN + 4) (fun r hp => hp.1 = gSh ∧ ((r = some (.int (nI 0)) ∧ c < 300 ∧ SM τ s n i0 n0 M0 v0 D.2 pd (c + 1) hp.2) ∨ (∃ z, r = some (.int z) ∧ z.toInt ≠ 0 ∧ PE τ s M0 hp.2))) (34, [(1, .int tok), (0, .ref 185)], [.int (nI p), .ref 185], gSh, M2) := by
    intro M2 ps2 w2 p D' hq2 hC2 h122 hD2 hD3 hw2 hp hadj
    have hl2 := hq2.1.len
    have k1 := nNon_b (t := ps2) hp
    have k2 := nBin_b (t := ps2) hp
    have k3 := nPar_n (t := ps2) (p := p) (by omega)
    have hn8 := hq2.1.2.2.2.2
    refine ok_call (mi := 187) (as := [.ref 185, .int (nI p)]) (pc' := 37) (L' := [(1, .int tok), (0, .ref 185)]) (st' := []) (sh' := gSh) (M' := M2) (i := .invokevirtual 202) (len := 3) rfl rfl ?_
    refine ((c_push (d := d + dN + 3) (q := ps2.length) (o := nI p) (ty_ref (pty hT hq2.1.1.1 12 rfl rfl)) hq2.1.2.2.1.2.2 (by omega))).mono ?_
    rintro v1 hp ⟨rfl, rfl⟩
    refine ok_seq 2 (σ' := (39, [(1, .int tok), (0, .ref 185)], [.int (Int32.ofInt 0), .ref 185], gSh, pUp (pUp M2 190 ps2.length (.int (nI p))) 185 20 (.int (nI (ps2.length + 1))))) rfl ?_
    rw [cI_0]
    refine ok_put (q := 163) (ci := 12) (k := 22) (n := 47) (ty := .boolean) rfl rfl rfl rfl rfl rfl fi_b0 ?_
    refine ok_seq 1 (σ' := (115, [(1, .int tok), (0, .ref 185)], [], gSh, pUp (pUp (pUp M2 190 ps2.length (.int (nI p))) 185 20 (.int (nI (ps2.length + 1)))) 185 22 (.int (nI 0)))) rfl ?_
    refine fin _ (p :: ps2) w2 0 D' ?_ ?_ ?_ (by decide) (pUp_self _ _ _ _) (by omega) hD3 (by omega)
    · refine hq2.push (ptu hT (ptu hT (pu190 hT hq2.1.1.1 _) 13 rfl (sat_n (by omega) (by omega))) 15 rfl (sat_n (by decide) (by decide))) (fun o k1 k2 => by rw [pUp_ne k1, pUp_ne k1, pUp_ne k2]) (fun k hk => by rw [pUp_ne (by decide), pUp_ne (by decide), pUp_other _ _ _ _ (fun z => by omega)]) (by rw [pUp_ne (by decide), pUp_ne (by decide)]; exact pUp_self _ _ _ _) rfl rfl rfl ?_ (by omega) ⟨by omega, fun q r e9 _ hz => hadj q r e9 hz, hq2.1.2.2.1.2.1⟩
      rw [pUp_other _ _ _ _ (by decide), pUp_other _ _ _ _ (by decide), pUp_ne (by decide), k1]
      exact hq2.1.2.2.2.1
    · exact hC2.keep rfl rfl
    · exact h122
  have pu75 : ∀ (M2 : pMem) (ps2 : List Nat) (w2 p : Nat) (D' : Nat × Nat), PQ τ s n i0 D' w2 ps2 n0 M0 M2 → PC c M2 → M2 185 12 = .int tok → v0 + nBin ps2 + 1 ≤ D'.1 → D'.2 = D.2 → w2 + nPar ps2 + pd ≤ c → (3 ≤ p ∧ p ≤ 6) → (∀ q r, ps2 = q :: r → (3 ≤ q ∧ q ≤ 6) → q ≤ 4 ∧ 5 ≤ p) → bhK S (d + dN + 4) (fun r hp => hp.1 = gSh ∧ ((r = some (.int (nI 0)) ∧ c < 300 ∧ SM τ s n i0 n0 M0 v0 D.2 pd (c + 1) hp.2) ∨ (∃ z, r = some (.int z) ∧ z.toInt ≠ 0 ∧ PE τ s M0 hp.2))) (75, [(1, .int tok), (0, .ref 185)], [.int (nI p), .ref 185], gSh, M2) := by
    intro M2 ps2 w2 p D' hq2 hC2 h122 hD2 hD3 hw2 hp hadj
    have hl2 := hq2.1.len
    have k1 := nNon_b (t := ps2) hp
    have k2 := nBin_b (t := ps2) hp
    have k3 := nPar_n (t := ps2) (p := p) (by omega)
    have hn8 := hq2.1.2.2.2.2
    refine ok_call (mi := 187) (as := [.ref 185, .int (nI p)]) (pc' := 78) (L' := [(1, .int tok), (0, .ref 185)]) (st' := []) (sh' := gSh) (M' := M2) (i := .invokevirtual 202) (len := 3) rfl rfl ?_
    refine ((c_push (d := d + dN + 3) (q := ps2.length) (o := nI p) (ty_ref (pty hT hq2.1.1.1 12 rfl rfl)) hq2.1.2.2.1.2.2 (by omega))).mono ?_
    rintro v1 hp ⟨rfl, rfl⟩
    refine ok_seq 2 (σ' := (80, [(1, .int tok), (0, .ref 185)], [.int (Int32.ofInt 0), .ref 185], gSh, pUp (pUp M2 190 ps2.length (.int (nI p))) 185 20 (.int (nI (ps2.length + 1))))) rfl ?_
    rw [cI_0]
    refine ok_put (q := 163) (ci := 12) (k := 22) (n := 47) (ty := .boolean) rfl rfl rfl rfl rfl rfl fi_b0 ?_
    refine ok_seq 1 (σ' := (115, [(1, .int tok), (0, .ref 185)], [], gSh, pUp (pUp (pUp M2 190 ps2.length (.int (nI p))) 185 20 (.int (nI (ps2.length + 1)))) 185 22 (.int (nI 0)))) rfl ?_
    refine fin _ (p :: ps2) w2 0 D' ?_ ?_ ?_ (by decide) (pUp_self _ _ _ _) (by omega) hD3 (by omega)
    · refine hq2.push (ptu hT (ptu hT (pu190 hT hq2.1.1.1 _) 13 rfl (sat_n (by omega) (by omega))) 15 rfl (sat_n (by decide) (by decide))) (fun o k1 k2 => by rw [pUp_ne k1, pUp_ne k1, pUp_ne k2]) (fun k hk => by rw [pUp_ne (by decide), pUp_ne (by decide), pUp_other _ _ _ _ (fun z => by omega)]) (by rw [pUp_ne (by decide), pUp_ne (by decide)]; exact pUp_self _ _ _ _) rfl rfl rfl ?_ (by omega) ⟨by omega, fun q r e9 _ hz => hadj q r e9 hz, hq2.1.2.2.1.2.1⟩
      rw [pUp_other _ _ _ _ (by decide), pUp_other _ _ _ _ (by decide), pUp_ne (by decide), k1]
      exact hq2.1.2.2.2.1
    · exact hC2.keep rfl rfl
    · exact h122
  have sg17 : bhK S (d + dN + 4) (fun r hp => hp.1 = gSh ∧ ((r = some (.int (nI 0)) ∧ c < 300 ∧ SM τ s n i0 n0 M0 v0 D.2 pd (c + 1) hp.2) ∨ (∃ z, r = some (.int z) ∧ z.toInt ≠ 0 ∧ PE τ s M0 hp.2))) (17, [(1, .int tok), (0, .ref 185)], [], gSh, M) := by
    refine ok_seq 2 (σ' := (19, [(1, .int tok), (0, .ref 185)], [.int (Int32.ofInt 3), .ref 185], gSh, M)) rfl ?_
    rw [cI_3]
    refine ok_call (mi := 189) (as := [.ref 185, .int (nI 3)]) (pc' := 22) (L' := [(1, .int tok), (0, .ref 185)]) (st' := []) (sh' := gSh) (M' := M) (i := .invokevirtual 208) (len := 3) rfl rfl ?_
    refine ((c_settle (d := d + dN + 2) (v0 := v0) hT hq (ls := 3) (by decide) hD (by omega))).mono ?_
    rintro v1 ⟨sh2, M2⟩ ⟨rfl, hsh, ps2, w2, D', hq2, hD2, hD3, hw2, hn2, h402, htop2, hf2⟩
    have hsh : sh2 = gSh := hsh
    subst hsh
    dsimp only at hq2 hf2
    have hC2 := hC.keep (hf2.at 10 (by decide)) (hf2.at 12 (by decide))
    have h122 : M2 185 12 = .int tok := by rw [hf2.at 12 (by decide)]; exact h12
    refine ok_seq 3 (σ' := (26, [(1, .int tok), (0, .ref 185)], [.int ((Int8.ofInt 43).toInt32), .int tok, .ref 185], gSh, M2)) rfl ?_
    rw [(show (Int8.ofInt 43).toInt32 = nI 43 by decide)]
    refine ok_icmp 33 rfl rfl ?_ ?_
    · intro hs
      simp only [pCP] at hs
      rw [hI_int (a := 43) (by omega)] at hs
      have hs : (tok).toInt ≠ ((43 : Nat) : Int) := by omega
      refine ok_seq 1 (σ' := (34, [(1, .int tok), (0, .ref 185)], [.int (Int32.ofInt 4), .ref 185], gSh, M2)) rfl ?_
      rw [cI_4]
      exact pu34 M2 ps2 w2 4 D' hq2 hC2 h122 hD2 hD3 (by omega) (by decide) (fun q r e9 hz => by have := htop2 q r e9; omega)
    · intro hs
      simp only [pCP] at hs
      rw [hI_int (a := 43) (by omega)] at hs
      have hs : (tok).toInt = ((43 : Nat) : Int) := by omega
      refine ok_seq 2 (σ' := (34, [(1, .int tok), (0, .ref 185)], [.int (Int32.ofInt 3), .ref 185], gSh, M2)) rfl ?_
      rw [cI_3]
      exact pu34 M2 ps2 w2 3 D' hq2 hC2 h122 hD2 hD3 (by omega) (by decide) (fun q r e9 hz => by have := htop2 q r e9; omega)
  have sg57 : bhK S (d + dN + 4) (fun r hp => hp.1 = gSh ∧ ((r = some (.int (nI 0)) ∧ c < 300 ∧ SM τ s n i0 n0 M0 v0 D.2 pd (c + 1) hp.2) ∨ (∃ z, r = some (.int z) ∧ z.toInt ≠ 0 ∧ PE τ s M0 hp.2))) (57, [(1, .int tok), (0, .ref 185)], [], gSh, M) := by
    refine ok_seq 2 (σ' := (59, [(1, .int tok), (0, .ref 185)], [.int (Int32.ofInt 5), .ref 185], gSh, M)) rfl ?_
    rw [cI_5]
    refine ok_call (mi := 189) (as := [.ref 185, .int (nI 5)]) (pc' := 62) (L' := [(1, .int tok), (0, .ref 185)]) (st' := []) (sh' := gSh) (M' := M) (i := .invokevirtual 208) (len := 3) rfl rfl ?_
    refine ((c_settle (d := d + dN + 2) (v0 := v0) hT hq (ls := 5) (by decide) hD (by omega))).mono ?_
    rintro v1 ⟨sh2, M2⟩ ⟨rfl, hsh, ps2, w2, D', hq2, hD2, hD3, hw2, hn2, h402, htop2, hf2⟩
    have hsh : sh2 = gSh := hsh
    subst hsh
    dsimp only at hq2 hf2
    have hC2 := hC.keep (hf2.at 10 (by decide)) (hf2.at 12 (by decide))
    have h122 : M2 185 12 = .int tok := by rw [hf2.at 12 (by decide)]; exact h12
    refine ok_seq 3 (σ' := (66, [(1, .int tok), (0, .ref 185)], [.int ((Int8.ofInt 42).toInt32), .int tok, .ref 185], gSh, M2)) rfl ?_
    rw [(show (Int8.ofInt 42).toInt32 = nI 42 by decide)]
    refine ok_icmp 73 rfl rfl ?_ ?_
    · intro hs
      simp only [pCP] at hs
      rw [hI_int (a := 42) (by omega)] at hs
      have hs : (tok).toInt ≠ ((42 : Nat) : Int) := by omega
      refine ok_seq 1 (σ' := (75, [(1, .int tok), (0, .ref 185)], [.int ((Int8.ofInt 6).toInt32), .ref 185], gSh, M2)) rfl ?_
      rw [(show (Int8.ofInt 6).toInt32 = nI 6 by decide)]
      exact pu75 M2 ps2 w2 6 D' hq2 hC2 h122 hD2 hD3 (by omega) (by decide) (fun q r e9 hz => by have := htop2 q r e9; omega)
    · intro hs
      simp only [pCP] at hs
      rw [hI_int (a := 42) (by omega)] at hs
      have hs : (tok).toInt = ((42 : Nat) : Int) := by omega
      refine ok_seq 2 (σ' := (75, [(1, .int tok), (0, .ref 185)], [.int (Int32.ofInt 5), .ref 185], gSh, M2)) rfl ?_
      rw [cI_5]
      exact pu75 M2 ps2 w2 5 D' hq2 hC2 h122 hD2 hD3 (by omega) (by decide) (fun q r e9 hz => by have := htop2 q r e9; omega)
  have cl : tok.toInt = 41 → bhK S (d + dN + 4) (fun r hp => hp.1 = gSh ∧ ((r = some (.int (nI 0)) ∧ c < 300 ∧ SM τ s n i0 n0 M0 v0 D.2 pd (c + 1) hp.2) ∨ (∃ z, r = some (.int z) ∧ z.toInt ≠ 0 ∧ PE τ s M0 hp.2))) (86, [(1, .int tok), (0, .ref 185)], [], gSh, M) := by
    intro h41
    have h40 : 40 ∈ ps := by
      rcases hk with hz | hz | hz | hz | ⟨-, hz⟩
      · omega
      · omega
      · omega
      · omega
      · exact hz
    refine ok_seq 2 (σ' := (88, [(1, .int tok), (0, .ref 185)], [.int (Int32.ofInt 3), .ref 185], gSh, M)) rfl ?_
    rw [cI_3]
    refine ok_call (mi := 189) (as := [.ref 185, .int (nI 3)]) (pc' := 91) (L' := [(1, .int tok), (0, .ref 185)]) (st' := []) (sh' := gSh) (M' := M) (i := .invokevirtual 208) (len := 3) rfl rfl ?_
    refine ((c_settle (d := d + dN + 2) (v0 := v0) hT hq (ls := 3) (by decide) hD (by omega))).mono ?_
    rintro v1 ⟨sh2, M2⟩ ⟨rfl, hsh, ps2, w2, D', hq2, hD2, hD3, hw2, hn2, h402, htop2, hf2⟩
    have hsh : sh2 = gSh := hsh
    subst hsh
    dsimp only at hq2 hf2
    cases ps2 with
    | nil => cases h402 h40
    | cons q t =>
      have hC2 := hC.keep (hf2.at 10 (by decide)) (hf2.at 12 (by decide))
      have h122 : M2 185 12 = .int tok := by rw [hf2.at 12 (by decide)]; exact h12
      have hqv := hq2.1.2.2.1.2.1.1
      have hqn := htop2 q t rfl
      have hpb : ¬ (3 ≤ q ∧ q ≤ 6) := by omega
      have k1 := nNon_2 (t := t) hpb
      have k2 := nBin_2 (t := t) hpb
      have k3 := nPar_le (t := t) (p := q)
      have h202 : M2 185 20 = .int (nI (t.length + 1)) := hq2.1.2.2.1.2.2
      have h212 := hq2.1.2.2.2.1
      have hn8 := hq2.1.2.2.2.2
      have hl2 : t.length + 1 ≤ 26 := hq2.1.len
      refine ok_seq 3 (σ' := (96, [(1, .int tok), (0, .ref 185)], [M2 185 20, .ref 185], gSh, M2)) rfl ?_
      rw [h202]
      refine ok_seq 2 (σ' := (98, [(1, .int tok), (0, .ref 185)], [.int ((nI (t.length + 1)) - (Int32.ofInt 1)), .ref 185], gSh, M2)) rfl ?_
      rw [cI_1, hI_sub (t.length + 1) 1 (by omega)]
      refine ok_put (q := 160) (ci := 12) (k := 20) (n := 47) (ty := .int) rfl rfl rfl rfl rfl rfl (fi_int _) ?_
      refine ok_seq 3 (σ' := (106, [(1, .int tok), (0, .ref 185)], [M2 185 21, .ref 185], gSh, pUp M2 185 20 (.int (nI ((t.length + 1) - 1))))) rfl ?_
      rw [h212]
      refine ok_seq 2 (σ' := (108, [(1, .int tok), (0, .ref 185)], [.int ((nI (n0 + nNon (q :: t))) - (Int32.ofInt 1)), .ref 185], gSh, pUp M2 185 20 (.int (nI ((t.length + 1) - 1))))) rfl ?_
      rw [cI_1, hI_sub (n0 + nNon (q :: t)) 1 (by omega)]
      refine ok_put (q := 167) (ci := 12) (k := 21) (n := 47) (ty := .int) rfl rfl rfl rfl rfl rfl (fi_int _) ?_
      refine ok_seq 1 (σ' := (112, [(1, .int tok), (0, .ref 185)], [.ref 185], gSh, pUp (pUp M2 185 20 (.int (nI ((t.length + 1) - 1)))) 185 21 (.int (nI ((n0 + nNon (q :: t)) - 1))))) rfl ?_
      have hq3 : PQ τ s n i0 D' w2 t n0 M0 (pUp (pUp M2 185 20 (.int (nI ((t.length + 1) - 1)))) 185 21 (.int (nI ((n0 + nNon (q :: t)) - 1)))) := hq2.pop (ptu hT (ptu hT hq2.1.1.1 13 rfl (sat_n (by omega) (by omega))) 14 rfl (sat_a _)) (fun o ho => by rw [pUp_ne ho, pUp_ne ho]) rfl rfl rfl (by rw [pUp_self, k1, show n0 + (1 + nNon t) - 1 = n0 + nNon t by omega]) (by omega)
      refine ok_call (mi := 188) (as := [.ref 185]) (pc' := 115) (L' := [(1, .int tok), (0, .ref 185)]) (st' := []) (sh' := gSh) (M' := pUp (pUp M2 185 20 (.int (nI ((t.length + 1) - 1)))) 185 21 (.int (nI ((n0 + nNon (q :: t)) - 1)))) (i := .invokevirtual 192) (len := 3) rfl rfl ?_
      refine ((c_whole (d := d + dN + 2) hT hq3 (by omega) (by omega))).mono ?_
      rintro v3 ⟨sh2, M4⟩ ⟨rfl, hsh, ps4, w4, hq4, hb4, hw4, h224, hf4⟩
      have hsh : sh2 = gSh := hsh
      subst hsh
      dsimp only at hq4 h224 hf4
      exact fin M4 ps4 w4 1 D' hq4 (hC2.keep (hf4.at 10 (by decide)) (hf4.at 12 (by decide))) (by rw [hf4.at 12 (by decide)]; exact h122) (by decide) h224 (by omega) hD3 (by omega)
  refine ok_seq 2 (σ' := (4, [(0, .ref 185)], [M 185 12], gSh, M)) rfl ?_
  rw [h12]
  refine ok_seq 3 (σ' := (8, [(1, .int tok), (0, .ref 185)], [.int ((Int8.ofInt 43).toInt32), .int tok], gSh, M)) rfl ?_
  rw [(show (Int8.ofInt 43).toInt32 = nI 43 by decide)]
  refine ok_icmp 17 rfl rfl (fun _ => sg17) (fun a1 => ?_)
  refine ok_seq 2 (σ' := (14, [(1, .int tok), (0, .ref 185)], [.int ((Int8.ofInt 45).toInt32), .int tok], gSh, M)) rfl ?_
  rw [(show (Int8.ofInt 45).toInt32 = nI 45 by decide)]
  refine ok_icmp 45 rfl rfl (fun a2 => ?_) (fun _ => sg17)
  refine ok_seq 2 (σ' := (48, [(1, .int tok), (0, .ref 185)], [.int ((Int8.ofInt 42).toInt32), .int tok], gSh, M)) rfl ?_
  rw [(show (Int8.ofInt 42).toInt32 = nI 42 by decide)]
  refine ok_icmp 57 rfl rfl (fun _ => sg57) (fun a3 => ?_)
  refine ok_seq 2 (σ' := (54, [(1, .int tok), (0, .ref 185)], [.int ((Int8.ofInt 47).toInt32), .int tok], gSh, M)) rfl ?_
  rw [(show (Int8.ofInt 47).toInt32 = nI 47 by decide)]
  refine ok_icmp 86 rfl rfl (fun a4 => cl ?_) (fun _ => sg57)
  simp only [pCP] at a1 a2 a3 a4
  rw [hI_int (a := 43) (by omega)] at a1
  rw [hI_int (a := 45) (by omega)] at a2
  rw [hI_int (a := 42) (by omega)] at a3
  rw [hI_int (a := 47) (by omega)] at a4
  omega
abbrev suK (S : pScr) (d : Nat) (Q : Option Value → pHp → Prop) (σ : pSt) : Prop := pOk S 12 false 2 (pCode 196) d (fun i len τ' => ∃ v, pRet (some .int) i len τ'.2.2.1 = some v ∧ Q v (τ'.2.2.2.1, τ'.2.2.2.2)) σ
theorem su_loop {S : pScr} {d dN s n i0 n0 v0 pd c0 D2 : Nat} {τ : fT} {M0 : pMem} (hT : pT τ) (hH : PH τ S dN) (hg : gR M0) : ∀ (j c : Nat) (M : pMem) (L1 : List (Nat × Value)), 300 - c = j → c ≤ 300 → c0 ≤ c → SM τ s n i0 n0 M0 v0 D2 pd c M → (L1 = [] ∨ ∃ z, L1 = [(1, z)] ∧ ∃ y : Int32, z = .int y) → suK S (d + dN + 5) (fun r hp => hp.1 = gSh ∧ ((r = some (.int (nI 0)) ∧ ∃ (w' c' : Nat) (D' : Nat × Nat), PQ τ s n i0 D' w' [] n0 M0 hp.2 ∧ PC c' hp.2 ∧ v0 + 1 ≤ D'.1 ∧ D'.2 = D2 ∧ w' + pd ≤ c' ∧ c0 ≤ c') ∨ (∃ z, r = some (.int z) ∧ z.toInt ≠ 0 ∧ PE τ s M0 hp.2))) (10, L1 ++ [(0, .ref 185)], [], gSh, M) := by
  intro j
  induction j using Nat.strongRecOn with
  | _ j ih =>
  intro c M L1 hj hc hc0 hS hL
  obtain ⟨ps, w, D, b, hq, hC, hb, h22, hD, hD2, hw⟩ := hS
  obtain ⟨tok, h12, -⟩ := ty_int (pty hT hq.1.1.1 8 rfl rfl)
  have hw3 := hq.1.w300
  rcases hL with rfl | ⟨z0, rfl, y0, rfl⟩
  · refine ok_seq 2 (σ' := (14, [(0, .ref 185)], [M 185 22], gSh, M)) rfl ?_
    rw [h22]
    refine ok_if 24 rfl rfl ?_ ?_
    · intro hb0
      simp only [pCP] at hb0
      rw [hI_int (a := b) (by omega)] at hb0
      have hb0 : ((b : Nat) : Int) = (0 : Int) := by omega
      refine ok_seq 2 (σ' := (28, [(0, .ref 185)], [M 185 22], gSh, M)) rfl ?_
      rw [h22]
      refine ok_if 38 rfl rfl (fun _ => ?_) (fun hz => absurd (by simp only [pCP]; rw [hI_int (a := b) (by omega)]; omega) hz)
      refine ok_seq 1 (σ' := (39, [(0, .ref 185)], [.ref 185], gSh, M)) rfl ?_
      refine ok_call (mi := 192) (as := [.ref 185]) (pc' := 42) (L' := [(0, .ref 185)]) (st' := []) (sh' := gSh) (M' := M) (i := .invokevirtual 217) (len := 3) rfl rfl ?_
      refine ((c_begin (d := d) (pd := pd) (v0 := v0) hT hH hg hq hC (by rw [h22, show b = 0 by omega]) (by omega) hw)).mono ?_
      rintro v ⟨sh2, M2⟩ ⟨hsh, hor⟩
      have hsh : sh2 = gSh := hsh
      subst hsh
      dsimp only at hor
      rcases hor with ⟨rfl, hlt, hS2⟩ | ⟨z, rfl, hz, hE⟩
      · refine ok_seq 2 (σ' := (44, [(1, .int (nI 0)), (0, .ref 185)], [.int (nI 0)], gSh, M2)) rfl ?_
        refine ok_if 49 rfl rfl (fun _ => ?_) (fun hz => absurd (by simp only [pCP]; rw [hI_int (a := 0) (by omega)]; omega) hz)
        refine ok_seq 1 (σ' := (10, [(1, .int (nI 0)), (0, .ref 185)], [], gSh, M2)) rfl ?_
        rw [hD2] at hS2
        exact ih (300 - (c + 1)) (by omega) (c + 1) M2 [(1, .int (nI 0))] rfl (by omega) (by omega) hS2 (Or.inr ⟨_, rfl, _, rfl⟩)
      · refine ok_seq 2 (σ' := (44, [(1, .int z), (0, .ref 185)], [.int z], gSh, M2)) rfl ?_
        refine ok_if 49 rfl rfl (fun hz => absurd hz (by simp only [pCP]; omega)) (fun _ => ?_)
        refine ok_seq 1 (σ' := (48, [(1, .int z), (0, .ref 185)], [.int z], gSh, M2)) rfl ?_
        exact ok_ret (i := .ireturn) (len := 1) rfl rfl ⟨some (.int z), rfl, rfl, Or.inr ⟨z, rfl, hz, hE⟩⟩
    · intro hb0
      simp only [pCP] at hb0
      rw [hI_int (a := b) (by omega)] at hb0
      have hb0 : ((b : Nat) : Int) ≠ (0 : Int) := by omega
      have hb1 : b = 1 := by omega
      subst hb1
      refine ok_seq 1 (σ' := (18, [(0, .ref 185)], [.ref 185], gSh, M)) rfl ?_
      refine ok_call (mi := 194) (as := [.ref 185]) (pc' := 21) (L' := [(0, .ref 185)]) (st' := []) (sh' := gSh) (M' := M) (i := .invokevirtual 211) (len := 3) rfl rfl ?_
      refine (((c_goesOn (d := 0) hT hq.1 h12).deep (by omega))).mono ?_
      rintro v hp ⟨hv, rfl⟩
      rcases hv with rfl | ⟨rfl, hk⟩
      · refine ok_if 52 rfl rfl (fun _ => ?_) (fun hz => absurd (by simp only [pCP]; rw [hI_int (a := 0) (by omega)]; omega) hz)
        refine ok_seq 2 (σ' := (54, [(0, .ref 185)], [.int (Int32.ofInt 3), .ref 185], gSh, M)) rfl ?_
        rw [cI_3]
        refine ok_call (mi := 189) (as := [.ref 185, .int (nI 3)]) (pc' := 57) (L' := [(0, .ref 185)]) (st' := []) (sh' := gSh) (M' := M) (i := .invokevirtual 208) (len := 3) rfl rfl ?_
        refine ((c_settle (d := d + dN + 3) (v0 := v0) hT hq (ls := 3) (by decide) hD (by obtain ⟨a9, t9, -, -, k3, k4, -⟩ := hC; omega))).mono ?_
        rintro v1 ⟨sh2, M2⟩ ⟨rfl, hsh, ps2, w2, D', hq2, hD2', hD3, hw2, hn2, h402, htop2, hf2⟩
        have hsh : sh2 = gSh := hsh
        subst hsh
        dsimp only at hq2 hf2
        have h202 := hq2.1.2.2.1.2.2
        have hl2 := hq2.1.len
        refine ok_seq 2 (σ' := (61, [(0, .ref 185)], [M2 185 20], gSh, M2)) rfl ?_
        rw [h202]
        refine ok_if 68 rfl rfl ?_ ?_
        · intro hp0
          simp only [pCP] at hp0
          rw [hI_int (a := ps2.length) (by omega)] at hp0
          have hp0 : ((ps2.length : Nat) : Int) ≤ (0 : Int) := by omega
          refine ok_seq 1 (σ' := (69, [(0, .ref 185)], [.int (Int32.ofInt 0)], gSh, M2)) rfl ?_
          rw [cI_0]
          have e0 : ps2 = [] := List.eq_nil_of_length_eq_zero (by omega)
          subst e0
          exact ok_ret (i := .ireturn) (len := 1) rfl rfl ⟨some (.int (nI 0)), rfl, rfl, Or.inl ⟨rfl, w2, c, D', hq2, hC.keep (hf2.at 10 (by decide)) (hf2.at 12 (by decide)), by have : nBin [] = 0 := rfl; omega, by omega, by have : nPar [] = 0 := rfl; omega, hc0⟩⟩
        · intro hp0
          simp only [pCP] at hp0
          rw [hI_int (a := ps2.length) (by omega)] at hp0
          have hp0 : ((ps2.length : Nat) : Int) > (0 : Int) := by omega
          refine ok_seq 2 (σ' := (69, [(0, .ref 185)], [.int (Int32.ofInt 1)], gSh, M2)) rfl ?_
          rw [cI_1]
          exact ok_ret (i := .ireturn) (len := 1) rfl rfl ⟨some (.int (nI 1)), rfl, rfl, Or.inr ⟨nI 1, rfl, by decide, hq2.1.pe⟩⟩
      · refine ok_if 52 rfl rfl (fun hz => absurd hz (by simp only [pCP]; rw [hI_int (a := 1) (by omega)]; omega)) (fun _ => ?_)
        refine ok_seq 2 (σ' := (28, [(0, .ref 185)], [M 185 22], gSh, M)) rfl ?_
        rw [h22]
        refine ok_if 38 rfl rfl (fun hz => absurd hz (by simp only [pCP]; rw [hI_int (a := 1) (by omega)]; omega)) (fun _ => ?_)
        refine ok_seq 1 (σ' := (32, [(0, .ref 185)], [.ref 185], gSh, M)) rfl ?_
        refine ok_call (mi := 195) (as := [.ref 185]) (pc' := 35) (L' := [(0, .ref 185)]) (st' := []) (sh' := gSh) (M' := M) (i := .invokevirtual 214) (len := 3) rfl rfl ?_
        refine ((c_behind (d := d) (dN := dN) (pd := pd) (v0 := v0) hT hq hC hD hw h12 hk)).mono ?_
        rintro v ⟨sh2, M2⟩ ⟨hsh, hor⟩
        have hsh : sh2 = gSh := hsh
        subst hsh
        dsimp only at hor
        rcases hor with ⟨rfl, hlt, hS2⟩ | ⟨z, rfl, hz, hE⟩
        · refine ok_seq 3 (σ' := (44, [(1, .int (nI 0)), (0, .ref 185)], [.int (nI 0)], gSh, M2)) rfl ?_
          refine ok_if 49 rfl rfl (fun _ => ?_) (fun hz => absurd (by simp only [pCP]; rw [hI_int (a := 0) (by omega)]; omega) hz)
          refine ok_seq 1 (σ' := (10, [(1, .int (nI 0)), (0, .ref 185)], [], gSh, M2)) rfl ?_
          rw [hD2] at hS2
          exact ih (300 - (c + 1)) (by omega) (c + 1) M2 [(1, .int (nI 0))] rfl (by omega) (by omega) hS2 (Or.inr ⟨_, rfl, _, rfl⟩)
        · refine ok_seq 3 (σ' := (44, [(1, .int z), (0, .ref 185)], [.int z], gSh, M2)) rfl ?_
          refine ok_if 49 rfl rfl (fun hz => absurd hz (by simp only [pCP]; omega)) (fun _ => ?_)
          refine ok_seq 1 (σ' := (48, [(1, .int z), (0, .ref 185)], [.int z], gSh, M2)) rfl ?_
          exact ok_ret (i := .ireturn) (len := 1) rfl rfl ⟨some (.int z), rfl, rfl, Or.inr ⟨z, rfl, hz, hE⟩⟩
  · refine ok_seq 2 (σ' := (14, [(1, .int y0), (0, .ref 185)], [M 185 22], gSh, M)) rfl ?_
    rw [h22]
    refine ok_if 24 rfl rfl ?_ ?_
    · intro hb0
      simp only [pCP] at hb0
      rw [hI_int (a := b) (by omega)] at hb0
      have hb0 : ((b : Nat) : Int) = (0 : Int) := by omega
      refine ok_seq 2 (σ' := (28, [(1, .int y0), (0, .ref 185)], [M 185 22], gSh, M)) rfl ?_
      rw [h22]
      refine ok_if 38 rfl rfl (fun _ => ?_) (fun hz => absurd (by simp only [pCP]; rw [hI_int (a := b) (by omega)]; omega) hz)
      refine ok_seq 1 (σ' := (39, [(1, .int y0), (0, .ref 185)], [.ref 185], gSh, M)) rfl ?_
      refine ok_call (mi := 192) (as := [.ref 185]) (pc' := 42) (L' := [(1, .int y0), (0, .ref 185)]) (st' := []) (sh' := gSh) (M' := M) (i := .invokevirtual 217) (len := 3) rfl rfl ?_
      refine ((c_begin (d := d) (pd := pd) (v0 := v0) hT hH hg hq hC (by rw [h22, show b = 0 by omega]) (by omega) hw)).mono ?_
      rintro v ⟨sh2, M2⟩ ⟨hsh, hor⟩
      have hsh : sh2 = gSh := hsh
      subst hsh
      dsimp only at hor
      rcases hor with ⟨rfl, hlt, hS2⟩ | ⟨z, rfl, hz, hE⟩
      · refine ok_seq 2 (σ' := (44, [(1, .int (nI 0)), (0, .ref 185)], [.int (nI 0)], gSh, M2)) rfl ?_
        refine ok_if 49 rfl rfl (fun _ => ?_) (fun hz => absurd (by simp only [pCP]; rw [hI_int (a := 0) (by omega)]; omega) hz)
        refine ok_seq 1 (σ' := (10, [(1, .int (nI 0)), (0, .ref 185)], [], gSh, M2)) rfl ?_
        rw [hD2] at hS2
        exact ih (300 - (c + 1)) (by omega) (c + 1) M2 [(1, .int (nI 0))] rfl (by omega) (by omega) hS2 (Or.inr ⟨_, rfl, _, rfl⟩)
      · refine ok_seq 2 (σ' := (44, [(1, .int z), (0, .ref 185)], [.int z], gSh, M2)) rfl ?_
        refine ok_if 49 rfl rfl (fun hz => absurd hz (by simp only [pCP]; omega)) (fun _ => ?_)
        refine ok_seq 1 (σ' := (48, [(1, .int z), (0, .ref 185)], [.int z], gSh, M2)) rfl ?_
        exact ok_ret (i := .ireturn) (len := 1) rfl rfl ⟨some (.int z), rfl, rfl, Or.inr ⟨z, rfl, hz, hE⟩⟩
    · intro hb0
      simp only [pCP] at hb0
      rw [hI_int (a := b) (by omega)] at hb0
      have hb0 : ((b : Nat) : Int) ≠ (0 : Int) := by omega
      have hb1 : b = 1 := by omega
      subst hb1
      refine ok_seq 1 (σ' := (18, [(1, .int y0), (0, .ref 185)], [.ref 185], gSh, M)) rfl ?_
      refine ok_call (mi := 194) (as := [.ref 185]) (pc' := 21) (L' := [(1, .int y0), (0, .ref 185)]) (st' := []) (sh' := gSh) (M' := M) (i := .invokevirtual 211) (len := 3) rfl rfl ?_
      refine (((c_goesOn (d := 0) hT hq.1 h12).deep (by omega))).mono ?_
      rintro v hp ⟨hv, rfl⟩
      rcases hv with rfl | ⟨rfl, hk⟩
      · refine ok_if 52 rfl rfl (fun _ => ?_) (fun hz => absurd (by simp only [pCP]; rw [hI_int (a := 0) (by omega)]; omega) hz)
        refine ok_seq 2 (σ' := (54, [(1, .int y0), (0, .ref 185)], [.int (Int32.ofInt 3), .ref 185], gSh, M)) rfl ?_
        rw [cI_3]
        refine ok_call (mi := 189) (as := [.ref 185, .int (nI 3)]) (pc' := 57) (L' := [(1, .int y0), (0, .ref 185)]) (st' := []) (sh' := gSh) (M' := M) (i := .invokevirtual 208) (len := 3) rfl rfl ?_
        refine ((c_settle (d := d + dN + 3) (v0 := v0) hT hq (ls := 3) (by decide) hD (by obtain ⟨a9, t9, -, -, k3, k4, -⟩ := hC; omega))).mono ?_
        rintro v1 ⟨sh2, M2⟩ ⟨rfl, hsh, ps2, w2, D', hq2, hD2', hD3, hw2, hn2, h402, htop2, hf2⟩
        have hsh : sh2 = gSh := hsh
        subst hsh
        dsimp only at hq2 hf2
        have h202 := hq2.1.2.2.1.2.2
        have hl2 := hq2.1.len
        refine ok_seq 2 (σ' := (61, [(1, .int y0), (0, .ref 185)], [M2 185 20], gSh, M2)) rfl ?_
        rw [h202]
        refine ok_if 68 rfl rfl ?_ ?_
        · intro hp0
          simp only [pCP] at hp0
          rw [hI_int (a := ps2.length) (by omega)] at hp0
          have hp0 : ((ps2.length : Nat) : Int) ≤ (0 : Int) := by omega
          refine ok_seq 1 (σ' := (69, [(1, .int y0), (0, .ref 185)], [.int (Int32.ofInt 0)], gSh, M2)) rfl ?_
          rw [cI_0]
          have e0 : ps2 = [] := List.eq_nil_of_length_eq_zero (by omega)
          subst e0
          exact ok_ret (i := .ireturn) (len := 1) rfl rfl ⟨some (.int (nI 0)), rfl, rfl, Or.inl ⟨rfl, w2, c, D', hq2, hC.keep (hf2.at 10 (by decide)) (hf2.at 12 (by decide)), by have : nBin [] = 0 := rfl; omega, by omega, by have : nPar [] = 0 := rfl; omega, hc0⟩⟩
        · intro hp0
          simp only [pCP] at hp0
          rw [hI_int (a := ps2.length) (by omega)] at hp0
          have hp0 : ((ps2.length : Nat) : Int) > (0 : Int) := by omega
          refine ok_seq 2 (σ' := (69, [(1, .int y0), (0, .ref 185)], [.int (Int32.ofInt 1)], gSh, M2)) rfl ?_
          rw [cI_1]
          exact ok_ret (i := .ireturn) (len := 1) rfl rfl ⟨some (.int (nI 1)), rfl, rfl, Or.inr ⟨nI 1, rfl, by decide, hq2.1.pe⟩⟩
      · refine ok_if 52 rfl rfl (fun hz => absurd hz (by simp only [pCP]; rw [hI_int (a := 1) (by omega)]; omega)) (fun _ => ?_)
        refine ok_seq 2 (σ' := (28, [(1, .int y0), (0, .ref 185)], [M 185 22], gSh, M)) rfl ?_
        rw [h22]
        refine ok_if 38 rfl rfl (fun hz => absurd hz (by simp only [pCP]; rw [hI_int (a := 1) (by omega)]; omega)) (fun _ => ?_)
        refine ok_seq 1 (σ' := (32, [(1, .int y0), (0, .ref 185)], [.ref 185], gSh, M)) rfl ?_
        refine ok_call (mi := 195) (as := [.ref 185]) (pc' := 35) (L' := [(1, .int y0), (0, .ref 185)]) (st' := []) (sh' := gSh) (M' := M) (i := .invokevirtual 214) (len := 3) rfl rfl ?_
        refine ((c_behind (d := d) (dN := dN) (pd := pd) (v0 := v0) hT hq hC hD hw h12 hk)).mono ?_
        rintro v ⟨sh2, M2⟩ ⟨hsh, hor⟩
        have hsh : sh2 = gSh := hsh
        subst hsh
        dsimp only at hor
        rcases hor with ⟨rfl, hlt, hS2⟩ | ⟨z, rfl, hz, hE⟩
        · refine ok_seq 3 (σ' := (44, [(1, .int (nI 0)), (0, .ref 185)], [.int (nI 0)], gSh, M2)) rfl ?_
          refine ok_if 49 rfl rfl (fun _ => ?_) (fun hz => absurd (by simp only [pCP]; rw [hI_int (a := 0) (by omega)]; omega) hz)
          refine ok_seq 1 (σ' := (10, [(1, .int (nI 0)), (0, .ref 185)], [], gSh, M2)) rfl ?_
          rw [hD2] at hS2
          exact ih (300 - (c + 1)) (by omega) (c + 1) M2 [(1, .int (nI 0))] rfl (by omega) (by omega) hS2 (Or.inr ⟨_, rfl, _, rfl⟩)
        · refine ok_seq 3 (σ' := (44, [(1, .int z), (0, .ref 185)], [.int z], gSh, M2)) rfl ?_
          refine ok_if 49 rfl rfl (fun hz => absurd hz (by simp only [pCP]; omega)) (fun _ => ?_)
          refine ok_seq 1 (σ' := (48, [(1, .int z), (0, .ref 185)], [.int z], gSh, M2)) rfl ?_
          exact ok_ret (i := .ireturn) (len := 1) rfl rfl ⟨some (.int z), rfl, rfl, Or.inr ⟨z, rfl, hz, hE⟩⟩
theorem c_summed {S : pScr} {d dN s n i0 n0 v0 pd c0 w : Nat} {D : Nat × Nat} {τ : fT} {M0 M : pMem} (hT : pT τ) (hH : PH τ S dN) (hg : gR M0) (hq : PQ τ s n i0 D w [] n0 M0 M) (hC : PC c0 M) (hv : v0 ≤ D.1) (hw : w + pd ≤ c0) : cOk S (d + dN + 6) 196 [.ref 185] (gSh, M) (fun r hp => hp.1 = gSh ∧ ((r = some (.int (nI 0)) ∧ ∃ (w' c' : Nat) (D' : Nat × Nat), PQ τ s n i0 D' w' [] n0 M0 hp.2 ∧ PC c' hp.2 ∧ v0 + 1 ≤ D'.1 ∧ D'.2 = D.2 ∧ w' + pd ≤ c' ∧ c0 ≤ c') ∨ (∃ z, r = some (.int z) ∧ z.toInt ≠ 0 ∧ PE τ s M0 hp.2))) := by
  refine c_of_ok (Nat.le_of_ble_eq_true rfl) ?_
  refine ok_seq 2 (σ' := (2, [(0, .ref 185)], [.int (Int32.ofInt 0), .ref 185], gSh, M)) rfl ?_
  rw [cI_0]
  refine ok_put (q := 160) (ci := 12) (k := 20) (n := 47) (ty := .int) rfl rfl rfl rfl rfl rfl (fi_int _) ?_
  refine ok_seq 2 (σ' := (7, [(0, .ref 185)], [.int (Int32.ofInt 0), .ref 185], gSh, pUp M 185 20 (.int (nI 0)))) rfl ?_
  rw [cI_0]
  refine ok_put (q := 163) (ci := 12) (k := 22) (n := 47) (ty := .boolean) rfl rfl rfl rfl rfl rfl fi_b0 ?_
  refine su_loop (d := d) hT hH hg _ c0 _ [] rfl ?_ (Nat.le_refl _) ⟨[], w, D, 0, ?_, ?_, by decide, pUp_self _ _ _ _, by show v0 + 0 + 0 ≤ _; omega, rfl, hw⟩ (Or.inl rfl)
  · obtain ⟨a9, t9, -, -, k3, k4, -⟩ := hC
    omega
  · exact hq.fields (ptu hT (ptu hT hq.1.1.1 13 rfl (sat_n (by decide) (by decide))) 15 rfl (sat_n (by decide) (by decide))) (fun o ho => by rw [pUp_ne ho, pUp_ne ho]) rfl rfl (by show Value.int (nI 0) = _; exact hq.1.2.2.1.2.2.symm) rfl
  · exact hC.keep rfl rfl

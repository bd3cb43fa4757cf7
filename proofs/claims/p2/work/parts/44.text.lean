/-! by hand, printed by wip/gen/gen44.py -/
theorem PB0.hdr {τ : fT} {s n w n0 k : Nat} {M0 M : pMem} {z : Int32} (hT : pT τ) (h : PB0 τ s n w n0 M0 M) (hk : 800 * s + 1 + 4 * n ≤ k ∧ k < 800 * s + 60) : PB0 τ s n w n0 M0 (pUp M 188 k (.int z)) := by
  obtain ⟨⟨a1, a2, a3⟩, ⟨b1, b2, b3⟩, d1, d2⟩ := h
  exact ⟨⟨pu188 hT a1 z, fun o k1 k2 k3 => by rw [pUp_ne k2]; exact a2 o k1 k2 k3, a3⟩, ⟨by rw [pUp_ne (by decide)]; exact b1, by rw [pUp_ne (by decide)]; exact b2, TI_ext b3 (Nat.le_refl _) b3.2.1 (fun j hj => pUp_other _ _ _ _ (fun e => by omega))⟩, by rw [pUp_ne (by decide)]; exact d1, d2⟩
theorem PB0.beg {τ : fT} {s n w n0 : Nat} {M0 M : pMem} (hT : pT τ) (h : PB0 τ s n w n0 M0 M) (hn : n < 12) : PQ0 τ s n w (0, 0) w n0 M0 (pUp M 188 (800 * s + 1 + 4 * n + 2) (.int (nI w))) := ⟨h.hdr hT (by omega), code_nil, Nat.le_refl _, hn, pUp_self _ _ _ _⟩
theorem PQ0.close {τ : fT} {s n i0 w n0 : Nat} {D : Nat × Nat} {M0 M : pMem} (hT : pT τ) (h : PQ0 τ s n i0 D w n0 M0 M) : PB0 τ s (n + 1) w n0 M0 (pUp (pUp M 188 (800 * s + 1 + 4 * n + 3) (.int (nI w))) 188 (800 * s) (.int (nI (n + 1)))) := by
  obtain ⟨⟨⟨a1, a2, a3⟩, ⟨b1, b2, b3⟩, d1, d2⟩, e1, e2, e3, e4⟩ := h
  have o188 : ∀ k, k ≠ 800 * s → k ≠ 800 * s + 1 + 4 * n + 3 → pUp (pUp M 188 (800 * s + 1 + 4 * n + 3) (.int (nI w))) 188 (800 * s) (.int (nI (n + 1))) 188 k = M 188 k := fun k h1 h2 => by rw [pUp_other _ _ _ _ (fun z => h1 z.2), pUp_other _ _ _ _ (fun z => h2 z.2)]
  obtain ⟨t1, t2, t3, t4, t5⟩ := b3
  refine ⟨⟨pu188 hT (pu188 hT a1 _) _, fun o k1 k2 k3 => by rw [pUp_ne k2, pUp_ne k2]; exact a2 o k1 k2 k3, a3⟩, ⟨by rw [pUp_ne (by decide), pUp_ne (by decide)]; exact b1, by rw [pUp_ne (by decide), pUp_ne (by decide)]; exact b2, by omega, t2, pUp_self _ _ _ _, fun c hc => ?_, fun s' k1 k2 => textOk_ext (fun k q1 q2 => o188 k (by omega) (by omega)) (t5 s' k1 k2)⟩, by rw [pUp_ne (by decide), pUp_ne (by decide)]; exact d1, d2⟩
  by_cases e : c = n
  · subst e
    exact ⟨i0, w, D, by rw [o188 _ (by omega) (by omega)]; exact e4, by rw [pUp_other _ _ _ _ (fun z => by omega)]; exact pUp_self _ _ _ _, e2, Nat.le_refl _, code_keep e1 (fun k q1 q2 => o188 k (by omega) (by omega))⟩
  · obtain ⟨i, j, D', g1, g2, g3, g4, g5⟩ := t4 c (by omega)
    exact ⟨i, j, D', by rw [o188 _ (by omega) (by omega)]; exact g1, by rw [o188 _ (by omega) (by omega)]; exact g2, g3, g4, code_keep g5 (fun k q1 q2 => o188 k (by omega) (by omega))⟩
theorem c_goesBy {S : pScr} {d dN s n c w : Nat} {τ : fT} {M0 M : pMem} (hT : pT τ) (hH : PH τ S dN) (hg : gR M0) (hq : PB0 τ s n w 0 M0 M) (hn : n < 12) (hC : PC c M) : cOk S (d + dN + 6) 201 [.ref 185, .int (nI (800 * s + 1 + 4 * n))] (gSh, M) (fun r hp => hp.1 = gSh ∧ ((r = some (.int (nI 0)) ∧ ∃ c', PB0 τ s n w 0 M0 hp.2 ∧ PC c' hp.2 ∧ c ≤ c') ∨ (∃ z, r = some (.int z) ∧ z.toInt ≠ 0 ∧ PE τ s M0 hp.2))) := by
  refine c_of_ok (Nat.le_of_ble_eq_true rfl) ?_
  obtain ⟨tok, h12, -⟩ := ty_int (pty hT hq.1.1 8 rfl rfl)
  obtain ⟨nb, hnb, h13⟩ := ty_nat (pty hT hq.1.1 9 rfl rfl)
  have h5 := ty_ref (pty hT hq.1.1 1 rfl rfl)
  have hs := hq.1.2.2
  refine ok_seq 2 (σ' := (4, [(0, .ref 185), (1, .int (nI (800 * s + 1 + 4 * n)))], [M 185 12], gSh, M)) rfl ?_
  rw [h12]
  refine ok_seq 1 (σ' := (5, [(0, .ref 185), (1, .int (nI (800 * s + 1 + 4 * n)))], [.int (Int32.ofInt 1), .int tok], gSh, M)) rfl ?_
  rw [cI_1]
  refine ok_icmp 10 rfl rfl ?_ ?_
  · intro h1
    simp only [pCP] at h1
    rw [hI_int (a := 1) (by omega)] at h1
    have h1 : (tok).toInt = ((1 : Nat) : Int) := by omega
    have ht : tok.toInt ≠ 0 := by omega
    refine ok_seq 2 (σ' := (14, [(0, .ref 185), (1, .int (nI (800 * s + 1 + 4 * n)))], [M 185 13], gSh, M)) rfl ?_
    rw [h13]
    refine ok_seq 1 (σ' := (16, [(0, .ref 185), (1, .int (nI (800 * s + 1 + 4 * n)))], [.int ((Int8.ofInt 7).toInt32), .int (nI nb)], gSh, M)) rfl ?_
    rw [(show (Int8.ofInt 7).toInt32 = nI 7 by decide)]
    refine ok_icmp 21 rfl rfl ?_ ?_
    · intro h7
      simp only [pCP] at h7
      rw [hI_int (a := nb) (by omega), hI_int (a := 7) (by omega)] at h7
      have h7 : ((nb : Nat) : Int) ≤ ((7 : Nat) : Int) := by omega
      refine ok_seq 2 (σ' := (25, [(0, .ref 185), (1, .int (nI (800 * s + 1 + 4 * n)))], [M 185 5], gSh, M)) rfl ?_
      rw [h5]
      refine ok_seq 5 (σ' := (32, [(0, .ref 185), (1, .int (nI (800 * s + 1 + 4 * n)))], [M 185 13, .int ((nI (800 * s + 1 + 4 * n)) + (Int32.ofInt 1)), .ref 188], gSh, M)) rfl ?_
      rw [h13]
      rw [cI_1, hI_add (800 * s + 1 + 4 * n) 1]
      refine ok_iast (n := 3200) rfl rfl (hI_in (by omega) (by decide)) ?_
      rw [hI_nat (a := (800 * s + 1 + 4 * n) + 1) (by omega)]
      have hq1 : PB0 τ s n w 0 M0 (pUp M 188 ((800 * s + 1 + 4 * n) + 1) (.int (nI nb))) := hq.hdr hT (by omega)
      refine ok_seq 1 (σ' := (34, [(0, .ref 185), (1, .int (nI (800 * s + 1 + 4 * n)))], [.ref 185], gSh, pUp M 188 ((800 * s + 1 + 4 * n) + 1) (.int (nI nb)))) rfl ?_
      refine ok_call (mi := 180) (as := [.ref 185]) (pc' := 37) (L' := [(0, .ref 185), (1, .int (nI (800 * s + 1 + 4 * n)))]) (st' := []) (sh' := gSh) (M' := pUp M 188 ((800 * s + 1 + 4 * n) + 1) (.int (nI nb))) (i := .invokevirtual 189) (len := 3) rfl rfl ?_
      refine (((c_nextQ (d := 0) hT hq1.1.1 (hC.keep rfl rfl) h12 ht).deep (by omega))).mono ?_
      rintro v2 ⟨sh2, M3⟩ ⟨rfl, hsh, ⟨a3, hN3⟩, hC3⟩
      have hsh : sh2 = gSh := hsh
      subst hsh
      dsimp only at hN3 hC3
      have hq3 := hq1.next hN3
      obtain ⟨tok3, h123, -⟩ := ty_int (pty hT hq3.1.1 8 rfl rfl)
      obtain ⟨zw, hzw⟩ := c_w4 (S := S) (d := 0) (M := M3) (nI 119) (nI 104) (nI 101) (nI 110)
      obtain ⟨z, z1, z2, z3, z4⟩ := c_pure0 hH.2.2.1.1 hH.2.2.1.2 (vs := [.ref 185, .long zw]) ⟨r185, sat_l zw, trivial⟩ hq3.1.1 (hq3.gr hg) h123
      refine ok_seq 5 (σ' := (46, [(0, .ref 185), (1, .int (nI (800 * s + 1 + 4 * n)))], [.int ((Int8.ofInt 110).toInt32), .int ((Int8.ofInt 101).toInt32), .int ((Int8.ofInt 104).toInt32), .int ((Int8.ofInt 119).toInt32), .ref 185], gSh, M3)) rfl ?_
      rw [(show (Int8.ofInt 119).toInt32 = nI 119 by decide), (show (Int8.ofInt 104).toInt32 = nI 104 by decide), (show (Int8.ofInt 101).toInt32 = nI 101 by decide), (show (Int8.ofInt 110).toInt32 = nI 110 by decide)]
      refine ok_call (mi := 183) (as := [.int (nI 119), .int (nI 104), .int (nI 101), .int (nI 110)]) (pc' := 49) (L' := [(0, .ref 185), (1, .int (nI (800 * s + 1 + 4 * n)))]) (st' := [.ref 185]) (sh' := gSh) (M' := M3) (i := .invokestatic 174) (len := 3) rfl rfl ?_
      refine ((hzw.deep (by omega))).mono ?_
      rintro v hp ⟨rfl, rfl⟩
      refine ok_call (mi := 185) (as := [.ref 185, .long zw]) (pc' := 52) (L' := [(0, .ref 185), (1, .int (nI (800 * s + 1 + 4 * n)))]) (st' := []) (sh' := gSh) (M' := M3) (i := .invokevirtual 220) (len := 3) rfl rfl ?_
      refine ((z4.deep (by omega))).mono ?_
      rintro v hp ⟨rfl, rfl⟩
      refine ok_if 57 rfl rfl ?_ ?_
      · intro hz
        simp only [pCP] at hz
        have hz : (z).toInt ≠ (0 : Int) := by omega
        refine ok_seq 1 (σ' := (58, [(0, .ref 185), (1, .int (nI (800 * s + 1 + 4 * n)))], [.ref 185], gSh, M3)) rfl ?_
        refine ok_call (mi := 180) (as := [.ref 185]) (pc' := 61) (L' := [(0, .ref 185), (1, .int (nI (800 * s + 1 + 4 * n)))]) (st' := []) (sh' := gSh) (M' := M3) (i := .invokevirtual 189) (len := 3) rfl rfl ?_
        refine (((c_nextQ (d := 0) hT hq3.1.1 hC3 h123 (z3 (by omega))).deep (by omega))).mono ?_
        rintro v2 ⟨sh2, M4⟩ ⟨rfl, hsh, ⟨a4, hN4⟩, hC4⟩
        have hsh : sh2 = gSh := hsh
        subst hsh
        dsimp only at hN4 hC4
        refine ok_seq 1 (σ' := (62, [(0, .ref 185), (1, .int (nI (800 * s + 1 + 4 * n)))], [.int (Int32.ofInt 0)], gSh, M4)) rfl ?_
        rw [cI_0]
        exact ok_ret (i := .ireturn) (len := 1) rfl rfl ⟨some (.int (nI 0)), rfl, rfl, Or.inl ⟨rfl, c + 1 + 1, hq3.next hN4, hC4, by omega⟩⟩
      · intro hz
        simp only [pCP] at hz
        have hz : (z).toInt = (0 : Int) := by omega
        refine ok_seq 1 (σ' := (56, [(0, .ref 185), (1, .int (nI (800 * s + 1 + 4 * n)))], [.int (Int32.ofInt 1)], gSh, M3)) rfl ?_
        rw [cI_1]
        exact ok_ret (i := .ireturn) (len := 1) rfl rfl ⟨some (.int (nI 1)), rfl, rfl, Or.inr ⟨nI 1, rfl, by decide, hq3.pe⟩⟩
    · intro h7
      simp only [pCP] at h7
      rw [hI_int (a := nb) (by omega), hI_int (a := 7) (by omega)] at h7
      have h7 : ((nb : Nat) : Int) > ((7 : Nat) : Int) := by omega
      refine ok_seq 1 (σ' := (20, [(0, .ref 185), (1, .int (nI (800 * s + 1 + 4 * n)))], [.int (Int32.ofInt 2)], gSh, M)) rfl ?_
      rw [cI_2]
      exact ok_ret (i := .ireturn) (len := 1) rfl rfl ⟨some (.int (nI 2)), rfl, rfl, Or.inr ⟨nI 2, rfl, by decide, hq.pe⟩⟩
  · intro h1
    simp only [pCP] at h1
    rw [hI_int (a := 1) (by omega)] at h1
    have h1 : (tok).toInt ≠ ((1 : Nat) : Int) := by omega
    refine ok_seq 1 (σ' := (9, [(0, .ref 185), (1, .int (nI (800 * s + 1 + 4 * n)))], [.int (Int32.ofInt 1)], gSh, M)) rfl ?_
    rw [cI_1]
    exact ok_ret (i := .ireturn) (len := 1) rfl rfl ⟨some (.int (nI 1)), rfl, rfl, Or.inr ⟨nI 1, rfl, by decide, hq.pe⟩⟩
abbrev clK (S : pScr) (d : Nat) (Q : Option Value → pHp → Prop) (σ : pSt) : Prop := pOk S 12 false 5 (pCode 202) d (fun i len τ' => ∃ v, pRet (some .int) i len τ'.2.2.1 = some v ∧ Q v (τ'.2.2.2.1, τ'.2.2.2.2)) σ
theorem cl_end {S : pScr} {d dN s n i0 c c2 w : Nat} {D : Nat × Nat} {so f0 : Int32} {τ : fT} {M0 M : pMem} (hT : pT τ) (hq : PQ0 τ s n i0 D w 0 M0 M) (hC : PC c2 M) (hw : w ≤ c2) (hcc : c ≤ c2) : clK S (d + dN + 8) (fun r hp => hp.1 = gSh ∧ ((r = some (.int (nI 0)) ∧ ∃ n' w' c', PB0 τ s n' w' 0 M0 hp.2 ∧ PC c' hp.2 ∧ w' ≤ c' ∧ c + 1 ≤ c') ∨ (∃ z, r = some (.int z) ∧ z.toInt ≠ 0 ∧ PE τ s M0 hp.2))) (155, [(4, .int f0), (3, .int (nI (800 * s + 1 + 4 * n))), (2, .int (nI n)), (1, .int so), (0, .ref 185)], [], gSh, M) := by
  obtain ⟨tok, h12, -⟩ := ty_int (pty hT hq.1.1.1 8 rfl rfl)
  have h5 := ty_ref (pty hT hq.1.1.1 1 rfl rfl)
  have h15 := hq.1.2.1.1
  have h17 := hq.1.2.1.2.1
  have h0 := hq.1.2.1.2.2.2.2.1
  have hs := hq.1.1.2.2
  have hn := hq.2.2.2.1
  refine ok_seq 2 (σ' := (159, [(4, .int f0), (3, .int (nI (800 * s + 1 + 4 * n))), (2, .int (nI n)), (1, .int so), (0, .ref 185)], [M 185 5], gSh, M)) rfl ?_
  rw [h5]
  refine ok_seq 5 (σ' := (166, [(4, .int f0), (3, .int (nI (800 * s + 1 + 4 * n))), (2, .int (nI n)), (1, .int so), (0, .ref 185)], [M 185 17, .int ((nI (800 * s + 1 + 4 * n)) + (Int32.ofInt 3)), .ref 188], gSh, M)) rfl ?_
  rw [h17]
  rw [cI_3, hI_add (800 * s + 1 + 4 * n) 3]
  refine ok_iast (n := 3200) rfl rfl (hI_in (by omega) (by decide)) ?_
  rw [hI_nat (a := (800 * s + 1 + 4 * n) + 3) (by omega)]
  refine ok_seq 2 (σ' := (171, [(4, .int f0), (3, .int (nI (800 * s + 1 + 4 * n))), (2, .int (nI n)), (1, .int so), (0, .ref 185)], [M 185 5], gSh, pUp M 188 ((800 * s + 1 + 4 * n) + 3) (.int (nI w)))) rfl ?_
  rw [h5]
  refine ok_seq 2 (σ' := (175, [(4, .int f0), (3, .int (nI (800 * s + 1 + 4 * n))), (2, .int (nI n)), (1, .int so), (0, .ref 185)], [M 185 15, .ref 188], gSh, pUp M 188 ((800 * s + 1 + 4 * n) + 3) (.int (nI w)))) rfl ?_
  rw [h15]
  refine ok_seq 1 (σ' := (176, [(4, .int f0), (3, .int (nI (800 * s + 1 + 4 * n))), (2, .int (nI n)), (1, .int so), (0, .ref 185)], [.int (nI (800 * s)), .ref 188, .int (nI (800 * s)), .ref 188], gSh, pUp M 188 ((800 * s + 1 + 4 * n) + 3) (.int (nI w)))) rfl ?_
  refine ok_iald (n := 3200) (v := nI n) rfl rfl (hI_in (by omega) (by decide)) (by rw [hI_nat (by omega)]; exact (by rw [pUp_other _ _ _ _ (fun z => by omega)]; exact h0)) ?_
  refine ok_seq 2 (σ' := (179, [(4, .int f0), (3, .int (nI (800 * s + 1 + 4 * n))), (2, .int (nI n)), (1, .int so), (0, .ref 185)], [.int ((nI n) + (Int32.ofInt 1)), .int (nI (800 * s)), .ref 188], gSh, pUp M 188 ((800 * s + 1 + 4 * n) + 3) (.int (nI w)))) rfl ?_
  rw [cI_1, hI_add n 1]
  refine ok_iast (n := 3200) rfl rfl (hI_in (by omega) (by decide)) ?_
  rw [hI_nat (a := 800 * s) (by omega)]
  have hq2 : PB0 τ s (n + 1) w 0 M0 (pUp (pUp M 188 ((800 * s + 1 + 4 * n) + 3) (.int (nI w))) 188 (800 * s) (.int (nI (n + 1)))) := hq.close hT
  refine ok_seq 2 (σ' := (184, [(4, .int f0), (3, .int (nI (800 * s + 1 + 4 * n))), (2, .int (nI n)), (1, .int so), (0, .ref 185)], [M 185 12], gSh, pUp (pUp M 188 ((800 * s + 1 + 4 * n) + 3) (.int (nI w))) 188 (800 * s) (.int (nI (n + 1))))) rfl ?_
  rw [h12]
  refine ok_seq 1 (σ' := (186, [(4, .int f0), (3, .int (nI (800 * s + 1 + 4 * n))), (2, .int (nI n)), (1, .int so), (0, .ref 185)], [.int ((Int8.ofInt 59).toInt32), .int tok], gSh, pUp (pUp M 188 ((800 * s + 1 + 4 * n) + 3) (.int (nI w))) 188 (800 * s) (.int (nI (n + 1))))) rfl ?_
  rw [(show (Int8.ofInt 59).toInt32 = nI 59 by decide)]
  refine ok_icmp 191 rfl rfl ?_ ?_
  · intro h59
    simp only [pCP] at h59
    rw [hI_int (a := 59) (by omega)] at h59
    have h59 : (tok).toInt = ((59 : Nat) : Int) := by omega
    refine ok_seq 1 (σ' := (192, [(4, .int f0), (3, .int (nI (800 * s + 1 + 4 * n))), (2, .int (nI n)), (1, .int so), (0, .ref 185)], [.ref 185], gSh, pUp (pUp M 188 ((800 * s + 1 + 4 * n) + 3) (.int (nI w))) 188 (800 * s) (.int (nI (n + 1))))) rfl ?_
    refine ok_call (mi := 180) (as := [.ref 185]) (pc' := 195) (L' := [(4, .int f0), (3, .int (nI (800 * s + 1 + 4 * n))), (2, .int (nI n)), (1, .int so), (0, .ref 185)]) (st' := []) (sh' := gSh) (M' := pUp (pUp M 188 ((800 * s + 1 + 4 * n) + 3) (.int (nI w))) 188 (800 * s) (.int (nI (n + 1)))) (i := .invokevirtual 189) (len := 3) rfl rfl ?_
    refine (((c_nextQ (d := 0) hT hq2.1.1 (hC.keep rfl rfl) h12 (by omega)).deep (by omega))).mono ?_
    rintro v2 ⟨sh2, M4⟩ ⟨rfl, hsh, ⟨a4, hN4⟩, hC4⟩
    have hsh : sh2 = gSh := hsh
    subst hsh
    dsimp only at hN4 hC4
    refine ok_seq 1 (σ' := (196, [(4, .int f0), (3, .int (nI (800 * s + 1 + 4 * n))), (2, .int (nI n)), (1, .int so), (0, .ref 185)], [.int (Int32.ofInt 0)], gSh, M4)) rfl ?_
    rw [cI_0]
    exact ok_ret (i := .ireturn) (len := 1) rfl rfl ⟨some (.int (nI 0)), rfl, rfl, Or.inl ⟨rfl, n + 1, w, c2 + 1, hq2.next hN4, hC4, by omega, by omega⟩⟩
  · intro h59
    simp only [pCP] at h59
    rw [hI_int (a := 59) (by omega)] at h59
    have h59 : (tok).toInt ≠ ((59 : Nat) : Int) := by omega
    refine ok_seq 1 (σ' := (190, [(4, .int f0), (3, .int (nI (800 * s + 1 + 4 * n))), (2, .int (nI n)), (1, .int so), (0, .ref 185)], [.int (Int32.ofInt 1)], gSh, pUp (pUp M 188 ((800 * s + 1 + 4 * n) + 3) (.int (nI w))) 188 (800 * s) (.int (nI (n + 1))))) rfl ?_
    rw [cI_1]
    exact ok_ret (i := .ireturn) (len := 1) rfl rfl ⟨some (.int (nI 1)), rfl, rfl, Or.inr ⟨nI 1, rfl, by decide, hq2.pe⟩⟩
theorem cl_mid {S : pScr} {d dN s n c c2 w : Nat} {so f0 : Int32} {τ : fT} {M0 M : pMem} (hT : pT τ) (hH : PH τ S dN) (hg : gR M0) (hq : PB0 τ s n w 0 M0 M) (hn : n < 12) (hC : PC c2 M) (hw : w ≤ c2) (hcc : c ≤ c2) (hf0 : f0.toInt = 0) : clK S (d + dN + 8) (fun r hp => hp.1 = gSh ∧ ((r = some (.int (nI 0)) ∧ ∃ n' w' c', PB0 τ s n' w' 0 M0 hp.2 ∧ PC c' hp.2 ∧ w' ≤ c' ∧ c + 1 ≤ c') ∨ (∃ z, r = some (.int z) ∧ z.toInt ≠ 0 ∧ PE τ s M0 hp.2))) (109, [(4, .int f0), (3, .int (nI (800 * s + 1 + 4 * n))), (2, .int (nI n)), (1, .int so), (0, .ref 185)], [], gSh, M) := by
  have h5 := ty_ref (pty hT hq.1.1 1 rfl rfl)
  have h17 := hq.2.1.2.1
  have hs := hq.1.2.2
  refine ok_seq 1 (σ' := (111, [(4, .int f0), (3, .int (nI (800 * s + 1 + 4 * n))), (2, .int (nI n)), (1, .int so), (0, .ref 185)], [.int f0], gSh, M)) rfl ?_
  refine ok_if 117 rfl rfl (fun _ => ?_) (fun hz => absurd (by simp only [pCP]; omega) hz)
  refine ok_seq 2 (σ' := (121, [(4, .int f0), (3, .int (nI (800 * s + 1 + 4 * n))), (2, .int (nI n)), (1, .int so), (0, .ref 185)], [M 185 5], gSh, M)) rfl ?_
  rw [h5]
  refine ok_seq 5 (σ' := (128, [(4, .int f0), (3, .int (nI (800 * s + 1 + 4 * n))), (2, .int (nI n)), (1, .int so), (0, .ref 185)], [M 185 17, .int ((nI (800 * s + 1 + 4 * n)) + (Int32.ofInt 2)), .ref 188], gSh, M)) rfl ?_
  rw [h17]
  rw [cI_2, hI_add (800 * s + 1 + 4 * n) 2]
  refine ok_iast (n := 3200) rfl rfl (hI_in (by omega) (by decide)) ?_
  rw [hI_nat (a := (800 * s + 1 + 4 * n) + 2) (by omega)]
  have hq2 : PQ0 τ s n w (0, 0) w 0 M0 (pUp M 188 ((800 * s + 1 + 4 * n) + 2) (.int (nI w))) := hq.beg hT hn
  have hC2 : PC c2 (pUp M 188 ((800 * s + 1 + 4 * n) + 2) (.int (nI w))) := hC.keep rfl rfl
  refine ok_seq 2 (σ' := (131, [(4, .int f0), (3, .int (nI (800 * s + 1 + 4 * n))), (2, .int (nI n)), (1, .int so), (0, .ref 185)], [.int (Int32.ofInt 5), .int so], gSh, pUp M 188 ((800 * s + 1 + 4 * n) + 2) (.int (nI w)))) rfl ?_
  rw [cI_5]
  refine ok_icmp 141 rfl rfl ?_ ?_
  · intro h5s
    simp only [pCP] at h5s
    rw [hI_int (a := 5) (by omega)] at h5s
    have h5s : (so).toInt < ((5 : Nat) : Int) := by omega
    refine ok_seq 1 (σ' := (142, [(4, .int f0), (3, .int (nI (800 * s + 1 + 4 * n))), (2, .int (nI n)), (1, .int so), (0, .ref 185)], [.ref 185], gSh, pUp M 188 ((800 * s + 1 + 4 * n) + 2) (.int (nI w)))) rfl ?_
    refine ok_call (mi := 199) (as := [.ref 185]) (pc' := 145) (L' := [(4, .int f0), (3, .int (nI (800 * s + 1 + 4 * n))), (2, .int (nI n)), (1, .int so), (0, .ref 185)]) (st' := []) (sh' := gSh) (M' := pUp M 188 ((800 * s + 1 + 4 * n) + 2) (.int (nI w))) (i := .invokevirtual 246) (len := 3) rfl rfl ?_
    refine ((c_either (d := d) hT hH hg hq2 hC2 hw)).mono ?_
    rintro v ⟨sh2, M4⟩ ⟨hsh, hor⟩
    have hsh : sh2 = gSh := hsh
    subst hsh
    dsimp only at hor
    rcases hor with ⟨rfl, w4, c4, D4, hq4, hC4, hw4, hc4⟩ | ⟨z, rfl, hz, hE⟩
    · refine ok_seq 2 (σ' := (149, [(4, .int (nI 0)), (3, .int (nI (800 * s + 1 + 4 * n))), (2, .int (nI n)), (1, .int so), (0, .ref 185)], [.int (nI 0)], gSh, M4)) rfl ?_
      refine ok_if 155 rfl rfl (fun _ => ?_) (fun hz => absurd (by simp only [pCP]; rw [hI_int (a := 0) (by omega)]; omega) hz)
      exact cl_end (d := d) hT hq4 hC4 (by omega) (by omega)
    · refine ok_seq 2 (σ' := (149, [(4, .int z), (3, .int (nI (800 * s + 1 + 4 * n))), (2, .int (nI n)), (1, .int so), (0, .ref 185)], [.int z], gSh, M4)) rfl ?_
      refine ok_if 155 rfl rfl (fun hz => absurd hz (by simp only [pCP]; omega)) (fun _ => ?_)
      refine ok_seq 1 (σ' := (154, [(4, .int z), (3, .int (nI (800 * s + 1 + 4 * n))), (2, .int (nI n)), (1, .int so), (0, .ref 185)], [.int z], gSh, M4)) rfl ?_
      exact ok_ret (i := .ireturn) (len := 1) rfl rfl ⟨some (.int z), rfl, rfl, Or.inr ⟨z, rfl, hz, hE⟩⟩
  · intro h5s
    simp only [pCP] at h5s
    rw [hI_int (a := 5) (by omega)] at h5s
    have h5s : (so).toInt ≥ ((5 : Nat) : Int) := by omega
    refine ok_seq 1 (σ' := (135, [(4, .int f0), (3, .int (nI (800 * s + 1 + 4 * n))), (2, .int (nI n)), (1, .int so), (0, .ref 185)], [.ref 185], gSh, pUp M 188 ((800 * s + 1 + 4 * n) + 2) (.int (nI w)))) rfl ?_
    refine ok_call (mi := 196) (as := [.ref 185]) (pc' := 138) (L' := [(4, .int f0), (3, .int (nI (800 * s + 1 + 4 * n))), (2, .int (nI n)), (1, .int so), (0, .ref 185)]) (st' := []) (sh' := gSh) (M' := pUp M 188 ((800 * s + 1 + 4 * n) + 2) (.int (nI w))) (i := .invokevirtual 224) (len := 3) rfl rfl ?_
    refine (((c_sum0 (d := d) (v0 := 0) (pd := 0) hT hH hg hq2 hC2 (Nat.zero_le _) hw).deep (by omega))).mono ?_
    rintro v ⟨sh2, M4⟩ ⟨hsh, hor⟩
    have hsh : sh2 = gSh := hsh
    subst hsh
    dsimp only at hor
    rcases hor with ⟨rfl, w4, c4, D4, hq4, hC4, hv4, hD4, hw4, hc4⟩ | ⟨z, rfl, hz, hE⟩
    · refine ok_seq 3 (σ' := (149, [(4, .int (nI 0)), (3, .int (nI (800 * s + 1 + 4 * n))), (2, .int (nI n)), (1, .int so), (0, .ref 185)], [.int (nI 0)], gSh, M4)) rfl ?_
      refine ok_if 155 rfl rfl (fun _ => ?_) (fun hz => absurd (by simp only [pCP]; rw [hI_int (a := 0) (by omega)]; omega) hz)
      exact cl_end (d := d) hT hq4 hC4 (by omega) (by omega)
    · refine ok_seq 3 (σ' := (149, [(4, .int z), (3, .int (nI (800 * s + 1 + 4 * n))), (2, .int (nI n)), (1, .int so), (0, .ref 185)], [.int z], gSh, M4)) rfl ?_
      refine ok_if 155 rfl rfl (fun hz => absurd hz (by simp only [pCP]; omega)) (fun _ => ?_)
      refine ok_seq 1 (σ' := (154, [(4, .int z), (3, .int (nI (800 * s + 1 + 4 * n))), (2, .int (nI n)), (1, .int so), (0, .ref 185)], [.int z], gSh, M4)) rfl ?_
      exact ok_ret (i := .ireturn) (len := 1) rfl rfl ⟨some (.int z), rfl, rfl, Or.inr ⟨z, rfl, hz, hE⟩⟩
theorem cl_hdr {S : pScr} {d dN s n c w : Nat} {so tok : Int32} {τ : fT} {M0 M : pMem} (hT : pT τ) (hH : PH τ S dN) (hg : gR M0) (hq : PB0 τ s n w 0 M0 M) (hn : n < 12) (hC : PC c M) (hw : w ≤ c) (h12 : M 185 12 = .int tok) (ht : tok.toInt ≠ 0) : clK S (d + dN + 8) (fun r hp => hp.1 = gSh ∧ ((r = some (.int (nI 0)) ∧ ∃ n' w' c', PB0 τ s n' w' 0 M0 hp.2 ∧ PC c' hp.2 ∧ w' ≤ c' ∧ c + 1 ≤ c') ∨ (∃ z, r = some (.int z) ∧ z.toInt ≠ 0 ∧ PE τ s M0 hp.2))) (66, [(2, .int (nI n)), (1, .int so), (0, .ref 185)], [], gSh, M) := by
  have h5 := ty_ref (pty hT hq.1.1 1 rfl rfl)
  have h15 := hq.2.1.1
  have hs := hq.1.2.2
  refine ok_seq 2 (σ' := (68, [(2, .int (nI n)), (1, .int so), (0, .ref 185)], [.int so, .ref 185], gSh, M)) rfl ?_
  refine ok_put (q := 186) (ci := 12) (k := 23) (n := 47) (ty := .int) rfl rfl rfl rfl rfl rfl (fi_int _) ?_
  have hq1 : PB0 τ s n w 0 M0 (pUp M 185 23 (.int so)) := hq.fields (ptu hT hq.1.1 16 rfl (sat_a _)) (fun o ho => pUp_ne ho) rfl rfl hq.2.2.1 hq.2.2.2
  refine ok_seq 1 (σ' := (72, [(2, .int (nI n)), (1, .int so), (0, .ref 185)], [.ref 185], gSh, pUp M 185 23 (.int so))) rfl ?_
  refine ok_call (mi := 180) (as := [.ref 185]) (pc' := 75) (L' := [(2, .int (nI n)), (1, .int so), (0, .ref 185)]) (st' := []) (sh' := gSh) (M' := pUp M 185 23 (.int so)) (i := .invokevirtual 189) (len := 3) rfl rfl ?_
  refine (((c_nextQ (d := 0) hT hq1.1.1 (hC.keep rfl rfl) h12 ht).deep (by omega))).mono ?_
  rintro v2 ⟨sh2, M3⟩ ⟨rfl, hsh, ⟨a3, hN3⟩, hC3⟩
  have hsh : sh2 = gSh := hsh
  subst hsh
  dsimp only at hN3 hC3
  have hq3 := hq1.next hN3
  have h153 := hq3.2.1.1
  have h53 := ty_ref (pty hT hq3.1.1 1 rfl rfl)
  refine ok_seq 2 (σ' := (79, [(2, .int (nI n)), (1, .int so), (0, .ref 185)], [M3 185 15], gSh, M3)) rfl ?_
  rw [h153]
  refine ok_seq 9 (σ' := (90, [(3, .int (((nI (800 * s)) + (Int32.ofInt 1)) + ((Int32.ofInt 4) * (nI n)))), (2, .int (nI n)), (1, .int so), (0, .ref 185)], [M3 185 5], gSh, M3)) rfl ?_
  rw [h53]
  rw [cI_1, hI_add (800 * s) 1, cI_4, hI_mul 4 n, hI_add ((800 * s) + 1) (4 * n)]
  refine ok_seq 2 (σ' := (92, [(3, .int (nI (((800 * s) + 1) + (4 * n)))), (2, .int (nI n)), (1, .int so), (0, .ref 185)], [.int so, .int (nI (((800 * s) + 1) + (4 * n))), .ref 188], gSh, M3)) rfl ?_
  refine ok_iast (n := 3200) rfl rfl (hI_in (by omega) (by decide)) ?_
  rw [hI_nat (a := ((800 * s) + 1) + (4 * n)) (by omega)]
  have hq4 : PB0 τ s n w 0 M0 (pUp M3 188 (((800 * s) + 1) + (4 * n)) (.int so)) := hq3.hdr hT (by omega)
  have hC4 : PC (c + 1) (pUp M3 188 (((800 * s) + 1) + (4 * n)) (.int so)) := hC3.keep rfl rfl
  refine ok_seq 2 (σ' := (95, [(3, .int (nI (((800 * s) + 1) + (4 * n)))), (2, .int (nI n)), (1, .int so), (0, .ref 185)], [.int (Int32.ofInt 4), .int so], gSh, pUp M3 188 (((800 * s) + 1) + (4 * n)) (.int so))) rfl ?_
  rw [cI_4]
  refine ok_icmp 106 rfl rfl ?_ ?_
  · intro hgo
    simp only [pCP] at hgo
    rw [hI_int (a := 4) (by omega)] at hgo
    have hgo : (so).toInt ≠ ((4 : Nat) : Int) := by omega
    refine ok_seq 2 (σ' := (109, [(4, .int (Int32.ofInt 0)), (3, .int (nI (((800 * s) + 1) + (4 * n)))), (2, .int (nI n)), (1, .int so), (0, .ref 185)], [], gSh, pUp M3 188 (((800 * s) + 1) + (4 * n)) (.int so))) rfl ?_
    rw [cI_0]
    exact cl_mid (d := d) hT hH hg hq4 hn hC4 (by omega) (by omega) (by decide)
  · intro hgo
    simp only [pCP] at hgo
    rw [hI_int (a := 4) (by omega)] at hgo
    have hgo : (so).toInt = ((4 : Nat) : Int) := by omega
    refine ok_seq 2 (σ' := (100, [(3, .int (nI (((800 * s) + 1) + (4 * n)))), (2, .int (nI n)), (1, .int so), (0, .ref 185)], [.int (nI (((800 * s) + 1) + (4 * n))), .ref 185], gSh, pUp M3 188 (((800 * s) + 1) + (4 * n)) (.int so))) rfl ?_
    refine ok_call (mi := 201) (as := [.ref 185, .int (nI (((800 * s) + 1) + (4 * n)))]) (pc' := 103) (L' := [(3, .int (nI (((800 * s) + 1) + (4 * n)))), (2, .int (nI n)), (1, .int so), (0, .ref 185)]) (st' := []) (sh' := gSh) (M' := pUp M3 188 (((800 * s) + 1) + (4 * n)) (.int so)) (i := .invokevirtual 243) (len := 3) rfl rfl ?_
    refine (((c_goesBy (d := d) hT hH hg hq4 hn hC4).deep (by omega))).mono ?_
    rintro v ⟨sh2, M5⟩ ⟨hsh, hor⟩
    have hsh : sh2 = gSh := hsh
    subst hsh
    dsimp only at hor
    rcases hor with ⟨rfl, c5, hq5, hC5, hc5⟩ | ⟨z, rfl, hz, hE⟩
    · refine ok_seq 2 (σ' := (109, [(4, .int (nI 0)), (3, .int (nI (((800 * s) + 1) + (4 * n)))), (2, .int (nI n)), (1, .int so), (0, .ref 185)], [], gSh, M5)) rfl ?_
      exact cl_mid (d := d) hT hH hg hq5 hn hC5 (by omega) (by omega) (by decide)
    · refine ok_seq 3 (σ' := (111, [(4, .int z), (3, .int (nI (((800 * s) + 1) + (4 * n)))), (2, .int (nI n)), (1, .int so), (0, .ref 185)], [.int z], gSh, M5)) rfl ?_
      refine ok_if 117 rfl rfl (fun hz => absurd hz (by simp only [pCP]; omega)) (fun _ => ?_)
      refine ok_seq 1 (σ' := (116, [(4, .int z), (3, .int (nI (((800 * s) + 1) + (4 * n)))), (2, .int (nI n)), (1, .int so), (0, .ref 185)], [.int z], gSh, M5)) rfl ?_
      exact ok_ret (i := .ireturn) (len := 1) rfl rfl ⟨some (.int z), rfl, rfl, Or.inr ⟨z, rfl, hz, hE⟩⟩
theorem cl_n {S : pScr} {d dN s n c w : Nat} {so tok : Int32} {τ : fT} {M0 M : pMem} (hT : pT τ) (hH : PH τ S dN) (hg : gR M0) (hq : PB0 τ s n w 0 M0 M) (hC : PC c M) (hw : w ≤ c) (h12 : M 185 12 = .int tok) (ht : tok.toInt ≠ 0) : clK S (d + dN + 8) (fun r hp => hp.1 = gSh ∧ ((r = some (.int (nI 0)) ∧ ∃ n' w' c', PB0 τ s n' w' 0 M0 hp.2 ∧ PC c' hp.2 ∧ w' ≤ c' ∧ c + 1 ≤ c') ∨ (∃ z, r = some (.int z) ∧ z.toInt ≠ 0 ∧ PE τ s M0 hp.2))) (30, [(1, .int so), (0, .ref 185)], [], gSh, M) := by
  have h5 := ty_ref (pty hT hq.1.1 1 rfl rfl)
  have h15 := hq.2.1.1
  have hs := hq.1.2.2
  have h0 := hq.2.1.2.2.2.2.1
  have hn := hq.2.1.2.2.1
  obtain ⟨on, h24, -⟩ := ty_int (pty hT hq.1.1 17 rfl rfl)
  refine ok_seq 2 (σ' := (34, [(1, .int so), (0, .ref 185)], [M 185 5], gSh, M)) rfl ?_
  rw [h5]
  refine ok_seq 2 (σ' := (38, [(1, .int so), (0, .ref 185)], [M 185 15, .ref 188], gSh, M)) rfl ?_
  rw [h15]
  refine ok_iald (n := 3200) (v := nI n) rfl rfl (hI_in (by omega) (by decide)) (by rw [hI_nat (by omega)]; exact h0) ?_
  refine ok_seq 3 (σ' := (43, [(2, .int (nI n)), (1, .int so), (0, .ref 185)], [.int ((Int8.ofInt 12).toInt32), .int (nI n)], gSh, M)) rfl ?_
  rw [(show (Int8.ofInt 12).toInt32 = nI 12 by decide)]
  refine ok_icmp 49 rfl rfl ?_ ?_
  · intro h12n
    simp only [pCP] at h12n
    rw [hI_int (a := n) (by omega), hI_int (a := 12) (by omega)] at h12n
    have h12n : ((n : Nat) : Int) ≠ ((12 : Nat) : Int) := by omega
    refine ok_seq 2 (σ' := (51, [(2, .int (nI n)), (1, .int so), (0, .ref 185)], [.int (Int32.ofInt 5), .int so], gSh, M)) rfl ?_
    rw [cI_5]
    refine ok_icmp 66 rfl rfl ?_ ?_
    · intro h5s
      simp only [pCP] at h5s
      rw [hI_int (a := 5) (by omega)] at h5s
      have h5s : (so).toInt < ((5 : Nat) : Int) := by omega
      exact cl_hdr (d := d) hT hH hg hq (by omega) hC hw h12 ht
    · intro h5s
      simp only [pCP] at h5s
      rw [hI_int (a := 5) (by omega)] at h5s
      have h5s : (so).toInt ≥ ((5 : Nat) : Int) := by omega
      refine ok_seq 3 (σ' := (59, [(2, .int (nI n)), (1, .int so), (0, .ref 185)], [M 185 24, .ref 185], gSh, M)) rfl ?_
      rw [h24]
      refine ok_seq 4 (σ' := (63, [(2, .int (nI n)), (1, .int so), (0, .ref 185)], [.int (on ||| ((Int32.ofInt 1) <<< (so &&& 31))), .ref 185], gSh, M)) rfl ?_
      rw [cI_1]
      refine ok_put (q := 240) (ci := 12) (k := 24) (n := 47) (ty := .int) rfl rfl rfl rfl rfl rfl (fi_int _) ?_
      exact cl_hdr (d := d) hT hH hg (hq.fields (ptu hT hq.1.1 17 rfl (sat_a _)) (fun o ho => pUp_ne ho) rfl rfl hq.2.2.1 hq.2.2.2) (by omega) (hC.keep rfl rfl) hw h12 ht
  · intro h12n
    simp only [pCP] at h12n
    rw [hI_int (a := n) (by omega), hI_int (a := 12) (by omega)] at h12n
    have h12n : ((n : Nat) : Int) = ((12 : Nat) : Int) := by omega
    refine ok_seq 1 (σ' := (48, [(2, .int (nI n)), (1, .int so), (0, .ref 185)], [.int ((Int8.ofInt 6).toInt32)], gSh, M)) rfl ?_
    rw [(show (Int8.ofInt 6).toInt32 = nI 6 by decide)]
    exact ok_ret (i := .ireturn) (len := 1) rfl rfl ⟨some (.int (nI 6)), rfl, rfl, Or.inr ⟨nI 6, rfl, by decide, hq.pe⟩⟩
theorem c_clause {S : pScr} {d dN s n c w : Nat} {τ : fT} {M0 M : pMem} (hT : pT τ) (hH : PH τ S dN) (hg : gR M0) (hq : PB0 τ s n w 0 M0 M) (hC : PC c M) (hw : w ≤ c) : cOk S (d + dN + 9) 202 [.ref 185] (gSh, M) (fun r hp => hp.1 = gSh ∧ ((r = some (.int (nI 0)) ∧ ∃ n' w' c', PB0 τ s n' w' 0 M0 hp.2 ∧ PC c' hp.2 ∧ w' ≤ c' ∧ c + 1 ≤ c') ∨ (∃ z, r = some (.int z) ∧ z.toInt ≠ 0 ∧ PE τ s M0 hp.2))) := by
  refine c_of_ok (Nat.le_of_ble_eq_true rfl) ?_
  obtain ⟨tok, h12, -⟩ := ty_int (pty hT hq.1.1 8 rfl rfl)
  obtain ⟨on, h24, -⟩ := ty_int (pty hT hq.1.1 17 rfl rfl)
  obtain ⟨so, z1, z2, z3, z4⟩ := c_pure0 hH.2.2.2.1 hH.2.2.2.2 (vs := [.ref 185]) ⟨r185, trivial⟩ hq.1.1 (hq.gr hg) h12
  refine ok_seq 1 (σ' := (1, [(0, .ref 185)], [.ref 185], gSh, M)) rfl ?_
  refine ok_call (mi := 200) (as := [.ref 185]) (pc' := 4) (L' := [(0, .ref 185)]) (st' := []) (sh' := gSh) (M' := M) (i := .invokevirtual 237) (len := 3) rfl rfl ?_
  refine ((z4.deep (by omega))).mono ?_
  rintro v hp ⟨rfl, rfl⟩
  refine ok_seq 2 (σ' := (6, [(1, .int so), (0, .ref 185)], [.int so], gSh, M)) rfl ?_
  refine ok_if 11 rfl rfl ?_ ?_
  · intro hs0
    simp only [pCP] at hs0
    have hs0 : (so).toInt ≠ (0 : Int) := by omega
    have ht := z3 (by omega)
    refine ok_seq 2 (σ' := (13, [(1, .int so), (0, .ref 185)], [.int (Int32.ofInt 5), .int so], gSh, M)) rfl ?_
    rw [cI_5]
    refine ok_icmp 30 rfl rfl ?_ ?_
    · intro h5s
      simp only [pCP] at h5s
      rw [hI_int (a := 5) (by omega)] at h5s
      have h5s : (so).toInt < ((5 : Nat) : Int) := by omega
      exact cl_n (d := d) hT hH hg hq hC hw h12 ht
    · intro h5s
      simp only [pCP] at h5s
      rw [hI_int (a := 5) (by omega)] at h5s
      have h5s : (so).toInt ≥ ((5 : Nat) : Int) := by omega
      refine ok_seq 2 (σ' := (20, [(1, .int so), (0, .ref 185)], [M 185 24], gSh, M)) rfl ?_
      rw [h24]
      refine ok_seq 5 (σ' := (25, [(1, .int so), (0, .ref 185)], [.int (Int32.ofInt 1), .int ((on >>> (so &&& 31)) &&& (Int32.ofInt 1))], gSh, M)) rfl ?_
      rw [cI_1]
      refine ok_icmp 30 rfl rfl (fun _ => cl_n (d := d) hT hH hg hq hC hw h12 ht) (fun _ => ?_)
      refine ok_seq 1 (σ' := (29, [(1, .int so), (0, .ref 185)], [.int (Int32.ofInt 4)], gSh, M)) rfl ?_
      rw [cI_4]
      exact ok_ret (i := .ireturn) (len := 1) rfl rfl ⟨some (.int (nI 4)), rfl, rfl, Or.inr ⟨nI 4, rfl, by decide, hq.pe⟩⟩
  · intro hs0
    simp only [pCP] at hs0
    have hs0 : (so).toInt = (0 : Int) := by omega
    refine ok_seq 1 (σ' := (10, [(1, .int so), (0, .ref 185)], [.int (Int32.ofInt 1)], gSh, M)) rfl ?_
    rw [cI_1]
    exact ok_ret (i := .ireturn) (len := 1) rfl rfl ⟨some (.int (nI 1)), rfl, rfl, Or.inr ⟨nI 1, rfl, by decide, hq.pe⟩⟩
abbrev rtK (S : pScr) (d : Nat) (Q : Option Value → pHp → Prop) (σ : pSt) : Prop := pOk S 12 false 2 (pCode 203) d (fun i len τ' => ∃ v, pRet (some .int) i len τ'.2.2.1 = some v ∧ Q v (τ'.2.2.2.1, τ'.2.2.2.2)) σ
theorem rt_loop {S : pScr} {d dN s : Nat} {τ : fT} {M0 : pMem} (hT : pT τ) (hH : PH τ S dN) (hg : gR M0) : ∀ (r n c w : Nat) (M : pMem) (L1 : List (Nat × Value)), 300 - c = r → PB0 τ s n w 0 M0 M → PC c M → w ≤ c → (L1 = [] ∨ ∃ y : Int32, L1 = [(1, .int y)]) → rtK S (d + dN + 9) (fun r hp => hp.1 = gSh ∧ (∃ z, r = some (.int z)) ∧ PE τ s M0 hp.2) (48, L1 ++ [(0, .ref 185)], [], gSh, M) := by
  intro r
  induction r using Nat.strongRecOn with
  | _ r ih =>
  intro n c w M L1 hr hq hC hw hL
  obtain ⟨tok, h12, -⟩ := ty_int (pty hT hq.1.1 8 rfl rfl)
  rcases hL with rfl | ⟨y0, rfl⟩
  · refine ok_seq 2 (σ' := (52, [(0, .ref 185)], [M 185 12], gSh, M)) rfl ?_
    rw [h12]
    refine ok_if 69 rfl rfl ?_ ?_
    · intro h0
      simp only [pCP] at h0
      have h0 : (tok).toInt = (0 : Int) := by omega
      refine ok_seq 1 (σ' := (70, [(0, .ref 185)], [.int (Int32.ofInt 0)], gSh, M)) rfl ?_
      rw [cI_0]
      exact ok_ret (i := .ireturn) (len := 1) rfl rfl ⟨some (.int (nI 0)), rfl, rfl, ⟨_, rfl⟩, hq.pe⟩
    · intro h0
      simp only [pCP] at h0
      have h0 : (tok).toInt ≠ (0 : Int) := by omega
      have hlt := hC.le h12 (by omega)
      refine ok_seq 1 (σ' := (56, [(0, .ref 185)], [.ref 185], gSh, M)) rfl ?_
      refine ok_call (mi := 202) (as := [.ref 185]) (pc' := 59) (L' := [(0, .ref 185)]) (st' := []) (sh' := gSh) (M' := M) (i := .invokevirtual 249) (len := 3) rfl rfl ?_
      refine ((c_clause (d := d) hT hH hg hq hC hw)).mono ?_
      rintro v ⟨sh2, M2⟩ ⟨hsh, hor⟩
      have hsh : sh2 = gSh := hsh
      subst hsh
      dsimp only at hor
      rcases hor with ⟨rfl, n2, w2, c2, hq2, hC2, hw2, hc2⟩ | ⟨z, rfl, hz, hE⟩
      · refine ok_seq 2 (σ' := (61, [(1, .int (nI 0)), (0, .ref 185)], [.int (nI 0)], gSh, M2)) rfl ?_
        refine ok_if 66 rfl rfl (fun _ => ?_) (fun hz => absurd (by simp only [pCP]; rw [hI_int (a := 0) (by omega)]; omega) hz)
        refine ok_seq 1 (σ' := (48, [(1, .int (nI 0)), (0, .ref 185)], [], gSh, M2)) rfl ?_
        exact ih (300 - c2) (by have : c2 ≤ 300 := (by obtain ⟨a9, t9, -, -, k3, k4, -⟩ := hC2; omega); omega) n2 c2 w2 M2 [(1, .int (nI 0))] rfl hq2 hC2 hw2 (Or.inr ⟨_, rfl⟩)
      · refine ok_seq 2 (σ' := (61, [(1, .int z), (0, .ref 185)], [.int z], gSh, M2)) rfl ?_
        refine ok_if 66 rfl rfl (fun hz => absurd hz (by simp only [pCP]; omega)) (fun _ => ?_)
        refine ok_seq 1 (σ' := (65, [(1, .int z), (0, .ref 185)], [.int z], gSh, M2)) rfl ?_
        exact ok_ret (i := .ireturn) (len := 1) rfl rfl ⟨some (.int z), rfl, rfl, ⟨_, rfl⟩, hE⟩
  · refine ok_seq 2 (σ' := (52, [(1, .int y0), (0, .ref 185)], [M 185 12], gSh, M)) rfl ?_
    rw [h12]
    refine ok_if 69 rfl rfl ?_ ?_
    · intro h0
      simp only [pCP] at h0
      have h0 : (tok).toInt = (0 : Int) := by omega
      refine ok_seq 1 (σ' := (70, [(1, .int y0), (0, .ref 185)], [.int (Int32.ofInt 0)], gSh, M)) rfl ?_
      rw [cI_0]
      exact ok_ret (i := .ireturn) (len := 1) rfl rfl ⟨some (.int (nI 0)), rfl, rfl, ⟨_, rfl⟩, hq.pe⟩
    · intro h0
      simp only [pCP] at h0
      have h0 : (tok).toInt ≠ (0 : Int) := by omega
      have hlt := hC.le h12 (by omega)
      refine ok_seq 1 (σ' := (56, [(1, .int y0), (0, .ref 185)], [.ref 185], gSh, M)) rfl ?_
      refine ok_call (mi := 202) (as := [.ref 185]) (pc' := 59) (L' := [(1, .int y0), (0, .ref 185)]) (st' := []) (sh' := gSh) (M' := M) (i := .invokevirtual 249) (len := 3) rfl rfl ?_
      refine ((c_clause (d := d) hT hH hg hq hC hw)).mono ?_
      rintro v ⟨sh2, M2⟩ ⟨hsh, hor⟩
      have hsh : sh2 = gSh := hsh
      subst hsh
      dsimp only at hor
      rcases hor with ⟨rfl, n2, w2, c2, hq2, hC2, hw2, hc2⟩ | ⟨z, rfl, hz, hE⟩
      · refine ok_seq 2 (σ' := (61, [(1, .int (nI 0)), (0, .ref 185)], [.int (nI 0)], gSh, M2)) rfl ?_
        refine ok_if 66 rfl rfl (fun _ => ?_) (fun hz => absurd (by simp only [pCP]; rw [hI_int (a := 0) (by omega)]; omega) hz)
        refine ok_seq 1 (σ' := (48, [(1, .int (nI 0)), (0, .ref 185)], [], gSh, M2)) rfl ?_
        exact ih (300 - c2) (by have : c2 ≤ 300 := (by obtain ⟨a9, t9, -, -, k3, k4, -⟩ := hC2; omega); omega) n2 c2 w2 M2 [(1, .int (nI 0))] rfl hq2 hC2 hw2 (Or.inr ⟨_, rfl⟩)
      · refine ok_seq 2 (σ' := (61, [(1, .int z), (0, .ref 185)], [.int z], gSh, M2)) rfl ?_
        refine ok_if 66 rfl rfl (fun hz => absurd hz (by simp only [pCP]; omega)) (fun _ => ?_)
        refine ok_seq 1 (σ' := (65, [(1, .int z), (0, .ref 185)], [.int z], gSh, M2)) rfl ?_
        exact ok_ret (i := .ireturn) (len := 1) rfl rfl ⟨some (.int z), rfl, rfl, ⟨_, rfl⟩, hE⟩
theorem c_readText {S : pScr} {d dN s : Nat} {τ : fT} {M0 : pMem} (hT : pT τ) (hH : PH τ S dN) (hg : gR M0) (hM : tyM (tOf τ) M0) (hs : s < 4) (h2 : M0 186 2 = .int (nI s)) : cOk S (d + dN + 10) 203 [.ref 185] (gSh, M0) (fun r hp => hp.1 = gSh ∧ (∃ z, r = some (.int z)) ∧ PE τ s M0 hp.2) := by
  refine c_of_ok (Nat.le_of_ble_eq_true rfl) ?_
  have h3 := ty_ref (pty hT hM 0 rfl rfl)
  have h5 := ty_ref (pty hT hM 1 rfl rfl)
  refine ok_seq 4 (σ' := (8, [(0, .ref 185)], [M0 185 3, .int ((Int16.ofInt 800).toInt32), .ref 185], gSh, M0)) rfl ?_
  rw [h3]
  rw [(show (Int16.ofInt 800).toInt32 = nI 800 by decide)]
  refine ok_seq 1 (σ' := (9, [(0, .ref 185)], [.int (Int32.ofInt 2), .ref 186, .int (nI 800), .ref 185], gSh, M0)) rfl ?_
  rw [cI_2]
  refine ok_iald (n := 280) (v := nI s) rfl rfl (hI_in (by omega) (by decide)) (by rw [hI_nat (by omega)]; exact h2) ?_
  refine ok_seq 1 (σ' := (11, [(0, .ref 185)], [.int ((nI 800) * (nI s)), .ref 185], gSh, M0)) rfl ?_
  rw [hI_mul 800 s]
  refine ok_put (q := 154) (ci := 12) (k := 15) (n := 47) (ty := .int) rfl rfl rfl rfl rfl rfl (fi_int _) ?_
  refine ok_seq 2 (σ' := (18, [(0, .ref 185)], [M0 185 5], gSh, pUp M0 185 15 (.int (nI (800 * s))))) rfl ?_
  rw [h5]
  refine ok_seq 3 (σ' := (23, [(0, .ref 185)], [.int (Int32.ofInt 0), .int (nI (800 * s)), .ref 188], gSh, pUp M0 185 15 (.int (nI (800 * s))))) rfl ?_
  rw [cI_0]
  refine ok_iast (n := 3200) rfl rfl (hI_in (by omega) (by decide)) ?_
  rw [hI_nat (a := 800 * s) (by omega)]
  refine ok_seq 2 (σ' := (26, [(0, .ref 185)], [.int (Int32.ofInt 0), .ref 185], gSh, pUp (pUp M0 185 15 (.int (nI (800 * s)))) 188 (800 * s) (.int (nI 0)))) rfl ?_
  rw [cI_0]
  refine ok_put (q := 157) (ci := 12) (k := 17) (n := 47) (ty := .int) rfl rfl rfl rfl rfl rfl (fi_int _) ?_
  refine ok_seq 2 (σ' := (31, [(0, .ref 185)], [.int (Int32.ofInt 0), .ref 185], gSh, pUp (pUp (pUp M0 185 15 (.int (nI (800 * s)))) 188 (800 * s) (.int (nI 0))) 185 17 (.int (nI 0)))) rfl ?_
  rw [cI_0]
  refine ok_put (q := 167) (ci := 12) (k := 21) (n := 47) (ty := .int) rfl rfl rfl rfl rfl rfl (fi_int _) ?_
  refine ok_seq 2 (σ' := (36, [(0, .ref 185)], [.int (Int32.ofInt 0), .ref 185], gSh, pUp (pUp (pUp (pUp M0 185 15 (.int (nI (800 * s)))) 188 (800 * s) (.int (nI 0))) 185 17 (.int (nI 0))) 185 21 (.int (nI 0)))) rfl ?_
  rw [cI_0]
  refine ok_put (q := 240) (ci := 12) (k := 24) (n := 47) (ty := .int) rfl rfl rfl rfl rfl rfl (fi_int _) ?_
  refine ok_seq 2 (σ' := (41, [(0, .ref 185)], [.int (Int32.ofInt 0), .ref 185], gSh, pUp (pUp (pUp (pUp (pUp M0 185 15 (.int (nI (800 * s)))) 188 (800 * s) (.int (nI 0))) 185 17 (.int (nI 0))) 185 21 (.int (nI 0))) 185 24 (.int (nI 0)))) rfl ?_
  rw [cI_0]
  refine ok_put (q := 119) (ci := 12) (k := 10) (n := 47) (ty := .int) rfl rfl rfl rfl rfl rfl (fi_int _) ?_
  refine ok_seq 1 (σ' := (45, [(0, .ref 185)], [.ref 185], gSh, pUp (pUp (pUp (pUp (pUp (pUp M0 185 15 (.int (nI (800 * s)))) 188 (800 * s) (.int (nI 0))) 185 17 (.int (nI 0))) 185 21 (.int (nI 0))) 185 24 (.int (nI 0))) 185 10 (.int (nI 0)))) rfl ?_
  have hM1 : tyM (tOf τ) (pUp (pUp (pUp (pUp (pUp (pUp M0 185 15 (.int (nI (800 * s)))) 188 (800 * s) (.int (nI 0))) 185 17 (.int (nI 0))) 185 21 (.int (nI 0))) 185 24 (.int (nI 0))) 185 10 (.int (nI 0))) := ptu hT (ptu hT (ptu hT (ptu hT (pu188 hT (ptu hT hM 10 rfl (sat_n (by omega) (by omega))) _) 11 rfl (sat_n (by decide) (by decide))) 14 rfl (sat_a _)) 17 rfl (sat_a _)) 6 rfl (sat_n (by decide) (by decide))
  have hq : PB0 τ s 0 0 0 M0 (pUp (pUp (pUp (pUp (pUp (pUp M0 185 15 (.int (nI (800 * s)))) 188 (800 * s) (.int (nI 0))) 185 17 (.int (nI 0))) 185 21 (.int (nI 0))) 185 24 (.int (nI 0))) 185 10 (.int (nI 0))) := by
    refine ⟨⟨hM1, fun o k1 k2 k3 => by rw [pUp_ne k1, pUp_ne k1, pUp_ne k1, pUp_ne k1, pUp_ne k2, pUp_ne k1], hs⟩, ⟨rfl, rfl, by decide, by decide, ?_, fun c hc => by omega, fun s' q1 q2 => ?_⟩, rfl, by decide⟩
    · rw [pUp_ne (by decide), pUp_ne (by decide), pUp_ne (by decide), pUp_ne (by decide)]
      exact pUp_self _ _ _ _
    · refine textOk_ext (fun k r1 r2 => ?_) (hg.2.2 s' q1)
      rw [pUp_ne (by decide), pUp_ne (by decide), pUp_ne (by decide), pUp_ne (by decide), pUp_other _ _ _ _ (fun z => by omega), pUp_ne (by decide)]
  refine ok_call (mi := 180) (as := [.ref 185]) (pc' := 48) (L' := [(0, .ref 185)]) (st' := []) (sh' := gSh) (M' := pUp (pUp (pUp (pUp (pUp (pUp M0 185 15 (.int (nI (800 * s)))) 188 (800 * s) (.int (nI 0))) 185 17 (.int (nI 0))) 185 21 (.int (nI 0))) 185 24 (.int (nI 0))) 185 10 (.int (nI 0))) (i := .invokevirtual 189) (len := 3) rfl rfl ?_
  refine (((c_next (d := 0) (a := 0) hT hM1 rfl (by decide)).deep (by omega))).mono ?_
  rintro v ⟨sh2, M2⟩ ⟨rfl, hsh, hN⟩
  have hsh : sh2 = gSh := hsh
  subst hsh
  dsimp only at hN
  refine rt_loop (d := d) hT hH hg _ 0 0 0 M2 [] rfl (hq.next hN) ?_ (Nat.le_refl _) (Or.inl rfl)
  obtain ⟨-, -, at', tok, k1, k2, k3, k4, k5⟩ := hN
  exact ⟨at', tok, k1, k2, k4, k3, k5⟩
theorem c_text {S : pScr} {d dN s : Nat} {τ : fT} {M0 : pMem} (hT : pT τ) (hH : PH τ S dN) (hg : gR M0) (hM : tyM (tOf τ) M0) (hs : s ≤ 4) (h2 : M0 186 2 = .int (nI s)) : cOk S (d + dN + 11) 204 [.ref 185] (gSh, M0) (fun r hp => hp.1 = gSh ∧ (∃ z, r = some (.int z)) ∧ tyM (tOf τ) hp.2 ∧ gR hp.2 ∧ (∀ o, o ≠ 185 → o ≠ 186 → o ≠ 188 → o ≠ 190 → hp.2 o = M0 o) ∧ (∀ k, k ≠ 2 → hp.2 186 k = M0 186 k) ∧ ((s = 4 ∧ hp.2 = M0) ∨ (s < 4 ∧ hp.2 185 7 = .int (nI 0) ∧ (hp.2 186 2 = .int (nI s) ∨ hp.2 186 2 = .int (nI (s + 1)))))) := by
  refine c_of_ok (Nat.le_of_ble_eq_true rfl) ?_
  have h3 := ty_ref (pty hT hM 0 rfl rfl)
  refine ok_seq 2 (σ' := (4, [(0, .ref 185)], [M0 185 3], gSh, M0)) rfl ?_
  rw [h3]
  refine ok_seq 1 (σ' := (5, [(0, .ref 185)], [.int (Int32.ofInt 2), .ref 186], gSh, M0)) rfl ?_
  rw [cI_2]
  refine ok_iald (n := 280) (v := nI s) rfl rfl (hI_in (by omega) (by decide)) (by rw [hI_nat (by omega)]; exact h2) ?_
  refine ok_seq 1 (σ' := (7, [(0, .ref 185)], [.int (Int32.ofInt 4), .int (nI s)], gSh, M0)) rfl ?_
  rw [cI_4]
  refine ok_icmp 12 rfl rfl ?_ ?_
  · intro h4
    simp only [pCP] at h4
    rw [hI_int (a := s) (by omega), hI_int (a := 4) (by omega)] at h4
    have h4 : ((s : Nat) : Int) ≠ ((4 : Nat) : Int) := by omega
    refine ok_seq 2 (σ' := (14, [(0, .ref 185)], [.ref 185, .ref 185], gSh, M0)) rfl ?_
    refine ok_call (mi := 203) (as := [.ref 185]) (pc' := 17) (L' := [(0, .ref 185)]) (st' := [.ref 185]) (sh' := gSh) (M' := M0) (i := .invokevirtual 252) (len := 3) rfl rfl ?_
    refine ((c_readText (d := d) hT hH hg hM (by omega) h2)).mono ?_
    rintro v ⟨sh2, M2⟩ ⟨hsh, ⟨z, rfl⟩, hE⟩
    have hsh : sh2 = gSh := hsh
    subst hsh
    dsimp only at hE
    obtain ⟨hM2, hfr, htx⟩ := hE
    have e186 : M2 186 = M0 186 := hfr 186 (by decide) (by decide) (by decide)
    have e187 : M2 187 = M0 187 := hfr 187 (by decide) (by decide) (by decide)
    have hg2 : gR M2 := by
      unfold gR gRel
      rw [e186, e187]
      exact ⟨hg.1, hg.2.1, htx⟩
    obtain ⟨pl, h11, -⟩ := ty_int (pty hT hM2 7 rfl rfl)
    have h32 := ty_ref (pty hT hM2 0 rfl rfl)
    have h22 : M2 186 2 = .int (nI s) := by rw [e186]; exact h2
    refine ok_put (q := 22) (ci := 12) (k := 8) (n := 47) (ty := .int) rfl rfl rfl rfl rfl rfl (fi_int _) ?_
    refine ok_seq 3 (σ' := (25, [(0, .ref 185)], [.int z, .ref 185], gSh, pUp M2 185 8 (.int z))) rfl ?_
    refine ok_if 32 rfl rfl ?_ ?_
    · intro hf
      simp only [pCP] at hf
      have hf : (z).toInt ≠ (0 : Int) := by omega
      refine ok_seq 2 (σ' := (36, [(0, .ref 185)], [M2 185 11, .ref 185], gSh, pUp M2 185 8 (.int z))) rfl ?_
      rw [h11]
      refine ok_put (q := 26) (ci := 12) (k := 9) (n := 47) (ty := .int) rfl rfl rfl rfl rfl rfl (fi_int _) ?_
      refine ok_seq 2 (σ' := (41, [(0, .ref 185)], [.int (Int32.ofInt 0), .ref 185], gSh, pUp (pUp M2 185 8 (.int z)) 185 9 (.int pl))) rfl ?_
      rw [cI_0]
      refine ok_put (q := 112) (ci := 12) (k := 7) (n := 47) (ty := .int) rfl rfl rfl rfl rfl rfl (fi_int _) ?_
      refine ok_seq 2 (σ' := (48, [(0, .ref 185)], [.int z], gSh, pUp (pUp (pUp M2 185 8 (.int z)) 185 9 (.int pl)) 185 7 (.int (nI 0)))) rfl ?_
      refine ok_if 53 rfl rfl (fun hz => absurd hz (by simp only [pCP]; omega)) (fun _ => ?_)
      refine ok_seq 1 (σ' := (52, [(0, .ref 185)], [.int mI], gSh, pUp (pUp (pUp M2 185 8 (.int z)) 185 9 (.int pl)) 185 7 (.int (nI 0)))) rfl ?_
      refine ok_ret (i := .ireturn) (len := 1) rfl rfl ⟨_, rfl, rfl, ⟨_, rfl⟩, ?_, ?_, ?_, ?_, Or.inr ⟨by omega, rfl, Or.inl h22⟩⟩
      · exact ptu hT (ptu hT (ptu hT hM2 4 rfl (sat_a _)) 5 rfl (sat_a _)) 3 rfl (sat_n (by decide) (by decide))
      · exact gR_keep (M := M2) (by dsimp only; rw [pUp_ne (by decide), pUp_ne (by decide), pUp_ne (by decide)]) (by dsimp only; rw [pUp_ne (by decide), pUp_ne (by decide), pUp_ne (by decide)]) (fun k hk => by dsimp only; rw [pUp_ne (by decide), pUp_ne (by decide), pUp_ne (by decide)]) hg2
      · intro o k1 k2 k3 k4
        dsimp only
        rw [pUp_ne k1, pUp_ne k1, pUp_ne k1]
        exact hfr o k1 k3 k4
      · intro k hk
        dsimp only
        rw [pUp_ne (by decide), pUp_ne (by decide), pUp_ne (by decide), e186]
    · intro hf
      simp only [pCP] at hf
      have hf : (z).toInt = (0 : Int) := by omega
      refine ok_seq 2 (σ' := (36, [(0, .ref 185)], [.int mI, .ref 185], gSh, pUp M2 185 8 (.int z))) rfl ?_
      refine ok_put (q := 26) (ci := 12) (k := 9) (n := 47) (ty := .int) rfl rfl rfl rfl rfl rfl (fi_int _) ?_
      refine ok_seq 2 (σ' := (41, [(0, .ref 185)], [.int (Int32.ofInt 0), .ref 185], gSh, pUp (pUp M2 185 8 (.int z)) 185 9 (.int mI))) rfl ?_
      rw [cI_0]
      refine ok_put (q := 112) (ci := 12) (k := 7) (n := 47) (ty := .int) rfl rfl rfl rfl rfl rfl (fi_int _) ?_
      refine ok_seq 2 (σ' := (48, [(0, .ref 185)], [.int z], gSh, pUp (pUp (pUp M2 185 8 (.int z)) 185 9 (.int mI)) 185 7 (.int (nI 0)))) rfl ?_
      refine ok_if 53 rfl rfl (fun _ => ?_) (fun hz => absurd (by simp only [pCP]; omega) hz)
      refine ok_seq 2 (σ' := (57, [(0, .ref 185)], [M2 185 3], gSh, pUp (pUp (pUp M2 185 8 (.int z)) 185 9 (.int mI)) 185 7 (.int (nI 0)))) rfl ?_
      rw [h32]
      refine ok_seq 2 (σ' := (59, [(0, .ref 185)], [.int (Int32.ofInt 2), .ref 186, .int (Int32.ofInt 2), .ref 186], gSh, pUp (pUp (pUp M2 185 8 (.int z)) 185 9 (.int mI)) 185 7 (.int (nI 0)))) rfl ?_
      rw [cI_2]
      refine ok_iald (n := 280) (v := nI s) rfl rfl (hI_in (by omega) (by decide)) (by rw [hI_nat (by omega)]; exact h22) ?_
      refine ok_seq 2 (σ' := (62, [(0, .ref 185)], [.int ((nI s) + (Int32.ofInt 1)), .int (nI 2), .ref 186], gSh, pUp (pUp (pUp M2 185 8 (.int z)) 185 9 (.int mI)) 185 7 (.int (nI 0)))) rfl ?_
      rw [cI_1, hI_add s 1]
      refine ok_iast (n := 280) rfl rfl (hI_in (by omega) (by decide)) ?_
      rw [hI_nat (a := 2) (by omega)]
      refine ok_seq 2 (σ' := (67, [(0, .ref 185)], [M2 185 3], gSh, pUp (pUp (pUp (pUp M2 185 8 (.int z)) 185 9 (.int mI)) 185 7 (.int (nI 0))) 186 2 (.int (nI (s + 1))))) rfl ?_
      rw [h32]
      refine ok_seq 1 (σ' := (68, [(0, .ref 185)], [.int (Int32.ofInt 2), .ref 186], gSh, pUp (pUp (pUp (pUp M2 185 8 (.int z)) 185 9 (.int mI)) 185 7 (.int (nI 0))) 186 2 (.int (nI (s + 1))))) rfl ?_
      rw [cI_2]
      refine ok_iald (n := 280) (v := nI (s + 1)) rfl rfl (hI_in (by omega) (by decide)) (by rw [hI_nat (by omega)]; exact (pUp_self _ _ _ _)) ?_
      refine ok_seq 2 (σ' := (71, [(0, .ref 185)], [.int ((nI (s + 1)) - (Int32.ofInt 1))], gSh, pUp (pUp (pUp (pUp M2 185 8 (.int z)) 185 9 (.int mI)) 185 7 (.int (nI 0))) 186 2 (.int (nI (s + 1))))) rfl ?_
      rw [cI_1, hI_sub (s + 1) 1 (by omega)]
      refine ok_ret (i := .ireturn) (len := 1) rfl rfl ⟨_, rfl, rfl, ⟨_, rfl⟩, ?_, ?_, ?_, ?_, Or.inr ⟨by omega, rfl, Or.inr rfl⟩⟩
      · exact ptu hT (ptu hT (ptu hT (ptu hT hM2 4 rfl (sat_a _)) 5 rfl (sat_a _)) 3 rfl (sat_n (by decide) (by decide))) 18 rfl (sat_n (by omega) (by omega))
      · refine gR_keep (M := M2) (by dsimp only; rw [pUp_ne (by decide), pUp_ne (by decide), pUp_ne (by decide), pUp_ne (by decide)]) (by dsimp only; rw [pUp_ne (by decide), pUp_ne (by decide), pUp_ne (by decide), pUp_ne (by decide)]) (fun k hk => ?_) hg2
        have hk2 : k ≠ 2 := fun hz => by rw [hz] at hk; cases hk
        dsimp only
        rw [pUp_other _ _ _ _ (fun z => hk2 z.2), pUp_ne (by decide), pUp_ne (by decide), pUp_ne (by decide)]
      · intro o k1 k2 k3 k4
        dsimp only
        rw [pUp_ne k2, pUp_ne k1, pUp_ne k1, pUp_ne k1]
        exact hfr o k1 k3 k4
      · intro k hk
        dsimp only
        rw [pUp_other _ _ _ _ (fun z => hk z.2), pUp_ne (by decide), pUp_ne (by decide), pUp_ne (by decide), e186]
  · intro h4
    simp only [pCP] at h4
    rw [hI_int (a := s) (by omega), hI_int (a := 4) (by omega)] at h4
    have h4 : ((s : Nat) : Int) = ((4 : Nat) : Int) := by omega
    refine ok_seq 1 (σ' := (11, [(0, .ref 185)], [.int mI], gSh, M0)) rfl ?_
    exact ok_ret (i := .ireturn) (len := 1) rfl rfl ⟨_, rfl, rfl, ⟨_, rfl⟩, hM, hg, fun _ _ _ _ _ => rfl, fun _ _ => rfl, Or.inl ⟨by omega, rfl⟩⟩

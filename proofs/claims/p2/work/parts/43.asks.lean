/-! by hand, printed by wip/gen/gen43.py -/
/-- between sums: nothing is said of the pile -/
def PB0 (τ : fT) (s n w n0 : Nat) (M0 M : pMem) : Prop :=
  (tyM (tOf τ) M ∧ (∀ o, o ≠ 185 → o ≠ 188 → o ≠ 190 → M o = M0 o) ∧ s < 4) ∧ (M 185 15 = .int (nI (800 * s)) ∧ M 185 17 = .int (nI w) ∧ TI s n w M) ∧ M 185 21 = .int (nI n0) ∧ n0 ≤ 8
def PQ0 (τ : fT) (s n i0 : Nat) (D : Nat × Nat) (w n0 : Nat) (M0 M : pMem) : Prop :=
  PB0 τ s n w n0 M0 M ∧ codeOk (M 188) (800 * s + 60) i0 w (0, 0) D ∧ i0 ≤ w ∧ n < 12 ∧ M 188 (800 * s + 1 + 4 * n + 2) = .int (nI i0)
theorem PB.zero {τ : fT} {s n w n0 : Nat} {M0 M : pMem} (h : PB τ s n w [] n0 M0 M) : PB0 τ s n w n0 M0 M := ⟨h.1, h.2.1, h.2.2.2.1, h.2.2.2.2⟩
theorem PQ.zero {τ : fT} {s n i0 w n0 : Nat} {D : Nat × Nat} {M0 M : pMem} (h : PQ τ s n i0 D w [] n0 M0 M) : PQ0 τ s n i0 D w n0 M0 M := ⟨h.1.zero, h.2⟩
theorem PB0.pe {τ : fT} {s n w n0 : Nat} {M0 M : pMem} (h : PB0 τ s n w n0 M0 M) : PE τ s M0 M := ⟨h.1.1, h.1.2.1, TI_text h.2.1.2.2⟩
theorem PB0.w300 {τ : fT} {s n w n0 : Nat} {M0 M : pMem} (h : PB0 τ s n w n0 M0 M) : w ≤ 300 := h.2.1.2.2.2.1
theorem PB0.fields {τ : fT} {s n w n0 n1 : Nat} {M0 M M' : pMem} (h : PB0 τ s n w n0 M0 M) (hM : tyM (tOf τ) M') (ho : ∀ o, o ≠ 185 → M' o = M o) (h15 : M' 185 15 = M 185 15) (h17 : M' 185 17 = M 185 17) (h21 : M' 185 21 = .int (nI n1)) (hn : n1 ≤ 8) : PB0 τ s n w n1 M0 M' := by
  obtain ⟨⟨a1, a2, a3⟩, ⟨b1, b2, b3⟩, d1, d2⟩ := h
  exact ⟨⟨hM, fun o k1 k2 k3 => by rw [ho o k1]; exact a2 o k1 k2 k3, a3⟩, ⟨by rw [h15]; exact b1, by rw [h17]; exact b2, TI_ext b3 (Nat.le_refl _) b3.2.1 (fun k _ => by rw [ho 188 (by decide)])⟩, h21, hn⟩
theorem PQ0.fields {τ : fT} {s n i0 w n0 n1 : Nat} {D : Nat × Nat} {M0 M M' : pMem} (h : PQ0 τ s n i0 D w n0 M0 M) (hM : tyM (tOf τ) M') (ho : ∀ o, o ≠ 185 → M' o = M o) (h15 : M' 185 15 = M 185 15) (h17 : M' 185 17 = M 185 17) (h21 : M' 185 21 = .int (nI n1)) (hn : n1 ≤ 8) : PQ0 τ s n i0 D w n1 M0 M' := by
  obtain ⟨h1, h2, h3, h4, h5⟩ := h
  refine ⟨h1.fields hM ho h15 h17 h21 hn, ?_, h3, h4, ?_⟩
  · rw [ho 188 (by decide)]
    exact h2
  · rw [ho 188 (by decide)]
    exact h5
theorem PQ0.next {τ : fT} {s n i0 w n0 a : Nat} {D : Nat × Nat} {M0 M M' : pMem} (h : PQ0 τ s n i0 D w n0 M0 M) (hN : NP τ a M M') : PQ0 τ s n i0 D w n0 M0 M' := h.fields hN.1 hN.2.1.1 (hN.2.1.2 15 (by omega)) (hN.2.1.2 17 (by omega)) (by rw [hN.2.1.2 21 (by omega)]; exact h.1.2.2.1) h.1.2.2.2
theorem PB0.next {τ : fT} {s n w n0 a : Nat} {M0 M M' : pMem} (h : PB0 τ s n w n0 M0 M) (hN : NP τ a M M') : PB0 τ s n w n0 M0 M' := h.fields hN.1 hN.2.1.1 (hN.2.1.2 15 (by omega)) (hN.2.1.2 17 (by omega)) (by rw [hN.2.1.2 21 (by omega)]; exact h.2.2.1) h.2.2.2
theorem PB0.gr {τ : fT} {s n w n0 : Nat} {M0 M : pMem} (h : PB0 τ s n w n0 M0 M) (hg : gR M0) : gR M := by
  have e1 : M 187 = M0 187 := h.1.2.1 187 (by decide) (by decide) (by decide)
  have e2 : M 186 = M0 186 := h.1.2.1 186 (by decide) (by decide) (by decide)
  unfold gR gRel
  rw [e1, e2]
  exact ⟨hg.1, hg.2.1, TI_text h.2.1.2.2⟩
/-- with the pile emptied -/
theorem PQ0.full {τ : fT} {s n i0 w n0 : Nat} {D : Nat × Nat} {M0 M M' : pMem} (h : PQ0 τ s n i0 D w n0 M0 M) (hM : tyM (tOf τ) M') (ho : ∀ o, o ≠ 185 → M' o = M o) (h15 : M' 185 15 = M 185 15) (h17 : M' 185 17 = M 185 17) (h20 : M' 185 20 = .int (nI 0)) (h21 : M' 185 21 = M 185 21) : PQ τ s n i0 D w [] n0 M0 M' := by
  have h9 := h.fields hM ho h15 h17 (by rw [h21]; exact h.1.2.2.1) h.1.2.2.2
  exact ⟨⟨h9.1.1, h9.1.2.1, ⟨trivial, trivial, h20⟩, h9.1.2.2.1, h9.1.2.2.2⟩, h9.2⟩
theorem c_emit0 {S : pScr} {d : Nat} {τ : fT} {s n i0 w n0 : Nat} {D D' : Nat × Nat} {M0 M : pMem} {o v : Int32} (hT : pT τ) (h : PQ0 τ s n i0 D w n0 M0 M) (hop : opOk o.toInt v.toInt D D') (hw : w < 300) : cOk S (d + 1) 186 [.ref 185, .int o, .int v] (gSh, M) (fun r hp => r = none ∧ hp.1 = gSh ∧ PQ0 τ s n i0 D' (w + 1) n0 M0 hp.2 ∧ FK [17] M hp.2) := by
  refine (c_emit (t0 := 800 * s) (w := w) (ty_ref (pty hT h.1.1.1 1 rfl rfl)) h.1.2.1.1 h.1.2.1.2.1 (by have := h.1.1.2.2; omega)).mono ?_
  rintro r hp ⟨rfl, rfl⟩
  have f185 : ∀ f, f ≠ 17 → emM M s w o v 185 f = M 185 f := fun f hf => by
    show pUp (pUp (pUp M 188 _ _) 188 _ _) 185 17 _ 185 f = _
    rw [pUp_other _ _ _ _ (fun z => hf z.2), pUp_ne (by decide), pUp_ne (by decide)]
  refine ⟨rfl, rfl, ?_, fun f hf => f185 f (fun hz => hf (by rw [hz]; exact List.mem_singleton.mpr rfl))⟩
  -- by the row with a pile, on a memory whose pile is emptied
  have hz : PQ τ s n i0 D w [] n0 M0 (pUp M 185 20 (.int (nI 0))) := h.full (ptu hT h.1.1.1 13 rfl (sat_n (by decide) (by decide))) (fun o ho => pUp_ne ho) rfl rfl rfl rfl
  have h9 := (hz.emit hT (v := v) hop hw).zero
  show PQ0 τ s n i0 D' (w + 1) n0 M0 (emM M s w o v)
  refine PQ0.fields (M := emM (pUp M 185 20 (.int (nI 0))) s w o v) h9 (ptu hT (pu188 hT (pu188 hT h.1.1.1 o) v) 11 rfl (sat_n (by omega) (by omega))) (fun o' ho => ?_) ?_ ?_ (by rw [show emM M s w o v 185 21 = M 185 21 from f185 21 (by decide)]; exact h.1.2.2.1) h.1.2.2.2
  · show pUp (pUp (pUp M 188 _ _) 188 _ _) 185 17 _ o' = pUp (pUp (pUp (pUp M 185 20 _) 188 _ _) 188 _ _) 185 17 _ o'
    rw [pUp_ne ho, pUp_ne ho]
    by_cases e : o' = 188
    · subst e
      funext k
      by_cases e2 : k = 800 * s + 60 + 2 * w + 1
      · subst e2
        rw [pUp_self, pUp_self]
      · rw [pUp_other _ _ _ _ (fun z => e2 z.2), pUp_other _ _ _ _ (fun z => e2 z.2)]
        by_cases e3 : k = 800 * s + 60 + 2 * w
        · subst e3
          rw [pUp_self, pUp_self]
        · rw [pUp_other _ _ _ _ (fun z => e3 z.2), pUp_other _ _ _ _ (fun z => e3 z.2), pUp_ne (by decide)]
    · rw [pUp_ne e, pUp_ne e, pUp_ne e, pUp_ne e, pUp_ne ho]
  · rw [show emM M s w o v 185 15 = M 185 15 from f185 15 (by decide)]
    rfl
  · rfl
theorem c_sum0 {S : pScr} {d dN s n i0 n0 v0 pd c0 w : Nat} {D : Nat × Nat} {τ : fT} {M0 M : pMem} (hT : pT τ) (hH : PH τ S dN) (hg : gR M0) (hq : PQ0 τ s n i0 D w n0 M0 M) (hC : PC c0 M) (hv : v0 ≤ D.1) (hw : w + pd ≤ c0) : cOk S (d + dN + 6) 196 [.ref 185] (gSh, M) (fun r hp => hp.1 = gSh ∧ ((r = some (.int (nI 0)) ∧ ∃ (w' c' : Nat) (D' : Nat × Nat), PQ0 τ s n i0 D' w' n0 M0 hp.2 ∧ PC c' hp.2 ∧ v0 + 1 ≤ D'.1 ∧ D'.2 = D.2 ∧ w' + pd ≤ c' ∧ c0 ≤ c') ∨ (∃ z, r = some (.int z) ∧ z.toInt ≠ 0 ∧ PE τ s M0 hp.2))) := by
  refine c_of_ok (Nat.le_of_ble_eq_true rfl) ?_
  refine ok_seq 2 (σ' := (2, [(0, .ref 185)], [.int (Int32.ofInt 0), .ref 185], gSh, M)) rfl ?_
  rw [cI_0]
  refine ok_put (q := 160) (ci := 12) (k := 20) (n := 47) (ty := .int) rfl rfl rfl rfl rfl rfl (fi_int _) ?_
  refine ok_seq 2 (σ' := (7, [(0, .ref 185)], [.int (Int32.ofInt 0), .ref 185], gSh, pUp M 185 20 (.int (nI 0)))) rfl ?_
  rw [cI_0]
  refine ok_put (q := 163) (ci := 12) (k := 22) (n := 47) (ty := .boolean) rfl rfl rfl rfl rfl rfl fi_b0 ?_
  refine pOk.mono (su_loop (d := d) (s := s) (n := n) (i0 := i0) (n0 := n0) (M0 := M0) (v0 := v0) (pd := pd) (c0 := c0) (D2 := D.2) hT hH hg _ c0 _ [] rfl ?_ (Nat.le_refl _) ⟨[], w, D, 0, ?_, ?_, by decide, pUp_self _ _ _ _, by show v0 + 0 + 0 ≤ _; omega, rfl, hw⟩ (Or.inl rfl)) ?_
  · obtain ⟨a9, t9, -, -, k3, k4, -⟩ := hC
    omega
  · exact hq.full (ptu hT (ptu hT hq.1.1.1 13 rfl (sat_n (by decide) (by decide))) 15 rfl (sat_n (by decide) (by decide))) (fun o ho => by rw [pUp_ne ho, pUp_ne ho]) rfl rfl rfl rfl
  · exact hC.keep rfl rfl
  · rintro i len τ' ⟨v, g1, g2, g3⟩
    refine ⟨v, g1, g2, ?_⟩
    rcases g3 with ⟨e1, w', c', D', k1, k2⟩ | g3
    · exact Or.inl ⟨e1, w', c', D', k1.zero, k2⟩
    · exact Or.inr g3
theorem c_compare {S : pScr} {d : Nat} {M : pMem} {tok : Int32} (h12 : M 185 12 = .int tok) : cOk S (d + 1) 197 [.ref 185] (gSh, M) (fun r hp => hp = (gSh, M) ∧ ∃ z, r = some (.int z) ∧ (z.toInt = -1 ∨ (10 ≤ z.toInt ∧ z.toInt ≤ 15 ∧ tok.toInt ≠ 0))) := by
  refine c_of_ok (Nat.le_of_ble_eq_true rfl) ?_
  refine ok_seq 2 (σ' := (4, [(0, .ref 185)], [M 185 12], gSh, M)) rfl ?_
  rw [h12]
  refine ok_seq 1 (σ' := (6, [(0, .ref 185)], [.int ((Int8.ofInt 60).toInt32), .int tok], gSh, M)) rfl ?_
  rw [(show (Int8.ofInt 60).toInt32 = nI 60 by decide)]
  refine ok_icmp 14 rfl rfl ?_ ?_
  · intro hc0
    simp only [pCP] at hc0
    rw [hI_int (a := 60) (by omega)] at hc0
    have hc0 : (tok).toInt ≠ ((60 : Nat) : Int) := by omega
    refine ok_seq 2 (σ' := (18, [(0, .ref 185)], [M 185 12], gSh, M)) rfl ?_
    rw [h12]
    refine ok_seq 1 (σ' := (19, [(0, .ref 185)], [.int (Int32.ofInt 4), .int tok], gSh, M)) rfl ?_
    rw [cI_4]
    refine ok_icmp 27 rfl rfl ?_ ?_
    · intro hc1
      simp only [pCP] at hc1
      rw [hI_int (a := 4) (by omega)] at hc1
      have hc1 : (tok).toInt ≠ ((4 : Nat) : Int) := by omega
      refine ok_seq 2 (σ' := (31, [(0, .ref 185)], [M 185 12], gSh, M)) rfl ?_
      rw [h12]
      refine ok_seq 1 (σ' := (33, [(0, .ref 185)], [.int ((Int8.ofInt 62).toInt32), .int tok], gSh, M)) rfl ?_
      rw [(show (Int8.ofInt 62).toInt32 = nI 62 by decide)]
      refine ok_icmp 41 rfl rfl ?_ ?_
      · intro hc2
        simp only [pCP] at hc2
        rw [hI_int (a := 62) (by omega)] at hc2
        have hc2 : (tok).toInt ≠ ((62 : Nat) : Int) := by omega
        refine ok_seq 2 (σ' := (45, [(0, .ref 185)], [M 185 12], gSh, M)) rfl ?_
        rw [h12]
        refine ok_seq 1 (σ' := (46, [(0, .ref 185)], [.int (Int32.ofInt 5), .int tok], gSh, M)) rfl ?_
        rw [cI_5]
        refine ok_icmp 54 rfl rfl ?_ ?_
        · intro hc3
          simp only [pCP] at hc3
          rw [hI_int (a := 5) (by omega)] at hc3
          have hc3 : (tok).toInt ≠ ((5 : Nat) : Int) := by omega
          refine ok_seq 2 (σ' := (58, [(0, .ref 185)], [M 185 12], gSh, M)) rfl ?_
          rw [h12]
          refine ok_seq 1 (σ' := (60, [(0, .ref 185)], [.int ((Int8.ofInt 61).toInt32), .int tok], gSh, M)) rfl ?_
          rw [(show (Int8.ofInt 61).toInt32 = nI 61 by decide)]
          refine ok_icmp 68 rfl rfl ?_ ?_
          · intro hc4
            simp only [pCP] at hc4
            rw [hI_int (a := 61) (by omega)] at hc4
            have hc4 : (tok).toInt ≠ ((61 : Nat) : Int) := by omega
            refine ok_seq 2 (σ' := (72, [(0, .ref 185)], [M 185 12], gSh, M)) rfl ?_
            rw [h12]
            refine ok_seq 1 (σ' := (74, [(0, .ref 185)], [.int ((Int8.ofInt 35).toInt32), .int tok], gSh, M)) rfl ?_
            rw [(show (Int8.ofInt 35).toInt32 = nI 35 by decide)]
            refine ok_icmp 82 rfl rfl ?_ ?_
            · intro hc5
              simp only [pCP] at hc5
              rw [hI_int (a := 35) (by omega)] at hc5
              have hc5 : (tok).toInt ≠ ((35 : Nat) : Int) := by omega
              refine ok_seq 1 (σ' := (83, [(0, .ref 185)], [.int mI], gSh, M)) rfl ?_
              exact ok_ret (i := .ireturn) (len := 1) rfl rfl ⟨_, rfl, rfl, mI, rfl, Or.inl (by decide)⟩
            · intro hc5
              simp only [pCP] at hc5
              rw [hI_int (a := 35) (by omega)] at hc5
              have hc5 : (tok).toInt = ((35 : Nat) : Int) := by omega
              refine ok_seq 2 (σ' := (83, [(0, .ref 185)], [.int ((Int8.ofInt 15).toInt32)], gSh, M)) rfl ?_
              rw [(show (Int8.ofInt 15).toInt32 = nI 15 by decide)]
              exact ok_ret (i := .ireturn) (len := 1) rfl rfl ⟨_, rfl, rfl, nI 15, rfl, Or.inr ⟨by decide, by decide, by omega⟩⟩
          · intro hc4
            simp only [pCP] at hc4
            rw [hI_int (a := 61) (by omega)] at hc4
            have hc4 : (tok).toInt = ((61 : Nat) : Int) := by omega
            refine ok_seq 2 (σ' := (83, [(0, .ref 185)], [.int ((Int8.ofInt 14).toInt32)], gSh, M)) rfl ?_
            rw [(show (Int8.ofInt 14).toInt32 = nI 14 by decide)]
            exact ok_ret (i := .ireturn) (len := 1) rfl rfl ⟨_, rfl, rfl, nI 14, rfl, Or.inr ⟨by decide, by decide, by omega⟩⟩
        · intro hc3
          simp only [pCP] at hc3
          rw [hI_int (a := 5) (by omega)] at hc3
          have hc3 : (tok).toInt = ((5 : Nat) : Int) := by omega
          refine ok_seq 2 (σ' := (83, [(0, .ref 185)], [.int ((Int8.ofInt 13).toInt32)], gSh, M)) rfl ?_
          rw [(show (Int8.ofInt 13).toInt32 = nI 13 by decide)]
          exact ok_ret (i := .ireturn) (len := 1) rfl rfl ⟨_, rfl, rfl, nI 13, rfl, Or.inr ⟨by decide, by decide, by omega⟩⟩
      · intro hc2
        simp only [pCP] at hc2
        rw [hI_int (a := 62) (by omega)] at hc2
        have hc2 : (tok).toInt = ((62 : Nat) : Int) := by omega
        refine ok_seq 2 (σ' := (83, [(0, .ref 185)], [.int ((Int8.ofInt 12).toInt32)], gSh, M)) rfl ?_
        rw [(show (Int8.ofInt 12).toInt32 = nI 12 by decide)]
        exact ok_ret (i := .ireturn) (len := 1) rfl rfl ⟨_, rfl, rfl, nI 12, rfl, Or.inr ⟨by decide, by decide, by omega⟩⟩
    · intro hc1
      simp only [pCP] at hc1
      rw [hI_int (a := 4) (by omega)] at hc1
      have hc1 : (tok).toInt = ((4 : Nat) : Int) := by omega
      refine ok_seq 2 (σ' := (83, [(0, .ref 185)], [.int ((Int8.ofInt 11).toInt32)], gSh, M)) rfl ?_
      rw [(show (Int8.ofInt 11).toInt32 = nI 11 by decide)]
      exact ok_ret (i := .ireturn) (len := 1) rfl rfl ⟨_, rfl, rfl, nI 11, rfl, Or.inr ⟨by decide, by decide, by omega⟩⟩
  · intro hc0
    simp only [pCP] at hc0
    rw [hI_int (a := 60) (by omega)] at hc0
    have hc0 : (tok).toInt = ((60 : Nat) : Int) := by omega
    refine ok_seq 2 (σ' := (83, [(0, .ref 185)], [.int ((Int8.ofInt 10).toInt32)], gSh, M)) rfl ?_
    rw [(show (Int8.ofInt 10).toInt32 = nI 10 by decide)]
    exact ok_ret (i := .ireturn) (len := 1) rfl rfl ⟨_, rfl, rfl, nI 10, rfl, Or.inr ⟨by decide, by decide, by omega⟩⟩
theorem c_w3 {S : pScr} {d : Nat} {M : pMem} (a b c : Int32) : ∃ z : Int64, cOk S (d + 1) 181 [.int a, .int b, .int c] (gSh, M) (fun r hp => r = some (.long z) ∧ hp = (gSh, M)) := by
  refine ⟨(((((a).toInt64) <<< (((Int8.ofInt 8).toInt32).toInt64 &&& 63)) ||| ((b).toInt64)) <<< (((Int8.ofInt 8).toInt32).toInt64 &&& 63)) ||| ((c).toInt64), c_of_ok (Nat.le_of_ble_eq_true rfl) ?_⟩
  refine ok_seq 12 (σ' := (14, [(0, .int a), (1, .int b), (2, .int c)], [.long ((((((a).toInt64) <<< (((Int8.ofInt 8).toInt32).toInt64 &&& 63)) ||| ((b).toInt64)) <<< (((Int8.ofInt 8).toInt32).toInt64 &&& 63)) ||| ((c).toInt64))], gSh, M)) rfl ?_
  exact ok_ret (i := .lreturn) (len := 1) rfl rfl ⟨_, rfl, rfl, rfl⟩
theorem c_w4 {S : pScr} {d : Nat} {M : pMem} (a b c d4 : Int32) : ∃ z : Int64, cOk S (d + 2) 183 [.int a, .int b, .int c, .int d4] (gSh, M) (fun r hp => r = some (.long z) ∧ hp = (gSh, M)) := by
  obtain ⟨z, hz⟩ := c_w3 (S := S) (d := d) (M := M) a b c
  refine ⟨(z <<< (((Int8.ofInt 8).toInt32).toInt64 &&& 63)) ||| ((d4).toInt64), c_of_ok (Nat.le_of_ble_eq_true rfl) ?_⟩
  refine ok_seq 3 (σ' := (3, [(0, .int a), (1, .int b), (2, .int c), (3, .int d4)], [.int c, .int b, .int a], gSh, M)) rfl ?_
  refine ok_call (mi := 181) (as := [.int a, .int b, .int c]) (pc' := 6) (L' := [(0, .int a), (1, .int b), (2, .int c), (3, .int d4)]) (st' := []) (sh' := gSh) (M' := M) (i := .invokestatic 146) (len := 3) rfl rfl ?_
  refine (hz).mono ?_
  rintro v hp ⟨rfl, rfl⟩
  refine ok_seq 5 (σ' := (12, [(0, .int a), (1, .int b), (2, .int c), (3, .int d4)], [.long ((z <<< (((Int8.ofInt 8).toInt32).toInt64 &&& 63)) ||| ((d4).toInt64))], gSh, M)) rfl ?_
  exact ok_ret (i := .lreturn) (len := 1) rfl rfl ⟨_, rfl, rfl, rfl⟩
abbrev asK (S : pScr) (d : Nat) (Q : Option Value → pHp → Prop) (σ : pSt) : Prop := pOk S 12 false 5 (pCode 198) d (fun i len τ' => ∃ v, pRet (some .int) i len τ'.2.2.1 = some v ∧ Q v (τ'.2.2.2.1, τ'.2.2.2.2)) σ
theorem as_nots {S : pScr} {d s n i0 pd c c0 D2 k : Nat} {z0 f0 : Int32} {τ : fT} {M0 : pMem} (hT : pT τ) (hc0 : c0 ≤ c) (hc : c ≤ 300) (hk : k ≤ 8) : ∀ (r j w : Nat) (D : Nat × Nat) (M : pMem), j + r = k → PQ0 τ s n i0 D w 0 M0 M → PC c M → D.2 = D2 + 1 → w + pd + r ≤ c → asK S (d + 1) (fun r hp => hp.1 = gSh ∧ ((r = some (.int (nI 0)) ∧ ∃ (w' c' : Nat) (D' : Nat × Nat), PQ0 τ s n i0 D' w' 0 M0 hp.2 ∧ PC c' hp.2 ∧ D'.2 = D2 + 1 ∧ w' + pd ≤ c' ∧ c0 ≤ c') ∨ (∃ z, r = some (.int z) ∧ z.toInt ≠ 0 ∧ PE τ s M0 hp.2))) (105, [(4, .int (nI j)), (2, .int f0), (3, .int z0), (1, .int (nI k)), (0, .ref 185)], [], gSh, M) := by
  intro r
  induction r with
  | zero =>
    intro j w D M hj hq hC hD hw
    refine ok_seq 2 (σ' := (108, [(4, .int (nI j)), (2, .int f0), (3, .int z0), (1, .int (nI k)), (0, .ref 185)], [.int (nI k), .int (nI j)], gSh, M)) rfl ?_
    refine ok_icmp 124 rfl rfl (fun _ => ?_) (fun hz => absurd (by simp only [pCP]; rw [hI_int (a := j) (by omega), hI_int (a := k) (by omega)]; omega) hz)
    refine ok_seq 1 (σ' := (125, [(4, .int (nI j)), (2, .int f0), (3, .int z0), (1, .int (nI k)), (0, .ref 185)], [.int (Int32.ofInt 0)], gSh, M)) rfl ?_
    rw [cI_0]
    exact ok_ret (i := .ireturn) (len := 1) rfl rfl ⟨some (.int (nI 0)), rfl, rfl, Or.inl ⟨rfl, w, c, D, hq, hC, hD, by omega, hc0⟩⟩
  | succ r ih =>
    intro j w D M hj hq hC hD hw
    have hw3 := hq.1.w300
    refine ok_seq 2 (σ' := (108, [(4, .int (nI j)), (2, .int f0), (3, .int z0), (1, .int (nI k)), (0, .ref 185)], [.int (nI k), .int (nI j)], gSh, M)) rfl ?_
    refine ok_icmp 124 rfl rfl (fun hz => absurd hz (by simp only [pCP]; rw [hI_int (a := j) (by omega), hI_int (a := k) (by omega)]; omega)) (fun _ => ?_)
    refine ok_seq 3 (σ' := (115, [(4, .int (nI j)), (2, .int f0), (3, .int z0), (1, .int (nI k)), (0, .ref 185)], [.int (Int32.ofInt 0), .int ((Int8.ofInt 20).toInt32), .ref 185], gSh, M)) rfl ?_
    rw [(show (Int8.ofInt 20).toInt32 = nI 20 by decide), cI_0]
    refine ok_call (mi := 186) (as := [.ref 185, .int (nI 20), .int (nI 0)]) (pc' := 118) (L' := [(4, .int (nI j)), (2, .int f0), (3, .int z0), (1, .int (nI k)), (0, .ref 185)]) (st' := []) (sh' := gSh) (M' := M) (i := .invokevirtual 170) (len := 3) rfl rfl ?_
    refine ((c_emit0 (d := d) hT hq (D' := D) (o := nI 20) (v := nI 0) (Or.inr (Or.inr (Or.inr (Or.inr (Or.inr (Or.inl ⟨by decide, by omega, rfl⟩)))))) (by omega))).mono ?_
    rintro v ⟨sh2, M2⟩ ⟨rfl, hsh, hq2, hf2⟩
    have hsh : sh2 = gSh := hsh
    subst hsh
    dsimp only at hq2 hf2
    refine ok_seq 2 (σ' := (105, [(4, .int ((nI j) + (Int32.ofInt 1))), (2, .int f0), (3, .int z0), (1, .int (nI k)), (0, .ref 185)], [], gSh, M2)) rfl ?_
    rw [cI_1, hI_add j 1]
    exact ih (j + 1) (w + 1) D M2 (by omega) hq2 (hC.keep (hf2.at 10 (by decide)) (hf2.at 12 (by decide))) hD (by omega)
theorem as_sums {S : pScr} {d dN s n i0 pd c c0 k w : Nat} {D : Nat × Nat} {τ : fT} {M0 M : pMem} (hT : pT τ) (hH : PH τ S dN) (hg : gR M0) (hc0 : c0 ≤ c) (hk : k ≤ 8) (hq : PQ0 τ s n i0 D w k M0 M) (hC : PC c M) (hw : w + (pd + k) ≤ c) : asK S (d + dN + 6) (fun r hp => hp.1 = gSh ∧ ((r = some (.int (nI 0)) ∧ ∃ (w' c' : Nat) (D' : Nat × Nat), PQ0 τ s n i0 D' w' 0 M0 hp.2 ∧ PC c' hp.2 ∧ D'.2 = D.2 + 1 ∧ w' + pd ≤ c' ∧ c0 ≤ c') ∨ (∃ z, r = some (.int z) ∧ z.toInt ≠ 0 ∧ PE τ s M0 hp.2))) (49, [(1, .int (nI k)), (0, .ref 185)], [], gSh, M) := by
  refine ok_seq 1 (σ' := (50, [(1, .int (nI k)), (0, .ref 185)], [.ref 185], gSh, M)) rfl ?_
  refine ok_call (mi := 196) (as := [.ref 185]) (pc' := 53) (L' := [(1, .int (nI k)), (0, .ref 185)]) (st' := []) (sh' := gSh) (M' := M) (i := .invokevirtual 224) (len := 3) rfl rfl ?_
  refine ((c_sum0 (d := d) (v0 := D.1) (pd := pd + k) hT hH hg hq hC (Nat.le_refl _) hw)).mono ?_
  rintro v ⟨sh2, M2⟩ ⟨hsh, hor⟩
  have hsh : sh2 = gSh := hsh
  subst hsh
  dsimp only at hor
  rcases hor with ⟨rfl, w2, c2, D', hq2, hC2, hv2, hD2, hw2, hc2⟩ | ⟨z, rfl, hz, hE⟩
  · refine ok_seq 2 (σ' := (55, [(2, .int (nI 0)), (1, .int (nI k)), (0, .ref 185)], [.int (nI 0)], gSh, M2)) rfl ?_
    refine ok_if 60 rfl rfl (fun _ => ?_) (fun hz => absurd (by simp only [pCP]; rw [hI_int (a := 0) (by omega)]; omega) hz)
    obtain ⟨tok, h12, -⟩ := ty_int (pty hT hq2.1.1.1 8 rfl rfl)
    refine ok_seq 1 (σ' := (61, [(2, .int (nI 0)), (1, .int (nI k)), (0, .ref 185)], [.ref 185], gSh, M2)) rfl ?_
    refine ok_call (mi := 197) (as := [.ref 185]) (pc' := 64) (L' := [(2, .int (nI 0)), (1, .int (nI k)), (0, .ref 185)]) (st' := []) (sh' := gSh) (M' := M2) (i := .invokevirtual 227) (len := 3) rfl rfl ?_
    refine (((c_compare (d := 0) h12).deep (by omega))).mono ?_
    rintro v hp ⟨rfl, z, rfl, hz⟩
    refine ok_seq 2 (σ' := (66, [(3, .int z), (2, .int (nI 0)), (1, .int (nI k)), (0, .ref 185)], [.int z], gSh, M2)) rfl ?_
    refine ok_if 71 rfl rfl ?_ ?_
    · intro hs
      simp only [pCP] at hs
      have hs : (z).toInt ≥ (0 : Int) := by omega
      have hz9 : 10 ≤ z.toInt ∧ z.toInt ≤ 15 ∧ tok.toInt ≠ 0 := by omega
      refine ok_seq 1 (σ' := (72, [(3, .int z), (2, .int (nI 0)), (1, .int (nI k)), (0, .ref 185)], [.ref 185], gSh, M2)) rfl ?_
      refine ok_call (mi := 180) (as := [.ref 185]) (pc' := 75) (L' := [(3, .int z), (2, .int (nI 0)), (1, .int (nI k)), (0, .ref 185)]) (st' := []) (sh' := gSh) (M' := M2) (i := .invokevirtual 189) (len := 3) rfl rfl ?_
      refine (((c_nextQ (d := 0) hT hq2.1.1.1 hC2 h12 hz9.2.2).deep (by omega))).mono ?_
      rintro v2 ⟨sh2, M3⟩ ⟨rfl, hsh, ⟨a3, hN3⟩, hC3⟩
      have hsh : sh2 = gSh := hsh
      subst hsh
      dsimp only at hN3 hC3
      have hq3 := hq2.next hN3
      refine ok_seq 1 (σ' := (76, [(3, .int z), (2, .int (nI 0)), (1, .int (nI k)), (0, .ref 185)], [.ref 185], gSh, M3)) rfl ?_
      refine ok_call (mi := 196) (as := [.ref 185]) (pc' := 79) (L' := [(3, .int z), (2, .int (nI 0)), (1, .int (nI k)), (0, .ref 185)]) (st' := []) (sh' := gSh) (M' := M3) (i := .invokevirtual 224) (len := 3) rfl rfl ?_
      refine ((c_sum0 (d := d) (v0 := D'.1) (pd := pd + k + 1) hT hH hg hq3 hC3 (Nat.le_refl _) (by omega))).mono ?_
      rintro v ⟨sh2, M4⟩ ⟨hsh, hor⟩
      have hsh : sh2 = gSh := hsh
      subst hsh
      dsimp only at hor
      rcases hor with ⟨rfl, w4, c4, D4, hq4, hC4, hv4, hD4, hw4, hc4⟩ | ⟨z5, rfl, hz5, hE⟩
      · refine ok_seq 2 (σ' := (81, [(2, .int (nI 0)), (3, .int z), (1, .int (nI k)), (0, .ref 185)], [.int (nI 0)], gSh, M4)) rfl ?_
        refine ok_if 86 rfl rfl (fun _ => ?_) (fun hz => absurd (by simp only [pCP]; rw [hI_int (a := 0) (by omega)]; omega) hz)
        have hc9 : c4 ≤ 300 := by obtain ⟨a9, t9, -, -, k3, k4, -⟩ := hC4; omega
        refine ok_seq 3 (σ' := (89, [(2, .int (nI 0)), (3, .int z), (1, .int (nI k)), (0, .ref 185)], [.int (Int32.ofInt 0), .int z, .ref 185], gSh, M4)) rfl ?_
        rw [cI_0]
        refine ok_call (mi := 186) (as := [.ref 185, .int z, .int (nI 0)]) (pc' := 92) (L' := [(2, .int (nI 0)), (3, .int z), (1, .int (nI k)), (0, .ref 185)]) (st' := []) (sh' := gSh) (M' := M4) (i := .invokevirtual 170) (len := 3) rfl rfl ?_
        refine ((c_emit0 (d := d + dN + 5) hT hq4 (D' := (D4.1 - 2, D4.2 + 1)) (o := z) (v := nI 0) (Or.inr (Or.inr (Or.inr (Or.inr (Or.inl ⟨hz9.1, hz9.2.1, by omega, rfl⟩))))) (by omega))).mono ?_
        rintro v ⟨sh2, M5⟩ ⟨rfl, hsh, hq5, hf5⟩
        have hsh : sh2 = gSh := hsh
        subst hsh
        dsimp only at hq5 hf5
        have h21 := hq5.1.2.2.1
        refine ok_seq 3 (σ' := (97, [(2, .int (nI 0)), (3, .int z), (1, .int (nI k)), (0, .ref 185)], [M5 185 21, .ref 185], gSh, M5)) rfl ?_
        rw [h21]
        refine ok_seq 2 (σ' := (99, [(2, .int (nI 0)), (3, .int z), (1, .int (nI k)), (0, .ref 185)], [.int ((nI k) - (nI k)), .ref 185], gSh, M5)) rfl ?_
        rw [hI_sub k k (by omega)]
        refine ok_put (q := 167) (ci := 12) (k := 21) (n := 47) (ty := .int) rfl rfl rfl rfl rfl rfl (fi_int _) ?_
        refine ok_seq 2 (σ' := (105, [(4, .int (Int32.ofInt 0)), (2, .int (nI 0)), (3, .int z), (1, .int (nI k)), (0, .ref 185)], [], gSh, pUp M5 185 21 (.int (nI (k - k))))) rfl ?_
        rw [cI_0]
        refine as_nots (d := d + dN + 5) (D2 := D.2) hT (by omega) hc9 hk k 0 (w4 + 1) (D4.1 - 2, D4.2 + 1) _ (by omega) ?_ ?_ (by show D4.2 + 1 = _; omega) (by omega)
        · exact hq5.fields (ptu hT hq5.1.1.1 14 rfl (sat_a _)) (fun o ho => pUp_ne ho) rfl rfl (by rw [pUp_self, Nat.sub_self]) (by decide)
        · exact PC.keep (hC4.keep (hf5.at 10 (by decide)) (hf5.at 12 (by decide))) rfl rfl
      · refine ok_seq 2 (σ' := (81, [(2, .int z5), (3, .int z), (1, .int (nI k)), (0, .ref 185)], [.int z5], gSh, M4)) rfl ?_
        refine ok_if 86 rfl rfl (fun hz => absurd hz (by simp only [pCP]; omega)) (fun _ => ?_)
        refine ok_seq 1 (σ' := (85, [(2, .int z5), (3, .int z), (1, .int (nI k)), (0, .ref 185)], [.int z5], gSh, M4)) rfl ?_
        exact ok_ret (i := .ireturn) (len := 1) rfl rfl ⟨some (.int z5), rfl, rfl, Or.inr ⟨z5, rfl, hz5, hE⟩⟩
    · intro hs
      simp only [pCP] at hs
      have hs : (z).toInt < (0 : Int) := by omega
      refine ok_seq 1 (σ' := (70, [(3, .int z), (2, .int (nI 0)), (1, .int (nI k)), (0, .ref 185)], [.int (Int32.ofInt 1)], gSh, M2)) rfl ?_
      rw [cI_1]
      exact ok_ret (i := .ireturn) (len := 1) rfl rfl ⟨some (.int (nI 1)), rfl, rfl, Or.inr ⟨nI 1, rfl, by decide, hq2.1.pe⟩⟩
  · refine ok_seq 2 (σ' := (55, [(2, .int z), (1, .int (nI k)), (0, .ref 185)], [.int z], gSh, M2)) rfl ?_
    refine ok_if 60 rfl rfl (fun hz => absurd hz (by simp only [pCP]; omega)) (fun _ => ?_)
    refine ok_seq 1 (σ' := (59, [(2, .int z), (1, .int (nI k)), (0, .ref 185)], [.int z], gSh, M2)) rfl ?_
    exact ok_ret (i := .ireturn) (len := 1) rfl rfl ⟨some (.int z), rfl, rfl, Or.inr ⟨z, rfl, hz, hE⟩⟩
theorem as_loop {S : pScr} {d dN s n i0 pd c0 w : Nat} {D : Nat × Nat} {τ : fT} {M0 : pMem} (hT : pT τ) (hH : PH τ S dN) (hg : gR M0) : ∀ (r c k : Nat) (M : pMem), 300 - c = r → c0 ≤ c → k ≤ 8 → PQ0 τ s n i0 D w k M0 M → PC c M → w + (pd + k) ≤ c → asK S (d + dN + 6) (fun r hp => hp.1 = gSh ∧ ((r = some (.int (nI 0)) ∧ ∃ (w' c' : Nat) (D' : Nat × Nat), PQ0 τ s n i0 D' w' 0 M0 hp.2 ∧ PC c' hp.2 ∧ D'.2 = D.2 + 1 ∧ w' + pd ≤ c' ∧ c0 ≤ c') ∨ (∃ z, r = some (.int z) ∧ z.toInt ≠ 0 ∧ PE τ s M0 hp.2))) (2, [(1, .int (nI k)), (0, .ref 185)], [], gSh, M) := by
  intro r
  induction r using Nat.strongRecOn with
  | _ r ih =>
  intro c k M hr hc0 hk hq hC hw
  obtain ⟨tok, h12, -⟩ := ty_int (pty hT hq.1.1.1 8 rfl rfl)
  have h21 := hq.1.2.2.1
  obtain ⟨zw, hzw⟩ := c_w3 (S := S) (d := 0) (M := M) (nI 110) (nI 111) (nI 116)
  obtain ⟨z, z1, z2, z3, z4⟩ := c_pure0 hH.2.2.1.1 hH.2.2.1.2 (vs := [.ref 185, .long zw]) ⟨r185, sat_l zw, trivial⟩ hq.1.1.1 (hq.1.gr hg) h12
  refine ok_seq 4 (σ' := (9, [(1, .int (nI k)), (0, .ref 185)], [.int ((Int8.ofInt 116).toInt32), .int ((Int8.ofInt 111).toInt32), .int ((Int8.ofInt 110).toInt32), .ref 185], gSh, M)) rfl ?_
  rw [(show (Int8.ofInt 110).toInt32 = nI 110 by decide), (show (Int8.ofInt 111).toInt32 = nI 111 by decide), (show (Int8.ofInt 116).toInt32 = nI 116 by decide)]
  refine ok_call (mi := 181) (as := [.int (nI 110), .int (nI 111), .int (nI 116)]) (pc' := 12) (L' := [(1, .int (nI k)), (0, .ref 185)]) (st' := [.ref 185]) (sh' := gSh) (M' := M) (i := .invokestatic 146) (len := 3) rfl rfl ?_
  refine ((hzw.deep (by omega))).mono ?_
  rintro v hp ⟨rfl, rfl⟩
  refine ok_call (mi := 185) (as := [.ref 185, .long zw]) (pc' := 15) (L' := [(1, .int (nI k)), (0, .ref 185)]) (st' := []) (sh' := gSh) (M' := M) (i := .invokevirtual 220) (len := 3) rfl rfl ?_
  refine ((z4.deep (by omega))).mono ?_
  rintro v hp ⟨rfl, rfl⟩
  refine ok_if 49 rfl rfl ?_ ?_
  · intro hz
    simp only [pCP] at hz
    have hz : (z).toInt = (0 : Int) := by omega
    exact as_sums hT hH hg hc0 hk hq hC hw
  · intro hz
    simp only [pCP] at hz
    have hz : (z).toInt ≠ (0 : Int) := by omega
    have ht := z3 (by omega)
    have hlt := hC.le h12 ht
    refine ok_seq 2 (σ' := (22, [(1, .int (nI k)), (0, .ref 185)], [M 185 21], gSh, M)) rfl ?_
    rw [h21]
    refine ok_seq 1 (σ' := (24, [(1, .int (nI k)), (0, .ref 185)], [.int ((Int8.ofInt 8).toInt32), .int (nI k)], gSh, M)) rfl ?_
    rw [(show (Int8.ofInt 8).toInt32 = nI 8 by decide)]
    refine ok_icmp 29 rfl rfl ?_ ?_
    · intro h8
      simp only [pCP] at h8
      rw [hI_int (a := k) (by omega), hI_int (a := 8) (by omega)] at h8
      have h8 : ((k : Nat) : Int) ≠ ((8 : Nat) : Int) := by omega
      refine ok_seq 3 (σ' := (34, [(1, .int (nI k)), (0, .ref 185)], [M 185 21, .ref 185], gSh, M)) rfl ?_
      rw [h21]
      refine ok_seq 2 (σ' := (36, [(1, .int (nI k)), (0, .ref 185)], [.int ((nI k) + (Int32.ofInt 1)), .ref 185], gSh, M)) rfl ?_
      rw [cI_1, hI_add k 1]
      refine ok_put (q := 167) (ci := 12) (k := 21) (n := 47) (ty := .int) rfl rfl rfl rfl rfl rfl (fi_int _) ?_
      refine ok_seq 2 (σ' := (43, [(1, .int ((nI k) + (Int32.ofInt 1))), (0, .ref 185)], [.ref 185], gSh, pUp M 185 21 (.int (nI (k + 1))))) rfl ?_
      rw [cI_1, hI_add k 1]
      have hq1 : PQ0 τ s n i0 D w (k + 1) M0 (pUp M 185 21 (.int (nI (k + 1)))) := hq.fields (ptu hT hq.1.1.1 14 rfl (sat_a _)) (fun o ho => pUp_ne ho) rfl rfl (pUp_self _ _ _ _) (by omega)
      refine ok_call (mi := 180) (as := [.ref 185]) (pc' := 46) (L' := [(1, .int (nI (k + 1))), (0, .ref 185)]) (st' := []) (sh' := gSh) (M' := pUp M 185 21 (.int (nI (k + 1)))) (i := .invokevirtual 189) (len := 3) rfl rfl ?_
      refine (((c_nextQ (d := 0) hT hq1.1.1.1 (hC.keep rfl rfl) h12 ht).deep (by omega))).mono ?_
      rintro v2 ⟨sh2, M3⟩ ⟨rfl, hsh, ⟨a3, hN3⟩, hC3⟩
      have hsh : sh2 = gSh := hsh
      subst hsh
      dsimp only at hN3 hC3
      refine ok_seq 1 (σ' := (2, [(1, .int (nI (k + 1))), (0, .ref 185)], [], gSh, M3)) rfl ?_
      exact ih (300 - (c + 1)) (by omega) (c + 1) (k + 1) M3 rfl (by omega) (by omega) (hq1.next hN3) hC3 (by omega)
    · intro h8
      simp only [pCP] at h8
      rw [hI_int (a := k) (by omega), hI_int (a := 8) (by omega)] at h8
      have h8 : ((k : Nat) : Int) = ((8 : Nat) : Int) := by omega
      refine ok_seq 1 (σ' := (28, [(1, .int (nI k)), (0, .ref 185)], [.int (Int32.ofInt 3)], gSh, M)) rfl ?_
      rw [cI_3]
      exact ok_ret (i := .ireturn) (len := 1) rfl rfl ⟨some (.int (nI 3)), rfl, rfl, Or.inr ⟨nI 3, rfl, by decide, hq.1.pe⟩⟩
theorem c_asks {S : pScr} {d dN s n i0 pd c0 w : Nat} {D : Nat × Nat} {τ : fT} {M0 M : pMem} (hT : pT τ) (hH : PH τ S dN) (hg : gR M0) (hq : PQ0 τ s n i0 D w 0 M0 M) (hC : PC c0 M) (hw : w + pd ≤ c0) : cOk S (d + dN + 7) 198 [.ref 185] (gSh, M) (fun r hp => hp.1 = gSh ∧ ((r = some (.int (nI 0)) ∧ ∃ (w' c' : Nat) (D' : Nat × Nat), PQ0 τ s n i0 D' w' 0 M0 hp.2 ∧ PC c' hp.2 ∧ D'.2 = D.2 + 1 ∧ w' + pd ≤ c' ∧ c0 ≤ c') ∨ (∃ z, r = some (.int z) ∧ z.toInt ≠ 0 ∧ PE τ s M0 hp.2))) := by
  refine c_of_ok (Nat.le_of_ble_eq_true rfl) ?_
  refine ok_seq 2 (σ' := (2, [(1, .int (Int32.ofInt 0)), (0, .ref 185)], [], gSh, M)) rfl ?_
  rw [cI_0]
  exact as_loop hT hH hg _ c0 0 M rfl (Nat.le_refl _) (by decide) hq hC hw
abbrev eiK (S : pScr) (d : Nat) (Q : Option Value → pHp → Prop) (σ : pSt) : Prop := pOk S 12 false 6 (pCode 199) d (fun i len τ' => ∃ v, pRet (some .int) i len τ'.2.2.1 = some v ∧ Q v (τ'.2.2.2.1, τ'.2.2.2.2)) σ
theorem ei_loop {S : pScr} {d dN s n i0 c0 : Nat} {τ : fT} {M0 : pMem} (hT : pT τ) (hH : PH τ S dN) (hg : gR M0) : ∀ (r c a o m w : Nat) (D : Nat × Nat) (M : pMem) (L : pLs), 300 - c = r → c0 ≤ c → a < 2 → o < 2 → m < 2 → PQ0 τ s n i0 D w 0 M0 M → PC c M → (m = 1 → a + o ≤ D.2) → (m = 0 → w ≤ c) → (m = 1 → w + (a + o) ≤ c) → (L = [(3, .int (nI m)), (2, .int (nI o)), (1, .int (nI a)), (0, .ref 185)] ∨ (∃ y5 y4 : Int32, L = [(3, .int (nI m)), (2, .int (nI o)), (5, .int y5), (1, .int (nI a)), (4, .int y4), (0, .ref 185)]) ∨ (∃ y5 y4 : Int32, L = [(3, .int (nI m)), (5, .int y5), (1, .int (nI a)), (4, .int y4), (2, .int (nI o)), (0, .ref 185)])) → eiK S (d + dN + 7) (fun r hp => hp.1 = gSh ∧ ((r = some (.int (nI 0)) ∧ ∃ (w' c' : Nat) (D' : Nat × Nat), PQ0 τ s n i0 D' w' 0 M0 hp.2 ∧ PC c' hp.2 ∧ w' ≤ c' ∧ c0 ≤ c') ∨ (∃ z, r = some (.int z) ∧ z.toInt ≠ 0 ∧ PE τ s M0 hp.2))) (6, L, [], gSh, M) := by
  intro r
  induction r using Nat.strongRecOn with
  | _ r ih =>
  intro c a o m w D M L hr hc0 ha ho hm hq hC hD hw0 hw1 hL
  have hE : m = 0 → ∀ L2 : pLs, eiK S (d + dN + 7) (fun r hp => hp.1 = gSh ∧ ((r = some (.int (nI 0)) ∧ ∃ (w' c' : Nat) (D' : Nat × Nat), PQ0 τ s n i0 D' w' 0 M0 hp.2 ∧ PC c' hp.2 ∧ w' ≤ c' ∧ c0 ≤ c') ∨ (∃ z, r = some (.int z) ∧ z.toInt ≠ 0 ∧ PE τ s M0 hp.2))) (119, L2, [], gSh, M) := by
    intro hz L2
    refine ok_seq 1 (σ' := (120, L2, [.int (Int32.ofInt 0)], gSh, M)) rfl ?_
    rw [cI_0]
    exact ok_ret (i := .ireturn) (len := 1) rfl rfl ⟨some (.int (nI 0)), rfl, rfl, Or.inl ⟨rfl, w, c, D, hq, hC, hw0 hz, hc0⟩⟩
  rcases hL with rfl | ⟨y5, y4, rfl⟩ | ⟨y5, y4, rfl⟩
  · refine ok_seq 1 (σ' := (7, [(3, .int (nI m)), (2, .int (nI o)), (1, .int (nI a)), (0, .ref 185)], [.int (nI m)], gSh, M)) rfl ?_
    refine ok_if 119 rfl rfl ?_ ?_
    · intro hm0
      simp only [pCP] at hm0
      rw [hI_int (a := m) (by omega)] at hm0
      have hm0 : ((m : Nat) : Int) = (0 : Int) := by omega
      exact hE (by omega) _
    · intro hm0
      simp only [pCP] at hm0
      rw [hI_int (a := m) (by omega)] at hm0
      have hm0 : ((m : Nat) : Int) ≠ (0 : Int) := by omega
      have hm1 : m = 1 := by omega
      have hD := hD hm1
      have hw1 := hw1 hm1
      refine ok_seq 1 (σ' := (11, [(3, .int (nI m)), (2, .int (nI o)), (1, .int (nI a)), (0, .ref 185)], [.ref 185], gSh, M)) rfl ?_
      refine ok_call (mi := 198) (as := [.ref 185]) (pc' := 14) (L' := [(3, .int (nI m)), (2, .int (nI o)), (1, .int (nI a)), (0, .ref 185)]) (st' := []) (sh' := gSh) (M' := M) (i := .invokevirtual 230) (len := 3) rfl rfl ?_
      refine ((c_asks (d := d) (pd := a + o) hT hH hg hq hC hw1)).mono ?_
      rintro v ⟨sh2, M2⟩ ⟨hsh, hor⟩
      have hsh : sh2 = gSh := hsh
      subst hsh
      dsimp only at hor
      rcases hor with ⟨rfl, w2, c2, D', hq2, hC2, hD2, hw2, hc2⟩ | ⟨zf, rfl, hzf, hF⟩
      · refine ok_seq 2 (σ' := (18, [(4, .int (nI 0)), (3, .int (nI m)), (2, .int (nI o)), (1, .int (nI a)), (0, .ref 185)], [.int (nI 0)], gSh, M2)) rfl ?_
        refine ok_if 24 rfl rfl (fun _ => ?_) (fun hz => absurd (by simp only [pCP]; rw [hI_int (a := 0) (by omega)]; omega) hz)
        refine ok_seq 1 (σ' := (25, [(4, .int (nI 0)), (3, .int (nI m)), (2, .int (nI o)), (1, .int (nI a)), (0, .ref 185)], [.int (nI a)], gSh, M2)) rfl ?_
        have hc9 : c2 ≤ 300 := by obtain ⟨a9, t9, -, -, k3, k4, -⟩ := hC2; omega
        refine ok_if 35 rfl rfl ?_ ?_
        · intro ha0
          simp only [pCP] at ha0
          rw [hI_int (a := a) (by omega)] at ha0
          have ha0 : ((a : Nat) : Int) = (0 : Int) := by omega
          have ea : a = 0 := by omega
          obtain ⟨tok, h12, -⟩ := ty_int (pty hT hq2.1.1.1 8 rfl rfl)
          obtain ⟨wd, h14⟩ := ptl hT hq2.1.1.1
          obtain ⟨zw, hzw⟩ := c_w3 (S := S) (d := 0) (M := M2) (nI 97) (nI 110) (nI 100)
          obtain ⟨z, z1, z2, z3, z4⟩ := c_pure0 hH.2.2.1.1 hH.2.2.1.2 (vs := [.ref 185, .long zw]) ⟨r185, sat_l zw, trivial⟩ hq2.1.1.1 (hq2.1.gr hg) h12
          obtain ⟨an, han, ean⟩ := ty_nat (x := []) (hi := 1) ⟨z, rfl, z1, z2⟩
          cases ean
          rw [hI_int (a := an) (by omega)] at z3
          refine ok_seq 4 (σ' := (42, [(4, .int (nI 0)), (3, .int (nI m)), (2, .int (nI o)), (1, .int (nI a)), (0, .ref 185)], [.int ((Int8.ofInt 100).toInt32), .int ((Int8.ofInt 110).toInt32), .int ((Int8.ofInt 97).toInt32), .ref 185], gSh, M2)) rfl ?_
          rw [(show (Int8.ofInt 97).toInt32 = nI 97 by decide), (show (Int8.ofInt 110).toInt32 = nI 110 by decide), (show (Int8.ofInt 100).toInt32 = nI 100 by decide)]
          refine ok_call (mi := 181) (as := [.int (nI 97), .int (nI 110), .int (nI 100)]) (pc' := 45) (L' := [(4, .int (nI 0)), (3, .int (nI m)), (2, .int (nI o)), (1, .int (nI a)), (0, .ref 185)]) (st' := [.ref 185]) (sh' := gSh) (M' := M2) (i := .invokestatic 146) (len := 3) rfl rfl ?_
          refine ((hzw.deep (by omega))).mono ?_
          rintro v hp ⟨rfl, rfl⟩
          refine ok_call (mi := 185) (as := [.ref 185, .long zw]) (pc' := 48) (L' := [(4, .int (nI 0)), (3, .int (nI m)), (2, .int (nI o)), (1, .int (nI a)), (0, .ref 185)]) (st' := []) (sh' := gSh) (M' := M2) (i := .invokevirtual 220) (len := 3) rfl rfl ?_
          refine ((z4.deep (by omega))).mono ?_
          rintro v hp ⟨rfl, rfl⟩
          refine ok_seq 3 (σ' := (53, [(1, .int (nI an)), (4, .int (nI 0)), (3, .int (nI m)), (2, .int (nI o)), (0, .ref 185)], [M2 185 12], gSh, M2)) rfl ?_
          rw [h12]
          refine ok_seq 1 (σ' := (54, [(1, .int (nI an)), (4, .int (nI 0)), (3, .int (nI m)), (2, .int (nI o)), (0, .ref 185)], [.int (Int32.ofInt 2), .int tok], gSh, M2)) rfl ?_
          rw [cI_2]
          refine ok_icmp 72 rfl rfl ?_ ?_
          · intro h2
            simp only [pCP] at h2
            rw [hI_int (a := 2) (by omega)] at h2
            have h2 : (tok).toInt ≠ ((2 : Nat) : Int) := by omega
            refine ok_seq 3 (σ' := (76, [(5, .int (Int32.ofInt 0)), (1, .int (nI an)), (4, .int (nI 0)), (3, .int (nI m)), (2, .int (nI o)), (0, .ref 185)], [.int (nI an)], gSh, M2)) rfl ?_
            rw [cI_0]
            refine ok_if 93 rfl rfl ?_ ?_
            · intro hn0
              simp only [pCP] at hn0
              rw [hI_int (a := an) (by omega)] at hn0
              have hn0 : ((an : Nat) : Int) ≠ (0 : Int) := by omega
              refine ok_seq 1 (σ' := (94, [(5, .int (nI 0)), (1, .int (nI an)), (4, .int (nI 0)), (3, .int (nI m)), (2, .int (nI o)), (0, .ref 185)], [.int (nI an)], gSh, M2)) rfl ?_
              refine ok_if 102 rfl rfl ?_ ?_
              · intro hq0
                simp only [pCP] at hq0
                rw [hI_int (a := an) (by omega)] at hq0
                have hq0 : ((an : Nat) : Int) ≠ (0 : Int) := by omega
                refine ok_seq 4 (σ' := (109, [(3, .int (Int32.ofInt 1)), (5, .int (nI 0)), (1, .int (nI an)), (4, .int (nI 0)), (2, .int (nI o)), (0, .ref 185)], [.int (Int32.ofInt 1)], gSh, M2)) rfl ?_
                rw [cI_1]
                refine ok_if 116 rfl rfl (fun hz => absurd hz (by simp only [pCP]; rw [hI_int (a := 1) (by omega)]; omega)) (fun _ => ?_)
                refine ok_seq 1 (σ' := (113, [(3, .int (nI 1)), (5, .int (nI 0)), (1, .int (nI an)), (4, .int (nI 0)), (2, .int (nI o)), (0, .ref 185)], [.ref 185], gSh, M2)) rfl ?_
                have ht : tok.toInt ≠ 0 := by first | exact z3 (by omega) | omega
                refine ok_call (mi := 180) (as := [.ref 185]) (pc' := 116) (L' := [(3, .int (nI 1)), (5, .int (nI 0)), (1, .int (nI an)), (4, .int (nI 0)), (2, .int (nI o)), (0, .ref 185)]) (st' := []) (sh' := gSh) (M' := M2) (i := .invokevirtual 189) (len := 3) rfl rfl ?_
                refine (((c_nextQ (d := 0) hT hq2.1.1.1 hC2 h12 ht).deep (by omega))).mono ?_
                rintro v2 ⟨sh2, M8⟩ ⟨rfl, hsh, ⟨a8, hN8⟩, hC8⟩
                have hsh : sh2 = gSh := hsh
                subst hsh
                dsimp only at hN8 hC8
                refine ok_seq 1 (σ' := (6, [(3, .int (nI 1)), (5, .int (nI 0)), (1, .int (nI an)), (4, .int (nI 0)), (2, .int (nI o)), (0, .ref 185)], [], gSh, M8)) rfl ?_
                have hlt := PC.le hC2 h12 ht
                exact ih (300 - (c2 + 1)) (by omega) (c2 + 1) an o 1 w2 D' M8 _ rfl (by omega) (by omega) (by omega) (by decide) (hq2.next hN8) hC8 (fun _ => by first | omega | (show _ ≤ (D').2; omega)) (fun hz => by omega) (fun _ => by omega) (Or.inr (Or.inr ⟨_, _, rfl⟩))
              · intro hq0
                simp only [pCP] at hq0
                rw [hI_int (a := an) (by omega)] at hq0
                have hq0 : ((an : Nat) : Int) = (0 : Int) := by omega
                refine ok_seq 1 (σ' := (99, [(5, .int (nI 0)), (1, .int (nI an)), (4, .int (nI 0)), (3, .int (nI m)), (2, .int (nI o)), (0, .ref 185)], [.int (nI 0)], gSh, M2)) rfl ?_
                refine ok_if 106 rfl rfl ?_ ?_
                · intro hb0
                  simp only [pCP] at hb0
                  rw [hI_int (a := 0) (by omega)] at hb0
                  have hb0 : ((0 : Nat) : Int) = (0 : Int) := by omega
                  refine ok_seq 3 (σ' := (109, [(3, .int (Int32.ofInt 0)), (5, .int (nI 0)), (1, .int (nI an)), (4, .int (nI 0)), (2, .int (nI o)), (0, .ref 185)], [.int (Int32.ofInt 0)], gSh, M2)) rfl ?_
                  rw [cI_0]
                  refine ok_if 116 rfl rfl (fun _ => ?_) (fun hz => absurd (by simp only [pCP]; rw [hI_int (a := 0) (by omega)]; omega) hz)
                  refine ok_seq 2 (σ' := (7, [(3, .int (nI 0)), (5, .int (nI 0)), (1, .int (nI an)), (4, .int (nI 0)), (2, .int (nI o)), (0, .ref 185)], [.int (nI 0)], gSh, M2)) rfl ?_
                  refine ok_if 119 rfl rfl (fun _ => ?_) (fun hz => absurd (by simp only [pCP]; rw [hI_int (a := 0) (by omega)]; omega) hz)
                  refine ok_seq 1 (σ' := (120, [(3, .int (nI 0)), (5, .int (nI 0)), (1, .int (nI an)), (4, .int (nI 0)), (2, .int (nI o)), (0, .ref 185)], [.int (Int32.ofInt 0)], gSh, M2)) rfl ?_
                  rw [cI_0]
                  exact ok_ret (i := .ireturn) (len := 1) rfl rfl ⟨some (.int (nI 0)), rfl, rfl, Or.inl ⟨rfl, w2, c2, D', hq2, hC2, by omega, by omega⟩⟩
                · intro hb0
                  simp only [pCP] at hb0
                  rw [hI_int (a := 0) (by omega)] at hb0
                  have hb0 : ((0 : Nat) : Int) ≠ (0 : Int) := by omega
                  refine ok_seq 4 (σ' := (109, [(3, .int (Int32.ofInt 1)), (5, .int (nI 0)), (1, .int (nI an)), (4, .int (nI 0)), (2, .int (nI o)), (0, .ref 185)], [.int (Int32.ofInt 1)], gSh, M2)) rfl ?_
                  rw [cI_1]
                  refine ok_if 116 rfl rfl (fun hz => absurd hz (by simp only [pCP]; rw [hI_int (a := 1) (by omega)]; omega)) (fun _ => ?_)
                  refine ok_seq 1 (σ' := (113, [(3, .int (nI 1)), (5, .int (nI 0)), (1, .int (nI an)), (4, .int (nI 0)), (2, .int (nI o)), (0, .ref 185)], [.ref 185], gSh, M2)) rfl ?_
                  have ht : tok.toInt ≠ 0 := by first | exact z3 (by omega) | omega
                  refine ok_call (mi := 180) (as := [.ref 185]) (pc' := 116) (L' := [(3, .int (nI 1)), (5, .int (nI 0)), (1, .int (nI an)), (4, .int (nI 0)), (2, .int (nI o)), (0, .ref 185)]) (st' := []) (sh' := gSh) (M' := M2) (i := .invokevirtual 189) (len := 3) rfl rfl ?_
                  refine (((c_nextQ (d := 0) hT hq2.1.1.1 hC2 h12 ht).deep (by omega))).mono ?_
                  rintro v2 ⟨sh2, M8⟩ ⟨rfl, hsh, ⟨a8, hN8⟩, hC8⟩
                  have hsh : sh2 = gSh := hsh
                  subst hsh
                  dsimp only at hN8 hC8
                  refine ok_seq 1 (σ' := (6, [(3, .int (nI 1)), (5, .int (nI 0)), (1, .int (nI an)), (4, .int (nI 0)), (2, .int (nI o)), (0, .ref 185)], [], gSh, M8)) rfl ?_
                  have hlt := PC.le hC2 h12 ht
                  exact ih (300 - (c2 + 1)) (by omega) (c2 + 1) an o 1 w2 D' M8 _ rfl (by omega) (by omega) (by omega) (by decide) (hq2.next hN8) hC8 (fun _ => by first | omega | (show _ ≤ (D').2; omega)) (fun hz => by omega) (fun _ => by omega) (Or.inr (Or.inr ⟨_, _, rfl⟩))
            · intro hn0
              simp only [pCP] at hn0
              rw [hI_int (a := an) (by omega)] at hn0
              have hn0 : ((an : Nat) : Int) = (0 : Int) := by omega
              refine ok_seq 1 (σ' := (80, [(5, .int (nI 0)), (1, .int (nI an)), (4, .int (nI 0)), (3, .int (nI m)), (2, .int (nI o)), (0, .ref 185)], [.int (nI o)], gSh, M2)) rfl ?_
              refine ok_if 90 rfl rfl ?_ ?_
              · intro ho0
                simp only [pCP] at ho0
                rw [hI_int (a := o) (by omega)] at ho0
                have ho0 : ((o : Nat) : Int) = (0 : Int) := by omega
                refine ok_seq 3 (σ' := (94, [(2, .int (nI 0)), (5, .int (nI 0)), (1, .int (nI an)), (4, .int (nI 0)), (3, .int (nI m)), (0, .ref 185)], [.int (nI an)], gSh, M2)) rfl ?_
                refine ok_if 102 rfl rfl ?_ ?_
                · intro hq0
                  simp only [pCP] at hq0
                  rw [hI_int (a := an) (by omega)] at hq0
                  have hq0 : ((an : Nat) : Int) ≠ (0 : Int) := by omega
                  refine ok_seq 4 (σ' := (109, [(3, .int (Int32.ofInt 1)), (2, .int (nI 0)), (5, .int (nI 0)), (1, .int (nI an)), (4, .int (nI 0)), (0, .ref 185)], [.int (Int32.ofInt 1)], gSh, M2)) rfl ?_
                  rw [cI_1]
                  refine ok_if 116 rfl rfl (fun hz => absurd hz (by simp only [pCP]; rw [hI_int (a := 1) (by omega)]; omega)) (fun _ => ?_)
                  refine ok_seq 1 (σ' := (113, [(3, .int (nI 1)), (2, .int (nI 0)), (5, .int (nI 0)), (1, .int (nI an)), (4, .int (nI 0)), (0, .ref 185)], [.ref 185], gSh, M2)) rfl ?_
                  have ht : tok.toInt ≠ 0 := by first | exact z3 (by omega) | omega
                  refine ok_call (mi := 180) (as := [.ref 185]) (pc' := 116) (L' := [(3, .int (nI 1)), (2, .int (nI 0)), (5, .int (nI 0)), (1, .int (nI an)), (4, .int (nI 0)), (0, .ref 185)]) (st' := []) (sh' := gSh) (M' := M2) (i := .invokevirtual 189) (len := 3) rfl rfl ?_
                  refine (((c_nextQ (d := 0) hT hq2.1.1.1 hC2 h12 ht).deep (by omega))).mono ?_
                  rintro v2 ⟨sh2, M8⟩ ⟨rfl, hsh, ⟨a8, hN8⟩, hC8⟩
                  have hsh : sh2 = gSh := hsh
                  subst hsh
                  dsimp only at hN8 hC8
                  refine ok_seq 1 (σ' := (6, [(3, .int (nI 1)), (2, .int (nI 0)), (5, .int (nI 0)), (1, .int (nI an)), (4, .int (nI 0)), (0, .ref 185)], [], gSh, M8)) rfl ?_
                  have hlt := PC.le hC2 h12 ht
                  exact ih (300 - (c2 + 1)) (by omega) (c2 + 1) an 0 1 w2 D' M8 _ rfl (by omega) (by omega) (by omega) (by decide) (hq2.next hN8) hC8 (fun _ => by first | omega | (show _ ≤ (D').2; omega)) (fun hz => by omega) (fun _ => by omega) (Or.inr (Or.inl ⟨_, _, rfl⟩))
                · intro hq0
                  simp only [pCP] at hq0
                  rw [hI_int (a := an) (by omega)] at hq0
                  have hq0 : ((an : Nat) : Int) = (0 : Int) := by omega
                  refine ok_seq 1 (σ' := (99, [(2, .int (nI 0)), (5, .int (nI 0)), (1, .int (nI an)), (4, .int (nI 0)), (3, .int (nI m)), (0, .ref 185)], [.int (nI 0)], gSh, M2)) rfl ?_
                  refine ok_if 106 rfl rfl ?_ ?_
                  · intro hb0
                    simp only [pCP] at hb0
                    rw [hI_int (a := 0) (by omega)] at hb0
                    have hb0 : ((0 : Nat) : Int) = (0 : Int) := by omega
                    refine ok_seq 3 (σ' := (109, [(3, .int (Int32.ofInt 0)), (2, .int (nI 0)), (5, .int (nI 0)), (1, .int (nI an)), (4, .int (nI 0)), (0, .ref 185)], [.int (Int32.ofInt 0)], gSh, M2)) rfl ?_
                    rw [cI_0]
                    refine ok_if 116 rfl rfl (fun _ => ?_) (fun hz => absurd (by simp only [pCP]; rw [hI_int (a := 0) (by omega)]; omega) hz)
                    refine ok_seq 2 (σ' := (7, [(3, .int (nI 0)), (2, .int (nI 0)), (5, .int (nI 0)), (1, .int (nI an)), (4, .int (nI 0)), (0, .ref 185)], [.int (nI 0)], gSh, M2)) rfl ?_
                    refine ok_if 119 rfl rfl (fun _ => ?_) (fun hz => absurd (by simp only [pCP]; rw [hI_int (a := 0) (by omega)]; omega) hz)
                    refine ok_seq 1 (σ' := (120, [(3, .int (nI 0)), (2, .int (nI 0)), (5, .int (nI 0)), (1, .int (nI an)), (4, .int (nI 0)), (0, .ref 185)], [.int (Int32.ofInt 0)], gSh, M2)) rfl ?_
                    rw [cI_0]
                    exact ok_ret (i := .ireturn) (len := 1) rfl rfl ⟨some (.int (nI 0)), rfl, rfl, Or.inl ⟨rfl, w2, c2, D', hq2, hC2, by omega, by omega⟩⟩
                  · intro hb0
                    simp only [pCP] at hb0
                    rw [hI_int (a := 0) (by omega)] at hb0
                    have hb0 : ((0 : Nat) : Int) ≠ (0 : Int) := by omega
                    refine ok_seq 4 (σ' := (109, [(3, .int (Int32.ofInt 1)), (2, .int (nI 0)), (5, .int (nI 0)), (1, .int (nI an)), (4, .int (nI 0)), (0, .ref 185)], [.int (Int32.ofInt 1)], gSh, M2)) rfl ?_
                    rw [cI_1]
                    refine ok_if 116 rfl rfl (fun hz => absurd hz (by simp only [pCP]; rw [hI_int (a := 1) (by omega)]; omega)) (fun _ => ?_)
                    refine ok_seq 1 (σ' := (113, [(3, .int (nI 1)), (2, .int (nI 0)), (5, .int (nI 0)), (1, .int (nI an)), (4, .int (nI 0)), (0, .ref 185)], [.ref 185], gSh, M2)) rfl ?_
                    have ht : tok.toInt ≠ 0 := by first | exact z3 (by omega) | omega
                    refine ok_call (mi := 180) (as := [.ref 185]) (pc' := 116) (L' := [(3, .int (nI 1)), (2, .int (nI 0)), (5, .int (nI 0)), (1, .int (nI an)), (4, .int (nI 0)), (0, .ref 185)]) (st' := []) (sh' := gSh) (M' := M2) (i := .invokevirtual 189) (len := 3) rfl rfl ?_
                    refine (((c_nextQ (d := 0) hT hq2.1.1.1 hC2 h12 ht).deep (by omega))).mono ?_
                    rintro v2 ⟨sh2, M8⟩ ⟨rfl, hsh, ⟨a8, hN8⟩, hC8⟩
                    have hsh : sh2 = gSh := hsh
                    subst hsh
                    dsimp only at hN8 hC8
                    refine ok_seq 1 (σ' := (6, [(3, .int (nI 1)), (2, .int (nI 0)), (5, .int (nI 0)), (1, .int (nI an)), (4, .int (nI 0)), (0, .ref 185)], [], gSh, M8)) rfl ?_
                    have hlt := PC.le hC2 h12 ht
                    exact ih (300 - (c2 + 1)) (by omega) (c2 + 1) an 0 1 w2 D' M8 _ rfl (by omega) (by omega) (by omega) (by decide) (hq2.next hN8) hC8 (fun _ => by first | omega | (show _ ≤ (D').2; omega)) (fun hz => by omega) (fun _ => by omega) (Or.inr (Or.inl ⟨_, _, rfl⟩))
              · intro ho0
                simp only [pCP] at ho0
                rw [hI_int (a := o) (by omega)] at ho0
                have ho0 : ((o : Nat) : Int) ≠ (0 : Int) := by omega
                refine ok_seq 3 (σ' := (87, [(5, .int (nI 0)), (1, .int (nI an)), (4, .int (nI 0)), (3, .int (nI m)), (2, .int (nI o)), (0, .ref 185)], [.int (Int32.ofInt 0), .int ((Int8.ofInt 22).toInt32), .ref 185], gSh, M2)) rfl ?_
                rw [(show (Int8.ofInt 22).toInt32 = nI 22 by decide), cI_0]
                refine ok_call (mi := 186) (as := [.ref 185, .int (nI 22), .int (nI 0)]) (pc' := 90) (L' := [(5, .int (nI 0)), (1, .int (nI an)), (4, .int (nI 0)), (3, .int (nI m)), (2, .int (nI o)), (0, .ref 185)]) (st' := []) (sh' := gSh) (M' := M2) (i := .invokevirtual 170) (len := 3) rfl rfl ?_
                refine ((c_emit0 (d := d + dN + 6) hT hq2 (D' := (D'.1, D'.2 - 1)) (o := nI 22) (v := nI 0) (Or.inr (Or.inr (Or.inr (Or.inr (Or.inr (Or.inr ⟨by decide, by decide, by omega, rfl⟩)))))) (by omega))).mono ?_
                rintro v ⟨sh2, M7⟩ ⟨rfl, hsh, hq7, hf7⟩
                have hsh : sh2 = gSh := hsh
                subst hsh
                dsimp only at hq7 hf7
                refine ok_seq 3 (σ' := (94, [(2, .int (nI 0)), (5, .int (nI 0)), (1, .int (nI an)), (4, .int (nI 0)), (3, .int (nI m)), (0, .ref 185)], [.int (nI an)], gSh, M7)) rfl ?_
                refine ok_if 102 rfl rfl ?_ ?_
                · intro hq0
                  simp only [pCP] at hq0
                  rw [hI_int (a := an) (by omega)] at hq0
                  have hq0 : ((an : Nat) : Int) ≠ (0 : Int) := by omega
                  refine ok_seq 4 (σ' := (109, [(3, .int (Int32.ofInt 1)), (2, .int (nI 0)), (5, .int (nI 0)), (1, .int (nI an)), (4, .int (nI 0)), (0, .ref 185)], [.int (Int32.ofInt 1)], gSh, M7)) rfl ?_
                  rw [cI_1]
                  refine ok_if 116 rfl rfl (fun hz => absurd hz (by simp only [pCP]; rw [hI_int (a := 1) (by omega)]; omega)) (fun _ => ?_)
                  refine ok_seq 1 (σ' := (113, [(3, .int (nI 1)), (2, .int (nI 0)), (5, .int (nI 0)), (1, .int (nI an)), (4, .int (nI 0)), (0, .ref 185)], [.ref 185], gSh, M7)) rfl ?_
                  have ht : tok.toInt ≠ 0 := by first | exact z3 (by omega) | omega
                  refine ok_call (mi := 180) (as := [.ref 185]) (pc' := 116) (L' := [(3, .int (nI 1)), (2, .int (nI 0)), (5, .int (nI 0)), (1, .int (nI an)), (4, .int (nI 0)), (0, .ref 185)]) (st' := []) (sh' := gSh) (M' := M7) (i := .invokevirtual 189) (len := 3) rfl rfl ?_
                  refine (((c_nextQ (d := 0) hT hq7.1.1.1 (PC.keep hC2 (hf7.at 10 (by decide)) (hf7.at 12 (by decide))) (by rw [hf7.at 12 (by decide)]; exact h12) ht).deep (by omega))).mono ?_
                  rintro v2 ⟨sh2, M8⟩ ⟨rfl, hsh, ⟨a8, hN8⟩, hC8⟩
                  have hsh : sh2 = gSh := hsh
                  subst hsh
                  dsimp only at hN8 hC8
                  refine ok_seq 1 (σ' := (6, [(3, .int (nI 1)), (2, .int (nI 0)), (5, .int (nI 0)), (1, .int (nI an)), (4, .int (nI 0)), (0, .ref 185)], [], gSh, M8)) rfl ?_
                  have hlt := PC.le (PC.keep hC2 (hf7.at 10 (by decide)) (hf7.at 12 (by decide))) (by rw [hf7.at 12 (by decide)]; exact h12) ht
                  exact ih (300 - (c2 + 1)) (by omega) (c2 + 1) an 0 1 (w2 + 1) (D'.1, D'.2 - 1) M8 _ rfl (by omega) (by omega) (by omega) (by decide) (hq7.next hN8) hC8 (fun _ => by first | omega | (show _ ≤ ((D'.1, D'.2 - 1)).2; omega)) (fun hz => by omega) (fun _ => by omega) (Or.inr (Or.inl ⟨_, _, rfl⟩))
                · intro hq0
                  simp only [pCP] at hq0
                  rw [hI_int (a := an) (by omega)] at hq0
                  have hq0 : ((an : Nat) : Int) = (0 : Int) := by omega
                  refine ok_seq 1 (σ' := (99, [(2, .int (nI 0)), (5, .int (nI 0)), (1, .int (nI an)), (4, .int (nI 0)), (3, .int (nI m)), (0, .ref 185)], [.int (nI 0)], gSh, M7)) rfl ?_
                  refine ok_if 106 rfl rfl ?_ ?_
                  · intro hb0
                    simp only [pCP] at hb0
                    rw [hI_int (a := 0) (by omega)] at hb0
                    have hb0 : ((0 : Nat) : Int) = (0 : Int) := by omega
                    refine ok_seq 3 (σ' := (109, [(3, .int (Int32.ofInt 0)), (2, .int (nI 0)), (5, .int (nI 0)), (1, .int (nI an)), (4, .int (nI 0)), (0, .ref 185)], [.int (Int32.ofInt 0)], gSh, M7)) rfl ?_
                    rw [cI_0]
                    refine ok_if 116 rfl rfl (fun _ => ?_) (fun hz => absurd (by simp only [pCP]; rw [hI_int (a := 0) (by omega)]; omega) hz)
                    refine ok_seq 2 (σ' := (7, [(3, .int (nI 0)), (2, .int (nI 0)), (5, .int (nI 0)), (1, .int (nI an)), (4, .int (nI 0)), (0, .ref 185)], [.int (nI 0)], gSh, M7)) rfl ?_
                    refine ok_if 119 rfl rfl (fun _ => ?_) (fun hz => absurd (by simp only [pCP]; rw [hI_int (a := 0) (by omega)]; omega) hz)
                    refine ok_seq 1 (σ' := (120, [(3, .int (nI 0)), (2, .int (nI 0)), (5, .int (nI 0)), (1, .int (nI an)), (4, .int (nI 0)), (0, .ref 185)], [.int (Int32.ofInt 0)], gSh, M7)) rfl ?_
                    rw [cI_0]
                    exact ok_ret (i := .ireturn) (len := 1) rfl rfl ⟨some (.int (nI 0)), rfl, rfl, Or.inl ⟨rfl, (w2 + 1), c2, (D'.1, D'.2 - 1), hq7, (PC.keep hC2 (hf7.at 10 (by decide)) (hf7.at 12 (by decide))), by omega, by omega⟩⟩
                  · intro hb0
                    simp only [pCP] at hb0
                    rw [hI_int (a := 0) (by omega)] at hb0
                    have hb0 : ((0 : Nat) : Int) ≠ (0 : Int) := by omega
                    refine ok_seq 4 (σ' := (109, [(3, .int (Int32.ofInt 1)), (2, .int (nI 0)), (5, .int (nI 0)), (1, .int (nI an)), (4, .int (nI 0)), (0, .ref 185)], [.int (Int32.ofInt 1)], gSh, M7)) rfl ?_
                    rw [cI_1]
                    refine ok_if 116 rfl rfl (fun hz => absurd hz (by simp only [pCP]; rw [hI_int (a := 1) (by omega)]; omega)) (fun _ => ?_)
                    refine ok_seq 1 (σ' := (113, [(3, .int (nI 1)), (2, .int (nI 0)), (5, .int (nI 0)), (1, .int (nI an)), (4, .int (nI 0)), (0, .ref 185)], [.ref 185], gSh, M7)) rfl ?_
                    have ht : tok.toInt ≠ 0 := by first | exact z3 (by omega) | omega
                    refine ok_call (mi := 180) (as := [.ref 185]) (pc' := 116) (L' := [(3, .int (nI 1)), (2, .int (nI 0)), (5, .int (nI 0)), (1, .int (nI an)), (4, .int (nI 0)), (0, .ref 185)]) (st' := []) (sh' := gSh) (M' := M7) (i := .invokevirtual 189) (len := 3) rfl rfl ?_
                    refine (((c_nextQ (d := 0) hT hq7.1.1.1 (PC.keep hC2 (hf7.at 10 (by decide)) (hf7.at 12 (by decide))) (by rw [hf7.at 12 (by decide)]; exact h12) ht).deep (by omega))).mono ?_
                    rintro v2 ⟨sh2, M8⟩ ⟨rfl, hsh, ⟨a8, hN8⟩, hC8⟩
                    have hsh : sh2 = gSh := hsh
                    subst hsh
                    dsimp only at hN8 hC8
                    refine ok_seq 1 (σ' := (6, [(3, .int (nI 1)), (2, .int (nI 0)), (5, .int (nI 0)), (1, .int (nI an)), (4, .int (nI 0)), (0, .ref 185)], [], gSh, M8)) rfl ?_
                    have hlt := PC.le (PC.keep hC2 (hf7.at 10 (by decide)) (hf7.at 12 (by decide))) (by rw [hf7.at 12 (by decide)]; exact h12) ht
                    exact ih (300 - (c2 + 1)) (by omega) (c2 + 1) an 0 1 (w2 + 1) (D'.1, D'.2 - 1) M8 _ rfl (by omega) (by omega) (by omega) (by decide) (hq7.next hN8) hC8 (fun _ => by first | omega | (show _ ≤ ((D'.1, D'.2 - 1)).2; omega)) (fun hz => by omega) (fun _ => by omega) (Or.inr (Or.inl ⟨_, _, rfl⟩))
          · intro h2
            simp only [pCP] at h2
            rw [hI_int (a := 2) (by omega)] at h2
            have h2 : (tok).toInt = ((2 : Nat) : Int) := by omega
            refine ok_seq 2 (σ' := (61, [(1, .int (nI an)), (4, .int (nI 0)), (3, .int (nI m)), (2, .int (nI o)), (0, .ref 185)], [M2 185 14], gSh, M2)) rfl ?_
            rw [h14]
            refine ok_seq 2 (σ' := (65, [(1, .int (nI an)), (4, .int (nI 0)), (3, .int (nI m)), (2, .int (nI o)), (0, .ref 185)], [.int (lg_cmp wd ((28530 : Int64)))], gSh, M2)) rfl ?_
            refine ok_if 72 rfl rfl ?_ ?_
            · intro hw
              simp only [pCP] at hw
              have hw : (lg_cmp wd ((28530 : Int64))).toInt ≠ (0 : Int) := by omega
              refine ok_seq 3 (σ' := (76, [(5, .int (Int32.ofInt 0)), (1, .int (nI an)), (4, .int (nI 0)), (3, .int (nI m)), (2, .int (nI o)), (0, .ref 185)], [.int (nI an)], gSh, M2)) rfl ?_
              rw [cI_0]
              refine ok_if 93 rfl rfl ?_ ?_
              · intro hn0
                simp only [pCP] at hn0
                rw [hI_int (a := an) (by omega)] at hn0
                have hn0 : ((an : Nat) : Int) ≠ (0 : Int) := by omega
                refine ok_seq 1 (σ' := (94, [(5, .int (nI 0)), (1, .int (nI an)), (4, .int (nI 0)), (3, .int (nI m)), (2, .int (nI o)), (0, .ref 185)], [.int (nI an)], gSh, M2)) rfl ?_
                refine ok_if 102 rfl rfl ?_ ?_
                · intro hq0
                  simp only [pCP] at hq0
                  rw [hI_int (a := an) (by omega)] at hq0
                  have hq0 : ((an : Nat) : Int) ≠ (0 : Int) := by omega
                  refine ok_seq 4 (σ' := (109, [(3, .int (Int32.ofInt 1)), (5, .int (nI 0)), (1, .int (nI an)), (4, .int (nI 0)), (2, .int (nI o)), (0, .ref 185)], [.int (Int32.ofInt 1)], gSh, M2)) rfl ?_
                  rw [cI_1]
                  refine ok_if 116 rfl rfl (fun hz => absurd hz (by simp only [pCP]; rw [hI_int (a := 1) (by omega)]; omega)) (fun _ => ?_)
                  refine ok_seq 1 (σ' := (113, [(3, .int (nI 1)), (5, .int (nI 0)), (1, .int (nI an)), (4, .int (nI 0)), (2, .int (nI o)), (0, .ref 185)], [.ref 185], gSh, M2)) rfl ?_
                  have ht : tok.toInt ≠ 0 := by first | exact z3 (by omega) | omega
                  refine ok_call (mi := 180) (as := [.ref 185]) (pc' := 116) (L' := [(3, .int (nI 1)), (5, .int (nI 0)), (1, .int (nI an)), (4, .int (nI 0)), (2, .int (nI o)), (0, .ref 185)]) (st' := []) (sh' := gSh) (M' := M2) (i := .invokevirtual 189) (len := 3) rfl rfl ?_
                  refine (((c_nextQ (d := 0) hT hq2.1.1.1 hC2 h12 ht).deep (by omega))).mono ?_
                  rintro v2 ⟨sh2, M8⟩ ⟨rfl, hsh, ⟨a8, hN8⟩, hC8⟩
                  have hsh : sh2 = gSh := hsh
                  subst hsh
                  dsimp only at hN8 hC8
                  refine ok_seq 1 (σ' := (6, [(3, .int (nI 1)), (5, .int (nI 0)), (1, .int (nI an)), (4, .int (nI 0)), (2, .int (nI o)), (0, .ref 185)], [], gSh, M8)) rfl ?_
                  have hlt := PC.le hC2 h12 ht
                  exact ih (300 - (c2 + 1)) (by omega) (c2 + 1) an o 1 w2 D' M8 _ rfl (by omega) (by omega) (by omega) (by decide) (hq2.next hN8) hC8 (fun _ => by first | omega | (show _ ≤ (D').2; omega)) (fun hz => by omega) (fun _ => by omega) (Or.inr (Or.inr ⟨_, _, rfl⟩))
                · intro hq0
                  simp only [pCP] at hq0
                  rw [hI_int (a := an) (by omega)] at hq0
                  have hq0 : ((an : Nat) : Int) = (0 : Int) := by omega
                  refine ok_seq 1 (σ' := (99, [(5, .int (nI 0)), (1, .int (nI an)), (4, .int (nI 0)), (3, .int (nI m)), (2, .int (nI o)), (0, .ref 185)], [.int (nI 0)], gSh, M2)) rfl ?_
                  refine ok_if 106 rfl rfl ?_ ?_
                  · intro hb0
                    simp only [pCP] at hb0
                    rw [hI_int (a := 0) (by omega)] at hb0
                    have hb0 : ((0 : Nat) : Int) = (0 : Int) := by omega
                    refine ok_seq 3 (σ' := (109, [(3, .int (Int32.ofInt 0)), (5, .int (nI 0)), (1, .int (nI an)), (4, .int (nI 0)), (2, .int (nI o)), (0, .ref 185)], [.int (Int32.ofInt 0)], gSh, M2)) rfl ?_
                    rw [cI_0]
                    refine ok_if 116 rfl rfl (fun _ => ?_) (fun hz => absurd (by simp only [pCP]; rw [hI_int (a := 0) (by omega)]; omega) hz)
                    refine ok_seq 2 (σ' := (7, [(3, .int (nI 0)), (5, .int (nI 0)), (1, .int (nI an)), (4, .int (nI 0)), (2, .int (nI o)), (0, .ref 185)], [.int (nI 0)], gSh, M2)) rfl ?_
                    refine ok_if 119 rfl rfl (fun _ => ?_) (fun hz => absurd (by simp only [pCP]; rw [hI_int (a := 0) (by omega)]; omega) hz)
                    refine ok_seq 1 (σ' := (120, [(3, .int (nI 0)), (5, .int (nI 0)), (1, .int (nI an)), (4, .int (nI 0)), (2, .int (nI o)), (0, .ref 185)], [.int (Int32.ofInt 0)], gSh, M2)) rfl ?_
                    rw [cI_0]
                    exact ok_ret (i := .ireturn) (len := 1) rfl rfl ⟨some (.int (nI 0)), rfl, rfl, Or.inl ⟨rfl, w2, c2, D', hq2, hC2, by omega, by omega⟩⟩
                  · intro hb0
                    simp only [pCP] at hb0
                    rw [hI_int (a := 0) (by omega)] at hb0
                    have hb0 : ((0 : Nat) : Int) ≠ (0 : Int) := by omega
                    refine ok_seq 4 (σ' := (109, [(3, .int (Int32.ofInt 1)), (5, .int (nI 0)), (1, .int (nI an)), (4, .int (nI 0)), (2, .int (nI o)), (0, .ref 185)], [.int (Int32.ofInt 1)], gSh, M2)) rfl ?_
                    rw [cI_1]
                    refine ok_if 116 rfl rfl (fun hz => absurd hz (by simp only [pCP]; rw [hI_int (a := 1) (by omega)]; omega)) (fun _ => ?_)
                    refine ok_seq 1 (σ' := (113, [(3, .int (nI 1)), (5, .int (nI 0)), (1, .int (nI an)), (4, .int (nI 0)), (2, .int (nI o)), (0, .ref 185)], [.ref 185], gSh, M2)) rfl ?_
                    have ht : tok.toInt ≠ 0 := by first | exact z3 (by omega) | omega
                    refine ok_call (mi := 180) (as := [.ref 185]) (pc' := 116) (L' := [(3, .int (nI 1)), (5, .int (nI 0)), (1, .int (nI an)), (4, .int (nI 0)), (2, .int (nI o)), (0, .ref 185)]) (st' := []) (sh' := gSh) (M' := M2) (i := .invokevirtual 189) (len := 3) rfl rfl ?_
                    refine (((c_nextQ (d := 0) hT hq2.1.1.1 hC2 h12 ht).deep (by omega))).mono ?_
                    rintro v2 ⟨sh2, M8⟩ ⟨rfl, hsh, ⟨a8, hN8⟩, hC8⟩
                    have hsh : sh2 = gSh := hsh
                    subst hsh
                    dsimp only at hN8 hC8
                    refine ok_seq 1 (σ' := (6, [(3, .int (nI 1)), (5, .int (nI 0)), (1, .int (nI an)), (4, .int (nI 0)), (2, .int (nI o)), (0, .ref 185)], [], gSh, M8)) rfl ?_
                    have hlt := PC.le hC2 h12 ht
                    exact ih (300 - (c2 + 1)) (by omega) (c2 + 1) an o 1 w2 D' M8 _ rfl (by omega) (by omega) (by omega) (by decide) (hq2.next hN8) hC8 (fun _ => by first | omega | (show _ ≤ (D').2; omega)) (fun hz => by omega) (fun _ => by omega) (Or.inr (Or.inr ⟨_, _, rfl⟩))
              · intro hn0
                simp only [pCP] at hn0
                rw [hI_int (a := an) (by omega)] at hn0
                have hn0 : ((an : Nat) : Int) = (0 : Int) := by omega
                refine ok_seq 1 (σ' := (80, [(5, .int (nI 0)), (1, .int (nI an)), (4, .int (nI 0)), (3, .int (nI m)), (2, .int (nI o)), (0, .ref 185)], [.int (nI o)], gSh, M2)) rfl ?_
                refine ok_if 90 rfl rfl ?_ ?_
                · intro ho0
                  simp only [pCP] at ho0
                  rw [hI_int (a := o) (by omega)] at ho0
                  have ho0 : ((o : Nat) : Int) = (0 : Int) := by omega
                  refine ok_seq 3 (σ' := (94, [(2, .int (nI 0)), (5, .int (nI 0)), (1, .int (nI an)), (4, .int (nI 0)), (3, .int (nI m)), (0, .ref 185)], [.int (nI an)], gSh, M2)) rfl ?_
                  refine ok_if 102 rfl rfl ?_ ?_
                  · intro hq0
                    simp only [pCP] at hq0
                    rw [hI_int (a := an) (by omega)] at hq0
                    have hq0 : ((an : Nat) : Int) ≠ (0 : Int) := by omega
                    refine ok_seq 4 (σ' := (109, [(3, .int (Int32.ofInt 1)), (2, .int (nI 0)), (5, .int (nI 0)), (1, .int (nI an)), (4, .int (nI 0)), (0, .ref 185)], [.int (Int32.ofInt 1)], gSh, M2)) rfl ?_
                    rw [cI_1]
                    refine ok_if 116 rfl rfl (fun hz => absurd hz (by simp only [pCP]; rw [hI_int (a := 1) (by omega)]; omega)) (fun _ => ?_)
                    refine ok_seq 1 (σ' := (113, [(3, .int (nI 1)), (2, .int (nI 0)), (5, .int (nI 0)), (1, .int (nI an)), (4, .int (nI 0)), (0, .ref 185)], [.ref 185], gSh, M2)) rfl ?_
                    have ht : tok.toInt ≠ 0 := by first | exact z3 (by omega) | omega
                    refine ok_call (mi := 180) (as := [.ref 185]) (pc' := 116) (L' := [(3, .int (nI 1)), (2, .int (nI 0)), (5, .int (nI 0)), (1, .int (nI an)), (4, .int (nI 0)), (0, .ref 185)]) (st' := []) (sh' := gSh) (M' := M2) (i := .invokevirtual 189) (len := 3) rfl rfl ?_
                    refine (((c_nextQ (d := 0) hT hq2.1.1.1 hC2 h12 ht).deep (by omega))).mono ?_
                    rintro v2 ⟨sh2, M8⟩ ⟨rfl, hsh, ⟨a8, hN8⟩, hC8⟩
                    have hsh : sh2 = gSh := hsh
                    subst hsh
                    dsimp only at hN8 hC8
                    refine ok_seq 1 (σ' := (6, [(3, .int (nI 1)), (2, .int (nI 0)), (5, .int (nI 0)), (1, .int (nI an)), (4, .int (nI 0)), (0, .ref 185)], [], gSh, M8)) rfl ?_
                    have hlt := PC.le hC2 h12 ht
                    exact ih (300 - (c2 + 1)) (by omega) (c2 + 1) an 0 1 w2 D' M8 _ rfl (by omega) (by omega) (by omega) (by decide) (hq2.next hN8) hC8 (fun _ => by first | omega | (show _ ≤ (D').2; omega)) (fun hz => by omega) (fun _ => by omega) (Or.inr (Or.inl ⟨_, _, rfl⟩))
                  · intro hq0
                    simp only [pCP] at hq0
                    rw [hI_int (a := an) (by omega)] at hq0
                    have hq0 : ((an : Nat) : Int) = (0 : Int) := by omega
                    refine ok_seq 1 (σ' := (99, [(2, .int (nI 0)), (5, .int (nI 0)), (1, .int (nI an)), (4, .int (nI 0)), (3, .int (nI m)), (0, .ref 185)], [.int (nI 0)], gSh, M2)) rfl ?_
                    refine ok_if 106 rfl rfl ?_ ?_
                    · intro hb0
                      simp only [pCP] at hb0
                      rw [hI_int (a := 0) (by omega)] at hb0
                      have hb0 : ((0 : Nat) : Int) = (0 : Int) := by omega
                      refine ok_seq 3 (σ' := (109, [(3, .int (Int32.ofInt 0)), (2, .int (nI 0)), (5, .int (nI 0)), (1, .int (nI an)), (4, .int (nI 0)), (0, .ref 185)], [.int (Int32.ofInt 0)], gSh, M2)) rfl ?_
                      rw [cI_0]
                      refine ok_if 116 rfl rfl (fun _ => ?_) (fun hz => absurd (by simp only [pCP]; rw [hI_int (a := 0) (by omega)]; omega) hz)
                      refine ok_seq 2 (σ' := (7, [(3, .int (nI 0)), (2, .int (nI 0)), (5, .int (nI 0)), (1, .int (nI an)), (4, .int (nI 0)), (0, .ref 185)], [.int (nI 0)], gSh, M2)) rfl ?_
                      refine ok_if 119 rfl rfl (fun _ => ?_) (fun hz => absurd (by simp only [pCP]; rw [hI_int (a := 0) (by omega)]; omega) hz)
                      refine ok_seq 1 (σ' := (120, [(3, .int (nI 0)), (2, .int (nI 0)), (5, .int (nI 0)), (1, .int (nI an)), (4, .int (nI 0)), (0, .ref 185)], [.int (Int32.ofInt 0)], gSh, M2)) rfl ?_
                      rw [cI_0]
                      exact ok_ret (i := .ireturn) (len := 1) rfl rfl ⟨some (.int (nI 0)), rfl, rfl, Or.inl ⟨rfl, w2, c2, D', hq2, hC2, by omega, by omega⟩⟩
                    · intro hb0
                      simp only [pCP] at hb0
                      rw [hI_int (a := 0) (by omega)] at hb0
                      have hb0 : ((0 : Nat) : Int) ≠ (0 : Int) := by omega
                      refine ok_seq 4 (σ' := (109, [(3, .int (Int32.ofInt 1)), (2, .int (nI 0)), (5, .int (nI 0)), (1, .int (nI an)), (4, .int (nI 0)), (0, .ref 185)], [.int (Int32.ofInt 1)], gSh, M2)) rfl ?_
                      rw [cI_1]
                      refine ok_if 116 rfl rfl (fun hz => absurd hz (by simp only [pCP]; rw [hI_int (a := 1) (by omega)]; omega)) (fun _ => ?_)
                      refine ok_seq 1 (σ' := (113, [(3, .int (nI 1)), (2, .int (nI 0)), (5, .int (nI 0)), (1, .int (nI an)), (4, .int (nI 0)), (0, .ref 185)], [.ref 185], gSh, M2)) rfl ?_
                      have ht : tok.toInt ≠ 0 := by first | exact z3 (by omega) | omega
                      refine ok_call (mi := 180) (as := [.ref 185]) (pc' := 116) (L' := [(3, .int (nI 1)), (2, .int (nI 0)), (5, .int (nI 0)), (1, .int (nI an)), (4, .int (nI 0)), (0, .ref 185)]) (st' := []) (sh' := gSh) (M' := M2) (i := .invokevirtual 189) (len := 3) rfl rfl ?_
                      refine (((c_nextQ (d := 0) hT hq2.1.1.1 hC2 h12 ht).deep (by omega))).mono ?_
                      rintro v2 ⟨sh2, M8⟩ ⟨rfl, hsh, ⟨a8, hN8⟩, hC8⟩
                      have hsh : sh2 = gSh := hsh
                      subst hsh
                      dsimp only at hN8 hC8
                      refine ok_seq 1 (σ' := (6, [(3, .int (nI 1)), (2, .int (nI 0)), (5, .int (nI 0)), (1, .int (nI an)), (4, .int (nI 0)), (0, .ref 185)], [], gSh, M8)) rfl ?_
                      have hlt := PC.le hC2 h12 ht
                      exact ih (300 - (c2 + 1)) (by omega) (c2 + 1) an 0 1 w2 D' M8 _ rfl (by omega) (by omega) (by omega) (by decide) (hq2.next hN8) hC8 (fun _ => by first | omega | (show _ ≤ (D').2; omega)) (fun hz => by omega) (fun _ => by omega) (Or.inr (Or.inl ⟨_, _, rfl⟩))
                · intro ho0
                  simp only [pCP] at ho0
                  rw [hI_int (a := o) (by omega)] at ho0
                  have ho0 : ((o : Nat) : Int) ≠ (0 : Int) := by omega
                  refine ok_seq 3 (σ' := (87, [(5, .int (nI 0)), (1, .int (nI an)), (4, .int (nI 0)), (3, .int (nI m)), (2, .int (nI o)), (0, .ref 185)], [.int (Int32.ofInt 0), .int ((Int8.ofInt 22).toInt32), .ref 185], gSh, M2)) rfl ?_
                  rw [(show (Int8.ofInt 22).toInt32 = nI 22 by decide), cI_0]
                  refine ok_call (mi := 186) (as := [.ref 185, .int (nI 22), .int (nI 0)]) (pc' := 90) (L' := [(5, .int (nI 0)), (1, .int (nI an)), (4, .int (nI 0)), (3, .int (nI m)), (2, .int (nI o)), (0, .ref 185)]) (st' := []) (sh' := gSh) (M' := M2) (i := .invokevirtual 170) (len := 3) rfl rfl ?_
                  refine ((c_emit0 (d := d + dN + 6) hT hq2 (D' := (D'.1, D'.2 - 1)) (o := nI 22) (v := nI 0) (Or.inr (Or.inr (Or.inr (Or.inr (Or.inr (Or.inr ⟨by decide, by decide, by omega, rfl⟩)))))) (by omega))).mono ?_
                  rintro v ⟨sh2, M7⟩ ⟨rfl, hsh, hq7, hf7⟩
                  have hsh : sh2 = gSh := hsh
                  subst hsh
                  dsimp only at hq7 hf7
                  refine ok_seq 3 (σ' := (94, [(2, .int (nI 0)), (5, .int (nI 0)), (1, .int (nI an)), (4, .int (nI 0)), (3, .int (nI m)), (0, .ref 185)], [.int (nI an)], gSh, M7)) rfl ?_
                  refine ok_if 102 rfl rfl ?_ ?_
                  · intro hq0
                    simp only [pCP] at hq0
                    rw [hI_int (a := an) (by omega)] at hq0
                    have hq0 : ((an : Nat) : Int) ≠ (0 : Int) := by omega
                    refine ok_seq 4 (σ' := (109, [(3, .int (Int32.ofInt 1)), (2, .int (nI 0)), (5, .int (nI 0)), (1, .int (nI an)), (4, .int (nI 0)), (0, .ref 185)], [.int (Int32.ofInt 1)], gSh, M7)) rfl ?_
                    rw [cI_1]
                    refine ok_if 116 rfl rfl (fun hz => absurd hz (by simp only [pCP]; rw [hI_int (a := 1) (by omega)]; omega)) (fun _ => ?_)
                    refine ok_seq 1 (σ' := (113, [(3, .int (nI 1)), (2, .int (nI 0)), (5, .int (nI 0)), (1, .int (nI an)), (4, .int (nI 0)), (0, .ref 185)], [.ref 185], gSh, M7)) rfl ?_
                    have ht : tok.toInt ≠ 0 := by first | exact z3 (by omega) | omega
                    refine ok_call (mi := 180) (as := [.ref 185]) (pc' := 116) (L' := [(3, .int (nI 1)), (2, .int (nI 0)), (5, .int (nI 0)), (1, .int (nI an)), (4, .int (nI 0)), (0, .ref 185)]) (st' := []) (sh' := gSh) (M' := M7) (i := .invokevirtual 189) (len := 3) rfl rfl ?_
                    refine (((c_nextQ (d := 0) hT hq7.1.1.1 (PC.keep hC2 (hf7.at 10 (by decide)) (hf7.at 12 (by decide))) (by rw [hf7.at 12 (by decide)]; exact h12) ht).deep (by omega))).mono ?_
                    rintro v2 ⟨sh2, M8⟩ ⟨rfl, hsh, ⟨a8, hN8⟩, hC8⟩
                    have hsh : sh2 = gSh := hsh
                    subst hsh
                    dsimp only at hN8 hC8
                    refine ok_seq 1 (σ' := (6, [(3, .int (nI 1)), (2, .int (nI 0)), (5, .int (nI 0)), (1, .int (nI an)), (4, .int (nI 0)), (0, .ref 185)], [], gSh, M8)) rfl ?_
                    have hlt := PC.le (PC.keep hC2 (hf7.at 10 (by decide)) (hf7.at 12 (by decide))) (by rw [hf7.at 12 (by decide)]; exact h12) ht
                    exact ih (300 - (c2 + 1)) (by omega) (c2 + 1) an 0 1 (w2 + 1) (D'.1, D'.2 - 1) M8 _ rfl (by omega) (by omega) (by omega) (by decide) (hq7.next hN8) hC8 (fun _ => by first | omega | (show _ ≤ ((D'.1, D'.2 - 1)).2; omega)) (fun hz => by omega) (fun _ => by omega) (Or.inr (Or.inl ⟨_, _, rfl⟩))
                  · intro hq0
                    simp only [pCP] at hq0
                    rw [hI_int (a := an) (by omega)] at hq0
                    have hq0 : ((an : Nat) : Int) = (0 : Int) := by omega
                    refine ok_seq 1 (σ' := (99, [(2, .int (nI 0)), (5, .int (nI 0)), (1, .int (nI an)), (4, .int (nI 0)), (3, .int (nI m)), (0, .ref 185)], [.int (nI 0)], gSh, M7)) rfl ?_
                    refine ok_if 106 rfl rfl ?_ ?_
                    · intro hb0
                      simp only [pCP] at hb0
                      rw [hI_int (a := 0) (by omega)] at hb0
                      have hb0 : ((0 : Nat) : Int) = (0 : Int) := by omega
                      refine ok_seq 3 (σ' := (109, [(3, .int (Int32.ofInt 0)), (2, .int (nI 0)), (5, .int (nI 0)), (1, .int (nI an)), (4, .int (nI 0)), (0, .ref 185)], [.int (Int32.ofInt 0)], gSh, M7)) rfl ?_
                      rw [cI_0]
                      refine ok_if 116 rfl rfl (fun _ => ?_) (fun hz => absurd (by simp only [pCP]; rw [hI_int (a := 0) (by omega)]; omega) hz)
                      refine ok_seq 2 (σ' := (7, [(3, .int (nI 0)), (2, .int (nI 0)), (5, .int (nI 0)), (1, .int (nI an)), (4, .int (nI 0)), (0, .ref 185)], [.int (nI 0)], gSh, M7)) rfl ?_
                      refine ok_if 119 rfl rfl (fun _ => ?_) (fun hz => absurd (by simp only [pCP]; rw [hI_int (a := 0) (by omega)]; omega) hz)
                      refine ok_seq 1 (σ' := (120, [(3, .int (nI 0)), (2, .int (nI 0)), (5, .int (nI 0)), (1, .int (nI an)), (4, .int (nI 0)), (0, .ref 185)], [.int (Int32.ofInt 0)], gSh, M7)) rfl ?_
                      rw [cI_0]
                      exact ok_ret (i := .ireturn) (len := 1) rfl rfl ⟨some (.int (nI 0)), rfl, rfl, Or.inl ⟨rfl, (w2 + 1), c2, (D'.1, D'.2 - 1), hq7, (PC.keep hC2 (hf7.at 10 (by decide)) (hf7.at 12 (by decide))), by omega, by omega⟩⟩
                    · intro hb0
                      simp only [pCP] at hb0
                      rw [hI_int (a := 0) (by omega)] at hb0
                      have hb0 : ((0 : Nat) : Int) ≠ (0 : Int) := by omega
                      refine ok_seq 4 (σ' := (109, [(3, .int (Int32.ofInt 1)), (2, .int (nI 0)), (5, .int (nI 0)), (1, .int (nI an)), (4, .int (nI 0)), (0, .ref 185)], [.int (Int32.ofInt 1)], gSh, M7)) rfl ?_
                      rw [cI_1]
                      refine ok_if 116 rfl rfl (fun hz => absurd hz (by simp only [pCP]; rw [hI_int (a := 1) (by omega)]; omega)) (fun _ => ?_)
                      refine ok_seq 1 (σ' := (113, [(3, .int (nI 1)), (2, .int (nI 0)), (5, .int (nI 0)), (1, .int (nI an)), (4, .int (nI 0)), (0, .ref 185)], [.ref 185], gSh, M7)) rfl ?_
                      have ht : tok.toInt ≠ 0 := by first | exact z3 (by omega) | omega
                      refine ok_call (mi := 180) (as := [.ref 185]) (pc' := 116) (L' := [(3, .int (nI 1)), (2, .int (nI 0)), (5, .int (nI 0)), (1, .int (nI an)), (4, .int (nI 0)), (0, .ref 185)]) (st' := []) (sh' := gSh) (M' := M7) (i := .invokevirtual 189) (len := 3) rfl rfl ?_
                      refine (((c_nextQ (d := 0) hT hq7.1.1.1 (PC.keep hC2 (hf7.at 10 (by decide)) (hf7.at 12 (by decide))) (by rw [hf7.at 12 (by decide)]; exact h12) ht).deep (by omega))).mono ?_
                      rintro v2 ⟨sh2, M8⟩ ⟨rfl, hsh, ⟨a8, hN8⟩, hC8⟩
                      have hsh : sh2 = gSh := hsh
                      subst hsh
                      dsimp only at hN8 hC8
                      refine ok_seq 1 (σ' := (6, [(3, .int (nI 1)), (2, .int (nI 0)), (5, .int (nI 0)), (1, .int (nI an)), (4, .int (nI 0)), (0, .ref 185)], [], gSh, M8)) rfl ?_
                      have hlt := PC.le (PC.keep hC2 (hf7.at 10 (by decide)) (hf7.at 12 (by decide))) (by rw [hf7.at 12 (by decide)]; exact h12) ht
                      exact ih (300 - (c2 + 1)) (by omega) (c2 + 1) an 0 1 (w2 + 1) (D'.1, D'.2 - 1) M8 _ rfl (by omega) (by omega) (by omega) (by decide) (hq7.next hN8) hC8 (fun _ => by first | omega | (show _ ≤ ((D'.1, D'.2 - 1)).2; omega)) (fun hz => by omega) (fun _ => by omega) (Or.inr (Or.inl ⟨_, _, rfl⟩))
            · intro hw
              simp only [pCP] at hw
              have hw : (lg_cmp wd ((28530 : Int64))).toInt = (0 : Int) := by omega
              refine ok_seq 4 (σ' := (76, [(5, .int (Int32.ofInt 1)), (1, .int (nI an)), (4, .int (nI 0)), (3, .int (nI m)), (2, .int (nI o)), (0, .ref 185)], [.int (nI an)], gSh, M2)) rfl ?_
              rw [cI_1]
              refine ok_if 93 rfl rfl ?_ ?_
              · intro hn0
                simp only [pCP] at hn0
                rw [hI_int (a := an) (by omega)] at hn0
                have hn0 : ((an : Nat) : Int) ≠ (0 : Int) := by omega
                refine ok_seq 1 (σ' := (94, [(5, .int (nI 1)), (1, .int (nI an)), (4, .int (nI 0)), (3, .int (nI m)), (2, .int (nI o)), (0, .ref 185)], [.int (nI an)], gSh, M2)) rfl ?_
                refine ok_if 102 rfl rfl ?_ ?_
                · intro hq0
                  simp only [pCP] at hq0
                  rw [hI_int (a := an) (by omega)] at hq0
                  have hq0 : ((an : Nat) : Int) ≠ (0 : Int) := by omega
                  refine ok_seq 4 (σ' := (109, [(3, .int (Int32.ofInt 1)), (5, .int (nI 1)), (1, .int (nI an)), (4, .int (nI 0)), (2, .int (nI o)), (0, .ref 185)], [.int (Int32.ofInt 1)], gSh, M2)) rfl ?_
                  rw [cI_1]
                  refine ok_if 116 rfl rfl (fun hz => absurd hz (by simp only [pCP]; rw [hI_int (a := 1) (by omega)]; omega)) (fun _ => ?_)
                  refine ok_seq 1 (σ' := (113, [(3, .int (nI 1)), (5, .int (nI 1)), (1, .int (nI an)), (4, .int (nI 0)), (2, .int (nI o)), (0, .ref 185)], [.ref 185], gSh, M2)) rfl ?_
                  have ht : tok.toInt ≠ 0 := by first | exact z3 (by omega) | omega
                  refine ok_call (mi := 180) (as := [.ref 185]) (pc' := 116) (L' := [(3, .int (nI 1)), (5, .int (nI 1)), (1, .int (nI an)), (4, .int (nI 0)), (2, .int (nI o)), (0, .ref 185)]) (st' := []) (sh' := gSh) (M' := M2) (i := .invokevirtual 189) (len := 3) rfl rfl ?_
                  refine (((c_nextQ (d := 0) hT hq2.1.1.1 hC2 h12 ht).deep (by omega))).mono ?_
                  rintro v2 ⟨sh2, M8⟩ ⟨rfl, hsh, ⟨a8, hN8⟩, hC8⟩
                  have hsh : sh2 = gSh := hsh
                  subst hsh
                  dsimp only at hN8 hC8
                  refine ok_seq 1 (σ' := (6, [(3, .int (nI 1)), (5, .int (nI 1)), (1, .int (nI an)), (4, .int (nI 0)), (2, .int (nI o)), (0, .ref 185)], [], gSh, M8)) rfl ?_
                  have hlt := PC.le hC2 h12 ht
                  exact ih (300 - (c2 + 1)) (by omega) (c2 + 1) an o 1 w2 D' M8 _ rfl (by omega) (by omega) (by omega) (by decide) (hq2.next hN8) hC8 (fun _ => by first | omega | (show _ ≤ (D').2; omega)) (fun hz => by omega) (fun _ => by omega) (Or.inr (Or.inr ⟨_, _, rfl⟩))
                · intro hq0
                  simp only [pCP] at hq0
                  rw [hI_int (a := an) (by omega)] at hq0
                  have hq0 : ((an : Nat) : Int) = (0 : Int) := by omega
                  refine ok_seq 1 (σ' := (99, [(5, .int (nI 1)), (1, .int (nI an)), (4, .int (nI 0)), (3, .int (nI m)), (2, .int (nI o)), (0, .ref 185)], [.int (nI 1)], gSh, M2)) rfl ?_
                  refine ok_if 106 rfl rfl ?_ ?_
                  · intro hb0
                    simp only [pCP] at hb0
                    rw [hI_int (a := 1) (by omega)] at hb0
                    have hb0 : ((1 : Nat) : Int) = (0 : Int) := by omega
                    refine ok_seq 3 (σ' := (109, [(3, .int (Int32.ofInt 0)), (5, .int (nI 1)), (1, .int (nI an)), (4, .int (nI 0)), (2, .int (nI o)), (0, .ref 185)], [.int (Int32.ofInt 0)], gSh, M2)) rfl ?_
                    rw [cI_0]
                    refine ok_if 116 rfl rfl (fun _ => ?_) (fun hz => absurd (by simp only [pCP]; rw [hI_int (a := 0) (by omega)]; omega) hz)
                    refine ok_seq 2 (σ' := (7, [(3, .int (nI 0)), (5, .int (nI 1)), (1, .int (nI an)), (4, .int (nI 0)), (2, .int (nI o)), (0, .ref 185)], [.int (nI 0)], gSh, M2)) rfl ?_
                    refine ok_if 119 rfl rfl (fun _ => ?_) (fun hz => absurd (by simp only [pCP]; rw [hI_int (a := 0) (by omega)]; omega) hz)
                    refine ok_seq 1 (σ' := (120, [(3, .int (nI 0)), (5, .int (nI 1)), (1, .int (nI an)), (4, .int (nI 0)), (2, .int (nI o)), (0, .ref 185)], [.int (Int32.ofInt 0)], gSh, M2)) rfl ?_
                    rw [cI_0]
                    exact ok_ret (i := .ireturn) (len := 1) rfl rfl ⟨some (.int (nI 0)), rfl, rfl, Or.inl ⟨rfl, w2, c2, D', hq2, hC2, by omega, by omega⟩⟩
                  · intro hb0
                    simp only [pCP] at hb0
                    rw [hI_int (a := 1) (by omega)] at hb0
                    have hb0 : ((1 : Nat) : Int) ≠ (0 : Int) := by omega
                    refine ok_seq 4 (σ' := (109, [(3, .int (Int32.ofInt 1)), (5, .int (nI 1)), (1, .int (nI an)), (4, .int (nI 0)), (2, .int (nI o)), (0, .ref 185)], [.int (Int32.ofInt 1)], gSh, M2)) rfl ?_
                    rw [cI_1]
                    refine ok_if 116 rfl rfl (fun hz => absurd hz (by simp only [pCP]; rw [hI_int (a := 1) (by omega)]; omega)) (fun _ => ?_)
                    refine ok_seq 1 (σ' := (113, [(3, .int (nI 1)), (5, .int (nI 1)), (1, .int (nI an)), (4, .int (nI 0)), (2, .int (nI o)), (0, .ref 185)], [.ref 185], gSh, M2)) rfl ?_
                    have ht : tok.toInt ≠ 0 := by first | exact z3 (by omega) | omega
                    refine ok_call (mi := 180) (as := [.ref 185]) (pc' := 116) (L' := [(3, .int (nI 1)), (5, .int (nI 1)), (1, .int (nI an)), (4, .int (nI 0)), (2, .int (nI o)), (0, .ref 185)]) (st' := []) (sh' := gSh) (M' := M2) (i := .invokevirtual 189) (len := 3) rfl rfl ?_
                    refine (((c_nextQ (d := 0) hT hq2.1.1.1 hC2 h12 ht).deep (by omega))).mono ?_
                    rintro v2 ⟨sh2, M8⟩ ⟨rfl, hsh, ⟨a8, hN8⟩, hC8⟩
                    have hsh : sh2 = gSh := hsh
                    subst hsh
                    dsimp only at hN8 hC8
                    refine ok_seq 1 (σ' := (6, [(3, .int (nI 1)), (5, .int (nI 1)), (1, .int (nI an)), (4, .int (nI 0)), (2, .int (nI o)), (0, .ref 185)], [], gSh, M8)) rfl ?_
                    have hlt := PC.le hC2 h12 ht
                    exact ih (300 - (c2 + 1)) (by omega) (c2 + 1) an o 1 w2 D' M8 _ rfl (by omega) (by omega) (by omega) (by decide) (hq2.next hN8) hC8 (fun _ => by first | omega | (show _ ≤ (D').2; omega)) (fun hz => by omega) (fun _ => by omega) (Or.inr (Or.inr ⟨_, _, rfl⟩))
              · intro hn0
                simp only [pCP] at hn0
                rw [hI_int (a := an) (by omega)] at hn0
                have hn0 : ((an : Nat) : Int) = (0 : Int) := by omega
                refine ok_seq 1 (σ' := (80, [(5, .int (nI 1)), (1, .int (nI an)), (4, .int (nI 0)), (3, .int (nI m)), (2, .int (nI o)), (0, .ref 185)], [.int (nI o)], gSh, M2)) rfl ?_
                refine ok_if 90 rfl rfl ?_ ?_
                · intro ho0
                  simp only [pCP] at ho0
                  rw [hI_int (a := o) (by omega)] at ho0
                  have ho0 : ((o : Nat) : Int) = (0 : Int) := by omega
                  refine ok_seq 3 (σ' := (94, [(2, .int (nI 1)), (5, .int (nI 1)), (1, .int (nI an)), (4, .int (nI 0)), (3, .int (nI m)), (0, .ref 185)], [.int (nI an)], gSh, M2)) rfl ?_
                  refine ok_if 102 rfl rfl ?_ ?_
                  · intro hq0
                    simp only [pCP] at hq0
                    rw [hI_int (a := an) (by omega)] at hq0
                    have hq0 : ((an : Nat) : Int) ≠ (0 : Int) := by omega
                    refine ok_seq 4 (σ' := (109, [(3, .int (Int32.ofInt 1)), (2, .int (nI 1)), (5, .int (nI 1)), (1, .int (nI an)), (4, .int (nI 0)), (0, .ref 185)], [.int (Int32.ofInt 1)], gSh, M2)) rfl ?_
                    rw [cI_1]
                    refine ok_if 116 rfl rfl (fun hz => absurd hz (by simp only [pCP]; rw [hI_int (a := 1) (by omega)]; omega)) (fun _ => ?_)
                    refine ok_seq 1 (σ' := (113, [(3, .int (nI 1)), (2, .int (nI 1)), (5, .int (nI 1)), (1, .int (nI an)), (4, .int (nI 0)), (0, .ref 185)], [.ref 185], gSh, M2)) rfl ?_
                    have ht : tok.toInt ≠ 0 := by first | exact z3 (by omega) | omega
                    refine ok_call (mi := 180) (as := [.ref 185]) (pc' := 116) (L' := [(3, .int (nI 1)), (2, .int (nI 1)), (5, .int (nI 1)), (1, .int (nI an)), (4, .int (nI 0)), (0, .ref 185)]) (st' := []) (sh' := gSh) (M' := M2) (i := .invokevirtual 189) (len := 3) rfl rfl ?_
                    refine (((c_nextQ (d := 0) hT hq2.1.1.1 hC2 h12 ht).deep (by omega))).mono ?_
                    rintro v2 ⟨sh2, M8⟩ ⟨rfl, hsh, ⟨a8, hN8⟩, hC8⟩
                    have hsh : sh2 = gSh := hsh
                    subst hsh
                    dsimp only at hN8 hC8
                    refine ok_seq 1 (σ' := (6, [(3, .int (nI 1)), (2, .int (nI 1)), (5, .int (nI 1)), (1, .int (nI an)), (4, .int (nI 0)), (0, .ref 185)], [], gSh, M8)) rfl ?_
                    have hlt := PC.le hC2 h12 ht
                    exact ih (300 - (c2 + 1)) (by omega) (c2 + 1) an 1 1 w2 D' M8 _ rfl (by omega) (by omega) (by omega) (by decide) (hq2.next hN8) hC8 (fun _ => by first | omega | (show _ ≤ (D').2; omega)) (fun hz => by omega) (fun _ => by omega) (Or.inr (Or.inl ⟨_, _, rfl⟩))
                  · intro hq0
                    simp only [pCP] at hq0
                    rw [hI_int (a := an) (by omega)] at hq0
                    have hq0 : ((an : Nat) : Int) = (0 : Int) := by omega
                    refine ok_seq 1 (σ' := (99, [(2, .int (nI 1)), (5, .int (nI 1)), (1, .int (nI an)), (4, .int (nI 0)), (3, .int (nI m)), (0, .ref 185)], [.int (nI 1)], gSh, M2)) rfl ?_
                    refine ok_if 106 rfl rfl ?_ ?_
                    · intro hb0
                      simp only [pCP] at hb0
                      rw [hI_int (a := 1) (by omega)] at hb0
                      have hb0 : ((1 : Nat) : Int) = (0 : Int) := by omega
                      refine ok_seq 3 (σ' := (109, [(3, .int (Int32.ofInt 0)), (2, .int (nI 1)), (5, .int (nI 1)), (1, .int (nI an)), (4, .int (nI 0)), (0, .ref 185)], [.int (Int32.ofInt 0)], gSh, M2)) rfl ?_
                      rw [cI_0]
                      refine ok_if 116 rfl rfl (fun _ => ?_) (fun hz => absurd (by simp only [pCP]; rw [hI_int (a := 0) (by omega)]; omega) hz)
                      refine ok_seq 2 (σ' := (7, [(3, .int (nI 0)), (2, .int (nI 1)), (5, .int (nI 1)), (1, .int (nI an)), (4, .int (nI 0)), (0, .ref 185)], [.int (nI 0)], gSh, M2)) rfl ?_
                      refine ok_if 119 rfl rfl (fun _ => ?_) (fun hz => absurd (by simp only [pCP]; rw [hI_int (a := 0) (by omega)]; omega) hz)
                      refine ok_seq 1 (σ' := (120, [(3, .int (nI 0)), (2, .int (nI 1)), (5, .int (nI 1)), (1, .int (nI an)), (4, .int (nI 0)), (0, .ref 185)], [.int (Int32.ofInt 0)], gSh, M2)) rfl ?_
                      rw [cI_0]
                      exact ok_ret (i := .ireturn) (len := 1) rfl rfl ⟨some (.int (nI 0)), rfl, rfl, Or.inl ⟨rfl, w2, c2, D', hq2, hC2, by omega, by omega⟩⟩
                    · intro hb0
                      simp only [pCP] at hb0
                      rw [hI_int (a := 1) (by omega)] at hb0
                      have hb0 : ((1 : Nat) : Int) ≠ (0 : Int) := by omega
                      refine ok_seq 4 (σ' := (109, [(3, .int (Int32.ofInt 1)), (2, .int (nI 1)), (5, .int (nI 1)), (1, .int (nI an)), (4, .int (nI 0)), (0, .ref 185)], [.int (Int32.ofInt 1)], gSh, M2)) rfl ?_
                      rw [cI_1]
                      refine ok_if 116 rfl rfl (fun hz => absurd hz (by simp only [pCP]; rw [hI_int (a := 1) (by omega)]; omega)) (fun _ => ?_)
                      refine ok_seq 1 (σ' := (113, [(3, .int (nI 1)), (2, .int (nI 1)), (5, .int (nI 1)), (1, .int (nI an)), (4, .int (nI 0)), (0, .ref 185)], [.ref 185], gSh, M2)) rfl ?_
                      have ht : tok.toInt ≠ 0 := by first | exact z3 (by omega) | omega
                      refine ok_call (mi := 180) (as := [.ref 185]) (pc' := 116) (L' := [(3, .int (nI 1)), (2, .int (nI 1)), (5, .int (nI 1)), (1, .int (nI an)), (4, .int (nI 0)), (0, .ref 185)]) (st' := []) (sh' := gSh) (M' := M2) (i := .invokevirtual 189) (len := 3) rfl rfl ?_
                      refine (((c_nextQ (d := 0) hT hq2.1.1.1 hC2 h12 ht).deep (by omega))).mono ?_
                      rintro v2 ⟨sh2, M8⟩ ⟨rfl, hsh, ⟨a8, hN8⟩, hC8⟩
                      have hsh : sh2 = gSh := hsh
                      subst hsh
                      dsimp only at hN8 hC8
                      refine ok_seq 1 (σ' := (6, [(3, .int (nI 1)), (2, .int (nI 1)), (5, .int (nI 1)), (1, .int (nI an)), (4, .int (nI 0)), (0, .ref 185)], [], gSh, M8)) rfl ?_
                      have hlt := PC.le hC2 h12 ht
                      exact ih (300 - (c2 + 1)) (by omega) (c2 + 1) an 1 1 w2 D' M8 _ rfl (by omega) (by omega) (by omega) (by decide) (hq2.next hN8) hC8 (fun _ => by first | omega | (show _ ≤ (D').2; omega)) (fun hz => by omega) (fun _ => by omega) (Or.inr (Or.inl ⟨_, _, rfl⟩))
                · intro ho0
                  simp only [pCP] at ho0
                  rw [hI_int (a := o) (by omega)] at ho0
                  have ho0 : ((o : Nat) : Int) ≠ (0 : Int) := by omega
                  refine ok_seq 3 (σ' := (87, [(5, .int (nI 1)), (1, .int (nI an)), (4, .int (nI 0)), (3, .int (nI m)), (2, .int (nI o)), (0, .ref 185)], [.int (Int32.ofInt 0), .int ((Int8.ofInt 22).toInt32), .ref 185], gSh, M2)) rfl ?_
                  rw [(show (Int8.ofInt 22).toInt32 = nI 22 by decide), cI_0]
                  refine ok_call (mi := 186) (as := [.ref 185, .int (nI 22), .int (nI 0)]) (pc' := 90) (L' := [(5, .int (nI 1)), (1, .int (nI an)), (4, .int (nI 0)), (3, .int (nI m)), (2, .int (nI o)), (0, .ref 185)]) (st' := []) (sh' := gSh) (M' := M2) (i := .invokevirtual 170) (len := 3) rfl rfl ?_
                  refine ((c_emit0 (d := d + dN + 6) hT hq2 (D' := (D'.1, D'.2 - 1)) (o := nI 22) (v := nI 0) (Or.inr (Or.inr (Or.inr (Or.inr (Or.inr (Or.inr ⟨by decide, by decide, by omega, rfl⟩)))))) (by omega))).mono ?_
                  rintro v ⟨sh2, M7⟩ ⟨rfl, hsh, hq7, hf7⟩
                  have hsh : sh2 = gSh := hsh
                  subst hsh
                  dsimp only at hq7 hf7
                  refine ok_seq 3 (σ' := (94, [(2, .int (nI 1)), (5, .int (nI 1)), (1, .int (nI an)), (4, .int (nI 0)), (3, .int (nI m)), (0, .ref 185)], [.int (nI an)], gSh, M7)) rfl ?_
                  refine ok_if 102 rfl rfl ?_ ?_
                  · intro hq0
                    simp only [pCP] at hq0
                    rw [hI_int (a := an) (by omega)] at hq0
                    have hq0 : ((an : Nat) : Int) ≠ (0 : Int) := by omega
                    refine ok_seq 4 (σ' := (109, [(3, .int (Int32.ofInt 1)), (2, .int (nI 1)), (5, .int (nI 1)), (1, .int (nI an)), (4, .int (nI 0)), (0, .ref 185)], [.int (Int32.ofInt 1)], gSh, M7)) rfl ?_
                    rw [cI_1]
                    refine ok_if 116 rfl rfl (fun hz => absurd hz (by simp only [pCP]; rw [hI_int (a := 1) (by omega)]; omega)) (fun _ => ?_)
                    refine ok_seq 1 (σ' := (113, [(3, .int (nI 1)), (2, .int (nI 1)), (5, .int (nI 1)), (1, .int (nI an)), (4, .int (nI 0)), (0, .ref 185)], [.ref 185], gSh, M7)) rfl ?_
                    have ht : tok.toInt ≠ 0 := by first | exact z3 (by omega) | omega
                    refine ok_call (mi := 180) (as := [.ref 185]) (pc' := 116) (L' := [(3, .int (nI 1)), (2, .int (nI 1)), (5, .int (nI 1)), (1, .int (nI an)), (4, .int (nI 0)), (0, .ref 185)]) (st' := []) (sh' := gSh) (M' := M7) (i := .invokevirtual 189) (len := 3) rfl rfl ?_
                    refine (((c_nextQ (d := 0) hT hq7.1.1.1 (PC.keep hC2 (hf7.at 10 (by decide)) (hf7.at 12 (by decide))) (by rw [hf7.at 12 (by decide)]; exact h12) ht).deep (by omega))).mono ?_
                    rintro v2 ⟨sh2, M8⟩ ⟨rfl, hsh, ⟨a8, hN8⟩, hC8⟩
                    have hsh : sh2 = gSh := hsh
                    subst hsh
                    dsimp only at hN8 hC8
                    refine ok_seq 1 (σ' := (6, [(3, .int (nI 1)), (2, .int (nI 1)), (5, .int (nI 1)), (1, .int (nI an)), (4, .int (nI 0)), (0, .ref 185)], [], gSh, M8)) rfl ?_
                    have hlt := PC.le (PC.keep hC2 (hf7.at 10 (by decide)) (hf7.at 12 (by decide))) (by rw [hf7.at 12 (by decide)]; exact h12) ht
                    exact ih (300 - (c2 + 1)) (by omega) (c2 + 1) an 1 1 (w2 + 1) (D'.1, D'.2 - 1) M8 _ rfl (by omega) (by omega) (by omega) (by decide) (hq7.next hN8) hC8 (fun _ => by first | omega | (show _ ≤ ((D'.1, D'.2 - 1)).2; omega)) (fun hz => by omega) (fun _ => by omega) (Or.inr (Or.inl ⟨_, _, rfl⟩))
                  · intro hq0
                    simp only [pCP] at hq0
                    rw [hI_int (a := an) (by omega)] at hq0
                    have hq0 : ((an : Nat) : Int) = (0 : Int) := by omega
                    refine ok_seq 1 (σ' := (99, [(2, .int (nI 1)), (5, .int (nI 1)), (1, .int (nI an)), (4, .int (nI 0)), (3, .int (nI m)), (0, .ref 185)], [.int (nI 1)], gSh, M7)) rfl ?_
                    refine ok_if 106 rfl rfl ?_ ?_
                    · intro hb0
                      simp only [pCP] at hb0
                      rw [hI_int (a := 1) (by omega)] at hb0
                      have hb0 : ((1 : Nat) : Int) = (0 : Int) := by omega
                      refine ok_seq 3 (σ' := (109, [(3, .int (Int32.ofInt 0)), (2, .int (nI 1)), (5, .int (nI 1)), (1, .int (nI an)), (4, .int (nI 0)), (0, .ref 185)], [.int (Int32.ofInt 0)], gSh, M7)) rfl ?_
                      rw [cI_0]
                      refine ok_if 116 rfl rfl (fun _ => ?_) (fun hz => absurd (by simp only [pCP]; rw [hI_int (a := 0) (by omega)]; omega) hz)
                      refine ok_seq 2 (σ' := (7, [(3, .int (nI 0)), (2, .int (nI 1)), (5, .int (nI 1)), (1, .int (nI an)), (4, .int (nI 0)), (0, .ref 185)], [.int (nI 0)], gSh, M7)) rfl ?_
                      refine ok_if 119 rfl rfl (fun _ => ?_) (fun hz => absurd (by simp only [pCP]; rw [hI_int (a := 0) (by omega)]; omega) hz)
                      refine ok_seq 1 (σ' := (120, [(3, .int (nI 0)), (2, .int (nI 1)), (5, .int (nI 1)), (1, .int (nI an)), (4, .int (nI 0)), (0, .ref 185)], [.int (Int32.ofInt 0)], gSh, M7)) rfl ?_
                      rw [cI_0]
                      exact ok_ret (i := .ireturn) (len := 1) rfl rfl ⟨some (.int (nI 0)), rfl, rfl, Or.inl ⟨rfl, (w2 + 1), c2, (D'.1, D'.2 - 1), hq7, (PC.keep hC2 (hf7.at 10 (by decide)) (hf7.at 12 (by decide))), by omega, by omega⟩⟩
                    · intro hb0
                      simp only [pCP] at hb0
                      rw [hI_int (a := 1) (by omega)] at hb0
                      have hb0 : ((1 : Nat) : Int) ≠ (0 : Int) := by omega
                      refine ok_seq 4 (σ' := (109, [(3, .int (Int32.ofInt 1)), (2, .int (nI 1)), (5, .int (nI 1)), (1, .int (nI an)), (4, .int (nI 0)), (0, .ref 185)], [.int (Int32.ofInt 1)], gSh, M7)) rfl ?_
                      rw [cI_1]
                      refine ok_if 116 rfl rfl (fun hz => absurd hz (by simp only [pCP]; rw [hI_int (a := 1) (by omega)]; omega)) (fun _ => ?_)
                      refine ok_seq 1 (σ' := (113, [(3, .int (nI 1)), (2, .int (nI 1)), (5, .int (nI 1)), (1, .int (nI an)), (4, .int (nI 0)), (0, .ref 185)], [.ref 185], gSh, M7)) rfl ?_
                      have ht : tok.toInt ≠ 0 := by first | exact z3 (by omega) | omega
                      refine ok_call (mi := 180) (as := [.ref 185]) (pc' := 116) (L' := [(3, .int (nI 1)), (2, .int (nI 1)), (5, .int (nI 1)), (1, .int (nI an)), (4, .int (nI 0)), (0, .ref 185)]) (st' := []) (sh' := gSh) (M' := M7) (i := .invokevirtual 189) (len := 3) rfl rfl ?_
                      refine (((c_nextQ (d := 0) hT hq7.1.1.1 (PC.keep hC2 (hf7.at 10 (by decide)) (hf7.at 12 (by decide))) (by rw [hf7.at 12 (by decide)]; exact h12) ht).deep (by omega))).mono ?_
                      rintro v2 ⟨sh2, M8⟩ ⟨rfl, hsh, ⟨a8, hN8⟩, hC8⟩
                      have hsh : sh2 = gSh := hsh
                      subst hsh
                      dsimp only at hN8 hC8
                      refine ok_seq 1 (σ' := (6, [(3, .int (nI 1)), (2, .int (nI 1)), (5, .int (nI 1)), (1, .int (nI an)), (4, .int (nI 0)), (0, .ref 185)], [], gSh, M8)) rfl ?_
                      have hlt := PC.le (PC.keep hC2 (hf7.at 10 (by decide)) (hf7.at 12 (by decide))) (by rw [hf7.at 12 (by decide)]; exact h12) ht
                      exact ih (300 - (c2 + 1)) (by omega) (c2 + 1) an 1 1 (w2 + 1) (D'.1, D'.2 - 1) M8 _ rfl (by omega) (by omega) (by omega) (by decide) (hq7.next hN8) hC8 (fun _ => by first | omega | (show _ ≤ ((D'.1, D'.2 - 1)).2; omega)) (fun hz => by omega) (fun _ => by omega) (Or.inr (Or.inl ⟨_, _, rfl⟩))
        · intro ha0
          simp only [pCP] at ha0
          rw [hI_int (a := a) (by omega)] at ha0
          have ha0 : ((a : Nat) : Int) ≠ (0 : Int) := by omega
          have ea : a = 1 := by omega
          refine ok_seq 3 (σ' := (32, [(4, .int (nI 0)), (3, .int (nI m)), (2, .int (nI o)), (1, .int (nI a)), (0, .ref 185)], [.int (Int32.ofInt 0), .int ((Int8.ofInt 21).toInt32), .ref 185], gSh, M2)) rfl ?_
          rw [(show (Int8.ofInt 21).toInt32 = nI 21 by decide), cI_0]
          refine ok_call (mi := 186) (as := [.ref 185, .int (nI 21), .int (nI 0)]) (pc' := 35) (L' := [(4, .int (nI 0)), (3, .int (nI m)), (2, .int (nI o)), (1, .int (nI a)), (0, .ref 185)]) (st' := []) (sh' := gSh) (M' := M2) (i := .invokevirtual 170) (len := 3) rfl rfl ?_
          refine ((c_emit0 (d := d + dN + 6) hT hq2 (D' := (D'.1, D'.2 - 1)) (o := nI 21) (v := nI 0) (Or.inr (Or.inr (Or.inr (Or.inr (Or.inr (Or.inr ⟨by decide, by decide, by omega, rfl⟩)))))) (by omega))).mono ?_
          rintro v ⟨sh2, M3⟩ ⟨rfl, hsh, hq3, hf3⟩
          have hsh : sh2 = gSh := hsh
          subst hsh
          dsimp only at hq3 hf3
          have hC3 := hC2.keep (hf3.at 10 (by decide)) (hf3.at 12 (by decide))
          obtain ⟨tok, h12, -⟩ := ty_int (pty hT hq3.1.1.1 8 rfl rfl)
          obtain ⟨wd, h14⟩ := ptl hT hq3.1.1.1
          obtain ⟨zw, hzw⟩ := c_w3 (S := S) (d := 0) (M := M3) (nI 97) (nI 110) (nI 100)
          obtain ⟨z, z1, z2, z3, z4⟩ := c_pure0 hH.2.2.1.1 hH.2.2.1.2 (vs := [.ref 185, .long zw]) ⟨r185, sat_l zw, trivial⟩ hq3.1.1.1 (hq3.1.gr hg) h12
          obtain ⟨an, han, ean⟩ := ty_nat (x := []) (hi := 1) ⟨z, rfl, z1, z2⟩
          cases ean
          rw [hI_int (a := an) (by omega)] at z3
          refine ok_seq 4 (σ' := (42, [(4, .int (nI 0)), (3, .int (nI m)), (2, .int (nI o)), (1, .int (nI a)), (0, .ref 185)], [.int ((Int8.ofInt 100).toInt32), .int ((Int8.ofInt 110).toInt32), .int ((Int8.ofInt 97).toInt32), .ref 185], gSh, M3)) rfl ?_
          rw [(show (Int8.ofInt 97).toInt32 = nI 97 by decide), (show (Int8.ofInt 110).toInt32 = nI 110 by decide), (show (Int8.ofInt 100).toInt32 = nI 100 by decide)]
          refine ok_call (mi := 181) (as := [.int (nI 97), .int (nI 110), .int (nI 100)]) (pc' := 45) (L' := [(4, .int (nI 0)), (3, .int (nI m)), (2, .int (nI o)), (1, .int (nI a)), (0, .ref 185)]) (st' := [.ref 185]) (sh' := gSh) (M' := M3) (i := .invokestatic 146) (len := 3) rfl rfl ?_
          refine ((hzw.deep (by omega))).mono ?_
          rintro v hp ⟨rfl, rfl⟩
          refine ok_call (mi := 185) (as := [.ref 185, .long zw]) (pc' := 48) (L' := [(4, .int (nI 0)), (3, .int (nI m)), (2, .int (nI o)), (1, .int (nI a)), (0, .ref 185)]) (st' := []) (sh' := gSh) (M' := M3) (i := .invokevirtual 220) (len := 3) rfl rfl ?_
          refine ((z4.deep (by omega))).mono ?_
          rintro v hp ⟨rfl, rfl⟩
          refine ok_seq 3 (σ' := (53, [(1, .int (nI an)), (4, .int (nI 0)), (3, .int (nI m)), (2, .int (nI o)), (0, .ref 185)], [M3 185 12], gSh, M3)) rfl ?_
          rw [h12]
          refine ok_seq 1 (σ' := (54, [(1, .int (nI an)), (4, .int (nI 0)), (3, .int (nI m)), (2, .int (nI o)), (0, .ref 185)], [.int (Int32.ofInt 2), .int tok], gSh, M3)) rfl ?_
          rw [cI_2]
          refine ok_icmp 72 rfl rfl ?_ ?_
          · intro h2
            simp only [pCP] at h2
            rw [hI_int (a := 2) (by omega)] at h2
            have h2 : (tok).toInt ≠ ((2 : Nat) : Int) := by omega
            refine ok_seq 3 (σ' := (76, [(5, .int (Int32.ofInt 0)), (1, .int (nI an)), (4, .int (nI 0)), (3, .int (nI m)), (2, .int (nI o)), (0, .ref 185)], [.int (nI an)], gSh, M3)) rfl ?_
            rw [cI_0]
            refine ok_if 93 rfl rfl ?_ ?_
            · intro hn0
              simp only [pCP] at hn0
              rw [hI_int (a := an) (by omega)] at hn0
              have hn0 : ((an : Nat) : Int) ≠ (0 : Int) := by omega
              refine ok_seq 1 (σ' := (94, [(5, .int (nI 0)), (1, .int (nI an)), (4, .int (nI 0)), (3, .int (nI m)), (2, .int (nI o)), (0, .ref 185)], [.int (nI an)], gSh, M3)) rfl ?_
              refine ok_if 102 rfl rfl ?_ ?_
              · intro hq0
                simp only [pCP] at hq0
                rw [hI_int (a := an) (by omega)] at hq0
                have hq0 : ((an : Nat) : Int) ≠ (0 : Int) := by omega
                refine ok_seq 4 (σ' := (109, [(3, .int (Int32.ofInt 1)), (5, .int (nI 0)), (1, .int (nI an)), (4, .int (nI 0)), (2, .int (nI o)), (0, .ref 185)], [.int (Int32.ofInt 1)], gSh, M3)) rfl ?_
                rw [cI_1]
                refine ok_if 116 rfl rfl (fun hz => absurd hz (by simp only [pCP]; rw [hI_int (a := 1) (by omega)]; omega)) (fun _ => ?_)
                refine ok_seq 1 (σ' := (113, [(3, .int (nI 1)), (5, .int (nI 0)), (1, .int (nI an)), (4, .int (nI 0)), (2, .int (nI o)), (0, .ref 185)], [.ref 185], gSh, M3)) rfl ?_
                have ht : tok.toInt ≠ 0 := by first | exact z3 (by omega) | omega
                refine ok_call (mi := 180) (as := [.ref 185]) (pc' := 116) (L' := [(3, .int (nI 1)), (5, .int (nI 0)), (1, .int (nI an)), (4, .int (nI 0)), (2, .int (nI o)), (0, .ref 185)]) (st' := []) (sh' := gSh) (M' := M3) (i := .invokevirtual 189) (len := 3) rfl rfl ?_
                refine (((c_nextQ (d := 0) hT hq3.1.1.1 hC3 h12 ht).deep (by omega))).mono ?_
                rintro v2 ⟨sh2, M8⟩ ⟨rfl, hsh, ⟨a8, hN8⟩, hC8⟩
                have hsh : sh2 = gSh := hsh
                subst hsh
                dsimp only at hN8 hC8
                refine ok_seq 1 (σ' := (6, [(3, .int (nI 1)), (5, .int (nI 0)), (1, .int (nI an)), (4, .int (nI 0)), (2, .int (nI o)), (0, .ref 185)], [], gSh, M8)) rfl ?_
                have hlt := PC.le hC3 h12 ht
                exact ih (300 - (c2 + 1)) (by omega) (c2 + 1) an o 1 (w2 + 1) (D'.1, D'.2 - 1) M8 _ rfl (by omega) (by omega) (by omega) (by decide) (hq3.next hN8) hC8 (fun _ => by first | omega | (show _ ≤ ((D'.1, D'.2 - 1)).2; omega)) (fun hz => by omega) (fun _ => by omega) (Or.inr (Or.inr ⟨_, _, rfl⟩))
              · intro hq0
                simp only [pCP] at hq0
                rw [hI_int (a := an) (by omega)] at hq0
                have hq0 : ((an : Nat) : Int) = (0 : Int) := by omega
                refine ok_seq 1 (σ' := (99, [(5, .int (nI 0)), (1, .int (nI an)), (4, .int (nI 0)), (3, .int (nI m)), (2, .int (nI o)), (0, .ref 185)], [.int (nI 0)], gSh, M3)) rfl ?_
                refine ok_if 106 rfl rfl ?_ ?_
                · intro hb0
                  simp only [pCP] at hb0
                  rw [hI_int (a := 0) (by omega)] at hb0
                  have hb0 : ((0 : Nat) : Int) = (0 : Int) := by omega
                  refine ok_seq 3 (σ' := (109, [(3, .int (Int32.ofInt 0)), (5, .int (nI 0)), (1, .int (nI an)), (4, .int (nI 0)), (2, .int (nI o)), (0, .ref 185)], [.int (Int32.ofInt 0)], gSh, M3)) rfl ?_
                  rw [cI_0]
                  refine ok_if 116 rfl rfl (fun _ => ?_) (fun hz => absurd (by simp only [pCP]; rw [hI_int (a := 0) (by omega)]; omega) hz)
                  refine ok_seq 2 (σ' := (7, [(3, .int (nI 0)), (5, .int (nI 0)), (1, .int (nI an)), (4, .int (nI 0)), (2, .int (nI o)), (0, .ref 185)], [.int (nI 0)], gSh, M3)) rfl ?_
                  refine ok_if 119 rfl rfl (fun _ => ?_) (fun hz => absurd (by simp only [pCP]; rw [hI_int (a := 0) (by omega)]; omega) hz)
                  refine ok_seq 1 (σ' := (120, [(3, .int (nI 0)), (5, .int (nI 0)), (1, .int (nI an)), (4, .int (nI 0)), (2, .int (nI o)), (0, .ref 185)], [.int (Int32.ofInt 0)], gSh, M3)) rfl ?_
                  rw [cI_0]
                  exact ok_ret (i := .ireturn) (len := 1) rfl rfl ⟨some (.int (nI 0)), rfl, rfl, Or.inl ⟨rfl, (w2 + 1), c2, (D'.1, D'.2 - 1), hq3, hC3, by omega, by omega⟩⟩
                · intro hb0
                  simp only [pCP] at hb0
                  rw [hI_int (a := 0) (by omega)] at hb0
                  have hb0 : ((0 : Nat) : Int) ≠ (0 : Int) := by omega
                  refine ok_seq 4 (σ' := (109, [(3, .int (Int32.ofInt 1)), (5, .int (nI 0)), (1, .int (nI an)), (4, .int (nI 0)), (2, .int (nI o)), (0, .ref 185)], [.int (Int32.ofInt 1)], gSh, M3)) rfl ?_
                  rw [cI_1]
                  refine ok_if 116 rfl rfl (fun hz => absurd hz (by simp only [pCP]; rw [hI_int (a := 1) (by omega)]; omega)) (fun _ => ?_)
                  refine ok_seq 1 (σ' := (113, [(3, .int (nI 1)), (5, .int (nI 0)), (1, .int (nI an)), (4, .int (nI 0)), (2, .int (nI o)), (0, .ref 185)], [.ref 185], gSh, M3)) rfl ?_
                  have ht : tok.toInt ≠ 0 := by first | exact z3 (by omega) | omega
                  refine ok_call (mi := 180) (as := [.ref 185]) (pc' := 116) (L' := [(3, .int (nI 1)), (5, .int (nI 0)), (1, .int (nI an)), (4, .int (nI 0)), (2, .int (nI o)), (0, .ref 185)]) (st' := []) (sh' := gSh) (M' := M3) (i := .invokevirtual 189) (len := 3) rfl rfl ?_
                  refine (((c_nextQ (d := 0) hT hq3.1.1.1 hC3 h12 ht).deep (by omega))).mono ?_
                  rintro v2 ⟨sh2, M8⟩ ⟨rfl, hsh, ⟨a8, hN8⟩, hC8⟩
                  have hsh : sh2 = gSh := hsh
                  subst hsh
                  dsimp only at hN8 hC8
                  refine ok_seq 1 (σ' := (6, [(3, .int (nI 1)), (5, .int (nI 0)), (1, .int (nI an)), (4, .int (nI 0)), (2, .int (nI o)), (0, .ref 185)], [], gSh, M8)) rfl ?_
                  have hlt := PC.le hC3 h12 ht
                  exact ih (300 - (c2 + 1)) (by omega) (c2 + 1) an o 1 (w2 + 1) (D'.1, D'.2 - 1) M8 _ rfl (by omega) (by omega) (by omega) (by decide) (hq3.next hN8) hC8 (fun _ => by first | omega | (show _ ≤ ((D'.1, D'.2 - 1)).2; omega)) (fun hz => by omega) (fun _ => by omega) (Or.inr (Or.inr ⟨_, _, rfl⟩))
            · intro hn0
              simp only [pCP] at hn0
              rw [hI_int (a := an) (by omega)] at hn0
              have hn0 : ((an : Nat) : Int) = (0 : Int) := by omega
              refine ok_seq 1 (σ' := (80, [(5, .int (nI 0)), (1, .int (nI an)), (4, .int (nI 0)), (3, .int (nI m)), (2, .int (nI o)), (0, .ref 185)], [.int (nI o)], gSh, M3)) rfl ?_
              refine ok_if 90 rfl rfl ?_ ?_
              · intro ho0
                simp only [pCP] at ho0
                rw [hI_int (a := o) (by omega)] at ho0
                have ho0 : ((o : Nat) : Int) = (0 : Int) := by omega
                refine ok_seq 3 (σ' := (94, [(2, .int (nI 0)), (5, .int (nI 0)), (1, .int (nI an)), (4, .int (nI 0)), (3, .int (nI m)), (0, .ref 185)], [.int (nI an)], gSh, M3)) rfl ?_
                refine ok_if 102 rfl rfl ?_ ?_
                · intro hq0
                  simp only [pCP] at hq0
                  rw [hI_int (a := an) (by omega)] at hq0
                  have hq0 : ((an : Nat) : Int) ≠ (0 : Int) := by omega
                  refine ok_seq 4 (σ' := (109, [(3, .int (Int32.ofInt 1)), (2, .int (nI 0)), (5, .int (nI 0)), (1, .int (nI an)), (4, .int (nI 0)), (0, .ref 185)], [.int (Int32.ofInt 1)], gSh, M3)) rfl ?_
                  rw [cI_1]
                  refine ok_if 116 rfl rfl (fun hz => absurd hz (by simp only [pCP]; rw [hI_int (a := 1) (by omega)]; omega)) (fun _ => ?_)
                  refine ok_seq 1 (σ' := (113, [(3, .int (nI 1)), (2, .int (nI 0)), (5, .int (nI 0)), (1, .int (nI an)), (4, .int (nI 0)), (0, .ref 185)], [.ref 185], gSh, M3)) rfl ?_
                  have ht : tok.toInt ≠ 0 := by first | exact z3 (by omega) | omega
                  refine ok_call (mi := 180) (as := [.ref 185]) (pc' := 116) (L' := [(3, .int (nI 1)), (2, .int (nI 0)), (5, .int (nI 0)), (1, .int (nI an)), (4, .int (nI 0)), (0, .ref 185)]) (st' := []) (sh' := gSh) (M' := M3) (i := .invokevirtual 189) (len := 3) rfl rfl ?_
                  refine (((c_nextQ (d := 0) hT hq3.1.1.1 hC3 h12 ht).deep (by omega))).mono ?_
                  rintro v2 ⟨sh2, M8⟩ ⟨rfl, hsh, ⟨a8, hN8⟩, hC8⟩
                  have hsh : sh2 = gSh := hsh
                  subst hsh
                  dsimp only at hN8 hC8
                  refine ok_seq 1 (σ' := (6, [(3, .int (nI 1)), (2, .int (nI 0)), (5, .int (nI 0)), (1, .int (nI an)), (4, .int (nI 0)), (0, .ref 185)], [], gSh, M8)) rfl ?_
                  have hlt := PC.le hC3 h12 ht
                  exact ih (300 - (c2 + 1)) (by omega) (c2 + 1) an 0 1 (w2 + 1) (D'.1, D'.2 - 1) M8 _ rfl (by omega) (by omega) (by omega) (by decide) (hq3.next hN8) hC8 (fun _ => by first | omega | (show _ ≤ ((D'.1, D'.2 - 1)).2; omega)) (fun hz => by omega) (fun _ => by omega) (Or.inr (Or.inl ⟨_, _, rfl⟩))
                · intro hq0
                  simp only [pCP] at hq0
                  rw [hI_int (a := an) (by omega)] at hq0
                  have hq0 : ((an : Nat) : Int) = (0 : Int) := by omega
                  refine ok_seq 1 (σ' := (99, [(2, .int (nI 0)), (5, .int (nI 0)), (1, .int (nI an)), (4, .int (nI 0)), (3, .int (nI m)), (0, .ref 185)], [.int (nI 0)], gSh, M3)) rfl ?_
                  refine ok_if 106 rfl rfl ?_ ?_
                  · intro hb0
                    simp only [pCP] at hb0
                    rw [hI_int (a := 0) (by omega)] at hb0
                    have hb0 : ((0 : Nat) : Int) = (0 : Int) := by omega
                    refine ok_seq 3 (σ' := (109, [(3, .int (Int32.ofInt 0)), (2, .int (nI 0)), (5, .int (nI 0)), (1, .int (nI an)), (4, .int (nI 0)), (0, .ref 185)], [.int (Int32.ofInt 0)], gSh, M3)) rfl ?_
                    rw [cI_0]
                    refine ok_if 116 rfl rfl (fun _ => ?_) (fun hz => absurd (by simp only [pCP]; rw [hI_int (a := 0) (by omega)]; omega) hz)
                    refine ok_seq 2 (σ' := (7, [(3, .int (nI 0)), (2, .int (nI 0)), (5, .int (nI 0)), (1, .int (nI an)), (4, .int (nI 0)), (0, .ref 185)], [.int (nI 0)], gSh, M3)) rfl ?_
                    refine ok_if 119 rfl rfl (fun _ => ?_) (fun hz => absurd (by simp only [pCP]; rw [hI_int (a := 0) (by omega)]; omega) hz)
                    refine ok_seq 1 (σ' := (120, [(3, .int (nI 0)), (2, .int (nI 0)), (5, .int (nI 0)), (1, .int (nI an)), (4, .int (nI 0)), (0, .ref 185)], [.int (Int32.ofInt 0)], gSh, M3)) rfl ?_
                    rw [cI_0]
                    exact ok_ret (i := .ireturn) (len := 1) rfl rfl ⟨some (.int (nI 0)), rfl, rfl, Or.inl ⟨rfl, (w2 + 1), c2, (D'.1, D'.2 - 1), hq3, hC3, by omega, by omega⟩⟩
                  · intro hb0
                    simp only [pCP] at hb0
                    rw [hI_int (a := 0) (by omega)] at hb0
                    have hb0 : ((0 : Nat) : Int) ≠ (0 : Int) := by omega
                    refine ok_seq 4 (σ' := (109, [(3, .int (Int32.ofInt 1)), (2, .int (nI 0)), (5, .int (nI 0)), (1, .int (nI an)), (4, .int (nI 0)), (0, .ref 185)], [.int (Int32.ofInt 1)], gSh, M3)) rfl ?_
                    rw [cI_1]
                    refine ok_if 116 rfl rfl (fun hz => absurd hz (by simp only [pCP]; rw [hI_int (a := 1) (by omega)]; omega)) (fun _ => ?_)
                    refine ok_seq 1 (σ' := (113, [(3, .int (nI 1)), (2, .int (nI 0)), (5, .int (nI 0)), (1, .int (nI an)), (4, .int (nI 0)), (0, .ref 185)], [.ref 185], gSh, M3)) rfl ?_
                    have ht : tok.toInt ≠ 0 := by first | exact z3 (by omega) | omega
                    refine ok_call (mi := 180) (as := [.ref 185]) (pc' := 116) (L' := [(3, .int (nI 1)), (2, .int (nI 0)), (5, .int (nI 0)), (1, .int (nI an)), (4, .int (nI 0)), (0, .ref 185)]) (st' := []) (sh' := gSh) (M' := M3) (i := .invokevirtual 189) (len := 3) rfl rfl ?_
                    refine (((c_nextQ (d := 0) hT hq3.1.1.1 hC3 h12 ht).deep (by omega))).mono ?_
                    rintro v2 ⟨sh2, M8⟩ ⟨rfl, hsh, ⟨a8, hN8⟩, hC8⟩
                    have hsh : sh2 = gSh := hsh
                    subst hsh
                    dsimp only at hN8 hC8
                    refine ok_seq 1 (σ' := (6, [(3, .int (nI 1)), (2, .int (nI 0)), (5, .int (nI 0)), (1, .int (nI an)), (4, .int (nI 0)), (0, .ref 185)], [], gSh, M8)) rfl ?_
                    have hlt := PC.le hC3 h12 ht
                    exact ih (300 - (c2 + 1)) (by omega) (c2 + 1) an 0 1 (w2 + 1) (D'.1, D'.2 - 1) M8 _ rfl (by omega) (by omega) (by omega) (by decide) (hq3.next hN8) hC8 (fun _ => by first | omega | (show _ ≤ ((D'.1, D'.2 - 1)).2; omega)) (fun hz => by omega) (fun _ => by omega) (Or.inr (Or.inl ⟨_, _, rfl⟩))
              · intro ho0
                simp only [pCP] at ho0
                rw [hI_int (a := o) (by omega)] at ho0
                have ho0 : ((o : Nat) : Int) ≠ (0 : Int) := by omega
                refine ok_seq 3 (σ' := (87, [(5, .int (nI 0)), (1, .int (nI an)), (4, .int (nI 0)), (3, .int (nI m)), (2, .int (nI o)), (0, .ref 185)], [.int (Int32.ofInt 0), .int ((Int8.ofInt 22).toInt32), .ref 185], gSh, M3)) rfl ?_
                rw [(show (Int8.ofInt 22).toInt32 = nI 22 by decide), cI_0]
                refine ok_call (mi := 186) (as := [.ref 185, .int (nI 22), .int (nI 0)]) (pc' := 90) (L' := [(5, .int (nI 0)), (1, .int (nI an)), (4, .int (nI 0)), (3, .int (nI m)), (2, .int (nI o)), (0, .ref 185)]) (st' := []) (sh' := gSh) (M' := M3) (i := .invokevirtual 170) (len := 3) rfl rfl ?_
                refine ((c_emit0 (d := d + dN + 6) hT hq3 (D' := ((D'.1, D'.2 - 1).1, (D'.1, D'.2 - 1).2 - 1)) (o := nI 22) (v := nI 0) (Or.inr (Or.inr (Or.inr (Or.inr (Or.inr (Or.inr ⟨by decide, by decide, by omega, rfl⟩)))))) (by omega))).mono ?_
                rintro v ⟨sh2, M7⟩ ⟨rfl, hsh, hq7, hf7⟩
                have hsh : sh2 = gSh := hsh
                subst hsh
                dsimp only at hq7 hf7
                refine ok_seq 3 (σ' := (94, [(2, .int (nI 0)), (5, .int (nI 0)), (1, .int (nI an)), (4, .int (nI 0)), (3, .int (nI m)), (0, .ref 185)], [.int (nI an)], gSh, M7)) rfl ?_
                refine ok_if 102 rfl rfl ?_ ?_
                · intro hq0
                  simp only [pCP] at hq0
                  rw [hI_int (a := an) (by omega)] at hq0
                  have hq0 : ((an : Nat) : Int) ≠ (0 : Int) := by omega
                  refine ok_seq 4 (σ' := (109, [(3, .int (Int32.ofInt 1)), (2, .int (nI 0)), (5, .int (nI 0)), (1, .int (nI an)), (4, .int (nI 0)), (0, .ref 185)], [.int (Int32.ofInt 1)], gSh, M7)) rfl ?_
                  rw [cI_1]
                  refine ok_if 116 rfl rfl (fun hz => absurd hz (by simp only [pCP]; rw [hI_int (a := 1) (by omega)]; omega)) (fun _ => ?_)
                  refine ok_seq 1 (σ' := (113, [(3, .int (nI 1)), (2, .int (nI 0)), (5, .int (nI 0)), (1, .int (nI an)), (4, .int (nI 0)), (0, .ref 185)], [.ref 185], gSh, M7)) rfl ?_
                  have ht : tok.toInt ≠ 0 := by first | exact z3 (by omega) | omega
                  refine ok_call (mi := 180) (as := [.ref 185]) (pc' := 116) (L' := [(3, .int (nI 1)), (2, .int (nI 0)), (5, .int (nI 0)), (1, .int (nI an)), (4, .int (nI 0)), (0, .ref 185)]) (st' := []) (sh' := gSh) (M' := M7) (i := .invokevirtual 189) (len := 3) rfl rfl ?_
                  refine (((c_nextQ (d := 0) hT hq7.1.1.1 (PC.keep hC3 (hf7.at 10 (by decide)) (hf7.at 12 (by decide))) (by rw [hf7.at 12 (by decide)]; exact h12) ht).deep (by omega))).mono ?_
                  rintro v2 ⟨sh2, M8⟩ ⟨rfl, hsh, ⟨a8, hN8⟩, hC8⟩
                  have hsh : sh2 = gSh := hsh
                  subst hsh
                  dsimp only at hN8 hC8
                  refine ok_seq 1 (σ' := (6, [(3, .int (nI 1)), (2, .int (nI 0)), (5, .int (nI 0)), (1, .int (nI an)), (4, .int (nI 0)), (0, .ref 185)], [], gSh, M8)) rfl ?_
                  have hlt := PC.le (PC.keep hC3 (hf7.at 10 (by decide)) (hf7.at 12 (by decide))) (by rw [hf7.at 12 (by decide)]; exact h12) ht
                  exact ih (300 - (c2 + 1)) (by omega) (c2 + 1) an 0 1 ((w2 + 1) + 1) ((D'.1, D'.2 - 1).1, (D'.1, D'.2 - 1).2 - 1) M8 _ rfl (by omega) (by omega) (by omega) (by decide) (hq7.next hN8) hC8 (fun _ => by first | omega | (show _ ≤ (((D'.1, D'.2 - 1).1, (D'.1, D'.2 - 1).2 - 1)).2; omega)) (fun hz => by omega) (fun _ => by omega) (Or.inr (Or.inl ⟨_, _, rfl⟩))
                · intro hq0
                  simp only [pCP] at hq0
                  rw [hI_int (a := an) (by omega)] at hq0
                  have hq0 : ((an : Nat) : Int) = (0 : Int) := by omega
                  refine ok_seq 1 (σ' := (99, [(2, .int (nI 0)), (5, .int (nI 0)), (1, .int (nI an)), (4, .int (nI 0)), (3, .int (nI m)), (0, .ref 185)], [.int (nI 0)], gSh, M7)) rfl ?_
                  refine ok_if 106 rfl rfl ?_ ?_
                  · intro hb0
                    simp only [pCP] at hb0
                    rw [hI_int (a := 0) (by omega)] at hb0
                    have hb0 : ((0 : Nat) : Int) = (0 : Int) := by omega
                    refine ok_seq 3 (σ' := (109, [(3, .int (Int32.ofInt 0)), (2, .int (nI 0)), (5, .int (nI 0)), (1, .int (nI an)), (4, .int (nI 0)), (0, .ref 185)], [.int (Int32.ofInt 0)], gSh, M7)) rfl ?_
                    rw [cI_0]
                    refine ok_if 116 rfl rfl (fun _ => ?_) (fun hz => absurd (by simp only [pCP]; rw [hI_int (a := 0) (by omega)]; omega) hz)
                    refine ok_seq 2 (σ' := (7, [(3, .int (nI 0)), (2, .int (nI 0)), (5, .int (nI 0)), (1, .int (nI an)), (4, .int (nI 0)), (0, .ref 185)], [.int (nI 0)], gSh, M7)) rfl ?_
                    refine ok_if 119 rfl rfl (fun _ => ?_) (fun hz => absurd (by simp only [pCP]; rw [hI_int (a := 0) (by omega)]; omega) hz)
                    refine ok_seq 1 (σ' := (120, [(3, .int (nI 0)), (2, .int (nI 0)), (5, .int (nI 0)), (1, .int (nI an)), (4, .int (nI 0)), (0, .ref 185)], [.int (Int32.ofInt 0)], gSh, M7)) rfl ?_
                    rw [cI_0]
                    exact ok_ret (i := .ireturn) (len := 1) rfl rfl ⟨some (.int (nI 0)), rfl, rfl, Or.inl ⟨rfl, ((w2 + 1) + 1), c2, ((D'.1, D'.2 - 1).1, (D'.1, D'.2 - 1).2 - 1), hq7, (PC.keep hC3 (hf7.at 10 (by decide)) (hf7.at 12 (by decide))), by omega, by omega⟩⟩
                  · intro hb0
                    simp only [pCP] at hb0
                    rw [hI_int (a := 0) (by omega)] at hb0
                    have hb0 : ((0 : Nat) : Int) ≠ (0 : Int) := by omega
                    refine ok_seq 4 (σ' := (109, [(3, .int (Int32.ofInt 1)), (2, .int (nI 0)), (5, .int (nI 0)), (1, .int (nI an)), (4, .int (nI 0)), (0, .ref 185)], [.int (Int32.ofInt 1)], gSh, M7)) rfl ?_
                    rw [cI_1]
                    refine ok_if 116 rfl rfl (fun hz => absurd hz (by simp only [pCP]; rw [hI_int (a := 1) (by omega)]; omega)) (fun _ => ?_)
                    refine ok_seq 1 (σ' := (113, [(3, .int (nI 1)), (2, .int (nI 0)), (5, .int (nI 0)), (1, .int (nI an)), (4, .int (nI 0)), (0, .ref 185)], [.ref 185], gSh, M7)) rfl ?_
                    have ht : tok.toInt ≠ 0 := by first | exact z3 (by omega) | omega
                    refine ok_call (mi := 180) (as := [.ref 185]) (pc' := 116) (L' := [(3, .int (nI 1)), (2, .int (nI 0)), (5, .int (nI 0)), (1, .int (nI an)), (4, .int (nI 0)), (0, .ref 185)]) (st' := []) (sh' := gSh) (M' := M7) (i := .invokevirtual 189) (len := 3) rfl rfl ?_
                    refine (((c_nextQ (d := 0) hT hq7.1.1.1 (PC.keep hC3 (hf7.at 10 (by decide)) (hf7.at 12 (by decide))) (by rw [hf7.at 12 (by decide)]; exact h12) ht).deep (by omega))).mono ?_
                    rintro v2 ⟨sh2, M8⟩ ⟨rfl, hsh, ⟨a8, hN8⟩, hC8⟩
                    have hsh : sh2 = gSh := hsh
                    subst hsh
                    dsimp only at hN8 hC8
                    refine ok_seq 1 (σ' := (6, [(3, .int (nI 1)), (2, .int (nI 0)), (5, .int (nI 0)), (1, .int (nI an)), (4, .int (nI 0)), (0, .ref 185)], [], gSh, M8)) rfl ?_
                    have hlt := PC.le (PC.keep hC3 (hf7.at 10 (by decide)) (hf7.at 12 (by decide))) (by rw [hf7.at 12 (by decide)]; exact h12) ht
                    exact ih (300 - (c2 + 1)) (by omega) (c2 + 1) an 0 1 ((w2 + 1) + 1) ((D'.1, D'.2 - 1).1, (D'.1, D'.2 - 1).2 - 1) M8 _ rfl (by omega) (by omega) (by omega) (by decide) (hq7.next hN8) hC8 (fun _ => by first | omega | (show _ ≤ (((D'.1, D'.2 - 1).1, (D'.1, D'.2 - 1).2 - 1)).2; omega)) (fun hz => by omega) (fun _ => by omega) (Or.inr (Or.inl ⟨_, _, rfl⟩))
          · intro h2
            simp only [pCP] at h2
            rw [hI_int (a := 2) (by omega)] at h2
            have h2 : (tok).toInt = ((2 : Nat) : Int) := by omega
            refine ok_seq 2 (σ' := (61, [(1, .int (nI an)), (4, .int (nI 0)), (3, .int (nI m)), (2, .int (nI o)), (0, .ref 185)], [M3 185 14], gSh, M3)) rfl ?_
            rw [h14]
            refine ok_seq 2 (σ' := (65, [(1, .int (nI an)), (4, .int (nI 0)), (3, .int (nI m)), (2, .int (nI o)), (0, .ref 185)], [.int (lg_cmp wd ((28530 : Int64)))], gSh, M3)) rfl ?_
            refine ok_if 72 rfl rfl ?_ ?_
            · intro hw
              simp only [pCP] at hw
              have hw : (lg_cmp wd ((28530 : Int64))).toInt ≠ (0 : Int) := by omega
              refine ok_seq 3 (σ' := (76, [(5, .int (Int32.ofInt 0)), (1, .int (nI an)), (4, .int (nI 0)), (3, .int (nI m)), (2, .int (nI o)), (0, .ref 185)], [.int (nI an)], gSh, M3)) rfl ?_
              rw [cI_0]
              refine ok_if 93 rfl rfl ?_ ?_
              · intro hn0
                simp only [pCP] at hn0
                rw [hI_int (a := an) (by omega)] at hn0
                have hn0 : ((an : Nat) : Int) ≠ (0 : Int) := by omega
                refine ok_seq 1 (σ' := (94, [(5, .int (nI 0)), (1, .int (nI an)), (4, .int (nI 0)), (3, .int (nI m)), (2, .int (nI o)), (0, .ref 185)], [.int (nI an)], gSh, M3)) rfl ?_
                refine ok_if 102 rfl rfl ?_ ?_
                · intro hq0
                  simp only [pCP] at hq0
                  rw [hI_int (a := an) (by omega)] at hq0
                  have hq0 : ((an : Nat) : Int) ≠ (0 : Int) := by omega
                  refine ok_seq 4 (σ' := (109, [(3, .int (Int32.ofInt 1)), (5, .int (nI 0)), (1, .int (nI an)), (4, .int (nI 0)), (2, .int (nI o)), (0, .ref 185)], [.int (Int32.ofInt 1)], gSh, M3)) rfl ?_
                  rw [cI_1]
                  refine ok_if 116 rfl rfl (fun hz => absurd hz (by simp only [pCP]; rw [hI_int (a := 1) (by omega)]; omega)) (fun _ => ?_)
                  refine ok_seq 1 (σ' := (113, [(3, .int (nI 1)), (5, .int (nI 0)), (1, .int (nI an)), (4, .int (nI 0)), (2, .int (nI o)), (0, .ref 185)], [.ref 185], gSh, M3)) rfl ?_
                  have ht : tok.toInt ≠ 0 := by first | exact z3 (by omega) | omega
                  refine ok_call (mi := 180) (as := [.ref 185]) (pc' := 116) (L' := [(3, .int (nI 1)), (5, .int (nI 0)), (1, .int (nI an)), (4, .int (nI 0)), (2, .int (nI o)), (0, .ref 185)]) (st' := []) (sh' := gSh) (M' := M3) (i := .invokevirtual 189) (len := 3) rfl rfl ?_
                  refine (((c_nextQ (d := 0) hT hq3.1.1.1 hC3 h12 ht).deep (by omega))).mono ?_
                  rintro v2 ⟨sh2, M8⟩ ⟨rfl, hsh, ⟨a8, hN8⟩, hC8⟩
                  have hsh : sh2 = gSh := hsh
                  subst hsh
                  dsimp only at hN8 hC8
                  refine ok_seq 1 (σ' := (6, [(3, .int (nI 1)), (5, .int (nI 0)), (1, .int (nI an)), (4, .int (nI 0)), (2, .int (nI o)), (0, .ref 185)], [], gSh, M8)) rfl ?_
                  have hlt := PC.le hC3 h12 ht
                  exact ih (300 - (c2 + 1)) (by omega) (c2 + 1) an o 1 (w2 + 1) (D'.1, D'.2 - 1) M8 _ rfl (by omega) (by omega) (by omega) (by decide) (hq3.next hN8) hC8 (fun _ => by first | omega | (show _ ≤ ((D'.1, D'.2 - 1)).2; omega)) (fun hz => by omega) (fun _ => by omega) (Or.inr (Or.inr ⟨_, _, rfl⟩))
                · intro hq0
                  simp only [pCP] at hq0
                  rw [hI_int (a := an) (by omega)] at hq0
                  have hq0 : ((an : Nat) : Int) = (0 : Int) := by omega
                  refine ok_seq 1 (σ' := (99, [(5, .int (nI 0)), (1, .int (nI an)), (4, .int (nI 0)), (3, .int (nI m)), (2, .int (nI o)), (0, .ref 185)], [.int (nI 0)], gSh, M3)) rfl ?_
                  refine ok_if 106 rfl rfl ?_ ?_
                  · intro hb0
                    simp only [pCP] at hb0
                    rw [hI_int (a := 0) (by omega)] at hb0
                    have hb0 : ((0 : Nat) : Int) = (0 : Int) := by omega
                    refine ok_seq 3 (σ' := (109, [(3, .int (Int32.ofInt 0)), (5, .int (nI 0)), (1, .int (nI an)), (4, .int (nI 0)), (2, .int (nI o)), (0, .ref 185)], [.int (Int32.ofInt 0)], gSh, M3)) rfl ?_
                    rw [cI_0]
                    refine ok_if 116 rfl rfl (fun _ => ?_) (fun hz => absurd (by simp only [pCP]; rw [hI_int (a := 0) (by omega)]; omega) hz)
                    refine ok_seq 2 (σ' := (7, [(3, .int (nI 0)), (5, .int (nI 0)), (1, .int (nI an)), (4, .int (nI 0)), (2, .int (nI o)), (0, .ref 185)], [.int (nI 0)], gSh, M3)) rfl ?_
                    refine ok_if 119 rfl rfl (fun _ => ?_) (fun hz => absurd (by simp only [pCP]; rw [hI_int (a := 0) (by omega)]; omega) hz)
                    refine ok_seq 1 (σ' := (120, [(3, .int (nI 0)), (5, .int (nI 0)), (1, .int (nI an)), (4, .int (nI 0)), (2, .int (nI o)), (0, .ref 185)], [.int (Int32.ofInt 0)], gSh, M3)) rfl ?_
                    rw [cI_0]
                    exact ok_ret (i := .ireturn) (len := 1) rfl rfl ⟨some (.int (nI 0)), rfl, rfl, Or.inl ⟨rfl, (w2 + 1), c2, (D'.1, D'.2 - 1), hq3, hC3, by omega, by omega⟩⟩
                  · intro hb0
                    simp only [pCP] at hb0
                    rw [hI_int (a := 0) (by omega)] at hb0
                    have hb0 : ((0 : Nat) : Int) ≠ (0 : Int) := by omega
                    refine ok_seq 4 (σ' := (109, [(3, .int (Int32.ofInt 1)), (5, .int (nI 0)), (1, .int (nI an)), (4, .int (nI 0)), (2, .int (nI o)), (0, .ref 185)], [.int (Int32.ofInt 1)], gSh, M3)) rfl ?_
                    rw [cI_1]
                    refine ok_if 116 rfl rfl (fun hz => absurd hz (by simp only [pCP]; rw [hI_int (a := 1) (by omega)]; omega)) (fun _ => ?_)
                    refine ok_seq 1 (σ' := (113, [(3, .int (nI 1)), (5, .int (nI 0)), (1, .int (nI an)), (4, .int (nI 0)), (2, .int (nI o)), (0, .ref 185)], [.ref 185], gSh, M3)) rfl ?_
                    have ht : tok.toInt ≠ 0 := by first | exact z3 (by omega) | omega
                    refine ok_call (mi := 180) (as := [.ref 185]) (pc' := 116) (L' := [(3, .int (nI 1)), (5, .int (nI 0)), (1, .int (nI an)), (4, .int (nI 0)), (2, .int (nI o)), (0, .ref 185)]) (st' := []) (sh' := gSh) (M' := M3) (i := .invokevirtual 189) (len := 3) rfl rfl ?_
                    refine (((c_nextQ (d := 0) hT hq3.1.1.1 hC3 h12 ht).deep (by omega))).mono ?_
                    rintro v2 ⟨sh2, M8⟩ ⟨rfl, hsh, ⟨a8, hN8⟩, hC8⟩
                    have hsh : sh2 = gSh := hsh
                    subst hsh
                    dsimp only at hN8 hC8
                    refine ok_seq 1 (σ' := (6, [(3, .int (nI 1)), (5, .int (nI 0)), (1, .int (nI an)), (4, .int (nI 0)), (2, .int (nI o)), (0, .ref 185)], [], gSh, M8)) rfl ?_
                    have hlt := PC.le hC3 h12 ht
                    exact ih (300 - (c2 + 1)) (by omega) (c2 + 1) an o 1 (w2 + 1) (D'.1, D'.2 - 1) M8 _ rfl (by omega) (by omega) (by omega) (by decide) (hq3.next hN8) hC8 (fun _ => by first | omega | (show _ ≤ ((D'.1, D'.2 - 1)).2; omega)) (fun hz => by omega) (fun _ => by omega) (Or.inr (Or.inr ⟨_, _, rfl⟩))
              · intro hn0
                simp only [pCP] at hn0
                rw [hI_int (a := an) (by omega)] at hn0
                have hn0 : ((an : Nat) : Int) = (0 : Int) := by omega
                refine ok_seq 1 (σ' := (80, [(5, .int (nI 0)), (1, .int (nI an)), (4, .int (nI 0)), (3, .int (nI m)), (2, .int (nI o)), (0, .ref 185)], [.int (nI o)], gSh, M3)) rfl ?_
                refine ok_if 90 rfl rfl ?_ ?_
                · intro ho0
                  simp only [pCP] at ho0
                  rw [hI_int (a := o) (by omega)] at ho0
                  have ho0 : ((o : Nat) : Int) = (0 : Int) := by omega
                  refine ok_seq 3 (σ' := (94, [(2, .int (nI 0)), (5, .int (nI 0)), (1, .int (nI an)), (4, .int (nI 0)), (3, .int (nI m)), (0, .ref 185)], [.int (nI an)], gSh, M3)) rfl ?_
                  refine ok_if 102 rfl rfl ?_ ?_
                  · intro hq0
                    simp only [pCP] at hq0
                    rw [hI_int (a := an) (by omega)] at hq0
                    have hq0 : ((an : Nat) : Int) ≠ (0 : Int) := by omega
                    refine ok_seq 4 (σ' := (109, [(3, .int (Int32.ofInt 1)), (2, .int (nI 0)), (5, .int (nI 0)), (1, .int (nI an)), (4, .int (nI 0)), (0, .ref 185)], [.int (Int32.ofInt 1)], gSh, M3)) rfl ?_
                    rw [cI_1]
                    refine ok_if 116 rfl rfl (fun hz => absurd hz (by simp only [pCP]; rw [hI_int (a := 1) (by omega)]; omega)) (fun _ => ?_)
                    refine ok_seq 1 (σ' := (113, [(3, .int (nI 1)), (2, .int (nI 0)), (5, .int (nI 0)), (1, .int (nI an)), (4, .int (nI 0)), (0, .ref 185)], [.ref 185], gSh, M3)) rfl ?_
                    have ht : tok.toInt ≠ 0 := by first | exact z3 (by omega) | omega
                    refine ok_call (mi := 180) (as := [.ref 185]) (pc' := 116) (L' := [(3, .int (nI 1)), (2, .int (nI 0)), (5, .int (nI 0)), (1, .int (nI an)), (4, .int (nI 0)), (0, .ref 185)]) (st' := []) (sh' := gSh) (M' := M3) (i := .invokevirtual 189) (len := 3) rfl rfl ?_
                    refine (((c_nextQ (d := 0) hT hq3.1.1.1 hC3 h12 ht).deep (by omega))).mono ?_
                    rintro v2 ⟨sh2, M8⟩ ⟨rfl, hsh, ⟨a8, hN8⟩, hC8⟩
                    have hsh : sh2 = gSh := hsh
                    subst hsh
                    dsimp only at hN8 hC8
                    refine ok_seq 1 (σ' := (6, [(3, .int (nI 1)), (2, .int (nI 0)), (5, .int (nI 0)), (1, .int (nI an)), (4, .int (nI 0)), (0, .ref 185)], [], gSh, M8)) rfl ?_
                    have hlt := PC.le hC3 h12 ht
                    exact ih (300 - (c2 + 1)) (by omega) (c2 + 1) an 0 1 (w2 + 1) (D'.1, D'.2 - 1) M8 _ rfl (by omega) (by omega) (by omega) (by decide) (hq3.next hN8) hC8 (fun _ => by first | omega | (show _ ≤ ((D'.1, D'.2 - 1)).2; omega)) (fun hz => by omega) (fun _ => by omega) (Or.inr (Or.inl ⟨_, _, rfl⟩))
                  · intro hq0
                    simp only [pCP] at hq0
                    rw [hI_int (a := an) (by omega)] at hq0
                    have hq0 : ((an : Nat) : Int) = (0 : Int) := by omega
                    refine ok_seq 1 (σ' := (99, [(2, .int (nI 0)), (5, .int (nI 0)), (1, .int (nI an)), (4, .int (nI 0)), (3, .int (nI m)), (0, .ref 185)], [.int (nI 0)], gSh, M3)) rfl ?_
                    refine ok_if 106 rfl rfl ?_ ?_
                    · intro hb0
                      simp only [pCP] at hb0
                      rw [hI_int (a := 0) (by omega)] at hb0
                      have hb0 : ((0 : Nat) : Int) = (0 : Int) := by omega
                      refine ok_seq 3 (σ' := (109, [(3, .int (Int32.ofInt 0)), (2, .int (nI 0)), (5, .int (nI 0)), (1, .int (nI an)), (4, .int (nI 0)), (0, .ref 185)], [.int (Int32.ofInt 0)], gSh, M3)) rfl ?_
                      rw [cI_0]
                      refine ok_if 116 rfl rfl (fun _ => ?_) (fun hz => absurd (by simp only [pCP]; rw [hI_int (a := 0) (by omega)]; omega) hz)
                      refine ok_seq 2 (σ' := (7, [(3, .int (nI 0)), (2, .int (nI 0)), (5, .int (nI 0)), (1, .int (nI an)), (4, .int (nI 0)), (0, .ref 185)], [.int (nI 0)], gSh, M3)) rfl ?_
                      refine ok_if 119 rfl rfl (fun _ => ?_) (fun hz => absurd (by simp only [pCP]; rw [hI_int (a := 0) (by omega)]; omega) hz)
                      refine ok_seq 1 (σ' := (120, [(3, .int (nI 0)), (2, .int (nI 0)), (5, .int (nI 0)), (1, .int (nI an)), (4, .int (nI 0)), (0, .ref 185)], [.int (Int32.ofInt 0)], gSh, M3)) rfl ?_
                      rw [cI_0]
                      exact ok_ret (i := .ireturn) (len := 1) rfl rfl ⟨some (.int (nI 0)), rfl, rfl, Or.inl ⟨rfl, (w2 + 1), c2, (D'.1, D'.2 - 1), hq3, hC3, by omega, by omega⟩⟩
                    · intro hb0
                      simp only [pCP] at hb0
                      rw [hI_int (a := 0) (by omega)] at hb0
                      have hb0 : ((0 : Nat) : Int) ≠ (0 : Int) := by omega
                      refine ok_seq 4 (σ' := (109, [(3, .int (Int32.ofInt 1)), (2, .int (nI 0)), (5, .int (nI 0)), (1, .int (nI an)), (4, .int (nI 0)), (0, .ref 185)], [.int (Int32.ofInt 1)], gSh, M3)) rfl ?_
                      rw [cI_1]
                      refine ok_if 116 rfl rfl (fun hz => absurd hz (by simp only [pCP]; rw [hI_int (a := 1) (by omega)]; omega)) (fun _ => ?_)
                      refine ok_seq 1 (σ' := (113, [(3, .int (nI 1)), (2, .int (nI 0)), (5, .int (nI 0)), (1, .int (nI an)), (4, .int (nI 0)), (0, .ref 185)], [.ref 185], gSh, M3)) rfl ?_
                      have ht : tok.toInt ≠ 0 := by first | exact z3 (by omega) | omega
                      refine ok_call (mi := 180) (as := [.ref 185]) (pc' := 116) (L' := [(3, .int (nI 1)), (2, .int (nI 0)), (5, .int (nI 0)), (1, .int (nI an)), (4, .int (nI 0)), (0, .ref 185)]) (st' := []) (sh' := gSh) (M' := M3) (i := .invokevirtual 189) (len := 3) rfl rfl ?_
                      refine (((c_nextQ (d := 0) hT hq3.1.1.1 hC3 h12 ht).deep (by omega))).mono ?_
                      rintro v2 ⟨sh2, M8⟩ ⟨rfl, hsh, ⟨a8, hN8⟩, hC8⟩
                      have hsh : sh2 = gSh := hsh
                      subst hsh
                      dsimp only at hN8 hC8
                      refine ok_seq 1 (σ' := (6, [(3, .int (nI 1)), (2, .int (nI 0)), (5, .int (nI 0)), (1, .int (nI an)), (4, .int (nI 0)), (0, .ref 185)], [], gSh, M8)) rfl ?_
                      have hlt := PC.le hC3 h12 ht
                      exact ih (300 - (c2 + 1)) (by omega) (c2 + 1) an 0 1 (w2 + 1) (D'.1, D'.2 - 1) M8 _ rfl (by omega) (by omega) (by omega) (by decide) (hq3.next hN8) hC8 (fun _ => by first | omega | (show _ ≤ ((D'.1, D'.2 - 1)).2; omega)) (fun hz => by omega) (fun _ => by omega) (Or.inr (Or.inl ⟨_, _, rfl⟩))
                · intro ho0
                  simp only [pCP] at ho0
                  rw [hI_int (a := o) (by omega)] at ho0
                  have ho0 : ((o : Nat) : Int) ≠ (0 : Int) := by omega
                  refine ok_seq 3 (σ' := (87, [(5, .int (nI 0)), (1, .int (nI an)), (4, .int (nI 0)), (3, .int (nI m)), (2, .int (nI o)), (0, .ref 185)], [.int (Int32.ofInt 0), .int ((Int8.ofInt 22).toInt32), .ref 185], gSh, M3)) rfl ?_
                  rw [(show (Int8.ofInt 22).toInt32 = nI 22 by decide), cI_0]
                  refine ok_call (mi := 186) (as := [.ref 185, .int (nI 22), .int (nI 0)]) (pc' := 90) (L' := [(5, .int (nI 0)), (1, .int (nI an)), (4, .int (nI 0)), (3, .int (nI m)), (2, .int (nI o)), (0, .ref 185)]) (st' := []) (sh' := gSh) (M' := M3) (i := .invokevirtual 170) (len := 3) rfl rfl ?_
                  refine ((c_emit0 (d := d + dN + 6) hT hq3 (D' := ((D'.1, D'.2 - 1).1, (D'.1, D'.2 - 1).2 - 1)) (o := nI 22) (v := nI 0) (Or.inr (Or.inr (Or.inr (Or.inr (Or.inr (Or.inr ⟨by decide, by decide, by omega, rfl⟩)))))) (by omega))).mono ?_
                  rintro v ⟨sh2, M7⟩ ⟨rfl, hsh, hq7, hf7⟩
                  have hsh : sh2 = gSh := hsh
                  subst hsh
                  dsimp only at hq7 hf7
                  refine ok_seq 3 (σ' := (94, [(2, .int (nI 0)), (5, .int (nI 0)), (1, .int (nI an)), (4, .int (nI 0)), (3, .int (nI m)), (0, .ref 185)], [.int (nI an)], gSh, M7)) rfl ?_
                  refine ok_if 102 rfl rfl ?_ ?_
                  · intro hq0
                    simp only [pCP] at hq0
                    rw [hI_int (a := an) (by omega)] at hq0
                    have hq0 : ((an : Nat) : Int) ≠ (0 : Int) := by omega
                    refine ok_seq 4 (σ' := (109, [(3, .int (Int32.ofInt 1)), (2, .int (nI 0)), (5, .int (nI 0)), (1, .int (nI an)), (4, .int (nI 0)), (0, .ref 185)], [.int (Int32.ofInt 1)], gSh, M7)) rfl ?_
                    rw [cI_1]
                    refine ok_if 116 rfl rfl (fun hz => absurd hz (by simp only [pCP]; rw [hI_int (a := 1) (by omega)]; omega)) (fun _ => ?_)
                    refine ok_seq 1 (σ' := (113, [(3, .int (nI 1)), (2, .int (nI 0)), (5, .int (nI 0)), (1, .int (nI an)), (4, .int (nI 0)), (0, .ref 185)], [.ref 185], gSh, M7)) rfl ?_
                    have ht : tok.toInt ≠ 0 := by first | exact z3 (by omega) | omega
                    refine ok_call (mi := 180) (as := [.ref 185]) (pc' := 116) (L' := [(3, .int (nI 1)), (2, .int (nI 0)), (5, .int (nI 0)), (1, .int (nI an)), (4, .int (nI 0)), (0, .ref 185)]) (st' := []) (sh' := gSh) (M' := M7) (i := .invokevirtual 189) (len := 3) rfl rfl ?_
                    refine (((c_nextQ (d := 0) hT hq7.1.1.1 (PC.keep hC3 (hf7.at 10 (by decide)) (hf7.at 12 (by decide))) (by rw [hf7.at 12 (by decide)]; exact h12) ht).deep (by omega))).mono ?_
                    rintro v2 ⟨sh2, M8⟩ ⟨rfl, hsh, ⟨a8, hN8⟩, hC8⟩
                    have hsh : sh2 = gSh := hsh
                    subst hsh
                    dsimp only at hN8 hC8
                    refine ok_seq 1 (σ' := (6, [(3, .int (nI 1)), (2, .int (nI 0)), (5, .int (nI 0)), (1, .int (nI an)), (4, .int (nI 0)), (0, .ref 185)], [], gSh, M8)) rfl ?_
                    have hlt := PC.le (PC.keep hC3 (hf7.at 10 (by decide)) (hf7.at 12 (by decide))) (by rw [hf7.at 12 (by decide)]; exact h12) ht
                    exact ih (300 - (c2 + 1)) (by omega) (c2 + 1) an 0 1 ((w2 + 1) + 1) ((D'.1, D'.2 - 1).1, (D'.1, D'.2 - 1).2 - 1) M8 _ rfl (by omega) (by omega) (by omega) (by decide) (hq7.next hN8) hC8 (fun _ => by first | omega | (show _ ≤ (((D'.1, D'.2 - 1).1, (D'.1, D'.2 - 1).2 - 1)).2; omega)) (fun hz => by omega) (fun _ => by omega) (Or.inr (Or.inl ⟨_, _, rfl⟩))
                  · intro hq0
                    simp only [pCP] at hq0
                    rw [hI_int (a := an) (by omega)] at hq0
                    have hq0 : ((an : Nat) : Int) = (0 : Int) := by omega
                    refine ok_seq 1 (σ' := (99, [(2, .int (nI 0)), (5, .int (nI 0)), (1, .int (nI an)), (4, .int (nI 0)), (3, .int (nI m)), (0, .ref 185)], [.int (nI 0)], gSh, M7)) rfl ?_
                    refine ok_if 106 rfl rfl ?_ ?_
                    · intro hb0
                      simp only [pCP] at hb0
                      rw [hI_int (a := 0) (by omega)] at hb0
                      have hb0 : ((0 : Nat) : Int) = (0 : Int) := by omega
                      refine ok_seq 3 (σ' := (109, [(3, .int (Int32.ofInt 0)), (2, .int (nI 0)), (5, .int (nI 0)), (1, .int (nI an)), (4, .int (nI 0)), (0, .ref 185)], [.int (Int32.ofInt 0)], gSh, M7)) rfl ?_
                      rw [cI_0]
                      refine ok_if 116 rfl rfl (fun _ => ?_) (fun hz => absurd (by simp only [pCP]; rw [hI_int (a := 0) (by omega)]; omega) hz)
                      refine ok_seq 2 (σ' := (7, [(3, .int (nI 0)), (2, .int (nI 0)), (5, .int (nI 0)), (1, .int (nI an)), (4, .int (nI 0)), (0, .ref 185)], [.int (nI 0)], gSh, M7)) rfl ?_
                      refine ok_if 119 rfl rfl (fun _ => ?_) (fun hz => absurd (by simp only [pCP]; rw [hI_int (a := 0) (by omega)]; omega) hz)
                      refine ok_seq 1 (σ' := (120, [(3, .int (nI 0)), (2, .int (nI 0)), (5, .int (nI 0)), (1, .int (nI an)), (4, .int (nI 0)), (0, .ref 185)], [.int (Int32.ofInt 0)], gSh, M7)) rfl ?_
                      rw [cI_0]
                      exact ok_ret (i := .ireturn) (len := 1) rfl rfl ⟨some (.int (nI 0)), rfl, rfl, Or.inl ⟨rfl, ((w2 + 1) + 1), c2, ((D'.1, D'.2 - 1).1, (D'.1, D'.2 - 1).2 - 1), hq7, (PC.keep hC3 (hf7.at 10 (by decide)) (hf7.at 12 (by decide))), by omega, by omega⟩⟩
                    · intro hb0
                      simp only [pCP] at hb0
                      rw [hI_int (a := 0) (by omega)] at hb0
                      have hb0 : ((0 : Nat) : Int) ≠ (0 : Int) := by omega
                      refine ok_seq 4 (σ' := (109, [(3, .int (Int32.ofInt 1)), (2, .int (nI 0)), (5, .int (nI 0)), (1, .int (nI an)), (4, .int (nI 0)), (0, .ref 185)], [.int (Int32.ofInt 1)], gSh, M7)) rfl ?_
                      rw [cI_1]
                      refine ok_if 116 rfl rfl (fun hz => absurd hz (by simp only [pCP]; rw [hI_int (a := 1) (by omega)]; omega)) (fun _ => ?_)
                      refine ok_seq 1 (σ' := (113, [(3, .int (nI 1)), (2, .int (nI 0)), (5, .int (nI 0)), (1, .int (nI an)), (4, .int (nI 0)), (0, .ref 185)], [.ref 185], gSh, M7)) rfl ?_
                      have ht : tok.toInt ≠ 0 := by first | exact z3 (by omega) | omega
                      refine ok_call (mi := 180) (as := [.ref 185]) (pc' := 116) (L' := [(3, .int (nI 1)), (2, .int (nI 0)), (5, .int (nI 0)), (1, .int (nI an)), (4, .int (nI 0)), (0, .ref 185)]) (st' := []) (sh' := gSh) (M' := M7) (i := .invokevirtual 189) (len := 3) rfl rfl ?_
                      refine (((c_nextQ (d := 0) hT hq7.1.1.1 (PC.keep hC3 (hf7.at 10 (by decide)) (hf7.at 12 (by decide))) (by rw [hf7.at 12 (by decide)]; exact h12) ht).deep (by omega))).mono ?_
                      rintro v2 ⟨sh2, M8⟩ ⟨rfl, hsh, ⟨a8, hN8⟩, hC8⟩
                      have hsh : sh2 = gSh := hsh
                      subst hsh
                      dsimp only at hN8 hC8
                      refine ok_seq 1 (σ' := (6, [(3, .int (nI 1)), (2, .int (nI 0)), (5, .int (nI 0)), (1, .int (nI an)), (4, .int (nI 0)), (0, .ref 185)], [], gSh, M8)) rfl ?_
                      have hlt := PC.le (PC.keep hC3 (hf7.at 10 (by decide)) (hf7.at 12 (by decide))) (by rw [hf7.at 12 (by decide)]; exact h12) ht
                      exact ih (300 - (c2 + 1)) (by omega) (c2 + 1) an 0 1 ((w2 + 1) + 1) ((D'.1, D'.2 - 1).1, (D'.1, D'.2 - 1).2 - 1) M8 _ rfl (by omega) (by omega) (by omega) (by decide) (hq7.next hN8) hC8 (fun _ => by first | omega | (show _ ≤ (((D'.1, D'.2 - 1).1, (D'.1, D'.2 - 1).2 - 1)).2; omega)) (fun hz => by omega) (fun _ => by omega) (Or.inr (Or.inl ⟨_, _, rfl⟩))
            · intro hw
              simp only [pCP] at hw
              have hw : (lg_cmp wd ((28530 : Int64))).toInt = (0 : Int) := by omega
              refine ok_seq 4 (σ' := (76, [(5, .int (Int32.ofInt 1)), (1, .int (nI an)), (4, .int (nI 0)), (3, .int (nI m)), (2, .int (nI o)), (0, .ref 185)], [.int (nI an)], gSh, M3)) rfl ?_
              rw [cI_1]
              refine ok_if 93 rfl rfl ?_ ?_
              · intro hn0
                simp only [pCP] at hn0
                rw [hI_int (a := an) (by omega)] at hn0
                have hn0 : ((an : Nat) : Int) ≠ (0 : Int) := by omega
                refine ok_seq 1 (σ' := (94, [(5, .int (nI 1)), (1, .int (nI an)), (4, .int (nI 0)), (3, .int (nI m)), (2, .int (nI o)), (0, .ref 185)], [.int (nI an)], gSh, M3)) rfl ?_
                refine ok_if 102 rfl rfl ?_ ?_
                · intro hq0
                  simp only [pCP] at hq0
                  rw [hI_int (a := an) (by omega)] at hq0
                  have hq0 : ((an : Nat) : Int) ≠ (0 : Int) := by omega
                  refine ok_seq 4 (σ' := (109, [(3, .int (Int32.ofInt 1)), (5, .int (nI 1)), (1, .int (nI an)), (4, .int (nI 0)), (2, .int (nI o)), (0, .ref 185)], [.int (Int32.ofInt 1)], gSh, M3)) rfl ?_
                  rw [cI_1]
                  refine ok_if 116 rfl rfl (fun hz => absurd hz (by simp only [pCP]; rw [hI_int (a := 1) (by omega)]; omega)) (fun _ => ?_)
                  refine ok_seq 1 (σ' := (113, [(3, .int (nI 1)), (5, .int (nI 1)), (1, .int (nI an)), (4, .int (nI 0)), (2, .int (nI o)), (0, .ref 185)], [.ref 185], gSh, M3)) rfl ?_
                  have ht : tok.toInt ≠ 0 := by first | exact z3 (by omega) | omega
                  refine ok_call (mi := 180) (as := [.ref 185]) (pc' := 116) (L' := [(3, .int (nI 1)), (5, .int (nI 1)), (1, .int (nI an)), (4, .int (nI 0)), (2, .int (nI o)), (0, .ref 185)]) (st' := []) (sh' := gSh) (M' := M3) (i := .invokevirtual 189) (len := 3) rfl rfl ?_
                  refine (((c_nextQ (d := 0) hT hq3.1.1.1 hC3 h12 ht).deep (by omega))).mono ?_
                  rintro v2 ⟨sh2, M8⟩ ⟨rfl, hsh, ⟨a8, hN8⟩, hC8⟩
                  have hsh : sh2 = gSh := hsh
                  subst hsh
                  dsimp only at hN8 hC8
                  refine ok_seq 1 (σ' := (6, [(3, .int (nI 1)), (5, .int (nI 1)), (1, .int (nI an)), (4, .int (nI 0)), (2, .int (nI o)), (0, .ref 185)], [], gSh, M8)) rfl ?_
                  have hlt := PC.le hC3 h12 ht
                  exact ih (300 - (c2 + 1)) (by omega) (c2 + 1) an o 1 (w2 + 1) (D'.1, D'.2 - 1) M8 _ rfl (by omega) (by omega) (by omega) (by decide) (hq3.next hN8) hC8 (fun _ => by first | omega | (show _ ≤ ((D'.1, D'.2 - 1)).2; omega)) (fun hz => by omega) (fun _ => by omega) (Or.inr (Or.inr ⟨_, _, rfl⟩))
                · intro hq0
                  simp only [pCP] at hq0
                  rw [hI_int (a := an) (by omega)] at hq0
                  have hq0 : ((an : Nat) : Int) = (0 : Int) := by omega
                  refine ok_seq 1 (σ' := (99, [(5, .int (nI 1)), (1, .int (nI an)), (4, .int (nI 0)), (3, .int (nI m)), (2, .int (nI o)), (0, .ref 185)], [.int (nI 1)], gSh, M3)) rfl ?_
                  refine ok_if 106 rfl rfl ?_ ?_
                  · intro hb0
                    simp only [pCP] at hb0
                    rw [hI_int (a := 1) (by omega)] at hb0
                    have hb0 : ((1 : Nat) : Int) = (0 : Int) := by omega
                    refine ok_seq 3 (σ' := (109, [(3, .int (Int32.ofInt 0)), (5, .int (nI 1)), (1, .int (nI an)), (4, .int (nI 0)), (2, .int (nI o)), (0, .ref 185)], [.int (Int32.ofInt 0)], gSh, M3)) rfl ?_
                    rw [cI_0]
                    refine ok_if 116 rfl rfl (fun _ => ?_) (fun hz => absurd (by simp only [pCP]; rw [hI_int (a := 0) (by omega)]; omega) hz)
                    refine ok_seq 2 (σ' := (7, [(3, .int (nI 0)), (5, .int (nI 1)), (1, .int (nI an)), (4, .int (nI 0)), (2, .int (nI o)), (0, .ref 185)], [.int (nI 0)], gSh, M3)) rfl ?_
                    refine ok_if 119 rfl rfl (fun _ => ?_) (fun hz => absurd (by simp only [pCP]; rw [hI_int (a := 0) (by omega)]; omega) hz)
                    refine ok_seq 1 (σ' := (120, [(3, .int (nI 0)), (5, .int (nI 1)), (1, .int (nI an)), (4, .int (nI 0)), (2, .int (nI o)), (0, .ref 185)], [.int (Int32.ofInt 0)], gSh, M3)) rfl ?_
                    rw [cI_0]
                    exact ok_ret (i := .ireturn) (len := 1) rfl rfl ⟨some (.int (nI 0)), rfl, rfl, Or.inl ⟨rfl, (w2 + 1), c2, (D'.1, D'.2 - 1), hq3, hC3, by omega, by omega⟩⟩
                  · intro hb0
                    simp only [pCP] at hb0
                    rw [hI_int (a := 1) (by omega)] at hb0
                    have hb0 : ((1 : Nat) : Int) ≠ (0 : Int) := by omega
                    refine ok_seq 4 (σ' := (109, [(3, .int (Int32.ofInt 1)), (5, .int (nI 1)), (1, .int (nI an)), (4, .int (nI 0)), (2, .int (nI o)), (0, .ref 185)], [.int (Int32.ofInt 1)], gSh, M3)) rfl ?_
                    rw [cI_1]
                    refine ok_if 116 rfl rfl (fun hz => absurd hz (by simp only [pCP]; rw [hI_int (a := 1) (by omega)]; omega)) (fun _ => ?_)
                    refine ok_seq 1 (σ' := (113, [(3, .int (nI 1)), (5, .int (nI 1)), (1, .int (nI an)), (4, .int (nI 0)), (2, .int (nI o)), (0, .ref 185)], [.ref 185], gSh, M3)) rfl ?_
                    have ht : tok.toInt ≠ 0 := by first | exact z3 (by omega) | omega
                    refine ok_call (mi := 180) (as := [.ref 185]) (pc' := 116) (L' := [(3, .int (nI 1)), (5, .int (nI 1)), (1, .int (nI an)), (4, .int (nI 0)), (2, .int (nI o)), (0, .ref 185)]) (st' := []) (sh' := gSh) (M' := M3) (i := .invokevirtual 189) (len := 3) rfl rfl ?_
                    refine (((c_nextQ (d := 0) hT hq3.1.1.1 hC3 h12 ht).deep (by omega))).mono ?_
                    rintro v2 ⟨sh2, M8⟩ ⟨rfl, hsh, ⟨a8, hN8⟩, hC8⟩
                    have hsh : sh2 = gSh := hsh
                    subst hsh
                    dsimp only at hN8 hC8
                    refine ok_seq 1 (σ' := (6, [(3, .int (nI 1)), (5, .int (nI 1)), (1, .int (nI an)), (4, .int (nI 0)), (2, .int (nI o)), (0, .ref 185)], [], gSh, M8)) rfl ?_
                    have hlt := PC.le hC3 h12 ht
                    exact ih (300 - (c2 + 1)) (by omega) (c2 + 1) an o 1 (w2 + 1) (D'.1, D'.2 - 1) M8 _ rfl (by omega) (by omega) (by omega) (by decide) (hq3.next hN8) hC8 (fun _ => by first | omega | (show _ ≤ ((D'.1, D'.2 - 1)).2; omega)) (fun hz => by omega) (fun _ => by omega) (Or.inr (Or.inr ⟨_, _, rfl⟩))
              · intro hn0
                simp only [pCP] at hn0
                rw [hI_int (a := an) (by omega)] at hn0
                have hn0 : ((an : Nat) : Int) = (0 : Int) := by omega
                refine ok_seq 1 (σ' := (80, [(5, .int (nI 1)), (1, .int (nI an)), (4, .int (nI 0)), (3, .int (nI m)), (2, .int (nI o)), (0, .ref 185)], [.int (nI o)], gSh, M3)) rfl ?_
                refine ok_if 90 rfl rfl ?_ ?_
                · intro ho0
                  simp only [pCP] at ho0
                  rw [hI_int (a := o) (by omega)] at ho0
                  have ho0 : ((o : Nat) : Int) = (0 : Int) := by omega
                  refine ok_seq 3 (σ' := (94, [(2, .int (nI 1)), (5, .int (nI 1)), (1, .int (nI an)), (4, .int (nI 0)), (3, .int (nI m)), (0, .ref 185)], [.int (nI an)], gSh, M3)) rfl ?_
                  refine ok_if 102 rfl rfl ?_ ?_
                  · intro hq0
                    simp only [pCP] at hq0
                    rw [hI_int (a := an) (by omega)] at hq0
                    have hq0 : ((an : Nat) : Int) ≠ (0 : Int) := by omega
                    refine ok_seq 4 (σ' := (109, [(3, .int (Int32.ofInt 1)), (2, .int (nI 1)), (5, .int (nI 1)), (1, .int (nI an)), (4, .int (nI 0)), (0, .ref 185)], [.int (Int32.ofInt 1)], gSh, M3)) rfl ?_
                    rw [cI_1]
                    refine ok_if 116 rfl rfl (fun hz => absurd hz (by simp only [pCP]; rw [hI_int (a := 1) (by omega)]; omega)) (fun _ => ?_)
                    refine ok_seq 1 (σ' := (113, [(3, .int (nI 1)), (2, .int (nI 1)), (5, .int (nI 1)), (1, .int (nI an)), (4, .int (nI 0)), (0, .ref 185)], [.ref 185], gSh, M3)) rfl ?_
                    have ht : tok.toInt ≠ 0 := by first | exact z3 (by omega) | omega
                    refine ok_call (mi := 180) (as := [.ref 185]) (pc' := 116) (L' := [(3, .int (nI 1)), (2, .int (nI 1)), (5, .int (nI 1)), (1, .int (nI an)), (4, .int (nI 0)), (0, .ref 185)]) (st' := []) (sh' := gSh) (M' := M3) (i := .invokevirtual 189) (len := 3) rfl rfl ?_
                    refine (((c_nextQ (d := 0) hT hq3.1.1.1 hC3 h12 ht).deep (by omega))).mono ?_
                    rintro v2 ⟨sh2, M8⟩ ⟨rfl, hsh, ⟨a8, hN8⟩, hC8⟩
                    have hsh : sh2 = gSh := hsh
                    subst hsh
                    dsimp only at hN8 hC8
                    refine ok_seq 1 (σ' := (6, [(3, .int (nI 1)), (2, .int (nI 1)), (5, .int (nI 1)), (1, .int (nI an)), (4, .int (nI 0)), (0, .ref 185)], [], gSh, M8)) rfl ?_
                    have hlt := PC.le hC3 h12 ht
                    exact ih (300 - (c2 + 1)) (by omega) (c2 + 1) an 1 1 (w2 + 1) (D'.1, D'.2 - 1) M8 _ rfl (by omega) (by omega) (by omega) (by decide) (hq3.next hN8) hC8 (fun _ => by first | omega | (show _ ≤ ((D'.1, D'.2 - 1)).2; omega)) (fun hz => by omega) (fun _ => by omega) (Or.inr (Or.inl ⟨_, _, rfl⟩))
                  · intro hq0
                    simp only [pCP] at hq0
                    rw [hI_int (a := an) (by omega)] at hq0
                    have hq0 : ((an : Nat) : Int) = (0 : Int) := by omega
                    refine ok_seq 1 (σ' := (99, [(2, .int (nI 1)), (5, .int (nI 1)), (1, .int (nI an)), (4, .int (nI 0)), (3, .int (nI m)), (0, .ref 185)], [.int (nI 1)], gSh, M3)) rfl ?_
                    refine ok_if 106 rfl rfl ?_ ?_
                    · intro hb0
                      simp only [pCP] at hb0
                      rw [hI_int (a := 1) (by omega)] at hb0
                      have hb0 : ((1 : Nat) : Int) = (0 : Int) := by omega
                      refine ok_seq 3 (σ' := (109, [(3, .int (Int32.ofInt 0)), (2, .int (nI 1)), (5, .int (nI 1)), (1, .int (nI an)), (4, .int (nI 0)), (0, .ref 185)], [.int (Int32.ofInt 0)], gSh, M3)) rfl ?_
                      rw [cI_0]
                      refine ok_if 116 rfl rfl (fun _ => ?_) (fun hz => absurd (by simp only [pCP]; rw [hI_int (a := 0) (by omega)]; omega) hz)
                      refine ok_seq 2 (σ' := (7, [(3, .int (nI 0)), (2, .int (nI 1)), (5, .int (nI 1)), (1, .int (nI an)), (4, .int (nI 0)), (0, .ref 185)], [.int (nI 0)], gSh, M3)) rfl ?_
                      refine ok_if 119 rfl rfl (fun _ => ?_) (fun hz => absurd (by simp only [pCP]; rw [hI_int (a := 0) (by omega)]; omega) hz)
                      refine ok_seq 1 (σ' := (120, [(3, .int (nI 0)), (2, .int (nI 1)), (5, .int (nI 1)), (1, .int (nI an)), (4, .int (nI 0)), (0, .ref 185)], [.int (Int32.ofInt 0)], gSh, M3)) rfl ?_
                      rw [cI_0]
                      exact ok_ret (i := .ireturn) (len := 1) rfl rfl ⟨some (.int (nI 0)), rfl, rfl, Or.inl ⟨rfl, (w2 + 1), c2, (D'.1, D'.2 - 1), hq3, hC3, by omega, by omega⟩⟩
                    · intro hb0
                      simp only [pCP] at hb0
                      rw [hI_int (a := 1) (by omega)] at hb0
                      have hb0 : ((1 : Nat) : Int) ≠ (0 : Int) := by omega
                      refine ok_seq 4 (σ' := (109, [(3, .int (Int32.ofInt 1)), (2, .int (nI 1)), (5, .int (nI 1)), (1, .int (nI an)), (4, .int (nI 0)), (0, .ref 185)], [.int (Int32.ofInt 1)], gSh, M3)) rfl ?_
                      rw [cI_1]
                      refine ok_if 116 rfl rfl (fun hz => absurd hz (by simp only [pCP]; rw [hI_int (a := 1) (by omega)]; omega)) (fun _ => ?_)
                      refine ok_seq 1 (σ' := (113, [(3, .int (nI 1)), (2, .int (nI 1)), (5, .int (nI 1)), (1, .int (nI an)), (4, .int (nI 0)), (0, .ref 185)], [.ref 185], gSh, M3)) rfl ?_
                      have ht : tok.toInt ≠ 0 := by first | exact z3 (by omega) | omega
                      refine ok_call (mi := 180) (as := [.ref 185]) (pc' := 116) (L' := [(3, .int (nI 1)), (2, .int (nI 1)), (5, .int (nI 1)), (1, .int (nI an)), (4, .int (nI 0)), (0, .ref 185)]) (st' := []) (sh' := gSh) (M' := M3) (i := .invokevirtual 189) (len := 3) rfl rfl ?_
                      refine (((c_nextQ (d := 0) hT hq3.1.1.1 hC3 h12 ht).deep (by omega))).mono ?_
                      rintro v2 ⟨sh2, M8⟩ ⟨rfl, hsh, ⟨a8, hN8⟩, hC8⟩
                      have hsh : sh2 = gSh := hsh
                      subst hsh
                      dsimp only at hN8 hC8
                      refine ok_seq 1 (σ' := (6, [(3, .int (nI 1)), (2, .int (nI 1)), (5, .int (nI 1)), (1, .int (nI an)), (4, .int (nI 0)), (0, .ref 185)], [], gSh, M8)) rfl ?_
                      have hlt := PC.le hC3 h12 ht
                      exact ih (300 - (c2 + 1)) (by omega) (c2 + 1) an 1 1 (w2 + 1) (D'.1, D'.2 - 1) M8 _ rfl (by omega) (by omega) (by omega) (by decide) (hq3.next hN8) hC8 (fun _ => by first | omega | (show _ ≤ ((D'.1, D'.2 - 1)).2; omega)) (fun hz => by omega) (fun _ => by omega) (Or.inr (Or.inl ⟨_, _, rfl⟩))
                · intro ho0
                  simp only [pCP] at ho0
                  rw [hI_int (a := o) (by omega)] at ho0
                  have ho0 : ((o : Nat) : Int) ≠ (0 : Int) := by omega
                  refine ok_seq 3 (σ' := (87, [(5, .int (nI 1)), (1, .int (nI an)), (4, .int (nI 0)), (3, .int (nI m)), (2, .int (nI o)), (0, .ref 185)], [.int (Int32.ofInt 0), .int ((Int8.ofInt 22).toInt32), .ref 185], gSh, M3)) rfl ?_
                  rw [(show (Int8.ofInt 22).toInt32 = nI 22 by decide), cI_0]
                  refine ok_call (mi := 186) (as := [.ref 185, .int (nI 22), .int (nI 0)]) (pc' := 90) (L' := [(5, .int (nI 1)), (1, .int (nI an)), (4, .int (nI 0)), (3, .int (nI m)), (2, .int (nI o)), (0, .ref 185)]) (st' := []) (sh' := gSh) (M' := M3) (i := .invokevirtual 170) (len := 3) rfl rfl ?_
                  refine ((c_emit0 (d := d + dN + 6) hT hq3 (D' := ((D'.1, D'.2 - 1).1, (D'.1, D'.2 - 1).2 - 1)) (o := nI 22) (v := nI 0) (Or.inr (Or.inr (Or.inr (Or.inr (Or.inr (Or.inr ⟨by decide, by decide, by omega, rfl⟩)))))) (by omega))).mono ?_
                  rintro v ⟨sh2, M7⟩ ⟨rfl, hsh, hq7, hf7⟩
                  have hsh : sh2 = gSh := hsh
                  subst hsh
                  dsimp only at hq7 hf7
                  refine ok_seq 3 (σ' := (94, [(2, .int (nI 1)), (5, .int (nI 1)), (1, .int (nI an)), (4, .int (nI 0)), (3, .int (nI m)), (0, .ref 185)], [.int (nI an)], gSh, M7)) rfl ?_
                  refine ok_if 102 rfl rfl ?_ ?_
                  · intro hq0
                    simp only [pCP] at hq0
                    rw [hI_int (a := an) (by omega)] at hq0
                    have hq0 : ((an : Nat) : Int) ≠ (0 : Int) := by omega
                    refine ok_seq 4 (σ' := (109, [(3, .int (Int32.ofInt 1)), (2, .int (nI 1)), (5, .int (nI 1)), (1, .int (nI an)), (4, .int (nI 0)), (0, .ref 185)], [.int (Int32.ofInt 1)], gSh, M7)) rfl ?_
                    rw [cI_1]
                    refine ok_if 116 rfl rfl (fun hz => absurd hz (by simp only [pCP]; rw [hI_int (a := 1) (by omega)]; omega)) (fun _ => ?_)
                    refine ok_seq 1 (σ' := (113, [(3, .int (nI 1)), (2, .int (nI 1)), (5, .int (nI 1)), (1, .int (nI an)), (4, .int (nI 0)), (0, .ref 185)], [.ref 185], gSh, M7)) rfl ?_
                    have ht : tok.toInt ≠ 0 := by first | exact z3 (by omega) | omega
                    refine ok_call (mi := 180) (as := [.ref 185]) (pc' := 116) (L' := [(3, .int (nI 1)), (2, .int (nI 1)), (5, .int (nI 1)), (1, .int (nI an)), (4, .int (nI 0)), (0, .ref 185)]) (st' := []) (sh' := gSh) (M' := M7) (i := .invokevirtual 189) (len := 3) rfl rfl ?_
                    refine (((c_nextQ (d := 0) hT hq7.1.1.1 (PC.keep hC3 (hf7.at 10 (by decide)) (hf7.at 12 (by decide))) (by rw [hf7.at 12 (by decide)]; exact h12) ht).deep (by omega))).mono ?_
                    rintro v2 ⟨sh2, M8⟩ ⟨rfl, hsh, ⟨a8, hN8⟩, hC8⟩
                    have hsh : sh2 = gSh := hsh
                    subst hsh
                    dsimp only at hN8 hC8
                    refine ok_seq 1 (σ' := (6, [(3, .int (nI 1)), (2, .int (nI 1)), (5, .int (nI 1)), (1, .int (nI an)), (4, .int (nI 0)), (0, .ref 185)], [], gSh, M8)) rfl ?_
                    have hlt := PC.le (PC.keep hC3 (hf7.at 10 (by decide)) (hf7.at 12 (by decide))) (by rw [hf7.at 12 (by decide)]; exact h12) ht
                    exact ih (300 - (c2 + 1)) (by omega) (c2 + 1) an 1 1 ((w2 + 1) + 1) ((D'.1, D'.2 - 1).1, (D'.1, D'.2 - 1).2 - 1) M8 _ rfl (by omega) (by omega) (by omega) (by decide) (hq7.next hN8) hC8 (fun _ => by first | omega | (show _ ≤ (((D'.1, D'.2 - 1).1, (D'.1, D'.2 - 1).2 - 1)).2; omega)) (fun hz => by omega) (fun _ => by omega) (Or.inr (Or.inl ⟨_, _, rfl⟩))
                  · intro hq0
                    simp only [pCP] at hq0
                    rw [hI_int (a := an) (by omega)] at hq0
                    have hq0 : ((an : Nat) : Int) = (0 : Int) := by omega
                    refine ok_seq 1 (σ' := (99, [(2, .int (nI 1)), (5, .int (nI 1)), (1, .int (nI an)), (4, .int (nI 0)), (3, .int (nI m)), (0, .ref 185)], [.int (nI 1)], gSh, M7)) rfl ?_
                    refine ok_if 106 rfl rfl ?_ ?_
                    · intro hb0
                      simp only [pCP] at hb0
                      rw [hI_int (a := 1) (by omega)] at hb0
                      have hb0 : ((1 : Nat) : Int) = (0 : Int) := by omega
                      refine ok_seq 3 (σ' := (109, [(3, .int (Int32.ofInt 0)), (2, .int (nI 1)), (5, .int (nI 1)), (1, .int (nI an)), (4, .int (nI 0)), (0, .ref 185)], [.int (Int32.ofInt 0)], gSh, M7)) rfl ?_
                      rw [cI_0]
                      refine ok_if 116 rfl rfl (fun _ => ?_) (fun hz => absurd (by simp only [pCP]; rw [hI_int (a := 0) (by omega)]; omega) hz)
                      refine ok_seq 2 (σ' := (7, [(3, .int (nI 0)), (2, .int (nI 1)), (5, .int (nI 1)), (1, .int (nI an)), (4, .int (nI 0)), (0, .ref 185)], [.int (nI 0)], gSh, M7)) rfl ?_
                      refine ok_if 119 rfl rfl (fun _ => ?_) (fun hz => absurd (by simp only [pCP]; rw [hI_int (a := 0) (by omega)]; omega) hz)
                      refine ok_seq 1 (σ' := (120, [(3, .int (nI 0)), (2, .int (nI 1)), (5, .int (nI 1)), (1, .int (nI an)), (4, .int (nI 0)), (0, .ref 185)], [.int (Int32.ofInt 0)], gSh, M7)) rfl ?_
                      rw [cI_0]
                      exact ok_ret (i := .ireturn) (len := 1) rfl rfl ⟨some (.int (nI 0)), rfl, rfl, Or.inl ⟨rfl, ((w2 + 1) + 1), c2, ((D'.1, D'.2 - 1).1, (D'.1, D'.2 - 1).2 - 1), hq7, (PC.keep hC3 (hf7.at 10 (by decide)) (hf7.at 12 (by decide))), by omega, by omega⟩⟩
                    · intro hb0
                      simp only [pCP] at hb0
                      rw [hI_int (a := 1) (by omega)] at hb0
                      have hb0 : ((1 : Nat) : Int) ≠ (0 : Int) := by omega
                      refine ok_seq 4 (σ' := (109, [(3, .int (Int32.ofInt 1)), (2, .int (nI 1)), (5, .int (nI 1)), (1, .int (nI an)), (4, .int (nI 0)), (0, .ref 185)], [.int (Int32.ofInt 1)], gSh, M7)) rfl ?_
                      rw [cI_1]
                      refine ok_if 116 rfl rfl (fun hz => absurd hz (by simp only [pCP]; rw [hI_int (a := 1) (by omega)]; omega)) (fun _ => ?_)
                      refine ok_seq 1 (σ' := (113, [(3, .int (nI 1)), (2, .int (nI 1)), (5, .int (nI 1)), (1, .int (nI an)), (4, .int (nI 0)), (0, .ref 185)], [.ref 185], gSh, M7)) rfl ?_
                      have ht : tok.toInt ≠ 0 := by first | exact z3 (by omega) | omega
                      refine ok_call (mi := 180) (as := [.ref 185]) (pc' := 116) (L' := [(3, .int (nI 1)), (2, .int (nI 1)), (5, .int (nI 1)), (1, .int (nI an)), (4, .int (nI 0)), (0, .ref 185)]) (st' := []) (sh' := gSh) (M' := M7) (i := .invokevirtual 189) (len := 3) rfl rfl ?_
                      refine (((c_nextQ (d := 0) hT hq7.1.1.1 (PC.keep hC3 (hf7.at 10 (by decide)) (hf7.at 12 (by decide))) (by rw [hf7.at 12 (by decide)]; exact h12) ht).deep (by omega))).mono ?_
                      rintro v2 ⟨sh2, M8⟩ ⟨rfl, hsh, ⟨a8, hN8⟩, hC8⟩
                      have hsh : sh2 = gSh := hsh
                      subst hsh
                      dsimp only at hN8 hC8
                      refine ok_seq 1 (σ' := (6, [(3, .int (nI 1)), (2, .int (nI 1)), (5, .int (nI 1)), (1, .int (nI an)), (4, .int (nI 0)), (0, .ref 185)], [], gSh, M8)) rfl ?_
                      have hlt := PC.le (PC.keep hC3 (hf7.at 10 (by decide)) (hf7.at 12 (by decide))) (by rw [hf7.at 12 (by decide)]; exact h12) ht
                      exact ih (300 - (c2 + 1)) (by omega) (c2 + 1) an 1 1 ((w2 + 1) + 1) ((D'.1, D'.2 - 1).1, (D'.1, D'.2 - 1).2 - 1) M8 _ rfl (by omega) (by omega) (by omega) (by decide) (hq7.next hN8) hC8 (fun _ => by first | omega | (show _ ≤ (((D'.1, D'.2 - 1).1, (D'.1, D'.2 - 1).2 - 1)).2; omega)) (fun hz => by omega) (fun _ => by omega) (Or.inr (Or.inl ⟨_, _, rfl⟩))
      · refine ok_seq 2 (σ' := (18, [(4, .int zf), (3, .int (nI m)), (2, .int (nI o)), (1, .int (nI a)), (0, .ref 185)], [.int zf], gSh, M2)) rfl ?_
        refine ok_if 24 rfl rfl (fun hz => absurd hz (by simp only [pCP]; omega)) (fun _ => ?_)
        refine ok_seq 1 (σ' := (23, [(4, .int zf), (3, .int (nI m)), (2, .int (nI o)), (1, .int (nI a)), (0, .ref 185)], [.int zf], gSh, M2)) rfl ?_
        exact ok_ret (i := .ireturn) (len := 1) rfl rfl ⟨some (.int zf), rfl, rfl, Or.inr ⟨zf, rfl, hzf, hF⟩⟩
  · refine ok_seq 1 (σ' := (7, [(3, .int (nI m)), (2, .int (nI o)), (5, .int y5), (1, .int (nI a)), (4, .int y4), (0, .ref 185)], [.int (nI m)], gSh, M)) rfl ?_
    refine ok_if 119 rfl rfl ?_ ?_
    · intro hm0
      simp only [pCP] at hm0
      rw [hI_int (a := m) (by omega)] at hm0
      have hm0 : ((m : Nat) : Int) = (0 : Int) := by omega
      exact hE (by omega) _
    · intro hm0
      simp only [pCP] at hm0
      rw [hI_int (a := m) (by omega)] at hm0
      have hm0 : ((m : Nat) : Int) ≠ (0 : Int) := by omega
      have hm1 : m = 1 := by omega
      have hD := hD hm1
      have hw1 := hw1 hm1
      refine ok_seq 1 (σ' := (11, [(3, .int (nI m)), (2, .int (nI o)), (5, .int y5), (1, .int (nI a)), (4, .int y4), (0, .ref 185)], [.ref 185], gSh, M)) rfl ?_
      refine ok_call (mi := 198) (as := [.ref 185]) (pc' := 14) (L' := [(3, .int (nI m)), (2, .int (nI o)), (5, .int y5), (1, .int (nI a)), (4, .int y4), (0, .ref 185)]) (st' := []) (sh' := gSh) (M' := M) (i := .invokevirtual 230) (len := 3) rfl rfl ?_
      refine ((c_asks (d := d) (pd := a + o) hT hH hg hq hC hw1)).mono ?_
      rintro v ⟨sh2, M2⟩ ⟨hsh, hor⟩
      have hsh : sh2 = gSh := hsh
      subst hsh
      dsimp only at hor
      rcases hor with ⟨rfl, w2, c2, D', hq2, hC2, hD2, hw2, hc2⟩ | ⟨zf, rfl, hzf, hF⟩
      · refine ok_seq 2 (σ' := (18, [(4, .int (nI 0)), (3, .int (nI m)), (2, .int (nI o)), (5, .int y5), (1, .int (nI a)), (0, .ref 185)], [.int (nI 0)], gSh, M2)) rfl ?_
        refine ok_if 24 rfl rfl (fun _ => ?_) (fun hz => absurd (by simp only [pCP]; rw [hI_int (a := 0) (by omega)]; omega) hz)
        refine ok_seq 1 (σ' := (25, [(4, .int (nI 0)), (3, .int (nI m)), (2, .int (nI o)), (5, .int y5), (1, .int (nI a)), (0, .ref 185)], [.int (nI a)], gSh, M2)) rfl ?_
        have hc9 : c2 ≤ 300 := by obtain ⟨a9, t9, -, -, k3, k4, -⟩ := hC2; omega
        refine ok_if 35 rfl rfl ?_ ?_
        · intro ha0
          simp only [pCP] at ha0
          rw [hI_int (a := a) (by omega)] at ha0
          have ha0 : ((a : Nat) : Int) = (0 : Int) := by omega
          have ea : a = 0 := by omega
          obtain ⟨tok, h12, -⟩ := ty_int (pty hT hq2.1.1.1 8 rfl rfl)
          obtain ⟨wd, h14⟩ := ptl hT hq2.1.1.1
          obtain ⟨zw, hzw⟩ := c_w3 (S := S) (d := 0) (M := M2) (nI 97) (nI 110) (nI 100)
          obtain ⟨z, z1, z2, z3, z4⟩ := c_pure0 hH.2.2.1.1 hH.2.2.1.2 (vs := [.ref 185, .long zw]) ⟨r185, sat_l zw, trivial⟩ hq2.1.1.1 (hq2.1.gr hg) h12
          obtain ⟨an, han, ean⟩ := ty_nat (x := []) (hi := 1) ⟨z, rfl, z1, z2⟩
          cases ean
          rw [hI_int (a := an) (by omega)] at z3
          refine ok_seq 4 (σ' := (42, [(4, .int (nI 0)), (3, .int (nI m)), (2, .int (nI o)), (5, .int y5), (1, .int (nI a)), (0, .ref 185)], [.int ((Int8.ofInt 100).toInt32), .int ((Int8.ofInt 110).toInt32), .int ((Int8.ofInt 97).toInt32), .ref 185], gSh, M2)) rfl ?_
          rw [(show (Int8.ofInt 97).toInt32 = nI 97 by decide), (show (Int8.ofInt 110).toInt32 = nI 110 by decide), (show (Int8.ofInt 100).toInt32 = nI 100 by decide)]
          refine ok_call (mi := 181) (as := [.int (nI 97), .int (nI 110), .int (nI 100)]) (pc' := 45) (L' := [(4, .int (nI 0)), (3, .int (nI m)), (2, .int (nI o)), (5, .int y5), (1, .int (nI a)), (0, .ref 185)]) (st' := [.ref 185]) (sh' := gSh) (M' := M2) (i := .invokestatic 146) (len := 3) rfl rfl ?_
          refine ((hzw.deep (by omega))).mono ?_
          rintro v hp ⟨rfl, rfl⟩
          refine ok_call (mi := 185) (as := [.ref 185, .long zw]) (pc' := 48) (L' := [(4, .int (nI 0)), (3, .int (nI m)), (2, .int (nI o)), (5, .int y5), (1, .int (nI a)), (0, .ref 185)]) (st' := []) (sh' := gSh) (M' := M2) (i := .invokevirtual 220) (len := 3) rfl rfl ?_
          refine ((z4.deep (by omega))).mono ?_
          rintro v hp ⟨rfl, rfl⟩
          refine ok_seq 3 (σ' := (53, [(1, .int (nI an)), (4, .int (nI 0)), (3, .int (nI m)), (2, .int (nI o)), (5, .int y5), (0, .ref 185)], [M2 185 12], gSh, M2)) rfl ?_
          rw [h12]
          refine ok_seq 1 (σ' := (54, [(1, .int (nI an)), (4, .int (nI 0)), (3, .int (nI m)), (2, .int (nI o)), (5, .int y5), (0, .ref 185)], [.int (Int32.ofInt 2), .int tok], gSh, M2)) rfl ?_
          rw [cI_2]
          refine ok_icmp 72 rfl rfl ?_ ?_
          · intro h2
            simp only [pCP] at h2
            rw [hI_int (a := 2) (by omega)] at h2
            have h2 : (tok).toInt ≠ ((2 : Nat) : Int) := by omega
            refine ok_seq 3 (σ' := (76, [(5, .int (Int32.ofInt 0)), (1, .int (nI an)), (4, .int (nI 0)), (3, .int (nI m)), (2, .int (nI o)), (0, .ref 185)], [.int (nI an)], gSh, M2)) rfl ?_
            rw [cI_0]
            refine ok_if 93 rfl rfl ?_ ?_
            · intro hn0
              simp only [pCP] at hn0
              rw [hI_int (a := an) (by omega)] at hn0
              have hn0 : ((an : Nat) : Int) ≠ (0 : Int) := by omega
              refine ok_seq 1 (σ' := (94, [(5, .int (nI 0)), (1, .int (nI an)), (4, .int (nI 0)), (3, .int (nI m)), (2, .int (nI o)), (0, .ref 185)], [.int (nI an)], gSh, M2)) rfl ?_
              refine ok_if 102 rfl rfl ?_ ?_
              · intro hq0
                simp only [pCP] at hq0
                rw [hI_int (a := an) (by omega)] at hq0
                have hq0 : ((an : Nat) : Int) ≠ (0 : Int) := by omega
                refine ok_seq 4 (σ' := (109, [(3, .int (Int32.ofInt 1)), (5, .int (nI 0)), (1, .int (nI an)), (4, .int (nI 0)), (2, .int (nI o)), (0, .ref 185)], [.int (Int32.ofInt 1)], gSh, M2)) rfl ?_
                rw [cI_1]
                refine ok_if 116 rfl rfl (fun hz => absurd hz (by simp only [pCP]; rw [hI_int (a := 1) (by omega)]; omega)) (fun _ => ?_)
                refine ok_seq 1 (σ' := (113, [(3, .int (nI 1)), (5, .int (nI 0)), (1, .int (nI an)), (4, .int (nI 0)), (2, .int (nI o)), (0, .ref 185)], [.ref 185], gSh, M2)) rfl ?_
                have ht : tok.toInt ≠ 0 := by first | exact z3 (by omega) | omega
                refine ok_call (mi := 180) (as := [.ref 185]) (pc' := 116) (L' := [(3, .int (nI 1)), (5, .int (nI 0)), (1, .int (nI an)), (4, .int (nI 0)), (2, .int (nI o)), (0, .ref 185)]) (st' := []) (sh' := gSh) (M' := M2) (i := .invokevirtual 189) (len := 3) rfl rfl ?_
                refine (((c_nextQ (d := 0) hT hq2.1.1.1 hC2 h12 ht).deep (by omega))).mono ?_
                rintro v2 ⟨sh2, M8⟩ ⟨rfl, hsh, ⟨a8, hN8⟩, hC8⟩
                have hsh : sh2 = gSh := hsh
                subst hsh
                dsimp only at hN8 hC8
                refine ok_seq 1 (σ' := (6, [(3, .int (nI 1)), (5, .int (nI 0)), (1, .int (nI an)), (4, .int (nI 0)), (2, .int (nI o)), (0, .ref 185)], [], gSh, M8)) rfl ?_
                have hlt := PC.le hC2 h12 ht
                exact ih (300 - (c2 + 1)) (by omega) (c2 + 1) an o 1 w2 D' M8 _ rfl (by omega) (by omega) (by omega) (by decide) (hq2.next hN8) hC8 (fun _ => by first | omega | (show _ ≤ (D').2; omega)) (fun hz => by omega) (fun _ => by omega) (Or.inr (Or.inr ⟨_, _, rfl⟩))
              · intro hq0
                simp only [pCP] at hq0
                rw [hI_int (a := an) (by omega)] at hq0
                have hq0 : ((an : Nat) : Int) = (0 : Int) := by omega
                refine ok_seq 1 (σ' := (99, [(5, .int (nI 0)), (1, .int (nI an)), (4, .int (nI 0)), (3, .int (nI m)), (2, .int (nI o)), (0, .ref 185)], [.int (nI 0)], gSh, M2)) rfl ?_
                refine ok_if 106 rfl rfl ?_ ?_
                · intro hb0
                  simp only [pCP] at hb0
                  rw [hI_int (a := 0) (by omega)] at hb0
                  have hb0 : ((0 : Nat) : Int) = (0 : Int) := by omega
                  refine ok_seq 3 (σ' := (109, [(3, .int (Int32.ofInt 0)), (5, .int (nI 0)), (1, .int (nI an)), (4, .int (nI 0)), (2, .int (nI o)), (0, .ref 185)], [.int (Int32.ofInt 0)], gSh, M2)) rfl ?_
                  rw [cI_0]
                  refine ok_if 116 rfl rfl (fun _ => ?_) (fun hz => absurd (by simp only [pCP]; rw [hI_int (a := 0) (by omega)]; omega) hz)
                  refine ok_seq 2 (σ' := (7, [(3, .int (nI 0)), (5, .int (nI 0)), (1, .int (nI an)), (4, .int (nI 0)), (2, .int (nI o)), (0, .ref 185)], [.int (nI 0)], gSh, M2)) rfl ?_
                  refine ok_if 119 rfl rfl (fun _ => ?_) (fun hz => absurd (by simp only [pCP]; rw [hI_int (a := 0) (by omega)]; omega) hz)
                  refine ok_seq 1 (σ' := (120, [(3, .int (nI 0)), (5, .int (nI 0)), (1, .int (nI an)), (4, .int (nI 0)), (2, .int (nI o)), (0, .ref 185)], [.int (Int32.ofInt 0)], gSh, M2)) rfl ?_
                  rw [cI_0]
                  exact ok_ret (i := .ireturn) (len := 1) rfl rfl ⟨some (.int (nI 0)), rfl, rfl, Or.inl ⟨rfl, w2, c2, D', hq2, hC2, by omega, by omega⟩⟩
                · intro hb0
                  simp only [pCP] at hb0
                  rw [hI_int (a := 0) (by omega)] at hb0
                  have hb0 : ((0 : Nat) : Int) ≠ (0 : Int) := by omega
                  refine ok_seq 4 (σ' := (109, [(3, .int (Int32.ofInt 1)), (5, .int (nI 0)), (1, .int (nI an)), (4, .int (nI 0)), (2, .int (nI o)), (0, .ref 185)], [.int (Int32.ofInt 1)], gSh, M2)) rfl ?_
                  rw [cI_1]
                  refine ok_if 116 rfl rfl (fun hz => absurd hz (by simp only [pCP]; rw [hI_int (a := 1) (by omega)]; omega)) (fun _ => ?_)
                  refine ok_seq 1 (σ' := (113, [(3, .int (nI 1)), (5, .int (nI 0)), (1, .int (nI an)), (4, .int (nI 0)), (2, .int (nI o)), (0, .ref 185)], [.ref 185], gSh, M2)) rfl ?_
                  have ht : tok.toInt ≠ 0 := by first | exact z3 (by omega) | omega
                  refine ok_call (mi := 180) (as := [.ref 185]) (pc' := 116) (L' := [(3, .int (nI 1)), (5, .int (nI 0)), (1, .int (nI an)), (4, .int (nI 0)), (2, .int (nI o)), (0, .ref 185)]) (st' := []) (sh' := gSh) (M' := M2) (i := .invokevirtual 189) (len := 3) rfl rfl ?_
                  refine (((c_nextQ (d := 0) hT hq2.1.1.1 hC2 h12 ht).deep (by omega))).mono ?_
                  rintro v2 ⟨sh2, M8⟩ ⟨rfl, hsh, ⟨a8, hN8⟩, hC8⟩
                  have hsh : sh2 = gSh := hsh
                  subst hsh
                  dsimp only at hN8 hC8
                  refine ok_seq 1 (σ' := (6, [(3, .int (nI 1)), (5, .int (nI 0)), (1, .int (nI an)), (4, .int (nI 0)), (2, .int (nI o)), (0, .ref 185)], [], gSh, M8)) rfl ?_
                  have hlt := PC.le hC2 h12 ht
                  exact ih (300 - (c2 + 1)) (by omega) (c2 + 1) an o 1 w2 D' M8 _ rfl (by omega) (by omega) (by omega) (by decide) (hq2.next hN8) hC8 (fun _ => by first | omega | (show _ ≤ (D').2; omega)) (fun hz => by omega) (fun _ => by omega) (Or.inr (Or.inr ⟨_, _, rfl⟩))
            · intro hn0
              simp only [pCP] at hn0
              rw [hI_int (a := an) (by omega)] at hn0
              have hn0 : ((an : Nat) : Int) = (0 : Int) := by omega
              refine ok_seq 1 (σ' := (80, [(5, .int (nI 0)), (1, .int (nI an)), (4, .int (nI 0)), (3, .int (nI m)), (2, .int (nI o)), (0, .ref 185)], [.int (nI o)], gSh, M2)) rfl ?_
              refine ok_if 90 rfl rfl ?_ ?_
              · intro ho0
                simp only [pCP] at ho0
                rw [hI_int (a := o) (by omega)] at ho0
                have ho0 : ((o : Nat) : Int) = (0 : Int) := by omega
                refine ok_seq 3 (σ' := (94, [(2, .int (nI 0)), (5, .int (nI 0)), (1, .int (nI an)), (4, .int (nI 0)), (3, .int (nI m)), (0, .ref 185)], [.int (nI an)], gSh, M2)) rfl ?_
                refine ok_if 102 rfl rfl ?_ ?_
                · intro hq0
                  simp only [pCP] at hq0
                  rw [hI_int (a := an) (by omega)] at hq0
                  have hq0 : ((an : Nat) : Int) ≠ (0 : Int) := by omega
                  refine ok_seq 4 (σ' := (109, [(3, .int (Int32.ofInt 1)), (2, .int (nI 0)), (5, .int (nI 0)), (1, .int (nI an)), (4, .int (nI 0)), (0, .ref 185)], [.int (Int32.ofInt 1)], gSh, M2)) rfl ?_
                  rw [cI_1]
                  refine ok_if 116 rfl rfl (fun hz => absurd hz (by simp only [pCP]; rw [hI_int (a := 1) (by omega)]; omega)) (fun _ => ?_)
                  refine ok_seq 1 (σ' := (113, [(3, .int (nI 1)), (2, .int (nI 0)), (5, .int (nI 0)), (1, .int (nI an)), (4, .int (nI 0)), (0, .ref 185)], [.ref 185], gSh, M2)) rfl ?_
                  have ht : tok.toInt ≠ 0 := by first | exact z3 (by omega) | omega
                  refine ok_call (mi := 180) (as := [.ref 185]) (pc' := 116) (L' := [(3, .int (nI 1)), (2, .int (nI 0)), (5, .int (nI 0)), (1, .int (nI an)), (4, .int (nI 0)), (0, .ref 185)]) (st' := []) (sh' := gSh) (M' := M2) (i := .invokevirtual 189) (len := 3) rfl rfl ?_
                  refine (((c_nextQ (d := 0) hT hq2.1.1.1 hC2 h12 ht).deep (by omega))).mono ?_
                  rintro v2 ⟨sh2, M8⟩ ⟨rfl, hsh, ⟨a8, hN8⟩, hC8⟩
                  have hsh : sh2 = gSh := hsh
                  subst hsh
                  dsimp only at hN8 hC8
                  refine ok_seq 1 (σ' := (6, [(3, .int (nI 1)), (2, .int (nI 0)), (5, .int (nI 0)), (1, .int (nI an)), (4, .int (nI 0)), (0, .ref 185)], [], gSh, M8)) rfl ?_
                  have hlt := PC.le hC2 h12 ht
                  exact ih (300 - (c2 + 1)) (by omega) (c2 + 1) an 0 1 w2 D' M8 _ rfl (by omega) (by omega) (by omega) (by decide) (hq2.next hN8) hC8 (fun _ => by first | omega | (show _ ≤ (D').2; omega)) (fun hz => by omega) (fun _ => by omega) (Or.inr (Or.inl ⟨_, _, rfl⟩))
                · intro hq0
                  simp only [pCP] at hq0
                  rw [hI_int (a := an) (by omega)] at hq0
                  have hq0 : ((an : Nat) : Int) = (0 : Int) := by omega
                  refine ok_seq 1 (σ' := (99, [(2, .int (nI 0)), (5, .int (nI 0)), (1, .int (nI an)), (4, .int (nI 0)), (3, .int (nI m)), (0, .ref 185)], [.int (nI 0)], gSh, M2)) rfl ?_
                  refine ok_if 106 rfl rfl ?_ ?_
                  · intro hb0
                    simp only [pCP] at hb0
                    rw [hI_int (a := 0) (by omega)] at hb0
                    have hb0 : ((0 : Nat) : Int) = (0 : Int) := by omega
                    refine ok_seq 3 (σ' := (109, [(3, .int (Int32.ofInt 0)), (2, .int (nI 0)), (5, .int (nI 0)), (1, .int (nI an)), (4, .int (nI 0)), (0, .ref 185)], [.int (Int32.ofInt 0)], gSh, M2)) rfl ?_
                    rw [cI_0]
                    refine ok_if 116 rfl rfl (fun _ => ?_) (fun hz => absurd (by simp only [pCP]; rw [hI_int (a := 0) (by omega)]; omega) hz)
                    refine ok_seq 2 (σ' := (7, [(3, .int (nI 0)), (2, .int (nI 0)), (5, .int (nI 0)), (1, .int (nI an)), (4, .int (nI 0)), (0, .ref 185)], [.int (nI 0)], gSh, M2)) rfl ?_
                    refine ok_if 119 rfl rfl (fun _ => ?_) (fun hz => absurd (by simp only [pCP]; rw [hI_int (a := 0) (by omega)]; omega) hz)
                    refine ok_seq 1 (σ' := (120, [(3, .int (nI 0)), (2, .int (nI 0)), (5, .int (nI 0)), (1, .int (nI an)), (4, .int (nI 0)), (0, .ref 185)], [.int (Int32.ofInt 0)], gSh, M2)) rfl ?_
                    rw [cI_0]
                    exact ok_ret (i := .ireturn) (len := 1) rfl rfl ⟨some (.int (nI 0)), rfl, rfl, Or.inl ⟨rfl, w2, c2, D', hq2, hC2, by omega, by omega⟩⟩
                  · intro hb0
                    simp only [pCP] at hb0
                    rw [hI_int (a := 0) (by omega)] at hb0
                    have hb0 : ((0 : Nat) : Int) ≠ (0 : Int) := by omega
                    refine ok_seq 4 (σ' := (109, [(3, .int (Int32.ofInt 1)), (2, .int (nI 0)), (5, .int (nI 0)), (1, .int (nI an)), (4, .int (nI 0)), (0, .ref 185)], [.int (Int32.ofInt 1)], gSh, M2)) rfl ?_
                    rw [cI_1]
                    refine ok_if 116 rfl rfl (fun hz => absurd hz (by simp only [pCP]; rw [hI_int (a := 1) (by omega)]; omega)) (fun _ => ?_)
                    refine ok_seq 1 (σ' := (113, [(3, .int (nI 1)), (2, .int (nI 0)), (5, .int (nI 0)), (1, .int (nI an)), (4, .int (nI 0)), (0, .ref 185)], [.ref 185], gSh, M2)) rfl ?_
                    have ht : tok.toInt ≠ 0 := by first | exact z3 (by omega) | omega
                    refine ok_call (mi := 180) (as := [.ref 185]) (pc' := 116) (L' := [(3, .int (nI 1)), (2, .int (nI 0)), (5, .int (nI 0)), (1, .int (nI an)), (4, .int (nI 0)), (0, .ref 185)]) (st' := []) (sh' := gSh) (M' := M2) (i := .invokevirtual 189) (len := 3) rfl rfl ?_
                    refine (((c_nextQ (d := 0) hT hq2.1.1.1 hC2 h12 ht).deep (by omega))).mono ?_
                    rintro v2 ⟨sh2, M8⟩ ⟨rfl, hsh, ⟨a8, hN8⟩, hC8⟩
                    have hsh : sh2 = gSh := hsh
                    subst hsh
                    dsimp only at hN8 hC8
                    refine ok_seq 1 (σ' := (6, [(3, .int (nI 1)), (2, .int (nI 0)), (5, .int (nI 0)), (1, .int (nI an)), (4, .int (nI 0)), (0, .ref 185)], [], gSh, M8)) rfl ?_
                    have hlt := PC.le hC2 h12 ht
                    exact ih (300 - (c2 + 1)) (by omega) (c2 + 1) an 0 1 w2 D' M8 _ rfl (by omega) (by omega) (by omega) (by decide) (hq2.next hN8) hC8 (fun _ => by first | omega | (show _ ≤ (D').2; omega)) (fun hz => by omega) (fun _ => by omega) (Or.inr (Or.inl ⟨_, _, rfl⟩))
              · intro ho0
                simp only [pCP] at ho0
                rw [hI_int (a := o) (by omega)] at ho0
                have ho0 : ((o : Nat) : Int) ≠ (0 : Int) := by omega
                refine ok_seq 3 (σ' := (87, [(5, .int (nI 0)), (1, .int (nI an)), (4, .int (nI 0)), (3, .int (nI m)), (2, .int (nI o)), (0, .ref 185)], [.int (Int32.ofInt 0), .int ((Int8.ofInt 22).toInt32), .ref 185], gSh, M2)) rfl ?_
                rw [(show (Int8.ofInt 22).toInt32 = nI 22 by decide), cI_0]
                refine ok_call (mi := 186) (as := [.ref 185, .int (nI 22), .int (nI 0)]) (pc' := 90) (L' := [(5, .int (nI 0)), (1, .int (nI an)), (4, .int (nI 0)), (3, .int (nI m)), (2, .int (nI o)), (0, .ref 185)]) (st' := []) (sh' := gSh) (M' := M2) (i := .invokevirtual 170) (len := 3) rfl rfl ?_
                refine ((c_emit0 (d := d + dN + 6) hT hq2 (D' := (D'.1, D'.2 - 1)) (o := nI 22) (v := nI 0) (Or.inr (Or.inr (Or.inr (Or.inr (Or.inr (Or.inr ⟨by decide, by decide, by omega, rfl⟩)))))) (by omega))).mono ?_
                rintro v ⟨sh2, M7⟩ ⟨rfl, hsh, hq7, hf7⟩
                have hsh : sh2 = gSh := hsh
                subst hsh
                dsimp only at hq7 hf7
                refine ok_seq 3 (σ' := (94, [(2, .int (nI 0)), (5, .int (nI 0)), (1, .int (nI an)), (4, .int (nI 0)), (3, .int (nI m)), (0, .ref 185)], [.int (nI an)], gSh, M7)) rfl ?_
                refine ok_if 102 rfl rfl ?_ ?_
                · intro hq0
                  simp only [pCP] at hq0
                  rw [hI_int (a := an) (by omega)] at hq0
                  have hq0 : ((an : Nat) : Int) ≠ (0 : Int) := by omega
                  refine ok_seq 4 (σ' := (109, [(3, .int (Int32.ofInt 1)), (2, .int (nI 0)), (5, .int (nI 0)), (1, .int (nI an)), (4, .int (nI 0)), (0, .ref 185)], [.int (Int32.ofInt 1)], gSh, M7)) rfl ?_
                  rw [cI_1]
                  refine ok_if 116 rfl rfl (fun hz => absurd hz (by simp only [pCP]; rw [hI_int (a := 1) (by omega)]; omega)) (fun _ => ?_)
                  refine ok_seq 1 (σ' := (113, [(3, .int (nI 1)), (2, .int (nI 0)), (5, .int (nI 0)), (1, .int (nI an)), (4, .int (nI 0)), (0, .ref 185)], [.ref 185], gSh, M7)) rfl ?_
                  have ht : tok.toInt ≠ 0 := by first | exact z3 (by omega) | omega
                  refine ok_call (mi := 180) (as := [.ref 185]) (pc' := 116) (L' := [(3, .int (nI 1)), (2, .int (nI 0)), (5, .int (nI 0)), (1, .int (nI an)), (4, .int (nI 0)), (0, .ref 185)]) (st' := []) (sh' := gSh) (M' := M7) (i := .invokevirtual 189) (len := 3) rfl rfl ?_
                  refine (((c_nextQ (d := 0) hT hq7.1.1.1 (PC.keep hC2 (hf7.at 10 (by decide)) (hf7.at 12 (by decide))) (by rw [hf7.at 12 (by decide)]; exact h12) ht).deep (by omega))).mono ?_
                  rintro v2 ⟨sh2, M8⟩ ⟨rfl, hsh, ⟨a8, hN8⟩, hC8⟩
                  have hsh : sh2 = gSh := hsh
                  subst hsh
                  dsimp only at hN8 hC8
                  refine ok_seq 1 (σ' := (6, [(3, .int (nI 1)), (2, .int (nI 0)), (5, .int (nI 0)), (1, .int (nI an)), (4, .int (nI 0)), (0, .ref 185)], [], gSh, M8)) rfl ?_
                  have hlt := PC.le (PC.keep hC2 (hf7.at 10 (by decide)) (hf7.at 12 (by decide))) (by rw [hf7.at 12 (by decide)]; exact h12) ht
                  exact ih (300 - (c2 + 1)) (by omega) (c2 + 1) an 0 1 (w2 + 1) (D'.1, D'.2 - 1) M8 _ rfl (by omega) (by omega) (by omega) (by decide) (hq7.next hN8) hC8 (fun _ => by first | omega | (show _ ≤ ((D'.1, D'.2 - 1)).2; omega)) (fun hz => by omega) (fun _ => by omega) (Or.inr (Or.inl ⟨_, _, rfl⟩))
                · intro hq0
                  simp only [pCP] at hq0
                  rw [hI_int (a := an) (by omega)] at hq0
                  have hq0 : ((an : Nat) : Int) = (0 : Int) := by omega
                  refine ok_seq 1 (σ' := (99, [(2, .int (nI 0)), (5, .int (nI 0)), (1, .int (nI an)), (4, .int (nI 0)), (3, .int (nI m)), (0, .ref 185)], [.int (nI 0)], gSh, M7)) rfl ?_
                  refine ok_if 106 rfl rfl ?_ ?_
                  · intro hb0
                    simp only [pCP] at hb0
                    rw [hI_int (a := 0) (by omega)] at hb0
                    have hb0 : ((0 : Nat) : Int) = (0 : Int) := by omega
                    refine ok_seq 3 (σ' := (109, [(3, .int (Int32.ofInt 0)), (2, .int (nI 0)), (5, .int (nI 0)), (1, .int (nI an)), (4, .int (nI 0)), (0, .ref 185)], [.int (Int32.ofInt 0)], gSh, M7)) rfl ?_
                    rw [cI_0]
                    refine ok_if 116 rfl rfl (fun _ => ?_) (fun hz => absurd (by simp only [pCP]; rw [hI_int (a := 0) (by omega)]; omega) hz)
                    refine ok_seq 2 (σ' := (7, [(3, .int (nI 0)), (2, .int (nI 0)), (5, .int (nI 0)), (1, .int (nI an)), (4, .int (nI 0)), (0, .ref 185)], [.int (nI 0)], gSh, M7)) rfl ?_
                    refine ok_if 119 rfl rfl (fun _ => ?_) (fun hz => absurd (by simp only [pCP]; rw [hI_int (a := 0) (by omega)]; omega) hz)
                    refine ok_seq 1 (σ' := (120, [(3, .int (nI 0)), (2, .int (nI 0)), (5, .int (nI 0)), (1, .int (nI an)), (4, .int (nI 0)), (0, .ref 185)], [.int (Int32.ofInt 0)], gSh, M7)) rfl ?_
                    rw [cI_0]
                    exact ok_ret (i := .ireturn) (len := 1) rfl rfl ⟨some (.int (nI 0)), rfl, rfl, Or.inl ⟨rfl, (w2 + 1), c2, (D'.1, D'.2 - 1), hq7, (PC.keep hC2 (hf7.at 10 (by decide)) (hf7.at 12 (by decide))), by omega, by omega⟩⟩
                  · intro hb0
                    simp only [pCP] at hb0
                    rw [hI_int (a := 0) (by omega)] at hb0
                    have hb0 : ((0 : Nat) : Int) ≠ (0 : Int) := by omega
                    refine ok_seq 4 (σ' := (109, [(3, .int (Int32.ofInt 1)), (2, .int (nI 0)), (5, .int (nI 0)), (1, .int (nI an)), (4, .int (nI 0)), (0, .ref 185)], [.int (Int32.ofInt 1)], gSh, M7)) rfl ?_
                    rw [cI_1]
                    refine ok_if 116 rfl rfl (fun hz => absurd hz (by simp only [pCP]; rw [hI_int (a := 1) (by omega)]; omega)) (fun _ => ?_)
                    refine ok_seq 1 (σ' := (113, [(3, .int (nI 1)), (2, .int (nI 0)), (5, .int (nI 0)), (1, .int (nI an)), (4, .int (nI 0)), (0, .ref 185)], [.ref 185], gSh, M7)) rfl ?_
                    have ht : tok.toInt ≠ 0 := by first | exact z3 (by omega) | omega
                    refine ok_call (mi := 180) (as := [.ref 185]) (pc' := 116) (L' := [(3, .int (nI 1)), (2, .int (nI 0)), (5, .int (nI 0)), (1, .int (nI an)), (4, .int (nI 0)), (0, .ref 185)]) (st' := []) (sh' := gSh) (M' := M7) (i := .invokevirtual 189) (len := 3) rfl rfl ?_
                    refine (((c_nextQ (d := 0) hT hq7.1.1.1 (PC.keep hC2 (hf7.at 10 (by decide)) (hf7.at 12 (by decide))) (by rw [hf7.at 12 (by decide)]; exact h12) ht).deep (by omega))).mono ?_
                    rintro v2 ⟨sh2, M8⟩ ⟨rfl, hsh, ⟨a8, hN8⟩, hC8⟩
                    have hsh : sh2 = gSh := hsh
                    subst hsh
                    dsimp only at hN8 hC8
                    refine ok_seq 1 (σ' := (6, [(3, .int (nI 1)), (2, .int (nI 0)), (5, .int (nI 0)), (1, .int (nI an)), (4, .int (nI 0)), (0, .ref 185)], [], gSh, M8)) rfl ?_
                    have hlt := PC.le (PC.keep hC2 (hf7.at 10 (by decide)) (hf7.at 12 (by decide))) (by rw [hf7.at 12 (by decide)]; exact h12) ht
                    exact ih (300 - (c2 + 1)) (by omega) (c2 + 1) an 0 1 (w2 + 1) (D'.1, D'.2 - 1) M8 _ rfl (by omega) (by omega) (by omega) (by decide) (hq7.next hN8) hC8 (fun _ => by first | omega | (show _ ≤ ((D'.1, D'.2 - 1)).2; omega)) (fun hz => by omega) (fun _ => by omega) (Or.inr (Or.inl ⟨_, _, rfl⟩))
          · intro h2
            simp only [pCP] at h2
            rw [hI_int (a := 2) (by omega)] at h2
            have h2 : (tok).toInt = ((2 : Nat) : Int) := by omega
            refine ok_seq 2 (σ' := (61, [(1, .int (nI an)), (4, .int (nI 0)), (3, .int (nI m)), (2, .int (nI o)), (5, .int y5), (0, .ref 185)], [M2 185 14], gSh, M2)) rfl ?_
            rw [h14]
            refine ok_seq 2 (σ' := (65, [(1, .int (nI an)), (4, .int (nI 0)), (3, .int (nI m)), (2, .int (nI o)), (5, .int y5), (0, .ref 185)], [.int (lg_cmp wd ((28530 : Int64)))], gSh, M2)) rfl ?_
            refine ok_if 72 rfl rfl ?_ ?_
            · intro hw
              simp only [pCP] at hw
              have hw : (lg_cmp wd ((28530 : Int64))).toInt ≠ (0 : Int) := by omega
              refine ok_seq 3 (σ' := (76, [(5, .int (Int32.ofInt 0)), (1, .int (nI an)), (4, .int (nI 0)), (3, .int (nI m)), (2, .int (nI o)), (0, .ref 185)], [.int (nI an)], gSh, M2)) rfl ?_
              rw [cI_0]
              refine ok_if 93 rfl rfl ?_ ?_
              · intro hn0
                simp only [pCP] at hn0
                rw [hI_int (a := an) (by omega)] at hn0
                have hn0 : ((an : Nat) : Int) ≠ (0 : Int) := by omega
                refine ok_seq 1 (σ' := (94, [(5, .int (nI 0)), (1, .int (nI an)), (4, .int (nI 0)), (3, .int (nI m)), (2, .int (nI o)), (0, .ref 185)], [.int (nI an)], gSh, M2)) rfl ?_
                refine ok_if 102 rfl rfl ?_ ?_
                · intro hq0
                  simp only [pCP] at hq0
                  rw [hI_int (a := an) (by omega)] at hq0
                  have hq0 : ((an : Nat) : Int) ≠ (0 : Int) := by omega
                  refine ok_seq 4 (σ' := (109, [(3, .int (Int32.ofInt 1)), (5, .int (nI 0)), (1, .int (nI an)), (4, .int (nI 0)), (2, .int (nI o)), (0, .ref 185)], [.int (Int32.ofInt 1)], gSh, M2)) rfl ?_
                  rw [cI_1]
                  refine ok_if 116 rfl rfl (fun hz => absurd hz (by simp only [pCP]; rw [hI_int (a := 1) (by omega)]; omega)) (fun _ => ?_)
                  refine ok_seq 1 (σ' := (113, [(3, .int (nI 1)), (5, .int (nI 0)), (1, .int (nI an)), (4, .int (nI 0)), (2, .int (nI o)), (0, .ref 185)], [.ref 185], gSh, M2)) rfl ?_
                  have ht : tok.toInt ≠ 0 := by first | exact z3 (by omega) | omega
                  refine ok_call (mi := 180) (as := [.ref 185]) (pc' := 116) (L' := [(3, .int (nI 1)), (5, .int (nI 0)), (1, .int (nI an)), (4, .int (nI 0)), (2, .int (nI o)), (0, .ref 185)]) (st' := []) (sh' := gSh) (M' := M2) (i := .invokevirtual 189) (len := 3) rfl rfl ?_
                  refine (((c_nextQ (d := 0) hT hq2.1.1.1 hC2 h12 ht).deep (by omega))).mono ?_
                  rintro v2 ⟨sh2, M8⟩ ⟨rfl, hsh, ⟨a8, hN8⟩, hC8⟩
                  have hsh : sh2 = gSh := hsh
                  subst hsh
                  dsimp only at hN8 hC8
                  refine ok_seq 1 (σ' := (6, [(3, .int (nI 1)), (5, .int (nI 0)), (1, .int (nI an)), (4, .int (nI 0)), (2, .int (nI o)), (0, .ref 185)], [], gSh, M8)) rfl ?_
                  have hlt := PC.le hC2 h12 ht
                  exact ih (300 - (c2 + 1)) (by omega) (c2 + 1) an o 1 w2 D' M8 _ rfl (by omega) (by omega) (by omega) (by decide) (hq2.next hN8) hC8 (fun _ => by first | omega | (show _ ≤ (D').2; omega)) (fun hz => by omega) (fun _ => by omega) (Or.inr (Or.inr ⟨_, _, rfl⟩))
                · intro hq0
                  simp only [pCP] at hq0
                  rw [hI_int (a := an) (by omega)] at hq0
                  have hq0 : ((an : Nat) : Int) = (0 : Int) := by omega
                  refine ok_seq 1 (σ' := (99, [(5, .int (nI 0)), (1, .int (nI an)), (4, .int (nI 0)), (3, .int (nI m)), (2, .int (nI o)), (0, .ref 185)], [.int (nI 0)], gSh, M2)) rfl ?_
                  refine ok_if 106 rfl rfl ?_ ?_
                  · intro hb0
                    simp only [pCP] at hb0
                    rw [hI_int (a := 0) (by omega)] at hb0
                    have hb0 : ((0 : Nat) : Int) = (0 : Int) := by omega
                    refine ok_seq 3 (σ' := (109, [(3, .int (Int32.ofInt 0)), (5, .int (nI 0)), (1, .int (nI an)), (4, .int (nI 0)), (2, .int (nI o)), (0, .ref 185)], [.int (Int32.ofInt 0)], gSh, M2)) rfl ?_
                    rw [cI_0]
                    refine ok_if 116 rfl rfl (fun _ => ?_) (fun hz => absurd (by simp only [pCP]; rw [hI_int (a := 0) (by omega)]; omega) hz)
                    refine ok_seq 2 (σ' := (7, [(3, .int (nI 0)), (5, .int (nI 0)), (1, .int (nI an)), (4, .int (nI 0)), (2, .int (nI o)), (0, .ref 185)], [.int (nI 0)], gSh, M2)) rfl ?_
                    refine ok_if 119 rfl rfl (fun _ => ?_) (fun hz => absurd (by simp only [pCP]; rw [hI_int (a := 0) (by omega)]; omega) hz)
                    refine ok_seq 1 (σ' := (120, [(3, .int (nI 0)), (5, .int (nI 0)), (1, .int (nI an)), (4, .int (nI 0)), (2, .int (nI o)), (0, .ref 185)], [.int (Int32.ofInt 0)], gSh, M2)) rfl ?_
                    rw [cI_0]
                    exact ok_ret (i := .ireturn) (len := 1) rfl rfl ⟨some (.int (nI 0)), rfl, rfl, Or.inl ⟨rfl, w2, c2, D', hq2, hC2, by omega, by omega⟩⟩
                  · intro hb0
                    simp only [pCP] at hb0
                    rw [hI_int (a := 0) (by omega)] at hb0
                    have hb0 : ((0 : Nat) : Int) ≠ (0 : Int) := by omega
                    refine ok_seq 4 (σ' := (109, [(3, .int (Int32.ofInt 1)), (5, .int (nI 0)), (1, .int (nI an)), (4, .int (nI 0)), (2, .int (nI o)), (0, .ref 185)], [.int (Int32.ofInt 1)], gSh, M2)) rfl ?_
                    rw [cI_1]
                    refine ok_if 116 rfl rfl (fun hz => absurd hz (by simp only [pCP]; rw [hI_int (a := 1) (by omega)]; omega)) (fun _ => ?_)
                    refine ok_seq 1 (σ' := (113, [(3, .int (nI 1)), (5, .int (nI 0)), (1, .int (nI an)), (4, .int (nI 0)), (2, .int (nI o)), (0, .ref 185)], [.ref 185], gSh, M2)) rfl ?_
                    have ht : tok.toInt ≠ 0 := by first | exact z3 (by omega) | omega
                    refine ok_call (mi := 180) (as := [.ref 185]) (pc' := 116) (L' := [(3, .int (nI 1)), (5, .int (nI 0)), (1, .int (nI an)), (4, .int (nI 0)), (2, .int (nI o)), (0, .ref 185)]) (st' := []) (sh' := gSh) (M' := M2) (i := .invokevirtual 189) (len := 3) rfl rfl ?_
                    refine (((c_nextQ (d := 0) hT hq2.1.1.1 hC2 h12 ht).deep (by omega))).mono ?_
                    rintro v2 ⟨sh2, M8⟩ ⟨rfl, hsh, ⟨a8, hN8⟩, hC8⟩
                    have hsh : sh2 = gSh := hsh
                    subst hsh
                    dsimp only at hN8 hC8
                    refine ok_seq 1 (σ' := (6, [(3, .int (nI 1)), (5, .int (nI 0)), (1, .int (nI an)), (4, .int (nI 0)), (2, .int (nI o)), (0, .ref 185)], [], gSh, M8)) rfl ?_
                    have hlt := PC.le hC2 h12 ht
                    exact ih (300 - (c2 + 1)) (by omega) (c2 + 1) an o 1 w2 D' M8 _ rfl (by omega) (by omega) (by omega) (by decide) (hq2.next hN8) hC8 (fun _ => by first | omega | (show _ ≤ (D').2; omega)) (fun hz => by omega) (fun _ => by omega) (Or.inr (Or.inr ⟨_, _, rfl⟩))
              · intro hn0
                simp only [pCP] at hn0
                rw [hI_int (a := an) (by omega)] at hn0
                have hn0 : ((an : Nat) : Int) = (0 : Int) := by omega
                refine ok_seq 1 (σ' := (80, [(5, .int (nI 0)), (1, .int (nI an)), (4, .int (nI 0)), (3, .int (nI m)), (2, .int (nI o)), (0, .ref 185)], [.int (nI o)], gSh, M2)) rfl ?_
                refine ok_if 90 rfl rfl ?_ ?_
                · intro ho0
                  simp only [pCP] at ho0
                  rw [hI_int (a := o) (by omega)] at ho0
                  have ho0 : ((o : Nat) : Int) = (0 : Int) := by omega
                  refine ok_seq 3 (σ' := (94, [(2, .int (nI 0)), (5, .int (nI 0)), (1, .int (nI an)), (4, .int (nI 0)), (3, .int (nI m)), (0, .ref 185)], [.int (nI an)], gSh, M2)) rfl ?_
                  refine ok_if 102 rfl rfl ?_ ?_
                  · intro hq0
                    simp only [pCP] at hq0
                    rw [hI_int (a := an) (by omega)] at hq0
                    have hq0 : ((an : Nat) : Int) ≠ (0 : Int) := by omega
                    refine ok_seq 4 (σ' := (109, [(3, .int (Int32.ofInt 1)), (2, .int (nI 0)), (5, .int (nI 0)), (1, .int (nI an)), (4, .int (nI 0)), (0, .ref 185)], [.int (Int32.ofInt 1)], gSh, M2)) rfl ?_
                    rw [cI_1]
                    refine ok_if 116 rfl rfl (fun hz => absurd hz (by simp only [pCP]; rw [hI_int (a := 1) (by omega)]; omega)) (fun _ => ?_)
                    refine ok_seq 1 (σ' := (113, [(3, .int (nI 1)), (2, .int (nI 0)), (5, .int (nI 0)), (1, .int (nI an)), (4, .int (nI 0)), (0, .ref 185)], [.ref 185], gSh, M2)) rfl ?_
                    have ht : tok.toInt ≠ 0 := by first | exact z3 (by omega) | omega
                    refine ok_call (mi := 180) (as := [.ref 185]) (pc' := 116) (L' := [(3, .int (nI 1)), (2, .int (nI 0)), (5, .int (nI 0)), (1, .int (nI an)), (4, .int (nI 0)), (0, .ref 185)]) (st' := []) (sh' := gSh) (M' := M2) (i := .invokevirtual 189) (len := 3) rfl rfl ?_
                    refine (((c_nextQ (d := 0) hT hq2.1.1.1 hC2 h12 ht).deep (by omega))).mono ?_
                    rintro v2 ⟨sh2, M8⟩ ⟨rfl, hsh, ⟨a8, hN8⟩, hC8⟩
                    have hsh : sh2 = gSh := hsh
                    subst hsh
                    dsimp only at hN8 hC8
                    refine ok_seq 1 (σ' := (6, [(3, .int (nI 1)), (2, .int (nI 0)), (5, .int (nI 0)), (1, .int (nI an)), (4, .int (nI 0)), (0, .ref 185)], [], gSh, M8)) rfl ?_
                    have hlt := PC.le hC2 h12 ht
                    exact ih (300 - (c2 + 1)) (by omega) (c2 + 1) an 0 1 w2 D' M8 _ rfl (by omega) (by omega) (by omega) (by decide) (hq2.next hN8) hC8 (fun _ => by first | omega | (show _ ≤ (D').2; omega)) (fun hz => by omega) (fun _ => by omega) (Or.inr (Or.inl ⟨_, _, rfl⟩))
                  · intro hq0
                    simp only [pCP] at hq0
                    rw [hI_int (a := an) (by omega)] at hq0
                    have hq0 : ((an : Nat) : Int) = (0 : Int) := by omega
                    refine ok_seq 1 (σ' := (99, [(2, .int (nI 0)), (5, .int (nI 0)), (1, .int (nI an)), (4, .int (nI 0)), (3, .int (nI m)), (0, .ref 185)], [.int (nI 0)], gSh, M2)) rfl ?_
                    refine ok_if 106 rfl rfl ?_ ?_
                    · intro hb0
                      simp only [pCP] at hb0
                      rw [hI_int (a := 0) (by omega)] at hb0
                      have hb0 : ((0 : Nat) : Int) = (0 : Int) := by omega
                      refine ok_seq 3 (σ' := (109, [(3, .int (Int32.ofInt 0)), (2, .int (nI 0)), (5, .int (nI 0)), (1, .int (nI an)), (4, .int (nI 0)), (0, .ref 185)], [.int (Int32.ofInt 0)], gSh, M2)) rfl ?_
                      rw [cI_0]
                      refine ok_if 116 rfl rfl (fun _ => ?_) (fun hz => absurd (by simp only [pCP]; rw [hI_int (a := 0) (by omega)]; omega) hz)
                      refine ok_seq 2 (σ' := (7, [(3, .int (nI 0)), (2, .int (nI 0)), (5, .int (nI 0)), (1, .int (nI an)), (4, .int (nI 0)), (0, .ref 185)], [.int (nI 0)], gSh, M2)) rfl ?_
                      refine ok_if 119 rfl rfl (fun _ => ?_) (fun hz => absurd (by simp only [pCP]; rw [hI_int (a := 0) (by omega)]; omega) hz)
                      refine ok_seq 1 (σ' := (120, [(3, .int (nI 0)), (2, .int (nI 0)), (5, .int (nI 0)), (1, .int (nI an)), (4, .int (nI 0)), (0, .ref 185)], [.int (Int32.ofInt 0)], gSh, M2)) rfl ?_
                      rw [cI_0]
                      exact ok_ret (i := .ireturn) (len := 1) rfl rfl ⟨some (.int (nI 0)), rfl, rfl, Or.inl ⟨rfl, w2, c2, D', hq2, hC2, by omega, by omega⟩⟩
                    · intro hb0
                      simp only [pCP] at hb0
                      rw [hI_int (a := 0) (by omega)] at hb0
                      have hb0 : ((0 : Nat) : Int) ≠ (0 : Int) := by omega
                      refine ok_seq 4 (σ' := (109, [(3, .int (Int32.ofInt 1)), (2, .int (nI 0)), (5, .int (nI 0)), (1, .int (nI an)), (4, .int (nI 0)), (0, .ref 185)], [.int (Int32.ofInt 1)], gSh, M2)) rfl ?_
                      rw [cI_1]
                      refine ok_if 116 rfl rfl (fun hz => absurd hz (by simp only [pCP]; rw [hI_int (a := 1) (by omega)]; omega)) (fun _ => ?_)
                      refine ok_seq 1 (σ' := (113, [(3, .int (nI 1)), (2, .int (nI 0)), (5, .int (nI 0)), (1, .int (nI an)), (4, .int (nI 0)), (0, .ref 185)], [.ref 185], gSh, M2)) rfl ?_
                      have ht : tok.toInt ≠ 0 := by first | exact z3 (by omega) | omega
                      refine ok_call (mi := 180) (as := [.ref 185]) (pc' := 116) (L' := [(3, .int (nI 1)), (2, .int (nI 0)), (5, .int (nI 0)), (1, .int (nI an)), (4, .int (nI 0)), (0, .ref 185)]) (st' := []) (sh' := gSh) (M' := M2) (i := .invokevirtual 189) (len := 3) rfl rfl ?_
                      refine (((c_nextQ (d := 0) hT hq2.1.1.1 hC2 h12 ht).deep (by omega))).mono ?_
                      rintro v2 ⟨sh2, M8⟩ ⟨rfl, hsh, ⟨a8, hN8⟩, hC8⟩
                      have hsh : sh2 = gSh := hsh
                      subst hsh
                      dsimp only at hN8 hC8
                      refine ok_seq 1 (σ' := (6, [(3, .int (nI 1)), (2, .int (nI 0)), (5, .int (nI 0)), (1, .int (nI an)), (4, .int (nI 0)), (0, .ref 185)], [], gSh, M8)) rfl ?_
                      have hlt := PC.le hC2 h12 ht
                      exact ih (300 - (c2 + 1)) (by omega) (c2 + 1) an 0 1 w2 D' M8 _ rfl (by omega) (by omega) (by omega) (by decide) (hq2.next hN8) hC8 (fun _ => by first | omega | (show _ ≤ (D').2; omega)) (fun hz => by omega) (fun _ => by omega) (Or.inr (Or.inl ⟨_, _, rfl⟩))
                · intro ho0
                  simp only [pCP] at ho0
                  rw [hI_int (a := o) (by omega)] at ho0
                  have ho0 : ((o : Nat) : Int) ≠ (0 : Int) := by omega
                  refine ok_seq 3 (σ' := (87, [(5, .int (nI 0)), (1, .int (nI an)), (4, .int (nI 0)), (3, .int (nI m)), (2, .int (nI o)), (0, .ref 185)], [.int (Int32.ofInt 0), .int ((Int8.ofInt 22).toInt32), .ref 185], gSh, M2)) rfl ?_
                  rw [(show (Int8.ofInt 22).toInt32 = nI 22 by decide), cI_0]
                  refine ok_call (mi := 186) (as := [.ref 185, .int (nI 22), .int (nI 0)]) (pc' := 90) (L' := [(5, .int (nI 0)), (1, .int (nI an)), (4, .int (nI 0)), (3, .int (nI m)), (2, .int (nI o)), (0, .ref 185)]) (st' := []) (sh' := gSh) (M' := M2) (i := .invokevirtual 170) (len := 3) rfl rfl ?_
                  refine ((c_emit0 (d := d + dN + 6) hT hq2 (D' := (D'.1, D'.2 - 1)) (o := nI 22) (v := nI 0) (Or.inr (Or.inr (Or.inr (Or.inr (Or.inr (Or.inr ⟨by decide, by decide, by omega, rfl⟩)))))) (by omega))).mono ?_
                  rintro v ⟨sh2, M7⟩ ⟨rfl, hsh, hq7, hf7⟩
                  have hsh : sh2 = gSh := hsh
                  subst hsh
                  dsimp only at hq7 hf7
                  refine ok_seq 3 (σ' := (94, [(2, .int (nI 0)), (5, .int (nI 0)), (1, .int (nI an)), (4, .int (nI 0)), (3, .int (nI m)), (0, .ref 185)], [.int (nI an)], gSh, M7)) rfl ?_
                  refine ok_if 102 rfl rfl ?_ ?_
                  · intro hq0
                    simp only [pCP] at hq0
                    rw [hI_int (a := an) (by omega)] at hq0
                    have hq0 : ((an : Nat) : Int) ≠ (0 : Int) := by omega
                    refine ok_seq 4 (σ' := (109, [(3, .int (Int32.ofInt 1)), (2, .int (nI 0)), (5, .int (nI 0)), (1, .int (nI an)), (4, .int (nI 0)), (0, .ref 185)], [.int (Int32.ofInt 1)], gSh, M7)) rfl ?_
                    rw [cI_1]
                    refine ok_if 116 rfl rfl (fun hz => absurd hz (by simp only [pCP]; rw [hI_int (a := 1) (by omega)]; omega)) (fun _ => ?_)
                    refine ok_seq 1 (σ' := (113, [(3, .int (nI 1)), (2, .int (nI 0)), (5, .int (nI 0)), (1, .int (nI an)), (4, .int (nI 0)), (0, .ref 185)], [.ref 185], gSh, M7)) rfl ?_
                    have ht : tok.toInt ≠ 0 := by first | exact z3 (by omega) | omega
                    refine ok_call (mi := 180) (as := [.ref 185]) (pc' := 116) (L' := [(3, .int (nI 1)), (2, .int (nI 0)), (5, .int (nI 0)), (1, .int (nI an)), (4, .int (nI 0)), (0, .ref 185)]) (st' := []) (sh' := gSh) (M' := M7) (i := .invokevirtual 189) (len := 3) rfl rfl ?_
                    refine (((c_nextQ (d := 0) hT hq7.1.1.1 (PC.keep hC2 (hf7.at 10 (by decide)) (hf7.at 12 (by decide))) (by rw [hf7.at 12 (by decide)]; exact h12) ht).deep (by omega))).mono ?_
                    rintro v2 ⟨sh2, M8⟩ ⟨rfl, hsh, ⟨a8, hN8⟩, hC8⟩
                    have hsh : sh2 = gSh := hsh
                    subst hsh
                    dsimp only at hN8 hC8
                    refine ok_seq 1 (σ' := (6, [(3, .int (nI 1)), (2, .int (nI 0)), (5, .int (nI 0)), (1, .int (nI an)), (4, .int (nI 0)), (0, .ref 185)], [], gSh, M8)) rfl ?_
                    have hlt := PC.le (PC.keep hC2 (hf7.at 10 (by decide)) (hf7.at 12 (by decide))) (by rw [hf7.at 12 (by decide)]; exact h12) ht
                    exact ih (300 - (c2 + 1)) (by omega) (c2 + 1) an 0 1 (w2 + 1) (D'.1, D'.2 - 1) M8 _ rfl (by omega) (by omega) (by omega) (by decide) (hq7.next hN8) hC8 (fun _ => by first | omega | (show _ ≤ ((D'.1, D'.2 - 1)).2; omega)) (fun hz => by omega) (fun _ => by omega) (Or.inr (Or.inl ⟨_, _, rfl⟩))
                  · intro hq0
                    simp only [pCP] at hq0
                    rw [hI_int (a := an) (by omega)] at hq0
                    have hq0 : ((an : Nat) : Int) = (0 : Int) := by omega
                    refine ok_seq 1 (σ' := (99, [(2, .int (nI 0)), (5, .int (nI 0)), (1, .int (nI an)), (4, .int (nI 0)), (3, .int (nI m)), (0, .ref 185)], [.int (nI 0)], gSh, M7)) rfl ?_
                    refine ok_if 106 rfl rfl ?_ ?_
                    · intro hb0
                      simp only [pCP] at hb0
                      rw [hI_int (a := 0) (by omega)] at hb0
                      have hb0 : ((0 : Nat) : Int) = (0 : Int) := by omega
                      refine ok_seq 3 (σ' := (109, [(3, .int (Int32.ofInt 0)), (2, .int (nI 0)), (5, .int (nI 0)), (1, .int (nI an)), (4, .int (nI 0)), (0, .ref 185)], [.int (Int32.ofInt 0)], gSh, M7)) rfl ?_
                      rw [cI_0]
                      refine ok_if 116 rfl rfl (fun _ => ?_) (fun hz => absurd (by simp only [pCP]; rw [hI_int (a := 0) (by omega)]; omega) hz)
                      refine ok_seq 2 (σ' := (7, [(3, .int (nI 0)), (2, .int (nI 0)), (5, .int (nI 0)), (1, .int (nI an)), (4, .int (nI 0)), (0, .ref 185)], [.int (nI 0)], gSh, M7)) rfl ?_
                      refine ok_if 119 rfl rfl (fun _ => ?_) (fun hz => absurd (by simp only [pCP]; rw [hI_int (a := 0) (by omega)]; omega) hz)
                      refine ok_seq 1 (σ' := (120, [(3, .int (nI 0)), (2, .int (nI 0)), (5, .int (nI 0)), (1, .int (nI an)), (4, .int (nI 0)), (0, .ref 185)], [.int (Int32.ofInt 0)], gSh, M7)) rfl ?_
                      rw [cI_0]
                      exact ok_ret (i := .ireturn) (len := 1) rfl rfl ⟨some (.int (nI 0)), rfl, rfl, Or.inl ⟨rfl, (w2 + 1), c2, (D'.1, D'.2 - 1), hq7, (PC.keep hC2 (hf7.at 10 (by decide)) (hf7.at 12 (by decide))), by omega, by omega⟩⟩
                    · intro hb0
                      simp only [pCP] at hb0
                      rw [hI_int (a := 0) (by omega)] at hb0
                      have hb0 : ((0 : Nat) : Int) ≠ (0 : Int) := by omega
                      refine ok_seq 4 (σ' := (109, [(3, .int (Int32.ofInt 1)), (2, .int (nI 0)), (5, .int (nI 0)), (1, .int (nI an)), (4, .int (nI 0)), (0, .ref 185)], [.int (Int32.ofInt 1)], gSh, M7)) rfl ?_
                      rw [cI_1]
                      refine ok_if 116 rfl rfl (fun hz => absurd hz (by simp only [pCP]; rw [hI_int (a := 1) (by omega)]; omega)) (fun _ => ?_)
                      refine ok_seq 1 (σ' := (113, [(3, .int (nI 1)), (2, .int (nI 0)), (5, .int (nI 0)), (1, .int (nI an)), (4, .int (nI 0)), (0, .ref 185)], [.ref 185], gSh, M7)) rfl ?_
                      have ht : tok.toInt ≠ 0 := by first | exact z3 (by omega) | omega
                      refine ok_call (mi := 180) (as := [.ref 185]) (pc' := 116) (L' := [(3, .int (nI 1)), (2, .int (nI 0)), (5, .int (nI 0)), (1, .int (nI an)), (4, .int (nI 0)), (0, .ref 185)]) (st' := []) (sh' := gSh) (M' := M7) (i := .invokevirtual 189) (len := 3) rfl rfl ?_
                      refine (((c_nextQ (d := 0) hT hq7.1.1.1 (PC.keep hC2 (hf7.at 10 (by decide)) (hf7.at 12 (by decide))) (by rw [hf7.at 12 (by decide)]; exact h12) ht).deep (by omega))).mono ?_
                      rintro v2 ⟨sh2, M8⟩ ⟨rfl, hsh, ⟨a8, hN8⟩, hC8⟩
                      have hsh : sh2 = gSh := hsh
                      subst hsh
                      dsimp only at hN8 hC8
                      refine ok_seq 1 (σ' := (6, [(3, .int (nI 1)), (2, .int (nI 0)), (5, .int (nI 0)), (1, .int (nI an)), (4, .int (nI 0)), (0, .ref 185)], [], gSh, M8)) rfl ?_
                      have hlt := PC.le (PC.keep hC2 (hf7.at 10 (by decide)) (hf7.at 12 (by decide))) (by rw [hf7.at 12 (by decide)]; exact h12) ht
                      exact ih (300 - (c2 + 1)) (by omega) (c2 + 1) an 0 1 (w2 + 1) (D'.1, D'.2 - 1) M8 _ rfl (by omega) (by omega) (by omega) (by decide) (hq7.next hN8) hC8 (fun _ => by first | omega | (show _ ≤ ((D'.1, D'.2 - 1)).2; omega)) (fun hz => by omega) (fun _ => by omega) (Or.inr (Or.inl ⟨_, _, rfl⟩))
            · intro hw
              simp only [pCP] at hw
              have hw : (lg_cmp wd ((28530 : Int64))).toInt = (0 : Int) := by omega
              refine ok_seq 4 (σ' := (76, [(5, .int (Int32.ofInt 1)), (1, .int (nI an)), (4, .int (nI 0)), (3, .int (nI m)), (2, .int (nI o)), (0, .ref 185)], [.int (nI an)], gSh, M2)) rfl ?_
              rw [cI_1]
              refine ok_if 93 rfl rfl ?_ ?_
              · intro hn0
                simp only [pCP] at hn0
                rw [hI_int (a := an) (by omega)] at hn0
                have hn0 : ((an : Nat) : Int) ≠ (0 : Int) := by omega
                refine ok_seq 1 (σ' := (94, [(5, .int (nI 1)), (1, .int (nI an)), (4, .int (nI 0)), (3, .int (nI m)), (2, .int (nI o)), (0, .ref 185)], [.int (nI an)], gSh, M2)) rfl ?_
                refine ok_if 102 rfl rfl ?_ ?_
                · intro hq0
                  simp only [pCP] at hq0
                  rw [hI_int (a := an) (by omega)] at hq0
                  have hq0 : ((an : Nat) : Int) ≠ (0 : Int) := by omega
                  refine ok_seq 4 (σ' := (109, [(3, .int (Int32.ofInt 1)), (5, .int (nI 1)), (1, .int (nI an)), (4, .int (nI 0)), (2, .int (nI o)), (0, .ref 185)], [.int (Int32.ofInt 1)], gSh, M2)) rfl ?_
                  rw [cI_1]
                  refine ok_if 116 rfl rfl (fun hz => absurd hz (by simp only [pCP]; rw [hI_int (a := 1) (by omega)]; omega)) (fun _ => ?_)
                  refine ok_seq 1 (σ' := (113, [(3, .int (nI 1)), (5, .int (nI 1)), (1, .int (nI an)), (4, .int (nI 0)), (2, .int (nI o)), (0, .ref 185)], [.ref 185], gSh, M2)) rfl ?_
                  have ht : tok.toInt ≠ 0 := by first | exact z3 (by omega) | omega
                  refine ok_call (mi := 180) (as := [.ref 185]) (pc' := 116) (L' := [(3, .int (nI 1)), (5, .int (nI 1)), (1, .int (nI an)), (4, .int (nI 0)), (2, .int (nI o)), (0, .ref 185)]) (st' := []) (sh' := gSh) (M' := M2) (i := .invokevirtual 189) (len := 3) rfl rfl ?_
                  refine (((c_nextQ (d := 0) hT hq2.1.1.1 hC2 h12 ht).deep (by omega))).mono ?_
                  rintro v2 ⟨sh2, M8⟩ ⟨rfl, hsh, ⟨a8, hN8⟩, hC8⟩
                  have hsh : sh2 = gSh := hsh
                  subst hsh
                  dsimp only at hN8 hC8
                  refine ok_seq 1 (σ' := (6, [(3, .int (nI 1)), (5, .int (nI 1)), (1, .int (nI an)), (4, .int (nI 0)), (2, .int (nI o)), (0, .ref 185)], [], gSh, M8)) rfl ?_
                  have hlt := PC.le hC2 h12 ht
                  exact ih (300 - (c2 + 1)) (by omega) (c2 + 1) an o 1 w2 D' M8 _ rfl (by omega) (by omega) (by omega) (by decide) (hq2.next hN8) hC8 (fun _ => by first | omega | (show _ ≤ (D').2; omega)) (fun hz => by omega) (fun _ => by omega) (Or.inr (Or.inr ⟨_, _, rfl⟩))
                · intro hq0
                  simp only [pCP] at hq0
                  rw [hI_int (a := an) (by omega)] at hq0
                  have hq0 : ((an : Nat) : Int) = (0 : Int) := by omega
                  refine ok_seq 1 (σ' := (99, [(5, .int (nI 1)), (1, .int (nI an)), (4, .int (nI 0)), (3, .int (nI m)), (2, .int (nI o)), (0, .ref 185)], [.int (nI 1)], gSh, M2)) rfl ?_
                  refine ok_if 106 rfl rfl ?_ ?_
                  · intro hb0
                    simp only [pCP] at hb0
                    rw [hI_int (a := 1) (by omega)] at hb0
                    have hb0 : ((1 : Nat) : Int) = (0 : Int) := by omega
                    refine ok_seq 3 (σ' := (109, [(3, .int (Int32.ofInt 0)), (5, .int (nI 1)), (1, .int (nI an)), (4, .int (nI 0)), (2, .int (nI o)), (0, .ref 185)], [.int (Int32.ofInt 0)], gSh, M2)) rfl ?_
                    rw [cI_0]
                    refine ok_if 116 rfl rfl (fun _ => ?_) (fun hz => absurd (by simp only [pCP]; rw [hI_int (a := 0) (by omega)]; omega) hz)
                    refine ok_seq 2 (σ' := (7, [(3, .int (nI 0)), (5, .int (nI 1)), (1, .int (nI an)), (4, .int (nI 0)), (2, .int (nI o)), (0, .ref 185)], [.int (nI 0)], gSh, M2)) rfl ?_
                    refine ok_if 119 rfl rfl (fun _ => ?_) (fun hz => absurd (by simp only [pCP]; rw [hI_int (a := 0) (by omega)]; omega) hz)
                    refine ok_seq 1 (σ' := (120, [(3, .int (nI 0)), (5, .int (nI 1)), (1, .int (nI an)), (4, .int (nI 0)), (2, .int (nI o)), (0, .ref 185)], [.int (Int32.ofInt 0)], gSh, M2)) rfl ?_
                    rw [cI_0]
                    exact ok_ret (i := .ireturn) (len := 1) rfl rfl ⟨some (.int (nI 0)), rfl, rfl, Or.inl ⟨rfl, w2, c2, D', hq2, hC2, by omega, by omega⟩⟩
                  · intro hb0
                    simp only [pCP] at hb0
                    rw [hI_int (a := 1) (by omega)] at hb0
                    have hb0 : ((1 : Nat) : Int) ≠ (0 : Int) := by omega
                    refine ok_seq 4 (σ' := (109, [(3, .int (Int32.ofInt 1)), (5, .int (nI 1)), (1, .int (nI an)), (4, .int (nI 0)), (2, .int (nI o)), (0, .ref 185)], [.int (Int32.ofInt 1)], gSh, M2)) rfl ?_
                    rw [cI_1]
                    refine ok_if 116 rfl rfl (fun hz => absurd hz (by simp only [pCP]; rw [hI_int (a := 1) (by omega)]; omega)) (fun _ => ?_)
                    refine ok_seq 1 (σ' := (113, [(3, .int (nI 1)), (5, .int (nI 1)), (1, .int (nI an)), (4, .int (nI 0)), (2, .int (nI o)), (0, .ref 185)], [.ref 185], gSh, M2)) rfl ?_
                    have ht : tok.toInt ≠ 0 := by first | exact z3 (by omega) | omega
                    refine ok_call (mi := 180) (as := [.ref 185]) (pc' := 116) (L' := [(3, .int (nI 1)), (5, .int (nI 1)), (1, .int (nI an)), (4, .int (nI 0)), (2, .int (nI o)), (0, .ref 185)]) (st' := []) (sh' := gSh) (M' := M2) (i := .invokevirtual 189) (len := 3) rfl rfl ?_
                    refine (((c_nextQ (d := 0) hT hq2.1.1.1 hC2 h12 ht).deep (by omega))).mono ?_
                    rintro v2 ⟨sh2, M8⟩ ⟨rfl, hsh, ⟨a8, hN8⟩, hC8⟩
                    have hsh : sh2 = gSh := hsh
                    subst hsh
                    dsimp only at hN8 hC8
                    refine ok_seq 1 (σ' := (6, [(3, .int (nI 1)), (5, .int (nI 1)), (1, .int (nI an)), (4, .int (nI 0)), (2, .int (nI o)), (0, .ref 185)], [], gSh, M8)) rfl ?_
                    have hlt := PC.le hC2 h12 ht
                    exact ih (300 - (c2 + 1)) (by omega) (c2 + 1) an o 1 w2 D' M8 _ rfl (by omega) (by omega) (by omega) (by decide) (hq2.next hN8) hC8 (fun _ => by first | omega | (show _ ≤ (D').2; omega)) (fun hz => by omega) (fun _ => by omega) (Or.inr (Or.inr ⟨_, _, rfl⟩))
              · intro hn0
                simp only [pCP] at hn0
                rw [hI_int (a := an) (by omega)] at hn0
                have hn0 : ((an : Nat) : Int) = (0 : Int) := by omega
                refine ok_seq 1 (σ' := (80, [(5, .int (nI 1)), (1, .int (nI an)), (4, .int (nI 0)), (3, .int (nI m)), (2, .int (nI o)), (0, .ref 185)], [.int (nI o)], gSh, M2)) rfl ?_
                refine ok_if 90 rfl rfl ?_ ?_
                · intro ho0
                  simp only [pCP] at ho0
                  rw [hI_int (a := o) (by omega)] at ho0
                  have ho0 : ((o : Nat) : Int) = (0 : Int) := by omega
                  refine ok_seq 3 (σ' := (94, [(2, .int (nI 1)), (5, .int (nI 1)), (1, .int (nI an)), (4, .int (nI 0)), (3, .int (nI m)), (0, .ref 185)], [.int (nI an)], gSh, M2)) rfl ?_
                  refine ok_if 102 rfl rfl ?_ ?_
                  · intro hq0
                    simp only [pCP] at hq0
                    rw [hI_int (a := an) (by omega)] at hq0
                    have hq0 : ((an : Nat) : Int) ≠ (0 : Int) := by omega
                    refine ok_seq 4 (σ' := (109, [(3, .int (Int32.ofInt 1)), (2, .int (nI 1)), (5, .int (nI 1)), (1, .int (nI an)), (4, .int (nI 0)), (0, .ref 185)], [.int (Int32.ofInt 1)], gSh, M2)) rfl ?_
                    rw [cI_1]
                    refine ok_if 116 rfl rfl (fun hz => absurd hz (by simp only [pCP]; rw [hI_int (a := 1) (by omega)]; omega)) (fun _ => ?_)
                    refine ok_seq 1 (σ' := (113, [(3, .int (nI 1)), (2, .int (nI 1)), (5, .int (nI 1)), (1, .int (nI an)), (4, .int (nI 0)), (0, .ref 185)], [.ref 185], gSh, M2)) rfl ?_
                    have ht : tok.toInt ≠ 0 := by first | exact z3 (by omega) | omega
                    refine ok_call (mi := 180) (as := [.ref 185]) (pc' := 116) (L' := [(3, .int (nI 1)), (2, .int (nI 1)), (5, .int (nI 1)), (1, .int (nI an)), (4, .int (nI 0)), (0, .ref 185)]) (st' := []) (sh' := gSh) (M' := M2) (i := .invokevirtual 189) (len := 3) rfl rfl ?_
                    refine (((c_nextQ (d := 0) hT hq2.1.1.1 hC2 h12 ht).deep (by omega))).mono ?_
                    rintro v2 ⟨sh2, M8⟩ ⟨rfl, hsh, ⟨a8, hN8⟩, hC8⟩
                    have hsh : sh2 = gSh := hsh
                    subst hsh
                    dsimp only at hN8 hC8
                    refine ok_seq 1 (σ' := (6, [(3, .int (nI 1)), (2, .int (nI 1)), (5, .int (nI 1)), (1, .int (nI an)), (4, .int (nI 0)), (0, .ref 185)], [], gSh, M8)) rfl ?_
                    have hlt := PC.le hC2 h12 ht
                    exact ih (300 - (c2 + 1)) (by omega) (c2 + 1) an 1 1 w2 D' M8 _ rfl (by omega) (by omega) (by omega) (by decide) (hq2.next hN8) hC8 (fun _ => by first | omega | (show _ ≤ (D').2; omega)) (fun hz => by omega) (fun _ => by omega) (Or.inr (Or.inl ⟨_, _, rfl⟩))
                  · intro hq0
                    simp only [pCP] at hq0
                    rw [hI_int (a := an) (by omega)] at hq0
                    have hq0 : ((an : Nat) : Int) = (0 : Int) := by omega
                    refine ok_seq 1 (σ' := (99, [(2, .int (nI 1)), (5, .int (nI 1)), (1, .int (nI an)), (4, .int (nI 0)), (3, .int (nI m)), (0, .ref 185)], [.int (nI 1)], gSh, M2)) rfl ?_
                    refine ok_if 106 rfl rfl ?_ ?_
                    · intro hb0
                      simp only [pCP] at hb0
                      rw [hI_int (a := 1) (by omega)] at hb0
                      have hb0 : ((1 : Nat) : Int) = (0 : Int) := by omega
                      refine ok_seq 3 (σ' := (109, [(3, .int (Int32.ofInt 0)), (2, .int (nI 1)), (5, .int (nI 1)), (1, .int (nI an)), (4, .int (nI 0)), (0, .ref 185)], [.int (Int32.ofInt 0)], gSh, M2)) rfl ?_
                      rw [cI_0]
                      refine ok_if 116 rfl rfl (fun _ => ?_) (fun hz => absurd (by simp only [pCP]; rw [hI_int (a := 0) (by omega)]; omega) hz)
                      refine ok_seq 2 (σ' := (7, [(3, .int (nI 0)), (2, .int (nI 1)), (5, .int (nI 1)), (1, .int (nI an)), (4, .int (nI 0)), (0, .ref 185)], [.int (nI 0)], gSh, M2)) rfl ?_
                      refine ok_if 119 rfl rfl (fun _ => ?_) (fun hz => absurd (by simp only [pCP]; rw [hI_int (a := 0) (by omega)]; omega) hz)
                      refine ok_seq 1 (σ' := (120, [(3, .int (nI 0)), (2, .int (nI 1)), (5, .int (nI 1)), (1, .int (nI an)), (4, .int (nI 0)), (0, .ref 185)], [.int (Int32.ofInt 0)], gSh, M2)) rfl ?_
                      rw [cI_0]
                      exact ok_ret (i := .ireturn) (len := 1) rfl rfl ⟨some (.int (nI 0)), rfl, rfl, Or.inl ⟨rfl, w2, c2, D', hq2, hC2, by omega, by omega⟩⟩
                    · intro hb0
                      simp only [pCP] at hb0
                      rw [hI_int (a := 1) (by omega)] at hb0
                      have hb0 : ((1 : Nat) : Int) ≠ (0 : Int) := by omega
                      refine ok_seq 4 (σ' := (109, [(3, .int (Int32.ofInt 1)), (2, .int (nI 1)), (5, .int (nI 1)), (1, .int (nI an)), (4, .int (nI 0)), (0, .ref 185)], [.int (Int32.ofInt 1)], gSh, M2)) rfl ?_
                      rw [cI_1]
                      refine ok_if 116 rfl rfl (fun hz => absurd hz (by simp only [pCP]; rw [hI_int (a := 1) (by omega)]; omega)) (fun _ => ?_)
                      refine ok_seq 1 (σ' := (113, [(3, .int (nI 1)), (2, .int (nI 1)), (5, .int (nI 1)), (1, .int (nI an)), (4, .int (nI 0)), (0, .ref 185)], [.ref 185], gSh, M2)) rfl ?_
                      have ht : tok.toInt ≠ 0 := by first | exact z3 (by omega) | omega
                      refine ok_call (mi := 180) (as := [.ref 185]) (pc' := 116) (L' := [(3, .int (nI 1)), (2, .int (nI 1)), (5, .int (nI 1)), (1, .int (nI an)), (4, .int (nI 0)), (0, .ref 185)]) (st' := []) (sh' := gSh) (M' := M2) (i := .invokevirtual 189) (len := 3) rfl rfl ?_
                      refine (((c_nextQ (d := 0) hT hq2.1.1.1 hC2 h12 ht).deep (by omega))).mono ?_
                      rintro v2 ⟨sh2, M8⟩ ⟨rfl, hsh, ⟨a8, hN8⟩, hC8⟩
                      have hsh : sh2 = gSh := hsh
                      subst hsh
                      dsimp only at hN8 hC8
                      refine ok_seq 1 (σ' := (6, [(3, .int (nI 1)), (2, .int (nI 1)), (5, .int (nI 1)), (1, .int (nI an)), (4, .int (nI 0)), (0, .ref 185)], [], gSh, M8)) rfl ?_
                      have hlt := PC.le hC2 h12 ht
                      exact ih (300 - (c2 + 1)) (by omega) (c2 + 1) an 1 1 w2 D' M8 _ rfl (by omega) (by omega) (by omega) (by decide) (hq2.next hN8) hC8 (fun _ => by first | omega | (show _ ≤ (D').2; omega)) (fun hz => by omega) (fun _ => by omega) (Or.inr (Or.inl ⟨_, _, rfl⟩))
                · intro ho0
                  simp only [pCP] at ho0
                  rw [hI_int (a := o) (by omega)] at ho0
                  have ho0 : ((o : Nat) : Int) ≠ (0 : Int) := by omega
                  refine ok_seq 3 (σ' := (87, [(5, .int (nI 1)), (1, .int (nI an)), (4, .int (nI 0)), (3, .int (nI m)), (2, .int (nI o)), (0, .ref 185)], [.int (Int32.ofInt 0), .int ((Int8.ofInt 22).toInt32), .ref 185], gSh, M2)) rfl ?_
                  rw [(show (Int8.ofInt 22).toInt32 = nI 22 by decide), cI_0]
                  refine ok_call (mi := 186) (as := [.ref 185, .int (nI 22), .int (nI 0)]) (pc' := 90) (L' := [(5, .int (nI 1)), (1, .int (nI an)), (4, .int (nI 0)), (3, .int (nI m)), (2, .int (nI o)), (0, .ref 185)]) (st' := []) (sh' := gSh) (M' := M2) (i := .invokevirtual 170) (len := 3) rfl rfl ?_
                  refine ((c_emit0 (d := d + dN + 6) hT hq2 (D' := (D'.1, D'.2 - 1)) (o := nI 22) (v := nI 0) (Or.inr (Or.inr (Or.inr (Or.inr (Or.inr (Or.inr ⟨by decide, by decide, by omega, rfl⟩)))))) (by omega))).mono ?_
                  rintro v ⟨sh2, M7⟩ ⟨rfl, hsh, hq7, hf7⟩
                  have hsh : sh2 = gSh := hsh
                  subst hsh
                  dsimp only at hq7 hf7
                  refine ok_seq 3 (σ' := (94, [(2, .int (nI 1)), (5, .int (nI 1)), (1, .int (nI an)), (4, .int (nI 0)), (3, .int (nI m)), (0, .ref 185)], [.int (nI an)], gSh, M7)) rfl ?_
                  refine ok_if 102 rfl rfl ?_ ?_
                  · intro hq0
                    simp only [pCP] at hq0
                    rw [hI_int (a := an) (by omega)] at hq0
                    have hq0 : ((an : Nat) : Int) ≠ (0 : Int) := by omega
                    refine ok_seq 4 (σ' := (109, [(3, .int (Int32.ofInt 1)), (2, .int (nI 1)), (5, .int (nI 1)), (1, .int (nI an)), (4, .int (nI 0)), (0, .ref 185)], [.int (Int32.ofInt 1)], gSh, M7)) rfl ?_
                    rw [cI_1]
                    refine ok_if 116 rfl rfl (fun hz => absurd hz (by simp only [pCP]; rw [hI_int (a := 1) (by omega)]; omega)) (fun _ => ?_)
                    refine ok_seq 1 (σ' := (113, [(3, .int (nI 1)), (2, .int (nI 1)), (5, .int (nI 1)), (1, .int (nI an)), (4, .int (nI 0)), (0, .ref 185)], [.ref 185], gSh, M7)) rfl ?_
                    have ht : tok.toInt ≠ 0 := by first | exact z3 (by omega) | omega
                    refine ok_call (mi := 180) (as := [.ref 185]) (pc' := 116) (L' := [(3, .int (nI 1)), (2, .int (nI 1)), (5, .int (nI 1)), (1, .int (nI an)), (4, .int (nI 0)), (0, .ref 185)]) (st' := []) (sh' := gSh) (M' := M7) (i := .invokevirtual 189) (len := 3) rfl rfl ?_
                    refine (((c_nextQ (d := 0) hT hq7.1.1.1 (PC.keep hC2 (hf7.at 10 (by decide)) (hf7.at 12 (by decide))) (by rw [hf7.at 12 (by decide)]; exact h12) ht).deep (by omega))).mono ?_
                    rintro v2 ⟨sh2, M8⟩ ⟨rfl, hsh, ⟨a8, hN8⟩, hC8⟩
                    have hsh : sh2 = gSh := hsh
                    subst hsh
                    dsimp only at hN8 hC8
                    refine ok_seq 1 (σ' := (6, [(3, .int (nI 1)), (2, .int (nI 1)), (5, .int (nI 1)), (1, .int (nI an)), (4, .int (nI 0)), (0, .ref 185)], [], gSh, M8)) rfl ?_
                    have hlt := PC.le (PC.keep hC2 (hf7.at 10 (by decide)) (hf7.at 12 (by decide))) (by rw [hf7.at 12 (by decide)]; exact h12) ht
                    exact ih (300 - (c2 + 1)) (by omega) (c2 + 1) an 1 1 (w2 + 1) (D'.1, D'.2 - 1) M8 _ rfl (by omega) (by omega) (by omega) (by decide) (hq7.next hN8) hC8 (fun _ => by first | omega | (show _ ≤ ((D'.1, D'.2 - 1)).2; omega)) (fun hz => by omega) (fun _ => by omega) (Or.inr (Or.inl ⟨_, _, rfl⟩))
                  · intro hq0
                    simp only [pCP] at hq0
                    rw [hI_int (a := an) (by omega)] at hq0
                    have hq0 : ((an : Nat) : Int) = (0 : Int) := by omega
                    refine ok_seq 1 (σ' := (99, [(2, .int (nI 1)), (5, .int (nI 1)), (1, .int (nI an)), (4, .int (nI 0)), (3, .int (nI m)), (0, .ref 185)], [.int (nI 1)], gSh, M7)) rfl ?_
                    refine ok_if 106 rfl rfl ?_ ?_
                    · intro hb0
                      simp only [pCP] at hb0
                      rw [hI_int (a := 1) (by omega)] at hb0
                      have hb0 : ((1 : Nat) : Int) = (0 : Int) := by omega
                      refine ok_seq 3 (σ' := (109, [(3, .int (Int32.ofInt 0)), (2, .int (nI 1)), (5, .int (nI 1)), (1, .int (nI an)), (4, .int (nI 0)), (0, .ref 185)], [.int (Int32.ofInt 0)], gSh, M7)) rfl ?_
                      rw [cI_0]
                      refine ok_if 116 rfl rfl (fun _ => ?_) (fun hz => absurd (by simp only [pCP]; rw [hI_int (a := 0) (by omega)]; omega) hz)
                      refine ok_seq 2 (σ' := (7, [(3, .int (nI 0)), (2, .int (nI 1)), (5, .int (nI 1)), (1, .int (nI an)), (4, .int (nI 0)), (0, .ref 185)], [.int (nI 0)], gSh, M7)) rfl ?_
                      refine ok_if 119 rfl rfl (fun _ => ?_) (fun hz => absurd (by simp only [pCP]; rw [hI_int (a := 0) (by omega)]; omega) hz)
                      refine ok_seq 1 (σ' := (120, [(3, .int (nI 0)), (2, .int (nI 1)), (5, .int (nI 1)), (1, .int (nI an)), (4, .int (nI 0)), (0, .ref 185)], [.int (Int32.ofInt 0)], gSh, M7)) rfl ?_
                      rw [cI_0]
                      exact ok_ret (i := .ireturn) (len := 1) rfl rfl ⟨some (.int (nI 0)), rfl, rfl, Or.inl ⟨rfl, (w2 + 1), c2, (D'.1, D'.2 - 1), hq7, (PC.keep hC2 (hf7.at 10 (by decide)) (hf7.at 12 (by decide))), by omega, by omega⟩⟩
                    · intro hb0
                      simp only [pCP] at hb0
                      rw [hI_int (a := 1) (by omega)] at hb0
                      have hb0 : ((1 : Nat) : Int) ≠ (0 : Int) := by omega
                      refine ok_seq 4 (σ' := (109, [(3, .int (Int32.ofInt 1)), (2, .int (nI 1)), (5, .int (nI 1)), (1, .int (nI an)), (4, .int (nI 0)), (0, .ref 185)], [.int (Int32.ofInt 1)], gSh, M7)) rfl ?_
                      rw [cI_1]
                      refine ok_if 116 rfl rfl (fun hz => absurd hz (by simp only [pCP]; rw [hI_int (a := 1) (by omega)]; omega)) (fun _ => ?_)
                      refine ok_seq 1 (σ' := (113, [(3, .int (nI 1)), (2, .int (nI 1)), (5, .int (nI 1)), (1, .int (nI an)), (4, .int (nI 0)), (0, .ref 185)], [.ref 185], gSh, M7)) rfl ?_
                      have ht : tok.toInt ≠ 0 := by first | exact z3 (by omega) | omega
                      refine ok_call (mi := 180) (as := [.ref 185]) (pc' := 116) (L' := [(3, .int (nI 1)), (2, .int (nI 1)), (5, .int (nI 1)), (1, .int (nI an)), (4, .int (nI 0)), (0, .ref 185)]) (st' := []) (sh' := gSh) (M' := M7) (i := .invokevirtual 189) (len := 3) rfl rfl ?_
                      refine (((c_nextQ (d := 0) hT hq7.1.1.1 (PC.keep hC2 (hf7.at 10 (by decide)) (hf7.at 12 (by decide))) (by rw [hf7.at 12 (by decide)]; exact h12) ht).deep (by omega))).mono ?_
                      rintro v2 ⟨sh2, M8⟩ ⟨rfl, hsh, ⟨a8, hN8⟩, hC8⟩
                      have hsh : sh2 = gSh := hsh
                      subst hsh
                      dsimp only at hN8 hC8
                      refine ok_seq 1 (σ' := (6, [(3, .int (nI 1)), (2, .int (nI 1)), (5, .int (nI 1)), (1, .int (nI an)), (4, .int (nI 0)), (0, .ref 185)], [], gSh, M8)) rfl ?_
                      have hlt := PC.le (PC.keep hC2 (hf7.at 10 (by decide)) (hf7.at 12 (by decide))) (by rw [hf7.at 12 (by decide)]; exact h12) ht
                      exact ih (300 - (c2 + 1)) (by omega) (c2 + 1) an 1 1 (w2 + 1) (D'.1, D'.2 - 1) M8 _ rfl (by omega) (by omega) (by omega) (by decide) (hq7.next hN8) hC8 (fun _ => by first | omega | (show _ ≤ ((D'.1, D'.2 - 1)).2; omega)) (fun hz => by omega) (fun _ => by omega) (Or.inr (Or.inl ⟨_, _, rfl⟩))
        · intro ha0
          simp only [pCP] at ha0
          rw [hI_int (a := a) (by omega)] at ha0
          have ha0 : ((a : Nat) : Int) ≠ (0 : Int) := by omega
          have ea : a = 1 := by omega
          refine ok_seq 3 (σ' := (32, [(4, .int (nI 0)), (3, .int (nI m)), (2, .int (nI o)), (5, .int y5), (1, .int (nI a)), (0, .ref 185)], [.int (Int32.ofInt 0), .int ((Int8.ofInt 21).toInt32), .ref 185], gSh, M2)) rfl ?_
          rw [(show (Int8.ofInt 21).toInt32 = nI 21 by decide), cI_0]
          refine ok_call (mi := 186) (as := [.ref 185, .int (nI 21), .int (nI 0)]) (pc' := 35) (L' := [(4, .int (nI 0)), (3, .int (nI m)), (2, .int (nI o)), (5, .int y5), (1, .int (nI a)), (0, .ref 185)]) (st' := []) (sh' := gSh) (M' := M2) (i := .invokevirtual 170) (len := 3) rfl rfl ?_
          refine ((c_emit0 (d := d + dN + 6) hT hq2 (D' := (D'.1, D'.2 - 1)) (o := nI 21) (v := nI 0) (Or.inr (Or.inr (Or.inr (Or.inr (Or.inr (Or.inr ⟨by decide, by decide, by omega, rfl⟩)))))) (by omega))).mono ?_
          rintro v ⟨sh2, M3⟩ ⟨rfl, hsh, hq3, hf3⟩
          have hsh : sh2 = gSh := hsh
          subst hsh
          dsimp only at hq3 hf3
          have hC3 := hC2.keep (hf3.at 10 (by decide)) (hf3.at 12 (by decide))
          obtain ⟨tok, h12, -⟩ := ty_int (pty hT hq3.1.1.1 8 rfl rfl)
          obtain ⟨wd, h14⟩ := ptl hT hq3.1.1.1
          obtain ⟨zw, hzw⟩ := c_w3 (S := S) (d := 0) (M := M3) (nI 97) (nI 110) (nI 100)
          obtain ⟨z, z1, z2, z3, z4⟩ := c_pure0 hH.2.2.1.1 hH.2.2.1.2 (vs := [.ref 185, .long zw]) ⟨r185, sat_l zw, trivial⟩ hq3.1.1.1 (hq3.1.gr hg) h12
          obtain ⟨an, han, ean⟩ := ty_nat (x := []) (hi := 1) ⟨z, rfl, z1, z2⟩
          cases ean
          rw [hI_int (a := an) (by omega)] at z3
          refine ok_seq 4 (σ' := (42, [(4, .int (nI 0)), (3, .int (nI m)), (2, .int (nI o)), (5, .int y5), (1, .int (nI a)), (0, .ref 185)], [.int ((Int8.ofInt 100).toInt32), .int ((Int8.ofInt 110).toInt32), .int ((Int8.ofInt 97).toInt32), .ref 185], gSh, M3)) rfl ?_
          rw [(show (Int8.ofInt 97).toInt32 = nI 97 by decide), (show (Int8.ofInt 110).toInt32 = nI 110 by decide), (show (Int8.ofInt 100).toInt32 = nI 100 by decide)]
          refine ok_call (mi := 181) (as := [.int (nI 97), .int (nI 110), .int (nI 100)]) (pc' := 45) (L' := [(4, .int (nI 0)), (3, .int (nI m)), (2, .int (nI o)), (5, .int y5), (1, .int (nI a)), (0, .ref 185)]) (st' := [.ref 185]) (sh' := gSh) (M' := M3) (i := .invokestatic 146) (len := 3) rfl rfl ?_
          refine ((hzw.deep (by omega))).mono ?_
          rintro v hp ⟨rfl, rfl⟩
          refine ok_call (mi := 185) (as := [.ref 185, .long zw]) (pc' := 48) (L' := [(4, .int (nI 0)), (3, .int (nI m)), (2, .int (nI o)), (5, .int y5), (1, .int (nI a)), (0, .ref 185)]) (st' := []) (sh' := gSh) (M' := M3) (i := .invokevirtual 220) (len := 3) rfl rfl ?_
          refine ((z4.deep (by omega))).mono ?_
          rintro v hp ⟨rfl, rfl⟩
          refine ok_seq 3 (σ' := (53, [(1, .int (nI an)), (4, .int (nI 0)), (3, .int (nI m)), (2, .int (nI o)), (5, .int y5), (0, .ref 185)], [M3 185 12], gSh, M3)) rfl ?_
          rw [h12]
          refine ok_seq 1 (σ' := (54, [(1, .int (nI an)), (4, .int (nI 0)), (3, .int (nI m)), (2, .int (nI o)), (5, .int y5), (0, .ref 185)], [.int (Int32.ofInt 2), .int tok], gSh, M3)) rfl ?_
          rw [cI_2]
          refine ok_icmp 72 rfl rfl ?_ ?_
          · intro h2
            simp only [pCP] at h2
            rw [hI_int (a := 2) (by omega)] at h2
            have h2 : (tok).toInt ≠ ((2 : Nat) : Int) := by omega
            refine ok_seq 3 (σ' := (76, [(5, .int (Int32.ofInt 0)), (1, .int (nI an)), (4, .int (nI 0)), (3, .int (nI m)), (2, .int (nI o)), (0, .ref 185)], [.int (nI an)], gSh, M3)) rfl ?_
            rw [cI_0]
            refine ok_if 93 rfl rfl ?_ ?_
            · intro hn0
              simp only [pCP] at hn0
              rw [hI_int (a := an) (by omega)] at hn0
              have hn0 : ((an : Nat) : Int) ≠ (0 : Int) := by omega
              refine ok_seq 1 (σ' := (94, [(5, .int (nI 0)), (1, .int (nI an)), (4, .int (nI 0)), (3, .int (nI m)), (2, .int (nI o)), (0, .ref 185)], [.int (nI an)], gSh, M3)) rfl ?_
              refine ok_if 102 rfl rfl ?_ ?_
              · intro hq0
                simp only [pCP] at hq0
                rw [hI_int (a := an) (by omega)] at hq0
                have hq0 : ((an : Nat) : Int) ≠ (0 : Int) := by omega
                refine ok_seq 4 (σ' := (109, [(3, .int (Int32.ofInt 1)), (5, .int (nI 0)), (1, .int (nI an)), (4, .int (nI 0)), (2, .int (nI o)), (0, .ref 185)], [.int (Int32.ofInt 1)], gSh, M3)) rfl ?_
                rw [cI_1]
                refine ok_if 116 rfl rfl (fun hz => absurd hz (by simp only [pCP]; rw [hI_int (a := 1) (by omega)]; omega)) (fun _ => ?_)
                refine ok_seq 1 (σ' := (113, [(3, .int (nI 1)), (5, .int (nI 0)), (1, .int (nI an)), (4, .int (nI 0)), (2, .int (nI o)), (0, .ref 185)], [.ref 185], gSh, M3)) rfl ?_
                have ht : tok.toInt ≠ 0 := by first | exact z3 (by omega) | omega
                refine ok_call (mi := 180) (as := [.ref 185]) (pc' := 116) (L' := [(3, .int (nI 1)), (5, .int (nI 0)), (1, .int (nI an)), (4, .int (nI 0)), (2, .int (nI o)), (0, .ref 185)]) (st' := []) (sh' := gSh) (M' := M3) (i := .invokevirtual 189) (len := 3) rfl rfl ?_
                refine (((c_nextQ (d := 0) hT hq3.1.1.1 hC3 h12 ht).deep (by omega))).mono ?_
                rintro v2 ⟨sh2, M8⟩ ⟨rfl, hsh, ⟨a8, hN8⟩, hC8⟩
                have hsh : sh2 = gSh := hsh
                subst hsh
                dsimp only at hN8 hC8
                refine ok_seq 1 (σ' := (6, [(3, .int (nI 1)), (5, .int (nI 0)), (1, .int (nI an)), (4, .int (nI 0)), (2, .int (nI o)), (0, .ref 185)], [], gSh, M8)) rfl ?_
                have hlt := PC.le hC3 h12 ht
                exact ih (300 - (c2 + 1)) (by omega) (c2 + 1) an o 1 (w2 + 1) (D'.1, D'.2 - 1) M8 _ rfl (by omega) (by omega) (by omega) (by decide) (hq3.next hN8) hC8 (fun _ => by first | omega | (show _ ≤ ((D'.1, D'.2 - 1)).2; omega)) (fun hz => by omega) (fun _ => by omega) (Or.inr (Or.inr ⟨_, _, rfl⟩))
              · intro hq0
                simp only [pCP] at hq0
                rw [hI_int (a := an) (by omega)] at hq0
                have hq0 : ((an : Nat) : Int) = (0 : Int) := by omega
                refine ok_seq 1 (σ' := (99, [(5, .int (nI 0)), (1, .int (nI an)), (4, .int (nI 0)), (3, .int (nI m)), (2, .int (nI o)), (0, .ref 185)], [.int (nI 0)], gSh, M3)) rfl ?_
                refine ok_if 106 rfl rfl ?_ ?_
                · intro hb0
                  simp only [pCP] at hb0
                  rw [hI_int (a := 0) (by omega)] at hb0
                  have hb0 : ((0 : Nat) : Int) = (0 : Int) := by omega
                  refine ok_seq 3 (σ' := (109, [(3, .int (Int32.ofInt 0)), (5, .int (nI 0)), (1, .int (nI an)), (4, .int (nI 0)), (2, .int (nI o)), (0, .ref 185)], [.int (Int32.ofInt 0)], gSh, M3)) rfl ?_
                  rw [cI_0]
                  refine ok_if 116 rfl rfl (fun _ => ?_) (fun hz => absurd (by simp only [pCP]; rw [hI_int (a := 0) (by omega)]; omega) hz)
                  refine ok_seq 2 (σ' := (7, [(3, .int (nI 0)), (5, .int (nI 0)), (1, .int (nI an)), (4, .int (nI 0)), (2, .int (nI o)), (0, .ref 185)], [.int (nI 0)], gSh, M3)) rfl ?_
                  refine ok_if 119 rfl rfl (fun _ => ?_) (fun hz => absurd (by simp only [pCP]; rw [hI_int (a := 0) (by omega)]; omega) hz)
                  refine ok_seq 1 (σ' := (120, [(3, .int (nI 0)), (5, .int (nI 0)), (1, .int (nI an)), (4, .int (nI 0)), (2, .int (nI o)), (0, .ref 185)], [.int (Int32.ofInt 0)], gSh, M3)) rfl ?_
                  rw [cI_0]
                  exact ok_ret (i := .ireturn) (len := 1) rfl rfl ⟨some (.int (nI 0)), rfl, rfl, Or.inl ⟨rfl, (w2 + 1), c2, (D'.1, D'.2 - 1), hq3, hC3, by omega, by omega⟩⟩
                · intro hb0
                  simp only [pCP] at hb0
                  rw [hI_int (a := 0) (by omega)] at hb0
                  have hb0 : ((0 : Nat) : Int) ≠ (0 : Int) := by omega
                  refine ok_seq 4 (σ' := (109, [(3, .int (Int32.ofInt 1)), (5, .int (nI 0)), (1, .int (nI an)), (4, .int (nI 0)), (2, .int (nI o)), (0, .ref 185)], [.int (Int32.ofInt 1)], gSh, M3)) rfl ?_
                  rw [cI_1]
                  refine ok_if 116 rfl rfl (fun hz => absurd hz (by simp only [pCP]; rw [hI_int (a := 1) (by omega)]; omega)) (fun _ => ?_)
                  refine ok_seq 1 (σ' := (113, [(3, .int (nI 1)), (5, .int (nI 0)), (1, .int (nI an)), (4, .int (nI 0)), (2, .int (nI o)), (0, .ref 185)], [.ref 185], gSh, M3)) rfl ?_
                  have ht : tok.toInt ≠ 0 := by first | exact z3 (by omega) | omega
                  refine ok_call (mi := 180) (as := [.ref 185]) (pc' := 116) (L' := [(3, .int (nI 1)), (5, .int (nI 0)), (1, .int (nI an)), (4, .int (nI 0)), (2, .int (nI o)), (0, .ref 185)]) (st' := []) (sh' := gSh) (M' := M3) (i := .invokevirtual 189) (len := 3) rfl rfl ?_
                  refine (((c_nextQ (d := 0) hT hq3.1.1.1 hC3 h12 ht).deep (by omega))).mono ?_
                  rintro v2 ⟨sh2, M8⟩ ⟨rfl, hsh, ⟨a8, hN8⟩, hC8⟩
                  have hsh : sh2 = gSh := hsh
                  subst hsh
                  dsimp only at hN8 hC8
                  refine ok_seq 1 (σ' := (6, [(3, .int (nI 1)), (5, .int (nI 0)), (1, .int (nI an)), (4, .int (nI 0)), (2, .int (nI o)), (0, .ref 185)], [], gSh, M8)) rfl ?_
                  have hlt := PC.le hC3 h12 ht
                  exact ih (300 - (c2 + 1)) (by omega) (c2 + 1) an o 1 (w2 + 1) (D'.1, D'.2 - 1) M8 _ rfl (by omega) (by omega) (by omega) (by decide) (hq3.next hN8) hC8 (fun _ => by first | omega | (show _ ≤ ((D'.1, D'.2 - 1)).2; omega)) (fun hz => by omega) (fun _ => by omega) (Or.inr (Or.inr ⟨_, _, rfl⟩))
            · intro hn0
              simp only [pCP] at hn0
              rw [hI_int (a := an) (by omega)] at hn0
              have hn0 : ((an : Nat) : Int) = (0 : Int) := by omega
              refine ok_seq 1 (σ' := (80, [(5, .int (nI 0)), (1, .int (nI an)), (4, .int (nI 0)), (3, .int (nI m)), (2, .int (nI o)), (0, .ref 185)], [.int (nI o)], gSh, M3)) rfl ?_
              refine ok_if 90 rfl rfl ?_ ?_
              · intro ho0
                simp only [pCP] at ho0
                rw [hI_int (a := o) (by omega)] at ho0
                have ho0 : ((o : Nat) : Int) = (0 : Int) := by omega
                refine ok_seq 3 (σ' := (94, [(2, .int (nI 0)), (5, .int (nI 0)), (1, .int (nI an)), (4, .int (nI 0)), (3, .int (nI m)), (0, .ref 185)], [.int (nI an)], gSh, M3)) rfl ?_
                refine ok_if 102 rfl rfl ?_ ?_
                · intro hq0
                  simp only [pCP] at hq0
                  rw [hI_int (a := an) (by omega)] at hq0
                  have hq0 : ((an : Nat) : Int) ≠ (0 : Int) := by omega
                  refine ok_seq 4 (σ' := (109, [(3, .int (Int32.ofInt 1)), (2, .int (nI 0)), (5, .int (nI 0)), (1, .int (nI an)), (4, .int (nI 0)), (0, .ref 185)], [.int (Int32.ofInt 1)], gSh, M3)) rfl ?_
                  rw [cI_1]
                  refine ok_if 116 rfl rfl (fun hz => absurd hz (by simp only [pCP]; rw [hI_int (a := 1) (by omega)]; omega)) (fun _ => ?_)
                  refine ok_seq 1 (σ' := (113, [(3, .int (nI 1)), (2, .int (nI 0)), (5, .int (nI 0)), (1, .int (nI an)), (4, .int (nI 0)), (0, .ref 185)], [.ref 185], gSh, M3)) rfl ?_
                  have ht : tok.toInt ≠ 0 := by first | exact z3 (by omega) | omega
                  refine ok_call (mi := 180) (as := [.ref 185]) (pc' := 116) (L' := [(3, .int (nI 1)), (2, .int (nI 0)), (5, .int (nI 0)), (1, .int (nI an)), (4, .int (nI 0)), (0, .ref 185)]) (st' := []) (sh' := gSh) (M' := M3) (i := .invokevirtual 189) (len := 3) rfl rfl ?_
                  refine (((c_nextQ (d := 0) hT hq3.1.1.1 hC3 h12 ht).deep (by omega))).mono ?_
                  rintro v2 ⟨sh2, M8⟩ ⟨rfl, hsh, ⟨a8, hN8⟩, hC8⟩
                  have hsh : sh2 = gSh := hsh
                  subst hsh
                  dsimp only at hN8 hC8
                  refine ok_seq 1 (σ' := (6, [(3, .int (nI 1)), (2, .int (nI 0)), (5, .int (nI 0)), (1, .int (nI an)), (4, .int (nI 0)), (0, .ref 185)], [], gSh, M8)) rfl ?_
                  have hlt := PC.le hC3 h12 ht
                  exact ih (300 - (c2 + 1)) (by omega) (c2 + 1) an 0 1 (w2 + 1) (D'.1, D'.2 - 1) M8 _ rfl (by omega) (by omega) (by omega) (by decide) (hq3.next hN8) hC8 (fun _ => by first | omega | (show _ ≤ ((D'.1, D'.2 - 1)).2; omega)) (fun hz => by omega) (fun _ => by omega) (Or.inr (Or.inl ⟨_, _, rfl⟩))
                · intro hq0
                  simp only [pCP] at hq0
                  rw [hI_int (a := an) (by omega)] at hq0
                  have hq0 : ((an : Nat) : Int) = (0 : Int) := by omega
                  refine ok_seq 1 (σ' := (99, [(2, .int (nI 0)), (5, .int (nI 0)), (1, .int (nI an)), (4, .int (nI 0)), (3, .int (nI m)), (0, .ref 185)], [.int (nI 0)], gSh, M3)) rfl ?_
                  refine ok_if 106 rfl rfl ?_ ?_
                  · intro hb0
                    simp only [pCP] at hb0
                    rw [hI_int (a := 0) (by omega)] at hb0
                    have hb0 : ((0 : Nat) : Int) = (0 : Int) := by omega
                    refine ok_seq 3 (σ' := (109, [(3, .int (Int32.ofInt 0)), (2, .int (nI 0)), (5, .int (nI 0)), (1, .int (nI an)), (4, .int (nI 0)), (0, .ref 185)], [.int (Int32.ofInt 0)], gSh, M3)) rfl ?_
                    rw [cI_0]
                    refine ok_if 116 rfl rfl (fun _ => ?_) (fun hz => absurd (by simp only [pCP]; rw [hI_int (a := 0) (by omega)]; omega) hz)
                    refine ok_seq 2 (σ' := (7, [(3, .int (nI 0)), (2, .int (nI 0)), (5, .int (nI 0)), (1, .int (nI an)), (4, .int (nI 0)), (0, .ref 185)], [.int (nI 0)], gSh, M3)) rfl ?_
                    refine ok_if 119 rfl rfl (fun _ => ?_) (fun hz => absurd (by simp only [pCP]; rw [hI_int (a := 0) (by omega)]; omega) hz)
                    refine ok_seq 1 (σ' := (120, [(3, .int (nI 0)), (2, .int (nI 0)), (5, .int (nI 0)), (1, .int (nI an)), (4, .int (nI 0)), (0, .ref 185)], [.int (Int32.ofInt 0)], gSh, M3)) rfl ?_
                    rw [cI_0]
                    exact ok_ret (i := .ireturn) (len := 1) rfl rfl ⟨some (.int (nI 0)), rfl, rfl, Or.inl ⟨rfl, (w2 + 1), c2, (D'.1, D'.2 - 1), hq3, hC3, by omega, by omega⟩⟩
                  · intro hb0
                    simp only [pCP] at hb0
                    rw [hI_int (a := 0) (by omega)] at hb0
                    have hb0 : ((0 : Nat) : Int) ≠ (0 : Int) := by omega
                    refine ok_seq 4 (σ' := (109, [(3, .int (Int32.ofInt 1)), (2, .int (nI 0)), (5, .int (nI 0)), (1, .int (nI an)), (4, .int (nI 0)), (0, .ref 185)], [.int (Int32.ofInt 1)], gSh, M3)) rfl ?_
                    rw [cI_1]
                    refine ok_if 116 rfl rfl (fun hz => absurd hz (by simp only [pCP]; rw [hI_int (a := 1) (by omega)]; omega)) (fun _ => ?_)
                    refine ok_seq 1 (σ' := (113, [(3, .int (nI 1)), (2, .int (nI 0)), (5, .int (nI 0)), (1, .int (nI an)), (4, .int (nI 0)), (0, .ref 185)], [.ref 185], gSh, M3)) rfl ?_
                    have ht : tok.toInt ≠ 0 := by first | exact z3 (by omega) | omega
                    refine ok_call (mi := 180) (as := [.ref 185]) (pc' := 116) (L' := [(3, .int (nI 1)), (2, .int (nI 0)), (5, .int (nI 0)), (1, .int (nI an)), (4, .int (nI 0)), (0, .ref 185)]) (st' := []) (sh' := gSh) (M' := M3) (i := .invokevirtual 189) (len := 3) rfl rfl ?_
                    refine (((c_nextQ (d := 0) hT hq3.1.1.1 hC3 h12 ht).deep (by omega))).mono ?_
                    rintro v2 ⟨sh2, M8⟩ ⟨rfl, hsh, ⟨a8, hN8⟩, hC8⟩
                    have hsh : sh2 = gSh := hsh
                    subst hsh
                    dsimp only at hN8 hC8
                    refine ok_seq 1 (σ' := (6, [(3, .int (nI 1)), (2, .int (nI 0)), (5, .int (nI 0)), (1, .int (nI an)), (4, .int (nI 0)), (0, .ref 185)], [], gSh, M8)) rfl ?_
                    have hlt := PC.le hC3 h12 ht
                    exact ih (300 - (c2 + 1)) (by omega) (c2 + 1) an 0 1 (w2 + 1) (D'.1, D'.2 - 1) M8 _ rfl (by omega) (by omega) (by omega) (by decide) (hq3.next hN8) hC8 (fun _ => by first | omega | (show _ ≤ ((D'.1, D'.2 - 1)).2; omega)) (fun hz => by omega) (fun _ => by omega) (Or.inr (Or.inl ⟨_, _, rfl⟩))
              · intro ho0
                simp only [pCP] at ho0
                rw [hI_int (a := o) (by omega)] at ho0
                have ho0 : ((o : Nat) : Int) ≠ (0 : Int) := by omega
                refine ok_seq 3 (σ' := (87, [(5, .int (nI 0)), (1, .int (nI an)), (4, .int (nI 0)), (3, .int (nI m)), (2, .int (nI o)), (0, .ref 185)], [.int (Int32.ofInt 0), .int ((Int8.ofInt 22).toInt32), .ref 185], gSh, M3)) rfl ?_
                rw [(show (Int8.ofInt 22).toInt32 = nI 22 by decide), cI_0]
                refine ok_call (mi := 186) (as := [.ref 185, .int (nI 22), .int (nI 0)]) (pc' := 90) (L' := [(5, .int (nI 0)), (1, .int (nI an)), (4, .int (nI 0)), (3, .int (nI m)), (2, .int (nI o)), (0, .ref 185)]) (st' := []) (sh' := gSh) (M' := M3) (i := .invokevirtual 170) (len := 3) rfl rfl ?_
                refine ((c_emit0 (d := d + dN + 6) hT hq3 (D' := ((D'.1, D'.2 - 1).1, (D'.1, D'.2 - 1).2 - 1)) (o := nI 22) (v := nI 0) (Or.inr (Or.inr (Or.inr (Or.inr (Or.inr (Or.inr ⟨by decide, by decide, by omega, rfl⟩)))))) (by omega))).mono ?_
                rintro v ⟨sh2, M7⟩ ⟨rfl, hsh, hq7, hf7⟩
                have hsh : sh2 = gSh := hsh
                subst hsh
                dsimp only at hq7 hf7
                refine ok_seq 3 (σ' := (94, [(2, .int (nI 0)), (5, .int (nI 0)), (1, .int (nI an)), (4, .int (nI 0)), (3, .int (nI m)), (0, .ref 185)], [.int (nI an)], gSh, M7)) rfl ?_
                refine ok_if 102 rfl rfl ?_ ?_
                · intro hq0
                  simp only [pCP] at hq0
                  rw [hI_int (a := an) (by omega)] at hq0
                  have hq0 : ((an : Nat) : Int) ≠ (0 : Int) := by omega
                  refine ok_seq 4 (σ' := (109, [(3, .int (Int32.ofInt 1)), (2, .int (nI 0)), (5, .int (nI 0)), (1, .int (nI an)), (4, .int (nI 0)), (0, .ref 185)], [.int (Int32.ofInt 1)], gSh, M7)) rfl ?_
                  rw [cI_1]
                  refine ok_if 116 rfl rfl (fun hz => absurd hz (by simp only [pCP]; rw [hI_int (a := 1) (by omega)]; omega)) (fun _ => ?_)
                  refine ok_seq 1 (σ' := (113, [(3, .int (nI 1)), (2, .int (nI 0)), (5, .int (nI 0)), (1, .int (nI an)), (4, .int (nI 0)), (0, .ref 185)], [.ref 185], gSh, M7)) rfl ?_
                  have ht : tok.toInt ≠ 0 := by first | exact z3 (by omega) | omega
                  refine ok_call (mi := 180) (as := [.ref 185]) (pc' := 116) (L' := [(3, .int (nI 1)), (2, .int (nI 0)), (5, .int (nI 0)), (1, .int (nI an)), (4, .int (nI 0)), (0, .ref 185)]) (st' := []) (sh' := gSh) (M' := M7) (i := .invokevirtual 189) (len := 3) rfl rfl ?_
                  refine (((c_nextQ (d := 0) hT hq7.1.1.1 (PC.keep hC3 (hf7.at 10 (by decide)) (hf7.at 12 (by decide))) (by rw [hf7.at 12 (by decide)]; exact h12) ht).deep (by omega))).mono ?_
                  rintro v2 ⟨sh2, M8⟩ ⟨rfl, hsh, ⟨a8, hN8⟩, hC8⟩
                  have hsh : sh2 = gSh := hsh
                  subst hsh
                  dsimp only at hN8 hC8
                  refine ok_seq 1 (σ' := (6, [(3, .int (nI 1)), (2, .int (nI 0)), (5, .int (nI 0)), (1, .int (nI an)), (4, .int (nI 0)), (0, .ref 185)], [], gSh, M8)) rfl ?_
                  have hlt := PC.le (PC.keep hC3 (hf7.at 10 (by decide)) (hf7.at 12 (by decide))) (by rw [hf7.at 12 (by decide)]; exact h12) ht
                  exact ih (300 - (c2 + 1)) (by omega) (c2 + 1) an 0 1 ((w2 + 1) + 1) ((D'.1, D'.2 - 1).1, (D'.1, D'.2 - 1).2 - 1) M8 _ rfl (by omega) (by omega) (by omega) (by decide) (hq7.next hN8) hC8 (fun _ => by first | omega | (show _ ≤ (((D'.1, D'.2 - 1).1, (D'.1, D'.2 - 1).2 - 1)).2; omega)) (fun hz => by omega) (fun _ => by omega) (Or.inr (Or.inl ⟨_, _, rfl⟩))
                · intro hq0
                  simp only [pCP] at hq0
                  rw [hI_int (a := an) (by omega)] at hq0
                  have hq0 : ((an : Nat) : Int) = (0 : Int) := by omega
                  refine ok_seq 1 (σ' := (99, [(2, .int (nI 0)), (5, .int (nI 0)), (1, .int (nI an)), (4, .int (nI 0)), (3, .int (nI m)), (0, .ref 185)], [.int (nI 0)], gSh, M7)) rfl ?_
                  refine ok_if 106 rfl rfl ?_ ?_
                  · intro hb0
                    simp only [pCP] at hb0
                    rw [hI_int (a := 0) (by omega)] at hb0
                    have hb0 : ((0 : Nat) : Int) = (0 : Int) := by omega
                    refine ok_seq 3 (σ' := (109, [(3, .int (Int32.ofInt 0)), (2, .int (nI 0)), (5, .int (nI 0)), (1, .int (nI an)), (4, .int (nI 0)), (0, .ref 185)], [.int (Int32.ofInt 0)], gSh, M7)) rfl ?_
                    rw [cI_0]
                    refine ok_if 116 rfl rfl (fun _ => ?_) (fun hz => absurd (by simp only [pCP]; rw [hI_int (a := 0) (by omega)]; omega) hz)
                    refine ok_seq 2 (σ' := (7, [(3, .int (nI 0)), (2, .int (nI 0)), (5, .int (nI 0)), (1, .int (nI an)), (4, .int (nI 0)), (0, .ref 185)], [.int (nI 0)], gSh, M7)) rfl ?_
                    refine ok_if 119 rfl rfl (fun _ => ?_) (fun hz => absurd (by simp only [pCP]; rw [hI_int (a := 0) (by omega)]; omega) hz)
                    refine ok_seq 1 (σ' := (120, [(3, .int (nI 0)), (2, .int (nI 0)), (5, .int (nI 0)), (1, .int (nI an)), (4, .int (nI 0)), (0, .ref 185)], [.int (Int32.ofInt 0)], gSh, M7)) rfl ?_
                    rw [cI_0]
                    exact ok_ret (i := .ireturn) (len := 1) rfl rfl ⟨some (.int (nI 0)), rfl, rfl, Or.inl ⟨rfl, ((w2 + 1) + 1), c2, ((D'.1, D'.2 - 1).1, (D'.1, D'.2 - 1).2 - 1), hq7, (PC.keep hC3 (hf7.at 10 (by decide)) (hf7.at 12 (by decide))), by omega, by omega⟩⟩
                  · intro hb0
                    simp only [pCP] at hb0
                    rw [hI_int (a := 0) (by omega)] at hb0
                    have hb0 : ((0 : Nat) : Int) ≠ (0 : Int) := by omega
                    refine ok_seq 4 (σ' := (109, [(3, .int (Int32.ofInt 1)), (2, .int (nI 0)), (5, .int (nI 0)), (1, .int (nI an)), (4, .int (nI 0)), (0, .ref 185)], [.int (Int32.ofInt 1)], gSh, M7)) rfl ?_
                    rw [cI_1]
                    refine ok_if 116 rfl rfl (fun hz => absurd hz (by simp only [pCP]; rw [hI_int (a := 1) (by omega)]; omega)) (fun _ => ?_)
                    refine ok_seq 1 (σ' := (113, [(3, .int (nI 1)), (2, .int (nI 0)), (5, .int (nI 0)), (1, .int (nI an)), (4, .int (nI 0)), (0, .ref 185)], [.ref 185], gSh, M7)) rfl ?_
                    have ht : tok.toInt ≠ 0 := by first | exact z3 (by omega) | omega
                    refine ok_call (mi := 180) (as := [.ref 185]) (pc' := 116) (L' := [(3, .int (nI 1)), (2, .int (nI 0)), (5, .int (nI 0)), (1, .int (nI an)), (4, .int (nI 0)), (0, .ref 185)]) (st' := []) (sh' := gSh) (M' := M7) (i := .invokevirtual 189) (len := 3) rfl rfl ?_
                    refine (((c_nextQ (d := 0) hT hq7.1.1.1 (PC.keep hC3 (hf7.at 10 (by decide)) (hf7.at 12 (by decide))) (by rw [hf7.at 12 (by decide)]; exact h12) ht).deep (by omega))).mono ?_
                    rintro v2 ⟨sh2, M8⟩ ⟨rfl, hsh, ⟨a8, hN8⟩, hC8⟩
                    have hsh : sh2 = gSh := hsh
                    subst hsh
                    dsimp only at hN8 hC8
                    refine ok_seq 1 (σ' := (6, [(3, .int (nI 1)), (2, .int (nI 0)), (5, .int (nI 0)), (1, .int (nI an)), (4, .int (nI 0)), (0, .ref 185)], [], gSh, M8)) rfl ?_
                    have hlt := PC.le (PC.keep hC3 (hf7.at 10 (by decide)) (hf7.at 12 (by decide))) (by rw [hf7.at 12 (by decide)]; exact h12) ht
                    exact ih (300 - (c2 + 1)) (by omega) (c2 + 1) an 0 1 ((w2 + 1) + 1) ((D'.1, D'.2 - 1).1, (D'.1, D'.2 - 1).2 - 1) M8 _ rfl (by omega) (by omega) (by omega) (by decide) (hq7.next hN8) hC8 (fun _ => by first | omega | (show _ ≤ (((D'.1, D'.2 - 1).1, (D'.1, D'.2 - 1).2 - 1)).2; omega)) (fun hz => by omega) (fun _ => by omega) (Or.inr (Or.inl ⟨_, _, rfl⟩))
          · intro h2
            simp only [pCP] at h2
            rw [hI_int (a := 2) (by omega)] at h2
            have h2 : (tok).toInt = ((2 : Nat) : Int) := by omega
            refine ok_seq 2 (σ' := (61, [(1, .int (nI an)), (4, .int (nI 0)), (3, .int (nI m)), (2, .int (nI o)), (5, .int y5), (0, .ref 185)], [M3 185 14], gSh, M3)) rfl ?_
            rw [h14]
            refine ok_seq 2 (σ' := (65, [(1, .int (nI an)), (4, .int (nI 0)), (3, .int (nI m)), (2, .int (nI o)), (5, .int y5), (0, .ref 185)], [.int (lg_cmp wd ((28530 : Int64)))], gSh, M3)) rfl ?_
            refine ok_if 72 rfl rfl ?_ ?_
            · intro hw
              simp only [pCP] at hw
              have hw : (lg_cmp wd ((28530 : Int64))).toInt ≠ (0 : Int) := by omega
              refine ok_seq 3 (σ' := (76, [(5, .int (Int32.ofInt 0)), (1, .int (nI an)), (4, .int (nI 0)), (3, .int (nI m)), (2, .int (nI o)), (0, .ref 185)], [.int (nI an)], gSh, M3)) rfl ?_
              rw [cI_0]
              refine ok_if 93 rfl rfl ?_ ?_
              · intro hn0
                simp only [pCP] at hn0
                rw [hI_int (a := an) (by omega)] at hn0
                have hn0 : ((an : Nat) : Int) ≠ (0 : Int) := by omega
                refine ok_seq 1 (σ' := (94, [(5, .int (nI 0)), (1, .int (nI an)), (4, .int (nI 0)), (3, .int (nI m)), (2, .int (nI o)), (0, .ref 185)], [.int (nI an)], gSh, M3)) rfl ?_
                refine ok_if 102 rfl rfl ?_ ?_
                · intro hq0
                  simp only [pCP] at hq0
                  rw [hI_int (a := an) (by omega)] at hq0
                  have hq0 : ((an : Nat) : Int) ≠ (0 : Int) := by omega
                  refine ok_seq 4 (σ' := (109, [(3, .int (Int32.ofInt 1)), (5, .int (nI 0)), (1, .int (nI an)), (4, .int (nI 0)), (2, .int (nI o)), (0, .ref 185)], [.int (Int32.ofInt 1)], gSh, M3)) rfl ?_
                  rw [cI_1]
                  refine ok_if 116 rfl rfl (fun hz => absurd hz (by simp only [pCP]; rw [hI_int (a := 1) (by omega)]; omega)) (fun _ => ?_)
                  refine ok_seq 1 (σ' := (113, [(3, .int (nI 1)), (5, .int (nI 0)), (1, .int (nI an)), (4, .int (nI 0)), (2, .int (nI o)), (0, .ref 185)], [.ref 185], gSh, M3)) rfl ?_
                  have ht : tok.toInt ≠ 0 := by first | exact z3 (by omega) | omega
                  refine ok_call (mi := 180) (as := [.ref 185]) (pc' := 116) (L' := [(3, .int (nI 1)), (5, .int (nI 0)), (1, .int (nI an)), (4, .int (nI 0)), (2, .int (nI o)), (0, .ref 185)]) (st' := []) (sh' := gSh) (M' := M3) (i := .invokevirtual 189) (len := 3) rfl rfl ?_
                  refine (((c_nextQ (d := 0) hT hq3.1.1.1 hC3 h12 ht).deep (by omega))).mono ?_
                  rintro v2 ⟨sh2, M8⟩ ⟨rfl, hsh, ⟨a8, hN8⟩, hC8⟩
                  have hsh : sh2 = gSh := hsh
                  subst hsh
                  dsimp only at hN8 hC8
                  refine ok_seq 1 (σ' := (6, [(3, .int (nI 1)), (5, .int (nI 0)), (1, .int (nI an)), (4, .int (nI 0)), (2, .int (nI o)), (0, .ref 185)], [], gSh, M8)) rfl ?_
                  have hlt := PC.le hC3 h12 ht
                  exact ih (300 - (c2 + 1)) (by omega) (c2 + 1) an o 1 (w2 + 1) (D'.1, D'.2 - 1) M8 _ rfl (by omega) (by omega) (by omega) (by decide) (hq3.next hN8) hC8 (fun _ => by first | omega | (show _ ≤ ((D'.1, D'.2 - 1)).2; omega)) (fun hz => by omega) (fun _ => by omega) (Or.inr (Or.inr ⟨_, _, rfl⟩))
                · intro hq0
                  simp only [pCP] at hq0
                  rw [hI_int (a := an) (by omega)] at hq0
                  have hq0 : ((an : Nat) : Int) = (0 : Int) := by omega
                  refine ok_seq 1 (σ' := (99, [(5, .int (nI 0)), (1, .int (nI an)), (4, .int (nI 0)), (3, .int (nI m)), (2, .int (nI o)), (0, .ref 185)], [.int (nI 0)], gSh, M3)) rfl ?_
                  refine ok_if 106 rfl rfl ?_ ?_
                  · intro hb0
                    simp only [pCP] at hb0
                    rw [hI_int (a := 0) (by omega)] at hb0
                    have hb0 : ((0 : Nat) : Int) = (0 : Int) := by omega
                    refine ok_seq 3 (σ' := (109, [(3, .int (Int32.ofInt 0)), (5, .int (nI 0)), (1, .int (nI an)), (4, .int (nI 0)), (2, .int (nI o)), (0, .ref 185)], [.int (Int32.ofInt 0)], gSh, M3)) rfl ?_
                    rw [cI_0]
                    refine ok_if 116 rfl rfl (fun _ => ?_) (fun hz => absurd (by simp only [pCP]; rw [hI_int (a := 0) (by omega)]; omega) hz)
                    refine ok_seq 2 (σ' := (7, [(3, .int (nI 0)), (5, .int (nI 0)), (1, .int (nI an)), (4, .int (nI 0)), (2, .int (nI o)), (0, .ref 185)], [.int (nI 0)], gSh, M3)) rfl ?_
                    refine ok_if 119 rfl rfl (fun _ => ?_) (fun hz => absurd (by simp only [pCP]; rw [hI_int (a := 0) (by omega)]; omega) hz)
                    refine ok_seq 1 (σ' := (120, [(3, .int (nI 0)), (5, .int (nI 0)), (1, .int (nI an)), (4, .int (nI 0)), (2, .int (nI o)), (0, .ref 185)], [.int (Int32.ofInt 0)], gSh, M3)) rfl ?_
                    rw [cI_0]
                    exact ok_ret (i := .ireturn) (len := 1) rfl rfl ⟨some (.int (nI 0)), rfl, rfl, Or.inl ⟨rfl, (w2 + 1), c2, (D'.1, D'.2 - 1), hq3, hC3, by omega, by omega⟩⟩
                  · intro hb0
                    simp only [pCP] at hb0
                    rw [hI_int (a := 0) (by omega)] at hb0
                    have hb0 : ((0 : Nat) : Int) ≠ (0 : Int) := by omega
                    refine ok_seq 4 (σ' := (109, [(3, .int (Int32.ofInt 1)), (5, .int (nI 0)), (1, .int (nI an)), (4, .int (nI 0)), (2, .int (nI o)), (0, .ref 185)], [.int (Int32.ofInt 1)], gSh, M3)) rfl ?_
                    rw [cI_1]
                    refine ok_if 116 rfl rfl (fun hz => absurd hz (by simp only [pCP]; rw [hI_int (a := 1) (by omega)]; omega)) (fun _ => ?_)
                    refine ok_seq 1 (σ' := (113, [(3, .int (nI 1)), (5, .int (nI 0)), (1, .int (nI an)), (4, .int (nI 0)), (2, .int (nI o)), (0, .ref 185)], [.ref 185], gSh, M3)) rfl ?_
                    have ht : tok.toInt ≠ 0 := by first | exact z3 (by omega) | omega
                    refine ok_call (mi := 180) (as := [.ref 185]) (pc' := 116) (L' := [(3, .int (nI 1)), (5, .int (nI 0)), (1, .int (nI an)), (4, .int (nI 0)), (2, .int (nI o)), (0, .ref 185)]) (st' := []) (sh' := gSh) (M' := M3) (i := .invokevirtual 189) (len := 3) rfl rfl ?_
                    refine (((c_nextQ (d := 0) hT hq3.1.1.1 hC3 h12 ht).deep (by omega))).mono ?_
                    rintro v2 ⟨sh2, M8⟩ ⟨rfl, hsh, ⟨a8, hN8⟩, hC8⟩
                    have hsh : sh2 = gSh := hsh
                    subst hsh
                    dsimp only at hN8 hC8
                    refine ok_seq 1 (σ' := (6, [(3, .int (nI 1)), (5, .int (nI 0)), (1, .int (nI an)), (4, .int (nI 0)), (2, .int (nI o)), (0, .ref 185)], [], gSh, M8)) rfl ?_
                    have hlt := PC.le hC3 h12 ht
                    exact ih (300 - (c2 + 1)) (by omega) (c2 + 1) an o 1 (w2 + 1) (D'.1, D'.2 - 1) M8 _ rfl (by omega) (by omega) (by omega) (by decide) (hq3.next hN8) hC8 (fun _ => by first | omega | (show _ ≤ ((D'.1, D'.2 - 1)).2; omega)) (fun hz => by omega) (fun _ => by omega) (Or.inr (Or.inr ⟨_, _, rfl⟩))
              · intro hn0
                simp only [pCP] at hn0
                rw [hI_int (a := an) (by omega)] at hn0
                have hn0 : ((an : Nat) : Int) = (0 : Int) := by omega
                refine ok_seq 1 (σ' := (80, [(5, .int (nI 0)), (1, .int (nI an)), (4, .int (nI 0)), (3, .int (nI m)), (2, .int (nI o)), (0, .ref 185)], [.int (nI o)], gSh, M3)) rfl ?_
                refine ok_if 90 rfl rfl ?_ ?_
                · intro ho0
                  simp only [pCP] at ho0
                  rw [hI_int (a := o) (by omega)] at ho0
                  have ho0 : ((o : Nat) : Int) = (0 : Int) := by omega
                  refine ok_seq 3 (σ' := (94, [(2, .int (nI 0)), (5, .int (nI 0)), (1, .int (nI an)), (4, .int (nI 0)), (3, .int (nI m)), (0, .ref 185)], [.int (nI an)], gSh, M3)) rfl ?_
                  refine ok_if 102 rfl rfl ?_ ?_
                  · intro hq0
                    simp only [pCP] at hq0
                    rw [hI_int (a := an) (by omega)] at hq0
                    have hq0 : ((an : Nat) : Int) ≠ (0 : Int) := by omega
                    refine ok_seq 4 (σ' := (109, [(3, .int (Int32.ofInt 1)), (2, .int (nI 0)), (5, .int (nI 0)), (1, .int (nI an)), (4, .int (nI 0)), (0, .ref 185)], [.int (Int32.ofInt 1)], gSh, M3)) rfl ?_
                    rw [cI_1]
                    refine ok_if 116 rfl rfl (fun hz => absurd hz (by simp only [pCP]; rw [hI_int (a := 1) (by omega)]; omega)) (fun _ => ?_)
                    refine ok_seq 1 (σ' := (113, [(3, .int (nI 1)), (2, .int (nI 0)), (5, .int (nI 0)), (1, .int (nI an)), (4, .int (nI 0)), (0, .ref 185)], [.ref 185], gSh, M3)) rfl ?_
                    have ht : tok.toInt ≠ 0 := by first | exact z3 (by omega) | omega
                    refine ok_call (mi := 180) (as := [.ref 185]) (pc' := 116) (L' := [(3, .int (nI 1)), (2, .int (nI 0)), (5, .int (nI 0)), (1, .int (nI an)), (4, .int (nI 0)), (0, .ref 185)]) (st' := []) (sh' := gSh) (M' := M3) (i := .invokevirtual 189) (len := 3) rfl rfl ?_
                    refine (((c_nextQ (d := 0) hT hq3.1.1.1 hC3 h12 ht).deep (by omega))).mono ?_
                    rintro v2 ⟨sh2, M8⟩ ⟨rfl, hsh, ⟨a8, hN8⟩, hC8⟩
                    have hsh : sh2 = gSh := hsh
                    subst hsh
                    dsimp only at hN8 hC8
                    refine ok_seq 1 (σ' := (6, [(3, .int (nI 1)), (2, .int (nI 0)), (5, .int (nI 0)), (1, .int (nI an)), (4, .int (nI 0)), (0, .ref 185)], [], gSh, M8)) rfl ?_
                    have hlt := PC.le hC3 h12 ht
                    exact ih (300 - (c2 + 1)) (by omega) (c2 + 1) an 0 1 (w2 + 1) (D'.1, D'.2 - 1) M8 _ rfl (by omega) (by omega) (by omega) (by decide) (hq3.next hN8) hC8 (fun _ => by first | omega | (show _ ≤ ((D'.1, D'.2 - 1)).2; omega)) (fun hz => by omega) (fun _ => by omega) (Or.inr (Or.inl ⟨_, _, rfl⟩))
                  · intro hq0
                    simp only [pCP] at hq0
                    rw [hI_int (a := an) (by omega)] at hq0
                    have hq0 : ((an : Nat) : Int) = (0 : Int) := by omega
                    refine ok_seq 1 (σ' := (99, [(2, .int (nI 0)), (5, .int (nI 0)), (1, .int (nI an)), (4, .int (nI 0)), (3, .int (nI m)), (0, .ref 185)], [.int (nI 0)], gSh, M3)) rfl ?_
                    refine ok_if 106 rfl rfl ?_ ?_
                    · intro hb0
                      simp only [pCP] at hb0
                      rw [hI_int (a := 0) (by omega)] at hb0
                      have hb0 : ((0 : Nat) : Int) = (0 : Int) := by omega
                      refine ok_seq 3 (σ' := (109, [(3, .int (Int32.ofInt 0)), (2, .int (nI 0)), (5, .int (nI 0)), (1, .int (nI an)), (4, .int (nI 0)), (0, .ref 185)], [.int (Int32.ofInt 0)], gSh, M3)) rfl ?_
                      rw [cI_0]
                      refine ok_if 116 rfl rfl (fun _ => ?_) (fun hz => absurd (by simp only [pCP]; rw [hI_int (a := 0) (by omega)]; omega) hz)
                      refine ok_seq 2 (σ' := (7, [(3, .int (nI 0)), (2, .int (nI 0)), (5, .int (nI 0)), (1, .int (nI an)), (4, .int (nI 0)), (0, .ref 185)], [.int (nI 0)], gSh, M3)) rfl ?_
                      refine ok_if 119 rfl rfl (fun _ => ?_) (fun hz => absurd (by simp only [pCP]; rw [hI_int (a := 0) (by omega)]; omega) hz)
                      refine ok_seq 1 (σ' := (120, [(3, .int (nI 0)), (2, .int (nI 0)), (5, .int (nI 0)), (1, .int (nI an)), (4, .int (nI 0)), (0, .ref 185)], [.int (Int32.ofInt 0)], gSh, M3)) rfl ?_
                      rw [cI_0]
                      exact ok_ret (i := .ireturn) (len := 1) rfl rfl ⟨some (.int (nI 0)), rfl, rfl, Or.inl ⟨rfl, (w2 + 1), c2, (D'.1, D'.2 - 1), hq3, hC3, by omega, by omega⟩⟩
                    · intro hb0
                      simp only [pCP] at hb0
                      rw [hI_int (a := 0) (by omega)] at hb0
                      have hb0 : ((0 : Nat) : Int) ≠ (0 : Int) := by omega
                      refine ok_seq 4 (σ' := (109, [(3, .int (Int32.ofInt 1)), (2, .int (nI 0)), (5, .int (nI 0)), (1, .int (nI an)), (4, .int (nI 0)), (0, .ref 185)], [.int (Int32.ofInt 1)], gSh, M3)) rfl ?_
                      rw [cI_1]
                      refine ok_if 116 rfl rfl (fun hz => absurd hz (by simp only [pCP]; rw [hI_int (a := 1) (by omega)]; omega)) (fun _ => ?_)
                      refine ok_seq 1 (σ' := (113, [(3, .int (nI 1)), (2, .int (nI 0)), (5, .int (nI 0)), (1, .int (nI an)), (4, .int (nI 0)), (0, .ref 185)], [.ref 185], gSh, M3)) rfl ?_
                      have ht : tok.toInt ≠ 0 := by first | exact z3 (by omega) | omega
                      refine ok_call (mi := 180) (as := [.ref 185]) (pc' := 116) (L' := [(3, .int (nI 1)), (2, .int (nI 0)), (5, .int (nI 0)), (1, .int (nI an)), (4, .int (nI 0)), (0, .ref 185)]) (st' := []) (sh' := gSh) (M' := M3) (i := .invokevirtual 189) (len := 3) rfl rfl ?_
                      refine (((c_nextQ (d := 0) hT hq3.1.1.1 hC3 h12 ht).deep (by omega))).mono ?_
                      rintro v2 ⟨sh2, M8⟩ ⟨rfl, hsh, ⟨a8, hN8⟩, hC8⟩
                      have hsh : sh2 = gSh := hsh
                      subst hsh
                      dsimp only at hN8 hC8
                      refine ok_seq 1 (σ' := (6, [(3, .int (nI 1)), (2, .int (nI 0)), (5, .int (nI 0)), (1, .int (nI an)), (4, .int (nI 0)), (0, .ref 185)], [], gSh, M8)) rfl ?_
                      have hlt := PC.le hC3 h12 ht
                      exact ih (300 - (c2 + 1)) (by omega) (c2 + 1) an 0 1 (w2 + 1) (D'.1, D'.2 - 1) M8 _ rfl (by omega) (by omega) (by omega) (by decide) (hq3.next hN8) hC8 (fun _ => by first | omega | (show _ ≤ ((D'.1, D'.2 - 1)).2; omega)) (fun hz => by omega) (fun _ => by omega) (Or.inr (Or.inl ⟨_, _, rfl⟩))
                · intro ho0
                  simp only [pCP] at ho0
                  rw [hI_int (a := o) (by omega)] at ho0
                  have ho0 : ((o : Nat) : Int) ≠ (0 : Int) := by omega
                  refine ok_seq 3 (σ' := (87, [(5, .int (nI 0)), (1, .int (nI an)), (4, .int (nI 0)), (3, .int (nI m)), (2, .int (nI o)), (0, .ref 185)], [.int (Int32.ofInt 0), .int ((Int8.ofInt 22).toInt32), .ref 185], gSh, M3)) rfl ?_
                  rw [(show (Int8.ofInt 22).toInt32 = nI 22 by decide), cI_0]
                  refine ok_call (mi := 186) (as := [.ref 185, .int (nI 22), .int (nI 0)]) (pc' := 90) (L' := [(5, .int (nI 0)), (1, .int (nI an)), (4, .int (nI 0)), (3, .int (nI m)), (2, .int (nI o)), (0, .ref 185)]) (st' := []) (sh' := gSh) (M' := M3) (i := .invokevirtual 170) (len := 3) rfl rfl ?_
                  refine ((c_emit0 (d := d + dN + 6) hT hq3 (D' := ((D'.1, D'.2 - 1).1, (D'.1, D'.2 - 1).2 - 1)) (o := nI 22) (v := nI 0) (Or.inr (Or.inr (Or.inr (Or.inr (Or.inr (Or.inr ⟨by decide, by decide, by omega, rfl⟩)))))) (by omega))).mono ?_
                  rintro v ⟨sh2, M7⟩ ⟨rfl, hsh, hq7, hf7⟩
                  have hsh : sh2 = gSh := hsh
                  subst hsh
                  dsimp only at hq7 hf7
                  refine ok_seq 3 (σ' := (94, [(2, .int (nI 0)), (5, .int (nI 0)), (1, .int (nI an)), (4, .int (nI 0)), (3, .int (nI m)), (0, .ref 185)], [.int (nI an)], gSh, M7)) rfl ?_
                  refine ok_if 102 rfl rfl ?_ ?_
                  · intro hq0
                    simp only [pCP] at hq0
                    rw [hI_int (a := an) (by omega)] at hq0
                    have hq0 : ((an : Nat) : Int) ≠ (0 : Int) := by omega
                    refine ok_seq 4 (σ' := (109, [(3, .int (Int32.ofInt 1)), (2, .int (nI 0)), (5, .int (nI 0)), (1, .int (nI an)), (4, .int (nI 0)), (0, .ref 185)], [.int (Int32.ofInt 1)], gSh, M7)) rfl ?_
                    rw [cI_1]
                    refine ok_if 116 rfl rfl (fun hz => absurd hz (by simp only [pCP]; rw [hI_int (a := 1) (by omega)]; omega)) (fun _ => ?_)
                    refine ok_seq 1 (σ' := (113, [(3, .int (nI 1)), (2, .int (nI 0)), (5, .int (nI 0)), (1, .int (nI an)), (4, .int (nI 0)), (0, .ref 185)], [.ref 185], gSh, M7)) rfl ?_
                    have ht : tok.toInt ≠ 0 := by first | exact z3 (by omega) | omega
                    refine ok_call (mi := 180) (as := [.ref 185]) (pc' := 116) (L' := [(3, .int (nI 1)), (2, .int (nI 0)), (5, .int (nI 0)), (1, .int (nI an)), (4, .int (nI 0)), (0, .ref 185)]) (st' := []) (sh' := gSh) (M' := M7) (i := .invokevirtual 189) (len := 3) rfl rfl ?_
                    refine (((c_nextQ (d := 0) hT hq7.1.1.1 (PC.keep hC3 (hf7.at 10 (by decide)) (hf7.at 12 (by decide))) (by rw [hf7.at 12 (by decide)]; exact h12) ht).deep (by omega))).mono ?_
                    rintro v2 ⟨sh2, M8⟩ ⟨rfl, hsh, ⟨a8, hN8⟩, hC8⟩
                    have hsh : sh2 = gSh := hsh
                    subst hsh
                    dsimp only at hN8 hC8
                    refine ok_seq 1 (σ' := (6, [(3, .int (nI 1)), (2, .int (nI 0)), (5, .int (nI 0)), (1, .int (nI an)), (4, .int (nI 0)), (0, .ref 185)], [], gSh, M8)) rfl ?_
                    have hlt := PC.le (PC.keep hC3 (hf7.at 10 (by decide)) (hf7.at 12 (by decide))) (by rw [hf7.at 12 (by decide)]; exact h12) ht
                    exact ih (300 - (c2 + 1)) (by omega) (c2 + 1) an 0 1 ((w2 + 1) + 1) ((D'.1, D'.2 - 1).1, (D'.1, D'.2 - 1).2 - 1) M8 _ rfl (by omega) (by omega) (by omega) (by decide) (hq7.next hN8) hC8 (fun _ => by first | omega | (show _ ≤ (((D'.1, D'.2 - 1).1, (D'.1, D'.2 - 1).2 - 1)).2; omega)) (fun hz => by omega) (fun _ => by omega) (Or.inr (Or.inl ⟨_, _, rfl⟩))
                  · intro hq0
                    simp only [pCP] at hq0
                    rw [hI_int (a := an) (by omega)] at hq0
                    have hq0 : ((an : Nat) : Int) = (0 : Int) := by omega
                    refine ok_seq 1 (σ' := (99, [(2, .int (nI 0)), (5, .int (nI 0)), (1, .int (nI an)), (4, .int (nI 0)), (3, .int (nI m)), (0, .ref 185)], [.int (nI 0)], gSh, M7)) rfl ?_
                    refine ok_if 106 rfl rfl ?_ ?_
                    · intro hb0
                      simp only [pCP] at hb0
                      rw [hI_int (a := 0) (by omega)] at hb0
                      have hb0 : ((0 : Nat) : Int) = (0 : Int) := by omega
                      refine ok_seq 3 (σ' := (109, [(3, .int (Int32.ofInt 0)), (2, .int (nI 0)), (5, .int (nI 0)), (1, .int (nI an)), (4, .int (nI 0)), (0, .ref 185)], [.int (Int32.ofInt 0)], gSh, M7)) rfl ?_
                      rw [cI_0]
                      refine ok_if 116 rfl rfl (fun _ => ?_) (fun hz => absurd (by simp only [pCP]; rw [hI_int (a := 0) (by omega)]; omega) hz)
                      refine ok_seq 2 (σ' := (7, [(3, .int (nI 0)), (2, .int (nI 0)), (5, .int (nI 0)), (1, .int (nI an)), (4, .int (nI 0)), (0, .ref 185)], [.int (nI 0)], gSh, M7)) rfl ?_
                      refine ok_if 119 rfl rfl (fun _ => ?_) (fun hz => absurd (by simp only [pCP]; rw [hI_int (a := 0) (by omega)]; omega) hz)
                      refine ok_seq 1 (σ' := (120, [(3, .int (nI 0)), (2, .int (nI 0)), (5, .int (nI 0)), (1, .int (nI an)), (4, .int (nI 0)), (0, .ref 185)], [.int (Int32.ofInt 0)], gSh, M7)) rfl ?_
                      rw [cI_0]
                      exact ok_ret (i := .ireturn) (len := 1) rfl rfl ⟨some (.int (nI 0)), rfl, rfl, Or.inl ⟨rfl, ((w2 + 1) + 1), c2, ((D'.1, D'.2 - 1).1, (D'.1, D'.2 - 1).2 - 1), hq7, (PC.keep hC3 (hf7.at 10 (by decide)) (hf7.at 12 (by decide))), by omega, by omega⟩⟩
                    · intro hb0
                      simp only [pCP] at hb0
                      rw [hI_int (a := 0) (by omega)] at hb0
                      have hb0 : ((0 : Nat) : Int) ≠ (0 : Int) := by omega
                      refine ok_seq 4 (σ' := (109, [(3, .int (Int32.ofInt 1)), (2, .int (nI 0)), (5, .int (nI 0)), (1, .int (nI an)), (4, .int (nI 0)), (0, .ref 185)], [.int (Int32.ofInt 1)], gSh, M7)) rfl ?_
                      rw [cI_1]
                      refine ok_if 116 rfl rfl (fun hz => absurd hz (by simp only [pCP]; rw [hI_int (a := 1) (by omega)]; omega)) (fun _ => ?_)
                      refine ok_seq 1 (σ' := (113, [(3, .int (nI 1)), (2, .int (nI 0)), (5, .int (nI 0)), (1, .int (nI an)), (4, .int (nI 0)), (0, .ref 185)], [.ref 185], gSh, M7)) rfl ?_
                      have ht : tok.toInt ≠ 0 := by first | exact z3 (by omega) | omega
                      refine ok_call (mi := 180) (as := [.ref 185]) (pc' := 116) (L' := [(3, .int (nI 1)), (2, .int (nI 0)), (5, .int (nI 0)), (1, .int (nI an)), (4, .int (nI 0)), (0, .ref 185)]) (st' := []) (sh' := gSh) (M' := M7) (i := .invokevirtual 189) (len := 3) rfl rfl ?_
                      refine (((c_nextQ (d := 0) hT hq7.1.1.1 (PC.keep hC3 (hf7.at 10 (by decide)) (hf7.at 12 (by decide))) (by rw [hf7.at 12 (by decide)]; exact h12) ht).deep (by omega))).mono ?_
                      rintro v2 ⟨sh2, M8⟩ ⟨rfl, hsh, ⟨a8, hN8⟩, hC8⟩
                      have hsh : sh2 = gSh := hsh
                      subst hsh
                      dsimp only at hN8 hC8
                      refine ok_seq 1 (σ' := (6, [(3, .int (nI 1)), (2, .int (nI 0)), (5, .int (nI 0)), (1, .int (nI an)), (4, .int (nI 0)), (0, .ref 185)], [], gSh, M8)) rfl ?_
                      have hlt := PC.le (PC.keep hC3 (hf7.at 10 (by decide)) (hf7.at 12 (by decide))) (by rw [hf7.at 12 (by decide)]; exact h12) ht
                      exact ih (300 - (c2 + 1)) (by omega) (c2 + 1) an 0 1 ((w2 + 1) + 1) ((D'.1, D'.2 - 1).1, (D'.1, D'.2 - 1).2 - 1) M8 _ rfl (by omega) (by omega) (by omega) (by decide) (hq7.next hN8) hC8 (fun _ => by first | omega | (show _ ≤ (((D'.1, D'.2 - 1).1, (D'.1, D'.2 - 1).2 - 1)).2; omega)) (fun hz => by omega) (fun _ => by omega) (Or.inr (Or.inl ⟨_, _, rfl⟩))
            · intro hw
              simp only [pCP] at hw
              have hw : (lg_cmp wd ((28530 : Int64))).toInt = (0 : Int) := by omega
              refine ok_seq 4 (σ' := (76, [(5, .int (Int32.ofInt 1)), (1, .int (nI an)), (4, .int (nI 0)), (3, .int (nI m)), (2, .int (nI o)), (0, .ref 185)], [.int (nI an)], gSh, M3)) rfl ?_
              rw [cI_1]
              refine ok_if 93 rfl rfl ?_ ?_
              · intro hn0
                simp only [pCP] at hn0
                rw [hI_int (a := an) (by omega)] at hn0
                have hn0 : ((an : Nat) : Int) ≠ (0 : Int) := by omega
                refine ok_seq 1 (σ' := (94, [(5, .int (nI 1)), (1, .int (nI an)), (4, .int (nI 0)), (3, .int (nI m)), (2, .int (nI o)), (0, .ref 185)], [.int (nI an)], gSh, M3)) rfl ?_
                refine ok_if 102 rfl rfl ?_ ?_
                · intro hq0
                  simp only [pCP] at hq0
                  rw [hI_int (a := an) (by omega)] at hq0
                  have hq0 : ((an : Nat) : Int) ≠ (0 : Int) := by omega
                  refine ok_seq 4 (σ' := (109, [(3, .int (Int32.ofInt 1)), (5, .int (nI 1)), (1, .int (nI an)), (4, .int (nI 0)), (2, .int (nI o)), (0, .ref 185)], [.int (Int32.ofInt 1)], gSh, M3)) rfl ?_
                  rw [cI_1]
                  refine ok_if 116 rfl rfl (fun hz => absurd hz (by simp only [pCP]; rw [hI_int (a := 1) (by omega)]; omega)) (fun _ => ?_)
                  refine ok_seq 1 (σ' := (113, [(3, .int (nI 1)), (5, .int (nI 1)), (1, .int (nI an)), (4, .int (nI 0)), (2, .int (nI o)), (0, .ref 185)], [.ref 185], gSh, M3)) rfl ?_
                  have ht : tok.toInt ≠ 0 := by first | exact z3 (by omega) | omega
                  refine ok_call (mi := 180) (as := [.ref 185]) (pc' := 116) (L' := [(3, .int (nI 1)), (5, .int (nI 1)), (1, .int (nI an)), (4, .int (nI 0)), (2, .int (nI o)), (0, .ref 185)]) (st' := []) (sh' := gSh) (M' := M3) (i := .invokevirtual 189) (len := 3) rfl rfl ?_
                  refine (((c_nextQ (d := 0) hT hq3.1.1.1 hC3 h12 ht).deep (by omega))).mono ?_
                  rintro v2 ⟨sh2, M8⟩ ⟨rfl, hsh, ⟨a8, hN8⟩, hC8⟩
                  have hsh : sh2 = gSh := hsh
                  subst hsh
                  dsimp only at hN8 hC8
                  refine ok_seq 1 (σ' := (6, [(3, .int (nI 1)), (5, .int (nI 1)), (1, .int (nI an)), (4, .int (nI 0)), (2, .int (nI o)), (0, .ref 185)], [], gSh, M8)) rfl ?_
                  have hlt := PC.le hC3 h12 ht
                  exact ih (300 - (c2 + 1)) (by omega) (c2 + 1) an o 1 (w2 + 1) (D'.1, D'.2 - 1) M8 _ rfl (by omega) (by omega) (by omega) (by decide) (hq3.next hN8) hC8 (fun _ => by first | omega | (show _ ≤ ((D'.1, D'.2 - 1)).2; omega)) (fun hz => by omega) (fun _ => by omega) (Or.inr (Or.inr ⟨_, _, rfl⟩))
                · intro hq0
                  simp only [pCP] at hq0
                  rw [hI_int (a := an) (by omega)] at hq0
                  have hq0 : ((an : Nat) : Int) = (0 : Int) := by omega
                  refine ok_seq 1 (σ' := (99, [(5, .int (nI 1)), (1, .int (nI an)), (4, .int (nI 0)), (3, .int (nI m)), (2, .int (nI o)), (0, .ref 185)], [.int (nI 1)], gSh, M3)) rfl ?_
                  refine ok_if 106 rfl rfl ?_ ?_
                  · intro hb0
                    simp only [pCP] at hb0
                    rw [hI_int (a := 1) (by omega)] at hb0
                    have hb0 : ((1 : Nat) : Int) = (0 : Int) := by omega
                    refine ok_seq 3 (σ' := (109, [(3, .int (Int32.ofInt 0)), (5, .int (nI 1)), (1, .int (nI an)), (4, .int (nI 0)), (2, .int (nI o)), (0, .ref 185)], [.int (Int32.ofInt 0)], gSh, M3)) rfl ?_
                    rw [cI_0]
                    refine ok_if 116 rfl rfl (fun _ => ?_) (fun hz => absurd (by simp only [pCP]; rw [hI_int (a := 0) (by omega)]; omega) hz)
                    refine ok_seq 2 (σ' := (7, [(3, .int (nI 0)), (5, .int (nI 1)), (1, .int (nI an)), (4, .int (nI 0)), (2, .int (nI o)), (0, .ref 185)], [.int (nI 0)], gSh, M3)) rfl ?_
                    refine ok_if 119 rfl rfl (fun _ => ?_) (fun hz => absurd (by simp only [pCP]; rw [hI_int (a := 0) (by omega)]; omega) hz)
                    refine ok_seq 1 (σ' := (120, [(3, .int (nI 0)), (5, .int (nI 1)), (1, .int (nI an)), (4, .int (nI 0)), (2, .int (nI o)), (0, .ref 185)], [.int (Int32.ofInt 0)], gSh, M3)) rfl ?_
                    rw [cI_0]
                    exact ok_ret (i := .ireturn) (len := 1) rfl rfl ⟨some (.int (nI 0)), rfl, rfl, Or.inl ⟨rfl, (w2 + 1), c2, (D'.1, D'.2 - 1), hq3, hC3, by omega, by omega⟩⟩
                  · intro hb0
                    simp only [pCP] at hb0
                    rw [hI_int (a := 1) (by omega)] at hb0
                    have hb0 : ((1 : Nat) : Int) ≠ (0 : Int) := by omega
                    refine ok_seq 4 (σ' := (109, [(3, .int (Int32.ofInt 1)), (5, .int (nI 1)), (1, .int (nI an)), (4, .int (nI 0)), (2, .int (nI o)), (0, .ref 185)], [.int (Int32.ofInt 1)], gSh, M3)) rfl ?_
                    rw [cI_1]
                    refine ok_if 116 rfl rfl (fun hz => absurd hz (by simp only [pCP]; rw [hI_int (a := 1) (by omega)]; omega)) (fun _ => ?_)
                    refine ok_seq 1 (σ' := (113, [(3, .int (nI 1)), (5, .int (nI 1)), (1, .int (nI an)), (4, .int (nI 0)), (2, .int (nI o)), (0, .ref 185)], [.ref 185], gSh, M3)) rfl ?_
                    have ht : tok.toInt ≠ 0 := by first | exact z3 (by omega) | omega
                    refine ok_call (mi := 180) (as := [.ref 185]) (pc' := 116) (L' := [(3, .int (nI 1)), (5, .int (nI 1)), (1, .int (nI an)), (4, .int (nI 0)), (2, .int (nI o)), (0, .ref 185)]) (st' := []) (sh' := gSh) (M' := M3) (i := .invokevirtual 189) (len := 3) rfl rfl ?_
                    refine (((c_nextQ (d := 0) hT hq3.1.1.1 hC3 h12 ht).deep (by omega))).mono ?_
                    rintro v2 ⟨sh2, M8⟩ ⟨rfl, hsh, ⟨a8, hN8⟩, hC8⟩
                    have hsh : sh2 = gSh := hsh
                    subst hsh
                    dsimp only at hN8 hC8
                    refine ok_seq 1 (σ' := (6, [(3, .int (nI 1)), (5, .int (nI 1)), (1, .int (nI an)), (4, .int (nI 0)), (2, .int (nI o)), (0, .ref 185)], [], gSh, M8)) rfl ?_
                    have hlt := PC.le hC3 h12 ht
                    exact ih (300 - (c2 + 1)) (by omega) (c2 + 1) an o 1 (w2 + 1) (D'.1, D'.2 - 1) M8 _ rfl (by omega) (by omega) (by omega) (by decide) (hq3.next hN8) hC8 (fun _ => by first | omega | (show _ ≤ ((D'.1, D'.2 - 1)).2; omega)) (fun hz => by omega) (fun _ => by omega) (Or.inr (Or.inr ⟨_, _, rfl⟩))
              · intro hn0
                simp only [pCP] at hn0
                rw [hI_int (a := an) (by omega)] at hn0
                have hn0 : ((an : Nat) : Int) = (0 : Int) := by omega
                refine ok_seq 1 (σ' := (80, [(5, .int (nI 1)), (1, .int (nI an)), (4, .int (nI 0)), (3, .int (nI m)), (2, .int (nI o)), (0, .ref 185)], [.int (nI o)], gSh, M3)) rfl ?_
                refine ok_if 90 rfl rfl ?_ ?_
                · intro ho0
                  simp only [pCP] at ho0
                  rw [hI_int (a := o) (by omega)] at ho0
                  have ho0 : ((o : Nat) : Int) = (0 : Int) := by omega
                  refine ok_seq 3 (σ' := (94, [(2, .int (nI 1)), (5, .int (nI 1)), (1, .int (nI an)), (4, .int (nI 0)), (3, .int (nI m)), (0, .ref 185)], [.int (nI an)], gSh, M3)) rfl ?_
                  refine ok_if 102 rfl rfl ?_ ?_
                  · intro hq0
                    simp only [pCP] at hq0
                    rw [hI_int (a := an) (by omega)] at hq0
                    have hq0 : ((an : Nat) : Int) ≠ (0 : Int) := by omega
                    refine ok_seq 4 (σ' := (109, [(3, .int (Int32.ofInt 1)), (2, .int (nI 1)), (5, .int (nI 1)), (1, .int (nI an)), (4, .int (nI 0)), (0, .ref 185)], [.int (Int32.ofInt 1)], gSh, M3)) rfl ?_
                    rw [cI_1]
                    refine ok_if 116 rfl rfl (fun hz => absurd hz (by simp only [pCP]; rw [hI_int (a := 1) (by omega)]; omega)) (fun _ => ?_)
                    refine ok_seq 1 (σ' := (113, [(3, .int (nI 1)), (2, .int (nI 1)), (5, .int (nI 1)), (1, .int (nI an)), (4, .int (nI 0)), (0, .ref 185)], [.ref 185], gSh, M3)) rfl ?_
                    have ht : tok.toInt ≠ 0 := by first | exact z3 (by omega) | omega
                    refine ok_call (mi := 180) (as := [.ref 185]) (pc' := 116) (L' := [(3, .int (nI 1)), (2, .int (nI 1)), (5, .int (nI 1)), (1, .int (nI an)), (4, .int (nI 0)), (0, .ref 185)]) (st' := []) (sh' := gSh) (M' := M3) (i := .invokevirtual 189) (len := 3) rfl rfl ?_
                    refine (((c_nextQ (d := 0) hT hq3.1.1.1 hC3 h12 ht).deep (by omega))).mono ?_
                    rintro v2 ⟨sh2, M8⟩ ⟨rfl, hsh, ⟨a8, hN8⟩, hC8⟩
                    have hsh : sh2 = gSh := hsh
                    subst hsh
                    dsimp only at hN8 hC8
                    refine ok_seq 1 (σ' := (6, [(3, .int (nI 1)), (2, .int (nI 1)), (5, .int (nI 1)), (1, .int (nI an)), (4, .int (nI 0)), (0, .ref 185)], [], gSh, M8)) rfl ?_
                    have hlt := PC.le hC3 h12 ht
                    exact ih (300 - (c2 + 1)) (by omega) (c2 + 1) an 1 1 (w2 + 1) (D'.1, D'.2 - 1) M8 _ rfl (by omega) (by omega) (by omega) (by decide) (hq3.next hN8) hC8 (fun _ => by first | omega | (show _ ≤ ((D'.1, D'.2 - 1)).2; omega)) (fun hz => by omega) (fun _ => by omega) (Or.inr (Or.inl ⟨_, _, rfl⟩))
                  · intro hq0
                    simp only [pCP] at hq0
                    rw [hI_int (a := an) (by omega)] at hq0
                    have hq0 : ((an : Nat) : Int) = (0 : Int) := by omega
                    refine ok_seq 1 (σ' := (99, [(2, .int (nI 1)), (5, .int (nI 1)), (1, .int (nI an)), (4, .int (nI 0)), (3, .int (nI m)), (0, .ref 185)], [.int (nI 1)], gSh, M3)) rfl ?_
                    refine ok_if 106 rfl rfl ?_ ?_
                    · intro hb0
                      simp only [pCP] at hb0
                      rw [hI_int (a := 1) (by omega)] at hb0
                      have hb0 : ((1 : Nat) : Int) = (0 : Int) := by omega
                      refine ok_seq 3 (σ' := (109, [(3, .int (Int32.ofInt 0)), (2, .int (nI 1)), (5, .int (nI 1)), (1, .int (nI an)), (4, .int (nI 0)), (0, .ref 185)], [.int (Int32.ofInt 0)], gSh, M3)) rfl ?_
                      rw [cI_0]
                      refine ok_if 116 rfl rfl (fun _ => ?_) (fun hz => absurd (by simp only [pCP]; rw [hI_int (a := 0) (by omega)]; omega) hz)
                      refine ok_seq 2 (σ' := (7, [(3, .int (nI 0)), (2, .int (nI 1)), (5, .int (nI 1)), (1, .int (nI an)), (4, .int (nI 0)), (0, .ref 185)], [.int (nI 0)], gSh, M3)) rfl ?_
                      refine ok_if 119 rfl rfl (fun _ => ?_) (fun hz => absurd (by simp only [pCP]; rw [hI_int (a := 0) (by omega)]; omega) hz)
                      refine ok_seq 1 (σ' := (120, [(3, .int (nI 0)), (2, .int (nI 1)), (5, .int (nI 1)), (1, .int (nI an)), (4, .int (nI 0)), (0, .ref 185)], [.int (Int32.ofInt 0)], gSh, M3)) rfl ?_
                      rw [cI_0]
                      exact ok_ret (i := .ireturn) (len := 1) rfl rfl ⟨some (.int (nI 0)), rfl, rfl, Or.inl ⟨rfl, (w2 + 1), c2, (D'.1, D'.2 - 1), hq3, hC3, by omega, by omega⟩⟩
                    · intro hb0
                      simp only [pCP] at hb0
                      rw [hI_int (a := 1) (by omega)] at hb0
                      have hb0 : ((1 : Nat) : Int) ≠ (0 : Int) := by omega
                      refine ok_seq 4 (σ' := (109, [(3, .int (Int32.ofInt 1)), (2, .int (nI 1)), (5, .int (nI 1)), (1, .int (nI an)), (4, .int (nI 0)), (0, .ref 185)], [.int (Int32.ofInt 1)], gSh, M3)) rfl ?_
                      rw [cI_1]
                      refine ok_if 116 rfl rfl (fun hz => absurd hz (by simp only [pCP]; rw [hI_int (a := 1) (by omega)]; omega)) (fun _ => ?_)
                      refine ok_seq 1 (σ' := (113, [(3, .int (nI 1)), (2, .int (nI 1)), (5, .int (nI 1)), (1, .int (nI an)), (4, .int (nI 0)), (0, .ref 185)], [.ref 185], gSh, M3)) rfl ?_
                      have ht : tok.toInt ≠ 0 := by first | exact z3 (by omega) | omega
                      refine ok_call (mi := 180) (as := [.ref 185]) (pc' := 116) (L' := [(3, .int (nI 1)), (2, .int (nI 1)), (5, .int (nI 1)), (1, .int (nI an)), (4, .int (nI 0)), (0, .ref 185)]) (st' := []) (sh' := gSh) (M' := M3) (i := .invokevirtual 189) (len := 3) rfl rfl ?_
                      refine (((c_nextQ (d := 0) hT hq3.1.1.1 hC3 h12 ht).deep (by omega))).mono ?_
                      rintro v2 ⟨sh2, M8⟩ ⟨rfl, hsh, ⟨a8, hN8⟩, hC8⟩
                      have hsh : sh2 = gSh := hsh
                      subst hsh
                      dsimp only at hN8 hC8
                      refine ok_seq 1 (σ' := (6, [(3, .int (nI 1)), (2, .int (nI 1)), (5, .int (nI 1)), (1, .int (nI an)), (4, .int (nI 0)), (0, .ref 185)], [], gSh, M8)) rfl ?_
                      have hlt := PC.le hC3 h12 ht
                      exact ih (300 - (c2 + 1)) (by omega) (c2 + 1) an 1 1 (w2 + 1) (D'.1, D'.2 - 1) M8 _ rfl (by omega) (by omega) (by omega) (by decide) (hq3.next hN8) hC8 (fun _ => by first | omega | (show _ ≤ ((D'.1, D'.2 - 1)).2; omega)) (fun hz => by omega) (fun _ => by omega) (Or.inr (Or.inl ⟨_, _, rfl⟩))
                · intro ho0
                  simp only [pCP] at ho0
                  rw [hI_int (a := o) (by omega)] at ho0
                  have ho0 : ((o : Nat) : Int) ≠ (0 : Int) := by omega
                  refine ok_seq 3 (σ' := (87, [(5, .int (nI 1)), (1, .int (nI an)), (4, .int (nI 0)), (3, .int (nI m)), (2, .int (nI o)), (0, .ref 185)], [.int (Int32.ofInt 0), .int ((Int8.ofInt 22).toInt32), .ref 185], gSh, M3)) rfl ?_
                  rw [(show (Int8.ofInt 22).toInt32 = nI 22 by decide), cI_0]
                  refine ok_call (mi := 186) (as := [.ref 185, .int (nI 22), .int (nI 0)]) (pc' := 90) (L' := [(5, .int (nI 1)), (1, .int (nI an)), (4, .int (nI 0)), (3, .int (nI m)), (2, .int (nI o)), (0, .ref 185)]) (st' := []) (sh' := gSh) (M' := M3) (i := .invokevirtual 170) (len := 3) rfl rfl ?_
                  refine ((c_emit0 (d := d + dN + 6) hT hq3 (D' := ((D'.1, D'.2 - 1).1, (D'.1, D'.2 - 1).2 - 1)) (o := nI 22) (v := nI 0) (Or.inr (Or.inr (Or.inr (Or.inr (Or.inr (Or.inr ⟨by decide, by decide, by omega, rfl⟩)))))) (by omega))).mono ?_
                  rintro v ⟨sh2, M7⟩ ⟨rfl, hsh, hq7, hf7⟩
                  have hsh : sh2 = gSh := hsh
                  subst hsh
                  dsimp only at hq7 hf7
                  refine ok_seq 3 (σ' := (94, [(2, .int (nI 1)), (5, .int (nI 1)), (1, .int (nI an)), (4, .int (nI 0)), (3, .int (nI m)), (0, .ref 185)], [.int (nI an)], gSh, M7)) rfl ?_
                  refine ok_if 102 rfl rfl ?_ ?_
                  · intro hq0
                    simp only [pCP] at hq0
                    rw [hI_int (a := an) (by omega)] at hq0
                    have hq0 : ((an : Nat) : Int) ≠ (0 : Int) := by omega
                    refine ok_seq 4 (σ' := (109, [(3, .int (Int32.ofInt 1)), (2, .int (nI 1)), (5, .int (nI 1)), (1, .int (nI an)), (4, .int (nI 0)), (0, .ref 185)], [.int (Int32.ofInt 1)], gSh, M7)) rfl ?_
                    rw [cI_1]
                    refine ok_if 116 rfl rfl (fun hz => absurd hz (by simp only [pCP]; rw [hI_int (a := 1) (by omega)]; omega)) (fun _ => ?_)
                    refine ok_seq 1 (σ' := (113, [(3, .int (nI 1)), (2, .int (nI 1)), (5, .int (nI 1)), (1, .int (nI an)), (4, .int (nI 0)), (0, .ref 185)], [.ref 185], gSh, M7)) rfl ?_
                    have ht : tok.toInt ≠ 0 := by first | exact z3 (by omega) | omega
                    refine ok_call (mi := 180) (as := [.ref 185]) (pc' := 116) (L' := [(3, .int (nI 1)), (2, .int (nI 1)), (5, .int (nI 1)), (1, .int (nI an)), (4, .int (nI 0)), (0, .ref 185)]) (st' := []) (sh' := gSh) (M' := M7) (i := .invokevirtual 189) (len := 3) rfl rfl ?_
                    refine (((c_nextQ (d := 0) hT hq7.1.1.1 (PC.keep hC3 (hf7.at 10 (by decide)) (hf7.at 12 (by decide))) (by rw [hf7.at 12 (by decide)]; exact h12) ht).deep (by omega))).mono ?_
                    rintro v2 ⟨sh2, M8⟩ ⟨rfl, hsh, ⟨a8, hN8⟩, hC8⟩
                    have hsh : sh2 = gSh := hsh
                    subst hsh
                    dsimp only at hN8 hC8
                    refine ok_seq 1 (σ' := (6, [(3, .int (nI 1)), (2, .int (nI 1)), (5, .int (nI 1)), (1, .int (nI an)), (4, .int (nI 0)), (0, .ref 185)], [], gSh, M8)) rfl ?_
                    have hlt := PC.le (PC.keep hC3 (hf7.at 10 (by decide)) (hf7.at 12 (by decide))) (by rw [hf7.at 12 (by decide)]; exact h12) ht
                    exact ih (300 - (c2 + 1)) (by omega) (c2 + 1) an 1 1 ((w2 + 1) + 1) ((D'.1, D'.2 - 1).1, (D'.1, D'.2 - 1).2 - 1) M8 _ rfl (by omega) (by omega) (by omega) (by decide) (hq7.next hN8) hC8 (fun _ => by first | omega | (show _ ≤ (((D'.1, D'.2 - 1).1, (D'.1, D'.2 - 1).2 - 1)).2; omega)) (fun hz => by omega) (fun _ => by omega) (Or.inr (Or.inl ⟨_, _, rfl⟩))
                  · intro hq0
                    simp only [pCP] at hq0
                    rw [hI_int (a := an) (by omega)] at hq0
                    have hq0 : ((an : Nat) : Int) = (0 : Int) := by omega
                    refine ok_seq 1 (σ' := (99, [(2, .int (nI 1)), (5, .int (nI 1)), (1, .int (nI an)), (4, .int (nI 0)), (3, .int (nI m)), (0, .ref 185)], [.int (nI 1)], gSh, M7)) rfl ?_
                    refine ok_if 106 rfl rfl ?_ ?_
                    · intro hb0
                      simp only [pCP] at hb0
                      rw [hI_int (a := 1) (by omega)] at hb0
                      have hb0 : ((1 : Nat) : Int) = (0 : Int) := by omega
                      refine ok_seq 3 (σ' := (109, [(3, .int (Int32.ofInt 0)), (2, .int (nI 1)), (5, .int (nI 1)), (1, .int (nI an)), (4, .int (nI 0)), (0, .ref 185)], [.int (Int32.ofInt 0)], gSh, M7)) rfl ?_
                      rw [cI_0]
                      refine ok_if 116 rfl rfl (fun _ => ?_) (fun hz => absurd (by simp only [pCP]; rw [hI_int (a := 0) (by omega)]; omega) hz)
                      refine ok_seq 2 (σ' := (7, [(3, .int (nI 0)), (2, .int (nI 1)), (5, .int (nI 1)), (1, .int (nI an)), (4, .int (nI 0)), (0, .ref 185)], [.int (nI 0)], gSh, M7)) rfl ?_
                      refine ok_if 119 rfl rfl (fun _ => ?_) (fun hz => absurd (by simp only [pCP]; rw [hI_int (a := 0) (by omega)]; omega) hz)
                      refine ok_seq 1 (σ' := (120, [(3, .int (nI 0)), (2, .int (nI 1)), (5, .int (nI 1)), (1, .int (nI an)), (4, .int (nI 0)), (0, .ref 185)], [.int (Int32.ofInt 0)], gSh, M7)) rfl ?_
                      rw [cI_0]
                      exact ok_ret (i := .ireturn) (len := 1) rfl rfl ⟨some (.int (nI 0)), rfl, rfl, Or.inl ⟨rfl, ((w2 + 1) + 1), c2, ((D'.1, D'.2 - 1).1, (D'.1, D'.2 - 1).2 - 1), hq7, (PC.keep hC3 (hf7.at 10 (by decide)) (hf7.at 12 (by decide))), by omega, by omega⟩⟩
                    · intro hb0
                      simp only [pCP] at hb0
                      rw [hI_int (a := 1) (by omega)] at hb0
                      have hb0 : ((1 : Nat) : Int) ≠ (0 : Int) := by omega
                      refine ok_seq 4 (σ' := (109, [(3, .int (Int32.ofInt 1)), (2, .int (nI 1)), (5, .int (nI 1)), (1, .int (nI an)), (4, .int (nI 0)), (0, .ref 185)], [.int (Int32.ofInt 1)], gSh, M7)) rfl ?_
                      rw [cI_1]
                      refine ok_if 116 rfl rfl (fun hz => absurd hz (by simp only [pCP]; rw [hI_int (a := 1) (by omega)]; omega)) (fun _ => ?_)
                      refine ok_seq 1 (σ' := (113, [(3, .int (nI 1)), (2, .int (nI 1)), (5, .int (nI 1)), (1, .int (nI an)), (4, .int (nI 0)), (0, .ref 185)], [.ref 185], gSh, M7)) rfl ?_
                      have ht : tok.toInt ≠ 0 := by first | exact z3 (by omega) | omega
                      refine ok_call (mi := 180) (as := [.ref 185]) (pc' := 116) (L' := [(3, .int (nI 1)), (2, .int (nI 1)), (5, .int (nI 1)), (1, .int (nI an)), (4, .int (nI 0)), (0, .ref 185)]) (st' := []) (sh' := gSh) (M' := M7) (i := .invokevirtual 189) (len := 3) rfl rfl ?_
                      refine (((c_nextQ (d := 0) hT hq7.1.1.1 (PC.keep hC3 (hf7.at 10 (by decide)) (hf7.at 12 (by decide))) (by rw [hf7.at 12 (by decide)]; exact h12) ht).deep (by omega))).mono ?_
                      rintro v2 ⟨sh2, M8⟩ ⟨rfl, hsh, ⟨a8, hN8⟩, hC8⟩
                      have hsh : sh2 = gSh := hsh
                      subst hsh
                      dsimp only at hN8 hC8
                      refine ok_seq 1 (σ' := (6, [(3, .int (nI 1)), (2, .int (nI 1)), (5, .int (nI 1)), (1, .int (nI an)), (4, .int (nI 0)), (0, .ref 185)], [], gSh, M8)) rfl ?_
                      have hlt := PC.le (PC.keep hC3 (hf7.at 10 (by decide)) (hf7.at 12 (by decide))) (by rw [hf7.at 12 (by decide)]; exact h12) ht
                      exact ih (300 - (c2 + 1)) (by omega) (c2 + 1) an 1 1 ((w2 + 1) + 1) ((D'.1, D'.2 - 1).1, (D'.1, D'.2 - 1).2 - 1) M8 _ rfl (by omega) (by omega) (by omega) (by decide) (hq7.next hN8) hC8 (fun _ => by first | omega | (show _ ≤ (((D'.1, D'.2 - 1).1, (D'.1, D'.2 - 1).2 - 1)).2; omega)) (fun hz => by omega) (fun _ => by omega) (Or.inr (Or.inl ⟨_, _, rfl⟩))
      · refine ok_seq 2 (σ' := (18, [(4, .int zf), (3, .int (nI m)), (2, .int (nI o)), (5, .int y5), (1, .int (nI a)), (0, .ref 185)], [.int zf], gSh, M2)) rfl ?_
        refine ok_if 24 rfl rfl (fun hz => absurd hz (by simp only [pCP]; omega)) (fun _ => ?_)
        refine ok_seq 1 (σ' := (23, [(4, .int zf), (3, .int (nI m)), (2, .int (nI o)), (5, .int y5), (1, .int (nI a)), (0, .ref 185)], [.int zf], gSh, M2)) rfl ?_
        exact ok_ret (i := .ireturn) (len := 1) rfl rfl ⟨some (.int zf), rfl, rfl, Or.inr ⟨zf, rfl, hzf, hF⟩⟩
  · refine ok_seq 1 (σ' := (7, [(3, .int (nI m)), (5, .int y5), (1, .int (nI a)), (4, .int y4), (2, .int (nI o)), (0, .ref 185)], [.int (nI m)], gSh, M)) rfl ?_
    refine ok_if 119 rfl rfl ?_ ?_
    · intro hm0
      simp only [pCP] at hm0
      rw [hI_int (a := m) (by omega)] at hm0
      have hm0 : ((m : Nat) : Int) = (0 : Int) := by omega
      exact hE (by omega) _
    · intro hm0
      simp only [pCP] at hm0
      rw [hI_int (a := m) (by omega)] at hm0
      have hm0 : ((m : Nat) : Int) ≠ (0 : Int) := by omega
      have hm1 : m = 1 := by omega
      have hD := hD hm1
      have hw1 := hw1 hm1
      refine ok_seq 1 (σ' := (11, [(3, .int (nI m)), (5, .int y5), (1, .int (nI a)), (4, .int y4), (2, .int (nI o)), (0, .ref 185)], [.ref 185], gSh, M)) rfl ?_
      refine ok_call (mi := 198) (as := [.ref 185]) (pc' := 14) (L' := [(3, .int (nI m)), (5, .int y5), (1, .int (nI a)), (4, .int y4), (2, .int (nI o)), (0, .ref 185)]) (st' := []) (sh' := gSh) (M' := M) (i := .invokevirtual 230) (len := 3) rfl rfl ?_
      refine ((c_asks (d := d) (pd := a + o) hT hH hg hq hC hw1)).mono ?_
      rintro v ⟨sh2, M2⟩ ⟨hsh, hor⟩
      have hsh : sh2 = gSh := hsh
      subst hsh
      dsimp only at hor
      rcases hor with ⟨rfl, w2, c2, D', hq2, hC2, hD2, hw2, hc2⟩ | ⟨zf, rfl, hzf, hF⟩
      · refine ok_seq 2 (σ' := (18, [(4, .int (nI 0)), (3, .int (nI m)), (5, .int y5), (1, .int (nI a)), (2, .int (nI o)), (0, .ref 185)], [.int (nI 0)], gSh, M2)) rfl ?_
        refine ok_if 24 rfl rfl (fun _ => ?_) (fun hz => absurd (by simp only [pCP]; rw [hI_int (a := 0) (by omega)]; omega) hz)
        refine ok_seq 1 (σ' := (25, [(4, .int (nI 0)), (3, .int (nI m)), (5, .int y5), (1, .int (nI a)), (2, .int (nI o)), (0, .ref 185)], [.int (nI a)], gSh, M2)) rfl ?_
        have hc9 : c2 ≤ 300 := by obtain ⟨a9, t9, -, -, k3, k4, -⟩ := hC2; omega
        refine ok_if 35 rfl rfl ?_ ?_
        · intro ha0
          simp only [pCP] at ha0
          rw [hI_int (a := a) (by omega)] at ha0
          have ha0 : ((a : Nat) : Int) = (0 : Int) := by omega
          have ea : a = 0 := by omega
          obtain ⟨tok, h12, -⟩ := ty_int (pty hT hq2.1.1.1 8 rfl rfl)
          obtain ⟨wd, h14⟩ := ptl hT hq2.1.1.1
          obtain ⟨zw, hzw⟩ := c_w3 (S := S) (d := 0) (M := M2) (nI 97) (nI 110) (nI 100)
          obtain ⟨z, z1, z2, z3, z4⟩ := c_pure0 hH.2.2.1.1 hH.2.2.1.2 (vs := [.ref 185, .long zw]) ⟨r185, sat_l zw, trivial⟩ hq2.1.1.1 (hq2.1.gr hg) h12
          obtain ⟨an, han, ean⟩ := ty_nat (x := []) (hi := 1) ⟨z, rfl, z1, z2⟩
          cases ean
          rw [hI_int (a := an) (by omega)] at z3
          refine ok_seq 4 (σ' := (42, [(4, .int (nI 0)), (3, .int (nI m)), (5, .int y5), (1, .int (nI a)), (2, .int (nI o)), (0, .ref 185)], [.int ((Int8.ofInt 100).toInt32), .int ((Int8.ofInt 110).toInt32), .int ((Int8.ofInt 97).toInt32), .ref 185], gSh, M2)) rfl ?_
          rw [(show (Int8.ofInt 97).toInt32 = nI 97 by decide), (show (Int8.ofInt 110).toInt32 = nI 110 by decide), (show (Int8.ofInt 100).toInt32 = nI 100 by decide)]
          refine ok_call (mi := 181) (as := [.int (nI 97), .int (nI 110), .int (nI 100)]) (pc' := 45) (L' := [(4, .int (nI 0)), (3, .int (nI m)), (5, .int y5), (1, .int (nI a)), (2, .int (nI o)), (0, .ref 185)]) (st' := [.ref 185]) (sh' := gSh) (M' := M2) (i := .invokestatic 146) (len := 3) rfl rfl ?_
          refine ((hzw.deep (by omega))).mono ?_
          rintro v hp ⟨rfl, rfl⟩
          refine ok_call (mi := 185) (as := [.ref 185, .long zw]) (pc' := 48) (L' := [(4, .int (nI 0)), (3, .int (nI m)), (5, .int y5), (1, .int (nI a)), (2, .int (nI o)), (0, .ref 185)]) (st' := []) (sh' := gSh) (M' := M2) (i := .invokevirtual 220) (len := 3) rfl rfl ?_
          refine ((z4.deep (by omega))).mono ?_
          rintro v hp ⟨rfl, rfl⟩
          refine ok_seq 3 (σ' := (53, [(1, .int (nI an)), (4, .int (nI 0)), (3, .int (nI m)), (5, .int y5), (2, .int (nI o)), (0, .ref 185)], [M2 185 12], gSh, M2)) rfl ?_
          rw [h12]
          refine ok_seq 1 (σ' := (54, [(1, .int (nI an)), (4, .int (nI 0)), (3, .int (nI m)), (5, .int y5), (2, .int (nI o)), (0, .ref 185)], [.int (Int32.ofInt 2), .int tok], gSh, M2)) rfl ?_
          rw [cI_2]
          refine ok_icmp 72 rfl rfl ?_ ?_
          · intro h2
            simp only [pCP] at h2
            rw [hI_int (a := 2) (by omega)] at h2
            have h2 : (tok).toInt ≠ ((2 : Nat) : Int) := by omega
            refine ok_seq 3 (σ' := (76, [(5, .int (Int32.ofInt 0)), (1, .int (nI an)), (4, .int (nI 0)), (3, .int (nI m)), (2, .int (nI o)), (0, .ref 185)], [.int (nI an)], gSh, M2)) rfl ?_
            rw [cI_0]
            refine ok_if 93 rfl rfl ?_ ?_
            · intro hn0
              simp only [pCP] at hn0
              rw [hI_int (a := an) (by omega)] at hn0
              have hn0 : ((an : Nat) : Int) ≠ (0 : Int) := by omega
              refine ok_seq 1 (σ' := (94, [(5, .int (nI 0)), (1, .int (nI an)), (4, .int (nI 0)), (3, .int (nI m)), (2, .int (nI o)), (0, .ref 185)], [.int (nI an)], gSh, M2)) rfl ?_
              refine ok_if 102 rfl rfl ?_ ?_
              · intro hq0
                simp only [pCP] at hq0
                rw [hI_int (a := an) (by omega)] at hq0
                have hq0 : ((an : Nat) : Int) ≠ (0 : Int) := by omega
                refine ok_seq 4 (σ' := (109, [(3, .int (Int32.ofInt 1)), (5, .int (nI 0)), (1, .int (nI an)), (4, .int (nI 0)), (2, .int (nI o)), (0, .ref 185)], [.int (Int32.ofInt 1)], gSh, M2)) rfl ?_
                rw [cI_1]
                refine ok_if 116 rfl rfl (fun hz => absurd hz (by simp only [pCP]; rw [hI_int (a := 1) (by omega)]; omega)) (fun _ => ?_)
                refine ok_seq 1 (σ' := (113, [(3, .int (nI 1)), (5, .int (nI 0)), (1, .int (nI an)), (4, .int (nI 0)), (2, .int (nI o)), (0, .ref 185)], [.ref 185], gSh, M2)) rfl ?_
                have ht : tok.toInt ≠ 0 := by first | exact z3 (by omega) | omega
                refine ok_call (mi := 180) (as := [.ref 185]) (pc' := 116) (L' := [(3, .int (nI 1)), (5, .int (nI 0)), (1, .int (nI an)), (4, .int (nI 0)), (2, .int (nI o)), (0, .ref 185)]) (st' := []) (sh' := gSh) (M' := M2) (i := .invokevirtual 189) (len := 3) rfl rfl ?_
                refine (((c_nextQ (d := 0) hT hq2.1.1.1 hC2 h12 ht).deep (by omega))).mono ?_
                rintro v2 ⟨sh2, M8⟩ ⟨rfl, hsh, ⟨a8, hN8⟩, hC8⟩
                have hsh : sh2 = gSh := hsh
                subst hsh
                dsimp only at hN8 hC8
                refine ok_seq 1 (σ' := (6, [(3, .int (nI 1)), (5, .int (nI 0)), (1, .int (nI an)), (4, .int (nI 0)), (2, .int (nI o)), (0, .ref 185)], [], gSh, M8)) rfl ?_
                have hlt := PC.le hC2 h12 ht
                exact ih (300 - (c2 + 1)) (by omega) (c2 + 1) an o 1 w2 D' M8 _ rfl (by omega) (by omega) (by omega) (by decide) (hq2.next hN8) hC8 (fun _ => by first | omega | (show _ ≤ (D').2; omega)) (fun hz => by omega) (fun _ => by omega) (Or.inr (Or.inr ⟨_, _, rfl⟩))
              · intro hq0
                simp only [pCP] at hq0
                rw [hI_int (a := an) (by omega)] at hq0
                have hq0 : ((an : Nat) : Int) = (0 : Int) := by omega
                refine ok_seq 1 (σ' := (99, [(5, .int (nI 0)), (1, .int (nI an)), (4, .int (nI 0)), (3, .int (nI m)), (2, .int (nI o)), (0, .ref 185)], [.int (nI 0)], gSh, M2)) rfl ?_
                refine ok_if 106 rfl rfl ?_ ?_
                · intro hb0
                  simp only [pCP] at hb0
                  rw [hI_int (a := 0) (by omega)] at hb0
                  have hb0 : ((0 : Nat) : Int) = (0 : Int) := by omega
                  refine ok_seq 3 (σ' := (109, [(3, .int (Int32.ofInt 0)), (5, .int (nI 0)), (1, .int (nI an)), (4, .int (nI 0)), (2, .int (nI o)), (0, .ref 185)], [.int (Int32.ofInt 0)], gSh, M2)) rfl ?_
                  rw [cI_0]
                  refine ok_if 116 rfl rfl (fun _ => ?_) (fun hz => absurd (by simp only [pCP]; rw [hI_int (a := 0) (by omega)]; omega) hz)
                  refine ok_seq 2 (σ' := (7, [(3, .int (nI 0)), (5, .int (nI 0)), (1, .int (nI an)), (4, .int (nI 0)), (2, .int (nI o)), (0, .ref 185)], [.int (nI 0)], gSh, M2)) rfl ?_
                  refine ok_if 119 rfl rfl (fun _ => ?_) (fun hz => absurd (by simp only [pCP]; rw [hI_int (a := 0) (by omega)]; omega) hz)
                  refine ok_seq 1 (σ' := (120, [(3, .int (nI 0)), (5, .int (nI 0)), (1, .int (nI an)), (4, .int (nI 0)), (2, .int (nI o)), (0, .ref 185)], [.int (Int32.ofInt 0)], gSh, M2)) rfl ?_
                  rw [cI_0]
                  exact ok_ret (i := .ireturn) (len := 1) rfl rfl ⟨some (.int (nI 0)), rfl, rfl, Or.inl ⟨rfl, w2, c2, D', hq2, hC2, by omega, by omega⟩⟩
                · intro hb0
                  simp only [pCP] at hb0
                  rw [hI_int (a := 0) (by omega)] at hb0
                  have hb0 : ((0 : Nat) : Int) ≠ (0 : Int) := by omega
                  refine ok_seq 4 (σ' := (109, [(3, .int (Int32.ofInt 1)), (5, .int (nI 0)), (1, .int (nI an)), (4, .int (nI 0)), (2, .int (nI o)), (0, .ref 185)], [.int (Int32.ofInt 1)], gSh, M2)) rfl ?_
                  rw [cI_1]
                  refine ok_if 116 rfl rfl (fun hz => absurd hz (by simp only [pCP]; rw [hI_int (a := 1) (by omega)]; omega)) (fun _ => ?_)
                  refine ok_seq 1 (σ' := (113, [(3, .int (nI 1)), (5, .int (nI 0)), (1, .int (nI an)), (4, .int (nI 0)), (2, .int (nI o)), (0, .ref 185)], [.ref 185], gSh, M2)) rfl ?_
                  have ht : tok.toInt ≠ 0 := by first | exact z3 (by omega) | omega
                  refine ok_call (mi := 180) (as := [.ref 185]) (pc' := 116) (L' := [(3, .int (nI 1)), (5, .int (nI 0)), (1, .int (nI an)), (4, .int (nI 0)), (2, .int (nI o)), (0, .ref 185)]) (st' := []) (sh' := gSh) (M' := M2) (i := .invokevirtual 189) (len := 3) rfl rfl ?_
                  refine (((c_nextQ (d := 0) hT hq2.1.1.1 hC2 h12 ht).deep (by omega))).mono ?_
                  rintro v2 ⟨sh2, M8⟩ ⟨rfl, hsh, ⟨a8, hN8⟩, hC8⟩
                  have hsh : sh2 = gSh := hsh
                  subst hsh
                  dsimp only at hN8 hC8
                  refine ok_seq 1 (σ' := (6, [(3, .int (nI 1)), (5, .int (nI 0)), (1, .int (nI an)), (4, .int (nI 0)), (2, .int (nI o)), (0, .ref 185)], [], gSh, M8)) rfl ?_
                  have hlt := PC.le hC2 h12 ht
                  exact ih (300 - (c2 + 1)) (by omega) (c2 + 1) an o 1 w2 D' M8 _ rfl (by omega) (by omega) (by omega) (by decide) (hq2.next hN8) hC8 (fun _ => by first | omega | (show _ ≤ (D').2; omega)) (fun hz => by omega) (fun _ => by omega) (Or.inr (Or.inr ⟨_, _, rfl⟩))
            · intro hn0
              simp only [pCP] at hn0
              rw [hI_int (a := an) (by omega)] at hn0
              have hn0 : ((an : Nat) : Int) = (0 : Int) := by omega
              refine ok_seq 1 (σ' := (80, [(5, .int (nI 0)), (1, .int (nI an)), (4, .int (nI 0)), (3, .int (nI m)), (2, .int (nI o)), (0, .ref 185)], [.int (nI o)], gSh, M2)) rfl ?_
              refine ok_if 90 rfl rfl ?_ ?_
              · intro ho0
                simp only [pCP] at ho0
                rw [hI_int (a := o) (by omega)] at ho0
                have ho0 : ((o : Nat) : Int) = (0 : Int) := by omega
                refine ok_seq 3 (σ' := (94, [(2, .int (nI 0)), (5, .int (nI 0)), (1, .int (nI an)), (4, .int (nI 0)), (3, .int (nI m)), (0, .ref 185)], [.int (nI an)], gSh, M2)) rfl ?_
                refine ok_if 102 rfl rfl ?_ ?_
                · intro hq0
                  simp only [pCP] at hq0
                  rw [hI_int (a := an) (by omega)] at hq0
                  have hq0 : ((an : Nat) : Int) ≠ (0 : Int) := by omega
                  refine ok_seq 4 (σ' := (109, [(3, .int (Int32.ofInt 1)), (2, .int (nI 0)), (5, .int (nI 0)), (1, .int (nI an)), (4, .int (nI 0)), (0, .ref 185)], [.int (Int32.ofInt 1)], gSh, M2)) rfl ?_
                  rw [cI_1]
                  refine ok_if 116 rfl rfl (fun hz => absurd hz (by simp only [pCP]; rw [hI_int (a := 1) (by omega)]; omega)) (fun _ => ?_)
                  refine ok_seq 1 (σ' := (113, [(3, .int (nI 1)), (2, .int (nI 0)), (5, .int (nI 0)), (1, .int (nI an)), (4, .int (nI 0)), (0, .ref 185)], [.ref 185], gSh, M2)) rfl ?_
                  have ht : tok.toInt ≠ 0 := by first | exact z3 (by omega) | omega
                  refine ok_call (mi := 180) (as := [.ref 185]) (pc' := 116) (L' := [(3, .int (nI 1)), (2, .int (nI 0)), (5, .int (nI 0)), (1, .int (nI an)), (4, .int (nI 0)), (0, .ref 185)]) (st' := []) (sh' := gSh) (M' := M2) (i := .invokevirtual 189) (len := 3) rfl rfl ?_
                  refine (((c_nextQ (d := 0) hT hq2.1.1.1 hC2 h12 ht).deep (by omega))).mono ?_
                  rintro v2 ⟨sh2, M8⟩ ⟨rfl, hsh, ⟨a8, hN8⟩, hC8⟩
                  have hsh : sh2 = gSh := hsh
                  subst hsh
                  dsimp only at hN8 hC8
                  refine ok_seq 1 (σ' := (6, [(3, .int (nI 1)), (2, .int (nI 0)), (5, .int (nI 0)), (1, .int (nI an)), (4, .int (nI 0)), (0, .ref 185)], [], gSh, M8)) rfl ?_
                  have hlt := PC.le hC2 h12 ht
                  exact ih (300 - (c2 + 1)) (by omega) (c2 + 1) an 0 1 w2 D' M8 _ rfl (by omega) (by omega) (by omega) (by decide) (hq2.next hN8) hC8 (fun _ => by first | omega | (show _ ≤ (D').2; omega)) (fun hz => by omega) (fun _ => by omega) (Or.inr (Or.inl ⟨_, _, rfl⟩))
                · intro hq0
                  simp only [pCP] at hq0
                  rw [hI_int (a := an) (by omega)] at hq0
                  have hq0 : ((an : Nat) : Int) = (0 : Int) := by omega
                  refine ok_seq 1 (σ' := (99, [(2, .int (nI 0)), (5, .int (nI 0)), (1, .int (nI an)), (4, .int (nI 0)), (3, .int (nI m)), (0, .ref 185)], [.int (nI 0)], gSh, M2)) rfl ?_
                  refine ok_if 106 rfl rfl ?_ ?_
                  · intro hb0
                    simp only [pCP] at hb0
                    rw [hI_int (a := 0) (by omega)] at hb0
                    have hb0 : ((0 : Nat) : Int) = (0 : Int) := by omega
                    refine ok_seq 3 (σ' := (109, [(3, .int (Int32.ofInt 0)), (2, .int (nI 0)), (5, .int (nI 0)), (1, .int (nI an)), (4, .int (nI 0)), (0, .ref 185)], [.int (Int32.ofInt 0)], gSh, M2)) rfl ?_
                    rw [cI_0]
                    refine ok_if 116 rfl rfl (fun _ => ?_) (fun hz => absurd (by simp only [pCP]; rw [hI_int (a := 0) (by omega)]; omega) hz)
                    refine ok_seq 2 (σ' := (7, [(3, .int (nI 0)), (2, .int (nI 0)), (5, .int (nI 0)), (1, .int (nI an)), (4, .int (nI 0)), (0, .ref 185)], [.int (nI 0)], gSh, M2)) rfl ?_
                    refine ok_if 119 rfl rfl (fun _ => ?_) (fun hz => absurd (by simp only [pCP]; rw [hI_int (a := 0) (by omega)]; omega) hz)
                    refine ok_seq 1 (σ' := (120, [(3, .int (nI 0)), (2, .int (nI 0)), (5, .int (nI 0)), (1, .int (nI an)), (4, .int (nI 0)), (0, .ref 185)], [.int (Int32.ofInt 0)], gSh, M2)) rfl ?_
                    rw [cI_0]
                    exact ok_ret (i := .ireturn) (len := 1) rfl rfl ⟨some (.int (nI 0)), rfl, rfl, Or.inl ⟨rfl, w2, c2, D', hq2, hC2, by omega, by omega⟩⟩
                  · intro hb0
                    simp only [pCP] at hb0
                    rw [hI_int (a := 0) (by omega)] at hb0
                    have hb0 : ((0 : Nat) : Int) ≠ (0 : Int) := by omega
                    refine ok_seq 4 (σ' := (109, [(3, .int (Int32.ofInt 1)), (2, .int (nI 0)), (5, .int (nI 0)), (1, .int (nI an)), (4, .int (nI 0)), (0, .ref 185)], [.int (Int32.ofInt 1)], gSh, M2)) rfl ?_
                    rw [cI_1]
                    refine ok_if 116 rfl rfl (fun hz => absurd hz (by simp only [pCP]; rw [hI_int (a := 1) (by omega)]; omega)) (fun _ => ?_)
                    refine ok_seq 1 (σ' := (113, [(3, .int (nI 1)), (2, .int (nI 0)), (5, .int (nI 0)), (1, .int (nI an)), (4, .int (nI 0)), (0, .ref 185)], [.ref 185], gSh, M2)) rfl ?_
                    have ht : tok.toInt ≠ 0 := by first | exact z3 (by omega) | omega
                    refine ok_call (mi := 180) (as := [.ref 185]) (pc' := 116) (L' := [(3, .int (nI 1)), (2, .int (nI 0)), (5, .int (nI 0)), (1, .int (nI an)), (4, .int (nI 0)), (0, .ref 185)]) (st' := []) (sh' := gSh) (M' := M2) (i := .invokevirtual 189) (len := 3) rfl rfl ?_
                    refine (((c_nextQ (d := 0) hT hq2.1.1.1 hC2 h12 ht).deep (by omega))).mono ?_
                    rintro v2 ⟨sh2, M8⟩ ⟨rfl, hsh, ⟨a8, hN8⟩, hC8⟩
                    have hsh : sh2 = gSh := hsh
                    subst hsh
                    dsimp only at hN8 hC8
                    refine ok_seq 1 (σ' := (6, [(3, .int (nI 1)), (2, .int (nI 0)), (5, .int (nI 0)), (1, .int (nI an)), (4, .int (nI 0)), (0, .ref 185)], [], gSh, M8)) rfl ?_
                    have hlt := PC.le hC2 h12 ht
                    exact ih (300 - (c2 + 1)) (by omega) (c2 + 1) an 0 1 w2 D' M8 _ rfl (by omega) (by omega) (by omega) (by decide) (hq2.next hN8) hC8 (fun _ => by first | omega | (show _ ≤ (D').2; omega)) (fun hz => by omega) (fun _ => by omega) (Or.inr (Or.inl ⟨_, _, rfl⟩))
              · intro ho0
                simp only [pCP] at ho0
                rw [hI_int (a := o) (by omega)] at ho0
                have ho0 : ((o : Nat) : Int) ≠ (0 : Int) := by omega
                refine ok_seq 3 (σ' := (87, [(5, .int (nI 0)), (1, .int (nI an)), (4, .int (nI 0)), (3, .int (nI m)), (2, .int (nI o)), (0, .ref 185)], [.int (Int32.ofInt 0), .int ((Int8.ofInt 22).toInt32), .ref 185], gSh, M2)) rfl ?_
                rw [(show (Int8.ofInt 22).toInt32 = nI 22 by decide), cI_0]
                refine ok_call (mi := 186) (as := [.ref 185, .int (nI 22), .int (nI 0)]) (pc' := 90) (L' := [(5, .int (nI 0)), (1, .int (nI an)), (4, .int (nI 0)), (3, .int (nI m)), (2, .int (nI o)), (0, .ref 185)]) (st' := []) (sh' := gSh) (M' := M2) (i := .invokevirtual 170) (len := 3) rfl rfl ?_
                refine ((c_emit0 (d := d + dN + 6) hT hq2 (D' := (D'.1, D'.2 - 1)) (o := nI 22) (v := nI 0) (Or.inr (Or.inr (Or.inr (Or.inr (Or.inr (Or.inr ⟨by decide, by decide, by omega, rfl⟩)))))) (by omega))).mono ?_
                rintro v ⟨sh2, M7⟩ ⟨rfl, hsh, hq7, hf7⟩
                have hsh : sh2 = gSh := hsh
                subst hsh
                dsimp only at hq7 hf7
                refine ok_seq 3 (σ' := (94, [(2, .int (nI 0)), (5, .int (nI 0)), (1, .int (nI an)), (4, .int (nI 0)), (3, .int (nI m)), (0, .ref 185)], [.int (nI an)], gSh, M7)) rfl ?_
                refine ok_if 102 rfl rfl ?_ ?_
                · intro hq0
                  simp only [pCP] at hq0
                  rw [hI_int (a := an) (by omega)] at hq0
                  have hq0 : ((an : Nat) : Int) ≠ (0 : Int) := by omega
                  refine ok_seq 4 (σ' := (109, [(3, .int (Int32.ofInt 1)), (2, .int (nI 0)), (5, .int (nI 0)), (1, .int (nI an)), (4, .int (nI 0)), (0, .ref 185)], [.int (Int32.ofInt 1)], gSh, M7)) rfl ?_
                  rw [cI_1]
                  refine ok_if 116 rfl rfl (fun hz => absurd hz (by simp only [pCP]; rw [hI_int (a := 1) (by omega)]; omega)) (fun _ => ?_)
                  refine ok_seq 1 (σ' := (113, [(3, .int (nI 1)), (2, .int (nI 0)), (5, .int (nI 0)), (1, .int (nI an)), (4, .int (nI 0)), (0, .ref 185)], [.ref 185], gSh, M7)) rfl ?_
                  have ht : tok.toInt ≠ 0 := by first | exact z3 (by omega) | omega
                  refine ok_call (mi := 180) (as := [.ref 185]) (pc' := 116) (L' := [(3, .int (nI 1)), (2, .int (nI 0)), (5, .int (nI 0)), (1, .int (nI an)), (4, .int (nI 0)), (0, .ref 185)]) (st' := []) (sh' := gSh) (M' := M7) (i := .invokevirtual 189) (len := 3) rfl rfl ?_
                  refine (((c_nextQ (d := 0) hT hq7.1.1.1 (PC.keep hC2 (hf7.at 10 (by decide)) (hf7.at 12 (by decide))) (by rw [hf7.at 12 (by decide)]; exact h12) ht).deep (by omega))).mono ?_
                  rintro v2 ⟨sh2, M8⟩ ⟨rfl, hsh, ⟨a8, hN8⟩, hC8⟩
                  have hsh : sh2 = gSh := hsh
                  subst hsh
                  dsimp only at hN8 hC8
                  refine ok_seq 1 (σ' := (6, [(3, .int (nI 1)), (2, .int (nI 0)), (5, .int (nI 0)), (1, .int (nI an)), (4, .int (nI 0)), (0, .ref 185)], [], gSh, M8)) rfl ?_
                  have hlt := PC.le (PC.keep hC2 (hf7.at 10 (by decide)) (hf7.at 12 (by decide))) (by rw [hf7.at 12 (by decide)]; exact h12) ht
                  exact ih (300 - (c2 + 1)) (by omega) (c2 + 1) an 0 1 (w2 + 1) (D'.1, D'.2 - 1) M8 _ rfl (by omega) (by omega) (by omega) (by decide) (hq7.next hN8) hC8 (fun _ => by first | omega | (show _ ≤ ((D'.1, D'.2 - 1)).2; omega)) (fun hz => by omega) (fun _ => by omega) (Or.inr (Or.inl ⟨_, _, rfl⟩))
                · intro hq0
                  simp only [pCP] at hq0
                  rw [hI_int (a := an) (by omega)] at hq0
                  have hq0 : ((an : Nat) : Int) = (0 : Int) := by omega
                  refine ok_seq 1 (σ' := (99, [(2, .int (nI 0)), (5, .int (nI 0)), (1, .int (nI an)), (4, .int (nI 0)), (3, .int (nI m)), (0, .ref 185)], [.int (nI 0)], gSh, M7)) rfl ?_
                  refine ok_if 106 rfl rfl ?_ ?_
                  · intro hb0
                    simp only [pCP] at hb0
                    rw [hI_int (a := 0) (by omega)] at hb0
                    have hb0 : ((0 : Nat) : Int) = (0 : Int) := by omega
                    refine ok_seq 3 (σ' := (109, [(3, .int (Int32.ofInt 0)), (2, .int (nI 0)), (5, .int (nI 0)), (1, .int (nI an)), (4, .int (nI 0)), (0, .ref 185)], [.int (Int32.ofInt 0)], gSh, M7)) rfl ?_
                    rw [cI_0]
                    refine ok_if 116 rfl rfl (fun _ => ?_) (fun hz => absurd (by simp only [pCP]; rw [hI_int (a := 0) (by omega)]; omega) hz)
                    refine ok_seq 2 (σ' := (7, [(3, .int (nI 0)), (2, .int (nI 0)), (5, .int (nI 0)), (1, .int (nI an)), (4, .int (nI 0)), (0, .ref 185)], [.int (nI 0)], gSh, M7)) rfl ?_
                    refine ok_if 119 rfl rfl (fun _ => ?_) (fun hz => absurd (by simp only [pCP]; rw [hI_int (a := 0) (by omega)]; omega) hz)
                    refine ok_seq 1 (σ' := (120, [(3, .int (nI 0)), (2, .int (nI 0)), (5, .int (nI 0)), (1, .int (nI an)), (4, .int (nI 0)), (0, .ref 185)], [.int (Int32.ofInt 0)], gSh, M7)) rfl ?_
                    rw [cI_0]
                    exact ok_ret (i := .ireturn) (len := 1) rfl rfl ⟨some (.int (nI 0)), rfl, rfl, Or.inl ⟨rfl, (w2 + 1), c2, (D'.1, D'.2 - 1), hq7, (PC.keep hC2 (hf7.at 10 (by decide)) (hf7.at 12 (by decide))), by omega, by omega⟩⟩
                  · intro hb0
                    simp only [pCP] at hb0
                    rw [hI_int (a := 0) (by omega)] at hb0
                    have hb0 : ((0 : Nat) : Int) ≠ (0 : Int) := by omega
                    refine ok_seq 4 (σ' := (109, [(3, .int (Int32.ofInt 1)), (2, .int (nI 0)), (5, .int (nI 0)), (1, .int (nI an)), (4, .int (nI 0)), (0, .ref 185)], [.int (Int32.ofInt 1)], gSh, M7)) rfl ?_
                    rw [cI_1]
                    refine ok_if 116 rfl rfl (fun hz => absurd hz (by simp only [pCP]; rw [hI_int (a := 1) (by omega)]; omega)) (fun _ => ?_)
                    refine ok_seq 1 (σ' := (113, [(3, .int (nI 1)), (2, .int (nI 0)), (5, .int (nI 0)), (1, .int (nI an)), (4, .int (nI 0)), (0, .ref 185)], [.ref 185], gSh, M7)) rfl ?_
                    have ht : tok.toInt ≠ 0 := by first | exact z3 (by omega) | omega
                    refine ok_call (mi := 180) (as := [.ref 185]) (pc' := 116) (L' := [(3, .int (nI 1)), (2, .int (nI 0)), (5, .int (nI 0)), (1, .int (nI an)), (4, .int (nI 0)), (0, .ref 185)]) (st' := []) (sh' := gSh) (M' := M7) (i := .invokevirtual 189) (len := 3) rfl rfl ?_
                    refine (((c_nextQ (d := 0) hT hq7.1.1.1 (PC.keep hC2 (hf7.at 10 (by decide)) (hf7.at 12 (by decide))) (by rw [hf7.at 12 (by decide)]; exact h12) ht).deep (by omega))).mono ?_
                    rintro v2 ⟨sh2, M8⟩ ⟨rfl, hsh, ⟨a8, hN8⟩, hC8⟩
                    have hsh : sh2 = gSh := hsh
                    subst hsh
                    dsimp only at hN8 hC8
                    refine ok_seq 1 (σ' := (6, [(3, .int (nI 1)), (2, .int (nI 0)), (5, .int (nI 0)), (1, .int (nI an)), (4, .int (nI 0)), (0, .ref 185)], [], gSh, M8)) rfl ?_
                    have hlt := PC.le (PC.keep hC2 (hf7.at 10 (by decide)) (hf7.at 12 (by decide))) (by rw [hf7.at 12 (by decide)]; exact h12) ht
                    exact ih (300 - (c2 + 1)) (by omega) (c2 + 1) an 0 1 (w2 + 1) (D'.1, D'.2 - 1) M8 _ rfl (by omega) (by omega) (by omega) (by decide) (hq7.next hN8) hC8 (fun _ => by first | omega | (show _ ≤ ((D'.1, D'.2 - 1)).2; omega)) (fun hz => by omega) (fun _ => by omega) (Or.inr (Or.inl ⟨_, _, rfl⟩))
          · intro h2
            simp only [pCP] at h2
            rw [hI_int (a := 2) (by omega)] at h2
            have h2 : (tok).toInt = ((2 : Nat) : Int) := by omega
            refine ok_seq 2 (σ' := (61, [(1, .int (nI an)), (4, .int (nI 0)), (3, .int (nI m)), (5, .int y5), (2, .int (nI o)), (0, .ref 185)], [M2 185 14], gSh, M2)) rfl ?_
            rw [h14]
            refine ok_seq 2 (σ' := (65, [(1, .int (nI an)), (4, .int (nI 0)), (3, .int (nI m)), (5, .int y5), (2, .int (nI o)), (0, .ref 185)], [.int (lg_cmp wd ((28530 : Int64)))], gSh, M2)) rfl ?_
            refine ok_if 72 rfl rfl ?_ ?_
            · intro hw
              simp only [pCP] at hw
              have hw : (lg_cmp wd ((28530 : Int64))).toInt ≠ (0 : Int) := by omega
              refine ok_seq 3 (σ' := (76, [(5, .int (Int32.ofInt 0)), (1, .int (nI an)), (4, .int (nI 0)), (3, .int (nI m)), (2, .int (nI o)), (0, .ref 185)], [.int (nI an)], gSh, M2)) rfl ?_
              rw [cI_0]
              refine ok_if 93 rfl rfl ?_ ?_
              · intro hn0
                simp only [pCP] at hn0
                rw [hI_int (a := an) (by omega)] at hn0
                have hn0 : ((an : Nat) : Int) ≠ (0 : Int) := by omega
                refine ok_seq 1 (σ' := (94, [(5, .int (nI 0)), (1, .int (nI an)), (4, .int (nI 0)), (3, .int (nI m)), (2, .int (nI o)), (0, .ref 185)], [.int (nI an)], gSh, M2)) rfl ?_
                refine ok_if 102 rfl rfl ?_ ?_
                · intro hq0
                  simp only [pCP] at hq0
                  rw [hI_int (a := an) (by omega)] at hq0
                  have hq0 : ((an : Nat) : Int) ≠ (0 : Int) := by omega
                  refine ok_seq 4 (σ' := (109, [(3, .int (Int32.ofInt 1)), (5, .int (nI 0)), (1, .int (nI an)), (4, .int (nI 0)), (2, .int (nI o)), (0, .ref 185)], [.int (Int32.ofInt 1)], gSh, M2)) rfl ?_
                  rw [cI_1]
                  refine ok_if 116 rfl rfl (fun hz => absurd hz (by simp only [pCP]; rw [hI_int (a := 1) (by omega)]; omega)) (fun _ => ?_)
                  refine ok_seq 1 (σ' := (113, [(3, .int (nI 1)), (5, .int (nI 0)), (1, .int (nI an)), (4, .int (nI 0)), (2, .int (nI o)), (0, .ref 185)], [.ref 185], gSh, M2)) rfl ?_
                  have ht : tok.toInt ≠ 0 := by first | exact z3 (by omega) | omega
                  refine ok_call (mi := 180) (as := [.ref 185]) (pc' := 116) (L' := [(3, .int (nI 1)), (5, .int (nI 0)), (1, .int (nI an)), (4, .int (nI 0)), (2, .int (nI o)), (0, .ref 185)]) (st' := []) (sh' := gSh) (M' := M2) (i := .invokevirtual 189) (len := 3) rfl rfl ?_
                  refine (((c_nextQ (d := 0) hT hq2.1.1.1 hC2 h12 ht).deep (by omega))).mono ?_
                  rintro v2 ⟨sh2, M8⟩ ⟨rfl, hsh, ⟨a8, hN8⟩, hC8⟩
                  have hsh : sh2 = gSh := hsh
                  subst hsh
                  dsimp only at hN8 hC8
                  refine ok_seq 1 (σ' := (6, [(3, .int (nI 1)), (5, .int (nI 0)), (1, .int (nI an)), (4, .int (nI 0)), (2, .int (nI o)), (0, .ref 185)], [], gSh, M8)) rfl ?_
                  have hlt := PC.le hC2 h12 ht
                  exact ih (300 - (c2 + 1)) (by omega) (c2 + 1) an o 1 w2 D' M8 _ rfl (by omega) (by omega) (by omega) (by decide) (hq2.next hN8) hC8 (fun _ => by first | omega | (show _ ≤ (D').2; omega)) (fun hz => by omega) (fun _ => by omega) (Or.inr (Or.inr ⟨_, _, rfl⟩))
                · intro hq0
                  simp only [pCP] at hq0
                  rw [hI_int (a := an) (by omega)] at hq0
                  have hq0 : ((an : Nat) : Int) = (0 : Int) := by omega
                  refine ok_seq 1 (σ' := (99, [(5, .int (nI 0)), (1, .int (nI an)), (4, .int (nI 0)), (3, .int (nI m)), (2, .int (nI o)), (0, .ref 185)], [.int (nI 0)], gSh, M2)) rfl ?_
                  refine ok_if 106 rfl rfl ?_ ?_
                  · intro hb0
                    simp only [pCP] at hb0
                    rw [hI_int (a := 0) (by omega)] at hb0
                    have hb0 : ((0 : Nat) : Int) = (0 : Int) := by omega
                    refine ok_seq 3 (σ' := (109, [(3, .int (Int32.ofInt 0)), (5, .int (nI 0)), (1, .int (nI an)), (4, .int (nI 0)), (2, .int (nI o)), (0, .ref 185)], [.int (Int32.ofInt 0)], gSh, M2)) rfl ?_
                    rw [cI_0]
                    refine ok_if 116 rfl rfl (fun _ => ?_) (fun hz => absurd (by simp only [pCP]; rw [hI_int (a := 0) (by omega)]; omega) hz)
                    refine ok_seq 2 (σ' := (7, [(3, .int (nI 0)), (5, .int (nI 0)), (1, .int (nI an)), (4, .int (nI 0)), (2, .int (nI o)), (0, .ref 185)], [.int (nI 0)], gSh, M2)) rfl ?_
                    refine ok_if 119 rfl rfl (fun _ => ?_) (fun hz => absurd (by simp only [pCP]; rw [hI_int (a := 0) (by omega)]; omega) hz)
                    refine ok_seq 1 (σ' := (120, [(3, .int (nI 0)), (5, .int (nI 0)), (1, .int (nI an)), (4, .int (nI 0)), (2, .int (nI o)), (0, .ref 185)], [.int (Int32.ofInt 0)], gSh, M2)) rfl ?_
                    rw [cI_0]
                    exact ok_ret (i := .ireturn) (len := 1) rfl rfl ⟨some (.int (nI 0)), rfl, rfl, Or.inl ⟨rfl, w2, c2, D', hq2, hC2, by omega, by omega⟩⟩
                  · intro hb0
                    simp only [pCP] at hb0
                    rw [hI_int (a := 0) (by omega)] at hb0
                    have hb0 : ((0 : Nat) : Int) ≠ (0 : Int) := by omega
                    refine ok_seq 4 (σ' := (109, [(3, .int (Int32.ofInt 1)), (5, .int (nI 0)), (1, .int (nI an)), (4, .int (nI 0)), (2, .int (nI o)), (0, .ref 185)], [.int (Int32.ofInt 1)], gSh, M2)) rfl ?_
                    rw [cI_1]
                    refine ok_if 116 rfl rfl (fun hz => absurd hz (by simp only [pCP]; rw [hI_int (a := 1) (by omega)]; omega)) (fun _ => ?_)
                    refine ok_seq 1 (σ' := (113, [(3, .int (nI 1)), (5, .int (nI 0)), (1, .int (nI an)), (4, .int (nI 0)), (2, .int (nI o)), (0, .ref 185)], [.ref 185], gSh, M2)) rfl ?_
                    have ht : tok.toInt ≠ 0 := by first | exact z3 (by omega) | omega
                    refine ok_call (mi := 180) (as := [.ref 185]) (pc' := 116) (L' := [(3, .int (nI 1)), (5, .int (nI 0)), (1, .int (nI an)), (4, .int (nI 0)), (2, .int (nI o)), (0, .ref 185)]) (st' := []) (sh' := gSh) (M' := M2) (i := .invokevirtual 189) (len := 3) rfl rfl ?_
                    refine (((c_nextQ (d := 0) hT hq2.1.1.1 hC2 h12 ht).deep (by omega))).mono ?_
                    rintro v2 ⟨sh2, M8⟩ ⟨rfl, hsh, ⟨a8, hN8⟩, hC8⟩
                    have hsh : sh2 = gSh := hsh
                    subst hsh
                    dsimp only at hN8 hC8
                    refine ok_seq 1 (σ' := (6, [(3, .int (nI 1)), (5, .int (nI 0)), (1, .int (nI an)), (4, .int (nI 0)), (2, .int (nI o)), (0, .ref 185)], [], gSh, M8)) rfl ?_
                    have hlt := PC.le hC2 h12 ht
                    exact ih (300 - (c2 + 1)) (by omega) (c2 + 1) an o 1 w2 D' M8 _ rfl (by omega) (by omega) (by omega) (by decide) (hq2.next hN8) hC8 (fun _ => by first | omega | (show _ ≤ (D').2; omega)) (fun hz => by omega) (fun _ => by omega) (Or.inr (Or.inr ⟨_, _, rfl⟩))
              · intro hn0
                simp only [pCP] at hn0
                rw [hI_int (a := an) (by omega)] at hn0
                have hn0 : ((an : Nat) : Int) = (0 : Int) := by omega
                refine ok_seq 1 (σ' := (80, [(5, .int (nI 0)), (1, .int (nI an)), (4, .int (nI 0)), (3, .int (nI m)), (2, .int (nI o)), (0, .ref 185)], [.int (nI o)], gSh, M2)) rfl ?_
                refine ok_if 90 rfl rfl ?_ ?_
                · intro ho0
                  simp only [pCP] at ho0
                  rw [hI_int (a := o) (by omega)] at ho0
                  have ho0 : ((o : Nat) : Int) = (0 : Int) := by omega
                  refine ok_seq 3 (σ' := (94, [(2, .int (nI 0)), (5, .int (nI 0)), (1, .int (nI an)), (4, .int (nI 0)), (3, .int (nI m)), (0, .ref 185)], [.int (nI an)], gSh, M2)) rfl ?_
                  refine ok_if 102 rfl rfl ?_ ?_
                  · intro hq0
                    simp only [pCP] at hq0
                    rw [hI_int (a := an) (by omega)] at hq0
                    have hq0 : ((an : Nat) : Int) ≠ (0 : Int) := by omega
                    refine ok_seq 4 (σ' := (109, [(3, .int (Int32.ofInt 1)), (2, .int (nI 0)), (5, .int (nI 0)), (1, .int (nI an)), (4, .int (nI 0)), (0, .ref 185)], [.int (Int32.ofInt 1)], gSh, M2)) rfl ?_
                    rw [cI_1]
                    refine ok_if 116 rfl rfl (fun hz => absurd hz (by simp only [pCP]; rw [hI_int (a := 1) (by omega)]; omega)) (fun _ => ?_)
                    refine ok_seq 1 (σ' := (113, [(3, .int (nI 1)), (2, .int (nI 0)), (5, .int (nI 0)), (1, .int (nI an)), (4, .int (nI 0)), (0, .ref 185)], [.ref 185], gSh, M2)) rfl ?_
                    have ht : tok.toInt ≠ 0 := by first | exact z3 (by omega) | omega
                    refine ok_call (mi := 180) (as := [.ref 185]) (pc' := 116) (L' := [(3, .int (nI 1)), (2, .int (nI 0)), (5, .int (nI 0)), (1, .int (nI an)), (4, .int (nI 0)), (0, .ref 185)]) (st' := []) (sh' := gSh) (M' := M2) (i := .invokevirtual 189) (len := 3) rfl rfl ?_
                    refine (((c_nextQ (d := 0) hT hq2.1.1.1 hC2 h12 ht).deep (by omega))).mono ?_
                    rintro v2 ⟨sh2, M8⟩ ⟨rfl, hsh, ⟨a8, hN8⟩, hC8⟩
                    have hsh : sh2 = gSh := hsh
                    subst hsh
                    dsimp only at hN8 hC8
                    refine ok_seq 1 (σ' := (6, [(3, .int (nI 1)), (2, .int (nI 0)), (5, .int (nI 0)), (1, .int (nI an)), (4, .int (nI 0)), (0, .ref 185)], [], gSh, M8)) rfl ?_
                    have hlt := PC.le hC2 h12 ht
                    exact ih (300 - (c2 + 1)) (by omega) (c2 + 1) an 0 1 w2 D' M8 _ rfl (by omega) (by omega) (by omega) (by decide) (hq2.next hN8) hC8 (fun _ => by first | omega | (show _ ≤ (D').2; omega)) (fun hz => by omega) (fun _ => by omega) (Or.inr (Or.inl ⟨_, _, rfl⟩))
                  · intro hq0
                    simp only [pCP] at hq0
                    rw [hI_int (a := an) (by omega)] at hq0
                    have hq0 : ((an : Nat) : Int) = (0 : Int) := by omega
                    refine ok_seq 1 (σ' := (99, [(2, .int (nI 0)), (5, .int (nI 0)), (1, .int (nI an)), (4, .int (nI 0)), (3, .int (nI m)), (0, .ref 185)], [.int (nI 0)], gSh, M2)) rfl ?_
                    refine ok_if 106 rfl rfl ?_ ?_
                    · intro hb0
                      simp only [pCP] at hb0
                      rw [hI_int (a := 0) (by omega)] at hb0
                      have hb0 : ((0 : Nat) : Int) = (0 : Int) := by omega
                      refine ok_seq 3 (σ' := (109, [(3, .int (Int32.ofInt 0)), (2, .int (nI 0)), (5, .int (nI 0)), (1, .int (nI an)), (4, .int (nI 0)), (0, .ref 185)], [.int (Int32.ofInt 0)], gSh, M2)) rfl ?_
                      rw [cI_0]
                      refine ok_if 116 rfl rfl (fun _ => ?_) (fun hz => absurd (by simp only [pCP]; rw [hI_int (a := 0) (by omega)]; omega) hz)
                      refine ok_seq 2 (σ' := (7, [(3, .int (nI 0)), (2, .int (nI 0)), (5, .int (nI 0)), (1, .int (nI an)), (4, .int (nI 0)), (0, .ref 185)], [.int (nI 0)], gSh, M2)) rfl ?_
                      refine ok_if 119 rfl rfl (fun _ => ?_) (fun hz => absurd (by simp only [pCP]; rw [hI_int (a := 0) (by omega)]; omega) hz)
                      refine ok_seq 1 (σ' := (120, [(3, .int (nI 0)), (2, .int (nI 0)), (5, .int (nI 0)), (1, .int (nI an)), (4, .int (nI 0)), (0, .ref 185)], [.int (Int32.ofInt 0)], gSh, M2)) rfl ?_
                      rw [cI_0]
                      exact ok_ret (i := .ireturn) (len := 1) rfl rfl ⟨some (.int (nI 0)), rfl, rfl, Or.inl ⟨rfl, w2, c2, D', hq2, hC2, by omega, by omega⟩⟩
                    · intro hb0
                      simp only [pCP] at hb0
                      rw [hI_int (a := 0) (by omega)] at hb0
                      have hb0 : ((0 : Nat) : Int) ≠ (0 : Int) := by omega
                      refine ok_seq 4 (σ' := (109, [(3, .int (Int32.ofInt 1)), (2, .int (nI 0)), (5, .int (nI 0)), (1, .int (nI an)), (4, .int (nI 0)), (0, .ref 185)], [.int (Int32.ofInt 1)], gSh, M2)) rfl ?_
                      rw [cI_1]
                      refine ok_if 116 rfl rfl (fun hz => absurd hz (by simp only [pCP]; rw [hI_int (a := 1) (by omega)]; omega)) (fun _ => ?_)
                      refine ok_seq 1 (σ' := (113, [(3, .int (nI 1)), (2, .int (nI 0)), (5, .int (nI 0)), (1, .int (nI an)), (4, .int (nI 0)), (0, .ref 185)], [.ref 185], gSh, M2)) rfl ?_
                      have ht : tok.toInt ≠ 0 := by first | exact z3 (by omega) | omega
                      refine ok_call (mi := 180) (as := [.ref 185]) (pc' := 116) (L' := [(3, .int (nI 1)), (2, .int (nI 0)), (5, .int (nI 0)), (1, .int (nI an)), (4, .int (nI 0)), (0, .ref 185)]) (st' := []) (sh' := gSh) (M' := M2) (i := .invokevirtual 189) (len := 3) rfl rfl ?_
                      refine (((c_nextQ (d := 0) hT hq2.1.1.1 hC2 h12 ht).deep (by omega))).mono ?_
                      rintro v2 ⟨sh2, M8⟩ ⟨rfl, hsh, ⟨a8, hN8⟩, hC8⟩
                      have hsh : sh2 = gSh := hsh
                      subst hsh
                      dsimp only at hN8 hC8
                      refine ok_seq 1 (σ' := (6, [(3, .int (nI 1)), (2, .int (nI 0)), (5, .int (nI 0)), (1, .int (nI an)), (4, .int (nI 0)), (0, .ref 185)], [], gSh, M8)) rfl ?_
                      have hlt := PC.le hC2 h12 ht
                      exact ih (300 - (c2 + 1)) (by omega) (c2 + 1) an 0 1 w2 D' M8 _ rfl (by omega) (by omega) (by omega) (by decide) (hq2.next hN8) hC8 (fun _ => by first | omega | (show _ ≤ (D').2; omega)) (fun hz => by omega) (fun _ => by omega) (Or.inr (Or.inl ⟨_, _, rfl⟩))
                · intro ho0
                  simp only [pCP] at ho0
                  rw [hI_int (a := o) (by omega)] at ho0
                  have ho0 : ((o : Nat) : Int) ≠ (0 : Int) := by omega
                  refine ok_seq 3 (σ' := (87, [(5, .int (nI 0)), (1, .int (nI an)), (4, .int (nI 0)), (3, .int (nI m)), (2, .int (nI o)), (0, .ref 185)], [.int (Int32.ofInt 0), .int ((Int8.ofInt 22).toInt32), .ref 185], gSh, M2)) rfl ?_
                  rw [(show (Int8.ofInt 22).toInt32 = nI 22 by decide), cI_0]
                  refine ok_call (mi := 186) (as := [.ref 185, .int (nI 22), .int (nI 0)]) (pc' := 90) (L' := [(5, .int (nI 0)), (1, .int (nI an)), (4, .int (nI 0)), (3, .int (nI m)), (2, .int (nI o)), (0, .ref 185)]) (st' := []) (sh' := gSh) (M' := M2) (i := .invokevirtual 170) (len := 3) rfl rfl ?_
                  refine ((c_emit0 (d := d + dN + 6) hT hq2 (D' := (D'.1, D'.2 - 1)) (o := nI 22) (v := nI 0) (Or.inr (Or.inr (Or.inr (Or.inr (Or.inr (Or.inr ⟨by decide, by decide, by omega, rfl⟩)))))) (by omega))).mono ?_
                  rintro v ⟨sh2, M7⟩ ⟨rfl, hsh, hq7, hf7⟩
                  have hsh : sh2 = gSh := hsh
                  subst hsh
                  dsimp only at hq7 hf7
                  refine ok_seq 3 (σ' := (94, [(2, .int (nI 0)), (5, .int (nI 0)), (1, .int (nI an)), (4, .int (nI 0)), (3, .int (nI m)), (0, .ref 185)], [.int (nI an)], gSh, M7)) rfl ?_
                  refine ok_if 102 rfl rfl ?_ ?_
                  · intro hq0
                    simp only [pCP] at hq0
                    rw [hI_int (a := an) (by omega)] at hq0
                    have hq0 : ((an : Nat) : Int) ≠ (0 : Int) := by omega
                    refine ok_seq 4 (σ' := (109, [(3, .int (Int32.ofInt 1)), (2, .int (nI 0)), (5, .int (nI 0)), (1, .int (nI an)), (4, .int (nI 0)), (0, .ref 185)], [.int (Int32.ofInt 1)], gSh, M7)) rfl ?_
                    rw [cI_1]
                    refine ok_if 116 rfl rfl (fun hz => absurd hz (by simp only [pCP]; rw [hI_int (a := 1) (by omega)]; omega)) (fun _ => ?_)
                    refine ok_seq 1 (σ' := (113, [(3, .int (nI 1)), (2, .int (nI 0)), (5, .int (nI 0)), (1, .int (nI an)), (4, .int (nI 0)), (0, .ref 185)], [.ref 185], gSh, M7)) rfl ?_
                    have ht : tok.toInt ≠ 0 := by first | exact z3 (by omega) | omega
                    refine ok_call (mi := 180) (as := [.ref 185]) (pc' := 116) (L' := [(3, .int (nI 1)), (2, .int (nI 0)), (5, .int (nI 0)), (1, .int (nI an)), (4, .int (nI 0)), (0, .ref 185)]) (st' := []) (sh' := gSh) (M' := M7) (i := .invokevirtual 189) (len := 3) rfl rfl ?_
                    refine (((c_nextQ (d := 0) hT hq7.1.1.1 (PC.keep hC2 (hf7.at 10 (by decide)) (hf7.at 12 (by decide))) (by rw [hf7.at 12 (by decide)]; exact h12) ht).deep (by omega))).mono ?_
                    rintro v2 ⟨sh2, M8⟩ ⟨rfl, hsh, ⟨a8, hN8⟩, hC8⟩
                    have hsh : sh2 = gSh := hsh
                    subst hsh
                    dsimp only at hN8 hC8
                    refine ok_seq 1 (σ' := (6, [(3, .int (nI 1)), (2, .int (nI 0)), (5, .int (nI 0)), (1, .int (nI an)), (4, .int (nI 0)), (0, .ref 185)], [], gSh, M8)) rfl ?_
                    have hlt := PC.le (PC.keep hC2 (hf7.at 10 (by decide)) (hf7.at 12 (by decide))) (by rw [hf7.at 12 (by decide)]; exact h12) ht
                    exact ih (300 - (c2 + 1)) (by omega) (c2 + 1) an 0 1 (w2 + 1) (D'.1, D'.2 - 1) M8 _ rfl (by omega) (by omega) (by omega) (by decide) (hq7.next hN8) hC8 (fun _ => by first | omega | (show _ ≤ ((D'.1, D'.2 - 1)).2; omega)) (fun hz => by omega) (fun _ => by omega) (Or.inr (Or.inl ⟨_, _, rfl⟩))
                  · intro hq0
                    simp only [pCP] at hq0
                    rw [hI_int (a := an) (by omega)] at hq0
                    have hq0 : ((an : Nat) : Int) = (0 : Int) := by omega
                    refine ok_seq 1 (σ' := (99, [(2, .int (nI 0)), (5, .int (nI 0)), (1, .int (nI an)), (4, .int (nI 0)), (3, .int (nI m)), (0, .ref 185)], [.int (nI 0)], gSh, M7)) rfl ?_
                    refine ok_if 106 rfl rfl ?_ ?_
                    · intro hb0
                      simp only [pCP] at hb0
                      rw [hI_int (a := 0) (by omega)] at hb0
                      have hb0 : ((0 : Nat) : Int) = (0 : Int) := by omega
                      refine ok_seq 3 (σ' := (109, [(3, .int (Int32.ofInt 0)), (2, .int (nI 0)), (5, .int (nI 0)), (1, .int (nI an)), (4, .int (nI 0)), (0, .ref 185)], [.int (Int32.ofInt 0)], gSh, M7)) rfl ?_
                      rw [cI_0]
                      refine ok_if 116 rfl rfl (fun _ => ?_) (fun hz => absurd (by simp only [pCP]; rw [hI_int (a := 0) (by omega)]; omega) hz)
                      refine ok_seq 2 (σ' := (7, [(3, .int (nI 0)), (2, .int (nI 0)), (5, .int (nI 0)), (1, .int (nI an)), (4, .int (nI 0)), (0, .ref 185)], [.int (nI 0)], gSh, M7)) rfl ?_
                      refine ok_if 119 rfl rfl (fun _ => ?_) (fun hz => absurd (by simp only [pCP]; rw [hI_int (a := 0) (by omega)]; omega) hz)
                      refine ok_seq 1 (σ' := (120, [(3, .int (nI 0)), (2, .int (nI 0)), (5, .int (nI 0)), (1, .int (nI an)), (4, .int (nI 0)), (0, .ref 185)], [.int (Int32.ofInt 0)], gSh, M7)) rfl ?_
                      rw [cI_0]
                      exact ok_ret (i := .ireturn) (len := 1) rfl rfl ⟨some (.int (nI 0)), rfl, rfl, Or.inl ⟨rfl, (w2 + 1), c2, (D'.1, D'.2 - 1), hq7, (PC.keep hC2 (hf7.at 10 (by decide)) (hf7.at 12 (by decide))), by omega, by omega⟩⟩
                    · intro hb0
                      simp only [pCP] at hb0
                      rw [hI_int (a := 0) (by omega)] at hb0
                      have hb0 : ((0 : Nat) : Int) ≠ (0 : Int) := by omega
                      refine ok_seq 4 (σ' := (109, [(3, .int (Int32.ofInt 1)), (2, .int (nI 0)), (5, .int (nI 0)), (1, .int (nI an)), (4, .int (nI 0)), (0, .ref 185)], [.int (Int32.ofInt 1)], gSh, M7)) rfl ?_
                      rw [cI_1]
                      refine ok_if 116 rfl rfl (fun hz => absurd hz (by simp only [pCP]; rw [hI_int (a := 1) (by omega)]; omega)) (fun _ => ?_)
                      refine ok_seq 1 (σ' := (113, [(3, .int (nI 1)), (2, .int (nI 0)), (5, .int (nI 0)), (1, .int (nI an)), (4, .int (nI 0)), (0, .ref 185)], [.ref 185], gSh, M7)) rfl ?_
                      have ht : tok.toInt ≠ 0 := by first | exact z3 (by omega) | omega
                      refine ok_call (mi := 180) (as := [.ref 185]) (pc' := 116) (L' := [(3, .int (nI 1)), (2, .int (nI 0)), (5, .int (nI 0)), (1, .int (nI an)), (4, .int (nI 0)), (0, .ref 185)]) (st' := []) (sh' := gSh) (M' := M7) (i := .invokevirtual 189) (len := 3) rfl rfl ?_
                      refine (((c_nextQ (d := 0) hT hq7.1.1.1 (PC.keep hC2 (hf7.at 10 (by decide)) (hf7.at 12 (by decide))) (by rw [hf7.at 12 (by decide)]; exact h12) ht).deep (by omega))).mono ?_
                      rintro v2 ⟨sh2, M8⟩ ⟨rfl, hsh, ⟨a8, hN8⟩, hC8⟩
                      have hsh : sh2 = gSh := hsh
                      subst hsh
                      dsimp only at hN8 hC8
                      refine ok_seq 1 (σ' := (6, [(3, .int (nI 1)), (2, .int (nI 0)), (5, .int (nI 0)), (1, .int (nI an)), (4, .int (nI 0)), (0, .ref 185)], [], gSh, M8)) rfl ?_
                      have hlt := PC.le (PC.keep hC2 (hf7.at 10 (by decide)) (hf7.at 12 (by decide))) (by rw [hf7.at 12 (by decide)]; exact h12) ht
                      exact ih (300 - (c2 + 1)) (by omega) (c2 + 1) an 0 1 (w2 + 1) (D'.1, D'.2 - 1) M8 _ rfl (by omega) (by omega) (by omega) (by decide) (hq7.next hN8) hC8 (fun _ => by first | omega | (show _ ≤ ((D'.1, D'.2 - 1)).2; omega)) (fun hz => by omega) (fun _ => by omega) (Or.inr (Or.inl ⟨_, _, rfl⟩))
            · intro hw
              simp only [pCP] at hw
              have hw : (lg_cmp wd ((28530 : Int64))).toInt = (0 : Int) := by omega
              refine ok_seq 4 (σ' := (76, [(5, .int (Int32.ofInt 1)), (1, .int (nI an)), (4, .int (nI 0)), (3, .int (nI m)), (2, .int (nI o)), (0, .ref 185)], [.int (nI an)], gSh, M2)) rfl ?_
              rw [cI_1]
              refine ok_if 93 rfl rfl ?_ ?_
              · intro hn0
                simp only [pCP] at hn0
                rw [hI_int (a := an) (by omega)] at hn0
                have hn0 : ((an : Nat) : Int) ≠ (0 : Int) := by omega
                refine ok_seq 1 (σ' := (94, [(5, .int (nI 1)), (1, .int (nI an)), (4, .int (nI 0)), (3, .int (nI m)), (2, .int (nI o)), (0, .ref 185)], [.int (nI an)], gSh, M2)) rfl ?_
                refine ok_if 102 rfl rfl ?_ ?_
                · intro hq0
                  simp only [pCP] at hq0
                  rw [hI_int (a := an) (by omega)] at hq0
                  have hq0 : ((an : Nat) : Int) ≠ (0 : Int) := by omega
                  refine ok_seq 4 (σ' := (109, [(3, .int (Int32.ofInt 1)), (5, .int (nI 1)), (1, .int (nI an)), (4, .int (nI 0)), (2, .int (nI o)), (0, .ref 185)], [.int (Int32.ofInt 1)], gSh, M2)) rfl ?_
                  rw [cI_1]
                  refine ok_if 116 rfl rfl (fun hz => absurd hz (by simp only [pCP]; rw [hI_int (a := 1) (by omega)]; omega)) (fun _ => ?_)
                  refine ok_seq 1 (σ' := (113, [(3, .int (nI 1)), (5, .int (nI 1)), (1, .int (nI an)), (4, .int (nI 0)), (2, .int (nI o)), (0, .ref 185)], [.ref 185], gSh, M2)) rfl ?_
                  have ht : tok.toInt ≠ 0 := by first | exact z3 (by omega) | omega
                  refine ok_call (mi := 180) (as := [.ref 185]) (pc' := 116) (L' := [(3, .int (nI 1)), (5, .int (nI 1)), (1, .int (nI an)), (4, .int (nI 0)), (2, .int (nI o)), (0, .ref 185)]) (st' := []) (sh' := gSh) (M' := M2) (i := .invokevirtual 189) (len := 3) rfl rfl ?_
                  refine (((c_nextQ (d := 0) hT hq2.1.1.1 hC2 h12 ht).deep (by omega))).mono ?_
                  rintro v2 ⟨sh2, M8⟩ ⟨rfl, hsh, ⟨a8, hN8⟩, hC8⟩
                  have hsh : sh2 = gSh := hsh
                  subst hsh
                  dsimp only at hN8 hC8
                  refine ok_seq 1 (σ' := (6, [(3, .int (nI 1)), (5, .int (nI 1)), (1, .int (nI an)), (4, .int (nI 0)), (2, .int (nI o)), (0, .ref 185)], [], gSh, M8)) rfl ?_
                  have hlt := PC.le hC2 h12 ht
                  exact ih (300 - (c2 + 1)) (by omega) (c2 + 1) an o 1 w2 D' M8 _ rfl (by omega) (by omega) (by omega) (by decide) (hq2.next hN8) hC8 (fun _ => by first | omega | (show _ ≤ (D').2; omega)) (fun hz => by omega) (fun _ => by omega) (Or.inr (Or.inr ⟨_, _, rfl⟩))
                · intro hq0
                  simp only [pCP] at hq0
                  rw [hI_int (a := an) (by omega)] at hq0
                  have hq0 : ((an : Nat) : Int) = (0 : Int) := by omega
                  refine ok_seq 1 (σ' := (99, [(5, .int (nI 1)), (1, .int (nI an)), (4, .int (nI 0)), (3, .int (nI m)), (2, .int (nI o)), (0, .ref 185)], [.int (nI 1)], gSh, M2)) rfl ?_
                  refine ok_if 106 rfl rfl ?_ ?_
                  · intro hb0
                    simp only [pCP] at hb0
                    rw [hI_int (a := 1) (by omega)] at hb0
                    have hb0 : ((1 : Nat) : Int) = (0 : Int) := by omega
                    refine ok_seq 3 (σ' := (109, [(3, .int (Int32.ofInt 0)), (5, .int (nI 1)), (1, .int (nI an)), (4, .int (nI 0)), (2, .int (nI o)), (0, .ref 185)], [.int (Int32.ofInt 0)], gSh, M2)) rfl ?_
                    rw [cI_0]
                    refine ok_if 116 rfl rfl (fun _ => ?_) (fun hz => absurd (by simp only [pCP]; rw [hI_int (a := 0) (by omega)]; omega) hz)
                    refine ok_seq 2 (σ' := (7, [(3, .int (nI 0)), (5, .int (nI 1)), (1, .int (nI an)), (4, .int (nI 0)), (2, .int (nI o)), (0, .ref 185)], [.int (nI 0)], gSh, M2)) rfl ?_
                    refine ok_if 119 rfl rfl (fun _ => ?_) (fun hz => absurd (by simp only [pCP]; rw [hI_int (a := 0) (by omega)]; omega) hz)
                    refine ok_seq 1 (σ' := (120, [(3, .int (nI 0)), (5, .int (nI 1)), (1, .int (nI an)), (4, .int (nI 0)), (2, .int (nI o)), (0, .ref 185)], [.int (Int32.ofInt 0)], gSh, M2)) rfl ?_
                    rw [cI_0]
                    exact ok_ret (i := .ireturn) (len := 1) rfl rfl ⟨some (.int (nI 0)), rfl, rfl, Or.inl ⟨rfl, w2, c2, D', hq2, hC2, by omega, by omega⟩⟩
                  · intro hb0
                    simp only [pCP] at hb0
                    rw [hI_int (a := 1) (by omega)] at hb0
                    have hb0 : ((1 : Nat) : Int) ≠ (0 : Int) := by omega
                    refine ok_seq 4 (σ' := (109, [(3, .int (Int32.ofInt 1)), (5, .int (nI 1)), (1, .int (nI an)), (4, .int (nI 0)), (2, .int (nI o)), (0, .ref 185)], [.int (Int32.ofInt 1)], gSh, M2)) rfl ?_
                    rw [cI_1]
                    refine ok_if 116 rfl rfl (fun hz => absurd hz (by simp only [pCP]; rw [hI_int (a := 1) (by omega)]; omega)) (fun _ => ?_)
                    refine ok_seq 1 (σ' := (113, [(3, .int (nI 1)), (5, .int (nI 1)), (1, .int (nI an)), (4, .int (nI 0)), (2, .int (nI o)), (0, .ref 185)], [.ref 185], gSh, M2)) rfl ?_
                    have ht : tok.toInt ≠ 0 := by first | exact z3 (by omega) | omega
                    refine ok_call (mi := 180) (as := [.ref 185]) (pc' := 116) (L' := [(3, .int (nI 1)), (5, .int (nI 1)), (1, .int (nI an)), (4, .int (nI 0)), (2, .int (nI o)), (0, .ref 185)]) (st' := []) (sh' := gSh) (M' := M2) (i := .invokevirtual 189) (len := 3) rfl rfl ?_
                    refine (((c_nextQ (d := 0) hT hq2.1.1.1 hC2 h12 ht).deep (by omega))).mono ?_
                    rintro v2 ⟨sh2, M8⟩ ⟨rfl, hsh, ⟨a8, hN8⟩, hC8⟩
                    have hsh : sh2 = gSh := hsh
                    subst hsh
                    dsimp only at hN8 hC8
                    refine ok_seq 1 (σ' := (6, [(3, .int (nI 1)), (5, .int (nI 1)), (1, .int (nI an)), (4, .int (nI 0)), (2, .int (nI o)), (0, .ref 185)], [], gSh, M8)) rfl ?_
                    have hlt := PC.le hC2 h12 ht
                    exact ih (300 - (c2 + 1)) (by omega) (c2 + 1) an o 1 w2 D' M8 _ rfl (by omega) (by omega) (by omega) (by decide) (hq2.next hN8) hC8 (fun _ => by first | omega | (show _ ≤ (D').2; omega)) (fun hz => by omega) (fun _ => by omega) (Or.inr (Or.inr ⟨_, _, rfl⟩))
              · intro hn0
                simp only [pCP] at hn0
                rw [hI_int (a := an) (by omega)] at hn0
                have hn0 : ((an : Nat) : Int) = (0 : Int) := by omega
                refine ok_seq 1 (σ' := (80, [(5, .int (nI 1)), (1, .int (nI an)), (4, .int (nI 0)), (3, .int (nI m)), (2, .int (nI o)), (0, .ref 185)], [.int (nI o)], gSh, M2)) rfl ?_
                refine ok_if 90 rfl rfl ?_ ?_
                · intro ho0
                  simp only [pCP] at ho0
                  rw [hI_int (a := o) (by omega)] at ho0
                  have ho0 : ((o : Nat) : Int) = (0 : Int) := by omega
                  refine ok_seq 3 (σ' := (94, [(2, .int (nI 1)), (5, .int (nI 1)), (1, .int (nI an)), (4, .int (nI 0)), (3, .int (nI m)), (0, .ref 185)], [.int (nI an)], gSh, M2)) rfl ?_
                  refine ok_if 102 rfl rfl ?_ ?_
                  · intro hq0
                    simp only [pCP] at hq0
                    rw [hI_int (a := an) (by omega)] at hq0
                    have hq0 : ((an : Nat) : Int) ≠ (0 : Int) := by omega
                    refine ok_seq 4 (σ' := (109, [(3, .int (Int32.ofInt 1)), (2, .int (nI 1)), (5, .int (nI 1)), (1, .int (nI an)), (4, .int (nI 0)), (0, .ref 185)], [.int (Int32.ofInt 1)], gSh, M2)) rfl ?_
                    rw [cI_1]
                    refine ok_if 116 rfl rfl (fun hz => absurd hz (by simp only [pCP]; rw [hI_int (a := 1) (by omega)]; omega)) (fun _ => ?_)
                    refine ok_seq 1 (σ' := (113, [(3, .int (nI 1)), (2, .int (nI 1)), (5, .int (nI 1)), (1, .int (nI an)), (4, .int (nI 0)), (0, .ref 185)], [.ref 185], gSh, M2)) rfl ?_
                    have ht : tok.toInt ≠ 0 := by first | exact z3 (by omega) | omega
                    refine ok_call (mi := 180) (as := [.ref 185]) (pc' := 116) (L' := [(3, .int (nI 1)), (2, .int (nI 1)), (5, .int (nI 1)), (1, .int (nI an)), (4, .int (nI 0)), (0, .ref 185)]) (st' := []) (sh' := gSh) (M' := M2) (i := .invokevirtual 189) (len := 3) rfl rfl ?_
                    refine (((c_nextQ (d := 0) hT hq2.1.1.1 hC2 h12 ht).deep (by omega))).mono ?_
                    rintro v2 ⟨sh2, M8⟩ ⟨rfl, hsh, ⟨a8, hN8⟩, hC8⟩
                    have hsh : sh2 = gSh := hsh
                    subst hsh
                    dsimp only at hN8 hC8
                    refine ok_seq 1 (σ' := (6, [(3, .int (nI 1)), (2, .int (nI 1)), (5, .int (nI 1)), (1, .int (nI an)), (4, .int (nI 0)), (0, .ref 185)], [], gSh, M8)) rfl ?_
                    have hlt := PC.le hC2 h12 ht
                    exact ih (300 - (c2 + 1)) (by omega) (c2 + 1) an 1 1 w2 D' M8 _ rfl (by omega) (by omega) (by omega) (by decide) (hq2.next hN8) hC8 (fun _ => by first | omega | (show _ ≤ (D').2; omega)) (fun hz => by omega) (fun _ => by omega) (Or.inr (Or.inl ⟨_, _, rfl⟩))
                  · intro hq0
                    simp only [pCP] at hq0
                    rw [hI_int (a := an) (by omega)] at hq0
                    have hq0 : ((an : Nat) : Int) = (0 : Int) := by omega
                    refine ok_seq 1 (σ' := (99, [(2, .int (nI 1)), (5, .int (nI 1)), (1, .int (nI an)), (4, .int (nI 0)), (3, .int (nI m)), (0, .ref 185)], [.int (nI 1)], gSh, M2)) rfl ?_
                    refine ok_if 106 rfl rfl ?_ ?_
                    · intro hb0
                      simp only [pCP] at hb0
                      rw [hI_int (a := 1) (by omega)] at hb0
                      have hb0 : ((1 : Nat) : Int) = (0 : Int) := by omega
                      refine ok_seq 3 (σ' := (109, [(3, .int (Int32.ofInt 0)), (2, .int (nI 1)), (5, .int (nI 1)), (1, .int (nI an)), (4, .int (nI 0)), (0, .ref 185)], [.int (Int32.ofInt 0)], gSh, M2)) rfl ?_
                      rw [cI_0]
                      refine ok_if 116 rfl rfl (fun _ => ?_) (fun hz => absurd (by simp only [pCP]; rw [hI_int (a := 0) (by omega)]; omega) hz)
                      refine ok_seq 2 (σ' := (7, [(3, .int (nI 0)), (2, .int (nI 1)), (5, .int (nI 1)), (1, .int (nI an)), (4, .int (nI 0)), (0, .ref 185)], [.int (nI 0)], gSh, M2)) rfl ?_
                      refine ok_if 119 rfl rfl (fun _ => ?_) (fun hz => absurd (by simp only [pCP]; rw [hI_int (a := 0) (by omega)]; omega) hz)
                      refine ok_seq 1 (σ' := (120, [(3, .int (nI 0)), (2, .int (nI 1)), (5, .int (nI 1)), (1, .int (nI an)), (4, .int (nI 0)), (0, .ref 185)], [.int (Int32.ofInt 0)], gSh, M2)) rfl ?_
                      rw [cI_0]
                      exact ok_ret (i := .ireturn) (len := 1) rfl rfl ⟨some (.int (nI 0)), rfl, rfl, Or.inl ⟨rfl, w2, c2, D', hq2, hC2, by omega, by omega⟩⟩
                    · intro hb0
                      simp only [pCP] at hb0
                      rw [hI_int (a := 1) (by omega)] at hb0
                      have hb0 : ((1 : Nat) : Int) ≠ (0 : Int) := by omega
                      refine ok_seq 4 (σ' := (109, [(3, .int (Int32.ofInt 1)), (2, .int (nI 1)), (5, .int (nI 1)), (1, .int (nI an)), (4, .int (nI 0)), (0, .ref 185)], [.int (Int32.ofInt 1)], gSh, M2)) rfl ?_
                      rw [cI_1]
                      refine ok_if 116 rfl rfl (fun hz => absurd hz (by simp only [pCP]; rw [hI_int (a := 1) (by omega)]; omega)) (fun _ => ?_)
                      refine ok_seq 1 (σ' := (113, [(3, .int (nI 1)), (2, .int (nI 1)), (5, .int (nI 1)), (1, .int (nI an)), (4, .int (nI 0)), (0, .ref 185)], [.ref 185], gSh, M2)) rfl ?_
                      have ht : tok.toInt ≠ 0 := by first | exact z3 (by omega) | omega
                      refine ok_call (mi := 180) (as := [.ref 185]) (pc' := 116) (L' := [(3, .int (nI 1)), (2, .int (nI 1)), (5, .int (nI 1)), (1, .int (nI an)), (4, .int (nI 0)), (0, .ref 185)]) (st' := []) (sh' := gSh) (M' := M2) (i := .invokevirtual 189) (len := 3) rfl rfl ?_
                      refine (((c_nextQ (d := 0) hT hq2.1.1.1 hC2 h12 ht).deep (by omega))).mono ?_
                      rintro v2 ⟨sh2, M8⟩ ⟨rfl, hsh, ⟨a8, hN8⟩, hC8⟩
                      have hsh : sh2 = gSh := hsh
                      subst hsh
                      dsimp only at hN8 hC8
                      refine ok_seq 1 (σ' := (6, [(3, .int (nI 1)), (2, .int (nI 1)), (5, .int (nI 1)), (1, .int (nI an)), (4, .int (nI 0)), (0, .ref 185)], [], gSh, M8)) rfl ?_
                      have hlt := PC.le hC2 h12 ht
                      exact ih (300 - (c2 + 1)) (by omega) (c2 + 1) an 1 1 w2 D' M8 _ rfl (by omega) (by omega) (by omega) (by decide) (hq2.next hN8) hC8 (fun _ => by first | omega | (show _ ≤ (D').2; omega)) (fun hz => by omega) (fun _ => by omega) (Or.inr (Or.inl ⟨_, _, rfl⟩))
                · intro ho0
                  simp only [pCP] at ho0
                  rw [hI_int (a := o) (by omega)] at ho0
                  have ho0 : ((o : Nat) : Int) ≠ (0 : Int) := by omega
                  refine ok_seq 3 (σ' := (87, [(5, .int (nI 1)), (1, .int (nI an)), (4, .int (nI 0)), (3, .int (nI m)), (2, .int (nI o)), (0, .ref 185)], [.int (Int32.ofInt 0), .int ((Int8.ofInt 22).toInt32), .ref 185], gSh, M2)) rfl ?_
                  rw [(show (Int8.ofInt 22).toInt32 = nI 22 by decide), cI_0]
                  refine ok_call (mi := 186) (as := [.ref 185, .int (nI 22), .int (nI 0)]) (pc' := 90) (L' := [(5, .int (nI 1)), (1, .int (nI an)), (4, .int (nI 0)), (3, .int (nI m)), (2, .int (nI o)), (0, .ref 185)]) (st' := []) (sh' := gSh) (M' := M2) (i := .invokevirtual 170) (len := 3) rfl rfl ?_
                  refine ((c_emit0 (d := d + dN + 6) hT hq2 (D' := (D'.1, D'.2 - 1)) (o := nI 22) (v := nI 0) (Or.inr (Or.inr (Or.inr (Or.inr (Or.inr (Or.inr ⟨by decide, by decide, by omega, rfl⟩)))))) (by omega))).mono ?_
                  rintro v ⟨sh2, M7⟩ ⟨rfl, hsh, hq7, hf7⟩
                  have hsh : sh2 = gSh := hsh
                  subst hsh
                  dsimp only at hq7 hf7
                  refine ok_seq 3 (σ' := (94, [(2, .int (nI 1)), (5, .int (nI 1)), (1, .int (nI an)), (4, .int (nI 0)), (3, .int (nI m)), (0, .ref 185)], [.int (nI an)], gSh, M7)) rfl ?_
                  refine ok_if 102 rfl rfl ?_ ?_
                  · intro hq0
                    simp only [pCP] at hq0
                    rw [hI_int (a := an) (by omega)] at hq0
                    have hq0 : ((an : Nat) : Int) ≠ (0 : Int) := by omega
                    refine ok_seq 4 (σ' := (109, [(3, .int (Int32.ofInt 1)), (2, .int (nI 1)), (5, .int (nI 1)), (1, .int (nI an)), (4, .int (nI 0)), (0, .ref 185)], [.int (Int32.ofInt 1)], gSh, M7)) rfl ?_
                    rw [cI_1]
                    refine ok_if 116 rfl rfl (fun hz => absurd hz (by simp only [pCP]; rw [hI_int (a := 1) (by omega)]; omega)) (fun _ => ?_)
                    refine ok_seq 1 (σ' := (113, [(3, .int (nI 1)), (2, .int (nI 1)), (5, .int (nI 1)), (1, .int (nI an)), (4, .int (nI 0)), (0, .ref 185)], [.ref 185], gSh, M7)) rfl ?_
                    have ht : tok.toInt ≠ 0 := by first | exact z3 (by omega) | omega
                    refine ok_call (mi := 180) (as := [.ref 185]) (pc' := 116) (L' := [(3, .int (nI 1)), (2, .int (nI 1)), (5, .int (nI 1)), (1, .int (nI an)), (4, .int (nI 0)), (0, .ref 185)]) (st' := []) (sh' := gSh) (M' := M7) (i := .invokevirtual 189) (len := 3) rfl rfl ?_
                    refine (((c_nextQ (d := 0) hT hq7.1.1.1 (PC.keep hC2 (hf7.at 10 (by decide)) (hf7.at 12 (by decide))) (by rw [hf7.at 12 (by decide)]; exact h12) ht).deep (by omega))).mono ?_
                    rintro v2 ⟨sh2, M8⟩ ⟨rfl, hsh, ⟨a8, hN8⟩, hC8⟩
                    have hsh : sh2 = gSh := hsh
                    subst hsh
                    dsimp only at hN8 hC8
                    refine ok_seq 1 (σ' := (6, [(3, .int (nI 1)), (2, .int (nI 1)), (5, .int (nI 1)), (1, .int (nI an)), (4, .int (nI 0)), (0, .ref 185)], [], gSh, M8)) rfl ?_
                    have hlt := PC.le (PC.keep hC2 (hf7.at 10 (by decide)) (hf7.at 12 (by decide))) (by rw [hf7.at 12 (by decide)]; exact h12) ht
                    exact ih (300 - (c2 + 1)) (by omega) (c2 + 1) an 1 1 (w2 + 1) (D'.1, D'.2 - 1) M8 _ rfl (by omega) (by omega) (by omega) (by decide) (hq7.next hN8) hC8 (fun _ => by first | omega | (show _ ≤ ((D'.1, D'.2 - 1)).2; omega)) (fun hz => by omega) (fun _ => by omega) (Or.inr (Or.inl ⟨_, _, rfl⟩))
                  · intro hq0
                    simp only [pCP] at hq0
                    rw [hI_int (a := an) (by omega)] at hq0
                    have hq0 : ((an : Nat) : Int) = (0 : Int) := by omega
                    refine ok_seq 1 (σ' := (99, [(2, .int (nI 1)), (5, .int (nI 1)), (1, .int (nI an)), (4, .int (nI 0)), (3, .int (nI m)), (0, .ref 185)], [.int (nI 1)], gSh, M7)) rfl ?_
                    refine ok_if 106 rfl rfl ?_ ?_
                    · intro hb0
                      simp only [pCP] at hb0
                      rw [hI_int (a := 1) (by omega)] at hb0
                      have hb0 : ((1 : Nat) : Int) = (0 : Int) := by omega
                      refine ok_seq 3 (σ' := (109, [(3, .int (Int32.ofInt 0)), (2, .int (nI 1)), (5, .int (nI 1)), (1, .int (nI an)), (4, .int (nI 0)), (0, .ref 185)], [.int (Int32.ofInt 0)], gSh, M7)) rfl ?_
                      rw [cI_0]
                      refine ok_if 116 rfl rfl (fun _ => ?_) (fun hz => absurd (by simp only [pCP]; rw [hI_int (a := 0) (by omega)]; omega) hz)
                      refine ok_seq 2 (σ' := (7, [(3, .int (nI 0)), (2, .int (nI 1)), (5, .int (nI 1)), (1, .int (nI an)), (4, .int (nI 0)), (0, .ref 185)], [.int (nI 0)], gSh, M7)) rfl ?_
                      refine ok_if 119 rfl rfl (fun _ => ?_) (fun hz => absurd (by simp only [pCP]; rw [hI_int (a := 0) (by omega)]; omega) hz)
                      refine ok_seq 1 (σ' := (120, [(3, .int (nI 0)), (2, .int (nI 1)), (5, .int (nI 1)), (1, .int (nI an)), (4, .int (nI 0)), (0, .ref 185)], [.int (Int32.ofInt 0)], gSh, M7)) rfl ?_
                      rw [cI_0]
                      exact ok_ret (i := .ireturn) (len := 1) rfl rfl ⟨some (.int (nI 0)), rfl, rfl, Or.inl ⟨rfl, (w2 + 1), c2, (D'.1, D'.2 - 1), hq7, (PC.keep hC2 (hf7.at 10 (by decide)) (hf7.at 12 (by decide))), by omega, by omega⟩⟩
                    · intro hb0
                      simp only [pCP] at hb0
                      rw [hI_int (a := 1) (by omega)] at hb0
                      have hb0 : ((1 : Nat) : Int) ≠ (0 : Int) := by omega
                      refine ok_seq 4 (σ' := (109, [(3, .int (Int32.ofInt 1)), (2, .int (nI 1)), (5, .int (nI 1)), (1, .int (nI an)), (4, .int (nI 0)), (0, .ref 185)], [.int (Int32.ofInt 1)], gSh, M7)) rfl ?_
                      rw [cI_1]
                      refine ok_if 116 rfl rfl (fun hz => absurd hz (by simp only [pCP]; rw [hI_int (a := 1) (by omega)]; omega)) (fun _ => ?_)
                      refine ok_seq 1 (σ' := (113, [(3, .int (nI 1)), (2, .int (nI 1)), (5, .int (nI 1)), (1, .int (nI an)), (4, .int (nI 0)), (0, .ref 185)], [.ref 185], gSh, M7)) rfl ?_
                      have ht : tok.toInt ≠ 0 := by first | exact z3 (by omega) | omega
                      refine ok_call (mi := 180) (as := [.ref 185]) (pc' := 116) (L' := [(3, .int (nI 1)), (2, .int (nI 1)), (5, .int (nI 1)), (1, .int (nI an)), (4, .int (nI 0)), (0, .ref 185)]) (st' := []) (sh' := gSh) (M' := M7) (i := .invokevirtual 189) (len := 3) rfl rfl ?_
                      refine (((c_nextQ (d := 0) hT hq7.1.1.1 (PC.keep hC2 (hf7.at 10 (by decide)) (hf7.at 12 (by decide))) (by rw [hf7.at 12 (by decide)]; exact h12) ht).deep (by omega))).mono ?_
                      rintro v2 ⟨sh2, M8⟩ ⟨rfl, hsh, ⟨a8, hN8⟩, hC8⟩
                      have hsh : sh2 = gSh := hsh
                      subst hsh
                      dsimp only at hN8 hC8
                      refine ok_seq 1 (σ' := (6, [(3, .int (nI 1)), (2, .int (nI 1)), (5, .int (nI 1)), (1, .int (nI an)), (4, .int (nI 0)), (0, .ref 185)], [], gSh, M8)) rfl ?_
                      have hlt := PC.le (PC.keep hC2 (hf7.at 10 (by decide)) (hf7.at 12 (by decide))) (by rw [hf7.at 12 (by decide)]; exact h12) ht
                      exact ih (300 - (c2 + 1)) (by omega) (c2 + 1) an 1 1 (w2 + 1) (D'.1, D'.2 - 1) M8 _ rfl (by omega) (by omega) (by omega) (by decide) (hq7.next hN8) hC8 (fun _ => by first | omega | (show _ ≤ ((D'.1, D'.2 - 1)).2; omega)) (fun hz => by omega) (fun _ => by omega) (Or.inr (Or.inl ⟨_, _, rfl⟩))
        · intro ha0
          simp only [pCP] at ha0
          rw [hI_int (a := a) (by omega)] at ha0
          have ha0 : ((a : Nat) : Int) ≠ (0 : Int) := by omega
          have ea : a = 1 := by omega
          refine ok_seq 3 (σ' := (32, [(4, .int (nI 0)), (3, .int (nI m)), (5, .int y5), (1, .int (nI a)), (2, .int (nI o)), (0, .ref 185)], [.int (Int32.ofInt 0), .int ((Int8.ofInt 21).toInt32), .ref 185], gSh, M2)) rfl ?_
          rw [(show (Int8.ofInt 21).toInt32 = nI 21 by decide), cI_0]
          refine ok_call (mi := 186) (as := [.ref 185, .int (nI 21), .int (nI 0)]) (pc' := 35) (L' := [(4, .int (nI 0)), (3, .int (nI m)), (5, .int y5), (1, .int (nI a)), (2, .int (nI o)), (0, .ref 185)]) (st' := []) (sh' := gSh) (M' := M2) (i := .invokevirtual 170) (len := 3) rfl rfl ?_
          refine ((c_emit0 (d := d + dN + 6) hT hq2 (D' := (D'.1, D'.2 - 1)) (o := nI 21) (v := nI 0) (Or.inr (Or.inr (Or.inr (Or.inr (Or.inr (Or.inr ⟨by decide, by decide, by omega, rfl⟩)))))) (by omega))).mono ?_
          rintro v ⟨sh2, M3⟩ ⟨rfl, hsh, hq3, hf3⟩
          have hsh : sh2 = gSh := hsh
          subst hsh
          dsimp only at hq3 hf3
          have hC3 := hC2.keep (hf3.at 10 (by decide)) (hf3.at 12 (by decide))
          obtain ⟨tok, h12, -⟩ := ty_int (pty hT hq3.1.1.1 8 rfl rfl)
          obtain ⟨wd, h14⟩ := ptl hT hq3.1.1.1
          obtain ⟨zw, hzw⟩ := c_w3 (S := S) (d := 0) (M := M3) (nI 97) (nI 110) (nI 100)
          obtain ⟨z, z1, z2, z3, z4⟩ := c_pure0 hH.2.2.1.1 hH.2.2.1.2 (vs := [.ref 185, .long zw]) ⟨r185, sat_l zw, trivial⟩ hq3.1.1.1 (hq3.1.gr hg) h12
          obtain ⟨an, han, ean⟩ := ty_nat (x := []) (hi := 1) ⟨z, rfl, z1, z2⟩
          cases ean
          rw [hI_int (a := an) (by omega)] at z3
          refine ok_seq 4 (σ' := (42, [(4, .int (nI 0)), (3, .int (nI m)), (5, .int y5), (1, .int (nI a)), (2, .int (nI o)), (0, .ref 185)], [.int ((Int8.ofInt 100).toInt32), .int ((Int8.ofInt 110).toInt32), .int ((Int8.ofInt 97).toInt32), .ref 185], gSh, M3)) rfl ?_
          rw [(show (Int8.ofInt 97).toInt32 = nI 97 by decide), (show (Int8.ofInt 110).toInt32 = nI 110 by decide), (show (Int8.ofInt 100).toInt32 = nI 100 by decide)]
          refine ok_call (mi := 181) (as := [.int (nI 97), .int (nI 110), .int (nI 100)]) (pc' := 45) (L' := [(4, .int (nI 0)), (3, .int (nI m)), (5, .int y5), (1, .int (nI a)), (2, .int (nI o)), (0, .ref 185)]) (st' := [.ref 185]) (sh' := gSh) (M' := M3) (i := .invokestatic 146) (len := 3) rfl rfl ?_
          refine ((hzw.deep (by omega))).mono ?_
          rintro v hp ⟨rfl, rfl⟩
          refine ok_call (mi := 185) (as := [.ref 185, .long zw]) (pc' := 48) (L' := [(4, .int (nI 0)), (3, .int (nI m)), (5, .int y5), (1, .int (nI a)), (2, .int (nI o)), (0, .ref 185)]) (st' := []) (sh' := gSh) (M' := M3) (i := .invokevirtual 220) (len := 3) rfl rfl ?_
          refine ((z4.deep (by omega))).mono ?_
          rintro v hp ⟨rfl, rfl⟩
          refine ok_seq 3 (σ' := (53, [(1, .int (nI an)), (4, .int (nI 0)), (3, .int (nI m)), (5, .int y5), (2, .int (nI o)), (0, .ref 185)], [M3 185 12], gSh, M3)) rfl ?_
          rw [h12]
          refine ok_seq 1 (σ' := (54, [(1, .int (nI an)), (4, .int (nI 0)), (3, .int (nI m)), (5, .int y5), (2, .int (nI o)), (0, .ref 185)], [.int (Int32.ofInt 2), .int tok], gSh, M3)) rfl ?_
          rw [cI_2]
          refine ok_icmp 72 rfl rfl ?_ ?_
          · intro h2
            simp only [pCP] at h2
            rw [hI_int (a := 2) (by omega)] at h2
            have h2 : (tok).toInt ≠ ((2 : Nat) : Int) := by omega
            refine ok_seq 3 (σ' := (76, [(5, .int (Int32.ofInt 0)), (1, .int (nI an)), (4, .int (nI 0)), (3, .int (nI m)), (2, .int (nI o)), (0, .ref 185)], [.int (nI an)], gSh, M3)) rfl ?_
            rw [cI_0]
            refine ok_if 93 rfl rfl ?_ ?_
            · intro hn0
              simp only [pCP] at hn0
              rw [hI_int (a := an) (by omega)] at hn0
              have hn0 : ((an : Nat) : Int) ≠ (0 : Int) := by omega
              refine ok_seq 1 (σ' := (94, [(5, .int (nI 0)), (1, .int (nI an)), (4, .int (nI 0)), (3, .int (nI m)), (2, .int (nI o)), (0, .ref 185)], [.int (nI an)], gSh, M3)) rfl ?_
              refine ok_if 102 rfl rfl ?_ ?_
              · intro hq0
                simp only [pCP] at hq0
                rw [hI_int (a := an) (by omega)] at hq0
                have hq0 : ((an : Nat) : Int) ≠ (0 : Int) := by omega
                refine ok_seq 4 (σ' := (109, [(3, .int (Int32.ofInt 1)), (5, .int (nI 0)), (1, .int (nI an)), (4, .int (nI 0)), (2, .int (nI o)), (0, .ref 185)], [.int (Int32.ofInt 1)], gSh, M3)) rfl ?_
                rw [cI_1]
                refine ok_if 116 rfl rfl (fun hz => absurd hz (by simp only [pCP]; rw [hI_int (a := 1) (by omega)]; omega)) (fun _ => ?_)
                refine ok_seq 1 (σ' := (113, [(3, .int (nI 1)), (5, .int (nI 0)), (1, .int (nI an)), (4, .int (nI 0)), (2, .int (nI o)), (0, .ref 185)], [.ref 185], gSh, M3)) rfl ?_
                have ht : tok.toInt ≠ 0 := by first | exact z3 (by omega) | omega
                refine ok_call (mi := 180) (as := [.ref 185]) (pc' := 116) (L' := [(3, .int (nI 1)), (5, .int (nI 0)), (1, .int (nI an)), (4, .int (nI 0)), (2, .int (nI o)), (0, .ref 185)]) (st' := []) (sh' := gSh) (M' := M3) (i := .invokevirtual 189) (len := 3) rfl rfl ?_
                refine (((c_nextQ (d := 0) hT hq3.1.1.1 hC3 h12 ht).deep (by omega))).mono ?_
                rintro v2 ⟨sh2, M8⟩ ⟨rfl, hsh, ⟨a8, hN8⟩, hC8⟩
                have hsh : sh2 = gSh := hsh
                subst hsh
                dsimp only at hN8 hC8
                refine ok_seq 1 (σ' := (6, [(3, .int (nI 1)), (5, .int (nI 0)), (1, .int (nI an)), (4, .int (nI 0)), (2, .int (nI o)), (0, .ref 185)], [], gSh, M8)) rfl ?_
                have hlt := PC.le hC3 h12 ht
                exact ih (300 - (c2 + 1)) (by omega) (c2 + 1) an o 1 (w2 + 1) (D'.1, D'.2 - 1) M8 _ rfl (by omega) (by omega) (by omega) (by decide) (hq3.next hN8) hC8 (fun _ => by first | omega | (show _ ≤ ((D'.1, D'.2 - 1)).2; omega)) (fun hz => by omega) (fun _ => by omega) (Or.inr (Or.inr ⟨_, _, rfl⟩))
              · intro hq0
                simp only [pCP] at hq0
                rw [hI_int (a := an) (by omega)] at hq0
                have hq0 : ((an : Nat) : Int) = (0 : Int) := by omega
                refine ok_seq 1 (σ' := (99, [(5, .int (nI 0)), (1, .int (nI an)), (4, .int (nI 0)), (3, .int (nI m)), (2, .int (nI o)), (0, .ref 185)], [.int (nI 0)], gSh, M3)) rfl ?_
                refine ok_if 106 rfl rfl ?_ ?_
                · intro hb0
                  simp only [pCP] at hb0
                  rw [hI_int (a := 0) (by omega)] at hb0
                  have hb0 : ((0 : Nat) : Int) = (0 : Int) := by omega
                  refine ok_seq 3 (σ' := (109, [(3, .int (Int32.ofInt 0)), (5, .int (nI 0)), (1, .int (nI an)), (4, .int (nI 0)), (2, .int (nI o)), (0, .ref 185)], [.int (Int32.ofInt 0)], gSh, M3)) rfl ?_
                  rw [cI_0]
                  refine ok_if 116 rfl rfl (fun _ => ?_) (fun hz => absurd (by simp only [pCP]; rw [hI_int (a := 0) (by omega)]; omega) hz)
                  refine ok_seq 2 (σ' := (7, [(3, .int (nI 0)), (5, .int (nI 0)), (1, .int (nI an)), (4, .int (nI 0)), (2, .int (nI o)), (0, .ref 185)], [.int (nI 0)], gSh, M3)) rfl ?_
                  refine ok_if 119 rfl rfl (fun _ => ?_) (fun hz => absurd (by simp only [pCP]; rw [hI_int (a := 0) (by omega)]; omega) hz)
                  refine ok_seq 1 (σ' := (120, [(3, .int (nI 0)), (5, .int (nI 0)), (1, .int (nI an)), (4, .int (nI 0)), (2, .int (nI o)), (0, .ref 185)], [.int (Int32.ofInt 0)], gSh, M3)) rfl ?_
                  rw [cI_0]
                  exact ok_ret (i := .ireturn) (len := 1) rfl rfl ⟨some (.int (nI 0)), rfl, rfl, Or.inl ⟨rfl, (w2 + 1), c2, (D'.1, D'.2 - 1), hq3, hC3, by omega, by omega⟩⟩
                · intro hb0
                  simp only [pCP] at hb0
                  rw [hI_int (a := 0) (by omega)] at hb0
                  have hb0 : ((0 : Nat) : Int) ≠ (0 : Int) := by omega
                  refine ok_seq 4 (σ' := (109, [(3, .int (Int32.ofInt 1)), (5, .int (nI 0)), (1, .int (nI an)), (4, .int (nI 0)), (2, .int (nI o)), (0, .ref 185)], [.int (Int32.ofInt 1)], gSh, M3)) rfl ?_
                  rw [cI_1]
                  refine ok_if 116 rfl rfl (fun hz => absurd hz (by simp only [pCP]; rw [hI_int (a := 1) (by omega)]; omega)) (fun _ => ?_)
                  refine ok_seq 1 (σ' := (113, [(3, .int (nI 1)), (5, .int (nI 0)), (1, .int (nI an)), (4, .int (nI 0)), (2, .int (nI o)), (0, .ref 185)], [.ref 185], gSh, M3)) rfl ?_
                  have ht : tok.toInt ≠ 0 := by first | exact z3 (by omega) | omega
                  refine ok_call (mi := 180) (as := [.ref 185]) (pc' := 116) (L' := [(3, .int (nI 1)), (5, .int (nI 0)), (1, .int (nI an)), (4, .int (nI 0)), (2, .int (nI o)), (0, .ref 185)]) (st' := []) (sh' := gSh) (M' := M3) (i := .invokevirtual 189) (len := 3) rfl rfl ?_
                  refine (((c_nextQ (d := 0) hT hq3.1.1.1 hC3 h12 ht).deep (by omega))).mono ?_
                  rintro v2 ⟨sh2, M8⟩ ⟨rfl, hsh, ⟨a8, hN8⟩, hC8⟩
                  have hsh : sh2 = gSh := hsh
                  subst hsh
                  dsimp only at hN8 hC8
                  refine ok_seq 1 (σ' := (6, [(3, .int (nI 1)), (5, .int (nI 0)), (1, .int (nI an)), (4, .int (nI 0)), (2, .int (nI o)), (0, .ref 185)], [], gSh, M8)) rfl ?_
                  have hlt := PC.le hC3 h12 ht
                  exact ih (300 - (c2 + 1)) (by omega) (c2 + 1) an o 1 (w2 + 1) (D'.1, D'.2 - 1) M8 _ rfl (by omega) (by omega) (by omega) (by decide) (hq3.next hN8) hC8 (fun _ => by first | omega | (show _ ≤ ((D'.1, D'.2 - 1)).2; omega)) (fun hz => by omega) (fun _ => by omega) (Or.inr (Or.inr ⟨_, _, rfl⟩))
            · intro hn0
              simp only [pCP] at hn0
              rw [hI_int (a := an) (by omega)] at hn0
              have hn0 : ((an : Nat) : Int) = (0 : Int) := by omega
              refine ok_seq 1 (σ' := (80, [(5, .int (nI 0)), (1, .int (nI an)), (4, .int (nI 0)), (3, .int (nI m)), (2, .int (nI o)), (0, .ref 185)], [.int (nI o)], gSh, M3)) rfl ?_
              refine ok_if 90 rfl rfl ?_ ?_
              · intro ho0
                simp only [pCP] at ho0
                rw [hI_int (a := o) (by omega)] at ho0
                have ho0 : ((o : Nat) : Int) = (0 : Int) := by omega
                refine ok_seq 3 (σ' := (94, [(2, .int (nI 0)), (5, .int (nI 0)), (1, .int (nI an)), (4, .int (nI 0)), (3, .int (nI m)), (0, .ref 185)], [.int (nI an)], gSh, M3)) rfl ?_
                refine ok_if 102 rfl rfl ?_ ?_
                · intro hq0
                  simp only [pCP] at hq0
                  rw [hI_int (a := an) (by omega)] at hq0
                  have hq0 : ((an : Nat) : Int) ≠ (0 : Int) := by omega
                  refine ok_seq 4 (σ' := (109, [(3, .int (Int32.ofInt 1)), (2, .int (nI 0)), (5, .int (nI 0)), (1, .int (nI an)), (4, .int (nI 0)), (0, .ref 185)], [.int (Int32.ofInt 1)], gSh, M3)) rfl ?_
                  rw [cI_1]
                  refine ok_if 116 rfl rfl (fun hz => absurd hz (by simp only [pCP]; rw [hI_int (a := 1) (by omega)]; omega)) (fun _ => ?_)
                  refine ok_seq 1 (σ' := (113, [(3, .int (nI 1)), (2, .int (nI 0)), (5, .int (nI 0)), (1, .int (nI an)), (4, .int (nI 0)), (0, .ref 185)], [.ref 185], gSh, M3)) rfl ?_
                  have ht : tok.toInt ≠ 0 := by first | exact z3 (by omega) | omega
                  refine ok_call (mi := 180) (as := [.ref 185]) (pc' := 116) (L' := [(3, .int (nI 1)), (2, .int (nI 0)), (5, .int (nI 0)), (1, .int (nI an)), (4, .int (nI 0)), (0, .ref 185)]) (st' := []) (sh' := gSh) (M' := M3) (i := .invokevirtual 189) (len := 3) rfl rfl ?_
                  refine (((c_nextQ (d := 0) hT hq3.1.1.1 hC3 h12 ht).deep (by omega))).mono ?_
                  rintro v2 ⟨sh2, M8⟩ ⟨rfl, hsh, ⟨a8, hN8⟩, hC8⟩
                  have hsh : sh2 = gSh := hsh
                  subst hsh
                  dsimp only at hN8 hC8
                  refine ok_seq 1 (σ' := (6, [(3, .int (nI 1)), (2, .int (nI 0)), (5, .int (nI 0)), (1, .int (nI an)), (4, .int (nI 0)), (0, .ref 185)], [], gSh, M8)) rfl ?_
                  have hlt := PC.le hC3 h12 ht
                  exact ih (300 - (c2 + 1)) (by omega) (c2 + 1) an 0 1 (w2 + 1) (D'.1, D'.2 - 1) M8 _ rfl (by omega) (by omega) (by omega) (by decide) (hq3.next hN8) hC8 (fun _ => by first | omega | (show _ ≤ ((D'.1, D'.2 - 1)).2; omega)) (fun hz => by omega) (fun _ => by omega) (Or.inr (Or.inl ⟨_, _, rfl⟩))
                · intro hq0
                  simp only [pCP] at hq0
                  rw [hI_int (a := an) (by omega)] at hq0
                  have hq0 : ((an : Nat) : Int) = (0 : Int) := by omega
                  refine ok_seq 1 (σ' := (99, [(2, .int (nI 0)), (5, .int (nI 0)), (1, .int (nI an)), (4, .int (nI 0)), (3, .int (nI m)), (0, .ref 185)], [.int (nI 0)], gSh, M3)) rfl ?_
                  refine ok_if 106 rfl rfl ?_ ?_
                  · intro hb0
                    simp only [pCP] at hb0
                    rw [hI_int (a := 0) (by omega)] at hb0
                    have hb0 : ((0 : Nat) : Int) = (0 : Int) := by omega
                    refine ok_seq 3 (σ' := (109, [(3, .int (Int32.ofInt 0)), (2, .int (nI 0)), (5, .int (nI 0)), (1, .int (nI an)), (4, .int (nI 0)), (0, .ref 185)], [.int (Int32.ofInt 0)], gSh, M3)) rfl ?_
                    rw [cI_0]
                    refine ok_if 116 rfl rfl (fun _ => ?_) (fun hz => absurd (by simp only [pCP]; rw [hI_int (a := 0) (by omega)]; omega) hz)
                    refine ok_seq 2 (σ' := (7, [(3, .int (nI 0)), (2, .int (nI 0)), (5, .int (nI 0)), (1, .int (nI an)), (4, .int (nI 0)), (0, .ref 185)], [.int (nI 0)], gSh, M3)) rfl ?_
                    refine ok_if 119 rfl rfl (fun _ => ?_) (fun hz => absurd (by simp only [pCP]; rw [hI_int (a := 0) (by omega)]; omega) hz)
                    refine ok_seq 1 (σ' := (120, [(3, .int (nI 0)), (2, .int (nI 0)), (5, .int (nI 0)), (1, .int (nI an)), (4, .int (nI 0)), (0, .ref 185)], [.int (Int32.ofInt 0)], gSh, M3)) rfl ?_
                    rw [cI_0]
                    exact ok_ret (i := .ireturn) (len := 1) rfl rfl ⟨some (.int (nI 0)), rfl, rfl, Or.inl ⟨rfl, (w2 + 1), c2, (D'.1, D'.2 - 1), hq3, hC3, by omega, by omega⟩⟩
                  · intro hb0
                    simp only [pCP] at hb0
                    rw [hI_int (a := 0) (by omega)] at hb0
                    have hb0 : ((0 : Nat) : Int) ≠ (0 : Int) := by omega
                    refine ok_seq 4 (σ' := (109, [(3, .int (Int32.ofInt 1)), (2, .int (nI 0)), (5, .int (nI 0)), (1, .int (nI an)), (4, .int (nI 0)), (0, .ref 185)], [.int (Int32.ofInt 1)], gSh, M3)) rfl ?_
                    rw [cI_1]
                    refine ok_if 116 rfl rfl (fun hz => absurd hz (by simp only [pCP]; rw [hI_int (a := 1) (by omega)]; omega)) (fun _ => ?_)
                    refine ok_seq 1 (σ' := (113, [(3, .int (nI 1)), (2, .int (nI 0)), (5, .int (nI 0)), (1, .int (nI an)), (4, .int (nI 0)), (0, .ref 185)], [.ref 185], gSh, M3)) rfl ?_
                    have ht : tok.toInt ≠ 0 := by first | exact z3 (by omega) | omega
                    refine ok_call (mi := 180) (as := [.ref 185]) (pc' := 116) (L' := [(3, .int (nI 1)), (2, .int (nI 0)), (5, .int (nI 0)), (1, .int (nI an)), (4, .int (nI 0)), (0, .ref 185)]) (st' := []) (sh' := gSh) (M' := M3) (i := .invokevirtual 189) (len := 3) rfl rfl ?_
                    refine (((c_nextQ (d := 0) hT hq3.1.1.1 hC3 h12 ht).deep (by omega))).mono ?_
                    rintro v2 ⟨sh2, M8⟩ ⟨rfl, hsh, ⟨a8, hN8⟩, hC8⟩
                    have hsh : sh2 = gSh := hsh
                    subst hsh
                    dsimp only at hN8 hC8
                    refine ok_seq 1 (σ' := (6, [(3, .int (nI 1)), (2, .int (nI 0)), (5, .int (nI 0)), (1, .int (nI an)), (4, .int (nI 0)), (0, .ref 185)], [], gSh, M8)) rfl ?_
                    have hlt := PC.le hC3 h12 ht
                    exact ih (300 - (c2 + 1)) (by omega) (c2 + 1) an 0 1 (w2 + 1) (D'.1, D'.2 - 1) M8 _ rfl (by omega) (by omega) (by omega) (by decide) (hq3.next hN8) hC8 (fun _ => by first | omega | (show _ ≤ ((D'.1, D'.2 - 1)).2; omega)) (fun hz => by omega) (fun _ => by omega) (Or.inr (Or.inl ⟨_, _, rfl⟩))
              · intro ho0
                simp only [pCP] at ho0
                rw [hI_int (a := o) (by omega)] at ho0
                have ho0 : ((o : Nat) : Int) ≠ (0 : Int) := by omega
                refine ok_seq 3 (σ' := (87, [(5, .int (nI 0)), (1, .int (nI an)), (4, .int (nI 0)), (3, .int (nI m)), (2, .int (nI o)), (0, .ref 185)], [.int (Int32.ofInt 0), .int ((Int8.ofInt 22).toInt32), .ref 185], gSh, M3)) rfl ?_
                rw [(show (Int8.ofInt 22).toInt32 = nI 22 by decide), cI_0]
                refine ok_call (mi := 186) (as := [.ref 185, .int (nI 22), .int (nI 0)]) (pc' := 90) (L' := [(5, .int (nI 0)), (1, .int (nI an)), (4, .int (nI 0)), (3, .int (nI m)), (2, .int (nI o)), (0, .ref 185)]) (st' := []) (sh' := gSh) (M' := M3) (i := .invokevirtual 170) (len := 3) rfl rfl ?_
                refine ((c_emit0 (d := d + dN + 6) hT hq3 (D' := ((D'.1, D'.2 - 1).1, (D'.1, D'.2 - 1).2 - 1)) (o := nI 22) (v := nI 0) (Or.inr (Or.inr (Or.inr (Or.inr (Or.inr (Or.inr ⟨by decide, by decide, by omega, rfl⟩)))))) (by omega))).mono ?_
                rintro v ⟨sh2, M7⟩ ⟨rfl, hsh, hq7, hf7⟩
                have hsh : sh2 = gSh := hsh
                subst hsh
                dsimp only at hq7 hf7
                refine ok_seq 3 (σ' := (94, [(2, .int (nI 0)), (5, .int (nI 0)), (1, .int (nI an)), (4, .int (nI 0)), (3, .int (nI m)), (0, .ref 185)], [.int (nI an)], gSh, M7)) rfl ?_
                refine ok_if 102 rfl rfl ?_ ?_
                · intro hq0
                  simp only [pCP] at hq0
                  rw [hI_int (a := an) (by omega)] at hq0
                  have hq0 : ((an : Nat) : Int) ≠ (0 : Int) := by omega
                  refine ok_seq 4 (σ' := (109, [(3, .int (Int32.ofInt 1)), (2, .int (nI 0)), (5, .int (nI 0)), (1, .int (nI an)), (4, .int (nI 0)), (0, .ref 185)], [.int (Int32.ofInt 1)], gSh, M7)) rfl ?_
                  rw [cI_1]
                  refine ok_if 116 rfl rfl (fun hz => absurd hz (by simp only [pCP]; rw [hI_int (a := 1) (by omega)]; omega)) (fun _ => ?_)
                  refine ok_seq 1 (σ' := (113, [(3, .int (nI 1)), (2, .int (nI 0)), (5, .int (nI 0)), (1, .int (nI an)), (4, .int (nI 0)), (0, .ref 185)], [.ref 185], gSh, M7)) rfl ?_
                  have ht : tok.toInt ≠ 0 := by first | exact z3 (by omega) | omega
                  refine ok_call (mi := 180) (as := [.ref 185]) (pc' := 116) (L' := [(3, .int (nI 1)), (2, .int (nI 0)), (5, .int (nI 0)), (1, .int (nI an)), (4, .int (nI 0)), (0, .ref 185)]) (st' := []) (sh' := gSh) (M' := M7) (i := .invokevirtual 189) (len := 3) rfl rfl ?_
                  refine (((c_nextQ (d := 0) hT hq7.1.1.1 (PC.keep hC3 (hf7.at 10 (by decide)) (hf7.at 12 (by decide))) (by rw [hf7.at 12 (by decide)]; exact h12) ht).deep (by omega))).mono ?_
                  rintro v2 ⟨sh2, M8⟩ ⟨rfl, hsh, ⟨a8, hN8⟩, hC8⟩
                  have hsh : sh2 = gSh := hsh
                  subst hsh
                  dsimp only at hN8 hC8
                  refine ok_seq 1 (σ' := (6, [(3, .int (nI 1)), (2, .int (nI 0)), (5, .int (nI 0)), (1, .int (nI an)), (4, .int (nI 0)), (0, .ref 185)], [], gSh, M8)) rfl ?_
                  have hlt := PC.le (PC.keep hC3 (hf7.at 10 (by decide)) (hf7.at 12 (by decide))) (by rw [hf7.at 12 (by decide)]; exact h12) ht
                  exact ih (300 - (c2 + 1)) (by omega) (c2 + 1) an 0 1 ((w2 + 1) + 1) ((D'.1, D'.2 - 1).1, (D'.1, D'.2 - 1).2 - 1) M8 _ rfl (by omega) (by omega) (by omega) (by decide) (hq7.next hN8) hC8 (fun _ => by first | omega | (show _ ≤ (((D'.1, D'.2 - 1).1, (D'.1, D'.2 - 1).2 - 1)).2; omega)) (fun hz => by omega) (fun _ => by omega) (Or.inr (Or.inl ⟨_, _, rfl⟩))
                · intro hq0
                  simp only [pCP] at hq0
                  rw [hI_int (a := an) (by omega)] at hq0
                  have hq0 : ((an : Nat) : Int) = (0 : Int) := by omega
                  refine ok_seq 1 (σ' := (99, [(2, .int (nI 0)), (5, .int (nI 0)), (1, .int (nI an)), (4, .int (nI 0)), (3, .int (nI m)), (0, .ref 185)], [.int (nI 0)], gSh, M7)) rfl ?_
                  refine ok_if 106 rfl rfl ?_ ?_
                  · intro hb0
                    simp only [pCP] at hb0
                    rw [hI_int (a := 0) (by omega)] at hb0
                    have hb0 : ((0 : Nat) : Int) = (0 : Int) := by omega
                    refine ok_seq 3 (σ' := (109, [(3, .int (Int32.ofInt 0)), (2, .int (nI 0)), (5, .int (nI 0)), (1, .int (nI an)), (4, .int (nI 0)), (0, .ref 185)], [.int (Int32.ofInt 0)], gSh, M7)) rfl ?_
                    rw [cI_0]
                    refine ok_if 116 rfl rfl (fun _ => ?_) (fun hz => absurd (by simp only [pCP]; rw [hI_int (a := 0) (by omega)]; omega) hz)
                    refine ok_seq 2 (σ' := (7, [(3, .int (nI 0)), (2, .int (nI 0)), (5, .int (nI 0)), (1, .int (nI an)), (4, .int (nI 0)), (0, .ref 185)], [.int (nI 0)], gSh, M7)) rfl ?_
                    refine ok_if 119 rfl rfl (fun _ => ?_) (fun hz => absurd (by simp only [pCP]; rw [hI_int (a := 0) (by omega)]; omega) hz)
                    refine ok_seq 1 (σ' := (120, [(3, .int (nI 0)), (2, .int (nI 0)), (5, .int (nI 0)), (1, .int (nI an)), (4, .int (nI 0)), (0, .ref 185)], [.int (Int32.ofInt 0)], gSh, M7)) rfl ?_
                    rw [cI_0]
                    exact ok_ret (i := .ireturn) (len := 1) rfl rfl ⟨some (.int (nI 0)), rfl, rfl, Or.inl ⟨rfl, ((w2 + 1) + 1), c2, ((D'.1, D'.2 - 1).1, (D'.1, D'.2 - 1).2 - 1), hq7, (PC.keep hC3 (hf7.at 10 (by decide)) (hf7.at 12 (by decide))), by omega, by omega⟩⟩
                  · intro hb0
                    simp only [pCP] at hb0
                    rw [hI_int (a := 0) (by omega)] at hb0
                    have hb0 : ((0 : Nat) : Int) ≠ (0 : Int) := by omega
                    refine ok_seq 4 (σ' := (109, [(3, .int (Int32.ofInt 1)), (2, .int (nI 0)), (5, .int (nI 0)), (1, .int (nI an)), (4, .int (nI 0)), (0, .ref 185)], [.int (Int32.ofInt 1)], gSh, M7)) rfl ?_
                    rw [cI_1]
                    refine ok_if 116 rfl rfl (fun hz => absurd hz (by simp only [pCP]; rw [hI_int (a := 1) (by omega)]; omega)) (fun _ => ?_)
                    refine ok_seq 1 (σ' := (113, [(3, .int (nI 1)), (2, .int (nI 0)), (5, .int (nI 0)), (1, .int (nI an)), (4, .int (nI 0)), (0, .ref 185)], [.ref 185], gSh, M7)) rfl ?_
                    have ht : tok.toInt ≠ 0 := by first | exact z3 (by omega) | omega
                    refine ok_call (mi := 180) (as := [.ref 185]) (pc' := 116) (L' := [(3, .int (nI 1)), (2, .int (nI 0)), (5, .int (nI 0)), (1, .int (nI an)), (4, .int (nI 0)), (0, .ref 185)]) (st' := []) (sh' := gSh) (M' := M7) (i := .invokevirtual 189) (len := 3) rfl rfl ?_
                    refine (((c_nextQ (d := 0) hT hq7.1.1.1 (PC.keep hC3 (hf7.at 10 (by decide)) (hf7.at 12 (by decide))) (by rw [hf7.at 12 (by decide)]; exact h12) ht).deep (by omega))).mono ?_
                    rintro v2 ⟨sh2, M8⟩ ⟨rfl, hsh, ⟨a8, hN8⟩, hC8⟩
                    have hsh : sh2 = gSh := hsh
                    subst hsh
                    dsimp only at hN8 hC8
                    refine ok_seq 1 (σ' := (6, [(3, .int (nI 1)), (2, .int (nI 0)), (5, .int (nI 0)), (1, .int (nI an)), (4, .int (nI 0)), (0, .ref 185)], [], gSh, M8)) rfl ?_
                    have hlt := PC.le (PC.keep hC3 (hf7.at 10 (by decide)) (hf7.at 12 (by decide))) (by rw [hf7.at 12 (by decide)]; exact h12) ht
                    exact ih (300 - (c2 + 1)) (by omega) (c2 + 1) an 0 1 ((w2 + 1) + 1) ((D'.1, D'.2 - 1).1, (D'.1, D'.2 - 1).2 - 1) M8 _ rfl (by omega) (by omega) (by omega) (by decide) (hq7.next hN8) hC8 (fun _ => by first | omega | (show _ ≤ (((D'.1, D'.2 - 1).1, (D'.1, D'.2 - 1).2 - 1)).2; omega)) (fun hz => by omega) (fun _ => by omega) (Or.inr (Or.inl ⟨_, _, rfl⟩))
          · intro h2
            simp only [pCP] at h2
            rw [hI_int (a := 2) (by omega)] at h2
            have h2 : (tok).toInt = ((2 : Nat) : Int) := by omega
            refine ok_seq 2 (σ' := (61, [(1, .int (nI an)), (4, .int (nI 0)), (3, .int (nI m)), (5, .int y5), (2, .int (nI o)), (0, .ref 185)], [M3 185 14], gSh, M3)) rfl ?_
            rw [h14]
            refine ok_seq 2 (σ' := (65, [(1, .int (nI an)), (4, .int (nI 0)), (3, .int (nI m)), (5, .int y5), (2, .int (nI o)), (0, .ref 185)], [.int (lg_cmp wd ((28530 : Int64)))], gSh, M3)) rfl ?_
            refine ok_if 72 rfl rfl ?_ ?_
            · intro hw
              simp only [pCP] at hw
              have hw : (lg_cmp wd ((28530 : Int64))).toInt ≠ (0 : Int) := by omega
              refine ok_seq 3 (σ' := (76, [(5, .int (Int32.ofInt 0)), (1, .int (nI an)), (4, .int (nI 0)), (3, .int (nI m)), (2, .int (nI o)), (0, .ref 185)], [.int (nI an)], gSh, M3)) rfl ?_
              rw [cI_0]
              refine ok_if 93 rfl rfl ?_ ?_
              · intro hn0
                simp only [pCP] at hn0
                rw [hI_int (a := an) (by omega)] at hn0
                have hn0 : ((an : Nat) : Int) ≠ (0 : Int) := by omega
                refine ok_seq 1 (σ' := (94, [(5, .int (nI 0)), (1, .int (nI an)), (4, .int (nI 0)), (3, .int (nI m)), (2, .int (nI o)), (0, .ref 185)], [.int (nI an)], gSh, M3)) rfl ?_
                refine ok_if 102 rfl rfl ?_ ?_
                · intro hq0
                  simp only [pCP] at hq0
                  rw [hI_int (a := an) (by omega)] at hq0
                  have hq0 : ((an : Nat) : Int) ≠ (0 : Int) := by omega
                  refine ok_seq 4 (σ' := (109, [(3, .int (Int32.ofInt 1)), (5, .int (nI 0)), (1, .int (nI an)), (4, .int (nI 0)), (2, .int (nI o)), (0, .ref 185)], [.int (Int32.ofInt 1)], gSh, M3)) rfl ?_
                  rw [cI_1]
                  refine ok_if 116 rfl rfl (fun hz => absurd hz (by simp only [pCP]; rw [hI_int (a := 1) (by omega)]; omega)) (fun _ => ?_)
                  refine ok_seq 1 (σ' := (113, [(3, .int (nI 1)), (5, .int (nI 0)), (1, .int (nI an)), (4, .int (nI 0)), (2, .int (nI o)), (0, .ref 185)], [.ref 185], gSh, M3)) rfl ?_
                  have ht : tok.toInt ≠ 0 := by first | exact z3 (by omega) | omega
                  refine ok_call (mi := 180) (as := [.ref 185]) (pc' := 116) (L' := [(3, .int (nI 1)), (5, .int (nI 0)), (1, .int (nI an)), (4, .int (nI 0)), (2, .int (nI o)), (0, .ref 185)]) (st' := []) (sh' := gSh) (M' := M3) (i := .invokevirtual 189) (len := 3) rfl rfl ?_
                  refine (((c_nextQ (d := 0) hT hq3.1.1.1 hC3 h12 ht).deep (by omega))).mono ?_
                  rintro v2 ⟨sh2, M8⟩ ⟨rfl, hsh, ⟨a8, hN8⟩, hC8⟩
                  have hsh : sh2 = gSh := hsh
                  subst hsh
                  dsimp only at hN8 hC8
                  refine ok_seq 1 (σ' := (6, [(3, .int (nI 1)), (5, .int (nI 0)), (1, .int (nI an)), (4, .int (nI 0)), (2, .int (nI o)), (0, .ref 185)], [], gSh, M8)) rfl ?_
                  have hlt := PC.le hC3 h12 ht
                  exact ih (300 - (c2 + 1)) (by omega) (c2 + 1) an o 1 (w2 + 1) (D'.1, D'.2 - 1) M8 _ rfl (by omega) (by omega) (by omega) (by decide) (hq3.next hN8) hC8 (fun _ => by first | omega | (show _ ≤ ((D'.1, D'.2 - 1)).2; omega)) (fun hz => by omega) (fun _ => by omega) (Or.inr (Or.inr ⟨_, _, rfl⟩))
                · intro hq0
                  simp only [pCP] at hq0
                  rw [hI_int (a := an) (by omega)] at hq0
                  have hq0 : ((an : Nat) : Int) = (0 : Int) := by omega
                  refine ok_seq 1 (σ' := (99, [(5, .int (nI 0)), (1, .int (nI an)), (4, .int (nI 0)), (3, .int (nI m)), (2, .int (nI o)), (0, .ref 185)], [.int (nI 0)], gSh, M3)) rfl ?_
                  refine ok_if 106 rfl rfl ?_ ?_
                  · intro hb0
                    simp only [pCP] at hb0
                    rw [hI_int (a := 0) (by omega)] at hb0
                    have hb0 : ((0 : Nat) : Int) = (0 : Int) := by omega
                    refine ok_seq 3 (σ' := (109, [(3, .int (Int32.ofInt 0)), (5, .int (nI 0)), (1, .int (nI an)), (4, .int (nI 0)), (2, .int (nI o)), (0, .ref 185)], [.int (Int32.ofInt 0)], gSh, M3)) rfl ?_
                    rw [cI_0]
                    refine ok_if 116 rfl rfl (fun _ => ?_) (fun hz => absurd (by simp only [pCP]; rw [hI_int (a := 0) (by omega)]; omega) hz)
                    refine ok_seq 2 (σ' := (7, [(3, .int (nI 0)), (5, .int (nI 0)), (1, .int (nI an)), (4, .int (nI 0)), (2, .int (nI o)), (0, .ref 185)], [.int (nI 0)], gSh, M3)) rfl ?_
                    refine ok_if 119 rfl rfl (fun _ => ?_) (fun hz => absurd (by simp only [pCP]; rw [hI_int (a := 0) (by omega)]; omega) hz)
                    refine ok_seq 1 (σ' := (120, [(3, .int (nI 0)), (5, .int (nI 0)), (1, .int (nI an)), (4, .int (nI 0)), (2, .int (nI o)), (0, .ref 185)], [.int (Int32.ofInt 0)], gSh, M3)) rfl ?_
                    rw [cI_0]
                    exact ok_ret (i := .ireturn) (len := 1) rfl rfl ⟨some (.int (nI 0)), rfl, rfl, Or.inl ⟨rfl, (w2 + 1), c2, (D'.1, D'.2 - 1), hq3, hC3, by omega, by omega⟩⟩
                  · intro hb0
                    simp only [pCP] at hb0
                    rw [hI_int (a := 0) (by omega)] at hb0
                    have hb0 : ((0 : Nat) : Int) ≠ (0 : Int) := by omega
                    refine ok_seq 4 (σ' := (109, [(3, .int (Int32.ofInt 1)), (5, .int (nI 0)), (1, .int (nI an)), (4, .int (nI 0)), (2, .int (nI o)), (0, .ref 185)], [.int (Int32.ofInt 1)], gSh, M3)) rfl ?_
                    rw [cI_1]
                    refine ok_if 116 rfl rfl (fun hz => absurd hz (by simp only [pCP]; rw [hI_int (a := 1) (by omega)]; omega)) (fun _ => ?_)
                    refine ok_seq 1 (σ' := (113, [(3, .int (nI 1)), (5, .int (nI 0)), (1, .int (nI an)), (4, .int (nI 0)), (2, .int (nI o)), (0, .ref 185)], [.ref 185], gSh, M3)) rfl ?_
                    have ht : tok.toInt ≠ 0 := by first | exact z3 (by omega) | omega
                    refine ok_call (mi := 180) (as := [.ref 185]) (pc' := 116) (L' := [(3, .int (nI 1)), (5, .int (nI 0)), (1, .int (nI an)), (4, .int (nI 0)), (2, .int (nI o)), (0, .ref 185)]) (st' := []) (sh' := gSh) (M' := M3) (i := .invokevirtual 189) (len := 3) rfl rfl ?_
                    refine (((c_nextQ (d := 0) hT hq3.1.1.1 hC3 h12 ht).deep (by omega))).mono ?_
                    rintro v2 ⟨sh2, M8⟩ ⟨rfl, hsh, ⟨a8, hN8⟩, hC8⟩
                    have hsh : sh2 = gSh := hsh
                    subst hsh
                    dsimp only at hN8 hC8
                    refine ok_seq 1 (σ' := (6, [(3, .int (nI 1)), (5, .int (nI 0)), (1, .int (nI an)), (4, .int (nI 0)), (2, .int (nI o)), (0, .ref 185)], [], gSh, M8)) rfl ?_
                    have hlt := PC.le hC3 h12 ht
                    exact ih (300 - (c2 + 1)) (by omega) (c2 + 1) an o 1 (w2 + 1) (D'.1, D'.2 - 1) M8 _ rfl (by omega) (by omega) (by omega) (by decide) (hq3.next hN8) hC8 (fun _ => by first | omega | (show _ ≤ ((D'.1, D'.2 - 1)).2; omega)) (fun hz => by omega) (fun _ => by omega) (Or.inr (Or.inr ⟨_, _, rfl⟩))
              · intro hn0
                simp only [pCP] at hn0
                rw [hI_int (a := an) (by omega)] at hn0
                have hn0 : ((an : Nat) : Int) = (0 : Int) := by omega
                refine ok_seq 1 (σ' := (80, [(5, .int (nI 0)), (1, .int (nI an)), (4, .int (nI 0)), (3, .int (nI m)), (2, .int (nI o)), (0, .ref 185)], [.int (nI o)], gSh, M3)) rfl ?_
                refine ok_if 90 rfl rfl ?_ ?_
                · intro ho0
                  simp only [pCP] at ho0
                  rw [hI_int (a := o) (by omega)] at ho0
                  have ho0 : ((o : Nat) : Int) = (0 : Int) := by omega
                  refine ok_seq 3 (σ' := (94, [(2, .int (nI 0)), (5, .int (nI 0)), (1, .int (nI an)), (4, .int (nI 0)), (3, .int (nI m)), (0, .ref 185)], [.int (nI an)], gSh, M3)) rfl ?_
                  refine ok_if 102 rfl rfl ?_ ?_
                  · intro hq0
                    simp only [pCP] at hq0
                    rw [hI_int (a := an) (by omega)] at hq0
                    have hq0 : ((an : Nat) : Int) ≠ (0 : Int) := by omega
                    refine ok_seq 4 (σ' := (109, [(3, .int (Int32.ofInt 1)), (2, .int (nI 0)), (5, .int (nI 0)), (1, .int (nI an)), (4, .int (nI 0)), (0, .ref 185)], [.int (Int32.ofInt 1)], gSh, M3)) rfl ?_
                    rw [cI_1]
                    refine ok_if 116 rfl rfl (fun hz => absurd hz (by simp only [pCP]; rw [hI_int (a := 1) (by omega)]; omega)) (fun _ => ?_)
                    refine ok_seq 1 (σ' := (113, [(3, .int (nI 1)), (2, .int (nI 0)), (5, .int (nI 0)), (1, .int (nI an)), (4, .int (nI 0)), (0, .ref 185)], [.ref 185], gSh, M3)) rfl ?_
                    have ht : tok.toInt ≠ 0 := by first | exact z3 (by omega) | omega
                    refine ok_call (mi := 180) (as := [.ref 185]) (pc' := 116) (L' := [(3, .int (nI 1)), (2, .int (nI 0)), (5, .int (nI 0)), (1, .int (nI an)), (4, .int (nI 0)), (0, .ref 185)]) (st' := []) (sh' := gSh) (M' := M3) (i := .invokevirtual 189) (len := 3) rfl rfl ?_
                    refine (((c_nextQ (d := 0) hT hq3.1.1.1 hC3 h12 ht).deep (by omega))).mono ?_
                    rintro v2 ⟨sh2, M8⟩ ⟨rfl, hsh, ⟨a8, hN8⟩, hC8⟩
                    have hsh : sh2 = gSh := hsh
                    subst hsh
                    dsimp only at hN8 hC8
                    refine ok_seq 1 (σ' := (6, [(3, .int (nI 1)), (2, .int (nI 0)), (5, .int (nI 0)), (1, .int (nI an)), (4, .int (nI 0)), (0, .ref 185)], [], gSh, M8)) rfl ?_
                    have hlt := PC.le hC3 h12 ht
                    exact ih (300 - (c2 + 1)) (by omega) (c2 + 1) an 0 1 (w2 + 1) (D'.1, D'.2 - 1) M8 _ rfl (by omega) (by omega) (by omega) (by decide) (hq3.next hN8) hC8 (fun _ => by first | omega | (show _ ≤ ((D'.1, D'.2 - 1)).2; omega)) (fun hz => by omega) (fun _ => by omega) (Or.inr (Or.inl ⟨_, _, rfl⟩))
                  · intro hq0
                    simp only [pCP] at hq0
                    rw [hI_int (a := an) (by omega)] at hq0
                    have hq0 : ((an : Nat) : Int) = (0 : Int) := by omega
                    refine ok_seq 1 (σ' := (99, [(2, .int (nI 0)), (5, .int (nI 0)), (1, .int (nI an)), (4, .int (nI 0)), (3, .int (nI m)), (0, .ref 185)], [.int (nI 0)], gSh, M3)) rfl ?_
                    refine ok_if 106 rfl rfl ?_ ?_
                    · intro hb0
                      simp only [pCP] at hb0
                      rw [hI_int (a := 0) (by omega)] at hb0
                      have hb0 : ((0 : Nat) : Int) = (0 : Int) := by omega
                      refine ok_seq 3 (σ' := (109, [(3, .int (Int32.ofInt 0)), (2, .int (nI 0)), (5, .int (nI 0)), (1, .int (nI an)), (4, .int (nI 0)), (0, .ref 185)], [.int (Int32.ofInt 0)], gSh, M3)) rfl ?_
                      rw [cI_0]
                      refine ok_if 116 rfl rfl (fun _ => ?_) (fun hz => absurd (by simp only [pCP]; rw [hI_int (a := 0) (by omega)]; omega) hz)
                      refine ok_seq 2 (σ' := (7, [(3, .int (nI 0)), (2, .int (nI 0)), (5, .int (nI 0)), (1, .int (nI an)), (4, .int (nI 0)), (0, .ref 185)], [.int (nI 0)], gSh, M3)) rfl ?_
                      refine ok_if 119 rfl rfl (fun _ => ?_) (fun hz => absurd (by simp only [pCP]; rw [hI_int (a := 0) (by omega)]; omega) hz)
                      refine ok_seq 1 (σ' := (120, [(3, .int (nI 0)), (2, .int (nI 0)), (5, .int (nI 0)), (1, .int (nI an)), (4, .int (nI 0)), (0, .ref 185)], [.int (Int32.ofInt 0)], gSh, M3)) rfl ?_
                      rw [cI_0]
                      exact ok_ret (i := .ireturn) (len := 1) rfl rfl ⟨some (.int (nI 0)), rfl, rfl, Or.inl ⟨rfl, (w2 + 1), c2, (D'.1, D'.2 - 1), hq3, hC3, by omega, by omega⟩⟩
                    · intro hb0
                      simp only [pCP] at hb0
                      rw [hI_int (a := 0) (by omega)] at hb0
                      have hb0 : ((0 : Nat) : Int) ≠ (0 : Int) := by omega
                      refine ok_seq 4 (σ' := (109, [(3, .int (Int32.ofInt 1)), (2, .int (nI 0)), (5, .int (nI 0)), (1, .int (nI an)), (4, .int (nI 0)), (0, .ref 185)], [.int (Int32.ofInt 1)], gSh, M3)) rfl ?_
                      rw [cI_1]
                      refine ok_if 116 rfl rfl (fun hz => absurd hz (by simp only [pCP]; rw [hI_int (a := 1) (by omega)]; omega)) (fun _ => ?_)
                      refine ok_seq 1 (σ' := (113, [(3, .int (nI 1)), (2, .int (nI 0)), (5, .int (nI 0)), (1, .int (nI an)), (4, .int (nI 0)), (0, .ref 185)], [.ref 185], gSh, M3)) rfl ?_
                      have ht : tok.toInt ≠ 0 := by first | exact z3 (by omega) | omega
                      refine ok_call (mi := 180) (as := [.ref 185]) (pc' := 116) (L' := [(3, .int (nI 1)), (2, .int (nI 0)), (5, .int (nI 0)), (1, .int (nI an)), (4, .int (nI 0)), (0, .ref 185)]) (st' := []) (sh' := gSh) (M' := M3) (i := .invokevirtual 189) (len := 3) rfl rfl ?_
                      refine (((c_nextQ (d := 0) hT hq3.1.1.1 hC3 h12 ht).deep (by omega))).mono ?_
                      rintro v2 ⟨sh2, M8⟩ ⟨rfl, hsh, ⟨a8, hN8⟩, hC8⟩
                      have hsh : sh2 = gSh := hsh
                      subst hsh
                      dsimp only at hN8 hC8
                      refine ok_seq 1 (σ' := (6, [(3, .int (nI 1)), (2, .int (nI 0)), (5, .int (nI 0)), (1, .int (nI an)), (4, .int (nI 0)), (0, .ref 185)], [], gSh, M8)) rfl ?_
                      have hlt := PC.le hC3 h12 ht
                      exact ih (300 - (c2 + 1)) (by omega) (c2 + 1) an 0 1 (w2 + 1) (D'.1, D'.2 - 1) M8 _ rfl (by omega) (by omega) (by omega) (by decide) (hq3.next hN8) hC8 (fun _ => by first | omega | (show _ ≤ ((D'.1, D'.2 - 1)).2; omega)) (fun hz => by omega) (fun _ => by omega) (Or.inr (Or.inl ⟨_, _, rfl⟩))
                · intro ho0
                  simp only [pCP] at ho0
                  rw [hI_int (a := o) (by omega)] at ho0
                  have ho0 : ((o : Nat) : Int) ≠ (0 : Int) := by omega
                  refine ok_seq 3 (σ' := (87, [(5, .int (nI 0)), (1, .int (nI an)), (4, .int (nI 0)), (3, .int (nI m)), (2, .int (nI o)), (0, .ref 185)], [.int (Int32.ofInt 0), .int ((Int8.ofInt 22).toInt32), .ref 185], gSh, M3)) rfl ?_
                  rw [(show (Int8.ofInt 22).toInt32 = nI 22 by decide), cI_0]
                  refine ok_call (mi := 186) (as := [.ref 185, .int (nI 22), .int (nI 0)]) (pc' := 90) (L' := [(5, .int (nI 0)), (1, .int (nI an)), (4, .int (nI 0)), (3, .int (nI m)), (2, .int (nI o)), (0, .ref 185)]) (st' := []) (sh' := gSh) (M' := M3) (i := .invokevirtual 170) (len := 3) rfl rfl ?_
                  refine ((c_emit0 (d := d + dN + 6) hT hq3 (D' := ((D'.1, D'.2 - 1).1, (D'.1, D'.2 - 1).2 - 1)) (o := nI 22) (v := nI 0) (Or.inr (Or.inr (Or.inr (Or.inr (Or.inr (Or.inr ⟨by decide, by decide, by omega, rfl⟩)))))) (by omega))).mono ?_
                  rintro v ⟨sh2, M7⟩ ⟨rfl, hsh, hq7, hf7⟩
                  have hsh : sh2 = gSh := hsh
                  subst hsh
                  dsimp only at hq7 hf7
                  refine ok_seq 3 (σ' := (94, [(2, .int (nI 0)), (5, .int (nI 0)), (1, .int (nI an)), (4, .int (nI 0)), (3, .int (nI m)), (0, .ref 185)], [.int (nI an)], gSh, M7)) rfl ?_
                  refine ok_if 102 rfl rfl ?_ ?_
                  · intro hq0
                    simp only [pCP] at hq0
                    rw [hI_int (a := an) (by omega)] at hq0
                    have hq0 : ((an : Nat) : Int) ≠ (0 : Int) := by omega
                    refine ok_seq 4 (σ' := (109, [(3, .int (Int32.ofInt 1)), (2, .int (nI 0)), (5, .int (nI 0)), (1, .int (nI an)), (4, .int (nI 0)), (0, .ref 185)], [.int (Int32.ofInt 1)], gSh, M7)) rfl ?_
                    rw [cI_1]
                    refine ok_if 116 rfl rfl (fun hz => absurd hz (by simp only [pCP]; rw [hI_int (a := 1) (by omega)]; omega)) (fun _ => ?_)
                    refine ok_seq 1 (σ' := (113, [(3, .int (nI 1)), (2, .int (nI 0)), (5, .int (nI 0)), (1, .int (nI an)), (4, .int (nI 0)), (0, .ref 185)], [.ref 185], gSh, M7)) rfl ?_
                    have ht : tok.toInt ≠ 0 := by first | exact z3 (by omega) | omega
                    refine ok_call (mi := 180) (as := [.ref 185]) (pc' := 116) (L' := [(3, .int (nI 1)), (2, .int (nI 0)), (5, .int (nI 0)), (1, .int (nI an)), (4, .int (nI 0)), (0, .ref 185)]) (st' := []) (sh' := gSh) (M' := M7) (i := .invokevirtual 189) (len := 3) rfl rfl ?_
                    refine (((c_nextQ (d := 0) hT hq7.1.1.1 (PC.keep hC3 (hf7.at 10 (by decide)) (hf7.at 12 (by decide))) (by rw [hf7.at 12 (by decide)]; exact h12) ht).deep (by omega))).mono ?_
                    rintro v2 ⟨sh2, M8⟩ ⟨rfl, hsh, ⟨a8, hN8⟩, hC8⟩
                    have hsh : sh2 = gSh := hsh
                    subst hsh
                    dsimp only at hN8 hC8
                    refine ok_seq 1 (σ' := (6, [(3, .int (nI 1)), (2, .int (nI 0)), (5, .int (nI 0)), (1, .int (nI an)), (4, .int (nI 0)), (0, .ref 185)], [], gSh, M8)) rfl ?_
                    have hlt := PC.le (PC.keep hC3 (hf7.at 10 (by decide)) (hf7.at 12 (by decide))) (by rw [hf7.at 12 (by decide)]; exact h12) ht
                    exact ih (300 - (c2 + 1)) (by omega) (c2 + 1) an 0 1 ((w2 + 1) + 1) ((D'.1, D'.2 - 1).1, (D'.1, D'.2 - 1).2 - 1) M8 _ rfl (by omega) (by omega) (by omega) (by decide) (hq7.next hN8) hC8 (fun _ => by first | omega | (show _ ≤ (((D'.1, D'.2 - 1).1, (D'.1, D'.2 - 1).2 - 1)).2; omega)) (fun hz => by omega) (fun _ => by omega) (Or.inr (Or.inl ⟨_, _, rfl⟩))
                  · intro hq0
                    simp only [pCP] at hq0
                    rw [hI_int (a := an) (by omega)] at hq0
                    have hq0 : ((an : Nat) : Int) = (0 : Int) := by omega
                    refine ok_seq 1 (σ' := (99, [(2, .int (nI 0)), (5, .int (nI 0)), (1, .int (nI an)), (4, .int (nI 0)), (3, .int (nI m)), (0, .ref 185)], [.int (nI 0)], gSh, M7)) rfl ?_
                    refine ok_if 106 rfl rfl ?_ ?_
                    · intro hb0
                      simp only [pCP] at hb0
                      rw [hI_int (a := 0) (by omega)] at hb0
                      have hb0 : ((0 : Nat) : Int) = (0 : Int) := by omega
                      refine ok_seq 3 (σ' := (109, [(3, .int (Int32.ofInt 0)), (2, .int (nI 0)), (5, .int (nI 0)), (1, .int (nI an)), (4, .int (nI 0)), (0, .ref 185)], [.int (Int32.ofInt 0)], gSh, M7)) rfl ?_
                      rw [cI_0]
                      refine ok_if 116 rfl rfl (fun _ => ?_) (fun hz => absurd (by simp only [pCP]; rw [hI_int (a := 0) (by omega)]; omega) hz)
                      refine ok_seq 2 (σ' := (7, [(3, .int (nI 0)), (2, .int (nI 0)), (5, .int (nI 0)), (1, .int (nI an)), (4, .int (nI 0)), (0, .ref 185)], [.int (nI 0)], gSh, M7)) rfl ?_
                      refine ok_if 119 rfl rfl (fun _ => ?_) (fun hz => absurd (by simp only [pCP]; rw [hI_int (a := 0) (by omega)]; omega) hz)
                      refine ok_seq 1 (σ' := (120, [(3, .int (nI 0)), (2, .int (nI 0)), (5, .int (nI 0)), (1, .int (nI an)), (4, .int (nI 0)), (0, .ref 185)], [.int (Int32.ofInt 0)], gSh, M7)) rfl ?_
                      rw [cI_0]
                      exact ok_ret (i := .ireturn) (len := 1) rfl rfl ⟨some (.int (nI 0)), rfl, rfl, Or.inl ⟨rfl, ((w2 + 1) + 1), c2, ((D'.1, D'.2 - 1).1, (D'.1, D'.2 - 1).2 - 1), hq7, (PC.keep hC3 (hf7.at 10 (by decide)) (hf7.at 12 (by decide))), by omega, by omega⟩⟩
                    · intro hb0
                      simp only [pCP] at hb0
                      rw [hI_int (a := 0) (by omega)] at hb0
                      have hb0 : ((0 : Nat) : Int) ≠ (0 : Int) := by omega
                      refine ok_seq 4 (σ' := (109, [(3, .int (Int32.ofInt 1)), (2, .int (nI 0)), (5, .int (nI 0)), (1, .int (nI an)), (4, .int (nI 0)), (0, .ref 185)], [.int (Int32.ofInt 1)], gSh, M7)) rfl ?_
                      rw [cI_1]
                      refine ok_if 116 rfl rfl (fun hz => absurd hz (by simp only [pCP]; rw [hI_int (a := 1) (by omega)]; omega)) (fun _ => ?_)
                      refine ok_seq 1 (σ' := (113, [(3, .int (nI 1)), (2, .int (nI 0)), (5, .int (nI 0)), (1, .int (nI an)), (4, .int (nI 0)), (0, .ref 185)], [.ref 185], gSh, M7)) rfl ?_
                      have ht : tok.toInt ≠ 0 := by first | exact z3 (by omega) | omega
                      refine ok_call (mi := 180) (as := [.ref 185]) (pc' := 116) (L' := [(3, .int (nI 1)), (2, .int (nI 0)), (5, .int (nI 0)), (1, .int (nI an)), (4, .int (nI 0)), (0, .ref 185)]) (st' := []) (sh' := gSh) (M' := M7) (i := .invokevirtual 189) (len := 3) rfl rfl ?_
                      refine (((c_nextQ (d := 0) hT hq7.1.1.1 (PC.keep hC3 (hf7.at 10 (by decide)) (hf7.at 12 (by decide))) (by rw [hf7.at 12 (by decide)]; exact h12) ht).deep (by omega))).mono ?_
                      rintro v2 ⟨sh2, M8⟩ ⟨rfl, hsh, ⟨a8, hN8⟩, hC8⟩
                      have hsh : sh2 = gSh := hsh
                      subst hsh
                      dsimp only at hN8 hC8
                      refine ok_seq 1 (σ' := (6, [(3, .int (nI 1)), (2, .int (nI 0)), (5, .int (nI 0)), (1, .int (nI an)), (4, .int (nI 0)), (0, .ref 185)], [], gSh, M8)) rfl ?_
                      have hlt := PC.le (PC.keep hC3 (hf7.at 10 (by decide)) (hf7.at 12 (by decide))) (by rw [hf7.at 12 (by decide)]; exact h12) ht
                      exact ih (300 - (c2 + 1)) (by omega) (c2 + 1) an 0 1 ((w2 + 1) + 1) ((D'.1, D'.2 - 1).1, (D'.1, D'.2 - 1).2 - 1) M8 _ rfl (by omega) (by omega) (by omega) (by decide) (hq7.next hN8) hC8 (fun _ => by first | omega | (show _ ≤ (((D'.1, D'.2 - 1).1, (D'.1, D'.2 - 1).2 - 1)).2; omega)) (fun hz => by omega) (fun _ => by omega) (Or.inr (Or.inl ⟨_, _, rfl⟩))
            · intro hw
              simp only [pCP] at hw
              have hw : (lg_cmp wd ((28530 : Int64))).toInt = (0 : Int) := by omega
              refine ok_seq 4 (σ' := (76, [(5, .int (Int32.ofInt 1)), (1, .int (nI an)), (4, .int (nI 0)), (3, .int (nI m)), (2, .int (nI o)), (0, .ref 185)], [.int (nI an)], gSh, M3)) rfl ?_
              rw [cI_1]
              refine ok_if 93 rfl rfl ?_ ?_
              · intro hn0
                simp only [pCP] at hn0
                rw [hI_int (a := an) (by omega)] at hn0
                have hn0 : ((an : Nat) : Int) ≠ (0 : Int) := by omega
                refine ok_seq 1 (σ' := (94, [(5, .int (nI 1)), (1, .int (nI an)), (4, .int (nI 0)), (3, .int (nI m)), (2, .int (nI o)), (0, .ref 185)], [.int (nI an)], gSh, M3)) rfl ?_
                refine ok_if 102 rfl rfl ?_ ?_
                · intro hq0
                  simp only [pCP] at hq0
                  rw [hI_int (a := an) (by omega)] at hq0
                  have hq0 : ((an : Nat) : Int) ≠ (0 : Int) := by omega
                  refine ok_seq 4 (σ' := (109, [(3, .int (Int32.ofInt 1)), (5, .int (nI 1)), (1, .int (nI an)), (4, .int (nI 0)), (2, .int (nI o)), (0, .ref 185)], [.int (Int32.ofInt 1)], gSh, M3)) rfl ?_
                  rw [cI_1]
                  refine ok_if 116 rfl rfl (fun hz => absurd hz (by simp only [pCP]; rw [hI_int (a := 1) (by omega)]; omega)) (fun _ => ?_)
                  refine ok_seq 1 (σ' := (113, [(3, .int (nI 1)), (5, .int (nI 1)), (1, .int (nI an)), (4, .int (nI 0)), (2, .int (nI o)), (0, .ref 185)], [.ref 185], gSh, M3)) rfl ?_
                  have ht : tok.toInt ≠ 0 := by first | exact z3 (by omega) | omega
                  refine ok_call (mi := 180) (as := [.ref 185]) (pc' := 116) (L' := [(3, .int (nI 1)), (5, .int (nI 1)), (1, .int (nI an)), (4, .int (nI 0)), (2, .int (nI o)), (0, .ref 185)]) (st' := []) (sh' := gSh) (M' := M3) (i := .invokevirtual 189) (len := 3) rfl rfl ?_
                  refine (((c_nextQ (d := 0) hT hq3.1.1.1 hC3 h12 ht).deep (by omega))).mono ?_
                  rintro v2 ⟨sh2, M8⟩ ⟨rfl, hsh, ⟨a8, hN8⟩, hC8⟩
                  have hsh : sh2 = gSh := hsh
                  subst hsh
                  dsimp only at hN8 hC8
                  refine ok_seq 1 (σ' := (6, [(3, .int (nI 1)), (5, .int (nI 1)), (1, .int (nI an)), (4, .int (nI 0)), (2, .int (nI o)), (0, .ref 185)], [], gSh, M8)) rfl ?_
                  have hlt := PC.le hC3 h12 ht
                  exact ih (300 - (c2 + 1)) (by omega) (c2 + 1) an o 1 (w2 + 1) (D'.1, D'.2 - 1) M8 _ rfl (by omega) (by omega) (by omega) (by decide) (hq3.next hN8) hC8 (fun _ => by first | omega | (show _ ≤ ((D'.1, D'.2 - 1)).2; omega)) (fun hz => by omega) (fun _ => by omega) (Or.inr (Or.inr ⟨_, _, rfl⟩))
                · intro hq0
                  simp only [pCP] at hq0
                  rw [hI_int (a := an) (by omega)] at hq0
                  have hq0 : ((an : Nat) : Int) = (0 : Int) := by omega
                  refine ok_seq 1 (σ' := (99, [(5, .int (nI 1)), (1, .int (nI an)), (4, .int (nI 0)), (3, .int (nI m)), (2, .int (nI o)), (0, .ref 185)], [.int (nI 1)], gSh, M3)) rfl ?_
                  refine ok_if 106 rfl rfl ?_ ?_
                  · intro hb0
                    simp only [pCP] at hb0
                    rw [hI_int (a := 1) (by omega)] at hb0
                    have hb0 : ((1 : Nat) : Int) = (0 : Int) := by omega
                    refine ok_seq 3 (σ' := (109, [(3, .int (Int32.ofInt 0)), (5, .int (nI 1)), (1, .int (nI an)), (4, .int (nI 0)), (2, .int (nI o)), (0, .ref 185)], [.int (Int32.ofInt 0)], gSh, M3)) rfl ?_
                    rw [cI_0]
                    refine ok_if 116 rfl rfl (fun _ => ?_) (fun hz => absurd (by simp only [pCP]; rw [hI_int (a := 0) (by omega)]; omega) hz)
                    refine ok_seq 2 (σ' := (7, [(3, .int (nI 0)), (5, .int (nI 1)), (1, .int (nI an)), (4, .int (nI 0)), (2, .int (nI o)), (0, .ref 185)], [.int (nI 0)], gSh, M3)) rfl ?_
                    refine ok_if 119 rfl rfl (fun _ => ?_) (fun hz => absurd (by simp only [pCP]; rw [hI_int (a := 0) (by omega)]; omega) hz)
                    refine ok_seq 1 (σ' := (120, [(3, .int (nI 0)), (5, .int (nI 1)), (1, .int (nI an)), (4, .int (nI 0)), (2, .int (nI o)), (0, .ref 185)], [.int (Int32.ofInt 0)], gSh, M3)) rfl ?_
                    rw [cI_0]
                    exact ok_ret (i := .ireturn) (len := 1) rfl rfl ⟨some (.int (nI 0)), rfl, rfl, Or.inl ⟨rfl, (w2 + 1), c2, (D'.1, D'.2 - 1), hq3, hC3, by omega, by omega⟩⟩
                  · intro hb0
                    simp only [pCP] at hb0
                    rw [hI_int (a := 1) (by omega)] at hb0
                    have hb0 : ((1 : Nat) : Int) ≠ (0 : Int) := by omega
                    refine ok_seq 4 (σ' := (109, [(3, .int (Int32.ofInt 1)), (5, .int (nI 1)), (1, .int (nI an)), (4, .int (nI 0)), (2, .int (nI o)), (0, .ref 185)], [.int (Int32.ofInt 1)], gSh, M3)) rfl ?_
                    rw [cI_1]
                    refine ok_if 116 rfl rfl (fun hz => absurd hz (by simp only [pCP]; rw [hI_int (a := 1) (by omega)]; omega)) (fun _ => ?_)
                    refine ok_seq 1 (σ' := (113, [(3, .int (nI 1)), (5, .int (nI 1)), (1, .int (nI an)), (4, .int (nI 0)), (2, .int (nI o)), (0, .ref 185)], [.ref 185], gSh, M3)) rfl ?_
                    have ht : tok.toInt ≠ 0 := by first | exact z3 (by omega) | omega
                    refine ok_call (mi := 180) (as := [.ref 185]) (pc' := 116) (L' := [(3, .int (nI 1)), (5, .int (nI 1)), (1, .int (nI an)), (4, .int (nI 0)), (2, .int (nI o)), (0, .ref 185)]) (st' := []) (sh' := gSh) (M' := M3) (i := .invokevirtual 189) (len := 3) rfl rfl ?_
                    refine (((c_nextQ (d := 0) hT hq3.1.1.1 hC3 h12 ht).deep (by omega))).mono ?_
                    rintro v2 ⟨sh2, M8⟩ ⟨rfl, hsh, ⟨a8, hN8⟩, hC8⟩
                    have hsh : sh2 = gSh := hsh
                    subst hsh
                    dsimp only at hN8 hC8
                    refine ok_seq 1 (σ' := (6, [(3, .int (nI 1)), (5, .int (nI 1)), (1, .int (nI an)), (4, .int (nI 0)), (2, .int (nI o)), (0, .ref 185)], [], gSh, M8)) rfl ?_
                    have hlt := PC.le hC3 h12 ht
                    exact ih (300 - (c2 + 1)) (by omega) (c2 + 1) an o 1 (w2 + 1) (D'.1, D'.2 - 1) M8 _ rfl (by omega) (by omega) (by omega) (by decide) (hq3.next hN8) hC8 (fun _ => by first | omega | (show _ ≤ ((D'.1, D'.2 - 1)).2; omega)) (fun hz => by omega) (fun _ => by omega) (Or.inr (Or.inr ⟨_, _, rfl⟩))
              · intro hn0
                simp only [pCP] at hn0
                rw [hI_int (a := an) (by omega)] at hn0
                have hn0 : ((an : Nat) : Int) = (0 : Int) := by omega
                refine ok_seq 1 (σ' := (80, [(5, .int (nI 1)), (1, .int (nI an)), (4, .int (nI 0)), (3, .int (nI m)), (2, .int (nI o)), (0, .ref 185)], [.int (nI o)], gSh, M3)) rfl ?_
                refine ok_if 90 rfl rfl ?_ ?_
                · intro ho0
                  simp only [pCP] at ho0
                  rw [hI_int (a := o) (by omega)] at ho0
                  have ho0 : ((o : Nat) : Int) = (0 : Int) := by omega
                  refine ok_seq 3 (σ' := (94, [(2, .int (nI 1)), (5, .int (nI 1)), (1, .int (nI an)), (4, .int (nI 0)), (3, .int (nI m)), (0, .ref 185)], [.int (nI an)], gSh, M3)) rfl ?_
                  refine ok_if 102 rfl rfl ?_ ?_
                  · intro hq0
                    simp only [pCP] at hq0
                    rw [hI_int (a := an) (by omega)] at hq0
                    have hq0 : ((an : Nat) : Int) ≠ (0 : Int) := by omega
                    refine ok_seq 4 (σ' := (109, [(3, .int (Int32.ofInt 1)), (2, .int (nI 1)), (5, .int (nI 1)), (1, .int (nI an)), (4, .int (nI 0)), (0, .ref 185)], [.int (Int32.ofInt 1)], gSh, M3)) rfl ?_
                    rw [cI_1]
                    refine ok_if 116 rfl rfl (fun hz => absurd hz (by simp only [pCP]; rw [hI_int (a := 1) (by omega)]; omega)) (fun _ => ?_)
                    refine ok_seq 1 (σ' := (113, [(3, .int (nI 1)), (2, .int (nI 1)), (5, .int (nI 1)), (1, .int (nI an)), (4, .int (nI 0)), (0, .ref 185)], [.ref 185], gSh, M3)) rfl ?_
                    have ht : tok.toInt ≠ 0 := by first | exact z3 (by omega) | omega
                    refine ok_call (mi := 180) (as := [.ref 185]) (pc' := 116) (L' := [(3, .int (nI 1)), (2, .int (nI 1)), (5, .int (nI 1)), (1, .int (nI an)), (4, .int (nI 0)), (0, .ref 185)]) (st' := []) (sh' := gSh) (M' := M3) (i := .invokevirtual 189) (len := 3) rfl rfl ?_
                    refine (((c_nextQ (d := 0) hT hq3.1.1.1 hC3 h12 ht).deep (by omega))).mono ?_
                    rintro v2 ⟨sh2, M8⟩ ⟨rfl, hsh, ⟨a8, hN8⟩, hC8⟩
                    have hsh : sh2 = gSh := hsh
                    subst hsh
                    dsimp only at hN8 hC8
                    refine ok_seq 1 (σ' := (6, [(3, .int (nI 1)), (2, .int (nI 1)), (5, .int (nI 1)), (1, .int (nI an)), (4, .int (nI 0)), (0, .ref 185)], [], gSh, M8)) rfl ?_
                    have hlt := PC.le hC3 h12 ht
                    exact ih (300 - (c2 + 1)) (by omega) (c2 + 1) an 1 1 (w2 + 1) (D'.1, D'.2 - 1) M8 _ rfl (by omega) (by omega) (by omega) (by decide) (hq3.next hN8) hC8 (fun _ => by first | omega | (show _ ≤ ((D'.1, D'.2 - 1)).2; omega)) (fun hz => by omega) (fun _ => by omega) (Or.inr (Or.inl ⟨_, _, rfl⟩))
                  · intro hq0
                    simp only [pCP] at hq0
                    rw [hI_int (a := an) (by omega)] at hq0
                    have hq0 : ((an : Nat) : Int) = (0 : Int) := by omega
                    refine ok_seq 1 (σ' := (99, [(2, .int (nI 1)), (5, .int (nI 1)), (1, .int (nI an)), (4, .int (nI 0)), (3, .int (nI m)), (0, .ref 185)], [.int (nI 1)], gSh, M3)) rfl ?_
                    refine ok_if 106 rfl rfl ?_ ?_
                    · intro hb0
                      simp only [pCP] at hb0
                      rw [hI_int (a := 1) (by omega)] at hb0
                      have hb0 : ((1 : Nat) : Int) = (0 : Int) := by omega
                      refine ok_seq 3 (σ' := (109, [(3, .int (Int32.ofInt 0)), (2, .int (nI 1)), (5, .int (nI 1)), (1, .int (nI an)), (4, .int (nI 0)), (0, .ref 185)], [.int (Int32.ofInt 0)], gSh, M3)) rfl ?_
                      rw [cI_0]
                      refine ok_if 116 rfl rfl (fun _ => ?_) (fun hz => absurd (by simp only [pCP]; rw [hI_int (a := 0) (by omega)]; omega) hz)
                      refine ok_seq 2 (σ' := (7, [(3, .int (nI 0)), (2, .int (nI 1)), (5, .int (nI 1)), (1, .int (nI an)), (4, .int (nI 0)), (0, .ref 185)], [.int (nI 0)], gSh, M3)) rfl ?_
                      refine ok_if 119 rfl rfl (fun _ => ?_) (fun hz => absurd (by simp only [pCP]; rw [hI_int (a := 0) (by omega)]; omega) hz)
                      refine ok_seq 1 (σ' := (120, [(3, .int (nI 0)), (2, .int (nI 1)), (5, .int (nI 1)), (1, .int (nI an)), (4, .int (nI 0)), (0, .ref 185)], [.int (Int32.ofInt 0)], gSh, M3)) rfl ?_
                      rw [cI_0]
                      exact ok_ret (i := .ireturn) (len := 1) rfl rfl ⟨some (.int (nI 0)), rfl, rfl, Or.inl ⟨rfl, (w2 + 1), c2, (D'.1, D'.2 - 1), hq3, hC3, by omega, by omega⟩⟩
                    · intro hb0
                      simp only [pCP] at hb0
                      rw [hI_int (a := 1) (by omega)] at hb0
                      have hb0 : ((1 : Nat) : Int) ≠ (0 : Int) := by omega
                      refine ok_seq 4 (σ' := (109, [(3, .int (Int32.ofInt 1)), (2, .int (nI 1)), (5, .int (nI 1)), (1, .int (nI an)), (4, .int (nI 0)), (0, .ref 185)], [.int (Int32.ofInt 1)], gSh, M3)) rfl ?_
                      rw [cI_1]
                      refine ok_if 116 rfl rfl (fun hz => absurd hz (by simp only [pCP]; rw [hI_int (a := 1) (by omega)]; omega)) (fun _ => ?_)
                      refine ok_seq 1 (σ' := (113, [(3, .int (nI 1)), (2, .int (nI 1)), (5, .int (nI 1)), (1, .int (nI an)), (4, .int (nI 0)), (0, .ref 185)], [.ref 185], gSh, M3)) rfl ?_
                      have ht : tok.toInt ≠ 0 := by first | exact z3 (by omega) | omega
                      refine ok_call (mi := 180) (as := [.ref 185]) (pc' := 116) (L' := [(3, .int (nI 1)), (2, .int (nI 1)), (5, .int (nI 1)), (1, .int (nI an)), (4, .int (nI 0)), (0, .ref 185)]) (st' := []) (sh' := gSh) (M' := M3) (i := .invokevirtual 189) (len := 3) rfl rfl ?_
                      refine (((c_nextQ (d := 0) hT hq3.1.1.1 hC3 h12 ht).deep (by omega))).mono ?_
                      rintro v2 ⟨sh2, M8⟩ ⟨rfl, hsh, ⟨a8, hN8⟩, hC8⟩
                      have hsh : sh2 = gSh := hsh
                      subst hsh
                      dsimp only at hN8 hC8
                      refine ok_seq 1 (σ' := (6, [(3, .int (nI 1)), (2, .int (nI 1)), (5, .int (nI 1)), (1, .int (nI an)), (4, .int (nI 0)), (0, .ref 185)], [], gSh, M8)) rfl ?_
                      have hlt := PC.le hC3 h12 ht
                      exact ih (300 - (c2 + 1)) (by omega) (c2 + 1) an 1 1 (w2 + 1) (D'.1, D'.2 - 1) M8 _ rfl (by omega) (by omega) (by omega) (by decide) (hq3.next hN8) hC8 (fun _ => by first | omega | (show _ ≤ ((D'.1, D'.2 - 1)).2; omega)) (fun hz => by omega) (fun _ => by omega) (Or.inr (Or.inl ⟨_, _, rfl⟩))
                · intro ho0
                  simp only [pCP] at ho0
                  rw [hI_int (a := o) (by omega)] at ho0
                  have ho0 : ((o : Nat) : Int) ≠ (0 : Int) := by omega
                  refine ok_seq 3 (σ' := (87, [(5, .int (nI 1)), (1, .int (nI an)), (4, .int (nI 0)), (3, .int (nI m)), (2, .int (nI o)), (0, .ref 185)], [.int (Int32.ofInt 0), .int ((Int8.ofInt 22).toInt32), .ref 185], gSh, M3)) rfl ?_
                  rw [(show (Int8.ofInt 22).toInt32 = nI 22 by decide), cI_0]
                  refine ok_call (mi := 186) (as := [.ref 185, .int (nI 22), .int (nI 0)]) (pc' := 90) (L' := [(5, .int (nI 1)), (1, .int (nI an)), (4, .int (nI 0)), (3, .int (nI m)), (2, .int (nI o)), (0, .ref 185)]) (st' := []) (sh' := gSh) (M' := M3) (i := .invokevirtual 170) (len := 3) rfl rfl ?_
                  refine ((c_emit0 (d := d + dN + 6) hT hq3 (D' := ((D'.1, D'.2 - 1).1, (D'.1, D'.2 - 1).2 - 1)) (o := nI 22) (v := nI 0) (Or.inr (Or.inr (Or.inr (Or.inr (Or.inr (Or.inr ⟨by decide, by decide, by omega, rfl⟩)))))) (by omega))).mono ?_
                  rintro v ⟨sh2, M7⟩ ⟨rfl, hsh, hq7, hf7⟩
                  have hsh : sh2 = gSh := hsh
                  subst hsh
                  dsimp only at hq7 hf7
                  refine ok_seq 3 (σ' := (94, [(2, .int (nI 1)), (5, .int (nI 1)), (1, .int (nI an)), (4, .int (nI 0)), (3, .int (nI m)), (0, .ref 185)], [.int (nI an)], gSh, M7)) rfl ?_
                  refine ok_if 102 rfl rfl ?_ ?_
                  · intro hq0
                    simp only [pCP] at hq0
                    rw [hI_int (a := an) (by omega)] at hq0
                    have hq0 : ((an : Nat) : Int) ≠ (0 : Int) := by omega
                    refine ok_seq 4 (σ' := (109, [(3, .int (Int32.ofInt 1)), (2, .int (nI 1)), (5, .int (nI 1)), (1, .int (nI an)), (4, .int (nI 0)), (0, .ref 185)], [.int (Int32.ofInt 1)], gSh, M7)) rfl ?_
                    rw [cI_1]
                    refine ok_if 116 rfl rfl (fun hz => absurd hz (by simp only [pCP]; rw [hI_int (a := 1) (by omega)]; omega)) (fun _ => ?_)
                    refine ok_seq 1 (σ' := (113, [(3, .int (nI 1)), (2, .int (nI 1)), (5, .int (nI 1)), (1, .int (nI an)), (4, .int (nI 0)), (0, .ref 185)], [.ref 185], gSh, M7)) rfl ?_
                    have ht : tok.toInt ≠ 0 := by first | exact z3 (by omega) | omega
                    refine ok_call (mi := 180) (as := [.ref 185]) (pc' := 116) (L' := [(3, .int (nI 1)), (2, .int (nI 1)), (5, .int (nI 1)), (1, .int (nI an)), (4, .int (nI 0)), (0, .ref 185)]) (st' := []) (sh' := gSh) (M' := M7) (i := .invokevirtual 189) (len := 3) rfl rfl ?_
                    refine (((c_nextQ (d := 0) hT hq7.1.1.1 (PC.keep hC3 (hf7.at 10 (by decide)) (hf7.at 12 (by decide))) (by rw [hf7.at 12 (by decide)]; exact h12) ht).deep (by omega))).mono ?_
                    rintro v2 ⟨sh2, M8⟩ ⟨rfl, hsh, ⟨a8, hN8⟩, hC8⟩
                    have hsh : sh2 = gSh := hsh
                    subst hsh
                    dsimp only at hN8 hC8
                    refine ok_seq 1 (σ' := (6, [(3, .int (nI 1)), (2, .int (nI 1)), (5, .int (nI 1)), (1, .int (nI an)), (4, .int (nI 0)), (0, .ref 185)], [], gSh, M8)) rfl ?_
                    have hlt := PC.le (PC.keep hC3 (hf7.at 10 (by decide)) (hf7.at 12 (by decide))) (by rw [hf7.at 12 (by decide)]; exact h12) ht
                    exact ih (300 - (c2 + 1)) (by omega) (c2 + 1) an 1 1 ((w2 + 1) + 1) ((D'.1, D'.2 - 1).1, (D'.1, D'.2 - 1).2 - 1) M8 _ rfl (by omega) (by omega) (by omega) (by decide) (hq7.next hN8) hC8 (fun _ => by first | omega | (show _ ≤ (((D'.1, D'.2 - 1).1, (D'.1, D'.2 - 1).2 - 1)).2; omega)) (fun hz => by omega) (fun _ => by omega) (Or.inr (Or.inl ⟨_, _, rfl⟩))
                  · intro hq0
                    simp only [pCP] at hq0
                    rw [hI_int (a := an) (by omega)] at hq0
                    have hq0 : ((an : Nat) : Int) = (0 : Int) := by omega
                    refine ok_seq 1 (σ' := (99, [(2, .int (nI 1)), (5, .int (nI 1)), (1, .int (nI an)), (4, .int (nI 0)), (3, .int (nI m)), (0, .ref 185)], [.int (nI 1)], gSh, M7)) rfl ?_
                    refine ok_if 106 rfl rfl ?_ ?_
                    · intro hb0
                      simp only [pCP] at hb0
                      rw [hI_int (a := 1) (by omega)] at hb0
                      have hb0 : ((1 : Nat) : Int) = (0 : Int) := by omega
                      refine ok_seq 3 (σ' := (109, [(3, .int (Int32.ofInt 0)), (2, .int (nI 1)), (5, .int (nI 1)), (1, .int (nI an)), (4, .int (nI 0)), (0, .ref 185)], [.int (Int32.ofInt 0)], gSh, M7)) rfl ?_
                      rw [cI_0]
                      refine ok_if 116 rfl rfl (fun _ => ?_) (fun hz => absurd (by simp only [pCP]; rw [hI_int (a := 0) (by omega)]; omega) hz)
                      refine ok_seq 2 (σ' := (7, [(3, .int (nI 0)), (2, .int (nI 1)), (5, .int (nI 1)), (1, .int (nI an)), (4, .int (nI 0)), (0, .ref 185)], [.int (nI 0)], gSh, M7)) rfl ?_
                      refine ok_if 119 rfl rfl (fun _ => ?_) (fun hz => absurd (by simp only [pCP]; rw [hI_int (a := 0) (by omega)]; omega) hz)
                      refine ok_seq 1 (σ' := (120, [(3, .int (nI 0)), (2, .int (nI 1)), (5, .int (nI 1)), (1, .int (nI an)), (4, .int (nI 0)), (0, .ref 185)], [.int (Int32.ofInt 0)], gSh, M7)) rfl ?_
                      rw [cI_0]
                      exact ok_ret (i := .ireturn) (len := 1) rfl rfl ⟨some (.int (nI 0)), rfl, rfl, Or.inl ⟨rfl, ((w2 + 1) + 1), c2, ((D'.1, D'.2 - 1).1, (D'.1, D'.2 - 1).2 - 1), hq7, (PC.keep hC3 (hf7.at 10 (by decide)) (hf7.at 12 (by decide))), by omega, by omega⟩⟩
                    · intro hb0
                      simp only [pCP] at hb0
                      rw [hI_int (a := 1) (by omega)] at hb0
                      have hb0 : ((1 : Nat) : Int) ≠ (0 : Int) := by omega
                      refine ok_seq 4 (σ' := (109, [(3, .int (Int32.ofInt 1)), (2, .int (nI 1)), (5, .int (nI 1)), (1, .int (nI an)), (4, .int (nI 0)), (0, .ref 185)], [.int (Int32.ofInt 1)], gSh, M7)) rfl ?_
                      rw [cI_1]
                      refine ok_if 116 rfl rfl (fun hz => absurd hz (by simp only [pCP]; rw [hI_int (a := 1) (by omega)]; omega)) (fun _ => ?_)
                      refine ok_seq 1 (σ' := (113, [(3, .int (nI 1)), (2, .int (nI 1)), (5, .int (nI 1)), (1, .int (nI an)), (4, .int (nI 0)), (0, .ref 185)], [.ref 185], gSh, M7)) rfl ?_
                      have ht : tok.toInt ≠ 0 := by first | exact z3 (by omega) | omega
                      refine ok_call (mi := 180) (as := [.ref 185]) (pc' := 116) (L' := [(3, .int (nI 1)), (2, .int (nI 1)), (5, .int (nI 1)), (1, .int (nI an)), (4, .int (nI 0)), (0, .ref 185)]) (st' := []) (sh' := gSh) (M' := M7) (i := .invokevirtual 189) (len := 3) rfl rfl ?_
                      refine (((c_nextQ (d := 0) hT hq7.1.1.1 (PC.keep hC3 (hf7.at 10 (by decide)) (hf7.at 12 (by decide))) (by rw [hf7.at 12 (by decide)]; exact h12) ht).deep (by omega))).mono ?_
                      rintro v2 ⟨sh2, M8⟩ ⟨rfl, hsh, ⟨a8, hN8⟩, hC8⟩
                      have hsh : sh2 = gSh := hsh
                      subst hsh
                      dsimp only at hN8 hC8
                      refine ok_seq 1 (σ' := (6, [(3, .int (nI 1)), (2, .int (nI 1)), (5, .int (nI 1)), (1, .int (nI an)), (4, .int (nI 0)), (0, .ref 185)], [], gSh, M8)) rfl ?_
                      have hlt := PC.le (PC.keep hC3 (hf7.at 10 (by decide)) (hf7.at 12 (by decide))) (by rw [hf7.at 12 (by decide)]; exact h12) ht
                      exact ih (300 - (c2 + 1)) (by omega) (c2 + 1) an 1 1 ((w2 + 1) + 1) ((D'.1, D'.2 - 1).1, (D'.1, D'.2 - 1).2 - 1) M8 _ rfl (by omega) (by omega) (by omega) (by decide) (hq7.next hN8) hC8 (fun _ => by first | omega | (show _ ≤ (((D'.1, D'.2 - 1).1, (D'.1, D'.2 - 1).2 - 1)).2; omega)) (fun hz => by omega) (fun _ => by omega) (Or.inr (Or.inl ⟨_, _, rfl⟩))
      · refine ok_seq 2 (σ' := (18, [(4, .int zf), (3, .int (nI m)), (5, .int y5), (1, .int (nI a)), (2, .int (nI o)), (0, .ref 185)], [.int zf], gSh, M2)) rfl ?_
        refine ok_if 24 rfl rfl (fun hz => absurd hz (by simp only [pCP]; omega)) (fun _ => ?_)
        refine ok_seq 1 (σ' := (23, [(4, .int zf), (3, .int (nI m)), (5, .int y5), (1, .int (nI a)), (2, .int (nI o)), (0, .ref 185)], [.int zf], gSh, M2)) rfl ?_
        exact ok_ret (i := .ireturn) (len := 1) rfl rfl ⟨some (.int zf), rfl, rfl, Or.inr ⟨zf, rfl, hzf, hF⟩⟩
theorem c_either {S : pScr} {d dN s n i0 c0 w : Nat} {D : Nat × Nat} {τ : fT} {M0 M : pMem} (hT : pT τ) (hH : PH τ S dN) (hg : gR M0) (hq : PQ0 τ s n i0 D w 0 M0 M) (hC : PC c0 M) (hw : w ≤ c0) : cOk S (d + dN + 8) 199 [.ref 185] (gSh, M) (fun r hp => hp.1 = gSh ∧ ((r = some (.int (nI 0)) ∧ ∃ (w' c' : Nat) (D' : Nat × Nat), PQ0 τ s n i0 D' w' 0 M0 hp.2 ∧ PC c' hp.2 ∧ w' ≤ c' ∧ c0 ≤ c') ∨ (∃ z, r = some (.int z) ∧ z.toInt ≠ 0 ∧ PE τ s M0 hp.2))) := by
  refine c_of_ok (Nat.le_of_ble_eq_true rfl) ?_
  refine ok_seq 6 (σ' := (6, [(3, .int (Int32.ofInt 1)), (2, .int (Int32.ofInt 0)), (1, .int (Int32.ofInt 0)), (0, .ref 185)], [], gSh, M)) rfl ?_
  rw [cI_1, cI_0]
  exact ei_loop hT hH hg _ c0 0 0 1 w D M _ rfl (Nat.le_refl _) (by decide) (by decide) (by decide) hq hC (fun _ => by omega) (fun hz => by omega) (fun _ => hw) (Or.inl rfl)

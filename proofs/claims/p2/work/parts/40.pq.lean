/-! what holds between the steps of the reader -/
theorem c_fix {S : pScr} {d m : Nat} {as : List Value} {hp : pHp} {P : Option Value → pHp → Prop} (h : cOk S d m as hp P) : ∃ v hp2, P v hp2 ∧ cOk S d m as hp (fun r h => r = v ∧ h = hp2) := by
  obtain ⟨v, hp2, F, h1, h2⟩ := h
  exact ⟨v, hp2, h2, v, hp2, F, h1, rfl, rfl⟩
theorem c_both {S : pScr} {d m : Nat} {as : List Value} {hp : pHp} {P Q : Option Value → pHp → Prop} (h : cOk S d m as hp P) (h' : cOk S d m as hp Q) : cOk S d m as hp (fun r h => P r h ∧ Q r h) := by
  obtain ⟨v, hp2, F, h1, h2⟩ := h
  obtain ⟨v', hp2', F', h1', h2'⟩ := h'
  have e := (h1 (F + F') (by omega)).symm.trans (h1' (F + F') (by omega))
  cases e
  exact ⟨v, hp2, F, h1, h2, h2'⟩
/-- a pure method's answer, one and the same at every call -/
theorem c_pure {τ : fT} {S : pScr} {d m : Nat} {es : List aE} {lo hi : Int} {x : List Nat} {pre post : fFs} {vs : List Value} {M : pMem} (h : cnOk τ S d m (es, [(0, lo, hi, x)], some [], pre, post)) (hvs : satS es vs) (hM : tyM (tOf τ) M) (hg : gR M) (hf : fctM pre M) : ∃ z : Int32, lo ≤ z.toInt ∧ z.toInt ≤ hi ∧ cOk S d m vs (gSh, M) (fun r hp => r = some (.int z) ∧ hp = (gSh, M)) := by
  obtain ⟨v, ⟨sh2, M2⟩, ⟨k1, k2, k3, k4, k5⟩, k6⟩ := c_fix (h vs M hvs hM hg hf)
  have e1 : M2 = M := funext fun o => k4.1 o (fun hz => by cases hz)
  have k1 : sh2 = gSh := k1
  subst e1 k1
  cases v with
  | none => exact k3.elim
  | some v =>
    obtain ⟨z, hz, z1, z2⟩ := k3.1
    have hz : v = .int z := hz
    exact ⟨z, z1, z2, k6.mono (fun r hp h => ⟨by rw [h.1, hz], h.2⟩)⟩
def FK (ks : List Nat) (M M' : pMem) : Prop := ∀ f, f ∉ ks → M' 185 f = M 185 f
/-- the text's part: s is read, n clauses stand, w steps are written -/
def PB (τ : fT) (s n w : Nat) (ps : List Nat) (n0 : Nat) (M0 M : pMem) : Prop :=
  (tyM (tOf τ) M ∧ (∀ o, o ≠ 185 → o ≠ 188 → o ≠ 190 → M o = M0 o) ∧ s < 4) ∧ (M 185 15 = .int (nI (800 * s)) ∧ M 185 17 = .int (nI w) ∧ TI s n w M) ∧ (pil M ps ∧ pOkk ps ∧ M 185 20 = .int (nI ps.length)) ∧ M 185 21 = .int (nI (n0 + nNon ps)) ∧ n0 + nNon ps ≤ 8
def PQ (τ : fT) (s n i0 : Nat) (D : Nat × Nat) (w : Nat) (ps : List Nat) (n0 : Nat) (M0 M : pMem) : Prop :=
  PB τ s n w ps n0 M0 M ∧ codeOk (M 188) (800 * s + 60) i0 w (0, 0) D ∧ i0 ≤ w ∧ n < 12 ∧ M 188 (800 * s + 1 + 4 * n + 2) = .int (nI i0)
/-- so many tokens are behind -/
def PC (c : Nat) (M : pMem) : Prop := ∃ (at' : Nat) (tok : Int32), M 185 10 = .int (nI at') ∧ M 185 12 = .int tok ∧ at' ≤ 300 ∧ c ≤ at' ∧ (tok.toInt ≠ 0 → c + 1 ≤ at')
/-- what is left when a fault ends the reading -/
def PE (τ : fT) (s : Nat) (M0 M : pMem) : Prop := tyM (tOf τ) M ∧ (∀ o, o ≠ 185 → o ≠ 188 → o ≠ 190 → M o = M0 o) ∧ ∀ s', s' < 4 → textOk (M 188) s'
theorem PB.pe {τ : fT} {s n w n0 : Nat} {ps : List Nat} {M0 M : pMem} (h : PB τ s n w ps n0 M0 M) : PE τ s M0 M := ⟨h.1.1, h.1.2.1, TI_text h.2.1.2.2⟩
theorem PC.keep {c : Nat} {M M' : pMem} (h : PC c M) (h1 : M' 185 10 = M 185 10) (h2 : M' 185 12 = M 185 12) : PC c M' := by
  obtain ⟨a, t, g1, g2, g3⟩ := h
  exact ⟨a, t, by rw [h1]; exact g1, by rw [h2]; exact g2, g3⟩
theorem PB.len {τ : fT} {s n w n0 : Nat} {ps : List Nat} {M0 M : pMem} (h : PB τ s n w ps n0 M0 M) : ps.length ≤ 26 := by
  have h1 := (pOkk_len h.2.2.1.2.1).1
  have h2 := h.2.2.2.2
  omega
theorem PB.w300 {τ : fT} {s n w n0 : Nat} {ps : List Nat} {M0 M : pMem} (h : PB τ s n w ps n0 M0 M) : w ≤ 300 := h.2.1.2.2.2.1
/-- a change of 185's other fields -/
theorem PB.fields {τ : fT} {s n w n0 : Nat} {ps : List Nat} {M0 M M' : pMem} (h : PB τ s n w ps n0 M0 M) (hM : tyM (tOf τ) M') (ho : ∀ o, o ≠ 185 → M' o = M o) (h15 : M' 185 15 = M 185 15) (h17 : M' 185 17 = M 185 17) (h20 : M' 185 20 = M 185 20) (h21 : M' 185 21 = M 185 21) : PB τ s n w ps n0 M0 M' := by
  obtain ⟨⟨a1, a2, a3⟩, ⟨b1, b2, b3⟩, ⟨c1, c2, c3⟩, d1, d2⟩ := h
  refine ⟨⟨hM, fun o k1 k2 k3 => by rw [ho o k1]; exact a2 o k1 k2 k3, a3⟩, ⟨by rw [h15]; exact b1, by rw [h17]; exact b2, TI_ext b3 (Nat.le_refl _) b3.2.1 (fun k _ => by rw [ho 188 (by decide)])⟩, ⟨pil_ext c1 (fun k _ => by rw [ho 190 (by decide)]), c2, by rw [h20]; exact c3⟩, by rw [h21]; exact d1, d2⟩
theorem PQ.fields {τ : fT} {s n i0 w n0 : Nat} {D : Nat × Nat} {ps : List Nat} {M0 M M' : pMem} (h : PQ τ s n i0 D w ps n0 M0 M) (hM : tyM (tOf τ) M') (ho : ∀ o, o ≠ 185 → M' o = M o) (h15 : M' 185 15 = M 185 15) (h17 : M' 185 17 = M 185 17) (h20 : M' 185 20 = M 185 20) (h21 : M' 185 21 = M 185 21) : PQ τ s n i0 D w ps n0 M0 M' := by
  obtain ⟨h1, h2, h3, h4, h5⟩ := h
  refine ⟨h1.fields hM ho h15 h17 h20 h21, ?_, h3, h4, ?_⟩
  · rw [ho 188 (by decide)]
    exact h2
  · rw [ho 188 (by decide)]
    exact h5
theorem PQ.next {τ : fT} {s n i0 w n0 a : Nat} {D : Nat × Nat} {ps : List Nat} {M0 M M' : pMem} (h : PQ τ s n i0 D w ps n0 M0 M) (hN : NP τ a M M') : PQ τ s n i0 D w ps n0 M0 M' := h.fields hN.1 hN.2.1.1 (hN.2.1.2 15 (by omega)) (hN.2.1.2 17 (by omega)) (hN.2.1.2 20 (by omega)) (hN.2.1.2 21 (by omega))
theorem PB.next {τ : fT} {s n w n0 a : Nat} {ps : List Nat} {M0 M M' : pMem} (h : PB τ s n w ps n0 M0 M) (hN : NP τ a M M') : PB τ s n w ps n0 M0 M' := h.fields hN.1 hN.2.1.1 (hN.2.1.2 15 (by omega)) (hN.2.1.2 17 (by omega)) (hN.2.1.2 20 (by omega)) (hN.2.1.2 21 (by omega))
theorem PC.next {τ : fT} {c a : Nat} {M M' : pMem} (ha : c + 1 ≤ a) (hN : NP τ a M M') : PC (c + 1) M' := by
  obtain ⟨-, -, at', tok, h1, h2, h3, h4, h5⟩ := hN
  exact ⟨at', tok, h1, h2, h4, by omega, fun hz => by have := h5 hz; omega⟩
theorem c_nextQ {S : pScr} {d c : Nat} {τ : fT} {M : pMem} (hT : pT τ) (hM : tyM (tOf τ) M) (hC : PC c M) {tok : Int32} (h12 : M 185 12 = .int tok) (ht : tok.toInt ≠ 0) : cOk S (d + 4) 180 [.ref 185] (gSh, M) (fun r hp => r = none ∧ hp.1 = gSh ∧ (∃ a, NP τ a M hp.2) ∧ PC (c + 1) hp.2) := by
  obtain ⟨a, t, g1, g2, g3, g4, g5⟩ := hC
  rw [h12] at g2
  cases g2
  exact (c_next hT hM g1 g3).mono (fun r hp ⟨k1, k2, k3⟩ => ⟨k1, k2, ⟨a, k3⟩, PC.next (g5 ht) k3⟩)
/-- one more step is written -/
abbrev emM (M : pMem) (s w : Nat) (o v : Int32) : pMem := pUp (pUp (pUp M 188 (800 * s + 60 + 2 * w) (.int o)) 188 (800 * s + 60 + 2 * w + 1) (.int v)) 185 17 (.int (nI (w + 1)))
theorem em188 {M : pMem} {s w k : Nat} {o v : Int32} (hk : k ≠ 800 * s + 60 + 2 * w) (hk2 : k ≠ 800 * s + 60 + 2 * w + 1) : emM M s w o v 188 k = M 188 k := by
  show pUp (pUp (pUp M 188 (800 * s + 60 + 2 * w) (.int o)) 188 (800 * s + 60 + 2 * w + 1) (.int v)) 185 17 (.int (nI (w + 1))) 188 k = _
  rw [pUp_ne (by decide), pUp_other _ _ _ _ (fun z => hk2 z.2), pUp_other _ _ _ _ (fun z => hk z.2)]
theorem PQ.emit {τ : fT} {s n i0 w n0 : Nat} {D D' : Nat × Nat} {ps : List Nat} {M0 M : pMem} {o v : Int32} (hT : pT τ) (h : PQ τ s n i0 D w ps n0 M0 M) (hop : opOk o.toInt v.toInt D D') (hw : w < 300) : PQ τ s n i0 D' (w + 1) ps n0 M0 (emM M s w o v) := by
  obtain ⟨⟨⟨a1, a2, a3⟩, ⟨b1, b2, b3⟩, ⟨c1, c2, c3⟩, d1, d2⟩, e1, e2, e3, e4⟩ := h
  have f185 : ∀ f, f ≠ 17 → emM M s w o v 185 f = M 185 f := fun f hf => by
    show pUp (pUp (pUp M 188 _ _) 188 _ _) 185 17 _ 185 f = _
    rw [pUp_other _ _ _ _ (fun z => hf z.2), pUp_ne (by decide), pUp_ne (by decide)]
  have hM : tyM (tOf τ) (emM M s w o v) := ptu hT (pu188 hT (pu188 hT a1 o) v) 11 rfl (sat_n (by omega) (by omega))
  refine ⟨⟨⟨hM, fun o' k1 k2 k3 => ?_, a3⟩, ⟨by rw [f185 15 (by decide)]; exact b1, pUp_self _ _ _ _, TI_ext b3 (by omega) (by omega) (fun k hk => em188 (by have := b3.1; omega) (by have := b3.1; omega))⟩, ⟨pil_ext c1 (fun k _ => ?_), c2, by rw [f185 20 (by decide)]; exact c3⟩, by rw [f185 21 (by decide)]; exact d1, d2⟩, ?_, by omega, e3, ?_⟩
  · show pUp (pUp (pUp M 188 _ _) 188 _ _) 185 17 _ o' = _
    rw [pUp_ne k1, pUp_ne k2, pUp_ne k2]
    exact a2 o' k1 k2 k3
  · show pUp (pUp (pUp M 188 _ _) 188 _ _) 185 17 _ 190 k = _
    rw [pUp_ne (by decide), pUp_ne (by decide), pUp_ne (by decide)]
  · refine code_app e1 e2 (fun k k1 k2 => em188 (by omega) (by omega)) ?_ ?_ hop
    · show pUp (pUp (pUp M 188 _ _) 188 _ _) 185 17 _ 188 _ = _
      rw [pUp_ne (by decide), pUp_other _ _ _ _ (fun z => by omega)]
      exact pUp_self _ _ _ _
    · show pUp (pUp (pUp M 188 _ _) 188 _ _) 185 17 _ 188 _ = _
      rw [pUp_ne (by decide)]
      exact pUp_self _ _ _ _
  · rw [em188 (by omega) (by omega)]
    exact e4
theorem c_emitQ {S : pScr} {d : Nat} {τ : fT} {s n i0 w n0 : Nat} {D D' : Nat × Nat} {ps : List Nat} {M0 M : pMem} {o v : Int32} (hT : pT τ) (h : PQ τ s n i0 D w ps n0 M0 M) (hop : opOk o.toInt v.toInt D D') (hw : w < 300) : cOk S (d + 1) 186 [.ref 185, .int o, .int v] (gSh, M) (fun r hp => r = none ∧ hp.1 = gSh ∧ PQ τ s n i0 D' (w + 1) ps n0 M0 hp.2 ∧ FK [17] M hp.2) := by
  refine (c_emit (t0 := 800 * s) (w := w) (ty_ref (pty hT h.1.1.1 1 rfl rfl)) h.1.2.1.1 h.1.2.1.2.1 (by have := h.1.1.2.2; omega)).mono ?_
  rintro r hp ⟨rfl, rfl⟩
  refine ⟨rfl, rfl, h.emit hT hop hw, fun f hf => ?_⟩
  have hf : f ≠ 17 := fun hz => hf (by rw [hz]; exact List.mem_singleton.mpr rfl)
  show pUp (pUp (pUp M 188 _ _) 188 _ _) 185 17 _ 185 f = _
  rw [pUp_other _ _ _ _ (fun z => hf z.2), pUp_ne (by decide), pUp_ne (by decide)]
/-- the pile's top is taken off -/
theorem PQ.pop {τ : fT} {s n i0 w n0 n1 p : Nat} {D : Nat × Nat} {t : List Nat} {M0 M M' : pMem} (h : PQ τ s n i0 D w (p :: t) n0 M0 M) (hM : tyM (tOf τ) M') (ho : ∀ o, o ≠ 185 → M' o = M o) (h15 : M' 185 15 = M 185 15) (h17 : M' 185 17 = M 185 17) (h20 : M' 185 20 = .int (nI t.length)) (h21 : M' 185 21 = .int (nI (n1 + nNon t))) (hn : n1 + nNon t ≤ 8) : PQ τ s n i0 D w t n1 M0 M' := by
  obtain ⟨⟨⟨a1, a2, a3⟩, ⟨b1, b2, b3⟩, ⟨c1, c2, c3⟩, d1, d2⟩, e1, e2, e3, e4⟩ := h
  refine ⟨⟨⟨hM, fun o k1 k2 k3 => by rw [ho o k1]; exact a2 o k1 k2 k3, a3⟩, ⟨by rw [h15]; exact b1, by rw [h17]; exact b2, TI_ext b3 (Nat.le_refl _) b3.2.1 (fun k _ => by rw [ho 188 (by decide)])⟩, ⟨pil_ext c1.2 (fun k _ => by rw [ho 190 (by decide)]), c2.2.2, h20⟩, h21, hn⟩, ?_, e2, e3, ?_⟩
  · rw [ho 188 (by decide)]
    exact e1
  · rw [ho 188 (by decide)]
    exact e4
theorem nNon_2 {t : List Nat} {p : Nat} (h : ¬ (3 ≤ p ∧ p ≤ 6)) : nNon (p :: t) = 1 + nNon t := by show (if 3 ≤ p ∧ p ≤ 6 then 0 else 1) + nNon t = _; rw [if_neg h]
theorem nNon_b {t : List Nat} {p : Nat} (h : 3 ≤ p ∧ p ≤ 6) : nNon (p :: t) = nNon t := by show (if 3 ≤ p ∧ p ≤ 6 then 0 else 1) + nNon t = _; rw [if_pos h]; omega
theorem nBin_2 {t : List Nat} {p : Nat} (h : ¬ (3 ≤ p ∧ p ≤ 6)) : nBin (p :: t) = nBin t := by show (if 3 ≤ p ∧ p ≤ 6 then 1 else 0) + nBin t = _; rw [if_neg h]; omega
theorem nBin_b {t : List Nat} {p : Nat} (h : 3 ≤ p ∧ p ≤ 6) : nBin (p :: t) = 1 + nBin t := by show (if 3 ≤ p ∧ p ≤ 6 then 1 else 0) + nBin t = _; rw [if_pos h]
theorem nPar_n {t : List Nat} {p : Nat} (h : p ≠ 40) : nPar (p :: t) = 1 + nPar t := by show (if p = 40 then 0 else 1) + nPar t = _; rw [if_neg h]
theorem nPar_le {t : List Nat} {p : Nat} : nPar t ≤ nPar (p :: t) := by show _ ≤ (if p = 40 then 0 else 1) + nPar t; omega
theorem nPar_40 {t : List Nat} : nPar (40 :: t) = nPar t := by show (if (40 : Nat) = 40 then 0 else 1) + nPar t = _; simp

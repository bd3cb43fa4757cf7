/-! by hand, printed by wip/gen/gen46.py -/
theorem WF.tr {A B C : pMem} (h1 : WF A B) (h2 : WF B C) : WF A C := fun o k1 k2 => (h2 o k1 k2).trans (h1 o k1 k2)
theorem ref_eq {i : Nat} {v : Value} (h : satE (1, 0, 0, [i]) v) : v = .ref i := ty_ref h
theorem c_clauses {S : pScr} {d t n : Nat} {M : pMem} (h5 : M 185 5 = .ref 188) (ht : t < 4) (hn : M 188 (800 * t) = .int (nI n)) : cOk S (d + 1) 212 [.ref 185, .int (nI t)] (gSh, M) (fun r hp => r = some (.int (nI n)) ∧ hp = (gSh, M)) := by
  refine c_of_ok (Nat.le_of_ble_eq_true rfl) ?_
  refine ok_seq 1 (σ' := (1, [(0, .ref 185), (1, .int (nI t))], [.int (nI t)], gSh, M)) rfl ?_
  refine ok_if 8 rfl rfl (fun _ => ?_) (fun hz => absurd (by simp only [pCP]; rw [hI_int (a := t) (by omega)]; omega) hz)
  refine ok_seq 2 (σ' := (12, [(0, .ref 185), (1, .int (nI t))], [M 185 5], gSh, M)) rfl ?_
  rw [h5]
  refine ok_seq 3 (σ' := (17, [(0, .ref 185), (1, .int (nI t))], [.int (((Int16.ofInt 800).toInt32) * (nI t)), .ref 188], gSh, M)) rfl ?_
  rw [(show (Int16.ofInt 800).toInt32 = nI 800 by decide), hI_mul 800 t]
  refine ok_iald (n := 3200) (v := nI n) rfl rfl (hI_in (by omega) (by decide)) (by rw [hI_nat (by omega)]; exact hn) ?_
  exact ok_ret (i := .ireturn) (len := 1) rfl rfl ⟨_, rfl, rfl, rfl⟩
theorem c_clausesN {S : pScr} {d : Nat} {x : Int32} {M : pMem} (hx : x.toInt < 0) : cOk S (d + 1) 212 [.ref 185, .int x] (gSh, M) (fun r hp => r = some (.int (nI 0)) ∧ hp = (gSh, M)) := by
  refine c_of_ok (Nat.le_of_ble_eq_true rfl) ?_
  refine ok_seq 1 (σ' := (1, [(0, .ref 185), (1, .int x)], [.int x], gSh, M)) rfl ?_
  refine ok_if 8 rfl rfl (fun hz => absurd hz (by simp only [pCP]; omega)) (fun _ => ?_)
  refine ok_seq 2 (σ' := (18, [(0, .ref 185), (1, .int x)], [.int (Int32.ofInt 0)], gSh, M)) rfl ?_
  rw [cI_0]
  exact ok_ret (i := .ireturn) (len := 1) rfl rfl ⟨_, rfl, rfl, rfl⟩
theorem c_sortAt {S : pScr} {d t k : Nat} {z : Int32} {M : pMem} (h5 : M 185 5 = .ref 188) (ht : t < 4) (hk : k < 12) (hz : M 188 (800 * t + 1 + 4 * k) = .int z) : cOk S (d + 1) 211 [.ref 185, .int (nI t), .int (nI k)] (gSh, M) (fun r hp => r = some (.int z) ∧ hp = (gSh, M)) := by
  refine c_of_ok (Nat.le_of_ble_eq_true rfl) ?_
  refine ok_seq 2 (σ' := (4, [(0, .ref 185), (1, .int (nI t)), (2, .int (nI k))], [M 185 5], gSh, M)) rfl ?_
  rw [h5]
  refine ok_seq 9 (σ' := (15, [(0, .ref 185), (1, .int (nI t)), (2, .int (nI k))], [.int (((((Int16.ofInt 800).toInt32) * (nI t)) + (Int32.ofInt 1)) + ((Int32.ofInt 4) * (nI k))), .ref 188], gSh, M)) rfl ?_
  rw [(show (Int16.ofInt 800).toInt32 = nI 800 by decide), hI_mul 800 t, cI_1, hI_add (800 * t) 1, cI_4, hI_mul 4 k, hI_add ((800 * t) + 1) (4 * k)]
  refine ok_iald (n := 3200) (v := z) rfl rfl (hI_in (by omega) (by decide)) (by rw [hI_nat (by omega)]; exact hz) ?_
  exact ok_ret (i := .ireturn) (len := 1) rfl rfl ⟨_, rfl, rfl, rfl⟩
abbrev anK (S : pScr) (d : Nat) (Q : Option Value → pHp → Prop) (σ : pSt) : Prop := pOk S 12 false 5 (pCode 215) d (fun i len τ' => ∃ v, pRet (some .boolean) i len τ'.2.2.1 = some v ∧ Q v (τ'.2.2.2.1, τ'.2.2.2.2)) σ
theorem an_end {S : pScr} {d k b wo : Nat} {so : Int32} {τ : fT} {M0 M : pMem} (hb : b < 2) (hwo : wo < 2) (hM : tyM (tOf τ) M) (hW : WF M0 M) : anK S d (fun r hp => hp.1 = gSh ∧ (r = some (.int (nI 0)) ∨ r = some (.int (nI 1))) ∧ tyM (tOf τ) hp.2 ∧ WF M0 hp.2) (70, [(4, .int (nI k)), (3, .int (nI b)), (0, .ref 185), (1, .int so), (2, .int (nI wo))], [], gSh, M) := by
  refine ok_seq 1 (σ' := (71, [(4, .int (nI k)), (3, .int (nI b)), (0, .ref 185), (1, .int so), (2, .int (nI wo))], [.int (nI b)], gSh, M)) rfl ?_
  refine ok_if 82 rfl rfl ?_ ?_
  · intro h1
    simp only [pCP] at h1
    rw [hI_int (a := b) (by omega)] at h1
    have h1 : ((b : Nat) : Int) = (0 : Int) := by omega
    refine ok_seq 1 (σ' := (83, [(4, .int (nI k)), (3, .int (nI b)), (0, .ref 185), (1, .int so), (2, .int (nI wo))], [.int (Int32.ofInt 0)], gSh, M)) rfl ?_
    rw [cI_0]
    exact ok_ret (i := .ireturn) (len := 1) rfl rfl ⟨some (.int (nI 0)), pb0, rfl, Or.inl rfl, hM, hW⟩
  · intro h1
    simp only [pCP] at h1
    rw [hI_int (a := b) (by omega)] at h1
    have h1 : ((b : Nat) : Int) ≠ (0 : Int) := by omega
    refine ok_seq 1 (σ' := (75, [(4, .int (nI k)), (3, .int (nI b)), (0, .ref 185), (1, .int so), (2, .int (nI wo))], [.int (nI wo)], gSh, M)) rfl ?_
    refine ok_if 82 rfl rfl ?_ ?_
    · intro h2
      simp only [pCP] at h2
      rw [hI_int (a := wo) (by omega)] at h2
      have h2 : ((wo : Nat) : Int) = (0 : Int) := by omega
      refine ok_seq 1 (σ' := (83, [(4, .int (nI k)), (3, .int (nI b)), (0, .ref 185), (1, .int so), (2, .int (nI wo))], [.int (Int32.ofInt 0)], gSh, M)) rfl ?_
      rw [cI_0]
      exact ok_ret (i := .ireturn) (len := 1) rfl rfl ⟨some (.int (nI 0)), pb0, rfl, Or.inl rfl, hM, hW⟩
    · intro h2
      simp only [pCP] at h2
      rw [hI_int (a := wo) (by omega)] at h2
      have h2 : ((wo : Nat) : Int) ≠ (0 : Int) := by omega
      refine ok_seq 2 (σ' := (83, [(4, .int (nI k)), (3, .int (nI b)), (0, .ref 185), (1, .int so), (2, .int (nI wo))], [.int (Int32.ofInt 1)], gSh, M)) rfl ?_
      rw [cI_1]
      exact ok_ret (i := .ireturn) (len := 1) rfl rfl ⟨some (.int (nI 1)), pb1, rfl, Or.inr rfl, hM, hW⟩
theorem an_loop {S : pScr} {d dW t n wo : Nat} {so : Int32} {τ : fT} {M0 : pMem} (hT : pW τ) (hH : WH τ S dW) (hg : gR M0) (ht : t < 4) (h3 : M0 186 3 = .int (nI t)) (hn : M0 188 (800 * t) = .int (nI n)) (hn12 : n ≤ 12) (hwo : wo < 2) : ∀ (r k b : Nat) (M : pMem), k + r = n → b < 2 → tyM (tOf τ) M → WF M0 M → anK S (d + dW + 2) (fun r hp => hp.1 = gSh ∧ (r = some (.int (nI 0)) ∨ r = some (.int (nI 1))) ∧ tyM (tOf τ) hp.2 ∧ WF M0 hp.2) (5, [(4, .int (nI k)), (3, .int (nI b)), (0, .ref 185), (1, .int so), (2, .int (nI wo))], [], gSh, M) := by
  intro r
  induction r with
  | zero =>
    intro k b M hk hb hM hW
    have h5 := ty_ref (pty hT.1 hM 1 rfl rfl)
    have ha := ty_ref (pty hT.1 hM 0 rfl rfl)
    have h3 : M 186 3 = .int (nI t) := by rw [hW 186 (by decide) (by decide)]; exact h3
    have hn : M 188 (800 * t) = .int (nI n) := by rw [hW 188 (by decide) (by decide)]; exact hn
    refine ok_seq 4 (σ' := (12, [(4, .int (nI k)), (3, .int (nI b)), (0, .ref 185), (1, .int so), (2, .int (nI wo))], [M 185 3, .ref 185, .int (nI k)], gSh, M)) rfl ?_
    rw [ha]
    refine ok_seq 1 (σ' := (13, [(4, .int (nI k)), (3, .int (nI b)), (0, .ref 185), (1, .int so), (2, .int (nI wo))], [.int (Int32.ofInt 3), .ref 186, .ref 185, .int (nI k)], gSh, M)) rfl ?_
    rw [cI_3]
    refine ok_iald (n := 280) (v := nI t) rfl rfl (hI_in (by omega) (by decide)) (by rw [hI_nat (by omega)]; exact h3) ?_
    refine ok_call (mi := 212) (as := [.ref 185, .int (nI t)]) (pc' := 17) (L' := [(4, .int (nI k)), (3, .int (nI b)), (0, .ref 185), (1, .int so), (2, .int (nI wo))]) (st' := [.int (nI k)]) (sh' := gSh) (M' := M) (i := .invokevirtual 277) (len := 3) rfl rfl ?_
    refine (((c_clauses (d := 0) h5 ht hn).deep (by omega))).mono ?_
    rintro v hp ⟨rfl, rfl⟩
    refine ok_icmp 70 rfl rfl (fun _ => ?_) (fun hz => absurd (by simp only [pCP]; rw [hI_int (a := k) (by omega), hI_int (a := n) (by omega)]; omega) hz)
    exact an_end hb hwo hM hW
  | succ r ih =>
    intro k b M hk hb hM hW
    have h5 := ty_ref (pty hT.1 hM 1 rfl rfl)
    have ha := ty_ref (pty hT.1 hM 0 rfl rfl)
    have h3 : M 186 3 = .int (nI t) := by rw [hW 186 (by decide) (by decide)]; exact h3
    have hn : M 188 (800 * t) = .int (nI n) := by rw [hW 188 (by decide) (by decide)]; exact hn
    obtain ⟨sz, hsz⟩ := pt188 hT.1 hM (k := 800 * t + 1 + 4 * k) (by omega)
    refine ok_seq 4 (σ' := (12, [(4, .int (nI k)), (3, .int (nI b)), (0, .ref 185), (1, .int so), (2, .int (nI wo))], [M 185 3, .ref 185, .int (nI k)], gSh, M)) rfl ?_
    rw [ha]
    refine ok_seq 1 (σ' := (13, [(4, .int (nI k)), (3, .int (nI b)), (0, .ref 185), (1, .int so), (2, .int (nI wo))], [.int (Int32.ofInt 3), .ref 186, .ref 185, .int (nI k)], gSh, M)) rfl ?_
    rw [cI_3]
    refine ok_iald (n := 280) (v := nI t) rfl rfl (hI_in (by omega) (by decide)) (by rw [hI_nat (by omega)]; exact h3) ?_
    refine ok_call (mi := 212) (as := [.ref 185, .int (nI t)]) (pc' := 17) (L' := [(4, .int (nI k)), (3, .int (nI b)), (0, .ref 185), (1, .int so), (2, .int (nI wo))]) (st' := [.int (nI k)]) (sh' := gSh) (M' := M) (i := .invokevirtual 277) (len := 3) rfl rfl ?_
    refine (((c_clauses (d := 0) h5 ht hn).deep (by omega))).mono ?_
    rintro v hp ⟨rfl, rfl⟩
    refine ok_icmp 70 rfl rfl (fun hz => absurd hz (by simp only [pCP]; rw [hI_int (a := k) (by omega), hI_int (a := n) (by omega)]; omega)) (fun _ => ?_)
    refine ok_seq 3 (σ' := (25, [(4, .int (nI k)), (3, .int (nI b)), (0, .ref 185), (1, .int so), (2, .int (nI wo))], [M 185 3, .ref 185], gSh, M)) rfl ?_
    rw [ha]
    refine ok_seq 1 (σ' := (26, [(4, .int (nI k)), (3, .int (nI b)), (0, .ref 185), (1, .int so), (2, .int (nI wo))], [.int (Int32.ofInt 3), .ref 186, .ref 185], gSh, M)) rfl ?_
    rw [cI_3]
    refine ok_iald (n := 280) (v := nI t) rfl rfl (hI_in (by omega) (by decide)) (by rw [hI_nat (by omega)]; exact h3) ?_
    refine ok_seq 1 (σ' := (29, [(4, .int (nI k)), (3, .int (nI b)), (0, .ref 185), (1, .int so), (2, .int (nI wo))], [.int (nI k), .int (nI t), .ref 185], gSh, M)) rfl ?_
    refine ok_call (mi := 211) (as := [.ref 185, .int (nI t), .int (nI k)]) (pc' := 32) (L' := [(4, .int (nI k)), (3, .int (nI b)), (0, .ref 185), (1, .int so), (2, .int (nI wo))]) (st' := []) (sh' := gSh) (M' := M) (i := .invokevirtual 280) (len := 3) rfl rfl ?_
    refine (((c_sortAt (d := 0) h5 ht (by omega) hsz).deep (by omega))).mono ?_
    rintro v hp ⟨rfl, rfl⟩
    refine ok_seq 1 (σ' := (33, [(4, .int (nI k)), (3, .int (nI b)), (0, .ref 185), (1, .int so), (2, .int (nI wo))], [.int so, .int sz], gSh, M)) rfl ?_
    refine ok_icmp 39 rfl rfl ?_ ?_
    · intro hs
      simp only [pCP] at hs
      have hs : (sz).toInt = (so).toInt := by omega
      refine ok_seq 5 (σ' := (46, [(3, .int (Int32.ofInt 0)), (4, .int (nI k)), (0, .ref 185), (1, .int so), (2, .int (nI wo))], [M 185 3, .ref 185], gSh, M)) rfl ?_
      rw [ha]
      rw [cI_0]
      refine ok_seq 1 (σ' := (47, [(3, .int (nI 0)), (4, .int (nI k)), (0, .ref 185), (1, .int so), (2, .int (nI wo))], [.int (Int32.ofInt 3), .ref 186, .ref 185], gSh, M)) rfl ?_
      rw [cI_3]
      refine ok_iald (n := 280) (v := nI t) rfl rfl (hI_in (by omega) (by decide)) (by rw [hI_nat (by omega)]; exact h3) ?_
      refine ok_seq 1 (σ' := (50, [(3, .int (nI 0)), (4, .int (nI k)), (0, .ref 185), (1, .int so), (2, .int (nI wo))], [.int (nI k), .int (nI t), .ref 185], gSh, M)) rfl ?_
      refine ok_call (mi := 210) (as := [.ref 185, .int (nI t), .int (nI k)]) (pc' := 53) (L' := [(3, .int (nI 0)), (4, .int (nI k)), (0, .ref 185), (1, .int so), (2, .int (nI wo))]) (st' := []) (sh' := gSh) (M' := M) (i := .invokevirtual 283) (len := 3) rfl rfl ?_
      refine ((c_work (d := d) hT hH hM (hW.gr hg) ht hn (by omega) hn12)).mono ?_
      rintro v ⟨sh2, M2⟩ ⟨rfl, hsh, hM2, hW2⟩
      have hsh : sh2 = gSh := hsh
      subst hsh
      dsimp only at hM2 hW2
      have h27 := ty_ref (pwy hT hM2 2 rfl rfl)
      obtain ⟨tb, htb, hz1⟩ := pt193 hT hM2 (k := 0) (by omega)
      refine ok_seq 2 (σ' := (57, [(3, .int (nI 0)), (4, .int (nI k)), (0, .ref 185), (1, .int so), (2, .int (nI wo))], [M2 185 27], gSh, M2)) rfl ?_
      rw [h27]
      refine ok_seq 1 (σ' := (58, [(3, .int (nI 0)), (4, .int (nI k)), (0, .ref 185), (1, .int so), (2, .int (nI wo))], [.int (Int32.ofInt 0), .ref 193], gSh, M2)) rfl ?_
      rw [cI_0]
      refine ok_bald (n := 330) (v := nI tb) rfl rfl (hI_in (by omega) (by decide)) (by rw [hI_nat (by omega)]; exact hz1) ?_
      refine ok_if 64 rfl rfl ?_ ?_
      · intro ht
        simp only [pCP] at ht
        rw [hI_int (a := tb) (by omega)] at ht
        have ht : ((tb : Nat) : Int) = (0 : Int) := by omega
        refine ok_seq 2 (σ' := (5, [(4, .int ((nI k) + (Int32.ofInt 1))), (3, .int (nI 0)), (0, .ref 185), (1, .int so), (2, .int (nI wo))], [], gSh, M2)) rfl ?_
        rw [cI_1, hI_add k 1]
        exact ih (k + 1) 0 M2 (by omega) (by decide) hM2 (hW.tr hW2)
      · intro ht
        simp only [pCP] at ht
        rw [hI_int (a := tb) (by omega)] at ht
        have ht : ((tb : Nat) : Int) ≠ (0 : Int) := by omega
        refine ok_seq 1 (σ' := (63, [(3, .int (nI 0)), (4, .int (nI k)), (0, .ref 185), (1, .int so), (2, .int (nI wo))], [.int (Int32.ofInt 1)], gSh, M2)) rfl ?_
        rw [cI_1]
        exact ok_ret (i := .ireturn) (len := 1) rfl rfl ⟨some (.int (nI 1)), pb1, rfl, Or.inr rfl, hM2, hW.tr hW2⟩
    · intro hs
      simp only [pCP] at hs
      have hs : (sz).toInt ≠ (so).toInt := by omega
      refine ok_seq 3 (σ' := (5, [(4, .int ((nI k) + (Int32.ofInt 1))), (3, .int (nI b)), (0, .ref 185), (1, .int so), (2, .int (nI wo))], [], gSh, M)) rfl ?_
      rw [cI_1, hI_add k 1]
      exact ih (k + 1) b M (by omega) hb hM hW
theorem h_isAny {S : pScr} {dW : Nat} {τ : fT} (hT : pW τ) (hH : WH τ S dW) : cnOk τ S (dW + 3) 215 ([(1, 0, 0, [185]), (0, 1, 6, []), (0, 0, 1, [])], [(0, 0, 1, [])], some [192, 193], [], []) := by
  intro vs M hvs hM hg hf
  match vs, hvs with
  | [v0, v1, v2], ⟨k0, ⟨so, k1, _⟩, k2, _⟩ =>
    obtain ⟨wo, hwo, k2⟩ := ty_nat k2
    have k0 := ty_ref k0
    have k1 : v1 = .int so := k1
    subst k0 k1 k2
    have post : ∀ (r : Option Value) (hp : pHp), (fun r hp => hp.1 = gSh ∧ (r = some (.int (nI 0)) ∨ r = some (.int (nI 1))) ∧ tyM (tOf τ) hp.2 ∧ WF M hp.2) r hp → (hp.1 = gSh ∧ tyM (tOf τ) hp.2 ∧ satS [(0, 0, 1, [])] r.toList ∧ frm (some [192, 193]) M hp.2 ∧ fctM [] hp.2) := by
      rintro r hp ⟨q1, q2, q3, q4⟩
      refine ⟨q1, q3, ?_, ⟨fun o ho => q4 o (fun hz => ho (by rw [hz]; decide)) (fun hz => ho (by rw [hz]; decide)), q4 188 (by decide) (by decide), q4 187 (by decide) (by decide), fun k _ => by rw [q4 186 (by decide) (by decide)]⟩, fun q hq => by cases hq⟩
      rcases q2 with rfl | rfl
      · exact ⟨sat_n (by decide) (by decide), trivial⟩
      · exact ⟨sat_n (by decide) (by decide), trivial⟩
    refine cOk.mono ?_ post
    refine c_of_ok (Nat.le_of_ble_eq_true rfl) ?_
    obtain ⟨tx, h3, t1, t2⟩ := ty_int (pwy hT hM 3 rfl rfl)
    have ha := ty_ref (pty hT.1 hM 0 rfl rfl)
    refine ok_seq 4 (σ' := (5, [(4, .int (Int32.ofInt 0)), (3, .int (Int32.ofInt 1)), (0, .ref 185), (1, .int so), (2, .int (nI wo))], [], gSh, M)) rfl ?_
    rw [cI_0, cI_1]
    by_cases hx : tx.toInt < 0
    · skip
      refine ok_seq 4 (σ' := (12, [(4, .int (nI 0)), (3, .int (nI 1)), (0, .ref 185), (1, .int so), (2, .int (nI wo))], [M 185 3, .ref 185, .int (nI 0)], gSh, M)) rfl ?_
      rw [ha]
      refine ok_seq 1 (σ' := (13, [(4, .int (nI 0)), (3, .int (nI 1)), (0, .ref 185), (1, .int so), (2, .int (nI wo))], [.int (Int32.ofInt 3), .ref 186, .ref 185, .int (nI 0)], gSh, M)) rfl ?_
      rw [cI_3]
      refine ok_iald (n := 280) (v := tx) rfl rfl (hI_in (by omega) (by decide)) (by rw [hI_nat (by omega)]; exact h3) ?_
      refine ok_call (mi := 212) (as := [.ref 185, .int tx]) (pc' := 17) (L' := [(4, .int (nI 0)), (3, .int (nI 1)), (0, .ref 185), (1, .int so), (2, .int (nI wo))]) (st' := [.int (nI 0)]) (sh' := gSh) (M' := M) (i := .invokevirtual 277) (len := 3) rfl rfl ?_
      refine (((c_clausesN (d := 0) hx).deep (by omega))).mono ?_
      rintro v hp ⟨rfl, rfl⟩
      refine ok_icmp 70 rfl rfl (fun _ => ?_) (fun hz => absurd (by simp only [pCP]; rw [hI_int (a := 0) (by omega)]; omega) hz)
      exact an_end (by decide) (by omega) hM (fun _ _ _ => rfl)
    · obtain ⟨t, ht, et⟩ := ty_nat (x := []) (hi := 3) ⟨tx, rfl, (show (0 : Int) ≤ tx.toInt by omega), t2⟩
      cases et
      obtain ⟨n, hn12, hn, -⟩ := hg.2.2 t (by omega)
      have hfin := an_loop (S := S) (d := 0) (so := so) (wo := wo) hT hH hg (by omega) h3 hn hn12 (by omega) n 0 1 M (by omega) (by decide) hM (fun _ _ _ => rfl)
      rw [Nat.zero_add] at hfin
      exact hfin
theorem cmp_ge0 {z : Int64} (h : 0 ≤ (lg_cmp z (Int64.ofNat 0)).toInt) : 0 ≤ z.toInt := by
  unfold lg_cmp at h
  split at h
  · rename_i h1
    have := Int64.lt_iff_toInt_lt.mp h1
    have e : (Int64.ofNat 0).toInt = 0 := by decide
    omega
  · split at h
    · rename_i h1
      rw [h1]
      decide
    · exact absurd h (by decide)
theorem cmp_le99 {z : Int64} (h : (lg_cmp z (99 : Int64)).toInt ≤ 0) : z.toInt ≤ 99 := by
  unfold lg_cmp at h
  split at h
  · exact absurd h (by decide)
  · rename_i h1
    have e : (99 : Int64).toInt = 99 := by decide
    have h2 : ¬ (99 : Int64).toInt < z.toInt := fun hz => h1 (Int64.lt_iff_toInt_lt.mpr hz)
    omega
theorem l2i_in {z : Int64} (h0 : 0 ≤ z.toInt) (h9 : z.toInt ≤ 99) : 0 ≤ z.toInt32.toInt ∧ z.toInt32.toInt ≤ 99 := by
  have e : z.toInt32.toInt = z.toInt := by
    rw [Int64.toInt_toInt32]
    exact Int.bmod_eq_of_le (by omega) (by omega)
  omega
abbrev smK (S : pScr) (d : Nat) (Q : Option Value → pHp → Prop) (σ : pSt) : Prop := pOk S 12 false 4 (pCode 216) d (fun i len τ' => ∃ v, pRet (some .int) i len τ'.2.2.1 = some v ∧ Q v (τ'.2.2.2.1, τ'.2.2.2.2)) σ
theorem sm_loop {S : pScr} {d dW t n : Nat} {so wo : Int32} {hi : Int} {τ : fT} {M0 : pMem} (hT : pW τ) (hH : WH τ S dW) (hg : gR M0) (ht : t < 4) (h3 : M0 186 3 = .int (nI t)) (hn : M0 188 (800 * t) = .int (nI n)) (hn12 : n ≤ 12) (hhi : 99 ≤ hi) (hwo : 0 ≤ wo.toInt ∧ wo.toInt ≤ hi) : ∀ (r k : Nat) (M : pMem), k + r = n → tyM (tOf τ) M → WF M0 M → smK S (d + dW + 2) (fun r hp => hp.1 = gSh ∧ (∃ z : Int32, r = some (.int z) ∧ 0 ≤ z.toInt ∧ z.toInt ≤ hi) ∧ tyM (tOf τ) hp.2 ∧ WF M0 hp.2) (2, [(3, .int (nI k)), (0, .ref 185), (1, .int so), (2, .int wo)], [], gSh, M) := by
  intro r
  induction r with
  | zero =>
    intro k M hk hM hW
    have h5 := ty_ref (pty hT.1 hM 1 rfl rfl)
    have ha := ty_ref (pty hT.1 hM 0 rfl rfl)
    have h3 : M 186 3 = .int (nI t) := by rw [hW 186 (by decide) (by decide)]; exact h3
    have hn : M 188 (800 * t) = .int (nI n) := by rw [hW 188 (by decide) (by decide)]; exact hn
    refine ok_seq 4 (σ' := (8, [(3, .int (nI k)), (0, .ref 185), (1, .int so), (2, .int wo)], [M 185 3, .ref 185, .int (nI k)], gSh, M)) rfl ?_
    rw [ha]
    refine ok_seq 1 (σ' := (9, [(3, .int (nI k)), (0, .ref 185), (1, .int so), (2, .int wo)], [.int (Int32.ofInt 3), .ref 186, .ref 185, .int (nI k)], gSh, M)) rfl ?_
    rw [cI_3]
    refine ok_iald (n := 280) (v := nI t) rfl rfl (hI_in (by omega) (by decide)) (by rw [hI_nat (by omega)]; exact h3) ?_
    refine ok_call (mi := 212) (as := [.ref 185, .int (nI t)]) (pc' := 13) (L' := [(3, .int (nI k)), (0, .ref 185), (1, .int so), (2, .int wo)]) (st' := [.int (nI k)]) (sh' := gSh) (M' := M) (i := .invokevirtual 277) (len := 3) rfl rfl ?_
    refine (((c_clauses (d := 0) h5 ht hn).deep (by omega))).mono ?_
    rintro v hp ⟨rfl, rfl⟩
    refine ok_icmp 92 rfl rfl (fun _ => ?_) (fun hz => absurd (by simp only [pCP]; rw [hI_int (a := k) (by omega), hI_int (a := n) (by omega)]; omega) hz)
    refine ok_seq 1 (σ' := (93, [(3, .int (nI k)), (0, .ref 185), (1, .int so), (2, .int wo)], [.int wo], gSh, M)) rfl ?_
    exact ok_ret (i := .ireturn) (len := 1) rfl rfl ⟨some (.int wo), rfl, rfl, ⟨wo, rfl, hwo.1, hwo.2⟩, hM, hW⟩
  | succ r ih =>
    intro k M hk hM hW
    have h5 := ty_ref (pty hT.1 hM 1 rfl rfl)
    have ha := ty_ref (pty hT.1 hM 0 rfl rfl)
    have h3 : M 186 3 = .int (nI t) := by rw [hW 186 (by decide) (by decide)]; exact h3
    have hn : M 188 (800 * t) = .int (nI n) := by rw [hW 188 (by decide) (by decide)]; exact hn
    obtain ⟨sz, hsz⟩ := pt188 hT.1 hM (k := 800 * t + 1 + 4 * k) (by omega)
    refine ok_seq 4 (σ' := (8, [(3, .int (nI k)), (0, .ref 185), (1, .int so), (2, .int wo)], [M 185 3, .ref 185, .int (nI k)], gSh, M)) rfl ?_
    rw [ha]
    refine ok_seq 1 (σ' := (9, [(3, .int (nI k)), (0, .ref 185), (1, .int so), (2, .int wo)], [.int (Int32.ofInt 3), .ref 186, .ref 185, .int (nI k)], gSh, M)) rfl ?_
    rw [cI_3]
    refine ok_iald (n := 280) (v := nI t) rfl rfl (hI_in (by omega) (by decide)) (by rw [hI_nat (by omega)]; exact h3) ?_
    refine ok_call (mi := 212) (as := [.ref 185, .int (nI t)]) (pc' := 13) (L' := [(3, .int (nI k)), (0, .ref 185), (1, .int so), (2, .int wo)]) (st' := [.int (nI k)]) (sh' := gSh) (M' := M) (i := .invokevirtual 277) (len := 3) rfl rfl ?_
    refine (((c_clauses (d := 0) h5 ht hn).deep (by omega))).mono ?_
    rintro v hp ⟨rfl, rfl⟩
    refine ok_icmp 92 rfl rfl (fun hz => absurd hz (by simp only [pCP]; rw [hI_int (a := k) (by omega), hI_int (a := n) (by omega)]; omega)) (fun _ => ?_)
    refine ok_seq 3 (σ' := (21, [(3, .int (nI k)), (0, .ref 185), (1, .int so), (2, .int wo)], [M 185 3, .ref 185], gSh, M)) rfl ?_
    rw [ha]
    refine ok_seq 1 (σ' := (22, [(3, .int (nI k)), (0, .ref 185), (1, .int so), (2, .int wo)], [.int (Int32.ofInt 3), .ref 186, .ref 185], gSh, M)) rfl ?_
    rw [cI_3]
    refine ok_iald (n := 280) (v := nI t) rfl rfl (hI_in (by omega) (by decide)) (by rw [hI_nat (by omega)]; exact h3) ?_
    refine ok_seq 1 (σ' := (24, [(3, .int (nI k)), (0, .ref 185), (1, .int so), (2, .int wo)], [.int (nI k), .int (nI t), .ref 185], gSh, M)) rfl ?_
    refine ok_call (mi := 211) (as := [.ref 185, .int (nI t), .int (nI k)]) (pc' := 27) (L' := [(3, .int (nI k)), (0, .ref 185), (1, .int so), (2, .int wo)]) (st' := []) (sh' := gSh) (M' := M) (i := .invokevirtual 280) (len := 3) rfl rfl ?_
    refine (((c_sortAt (d := 0) h5 ht (by omega) hsz).deep (by omega))).mono ?_
    rintro v hp ⟨rfl, rfl⟩
    refine ok_seq 1 (σ' := (28, [(3, .int (nI k)), (0, .ref 185), (1, .int so), (2, .int wo)], [.int so, .int sz], gSh, M)) rfl ?_
    refine ok_icmp 34 rfl rfl ?_ ?_
    · intro hs
      simp only [pCP] at hs
      have hs : (sz).toInt = (so).toInt := by omega
      refine ok_seq 3 (σ' := (39, [(3, .int (nI k)), (0, .ref 185), (1, .int so), (2, .int wo)], [M 185 3, .ref 185], gSh, M)) rfl ?_
      rw [ha]
      refine ok_seq 1 (σ' := (40, [(3, .int (nI k)), (0, .ref 185), (1, .int so), (2, .int wo)], [.int (Int32.ofInt 3), .ref 186, .ref 185], gSh, M)) rfl ?_
      rw [cI_3]
      refine ok_iald (n := 280) (v := nI t) rfl rfl (hI_in (by omega) (by decide)) (by rw [hI_nat (by omega)]; exact h3) ?_
      refine ok_seq 1 (σ' := (42, [(3, .int (nI k)), (0, .ref 185), (1, .int so), (2, .int wo)], [.int (nI k), .int (nI t), .ref 185], gSh, M)) rfl ?_
      refine ok_call (mi := 210) (as := [.ref 185, .int (nI t), .int (nI k)]) (pc' := 45) (L' := [(3, .int (nI k)), (0, .ref 185), (1, .int so), (2, .int wo)]) (st' := []) (sh' := gSh) (M' := M) (i := .invokevirtual 283) (len := 3) rfl rfl ?_
      refine ((c_work (d := d) hT hH hM (hW.gr hg) ht hn (by omega) hn12)).mono ?_
      rintro v ⟨sh2, M2⟩ ⟨rfl, hsh, hM2, hW2⟩
      have hsh : sh2 = gSh := hsh
      subst hsh
      dsimp only at hM2 hW2
      have h26 := ty_ref (pwy hT hM2 1 rfl rfl)
      obtain ⟨z1, hz1⟩ := pt192 hT hM2 (k := 0) (by omega)
      refine ok_seq 2 (σ' := (49, [(3, .int (nI k)), (0, .ref 185), (1, .int so), (2, .int wo)], [M2 185 26], gSh, M2)) rfl ?_
      rw [h26]
      refine ok_seq 1 (σ' := (50, [(3, .int (nI k)), (0, .ref 185), (1, .int so), (2, .int wo)], [.int (Int32.ofInt 0), .ref 192], gSh, M2)) rfl ?_
      rw [cI_0]
      refine ok_lald (n := 330) (v := z1) rfl rfl (hI_in (by omega) (by decide)) (by rw [hI_nat (by omega)]; exact hz1) ?_
      refine ok_seq 2 (σ' := (53, [(3, .int (nI k)), (0, .ref 185), (1, .int so), (2, .int wo)], [.int (lg_cmp z1 (Int64.ofNat 0))], gSh, M2)) rfl ?_
      refine ok_if 60 rfl rfl ?_ ?_
      · intro hc0
        simp only [pCP] at hc0
        have hc0 : (lg_cmp z1 (Int64.ofNat 0)).toInt ≥ (0 : Int) := by omega
        have q0 := cmp_ge0 (z := z1) (by omega)
        refine ok_seq 2 (σ' := (64, [(3, .int (nI k)), (0, .ref 185), (1, .int so), (2, .int wo)], [M2 185 26], gSh, M2)) rfl ?_
        rw [h26]
        refine ok_seq 1 (σ' := (65, [(3, .int (nI k)), (0, .ref 185), (1, .int so), (2, .int wo)], [.int (Int32.ofInt 0), .ref 192], gSh, M2)) rfl ?_
        rw [cI_0]
        refine ok_lald (n := 330) (v := z1) rfl rfl (hI_in (by omega) (by decide)) (by rw [hI_nat (by omega)]; exact hz1) ?_
        refine ok_seq 2 (σ' := (70, [(3, .int (nI k)), (0, .ref 185), (1, .int so), (2, .int wo)], [.int (lg_cmp z1 ((99 : Int64)))], gSh, M2)) rfl ?_
        refine ok_if 78 rfl rfl ?_ ?_
        · intro hc9
          simp only [pCP] at hc9
          have hc9 : (lg_cmp z1 ((99 : Int64))).toInt ≤ (0 : Int) := by omega
          have q9 := cmp_le99 (z := z1) (by omega)
          refine ok_seq 2 (σ' := (82, [(3, .int (nI k)), (0, .ref 185), (1, .int so), (2, .int wo)], [M2 185 26], gSh, M2)) rfl ?_
          rw [h26]
          refine ok_seq 1 (σ' := (83, [(3, .int (nI k)), (0, .ref 185), (1, .int so), (2, .int wo)], [.int (Int32.ofInt 0), .ref 192], gSh, M2)) rfl ?_
          rw [cI_0]
          refine ok_lald (n := 330) (v := z1) rfl rfl (hI_in (by omega) (by decide)) (by rw [hI_nat (by omega)]; exact hz1) ?_
          refine ok_seq 1 (σ' := (85, [(3, .int (nI k)), (0, .ref 185), (1, .int so), (2, .int wo)], [.int ((z1).toInt32)], gSh, M2)) rfl ?_
          exact ok_ret (i := .ireturn) (len := 1) rfl rfl ⟨some (.int z1.toInt32), rfl, rfl, ⟨_, rfl, (l2i_in q0 q9).1, by have := (l2i_in q0 q9).2; omega⟩, hM2, hW.tr hW2⟩
        · intro hc9
          simp only [pCP] at hc9
          have hc9 : (lg_cmp z1 ((99 : Int64))).toInt > (0 : Int) := by omega
          refine ok_seq 2 (σ' := (85, [(3, .int (nI k)), (0, .ref 185), (1, .int so), (2, .int wo)], [.int ((Int8.ofInt 99).toInt32)], gSh, M2)) rfl ?_
          rw [(show (Int8.ofInt 99).toInt32 = nI 99 by decide)]
          exact ok_ret (i := .ireturn) (len := 1) rfl rfl ⟨some (.int (nI 99)), rfl, rfl, ⟨_, rfl, by decide, by rw [hI_int (a := 99) (by omega)]; omega⟩, hM2, hW.tr hW2⟩
      · intro hc0
        simp only [pCP] at hc0
        have hc0 : (lg_cmp z1 (Int64.ofNat 0)).toInt < (0 : Int) := by omega
        refine ok_seq 2 (σ' := (85, [(3, .int (nI k)), (0, .ref 185), (1, .int so), (2, .int wo)], [.int (Int32.ofInt 0)], gSh, M2)) rfl ?_
        rw [cI_0]
        exact ok_ret (i := .ireturn) (len := 1) rfl rfl ⟨some (.int (nI 0)), rfl, rfl, ⟨_, rfl, by decide, by rw [hI_int (a := 0) (by omega)]; omega⟩, hM2, hW.tr hW2⟩
    · intro hs
      simp only [pCP] at hs
      have hs : (sz).toInt ≠ (so).toInt := by omega
      refine ok_seq 3 (σ' := (2, [(3, .int ((nI k) + (Int32.ofInt 1))), (0, .ref 185), (1, .int so), (2, .int wo)], [], gSh, M)) rfl ?_
      rw [cI_1, hI_add k 1]
      exact ih (k + 1) M (by omega) hM hW
theorem h_sumOf {S : pScr} {dW : Nat} {τ : fT} {hi : Int} (hT : pW τ) (hH : WH τ S dW) (hhi : 99 ≤ hi) : cnOk τ S (dW + 3) 216 ([(1, 0, 0, [185]), (0, 1, 6, []), (0, 0, hi, [])], [(0, 0, hi, [])], some [192, 193], [], []) := by
  intro vs M hvs hM hg hf
  match vs, hvs with
  | [v0, v1, v2], ⟨k0, ⟨so, k1, _⟩, ⟨wo, k2, w1, w2⟩, _⟩ =>
    have k0 := ty_ref k0
    have k1 : v1 = .int so := k1
    have k2 : v2 = .int wo := k2
    subst k0 k1 k2
    have post : ∀ (r : Option Value) (hp : pHp), (fun r hp => hp.1 = gSh ∧ (∃ z : Int32, r = some (.int z) ∧ 0 ≤ z.toInt ∧ z.toInt ≤ hi) ∧ tyM (tOf τ) hp.2 ∧ WF M hp.2) r hp → (hp.1 = gSh ∧ tyM (tOf τ) hp.2 ∧ satS [(0, 0, hi, [])] r.toList ∧ frm (some [192, 193]) M hp.2 ∧ fctM [] hp.2) := by
      rintro r hp ⟨q1, ⟨z, rfl, z1, z2⟩, q3, q4⟩
      exact ⟨q1, q3, ⟨⟨z, rfl, z1, z2⟩, trivial⟩, ⟨fun o ho => q4 o (fun hz => ho (by rw [hz]; decide)) (fun hz => ho (by rw [hz]; decide)), q4 188 (by decide) (by decide), q4 187 (by decide) (by decide), fun k _ => by rw [q4 186 (by decide) (by decide)]⟩, fun q hq => by cases hq⟩
    refine cOk.mono ?_ post
    refine c_of_ok (Nat.le_of_ble_eq_true rfl) ?_
    obtain ⟨tx, h3, t1, t2⟩ := ty_int (pwy hT hM 3 rfl rfl)
    have ha := ty_ref (pty hT.1 hM 0 rfl rfl)
    refine ok_seq 2 (σ' := (2, [(3, .int (Int32.ofInt 0)), (0, .ref 185), (1, .int so), (2, .int wo)], [], gSh, M)) rfl ?_
    rw [cI_0]
    by_cases hx : tx.toInt < 0
    · skip
      refine ok_seq 4 (σ' := (8, [(3, .int (nI 0)), (0, .ref 185), (1, .int so), (2, .int wo)], [M 185 3, .ref 185, .int (nI 0)], gSh, M)) rfl ?_
      rw [ha]
      refine ok_seq 1 (σ' := (9, [(3, .int (nI 0)), (0, .ref 185), (1, .int so), (2, .int wo)], [.int (Int32.ofInt 3), .ref 186, .ref 185, .int (nI 0)], gSh, M)) rfl ?_
      rw [cI_3]
      refine ok_iald (n := 280) (v := tx) rfl rfl (hI_in (by omega) (by decide)) (by rw [hI_nat (by omega)]; exact h3) ?_
      refine ok_call (mi := 212) (as := [.ref 185, .int tx]) (pc' := 13) (L' := [(3, .int (nI 0)), (0, .ref 185), (1, .int so), (2, .int wo)]) (st' := [.int (nI 0)]) (sh' := gSh) (M' := M) (i := .invokevirtual 277) (len := 3) rfl rfl ?_
      refine (((c_clausesN (d := 0) hx).deep (by omega))).mono ?_
      rintro v hp ⟨rfl, rfl⟩
      refine ok_icmp 92 rfl rfl (fun _ => ?_) (fun hz => absurd (by simp only [pCP]; rw [hI_int (a := 0) (by omega)]; omega) hz)
      refine ok_seq 1 (σ' := (93, [(3, .int (nI 0)), (0, .ref 185), (1, .int so), (2, .int wo)], [.int wo], gSh, M)) rfl ?_
      exact ok_ret (i := .ireturn) (len := 1) rfl rfl ⟨some (.int wo), rfl, rfl, ⟨wo, rfl, w1, w2⟩, hM, fun _ _ _ => rfl⟩
    · obtain ⟨t, ht, et⟩ := ty_nat (x := []) (hi := 3) ⟨tx, rfl, (show (0 : Int) ≤ tx.toInt by omega), t2⟩
      cases et
      obtain ⟨n, hn12, hn, -⟩ := hg.2.2 t (by omega)
      have hfin := sm_loop (S := S) (d := 0) (so := so) (wo := wo) hT hH hg (by omega) h3 hn hn12 hhi ⟨w1, w2⟩ n 0 M (by omega) hM (fun _ _ _ => rfl)
      rw [Nat.zero_add] at hfin
      exact hfin
/-- kinds that orderBy uses; the runner's cell is of kind e -/
def pOL : List ((Nat × Nat) × aE) := [((185, 42), eA), ((185, 43), eA), ((185, 45), (0, 0, 40, [])), ((185, 46), (0, 0, 3, [])), ((186, 0), eA)]
def pO (τ : fT) (e : aE) : Prop := pW τ ∧ (∀ q ∈ pOL, rowAt (τ q.1.1) q.1.2 = some q.2) ∧ rowAt (τ 185) 41 = some e ∧ e.1 = 0
theorem poy {τ : fT} {M : pMem} {e0 : aE} (hT : pO τ e0) (hM : tyM (tOf τ) M) (i : Nat) {o k : Nat} {e : aE} (h : pOL[i]? = some ((o, k), e)) (ho : Nat.ble (o + 1) 205 = true) : satE e (M o k) := hM o k e (Nat.le_of_ble_eq_true ho) (by rw [tyAt_row hT.1.1.1]; exact hT.2.1 _ (List.mem_of_getElem? h))
/-- what the machine tells of nameCell and canRun -/
def OH (τ : fT) (S : pScr) (dO : Nat) (e : aE) : Prop := cnOk τ S dO 214 ([(1, 0, 0, [185]), (0, 612, 612, []), e, eA, eA], [], some [191], [], []) ∧ cnOk τ S dO 276 ([(1, 0, 0, [185]), eA], [(0, 0, 1, [])], some [191, 192, 193], [], [])
def OF (M0 M : pMem) : Prop := ∀ o, o ≠ 191 → o ≠ 192 → o ≠ 193 → M o = M0 o
theorem OF.gr {M0 M : pMem} (h : OF M0 M) (hg : gR M0) : gR M := gR_keep (h 188 (by decide) (by decide) (by decide)) (h 187 (by decide) (by decide) (by decide)) (fun k _ => by rw [h 186 (by decide) (by decide) (by decide)]) hg
theorem c_canRun {τ : fT} {S : pScr} {dO : Nat} {e : aE} {M : pMem} (hH : OH τ S dO e) (hM : tyM (tOf τ) M) (hg : gR M) (x : Int32) : cOk S dO 276 [.ref 185, .int x] (gSh, M) (fun r hp => hp.1 = gSh ∧ (∃ b : Nat, b ≤ 1 ∧ r = some (.int (nI b))) ∧ tyM (tOf τ) hp.2 ∧ OF M hp.2) := by
  refine (hH.2 [.ref 185, .int x] M ⟨r185, sat_a x, trivial⟩ hM hg (fun q hq => by cases hq)).mono ?_
  rintro r hp ⟨q1, q2, q3, q4, -⟩
  cases r with
  | none => exact q3.elim
  | some v =>
    obtain ⟨b, hb, eb⟩ := ty_nat q3.1
    have eb : v = .int (nI b) := eb
    exact ⟨q1, ⟨b, by omega, by rw [eb]⟩, q2, fun o k1 k2 k3 => q4.1 o (by simp only [List.mem_cons, List.not_mem_nil, or_false, not_or]; exact ⟨k1, k2, k3⟩)⟩
theorem pu191 {τ : fT} {M : pMem} {k : Nat} (hT : pW τ) (hM : tyM (tOf τ) M) (h : k < 11) (z : Int32) : tyM (tOf τ) (pUp M 191 k (.int z)) := tyM_up hM (e := eA) (by rw [tyAt_row hT.1.1]; show rowAt (τ 191) k = _; rw [hT.2.2.1]; exact row1_at h) (sat_a z)
abbrev obK (S : pScr) (d : Nat) (Q : Option Value → pHp → Prop) (σ : pSt) : Prop := pOk S 12 false 4 (pCode 277) d (fun i len τ' => ∃ v, pRet (some .int) i len τ'.2.2.1 = some v ∧ Q v (τ'.2.2.2.1, τ'.2.2.2.2)) σ
theorem ob_loop {S : pScr} {d dW dO t n : Nat} {e0 : aE} {τ : fT} {M0 : pMem} (hT : pO τ e0) (hW : WH τ S dW) (hH : OH τ S dO e0) (hg : gR M0) (ht : t < 4) (hn : M0 188 (800 * t) = .int (nI n)) (hn12 : n ≤ 12) : ∀ (r k : Nat) (M : pMem) (L : pLs), k + r = n → tyM (tOf τ) M → OF M0 M → (L = [(2, .int (nI k)), (0, .ref 185), (1, .int (nI t))] ∨ ∃ y3 : Int32, L = [(2, .int (nI k)), (3, .int y3), (0, .ref 185), (1, .int (nI t))]) → obK S (d + dW + dO + 2) (fun r hp => hp.1 = gSh ∧ (∃ z : Int32, r = some (.int z)) ∧ tyM (tOf τ) hp.2 ∧ OF M0 hp.2) (2, L, [], gSh, M) := by
  have fin : ∀ (M : pMem) (L : pLs) , tyM (tOf τ) M → OF M0 M → pLd L 0 = some (.ref 185) → obK S (d + dW + dO + 2) (fun r hp => hp.1 = gSh ∧ (∃ z : Int32, r = some (.int z)) ∧ tyM (tOf τ) hp.2 ∧ OF M0 hp.2) (120, L, [], gSh, M) := by
    intro M L hM hF hL
    refine ok_step (i := .aload_n 0) (len := 1) (σ := (121, L, [.ref 185], gSh, M)) rfl (by show pLoadA 0 1 120 L [] gSh M = _; unfold pLoadA; rw [hL]; rfl) ?_
    refine ok_seq 1 (σ' := (122, L, [.int (Int32.ofInt 4), .ref 185], gSh, M)) rfl ?_
    refine ok_call (mi := 276) (as := [.ref 185, .int (Int32.ofInt 4)]) (pc' := 125) (L' := L) (st' := []) (sh' := gSh) (M' := M) (i := .invokevirtual 449) (len := 3) rfl rfl ?_
    refine ((c_canRun hH hM (hF.gr hg) _).deep (by omega)).mono ?_
    rintro v ⟨sh2, M2⟩ ⟨hsh, ⟨b, hb, rfl⟩, hM2, hF2⟩
    have hsh : sh2 = gSh := hsh
    subst hsh
    dsimp only at hM2 hF2
    have hF3 : OF M0 M2 := fun o k1 k2 k3 => (hF2 o k1 k2 k3).trans (hF o k1 k2 k3)
    refine ok_if 132 rfl rfl (fun _ => ?_) (fun _ => ?_)
    · refine ok_seq 1 (σ' := (134, L, [.int (Int8.ofInt 6).toInt32], gSh, M2)) rfl ?_
      exact ok_ret (i := .ireturn) (len := 1) rfl rfl ⟨_, rfl, rfl, ⟨_, rfl⟩, hM2, hF3⟩
    · refine ok_seq 2 (σ' := (134, L, [.int (Int32.ofInt 4)], gSh, M2)) rfl ?_
      exact ok_ret (i := .ireturn) (len := 1) rfl rfl ⟨_, rfl, rfl, ⟨_, rfl⟩, hM2, hF3⟩
  intro r
  induction r with
  | zero =>
    intro k M L hk hM hF hL
    have h5 := ty_ref (pty hT.1.1 hM 1 rfl rfl)
    have hn : M 188 (800 * t) = .int (nI n) := by rw [hF 188 (by decide) (by decide) (by decide)]; exact hn
    rcases hL with rfl | ⟨y3, rfl⟩
    · refine ok_seq 3 (σ' := (5, [(2, .int (nI k)), (0, .ref 185), (1, .int (nI t))], [.int (nI t), .ref 185, .int (nI k)], gSh, M)) rfl ?_
      refine ok_call (mi := 212) (as := [.ref 185, .int (nI t)]) (pc' := 8) (L' := [(2, .int (nI k)), (0, .ref 185), (1, .int (nI t))]) (st' := [.int (nI k)]) (sh' := gSh) (M' := M) (i := .invokevirtual 277) (len := 3) rfl rfl ?_
      refine (((c_clauses (d := 0) h5 ht hn).deep (by omega))).mono ?_
      rintro v hp ⟨rfl, rfl⟩
      refine ok_icmp 120 rfl rfl (fun _ => ?_) (fun hz => absurd (by simp only [pCP]; rw [hI_int (a := k) (by omega), hI_int (a := n) (by omega)]; omega) hz)
      exact fin M _ hM hF rfl
    · refine ok_seq 3 (σ' := (5, [(2, .int (nI k)), (3, .int y3), (0, .ref 185), (1, .int (nI t))], [.int (nI t), .ref 185, .int (nI k)], gSh, M)) rfl ?_
      refine ok_call (mi := 212) (as := [.ref 185, .int (nI t)]) (pc' := 8) (L' := [(2, .int (nI k)), (3, .int y3), (0, .ref 185), (1, .int (nI t))]) (st' := [.int (nI k)]) (sh' := gSh) (M' := M) (i := .invokevirtual 277) (len := 3) rfl rfl ?_
      refine (((c_clauses (d := 0) h5 ht hn).deep (by omega))).mono ?_
      rintro v hp ⟨rfl, rfl⟩
      refine ok_icmp 120 rfl rfl (fun _ => ?_) (fun hz => absurd (by simp only [pCP]; rw [hI_int (a := k) (by omega), hI_int (a := n) (by omega)]; omega) hz)
      exact fin M _ hM hF rfl
  | succ r ih =>
    intro k M L hk hM hF hL
    have h5 := ty_ref (pty hT.1.1 hM 1 rfl rfl)
    have hn : M 188 (800 * t) = .int (nI n) := by rw [hF 188 (by decide) (by decide) (by decide)]; exact hn
    obtain ⟨sz, hsz⟩ := pt188 hT.1.1 hM (k := 800 * t + 1 + 4 * k) (by omega)
    have ha := ty_ref (pty hT.1.1 hM 0 rfl rfl)
    have hcell : satE e0 (M 185 41) := hM 185 41 e0 (by decide) (by rw [tyAt_row hT.1.1.1]; exact hT.2.2.1)
    obtain ⟨cz, hcz, -⟩ := satE0 (show Nat.beq e0.1 0 = true by rw [hT.2.2.2]; rfl) hcell
    rw [hcz] at hcell
    obtain ⟨wz, hwz, -⟩ := ty_int (poy hT hM 3 rfl rfl)
    obtain ⟨nz, hnz, -⟩ := ty_int (poy hT hM 2 rfl rfl)
    obtain ⟨hz0, hhz, -⟩ := ty_int (poy hT hM 4 rfl rfl)
    rcases hL with rfl | ⟨y3, rfl⟩
    · refine ok_seq 3 (σ' := (5, [(2, .int (nI k)), (0, .ref 185), (1, .int (nI t))], [.int (nI t), .ref 185, .int (nI k)], gSh, M)) rfl ?_
      refine ok_call (mi := 212) (as := [.ref 185, .int (nI t)]) (pc' := 8) (L' := [(2, .int (nI k)), (0, .ref 185), (1, .int (nI t))]) (st' := [.int (nI k)]) (sh' := gSh) (M' := M) (i := .invokevirtual 277) (len := 3) rfl rfl ?_
      refine (((c_clauses (d := 0) h5 ht hn).deep (by omega))).mono ?_
      rintro v hp ⟨rfl, rfl⟩
      refine ok_icmp 120 rfl rfl (fun hz => absurd hz (by simp only [pCP]; rw [hI_int (a := k) (by omega), hI_int (a := n) (by omega)]; omega)) (fun _ => ?_)
      refine ok_seq 3 (σ' := (14, [(2, .int (nI k)), (0, .ref 185), (1, .int (nI t))], [.int (nI k), .int (nI t), .ref 185], gSh, M)) rfl ?_
      refine ok_call (mi := 211) (as := [.ref 185, .int (nI t), .int (nI k)]) (pc' := 17) (L' := [(2, .int (nI k)), (0, .ref 185), (1, .int (nI t))]) (st' := []) (sh' := gSh) (M' := M) (i := .invokevirtual 280) (len := 3) rfl rfl ?_
      refine (((c_sortAt (d := 0) h5 ht (by omega) hsz).deep (by omega))).mono ?_
      rintro v hp ⟨rfl, rfl⟩
      refine ok_seq 1 (σ' := (18, [(2, .int (nI k)), (0, .ref 185), (1, .int (nI t))], [.int (Int32.ofInt 4), .int sz], gSh, M)) rfl ?_
      rw [cI_4]
      refine ok_icmp 24 rfl rfl ?_ ?_
      · intro hs
        simp only [pCP] at hs
        rw [hI_int (a := 4) (by omega)] at hs
        have hs : (sz).toInt = ((4 : Nat) : Int) := by omega
        refine ok_seq 4 (σ' := (32, [(2, .int (nI k)), (0, .ref 185), (1, .int (nI t))], [M 185 41, .int ((Int16.ofInt 612).toInt32), .ref 185], gSh, M)) rfl ?_
        rw [hcz]
        rw [(show (Int16.ofInt 612).toInt32 = nI 612 by decide)]
        refine ok_seq 2 (σ' := (36, [(2, .int (nI k)), (0, .ref 185), (1, .int (nI t))], [M 185 46, .int cz, .int (nI 612), .ref 185], gSh, M)) rfl ?_
        rw [hwz]
        refine ok_seq 2 (σ' := (40, [(2, .int (nI k)), (0, .ref 185), (1, .int (nI t))], [M 185 3, .int wz, .int cz, .int (nI 612), .ref 185], gSh, M)) rfl ?_
        rw [ha]
        refine ok_seq 1 (σ' := (41, [(2, .int (nI k)), (0, .ref 185), (1, .int (nI t))], [.int (Int32.ofInt 0), .ref 186, .int wz, .int cz, .int (nI 612), .ref 185], gSh, M)) rfl ?_
        rw [cI_0]
        refine ok_iald (n := 280) (v := hz0) rfl rfl (hI_in (by omega) (by decide)) (by rw [hI_nat (by omega)]; exact hhz) ?_
        refine ok_seq 2 (σ' := (46, [(2, .int (nI k)), (0, .ref 185), (1, .int (nI t))], [M 185 45, .int hz0, .int wz, .int cz, .int (nI 612), .ref 185], gSh, M)) rfl ?_
        rw [hnz]
        refine ok_seq 1 (σ' := (47, [(2, .int (nI k)), (0, .ref 185), (1, .int (nI t))], [.int (hz0 + nz), .int wz, .int cz, .int (nI 612), .ref 185], gSh, M)) rfl ?_
        refine ok_call (mi := 214) (as := [.ref 185, .int (nI 612), .int cz, .int wz, .int (hz0 + nz)]) (pc' := 50) (L' := [(2, .int (nI k)), (0, .ref 185), (1, .int (nI t))]) (st' := []) (sh' := gSh) (M' := M) (i := .invokevirtual 288) (len := 3) rfl rfl ?_
        refine (((hH.1 [.ref 185, .int (nI 612), .int cz, .int wz, .int (hz0 + nz)] M ⟨r185, ⟨nI 612, rfl, by decide, by decide⟩, hcell, sat_a _, sat_a _, trivial⟩ hM (hF.gr hg) (fun q hq => by cases hq)).deep (by omega))).mono ?_
        rintro v ⟨sh2, M2⟩ ⟨hsh, hM2, hv, hf2, -⟩
        have hsh : sh2 = gSh := hsh
        subst hsh
        dsimp only at hM2 hf2
        have ev : v = none := by
          cases v with
          | none => rfl
          | some v => exact hv.elim
        subst ev
        have hF2 : OF M0 M2 := fun o k1 k2 k3 => (hf2.1 o (by simp only [List.mem_cons, List.not_mem_nil, or_false]; exact k1)).trans (hF o k1 k2 k3)
        have h25 := ty_ref (pwy hT.1 hM2 0 rfl rfl)
        obtain ⟨qz, hqz, -⟩ := ty_int (poy hT hM2 0 rfl rfl)
        obtain ⟨bz, hbz, -⟩ := ty_int (poy hT hM2 1 rfl rfl)
        refine ok_seq 2 (σ' := (54, [(2, .int (nI k)), (0, .ref 185), (1, .int (nI t))], [M2 185 25], gSh, M2)) rfl ?_
        rw [h25]
        refine ok_seq 3 (σ' := (60, [(2, .int (nI k)), (0, .ref 185), (1, .int (nI t))], [M2 185 42, .int ((Int8.ofInt 9).toInt32), .ref 191], gSh, M2)) rfl ?_
        rw [hqz]
        rw [(show (Int8.ofInt 9).toInt32 = nI 9 by decide)]
        refine ok_iast (n := 11) rfl rfl (hI_in (by omega) (by decide)) ?_
        rw [hI_nat (a := 9) (by omega)]
        refine ok_seq 2 (σ' := (65, [(2, .int (nI k)), (0, .ref 185), (1, .int (nI t))], [M2 185 25], gSh, pUp M2 191 9 (.int qz))) rfl ?_
        rw [h25]
        refine ok_seq 3 (σ' := (71, [(2, .int (nI k)), (0, .ref 185), (1, .int (nI t))], [M2 185 43, .int ((Int8.ofInt 10).toInt32), .ref 191], gSh, pUp M2 191 9 (.int qz))) rfl ?_
        rw [hbz]
        rw [(show (Int8.ofInt 10).toInt32 = nI 10 by decide)]
        refine ok_iast (n := 11) rfl rfl (hI_in (by omega) (by decide)) ?_
        rw [hI_nat (a := 10) (by omega)]
        refine ok_seq 3 (σ' := (75, [(2, .int (nI k)), (0, .ref 185), (1, .int (nI t))], [.int (nI k), .int (nI t), .ref 185], gSh, pUp (pUp M2 191 9 (.int qz)) 191 10 (.int bz))) rfl ?_
        have hM3 : tyM (tOf τ) (pUp (pUp M2 191 9 (.int qz)) 191 10 (.int bz)) := pu191 hT.1 (pu191 hT.1 hM2 (by decide) _) (by decide) _
        have hF3 : OF M0 (pUp (pUp M2 191 9 (.int qz)) 191 10 (.int bz)) := fun o k1 k2 k3 => by rw [pUp_ne k1, pUp_ne k1]; exact hF2 o k1 k2 k3
        refine ok_call (mi := 210) (as := [.ref 185, .int (nI t), .int (nI k)]) (pc' := 78) (L' := [(2, .int (nI k)), (0, .ref 185), (1, .int (nI t))]) (st' := []) (sh' := gSh) (M' := pUp (pUp M2 191 9 (.int qz)) 191 10 (.int bz)) (i := .invokevirtual 283) (len := 3) rfl rfl ?_
        refine (((c_work (d := 0) hT.1 hW hM3 (hF3.gr hg) ht (n := n) (by rw [hF3 188 (by decide) (by decide) (by decide), ← hF 188 (by decide) (by decide) (by decide)]; exact hn) (by omega) hn12).deep (by omega))).mono ?_
        rintro v ⟨sh2, M4⟩ ⟨rfl, hsh, hM4, hW4⟩
        have hsh : sh2 = gSh := hsh
        subst hsh
        dsimp only at hM4 hW4
        have hF4 : OF M0 M4 := fun o k1 k2 k3 => (hW4 o k2 k3).trans (hF3 o k1 k2 k3)
        have h54 := ty_ref (pty hT.1.1 hM4 1 rfl rfl)
        have h274 := ty_ref (pwy hT.1 hM4 2 rfl rfl)
        obtain ⟨oz, hoz⟩ := pt188 hT.1.1 hM4 (k := 800 * t + 2 + 4 * k) (by omega)
        obtain ⟨tb, htb, hz1⟩ := pt193 hT.1 hM4 (k := 0) (by omega)
        refine ok_seq 2 (σ' := (82, [(2, .int (nI k)), (0, .ref 185), (1, .int (nI t))], [M4 185 5], gSh, M4)) rfl ?_
        rw [h54]
        refine ok_seq 9 (σ' := (93, [(2, .int (nI k)), (0, .ref 185), (1, .int (nI t))], [.int (((((Int16.ofInt 800).toInt32) * (nI t)) + (Int32.ofInt 2)) + ((Int32.ofInt 4) * (nI k))), .ref 188], gSh, M4)) rfl ?_
        rw [(show (Int16.ofInt 800).toInt32 = nI 800 by decide), hI_mul 800 t, cI_2, hI_add (800 * t) 2, cI_4, hI_mul 4 k, hI_add ((800 * t) + 2) (4 * k)]
        refine ok_iald (n := 3200) (v := oz) rfl rfl (hI_in (by omega) (by decide)) (by rw [hI_nat (by omega)]; exact hoz) ?_
        refine ok_seq 3 (σ' := (99, [(3, .int oz), (2, .int (nI k)), (0, .ref 185), (1, .int (nI t))], [M4 185 27], gSh, M4)) rfl ?_
        rw [h274]
        refine ok_seq 1 (σ' := (100, [(3, .int oz), (2, .int (nI k)), (0, .ref 185), (1, .int (nI t))], [.int (Int32.ofInt 0), .ref 193], gSh, M4)) rfl ?_
        rw [cI_0]
        refine ok_bald (n := 330) (v := nI tb) rfl rfl (hI_in (by omega) (by decide)) (by rw [hI_nat (by omega)]; exact hz1) ?_
        refine ok_if 114 rfl rfl ?_ ?_
        · intro htb0
          simp only [pCP] at htb0
          rw [hI_int (a := tb) (by omega)] at htb0
          have htb0 : ((tb : Nat) : Int) = (0 : Int) := by omega
          refine ok_seq 2 (σ' := (2, [(2, .int ((nI k) + (Int32.ofInt 1))), (3, .int oz), (0, .ref 185), (1, .int (nI t))], [], gSh, M4)) rfl ?_
          rw [cI_1, hI_add k 1]
          exact ih (k + 1) M4 _ (by omega) hM4 hF4 (Or.inr ⟨oz, rfl⟩)
        · intro htb0
          simp only [pCP] at htb0
          rw [hI_int (a := tb) (by omega)] at htb0
          have htb0 : ((tb : Nat) : Int) ≠ (0 : Int) := by omega
          refine ok_seq 2 (σ' := (106, [(3, .int oz), (2, .int (nI k)), (0, .ref 185), (1, .int (nI t))], [.int oz, .ref 185], gSh, M4)) rfl ?_
          refine ok_call (mi := 276) (as := [.ref 185, .int oz]) (pc' := 109) (L' := [(3, .int oz), (2, .int (nI k)), (0, .ref 185), (1, .int (nI t))]) (st' := []) (sh' := gSh) (M' := M4) (i := .invokevirtual 449) (len := 3) rfl rfl ?_
          refine (((c_canRun hH hM4 (hF4.gr hg) oz).deep (by omega))).mono ?_
          rintro v ⟨sh2, M5⟩ ⟨hsh, ⟨b, hb, rfl⟩, hM5, hF5⟩
          have hsh : sh2 = gSh := hsh
          subst hsh
          dsimp only at hM5 hF5
          have hF6 : OF M0 M5 := fun o k1 k2 k3 => (hF5 o k1 k2 k3).trans (hF4 o k1 k2 k3)
          refine ok_if 114 rfl rfl ?_ ?_
          · intro hb0
            simp only [pCP] at hb0
            rw [hI_int (a := b) (by omega)] at hb0
            have hb0 : ((b : Nat) : Int) = (0 : Int) := by omega
            refine ok_seq 2 (σ' := (2, [(2, .int ((nI k) + (Int32.ofInt 1))), (3, .int oz), (0, .ref 185), (1, .int (nI t))], [], gSh, M5)) rfl ?_
            rw [cI_1, hI_add k 1]
            exact ih (k + 1) M5 _ (by omega) hM5 hF6 (Or.inr ⟨oz, rfl⟩)
          · intro hb0
            simp only [pCP] at hb0
            rw [hI_int (a := b) (by omega)] at hb0
            have hb0 : ((b : Nat) : Int) ≠ (0 : Int) := by omega
            refine ok_seq 1 (σ' := (113, [(3, .int oz), (2, .int (nI k)), (0, .ref 185), (1, .int (nI t))], [.int oz], gSh, M5)) rfl ?_
            exact ok_ret (i := .ireturn) (len := 1) rfl rfl ⟨some (.int oz), rfl, rfl, ⟨_, rfl⟩, hM5, hF6⟩
      · intro hs
        simp only [pCP] at hs
        rw [hI_int (a := 4) (by omega)] at hs
        have hs : (sz).toInt ≠ ((4 : Nat) : Int) := by omega
        refine ok_seq 3 (σ' := (2, [(2, .int ((nI k) + (Int32.ofInt 1))), (0, .ref 185), (1, .int (nI t))], [], gSh, M)) rfl ?_
        rw [cI_1, hI_add k 1]
        exact ih (k + 1) M _ (by omega) hM hF (Or.inl rfl)
    · refine ok_seq 3 (σ' := (5, [(2, .int (nI k)), (3, .int y3), (0, .ref 185), (1, .int (nI t))], [.int (nI t), .ref 185, .int (nI k)], gSh, M)) rfl ?_
      refine ok_call (mi := 212) (as := [.ref 185, .int (nI t)]) (pc' := 8) (L' := [(2, .int (nI k)), (3, .int y3), (0, .ref 185), (1, .int (nI t))]) (st' := [.int (nI k)]) (sh' := gSh) (M' := M) (i := .invokevirtual 277) (len := 3) rfl rfl ?_
      refine (((c_clauses (d := 0) h5 ht hn).deep (by omega))).mono ?_
      rintro v hp ⟨rfl, rfl⟩
      refine ok_icmp 120 rfl rfl (fun hz => absurd hz (by simp only [pCP]; rw [hI_int (a := k) (by omega), hI_int (a := n) (by omega)]; omega)) (fun _ => ?_)
      refine ok_seq 3 (σ' := (14, [(2, .int (nI k)), (3, .int y3), (0, .ref 185), (1, .int (nI t))], [.int (nI k), .int (nI t), .ref 185], gSh, M)) rfl ?_
      refine ok_call (mi := 211) (as := [.ref 185, .int (nI t), .int (nI k)]) (pc' := 17) (L' := [(2, .int (nI k)), (3, .int y3), (0, .ref 185), (1, .int (nI t))]) (st' := []) (sh' := gSh) (M' := M) (i := .invokevirtual 280) (len := 3) rfl rfl ?_
      refine (((c_sortAt (d := 0) h5 ht (by omega) hsz).deep (by omega))).mono ?_
      rintro v hp ⟨rfl, rfl⟩
      refine ok_seq 1 (σ' := (18, [(2, .int (nI k)), (3, .int y3), (0, .ref 185), (1, .int (nI t))], [.int (Int32.ofInt 4), .int sz], gSh, M)) rfl ?_
      rw [cI_4]
      refine ok_icmp 24 rfl rfl ?_ ?_
      · intro hs
        simp only [pCP] at hs
        rw [hI_int (a := 4) (by omega)] at hs
        have hs : (sz).toInt = ((4 : Nat) : Int) := by omega
        refine ok_seq 4 (σ' := (32, [(2, .int (nI k)), (3, .int y3), (0, .ref 185), (1, .int (nI t))], [M 185 41, .int ((Int16.ofInt 612).toInt32), .ref 185], gSh, M)) rfl ?_
        rw [hcz]
        rw [(show (Int16.ofInt 612).toInt32 = nI 612 by decide)]
        refine ok_seq 2 (σ' := (36, [(2, .int (nI k)), (3, .int y3), (0, .ref 185), (1, .int (nI t))], [M 185 46, .int cz, .int (nI 612), .ref 185], gSh, M)) rfl ?_
        rw [hwz]
        refine ok_seq 2 (σ' := (40, [(2, .int (nI k)), (3, .int y3), (0, .ref 185), (1, .int (nI t))], [M 185 3, .int wz, .int cz, .int (nI 612), .ref 185], gSh, M)) rfl ?_
        rw [ha]
        refine ok_seq 1 (σ' := (41, [(2, .int (nI k)), (3, .int y3), (0, .ref 185), (1, .int (nI t))], [.int (Int32.ofInt 0), .ref 186, .int wz, .int cz, .int (nI 612), .ref 185], gSh, M)) rfl ?_
        rw [cI_0]
        refine ok_iald (n := 280) (v := hz0) rfl rfl (hI_in (by omega) (by decide)) (by rw [hI_nat (by omega)]; exact hhz) ?_
        refine ok_seq 2 (σ' := (46, [(2, .int (nI k)), (3, .int y3), (0, .ref 185), (1, .int (nI t))], [M 185 45, .int hz0, .int wz, .int cz, .int (nI 612), .ref 185], gSh, M)) rfl ?_
        rw [hnz]
        refine ok_seq 1 (σ' := (47, [(2, .int (nI k)), (3, .int y3), (0, .ref 185), (1, .int (nI t))], [.int (hz0 + nz), .int wz, .int cz, .int (nI 612), .ref 185], gSh, M)) rfl ?_
        refine ok_call (mi := 214) (as := [.ref 185, .int (nI 612), .int cz, .int wz, .int (hz0 + nz)]) (pc' := 50) (L' := [(2, .int (nI k)), (3, .int y3), (0, .ref 185), (1, .int (nI t))]) (st' := []) (sh' := gSh) (M' := M) (i := .invokevirtual 288) (len := 3) rfl rfl ?_
        refine (((hH.1 [.ref 185, .int (nI 612), .int cz, .int wz, .int (hz0 + nz)] M ⟨r185, ⟨nI 612, rfl, by decide, by decide⟩, hcell, sat_a _, sat_a _, trivial⟩ hM (hF.gr hg) (fun q hq => by cases hq)).deep (by omega))).mono ?_
        rintro v ⟨sh2, M2⟩ ⟨hsh, hM2, hv, hf2, -⟩
        have hsh : sh2 = gSh := hsh
        subst hsh
        dsimp only at hM2 hf2
        have ev : v = none := by
          cases v with
          | none => rfl
          | some v => exact hv.elim
        subst ev
        have hF2 : OF M0 M2 := fun o k1 k2 k3 => (hf2.1 o (by simp only [List.mem_cons, List.not_mem_nil, or_false]; exact k1)).trans (hF o k1 k2 k3)
        have h25 := ty_ref (pwy hT.1 hM2 0 rfl rfl)
        obtain ⟨qz, hqz, -⟩ := ty_int (poy hT hM2 0 rfl rfl)
        obtain ⟨bz, hbz, -⟩ := ty_int (poy hT hM2 1 rfl rfl)
        refine ok_seq 2 (σ' := (54, [(2, .int (nI k)), (3, .int y3), (0, .ref 185), (1, .int (nI t))], [M2 185 25], gSh, M2)) rfl ?_
        rw [h25]
        refine ok_seq 3 (σ' := (60, [(2, .int (nI k)), (3, .int y3), (0, .ref 185), (1, .int (nI t))], [M2 185 42, .int ((Int8.ofInt 9).toInt32), .ref 191], gSh, M2)) rfl ?_
        rw [hqz]
        rw [(show (Int8.ofInt 9).toInt32 = nI 9 by decide)]
        refine ok_iast (n := 11) rfl rfl (hI_in (by omega) (by decide)) ?_
        rw [hI_nat (a := 9) (by omega)]
        refine ok_seq 2 (σ' := (65, [(2, .int (nI k)), (3, .int y3), (0, .ref 185), (1, .int (nI t))], [M2 185 25], gSh, pUp M2 191 9 (.int qz))) rfl ?_
        rw [h25]
        refine ok_seq 3 (σ' := (71, [(2, .int (nI k)), (3, .int y3), (0, .ref 185), (1, .int (nI t))], [M2 185 43, .int ((Int8.ofInt 10).toInt32), .ref 191], gSh, pUp M2 191 9 (.int qz))) rfl ?_
        rw [hbz]
        rw [(show (Int8.ofInt 10).toInt32 = nI 10 by decide)]
        refine ok_iast (n := 11) rfl rfl (hI_in (by omega) (by decide)) ?_
        rw [hI_nat (a := 10) (by omega)]
        refine ok_seq 3 (σ' := (75, [(2, .int (nI k)), (3, .int y3), (0, .ref 185), (1, .int (nI t))], [.int (nI k), .int (nI t), .ref 185], gSh, pUp (pUp M2 191 9 (.int qz)) 191 10 (.int bz))) rfl ?_
        have hM3 : tyM (tOf τ) (pUp (pUp M2 191 9 (.int qz)) 191 10 (.int bz)) := pu191 hT.1 (pu191 hT.1 hM2 (by decide) _) (by decide) _
        have hF3 : OF M0 (pUp (pUp M2 191 9 (.int qz)) 191 10 (.int bz)) := fun o k1 k2 k3 => by rw [pUp_ne k1, pUp_ne k1]; exact hF2 o k1 k2 k3
        refine ok_call (mi := 210) (as := [.ref 185, .int (nI t), .int (nI k)]) (pc' := 78) (L' := [(2, .int (nI k)), (3, .int y3), (0, .ref 185), (1, .int (nI t))]) (st' := []) (sh' := gSh) (M' := pUp (pUp M2 191 9 (.int qz)) 191 10 (.int bz)) (i := .invokevirtual 283) (len := 3) rfl rfl ?_
        refine (((c_work (d := 0) hT.1 hW hM3 (hF3.gr hg) ht (n := n) (by rw [hF3 188 (by decide) (by decide) (by decide), ← hF 188 (by decide) (by decide) (by decide)]; exact hn) (by omega) hn12).deep (by omega))).mono ?_
        rintro v ⟨sh2, M4⟩ ⟨rfl, hsh, hM4, hW4⟩
        have hsh : sh2 = gSh := hsh
        subst hsh
        dsimp only at hM4 hW4
        have hF4 : OF M0 M4 := fun o k1 k2 k3 => (hW4 o k2 k3).trans (hF3 o k1 k2 k3)
        have h54 := ty_ref (pty hT.1.1 hM4 1 rfl rfl)
        have h274 := ty_ref (pwy hT.1 hM4 2 rfl rfl)
        obtain ⟨oz, hoz⟩ := pt188 hT.1.1 hM4 (k := 800 * t + 2 + 4 * k) (by omega)
        obtain ⟨tb, htb, hz1⟩ := pt193 hT.1 hM4 (k := 0) (by omega)
        refine ok_seq 2 (σ' := (82, [(2, .int (nI k)), (3, .int y3), (0, .ref 185), (1, .int (nI t))], [M4 185 5], gSh, M4)) rfl ?_
        rw [h54]
        refine ok_seq 9 (σ' := (93, [(2, .int (nI k)), (3, .int y3), (0, .ref 185), (1, .int (nI t))], [.int (((((Int16.ofInt 800).toInt32) * (nI t)) + (Int32.ofInt 2)) + ((Int32.ofInt 4) * (nI k))), .ref 188], gSh, M4)) rfl ?_
        rw [(show (Int16.ofInt 800).toInt32 = nI 800 by decide), hI_mul 800 t, cI_2, hI_add (800 * t) 2, cI_4, hI_mul 4 k, hI_add ((800 * t) + 2) (4 * k)]
        refine ok_iald (n := 3200) (v := oz) rfl rfl (hI_in (by omega) (by decide)) (by rw [hI_nat (by omega)]; exact hoz) ?_
        refine ok_seq 3 (σ' := (99, [(3, .int oz), (2, .int (nI k)), (0, .ref 185), (1, .int (nI t))], [M4 185 27], gSh, M4)) rfl ?_
        rw [h274]
        refine ok_seq 1 (σ' := (100, [(3, .int oz), (2, .int (nI k)), (0, .ref 185), (1, .int (nI t))], [.int (Int32.ofInt 0), .ref 193], gSh, M4)) rfl ?_
        rw [cI_0]
        refine ok_bald (n := 330) (v := nI tb) rfl rfl (hI_in (by omega) (by decide)) (by rw [hI_nat (by omega)]; exact hz1) ?_
        refine ok_if 114 rfl rfl ?_ ?_
        · intro htb0
          simp only [pCP] at htb0
          rw [hI_int (a := tb) (by omega)] at htb0
          have htb0 : ((tb : Nat) : Int) = (0 : Int) := by omega
          refine ok_seq 2 (σ' := (2, [(2, .int ((nI k) + (Int32.ofInt 1))), (3, .int oz), (0, .ref 185), (1, .int (nI t))], [], gSh, M4)) rfl ?_
          rw [cI_1, hI_add k 1]
          exact ih (k + 1) M4 _ (by omega) hM4 hF4 (Or.inr ⟨oz, rfl⟩)
        · intro htb0
          simp only [pCP] at htb0
          rw [hI_int (a := tb) (by omega)] at htb0
          have htb0 : ((tb : Nat) : Int) ≠ (0 : Int) := by omega
          refine ok_seq 2 (σ' := (106, [(3, .int oz), (2, .int (nI k)), (0, .ref 185), (1, .int (nI t))], [.int oz, .ref 185], gSh, M4)) rfl ?_
          refine ok_call (mi := 276) (as := [.ref 185, .int oz]) (pc' := 109) (L' := [(3, .int oz), (2, .int (nI k)), (0, .ref 185), (1, .int (nI t))]) (st' := []) (sh' := gSh) (M' := M4) (i := .invokevirtual 449) (len := 3) rfl rfl ?_
          refine (((c_canRun hH hM4 (hF4.gr hg) oz).deep (by omega))).mono ?_
          rintro v ⟨sh2, M5⟩ ⟨hsh, ⟨b, hb, rfl⟩, hM5, hF5⟩
          have hsh : sh2 = gSh := hsh
          subst hsh
          dsimp only at hM5 hF5
          have hF6 : OF M0 M5 := fun o k1 k2 k3 => (hF5 o k1 k2 k3).trans (hF4 o k1 k2 k3)
          refine ok_if 114 rfl rfl ?_ ?_
          · intro hb0
            simp only [pCP] at hb0
            rw [hI_int (a := b) (by omega)] at hb0
            have hb0 : ((b : Nat) : Int) = (0 : Int) := by omega
            refine ok_seq 2 (σ' := (2, [(2, .int ((nI k) + (Int32.ofInt 1))), (3, .int oz), (0, .ref 185), (1, .int (nI t))], [], gSh, M5)) rfl ?_
            rw [cI_1, hI_add k 1]
            exact ih (k + 1) M5 _ (by omega) hM5 hF6 (Or.inr ⟨oz, rfl⟩)
          · intro hb0
            simp only [pCP] at hb0
            rw [hI_int (a := b) (by omega)] at hb0
            have hb0 : ((b : Nat) : Int) ≠ (0 : Int) := by omega
            refine ok_seq 1 (σ' := (113, [(3, .int oz), (2, .int (nI k)), (0, .ref 185), (1, .int (nI t))], [.int oz], gSh, M5)) rfl ?_
            exact ok_ret (i := .ireturn) (len := 1) rfl rfl ⟨some (.int oz), rfl, rfl, ⟨_, rfl⟩, hM5, hF6⟩
      · intro hs
        simp only [pCP] at hs
        rw [hI_int (a := 4) (by omega)] at hs
        have hs : (sz).toInt ≠ ((4 : Nat) : Int) := by omega
        refine ok_seq 3 (σ' := (2, [(2, .int ((nI k) + (Int32.ofInt 1))), (3, .int y3), (0, .ref 185), (1, .int (nI t))], [], gSh, M)) rfl ?_
        rw [cI_1, hI_add k 1]
        exact ih (k + 1) M _ (by omega) hM hF (Or.inr ⟨y3, rfl⟩)
theorem h_orderBy {S : pScr} {dW dO : Nat} {e0 : aE} {τ : fT} (hT : pO τ e0) (hW : WH τ S dW) (hH : OH τ S dO e0) : cnOk τ S (dW + dO + 3) 277 ([(1, 0, 0, [185]), (0, 0, 3, [])], [eA], some [191, 192, 193], [], []) := by
  intro vs M hvs hM hg hf
  match vs, hvs with
  | [v0, v1], ⟨k0, k1, _⟩ =>
    obtain ⟨t, ht, k1⟩ := ty_nat k1
    have k0 := ty_ref k0
    subst k0 k1
    have post : ∀ (r : Option Value) (hp : pHp), (fun r hp => hp.1 = gSh ∧ (∃ z : Int32, r = some (.int z)) ∧ tyM (tOf τ) hp.2 ∧ OF M hp.2) r hp → (hp.1 = gSh ∧ tyM (tOf τ) hp.2 ∧ satS [eA] r.toList ∧ frm (some [191, 192, 193]) M hp.2 ∧ fctM [] hp.2) := by
      rintro r hp ⟨q1, ⟨z, rfl⟩, q3, q4⟩
      exact ⟨q1, q3, ⟨sat_a z, trivial⟩, ⟨fun o ho => q4 o (fun hz => ho (by rw [hz]; decide)) (fun hz => ho (by rw [hz]; decide)) (fun hz => ho (by rw [hz]; decide)), q4 188 (by decide) (by decide) (by decide), q4 187 (by decide) (by decide) (by decide), fun k _ => by rw [q4 186 (by decide) (by decide) (by decide)]⟩, fun q hq => by cases hq⟩
    refine cOk.mono ?_ post
    refine c_of_ok (Nat.le_of_ble_eq_true rfl) ?_
    obtain ⟨n, hn12, hn, -⟩ := hg.2.2 t (by omega)
    refine ok_seq 2 (σ' := (2, [(2, .int (Int32.ofInt 0)), (0, .ref 185), (1, .int (nI t))], [], gSh, M)) rfl ?_
    rw [cI_0]
    have hfin := ob_loop (S := S) (d := 0) hT hW hH hg (by omega) hn hn12 n 0 M _ (by omega) hM (fun _ _ _ _ => rfl) (Or.inl rfl)
    rw [show 0 + dW + dO + 2 = dW + dO + 2 by omega] at hfin
    exact hfin

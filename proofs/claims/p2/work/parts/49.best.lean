/-! by hand, printed by wip/gen/gen49.py -/
/-- the answer is not this number -/
noncomputable def neK (o : Int) : fKap := fun v w _ => fCln w (@List.rec aV (fun _ => Bool) false (fun a r _ => bI (fEmp r) (fIv w.1 a (fun lo hi => bI (fLe hi (iAdd o (-1))) true (fLe (iAdd o 1) lo))) false) v)
theorem neK_ok {τ : fT} {o : Int} {v : List aV} {w : aW} {h : fHy} {ρ : Nat → Value} {hp : pHp} (hk : neK o v w h = true) (hW : aWor (tOf τ) gSh w ρ hp.1 hp.2) : ∃ z : Int32, v.map (aval ρ) = [.int z] ∧ z.toInt ≠ o := by
  obtain ⟨-, -, q3⟩ := fCln_ok hk hW
  cases v with
  | nil => cases q3
  | cons a r =>
    obtain ⟨q4, q5⟩ := bI_and (show bI (fEmp r) (fIv w.1 a (fun lo hi => bI (fLe hi (iAdd o (-1))) true (fLe (iAdd o 1) lo))) false = true from q3)
    have e := fEmp_ok q4
    subst e
    obtain ⟨z, lo, hi, hz, z1, z2, q6, -⟩ := fIv_ok hW.1 q5
    refine ⟨z, by rw [List.map_cons, List.map_nil, hz], ?_⟩
    rcases bI_if q6 with ⟨q7, -⟩ | ⟨-, q7⟩
    · have := fLe_t q7
      rw [iAdd_eq] at this
      omega
    · have := fLe_t q7
      rw [iAdd_eq] at this
      omega
abbrev loC (N : Int) : fCn := ([(1, 0, 0, [136]), (0, 0, 11, []), (0, 0, N, []), (0, 0, 1, [])], [eA], some [], [], [])
abbrev loU (N : Int) (o : Nat) : fCh := ((0, [(0, (1, 0, 0, [136])), (1, (0, 0, 11, [])), (2, (0, 0, N, [])), (3, (0, 0, 1, []))], [(0, 0, 20)], []), [(68, [(1, 2), (0, 2), (2, o)], (0, -1, -1, []))])
theorem low_ne {τ : fT} {S : pScr} {Kt : Nat → List fCn} {dK f d n o : Nat} {N : Int} {rest : List fCh} {t c b : Int32} {M : pMem} (ht : fTau τ) (hK : ∀ m, ∀ c ∈ Kt m, cnOk τ S dK m c) (h : chCuts τ Kt dK f d 89 (loC N) (loU N o :: rest) n (neK (Int.ofNat o)) (loU N o :: rest) = true) (h1 : 0 ≤ t.toInt ∧ t.toInt ≤ 11) (h2 : 0 ≤ c.toInt ∧ c.toInt ≤ N) (h3 : 0 ≤ b.toInt ∧ b.toInt ≤ 1) (hM : tyM (tOf τ) M) (hg : gR M) (hb : cOk S dK 68 [.ref 2, .int c, .int (nI o)] (gSh, M) (fun r hp => r = some (.int mI) ∧ hp = (gSh, M))) : cOk S (d + 1) 89 [.ref 136, .int t, .int c, .int b] (gSh, M) (fun r _ => ∃ z : Int32, r = some (.int z) ∧ z.toInt ≠ (o : Int)) := by
  refine c_of_ok (Nat.le_of_ble_eq_true rfl) ?_
  have hh := ch_cut (Post := fun v _ => ∃ z : Int32, v = [.int z] ∧ z.toInt ≠ (o : Int)) ht hK rfl h (gRm.of hg) (fun v w' h' ρ' hp k1 k2 k3 k4 => neK_ok k1 k3) (loU N o) List.mem_cons_self (0, lv_args 0 [.ref 136, .int t, .int c, .int b], [], gSh, M) ?_ ?_ (frm.rf _ _)
  · refine hh.mono ?_
    rintro i len τ' ⟨v, g1, z, g2, g3⟩
    refine ⟨v, g1, z, ?_, g3⟩
    cases v with
    | none => cases g2
    | some v =>
      have g2 : [v] = [Value.int z] := g2
      cases g2
      rfl
  · refine ⟨rfl, fun q hq => ?_, trivial, gSh_full.symm, by decide, fun o k e ho _ he => hM o k e ho he, fun q hq => by cases hq⟩
    simp only [loU, List.mem_cons, List.not_mem_nil, or_false] at hq
    rcases hq with rfl | rfl | rfl | rfl
    · exact ⟨.ref 136, rfl, Or.inr ⟨136, List.mem_singleton.mpr rfl, rfl⟩⟩
    · exact ⟨.int t, rfl, t, rfl, h1.1, h1.2⟩
    · exact ⟨.int c, rfl, c, rfl, h2.1, h2.2⟩
    · exact ⟨.int b, rfl, b, rfl, h3.1, h3.2⟩
  · intro q hq
    rw [List.mem_singleton.mp hq]
    refine ⟨.int mI, ⟨mI, rfl, by decide, by decide⟩, ?_⟩
    have e : ([(1, 2), (0, 2), (2, o)] : List (Nat × Nat)).map (mhV (lv_args 0 [.ref 136, .int t, .int c, .int b]) M) = [.ref 2, .int c, .int (nI o)] := by
      show [mhV _ M (1, 2), mhV _ M (0, 2), mhV _ M (2, o)] = _
      have e2 : mhV (lv_args 0 [.ref 136, .int t, .int c, .int b]) M (2, o) = .int (nI o) := by
        unfold mhV
        rw [if_neg (show ¬ (2 : Nat) = 0 by decide), if_neg (show ¬ (2 : Nat) = 1 by decide), i32_nI]
      rw [e2]
      rfl
    show cOk S dK 68 (([(1, 2), (0, 2), (2, o)] : List (Nat × Nat)).map (mhV (lv_args 0 [.ref 136, .int t, .int c, .int b]) M)) (gSh, M) _
    rw [e]
    exact hb.mono (fun r hp ⟨k1, k2⟩ => ⟨by rw [k1]; rfl, k2⟩)
/-- kinds that orderOfBest uses -/
def pBL : List ((Nat × Nat) × aE) := [((136, 0), (1, 0, 0, [1])), ((136, 2), (1, 0, 0, [64])), ((64, 1), (1, 0, 0, [2])), ((1, 1), (1, 0, 0, [9])), ((1, 5), (1, 0, 0, [16])), ((9, 3), (0, 0, 1, []))]
def pB (τ : fT) (N : Nat) : Prop := fTau τ ∧ (∀ q ∈ pBL, rowAt (τ q.1.1) q.1.2 = some q.2) ∧ rowAt (τ 9) 0 = some (0, 0, (N : Int), []) ∧ τ 16 = [(12, (0, 0, 3, []))] ∧ N < 36
theorem pby {τ : fT} {N : Nat} {M : pMem} (hT : pB τ N) (hM : tyM (tOf τ) M) (i : Nat) {o k : Nat} {e : aE} (h : pBL[i]? = some ((o, k), e)) (ho : Nat.ble (o + 1) 205 = true) : satE e (M o k) := hM o k e (Nat.le_of_ble_eq_true ho) (by rw [tyAt_row hT.1]; exact hT.2.1 _ (List.mem_of_getElem? h))
theorem pt16 {τ : fT} {N : Nat} {M : pMem} (hT : pB τ N) (hM : tyM (tOf τ) M) {k : Nat} (h : k < 12) : ∃ n : Nat, n ≤ 3 ∧ M 16 k = .int (nI n) := by
  obtain ⟨n, h1, h2⟩ := ty_nat (hM 16 k (0, 0, 3, []) (by decide) (by rw [tyAt_row hT.1]; show rowAt (τ 16) k = _; rw [hT.2.2.2.1]; exact row1_at h))
  exact ⟨n, by omega, h2⟩
def BH (τ : fT) (S : pScr) (dB N : Nat) : Prop :=
  cnOk τ S dB 91 ([(1, 0, 0, [136]), (0, 0, 12, []), eA], [], some [141, 142, 143, 144, 145, 146, 147, 148, 149, 150, 151, 152, 153], [], []) ∧
  cnOk τ S dB 89 ([(1, 0, 0, [136]), (0, 0, 11, []), (0, 0, (N : Int), []), (0, 0, 1, [])], [(0, -1, 7, [])], some [], [], []) ∧
  cnOk τ S dB 68 ([(1, 0, 0, [2]), (0, 0, (N : Int), []), eA], [(0, -1, (N : Int), [])], some [], [], []) ∧
  cnOk τ S dB 70 ([(1, 0, 0, [2]), (0, 0, (N : Int), []), (0, 0, 3, [])], [(0, 0, (N : Int), [])], some [], [], []) ∧
  ∀ (o : Nat) (t c b : Int32) (M : pMem), o < 4 → (0 ≤ t.toInt ∧ t.toInt ≤ 11) → (0 ≤ c.toInt ∧ c.toInt ≤ (N : Int)) → (0 ≤ b.toInt ∧ b.toInt ≤ 1) → tyM (tOf τ) M → gR M → cOk S dB 68 [.ref 2, .int c, .int (nI o)] (gSh, M) (fun r hp => r = some (.int mI) ∧ hp = (gSh, M)) → cOk S (dB + 9) 89 [.ref 136, .int t, .int c, .int b] (gSh, M) (fun r _ => ∃ z : Int32, r = some (.int z) ∧ z.toInt ≠ (o : Int))
theorem r2_ : satE (1, 0, 0, [2]) (.ref 2) := Or.inr ⟨2, List.mem_singleton.mpr rfl, rfl⟩
theorem r136 : satE (1, 0, 0, [136]) (.ref 136) := Or.inr ⟨136, List.mem_singleton.mpr rfl, rfl⟩
theorem c_isPush {S : pScr} {d o : Nat} {M : pMem} (ho : o < 8) : cOk S (d + 1) 3 [.int (nI o)] (gSh, M) (fun r hp => ((r = some (.int (nI 1)) ∧ o < 4) ∨ (r = some (.int (nI 0)) ∧ 4 ≤ o)) ∧ hp = (gSh, M)) := by
  refine c_of_ok (Nat.le_of_ble_eq_true rfl) ?_
  refine ok_seq 1 (σ' := (1, [(0, .int (nI o))], [.int (nI o)], gSh, M)) rfl ?_
  refine ok_if 13 rfl rfl (fun hz => absurd hz (by simp only [pCP]; rw [hI_int (a := o) (by omega)]; omega)) (fun _ => ?_)
  refine ok_seq 2 (σ' := (6, [(0, .int (nI o))], [.int (Int32.ofInt 4), .int (nI o)], gSh, M)) rfl ?_
  rw [cI_4]
  refine ok_icmp 13 rfl rfl ?_ ?_
  · intro h4
    simp only [pCP] at h4
    rw [hI_int (a := o) (by omega), hI_int (a := 4) (by omega)] at h4
    have h4 : ((o : Nat) : Int) ≥ ((4 : Nat) : Int) := by omega
    refine ok_seq 1 (σ' := (14, [(0, .int (nI o))], [.int (Int32.ofInt 0)], gSh, M)) rfl ?_
    rw [cI_0]
    exact ok_ret (i := .ireturn) (len := 1) rfl rfl ⟨some (.int (nI 0)), pb0, Or.inr ⟨rfl, by omega⟩, rfl⟩
  · intro h4
    simp only [pCP] at h4
    rw [hI_int (a := o) (by omega), hI_int (a := 4) (by omega)] at h4
    have h4 : ((o : Nat) : Int) < ((4 : Nat) : Int) := by omega
    refine ok_seq 2 (σ' := (14, [(0, .int (nI o))], [.int (Int32.ofInt 1)], gSh, M)) rfl ?_
    rw [cI_1]
    exact ok_ret (i := .ireturn) (len := 1) rfl rfl ⟨some (.int (nI 1)), pb1, Or.inl ⟨rfl, by omega⟩, rfl⟩
theorem c_banks {S : pScr} {d o b : Nat} {M : pMem} (ho : o < 8) (hb : b < 2) : cOk S (d + 1) 4 [.int (nI o), .int (nI b)] (gSh, M) (fun r hp => (∃ b : Nat, b ≤ 1 ∧ r = some (.int (nI b))) ∧ hp = (gSh, M)) := by
  refine c_of_ok (Nat.le_of_ble_eq_true rfl) ?_
  refine ok_seq 2 (σ' := (3, [(0, .int (nI o)), (1, .int (nI b))], [.int ((Int8.ofInt 6).toInt32), .int (nI o)], gSh, M)) rfl ?_
  rw [(show (Int8.ofInt 6).toInt32 = nI 6 by decide)]
  refine ok_icmp 16 rfl rfl ?_ ?_
  · intro h6
    simp only [pCP] at h6
    rw [hI_int (a := o) (by omega), hI_int (a := 6) (by omega)] at h6
    have h6 : ((o : Nat) : Int) = ((6 : Nat) : Int) := by omega
    refine ok_seq 2 (σ' := (21, [(0, .int (nI o)), (1, .int (nI b))], [.int (Int32.ofInt 1)], gSh, M)) rfl ?_
    rw [cI_1]
    exact ok_ret (i := .ireturn) (len := 1) rfl rfl ⟨some (.int (nI 1)), pb1, ⟨1, by decide, rfl⟩, rfl⟩
  · intro h6
    simp only [pCP] at h6
    rw [hI_int (a := o) (by omega), hI_int (a := 6) (by omega)] at h6
    have h6 : ((o : Nat) : Int) ≠ ((6 : Nat) : Int) := by omega
    refine ok_seq 1 (σ' := (7, [(0, .int (nI o)), (1, .int (nI b))], [.int (nI b)], gSh, M)) rfl ?_
    refine ok_if 20 rfl rfl ?_ ?_
    · intro h0
      simp only [pCP] at h0
      rw [hI_int (a := b) (by omega)] at h0
      have h0 : ((b : Nat) : Int) = (0 : Int) := by omega
      refine ok_seq 1 (σ' := (21, [(0, .int (nI o)), (1, .int (nI b))], [.int (Int32.ofInt 0)], gSh, M)) rfl ?_
      rw [cI_0]
      exact ok_ret (i := .ireturn) (len := 1) rfl rfl ⟨some (.int (nI 0)), pb0, ⟨0, by decide, rfl⟩, rfl⟩
    · intro h0
      simp only [pCP] at h0
      rw [hI_int (a := b) (by omega)] at h0
      have h0 : ((b : Nat) : Int) ≠ (0 : Int) := by omega
      refine ok_seq 2 (σ' := (13, [(0, .int (nI o)), (1, .int (nI b))], [.int ((Int8.ofInt 7).toInt32), .int (nI o)], gSh, M)) rfl ?_
      rw [(show (Int8.ofInt 7).toInt32 = nI 7 by decide)]
      refine ok_icmp 20 rfl rfl ?_ ?_
      · intro h7
        simp only [pCP] at h7
        rw [hI_int (a := o) (by omega), hI_int (a := 7) (by omega)] at h7
        have h7 : ((o : Nat) : Int) = ((7 : Nat) : Int) := by omega
        refine ok_seq 1 (σ' := (21, [(0, .int (nI o)), (1, .int (nI b))], [.int (Int32.ofInt 0)], gSh, M)) rfl ?_
        rw [cI_0]
        exact ok_ret (i := .ireturn) (len := 1) rfl rfl ⟨some (.int (nI 0)), pb0, ⟨0, by decide, rfl⟩, rfl⟩
      · intro h7
        simp only [pCP] at h7
        rw [hI_int (a := o) (by omega), hI_int (a := 7) (by omega)] at h7
        have h7 : ((o : Nat) : Int) ≠ ((7 : Nat) : Int) := by omega
        refine ok_seq 2 (σ' := (21, [(0, .int (nI o)), (1, .int (nI b))], [.int (Int32.ofInt 1)], gSh, M)) rfl ?_
        rw [cI_1]
        exact ok_ret (i := .ireturn) (len := 1) rfl rfl ⟨some (.int (nI 1)), pb1, ⟨1, by decide, rfl⟩, rfl⟩
theorem c_landing {S : pScr} {d dB N o c w : Nat} {τ : fT} {M : pMem} (hT : pB τ N) (hH : BH τ S dB N) (hM : tyM (tOf τ) M) (hg : gR M) (ho : o < 8) (hc : c ≤ N) (hw : w ≤ 3) (hne : o < 4 → ¬ cOk S dB 68 [.ref 2, .int (nI c), .int (nI o)] (gSh, M) (fun r hp => r = some (.int mI) ∧ hp = (gSh, M))) : cOk S (d + dB + 2) 2 [.ref 64, .int (nI o), .int (nI c), .int (nI w)] (gSh, M) (fun r hp => (∃ c' : Nat, c' ≤ N ∧ r = some (.int (nI c'))) ∧ hp = (gSh, M)) := by
  have hN := hT.2.2.2.2
  have h1 := ty_ref (pby hT hM 2 rfl rfl)
  refine c_of_ok (Nat.le_of_ble_eq_true rfl) ?_
  refine ok_seq 2 (σ' := (2, [(0, .ref 64), (1, .int (nI o)), (2, .int (nI c)), (3, .int (nI w))], [.int (Int32.ofInt 5), .int (nI o)], gSh, M)) rfl ?_
  rw [cI_5]
  refine ok_icmp 7 rfl rfl ?_ ?_
  · intro h5
    simp only [pCP] at h5
    rw [hI_int (a := o) (by omega), hI_int (a := 5) (by omega)] at h5
    have h5 : ((o : Nat) : Int) ≠ ((5 : Nat) : Int) := by omega
    refine ok_seq 1 (σ' := (8, [(0, .ref 64), (1, .int (nI o)), (2, .int (nI c)), (3, .int (nI w))], [.int (nI o)], gSh, M)) rfl ?_
    refine ok_call (mi := 3) (as := [.int (nI o)]) (pc' := 11) (L' := [(0, .ref 64), (1, .int (nI o)), (2, .int (nI c)), (3, .int (nI w))]) (st' := []) (sh' := gSh) (M' := M) (i := .invokestatic 42) (len := 3) rfl rfl ?_
    refine (((c_isPush (d := 0) ho).deep (by omega))).mono ?_
    rintro v hp ⟨hv, rfl⟩
    rcases hv with ⟨rfl, h4⟩ | ⟨rfl, h4⟩
    · refine ok_if 26 rfl rfl (fun hz => absurd hz (by simp only [pCP]; rw [hI_int (a := 1) (by omega)]; omega)) (fun _ => ?_)
      obtain ⟨z, z1, z2, z3⟩ := c_pure hH.2.2.1 (vs := [.ref 2, .int (nI c), .int (nI o)]) ⟨r2_, sat_n (by omega) (by omega), sat_a _, trivial⟩ hM hg (fun q hq => by cases hq)
      have hz : z.toInt ≠ -1 := fun hz => hne h4 (by
        have e : z = mI := Int32.toInt_inj.mp (by rw [hz]; decide)
        rw [← e]
        exact z3)
      obtain ⟨c', hc', ec⟩ := ty_nat (x := []) (hi := (N : Int)) ⟨z, rfl, (show (0 : Int) ≤ z.toInt by omega), z2⟩
      cases ec
      refine ok_seq 2 (σ' := (18, [(0, .ref 64), (1, .int (nI o)), (2, .int (nI c)), (3, .int (nI w))], [M 64 1], gSh, M)) rfl ?_
      rw [h1]
      refine ok_seq 2 (σ' := (20, [(0, .ref 64), (1, .int (nI o)), (2, .int (nI c)), (3, .int (nI w))], [.int (nI o), .int (nI c), .ref 2], gSh, M)) rfl ?_
      refine ok_call (mi := 68) (as := [.ref 2, .int (nI c), .int (nI o)]) (pc' := 23) (L' := [(0, .ref 64), (1, .int (nI o)), (2, .int (nI c)), (3, .int (nI w))]) (st' := []) (sh' := gSh) (M' := M) (i := .invokevirtual 46) (len := 3) rfl rfl ?_
      refine ((z3.deep (by omega))).mono ?_
      rintro v hp ⟨rfl, rfl⟩
      refine ok_seq 1 (σ' := (35, [(0, .ref 64), (1, .int (nI o)), (2, .int (nI c)), (3, .int (nI w))], [.int (nI (c'))], gSh, M)) rfl ?_
      exact ok_ret (i := .ireturn) (len := 1) rfl rfl ⟨_, rfl, ⟨c', by omega, rfl⟩, rfl⟩
    · refine ok_if 26 rfl rfl (fun _ => ?_) (fun hz => absurd (by simp only [pCP]; rw [hI_int (a := 0) (by omega)]; omega) hz)
      obtain ⟨z, z1, z2, z3⟩ := c_pure hH.2.2.2.1 (vs := [.ref 2, .int (nI c), .int (nI w)]) ⟨r2_, sat_n (by omega) (by omega), sat_n (by omega) (by omega), trivial⟩ hM hg (fun q hq => by cases hq)
      obtain ⟨c', hc', ec⟩ := ty_nat (x := []) (hi := (N : Int)) ⟨z, rfl, z1, z2⟩
      cases ec
      refine ok_seq 2 (σ' := (30, [(0, .ref 64), (1, .int (nI o)), (2, .int (nI c)), (3, .int (nI w))], [M 64 1], gSh, M)) rfl ?_
      rw [h1]
      refine ok_seq 2 (σ' := (32, [(0, .ref 64), (1, .int (nI o)), (2, .int (nI c)), (3, .int (nI w))], [.int (nI w), .int (nI c), .ref 2], gSh, M)) rfl ?_
      refine ok_call (mi := 70) (as := [.ref 2, .int (nI c), .int (nI w)]) (pc' := 35) (L' := [(0, .ref 64), (1, .int (nI o)), (2, .int (nI c)), (3, .int (nI w))]) (st' := []) (sh' := gSh) (M' := M) (i := .invokevirtual 52) (len := 3) rfl rfl ?_
      refine ((z3.deep (by omega))).mono ?_
      rintro v hp ⟨rfl, rfl⟩
      exact ok_ret (i := .ireturn) (len := 1) rfl rfl ⟨_, rfl, ⟨c', by omega, rfl⟩, rfl⟩
  · intro h5
    simp only [pCP] at h5
    rw [hI_int (a := o) (by omega), hI_int (a := 5) (by omega)] at h5
    have h5 : ((o : Nat) : Int) = ((5 : Nat) : Int) := by omega
    refine ok_seq 1 (σ' := (6, [(0, .ref 64), (1, .int (nI o)), (2, .int (nI c)), (3, .int (nI w))], [.int (nI c)], gSh, M)) rfl ?_
    exact ok_ret (i := .ireturn) (len := 1) rfl rfl ⟨_, rfl, ⟨c, hc, rfl⟩, rfl⟩
abbrev oobK (S : pScr) (d : Nat) (Q : Option Value → pHp → Prop) (σ : pSt) : Prop := pOk S 9 false 7 (pCode 88) d (fun i len τ' => ∃ v, pRet (some .int) i len τ'.2.2.1 = some v ∧ Q v (τ'.2.2.2.1, τ'.2.2.2.2)) σ
theorem oob_loop {S : pScr} {d dB N k : Nat} {wt : Int32} {τ : fT} {M : pMem} (hT : pB τ N) (hH : BH τ S dB N) (hM : tyM (tOf τ) M) (hg : gR M) (hk : k ≤ 11) : ∀ (r t b c : Nat) (L : pLs), t + r = k → b < 2 → c ≤ N → (L = [(5, .int (nI t)), (4, .int (nI b)), (3, .int (nI c)), (0, .ref 136), (1, .int (nI k)), (2, .int wt)] ∨ ∃ y6 : Int32, L = [(5, .int (nI t)), (4, .int (nI b)), (3, .int (nI c)), (6, .int y6), (0, .ref 136), (1, .int (nI k)), (2, .int wt)]) → oobK S (d + dB + 2) (fun r hp => (∃ z : Int32, r = some (.int z) ∧ -1 ≤ z.toInt ∧ z.toInt ≤ 7) ∧ hp = (gSh, M)) (43, L, [], gSh, M) := by
  have hN := hT.2.2.2.2
  have h0 := ty_ref (pby hT hM 0 rfl rfl)
  have h2 := ty_ref (pby hT hM 1 rfl rfl)
  have h15 := ty_ref (pby hT hM 4 rfl rfl)
  intro r
  induction r with
  | zero =>
    intro t b c L ht hb hc hL
    obtain ⟨z, z1, z2, z3⟩ := c_pure hH.2.1 (vs := [.ref 136, .int (nI k), .int (nI c), .int (nI b)]) ⟨r136, sat_n (by omega) (by omega), sat_n (by omega) (by omega), sat_n (by omega) (by omega), trivial⟩ hM hg (fun q hq => by cases hq)
    rcases hL with rfl | ⟨y6, rfl⟩
    · refine ok_seq 2 (σ' := (46, [(5, .int (nI t)), (4, .int (nI b)), (3, .int (nI c)), (0, .ref 136), (1, .int (nI k)), (2, .int wt)], [.int (nI k), .int (nI t)], gSh, M)) rfl ?_
      refine ok_icmp 104 rfl rfl (fun _ => ?_) (fun hz => absurd (by simp only [pCP]; rw [hI_int (a := t) (by omega), hI_int (a := k) (by omega)]; omega) hz)
      refine ok_seq 4 (σ' := (109, [(5, .int (nI t)), (4, .int (nI b)), (3, .int (nI c)), (0, .ref 136), (1, .int (nI k)), (2, .int wt)], [.int (nI b), .int (nI c), .int (nI k), .ref 136], gSh, M)) rfl ?_
      refine ok_call (mi := 89) (as := [.ref 136, .int (nI k), .int (nI c), .int (nI b)]) (pc' := 112) (L' := [(5, .int (nI t)), (4, .int (nI b)), (3, .int (nI c)), (0, .ref 136), (1, .int (nI k)), (2, .int wt)]) (st' := []) (sh' := gSh) (M' := M) (i := .invokevirtual 146) (len := 3) rfl rfl ?_
      refine ((z3.deep (by omega))).mono ?_
      rintro v hp ⟨rfl, rfl⟩
      exact ok_ret (i := .ireturn) (len := 1) rfl rfl ⟨_, rfl, ⟨z, rfl, z1, z2⟩, rfl⟩
    · refine ok_seq 2 (σ' := (46, [(5, .int (nI t)), (4, .int (nI b)), (3, .int (nI c)), (6, .int y6), (0, .ref 136), (1, .int (nI k)), (2, .int wt)], [.int (nI k), .int (nI t)], gSh, M)) rfl ?_
      refine ok_icmp 104 rfl rfl (fun _ => ?_) (fun hz => absurd (by simp only [pCP]; rw [hI_int (a := t) (by omega), hI_int (a := k) (by omega)]; omega) hz)
      refine ok_seq 4 (σ' := (109, [(5, .int (nI t)), (4, .int (nI b)), (3, .int (nI c)), (6, .int y6), (0, .ref 136), (1, .int (nI k)), (2, .int wt)], [.int (nI b), .int (nI c), .int (nI k), .ref 136], gSh, M)) rfl ?_
      refine ok_call (mi := 89) (as := [.ref 136, .int (nI k), .int (nI c), .int (nI b)]) (pc' := 112) (L' := [(5, .int (nI t)), (4, .int (nI b)), (3, .int (nI c)), (6, .int y6), (0, .ref 136), (1, .int (nI k)), (2, .int wt)]) (st' := []) (sh' := gSh) (M' := M) (i := .invokevirtual 146) (len := 3) rfl rfl ?_
      refine ((z3.deep (by omega))).mono ?_
      rintro v hp ⟨rfl, rfl⟩
      exact ok_ret (i := .ireturn) (len := 1) rfl rfl ⟨_, rfl, ⟨z, rfl, z1, z2⟩, rfl⟩
  | succ r ih =>
    intro t b c L ht hb hc hL
    obtain ⟨z, z1, z2, z3⟩ := c_pure hH.2.1 (vs := [.ref 136, .int (nI t), .int (nI c), .int (nI b)]) ⟨r136, sat_n (by omega) (by omega), sat_n (by omega) (by omega), sat_n (by omega) (by omega), trivial⟩ hM hg (fun q hq => by cases hq)
    obtain ⟨w, hw, hw2⟩ := pt16 hT hM (k := t) (by omega)
    rcases hL with rfl | ⟨y6, rfl⟩
    · refine ok_seq 2 (σ' := (46, [(5, .int (nI t)), (4, .int (nI b)), (3, .int (nI c)), (0, .ref 136), (1, .int (nI k)), (2, .int wt)], [.int (nI k), .int (nI t)], gSh, M)) rfl ?_
      refine ok_icmp 104 rfl rfl (fun hz => absurd hz (by simp only [pCP]; rw [hI_int (a := t) (by omega), hI_int (a := k) (by omega)]; omega)) (fun _ => ?_)
      refine ok_seq 4 (σ' := (55, [(5, .int (nI t)), (4, .int (nI b)), (3, .int (nI c)), (0, .ref 136), (1, .int (nI k)), (2, .int wt)], [.int (nI b), .int (nI c), .int (nI t), .ref 136], gSh, M)) rfl ?_
      refine ok_call (mi := 89) (as := [.ref 136, .int (nI t), .int (nI c), .int (nI b)]) (pc' := 58) (L' := [(5, .int (nI t)), (4, .int (nI b)), (3, .int (nI c)), (0, .ref 136), (1, .int (nI k)), (2, .int wt)]) (st' := []) (sh' := gSh) (M' := M) (i := .invokevirtual 146) (len := 3) rfl rfl ?_
      refine ((z3.deep (by omega))).mono ?_
      rintro v hp ⟨rfl, rfl⟩
      refine ok_seq 3 (σ' := (63, [(6, .int z), (5, .int (nI t)), (4, .int (nI b)), (3, .int (nI c)), (0, .ref 136), (1, .int (nI k)), (2, .int wt)], [.int mI, .int z], gSh, M)) rfl ?_
      refine ok_icmp 68 rfl rfl (fun hz => ?_) (fun _ => ?_)
      · have hz : z.toInt ≠ -1 := fun e => hz (by rw [e]; decide)
        obtain ⟨o, ho, eo⟩ := ty_nat (x := []) (hi := 7) ⟨z, rfl, (show (0 : Int) ≤ z.toInt by omega), z2⟩
        cases eo
        have hne : o < 4 → ¬ cOk S dB 68 [.ref 2, .int (nI c), .int (nI o)] (gSh, M) (fun r hp => r = some (.int mI) ∧ hp = (gSh, M)) := by
          intro ho4 hbs
          have h9 := hH.2.2.2.2 o (nI t) (nI c) (nI b) M ho4 (by rw [hI_int (a := t) (by omega)]; omega) (by rw [hI_int (a := c) (by omega)]; omega) (by rw [hI_int (a := b) (by omega)]; omega) hM hg hbs
          obtain ⟨v, hp2, -, -, k1, z9, k2, k3⟩ := c_both (z3.deep (Nat.le_add_right dB 9)) h9
          have e := k1.1.symm.trans k2
          cases e
          rw [hI_int (a := o) (by omega)] at k3
          exact k3 rfl
        refine ok_seq 2 (σ' := (72, [(6, .int (nI o)), (5, .int (nI t)), (4, .int (nI b)), (3, .int (nI c)), (0, .ref 136), (1, .int (nI k)), (2, .int wt)], [M 136 2], gSh, M)) rfl ?_
        rw [h2]
        refine ok_seq 4 (σ' := (79, [(6, .int (nI o)), (5, .int (nI t)), (4, .int (nI b)), (3, .int (nI c)), (0, .ref 136), (1, .int (nI k)), (2, .int wt)], [M 136 0, .int (nI c), .int (nI o), .ref 64], gSh, M)) rfl ?_
        rw [h0]
        refine ok_seq 1 (σ' := (82, [(6, .int (nI o)), (5, .int (nI t)), (4, .int (nI b)), (3, .int (nI c)), (0, .ref 136), (1, .int (nI k)), (2, .int wt)], [M 1 5, .int (nI c), .int (nI o), .ref 64], gSh, M)) rfl ?_
        rw [h15]
        refine ok_seq 1 (σ' := (84, [(6, .int (nI o)), (5, .int (nI t)), (4, .int (nI b)), (3, .int (nI c)), (0, .ref 136), (1, .int (nI k)), (2, .int wt)], [.int (nI t), .ref 16, .int (nI c), .int (nI o), .ref 64], gSh, M)) rfl ?_
        refine ok_iald (n := 12) (v := nI w) rfl rfl (hI_in (by omega) (by decide)) (by rw [hI_nat (by omega)]; exact hw2) ?_
        refine ok_call (mi := 2) (as := [.ref 64, .int (nI o), .int (nI c), .int (nI w)]) (pc' := 88) (L' := [(6, .int (nI o)), (5, .int (nI t)), (4, .int (nI b)), (3, .int (nI c)), (0, .ref 136), (1, .int (nI k)), (2, .int wt)]) (st' := []) (sh' := gSh) (M' := M) (i := .invokevirtual 118) (len := 3) rfl rfl ?_
        refine ((c_landing (d := d) hT hH hM hg (by omega) hc hw hne)).mono ?_
        rintro v hp ⟨⟨c', hc', rfl⟩, rfl⟩
        refine ok_seq 3 (σ' := (93, [(3, .int (nI (c'))), (6, .int (nI o)), (5, .int (nI t)), (4, .int (nI b)), (0, .ref 136), (1, .int (nI k)), (2, .int wt)], [.int (nI b), .int (nI o)], gSh, M)) rfl ?_
        refine ok_call (mi := 4) (as := [.int (nI o), .int (nI b)]) (pc' := 96) (L' := [(3, .int (nI (c'))), (6, .int (nI o)), (5, .int (nI t)), (4, .int (nI b)), (0, .ref 136), (1, .int (nI k)), (2, .int wt)]) (st' := []) (sh' := gSh) (M' := M) (i := .invokestatic 138) (len := 3) rfl rfl ?_
        refine (((c_banks (d := 0) (o := o) (by omega) hb).deep (by omega))).mono ?_
        rintro v hp ⟨⟨b', hb', rfl⟩, rfl⟩
        refine ok_seq 3 (σ' := (43, [(5, .int ((nI t) + (Int32.ofInt 1))), (4, .int (nI (b'))), (3, .int (nI (c'))), (6, .int (nI o)), (0, .ref 136), (1, .int (nI k)), (2, .int wt)], [], gSh, M)) rfl ?_
        rw [cI_1, hI_add t 1]
        exact ih (t + 1) b' c' _ (by omega) (by omega) hc' (Or.inr ⟨nI o, rfl⟩)
      · refine ok_seq 1 (σ' := (67, [(6, .int z), (5, .int (nI t)), (4, .int (nI b)), (3, .int (nI c)), (0, .ref 136), (1, .int (nI k)), (2, .int wt)], [.int mI], gSh, M)) rfl ?_
        exact ok_ret (i := .ireturn) (len := 1) rfl rfl ⟨_, rfl, ⟨mI, rfl, by decide, by decide⟩, rfl⟩
    · refine ok_seq 2 (σ' := (46, [(5, .int (nI t)), (4, .int (nI b)), (3, .int (nI c)), (6, .int y6), (0, .ref 136), (1, .int (nI k)), (2, .int wt)], [.int (nI k), .int (nI t)], gSh, M)) rfl ?_
      refine ok_icmp 104 rfl rfl (fun hz => absurd hz (by simp only [pCP]; rw [hI_int (a := t) (by omega), hI_int (a := k) (by omega)]; omega)) (fun _ => ?_)
      refine ok_seq 4 (σ' := (55, [(5, .int (nI t)), (4, .int (nI b)), (3, .int (nI c)), (6, .int y6), (0, .ref 136), (1, .int (nI k)), (2, .int wt)], [.int (nI b), .int (nI c), .int (nI t), .ref 136], gSh, M)) rfl ?_
      refine ok_call (mi := 89) (as := [.ref 136, .int (nI t), .int (nI c), .int (nI b)]) (pc' := 58) (L' := [(5, .int (nI t)), (4, .int (nI b)), (3, .int (nI c)), (6, .int y6), (0, .ref 136), (1, .int (nI k)), (2, .int wt)]) (st' := []) (sh' := gSh) (M' := M) (i := .invokevirtual 146) (len := 3) rfl rfl ?_
      refine ((z3.deep (by omega))).mono ?_
      rintro v hp ⟨rfl, rfl⟩
      refine ok_seq 3 (σ' := (63, [(6, .int z), (5, .int (nI t)), (4, .int (nI b)), (3, .int (nI c)), (0, .ref 136), (1, .int (nI k)), (2, .int wt)], [.int mI, .int z], gSh, M)) rfl ?_
      refine ok_icmp 68 rfl rfl (fun hz => ?_) (fun _ => ?_)
      · have hz : z.toInt ≠ -1 := fun e => hz (by rw [e]; decide)
        obtain ⟨o, ho, eo⟩ := ty_nat (x := []) (hi := 7) ⟨z, rfl, (show (0 : Int) ≤ z.toInt by omega), z2⟩
        cases eo
        have hne : o < 4 → ¬ cOk S dB 68 [.ref 2, .int (nI c), .int (nI o)] (gSh, M) (fun r hp => r = some (.int mI) ∧ hp = (gSh, M)) := by
          intro ho4 hbs
          have h9 := hH.2.2.2.2 o (nI t) (nI c) (nI b) M ho4 (by rw [hI_int (a := t) (by omega)]; omega) (by rw [hI_int (a := c) (by omega)]; omega) (by rw [hI_int (a := b) (by omega)]; omega) hM hg hbs
          obtain ⟨v, hp2, -, -, k1, z9, k2, k3⟩ := c_both (z3.deep (Nat.le_add_right dB 9)) h9
          have e := k1.1.symm.trans k2
          cases e
          rw [hI_int (a := o) (by omega)] at k3
          exact k3 rfl
        refine ok_seq 2 (σ' := (72, [(6, .int (nI o)), (5, .int (nI t)), (4, .int (nI b)), (3, .int (nI c)), (0, .ref 136), (1, .int (nI k)), (2, .int wt)], [M 136 2], gSh, M)) rfl ?_
        rw [h2]
        refine ok_seq 4 (σ' := (79, [(6, .int (nI o)), (5, .int (nI t)), (4, .int (nI b)), (3, .int (nI c)), (0, .ref 136), (1, .int (nI k)), (2, .int wt)], [M 136 0, .int (nI c), .int (nI o), .ref 64], gSh, M)) rfl ?_
        rw [h0]
        refine ok_seq 1 (σ' := (82, [(6, .int (nI o)), (5, .int (nI t)), (4, .int (nI b)), (3, .int (nI c)), (0, .ref 136), (1, .int (nI k)), (2, .int wt)], [M 1 5, .int (nI c), .int (nI o), .ref 64], gSh, M)) rfl ?_
        rw [h15]
        refine ok_seq 1 (σ' := (84, [(6, .int (nI o)), (5, .int (nI t)), (4, .int (nI b)), (3, .int (nI c)), (0, .ref 136), (1, .int (nI k)), (2, .int wt)], [.int (nI t), .ref 16, .int (nI c), .int (nI o), .ref 64], gSh, M)) rfl ?_
        refine ok_iald (n := 12) (v := nI w) rfl rfl (hI_in (by omega) (by decide)) (by rw [hI_nat (by omega)]; exact hw2) ?_
        refine ok_call (mi := 2) (as := [.ref 64, .int (nI o), .int (nI c), .int (nI w)]) (pc' := 88) (L' := [(6, .int (nI o)), (5, .int (nI t)), (4, .int (nI b)), (3, .int (nI c)), (0, .ref 136), (1, .int (nI k)), (2, .int wt)]) (st' := []) (sh' := gSh) (M' := M) (i := .invokevirtual 118) (len := 3) rfl rfl ?_
        refine ((c_landing (d := d) hT hH hM hg (by omega) hc hw hne)).mono ?_
        rintro v hp ⟨⟨c', hc', rfl⟩, rfl⟩
        refine ok_seq 3 (σ' := (93, [(3, .int (nI (c'))), (6, .int (nI o)), (5, .int (nI t)), (4, .int (nI b)), (0, .ref 136), (1, .int (nI k)), (2, .int wt)], [.int (nI b), .int (nI o)], gSh, M)) rfl ?_
        refine ok_call (mi := 4) (as := [.int (nI o), .int (nI b)]) (pc' := 96) (L' := [(3, .int (nI (c'))), (6, .int (nI o)), (5, .int (nI t)), (4, .int (nI b)), (0, .ref 136), (1, .int (nI k)), (2, .int wt)]) (st' := []) (sh' := gSh) (M' := M) (i := .invokestatic 138) (len := 3) rfl rfl ?_
        refine (((c_banks (d := 0) (o := o) (by omega) hb).deep (by omega))).mono ?_
        rintro v hp ⟨⟨b', hb', rfl⟩, rfl⟩
        refine ok_seq 3 (σ' := (43, [(5, .int ((nI t) + (Int32.ofInt 1))), (4, .int (nI (b'))), (3, .int (nI (c'))), (6, .int (nI o)), (0, .ref 136), (1, .int (nI k)), (2, .int wt)], [], gSh, M)) rfl ?_
        rw [cI_1, hI_add t 1]
        exact ih (t + 1) b' c' _ (by omega) (by omega) hc' (Or.inr ⟨nI o, rfl⟩)
      · refine ok_seq 1 (σ' := (67, [(6, .int z), (5, .int (nI t)), (4, .int (nI b)), (3, .int (nI c)), (0, .ref 136), (1, .int (nI k)), (2, .int wt)], [.int mI], gSh, M)) rfl ?_
        exact ok_ret (i := .ireturn) (len := 1) rfl rfl ⟨_, rfl, ⟨mI, rfl, by decide, by decide⟩, rfl⟩
theorem h_orderOfBest {S : pScr} {dB N : Nat} {τ : fT} (hT : pB τ N) (hH : BH τ S dB N) : cnOk τ S (dB + 3) 88 ([(1, 0, 0, [136]), (0, 0, 11, []), (0, -1, 12, [])], [(0, -1, 7, [])], some [141, 142, 143, 144, 145, 146, 147, 148, 149, 150, 151, 152, 153], [], []) := by
  intro vs M hvs hM hg hf
  match vs, hvs with
  | [v0, v1, v2], ⟨k0, k1, ⟨wt, k2, w1, w2⟩, _⟩ =>
    obtain ⟨k, hk, k1⟩ := ty_nat k1
    have k0 := ty_ref k0
    have k2 : v2 = .int wt := k2
    subst k0 k1 k2
    have w2 : wt.toInt ≤ 12 := w2
    have post : ∀ (r : Option Value) (hp : pHp), (fun r hp => hp.1 = gSh ∧ (∃ z : Int32, r = some (.int z) ∧ -1 ≤ z.toInt ∧ z.toInt ≤ 7) ∧ tyM (tOf τ) hp.2 ∧ frm (some [141, 142, 143, 144, 145, 146, 147, 148, 149, 150, 151, 152, 153]) M hp.2) r hp → (hp.1 = gSh ∧ tyM (tOf τ) hp.2 ∧ satS [(0, -1, 7, [])] r.toList ∧ frm (some [141, 142, 143, 144, 145, 146, 147, 148, 149, 150, 151, 152, 153]) M hp.2 ∧ fctM [] hp.2) := by
      rintro r hp ⟨q1, ⟨z, rfl, z1, z2⟩, q3, q4⟩
      exact ⟨q1, q3, ⟨⟨z, rfl, z1, z2⟩, trivial⟩, q4, fun q hq => by cases hq⟩
    refine cOk.mono ?_ post
    refine c_of_ok (Nat.le_of_ble_eq_true rfl) ?_
    refine ok_seq 1 (σ' := (1, [(0, .ref 136), (1, .int (nI k)), (2, .int wt)], [.int (nI k)], gSh, M)) rfl ?_
    refine ok_if 9 rfl rfl (fun hz => absurd hz (by simp only [pCP]; rw [hI_int (a := k) (by omega)]; omega)) (fun _ => ?_)
    refine ok_seq 2 (σ' := (6, [(0, .ref 136), (1, .int (nI k)), (2, .int wt)], [.int wt, .int (nI k)], gSh, M)) rfl ?_
    refine ok_icmp 11 rfl rfl ?_ ?_
    · intro hlt
      simp only [pCP] at hlt
      rw [hI_int (a := k) (by omega)] at hlt
      have hlt : ((k : Nat) : Int) < (wt).toInt := by omega
      refine ok_seq 3 (σ' := (14, [(0, .ref 136), (1, .int (nI k)), (2, .int wt)], [.int mI, .int wt, .ref 136], gSh, M)) rfl ?_
      refine ok_call (mi := 91) (as := [.ref 136, .int wt, .int mI]) (pc' := 17) (L' := [(0, .ref 136), (1, .int (nI k)), (2, .int wt)]) (st' := []) (sh' := gSh) (M' := M) (i := .invokevirtual 142) (len := 3) rfl rfl ?_
      refine (((hH.1 [.ref 136, .int wt, .int mI] M ⟨r136, ⟨wt, rfl, (show (0 : Int) ≤ wt.toInt by omega), w2⟩, sat_a _, trivial⟩ hM hg (fun q hq => by cases hq)).deep (by omega))).mono ?_
      rintro v ⟨sh2, M2⟩ ⟨hsh, hM2, hv, hf2, -⟩
      have hsh : sh2 = gSh := hsh
      subst hsh
      dsimp only at hM2 hf2
      have ev : v = none := by
        cases v with
        | none => rfl
        | some v => exact hv.elim
      subst ev
      have hg2 : gR M2 := gR_keep hf2.2.1 hf2.2.2.1 hf2.2.2.2 hg
      have h0 := ty_ref (pby hT hM2 0 rfl rfl)
      have h11 := ty_ref (pby hT hM2 3 rfl rfl)
      obtain ⟨c, hc, h9c⟩ := ty_nat (hM2 9 0 _ (by decide) (by rw [tyAt_row hT.1]; exact hT.2.2.1))
      obtain ⟨b, hb, h9b⟩ := ty_nat (pby hT hM2 5 rfl rfl)
      refine ok_seq 2 (σ' := (21, [(0, .ref 136), (1, .int (nI k)), (2, .int wt)], [M2 136 0], gSh, M2)) rfl ?_
      rw [h0]
      refine ok_seq 1 (σ' := (24, [(0, .ref 136), (1, .int (nI k)), (2, .int wt)], [M2 1 1], gSh, M2)) rfl ?_
      rw [h11]
      refine ok_seq 1 (σ' := (27, [(0, .ref 136), (1, .int (nI k)), (2, .int wt)], [M2 9 0], gSh, M2)) rfl ?_
      rw [h9c]
      refine ok_seq 3 (σ' := (32, [(3, .int (nI c)), (0, .ref 136), (1, .int (nI k)), (2, .int wt)], [M2 136 0], gSh, M2)) rfl ?_
      rw [h0]
      refine ok_seq 1 (σ' := (35, [(3, .int (nI c)), (0, .ref 136), (1, .int (nI k)), (2, .int wt)], [M2 1 1], gSh, M2)) rfl ?_
      rw [h11]
      refine ok_seq 1 (σ' := (38, [(3, .int (nI c)), (0, .ref 136), (1, .int (nI k)), (2, .int wt)], [M2 9 3], gSh, M2)) rfl ?_
      rw [h9b]
      refine ok_seq 3 (σ' := (43, [(5, .int (Int32.ofInt 0)), (4, .int (nI b)), (3, .int (nI c)), (0, .ref 136), (1, .int (nI k)), (2, .int wt)], [], gSh, M2)) rfl ?_
      rw [cI_0]
      have hfin := oob_loop (S := S) (d := 0) (k := k) (wt := wt) hT hH hM2 hg2 (by omega) k 0 b c _ (by omega) (by omega) (by omega) (Or.inl rfl)
      rw [Nat.zero_add] at hfin
      refine hfin.mono ?_
      rintro i len τ' ⟨v, g1, g2, g3⟩
      have e1 : τ'.2.2.2.1 = gSh := congrArg Prod.fst g3
      have e2 : τ'.2.2.2.2 = M2 := congrArg Prod.snd g3
      refine ⟨v, g1, e1, g2, ?_, ?_⟩
      · show tyM (tOf τ) τ'.2.2.2.2
        rw [e2]
        exact hM2
      · show frm _ M τ'.2.2.2.2
        rw [e2]
        exact hf2
    · intro hlt
      simp only [pCP] at hlt
      rw [hI_int (a := k) (by omega)] at hlt
      have hlt : ((k : Nat) : Int) ≥ (wt).toInt := by omega
      refine ok_seq 1 (σ' := (10, [(0, .ref 136), (1, .int (nI k)), (2, .int wt)], [.int mI], gSh, M)) rfl ?_
      exact ok_ret (i := .ireturn) (len := 1) rfl rfl ⟨_, rfl, rfl, ⟨mI, rfl, by decide, by decide⟩, hM, frm.rf _ _⟩

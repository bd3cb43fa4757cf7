/-! by hand: soonest at 21, where a sea has 36 cells; printed by wip/gen/gen66s.py -/
def offM (M0 M : pMem) : Prop := ∀ o, o ≠ 197 → M o = M0 o
abbrev nRow : List (Nat × aE) := [(93600, (1, Int.ofNat 1, Int.ofNat 0, []))]
def nulM (M : pMem) : pMem := fun o j => if o = 197 then .null else M o j
theorem nulM_ne {M : pMem} {o : Nat} (h : o ≠ 197) : nulM M o = M o := by
  funext j
  unfold nulM
  rw [if_neg h]
theorem nulM_eq {M : pMem} (j : Nat) : nulM M 197 j = .null := by
  unfold nulM
  rw [if_pos rfl]
theorem nulM_ty {τ : fT} {M : pMem} (ht : fTau τ) (hM : tyM (tOf τ) M) : tyM (tOf (tOv τ 197 nRow)) (nulM M) := by
  intro o k e ho he
  rw [tyAt_row (tOv_t (by decide) ht)] at he
  by_cases e9 : o = 197
  · subst e9
    rw [tOv_eq] at he
    rw [nulM_eq]
    have he : rowAt nRow k = some e := he
    by_cases hk : k < 93600
    · rw [row1_at hk] at he
      cases he
      exact Or.inl ⟨rfl, rfl⟩
    · rw [rowEnd (n := 93600) (by decide) k (by omega)] at he
      cases he
  · rw [tOv_ne e9] at he
    rw [nulM_ne e9]
    exact hM o k e ho (by rw [tyAt_row ht]; exact he)
theorem offM_g {M0 M : pMem} (ho : offM M0 M) (hg : gR M0) : gR M := gR_keep (ho 188 (by decide)) (ho 187 (by decide)) (fun k _ => by rw [ho 186 (by decide)]) hg
/-- a pure method that doesn't read 197 answers the same whatever lies there -/
theorem q_ind {τ : fT} {S : pScr} {d m : Nat} {es : List aE} {lo hi : Int} {x : List Nat} {vs : List Value} {M0 : pMem} (ht : fTau τ) (hm : ¬ pKind.getD m 9 = 2) (h : cnOk τ S d m (es, [(0, lo, hi, x)], some [], [], [])) (hN : cnOk (tOv τ 197 nRow) S d m (es, [(0, lo, hi, x)], some [], [], [])) (hvs : satS es vs) (hM : tyM (tOf τ) M0) (hg : gR M0) : ∃ z : Int32, lo ≤ z.toInt ∧ z.toInt ≤ hi ∧ ∀ M, offM M0 M → tyM (tOf τ) M → cOk S d m vs (gSh, M) (fun r hp => r = some (.int z) ∧ hp = (gSh, M)) := by
  have hgN : gR (nulM M0) := gR_keep (nulM_ne (by decide)) (nulM_ne (by decide)) (fun k _ => by rw [nulM_ne (by decide)]) hg
  obtain ⟨z, z1, z2, z3⟩ := c_pure hN hvs (nulM_ty ht hM) hgN (fun q hq => by cases hq)
  refine ⟨z, z1, z2, fun M ho hT => ?_⟩
  obtain ⟨z', -, -, y3⟩ := c_pure h hvs hT (offM_g ho hg) (fun q hq => by cases hq)
  have hs := sim_c hm (M' := M) (fun o k => by
    by_cases e : o = 197
    · subst e
      exact Or.inr ⟨rfl, nulM_eq k⟩
    · left
      rw [nulM_ne e, ho o e]) z3
  refine (c_both hs y3).mono ?_
  rintro r hp ⟨⟨hp0, ⟨e1, -⟩, -, -⟩, -, e4⟩
  exact ⟨e1, e4⟩
def sX (k c a b : Nat) : Nat := ((k * 36 + c) * 100 + a) * 2 + b
def caC (q : Nat) (x : Int32) : Int32 := if x.toInt ≤ (q : Int) then x else mI
def caV (o b q : Nat) (p : Int32) (ra mo ho : Nat) (pu : Int32) : Int32 := if o = 6 then nI 0 else if o = 7 then (if b = 1 then (if ra ≤ q then nI ra else mI) else mI) else if b = 1 then mI else caC q (if o = 4 then nI mo else if o = 5 then nI ho else if p.toInt < 0 then mI else pu)
def clV (o c : Nat) (p dr : Int32) : Int32 := if o < 4 then p else if o = 5 then nI c else dr
def fB (o b : Nat) : Nat := if o = 6 then 1 else if o = 7 then 0 else b
theorem fB_lt {o b : Nat} (h : b < 2) : fB o b < 2 := by
  unfold fB
  split
  · omega
  · split <;> omega
def obV (o e bb x q : Nat) (r : Int32) : Int32 := if o < 4 ∧ e = 1 then nI (199 - (q - x)) else if bb = 0 then (if r.toInt < 0 then mI else r + nI 100) else mI
theorem add100 {r : Int32} (h0 : 0 ≤ r.toInt) (h : 0 ≤ (r + nI 100).toInt) : (r + nI 100).toInt = r.toInt + 100 := by
  have e : (nI 100).toInt = 100 := by decide
  have h2 := r.toInt_lt
  have h3 := Int32.toInt_add r (nI 100)
  rw [e] at h3
  rw [h3] at h ⊢
  rw [Int.bmod_def] at h ⊢
  split at h <;> split <;> omega
theorem ob_big {o e bb x q : Nat} {r : Int32} (hq : q < 100) (h : 200 ≤ (obV o e bb x q r).toInt) : r.toInt = (obV o e bb x q r).toInt - 100 := by
  unfold obV at h ⊢
  by_cases c1 : o < 4 ∧ e = 1
  · rw [if_pos c1, hI_int (by omega)] at h
    omega
  · rw [if_neg c1] at h ⊢
    by_cases c2 : bb = 0
    · rw [if_pos c2] at h ⊢
      by_cases c3 : r.toInt < 0
      · rw [if_pos c3, mI_int] at h
        omega
      · rw [if_neg c3] at h ⊢
        rw [add100 (by omega) (by omega)]
        omega
    · rw [if_neg c2, mI_int] at h
      omega
theorem ca_rng {o b q : Nat} {p : Int32} {ra mo ho : Nat} {pu : Int32} (h1 : ra < 100) (h2 : mo < 100) (h3 : ho < 100) (h4 : -1 ≤ pu.toInt) : -1 ≤ (caV o b q p ra mo ho pu).toInt ∧ (caV o b q p ra mo ho pu).toInt ≤ (q : Int) := by
  have e0 : (nI 0).toInt = 0 := by decide
  have e1 := hI_int (a := ra) (by omega)
  have e2 := hI_int (a := mo) (by omega)
  have e3 := hI_int (a := ho) (by omega)
  have e4 := mI_int
  have hC : ∀ x : Int32, -1 ≤ x.toInt → -1 ≤ (caC q x).toInt ∧ (caC q x).toInt ≤ (q : Int) := by
    intro x hx
    unfold caC
    split
    · omega
    · omega
  unfold caV
  by_cases c1 : o = 6
  · rw [if_pos c1]
    omega
  rw [if_neg c1]
  by_cases c2 : o = 7
  · rw [if_pos c2]
    by_cases c3 : b = 1
    · rw [if_pos c3]
      by_cases c4 : ra ≤ q
      · rw [if_pos c4]
        omega
      · rw [if_neg c4]
        omega
    · rw [if_neg c3]
      omega
  rw [if_neg c2]
  by_cases c3 : b = 1
  · rw [if_pos c3]
    omega
  rw [if_neg c3]
  apply hC
  by_cases c4 : o = 4
  · rw [if_pos c4]
    omega
  rw [if_neg c4]
  by_cases c5 : o = 5
  · rw [if_pos c5]
    omega
  rw [if_neg c5]
  by_cases c6 : p.toInt < 0
  · rw [if_pos c6]
    omega
  · rw [if_neg c6]
    exact h4
theorem ca_p {o b q : Nat} {p : Int32} {ra mo ho : Nat} {pu : Int32} (ho4 : o < 4) (h : 0 ≤ (caV o b q p ra mo ho pu).toInt) : 0 ≤ p.toInt := by
  have e4 := mI_int
  unfold caV at h
  rw [if_neg (by omega), if_neg (by omega)] at h
  by_cases c3 : b = 1
  · rw [if_pos c3] at h
    omega
  · rw [if_neg c3, if_neg (by omega), if_neg (by omega)] at h
    by_cases c6 : p.toInt < 0
    · rw [if_pos c6] at h
      unfold caC at h
      split at h <;> omega
    · omega
theorem ok_idiv {S : pScr} {o nL d pc : Nat} {ini : Bool} {code : Nat → Option (Instr × Nat)} {Post : Instr → Nat → pSt → Prop} {L : pLs} {st : List Value} {sh : pSh} {M : pMem} {x y : Int32} (hc : code pc = some (.idiv, 1)) (hy : y ≠ 0) (k : pOk S o ini nL code d Post (pc + 1, L, .int (x / y) :: st, sh, M)) : pOk S o ini nL code d Post (pc, L, .int y :: .int x :: st, sh, M) := by
  refine ok_step hc ?_ k
  show (if y = 0 then none else pGo (pc + 1) L (.int (x / y) :: st) sh M) = _
  rw [if_neg hy]
  rfl
theorem r185_ : satE (1, 0, 0, [185]) (.ref 185) := Or.inr ⟨185, List.mem_singleton.mpr rfl, rfl⟩
theorem c_fires {S : pScr} {d o b : Nat} {M : pMem} (ho : o < 8) (hb : b < 2) : cOk S (d + 1) 226 [.int (nI o), .int (nI b)] (gSh, M) (fun r hp => r = some (.int (nI (fB o b))) ∧ hp = (gSh, M)) := by
  refine c_of_ok (Nat.le_of_ble_eq_true rfl) ?_
  refine ok_seq 2 (σ' := (3, [(0, .int (nI o)), (1, .int (nI b))], [.int ((Int8.ofInt 6).toInt32), .int (nI o)], gSh, M)) rfl ?_
  rw [(show (Int8.ofInt 6).toInt32 = nI 6 by decide)]
  refine ok_icmp 10 rfl rfl ?_ ?_
  · intro h6
    simp only [pCP] at h6
    rw [hI_int (a := o) (by omega), hI_int (a := 6) (by omega)] at h6
    have h6 : ((o : Nat) : Int) ≠ ((6 : Nat) : Int) := by omega
    refine ok_seq 2 (σ' := (13, [(0, .int (nI o)), (1, .int (nI b))], [.int ((Int8.ofInt 7).toInt32), .int (nI o)], gSh, M)) rfl ?_
    rw [(show (Int8.ofInt 7).toInt32 = nI 7 by decide)]
    refine ok_icmp 20 rfl rfl ?_ ?_
    · intro h7
      simp only [pCP] at h7
      rw [hI_int (a := o) (by omega), hI_int (a := 7) (by omega)] at h7
      have h7 : ((o : Nat) : Int) ≠ ((7 : Nat) : Int) := by omega
      refine ok_seq 1 (σ' := (21, [(0, .int (nI o)), (1, .int (nI b))], [.int (nI b)], gSh, M)) rfl ?_
      exact ok_ret (i := .ireturn) (len := 1) rfl rfl ⟨_, rfl, by unfold fB; rw [if_neg (by omega), if_neg (by omega)], rfl⟩
    · intro h7
      simp only [pCP] at h7
      rw [hI_int (a := o) (by omega), hI_int (a := 7) (by omega)] at h7
      have h7 : ((o : Nat) : Int) = ((7 : Nat) : Int) := by omega
      refine ok_seq 2 (σ' := (21, [(0, .int (nI o)), (1, .int (nI b))], [.int (Int32.ofInt 0)], gSh, M)) rfl ?_
      rw [cI_0]
      exact ok_ret (i := .ireturn) (len := 1) rfl rfl ⟨_, rfl, by unfold fB; rw [if_neg (by omega), if_pos (by omega)], rfl⟩
  · intro h6
    simp only [pCP] at h6
    rw [hI_int (a := o) (by omega), hI_int (a := 6) (by omega)] at h6
    have h6 : ((o : Nat) : Int) = ((6 : Nat) : Int) := by omega
    refine ok_seq 2 (σ' := (21, [(0, .int (nI o)), (1, .int (nI b))], [.int (Int32.ofInt 1)], gSh, M)) rfl ?_
    rw [cI_1]
    exact ok_ret (i := .ireturn) (len := 1) rfl rfl ⟨_, rfl, by unfold fB; rw [if_pos (by omega)], rfl⟩
theorem c_stN {S : pScr} {d : Nat} {M : pMem} (k c a b : Nat) : cOk S (d + 1) 240 [.int (nI k), .int (nI c), .int (nI a), .int (nI b)] (gSh, M) (fun r hp => r = some (.int (nI (sX k c a b))) ∧ hp = (gSh, M)) := by
  refine c_of_ok (Nat.le_of_ble_eq_true rfl) ?_
  refine ok_seq 13 (σ' := (15, [(0, .int (nI k)), (1, .int (nI c)), (2, .int (nI a)), (3, .int (nI b))], [.int (((((((nI k) * ((Int8.ofInt 36).toInt32)) + (nI c)) * ((Int8.ofInt 100).toInt32)) + (nI a)) * (Int32.ofInt 2)) + (nI b))], gSh, M)) rfl ?_
  rw [(show (Int8.ofInt 36).toInt32 = nI 36 by decide), hI_mul k 36, hI_add (k * 36) c, (show (Int8.ofInt 100).toInt32 = nI 100 by decide), hI_mul ((k * 36) + c) 100, hI_add (((k * 36) + c) * 100) a, cI_2, hI_mul ((((k * 36) + c) * 100) + a) 2, hI_add (((((k * 36) + c) * 100) + a) * 2) b]
  exact ok_ret (i := .ireturn) (len := 1) rfl rfl ⟨_, rfl, rfl, rfl⟩
theorem c_costA {S : pScr} {d k c q b o ra mo ho t : Nat} {p pu : Int32} {M : pMem} (hk : k < 12) (hq : q < 100) (hb : b < 2) (ho8 : o < 8) (hra2 : ra < 100) (hmo2 : mo < 100) (hho2 : ho < 100) (h3 : M 185 3 = .ref 186) (h29 : M 185 29 = .ref 195) (hmo : M 186 9 = .int (nI mo)) (hho : M 186 10 = .int (nI ho)) (hra : M 186 11 = .int (nI ra)) (hP : o < 4 → cOk S d 162 [.ref 185, .int (nI c), .int (nI o)] (gSh, M) (fun r hp => r = some (.int p) ∧ hp = (gSh, M))) (ht : 0 ≤ p.toInt → p = nI t ∧ t ≤ 35) (hpu : 0 ≤ p.toInt → M 195 (36 * k + t) = .int pu) : cOk S (d + 1) 238 [.ref 185, .int (nI k), .int (nI c), .int (nI q), .int (nI b), .int (nI o)] (gSh, M) (fun r hp => r = some (.int (caV o b q p ra mo ho pu)) ∧ hp = (gSh, M)) := by
  refine c_of_ok (Nat.le_of_ble_eq_true rfl) ?_
  refine ok_seq 2 (σ' := (4, [(0, .ref 185), (1, .int (nI k)), (2, .int (nI c)), (3, .int (nI q)), (4, .int (nI b)), (5, .int (nI o))], [.int ((Int8.ofInt 6).toInt32), .int (nI o)], gSh, M)) rfl ?_
  rw [(show (Int8.ofInt 6).toInt32 = nI 6 by decide)]
  refine ok_icmp 9 rfl rfl ?_ ?_
  · intro h6
    simp only [pCP] at h6
    rw [hI_int (a := o) (by omega), hI_int (a := 6) (by omega)] at h6
    have h6 : ((o : Nat) : Int) ≠ ((6 : Nat) : Int) := by omega
    refine ok_seq 2 (σ' := (13, [(0, .ref 185), (1, .int (nI k)), (2, .int (nI c)), (3, .int (nI q)), (4, .int (nI b)), (5, .int (nI o))], [.int ((Int8.ofInt 7).toInt32), .int (nI o)], gSh, M)) rfl ?_
    rw [(show (Int8.ofInt 7).toInt32 = nI 7 by decide)]
    refine ok_icmp 45 rfl rfl ?_ ?_
    · intro h7
      simp only [pCP] at h7
      rw [hI_int (a := o) (by omega), hI_int (a := 7) (by omega)] at h7
      have h7 : ((o : Nat) : Int) ≠ ((7 : Nat) : Int) := by omega
      refine ok_seq 2 (σ' := (48, [(0, .ref 185), (1, .int (nI k)), (2, .int (nI c)), (3, .int (nI q)), (4, .int (nI b)), (5, .int (nI o))], [.int (Int32.ofInt 1), .int (nI b)], gSh, M)) rfl ?_
      rw [cI_1]
      refine ok_icmp 53 rfl rfl ?_ ?_
      · intro hb1
        simp only [pCP] at hb1
        rw [hI_int (a := b) (by omega), hI_int (a := 1) (by omega)] at hb1
        have hb1 : ((b : Nat) : Int) ≠ ((1 : Nat) : Int) := by omega
        refine ok_seq 2 (σ' := (56, [(0, .ref 185), (1, .int (nI k)), (2, .int (nI c)), (3, .int (nI q)), (4, .int (nI b)), (5, .int (nI o))], [.int (Int32.ofInt 4), .int (nI o)], gSh, M)) rfl ?_
        rw [cI_4]
        refine ok_icmp 69 rfl rfl ?_ ?_
        · intro h4
          simp only [pCP] at h4
          rw [hI_int (a := o) (by omega), hI_int (a := 4) (by omega)] at h4
          have h4 : ((o : Nat) : Int) ≥ ((4 : Nat) : Int) := by omega
          refine ok_seq 4 (σ' := (75, [(6, .int mI), (0, .ref 185), (1, .int (nI k)), (2, .int (nI c)), (3, .int (nI q)), (4, .int (nI b)), (5, .int (nI o))], [.int (Int32.ofInt 4), .int (nI o)], gSh, M)) rfl ?_
          rw [cI_4]
          refine ok_icmp 88 rfl rfl ?_ ?_
          · intro h44
            simp only [pCP] at h44
            rw [hI_int (a := o) (by omega), hI_int (a := 4) (by omega)] at h44
            have h44 : ((o : Nat) : Int) ≠ ((4 : Nat) : Int) := by omega
            refine ok_seq 2 (σ' := (91, [(6, .int mI), (0, .ref 185), (1, .int (nI k)), (2, .int (nI c)), (3, .int (nI q)), (4, .int (nI b)), (5, .int (nI o))], [.int (Int32.ofInt 5), .int (nI o)], gSh, M)) rfl ?_
            rw [cI_5]
            refine ok_icmp 104 rfl rfl (fun hz => absurd hz (by simp only [pCP]; rw [hI_int (a := o) (by omega), hI_int (a := 5) (by omega)]; omega)) (fun _ => ?_)
            refine ok_seq 2 (σ' := (98, [(6, .int mI), (0, .ref 185), (1, .int (nI k)), (2, .int (nI c)), (3, .int (nI q)), (4, .int (nI b)), (5, .int (nI o))], [M 185 3], gSh, M)) rfl ?_
            rw [h3]
            refine ok_seq 1 (σ' := (100, [(6, .int mI), (0, .ref 185), (1, .int (nI k)), (2, .int (nI c)), (3, .int (nI q)), (4, .int (nI b)), (5, .int (nI o))], [.int ((Int8.ofInt 10).toInt32), .ref 186], gSh, M)) rfl ?_
            rw [(show (Int8.ofInt 10).toInt32 = nI 10 by decide)]
            refine ok_iald (n := 280) (v := nI ho) rfl rfl (hI_in (by omega) (by decide)) (by rw [hI_nat (by omega)]; exact hho) ?_
            refine ok_seq 4 (σ' := (130, [(7, .int (nI ho)), (6, .int mI), (0, .ref 185), (1, .int (nI k)), (2, .int (nI c)), (3, .int (nI q)), (4, .int (nI b)), (5, .int (nI o))], [.int (nI q), .int (nI ho)], gSh, M)) rfl ?_
            refine ok_icmp 138 rfl rfl ?_ ?_
            · intro hc
              simp only [pCP] at hc
              rw [hI_int (a := ho) (by omega), hI_int (a := q) (by omega)] at hc
              have hc : ((ho : Nat) : Int) > ((q : Nat) : Int) := by omega
              refine ok_seq 1 (σ' := (139, [(7, .int (nI ho)), (6, .int mI), (0, .ref 185), (1, .int (nI k)), (2, .int (nI c)), (3, .int (nI q)), (4, .int (nI b)), (5, .int (nI o))], [.int mI], gSh, M)) rfl ?_
              exact ok_ret (i := .ireturn) (len := 1) rfl rfl ⟨_, rfl, by unfold caV; rw [if_neg (by omega), if_neg (by omega), if_neg (by omega), if_neg (by omega), if_pos (by omega)]; unfold caC; rw [if_neg (by rw [hI_int (a := ho) (by omega)]; omega)], rfl⟩
            · intro hc
              simp only [pCP] at hc
              rw [hI_int (a := ho) (by omega), hI_int (a := q) (by omega)] at hc
              have hc : ((ho : Nat) : Int) ≤ ((q : Nat) : Int) := by omega
              refine ok_seq 2 (σ' := (139, [(7, .int (nI ho)), (6, .int mI), (0, .ref 185), (1, .int (nI k)), (2, .int (nI c)), (3, .int (nI q)), (4, .int (nI b)), (5, .int (nI o))], [.int (nI ho)], gSh, M)) rfl ?_
              exact ok_ret (i := .ireturn) (len := 1) rfl rfl ⟨_, rfl, by unfold caV; rw [if_neg (by omega), if_neg (by omega), if_neg (by omega), if_neg (by omega), if_pos (by omega)]; unfold caC; rw [if_pos (by rw [hI_int (a := ho) (by omega)]; omega)], rfl⟩
          · intro h44
            simp only [pCP] at h44
            rw [hI_int (a := o) (by omega), hI_int (a := 4) (by omega)] at h44
            have h44 : ((o : Nat) : Int) = ((4 : Nat) : Int) := by omega
            refine ok_seq 2 (σ' := (82, [(6, .int mI), (0, .ref 185), (1, .int (nI k)), (2, .int (nI c)), (3, .int (nI q)), (4, .int (nI b)), (5, .int (nI o))], [M 185 3], gSh, M)) rfl ?_
            rw [h3]
            refine ok_seq 1 (σ' := (84, [(6, .int mI), (0, .ref 185), (1, .int (nI k)), (2, .int (nI c)), (3, .int (nI q)), (4, .int (nI b)), (5, .int (nI o))], [.int ((Int8.ofInt 9).toInt32), .ref 186], gSh, M)) rfl ?_
            rw [(show (Int8.ofInt 9).toInt32 = nI 9 by decide)]
            refine ok_iald (n := 280) (v := nI mo) rfl rfl (hI_in (by omega) (by decide)) (by rw [hI_nat (by omega)]; exact hmo) ?_
            refine ok_seq 4 (σ' := (130, [(7, .int (nI mo)), (6, .int mI), (0, .ref 185), (1, .int (nI k)), (2, .int (nI c)), (3, .int (nI q)), (4, .int (nI b)), (5, .int (nI o))], [.int (nI q), .int (nI mo)], gSh, M)) rfl ?_
            refine ok_icmp 138 rfl rfl ?_ ?_
            · intro hc
              simp only [pCP] at hc
              rw [hI_int (a := mo) (by omega), hI_int (a := q) (by omega)] at hc
              have hc : ((mo : Nat) : Int) > ((q : Nat) : Int) := by omega
              refine ok_seq 1 (σ' := (139, [(7, .int (nI mo)), (6, .int mI), (0, .ref 185), (1, .int (nI k)), (2, .int (nI c)), (3, .int (nI q)), (4, .int (nI b)), (5, .int (nI o))], [.int mI], gSh, M)) rfl ?_
              exact ok_ret (i := .ireturn) (len := 1) rfl rfl ⟨_, rfl, by unfold caV; rw [if_neg (by omega), if_neg (by omega), if_neg (by omega), if_pos (by omega)]; unfold caC; rw [if_neg (by rw [hI_int (a := mo) (by omega)]; omega)], rfl⟩
            · intro hc
              simp only [pCP] at hc
              rw [hI_int (a := mo) (by omega), hI_int (a := q) (by omega)] at hc
              have hc : ((mo : Nat) : Int) ≤ ((q : Nat) : Int) := by omega
              refine ok_seq 2 (σ' := (139, [(7, .int (nI mo)), (6, .int mI), (0, .ref 185), (1, .int (nI k)), (2, .int (nI c)), (3, .int (nI q)), (4, .int (nI b)), (5, .int (nI o))], [.int (nI mo)], gSh, M)) rfl ?_
              exact ok_ret (i := .ireturn) (len := 1) rfl rfl ⟨_, rfl, by unfold caV; rw [if_neg (by omega), if_neg (by omega), if_neg (by omega), if_pos (by omega)]; unfold caC; rw [if_pos (by rw [hI_int (a := mo) (by omega)]; omega)], rfl⟩
        · intro h4
          simp only [pCP] at h4
          rw [hI_int (a := o) (by omega), hI_int (a := 4) (by omega)] at h4
          have h4 : ((o : Nat) : Int) < ((4 : Nat) : Int) := by omega
          refine ok_seq 3 (σ' := (63, [(0, .ref 185), (1, .int (nI k)), (2, .int (nI c)), (3, .int (nI q)), (4, .int (nI b)), (5, .int (nI o))], [.int (nI o), .int (nI c), .ref 185], gSh, M)) rfl ?_
          refine ok_call (mi := 162) (as := [.ref 185, .int (nI c), .int (nI o)]) (pc' := 66) (L' := [(0, .ref 185), (1, .int (nI k)), (2, .int (nI c)), (3, .int (nI q)), (4, .int (nI b)), (5, .int (nI o))]) (st' := []) (sh' := gSh) (M' := M) (i := .invokevirtual 271) (len := 3) rfl rfl ?_
          refine ((hP (by omega))).mono ?_
          rintro v hp ⟨rfl, rfl⟩
          refine ok_seq 4 (σ' := (75, [(6, .int p), (0, .ref 185), (1, .int (nI k)), (2, .int (nI c)), (3, .int (nI q)), (4, .int (nI b)), (5, .int (nI o))], [.int (Int32.ofInt 4), .int (nI o)], gSh, M)) rfl ?_
          rw [cI_4]
          refine ok_icmp 88 rfl rfl (fun _ => ?_) (fun hz => absurd (by simp only [pCP]; rw [hI_int (a := o) (by omega), hI_int (a := 4) (by omega)]; omega) hz)
          refine ok_seq 2 (σ' := (91, [(6, .int p), (0, .ref 185), (1, .int (nI k)), (2, .int (nI c)), (3, .int (nI q)), (4, .int (nI b)), (5, .int (nI o))], [.int (Int32.ofInt 5), .int (nI o)], gSh, M)) rfl ?_
          rw [cI_5]
          refine ok_icmp 104 rfl rfl (fun _ => ?_) (fun hz => absurd (by simp only [pCP]; rw [hI_int (a := o) (by omega), hI_int (a := 5) (by omega)]; omega) hz)
          refine ok_seq 1 (σ' := (106, [(6, .int p), (0, .ref 185), (1, .int (nI k)), (2, .int (nI c)), (3, .int (nI q)), (4, .int (nI b)), (5, .int (nI o))], [.int p], gSh, M)) rfl ?_
          refine ok_if 113 rfl rfl ?_ ?_
          · intro hp0
            simp only [pCP] at hp0
            have hp0 : (p).toInt ≥ (0 : Int) := by omega
            obtain ⟨ep, ht9⟩ := ht hp0
            have hpu9 := hpu hp0
            subst ep
            refine ok_seq 2 (σ' := (117, [(6, .int (nI t)), (0, .ref 185), (1, .int (nI k)), (2, .int (nI c)), (3, .int (nI q)), (4, .int (nI b)), (5, .int (nI o))], [M 185 29], gSh, M)) rfl ?_
            rw [h29]
            refine ok_seq 5 (σ' := (124, [(6, .int (nI t)), (0, .ref 185), (1, .int (nI k)), (2, .int (nI c)), (3, .int (nI q)), (4, .int (nI b)), (5, .int (nI o))], [.int ((((Int8.ofInt 36).toInt32) * (nI k)) + (nI t)), .ref 195], gSh, M)) rfl ?_
            rw [(show (Int8.ofInt 36).toInt32 = nI 36 by decide), hI_mul 36 k, hI_add (36 * k) t]
            refine ok_iald (n := 468) (v := pu) rfl rfl (hI_in (by omega) (by decide)) (by rw [hI_nat (by omega)]; exact hpu9) ?_
            refine ok_seq 3 (σ' := (130, [(7, .int pu), (6, .int (nI t)), (0, .ref 185), (1, .int (nI k)), (2, .int (nI c)), (3, .int (nI q)), (4, .int (nI b)), (5, .int (nI o))], [.int (nI q), .int pu], gSh, M)) rfl ?_
            refine ok_icmp 138 rfl rfl ?_ ?_
            · intro hc
              simp only [pCP] at hc
              rw [hI_int (a := q) (by omega)] at hc
              have hc : (pu).toInt > ((q : Nat) : Int) := by omega
              refine ok_seq 1 (σ' := (139, [(7, .int pu), (6, .int (nI t)), (0, .ref 185), (1, .int (nI k)), (2, .int (nI c)), (3, .int (nI q)), (4, .int (nI b)), (5, .int (nI o))], [.int mI], gSh, M)) rfl ?_
              exact ok_ret (i := .ireturn) (len := 1) rfl rfl ⟨_, rfl, by unfold caV; rw [if_neg (by omega), if_neg (by omega), if_neg (by omega), if_neg (by omega), if_neg (by omega), if_neg (by omega)]; unfold caC; rw [if_neg (by omega)], rfl⟩
            · intro hc
              simp only [pCP] at hc
              rw [hI_int (a := q) (by omega)] at hc
              have hc : (pu).toInt ≤ ((q : Nat) : Int) := by omega
              refine ok_seq 2 (σ' := (139, [(7, .int pu), (6, .int (nI t)), (0, .ref 185), (1, .int (nI k)), (2, .int (nI c)), (3, .int (nI q)), (4, .int (nI b)), (5, .int (nI o))], [.int pu], gSh, M)) rfl ?_
              exact ok_ret (i := .ireturn) (len := 1) rfl rfl ⟨_, rfl, by unfold caV; rw [if_neg (by omega), if_neg (by omega), if_neg (by omega), if_neg (by omega), if_neg (by omega), if_neg (by omega)]; unfold caC; rw [if_pos (by omega)], rfl⟩
          · intro hp0
            simp only [pCP] at hp0
            have hp0 : (p).toInt < (0 : Int) := by omega
            refine ok_seq 5 (σ' := (130, [(7, .int mI), (6, .int p), (0, .ref 185), (1, .int (nI k)), (2, .int (nI c)), (3, .int (nI q)), (4, .int (nI b)), (5, .int (nI o))], [.int (nI q), .int mI], gSh, M)) rfl ?_
            refine ok_icmp 138 rfl rfl (fun hz => absurd hz (by simp only [pCP]; rw [hI_int (a := q) (by omega), mI_int]; omega)) (fun _ => ?_)
            refine ok_seq 2 (σ' := (139, [(7, .int mI), (6, .int p), (0, .ref 185), (1, .int (nI k)), (2, .int (nI c)), (3, .int (nI q)), (4, .int (nI b)), (5, .int (nI o))], [.int mI], gSh, M)) rfl ?_
            exact ok_ret (i := .ireturn) (len := 1) rfl rfl ⟨_, rfl, by unfold caV; rw [if_neg (by omega), if_neg (by omega), if_neg (by omega), if_neg (by omega), if_neg (by omega), if_pos (by omega)]; unfold caC; rw [if_pos (by rw [mI_int]; omega)], rfl⟩
      · intro hb1
        simp only [pCP] at hb1
        rw [hI_int (a := b) (by omega), hI_int (a := 1) (by omega)] at hb1
        have hb1 : ((b : Nat) : Int) = ((1 : Nat) : Int) := by omega
        refine ok_seq 1 (σ' := (52, [(0, .ref 185), (1, .int (nI k)), (2, .int (nI c)), (3, .int (nI q)), (4, .int (nI b)), (5, .int (nI o))], [.int mI], gSh, M)) rfl ?_
        exact ok_ret (i := .ireturn) (len := 1) rfl rfl ⟨_, rfl, by unfold caV; rw [if_neg (by omega), if_neg (by omega), if_pos (by omega)], rfl⟩
    · intro h7
      simp only [pCP] at h7
      rw [hI_int (a := o) (by omega), hI_int (a := 7) (by omega)] at h7
      have h7 : ((o : Nat) : Int) = ((7 : Nat) : Int) := by omega
      refine ok_seq 2 (σ' := (19, [(0, .ref 185), (1, .int (nI k)), (2, .int (nI c)), (3, .int (nI q)), (4, .int (nI b)), (5, .int (nI o))], [.int (Int32.ofInt 1), .int (nI b)], gSh, M)) rfl ?_
      rw [cI_1]
      refine ok_icmp 43 rfl rfl ?_ ?_
      · intro hb1
        simp only [pCP] at hb1
        rw [hI_int (a := b) (by omega), hI_int (a := 1) (by omega)] at hb1
        have hb1 : ((b : Nat) : Int) ≠ ((1 : Nat) : Int) := by omega
        refine ok_seq 1 (σ' := (44, [(0, .ref 185), (1, .int (nI k)), (2, .int (nI c)), (3, .int (nI q)), (4, .int (nI b)), (5, .int (nI o))], [.int mI], gSh, M)) rfl ?_
        exact ok_ret (i := .ireturn) (len := 1) rfl rfl ⟨_, rfl, by unfold caV; rw [if_neg (by omega), if_pos (by omega), if_neg (by omega)], rfl⟩
      · intro hb1
        simp only [pCP] at hb1
        rw [hI_int (a := b) (by omega), hI_int (a := 1) (by omega)] at hb1
        have hb1 : ((b : Nat) : Int) = ((1 : Nat) : Int) := by omega
        refine ok_seq 3 (σ' := (27, [(0, .ref 185), (1, .int (nI k)), (2, .int (nI c)), (3, .int (nI q)), (4, .int (nI b)), (5, .int (nI o))], [M 185 3, .int (nI q)], gSh, M)) rfl ?_
        rw [h3]
        refine ok_seq 1 (σ' := (29, [(0, .ref 185), (1, .int (nI k)), (2, .int (nI c)), (3, .int (nI q)), (4, .int (nI b)), (5, .int (nI o))], [.int ((Int8.ofInt 11).toInt32), .ref 186, .int (nI q)], gSh, M)) rfl ?_
        rw [(show (Int8.ofInt 11).toInt32 = nI 11 by decide)]
        refine ok_iald (n := 280) (v := nI ra) rfl rfl (hI_in (by omega) (by decide)) (by rw [hI_nat (by omega)]; exact hra) ?_
        refine ok_icmp 43 rfl rfl ?_ ?_
        · intro hr
          simp only [pCP] at hr
          rw [hI_int (a := q) (by omega), hI_int (a := ra) (by omega)] at hr
          have hr : ((q : Nat) : Int) < ((ra : Nat) : Int) := by omega
          refine ok_seq 1 (σ' := (44, [(0, .ref 185), (1, .int (nI k)), (2, .int (nI c)), (3, .int (nI q)), (4, .int (nI b)), (5, .int (nI o))], [.int mI], gSh, M)) rfl ?_
          exact ok_ret (i := .ireturn) (len := 1) rfl rfl ⟨_, rfl, by unfold caV; rw [if_neg (by omega), if_pos (by omega), if_pos (by omega), if_neg (by omega)], rfl⟩
        · intro hr
          simp only [pCP] at hr
          rw [hI_int (a := q) (by omega), hI_int (a := ra) (by omega)] at hr
          have hr : ((q : Nat) : Int) ≥ ((ra : Nat) : Int) := by omega
          refine ok_seq 2 (σ' := (37, [(0, .ref 185), (1, .int (nI k)), (2, .int (nI c)), (3, .int (nI q)), (4, .int (nI b)), (5, .int (nI o))], [M 185 3], gSh, M)) rfl ?_
          rw [h3]
          refine ok_seq 1 (σ' := (39, [(0, .ref 185), (1, .int (nI k)), (2, .int (nI c)), (3, .int (nI q)), (4, .int (nI b)), (5, .int (nI o))], [.int ((Int8.ofInt 11).toInt32), .ref 186], gSh, M)) rfl ?_
          rw [(show (Int8.ofInt 11).toInt32 = nI 11 by decide)]
          refine ok_iald (n := 280) (v := nI ra) rfl rfl (hI_in (by omega) (by decide)) (by rw [hI_nat (by omega)]; exact hra) ?_
          refine ok_seq 1 (σ' := (44, [(0, .ref 185), (1, .int (nI k)), (2, .int (nI c)), (3, .int (nI q)), (4, .int (nI b)), (5, .int (nI o))], [.int (nI ra)], gSh, M)) rfl ?_
          exact ok_ret (i := .ireturn) (len := 1) rfl rfl ⟨_, rfl, by unfold caV; rw [if_neg (by omega), if_pos (by omega), if_pos (by omega), if_pos (by omega)], rfl⟩
  · intro h6
    simp only [pCP] at h6
    rw [hI_int (a := o) (by omega), hI_int (a := 6) (by omega)] at h6
    have h6 : ((o : Nat) : Int) = ((6 : Nat) : Int) := by omega
    refine ok_seq 1 (σ' := (8, [(0, .ref 185), (1, .int (nI k)), (2, .int (nI c)), (3, .int (nI q)), (4, .int (nI b)), (5, .int (nI o))], [.int (Int32.ofInt 0)], gSh, M)) rfl ?_
    rw [cI_0]
    exact ok_ret (i := .ireturn) (len := 1) rfl rfl ⟨_, rfl, by unfold caV; rw [if_pos (by omega)], rfl⟩
theorem c_cellA {S : pScr} {d k c o w : Nat} {p dr : Int32} {M : pMem} (hk : k < 12) (ho8 : o < 8) (h3 : M 185 3 = .ref 186) (hw : M 186 (180 + k) = .int (nI w)) (hP : o < 4 → cOk S d 162 [.ref 185, .int (nI c), .int (nI o)] (gSh, M) (fun r hp => r = some (.int p) ∧ hp = (gSh, M))) (hD : cOk S d 221 [.ref 185, .int (nI c), .int (nI w)] (gSh, M) (fun r hp => r = some (.int dr) ∧ hp = (gSh, M))) : cOk S (d + 1) 239 [.ref 185, .int (nI k), .int (nI c), .int (nI o)] (gSh, M) (fun r hp => r = some (.int (clV o c p dr)) ∧ hp = (gSh, M)) := by
  refine c_of_ok (Nat.le_of_ble_eq_true rfl) ?_
  refine ok_seq 2 (σ' := (2, [(0, .ref 185), (1, .int (nI k)), (2, .int (nI c)), (3, .int (nI o))], [.int (Int32.ofInt 4), .int (nI o)], gSh, M)) rfl ?_
  rw [cI_4]
  refine ok_icmp 14 rfl rfl ?_ ?_
  · intro h4
    simp only [pCP] at h4
    rw [hI_int (a := o) (by omega), hI_int (a := 4) (by omega)] at h4
    have h4 : ((o : Nat) : Int) ≥ ((4 : Nat) : Int) := by omega
    refine ok_seq 2 (σ' := (16, [(0, .ref 185), (1, .int (nI k)), (2, .int (nI c)), (3, .int (nI o))], [.int (Int32.ofInt 5), .int (nI o)], gSh, M)) rfl ?_
    rw [cI_5]
    refine ok_icmp 23 rfl rfl ?_ ?_
    · intro h5
      simp only [pCP] at h5
      rw [hI_int (a := o) (by omega), hI_int (a := 5) (by omega)] at h5
      have h5 : ((o : Nat) : Int) ≠ ((5 : Nat) : Int) := by omega
      refine ok_seq 4 (σ' := (29, [(0, .ref 185), (1, .int (nI k)), (2, .int (nI c)), (3, .int (nI o))], [M 185 3, .int (nI c), .ref 185], gSh, M)) rfl ?_
      rw [h3]
      refine ok_seq 3 (σ' := (34, [(0, .ref 185), (1, .int (nI k)), (2, .int (nI c)), (3, .int (nI o))], [.int (((Int16.ofInt 180).toInt32) + (nI k)), .ref 186, .int (nI c), .ref 185], gSh, M)) rfl ?_
      rw [(show (Int16.ofInt 180).toInt32 = nI 180 by decide), hI_add 180 k]
      refine ok_iald (n := 280) (v := nI w) rfl rfl (hI_in (by omega) (by decide)) (by rw [hI_nat (by omega)]; exact hw) ?_
      refine ok_call (mi := 221) (as := [.ref 185, .int (nI c), .int (nI w)]) (pc' := 38) (L' := [(0, .ref 185), (1, .int (nI k)), (2, .int (nI c)), (3, .int (nI o))]) (st' := []) (sh' := gSh) (M' := M) (i := .invokevirtual 325) (len := 3) rfl rfl ?_
      refine (hD).mono ?_
      rintro v hp ⟨rfl, rfl⟩
      exact ok_ret (i := .ireturn) (len := 1) rfl rfl ⟨_, rfl, by unfold clV; rw [if_neg (by omega), if_neg (by omega)], rfl⟩
    · intro h5
      simp only [pCP] at h5
      rw [hI_int (a := o) (by omega), hI_int (a := 5) (by omega)] at h5
      have h5 : ((o : Nat) : Int) = ((5 : Nat) : Int) := by omega
      refine ok_seq 2 (σ' := (38, [(0, .ref 185), (1, .int (nI k)), (2, .int (nI c)), (3, .int (nI o))], [.int (nI c)], gSh, M)) rfl ?_
      exact ok_ret (i := .ireturn) (len := 1) rfl rfl ⟨_, rfl, by unfold clV; rw [if_neg (by omega), if_pos (by omega)], rfl⟩
  · intro h4
    simp only [pCP] at h4
    rw [hI_int (a := o) (by omega), hI_int (a := 4) (by omega)] at h4
    have h4 : ((o : Nat) : Int) < ((4 : Nat) : Int) := by omega
    refine ok_seq 3 (σ' := (8, [(0, .ref 185), (1, .int (nI k)), (2, .int (nI c)), (3, .int (nI o))], [.int (nI o), .int (nI c), .ref 185], gSh, M)) rfl ?_
    refine ok_call (mi := 162) (as := [.ref 185, .int (nI c), .int (nI o)]) (pc' := 11) (L' := [(0, .ref 185), (1, .int (nI k)), (2, .int (nI c)), (3, .int (nI o))]) (st' := []) (sh' := gSh) (M' := M) (i := .invokevirtual 271) (len := 3) rfl rfl ?_
    refine ((hP (by omega))).mono ?_
    rintro v hp ⟨rfl, rfl⟩
    refine ok_seq 1 (σ' := (38, [(0, .ref 185), (1, .int (nI k)), (2, .int (nI c)), (3, .int (nI o))], [.int p], gSh, M)) rfl ?_
    exact ok_ret (i := .ireturn) (len := 1) rfl rfl ⟨_, rfl, by unfold clV; rw [if_pos (by omega)], rfl⟩
theorem c_outN {S : pScr} {d k c q b o : Nat} {M : pMem} (hC : cOk S (d + 1) 238 [.ref 185, .int (nI k), .int (nI c), .int (nI q), .int (nI b), .int (nI o)] (gSh, M) (fun r hp => r = some (.int mI) ∧ hp = (gSh, M))) : cOk S (d + 2) 241 [.ref 185, .int (nI k), .int (nI c), .int (nI q), .int (nI b), .int (nI o)] (gSh, M) (fun r hp => r = some (.int mI) ∧ hp = (gSh, M)) := by
  refine c_of_ok (Nat.le_of_ble_eq_true rfl) ?_
  refine ok_seq 6 (σ' := (8, [(0, .ref 185), (1, .int (nI k)), (2, .int (nI c)), (3, .int (nI q)), (4, .int (nI b)), (5, .int (nI o))], [.int (nI o), .int (nI b), .int (nI q), .int (nI c), .int (nI k), .ref 185], gSh, M)) rfl ?_
  refine ok_call (mi := 238) (as := [.ref 185, .int (nI k), .int (nI c), .int (nI q), .int (nI b), .int (nI o)]) (pc' := 11) (L' := [(0, .ref 185), (1, .int (nI k)), (2, .int (nI c)), (3, .int (nI q)), (4, .int (nI b)), (5, .int (nI o))]) (st' := []) (sh' := gSh) (M' := M) (i := .invokevirtual 345) (len := 3) rfl rfl ?_
  refine (hC).mono ?_
  rintro v hp ⟨rfl, rfl⟩
  refine ok_seq 2 (σ' := (15, [(6, .int mI), (0, .ref 185), (1, .int (nI k)), (2, .int (nI c)), (3, .int (nI q)), (4, .int (nI b)), (5, .int (nI o))], [.int mI], gSh, M)) rfl ?_
  refine ok_if 20 rfl rfl (fun hz => absurd hz (by simp only [pCP]; decide)) (fun _ => ?_)
  refine ok_seq 1 (σ' := (19, [(6, .int mI), (0, .ref 185), (1, .int (nI k)), (2, .int (nI c)), (3, .int (nI q)), (4, .int (nI b)), (5, .int (nI o))], [.int mI], gSh, M)) rfl ?_
  exact ok_ret (i := .ireturn) (len := 1) rfl rfl ⟨_, rfl, rfl, rfl⟩
theorem c_outY {S : pScr} {d k c q b o x y e bb : Nat} {rv : Int32} {M : pMem} (hk : k < 12) (hq : q < 100) (hb : b < 2) (ho8 : o < 8) (hx : x ≤ q) (hy : y ≤ 35) (he2 : e ≤ 1) (hbb2 : bb ≤ 1) (h3 : M 185 3 = .ref 186) (h30 : M 185 30 = .ref 196) (h31 : M 185 31 = .ref 197) (he : M 186 (70 + y) = .int (nI e)) (hbb : M 196 (36 * k + y) = .int (nI bb)) (hr : M 197 (sX (k + 1) y (q - x) (fB o b)) = .int rv) (hC : cOk S (d + 1) 238 [.ref 185, .int (nI k), .int (nI c), .int (nI q), .int (nI b), .int (nI o)] (gSh, M) (fun r hp => r = some (.int (nI x)) ∧ hp = (gSh, M))) (hL : cOk S (d + 1) 239 [.ref 185, .int (nI k), .int (nI c), .int (nI o)] (gSh, M) (fun r hp => r = some (.int (nI y)) ∧ hp = (gSh, M))) : cOk S (d + 2) 241 [.ref 185, .int (nI k), .int (nI c), .int (nI q), .int (nI b), .int (nI o)] (gSh, M) (fun r hp => r = some (.int (obV o e bb x q rv)) ∧ hp = (gSh, M)) := by
  refine c_of_ok (Nat.le_of_ble_eq_true rfl) ?_
  refine ok_seq 6 (σ' := (8, [(0, .ref 185), (1, .int (nI k)), (2, .int (nI c)), (3, .int (nI q)), (4, .int (nI b)), (5, .int (nI o))], [.int (nI o), .int (nI b), .int (nI q), .int (nI c), .int (nI k), .ref 185], gSh, M)) rfl ?_
  refine ok_call (mi := 238) (as := [.ref 185, .int (nI k), .int (nI c), .int (nI q), .int (nI b), .int (nI o)]) (pc' := 11) (L' := [(0, .ref 185), (1, .int (nI k)), (2, .int (nI c)), (3, .int (nI q)), (4, .int (nI b)), (5, .int (nI o))]) (st' := []) (sh' := gSh) (M' := M) (i := .invokevirtual 345) (len := 3) rfl rfl ?_
  refine (hC).mono ?_
  rintro v hp ⟨rfl, rfl⟩
  refine ok_seq 2 (σ' := (15, [(6, .int (nI x)), (0, .ref 185), (1, .int (nI k)), (2, .int (nI c)), (3, .int (nI q)), (4, .int (nI b)), (5, .int (nI o))], [.int (nI x)], gSh, M)) rfl ?_
  refine ok_if 20 rfl rfl (fun _ => ?_) (fun hz => absurd (by simp only [pCP]; rw [hI_int (a := x) (by omega)]; omega) hz)
  refine ok_seq 4 (σ' := (25, [(6, .int (nI x)), (0, .ref 185), (1, .int (nI k)), (2, .int (nI c)), (3, .int (nI q)), (4, .int (nI b)), (5, .int (nI o))], [.int (nI o), .int (nI c), .int (nI k), .ref 185], gSh, M)) rfl ?_
  refine ok_call (mi := 239) (as := [.ref 185, .int (nI k), .int (nI c), .int (nI o)]) (pc' := 28) (L' := [(6, .int (nI x)), (0, .ref 185), (1, .int (nI k)), (2, .int (nI c)), (3, .int (nI q)), (4, .int (nI b)), (5, .int (nI o))]) (st' := []) (sh' := gSh) (M' := M) (i := .invokevirtual 349) (len := 3) rfl rfl ?_
  refine (hL).mono ?_
  rintro v hp ⟨rfl, rfl⟩
  refine ok_seq 3 (σ' := (33, [(7, .int (nI y)), (6, .int (nI x)), (0, .ref 185), (1, .int (nI k)), (2, .int (nI c)), (3, .int (nI q)), (4, .int (nI b)), (5, .int (nI o))], [.int (Int32.ofInt 4), .int (nI o)], gSh, M)) rfl ?_
  rw [cI_4]
  refine ok_icmp 59 rfl rfl ?_ ?_
  · intro h4
    simp only [pCP] at h4
    rw [hI_int (a := o) (by omega), hI_int (a := 4) (by omega)] at h4
    have h4 : ((o : Nat) : Int) ≥ ((4 : Nat) : Int) := by omega
    refine ok_seq 2 (σ' := (63, [(7, .int (nI y)), (6, .int (nI x)), (0, .ref 185), (1, .int (nI k)), (2, .int (nI c)), (3, .int (nI q)), (4, .int (nI b)), (5, .int (nI o))], [M 185 30], gSh, M)) rfl ?_
    rw [h30]
    refine ok_seq 5 (σ' := (70, [(7, .int (nI y)), (6, .int (nI x)), (0, .ref 185), (1, .int (nI k)), (2, .int (nI c)), (3, .int (nI q)), (4, .int (nI b)), (5, .int (nI o))], [.int ((((Int8.ofInt 36).toInt32) * (nI k)) + (nI y)), .ref 196], gSh, M)) rfl ?_
    rw [(show (Int8.ofInt 36).toInt32 = nI 36 by decide), hI_mul 36 k, hI_add (36 * k) y]
    refine ok_bald (n := 468) (v := nI bb) rfl rfl (hI_in (by omega) (by decide)) (by rw [hI_nat (by omega)]; exact hbb) ?_
    refine ok_if 76 rfl rfl ?_ ?_
    · intro hb0
      simp only [pCP] at hb0
      rw [hI_int (a := bb) (by omega)] at hb0
      have hb0 : ((bb : Nat) : Int) = (0 : Int) := by omega
      refine ok_seq 2 (σ' := (80, [(7, .int (nI y)), (6, .int (nI x)), (0, .ref 185), (1, .int (nI k)), (2, .int (nI c)), (3, .int (nI q)), (4, .int (nI b)), (5, .int (nI o))], [M 185 31], gSh, M)) rfl ?_
      rw [h31]
      refine ok_seq 9 (σ' := (93, [(7, .int (nI y)), (6, .int (nI x)), (0, .ref 185), (1, .int (nI k)), (2, .int (nI c)), (3, .int (nI q)), (4, .int (nI b)), (5, .int (nI o))], [.int (nI b), .int (nI o), .int ((nI q) - (nI x)), .int (nI y), .int ((nI k) + (Int32.ofInt 1)), .ref 197], gSh, M)) rfl ?_
      rw [cI_1, hI_add k 1, hI_sub q x (by omega)]
      refine ok_call (mi := 226) (as := [.int (nI o), .int (nI b)]) (pc' := 96) (L' := [(7, .int (nI y)), (6, .int (nI x)), (0, .ref 185), (1, .int (nI k)), (2, .int (nI c)), (3, .int (nI q)), (4, .int (nI b)), (5, .int (nI o))]) (st' := [.int (nI (q - x)), .int (nI y), .int (nI (k + 1)), .ref 197]) (sh' := gSh) (M' := M) (i := .invokestatic 322) (len := 3) rfl rfl ?_
      refine ((c_fires (d := d) ho8 hb)).mono ?_
      rintro v hp ⟨rfl, rfl⟩
      refine ok_call (mi := 240) (as := [.int (nI (k + 1)), .int (nI y), .int (nI (q - x)), .int (nI (fB o b))]) (pc' := 99) (L' := [(7, .int (nI y)), (6, .int (nI x)), (0, .ref 185), (1, .int (nI k)), (2, .int (nI c)), (3, .int (nI q)), (4, .int (nI b)), (5, .int (nI o))]) (st' := [.ref 197]) (sh' := gSh) (M' := M) (i := .invokestatic 352) (len := 3) rfl rfl ?_
      refine ((c_stN (d := d) (k + 1) y (q - x) (fB o b))).mono ?_
      rintro v hp ⟨rfl, rfl⟩
      have hsx : sX (k + 1) y (q - x) (fB o b) < 93600 := by unfold sX; have := fB_lt (o := o) hb; omega
      refine ok_iald (n := 93600) (v := rv) rfl rfl (hI_in hsx (by decide)) (by rw [hI_nat (by omega)]; exact hr) ?_
      refine ok_seq 2 (σ' := (104, [(8, .int rv), (7, .int (nI y)), (6, .int (nI x)), (0, .ref 185), (1, .int (nI k)), (2, .int (nI c)), (3, .int (nI q)), (4, .int (nI b)), (5, .int (nI o))], [.int rv], gSh, M)) rfl ?_
      refine ok_if 111 rfl rfl ?_ ?_
      · intro hr0
        simp only [pCP] at hr0
        have hr0 : (rv).toInt ≥ (0 : Int) := by omega
        refine ok_seq 3 (σ' := (116, [(8, .int rv), (7, .int (nI y)), (6, .int (nI x)), (0, .ref 185), (1, .int (nI k)), (2, .int (nI c)), (3, .int (nI q)), (4, .int (nI b)), (5, .int (nI o))], [.int (rv + ((Int8.ofInt 100).toInt32))], gSh, M)) rfl ?_
        rw [(show (Int8.ofInt 100).toInt32 = nI 100 by decide)]
        exact ok_ret (i := .ireturn) (len := 1) rfl rfl ⟨_, rfl, by unfold obV; rw [if_neg (by omega), if_pos (by omega), if_neg (by omega)], rfl⟩
      · intro hr0
        simp only [pCP] at hr0
        have hr0 : (rv).toInt < (0 : Int) := by omega
        refine ok_seq 2 (σ' := (116, [(8, .int rv), (7, .int (nI y)), (6, .int (nI x)), (0, .ref 185), (1, .int (nI k)), (2, .int (nI c)), (3, .int (nI q)), (4, .int (nI b)), (5, .int (nI o))], [.int mI], gSh, M)) rfl ?_
        exact ok_ret (i := .ireturn) (len := 1) rfl rfl ⟨_, rfl, by unfold obV; rw [if_neg (by omega), if_pos (by omega), if_pos (by omega)], rfl⟩
    · intro hb0
      simp only [pCP] at hb0
      rw [hI_int (a := bb) (by omega)] at hb0
      have hb0 : ((bb : Nat) : Int) ≠ (0 : Int) := by omega
      refine ok_seq 1 (σ' := (75, [(7, .int (nI y)), (6, .int (nI x)), (0, .ref 185), (1, .int (nI k)), (2, .int (nI c)), (3, .int (nI q)), (4, .int (nI b)), (5, .int (nI o))], [.int mI], gSh, M)) rfl ?_
      exact ok_ret (i := .ireturn) (len := 1) rfl rfl ⟨_, rfl, by unfold obV; rw [if_neg (by omega), if_neg (by omega)], rfl⟩
  · intro h4
    simp only [pCP] at h4
    rw [hI_int (a := o) (by omega), hI_int (a := 4) (by omega)] at h4
    have h4 : ((o : Nat) : Int) < ((4 : Nat) : Int) := by omega
    refine ok_seq 2 (σ' := (40, [(7, .int (nI y)), (6, .int (nI x)), (0, .ref 185), (1, .int (nI k)), (2, .int (nI c)), (3, .int (nI q)), (4, .int (nI b)), (5, .int (nI o))], [M 185 3], gSh, M)) rfl ?_
    rw [h3]
    refine ok_seq 3 (σ' := (45, [(7, .int (nI y)), (6, .int (nI x)), (0, .ref 185), (1, .int (nI k)), (2, .int (nI c)), (3, .int (nI q)), (4, .int (nI b)), (5, .int (nI o))], [.int (((Int8.ofInt 70).toInt32) + (nI y)), .ref 186], gSh, M)) rfl ?_
    rw [(show (Int8.ofInt 70).toInt32 = nI 70 by decide), hI_add 70 y]
    refine ok_iald (n := 280) (v := nI e) rfl rfl (hI_in (by omega) (by decide)) (by rw [hI_nat (by omega)]; exact he) ?_
    refine ok_seq 1 (σ' := (47, [(7, .int (nI y)), (6, .int (nI x)), (0, .ref 185), (1, .int (nI k)), (2, .int (nI c)), (3, .int (nI q)), (4, .int (nI b)), (5, .int (nI o))], [.int (Int32.ofInt 1), .int (nI e)], gSh, M)) rfl ?_
    rw [cI_1]
    refine ok_icmp 59 rfl rfl ?_ ?_
    · intro he1
      simp only [pCP] at he1
      rw [hI_int (a := e) (by omega), hI_int (a := 1) (by omega)] at he1
      have he1 : ((e : Nat) : Int) ≠ ((1 : Nat) : Int) := by omega
      refine ok_seq 2 (σ' := (63, [(7, .int (nI y)), (6, .int (nI x)), (0, .ref 185), (1, .int (nI k)), (2, .int (nI c)), (3, .int (nI q)), (4, .int (nI b)), (5, .int (nI o))], [M 185 30], gSh, M)) rfl ?_
      rw [h30]
      refine ok_seq 5 (σ' := (70, [(7, .int (nI y)), (6, .int (nI x)), (0, .ref 185), (1, .int (nI k)), (2, .int (nI c)), (3, .int (nI q)), (4, .int (nI b)), (5, .int (nI o))], [.int ((((Int8.ofInt 36).toInt32) * (nI k)) + (nI y)), .ref 196], gSh, M)) rfl ?_
      rw [(show (Int8.ofInt 36).toInt32 = nI 36 by decide), hI_mul 36 k, hI_add (36 * k) y]
      refine ok_bald (n := 468) (v := nI bb) rfl rfl (hI_in (by omega) (by decide)) (by rw [hI_nat (by omega)]; exact hbb) ?_
      refine ok_if 76 rfl rfl ?_ ?_
      · intro hb0
        simp only [pCP] at hb0
        rw [hI_int (a := bb) (by omega)] at hb0
        have hb0 : ((bb : Nat) : Int) = (0 : Int) := by omega
        refine ok_seq 2 (σ' := (80, [(7, .int (nI y)), (6, .int (nI x)), (0, .ref 185), (1, .int (nI k)), (2, .int (nI c)), (3, .int (nI q)), (4, .int (nI b)), (5, .int (nI o))], [M 185 31], gSh, M)) rfl ?_
        rw [h31]
        refine ok_seq 9 (σ' := (93, [(7, .int (nI y)), (6, .int (nI x)), (0, .ref 185), (1, .int (nI k)), (2, .int (nI c)), (3, .int (nI q)), (4, .int (nI b)), (5, .int (nI o))], [.int (nI b), .int (nI o), .int ((nI q) - (nI x)), .int (nI y), .int ((nI k) + (Int32.ofInt 1)), .ref 197], gSh, M)) rfl ?_
        rw [cI_1, hI_add k 1, hI_sub q x (by omega)]
        refine ok_call (mi := 226) (as := [.int (nI o), .int (nI b)]) (pc' := 96) (L' := [(7, .int (nI y)), (6, .int (nI x)), (0, .ref 185), (1, .int (nI k)), (2, .int (nI c)), (3, .int (nI q)), (4, .int (nI b)), (5, .int (nI o))]) (st' := [.int (nI (q - x)), .int (nI y), .int (nI (k + 1)), .ref 197]) (sh' := gSh) (M' := M) (i := .invokestatic 322) (len := 3) rfl rfl ?_
        refine ((c_fires (d := d) ho8 hb)).mono ?_
        rintro v hp ⟨rfl, rfl⟩
        refine ok_call (mi := 240) (as := [.int (nI (k + 1)), .int (nI y), .int (nI (q - x)), .int (nI (fB o b))]) (pc' := 99) (L' := [(7, .int (nI y)), (6, .int (nI x)), (0, .ref 185), (1, .int (nI k)), (2, .int (nI c)), (3, .int (nI q)), (4, .int (nI b)), (5, .int (nI o))]) (st' := [.ref 197]) (sh' := gSh) (M' := M) (i := .invokestatic 352) (len := 3) rfl rfl ?_
        refine ((c_stN (d := d) (k + 1) y (q - x) (fB o b))).mono ?_
        rintro v hp ⟨rfl, rfl⟩
        have hsx : sX (k + 1) y (q - x) (fB o b) < 93600 := by unfold sX; have := fB_lt (o := o) hb; omega
        refine ok_iald (n := 93600) (v := rv) rfl rfl (hI_in hsx (by decide)) (by rw [hI_nat (by omega)]; exact hr) ?_
        refine ok_seq 2 (σ' := (104, [(8, .int rv), (7, .int (nI y)), (6, .int (nI x)), (0, .ref 185), (1, .int (nI k)), (2, .int (nI c)), (3, .int (nI q)), (4, .int (nI b)), (5, .int (nI o))], [.int rv], gSh, M)) rfl ?_
        refine ok_if 111 rfl rfl ?_ ?_
        · intro hr0
          simp only [pCP] at hr0
          have hr0 : (rv).toInt ≥ (0 : Int) := by omega
          refine ok_seq 3 (σ' := (116, [(8, .int rv), (7, .int (nI y)), (6, .int (nI x)), (0, .ref 185), (1, .int (nI k)), (2, .int (nI c)), (3, .int (nI q)), (4, .int (nI b)), (5, .int (nI o))], [.int (rv + ((Int8.ofInt 100).toInt32))], gSh, M)) rfl ?_
          rw [(show (Int8.ofInt 100).toInt32 = nI 100 by decide)]
          exact ok_ret (i := .ireturn) (len := 1) rfl rfl ⟨_, rfl, by unfold obV; rw [if_neg (by omega), if_pos (by omega), if_neg (by omega)], rfl⟩
        · intro hr0
          simp only [pCP] at hr0
          have hr0 : (rv).toInt < (0 : Int) := by omega
          refine ok_seq 2 (σ' := (116, [(8, .int rv), (7, .int (nI y)), (6, .int (nI x)), (0, .ref 185), (1, .int (nI k)), (2, .int (nI c)), (3, .int (nI q)), (4, .int (nI b)), (5, .int (nI o))], [.int mI], gSh, M)) rfl ?_
          exact ok_ret (i := .ireturn) (len := 1) rfl rfl ⟨_, rfl, by unfold obV; rw [if_neg (by omega), if_pos (by omega), if_pos (by omega)], rfl⟩
      · intro hb0
        simp only [pCP] at hb0
        rw [hI_int (a := bb) (by omega)] at hb0
        have hb0 : ((bb : Nat) : Int) ≠ (0 : Int) := by omega
        refine ok_seq 1 (σ' := (75, [(7, .int (nI y)), (6, .int (nI x)), (0, .ref 185), (1, .int (nI k)), (2, .int (nI c)), (3, .int (nI q)), (4, .int (nI b)), (5, .int (nI o))], [.int mI], gSh, M)) rfl ?_
        exact ok_ret (i := .ireturn) (len := 1) rfl rfl ⟨_, rfl, by unfold obV; rw [if_neg (by omega), if_neg (by omega)], rfl⟩
    · intro he1
      simp only [pCP] at he1
      rw [hI_int (a := e) (by omega), hI_int (a := 1) (by omega)] at he1
      have he1 : ((e : Nat) : Int) = ((1 : Nat) : Int) := by omega
      refine ok_seq 5 (σ' := (58, [(7, .int (nI y)), (6, .int (nI x)), (0, .ref 185), (1, .int (nI k)), (2, .int (nI c)), (3, .int (nI q)), (4, .int (nI b)), (5, .int (nI o))], [.int (((Int16.ofInt 199).toInt32) - ((nI q) - (nI x)))], gSh, M)) rfl ?_
      rw [(show (Int16.ofInt 199).toInt32 = nI 199 by decide), hI_sub q x (by omega), hI_sub 199 (q - x) (by omega)]
      exact ok_ret (i := .ireturn) (len := 1) rfl rfl ⟨_, rfl, by unfold obV; rw [if_pos ⟨by omega, by omega⟩], rfl⟩
def bo (vs : Nat → Int32) : Nat → Int32 × Int32
  | 0 => (mI, mI)
  | j + 1 => if (vs j).toInt < 0 then bo vs j else if (bo vs j).2.toInt < 0 then (nI j, vs j) else if (vs j).toInt < (bo vs j).2.toInt then (nI j, vs j) else bo vs j
theorem bo_s (vs : Nat → Int32) (j : Nat) : bo vs (j + 1) = if (vs j).toInt < 0 then bo vs j else if (bo vs j).2.toInt < 0 then (nI j, vs j) else if (vs j).toInt < (bo vs j).2.toInt then (nI j, vs j) else bo vs j := rfl
theorem bo_1 {vs : Nat → Int32} {j : Nat} {bs ls : Int32} (h : (vs j).toInt < 0) (hb : bo vs j = (bs, ls)) : bo vs (j + 1) = (bs, ls) := by
  rw [bo_s, if_pos h, hb]
theorem bo_2 {vs : Nat → Int32} {j : Nat} {bs ls : Int32} (h1 : 0 ≤ (vs j).toInt) (h2 : ls.toInt < 0 ∨ (vs j).toInt < ls.toInt) (hb : bo vs j = (bs, ls)) : bo vs (j + 1) = (nI j, vs j) := by
  rw [bo_s, if_neg (by omega), hb]
  by_cases c : ls.toInt < 0
  · rw [if_pos c]
  · rw [if_neg c, if_pos (show (vs j).toInt < ls.toInt by omega)]
theorem bo_4 {vs : Nat → Int32} {j : Nat} {bs ls : Int32} (h1 : 0 ≤ (vs j).toInt) (h3 : 0 ≤ ls.toInt) (h4 : ls.toInt ≤ (vs j).toInt) (hb : bo vs j = (bs, ls)) : bo vs (j + 1) = (bs, ls) := by
  rw [bo_s, if_neg (by omega), hb, if_neg (show ¬ ls.toInt < 0 by omega), if_neg (show ¬ (vs j).toInt < ls.toInt by omega)]
theorem bo_pos {vs : Nat → Int32} (j : Nat) (h : 0 ≤ (bo vs j).2.toInt) : ∃ i, i < j ∧ (bo vs j).1 = nI i ∧ vs i = (bo vs j).2 := by
  induction j with
  | zero =>
    have h : 0 ≤ mI.toInt := h
    rw [mI_int] at h
    omega
  | succ j ih =>
    rw [bo_s] at h ⊢
    by_cases c1 : (vs j).toInt < 0
    · rw [if_pos c1] at h ⊢
      obtain ⟨i, h1, h2⟩ := ih h
      exact ⟨i, by omega, h2⟩
    · rw [if_neg c1] at h ⊢
      by_cases c2 : (bo vs j).2.toInt < 0
      · rw [if_pos c2]
        exact ⟨j, by omega, rfl, rfl⟩
      · rw [if_neg c2] at h ⊢
        by_cases c3 : (vs j).toInt < (bo vs j).2.toInt
        · rw [if_pos c3]
          exact ⟨j, by omega, rfl, rfl⟩
        · rw [if_neg c3] at h ⊢
          obtain ⟨i, h1, h2⟩ := ih h
          exact ⟨i, by omega, h2⟩
abbrev bstK (S : pScr) (d : Nat) (Q : Option Value → pHp → Prop) (σ : pSt) : Prop := pOk S 12 false 9 (pCode 242) d (fun i len τ' => ∃ v, pRet (some .int) i len τ'.2.2.1 = some v ∧ Q v (τ'.2.2.2.1, τ'.2.2.2.2)) σ
theorem bst_loop {S : pScr} {d k c q b : Nat} {vs : Nat → Int32} {M : pMem} (h31 : M 185 31 = .ref 197) (hx : sX k c q b < 93600) (hO : ∀ j, j < 8 → cOk S (d + 1) 241 [.ref 185, .int (nI k), .int (nI c), .int (nI q), .int (nI b), .int (nI j)] (gSh, M) (fun r hp => r = some (.int (vs j)) ∧ hp = (gSh, M))) : ∀ (r j : Nat) (bs ls : Int32) (L : pLs), j + r = 8 → bo vs j = (bs, ls) → (L = [(7, .int (nI j)), (6, .int ls), (5, .int bs), (0, .ref 185), (1, .int (nI k)), (2, .int (nI c)), (3, .int (nI q)), (4, .int (nI b))] ∨ (∃ y8 : Int32, L = [(7, .int (nI j)), (8, .int y8), (6, .int ls), (5, .int bs), (0, .ref 185), (1, .int (nI k)), (2, .int (nI c)), (3, .int (nI q)), (4, .int (nI b))]) ∨ ∃ y8 : Int32, L = [(7, .int (nI j)), (6, .int ls), (5, .int bs), (8, .int y8), (0, .ref 185), (1, .int (nI k)), (2, .int (nI c)), (3, .int (nI q)), (4, .int (nI b))]) → bstK S (d + 1) (fun v hp => v = some (.int (bo vs 8).1) ∧ hp = (gSh, pUp M 197 (sX k c q b) (.int (bo vs 8).2))) (9, L, [], gSh, M) := by
  intro r
  induction r with
  | zero =>
    intro j bs ls L ht hbo hL
    obtain rfl : j = 8 := by omega
    rcases hL with rfl | ⟨y8, rfl⟩ | ⟨y8, rfl⟩
    · refine ok_seq 2 (σ' := (13, [(7, .int (nI 8)), (6, .int ls), (5, .int bs), (0, .ref 185), (1, .int (nI k)), (2, .int (nI c)), (3, .int (nI q)), (4, .int (nI b))], [.int ((Int8.ofInt 8).toInt32), .int (nI 8)], gSh, M)) rfl ?_
      rw [(show (Int8.ofInt 8).toInt32 = nI 8 by decide)]
      refine ok_icmp 63 rfl rfl (fun _ => ?_) (fun hz => absurd (by simp only [pCP]; rw [hI_int (a := 8) (by omega)]; omega) hz)
      refine ok_seq 2 (σ' := (67, [(7, .int (nI 8)), (6, .int ls), (5, .int bs), (0, .ref 185), (1, .int (nI k)), (2, .int (nI c)), (3, .int (nI q)), (4, .int (nI b))], [M 185 31], gSh, M)) rfl ?_
      rw [h31]
      refine ok_seq 4 (σ' := (72, [(7, .int (nI 8)), (6, .int ls), (5, .int bs), (0, .ref 185), (1, .int (nI k)), (2, .int (nI c)), (3, .int (nI q)), (4, .int (nI b))], [.int (nI b), .int (nI q), .int (nI c), .int (nI k), .ref 197], gSh, M)) rfl ?_
      refine ok_call (mi := 240) (as := [.int (nI k), .int (nI c), .int (nI q), .int (nI b)]) (pc' := 75) (L' := [(7, .int (nI 8)), (6, .int ls), (5, .int bs), (0, .ref 185), (1, .int (nI k)), (2, .int (nI c)), (3, .int (nI q)), (4, .int (nI b))]) (st' := [.ref 197]) (sh' := gSh) (M' := M) (i := .invokestatic 352) (len := 3) rfl rfl ?_
      refine ((c_stN (d := d) k c q b)).mono ?_
      rintro v hp ⟨rfl, rfl⟩
      refine ok_seq 1 (σ' := (77, [(7, .int (nI 8)), (6, .int ls), (5, .int bs), (0, .ref 185), (1, .int (nI k)), (2, .int (nI c)), (3, .int (nI q)), (4, .int (nI b))], [.int ls, .int (nI (sX k c q b)), .ref 197], gSh, M)) rfl ?_
      refine ok_iast (n := 93600) rfl rfl (hI_in hx (by decide)) ?_
      rw [hI_nat (a := sX k c q b) (by omega)]
      refine ok_seq 1 (σ' := (80, [(7, .int (nI 8)), (6, .int ls), (5, .int bs), (0, .ref 185), (1, .int (nI k)), (2, .int (nI c)), (3, .int (nI q)), (4, .int (nI b))], [.int bs], gSh, pUp M 197 (sX k c q b) (.int ls))) rfl ?_
      exact ok_ret (i := .ireturn) (len := 1) rfl rfl ⟨_, rfl, by rw [hbo], by rw [hbo]⟩
    · refine ok_seq 2 (σ' := (13, [(7, .int (nI 8)), (8, .int y8), (6, .int ls), (5, .int bs), (0, .ref 185), (1, .int (nI k)), (2, .int (nI c)), (3, .int (nI q)), (4, .int (nI b))], [.int ((Int8.ofInt 8).toInt32), .int (nI 8)], gSh, M)) rfl ?_
      rw [(show (Int8.ofInt 8).toInt32 = nI 8 by decide)]
      refine ok_icmp 63 rfl rfl (fun _ => ?_) (fun hz => absurd (by simp only [pCP]; rw [hI_int (a := 8) (by omega)]; omega) hz)
      refine ok_seq 2 (σ' := (67, [(7, .int (nI 8)), (8, .int y8), (6, .int ls), (5, .int bs), (0, .ref 185), (1, .int (nI k)), (2, .int (nI c)), (3, .int (nI q)), (4, .int (nI b))], [M 185 31], gSh, M)) rfl ?_
      rw [h31]
      refine ok_seq 4 (σ' := (72, [(7, .int (nI 8)), (8, .int y8), (6, .int ls), (5, .int bs), (0, .ref 185), (1, .int (nI k)), (2, .int (nI c)), (3, .int (nI q)), (4, .int (nI b))], [.int (nI b), .int (nI q), .int (nI c), .int (nI k), .ref 197], gSh, M)) rfl ?_
      refine ok_call (mi := 240) (as := [.int (nI k), .int (nI c), .int (nI q), .int (nI b)]) (pc' := 75) (L' := [(7, .int (nI 8)), (8, .int y8), (6, .int ls), (5, .int bs), (0, .ref 185), (1, .int (nI k)), (2, .int (nI c)), (3, .int (nI q)), (4, .int (nI b))]) (st' := [.ref 197]) (sh' := gSh) (M' := M) (i := .invokestatic 352) (len := 3) rfl rfl ?_
      refine ((c_stN (d := d) k c q b)).mono ?_
      rintro v hp ⟨rfl, rfl⟩
      refine ok_seq 1 (σ' := (77, [(7, .int (nI 8)), (8, .int y8), (6, .int ls), (5, .int bs), (0, .ref 185), (1, .int (nI k)), (2, .int (nI c)), (3, .int (nI q)), (4, .int (nI b))], [.int ls, .int (nI (sX k c q b)), .ref 197], gSh, M)) rfl ?_
      refine ok_iast (n := 93600) rfl rfl (hI_in hx (by decide)) ?_
      rw [hI_nat (a := sX k c q b) (by omega)]
      refine ok_seq 1 (σ' := (80, [(7, .int (nI 8)), (8, .int y8), (6, .int ls), (5, .int bs), (0, .ref 185), (1, .int (nI k)), (2, .int (nI c)), (3, .int (nI q)), (4, .int (nI b))], [.int bs], gSh, pUp M 197 (sX k c q b) (.int ls))) rfl ?_
      exact ok_ret (i := .ireturn) (len := 1) rfl rfl ⟨_, rfl, by rw [hbo], by rw [hbo]⟩
    · refine ok_seq 2 (σ' := (13, [(7, .int (nI 8)), (6, .int ls), (5, .int bs), (8, .int y8), (0, .ref 185), (1, .int (nI k)), (2, .int (nI c)), (3, .int (nI q)), (4, .int (nI b))], [.int ((Int8.ofInt 8).toInt32), .int (nI 8)], gSh, M)) rfl ?_
      rw [(show (Int8.ofInt 8).toInt32 = nI 8 by decide)]
      refine ok_icmp 63 rfl rfl (fun _ => ?_) (fun hz => absurd (by simp only [pCP]; rw [hI_int (a := 8) (by omega)]; omega) hz)
      refine ok_seq 2 (σ' := (67, [(7, .int (nI 8)), (6, .int ls), (5, .int bs), (8, .int y8), (0, .ref 185), (1, .int (nI k)), (2, .int (nI c)), (3, .int (nI q)), (4, .int (nI b))], [M 185 31], gSh, M)) rfl ?_
      rw [h31]
      refine ok_seq 4 (σ' := (72, [(7, .int (nI 8)), (6, .int ls), (5, .int bs), (8, .int y8), (0, .ref 185), (1, .int (nI k)), (2, .int (nI c)), (3, .int (nI q)), (4, .int (nI b))], [.int (nI b), .int (nI q), .int (nI c), .int (nI k), .ref 197], gSh, M)) rfl ?_
      refine ok_call (mi := 240) (as := [.int (nI k), .int (nI c), .int (nI q), .int (nI b)]) (pc' := 75) (L' := [(7, .int (nI 8)), (6, .int ls), (5, .int bs), (8, .int y8), (0, .ref 185), (1, .int (nI k)), (2, .int (nI c)), (3, .int (nI q)), (4, .int (nI b))]) (st' := [.ref 197]) (sh' := gSh) (M' := M) (i := .invokestatic 352) (len := 3) rfl rfl ?_
      refine ((c_stN (d := d) k c q b)).mono ?_
      rintro v hp ⟨rfl, rfl⟩
      refine ok_seq 1 (σ' := (77, [(7, .int (nI 8)), (6, .int ls), (5, .int bs), (8, .int y8), (0, .ref 185), (1, .int (nI k)), (2, .int (nI c)), (3, .int (nI q)), (4, .int (nI b))], [.int ls, .int (nI (sX k c q b)), .ref 197], gSh, M)) rfl ?_
      refine ok_iast (n := 93600) rfl rfl (hI_in hx (by decide)) ?_
      rw [hI_nat (a := sX k c q b) (by omega)]
      refine ok_seq 1 (σ' := (80, [(7, .int (nI 8)), (6, .int ls), (5, .int bs), (8, .int y8), (0, .ref 185), (1, .int (nI k)), (2, .int (nI c)), (3, .int (nI q)), (4, .int (nI b))], [.int bs], gSh, pUp M 197 (sX k c q b) (.int ls))) rfl ?_
      exact ok_ret (i := .ireturn) (len := 1) rfl rfl ⟨_, rfl, by rw [hbo], by rw [hbo]⟩
  | succ r ih =>
    intro j bs ls L ht hbo hL
    rcases hL with rfl | ⟨y8, rfl⟩ | ⟨y8, rfl⟩
    · refine ok_seq 2 (σ' := (13, [(7, .int (nI j)), (6, .int ls), (5, .int bs), (0, .ref 185), (1, .int (nI k)), (2, .int (nI c)), (3, .int (nI q)), (4, .int (nI b))], [.int ((Int8.ofInt 8).toInt32), .int (nI j)], gSh, M)) rfl ?_
      rw [(show (Int8.ofInt 8).toInt32 = nI 8 by decide)]
      refine ok_icmp 63 rfl rfl (fun hz => absurd hz (by simp only [pCP]; rw [hI_int (a := j) (by omega), hI_int (a := 8) (by omega)]; omega)) (fun _ => ?_)
      refine ok_seq 6 (σ' := (24, [(7, .int (nI j)), (6, .int ls), (5, .int bs), (0, .ref 185), (1, .int (nI k)), (2, .int (nI c)), (3, .int (nI q)), (4, .int (nI b))], [.int (nI j), .int (nI b), .int (nI q), .int (nI c), .int (nI k), .ref 185], gSh, M)) rfl ?_
      refine ok_call (mi := 241) (as := [.ref 185, .int (nI k), .int (nI c), .int (nI q), .int (nI b), .int (nI j)]) (pc' := 27) (L' := [(7, .int (nI j)), (6, .int ls), (5, .int bs), (0, .ref 185), (1, .int (nI k)), (2, .int (nI c)), (3, .int (nI q)), (4, .int (nI b))]) (st' := []) (sh' := gSh) (M' := M) (i := .invokevirtual 355) (len := 3) rfl rfl ?_
      refine ((hO j (by omega))).mono ?_
      rintro v hp ⟨rfl, rfl⟩
      refine ok_seq 2 (σ' := (31, [(8, .int (vs j)), (7, .int (nI j)), (6, .int ls), (5, .int bs), (0, .ref 185), (1, .int (nI k)), (2, .int (nI c)), (3, .int (nI q)), (4, .int (nI b))], [.int (vs j)], gSh, M)) rfl ?_
      refine ok_if 57 rfl rfl ?_ ?_
      · intro h1
        simp only [pCP] at h1
        have h1 : (vs j).toInt < (0 : Int) := by omega
        refine ok_seq 2 (σ' := (9, [(7, .int ((nI j) + (Int32.ofInt 1))), (8, .int (vs j)), (6, .int ls), (5, .int bs), (0, .ref 185), (1, .int (nI k)), (2, .int (nI c)), (3, .int (nI q)), (4, .int (nI b))], [], gSh, M)) rfl ?_
        rw [cI_1, hI_add j 1]
        exact ih (j + 1) bs ls _ (by omega) (bo_1 h1 hbo) (Or.inr (Or.inl ⟨vs j, rfl⟩))
      · intro h1
        simp only [pCP] at h1
        have h1 : (vs j).toInt ≥ (0 : Int) := by omega
        refine ok_seq 1 (σ' := (36, [(8, .int (vs j)), (7, .int (nI j)), (6, .int ls), (5, .int bs), (0, .ref 185), (1, .int (nI k)), (2, .int (nI c)), (3, .int (nI q)), (4, .int (nI b))], [.int ls], gSh, M)) rfl ?_
        refine ok_if 49 rfl rfl ?_ ?_
        · intro h2
          simp only [pCP] at h2
          have h2 : (ls).toInt < (0 : Int) := by omega
          refine ok_seq 6 (σ' := (9, [(7, .int ((nI j) + (Int32.ofInt 1))), (6, .int (vs j)), (5, .int (nI j)), (8, .int (vs j)), (0, .ref 185), (1, .int (nI k)), (2, .int (nI c)), (3, .int (nI q)), (4, .int (nI b))], [], gSh, M)) rfl ?_
          rw [cI_1, hI_add j 1]
          exact ih (j + 1) (nI j) (vs j) _ (by omega) (bo_2 h1 (Or.inl h2) hbo) (Or.inr (Or.inr ⟨vs j, rfl⟩))
        · intro h2
          simp only [pCP] at h2
          have h2 : (ls).toInt ≥ (0 : Int) := by omega
          refine ok_seq 2 (σ' := (43, [(8, .int (vs j)), (7, .int (nI j)), (6, .int ls), (5, .int bs), (0, .ref 185), (1, .int (nI k)), (2, .int (nI c)), (3, .int (nI q)), (4, .int (nI b))], [.int ls, .int (vs j)], gSh, M)) rfl ?_
          refine ok_icmp 49 rfl rfl ?_ ?_
          · intro h3
            simp only [pCP] at h3
            have h3 : (vs j).toInt < (ls).toInt := by omega
            refine ok_seq 6 (σ' := (9, [(7, .int ((nI j) + (Int32.ofInt 1))), (6, .int (vs j)), (5, .int (nI j)), (8, .int (vs j)), (0, .ref 185), (1, .int (nI k)), (2, .int (nI c)), (3, .int (nI q)), (4, .int (nI b))], [], gSh, M)) rfl ?_
            rw [cI_1, hI_add j 1]
            exact ih (j + 1) (nI j) (vs j) _ (by omega) (bo_2 h1 (Or.inr h3) hbo) (Or.inr (Or.inr ⟨vs j, rfl⟩))
          · intro h3
            simp only [pCP] at h3
            have h3 : (vs j).toInt ≥ (ls).toInt := by omega
            refine ok_seq 3 (σ' := (9, [(7, .int ((nI j) + (Int32.ofInt 1))), (8, .int (vs j)), (6, .int ls), (5, .int bs), (0, .ref 185), (1, .int (nI k)), (2, .int (nI c)), (3, .int (nI q)), (4, .int (nI b))], [], gSh, M)) rfl ?_
            rw [cI_1, hI_add j 1]
            exact ih (j + 1) bs ls _ (by omega) (bo_4 h1 h2 h3 hbo) (Or.inr (Or.inl ⟨vs j, rfl⟩))
    · refine ok_seq 2 (σ' := (13, [(7, .int (nI j)), (8, .int y8), (6, .int ls), (5, .int bs), (0, .ref 185), (1, .int (nI k)), (2, .int (nI c)), (3, .int (nI q)), (4, .int (nI b))], [.int ((Int8.ofInt 8).toInt32), .int (nI j)], gSh, M)) rfl ?_
      rw [(show (Int8.ofInt 8).toInt32 = nI 8 by decide)]
      refine ok_icmp 63 rfl rfl (fun hz => absurd hz (by simp only [pCP]; rw [hI_int (a := j) (by omega), hI_int (a := 8) (by omega)]; omega)) (fun _ => ?_)
      refine ok_seq 6 (σ' := (24, [(7, .int (nI j)), (8, .int y8), (6, .int ls), (5, .int bs), (0, .ref 185), (1, .int (nI k)), (2, .int (nI c)), (3, .int (nI q)), (4, .int (nI b))], [.int (nI j), .int (nI b), .int (nI q), .int (nI c), .int (nI k), .ref 185], gSh, M)) rfl ?_
      refine ok_call (mi := 241) (as := [.ref 185, .int (nI k), .int (nI c), .int (nI q), .int (nI b), .int (nI j)]) (pc' := 27) (L' := [(7, .int (nI j)), (8, .int y8), (6, .int ls), (5, .int bs), (0, .ref 185), (1, .int (nI k)), (2, .int (nI c)), (3, .int (nI q)), (4, .int (nI b))]) (st' := []) (sh' := gSh) (M' := M) (i := .invokevirtual 355) (len := 3) rfl rfl ?_
      refine ((hO j (by omega))).mono ?_
      rintro v hp ⟨rfl, rfl⟩
      refine ok_seq 2 (σ' := (31, [(8, .int (vs j)), (7, .int (nI j)), (6, .int ls), (5, .int bs), (0, .ref 185), (1, .int (nI k)), (2, .int (nI c)), (3, .int (nI q)), (4, .int (nI b))], [.int (vs j)], gSh, M)) rfl ?_
      refine ok_if 57 rfl rfl ?_ ?_
      · intro h1
        simp only [pCP] at h1
        have h1 : (vs j).toInt < (0 : Int) := by omega
        refine ok_seq 2 (σ' := (9, [(7, .int ((nI j) + (Int32.ofInt 1))), (8, .int (vs j)), (6, .int ls), (5, .int bs), (0, .ref 185), (1, .int (nI k)), (2, .int (nI c)), (3, .int (nI q)), (4, .int (nI b))], [], gSh, M)) rfl ?_
        rw [cI_1, hI_add j 1]
        exact ih (j + 1) bs ls _ (by omega) (bo_1 h1 hbo) (Or.inr (Or.inl ⟨vs j, rfl⟩))
      · intro h1
        simp only [pCP] at h1
        have h1 : (vs j).toInt ≥ (0 : Int) := by omega
        refine ok_seq 1 (σ' := (36, [(8, .int (vs j)), (7, .int (nI j)), (6, .int ls), (5, .int bs), (0, .ref 185), (1, .int (nI k)), (2, .int (nI c)), (3, .int (nI q)), (4, .int (nI b))], [.int ls], gSh, M)) rfl ?_
        refine ok_if 49 rfl rfl ?_ ?_
        · intro h2
          simp only [pCP] at h2
          have h2 : (ls).toInt < (0 : Int) := by omega
          refine ok_seq 6 (σ' := (9, [(7, .int ((nI j) + (Int32.ofInt 1))), (6, .int (vs j)), (5, .int (nI j)), (8, .int (vs j)), (0, .ref 185), (1, .int (nI k)), (2, .int (nI c)), (3, .int (nI q)), (4, .int (nI b))], [], gSh, M)) rfl ?_
          rw [cI_1, hI_add j 1]
          exact ih (j + 1) (nI j) (vs j) _ (by omega) (bo_2 h1 (Or.inl h2) hbo) (Or.inr (Or.inr ⟨vs j, rfl⟩))
        · intro h2
          simp only [pCP] at h2
          have h2 : (ls).toInt ≥ (0 : Int) := by omega
          refine ok_seq 2 (σ' := (43, [(8, .int (vs j)), (7, .int (nI j)), (6, .int ls), (5, .int bs), (0, .ref 185), (1, .int (nI k)), (2, .int (nI c)), (3, .int (nI q)), (4, .int (nI b))], [.int ls, .int (vs j)], gSh, M)) rfl ?_
          refine ok_icmp 49 rfl rfl ?_ ?_
          · intro h3
            simp only [pCP] at h3
            have h3 : (vs j).toInt < (ls).toInt := by omega
            refine ok_seq 6 (σ' := (9, [(7, .int ((nI j) + (Int32.ofInt 1))), (6, .int (vs j)), (5, .int (nI j)), (8, .int (vs j)), (0, .ref 185), (1, .int (nI k)), (2, .int (nI c)), (3, .int (nI q)), (4, .int (nI b))], [], gSh, M)) rfl ?_
            rw [cI_1, hI_add j 1]
            exact ih (j + 1) (nI j) (vs j) _ (by omega) (bo_2 h1 (Or.inr h3) hbo) (Or.inr (Or.inr ⟨vs j, rfl⟩))
          · intro h3
            simp only [pCP] at h3
            have h3 : (vs j).toInt ≥ (ls).toInt := by omega
            refine ok_seq 3 (σ' := (9, [(7, .int ((nI j) + (Int32.ofInt 1))), (8, .int (vs j)), (6, .int ls), (5, .int bs), (0, .ref 185), (1, .int (nI k)), (2, .int (nI c)), (3, .int (nI q)), (4, .int (nI b))], [], gSh, M)) rfl ?_
            rw [cI_1, hI_add j 1]
            exact ih (j + 1) bs ls _ (by omega) (bo_4 h1 h2 h3 hbo) (Or.inr (Or.inl ⟨vs j, rfl⟩))
    · refine ok_seq 2 (σ' := (13, [(7, .int (nI j)), (6, .int ls), (5, .int bs), (8, .int y8), (0, .ref 185), (1, .int (nI k)), (2, .int (nI c)), (3, .int (nI q)), (4, .int (nI b))], [.int ((Int8.ofInt 8).toInt32), .int (nI j)], gSh, M)) rfl ?_
      rw [(show (Int8.ofInt 8).toInt32 = nI 8 by decide)]
      refine ok_icmp 63 rfl rfl (fun hz => absurd hz (by simp only [pCP]; rw [hI_int (a := j) (by omega), hI_int (a := 8) (by omega)]; omega)) (fun _ => ?_)
      refine ok_seq 6 (σ' := (24, [(7, .int (nI j)), (6, .int ls), (5, .int bs), (8, .int y8), (0, .ref 185), (1, .int (nI k)), (2, .int (nI c)), (3, .int (nI q)), (4, .int (nI b))], [.int (nI j), .int (nI b), .int (nI q), .int (nI c), .int (nI k), .ref 185], gSh, M)) rfl ?_
      refine ok_call (mi := 241) (as := [.ref 185, .int (nI k), .int (nI c), .int (nI q), .int (nI b), .int (nI j)]) (pc' := 27) (L' := [(7, .int (nI j)), (6, .int ls), (5, .int bs), (8, .int y8), (0, .ref 185), (1, .int (nI k)), (2, .int (nI c)), (3, .int (nI q)), (4, .int (nI b))]) (st' := []) (sh' := gSh) (M' := M) (i := .invokevirtual 355) (len := 3) rfl rfl ?_
      refine ((hO j (by omega))).mono ?_
      rintro v hp ⟨rfl, rfl⟩
      refine ok_seq 2 (σ' := (31, [(8, .int (vs j)), (7, .int (nI j)), (6, .int ls), (5, .int bs), (0, .ref 185), (1, .int (nI k)), (2, .int (nI c)), (3, .int (nI q)), (4, .int (nI b))], [.int (vs j)], gSh, M)) rfl ?_
      refine ok_if 57 rfl rfl ?_ ?_
      · intro h1
        simp only [pCP] at h1
        have h1 : (vs j).toInt < (0 : Int) := by omega
        refine ok_seq 2 (σ' := (9, [(7, .int ((nI j) + (Int32.ofInt 1))), (8, .int (vs j)), (6, .int ls), (5, .int bs), (0, .ref 185), (1, .int (nI k)), (2, .int (nI c)), (3, .int (nI q)), (4, .int (nI b))], [], gSh, M)) rfl ?_
        rw [cI_1, hI_add j 1]
        exact ih (j + 1) bs ls _ (by omega) (bo_1 h1 hbo) (Or.inr (Or.inl ⟨vs j, rfl⟩))
      · intro h1
        simp only [pCP] at h1
        have h1 : (vs j).toInt ≥ (0 : Int) := by omega
        refine ok_seq 1 (σ' := (36, [(8, .int (vs j)), (7, .int (nI j)), (6, .int ls), (5, .int bs), (0, .ref 185), (1, .int (nI k)), (2, .int (nI c)), (3, .int (nI q)), (4, .int (nI b))], [.int ls], gSh, M)) rfl ?_
        refine ok_if 49 rfl rfl ?_ ?_
        · intro h2
          simp only [pCP] at h2
          have h2 : (ls).toInt < (0 : Int) := by omega
          refine ok_seq 6 (σ' := (9, [(7, .int ((nI j) + (Int32.ofInt 1))), (6, .int (vs j)), (5, .int (nI j)), (8, .int (vs j)), (0, .ref 185), (1, .int (nI k)), (2, .int (nI c)), (3, .int (nI q)), (4, .int (nI b))], [], gSh, M)) rfl ?_
          rw [cI_1, hI_add j 1]
          exact ih (j + 1) (nI j) (vs j) _ (by omega) (bo_2 h1 (Or.inl h2) hbo) (Or.inr (Or.inr ⟨vs j, rfl⟩))
        · intro h2
          simp only [pCP] at h2
          have h2 : (ls).toInt ≥ (0 : Int) := by omega
          refine ok_seq 2 (σ' := (43, [(8, .int (vs j)), (7, .int (nI j)), (6, .int ls), (5, .int bs), (0, .ref 185), (1, .int (nI k)), (2, .int (nI c)), (3, .int (nI q)), (4, .int (nI b))], [.int ls, .int (vs j)], gSh, M)) rfl ?_
          refine ok_icmp 49 rfl rfl ?_ ?_
          · intro h3
            simp only [pCP] at h3
            have h3 : (vs j).toInt < (ls).toInt := by omega
            refine ok_seq 6 (σ' := (9, [(7, .int ((nI j) + (Int32.ofInt 1))), (6, .int (vs j)), (5, .int (nI j)), (8, .int (vs j)), (0, .ref 185), (1, .int (nI k)), (2, .int (nI c)), (3, .int (nI q)), (4, .int (nI b))], [], gSh, M)) rfl ?_
            rw [cI_1, hI_add j 1]
            exact ih (j + 1) (nI j) (vs j) _ (by omega) (bo_2 h1 (Or.inr h3) hbo) (Or.inr (Or.inr ⟨vs j, rfl⟩))
          · intro h3
            simp only [pCP] at h3
            have h3 : (vs j).toInt ≥ (ls).toInt := by omega
            refine ok_seq 3 (σ' := (9, [(7, .int ((nI j) + (Int32.ofInt 1))), (8, .int (vs j)), (6, .int ls), (5, .int bs), (0, .ref 185), (1, .int (nI k)), (2, .int (nI c)), (3, .int (nI q)), (4, .int (nI b))], [], gSh, M)) rfl ?_
            rw [cI_1, hI_add j 1]
            exact ih (j + 1) bs ls _ (by omega) (bo_4 h1 h2 h3 hbo) (Or.inr (Or.inl ⟨vs j, rfl⟩))
theorem c_bestA {S : pScr} {d k c q b : Nat} {vs : Nat → Int32} {M : pMem} (h31 : M 185 31 = .ref 197) (hx : sX k c q b < 93600) (hO : ∀ j, j < 8 → cOk S (d + 1) 241 [.ref 185, .int (nI k), .int (nI c), .int (nI q), .int (nI b), .int (nI j)] (gSh, M) (fun r hp => r = some (.int (vs j)) ∧ hp = (gSh, M))) : cOk S (d + 2) 242 [.ref 185, .int (nI k), .int (nI c), .int (nI q), .int (nI b)] (gSh, M) (fun v hp => v = some (.int (bo vs 8).1) ∧ hp = (gSh, pUp M 197 (sX k c q b) (.int (bo vs 8).2))) := by
  refine c_of_ok (Nat.le_of_ble_eq_true rfl) ?_
  refine ok_seq 6 (σ' := (9, [(7, .int (Int32.ofInt 0)), (6, .int mI), (5, .int mI), (0, .ref 185), (1, .int (nI k)), (2, .int (nI c)), (3, .int (nI q)), (4, .int (nI b))], [], gSh, M)) rfl ?_
  rw [cI_0]
  exact bst_loop h31 hx hO 8 0 mI mI _ rfl rfl (Or.inl rfl)
/-- kinds that soonest uses -/
def pQL : List ((Nat × Nat) × aE) := [((185, 3), (1, 0, 0, [186])), ((185, 29), (1, 0, 0, [195])), ((185, 30), (1, 0, 0, [196])), ((185, 31), (1, 0, 0, [197])), ((185, 2), (0, 36, 36, [])), ((186, 4), (0, 0, 12, [])), ((186, 9), (0, 0, 99, [])), ((186, 10), (0, 0, 99, [])), ((186, 11), (0, 0, 99, [])), ((186, 20), (0, 0, 35, [])), ((186, 21), (0, 0, 99, [])), ((186, 22), (0, 0, 1, [])), ((186, 23), (0, 0, 2, [])), ((186, 24), (0, 0, 1, []))]
def pQ (τ : fT) : Prop := fTau τ ∧ (∀ q ∈ pQL, rowAt (τ q.1.1) q.1.2 = some q.2) ∧ (∀ y, y < 36 → rowAt (τ 186) (70 + y) = some (0, 0, 1, [])) ∧ (∀ k, k < 12 → rowAt (τ 186) (180 + k) = some (0, 0, 3, [])) ∧ τ 195 = [(468, (0, -1, 100, []))] ∧ τ 196 = [(468, (0, 0, 1, []))] ∧ τ 197 = [(93600, eA)]
theorem pqy {τ : fT} {M : pMem} (hT : pQ τ) (hM : tyM (tOf τ) M) (i : Nat) {o k : Nat} {e : aE} (h : pQL[i]? = some ((o, k), e)) (ho : Nat.ble (o + 1) 205 = true) : satE e (M o k) := hM o k e (Nat.le_of_ble_eq_true ho) (by rw [tyAt_row hT.1]; exact hT.2.1 _ (List.mem_of_getElem? h))
theorem pq_out {τ : fT} {M : pMem} (hT : pQ τ) (hM : tyM (tOf τ) M) {i : Nat} (h : i < 93600) : ∃ z, M 197 i = .int z := by
  obtain ⟨z, h1, -⟩ := ty_int (hM 197 i eA (by decide) (by rw [tyAt_row hT.1]; show rowAt (τ 197) i = _; rw [hT.2.2.2.2.2.2]; exact row1_at h))
  exact ⟨z, h1⟩
theorem pq_up {τ : fT} {M : pMem} (hT : pQ τ) (hM : tyM (tOf τ) M) {i : Nat} (h : i < 93600) (z : Int32) : tyM (tOf τ) (pUp M 197 i (.int z)) := tyM_up hM (by rw [tyAt_row hT.1]; show rowAt (τ 197) i = _; rw [hT.2.2.2.2.2.2]; exact row1_at h) (sat_a z)
abbrev pushC : fCn := ([(1, 0, 0, [185]), (0, 0, 35, []), eA], [(0, -1, 35, [])], some [], [], [])
abbrev drifC : fCn := ([(1, 0, 0, [185]), (0, 0, 35, []), (0, 0, 3, [])], [(0, 0, 35, [])], some [], [], [])
def QH (τ : fT) (S : pScr) (d : Nat) : Prop :=
  cnOk τ S d 237 ([(1, 0, 0, [185])], [], some [191, 192, 193, 194, 195, 196], [], []) ∧
  cnOk τ S d 242 ([(1, 0, 0, [185]), (0, 0, 11, []), (0, 0, 35, []), (0, 0, 99, []), (0, 0, 1, [])], [(0, -1, 7, [])], some [197], [], []) ∧
  (cnOk τ S d 162 pushC ∧ cnOk (tOv τ 197 nRow) S d 162 pushC) ∧ cnOk τ S d 221 drifC ∧ cnOk (tOv τ 197 nRow) S d 221 drifC
theorem ca_ex {τ : fT} {S : pScr} {d k c q b o : Nat} {M0 : pMem} (hT : pQ τ) (hH : QH τ S d) (hM0 : tyM (tOf τ) M0) (hg : gR M0) (hk : k < 12) (hc : c ≤ 35) (hq : q < 100) (hb : b < 2) (ho : o < 8) : (∀ M, offM M0 M → tyM (tOf τ) M → cOk S (d + 1) 238 [.ref 185, .int (nI k), .int (nI c), .int (nI q), .int (nI b), .int (nI o)] (gSh, M) (fun r hp => r = some (.int mI) ∧ hp = (gSh, M))) ∨ ∃ x y : Nat, x ≤ q ∧ y ≤ 35 ∧ ∀ M, offM M0 M → tyM (tOf τ) M → cOk S (d + 1) 238 [.ref 185, .int (nI k), .int (nI c), .int (nI q), .int (nI b), .int (nI o)] (gSh, M) (fun r hp => r = some (.int (nI x)) ∧ hp = (gSh, M)) ∧ cOk S (d + 1) 239 [.ref 185, .int (nI k), .int (nI c), .int (nI o)] (gSh, M) (fun r hp => r = some (.int (nI y)) ∧ hp = (gSh, M)) := by
  have r3 := ty_ref (pqy hT hM0 0 rfl rfl)
  have r29 := ty_ref (pqy hT hM0 1 rfl rfl)
  obtain ⟨mo, hmo, emo⟩ := ty_nat (pqy hT hM0 6 rfl rfl)
  obtain ⟨hod, hho, eho⟩ := ty_nat (pqy hT hM0 7 rfl rfl)
  obtain ⟨ra, hra, era⟩ := ty_nat (pqy hT hM0 8 rfl rfl)
  obtain ⟨w, hw, ew⟩ := ty_nat (hM0 186 (180 + k) _ (by decide) (by rw [tyAt_row hT.1]; exact hT.2.2.2.1 k hk))
  obtain ⟨p, p1, p2, p3⟩ := q_ind hT.1 (by decide +kernel) hH.2.2.1.1 hH.2.2.1.2 (vs := [.ref 185, .int (nI c), .int (nI o)]) ⟨r185_, sat_n (by omega) (by omega), sat_a _, trivial⟩ hM0 hg
  obtain ⟨dr, d1, d2, d3⟩ := q_ind hT.1 (by decide +kernel) hH.2.2.2.1 hH.2.2.2.2 (vs := [.ref 185, .int (nI c), .int (nI w)]) ⟨r185_, sat_n (by omega) (by omega), sat_n (by omega) (by omega), trivial⟩ hM0 hg
  obtain ⟨dn, hdn, edn⟩ := ty_nat (x := []) (hi := 35) ⟨dr, rfl, d1, d2⟩
  injection edn with edn
  obtain ⟨t, pu, ht, hpu, hpu2⟩ : ∃ (t : Nat) (pu : Int32), (0 ≤ p.toInt → p = nI t ∧ t ≤ 35) ∧ (0 ≤ p.toInt → M0 195 (36 * k + t) = .int pu) ∧ -1 ≤ pu.toInt := by
    by_cases hp : 0 ≤ p.toInt
    · obtain ⟨t, k1, k2⟩ := ty_nat (x := []) (hi := 35) ⟨p, rfl, hp, p2⟩
      injection k2 with k2
      obtain ⟨pu, e1, e2, -⟩ := ty_int (hM0 195 (36 * k + t) (0, -1, 100, []) (by decide) (by rw [tyAt_row hT.1]; show rowAt (τ 195) _ = _; rw [hT.2.2.2.2.1]; exact row1_at (by omega)))
      exact ⟨t, pu, fun _ => ⟨k2, by omega⟩, fun _ => e1, e2⟩
    · exact ⟨0, mI, fun h => absurd h hp, fun h => absurd h hp, by decide⟩
  have hcA : ∀ M, offM M0 M → tyM (tOf τ) M → cOk S (d + 1) 238 [.ref 185, .int (nI k), .int (nI c), .int (nI q), .int (nI b), .int (nI o)] (gSh, M) (fun r hp => r = some (.int (caV o b q p ra mo hod pu)) ∧ hp = (gSh, M)) := fun M a1 a2 => c_costA (t := t) hk hq hb ho (by omega) (by omega) (by omega) (by rw [a1 185 (by decide)]; exact r3) (by rw [a1 185 (by decide)]; exact r29) (by rw [a1 186 (by decide)]; exact emo) (by rw [a1 186 (by decide)]; exact eho) (by rw [a1 186 (by decide)]; exact era) (fun _ => p3 M a1 a2) ht (fun hp => by rw [a1 195 (by decide)]; exact hpu hp)
  have hlA : ∀ M, offM M0 M → tyM (tOf τ) M → cOk S (d + 1) 239 [.ref 185, .int (nI k), .int (nI c), .int (nI o)] (gSh, M) (fun r hp => r = some (.int (clV o c p dr)) ∧ hp = (gSh, M)) := fun M a1 a2 => c_cellA (w := w) hk ho (by rw [a1 185 (by decide)]; exact r3) (by rw [a1 186 (by decide)]; exact ew) (fun _ => p3 M a1 a2) (d3 M a1 a2)
  have hrng := ca_rng (o := o) (b := b) (q := q) (p := p) (ra := ra) (mo := mo) (ho := hod) (pu := pu) (by omega) (by omega) (by omega) hpu2
  by_cases hx : 0 ≤ (caV o b q p ra mo hod pu).toInt
  · right
    obtain ⟨x, hx1, ex⟩ := ty_nat (x := []) (hi := (q : Int)) ⟨_, rfl, hx, hrng.2⟩
    injection ex with ex
    obtain ⟨y, hy, ey⟩ : ∃ y : Nat, y ≤ 35 ∧ clV o c p dr = nI y := by
      unfold clV
      by_cases h4 : o < 4
      · rw [if_pos h4]
        obtain ⟨e, h⟩ := ht (ca_p h4 hx)
        exact ⟨t, h, e⟩
      · rw [if_neg h4]
        by_cases h5 : o = 5
        · rw [if_pos h5]
          exact ⟨c, hc, rfl⟩
        · rw [if_neg h5]
          exact ⟨dn, by omega, edn⟩
    refine ⟨x, y, by omega, hy, fun M a1 a2 => ⟨?_, ?_⟩⟩
    · exact (hcA M a1 a2).mono (fun r hp ⟨h1, h2⟩ => ⟨by rw [h1, ex], h2⟩)
    · exact (hlA M a1 a2).mono (fun r hp ⟨h1, h2⟩ => ⟨by rw [h1, ey], h2⟩)
  · left
    intro M a1 a2
    have e : caV o b q p ra mo hod pu = mI := Int32.toInt_inj.mp (by rw [mI_int]; omega)
    exact (hcA M a1 a2).mono (fun r hp ⟨h1, h2⟩ => ⟨by rw [h1, e], h2⟩)
/-- what outBy answers, whatever lies in the rows up to this one -/
def OBX (τ : fT) (S : pScr) (d : Nat) (M0 M : pMem) (k c q b o : Nat) (v : Int32) : Prop := (∀ M', offM M0 M' → tyM (tOf τ) M' → (∀ i, 7200 * (k + 1) ≤ i → M' 197 i = M 197 i) → cOk S (d + 2) 241 [.ref 185, .int (nI k), .int (nI c), .int (nI q), .int (nI b), .int (nI o)] (gSh, M') (fun r hp => r = some (.int v) ∧ hp = (gSh, M'))) ∧ (200 ≤ v.toInt → ∃ (x y : Nat) (z : Int32), x ≤ q ∧ y ≤ 35 ∧ (∀ M', offM M0 M' → tyM (tOf τ) M' → cOk S (d + 1) 238 [.ref 185, .int (nI k), .int (nI c), .int (nI q), .int (nI b), .int (nI o)] (gSh, M') (fun r hp => r = some (.int (nI x)) ∧ hp = (gSh, M')) ∧ cOk S (d + 1) 239 [.ref 185, .int (nI k), .int (nI c), .int (nI o)] (gSh, M') (fun r hp => r = some (.int (nI y)) ∧ hp = (gSh, M'))) ∧ M 197 (sX (k + 1) y (q - x) (fB o b)) = .int z ∧ z.toInt = v.toInt - 100)
theorem OBX_move {τ : fT} {S : pScr} {d k c q b o : Nat} {v : Int32} {M0 M M1 : pMem} (h : OBX τ S d M0 M k c q b o v) (he : ∀ i, 7200 * (k + 1) ≤ i → M1 197 i = M 197 i) : OBX τ S d M0 M1 k c q b o v := by
  obtain ⟨h1, h2⟩ := h
  refine ⟨fun M2 a b c => h1 M2 a b (fun i hi => (c i hi).trans (he i hi)), fun hv => ?_⟩
  obtain ⟨x, y, z, k1, k2, k3, k4, k5⟩ := h2 hv
  exact ⟨x, y, z, k1, k2, k3, by rw [he _ (by unfold sX; omega)]; exact k4, k5⟩
theorem ob_ex {τ : fT} {S : pScr} {d k c q b o : Nat} {M0 M : pMem} (hT : pQ τ) (hH : QH τ S d) (hM0 : tyM (tOf τ) M0) (hg : gR M0) (hk : k < 12) (hc : c ≤ 35) (hq : q < 100) (hb : b < 2) (ho : o < 8) (hM : tyM (tOf τ) M) : ∃ v, OBX τ S d M0 M k c q b o v := by
  rcases ca_ex hT hH hM0 hg hk hc hq hb ho with hn | ⟨x, y, hx, hy, hxy⟩
  · exact ⟨mI, fun M' a1 a2 _ => c_outN (hn M' a1 a2), fun hv => absurd hv (by rw [mI_int]; omega)⟩
  · have r3 := ty_ref (pqy hT hM0 0 rfl rfl)
    have r30 := ty_ref (pqy hT hM0 2 rfl rfl)
    have r31 := ty_ref (pqy hT hM0 3 rfl rfl)
    obtain ⟨e, he, ee⟩ := ty_nat (hM0 186 (70 + y) _ (by decide) (by rw [tyAt_row hT.1]; exact hT.2.2.1 y (by omega)))
    obtain ⟨bb, hbb, ebb⟩ := ty_nat (hM0 196 (36 * k + y) (0, 0, 1, []) (by decide) (by rw [tyAt_row hT.1]; show rowAt (τ 196) _ = _; rw [hT.2.2.2.2.2.1]; exact row1_at (by omega)))
    obtain ⟨r, er⟩ := pq_out hT hM (i := sX (k + 1) y (q - x) (fB o b)) (by unfold sX; have := fB_lt (o := o) hb; omega)
    refine ⟨obV o e bb x q r, fun M' a1 a2 a3 => ?_, fun hv => ⟨x, y, r, hx, hy, hxy, er, ob_big hq hv⟩⟩
    exact c_outY hk hq hb ho hx hy (by omega) (by omega) (by rw [a1 185 (by decide)]; exact r3) (by rw [a1 185 (by decide)]; exact r30) (by rw [a1 185 (by decide)]; exact r31) (by rw [a1 186 (by decide)]; exact ee) (by rw [a1 196 (by decide)]; exact ebb) (by rw [a3 _ (by unfold sX; omega)]; exact er) (hxy M' a1 a2).1 (hxy M' a1 a2).2
/-- a state's answer is the least of its orders' -/
def FX (τ : fT) (S : pScr) (d : Nat) (M0 M : pMem) (k c q b : Nat) : Prop := ∃ vs : Nat → Int32, (∀ o, o < 8 → OBX τ S d M0 M k c q b o (vs o)) ∧ M 197 (sX k c q b) = .int (bo vs 8).2
theorem FX_up {τ : fT} {S : pScr} {d r c q b i : Nat} {v : Value} {M0 M : pMem} (h : FX τ S d M0 M r c q b) (hi : i < 7200 * (r + 1)) (hne : i ≠ sX r c q b) : FX τ S d M0 (pUp M 197 i v) r c q b := by
  obtain ⟨vs, h1, h2⟩ := h
  exact ⟨vs, fun o ho => OBX_move (h1 o ho) (fun i' hi' => pUp_other _ _ _ _ (fun z => by have := z.2; omega)), by rw [pUp_other _ _ _ _ (fun z => hne z.2.symm)]; exact h2⟩
theorem sX_lt {k c q b : Nat} (hc : c ≤ 35) (hq : q < 100) (hb : b < 2) : sX k c q b < 7200 * (k + 1) := by
  unfold sX
  omega
theorem c_bestF {τ : fT} {S : pScr} {d k c q b : Nat} {M0 M : pMem} (hT : pQ τ) (hH : QH τ S d) (hM0 : tyM (tOf τ) M0) (hg : gR M0) (hk : k < 12) (hc : c ≤ 35) (hq : q < 100) (hb : b < 2) (ho : offM M0 M) (hM : tyM (tOf τ) M) : cOk S (d + 3) 242 [.ref 185, .int (nI k), .int (nI c), .int (nI q), .int (nI b)] (gSh, M) (fun v hp => (∃ z, v = some (.int z)) ∧ ∃ z, hp = (gSh, pUp M 197 (sX k c q b) (.int z)) ∧ FX τ S d M0 (pUp M 197 (sX k c q b) (.int z)) k c q b) := by
  have hlt := sX_lt (k := k) hc hq hb
  have ex : ∀ o, ∃ v, o < 8 → OBX τ S d M0 M k c q b o v := fun o => by
    by_cases h : o < 8
    · obtain ⟨v, hv⟩ := ob_ex (o := o) hT hH hM0 hg hk hc hq hb h hM
      exact ⟨v, fun _ => hv⟩
    · exact ⟨0, fun h' => absurd h' h⟩
  obtain ⟨vs, hvs⟩ := Classical.axiomOfChoice ex
  have r31 := ty_ref (pqy hT hM 3 rfl rfl)
  refine (c_bestA (vs := vs) r31 (by omega) (fun j hj => (hvs j hj).1 M ho hM (fun _ _ => rfl))).mono ?_
  rintro v hp ⟨h1, h2⟩
  refine ⟨⟨_, h1⟩, _, h2, vs, fun o ho => OBX_move (hvs o ho) (fun i hi => pUp_other _ _ _ _ (fun z => by have := z.2; omega)), ?_⟩
  rw [pUp_self]
/-- what is known at a state of findOut's loops -/
def fI (τ : fT) (S : pScr) (d : Nat) (M0 : pMem) (n k e : Nat) (M : pMem) : Prop := offM M0 M ∧ tyM (tOf τ) M ∧ (∀ j, j < 7200 → M 197 (7200 * n + j) = .int mI) ∧ (∀ r c q b, k < r → r < n → c ≤ 35 → q < 100 → b < 2 → FX τ S d M0 M r c q b) ∧ ∀ c q b, c ≤ 35 → q < 100 → b < 2 → 200 * c + 2 * q + b < e → FX τ S d M0 M k c q b
def fEn (τ : fT) (S : pScr) (d : Nat) (M0 : pMem) (n : Nat) (M : pMem) : Prop := offM M0 M ∧ tyM (tOf τ) M ∧ (∀ j, j < 7200 → M 197 (7200 * n + j) = .int mI) ∧ ∀ r c q b, r < n → c ≤ 35 → q < 100 → b < 2 → FX τ S d M0 M r c q b
theorem fI_up {τ : fT} {S : pScr} {d n k c q b : Nat} {z : Int32} {M0 M : pMem} (hT : pQ τ) (hn : n ≤ 12) (hkn : k < n) (hc : c ≤ 35) (hq : q < 100) (hb : b < 2) (h : fI τ S d M0 n k (200 * c + 2 * q + b) M) (hF : FX τ S d M0 (pUp M 197 (sX k c q b) (.int z)) k c q b) : fI τ S d M0 n k (200 * c + 2 * q + b + 1) (pUp M 197 (sX k c q b) (.int z)) := by
  obtain ⟨h1, h2, h3, h4, h5⟩ := h
  have hlt := sX_lt (k := k) hc hq hb
  refine ⟨fun o ho => by rw [pUp_ne ho]; exact h1 o ho, pq_up hT h2 (by omega) z, fun j hj => ?_, fun r c' q' b' k1 k2 k3 k4 k5 => FX_up (h4 r c' q' b' k1 k2 k3 k4 k5) (by omega) (by unfold sX at hlt ⊢; omega), fun c' q' b' k3 k4 k5 k6 => ?_⟩
  · rw [pUp_other _ _ _ _ (fun z => by have := z.2; omega)]
    exact h3 j hj
  · by_cases e : 200 * c' + 2 * q' + b' = 200 * c + 2 * q + b
    · have e1 : c' = c := by omega
      have e2 : q' = q := by omega
      have e3 : b' = b := by omega
      subst e1 e2 e3
      exact hF
    · exact FX_up (h5 c' q' b' k3 k4 k5 (by omega)) hlt (by unfold sX; omega)
abbrev fodK (S : pScr) (d : Nat) (Q : Option Value → pHp → Prop) (σ : pSt) : Prop := pOk S 12 false 6 (pCode 243) d (fun i len τ' => ∃ v, pRet none i len τ'.2.2.1 = some v ∧ Q v (τ'.2.2.2.1, τ'.2.2.2.2)) σ
/-- the first loop fills a row -/
theorem fod_fill {τ : fT} {S : pScr} {d n : Nat} {Q : Option Value → pHp → Prop} {M0 : pMem} (hT : pQ τ) (hn : n ≤ 12) (r31 : M0 185 31 = .ref 197) (hk : ∀ M : pMem, offM M0 M → tyM (tOf τ) M → (∀ j, j < 7200 → M 197 (7200 * n + j) = .int mI) → fodK S (d + 1) Q (45, [(2, .int (nI (7200 * (n + 1)))), (1, .int (nI n)), (0, .ref 185)], [], gSh, M)) :
    ∀ (t s : Nat), s + t = 7200 * (n + 1) → 7200 * n ≤ s → ∀ M : pMem, offM M0 M → tyM (tOf τ) M → (∀ j, 7200 * n ≤ j → j < s → M 197 j = .int mI) → fodK S (d + 1) Q (19, [(2, .int (nI s)), (1, .int (nI n)), (0, .ref 185)], [], gSh, M) := by
  intro t
  induction t with
  | zero =>
    intro s hs h0 M h1 h2 h3
    refine ok_seq 7 (σ' := (26, [(2, .int (nI s)), (1, .int (nI n)), (0, .ref 185)], [.int (Int32.ofInt 0), .int (Int32.ofInt 0), .int (Int32.ofInt 0), .int ((nI n) + (Int32.ofInt 1)), .int (nI s)], gSh, M)) rfl ?_
    rw [cI_1, hI_add n 1, cI_0]
    refine ok_call (mi := 240) (as := [.int (nI (n + 1)), .int (nI 0), .int (nI 0), .int (nI 0)]) (pc' := 29) (L' := [(2, .int (nI s)), (1, .int (nI n)), (0, .ref 185)]) (st' := [.int (nI s)]) (sh' := gSh) (M' := M) (i := .invokestatic 352) (len := 3) rfl rfl ?_
    refine ((c_stN (d := d) (n + 1) 0 0 0)).mono ?_
    rintro v hp ⟨rfl, rfl⟩
    rw [show sX (n + 1) 0 0 0 = 7200 * (n + 1) by unfold sX; omega]
    refine ok_icmp 45 rfl rfl (fun _ => ?_) (fun hz => absurd (by simp only [pCP]; rw [hI_int (a := s) (by omega), hI_int (a := 7200 * (n + 1)) (by omega)]; omega) hz)
    obtain rfl : s = 7200 * (n + 1) := by omega
    exact hk M h1 h2 (fun j hj => h3 _ (by omega) (by omega))
  | succ t ih =>
    intro s hs h0 M h1 h2 h3
    have h31 : M 185 31 = .ref 197 := by rw [h1 185 (by decide)]; exact r31
    refine ok_seq 7 (σ' := (26, [(2, .int (nI s)), (1, .int (nI n)), (0, .ref 185)], [.int (Int32.ofInt 0), .int (Int32.ofInt 0), .int (Int32.ofInt 0), .int ((nI n) + (Int32.ofInt 1)), .int (nI s)], gSh, M)) rfl ?_
    rw [cI_1, hI_add n 1, cI_0]
    refine ok_call (mi := 240) (as := [.int (nI (n + 1)), .int (nI 0), .int (nI 0), .int (nI 0)]) (pc' := 29) (L' := [(2, .int (nI s)), (1, .int (nI n)), (0, .ref 185)]) (st' := [.int (nI s)]) (sh' := gSh) (M' := M) (i := .invokestatic 352) (len := 3) rfl rfl ?_
    refine ((c_stN (d := d) (n + 1) 0 0 0)).mono ?_
    rintro v hp ⟨rfl, rfl⟩
    rw [show sX (n + 1) 0 0 0 = 7200 * (n + 1) by unfold sX; omega]
    refine ok_icmp 45 rfl rfl (fun hz => absurd hz (by simp only [pCP]; rw [hI_int (a := s) (by omega), hI_int (a := 7200 * (n + 1)) (by omega)]; omega)) (fun _ => ?_)
    refine ok_seq 2 (σ' := (36, [(2, .int (nI s)), (1, .int (nI n)), (0, .ref 185)], [M 185 31], gSh, M)) rfl ?_
    rw [h31]
    refine ok_seq 2 (σ' := (38, [(2, .int (nI s)), (1, .int (nI n)), (0, .ref 185)], [.int mI, .int (nI s), .ref 197], gSh, M)) rfl ?_
    refine ok_iast (n := 93600) rfl rfl (hI_in (by omega) (by decide)) ?_
    rw [hI_nat (a := s) (by omega)]
    refine ok_seq 2 (σ' := (19, [(2, .int ((nI s) + (Int32.ofInt 1))), (1, .int (nI n)), (0, .ref 185)], [], gSh, pUp M 197 s (.int mI))) rfl ?_
    rw [cI_1, hI_add s 1]
    refine ih (s + 1) (by omega) (by omega) _ (fun o ho => by rw [pUp_ne ho]; exact h1 o ho) (pq_up hT h2 (by omega) mI) (fun j hj1 hj2 => ?_)
    by_cases e : j = s
    · rw [e, pUp_self]
    · rw [pUp_other _ _ _ _ (fun z => e z.2)]
      exact h3 j hj1 (by omega)
/-- one state of the loops -/
theorem fod_b {S : pScr} {d n k c q b : Nat} {M : pMem} {Q : Option Value → pHp → Prop} {P : pMem → Prop} (hb : b < 2) (HB : cOk S d 242 [.ref 185, .int (nI k), .int (nI c), .int (nI q), .int (nI b)] (gSh, M) (fun v hp => (∃ z, v = some (.int z)) ∧ hp.1 = gSh ∧ P hp.2))
    (hk : ∀ M2, P M2 → fodK S d Q (76, [(5, .int (nI (b + 1))), (4, .int (nI q)), (3, .int (nI c)), (2, .int (nI k)), (1, .int (nI n)), (0, .ref 185)], [], gSh, M2)) : fodK S d Q (76, [(5, .int (nI b)), (4, .int (nI q)), (3, .int (nI c)), (2, .int (nI k)), (1, .int (nI n)), (0, .ref 185)], [], gSh, M) := by
  refine ok_seq 2 (σ' := (79, [(5, .int (nI b)), (4, .int (nI q)), (3, .int (nI c)), (2, .int (nI k)), (1, .int (nI n)), (0, .ref 185)], [.int (Int32.ofInt 2), .int (nI b)], gSh, M)) rfl ?_
  rw [cI_2]
  refine ok_icmp 99 rfl rfl (fun hz => absurd hz (by simp only [pCP]; rw [hI_int (a := b) (by omega), hI_int (a := 2) (by omega)]; omega)) (fun _ => ?_)
  refine ok_seq 5 (σ' := (89, [(5, .int (nI b)), (4, .int (nI q)), (3, .int (nI c)), (2, .int (nI k)), (1, .int (nI n)), (0, .ref 185)], [.int (nI b), .int (nI q), .int (nI c), .int (nI k), .ref 185], gSh, M)) rfl ?_
  refine ok_call (mi := 242) (as := [.ref 185, .int (nI k), .int (nI c), .int (nI q), .int (nI b)]) (pc' := 92) (L' := [(5, .int (nI b)), (4, .int (nI q)), (3, .int (nI c)), (2, .int (nI k)), (1, .int (nI n)), (0, .ref 185)]) (st' := []) (sh' := gSh) (M' := M) (i := .invokevirtual 361) (len := 3) rfl rfl ?_
  refine (HB).mono ?_
  rintro v ⟨sh2, M2⟩ ⟨⟨z, rfl⟩, hsh, hP⟩
  have hsh : sh2 = gSh := hsh
  subst hsh
  refine ok_seq 3 (σ' := (76, [(5, .int ((nI b) + (Int32.ofInt 1))), (4, .int (nI q)), (3, .int (nI c)), (2, .int (nI k)), (1, .int (nI n)), (0, .ref 185)], [], gSh, M2)) rfl ?_
  rw [cI_1, hI_add b 1]
  exact hk M2 hP
/-- the loops -/
theorem fod_loops {τ : fT} {S : pScr} {d n : Nat} {Q : Option Value → pHp → Prop} {M0 : pMem} (hT : pQ τ) (hH : QH τ S d) (hM0 : tyM (tOf τ) M0) (hg : gR M0) (hn : n ≤ 12) (hk : ∀ M : pMem, fEn τ S d M0 n M → Q none (gSh, M)) :
    ∀ (w k c q : Nat) (M : pMem), (k * 36 + (35 - c)) * 100 + (99 - q) = w → k < n → c ≤ 35 → q < 100 → fI τ S d M0 n k (200 * c + 2 * q) M → fodK S (d + 3) Q (76, [(5, .int (nI 0)), (4, .int (nI q)), (3, .int (nI c)), (2, .int (nI k)), (1, .int (nI n)), (0, .ref 185)], [], gSh, M) := by
  intro w
  induction w using Nat.strongRecOn with
  | _ w ih =>
    intro k c q M hw hkn hc hq hI
    have stp : ∀ (b : Nat) (M : pMem), b < 2 → fI τ S d M0 n k (200 * c + 2 * q + b) M → cOk S (d + 3) 242 [.ref 185, .int (nI k), .int (nI c), .int (nI q), .int (nI b)] (gSh, M) (fun v hp => (∃ z, v = some (.int z)) ∧ hp.1 = gSh ∧ fI τ S d M0 n k (200 * c + 2 * q + b + 1) hp.2) := by
      intro b M hb hI
      refine (c_bestF hT hH hM0 hg (by omega) hc hq hb hI.1 hI.2.1).mono ?_
      rintro v hp ⟨h1, z, rfl, h3⟩
      exact ⟨h1, rfl, fI_up hT hn hkn hc hq hb hI h3⟩
    refine fod_b (b := 0) (by decide) (stp 0 M (by decide) hI) ?_
    intro M1 hI1
    refine fod_b (b := 1) (by decide) (stp 1 M1 (by decide) hI1) ?_
    intro M2 hI2
    have r2 := ty_int (pqy hT hI2.2.1 4 rfl rfl)
    have h2c : M2 185 2 = .int (nI 36) := by
      obtain ⟨z, e1, e2, e3⟩ := r2
      rw [e1]
      have e2 : (36 : Int) ≤ z.toInt := e2
      have e3 : z.toInt ≤ (36 : Int) := e3
      exact congrArg Value.int (Int32.toInt_inj.mp (by rw [show (nI 36).toInt = 36 by decide]; omega))
    have hI3 : fI τ S d M0 n k (200 * c + 2 * (q + 1)) M2 := by
      have h := hI2
      rw [show 200 * c + 2 * q + 1 + 1 = 200 * c + 2 * (q + 1) by omega] at h
      exact h
    refine ok_seq 2 (σ' := (79, [(5, .int (nI (1 + 1))), (4, .int (nI q)), (3, .int (nI c)), (2, .int (nI k)), (1, .int (nI n)), (0, .ref 185)], [.int (Int32.ofInt 2), .int (nI (1 + 1))], gSh, M2)) rfl ?_
    rw [cI_2]
    refine ok_icmp 99 rfl rfl (fun _ => ?_) (fun hz => absurd (by simp only [pCP]; decide) hz)
    refine ok_seq 4 (σ' := (70, [(4, .int ((nI q) + (Int32.ofInt 1))), (5, .int (nI (1 + 1))), (3, .int (nI c)), (2, .int (nI k)), (1, .int (nI n)), (0, .ref 185)], [.int ((Int8.ofInt 100).toInt32), .int ((nI q) + (Int32.ofInt 1))], gSh, M2)) rfl ?_
    rw [cI_1, hI_add q 1, (show (Int8.ofInt 100).toInt32 = nI 100 by decide)]
    by_cases hq2 : q + 1 < 100
    · refine ok_icmp 105 rfl rfl (fun hz => absurd hz (by simp only [pCP]; rw [hI_int (a := q + 1) (by omega), hI_int (a := 100) (by omega)]; omega)) (fun _ => ?_)
      refine ok_seq 2 (σ' := (76, [(5, .int (Int32.ofInt 0)), (4, .int (nI (q + 1))), (3, .int (nI c)), (2, .int (nI k)), (1, .int (nI n)), (0, .ref 185)], [], gSh, M2)) rfl ?_
      rw [cI_0]
      exact ih _ (by omega) k c (q + 1) M2 rfl hkn hc hq2 hI3
    · refine ok_icmp 105 rfl rfl (fun _ => ?_) (fun hz => absurd (by simp only [pCP]; rw [hI_int (a := q + 1) (by omega), hI_int (a := 100) (by omega)]; omega) hz)
      have e100 : q + 1 = 100 := by omega
      refine ok_seq 5 (σ' := (60, [(3, .int ((nI c) + (Int32.ofInt 1))), (4, .int (nI (q + 1))), (5, .int (nI (1 + 1))), (2, .int (nI k)), (1, .int (nI n)), (0, .ref 185)], [M2 185 2, .int ((nI c) + (Int32.ofInt 1))], gSh, M2)) rfl ?_
      rw [h2c]
      rw [cI_1, hI_add c 1]
      by_cases hc2 : c + 1 < 36
      · refine ok_icmp 111 rfl rfl (fun hz => absurd hz (by simp only [pCP]; rw [hI_int (a := c + 1) (by omega), hI_int (a := 36) (by omega)]; omega)) (fun _ => ?_)
        refine ok_seq 4 (σ' := (70, [(4, .int (Int32.ofInt 0)), (3, .int (nI (c + 1))), (5, .int (nI (1 + 1))), (2, .int (nI k)), (1, .int (nI n)), (0, .ref 185)], [.int ((Int8.ofInt 100).toInt32), .int (Int32.ofInt 0)], gSh, M2)) rfl ?_
        rw [cI_0, (show (Int8.ofInt 100).toInt32 = nI 100 by decide)]
        refine ok_icmp 105 rfl rfl (fun hz => absurd hz (by simp only [pCP]; rw [hI_int (a := 0) (by omega), hI_int (a := 100) (by omega)]; omega)) (fun _ => ?_)
        refine ok_seq 2 (σ' := (76, [(5, .int (Int32.ofInt 0)), (4, .int (nI 0)), (3, .int (nI (c + 1))), (2, .int (nI k)), (1, .int (nI n)), (0, .ref 185)], [], gSh, M2)) rfl ?_
        rw [cI_0]
        exact ih _ (by omega) k (c + 1) 0 M2 rfl hkn (by omega) (by omega) ⟨hI2.1, hI2.2.1, hI2.2.2.1, hI2.2.2.2.1, fun c' q' b' k1 k2 k3 k4 => hI2.2.2.2.2 c' q' b' k1 k2 k3 (by omega)⟩
      · refine ok_icmp 111 rfl rfl (fun _ => ?_) (fun hz => absurd (by simp only [pCP]; rw [hI_int (a := c + 1) (by omega), hI_int (a := 36) (by omega)]; omega) hz)
        have all : ∀ c' q' b', c' ≤ 35 → q' < 100 → b' < 2 → FX τ S d M0 M2 k c' q' b' := fun c' q' b' k1 k2 k3 => hI2.2.2.2.2 c' q' b' k1 k2 k3 (by omega)
        refine ok_seq 3 (σ' := (50, [(2, .int (nI k + mI)), (3, .int (nI (c + 1))), (4, .int (nI (q + 1))), (5, .int (nI (1 + 1))), (1, .int (nI n)), (0, .ref 185)], [.int (nI k + mI)], gSh, M2)) rfl ?_
        cases k with
        | zero =>
          refine ok_if 117 rfl rfl (fun _ => ?_) (fun hz => absurd (show pCP .lt (nI 0 + mI).toInt 0 by simp only [pCP]; decide) hz)
          refine ok_ret (i := .return_) (len := 1) rfl rfl ⟨none, rfl, hk M2 ⟨hI2.1, hI2.2.1, hI2.2.2.1, fun r c' q' b' k1 k2 k3 k4 => ?_⟩⟩
          by_cases e : r = 0
          · subst e
            exact all c' q' b' k2 k3 k4
          · exact hI2.2.2.2.1 r c' q' b' (by omega) k1 k2 k3 k4
        | succ k =>
          rw [hI_dec2]
          refine ok_if 117 rfl rfl (fun hz => absurd hz (by simp only [pCP]; rw [hI_int (a := k) (by omega)]; omega)) (fun _ => ?_)
          refine ok_seq 5 (σ' := (60, [(3, .int (Int32.ofInt 0)), (2, .int (nI k)), (4, .int (nI (q + 1))), (5, .int (nI (1 + 1))), (1, .int (nI n)), (0, .ref 185)], [M2 185 2, .int (Int32.ofInt 0)], gSh, M2)) rfl ?_
          rw [h2c]
          rw [cI_0]
          refine ok_icmp 111 rfl rfl (fun hz => absurd hz (by simp only [pCP]; rw [hI_int (a := 0) (by omega), hI_int (a := 36) (by omega)]; omega)) (fun _ => ?_)
          refine ok_seq 4 (σ' := (70, [(4, .int (Int32.ofInt 0)), (3, .int (nI 0)), (2, .int (nI k)), (5, .int (nI (1 + 1))), (1, .int (nI n)), (0, .ref 185)], [.int ((Int8.ofInt 100).toInt32), .int (Int32.ofInt 0)], gSh, M2)) rfl ?_
          rw [cI_0, (show (Int8.ofInt 100).toInt32 = nI 100 by decide)]
          refine ok_icmp 105 rfl rfl (fun hz => absurd hz (by simp only [pCP]; rw [hI_int (a := 0) (by omega), hI_int (a := 100) (by omega)]; omega)) (fun _ => ?_)
          refine ok_seq 2 (σ' := (76, [(5, .int (Int32.ofInt 0)), (4, .int (nI 0)), (3, .int (nI 0)), (2, .int (nI k)), (1, .int (nI n)), (0, .ref 185)], [], gSh, M2)) rfl ?_
          rw [cI_0]
          refine ih _ (by omega) k 0 0 M2 rfl (by omega) (by omega) (by omega) ⟨hI2.1, hI2.2.1, hI2.2.2.1, fun r c' q' b' k1 k2 k3 k4 k5 => ?_, fun c' q' b' _ _ _ k4 => by omega⟩
          by_cases e : r = k + 1
          · subst e
            exact all c' q' b' k3 k4 k5
          · exact hI2.2.2.2.1 r c' q' b' (by omega) k2 k3 k4 k5
theorem c_findF {τ : fT} {S : pScr} {d : Nat} {M : pMem} (hT : pQ τ) (hH : QH τ S d) (hM : tyM (tOf τ) M) (hg : gR M) : cOk S (d + 4) 243 [.ref 185] (gSh, M) (fun (v : Option Value) (hp : pHp) => v = none ∧ hp.1 = gSh ∧ ∃ (M1 : pMem) (n : Nat), frm (some [191, 192, 193, 194, 195, 196]) M M1 ∧ tyM (tOf τ) M1 ∧ n ≤ 12 ∧ fEn τ S d M1 n hp.2) := by
  refine c_of_ok (Nat.le_of_ble_eq_true rfl) ?_
  refine ok_seq 1 (σ' := (1, [(0, .ref 185)], [.ref 185], gSh, M)) rfl ?_
  refine ok_call (mi := 237) (as := [.ref 185]) (pc' := 4) (L' := [(0, .ref 185)]) (st' := []) (sh' := gSh) (M' := M) (i := .invokevirtual 358) (len := 3) rfl rfl ?_
  refine (((hH.1 [.ref 185] M ⟨r185_, trivial⟩ hM hg (fun q hq => by cases hq)).deep (by omega))).mono ?_
  rintro v ⟨sh2, M1⟩ ⟨hsh, hM1, hv, hf, -⟩
  have hsh : sh2 = gSh := hsh
  subst hsh
  dsimp only at hM1 hf
  have ev : v = none := by
    cases v with
    | none => rfl
    | some v => exact hv.elim
  subst ev
  have hg1 : gR M1 := gR_keep hf.2.1 hf.2.2.1 hf.2.2.2 hg
  have r3 := ty_ref (pqy hT hM1 0 rfl rfl)
  have r31 := ty_ref (pqy hT hM1 3 rfl rfl)
  obtain ⟨n, hn, en⟩ := ty_nat (pqy hT hM1 5 rfl rfl)
  refine ok_seq 2 (σ' := (8, [(0, .ref 185)], [M1 185 3], gSh, M1)) rfl ?_
  rw [r3]
  refine ok_seq 1 (σ' := (9, [(0, .ref 185)], [.int (Int32.ofInt 4), .ref 186], gSh, M1)) rfl ?_
  rw [cI_4]
  refine ok_iald (n := 280) (v := nI n) rfl rfl (hI_in (by omega) (by decide)) (by rw [hI_nat (by omega)]; exact en) ?_
  refine ok_seq 5 (σ' := (15, [(1, .int (nI n)), (0, .ref 185)], [.int (Int32.ofInt 0), .int (Int32.ofInt 0), .int (Int32.ofInt 0), .int (nI n)], gSh, M1)) rfl ?_
  rw [cI_0]
  refine ok_call (mi := 240) (as := [.int (nI n), .int (nI 0), .int (nI 0), .int (nI 0)]) (pc' := 18) (L' := [(1, .int (nI n)), (0, .ref 185)]) (st' := []) (sh' := gSh) (M' := M1) (i := .invokestatic 352) (len := 3) rfl rfl ?_
  refine (((c_stN (d := 0) n 0 0 0).deep (by omega))).mono ?_
  rintro v hp ⟨rfl, rfl⟩
  rw [show sX n 0 0 0 = 7200 * n by unfold sX; omega]
  refine ok_seq 1 (σ' := (19, [(2, .int (nI (7200 * n))), (1, .int (nI n)), (0, .ref 185)], [], gSh, M1)) rfl ?_
  refine fod_fill (d := d + 2) (Q := (fun (v : Option Value) (hp : pHp) => v = none ∧ hp.1 = gSh ∧ ∃ (M1 : pMem) (n : Nat), frm (some [191, 192, 193, 194, 195, 196]) M M1 ∧ tyM (tOf τ) M1 ∧ n ≤ 12 ∧ fEn τ S d M1 n hp.2)) (M0 := M1) hT (by omega) r31 ?_ 7200 (7200 * n) (by omega) (Nat.le_refl _) M1 (fun _ _ => rfl) hM1 (fun j hj1 hj2 => by omega)
  intro M2 k1 k2 k3
  have fin : ∀ M3 : pMem, fEn τ S d M1 n M3 → (fun (v : Option Value) (hp : pHp) => v = none ∧ hp.1 = gSh ∧ ∃ (M1 : pMem) (n : Nat), frm (some [191, 192, 193, 194, 195, 196]) M M1 ∧ tyM (tOf τ) M1 ∧ n ≤ 12 ∧ fEn τ S d M1 n hp.2) none (gSh, M3) := fun M3 h => ⟨rfl, rfl, M1, n, hf, hM1, by omega, h⟩
  refine ok_seq 5 (σ' := (50, [(2, .int (nI n - Int32.ofInt 1)), (1, .int (nI n)), (0, .ref 185)], [.int (nI n - Int32.ofInt 1)], gSh, M2)) rfl ?_
  cases n with
  | zero =>
    refine ok_if 117 rfl rfl (fun _ => ?_) (fun hz => absurd (show pCP .lt (nI 0 - Int32.ofInt 1).toInt 0 by simp only [pCP]; decide) hz)
    exact ok_ret (i := .return_) (len := 1) rfl rfl ⟨none, rfl, fin M2 ⟨k1, k2, k3, fun r c q b h => by omega⟩⟩
  | succ n =>
    rw [show nI (n + 1) - Int32.ofInt 1 = nI n by rw [cI_1]; exact hI_sub (n + 1) 1 (by omega)]
    have h2c : M2 185 2 = .int (nI 36) := by
      obtain ⟨z, e1, e2, e3⟩ := ty_int (pqy hT k2 4 rfl rfl)
      rw [e1]
      have e2 : (36 : Int) ≤ z.toInt := e2
      have e3 : z.toInt ≤ (36 : Int) := e3
      exact congrArg Value.int (Int32.toInt_inj.mp (by rw [show (nI 36).toInt = 36 by decide]; omega))
    refine ok_if 117 rfl rfl (fun hz => absurd hz (by simp only [pCP]; rw [hI_int (a := n) (by omega)]; omega)) (fun _ => ?_)
    refine ok_seq 5 (σ' := (60, [(3, .int (Int32.ofInt 0)), (2, .int (nI n)), (1, .int (nI (n + 1))), (0, .ref 185)], [M2 185 2, .int (Int32.ofInt 0)], gSh, M2)) rfl ?_
    rw [h2c]
    rw [cI_0]
    refine ok_icmp 111 rfl rfl (fun hz => absurd hz (by simp only [pCP]; rw [hI_int (a := 0) (by omega), hI_int (a := 36) (by omega)]; omega)) (fun _ => ?_)
    refine ok_seq 4 (σ' := (70, [(4, .int (Int32.ofInt 0)), (3, .int (nI 0)), (2, .int (nI n)), (1, .int (nI (n + 1))), (0, .ref 185)], [.int ((Int8.ofInt 100).toInt32), .int (Int32.ofInt 0)], gSh, M2)) rfl ?_
    rw [cI_0, (show (Int8.ofInt 100).toInt32 = nI 100 by decide)]
    refine ok_icmp 105 rfl rfl (fun hz => absurd hz (by simp only [pCP]; rw [hI_int (a := 0) (by omega), hI_int (a := 100) (by omega)]; omega)) (fun _ => ?_)
    refine ok_seq 2 (σ' := (76, [(5, .int (Int32.ofInt 0)), (4, .int (nI 0)), (3, .int (nI 0)), (2, .int (nI n)), (1, .int (nI (n + 1))), (0, .ref 185)], [], gSh, M2)) rfl ?_
    rw [cI_0]
    exact fod_loops (Q := (fun (v : Option Value) (hp : pHp) => v = none ∧ hp.1 = gSh ∧ ∃ (M1 : pMem) (n : Nat), frm (some [191, 192, 193, 194, 195, 196]) M M1 ∧ tyM (tOf τ) M1 ∧ n ≤ 12 ∧ fEn τ S d M1 n hp.2)) hT hH hM1 hg1 (by omega) fin _ n 0 0 M2 rfl (by omega) (by omega) (by omega) ⟨k1, k2, k3, fun r c q b h1 h2 => by omega, fun c q b _ _ _ h => by omega⟩
theorem c_shipCoal {S : pScr} {d sq : Nat} {M : pMem} (h3 : M 185 3 = .ref 186) (hv : M 186 21 = .int (nI sq)) : cOk S (d + 2) 245 [.ref 185] (gSh, M) (fun r hp => r = some (.int (nI sq)) ∧ hp = (gSh, M)) := by
  refine c_of_ok (Nat.le_of_ble_eq_true rfl) ?_
  refine ok_seq 2 (σ' := (4, [(0, .ref 185)], [M 185 3], gSh, M)) rfl ?_
  rw [h3]
  refine ok_seq 2 (σ' := (6, [(0, .ref 185)], [.int (Int32.ofInt 1), .int (Int32.ofInt 0), .ref 186], gSh, M)) rfl ?_
  rw [cI_0, cI_1]
  refine ok_call (mi := 170) (as := [.int (nI 0), .int (nI 1)]) (pc' := 9) (L' := [(0, .ref 185)]) (st' := [.ref 186]) (sh' := gSh) (M' := M) (i := .invokestatic 108) (len := 3) rfl rfl ?_
  refine (((c_ofShip (d := 0) 0 1).deep (by omega))).mono ?_
  rintro v hp ⟨rfl, rfl⟩
  refine ok_iald (n := 280) (v := nI sq) rfl rfl (hI_in (by omega) (by decide)) (by rw [hI_nat (by omega)]; exact hv) ?_
  exact ok_ret (i := .ireturn) (len := 1) rfl rfl ⟨_, rfl, rfl, rfl⟩
theorem c_shipBank {S : pScr} {d sb : Nat} {M : pMem} (h3 : M 185 3 = .ref 186) (hv : M 186 22 = .int (nI sb)) : cOk S (d + 2) 246 [.ref 185] (gSh, M) (fun r hp => r = some (.int (nI sb)) ∧ hp = (gSh, M)) := by
  refine c_of_ok (Nat.le_of_ble_eq_true rfl) ?_
  refine ok_seq 2 (σ' := (4, [(0, .ref 185)], [M 185 3], gSh, M)) rfl ?_
  rw [h3]
  refine ok_seq 2 (σ' := (6, [(0, .ref 185)], [.int (Int32.ofInt 2), .int (Int32.ofInt 0), .ref 186], gSh, M)) rfl ?_
  rw [cI_0, cI_2]
  refine ok_call (mi := 170) (as := [.int (nI 0), .int (nI 2)]) (pc' := 9) (L' := [(0, .ref 185)]) (st' := [.ref 186]) (sh' := gSh) (M' := M) (i := .invokestatic 108) (len := 3) rfl rfl ?_
  refine (((c_ofShip (d := 0) 0 2).deep (by omega))).mono ?_
  rintro v hp ⟨rfl, rfl⟩
  refine ok_iald (n := 280) (v := nI sb) rfl rfl (hI_in (by omega) (by decide)) (by rw [hI_nat (by omega)]; exact hv) ?_
  exact ok_ret (i := .ireturn) (len := 1) rfl rfl ⟨_, rfl, rfl, rfl⟩
theorem c_isFreeA {S : pScr} {d f g : Nat} {M : pMem} (h3 : M 185 3 = .ref 186) (hf : M 186 24 = .int (nI f)) (hf2 : f ≤ 1) (hg : M 186 23 = .int (nI g)) (hg2 : g ≤ 2) : cOk S (d + 2) 227 [.ref 185, .int (nI 0)] (gSh, M) (fun r hp => (∃ b : Nat, b ≤ 1 ∧ r = some (.int (nI b))) ∧ hp = (gSh, M)) := by
  refine c_of_ok (Nat.le_of_ble_eq_true rfl) ?_
  refine ok_seq 2 (σ' := (4, [(0, .ref 185), (1, .int (nI 0))], [M 185 3], gSh, M)) rfl ?_
  rw [h3]
  refine ok_seq 2 (σ' := (6, [(0, .ref 185), (1, .int (nI 0))], [.int (Int32.ofInt 4), .int (nI 0), .ref 186], gSh, M)) rfl ?_
  rw [cI_4]
  refine ok_call (mi := 170) (as := [.int (nI 0), .int (nI 4)]) (pc' := 9) (L' := [(0, .ref 185), (1, .int (nI 0))]) (st' := [.ref 186]) (sh' := gSh) (M' := M) (i := .invokestatic 108) (len := 3) rfl rfl ?_
  refine (((c_ofShip (d := 0) 0 4).deep (by omega))).mono ?_
  rintro v hp ⟨rfl, rfl⟩
  refine ok_iald (n := 280) (v := nI f) rfl rfl (hI_in (by omega) (by decide)) (by rw [hI_nat (by omega)]; exact hf) ?_
  refine ok_seq 1 (σ' := (11, [(0, .ref 185), (1, .int (nI 0))], [.int (Int32.ofInt 1), .int (nI f)], gSh, M)) rfl ?_
  rw [cI_1]
  refine ok_icmp 31 rfl rfl ?_ ?_
  · intro h1
    simp only [pCP] at h1
    rw [hI_int (a := f) (by omega), hI_int (a := 1) (by omega)] at h1
    have h1 : ((f : Nat) : Int) ≠ ((1 : Nat) : Int) := by omega
    refine ok_seq 1 (σ' := (32, [(0, .ref 185), (1, .int (nI 0))], [.int (Int32.ofInt 0)], gSh, M)) rfl ?_
    rw [cI_0]
    exact ok_ret (i := .ireturn) (len := 1) rfl rfl ⟨some (.int (nI 0)), pb0, ⟨0, by decide, rfl⟩, rfl⟩
  · intro h1
    simp only [pCP] at h1
    rw [hI_int (a := f) (by omega), hI_int (a := 1) (by omega)] at h1
    have h1 : ((f : Nat) : Int) = ((1 : Nat) : Int) := by omega
    refine ok_seq 2 (σ' := (18, [(0, .ref 185), (1, .int (nI 0))], [M 185 3], gSh, M)) rfl ?_
    rw [h3]
    refine ok_seq 2 (σ' := (20, [(0, .ref 185), (1, .int (nI 0))], [.int (Int32.ofInt 3), .int (nI 0), .ref 186], gSh, M)) rfl ?_
    rw [cI_3]
    refine ok_call (mi := 170) (as := [.int (nI 0), .int (nI 3)]) (pc' := 23) (L' := [(0, .ref 185), (1, .int (nI 0))]) (st' := [.ref 186]) (sh' := gSh) (M' := M) (i := .invokestatic 108) (len := 3) rfl rfl ?_
    refine (((c_ofShip (d := 0) 0 3).deep (by omega))).mono ?_
    rintro v hp ⟨rfl, rfl⟩
    refine ok_iald (n := 280) (v := nI g) rfl rfl (hI_in (by omega) (by decide)) (by rw [hI_nat (by omega)]; exact hg) ?_
    refine ok_if 31 rfl rfl ?_ ?_
    · intro h2
      simp only [pCP] at h2
      rw [hI_int (a := g) (by omega)] at h2
      have h2 : ((g : Nat) : Int) ≠ (0 : Int) := by omega
      refine ok_seq 1 (σ' := (32, [(0, .ref 185), (1, .int (nI 0))], [.int (Int32.ofInt 0)], gSh, M)) rfl ?_
      rw [cI_0]
      exact ok_ret (i := .ireturn) (len := 1) rfl rfl ⟨some (.int (nI 0)), pb0, ⟨0, by decide, rfl⟩, rfl⟩
    · intro h2
      simp only [pCP] at h2
      rw [hI_int (a := g) (by omega)] at h2
      have h2 : ((g : Nat) : Int) = (0 : Int) := by omega
      refine ok_seq 2 (σ' := (32, [(0, .ref 185), (1, .int (nI 0))], [.int (Int32.ofInt 1)], gSh, M)) rfl ?_
      rw [cI_1]
      exact ok_ret (i := .ireturn) (len := 1) rfl rfl ⟨some (.int (nI 1)), pb1, ⟨1, by decide, rfl⟩, rfl⟩
abbrev sooK (S : pScr) (d : Nat) (Q : Option Value → pHp → Prop) (σ : pSt) : Prop := pOk S 12 false 9 (pCode 247) d (fun i len τ' => ∃ v, pRet (some .int) i len τ'.2.2.1 = some v ∧ Q v (τ'.2.2.2.1, τ'.2.2.2.2)) σ
/-- the walk: each step's answer is a hundred more than the next one's -/
theorem soo_walk {τ : fT} {S : pScr} {d n : Nat} {M0 M : pMem} {y2 y3 : Int32} (hT : pQ τ) (hH : QH τ S d) (hg : gR M) (hn : n ≤ 12) (hE : fEn τ S d M0 n M) : ∀ (r k c q b : Nat) (z : Int32) (L : pLs), k + r = 11 → k ≤ n → c ≤ 35 → q < 100 → b < 2 → M 197 (sX k c q b) = .int z → 1200 - 100 * (k : Int) ≤ z.toInt → (L = [(7, .int (nI k)), (6, .int (nI b)), (5, .int (nI q)), (4, .int (nI c)), (3, .int y3), (2, .int y2), (0, .ref 185), (1, .int (nI 21))] ∨ ∃ y8 : Int32, L = [(7, .int (nI k)), (6, .int (nI b)), (4, .int (nI c)), (5, .int (nI q)), (8, .int y8), (3, .int y3), (2, .int y2), (0, .ref 185), (1, .int (nI 21))]) → sooK S (d + 4) (fun r hp => hp.1 = gSh ∧ (∃ z : Int32, r = some (.int z)) ∧ tyM (tOf τ) hp.2 ∧ offM M hp.2) (119, L, [], gSh, M) := by
  intro r
  induction r with
  | zero =>
    intro k c q b z L hr hkn hc hq hb hz hz2 hL
    obtain rfl : k = 11 := by omega
    have hB := (hH.2.1 [.ref 185, .int (nI 11), .int (nI c), .int (nI q), .int (nI b)] M ⟨r185_, sat_n (by omega) (by omega), sat_n (by omega) (by omega), sat_n (by omega) (by omega), sat_n (by omega) (by omega), trivial⟩ hE.2.1 hg (fun q hq => by cases hq)).deep (show d ≤ d + 4 by omega)
    rcases hL with rfl | ⟨y8, rfl⟩
    · refine ok_seq 4 (σ' := (125, [(7, .int (nI 11)), (6, .int (nI b)), (5, .int (nI q)), (4, .int (nI c)), (3, .int y3), (2, .int y2), (0, .ref 185), (1, .int (nI 21))], [.int ((nI 21) - ((Int8.ofInt 10).toInt32)), .int (nI 11)], gSh, M)) rfl ?_
      rw [(show (Int8.ofInt 10).toInt32 = nI 10 by decide), hI_sub 21 10 (by omega)]
      refine ok_icmp 188 rfl rfl (fun _ => ?_) (fun hz => absurd (by simp only [pCP]; decide) hz)
      refine ok_seq 7 (σ' := (199, [(7, .int (nI 11)), (6, .int (nI b)), (5, .int (nI q)), (4, .int (nI c)), (3, .int y3), (2, .int y2), (0, .ref 185), (1, .int (nI 21))], [.int (nI b), .int (nI q), .int (nI c), .int ((nI 21) - ((Int8.ofInt 10).toInt32)), .ref 185], gSh, M)) rfl ?_
      rw [(show (Int8.ofInt 10).toInt32 = nI 10 by decide), hI_sub 21 10 (by omega)]
      refine ok_call (mi := 242) (as := [.ref 185, .int (nI (21 - 10)), .int (nI c), .int (nI q), .int (nI b)]) (pc' := 202) (L' := [(7, .int (nI 11)), (6, .int (nI b)), (5, .int (nI q)), (4, .int (nI c)), (3, .int y3), (2, .int y2), (0, .ref 185), (1, .int (nI 21))]) (st' := []) (sh' := gSh) (M' := M) (i := .invokevirtual 361) (len := 3) rfl rfl ?_
      refine (hB).mono ?_
      rintro v ⟨sh2, M2⟩ ⟨hsh, hM2, hv, hf, -⟩
      have hsh : sh2 = gSh := hsh
      subst hsh
      dsimp only at hM2 hf
      cases v with
      | none => exact hv.elim
      | some v =>
        obtain ⟨zz, rfl, -, -⟩ := hv.1
        exact ok_ret (i := .ireturn) (len := 1) rfl rfl ⟨_, rfl, rfl, ⟨zz, rfl⟩, hM2, fun o ho => hf.1 o (fun hz => ho (List.mem_singleton.mp hz))⟩
    · refine ok_seq 4 (σ' := (125, [(7, .int (nI 11)), (6, .int (nI b)), (4, .int (nI c)), (5, .int (nI q)), (8, .int y8), (3, .int y3), (2, .int y2), (0, .ref 185), (1, .int (nI 21))], [.int ((nI 21) - ((Int8.ofInt 10).toInt32)), .int (nI 11)], gSh, M)) rfl ?_
      rw [(show (Int8.ofInt 10).toInt32 = nI 10 by decide), hI_sub 21 10 (by omega)]
      refine ok_icmp 188 rfl rfl (fun _ => ?_) (fun hz => absurd (by simp only [pCP]; decide) hz)
      refine ok_seq 7 (σ' := (199, [(7, .int (nI 11)), (6, .int (nI b)), (4, .int (nI c)), (5, .int (nI q)), (8, .int y8), (3, .int y3), (2, .int y2), (0, .ref 185), (1, .int (nI 21))], [.int (nI b), .int (nI q), .int (nI c), .int ((nI 21) - ((Int8.ofInt 10).toInt32)), .ref 185], gSh, M)) rfl ?_
      rw [(show (Int8.ofInt 10).toInt32 = nI 10 by decide), hI_sub 21 10 (by omega)]
      refine ok_call (mi := 242) (as := [.ref 185, .int (nI (21 - 10)), .int (nI c), .int (nI q), .int (nI b)]) (pc' := 202) (L' := [(7, .int (nI 11)), (6, .int (nI b)), (4, .int (nI c)), (5, .int (nI q)), (8, .int y8), (3, .int y3), (2, .int y2), (0, .ref 185), (1, .int (nI 21))]) (st' := []) (sh' := gSh) (M' := M) (i := .invokevirtual 361) (len := 3) rfl rfl ?_
      refine (hB).mono ?_
      rintro v ⟨sh2, M2⟩ ⟨hsh, hM2, hv, hf, -⟩
      have hsh : sh2 = gSh := hsh
      subst hsh
      dsimp only at hM2 hf
      cases v with
      | none => exact hv.elim
      | some v =>
        obtain ⟨zz, rfl, -, -⟩ := hv.1
        exact ok_ret (i := .ireturn) (len := 1) rfl rfl ⟨_, rfl, rfl, ⟨zz, rfl⟩, hM2, fun o ho => hf.1 o (fun hz => ho (List.mem_singleton.mp hz))⟩
  | succ r ih =>
    intro k c q b z L hr hkn hc hq hb hz hz2 hL
    have hlt := sX_lt (k := k) hc hq hb
    have hkn2 : k < n := by
      rcases Nat.lt_or_ge k n with h | h
      · exact h
      · obtain rfl : k = n := by omega
        have := hE.2.2.1 (200 * c + 2 * q + b) (by omega)
        rw [show 7200 * k + (200 * c + 2 * q + b) = sX k c q b by unfold sX; omega, hz] at this
        injection this with this
        rw [this, mI_int] at hz2
        omega
    obtain ⟨vs, hvs, hv2⟩ := hE.2.2.2 k c q b hkn2 hc hq hb
    have ez : z = (bo vs 8).2 := by
      rw [hz] at hv2
      injection hv2
    obtain ⟨o, ho, eo, ev⟩ := bo_pos (vs := vs) 8 (by rw [← ez]; omega)
    have hB := c_bestA (S := S) (d := d + 1) (vs := vs) (M := M) (ty_ref (pqy hT hE.2.1 3 rfl rfl)) (show sX k c q b < 93600 by omega) (fun j hj => (hvs j hj).1 M hE.1 hE.2.1 (fun _ _ => rfl))
    have em : pUp M 197 (sX k c q b) (.int (bo vs 8).2) = M := by
      funext a j
      by_cases e : a = 197 ∧ j = sX k c q b
      · obtain ⟨rfl, rfl⟩ := e
        rw [pUp_self, hv2]
      · exact pUp_other _ _ _ _ e
    rw [em, eo] at hB
    obtain ⟨x, y, z2, hx, hy, hxy, hz3, hz4⟩ := (hvs o ho).2 (by rw [ev, ← ez]; omega)
    obtain ⟨hC, hL2⟩ := hxy M hE.1 hE.2.1
    have nxt : ∀ (L : pLs), (∃ y8 : Int32, L = [(7, .int (nI (k + 1))), (6, .int (nI (fB o b))), (4, .int (nI y)), (5, .int (nI (q - x))), (8, .int y8), (3, .int y3), (2, .int y2), (0, .ref 185), (1, .int (nI 21))]) → sooK S (d + 4) (fun r hp => hp.1 = gSh ∧ (∃ z : Int32, r = some (.int z)) ∧ tyM (tOf τ) hp.2 ∧ offM M hp.2) (119, L, [], gSh, M) := fun L hL => ih (k + 1) y (q - x) (fB o b) z2 L (by omega) (by omega) hy (by omega) (fB_lt hb) hz3 (by rw [hz4, ev, ← ez]; omega) (Or.inr hL)
    rcases hL with rfl | ⟨y8, rfl⟩
    · refine ok_seq 4 (σ' := (125, [(7, .int (nI k)), (6, .int (nI b)), (5, .int (nI q)), (4, .int (nI c)), (3, .int y3), (2, .int y2), (0, .ref 185), (1, .int (nI 21))], [.int ((nI 21) - ((Int8.ofInt 10).toInt32)), .int (nI k)], gSh, M)) rfl ?_
      rw [(show (Int8.ofInt 10).toInt32 = nI 10 by decide), hI_sub 21 10 (by omega)]
      refine ok_icmp 188 rfl rfl (fun hz => absurd hz (by simp only [pCP]; rw [hI_int (a := k) (by omega), hI_int (a := 21 - 10) (by omega)]; omega)) (fun _ => ?_)
      refine ok_seq 5 (σ' := (137, [(7, .int (nI k)), (6, .int (nI b)), (5, .int (nI q)), (4, .int (nI c)), (3, .int y3), (2, .int y2), (0, .ref 185), (1, .int (nI 21))], [.int (nI b), .int (nI q), .int (nI c), .int (nI k), .ref 185], gSh, M)) rfl ?_
      refine ok_call (mi := 242) (as := [.ref 185, .int (nI k), .int (nI c), .int (nI q), .int (nI b)]) (pc' := 140) (L' := [(7, .int (nI k)), (6, .int (nI b)), (5, .int (nI q)), (4, .int (nI c)), (3, .int y3), (2, .int y2), (0, .ref 185), (1, .int (nI 21))]) (st' := []) (sh' := gSh) (M' := M) (i := .invokevirtual 361) (len := 3) rfl rfl ?_
      refine ((hB.deep (by omega))).mono ?_
      rintro v hp ⟨rfl, rfl⟩
      refine ok_seq 8 (σ' := (155, [(8, .int (nI o)), (7, .int (nI k)), (6, .int (nI b)), (5, .int (nI q)), (4, .int (nI c)), (3, .int y3), (2, .int y2), (0, .ref 185), (1, .int (nI 21))], [.int (nI o), .int (nI b), .int (nI q), .int (nI c), .int (nI k), .ref 185, .int (nI q)], gSh, M)) rfl ?_
      refine ok_call (mi := 238) (as := [.ref 185, .int (nI k), .int (nI c), .int (nI q), .int (nI b), .int (nI o)]) (pc' := 158) (L' := [(8, .int (nI o)), (7, .int (nI k)), (6, .int (nI b)), (5, .int (nI q)), (4, .int (nI c)), (3, .int y3), (2, .int y2), (0, .ref 185), (1, .int (nI 21))]) (st' := [.int (nI q)]) (sh' := gSh) (M' := M) (i := .invokevirtual 345) (len := 3) rfl rfl ?_
      refine ((hC.deep (by omega))).mono ?_
      rintro v hp ⟨rfl, rfl⟩
      refine ok_seq 6 (σ' := (168, [(5, .int ((nI q) - (nI x))), (8, .int (nI o)), (7, .int (nI k)), (6, .int (nI b)), (4, .int (nI c)), (3, .int y3), (2, .int y2), (0, .ref 185), (1, .int (nI 21))], [.int (nI o), .int (nI c), .int (nI k), .ref 185], gSh, M)) rfl ?_
      rw [hI_sub q x (by omega)]
      refine ok_call (mi := 239) (as := [.ref 185, .int (nI k), .int (nI c), .int (nI o)]) (pc' := 171) (L' := [(5, .int (nI (q - x))), (8, .int (nI o)), (7, .int (nI k)), (6, .int (nI b)), (4, .int (nI c)), (3, .int y3), (2, .int y2), (0, .ref 185), (1, .int (nI 21))]) (st' := []) (sh' := gSh) (M' := M) (i := .invokevirtual 349) (len := 3) rfl rfl ?_
      refine ((hL2.deep (by omega))).mono ?_
      rintro v hp ⟨rfl, rfl⟩
      refine ok_seq 3 (σ' := (177, [(4, .int (nI y)), (5, .int (nI (q - x))), (8, .int (nI o)), (7, .int (nI k)), (6, .int (nI b)), (3, .int y3), (2, .int y2), (0, .ref 185), (1, .int (nI 21))], [.int (nI b), .int (nI o)], gSh, M)) rfl ?_
      refine ok_call (mi := 226) (as := [.int (nI o), .int (nI b)]) (pc' := 180) (L' := [(4, .int (nI y)), (5, .int (nI (q - x))), (8, .int (nI o)), (7, .int (nI k)), (6, .int (nI b)), (3, .int y3), (2, .int y2), (0, .ref 185), (1, .int (nI 21))]) (st' := []) (sh' := gSh) (M' := M) (i := .invokestatic 322) (len := 3) rfl rfl ?_
      refine (((c_fires (d := 0) ho hb).deep (by omega))).mono ?_
      rintro v hp ⟨rfl, rfl⟩
      refine ok_seq 3 (σ' := (119, [(7, .int ((nI k) + (Int32.ofInt 1))), (6, .int (nI (fB o b))), (4, .int (nI y)), (5, .int (nI (q - x))), (8, .int (nI o)), (3, .int y3), (2, .int y2), (0, .ref 185), (1, .int (nI 21))], [], gSh, M)) rfl ?_
      rw [cI_1, hI_add k 1]
      exact nxt _ ⟨nI o, rfl⟩
    · refine ok_seq 4 (σ' := (125, [(7, .int (nI k)), (6, .int (nI b)), (4, .int (nI c)), (5, .int (nI q)), (8, .int y8), (3, .int y3), (2, .int y2), (0, .ref 185), (1, .int (nI 21))], [.int ((nI 21) - ((Int8.ofInt 10).toInt32)), .int (nI k)], gSh, M)) rfl ?_
      rw [(show (Int8.ofInt 10).toInt32 = nI 10 by decide), hI_sub 21 10 (by omega)]
      refine ok_icmp 188 rfl rfl (fun hz => absurd hz (by simp only [pCP]; rw [hI_int (a := k) (by omega), hI_int (a := 21 - 10) (by omega)]; omega)) (fun _ => ?_)
      refine ok_seq 5 (σ' := (137, [(7, .int (nI k)), (6, .int (nI b)), (4, .int (nI c)), (5, .int (nI q)), (8, .int y8), (3, .int y3), (2, .int y2), (0, .ref 185), (1, .int (nI 21))], [.int (nI b), .int (nI q), .int (nI c), .int (nI k), .ref 185], gSh, M)) rfl ?_
      refine ok_call (mi := 242) (as := [.ref 185, .int (nI k), .int (nI c), .int (nI q), .int (nI b)]) (pc' := 140) (L' := [(7, .int (nI k)), (6, .int (nI b)), (4, .int (nI c)), (5, .int (nI q)), (8, .int y8), (3, .int y3), (2, .int y2), (0, .ref 185), (1, .int (nI 21))]) (st' := []) (sh' := gSh) (M' := M) (i := .invokevirtual 361) (len := 3) rfl rfl ?_
      refine ((hB.deep (by omega))).mono ?_
      rintro v hp ⟨rfl, rfl⟩
      refine ok_seq 8 (σ' := (155, [(8, .int (nI o)), (7, .int (nI k)), (6, .int (nI b)), (4, .int (nI c)), (5, .int (nI q)), (3, .int y3), (2, .int y2), (0, .ref 185), (1, .int (nI 21))], [.int (nI o), .int (nI b), .int (nI q), .int (nI c), .int (nI k), .ref 185, .int (nI q)], gSh, M)) rfl ?_
      refine ok_call (mi := 238) (as := [.ref 185, .int (nI k), .int (nI c), .int (nI q), .int (nI b), .int (nI o)]) (pc' := 158) (L' := [(8, .int (nI o)), (7, .int (nI k)), (6, .int (nI b)), (4, .int (nI c)), (5, .int (nI q)), (3, .int y3), (2, .int y2), (0, .ref 185), (1, .int (nI 21))]) (st' := [.int (nI q)]) (sh' := gSh) (M' := M) (i := .invokevirtual 345) (len := 3) rfl rfl ?_
      refine ((hC.deep (by omega))).mono ?_
      rintro v hp ⟨rfl, rfl⟩
      refine ok_seq 6 (σ' := (168, [(5, .int ((nI q) - (nI x))), (8, .int (nI o)), (7, .int (nI k)), (6, .int (nI b)), (4, .int (nI c)), (3, .int y3), (2, .int y2), (0, .ref 185), (1, .int (nI 21))], [.int (nI o), .int (nI c), .int (nI k), .ref 185], gSh, M)) rfl ?_
      rw [hI_sub q x (by omega)]
      refine ok_call (mi := 239) (as := [.ref 185, .int (nI k), .int (nI c), .int (nI o)]) (pc' := 171) (L' := [(5, .int (nI (q - x))), (8, .int (nI o)), (7, .int (nI k)), (6, .int (nI b)), (4, .int (nI c)), (3, .int y3), (2, .int y2), (0, .ref 185), (1, .int (nI 21))]) (st' := []) (sh' := gSh) (M' := M) (i := .invokevirtual 349) (len := 3) rfl rfl ?_
      refine ((hL2.deep (by omega))).mono ?_
      rintro v hp ⟨rfl, rfl⟩
      refine ok_seq 3 (σ' := (177, [(4, .int (nI y)), (5, .int (nI (q - x))), (8, .int (nI o)), (7, .int (nI k)), (6, .int (nI b)), (3, .int y3), (2, .int y2), (0, .ref 185), (1, .int (nI 21))], [.int (nI b), .int (nI o)], gSh, M)) rfl ?_
      refine ok_call (mi := 226) (as := [.int (nI o), .int (nI b)]) (pc' := 180) (L' := [(4, .int (nI y)), (5, .int (nI (q - x))), (8, .int (nI o)), (7, .int (nI k)), (6, .int (nI b)), (3, .int y3), (2, .int y2), (0, .ref 185), (1, .int (nI 21))]) (st' := []) (sh' := gSh) (M' := M) (i := .invokestatic 322) (len := 3) rfl rfl ?_
      refine (((c_fires (d := 0) ho hb).deep (by omega))).mono ?_
      rintro v hp ⟨rfl, rfl⟩
      refine ok_seq 3 (σ' := (119, [(7, .int ((nI k) + (Int32.ofInt 1))), (6, .int (nI (fB o b))), (4, .int (nI y)), (5, .int (nI (q - x))), (8, .int (nI o)), (3, .int y3), (2, .int y2), (0, .ref 185), (1, .int (nI 21))], [], gSh, M)) rfl ?_
      rw [cI_1, hI_add k 1]
      exact nxt _ ⟨nI o, rfl⟩
theorem h_soon21 {τ : fT} {S : pScr} {d : Nat} (hT : pQ τ) (hH : QH τ S d) : cnOk τ S (d + 5) 247 ([(1, 0, 0, [185]), (0, 21, 21, [])], [eA], some [191, 192, 193, 194, 195, 196, 197], [], []) := by
  intro vs M hvs hM hg hf
  match vs, hvs with
  | [v0, v1], ⟨k0, ⟨x1, k1, x2, x3⟩, _⟩ =>
    have k0 := ty_ref k0
    have k1 : v1 = .int x1 := k1
    have x2 : (21 : Int) ≤ x1.toInt := x2
    have x3 : x1.toInt ≤ (21 : Int) := x3
    obtain rfl : x1 = nI 21 := Int32.toInt_inj.mp (by rw [show (nI 21).toInt = 21 by decide]; omega)
    subst k0 k1
    have post : ∀ (r : Option Value) (hp : pHp), (fun r hp => hp.1 = gSh ∧ (∃ z : Int32, r = some (.int z)) ∧ tyM (tOf τ) hp.2 ∧ frm (some [191, 192, 193, 194, 195, 196, 197]) M hp.2) r hp → (hp.1 = gSh ∧ tyM (tOf τ) hp.2 ∧ satS [eA] r.toList ∧ frm (some [191, 192, 193, 194, 195, 196, 197]) M hp.2 ∧ fctM [] hp.2) := by
      rintro r hp ⟨q1, ⟨z, rfl⟩, q3, q4⟩
      exact ⟨q1, q3, ⟨sat_a z, trivial⟩, q4, fun q hq => by cases hq⟩
    refine cOk.mono ?_ post
    have r3 := ty_ref (pqy hT hM 0 rfl rfl)
    obtain ⟨f, hf1, ef⟩ := ty_nat (pqy hT hM 13 rfl rfl)
    obtain ⟨g, hg1, eg⟩ := ty_nat (pqy hT hM 12 rfl rfl)
    refine c_of_ok (Nat.le_of_ble_eq_true rfl) ?_
    refine ok_seq 2 (σ' := (2, [(0, .ref 185), (1, .int (nI 21))], [.int (Int32.ofInt 0), .ref 185], gSh, M)) rfl ?_
    rw [cI_0]
    refine ok_call (mi := 227) (as := [.ref 185, .int (nI 0)]) (pc' := 5) (L' := [(0, .ref 185), (1, .int (nI 21))]) (st' := []) (sh' := gSh) (M' := M) (i := .invokevirtual 313) (len := 3) rfl rfl ?_
    refine (((c_isFreeA (d := 0) r3 ef (by omega) eg (by omega)).deep (by omega))).mono ?_
    rintro v hp ⟨⟨fr, hfr, rfl⟩, rfl⟩
    refine ok_if 28 rfl rfl ?_ ?_
    · intro hfr0
      simp only [pCP] at hfr0
      rw [hI_int (a := fr) (by omega)] at hfr0
      have hfr0 : ((fr : Nat) : Int) = (0 : Int) := by omega
      refine ok_seq 1 (σ' := (29, [(0, .ref 185), (1, .int (nI 21))], [.int mI], gSh, M)) rfl ?_
      exact ok_ret (i := .ireturn) (len := 1) rfl rfl ⟨_, rfl, rfl, ⟨mI, rfl⟩, hM, frm.rf _ _⟩
    · intro hfr0
      simp only [pCP] at hfr0
      rw [hI_int (a := fr) (by omega)] at hfr0
      have hfr0 : ((fr : Nat) : Int) ≠ (0 : Int) := by omega
      refine ok_seq 3 (σ' := (11, [(0, .ref 185), (1, .int (nI 21))], [.int (Int32.ofInt 1), .int (Int32.ofInt 0), .int (nI 21)], gSh, M)) rfl ?_
      rw [cI_0, cI_1]
      refine ok_call (mi := 158) (as := [.int (nI 21), .int (nI 0), .int (nI 1)]) (pc' := 14) (L' := [(0, .ref 185), (1, .int (nI 21))]) (st' := []) (sh' := gSh) (M' := M) (i := .invokestatic 90) (len := 3) rfl rfl ?_
      refine (((c_isIn (d := 0)).deep (by omega))).mono ?_
      rintro v hp ⟨hv, rfl⟩
      rcases hv with ⟨-, q1, q2⟩ | ⟨rfl, -⟩
      · rw [show (nI 21).toInt = 21 by decide, show (nI 1).toInt = 1 by decide] at q2
        omega
      refine ok_if 30 rfl rfl (fun hz => absurd hz (by simp only [pCP]; rw [hI_int (a := 0) (by omega)]; omega)) (fun _ => ?_)
      refine ok_seq 3 (σ' := (22, [(0, .ref 185), (1, .int (nI 21))], [.int ((Int8.ofInt 21).toInt32), .int ((Int8.ofInt 10).toInt32), .int (nI 21)], gSh, M)) rfl ?_
      rw [(show (Int8.ofInt 10).toInt32 = nI 10 by decide), (show (Int8.ofInt 21).toInt32 = nI 21 by decide)]
      refine ok_call (mi := 158) (as := [.int (nI 21), .int (nI 10), .int (nI 21)]) (pc' := 25) (L' := [(0, .ref 185), (1, .int (nI 21))]) (st' := []) (sh' := gSh) (M' := M) (i := .invokestatic 90) (len := 3) rfl rfl ?_
      refine (((c_isIn (d := 0)).deep (by omega))).mono ?_
      rintro v hp ⟨hv, rfl⟩
      have hv' : v = some (.int (nI 1)) := by
        rcases hv with ⟨h, -⟩ | ⟨-, hz⟩
        · exact h
        · exact absurd ⟨by decide, by decide⟩ hz
      subst hv'
      refine ok_if 30 rfl rfl (fun _ => ?_) (fun hz => absurd (by simp only [pCP]; rw [hI_int (a := 1) (by omega)]; omega) hz)
      refine ok_seq 1 (σ' := (31, [(0, .ref 185), (1, .int (nI 21))], [.ref 185], gSh, M)) rfl ?_
      refine ok_call (mi := 243) (as := [.ref 185]) (pc' := 34) (L' := [(0, .ref 185), (1, .int (nI 21))]) (st' := []) (sh' := gSh) (M' := M) (i := .invokevirtual 364) (len := 3) rfl rfl ?_
      refine ((c_findF hT hH hM hg)).mono ?_
      rintro v ⟨sh2, M2⟩ ⟨rfl, hsh, M1, n, hf1, hM1, hn, hE⟩
      have hsh : sh2 = gSh := hsh
      subst hsh
      have hE : fEn τ S d M1 n M2 := hE
      have hg1 : gR M1 := gR_keep hf1.2.1 hf1.2.2.1 hf1.2.2.2 hg
      have hg2 : gR M2 := offM_g hE.1 hg1
      have hfr2 : ∀ M3 : pMem, offM M2 M3 → frm (some [191, 192, 193, 194, 195, 196, 197]) M M3 := by
        intro M3 h3
        have e : ∀ o, o ≠ 197 → M3 o = M1 o := fun o ho => (h3 o ho).trans (hE.1 o ho)
        refine ⟨fun o ho => ?_, (e 188 (by decide)).trans hf1.2.1, (e 187 (by decide)).trans hf1.2.2.1, fun k hk => by rw [e 186 (by decide)]; exact hf1.2.2.2 k hk⟩
        have e9 : o ≠ 197 := fun hz => ho (by rw [hz]; decide)
        rw [e o e9]
        exact hf1.1 o (fun hz => ho (List.mem_append_left [197] hz))
      have r3' := ty_ref (pqy hT hE.2.1 0 rfl rfl)
      have r31 := ty_ref (pqy hT hE.2.1 3 rfl rfl)
      obtain ⟨c, hc, ec⟩ := ty_nat (pqy hT hE.2.1 9 rfl rfl)
      obtain ⟨q, hq, eq⟩ := ty_nat (pqy hT hE.2.1 10 rfl rfl)
      obtain ⟨b, hb, eb⟩ := ty_nat (pqy hT hE.2.1 11 rfl rfl)
      have hlt := sX_lt (k := 0) (c := c) (q := q) (b := b) (by omega) (by omega) (by omega)
      obtain ⟨v, ev⟩ := pq_out hT hE.2.1 (i := sX 0 c q b) (by omega)
      refine ok_seq 2 (σ' := (38, [(0, .ref 185), (1, .int (nI 21))], [M2 185 31], gSh, M2)) rfl ?_
      rw [r31]
      refine ok_seq 2 (σ' := (40, [(0, .ref 185), (1, .int (nI 21))], [.ref 185, .int (Int32.ofInt 0), .ref 197], gSh, M2)) rfl ?_
      rw [cI_0]
      refine ok_call (mi := 244) (as := [.ref 185]) (pc' := 43) (L' := [(0, .ref 185), (1, .int (nI 21))]) (st' := [.int (nI 0), .ref 197]) (sh' := gSh) (M' := M2) (i := .invokevirtual 367) (len := 3) rfl rfl ?_
      refine (((c_shipCell (d := 0) r3' ec).deep (by omega))).mono ?_
      rintro v hp ⟨rfl, rfl⟩
      refine ok_seq 1 (σ' := (44, [(0, .ref 185), (1, .int (nI 21))], [.ref 185, .int (nI c), .int (nI 0), .ref 197], gSh, M2)) rfl ?_
      refine ok_call (mi := 245) (as := [.ref 185]) (pc' := 47) (L' := [(0, .ref 185), (1, .int (nI 21))]) (st' := [.int (nI c), .int (nI 0), .ref 197]) (sh' := gSh) (M' := M2) (i := .invokevirtual 370) (len := 3) rfl rfl ?_
      refine (((c_shipCoal (d := 0) r3' eq).deep (by omega))).mono ?_
      rintro v hp ⟨rfl, rfl⟩
      refine ok_seq 1 (σ' := (48, [(0, .ref 185), (1, .int (nI 21))], [.ref 185, .int (nI q), .int (nI c), .int (nI 0), .ref 197], gSh, M2)) rfl ?_
      refine ok_call (mi := 246) (as := [.ref 185]) (pc' := 51) (L' := [(0, .ref 185), (1, .int (nI 21))]) (st' := [.int (nI q), .int (nI c), .int (nI 0), .ref 197]) (sh' := gSh) (M' := M2) (i := .invokevirtual 373) (len := 3) rfl rfl ?_
      refine (((c_shipBank (d := 0) r3' eb).deep (by omega))).mono ?_
      rintro v hp ⟨rfl, rfl⟩
      refine ok_call (mi := 240) (as := [.int (nI 0), .int (nI c), .int (nI q), .int (nI b)]) (pc' := 54) (L' := [(0, .ref 185), (1, .int (nI 21))]) (st' := [.ref 197]) (sh' := gSh) (M' := M2) (i := .invokestatic 352) (len := 3) rfl rfl ?_
      refine (((c_stN (d := 0) 0 c q b).deep (by omega))).mono ?_
      rintro v hp ⟨rfl, rfl⟩
      refine ok_iald (n := 93600) (v := v) rfl rfl (hI_in (by omega) (by decide)) (by rw [hI_nat (by omega)]; exact ev) ?_
      refine ok_seq 2 (σ' := (57, [(2, .int v), (0, .ref 185), (1, .int (nI 21))], [.int v], gSh, M2)) rfl ?_
      refine ok_if 62 rfl rfl ?_ ?_
      · intro hv0
        simp only [pCP] at hv0
        have hv0 : (v).toInt ≥ (0 : Int) := by omega
        refine ok_seq 2 (σ' := (65, [(2, .int v), (0, .ref 185), (1, .int (nI 21))], [.int ((Int8.ofInt 100).toInt32), .int v], gSh, M2)) rfl ?_
        rw [(show (Int8.ofInt 100).toInt32 = nI 100 by decide)]
        refine ok_idiv rfl (by decide) ?_
        refine ok_seq 3 (σ' := (69, [(3, .int (v / nI 100)), (2, .int v), (0, .ref 185), (1, .int (nI 21))], [.int (Int32.ofInt 2), .int (nI 21)], gSh, M2)) rfl ?_
        rw [cI_2]
        refine ok_icmp 88 rfl rfl (fun _ => ?_) (fun hz => absurd (by simp only [pCP]; rw [hI_int (a := 21) (by omega), hI_int (a := 2) (by omega)]; omega) hz)
        refine ok_seq 4 (σ' := (93, [(3, .int (v / nI 100)), (2, .int v), (0, .ref 185), (1, .int (nI 21))], [.int (v / nI 100), .int ((nI 21) - ((Int8.ofInt 10).toInt32))], gSh, M2)) rfl ?_
        rw [(show (Int8.ofInt 10).toInt32 = nI 10 by decide), hI_sub 21 10 (by omega)]
        refine ok_icmp 98 rfl rfl ?_ ?_
        · intro hw
          simp only [pCP] at hw
          rw [hI_int (a := 21 - 10) (by omega)] at hw
          have hw : ((21 - 10 : Nat) : Int) < (v / nI 100).toInt := by omega
          have hv12 : 1200 ≤ v.toInt := by
            obtain ⟨m, m1, m2, m3⟩ := i32_nat (x := v) (by omega)
            rw [m2, pk_div m1 (by omega) (by omega), hI_int (by omega)] at hw
            omega
          refine ok_seq 1 (σ' := (99, [(3, .int (v / nI 100)), (2, .int v), (0, .ref 185), (1, .int (nI 21))], [.ref 185], gSh, M2)) rfl ?_
          refine ok_call (mi := 244) (as := [.ref 185]) (pc' := 102) (L' := [(3, .int (v / nI 100)), (2, .int v), (0, .ref 185), (1, .int (nI 21))]) (st' := []) (sh' := gSh) (M' := M2) (i := .invokevirtual 367) (len := 3) rfl rfl ?_
          refine (((c_shipCell (d := 0) r3' ec).deep (by omega))).mono ?_
          rintro v hp ⟨rfl, rfl⟩
          refine ok_seq 2 (σ' := (105, [(4, .int (nI c)), (3, .int (v / nI 100)), (2, .int v), (0, .ref 185), (1, .int (nI 21))], [.ref 185], gSh, M2)) rfl ?_
          refine ok_call (mi := 245) (as := [.ref 185]) (pc' := 108) (L' := [(4, .int (nI c)), (3, .int (v / nI 100)), (2, .int v), (0, .ref 185), (1, .int (nI 21))]) (st' := []) (sh' := gSh) (M' := M2) (i := .invokevirtual 370) (len := 3) rfl rfl ?_
          refine (((c_shipCoal (d := 0) r3' eq).deep (by omega))).mono ?_
          rintro v hp ⟨rfl, rfl⟩
          refine ok_seq 2 (σ' := (111, [(5, .int (nI q)), (4, .int (nI c)), (3, .int (v / nI 100)), (2, .int v), (0, .ref 185), (1, .int (nI 21))], [.ref 185], gSh, M2)) rfl ?_
          refine ok_call (mi := 246) (as := [.ref 185]) (pc' := 114) (L' := [(5, .int (nI q)), (4, .int (nI c)), (3, .int (v / nI 100)), (2, .int v), (0, .ref 185), (1, .int (nI 21))]) (st' := []) (sh' := gSh) (M' := M2) (i := .invokevirtual 373) (len := 3) rfl rfl ?_
          refine (((c_shipBank (d := 0) r3' eb).deep (by omega))).mono ?_
          rintro v hp ⟨rfl, rfl⟩
          refine ok_seq 3 (σ' := (119, [(7, .int (Int32.ofInt 0)), (6, .int (nI b)), (5, .int (nI q)), (4, .int (nI c)), (3, .int (v / nI 100)), (2, .int v), (0, .ref 185), (1, .int (nI 21))], [], gSh, M2)) rfl ?_
          rw [cI_0]
          have hfin := soo_walk (S := S) (d := d) (M := M2) (y2 := v) (y3 := v / nI 100) hT hH hg2 hn hE 11 0 c q b v _ (by omega) (by omega) (by omega) (by omega) (by omega) ev (by omega) (Or.inl rfl)
          refine hfin.mono ?_
          rintro i len τ' ⟨w, g1, g2, g3, g4, g5⟩
          exact ⟨w, g1, g2, g3, g4, hfr2 _ g5⟩
        · intro hw
          simp only [pCP] at hw
          rw [hI_int (a := 21 - 10) (by omega)] at hw
          have hw : ((21 - 10 : Nat) : Int) ≥ (v / nI 100).toInt := by omega
          refine ok_seq 1 (σ' := (97, [(3, .int (v / nI 100)), (2, .int v), (0, .ref 185), (1, .int (nI 21))], [.int mI], gSh, M2)) rfl ?_
          exact ok_ret (i := .ireturn) (len := 1) rfl rfl ⟨_, rfl, rfl, ⟨mI, rfl⟩, hE.2.1, hfr2 M2 (fun _ _ => rfl)⟩
      · intro hv0
        simp only [pCP] at hv0
        have hv0 : (v).toInt < (0 : Int) := by omega
        refine ok_seq 1 (σ' := (61, [(2, .int v), (0, .ref 185), (1, .int (nI 21))], [.int mI], gSh, M2)) rfl ?_
        exact ok_ret (i := .ireturn) (len := 1) rfl rfl ⟨_, rfl, rfl, ⟨mI, rfl⟩, hE.2.1, hfr2 M2 (fun _ _ => rfl)⟩

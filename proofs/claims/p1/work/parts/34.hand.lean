/-! by hand: findOut on a sea without a way out -/
def pSeq (S : pScr) (o : Nat) (ini : Bool) (nL : Nat) (code : Nat → Option (Instr × Nat)) : Nat → pSt → Option pSt
  | 0, σ => some σ
  | k + 1, (pc, L, st, sh, M) => match code pc with
    | none => none
    | some (i, len) => match pstep S o ini nL i len pc L st sh M with
      | some (.inl σ) => pSeq S o ini nL code k σ
      | _ => none
section HAND
variable {S : pScr} {o nL d pc : Nat} {ini : Bool} {code : Nat → Option (Instr × Nat)} {Post : Instr → Nat → pSt → Prop} {L : pLs} {st : List Value} {sh : pSh} {M : pMem}
theorem ok_seq (k : Nat) {σ σ' : pSt} (h : pSeq S o ini nL code k σ = some σ') (hk : pOk S o ini nL code d Post σ') : pOk S o ini nL code d Post σ := by
  induction k generalizing σ with
  | zero =>
    have h : some σ = some σ' := h
    cases h
    exact hk
  | succ k ih =>
    obtain ⟨pc, L, st, sh, M⟩ := σ
    unfold pSeq at h
    split at h
    · cases h
    · rename_i i len hc
      split at h
      · rename_i σ1 hs
        exact ok_step hc hs (ih h)
      · cases h
theorem i32_lt {x y : Int32} (h : x.toInt < y.toInt) : ¬ y ≤ x := by
  rw [Int32.le_iff_toInt_le]
  omega
theorem ok_ge_n {x y : Int32} {off : Int} (hc : code pc = some (.if_icmp .ge off, 3)) (h1 : 0 ≤ (pc : Int) + off) (h2 : x.toInt < y.toInt) (hk : pOk S o ini nL code d Post (pc + 3, L, st, sh, M)) : pOk S o ini nL code d Post (pc, L, .int y :: .int x :: st, sh, M) := by
  refine ok_step hc ?_ hk
  show pBr (pC .ge x y) pc off L st sh M = _
  have e : pC .ge x y = false := decide_eq_false (i32_lt h2)
  rw [e]
  unfold pBr
  rw [if_neg (by omega)]
  rfl
theorem ok_ge_y {x y : Int32} {off : Int} {t : Nat} (hc : code pc = some (.if_icmp .ge off, 3)) (h1 : (pc : Int) + off = (t : Int)) (h2 : y.toInt ≤ x.toInt) (hk : pOk S o ini nL code d Post (t, L, st, sh, M)) : pOk S o ini nL code d Post (pc, L, .int y :: .int x :: st, sh, M) := by
  refine ok_step hc ?_ hk
  show pBr (pC .ge x y) pc off L st sh M = _
  have e : pC .ge x y = true := decide_eq_true (Int32.le_iff_toInt_le.mpr h2)
  rw [e]
  unfold pBr
  rw [h1, if_neg (by omega)]
  show pGo ((t : Int).toNat) L st sh M = _
  rw [Int.toNat_natCast]
  rfl
theorem ok_lt_n {x : Int32} {off : Int} (hc : code pc = some (.ifCond .lt off, 3)) (h1 : 0 ≤ (pc : Int) + off) (h2 : 0 ≤ x.toInt) (hk : pOk S o ini nL code d Post (pc + 3, L, st, sh, M)) : pOk S o ini nL code d Post (pc, L, .int x :: st, sh, M) := by
  refine ok_step hc ?_ hk
  show pBr (pC .lt x 0) pc off L st sh M = _
  have e : pC .lt x 0 = false := decide_eq_false (by rw [Int32.lt_iff_toInt_lt]; show ¬ _ < (0 : Int); omega)
  rw [e]
  unfold pBr
  rw [if_neg (by omega)]
  rfl
theorem ok_lt_y {x : Int32} {off : Int} {t : Nat} (hc : code pc = some (.ifCond .lt off, 3)) (h1 : (pc : Int) + off = (t : Int)) (h2 : x.toInt < 0) (hk : pOk S o ini nL code d Post (t, L, st, sh, M)) : pOk S o ini nL code d Post (pc, L, .int x :: st, sh, M) := by
  refine ok_step hc ?_ hk
  show pBr (pC .lt x 0) pc off L st sh M = _
  have e : pC .lt x 0 = true := decide_eq_true (by rw [Int32.lt_iff_toInt_lt]; show _ < (0 : Int); omega)
  rw [e]
  unfold pBr
  rw [h1, if_neg (by omega)]
  show pGo ((t : Int).toNat) L st sh M = _
  rw [Int.toNat_natCast]
  rfl
end HAND
theorem hI_int {a : Nat} (h : a < 2147483648) : (nI a).toInt = (a : Int) := by
  rw [← i32_nI]
  exact i32_of (by show (-2147483648 : Int) ≤ (a : Int); omega) (by show (a : Int) ≤ 2147483647; omega)
theorem hI_nat {a : Nat} (h : a < 2147483648) : (nI a).toNatClampNeg = a := by
  unfold Int32.toNatClampNeg
  rw [hI_int h]
  rfl
theorem hI_in {a n : Nat} (h : a < n) (hn : n < 2147483648) : pIn (nI a) n = true := by
  refine decide_eq_true ?_
  rw [hI_nat (by omega), Int32.lt_iff_toInt_lt, hI_int (by omega)]
  rintro (h1 | h1)
  · have h1 : (a : Int) < 0 := h1
    omega
  · omega
theorem hI_add (a b : Nat) : nI a + nI b = nI (a + b) := (Int32.ofNat_add a b).symm
theorem hI_mul (a b : Nat) : nI a * nI b = nI (a * b) := (Int32.ofNat_mul a b).symm
theorem hI_1 : Int32.ofInt 1 = nI 1 := by decide
theorem hI_0 : Int32.ofInt 0 = nI 0 := by decide
theorem hI_2 : Int32.ofInt 2 = nI 2 := by decide
theorem hI_8 : (Int8.ofInt 8).toInt32 = nI 8 := by decide
theorem hI_36 : (Int8.ofInt 36).toInt32 = nI 36 := by decide
theorem hI_100 : (Int8.ofInt 100).toInt32 = nI 100 := by decide
abbrev mI : Int32 := Int32.ofInt (-1)
theorem mI_lt : mI.toInt < 0 := by decide
theorem hI_dec {a : Nat} : nI (a + 1) - Int32.ofInt 1 = nI a := by
  rw [← hI_add, hI_1, Int32.add_sub_cancel]
theorem hI_dec2 {a : Nat} : nI (a + 1) + mI = nI a := by
  rw [← hI_dec (a := a), Int32.sub_eq_add_neg]
  rfl
/-- where a state's answer lies -/
def sX (k c a b : Nat) : Nat := ((k * 36 + c) * 100 + a) * 2 + b
theorem sX_nI (k c a b : Nat) : ((nI k * (Int8.ofInt 36).toInt32 + nI c) * (Int8.ofInt 100).toInt32 + nI a) * Int32.ofInt 2 + nI b = nI (sX k c a b) := by
  rw [hI_36, hI_100, hI_2, hI_mul, hI_add, hI_mul, hI_add, hI_mul, hI_add]
  rfl
theorem c_st {S : pScr} {d : Nat} (k c a b : Int32) (sh : pSh) (M : pMem) : cOk S (d + 1) 240 [.int k, .int c, .int a, .int b] (sh, M) (fun v hp => v = some (.int (((k * (Int8.ofInt 36).toInt32 + c) * (Int8.ofInt 100).toInt32 + a) * Int32.ofInt 2 + b)) ∧ hp = (sh, M)) := by
  refine c_of_ok (Nat.le_of_ble_eq_true rfl) ?_
  refine ok_seq 13 (σ' := (15, [(0, .int k), (1, .int c), (2, .int a), (3, .int b)], [.int (((k * (Int8.ofInt 36).toInt32 + c) * (Int8.ofInt 100).toInt32 + a) * Int32.ofInt 2 + b)], sh, M)) rfl ?_
  exact ok_ret (i := .ireturn) (len := 1) rfl rfl ⟨_, rfl, rfl, rfl⟩
theorem g197 : gSh[197]? = some (13, 93600) := by decide +kernel
theorem g186 : gSh[186]? = some (13, 280) := by decide +kernel

theorem best_it0 {S : pScr} {d k c a b j : Nat} {M : pMem} {Q : Option Value → pHp → Prop} (HO : ∀ j, j < 8 → cOk S d 241 [.ref 185, .int (nI k), .int (nI c), .int (nI a), .int (nI b), .int (nI j)] (gSh, M) (fun v hp => v = some (.int mI) ∧ hp = (gSh, M))) (hj : j < 8)
    (hk : pOk S 12 false 9 (pCode 242) d (fun i len τ => ∃ v, pRet (some .int) i len τ.2.2.1 = some v ∧ Q v (τ.2.2.2.1, τ.2.2.2.2)) (9, [(7, .int (nI (j + 1))), (8, .int mI), (6, .int mI), (5, .int mI), (0, .ref 185), (1, .int (nI k)), (2, .int (nI c)), (3, .int (nI a)), (4, .int (nI b))], [], gSh, M)) : pOk S 12 false 9 (pCode 242) d (fun i len τ => ∃ v, pRet (some .int) i len τ.2.2.1 = some v ∧ Q v (τ.2.2.2.1, τ.2.2.2.2)) (9, [(7, .int (nI j)), (6, .int mI), (5, .int mI), (0, .ref 185), (1, .int (nI k)), (2, .int (nI c)), (3, .int (nI a)), (4, .int (nI b))], [], gSh, M) := by
  refine ok_seq 2 (σ' := (13, [(7, .int (nI j)), (6, .int mI), (5, .int mI), (0, .ref 185), (1, .int (nI k)), (2, .int (nI c)), (3, .int (nI a)), (4, .int (nI b))], [.int (Int8.ofInt 8).toInt32, .int (nI j)], gSh, M)) rfl ?_
  refine ok_ge_n (off := 50) rfl (by decide) (by rw [hI_8, hI_int (by omega), hI_int (by omega)]; omega) ?_
  refine ok_seq 6 (σ' := (24, [(7, .int (nI j)), (6, .int mI), (5, .int mI), (0, .ref 185), (1, .int (nI k)), (2, .int (nI c)), (3, .int (nI a)), (4, .int (nI b))], [.int (nI j), .int (nI b), .int (nI a), .int (nI c), .int (nI k), .ref 185], gSh, M)) rfl ?_
  refine ok_call (mi := 241) (as := [.ref 185, .int (nI k), .int (nI c), .int (nI a), .int (nI b), .int (nI j)]) (pc' := 27) (L' := [(7, .int (nI j)), (6, .int mI), (5, .int mI), (0, .ref 185), (1, .int (nI k)), (2, .int (nI c)), (3, .int (nI a)), (4, .int (nI b))]) (st' := []) (sh' := gSh) (M' := M) (i := .invokevirtual 355) (len := 3) rfl rfl ?_
  refine (HO j hj).mono ?_
  rintro v hp ⟨rfl, rfl⟩
  refine ok_seq 2 (σ' := (31, [(8, .int mI), (7, .int (nI j)), (6, .int mI), (5, .int mI), (0, .ref 185), (1, .int (nI k)), (2, .int (nI c)), (3, .int (nI a)), (4, .int (nI b))], [.int mI], gSh, M)) rfl ?_
  refine ok_lt_y (off := 26) (t := 57) rfl rfl mI_lt ?_
  refine ok_seq 2 (σ' := (9, [(7, .int (nI j + Int32.ofInt 1)), (8, .int mI), (6, .int mI), (5, .int mI), (0, .ref 185), (1, .int (nI k)), (2, .int (nI c)), (3, .int (nI a)), (4, .int (nI b))], [], gSh, M)) rfl ?_
  rw [hI_1, hI_add]
  exact hk
theorem best_it1 {S : pScr} {d k c a b j : Nat} {M : pMem} {Q : Option Value → pHp → Prop} (HO : ∀ j, j < 8 → cOk S d 241 [.ref 185, .int (nI k), .int (nI c), .int (nI a), .int (nI b), .int (nI j)] (gSh, M) (fun v hp => v = some (.int mI) ∧ hp = (gSh, M))) (hj : j < 8)
    (hk : pOk S 12 false 9 (pCode 242) d (fun i len τ => ∃ v, pRet (some .int) i len τ.2.2.1 = some v ∧ Q v (τ.2.2.2.1, τ.2.2.2.2)) (9, [(7, .int (nI (j + 1))), (8, .int mI), (6, .int mI), (5, .int mI), (0, .ref 185), (1, .int (nI k)), (2, .int (nI c)), (3, .int (nI a)), (4, .int (nI b))], [], gSh, M)) : pOk S 12 false 9 (pCode 242) d (fun i len τ => ∃ v, pRet (some .int) i len τ.2.2.1 = some v ∧ Q v (τ.2.2.2.1, τ.2.2.2.2)) (9, [(7, .int (nI j)), (8, .int mI), (6, .int mI), (5, .int mI), (0, .ref 185), (1, .int (nI k)), (2, .int (nI c)), (3, .int (nI a)), (4, .int (nI b))], [], gSh, M) := by
  refine ok_seq 2 (σ' := (13, [(7, .int (nI j)), (8, .int mI), (6, .int mI), (5, .int mI), (0, .ref 185), (1, .int (nI k)), (2, .int (nI c)), (3, .int (nI a)), (4, .int (nI b))], [.int (Int8.ofInt 8).toInt32, .int (nI j)], gSh, M)) rfl ?_
  refine ok_ge_n (off := 50) rfl (by decide) (by rw [hI_8, hI_int (by omega), hI_int (by omega)]; omega) ?_
  refine ok_seq 6 (σ' := (24, [(7, .int (nI j)), (8, .int mI), (6, .int mI), (5, .int mI), (0, .ref 185), (1, .int (nI k)), (2, .int (nI c)), (3, .int (nI a)), (4, .int (nI b))], [.int (nI j), .int (nI b), .int (nI a), .int (nI c), .int (nI k), .ref 185], gSh, M)) rfl ?_
  refine ok_call (mi := 241) (as := [.ref 185, .int (nI k), .int (nI c), .int (nI a), .int (nI b), .int (nI j)]) (pc' := 27) (L' := [(7, .int (nI j)), (8, .int mI), (6, .int mI), (5, .int mI), (0, .ref 185), (1, .int (nI k)), (2, .int (nI c)), (3, .int (nI a)), (4, .int (nI b))]) (st' := []) (sh' := gSh) (M' := M) (i := .invokevirtual 355) (len := 3) rfl rfl ?_
  refine (HO j hj).mono ?_
  rintro v hp ⟨rfl, rfl⟩
  refine ok_seq 2 (σ' := (31, [(8, .int mI), (7, .int (nI j)), (6, .int mI), (5, .int mI), (0, .ref 185), (1, .int (nI k)), (2, .int (nI c)), (3, .int (nI a)), (4, .int (nI b))], [.int mI], gSh, M)) rfl ?_
  refine ok_lt_y (off := 26) (t := 57) rfl rfl mI_lt ?_
  refine ok_seq 2 (σ' := (9, [(7, .int (nI j + Int32.ofInt 1)), (8, .int mI), (6, .int mI), (5, .int mI), (0, .ref 185), (1, .int (nI k)), (2, .int (nI c)), (3, .int (nI a)), (4, .int (nI b))], [], gSh, M)) rfl ?_
  rw [hI_1, hI_add]
  exact hk
theorem c_best {S : pScr} {d k c a b : Nat} {M : pMem} (hout : M 185 31 = .ref 197) (hx : sX k c a b < 93600) (HO : ∀ j, j < 8 → cOk S d 241 [.ref 185, .int (nI k), .int (nI c), .int (nI a), .int (nI b), .int (nI j)] (gSh, M) (fun v hp => v = some (.int mI) ∧ hp = (gSh, M))) (hd : 1 ≤ d) : cOk S (d + 1) 242 [.ref 185, .int (nI k), .int (nI c), .int (nI a), .int (nI b)] (gSh, M) (fun v hp => (∃ z, v = some (.int z)) ∧ hp = (gSh, pUp M 197 (sX k c a b) (.int mI))) := by
  refine c_of_ok (Nat.le_of_ble_eq_true rfl) ?_
  refine ok_seq 6 (σ' := (9, [(7, .int (Int32.ofInt 0)), (6, .int mI), (5, .int mI), (0, .ref 185), (1, .int (nI k)), (2, .int (nI c)), (3, .int (nI a)), (4, .int (nI b))], [], gSh, M)) rfl ?_
  rw [hI_0]
  refine best_it0 (j := 0) (Q := fun v hp => (∃ z, v = some (.int z)) ∧ hp = (gSh, pUp M 197 (sX k c a b) (.int mI))) HO (by decide) ?_
  refine best_it1 (j := 1) (Q := fun v hp => (∃ z, v = some (.int z)) ∧ hp = (gSh, pUp M 197 (sX k c a b) (.int mI))) HO (by decide) ?_
  refine best_it1 (j := 2) (Q := fun v hp => (∃ z, v = some (.int z)) ∧ hp = (gSh, pUp M 197 (sX k c a b) (.int mI))) HO (by decide) ?_
  refine best_it1 (j := 3) (Q := fun v hp => (∃ z, v = some (.int z)) ∧ hp = (gSh, pUp M 197 (sX k c a b) (.int mI))) HO (by decide) ?_
  refine best_it1 (j := 4) (Q := fun v hp => (∃ z, v = some (.int z)) ∧ hp = (gSh, pUp M 197 (sX k c a b) (.int mI))) HO (by decide) ?_
  refine best_it1 (j := 5) (Q := fun v hp => (∃ z, v = some (.int z)) ∧ hp = (gSh, pUp M 197 (sX k c a b) (.int mI))) HO (by decide) ?_
  refine best_it1 (j := 6) (Q := fun v hp => (∃ z, v = some (.int z)) ∧ hp = (gSh, pUp M 197 (sX k c a b) (.int mI))) HO (by decide) ?_
  refine best_it1 (j := 7) (Q := fun v hp => (∃ z, v = some (.int z)) ∧ hp = (gSh, pUp M 197 (sX k c a b) (.int mI))) HO (by decide) ?_
  refine ok_seq 2 (σ' := (13, [(7, .int (nI 8)), (8, .int mI), (6, .int mI), (5, .int mI), (0, .ref 185), (1, .int (nI k)), (2, .int (nI c)), (3, .int (nI a)), (4, .int (nI b))], [.int (Int8.ofInt 8).toInt32, .int (nI 8)], gSh, M)) rfl ?_
  refine ok_ge_y (off := 50) (t := 63) rfl rfl (by rw [hI_8]; exact Int.le_refl _) ?_
  refine ok_seq 2 (σ' := (67, [(7, .int (nI 8)), (8, .int mI), (6, .int mI), (5, .int mI), (0, .ref 185), (1, .int (nI k)), (2, .int (nI c)), (3, .int (nI a)), (4, .int (nI b))], [M 185 31], gSh, M)) rfl ?_
  rw [hout]
  refine ok_seq 4 (σ' := (72, [(7, .int (nI 8)), (8, .int mI), (6, .int mI), (5, .int mI), (0, .ref 185), (1, .int (nI k)), (2, .int (nI c)), (3, .int (nI a)), (4, .int (nI b))], [.int (nI b), .int (nI a), .int (nI c), .int (nI k), .ref 197], gSh, M)) rfl ?_
  refine ok_call (mi := 240) (as := [.int (nI k), .int (nI c), .int (nI a), .int (nI b)]) (pc' := 75) (L' := [(7, .int (nI 8)), (8, .int mI), (6, .int mI), (5, .int mI), (0, .ref 185), (1, .int (nI k)), (2, .int (nI c)), (3, .int (nI a)), (4, .int (nI b))]) (st' := [.ref 197]) (sh' := gSh) (M' := M) (i := .invokestatic 352) (len := 3) rfl rfl ?_
  obtain ⟨d', rfl⟩ : ∃ d', d = d' + 1 := ⟨d - 1, by omega⟩
  refine (c_st (nI k) (nI c) (nI a) (nI b) gSh M).mono ?_
  rintro v hp ⟨rfl, rfl⟩
  rw [sX_nI]
  refine ok_seq 1 (σ' := (77, [(7, .int (nI 8)), (8, .int mI), (6, .int mI), (5, .int mI), (0, .ref 185), (1, .int (nI k)), (2, .int (nI c)), (3, .int (nI a)), (4, .int (nI b))], [.int mI, .int (nI (sX k c a b)), .ref 197], gSh, M)) rfl ?_
  refine ok_step (i := .iastore) (len := 1) rfl (ins_iastore (pc := 77) (e0 := aIany) rfl [(7, .int (nI 8)), (8, .int mI), (6, .int mI), (5, .int mI), (0, .ref 185), (1, .int (nI k)), (2, .int (nI c)), (3, .int (nI a)), (4, .int (nI b))] M 197 (nI (sX k c a b)) 93600 [] (.int mI) gSh (satIany _) g197 (hI_in hx (by decide))) ?_
  rw [hI_nat (by omega)]
  refine ok_seq 1 (σ' := (80, [(7, .int (nI 8)), (8, .int mI), (6, .int mI), (5, .int mI), (0, .ref 185), (1, .int (nI k)), (2, .int (nI c)), (3, .int (nI a)), (4, .int (nI b))], [.int mI], gSh, pUp M 197 (sX k c a b) (.int mI))) rfl ?_
  exact ok_ret (i := .ireturn) (len := 1) rfl rfl ⟨_, rfl, ⟨_, rfl⟩, rfl⟩
/-- the first loop fills a row -/
theorem fo_fill {S : pScr} {d n : Nat} {Q : Option Value → pHp → Prop} (hn : n ≤ 3) (hd : 1 ≤ d) {M0 : pMem} (hout : M0 185 31 = .ref 197) (hk : ∀ M : pMem, (∀ o, o ≠ 197 → M o = M0 o) → (∀ j, M 197 j = M0 197 j ∨ M 197 j = .int mI) → (∀ j, j < 7200 → M 197 (7200 * n + j) = .int mI) → pOk S 12 false 6 (pCode 243) d (fun i len τ => ∃ v, pRet none i len τ.2.2.1 = some v ∧ Q v (τ.2.2.2.1, τ.2.2.2.2)) (45, [(2, .int (nI (7200 * (n + 1)))), (1, .int (nI n)), (0, .ref 185)], [], gSh, M)) :
    ∀ (t s : Nat), s + t = 7200 * (n + 1) → 7200 * n ≤ s → ∀ M : pMem, (∀ o, o ≠ 197 → M o = M0 o) → (∀ j, M 197 j = M0 197 j ∨ M 197 j = .int mI) → (∀ j, 7200 * n ≤ j → j < s → M 197 j = .int mI) → pOk S 12 false 6 (pCode 243) d (fun i len τ => ∃ v, pRet none i len τ.2.2.1 = some v ∧ Q v (τ.2.2.2.1, τ.2.2.2.2)) (19, [(2, .int (nI s)), (1, .int (nI n)), (0, .ref 185)], [], gSh, M) := by
  obtain ⟨d', rfl⟩ : ∃ d', d = d' + 1 := ⟨d - 1, by omega⟩
  have head : ∀ (s : Nat) (M : pMem), pOk S 12 false 6 (pCode 243) (d' + 1) (fun i len τ => ∃ v, pRet none i len τ.2.2.1 = some v ∧ Q v (τ.2.2.2.1, τ.2.2.2.2)) (29, [(2, .int (nI s)), (1, .int (nI n)), (0, .ref 185)], [.int (nI (7200 * (n + 1))), .int (nI s)], gSh, M) → pOk S 12 false 6 (pCode 243) (d' + 1) (fun i len τ => ∃ v, pRet none i len τ.2.2.1 = some v ∧ Q v (τ.2.2.2.1, τ.2.2.2.2)) (19, [(2, .int (nI s)), (1, .int (nI n)), (0, .ref 185)], [], gSh, M) := by
    intro s M h
    refine ok_seq 7 (σ' := (26, [(2, .int (nI s)), (1, .int (nI n)), (0, .ref 185)], [.int (Int32.ofInt 0), .int (Int32.ofInt 0), .int (Int32.ofInt 0), .int (nI n + Int32.ofInt 1), .int (nI s)], gSh, M)) rfl ?_
    refine ok_call (mi := 240) (as := [.int (nI n + Int32.ofInt 1), .int (Int32.ofInt 0), .int (Int32.ofInt 0), .int (Int32.ofInt 0)]) (pc' := 29) (L' := [(2, .int (nI s)), (1, .int (nI n)), (0, .ref 185)]) (st' := [.int (nI s)]) (sh' := gSh) (M' := M) (i := .invokestatic 352) (len := 3) rfl rfl ?_
    refine (c_st _ _ _ _ gSh M).mono ?_
    rintro v hp ⟨rfl, rfl⟩
    rw [hI_1, hI_0, hI_add, sX_nI, show sX (n + 1) 0 0 0 = 7200 * (n + 1) by unfold sX; omega]
    exact h
  intro t
  induction t with
  | zero =>
    intro s hs h0 M h1 h2 h3
    refine head s M ?_
    refine ok_ge_y (off := 16) (t := 45) rfl rfl (by rw [hI_int (by omega), hI_int (by omega)]; omega) ?_
    have e : s = 7200 * (n + 1) := by omega
    rw [e]
    exact hk M h1 h2 (fun j hj => h3 _ (by omega) (by omega))
  | succ t ih =>
    intro s hs h0 M h1 h2 h3
    refine head s M ?_
    refine ok_ge_n (off := 16) rfl (by decide) (by rw [hI_int (by omega), hI_int (by omega)]; omega) ?_
    refine ok_seq 2 (σ' := (36, [(2, .int (nI s)), (1, .int (nI n)), (0, .ref 185)], [M 185 31], gSh, M)) rfl ?_
    rw [h1 185 (by decide), hout]
    refine ok_seq 2 (σ' := (38, [(2, .int (nI s)), (1, .int (nI n)), (0, .ref 185)], [.int mI, .int (nI s), .ref 197], gSh, M)) rfl ?_
    refine ok_step (i := .iastore) (len := 1) rfl (ins_iastore (pc := 38) (e0 := aIany) rfl [(2, .int (nI s)), (1, .int (nI n)), (0, .ref 185)] M 197 (nI s) 93600 [] (.int mI) gSh (satIany _) g197 (hI_in (by omega) (by decide))) ?_
    rw [hI_nat (by omega)]
    refine ok_seq 2 (σ' := (19, [(2, .int (nI s + Int32.ofInt 1)), (1, .int (nI n)), (0, .ref 185)], [], gSh, pUp M 197 s (.int mI))) rfl ?_
    rw [hI_1, hI_add]
    refine ih (s + 1) (by omega) (by omega) _ (fun o ho => by rw [pUp_ne ho]; exact h1 o ho) (fun j => ?_) (fun j hj1 hj2 => ?_)
    · by_cases e : j = s
      · rw [e, pUp_self]
        exact Or.inr rfl
      · rw [pUp_other _ _ _ _ (fun z => e z.2)]
        exact h2 j
    · by_cases e : j = s
      · rw [e, pUp_self]
      · rw [pUp_other _ _ _ _ (fun z => e z.2)]
        exact h3 j hj1 (by omega)
/-- one state of the loops -/
theorem fo_b {S : pScr} {d n k c a b : Nat} {M : pMem} {Q : Option Value → pHp → Prop} (hb : b < 2) (HB : cOk S d 242 [.ref 185, .int (nI k), .int (nI c), .int (nI a), .int (nI b)] (gSh, M) (fun v hp => (∃ z, v = some (.int z)) ∧ hp = (gSh, pUp M 197 (sX k c a b) (.int mI))))
    (hk : pOk S 12 false 6 (pCode 243) d (fun i len τ => ∃ v, pRet none i len τ.2.2.1 = some v ∧ Q v (τ.2.2.2.1, τ.2.2.2.2)) (76, [(5, .int (nI (b + 1))), (4, .int (nI a)), (3, .int (nI c)), (2, .int (nI k)), (1, .int (nI n)), (0, .ref 185)], [], gSh, pUp M 197 (sX k c a b) (.int mI))) : pOk S 12 false 6 (pCode 243) d (fun i len τ => ∃ v, pRet none i len τ.2.2.1 = some v ∧ Q v (τ.2.2.2.1, τ.2.2.2.2)) (76, [(5, .int (nI b)), (4, .int (nI a)), (3, .int (nI c)), (2, .int (nI k)), (1, .int (nI n)), (0, .ref 185)], [], gSh, M) := by
  refine ok_seq 2 (σ' := (79, [(5, .int (nI b)), (4, .int (nI a)), (3, .int (nI c)), (2, .int (nI k)), (1, .int (nI n)), (0, .ref 185)], [.int (Int32.ofInt 2), .int (nI b)], gSh, M)) rfl ?_
  refine ok_ge_n (off := 20) rfl (by decide) (by rw [hI_2, hI_int (by omega), hI_int (by omega)]; omega) ?_
  refine ok_seq 5 (σ' := (89, [(5, .int (nI b)), (4, .int (nI a)), (3, .int (nI c)), (2, .int (nI k)), (1, .int (nI n)), (0, .ref 185)], [.int (nI b), .int (nI a), .int (nI c), .int (nI k), .ref 185], gSh, M)) rfl ?_
  refine ok_call (mi := 242) (as := [.ref 185, .int (nI k), .int (nI c), .int (nI a), .int (nI b)]) (pc' := 92) (L' := [(5, .int (nI b)), (4, .int (nI a)), (3, .int (nI c)), (2, .int (nI k)), (1, .int (nI n)), (0, .ref 185)]) (st' := []) (sh' := gSh) (M' := M) (i := .invokevirtual 361) (len := 3) rfl rfl ?_
  refine HB.mono ?_
  rintro v hp ⟨⟨z, rfl⟩, rfl⟩
  refine ok_seq 3 (σ' := (76, [(5, .int (nI b + Int32.ofInt 1)), (4, .int (nI a)), (3, .int (nI c)), (2, .int (nI k)), (1, .int (nI n)), (0, .ref 185)], [], gSh, pUp M 197 (sX k c a b) (.int mI))) rfl ?_
  rw [hI_1, hI_add]
  exact hk
/-- what is known at a state of the loops -/
def foI (cl n : Nat) (M0 : pMem) (k c a : Nat) (M : pMem) : Prop := (∀ o, o ≠ 197 → M o = M0 o) ∧ (∀ j, M 197 j = M0 197 j ∨ M 197 j = .int mI) ∧ (∀ r, k < r → r ≤ n → ∀ j, j < 200 * cl → M 197 (7200 * r + j) = .int mI) ∧ ∀ j, j < 200 * c + 2 * a → M 197 (7200 * k + j) = .int mI
theorem foI_two {cl n k c a : Nat} {M0 M : pMem} (hcl : cl ≤ 36) (hc : c < cl) (ha : a < 100) (h : foI cl n M0 k c a M) : foI cl n M0 k c (a + 1) (pUp (pUp M 197 (sX k c a 0) (.int mI)) 197 (sX k c a 1) (.int mI)) := by
  obtain ⟨h1, h2, h3, h4⟩ := h
  have up : ∀ j, pUp (pUp M 197 (sX k c a 0) (.int mI)) 197 (sX k c a 1) (.int mI) 197 j = .int mI ∨ (pUp (pUp M 197 (sX k c a 0) (.int mI)) 197 (sX k c a 1) (.int mI) 197 j = M 197 j ∧ j ≠ sX k c a 0 ∧ j ≠ sX k c a 1) := by
    intro j
    by_cases e1 : j = sX k c a 1
    · rw [e1, pUp_self]
      exact Or.inl rfl
    · rw [pUp_other _ _ _ _ (fun z => e1 z.2)]
      by_cases e0 : j = sX k c a 0
      · rw [e0, pUp_self]
        exact Or.inl rfl
      · rw [pUp_other _ _ _ _ (fun z => e0 z.2)]
        exact Or.inr ⟨rfl, e0, e1⟩
  refine ⟨fun o ho => by rw [pUp_ne ho, pUp_ne ho]; exact h1 o ho, fun j => ?_, fun r hr1 hr2 j hj => ?_, fun j hj => ?_⟩
  · rcases up j with e | ⟨e, -, -⟩
    · exact Or.inr e
    · rw [e]
      exact h2 j
  · rcases up (7200 * r + j) with e | ⟨e, -, -⟩
    · exact e
    · rw [e]
      exact h3 r hr1 hr2 j hj
  · rcases up (7200 * k + j) with e | ⟨e, e0, e1⟩
    · exact e
    · rw [e]
      refine h4 j ?_
      unfold sX at e0 e1
      omega
theorem foI_next {cl n k : Nat} {M0 M : pMem} (h : foI cl n M0 (k + 1) cl 0 M) : foI cl n M0 k 0 0 M := by
  obtain ⟨h1, h2, h3, h4⟩ := h
  refine ⟨h1, h2, fun r hr1 hr2 j hj => ?_, fun j hj => by omega⟩
  by_cases e : r = k + 1
  · rw [e]
    exact h4 j (by omega)
  · exact h3 r (by omega) hr2 j hj
/-- the loops -/
theorem fo_loops {S : pScr} {d n cl : Nat} {Q : Option Value → pHp → Prop} {M0 : pMem} (hn : n ≤ 3) (hcl : cl ≤ 36) (h0 : 1 ≤ cl) (h2 : M0 185 2 = .int (nI cl))
    (HB : ∀ k c a b M, k < n → c < cl → a < 100 → b < 2 → (∀ o, o ≠ 197 → M o = M0 o) → (∀ j, M 197 j = M0 197 j ∨ M 197 j = .int mI) → (∀ j, j < 200 * cl → M 197 (7200 * (k + 1) + j) = .int mI) → cOk S d 242 [.ref 185, .int (nI k), .int (nI c), .int (nI a), .int (nI b)] (gSh, M) (fun v hp => (∃ z, v = some (.int z)) ∧ hp = (gSh, pUp M 197 (sX k c a b) (.int mI))))
    (hk : ∀ M : pMem, (∀ o, o ≠ 197 → M o = M0 o) → (∀ j, M 197 j = M0 197 j ∨ M 197 j = .int mI) → (∀ j, j < 200 * cl → M 197 j = .int mI) → Q none (gSh, M)) :
    ∀ (k c a : Nat) (M : pMem), k < n → c < cl → a < 100 → foI cl n M0 k c a M → pOk S 12 false 6 (pCode 243) d (fun i len τ => ∃ v, pRet none i len τ.2.2.1 = some v ∧ Q v (τ.2.2.2.1, τ.2.2.2.2)) (76, [(5, .int (nI 0)), (4, .int (nI a)), (3, .int (nI c)), (2, .int (nI k)), (1, .int (nI n)), (0, .ref 185)], [], gSh, M) := by
  have main : ∀ (w k c a : Nat) (M : pMem), (k * 36 + (36 - c)) * 100 + (100 - a) = w → k < n → c < cl → a < 100 → foI cl n M0 k c a M → pOk S 12 false 6 (pCode 243) d (fun i len τ => ∃ v, pRet none i len τ.2.2.1 = some v ∧ Q v (τ.2.2.2.1, τ.2.2.2.2)) (76, [(5, .int (nI 0)), (4, .int (nI a)), (3, .int (nI c)), (2, .int (nI k)), (1, .int (nI n)), (0, .ref 185)], [], gSh, M) := by
    intro w
    induction w using Nat.strongRecOn with
    | _ w ih =>
      intro k c a M hw hkn hc ha hI
      have row : ∀ b, b < 2 → ∀ j, j < 200 * cl → pUp M 197 (sX k c a 0) (.int mI) 197 (7200 * (k + 1) + j) = .int mI := by
        intro b hb j hj
        by_cases e : 7200 * (k + 1) + j = sX k c a 0
        · rw [e, pUp_self]
        · rw [pUp_other _ _ _ _ (fun z => e z.2)]
          exact hI.2.2.1 (k + 1) (by omega) (by omega) j hj
      refine fo_b (b := 0) (by decide) (HB k c a 0 M hkn hc ha (by decide) hI.1 hI.2.1 (hI.2.2.1 (k + 1) (by omega) (by omega))) ?_
      refine fo_b (b := 1) (by decide) (HB k c a 1 _ hkn hc ha (by decide) (fun o ho => by rw [pUp_ne ho]; exact hI.1 o ho) (fun j => ?_) (row 1 (by decide))) ?_
      · by_cases e : j = sX k c a 0
        · rw [e, pUp_self]
          exact Or.inr rfl
        · rw [pUp_other _ _ _ _ (fun z => e z.2)]
          exact hI.2.1 j
      have hJ := foI_two hcl hc ha hI
      generalize pUp (pUp M 197 (sX k c a 0) (.int mI)) 197 (sX k c a 1) (.int mI) = M2 at hJ ⊢
      have hcells : M2 185 2 = .int (nI cl) := by rw [hJ.1 185 (by decide)]; exact h2
      refine ok_seq 2 (σ' := (79, [(5, .int (nI 2)), (4, .int (nI a)), (3, .int (nI c)), (2, .int (nI k)), (1, .int (nI n)), (0, .ref 185)], [.int (Int32.ofInt 2), .int (nI 2)], gSh, M2)) rfl ?_
      refine ok_ge_y (off := 20) (t := 99) rfl rfl (by rw [hI_2]; exact Int.le_refl _) ?_
      refine ok_seq 4 (σ' := (70, [(4, .int (nI a + Int32.ofInt 1)), (5, .int (nI 2)), (3, .int (nI c)), (2, .int (nI k)), (1, .int (nI n)), (0, .ref 185)], [.int (Int8.ofInt 100).toInt32, .int (nI a + Int32.ofInt 1)], gSh, M2)) rfl ?_
      rw [hI_1, hI_add, hI_100]
      by_cases ha2 : a + 1 < 100
      · refine ok_ge_n (off := 35) rfl (by decide) (by rw [hI_int (by omega), hI_int (by omega)]; omega) ?_
        refine ok_seq 2 (σ' := (76, [(5, .int (Int32.ofInt 0)), (4, .int (nI (a + 1))), (3, .int (nI c)), (2, .int (nI k)), (1, .int (nI n)), (0, .ref 185)], [], gSh, M2)) rfl ?_
        rw [hI_0]
        exact ih _ (by omega) k c (a + 1) M2 rfl hkn hc ha2 hJ
      · refine ok_ge_y (off := 35) (t := 105) rfl rfl (by rw [hI_int (by omega), hI_int (by omega)]; omega) ?_
        refine ok_seq 5 (σ' := (60, [(3, .int (nI c + Int32.ofInt 1)), (4, .int (nI (a + 1))), (5, .int (nI 2)), (2, .int (nI k)), (1, .int (nI n)), (0, .ref 185)], [M2 185 2, .int (nI c + Int32.ofInt 1)], gSh, M2)) rfl ?_
        rw [hcells, hI_1, hI_add]
        have e100 : a + 1 = 100 := by omega
        have hJ' : foI cl n M0 k (c + 1) 0 M2 := ⟨hJ.1, hJ.2.1, hJ.2.2.1, fun j hj => hJ.2.2.2 j (by omega)⟩
        by_cases hc2 : c + 1 < cl
        · refine ok_ge_n (off := 51) rfl (by decide) (by rw [hI_int (by omega), hI_int (by omega)]; omega) ?_
          refine ok_seq 4 (σ' := (70, [(4, .int (Int32.ofInt 0)), (3, .int (nI (c + 1))), (5, .int (nI 2)), (2, .int (nI k)), (1, .int (nI n)), (0, .ref 185)], [.int (Int8.ofInt 100).toInt32, .int (Int32.ofInt 0)], gSh, M2)) rfl ?_
          rw [hI_0, hI_100]
          refine ok_ge_n (off := 35) rfl (by decide) (by decide) ?_
          refine ok_seq 2 (σ' := (76, [(5, .int (Int32.ofInt 0)), (4, .int (nI 0)), (3, .int (nI (c + 1))), (2, .int (nI k)), (1, .int (nI n)), (0, .ref 185)], [], gSh, M2)) rfl ?_
          rw [hI_0]
          exact ih _ (by omega) k (c + 1) 0 M2 rfl hkn hc2 (by decide) hJ'
        · refine ok_ge_y (off := 51) (t := 111) rfl rfl (by rw [hI_int (by omega), hI_int (by omega)]; omega) ?_
          have ec : c + 1 = cl := by omega
          rw [ec] at hJ' ⊢
          refine ok_seq 3 (σ' := (50, [(2, .int (nI k + mI)), (3, .int (nI cl)), (4, .int (nI (a + 1))), (5, .int (nI 2)), (1, .int (nI n)), (0, .ref 185)], [.int (nI k + mI)], gSh, M2)) rfl ?_
          cases k with
          | zero =>
            refine ok_lt_y (off := 67) (t := 117) rfl rfl (by decide) ?_
            refine ok_ret (i := .return_) (len := 1) rfl rfl ⟨none, rfl, ?_⟩
            exact hk M2 hJ'.1 hJ'.2.1 (fun j hj => by have := hJ'.2.2.2 j (by omega); rw [Nat.mul_zero, Nat.zero_add] at this; exact this)
          | succ k =>
            rw [hI_dec2]
            refine ok_lt_n (off := 67) rfl (by decide) (by rw [hI_int (by omega)]; omega) ?_
            refine ok_seq 5 (σ' := (60, [(3, .int (Int32.ofInt 0)), (2, .int (nI k)), (4, .int (nI (a + 1))), (5, .int (nI 2)), (1, .int (nI n)), (0, .ref 185)], [M2 185 2, .int (Int32.ofInt 0)], gSh, M2)) rfl ?_
            rw [hcells, hI_0]
            refine ok_ge_n (off := 51) rfl (by decide) (by rw [hI_int (by omega), hI_int (by omega)]; omega) ?_
            refine ok_seq 4 (σ' := (70, [(4, .int (Int32.ofInt 0)), (3, .int (nI 0)), (2, .int (nI k)), (5, .int (nI 2)), (1, .int (nI n)), (0, .ref 185)], [.int (Int8.ofInt 100).toInt32, .int (Int32.ofInt 0)], gSh, M2)) rfl ?_
            rw [hI_0, hI_100]
            refine ok_ge_n (off := 35) rfl (by decide) (by decide) ?_
            refine ok_seq 2 (σ' := (76, [(5, .int (Int32.ofInt 0)), (4, .int (nI 0)), (3, .int (nI 0)), (2, .int (nI k)), (1, .int (nI n)), (0, .ref 185)], [], gSh, M2)) rfl ?_
            rw [hI_0]
            exact ih _ (by omega) k 0 0 M2 rfl (by omega) (by omega) (by decide) (foI_next hJ')
  intro k c a M
  exact main _ k c a M rfl
/-- findOut, by what look, and the answers' rows, give -/
theorem c_findOut {S : pScr} {d n cl : Nat} {M : pMem} {PL : pMem → Prop} (hn : n ≤ 3) (hcl : cl ≤ 36) (h0 : 1 ≤ cl) (h31 : M 185 31 = .ref 197) (h3 : M 185 3 = .ref 186) (h2 : M 185 2 = .int (nI cl)) (h4 : M 186 4 = .int (nI n)) (hd : 1 ≤ d)
    (hlook : cOk S d 237 [.ref 185] (gSh, M) (fun v hp => v = none ∧ hp.1 = gSh ∧ hp.2 185 = M 185 ∧ hp.2 186 = M 186 ∧ PL hp.2))
    (HO : ∀ M1, PL M1 → ∀ k c a b j M2, k < n → c < cl → a < 100 → b < 2 → j < 8 → (∀ o, o ≠ 197 → M2 o = M1 o) → (∀ j, M2 197 j = M1 197 j ∨ M2 197 j = .int mI) → (∀ j, j < 200 * cl → M2 197 (7200 * (k + 1) + j) = .int mI) → cOk S d 241 [.ref 185, .int (nI k), .int (nI c), .int (nI a), .int (nI b), .int (nI j)] (gSh, M2) (fun v hp => v = some (.int mI) ∧ hp = (gSh, M2))) :
    cOk S (d + 2) 243 [.ref 185] (gSh, M) (fun v hp => v = none ∧ hp.1 = gSh ∧ ∃ M1, PL M1 ∧ (∀ o, o ≠ 197 → hp.2 o = M1 o) ∧ (∀ j, hp.2 197 j = M1 197 j ∨ hp.2 197 j = .int mI) ∧ ∀ j, j < 200 * cl → hp.2 197 j = .int mI) := by
  refine c_of_ok (Nat.le_of_ble_eq_true rfl) ?_
  refine ok_seq 1 (σ' := (1, [(0, .ref 185)], [.ref 185], gSh, M)) rfl ?_
  refine ok_call (mi := 237) (as := [.ref 185]) (pc' := 4) (L' := [(0, .ref 185)]) (st' := []) (sh' := gSh) (M' := M) (i := .invokevirtual 358) (len := 3) rfl rfl ?_
  refine (hlook.deep1).mono ?_
  rintro v ⟨sh1, M1⟩ ⟨rfl, e1, e2, e3, hPL⟩
  have e1 : sh1 = gSh := e1
  subst e1
  have e2 : M1 185 = M 185 := e2
  have e3 : M1 186 = M 186 := e3
  refine ok_seq 2 (σ' := (8, [(0, .ref 185)], [M1 185 3], gSh, M1)) rfl ?_
  rw [e2, h3]
  refine ok_seq 1 (σ' := (9, [(0, .ref 185)], [.int (Int32.ofInt 4), .ref 186], gSh, M1)) rfl ?_
  have hld : pArrLd S .iaload 9 [(0, .ref 185)] [.int (Int32.ofInt 4), .ref 186] gSh M1 = pGo 10 [(0, .ref 185)] [.int (nI n)] gSh M1 := by
    unfold pArrLd
    simp only [g186, show pIn (Int32.ofInt 4) 280 = true by decide, if_true, show (Int32.ofInt 4).toNatClampNeg = 4 by decide, e3, h4]
  refine ok_step (i := .iaload) (len := 1) (σ := (10, [(0, .ref 185)], [.int (nI n)], gSh, M1)) rfl hld ?_
  refine ok_seq 5 (σ' := (15, [(1, .int (nI n)), (0, .ref 185)], [.int (Int32.ofInt 0), .int (Int32.ofInt 0), .int (Int32.ofInt 0), .int (nI n)], gSh, M1)) rfl ?_
  refine ok_call (mi := 240) (as := [.int (nI n), .int (Int32.ofInt 0), .int (Int32.ofInt 0), .int (Int32.ofInt 0)]) (pc' := 18) (L' := [(1, .int (nI n)), (0, .ref 185)]) (st' := []) (sh' := gSh) (M' := M1) (i := .invokestatic 352) (len := 3) rfl rfl ?_
  refine (c_st _ _ _ _ gSh M1).mono ?_
  rintro v hp ⟨rfl, rfl⟩
  rw [hI_0, sX_nI, show sX n 0 0 0 = 7200 * n by unfold sX; omega]
  refine ok_seq 1 (σ' := (19, [(2, .int (nI (7200 * n))), (1, .int (nI n)), (0, .ref 185)], [], gSh, M1)) rfl ?_
  have f31 : M1 185 31 = .ref 197 := by rw [e2]; exact h31
  have f2 : M1 185 2 = .int (nI cl) := by rw [e2]; exact h2
  refine fo_fill (M0 := M1) (Q := fun v hp => v = none ∧ hp.1 = gSh ∧ ∃ M1, PL M1 ∧ (∀ o, o ≠ 197 → hp.2 o = M1 o) ∧ (∀ j, hp.2 197 j = M1 197 j ∨ hp.2 197 j = .int mI) ∧ ∀ j, j < 200 * cl → hp.2 197 j = .int mI) hn (by omega) f31 ?_ 7200 (7200 * n) (by omega) (Nat.le_refl _) M1 (fun _ _ => rfl) (fun _ => Or.inl rfl) (fun j hj1 hj2 => by omega)
  intro M2 k1 k2 k3
  refine ok_seq 5 (σ' := (50, [(2, .int (nI n - Int32.ofInt 1)), (1, .int (nI n)), (0, .ref 185)], [.int (nI n - Int32.ofInt 1)], gSh, M2)) rfl ?_
  cases n with
  | zero =>
    refine ok_lt_y (off := 67) (t := 117) rfl rfl (by decide) ?_
    refine ok_ret (i := .return_) (len := 1) rfl rfl ⟨none, rfl, rfl, rfl, M1, hPL, k1, k2, ?_⟩
    intro j hj
    have := k3 j (by omega)
    rw [Nat.mul_zero, Nat.zero_add] at this
    exact this
  | succ n =>
    rw [hI_dec]
    have hcells : M2 185 2 = .int (nI cl) := by rw [k1 185 (by decide)]; exact f2
    refine ok_lt_n (off := 67) rfl (by decide) (by rw [hI_int (by omega)]; omega) ?_
    refine ok_seq 5 (σ' := (60, [(3, .int (Int32.ofInt 0)), (2, .int (nI n)), (1, .int (nI (n + 1))), (0, .ref 185)], [M2 185 2, .int (Int32.ofInt 0)], gSh, M2)) rfl ?_
    rw [hcells, hI_0]
    refine ok_ge_n (off := 51) rfl (by decide) (by rw [hI_int (by omega), hI_int (by omega)]; omega) ?_
    refine ok_seq 4 (σ' := (70, [(4, .int (Int32.ofInt 0)), (3, .int (nI 0)), (2, .int (nI n)), (1, .int (nI (n + 1))), (0, .ref 185)], [.int (Int8.ofInt 100).toInt32, .int (Int32.ofInt 0)], gSh, M2)) rfl ?_
    rw [hI_0, hI_100]
    refine ok_ge_n (off := 35) rfl (by decide) (by decide) ?_
    refine ok_seq 2 (σ' := (76, [(5, .int (Int32.ofInt 0)), (4, .int (nI 0)), (3, .int (nI 0)), (2, .int (nI n)), (1, .int (nI (n + 1))), (0, .ref 185)], [], gSh, M2)) rfl ?_
    rw [hI_0]
    refine fo_loops (M0 := M1) (Q := fun v hp => v = none ∧ hp.1 = gSh ∧ ∃ M1, PL M1 ∧ (∀ o, o ≠ 197 → hp.2 o = M1 o) ∧ (∀ j, hp.2 197 j = M1 197 j ∨ hp.2 197 j = .int mI) ∧ ∀ j, j < 200 * cl → hp.2 197 j = .int mI) hn hcl h0 f2 ?_ ?_ n 0 0 M2 (by omega) (by omega) (by decide) ⟨k1, k2, fun r hr1 hr2 j hj => ?_, fun j hj => by omega⟩
    · intro k c a b M3 g1 g2 g3 g4 g5 g6 g7
      exact c_best (by rw [g5 185 (by decide)]; exact f31) (by unfold sX; omega) (fun j hj => HO M1 hPL k c a b j M3 g1 g2 g3 g4 hj g5 g6 g7) hd
    · intro M3 g1 g2 g3
      exact ⟨rfl, rfl, M1, hPL, g1, g2, g3⟩
    · have : r = n + 1 := by omega
      rw [this]
      exact k3 j (by omega)

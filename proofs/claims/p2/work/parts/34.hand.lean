/-! by hand: steps on the pure machine -/
def pSeq (S : pScr) (o : Nat) (ini : Bool) (nL : Nat) (code : Nat → Option (Instr × Nat)) : Nat → pSt → Option pSt
  | 0, σ => some σ
  | k + 1, (pc, L, st, sh, M) => match code pc with
    | none => none
    | some (i, len) => match pstep S o ini nL i len pc L st sh M with
      | some (.inl σ) => pSeq S o ini nL code k σ
      | _ => none
/-- what a compare asks -/
def pCP (c : Jvm.ClassFile.Cond) (a b : Int) : Prop := match c with
  | .eq => a = b
  | .ne => a ≠ b
  | .lt => a < b
  | .ge => b ≤ a
  | .gt => b < a
  | .le => a ≤ b
theorem pC_iff {c : Jvm.ClassFile.Cond} {x y : Int32} : pC c x y = true ↔ pCP c x.toInt y.toInt := by
  cases c with
  | eq => exact ⟨fun h => congrArg _ (of_decide_eq_true h), fun h => decide_eq_true (Int32.toInt_inj.mp h)⟩
  | ne => exact ⟨fun h hz => of_decide_eq_true h (Int32.toInt_inj.mp hz), fun h => decide_eq_true (fun hz => h (congrArg _ hz))⟩
  | lt => exact ⟨fun h => Int32.lt_iff_toInt_lt.mp (of_decide_eq_true h), fun h => decide_eq_true (Int32.lt_iff_toInt_lt.mpr h)⟩
  | ge => exact ⟨fun h => Int32.le_iff_toInt_le.mp (of_decide_eq_true h), fun h => decide_eq_true (Int32.le_iff_toInt_le.mpr h)⟩
  | gt => exact ⟨fun h => Int32.lt_iff_toInt_lt.mp (of_decide_eq_true h), fun h => decide_eq_true (Int32.lt_iff_toInt_lt.mpr h)⟩
  | le => exact ⟨fun h => Int32.le_iff_toInt_le.mp (of_decide_eq_true h), fun h => decide_eq_true (Int32.le_iff_toInt_le.mpr h)⟩
theorem pC_no {c : Jvm.ClassFile.Cond} {x y : Int32} (h : pC c x y = false) : ¬ pCP c x.toInt y.toInt := fun hz => by
  rw [pC_iff.mpr hz] at h
  cases h
theorem pC_f {c : Jvm.ClassFile.Cond} {x y : Int32} (h : ¬ pCP c x.toInt y.toInt) : pC c x y = false := by
  cases hb : pC c x y with
  | false => rfl
  | true => exact absurd (pC_iff.mp hb) h
theorem hI_int {a : Nat} (h : a < 2147483648) : (nI a).toInt = (a : Int) := by
  rw [← i32_nI]
  exact i32_of (by show (-2147483648 : Int) ≤ (a : Int); omega) (by show (a : Int) ≤ 2147483647; omega)
theorem hI_nat {a : Nat} (h : a < 2147483648) : (nI a).toNatClampNeg = a := by
  unfold Int32.toNatClampNeg
  rw [hI_int h]
  rfl
theorem hI_in {a n : Nat} (h : a < n) (hn : n < 2147483648) : pIn (nI a) n = true := by
  refine decide_eq_true ?_
  rw [hI_nat (by omega), Int32.lt_iff_toInt_lt, hI_int (by omega)]
  rintro (h1 | h1)
  · have h1 : (a : Int) < 0 := h1
    omega
  · omega
theorem hI_add (a b : Nat) : nI a + nI b = nI (a + b) := (Int32.ofNat_add a b).symm
theorem hI_mul (a b : Nat) : nI a * nI b = nI (a * b) := (Int32.ofNat_mul a b).symm
theorem hI_sub (a b : Nat) (h : b ≤ a) : nI a - nI b = nI (a - b) := by
  have e : nI a = nI (a - b) + nI b := by rw [hI_add]; congr 1; omega
  rw [e, Int32.add_sub_cancel]
theorem cI_0 : Int32.ofInt 0 = nI 0 := by decide
theorem cI_1 : Int32.ofInt 1 = nI 1 := by decide
theorem cI_2 : Int32.ofInt 2 = nI 2 := by decide
theorem cI_3 : Int32.ofInt 3 = nI 3 := by decide
theorem cI_4 : Int32.ofInt 4 = nI 4 := by decide
theorem cI_5 : Int32.ofInt 5 = nI 5 := by decide
abbrev mI : Int32 := Int32.ofInt (-1)
theorem cB_n {n : Nat} (h : n < 128) : (Int8.ofInt (n : Int)).toInt32 = nI n := by
  have : ∀ k : Fin 128, (Int8.ofInt ((k : Nat) : Int)).toInt32 = nI k := by decide
  exact this ⟨n, h⟩
theorem cS_n {n : Nat} (h : n < 32768) : (Int16.ofInt (n : Int)).toInt32 = nI n := by
  apply Int32.toInt_inj.mp
  rw [hI_int (by omega), Int16.toInt_toInt32, Int16.toInt_ofInt_of_le (by show (-32768 : Int) ≤ _; omega) (by show (n : Int) < 32768; omega)]
theorem hI_dec2 (a : Nat) : nI (a + 1) + mI = nI a := by
  rw [← hI_add, show mI = - nI 1 by decide, ← Int32.sub_eq_add_neg, Int32.add_sub_cancel]
section HAND
variable {S : pScr} {o nL d pc : Nat} {ini : Bool} {code : Nat → Option (Instr × Nat)} {Post : Instr → Nat → pSt → Prop} {L : pLs} {st : List Value} {sh : pSh} {M : pMem}
theorem ok_seq (k : Nat) {σ σ' : pSt} (h : pSeq S o ini nL code k σ = some σ') (hk : pOk S o ini nL code d Post σ') : pOk S o ini nL code d Post σ := by
  induction k generalizing σ with
  | zero =>
    have h : some σ = some σ' := h
    cases h
    exact hk
  | succ k ih =>
    obtain ⟨pc, L, st, sh, M⟩ := σ
    unfold pSeq at h
    split at h
    · cases h
    · rename_i i len hc
      split at h
      · rename_i σ1 hs
        exact ok_step hc hs (ih h)
      · cases h
theorem hbr_t {off : Int} {t : Nat} (h1 : (pc : Int) + off = (t : Int)) : pBr true pc off L st sh M = some (.inl (t, L, st, sh, M)) := by
  unfold pBr
  rw [h1, if_neg (by omega)]
  show pGo ((t : Int).toNat) L st sh M = _
  rw [Int.toNat_natCast]
  rfl
theorem hbr_f {off : Int} {t : Nat} (h1 : (pc : Int) + off = (t : Int)) : pBr false pc off L st sh M = some (.inl (pc + 3, L, st, sh, M)) := by
  unfold pBr
  rw [h1, if_neg (by omega)]
  rfl
theorem ok_icmp {x y : Int32} {c : Jvm.ClassFile.Cond} {off : Int} (t : Nat) (hc : code pc = some (.if_icmp c off, 3)) (h1 : (pc : Int) + off = (t : Int)) (hT : pCP c x.toInt y.toInt → pOk S o ini nL code d Post (t, L, st, sh, M)) (hF : ¬ pCP c x.toInt y.toInt → pOk S o ini nL code d Post (pc + 3, L, st, sh, M)) : pOk S o ini nL code d Post (pc, L, .int y :: .int x :: st, sh, M) := by
  cases hb : pC c x y with
  | true => exact ok_step hc (show pBr (pC c x y) pc off L st sh M = _ by rw [hb]; exact hbr_t h1) (hT (pC_iff.mp hb))
  | false => exact ok_step hc (show pBr (pC c x y) pc off L st sh M = _ by rw [hb]; exact hbr_f h1) (hF (pC_no hb))
theorem ok_if {x : Int32} {c : Jvm.ClassFile.Cond} {off : Int} (t : Nat) (hc : code pc = some (.ifCond c off, 3)) (h1 : (pc : Int) + off = (t : Int)) (hT : pCP c x.toInt 0 → pOk S o ini nL code d Post (t, L, st, sh, M)) (hF : ¬ pCP c x.toInt 0 → pOk S o ini nL code d Post (pc + 3, L, st, sh, M)) : pOk S o ini nL code d Post (pc, L, .int x :: st, sh, M) := by
  have e0 : (0 : Int32).toInt = 0 := rfl
  cases hb : pC c x 0 with
  | true => exact ok_step hc (show pBr (pC c x 0) pc off L st sh M = _ by rw [hb]; exact hbr_t h1) (hT (by have := pC_iff.mp hb; rw [e0] at this; exact this))
  | false => exact ok_step hc (show pBr (pC c x 0) pc off L st sh M = _ by rw [hb]; exact hbr_f h1) (hF (by have := pC_no hb; rw [e0] at this; exact this))
theorem ok_iald {a n : Nat} {j v : Int32} (hc : code pc = some (.iaload, 1)) (hs : sh[a]? = some (13, n)) (hj : pIn j n = true) (hv : M a j.toNatClampNeg = .int v) (k : pOk S o ini nL code d Post (pc + 1, L, .int v :: st, sh, M)) : pOk S o ini nL code d Post (pc, L, .int j :: .ref a :: st, sh, M) := by
  have h : pArrLd S .iaload pc L (.int j :: .ref a :: st) sh M = pGo (pc + 1) L (.int v :: st) sh M := by
    unfold pArrLd
    simp only [hs, hj, if_true, hv]
  exact ok_step hc h k
theorem ok_bald {a n : Nat} {j v : Int32} (hc : code pc = some (.baload, 1)) (hs : sh[a]? = some (14, n)) (hj : pIn j n = true) (hv : M a j.toNatClampNeg = .int v) (k : pOk S o ini nL code d Post (pc + 1, L, .int v :: st, sh, M)) : pOk S o ini nL code d Post (pc, L, .int j :: .ref a :: st, sh, M) := by
  have h : pArrLd S .baload pc L (.int j :: .ref a :: st) sh M = pGo (pc + 1) L (.int v :: st) sh M := by
    unfold pArrLd
    simp only [hs, hj, if_true, hv]
  exact ok_step hc h k
theorem ok_lald {a n : Nat} {j : Int32} {v : Int64} (hc : code pc = some (.laload, 1)) (hs : sh[a]? = some (15, n)) (hj : pIn j n = true) (hv : M a j.toNatClampNeg = .long v) (k : pOk S o ini nL code d Post (pc + 1, L, .long v :: st, sh, M)) : pOk S o ini nL code d Post (pc, L, .int j :: .ref a :: st, sh, M) := by
  have h : pArrLd S .laload pc L (.int j :: .ref a :: st) sh M = pGo (pc + 1) L (.long v :: st) sh M := by
    unfold pArrLd
    simp only [hs, hj, if_true, hv]
  exact ok_step hc h k
theorem ok_iast {a n : Nat} {j v : Int32} (hc : code pc = some (.iastore, 1)) (hs : sh[a]? = some (13, n)) (hj : pIn j n = true) (k : pOk S o ini nL code d Post (pc + 1, L, st, sh, pUp M a j.toNatClampNeg (.int v))) : pOk S o ini nL code d Post (pc, L, .int v :: .int j :: .ref a :: st, sh, M) := by
  have h : pArrSt .iastore pc L (.int v :: .int j :: .ref a :: st) sh M = pGo (pc + 1) L st sh (pUp M a j.toNatClampNeg (.int v)) := by
    unfold pArrSt
    simp only [hs, hj, if_true]
  exact ok_step hc h k
theorem ok_bast {a n : Nat} {j v : Int32} (hc : code pc = some (.bastore, 1)) (hs : sh[a]? = some (14, n)) (hj : pIn j n = true) (k : pOk S o ini nL code d Post (pc + 1, L, st, sh, pUp M a j.toNatClampNeg (.int (v &&& 1)))) : pOk S o ini nL code d Post (pc, L, .int v :: .int j :: .ref a :: st, sh, M) := by
  have h : pArrSt .bastore pc L (.int v :: .int j :: .ref a :: st) sh M = pGo (pc + 1) L st sh (pUp M a j.toNatClampNeg (.int (v &&& 1))) := by
    unfold pArrSt
    simp only [hs, hj, if_true]
  exact ok_step hc h k
theorem ok_last {a n : Nat} {j : Int32} {v : Int64} (hc : code pc = some (.lastore, 1)) (hs : sh[a]? = some (15, n)) (hj : pIn j n = true) (k : pOk S o ini nL code d Post (pc + 1, L, st, sh, pUp M a j.toNatClampNeg (.long v))) : pOk S o ini nL code d Post (pc, L, .long v :: .int j :: .ref a :: st, sh, M) := by
  have h : pArrSt .lastore pc L (.long v :: .int j :: .ref a :: st) sh M = pGo (pc + 1) L st sh (pUp M a j.toNatClampNeg (.long v)) := by
    unfold pArrSt
    simp only [hs, hj, if_true]
  exact ok_step hc h k
theorem ok_put {idx ci k n a q : Nat} {v : Value} {ty : FieldType} (hc : code pc = some (.putfield idx, 3)) (hf : pFindI tFld o idx = some (q, ci, k)) (hs : sh[a]? = some (ci, n)) (hk : Nat.ble (k + 1) n = true) (hfin : ((pCl ci).2.1 k).2.2.2 = false) (hty : pTyOf ci k = some ty) (hv : narrow ty v = v ∧ fits ty v = true) (K : pOk S o ini nL code d Post (pc + 3, L, st, sh, pUp M a k v)) : pOk S o ini nL code d Post (pc, L, v :: .ref a :: st, sh, M) := by
  have h : pPutF o ini idx pc L (v :: .ref a :: st) sh M = pGo (pc + 3) L st sh (pUp M a k v) := by
    unfold pPutF
    simp only [hf, hs, hty]
    rw [if_pos ⟨trivial, Nat.le_of_ble_eq_true hk, Or.inl hfin⟩, if_pos hv]
  exact ok_step hc h K
end HAND
theorem fi_int (x : Int32) : narrow .int (.int x) = .int x ∧ fits .int (.int x) = true := ⟨rfl, rfl⟩
theorem fi_long (x : Int64) : narrow .long (.long x) = .long x ∧ fits .long (.long x) = true := ⟨rfl, rfl⟩
theorem fi_b0 : narrow .boolean (.int (nI 0)) = .int (nI 0) ∧ fits .boolean (.int (nI 0)) = true := by decide
theorem fi_b1 : narrow .boolean (.int (nI 1)) = .int (nI 1) ∧ fits .boolean (.int (nI 1)) = true := by decide
/-- a state whose run is good, seen from a later place of the same run -/
theorem ok_back {S : pScr} {o nL d : Nat} {ini : Bool} {code : Nat → Option (Instr × Nat)} {Post : Instr → Nat → pSt → Prop} (k : Nat) {σ σ' : pSt} (h : pSeq S o ini nL code k σ = some σ') (hk : pOk S o ini nL code d Post σ) : pOk S o ini nL code d Post σ' := by
  induction k generalizing σ with
  | zero =>
    have h : some σ = some σ' := h
    cases h
    exact hk
  | succ k ih =>
    obtain ⟨pc, L, st, sh, M⟩ := σ
    unfold pSeq at h
    split at h
    · cases h
    · rename_i i len hc
      split at h
      · rename_i σ1 hs
        refine ih h ?_
        obtain ⟨i', len', τ, F, h1, h2⟩ := hk
        refine ⟨i', len', τ, F, fun n G hn hG => ?_, h2⟩
        have := h1 (n + 1) G (by omega) hG
        unfold prun at this
        rw [hc] at this
        simp only [hs] at this
        exact this
      · cases h
theorem tyM_up {τ : fT} {M : pMem} {o k : Nat} {v : Value} {e : aE} (hM : tyM (tOf τ) M) (ht : tyAt (tOf τ) o k = some e) (hv : satE e v) : tyM (tOf τ) (pUp M o k v) := by
  intro o' k' e' ho he
  by_cases e9 : o' = o ∧ k' = k
  · obtain ⟨rfl, rfl⟩ := e9
    rw [ht] at he
    cases he
    rw [pUp_self]
    exact hv
  · rw [pUp_other _ _ _ _ e9]
    exact hM o' k' e' ho he

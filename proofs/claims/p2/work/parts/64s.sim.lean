/-! a run that doesn't read a place where nothing lies goes the same way whatever lies there (object 197) -/
def sR (M M' : pMem) : Prop := ∀ o k, M o k = M' o k ∨ (o = 197 ∧ M o k = .null)
def sS (σ σ' : pSt) : Prop := σ'.1 = σ.1 ∧ σ'.2.1 = σ.2.1 ∧ σ'.2.2.1 = σ.2.2.1 ∧ σ'.2.2.2.1 = σ.2.2.2.1 ∧ sR σ.2.2.2.2 σ'.2.2.2.2
/-- the same but for memory -/
def sQr (r r' : pRes) : Prop := match r, r' with
  | .inl σ, .inl σ' => sS σ σ'
  | .inr (.inl _), .inr (.inl _) => True
  | .inr (.inr (m, as, σ)), .inr (.inr (m', as', σ')) => m' = m ∧ as' = as ∧ sS σ σ'
  | _, _ => False
def setM (X : pMem) (r : pRes) : pRes := match r with
  | .inl (pc, L, st, sh, _) => .inl (pc, L, st, sh, X)
  | .inr (.inl u) => .inr (.inl u)
  | .inr (.inr (m, as, pc, L, st, sh, _)) => .inr (.inr (m, as, pc, L, st, sh, X))
/-- memory is only handed on -/
def frM (F : pMem → Option pRes) : Prop := ∀ M M', (F M).map (setM M') = F M'
theorem sR.up {M M' : pMem} (h : sR M M') (a j : Nat) (v : Value) : sR (pUp M a j v) (pUp M' a j v) := by
  intro o k
  unfold pUp
  cases e : (Nat.beq o a && Nat.beq k j) with
  | true => exact Or.inl rfl
  | false => exact h o k
theorem sR.nw {M M' : pMem} (h : sR M M') (a : Nat) (f : Nat → Value) : sR (pNew M a f) (pNew M' a f) := by
  intro o k
  unfold pNew
  cases e : Nat.beq o a with
  | true => exact Or.inl rfl
  | false => exact h o k
section SIM
variable {S : pScr} {o nL pc : Nat} {ini : Bool} {L : pLs} {st : List Value} {sh : pSh} {M M' : pMem} {σ : pSt} {i : Instr} {len n7 : Nat}
theorem fr_go {pc' : Nat} : frM (fun M => pGo pc' L st sh M) := fun _ _ => rfl
theorem fr_jp {pc' : Nat} {off : Int} : frM (fun M => pJp pc' off L st sh M) := fun _ _ => by
  unfold pJp
  split <;> rfl
theorem fr_br {b : Bool} {off : Int} : frM (fun M => pBr b pc off L st sh M) := fun _ _ => by
  unfold pBr
  split
  · rfl
  · cases b <;> rfl
theorem fr_pLoadI {a n : Nat} : frM (fun M => pLoadI a n pc L st sh M) := fun _ _ => by
  unfold pLoadI
  split <;> rfl
theorem fr_pLoadL {a n : Nat} : frM (fun M => pLoadL a n pc L st sh M) := fun _ _ => by
  unfold pLoadL
  split <;> rfl
theorem fr_pLoadA {a n : Nat} : frM (fun M => pLoadA a n pc L st sh M) := fun _ _ => by
  unfold pLoadA
  split <;> rfl
theorem fr_pStoI {a n : Nat} : frM (fun M => pStoI nL a n pc L st sh M) := fun _ _ => by
  unfold pStoI
  split
  · split <;> rfl
  · rfl
theorem fr_pStoL {a n : Nat} : frM (fun M => pStoL nL a n pc L st sh M) := fun _ _ => by
  unfold pStoL
  split
  · split <;> rfl
  · rfl
theorem fr_pStoA {a n : Nat} : frM (fun M => pStoA nL a n pc L st sh M) := fun _ _ => by
  unfold pStoA
  split
  · split <;> rfl
  · split <;> rfl
  · rfl
theorem fr_pInt {op : Int32 → Int32 → Int32} : frM (fun M => pInt op pc L st sh M) := fun _ _ => by
  unfold pInt
  split <;> rfl
theorem fr_pLong {op : Int64 → Int64 → Int64} : frM (fun M => pLong op pc L st sh M) := fun _ _ => by
  unfold pLong
  split <;> rfl
theorem fr_pLen : frM (fun M => pLen S pc L st sh M) := fun _ _ => by
  unfold pLen
  split
  · split
    · split <;> rfl
    · rfl
  · split <;> rfl
  · rfl
theorem fr_pTbl {dflt lo hi : Int} {offs : Array Int} : frM (fun M => pTbl dflt lo hi offs pc L st sh M) := fun M M' => by
  unfold pTbl
  split
  · split
    · exact fr_jp M M'
    · split
      · exact fr_jp M M'
      · rfl
  · rfl
theorem fr_pLkp {dflt : Int} {ps : Array (Int × Int)} : frM (fun M => pLkp dflt ps pc L st sh M) := fun M M' => by
  unfold pLkp
  split
  · split
    · exact fr_jp M M'
    · rfl
  · rfl
theorem fr_pJdkV {idx : Nat} : frM (fun M => pJdkV S o idx pc L st sh M) := fun _ _ => by
  unfold pJdkV
  split
  · split
    · split <;> rfl
    · rfl
  · split
    · split <;> rfl
    · rfl
  · rfl
theorem fr_pLdcS {idx : Nat} : frM (fun M => pLdcS S o idx pc L st sh M) := fun _ _ => by
  unfold pLdcS
  split
  · split <;> rfl
  · rfl
/-- what is read of another object, or not null, is the same -/
theorem sR.rd {v : Value} {a k : Nat} (hR : sR M M') (h : M a k = v) (hv : v ≠ .null) : M' a k = v := by
  rcases hR a k with e | ⟨-, e⟩
  · rw [← e, h]
  · rw [e] at h
    exact absurd h.symm hv
theorem sim_pArrLd {r : pRes} (hR : sR M M') (h : pArrLd S i pc L st sh M = some r) : ∃ r', pArrLd S i pc L st sh M' = some r' ∧ sQr r r' := by
  unfold pArrLd at h ⊢
  split at h
  · split at h
    · rename_i hs
      split at h
      · rename_i hp
        try simp only [hs]
        try simp only [hp, if_true]
        split at h
        all_goals first
          | (rename_i hv
             rw [hR.rd hv (by simp)]
             cases h
             exact ⟨_, rfl, rfl, rfl, rfl, rfl, hR⟩)
          | cases h
      · cases h
    · cases h
  · split at h
    · split at h
      · rename_i hp
        try simp only [hp, if_true]
        cases h
        exact ⟨_, rfl, rfl, rfl, rfl, rfl, hR⟩
      · cases h
    · cases h
  · cases h
theorem sim_pGetF {idx : Nat} (h7 : sh[197]? = some (13, n7)) (hR : sR M M') (hci : ∀ q ci k, pFindI tFld o idx = some (q, ci, k) → ci ≠ 13) {r : pRes} (h : pGetF o idx pc L st sh M = some r) : ∃ r', pGetF o idx pc L st sh M' = some r' ∧ sQr r r' := by
  unfold pGetF at h ⊢
  split at h
  · rename_i a r
    split at h
    · rename_i q ci k c n hf hs
      split at h
      · rename_i hc
        try simp only [hf, hs]
        rw [if_pos hc]
        have e : M' a k = M a k := by
          rcases hR a k with e | ⟨e, -⟩
          · exact e.symm
          · subst e
            rw [h7] at hs
            cases hs
            exact absurd hc.1.symm (hci _ _ _ hf)
        rw [e]
        cases h
        exact ⟨_, rfl, rfl, rfl, rfl, rfl, hR⟩
      · cases h
    · cases h
  · cases h
theorem fr_iinc {k : Nat} {n : Int} : frM (fun M => pstep S o ini nL (.iinc k n) 3 pc L st sh M) := fun M M' => by
  show Option.map (setM M') ((match pLd L k with
    | some (.int x) => if k < nL then pGo (pc + 3) (pS1 L k (.int (x + Int32.ofInt n))) st sh M else none
    | _ => none)) = ((match pLd L k with
    | some (.int x) => if k < nL then pGo (pc + 3) (pS1 L k (.int (x + Int32.ofInt n))) st sh M' else none
    | _ => none))
  (repeat' split) <;> first | rfl | exact fr_jp M M' | exact fr_br M M' | exact fr_pLdcS M M'
theorem fr_idiv : frM (fun M => pstep S o ini nL (.idiv) 1 pc L st sh M) := fun M M' => by
  show Option.map (setM M') ((match st with
    | .int y :: .int x :: r => if y = 0 then none else pGo (pc + 1) L (.int (x / y) :: r) sh M
    | _ => none)) = ((match st with
    | .int y :: .int x :: r => if y = 0 then none else pGo (pc + 1) L (.int (x / y) :: r) sh M'
    | _ => none))
  (repeat' split) <;> first | rfl | exact fr_jp M M' | exact fr_br M M' | exact fr_pLdcS M M'
theorem fr_irem : frM (fun M => pstep S o ini nL (.irem) 1 pc L st sh M) := fun M M' => by
  show Option.map (setM M') ((match st with
    | .int y :: .int x :: r => if y = 0 then none else pGo (pc + 1) L (.int (x - x / y * y) :: r) sh M
    | _ => none)) = ((match st with
    | .int y :: .int x :: r => if y = 0 then none else pGo (pc + 1) L (.int (x - x / y * y) :: r) sh M'
    | _ => none))
  (repeat' split) <;> first | rfl | exact fr_jp M M' | exact fr_br M M' | exact fr_pLdcS M M'
theorem fr_ineg : frM (fun M => pstep S o ini nL (.ineg) 1 pc L st sh M) := fun M M' => by
  show Option.map (setM M') ((match st with
    | .int x :: r => pGo (pc + 1) L (.int (-x) :: r) sh M
    | _ => none)) = ((match st with
    | .int x :: r => pGo (pc + 1) L (.int (-x) :: r) sh M'
    | _ => none))
  (repeat' split) <;> first | rfl | exact fr_jp M M' | exact fr_br M M' | exact fr_pLdcS M M'
theorem fr_ldiv : frM (fun M => pstep S o ini nL (.ldiv) 1 pc L st sh M) := fun M M' => by
  show Option.map (setM M') ((match st with
    | .long y :: .long x :: r => if y = 0 then none else pGo (pc + 1) L (.long (x / y) :: r) sh M
    | _ => none)) = ((match st with
    | .long y :: .long x :: r => if y = 0 then none else pGo (pc + 1) L (.long (x / y) :: r) sh M'
    | _ => none))
  (repeat' split) <;> first | rfl | exact fr_jp M M' | exact fr_br M M' | exact fr_pLdcS M M'
theorem fr_lneg : frM (fun M => pstep S o ini nL (.lneg) 1 pc L st sh M) := fun M M' => by
  show Option.map (setM M') ((match st with
    | .long x :: r => pGo (pc + 1) L (.long (-x) :: r) sh M
    | _ => none)) = ((match st with
    | .long x :: r => pGo (pc + 1) L (.long (-x) :: r) sh M'
    | _ => none))
  (repeat' split) <;> first | rfl | exact fr_jp M M' | exact fr_br M M' | exact fr_pLdcS M M'
theorem fr_lshl : frM (fun M => pstep S o ini nL (.lshl) 1 pc L st sh M) := fun M M' => by
  show Option.map (setM M') ((match st with
    | .int y :: .long x :: r => pGo (pc + 1) L (.long (x <<< (y.toInt64 &&& 63)) :: r) sh M
    | _ => none)) = ((match st with
    | .int y :: .long x :: r => pGo (pc + 1) L (.long (x <<< (y.toInt64 &&& 63)) :: r) sh M'
    | _ => none))
  (repeat' split) <;> first | rfl | exact fr_jp M M' | exact fr_br M M' | exact fr_pLdcS M M'
theorem fr_lcmp : frM (fun M => pstep S o ini nL (.lcmp) 1 pc L st sh M) := fun M M' => by
  show Option.map (setM M') ((match st with
    | .long y :: .long x :: r => pGo (pc + 1) L (.int (lg_cmp x y) :: r) sh M
    | _ => none)) = ((match st with
    | .long y :: .long x :: r => pGo (pc + 1) L (.int (lg_cmp x y) :: r) sh M'
    | _ => none))
  (repeat' split) <;> first | rfl | exact fr_jp M M' | exact fr_br M M' | exact fr_pLdcS M M'
theorem fr_i2l : frM (fun M => pstep S o ini nL (.i2l) 1 pc L st sh M) := fun M M' => by
  show Option.map (setM M') ((match st with
    | .int x :: r => pGo (pc + 1) L (.long x.toInt64 :: r) sh M
    | _ => none)) = ((match st with
    | .int x :: r => pGo (pc + 1) L (.long x.toInt64 :: r) sh M'
    | _ => none))
  (repeat' split) <;> first | rfl | exact fr_jp M M' | exact fr_br M M' | exact fr_pLdcS M M'
theorem fr_l2i : frM (fun M => pstep S o ini nL (.l2i) 1 pc L st sh M) := fun M M' => by
  show Option.map (setM M') ((match st with
    | .long x :: r => pGo (pc + 1) L (.int x.toInt32 :: r) sh M
    | _ => none)) = ((match st with
    | .long x :: r => pGo (pc + 1) L (.int x.toInt32 :: r) sh M'
    | _ => none))
  (repeat' split) <;> first | rfl | exact fr_jp M M' | exact fr_br M M' | exact fr_pLdcS M M'
theorem fr_dup : frM (fun M => pstep S o ini nL (.dup) 1 pc L st sh M) := fun M M' => by
  show Option.map (setM M') ((match st with
    | v :: r => if v.category = 1 then pGo (pc + 1) L (v :: v :: r) sh M else none
    | _ => none)) = ((match st with
    | v :: r => if v.category = 1 then pGo (pc + 1) L (v :: v :: r) sh M' else none
    | _ => none))
  (repeat' split) <;> first | rfl | exact fr_jp M M' | exact fr_br M M' | exact fr_pLdcS M M'
theorem fr_pop : frM (fun M => pstep S o ini nL (.pop) 1 pc L st sh M) := fun M M' => by
  show Option.map (setM M') ((match st with
    | v :: r => if v.category = 1 then pGo (pc + 1) L r sh M else none
    | _ => none)) = ((match st with
    | v :: r => if v.category = 1 then pGo (pc + 1) L r sh M' else none
    | _ => none))
  (repeat' split) <;> first | rfl | exact fr_jp M M' | exact fr_br M M' | exact fr_pLdcS M M'
theorem fr_dup2 : frM (fun M => pstep S o ini nL (.dup2) 1 pc L st sh M) := fun M M' => by
  show Option.map (setM M') ((match st with
    | v :: u :: r => if v.category = 1 ∧ u.category = 1 then pGo (pc + 1) L (v :: u :: v :: u :: r) sh M else none
    | _ => none)) = ((match st with
    | v :: u :: r => if v.category = 1 ∧ u.category = 1 then pGo (pc + 1) L (v :: u :: v :: u :: r) sh M' else none
    | _ => none))
  (repeat' split) <;> first | rfl | exact fr_jp M M' | exact fr_br M M' | exact fr_pLdcS M M'
theorem fr_ifCond {c : Jvm.ClassFile.Cond} {off : Int} : frM (fun M => pstep S o ini nL (.ifCond c off) 3 pc L st sh M) := fun M M' => by
  show Option.map (setM M') ((match st with
    | .int x :: r => pBr (pC c x 0) pc off L r sh M
    | _ => none)) = ((match st with
    | .int x :: r => pBr (pC c x 0) pc off L r sh M'
    | _ => none))
  (repeat' split) <;> first | rfl | exact fr_jp M M' | exact fr_br M M' | exact fr_pLdcS M M'
theorem fr_if_icmp {c : Jvm.ClassFile.Cond} {off : Int} : frM (fun M => pstep S o ini nL (.if_icmp c off) 3 pc L st sh M) := fun M M' => by
  show Option.map (setM M') ((match st with
    | .int y :: .int x :: r => pBr (pC c x y) pc off L r sh M
    | _ => none)) = ((match st with
    | .int y :: .int x :: r => pBr (pC c x y) pc off L r sh M'
    | _ => none))
  (repeat' split) <;> first | rfl | exact fr_jp M M' | exact fr_br M M' | exact fr_pLdcS M M'
theorem fr_ifnull {off : Int} : frM (fun M => pstep S o ini nL (.ifnull off) 3 pc L st sh M) := fun M M' => by
  show Option.map (setM M') ((match st with
    | .ref _ :: r => pGo (pc + 3) L r sh M
    | .null :: r => pJp pc off L r sh M
    | _ => none)) = ((match st with
    | .ref _ :: r => pGo (pc + 3) L r sh M'
    | .null :: r => pJp pc off L r sh M'
    | _ => none))
  (repeat' split) <;> first | rfl | exact fr_jp M M' | exact fr_br M M' | exact fr_pLdcS M M'
theorem fr_ifnonnull {off : Int} : frM (fun M => pstep S o ini nL (.ifnonnull off) 3 pc L st sh M) := fun M M' => by
  show Option.map (setM M') ((match st with
    | .ref _ :: r => pJp pc off L r sh M
    | .null :: r => pGo (pc + 3) L r sh M
    | _ => none)) = ((match st with
    | .ref _ :: r => pJp pc off L r sh M'
    | .null :: r => pGo (pc + 3) L r sh M'
    | _ => none))
  (repeat' split) <;> first | rfl | exact fr_jp M M' | exact fr_br M M' | exact fr_pLdcS M M'
theorem fr_ldc {idx : Nat} : frM (fun M => pstep S o ini nL (.ldc idx) 2 pc L st sh M) := fun M M' => by
  show Option.map (setM M') ((match (tCst.getD o []).find? (fun e => e.1 == idx) with
    | some (_, v) => pGo (pc + 2) L (.int v :: st) sh M
    | none => pLdcS S o idx pc L st sh M)) = ((match (tCst.getD o []).find? (fun e => e.1 == idx) with
    | some (_, v) => pGo (pc + 2) L (.int v :: st) sh M'
    | none => pLdcS S o idx pc L st sh M'))
  (repeat' split) <;> first | rfl | exact fr_jp M M' | exact fr_br M M' | exact fr_pLdcS M M'
theorem fr_ldc2_w {idx : Nat} : frM (fun M => pstep S o ini nL (.ldc2_w idx) 3 pc L st sh M) := fun M M' => by
  show Option.map (setM M') ((match (tCsl.getD o []).find? (fun e => e.1 == idx) with
    | some (_, v) => pGo (pc + 3) L (.long v :: st) sh M
    | none => none)) = ((match (tCsl.getD o []).find? (fun e => e.1 == idx) with
    | some (_, v) => pGo (pc + 3) L (.long v :: st) sh M'
    | none => none))
  (repeat' split) <;> first | rfl | exact fr_jp M M' | exact fr_br M M' | exact fr_pLdcS M M'
theorem fr_pCall {kd idx : Nat} : frM (fun M => pCall kd o idx pc L st sh M) := fun M M' => by
  unfold pCall
  split
  · split
    · split
      · split <;> rfl
      · split
        · split
          · split <;> rfl
          · rfl
        · rfl
    · rfl
  · rfl
theorem fr_invokevirtual {idx : Nat} : frM (fun M => pstep S o ini nL (.invokevirtual idx) 3 pc L st sh M) := fun M M' => by
  show Option.map (setM M') (match pCall 1 o idx pc L st sh M with | some r => some r | none => pJdkV S o idx pc L st sh M) = (match pCall 1 o idx pc L st sh M' with | some r => some r | none => pJdkV S o idx pc L st sh M')
  have h := fr_pCall (kd := 1) (o := o) (idx := idx) (pc := pc) (L := L) (st := st) (sh := sh) M M'
  have h : Option.map (setM M') (pCall 1 o idx pc L st sh M) = pCall 1 o idx pc L st sh M' := h
  rw [← h]
  cases pCall 1 o idx pc L st sh M with
  | none => exact fr_pJdkV M M'
  | some r => rfl
theorem sim_fr {F : pMem → Option pRes} {r : pRes} (hf : frM F) (hR : sR M M') (h : F M = some r) : ∃ r', F M' = some r' ∧ sQr r r' := by
  have h1 := hf M M'
  have h2 := hf M M
  rw [h] at h1 h2
  have h2 : some (setM M r) = some r := h2
  have h2 := Option.some.inj h2
  refine ⟨_, h1.symm, ?_⟩
  match r, h2 with
  | .inl (pc1, L1, st1, sh1, M1), h2 =>
    cases h2
    exact ⟨rfl, rfl, rfl, rfl, hR⟩
  | .inr (.inl u), _ => exact trivial
  | .inr (.inr (m, as, pc1, L1, st1, sh1, M1)), h2 =>
    cases h2
    exact ⟨rfl, rfl, rfl, rfl, rfl, rfl, hR⟩
theorem sq_go {pc' : Nat} {L' : pLs} {st' : List Value} {sh' : pSh} {M1 M1' : pMem} {r : pRes} (hR : sR M1 M1') (h : pGo pc' L' st' sh' M1 = some r) : ∃ r', pGo pc' L' st' sh' M1' = some r' ∧ sQr r r' := by
  cases h
  exact ⟨_, rfl, rfl, rfl, rfl, rfl, hR⟩
theorem sim_pArrSt {r : pRes} (hR : sR M M') (h : pArrSt i pc L st sh M = some r) : ∃ r', pArrSt i pc L st sh M' = some r' ∧ sQr r r' := by
  unfold pArrSt at h ⊢
  split at h
  · split at h
    · rename_i hs
      split at h
      · rename_i hp
        try simp only [hs, hp, if_true]
        split at h
        · exact sq_go (hR.up _ _ _) h
        · exact sq_go (hR.up _ _ _) h
        · exact sq_go (hR.up _ _ _) h
        · split at h
          · rename_i hx
            try simp only [hx]
            exact sq_go (hR.up _ _ _) h
          · cases h
        · split at h
          · rename_i hx
            try simp only [hx]
            exact sq_go (hR.up _ _ _) h
          · cases h
        · cases h
      · cases h
    · cases h
  · cases h
theorem sim_pPutF {idx : Nat} {r : pRes} (hR : sR M M') (h : pPutF o ini idx pc L st sh M = some r) : ∃ r', pPutF o ini idx pc L st sh M' = some r' ∧ sQr r r' := by
  unfold pPutF at h ⊢
  split at h
  · split at h
    · rename_i hf hs
      split at h
      · rename_i hc
        try simp only [hf, hs]
        rw [if_pos hc]
        split at h
        · rename_i ht
          split at h
          · rename_i hn
            try simp only [ht]
            rw [if_pos hn]
            exact sq_go (hR.up _ _ _) h
          · cases h
        · cases h
      · cases h
    · cases h
  · cases h
theorem sim_pJdkS {idx : Nat} {r : pRes} (hR : sR M M') (h : pJdkS o idx pc L st sh M = some r) : ∃ r', pJdkS o idx pc L st sh M' = some r' ∧ sQr r r' := by
  unfold pJdkS at h ⊢
  split at h
  · rename_i q hq
    try simp only [hq]
    split at h
    · split at h
      · rename_i hc
        simp only [hc, if_true]
        exact sq_go hR h
      · cases h
    · cases h
  · rename_i q hq
    try simp only [hq]
    split at h
    · split at h
      · rename_i hc
        simp only [hc, if_true]
        exact sq_go hR h
      · cases h
    · cases h
  · rename_i q hq
    try simp only [hq]
    split at h
    · split at h
      · rename_i hc
        simp only [hc, if_true]
        exact sq_go hR h
      · cases h
    · cases h
  · rename_i q hq
    try simp only [hq]
    split at h
    · rename_i n dp d sp s r0
      split at h
      · rename_i k0 n0 k1 n1 h1 h2
        split at h
        · rename_i hc
          have hrd : ∀ j, j < n.toNatClampNeg → M' s (sp.toNatClampNeg + j) = M s (sp.toNatClampNeg + j) := by
            intro j hj
            have h3 := List.all_eq_true.mp hc.2.2.1 j (List.mem_range.mpr hj)
            refine hR.rd rfl (fun e => ?_)
            rw [e] at h3
            rcases hc.2.1 with e2 | e2
            · rw [e2] at h3
              cases h3
            · rw [e2] at h3
              cases h3
          have hc' : k0 = k1 ∧ (k0 = 13 ∨ k0 = 14) ∧ ((List.range n.toNatClampNeg).all (fun i => fits (pCk k0) (M' s (sp.toNatClampNeg + i))) = true) ∧ ¬ sp < 0 ∧ ¬ dp < 0 ∧ ¬ n < 0 ∧ sp.toNatClampNeg + n.toNatClampNeg ≤ n0 ∧ dp.toNatClampNeg + n.toNatClampNeg ≤ n1 ∧ pCat r0 = true := by
            refine ⟨hc.1, hc.2.1, List.all_eq_true.mpr (fun j hj => ?_), hc.2.2.2⟩
            rw [hrd j (List.mem_range.mp hj)]
            exact List.all_eq_true.mp hc.2.2.1 j hj
          try simp only [h1, h2]
          rw [if_pos hc']
          refine sq_go ?_ h
          intro a j
          unfold pCpy
          cases e : (Nat.beq a d && (Nat.ble dp.toNatClampNeg j && Nat.blt j (dp.toNatClampNeg + n.toNatClampNeg))) with
          | false => exact hR a j
          | true =>
            obtain ⟨-, e⟩ := Bool.and_eq_true_iff.mp e
            obtain ⟨e1, e2⟩ := Bool.and_eq_true_iff.mp e
            have e1 := Nat.le_of_ble_eq_true e1
            have e2 := (blt_iff _ _).mp e2
            exact Or.inl (hrd (j - dp.toNatClampNeg) (by omega)).symm
        · cases h
      · cases h
    · cases h
  · cases h
theorem sim_pNewO {idx : Nat} {r : pRes} (hR : sR M M') (h : pNewO o idx pc L st sh M = some r) : ∃ r', pNewO o idx pc L st sh M' = some r' ∧ sQr r r' := by
  unfold pNewO at h ⊢
  split at h
  · rename_i hq
    try simp only [hq]
    split at h
    · rename_i hc
      rw [if_pos hc]
      exact sq_go (hR.nw _ _) h
    · cases h
  · cases h
theorem sim_pNewA {t : ArrayType} {r : pRes} (hR : sR M M') (h : pNewA t pc L st sh M = some r) : ∃ r', pNewA t pc L st sh M' = some r' ∧ sQr r r' := by
  unfold pNewA at h ⊢
  split at h
  · split at h
    · rename_i hq
      try simp only [hq]
      split at h
      · rename_i hc
        rw [if_pos hc]
        exact sq_go (hR.nw _ _) h
      · cases h
    · cases h
  · cases h
theorem sim_pNewR {idx : Nat} {r : pRes} (hR : sR M M') (h : pNewR o idx pc L st sh M = some r) : ∃ r', pNewR o idx pc L st sh M' = some r' ∧ sQr r r' := by
  unfold pNewR at h ⊢
  split at h
  · split at h
    · rename_i hq
      try simp only [hq]
      split at h
      · rename_i hc
        rw [if_pos hc]
        exact sq_go (hR.nw _ _) h
      · cases h
    · cases h
  · cases h
theorem sR_bif (hR : sR M M') (b c : Bool) (v w : Value) (a j : Nat) : (bif b then v else bif c then w else M a j) = (bif b then v else bif c then w else M' a j) ∨ (a = 197 ∧ (bif b then v else bif c then w else M a j) = .null) := by
  cases b with
  | true => exact Or.inl rfl
  | false =>
    cases c with
    | true => exact Or.inl rfl
    | false => exact hR a j
theorem sim_pNewM {idx dim : Nat} {r : pRes} (hR : sR M M') (h : pNewM o idx dim pc L st sh M = some r) : ∃ r', pNewM o idx dim pc L st sh M' = some r' ∧ sQr r r' := by
  unfold pNewM at h ⊢
  split at h
  · split at h
    · rename_i hq
      try simp only [hq]
      split at h
      · rename_i hc
        rw [if_pos hc]
        refine sq_go ?_ h
        intro a j
        exact sR_bif hR _ _ _ _ a j
      · cases h
    · cases h
  · cases h
theorem sim_static {idx : Nat} {r : pRes} (hR : sR M M') (h : pstep S o ini nL (.invokestatic idx) 3 pc L st sh M = some r) : ∃ r', pstep S o ini nL (.invokestatic idx) 3 pc L st sh M' = some r' ∧ sQr r r' := by
  have h : (match pCall 0 o idx pc L st sh M with | some r => some r | none => pJdkS o idx pc L st sh M) = some r := h
  show ∃ r', (match pCall 0 o idx pc L st sh M' with | some r => some r | none => pJdkS o idx pc L st sh M') = some r' ∧ sQr r r'
  have hf : Option.map (setM M') (pCall 0 o idx pc L st sh M) = pCall 0 o idx pc L st sh M' := fr_pCall M M'
  split at h
  · rename_i r1 hc
    cases h
    obtain ⟨r', h1, h2⟩ := sim_fr fr_pCall hR hc
    have h1 : pCall 0 o idx pc L st sh M' = some r' := h1
    rw [h1]
    exact ⟨_, rfl, h2⟩
  · rename_i hc
    rw [hc] at hf
    rw [← hf]
    exact sim_pJdkS hR h
theorem tFld13 : tFld.all (fun l => l.all (fun e => Nat.blt e.2.1 13)) = true := by decide +kernel
theorem tFld_ne {idx : Nat} : ∀ q ci k, pFindI tFld o idx = some (q, ci, k) → ci ≠ 13 := by
  intro q ci k h
  unfold pFindI at h
  have h1 := List.mem_of_find?_eq_some h
  have h2 := List.all_eq_true.mp (List.all_eq_true.mp tFld13 _ (getD_mem h1)) _ h1
  have h3 := (blt_iff _ _).mp h2
  have h3 : ci < 13 := h3
  omega
theorem sim_step {r : pRes} (hi : ∀ idx, i ≠ .invokespecial idx) (h7 : sh[197]? = some (13, n7)) (hR : sR M M') (h : pstep S o ini nL i len pc L st sh M = some r) : ∃ r', pstep S o ini nL i len pc L st sh M' = some r' ∧ sQr r r' := by
  unfold pstep at h
  split at h
  all_goals first
    | exact sim_fr fr_go hR h
    | exact sim_fr fr_jp hR h
    | exact sim_fr fr_pLoadI hR h
    | exact sim_fr fr_pLoadL hR h
    | exact sim_fr fr_pLoadA hR h
    | exact sim_fr fr_pStoI hR h
    | exact sim_fr fr_pStoL hR h
    | exact sim_fr fr_pStoA hR h
    | exact sim_fr fr_pInt hR h
    | exact sim_fr fr_pLong hR h
    | exact sim_fr fr_pLen hR h
    | exact sim_fr fr_pTbl hR h
    | exact sim_fr fr_pLkp hR h
    | exact sim_pArrLd hR h
    | exact sim_pArrSt hR h
    | exact sim_pGetF h7 hR tFld_ne h
    | exact sim_pPutF hR h
    | exact sim_pNewO hR h
    | exact sim_pNewA hR h
    | exact sim_pNewR hR h
    | exact sim_pNewM hR h
    | exact absurd rfl (hi _)
    | exact sim_fr fr_invokevirtual hR h
    | exact sim_static hR h
    | exact sim_fr fr_iinc hR h
    | exact sim_fr fr_idiv hR h
    | exact sim_fr fr_irem hR h
    | exact sim_fr fr_ineg hR h
    | exact sim_fr fr_ldiv hR h
    | exact sim_fr fr_lneg hR h
    | exact sim_fr fr_lshl hR h
    | exact sim_fr fr_lcmp hR h
    | exact sim_fr fr_i2l hR h
    | exact sim_fr fr_l2i hR h
    | exact sim_fr fr_dup hR h
    | exact sim_fr fr_pop hR h
    | exact sim_fr fr_dup2 hR h
    | exact sim_fr fr_ifCond hR h
    | exact sim_fr fr_if_icmp hR h
    | exact sim_fr fr_ifnull hR h
    | exact sim_fr fr_ifnonnull hR h
    | exact sim_fr fr_ldc hR h
    | exact sim_fr fr_ldc2_w hR h
    | (cases h; exact ⟨_, rfl, trivial⟩)
    | cases h
end SIM
theorem sh7 {sh sh' : pSh} {n7 : Nat} (h7 : sh[197]? = some (13, n7)) (h : ∃ t, sh' = sh ++ t) : sh'[197]? = some (13, n7) := by
  obtain ⟨t, rfl⟩ := h
  have hl : 197 < sh.length := by
    rcases Nat.lt_or_ge 197 sh.length with hl | hl
    · exact hl
    · rw [List.getElem?_eq_none hl] at h7
      cases h7
  rw [List.getElem?_append_left hl]
  exact h7
theorem sim_run {S : pScr} {o nL n7 : Nat} {code : Nat → Option (Instr × Nat)} {call : Nat → List Value → pHp → Option (Option Value × pHp)} (hcode : ∀ pc i len, code pc = some (i, len) → ∀ idx, i ≠ .invokespecial idx) (hcall : ∀ (m : Nat) (as : List Value) (sh : pSh) (M M' : pMem) (v : Option Value) (sh2 : pSh) (M2 : pMem), ¬ pKind.getD m 9 = 2 → sh[197]? = some (13, n7) → sR M M' → call m as (sh, M) = some (v, sh2, M2) → (∃ t, sh2 = sh ++ t) ∧ ∃ M2', call m as (sh, M') = some (v, sh2, M2') ∧ sR M2 M2') : ∀ (n pc : Nat) (L : pLs) (st : List Value) (sh : pSh) (M M' : pMem) (i : Instr) (len : Nat) (τ : pSt), sh[197]? = some (13, n7) → sR M M' → prun S o false nL code call n (pc, L, st, sh, M) = some (i, len, τ) → ∃ τ', prun S o false nL code call n (pc, L, st, sh, M') = some (i, len, τ') ∧ sS τ τ' := by
  intro n
  induction n with
  | zero => intro pc L st sh M M' i len τ _ _ h; cases h
  | succ n ih =>
    intro pc L st sh M M' i len τ h7 hR h
    unfold prun at h ⊢
    split at h
    · cases h
    · rename_i i1 len1 hc
      have hi := hcode _ _ _ hc
      try simp only [hc]
      split at h
      · cases h
      · rename_i σ hs
        obtain ⟨r', k1, k2⟩ := sim_step hi h7 hR hs
        have h8 := sh7 h7 (kF_step hi hs).1
        obtain ⟨pc1, L1, st1, sh1, M1⟩ := σ
        match r', k1, k2 with
        | .inl (pc2, L2, st2, sh2, M2), k1, k2 =>
          obtain ⟨e1, e2, e3, e4, hR2⟩ := k2
          have e1 : pc2 = pc1 := e1
          have e2 : L2 = L1 := e2
          have e3 : st2 = st1 := e3
          have e4 : sh2 = sh1 := e4
          subst e1
          subst e2
          subst e3
          subst e4
          simp only [k1]
          exact ih _ _ _ _ _ _ _ _ _ h8 hR2 h
      · rename_i u hs
        obtain ⟨r', k1, k2⟩ := sim_step hi h7 hR hs
        match r', k1, k2 with
        | .inr (.inl _), k1, _ =>
          simp only [k1]
          cases h
          exact ⟨_, rfl, rfl, rfl, rfl, rfl, hR⟩
      · rename_i mi as pc' L' st' sh' M1 hs
        obtain ⟨r', k1, k2⟩ := sim_step hi h7 hR hs
        obtain ⟨f1, f2, f3⟩ := cl_step hi hs
        subst f1
        subst f2
        match r', k1, k2 with
        | .inr (.inr (m2, as2, pc2, L2, st2, sh2, M2)), k1, k2 =>
          obtain ⟨d1, d2, e1, e2, e3, e4, hR2⟩ := k2
          have e1 : pc2 = pc' := e1
          have e2 : L2 = L' := e2
          have e3 : st2 = st' := e3
          have e4 : sh2 = sh' := e4
          subst d1
          subst d2
          subst e1
          subst e2
          subst e3
          subst e4
          simp only [k1]
          split at h
          · cases h
          · rename_i v sh3 M3 hcl
            obtain ⟨g1, M3', g2, g3⟩ := hcall _ _ _ _ _ _ _ _ f3 h7 hR2 hcl
            simp only [g2]
            exact ih _ _ _ _ _ _ _ _ _ (sh7 h7 g1) g3 h
theorem sim_pcall {S : pScr} {G n7 : Nat} : ∀ (d m : Nat) (as : List Value) (sh : pSh) (M M' : pMem) (v : Option Value) (sh2 : pSh) (M2 : pMem), ¬ pKind.getD m 9 = 2 → sh[197]? = some (13, n7) → sR M M' → pcallG pCode S G d m as (sh, M) = some (v, sh2, M2) → (∃ t, sh2 = sh ++ t) ∧ ∃ M2', pcallG pCode S G d m as (sh, M') = some (v, sh2, M2') ∧ sR M2 M2' := by
  intro d
  induction d with
  | zero => intro m as sh M M' v sh2 M2 _ _ _ h; cases h
  | succ d ih =>
    intro m as sh M M' v sh2 M2 hm h7 hR h
    refine ⟨(kF_pcall (d + 1) m as sh M v sh2 M2 hm h).1, ?_⟩
    unfold pcallG at h ⊢
    split at h
    · rename_i hl
      rw [if_pos hl]
      split at h
      · cases h
      · rename_i i len pcr Lr st sh3 M3 hr
        have e : (pKind.getD m 9 == 2) = false := by
          rw [beq_eq_false_iff_ne]
          exact hm
        rw [e] at hr ⊢
        obtain ⟨⟨pcr', Lr', st', sh3', M3'⟩, k1, e1, e2, e3, e4, k2⟩ := sim_run (n7 := n7) (fun pc i len hc => noSp_at hm hc) (fun m as sh M M' v sh2 M2 hm h7 hR h => ih m as sh M M' v sh2 M2 hm h7 hR h) _ _ _ _ _ _ M' _ _ _ h7 hR hr
        have e1 : pcr' = pcr := e1
        have e2 : Lr' = Lr := e2
        have e3 : st' = st := e3
        have e4 : sh3' = sh3 := e4
        subst e1
        subst e2
        subst e3
        subst e4
        simp only [k1]
        split at h
        · cases h
        · rename_i v' hv
          simp only [hv]
          cases h
          exact ⟨_, rfl, k2⟩
    · cases h
theorem prun_fuel {S : pScr} {o nL : Nat} {ini : Bool} {code : Nat → Option (Instr × Nat)} {call : Nat → List Value → pHp → Option (Option Value × pHp)} : ∀ (n n' : Nat) (σ : pSt) (r : Instr × Nat × pSt), n ≤ n' → prun S o ini nL code call n σ = some r → prun S o ini nL code call n' σ = some r := by
  intro n
  induction n with
  | zero => intro n' σ r _ h; cases h
  | succ n ih =>
    intro n' σ r hn h
    obtain ⟨n', rfl⟩ : ∃ q, n' = q + 1 := ⟨n' - 1, by omega⟩
    obtain ⟨pc, L, st, sh, M⟩ := σ
    unfold prun at h ⊢
    split at h
    · cases h
    · rename_i i len hc
      split at h
      · cases h
      · exact ih _ _ _ (by omega) h
      · exact h
      · split at h
        · cases h
        · exact ih _ _ _ (by omega) h
theorem pcallG_fuel {S : pScr} {F G : Nat} (hG : F ≤ G) : ∀ (d m : Nat) (as : List Value) (hp : pHp) (r : Option Value × pHp), pcallG pCode S F d m as hp = some r → pcallG pCode S G d m as hp = some r := by
  intro d
  induction d with
  | zero => intro m as hp r h; cases h
  | succ d ih =>
    intro m as hp r h
    obtain ⟨sh, M⟩ := hp
    unfold pcallG at h ⊢
    split at h
    · rename_i hl
      rw [if_pos hl]
      split at h
      · cases h
      · rename_i i len pcr Lr st sh2 M2 hr
        rw [prun_fuel F G _ _ hG (prun_deep (fun m as hp r h => ih m as hp r h) F _ _ hr)]
        exact h
    · cases h
theorem sim_c {S : pScr} {d m : Nat} {as : List Value} {M M' : pMem} {Post : Option Value → pHp → Prop} (hm : ¬ pKind.getD m 9 = 2) (hR : sR M M') (h : cOk S d m as (gSh, M) Post) : cOk S d m as (gSh, M') (fun v hp => ∃ hp0, Post v hp0 ∧ hp.1 = hp0.1 ∧ sR hp0.2 hp.2) := by
  obtain ⟨v, ⟨sh2, M2⟩, F, h1, h2⟩ := h
  have h7 : gSh[197]? = some (13, 93600) := by decide +kernel
  obtain ⟨-, M2', g1, g2⟩ := sim_pcall d m as gSh M M' v sh2 M2 hm h7 hR (h1 F (Nat.le_refl _))
  exact ⟨v, (sh2, M2'), F, fun G hG => pcallG_fuel hG d m as _ _ g1, (sh2, M2), h2, rfl, g2⟩

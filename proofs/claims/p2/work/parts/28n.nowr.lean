/-! which steps change memory; printed by wip/gen/gen28n.py -/
def nW (o : Nat) (ini : Bool) (nL : Nat) (i : Instr) (len pc : Nat) : Prop := ∀ (S : pScr) (L : pLs) (st : List Value) (sh : pSh) (M : pMem) (σ : pSt), pstep S o ini nL i len pc L st sh M = some (.inl σ) → σ.2.2.2 = (sh, M)
def nP (o : Nat) (ini : Bool) (nL : Nat) (i : Instr) (len pc : Nat) : Prop := ∀ (S : pScr) (L : pLs) (st : List Value) (sh : pSh) (M : pMem) (σ : pSt), pstep S o ini nL i len pc L st sh M = some (.inl σ) → ∃ (v : Value) (x : Nat) (r : List Value), st = v :: .ref x :: r ∧ ∀ o', o' ≠ x → σ.2.2.2.2 o' = M o'
def nA (o : Nat) (ini : Bool) (nL : Nat) (i : Instr) (len pc : Nat) : Prop := ∀ (S : pScr) (L : pLs) (st : List Value) (sh : pSh) (M : pMem) (σ : pSt), pstep S o ini nL i len pc L st sh M = some (.inl σ) → ∃ (v : Value) (z : Int32) (x : Nat) (r : List Value), st = v :: .int z :: .ref x :: r ∧ 0 ≤ z.toInt ∧ ∃ u, σ.2.2.2.2 = pUp M x z.toNatClampNeg u
def nY (o : Nat) (ini : Bool) (nL : Nat) (i : Instr) (len pc : Nat) : Prop := ∀ (S : pScr) (L : pLs) (st : List Value) (sh : pSh) (M : pMem) (σ : pSt), pstep S o ini nL i len pc L st sh M = some (.inl σ) → ∃ (u v : Value) (x : Nat) (r : List Value), st = u :: v :: .ref x :: r ∧ ∀ o', o' ≠ x → σ.2.2.2.2 o' = M o'
section NWR
variable {S : pScr} {o nL pc len : Nat} {ini : Bool} {i : Instr} {L : pLs} {st : List Value} {sh : pSh} {M : pMem} {σ : pSt}
theorem kp_go {M' : pMem} (h : pGo pc L st sh M' = some (.inl σ)) : σ.2.2.2 = (sh, M') := by
  have h : (some (.inl (pc, L, st, sh, M')) : Option pRes) = some (.inl σ) := h
  cases h
  rfl
theorem kp_jp {off : Int} (h : pJp pc off L st sh M = some (.inl σ)) : σ.2.2.2 = (sh, M) := by
  unfold pJp at h
  split at h
  · cases h
  · exact kp_go h
theorem kp_br {b : Bool} {off : Int} (h : pBr b pc off L st sh M = some (.inl σ)) : σ.2.2.2 = (sh, M) := by
  unfold pBr at h
  split at h
  · cases h
  · split at h <;> exact kp_go h
theorem pUp_ne {x k : Nat} {v : Value} {o' : Nat} (h : o' ≠ x) : pUp M x k v o' = M o' := by
  funext j
  exact pUp_other _ _ _ _ (fun z => h z.1)
theorem kp_pLoadI {a n : Nat} (h : pLoadI a n pc L st sh M = some (.inl σ)) : σ.2.2.2 = (sh, M) := by
  unfold pLoadI at h
  (repeat' split at h) <;> first | exact kp_go h | exact kp_jp h | cases h
theorem kp_pLoadL {a n : Nat} (h : pLoadL a n pc L st sh M = some (.inl σ)) : σ.2.2.2 = (sh, M) := by
  unfold pLoadL at h
  (repeat' split at h) <;> first | exact kp_go h | exact kp_jp h | cases h
theorem kp_pLoadA {a n : Nat} (h : pLoadA a n pc L st sh M = some (.inl σ)) : σ.2.2.2 = (sh, M) := by
  unfold pLoadA at h
  (repeat' split at h) <;> first | exact kp_go h | exact kp_jp h | cases h
theorem kp_pStoI {a n : Nat} (h : pStoI nL a n pc L st sh M = some (.inl σ)) : σ.2.2.2 = (sh, M) := by
  unfold pStoI at h
  (repeat' split at h) <;> first | exact kp_go h | exact kp_jp h | cases h
theorem kp_pStoL {a n : Nat} (h : pStoL nL a n pc L st sh M = some (.inl σ)) : σ.2.2.2 = (sh, M) := by
  unfold pStoL at h
  (repeat' split at h) <;> first | exact kp_go h | exact kp_jp h | cases h
theorem kp_pStoA {a n : Nat} (h : pStoA nL a n pc L st sh M = some (.inl σ)) : σ.2.2.2 = (sh, M) := by
  unfold pStoA at h
  (repeat' split at h) <;> first | exact kp_go h | exact kp_jp h | cases h
theorem kp_pInt {op : Int32 → Int32 → Int32} (h : pInt op pc L st sh M = some (.inl σ)) : σ.2.2.2 = (sh, M) := by
  unfold pInt at h
  (repeat' split at h) <;> first | exact kp_go h | exact kp_jp h | cases h
theorem kp_pLong {op : Int64 → Int64 → Int64} (h : pLong op pc L st sh M = some (.inl σ)) : σ.2.2.2 = (sh, M) := by
  unfold pLong at h
  (repeat' split at h) <;> first | exact kp_go h | exact kp_jp h | cases h
theorem kp_pArrLd  (h : pArrLd S i pc L st sh M = some (.inl σ)) : σ.2.2.2 = (sh, M) := by
  unfold pArrLd at h
  (repeat' split at h) <;> first | exact kp_go h | exact kp_jp h | cases h
theorem kp_pGetF {idx : Nat} (h : pGetF o idx pc L st sh M = some (.inl σ)) : σ.2.2.2 = (sh, M) := by
  unfold pGetF at h
  (repeat' split at h) <;> first | exact kp_go h | exact kp_jp h | cases h
theorem kp_pLen  (h : pLen S pc L st sh M = some (.inl σ)) : σ.2.2.2 = (sh, M) := by
  unfold pLen at h
  (repeat' split at h) <;> first | exact kp_go h | exact kp_jp h | cases h
theorem kp_pTbl {dflt lo hi : Int} {offs : Array Int} (h : pTbl dflt lo hi offs pc L st sh M = some (.inl σ)) : σ.2.2.2 = (sh, M) := by
  unfold pTbl at h
  (repeat' split at h) <;> first | exact kp_go h | exact kp_jp h | cases h
theorem kp_pLkp {dflt : Int} {ps : Array (Int × Int)} (h : pLkp dflt ps pc L st sh M = some (.inl σ)) : σ.2.2.2 = (sh, M) := by
  unfold pLkp at h
  (repeat' split at h) <;> first | exact kp_go h | exact kp_jp h | cases h
theorem kp_pJdkV {S : pScr} {idx : Nat} (h : pJdkV S o idx pc L st sh M = some (.inl σ)) : σ.2.2.2 = (sh, M) := by
  unfold pJdkV at h
  (repeat' split at h) <;> first | exact kp_go h | cases h
theorem kp_pLdcS {S : pScr} {idx : Nat} (h : pLdcS S o idx pc L st sh M = some (.inl σ)) : σ.2.2.2 = (sh, M) := by
  unfold pLdcS at h
  (repeat' split at h) <;> first | exact kp_go h | cases h
theorem kp_pJdkI {idx : Nat} (h : pJdkI o idx pc L st sh M = some (.inl σ)) : σ.2.2.2 = (sh, M) := by
  unfold pJdkI at h
  (repeat' split at h) <;> first | exact kp_go h | exact kp_jp h | cases h
theorem kp_pJdkS {idx : Nat} (hj : ((tJdk.getD o []).find? (fun e => e.1 == idx)).all (fun q => !(Nat.beq q.2 4)) = true) (h : pJdkS o idx pc L st sh M = some (.inl σ)) : σ.2.2.2 = (sh, M) := by
  unfold pJdkS at h
  split at h
  · (repeat' split at h) <;> first | exact kp_go h | cases h
  · (repeat' split at h) <;> first | exact kp_go h | cases h
  · (repeat' split at h) <;> first | exact kp_go h | cases h
  · rename_i q hq
    rw [hq] at hj
    cases hj
  · cases h
theorem pCall_no {kd idx : Nat} (h : pCall kd o idx pc L st sh M = some (.inl σ)) : False := by
  unfold pCall at h
  (repeat' split at h) <;> cases h
theorem nw_iconst {n : Int} : nW o ini nL (.iconst n) 1 pc := fun S L st sh M σ (h : pGo (pc + 1) L (.int (Int32.ofInt n) :: st) sh M = some (.inl σ)) => kp_go h
theorem nw_bipush {n : Int} : nW o ini nL (.bipush n) 2 pc := fun S L st sh M σ (h : pGo (pc + 2) L (.int (Int8.ofInt n).toInt32 :: st) sh M = some (.inl σ)) => kp_go h
theorem nw_sipush {n : Int} : nW o ini nL (.sipush n) 3 pc := fun S L st sh M σ (h : pGo (pc + 3) L (.int (Int16.ofInt n).toInt32 :: st) sh M = some (.inl σ)) => kp_go h
theorem nw_lconst {n : Fin 2} : nW o ini nL (.lconst n) 1 pc := fun S L st sh M σ (h : pGo (pc + 1) L (.long (Int64.ofNat (n : Nat)) :: st) sh M = some (.inl σ)) => kp_go h
theorem nw_aconst_null  : nW o ini nL (.aconst_null) 1 pc := fun S L st sh M σ (h : pGo (pc + 1) L (.null :: st) sh M = some (.inl σ)) => kp_go h
theorem nw_iload {k : Nat} : nW o ini nL (.iload k) 2 pc := fun S L st sh M σ (h : pLoadI k 2 pc L st sh M = some (.inl σ)) => kp_pLoadI h
theorem nw_iload_n {k : Fin 4} : nW o ini nL (.iload_n k) 1 pc := fun S L st sh M σ (h : pLoadI k 1 pc L st sh M = some (.inl σ)) => kp_pLoadI h
theorem nw_lload {k : Nat} : nW o ini nL (.lload k) 2 pc := fun S L st sh M σ (h : pLoadL k 2 pc L st sh M = some (.inl σ)) => kp_pLoadL h
theorem nw_lload_n {k : Fin 4} : nW o ini nL (.lload_n k) 1 pc := fun S L st sh M σ (h : pLoadL k 1 pc L st sh M = some (.inl σ)) => kp_pLoadL h
theorem nw_aload {k : Nat} : nW o ini nL (.aload k) 2 pc := fun S L st sh M σ (h : pLoadA k 2 pc L st sh M = some (.inl σ)) => kp_pLoadA h
theorem nw_aload_n {k : Fin 4} : nW o ini nL (.aload_n k) 1 pc := fun S L st sh M σ (h : pLoadA k 1 pc L st sh M = some (.inl σ)) => kp_pLoadA h
theorem nw_istore {k : Nat} : nW o ini nL (.istore k) 2 pc := fun S L st sh M σ (h : pStoI nL k 2 pc L st sh M = some (.inl σ)) => kp_pStoI h
theorem nw_istore_n {k : Fin 4} : nW o ini nL (.istore_n k) 1 pc := fun S L st sh M σ (h : pStoI nL k 1 pc L st sh M = some (.inl σ)) => kp_pStoI h
theorem nw_lstore {k : Nat} : nW o ini nL (.lstore k) 2 pc := fun S L st sh M σ (h : pStoL nL k 2 pc L st sh M = some (.inl σ)) => kp_pStoL h
theorem nw_lstore_n {k : Fin 4} : nW o ini nL (.lstore_n k) 1 pc := fun S L st sh M σ (h : pStoL nL k 1 pc L st sh M = some (.inl σ)) => kp_pStoL h
theorem nw_astore {k : Nat} : nW o ini nL (.astore k) 2 pc := fun S L st sh M σ (h : pStoA nL k 2 pc L st sh M = some (.inl σ)) => kp_pStoA h
theorem nw_astore_n {k : Fin 4} : nW o ini nL (.astore_n k) 1 pc := fun S L st sh M σ (h : pStoA nL k 1 pc L st sh M = some (.inl σ)) => kp_pStoA h
theorem nw_iadd  : nW o ini nL (.iadd) 1 pc := fun S L st sh M σ (h : pInt (fun x y => x + y) pc L st sh M = some (.inl σ)) => kp_pInt h
theorem nw_isub  : nW o ini nL (.isub) 1 pc := fun S L st sh M σ (h : pInt (fun x y => x - y) pc L st sh M = some (.inl σ)) => kp_pInt h
theorem nw_imul  : nW o ini nL (.imul) 1 pc := fun S L st sh M σ (h : pInt (fun x y => x * y) pc L st sh M = some (.inl σ)) => kp_pInt h
theorem nw_iand  : nW o ini nL (.iand) 1 pc := fun S L st sh M σ (h : pInt (fun x y => x &&& y) pc L st sh M = some (.inl σ)) => kp_pInt h
theorem nw_ior  : nW o ini nL (.ior) 1 pc := fun S L st sh M σ (h : pInt (fun x y => x ||| y) pc L st sh M = some (.inl σ)) => kp_pInt h
theorem nw_ishl  : nW o ini nL (.ishl) 1 pc := fun S L st sh M σ (h : pInt (fun x y => x <<< (y &&& 31)) pc L st sh M = some (.inl σ)) => kp_pInt h
theorem nw_ishr  : nW o ini nL (.ishr) 1 pc := fun S L st sh M σ (h : pInt (fun x y => x >>> (y &&& 31)) pc L st sh M = some (.inl σ)) => kp_pInt h
theorem nw_iushr  : nW o ini nL (.iushr) 1 pc := fun S L st sh M σ (h : pInt (fun x y => (x.toUInt32 >>> (y.toUInt32 &&& Int32.toUInt32 31)).toInt32) pc L st sh M = some (.inl σ)) => kp_pInt h
theorem nw_ladd  : nW o ini nL (.ladd) 1 pc := fun S L st sh M σ (h : pLong (fun x y => x + y) pc L st sh M = some (.inl σ)) => kp_pLong h
theorem nw_lsub  : nW o ini nL (.lsub) 1 pc := fun S L st sh M σ (h : pLong (fun x y => x - y) pc L st sh M = some (.inl σ)) => kp_pLong h
theorem nw_lmul  : nW o ini nL (.lmul) 1 pc := fun S L st sh M σ (h : pLong (fun x y => x * y) pc L st sh M = some (.inl σ)) => kp_pLong h
theorem nw_lor  : nW o ini nL (.lor) 1 pc := fun S L st sh M σ (h : pLong (fun x y => x ||| y) pc L st sh M = some (.inl σ)) => kp_pLong h
theorem nw_iaload  : nW o ini nL (.iaload) 1 pc := fun S L st sh M σ (h : pArrLd S .iaload pc L st sh M = some (.inl σ)) => kp_pArrLd h
theorem nw_baload  : nW o ini nL (.baload) 1 pc := fun S L st sh M σ (h : pArrLd S .baload pc L st sh M = some (.inl σ)) => kp_pArrLd h
theorem nw_laload  : nW o ini nL (.laload) 1 pc := fun S L st sh M σ (h : pArrLd S .laload pc L st sh M = some (.inl σ)) => kp_pArrLd h
theorem nw_aaload  : nW o ini nL (.aaload) 1 pc := fun S L st sh M σ (h : pArrLd S .aaload pc L st sh M = some (.inl σ)) => kp_pArrLd h
theorem nw_arraylength  : nW o ini nL (.arraylength) 1 pc := fun S L st sh M σ (h : pLen S pc L st sh M = some (.inl σ)) => kp_pLen h
theorem nw_getfield {idx : Nat} : nW o ini nL (.getfield idx) 3 pc := fun S L st sh M σ (h : pGetF o idx pc L st sh M = some (.inl σ)) => kp_pGetF h
theorem nw_goto {off : Int} : nW o ini nL (.goto off) 3 pc := fun S L st sh M σ (h : pJp pc off L st sh M = some (.inl σ)) => kp_jp h
theorem nw_tableswitch {dflt lo hi : Int} {offs : Array Int} {len : Nat} : nW o ini nL (.tableswitch dflt lo hi offs) len pc := fun S L st sh M σ (h : pTbl dflt lo hi offs pc L st sh M = some (.inl σ)) => kp_pTbl h
theorem nw_iinc {k : Nat} {n : Int} : nW o ini nL (.iinc k n) 3 pc := by
  intro S L st sh M σ h
  have h : (match pLd L k with
    | some (.int x) => if k < nL then pGo (pc + 3) (pS1 L k (.int (x + Int32.ofInt n))) st sh M else none
    | _ => none) = some (.inl σ) := h
  (repeat' split at h) <;> first | exact kp_go h | exact kp_jp h | exact kp_br h | cases h
theorem nw_idiv  : nW o ini nL (.idiv) 1 pc := by
  intro S L st sh M σ h
  have h : (match st with
    | .int y :: .int x :: r => if y = 0 then none else pGo (pc + 1) L (.int (x / y) :: r) sh M
    | _ => none) = some (.inl σ) := h
  (repeat' split at h) <;> first | exact kp_go h | exact kp_jp h | exact kp_br h | cases h
theorem nw_irem  : nW o ini nL (.irem) 1 pc := by
  intro S L st sh M σ h
  have h : (match st with
    | .int y :: .int x :: r => if y = 0 then none else pGo (pc + 1) L (.int (x - x / y * y) :: r) sh M
    | _ => none) = some (.inl σ) := h
  (repeat' split at h) <;> first | exact kp_go h | exact kp_jp h | exact kp_br h | cases h
theorem nw_ineg  : nW o ini nL (.ineg) 1 pc := by
  intro S L st sh M σ h
  have h : (match st with
    | .int x :: r => pGo (pc + 1) L (.int (-x) :: r) sh M
    | _ => none) = some (.inl σ) := h
  (repeat' split at h) <;> first | exact kp_go h | exact kp_jp h | exact kp_br h | cases h
theorem nw_ldiv  : nW o ini nL (.ldiv) 1 pc := by
  intro S L st sh M σ h
  have h : (match st with
    | .long y :: .long x :: r => if y = 0 then none else pGo (pc + 1) L (.long (x / y) :: r) sh M
    | _ => none) = some (.inl σ) := h
  (repeat' split at h) <;> first | exact kp_go h | exact kp_jp h | exact kp_br h | cases h
theorem nw_lneg  : nW o ini nL (.lneg) 1 pc := by
  intro S L st sh M σ h
  have h : (match st with
    | .long x :: r => pGo (pc + 1) L (.long (-x) :: r) sh M
    | _ => none) = some (.inl σ) := h
  (repeat' split at h) <;> first | exact kp_go h | exact kp_jp h | exact kp_br h | cases h
theorem nw_lshl  : nW o ini nL (.lshl) 1 pc := by
  intro S L st sh M σ h
  have h : (match st with
    | .int y :: .long x :: r => pGo (pc + 1) L (.long (x <<< (y.toInt64 &&& 63)) :: r) sh M
    | _ => none) = some (.inl σ) := h
  (repeat' split at h) <;> first | exact kp_go h | exact kp_jp h | exact kp_br h | cases h
theorem nw_lcmp  : nW o ini nL (.lcmp) 1 pc := by
  intro S L st sh M σ h
  have h : (match st with
    | .long y :: .long x :: r => pGo (pc + 1) L (.int (lg_cmp x y) :: r) sh M
    | _ => none) = some (.inl σ) := h
  (repeat' split at h) <;> first | exact kp_go h | exact kp_jp h | exact kp_br h | cases h
theorem nw_i2l  : nW o ini nL (.i2l) 1 pc := by
  intro S L st sh M σ h
  have h : (match st with
    | .int x :: r => pGo (pc + 1) L (.long x.toInt64 :: r) sh M
    | _ => none) = some (.inl σ) := h
  (repeat' split at h) <;> first | exact kp_go h | exact kp_jp h | exact kp_br h | cases h
theorem nw_l2i  : nW o ini nL (.l2i) 1 pc := by
  intro S L st sh M σ h
  have h : (match st with
    | .long x :: r => pGo (pc + 1) L (.int x.toInt32 :: r) sh M
    | _ => none) = some (.inl σ) := h
  (repeat' split at h) <;> first | exact kp_go h | exact kp_jp h | exact kp_br h | cases h
theorem nw_dup  : nW o ini nL (.dup) 1 pc := by
  intro S L st sh M σ h
  have h : (match st with
    | v :: r => if v.category = 1 then pGo (pc + 1) L (v :: v :: r) sh M else none
    | _ => none) = some (.inl σ) := h
  (repeat' split at h) <;> first | exact kp_go h | exact kp_jp h | exact kp_br h | cases h
theorem nw_pop  : nW o ini nL (.pop) 1 pc := by
  intro S L st sh M σ h
  have h : (match st with
    | v :: r => if v.category = 1 then pGo (pc + 1) L r sh M else none
    | _ => none) = some (.inl σ) := h
  (repeat' split at h) <;> first | exact kp_go h | exact kp_jp h | exact kp_br h | cases h
theorem nw_dup2  : nW o ini nL (.dup2) 1 pc := by
  intro S L st sh M σ h
  have h : (match st with
    | v :: u :: r => if v.category = 1 ∧ u.category = 1 then pGo (pc + 1) L (v :: u :: v :: u :: r) sh M else none
    | _ => none) = some (.inl σ) := h
  (repeat' split at h) <;> first | exact kp_go h | exact kp_jp h | exact kp_br h | cases h
theorem nw_ifCond {c : Jvm.ClassFile.Cond} {off : Int} : nW o ini nL (.ifCond c off) 3 pc := by
  intro S L st sh M σ h
  have h : (match st with
    | .int x :: r => pBr (pC c x 0) pc off L r sh M
    | _ => none) = some (.inl σ) := h
  (repeat' split at h) <;> first | exact kp_go h | exact kp_jp h | exact kp_br h | cases h
theorem nw_if_icmp {c : Jvm.ClassFile.Cond} {off : Int} : nW o ini nL (.if_icmp c off) 3 pc := by
  intro S L st sh M σ h
  have h : (match st with
    | .int y :: .int x :: r => pBr (pC c x y) pc off L r sh M
    | _ => none) = some (.inl σ) := h
  (repeat' split at h) <;> first | exact kp_go h | exact kp_jp h | exact kp_br h | cases h
theorem nw_ifnull {off : Int} : nW o ini nL (.ifnull off) 3 pc := by
  intro S L st sh M σ h
  have h : (match st with
    | .ref _ :: r => pGo (pc + 3) L r sh M
    | .null :: r => pJp pc off L r sh M
    | _ => none) = some (.inl σ) := h
  (repeat' split at h) <;> first | exact kp_go h | exact kp_jp h | exact kp_br h | cases h
theorem nw_ifnonnull {off : Int} : nW o ini nL (.ifnonnull off) 3 pc := by
  intro S L st sh M σ h
  have h : (match st with
    | .ref _ :: r => pJp pc off L r sh M
    | .null :: r => pGo (pc + 3) L r sh M
    | _ => none) = some (.inl σ) := h
  (repeat' split at h) <;> first | exact kp_go h | exact kp_jp h | exact kp_br h | cases h
theorem nw_ldc {idx : Nat} : nW o ini nL (.ldc idx) 2 pc := by
  intro S L st sh M σ h
  have h : (match (tCst.getD o []).find? (fun e => e.1 == idx) with
    | some (_, v) => pGo (pc + 2) L (.int v :: st) sh M
    | none => pLdcS S o idx pc L st sh M) = some (.inl σ) := h
  (repeat' split at h) <;> first | exact kp_go h | exact kp_pLdcS h | exact kp_jp h | exact kp_br h | cases h
theorem nw_ldc2_w {idx : Nat} : nW o ini nL (.ldc2_w idx) 3 pc := by
  intro S L st sh M σ h
  have h : (match (tCsl.getD o []).find? (fun e => e.1 == idx) with
    | some (_, v) => pGo (pc + 3) L (.long v :: st) sh M
    | none => none) = some (.inl σ) := h
  (repeat' split at h) <;> first | exact kp_go h | exact kp_jp h | exact kp_br h | cases h
theorem nw_invokestatic {idx : Nat} (hj : ((tJdk.getD o []).find? (fun e => e.1 == idx)).all (fun q => !(Nat.beq q.2 4)) = true) : nW o ini nL (.invokestatic idx) 3 pc := by
  intro S L st sh M σ h
  have h : (match pCall 0 o idx pc L st sh M with | some r => some r | none => pJdkS o idx pc L st sh M) = some (.inl σ) := h
  split at h
  · rename_i r hr
    rw [h] at hr
    exact (pCall_no hr).elim
  · exact kp_pJdkS hj h
theorem nw_invokespecial {idx : Nat} : nW o ini nL (.invokespecial idx) 3 pc := by
  intro S L st sh M σ h
  have h : (match pCall 2 o idx pc L st sh M with | some r => some r | none => pJdkI o idx pc L st sh M) = some (.inl σ) := h
  split at h
  · rename_i r hr
    rw [h] at hr
    exact (pCall_no hr).elim
  · exact kp_pJdkI h
theorem nw_invokevirtual {idx : Nat} : nW o ini nL (.invokevirtual idx) 3 pc := by
  intro S L st sh M σ h
  have h : (match pCall 1 o idx pc L st sh M with | some r => some r | none => pJdkV S o idx pc L st sh M) = some (.inl σ) := h
  split at h
  · rename_i r hr
    rw [h] at hr
    exact (pCall_no hr).elim
  · exact kp_pJdkV h
theorem np_putfield {idx : Nat} : nP o ini nL (.putfield idx) 3 pc := by
  intro S L st sh M σ h
  have h : pPutF o ini idx pc L st sh M = some (.inl σ) := h
  cases st with
  | nil => simp [pPutF] at h
  | cons v st =>
    cases st with
    | nil => simp [pPutF] at h
    | cons u r =>
      cases u with
      | ref a =>
        refine ⟨v, a, r, rfl, fun o' ho => ?_⟩
        unfold pPutF at h
        simp only at h
        (repeat' split at h) <;> first | (rw [show σ.2.2.2.2 = _ from congrArg Prod.snd (kp_go h)]; exact pUp_ne ho) | cases h
      | _ => simp [pPutF] at h
theorem kp_pArrSt (h : pArrSt i pc L st sh M = some (.inl σ)) : ∃ (v : Value) (z : Int32) (x : Nat) (r : List Value), st = v :: .int z :: .ref x :: r ∧ 0 ≤ z.toInt ∧ ∃ u, σ.2.2.2.2 = pUp M x z.toNatClampNeg u := by
  unfold pArrSt at h
  split at h
  · rename_i v j a r
    split at h
    · split at h
      · rename_i hin
        refine ⟨v, j, a, r, rfl, ?_, ?_⟩
        · have hin := of_decide_eq_true hin
          have h0 : ¬ j < 0 := fun z => hin (Or.inl z)
          have := Int32.not_lt.mp h0
          simpa using Int32.le_iff_toInt_le.mp this
        · (repeat' split at h) <;> first | exact ⟨_, congrArg Prod.snd (kp_go h)⟩ | cases h
      · cases h
    · cases h
  · cases h
theorem na_iastore : nA o ini nL .iastore 1 pc := fun _ _ _ _ _ _ h => kp_pArrSt h
theorem na_bastore : nA o ini nL .bastore 1 pc := fun _ _ _ _ _ _ h => kp_pArrSt h
theorem na_lastore : nA o ini nL .lastore 1 pc := fun _ _ _ _ _ _ h => kp_pArrSt h
theorem na_aastore : nA o ini nL .aastore 1 pc := fun _ _ _ _ _ _ h => kp_pArrSt h
theorem ny_copy {idx q : Nat} (hj : (tJdk.getD o []).find? (fun e => e.1 == idx) = some (q, 4)) : nY o ini nL (.invokestatic idx) 3 pc := by
  intro S L st sh M σ h
  have h : (match pCall 0 o idx pc L st sh M with | some r => some r | none => pJdkS o idx pc L st sh M) = some (.inl σ) := h
  split at h
  · rename_i r hr
    rw [h] at hr
    exact (pCall_no hr).elim
  · unfold pJdkS at h
    split at h
    · rename_i q' hq
      rw [hj] at hq
      simp at hq
    · rename_i q' hq
      rw [hj] at hq
      simp at hq
    · rename_i q' hq
      rw [hj] at hq
      simp at hq
    · split at h
      · refine ⟨_, _, _, _, rfl, fun o' ho => ?_⟩
        (repeat' split at h) <;> first | (rw [show σ.2.2.2.2 = _ from congrArg Prod.snd (kp_go h)]; exact funext (pCpy_obj _ _ _ _ _ _ ho)) | cases h
      · cases h
    · cases h
end NWR

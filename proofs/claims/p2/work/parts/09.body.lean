/-! a method's whole body, from its entry to its return -/
theorem nc_pJp {off : Int} {pc : Nat} {L : pLs} {st : List Value} {sh : pSh} {M : pMem} (z : Nat × List Value × pSt) : ¬ pJp pc off L st sh M = some (.inr (.inr z)) := by
  intro h
  unfold pJp at h
  (repeat' split at h) <;> first | cases h
theorem nc_pBr {bo : Bool} {off : Int} {pc : Nat} {L : pLs} {st : List Value} {sh : pSh} {M : pMem} (z : Nat × List Value × pSt) : ¬ pBr bo pc off L st sh M = some (.inr (.inr z)) := by
  intro h
  unfold pBr at h
  (repeat' split at h) <;> first | cases h
theorem nc_pInt {f : Int32 → Int32 → Int32} {pc : Nat} {L : pLs} {st : List Value} {sh : pSh} {M : pMem} (z : Nat × List Value × pSt) : ¬ pInt f pc L st sh M = some (.inr (.inr z)) := by
  intro h
  unfold pInt at h
  (repeat' split at h) <;> first | cases h
theorem nc_pLong {f : Int64 → Int64 → Int64} {pc : Nat} {L : pLs} {st : List Value} {sh : pSh} {M : pMem} (z : Nat × List Value × pSt) : ¬ pLong f pc L st sh M = some (.inr (.inr z)) := by
  intro h
  unfold pLong at h
  (repeat' split at h) <;> first | cases h
theorem nc_pLoadI {i n : Nat} {pc : Nat} {L : pLs} {st : List Value} {sh : pSh} {M : pMem} (z : Nat × List Value × pSt) : ¬ pLoadI i n pc L st sh M = some (.inr (.inr z)) := by
  intro h
  unfold pLoadI at h
  (repeat' split at h) <;> first | cases h
theorem nc_pLoadL {i n : Nat} {pc : Nat} {L : pLs} {st : List Value} {sh : pSh} {M : pMem} (z : Nat × List Value × pSt) : ¬ pLoadL i n pc L st sh M = some (.inr (.inr z)) := by
  intro h
  unfold pLoadL at h
  (repeat' split at h) <;> first | cases h
theorem nc_pLoadA {i n : Nat} {pc : Nat} {L : pLs} {st : List Value} {sh : pSh} {M : pMem} (z : Nat × List Value × pSt) : ¬ pLoadA i n pc L st sh M = some (.inr (.inr z)) := by
  intro h
  unfold pLoadA at h
  (repeat' split at h) <;> first | cases h
theorem nc_pStoI {nL i n : Nat} {pc : Nat} {L : pLs} {st : List Value} {sh : pSh} {M : pMem} (z : Nat × List Value × pSt) : ¬ pStoI nL i n pc L st sh M = some (.inr (.inr z)) := by
  intro h
  unfold pStoI at h
  (repeat' split at h) <;> first | cases h
theorem nc_pStoL {nL i n : Nat} {pc : Nat} {L : pLs} {st : List Value} {sh : pSh} {M : pMem} (z : Nat × List Value × pSt) : ¬ pStoL nL i n pc L st sh M = some (.inr (.inr z)) := by
  intro h
  unfold pStoL at h
  (repeat' split at h) <;> first | cases h
theorem nc_pStoA {nL i n : Nat} {pc : Nat} {L : pLs} {st : List Value} {sh : pSh} {M : pMem} (z : Nat × List Value × pSt) : ¬ pStoA nL i n pc L st sh M = some (.inr (.inr z)) := by
  intro h
  unfold pStoA at h
  (repeat' split at h) <;> first | cases h
theorem nc_pArrLd {S : pScr} {i : Instr} {pc : Nat} {L : pLs} {st : List Value} {sh : pSh} {M : pMem} (z : Nat × List Value × pSt) : ¬ pArrLd S i pc L st sh M = some (.inr (.inr z)) := by
  intro h
  unfold pArrLd at h
  (repeat' split at h) <;> first | cases h
theorem nc_pArrSt {i : Instr} {pc : Nat} {L : pLs} {st : List Value} {sh : pSh} {M : pMem} (z : Nat × List Value × pSt) : ¬ pArrSt i pc L st sh M = some (.inr (.inr z)) := by
  intro h
  unfold pArrSt at h
  (repeat' split at h) <;> first | cases h
theorem nc_pGetF {o idx : Nat} {pc : Nat} {L : pLs} {st : List Value} {sh : pSh} {M : pMem} (z : Nat × List Value × pSt) : ¬ pGetF o idx pc L st sh M = some (.inr (.inr z)) := by
  intro h
  unfold pGetF at h
  (repeat' split at h) <;> first | cases h
theorem nc_pPutF {o idx : Nat} {ini : Bool} {pc : Nat} {L : pLs} {st : List Value} {sh : pSh} {M : pMem} (z : Nat × List Value × pSt) : ¬ pPutF o ini idx pc L st sh M = some (.inr (.inr z)) := by
  intro h
  unfold pPutF at h
  (repeat' split at h) <;> first | cases h
theorem nc_pJdkS {o idx : Nat} {pc : Nat} {L : pLs} {st : List Value} {sh : pSh} {M : pMem} (z : Nat × List Value × pSt) : ¬ pJdkS o idx pc L st sh M = some (.inr (.inr z)) := by
  intro h
  unfold pJdkS at h
  (repeat' split at h) <;> first | cases h
theorem nc_pJdkV {S : pScr} {o idx : Nat} {pc : Nat} {L : pLs} {st : List Value} {sh : pSh} {M : pMem} (z : Nat × List Value × pSt) : ¬ pJdkV S o idx pc L st sh M = some (.inr (.inr z)) := by
  intro h
  unfold pJdkV at h
  (repeat' split at h) <;> first | cases h
theorem nc_pLdcS {S : pScr} {o idx : Nat} {pc : Nat} {L : pLs} {st : List Value} {sh : pSh} {M : pMem} (z : Nat × List Value × pSt) : ¬ pLdcS S o idx pc L st sh M = some (.inr (.inr z)) := by
  intro h
  unfold pLdcS at h
  (repeat' split at h) <;> first | cases h
theorem nc_pJdkI {o idx : Nat} {pc : Nat} {L : pLs} {st : List Value} {sh : pSh} {M : pMem} (z : Nat × List Value × pSt) : ¬ pJdkI o idx pc L st sh M = some (.inr (.inr z)) := by
  intro h
  unfold pJdkI at h
  (repeat' split at h) <;> first | cases h
theorem nc_pLen {S : pScr} {pc : Nat} {L : pLs} {st : List Value} {sh : pSh} {M : pMem} (z : Nat × List Value × pSt) : ¬ pLen S pc L st sh M = some (.inr (.inr z)) := by
  intro h
  unfold pLen at h
  (repeat' split at h) <;> first | cases h
theorem nc_pTbl {dflt lo hi : Int} {offs : Array Int} {pc : Nat} {L : pLs} {st : List Value} {sh : pSh} {M : pMem} (z : Nat × List Value × pSt) : ¬ pTbl dflt lo hi offs pc L st sh M = some (.inr (.inr z)) := by
  intro h
  unfold pTbl at h
  (repeat' split at h) <;> first | cases h | exact absurd h (nc_pJp z)
theorem nc_pLkp {dflt : Int} {ps : Array (Int × Int)} {pc : Nat} {L : pLs} {st : List Value} {sh : pSh} {M : pMem} (z : Nat × List Value × pSt) : ¬ pLkp dflt ps pc L st sh M = some (.inr (.inr z)) := by
  intro h
  unfold pLkp at h
  (repeat' split at h) <;> first | cases h | exact absurd h (nc_pJp z)
theorem nc_pNewO {o idx : Nat} {pc : Nat} {L : pLs} {st : List Value} {sh : pSh} {M : pMem} (z : Nat × List Value × pSt) : ¬ pNewO o idx pc L st sh M = some (.inr (.inr z)) := by
  intro h
  unfold pNewO at h
  (repeat' split at h) <;> first | cases h
theorem nc_pNewA {t : ArrayType} {pc : Nat} {L : pLs} {st : List Value} {sh : pSh} {M : pMem} (z : Nat × List Value × pSt) : ¬ pNewA t pc L st sh M = some (.inr (.inr z)) := by
  intro h
  unfold pNewA at h
  (repeat' split at h) <;> first | cases h
theorem nc_pNewR {o idx : Nat} {pc : Nat} {L : pLs} {st : List Value} {sh : pSh} {M : pMem} (z : Nat × List Value × pSt) : ¬ pNewR o idx pc L st sh M = some (.inr (.inr z)) := by
  intro h
  unfold pNewR at h
  (repeat' split at h) <;> first | cases h
theorem nc_pNewM {o idx dim : Nat} {pc : Nat} {L : pLs} {st : List Value} {sh : pSh} {M : pMem} (z : Nat × List Value × pSt) : ¬ pNewM o idx dim pc L st sh M = some (.inr (.inr z)) := by
  intro h
  unfold pNewM at h
  (repeat' split at h) <;> first | cases h
section PBO
variable {p : Program} {l : Launch} {e : Env} {R : Room} {s : State} {m : MethodId} {args : Array Value} {below : List Frame} {meth : Method} {c : Code} {cc : ByteArray} {nL o : Nat} {ini : Bool} {D : va_G} {cy : Nat → ClassId} {b : Nat} {x : Nat → Nat} {S : pScr} {H0 : Heap}
theorem pstep_call {i : Instr} {len pc : Nat} {L : pLs} {st : List Value} {sh : pSh} {M : pMem} {mi : Nat} {as st' : List Value} {pc' : Nat} {L' : pLs} {sh' : pSh} {M' : pMem} (h : pstep S o ini nL i len pc L st sh M = some (.inr (.inr (mi, as, pc', L', st', sh', M')))) :
    len = 3 ∧ ∃ kd idx, ((kd = 0 ∧ i = .invokestatic idx) ∨ (kd = 1 ∧ i = .invokevirtual idx) ∨ (kd = 2 ∧ i = .invokespecial idx)) ∧ pCall kd o idx pc L st sh M = some (.inr (.inr (mi, as, pc', L', st', sh', M'))) := by
  unfold pstep at h
  split at h
  · cases h
  · cases h
  · cases h
  · cases h
  · cases h
  · exact absurd h (nc_pLoadI _)
  · exact absurd h (nc_pLoadI _)
  · exact absurd h (nc_pLoadL _)
  · exact absurd h (nc_pLoadL _)
  · exact absurd h (nc_pLoadA _)
  · exact absurd h (nc_pLoadA _)
  · exact absurd h (nc_pStoI _)
  · exact absurd h (nc_pStoI _)
  · exact absurd h (nc_pStoL _)
  · exact absurd h (nc_pStoL _)
  · exact absurd h (nc_pStoA _)
  · exact absurd h (nc_pStoA _)
  · (repeat' split at h) <;> first | cases h | exact absurd h (nc_pLdcS _) | exact absurd h (nc_pBr _) | exact absurd h (nc_pJp _)
  · exact absurd h (nc_pInt _)
  · exact absurd h (nc_pInt _)
  · exact absurd h (nc_pInt _)
  · exact absurd h (nc_pInt _)
  · exact absurd h (nc_pInt _)
  · exact absurd h (nc_pInt _)
  · exact absurd h (nc_pInt _)
  · exact absurd h (nc_pInt _)
  · (repeat' split at h) <;> first | cases h | exact absurd h (nc_pLdcS _) | exact absurd h (nc_pBr _) | exact absurd h (nc_pJp _)
  · (repeat' split at h) <;> first | cases h | exact absurd h (nc_pLdcS _) | exact absurd h (nc_pBr _) | exact absurd h (nc_pJp _)
  · (repeat' split at h) <;> first | cases h | exact absurd h (nc_pLdcS _) | exact absurd h (nc_pBr _) | exact absurd h (nc_pJp _)
  · exact absurd h (nc_pLong _)
  · exact absurd h (nc_pLong _)
  · exact absurd h (nc_pLong _)
  · exact absurd h (nc_pLong _)
  · (repeat' split at h) <;> first | cases h | exact absurd h (nc_pLdcS _) | exact absurd h (nc_pBr _) | exact absurd h (nc_pJp _)
  · (repeat' split at h) <;> first | cases h | exact absurd h (nc_pLdcS _) | exact absurd h (nc_pBr _) | exact absurd h (nc_pJp _)
  · (repeat' split at h) <;> first | cases h | exact absurd h (nc_pLdcS _) | exact absurd h (nc_pBr _) | exact absurd h (nc_pJp _)
  · (repeat' split at h) <;> first | cases h | exact absurd h (nc_pLdcS _) | exact absurd h (nc_pBr _) | exact absurd h (nc_pJp _)
  · (repeat' split at h) <;> first | cases h | exact absurd h (nc_pLdcS _) | exact absurd h (nc_pBr _) | exact absurd h (nc_pJp _)
  · (repeat' split at h) <;> first | cases h | exact absurd h (nc_pLdcS _) | exact absurd h (nc_pBr _) | exact absurd h (nc_pJp _)
  · (repeat' split at h) <;> first | cases h | exact absurd h (nc_pLdcS _) | exact absurd h (nc_pBr _) | exact absurd h (nc_pJp _)
  · (repeat' split at h) <;> first | cases h | exact absurd h (nc_pLdcS _) | exact absurd h (nc_pBr _) | exact absurd h (nc_pJp _)
  · (repeat' split at h) <;> first | cases h | exact absurd h (nc_pLdcS _) | exact absurd h (nc_pBr _) | exact absurd h (nc_pJp _)
  · (repeat' split at h) <;> first | cases h | exact absurd h (nc_pLdcS _) | exact absurd h (nc_pBr _) | exact absurd h (nc_pJp _)
  · (repeat' split at h) <;> first | cases h | exact absurd h (nc_pLdcS _) | exact absurd h (nc_pBr _) | exact absurd h (nc_pJp _)
  · exact absurd h (nc_pJp _)
  · (repeat' split at h) <;> first | cases h | exact absurd h (nc_pLdcS _) | exact absurd h (nc_pBr _) | exact absurd h (nc_pJp _)
  · (repeat' split at h) <;> first | cases h | exact absurd h (nc_pLdcS _) | exact absurd h (nc_pBr _) | exact absurd h (nc_pJp _)
  · exact absurd h (nc_pTbl _)
  · exact absurd h (nc_pLkp _)
  · exact absurd h (nc_pArrLd _)
  · exact absurd h (nc_pArrLd _)
  · exact absurd h (nc_pArrLd _)
  · exact absurd h (nc_pArrLd _)
  · exact absurd h (nc_pArrSt _)
  · exact absurd h (nc_pArrSt _)
  · exact absurd h (nc_pArrSt _)
  · exact absurd h (nc_pArrSt _)
  · exact absurd h (nc_pLen _)
  · exact absurd h (nc_pGetF _)
  · exact absurd h (nc_pPutF _)
  · exact absurd h (nc_pNewO _)
  · exact absurd h (nc_pNewA _)
  · exact absurd h (nc_pNewR _)
  · exact absurd h (nc_pNewM _)
  · (repeat' split at h) <;> first | cases h | exact absurd h (nc_pLdcS _) | exact absurd h (nc_pBr _) | exact absurd h (nc_pJp _)
  · (repeat' split at h) <;> first | cases h | exact absurd h (nc_pLdcS _) | exact absurd h (nc_pBr _) | exact absurd h (nc_pJp _)
  · split at h
    · rename_i hq
      refine ⟨rfl, 1, _, Or.inr (Or.inl ⟨rfl, rfl⟩), ?_⟩
      rw [hq, h]
    · exact absurd h (nc_pJdkV _)
  · split at h
    · rename_i hq
      refine ⟨rfl, 0, _, Or.inl ⟨rfl, rfl⟩, ?_⟩
      rw [hq, h]
    · exact absurd h (nc_pJdkS _)
  · split at h
    · rename_i hq
      refine ⟨rfl, 2, _, Or.inr (Or.inr ⟨rfl, rfl⟩), ?_⟩
      rw [hq, h]
    · exact absurd h (nc_pJdkI _)
  · cases h
  · cases h
  · cases h
  · cases h
  · cases h
theorem prun_sound {d : Nat} {code : Nat → Option (Instr × Nat)} {call : Nat → List Value → pHp → Option (Option Value × pHp)} (C : pCtx p R s m args meth c cc nL o ini D cy b x S H0) (hd : d + 6 ≤ R.frames ∧ 64 * d + 384 ≤ R.locals)
    (hcode : ∀ pc i len, code pc = some (i, len) → decode cc pc = .ok (i, len))
    (hcall : ∀ mi as sh M v sh2 M2, call mi as (sh, M) = some (v, sh2, M2) → mi < nM → pExt sh sh2 ∧ pMet l D cy b x S d mi as sh M v sh2 M2) :
    ∀ (fuel : Nat) (σ : pSt) (i : Instr) (len : Nat) (τ : pSt), prun S o ini nL code call fuel σ = some (i, len, τ) → pExt σ.2.2.2.1 τ.2.2.2.1 ∧ decode cc τ.1 = .ok (i, len) ∧
      ∀ (n0 z0 : Nat) (Q : State → Prop), (n0 ≤ σ.2.2.2.1.length ∧ z0 ≤ pSz σ.2.2.2.1) → (τ.2.2.2.1.length - n0 ≤ R.cells ∧ pSz τ.2.2.2.1 - z0 ≤ R.slots) → pWs p l e R s m args below meth c Q nL D cy b x H0 n0 z0 τ → pWs p l e R s m args below meth c Q nL D cy b x H0 n0 z0 σ := by
  intro fuel
  induction fuel with
  | zero => intro σ i len τ h; cases h
  | succ f ih =>
    intro σ i len τ h
    obtain ⟨pc, L, st, sh, M⟩ := σ
    unfold prun at h
    split at h
    · cases h
    · rename_i i0 len0 hc
      have hdg := hcode _ _ _ hc
      split at h
      · cases h
      · rename_i σ1 hs
        obtain ⟨h1, h2, h3⟩ := ih σ1 i len τ h
        have hx := pstep_ext hs
        refine ⟨hx.tr h1, h2, fun n0 z0 Q hn hr k => ?_⟩
        have hle := hx.le
        have hle1 := h1.le
        have hn' : n0 ≤ sh.length ∧ z0 ≤ pSz sh := hn
        exact pstep_sound C hdg hs hn ⟨by omega, by omega⟩ (h3 n0 z0 Q ⟨by omega, by omega⟩ hr k)
      · cases h
        exact ⟨pExt.rf _, hdg, fun n0 z0 Q hn hr k => k⟩
      · rename_i mi as pc' L' st' sh' M' hs
        split at h
        · cases h
        · rename_i v sh2 M2 hcl
          obtain ⟨h1, h2, h3⟩ := ih _ i len τ h
          obtain ⟨hl3, kd, idx, hi, hpc⟩ := pstep_call hs
          subst hl3
          have hsh : sh' = sh ∧ mi < nM := by
            obtain ⟨q, m', n', nest, as', r', hf, he⟩ := pCall_inr hpc
            cases he
            exact ⟨rfl, tMth_lt o C.2.2.2.2.2.2.1 _ (List.mem_of_find?_eq_some hf)⟩
          obtain ⟨hx, hMet⟩ := hcall _ _ _ _ _ _ _ hcl hsh.2
          have hx2 : pExt sh sh2 := by rw [← hsh.1]; exact hx
          refine ⟨hx2.tr h1, h2, fun n0 z0 Q hn hr k => ?_⟩
          have hle := hx2.le
          have hle1 := h1.le
          have hn' : n0 ≤ sh.length ∧ z0 ≤ pSz sh := hn
          have hle1' : sh2.length ≤ τ.2.2.2.1.length ∧ pSz sh2 ≤ pSz τ.2.2.2.1 := hle1
          exact ps_call C hd hdg hi hpc (fun _ => ⟨hx, hMet⟩) hn ⟨by omega, by omega⟩ (h3 n0 z0 Q (show n0 ≤ sh2.length ∧ z0 ≤ pSz sh2 from ⟨by omega, by omega⟩) hr k)
end PBO
theorem lv_args_cv (b : Nat) (x : Nat → Nat) : ∀ (as : List Value) (i : Nat), lv_args i (pcS b x as) = pcL b x (lv_args i as)
  | [], _ => rfl
  | v :: vs, i => by
    show (i, pcv b x v) :: lv_args (if (pcv b x v).category = 2 then i + 2 else i + 1) (pcS b x vs) = _
    rw [pcv_cat, lv_args_cv b x vs]
    rfl
theorem lg_sl_cv (b : Nat) (x : Nat → Nat) : ∀ (as : List Value), (lg_sl (pcS b x as)).length = (lg_sl as).length
  | [] => rfl
  | v :: vs => by
    have ih := lg_sl_cv b x vs
    show (lg_sl (pcv b x v :: pcS b x vs)).length = _
    unfold lg_sl at ih ⊢
    rw [List.flatMap_cons, List.flatMap_cons, List.length_append, List.length_append, ih, pcv_cat]
    split <;> rfl
/-- method m on arguments and a heap, with calls at most d deep, each body of at most F steps; code: the tables of instructions -/
def pcallG (code : Nat → Nat → Option (Instr × Nat)) (S : pScr) (F : Nat) : Nat → Nat → List Value → pHp → Option (Option Value × pHp)
  | 0, _, _, _ => none
  | d + 1, m, as, (sh, M) => if (lg_sl as).length ≤ (pMe m).2.2.2.1 then
      match prun S (pMe m).1 (pKind.getD m 9 == 2) (pMe m).2.2.2.1 (code m) (pcallG code S F d) F (0, lv_args 0 as, [], sh, M) with
      | none => none
      | some (i, len, _, _, st, sh2, M2) => match pRet (pMe m).2.2.2.2 i len st with
        | none => none
        | some v => some (v, sh2, M2)
    else none
theorem prun_ext {S : pScr} {o nL : Nat} {ini : Bool} {code : Nat → Option (Instr × Nat)} {call : Nat → List Value → pHp → Option (Option Value × pHp)} (hcall : ∀ mi as sh M v sh2 M2, call mi as (sh, M) = some (v, sh2, M2) → pExt sh sh2) : ∀ (fuel : Nat) (σ : pSt) (i : Instr) (len : Nat) (τ : pSt), prun S o ini nL code call fuel σ = some (i, len, τ) → pExt σ.2.2.2.1 τ.2.2.2.1 := by
  intro fuel
  induction fuel with
  | zero => intro σ i len τ h; cases h
  | succ f ih =>
    intro σ i len τ h
    obtain ⟨pc, L, st, sh, M⟩ := σ
    unfold prun at h
    split at h
    · cases h
    · split at h
      · cases h
      · rename_i σ1 hs
        exact (pstep_ext hs).tr (ih σ1 i len τ h)
      · cases h
        exact pExt.rf _
      · rename_i mi as pc' L' st' sh' M' hs
        split at h
        · cases h
        · rename_i v sh2 M2 hcl
          obtain ⟨hl3, kd, idx, hi, hpc⟩ := pstep_call hs
          obtain ⟨q, m', n', nest, as', r', hf, he⟩ := pCall_inr hpc
          cases he
          exact (hcall _ _ _ _ _ _ _ hcl).tr (ih _ i len τ h)
theorem pcallG_ext {code : Nat → Nat → Option (Instr × Nat)} (S : pScr) (F : Nat) : ∀ (d m : Nat) (as : List Value) (sh : pSh) (M : pMem) (v : Option Value) (sh2 : pSh) (M2 : pMem), pcallG code S F d m as (sh, M) = some (v, sh2, M2) → pExt sh sh2 := by
  intro d
  induction d with
  | zero => intro m as sh M v sh2 M2 h; cases h
  | succ d ih =>
    intro m as sh M v sh2 M2 h
    unfold pcallG at h
    split at h
    · split at h
      · cases h
      · rename_i i len pcr Lr st sh3 M3 hrun
        split at h
        · cases h
        · cases h
          exact prun_ext (fun mi as sh M v sh2 M2 h => ih mi as sh M v sh2 M2 h) F _ _ _ _ hrun
    · cases h
theorem pcallG_sound {code : Nat → Nat → Option (Instr × Nat)} (hcode : ∀ m pc i len, m < nM → code m pc = some (i, len) → decode (pMe m).2.2.1 pc = .ok (i, len)) (S : pScr) (F : Nat) (l : Launch) (D : va_G) (cy : Nat → ClassId) (b : Nat) (x : Nat → Nat) :
    ∀ (d m : Nat) (as : List Value) (sh : pSh) (M : pMem) (v : Option Value) (sh2 : pSh) (M2 : pMem), pcallG code S F d m as (sh, M) = some (v, sh2, M2) → m < nM → pExt sh sh2 ∧ pMet l D cy b x S d m as sh M v sh2 M2 := by
  intro d
  induction d with
  | zero => intro m as sh M v sh2 M2 h; cases h
  | succ d ih =>
    intro m as sh M v sh2 M2 h hm
    unfold pcallG at h
    split at h
    · rename_i hlen
      split at h
      · cases h
      · rename_i i len pcr Lr st sh3 M3 hrun
        split at h
        · cases h
        · rename_i v0 hret
          cases h
          obtain ⟨hm1, hm2, hm3, hm4, hm5, hm6, hm7⟩ := pMe_lt m hm
          have ctx : ∀ {p : Program} {e : Env} {s : State} {mm : MethodId} {args : Array Value} {below : List Frame} {meth : Method} {c : Code} {s₁ : State}, BodyLoose p l (pMe m).2.1 (headSpec (pWds m) (pRm (d + 1) (sh2.length - sh.length) (pSz sh2 - pSz sh))) (pMe m).2.2.1 (pMe m).2.2.2.1 (pMe m).2.2.2.2 e s mm args below meth c s₁ → c.maxLocals = (pMe m).2.2.2.1 → pK D cy s → (∀ n xs, S = some (n, xs) → va_X (x 1) n xs s s.heap ∧ x 1 < b ∧ sW b (x 2) s s.heap) → pCtx p (headSpec (pWds m) (pRm (d + 1) (sh2.length - sh.length) (pSz sh2 - pSz sh))).room s mm args meth c (pMe m).2.2.1 (pMe m).2.2.2.1 (pMe m).1 (pKind.getD m 9 == 2) D cy b x S s.heap := by
            intro p e s mm args below meth c s₁ B hml hK hX
            refine ⟨B.exec, B.bytes, hml, by rw [hm3]; exact findClass_of_methodNamed B.named, fun w hw => atoms_spec (ws := pWds m) B.pre w (List.mem_cons_of_mem _ hw), hK, hm1, fun h => ?_, ?_, ?_, hX⟩
            · have h2 : pKind.getD m 9 = 2 := by simpa using h
              rw [(name_of_methodNamed B.named B.method).1]
              exact (hm7 h2).1
            · show 6 ≤ d + 1 + 5
              omega
            · show 384 ≤ 64 * (d + 1) + 320
              omega
          have hext : pExt sh sh2 := prun_ext (fun mi as sh M v sh2 M2 h => pcallG_ext S F d mi as sh M v sh2 M2 h) F _ _ _ _ hrun
          refine ⟨hext, ?_⟩
          refine Met.ofW (cc := (pMe m).2.2.1) (maxL := (pMe m).2.2.2.1) (ret := (pMe m).2.2.2.2) hm4 rfl ?_
          intro p e s mm args below meth c s₁ B hml hv
          obtain ⟨rfl, hK, hR, hX⟩ := hv
          have C := ctx B hml hK hX
          have hl := lv_entry (pcS b x as) (n := (pMe m).2.2.2.1) (by rw [lg_sl_cv]; exact hlen)
          rw [lg_entry_eq]
          generalize (lg_sl (pcS b x as) ++ List.replicate ((pMe m).2.2.2.1 - (lg_sl (pcS b x as)).length) Slot.unset).toArray = ls at hl ⊢
          rw [lv_args_cv] at hl
          have hle := hext.le
          obtain ⟨-, hdr, hW⟩ := prun_sound (p := p) (e := e) (s := s) (m := mm) (below := below) (meth := meth) (c := c) (l := l) C (show d + 6 ≤ d + 1 + 5 ∧ 64 * d + 384 ≤ 64 * (d + 1) + 320 from ⟨by omega, by omega⟩) (fun pc i len h => hcode m pc i len hm h) (fun mi as sh M v sh2 M2 h1 h2 => ih mi as sh M v sh2 M2 h1 h2) F _ _ _ _ hrun
          have hWs := hW sh.length (pSz sh) (MQ below (pQc D cy b x sh2 M2 v) (pcS b x as).toArray s (sh2.length - sh.length) (pSz sh2 - pSz sh) (fun q => b ≤ q)) ⟨Nat.le_refl _, Nat.le_refl _⟩ ⟨Nat.le_refl _, Nat.le_refl _⟩ ?_
          · have h9 := hWs ls s.heap [] hl ⟨hR, fun _ _ => rfl, fun _ h => by cases h⟩
            have h9 : W p l e (headSpec (pWds m) (pRm (d + 1) (sh2.length - sh.length) (pSz sh2 - pSz sh))).room s mm (pcS b x as).toArray below meth c s.heap [] (sh.length - sh.length) (pSz sh - pSz sh) (MQ below (pQc D cy b x sh2 M2 v) (pcS b x as).toArray s (sh2.length - sh.length) (pSz sh2 - pSz sh) (fun q => b ≤ q)) (F0 mm 0 ls []) := h9
            rw [Nat.sub_self, Nat.sub_self] at h9
            exact h9
          · intro ls2 H locs hl2 hG
            replace hG : pG D cy b x s.heap sh2 M2 H locs := hG
            have hx := B.exec
            have hb := B.bytes
            have hrt := B.returns
            have hq : ∀ t : State, t.heap = H → s.WarmedH t.vm → pQc D cy b x sh2 M2 v (pcS b x as).toArray s (.returned (v.map (pcv b x))) t := fun t ht _ => ⟨rfl, by rw [ht]; exact hG.1, fun q hq => by rw [ht]; exact hG.2.1 q hq⟩
            unfold pRet at hret
            split at hret
            · rename_i hr0
              cases hret
              exact W.vret hx hb (hrt.trans (by assumption)) hq hG.2.2 hdr
            · cases hret
              exact W.iret hx hb (hrt.trans (by assumption)) hq hG.2.2 hdr
            · split at hret
              · rename_i hv1
                cases hret
                exact W.zret hx hb (hrt.trans (by assumption)) (show narrow .boolean (.int _) = _ from congrArg Value.int hv1) hq hG.2.2 hdr
              · cases hret
            · cases hret
              exact W.lret hx hb (hrt.trans (by assumption)) hq hG.2.2 hdr
            · cases hret
              exact W.aret hx hb (hrt.trans (by assumption)) (Or.inl ⟨_, rfl⟩) (Or.inr ⟨_, rfl⟩) hq hG.2.2 hdr
            · cases hret
    · cases h

/-! a whole body: steps and calls -/
section PRU
variable {p : Program} {l : Launch} {e : Env} {R : Room} {s : State} {m : MethodId} {args : Array Value} {below : List Frame} {meth : Method} {c : Code} {Q : State → Prop} {cc : ByteArray} {nL o : Nat} {ini : Bool} {D : va_G} {cy : Nat → ClassId} {b : Nat} {x : Nat → Nat} {S : pScr} {H0 : Heap} {n0 z0 : Nat}
variable {pc : Nat} {L : pLs} {st : List Value} {sh : pSh} {M : pMem} {σ : pSt}
/-- a call's answer is never a plain step, and it changes no heap itself -/
theorem pCall_inr {kd idx : Nat} {r : pRes} (h : pCall kd o idx pc L st sh M = some r) : ∃ (q m n nest : Nat) (as r' : List Value), (tMth.getD o []).find? (fun e => e.1 == idx) = some (q, m, n, nest) ∧ r = .inr (.inr (m, as, pc + 3, L, r', sh, M)) := by
  unfold pCall at h
  split at h
  · rename_i q m n nest hf
    refine ⟨q, m, n, nest, ?_⟩
    split at h
    · split at h
      · split at h
        · exact ⟨_, _, hf, (Option.some.inj h).symm⟩
        · cases h
      · split at h
        · split at h
          · split at h
            · exact ⟨_, _, hf, (Option.some.inj h).symm⟩
            · cases h
          · cases h
        · cases h
    · cases h
  · cases h
set_option maxHeartbeats 4000000 in
theorem pstep_sound {i : Instr} {len : Nat} (C : pCtx p R s m args meth c cc nL o ini D cy b x S H0) (hdg : decode cc pc = .ok (i, len)) (h : pstep S o ini nL i len pc L st sh M = some (.inl σ)) (hn : n0 ≤ sh.length ∧ z0 ≤ pSz sh) (hr : σ.2.2.2.1.length - n0 ≤ R.cells ∧ pSz σ.2.2.2.1 - z0 ≤ R.slots) (k : pWs p l e R s m args below meth c Q nL D cy b x H0 n0 z0 σ) : pWs p l e R s m args below meth c Q nL D cy b x H0 n0 z0 (pc, L, st, sh, M) := by
  unfold pstep at h
  split at h
  · exact ps_iconst C hdg h k
  · exact ps_bipush C hdg h k
  · exact ps_sipush C hdg h k
  · exact ps_lconst C hdg h k
  · exact ps_null C hdg h k
  · exact ps_iload C hdg h k
  · exact ps_iload_n C hdg h k
  · exact ps_lload C hdg h k
  · exact ps_lload_n C hdg h k
  · exact ps_aload C hdg h k
  · exact ps_aload_n C hdg h k
  · exact ps_istore C hdg h k
  · exact ps_istore_n C hdg h k
  · exact ps_lstore C hdg h k
  · exact ps_lstore_n C hdg h k
  · exact ps_astore C hdg h k
  · exact ps_astore_n C hdg h k
  · exact ps_iinc C hdg h k
  · exact ps_iadd C hdg h k
  · exact ps_isub C hdg h k
  · exact ps_imul C hdg h k
  · exact ps_iand C hdg h k
  · exact ps_ior C hdg h k
  · exact ps_ishl C hdg h k
  · exact ps_ishr C hdg h k
  · exact ps_iushr C hdg h k
  · exact ps_idiv C hdg h k
  · exact ps_irem C hdg h k
  · exact ps_ineg C hdg h k
  · exact ps_ladd C hdg h k
  · exact ps_lsub C hdg h k
  · exact ps_lmul C hdg h k
  · exact ps_lor C hdg h k
  · exact ps_ldiv C hdg h k
  · exact ps_lneg C hdg h k
  · exact ps_lshl C hdg h k
  · exact ps_lcmp C hdg h k
  · exact ps_i2l C hdg h k
  · exact ps_l2i C hdg h k
  · exact ps_dup C hdg h k
  · exact ps_pop C hdg h k
  · exact ps_dup2 C hdg h k
  · exact ps_ifCond C hdg h k
  · exact ps_if_icmp C hdg h k
  · exact ps_goto C hdg h k
  · exact ps_ifnull C hdg h k
  · exact ps_ifnonnull C hdg h k
  · exact ps_table C hdg h k
  · exact ps_lookup C hdg h k
  · exact ps_iaload C hdg h k
  · exact ps_baload C hdg h k
  · exact ps_laload C hdg h k
  · exact ps_aaload C hdg h k
  · exact ps_iastore C hdg h k
  · exact ps_bastore C hdg h k
  · exact ps_lastore C hdg h k
  · exact ps_aastore C hdg h k
  · exact ps_alen C hdg h k
  · exact ps_getf C hdg h k
  · exact ps_putf C hdg h k
  · exact ps_new C hdg h hn hr k
  · exact ps_newa C hdg h hn hr k
  · exact ps_newr C hdg h hn hr k
  · exact ps_newm C hdg h hn hr k
  · exact ps_ldc C hdg h k
  · exact ps_ldc2 C hdg h k
  · split at h
    · rename_i hq
      obtain ⟨_, _, _, _, _, _, _, hq2⟩ := pCall_inr hq
      rw [Option.some.inj h] at hq2
      cases hq2
    · exact ps_jdkV C hdg h hn hr k
  · split at h
    · rename_i hq
      obtain ⟨_, _, _, _, _, _, _, hq2⟩ := pCall_inr hq
      rw [Option.some.inj h] at hq2
      cases hq2
    · exact ps_jdkS C hdg h hn hr k
  · split at h
    · rename_i hq
      obtain ⟨_, _, _, _, _, _, _, hq2⟩ := pCall_inr hq
      rw [Option.some.inj h] at hq2
      cases hq2
    · exact ps_jdkI C hdg h hn hr k
  · cases h
  · cases h
  · cases h
  · cases h
  · cases h
def pExt (sh sh2 : pSh) : Prop := ∃ d : pSh, sh2 = sh ++ d
theorem pExt.rf (sh : pSh) : pExt sh sh := ⟨[], (List.append_nil sh).symm⟩
theorem pExt.tr {a d g : pSh} (h : pExt a d) (h2 : pExt d g) : pExt a g := by
  obtain ⟨y, rfl⟩ := h
  obtain ⟨z, rfl⟩ := h2
  exact ⟨y ++ z, List.append_assoc a y z⟩
theorem pExt.le {a d : pSh} (h : pExt a d) : a.length ≤ d.length ∧ pSz a ≤ pSz d := by
  obtain ⟨y, rfl⟩ := h
  rw [List.length_append, pSz_app]
  omega
theorem gr_go {pc : Nat} {L : pLs} {st : List Value} {sh : pSh} {M : pMem} {σ : pSt} (h : pGo pc L st sh M = some (.inl σ)) : pExt sh σ.2.2.2.1 := by
  cases pGo_eq h
  exact pExt.rf sh
theorem gr_pJp {off : Int} (h : pJp pc off L st sh M = some (.inl σ)) : pExt sh σ.2.2.2.1 := by
  unfold pJp at h
  (repeat' split at h) <;> first | exact gr_go h | cases h
theorem gr_pBr {bo : Bool} {off : Int} (h : pBr bo pc off L st sh M = some (.inl σ)) : pExt sh σ.2.2.2.1 := by
  unfold pBr at h
  (repeat' split at h) <;> first | exact gr_go h | cases h
theorem gr_pInt {f : Int32 → Int32 → Int32} (h : pInt f pc L st sh M = some (.inl σ)) : pExt sh σ.2.2.2.1 := by
  unfold pInt at h
  (repeat' split at h) <;> first | exact gr_go h | cases h
theorem gr_pLong {f : Int64 → Int64 → Int64} (h : pLong f pc L st sh M = some (.inl σ)) : pExt sh σ.2.2.2.1 := by
  unfold pLong at h
  (repeat' split at h) <;> first | exact gr_go h | cases h
theorem gr_pLoadI {i n : Nat} (h : pLoadI i n pc L st sh M = some (.inl σ)) : pExt sh σ.2.2.2.1 := by
  unfold pLoadI at h
  (repeat' split at h) <;> first | exact gr_go h | cases h
theorem gr_pLoadL {i n : Nat} (h : pLoadL i n pc L st sh M = some (.inl σ)) : pExt sh σ.2.2.2.1 := by
  unfold pLoadL at h
  (repeat' split at h) <;> first | exact gr_go h | cases h
theorem gr_pLoadA {i n : Nat} (h : pLoadA i n pc L st sh M = some (.inl σ)) : pExt sh σ.2.2.2.1 := by
  unfold pLoadA at h
  (repeat' split at h) <;> first | exact gr_go h | cases h
theorem gr_pStoI {nL i n : Nat} (h : pStoI nL i n pc L st sh M = some (.inl σ)) : pExt sh σ.2.2.2.1 := by
  unfold pStoI at h
  (repeat' split at h) <;> first | exact gr_go h | cases h
theorem gr_pStoL {nL i n : Nat} (h : pStoL nL i n pc L st sh M = some (.inl σ)) : pExt sh σ.2.2.2.1 := by
  unfold pStoL at h
  (repeat' split at h) <;> first | exact gr_go h | cases h
theorem gr_pStoA {nL i n : Nat} (h : pStoA nL i n pc L st sh M = some (.inl σ)) : pExt sh σ.2.2.2.1 := by
  unfold pStoA at h
  (repeat' split at h) <;> first | exact gr_go h | cases h
theorem gr_pArrLd {S : pScr} {i : Instr} (h : pArrLd S i pc L st sh M = some (.inl σ)) : pExt sh σ.2.2.2.1 := by
  unfold pArrLd at h
  (repeat' split at h) <;> first | exact gr_go h | cases h
theorem gr_pArrSt {i : Instr} (h : pArrSt i pc L st sh M = some (.inl σ)) : pExt sh σ.2.2.2.1 := by
  unfold pArrSt at h
  (repeat' split at h) <;> first | exact gr_go h | cases h
theorem gr_pGetF {o idx : Nat} (h : pGetF o idx pc L st sh M = some (.inl σ)) : pExt sh σ.2.2.2.1 := by
  unfold pGetF at h
  (repeat' split at h) <;> first | exact gr_go h | cases h
theorem gr_pPutF {o idx : Nat} {ini : Bool} (h : pPutF o ini idx pc L st sh M = some (.inl σ)) : pExt sh σ.2.2.2.1 := by
  unfold pPutF at h
  (repeat' split at h) <;> first | exact gr_go h | cases h
theorem gr_pJdkS {o idx : Nat} (h : pJdkS o idx pc L st sh M = some (.inl σ)) : pExt sh σ.2.2.2.1 := by
  unfold pJdkS at h
  (repeat' split at h) <;> first | exact gr_go h | cases h
theorem gr_pJdkV {S : pScr} {o idx : Nat} (h : pJdkV S o idx pc L st sh M = some (.inl σ)) : pExt sh σ.2.2.2.1 := by
  unfold pJdkV at h
  (repeat' split at h) <;> first | exact gr_go h | cases h
theorem gr_pLdcS {S : pScr} {o idx : Nat} (h : pLdcS S o idx pc L st sh M = some (.inl σ)) : pExt sh σ.2.2.2.1 := by
  unfold pLdcS at h
  (repeat' split at h) <;> first | exact gr_go h | cases h
theorem gr_pJdkI {o idx : Nat} (h : pJdkI o idx pc L st sh M = some (.inl σ)) : pExt sh σ.2.2.2.1 := by
  unfold pJdkI at h
  (repeat' split at h) <;> first | exact gr_go h | cases h
theorem gr_pLen {S : pScr} (h : pLen S pc L st sh M = some (.inl σ)) : pExt sh σ.2.2.2.1 := by
  unfold pLen at h
  (repeat' split at h) <;> first | exact gr_go h | cases h
theorem gr_pTbl {dflt lo hi : Int} {offs : Array Int} (h : pTbl dflt lo hi offs pc L st sh M = some (.inl σ)) : pExt sh σ.2.2.2.1 := by
  unfold pTbl at h
  (repeat' split at h) <;> first | exact gr_go h | exact gr_pJp h | cases h
theorem gr_pLkp {dflt : Int} {ps : Array (Int × Int)} (h : pLkp dflt ps pc L st sh M = some (.inl σ)) : pExt sh σ.2.2.2.1 := by
  unfold pLkp at h
  (repeat' split at h) <;> first | exact gr_go h | exact gr_pJp h | cases h
theorem gr_ap {pc : Nat} {L : pLs} {st : List Value} {sh d : pSh} {M : pMem} {σ : pSt} (h : pGo pc L st (sh ++ d) M = some (.inl σ)) : pExt sh σ.2.2.2.1 := by
  cases pGo_eq h
  exact ⟨d, rfl⟩
theorem gr_pNewO {o idx : Nat} (h : pNewO o idx pc L st sh M = some (.inl σ)) : pExt sh σ.2.2.2.1 := by
  unfold pNewO at h
  (repeat' split at h) <;> first | exact gr_ap h | cases h
theorem gr_pNewA {t : ArrayType} (h : pNewA t pc L st sh M = some (.inl σ)) : pExt sh σ.2.2.2.1 := by
  unfold pNewA at h
  (repeat' split at h) <;> first | exact gr_ap h | cases h
theorem gr_pNewR {o idx : Nat} (h : pNewR o idx pc L st sh M = some (.inl σ)) : pExt sh σ.2.2.2.1 := by
  unfold pNewR at h
  (repeat' split at h) <;> first | exact gr_ap h | cases h
theorem gr_pNewM {o idx dim : Nat} (h : pNewM o idx dim pc L st sh M = some (.inl σ)) : pExt sh σ.2.2.2.1 := by
  unfold pNewM at h
  (repeat' split at h) <;> first | exact gr_ap h | cases h
set_option maxHeartbeats 4000000 in
theorem pstep_ext {i : Instr} {len : Nat} (h : pstep S o ini nL i len pc L st sh M = some (.inl σ)) : pExt sh σ.2.2.2.1 := by
  unfold pstep at h
  (split at h) <;> first | exact gr_go h | exact gr_pLoadI h | exact gr_pLoadL h | exact gr_pLoadA h | exact gr_pStoI h | exact gr_pStoL h | exact gr_pStoA h | exact gr_pInt h | exact gr_pLong h | exact gr_pJp h | exact gr_pTbl h | exact gr_pLkp h | exact gr_pArrLd h | exact gr_pArrSt h | exact gr_pGetF h | exact gr_pPutF h | exact gr_pLen h | exact gr_pNewO h | exact gr_pNewA h | exact gr_pNewR h | exact gr_pNewM h | cases h | ((obtain ⟨_, _, _, _, _, _, _, hq⟩ := pCall_inr h); cases hq) | ((repeat' split at h) <;> first | exact gr_go h | exact gr_pBr h | exact gr_pJp h | exact gr_pJdkS h | exact gr_pJdkV h | exact gr_pLdcS h | exact gr_pJdkI h | (rename_i hq; obtain ⟨_, _, _, _, _, _, _, hq2⟩ := pCall_inr hq; rw [Option.some.inj h] at hq2; cases hq2) | cases h)
end PRU

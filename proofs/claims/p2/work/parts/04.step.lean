/-! one step of the pure machine is the JVM's -/
section PST
variable {p : Program} {l : Launch} {e : Env} {R : Room} {s : State} {m : MethodId} {args : Array Value} {below : List Frame} {meth : Method} {c : Code} {Q : State → Prop} {cc : ByteArray} {nL o : Nat} {ini : Bool} {D : va_G} {cy : Nat → ClassId} {b : Nat} {x : Nat → Nat} {S : pScr} {H0 : Heap} {n0 z0 : Nat}
/-- what a walk of a method stands on -/
def pCtx (p : Program) (R : Room) (s : State) (m : MethodId) (args : Array Value) (meth : Method) (c : Code) (cc : ByteArray) (nL o : Nat) (ini : Bool) (D : va_G) (cy : Nat → ClassId) (b : Nat) (x : Nat → Nat) (S : pScr) (H0 : Heap) : Prop :=
  p.tables.exec = Jvm.exec ∧ c.code = cc ∧ c.maxLocals = nL ∧ s.vm.findClass (pOwn o) = some m.cls ∧ (∀ w ∈ lw_good, w.before args s = true) ∧ pK D cy s ∧ o < 14 ∧ (ini = true → meth.name = "<init>") ∧ 6 ≤ R.frames ∧ 384 ≤ R.locals ∧ (∀ n xs, S = some (n, xs) → va_X (x 1) n xs s H0 ∧ x 1 < b ∧ sW b (x 2) s H0)
/-- the heap holds the memory; what lies below is as it was -/
def pG (D : va_G) (cy : Nat → ClassId) (b : Nat) (x : Nat → Nat) (H0 : Heap) (sh : pSh) (M : pMem) (H : Heap) (locs : List Loc) : Prop := pR D cy b x sh M H ∧ (∀ q, q < b → H[q]? = H0[q]?) ∧ ∀ q ∈ locs, b ≤ q.base
/-- from a state of the pure machine the JVM comes to Q -/
def pWs (p : Program) (l : Launch) (e : Env) (R : Room) (s : State) (m : MethodId) (args : Array Value) (below : List Frame) (meth : Method) (c : Code) (Q : State → Prop) (nL : Nat) (D : va_G) (cy : Nat → ClassId) (b : Nat) (x : Nat → Nat) (H0 : Heap) (n0 z0 : Nat) (σ : pSt) : Prop :=
  ∀ (ls : Array Slot) (H : Heap) (locs : List Loc), lv_has ls nL (pcL b x σ.2.1) → pG D cy b x H0 σ.2.2.2.1 σ.2.2.2.2 H locs → W p l e R s m args below meth c H locs (σ.2.2.2.1.length - n0) (pSz σ.2.2.2.1 - z0) Q (F0 m σ.1 ls (pcS b x σ.2.2.1))
theorem pGo_eq {pc : Nat} {L : pLs} {st : List Value} {sh : pSh} {M : pMem} {σ : pSt} (h : pGo pc L st sh M = some (.inl σ)) : σ = (pc, L, st, sh, M) := by
  unfold pGo at h
  exact (Sum.inl.inj (Option.some.inj h)).symm
theorem pJp_eq {pc : Nat} {off : Int} {L : pLs} {st : List Value} {sh : pSh} {M : pMem} {σ : pSt} (h : pJp pc off L st sh M = some (.inl σ)) : ∃ t : Nat, (pc : Int) + off = (t : Int) ∧ σ = (t, L, st, sh, M) := by
  unfold pJp at h
  split at h
  · cases h
  · rename_i hn
    exact ⟨((pc : Int) + off).toNat, by omega, pGo_eq h⟩
variable (C : pCtx p R s m args meth c cc nL o ini D cy b x S H0)
variable {pc : Nat} {L : pLs} {st : List Value} {sh : pSh} {M : pMem} {σ : pSt}
theorem ps_iconst {n : Int} (C : pCtx p R s m args meth c cc nL o ini D cy b x S H0) (hdg : decode cc pc = .ok (.iconst n, 1)) (h : pGo (pc + 1) L (.int (Int32.ofInt n) :: st) sh M = some (.inl σ)) (k : pWs p l e R s m args below meth c Q nL D cy b x H0 n0 z0 σ) : pWs p l e R s m args below meth c Q nL D cy b x H0 n0 z0 (pc, L, st, sh, M) := by
  cases pGo_eq h
  intro ls H locs hl hG
  exact lv_iconst C.1 C.2.1 hdg rfl (k ls H locs hl hG)
theorem ps_bipush {n : Int} (C : pCtx p R s m args meth c cc nL o ini D cy b x S H0) (hdg : decode cc pc = .ok (.bipush n, 2)) (h : pGo (pc + 2) L (.int (Int8.ofInt n).toInt32 :: st) sh M = some (.inl σ)) (k : pWs p l e R s m args below meth c Q nL D cy b x H0 n0 z0 σ) : pWs p l e R s m args below meth c Q nL D cy b x H0 n0 z0 (pc, L, st, sh, M) := by
  cases pGo_eq h
  intro ls H locs hl hG
  exact lv_bipush C.1 C.2.1 hdg rfl (k ls H locs hl hG)
theorem ps_sipush {n : Int} (C : pCtx p R s m args meth c cc nL o ini D cy b x S H0) (hdg : decode cc pc = .ok (.sipush n, 3)) (h : pGo (pc + 3) L (.int (Int16.ofInt n).toInt32 :: st) sh M = some (.inl σ)) (k : pWs p l e R s m args below meth c Q nL D cy b x H0 n0 z0 σ) : pWs p l e R s m args below meth c Q nL D cy b x H0 n0 z0 (pc, L, st, sh, M) := by
  cases pGo_eq h
  intro ls H locs hl hG
  exact lv_sipush C.1 C.2.1 hdg rfl (k ls H locs hl hG)
theorem ps_lconst {n : Fin 2} (C : pCtx p R s m args meth c cc nL o ini D cy b x S H0) (hdg : decode cc pc = .ok (.lconst n, 1)) (h : pGo (pc + 1) L (.long (Int64.ofNat (n : Nat)) :: st) sh M = some (.inl σ)) (k : pWs p l e R s m args below meth c Q nL D cy b x H0 n0 z0 σ) : pWs p l e R s m args below meth c Q nL D cy b x H0 n0 z0 (pc, L, st, sh, M) := by
  cases pGo_eq h
  intro ls H locs hl hG
  exact lv_lconst C.1 C.2.1 hdg rfl (k ls H locs hl hG)
theorem ps_null (C : pCtx p R s m args meth c cc nL o ini D cy b x S H0) (hdg : decode cc pc = .ok (.aconst_null, 1)) (h : pGo (pc + 1) L (.null :: st) sh M = some (.inl σ)) (k : pWs p l e R s m args below meth c Q nL D cy b x H0 n0 z0 σ) : pWs p l e R s m args below meth c Q nL D cy b x H0 n0 z0 (pc, L, st, sh, M) := by
  cases pGo_eq h
  intro ls H locs hl hG
  exact lv_null C.1 C.2.1 hdg (k ls H locs hl hG)
theorem ps_iload {i : Nat} (C : pCtx p R s m args meth c cc nL o ini D cy b x S H0) (hdg : decode cc pc = .ok (.iload i, 2)) (h : pLoadI i 2 pc L st sh M = some (.inl σ)) (k : pWs p l e R s m args below meth c Q nL D cy b x H0 n0 z0 σ) : pWs p l e R s m args below meth c Q nL D cy b x H0 n0 z0 (pc, L, st, sh, M) := by
  unfold pLoadI at h
  split at h
  · rename_i v hv
    cases pGo_eq h
    intro ls H locs hl hG
    exact lv_iload C.1 C.2.1 hdg (pLd_at hl hv) (k ls H locs hl hG)
  · cases h
theorem ps_iload_n {i : Fin 4} (C : pCtx p R s m args meth c cc nL o ini D cy b x S H0) (hdg : decode cc pc = .ok (.iload_n i, 1)) (h : pLoadI i 1 pc L st sh M = some (.inl σ)) (k : pWs p l e R s m args below meth c Q nL D cy b x H0 n0 z0 σ) : pWs p l e R s m args below meth c Q nL D cy b x H0 n0 z0 (pc, L, st, sh, M) := by
  unfold pLoadI at h
  split at h
  · rename_i v hv
    cases pGo_eq h
    intro ls H locs hl hG
    exact lv_iload_n C.1 C.2.1 hdg rfl (pLd_at hl hv) (k ls H locs hl hG)
  · cases h
theorem ps_lload {i : Nat} (C : pCtx p R s m args meth c cc nL o ini D cy b x S H0) (hdg : decode cc pc = .ok (.lload i, 2)) (h : pLoadL i 2 pc L st sh M = some (.inl σ)) (k : pWs p l e R s m args below meth c Q nL D cy b x H0 n0 z0 σ) : pWs p l e R s m args below meth c Q nL D cy b x H0 n0 z0 (pc, L, st, sh, M) := by
  unfold pLoadL at h
  split at h
  · rename_i v hv
    cases pGo_eq h
    intro ls H locs hl hG
    exact lv_lload C.1 C.2.1 hdg (pLd_at hl hv) (k ls H locs hl hG)
  · cases h
theorem ps_lload_n {i : Fin 4} (C : pCtx p R s m args meth c cc nL o ini D cy b x S H0) (hdg : decode cc pc = .ok (.lload_n i, 1)) (h : pLoadL i 1 pc L st sh M = some (.inl σ)) (k : pWs p l e R s m args below meth c Q nL D cy b x H0 n0 z0 σ) : pWs p l e R s m args below meth c Q nL D cy b x H0 n0 z0 (pc, L, st, sh, M) := by
  unfold pLoadL at h
  split at h
  · rename_i v hv
    cases pGo_eq h
    intro ls H locs hl hG
    exact lv_lload_n C.1 C.2.1 hdg rfl (pLd_at hl hv) (k ls H locs hl hG)
  · cases h
theorem ps_aload {i : Nat} (C : pCtx p R s m args meth c cc nL o ini D cy b x S H0) (hdg : decode cc pc = .ok (.aload i, 2)) (h : pLoadA i 2 pc L st sh M = some (.inl σ)) (k : pWs p l e R s m args below meth c Q nL D cy b x H0 n0 z0 σ) : pWs p l e R s m args below meth c Q nL D cy b x H0 n0 z0 (pc, L, st, sh, M) := by
  unfold pLoadA at h
  split at h
  · rename_i v hv
    cases pGo_eq h
    intro ls H locs hl hG
    exact lv_aload C.1 C.2.1 hdg (pLd_at hl hv) (k ls H locs hl hG)
  · rename_i hv
    cases pGo_eq h
    intro ls H locs hl hG
    exact lv_aloadN C.1 C.2.1 hdg (pLd_at hl hv) (k ls H locs hl hG)
  · rename_i v hv
    cases pGo_eq h
    intro ls H locs hl hG
    exact lv_aload C.1 C.2.1 hdg (pLd_at hl hv) (k ls H locs hl hG)
  · cases h
theorem ps_aload_n {i : Fin 4} (C : pCtx p R s m args meth c cc nL o ini D cy b x S H0) (hdg : decode cc pc = .ok (.aload_n i, 1)) (h : pLoadA i 1 pc L st sh M = some (.inl σ)) (k : pWs p l e R s m args below meth c Q nL D cy b x H0 n0 z0 σ) : pWs p l e R s m args below meth c Q nL D cy b x H0 n0 z0 (pc, L, st, sh, M) := by
  unfold pLoadA at h
  split at h
  · rename_i v hv
    cases pGo_eq h
    intro ls H locs hl hG
    exact lv_aload_n C.1 C.2.1 hdg rfl (pLd_at hl hv) (k ls H locs hl hG)
  · rename_i hv
    cases pGo_eq h
    intro ls H locs hl hG
    exact lv_aload_nN C.1 C.2.1 hdg rfl (pLd_at hl hv) (k ls H locs hl hG)
  · rename_i v hv
    cases pGo_eq h
    intro ls H locs hl hG
    exact lv_aload_n C.1 C.2.1 hdg rfl (pLd_at hl hv) (k ls H locs hl hG)
  · cases h
theorem ps_istore {i : Nat} (C : pCtx p R s m args meth c cc nL o ini D cy b x S H0) (hdg : decode cc pc = .ok (.istore i, 2)) (h : pStoI nL i 2 pc L st sh M = some (.inl σ)) (k : pWs p l e R s m args below meth c Q nL D cy b x H0 n0 z0 σ) : pWs p l e R s m args below meth c Q nL D cy b x H0 n0 z0 (pc, L, st, sh, M) := by
  unfold pStoI at h
  split at h
  · rename_i v r
    split at h
    · rename_i hi
      cases pGo_eq h
      intro ls H locs hl hG
      exact lv_istore C.1 C.2.1 hdg hl hi (pcL_S1 b x L i (.int v)) (fun ls' hl' => k ls' H locs hl' hG)
    · cases h
  · cases h
theorem ps_istore_n {i : Fin 4} (C : pCtx p R s m args meth c cc nL o ini D cy b x S H0) (hdg : decode cc pc = .ok (.istore_n i, 1)) (h : pStoI nL i 1 pc L st sh M = some (.inl σ)) (k : pWs p l e R s m args below meth c Q nL D cy b x H0 n0 z0 σ) : pWs p l e R s m args below meth c Q nL D cy b x H0 n0 z0 (pc, L, st, sh, M) := by
  unfold pStoI at h
  split at h
  · rename_i v r
    split at h
    · rename_i hi
      cases pGo_eq h
      intro ls H locs hl hG
      exact lv_istore_n C.1 C.2.1 hdg rfl hl hi (pcL_S1 b x L i (.int v)) (fun ls' hl' => k ls' H locs hl' hG)
    · cases h
  · cases h
theorem ps_lstore {i : Nat} (C : pCtx p R s m args meth c cc nL o ini D cy b x S H0) (hdg : decode cc pc = .ok (.lstore i, 2)) (h : pStoL nL i 2 pc L st sh M = some (.inl σ)) (k : pWs p l e R s m args below meth c Q nL D cy b x H0 n0 z0 σ) : pWs p l e R s m args below meth c Q nL D cy b x H0 n0 z0 (pc, L, st, sh, M) := by
  unfold pStoL at h
  split at h
  · rename_i v r
    split at h
    · rename_i hi
      cases pGo_eq h
      intro ls H locs hl hG
      exact lv_lstore C.1 C.2.1 hdg hl hi (pcL_S2 b x L i (.long v)) (fun ls' hl' => k ls' H locs hl' hG)
    · cases h
  · cases h
theorem ps_lstore_n {i : Fin 4} (C : pCtx p R s m args meth c cc nL o ini D cy b x S H0) (hdg : decode cc pc = .ok (.lstore_n i, 1)) (h : pStoL nL i 1 pc L st sh M = some (.inl σ)) (k : pWs p l e R s m args below meth c Q nL D cy b x H0 n0 z0 σ) : pWs p l e R s m args below meth c Q nL D cy b x H0 n0 z0 (pc, L, st, sh, M) := by
  unfold pStoL at h
  split at h
  · rename_i v r
    split at h
    · rename_i hi
      cases pGo_eq h
      intro ls H locs hl hG
      exact lv_lstore_n C.1 C.2.1 hdg rfl hl hi (pcL_S2 b x L i (.long v)) (fun ls' hl' => k ls' H locs hl' hG)
    · cases h
  · cases h
theorem ps_astore {i : Nat} (C : pCtx p R s m args meth c cc nL o ini D cy b x S H0) (hdg : decode cc pc = .ok (.astore i, 2)) (h : pStoA nL i 2 pc L st sh M = some (.inl σ)) (k : pWs p l e R s m args below meth c Q nL D cy b x H0 n0 z0 σ) : pWs p l e R s m args below meth c Q nL D cy b x H0 n0 z0 (pc, L, st, sh, M) := by
  unfold pStoA at h
  split at h
  · rename_i v r
    split at h
    · rename_i hi
      cases pGo_eq h
      intro ls H locs hl hG
      exact lv_astore C.1 C.2.1 hdg hl hi (pcL_S1 b x L i (.ref v)) (fun ls' hl' => k ls' H locs hl' hG)
    · cases h
  · rename_i r
    split at h
    · rename_i hi
      cases pGo_eq h
      intro ls H locs hl hG
      exact lv_astoreN C.1 C.2.1 hdg hl hi (pcL_S1 b x L i .null) (fun ls' hl' => k ls' H locs hl' hG)
    · cases h
  · cases h
theorem ps_astore_n {i : Fin 4} (C : pCtx p R s m args meth c cc nL o ini D cy b x S H0) (hdg : decode cc pc = .ok (.astore_n i, 1)) (h : pStoA nL i 1 pc L st sh M = some (.inl σ)) (k : pWs p l e R s m args below meth c Q nL D cy b x H0 n0 z0 σ) : pWs p l e R s m args below meth c Q nL D cy b x H0 n0 z0 (pc, L, st, sh, M) := by
  unfold pStoA at h
  split at h
  · rename_i v r
    split at h
    · rename_i hi
      cases pGo_eq h
      intro ls H locs hl hG
      exact lv_astore_n C.1 C.2.1 hdg rfl hl hi (pcL_S1 b x L i (.ref v)) (fun ls' hl' => k ls' H locs hl' hG)
    · cases h
  · rename_i r
    split at h
    · rename_i hi
      cases pGo_eq h
      intro ls H locs hl hG
      exact lv_astore_nN C.1 C.2.1 hdg rfl hl hi (pcL_S1 b x L i .null) (fun ls' hl' => k ls' H locs hl' hG)
    · cases h
  · cases h
theorem ps_iinc {i : Nat} {n : Int} (C : pCtx p R s m args meth c cc nL o ini D cy b x S H0) (hdg : decode cc pc = .ok (.iinc i n, 3)) (h : (match pLd L i with
    | some (.int x) => if i < nL then pGo (pc + 3) (pS1 L i (.int (x + Int32.ofInt n))) st sh M else none
    | _ => none) = some (.inl σ)) (k : pWs p l e R s m args below meth c Q nL D cy b x H0 n0 z0 σ) : pWs p l e R s m args below meth c Q nL D cy b x H0 n0 z0 (pc, L, st, sh, M) := by
  split at h
  · rename_i v hv
    split at h
    · rename_i hi
      cases pGo_eq h
      intro ls H locs hl hG
      obtain ⟨j, hj⟩ := pLd_ix (b := b) (x := x) hv
      exact lv_iinc C.1 C.2.1 hdg hl hj rfl hi (pcL_S1 b x L i (.int (v + Int32.ofInt n))) (fun ls' hl' => k ls' H locs hl' hG)
    · cases h
  · cases h
theorem ps_iadd (C : pCtx p R s m args meth c cc nL o ini D cy b x S H0) (hdg : decode cc pc = .ok (.iadd, 1)) (h : pInt (fun x y => x + y) pc L st sh M = some (.inl σ)) (k : pWs p l e R s m args below meth c Q nL D cy b x H0 n0 z0 σ) : pWs p l e R s m args below meth c Q nL D cy b x H0 n0 z0 (pc, L, st, sh, M) := by
  unfold pInt at h
  split at h
  · cases pGo_eq h
    intro ls H locs hl hG
    exact lv_iadd C.1 C.2.1 hdg (k ls H locs hl hG)
  · cases h
theorem ps_isub (C : pCtx p R s m args meth c cc nL o ini D cy b x S H0) (hdg : decode cc pc = .ok (.isub, 1)) (h : pInt (fun x y => x - y) pc L st sh M = some (.inl σ)) (k : pWs p l e R s m args below meth c Q nL D cy b x H0 n0 z0 σ) : pWs p l e R s m args below meth c Q nL D cy b x H0 n0 z0 (pc, L, st, sh, M) := by
  unfold pInt at h
  split at h
  · cases pGo_eq h
    intro ls H locs hl hG
    exact lv_isub C.1 C.2.1 hdg (k ls H locs hl hG)
  · cases h
theorem ps_imul (C : pCtx p R s m args meth c cc nL o ini D cy b x S H0) (hdg : decode cc pc = .ok (.imul, 1)) (h : pInt (fun x y => x * y) pc L st sh M = some (.inl σ)) (k : pWs p l e R s m args below meth c Q nL D cy b x H0 n0 z0 σ) : pWs p l e R s m args below meth c Q nL D cy b x H0 n0 z0 (pc, L, st, sh, M) := by
  unfold pInt at h
  split at h
  · cases pGo_eq h
    intro ls H locs hl hG
    exact lv_imul C.1 C.2.1 hdg (k ls H locs hl hG)
  · cases h
theorem ps_iand (C : pCtx p R s m args meth c cc nL o ini D cy b x S H0) (hdg : decode cc pc = .ok (.iand, 1)) (h : pInt (fun x y => x &&& y) pc L st sh M = some (.inl σ)) (k : pWs p l e R s m args below meth c Q nL D cy b x H0 n0 z0 σ) : pWs p l e R s m args below meth c Q nL D cy b x H0 n0 z0 (pc, L, st, sh, M) := by
  unfold pInt at h
  split at h
  · cases pGo_eq h
    intro ls H locs hl hG
    exact lv_iand C.1 C.2.1 hdg (k ls H locs hl hG)
  · cases h
theorem ps_ior (C : pCtx p R s m args meth c cc nL o ini D cy b x S H0) (hdg : decode cc pc = .ok (.ior, 1)) (h : pInt (fun x y => x ||| y) pc L st sh M = some (.inl σ)) (k : pWs p l e R s m args below meth c Q nL D cy b x H0 n0 z0 σ) : pWs p l e R s m args below meth c Q nL D cy b x H0 n0 z0 (pc, L, st, sh, M) := by
  unfold pInt at h
  split at h
  · cases pGo_eq h
    intro ls H locs hl hG
    exact lv_ior C.1 C.2.1 hdg (k ls H locs hl hG)
  · cases h
theorem ps_ishl (C : pCtx p R s m args meth c cc nL o ini D cy b x S H0) (hdg : decode cc pc = .ok (.ishl, 1)) (h : pInt (fun x y => x <<< (y &&& 31)) pc L st sh M = some (.inl σ)) (k : pWs p l e R s m args below meth c Q nL D cy b x H0 n0 z0 σ) : pWs p l e R s m args below meth c Q nL D cy b x H0 n0 z0 (pc, L, st, sh, M) := by
  unfold pInt at h
  split at h
  · cases pGo_eq h
    intro ls H locs hl hG
    exact lv_ishl C.1 C.2.1 hdg (k ls H locs hl hG)
  · cases h
theorem ps_ishr (C : pCtx p R s m args meth c cc nL o ini D cy b x S H0) (hdg : decode cc pc = .ok (.ishr, 1)) (h : pInt (fun x y => x >>> (y &&& 31)) pc L st sh M = some (.inl σ)) (k : pWs p l e R s m args below meth c Q nL D cy b x H0 n0 z0 σ) : pWs p l e R s m args below meth c Q nL D cy b x H0 n0 z0 (pc, L, st, sh, M) := by
  unfold pInt at h
  split at h
  · cases pGo_eq h
    intro ls H locs hl hG
    exact lv_ishr C.1 C.2.1 hdg (k ls H locs hl hG)
  · cases h
theorem ps_iushr (C : pCtx p R s m args meth c cc nL o ini D cy b x S H0) (hdg : decode cc pc = .ok (.iushr, 1)) (h : pInt (fun x y => (x.toUInt32 >>> (y.toUInt32 &&& Int32.toUInt32 31)).toInt32) pc L st sh M = some (.inl σ)) (k : pWs p l e R s m args below meth c Q nL D cy b x H0 n0 z0 σ) : pWs p l e R s m args below meth c Q nL D cy b x H0 n0 z0 (pc, L, st, sh, M) := by
  unfold pInt at h
  split at h
  · cases pGo_eq h
    intro ls H locs hl hG
    exact lv_iushr C.1 C.2.1 hdg rfl (k ls H locs hl hG)
  · cases h
theorem ps_ladd (C : pCtx p R s m args meth c cc nL o ini D cy b x S H0) (hdg : decode cc pc = .ok (.ladd, 1)) (h : pLong (fun x y => x + y) pc L st sh M = some (.inl σ)) (k : pWs p l e R s m args below meth c Q nL D cy b x H0 n0 z0 σ) : pWs p l e R s m args below meth c Q nL D cy b x H0 n0 z0 (pc, L, st, sh, M) := by
  unfold pLong at h
  split at h
  · cases pGo_eq h
    intro ls H locs hl hG
    exact lv_ladd C.1 C.2.1 hdg (k ls H locs hl hG)
  · cases h
theorem ps_lsub (C : pCtx p R s m args meth c cc nL o ini D cy b x S H0) (hdg : decode cc pc = .ok (.lsub, 1)) (h : pLong (fun x y => x - y) pc L st sh M = some (.inl σ)) (k : pWs p l e R s m args below meth c Q nL D cy b x H0 n0 z0 σ) : pWs p l e R s m args below meth c Q nL D cy b x H0 n0 z0 (pc, L, st, sh, M) := by
  unfold pLong at h
  split at h
  · cases pGo_eq h
    intro ls H locs hl hG
    exact lv_lsub C.1 C.2.1 hdg (k ls H locs hl hG)
  · cases h
theorem ps_lmul (C : pCtx p R s m args meth c cc nL o ini D cy b x S H0) (hdg : decode cc pc = .ok (.lmul, 1)) (h : pLong (fun x y => x * y) pc L st sh M = some (.inl σ)) (k : pWs p l e R s m args below meth c Q nL D cy b x H0 n0 z0 σ) : pWs p l e R s m args below meth c Q nL D cy b x H0 n0 z0 (pc, L, st, sh, M) := by
  unfold pLong at h
  split at h
  · cases pGo_eq h
    intro ls H locs hl hG
    exact lv_lmul C.1 C.2.1 hdg (k ls H locs hl hG)
  · cases h
theorem ps_lor (C : pCtx p R s m args meth c cc nL o ini D cy b x S H0) (hdg : decode cc pc = .ok (.lor, 1)) (h : pLong (fun x y => x ||| y) pc L st sh M = some (.inl σ)) (k : pWs p l e R s m args below meth c Q nL D cy b x H0 n0 z0 σ) : pWs p l e R s m args below meth c Q nL D cy b x H0 n0 z0 (pc, L, st, sh, M) := by
  unfold pLong at h
  split at h
  · cases pGo_eq h
    intro ls H locs hl hG
    exact lv_lor C.1 C.2.1 hdg (k ls H locs hl hG)
  · cases h
theorem ps_idiv (C : pCtx p R s m args meth c cc nL o ini D cy b x S H0) (hdg : decode cc pc = .ok (.idiv, 1)) (h : (match st with
    | .int y :: .int x :: r => if y = 0 then none else pGo (pc + 1) L (.int (x / y) :: r) sh M
    | _ => none) = some (.inl σ)) (k : pWs p l e R s m args below meth c Q nL D cy b x H0 n0 z0 σ) : pWs p l e R s m args below meth c Q nL D cy b x H0 n0 z0 (pc, L, st, sh, M) := by
  split at h
  · split at h
    · cases h
    · rename_i hy
      cases pGo_eq h
      intro ls H locs hl hG
      exact lv_idiv C.1 C.2.1 hdg hy (k ls H locs hl hG)
  · cases h
theorem ps_irem (C : pCtx p R s m args meth c cc nL o ini D cy b x S H0) (hdg : decode cc pc = .ok (.irem, 1)) (h : (match st with
    | .int y :: .int x :: r => if y = 0 then none else pGo (pc + 1) L (.int (x - x / y * y) :: r) sh M
    | _ => none) = some (.inl σ)) (k : pWs p l e R s m args below meth c Q nL D cy b x H0 n0 z0 σ) : pWs p l e R s m args below meth c Q nL D cy b x H0 n0 z0 (pc, L, st, sh, M) := by
  split at h
  · split at h
    · cases h
    · rename_i hy
      cases pGo_eq h
      intro ls H locs hl hG
      exact lv_irem C.1 C.2.1 hdg hy (k ls H locs hl hG)
  · cases h
theorem ps_ldiv (C : pCtx p R s m args meth c cc nL o ini D cy b x S H0) (hdg : decode cc pc = .ok (.ldiv, 1)) (h : (match st with
    | .long y :: .long x :: r => if y = 0 then none else pGo (pc + 1) L (.long (x / y) :: r) sh M
    | _ => none) = some (.inl σ)) (k : pWs p l e R s m args below meth c Q nL D cy b x H0 n0 z0 σ) : pWs p l e R s m args below meth c Q nL D cy b x H0 n0 z0 (pc, L, st, sh, M) := by
  split at h
  · split at h
    · cases h
    · rename_i hy
      cases pGo_eq h
      intro ls H locs hl hG
      exact lv_ldiv C.1 C.2.1 hdg hy (k ls H locs hl hG)
  · cases h
theorem ps_ineg (C : pCtx p R s m args meth c cc nL o ini D cy b x S H0) (hdg : decode cc pc = .ok (.ineg, 1)) (h : (match st with
    | .int x :: r => pGo (pc + 1) L (.int (-x) :: r) sh M
    | _ => none) = some (.inl σ)) (k : pWs p l e R s m args below meth c Q nL D cy b x H0 n0 z0 σ) : pWs p l e R s m args below meth c Q nL D cy b x H0 n0 z0 (pc, L, st, sh, M) := by
  split at h
  · cases pGo_eq h
    intro ls H locs hl hG
    exact lv_ineg C.1 C.2.1 hdg (k ls H locs hl hG)
  · cases h
theorem ps_lneg (C : pCtx p R s m args meth c cc nL o ini D cy b x S H0) (hdg : decode cc pc = .ok (.lneg, 1)) (h : (match st with
    | .long x :: r => pGo (pc + 1) L (.long (-x) :: r) sh M
    | _ => none) = some (.inl σ)) (k : pWs p l e R s m args below meth c Q nL D cy b x H0 n0 z0 σ) : pWs p l e R s m args below meth c Q nL D cy b x H0 n0 z0 (pc, L, st, sh, M) := by
  split at h
  · cases pGo_eq h
    intro ls H locs hl hG
    exact lv_lneg C.1 C.2.1 hdg (k ls H locs hl hG)
  · cases h
theorem ps_lshl (C : pCtx p R s m args meth c cc nL o ini D cy b x S H0) (hdg : decode cc pc = .ok (.lshl, 1)) (h : (match st with
    | .int y :: .long x :: r => pGo (pc + 1) L (.long (x <<< (y.toInt64 &&& 63)) :: r) sh M
    | _ => none) = some (.inl σ)) (k : pWs p l e R s m args below meth c Q nL D cy b x H0 n0 z0 σ) : pWs p l e R s m args below meth c Q nL D cy b x H0 n0 z0 (pc, L, st, sh, M) := by
  split at h
  · cases pGo_eq h
    intro ls H locs hl hG
    exact lv_lshl C.1 C.2.1 hdg rfl (k ls H locs hl hG)
  · cases h
theorem ps_lcmp (C : pCtx p R s m args meth c cc nL o ini D cy b x S H0) (hdg : decode cc pc = .ok (.lcmp, 1)) (h : (match st with
    | .long y :: .long x :: r => pGo (pc + 1) L (.int (lg_cmp x y) :: r) sh M
    | _ => none) = some (.inl σ)) (k : pWs p l e R s m args below meth c Q nL D cy b x H0 n0 z0 σ) : pWs p l e R s m args below meth c Q nL D cy b x H0 n0 z0 (pc, L, st, sh, M) := by
  split at h
  · cases pGo_eq h
    intro ls H locs hl hG
    exact W.lcmp C.1 C.2.1 hdg (k ls H locs hl hG)
  · cases h
theorem ps_i2l (C : pCtx p R s m args meth c cc nL o ini D cy b x S H0) (hdg : decode cc pc = .ok (.i2l, 1)) (h : (match st with
    | .int x :: r => pGo (pc + 1) L (.long x.toInt64 :: r) sh M
    | _ => none) = some (.inl σ)) (k : pWs p l e R s m args below meth c Q nL D cy b x H0 n0 z0 σ) : pWs p l e R s m args below meth c Q nL D cy b x H0 n0 z0 (pc, L, st, sh, M) := by
  split at h
  · cases pGo_eq h
    intro ls H locs hl hG
    exact lv_i2l C.1 C.2.1 hdg rfl (k ls H locs hl hG)
  · cases h
theorem ps_l2i (C : pCtx p R s m args meth c cc nL o ini D cy b x S H0) (hdg : decode cc pc = .ok (.l2i, 1)) (h : (match st with
    | .long x :: r => pGo (pc + 1) L (.int x.toInt32 :: r) sh M
    | _ => none) = some (.inl σ)) (k : pWs p l e R s m args below meth c Q nL D cy b x H0 n0 z0 σ) : pWs p l e R s m args below meth c Q nL D cy b x H0 n0 z0 (pc, L, st, sh, M) := by
  split at h
  · cases pGo_eq h
    intro ls H locs hl hG
    exact lv_l2i C.1 C.2.1 hdg rfl (k ls H locs hl hG)
  · cases h
theorem ps_dup (C : pCtx p R s m args meth c cc nL o ini D cy b x S H0) (hdg : decode cc pc = .ok (.dup, 1)) (h : (match st with
    | v :: r => if v.category = 1 then pGo (pc + 1) L (v :: v :: r) sh M else none
    | _ => none) = some (.inl σ)) (k : pWs p l e R s m args below meth c Q nL D cy b x H0 n0 z0 σ) : pWs p l e R s m args below meth c Q nL D cy b x H0 n0 z0 (pc, L, st, sh, M) := by
  split at h
  · split at h
    · rename_i hv
      cases pGo_eq h
      intro ls H locs hl hG
      exact lv_dup C.1 C.2.1 hdg ((pcv_cat b x _).trans hv) (k ls H locs hl hG)
    · cases h
  · cases h
theorem ps_pop (C : pCtx p R s m args meth c cc nL o ini D cy b x S H0) (hdg : decode cc pc = .ok (.pop, 1)) (h : (match st with
    | v :: r => if v.category = 1 then pGo (pc + 1) L (r) sh M else none
    | _ => none) = some (.inl σ)) (k : pWs p l e R s m args below meth c Q nL D cy b x H0 n0 z0 σ) : pWs p l e R s m args below meth c Q nL D cy b x H0 n0 z0 (pc, L, st, sh, M) := by
  split at h
  · split at h
    · rename_i hv
      cases pGo_eq h
      intro ls H locs hl hG
      exact lv_pop C.1 C.2.1 hdg ((pcv_cat b x _).trans hv) (k ls H locs hl hG)
    · cases h
  · cases h
theorem ps_dup2 (C : pCtx p R s m args meth c cc nL o ini D cy b x S H0) (hdg : decode cc pc = .ok (.dup2, 1)) (h : (match st with
    | v :: u :: r => if v.category = 1 ∧ u.category = 1 then pGo (pc + 1) L (v :: u :: v :: u :: r) sh M else none
    | _ => none) = some (.inl σ)) (k : pWs p l e R s m args below meth c Q nL D cy b x H0 n0 z0 σ) : pWs p l e R s m args below meth c Q nL D cy b x H0 n0 z0 (pc, L, st, sh, M) := by
  split at h
  · split at h
    · rename_i hv
      cases pGo_eq h
      intro ls H locs hl hG
      exact lv_dup2_11 C.1 C.2.1 hdg ((pcv_cat b x _).trans hv.1) ((pcv_cat b x _).trans hv.2) (k ls H locs hl hG)
    · cases h
  · cases h
theorem ps_ifCond {cd : Jvm.ClassFile.Cond} {off : Int} (C : pCtx p R s m args meth c cc nL o ini D cy b x S H0) (hdg : decode cc pc = .ok (.ifCond cd off, 3)) (h : (match st with
    | .int x :: r => pBr (pC cd x 0) pc off L r sh M
    | _ => none) = some (.inl σ)) (k : pWs p l e R s m args below meth c Q nL D cy b x H0 n0 z0 σ) : pWs p l e R s m args below meth c Q nL D cy b x H0 n0 z0 (pc, L, st, sh, M) := by
  split at h
  · unfold pBr at h
    split at h
    · cases h
    · rename_i hn
      have ht : (pc : Int) + off = (((pc : Int) + off).toNat : Int) := by omega
      split at h
      · rename_i hc
        cases pGo_eq h
        intro ls H locs hl hG
        have kk := k ls H locs hl hG
        cases cd
        · exact lv_if_eq C.1 C.2.1 hdg ht (fun _ => kk) (fun q => absurd (of_decide_eq_true hc) q)
        · exact lv_if_ne C.1 C.2.1 hdg ht (fun _ => kk) (fun q => absurd (of_decide_eq_true hc) (fun z => z q))
        · exact lv_if_lt C.1 C.2.1 hdg ht (fun _ => kk) (fun q => absurd (of_decide_eq_true hc) q)
        · exact lv_if_ge C.1 C.2.1 hdg ht (fun _ => kk) (fun q => absurd (of_decide_eq_true hc) q)
        · exact lv_if_gt C.1 C.2.1 hdg ht (fun _ => kk) (fun q => absurd (of_decide_eq_true hc) q)
        · exact lv_if_le C.1 C.2.1 hdg ht (fun _ => kk) (fun q => absurd (of_decide_eq_true hc) q)
      · rename_i hc
        cases pGo_eq h
        intro ls H locs hl hG
        have kk := k ls H locs hl hG
        cases cd
        · exact lv_if_eq C.1 C.2.1 hdg ht (fun q => absurd q (of_decide_eq_false hc)) (fun _ => kk)
        · exact lv_if_ne C.1 C.2.1 hdg ht (fun q => absurd q (of_decide_eq_false hc)) (fun _ => kk)
        · exact lv_if_lt C.1 C.2.1 hdg ht (fun q => absurd q (of_decide_eq_false hc)) (fun _ => kk)
        · exact lv_if_ge C.1 C.2.1 hdg ht (fun q => absurd q (of_decide_eq_false hc)) (fun _ => kk)
        · exact lv_if_gt C.1 C.2.1 hdg ht (fun q => absurd q (of_decide_eq_false hc)) (fun _ => kk)
        · exact lv_if_le C.1 C.2.1 hdg ht (fun q => absurd q (of_decide_eq_false hc)) (fun _ => kk)
  · cases h
theorem ps_if_icmp {cd : Jvm.ClassFile.Cond} {off : Int} (C : pCtx p R s m args meth c cc nL o ini D cy b x S H0) (hdg : decode cc pc = .ok (.if_icmp cd off, 3)) (h : (match st with
    | .int y :: .int x :: r => pBr (pC cd x y) pc off L r sh M
    | _ => none) = some (.inl σ)) (k : pWs p l e R s m args below meth c Q nL D cy b x H0 n0 z0 σ) : pWs p l e R s m args below meth c Q nL D cy b x H0 n0 z0 (pc, L, st, sh, M) := by
  split at h
  · unfold pBr at h
    split at h
    · cases h
    · rename_i hn
      have ht : (pc : Int) + off = (((pc : Int) + off).toNat : Int) := by omega
      split at h
      · rename_i hc
        cases pGo_eq h
        intro ls H locs hl hG
        have kk := k ls H locs hl hG
        cases cd
        · exact lv_icmp_eq C.1 C.2.1 hdg ht (fun _ => kk) (fun q => absurd (of_decide_eq_true hc) q)
        · exact lv_icmp_ne C.1 C.2.1 hdg ht (fun _ => kk) (fun q => absurd (of_decide_eq_true hc) (fun z => z q))
        · exact lv_icmp_lt C.1 C.2.1 hdg ht (fun _ => kk) (fun q => absurd (of_decide_eq_true hc) q)
        · exact lv_icmp_ge C.1 C.2.1 hdg ht (fun _ => kk) (fun q => absurd (of_decide_eq_true hc) q)
        · exact lv_icmp_gt C.1 C.2.1 hdg ht (fun _ => kk) (fun q => absurd (of_decide_eq_true hc) q)
        · exact lv_icmp_le C.1 C.2.1 hdg ht (fun _ => kk) (fun q => absurd (of_decide_eq_true hc) q)
      · rename_i hc
        cases pGo_eq h
        intro ls H locs hl hG
        have kk := k ls H locs hl hG
        cases cd
        · exact lv_icmp_eq C.1 C.2.1 hdg ht (fun q => absurd q (of_decide_eq_false hc)) (fun _ => kk)
        · exact lv_icmp_ne C.1 C.2.1 hdg ht (fun q => absurd q (of_decide_eq_false hc)) (fun _ => kk)
        · exact lv_icmp_lt C.1 C.2.1 hdg ht (fun q => absurd q (of_decide_eq_false hc)) (fun _ => kk)
        · exact lv_icmp_ge C.1 C.2.1 hdg ht (fun q => absurd q (of_decide_eq_false hc)) (fun _ => kk)
        · exact lv_icmp_gt C.1 C.2.1 hdg ht (fun q => absurd q (of_decide_eq_false hc)) (fun _ => kk)
        · exact lv_icmp_le C.1 C.2.1 hdg ht (fun q => absurd q (of_decide_eq_false hc)) (fun _ => kk)
  · cases h
end PST

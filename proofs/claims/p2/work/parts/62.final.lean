/-! fields that are final stay as they are -/
def fFin (ci k : Nat) : Bool := ((pCl ci).2.1 k).2.2.2
def kF (sh : pSh) (M : pMem) (sh' : pSh) (M' : pMem) : Prop := (∃ t, sh' = sh ++ t) ∧ ∀ (o ci n k : Nat), sh[o]? = some (ci, n) → ci < 13 → fFin ci k = true → M' o k = M o k
theorem kF.rf (sh : pSh) (M : pMem) : kF sh M sh M := ⟨⟨[], (List.append_nil sh).symm⟩, fun _ _ _ _ _ _ _ => rfl⟩
theorem kF.tr {s1 s2 s3 : pSh} {M1 M2 M3 : pMem} (h : kF s1 M1 s2 M2) (g : kF s2 M2 s3 M3) : kF s1 M1 s3 M3 := by
  obtain ⟨⟨t, rfl⟩, h2⟩ := h
  obtain ⟨⟨u, rfl⟩, g2⟩ := g
  refine ⟨⟨t ++ u, List.append_assoc _ _ _⟩, fun o ci n k ho hc hf => ?_⟩
  have hl : o < s1.length := by
    rcases Nat.lt_or_ge o s1.length with hl | hl
    · exact hl
    · rw [List.getElem?_eq_none hl] at ho
      cases ho
  rw [g2 o ci n k (by rw [List.getElem?_append_left hl]; exact ho) hc hf, h2 o ci n k ho hc hf]
section KFS
variable {S : pScr} {o nL pc : Nat} {L : pLs} {st : List Value} {sh : pSh} {M : pMem} {σ : pSt} {i : Instr} {len : Nat}
theorem kF_of (h : σ.2.2.2 = (sh, M)) : kF sh M σ.2.2.2.1 σ.2.2.2.2 := by
  rw [h]
  exact kF.rf sh M
theorem kF_go {sh' : pSh} {M' : pMem} {pc' : Nat} {L' : pLs} {st' : List Value} (hk : kF sh M sh' M') (h : pGo pc' L' st' sh' M' = some (.inl σ)) : kF sh M σ.2.2.2.1 σ.2.2.2.2 := by
  rw [kp_go h]
  exact hk
theorem kF_arr {a j k n : Nat} {v : Value} (ha : sh[a]? = some (k, n)) (hk : 13 ≤ k) : kF sh M sh (pUp M a j v) := by
  refine ⟨⟨[], (List.append_nil sh).symm⟩, fun o ci m q ho hc _ => ?_⟩
  rw [pUp_ne (M := M) (fun e => by
    rw [e, ha] at ho
    cases ho
    omega)]
theorem kF_put {a ci k n : Nat} {v : Value} (ha : sh[a]? = some (ci, n)) (hk : fFin ci k = false) : kF sh M sh (pUp M a k v) := by
  refine ⟨⟨[], (List.append_nil sh).symm⟩, fun o c m q ho hc hf => ?_⟩
  by_cases e : o = a
  · subst e
    rw [ha] at ho
    cases ho
    unfold pUp
    cases e2 : Nat.beq q k with
    | true =>
      rw [Nat.eq_of_beq_eq_true e2, hk] at hf
      cases hf
    | false =>
      rw [Bool.and_false]
      rfl
  · rw [pUp_ne (M := M) e]
theorem kF_add {t : pSh} {M' : pMem} (h : ∀ o k, o < sh.length → M' o k = M o k) : kF sh M (sh ++ t) M' := by
  refine ⟨⟨t, rfl⟩, fun o c m q ho hc hf => h o q ?_⟩
  rcases Nat.lt_or_ge o sh.length with hl | hl
  · exact hl
  · rw [List.getElem?_eq_none hl] at ho
    cases ho
theorem pNew_lt {a : Nat} {f : Nat → Value} (o k : Nat) (h : o < a) : pNew M a f o k = M o k := by
  unfold pNew
  cases e : Nat.beq o a with
  | true =>
    have := Nat.eq_of_beq_eq_true e
    omega
  | false => rfl
theorem kF_pArrSt (h : pArrSt i pc L st sh M = some (.inl σ)) : kF sh M σ.2.2.2.1 σ.2.2.2.2 := by
  unfold pArrSt at h
  split at h
  · split at h
    · rename_i hs
      split at h
      · split at h
        · exact kF_go (kF_arr hs (by decide)) h
        · exact kF_go (kF_arr hs (by decide)) h
        · exact kF_go (kF_arr hs (by decide)) h
        · split at h
          · exact kF_go (kF_arr hs (by decide)) h
          · cases h
        · split at h
          · exact kF_go (kF_arr hs (by decide)) h
          · cases h
        · cases h
      · cases h
    · cases h
  · cases h
theorem kF_pPutF {idx : Nat} (h : pPutF o false idx pc L st sh M = some (.inl σ)) : kF sh M σ.2.2.2.1 σ.2.2.2.2 := by
  unfold pPutF at h
  split at h
  · split at h
    · rename_i hs
      split at h
      · rename_i hc
        obtain ⟨h1, h2, h3⟩ := hc
        split at h
        · split at h
          · refine kF_go (kF_put hs ?_) h
            rcases h3 with h3 | h3
            · rw [h1]
              exact h3
            · cases h3.1
          · cases h
        · cases h
      · cases h
    · cases h
  · cases h
theorem kF_pNewO {idx : Nat} (h : pNewO o idx pc L st sh M = some (.inl σ)) : kF sh M σ.2.2.2.1 σ.2.2.2.2 := by
  unfold pNewO at h
  (repeat' split at h) <;> first | exact kF_go (kF_add pNew_lt) h | cases h
theorem kF_pNewA {t : ArrayType} (h : pNewA t pc L st sh M = some (.inl σ)) : kF sh M σ.2.2.2.1 σ.2.2.2.2 := by
  unfold pNewA at h
  (repeat' split at h) <;> first | exact kF_go (kF_add pNew_lt) h | cases h
theorem kF_pNewR {idx : Nat} (h : pNewR o idx pc L st sh M = some (.inl σ)) : kF sh M σ.2.2.2.1 σ.2.2.2.2 := by
  unfold pNewR at h
  (repeat' split at h) <;> first | exact kF_go (kF_add pNew_lt) h | cases h
theorem pNewM_lt {N : Nat} (o k : Nat) (h : o < sh.length) : (fun a j => bif Nat.beq a sh.length then (.ref (sh.length + 1 + j) : Value) else bif Nat.blt sh.length a && Nat.ble a (sh.length + N) then .int 0 else M a j) o k = M o k := by
  show (bif Nat.beq o sh.length then (.ref (sh.length + 1 + k) : Value) else bif Nat.blt sh.length o && Nat.ble o (sh.length + N) then .int 0 else M o k) = M o k
  have e1 : Nat.beq o sh.length = false := by
    cases e : Nat.beq o sh.length with
    | true =>
      have := Nat.eq_of_beq_eq_true e
      omega
    | false => rfl
  have e2 : Nat.blt sh.length o = false := by
    cases e : Nat.blt sh.length o with
    | true =>
      have := (blt_iff _ _).mp e
      omega
    | false => rfl
  rw [e1, e2]
  rfl
theorem kF_pNewM {idx dim : Nat} (h : pNewM o idx dim pc L st sh M = some (.inl σ)) : kF sh M σ.2.2.2.1 σ.2.2.2.2 := by
  unfold pNewM at h
  (repeat' split at h) <;> first | exact kF_go (kF_add pNewM_lt) h | cases h
theorem pCpy_ne {s sp d dp n a j : Nat} (h : a ≠ d) : pCpy M s sp d dp n a j = M a j := by
  unfold pCpy
  cases e : Nat.beq a d with
  | true => exact absurd (Nat.eq_of_beq_eq_true e) h
  | false => rfl
theorem kF_pJdkS {idx : Nat} (h : pJdkS o idx pc L st sh M = some (.inl σ)) : kF sh M σ.2.2.2.1 σ.2.2.2.2 := by
  unfold pJdkS at h
  split at h
  · (repeat' split at h) <;> first | exact kF_of (kp_go h) | cases h
  · (repeat' split at h) <;> first | exact kF_of (kp_go h) | cases h
  · (repeat' split at h) <;> first | exact kF_of (kp_go h) | cases h
  · split at h
    · split at h
      · rename_i h1 h2
        split at h
        · rename_i hc
          refine kF_go ⟨⟨[], (List.append_nil sh).symm⟩, fun o' ci m q ho hl _ => ?_⟩ h
          rw [pCpy_ne (fun e => ?_)]
          rw [e, h2] at ho
          cases ho
          have := hc.1
          have := hc.2.1
          omega
        · cases h
      · cases h
    · cases h
  · cases h
theorem kF_step (hi : ∀ idx, i ≠ .invokespecial idx) (h : pstep S o false nL i len pc L st sh M = some (.inl σ)) : kF sh M σ.2.2.2.1 σ.2.2.2.2 := by
  unfold pstep at h
  split at h
  all_goals first
    | exact kF_of (kp_go h)
    | exact kF_of (kp_jp h)
    | exact kF_of (kp_pLoadI h)
    | exact kF_of (kp_pLoadL h)
    | exact kF_of (kp_pLoadA h)
    | exact kF_of (kp_pStoI h)
    | exact kF_of (kp_pStoL h)
    | exact kF_of (kp_pStoA h)
    | exact kF_of (kp_pInt h)
    | exact kF_of (kp_pLong h)
    | exact kF_of (kp_pArrLd h)
    | exact kF_of (kp_pGetF h)
    | exact kF_of (kp_pLen h)
    | exact kF_of (kp_pTbl h)
    | exact kF_of (kp_pLkp h)
    | exact kF_pArrSt h
    | exact kF_pPutF h
    | exact kF_pNewO h
    | exact kF_pNewA h
    | exact kF_pNewR h
    | exact kF_pNewM h
    | exact absurd rfl (hi _)
    | (split at h
       · rename_i hz
         cases h
         exact (pCall_no hz).elim
       · first | exact kF_of (kp_pJdkV h) | exact kF_pJdkS h)
    | ((repeat' split at h) <;> first | exact kF_of (kp_go h) | exact kF_of (kp_jp h) | exact kF_of (kp_br h) | exact kF_of (kp_pLdcS h) | cases h)
theorem cl_call {kd idx m pc' : Nat} {as st' : List Value} {L' : pLs} {sh' : pSh} {M' : pMem} (h : pCall kd o idx pc L st sh M = some (.inr (.inr (m, as, pc', L', st', sh', M')))) : sh' = sh ∧ M' = M ∧ pKind.getD m 9 = kd := by
  unfold pCall at h
  split at h
  · split at h
    · rename_i hc
      split at h
      · split at h
        · cases h
          exact ⟨rfl, rfl, hc.1⟩
        · cases h
      · split at h
        · split at h
          · split at h
            · cases h
              exact ⟨rfl, rfl, hc.1⟩
            · cases h
          · cases h
        · cases h
    · cases h
  · cases h
theorem no_go {pc' : Nat} {L' : pLs} {st' : List Value} {sh' : pSh} {M' : pMem} {x : Unit ⊕ (Nat × List Value × pSt)} (h : pGo pc' L' st' sh' M' = some (.inr x)) : False := by
  unfold pGo at h
  cases h
theorem no_jp {pc' : Nat} {off : Int} {L' : pLs} {st' : List Value} {sh' : pSh} {M' : pMem} {x : Unit ⊕ (Nat × List Value × pSt)} (h : pJp pc' off L' st' sh' M' = some (.inr x)) : False := by
  unfold pJp at h
  split at h
  · cases h
  · exact no_go h
theorem cl_step {m pc' : Nat} {as st' : List Value} {L' : pLs} {sh' : pSh} {M' : pMem} (hi : ∀ idx, i ≠ .invokespecial idx) (h : pstep S o false nL i len pc L st sh M = some (.inr (.inr (m, as, pc', L', st', sh', M')))) : sh' = sh ∧ M' = M ∧ ¬ pKind.getD m 9 = 2 := by
  unfold pstep at h
  split at h
  all_goals first
    | exact (no_go h).elim
    | exact (no_jp h).elim
    | exact absurd rfl (hi _)
    | (split at h
       · rename_i hz
         cases h
         obtain ⟨h1, h2, h3⟩ := cl_call hz
         exact ⟨h1, h2, by rw [h3]; decide⟩
       · first | (unfold pJdkV at h; (repeat' split at h) <;> first | exact (no_go h).elim | cases h) | (unfold pJdkS at h; (repeat' split at h) <;> first | exact (no_go h).elim | cases h))
    | (first | unfold pLoadI at h | unfold pLoadL at h | unfold pLoadA at h | unfold pStoI at h | unfold pStoL at h | unfold pStoA at h | unfold pInt at h | unfold pLong at h | unfold pArrLd at h | unfold pArrSt at h | unfold pGetF at h | unfold pPutF at h | unfold pLen at h | unfold pTbl at h | unfold pLkp at h | unfold pNewO at h | unfold pNewA at h | unfold pNewR at h | unfold pNewM at h
       (repeat' split at h) <;> first | exact (no_go h).elim | exact (no_jp h).elim | cases h)
    | ((repeat' split at h) <;> first | exact (no_go h).elim | exact (no_jp h).elim | (unfold pBr at h; (repeat' split at h) <;> first | exact (no_go h).elim | cases h) | (unfold pLdcS at h; (repeat' split at h) <;> first | exact (no_go h).elim | cases h) | cases h)
end KFS
theorem kF_run {S : pScr} {o nL : Nat} {code : Nat → Option (Instr × Nat)} {call : Nat → List Value → pHp → Option (Option Value × pHp)} (hcode : ∀ pc i len, code pc = some (i, len) → ∀ idx, i ≠ .invokespecial idx) (hcall : ∀ (m : Nat) (as : List Value) (sh : pSh) (M : pMem) (v : Option Value) (sh2 : pSh) (M2 : pMem), ¬ pKind.getD m 9 = 2 → call m as (sh, M) = some (v, sh2, M2) → kF sh M sh2 M2) : ∀ (n pc : Nat) (L : pLs) (st : List Value) (sh : pSh) (M : pMem) (i : Instr) (len : Nat) (τ : pSt), prun S o false nL code call n (pc, L, st, sh, M) = some (i, len, τ) → kF sh M τ.2.2.2.1 τ.2.2.2.2 := by
  intro n
  induction n with
  | zero => intro pc L st sh M i len τ h; cases h
  | succ n ih =>
    intro pc L st sh M i len τ h
    unfold prun at h
    split at h
    · cases h
    · rename_i i1 len1 hc
      have hi := hcode _ _ _ hc
      split at h
      · cases h
      · rename_i σ hs
        obtain ⟨pc1, L1, st1, sh1, M1⟩ := σ
        exact (kF_step hi hs).tr (ih _ _ _ _ _ _ _ _ h)
      · cases h
        exact kF.rf sh M
      · rename_i mi as pc' L' st' sh' M' hs
        obtain ⟨h1, h2, h3⟩ := cl_step hi hs
        subst h1
        subst h2
        split at h
        · cases h
        · rename_i v sh2 M2 hcl
          exact (hcall _ _ _ _ _ _ _ h3 hcl).tr (ih _ _ _ _ _ _ _ _ h)
def isSp (i : Instr) : Bool := match i with
  | .invokespecial _ => true
  | _ => false
theorem noSp : (List.range 287).all (fun m => Nat.beq (pKind.getD m 9) 2 || (pCodeT.getD m []).all (fun l => l.all (fun e => !(isSp e.2.1)))) = true := by decide +kernel
theorem pCode_len : pCodeT.length = 287 := by decide +kernel
theorem getD_mem {α : Type} {t : List (List α)} {k : Nat} {x : α} (h : x ∈ t.getD k []) : t.getD k [] ∈ t := by
  rw [List.getD_eq_getElem?_getD] at h ⊢
  cases e : t[k]? with
  | none =>
    rw [e] at h
    cases h
  | some l => exact List.mem_of_getElem? e
theorem noSp_at {m pc len : Nat} {i : Instr} (hm : ¬ pKind.getD m 9 = 2) (h : pCode m pc = some (i, len)) : ∀ idx, i ≠ .invokespecial idx := by
  intro idx hz
  subst hz
  have hl : m < 287 := by
    rcases Nat.lt_or_ge m 287 with hl | hl
    · exact hl
    · unfold pCode at h
      rw [List.getD_eq_getElem?_getD, List.getElem?_eq_none (by rw [pCode_len]; exact hl)] at h
      unfold pLook at h
      simp at h
  have h1 := List.all_eq_true.mp noSp m (List.mem_range.mpr hl)
  rcases Bool.or_eq_true_iff.mp h1 with h1 | h1
  · exact hm (Nat.eq_of_beq_eq_true h1)
  · unfold pCode pLook at h
    obtain ⟨⟨a, b⟩, he, h2⟩ := Option.map_eq_some_iff.mp h
    have h3 := List.mem_of_find?_eq_some he
    have h2 : b = (.invokespecial idx, len) := h2
    subst h2
    have h4 : (pCodeT.getD m []).getD (pc / 16) [] ∈ pCodeT.getD m [] := getD_mem h3
    have h5 := List.all_eq_true.mp (List.all_eq_true.mp h1 _ h4) _ h3
    cases h5
theorem kF_pcall {S : pScr} {G : Nat} : ∀ (d m : Nat) (as : List Value) (sh : pSh) (M : pMem) (v : Option Value) (sh2 : pSh) (M2 : pMem), ¬ pKind.getD m 9 = 2 → pcallG pCode S G d m as (sh, M) = some (v, sh2, M2) → kF sh M sh2 M2 := by
  intro d
  induction d with
  | zero => intro m as sh M v sh2 M2 _ h; cases h
  | succ d ih =>
    intro m as sh M v sh2 M2 hm h
    unfold pcallG at h
    split at h
    · split at h
      · cases h
      · rename_i i len pcr Lr st sh3 M3 hr
        have e : (pKind.getD m 9 == 2) = false := by
          rw [beq_eq_false_iff_ne]
          exact hm
        rw [e] at hr
        have hk := kF_run (fun pc i len hc => noSp_at hm hc) (fun m as sh M v sh2 M2 hm h => ih m as sh M v sh2 M2 hm h) _ _ _ _ _ _ _ _ _ hr
        split at h
        · cases h
        · cases h
          exact hk
    · cases h
theorem kF_c {S : pScr} {d m : Nat} {as : List Value} {sh : pSh} {M : pMem} {Post : Option Value → pHp → Prop} (hm : ¬ pKind.getD m 9 = 2) (h : cOk S d m as (sh, M) Post) : cOk S d m as (sh, M) (fun v hp => Post v hp ∧ kF sh M hp.1 hp.2) := by
  obtain ⟨v, ⟨sh2, M2⟩, F, h1, h2⟩ := h
  exact ⟨v, (sh2, M2), F, h1, h2, kF_pcall d m as sh M v sh2 M2 hm (h1 F (Nat.le_refl _))⟩

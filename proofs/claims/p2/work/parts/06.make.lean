/-! steps that make objects, and the JDK's own -/
section PSM
variable {p : Program} {l : Launch} {e : Env} {R : Room} {s : State} {m : MethodId} {args : Array Value} {below : List Frame} {meth : Method} {c : Code} {Q : State → Prop} {cc : ByteArray} {nL o : Nat} {ini : Bool} {D : va_G} {cy : Nat → ClassId} {b : Nat} {x : Nat → Nat} {S : pScr} {H0 : Heap} {n0 z0 : Nat}
variable {pc : Nat} {L : pLs} {st : List Value} {sh : pSh} {M : pMem} {σ : pSt}
theorem pSz_app (a d : pSh) : pSz (a ++ d) = pSz a + pSz d := by simp [pSz]
theorem pSz_one (k n : Nat) : pSz [(k, n)] = n := by simp [pSz]
theorem pNew_self (M : pMem) (a : Nat) (f : Nat → Value) (j : Nat) : pNew M a f a j = f j := by simp [pNew]
theorem pNew_ne (M : pMem) (a : Nat) (f : Nat → Value) {i : Nat} (h : i ≠ a) (j : Nat) : pNew M a f i j = M i j := by simp [pNew, nbeq_ne h]
theorem pcv_def (b : Nat) (x : Nat → Nat) (ty : FieldType) : pcv b x (defaultValue ty) = defaultValue ty := by cases ty <;> rfl
theorem pG.push {H H' : Heap} {locs : List Loc} {k n : Nat} {f : Nat → Value} (hG : pG D cy b x H0 sh M H locs) (hz : H'.size = H.size + 1) (ho : ∀ q, q < H.size → H'[q]? = H[q]?) (hn : pAt D cy b x sh.length k n (pNew M sh.length f) H') : pG D cy b x H0 (sh ++ [(k, n)]) (pNew M sh.length f) H' locs :=
  ⟨hG.1.push hz ho (fun i hi j => pNew_ne M sh.length f (by omega) j) hn, fun q hq => (ho q (by rw [hG.1.1]; omega)).trans (hG.2.1 q hq), hG.2.2⟩
theorem pArr_int : Cond.arrayClass .int ∈ lw_good := pArr_ok List.mem_cons_self
theorem pArr_boolean : Cond.arrayClass .boolean ∈ lw_good := pArr_ok (List.mem_cons_of_mem _ List.mem_cons_self)
theorem pArr_long : Cond.arrayClass .long ∈ lw_good := pArr_ok (List.mem_cons_of_mem _ (List.mem_cons_of_mem _ (List.mem_cons_of_mem _ List.mem_cons_self)))
theorem cntA {n0 a : Nat} (h : n0 ≤ a) (d : Nat) : a + d - n0 = a - n0 + d := by omega
theorem ps_new {idx : Nat} (C : pCtx p R s m args meth c cc nL o ini D cy b x S H0) (hdg : decode cc pc = .ok (.new idx, 3)) (h : pNewO o idx pc L st sh M = some (.inl σ)) (hn : n0 ≤ sh.length ∧ z0 ≤ pSz sh) (hr : σ.2.2.2.1.length - n0 ≤ R.cells ∧ pSz σ.2.2.2.1 - z0 ≤ R.slots) (k : pWs p l e R s m args below meth c Q nL D cy b x H0 n0 z0 σ) : pWs p l e R s m args below meth c Q nL D cy b x H0 n0 z0 (pc, L, st, sh, M) := by
  unfold pNewO at h
  split at h
  · rename_i i0 ci hf
    split at h
    · rename_i hci
      cases pGo_eq h
      have e1 : i0 = idx := by simpa using List.find?_some hf
      subst e1
      obtain ⟨hx, hb, hml, hown, hts, ⟨hK, -⟩, ho, -⟩ := C
      have hlink := hts _ (tCls_ok ho (List.mem_of_find?_eq_some hf))
      have hcl : (Cond.classLink (pOwn o) i0 (pCl ci).1).before args s = true := by
        have h2 := hlink
        unfold wCls at h2
        rw [if_neg (show ¬ ci = 16 by omega)] at h2
        rw [← pCl_own ci hci]
        exact h2
      have hinst : (Cond.instantiable (pCl ci).1 (pCl ci).2.2).before args s = true := by
        have h2 := hts _ (pInst_ok hci)
        unfold wInst at h2
        rw [pCl_own ci hci] at h2
        exact h2
      have hini : (Cond.initialized (pCl ci).1).before args s = true := by
        have h2 := hts _ (pIni_ok (o := ci) (by omega))
        unfold wIni at h2
        rw [pCl_own ci hci] at h2
        exact h2
      intro ls H locs hl hG
      replace hG : pG D cy b x H0 sh M H locs := hG
      have hr1 : (sh ++ [(ci, (pCl ci).2.2)]).length - n0 ≤ R.cells := hr.1
      have hr2 : pSz (sh ++ [(ci, (pCl ci).2.2)]) - z0 ≤ R.slots := hr.2
      rw [List.length_append, List.length_singleton, cntA hn.1] at hr1
      rw [pSz_app, pSz_one, cntA hn.2] at hr2
      have hKn := hK.1 ci _ (pCl_at hci)
      refine W.newcK (h := b + sh.length) hx hb hown hcl hinst hini rfl hdg hr1 hr2 hKn.2.1 hG.1.1 (fun H' kC hkC e1 z1 o1 => ?_)
      have hb1 := u_born (pTyF ci) hts (pLay_ok hci) hKn hkC e1 (pTy_ok ci hci)
      have kk := k ls H' locs hl (hG.push (k := ci) (n := (pCl ci).2.2) (f := pDefF ci) (by rw [z1, hG.1.1]) (fun q hq => o1 q (by rw [← hG.1.1]; exact hq)) (Or.inl ⟨hci, rfl, hb1.to (fun j hj => ?_)⟩))
      · have kk : W p l e R s m args below meth c H' locs ((sh ++ [(ci, (pCl ci).2.2)]).length - n0) (pSz (sh ++ [(ci, (pCl ci).2.2)]) - z0) Q (F0 m (pc + 3) ls (.ref (b + sh.length) :: pcS b x st)) := kk
        rw [List.length_append, List.length_singleton, cntA hn.1, pSz_app, pSz_one, cntA hn.2] at kk
        exact kk
      · rw [pNew_self]
        have h3 : pTyOf ci j = some (pTyF ci j) := pTy_ok ci hci j hj
        unfold pDefF
        rw [h3]
        exact (pcv_def b x _).symm
    · cases h
  · cases h
theorem ps_newa {t : ArrayType} (C : pCtx p R s m args meth c cc nL o ini D cy b x S H0) (hdg : decode cc pc = .ok (.newarray t, 2)) (h : pNewA t pc L st sh M = some (.inl σ)) (hn : n0 ≤ sh.length ∧ z0 ≤ pSz sh) (hr : σ.2.2.2.1.length - n0 ≤ R.cells ∧ pSz σ.2.2.2.1 - z0 ≤ R.slots) (k : pWs p l e R s m args below meth c Q nL D cy b x H0 n0 z0 σ) : pWs p l e R s m args below meth c Q nL D cy b x H0 n0 z0 (pc, L, st, sh, M) := by
  unfold pNewA at h
  split at h
  · rename_i n r
    split at h
    · rename_i kd v hk
      split at h
      · rename_i hnn
        cases pGo_eq h
        obtain ⟨hx, hb, hml, hown, hts, ⟨hK, -⟩, ho, -⟩ := C
        intro ls H locs hl hG
        replace hG : pG D cy b x H0 sh M H locs := hG
        have hr1 : (sh ++ [(kd, n.toNatClampNeg)]).length - n0 ≤ R.cells := hr.1
        have hr2 : pSz (sh ++ [(kd, n.toNatClampNeg)]) - z0 ≤ R.slots := hr.2
        rw [List.length_append, List.length_singleton, cntA hn.1] at hr1
        rw [pSz_app, pSz_one, cntA hn.2] at hr2
        have fin : ∀ (ty : FieldType) (H' : Heap) (cA : ClassId), newarray.typeOf t = ty → 13 ≤ kd → kd < 19 → defaultValue ty = v → cA = cy kd → H'[b + sh.length]? = some (arrV cA n.toNatClampNeg (fun _ => defaultValue ty)) → H'.size = b + sh.length + 1 → (∀ q, q < b + sh.length → H'[q]? = H[q]?) → W p l e R s m args below meth c H' locs (sh.length - n0 + 1) (pSz sh - z0 + n.toNatClampNeg) Q (F0 m (pc + 2) ls (.ref (b + sh.length) :: pcS b x r)) := by
          intro ty H' cA _ g1 g2 g3 g4 e1 z1 o1
          have kk := k ls H' locs hl (hG.push (k := kd) (n := n.toNatClampNeg) (f := fun _ => v) (by rw [z1, hG.1.1]) (fun q hq => o1 q (by rw [← hG.1.1]; exact hq)) (Or.inr ⟨g1, g2, ?_⟩))
          · have kk : W p l e R s m args below meth c H' locs ((sh ++ [(kd, n.toNatClampNeg)]).length - n0) (pSz (sh ++ [(kd, n.toNatClampNeg)]) - z0) Q (F0 m (pc + 2) ls (.ref (b + sh.length) :: pcS b x r)) := kk
            rw [List.length_append, List.length_singleton, cntA hn.1, pSz_app, pSz_one, cntA hn.2] at kk
            exact kk
          · rw [e1, g4]
            congr 2
            funext j
            rw [pNew_self, ← g3]
            exact (pcv_def b x _).symm
        cases t <;> simp only [pArrK, Option.some.injEq, Prod.mk.injEq, reduceCtorEq] at hk
        · obtain ⟨rfl, rfl⟩ := hk
          have hra : va_RA s (cy 14) .boolean := (hK.2 1 _ rfl).2
          exact va_newaK (atype := .boolean) (h := b + sh.length) (N := n.toNatClampNeg) hx hb (hts (.arrayClass .boolean) pArr_boolean) rfl hdg rfl hnn.1 rfl (by show n.toNatClampNeg * 1 ≤ _; omega) hr1 hr2 hG.1.1 (fun H' cA e1 z1 o1 _ hNm => fin .boolean H' cA rfl (by omega) (by omega) rfl (Option.some.inj (hNm.symm.trans hra)) e1 z1 o1)
        · obtain ⟨rfl, rfl⟩ := hk
          have hra : va_RA s (cy 13) .int := (hK.2 0 _ rfl).2
          exact va_newaK (atype := .int) (h := b + sh.length) (N := n.toNatClampNeg) hx hb (hts (.arrayClass .int) pArr_int) rfl hdg rfl hnn.1 rfl (by show n.toNatClampNeg * 4 ≤ _; omega) hr1 hr2 hG.1.1 (fun H' cA e1 z1 o1 _ hNm => fin .int H' cA rfl (by omega) (by omega) rfl (Option.some.inj (hNm.symm.trans hra)) e1 z1 o1)
        · obtain ⟨rfl, rfl⟩ := hk
          have hra : va_RA s (cy 15) .long := (hK.2 2 _ rfl).2
          exact va_newaK (atype := .long) (h := b + sh.length) (N := n.toNatClampNeg) hx hb (hts (.arrayClass .long) pArr_long) rfl hdg rfl hnn.1 rfl (by show n.toNatClampNeg * 8 ≤ _; omega) hr1 hr2 hG.1.1 (fun H' cA e1 z1 o1 _ hNm => fin .long H' cA rfl (by omega) (by omega) rfl (Option.some.inj (hNm.symm.trans hra)) e1 z1 o1)
      · cases h
    · cases h
  · cases h
theorem ps_newr {idx : Nat} (C : pCtx p R s m args meth c cc nL o ini D cy b x S H0) (hdg : decode cc pc = .ok (.anewarray idx, 3)) (h : pNewR o idx pc L st sh M = some (.inl σ)) (hn : n0 ≤ sh.length ∧ z0 ≤ pSz sh) (hr : σ.2.2.2.1.length - n0 ≤ R.cells ∧ pSz σ.2.2.2.1 - z0 ≤ R.slots) (k : pWs p l e R s m args below meth c Q nL D cy b x H0 n0 z0 σ) : pWs p l e R s m args below meth c Q nL D cy b x H0 n0 z0 (pc, L, st, sh, M) := by
  unfold pNewR at h
  split at h
  · rename_i n r
    split at h
    · rename_i i0 ci hf
      split at h
      · rename_i hnn
        cases pGo_eq h
        have e1 : i0 = idx := by simpa using List.find?_some hf
        subst e1
        obtain ⟨hx, hb, hml, hown, hts, ⟨hK, hnst, hA8, hA7, -⟩, ho, -⟩ := C
        have hlink := hts _ (tCls_ok ho (List.mem_of_find?_eq_some hf))
        have hcl : (Cond.classLink (pOwn o) i0 (pOwn ci)).before args s = true := by
          have h2 := hlink
          unfold wCls at h2
          rw [if_neg (show ¬ ci = 16 by omega)] at h2
          exact h2
        intro ls H locs hl hG
        replace hG : pG D cy b x H0 sh M H locs := hG
        have hr1 : (sh ++ [(25 - ci, n.toNatClampNeg)]).length - n0 ≤ R.cells := hr.1
        have hr2 : pSz (sh ++ [(25 - ci, n.toNatClampNeg)]) - z0 ≤ R.slots := hr.2
        rw [List.length_append, List.length_singleton, cntA hn.1] at hr1
        rw [pSz_app, pSz_one, cntA hn.2] at hr2
        have fin : ∀ (cA : ClassId), 13 ≤ 25 - ci → 25 - ci < 19 → cA = cy (25 - ci) → W p l e R s m args below meth c (H.push ({ cls := cA, slots := Array.replicate n.toNatClampNeg .null, vm := .none } : Cell)) locs (sh.length - n0 + 1) (pSz sh - z0 + n.toNatClampNeg) Q (F0 m (pc + 3) ls (.ref H.size :: pcS b x r)) := by
          intro cA g1 g2 g4
          have kk := k ls (H.push ({ cls := cA, slots := Array.replicate n.toNatClampNeg .null, vm := .none } : Cell)) locs hl (hG.push (k := 25 - ci) (n := n.toNatClampNeg) (f := fun _ => .null) (by rw [Array.size_push]) (fun q hq => by rw [Array.getElem?_push, if_neg (Nat.ne_of_lt hq)]) (Or.inr ⟨g1, g2, ?_⟩))
          · have kk : W p l e R s m args below meth c (H.push ({ cls := cA, slots := Array.replicate n.toNatClampNeg .null, vm := .none } : Cell)) locs ((sh ++ [(25 - ci, n.toNatClampNeg)]).length - n0) (pSz (sh ++ [(25 - ci, n.toNatClampNeg)]) - z0) Q (F0 m (pc + 3) ls (.ref (b + sh.length) :: pcS b x r)) := kk
            rw [List.length_append, List.length_singleton, cntA hn.1, pSz_app, pSz_one, cntA hn.2, ← hG.1.1] at kk
            exact kk
          · rw [← hG.1.1, Array.getElem?_push_size, arrV_new, g4]
            congr 2
            funext j
            rw [pNew_self]
            rfl
        rcases hnn with ⟨rfl | rfl, hn1, hn2⟩
        · obtain ⟨kA, comp, q1, q2, q3, q4⟩ : va_RA s (cy 18) (.object RX7) := (hK.2 5 _ rfl).2
          exact W.anew hx hb hown hcl (va_AO.use hA7) rfl hdg rfl hn1 (by omega) hr1 hr2 (fun cA kA comp f1 f2 f3 f4 => fin cA (by omega) (by omega) (Option.some.inj (f1.symm.trans q4)))
        · obtain ⟨kA, comp, q1, q2, q3, q4⟩ : va_RA s (cy 17) (.object RX8) := (hK.2 4 _ rfl).2
          exact W.anew hx hb hown hcl (va_AO.use hA8) rfl hdg rfl hn1 (by omega) hr1 hr2 (fun cA kA comp f1 f2 f3 f4 => fin cA (by omega) (by omega) (Option.some.inj (f1.symm.trans q4)))
      · cases h
    · cases h
  · cases h
theorem arrV_congr (cA : ClassId) (n : Nat) {f g : Nat → Value} (h : ∀ j, j < n → f j = g j) : arrV cA n f = arrV cA n g := by
  unfold arrV
  congr 1
  apply Array.ext_getElem?
  intro i
  by_cases hi : i < n
  · rw [Array.getElem?_eq_getElem (by simpa using hi), Array.getElem?_eq_getElem (by simpa using hi)]
    simp [h i hi]
  · rw [Array.getElem?_eq_none (by simpa using hi), Array.getElem?_eq_none (by simpa using hi)]
theorem outer_eq (c : ClassId) (N h0 : Nat) : ∀ i : Nat, Jvm.Free.Multi.outerC c N h0 i = arrV c N (fun j => if j < i then .ref (h0 + 1 + j) else .null)
  | 0 => by
    show ({ cls := c, slots := Array.replicate N .null, vm := .none } : Cell) = _
    rw [arrV_new]
    rfl
  | i + 1 => by
    show (Jvm.Free.Multi.outerC c N h0 i).setSlot i (.ref (h0 + 1 + i)) = _
    rw [outer_eq c N h0 i, arrV_store]
    refine congrArg (arrV c N) (funext fun j => ?_)
    by_cases e : j = i
    · subst e
      simp [updV]
    · by_cases h : j < i
      · simp [updV, e, h, Nat.lt_succ_of_lt h]
      · simp [updV, e, h, show ¬ j < i + 1 by omega]
def pMnew (M : pMem) (n0 n : Nat) : pMem := fun a j => bif Nat.beq a n0 then .ref (n0 + 1 + j) else bif Nat.blt n0 a && Nat.ble a (n0 + n) then .int 0 else M a j
theorem pMnew_old (M : pMem) (n0 n : Nat) {a : Nat} (h : a < n0) (j : Nat) : pMnew M n0 n a j = M a j := by
  unfold pMnew
  rw [nbeq_ne (by omega)]
  have : Nat.blt n0 a = false := by
    cases hq : Nat.blt n0 a with
    | false => rfl
    | true =>
      have := Nat.le_of_ble_eq_true hq
      omega
  simp [this]
theorem pMnew_0 (M : pMem) (n0 n j : Nat) : pMnew M n0 n n0 j = .ref (n0 + 1 + j) := by simp [pMnew]
theorem pMnew_row (M : pMem) (n0 n : Nat) {i : Nat} (h : i < n) (j : Nat) : pMnew M n0 n (n0 + 1 + i) j = .int 0 := by
  unfold pMnew
  rw [nbeq_ne (by omega)]
  have h1 : Nat.blt n0 (n0 + 1 + i) = true := Nat.ble_eq_true_of_le (by omega)
  have h2 : Nat.ble (n0 + 1 + i) (n0 + n) = true := Nat.ble_eq_true_of_le (by omega)
  simp [h1, h2]
theorem pSz_rep (n k : Nat) : pSz (List.replicate n (13, k)) = n * k := by
  simp [pSz]
theorem ps_newm {idx dim : Nat} (C : pCtx p R s m args meth c cc nL o ini D cy b x S H0) (hdg : decode cc pc = .ok (.multianewarray idx dim, 4)) (h : pNewM o idx dim pc L st sh M = some (.inl σ)) (hn : n0 ≤ sh.length ∧ z0 ≤ pSz sh) (hr : σ.2.2.2.1.length - n0 ≤ R.cells ∧ pSz σ.2.2.2.1 - z0 ≤ R.slots) (k : pWs p l e R s m args below meth c Q nL D cy b x H0 n0 z0 σ) : pWs p l e R s m args below meth c Q nL D cy b x H0 n0 z0 (pc, L, st, sh, M) := by
  unfold pNewM at h
  split at h
  · rename_i kv n r
    split at h
    · rename_i i0 ci hf
      split at h
      · rename_i hnn
        cases pGo_eq h
        have e1 : i0 = idx := by simpa using List.find?_some hf
        subst e1
        obtain ⟨rfl, rfl, hn1, hn2, hn3, hn4⟩ := hnn
        obtain ⟨hx, hb, hml, hown, hts, ⟨hK, hnst, hA8, hA7, hAA⟩, ho, -⟩ := C
        have hcl : (Cond.classLink (pOwn o) i0 ("[" ++ (FieldType.array .int).toString)).before args s = true := hts _ (tCls_ok ho (List.mem_of_find?_eq_some hf))
        intro ls H locs hl hG
        replace hG : pG D cy b x H0 sh M H locs := hG
        have hr1 : (sh ++ pRows n.toNatClampNeg kv.toNatClampNeg).length - n0 ≤ R.cells := hr.1
        have hr2 : pSz (sh ++ pRows n.toNatClampNeg kv.toNatClampNeg) - z0 ≤ R.slots := hr.2
        have el : (pRows n.toNatClampNeg kv.toNatClampNeg).length = 1 + n.toNatClampNeg := by simp [pRows]; omega
        have es : pSz (pRows n.toNatClampNeg kv.toNatClampNeg) = n.toNatClampNeg + n.toNatClampNeg * kv.toNatClampNeg := by
          have := pSz_rep n.toNatClampNeg kv.toNatClampNeg
          unfold pSz at this
          simp [pRows, pSz]
        rw [List.length_append, el, cntA hn.1] at hr1
        rw [pSz_app, es, cntA hn.2] at hr2
        have hra : s.vm.findClass ("[" ++ (FieldType.array .int).toString) = some (cy 16) := (hK.2 3 _ rfl).2
        have hri : s.vm.findClass ("[" ++ FieldType.int.toString) = some (cy 13) := (hK.2 0 _ rfl).2
        intro T hT X
        obtain ⟨vm₁, cA, comp, -, fA, fC, hO, -, X', step⟩ := X.multianewarray2F hx hown hcl (pAOA.use hAA) (hts (.arrayClass .int) pArr_int) (g := F0 m pc ls (.int kv :: .int n :: pcS b x r)) rfl (by rw [hb]; exact hdg) rfl hn1 hn2 (by omega) (by show kv.toNatClampNeg * 4 ≤ _; omega) (by omega) rfl rfl hr1 hr2
        have ec : cy 13 = comp := Option.some.inj (hri.symm.trans fC)
        have ea : cy 16 = cA := Option.some.inj (hra.symm.trans fA)
        subst ec
        subst ea
        generalize hF : Jvm.Free.Multi.fill (T.setVm vm₁) (cy 16) (cy 13) n.toNatClampNeg kv.toNatClampNeg (defaultValue .int) n.toNatClampNeg = F at X' step
        have hTh : (T.setVm vm₁).heap = H := hT
        obtain ⟨f1, f2, -, -⟩ := Jvm.Free.Multi.fill_facts (T.setVm vm₁) (cy 16) (cy 13) n.toNatClampNeg kv.toNatClampNeg (defaultValue .int) n.toNatClampNeg
        rw [hF, hTh] at f1 f2
        have hold : ∀ q : Nat, q < H.size → F.heap[q]? = H[q]? := fun q hq => by
          have := Jvm.Free.Multi.fill_old (T.setVm vm₁) (cy 16) (cy 13) n.toNatClampNeg kv.toNatClampNeg (defaultValue .int) (a := q) (by rw [hTh]; exact hq) n.toNatClampNeg
          rw [hF, hTh] at this
          exact this
        have hrow : ∀ j : Nat, j < n.toNatClampNeg → F.heap[H.size + 1 + j]? = some (arrV (cy 13) kv.toNatClampNeg (fun _ => .int 0)) := fun j hj => by
          have := Jvm.Free.Multi.fill_inner (T.setVm vm₁) (cy 16) (cy 13) n.toNatClampNeg kv.toNatClampNeg (defaultValue .int) n.toNatClampNeg j hj
          rw [hF, hTh] at this
          rw [this]
          show some ({ cls := cy 13, slots := Array.replicate kv.toNatClampNeg (.int 0), vm := .none } : Cell) = _
          rw [arrV_new]
        rw [outer_eq] at f2
        have hG' : pG D cy b x H0 (sh ++ pRows n.toNatClampNeg kv.toNatClampNeg) (pMnew M sh.length n.toNatClampNeg) F.heap locs := by
          refine ⟨⟨by rw [f1, List.length_append, el, hG.1.1]; omega, fun i k' n' hi => ?_⟩, fun q hq => (hold q (by rw [hG.1.1]; omega)).trans (hG.2.1 q hq), hG.2.2⟩
          by_cases e1 : i < sh.length
          · rw [List.getElem?_append_left e1] at hi
            exact (hG.1.2 i k' n' hi).kept (hold _ (by rw [hG.1.1]; omega)) (fun j => pMnew_old M sh.length n.toNatClampNeg e1 j)
          · rw [List.getElem?_append_right (by omega)] at hi
            by_cases e2 : i = sh.length
            · subst e2
              rw [Nat.sub_self] at hi
              cases hi
              refine Or.inr ⟨by omega, by omega, ?_⟩
              rw [← hG.1.1, f2]
              refine congrArg some (arrV_congr _ _ (fun j hj => ?_))
              have h9 : H.size + 1 + j = b + (sh.length + 1 + j) := by
                have := hG.1.1
                omega
              rw [if_pos hj, pMnew_0]
              show Value.ref (H.size + 1 + j) = Value.ref (b + (sh.length + 1 + j))
              rw [h9]
            · obtain ⟨j, hj⟩ : ∃ j, i = sh.length + 1 + j := ⟨i - sh.length - 1, by omega⟩
              subst hj
              rw [show sh.length + 1 + j - sh.length = j + 1 by omega] at hi
              have hi2 : (List.replicate n.toNatClampNeg ((13, kv.toNatClampNeg) : Nat × Nat))[j]? = some (k', n') := hi
              rw [List.getElem?_replicate] at hi2
              split at hi2
              · rename_i hj
                cases hi2
                refine Or.inr ⟨by omega, by omega, ?_⟩
                rw [show b + (sh.length + 1 + j) = H.size + 1 + j by rw [hG.1.1]; omega, hrow j hj]
                refine congrArg some (arrV_congr _ _ (fun z _ => ?_))
                rw [pMnew_row M sh.length n.toNatClampNeg hj z]
                rfl
              · cases hi2
        have kk := k ls F.heap locs hl hG'
        have kk : W p l e R s m args below meth c F.heap locs ((sh ++ pRows n.toNatClampNeg kv.toNatClampNeg).length - n0) (pSz (sh ++ pRows n.toNatClampNeg kv.toNatClampNeg) - z0) Q (F0 m (pc + 4) ls (.ref (b + sh.length) :: pcS b x r)) := kk
        rw [List.length_append, el, cntA hn.1, pSz_app, es, cntA hn.2, ← hG.1.1] at kk
        obtain ⟨t, a1, b1⟩ := kk F rfl (by rw [← Nat.add_assoc, ← Nat.add_assoc]; exact X')
        refine ⟨t, step t ?_, b1⟩
        have e : T.heap.size = H.size := by rw [hT]
        rw [e]
        exact a1
      · cases h
    · cases h
  · cases h
theorem pCat_of {r : List Value} (h : pCat r = true) : ((pcS b x r).map fun v => v.category).sum ≤ 8 := by
  have h1 := of_decide_eq_true h
  have : (pcS b x r).map (fun v => v.category) = r.map (fun v => v.category) := by
    rw [List.map_map]
    apply List.map_congr_left
    intro v _
    exact pcv_cat b x v
  rw [this]
  exact h1
theorem pCpy_obj (M : pMem) (s0 sp d dp n : Nat) {i : Nat} (h : i ≠ d) (j : Nat) : pCpy M s0 sp d dp n i j = M i j := by
  unfold pCpy
  rw [nbeq_ne h]
  rfl
theorem pCpy_self (b : Nat) (x : Nat → Nat) (M : pMem) (s0 sp d dp n j : Nat) : va_cpy (fun z => pcv b x (M s0 z)) (fun z => pcv b x (M d z)) sp dp n j = pcv b x (pCpy M s0 sp d dp n d j) := by
  unfold va_cpy pCpy
  by_cases hj : dp ≤ j ∧ j < dp + n
  · rw [if_pos hj]
    have h1 : Nat.ble dp j = true := Nat.ble_eq_true_of_le hj.1
    have h2 : Nat.blt j (dp + n) = true := Nat.ble_eq_true_of_le hj.2
    simp [h1, h2]
  · rw [if_neg hj]
    have h3 : (Nat.ble dp j && Nat.blt j (dp + n)) = false := by
      cases h1 : Nat.ble dp j with
      | false => rfl
      | true =>
        cases h2 : Nat.blt j (dp + n) with
        | false => rfl
        | true => exact absurd ⟨Nat.le_of_ble_eq_true h1, Nat.le_of_ble_eq_true h2⟩ hj
    simp [h3]
theorem ps_jdkS {idx : Nat} (C : pCtx p R s m args meth c cc nL o ini D cy b x S H0) (hdg : decode cc pc = .ok (.invokestatic idx, 3)) (h : pJdkS o idx pc L st sh M = some (.inl σ)) (hn : n0 ≤ sh.length ∧ z0 ≤ pSz sh) (hr : σ.2.2.2.1.length - n0 ≤ R.cells ∧ pSz σ.2.2.2.1 - z0 ≤ R.slots) (k : pWs p l e R s m args below meth c Q nL D cy b x H0 n0 z0 σ) : pWs p l e R s m args below meth c Q nL D cy b x H0 n0 z0 (pc, L, st, sh, M) := by
  have hB : ∀ w ∈ wBase, w.before args s = true := fun w hw => C.2.2.2.2.1 w (pBase_ok hw)
  have hfr : 1 ≤ R.frames := Nat.le_trans (by decide) C.2.2.2.2.2.2.2.2.1
  have hlo : 64 ≤ R.locals := Nat.le_trans (by decide) C.2.2.2.2.2.2.2.2.2.1
  unfold pJdkS at h
  split at h
  · rename_i i0 hf
    have e1 : i0 = idx := by simpa using List.find?_some hf
    subst e1
    split at h
    · split at h
      · rename_i hc
        cases pGo_eq h
        intro ls H locs hl hG
        replace hG : pG D cy b x H0 sh M H locs := hG
        have hc2 := pCat_of (b := b) (x := x) hc
        exact va_mmax C.1 C.2.1 (C.2.2.1.trans hl.1.symm) C.2.2.2.1 (C.2.2.2.2.1 _ (tJdk_ok C.2.2.2.2.2.2.1 (List.mem_of_find?_eq_some hf))) (hB (.static Lib.Math.max.name) (by simp [wBase])) (hB (.initialized "java/lang/Math") (by simp [wBase])) (hB (.code Lib.Math.max.name Lib.Math.max.code 2 (some .int)) (by simp [wBase])) hfr (Nat.le_trans (Nat.add_le_add_right hc2 13) (Nat.le_trans (by decide) hlo)) hr.1 hr.2 hdg (k ls H locs hl hG)
      · cases h
    · cases h
  · rename_i i0 hf
    have e1 : i0 = idx := by simpa using List.find?_some hf
    subst e1
    split at h
    · split at h
      · rename_i hc
        cases pGo_eq h
        intro ls H locs hl hG
        replace hG : pG D cy b x H0 sh M H locs := hG
        have hc2 := pCat_of (b := b) (x := x) hc
        exact va_mmin C.1 C.2.1 (C.2.2.1.trans hl.1.symm) C.2.2.2.1 (C.2.2.2.2.1 _ (tJdk_ok C.2.2.2.2.2.2.1 (List.mem_of_find?_eq_some hf))) (hB (.static Lib.Math.min.name) (by simp [wBase])) (hB (.initialized "java/lang/Math") (by simp [wBase])) (hB (.code Lib.Math.min.name Lib.Math.min.code 2 (some .int)) (by simp [wBase])) hfr (Nat.le_trans (Nat.add_le_add_right hc2 13) (Nat.le_trans (by decide) hlo)) hr.1 hr.2 hdg (k ls H locs hl hG)
      · cases h
    · cases h
  · rename_i i0 hf
    have e1 : i0 = idx := by simpa using List.find?_some hf
    subst e1
    split at h
    · split at h
      · rename_i hc
        cases pGo_eq h
        intro ls H locs hl hG
        replace hG : pG D cy b x H0 sh M H locs := hG
        have hc2 := pCat_of (b := b) (x := x) hc
        exact va_mabs C.1 C.2.1 (C.2.2.1.trans hl.1.symm) C.2.2.2.1 (C.2.2.2.2.1 _ (tJdk_ok C.2.2.2.2.2.2.1 (List.mem_of_find?_eq_some hf))) (hB (.static Lib.Math.abs.name) (by simp [wBase])) (hB (.initialized "java/lang/Math") (by simp [wBase])) (hB (.code Lib.Math.abs.name Lib.Math.abs.code 1 (some .int)) (by simp [wBase])) hfr (Nat.le_trans (Nat.add_le_add_right hc2 13) (Nat.le_trans (by decide) hlo)) hr.1 hr.2 hdg (k ls H locs hl hG)
      · cases h
    · cases h
  · rename_i i0 hf
    have e1 : i0 = idx := by simpa using List.find?_some hf
    subst e1
    split at h
    · rename_i n dp d sp s0 r
      split at h
      · rename_i k0 n1 k1 n2 ha0 ha1
        split at h
        · rename_i hcd
          cases pGo_eq h
          obtain ⟨rfl, hkd, hfit, hq1, hq2, hq3, hq4, hq5, hc⟩ := hcd
          intro ls H locs hl hG
          replace hG : pG D cy b x H0 sh M H locs := hG
          have hc2 := pCat_of (b := b) (x := x) hc
          have hK := C.2.2.2.2.2.1
          have hc0 := hG.1.arr ha0 (by omega)
          have hc1 := hG.1.arr ha1 (by omega)
          have kk : ∀ (H' : Heap) (locs' : List Loc), H'[b + d]? = some (arrV (cy k0) n2 (va_cpy (fun z => pcv b x (M s0 z)) (fun z => pcv b x (M d z)) sp.toNatClampNeg dp.toNatClampNeg n.toNatClampNeg)) → H'.size = H.size → (∀ q, q ≠ b + d → H'[q]? = H[q]?) → (∀ q ∈ locs', b ≤ q.base) → W p l e R s m args below meth c H' locs' (sh.length - n0) (pSz sh - z0) Q (F0 m (pc + 3) ls (pcS b x r)) := by
            intro H' locs' e1 e2 e3 e4
            refine k ls H' locs' hl ⟨hG.1.set ha1 e2 e3 (fun i hi j => pCpy_obj M s0 _ d _ _ hi j) (Or.inr ⟨by omega, by omega, ?_⟩), fun q hq => (e3 q (by omega)).trans (hG.2.1 q hq), e4⟩
            rw [e1]
            refine congrArg some (congrArg _ (funext fun j => ?_))
            exact pCpy_self b x M s0 sp.toNatClampNeg d dp.toNatClampNeg n.toNatClampNeg j
          have go : ∀ ty, ArrOfT s (cy k0) ty → refKind ty = false → (∀ i, i < n.toNatClampNeg → fits ty (M s0 (sp.toNatClampNeg + i)) = true) → (∀ v, fits ty v = true → ∃ z, v = .int z) → W p l e R s m args below meth c H locs (sh.length - n0) (pSz sh - z0) Q (F0 m pc ls (.int n :: .int dp :: .ref (b + d) :: .int sp :: .ref (b + s0) :: pcS b x r)) := by
            intro ty hty hprim hft hint
            have nn : ∀ z : Int32, ¬ z < 0 → z.toInt = (z.toNatClampNeg : Int) := by
              intro z hz
              have hz0 : (0 : Int) ≤ z.toInt := by
                have := Int32.not_lt.mp hz
                simpa using Int32.le_iff_toInt_le.mp this
              show z.toInt = ((z.toInt.toNat : Nat) : Int)
              omega
            intro T hT X
            obtain ⟨-, t0, ht0, cm0, hkk0⟩ := hty n1 (fun j => pcv b x (M s0 j))
            obtain ⟨-, t1, ht1, cm1, hkk1⟩ := hty n2 (fun j => pcv b x (M d j))
            obtain ⟨vm', X', step⟩ := X.arraycopy C.1 C.2.2.2.1 (C.2.2.2.2.1 _ (tJdk_ok C.2.2.2.2.2.2.1 (List.mem_of_find?_eq_some hf))) (hB (.native arraycopyName) (by simp [wBase])) (hB (.static arraycopyName) (by simp [wBase])) (hB (.initialized "java/lang/System") (by simp [wBase])) (src := b + s0) (dst := b + d) (cs := arrV (cy k0) n1 (fun j => pcv b x (M s0 j))) (cd := arrV (cy k0) n2 (fun j => pcv b x (M d j))) (srcPos := sp) (destPos := dp) (n := n) (by rw [hT]; exact hc0) (by rw [hT]; exact hc1)
              (fun _ h => by cases h) (fun _ h => by cases h) (fun h => by cases h) (fun h => by cases h) ht0 ht1 hkk0 hkk1 (by simp [hprim]) hq1 hq2 hq3
              (by rw [nn sp hq1, nn n hq3, arrV_size]; omega)
              (by rw [nn dp hq2, nn n hq3, arrV_size]; omega)
              (fun vm₁ _ i hi => by
                obtain ⟨z, hz⟩ := hint _ (hft i hi)
                have e : (arrV (cy k0) n1 (fun j => pcv b x (M s0 j))).slots.getD (sp.toNatClampNeg + i) .null = .int z := by
                  rw [Array.getD_eq_getD_getElem?, arrV_read _ _ (by omega)]
                  show pcv b x (M s0 (sp.toNatClampNeg + i)) = .int z
                  rw [hz]
                  rfl
                refine ⟨?_, ?_⟩
                · rw [e, ← hz]
                  exact hft i hi
                · rw [e]
                  exact trivial)
              (g := F0 m pc ls (.int n :: .int dp :: .ref (b + d) :: .int sp :: .ref (b + s0) :: pcS b x r)) rfl (by show ls.size = _; rw [hl.1]; exact C.2.2.1.symm) (rest := pcS b x r) rfl (by rw [C.2.1]; exact hdg) hfr (by
                have : nativeFrameWords "java/lang/System" "arraycopy" 5 + 11 ≤ 50 := by decide
                show 2 * 0 + _ + _ ≤ _
                exact Nat.le_trans (Nat.add_le_add (by rw [Nat.mul_zero, Nat.zero_add]; exact hc2) this) (Nat.le_trans (by decide : 8 + 50 ≤ 64) hlo))
            have e1 : copied (arrV (cy k0) n1 (fun j => pcv b x (M s0 j))) (arrV (cy k0) n2 (fun j => pcv b x (M d j))) sp dp n = arrV (cy k0) n2 (va_cpy (fun z => pcv b x (M s0 z)) (fun z => pcv b x (M d z)) sp.toNatClampNeg dp.toNatClampNeg n.toNatClampNeg) := va_copied (fun z => z) (cy k0) (cy k0) (fun z => pcv b x (M s0 z)) (fun z => pcv b x (M d z)) hq4
            rw [e1] at X' step
            have hlt : b + d < H.size := (Array.getElem?_eq_some_iff.mp hc1).1
            generalize hA : arrV (cy k0) n2 (va_cpy (fun z => pcv b x (M s0 z)) (fun z => pcv b x (M d z)) sp.toNatClampNeg dp.toNatClampNeg n.toNatClampNeg) = A at X' step
            have hheap : ((T.setVm vm').setCell (b + d) A).heap = H.setIfInBounds (b + d) A := by rw [← hT]; rfl
            obtain ⟨t, a1, b1⟩ := kk (H.setIfInBounds (b + d) A) _ (by rw [hA]; simp [Array.getElem?_setIfInBounds, hlt]) (by simp) (fun q hq => by simp [Array.getElem?_setIfInBounds, Ne.symm hq]) (fun q hq => by
              rcases List.mem_append.mp hq with h | h
              · exact hG.2.2 q h
              · obtain ⟨z, -, hz⟩ := List.mem_map.mp h
                rw [← hz]
                exact Nat.le_add_right b d) _ hheap X'
            exact ⟨t, step t a1, b1⟩
          have hft := List.all_eq_true.mp hfit
          rcases hkd with rfl | rfl
          · exact go .int (pK_arr hK).1 rfl (fun i hi => hft i (List.mem_range.mpr hi)) (fun v hv => by cases v <;> first | exact ⟨_, rfl⟩ | cases hv)
          · exact go .boolean (pK_arr hK).2.1 rfl (fun i hi => hft i (List.mem_range.mpr hi)) (fun v hv => by cases v <;> first | exact ⟨_, rfl⟩ | cases hv)
        · cases h
      · cases h
    · cases h
  · cases h
theorem ps_jdkI {idx : Nat} (C : pCtx p R s m args meth c cc nL o ini D cy b x S H0) (hdg : decode cc pc = .ok (.invokespecial idx, 3)) (h : pJdkI o idx pc L st sh M = some (.inl σ)) (hn : n0 ≤ sh.length ∧ z0 ≤ pSz sh) (hr : σ.2.2.2.1.length - n0 ≤ R.cells ∧ pSz σ.2.2.2.1 - z0 ≤ R.slots) (k : pWs p l e R s m args below meth c Q nL D cy b x H0 n0 z0 σ) : pWs p l e R s m args below meth c Q nL D cy b x H0 n0 z0 (pc, L, st, sh, M) := by
  have hB : ∀ w ∈ wBase, w.before args s = true := fun w hw => C.2.2.2.2.1 w (pBase_ok hw)
  have hfr : 1 ≤ R.frames := Nat.le_trans (by decide) C.2.2.2.2.2.2.2.2.1
  have hlo : 64 ≤ R.locals := Nat.le_trans (by decide) C.2.2.2.2.2.2.2.2.2.1
  unfold pJdkI at h
  split at h
  · rename_i i0 hf
    have e1 : i0 = idx := by simpa using List.find?_some hf
    subst e1
    split at h
    · split at h
      · rename_i hc
        cases pGo_eq h
        intro ls H locs hl hG
        replace hG : pG D cy b x H0 sh M H locs := hG
        have hc2 := pCat_of (b := b) (x := x) hc
        exact W.objInit C.1 C.2.1 C.2.2.2.1 (C.2.2.2.2.1 _ (tJdk_ok C.2.2.2.2.2.2.1 (List.mem_of_find?_eq_some hf))) (hB (.instanceMethod Lib.objectInit) (by simp [wBase])) (hB (.code Lib.objectInit ⟨#[0xb1]⟩ 1 none) (by simp [wBase])) rfl (hl.1.trans C.2.2.1.symm) rfl hdg hfr (by show 2 * 0 + _ + 12 ≤ _; exact Nat.le_trans (Nat.add_le_add_right (by rw [Nat.mul_zero, Nat.zero_add]; exact hc2) 12) (Nat.le_trans (by decide : 8 + 12 ≤ 64) hlo)) (k ls H locs hl hG)
      · cases h
    · cases h
  · cases h
theorem pIn97 {i : Int32} (h : pIn i 97 = true) : ¬ i < 0 ∧ i < 97 := by
  have h := of_decide_eq_true h
  have h0 : ¬ i < 0 := fun z => h (Or.inl z)
  refine ⟨h0, ?_⟩
  have h1 : (0 : Int) ≤ i.toInt := by
    have := Int32.not_lt.mp h0
    simpa using Int32.le_iff_toInt_le.mp this
  have h2 : ¬ 97 ≤ i.toInt.toNat := fun z => h (Or.inr z)
  rw [Int32.lt_iff_toInt_lt]
  show i.toInt < 97
  omega
theorem ps_jdkV {idx : Nat} (C : pCtx p R s m args meth c cc nL o ini D cy b x S H0) (hdg : decode cc pc = .ok (.invokevirtual idx, 3)) (h : pJdkV S o idx pc L st sh M = some (.inl σ)) (hn : n0 ≤ sh.length ∧ z0 ≤ pSz sh) (hr : σ.2.2.2.1.length - n0 ≤ R.cells ∧ pSz σ.2.2.2.1 - z0 ≤ R.slots) (k : pWs p l e R s m args below meth c Q nL D cy b x H0 n0 z0 σ) : pWs p l e R s m args below meth c Q nL D cy b x H0 n0 z0 (pc, L, st, sh, M) := by
  have hts := C.2.2.2.2.1
  have hfr := C.2.2.2.2.2.2.2.2.1
  have hlo := C.2.2.2.2.2.2.2.2.2.1
  have ho := C.2.2.2.2.2.2.1
  unfold pJdkV at h
  split at h
  · rename_i nxs i0 hf
    have e1 : i0 = idx := by simpa using List.find?_some hf
    subst e1
    have hlink : (Cond.methodLink (pOwn o) i0 yStrLen).before args s = true := hts _ (tJdk_ok ho (List.mem_of_find?_eq_some hf))
    split at h
    · split at h
      · rename_i r hc
        cases pGo_eq h
        intro ls H locs hl hG
        replace hG : pG D cy b x H0 sh M H locs := hG
        have hW := ((C.2.2.2.2.2.2.2.2.2.2 _ _ rfl).2.2).kept (fun a ha => hG.2.1 a ha)
        obtain ⟨v, h1, -⟩ := id hW
        obtain ⟨cell, g1, g2, g3, -⟩ := (h1.1 0 (by decide)).1
        refine s_on (v := some (.int 97)) (rest := pcS b x r) (va_runV (g := F0 m pc ls (.ref (x 2) :: pcS b x r)) (b := x 2) (C := "java/lang/String") (As := []) (n := 0) (Ts := lw_good) (own := pOwn o) ⟨C.1, C.2.1, C.2.2.1, C.2.2.2.1, hts⟩ (m_len l b (x 2)) ⟨callB_of 0 hts (s_good wS_14) rfl rfl rfl (hts _ wS_0) hlink ⟨by decide, by decide, by decide +kernel⟩ ⟨Nat.le_trans (by decide) hfr, Nat.le_trans (by decide) hlo⟩, hts _ wS_3, hts _ wS_4⟩ ⟨sP_blind b (x 2) _, ⟨cell, g1, g2, g3⟩, fun U hU hWm => ⟨rfl, by rw [hU]; exact hW.warm hWm⟩⟩ rfl rfl hl.1 rfl (lv_room (pCat_of hc)) hdg ⟨hr.1, hr.2⟩) ?_
        exact k ls H locs hl hG
      · cases h
    · cases h
  · rename_i nxs i0 hf
    have e1 : i0 = idx := by simpa using List.find?_some hf
    subst e1
    have hlink : (Cond.methodLink (pOwn o) i0 yStrCh).before args s = true := hts _ (tJdk_ok ho (List.mem_of_find?_eq_some hf))
    split at h
    · split at h
      · rename_i i r hcc
        obtain ⟨hin, hc⟩ := hcc
        cases pGo_eq h
        intro ls H locs hl hG
        replace hG : pG D cy b x H0 sh M H locs := hG
        have hW := ((C.2.2.2.2.2.2.2.2.2.2 _ _ rfl).2.2).kept (fun a ha => hG.2.1 a ha)
        obtain ⟨v, h1, -⟩ := id hW
        obtain ⟨cell, g1, g2, g3, -⟩ := (h1.1 0 (by decide)).1
        obtain ⟨i1, i2⟩ := pIn97 hin
        refine s_on (v := some (.int (pChr i.toNatClampNeg))) (rest := pcS b x r) (va_runV (g := F0 m pc ls (.int i :: .ref (x 2) :: pcS b x r)) (b := x 2) (C := "java/lang/String") (As := [.int i]) (n := 1) (Ts := lw_good) (own := pOwn o) ⟨C.1, C.2.1, C.2.2.1, C.2.2.2.1, hts⟩ (m_ch l b (x 2) i1 i2) ⟨callB_of 1 hts (s_good wS_16) rfl rfl rfl (hts _ wS_0) hlink ⟨by decide, by decide, by decide +kernel⟩ ⟨Nat.le_trans (by decide) hfr, Nat.le_trans (by decide) hlo⟩, hts _ wS_7, hts _ wS_8⟩ ⟨sP_blind b (x 2) _, ⟨cell, g1, g2, g3⟩, fun U hU hWm => ⟨rfl, by rw [hU]; exact hW.warm hWm⟩⟩ rfl rfl hl.1 rfl (lv_room (pCat_of hc)) hdg ⟨hr.1, hr.2⟩) ?_
        exact k ls H locs hl hG
      · cases h
    · cases h
  · cases h
end PSM

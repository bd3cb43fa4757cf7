/-! calls by contract, and a whole body -/
def pRm (d mc ms : Nat) : Room := { frames := d + 5, cells := mc, slots := ms, locals := 64 * d + 320 }
def pWds (m : Nat) : List Cond := wCode m :: lw_good
def pPc (D : va_G) (cy : Nat → ClassId) (b : Nat) (x : Nat → Nat) (S : pScr) (sh : pSh) (M : pMem) (as : List Value) : Array Value → State → Prop := fun a U => a = (pcS b x as).toArray ∧ pK D cy U ∧ pR D cy b x sh M U.heap ∧ ∀ n xs, S = some (n, xs) → va_X (x 1) n xs U U.heap ∧ x 1 < b ∧ sW b (x 2) U U.heap
def pQc (D : va_G) (cy : Nat → ClassId) (b : Nat) (x : Nat → Nat) (sh : pSh) (M : pMem) (v : Option Value) : Array Value → State → Outcome → State → Prop := fun _ st oc t => oc = .returned (v.map (pcv b x)) ∧ pR D cy b x sh M t.heap ∧ ∀ q, q < b → t.heap[q]? = st.heap[q]?
/-- method m's contract at one state of the pure machine -/
def pMet (l : Launch) (D : va_G) (cy : Nat → ClassId) (b : Nat) (x : Nat → Nat) (S : pScr) (d m : Nat) (as : List Value) (sh : pSh) (M : pMem) (v : Option Value) (sh2 : pSh) (M2 : pMem) : Prop :=
  Met l (pMe m).2.1 (pWds m) (pRm d (sh2.length - sh.length) (pSz sh2 - pSz sh)) (pPc D cy b x S sh M as) (pQc D cy b x sh2 M2 v) (sh2.length - sh.length) (pSz sh2 - pSz sh) (fun q => b ≤ q)
theorem pPc_blind (D : va_G) (cy : Nat → ClassId) (b : Nat) (x : Nat → Nat) (S : pScr) (sh : pSh) (M : pMem) (as : List Value) : FrameBlind (pPc D cy b x S sh M as) := fun a U g mk h => ⟨h.1, pK.same (U := U.calling g mk a) rfl h.2.1, h.2.2.1, fun n xs hS => ⟨va_X.moved (u := U) (U := U.calling g mk a) (Vm.Alike.refl U.vm) (h.2.2.2 n xs hS).1, (h.2.2.2 n xs hS).2.1, sW.same (u := U) (U := U.calling g mk a) rfl (h.2.2.2 n xs hS).2.2⟩⟩
theorem goodAll {X : List Cond} (h : ∀ w ∈ X, w ∈ lw_good) : GoodIn lw_good X := fun w hw => ⟨h w hw, good_of_word (List.mem_filter.mp (h w hw)).2⟩
theorem pWds_good {m : Nat} (h : m < nM) : GoodIn lw_good (pWds m) := goodAll (fun w hw => by
  rcases List.mem_cons.mp hw with rfl | hw
  · exact pM_ok h
  · exact hw)
theorem tMth_nest : ∀ o, o < 14 → ∀ q ∈ tMth.getD o [], q.2.2.2 = 0 ∨ q.2.2.2 = 1 := by decide +kernel
theorem pKind_d : ∀ m, m < nM → pKind.getD m 9 = pKind.getD m 0 := by decide +kernel
theorem pMe_o : ∀ m, m < nM → pKind.getD m 0 = 1 → (pMe m).1 < 13 := by decide +kernel
section PCA
variable {p : Program} {l : Launch} {e : Env} {R : Room} {s : State} {m : MethodId} {args : Array Value} {below : List Frame} {meth : Method} {c : Code} {Q : State → Prop} {cc : ByteArray} {nL o : Nat} {ini : Bool} {D : va_G} {cy : Nat → ClassId} {b : Nat} {x : Nat → Nat} {S : pScr} {H0 : Heap} {n0 z0 : Nat}
variable {pc : Nat} {L : pLs} {st : List Value} {sh : pSh} {M : pMem} {σ : pSt}
/-- behind a call that has run -/
theorem run_on {H : Heap} {locs : List Loc} {ls : Array Slot} {st0 rest : List Value} {a : Array Value} {sh2 : pSh} {M2 : pMem} {v : Option Value} (hn : n0 ≤ sh.length ∧ z0 ≤ pSz sh) (hx : pExt sh sh2) (hl : lv_has ls nL (pcL b x L)) (hG : pG D cy b x H0 sh M H locs)
    (hrun : va_Run p l e R s m args below meth c H locs (sh.length - n0) (pSz sh - z0) (sh2.length - sh.length) (pSz sh2 - pSz sh) (F0 m pc ls st0) (pcS b x rest) (pQc D cy b x sh2 M2 v a) (fun q => b ≤ q))
    (k : pWs p l e R s m args below meth c Q nL D cy b x H0 n0 z0 (pc + 3, L, v.toList ++ rest, sh2, M2)) : W p l e R s m args below meth c H locs (sh.length - n0) (pSz sh - z0) Q (F0 m pc ls st0) := by
  intro T hT X
  obtain ⟨v', st₀, t, T', L', h0, X', hL, e1, e2, ⟨hv, hR2, hold⟩, st⟩ := hrun T hT X
  have hv : v' = v.map (pcv b x) := Outcome.returned.inj hv
  subst hv
  have hle := hx.le
  have c1 : sh.length - n0 + (sh2.length - sh.length) = sh2.length - n0 := by omega
  have c2 : pSz sh - z0 + (pSz sh2 - pSz sh) = pSz sh2 - z0 := by omega
  rw [c1, c2] at X'
  have hstk : (v.map (pcv b x)).toList ++ pcS b x rest = pcS b x (v.toList ++ rest) := by cases v <;> rfl
  obtain ⟨t2, a1, b1⟩ := k ls T'.heap (locs ++ L') hl ⟨by rw [e1]; exact hR2, fun q hq => by rw [e1, hold q hq, h0]; exact hG.2.1 q hq, fun q hq => by
    rcases List.mem_append.mp hq with h | h
    · exact hG.2.2 q h
    · exact hL q h⟩ T' rfl X'
  refine ⟨t2, st t2 ?_, b1⟩
  rw [hstk]
  exact a1
theorem find_ok {α : Type} {t : List (Nat × α)} {idx : Nat} {q : Nat × α} (h : t.find? (fun e => e.1 == idx) = some q) : q.1 = idx ∧ q ∈ t := ⟨by simpa using List.find?_some h, List.mem_of_find?_eq_some h⟩
theorem stk_split {n : Nat} {st r : List Value} (h : st.drop n = r) : pcS b x st = (pcS b x (st.take n).reverse).reverse ++ pcS b x r := by
  rw [← h, ← List.map_reverse, List.reverse_reverse, ← List.map_append, List.take_append_drop]
variable {d : Nat}
theorem ps_call {kd idx mi : Nat} {as st' : List Value} {pc' : Nat} {L' : pLs} {sh' : pSh} {M' : pMem} {sh2 : pSh} {M2 : pMem} {v : Option Value} {i : Instr} (C : pCtx p R s m args meth c cc nL o ini D cy b x S H0) (hd : d + 6 ≤ R.frames ∧ 64 * d + 384 ≤ R.locals) (hdg : decode cc pc = .ok (i, 3))
    (hi : (kd = 0 ∧ i = .invokestatic idx) ∨ (kd = 1 ∧ i = .invokevirtual idx) ∨ (kd = 2 ∧ i = .invokespecial idx))
    (h : pCall kd o idx pc L st sh M = some (.inr (.inr (mi, as, pc', L', st', sh', M')))) (hM : mi < nM → pExt sh' sh2 ∧ pMet l D cy b x S d mi as sh' M' v sh2 M2)
    (hn : n0 ≤ sh.length ∧ z0 ≤ pSz sh) (hr : sh2.length - n0 ≤ R.cells ∧ pSz sh2 - z0 ≤ R.slots) (k : pWs p l e R s m args below meth c Q nL D cy b x H0 n0 z0 (pc', L', v.toList ++ st', sh2, M2)) : pWs p l e R s m args below meth c Q nL D cy b x H0 n0 z0 (pc, L, st, sh, M) := by
  have ho := C.2.2.2.2.2.2.1
  have hts := C.2.2.2.2.1
  have hK := C.2.2.2.2.2.1
  unfold pCall at h
  split at h
  · rename_i q mj n nest hf
    obtain ⟨hq, hmem⟩ := find_ok hf
    have hq : q = idx := hq
    subst hq
    have hlt : mj < nM := tMth_lt o ho _ hmem
    obtain ⟨hm1, hm2, hm3, hm4, hm5, hm6, hm7⟩ := pMe_lt mj hlt
    have hnp : (parseMethodDescriptor (pMe mj).2.1.desc).map (fun d => d.parameters.length) = some n := tMth_n o ho _ hmem
    split at h
    · rename_i hcond
      obtain ⟨hkd, hlen, hnest⟩ := hcond
      have hini : (Cond.initialized (pMe mj).2.1.cls).before args s = true := by
        have h2 := hts _ (pIni_ok hm1)
        unfold wIni at h2
        rw [hm3] at h2
        exact h2
      have hwl : nest = 0 → (Cond.methodLink (pOwn o) q (pMe mj).2.1).before args s = true := fun h0 => hts _ (tMth_ok ho hmem h0)
      have go : ∀ (H : Heap) (locs : List Loc) (ls : Array Slot) (as0 r0 : List Value), lv_has ls nL (pcL b x L) → pG D cy b x H0 sh M H locs → pExt sh sh2 → (va_Run p l e R s m args below meth c H locs (sh.length - n0) (pSz sh - z0) (sh2.length - sh.length) (pSz sh2 - pSz sh) (F0 m pc ls (pcS b x st)) (pcS b x r0) (pQc D cy b x sh2 M2 v (pcS b x as0).toArray) (fun q => b ≤ q)) → pWs p l e R s m args below meth c Q nL D cy b x H0 n0 z0 (pc + 3, L, v.toList ++ r0, sh2, M2) → W p l e R s m args below meth c H locs (sh.length - n0) (pSz sh - z0) Q (F0 m pc ls (pcS b x st)) := fun H locs ls as0 r0 hl hG hx hrun kk => run_on hn hx hl hG hrun kk
      have hroom : (pRm d (sh2.length - sh.length) (pSz sh2 - pSz sh)).frames + 1 ≤ R.frames ∧ 8 + ((pMe mj).2.2.2.1 + 11) + (pRm d (sh2.length - sh.length) (pSz sh2 - pSz sh)).locals ≤ R.locals := by
        show d + 5 + 1 ≤ R.frames ∧ 8 + ((pMe mj).2.2.2.1 + 11) + (64 * d + 320) ≤ R.locals
        refine ⟨hd.1, Nat.le_trans ?_ hd.2⟩
        generalize (pMe mj).2.2.2.1 = X9 at hm2 ⊢
        omega
      have hAs : ((pcS b x (st.take n).reverse)).length = n := by simp; omega
      split at h
      · split at h
        · rename_i hc
          cases h
          obtain ⟨hx, hMet⟩ := hM hlt
          have hle := hx.le
          have hff : sh.length - n0 + (sh2.length - sh.length) ≤ R.cells ∧ pSz sh - z0 + (pSz sh2 - pSz sh) ≤ R.slots := by omega
          intro ls H locs hl hG
          replace hG : pG D cy b x H0 sh M H locs := hG
          have hst0 : (Cond.static (pMe mi).2.1).before args s = true := hts _ (pKs_ok hlt hkd)
          have hii : i = .invokestatic q := by rcases hi with ⟨-, h⟩ | ⟨h, -⟩ | ⟨h, -⟩ <;> first | exact h | cases h
          subst hii
          refine go H locs ls (st.take n).reverse (st.drop n) hl hG hx ?_ k
          by_cases h0 : nest = 0
          · exact va_runS (g := F0 m pc ls (pcS b x st)) (As := pcS b x (st.take n).reverse) (n := n) (Ts := lw_good) ⟨C.1, C.2.1, C.2.2.1, C.2.2.2.1, hts⟩ hMet ⟨callB_of n hts (pWds_good hlt) rfl rfl rfl hini (hwl h0) ⟨hm5, hm6, hnp⟩ hroom, hst0⟩ ⟨pPc_blind D cy b x S sh M _, fun U hU hW => ⟨rfl, hK.warm hW, by rw [hU]; exact hG.1, fun n9 xs9 hS9 => ⟨by rw [hU]; exact va_X.moved hW.alike ((C.2.2.2.2.2.2.2.2.2.2 n9 xs9 hS9).1.kept (hG.2.1 _ (C.2.2.2.2.2.2.2.2.2.2 n9 xs9 hS9).2.1)), (C.2.2.2.2.2.2.2.2.2.2 n9 xs9 hS9).2.1, by rw [hU]; exact ((C.2.2.2.2.2.2.2.2.2.2 n9 xs9 hS9).2.2.kept (fun a ha => hG.2.1 a ha)).warm hW⟩⟩⟩ rfl hAs hl.1 (stk_split rfl) (lv_room (pCat_of hc)) hdg hff
          · have h1 : nest = 1 := by
              have := tMth_nest o ho _ hmem
              rcases this with z | z
              · exact absurd z h0
              · exact z
            exact va_runSN (g := F0 m pc ls (pcS b x st)) (As := pcS b x (st.take n).reverse) (n := n) (Ts := lw_good) ⟨C.1, C.2.1, C.2.2.1, C.2.2.2.1, hts⟩ hMet ⟨va_cnB n hts (pWds_good hlt) rfl rfl rfl (hK.2.1 o _ ho hmem h1) hini ⟨hm5, hm6, hnp⟩ hroom, hst0, trivial⟩ ⟨pPc_blind D cy b x S sh M _, fun U hU hW => ⟨rfl, hK.warm hW, by rw [hU]; exact hG.1, fun n9 xs9 hS9 => ⟨by rw [hU]; exact va_X.moved hW.alike ((C.2.2.2.2.2.2.2.2.2.2 n9 xs9 hS9).1.kept (hG.2.1 _ (C.2.2.2.2.2.2.2.2.2.2 n9 xs9 hS9).2.1)), (C.2.2.2.2.2.2.2.2.2.2 n9 xs9 hS9).2.1, by rw [hU]; exact ((C.2.2.2.2.2.2.2.2.2.2 n9 xs9 hS9).2.2.kept (fun a ha => hG.2.1 a ha)).warm hW⟩⟩⟩ rfl hAs hl.1 (stk_split rfl) (lv_room (pCat_of hc)) hdg hff
        · cases h
      · rename_i hk0
        have hnz : pKind.getD mj 0 ≠ 0 := by
          intro z
          have : pKind.getD mj 9 = pKind.getD mj 0 := pKind_d mj hlt
          rw [this, z] at hkd
          exact hk0 hkd.symm
        have hn0 : nest = 0 := by
          rcases hnest with z | z
          · exact z
          · exact absurd z (fun w => hk0 w)
        split at h
        · rename_i a0 r hdrop
          split at h
          · rename_i cl nn ha
            split at h
            · rename_i hc
              cases h
              obtain ⟨hx, hMet⟩ := hM hlt
              have hle := hx.le
              have hff : sh.length - n0 + (sh2.length - sh.length) ≤ R.cells ∧ pSz sh - z0 + (pSz sh2 - pSz sh) ≤ R.slots := by omega
              intro ls H locs hl hG
              replace hG : pG D cy b x H0 sh M H locs := hG
              have hins : (Cond.instanceMethod (pMe mi).2.1).before args s = true := hts _ (pKi_ok hlt hnz)
              have hk9 : pKind.getD mi 0 = kd := by rw [← pKind_d mi hlt]; exact hkd
              refine go H locs ls (.ref a0 :: (st.take n).reverse) _ hl hG hx ?_ k
              rcases hi with ⟨h0, -⟩ | ⟨h1, rfl⟩ | ⟨h2, rfl⟩
              · exact absurd h0 (fun z => hk0 z)
              · subst h1
                have hcl : cl < 13 := by
                  rw [hc.1]
                  exact pMe_o mi hlt hk9
                obtain ⟨hN, cell, q1, q2, q3, q4⟩ := hG.1.obj ha hcl
                have hfc : s.vm.findClass (pMe mi).2.1.cls = some cell.cls := by
                  rw [q2, ← hm3, ← hc.1, pCl_own cl hcl]
                  exact (hK.1.1 cl _ (pCl_at hcl)).2.1
                have hsel : (Cond.selects (pMe mi).2.1.cls (pMe mi).2.1 (pMe mi).2.1).before args s = true := hts _ (pKv_ok hlt hk9)
                exact va_runV (g := F0 m pc ls (pcS b x st)) (b := b + a0) (C := (pMe mi).2.1.cls) (As := pcS b x (st.take n).reverse) (n := n) (Ts := lw_good) ⟨C.1, C.2.1, C.2.2.1, C.2.2.2.1, hts⟩ hMet ⟨callB_of n hts (pWds_good hlt) rfl rfl rfl hini (hwl hn0) ⟨hm5, hm6, hnp⟩ hroom, hins, hsel⟩ ⟨pPc_blind D cy b x S sh M _, ⟨cell, q1, by rw [q3]; rfl, hfc⟩, fun U hU hW => ⟨rfl, hK.warm hW, by rw [hU]; exact hG.1, fun n9 xs9 hS9 => ⟨by rw [hU]; exact va_X.moved hW.alike ((C.2.2.2.2.2.2.2.2.2.2 n9 xs9 hS9).1.kept (hG.2.1 _ (C.2.2.2.2.2.2.2.2.2.2 n9 xs9 hS9).2.1)), (C.2.2.2.2.2.2.2.2.2.2 n9 xs9 hS9).2.1, by rw [hU]; exact ((C.2.2.2.2.2.2.2.2.2.2 n9 xs9 hS9).2.2.kept (fun a ha => hG.2.1 a ha)).warm hW⟩⟩⟩ rfl hAs hl.1 (stk_split hdrop) (lv_room (pCat_of hc.2)) hdg hff
              · subst h2
                obtain ⟨hnm, hret⟩ := hm7 hkd
                have hcb := callB_of (R := R) (rm := pRm d (sh2.length - sh.length) (pSz sh2 - pSz sh)) (mc := sh2.length - sh.length) (ms := pSz sh2 - pSz sh) (own := pOwn o) (index := q) (y := (pMe mi).2.1) (bytes := (pMe mi).2.2.1) (maxL := (pMe mi).2.2.2.1) (ret := (pMe mi).2.2.2.2) n hts (pWds_good hlt) rfl rfl rfl hini (hwl hn0) ⟨hm5, hm6, hnp⟩ hroom
                rw [hret] at hcb
                exact va_runI (g := F0 m pc ls (pcS b x st)) (b := b + a0) (As := pcS b x (st.take n).reverse) (n := n) (Ts := lw_good) ⟨C.1, C.2.1, C.2.2.1, C.2.2.2.1, hts⟩ hMet ⟨hcb, hnm, hins⟩ ⟨pPc_blind D cy b x S sh M _, fun U hU hW => ⟨rfl, hK.warm hW, by rw [hU]; exact hG.1, fun n9 xs9 hS9 => ⟨by rw [hU]; exact va_X.moved hW.alike ((C.2.2.2.2.2.2.2.2.2.2 n9 xs9 hS9).1.kept (hG.2.1 _ (C.2.2.2.2.2.2.2.2.2.2 n9 xs9 hS9).2.1)), (C.2.2.2.2.2.2.2.2.2.2 n9 xs9 hS9).2.1, by rw [hU]; exact ((C.2.2.2.2.2.2.2.2.2.2 n9 xs9 hS9).2.2.kept (fun a ha => hG.2.1 a ha)).warm hW⟩⟩⟩ rfl hAs hl.1 (stk_split hdrop) (lv_room (pCat_of hc.2)) hdg hff
            · cases h
          · cases h
        · cases h
    · cases h
  · cases h
end PCA

/-! steps that jump, and steps that touch the heap -/
section PSH
variable {p : Program} {l : Launch} {e : Env} {R : Room} {s : State} {m : MethodId} {args : Array Value} {below : List Frame} {meth : Method} {c : Code} {Q : State → Prop} {cc : ByteArray} {nL o : Nat} {ini : Bool} {D : va_G} {cy : Nat → ClassId} {b : Nat} {x : Nat → Nat} {S : pScr} {H0 : Heap} {n0 z0 : Nat}
variable {pc : Nat} {L : pLs} {st : List Value} {sh : pSh} {M : pMem} {σ : pSt}
theorem ps_goto {off : Int} (C : pCtx p R s m args meth c cc nL o ini D cy b x S H0) (hdg : decode cc pc = .ok (.goto off, 3)) (h : pJp pc off L st sh M = some (.inl σ)) (k : pWs p l e R s m args below meth c Q nL D cy b x H0 n0 z0 σ) : pWs p l e R s m args below meth c Q nL D cy b x H0 n0 z0 (pc, L, st, sh, M) := by
  obtain ⟨t, ht, rfl⟩ := pJp_eq h
  intro ls H locs hl hG
  replace hG : pG D cy b x H0 sh M H locs := hG
  exact lv_goto C.1 C.2.1 hdg ht (k ls H locs hl hG)
theorem ps_ifnull {off : Int} (C : pCtx p R s m args meth c cc nL o ini D cy b x S H0) (hdg : decode cc pc = .ok (.ifnull off, 3)) (h : (match st with
    | .ref _ :: r => pGo (pc + 3) L r sh M
    | .null :: r => pJp pc off L r sh M
    | _ => none) = some (.inl σ)) (k : pWs p l e R s m args below meth c Q nL D cy b x H0 n0 z0 σ) : pWs p l e R s m args below meth c Q nL D cy b x H0 n0 z0 (pc, L, st, sh, M) := by
  split at h
  · cases pGo_eq h
    intro ls H locs hl hG
    replace hG : pG D cy b x H0 sh M H locs := hG
    exact lv_ifnull C.1 C.2.1 hdg (k ls H locs hl hG)
  · obtain ⟨t, ht, rfl⟩ := pJp_eq h
    intro ls H locs hl hG
    replace hG : pG D cy b x H0 sh M H locs := hG
    exact lv_ifnullN C.1 C.2.1 hdg ht (k ls H locs hl hG)
  · cases h
theorem ps_ifnonnull {off : Int} (C : pCtx p R s m args meth c cc nL o ini D cy b x S H0) (hdg : decode cc pc = .ok (.ifnonnull off, 3)) (h : (match st with
    | .ref _ :: r => pJp pc off L r sh M
    | .null :: r => pGo (pc + 3) L r sh M
    | _ => none) = some (.inl σ)) (k : pWs p l e R s m args below meth c Q nL D cy b x H0 n0 z0 σ) : pWs p l e R s m args below meth c Q nL D cy b x H0 n0 z0 (pc, L, st, sh, M) := by
  split at h
  · obtain ⟨t, ht, rfl⟩ := pJp_eq h
    intro ls H locs hl hG
    replace hG : pG D cy b x H0 sh M H locs := hG
    exact lv_ifnonnull C.1 C.2.1 hdg ht (k ls H locs hl hG)
  · cases pGo_eq h
    intro ls H locs hl hG
    replace hG : pG D cy b x H0 sh M H locs := hG
    exact lv_ifnonnullN C.1 C.2.1 hdg (k ls H locs hl hG)
  · cases h
theorem ps_table {dflt lo hi : Int} {offs : Array Int} {len : Nat} (C : pCtx p R s m args meth c cc nL o ini D cy b x S H0) (hdg : decode cc pc = .ok (.tableswitch dflt lo hi offs, len)) (h : pTbl dflt lo hi offs pc L st sh M = some (.inl σ)) (k : pWs p l e R s m args below meth c Q nL D cy b x H0 n0 z0 σ) : pWs p l e R s m args below meth c Q nL D cy b x H0 n0 z0 (pc, L, st, sh, M) := by
  unfold pTbl at h
  split at h
  · split at h
    · rename_i hr
      obtain ⟨t, ht, rfl⟩ := pJp_eq h
      intro ls H locs hl hG
      replace hG : pG D cy b x H0 sh M H locs := hG
      exact lv_tableOut C.1 C.2.1 hdg hr ht (k ls H locs hl hG)
    · rename_i hr
      split at h
      · rename_i off ho
        obtain ⟨t, ht, rfl⟩ := pJp_eq h
        intro ls H locs hl hG
        replace hG : pG D cy b x H0 sh M H locs := hG
        exact lv_tableIn C.1 C.2.1 hdg (fun z => hr (Or.inl z)) (fun z => hr (Or.inr z)) ho ht (k ls H locs hl hG)
      · cases h
  · cases h
theorem ps_lookup {dflt : Int} {ps : Array (Int × Int)} {len : Nat} (C : pCtx p R s m args meth c cc nL o ini D cy b x S H0) (hdg : decode cc pc = .ok (.lookupswitch dflt ps, len)) (h : pLkp dflt ps pc L st sh M = some (.inl σ)) (k : pWs p l e R s m args below meth c Q nL D cy b x H0 n0 z0 σ) : pWs p l e R s m args below meth c Q nL D cy b x H0 n0 z0 (pc, L, st, sh, M) := by
  unfold pLkp at h
  split at h
  · split at h
    · rename_i hp
      obtain ⟨t, ht, rfl⟩ := pJp_eq h
      intro ls H locs hl hG
      replace hG : pG D cy b x H0 sh M H locs := hG
      exact lv_lookup C.1 C.2.1 hdg hp rfl ht (k ls H locs hl hG)
    · cases h
  · cases h
theorem pFindI_ok {o i : Nat} {q : Nat × Nat × Nat} (h : pFindI tFld o i = some q) : q.1 = i ∧ q ∈ tFld.getD o [] := by
  unfold pFindI at h
  exact ⟨by simpa using List.find?_some h, List.mem_of_find?_eq_some h⟩
theorem ps_getf {idx : Nat} (C : pCtx p R s m args meth c cc nL o ini D cy b x S H0) (hdg : decode cc pc = .ok (.getfield idx, 3)) (h : pGetF o idx pc L st sh M = some (.inl σ)) (k : pWs p l e R s m args below meth c Q nL D cy b x H0 n0 z0 σ) : pWs p l e R s m args below meth c Q nL D cy b x H0 n0 z0 (pc, L, st, sh, M) := by
  unfold pGetF at h
  split at h
  · rename_i a r
    split at h
    · rename_i i0 ci kf cc' n hf ha
      split at h
      · rename_i hck
        cases pGo_eq h
        obtain ⟨rfl, hkn⟩ := hck
        obtain ⟨e1, hmem⟩ := pFindI_ok hf
        have e1 : i0 = idx := e1
        subst e1
        have hci : cc' < 13 := tFld_lt o C.2.2.2.2.2.2.1 _ hmem
        intro ls H locs hl hG
        replace hG : pG D cy b x H0 sh M H locs := hG
        obtain ⟨hN, hob⟩ := hG.1.obj ha hci
        have hP : va_P D vwCl [(b + a, .inr (cc', (List.range n).map (fun j => pcv b x (M a j))))] H := by
          intro k9 q hk
          have h0 : k9 < 1 := (List.getElem?_eq_some_iff.mp hk).1
          have h00 : k9 = 0 := by omega
          subst h00
          cases hk
          refine ⟨pCl cc', pCl_at hci, ?_⟩
          show t_OB (b + a) (D.1 cc') (pCl cc').2.2 (D.2 cc') H (vp_V ((List.range n).map (fun j => pcv b x (M a j))))
          rw [hN]
          refine hob.to (fun j hj => ?_)
          simp [vp_V, hj]
        exact va_get (ws := [(b + a, .inr (cc', (List.range n).map (fun j => pcv b x (M a j))))]) (C := (pCl cc').1) (T := (pCl cc').2.1) (N := (pCl cc').2.2) (ci := cc') C.1 C.2.1 C.2.2.2.2.1 (pLay_ok hci) C.2.2.2.1 C.2.2.2.2.2.1.1 hP 0 rfl (pCl_at hci) kf (by rw [hN]; exact hkn) (C.2.2.2.2.1 _ (tFld_ok C.2.2.2.2.2.2.1 hmem)) (fun _ z => z) (v := pcv b x (M a kf)) (by simp [hkn]) hdg (k ls H locs hl hG)
      · cases h
    · cases h
  · cases h
theorem nbeq_ne {a b : Nat} (h : a ≠ b) : Nat.beq a b = false := by
  cases hq : Nat.beq a b with
  | false => rfl
  | true => exact absurd (Nat.eq_of_beq_eq_true hq) h
theorem pUp_self (M : pMem) (a k : Nat) (v : Value) : pUp M a k v a k = v := by simp [pUp]
theorem pUp_obj (M : pMem) (a k : Nat) (v : Value) {i : Nat} (h : i ≠ a) (j : Nat) : pUp M a k v i j = M i j := by
  have : Nat.beq i a = false := nbeq_ne h
  simp [pUp, this]
theorem pUp_cv (b : Nat) (x : Nat → Nat) (M : pMem) (a k : Nat) (v : Value) (j : Nat) : updV (fun j => pcv b x (M a j)) k (pcv b x v) j = pcv b x (pUp M a k v a j) := by
  unfold updV pUp
  by_cases hj : j = k
  · subst hj
    simp
  · have : Nat.beq j k = false := nbeq_ne hj
    simp [hj, this]
theorem ps_putf {idx : Nat} (C : pCtx p R s m args meth c cc nL o ini D cy b x S H0) (hdg : decode cc pc = .ok (.putfield idx, 3)) (h : pPutF o ini idx pc L st sh M = some (.inl σ)) (k : pWs p l e R s m args below meth c Q nL D cy b x H0 n0 z0 σ) : pWs p l e R s m args below meth c Q nL D cy b x H0 n0 z0 (pc, L, st, sh, M) := by
  unfold pPutF at h
  split at h
  · rename_i v a r
    split at h
    · rename_i i0 ci kf cc' n hf ha
      split at h
      · rename_i hck
        split at h
        · rename_i ty hty
          split at h
          · rename_i hfit
            cases pGo_eq h
            obtain ⟨rfl, hkn, hfin⟩ := hck
            obtain ⟨e1, hmem⟩ := pFindI_ok hf
            have e1 : i0 = idx := e1
            subst e1
            have hci : cc' < 13 := tFld_lt o C.2.2.2.2.2.2.1 _ hmem
            intro ls H locs hl hG
            replace hG : pG D cy b x H0 sh M H locs := hG
            obtain ⟨hN, cell, q1, q2, q3, q4⟩ := hG.1.obj ha hci
            obtain ⟨hx, hb, hml, hown, hts, ⟨hK, -⟩, ho, hini, -⟩ := C
            have hkN : kf < (pCl cc').2.2 := by rw [hN]; exact hkn
            have hap := va_apart (own := pOwn o) hts (pLay_ok hci) (pTyF cc') (pTy_ok cc' hci) (pNm_ok cc' hci) hK (pCl_at hci)
            obtain ⟨hSl, hfc, kC, hkC, hkind⟩ := hK.1 cc' _ (pCl_at hci)
            obtain ⟨cf, kf', fi, f, hi, hsl⟩ := hSl kf hkN
            have hlay := hts _ (pLay_ok hci _ (u_in_lay hkN))
            have hst := (u_facts hfc hkC (u_lays hts (pLay_ok hci) hkN) hi).1
            obtain ⟨hn2, hf2⟩ := pcv_fit (b := b) (x := x) hfit.1 hfit.2
            have hlink := hts _ (tFld_ok ho hmem)
            have fin : ∀ (H' : Heap), H'[b + a]? = some (cell.setSlot f.slot (pcv b x v)) → H'.size = H.size → (∀ q, q ≠ b + a → H'[q]? = H[q]?) → W p l e R s m args below meth c H' (locs ++ [⟨b + a, f.slot⟩]) (sh.length - n0) (pSz sh - z0) Q (F0 m (pc + 3) ls (pcS b x r)) := by
              intro H' e1 e2 e3
              refine k ls H' _ hl ⟨hG.1.set ha e2 e3 (fun i hi j => pUp_obj M a kf v hi j) (Or.inl ⟨hci, hN, ?_⟩), fun q hq => (e3 q (by omega)).trans (hG.2.1 q hq), fun q hq => ?_⟩
              · rw [hsl] at e1
                have ht : t_OB (b + a) (D.1 cc') n (D.2 cc') H' (updV (fun j => pcv b x (M a j)) kf (pcv b x v)) := ⟨_, e1, q2, q3, t_set q4 (by rw [← hN]; exact hap) hkn (pcv b x v)⟩
                exact ht.to (fun j _ => pUp_cv b x M a kf v j)
              · rcases List.mem_append.mp hq with z | z
                · exact hG.2.2 q z
                · rw [List.mem_singleton.mp z]
                  exact Nat.le_add_right b a
            have hlt : f.slot < cell.slots.size := by rw [hsl]; exact k2_hasslot (q4 kf hkn)
            cases hfl : ((pCl cc').2.1 kf).2.2.2 with
            | false =>
              unfold u_lay at hlay
              rw [if_neg (by rw [hfl]; decide)] at hlay
              have h6 := u_store hfc hkC hkind hlay hi hty hn2 hf2
              exact W.putK hx hb (f := f) ⟨hown, hlink, ⟨_, _, _, hi⟩, hst⟩ (by rw [q2]; exact h6) q1 q3 hlt rfl rfl hdg fin
            | true =>
              unfold u_lay at hlay
              rw [if_pos hfl] at hlay
              obtain ⟨hi1, hi2⟩ : ini = true ∧ cc' = o := by
                rcases hfin with z | z
                · rw [hfl] at z; cases z
                · exact z
              have hcf : m.cls = cf := by
                obtain ⟨_, _, c', _, _, _, -, -, hf', -, -, -, hown2, -⟩ := Cond.laysFinal_spec hlay
                have e1 : c' = cf := by have := hi.symm.trans hf'; simp at this; exact this.1.symm
                rw [pFld_own cc' hci kf hkN, ← pCl_own cc' hci, hi2] at hown2
                rw [← e1]; exact Option.some.inj (hown.symm.trans hown2)
              have h6 := u_fits hfc hkC hkind (Or.inr hlay) hi hty hn2 hf2
              exact W.putFinK hx hb hown hlink hi hst hcf (hini hi1) (by rw [q2]; exact h6) q1 q3 hlt rfl rfl hdg fin
          · cases h
        · cases h
      · cases h
    · cases h
  · cases h
theorem pIn_of {j : Int32} {n : Nat} (h : pIn j n = true) : ¬ (j < 0 ∨ n ≤ j.toNatClampNeg) := of_decide_eq_true h
theorem pIn_lt {j : Int32} {n : Nat} (h : pIn j n = true) : j.toNatClampNeg < n := by
  have := pIn_of h
  omega
theorem pK_arr {U : State} (hK : pK D cy U) : ArrOfT U (cy 13) .int ∧ ArrOfT U (cy 14) .boolean ∧ ArrOfT U (cy 15) .long ∧ ArrOfT U (cy 16) (.array .int) ∧ ArrOfT U (cy 17) (.object RX8) ∧ ArrOfT U (cy 18) (.object RX7) :=
  ⟨(hK.1.2 0 _ rfl).1, (hK.1.2 1 _ rfl).1, (hK.1.2 2 _ rfl).1, (hK.1.2 3 _ rfl).1, (hK.1.2 4 _ rfl).1, (hK.1.2 5 _ rfl).1⟩
theorem arrV_vm (cA : ClassId) (n : Nat) (f : Nat → Value) : (arrV cA n f).vm ≠ .unknown := fun h => by cases h
theorem ps_iaload (C : pCtx p R s m args meth c cc nL o ini D cy b x S H0) (hdg : decode cc pc = .ok (.iaload, 1)) (h : pArrLd S .iaload pc L st sh M = some (.inl σ)) (k : pWs p l e R s m args below meth c Q nL D cy b x H0 n0 z0 σ) : pWs p l e R s m args below meth c Q nL D cy b x H0 n0 z0 (pc, L, st, sh, M) := by
  have hK := C.2.2.2.2.2.1
  unfold pArrLd at h
  split at h
  · rename_i j a r
    split at h
    · rename_i kk n ha
      split at h
      · rename_i hin
        split at h
        · rename_i v hi hv
          cases pGo_eq h
          intro ls H locs hl hG
          replace hG : pG D cy b x H0 sh M H locs := hG
          have hc := hG.1.arr ha (by omega)
          exact W.iald C.1 C.2.1 (v := pcv b x (.int v)) hc ((pK_arr hK).1 n _) (arrV_vm _ _ _) (by rw [arrV_size]; exact pIn_of hin) (by rw [arrV_read _ _ (pIn_lt hin), hv]) rfl rfl hdg (k ls H locs hl hG)
        · contradiction
        · contradiction
        · contradiction
        · contradiction
        · contradiction
        · cases h
      · cases h
    · cases h
  · rename_i j r
    split at h
    · rename_i n xs hi9
      split at h
      · rename_i hin
        cases pGo_eq h
        intro ls H locs hl hG
        replace hG : pG D cy b x H0 sh M H locs := hG
        obtain ⟨⟨scr, h1, h2, h3, h4, h5⟩, hlt, -⟩ := C.2.2.2.2.2.2.2.2.2.2 n xs rfl
        refine W.iald C.1 C.2.1 (by rw [hG.2.1 _ hlt]; exact h1) h2 h3 (by rw [h4]; exact pIn_of hin) (h5 _ (pIn_lt hin)) rfl rfl hdg (k ls H locs hl hG)
      · cases h
    · cases h
  · cases h
theorem ps_baload (C : pCtx p R s m args meth c cc nL o ini D cy b x S H0) (hdg : decode cc pc = .ok (.baload, 1)) (h : pArrLd S .baload pc L st sh M = some (.inl σ)) (k : pWs p l e R s m args below meth c Q nL D cy b x H0 n0 z0 σ) : pWs p l e R s m args below meth c Q nL D cy b x H0 n0 z0 (pc, L, st, sh, M) := by
  have hK := C.2.2.2.2.2.1
  unfold pArrLd at h
  split at h
  · rename_i j a r
    split at h
    · rename_i kk n ha
      split at h
      · rename_i hin
        split at h
        · contradiction
        · rename_i v hi hv
          cases pGo_eq h
          intro ls H locs hl hG
          replace hG : pG D cy b x H0 sh M H locs := hG
          have hc := hG.1.arr ha (by omega)
          exact W.zald C.1 C.2.1 (v := pcv b x (.int v)) hc ((pK_arr hK).2.1 n _) (arrV_vm _ _ _) (by rw [arrV_size]; exact pIn_of hin) (by rw [arrV_read _ _ (pIn_lt hin), hv]) rfl rfl hdg (k ls H locs hl hG)
        · contradiction
        · contradiction
        · contradiction
        · contradiction
        · cases h
      · cases h
    · cases h
  · rename_i j r
    split at h
    · contradiction
    · cases h
  · cases h
theorem ps_laload (C : pCtx p R s m args meth c cc nL o ini D cy b x S H0) (hdg : decode cc pc = .ok (.laload, 1)) (h : pArrLd S .laload pc L st sh M = some (.inl σ)) (k : pWs p l e R s m args below meth c Q nL D cy b x H0 n0 z0 σ) : pWs p l e R s m args below meth c Q nL D cy b x H0 n0 z0 (pc, L, st, sh, M) := by
  have hK := C.2.2.2.2.2.1
  unfold pArrLd at h
  split at h
  · rename_i j a r
    split at h
    · rename_i kk n ha
      split at h
      · rename_i hin
        split at h
        · contradiction
        · contradiction
        · rename_i v hi hv
          cases pGo_eq h
          intro ls H locs hl hG
          replace hG : pG D cy b x H0 sh M H locs := hG
          have hc := hG.1.arr ha (by omega)
          exact W.lald C.1 C.2.1 (v := pcv b x (.long v)) hc ((pK_arr hK).2.2.1 n _) (arrV_vm _ _ _) (by rw [arrV_size]; exact pIn_of hin) (by rw [arrV_read _ _ (pIn_lt hin), hv]) rfl rfl hdg (k ls H locs hl hG)
        · contradiction
        · contradiction
        · contradiction
        · cases h
      · cases h
    · cases h
  · rename_i j r
    split at h
    · contradiction
    · cases h
  · cases h
theorem ps_aaload (C : pCtx p R s m args meth c cc nL o ini D cy b x S H0) (hdg : decode cc pc = .ok (.aaload, 1)) (h : pArrLd S .aaload pc L st sh M = some (.inl σ)) (k : pWs p l e R s m args below meth c Q nL D cy b x H0 n0 z0 σ) : pWs p l e R s m args below meth c Q nL D cy b x H0 n0 z0 (pc, L, st, sh, M) := by
  have hK := C.2.2.2.2.2.1
  unfold pArrLd at h
  split at h
  · rename_i j a r
    split at h
    · rename_i kk n ha
      split at h
      · rename_i hin
        split at h
        · contradiction
        · contradiction
        · contradiction
        · rename_i v hi hv
          cases pGo_eq h
          intro ls H locs hl hG
          replace hG : pG D cy b x H0 sh M H locs := hG
          have hc := hG.1.arr ha (by omega)
          exact W.aald C.1 C.2.1 (v := pcv b x (.ref v)) hc ((pK_arr hK).2.2.2.1 n _) rfl (arrV_vm _ _ _) (by rw [arrV_size]; exact pIn_of hin) (by rw [arrV_read _ _ (pIn_lt hin), hv]) rfl rfl hdg (k ls H locs hl hG)
        · rename_i v hi hv
          cases pGo_eq h
          intro ls H locs hl hG
          replace hG : pG D cy b x H0 sh M H locs := hG
          have hc := hG.1.arr ha (by omega)
          exact W.aald C.1 C.2.1 (v := pcv b x (.ref v)) hc ((pK_arr hK).2.2.2.2.1 n _) rfl (arrV_vm _ _ _) (by rw [arrV_size]; exact pIn_of hin) (by rw [arrV_read _ _ (pIn_lt hin), hv]) rfl rfl hdg (k ls H locs hl hG)
        · rename_i v hi hv
          cases pGo_eq h
          intro ls H locs hl hG
          replace hG : pG D cy b x H0 sh M H locs := hG
          have hc := hG.1.arr ha (by omega)
          exact W.aald C.1 C.2.1 (v := pcv b x (.ref v)) hc ((pK_arr hK).2.2.2.2.2 n _) rfl (arrV_vm _ _ _) (by rw [arrV_size]; exact pIn_of hin) (by rw [arrV_read _ _ (pIn_lt hin), hv]) rfl rfl hdg (k ls H locs hl hG)
        · cases h
      · cases h
    · cases h
  · rename_i j r
    split at h
    · contradiction
    · cases h
  · cases h
theorem pS_fin {H H' : Heap} {locs : List Loc} {a n kd j : Nat} {v : Value} {lc : Nat} (hG : pG D cy b x H0 sh M H locs) (ha : sh[a]? = some (kd, n)) (h1 : 13 ≤ kd) (h2 : kd < 19) (e1 : H'[b + a]? = some ((arrV (cy kd) n (fun j => pcv b x (M a j))).setSlot j (pcv b x v))) (e2 : H'.size = H.size) (e3 : ∀ q, q ≠ b + a → H'[q]? = H[q]?) : pG D cy b x H0 sh (pUp M a j v) H' (locs ++ [⟨b + a, lc⟩]) := by
  refine ⟨hG.1.set ha e2 e3 (fun i hi z => pUp_obj M a j v hi z) (Or.inr ⟨h1, h2, ?_⟩), fun q hq => (e3 q (by omega)).trans (hG.2.1 q hq), fun q hq => ?_⟩
  · rw [e1, arrV_store]
    congr 2
    funext z
    exact pUp_cv b x M a j v z
  · rcases List.mem_append.mp hq with z | z
    · exact hG.2.2 q z
    · rw [List.mem_singleton.mp z]
      exact Nat.le_add_right b a
theorem ps_iastore (C : pCtx p R s m args meth c cc nL o ini D cy b x S H0) (hdg : decode cc pc = .ok (.iastore, 1)) (h : pArrSt .iastore pc L st sh M = some (.inl σ)) (k : pWs p l e R s m args below meth c Q nL D cy b x H0 n0 z0 σ) : pWs p l e R s m args below meth c Q nL D cy b x H0 n0 z0 (pc, L, st, sh, M) := by
  have hK := C.2.2.2.2.2.1
  unfold pArrSt at h
  split at h
  · rename_i w j a r
    split at h
    · rename_i kk n ha
      split at h
      · rename_i hin
        split at h
        · rename_i v hi
          cases pGo_eq h
          intro ls H locs hl hG
          replace hG : pG D cy b x H0 sh M H locs := hG
          have hc := hG.1.arr ha (by omega)
          exact W.iast C.1 C.2.1 hc ((pK_arr hK).1 n _) (arrV_vm _ _ _) (by rw [arrV_size]; exact pIn_of hin) rfl rfl hdg (fun H' e1 e2 e3 => k ls H' _ hl (pS_fin hG ha (by omega) (by omega) (v := .int v) e1 e2 e3))
        · contradiction
        · contradiction
        · contradiction
        · contradiction
        · cases h
      · cases h
    · cases h
  · cases h
theorem ps_bastore (C : pCtx p R s m args meth c cc nL o ini D cy b x S H0) (hdg : decode cc pc = .ok (.bastore, 1)) (h : pArrSt .bastore pc L st sh M = some (.inl σ)) (k : pWs p l e R s m args below meth c Q nL D cy b x H0 n0 z0 σ) : pWs p l e R s m args below meth c Q nL D cy b x H0 n0 z0 (pc, L, st, sh, M) := by
  have hK := C.2.2.2.2.2.1
  unfold pArrSt at h
  split at h
  · rename_i w j a r
    split at h
    · rename_i kk n ha
      split at h
      · rename_i hin
        split at h
        · contradiction
        · rename_i v hi
          cases pGo_eq h
          intro ls H locs hl hG
          replace hG : pG D cy b x H0 sh M H locs := hG
          have hc := hG.1.arr ha (by omega)
          exact W.zast C.1 C.2.1 hc ((pK_arr hK).2.1 n _) (arrV_vm _ _ _) (by rw [arrV_size]; exact pIn_of hin) rfl rfl hdg (fun H' e1 e2 e3 => k ls H' _ hl (pS_fin hG ha (by omega) (by omega) (v := .int (v &&& 1)) e1 e2 e3))
        · contradiction
        · contradiction
        · contradiction
        · cases h
      · cases h
    · cases h
  · cases h
theorem ps_lastore (C : pCtx p R s m args meth c cc nL o ini D cy b x S H0) (hdg : decode cc pc = .ok (.lastore, 1)) (h : pArrSt .lastore pc L st sh M = some (.inl σ)) (k : pWs p l e R s m args below meth c Q nL D cy b x H0 n0 z0 σ) : pWs p l e R s m args below meth c Q nL D cy b x H0 n0 z0 (pc, L, st, sh, M) := by
  have hK := C.2.2.2.2.2.1
  unfold pArrSt at h
  split at h
  · rename_i w j a r
    split at h
    · rename_i kk n ha
      split at h
      · rename_i hin
        split at h
        · contradiction
        · contradiction
        · rename_i v hi
          cases pGo_eq h
          intro ls H locs hl hG
          replace hG : pG D cy b x H0 sh M H locs := hG
          have hc := hG.1.arr ha (by omega)
          exact W.last C.1 C.2.1 hc ((pK_arr hK).2.2.1 n _) (arrV_vm _ _ _) (by rw [arrV_size]; exact pIn_of hin) rfl rfl hdg (fun H' e1 e2 e3 => k ls H' _ hl (pS_fin hG ha (by omega) (by omega) (v := .long v) e1 e2 e3))
        · contradiction
        · contradiction
        · cases h
      · cases h
    · cases h
  · cases h
theorem ps_aastore (C : pCtx p R s m args meth c cc nL o ini D cy b x S H0) (hdg : decode cc pc = .ok (.aastore, 1)) (h : pArrSt .aastore pc L st sh M = some (.inl σ)) (k : pWs p l e R s m args below meth c Q nL D cy b x H0 n0 z0 σ) : pWs p l e R s m args below meth c Q nL D cy b x H0 n0 z0 (pc, L, st, sh, M) := by
  have hK := C.2.2.2.2.2.1
  unfold pArrSt at h
  split at h
  · rename_i w j a r
    split at h
    · rename_i kk n ha
      split at h
      · rename_i hin
        split at h
        · contradiction
        · contradiction
        · contradiction
        · rename_i v hi
          split at h
          · rename_i nv hv
            cases pGo_eq h
            intro ls H locs hl hG
            replace hG : pG D cy b x H0 sh M H locs := hG
            have hc := hG.1.arr ha (by omega)
            obtain ⟨kA, comp, g1, g2, g3, g4⟩ : va_RA s (cy 17) (.object RX8) := (hK.1.2 4 _ rfl).2
            obtain ⟨-, cv, v1, v2, v3, v4⟩ := hG.1.obj hv (by omega)
            obtain ⟨-, hat⟩ := hK.1.1 8 _ (pCl_at (by omega))
            obtain ⟨f1, kC, f2, f3⟩ := hat
            have hcc : comp = D.1 8 := Option.some.inj (g3.symm.trans f1)
            subst hcc
            refine W.aast C.1 C.2.1 hc (fun q z => by cases z) (arrV_vm _ _ _) g1 g2 rfl f2 ⟨fun z => pIn_of hin (Or.inl z), by rw [arrV_size]; exact pIn_lt hin⟩ v1 (fun q z => by rw [v3] at z; cases z) (by rw [v2]; exact f2) (by rw [v2]; exact va_assign ⟨f1, kC, f2, f3⟩) rfl rfl hdg (fun H' e1 e2 e3 => k ls H' _ hl (pS_fin hG ha (by omega) (by omega) (v := .ref v) e1 e2 e3))
          · cases h
        · rename_i v hi
          split at h
          · rename_i nv hv
            cases pGo_eq h
            intro ls H locs hl hG
            replace hG : pG D cy b x H0 sh M H locs := hG
            have hc := hG.1.arr ha (by omega)
            obtain ⟨kA, comp, g1, g2, g3, g4⟩ : va_RA s (cy 18) (.object RX7) := (hK.1.2 5 _ rfl).2
            obtain ⟨-, cv, v1, v2, v3, v4⟩ := hG.1.obj hv (by omega)
            obtain ⟨-, hat⟩ := hK.1.1 7 _ (pCl_at (by omega))
            obtain ⟨f1, kC, f2, f3⟩ := hat
            have hcc : comp = D.1 7 := Option.some.inj (g3.symm.trans f1)
            subst hcc
            refine W.aast C.1 C.2.1 hc (fun q z => by cases z) (arrV_vm _ _ _) g1 g2 rfl f2 ⟨fun z => pIn_of hin (Or.inl z), by rw [arrV_size]; exact pIn_lt hin⟩ v1 (fun q z => by rw [v3] at z; cases z) (by rw [v2]; exact f2) (by rw [v2]; exact va_assign ⟨f1, kC, f2, f3⟩) rfl rfl hdg (fun H' e1 e2 e3 => k ls H' _ hl (pS_fin hG ha (by omega) (by omega) (v := .ref v) e1 e2 e3))
          · cases h
        · cases h
      · cases h
    · cases h
  · cases h
theorem ps_alen (C : pCtx p R s m args meth c cc nL o ini D cy b x S H0) (hdg : decode cc pc = .ok (.arraylength, 1)) (h : pLen S pc L st sh M = some (.inl σ)) (k : pWs p l e R s m args below meth c Q nL D cy b x H0 n0 z0 σ) : pWs p l e R s m args below meth c Q nL D cy b x H0 n0 z0 (pc, L, st, sh, M) := by
  have hK := C.2.2.2.2.2.1
  unfold pLen at h
  split at h
  · rename_i a r
    split at h
    · rename_i kd n ha
      split at h
      · rename_i hkd
        cases pGo_eq h
        intro ls H locs hl hG
        replace hG : pG D cy b x H0 sh M H locs := hG
        have hc := hG.1.arr ha hkd.1
        have hz : Int32.ofNat (arrV (cy kd) n (fun j => pcv b x (M a j))).slots.size = Int32.ofNat n := by rw [arrV_size]
        rcases (show kd = 13 ∨ kd = 14 ∨ kd = 15 ∨ kd = 16 ∨ kd = 17 ∨ kd = 18 by omega) with rfl | rfl | rfl | rfl | rfl | rfl
        · exact W.alen C.1 C.2.1 hc ((pK_arr hK).1 n _) hz rfl rfl hdg (k ls H locs hl hG)
        · exact W.alen C.1 C.2.1 hc ((pK_arr hK).2.1 n _) hz rfl rfl hdg (k ls H locs hl hG)
        · exact W.alen C.1 C.2.1 hc ((pK_arr hK).2.2.1 n _) hz rfl rfl hdg (k ls H locs hl hG)
        · exact W.alen C.1 C.2.1 hc ((pK_arr hK).2.2.2.1 n _) hz rfl rfl hdg (k ls H locs hl hG)
        · exact W.alen C.1 C.2.1 hc ((pK_arr hK).2.2.2.2.1 n _) hz rfl rfl hdg (k ls H locs hl hG)
        · exact W.alen C.1 C.2.1 hc ((pK_arr hK).2.2.2.2.2 n _) hz rfl rfl hdg (k ls H locs hl hG)
      · cases h
    · cases h
  · rename_i r
    split at h
    · rename_i n xs
      cases pGo_eq h
      intro ls H locs hl hG
      replace hG : pG D cy b x H0 sh M H locs := hG
      obtain ⟨⟨scr, h1, h2, h3, h4, h5⟩, hlt, -⟩ := C.2.2.2.2.2.2.2.2.2.2 n xs rfl
      exact W.alen (n := Int32.ofNat n) C.1 C.2.1 (by rw [hG.2.1 _ hlt]; exact h1) h2 (by rw [h4] <;> rfl) rfl rfl hdg (k ls H locs hl hG)
    · cases h
  · cases h
theorem ps_ldc {idx : Nat} (C : pCtx p R s m args meth c cc nL o ini D cy b x S H0) (hdg : decode cc pc = .ok (.ldc idx, 2)) (h : (match (tCst.getD o []).find? (fun e => e.1 == idx) with
    | some (_, v) => pGo (pc + 2) L (.int v :: st) sh M
    | none => pLdcS S o idx pc L st sh M) = some (.inl σ)) (k : pWs p l e R s m args below meth c Q nL D cy b x H0 n0 z0 σ) : pWs p l e R s m args below meth c Q nL D cy b x H0 n0 z0 (pc, L, st, sh, M) := by
  split at h
  · rename_i i0 v hf
    cases pGo_eq h
    have e1 : i0 = idx := by simpa using List.find?_some hf
    subst e1
    intro ls H locs hl hG
    replace hG : pG D cy b x H0 sh M H locs := hG
    exact lv_ldc C.1 C.2.1 C.2.2.2.1 (C.2.2.2.2.1 _ (tCst_ok C.2.2.2.2.2.2.1 (List.mem_of_find?_eq_some hf))) hdg (k ls H locs hl hG)
  · unfold pLdcS at h
    split at h
    · split at h
      · rename_i z0 z1 z2 hoi
        obtain ⟨rfl, rfl⟩ := hoi
        cases pGo_eq h
        intro ls H locs hl hG
        replace hG : pG D cy b x H0 sh M H locs := hG
        obtain ⟨v, -, -, -, hR⟩ := (C.2.2.2.2.2.2.2.2.2.2 _ _ rfl).2.2
        exact va_ldcS C.1 C.2.1 C.2.2.2.1 hR hdg (k ls H locs hl hG)
      · cases h
    · cases h
theorem ps_ldc2 {idx : Nat} (C : pCtx p R s m args meth c cc nL o ini D cy b x S H0) (hdg : decode cc pc = .ok (.ldc2_w idx, 3)) (h : (match (tCsl.getD o []).find? (fun e => e.1 == idx) with
    | some (_, v) => pGo (pc + 3) L (.long v :: st) sh M
    | none => none) = some (.inl σ)) (k : pWs p l e R s m args below meth c Q nL D cy b x H0 n0 z0 σ) : pWs p l e R s m args below meth c Q nL D cy b x H0 n0 z0 (pc, L, st, sh, M) := by
  split at h
  · rename_i i0 v hf
    cases pGo_eq h
    have e1 : i0 = idx := by simpa using List.find?_some hf
    subst e1
    intro ls H locs hl hG
    replace hG : pG D cy b x H0 sh M H locs := hG
    exact lv_ldc2 C.1 C.2.1 C.2.2.2.1 (C.2.2.2.2.1 _ (tCsl_ok C.2.2.2.2.2.2.1 (List.mem_of_find?_eq_some hf))) hdg (k ls H locs hl hG)
  · cases h
end PSH

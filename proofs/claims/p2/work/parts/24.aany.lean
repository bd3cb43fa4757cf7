/-! any step of the abstract machine -/
section AAN
variable {T : aT} {sh0 : pSh} {ρ ρ' : Nat → Value} {pc pc' : Nat} {A A' : aL} {B B' : List aV} {w w' : aW} {L L' : pLs} {st st' : List Value} {sh sh' : pSh} {M M' : pMem} {l : List aS}
def aRowsOk (T : aT) (n nn : Nat) : Bool := (T.getD n []).all (fun r => Nat.ble r.1 nn) && ((List.range nn).all (fun j => match tyAt T n j with | some e => aDefOk e (.ref (n + 1 + j)) | none => true) && (List.range nn).all (fun j => (T.getD (n + 1 + j) []).all (fun r => aDefOk r.2 (.int 0))))
def aNewM (T : aT) (sh0 : pSh) (o idx dim pc : Nat) (A : aL) (B : List aV) (w : aW) : Option (List aS) := match B with
  | k :: n :: r => match (tCls.getD o []).find? (fun e => e.1 == idx), aIv w.1 k, aIv w.1 n with
    | some (_, ci), some (k1, k2), some (n1, n2) => if ci = 16 ∧ dim = 2 ∧ k1 = k2 ∧ n1 = n2 ∧ 0 ≤ k1 ∧ 0 ≤ n1 ∧ k1 ≤ 1000 ∧ n1 ≤ 1000 ∧ (sh0.drop w.2.2.2.2).take (n1.toNat + 1) = pRows n1.toNat k1.toNat ∧ aRowsOk T w.2.2.2.2 n1.toNat then
        aGo (pc + 4) A ((1, (w.2.2.2.2 : Int)) :: r) (w.1, w.2.1.filter (fun q => Nat.blt q.1.1 w.2.2.2.2), w.2.2.1, w.2.2.2.1, w.2.2.2.2 + (n1.toNat + 1))
      else none
    | _, _, _ => none
  | _ => none
theorem tyAt_mem {T : aT} {o k : Nat} {e : aE} (h : tyAt T o k = some e) : ∃ r ∈ T.getD o [], r.2 = e ∧ k < r.1 := by
  unfold tyAt at h
  obtain ⟨r, h1, h2⟩ := Option.map_eq_some_iff.mp h
  exact ⟨r, List.mem_of_find?_eq_some h1, h2, by simpa using List.find?_some h1⟩
theorem as_newM {o idx dim : Nat} (hG : aG T sh0 ρ (pc, A, B, w) (pc, L, st, sh, M)) (h : aNewM T sh0 o idx dim pc A B w = some l) : ∃ σ, pNewM o idx dim pc L st sh M = some (.inl σ) ∧ aNext T sh0 ρ w l σ := by
  unfold aNewM at h
  split at h
  · rename_i k n r
    split at h
    · rename_i q ci k1 k2 n1 n2 hf hk hn
      split at h
      · rename_i hc
        cases h
        obtain ⟨rfl, rfl, rfl, rfl, c1, c2, c3, c4, hsh0, hrow⟩ := hc
        obtain ⟨zk, ek, a1, a2⟩ := aIv_ok hG.2.2.2.1 hk
        obtain ⟨zn, en, b1, b2⟩ := aIv_ok hG.2.2.2.1 hn
        obtain ⟨st2, hst, hr⟩ := aStk.two hG.2.2.1 en ek
        have hst : st = .int zk :: .int zn :: st2 := hst
        subst hst
        have e1 : zk.toNatClampNeg = k1.toNat := by show zk.toInt.toNat = _; omega
        have e2 : zn.toNatClampNeg = n1.toNat := by show zn.toInt.toNat = _; omega
        have neg : ∀ {z : Int32}, 0 ≤ z.toInt → ¬ z < 0 := fun hz hlt => by
          have := Int32.lt_iff_toInt_lt.mp hlt
          have z0 : (0 : Int32).toInt = 0 := rfl
          omega
        obtain ⟨hE, hI, hO, hS, hN⟩ := hG.2.2.2
        have hS : sh = sh0.take w.2.2.2.2 := hS
        have hN : w.2.2.2.2 ≤ sh0.length := hN
        have hlen : sh.length = w.2.2.2.2 := by rw [hS, List.length_take]; omega
        unfold pNewM
        simp only [hf]
        rw [e1, e2, if_pos ⟨trivial, trivial, neg (by omega), neg (by omega), by omega, by omega⟩]
        have hl0 : 0 < w.1.length := Nat.lt_of_lt_of_le (by decide) hE.1
        unfold aRowsOk at hrow
        rw [Bool.and_eq_true, Bool.and_eq_true] at hrow
        obtain ⟨r1, r2, r3⟩ := hrow
        refine ⟨_, rfl, aNext.one (aSub.rf _ _) (Nat.le_refl _) (hG.2.1.ext (aSub.rf _ _) (Nat.le_refl _)) ((hr.ext (aSub.rf _ _) (Nat.le_refl _)).push ?_ ?_) ⟨hE, ?_, ?_, ?_, ?_⟩⟩
        · exact Nat.lt_of_lt_of_le (Nat.lt_succ_self 1) hE.1
        · rw [hlen]
          exact aRef_c _
        · intro o' k' e' g1 g2 g3 g4
          have g1 : o' < w.2.2.2.2 + (n1.toNat + 1) := g1
          show satE e' (pMnew M sh.length n1.toNat o' k')
          rw [hlen]
          by_cases ho : o' < w.2.2.2.2
          · rw [pMnew_old _ _ _ ho]
            exact hI o' k' e' ho g2 g3 g4
          · by_cases ho2 : o' = w.2.2.2.2
            · subst ho2
              rw [pMnew_0]
              obtain ⟨rg, hm, -, hlt⟩ := tyAt_mem g4
              have hle := Nat.le_of_ble_eq_true (List.all_eq_true.mp r1 rg hm)
              have h9 := List.all_eq_true.mp r2 k' (List.mem_range.mpr (by omega))
              rw [g4] at h9
              exact aDefOk_ok h9
            · obtain ⟨j, rfl⟩ : ∃ j, o' = w.2.2.2.2 + 1 + j := ⟨o' - w.2.2.2.2 - 1, by omega⟩
              rw [pMnew_row _ _ _ (by omega)]
              obtain ⟨rg, hm, he, -⟩ := tyAt_mem g4
              have h9 := List.all_eq_true.mp (List.all_eq_true.mp r3 j (List.mem_range.mpr (by omega))) rg hm
              rw [← he]
              exact aDefOk_ok h9
        · intro q hq
          obtain ⟨hq1, hq2⟩ := List.mem_filter.mp hq
          obtain ⟨g1, g2⟩ := hO q hq1
          refine ⟨g1, ?_⟩
          have hlt : q.1.1 < w.2.2.2.2 := by simpa using hq2
          show pMnew M sh.length n1.toNat q.1.1 q.1.2 = _
          rw [hlen, pMnew_old _ _ _ hlt]
          exact g2
        · show sh ++ pRows n1.toNat k1.toNat = sh0.take (w.2.2.2.2 + (n1.toNat + 1))
          rw [List.take_add, ← hsh0, ← hS]
        · show w.2.2.2.2 + (n1.toNat + 1) ≤ sh0.length
          have h9 : ((sh0.drop w.2.2.2.2).take (n1.toNat + 1)).length = (pRows n1.toNat k1.toNat).length := by rw [hsh0]
          rw [List.length_take, List.length_drop] at h9
          have h8 : (pRows n1.toNat k1.toNat).length = n1.toNat + 1 := by simp [pRows]
          omega
      · cases h
    · cases h
  · cases h
def aLdc (o idx pc : Nat) (A : aL) (B : List aV) (w : aW) : Option (List aS) := match (tCst.getD o []).find? (fun e => e.1 == idx) with
  | some (_, v) => aGo (pc + 2) A ((0, v.toInt) :: B) w
  | none => none
def aLdc2 (o idx pc : Nat) (A : aL) (B : List aV) (w : aW) : Option (List aS) := match (tCsl.getD o []).find? (fun e => e.1 == idx) with
  | some (_, v) => aNewV (2, v.toInt, v.toInt, []) (pc + 3) A B w
  | none => none
theorem as_ldc {o idx : Nat} {q9 : Option pRes} (hG : aG T sh0 ρ (pc, A, B, w) (pc, L, st, sh, M)) (h : aLdc o idx pc A B w = some l) : ∃ σ, (match (tCst.getD o []).find? (fun e => e.1 == idx) with
    | some (_, v) => pGo (pc + 2) L (.int v :: st) sh M
    | none => q9) = some (.inl σ) ∧ aNext T sh0 ρ w l σ := by
  unfold aLdc at h
  split at h
  · exact as_push hG (Nat.lt_of_lt_of_le (Nat.zero_lt_succ 1) hG.2.2.2.1.1) (by rw [aval_c hG.2.2.2.1.2.1, Int32.ofInt_toInt]) h
  · cases h
theorem as_ldc2 {o idx : Nat} (hG : aG T sh0 ρ (pc, A, B, w) (pc, L, st, sh, M)) (h : aLdc2 o idx pc A B w = some l) : ∃ σ, (match (tCsl.getD o []).find? (fun e => e.1 == idx) with
    | some (_, v) => pGo (pc + 3) L (.long v :: st) sh M
    | none => none) = some (.inl σ) ∧ aNext T sh0 ρ w l σ := by
  unfold aLdc2 at h
  split at h
  · exact as_newV hG.2.1 hG.2.2.1 hG.2.2.2 (satL (Int.le_refl _) (Int.le_refl _)) h
  · cases h
theorem pCall_none {kd o idx : Nat} (h : ((tMth.getD o []).find? (fun e => e.1 == idx)).isNone = true) : pCall kd o idx pc L st sh M = none := by
  unfold pCall
  rw [Option.isNone_iff_eq_none.mp h]
/-- one instruction that is no call of ours -/
def astep (T : aT) (sh0 : pSh) (Sa : aScr) (o : Nat) (ini : Bool) (nL : Nat) (i : Instr) (len pc : Nat) (A : aL) (B : List aV) (w : aW) : Option (List aS) := match i, len with
  | .iconst n, 1 => aGo (pc + 1) A ((0, (Int32.ofInt n).toInt) :: B) w
  | .bipush n, 2 => aGo (pc + 2) A ((0, (Int8.ofInt n).toInt32.toInt) :: B) w
  | .sipush n, 3 => aGo (pc + 3) A ((0, (Int16.ofInt n).toInt32.toInt) :: B) w
  | .lconst n, 1 => aNewV (2, (Int64.ofNat (n : Nat)).toInt, (Int64.ofNat (n : Nat)).toInt, []) (pc + 1) A B w
  | .aconst_null, 1 => aNewV (1, 1, 0, []) (pc + 1) A B w
  | .iload k, 2 => aLoadI k 2 pc A B w
  | .iload_n k, 1 => aLoadI k 1 pc A B w
  | .lload k, 2 => aLoadL k 2 pc A B w
  | .lload_n k, 1 => aLoadL k 1 pc A B w
  | .aload k, 2 => aLoadA k 2 pc A B w
  | .aload_n k, 1 => aLoadA k 1 pc A B w
  | .istore k, 2 => aStoI nL k 2 pc A B w
  | .istore_n k, 1 => aStoI nL k 1 pc A B w
  | .lstore k, 2 => aStoL nL k 2 pc A B w
  | .lstore_n k, 1 => aStoL nL k 1 pc A B w
  | .astore k, 2 => aStoA nL k 2 pc A B w
  | .astore_n k, 1 => aStoA nL k 1 pc A B w
  | .iinc k n, 3 => aIinc nL k n pc A B w
  | .iadd, 1 => aInt 0 pc A B w
  | .isub, 1 => aInt 1 pc A B w
  | .imul, 1 => aInt 2 pc A B w
  | .iand, 1 => aInt 3 pc A B w
  | .ior, 1 => aInt 4 pc A B w
  | .ishl, 1 => aInt 5 pc A B w
  | .ishr, 1 => aInt 6 pc A B w
  | .iushr, 1 => aInt 7 pc A B w
  | .idiv, 1 => aDivR 8 pc A B w
  | .irem, 1 => aDivR 9 pc A B w
  | .ineg, 1 => aIneg pc A B w
  | .ladd, 1 => aLong 0 pc A B w
  | .lsub, 1 => aLong 1 pc A B w
  | .lmul, 1 => aLong 2 pc A B w
  | .lor, 1 => aLong 3 pc A B w
  | .ldiv, 1 => aLong 4 pc A B w
  | .lneg, 1 => aLneg pc A B w
  | .lshl, 1 => aLshl pc A B w
  | .lcmp, 1 => aLcmp pc A B w
  | .i2l, 1 => aI2l pc A B w
  | .l2i, 1 => aL2i pc A B w
  | .dup, 1 => aDup pc A B w
  | .pop, 1 => aPop pc A B w
  | .dup2, 1 => aDup2 pc A B w
  | .ifCond c off, 3 => aIfC c off pc A B w
  | .if_icmp c off, 3 => aIcmp c off pc A B w
  | .goto off, 3 => aJp pc off A B w
  | .ifnull off, 3 => aNull pc (some off) none A B w
  | .ifnonnull off, 3 => aNull pc none (some off) A B w
  | .tableswitch dflt lo hi offs, _ => aTbl dflt lo hi offs pc A B w
  | .iaload, 1 => aArrLd T sh0 Sa .iaload pc A B w
  | .baload, 1 => aArrLd T sh0 Sa .baload pc A B w
  | .laload, 1 => aArrLd T sh0 Sa .laload pc A B w
  | .aaload, 1 => aArrLd T sh0 Sa .aaload pc A B w
  | .iastore, 1 => aArrSt T sh0 .iastore pc A B w
  | .bastore, 1 => aArrSt T sh0 .bastore pc A B w
  | .lastore, 1 => aArrSt T sh0 .lastore pc A B w
  | .aastore, 1 => aArrSt T sh0 .aastore pc A B w
  | .arraylength, 1 => aLen sh0 Sa pc A B w
  | .getfield idx, 3 => aGetF T sh0 o idx pc A B w
  | .putfield idx, 3 => aPutF T sh0 o ini idx pc A B w
  | .new idx, 3 => aNewO T sh0 o idx pc A B w
  | .newarray t, 2 => aNewA T sh0 t pc A B w
  | .anewarray idx, 3 => aNewR T sh0 o idx pc A B w
  | .multianewarray idx dim, 4 => aNewM T sh0 o idx dim pc A B w
  | .ldc idx, 2 => aLdc o idx pc A B w
  | .ldc2_w idx, 3 => aLdc2 o idx pc A B w
  | .invokestatic idx, 3 => if ((tMth.getD o []).find? (fun e => e.1 == idx)).isNone then aJdkS T sh0 o idx pc A B w else none
  | .invokespecial idx, 3 => if ((tMth.getD o []).find? (fun e => e.1 == idx)).isNone then aJdkI o idx pc A B w else none
  | _, _ => none
set_option maxHeartbeats 4000000 in
theorem astep_sound {Sa : aScr} {S : pScr} {o nL len : Nat} {ini : Bool} {i : Instr} (hS : aScOk Sa S w ρ) (hG : aG T sh0 ρ (pc, A, B, w) (pc, L, st, sh, M)) (h : astep T sh0 Sa o ini nL i len pc A B w = some l) : ∃ σ, pstep S o ini nL i len pc L st sh M = some (.inl σ) ∧ aNext T sh0 ρ w l σ := by
  have e0 : 0 < w.1.length := Nat.lt_of_lt_of_le (by decide) hG.2.2.2.1.1
  unfold astep at h
  split at h
  · exact as_push hG e0 (by rw [aval_c hG.2.2.2.1.2.1, Int32.ofInt_toInt]) h
  · exact as_push hG e0 (by rw [aval_c hG.2.2.2.1.2.1, Int32.ofInt_toInt]) h
  · exact as_push hG e0 (by rw [aval_c hG.2.2.2.1.2.1, Int32.ofInt_toInt]) h
  · exact as_newV hG.2.1 hG.2.2.1 hG.2.2.2 (satL (Int.le_refl _) (Int.le_refl _)) h
  · exact as_newV (e := (1, 1, 0, [])) hG.2.1 hG.2.2.1 hG.2.2.2 (Or.inl ⟨rfl, rfl⟩) h
  · exact as_loadI hG h
  · exact as_loadI hG h
  · exact as_loadL hG h
  · exact as_loadL hG h
  · exact as_loadA hG h
  · exact as_loadA hG h
  · exact as_stoI hG h
  · exact as_stoI hG h
  · exact as_stoL hG h
  · exact as_stoL hG h
  · exact as_stoA hG h
  · exact as_stoA hG h
  · exact as_iinc hG h
  · exact as_int (k := 0) (fun _ _ => rfl) hG h
  · exact as_int (k := 1) (fun _ _ => rfl) hG h
  · exact as_int (k := 2) (fun _ _ => rfl) hG h
  · exact as_int (k := 3) (fun _ _ => rfl) hG h
  · exact as_int (k := 4) (fun _ _ => rfl) hG h
  · exact as_int (k := 5) (fun _ _ => rfl) hG h
  · exact as_int (k := 6) (fun _ _ => rfl) hG h
  · exact as_int (k := 7) (fun _ _ => rfl) hG h
  · exact as_divR (k := 8) (op := fun x y => x / y) (fun _ _ => rfl) hG h
  · exact as_divR (k := 9) (op := fun x y => x - x / y * y) (fun _ _ => rfl) hG h
  · exact as_ineg hG h
  · exact as_long (k := 0) (fun _ _ => rfl) (by decide) hG h
  · exact as_long (k := 1) (fun _ _ => rfl) (by decide) hG h
  · exact as_long (k := 2) (fun _ _ => rfl) (by decide) hG h
  · exact as_long (k := 3) (fun _ _ => rfl) (by decide) hG h
  · exact as_ldiv hG h
  · exact as_lneg hG h
  · exact as_lshl hG h
  · exact as_lcmp hG h
  · exact as_i2l hG h
  · exact as_l2i hG h
  · exact as_dup hG h
  · exact as_pop hG h
  · exact as_dup2 hG h
  · exact as_ifCond hG h
  · exact as_icmp hG h
  · exact as_jp hG.2.1 hG.2.2.1 hG.2.2.2 h
  · exact as_null hG h
  · exact as_null hG h
  · exact as_tbl hG h
  · exact as_arrLd hS hG h
  · exact as_arrLd hS hG h
  · exact as_arrLd hS hG h
  · exact as_arrLd hS hG h
  · exact as_arrSt hG h
  · exact as_arrSt hG h
  · exact as_arrSt hG h
  · exact as_arrSt hG h
  · exact as_len hS hG h
  · exact as_getF hG h
  · exact as_putF hG h
  · exact as_newO hG h
  · exact as_newA hG h
  · exact as_newR hG h
  · exact as_newM hG h
  · exact as_ldc hG h
  · exact as_ldc2 hG h
  · split at h
    · rename_i hn
      unfold pstep
      simp only [pCall_none hn]
      exact as_jdkS hG h
    · cases h
  · split at h
    · rename_i hn
      unfold pstep
      simp only [pCall_none hn]
      exact as_jdkI hG h
    · cases h
  · cases h
end AAN

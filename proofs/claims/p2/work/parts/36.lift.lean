/-! reads puts its text first: what the text was before doesn't matter -/
theorem prun_step {S : pScr} {o nL n pc : Nat} {ini : Bool} {code : Nat → Option (Instr × Nat)} {call : Nat → List Value → pHp → Option (Option Value × pHp)} {L : pLs} {st : List Value} {sh : pSh} {M : pMem} {i : Instr} {len : Nat} {σ : pSt} (hc : code pc = some (i, len)) (hs : pstep S o ini nL i len pc L st sh M = some (.inl σ)) : prun S o ini nL code call (n + 1) (pc, L, st, sh, M) = prun S o ini nL code call n σ := by
  unfold prun
  rw [hc]
  simp only [hs]
  cases n <;> rfl
theorem pUp_up (M : pMem) (o k : Nat) (u v : Value) : pUp (pUp M o k u) o k v = pUp M o k v := by
  funext a j
  by_cases e : a = o ∧ j = k
  · obtain ⟨rfl, rfl⟩ := e
    rw [pUp_self, pUp_self]
  · rw [pUp_other _ _ _ _ e, pUp_other _ _ _ _ e, pUp_other _ _ _ _ e]
theorem rd_put {S : pScr} (t : Nat) (M : pMem) : pstep S 5 false 3 (.putfield 37) 3 2 [(0, .ref 56), (1, .ref t)] [.ref t, .ref 56] gSh M = some (.inl (5, [(0, .ref 56), (1, .ref t)], [], gSh, pUp M 56 7 (.ref t))) := by
  show pPutF 5 false 37 2 [(0, .ref 56), (1, .ref t)] [.ref t, .ref 56] gSh M = _
  have hf : pFindI tFld 5 37 = some (37, 5, 7) := by decide +kernel
  have hs : gSh[56]? = some (5, 12) := by decide +kernel
  have hty : pTyOf 5 7 = some (.object "ThroughPack$Text") := by decide +kernel
  unfold pPutF
  simp only [hf, hs, hty]
  rw [if_pos ⟨trivial, by decide, Or.inl (by decide +kernel)⟩, if_pos ⟨rfl, rfl⟩]
  rfl
theorem rd_three {S : pScr} {call : Nat → List Value → pHp → Option (Option Value × pHp)} (n t : Nat) (M : pMem) : prun S 5 false 3 (pCode 48) call (n + 3) (0, [(0, .ref 56), (1, .ref t)], [], gSh, M) = prun S 5 false 3 (pCode 48) call n (5, [(0, .ref 56), (1, .ref t)], [], gSh, pUp M 56 7 (.ref t)) := by
  rw [prun_step (i := .aload_n 0) (len := 1) (σ := (1, [(0, .ref 56), (1, .ref t)], [.ref 56], gSh, M)) rfl rfl, prun_step (i := .aload_n 1) (len := 1) (σ := (2, [(0, .ref 56), (1, .ref t)], [.ref t, .ref 56], gSh, M)) rfl rfl, prun_step (i := .putfield 37) (len := 3) rfl (rd_put t M)]
theorem reads_lift {τ : fT} {S : pScr} {d : Nat} {r : List (Nat × aE)} {ans : List aE} {l : List Nat} {post : fFs} {e : aE} (ht : fTau τ) (h3 : fMem l 56 = true) (hr : rowPut 7 (1, 0, 0, [36, 41, 46, 51]) 0 (τ 56) = r) (hr2 : rowAt (τ 56) 7 = some e) (he : fSubE (1, 0, 0, [36, 41, 46, 51]) e = true) (h : cnOk (tOv τ 56 r) S d 48 ([(1, 0, 0, [56]), (1, 0, 0, [36, 41, 46, 51])], ans, some l, [], post)) : cnOk τ S d 48 ([(1, 0, 0, [56]), (1, 0, 0, [36, 41, 46, 51])], ans, some l, [], post) := by
  intro vs M hvs hM hg hf
  match vs, hvs with
  | [v0, v1], ⟨k0, k1, _⟩ =>
    rcases satE1 (show Nat.beq (1, (0 : Int), (0 : Int), [56]).1 1 = true from rfl) k0 with ⟨-, hz⟩ | ⟨i0, hi0, rfl⟩
    · exact absurd (show (0 : Int) = 1 from hz) (by decide)
    rcases satE1 (show Nat.beq (1, (0 : Int), (0 : Int), [36, 41, 46, 51]).1 1 = true from rfl) k1 with ⟨-, hz⟩ | ⟨t, ht1, rfl⟩
    · exact absurd (show (0 : Int) = 1 from hz) (by decide)
    have e0 : i0 = 56 := List.mem_singleton.mp hi0
    subst e0
    obtain ⟨g1, g2⟩ := rowPut_at (k := 7) (e := (1, 0, 0, [36, 41, 46, 51])) (r := τ 56) (p := 0) (Nat.zero_le _) ⟨e, hr2⟩
    rw [hr] at g1 g2
    have hM' : tyM (tOf (tOv τ 56 r)) (pUp M 56 7 (.ref t)) := by
      intro o j e' ho he'
      rw [tyAt_row (tOv_t (by decide) ht)] at he'
      by_cases e9 : o = 56
      · subst e9
        rw [tOv_eq] at he'
        by_cases ej : j = 7
        · subst ej
          have he' : rowAt r 7 = some e' := he'
          rw [g1] at he'
          cases he'
          rw [pUp_self]
          exact Or.inr ⟨t, ht1, rfl⟩
        · have he' : rowAt r j = some e' := he'
          rw [g2 j (Nat.zero_le _) ej] at he'
          rw [pUp_other _ _ _ _ (fun z => ej z.2)]
          exact hM 56 j e' ho (by rw [tyAt_row ht]; exact he')
      · rw [tOv_ne e9] at he'
        rw [pUp_ne e9]
        exact hM o j e' ho (by rw [tyAt_row ht]; exact he')
    have hg' : gR (pUp M 56 7 (.ref t)) := gR_keep (pUp_ne (by decide)) (pUp_ne (by decide)) (fun k _ => by rw [pUp_ne (by decide)]) hg
    obtain ⟨v, hp2, F, q1, q2⟩ := h [.ref 56, .ref t] (pUp M 56 7 (.ref t)) ⟨Or.inr ⟨56, List.mem_singleton.mpr rfl, rfl⟩, Or.inr ⟨t, ht1, rfl⟩, trivial⟩ hM' hg' (fun q hq => by cases hq)
    refine ⟨v, hp2, F + 3, fun G hG => ?_, q2.1, ?_, q2.2.2.1, ?_, q2.2.2.2.2⟩
    · rw [← q1 G (by omega)]
      obtain ⟨n, rfl⟩ : ∃ n, G = n + 3 := ⟨G - 3, by omega⟩
      cases d with
      | zero => rfl
      | succ d =>
        unfold pcallG
        have e1 : prun S (pMe 48).1 (pKind.getD 48 9 == 2) (pMe 48).2.2.2.1 (pCode 48) (pcallG pCode S (n + 3) d) (n + 3) (0, lv_args 0 [.ref 56, .ref t], [], gSh, M) = prun S (pMe 48).1 (pKind.getD 48 9 == 2) (pMe 48).2.2.2.1 (pCode 48) (pcallG pCode S (n + 3) d) (n + 3) (0, lv_args 0 [.ref 56, .ref t], [], gSh, pUp M 56 7 (.ref t)) := by
          have a1 := rd_three (S := S) (call := pcallG pCode S (n + 3) d) n t M
          have a2 := rd_three (S := S) (call := pcallG pCode S (n + 3) d) n t (pUp M 56 7 (.ref t))
          rw [pUp_up] at a2
          exact a1.trans a2.symm
        rw [e1]
    · intro o j e' ho he'
      rw [tyAt_row ht] at he'
      by_cases e9 : o = 56
      · subst e9
        by_cases ej : j = 7
        · subst ej
          have he' : rowAt (τ 56) 7 = some e' := he'
          rw [hr2] at he'
          cases he'
          exact fSubE_ok he (q2.2.1 56 7 _ ho (by rw [tyAt_row (tOv_t (by decide) ht), tOv_eq]; exact g1))
        · exact q2.2.1 56 j e' ho (by rw [tyAt_row (tOv_t (by decide) ht), tOv_eq]; show rowAt r j = _; rw [g2 j (Nat.zero_le _) ej]; exact he')
      · exact q2.2.1 o j e' ho (by rw [tyAt_row (tOv_t (by decide) ht), tOv_ne e9]; exact he')
    · obtain ⟨f1, f2, f3, f4⟩ := q2.2.2.2.1
      refine ⟨fun o ho => ?_, f2.trans (pUp_ne (by decide)), f3.trans (pUp_ne (by decide)), fun k hk => (f4 k hk).trans (by rw [pUp_ne (by decide)])⟩
      have : o ≠ 56 := fun hz => ho (by rw [hz]; exact fMem_ok h3)
      exact (f1 o ho).trans (pUp_ne this)

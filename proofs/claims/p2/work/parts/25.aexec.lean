/-! bodies and calls of the abstract machine -/
section AEX
variable {T : aT} {sh0 : pSh}
def aIsRet (i : Instr) (len : Nat) : Bool := match i, len with
  | .ireturn, 1 => true
  | .lreturn, 1 => true
  | .areturn, 1 => true
  | .return_, 1 => true
  | _, _ => false
/-- a call of ours: the method, its arguments, what stays on the stack -/
def aCallOf (sh0 : pSh) (o : Nat) (i : Instr) (len : Nat) (B : List aV) (w : aW) : Option (Nat × List aV × List aV) :=
  match (match i, len with | .invokestatic idx, 3 => some (0, idx) | .invokevirtual idx, 3 => some (1, idx) | .invokespecial idx, 3 => some (2, idx) | _, _ => none) with
  | none => none
  | some (kd, idx) => match (tMth.getD o []).find? (fun e => e.1 == idx) with
    | none => none
    | some (_, m, n, nest) => if pKind.getD m 9 = kd ∧ n ≤ B.length ∧ (nest = 0 ∨ kd = 0) then
        (match kd with
        | 0 => if aCatS w.1 (B.drop n) then some (m, (B.take n).reverse, B.drop n) else none
        | _ => match B.drop n with
          | a :: r => (match aRf w.1 a with
            | some (false, ids) => if aObj sh0 w.2.2.2.2 ids (fun c _ => Nat.beq c (pMe m).1) ∧ aCatS w.1 r then some (m, a :: (B.take n).reverse, r) else none
            | _ => none)
          | [] => none)
      else none
/-- run the states of a list until each stands at a return, or where stop says -/
def aexec (T : aT) (sh0 : pSh) (Sa : aScr) (o : Nat) (ini : Bool) (nL : Nat) (code : Nat → Option (Instr × Nat)) (stop : Nat → Bool) (acall : Nat → List aV → aW → Option (List (Option aV × aW))) : Nat → List aS → List aS → Option (List aS)
  | 0, _, _ => none
  | _ + 1, [], acc => some acc
  | f + 1, (pc, A, B, w) :: wl, acc => if stop pc then aexec T sh0 Sa o ini nL code stop acall f wl ((pc, A, B, w) :: acc) else match code pc with
    | none => none
    | some (i, len) => if aIsRet i len then aexec T sh0 Sa o ini nL code stop acall f wl ((pc, A, B, w) :: acc) else match aCallOf sh0 o i len B w with
      | some (m, as, r) => match acall m as w with
        | none => none
        | some outs => aexec T sh0 Sa o ini nL code stop acall f (outs.map (fun q => (pc + 3, A, q.1.toList ++ r, q.2)) ++ wl) acc
      | none => match astep T sh0 Sa o ini nL i len pc A B w with
        | none => none
        | some l => aexec T sh0 Sa o ini nL code stop acall f (l ++ wl) acc
/-- what a call of the abstract machine must say -/
def aCallOk (T : aT) (sh0 : pSh) (Sa : aScr) (S : pScr) (d : Nat) (acall : Nat → List aV → aW → Option (List (Option aV × aW))) : Prop :=
  ∀ (m : Nat) (as : List aV) (w : aW) (outs : List (Option aV × aW)), acall m as w = some outs → m < nM → ∀ (ρ : Nat → Value) (sh : pSh) (M : pMem), aWor T sh0 w ρ sh M → aScOk Sa S w ρ → (∀ a ∈ as, a.1 < w.1.length) →
    cOk S d m (as.map (aval ρ)) (sh, M) (fun v hp => ∃ q, q ∈ outs ∧ ∃ ρ', aSub w.1.length ρ ρ' ∧ w.1.length ≤ q.2.1.length ∧ (∀ a ∈ q.1, a.1 < q.2.1.length) ∧ v = q.1.map (aval ρ') ∧ aWor T sh0 q.2 ρ' hp.1 hp.2)
theorem aScOk.ext {Sa : aScr} {S : pScr} {w w' : aW} {ρ ρ' : Nat → Value} (h : aScOk Sa S w ρ) (hs : aSub w.1.length ρ ρ') (hl : w.1.length ≤ w'.1.length) : aScOk Sa S w' ρ' := by
  unfold aScOk at *
  split
  · trivial
  · obtain ⟨xs, h1, h2, h3, h4⟩ := h
    exact ⟨xs, h1, h2, by omega, fun k hk => by rw [hs _ (by omega)]; exact h4 k hk⟩
theorem aCallOf_ok {o len : Nat} {i : Instr} {B as r : List aV} {w : aW} {m : Nat} {ρ : Nat → Value} {pc : Nat} {L : pLs} {st : List Value} {sh : pSh} {M : pMem} {S : pScr} {ini : Bool} {nL : Nat} (ho : o < 14) (h : aCallOf sh0 o i len B w = some (m, as, r)) (hB : aStk w ρ B st) (hW : aWor T sh0 w ρ sh M) :
    m < nM ∧ (∀ a ∈ as, a.1 < w.1.length) ∧ ∃ st', aStk w ρ r st' ∧ pstep S o ini nL i len pc L st sh M = some (.inr (.inr (m, as.map (aval ρ), pc + 3, L, st', sh, M))) := by
  unfold aCallOf at h
  split at h
  · cases h
  · rename_i kd idx hk
    have fin : ∀ (m : Nat) (as : List Value) (st' : List Value), pCall kd o idx pc L st sh M = some (.inr (.inr (m, as, pc + 3, L, st', sh, M))) → pstep S o ini nL i len pc L st sh M = some (.inr (.inr (m, as, pc + 3, L, st', sh, M))) := by
      intro m as st' hp
      split at hk
      · cases hk
        unfold pstep
        simp only [hp]
      · cases hk
        unfold pstep
        simp only [hp]
      · cases hk
        unfold pstep
        simp only [hp]
      · cases hk
    split at h
    · cases h
    · rename_i q0 mj n nest hf
      split at h
      · rename_i hc
        have hmem := List.mem_of_find?_eq_some hf
        have hlt : mj < nM := tMth_lt o ho _ hmem
        have hlen : n ≤ st.length := by rw [hB.2, List.length_map]; exact hc.2.1
        have hdrop : aStk w ρ (B.drop n) (st.drop n) := ⟨fun a ha => hB.1 a (List.mem_of_mem_drop ha), by rw [hB.2, List.map_drop]⟩
        have htake : (st.take n).reverse = ((B.take n).reverse).map (aval ρ) := by rw [hB.2, List.map_reverse, List.map_take]
        have htk : ∀ a ∈ (B.take n).reverse, a.1 < w.1.length := fun a ha => hB.1 a (List.mem_of_mem_take (List.mem_reverse.mp ha))
        split at h
        · split at h
          · rename_i hcat
            cases h
            refine ⟨hlt, htk, st.drop n, hdrop, fin _ _ _ ?_⟩
            unfold pCall
            rw [hf]
            show (if pKind.getD m 9 = 0 ∧ n ≤ st.length ∧ (nest = 0 ∨ (0 : Nat) = 0) then (if pCat (st.drop n) = true then some (Sum.inr (Sum.inr (m, (st.take n).reverse, pc + 3, L, st.drop n, sh, M))) else none) else none : Option pRes) = _
            rw [if_pos ⟨hc.1, hlen, hc.2.2⟩, if_pos (aCatS_ok hW.1 hdrop hcat), htake]
          · cases h
        · rename_i hk0
          split at h
          · rename_i a r9 hd9
            split at h
            · rename_i ids hq
              split at h
              · rename_i hob
                cases h
                rw [hd9] at hdrop
                rcases aRf_ok hW.1 hq with ⟨-, hn⟩ | ⟨i9, hi9, hv⟩
                · cases hn
                · obtain ⟨st2, hst, hr⟩ := aStk.top hdrop hv
                  obtain ⟨c9, m9, hs9, hp9⟩ := aObj_ok hob.1 hi9
                  have e9 : c9 = (pMe m).1 := Nat.eq_of_beq_eq_true hp9
                  refine ⟨hlt, fun b hb => ?_, st2, hr, fin _ _ _ ?_⟩
                  · rcases List.mem_cons.mp hb with rfl | hb
                    · exact hdrop.1 _ List.mem_cons_self
                    · exact htk b hb
                  · obtain ⟨k9, rfl⟩ : ∃ k, kd = k + 1 := Nat.exists_eq_succ_of_ne_zero hk0
                    unfold pCall
                    rw [hf]
                    show (if pKind.getD m 9 = k9 + 1 ∧ n ≤ st.length ∧ (nest = 0 ∨ k9 + 1 = 0) then (match st.drop n with
                        | .ref b :: r => (match sh[b]? with
                          | some (c, _) => if c = (pMe m).1 ∧ pCat r = true then some (Sum.inr (Sum.inr (m, Value.ref b :: (st.take n).reverse, pc + 3, L, r, sh, M))) else none
                          | none => none)
                        | _ => none) else none : Option pRes) = _
                    rw [if_pos ⟨hc.1, hlen, hc.2.2⟩, hst]
                    simp only
                    rw [show sh[i9]? = some (c9, m9) by rw [hW.2.2.2.1]; exact hs9]
                    simp only
                    rw [if_pos ⟨e9, aCatS_ok hW.1 hr hob.2⟩, List.map_cons, hv, htake]
              · cases h
            · cases h
          · cases h
      · cases h
theorem aIsRet_ok {S : pScr} {o nL len pc : Nat} {ini : Bool} {i : Instr} {L : pLs} {st : List Value} {sh : pSh} {M : pMem} (h : aIsRet i len = true) : pstep S o ini nL i len pc L st sh M = some (.inr (.inl ())) := by
  unfold aIsRet at h
  split at h
  · rfl
  · rfl
  · rfl
  · rfl
  · cases h
theorem aexec_sound {Sa : aScr} {S : pScr} {o nL d : Nat} {ini : Bool} {code : Nat → Option (Instr × Nat)} {stop : Nat → Bool} {acall : Nat → List aV → aW → Option (List (Option aV × aW))} (ho : o < 14) (hcall : aCallOk T sh0 Sa S d acall) :
    ∀ (f : Nat) (wl acc outs : List aS), aexec T sh0 Sa o ini nL code stop acall f wl acc = some outs → (∀ a ∈ acc, a ∈ outs) ∧
      ∀ a ∈ wl, ∀ (ρ : Nat → Value) (σ : pSt) (Post : Instr → Nat → pSt → Prop), aG T sh0 ρ a σ → aScOk Sa S a.2.2.2 ρ → (∀ a' ∈ outs, ∀ (ρ' : Nat → Value) (σ' : pSt), aSub a.2.2.2.1.length ρ ρ' → a.2.2.2.1.length ≤ a'.2.2.2.1.length → aG T sh0 ρ' a' σ' → pOk S o ini nL code d Post σ') → pOk S o ini nL code d Post σ := by
  intro f
  induction f with
  | zero => intro wl acc outs h; cases h
  | succ f ih =>
    intro wl acc outs h
    match wl with
    | [] =>
      unfold aexec at h
      cases h
      exact ⟨fun _ ha => ha, fun a ha => absurd ha List.not_mem_nil⟩
    | (pc, A, B, w) :: wl =>
      unfold aexec at h
      split at h
      · obtain ⟨h1, h2⟩ := ih _ _ _ h
        refine ⟨fun a ha => h1 a (List.mem_cons_of_mem _ ha), fun a ha ρ σ Post hG hS hout => ?_⟩
        rcases List.mem_cons.mp ha with rfl | ha
        · exact hout _ (h1 _ List.mem_cons_self) ρ σ (aSub.rf _ _) (Nat.le_refl _) hG
        · exact h2 a ha ρ σ Post hG hS hout
      · split at h
        · cases h
        · rename_i i len hcd
          split at h
          · obtain ⟨h1, h2⟩ := ih _ _ _ h
            refine ⟨fun a ha => h1 a (List.mem_cons_of_mem _ ha), fun a ha ρ σ Post hG hS hout => ?_⟩
            rcases List.mem_cons.mp ha with rfl | ha
            · exact hout _ (h1 _ List.mem_cons_self) ρ σ (aSub.rf _ _) (Nat.le_refl _) hG
            · exact h2 a ha ρ σ Post hG hS hout
          · split at h
            · rename_i m as r hco
              split at h
              · cases h
              · rename_i os hac
                obtain ⟨h1, h2⟩ := ih _ _ _ h
                refine ⟨h1, fun a ha ρ σ Post hG hS hout => ?_⟩
                rcases List.mem_cons.mp ha with rfl | ha
                · obtain ⟨pc', L, st, sh, M⟩ := σ
                  obtain ⟨hpc, hA, hB, hW⟩ := hG
                  have hpc : pc' = pc := hpc
                  subst hpc
                  obtain ⟨hm, has, st', hr, hst⟩ := aCallOf_ok (S := S) (ini := ini) (nL := nL) (pc := pc') (L := L) ho hco hB hW
                  refine ok_call hcd hst ?_
                  refine (hcall m as w os hac hm ρ sh M hW hS has).mono ?_
                  rintro v ⟨sh2, M2⟩ ⟨q, hq, ρ', g1, g2, g3, g4, g5⟩
                  have hin : (pc' + 3, A, q.1.toList ++ r, q.2) ∈ os.map (fun q => (pc' + 3, A, q.1.toList ++ r, q.2)) ++ wl := List.mem_append_left _ (List.mem_map.mpr ⟨q, hq, rfl⟩)
                  have hB2 : aStk q.2 ρ' r st' := hr.ext g1 g2
                  have hB3 : aStk q.2 ρ' (q.1.toList ++ r) (v.toList ++ st') := by
                    subst g4
                    cases hq1 : q.1 with
                    | none => exact hB2
                    | some a => exact hB2.push (g3 a (by rw [hq1]; rfl)) rfl
                  refine h2 _ hin ρ' (pc' + 3, L, v.toList ++ st', sh2, M2) Post ⟨rfl, hA.ext g1 g2, hB3, g5⟩ (hS.ext g1 g2) (fun a' ha' ρ2 σ' k1 k2 k3 => hout a' ha' ρ2 σ' (fun s hs => (k1 s (Nat.lt_of_lt_of_le hs g2)).trans (g1 s hs)) (Nat.le_trans g2 k2) k3)
                · exact h2 a (List.mem_append_right _ ha) ρ σ Post hG hS hout
            · split at h
              · cases h
              · rename_i l hl
                obtain ⟨h1, h2⟩ := ih _ _ _ h
                refine ⟨h1, fun a ha ρ σ Post hG hS hout => ?_⟩
                rcases List.mem_cons.mp ha with rfl | ha
                · obtain ⟨pc', L, st, sh, M⟩ := σ
                  have hpc : pc' = pc := hG.1
                  subst hpc
                  obtain ⟨σ1, hst, a1, ha1, ρ', g1, g2, g3⟩ := astep_sound (S := S) hS hG hl
                  refine ok_step hcd hst ?_
                  refine h2 a1 (List.mem_append_left _ ha1) ρ' σ1 Post g3 (hS.ext g1 g2) (fun a' ha' ρ2 σ' k1 k2 k3 => hout a' ha' ρ2 σ' (fun s hs => (k1 s (Nat.lt_of_lt_of_le hs g2)).trans (g1 s hs)) (Nat.le_trans g2 k2) k3)
                · exact h2 a (List.mem_append_right _ ha) ρ σ Post hG hS hout
end AEX

/-! runs of the pure machine, without their fuel -/
/-- from a state the body comes to a return with Post; calls are at most d deep -/
def pOk (S : pScr) (o : Nat) (ini : Bool) (nL : Nat) (code : Nat → Option (Instr × Nat)) (d : Nat) (Post : Instr → Nat → pSt → Prop) (σ : pSt) : Prop :=
  ∃ (i : Instr) (len : Nat) (τ : pSt) (F : Nat), (∀ n G, F ≤ n → F ≤ G → prun S o ini nL code (pcallG pCode S G d) n σ = some (i, len, τ)) ∧ Post i len τ
/-- method m on these arguments and this heap answers with Post -/
def cOk (S : pScr) (d m : Nat) (as : List Value) (hp : pHp) (Post : Option Value → pHp → Prop) : Prop :=
  ∃ (v : Option Value) (hp2 : pHp) (F : Nat), (∀ G, F ≤ G → pcallG pCode S G d m as hp = some (v, hp2)) ∧ Post v hp2
section POK
variable {S : pScr} {o nL d pc : Nat} {ini : Bool} {code : Nat → Option (Instr × Nat)} {Post : Instr → Nat → pSt → Prop} {L : pLs} {st : List Value} {sh : pSh} {M : pMem} {i : Instr} {len : Nat}
theorem ok_step {σ : pSt} (hc : code pc = some (i, len)) (hs : pstep S o ini nL i len pc L st sh M = some (.inl σ)) (h : pOk S o ini nL code d Post σ) : pOk S o ini nL code d Post (pc, L, st, sh, M) := by
  obtain ⟨i', len', τ, F, h1, h2⟩ := h
  refine ⟨i', len', τ, F + 1, fun n G hn hG => ?_, h2⟩
  obtain ⟨n', rfl⟩ : ∃ n', n = n' + 1 := ⟨n - 1, by omega⟩
  unfold prun
  rw [hc]
  simp only [hs]
  exact h1 n' G (by omega) (by omega)
theorem ok_call {mi : Nat} {as st' : List Value} {pc' : Nat} {L' : pLs} {sh' : pSh} {M' : pMem} (hc : code pc = some (i, len)) (hs : pstep S o ini nL i len pc L st sh M = some (.inr (.inr (mi, as, pc', L', st', sh', M')))) (h : cOk S d mi as (sh', M') (fun v hp => pOk S o ini nL code d Post (pc', L', v.toList ++ st', hp.1, hp.2))) : pOk S o ini nL code d Post (pc, L, st, sh, M) := by
  obtain ⟨v, ⟨sh2, M2⟩, F1, h0, i', len', τ, F, h1, h2⟩ := h
  refine ⟨i', len', τ, F + F1 + 1, fun n G hn hG => ?_, h2⟩
  obtain ⟨n', rfl⟩ : ∃ n', n = n' + 1 := ⟨n - 1, by omega⟩
  unfold prun
  rw [hc]
  simp only [hs, h0 G (by omega)]
  exact h1 n' G (by omega) (by omega)
theorem ok_ret (hc : code pc = some (i, len)) (hs : pstep S o ini nL i len pc L st sh M = some (.inr (.inl ()))) (h : Post i len (pc, L, st, sh, M)) : pOk S o ini nL code d Post (pc, L, st, sh, M) := by
  refine ⟨i, len, _, 1, fun n G hn hG => ?_, h⟩
  obtain ⟨n', rfl⟩ : ∃ n', n = n' + 1 := ⟨n - 1, by omega⟩
  unfold prun
  rw [hc]
  simp only [hs]
theorem pOk.mono {Post' : Instr → Nat → pSt → Prop} {σ : pSt} (h : pOk S o ini nL code d Post σ) (hp : ∀ i len τ, Post i len τ → Post' i len τ) : pOk S o ini nL code d Post' σ := by
  obtain ⟨i', len', τ, F, h1, h2⟩ := h
  exact ⟨i', len', τ, F, h1, hp _ _ _ h2⟩
end POK
theorem cOk.mono {S : pScr} {d m : Nat} {as : List Value} {hp : pHp} {Post Post' : Option Value → pHp → Prop} (h : cOk S d m as hp Post) (hq : ∀ v hp, Post v hp → Post' v hp) : cOk S d m as hp Post' := by
  obtain ⟨v, hp2, F, h1, h2⟩ := h
  exact ⟨v, hp2, F, h1, hq _ _ h2⟩
theorem c_of_ok {S : pScr} {d m : Nat} {as : List Value} {sh : pSh} {M : pMem} {Post : Option Value → pHp → Prop} (hl : (lg_sl as).length ≤ (pMe m).2.2.2.1)
    (h : pOk S (pMe m).1 (pKind.getD m 9 == 2) (pMe m).2.2.2.1 (pCode m) d (fun i len τ => ∃ v, pRet (pMe m).2.2.2.2 i len τ.2.2.1 = some v ∧ Post v (τ.2.2.2.1, τ.2.2.2.2)) (0, lv_args 0 as, [], sh, M)) : cOk S (d + 1) m as (sh, M) Post := by
  obtain ⟨i', len', ⟨pcr, Lr, st, sh2, M2⟩, F, h1, v, h2, h3⟩ := h
  refine ⟨v, (sh2, M2), F, fun G hG => ?_, h3⟩
  unfold pcallG
  rw [if_pos hl, h1 G G hG hG]
  show (match pRet (pMe m).2.2.2.2 i' len' st with | none => none | some v => some (v, sh2, M2)) = _
  rw [show pRet (pMe m).2.2.2.2 i' len' st = some v from h2]
theorem prun_deep {S : pScr} {o nL : Nat} {ini : Bool} {code : Nat → Option (Instr × Nat)} {c1 c2 : Nat → List Value → pHp → Option (Option Value × pHp)} (hc : ∀ m as hp r, c1 m as hp = some r → c2 m as hp = some r) : ∀ (n : Nat) (σ : pSt) (r : Instr × Nat × pSt), prun S o ini nL code c1 n σ = some r → prun S o ini nL code c2 n σ = some r := by
  intro n
  induction n with
  | zero => intro σ r h; cases h
  | succ n ih =>
    intro σ r h
    obtain ⟨pc, L, st, sh, M⟩ := σ
    unfold prun at h ⊢
    split at h
    · cases h
    · rename_i i len hcd
      split at h
      · cases h
      · rename_i σ1 hs
        exact ih σ1 r h
      · rename_i hs
        exact h
      · rename_i mi as pc' L' st' sh' M' hs
        split at h
        · cases h
        · rename_i v sh2 M2 hcl
          rw [hc _ _ _ _ hcl]
          exact ih _ r h
theorem pcallG_deep {code : Nat → Nat → Option (Instr × Nat)} (S : pScr) (G : Nat) : ∀ (d m : Nat) (as : List Value) (hp : pHp) (r : Option Value × pHp), pcallG code S G d m as hp = some r → pcallG code S G (d + 1) m as hp = some r := by
  intro d
  induction d with
  | zero => intro m as hp r h; cases h
  | succ d ih =>
    intro m as hp r h
    obtain ⟨sh, M⟩ := hp
    unfold pcallG at h ⊢
    split at h
    · rename_i hl
      rw [if_pos hl]
      split at h
      · cases h
      · rename_i i len pcr Lr st sh2 M2 hr
        rw [prun_deep (fun m as hp r h => ih m as hp r h) G _ _ hr]
        exact h
    · cases h
theorem cOk.deep1 {S : pScr} {d m : Nat} {as : List Value} {hp : pHp} {Post : Option Value → pHp → Prop} (h : cOk S d m as hp Post) : cOk S (d + 1) m as hp Post := by
  obtain ⟨v, hp2, F, h1, h2⟩ := h
  exact ⟨v, hp2, F, fun G hG => pcallG_deep S G d m as hp _ (h1 G hG), h2⟩
theorem cOk.deep {S : pScr} {d d' m : Nat} {as : List Value} {hp : pHp} {Post : Option Value → pHp → Prop} (h : cOk S d m as hp Post) (hd : d ≤ d') : cOk S d' m as hp Post := by
  induction d' with
  | zero =>
    have : d = 0 := by omega
    subst this
    exact h
  | succ d' ih =>
    by_cases e : d = d' + 1
    · subst e
      exact h
    · exact (ih (by omega)).deep1
theorem pLaw_of_ok {L d : Nat} {xs : Nat → Int32} (hd : d ≤ 1000) (h : pOk (some (L, xs)) 13 false 4 (pLook kL_law) d (fun i len τ => i = .ireturn ∧ len = 1 ∧ τ.2.2.1 = [.int 1] ∧ τ.2.2.2.1.length ≤ 600000 ∧ pSz τ.2.2.2.1 ≤ 7302250) (0, [(0, .retAddr 1)], [], [], fun _ _ => .null)) : pLaw L xs := by
  obtain ⟨i, len, ⟨pcr, Lr, st, sh, M⟩, F, h1, rfl, rfl, h2, h3, h4⟩ := h
  have h2 : st = [.int 1] := h2
  subst h2
  exact ⟨d, F, pcr, Lr, sh, M, hd, h1 F F (Nat.le_refl _) (Nat.le_refl _), h3, h4⟩

/-! steps of the abstract machine: switches, null, fields and arrays -/
section AHE
variable {T : aT} {sh0 : pSh} {ρ ρ' : Nat → Value} {pc pc' : Nat} {A A' : aL} {B B' : List aV} {w w' : aW} {L L' : pLs} {st st' : List Value} {sh sh' : pSh} {M M' : pMem} {l : List aS}
/-- one place of a switch -/
def aCase (x : aV) (lo hi : Int) (off : Option Int) (pc : Nat) (A : aL) (r : List aV) (w : aW) : Option (List aS) := match aMeet w.1 x lo hi with
  | none => some []
  | some e => match off with
    | some off => aJp pc off A r (e, w.2)
    | none => none
def aCases (x : aV) (lo : Int) (offs : Array Int) (pc : Nat) (A : aL) (r : List aV) (w : aW) : Nat → Option (List aS)
  | 0 => some []
  | n + 1 => match aCases x lo offs pc A r w n, aCase x (lo + (n : Int)) (lo + (n : Int)) offs[n]? pc A r w with
    | some l1, some l2 => some (l1 ++ l2)
    | _, _ => none
def aTbl (dflt lo hi : Int) (offs : Array Int) (pc : Nat) (A : aL) (B : List aV) (w : aW) : Option (List aS) := match B with
  | x :: r => match aIv w.1 x with
    | some (a, b) => match aCases x lo offs pc A r w (hi - lo + 1).toNat, aCase x a (lo - 1) (some dflt) pc A r w, aCase x (hi + 1) b (some dflt) pc A r w with
      | some l1, some l2, some l3 => some (l1 ++ (l2 ++ l3))
      | _, _, _ => none
    | none => none
  | _ => none
theorem aNext.sub {l2 : List aS} {σ : pSt} (h : aNext T sh0 ρ w l σ) (hs : ∀ a ∈ l, a ∈ l2) : aNext T sh0 ρ w l2 σ := by
  obtain ⟨a, h1, h2⟩ := h
  exact ⟨a, hs a h1, h2⟩
theorem as_case {x : aV} {lo hi : Int} {q : Int × Int} {off : Option Int} {z : Int32} {r : List aV} (hA : aLoc w ρ A L) (hB : aStk w ρ r st) (hW : aWor T sh0 w ρ sh M) (hq : aIv w.1 x = some q) (hz : aval ρ x = .int z) (h1 : lo ≤ z.toInt) (h2 : z.toInt ≤ hi) (h : aCase x lo hi off pc A r w = some l) : ∃ o, off = some o ∧ ∃ σ, pJp pc o L st sh M = some (.inl σ) ∧ aNext T sh0 ρ w l σ := by
  unfold aCase at h
  obtain ⟨env, m1, m2, m3⟩ := aMeet_ok hW.1 (show aIv w.1 x = some (q.1, q.2) from hq) hz h1 h2
  rw [m1] at h
  simp only at h
  split at h
  · rename_i o
    refine ⟨o, rfl, ?_⟩
    have hle : w.1.length ≤ (env, w.2).1.length := by show w.1.length ≤ env.length; omega
    obtain ⟨σ, g1, a, g2, ρ2, g3, g4, g5⟩ := as_jp (w := (env, w.2)) (hA.ext (aSub.rf _ _) hle) (hB.ext (aSub.rf _ _) hle) (aWor_env hW (aSub.rf _ _) m2 hle) h
    exact ⟨σ, g1, a, g2, ρ2, fun s hs => g3 s (Nat.lt_of_lt_of_le hs hle), Nat.le_trans hle g4, g5⟩
  · cases h
theorem as_cases {x : aV} {lo : Int} {offs : Array Int} {q : Int × Int} {z : Int32} {r : List aV} (hA : aLoc w ρ A L) (hB : aStk w ρ r st) (hW : aWor T sh0 w ρ sh M) (hq : aIv w.1 x = some q) (hz : aval ρ x = .int z) : ∀ (n : Nat) {l : List aS}, aCases x lo offs pc A r w n = some l → ∀ k : Nat, k < n → z.toInt = lo + (k : Int) → ∃ o, offs[k]? = some o ∧ ∃ σ, pJp pc o L st sh M = some (.inl σ) ∧ aNext T sh0 ρ w l σ := by
  intro n
  induction n with
  | zero => intro l _ k hk; omega
  | succ n ih =>
    intro l h k hk he
    unfold aCases at h
    split at h
    · rename_i l1 l2 h1 h2
      cases h
      by_cases hkn : k = n
      · subst hkn
        obtain ⟨o, g1, σ, g2, g3⟩ := as_case hA hB hW hq hz (by omega) (by omega) h2
        exact ⟨o, g1, σ, g2, g3.sub (fun a ha => List.mem_append_right _ ha)⟩
      · obtain ⟨o, g1, σ, g2, g3⟩ := ih h1 k (by omega) he
        exact ⟨o, g1, σ, g2, g3.sub (fun a ha => List.mem_append_left _ ha)⟩
    · cases h
theorem as_tbl {dflt lo hi : Int} {offs : Array Int} (hG : aG T sh0 ρ (pc, A, B, w) (pc, L, st, sh, M)) (h : aTbl dflt lo hi offs pc A B w = some l) : ∃ σ, pTbl dflt lo hi offs pc L st sh M = some (.inl σ) ∧ aNext T sh0 ρ w l σ := by
  unfold aTbl at h
  split at h
  · rename_i x r
    split at h
    · rename_i a b hq
      split at h
      · rename_i l1 l2 l3 h1 h2 h3
        cases h
        obtain ⟨z, hz, z1, z2⟩ := aIv_ok hG.2.2.2.1 hq
        obtain ⟨st2, hst, hr⟩ := aStk.top hG.2.2.1 hz
        have hst : st = .int z :: st2 := hst
        subst hst
        unfold pTbl
        simp only
        split
        · rename_i hout
          rcases hout with ho | ho
          · obtain ⟨o, g1, σ, g2, g3⟩ := as_case hG.2.1 hr hG.2.2.2 hq hz z1 (by omega) h2
            cases g1
            exact ⟨σ, g2, g3.sub (fun a ha => List.mem_append_right _ (List.mem_append_left _ ha))⟩
          · obtain ⟨o, g1, σ, g2, g3⟩ := as_case hG.2.1 hr hG.2.2.2 hq hz (by omega) z2 h3
            cases g1
            exact ⟨σ, g2, g3.sub (fun a ha => List.mem_append_right _ (List.mem_append_right _ ha))⟩
        · rename_i hin
          obtain ⟨o, g1, σ, g2, g3⟩ := as_cases hG.2.1 hr hG.2.2.2 hq hz _ h1 (z.toInt - lo).toNat (by omega) (by omega)
          rw [g1]
          exact ⟨σ, g2, g3.sub (fun a ha => List.mem_append_left _ ha)⟩
      · cases h
    · cases h
  · cases h
/-- null or not: the two ways -/
def aNull (pc : Nat) (onNull onRef : Option Int) (A : aL) (B : List aV) (w : aW) : Option (List aS) := match B with
  | x :: r => match aRf w.1 x with
    | some (nl, ids) =>
      let go := fun (o : Option Int) (e : List aE) => match o with
        | some off => aJp pc off A r (e, w.2)
        | none => aGo (pc + 3) A r (e, w.2)
      if x.1 = 1 then go onRef w.1 else
      match (if nl then go onNull (w.1.set x.1 (1, 1, 0, [])) else some []), go onRef (w.1.set x.1 (1, 0, 0, ids)) with
      | some l1, some l2 => some (l1 ++ l2)
      | _, _ => none
    | none => none
  | _ => none
def pNl (o : Option Int) (pc : Nat) (L : pLs) (r : List Value) (sh : pSh) (M : pMem) : Option pRes := match o with
  | some off => pJp pc off L r sh M
  | none => pGo (pc + 3) L r sh M
theorem aEnv_set {env : List aE} {s : Nat} {e : aE} (hE : aEnv env ρ) (hs : satE e (ρ s)) : aEnv (env.set s e) ρ := by
  refine ⟨by rw [List.length_set]; exact hE.1, hE.2.1, fun s' e' hs' => ?_⟩
  rw [List.getElem?_set] at hs'
  split at hs'
  · rename_i hss
    split at hs'
    · cases hs'
      subst hss
      exact hs
    · cases hs'
  · exact hE.2.2 s' e' hs'
theorem as_null {onNull onRef : Option Int} (hG : aG T sh0 ρ (pc, A, B, w) (pc, L, st, sh, M)) (h : aNull pc onNull onRef A B w = some l) : ∃ σ, (match st with
    | .ref _ :: r => pNl onRef pc L r sh M
    | .null :: r => pNl onNull pc L r sh M
    | _ => none) = some (.inl σ) ∧ aNext T sh0 ρ w l σ := by
  unfold aNull at h
  split at h
  · rename_i x r
    split at h
    · rename_i nl ids hq
      have hgo : ∀ (o : Option Int) (env : List aE) (l : List aS) (st2 : List Value), aStk w ρ r st2 → aEnv env ρ → env.length = w.1.length → (match o with | some off => aJp pc off A r (env, w.2) | none => aGo (pc + 3) A r (env, w.2)) = some l → ∃ σ, pNl o pc L st2 sh M = some (.inl σ) ∧ aNext T sh0 ρ w l σ := by
        intro o env l st2 hr hE hl h
        have hle : w.1.length ≤ (env, w.2).1.length := by show w.1.length ≤ env.length; omega
        cases o with
        | some off =>
          obtain ⟨σ, g1, a, g2, ρ2, g3, g4, g5⟩ := as_jp (w := (env, w.2)) (hG.2.1.ext (aSub.rf _ _) hle) (hr.ext (aSub.rf _ _) hle) (aWor_env hG.2.2.2 (aSub.rf _ _) hE hle) h
          exact ⟨σ, g1, a, g2, ρ2, fun s hs => g3 s (Nat.lt_of_lt_of_le hs hle), Nat.le_trans hle g4, g5⟩
        | none =>
          cases h
          exact ⟨_, rfl, aNext.one (w' := (env, w.2)) (aSub.rf _ _) hle (hG.2.1.ext (aSub.rf _ _) hle) (hr.ext (aSub.rf _ _) hle) (aWor_env hG.2.2.2 (aSub.rf _ _) hE hle)⟩
      have hv := aRf_ok hG.2.2.2.1 hq
      simp only at h
      split at h
      · rename_i hx1
        have hv1 : aval ρ x = .ref x.2.toNat := by unfold aval; rw [if_pos hx1]
        obtain ⟨st2, hst, hr⟩ := aStk.top hG.2.2.1 hv1
        have hst : st = .ref x.2.toNat :: st2 := hst
        subst hst
        exact hgo onRef w.1 l st2 hr hG.2.2.2.1 rfl h
      · rename_i hx1
        split at h
        · rename_i l1 l2 h1 h2
          cases h
          have hval : aval ρ x = ρ x.1 := by
            unfold aval
            rw [if_neg hx1]
            unfold aRf at hq
            split at hq
            · rename_i hz
              exact absurd hz hx1
            · split at hq
              · rename_i l9 u9 x9 he
                rcases hG.2.2.2.1.2.2 _ _ he with ⟨hz, -⟩ | ⟨i, -, hz⟩ <;> rw [hz]
              · cases hq
          rcases hv with ⟨hn, hnl⟩ | ⟨i, hi, hr9⟩
          · obtain ⟨st2, hst, hr⟩ := aStk.top hG.2.2.1 hn
            have hst : st = .null :: st2 := hst
            subst hst
            subst hnl
            obtain ⟨σ, g1, g2⟩ := hgo onNull _ l1 st2 hr (aEnv_set (e := (1, 1, 0, [])) hG.2.2.2.1 (Or.inl ⟨hval.symm.trans hn, rfl⟩)) (List.length_set ..) h1
            exact ⟨σ, g1, g2.sub (fun a ha => List.mem_append_left _ ha)⟩
          · obtain ⟨st2, hst, hr⟩ := aStk.top hG.2.2.1 hr9
            have hst : st = .ref i :: st2 := hst
            subst hst
            obtain ⟨σ, g1, g2⟩ := hgo onRef _ l2 st2 hr (aEnv_set (e := (1, 0, 0, ids)) hG.2.2.2.1 (Or.inr ⟨i, hi, hval.symm.trans hr9⟩)) (List.length_set ..) h2
            exact ⟨σ, g1, g2.sub (fun a ha => List.mem_append_right _ ha)⟩
        · cases h
    · cases h
  · cases h
/-- these objects are of a kind that p likes -/
def aObj (sh0 : pSh) (n : Nat) (ids : List Nat) (p : Nat → Nat → Bool) : Bool := ids.all (fun i => Nat.blt i n && match sh0[i]? with | some (k, m) => p k m | none => false)
theorem aObj_ok {n i : Nat} {ids : List Nat} {p : Nat → Nat → Bool} (h : aObj sh0 n ids p = true) (hi : i ∈ ids) : ∃ k m, (sh0.take n)[i]? = some (k, m) ∧ p k m = true := by
  have h1 := List.all_eq_true.mp h i hi
  rw [Bool.and_eq_true] at h1
  have hlt : i < n := by simpa using h1.1
  have h2 := h1.2
  split at h2
  · rename_i k m he
    exact ⟨k, m, by rw [List.getElem?_take, if_pos hlt, he], h2⟩
  · cases h2
def aGetF (T : aT) (sh0 : pSh) (o idx pc : Nat) (A : aL) (B : List aV) (w : aW) : Option (List aS) := match B with
  | a :: r => match aRf w.1 a, pFindI tFld o idx with
    | some (false, ids), some (_, ci, k) => if aObj sh0 w.2.2.2.2 ids (fun c n => Nat.beq c ci && Nat.blt k n) then match aRead T w ids k k with
        | some (v, w') => aGo (pc + 3) A (v :: r) w'
        | none => none
      else none
    | _, _ => none
  | _ => none
theorem as_getF {o idx : Nat} (hG : aG T sh0 ρ (pc, A, B, w) (pc, L, st, sh, M)) (h : aGetF T sh0 o idx pc A B w = some l) : ∃ σ, pGetF o idx pc L st sh M = some (.inl σ) ∧ aNext T sh0 ρ w l σ := by
  unfold aGetF at h
  split at h
  · rename_i a r
    split at h
    · rename_i ids q0 ci k hq hf
      split at h
      · rename_i ho
        split at h
        · rename_i v w' hr
          cases h
          rcases aRf_ok hG.2.2.2.1 hq with ⟨-, hn⟩ | ⟨i, hi, hv⟩
          · cases hn
          · obtain ⟨st2, hst, hrs⟩ := aStk.top hG.2.2.1 hv
            have hst : st = .ref i :: st2 := hst
            subst hst
            obtain ⟨c, n, hs, hp⟩ := aObj_ok ho hi
            rw [Bool.and_eq_true] at hp
            have e1 : c = ci := Nat.eq_of_beq_eq_true hp.1
            have e2 : k < n := by simpa using hp.2
            have hsh : sh = sh0.take w.2.2.2.2 := hG.2.2.2.2.2.2.1
            obtain ⟨ρ', g1, g2, g3, g4, g5, g6⟩ := aRead_ok hr hG.2.2.2 hi (Nat.le_refl k) (Nat.le_refl k)
            unfold pGetF
            simp only
            rw [hf, hsh, hs]
            simp only [if_pos (show c = ci ∧ k < n from ⟨e1, e2⟩)]
            rw [hsh] at g2
            exact ⟨_, rfl, aNext.one g1 g5 (hG.2.1.ext g1 g5) ((hrs.ext g1 g5).push g3 g4.symm) g2⟩
        · cases h
      · cases h
    · cases h
  · cases h
def aFits (ty : FieldType) (e : aE) : Bool := match ty, e with
  | .int, (0, _, _, _) => true
  | .boolean, (0, l, u, _) => decide (0 ≤ l ∧ u ≤ 1)
  | .long, (2, _, _, _) => true
  | .object _, (1, _, _, _) => true
  | .array _, (1, _, _, _) => true
  | _, _ => false
theorem i32_bit {z : Int32} (h1 : 0 ≤ z.toInt) (h2 : z.toInt ≤ 1) : z = 0 ∨ z = 1 := by
  rcases (show z.toInt = 0 ∨ z.toInt = 1 by omega) with h | h
  · exact Or.inl (Int32.toInt_inj.mp h)
  · exact Or.inr (Int32.toInt_inj.mp h)
theorem aFits_ok {ty : FieldType} {e : aE} {v : Value} (h : aFits ty e = true) (hv : satE e v) : narrow ty v = v ∧ fits ty v = true := by
  unfold aFits at h
  split at h
  · obtain ⟨z, hz, -⟩ := hv
    rw [hz]
    exact ⟨rfl, rfl⟩
  · have h := of_decide_eq_true h
    obtain ⟨z, hz, h1, h2⟩ := hv
    rw [hz]
    rcases i32_bit (z := z) (by omega) (by omega) with rfl | rfl <;> exact ⟨rfl, rfl⟩
  · obtain ⟨z, hz, -⟩ := hv
    rw [hz]
    exact ⟨rfl, rfl⟩
  · rcases hv with ⟨hz, -⟩ | ⟨i, -, hz⟩ <;> rw [hz] <;> exact ⟨rfl, rfl⟩
  · rcases hv with ⟨hz, -⟩ | ⟨i, -, hz⟩ <;> rw [hz] <;> exact ⟨rfl, rfl⟩
  · cases h
def aPutF (T : aT) (sh0 : pSh) (o : Nat) (ini : Bool) (idx pc : Nat) (A : aL) (B : List aV) (w : aW) : Option (List aS) := match B with
  | v :: a :: r => match aRf w.1 a, pFindI tFld o idx, aEnt w.1 v with
    | some (false, ids), some (_, ci, k), some ev => match pTyOf ci k with
      | some ty => if aObj sh0 w.2.2.2.2 ids (fun c n => Nat.beq c ci && Nat.blt k n) ∧ (((pCl ci).2.1 k).2.2.2 = false ∨ (ini = true ∧ ci = o)) ∧ aFits ty ev then match aWrite T w ids k k v with
          | some w' => aGo (pc + 3) A r w'
          | none => none
        else none
      | none => none
    | _, _, _ => none
  | _ => none
theorem as_putF {o idx : Nat} {ini : Bool} (hG : aG T sh0 ρ (pc, A, B, w) (pc, L, st, sh, M)) (h : aPutF T sh0 o ini idx pc A B w = some l) : ∃ σ, pPutF o ini idx pc L st sh M = some (.inl σ) ∧ aNext T sh0 ρ w l σ := by
  unfold aPutF at h
  split at h
  · rename_i v a r
    split at h
    · rename_i ids q0 ci k ev hq hf hev
      split at h
      · rename_i ty hty
        split at h
        · rename_i hc
          split at h
          · rename_i w' hw
            cases h
            rcases aRf_ok hG.2.2.2.1 hq with ⟨-, hn⟩ | ⟨i, hi, hv⟩
            · cases hn
            · obtain ⟨st1, hst1, hr1, hlv⟩ := aStk.cons hG.2.2.1
              obtain ⟨st2, hst2, hrs⟩ := aStk.top hr1 hv
              have hst : st = aval ρ v :: .ref i :: st2 := by rw [← hst2]; exact hst1
              subst hst
              obtain ⟨c, n, hs, hp⟩ := aObj_ok hc.1 hi
              rw [Bool.and_eq_true] at hp
              have e1 : c = ci := Nat.eq_of_beq_eq_true hp.1
              have e2 : k < n := by simpa using hp.2
              have hsh : sh = sh0.take w.2.2.2.2 := hG.2.2.2.2.2.2.1
              obtain ⟨g1, g2⟩ := aWrite_ok hw hG.2.2.2 hlv hi (Nat.le_refl k) (Nat.le_refl k)
              have hft := aFits_ok hc.2.2 (aEnt_ok hG.2.2.2.1 hev)
              unfold pPutF
              simp only
              rw [hf, hsh, hs]
              simp only [if_pos (show c = ci ∧ k < n ∧ (((pCl ci).2.1 k).2.2.2 = false ∨ (ini = true ∧ ci = o)) from ⟨e1, e2, hc.2.1⟩), hty, if_pos hft]
              rw [hsh] at g1
              have hle : w.1.length ≤ w'.1.length := by rw [g2]; exact Nat.le_refl _
              exact ⟨_, rfl, aNext.one (aSub.rf _ _) hle (hG.2.1.ext (aSub.rf _ _) hle) (hrs.ext (aSub.rf _ _) hle) g1⟩
          · cases h
        · cases h
      · cases h
    · cases h
  · cases h
end AHE

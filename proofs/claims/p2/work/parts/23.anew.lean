/-! steps of the abstract machine: new objects; and any step -/
section ANE
variable {T : aT} {sh0 : pSh} {ρ ρ' : Nat → Value} {pc pc' : Nat} {A A' : aL} {B B' : List aV} {w w' : aW} {L L' : pLs} {st st' : List Value} {sh sh' : pSh} {M M' : pMem} {l : List aS}
def aDefOk (e : aE) (v : Value) : Bool := match e, v with
  | (0, l, u, _), .int z => decide (l ≤ z.toInt ∧ z.toInt ≤ u)
  | (1, n, _, _), .null => decide (n = 1)
  | (1, _, _, x), .ref i => x.contains i
  | (2, l, u, _), .long z => decide (l ≤ z.toInt ∧ z.toInt ≤ u)
  | _, _ => false
theorem aDefOk_ok {e : aE} {v : Value} (h : aDefOk e v = true) : satE e v := by
  unfold aDefOk at h
  split at h
  · exact ⟨_, rfl, of_decide_eq_true h⟩
  · exact Or.inl ⟨rfl, of_decide_eq_true h⟩
  · exact Or.inr ⟨_, by simpa using h, rfl⟩
  · exact ⟨_, rfl, of_decide_eq_true h⟩
  · cases h
/-- places of a new object whose first value isn't of their type; f: the first values -/
def aBad (f : Nat → Value) : List (Nat × aE) → Nat → Nat → List Nat
  | [], _, _ => []
  | (en, e) :: r, p, c => (if Nat.beq c 1 then (if aDefOk e (f p) then [] else (List.range (en - p)).map (fun j => j + p)) else (List.range (en - p)).filterMap (fun j => if aDefOk e (f (j + p)) then none else some (j + p))) ++ aBad f r en c
theorem aBad_ok {f : Nat → Value} {c k : Nat} {e : aE} (hc : c = 1 → ∀ i j, f i = f j) : ∀ {r : List (Nat × aE)} {p : Nat}, p ≤ k → (r.find? (fun q => Nat.blt k q.1)).map (fun q => q.2) = some e → k ∈ aBad f r p c ∨ satE e (f k) := by
  intro r
  induction r with
  | nil => intro p _ h; cases h
  | cons q r ih =>
    intro p hp h
    obtain ⟨en, d⟩ := q
    unfold aBad
    by_cases hk : k < en
    · rw [List.find?_cons_of_pos (by simp; omega)] at h
      cases h
      by_cases hc1 : c = 1
      · rw [if_pos (by rw [hc1]; rfl)]
        by_cases hd : aDefOk d (f p) = true
        · right
          rw [hc hc1 k p]
          exact aDefOk_ok hd
        · left
          rw [if_neg hd]
          exact List.mem_append_left _ (List.mem_map.mpr ⟨k - p, List.mem_range.mpr (by omega), by omega⟩)
      · rw [if_neg (by simp [hc1])]
        by_cases hd : aDefOk d (f k) = true
        · exact Or.inr (aDefOk_ok hd)
        · left
          refine List.mem_append_left _ (List.mem_filterMap.mpr ⟨k - p, List.mem_range.mpr (by omega), ?_⟩)
          rw [show k - p + p = k by omega, if_neg hd]
    · rw [List.find?_cons_of_neg (by simp; omega)] at h
      rcases ih (show en ≤ k by omega) h with h2 | h2
      · exact Or.inl (List.mem_append_right _ h2)
      · exact Or.inr h2
/-- the world with one object more, of this kind and size, with these first values (c = 1: all alike) -/
def aPush (T : aT) (sh0 : pSh) (w : aW) (k m : Nat) (f : Nat → Value) (c : Nat) : Option aW := if sh0[w.2.2.2.2]? = some (k, m) then
    some (w.1, w.2.1.filter (fun q => !(Nat.beq q.1.1 w.2.2.2.2)), (aBad f (T.getD w.2.2.2.2 []) 0 c).map (fun j => (w.2.2.2.2, j)) ++ w.2.2.1, w.2.2.2.1, w.2.2.2.2 + 1) else none
theorem aPush_ok {k m c : Nat} {f : Nat → Value} (hc : c = 1 → ∀ i j, f i = f j) (hW : aWor T sh0 w ρ sh M) (h : aPush T sh0 w k m f c = some w') : sh.length = w.2.2.2.2 ∧ aWor T sh0 w' ρ (sh ++ [(k, m)]) (pNew M sh.length f) ∧ w'.1 = w.1 := by
  unfold aPush at h
  split at h
  · rename_i hs
    cases h
    obtain ⟨h1, h2, h3, h4, h5⟩ := hW
    have hlt : w.2.2.2.2 < sh0.length := (List.getElem?_eq_some_iff.mp hs).1
    have hlen : sh.length = w.2.2.2.2 := by rw [h4, List.length_take]; omega
    refine ⟨hlen, ⟨h1, ?_, ?_, ?_, hlt⟩, rfl⟩
    · intro o' k' e' g1 g2 g3 g4
      have g1 : o' < w.2.2.2.2 + 1 := g1
      have g3 : (o', k') ∉ (aBad f (T.getD w.2.2.2.2 []) 0 c).map (fun j => (w.2.2.2.2, j)) ++ w.2.2.1 := g3
      rw [hlen]
      by_cases ho : o' = w.2.2.2.2
      · subst ho
        rw [pNew_self]
        rcases aBad_ok (f := f) hc (Nat.zero_le k') g4 with hb | hb
        · exact absurd (List.mem_append_left _ (List.mem_map.mpr ⟨k', hb, rfl⟩)) g3
        · exact hb
      · rw [pNew_ne _ _ _ ho]
        exact h2 o' k' e' (by omega) g2 (fun hm => g3 (List.mem_append_right _ hm)) g4
    · intro q hq
      obtain ⟨hq1, hq2⟩ := List.mem_filter.mp hq
      obtain ⟨g1, g2⟩ := h3 q hq1
      refine ⟨g1, ?_⟩
      have hne : q.1.1 ≠ sh.length := by
        intro z
        rw [z, hlen] at hq2
        simp at hq2
      rw [pNew_ne _ _ _ hne]
      exact g2
    · show sh ++ [(k, m)] = sh0.take (w.2.2.2.2 + 1)
      rw [List.take_add_one, hs, ← h4]
      rfl
  · cases h
def aNewO (T : aT) (sh0 : pSh) (o idx pc : Nat) (A : aL) (B : List aV) (w : aW) : Option (List aS) := match (tCls.getD o []).find? (fun e => e.1 == idx) with
  | some (_, ci) => if ci < 13 then match aPush T sh0 w ci (pCl ci).2.2 (pDefF ci) 0 with
      | some w' => aGo (pc + 3) A ((1, (w.2.2.2.2 : Int)) :: B) w'
      | none => none
    else none
  | none => none
theorem aRef_c (n : Nat) : aval ρ (1, (n : Int)) = .ref n := by
  unfold aval
  rw [if_pos rfl]
  rfl
theorem as_pushed {n k m c : Nat} {f : Nat → Value} {r : List aV} (hc : c = 1 → ∀ i j, f i = f j) (hA : aLoc w ρ A L) (hB : aStk w ρ r st) (hW : aWor T sh0 w ρ sh M) (hp : aPush T sh0 w k m f c = some w') (h : aGo (pc + n) A ((1, (w.2.2.2.2 : Int)) :: r) w' = some l) : ∃ σ, pGo (pc + n) L (.ref sh.length :: st) (sh ++ [(k, m)]) (pNew M sh.length f) = some (.inl σ) ∧ aNext T sh0 ρ w l σ := by
  cases h
  obtain ⟨h1, h2, h3⟩ := aPush_ok hc hW hp
  have hle : w.1.length ≤ w'.1.length := by rw [h3]; exact Nat.le_refl _
  refine ⟨_, rfl, aNext.one (aSub.rf _ _) hle (hA.ext (aSub.rf _ _) hle) ((hB.ext (aSub.rf _ _) hle).push ?_ ?_) h2⟩
  · have := h2.1.1
    show 1 < w'.1.length
    omega
  · rw [h1]
    exact aRef_c _
theorem as_newO {o idx : Nat} (hG : aG T sh0 ρ (pc, A, B, w) (pc, L, st, sh, M)) (h : aNewO T sh0 o idx pc A B w = some l) : ∃ σ, pNewO o idx pc L st sh M = some (.inl σ) ∧ aNext T sh0 ρ w l σ := by
  unfold aNewO at h
  unfold pNewO
  split at h
  · rename_i q ci hf
    rw [hf]
    split at h
    · rename_i hci
      split at h
      · rename_i w' hp
        simp only [hci, if_true]
        exact as_pushed (fun z => by cases z) hG.2.1 hG.2.2.1 hG.2.2.2 hp h
      · cases h
    · cases h
  · cases h
def aNewA (T : aT) (sh0 : pSh) (t : ArrayType) (pc : Nat) (A : aL) (B : List aV) (w : aW) : Option (List aS) := match B with
  | n :: r => match pArrK t, aIv w.1 n with
    | some (k, v), some (a, b) => if a = b ∧ 0 ≤ a ∧ a ≤ 1000000 then match aPush T sh0 w k a.toNat (fun _ => v) 1 with
        | some w' => aGo (pc + 2) A ((1, (w.2.2.2.2 : Int)) :: r) w'
        | none => none
      else none
    | _, _ => none
  | _ => none
theorem as_newA {t : ArrayType} (hG : aG T sh0 ρ (pc, A, B, w) (pc, L, st, sh, M)) (h : aNewA T sh0 t pc A B w = some l) : ∃ σ, pNewA t pc L st sh M = some (.inl σ) ∧ aNext T sh0 ρ w l σ := by
  unfold aNewA at h
  split at h
  · rename_i n r
    split at h
    · rename_i k v a b hk hn
      split at h
      · rename_i hc
        split at h
        · rename_i w' hp
          obtain ⟨z, hz, z1, z2⟩ := aIv_ok hG.2.2.2.1 hn
          obtain ⟨st2, hst, hr⟩ := aStk.top hG.2.2.1 hz
          have hst : st = .int z :: st2 := hst
          subst hst
          have e : z.toNatClampNeg = a.toNat := by show z.toInt.toNat = _; omega
          have hneg : ¬ z < 0 := fun hlt => by
            have := Int32.lt_iff_toInt_lt.mp hlt
            have z0 : (0 : Int32).toInt = 0 := rfl
            omega
          unfold pNewA
          simp only [hk]
          rw [e, if_pos ⟨hneg, by omega⟩]
          exact as_pushed (fun _ _ _ => rfl) hG.2.1 hr hG.2.2.2 hp h
        · cases h
      · cases h
    · cases h
  · cases h
def aNewR (T : aT) (sh0 : pSh) (o idx pc : Nat) (A : aL) (B : List aV) (w : aW) : Option (List aS) := match B with
  | n :: r => match (tCls.getD o []).find? (fun e => e.1 == idx), aIv w.1 n with
    | some (_, ci), some (a, b) => if (ci = 7 ∨ ci = 8) ∧ a = b ∧ 0 ≤ a ∧ a ≤ 1000000 then match aPush T sh0 w (25 - ci) a.toNat (fun _ => .null) 1 with
        | some w' => aGo (pc + 3) A ((1, (w.2.2.2.2 : Int)) :: r) w'
        | none => none
      else none
    | _, _ => none
  | _ => none
theorem as_newR {o idx : Nat} (hG : aG T sh0 ρ (pc, A, B, w) (pc, L, st, sh, M)) (h : aNewR T sh0 o idx pc A B w = some l) : ∃ σ, pNewR o idx pc L st sh M = some (.inl σ) ∧ aNext T sh0 ρ w l σ := by
  unfold aNewR at h
  split at h
  · rename_i n r
    split at h
    · rename_i q ci a b hk hn
      split at h
      · rename_i hc
        split at h
        · rename_i w' hp
          obtain ⟨z, hz, z1, z2⟩ := aIv_ok hG.2.2.2.1 hn
          obtain ⟨st2, hst, hr⟩ := aStk.top hG.2.2.1 hz
          have hst : st = .int z :: st2 := hst
          subst hst
          have e : z.toNatClampNeg = a.toNat := by show z.toInt.toNat = _; omega
          have hneg : ¬ z < 0 := fun hlt => by
            have := Int32.lt_iff_toInt_lt.mp hlt
            have z0 : (0 : Int32).toInt = 0 := rfl
            omega
          unfold pNewR
          simp only [hk]
          rw [e, if_pos ⟨hc.1, hneg, by omega⟩]
          exact as_pushed (fun _ _ _ => rfl) hG.2.1 hr hG.2.2.2 hp h
        · cases h
      · cases h
    · cases h
  · cases h
end ANE

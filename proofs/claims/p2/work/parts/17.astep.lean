/-! steps of the abstract machine -/
abbrev aS : Type := Nat × aL × List aV × aW
def aG (T : aT) (sh0 : pSh) (ρ : Nat → Value) (a : aS) (σ : pSt) : Prop := σ.1 = a.1 ∧ aLoc a.2.2.2 ρ a.2.1 σ.2.1 ∧ aStk a.2.2.2 ρ a.2.2.1 σ.2.2.1 ∧ aWor T sh0 a.2.2.2 ρ σ.2.2.2.1 σ.2.2.2.2
/-- one of these is the state behind -/
def aNext (T : aT) (sh0 : pSh) (ρ : Nat → Value) (w : aW) (l : List aS) (σ : pSt) : Prop := ∃ a, a ∈ l ∧ ∃ ρ', aSub w.1.length ρ ρ' ∧ w.1.length ≤ a.2.2.2.1.length ∧ aG T sh0 ρ' a σ
def aGo (pc : Nat) (A : aL) (B : List aV) (w : aW) : Option (List aS) := some [(pc, A, B, w)]
def aLd (A : aL) (i : Nat) : Option aV := (A.find? (fun q => q.1 == i)).map (fun q => q.2)
def aNorm (env : List aE) (a : aV) : aV := match aIv env a with
  | some (l, u) => if l = u then (0, l) else a
  | none => a
def aS1 (env : List aE) (A : aL) (i : Nat) (v : aV) : aL := (i, v) :: A.filter (fun q => !(q.1 == i) && !(q.1 + 1 == i && (aLg env q.2).isSome))
def aS2 (env : List aE) (A : aL) (i : Nat) (v : aV) : aL := (i, v) :: A.filter (fun q => !(q.1 == i) && (!(q.1 == i + 1) && !(q.1 + 1 == i && (aLg env q.2).isSome)))
section AST
variable {T : aT} {sh0 : pSh} {ρ ρ' : Nat → Value} {pc pc' : Nat} {A A' : aL} {B B' : List aV} {w w' : aW} {L L' : pLs} {st st' : List Value} {sh sh' : pSh} {M M' : pMem} {l : List aS}
theorem aLoc.ext (h : aLoc w ρ A L) (hs : aSub w.1.length ρ ρ') (hl : w.1.length ≤ w'.1.length) : aLoc w' ρ' A L := fun q hq => by
  obtain ⟨h1, h2⟩ := h q hq
  exact ⟨Nat.lt_of_lt_of_le h1 hl, by rw [h2, aval_sub hs h1]⟩
theorem aStk.ext (h : aStk w ρ B st) (hs : aSub w.1.length ρ ρ') (hl : w.1.length ≤ w'.1.length) : aStk w' ρ' B st := ⟨fun a ha => Nat.lt_of_lt_of_le (h.1 a ha) hl, by
  rw [h.2]
  apply List.map_congr_left
  intro a ha
  exact (aval_sub hs (h.1 a ha)).symm⟩
theorem aStk.cons {a : aV} (h : aStk w ρ (a :: B) st) : ∃ st', st = aval ρ a :: st' ∧ aStk w ρ B st' ∧ a.1 < w.1.length := ⟨B.map (aval ρ), h.2, ⟨fun q hq => h.1 q (List.mem_cons_of_mem _ hq), rfl⟩, h.1 a List.mem_cons_self⟩
theorem aStk.push {a : aV} {v : Value} (h : aStk w ρ B st) (ha : a.1 < w.1.length) (hv : aval ρ a = v) : aStk w ρ (a :: B) (v :: st) := ⟨fun q hq => by
  rcases List.mem_cons.mp hq with rfl | hq
  · exact ha
  · exact h.1 q hq, by rw [h.2, ← hv]; rfl⟩
theorem aNext.one (hs : aSub w.1.length ρ ρ') (hl : w.1.length ≤ w'.1.length) (h1 : aLoc w' ρ' A' L') (h2 : aStk w' ρ' B' st') (h3 : aWor T sh0 w' ρ' sh' M') : aNext T sh0 ρ w [(pc', A', B', w')] (pc', L', st', sh', M') := ⟨_, List.mem_singleton.mpr rfl, ρ', hs, hl, rfl, h1, h2, h3⟩
theorem aSub.rf (n : Nat) (ρ : Nat → Value) : aSub n ρ ρ := fun _ _ => rfl
/-- a value is pushed -/
theorem as_push {n : Nat} {a : aV} {v : Value} (hG : aG T sh0 ρ (pc, A, B, w) (pc, L, st, sh, M)) (ha : a.1 < w.1.length) (hv : aval ρ a = v) (h : aGo (pc + n) A (a :: B) w = some l) : ∃ σ, pGo (pc + n) L (v :: st) sh M = some (.inl σ) ∧ aNext T sh0 ρ w l σ := by
  cases h
  exact ⟨_, rfl, aNext.one (aSub.rf _ _) (Nat.le_refl _) hG.2.1 (hG.2.2.1.push ha hv) hG.2.2.2⟩
theorem aLd_ok {i : Nat} {a : aV} (hL : aLoc w ρ A L) (h : aLd A i = some a) : a.1 < w.1.length ∧ pLd L i = some (aval ρ a) := by
  unfold aLd at h
  obtain ⟨⟨j, b⟩, h1, h2⟩ := Option.map_eq_some_iff.mp h
  have h3 := List.mem_of_find?_eq_some h1
  have h4 : j = i := by simpa using List.find?_some h1
  have h5 : b = a := h2
  subst h4
  subst h5
  exact hL _ h3
theorem aNorm_ok {a : aV} (hE : aEnv w.1 ρ) (ha : a.1 < w.1.length) : (aNorm w.1 a).1 < w.1.length ∧ aval ρ (aNorm w.1 a) = aval ρ a := by
  unfold aNorm
  split
  · rename_i lo hi hi0
    split
    · rename_i he
      subst he
      obtain ⟨z, hz, h1, h2⟩ := aIv_ok hE hi0
      refine ⟨by have := hE.1; show 0 < w.1.length; omega, ?_⟩
      rw [aval_c hE.2.1, hz, show lo = z.toInt by omega, Int32.ofInt_toInt]
    · exact ⟨ha, rfl⟩
  · exact ⟨ha, rfl⟩
def aLoadI (i n pc : Nat) (A : aL) (B : List aV) (w : aW) : Option (List aS) := match aLd A i with
  | some a => match aIv w.1 a with
    | some _ => aGo (pc + n) A (aNorm w.1 a :: B) w
    | none => none
  | none => none
theorem as_loadI {i n : Nat} (hG : aG T sh0 ρ (pc, A, B, w) (pc, L, st, sh, M)) (h : aLoadI i n pc A B w = some l) : ∃ σ, pLoadI i n pc L st sh M = some (.inl σ) ∧ aNext T sh0 ρ w l σ := by
  unfold aLoadI at h
  split at h
  · rename_i a ha
    split at h
    · rename_i q hq
      obtain ⟨h1, h2⟩ := aLd_ok hG.2.1 ha
      obtain ⟨z, hz, -⟩ := aIv_ok hG.2.2.2.1 hq
      obtain ⟨h3, h4⟩ := aNorm_ok hG.2.2.2.1 h1
      unfold pLoadI
      have h2 : pLd L i = some (.int z) := by rw [h2, hz]
      rw [h2]
      exact as_push hG h3 (h4.trans hz) h
    · cases h
  · cases h
def aLoadL (i n pc : Nat) (A : aL) (B : List aV) (w : aW) : Option (List aS) := match aLd A i with
  | some a => match aLg w.1 a with
    | some _ => aGo (pc + n) A (a :: B) w
    | none => none
  | none => none
theorem as_loadL {i n : Nat} (hG : aG T sh0 ρ (pc, A, B, w) (pc, L, st, sh, M)) (h : aLoadL i n pc A B w = some l) : ∃ σ, pLoadL i n pc L st sh M = some (.inl σ) ∧ aNext T sh0 ρ w l σ := by
  unfold aLoadL at h
  split at h
  · rename_i a ha
    split at h
    · rename_i q hq
      obtain ⟨h1, h2⟩ := aLd_ok hG.2.1 ha
      obtain ⟨z, hz, -⟩ := aLg_ok hG.2.2.2.1 hq
      unfold pLoadL
      have h2 : pLd L i = some (.long z) := by rw [h2, hz]
      rw [h2]
      exact as_push hG h1 hz h
    · cases h
  · cases h
/-- the script's own value -/
def aScrV (env : List aE) (a : aV) : Bool := match env[a.1]? with
  | some (3, _, _, _) => !(a.1 == 1)
  | _ => false
theorem aScrV_ok {a : aV} (hE : aEnv w.1 ρ) (h : aScrV w.1 a = true) : aval ρ a = .retAddr 1 := by
  unfold aScrV at h
  split at h
  · rename_i l u x he
    have hv : ρ a.1 = .retAddr 1 := hE.2.2 _ _ he
    unfold aval
    rw [if_neg (by simpa using h), hv]
  · cases h
def aLoadA (i n pc : Nat) (A : aL) (B : List aV) (w : aW) : Option (List aS) := match aLd A i with
  | some a => if aScrV w.1 a then aGo (pc + n) A (a :: B) w else match aRf w.1 a with
    | some _ => aGo (pc + n) A (a :: B) w
    | none => none
  | none => none
theorem as_loadA {i n : Nat} (hG : aG T sh0 ρ (pc, A, B, w) (pc, L, st, sh, M)) (h : aLoadA i n pc A B w = some l) : ∃ σ, pLoadA i n pc L st sh M = some (.inl σ) ∧ aNext T sh0 ρ w l σ := by
  unfold aLoadA at h
  split at h
  · rename_i a ha
    obtain ⟨h1, h2⟩ := aLd_ok hG.2.1 ha
    split at h
    · rename_i hs
      have hv := aScrV_ok hG.2.2.2.1 hs
      unfold pLoadA
      have h2 : pLd L i = some (.retAddr 1) := by rw [h2, hv]
      rw [h2]
      exact as_push hG h1 hv h
    · split at h
      · rename_i q hq
        unfold pLoadA
        rcases aRf_ok hG.2.2.2.1 (show aRf w.1 a = some (q.1, q.2) from hq) with ⟨hv, -⟩ | ⟨j, -, hv⟩
        · have h2 : pLd L i = some .null := by rw [h2, hv]
          rw [h2]
          exact as_push hG h1 hv h
        · have h2 : pLd L i = some (.ref j) := by rw [h2, hv]
          rw [h2]
          exact as_push hG h1 hv h
      · cases h
  · cases h
theorem pLd_cons (i : Nat) (v : Value) (L : pLs) : pLd ((i, v) :: L) i = some v := by
  unfold pLd
  rw [List.find?_cons_of_pos (by simp)]
  rfl
theorem pLd_cons_ne {i j : Nat} (v : Value) (L : pLs) (h : i ≠ j) : pLd ((i, v) :: L) j = pLd L j := by
  unfold pLd
  rw [List.find?_cons_of_neg (by simpa using h)]
theorem pLd_filter {p : Nat × Value → Bool} {L : pLs} {j : Nat} {v : Value} (h : pLd L j = some v) (hp : p (j, v) = true) : pLd (L.filter p) j = some v := by
  induction L with
  | nil => cases h
  | cons q L ih =>
    obtain ⟨a, u⟩ := q
    by_cases e : a = j
    · subst e
      rw [pLd_cons] at h
      cases h
      rw [List.filter_cons_of_pos hp]
      exact pLd_cons ..
    · rw [pLd_cons_ne _ _ e] at h
      by_cases hq : p (a, u) = true
      · rw [List.filter_cons_of_pos hq, pLd_cons_ne _ _ e]
        exact ih h
      · rw [List.filter_cons_of_neg hq]
        exact ih h
theorem aLg_cat {a : aV} (hE : aEnv w.1 ρ) (ha : a.1 < w.1.length) (h : aLg w.1 a = none) : (aval ρ a).category ≠ 2 := by
  by_cases h1 : a.1 = 1
  · unfold aval
    rw [if_pos h1]
    exact (by decide : (1 : Nat) ≠ 2)
  · have he := List.getElem?_eq_getElem ha
    generalize w.1[a.1] = e at he
    have hv := hE.2.2 _ _ he
    unfold aLg at h
    rw [he] at h
    unfold aval
    rw [if_neg h1]
    obtain ⟨k, lo, hi, x⟩ := e
    match k, hv, h with
    | 0, hv, _ =>
      obtain ⟨z, hz, -⟩ := hv
      rw [hz]
      exact (by decide : (1 : Nat) ≠ 2)
    | 1, hv, _ =>
      rcases hv with ⟨hz, -⟩ | ⟨i, -, hz⟩ <;> rw [hz] <;> exact (by decide : (1 : Nat) ≠ 2)
    | 2, hv, h =>
      simp only at h
      rw [if_pos h1] at h
      cases h
    | 3, hv, _ =>
      have hv : ρ a.1 = .retAddr 1 := hv
      rw [hv]
      exact (by decide : (1 : Nat) ≠ 2)
    | k + 4, hv, _ => exact absurd hv (fun z => z)
theorem aLoc.s1 {i : Nat} {a : aV} {v : Value} (hE : aEnv w.1 ρ) (h : aLoc w ρ A L) (ha : a.1 < w.1.length) (hv : aval ρ a = v) : aLoc w ρ (aS1 w.1 A i a) (pS1 L i v) := by
  intro q hq
  unfold aS1 at hq
  unfold pS1
  rcases List.mem_cons.mp hq with rfl | hq
  · exact ⟨ha, by rw [pLd_cons, hv]⟩
  · obtain ⟨hq1, hq2⟩ := List.mem_filter.mp hq
    obtain ⟨g1, g2⟩ := h q hq1
    rw [Bool.and_eq_true] at hq2
    have hne : q.1 ≠ i := by simpa using hq2.1
    refine ⟨g1, ?_⟩
    rw [pLd_cons_ne _ _ (Ne.symm hne)]
    refine pLd_filter g2 ?_
    rw [Bool.and_eq_true]
    refine ⟨hq2.1, ?_⟩
    by_cases hi : q.1 + 1 = i
    · have hl : aLg w.1 q.2 = none := by
        have := hq2.2
        simp [hi] at this
        exact this
      have hc := aLg_cat hE g1 hl
      simp [hc]
    · simp [hi]
theorem aLoc.s2 {i : Nat} {a : aV} {v : Value} (hE : aEnv w.1 ρ) (h : aLoc w ρ A L) (ha : a.1 < w.1.length) (hv : aval ρ a = v) : aLoc w ρ (aS2 w.1 A i a) (pS2 L i v) := by
  intro q hq
  unfold aS2 at hq
  unfold pS2
  rcases List.mem_cons.mp hq with rfl | hq
  · exact ⟨ha, by rw [pLd_cons, hv]⟩
  · obtain ⟨hq1, hq2⟩ := List.mem_filter.mp hq
    obtain ⟨g1, g2⟩ := h q hq1
    rw [Bool.and_eq_true, Bool.and_eq_true] at hq2
    have hne : q.1 ≠ i := by simpa using hq2.1
    refine ⟨g1, ?_⟩
    rw [pLd_cons_ne _ _ (Ne.symm hne)]
    refine pLd_filter g2 ?_
    rw [Bool.and_eq_true, Bool.and_eq_true]
    refine ⟨hq2.1, hq2.2.1, ?_⟩
    by_cases hi : q.1 + 1 = i
    · have hl : aLg w.1 q.2 = none := by
        have := hq2.2.2
        simp [hi] at this
        exact this
      have hc := aLg_cat hE g1 hl
      simp [hc]
    · simp [hi]
def aStoI (nL i n pc : Nat) (A : aL) (B : List aV) (w : aW) : Option (List aS) := match B with
  | a :: r => match aIv w.1 a with
    | some _ => if i < nL then aGo (pc + n) (aS1 w.1 A i a) r w else none
    | none => none
  | [] => none
theorem as_stoI {nL i n : Nat} (hG : aG T sh0 ρ (pc, A, B, w) (pc, L, st, sh, M)) (h : aStoI nL i n pc A B w = some l) : ∃ σ, pStoI nL i n pc L st sh M = some (.inl σ) ∧ aNext T sh0 ρ w l σ := by
  unfold aStoI at h
  split at h
  · rename_i a r
    split at h
    · rename_i q hq
      split at h
      · rename_i hi
        obtain ⟨st', hst, hr, ha⟩ := aStk.cons hG.2.2.1
        obtain ⟨z, hz, -⟩ := aIv_ok hG.2.2.2.1 hq
        have hst : st = .int z :: st' := by rw [← hz]; exact hst
        subst hst
        unfold pStoI
        simp only [hi, if_true]
        cases h
        exact ⟨_, rfl, aNext.one (aSub.rf _ _) (Nat.le_refl _) (aLoc.s1 hG.2.2.2.1 hG.2.1 ha hz) hr hG.2.2.2⟩
      · cases h
    · cases h
  · cases h
def aStoL (nL i n pc : Nat) (A : aL) (B : List aV) (w : aW) : Option (List aS) := match B with
  | a :: r => match aLg w.1 a with
    | some _ => if i + 1 < nL then aGo (pc + n) (aS2 w.1 A i a) r w else none
    | none => none
  | [] => none
theorem as_stoL {nL i n : Nat} (hG : aG T sh0 ρ (pc, A, B, w) (pc, L, st, sh, M)) (h : aStoL nL i n pc A B w = some l) : ∃ σ, pStoL nL i n pc L st sh M = some (.inl σ) ∧ aNext T sh0 ρ w l σ := by
  unfold aStoL at h
  split at h
  · rename_i a r
    split at h
    · rename_i q hq
      split at h
      · rename_i hi
        obtain ⟨st', hst, hr, ha⟩ := aStk.cons hG.2.2.1
        obtain ⟨z, hz, -⟩ := aLg_ok hG.2.2.2.1 hq
        have hst : st = .long z :: st' := by rw [← hz]; exact hst
        subst hst
        unfold pStoL
        simp only [hi, if_true]
        cases h
        exact ⟨_, rfl, aNext.one (aSub.rf _ _) (Nat.le_refl _) (aLoc.s2 hG.2.2.2.1 hG.2.1 ha hz) hr hG.2.2.2⟩
      · cases h
    · cases h
  · cases h
def aStoA (nL i n pc : Nat) (A : aL) (B : List aV) (w : aW) : Option (List aS) := match B with
  | a :: r => match aRf w.1 a with
    | some _ => if i < nL then aGo (pc + n) (aS1 w.1 A i a) r w else none
    | none => none
  | [] => none
theorem as_stoA {nL i n : Nat} (hG : aG T sh0 ρ (pc, A, B, w) (pc, L, st, sh, M)) (h : aStoA nL i n pc A B w = some l) : ∃ σ, pStoA nL i n pc L st sh M = some (.inl σ) ∧ aNext T sh0 ρ w l σ := by
  unfold aStoA at h
  split at h
  · rename_i a r
    split at h
    · rename_i q hq
      split at h
      · rename_i hi
        obtain ⟨st', hst, hr, ha⟩ := aStk.cons hG.2.2.1
        cases h
        rcases aRf_ok hG.2.2.2.1 (show aRf w.1 a = some (q.1, q.2) from hq) with ⟨hz, -⟩ | ⟨j, -, hz⟩
        · have hst : st = .null :: st' := by rw [← hz]; exact hst
          subst hst
          unfold pStoA
          simp only [hi, if_true]
          exact ⟨_, rfl, aNext.one (aSub.rf _ _) (Nat.le_refl _) (aLoc.s1 hG.2.2.2.1 hG.2.1 ha hz) hr hG.2.2.2⟩
        · have hst : st = .ref j :: st' := by rw [← hz]; exact hst
          subst hst
          unfold pStoA
          simp only [hi, if_true]
          exact ⟨_, rfl, aNext.one (aSub.rf _ _) (Nat.le_refl _) (aLoc.s1 hG.2.2.2.1 hG.2.1 ha hz) hr hG.2.2.2⟩
      · cases h
    · cases h
  · cases h
def aIinc (nL i : Nat) (n : Int) (pc : Nat) (A : aL) (B : List aV) (w : aW) : Option (List aS) := match aLd A i with
  | some a => match aBin w.1 0 a (0, (Int32.ofInt n).toInt) with
    | some (env, v) => if i < nL then aGo (pc + 3) (aS1 env A i v) B (env, w.2) else none
    | none => none
  | none => none
theorem as_iinc {nL i : Nat} {n : Int} (hG : aG T sh0 ρ (pc, A, B, w) (pc, L, st, sh, M)) (h : aIinc nL i n pc A B w = some l) : ∃ σ, (match pLd L i with
    | some (.int x) => if i < nL then pGo (pc + 3) (pS1 L i (.int (x + Int32.ofInt n))) st sh M else none
    | _ => none) = some (.inl σ) ∧ aNext T sh0 ρ w l σ := by
  unfold aIinc at h
  split at h
  · rename_i a ha
    split at h
    · rename_i env v hb
      split at h
      · rename_i hi
        cases h
        obtain ⟨zx, zy, ρ', h1, h2, h3, h4, h5, h6, h7⟩ := aBin_ok hG.2.2.2.1 hb
        obtain ⟨g1, g2⟩ := aLd_ok hG.2.1 ha
        have h2 : Value.int (Int32.ofInt (Int32.ofInt n).toInt) = .int zy := by rw [← h2, aval_c hG.2.2.2.1.2.1]
        rw [Int32.ofInt_toInt] at h2
        have h2 := Value.int.inj h2
        rw [h1] at g2
        rw [g2]
        simp only [hi, if_true]
        have hW' := aWor_env hG.2.2.2 h3 h4 h7
        refine ⟨_, rfl, aNext.one (w' := (env, w.2)) h3 h7 (aLoc.s1 (w := (env, w.2)) h4 (hG.2.1.ext h3 h7) h5 ?_) (hG.2.2.1.ext h3 h7) hW'⟩
        rw [h6, ← h2]
        rfl
      · cases h
    · cases h
  · cases h
/-- two numbers make one -/
def aInt (k pc : Nat) (A : aL) (B : List aV) (w : aW) : Option (List aS) := match B with
  | y :: x :: r => match aBin w.1 k x y with
    | some (env, v) => aGo (pc + 1) A (v :: r) (env, w.2)
    | none => none
  | _ => none
theorem as_int {k : Nat} {op : Int32 → Int32 → Int32} (hop : ∀ x y, op x y = opF k x y) (hG : aG T sh0 ρ (pc, A, B, w) (pc, L, st, sh, M)) (h : aInt k pc A B w = some l) : ∃ σ, pInt op pc L st sh M = some (.inl σ) ∧ aNext T sh0 ρ w l σ := by
  unfold aInt at h
  split at h
  · rename_i y x r
    split at h
    · rename_i env v hb
      cases h
      obtain ⟨zx, zy, ρ', h1, h2, h3, h4, h5, h6, h7⟩ := aBin_ok hG.2.2.2.1 hb
      obtain ⟨st1, hst, hr1, ha1⟩ := aStk.cons hG.2.2.1
      obtain ⟨st2, hst2, hr2, ha2⟩ := aStk.cons hr1
      have hst : st = .int zy :: .int zx :: st2 := by rw [← h1, ← h2, ← hst2]; exact hst
      subst hst
      unfold pInt
      simp only
      refine ⟨_, rfl, aNext.one (w' := (env, w.2)) h3 h7 (hG.2.1.ext h3 h7) ((hr2.ext h3 h7).push h5 ?_) (aWor_env hG.2.2.2 h3 h4 h7)⟩
      rw [h6, hop]
    · cases h
  · cases h
end AST

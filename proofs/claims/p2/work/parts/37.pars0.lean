/-! the reference's reader by hand: what holds while it reads -/
theorem ty_nat {hi : Int} {x : List Nat} {v : Value} (h : satE (0, 0, hi, x) v) : ∃ n : Nat, (n : Int) ≤ hi ∧ v = .int (nI n) := by
  obtain ⟨z, rfl, z1, z2⟩ := h
  obtain ⟨n, -, h2, h3⟩ := i32_nat (x := z) z1
  have z2 : z.toInt ≤ hi := z2
  exact ⟨n, by omega, by rw [h2]⟩
theorem ty_int {lo hi : Int} {x : List Nat} {v : Value} (h : satE (0, lo, hi, x) v) : ∃ z : Int32, v = .int z ∧ lo ≤ z.toInt ∧ z.toInt ≤ hi := h
theorem ty_ref {i : Nat} {v : Value} (h : satE (1, 0, 0, [i]) v) : v = .ref i := by
  rcases satE1 (show Nat.beq (1, (0 : Int), (0 : Int), [i]).1 1 = true from rfl) h with ⟨-, hz⟩ | ⟨j, hj, rfl⟩
  · exact absurd (show (0 : Int) = 1 from hz) (by decide)
  · rw [List.mem_singleton.mp hj]
theorem sat_n {n : Nat} {hi : Int} {x : List Nat} (h : n < 2147483648) (h2 : (n : Int) ≤ hi) : satE (0, 0, hi, x) (.int (nI n)) := ⟨nI n, rfl, by show (0 : Int) ≤ (nI n).toInt; rw [hI_int h]; omega, by show (nI n).toInt ≤ hi; rw [hI_int h]; exact h2⟩
abbrev eA : aE := (0, Int.negSucc 2147483647, Int.ofNat 2147483647, [])
theorem sat_a (z : Int32) : satE eA (.int z) := satIany z
/-- kinds of the places that the reader uses -/
def pTL : List ((Nat × Nat) × aE) := [((185, 3), (1, 0, 0, [186])), ((185, 5), (1, 0, 0, [188])), ((185, 6), (1, 0, 0, [189])), ((185, 7), (0, 0, 300, [])), ((185, 8), eA), ((185, 9), eA), ((185, 10), (0, 0, 300, [])), ((185, 11), (0, 0, 300, [])), ((185, 12), eA), ((185, 13), (0, 0, 1000000, [])), ((185, 15), (0, 0, 2400, [])), ((185, 17), (0, 0, 300, [])), ((185, 19), (1, 0, 0, [190])), ((185, 20), (0, 0, 160, [])), ((185, 21), eA), ((185, 22), (0, 0, 1, [])), ((185, 23), eA), ((185, 24), eA), ((186, 2), (0, 0, 4, []))]
abbrev eL : aE := (2, Int.negSucc 9223372036854775807, Int.ofNat 9223372036854775807, [])
def pT (τ : fT) : Prop := fTau τ ∧ (∀ q ∈ pTL, rowAt (τ q.1.1) q.1.2 = some q.2) ∧ rowAt (τ 185) 14 = some eL ∧ τ 188 = [(3200, eA)] ∧ τ 189 = [(300, (0, 0, 255, []))] ∧ τ 190 = [(160, eA)]
section PTY
variable {τ : fT} {M : pMem}
theorem pty (hT : pT τ) (hM : tyM (tOf τ) M) (i : Nat) {o k : Nat} {e : aE} (h : pTL[i]? = some ((o, k), e)) (ho : Nat.ble (o + 1) 205 = true) : satE e (M o k) := hM o k e (Nat.le_of_ble_eq_true ho) (by rw [tyAt_row hT.1]; exact hT.2.1 _ (List.mem_of_getElem? h))
theorem ptu (hT : pT τ) (hM : tyM (tOf τ) M) (i : Nat) {o k : Nat} {e : aE} {v : Value} (h : pTL[i]? = some ((o, k), e)) (hv : satE e v) : tyM (tOf τ) (pUp M o k v) := tyM_up hM (by rw [tyAt_row hT.1]; exact hT.2.1 _ (List.mem_of_getElem? h)) hv
theorem row1_at {n k : Nat} {e : aE} (h : k < n) : rowAt [(n, e)] k = some e := rowAt_p h
theorem pt188 (hT : pT τ) (hM : tyM (tOf τ) M) {k : Nat} (h : k < 3200) : ∃ z, M 188 k = .int z := by
  obtain ⟨z, h1, -⟩ := ty_int (hM 188 k eA (by decide) (by rw [tyAt_row hT.1]; show rowAt (τ 188) k = _; rw [hT.2.2.2.1]; exact row1_at h))
  exact ⟨z, h1⟩
theorem pt189 (hT : pT τ) (hM : tyM (tOf τ) M) {k : Nat} (h : k < 300) : ∃ n : Nat, n ≤ 255 ∧ M 189 k = .int (nI n) := by
  obtain ⟨n, h1, h2⟩ := ty_nat (hM 189 k (0, 0, 255, []) (by decide) (by rw [tyAt_row hT.1]; show rowAt (τ 189) k = _; rw [hT.2.2.2.2.1]; exact row1_at h))
  exact ⟨n, by omega, h2⟩
theorem pt190 (hT : pT τ) (hM : tyM (tOf τ) M) {k : Nat} (h : k < 160) : ∃ z, M 190 k = .int z := by
  obtain ⟨z, h1, -⟩ := ty_int (hM 190 k eA (by decide) (by rw [tyAt_row hT.1]; show rowAt (τ 190) k = _; rw [hT.2.2.2.2.2]; exact row1_at h))
  exact ⟨z, h1⟩
theorem pu188 (hT : pT τ) (hM : tyM (tOf τ) M) {k : Nat} (z : Int32) : tyM (tOf τ) (pUp M 188 k (.int z)) := by
  by_cases h : k < 3200
  · exact tyM_up hM (e := eA) (by rw [tyAt_row hT.1]; show rowAt (τ 188) k = _; rw [hT.2.2.2.1]; exact row1_at h) (sat_a z)
  · intro o' k' e' ho he
    by_cases e9 : o' = 188 ∧ k' = k
    · obtain ⟨rfl, rfl⟩ := e9
      rw [tyAt_row hT.1] at he
      have he : rowAt (τ 188) k' = some e' := he
      rw [hT.2.2.2.1, rowAt_n h] at he
      cases he
    · rw [pUp_other _ _ _ _ e9]
      exact hM o' k' e' ho he
theorem pu190 (hT : pT τ) (hM : tyM (tOf τ) M) {k : Nat} (z : Int32) : tyM (tOf τ) (pUp M 190 k (.int z)) := by
  by_cases h : k < 160
  · exact tyM_up hM (e := eA) (by rw [tyAt_row hT.1]; show rowAt (τ 190) k = _; rw [hT.2.2.2.2.2]; exact row1_at h) (sat_a z)
  · intro o' k' e' ho he
    by_cases e9 : o' = 190 ∧ k' = k
    · obtain ⟨rfl, rfl⟩ := e9
      rw [tyAt_row hT.1] at he
      have he : rowAt (τ 190) k' = some e' := he
      rw [hT.2.2.2.2.2, rowAt_n h] at he
      cases he
    · rw [pUp_other _ _ _ _ e9]
      exact hM o' k' e' ho he
end PTY
theorem code_app {t t' : Nat → Value} {c i j : Nat} {d d1 d2 : Nat × Nat} {o v : Int32} (h : codeOk t c i j d d1) (hij : i ≤ j) (hk : ∀ k, c ≤ k → k < c + 2 * j → t' k = t k) (ho : t' (c + 2 * j) = .int o) (hv : t' (c + 2 * j + 1) = .int v) (hop : opOk o.toInt v.toInt d1 d2) : codeOk t' c i (j + 1) d d2 := by
  obtain ⟨D, h1, h2, h3⟩ := h
  refine ⟨fun k => if k ≤ j then D k else d2, by show (if i ≤ j then _ else _) = _; rw [if_pos hij, h1], by show (if j + 1 ≤ j then _ else _) = _; rw [if_neg (by omega)], fun k hk1 hk2 => ?_⟩
  by_cases e : k = j
  · subst e
    refine ⟨⟨o, ho⟩, ⟨v, hv⟩, ?_⟩
    rw [ho, hv]
    show opOk o.toInt v.toInt (if k ≤ k then _ else _) (if k + 1 ≤ k then _ else _)
    rw [if_pos (Nat.le_refl _), if_neg (by omega), h2]
    exact hop
  · obtain ⟨g1, g2, g3⟩ := h3 k hk1 (by omega)
    rw [hk (c + 2 * k) (by omega) (by omega), hk (c + 2 * k + 1) (by omega) (by omega)]
    refine ⟨g1, g2, ?_⟩
    show opOk _ _ (if k ≤ j then _ else _) (if k + 1 ≤ j then _ else _)
    rw [if_pos (by omega), if_pos (by omega)]
    exact g3
theorem code_keep {t t' : Nat → Value} {c i j : Nat} {d d1 : Nat × Nat} (h : codeOk t c i j d d1) (hk : ∀ k, c ≤ k → k < c + 2 * j → t' k = t k) : codeOk t' c i j d d1 := by
  obtain ⟨D, h1, h2, h3⟩ := h
  refine ⟨D, h1, h2, fun k hk1 hk2 => ?_⟩
  rw [hk (c + 2 * k) (by omega) (by omega), hk (c + 2 * k + 1) (by omega) (by omega)]
  exact h3 k hk1 hk2
theorem code_nil {t : Nat → Value} {c i : Nat} {d : Nat × Nat} : codeOk t c i i d d := ⟨fun _ => d, rfl, rfl, fun k h1 h2 => by omega⟩
theorem textOk_ext {t t' : Nat → Value} {s : Nat} (hk : ∀ k, 800 * s ≤ k → k < 800 * s + 800 → t' k = t k) (h : textOk t s) : textOk t' s := by
  obtain ⟨n, h1, h2, h3⟩ := h
  refine ⟨n, h1, by rw [hk _ (by omega) (by omega)]; exact h2, fun c hc => ?_⟩
  obtain ⟨i, j, d, g1, g2, g3, g4, g5⟩ := h3 c hc
  exact ⟨i, j, d, by rw [hk _ (by omega) (by omega)]; exact g1, by rw [hk _ (by omega) (by omega)]; exact g2, g3, g4, code_keep g5 (fun k k1 k2 => hk k (by omega) (by omega))⟩
def clW (t : Nat → Value) (s c w : Nat) : Prop := ∃ (i j : Nat) (d : Nat × Nat), t (800 * s + 1 + 4 * c + 2) = .int (nI i) ∧ t (800 * s + 1 + 4 * c + 3) = .int (nI j) ∧ i ≤ j ∧ j ≤ w ∧ codeOk t (800 * s + 60) i j (0, 0) d
/-- of the text that is read, n clauses stand, with w steps; the other texts stand -/
def TI (s n w : Nat) (M : pMem) : Prop := n ≤ 12 ∧ w ≤ 300 ∧ M 188 (800 * s) = .int (nI n) ∧ (∀ c, c < n → clW (M 188) s c w) ∧ ∀ s', s' < 4 → s' ≠ s → textOk (M 188) s'
theorem TI_ext {s n w w' : Nat} {M M' : pMem} (h : TI s n w M) (hw : w ≤ w') (hw' : w' ≤ 300) (hk : ∀ k, (k < 800 * s + 1 + 4 * n ∨ (800 * s + 60 ≤ k ∧ k < 800 * s + 60 + 2 * w) ∨ 800 * s + 800 ≤ k) → M' 188 k = M 188 k) : TI s n w' M' := by
  obtain ⟨h1, h2, h3, h4, h5⟩ := h
  refine ⟨h1, hw', by rw [hk _ (Or.inl (by omega))]; exact h3, fun c hc => ?_, fun s' a1 a2 => textOk_ext (fun k k1 k2 => hk k ?_) (h5 s' a1 a2)⟩
  · obtain ⟨i, j, d, g1, g2, g3, g4, g5⟩ := h4 c hc
    exact ⟨i, j, d, by rw [hk _ (Or.inl (by omega))]; exact g1, by rw [hk _ (Or.inl (by omega))]; exact g2, g3, by omega, code_keep g5 (fun k k1 k2 => hk k (Or.inr (Or.inl ⟨k1, by omega⟩)))⟩
  · by_cases e : s' < s
    · exact Or.inl (by omega)
    · exact Or.inr (Or.inr (by omega))
theorem TI_text {s n w : Nat} {M : pMem} (h : TI s n w M) : ∀ s', s' < 4 → textOk (M 188) s' := by
  intro s' hs
  by_cases e : s' = s
  · subst e
    refine ⟨n, h.1, h.2.2.1, fun c hc => ?_⟩
    obtain ⟨i, j, d, g1, g2, g3, g4, g5⟩ := h.2.2.2.1 c hc
    exact ⟨i, j, d, g1, g2, g3, Nat.le_trans g4 h.2.1, g5⟩
  · exact h.2.2.2.2 s' hs e
/-- the pile, its top first -/
def pil (M : pMem) : List Nat → Prop
  | [] => True
  | p :: t => M 190 t.length = .int (nI p) ∧ pil M t
theorem pil_ext {M M' : pMem} : ∀ {ps : List Nat}, pil M ps → (∀ k, k < ps.length → M' 190 k = M 190 k) → pil M' ps
  | [], _, _ => trivial
  | p :: t, h, hk => ⟨by rw [hk t.length (by show t.length < t.length + 1; omega)]; exact h.1, pil_ext h.2 (fun k hk1 => hk k (by show k < t.length + 1; omega))⟩
def isB (p : Nat) : Prop := 3 ≤ p ∧ p ≤ 6
def nBin : List Nat → Nat
  | [] => 0
  | p :: t => (if 3 ≤ p ∧ p ≤ 6 then 1 else 0) + nBin t
def nNon : List Nat → Nat
  | [] => 0
  | p :: t => (if 3 ≤ p ∧ p ≤ 6 then 0 else 1) + nNon t
def nPar : List Nat → Nat
  | [] => 0
  | p :: t => (if p = 40 then 0 else 1) + nPar t
/-- what lies on the pile: minus, the four signs, an open one; of two signs side by side the lower binds less -/
def pOkk : List Nat → Prop
  | [] => True
  | p :: t => (2 ≤ p ∧ p ≤ 6 ∨ p = 40) ∧ (∀ q r, t = q :: r → (3 ≤ p ∧ p ≤ 6) → (3 ≤ q ∧ q ≤ 6) → q ≤ 4 ∧ 5 ≤ p) ∧ pOkk t
theorem pOkk_len : ∀ {ps : List Nat}, pOkk ps → ps.length ≤ 3 * nNon ps + 2 ∧ (∀ p t, ps = p :: t → (¬ (3 ≤ p ∧ p ≤ 6) → ps.length ≤ 3 * nNon ps) ∧ (p ≤ 4 → ps.length ≤ 3 * nNon ps + 1))
  | [], _ => ⟨by simp [nNon], fun p t h => by cases h⟩
  | p :: t, ⟨h1, h2, h3⟩ => by
    obtain ⟨g1, g2⟩ := pOkk_len h3
    by_cases hb : 3 ≤ p ∧ p ≤ 6
    · have e1 : nNon (p :: t) = nNon t := by show (if 3 ≤ p ∧ p ≤ 6 then 0 else 1) + nNon t = _; rw [if_pos hb]; omega
      have e2 : (p :: t).length = t.length + 1 := rfl
      have key : t.length ≤ 3 * nNon t + (if p ≤ 4 then 0 else 1) := by
        cases t with
        | nil => simp
        | cons q r =>
          have g3 := g2 q r rfl
          by_cases hq : 3 ≤ q ∧ q ≤ 6
          · have := h2 q r rfl hb hq
            rw [if_neg (by omega)]
            exact g3.2 this.1
          · have := g3.1 hq
            split <;> omega
      refine ⟨by rw [e1, e2]; split at key <;> omega, fun p' t' h => ?_⟩
      cases h
      refine ⟨fun hz => absurd hb hz, fun hz => ?_⟩
      rw [if_pos hz] at key
      rw [e1, e2]
      omega
    · have e1 : nNon (p :: t) = 1 + nNon t := by show (if 3 ≤ p ∧ p ≤ 6 then 0 else 1) + nNon t = _; rw [if_neg hb]
      have e2 : (p :: t).length = t.length + 1 := rfl
      refine ⟨by rw [e1, e2]; omega, fun p' t' h => ?_⟩
      cases h
      exact ⟨fun _ => by rw [e1, e2]; omega, fun _ => by rw [e1, e2]; omega⟩

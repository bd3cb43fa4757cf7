/-! kinds that hold more -/
/-- rows of kinds: the first holds less -/
noncomputable def fRowLe (f : Nat) (r r' : List (Nat × aE)) : Bool := @Nat.rec (fun _ => List (Nat × aE) → List (Nat × aE) → Bool) (fun _ _ => false) (fun _ ih r r' => @List.rec (Nat × aE) (fun _ => Bool) (fEmp r') (fun q t _ => @List.rec (Nat × aE) (fun _ => Bool) false (fun q' t' _ => bI (fSubE q.2 q'.2) (bI (Nat.beq q.1 q'.1) (ih t t') (bI (Nat.ble q.1 q'.1) (ih t (q' :: t')) (ih (q :: t) t'))) false) r') r) f r r'
theorem fRowLe_ok {f : Nat} : ∀ {r r' : List (Nat × aE)}, fRowLe f r r' = true → ∀ {k : Nat} {e' : aE}, (r'.find? (fun q => Nat.blt k q.1)).map (fun q => q.2) = some e' → ∃ e, (r.find? (fun q => Nat.blt k q.1)).map (fun q => q.2) = some e ∧ fSubE e e' = true := by
  induction f with
  | zero => intro r r' h; cases h
  | succ f ih =>
    intro r r' h k e' he
    cases r with
    | nil =>
      rw [fEmp_ok (show fEmp r' = true from h)] at he
      cases he
    | cons q t =>
      cases r' with
      | nil => cases h
      | cons q' t' =>
        obtain ⟨h1, h2⟩ := bI_and (show bI (fSubE q.2 q'.2) (bI (Nat.beq q.1 q'.1) (fRowLe f t t') (bI (Nat.ble q.1 q'.1) (fRowLe f t (q' :: t')) (fRowLe f (q :: t) t'))) false = true from h)
        have blt : ∀ (a b : Nat), Nat.blt a b = true ↔ a < b := fun a b => ⟨fun hz => Nat.le_of_ble_eq_true hz, fun hz => Nat.ble_eq_true_of_le hz⟩
        have fp : ∀ (q : Nat × aE) (t : List (Nat × aE)), k < q.1 → List.find? (fun q => Nat.blt k q.1) (q :: t) = some q := fun q t hz => List.find?_cons_of_pos (p := fun q : Nat × aE => Nat.blt k q.1) ((blt _ _).mpr hz)
        have fn : ∀ (q : Nat × aE) (t : List (Nat × aE)), ¬ Nat.blt k q.1 = true → List.find? (fun q => Nat.blt k q.1) (q :: t) = List.find? (fun q => Nat.blt k q.1) t := fun q t hz => List.find?_cons_of_neg (p := fun q : Nat × aE => Nat.blt k q.1) hz
        by_cases c1 : k < q.1
        · by_cases c2 : k < q'.1
          · refine ⟨q.2, by rw [fp _ _ c1]; rfl, ?_⟩
            rw [fp _ _ c2] at he
            cases he
            exact h1
          · have c2' : ¬ Nat.blt k q'.1 = true := fun hz => c2 ((blt _ _).mp hz)
            rw [fn _ _ c2'] at he
            rcases bI_if h2 with ⟨g1, g2⟩ | ⟨g1, g2⟩
            · have := Nat.eq_of_beq_eq_true g1
              omega
            · rcases bI_if g2 with ⟨g3, g4⟩ | ⟨g3, g4⟩
              · have := Nat.le_of_ble_eq_true g3
                omega
              · exact ih g4 he
        · have c1' : ¬ Nat.blt k q.1 = true := fun hz => c1 ((blt _ _).mp hz)
          rw [fn _ _ c1']
          rcases bI_if h2 with ⟨g1, g2⟩ | ⟨g1, g2⟩
          · have e1 := Nat.eq_of_beq_eq_true g1
            have c2' : ¬ Nat.blt k q'.1 = true := fun hz => c1 (by rw [e1]; exact (blt _ _).mp hz)
            rw [fn _ _ c2'] at he
            exact ih g2 he
          · rcases bI_if g2 with ⟨g3, g4⟩ | ⟨g3, g4⟩
            · exact ih g4 he
            · have c2' : ¬ Nat.blt k q'.1 = true := fun hz => by
                have := (blt _ _).mp hz
                have g3 : ¬ q.1 ≤ q'.1 := fun hz => by
                  rw [Nat.ble_eq_true_of_le hz] at g3
                  cases g3
                omega
              rw [fn _ _ c2'] at he
              obtain ⟨e, k1, k2⟩ := ih g4 he
              rw [fn _ _ c1'] at k1
              exact ⟨e, k1, k2⟩
/-- the kinds of one object are others -/
noncomputable def tOv (τ : fT) (i : Nat) (r : List (Nat × aE)) : fT := fun j => @Bool.rec (fun _ => List (Nat × aE)) (τ j) r (Nat.beq j i)
theorem tOv_eq {τ : fT} {i : Nat} {r : List (Nat × aE)} : tOv τ i r i = r := by
  show @Bool.rec (fun _ => List (Nat × aE)) (τ i) r (Nat.beq i i) = r
  rw [Nat.beq_refl]
theorem tOv_ne {τ : fT} {i j : Nat} {r : List (Nat × aE)} (h : j ≠ i) : tOv τ i r j = τ j := by
  show @Bool.rec (fun _ => List (Nat × aE)) (τ j) r (Nat.beq j i) = _
  cases hb : Nat.beq j i with
  | false => rfl
  | true => exact absurd (Nat.eq_of_beq_eq_true hb) h
theorem tOv_t {τ : fT} {i : Nat} {r : List (Nat × aE)} (hi : i < 205) (h : fTau τ) : fTau (tOv τ i r) := fun j hj => by
  rw [tOv_ne (by omega)]
  exact h j hj
theorem tyAt_row {τ : fT} {o k : Nat} (ht : fTau τ) : tyAt (tOf τ) o k = ((τ o).find? (fun r => Nat.blt k r.1)).map (fun r => r.2) := by
  unfold tyAt
  rw [tOf_get ht]
/-- one object's kinds are narrower -/
theorem tyM_wide {τ : fT} {i f : Nat} {r : List (Nat × aE)} {M : pMem} (ht : fTau τ) (hi : i < 205) (h : fRowLe f r (τ i) = true) (hM : tyM (tOf (tOv τ i r)) M) : tyM (tOf τ) M := by
  intro o k e ho he
  rw [tyAt_row ht] at he
  by_cases e9 : o = i
  · subst e9
    obtain ⟨e', h1, h2⟩ := fRowLe_ok h he
    refine fSubE_ok h2 (hM o k e' ho ?_)
    rw [tyAt_row (tOv_t hi ht), tOv_eq]
    exact h1
  · refine hM o k e ho ?_
    rw [tyAt_row (tOv_t hi ht), tOv_ne e9]
    exact he
/-- a contract that leaves an object alone holds with narrower kinds of it -/
theorem con_move {τ : fT} {S : pScr} {d m i f : Nat} {r : List (Nat × aE)} {c : fCn} {l : List Nat} (ht : fTau τ) (hi : Nat.ble (i + 1) 205 = true) (h : fRowLe f r (τ i) = true) (hm : c.2.2.1 = some l) (hl : fMem l i = false) (hc : cnOk τ S d m c) : cnOk (tOv τ i r) S d m c := by
  have hi := Nat.le_of_ble_eq_true hi
  intro vs M hvs hM hg hf
  refine (hc vs M hvs (tyM_wide ht hi h hM) hg hf).mono ?_
  rintro v ⟨sh2, M2⟩ ⟨q1, q2, q3, q4, q5⟩
  refine ⟨q1, ?_, q3, q4, q5⟩
  have q4 : frm c.2.2.1 M M2 := q4
  rw [hm] at q4
  have e1 : M2 i = M i := q4.1 i (fMem_no hl)
  intro o k e ho he
  by_cases e9 : o = i
  · subst e9
    show satE e (M2 o k)
    rw [e1]
    exact hM o k e ho he
  · refine q2 o k e ho ?_
    rw [tyAt_row ht]
    rw [tyAt_row (tOv_t hi ht), tOv_ne e9] at he
    exact he
/-- a place is of one kind or another: a contract for each -/
theorem con_two {τ : fT} {S : pScr} {d m i f : Nat} {r1 r2 : List (Nat × aE)} {c : fCn} (ht : fTau τ) (hi : Nat.ble (i + 1) 205 = true) (h1 : fRowLe f r1 (τ i) = true) (h2 : fRowLe f r2 (τ i) = true) (hor : ∀ M, tyM (tOf τ) M → tyM (tOf (tOv τ i r1)) M ∨ tyM (tOf (tOv τ i r2)) M) (hc1 : cnOk (tOv τ i r1) S d m c) (hc2 : cnOk (tOv τ i r2) S d m c) : cnOk τ S d m c := by
  have hi := Nat.le_of_ble_eq_true hi
  intro vs M hvs hM hg hf
  rcases hor M hM with h | h
  · exact (hc1 vs M hvs h hg hf).mono (fun v hp ⟨q1, q2, q3⟩ => ⟨q1, tyM_wide ht hi h1 q2, q3⟩)
  · exact (hc2 vs M hvs h hg hf).mono (fun v hp ⟨q1, q2, q3⟩ => ⟨q1, tyM_wide ht hi h2 q2, q3⟩)
/-- kinds of a row with one place's kind parted in two -/
theorem ty_or {τ : fT} {i k : Nat} {r1 r2 : List (Nat × aE)} {e1 e2 : aE} (ht : fTau τ) (hi : Nat.ble (i + 1) 205 = true) (hk1 : ∀ j, j ≠ k → (r1.find? (fun r => Nat.blt j r.1)).map (fun r => r.2) = ((τ i).find? (fun r => Nat.blt j r.1)).map (fun r => r.2)) (hk2 : ∀ j, j ≠ k → (r2.find? (fun r => Nat.blt j r.1)).map (fun r => r.2) = ((τ i).find? (fun r => Nat.blt j r.1)).map (fun r => r.2)) (he1 : (r1.find? (fun r => Nat.blt k r.1)).map (fun r => r.2) = some e1) (he2 : (r2.find? (fun r => Nat.blt k r.1)).map (fun r => r.2) = some e2) {M : pMem} (hM : tyM (tOf τ) M) (hor : satE e1 (M i k) ∨ satE e2 (M i k)) : tyM (tOf (tOv τ i r1)) M ∨ tyM (tOf (tOv τ i r2)) M := by
  have hi := Nat.le_of_ble_eq_true hi
  have go : ∀ (r : List (Nat × aE)) (e0 : aE), (∀ j, j ≠ k → (r.find? (fun r => Nat.blt j r.1)).map (fun r => r.2) = ((τ i).find? (fun r => Nat.blt j r.1)).map (fun r => r.2)) → (r.find? (fun r => Nat.blt k r.1)).map (fun r => r.2) = some e0 → satE e0 (M i k) → tyM (tOf (tOv τ i r)) M := by
    intro r e0 g1 g2 g3 o j e ho he
    rw [tyAt_row (tOv_t hi ht)] at he
    by_cases e9 : o = i
    · subst e9
      rw [tOv_eq] at he
      by_cases ek : j = k
      · subst ek
        rw [g2] at he
        cases he
        exact g3
      · rw [g1 j ek] at he
        exact hM o j e ho (by rw [tyAt_row ht]; exact he)
    · rw [tOv_ne e9] at he
      exact hM o j e ho (by rw [tyAt_row ht]; exact he)
  rcases hor with h | h
  · exact Or.inl (go r1 e1 hk1 he1 h)
  · exact Or.inr (go r2 e2 hk2 he2 h)

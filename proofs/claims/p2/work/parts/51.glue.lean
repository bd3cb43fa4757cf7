/-! kinds of a width: what the hand rows want of them -/
noncomputable def rowChk (τ : fT) (l : List ((Nat × Nat) × aE)) : Bool := l.all (fun q => decide (rowAt (τ q.1.1) q.1.2 = some q.2))
theorem rowChk_ok {τ : fT} {l : List ((Nat × Nat) × aE)} (h : rowChk τ l = true) : ∀ q ∈ l, rowAt (τ q.1.1) q.1.2 = some q.2 := fun q hq => of_decide_eq_true (List.all_eq_true.mp h q hq)
theorem rowEnd {r : List (Nat × aE)} {n : Nat} (h : r.all (fun q => Nat.ble q.1 n) = true) : ∀ k, n ≤ k → rowAt r k = none := by
  intro k hk
  unfold rowAt
  rw [Option.map_eq_none_iff, List.find?_eq_none]
  intro q hq hz
  have h1 := Nat.le_of_ble_eq_true (List.all_eq_true.mp h q hq)
  have h2 := (blt_iff _ _).mp hz
  omega
noncomputable def rowInt (r : List (Nat × aE)) (n : Nat) : Bool := (List.range n).all (fun k => match rowAt r k with | some e => Nat.beq e.1 0 | none => false)
theorem rowInt_ok {r : List (Nat × aE)} {n : Nat} (h : rowInt r n = true) : ∀ k, k < n → ∃ lo hi x, rowAt r k = some (0, lo, hi, x) := by
  intro k hk
  have h1 := List.all_eq_true.mp h k (List.mem_range.mpr hk)
  cases e : rowAt r k with
  | none =>
    simp only [e] at h1
    cases h1
  | some d =>
    simp only [e] at h1
    obtain ⟨a, lo, hi, x⟩ := d
    have h1 := Nat.eq_of_beq_eq_true h1
    have h1 : a = 0 := h1
    subst h1
    exact ⟨lo, hi, x, rfl⟩
noncomputable def rowAll (r : List (Nat × aE)) (b n : Nat) (e : aE) : Bool := (List.range n).all (fun k => decide (rowAt r (b + k) = some e))
theorem rowAll_ok {r : List (Nat × aE)} {b n : Nat} {e : aE} (h : rowAll r b n e = true) : ∀ k, k < n → rowAt r (b + k) = some e := fun k hk => of_decide_eq_true (List.all_eq_true.mp h k (List.mem_range.mpr hk))

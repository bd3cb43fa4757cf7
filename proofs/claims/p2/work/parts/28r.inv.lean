/-! what holds of the reference's tables between calls: its texts, what an image has of them, its chances -/
def vI (v : Value) : Int := match v with
  | .int z => z.toInt
  | _ => -9
def isI (v : Value) : Prop := ∃ z : Int32, v = .int z
/-- a step of a clause's code: from this depth of values and truths to that -/
def opOk (o v : Int) (d d' : Nat × Nat) : Prop :=
  (o = 0 ∧ d' = (d.1 + 1, d.2)) ∨ (o = 1 ∧ 0 ≤ v ∧ v ≤ 10 ∧ d' = (d.1 + 1, d.2)) ∨ (o = 2 ∧ 1 ≤ d.1 ∧ d' = d) ∨ (3 ≤ o ∧ o ≤ 6 ∧ 2 ≤ d.1 ∧ d' = (d.1 - 1, d.2)) ∨
  (10 ≤ o ∧ o ≤ 15 ∧ 2 ≤ d.1 ∧ d' = (d.1 - 2, d.2 + 1)) ∨ (o = 20 ∧ 1 ≤ d.2 ∧ d' = d) ∨ (21 ≤ o ∧ o ≤ 22 ∧ 2 ≤ d.2 ∧ d' = (d.1, d.2 - 1))
/-- the code from i to j, at a text's code, goes from this depth to that -/
def codeOk (t : Nat → Value) (c : Nat) (i j : Nat) (d d' : Nat × Nat) : Prop := ∃ D : Nat → Nat × Nat, D i = d ∧ D j = d' ∧ ∀ k, i ≤ k → k < j → isI (t (c + 2 * k)) ∧ isI (t (c + 2 * k + 1)) ∧ opOk (vI (t (c + 2 * k))) (vI (t (c + 2 * k + 1))) (D k) (D (k + 1))
/-- a clause of a text -/
def clauseOk (t : Nat → Value) (s c : Nat) : Prop := ∃ (i j : Nat) (d : Nat × Nat), t (800 * s + 1 + 4 * c + 2) = .int (Int32.ofNat i) ∧ t (800 * s + 1 + 4 * c + 3) = .int (Int32.ofNat j) ∧ i ≤ j ∧ j ≤ 300 ∧ codeOk t (800 * s + 60) i j (0, 0) d
def textOk (t : Nat → Value) (s : Nat) : Prop := ∃ n : Nat, n ≤ 12 ∧ t (800 * s) = .int (Int32.ofNat n) ∧ ∀ c, c < n → clauseOk t s c
def tenOk (a : Nat → Value) : Prop := ∀ w, w < 4 → (∀ j, j < 4 → isI (a (160 + 4 * w + j)) ∧ 0 ≤ vI (a (160 + 4 * w + j)) ∧ vI (a (160 + 4 * w + j)) ≤ 10) ∧ vI (a (160 + 4 * w)) + vI (a (160 + 4 * w + 1)) + vI (a (160 + 4 * w + 2)) + vI (a (160 + 4 * w + 3)) = 10
def gRel (t im a : Nat → Value) : Prop := tenOk a ∧ tenOk im ∧ ∀ s, s < 4 → textOk t s
/-- places of the reference's state that few may write -/
noncomputable def prK (k : Nat) : Bool := bI (Nat.ble k 159) false (Nat.ble k 175)
noncomputable def prV (f : Nat → Value) : Nat → Value := fun k => @Bool.rec (fun _ => Value) .null (f k) (prK k)
def gR (M : pMem) : Prop := gRel (M 188) (M 187) (prV (M 186))
theorem gR_keep {M M' : pMem} (h1 : M' 188 = M 188) (h2 : M' 187 = M 187) (h3 : ∀ k, prK k = true → M' 186 k = M 186 k) (h : gR M) : gR M' := by
  have e : prV (M' 186) = prV (M 186) := by
    funext k
    show @Bool.rec (fun _ => Value) .null (M' 186 k) (prK k) = @Bool.rec (fun _ => Value) .null (M 186 k) (prK k)
    cases hb : prK k with
    | false => rfl
    | true => exact h3 k hb
  unfold gR
  rw [h1, h2, e]
  exact h
/-- an index clear of those places -/
noncomputable def prOff (lo hi : Int) : Bool := bI (fLe hi 159) true (fLe 176 lo)
theorem prOff_ok {lo hi : Int} {z : Nat} (h : prOff lo hi = true) (h1 : lo ≤ (z : Int)) (h2 : (z : Int) ≤ hi) : prK z = false := by
  have key : z ≤ 159 ∨ 176 ≤ z := by
    rcases bI_if h with ⟨g, -⟩ | ⟨-, g⟩
    · have := fLe_t g
      omega
    · have := fLe_t g
      omega
  cases hb : prK z with
  | false => rfl
  | true =>
    exfalso
    unfold prK at hb
    rcases bI_if hb with ⟨-, hb⟩ | ⟨a3, hb⟩
    · cases hb
    · have a3 : ¬ z ≤ 159 := fun q => by rw [Nat.ble_eq_true_of_le q] at a3; cases a3
      have := Nat.le_of_ble_eq_true hb
      omega

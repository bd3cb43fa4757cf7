/-! AN ABSTRACT MACHINE over the pure one: a value is a symbol and an offset; symbols have intervals, or sets of objects -/
abbrev aV : Type := Nat × Int
/-- kind (0 int, 1 reference, 2 long, 3 the script), bounds (of a reference: 1 if it may be null), objects -/
abbrev aE : Type := Nat × Int × Int × List Nat
abbrev aO : Type := List ((Nat × Nat) × aV)
abbrev aL : Type := List (Nat × aV)
/-- symbols, known places, places and objects whose type is not kept, how many objects there are -/
abbrev aW : Type := List aE × aO × List (Nat × Nat) × List Nat × Nat
abbrev aT : Type := List (List (Nat × aE))
def satE (e : aE) (v : Value) : Prop := match e with
  | (0, lo, hi, _) => ∃ z : Int32, v = .int z ∧ lo ≤ z.toInt ∧ z.toInt ≤ hi
  | (1, nl, _, ids) => (v = .null ∧ nl = 1) ∨ ∃ i, i ∈ ids ∧ v = .ref i
  | (2, lo, hi, _) => ∃ z : Int64, v = .long z ∧ lo ≤ z.toInt ∧ z.toInt ≤ hi
  | (3, _, _, _) => v = .retAddr 1
  | _ => False
def aval (ρ : Nat → Value) (a : aV) : Value := if a.1 = 1 then .ref a.2.toNat else match ρ a.1 with
  | .int z => .int (z + Int32.ofInt a.2)
  | v => v
def aEnv (env : List aE) (ρ : Nat → Value) : Prop := 2 ≤ env.length ∧ ρ 0 = .int 0 ∧ ∀ (s : Nat) (e : aE), env[s]? = some e → satE e (ρ s)
def tyAt (T : aT) (o k : Nat) : Option aE := ((T.getD o []).find? (fun r => Nat.blt k r.1)).map (fun r => r.2)
/-- the memory keeps its types -/
def aInv (T : aT) (w : aW) (M : pMem) : Prop := ∀ (o k : Nat) (e : aE), o < w.2.2.2.2 → o ∉ w.2.2.2.1 → (o, k) ∉ w.2.2.1 → tyAt T o k = some e → satE e (M o k)
def aOvr (w : aW) (ρ : Nat → Value) (M : pMem) : Prop := ∀ q ∈ w.2.1, q.2.1 < w.1.length ∧ M q.1.1 q.1.2 = aval ρ q.2
def aLoc (w : aW) (ρ : Nat → Value) (A : aL) (L : pLs) : Prop := ∀ q ∈ A, q.2.1 < w.1.length ∧ pLd L q.1 = some (aval ρ q.2)
def aStk (w : aW) (ρ : Nat → Value) (A : List aV) (st : List Value) : Prop := (∀ a ∈ A, a.1 < w.1.length) ∧ st = A.map (aval ρ)
/-- the abstract world holds -/
def aWor (T : aT) (sh0 : pSh) (w : aW) (ρ : Nat → Value) (sh : pSh) (M : pMem) : Prop := aEnv w.1 ρ ∧ aInv T w M ∧ aOvr w ρ M ∧ sh = sh0.take w.2.2.2.2 ∧ w.2.2.2.2 ≤ sh0.length
/-- compares that the kernel does fast -/
def iLe (a b : Int) : Bool := match a, b with
  | .ofNat m, .ofNat n => Nat.ble m n
  | .negSucc _, .ofNat _ => true
  | .ofNat _, .negSucc _ => false
  | .negSucc m, .negSucc n => Nat.ble n m
theorem iLe_t {a b : Int} (h : iLe a b = true) : a ≤ b := by
  unfold iLe at h
  split at h
  · exact Int.ofNat_le.mpr (Nat.le_of_ble_eq_true h)
  · rename_i m n
    simp only [Int.ofNat_eq_natCast]
    omega
  · cases h
  · have := Nat.le_of_ble_eq_true h
    omega
theorem iLe_f {a b : Int} (h : iLe a b = false) : ¬ a ≤ b := by
  unfold iLe at h
  split at h
  · intro hl
    rw [Nat.ble_eq_true_of_le (Int.ofNat_le.mp hl)] at h
    cases h
  · cases h
  · simp only [Int.ofNat_eq_natCast]
    omega
  · intro hl
    rw [Nat.ble_eq_true_of_le (by omega)] at h
    cases h
def iLeD (a b : Int) : Decidable (a ≤ b) := match h : iLe a b with
  | true => isTrue (iLe_t h)
  | false => isFalse (iLe_f h)
def iEq (a b : Int) : Bool := match a, b with
  | .ofNat m, .ofNat n => Nat.beq m n
  | .negSucc m, .negSucc n => Nat.beq m n
  | _, _ => false
theorem iEq_t {a b : Int} (h : iEq a b = true) : a = b := by
  unfold iEq at h
  split at h
  · rw [Nat.eq_of_beq_eq_true h]
  · rw [Nat.eq_of_beq_eq_true h]
  · cases h
theorem iEq_f {a b : Int} (h : iEq a b = false) : ¬ a = b := by
  intro e
  subst e
  unfold iEq at h
  split at h
  · rw [Nat.beq_refl] at h
    cases h
  · rw [Nat.beq_refl] at h
    cases h
  · rename_i h1 h2
    cases a with
    | ofNat n => exact h1 n n rfl rfl
    | negSucc n => exact h2 n n rfl rfl
def iEqD (a b : Int) : Decidable (a = b) := match h : iEq a b with
  | true => isTrue (iEq_t h)
  | false => isFalse (iEq_f h)
def nEqD (a b : Nat) : Decidable (a = b) := match h : Nat.beq a b with
  | true => isTrue (Nat.eq_of_beq_eq_true h)
  | false => isFalse (Nat.ne_of_beq_eq_false h)
def dAnd {p q : Prop} (a : Decidable p) (b : Decidable q) : Decidable (p ∧ q) := match a, b with
  | .isTrue h1, .isTrue h2 => .isTrue ⟨h1, h2⟩
  | .isFalse h, _ => .isFalse (fun z => h z.1)
  | _, .isFalse h => .isFalse (fun z => h z.2)
def dNot {p : Prop} (a : Decidable p) : Decidable (¬ p) := match a with
  | .isTrue h => .isFalse (fun z => z h)
  | .isFalse h => .isTrue h
def aLo32 : Int := -2147483648
def aHi32 : Int := 2147483647
def aIv (env : List aE) (a : aV) : Option (Int × Int) := match env[a.1]? with
  | some (0, lo, hi, _) => @ite _ (aLo32 ≤ lo + a.2 ∧ hi + a.2 ≤ aHi32 ∧ a.1 ≠ 1) (dAnd (iLeD _ _) (dAnd (iLeD _ _) (dNot (nEqD _ _)))) (some (lo + a.2, hi + a.2)) none
  | _ => none
def aLg (env : List aE) (a : aV) : Option (Int × Int) := match env[a.1]? with
  | some (2, lo, hi, _) => if a.1 ≠ 1 then some (lo, hi) else none
  | _ => none
def aRf (env : List aE) (a : aV) : Option (Bool × List Nat) := match a.1 with
  | 1 => some (false, [a.2.toNat])
  | s => match env[s]? with
    | some (1, nl, _, ids) => some (decide (nl = 1), ids)
    | _ => none
def mkE (env : List aE) (e : aE) : List aE × aV := match e with
  | (0, lo, hi, _) => @ite _ (lo = hi) (iEqD _ _) (env, (0, lo)) (env ++ [e], (env.length, 0))
  | (1, nl, _, [i]) => if nl = 1 then (env ++ [e], (env.length, 0)) else (env, (1, (i : Int)))
  | _ => (env ++ [e], (env.length, 0))
theorem i32_rng (z : Int32) : aLo32 ≤ z.toInt ∧ z.toInt ≤ aHi32 := by
  have h1 := z.minValue_le_toInt
  have h2 := z.toInt_le
  unfold aLo32 aHi32
  constructor
  · exact h1
  · exact h2
theorem i32_of {n : Int} (h1 : aLo32 ≤ n) (h2 : n ≤ aHi32) : (Int32.ofInt n).toInt = n := by
  unfold aLo32 at h1
  unfold aHi32 at h2
  exact Int32.toInt_ofInt_of_le (by omega) (by omega)
theorem i32_add {z : Int32} {n : Int} (h1 : aLo32 ≤ z.toInt + n) (h2 : z.toInt + n ≤ aHi32) : (z + Int32.ofInt n).toInt = z.toInt + n := by
  have e : z + Int32.ofInt n = Int32.ofInt (z.toInt + n) := by
    rw [Int32.ofInt_add, Int32.ofInt_toInt]
  rw [e]
  exact i32_of h1 h2
theorem aval_c {ρ : Nat → Value} (h0 : ρ 0 = .int 0) (c : Int) : aval ρ (0, c) = .int (Int32.ofInt c) := by
  unfold aval
  rw [if_neg (show ¬ (0 : Nat) = 1 by decide)]
  simp only [h0]
  rw [Int32.zero_add]
theorem aIv_ok {env : List aE} {ρ : Nat → Value} {a : aV} {lo hi : Int} (hE : aEnv env ρ) (h : aIv env a = some (lo, hi)) : ∃ z : Int32, aval ρ a = .int z ∧ lo ≤ z.toInt ∧ z.toInt ≤ hi := by
  unfold aIv at h
  split at h
  · rename_i l u x he
    split at h
    · rename_i hr
      cases h
      obtain ⟨z, hz, h1, h2⟩ := hE.2.2 _ _ he
      refine ⟨z + Int32.ofInt a.2, ?_, ?_, ?_⟩
      · unfold aval
        rw [if_neg hr.2.2, hz]
      · rw [i32_add (by omega) (by omega)]
        omega
      · rw [i32_add (by omega) (by omega)]
        omega
    · cases h
  · cases h
theorem aRf_ok {env : List aE} {ρ : Nat → Value} {a : aV} {nl : Bool} {ids : List Nat} (hE : aEnv env ρ) (h : aRf env a = some (nl, ids)) : (aval ρ a = .null ∧ nl = true) ∨ ∃ i, i ∈ ids ∧ aval ρ a = .ref i := by
  unfold aRf at h
  split at h
  · rename_i h1
    cases h
    refine Or.inr ⟨a.2.toNat, by simp, ?_⟩
    unfold aval
    rw [if_pos h1]
  · rename_i h1
    split at h
    · rename_i l u x he
      cases h
      have hv : aval ρ a = ρ a.1 := by
        unfold aval
        rw [if_neg h1]
        rcases hE.2.2 _ _ he with ⟨hz, -⟩ | ⟨i, -, hz⟩ <;> rw [hz]
      rw [hv]
      rcases hE.2.2 _ _ he with ⟨hz, hn⟩ | ⟨i, hi, hz⟩
      · exact Or.inl ⟨hz, by simp [hn]⟩
      · exact Or.inr ⟨i, hi, hz⟩
    · cases h
/-- ρ' knows what ρ knows of n symbols -/
def aSub (n : Nat) (ρ ρ' : Nat → Value) : Prop := ∀ s, s < n → ρ' s = ρ s
theorem aval_sub {n : Nat} {ρ ρ' : Nat → Value} (h : aSub n ρ ρ') {a : aV} (ha : a.1 < n) : aval ρ' a = aval ρ a := by
  unfold aval
  rw [h _ ha]
theorem mkE_ok {env : List aE} {ρ : Nat → Value} {e : aE} {v : Value} (hE : aEnv env ρ) (hv : satE e v) : ∃ ρ', aSub env.length ρ ρ' ∧ aEnv (mkE env e).1 ρ' ∧ (mkE env e).2.1 < (mkE env e).1.length ∧ aval ρ' (mkE env e).2 = v ∧ env.length ≤ (mkE env e).1.length := by
  have fresh : ∃ ρ', aSub env.length ρ ρ' ∧ aEnv (env ++ [e]) ρ' ∧ env.length < (env ++ [e]).length ∧ aval ρ' (env.length, 0) = v ∧ env.length ≤ (env ++ [e]).length := by
    refine ⟨fun s => if s = env.length then v else ρ s, fun s hs => if_neg (by omega), ⟨by rw [List.length_append]; have := hE.1; omega, by have := hE.1; show (if 0 = env.length then v else ρ 0) = _; rw [if_neg (by omega)]; exact hE.2.1, fun s e' hs => ?_⟩, by simp, ?_, by simp⟩
    · by_cases he : s < env.length
      · rw [List.getElem?_append_left he] at hs
        show satE e' (if s = env.length then v else ρ s)
        rw [if_neg (by omega)]
        exact hE.2.2 s e' hs
      · rw [List.getElem?_append_right (by omega)] at hs
        have hz : s - env.length < 1 := (List.getElem?_eq_some_iff.mp hs).1
        have : s = env.length := by omega
        subst this
        rw [Nat.sub_self] at hs
        cases hs
        show satE e (if env.length = env.length then v else ρ env.length)
        rw [if_pos rfl]
        exact hv
    · unfold aval
      rw [if_neg (by have := hE.1; show ¬ env.length = 1; omega)]
      show (match (if env.length = env.length then v else ρ env.length) with | .int z => .int (z + Int32.ofInt 0) | v => v) = v
      rw [if_pos rfl]
      cases v <;> first | rfl | (show Value.int (_ + 0) = _; rw [Int32.add_zero])
  unfold mkE
  split
  · rename_i lo hi x
    split
    · rename_i hlh
      subst hlh
      obtain ⟨z, hz, h1, h2⟩ := hv
      refine ⟨ρ, fun _ _ => rfl, hE, by have := hE.1; show 0 < env.length; omega, ?_, Nat.le_refl _⟩
      rw [aval_c hE.2.1, hz]
      have : z.toInt = lo := by omega
      rw [← this, Int32.ofInt_toInt]
    · exact fresh
  · rename_i nl x i
    split
    · exact fresh
    · rename_i hnl
      rcases hv with ⟨-, hn⟩ | ⟨j, hj, hv⟩
      · exact absurd hn hnl
      · refine ⟨ρ, fun _ _ => rfl, hE, by have := hE.1; show 1 < env.length; omega, ?_, Nat.le_refl _⟩
        rw [hv]
        have : j = i := by simpa using hj
        subst this
        rfl
  · exact fresh
def iMax (a b : Int) : Int := @ite _ (a ≤ b) (iLeD _ _) b a
def iMin (a b : Int) : Int := @ite _ (b ≤ a) (iLeD _ _) b a
theorem iMax_le {a b z : Int} (h1 : a ≤ z) (h2 : b ≤ z) : iMax a b ≤ z := by unfold iMax; split <;> assumption
theorem le_iMin {a b z : Int} (h1 : z ≤ a) (h2 : z ≤ b) : z ≤ iMin a b := by unfold iMin; split <;> assumption
theorem iMax_ge (a b : Int) : a ≤ iMax a b ∧ b ≤ iMax a b := by unfold iMax; split <;> omega
theorem iMin_le (a b : Int) : iMin a b ≤ a ∧ iMin a b ≤ b := by unfold iMin; split <;> omega
/-- a value is held to bounds; none: it can't be within -/
def aMeet (env : List aE) (a : aV) (lo hi : Int) : Option (List aE) := match a.1 with
  | 0 => @ite _ (lo ≤ a.2 ∧ a.2 ≤ hi) (dAnd (iLeD _ _) (iLeD _ _)) (some env) none
  | s => match env[s]? with
    | some (0, l, u, x) =>
      @ite _ (iMax l (lo - a.2) ≤ iMin u (hi - a.2)) (iLeD _ _) (some (env.set s (0, iMax l (lo - a.2), iMin u (hi - a.2), x))) none
    | _ => some env
theorem aMeet_ok {env : List aE} {ρ : Nat → Value} {a : aV} {lo hi l0 u0 : Int} {z : Int32} (hE : aEnv env ρ) (hi0 : aIv env a = some (l0, u0)) (hz : aval ρ a = .int z) (h1 : lo ≤ z.toInt) (h2 : z.toInt ≤ hi) : ∃ env', aMeet env a lo hi = some env' ∧ aEnv env' ρ ∧ env'.length = env.length := by
  unfold aMeet
  unfold aIv at hi0
  split
  · rename_i hs
    have : a = (0, a.2) := Prod.ext hs rfl
    rw [this, aval_c hE.2.1] at hz
    have hz := Value.int.inj hz
    split at hi0
    · rename_i l u x he
      split at hi0
      · rename_i hr
        obtain ⟨z0, hz0, g1, g2⟩ := hE.2.2 _ _ he
        rw [hs, hE.2.1] at hz0
        cases hz0
        have g1 : l ≤ 0 := g1
        have g2 : 0 ≤ u := g2
        have hq : (Int32.ofInt a.2).toInt = a.2 := i32_of (by omega) (by omega)
        rw [← hz, hq] at h1 h2
        exact ⟨env, if_pos ⟨h1, h2⟩, hE, rfl⟩
      · cases hi0
    · cases hi0
  · rename_i hs
    split at hi0
    · rename_i l u x he
      split at hi0
      · rename_i hr
        obtain ⟨z0, hz0, g1, g2⟩ := hE.2.2 _ _ he
        unfold aval at hz
        rw [if_neg hr.2.2, hz0] at hz
        have hz := Value.int.inj hz
        have hq : z.toInt = z0.toInt + a.2 := by
          rw [← hz]
          exact i32_add (by omega) (by omega)
        rw [hq] at h1 h2
        have e1 : iMax l (lo - a.2) ≤ z0.toInt := iMax_le (by omega) (by omega)
        have e2 : z0.toInt ≤ iMin u (hi - a.2) := le_iMin (by omega) (by omega)
        rw [if_pos (by omega)]
        refine ⟨_, rfl, ⟨by rw [List.length_set]; exact hE.1, hE.2.1, fun s' e' hs' => ?_⟩, List.length_set ..⟩
        rw [List.getElem?_set] at hs'
        split at hs'
        · rename_i hss
          split at hs'
          · cases hs'
            subst hss
            exact ⟨z0, hz0, e1, e2⟩
          · cases hs'
        · exact hE.2.2 s' e' hs'
      · cases hi0
    · cases hi0

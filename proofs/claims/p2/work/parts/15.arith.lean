/-! numbers of the abstract machine -/
def opF (k : Nat) (x y : Int32) : Int32 := match k with
  | 0 => x + y
  | 1 => x - y
  | 2 => x * y
  | 3 => x &&& y
  | 4 => x ||| y
  | 5 => x <<< (y &&& 31)
  | 6 => x >>> (y &&& 31)
  | 7 => (x.toUInt32 >>> (y.toUInt32 &&& Int32.toUInt32 31)).toInt32
  | 8 => x / y
  | _ => x - x / y * y
def aTop : Int × Int := (aLo32, aHi32)
def aClip (q : Int × Int) : Int × Int := @ite _ (aLo32 ≤ q.1 ∧ q.2 ≤ aHi32) (dAnd (iLeD _ _) (iLeD _ _)) q aTop
def aBinI (k : Nat) (a b c d : Int) : Int × Int := match k with
  | 0 => aClip (a + c, b + d)
  | 1 => aClip (a - d, b - c)
  | 2 => if 0 ≤ a ∧ 0 ≤ c then aClip (a * c, b * d) else aTop
  | 3 => if 0 ≤ c then (0, d) else if 0 ≤ a then (0, b) else aTop
  | 8 => if 0 ≤ a ∧ 0 < c then (0, b) else aTop
  | 9 => if 0 ≤ a ∧ 0 < c then (0, if b ≤ d - 1 then b else d - 1) else aTop
  | _ => aTop
theorem i32_nat {x : Int32} (h : 0 ≤ x.toInt) : ∃ n : Nat, n < 2 ^ 31 ∧ x = nI n ∧ x.toInt = n := by
  obtain ⟨n, h1, h2⟩ := nI_of (x := x) (by rw [Int32.lt_iff_toInt_lt]; simpa using h)
  exact ⟨n, h1, h2, by rw [h2]; exact nI_toInt h1⟩
theorem i32_top (x : Int32) : aTop.1 ≤ x.toInt ∧ x.toInt ≤ aTop.2 := i32_rng x
theorem aClip_ok {q : Int × Int} {x : Int32} (h : aLo32 ≤ q.1 → q.2 ≤ aHi32 → q.1 ≤ x.toInt ∧ x.toInt ≤ q.2) : (aClip q).1 ≤ x.toInt ∧ x.toInt ≤ (aClip q).2 := by
  unfold aClip
  split
  · rename_i hr
    exact h hr.1 hr.2
  · exact i32_top x
theorem aBinI_ok (k : Nat) {x y : Int32} {a b c d : Int} (h1 : a ≤ x.toInt) (h2 : x.toInt ≤ b) (h3 : c ≤ y.toInt) (h4 : y.toInt ≤ d) : (aBinI k a b c d).1 ≤ (opF k x y).toInt ∧ (opF k x y).toInt ≤ (aBinI k a b c d).2 := by
  unfold aBinI
  split
  · refine aClip_ok fun g1 g2 => ?_
    have g1 : aLo32 ≤ a + c := g1
    have g2 : b + d ≤ aHi32 := g2
    show a + c ≤ (x + y).toInt ∧ (x + y).toInt ≤ b + d
    have e : (x + y).toInt = x.toInt + y.toInt := by
      have := i32_add (z := x) (n := y.toInt) (by omega) (by omega)
      rw [Int32.ofInt_toInt] at this
      exact this
    rw [e]
    omega
  · refine aClip_ok fun g1 g2 => ?_
    have g1 : aLo32 ≤ a - d := g1
    have g2 : b - c ≤ aHi32 := g2
    show a - d ≤ (x - y).toInt ∧ (x - y).toInt ≤ b - c
    have e : (x - y).toInt = x.toInt - y.toInt := by
      have e1 : x - y = Int32.ofInt (x.toInt - y.toInt) := by rw [Int32.ofInt_sub, Int32.ofInt_toInt, Int32.ofInt_toInt]
      rw [e1]
      exact i32_of (by omega) (by omega)
    rw [e]
    omega
  · split
    · rename_i hp
      refine aClip_ok fun g1 g2 => ?_
      have g2 : b * d ≤ aHi32 := g2
      show a * c ≤ (x * y).toInt ∧ (x * y).toInt ≤ b * d
      have m1 : a * c ≤ x.toInt * y.toInt := Int.mul_le_mul h1 h3 hp.2 (by omega)
      have m2 : x.toInt * y.toInt ≤ b * d := Int.mul_le_mul h2 h4 (by omega) (by omega)
      have m0 : 0 ≤ a * c := Int.mul_nonneg hp.1 hp.2
      have e : (x * y).toInt = x.toInt * y.toInt := by
        have e1 : x * y = Int32.ofInt (x.toInt * y.toInt) := by rw [Int32.ofInt_mul, Int32.ofInt_toInt, Int32.ofInt_toInt]
        rw [e1]
        exact i32_of (by unfold aLo32; omega) (by omega)
      rw [e]
      exact ⟨m1, m2⟩
    · exact i32_top _
  · show _ ≤ (x &&& y).toInt ∧ (x &&& y).toInt ≤ _
    split
    · rename_i hc
      obtain ⟨n, n1, n2, n3⟩ := i32_nat (x := y) (by omega)
      have e : x &&& y = nI (x.toBitVec.toNat &&& n) := by
        apply Int32.toBitVec_inj.mp
        apply BitVec.eq_of_toNat_eq
        rw [Int32.toBitVec_and, BitVec.toNat_and, n2, pk_tn (by omega), pk_tn (Nat.lt_of_le_of_lt Nat.and_le_right (by omega))]
      have hle : x.toBitVec.toNat &&& n ≤ n := Nat.and_le_right
      rw [e, nI_toInt (by omega)]
      omega
    · split
      · rename_i ha
        obtain ⟨n, n1, n2, n3⟩ := i32_nat (x := x) (by omega)
        have e : x &&& y = nI (n &&& y.toBitVec.toNat) := by
          apply Int32.toBitVec_inj.mp
          apply BitVec.eq_of_toNat_eq
          rw [Int32.toBitVec_and, BitVec.toNat_and, n2, pk_tn (by omega), pk_tn (Nat.lt_of_le_of_lt Nat.and_le_left (by omega))]
        have hle : n &&& y.toBitVec.toNat ≤ n := Nat.and_le_left
        rw [e, nI_toInt (by omega)]
        omega
      · exact i32_top _
  · split
    · rename_i hp
      obtain ⟨n, n1, n2, n3⟩ := i32_nat (x := x) (by omega)
      obtain ⟨q, q1, q2, q3⟩ := i32_nat (x := y) (by omega)
      show 0 ≤ (x / y).toInt ∧ (x / y).toInt ≤ b
      have hle : n / q ≤ n := Nat.div_le_self n q
      rw [n2, q2, pk_div n1 (by omega) q1, nI_toInt (by omega)]
      generalize n / q = t at hle ⊢
      omega
    · exact i32_top _
  · split
    · rename_i hp
      obtain ⟨n, n1, n2, n3⟩ := i32_nat (x := x) (by omega)
      obtain ⟨q, q1, q2, q3⟩ := i32_nat (x := y) (by omega)
      show 0 ≤ (x - x / y * y).toInt ∧ (x - x / y * y).toInt ≤ _
      have hle : n % q ≤ n := Nat.mod_le n q
      have hlt : n % q < q := Nat.mod_lt n (by omega)
      rw [n2, q2, pk_rem n1 (by omega) q1, nI_toInt (by omega)]
      constructor
      · omega
      · split <;> omega
    · exact i32_top _
  · exact i32_top _
/-- one operation of two numbers -/
def aBin (env : List aE) (k : Nat) (x y : aV) : Option (List aE × aV) := match aIv env x, aIv env y with
  | some (a, b), some (c, d) =>
    @ite _ (a = b ∧ c = d) (dAnd (iEqD _ _) (iEqD _ _)) (some (env, (0, (opF k (Int32.ofInt a) (Int32.ofInt c)).toInt)))
    (@ite _ (k = 0 ∧ y.1 = 0 ∧ aLo32 ≤ a + c ∧ b + c ≤ aHi32) (dAnd (nEqD _ _) (dAnd (nEqD _ _) (dAnd (iLeD _ _) (iLeD _ _)))) (some (env, (x.1, x.2 + y.2)))
    (@ite _ (k = 0 ∧ x.1 = 0 ∧ aLo32 ≤ a + c ∧ a + d ≤ aHi32) (dAnd (nEqD _ _) (dAnd (nEqD _ _) (dAnd (iLeD _ _) (iLeD _ _)))) (some (env, (y.1, y.2 + x.2)))
    (@ite _ (k = 1 ∧ y.1 = 0 ∧ aLo32 ≤ a - c ∧ b - c ≤ aHi32) (dAnd (nEqD _ _) (dAnd (nEqD _ _) (dAnd (iLeD _ _) (iLeD _ _)))) (some (env, (x.1, x.2 - y.2)))
    (some (mkE env (0, (aBinI k a b c d).1, (aBinI k a b c d).2, []))))))
  | _, _ => none
/-- an offset more -/
theorem aval_off {ρ : Nat → Value} {a : aV} {z : Int32} (h1 : a.1 ≠ 1) (h : aval ρ a = .int z) (n : Int) : aval ρ (a.1, a.2 + n) = .int (z + Int32.ofInt n) := by
  unfold aval at h ⊢
  rw [if_neg h1] at h
  rw [if_neg (show ¬ (a.1, a.2 + n).1 = 1 from h1)]
  show (match ρ a.1 with | .int z => Value.int (z + Int32.ofInt (a.2 + n)) | v => v) = _
  cases hr : ρ a.1 with
  | int q =>
    rw [hr] at h
    have h := Value.int.inj h
    show Value.int (q + Int32.ofInt (a.2 + n)) = _
    rw [← h, Int32.ofInt_add, Int32.add_assoc]
  | _ => rw [hr] at h; cases h
theorem aIv_ne {env : List aE} {a : aV} {q : Int × Int} (h : aIv env a = some q) : a.1 ≠ 1 ∧ a.1 < env.length := by
  unfold aIv at h
  split at h
  · rename_i l u x he
    split at h
    · rename_i hr
      exact ⟨hr.2.2, (List.getElem?_eq_some_iff.mp he).1⟩
    · cases h
  · cases h
theorem aval_0 {ρ : Nat → Value} {a : aV} {z : Int32} (h0 : ρ 0 = .int 0) (ha : a.1 = 0) (h : aval ρ a = .int z) : z = Int32.ofInt a.2 := by
  have e : a = (0, a.2) := Prod.ext ha rfl
  rw [e, aval_c h0] at h
  exact (Value.int.inj h).symm
theorem aBin_ok {env env' : List aE} {ρ : Nat → Value} {k : Nat} {x y r : aV} (hE : aEnv env ρ) (h : aBin env k x y = some (env', r)) : ∃ (zx zy : Int32) (ρ' : Nat → Value), aval ρ x = .int zx ∧ aval ρ y = .int zy ∧ aSub env.length ρ ρ' ∧ aEnv env' ρ' ∧ r.1 < env'.length ∧ aval ρ' r = .int (opF k zx zy) ∧ env.length ≤ env'.length := by
  unfold aBin at h
  split at h
  · rename_i a b c d hx hy
    obtain ⟨zx, ex, x1, x2⟩ := aIv_ok hE hx
    obtain ⟨zy, ey, y1, y2⟩ := aIv_ok hE hy
    obtain ⟨nx, lx⟩ := aIv_ne hx
    obtain ⟨ny, ly⟩ := aIv_ne hy
    have h0 := hE.2.1
    refine ⟨zx, zy, ?_⟩
    split at h
    · rename_i hc
      cases h
      have e1 : Int32.ofInt a = zx := by rw [show a = zx.toInt by omega, Int32.ofInt_toInt]
      have e2 : Int32.ofInt c = zy := by rw [show c = zy.toInt by omega, Int32.ofInt_toInt]
      exact ⟨ρ, ex, ey, fun _ _ => rfl, hE, by have := hE.1; show 0 < env.length; omega, by rw [e1, e2, aval_c h0, Int32.ofInt_toInt], Nat.le_refl _⟩
    · split at h
      · rename_i hc
        obtain ⟨rfl, hc0, -⟩ := hc
        cases h
        exact ⟨ρ, ex, ey, fun _ _ => rfl, hE, lx, by rw [aval_off nx ex]; show _ = Value.int (zx + zy); rw [aval_0 h0 hc0 ey], Nat.le_refl _⟩
      · split at h
        · rename_i hc
          obtain ⟨rfl, hc0, -⟩ := hc
          cases h
          exact ⟨ρ, ex, ey, fun _ _ => rfl, hE, ly, by rw [aval_off ny ey]; show _ = Value.int (zx + zy); rw [aval_0 h0 hc0 ex, Int32.add_comm], Nat.le_refl _⟩
        · split at h
          · rename_i hc
            obtain ⟨rfl, hc0, -⟩ := hc
            cases h
            refine ⟨ρ, ex, ey, fun _ _ => rfl, hE, lx, ?_, Nat.le_refl _⟩
            rw [Int.sub_eq_add_neg, aval_off nx ex]
            show _ = Value.int (zx - zy)
            rw [aval_0 h0 hc0 ey, Int32.ofInt_neg, Int32.sub_eq_add_neg]
          · obtain ⟨b1, b2⟩ := aBinI_ok k x1 x2 y1 y2
            obtain ⟨ρ', g1, g2, g3, g4, g5⟩ := mkE_ok (e := (0, (aBinI k a b c d).1, (aBinI k a b c d).2, [])) (v := .int (opF k zx zy)) hE ⟨_, rfl, b1, b2⟩
            rw [Option.some.inj h] at g2 g3 g4 g5
            exact ⟨ρ', ex, ey, g1, g2, g3, g4, g5⟩
  · cases h
/-- one number is less; one is no less; they are alike; they aren't -/
def aLt (env : List aE) (x y : aV) : Option (List aE) := match aIv env x, aIv env y with
  | some (a, _), some (_, d) => match aMeet env x a (d - 1) with
    | some e1 => aMeet e1 y (a + 1) d
    | none => none
  | _, _ => none
def aGe (env : List aE) (x y : aV) : Option (List aE) := match aIv env x, aIv env y with
  | some (_, b), some (c, _) => match aMeet env x c b with
    | some e1 => aMeet e1 y c b
    | none => none
  | _, _ => none
def aEq (env : List aE) (x y : aV) : Option (List aE) := match aIv env x, aIv env y with
  | some (a, b), some (c, d) => match aMeet env x c d with
    | some e1 => aMeet e1 y a b
    | none => none
  | _, _ => none
def aNe (env : List aE) (x y : aV) : Option (List aE) := match aIv env x, aIv env y with
  | some (a, b), some (c, d) => if c = d then (if a = c then aMeet env x (a + 1) b else if b = c then aMeet env x a (b - 1) else some env)
      else if a = b then (if c = a then aMeet env y (c + 1) d else if d = a then aMeet env y c (d - 1) else some env) else some env
  | _, _ => none
/-- bounds stay good where a symbol is held closer -/
theorem aMeet_iv {env env' : List aE} {ρ : Nat → Value} {a q : aV} {lo hi l0 u0 : Int} (h : aMeet env a lo hi = some env') (hq : aIv env q = some (l0, u0)) : ∃ l1 u1, aIv env' q = some (l1, u1) := by
  unfold aMeet at h
  split at h
  · split at h
    · cases h
      exact ⟨_, _, hq⟩
    · cases h
  · split at h
    · rename_i l u x he
      split at h
      · rename_i hlu
        cases h
        unfold aIv at hq ⊢
        rw [List.getElem?_set]
        by_cases e : a.1 = q.1
        · rw [if_pos e, if_pos (List.getElem?_eq_some_iff.mp he).1]
          rw [← e, he] at hq
          simp only at hq ⊢
          split at hq
          · rename_i hr
            have m1 := iMax_ge l (lo - a.2)
            have m2 := iMin_le u (hi - a.2)
            exact ⟨_, _, if_pos ⟨by omega, by omega, by rw [← e]; exact hr.2.2⟩⟩
          · cases hq
        · rw [if_neg e]
          exact ⟨_, _, hq⟩
      · cases h
    · cases h
      exact ⟨_, _, hq⟩
theorem aCmp_ok {env : List aE} {ρ : Nat → Value} {x y : aV} {qx qy : Int × Int} {zx zy : Int32} (hE : aEnv env ρ) (hx : aIv env x = some qx) (hy : aIv env y = some qy) (ex : aval ρ x = .int zx) (ey : aval ρ y = .int zy) :
    (zx < zy → ∃ e, aLt env x y = some e ∧ aEnv e ρ ∧ e.length = env.length) ∧ (zy ≤ zx → ∃ e, aGe env x y = some e ∧ aEnv e ρ ∧ e.length = env.length) ∧ (zx = zy → ∃ e, aEq env x y = some e ∧ aEnv e ρ ∧ e.length = env.length) ∧ (¬ zx = zy → ∃ e, aNe env x y = some e ∧ aEnv e ρ ∧ e.length = env.length) := by
  obtain ⟨a, b⟩ := qx
  obtain ⟨c, d⟩ := qy
  obtain ⟨z1, f1, x1, x2⟩ := aIv_ok hE hx
  obtain ⟨z2, f2, y1, y2⟩ := aIv_ok hE hy
  cases ex.symm.trans f1
  cases ey.symm.trans f2
  have two : ∀ (l1 u1 l2 u2 : Int), l1 ≤ zx.toInt → zx.toInt ≤ u1 → l2 ≤ zy.toInt → zy.toInt ≤ u2 → ∃ e, (match aMeet env x l1 u1 with | some e1 => aMeet e1 y l2 u2 | none => none) = some e ∧ aEnv e ρ ∧ e.length = env.length := by
    intro l1 u1 l2 u2 g1 g2 g3 g4
    obtain ⟨e1, m1, m2, m3⟩ := aMeet_ok hE hx ex g1 g2
    obtain ⟨l9, u9, hy9⟩ := aMeet_iv (ρ := ρ) m1 hy
    obtain ⟨e2, k1, k2, k3⟩ := aMeet_ok m2 hy9 ey g3 g4
    exact ⟨e2, by rw [m1]; exact k1, k2, k3.trans m3⟩
  refine ⟨fun h => ?_, fun h => ?_, fun h => ?_, fun h => ?_⟩
  · have h := Int32.lt_iff_toInt_lt.mp h
    unfold aLt
    rw [hx, hy]
    exact two _ _ _ _ (by omega) (by omega) (by omega) (by omega)
  · have h := Int32.le_iff_toInt_le.mp h
    unfold aGe
    rw [hx, hy]
    exact two _ _ _ _ (by omega) (by omega) (by omega) (by omega)
  · subst h
    unfold aEq
    rw [hx, hy]
    exact two _ _ _ _ (by omega) (by omega) (by omega) (by omega)
  · have h : ¬ zx.toInt = zy.toInt := fun z => h (Int32.toInt_inj.mp z)
    unfold aNe
    rw [hx, hy]
    simp only
    split
    · split
      · exact aMeet_ok hE hx ex (by omega) (by omega)
      · split
        · exact aMeet_ok hE hx ex (by omega) (by omega)
        · exact ⟨env, rfl, hE, rfl⟩
    · split
      · split
        · exact aMeet_ok hE hy ey (by omega) (by omega)
        · split
          · exact aMeet_ok hE hy ey (by omega) (by omega)
          · exact ⟨env, rfl, hE, rfl⟩
      · exact ⟨env, rfl, hE, rfl⟩

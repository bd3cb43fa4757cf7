/-! steps of the abstract machine: numbers and jumps -/
def aLo64 : Int := -9223372036854775808
def aHi64 : Int := 9223372036854775807
theorem i64_rng (z : Int64) : aLo64 ≤ z.toInt ∧ z.toInt ≤ aHi64 := ⟨z.minValue_le_toInt, z.toInt_le⟩
theorem i64_of {n : Int} (h1 : aLo64 ≤ n) (h2 : n ≤ aHi64) : (Int64.ofInt n).toInt = n := by
  unfold aLo64 at h1
  unfold aHi64 at h2
  exact Int64.toInt_ofInt_of_le (by omega) (by omega)
def aClip64 (q : Int × Int) : Int × Int := if aLo64 ≤ q.1 ∧ q.2 ≤ aHi64 then q else (aLo64, aHi64)
theorem aClip64_ok {q : Int × Int} {x : Int64} (h : aLo64 ≤ q.1 → q.2 ≤ aHi64 → q.1 ≤ x.toInt ∧ x.toInt ≤ q.2) : (aClip64 q).1 ≤ x.toInt ∧ x.toInt ≤ (aClip64 q).2 := by
  unfold aClip64
  split
  · rename_i hr
    exact h hr.1 hr.2
  · exact i64_rng x
def opL (k : Nat) (x y : Int64) : Int64 := match k with
  | 0 => x + y
  | 1 => x - y
  | 2 => x * y
  | 3 => x ||| y
  | _ => x / y
def aBinL (k : Nat) (a b c d : Int) : Int × Int := match k with
  | 0 => aClip64 (a + c, b + d)
  | 1 => aClip64 (a - d, b - c)
  | 2 => if 0 ≤ a ∧ 0 ≤ c then aClip64 (a * c, b * d) else (aLo64, aHi64)
  | 4 => if 0 ≤ a ∧ 0 < c then (((a.toNat / d.toNat : Nat) : Int), ((b.toNat / c.toNat : Nat) : Int)) else (aLo64, aHi64)
  | _ => (aLo64, aHi64)
theorem i64_nat {x : Int64} (h : 0 ≤ x.toInt) : ∃ n : Nat, n < 2 ^ 63 ∧ x = lN n ∧ x.toInt = n := by
  obtain ⟨n, h1, h2⟩ := pk_lOf (x := x) (by rw [Int64.lt_iff_toInt_lt]; simpa using h)
  exact ⟨n, h1, h2, by rw [h2]; exact pk_lT h1⟩
theorem aBinL_ok (k : Nat) {x y : Int64} {a b c d : Int} (h1 : a ≤ x.toInt) (h2 : x.toInt ≤ b) (h3 : c ≤ y.toInt) (h4 : y.toInt ≤ d) : (aBinL k a b c d).1 ≤ (opL k x y).toInt ∧ (opL k x y).toInt ≤ (aBinL k a b c d).2 := by
  unfold aBinL
  split
  · refine aClip64_ok fun g1 g2 => ?_
    have g1 : aLo64 ≤ a + c := g1
    have g2 : b + d ≤ aHi64 := g2
    show a + c ≤ (x + y).toInt ∧ (x + y).toInt ≤ b + d
    have e : (x + y).toInt = x.toInt + y.toInt := by
      have e1 : x + y = Int64.ofInt (x.toInt + y.toInt) := by rw [Int64.ofInt_add, Int64.ofInt_toInt, Int64.ofInt_toInt]
      rw [e1]
      exact i64_of (by omega) (by omega)
    rw [e]
    omega
  · refine aClip64_ok fun g1 g2 => ?_
    have g1 : aLo64 ≤ a - d := g1
    have g2 : b - c ≤ aHi64 := g2
    show a - d ≤ (x - y).toInt ∧ (x - y).toInt ≤ b - c
    have e : (x - y).toInt = x.toInt - y.toInt := by
      have e1 : x - y = Int64.ofInt (x.toInt - y.toInt) := by rw [Int64.ofInt_sub, Int64.ofInt_toInt, Int64.ofInt_toInt]
      rw [e1]
      exact i64_of (by omega) (by omega)
    rw [e]
    omega
  · split
    · rename_i hp
      refine aClip64_ok fun g1 g2 => ?_
      have g2 : b * d ≤ aHi64 := g2
      show a * c ≤ (x * y).toInt ∧ (x * y).toInt ≤ b * d
      have m1 : a * c ≤ x.toInt * y.toInt := Int.mul_le_mul h1 h3 hp.2 (by omega)
      have m2 : x.toInt * y.toInt ≤ b * d := Int.mul_le_mul h2 h4 (by omega) (by omega)
      have m0 : 0 ≤ a * c := Int.mul_nonneg hp.1 hp.2
      have e : (x * y).toInt = x.toInt * y.toInt := by
        have e1 : x * y = Int64.ofInt (x.toInt * y.toInt) := by rw [Int64.ofInt_mul, Int64.ofInt_toInt, Int64.ofInt_toInt]
        rw [e1]
        exact i64_of (by unfold aLo64; omega) (by omega)
      rw [e]
      exact ⟨m1, m2⟩
    · exact i64_rng _
  · split
    · rename_i hp
      obtain ⟨n, n1, n2, n3⟩ := i64_nat (x := x) (by omega)
      obtain ⟨q, q1, q2, q3⟩ := i64_nat (x := y) (by omega)
      show ((a.toNat / d.toNat : Nat) : Int) ≤ (x / y).toInt ∧ (x / y).toInt ≤ ((b.toNat / c.toNat : Nat) : Int)
      have hle : n / q ≤ n := Nat.div_le_self n q
      rw [n2, q2, pk_lDiv n1 (by omega) q1, pk_lT (by omega)]
      have l1 : a.toNat / d.toNat ≤ n / q := by
        have : a.toNat / d.toNat ≤ n / d.toNat := Nat.div_le_div_right (by omega)
        have h5 : n / d.toNat ≤ n / q := Nat.div_le_div_left (by omega) (by omega)
        omega
      have l2 : n / q ≤ b.toNat / c.toNat := by
        have : n / q ≤ b.toNat / q := Nat.div_le_div_right (by omega)
        have h5 : b.toNat / q ≤ b.toNat / c.toNat := Nat.div_le_div_left (by omega) (by omega)
        omega
      exact ⟨Int.ofNat_le.mpr l1, Int.ofNat_le.mpr l2⟩
    · exact i64_rng _
  · exact i64_rng _
theorem satL {z : Int64} {lo hi : Int} (h1 : lo ≤ z.toInt) (h2 : z.toInt ≤ hi) : satE (2, lo, hi, []) (.long z) := ⟨z, rfl, h1, h2⟩
theorem satI {z : Int32} {lo hi : Int} (h1 : lo ≤ z.toInt) (h2 : z.toInt ≤ hi) : satE (0, lo, hi, []) (.int z) := ⟨z, rfl, h1, h2⟩
section ANU
variable {T : aT} {sh0 : pSh} {ρ ρ' : Nat → Value} {pc pc' : Nat} {A A' : aL} {B B' : List aV} {w w' : aW} {L L' : pLs} {st st' : List Value} {sh sh' : pSh} {M M' : pMem} {l : List aS}
/-- a new value of this kind is pushed -/
def aNewV (e : aE) (pc : Nat) (A : aL) (B : List aV) (w : aW) : Option (List aS) := match mkE w.1 e with
  | (env, v) => aGo pc A (v :: B) (env, w.2)
theorem as_newV {e : aE} {v : Value} (hA : aLoc w ρ A L) (hB : aStk w ρ B st) (hW : aWor T sh0 w ρ sh M) (hv : satE e v) (h : aNewV e pc' A B w = some l) : ∃ σ, pGo pc' L (v :: st) sh M = some (.inl σ) ∧ aNext T sh0 ρ w l σ := by
  unfold aNewV at h
  split at h
  rename_i env u hm
  cases h
  obtain ⟨ρ', g1, g2, g3, g4, g5⟩ := mkE_ok hW.1 hv
  rw [hm] at g2 g3 g4 g5
  exact ⟨_, rfl, aNext.one (w' := (env, w.2)) g1 g5 (hA.ext g1 g5) ((hB.ext g1 g5).push g3 g4) (aWor_env hW g1 g2 g5)⟩
def aLong (k pc : Nat) (A : aL) (B : List aV) (w : aW) : Option (List aS) := match B with
  | y :: x :: r => match aLg w.1 x, aLg w.1 y with
    | some (a, b), some (c, d) => if k = 4 ∧ ¬ (0 < c ∨ d < 0) then none else aNewV (2, (aBinL k a b c d).1, (aBinL k a b c d).2, []) (pc + 1) A r w
    | _, _ => none
  | _ => none
theorem aStk.two {x y : aV} {vx vy : Value} {r : List aV} (h : aStk w ρ (y :: x :: r) st) (hx : aval ρ x = vx) (hy : aval ρ y = vy) : ∃ st2, st = vy :: vx :: st2 ∧ aStk w ρ r st2 := by
  obtain ⟨st1, hst, hr1, -⟩ := h.cons
  obtain ⟨st2, hst2, hr2, -⟩ := hr1.cons
  exact ⟨st2, by rw [hst, hst2, hx, hy], hr2⟩
theorem aStk.top {x : aV} {v : Value} {r : List aV} (h : aStk w ρ (x :: r) st) (hx : aval ρ x = v) : ∃ st2, st = v :: st2 ∧ aStk w ρ r st2 := by
  obtain ⟨st1, hst, hr1, -⟩ := h.cons
  exact ⟨st1, by rw [hst, hx], hr1⟩
theorem as_long {k : Nat} {op : Int64 → Int64 → Int64} (hop : ∀ x y, op x y = opL k x y) (hk : k ≠ 4) (hG : aG T sh0 ρ (pc, A, B, w) (pc, L, st, sh, M)) (h : aLong k pc A B w = some l) : ∃ σ, pLong op pc L st sh M = some (.inl σ) ∧ aNext T sh0 ρ w l σ := by
  unfold aLong at h
  split at h
  · rename_i y x r
    split at h
    · rename_i a b c d hx hy
      split at h
      · cases h
      · obtain ⟨zx, ex, x1, x2⟩ := aLg_ok hG.2.2.2.1 hx
        obtain ⟨zy, ey, y1, y2⟩ := aLg_ok hG.2.2.2.1 hy
        obtain ⟨st2, hst, hr⟩ := aStk.two hG.2.2.1 ex ey
        have hst : st = .long zy :: .long zx :: st2 := hst
        subst hst
        unfold pLong
        simp only
        obtain ⟨b1, b2⟩ := aBinL_ok k x1 x2 y1 y2
        exact as_newV hG.2.1 hr hG.2.2.2 (by rw [hop]; exact satL b1 b2) h
    · cases h
  · cases h
theorem as_ldiv (hG : aG T sh0 ρ (pc, A, B, w) (pc, L, st, sh, M)) (h : aLong 4 pc A B w = some l) : ∃ σ, (match st with
    | .long y :: .long x :: r => if y = 0 then none else pGo (pc + 1) L (.long (x / y) :: r) sh M
    | _ => none) = some (.inl σ) ∧ aNext T sh0 ρ w l σ := by
  unfold aLong at h
  split at h
  · rename_i y x r
    split at h
    · rename_i a b c d hx hy
      split at h
      · cases h
      · rename_i hnz
        obtain ⟨zx, ex, x1, x2⟩ := aLg_ok hG.2.2.2.1 hx
        obtain ⟨zy, ey, y1, y2⟩ := aLg_ok hG.2.2.2.1 hy
        obtain ⟨st2, hst, hr⟩ := aStk.two hG.2.2.1 ex ey
        have hst : st = .long zy :: .long zx :: st2 := hst
        subst hst
        simp only
        have hz : ¬ zy = 0 := by
          intro z
          subst z
          have : (0 : Int64).toInt = 0 := rfl
          rw [this] at y1 y2
          exact hnz ⟨rfl, by omega⟩
        rw [if_neg hz]
        obtain ⟨b1, b2⟩ := aBinL_ok 4 x1 x2 y1 y2
        exact as_newV hG.2.1 hr hG.2.2.2 (satL b1 b2) h
    · cases h
  · cases h
/-- a long that nothing is known of -/
def aLany : aE := (2, aLo64, aHi64, [])
def aIany : aE := (0, aLo32, aHi32, [])
theorem satLany (z : Int64) : satE aLany (.long z) := ⟨z, rfl, i64_rng z⟩
theorem satIany (z : Int32) : satE aIany (.int z) := ⟨z, rfl, i32_rng z⟩
def aLneg (pc : Nat) (A : aL) (B : List aV) (w : aW) : Option (List aS) := match B with
  | x :: r => match aLg w.1 x with
    | some _ => aNewV aLany (pc + 1) A r w
    | none => none
  | _ => none
theorem as_lneg (hG : aG T sh0 ρ (pc, A, B, w) (pc, L, st, sh, M)) (h : aLneg pc A B w = some l) : ∃ σ, (match st with
    | .long x :: r => pGo (pc + 1) L (.long (-x) :: r) sh M
    | _ => none) = some (.inl σ) ∧ aNext T sh0 ρ w l σ := by
  unfold aLneg at h
  split at h
  · split at h
    · rename_i q hq
      obtain ⟨z, ez, -⟩ := aLg_ok hG.2.2.2.1 hq
      obtain ⟨st2, hst, hr⟩ := aStk.top hG.2.2.1 ez
      have hst : st = .long z :: st2 := hst
      subst hst
      exact as_newV hG.2.1 hr hG.2.2.2 (satLany _) h
    · cases h
  · cases h
def aLshl (pc : Nat) (A : aL) (B : List aV) (w : aW) : Option (List aS) := match B with
  | y :: x :: r => match aLg w.1 x, aIv w.1 y with
    | some _, some _ => aNewV aLany (pc + 1) A r w
    | _, _ => none
  | _ => none
theorem as_lshl (hG : aG T sh0 ρ (pc, A, B, w) (pc, L, st, sh, M)) (h : aLshl pc A B w = some l) : ∃ σ, (match st with
    | .int y :: .long x :: r => pGo (pc + 1) L (.long (x <<< (y.toInt64 &&& 63)) :: r) sh M
    | _ => none) = some (.inl σ) ∧ aNext T sh0 ρ w l σ := by
  unfold aLshl at h
  split at h
  · split at h
    · rename_i q q2 hq hq2
      obtain ⟨z, ez, -⟩ := aLg_ok hG.2.2.2.1 hq
      obtain ⟨z2, ez2, -⟩ := aIv_ok hG.2.2.2.1 hq2
      obtain ⟨st2, hst, hr⟩ := aStk.two hG.2.2.1 ez ez2
      have hst : st = .int z2 :: .long z :: st2 := hst
      subst hst
      exact as_newV hG.2.1 hr hG.2.2.2 (satLany _) h
    · cases h
  · cases h
def aI2l (pc : Nat) (A : aL) (B : List aV) (w : aW) : Option (List aS) := match B with
  | x :: r => match aIv w.1 x with
    | some (a, b) => aNewV (2, a, b, []) (pc + 1) A r w
    | none => none
  | _ => none
theorem as_i2l (hG : aG T sh0 ρ (pc, A, B, w) (pc, L, st, sh, M)) (h : aI2l pc A B w = some l) : ∃ σ, (match st with
    | .int x :: r => pGo (pc + 1) L (.long x.toInt64 :: r) sh M
    | _ => none) = some (.inl σ) ∧ aNext T sh0 ρ w l σ := by
  unfold aI2l at h
  split at h
  · split at h
    · rename_i a b hq
      obtain ⟨z, ez, h1, h2⟩ := aIv_ok hG.2.2.2.1 hq
      obtain ⟨st2, hst, hr⟩ := aStk.top hG.2.2.1 ez
      have hst : st = .int z :: st2 := hst
      subst hst
      exact as_newV hG.2.1 hr hG.2.2.2 (satL (by rw [Int32.toInt_toInt64]; exact h1) (by rw [Int32.toInt_toInt64]; exact h2)) h
    · cases h
  · cases h
def aL2i (pc : Nat) (A : aL) (B : List aV) (w : aW) : Option (List aS) := match B with
  | x :: r => match aLg w.1 x with
    | some (a, b) => aNewV (if aLo32 ≤ a ∧ b ≤ aHi32 then (0, a, b, []) else aIany) (pc + 1) A r w
    | none => none
  | _ => none
theorem as_l2i (hG : aG T sh0 ρ (pc, A, B, w) (pc, L, st, sh, M)) (h : aL2i pc A B w = some l) : ∃ σ, (match st with
    | .long x :: r => pGo (pc + 1) L (.int x.toInt32 :: r) sh M
    | _ => none) = some (.inl σ) ∧ aNext T sh0 ρ w l σ := by
  unfold aL2i at h
  split at h
  · split at h
    · rename_i a b hq
      obtain ⟨z, ez, h1, h2⟩ := aLg_ok hG.2.2.2.1 hq
      obtain ⟨st2, hst, hr⟩ := aStk.top hG.2.2.1 ez
      have hst : st = .long z :: st2 := hst
      subst hst
      refine as_newV hG.2.1 hr hG.2.2.2 ?_ h
      split
      · rename_i hr
        have e : z.toInt32 = Int32.ofInt z.toInt := rfl
        have e2 : z.toInt32.toInt = z.toInt := by
          rw [e]
          exact i32_of (by omega) (by omega)
        exact ⟨z.toInt32, rfl, by omega, by omega⟩
      · exact satIany _
    · cases h
  · cases h
end ANU

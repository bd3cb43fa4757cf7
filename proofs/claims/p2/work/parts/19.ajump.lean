/-! steps of the abstract machine: compares, jumps, the stack -/
section AJU
variable {T : aT} {sh0 : pSh} {ρ ρ' : Nat → Value} {pc pc' : Nat} {A A' : aL} {B B' : List aV} {w w' : aW} {L L' : pLs} {st st' : List Value} {sh sh' : pSh} {M M' : pMem} {l : List aS}
theorem aNext.mem {a : aS} {σ : pSt} (ha : a ∈ l) (hs : aSub w.1.length ρ ρ') (hl : w.1.length ≤ a.2.2.2.1.length) (h : aG T sh0 ρ' a σ) : aNext T sh0 ρ w l σ := ⟨a, ha, ρ', hs, hl, h⟩
/-- a state over closer bounds -/
theorem aG.env {env : List aE} (hA : aLoc w ρ A L) (hB : aStk w ρ B st) (hW : aWor T sh0 w ρ sh M) (hE : aEnv env ρ) (hl : env.length = w.1.length) : aG T sh0 ρ (pc', A, B, (env, w.2)) (pc', L, st, sh, M) :=
  ⟨rfl, hA.ext (aSub.rf _ _) (by rw [hl]; exact Nat.le_refl _), hB.ext (aSub.rf _ _) (by rw [hl]; exact Nat.le_refl _), aWor_env hW (aSub.rf _ _) hE (by rw [hl]; exact Nat.le_refl _)⟩
def aMeetL (env : List aE) (s : Nat) (lo hi : Int) : List aE := env.set s (2, lo, hi, [])
theorem aMeetL_ok {env : List aE} {s : Nat} {lo hi : Int} {z : Int64} (hE : aEnv env ρ) (h0 : s ≠ 0) (hz : ρ s = .long z) (h1 : lo ≤ z.toInt) (h2 : z.toInt ≤ hi) : aEnv (aMeetL env s lo hi) ρ ∧ (aMeetL env s lo hi).length = env.length := by
  unfold aMeetL
  refine ⟨⟨by rw [List.length_set]; exact hE.1, hE.2.1, fun s' e' hs' => ?_⟩, List.length_set ..⟩
  rw [List.getElem?_set] at hs'
  split at hs'
  · rename_i hss
    split at hs'
    · cases hs'
      subst hss
      exact ⟨z, hz, h1, h2⟩
    · cases hs'
  · exact hE.2.2 s' e' hs'
/-- a long against a number: less, alike, more, each with its bounds -/
def aLcmp (pc : Nat) (A : aL) (B : List aV) (w : aW) : Option (List aS) := match B with
  | y :: x :: r => match aLg w.1 x, aLg w.1 y with
    | some (a, b), some (c, d) => if c = d then
        some ((if a ≤ c - 1 then [(pc + 1, A, (0, -1) :: r, (aMeetL w.1 x.1 a (iMin b (c - 1)), w.2))] else []) ++ ((if a ≤ c ∧ c ≤ b then [(pc + 1, A, (0, 0) :: r, (aMeetL w.1 x.1 c c, w.2))] else []) ++ (if c + 1 ≤ b then [(pc + 1, A, (0, 1) :: r, (aMeetL w.1 x.1 (iMax a (c + 1)) b, w.2))] else [])))
      else aNewV (0, -1, 1, []) (pc + 1) A r w
    | _, _ => none
  | _ => none
theorem aLg_sym {a : aV} {q : Int × Int} (hE : aEnv w.1 ρ) (h : aLg w.1 a = some q) : a.1 ≠ 0 ∧ ∃ z : Int64, ρ a.1 = .long z ∧ aval ρ a = .long z ∧ q.1 ≤ z.toInt ∧ z.toInt ≤ q.2 := by
  unfold aLg at h
  split at h
  · rename_i lo u x he
    split at h
    · rename_i hr
      cases h
      obtain ⟨z, hz, h1, h2⟩ := hE.2.2 _ _ he
      refine ⟨fun z0 => ?_, z, hz, ?_, h1, h2⟩
      · rw [z0, hE.2.1] at hz
        cases hz
      · unfold aval
        rw [if_neg hr, hz]
    · cases h
  · cases h
theorem as_lcmp (hG : aG T sh0 ρ (pc, A, B, w) (pc, L, st, sh, M)) (h : aLcmp pc A B w = some l) : ∃ σ, (match st with
    | .long y :: .long x :: r => pGo (pc + 1) L (.int (lg_cmp x y) :: r) sh M
    | _ => none) = some (.inl σ) ∧ aNext T sh0 ρ w l σ := by
  unfold aLcmp at h
  split at h
  · rename_i y x r
    split at h
    · rename_i a b c d hx hy
      obtain ⟨nx, zx, sx, ex, x1, x2⟩ := aLg_sym hG.2.2.2.1 hx
      obtain ⟨ny, zy, sy, ey, y1, y2⟩ := aLg_sym hG.2.2.2.1 hy
      have x1 : a ≤ zx.toInt := x1
      have x2 : zx.toInt ≤ b := x2
      have y1 : c ≤ zy.toInt := y1
      have y2 : zy.toInt ≤ d := y2
      obtain ⟨st2, hst, hr⟩ := aStk.two hG.2.2.1 ex ey
      have hst : st = .long zy :: .long zx :: st2 := hst
      subst hst
      simp only
      have g1 : ∀ c, aval ρ (0, c) = .int (Int32.ofInt c) := fun c => aval_c hG.2.2.2.1.2.1 c
      have e0 : 0 < w.1.length := Nat.lt_of_lt_of_le (by decide) hG.2.2.2.1.1
      split at h
      · rename_i hcd
        subst hcd
        cases h
        refine ⟨_, rfl, ?_⟩
        unfold lg_cmp
        by_cases hgt : zx > zy
        · have hgt' : zy.toInt < zx.toInt := Int64.lt_iff_toInt_lt.mp hgt
          obtain ⟨m1, m2⟩ := aMeetL_ok (lo := iMax a (c + 1)) (hi := b) hG.2.2.2.1 nx sx (iMax_le x1 (by omega)) x2
          rw [if_pos hgt]
          refine aNext.mem (a := (pc + 1, A, (0, 1) :: r, (aMeetL w.1 x.1 (iMax a (c + 1)) b, w.2))) (List.mem_append_right _ (List.mem_append_right _ (by rw [if_pos (by omega)]; exact List.mem_singleton.mpr rfl))) (aSub.rf _ _) (by rw [m2]; exact Nat.le_refl _) (aG.env hG.2.1 (hr.push e0 (g1 1)) hG.2.2.2 m1 m2)
        · by_cases heq : zx = zy
          · obtain ⟨m1, m2⟩ := aMeetL_ok (lo := c) (hi := c) hG.2.2.2.1 nx sx (by rw [heq]; exact y1) (by rw [heq]; exact y2)
            rw [if_neg hgt, if_pos heq]
            have hq : zx.toInt = zy.toInt := by rw [heq]
            refine aNext.mem (a := (pc + 1, A, (0, 0) :: r, (aMeetL w.1 x.1 c c, w.2))) (List.mem_append_right _ (List.mem_append_left _ (by rw [if_pos (by omega)]; exact List.mem_singleton.mpr rfl))) (aSub.rf _ _) (by rw [m2]; exact Nat.le_refl _) (aG.env hG.2.1 (hr.push e0 (g1 0)) hG.2.2.2 m1 m2)
          · have hq : ¬ zx.toInt = zy.toInt := fun z => heq (Int64.toInt_inj.mp z)
            have hq2 : ¬ zy.toInt < zx.toInt := fun z => hgt (Int64.lt_iff_toInt_lt.mpr z)
            obtain ⟨m1, m2⟩ := aMeetL_ok (lo := a) (hi := iMin b (c - 1)) hG.2.2.2.1 nx sx x1 (le_iMin x2 (by omega))
            rw [if_neg hgt, if_neg heq]
            refine aNext.mem (a := (pc + 1, A, (0, -1) :: r, (aMeetL w.1 x.1 a (iMin b (c - 1)), w.2))) (List.mem_append_left _ (by rw [if_pos (by omega)]; exact List.mem_singleton.mpr rfl)) (aSub.rf _ _) (by rw [m2]; exact Nat.le_refl _) (aG.env hG.2.1 (hr.push e0 (g1 (-1))) hG.2.2.2 m1 m2)
      · refine as_newV hG.2.1 hr hG.2.2.2 ?_ h
        unfold lg_cmp
        split
        · exact ⟨1, rfl, by decide, by decide⟩
        · split
          · exact ⟨0, rfl, by decide, by decide⟩
          · exact ⟨-1, rfl, by decide, by decide⟩
    · cases h
  · cases h
def aDivR (k pc : Nat) (A : aL) (B : List aV) (w : aW) : Option (List aS) := match B with
  | y :: x :: r => match aIv w.1 y with
    | some (c, d) => if 0 < c ∨ d < 0 then aInt k pc A (y :: x :: r) w else none
    | none => none
  | _ => none
theorem as_divR {k : Nat} {op : Int32 → Int32 → Int32} (hop : ∀ x y, op x y = opF k x y) (hG : aG T sh0 ρ (pc, A, B, w) (pc, L, st, sh, M)) (h : aDivR k pc A B w = some l) : ∃ σ, (match st with
    | .int y :: .int x :: r => if y = 0 then none else pGo (pc + 1) L (.int (op x y) :: r) sh M
    | _ => none) = some (.inl σ) ∧ aNext T sh0 ρ w l σ := by
  unfold aDivR at h
  split at h
  · rename_i y x r
    split at h
    · rename_i c d hy
      split at h
      · rename_i hnz
        obtain ⟨zy0, ey0, y1, y2⟩ := aIv_ok hG.2.2.2.1 hy
        unfold aInt at h
        simp only at h
        split at h
        · rename_i env v hb
          cases h
          obtain ⟨zx, zy, ρ', h1, h2, h3, h4, h5, h6, h7⟩ := aBin_ok hG.2.2.2.1 hb
          obtain ⟨st2, hst, hr2⟩ := aStk.two hG.2.2.1 h1 h2
          have hst : st = .int zy :: .int zx :: st2 := hst
          subst hst
          have hz : ¬ zy = 0 := by
            intro z
            have h9 := Value.int.inj (h2.symm.trans ey0)
            rw [← h9, z] at y1 y2
            have : (0 : Int32).toInt = 0 := rfl
            rw [this] at y1 y2
            omega
          simp only [if_neg hz]
          refine ⟨_, rfl, aNext.one (w' := (env, w.2)) h3 h7 (hG.2.1.ext h3 h7) ((hr2.ext h3 h7).push h5 ?_) (aWor_env hG.2.2.2 h3 h4 h7)⟩
          rw [h6, hop]
        · cases h
      · cases h
    · cases h
  · cases h
def aIneg (pc : Nat) (A : aL) (B : List aV) (w : aW) : Option (List aS) := match B with
  | x :: r => aInt 1 pc A (x :: (0, 0) :: r) w
  | _ => none
theorem as_ineg (hG : aG T sh0 ρ (pc, A, B, w) (pc, L, st, sh, M)) (h : aIneg pc A B w = some l) : ∃ σ, (match st with
    | .int x :: r => pGo (pc + 1) L (.int (-x) :: r) sh M
    | _ => none) = some (.inl σ) ∧ aNext T sh0 ρ w l σ := by
  unfold aIneg at h
  split at h
  · rename_i x r
    obtain ⟨st1, hst, hr, hx⟩ := aStk.cons hG.2.2.1
    have e0 : 0 < w.1.length := Nat.lt_of_lt_of_le (by decide) hG.2.2.2.1.1
    have hB : aStk w ρ (x :: (0, 0) :: r) (aval ρ x :: .int 0 :: st1) := (hr.push e0 (aval_c hG.2.2.2.1.2.1 0)).push hx rfl
    obtain ⟨σ, h1, h2⟩ := as_int (op := fun x y => x - y) (k := 1) (fun _ _ => rfl) (ρ := ρ) (T := T) (sh0 := sh0) (B := x :: (0, 0) :: r) (st := aval ρ x :: .int 0 :: st1) (L := L) (sh := sh) (M := M) ⟨rfl, hG.2.1, hB, hG.2.2.2⟩ h
    refine ⟨σ, ?_, h2⟩
    unfold pInt at h1
    have hst : st = aval ρ x :: st1 := hst
    rw [hst]
    cases hv : aval ρ x with
    | int z =>
      rw [hv] at h1
      simp only at h1 ⊢
      rw [← h1, Int32.zero_sub]
    | _ => rw [hv] at h1; cases h1
  · cases h
/-- an entry of one word -/
def aCat1 (env : List aE) (a : aV) : Bool := (aLg env a).isNone
def aDup (pc : Nat) (A : aL) (B : List aV) (w : aW) : Option (List aS) := match B with
  | x :: r => if aCat1 w.1 x then aGo (pc + 1) A (x :: x :: r) w else none
  | _ => none
theorem aCat1_ok {a : aV} (hE : aEnv w.1 ρ) (ha : a.1 < w.1.length) (h : aCat1 w.1 a = true) : (aval ρ a).category = 1 := by
  have h2 := aLg_cat hE ha (by unfold aCat1 at h; simpa using h)
  rcases lv_cat (aval ρ a) with h1 | h1
  · exact h1
  · exact absurd h1 h2
theorem as_dup (hG : aG T sh0 ρ (pc, A, B, w) (pc, L, st, sh, M)) (h : aDup pc A B w = some l) : ∃ σ, (match st with
    | v :: r => if v.category = 1 then pGo (pc + 1) L (v :: v :: r) sh M else none
    | _ => none) = some (.inl σ) ∧ aNext T sh0 ρ w l σ := by
  unfold aDup at h
  split at h
  · split at h
    · rename_i x r hc
      cases h
      obtain ⟨st1, hst, hr, hx⟩ := aStk.cons hG.2.2.1
      have hst : st = aval ρ x :: st1 := hst
      subst hst
      simp only [if_pos (aCat1_ok hG.2.2.2.1 hx hc)]
      exact ⟨_, rfl, aNext.one (aSub.rf _ _) (Nat.le_refl _) hG.2.1 ((hr.push hx rfl).push hx rfl) hG.2.2.2⟩
    · cases h
  · cases h
def aPop (pc : Nat) (A : aL) (B : List aV) (w : aW) : Option (List aS) := match B with
  | x :: r => if aCat1 w.1 x then aGo (pc + 1) A r w else none
  | _ => none
theorem as_pop (hG : aG T sh0 ρ (pc, A, B, w) (pc, L, st, sh, M)) (h : aPop pc A B w = some l) : ∃ σ, (match st with
    | v :: r => if v.category = 1 then pGo (pc + 1) L r sh M else none
    | _ => none) = some (.inl σ) ∧ aNext T sh0 ρ w l σ := by
  unfold aPop at h
  split at h
  · split at h
    · rename_i x r hc
      cases h
      obtain ⟨st1, hst, hr, hx⟩ := aStk.cons hG.2.2.1
      have hst : st = aval ρ x :: st1 := hst
      subst hst
      simp only [if_pos (aCat1_ok hG.2.2.2.1 hx hc)]
      exact ⟨_, rfl, aNext.one (aSub.rf _ _) (Nat.le_refl _) hG.2.1 hr hG.2.2.2⟩
    · cases h
  · cases h
def aDup2 (pc : Nat) (A : aL) (B : List aV) (w : aW) : Option (List aS) := match B with
  | x :: y :: r => if aCat1 w.1 x ∧ aCat1 w.1 y then aGo (pc + 1) A (x :: y :: x :: y :: r) w else none
  | _ => none
theorem as_dup2 (hG : aG T sh0 ρ (pc, A, B, w) (pc, L, st, sh, M)) (h : aDup2 pc A B w = some l) : ∃ σ, (match st with
    | v :: u :: r => if v.category = 1 ∧ u.category = 1 then pGo (pc + 1) L (v :: u :: v :: u :: r) sh M else none
    | _ => none) = some (.inl σ) ∧ aNext T sh0 ρ w l σ := by
  unfold aDup2 at h
  split at h
  · split at h
    · rename_i x y r hc
      cases h
      obtain ⟨st1, hst, hr, hx⟩ := aStk.cons hG.2.2.1
      obtain ⟨st2, hst2, hr2, hy⟩ := aStk.cons hr
      have hst : st = aval ρ x :: aval ρ y :: st2 := by rw [← hst2]; exact hst
      subst hst
      simp only [if_pos (show (aval ρ x).category = 1 ∧ (aval ρ y).category = 1 from ⟨aCat1_ok hG.2.2.2.1 hx hc.1, aCat1_ok hG.2.2.2.1 hy hc.2⟩)]
      exact ⟨_, rfl, aNext.one (aSub.rf _ _) (Nat.le_refl _) hG.2.1 ((((hr2.push hy rfl).push hx rfl).push hy rfl).push hx rfl) hG.2.2.2⟩
    · cases h
  · cases h
/-- the two ways of a compare -/
def aTest (cd : Jvm.ClassFile.Cond) (b : Bool) (env : List aE) (x y : aV) : Option (List aE) := match cd, b with
  | .eq, true => aEq env x y
  | .eq, false => aNe env x y
  | .ne, true => aNe env x y
  | .ne, false => aEq env x y
  | .lt, true => aLt env x y
  | .lt, false => aGe env x y
  | .ge, true => aGe env x y
  | .ge, false => aLt env x y
  | .gt, true => aLt env y x
  | .gt, false => aGe env y x
  | .le, true => aGe env y x
  | .le, false => aLt env y x
theorem aTest_ok {cd : Jvm.ClassFile.Cond} {b : Bool} {env : List aE} {x y : aV} {qx qy : Int × Int} {zx zy : Int32} (hE : aEnv env ρ) (hx : aIv env x = some qx) (hy : aIv env y = some qy) (ex : aval ρ x = .int zx) (ey : aval ρ y = .int zy) (h : pC cd zx zy = b) : ∃ e, aTest cd b env x y = some e ∧ aEnv e ρ ∧ e.length = env.length := by
  obtain ⟨h1, h2, h3, h4⟩ := aCmp_ok hE hx hy ex ey
  obtain ⟨g1, g2, g3, g4⟩ := aCmp_ok hE hy hx ey ex
  unfold pC at h
  unfold aTest
  cases cd <;> cases b <;> simp only [decide_eq_true_eq, decide_eq_false_iff_not] at h ⊢
  · exact h4 h
  · exact h3 h
  · exact h3 (Classical.not_not.mp h)
  · exact h4 h
  · exact h2 (Int32.not_lt.mp h)
  · exact h1 h
  · exact h1 (Int32.not_le.mp h)
  · exact h2 h
  · exact g2 (Int32.not_lt.mp h)
  · exact g1 h
  · exact g1 (Int32.not_le.mp h)
  · exact g2 h
def aIf (cd : Jvm.ClassFile.Cond) (x y : aV) (pc : Nat) (off : Int) (A : aL) (r : List aV) (w : aW) : Option (List aS) := match aIv w.1 x, aIv w.1 y with
  | some _, some _ => if (pc : Int) + off < 0 then none else some ((match aTest cd true w.1 x y with | some e => [(((pc : Int) + off).toNat, A, r, (e, w.2))] | none => []) ++ (match aTest cd false w.1 x y with | some e => [(pc + 3, A, r, (e, w.2))] | none => []))
  | _, _ => none
theorem as_if {cd : Jvm.ClassFile.Cond} {x y : aV} {off : Int} {r : List aV} (hA : aLoc w ρ A L) (hB : aStk w ρ r st) (hW : aWor T sh0 w ρ sh M) (h : aIf cd x y pc off A r w = some l) : ∃ zx zy, aval ρ x = .int zx ∧ aval ρ y = .int zy ∧ ∃ σ, pBr (pC cd zx zy) pc off L st sh M = some (.inl σ) ∧ aNext T sh0 ρ w l σ := by
  unfold aIf at h
  split at h
  · rename_i qx qy hx hy
    split at h
    · cases h
    · rename_i hn
      cases h
      obtain ⟨zx, ex, -⟩ := aIv_ok hW.1 (show aIv w.1 x = some (qx.1, qx.2) from hx)
      obtain ⟨zy, ey, -⟩ := aIv_ok hW.1 (show aIv w.1 y = some (qy.1, qy.2) from hy)
      refine ⟨zx, zy, ex, ey, ?_⟩
      unfold pBr
      rw [if_neg hn]
      cases hb : pC cd zx zy with
      | true =>
        obtain ⟨e, h1, h2, h3⟩ := aTest_ok hW.1 hx hy ex ey hb
        refine ⟨_, rfl, aNext.mem (a := (((pc : Int) + off).toNat, A, r, (e, w.2))) (List.mem_append_left _ (by rw [h1]; exact List.mem_singleton.mpr rfl)) (aSub.rf _ _) (by rw [h3]; exact Nat.le_refl _) (aG.env hA hB hW h2 h3)⟩
      | false =>
        obtain ⟨e, h1, h2, h3⟩ := aTest_ok hW.1 hx hy ex ey hb
        refine ⟨_, rfl, aNext.mem (a := (pc + 3, A, r, (e, w.2))) (List.mem_append_right _ (by rw [h1]; exact List.mem_singleton.mpr rfl)) (aSub.rf _ _) (by rw [h3]; exact Nat.le_refl _) (aG.env hA hB hW h2 h3)⟩
  · cases h
def aIfC (cd : Jvm.ClassFile.Cond) (off : Int) (pc : Nat) (A : aL) (B : List aV) (w : aW) : Option (List aS) := match B with
  | x :: r => aIf cd x (0, 0) pc off A r w
  | _ => none
def aIcmp (cd : Jvm.ClassFile.Cond) (off : Int) (pc : Nat) (A : aL) (B : List aV) (w : aW) : Option (List aS) := match B with
  | y :: x :: r => aIf cd x y pc off A r w
  | _ => none
theorem as_ifCond {cd : Jvm.ClassFile.Cond} {off : Int} (hG : aG T sh0 ρ (pc, A, B, w) (pc, L, st, sh, M)) (h : aIfC cd off pc A B w = some l) : ∃ σ, (match st with
    | .int x :: r => pBr (pC cd x 0) pc off L r sh M
    | _ => none) = some (.inl σ) ∧ aNext T sh0 ρ w l σ := by
  unfold aIfC at h
  split at h
  · rename_i x r
    obtain ⟨st1, hst, hr, hx⟩ := aStk.cons hG.2.2.1
    obtain ⟨zx, zy, ex, ey, σ, h1, h2⟩ := as_if hG.2.1 hr hG.2.2.2 h
    have hst : st = .int zx :: st1 := by rw [← ex]; exact hst
    subst hst
    have hy : zy = 0 := by
      rw [aval_c hG.2.2.2.1.2.1] at ey
      exact (Value.int.inj ey).symm
    subst hy
    exact ⟨σ, h1, h2⟩
  · cases h
theorem as_icmp {cd : Jvm.ClassFile.Cond} {off : Int} (hG : aG T sh0 ρ (pc, A, B, w) (pc, L, st, sh, M)) (h : aIcmp cd off pc A B w = some l) : ∃ σ, (match st with
    | .int y :: .int x :: r => pBr (pC cd x y) pc off L r sh M
    | _ => none) = some (.inl σ) ∧ aNext T sh0 ρ w l σ := by
  unfold aIcmp at h
  split at h
  · rename_i y x r
    obtain ⟨st1, hst, hr, -⟩ := aStk.cons hG.2.2.1
    obtain ⟨st2, hst2, hr2, -⟩ := aStk.cons hr
    obtain ⟨zx, zy, ex, ey, σ, h1, h2⟩ := as_if hG.2.1 hr2 hG.2.2.2 h
    have hst : st = .int zy :: .int zx :: st2 := by rw [← ex, ← ey, ← hst2]; exact hst
    subst hst
    exact ⟨σ, h1, h2⟩
  · cases h
def aJp (pc : Nat) (off : Int) (A : aL) (B : List aV) (w : aW) : Option (List aS) := if (pc : Int) + off < 0 then none else aGo ((pc : Int) + off).toNat A B w
theorem as_jp {off : Int} (hA : aLoc w ρ A L) (hB : aStk w ρ B st) (hW : aWor T sh0 w ρ sh M) (h : aJp pc off A B w = some l) : ∃ σ, pJp pc off L st sh M = some (.inl σ) ∧ aNext T sh0 ρ w l σ := by
  unfold aJp at h
  unfold pJp
  split at h
  · cases h
  · rename_i hn
    rw [if_neg hn]
    cases h
    exact ⟨_, rfl, aNext.one (aSub.rf _ _) (Nat.le_refl _) hA hB hW⟩
end AJU

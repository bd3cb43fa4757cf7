/-! steps of the abstract machine: the JDK's own, constants, new objects -/
section AMK
variable {T : aT} {sh0 : pSh} {ρ ρ' : Nat → Value} {pc pc' : Nat} {A A' : aL} {B B' : List aV} {w w' : aW} {L L' : pLs} {st st' : List Value} {sh sh' : pSh} {M M' : pMem} {l : List aS}
def aCatS (env : List aE) (r : List aV) : Bool := decide ((r.map (fun a => if (aLg env a).isSome then 2 else 1)).sum ≤ 8)
theorem aCatS_ok {r : List aV} (hE : aEnv w.1 ρ) (hB : aStk w ρ r st) (h : aCatS w.1 r = true) : pCat st = true := by
  have h1 := of_decide_eq_true h
  refine decide_eq_true (Nat.le_trans ?_ h1)
  rw [hB.2]
  have hm := hB.1
  clear h h1 hB
  induction r with
  | nil => exact Nat.le_refl _
  | cons a r ih =>
    rw [List.map_cons, List.map_cons, List.map_cons, List.sum_cons, List.sum_cons]
    have h2 := ih (fun b hb => hm b (List.mem_cons_of_mem _ hb))
    have h3 : (aval ρ a).category ≤ (if (aLg w.1 a).isSome then 2 else 1) := by
      split
      · rcases lv_cat (aval ρ a) with z | z <;> omega
      · rename_i hn
        have := aLg_cat hE (hm a List.mem_cons_self) (by simpa using hn)
        rcases lv_cat (aval ρ a) with z | z
        · omega
        · exact absurd z this
    omega
def aMax (pc : Nat) (A : aL) (B : List aV) (w : aW) : Option (List aS) := match B with
  | y :: x :: r => if aCatS w.1 r then match aIv w.1 x, aIv w.1 y with
      | some (a, b), some (c, d) => if b ≤ c then aGo (pc + 3) A (y :: r) w else if d ≤ a then aGo (pc + 3) A (x :: r) w else aNewV (0, iMax a c, iMax b d, []) (pc + 3) A r w
      | _, _ => none
    else none
  | _ => none
def aMin (pc : Nat) (A : aL) (B : List aV) (w : aW) : Option (List aS) := match B with
  | y :: x :: r => if aCatS w.1 r then match aIv w.1 x, aIv w.1 y with
      | some (a, b), some (c, d) => if b ≤ c then aGo (pc + 3) A (x :: r) w else if d ≤ a then aGo (pc + 3) A (y :: r) w else aNewV (0, iMin a c, iMin b d, []) (pc + 3) A r w
      | _, _ => none
    else none
  | _ => none
def aAbs (pc : Nat) (A : aL) (B : List aV) (w : aW) : Option (List aS) := match B with
  | x :: r => if aCatS w.1 r then match aIv w.1 x with
      | some (a, b) => if 0 ≤ a then aGo (pc + 3) A (x :: r) w else if aLo32 < a then aNewV (0, 0, iMax (-a) b, []) (pc + 3) A r w else none
      | none => none
    else none
  | _ => none
/-- places of one array go to another -/
def aCpyOk (es ds : List aE) : Bool := es.all (fun e => ds.all (fun d => aSubE e d))
def aCopy (T : aT) (sh0 : pSh) (pc : Nat) (A : aL) (B : List aV) (w : aW) : Option (List aS) := match B with
  | n :: dp :: d :: sp :: s :: r => match aIv w.1 n, aIv w.1 dp, aIv w.1 sp, aRf w.1 d, aRf w.1 s with
    | some (n1, n2), some (d1, d2), some (s1, s2), some (false, [di]), some (false, [si]) =>
      if n1 = n2 ∧ d1 = d2 ∧ s1 = s2 ∧ 1 ≤ n1 ∧ 0 ≤ d1 ∧ 0 ≤ s1 ∧ aCatS w.1 r ∧ aClean w [si] s1.toNat (s1.toNat + n1.toNat - 1) ∧ di < w.2.2.2.2 ∧ si < w.2.2.2.2 then
        match sh0[si]?, sh0[di]?, aEnts T [si] s1.toNat (s1.toNat + n1.toNat - 1), aEnts T [di] d1.toNat (d1.toNat + n1.toNat - 1) with
        | some (k0, m0), some (k1, m1), some es, some ds => if k0 = k1 ∧ (k0 = 13 ∨ k0 = 14) ∧ s1.toNat + n1.toNat ≤ m0 ∧ d1.toNat + n1.toNat ≤ m1 ∧ es.all (fun e => aFits (pCk k0) e) then
            aGo (pc + 3) A r (w.1, w.2.1.filter (fun q => !(Nat.beq q.1.1 di)), w.2.2.1, (if aCpyOk es ds then w.2.2.2.1 else di :: w.2.2.2.1), w.2.2.2.2)
          else none
        | _, _, _, _ => none
      else none
    | _, _, _, _, _ => none
  | _ => none
def aJdkS (T : aT) (sh0 : pSh) (o idx pc : Nat) (A : aL) (B : List aV) (w : aW) : Option (List aS) := match (tJdk.getD o []).find? (fun e => e.1 == idx) with
  | some (_, 1) => aMax pc A B w
  | some (_, 2) => aMin pc A B w
  | some (_, 3) => aAbs pc A B w
  | some (_, 4) => aCopy T sh0 pc A B w
  | _ => none
theorem as_jdkS {o idx : Nat} (hG : aG T sh0 ρ (pc, A, B, w) (pc, L, st, sh, M)) (h : aJdkS T sh0 o idx pc A B w = some l) : ∃ σ, pJdkS o idx pc L st sh M = some (.inl σ) ∧ aNext T sh0 ρ w l σ := by
  unfold aJdkS at h
  unfold pJdkS
  split at h
  · rename_i q0 hf
    rw [hf]
    simp only
    unfold aMax at h
    split at h
    · rename_i y x r
      split at h
      · rename_i hc
        split at h
        · rename_i a b c d hx hy
          obtain ⟨zx, ex, x1, x2⟩ := aIv_ok hG.2.2.2.1 hx
          obtain ⟨zy, ey, y1, y2⟩ := aIv_ok hG.2.2.2.1 hy
          obtain ⟨st2, hst, hr⟩ := aStk.two hG.2.2.1 ex ey
          have hst : st = .int zy :: .int zx :: st2 := hst
          subst hst
          simp only [aCatS_ok hG.2.2.2.1 hr hc, if_true]
          have lx := (aIv_ne hx).2
          have ly := (aIv_ne hy).2
          split at h
          · rename_i hbc
            cases h
            have hm : (if zx < zy then zy else zx) = zy := by
              split
              · rfl
              · rename_i hn
                have : ¬ zx.toInt < zy.toInt := fun z => hn (Int32.lt_iff_toInt_lt.mpr z)
                exact Int32.toInt_inj.mp (by omega)
            rw [hm]
            exact ⟨_, rfl, aNext.one (aSub.rf _ _) (Nat.le_refl _) hG.2.1 (hr.push ly ey) hG.2.2.2⟩
          · split at h
            · rename_i hda
              cases h
              have hm : (if zx < zy then zy else zx) = zx := by
                split
                · rename_i hn
                  have : zx.toInt < zy.toInt := Int32.lt_iff_toInt_lt.mp hn
                  omega
                · rfl
              rw [hm]
              exact ⟨_, rfl, aNext.one (aSub.rf _ _) (Nat.le_refl _) hG.2.1 (hr.push lx ex) hG.2.2.2⟩
            · refine as_newV hG.2.1 hr hG.2.2.2 ?_ h
              have m1 := iMax_ge b d
              split
              · rename_i hn
                have : zx.toInt < zy.toInt := Int32.lt_iff_toInt_lt.mp hn
                exact satI (iMax_le (by omega) (by omega)) (by omega)
              · rename_i hn
                have : ¬ zx.toInt < zy.toInt := fun z => hn (Int32.lt_iff_toInt_lt.mpr z)
                exact satI (iMax_le (by omega) (by omega)) (by omega)
        · cases h
      · cases h
    · cases h
  · rename_i q0 hf
    rw [hf]
    simp only
    unfold aMin at h
    split at h
    · rename_i y x r
      split at h
      · rename_i hc
        split at h
        · rename_i a b c d hx hy
          obtain ⟨zx, ex, x1, x2⟩ := aIv_ok hG.2.2.2.1 hx
          obtain ⟨zy, ey, y1, y2⟩ := aIv_ok hG.2.2.2.1 hy
          obtain ⟨st2, hst, hr⟩ := aStk.two hG.2.2.1 ex ey
          have hst : st = .int zy :: .int zx :: st2 := hst
          subst hst
          simp only [aCatS_ok hG.2.2.2.1 hr hc, if_true]
          have lx := (aIv_ne hx).2
          have ly := (aIv_ne hy).2
          split at h
          · rename_i hbc
            cases h
            have hm : (if zy < zx then zy else zx) = zx := by
              split
              · rename_i hn
                have : zy.toInt < zx.toInt := Int32.lt_iff_toInt_lt.mp hn
                omega
              · rfl
            rw [hm]
            exact ⟨_, rfl, aNext.one (aSub.rf _ _) (Nat.le_refl _) hG.2.1 (hr.push lx ex) hG.2.2.2⟩
          · split at h
            · rename_i hda
              cases h
              have hm : (if zy < zx then zy else zx) = zy := by
                split
                · rfl
                · rename_i hn
                  have : ¬ zy.toInt < zx.toInt := fun z => hn (Int32.lt_iff_toInt_lt.mpr z)
                  exact Int32.toInt_inj.mp (by omega)
              rw [hm]
              exact ⟨_, rfl, aNext.one (aSub.rf _ _) (Nat.le_refl _) hG.2.1 (hr.push ly ey) hG.2.2.2⟩
            · refine as_newV hG.2.1 hr hG.2.2.2 ?_ h
              have m1 := iMin_le a c
              split
              · rename_i hn
                have : zy.toInt < zx.toInt := Int32.lt_iff_toInt_lt.mp hn
                exact satI (by omega) (le_iMin (by omega) (by omega))
              · rename_i hn
                have : ¬ zy.toInt < zx.toInt := fun z => hn (Int32.lt_iff_toInt_lt.mpr z)
                exact satI (by omega) (le_iMin (by omega) (by omega))
        · cases h
      · cases h
    · cases h
  · rename_i q0 hf
    rw [hf]
    simp only
    unfold aAbs at h
    split at h
    · rename_i x r
      split at h
      · rename_i hc
        split at h
        · rename_i a b hx
          obtain ⟨zx, ex, x1, x2⟩ := aIv_ok hG.2.2.2.1 hx
          obtain ⟨st2, hst, hr⟩ := aStk.top hG.2.2.1 ex
          have hst : st = .int zx :: st2 := hst
          subst hst
          simp only [aCatS_ok hG.2.2.2.1 hr hc, if_true]
          have z0 : (0 : Int32).toInt = 0 := rfl
          split at h
          · cases h
            have hm : (if 0 ≤ zx then zx else 0 - zx) = zx := if_pos (Int32.le_iff_toInt_le.mpr (by omega))
            rw [hm]
            exact ⟨_, rfl, aNext.one (aSub.rf _ _) (Nat.le_refl _) hG.2.1 (hr.push (aIv_ne hx).2 ex) hG.2.2.2⟩
          · split at h
            · rename_i hlo
              refine as_newV hG.2.1 hr hG.2.2.2 ?_ h
              have m1 := iMax_ge (-a) b
              split
              · rename_i hn
                have : (0 : Int32).toInt ≤ zx.toInt := Int32.le_iff_toInt_le.mp hn
                exact satI (by omega) (by omega)
              · rename_i hn
                have hneg : ¬ (0 : Int32).toInt ≤ zx.toInt := fun z => hn (Int32.le_iff_toInt_le.mpr z)
                have hr9 := i32_rng zx
                have e : (0 - zx).toInt = - zx.toInt := by
                  have e1 : (0 : Int32) - zx = Int32.ofInt (0 - zx.toInt) := by rw [Int32.ofInt_sub, Int32.ofInt_toInt]; rfl
                  rw [e1, i32_of (by unfold aLo32 at *; omega) (by unfold aLo32 aHi32 at *; omega)]
                  omega
                exact satI (by omega) (by omega)
            · cases h
        · cases h
      · cases h
    · cases h
  · rename_i q0 hf
    rw [hf]
    simp only
    unfold aCopy at h
    split at h
    · rename_i n dp d sp s r
      split at h
      · rename_i n1 n2 d1 d2 s1 s2 di si hn hd hs hrd hrs
        split at h
        · rename_i hc
          obtain ⟨rfl, rfl, rfl, hn1, hd0, hs0, hcat, hcl, hdi, hsi⟩ := hc
          split at h
          · rename_i k0 m0 k1 m1 es ds hso hdo hes hds
            split at h
            · rename_i hk
              cases h
              obtain ⟨rfl, hkd, hm0, hm1, hfit⟩ := hk
              obtain ⟨zn, en, a1, a2⟩ := aIv_ok hG.2.2.2.1 hn
              obtain ⟨zd, ed, b1, b2⟩ := aIv_ok hG.2.2.2.1 hd
              obtain ⟨zs, es0, c1, c2⟩ := aIv_ok hG.2.2.2.1 hs
              have vd : aval ρ d = .ref di := by
                rcases aRf_ok hG.2.2.2.1 hrd with ⟨-, z⟩ | ⟨i, hi, hv⟩
                · cases z
                · rw [hv, List.mem_singleton.mp hi]
              have vs : aval ρ s = .ref si := by
                rcases aRf_ok hG.2.2.2.1 hrs with ⟨-, z⟩ | ⟨i, hi, hv⟩
                · cases z
                · rw [hv, List.mem_singleton.mp hi]
              obtain ⟨t1, u1, r1⟩ := aStk.two hG.2.2.1 ed en
              obtain ⟨t2, u2, r2⟩ := aStk.two r1 es0 vd
              obtain ⟨t3, u3, r3⟩ := aStk.top r2 vs
              have hst : st = .int zn :: .int zd :: .ref di :: .int zs :: .ref si :: t3 := by rw [← u3, ← u2]; exact u1
              subst hst
              have hsh : sh = sh0.take w.2.2.2.2 := hG.2.2.2.2.2.2.1
              have q1 : (sh0.take w.2.2.2.2)[si]? = some (k0, m0) := by rw [List.getElem?_take, if_pos hsi, hso]
              have q2 : (sh0.take w.2.2.2.2)[di]? = some (k0, m1) := by rw [List.getElem?_take, if_pos hdi, hdo]
              have z0 : (0 : Int32).toInt = 0 := rfl
              have nn : zn.toNatClampNeg = n1.toNat := by show zn.toInt.toNat = _; omega
              have nd : zd.toNatClampNeg = d1.toNat := by show zd.toInt.toNat = _; omega
              have ns : zs.toNatClampNeg = s1.toNat := by show zs.toInt.toNat = _; omega
              have src : ∀ j, j < n1.toNat → ∃ e, e ∈ es ∧ satE e (M si (s1.toNat + j)) := by
                intro j hj
                obtain ⟨e, he, hty⟩ := aEnts_ok (i := si) (k := s1.toNat + j) (by omega) (by omega) hes List.mem_cons_self
                obtain ⟨g1, g2, g3⟩ := aClean_ok (i := si) (k := s1.toNat + j) hcl List.mem_cons_self (by omega) (by omega)
                exact ⟨e, he, hG.2.2.2.2.1 si _ e g1 g2 g3 hty⟩
              have hall : (List.range zn.toNatClampNeg).all (fun i => fits (pCk k0) (M si (zs.toNatClampNeg + i))) = true := by
                rw [List.all_eq_true]
                intro j hj
                have hj := List.mem_range.mp hj
                rw [ns]
                obtain ⟨e, he, hv⟩ := src j (by omega)
                exact (aFits_ok (List.all_eq_true.mp hfit e he) hv).2
              have neg : ∀ {z : Int32}, 0 ≤ z.toInt → ¬ z < 0 := fun hz hlt => by
                have := Int32.lt_iff_toInt_lt.mp hlt
                omega
              rw [hsh]
              simp only
              rw [q1, q2]
              simp only
              rw [if_pos ⟨trivial, hkd, hall, neg (by omega), neg (by omega), neg (by omega), by omega, by omega, aCatS_ok hG.2.2.2.1 r3 hcat⟩]
              refine ⟨_, rfl, aNext.one (aSub.rf _ _) (Nat.le_refl _) (hG.2.1.ext (aSub.rf _ _) (Nat.le_refl _)) (r3.ext (aSub.rf _ _) (Nat.le_refl _)) ⟨hG.2.2.2.1, ?_, ?_, rfl, hG.2.2.2.2.2.2.2⟩⟩
              · intro o' k' e' g1 g2 g3 g4
                have g2 : o' ∉ (if aCpyOk es ds then w.2.2.2.1 else di :: w.2.2.2.1) := g2
                have g2' : o' ∉ w.2.2.2.1 := fun hm => g2 (by split; exact hm; exact List.mem_cons_of_mem _ hm)
                by_cases ho : o' = di
                · subst ho
                  unfold pCpy
                  by_cases hin : d1.toNat ≤ k' ∧ k' < d1.toNat + n1.toNat
                  · have h6 : Nat.ble zd.toNatClampNeg k' = true := Nat.ble_eq_true_of_le (by omega)
                    have h7 : Nat.blt k' (zd.toNatClampNeg + zn.toNatClampNeg) = true := Nat.ble_eq_true_of_le (by omega)
                    simp only [Nat.beq_refl, h6, h7, Bool.and_self, cond_true]
                    obtain ⟨e, he, hv⟩ := src (k' - d1.toNat) (by omega)
                    split at g2
                    · rename_i hcp
                      obtain ⟨e9, he9, hty9⟩ := aEnts_ok (i := o') (k := k') (by omega) (by omega) hds List.mem_cons_self
                      have he8 : e9 = e' := Option.some.inj (hty9.symm.trans g4)
                      have := List.all_eq_true.mp (List.all_eq_true.mp hcp e he) e9 he9
                      rw [he8] at this
                      rw [ns, nd]
                      exact aSubE_ok this hv
                    · exact absurd List.mem_cons_self g2
                  · have h8 : (Nat.ble zd.toNatClampNeg k' && Nat.blt k' (zd.toNatClampNeg + zn.toNatClampNeg)) = false := by
                      cases h1 : Nat.ble zd.toNatClampNeg k' with
                      | false => rfl
                      | true =>
                        cases h2 : Nat.blt k' (zd.toNatClampNeg + zn.toNatClampNeg) with
                        | false => rfl
                        | true => exact absurd ⟨by have := Nat.le_of_ble_eq_true h1; omega, by have := Nat.le_of_ble_eq_true h2; omega⟩ hin
                    simp only [h8, Bool.and_false, cond_false]
                    exact hG.2.2.2.2.1 o' k' e' g1 g2' g3 g4
                · rw [pCpy_obj _ _ _ _ _ _ ho]
                  exact hG.2.2.2.2.1 o' k' e' g1 g2' g3 g4
              · intro q hq
                obtain ⟨hq1, hq2⟩ := List.mem_filter.mp hq
                obtain ⟨g1, g2⟩ := hG.2.2.2.2.2.1 q hq1
                refine ⟨g1, ?_⟩
                have hne : q.1.1 ≠ di := by
                  intro z
                  rw [z] at hq2
                  simp at hq2
                rw [pCpy_obj _ _ _ _ _ _ hne]
                exact g2
            · cases h
          · cases h
        · cases h
      · cases h
    · cases h
  · cases h
def aJdkI (o idx pc : Nat) (A : aL) (B : List aV) (w : aW) : Option (List aS) := match (tJdk.getD o []).find? (fun e => e.1 == idx) with
  | some (_, 0) => (match B with
    | x :: r => (match aRf w.1 x with
      | some (false, _) => if aCatS w.1 r then aGo (pc + 3) A r w else none
      | _ => none)
    | _ => none)
  | _ => none
theorem as_jdkI {o idx : Nat} (hG : aG T sh0 ρ (pc, A, B, w) (pc, L, st, sh, M)) (h : aJdkI o idx pc A B w = some l) : ∃ σ, pJdkI o idx pc L st sh M = some (.inl σ) ∧ aNext T sh0 ρ w l σ := by
  unfold aJdkI at h
  unfold pJdkI
  split at h
  · rename_i q0 hf
    rw [hf]
    simp only
    split at h
    · split at h
      · rename_i x r ids hq
        split at h
        · rename_i hc
          cases h
          rcases aRf_ok hG.2.2.2.1 hq with ⟨-, hn⟩ | ⟨i, hi, hv⟩
          · cases hn
          · obtain ⟨st2, hst, hr⟩ := aStk.top hG.2.2.1 hv
            have hst : st = .ref i :: st2 := hst
            subst hst
            simp only [aCatS_ok hG.2.2.2.1 hr hc, if_true]
            exact ⟨_, rfl, aNext.one (aSub.rf _ _) (Nat.le_refl _) hG.2.1 hr hG.2.2.2⟩
        · cases h
      · cases h
    · cases h
  · cases h
end AMK

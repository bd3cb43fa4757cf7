/-! steps of the abstract machine: arrays, the JDK's own -/
section AAR
variable {T : aT} {sh0 : pSh} {ρ ρ' : Nat → Value} {pc pc' : Nat} {A A' : aL} {B B' : List aV} {w w' : aW} {L L' : pLs} {st st' : List Value} {sh sh' : pSh} {M M' : pMem} {l : List aS}
/-- which loads take which arrays, and give what -/
def aLdK (i : Instr) (k : Nat) (w : aW) (v : aV) : Bool := match i with
  | .iaload => Nat.beq k 13 && (aIv w.1 v).isSome
  | .baload => Nat.beq k 14 && (aIv w.1 v).isSome
  | .laload => Nat.beq k 15 && (aLg w.1 v).isSome
  | .aaload => (Nat.ble 16 k && Nat.ble k 18) && match aRf w.1 v with | some (false, _) => true | _ => false
  | _ => false
/-- the script, as the abstract machine knows it: how long, its first symbol -/
abbrev aScr : Type := Option (Nat × Nat)
def aScOk (Sa : aScr) (S : pScr) (w : aW) (ρ : Nat → Value) : Prop := match Sa with
  | none => True
  | some (n, b) => ∃ xs, S = some (n, xs) ∧ 2 ≤ b ∧ b + n ≤ w.1.length ∧ ∀ k, k < n → ρ (b + k) = .int (xs k)
def aArrLd (T : aT) (sh0 : pSh) (Sa : aScr) (i : Instr) (pc : Nat) (A : aL) (B : List aV) (w : aW) : Option (List aS) := match B with
  | j :: a :: r => match aIv w.1 j with
    | some (lo, hi) => if aScrV w.1 a then (match Sa, i with
          | some (n, b), .iaload => if lo = hi ∧ 0 ≤ lo ∧ hi < (n : Int) then aGo (pc + 1) A ((b + lo.toNat, 0) :: r) w else none
          | _, _ => none)
        else match aRf w.1 a with
          | some (false, ids) => if 0 ≤ lo then match aRead T w ids lo.toNat hi.toNat with
              | some (v, w') => if aObj sh0 w.2.2.2.2 ids (fun k n => Nat.blt hi.toNat n && aLdK i k w' v) then aGo (pc + 1) A (v :: r) w' else none
              | none => none
            else none
          | _ => none
    | none => none
  | _ => none
theorem pIn_mk {j : Int32} {n : Nat} {lo hi : Int} (h0 : 0 ≤ lo) (h1 : lo ≤ j.toInt) (h2 : j.toInt ≤ hi) (h3 : hi.toNat < n) : pIn j n = true ∧ lo.toNat ≤ j.toNatClampNeg ∧ j.toNatClampNeg ≤ hi.toNat := by
  have e : j.toNatClampNeg = j.toInt.toNat := rfl
  refine ⟨decide_eq_true ?_, by omega, by omega⟩
  rintro (h | h)
  · have : j.toInt < 0 := Int32.lt_iff_toInt_lt.mp h
    omega
  · omega
theorem as_arrLd {Sa : aScr} {S : pScr} {i : Instr} (hS : aScOk Sa S w ρ) (hG : aG T sh0 ρ (pc, A, B, w) (pc, L, st, sh, M)) (h : aArrLd T sh0 Sa i pc A B w = some l) : ∃ σ, pArrLd S i pc L st sh M = some (.inl σ) ∧ aNext T sh0 ρ w l σ := by
  unfold aArrLd at h
  split at h
  · rename_i j a r
    split at h
    · rename_i lo hi hj
      obtain ⟨z, hz, z1, z2⟩ := aIv_ok hG.2.2.2.1 hj
      split at h
      · rename_i hsc
        have hv := aScrV_ok hG.2.2.2.1 hsc
        obtain ⟨st2, hst, hrs⟩ := aStk.two hG.2.2.1 hv hz
        have hst : st = .int z :: .retAddr 1 :: st2 := hst
        subst hst
        split at h
        · rename_i n b
          split at h
          · rename_i hc
            cases h
            obtain ⟨xs, hS1, hb2, hbn, hxs⟩ := hS
            subst hS1
            have e : z.toNatClampNeg = lo.toNat := by
              show z.toInt.toNat = lo.toNat
              omega
            obtain ⟨p1, -, -⟩ := pIn_mk (n := n) hc.2.1 z1 z2 (by omega)
            unfold pArrLd
            simp only [p1, if_true]
            refine ⟨_, rfl, aNext.one (aSub.rf _ _) (Nat.le_refl _) hG.2.1 (hrs.push (by show b + lo.toNat < w.1.length; omega) ?_) hG.2.2.2⟩
            unfold aval
            rw [if_neg (by show ¬ b + lo.toNat = 1; omega)]
            show (match ρ (b + lo.toNat) with | .int z => Value.int (z + Int32.ofInt 0) | v => v) = _
            rw [hxs _ (by omega), e]
            show Value.int (_ + 0) = _
            rw [Int32.add_zero]
          · cases h
        · cases h
      · split at h
        · rename_i ids hq
          split at h
          · rename_i h0
            split at h
            · rename_i v w' hrd
              split at h
              · rename_i ho
                cases h
                rcases aRf_ok hG.2.2.2.1 hq with ⟨-, hn⟩ | ⟨q, hi9, hv⟩
                · cases hn
                · obtain ⟨st2, hst, hrs⟩ := aStk.two hG.2.2.1 hv hz
                  have hst : st = .int z :: .ref q :: st2 := hst
                  subst hst
                  obtain ⟨kd, n, hs, hp⟩ := aObj_ok ho hi9
                  rw [Bool.and_eq_true] at hp
                  have hlt : hi.toNat < n := by simpa using hp.1
                  have hsh : sh = sh0.take w.2.2.2.2 := hG.2.2.2.2.2.2.1
                  obtain ⟨p1, p2, p3⟩ := pIn_mk h0 z1 z2 hlt
                  obtain ⟨ρ', g1, g2, g3, g4, g5, g6⟩ := aRead_ok hrd hG.2.2.2 hi9 p2 p3
                  have g4 : M q z.toNatClampNeg = aval ρ' v := g4
                  have fin : ∀ u, aval ρ' v = u → aNext T sh0 ρ w [(pc + 1, A, v :: r, w')] (pc + 1, L, u :: st2, sh, M) := fun u hu => aNext.one g1 g5 (hG.2.1.ext g1 g5) ((hrs.ext g1 g5).push g3 hu) g2
                  unfold pArrLd
                  simp only
                  rw [hsh, hs]
                  rw [hsh] at fin
                  simp only [p1, if_true]
                  have hk := hp.2
                  unfold aLdK at hk
                  split at hk
                  · rw [Bool.and_eq_true] at hk
                    have e1 : kd = 13 := Nat.eq_of_beq_eq_true hk.1
                    subst e1
                    obtain ⟨q9, hq9⟩ := Option.isSome_iff_exists.mp hk.2
                    obtain ⟨zz, hzz, -⟩ := aIv_ok g2.1 (show aIv w'.1 v = some (q9.1, q9.2) from hq9)
                    rw [g4, hzz]
                    exact ⟨_, rfl, fin _ hzz⟩
                  · rw [Bool.and_eq_true] at hk
                    have e1 : kd = 14 := Nat.eq_of_beq_eq_true hk.1
                    subst e1
                    obtain ⟨q9, hq9⟩ := Option.isSome_iff_exists.mp hk.2
                    obtain ⟨zz, hzz, -⟩ := aIv_ok g2.1 (show aIv w'.1 v = some (q9.1, q9.2) from hq9)
                    rw [g4, hzz]
                    exact ⟨_, rfl, fin _ hzz⟩
                  · rw [Bool.and_eq_true] at hk
                    have e1 : kd = 15 := Nat.eq_of_beq_eq_true hk.1
                    subst e1
                    obtain ⟨q9, hq9⟩ := Option.isSome_iff_exists.mp hk.2
                    obtain ⟨zz, hzz, -⟩ := aLg_ok g2.1 (show aLg w'.1 v = some (q9.1, q9.2) from hq9)
                    rw [g4, hzz]
                    exact ⟨_, rfl, fin _ hzz⟩
                  · rw [Bool.and_eq_true, Bool.and_eq_true] at hk
                    obtain ⟨⟨k1, k2⟩, k3⟩ := hk
                    split at k3
                    · rename_i ids9 hrf
                      rcases aRf_ok g2.1 hrf with ⟨-, hn⟩ | ⟨q8, -, hv8⟩
                      · cases hn
                      · have k1 := Nat.le_of_ble_eq_true k1
                        have k2 := Nat.le_of_ble_eq_true k2
                        rcases (show kd = 16 ∨ kd = 17 ∨ kd = 18 by omega) with rfl | rfl | rfl
                        · rw [g4, hv8]
                          exact ⟨_, rfl, fin _ hv8⟩
                        · rw [g4, hv8]
                          exact ⟨_, rfl, fin _ hv8⟩
                        · rw [g4, hv8]
                          exact ⟨_, rfl, fin _ hv8⟩
                    · cases k3
                  · cases hk
              · cases h
            · cases h
          · cases h
        · cases h
    · cases h
  · cases h
/-- which stores take which values -/
def aStK (i : Instr) (k : Nat) (env : List aE) (v : aV) (ob : Nat → Bool) : Bool := match i with
  | .iastore => Nat.beq k 13 && (aIv env v).isSome
  | .bastore => Nat.beq k 14 && match aIv env v with | some (lo, hi) => decide (0 ≤ lo ∧ hi ≤ 1) | none => false
  | .lastore => Nat.beq k 15 && (aLg env v).isSome
  | .aastore => (Nat.beq k 17 && ob 8) || (Nat.beq k 18 && ob 7)
  | _ => false
/-- the value is an object of class c -/
def aOfC (sh0 : pSh) (w : aW) (v : aV) (c : Nat) : Bool := match aRf w.1 v with
  | some (false, ids) => aObj sh0 w.2.2.2.2 ids (fun k _ => Nat.beq k c)
  | _ => false
theorem aOfC_ok {v : aV} {c : Nat} (hE : aEnv w.1 ρ) (h : aOfC sh0 w v c = true) : ∃ i n, aval ρ v = .ref i ∧ (sh0.take w.2.2.2.2)[i]? = some (c, n) := by
  unfold aOfC at h
  split at h
  · rename_i ids hq
    rcases aRf_ok hE hq with ⟨-, hn⟩ | ⟨i, hi, hv⟩
    · cases hn
    · obtain ⟨k, m, h1, h2⟩ := aObj_ok h hi
      have : k = c := Nat.eq_of_beq_eq_true h2
      subst this
      exact ⟨i, m, hv, h1⟩
  · cases h
def aArrSt (T : aT) (sh0 : pSh) (i : Instr) (pc : Nat) (A : aL) (B : List aV) (w : aW) : Option (List aS) := match B with
  | v :: j :: a :: r => match aIv w.1 j, aRf w.1 a with
    | some (lo, hi), some (false, ids) => if 0 ≤ lo ∧ aObj sh0 w.2.2.2.2 ids (fun k n => Nat.blt hi.toNat n && aStK i k w.1 v (fun c => aOfC sh0 w v c)) then match aWrite T w ids lo.toNat hi.toNat v with
        | some w' => aGo (pc + 1) A r w'
        | none => none
      else none
    | _, _ => none
  | _ => none
theorem as_arrSt {i : Instr} (hG : aG T sh0 ρ (pc, A, B, w) (pc, L, st, sh, M)) (h : aArrSt T sh0 i pc A B w = some l) : ∃ σ, pArrSt i pc L st sh M = some (.inl σ) ∧ aNext T sh0 ρ w l σ := by
  unfold aArrSt at h
  split at h
  · rename_i v j a r
    split at h
    · rename_i lo hi ids hj hq
      split at h
      · rename_i hc
        split at h
        · rename_i w' hw
          cases h
          obtain ⟨z, hz, z1, z2⟩ := aIv_ok hG.2.2.2.1 hj
          rcases aRf_ok hG.2.2.2.1 hq with ⟨-, hn⟩ | ⟨q, hi9, hv⟩
          · cases hn
          · obtain ⟨st1, hst1, hr1, hlv⟩ := aStk.cons hG.2.2.1
            obtain ⟨st2, hst2, hrs⟩ := aStk.two hr1 hv hz
            have hst : st = aval ρ v :: .int z :: .ref q :: st2 := by rw [← hst2]; exact hst1
            subst hst
            obtain ⟨kd, n, hs, hp⟩ := aObj_ok hc.2 hi9
            rw [Bool.and_eq_true] at hp
            have hlt : hi.toNat < n := by simpa using hp.1
            have hsh : sh = sh0.take w.2.2.2.2 := hG.2.2.2.2.2.2.1
            obtain ⟨p1, p2, p3⟩ := pIn_mk hc.1 z1 z2 hlt
            obtain ⟨g1, g2⟩ := aWrite_ok hw hG.2.2.2 hlv hi9 p2 p3
            have hle : w.1.length ≤ w'.1.length := by rw [g2]; exact Nat.le_refl _
            have fin : aNext T sh0 ρ w [(pc + 1, A, r, w')] (pc + 1, L, st2, sh, pUp M q z.toNatClampNeg (aval ρ v)) := aNext.one (aSub.rf _ _) hle (hG.2.1.ext (aSub.rf _ _) hle) (hrs.ext (aSub.rf _ _) hle) g1
            unfold pArrSt
            simp only
            rw [hsh, hs]
            rw [hsh] at fin
            simp only [p1, if_true]
            have hk := hp.2
            unfold aStK at hk
            split at hk
            · rw [Bool.and_eq_true] at hk
              have e1 : kd = 13 := Nat.eq_of_beq_eq_true hk.1
              subst e1
              obtain ⟨q9, hq9⟩ := Option.isSome_iff_exists.mp hk.2
              obtain ⟨zz, hzz, -⟩ := aIv_ok hG.2.2.2.1 (show aIv w.1 v = some (q9.1, q9.2) from hq9)
              rw [hzz] at fin ⊢
              exact ⟨_, rfl, fin⟩
            · rw [Bool.and_eq_true] at hk
              have e1 : kd = 14 := Nat.eq_of_beq_eq_true hk.1
              subst e1
              have hk2 := hk.2
              split at hk2
              · rename_i lo9 hi8 hq9
                have hk2 := of_decide_eq_true hk2
                obtain ⟨zz, hzz, y1, y2⟩ := aIv_ok hG.2.2.2.1 hq9
                rw [hzz] at fin ⊢
                have hb : zz &&& 1 = zz := by
                  rcases i32_bit (z := zz) (by omega) (by omega) with rfl | rfl <;> rfl
                simp only [hb]
                exact ⟨_, rfl, fin⟩
              · cases hk2
            · rw [Bool.and_eq_true] at hk
              have e1 : kd = 15 := Nat.eq_of_beq_eq_true hk.1
              subst e1
              obtain ⟨q9, hq9⟩ := Option.isSome_iff_exists.mp hk.2
              obtain ⟨zz, hzz, -⟩ := aLg_ok hG.2.2.2.1 (show aLg w.1 v = some (q9.1, q9.2) from hq9)
              rw [hzz] at fin ⊢
              exact ⟨_, rfl, fin⟩
            · rw [Bool.or_eq_true, Bool.and_eq_true, Bool.and_eq_true] at hk
              rcases hk with ⟨k1, k2⟩ | ⟨k1, k2⟩
              · have e1 : kd = 17 := Nat.eq_of_beq_eq_true k1
                subst e1
                obtain ⟨o9, n9, hv9, hs9⟩ := aOfC_ok hG.2.2.2.1 k2
                have hs9 : (List.take w.2.2.2.2 sh0)[o9]? = some (8, n9) := hs9
                rw [hv9] at fin ⊢
                simp only [hs9]
                exact ⟨_, rfl, fin⟩
              · have e1 : kd = 18 := Nat.eq_of_beq_eq_true k1
                subst e1
                obtain ⟨o9, n9, hv9, hs9⟩ := aOfC_ok hG.2.2.2.1 k2
                have hs9 : (List.take w.2.2.2.2 sh0)[o9]? = some (7, n9) := hs9
                rw [hv9] at fin ⊢
                simp only [hs9]
                exact ⟨_, rfl, fin⟩
            · cases hk
        · cases h
      · cases h
    · cases h
  · cases h
def aLen (sh0 : pSh) (Sa : aScr) (pc : Nat) (A : aL) (B : List aV) (w : aW) : Option (List aS) := match B with
  | a :: r => if aScrV w.1 a then (match Sa with
      | some (n, _) => if n < 2147483648 then aGo (pc + 1) A ((0, (n : Int)) :: r) w else none
      | none => none)
    else match aRf w.1 a with
      | some (false, i :: is) => match sh0[i]? with
        | some (_, n) => if n < 2147483648 ∧ aObj sh0 w.2.2.2.2 (i :: is) (fun k m => Nat.ble 13 k && (Nat.blt k 19 && Nat.beq m n)) then aGo (pc + 1) A ((0, (n : Int)) :: r) w else none
        | none => none
      | _ => none
  | _ => none
theorem as_len {Sa : aScr} {S : pScr} (hS : aScOk Sa S w ρ) (hG : aG T sh0 ρ (pc, A, B, w) (pc, L, st, sh, M)) (h : aLen sh0 Sa pc A B w = some l) : ∃ σ, pLen S pc L st sh M = some (.inl σ) ∧ aNext T sh0 ρ w l σ := by
  have e0 : 0 < w.1.length := Nat.lt_of_lt_of_le (by decide) hG.2.2.2.1.1
  have ev : ∀ n : Nat, aval ρ (0, (n : Int)) = .int (Int32.ofNat n) := fun n => by
    rw [aval_c hG.2.2.2.1.2.1]
    rfl
  unfold aLen at h
  split at h
  · rename_i a r
    split at h
    · rename_i hsc
      have hv := aScrV_ok hG.2.2.2.1 hsc
      obtain ⟨st2, hst, hrs⟩ := aStk.top hG.2.2.1 hv
      have hst : st = .retAddr 1 :: st2 := hst
      subst hst
      split at h
      · rename_i n b
        split at h
        · cases h
          obtain ⟨xs, hS1, -⟩ := hS
          subst hS1
          exact ⟨_, rfl, aNext.one (aSub.rf _ _) (Nat.le_refl _) hG.2.1 (hrs.push e0 (ev n)) hG.2.2.2⟩
        · cases h
      · cases h
    · split at h
      · rename_i i is hq
        split at h
        · rename_i k0 n hs0
          split at h
          · rename_i hc
            cases h
            rcases aRf_ok hG.2.2.2.1 hq with ⟨-, hn⟩ | ⟨q, hi9, hv⟩
            · cases hn
            · obtain ⟨st2, hst, hrs⟩ := aStk.top hG.2.2.1 hv
              have hst : st = .ref q :: st2 := hst
              subst hst
              obtain ⟨kd, m, hs, hp⟩ := aObj_ok hc.2 hi9
              rw [Bool.and_eq_true, Bool.and_eq_true] at hp
              have h1 := Nat.le_of_ble_eq_true hp.1
              have h2 : kd < 19 := by simpa using hp.2.1
              have h3 : m = n := Nat.eq_of_beq_eq_true hp.2.2
              subst h3
              have hsh : sh = sh0.take w.2.2.2.2 := hG.2.2.2.2.2.2.1
              unfold pLen
              simp only
              rw [hsh, hs]
              simp only [if_pos (show 13 ≤ kd ∧ kd < 19 from ⟨h1, h2⟩)]
              exact ⟨_, rfl, aNext.one (aSub.rf _ _) (Nat.le_refl _) hG.2.1 (hrs.push e0 (ev m)) (by rw [← hsh]; exact hG.2.2.2)⟩
          · cases h
        · cases h
      · cases h
  · cases h
end AAR

/-! by hand, printed by wip/gen/gen45.py -/
theorem hI_d1 (a : Nat) (h : 1 ≤ a) : nI a + Int32.ofInt (-1) = nI (a - 1) := by
  obtain ⟨b, rfl⟩ : ∃ b, a = b + 1 := ⟨a - 1, by omega⟩
  rw [show b + 1 - 1 = b by omega]
  exact hI_dec2 b
theorem hI_d2 (a : Nat) (h : 2 ≤ a) : nI a + Int32.ofInt (-2) = nI (a - 2) := by
  rw [show Int32.ofInt (-2) = Int32.ofInt (-1) + Int32.ofInt (-1) by decide, ← Int32.add_assoc, hI_d1 a (by omega), hI_d1 (a - 1) (by omega), show a - 1 - 1 = a - 2 by omega]
/-- kinds of the places that the reckoner uses -/
def pWL : List ((Nat × Nat) × aE) := [((185, 25), (1, 0, 0, [191])), ((185, 26), (1, 0, 0, [192])), ((185, 27), (1, 0, 0, [193])), ((186, 3), (0, -1, 3, []))]
def pW (τ : fT) : Prop := pT τ ∧ (∀ q ∈ pWL, rowAt (τ q.1.1) q.1.2 = some q.2) ∧ τ 191 = [(11, eA)] ∧ τ 192 = [(330, eL)] ∧ τ 193 = [(330, (0, 0, 1, []))]
section PWY
variable {τ : fT} {M : pMem}
theorem pwy (hT : pW τ) (hM : tyM (tOf τ) M) (i : Nat) {o k : Nat} {e : aE} (h : pWL[i]? = some ((o, k), e)) (ho : Nat.ble (o + 1) 205 = true) : satE e (M o k) := hM o k e (Nat.le_of_ble_eq_true ho) (by rw [tyAt_row hT.1.1]; exact hT.2.1 _ (List.mem_of_getElem? h))
theorem pt191 (hT : pW τ) (hM : tyM (tOf τ) M) {k : Nat} (h : k < 11) : ∃ z, M 191 k = .int z := by
  obtain ⟨z, h1, -⟩ := ty_int (hM 191 k eA (by decide) (by rw [tyAt_row hT.1.1]; show rowAt (τ 191) k = _; rw [hT.2.2.1]; exact row1_at h))
  exact ⟨z, h1⟩
theorem pt192 (hT : pW τ) (hM : tyM (tOf τ) M) {k : Nat} (h : k < 330) : ∃ z, M 192 k = .long z := by
  obtain ⟨z, h1, -⟩ := hM 192 k eL (by decide) (by rw [tyAt_row hT.1.1]; show rowAt (τ 192) k = _; rw [hT.2.2.2.1]; exact row1_at h)
  exact ⟨z, h1⟩
theorem pt193 (hT : pW τ) (hM : tyM (tOf τ) M) {k : Nat} (h : k < 330) : ∃ n : Nat, n ≤ 1 ∧ M 193 k = .int (nI n) := by
  obtain ⟨n, h1, h2⟩ := ty_nat (hM 193 k (0, 0, 1, []) (by decide) (by rw [tyAt_row hT.1.1]; show rowAt (τ 193) k = _; rw [hT.2.2.2.2]; exact row1_at h))
  exact ⟨n, by omega, h2⟩
theorem pu192 (hT : pW τ) (hM : tyM (tOf τ) M) {k : Nat} (h : k < 330) (z : Int64) : tyM (tOf τ) (pUp M 192 k (.long z)) := tyM_up hM (e := eL) (by rw [tyAt_row hT.1.1]; show rowAt (τ 192) k = _; rw [hT.2.2.2.1]; exact row1_at h) (sat_l z)
theorem pu193 (hT : pW τ) (hM : tyM (tOf τ) M) {k : Nat} (h : k < 330) {z : Int32} (hz : 0 ≤ z.toInt ∧ z.toInt ≤ 1) : tyM (tOf τ) (pUp M 193 k (.int z)) := tyM_up hM (e := (0, 0, 1, [])) (by rw [tyAt_row hT.1.1]; show rowAt (τ 193) k = _; rw [hT.2.2.2.2]; exact row1_at h) ⟨z, rfl, hz.1, hz.2⟩
end PWY
theorem and1 (z : Int32) : 0 ≤ (z &&& 1).toInt ∧ (z &&& 1).toInt ≤ 1 := by
  have h : (z &&& 1).toInt = ((z.toBitVec &&& 1#32).toInt) := by
    show ((z &&& 1).toBitVec).toInt = _
    rw [Int32.toBitVec_and]
    rfl
  have h2 : (z.toBitVec &&& 1#32).toNat ≤ 1 := by
    rw [BitVec.toNat_and]
    exact Nat.and_le_right
  rw [h, BitVec.toInt_eq_toNat_of_lt (by omega)]
  omega
/-- what the machine tells of two and isAsked -/
def WH (τ : fT) (S : pScr) (dW : Nat) : Prop := cnOk τ S dW 208 ([(0, 3, 6, []), eL, eL], [eL], some [], [], []) ∧ cnOk τ S dW 209 ([(0, 10, 15, []), eL, eL], [(0, 0, 1, [])], some [], [], [])
theorem c_pureL {τ : fT} {S : pScr} {d m : Nat} {es : List aE} {vs : List Value} {M : pMem} (h : cnOk τ S d m (es, [eL], some [], [], [])) (hvs : satS es vs) (hM : tyM (tOf τ) M) (hg : gR M) : ∃ z : Int64, cOk S d m vs (gSh, M) (fun r hp => r = some (.long z) ∧ hp = (gSh, M)) := by
  obtain ⟨v, ⟨sh2, M2⟩, ⟨k1, k2, k3, k4, k5⟩, k6⟩ := c_fix (h vs M hvs hM hg (fun q hq => by cases hq))
  have e1 : M2 = M := funext fun o => k4.1 o (fun hz => by cases hz)
  have k1 : sh2 = gSh := k1
  subst e1 k1
  cases v with
  | none => exact k3.elim
  | some v =>
    obtain ⟨z, hz, z1, z2⟩ := k3.1
    have hz : v = .long z := hz
    exact ⟨z, k6.mono (fun r hp h => ⟨by rw [h.1, hz], h.2⟩)⟩
def WF (M0 M : pMem) : Prop := ∀ o, o ≠ 192 → o ≠ 193 → M o = M0 o
theorem WF.gr {M0 M : pMem} (h : WF M0 M) (hg : gR M0) : gR M := gR_keep (h 188 (by decide) (by decide)) (h 187 (by decide) (by decide)) (fun k _ => by rw [h 186 (by decide) (by decide)]) hg
abbrev wkK (S : pScr) (d : Nat) (Q : Option Value → pHp → Prop) (σ : pSt) : Prop := pOk S 12 false 10 (pCode 210) d (fun i len τ' => ∃ v, pRet none i len τ'.2.2.1 = some v ∧ Q v (τ'.2.2.2.1, τ'.2.2.2.2)) σ
theorem wk_loop {S : pScr} {d dW t c i0 j : Nat} {Dp : Nat → Nat × Nat} {τ : fT} {M0 : pMem} {Q : Option Value → pHp → Prop} (hT : pW τ) (hH : WH τ S dW) (hg : gR M0) (ht : t < 4) (hc : c < 12) (hj : M0 188 (800 * t + 1 + 4 * c + 3) = .int (nI j)) (hj3 : j ≤ 300) (hD : ∀ k, i0 ≤ k → k < j → isI (M0 188 (800 * t + 60 + 2 * k)) ∧ isI (M0 188 (800 * t + 60 + 2 * k + 1)) ∧ opOk (vI (M0 188 (800 * t + 60 + 2 * k))) (vI (M0 188 (800 * t + 60 + 2 * k + 1))) (Dp k) (Dp (k + 1))) (hQ : ∀ M, tyM (tOf τ) M → WF M0 M → Q none (gSh, M)) : ∀ (r i dv dt : Nat) (M : pMem) (L : pLs), i + r = j → i0 ≤ i → Dp i = (dv, dt) → dv + i0 ≤ i → dt + i0 ≤ i → tyM (tOf τ) M → WF M0 M → (L = [(7, .int (nI i)), (6, .int (nI dt)), (5, .int (nI dv)), (4, .int (nI (800 * t + 60))), (3, .int (nI (800 * t + 1 + 4 * c))), (0, .ref 185), (1, .int (nI t)), (2, .int (nI c))] ∨ ∃ y8 y9 : Int32, L = [(7, .int (nI i)), (9, .int y9), (8, .int y8), (5, .int (nI dv)), (6, .int (nI dt)), (4, .int (nI (800 * t + 60))), (3, .int (nI (800 * t + 1 + 4 * c))), (0, .ref 185), (1, .int (nI t)), (2, .int (nI c))] ∨ L = [(7, .int (nI i)), (9, .int y9), (8, .int y8), (6, .int (nI dt)), (5, .int (nI dv)), (4, .int (nI (800 * t + 60))), (3, .int (nI (800 * t + 1 + 4 * c))), (0, .ref 185), (1, .int (nI t)), (2, .int (nI c))] ∨ L = [(7, .int (nI i)), (5, .int (nI dv)), (9, .int y9), (8, .int y8), (6, .int (nI dt)), (4, .int (nI (800 * t + 60))), (3, .int (nI (800 * t + 1 + 4 * c))), (0, .ref 185), (1, .int (nI t)), (2, .int (nI c))] ∨ L = [(7, .int (nI i)), (6, .int (nI dt)), (9, .int y9), (8, .int y8), (5, .int (nI dv)), (4, .int (nI (800 * t + 60))), (3, .int (nI (800 * t + 1 + 4 * c))), (0, .ref 185), (1, .int (nI t)), (2, .int (nI c))] ∨ L = [(7, .int (nI i)), (6, .int (nI dt)), (5, .int (nI dv)), (9, .int y9), (8, .int y8), (4, .int (nI (800 * t + 60))), (3, .int (nI (800 * t + 1 + 4 * c))), (0, .ref 185), (1, .int (nI t)), (2, .int (nI c))]) → wkK S (d + dW + 1) Q (38, L, [], gSh, M) := by
  intro r
  induction r with
  | zero =>
    intro i dv dt M L hi hi0 hDi hv hw hM hW hL
    have h5 := ty_ref (pty hT.1 hM 1 rfl rfl)
    have hj : M 188 (800 * t + 1 + 4 * c + 3) = .int (nI j) := by rw [hW 188 (by decide) (by decide)]; exact hj
    rcases hL with rfl | ⟨y8, y9, rfl | rfl | rfl | rfl | rfl⟩
    · refine ok_seq 3 (σ' := (44, [(7, .int (nI i)), (6, .int (nI dt)), (5, .int (nI dv)), (4, .int (nI (800 * t + 60))), (3, .int (nI (800 * t + 1 + 4 * c))), (0, .ref 185), (1, .int (nI t)), (2, .int (nI c))], [M 185 5, .int (nI i)], gSh, M)) rfl ?_
      rw [h5]
      refine ok_seq 3 (σ' := (47, [(7, .int (nI i)), (6, .int (nI dt)), (5, .int (nI dv)), (4, .int (nI (800 * t + 60))), (3, .int (nI (800 * t + 1 + 4 * c))), (0, .ref 185), (1, .int (nI t)), (2, .int (nI c))], [.int ((nI (800 * t + 1 + 4 * c)) + (Int32.ofInt 3)), .ref 188, .int (nI i)], gSh, M)) rfl ?_
      rw [cI_3, hI_add (800 * t + 1 + 4 * c) 3]
      refine ok_iald (n := 3200) (v := nI j) rfl rfl (hI_in (by omega) (by decide)) (by rw [hI_nat (by omega)]; exact hj) ?_
      refine ok_icmp 352 rfl rfl (fun _ => ?_) (fun hz => absurd (by simp only [pCP]; rw [hI_int (a := i) (by omega), hI_int (a := j) (by omega)]; omega) hz)
      exact ok_ret (i := .return_) (len := 1) rfl rfl ⟨none, rfl, hQ M hM hW⟩
    · refine ok_seq 3 (σ' := (44, [(7, .int (nI i)), (9, .int y9), (8, .int y8), (5, .int (nI dv)), (6, .int (nI dt)), (4, .int (nI (800 * t + 60))), (3, .int (nI (800 * t + 1 + 4 * c))), (0, .ref 185), (1, .int (nI t)), (2, .int (nI c))], [M 185 5, .int (nI i)], gSh, M)) rfl ?_
      rw [h5]
      refine ok_seq 3 (σ' := (47, [(7, .int (nI i)), (9, .int y9), (8, .int y8), (5, .int (nI dv)), (6, .int (nI dt)), (4, .int (nI (800 * t + 60))), (3, .int (nI (800 * t + 1 + 4 * c))), (0, .ref 185), (1, .int (nI t)), (2, .int (nI c))], [.int ((nI (800 * t + 1 + 4 * c)) + (Int32.ofInt 3)), .ref 188, .int (nI i)], gSh, M)) rfl ?_
      rw [cI_3, hI_add (800 * t + 1 + 4 * c) 3]
      refine ok_iald (n := 3200) (v := nI j) rfl rfl (hI_in (by omega) (by decide)) (by rw [hI_nat (by omega)]; exact hj) ?_
      refine ok_icmp 352 rfl rfl (fun _ => ?_) (fun hz => absurd (by simp only [pCP]; rw [hI_int (a := i) (by omega), hI_int (a := j) (by omega)]; omega) hz)
      exact ok_ret (i := .return_) (len := 1) rfl rfl ⟨none, rfl, hQ M hM hW⟩
    · refine ok_seq 3 (σ' := (44, [(7, .int (nI i)), (9, .int y9), (8, .int y8), (6, .int (nI dt)), (5, .int (nI dv)), (4, .int (nI (800 * t + 60))), (3, .int (nI (800 * t + 1 + 4 * c))), (0, .ref 185), (1, .int (nI t)), (2, .int (nI c))], [M 185 5, .int (nI i)], gSh, M)) rfl ?_
      rw [h5]
      refine ok_seq 3 (σ' := (47, [(7, .int (nI i)), (9, .int y9), (8, .int y8), (6, .int (nI dt)), (5, .int (nI dv)), (4, .int (nI (800 * t + 60))), (3, .int (nI (800 * t + 1 + 4 * c))), (0, .ref 185), (1, .int (nI t)), (2, .int (nI c))], [.int ((nI (800 * t + 1 + 4 * c)) + (Int32.ofInt 3)), .ref 188, .int (nI i)], gSh, M)) rfl ?_
      rw [cI_3, hI_add (800 * t + 1 + 4 * c) 3]
      refine ok_iald (n := 3200) (v := nI j) rfl rfl (hI_in (by omega) (by decide)) (by rw [hI_nat (by omega)]; exact hj) ?_
      refine ok_icmp 352 rfl rfl (fun _ => ?_) (fun hz => absurd (by simp only [pCP]; rw [hI_int (a := i) (by omega), hI_int (a := j) (by omega)]; omega) hz)
      exact ok_ret (i := .return_) (len := 1) rfl rfl ⟨none, rfl, hQ M hM hW⟩
    · refine ok_seq 3 (σ' := (44, [(7, .int (nI i)), (5, .int (nI dv)), (9, .int y9), (8, .int y8), (6, .int (nI dt)), (4, .int (nI (800 * t + 60))), (3, .int (nI (800 * t + 1 + 4 * c))), (0, .ref 185), (1, .int (nI t)), (2, .int (nI c))], [M 185 5, .int (nI i)], gSh, M)) rfl ?_
      rw [h5]
      refine ok_seq 3 (σ' := (47, [(7, .int (nI i)), (5, .int (nI dv)), (9, .int y9), (8, .int y8), (6, .int (nI dt)), (4, .int (nI (800 * t + 60))), (3, .int (nI (800 * t + 1 + 4 * c))), (0, .ref 185), (1, .int (nI t)), (2, .int (nI c))], [.int ((nI (800 * t + 1 + 4 * c)) + (Int32.ofInt 3)), .ref 188, .int (nI i)], gSh, M)) rfl ?_
      rw [cI_3, hI_add (800 * t + 1 + 4 * c) 3]
      refine ok_iald (n := 3200) (v := nI j) rfl rfl (hI_in (by omega) (by decide)) (by rw [hI_nat (by omega)]; exact hj) ?_
      refine ok_icmp 352 rfl rfl (fun _ => ?_) (fun hz => absurd (by simp only [pCP]; rw [hI_int (a := i) (by omega), hI_int (a := j) (by omega)]; omega) hz)
      exact ok_ret (i := .return_) (len := 1) rfl rfl ⟨none, rfl, hQ M hM hW⟩
    · refine ok_seq 3 (σ' := (44, [(7, .int (nI i)), (6, .int (nI dt)), (9, .int y9), (8, .int y8), (5, .int (nI dv)), (4, .int (nI (800 * t + 60))), (3, .int (nI (800 * t + 1 + 4 * c))), (0, .ref 185), (1, .int (nI t)), (2, .int (nI c))], [M 185 5, .int (nI i)], gSh, M)) rfl ?_
      rw [h5]
      refine ok_seq 3 (σ' := (47, [(7, .int (nI i)), (6, .int (nI dt)), (9, .int y9), (8, .int y8), (5, .int (nI dv)), (4, .int (nI (800 * t + 60))), (3, .int (nI (800 * t + 1 + 4 * c))), (0, .ref 185), (1, .int (nI t)), (2, .int (nI c))], [.int ((nI (800 * t + 1 + 4 * c)) + (Int32.ofInt 3)), .ref 188, .int (nI i)], gSh, M)) rfl ?_
      rw [cI_3, hI_add (800 * t + 1 + 4 * c) 3]
      refine ok_iald (n := 3200) (v := nI j) rfl rfl (hI_in (by omega) (by decide)) (by rw [hI_nat (by omega)]; exact hj) ?_
      refine ok_icmp 352 rfl rfl (fun _ => ?_) (fun hz => absurd (by simp only [pCP]; rw [hI_int (a := i) (by omega), hI_int (a := j) (by omega)]; omega) hz)
      exact ok_ret (i := .return_) (len := 1) rfl rfl ⟨none, rfl, hQ M hM hW⟩
    · refine ok_seq 3 (σ' := (44, [(7, .int (nI i)), (6, .int (nI dt)), (5, .int (nI dv)), (9, .int y9), (8, .int y8), (4, .int (nI (800 * t + 60))), (3, .int (nI (800 * t + 1 + 4 * c))), (0, .ref 185), (1, .int (nI t)), (2, .int (nI c))], [M 185 5, .int (nI i)], gSh, M)) rfl ?_
      rw [h5]
      refine ok_seq 3 (σ' := (47, [(7, .int (nI i)), (6, .int (nI dt)), (5, .int (nI dv)), (9, .int y9), (8, .int y8), (4, .int (nI (800 * t + 60))), (3, .int (nI (800 * t + 1 + 4 * c))), (0, .ref 185), (1, .int (nI t)), (2, .int (nI c))], [.int ((nI (800 * t + 1 + 4 * c)) + (Int32.ofInt 3)), .ref 188, .int (nI i)], gSh, M)) rfl ?_
      rw [cI_3, hI_add (800 * t + 1 + 4 * c) 3]
      refine ok_iald (n := 3200) (v := nI j) rfl rfl (hI_in (by omega) (by decide)) (by rw [hI_nat (by omega)]; exact hj) ?_
      refine ok_icmp 352 rfl rfl (fun _ => ?_) (fun hz => absurd (by simp only [pCP]; rw [hI_int (a := i) (by omega), hI_int (a := j) (by omega)]; omega) hz)
      exact ok_ret (i := .return_) (len := 1) rfl rfl ⟨none, rfl, hQ M hM hW⟩
  | succ r ih =>
    intro i dv dt M L hi hi0 hDi hv hw hM hW hL
    have h5 := ty_ref (pty hT.1 hM 1 rfl rfl)
    have h25 := ty_ref (pwy hT hM 0 rfl rfl)
    have h26 := ty_ref (pwy hT hM 1 rfl rfl)
    have h27 := ty_ref (pwy hT hM 2 rfl rfl)
    have hj : M 188 (800 * t + 1 + 4 * c + 3) = .int (nI j) := by rw [hW 188 (by decide) (by decide)]; exact hj
    obtain ⟨⟨oo, ho⟩, ⟨vv, hvv⟩, hop⟩ := hD i hi0 (by omega)
    rw [ho, hvv] at hop
    rw [hDi] at hop
    have ho : M 188 (800 * t + 60 + 2 * i) = .int oo := by rw [hW 188 (by decide) (by decide)]; exact ho
    have hvv : M 188 (800 * t + 60 + 2 * i + 1) = .int vv := by rw [hW 188 (by decide) (by decide)]; exact hvv
    have up192 : ∀ (k : Nat) (z : Int64), WF M0 (pUp M 192 k (.long z)) := fun k z o k1 k2 => by rw [pUp_ne k1]; exact hW o k1 k2
    have up193 : ∀ (k : Nat) (z : Int32), WF M0 (pUp M 193 k (.int z)) := fun k z o k1 k2 => by rw [pUp_ne k2]; exact hW o k1 k2
    dsimp only [vI, opOk] at hop
    rcases hL with rfl | ⟨y8, y9, rfl | rfl | rfl | rfl | rfl⟩
    · refine ok_seq 3 (σ' := (44, [(7, .int (nI i)), (6, .int (nI dt)), (5, .int (nI dv)), (4, .int (nI (800 * t + 60))), (3, .int (nI (800 * t + 1 + 4 * c))), (0, .ref 185), (1, .int (nI t)), (2, .int (nI c))], [M 185 5, .int (nI i)], gSh, M)) rfl ?_
      rw [h5]
      refine ok_seq 3 (σ' := (47, [(7, .int (nI i)), (6, .int (nI dt)), (5, .int (nI dv)), (4, .int (nI (800 * t + 60))), (3, .int (nI (800 * t + 1 + 4 * c))), (0, .ref 185), (1, .int (nI t)), (2, .int (nI c))], [.int ((nI (800 * t + 1 + 4 * c)) + (Int32.ofInt 3)), .ref 188, .int (nI i)], gSh, M)) rfl ?_
      rw [cI_3, hI_add (800 * t + 1 + 4 * c) 3]
      refine ok_iald (n := 3200) (v := nI j) rfl rfl (hI_in (by omega) (by decide)) (by rw [hI_nat (by omega)]; exact hj) ?_
      refine ok_icmp 352 rfl rfl (fun hz => absurd hz (by simp only [pCP]; rw [hI_int (a := i) (by omega), hI_int (a := j) (by omega)]; omega)) (fun _ => ?_)
      refine ok_seq 2 (σ' := (55, [(7, .int (nI i)), (6, .int (nI dt)), (5, .int (nI dv)), (4, .int (nI (800 * t + 60))), (3, .int (nI (800 * t + 1 + 4 * c))), (0, .ref 185), (1, .int (nI t)), (2, .int (nI c))], [M 185 5], gSh, M)) rfl ?_
      rw [h5]
      refine ok_seq 5 (σ' := (62, [(7, .int (nI i)), (6, .int (nI dt)), (5, .int (nI dv)), (4, .int (nI (800 * t + 60))), (3, .int (nI (800 * t + 1 + 4 * c))), (0, .ref 185), (1, .int (nI t)), (2, .int (nI c))], [.int ((nI (800 * t + 60)) + ((Int32.ofInt 2) * (nI i))), .ref 188], gSh, M)) rfl ?_
      rw [cI_2, hI_mul 2 i, hI_add (800 * t + 60) (2 * i)]
      refine ok_iald (n := 3200) (v := oo) rfl rfl (hI_in (by omega) (by decide)) (by rw [hI_nat (by omega)]; exact ho) ?_
      refine ok_seq 3 (σ' := (69, [(8, .int oo), (7, .int (nI i)), (6, .int (nI dt)), (5, .int (nI dv)), (4, .int (nI (800 * t + 60))), (3, .int (nI (800 * t + 1 + 4 * c))), (0, .ref 185), (1, .int (nI t)), (2, .int (nI c))], [M 185 5], gSh, M)) rfl ?_
      rw [h5]
      refine ok_seq 7 (σ' := (78, [(8, .int oo), (7, .int (nI i)), (6, .int (nI dt)), (5, .int (nI dv)), (4, .int (nI (800 * t + 60))), (3, .int (nI (800 * t + 1 + 4 * c))), (0, .ref 185), (1, .int (nI t)), (2, .int (nI c))], [.int (((nI (800 * t + 60)) + ((Int32.ofInt 2) * (nI i))) + (Int32.ofInt 1)), .ref 188], gSh, M)) rfl ?_
      rw [cI_2, hI_mul 2 i, hI_add (800 * t + 60) (2 * i), cI_1, hI_add ((800 * t + 60) + (2 * i)) 1]
      refine ok_iald (n := 3200) (v := vv) rfl rfl (hI_in (by omega) (by decide)) (by rw [hI_nat (by omega)]; exact hvv) ?_
      refine ok_seq 3 (σ' := (84, [(9, .int vv), (8, .int oo), (7, .int (nI i)), (6, .int (nI dt)), (5, .int (nI dv)), (4, .int (nI (800 * t + 60))), (3, .int (nI (800 * t + 1 + 4 * c))), (0, .ref 185), (1, .int (nI t)), (2, .int (nI c))], [.int (Int32.ofInt 1), .int oo], gSh, M)) rfl ?_
      rw [cI_1]
      rcases hop with ⟨ho1, hD2⟩ | ⟨ho1, hv1, hv2, hD2⟩ | ⟨ho1, ho3, hD2⟩ | ⟨ho1, ho2, ho3, hD2⟩ | ⟨ho1, ho2, ho3, hD2⟩ | ⟨ho1, ho3, hD2⟩ | ⟨ho1, ho2, ho3, hD2⟩
      · refine ok_icmp 119 rfl rfl (fun hz => absurd hz (by simp only [pCP]; rw [hI_int (a := 1) (by omega)]; omega)) (fun _ => ?_)
        refine ok_seq 2 (σ' := (91, [(9, .int vv), (8, .int oo), (7, .int (nI i)), (6, .int (nI dt)), (5, .int (nI dv)), (4, .int (nI (800 * t + 60))), (3, .int (nI (800 * t + 1 + 4 * c))), (0, .ref 185), (1, .int (nI t)), (2, .int (nI c))], [M 185 26], gSh, M)) rfl ?_
        rw [h26]
        refine ok_seq 2 (σ' := (95, [(9, .int vv), (8, .int oo), (7, .int (nI i)), (6, .int (nI dt)), (5, .int (nI dv)), (4, .int (nI (800 * t + 60))), (3, .int (nI (800 * t + 1 + 4 * c))), (0, .ref 185), (1, .int (nI t)), (2, .int (nI c))], [.int oo, .int (nI dv), .ref 192], gSh, M)) rfl ?_
        refine ok_if 104 rfl rfl (fun hz => absurd hz (by simp only [pCP]; omega)) (fun _ => ?_)
        refine ok_seq 3 (σ' := (112, [(9, .int vv), (8, .int oo), (7, .int (nI i)), (6, .int (nI dt)), (5, .int (nI dv)), (4, .int (nI (800 * t + 60))), (3, .int (nI (800 * t + 1 + 4 * c))), (0, .ref 185), (1, .int (nI t)), (2, .int (nI c))], [.long ((vv).toInt64), .int (nI dv), .ref 192], gSh, M)) rfl ?_
        refine ok_last (n := 330) rfl rfl (hI_in (by omega) (by decide)) ?_
        rw [hI_nat (a := dv) (by omega)]
        refine ok_seq 4 (σ' := (38, [(7, .int ((nI i) + (Int32.ofInt 1))), (5, .int ((nI dv) + (Int32.ofInt 1))), (9, .int vv), (8, .int oo), (6, .int (nI dt)), (4, .int (nI (800 * t + 60))), (3, .int (nI (800 * t + 1 + 4 * c))), (0, .ref 185), (1, .int (nI t)), (2, .int (nI c))], [], gSh, pUp M 192 dv (.long ((vv).toInt64)))) rfl ?_
        rw [cI_1, hI_add i 1, hI_add dv 1]
        exact ih (i + 1) (dv + 1) dt _ _ (by omega) (by omega) hD2 (by omega) (by omega) (pu192 hT hM (by omega) _) (up192 _ _) (Or.inr ⟨oo, vv, Or.inr (Or.inr (Or.inl rfl))⟩)
      · obtain ⟨vn, hvn, evn⟩ := ty_nat (x := []) (hi := 10) ⟨vv, rfl, hv1, hv2⟩
        cases evn
        obtain ⟨nz, hnz⟩ := pt191 hT hM (k := vn) (by omega)
        refine ok_icmp 119 rfl rfl (fun hz => absurd hz (by simp only [pCP]; rw [hI_int (a := 1) (by omega)]; omega)) (fun _ => ?_)
        refine ok_seq 2 (σ' := (91, [(9, .int (nI vn)), (8, .int oo), (7, .int (nI i)), (6, .int (nI dt)), (5, .int (nI dv)), (4, .int (nI (800 * t + 60))), (3, .int (nI (800 * t + 1 + 4 * c))), (0, .ref 185), (1, .int (nI t)), (2, .int (nI c))], [M 185 26], gSh, M)) rfl ?_
        rw [h26]
        refine ok_seq 2 (σ' := (95, [(9, .int (nI vn)), (8, .int oo), (7, .int (nI i)), (6, .int (nI dt)), (5, .int (nI dv)), (4, .int (nI (800 * t + 60))), (3, .int (nI (800 * t + 1 + 4 * c))), (0, .ref 185), (1, .int (nI t)), (2, .int (nI c))], [.int oo, .int (nI dv), .ref 192], gSh, M)) rfl ?_
        refine ok_if 104 rfl rfl (fun _ => ?_) (fun hz => absurd (by simp only [pCP]; omega) hz)
        refine ok_seq 2 (σ' := (108, [(9, .int (nI vn)), (8, .int oo), (7, .int (nI i)), (6, .int (nI dt)), (5, .int (nI dv)), (4, .int (nI (800 * t + 60))), (3, .int (nI (800 * t + 1 + 4 * c))), (0, .ref 185), (1, .int (nI t)), (2, .int (nI c))], [M 185 25, .int (nI dv), .ref 192], gSh, M)) rfl ?_
        rw [h25]
        refine ok_seq 1 (σ' := (110, [(9, .int (nI vn)), (8, .int oo), (7, .int (nI i)), (6, .int (nI dt)), (5, .int (nI dv)), (4, .int (nI (800 * t + 60))), (3, .int (nI (800 * t + 1 + 4 * c))), (0, .ref 185), (1, .int (nI t)), (2, .int (nI c))], [.int (nI vn), .ref 191, .int (nI dv), .ref 192], gSh, M)) rfl ?_
        refine ok_iald (n := 11) (v := nz) rfl rfl (hI_in (by omega) (by decide)) (by rw [hI_nat (by omega)]; exact hnz) ?_
        refine ok_seq 1 (σ' := (112, [(9, .int (nI vn)), (8, .int oo), (7, .int (nI i)), (6, .int (nI dt)), (5, .int (nI dv)), (4, .int (nI (800 * t + 60))), (3, .int (nI (800 * t + 1 + 4 * c))), (0, .ref 185), (1, .int (nI t)), (2, .int (nI c))], [.long ((nz).toInt64), .int (nI dv), .ref 192], gSh, M)) rfl ?_
        refine ok_last (n := 330) rfl rfl (hI_in (by omega) (by decide)) ?_
        rw [hI_nat (a := dv) (by omega)]
        refine ok_seq 4 (σ' := (38, [(7, .int ((nI i) + (Int32.ofInt 1))), (5, .int ((nI dv) + (Int32.ofInt 1))), (9, .int (nI vn)), (8, .int oo), (6, .int (nI dt)), (4, .int (nI (800 * t + 60))), (3, .int (nI (800 * t + 1 + 4 * c))), (0, .ref 185), (1, .int (nI t)), (2, .int (nI c))], [], gSh, pUp M 192 dv (.long ((nz).toInt64)))) rfl ?_
        rw [cI_1, hI_add i 1, hI_add dv 1]
        exact ih (i + 1) (dv + 1) dt _ _ (by omega) (by omega) hD2 (by omega) (by omega) (pu192 hT hM (by omega) _) (up192 _ _) (Or.inr ⟨oo, nI vn, Or.inr (Or.inr (Or.inl rfl))⟩)
      · obtain ⟨z1, hz1⟩ := pt192 hT hM (k := dv - 1) (by omega)
        refine ok_icmp 119 rfl rfl (fun _ => ?_) (fun hz => absurd (by simp only [pCP]; rw [hI_int (a := 1) (by omega)]; omega) hz)
        refine ok_seq 2 (σ' := (122, [(9, .int vv), (8, .int oo), (7, .int (nI i)), (6, .int (nI dt)), (5, .int (nI dv)), (4, .int (nI (800 * t + 60))), (3, .int (nI (800 * t + 1 + 4 * c))), (0, .ref 185), (1, .int (nI t)), (2, .int (nI c))], [.int (Int32.ofInt 2), .int oo], gSh, M)) rfl ?_
        rw [cI_2]
        refine ok_icmp 147 rfl rfl (fun hz => absurd hz (by simp only [pCP]; rw [hI_int (a := 2) (by omega)]; omega)) (fun _ => ?_)
        refine ok_seq 2 (σ' := (129, [(9, .int vv), (8, .int oo), (7, .int (nI i)), (6, .int (nI dt)), (5, .int (nI dv)), (4, .int (nI (800 * t + 60))), (3, .int (nI (800 * t + 1 + 4 * c))), (0, .ref 185), (1, .int (nI t)), (2, .int (nI c))], [M 185 26], gSh, M)) rfl ?_
        rw [h26]
        refine ok_seq 5 (σ' := (137, [(9, .int vv), (8, .int oo), (7, .int (nI i)), (6, .int (nI dt)), (5, .int (nI dv)), (4, .int (nI (800 * t + 60))), (3, .int (nI (800 * t + 1 + 4 * c))), (0, .ref 185), (1, .int (nI t)), (2, .int (nI c))], [M 185 26, .int ((nI dv) - (Int32.ofInt 1)), .ref 192], gSh, M)) rfl ?_
        rw [h26]
        rw [cI_1, hI_sub dv 1 (by omega)]
        refine ok_seq 3 (σ' := (141, [(9, .int vv), (8, .int oo), (7, .int (nI i)), (6, .int (nI dt)), (5, .int (nI dv)), (4, .int (nI (800 * t + 60))), (3, .int (nI (800 * t + 1 + 4 * c))), (0, .ref 185), (1, .int (nI t)), (2, .int (nI c))], [.int ((nI dv) - (Int32.ofInt 1)), .ref 192, .int (nI (dv - 1)), .ref 192], gSh, M)) rfl ?_
        rw [cI_1, hI_sub dv 1 (by omega)]
        refine ok_lald (n := 330) (v := z1) rfl rfl (hI_in (by omega) (by decide)) (by rw [hI_nat (by omega)]; exact hz1) ?_
        refine ok_seq 1 (σ' := (143, [(9, .int vv), (8, .int oo), (7, .int (nI i)), (6, .int (nI dt)), (5, .int (nI dv)), (4, .int (nI (800 * t + 60))), (3, .int (nI (800 * t + 1 + 4 * c))), (0, .ref 185), (1, .int (nI t)), (2, .int (nI c))], [.long (-z1), .int (nI (dv - 1)), .ref 192], gSh, M)) rfl ?_
        refine ok_last (n := 330) rfl rfl (hI_in (by omega) (by decide)) ?_
        rw [hI_nat (a := dv - 1) (by omega)]
        refine ok_seq 3 (σ' := (38, [(7, .int ((nI i) + (Int32.ofInt 1))), (9, .int vv), (8, .int oo), (6, .int (nI dt)), (5, .int (nI dv)), (4, .int (nI (800 * t + 60))), (3, .int (nI (800 * t + 1 + 4 * c))), (0, .ref 185), (1, .int (nI t)), (2, .int (nI c))], [], gSh, pUp M 192 (dv - 1) (.long (-z1)))) rfl ?_
        rw [cI_1, hI_add i 1]
        exact ih (i + 1) dv dt _ _ (by omega) (by omega) hD2 (by omega) (by omega) (pu192 hT hM (by omega) _) (up192 _ _) (Or.inr ⟨oo, vv, Or.inr (Or.inl rfl)⟩)
      · obtain ⟨z1, hz1⟩ := pt192 hT hM (k := dv - 1 - 1) (by omega)
        obtain ⟨z2, hz2⟩ := pt192 hT hM (k := dv - 1) (by omega)
        obtain ⟨z3, hz3⟩ := c_pureL hH.1 (vs := [.int oo, .long z1, .long z2]) ⟨⟨oo, rfl, ho1, ho2⟩, sat_l _, sat_l _, trivial⟩ hM (hW.gr hg)
        refine ok_icmp 119 rfl rfl (fun _ => ?_) (fun hz => absurd (by simp only [pCP]; rw [hI_int (a := 1) (by omega)]; omega) hz)
        refine ok_seq 2 (σ' := (122, [(9, .int vv), (8, .int oo), (7, .int (nI i)), (6, .int (nI dt)), (5, .int (nI dv)), (4, .int (nI (800 * t + 60))), (3, .int (nI (800 * t + 1 + 4 * c))), (0, .ref 185), (1, .int (nI t)), (2, .int (nI c))], [.int (Int32.ofInt 2), .int oo], gSh, M)) rfl ?_
        rw [cI_2]
        refine ok_icmp 147 rfl rfl (fun _ => ?_) (fun hz => absurd (by simp only [pCP]; rw [hI_int (a := 2) (by omega)]; omega) hz)
        refine ok_seq 2 (σ' := (151, [(9, .int vv), (8, .int oo), (7, .int (nI i)), (6, .int (nI dt)), (5, .int (nI dv)), (4, .int (nI (800 * t + 60))), (3, .int (nI (800 * t + 1 + 4 * c))), (0, .ref 185), (1, .int (nI t)), (2, .int (nI c))], [.int ((Int8.ofInt 10).toInt32), .int oo], gSh, M)) rfl ?_
        rw [(show (Int8.ofInt 10).toInt32 = nI 10 by decide)]
        refine ok_icmp 190 rfl rfl (fun hz => absurd hz (by simp only [pCP]; rw [hI_int (a := 10) (by omega)]; omega)) (fun _ => ?_)
        refine ok_seq 3 (σ' := (161, [(5, .int ((nI dv) + Int32.ofInt (-1))), (9, .int vv), (8, .int oo), (7, .int (nI i)), (6, .int (nI dt)), (4, .int (nI (800 * t + 60))), (3, .int (nI (800 * t + 1 + 4 * c))), (0, .ref 185), (1, .int (nI t)), (2, .int (nI c))], [M 185 26], gSh, M)) rfl ?_
        rw [h26]
        rw [hI_d1 dv (by omega)]
        refine ok_seq 6 (σ' := (171, [(5, .int (nI (dv - 1))), (9, .int vv), (8, .int oo), (7, .int (nI i)), (6, .int (nI dt)), (4, .int (nI (800 * t + 60))), (3, .int (nI (800 * t + 1 + 4 * c))), (0, .ref 185), (1, .int (nI t)), (2, .int (nI c))], [M 185 26, .int oo, .int ((nI (dv - 1)) - (Int32.ofInt 1)), .ref 192], gSh, M)) rfl ?_
        rw [h26]
        rw [cI_1, hI_sub (dv - 1) 1 (by omega)]
        refine ok_seq 3 (σ' := (175, [(5, .int (nI (dv - 1))), (9, .int vv), (8, .int oo), (7, .int (nI i)), (6, .int (nI dt)), (4, .int (nI (800 * t + 60))), (3, .int (nI (800 * t + 1 + 4 * c))), (0, .ref 185), (1, .int (nI t)), (2, .int (nI c))], [.int ((nI (dv - 1)) - (Int32.ofInt 1)), .ref 192, .int oo, .int (nI ((dv - 1) - 1)), .ref 192], gSh, M)) rfl ?_
        rw [cI_1, hI_sub (dv - 1) 1 (by omega)]
        refine ok_lald (n := 330) (v := z1) rfl rfl (hI_in (by omega) (by decide)) (by rw [hI_nat (by omega)]; exact hz1) ?_
        refine ok_seq 2 (σ' := (180, [(5, .int (nI (dv - 1))), (9, .int vv), (8, .int oo), (7, .int (nI i)), (6, .int (nI dt)), (4, .int (nI (800 * t + 60))), (3, .int (nI (800 * t + 1 + 4 * c))), (0, .ref 185), (1, .int (nI t)), (2, .int (nI c))], [M 185 26, .long z1, .int oo, .int (nI ((dv - 1) - 1)), .ref 192], gSh, M)) rfl ?_
        rw [h26]
        refine ok_seq 1 (σ' := (182, [(5, .int (nI (dv - 1))), (9, .int vv), (8, .int oo), (7, .int (nI i)), (6, .int (nI dt)), (4, .int (nI (800 * t + 60))), (3, .int (nI (800 * t + 1 + 4 * c))), (0, .ref 185), (1, .int (nI t)), (2, .int (nI c))], [.int (nI (dv - 1)), .ref 192, .long z1, .int oo, .int (nI ((dv - 1) - 1)), .ref 192], gSh, M)) rfl ?_
        refine ok_lald (n := 330) (v := z2) rfl rfl (hI_in (by omega) (by decide)) (by rw [hI_nat (by omega)]; exact hz2) ?_
        refine ok_call (mi := 208) (as := [.int oo, .long z1, .long z2]) (pc' := 186) (L' := [(5, .int (nI (dv - 1))), (9, .int vv), (8, .int oo), (7, .int (nI i)), (6, .int (nI dt)), (4, .int (nI (800 * t + 60))), (3, .int (nI (800 * t + 1 + 4 * c))), (0, .ref 185), (1, .int (nI t)), (2, .int (nI c))]) (st' := [.int (nI ((dv - 1) - 1)), .ref 192]) (sh' := gSh) (M' := M) (i := .invokestatic 263) (len := 3) rfl rfl ?_
        refine ((hz3.deep (by omega))).mono ?_
        rintro v hp ⟨rfl, rfl⟩
        refine ok_last (n := 330) rfl rfl (hI_in (by omega) (by decide)) ?_
        rw [hI_nat (a := (dv - 1) - 1) (by omega)]
        refine ok_seq 3 (σ' := (38, [(7, .int ((nI i) + (Int32.ofInt 1))), (5, .int (nI (dv - 1))), (9, .int vv), (8, .int oo), (6, .int (nI dt)), (4, .int (nI (800 * t + 60))), (3, .int (nI (800 * t + 1 + 4 * c))), (0, .ref 185), (1, .int (nI t)), (2, .int (nI c))], [], gSh, pUp M 192 ((dv - 1) - 1) (.long z3))) rfl ?_
        rw [cI_1, hI_add i 1]
        exact ih (i + 1) (dv - 1) dt _ _ (by omega) (by omega) hD2 (by omega) (by omega) (pu192 hT hM (by omega) _) (up192 _ _) (Or.inr ⟨oo, vv, Or.inr (Or.inr (Or.inl rfl))⟩)
      · obtain ⟨z1, hz1⟩ := pt192 hT hM (k := dv - 2) (by omega)
        obtain ⟨z2, hz2⟩ := pt192 hT hM (k := dv - 2 + 1) (by omega)
        obtain ⟨z3, y1, y2, hz3⟩ := c_pure hH.2 (vs := [.int oo, .long z1, .long z2]) ⟨⟨oo, rfl, ho1, ho2⟩, sat_l _, sat_l _, trivial⟩ hM (hW.gr hg) (fun q hq => by cases hq)
        refine ok_icmp 119 rfl rfl (fun _ => ?_) (fun hz => absurd (by simp only [pCP]; rw [hI_int (a := 1) (by omega)]; omega) hz)
        refine ok_seq 2 (σ' := (122, [(9, .int vv), (8, .int oo), (7, .int (nI i)), (6, .int (nI dt)), (5, .int (nI dv)), (4, .int (nI (800 * t + 60))), (3, .int (nI (800 * t + 1 + 4 * c))), (0, .ref 185), (1, .int (nI t)), (2, .int (nI c))], [.int (Int32.ofInt 2), .int oo], gSh, M)) rfl ?_
        rw [cI_2]
        refine ok_icmp 147 rfl rfl (fun _ => ?_) (fun hz => absurd (by simp only [pCP]; rw [hI_int (a := 2) (by omega)]; omega) hz)
        refine ok_seq 2 (σ' := (151, [(9, .int vv), (8, .int oo), (7, .int (nI i)), (6, .int (nI dt)), (5, .int (nI dv)), (4, .int (nI (800 * t + 60))), (3, .int (nI (800 * t + 1 + 4 * c))), (0, .ref 185), (1, .int (nI t)), (2, .int (nI c))], [.int ((Int8.ofInt 10).toInt32), .int oo], gSh, M)) rfl ?_
        rw [(show (Int8.ofInt 10).toInt32 = nI 10 by decide)]
        refine ok_icmp 190 rfl rfl (fun _ => ?_) (fun hz => absurd (by simp only [pCP]; rw [hI_int (a := 10) (by omega)]; omega) hz)
        refine ok_seq 2 (σ' := (194, [(9, .int vv), (8, .int oo), (7, .int (nI i)), (6, .int (nI dt)), (5, .int (nI dv)), (4, .int (nI (800 * t + 60))), (3, .int (nI (800 * t + 1 + 4 * c))), (0, .ref 185), (1, .int (nI t)), (2, .int (nI c))], [.int ((Int8.ofInt 20).toInt32), .int oo], gSh, M)) rfl ?_
        rw [(show (Int8.ofInt 20).toInt32 = nI 20 by decide)]
        refine ok_icmp 234 rfl rfl (fun hz => absurd hz (by simp only [pCP]; rw [hI_int (a := 20) (by omega)]; omega)) (fun _ => ?_)
        refine ok_seq 3 (σ' := (204, [(5, .int ((nI dv) + Int32.ofInt (-2))), (9, .int vv), (8, .int oo), (7, .int (nI i)), (6, .int (nI dt)), (4, .int (nI (800 * t + 60))), (3, .int (nI (800 * t + 1 + 4 * c))), (0, .ref 185), (1, .int (nI t)), (2, .int (nI c))], [M 185 27], gSh, M)) rfl ?_
        rw [h27]
        rw [hI_d2 dv (by omega)]
        refine ok_seq 4 (σ' := (212, [(5, .int (nI (dv - 2))), (9, .int vv), (8, .int oo), (7, .int (nI i)), (6, .int (nI dt)), (4, .int (nI (800 * t + 60))), (3, .int (nI (800 * t + 1 + 4 * c))), (0, .ref 185), (1, .int (nI t)), (2, .int (nI c))], [M 185 26, .int oo, .int (nI dt), .ref 193], gSh, M)) rfl ?_
        rw [h26]
        refine ok_seq 1 (σ' := (214, [(5, .int (nI (dv - 2))), (9, .int vv), (8, .int oo), (7, .int (nI i)), (6, .int (nI dt)), (4, .int (nI (800 * t + 60))), (3, .int (nI (800 * t + 1 + 4 * c))), (0, .ref 185), (1, .int (nI t)), (2, .int (nI c))], [.int (nI (dv - 2)), .ref 192, .int oo, .int (nI dt), .ref 193], gSh, M)) rfl ?_
        refine ok_lald (n := 330) (v := z1) rfl rfl (hI_in (by omega) (by decide)) (by rw [hI_nat (by omega)]; exact hz1) ?_
        refine ok_seq 2 (σ' := (219, [(5, .int (nI (dv - 2))), (9, .int vv), (8, .int oo), (7, .int (nI i)), (6, .int (nI dt)), (4, .int (nI (800 * t + 60))), (3, .int (nI (800 * t + 1 + 4 * c))), (0, .ref 185), (1, .int (nI t)), (2, .int (nI c))], [M 185 26, .long z1, .int oo, .int (nI dt), .ref 193], gSh, M)) rfl ?_
        rw [h26]
        refine ok_seq 3 (σ' := (223, [(5, .int (nI (dv - 2))), (9, .int vv), (8, .int oo), (7, .int (nI i)), (6, .int (nI dt)), (4, .int (nI (800 * t + 60))), (3, .int (nI (800 * t + 1 + 4 * c))), (0, .ref 185), (1, .int (nI t)), (2, .int (nI c))], [.int ((nI (dv - 2)) + (Int32.ofInt 1)), .ref 192, .long z1, .int oo, .int (nI dt), .ref 193], gSh, M)) rfl ?_
        rw [cI_1, hI_add (dv - 2) 1]
        refine ok_lald (n := 330) (v := z2) rfl rfl (hI_in (by omega) (by decide)) (by rw [hI_nat (by omega)]; exact hz2) ?_
        refine ok_call (mi := 209) (as := [.int oo, .long z1, .long z2]) (pc' := 227) (L' := [(5, .int (nI (dv - 2))), (9, .int vv), (8, .int oo), (7, .int (nI i)), (6, .int (nI dt)), (4, .int (nI (800 * t + 60))), (3, .int (nI (800 * t + 1 + 4 * c))), (0, .ref 185), (1, .int (nI t)), (2, .int (nI c))]) (st' := [.int (nI dt), .ref 193]) (sh' := gSh) (M' := M) (i := .invokestatic 267) (len := 3) rfl rfl ?_
        refine ((hz3.deep (by omega))).mono ?_
        rintro v hp ⟨rfl, rfl⟩
        refine ok_bast (n := 330) rfl rfl (hI_in (by omega) (by decide)) ?_
        rw [hI_nat (a := dt) (by omega)]
        refine ok_seq 4 (σ' := (38, [(7, .int ((nI i) + (Int32.ofInt 1))), (6, .int ((nI dt) + (Int32.ofInt 1))), (5, .int (nI (dv - 2))), (9, .int vv), (8, .int oo), (4, .int (nI (800 * t + 60))), (3, .int (nI (800 * t + 1 + 4 * c))), (0, .ref 185), (1, .int (nI t)), (2, .int (nI c))], [], gSh, pUp M 193 dt (.int (z3 &&& 1)))) rfl ?_
        rw [cI_1, hI_add i 1, hI_add dt 1]
        exact ih (i + 1) (dv - 2) (dt + 1) _ _ (by omega) (by omega) hD2 (by omega) (by omega) (pu193 hT hM (by omega) (and1 _)) (up193 _ _) (Or.inr ⟨oo, vv, Or.inr (Or.inr (Or.inr (Or.inr (rfl))))⟩)
      · obtain ⟨tb, htb, hz1⟩ := pt193 hT hM (k := dt - 1) (by omega)
        refine ok_icmp 119 rfl rfl (fun _ => ?_) (fun hz => absurd (by simp only [pCP]; rw [hI_int (a := 1) (by omega)]; omega) hz)
        refine ok_seq 2 (σ' := (122, [(9, .int vv), (8, .int oo), (7, .int (nI i)), (6, .int (nI dt)), (5, .int (nI dv)), (4, .int (nI (800 * t + 60))), (3, .int (nI (800 * t + 1 + 4 * c))), (0, .ref 185), (1, .int (nI t)), (2, .int (nI c))], [.int (Int32.ofInt 2), .int oo], gSh, M)) rfl ?_
        rw [cI_2]
        refine ok_icmp 147 rfl rfl (fun _ => ?_) (fun hz => absurd (by simp only [pCP]; rw [hI_int (a := 2) (by omega)]; omega) hz)
        refine ok_seq 2 (σ' := (151, [(9, .int vv), (8, .int oo), (7, .int (nI i)), (6, .int (nI dt)), (5, .int (nI dv)), (4, .int (nI (800 * t + 60))), (3, .int (nI (800 * t + 1 + 4 * c))), (0, .ref 185), (1, .int (nI t)), (2, .int (nI c))], [.int ((Int8.ofInt 10).toInt32), .int oo], gSh, M)) rfl ?_
        rw [(show (Int8.ofInt 10).toInt32 = nI 10 by decide)]
        refine ok_icmp 190 rfl rfl (fun _ => ?_) (fun hz => absurd (by simp only [pCP]; rw [hI_int (a := 10) (by omega)]; omega) hz)
        refine ok_seq 2 (σ' := (194, [(9, .int vv), (8, .int oo), (7, .int (nI i)), (6, .int (nI dt)), (5, .int (nI dv)), (4, .int (nI (800 * t + 60))), (3, .int (nI (800 * t + 1 + 4 * c))), (0, .ref 185), (1, .int (nI t)), (2, .int (nI c))], [.int ((Int8.ofInt 20).toInt32), .int oo], gSh, M)) rfl ?_
        rw [(show (Int8.ofInt 20).toInt32 = nI 20 by decide)]
        refine ok_icmp 234 rfl rfl (fun _ => ?_) (fun hz => absurd (by simp only [pCP]; rw [hI_int (a := 20) (by omega)]; omega) hz)
        refine ok_seq 2 (σ' := (238, [(9, .int vv), (8, .int oo), (7, .int (nI i)), (6, .int (nI dt)), (5, .int (nI dv)), (4, .int (nI (800 * t + 60))), (3, .int (nI (800 * t + 1 + 4 * c))), (0, .ref 185), (1, .int (nI t)), (2, .int (nI c))], [.int ((Int8.ofInt 20).toInt32), .int oo], gSh, M)) rfl ?_
        rw [(show (Int8.ofInt 20).toInt32 = nI 20 by decide)]
        refine ok_icmp 270 rfl rfl (fun hz => absurd hz (by simp only [pCP]; rw [hI_int (a := 20) (by omega)]; omega)) (fun _ => ?_)
        refine ok_seq 2 (σ' := (245, [(9, .int vv), (8, .int oo), (7, .int (nI i)), (6, .int (nI dt)), (5, .int (nI dv)), (4, .int (nI (800 * t + 60))), (3, .int (nI (800 * t + 1 + 4 * c))), (0, .ref 185), (1, .int (nI t)), (2, .int (nI c))], [M 185 27], gSh, M)) rfl ?_
        rw [h27]
        refine ok_seq 5 (σ' := (253, [(9, .int vv), (8, .int oo), (7, .int (nI i)), (6, .int (nI dt)), (5, .int (nI dv)), (4, .int (nI (800 * t + 60))), (3, .int (nI (800 * t + 1 + 4 * c))), (0, .ref 185), (1, .int (nI t)), (2, .int (nI c))], [M 185 27, .int ((nI dt) - (Int32.ofInt 1)), .ref 193], gSh, M)) rfl ?_
        rw [h27]
        rw [cI_1, hI_sub dt 1 (by omega)]
        refine ok_seq 3 (σ' := (257, [(9, .int vv), (8, .int oo), (7, .int (nI i)), (6, .int (nI dt)), (5, .int (nI dv)), (4, .int (nI (800 * t + 60))), (3, .int (nI (800 * t + 1 + 4 * c))), (0, .ref 185), (1, .int (nI t)), (2, .int (nI c))], [.int ((nI dt) - (Int32.ofInt 1)), .ref 193, .int (nI (dt - 1)), .ref 193], gSh, M)) rfl ?_
        rw [cI_1, hI_sub dt 1 (by omega)]
        refine ok_bald (n := 330) (v := nI tb) rfl rfl (hI_in (by omega) (by decide)) (by rw [hI_nat (by omega)]; exact hz1) ?_
        refine ok_if 265 rfl rfl ?_ ?_
        · intro hb
          simp only [pCP] at hb
          rw [hI_int (a := tb) (by omega)] at hb
          have hb : ((tb : Nat) : Int) ≠ (0 : Int) := by omega
          refine ok_seq 1 (σ' := (266, [(9, .int vv), (8, .int oo), (7, .int (nI i)), (6, .int (nI dt)), (5, .int (nI dv)), (4, .int (nI (800 * t + 60))), (3, .int (nI (800 * t + 1 + 4 * c))), (0, .ref 185), (1, .int (nI t)), (2, .int (nI c))], [.int (Int32.ofInt 0), .int (nI (dt - 1)), .ref 193], gSh, M)) rfl ?_
          rw [cI_0]
          refine ok_bast (n := 330) rfl rfl (hI_in (by omega) (by decide)) ?_
          rw [hI_nat (a := dt - 1) (by omega)]
          refine ok_seq 3 (σ' := (38, [(7, .int ((nI i) + (Int32.ofInt 1))), (9, .int vv), (8, .int oo), (6, .int (nI dt)), (5, .int (nI dv)), (4, .int (nI (800 * t + 60))), (3, .int (nI (800 * t + 1 + 4 * c))), (0, .ref 185), (1, .int (nI t)), (2, .int (nI c))], [], gSh, pUp M 193 (dt - 1) (.int ((nI 0) &&& 1)))) rfl ?_
          rw [cI_1, hI_add i 1]
          exact ih (i + 1) dv dt _ _ (by omega) (by omega) hD2 (by omega) (by omega) (pu193 hT hM (by omega) (and1 _)) (up193 _ _) (Or.inr ⟨oo, vv, Or.inr (Or.inl rfl)⟩)
        · intro hb
          simp only [pCP] at hb
          rw [hI_int (a := tb) (by omega)] at hb
          have hb : ((tb : Nat) : Int) = (0 : Int) := by omega
          refine ok_seq 2 (σ' := (266, [(9, .int vv), (8, .int oo), (7, .int (nI i)), (6, .int (nI dt)), (5, .int (nI dv)), (4, .int (nI (800 * t + 60))), (3, .int (nI (800 * t + 1 + 4 * c))), (0, .ref 185), (1, .int (nI t)), (2, .int (nI c))], [.int (Int32.ofInt 1), .int (nI (dt - 1)), .ref 193], gSh, M)) rfl ?_
          rw [cI_1]
          refine ok_bast (n := 330) rfl rfl (hI_in (by omega) (by decide)) ?_
          rw [hI_nat (a := dt - 1) (by omega)]
          refine ok_seq 3 (σ' := (38, [(7, .int ((nI i) + (Int32.ofInt 1))), (9, .int vv), (8, .int oo), (6, .int (nI dt)), (5, .int (nI dv)), (4, .int (nI (800 * t + 60))), (3, .int (nI (800 * t + 1 + 4 * c))), (0, .ref 185), (1, .int (nI t)), (2, .int (nI c))], [], gSh, pUp M 193 (dt - 1) (.int ((nI 1) &&& 1)))) rfl ?_
          rw [cI_1, hI_add i 1]
          exact ih (i + 1) dv dt _ _ (by omega) (by omega) hD2 (by omega) (by omega) (pu193 hT hM (by omega) (and1 _)) (up193 _ _) (Or.inr ⟨oo, vv, Or.inr (Or.inl rfl)⟩)
      · obtain ⟨ta, hta, hz1⟩ := pt193 hT hM (k := dt - 1 - 1) (by omega)
        obtain ⟨tb, htb, hz2⟩ := pt193 hT hM (k := dt - 1) (by omega)
        refine ok_icmp 119 rfl rfl (fun _ => ?_) (fun hz => absurd (by simp only [pCP]; rw [hI_int (a := 1) (by omega)]; omega) hz)
        refine ok_seq 2 (σ' := (122, [(9, .int vv), (8, .int oo), (7, .int (nI i)), (6, .int (nI dt)), (5, .int (nI dv)), (4, .int (nI (800 * t + 60))), (3, .int (nI (800 * t + 1 + 4 * c))), (0, .ref 185), (1, .int (nI t)), (2, .int (nI c))], [.int (Int32.ofInt 2), .int oo], gSh, M)) rfl ?_
        rw [cI_2]
        refine ok_icmp 147 rfl rfl (fun _ => ?_) (fun hz => absurd (by simp only [pCP]; rw [hI_int (a := 2) (by omega)]; omega) hz)
        refine ok_seq 2 (σ' := (151, [(9, .int vv), (8, .int oo), (7, .int (nI i)), (6, .int (nI dt)), (5, .int (nI dv)), (4, .int (nI (800 * t + 60))), (3, .int (nI (800 * t + 1 + 4 * c))), (0, .ref 185), (1, .int (nI t)), (2, .int (nI c))], [.int ((Int8.ofInt 10).toInt32), .int oo], gSh, M)) rfl ?_
        rw [(show (Int8.ofInt 10).toInt32 = nI 10 by decide)]
        refine ok_icmp 190 rfl rfl (fun _ => ?_) (fun hz => absurd (by simp only [pCP]; rw [hI_int (a := 10) (by omega)]; omega) hz)
        refine ok_seq 2 (σ' := (194, [(9, .int vv), (8, .int oo), (7, .int (nI i)), (6, .int (nI dt)), (5, .int (nI dv)), (4, .int (nI (800 * t + 60))), (3, .int (nI (800 * t + 1 + 4 * c))), (0, .ref 185), (1, .int (nI t)), (2, .int (nI c))], [.int ((Int8.ofInt 20).toInt32), .int oo], gSh, M)) rfl ?_
        rw [(show (Int8.ofInt 20).toInt32 = nI 20 by decide)]
        refine ok_icmp 234 rfl rfl (fun _ => ?_) (fun hz => absurd (by simp only [pCP]; rw [hI_int (a := 20) (by omega)]; omega) hz)
        refine ok_seq 2 (σ' := (238, [(9, .int vv), (8, .int oo), (7, .int (nI i)), (6, .int (nI dt)), (5, .int (nI dv)), (4, .int (nI (800 * t + 60))), (3, .int (nI (800 * t + 1 + 4 * c))), (0, .ref 185), (1, .int (nI t)), (2, .int (nI c))], [.int ((Int8.ofInt 20).toInt32), .int oo], gSh, M)) rfl ?_
        rw [(show (Int8.ofInt 20).toInt32 = nI 20 by decide)]
        refine ok_icmp 270 rfl rfl (fun _ => ?_) (fun hz => absurd (by simp only [pCP]; rw [hI_int (a := 20) (by omega)]; omega) hz)
        refine ok_seq 3 (σ' := (277, [(6, .int ((nI dt) + Int32.ofInt (-1))), (9, .int vv), (8, .int oo), (7, .int (nI i)), (5, .int (nI dv)), (4, .int (nI (800 * t + 60))), (3, .int (nI (800 * t + 1 + 4 * c))), (0, .ref 185), (1, .int (nI t)), (2, .int (nI c))], [M 185 27], gSh, M)) rfl ?_
        rw [h27]
        rw [hI_d1 dt (by omega)]
        refine ok_seq 5 (σ' := (285, [(6, .int (nI (dt - 1))), (9, .int vv), (8, .int oo), (7, .int (nI i)), (5, .int (nI dv)), (4, .int (nI (800 * t + 60))), (3, .int (nI (800 * t + 1 + 4 * c))), (0, .ref 185), (1, .int (nI t)), (2, .int (nI c))], [.int ((Int8.ofInt 21).toInt32), .int oo, .int ((nI (dt - 1)) - (Int32.ofInt 1)), .ref 193], gSh, M)) rfl ?_
        rw [cI_1, hI_sub (dt - 1) 1 (by omega), (show (Int8.ofInt 21).toInt32 = nI 21 by decide)]
        refine ok_icmp 318 rfl rfl ?_ ?_
        · intro hao
          simp only [pCP] at hao
          rw [hI_int (a := 21) (by omega)] at hao
          have hao : (oo).toInt ≠ ((21 : Nat) : Int) := by omega
          refine ok_seq 2 (σ' := (322, [(6, .int (nI (dt - 1))), (9, .int vv), (8, .int oo), (7, .int (nI i)), (5, .int (nI dv)), (4, .int (nI (800 * t + 60))), (3, .int (nI (800 * t + 1 + 4 * c))), (0, .ref 185), (1, .int (nI t)), (2, .int (nI c))], [M 185 27, .int (nI ((dt - 1) - 1)), .ref 193], gSh, M)) rfl ?_
          rw [h27]
          refine ok_seq 3 (σ' := (326, [(6, .int (nI (dt - 1))), (9, .int vv), (8, .int oo), (7, .int (nI i)), (5, .int (nI dv)), (4, .int (nI (800 * t + 60))), (3, .int (nI (800 * t + 1 + 4 * c))), (0, .ref 185), (1, .int (nI t)), (2, .int (nI c))], [.int ((nI (dt - 1)) - (Int32.ofInt 1)), .ref 193, .int (nI ((dt - 1) - 1)), .ref 193], gSh, M)) rfl ?_
          rw [cI_1, hI_sub (dt - 1) 1 (by omega)]
          refine ok_bald (n := 330) (v := nI ta) rfl rfl (hI_in (by omega) (by decide)) (by rw [hI_nat (by omega)]; exact hz1) ?_
          refine ok_if 340 rfl rfl ?_ ?_
          · intro hb1
            simp only [pCP] at hb1
            rw [hI_int (a := ta) (by omega)] at hb1
            have hb1 : ((ta : Nat) : Int) ≠ (0 : Int) := by omega
            refine ok_seq 2 (σ' := (345, [(6, .int (nI (dt - 1))), (9, .int vv), (8, .int oo), (7, .int (nI i)), (5, .int (nI dv)), (4, .int (nI (800 * t + 60))), (3, .int (nI (800 * t + 1 + 4 * c))), (0, .ref 185), (1, .int (nI t)), (2, .int (nI c))], [.int (Int32.ofInt 1), .int (nI ((dt - 1) - 1)), .ref 193], gSh, M)) rfl ?_
            rw [cI_1]
            refine ok_bast (n := 330) rfl rfl (hI_in (by omega) (by decide)) ?_
            rw [hI_nat (a := (dt - 1) - 1) (by omega)]
            refine ok_seq 2 (σ' := (38, [(7, .int ((nI i) + (Int32.ofInt 1))), (6, .int (nI (dt - 1))), (9, .int vv), (8, .int oo), (5, .int (nI dv)), (4, .int (nI (800 * t + 60))), (3, .int (nI (800 * t + 1 + 4 * c))), (0, .ref 185), (1, .int (nI t)), (2, .int (nI c))], [], gSh, pUp M 193 ((dt - 1) - 1) (.int ((nI 1) &&& 1)))) rfl ?_
            rw [cI_1, hI_add i 1]
            exact ih (i + 1) dv (dt - 1) _ _ (by omega) (by omega) hD2 (by omega) (by omega) (pu193 hT hM (by omega) (and1 _)) (up193 _ _) (Or.inr ⟨oo, vv, Or.inr (Or.inr (Or.inr (Or.inl rfl)))⟩)
          · intro hb1
            simp only [pCP] at hb1
            rw [hI_int (a := ta) (by omega)] at hb1
            have hb1 : ((ta : Nat) : Int) = (0 : Int) := by omega
            refine ok_seq 2 (σ' := (334, [(6, .int (nI (dt - 1))), (9, .int vv), (8, .int oo), (7, .int (nI i)), (5, .int (nI dv)), (4, .int (nI (800 * t + 60))), (3, .int (nI (800 * t + 1 + 4 * c))), (0, .ref 185), (1, .int (nI t)), (2, .int (nI c))], [M 185 27, .int (nI ((dt - 1) - 1)), .ref 193], gSh, M)) rfl ?_
            rw [h27]
            refine ok_seq 1 (σ' := (336, [(6, .int (nI (dt - 1))), (9, .int vv), (8, .int oo), (7, .int (nI i)), (5, .int (nI dv)), (4, .int (nI (800 * t + 60))), (3, .int (nI (800 * t + 1 + 4 * c))), (0, .ref 185), (1, .int (nI t)), (2, .int (nI c))], [.int (nI (dt - 1)), .ref 193, .int (nI ((dt - 1) - 1)), .ref 193], gSh, M)) rfl ?_
            refine ok_bald (n := 330) (v := nI tb) rfl rfl (hI_in (by omega) (by decide)) (by rw [hI_nat (by omega)]; exact hz2) ?_
            refine ok_if 344 rfl rfl ?_ ?_
            · intro hb2
              simp only [pCP] at hb2
              rw [hI_int (a := tb) (by omega)] at hb2
              have hb2 : ((tb : Nat) : Int) = (0 : Int) := by omega
              refine ok_seq 1 (σ' := (345, [(6, .int (nI (dt - 1))), (9, .int vv), (8, .int oo), (7, .int (nI i)), (5, .int (nI dv)), (4, .int (nI (800 * t + 60))), (3, .int (nI (800 * t + 1 + 4 * c))), (0, .ref 185), (1, .int (nI t)), (2, .int (nI c))], [.int (Int32.ofInt 0), .int (nI ((dt - 1) - 1)), .ref 193], gSh, M)) rfl ?_
              rw [cI_0]
              refine ok_bast (n := 330) rfl rfl (hI_in (by omega) (by decide)) ?_
              rw [hI_nat (a := (dt - 1) - 1) (by omega)]
              refine ok_seq 2 (σ' := (38, [(7, .int ((nI i) + (Int32.ofInt 1))), (6, .int (nI (dt - 1))), (9, .int vv), (8, .int oo), (5, .int (nI dv)), (4, .int (nI (800 * t + 60))), (3, .int (nI (800 * t + 1 + 4 * c))), (0, .ref 185), (1, .int (nI t)), (2, .int (nI c))], [], gSh, pUp M 193 ((dt - 1) - 1) (.int ((nI 0) &&& 1)))) rfl ?_
              rw [cI_1, hI_add i 1]
              exact ih (i + 1) dv (dt - 1) _ _ (by omega) (by omega) hD2 (by omega) (by omega) (pu193 hT hM (by omega) (and1 _)) (up193 _ _) (Or.inr ⟨oo, vv, Or.inr (Or.inr (Or.inr (Or.inl rfl)))⟩)
            · intro hb2
              simp only [pCP] at hb2
              rw [hI_int (a := tb) (by omega)] at hb2
              have hb2 : ((tb : Nat) : Int) ≠ (0 : Int) := by omega
              refine ok_seq 2 (σ' := (345, [(6, .int (nI (dt - 1))), (9, .int vv), (8, .int oo), (7, .int (nI i)), (5, .int (nI dv)), (4, .int (nI (800 * t + 60))), (3, .int (nI (800 * t + 1 + 4 * c))), (0, .ref 185), (1, .int (nI t)), (2, .int (nI c))], [.int (Int32.ofInt 1), .int (nI ((dt - 1) - 1)), .ref 193], gSh, M)) rfl ?_
              rw [cI_1]
              refine ok_bast (n := 330) rfl rfl (hI_in (by omega) (by decide)) ?_
              rw [hI_nat (a := (dt - 1) - 1) (by omega)]
              refine ok_seq 2 (σ' := (38, [(7, .int ((nI i) + (Int32.ofInt 1))), (6, .int (nI (dt - 1))), (9, .int vv), (8, .int oo), (5, .int (nI dv)), (4, .int (nI (800 * t + 60))), (3, .int (nI (800 * t + 1 + 4 * c))), (0, .ref 185), (1, .int (nI t)), (2, .int (nI c))], [], gSh, pUp M 193 ((dt - 1) - 1) (.int ((nI 1) &&& 1)))) rfl ?_
              rw [cI_1, hI_add i 1]
              exact ih (i + 1) dv (dt - 1) _ _ (by omega) (by omega) hD2 (by omega) (by omega) (pu193 hT hM (by omega) (and1 _)) (up193 _ _) (Or.inr ⟨oo, vv, Or.inr (Or.inr (Or.inr (Or.inl rfl)))⟩)
        · intro hao
          simp only [pCP] at hao
          rw [hI_int (a := 21) (by omega)] at hao
          have hao : (oo).toInt = ((21 : Nat) : Int) := by omega
          refine ok_seq 2 (σ' := (292, [(6, .int (nI (dt - 1))), (9, .int vv), (8, .int oo), (7, .int (nI i)), (5, .int (nI dv)), (4, .int (nI (800 * t + 60))), (3, .int (nI (800 * t + 1 + 4 * c))), (0, .ref 185), (1, .int (nI t)), (2, .int (nI c))], [M 185 27, .int (nI ((dt - 1) - 1)), .ref 193], gSh, M)) rfl ?_
          rw [h27]
          refine ok_seq 3 (σ' := (296, [(6, .int (nI (dt - 1))), (9, .int vv), (8, .int oo), (7, .int (nI i)), (5, .int (nI dv)), (4, .int (nI (800 * t + 60))), (3, .int (nI (800 * t + 1 + 4 * c))), (0, .ref 185), (1, .int (nI t)), (2, .int (nI c))], [.int ((nI (dt - 1)) - (Int32.ofInt 1)), .ref 193, .int (nI ((dt - 1) - 1)), .ref 193], gSh, M)) rfl ?_
          rw [cI_1, hI_sub (dt - 1) 1 (by omega)]
          refine ok_bald (n := 330) (v := nI ta) rfl rfl (hI_in (by omega) (by decide)) (by rw [hI_nat (by omega)]; exact hz1) ?_
          refine ok_if 314 rfl rfl ?_ ?_
          · intro hb1
            simp only [pCP] at hb1
            rw [hI_int (a := ta) (by omega)] at hb1
            have hb1 : ((ta : Nat) : Int) = (0 : Int) := by omega
            refine ok_seq 2 (σ' := (345, [(6, .int (nI (dt - 1))), (9, .int vv), (8, .int oo), (7, .int (nI i)), (5, .int (nI dv)), (4, .int (nI (800 * t + 60))), (3, .int (nI (800 * t + 1 + 4 * c))), (0, .ref 185), (1, .int (nI t)), (2, .int (nI c))], [.int (Int32.ofInt 0), .int (nI ((dt - 1) - 1)), .ref 193], gSh, M)) rfl ?_
            rw [cI_0]
            refine ok_bast (n := 330) rfl rfl (hI_in (by omega) (by decide)) ?_
            rw [hI_nat (a := (dt - 1) - 1) (by omega)]
            refine ok_seq 2 (σ' := (38, [(7, .int ((nI i) + (Int32.ofInt 1))), (6, .int (nI (dt - 1))), (9, .int vv), (8, .int oo), (5, .int (nI dv)), (4, .int (nI (800 * t + 60))), (3, .int (nI (800 * t + 1 + 4 * c))), (0, .ref 185), (1, .int (nI t)), (2, .int (nI c))], [], gSh, pUp M 193 ((dt - 1) - 1) (.int ((nI 0) &&& 1)))) rfl ?_
            rw [cI_1, hI_add i 1]
            exact ih (i + 1) dv (dt - 1) _ _ (by omega) (by omega) hD2 (by omega) (by omega) (pu193 hT hM (by omega) (and1 _)) (up193 _ _) (Or.inr ⟨oo, vv, Or.inr (Or.inr (Or.inr (Or.inl rfl)))⟩)
          · intro hb1
            simp only [pCP] at hb1
            rw [hI_int (a := ta) (by omega)] at hb1
            have hb1 : ((ta : Nat) : Int) ≠ (0 : Int) := by omega
            refine ok_seq 2 (σ' := (304, [(6, .int (nI (dt - 1))), (9, .int vv), (8, .int oo), (7, .int (nI i)), (5, .int (nI dv)), (4, .int (nI (800 * t + 60))), (3, .int (nI (800 * t + 1 + 4 * c))), (0, .ref 185), (1, .int (nI t)), (2, .int (nI c))], [M 185 27, .int (nI ((dt - 1) - 1)), .ref 193], gSh, M)) rfl ?_
            rw [h27]
            refine ok_seq 1 (σ' := (306, [(6, .int (nI (dt - 1))), (9, .int vv), (8, .int oo), (7, .int (nI i)), (5, .int (nI dv)), (4, .int (nI (800 * t + 60))), (3, .int (nI (800 * t + 1 + 4 * c))), (0, .ref 185), (1, .int (nI t)), (2, .int (nI c))], [.int (nI (dt - 1)), .ref 193, .int (nI ((dt - 1) - 1)), .ref 193], gSh, M)) rfl ?_
            refine ok_bald (n := 330) (v := nI tb) rfl rfl (hI_in (by omega) (by decide)) (by rw [hI_nat (by omega)]; exact hz2) ?_
            refine ok_if 314 rfl rfl ?_ ?_
            · intro hb2
              simp only [pCP] at hb2
              rw [hI_int (a := tb) (by omega)] at hb2
              have hb2 : ((tb : Nat) : Int) = (0 : Int) := by omega
              refine ok_seq 2 (σ' := (345, [(6, .int (nI (dt - 1))), (9, .int vv), (8, .int oo), (7, .int (nI i)), (5, .int (nI dv)), (4, .int (nI (800 * t + 60))), (3, .int (nI (800 * t + 1 + 4 * c))), (0, .ref 185), (1, .int (nI t)), (2, .int (nI c))], [.int (Int32.ofInt 0), .int (nI ((dt - 1) - 1)), .ref 193], gSh, M)) rfl ?_
              rw [cI_0]
              refine ok_bast (n := 330) rfl rfl (hI_in (by omega) (by decide)) ?_
              rw [hI_nat (a := (dt - 1) - 1) (by omega)]
              refine ok_seq 2 (σ' := (38, [(7, .int ((nI i) + (Int32.ofInt 1))), (6, .int (nI (dt - 1))), (9, .int vv), (8, .int oo), (5, .int (nI dv)), (4, .int (nI (800 * t + 60))), (3, .int (nI (800 * t + 1 + 4 * c))), (0, .ref 185), (1, .int (nI t)), (2, .int (nI c))], [], gSh, pUp M 193 ((dt - 1) - 1) (.int ((nI 0) &&& 1)))) rfl ?_
              rw [cI_1, hI_add i 1]
              exact ih (i + 1) dv (dt - 1) _ _ (by omega) (by omega) hD2 (by omega) (by omega) (pu193 hT hM (by omega) (and1 _)) (up193 _ _) (Or.inr ⟨oo, vv, Or.inr (Or.inr (Or.inr (Or.inl rfl)))⟩)
            · intro hb2
              simp only [pCP] at hb2
              rw [hI_int (a := tb) (by omega)] at hb2
              have hb2 : ((tb : Nat) : Int) ≠ (0 : Int) := by omega
              refine ok_seq 2 (σ' := (345, [(6, .int (nI (dt - 1))), (9, .int vv), (8, .int oo), (7, .int (nI i)), (5, .int (nI dv)), (4, .int (nI (800 * t + 60))), (3, .int (nI (800 * t + 1 + 4 * c))), (0, .ref 185), (1, .int (nI t)), (2, .int (nI c))], [.int (Int32.ofInt 1), .int (nI ((dt - 1) - 1)), .ref 193], gSh, M)) rfl ?_
              rw [cI_1]
              refine ok_bast (n := 330) rfl rfl (hI_in (by omega) (by decide)) ?_
              rw [hI_nat (a := (dt - 1) - 1) (by omega)]
              refine ok_seq 2 (σ' := (38, [(7, .int ((nI i) + (Int32.ofInt 1))), (6, .int (nI (dt - 1))), (9, .int vv), (8, .int oo), (5, .int (nI dv)), (4, .int (nI (800 * t + 60))), (3, .int (nI (800 * t + 1 + 4 * c))), (0, .ref 185), (1, .int (nI t)), (2, .int (nI c))], [], gSh, pUp M 193 ((dt - 1) - 1) (.int ((nI 1) &&& 1)))) rfl ?_
              rw [cI_1, hI_add i 1]
              exact ih (i + 1) dv (dt - 1) _ _ (by omega) (by omega) hD2 (by omega) (by omega) (pu193 hT hM (by omega) (and1 _)) (up193 _ _) (Or.inr ⟨oo, vv, Or.inr (Or.inr (Or.inr (Or.inl rfl)))⟩)
    · refine ok_seq 3 (σ' := (44, [(7, .int (nI i)), (9, .int y9), (8, .int y8), (5, .int (nI dv)), (6, .int (nI dt)), (4, .int (nI (800 * t + 60))), (3, .int (nI (800 * t + 1 + 4 * c))), (0, .ref 185), (1, .int (nI t)), (2, .int (nI c))], [M 185 5, .int (nI i)], gSh, M)) rfl ?_
      rw [h5]
      refine ok_seq 3 (σ' := (47, [(7, .int (nI i)), (9, .int y9), (8, .int y8), (5, .int (nI dv)), (6, .int (nI dt)), (4, .int (nI (800 * t + 60))), (3, .int (nI (800 * t + 1 + 4 * c))), (0, .ref 185), (1, .int (nI t)), (2, .int (nI c))], [.int ((nI (800 * t + 1 + 4 * c)) + (Int32.ofInt 3)), .ref 188, .int (nI i)], gSh, M)) rfl ?_
      rw [cI_3, hI_add (800 * t + 1 + 4 * c) 3]
      refine ok_iald (n := 3200) (v := nI j) rfl rfl (hI_in (by omega) (by decide)) (by rw [hI_nat (by omega)]; exact hj) ?_
      refine ok_icmp 352 rfl rfl (fun hz => absurd hz (by simp only [pCP]; rw [hI_int (a := i) (by omega), hI_int (a := j) (by omega)]; omega)) (fun _ => ?_)
      refine ok_seq 2 (σ' := (55, [(7, .int (nI i)), (9, .int y9), (8, .int y8), (5, .int (nI dv)), (6, .int (nI dt)), (4, .int (nI (800 * t + 60))), (3, .int (nI (800 * t + 1 + 4 * c))), (0, .ref 185), (1, .int (nI t)), (2, .int (nI c))], [M 185 5], gSh, M)) rfl ?_
      rw [h5]
      refine ok_seq 5 (σ' := (62, [(7, .int (nI i)), (9, .int y9), (8, .int y8), (5, .int (nI dv)), (6, .int (nI dt)), (4, .int (nI (800 * t + 60))), (3, .int (nI (800 * t + 1 + 4 * c))), (0, .ref 185), (1, .int (nI t)), (2, .int (nI c))], [.int ((nI (800 * t + 60)) + ((Int32.ofInt 2) * (nI i))), .ref 188], gSh, M)) rfl ?_
      rw [cI_2, hI_mul 2 i, hI_add (800 * t + 60) (2 * i)]
      refine ok_iald (n := 3200) (v := oo) rfl rfl (hI_in (by omega) (by decide)) (by rw [hI_nat (by omega)]; exact ho) ?_
      refine ok_seq 3 (σ' := (69, [(8, .int oo), (7, .int (nI i)), (9, .int y9), (5, .int (nI dv)), (6, .int (nI dt)), (4, .int (nI (800 * t + 60))), (3, .int (nI (800 * t + 1 + 4 * c))), (0, .ref 185), (1, .int (nI t)), (2, .int (nI c))], [M 185 5], gSh, M)) rfl ?_
      rw [h5]
      refine ok_seq 7 (σ' := (78, [(8, .int oo), (7, .int (nI i)), (9, .int y9), (5, .int (nI dv)), (6, .int (nI dt)), (4, .int (nI (800 * t + 60))), (3, .int (nI (800 * t + 1 + 4 * c))), (0, .ref 185), (1, .int (nI t)), (2, .int (nI c))], [.int (((nI (800 * t + 60)) + ((Int32.ofInt 2) * (nI i))) + (Int32.ofInt 1)), .ref 188], gSh, M)) rfl ?_
      rw [cI_2, hI_mul 2 i, hI_add (800 * t + 60) (2 * i), cI_1, hI_add ((800 * t + 60) + (2 * i)) 1]
      refine ok_iald (n := 3200) (v := vv) rfl rfl (hI_in (by omega) (by decide)) (by rw [hI_nat (by omega)]; exact hvv) ?_
      refine ok_seq 3 (σ' := (84, [(9, .int vv), (8, .int oo), (7, .int (nI i)), (5, .int (nI dv)), (6, .int (nI dt)), (4, .int (nI (800 * t + 60))), (3, .int (nI (800 * t + 1 + 4 * c))), (0, .ref 185), (1, .int (nI t)), (2, .int (nI c))], [.int (Int32.ofInt 1), .int oo], gSh, M)) rfl ?_
      rw [cI_1]
      rcases hop with ⟨ho1, hD2⟩ | ⟨ho1, hv1, hv2, hD2⟩ | ⟨ho1, ho3, hD2⟩ | ⟨ho1, ho2, ho3, hD2⟩ | ⟨ho1, ho2, ho3, hD2⟩ | ⟨ho1, ho3, hD2⟩ | ⟨ho1, ho2, ho3, hD2⟩
      · refine ok_icmp 119 rfl rfl (fun hz => absurd hz (by simp only [pCP]; rw [hI_int (a := 1) (by omega)]; omega)) (fun _ => ?_)
        refine ok_seq 2 (σ' := (91, [(9, .int vv), (8, .int oo), (7, .int (nI i)), (5, .int (nI dv)), (6, .int (nI dt)), (4, .int (nI (800 * t + 60))), (3, .int (nI (800 * t + 1 + 4 * c))), (0, .ref 185), (1, .int (nI t)), (2, .int (nI c))], [M 185 26], gSh, M)) rfl ?_
        rw [h26]
        refine ok_seq 2 (σ' := (95, [(9, .int vv), (8, .int oo), (7, .int (nI i)), (5, .int (nI dv)), (6, .int (nI dt)), (4, .int (nI (800 * t + 60))), (3, .int (nI (800 * t + 1 + 4 * c))), (0, .ref 185), (1, .int (nI t)), (2, .int (nI c))], [.int oo, .int (nI dv), .ref 192], gSh, M)) rfl ?_
        refine ok_if 104 rfl rfl (fun hz => absurd hz (by simp only [pCP]; omega)) (fun _ => ?_)
        refine ok_seq 3 (σ' := (112, [(9, .int vv), (8, .int oo), (7, .int (nI i)), (5, .int (nI dv)), (6, .int (nI dt)), (4, .int (nI (800 * t + 60))), (3, .int (nI (800 * t + 1 + 4 * c))), (0, .ref 185), (1, .int (nI t)), (2, .int (nI c))], [.long ((vv).toInt64), .int (nI dv), .ref 192], gSh, M)) rfl ?_
        refine ok_last (n := 330) rfl rfl (hI_in (by omega) (by decide)) ?_
        rw [hI_nat (a := dv) (by omega)]
        refine ok_seq 4 (σ' := (38, [(7, .int ((nI i) + (Int32.ofInt 1))), (5, .int ((nI dv) + (Int32.ofInt 1))), (9, .int vv), (8, .int oo), (6, .int (nI dt)), (4, .int (nI (800 * t + 60))), (3, .int (nI (800 * t + 1 + 4 * c))), (0, .ref 185), (1, .int (nI t)), (2, .int (nI c))], [], gSh, pUp M 192 dv (.long ((vv).toInt64)))) rfl ?_
        rw [cI_1, hI_add i 1, hI_add dv 1]
        exact ih (i + 1) (dv + 1) dt _ _ (by omega) (by omega) hD2 (by omega) (by omega) (pu192 hT hM (by omega) _) (up192 _ _) (Or.inr ⟨oo, vv, Or.inr (Or.inr (Or.inl rfl))⟩)
      · obtain ⟨vn, hvn, evn⟩ := ty_nat (x := []) (hi := 10) ⟨vv, rfl, hv1, hv2⟩
        cases evn
        obtain ⟨nz, hnz⟩ := pt191 hT hM (k := vn) (by omega)
        refine ok_icmp 119 rfl rfl (fun hz => absurd hz (by simp only [pCP]; rw [hI_int (a := 1) (by omega)]; omega)) (fun _ => ?_)
        refine ok_seq 2 (σ' := (91, [(9, .int (nI vn)), (8, .int oo), (7, .int (nI i)), (5, .int (nI dv)), (6, .int (nI dt)), (4, .int (nI (800 * t + 60))), (3, .int (nI (800 * t + 1 + 4 * c))), (0, .ref 185), (1, .int (nI t)), (2, .int (nI c))], [M 185 26], gSh, M)) rfl ?_
        rw [h26]
        refine ok_seq 2 (σ' := (95, [(9, .int (nI vn)), (8, .int oo), (7, .int (nI i)), (5, .int (nI dv)), (6, .int (nI dt)), (4, .int (nI (800 * t + 60))), (3, .int (nI (800 * t + 1 + 4 * c))), (0, .ref 185), (1, .int (nI t)), (2, .int (nI c))], [.int oo, .int (nI dv), .ref 192], gSh, M)) rfl ?_
        refine ok_if 104 rfl rfl (fun _ => ?_) (fun hz => absurd (by simp only [pCP]; omega) hz)
        refine ok_seq 2 (σ' := (108, [(9, .int (nI vn)), (8, .int oo), (7, .int (nI i)), (5, .int (nI dv)), (6, .int (nI dt)), (4, .int (nI (800 * t + 60))), (3, .int (nI (800 * t + 1 + 4 * c))), (0, .ref 185), (1, .int (nI t)), (2, .int (nI c))], [M 185 25, .int (nI dv), .ref 192], gSh, M)) rfl ?_
        rw [h25]
        refine ok_seq 1 (σ' := (110, [(9, .int (nI vn)), (8, .int oo), (7, .int (nI i)), (5, .int (nI dv)), (6, .int (nI dt)), (4, .int (nI (800 * t + 60))), (3, .int (nI (800 * t + 1 + 4 * c))), (0, .ref 185), (1, .int (nI t)), (2, .int (nI c))], [.int (nI vn), .ref 191, .int (nI dv), .ref 192], gSh, M)) rfl ?_
        refine ok_iald (n := 11) (v := nz) rfl rfl (hI_in (by omega) (by decide)) (by rw [hI_nat (by omega)]; exact hnz) ?_
        refine ok_seq 1 (σ' := (112, [(9, .int (nI vn)), (8, .int oo), (7, .int (nI i)), (5, .int (nI dv)), (6, .int (nI dt)), (4, .int (nI (800 * t + 60))), (3, .int (nI (800 * t + 1 + 4 * c))), (0, .ref 185), (1, .int (nI t)), (2, .int (nI c))], [.long ((nz).toInt64), .int (nI dv), .ref 192], gSh, M)) rfl ?_
        refine ok_last (n := 330) rfl rfl (hI_in (by omega) (by decide)) ?_
        rw [hI_nat (a := dv) (by omega)]
        refine ok_seq 4 (σ' := (38, [(7, .int ((nI i) + (Int32.ofInt 1))), (5, .int ((nI dv) + (Int32.ofInt 1))), (9, .int (nI vn)), (8, .int oo), (6, .int (nI dt)), (4, .int (nI (800 * t + 60))), (3, .int (nI (800 * t + 1 + 4 * c))), (0, .ref 185), (1, .int (nI t)), (2, .int (nI c))], [], gSh, pUp M 192 dv (.long ((nz).toInt64)))) rfl ?_
        rw [cI_1, hI_add i 1, hI_add dv 1]
        exact ih (i + 1) (dv + 1) dt _ _ (by omega) (by omega) hD2 (by omega) (by omega) (pu192 hT hM (by omega) _) (up192 _ _) (Or.inr ⟨oo, nI vn, Or.inr (Or.inr (Or.inl rfl))⟩)
      · obtain ⟨z1, hz1⟩ := pt192 hT hM (k := dv - 1) (by omega)
        refine ok_icmp 119 rfl rfl (fun _ => ?_) (fun hz => absurd (by simp only [pCP]; rw [hI_int (a := 1) (by omega)]; omega) hz)
        refine ok_seq 2 (σ' := (122, [(9, .int vv), (8, .int oo), (7, .int (nI i)), (5, .int (nI dv)), (6, .int (nI dt)), (4, .int (nI (800 * t + 60))), (3, .int (nI (800 * t + 1 + 4 * c))), (0, .ref 185), (1, .int (nI t)), (2, .int (nI c))], [.int (Int32.ofInt 2), .int oo], gSh, M)) rfl ?_
        rw [cI_2]
        refine ok_icmp 147 rfl rfl (fun hz => absurd hz (by simp only [pCP]; rw [hI_int (a := 2) (by omega)]; omega)) (fun _ => ?_)
        refine ok_seq 2 (σ' := (129, [(9, .int vv), (8, .int oo), (7, .int (nI i)), (5, .int (nI dv)), (6, .int (nI dt)), (4, .int (nI (800 * t + 60))), (3, .int (nI (800 * t + 1 + 4 * c))), (0, .ref 185), (1, .int (nI t)), (2, .int (nI c))], [M 185 26], gSh, M)) rfl ?_
        rw [h26]
        refine ok_seq 5 (σ' := (137, [(9, .int vv), (8, .int oo), (7, .int (nI i)), (5, .int (nI dv)), (6, .int (nI dt)), (4, .int (nI (800 * t + 60))), (3, .int (nI (800 * t + 1 + 4 * c))), (0, .ref 185), (1, .int (nI t)), (2, .int (nI c))], [M 185 26, .int ((nI dv) - (Int32.ofInt 1)), .ref 192], gSh, M)) rfl ?_
        rw [h26]
        rw [cI_1, hI_sub dv 1 (by omega)]
        refine ok_seq 3 (σ' := (141, [(9, .int vv), (8, .int oo), (7, .int (nI i)), (5, .int (nI dv)), (6, .int (nI dt)), (4, .int (nI (800 * t + 60))), (3, .int (nI (800 * t + 1 + 4 * c))), (0, .ref 185), (1, .int (nI t)), (2, .int (nI c))], [.int ((nI dv) - (Int32.ofInt 1)), .ref 192, .int (nI (dv - 1)), .ref 192], gSh, M)) rfl ?_
        rw [cI_1, hI_sub dv 1 (by omega)]
        refine ok_lald (n := 330) (v := z1) rfl rfl (hI_in (by omega) (by decide)) (by rw [hI_nat (by omega)]; exact hz1) ?_
        refine ok_seq 1 (σ' := (143, [(9, .int vv), (8, .int oo), (7, .int (nI i)), (5, .int (nI dv)), (6, .int (nI dt)), (4, .int (nI (800 * t + 60))), (3, .int (nI (800 * t + 1 + 4 * c))), (0, .ref 185), (1, .int (nI t)), (2, .int (nI c))], [.long (-z1), .int (nI (dv - 1)), .ref 192], gSh, M)) rfl ?_
        refine ok_last (n := 330) rfl rfl (hI_in (by omega) (by decide)) ?_
        rw [hI_nat (a := dv - 1) (by omega)]
        refine ok_seq 3 (σ' := (38, [(7, .int ((nI i) + (Int32.ofInt 1))), (9, .int vv), (8, .int oo), (5, .int (nI dv)), (6, .int (nI dt)), (4, .int (nI (800 * t + 60))), (3, .int (nI (800 * t + 1 + 4 * c))), (0, .ref 185), (1, .int (nI t)), (2, .int (nI c))], [], gSh, pUp M 192 (dv - 1) (.long (-z1)))) rfl ?_
        rw [cI_1, hI_add i 1]
        exact ih (i + 1) dv dt _ _ (by omega) (by omega) hD2 (by omega) (by omega) (pu192 hT hM (by omega) _) (up192 _ _) (Or.inr ⟨oo, vv, Or.inl rfl⟩)
      · obtain ⟨z1, hz1⟩ := pt192 hT hM (k := dv - 1 - 1) (by omega)
        obtain ⟨z2, hz2⟩ := pt192 hT hM (k := dv - 1) (by omega)
        obtain ⟨z3, hz3⟩ := c_pureL hH.1 (vs := [.int oo, .long z1, .long z2]) ⟨⟨oo, rfl, ho1, ho2⟩, sat_l _, sat_l _, trivial⟩ hM (hW.gr hg)
        refine ok_icmp 119 rfl rfl (fun _ => ?_) (fun hz => absurd (by simp only [pCP]; rw [hI_int (a := 1) (by omega)]; omega) hz)
        refine ok_seq 2 (σ' := (122, [(9, .int vv), (8, .int oo), (7, .int (nI i)), (5, .int (nI dv)), (6, .int (nI dt)), (4, .int (nI (800 * t + 60))), (3, .int (nI (800 * t + 1 + 4 * c))), (0, .ref 185), (1, .int (nI t)), (2, .int (nI c))], [.int (Int32.ofInt 2), .int oo], gSh, M)) rfl ?_
        rw [cI_2]
        refine ok_icmp 147 rfl rfl (fun _ => ?_) (fun hz => absurd (by simp only [pCP]; rw [hI_int (a := 2) (by omega)]; omega) hz)
        refine ok_seq 2 (σ' := (151, [(9, .int vv), (8, .int oo), (7, .int (nI i)), (5, .int (nI dv)), (6, .int (nI dt)), (4, .int (nI (800 * t + 60))), (3, .int (nI (800 * t + 1 + 4 * c))), (0, .ref 185), (1, .int (nI t)), (2, .int (nI c))], [.int ((Int8.ofInt 10).toInt32), .int oo], gSh, M)) rfl ?_
        rw [(show (Int8.ofInt 10).toInt32 = nI 10 by decide)]
        refine ok_icmp 190 rfl rfl (fun hz => absurd hz (by simp only [pCP]; rw [hI_int (a := 10) (by omega)]; omega)) (fun _ => ?_)
        refine ok_seq 3 (σ' := (161, [(5, .int ((nI dv) + Int32.ofInt (-1))), (9, .int vv), (8, .int oo), (7, .int (nI i)), (6, .int (nI dt)), (4, .int (nI (800 * t + 60))), (3, .int (nI (800 * t + 1 + 4 * c))), (0, .ref 185), (1, .int (nI t)), (2, .int (nI c))], [M 185 26], gSh, M)) rfl ?_
        rw [h26]
        rw [hI_d1 dv (by omega)]
        refine ok_seq 6 (σ' := (171, [(5, .int (nI (dv - 1))), (9, .int vv), (8, .int oo), (7, .int (nI i)), (6, .int (nI dt)), (4, .int (nI (800 * t + 60))), (3, .int (nI (800 * t + 1 + 4 * c))), (0, .ref 185), (1, .int (nI t)), (2, .int (nI c))], [M 185 26, .int oo, .int ((nI (dv - 1)) - (Int32.ofInt 1)), .ref 192], gSh, M)) rfl ?_
        rw [h26]
        rw [cI_1, hI_sub (dv - 1) 1 (by omega)]
        refine ok_seq 3 (σ' := (175, [(5, .int (nI (dv - 1))), (9, .int vv), (8, .int oo), (7, .int (nI i)), (6, .int (nI dt)), (4, .int (nI (800 * t + 60))), (3, .int (nI (800 * t + 1 + 4 * c))), (0, .ref 185), (1, .int (nI t)), (2, .int (nI c))], [.int ((nI (dv - 1)) - (Int32.ofInt 1)), .ref 192, .int oo, .int (nI ((dv - 1) - 1)), .ref 192], gSh, M)) rfl ?_
        rw [cI_1, hI_sub (dv - 1) 1 (by omega)]
        refine ok_lald (n := 330) (v := z1) rfl rfl (hI_in (by omega) (by decide)) (by rw [hI_nat (by omega)]; exact hz1) ?_
        refine ok_seq 2 (σ' := (180, [(5, .int (nI (dv - 1))), (9, .int vv), (8, .int oo), (7, .int (nI i)), (6, .int (nI dt)), (4, .int (nI (800 * t + 60))), (3, .int (nI (800 * t + 1 + 4 * c))), (0, .ref 185), (1, .int (nI t)), (2, .int (nI c))], [M 185 26, .long z1, .int oo, .int (nI ((dv - 1) - 1)), .ref 192], gSh, M)) rfl ?_
        rw [h26]
        refine ok_seq 1 (σ' := (182, [(5, .int (nI (dv - 1))), (9, .int vv), (8, .int oo), (7, .int (nI i)), (6, .int (nI dt)), (4, .int (nI (800 * t + 60))), (3, .int (nI (800 * t + 1 + 4 * c))), (0, .ref 185), (1, .int (nI t)), (2, .int (nI c))], [.int (nI (dv - 1)), .ref 192, .long z1, .int oo, .int (nI ((dv - 1) - 1)), .ref 192], gSh, M)) rfl ?_
        refine ok_lald (n := 330) (v := z2) rfl rfl (hI_in (by omega) (by decide)) (by rw [hI_nat (by omega)]; exact hz2) ?_
        refine ok_call (mi := 208) (as := [.int oo, .long z1, .long z2]) (pc' := 186) (L' := [(5, .int (nI (dv - 1))), (9, .int vv), (8, .int oo), (7, .int (nI i)), (6, .int (nI dt)), (4, .int (nI (800 * t + 60))), (3, .int (nI (800 * t + 1 + 4 * c))), (0, .ref 185), (1, .int (nI t)), (2, .int (nI c))]) (st' := [.int (nI ((dv - 1) - 1)), .ref 192]) (sh' := gSh) (M' := M) (i := .invokestatic 263) (len := 3) rfl rfl ?_
        refine ((hz3.deep (by omega))).mono ?_
        rintro v hp ⟨rfl, rfl⟩
        refine ok_last (n := 330) rfl rfl (hI_in (by omega) (by decide)) ?_
        rw [hI_nat (a := (dv - 1) - 1) (by omega)]
        refine ok_seq 3 (σ' := (38, [(7, .int ((nI i) + (Int32.ofInt 1))), (5, .int (nI (dv - 1))), (9, .int vv), (8, .int oo), (6, .int (nI dt)), (4, .int (nI (800 * t + 60))), (3, .int (nI (800 * t + 1 + 4 * c))), (0, .ref 185), (1, .int (nI t)), (2, .int (nI c))], [], gSh, pUp M 192 ((dv - 1) - 1) (.long z3))) rfl ?_
        rw [cI_1, hI_add i 1]
        exact ih (i + 1) (dv - 1) dt _ _ (by omega) (by omega) hD2 (by omega) (by omega) (pu192 hT hM (by omega) _) (up192 _ _) (Or.inr ⟨oo, vv, Or.inr (Or.inr (Or.inl rfl))⟩)
      · obtain ⟨z1, hz1⟩ := pt192 hT hM (k := dv - 2) (by omega)
        obtain ⟨z2, hz2⟩ := pt192 hT hM (k := dv - 2 + 1) (by omega)
        obtain ⟨z3, y1, y2, hz3⟩ := c_pure hH.2 (vs := [.int oo, .long z1, .long z2]) ⟨⟨oo, rfl, ho1, ho2⟩, sat_l _, sat_l _, trivial⟩ hM (hW.gr hg) (fun q hq => by cases hq)
        refine ok_icmp 119 rfl rfl (fun _ => ?_) (fun hz => absurd (by simp only [pCP]; rw [hI_int (a := 1) (by omega)]; omega) hz)
        refine ok_seq 2 (σ' := (122, [(9, .int vv), (8, .int oo), (7, .int (nI i)), (5, .int (nI dv)), (6, .int (nI dt)), (4, .int (nI (800 * t + 60))), (3, .int (nI (800 * t + 1 + 4 * c))), (0, .ref 185), (1, .int (nI t)), (2, .int (nI c))], [.int (Int32.ofInt 2), .int oo], gSh, M)) rfl ?_
        rw [cI_2]
        refine ok_icmp 147 rfl rfl (fun _ => ?_) (fun hz => absurd (by simp only [pCP]; rw [hI_int (a := 2) (by omega)]; omega) hz)
        refine ok_seq 2 (σ' := (151, [(9, .int vv), (8, .int oo), (7, .int (nI i)), (5, .int (nI dv)), (6, .int (nI dt)), (4, .int (nI (800 * t + 60))), (3, .int (nI (800 * t + 1 + 4 * c))), (0, .ref 185), (1, .int (nI t)), (2, .int (nI c))], [.int ((Int8.ofInt 10).toInt32), .int oo], gSh, M)) rfl ?_
        rw [(show (Int8.ofInt 10).toInt32 = nI 10 by decide)]
        refine ok_icmp 190 rfl rfl (fun _ => ?_) (fun hz => absurd (by simp only [pCP]; rw [hI_int (a := 10) (by omega)]; omega) hz)
        refine ok_seq 2 (σ' := (194, [(9, .int vv), (8, .int oo), (7, .int (nI i)), (5, .int (nI dv)), (6, .int (nI dt)), (4, .int (nI (800 * t + 60))), (3, .int (nI (800 * t + 1 + 4 * c))), (0, .ref 185), (1, .int (nI t)), (2, .int (nI c))], [.int ((Int8.ofInt 20).toInt32), .int oo], gSh, M)) rfl ?_
        rw [(show (Int8.ofInt 20).toInt32 = nI 20 by decide)]
        refine ok_icmp 234 rfl rfl (fun hz => absurd hz (by simp only [pCP]; rw [hI_int (a := 20) (by omega)]; omega)) (fun _ => ?_)
        refine ok_seq 3 (σ' := (204, [(5, .int ((nI dv) + Int32.ofInt (-2))), (9, .int vv), (8, .int oo), (7, .int (nI i)), (6, .int (nI dt)), (4, .int (nI (800 * t + 60))), (3, .int (nI (800 * t + 1 + 4 * c))), (0, .ref 185), (1, .int (nI t)), (2, .int (nI c))], [M 185 27], gSh, M)) rfl ?_
        rw [h27]
        rw [hI_d2 dv (by omega)]
        refine ok_seq 4 (σ' := (212, [(5, .int (nI (dv - 2))), (9, .int vv), (8, .int oo), (7, .int (nI i)), (6, .int (nI dt)), (4, .int (nI (800 * t + 60))), (3, .int (nI (800 * t + 1 + 4 * c))), (0, .ref 185), (1, .int (nI t)), (2, .int (nI c))], [M 185 26, .int oo, .int (nI dt), .ref 193], gSh, M)) rfl ?_
        rw [h26]
        refine ok_seq 1 (σ' := (214, [(5, .int (nI (dv - 2))), (9, .int vv), (8, .int oo), (7, .int (nI i)), (6, .int (nI dt)), (4, .int (nI (800 * t + 60))), (3, .int (nI (800 * t + 1 + 4 * c))), (0, .ref 185), (1, .int (nI t)), (2, .int (nI c))], [.int (nI (dv - 2)), .ref 192, .int oo, .int (nI dt), .ref 193], gSh, M)) rfl ?_
        refine ok_lald (n := 330) (v := z1) rfl rfl (hI_in (by omega) (by decide)) (by rw [hI_nat (by omega)]; exact hz1) ?_
        refine ok_seq 2 (σ' := (219, [(5, .int (nI (dv - 2))), (9, .int vv), (8, .int oo), (7, .int (nI i)), (6, .int (nI dt)), (4, .int (nI (800 * t + 60))), (3, .int (nI (800 * t + 1 + 4 * c))), (0, .ref 185), (1, .int (nI t)), (2, .int (nI c))], [M 185 26, .long z1, .int oo, .int (nI dt), .ref 193], gSh, M)) rfl ?_
        rw [h26]
        refine ok_seq 3 (σ' := (223, [(5, .int (nI (dv - 2))), (9, .int vv), (8, .int oo), (7, .int (nI i)), (6, .int (nI dt)), (4, .int (nI (800 * t + 60))), (3, .int (nI (800 * t + 1 + 4 * c))), (0, .ref 185), (1, .int (nI t)), (2, .int (nI c))], [.int ((nI (dv - 2)) + (Int32.ofInt 1)), .ref 192, .long z1, .int oo, .int (nI dt), .ref 193], gSh, M)) rfl ?_
        rw [cI_1, hI_add (dv - 2) 1]
        refine ok_lald (n := 330) (v := z2) rfl rfl (hI_in (by omega) (by decide)) (by rw [hI_nat (by omega)]; exact hz2) ?_
        refine ok_call (mi := 209) (as := [.int oo, .long z1, .long z2]) (pc' := 227) (L' := [(5, .int (nI (dv - 2))), (9, .int vv), (8, .int oo), (7, .int (nI i)), (6, .int (nI dt)), (4, .int (nI (800 * t + 60))), (3, .int (nI (800 * t + 1 + 4 * c))), (0, .ref 185), (1, .int (nI t)), (2, .int (nI c))]) (st' := [.int (nI dt), .ref 193]) (sh' := gSh) (M' := M) (i := .invokestatic 267) (len := 3) rfl rfl ?_
        refine ((hz3.deep (by omega))).mono ?_
        rintro v hp ⟨rfl, rfl⟩
        refine ok_bast (n := 330) rfl rfl (hI_in (by omega) (by decide)) ?_
        rw [hI_nat (a := dt) (by omega)]
        refine ok_seq 4 (σ' := (38, [(7, .int ((nI i) + (Int32.ofInt 1))), (6, .int ((nI dt) + (Int32.ofInt 1))), (5, .int (nI (dv - 2))), (9, .int vv), (8, .int oo), (4, .int (nI (800 * t + 60))), (3, .int (nI (800 * t + 1 + 4 * c))), (0, .ref 185), (1, .int (nI t)), (2, .int (nI c))], [], gSh, pUp M 193 dt (.int (z3 &&& 1)))) rfl ?_
        rw [cI_1, hI_add i 1, hI_add dt 1]
        exact ih (i + 1) (dv - 2) (dt + 1) _ _ (by omega) (by omega) hD2 (by omega) (by omega) (pu193 hT hM (by omega) (and1 _)) (up193 _ _) (Or.inr ⟨oo, vv, Or.inr (Or.inr (Or.inr (Or.inr (rfl))))⟩)
      · obtain ⟨tb, htb, hz1⟩ := pt193 hT hM (k := dt - 1) (by omega)
        refine ok_icmp 119 rfl rfl (fun _ => ?_) (fun hz => absurd (by simp only [pCP]; rw [hI_int (a := 1) (by omega)]; omega) hz)
        refine ok_seq 2 (σ' := (122, [(9, .int vv), (8, .int oo), (7, .int (nI i)), (5, .int (nI dv)), (6, .int (nI dt)), (4, .int (nI (800 * t + 60))), (3, .int (nI (800 * t + 1 + 4 * c))), (0, .ref 185), (1, .int (nI t)), (2, .int (nI c))], [.int (Int32.ofInt 2), .int oo], gSh, M)) rfl ?_
        rw [cI_2]
        refine ok_icmp 147 rfl rfl (fun _ => ?_) (fun hz => absurd (by simp only [pCP]; rw [hI_int (a := 2) (by omega)]; omega) hz)
        refine ok_seq 2 (σ' := (151, [(9, .int vv), (8, .int oo), (7, .int (nI i)), (5, .int (nI dv)), (6, .int (nI dt)), (4, .int (nI (800 * t + 60))), (3, .int (nI (800 * t + 1 + 4 * c))), (0, .ref 185), (1, .int (nI t)), (2, .int (nI c))], [.int ((Int8.ofInt 10).toInt32), .int oo], gSh, M)) rfl ?_
        rw [(show (Int8.ofInt 10).toInt32 = nI 10 by decide)]
        refine ok_icmp 190 rfl rfl (fun _ => ?_) (fun hz => absurd (by simp only [pCP]; rw [hI_int (a := 10) (by omega)]; omega) hz)
        refine ok_seq 2 (σ' := (194, [(9, .int vv), (8, .int oo), (7, .int (nI i)), (5, .int (nI dv)), (6, .int (nI dt)), (4, .int (nI (800 * t + 60))), (3, .int (nI (800 * t + 1 + 4 * c))), (0, .ref 185), (1, .int (nI t)), (2, .int (nI c))], [.int ((Int8.ofInt 20).toInt32), .int oo], gSh, M)) rfl ?_
        rw [(show (Int8.ofInt 20).toInt32 = nI 20 by decide)]
        refine ok_icmp 234 rfl rfl (fun _ => ?_) (fun hz => absurd (by simp only [pCP]; rw [hI_int (a := 20) (by omega)]; omega) hz)
        refine ok_seq 2 (σ' := (238, [(9, .int vv), (8, .int oo), (7, .int (nI i)), (5, .int (nI dv)), (6, .int (nI dt)), (4, .int (nI (800 * t + 60))), (3, .int (nI (800 * t + 1 + 4 * c))), (0, .ref 185), (1, .int (nI t)), (2, .int (nI c))], [.int ((Int8.ofInt 20).toInt32), .int oo], gSh, M)) rfl ?_
        rw [(show (Int8.ofInt 20).toInt32 = nI 20 by decide)]
        refine ok_icmp 270 rfl rfl (fun hz => absurd hz (by simp only [pCP]; rw [hI_int (a := 20) (by omega)]; omega)) (fun _ => ?_)
        refine ok_seq 2 (σ' := (245, [(9, .int vv), (8, .int oo), (7, .int (nI i)), (5, .int (nI dv)), (6, .int (nI dt)), (4, .int (nI (800 * t + 60))), (3, .int (nI (800 * t + 1 + 4 * c))), (0, .ref 185), (1, .int (nI t)), (2, .int (nI c))], [M 185 27], gSh, M)) rfl ?_
        rw [h27]
        refine ok_seq 5 (σ' := (253, [(9, .int vv), (8, .int oo), (7, .int (nI i)), (5, .int (nI dv)), (6, .int (nI dt)), (4, .int (nI (800 * t + 60))), (3, .int (nI (800 * t + 1 + 4 * c))), (0, .ref 185), (1, .int (nI t)), (2, .int (nI c))], [M 185 27, .int ((nI dt) - (Int32.ofInt 1)), .ref 193], gSh, M)) rfl ?_
        rw [h27]
        rw [cI_1, hI_sub dt 1 (by omega)]
        refine ok_seq 3 (σ' := (257, [(9, .int vv), (8, .int oo), (7, .int (nI i)), (5, .int (nI dv)), (6, .int (nI dt)), (4, .int (nI (800 * t + 60))), (3, .int (nI (800 * t + 1 + 4 * c))), (0, .ref 185), (1, .int (nI t)), (2, .int (nI c))], [.int ((nI dt) - (Int32.ofInt 1)), .ref 193, .int (nI (dt - 1)), .ref 193], gSh, M)) rfl ?_
        rw [cI_1, hI_sub dt 1 (by omega)]
        refine ok_bald (n := 330) (v := nI tb) rfl rfl (hI_in (by omega) (by decide)) (by rw [hI_nat (by omega)]; exact hz1) ?_
        refine ok_if 265 rfl rfl ?_ ?_
        · intro hb
          simp only [pCP] at hb
          rw [hI_int (a := tb) (by omega)] at hb
          have hb : ((tb : Nat) : Int) ≠ (0 : Int) := by omega
          refine ok_seq 1 (σ' := (266, [(9, .int vv), (8, .int oo), (7, .int (nI i)), (5, .int (nI dv)), (6, .int (nI dt)), (4, .int (nI (800 * t + 60))), (3, .int (nI (800 * t + 1 + 4 * c))), (0, .ref 185), (1, .int (nI t)), (2, .int (nI c))], [.int (Int32.ofInt 0), .int (nI (dt - 1)), .ref 193], gSh, M)) rfl ?_
          rw [cI_0]
          refine ok_bast (n := 330) rfl rfl (hI_in (by omega) (by decide)) ?_
          rw [hI_nat (a := dt - 1) (by omega)]
          refine ok_seq 3 (σ' := (38, [(7, .int ((nI i) + (Int32.ofInt 1))), (9, .int vv), (8, .int oo), (5, .int (nI dv)), (6, .int (nI dt)), (4, .int (nI (800 * t + 60))), (3, .int (nI (800 * t + 1 + 4 * c))), (0, .ref 185), (1, .int (nI t)), (2, .int (nI c))], [], gSh, pUp M 193 (dt - 1) (.int ((nI 0) &&& 1)))) rfl ?_
          rw [cI_1, hI_add i 1]
          exact ih (i + 1) dv dt _ _ (by omega) (by omega) hD2 (by omega) (by omega) (pu193 hT hM (by omega) (and1 _)) (up193 _ _) (Or.inr ⟨oo, vv, Or.inl rfl⟩)
        · intro hb
          simp only [pCP] at hb
          rw [hI_int (a := tb) (by omega)] at hb
          have hb : ((tb : Nat) : Int) = (0 : Int) := by omega
          refine ok_seq 2 (σ' := (266, [(9, .int vv), (8, .int oo), (7, .int (nI i)), (5, .int (nI dv)), (6, .int (nI dt)), (4, .int (nI (800 * t + 60))), (3, .int (nI (800 * t + 1 + 4 * c))), (0, .ref 185), (1, .int (nI t)), (2, .int (nI c))], [.int (Int32.ofInt 1), .int (nI (dt - 1)), .ref 193], gSh, M)) rfl ?_
          rw [cI_1]
          refine ok_bast (n := 330) rfl rfl (hI_in (by omega) (by decide)) ?_
          rw [hI_nat (a := dt - 1) (by omega)]
          refine ok_seq 3 (σ' := (38, [(7, .int ((nI i) + (Int32.ofInt 1))), (9, .int vv), (8, .int oo), (5, .int (nI dv)), (6, .int (nI dt)), (4, .int (nI (800 * t + 60))), (3, .int (nI (800 * t + 1 + 4 * c))), (0, .ref 185), (1, .int (nI t)), (2, .int (nI c))], [], gSh, pUp M 193 (dt - 1) (.int ((nI 1) &&& 1)))) rfl ?_
          rw [cI_1, hI_add i 1]
          exact ih (i + 1) dv dt _ _ (by omega) (by omega) hD2 (by omega) (by omega) (pu193 hT hM (by omega) (and1 _)) (up193 _ _) (Or.inr ⟨oo, vv, Or.inl rfl⟩)
      · obtain ⟨ta, hta, hz1⟩ := pt193 hT hM (k := dt - 1 - 1) (by omega)
        obtain ⟨tb, htb, hz2⟩ := pt193 hT hM (k := dt - 1) (by omega)
        refine ok_icmp 119 rfl rfl (fun _ => ?_) (fun hz => absurd (by simp only [pCP]; rw [hI_int (a := 1) (by omega)]; omega) hz)
        refine ok_seq 2 (σ' := (122, [(9, .int vv), (8, .int oo), (7, .int (nI i)), (5, .int (nI dv)), (6, .int (nI dt)), (4, .int (nI (800 * t + 60))), (3, .int (nI (800 * t + 1 + 4 * c))), (0, .ref 185), (1, .int (nI t)), (2, .int (nI c))], [.int (Int32.ofInt 2), .int oo], gSh, M)) rfl ?_
        rw [cI_2]
        refine ok_icmp 147 rfl rfl (fun _ => ?_) (fun hz => absurd (by simp only [pCP]; rw [hI_int (a := 2) (by omega)]; omega) hz)
        refine ok_seq 2 (σ' := (151, [(9, .int vv), (8, .int oo), (7, .int (nI i)), (5, .int (nI dv)), (6, .int (nI dt)), (4, .int (nI (800 * t + 60))), (3, .int (nI (800 * t + 1 + 4 * c))), (0, .ref 185), (1, .int (nI t)), (2, .int (nI c))], [.int ((Int8.ofInt 10).toInt32), .int oo], gSh, M)) rfl ?_
        rw [(show (Int8.ofInt 10).toInt32 = nI 10 by decide)]
        refine ok_icmp 190 rfl rfl (fun _ => ?_) (fun hz => absurd (by simp only [pCP]; rw [hI_int (a := 10) (by omega)]; omega) hz)
        refine ok_seq 2 (σ' := (194, [(9, .int vv), (8, .int oo), (7, .int (nI i)), (5, .int (nI dv)), (6, .int (nI dt)), (4, .int (nI (800 * t + 60))), (3, .int (nI (800 * t + 1 + 4 * c))), (0, .ref 185), (1, .int (nI t)), (2, .int (nI c))], [.int ((Int8.ofInt 20).toInt32), .int oo], gSh, M)) rfl ?_
        rw [(show (Int8.ofInt 20).toInt32 = nI 20 by decide)]
        refine ok_icmp 234 rfl rfl (fun _ => ?_) (fun hz => absurd (by simp only [pCP]; rw [hI_int (a := 20) (by omega)]; omega) hz)
        refine ok_seq 2 (σ' := (238, [(9, .int vv), (8, .int oo), (7, .int (nI i)), (5, .int (nI dv)), (6, .int (nI dt)), (4, .int (nI (800 * t + 60))), (3, .int (nI (800 * t + 1 + 4 * c))), (0, .ref 185), (1, .int (nI t)), (2, .int (nI c))], [.int ((Int8.ofInt 20).toInt32), .int oo], gSh, M)) rfl ?_
        rw [(show (Int8.ofInt 20).toInt32 = nI 20 by decide)]
        refine ok_icmp 270 rfl rfl (fun _ => ?_) (fun hz => absurd (by simp only [pCP]; rw [hI_int (a := 20) (by omega)]; omega) hz)
        refine ok_seq 3 (σ' := (277, [(6, .int ((nI dt) + Int32.ofInt (-1))), (9, .int vv), (8, .int oo), (7, .int (nI i)), (5, .int (nI dv)), (4, .int (nI (800 * t + 60))), (3, .int (nI (800 * t + 1 + 4 * c))), (0, .ref 185), (1, .int (nI t)), (2, .int (nI c))], [M 185 27], gSh, M)) rfl ?_
        rw [h27]
        rw [hI_d1 dt (by omega)]
        refine ok_seq 5 (σ' := (285, [(6, .int (nI (dt - 1))), (9, .int vv), (8, .int oo), (7, .int (nI i)), (5, .int (nI dv)), (4, .int (nI (800 * t + 60))), (3, .int (nI (800 * t + 1 + 4 * c))), (0, .ref 185), (1, .int (nI t)), (2, .int (nI c))], [.int ((Int8.ofInt 21).toInt32), .int oo, .int ((nI (dt - 1)) - (Int32.ofInt 1)), .ref 193], gSh, M)) rfl ?_
        rw [cI_1, hI_sub (dt - 1) 1 (by omega), (show (Int8.ofInt 21).toInt32 = nI 21 by decide)]
        refine ok_icmp 318 rfl rfl ?_ ?_
        · intro hao
          simp only [pCP] at hao
          rw [hI_int (a := 21) (by omega)] at hao
          have hao : (oo).toInt ≠ ((21 : Nat) : Int) := by omega
          refine ok_seq 2 (σ' := (322, [(6, .int (nI (dt - 1))), (9, .int vv), (8, .int oo), (7, .int (nI i)), (5, .int (nI dv)), (4, .int (nI (800 * t + 60))), (3, .int (nI (800 * t + 1 + 4 * c))), (0, .ref 185), (1, .int (nI t)), (2, .int (nI c))], [M 185 27, .int (nI ((dt - 1) - 1)), .ref 193], gSh, M)) rfl ?_
          rw [h27]
          refine ok_seq 3 (σ' := (326, [(6, .int (nI (dt - 1))), (9, .int vv), (8, .int oo), (7, .int (nI i)), (5, .int (nI dv)), (4, .int (nI (800 * t + 60))), (3, .int (nI (800 * t + 1 + 4 * c))), (0, .ref 185), (1, .int (nI t)), (2, .int (nI c))], [.int ((nI (dt - 1)) - (Int32.ofInt 1)), .ref 193, .int (nI ((dt - 1) - 1)), .ref 193], gSh, M)) rfl ?_
          rw [cI_1, hI_sub (dt - 1) 1 (by omega)]
          refine ok_bald (n := 330) (v := nI ta) rfl rfl (hI_in (by omega) (by decide)) (by rw [hI_nat (by omega)]; exact hz1) ?_
          refine ok_if 340 rfl rfl ?_ ?_
          · intro hb1
            simp only [pCP] at hb1
            rw [hI_int (a := ta) (by omega)] at hb1
            have hb1 : ((ta : Nat) : Int) ≠ (0 : Int) := by omega
            refine ok_seq 2 (σ' := (345, [(6, .int (nI (dt - 1))), (9, .int vv), (8, .int oo), (7, .int (nI i)), (5, .int (nI dv)), (4, .int (nI (800 * t + 60))), (3, .int (nI (800 * t + 1 + 4 * c))), (0, .ref 185), (1, .int (nI t)), (2, .int (nI c))], [.int (Int32.ofInt 1), .int (nI ((dt - 1) - 1)), .ref 193], gSh, M)) rfl ?_
            rw [cI_1]
            refine ok_bast (n := 330) rfl rfl (hI_in (by omega) (by decide)) ?_
            rw [hI_nat (a := (dt - 1) - 1) (by omega)]
            refine ok_seq 2 (σ' := (38, [(7, .int ((nI i) + (Int32.ofInt 1))), (6, .int (nI (dt - 1))), (9, .int vv), (8, .int oo), (5, .int (nI dv)), (4, .int (nI (800 * t + 60))), (3, .int (nI (800 * t + 1 + 4 * c))), (0, .ref 185), (1, .int (nI t)), (2, .int (nI c))], [], gSh, pUp M 193 ((dt - 1) - 1) (.int ((nI 1) &&& 1)))) rfl ?_
            rw [cI_1, hI_add i 1]
            exact ih (i + 1) dv (dt - 1) _ _ (by omega) (by omega) hD2 (by omega) (by omega) (pu193 hT hM (by omega) (and1 _)) (up193 _ _) (Or.inr ⟨oo, vv, Or.inr (Or.inr (Or.inr (Or.inl rfl)))⟩)
          · intro hb1
            simp only [pCP] at hb1
            rw [hI_int (a := ta) (by omega)] at hb1
            have hb1 : ((ta : Nat) : Int) = (0 : Int) := by omega
            refine ok_seq 2 (σ' := (334, [(6, .int (nI (dt - 1))), (9, .int vv), (8, .int oo), (7, .int (nI i)), (5, .int (nI dv)), (4, .int (nI (800 * t + 60))), (3, .int (nI (800 * t + 1 + 4 * c))), (0, .ref 185), (1, .int (nI t)), (2, .int (nI c))], [M 185 27, .int (nI ((dt - 1) - 1)), .ref 193], gSh, M)) rfl ?_
            rw [h27]
            refine ok_seq 1 (σ' := (336, [(6, .int (nI (dt - 1))), (9, .int vv), (8, .int oo), (7, .int (nI i)), (5, .int (nI dv)), (4, .int (nI (800 * t + 60))), (3, .int (nI (800 * t + 1 + 4 * c))), (0, .ref 185), (1, .int (nI t)), (2, .int (nI c))], [.int (nI (dt - 1)), .ref 193, .int (nI ((dt - 1) - 1)), .ref 193], gSh, M)) rfl ?_
            refine ok_bald (n := 330) (v := nI tb) rfl rfl (hI_in (by omega) (by decide)) (by rw [hI_nat (by omega)]; exact hz2) ?_
            refine ok_if 344 rfl rfl ?_ ?_
            · intro hb2
              simp only [pCP] at hb2
              rw [hI_int (a := tb) (by omega)] at hb2
              have hb2 : ((tb : Nat) : Int) = (0 : Int) := by omega
              refine ok_seq 1 (σ' := (345, [(6, .int (nI (dt - 1))), (9, .int vv), (8, .int oo), (7, .int (nI i)), (5, .int (nI dv)), (4, .int (nI (800 * t + 60))), (3, .int (nI (800 * t + 1 + 4 * c))), (0, .ref 185), (1, .int (nI t)), (2, .int (nI c))], [.int (Int32.ofInt 0), .int (nI ((dt - 1) - 1)), .ref 193], gSh, M)) rfl ?_
              rw [cI_0]
              refine ok_bast (n := 330) rfl rfl (hI_in (by omega) (by decide)) ?_
              rw [hI_nat (a := (dt - 1) - 1) (by omega)]
              refine ok_seq 2 (σ' := (38, [(7, .int ((nI i) + (Int32.ofInt 1))), (6, .int (nI (dt - 1))), (9, .int vv), (8, .int oo), (5, .int (nI dv)), (4, .int (nI (800 * t + 60))), (3, .int (nI (800 * t + 1 + 4 * c))), (0, .ref 185), (1, .int (nI t)), (2, .int (nI c))], [], gSh, pUp M 193 ((dt - 1) - 1) (.int ((nI 0) &&& 1)))) rfl ?_
              rw [cI_1, hI_add i 1]
              exact ih (i + 1) dv (dt - 1) _ _ (by omega) (by omega) hD2 (by omega) (by omega) (pu193 hT hM (by omega) (and1 _)) (up193 _ _) (Or.inr ⟨oo, vv, Or.inr (Or.inr (Or.inr (Or.inl rfl)))⟩)
            · intro hb2
              simp only [pCP] at hb2
              rw [hI_int (a := tb) (by omega)] at hb2
              have hb2 : ((tb : Nat) : Int) ≠ (0 : Int) := by omega
              refine ok_seq 2 (σ' := (345, [(6, .int (nI (dt - 1))), (9, .int vv), (8, .int oo), (7, .int (nI i)), (5, .int (nI dv)), (4, .int (nI (800 * t + 60))), (3, .int (nI (800 * t + 1 + 4 * c))), (0, .ref 185), (1, .int (nI t)), (2, .int (nI c))], [.int (Int32.ofInt 1), .int (nI ((dt - 1) - 1)), .ref 193], gSh, M)) rfl ?_
              rw [cI_1]
              refine ok_bast (n := 330) rfl rfl (hI_in (by omega) (by decide)) ?_
              rw [hI_nat (a := (dt - 1) - 1) (by omega)]
              refine ok_seq 2 (σ' := (38, [(7, .int ((nI i) + (Int32.ofInt 1))), (6, .int (nI (dt - 1))), (9, .int vv), (8, .int oo), (5, .int (nI dv)), (4, .int (nI (800 * t + 60))), (3, .int (nI (800 * t + 1 + 4 * c))), (0, .ref 185), (1, .int (nI t)), (2, .int (nI c))], [], gSh, pUp M 193 ((dt - 1) - 1) (.int ((nI 1) &&& 1)))) rfl ?_
              rw [cI_1, hI_add i 1]
              exact ih (i + 1) dv (dt - 1) _ _ (by omega) (by omega) hD2 (by omega) (by omega) (pu193 hT hM (by omega) (and1 _)) (up193 _ _) (Or.inr ⟨oo, vv, Or.inr (Or.inr (Or.inr (Or.inl rfl)))⟩)
        · intro hao
          simp only [pCP] at hao
          rw [hI_int (a := 21) (by omega)] at hao
          have hao : (oo).toInt = ((21 : Nat) : Int) := by omega
          refine ok_seq 2 (σ' := (292, [(6, .int (nI (dt - 1))), (9, .int vv), (8, .int oo), (7, .int (nI i)), (5, .int (nI dv)), (4, .int (nI (800 * t + 60))), (3, .int (nI (800 * t + 1 + 4 * c))), (0, .ref 185), (1, .int (nI t)), (2, .int (nI c))], [M 185 27, .int (nI ((dt - 1) - 1)), .ref 193], gSh, M)) rfl ?_
          rw [h27]
          refine ok_seq 3 (σ' := (296, [(6, .int (nI (dt - 1))), (9, .int vv), (8, .int oo), (7, .int (nI i)), (5, .int (nI dv)), (4, .int (nI (800 * t + 60))), (3, .int (nI (800 * t + 1 + 4 * c))), (0, .ref 185), (1, .int (nI t)), (2, .int (nI c))], [.int ((nI (dt - 1)) - (Int32.ofInt 1)), .ref 193, .int (nI ((dt - 1) - 1)), .ref 193], gSh, M)) rfl ?_
          rw [cI_1, hI_sub (dt - 1) 1 (by omega)]
          refine ok_bald (n := 330) (v := nI ta) rfl rfl (hI_in (by omega) (by decide)) (by rw [hI_nat (by omega)]; exact hz1) ?_
          refine ok_if 314 rfl rfl ?_ ?_
          · intro hb1
            simp only [pCP] at hb1
            rw [hI_int (a := ta) (by omega)] at hb1
            have hb1 : ((ta : Nat) : Int) = (0 : Int) := by omega
            refine ok_seq 2 (σ' := (345, [(6, .int (nI (dt - 1))), (9, .int vv), (8, .int oo), (7, .int (nI i)), (5, .int (nI dv)), (4, .int (nI (800 * t + 60))), (3, .int (nI (800 * t + 1 + 4 * c))), (0, .ref 185), (1, .int (nI t)), (2, .int (nI c))], [.int (Int32.ofInt 0), .int (nI ((dt - 1) - 1)), .ref 193], gSh, M)) rfl ?_
            rw [cI_0]
            refine ok_bast (n := 330) rfl rfl (hI_in (by omega) (by decide)) ?_
            rw [hI_nat (a := (dt - 1) - 1) (by omega)]
            refine ok_seq 2 (σ' := (38, [(7, .int ((nI i) + (Int32.ofInt 1))), (6, .int (nI (dt - 1))), (9, .int vv), (8, .int oo), (5, .int (nI dv)), (4, .int (nI (800 * t + 60))), (3, .int (nI (800 * t + 1 + 4 * c))), (0, .ref 185), (1, .int (nI t)), (2, .int (nI c))], [], gSh, pUp M 193 ((dt - 1) - 1) (.int ((nI 0) &&& 1)))) rfl ?_
            rw [cI_1, hI_add i 1]
            exact ih (i + 1) dv (dt - 1) _ _ (by omega) (by omega) hD2 (by omega) (by omega) (pu193 hT hM (by omega) (and1 _)) (up193 _ _) (Or.inr ⟨oo, vv, Or.inr (Or.inr (Or.inr (Or.inl rfl)))⟩)
          · intro hb1
            simp only [pCP] at hb1
            rw [hI_int (a := ta) (by omega)] at hb1
            have hb1 : ((ta : Nat) : Int) ≠ (0 : Int) := by omega
            refine ok_seq 2 (σ' := (304, [(6, .int (nI (dt - 1))), (9, .int vv), (8, .int oo), (7, .int (nI i)), (5, .int (nI dv)), (4, .int (nI (800 * t + 60))), (3, .int (nI (800 * t + 1 + 4 * c))), (0, .ref 185), (1, .int (nI t)), (2, .int (nI c))], [M 185 27, .int (nI ((dt - 1) - 1)), .ref 193], gSh, M)) rfl ?_
            rw [h27]
            refine ok_seq 1 (σ' := (306, [(6, .int (nI (dt - 1))), (9, .int vv), (8, .int oo), (7, .int (nI i)), (5, .int (nI dv)), (4, .int (nI (800 * t + 60))), (3, .int (nI (800 * t + 1 + 4 * c))), (0, .ref 185), (1, .int (nI t)), (2, .int (nI c))], [.int (nI (dt - 1)), .ref 193, .int (nI ((dt - 1) - 1)), .ref 193], gSh, M)) rfl ?_
            refine ok_bald (n := 330) (v := nI tb) rfl rfl (hI_in (by omega) (by decide)) (by rw [hI_nat (by omega)]; exact hz2) ?_
            refine ok_if 314 rfl rfl ?_ ?_
            · intro hb2
              simp only [pCP] at hb2
              rw [hI_int (a := tb) (by omega)] at hb2
              have hb2 : ((tb : Nat) : Int) = (0 : Int) := by omega
              refine ok_seq 2 (σ' := (345, [(6, .int (nI (dt - 1))), (9, .int vv), (8, .int oo), (7, .int (nI i)), (5, .int (nI dv)), (4, .int (nI (800 * t + 60))), (3, .int (nI (800 * t + 1 + 4 * c))), (0, .ref 185), (1, .int (nI t)), (2, .int (nI c))], [.int (Int32.ofInt 0), .int (nI ((dt - 1) - 1)), .ref 193], gSh, M)) rfl ?_
              rw [cI_0]
              refine ok_bast (n := 330) rfl rfl (hI_in (by omega) (by decide)) ?_
              rw [hI_nat (a := (dt - 1) - 1) (by omega)]
              refine ok_seq 2 (σ' := (38, [(7, .int ((nI i) + (Int32.ofInt 1))), (6, .int (nI (dt - 1))), (9, .int vv), (8, .int oo), (5, .int (nI dv)), (4, .int (nI (800 * t + 60))), (3, .int (nI (800 * t + 1 + 4 * c))), (0, .ref 185), (1, .int (nI t)), (2, .int (nI c))], [], gSh, pUp M 193 ((dt - 1) - 1) (.int ((nI 0) &&& 1)))) rfl ?_
              rw [cI_1, hI_add i 1]
              exact ih (i + 1) dv (dt - 1) _ _ (by omega) (by omega) hD2 (by omega) (by omega) (pu193 hT hM (by omega) (and1 _)) (up193 _ _) (Or.inr ⟨oo, vv, Or.inr (Or.inr (Or.inr (Or.inl rfl)))⟩)
            · intro hb2
              simp only [pCP] at hb2
              rw [hI_int (a := tb) (by omega)] at hb2
              have hb2 : ((tb : Nat) : Int) ≠ (0 : Int) := by omega
              refine ok_seq 2 (σ' := (345, [(6, .int (nI (dt - 1))), (9, .int vv), (8, .int oo), (7, .int (nI i)), (5, .int (nI dv)), (4, .int (nI (800 * t + 60))), (3, .int (nI (800 * t + 1 + 4 * c))), (0, .ref 185), (1, .int (nI t)), (2, .int (nI c))], [.int (Int32.ofInt 1), .int (nI ((dt - 1) - 1)), .ref 193], gSh, M)) rfl ?_
              rw [cI_1]
              refine ok_bast (n := 330) rfl rfl (hI_in (by omega) (by decide)) ?_
              rw [hI_nat (a := (dt - 1) - 1) (by omega)]
              refine ok_seq 2 (σ' := (38, [(7, .int ((nI i) + (Int32.ofInt 1))), (6, .int (nI (dt - 1))), (9, .int vv), (8, .int oo), (5, .int (nI dv)), (4, .int (nI (800 * t + 60))), (3, .int (nI (800 * t + 1 + 4 * c))), (0, .ref 185), (1, .int (nI t)), (2, .int (nI c))], [], gSh, pUp M 193 ((dt - 1) - 1) (.int ((nI 1) &&& 1)))) rfl ?_
              rw [cI_1, hI_add i 1]
              exact ih (i + 1) dv (dt - 1) _ _ (by omega) (by omega) hD2 (by omega) (by omega) (pu193 hT hM (by omega) (and1 _)) (up193 _ _) (Or.inr ⟨oo, vv, Or.inr (Or.inr (Or.inr (Or.inl rfl)))⟩)
    · refine ok_seq 3 (σ' := (44, [(7, .int (nI i)), (9, .int y9), (8, .int y8), (6, .int (nI dt)), (5, .int (nI dv)), (4, .int (nI (800 * t + 60))), (3, .int (nI (800 * t + 1 + 4 * c))), (0, .ref 185), (1, .int (nI t)), (2, .int (nI c))], [M 185 5, .int (nI i)], gSh, M)) rfl ?_
      rw [h5]
      refine ok_seq 3 (σ' := (47, [(7, .int (nI i)), (9, .int y9), (8, .int y8), (6, .int (nI dt)), (5, .int (nI dv)), (4, .int (nI (800 * t + 60))), (3, .int (nI (800 * t + 1 + 4 * c))), (0, .ref 185), (1, .int (nI t)), (2, .int (nI c))], [.int ((nI (800 * t + 1 + 4 * c)) + (Int32.ofInt 3)), .ref 188, .int (nI i)], gSh, M)) rfl ?_
      rw [cI_3, hI_add (800 * t + 1 + 4 * c) 3]
      refine ok_iald (n := 3200) (v := nI j) rfl rfl (hI_in (by omega) (by decide)) (by rw [hI_nat (by omega)]; exact hj) ?_
      refine ok_icmp 352 rfl rfl (fun hz => absurd hz (by simp only [pCP]; rw [hI_int (a := i) (by omega), hI_int (a := j) (by omega)]; omega)) (fun _ => ?_)
      refine ok_seq 2 (σ' := (55, [(7, .int (nI i)), (9, .int y9), (8, .int y8), (6, .int (nI dt)), (5, .int (nI dv)), (4, .int (nI (800 * t + 60))), (3, .int (nI (800 * t + 1 + 4 * c))), (0, .ref 185), (1, .int (nI t)), (2, .int (nI c))], [M 185 5], gSh, M)) rfl ?_
      rw [h5]
      refine ok_seq 5 (σ' := (62, [(7, .int (nI i)), (9, .int y9), (8, .int y8), (6, .int (nI dt)), (5, .int (nI dv)), (4, .int (nI (800 * t + 60))), (3, .int (nI (800 * t + 1 + 4 * c))), (0, .ref 185), (1, .int (nI t)), (2, .int (nI c))], [.int ((nI (800 * t + 60)) + ((Int32.ofInt 2) * (nI i))), .ref 188], gSh, M)) rfl ?_
      rw [cI_2, hI_mul 2 i, hI_add (800 * t + 60) (2 * i)]
      refine ok_iald (n := 3200) (v := oo) rfl rfl (hI_in (by omega) (by decide)) (by rw [hI_nat (by omega)]; exact ho) ?_
      refine ok_seq 3 (σ' := (69, [(8, .int oo), (7, .int (nI i)), (9, .int y9), (6, .int (nI dt)), (5, .int (nI dv)), (4, .int (nI (800 * t + 60))), (3, .int (nI (800 * t + 1 + 4 * c))), (0, .ref 185), (1, .int (nI t)), (2, .int (nI c))], [M 185 5], gSh, M)) rfl ?_
      rw [h5]
      refine ok_seq 7 (σ' := (78, [(8, .int oo), (7, .int (nI i)), (9, .int y9), (6, .int (nI dt)), (5, .int (nI dv)), (4, .int (nI (800 * t + 60))), (3, .int (nI (800 * t + 1 + 4 * c))), (0, .ref 185), (1, .int (nI t)), (2, .int (nI c))], [.int (((nI (800 * t + 60)) + ((Int32.ofInt 2) * (nI i))) + (Int32.ofInt 1)), .ref 188], gSh, M)) rfl ?_
      rw [cI_2, hI_mul 2 i, hI_add (800 * t + 60) (2 * i), cI_1, hI_add ((800 * t + 60) + (2 * i)) 1]
      refine ok_iald (n := 3200) (v := vv) rfl rfl (hI_in (by omega) (by decide)) (by rw [hI_nat (by omega)]; exact hvv) ?_
      refine ok_seq 3 (σ' := (84, [(9, .int vv), (8, .int oo), (7, .int (nI i)), (6, .int (nI dt)), (5, .int (nI dv)), (4, .int (nI (800 * t + 60))), (3, .int (nI (800 * t + 1 + 4 * c))), (0, .ref 185), (1, .int (nI t)), (2, .int (nI c))], [.int (Int32.ofInt 1), .int oo], gSh, M)) rfl ?_
      rw [cI_1]
      rcases hop with ⟨ho1, hD2⟩ | ⟨ho1, hv1, hv2, hD2⟩ | ⟨ho1, ho3, hD2⟩ | ⟨ho1, ho2, ho3, hD2⟩ | ⟨ho1, ho2, ho3, hD2⟩ | ⟨ho1, ho3, hD2⟩ | ⟨ho1, ho2, ho3, hD2⟩
      · refine ok_icmp 119 rfl rfl (fun hz => absurd hz (by simp only [pCP]; rw [hI_int (a := 1) (by omega)]; omega)) (fun _ => ?_)
        refine ok_seq 2 (σ' := (91, [(9, .int vv), (8, .int oo), (7, .int (nI i)), (6, .int (nI dt)), (5, .int (nI dv)), (4, .int (nI (800 * t + 60))), (3, .int (nI (800 * t + 1 + 4 * c))), (0, .ref 185), (1, .int (nI t)), (2, .int (nI c))], [M 185 26], gSh, M)) rfl ?_
        rw [h26]
        refine ok_seq 2 (σ' := (95, [(9, .int vv), (8, .int oo), (7, .int (nI i)), (6, .int (nI dt)), (5, .int (nI dv)), (4, .int (nI (800 * t + 60))), (3, .int (nI (800 * t + 1 + 4 * c))), (0, .ref 185), (1, .int (nI t)), (2, .int (nI c))], [.int oo, .int (nI dv), .ref 192], gSh, M)) rfl ?_
        refine ok_if 104 rfl rfl (fun hz => absurd hz (by simp only [pCP]; omega)) (fun _ => ?_)
        refine ok_seq 3 (σ' := (112, [(9, .int vv), (8, .int oo), (7, .int (nI i)), (6, .int (nI dt)), (5, .int (nI dv)), (4, .int (nI (800 * t + 60))), (3, .int (nI (800 * t + 1 + 4 * c))), (0, .ref 185), (1, .int (nI t)), (2, .int (nI c))], [.long ((vv).toInt64), .int (nI dv), .ref 192], gSh, M)) rfl ?_
        refine ok_last (n := 330) rfl rfl (hI_in (by omega) (by decide)) ?_
        rw [hI_nat (a := dv) (by omega)]
        refine ok_seq 4 (σ' := (38, [(7, .int ((nI i) + (Int32.ofInt 1))), (5, .int ((nI dv) + (Int32.ofInt 1))), (9, .int vv), (8, .int oo), (6, .int (nI dt)), (4, .int (nI (800 * t + 60))), (3, .int (nI (800 * t + 1 + 4 * c))), (0, .ref 185), (1, .int (nI t)), (2, .int (nI c))], [], gSh, pUp M 192 dv (.long ((vv).toInt64)))) rfl ?_
        rw [cI_1, hI_add i 1, hI_add dv 1]
        exact ih (i + 1) (dv + 1) dt _ _ (by omega) (by omega) hD2 (by omega) (by omega) (pu192 hT hM (by omega) _) (up192 _ _) (Or.inr ⟨oo, vv, Or.inr (Or.inr (Or.inl rfl))⟩)
      · obtain ⟨vn, hvn, evn⟩ := ty_nat (x := []) (hi := 10) ⟨vv, rfl, hv1, hv2⟩
        cases evn
        obtain ⟨nz, hnz⟩ := pt191 hT hM (k := vn) (by omega)
        refine ok_icmp 119 rfl rfl (fun hz => absurd hz (by simp only [pCP]; rw [hI_int (a := 1) (by omega)]; omega)) (fun _ => ?_)
        refine ok_seq 2 (σ' := (91, [(9, .int (nI vn)), (8, .int oo), (7, .int (nI i)), (6, .int (nI dt)), (5, .int (nI dv)), (4, .int (nI (800 * t + 60))), (3, .int (nI (800 * t + 1 + 4 * c))), (0, .ref 185), (1, .int (nI t)), (2, .int (nI c))], [M 185 26], gSh, M)) rfl ?_
        rw [h26]
        refine ok_seq 2 (σ' := (95, [(9, .int (nI vn)), (8, .int oo), (7, .int (nI i)), (6, .int (nI dt)), (5, .int (nI dv)), (4, .int (nI (800 * t + 60))), (3, .int (nI (800 * t + 1 + 4 * c))), (0, .ref 185), (1, .int (nI t)), (2, .int (nI c))], [.int oo, .int (nI dv), .ref 192], gSh, M)) rfl ?_
        refine ok_if 104 rfl rfl (fun _ => ?_) (fun hz => absurd (by simp only [pCP]; omega) hz)
        refine ok_seq 2 (σ' := (108, [(9, .int (nI vn)), (8, .int oo), (7, .int (nI i)), (6, .int (nI dt)), (5, .int (nI dv)), (4, .int (nI (800 * t + 60))), (3, .int (nI (800 * t + 1 + 4 * c))), (0, .ref 185), (1, .int (nI t)), (2, .int (nI c))], [M 185 25, .int (nI dv), .ref 192], gSh, M)) rfl ?_
        rw [h25]
        refine ok_seq 1 (σ' := (110, [(9, .int (nI vn)), (8, .int oo), (7, .int (nI i)), (6, .int (nI dt)), (5, .int (nI dv)), (4, .int (nI (800 * t + 60))), (3, .int (nI (800 * t + 1 + 4 * c))), (0, .ref 185), (1, .int (nI t)), (2, .int (nI c))], [.int (nI vn), .ref 191, .int (nI dv), .ref 192], gSh, M)) rfl ?_
        refine ok_iald (n := 11) (v := nz) rfl rfl (hI_in (by omega) (by decide)) (by rw [hI_nat (by omega)]; exact hnz) ?_
        refine ok_seq 1 (σ' := (112, [(9, .int (nI vn)), (8, .int oo), (7, .int (nI i)), (6, .int (nI dt)), (5, .int (nI dv)), (4, .int (nI (800 * t + 60))), (3, .int (nI (800 * t + 1 + 4 * c))), (0, .ref 185), (1, .int (nI t)), (2, .int (nI c))], [.long ((nz).toInt64), .int (nI dv), .ref 192], gSh, M)) rfl ?_
        refine ok_last (n := 330) rfl rfl (hI_in (by omega) (by decide)) ?_
        rw [hI_nat (a := dv) (by omega)]
        refine ok_seq 4 (σ' := (38, [(7, .int ((nI i) + (Int32.ofInt 1))), (5, .int ((nI dv) + (Int32.ofInt 1))), (9, .int (nI vn)), (8, .int oo), (6, .int (nI dt)), (4, .int (nI (800 * t + 60))), (3, .int (nI (800 * t + 1 + 4 * c))), (0, .ref 185), (1, .int (nI t)), (2, .int (nI c))], [], gSh, pUp M 192 dv (.long ((nz).toInt64)))) rfl ?_
        rw [cI_1, hI_add i 1, hI_add dv 1]
        exact ih (i + 1) (dv + 1) dt _ _ (by omega) (by omega) hD2 (by omega) (by omega) (pu192 hT hM (by omega) _) (up192 _ _) (Or.inr ⟨oo, nI vn, Or.inr (Or.inr (Or.inl rfl))⟩)
      · obtain ⟨z1, hz1⟩ := pt192 hT hM (k := dv - 1) (by omega)
        refine ok_icmp 119 rfl rfl (fun _ => ?_) (fun hz => absurd (by simp only [pCP]; rw [hI_int (a := 1) (by omega)]; omega) hz)
        refine ok_seq 2 (σ' := (122, [(9, .int vv), (8, .int oo), (7, .int (nI i)), (6, .int (nI dt)), (5, .int (nI dv)), (4, .int (nI (800 * t + 60))), (3, .int (nI (800 * t + 1 + 4 * c))), (0, .ref 185), (1, .int (nI t)), (2, .int (nI c))], [.int (Int32.ofInt 2), .int oo], gSh, M)) rfl ?_
        rw [cI_2]
        refine ok_icmp 147 rfl rfl (fun hz => absurd hz (by simp only [pCP]; rw [hI_int (a := 2) (by omega)]; omega)) (fun _ => ?_)
        refine ok_seq 2 (σ' := (129, [(9, .int vv), (8, .int oo), (7, .int (nI i)), (6, .int (nI dt)), (5, .int (nI dv)), (4, .int (nI (800 * t + 60))), (3, .int (nI (800 * t + 1 + 4 * c))), (0, .ref 185), (1, .int (nI t)), (2, .int (nI c))], [M 185 26], gSh, M)) rfl ?_
        rw [h26]
        refine ok_seq 5 (σ' := (137, [(9, .int vv), (8, .int oo), (7, .int (nI i)), (6, .int (nI dt)), (5, .int (nI dv)), (4, .int (nI (800 * t + 60))), (3, .int (nI (800 * t + 1 + 4 * c))), (0, .ref 185), (1, .int (nI t)), (2, .int (nI c))], [M 185 26, .int ((nI dv) - (Int32.ofInt 1)), .ref 192], gSh, M)) rfl ?_
        rw [h26]
        rw [cI_1, hI_sub dv 1 (by omega)]
        refine ok_seq 3 (σ' := (141, [(9, .int vv), (8, .int oo), (7, .int (nI i)), (6, .int (nI dt)), (5, .int (nI dv)), (4, .int (nI (800 * t + 60))), (3, .int (nI (800 * t + 1 + 4 * c))), (0, .ref 185), (1, .int (nI t)), (2, .int (nI c))], [.int ((nI dv) - (Int32.ofInt 1)), .ref 192, .int (nI (dv - 1)), .ref 192], gSh, M)) rfl ?_
        rw [cI_1, hI_sub dv 1 (by omega)]
        refine ok_lald (n := 330) (v := z1) rfl rfl (hI_in (by omega) (by decide)) (by rw [hI_nat (by omega)]; exact hz1) ?_
        refine ok_seq 1 (σ' := (143, [(9, .int vv), (8, .int oo), (7, .int (nI i)), (6, .int (nI dt)), (5, .int (nI dv)), (4, .int (nI (800 * t + 60))), (3, .int (nI (800 * t + 1 + 4 * c))), (0, .ref 185), (1, .int (nI t)), (2, .int (nI c))], [.long (-z1), .int (nI (dv - 1)), .ref 192], gSh, M)) rfl ?_
        refine ok_last (n := 330) rfl rfl (hI_in (by omega) (by decide)) ?_
        rw [hI_nat (a := dv - 1) (by omega)]
        refine ok_seq 3 (σ' := (38, [(7, .int ((nI i) + (Int32.ofInt 1))), (9, .int vv), (8, .int oo), (6, .int (nI dt)), (5, .int (nI dv)), (4, .int (nI (800 * t + 60))), (3, .int (nI (800 * t + 1 + 4 * c))), (0, .ref 185), (1, .int (nI t)), (2, .int (nI c))], [], gSh, pUp M 192 (dv - 1) (.long (-z1)))) rfl ?_
        rw [cI_1, hI_add i 1]
        exact ih (i + 1) dv dt _ _ (by omega) (by omega) hD2 (by omega) (by omega) (pu192 hT hM (by omega) _) (up192 _ _) (Or.inr ⟨oo, vv, Or.inr (Or.inl rfl)⟩)
      · obtain ⟨z1, hz1⟩ := pt192 hT hM (k := dv - 1 - 1) (by omega)
        obtain ⟨z2, hz2⟩ := pt192 hT hM (k := dv - 1) (by omega)
        obtain ⟨z3, hz3⟩ := c_pureL hH.1 (vs := [.int oo, .long z1, .long z2]) ⟨⟨oo, rfl, ho1, ho2⟩, sat_l _, sat_l _, trivial⟩ hM (hW.gr hg)
        refine ok_icmp 119 rfl rfl (fun _ => ?_) (fun hz => absurd (by simp only [pCP]; rw [hI_int (a := 1) (by omega)]; omega) hz)
        refine ok_seq 2 (σ' := (122, [(9, .int vv), (8, .int oo), (7, .int (nI i)), (6, .int (nI dt)), (5, .int (nI dv)), (4, .int (nI (800 * t + 60))), (3, .int (nI (800 * t + 1 + 4 * c))), (0, .ref 185), (1, .int (nI t)), (2, .int (nI c))], [.int (Int32.ofInt 2), .int oo], gSh, M)) rfl ?_
        rw [cI_2]
        refine ok_icmp 147 rfl rfl (fun _ => ?_) (fun hz => absurd (by simp only [pCP]; rw [hI_int (a := 2) (by omega)]; omega) hz)
        refine ok_seq 2 (σ' := (151, [(9, .int vv), (8, .int oo), (7, .int (nI i)), (6, .int (nI dt)), (5, .int (nI dv)), (4, .int (nI (800 * t + 60))), (3, .int (nI (800 * t + 1 + 4 * c))), (0, .ref 185), (1, .int (nI t)), (2, .int (nI c))], [.int ((Int8.ofInt 10).toInt32), .int oo], gSh, M)) rfl ?_
        rw [(show (Int8.ofInt 10).toInt32 = nI 10 by decide)]
        refine ok_icmp 190 rfl rfl (fun hz => absurd hz (by simp only [pCP]; rw [hI_int (a := 10) (by omega)]; omega)) (fun _ => ?_)
        refine ok_seq 3 (σ' := (161, [(5, .int ((nI dv) + Int32.ofInt (-1))), (9, .int vv), (8, .int oo), (7, .int (nI i)), (6, .int (nI dt)), (4, .int (nI (800 * t + 60))), (3, .int (nI (800 * t + 1 + 4 * c))), (0, .ref 185), (1, .int (nI t)), (2, .int (nI c))], [M 185 26], gSh, M)) rfl ?_
        rw [h26]
        rw [hI_d1 dv (by omega)]
        refine ok_seq 6 (σ' := (171, [(5, .int (nI (dv - 1))), (9, .int vv), (8, .int oo), (7, .int (nI i)), (6, .int (nI dt)), (4, .int (nI (800 * t + 60))), (3, .int (nI (800 * t + 1 + 4 * c))), (0, .ref 185), (1, .int (nI t)), (2, .int (nI c))], [M 185 26, .int oo, .int ((nI (dv - 1)) - (Int32.ofInt 1)), .ref 192], gSh, M)) rfl ?_
        rw [h26]
        rw [cI_1, hI_sub (dv - 1) 1 (by omega)]
        refine ok_seq 3 (σ' := (175, [(5, .int (nI (dv - 1))), (9, .int vv), (8, .int oo), (7, .int (nI i)), (6, .int (nI dt)), (4, .int (nI (800 * t + 60))), (3, .int (nI (800 * t + 1 + 4 * c))), (0, .ref 185), (1, .int (nI t)), (2, .int (nI c))], [.int ((nI (dv - 1)) - (Int32.ofInt 1)), .ref 192, .int oo, .int (nI ((dv - 1) - 1)), .ref 192], gSh, M)) rfl ?_
        rw [cI_1, hI_sub (dv - 1) 1 (by omega)]
        refine ok_lald (n := 330) (v := z1) rfl rfl (hI_in (by omega) (by decide)) (by rw [hI_nat (by omega)]; exact hz1) ?_
        refine ok_seq 2 (σ' := (180, [(5, .int (nI (dv - 1))), (9, .int vv), (8, .int oo), (7, .int (nI i)), (6, .int (nI dt)), (4, .int (nI (800 * t + 60))), (3, .int (nI (800 * t + 1 + 4 * c))), (0, .ref 185), (1, .int (nI t)), (2, .int (nI c))], [M 185 26, .long z1, .int oo, .int (nI ((dv - 1) - 1)), .ref 192], gSh, M)) rfl ?_
        rw [h26]
        refine ok_seq 1 (σ' := (182, [(5, .int (nI (dv - 1))), (9, .int vv), (8, .int oo), (7, .int (nI i)), (6, .int (nI dt)), (4, .int (nI (800 * t + 60))), (3, .int (nI (800 * t + 1 + 4 * c))), (0, .ref 185), (1, .int (nI t)), (2, .int (nI c))], [.int (nI (dv - 1)), .ref 192, .long z1, .int oo, .int (nI ((dv - 1) - 1)), .ref 192], gSh, M)) rfl ?_
        refine ok_lald (n := 330) (v := z2) rfl rfl (hI_in (by omega) (by decide)) (by rw [hI_nat (by omega)]; exact hz2) ?_
        refine ok_call (mi := 208) (as := [.int oo, .long z1, .long z2]) (pc' := 186) (L' := [(5, .int (nI (dv - 1))), (9, .int vv), (8, .int oo), (7, .int (nI i)), (6, .int (nI dt)), (4, .int (nI (800 * t + 60))), (3, .int (nI (800 * t + 1 + 4 * c))), (0, .ref 185), (1, .int (nI t)), (2, .int (nI c))]) (st' := [.int (nI ((dv - 1) - 1)), .ref 192]) (sh' := gSh) (M' := M) (i := .invokestatic 263) (len := 3) rfl rfl ?_
        refine ((hz3.deep (by omega))).mono ?_
        rintro v hp ⟨rfl, rfl⟩
        refine ok_last (n := 330) rfl rfl (hI_in (by omega) (by decide)) ?_
        rw [hI_nat (a := (dv - 1) - 1) (by omega)]
        refine ok_seq 3 (σ' := (38, [(7, .int ((nI i) + (Int32.ofInt 1))), (5, .int (nI (dv - 1))), (9, .int vv), (8, .int oo), (6, .int (nI dt)), (4, .int (nI (800 * t + 60))), (3, .int (nI (800 * t + 1 + 4 * c))), (0, .ref 185), (1, .int (nI t)), (2, .int (nI c))], [], gSh, pUp M 192 ((dv - 1) - 1) (.long z3))) rfl ?_
        rw [cI_1, hI_add i 1]
        exact ih (i + 1) (dv - 1) dt _ _ (by omega) (by omega) hD2 (by omega) (by omega) (pu192 hT hM (by omega) _) (up192 _ _) (Or.inr ⟨oo, vv, Or.inr (Or.inr (Or.inl rfl))⟩)
      · obtain ⟨z1, hz1⟩ := pt192 hT hM (k := dv - 2) (by omega)
        obtain ⟨z2, hz2⟩ := pt192 hT hM (k := dv - 2 + 1) (by omega)
        obtain ⟨z3, y1, y2, hz3⟩ := c_pure hH.2 (vs := [.int oo, .long z1, .long z2]) ⟨⟨oo, rfl, ho1, ho2⟩, sat_l _, sat_l _, trivial⟩ hM (hW.gr hg) (fun q hq => by cases hq)
        refine ok_icmp 119 rfl rfl (fun _ => ?_) (fun hz => absurd (by simp only [pCP]; rw [hI_int (a := 1) (by omega)]; omega) hz)
        refine ok_seq 2 (σ' := (122, [(9, .int vv), (8, .int oo), (7, .int (nI i)), (6, .int (nI dt)), (5, .int (nI dv)), (4, .int (nI (800 * t + 60))), (3, .int (nI (800 * t + 1 + 4 * c))), (0, .ref 185), (1, .int (nI t)), (2, .int (nI c))], [.int (Int32.ofInt 2), .int oo], gSh, M)) rfl ?_
        rw [cI_2]
        refine ok_icmp 147 rfl rfl (fun _ => ?_) (fun hz => absurd (by simp only [pCP]; rw [hI_int (a := 2) (by omega)]; omega) hz)
        refine ok_seq 2 (σ' := (151, [(9, .int vv), (8, .int oo), (7, .int (nI i)), (6, .int (nI dt)), (5, .int (nI dv)), (4, .int (nI (800 * t + 60))), (3, .int (nI (800 * t + 1 + 4 * c))), (0, .ref 185), (1, .int (nI t)), (2, .int (nI c))], [.int ((Int8.ofInt 10).toInt32), .int oo], gSh, M)) rfl ?_
        rw [(show (Int8.ofInt 10).toInt32 = nI 10 by decide)]
        refine ok_icmp 190 rfl rfl (fun _ => ?_) (fun hz => absurd (by simp only [pCP]; rw [hI_int (a := 10) (by omega)]; omega) hz)
        refine ok_seq 2 (σ' := (194, [(9, .int vv), (8, .int oo), (7, .int (nI i)), (6, .int (nI dt)), (5, .int (nI dv)), (4, .int (nI (800 * t + 60))), (3, .int (nI (800 * t + 1 + 4 * c))), (0, .ref 185), (1, .int (nI t)), (2, .int (nI c))], [.int ((Int8.ofInt 20).toInt32), .int oo], gSh, M)) rfl ?_
        rw [(show (Int8.ofInt 20).toInt32 = nI 20 by decide)]
        refine ok_icmp 234 rfl rfl (fun hz => absurd hz (by simp only [pCP]; rw [hI_int (a := 20) (by omega)]; omega)) (fun _ => ?_)
        refine ok_seq 3 (σ' := (204, [(5, .int ((nI dv) + Int32.ofInt (-2))), (9, .int vv), (8, .int oo), (7, .int (nI i)), (6, .int (nI dt)), (4, .int (nI (800 * t + 60))), (3, .int (nI (800 * t + 1 + 4 * c))), (0, .ref 185), (1, .int (nI t)), (2, .int (nI c))], [M 185 27], gSh, M)) rfl ?_
        rw [h27]
        rw [hI_d2 dv (by omega)]
        refine ok_seq 4 (σ' := (212, [(5, .int (nI (dv - 2))), (9, .int vv), (8, .int oo), (7, .int (nI i)), (6, .int (nI dt)), (4, .int (nI (800 * t + 60))), (3, .int (nI (800 * t + 1 + 4 * c))), (0, .ref 185), (1, .int (nI t)), (2, .int (nI c))], [M 185 26, .int oo, .int (nI dt), .ref 193], gSh, M)) rfl ?_
        rw [h26]
        refine ok_seq 1 (σ' := (214, [(5, .int (nI (dv - 2))), (9, .int vv), (8, .int oo), (7, .int (nI i)), (6, .int (nI dt)), (4, .int (nI (800 * t + 60))), (3, .int (nI (800 * t + 1 + 4 * c))), (0, .ref 185), (1, .int (nI t)), (2, .int (nI c))], [.int (nI (dv - 2)), .ref 192, .int oo, .int (nI dt), .ref 193], gSh, M)) rfl ?_
        refine ok_lald (n := 330) (v := z1) rfl rfl (hI_in (by omega) (by decide)) (by rw [hI_nat (by omega)]; exact hz1) ?_
        refine ok_seq 2 (σ' := (219, [(5, .int (nI (dv - 2))), (9, .int vv), (8, .int oo), (7, .int (nI i)), (6, .int (nI dt)), (4, .int (nI (800 * t + 60))), (3, .int (nI (800 * t + 1 + 4 * c))), (0, .ref 185), (1, .int (nI t)), (2, .int (nI c))], [M 185 26, .long z1, .int oo, .int (nI dt), .ref 193], gSh, M)) rfl ?_
        rw [h26]
        refine ok_seq 3 (σ' := (223, [(5, .int (nI (dv - 2))), (9, .int vv), (8, .int oo), (7, .int (nI i)), (6, .int (nI dt)), (4, .int (nI (800 * t + 60))), (3, .int (nI (800 * t + 1 + 4 * c))), (0, .ref 185), (1, .int (nI t)), (2, .int (nI c))], [.int ((nI (dv - 2)) + (Int32.ofInt 1)), .ref 192, .long z1, .int oo, .int (nI dt), .ref 193], gSh, M)) rfl ?_
        rw [cI_1, hI_add (dv - 2) 1]
        refine ok_lald (n := 330) (v := z2) rfl rfl (hI_in (by omega) (by decide)) (by rw [hI_nat (by omega)]; exact hz2) ?_
        refine ok_call (mi := 209) (as := [.int oo, .long z1, .long z2]) (pc' := 227) (L' := [(5, .int (nI (dv - 2))), (9, .int vv), (8, .int oo), (7, .int (nI i)), (6, .int (nI dt)), (4, .int (nI (800 * t + 60))), (3, .int (nI (800 * t + 1 + 4 * c))), (0, .ref 185), (1, .int (nI t)), (2, .int (nI c))]) (st' := [.int (nI dt), .ref 193]) (sh' := gSh) (M' := M) (i := .invokestatic 267) (len := 3) rfl rfl ?_
        refine ((hz3.deep (by omega))).mono ?_
        rintro v hp ⟨rfl, rfl⟩
        refine ok_bast (n := 330) rfl rfl (hI_in (by omega) (by decide)) ?_
        rw [hI_nat (a := dt) (by omega)]
        refine ok_seq 4 (σ' := (38, [(7, .int ((nI i) + (Int32.ofInt 1))), (6, .int ((nI dt) + (Int32.ofInt 1))), (5, .int (nI (dv - 2))), (9, .int vv), (8, .int oo), (4, .int (nI (800 * t + 60))), (3, .int (nI (800 * t + 1 + 4 * c))), (0, .ref 185), (1, .int (nI t)), (2, .int (nI c))], [], gSh, pUp M 193 dt (.int (z3 &&& 1)))) rfl ?_
        rw [cI_1, hI_add i 1, hI_add dt 1]
        exact ih (i + 1) (dv - 2) (dt + 1) _ _ (by omega) (by omega) hD2 (by omega) (by omega) (pu193 hT hM (by omega) (and1 _)) (up193 _ _) (Or.inr ⟨oo, vv, Or.inr (Or.inr (Or.inr (Or.inr (rfl))))⟩)
      · obtain ⟨tb, htb, hz1⟩ := pt193 hT hM (k := dt - 1) (by omega)
        refine ok_icmp 119 rfl rfl (fun _ => ?_) (fun hz => absurd (by simp only [pCP]; rw [hI_int (a := 1) (by omega)]; omega) hz)
        refine ok_seq 2 (σ' := (122, [(9, .int vv), (8, .int oo), (7, .int (nI i)), (6, .int (nI dt)), (5, .int (nI dv)), (4, .int (nI (800 * t + 60))), (3, .int (nI (800 * t + 1 + 4 * c))), (0, .ref 185), (1, .int (nI t)), (2, .int (nI c))], [.int (Int32.ofInt 2), .int oo], gSh, M)) rfl ?_
        rw [cI_2]
        refine ok_icmp 147 rfl rfl (fun _ => ?_) (fun hz => absurd (by simp only [pCP]; rw [hI_int (a := 2) (by omega)]; omega) hz)
        refine ok_seq 2 (σ' := (151, [(9, .int vv), (8, .int oo), (7, .int (nI i)), (6, .int (nI dt)), (5, .int (nI dv)), (4, .int (nI (800 * t + 60))), (3, .int (nI (800 * t + 1 + 4 * c))), (0, .ref 185), (1, .int (nI t)), (2, .int (nI c))], [.int ((Int8.ofInt 10).toInt32), .int oo], gSh, M)) rfl ?_
        rw [(show (Int8.ofInt 10).toInt32 = nI 10 by decide)]
        refine ok_icmp 190 rfl rfl (fun _ => ?_) (fun hz => absurd (by simp only [pCP]; rw [hI_int (a := 10) (by omega)]; omega) hz)
        refine ok_seq 2 (σ' := (194, [(9, .int vv), (8, .int oo), (7, .int (nI i)), (6, .int (nI dt)), (5, .int (nI dv)), (4, .int (nI (800 * t + 60))), (3, .int (nI (800 * t + 1 + 4 * c))), (0, .ref 185), (1, .int (nI t)), (2, .int (nI c))], [.int ((Int8.ofInt 20).toInt32), .int oo], gSh, M)) rfl ?_
        rw [(show (Int8.ofInt 20).toInt32 = nI 20 by decide)]
        refine ok_icmp 234 rfl rfl (fun _ => ?_) (fun hz => absurd (by simp only [pCP]; rw [hI_int (a := 20) (by omega)]; omega) hz)
        refine ok_seq 2 (σ' := (238, [(9, .int vv), (8, .int oo), (7, .int (nI i)), (6, .int (nI dt)), (5, .int (nI dv)), (4, .int (nI (800 * t + 60))), (3, .int (nI (800 * t + 1 + 4 * c))), (0, .ref 185), (1, .int (nI t)), (2, .int (nI c))], [.int ((Int8.ofInt 20).toInt32), .int oo], gSh, M)) rfl ?_
        rw [(show (Int8.ofInt 20).toInt32 = nI 20 by decide)]
        refine ok_icmp 270 rfl rfl (fun hz => absurd hz (by simp only [pCP]; rw [hI_int (a := 20) (by omega)]; omega)) (fun _ => ?_)
        refine ok_seq 2 (σ' := (245, [(9, .int vv), (8, .int oo), (7, .int (nI i)), (6, .int (nI dt)), (5, .int (nI dv)), (4, .int (nI (800 * t + 60))), (3, .int (nI (800 * t + 1 + 4 * c))), (0, .ref 185), (1, .int (nI t)), (2, .int (nI c))], [M 185 27], gSh, M)) rfl ?_
        rw [h27]
        refine ok_seq 5 (σ' := (253, [(9, .int vv), (8, .int oo), (7, .int (nI i)), (6, .int (nI dt)), (5, .int (nI dv)), (4, .int (nI (800 * t + 60))), (3, .int (nI (800 * t + 1 + 4 * c))), (0, .ref 185), (1, .int (nI t)), (2, .int (nI c))], [M 185 27, .int ((nI dt) - (Int32.ofInt 1)), .ref 193], gSh, M)) rfl ?_
        rw [h27]
        rw [cI_1, hI_sub dt 1 (by omega)]
        refine ok_seq 3 (σ' := (257, [(9, .int vv), (8, .int oo), (7, .int (nI i)), (6, .int (nI dt)), (5, .int (nI dv)), (4, .int (nI (800 * t + 60))), (3, .int (nI (800 * t + 1 + 4 * c))), (0, .ref 185), (1, .int (nI t)), (2, .int (nI c))], [.int ((nI dt) - (Int32.ofInt 1)), .ref 193, .int (nI (dt - 1)), .ref 193], gSh, M)) rfl ?_
        rw [cI_1, hI_sub dt 1 (by omega)]
        refine ok_bald (n := 330) (v := nI tb) rfl rfl (hI_in (by omega) (by decide)) (by rw [hI_nat (by omega)]; exact hz1) ?_
        refine ok_if 265 rfl rfl ?_ ?_
        · intro hb
          simp only [pCP] at hb
          rw [hI_int (a := tb) (by omega)] at hb
          have hb : ((tb : Nat) : Int) ≠ (0 : Int) := by omega
          refine ok_seq 1 (σ' := (266, [(9, .int vv), (8, .int oo), (7, .int (nI i)), (6, .int (nI dt)), (5, .int (nI dv)), (4, .int (nI (800 * t + 60))), (3, .int (nI (800 * t + 1 + 4 * c))), (0, .ref 185), (1, .int (nI t)), (2, .int (nI c))], [.int (Int32.ofInt 0), .int (nI (dt - 1)), .ref 193], gSh, M)) rfl ?_
          rw [cI_0]
          refine ok_bast (n := 330) rfl rfl (hI_in (by omega) (by decide)) ?_
          rw [hI_nat (a := dt - 1) (by omega)]
          refine ok_seq 3 (σ' := (38, [(7, .int ((nI i) + (Int32.ofInt 1))), (9, .int vv), (8, .int oo), (6, .int (nI dt)), (5, .int (nI dv)), (4, .int (nI (800 * t + 60))), (3, .int (nI (800 * t + 1 + 4 * c))), (0, .ref 185), (1, .int (nI t)), (2, .int (nI c))], [], gSh, pUp M 193 (dt - 1) (.int ((nI 0) &&& 1)))) rfl ?_
          rw [cI_1, hI_add i 1]
          exact ih (i + 1) dv dt _ _ (by omega) (by omega) hD2 (by omega) (by omega) (pu193 hT hM (by omega) (and1 _)) (up193 _ _) (Or.inr ⟨oo, vv, Or.inr (Or.inl rfl)⟩)
        · intro hb
          simp only [pCP] at hb
          rw [hI_int (a := tb) (by omega)] at hb
          have hb : ((tb : Nat) : Int) = (0 : Int) := by omega
          refine ok_seq 2 (σ' := (266, [(9, .int vv), (8, .int oo), (7, .int (nI i)), (6, .int (nI dt)), (5, .int (nI dv)), (4, .int (nI (800 * t + 60))), (3, .int (nI (800 * t + 1 + 4 * c))), (0, .ref 185), (1, .int (nI t)), (2, .int (nI c))], [.int (Int32.ofInt 1), .int (nI (dt - 1)), .ref 193], gSh, M)) rfl ?_
          rw [cI_1]
          refine ok_bast (n := 330) rfl rfl (hI_in (by omega) (by decide)) ?_
          rw [hI_nat (a := dt - 1) (by omega)]
          refine ok_seq 3 (σ' := (38, [(7, .int ((nI i) + (Int32.ofInt 1))), (9, .int vv), (8, .int oo), (6, .int (nI dt)), (5, .int (nI dv)), (4, .int (nI (800 * t + 60))), (3, .int (nI (800 * t + 1 + 4 * c))), (0, .ref 185), (1, .int (nI t)), (2, .int (nI c))], [], gSh, pUp M 193 (dt - 1) (.int ((nI 1) &&& 1)))) rfl ?_
          rw [cI_1, hI_add i 1]
          exact ih (i + 1) dv dt _ _ (by omega) (by omega) hD2 (by omega) (by omega) (pu193 hT hM (by omega) (and1 _)) (up193 _ _) (Or.inr ⟨oo, vv, Or.inr (Or.inl rfl)⟩)
      · obtain ⟨ta, hta, hz1⟩ := pt193 hT hM (k := dt - 1 - 1) (by omega)
        obtain ⟨tb, htb, hz2⟩ := pt193 hT hM (k := dt - 1) (by omega)
        refine ok_icmp 119 rfl rfl (fun _ => ?_) (fun hz => absurd (by simp only [pCP]; rw [hI_int (a := 1) (by omega)]; omega) hz)
        refine ok_seq 2 (σ' := (122, [(9, .int vv), (8, .int oo), (7, .int (nI i)), (6, .int (nI dt)), (5, .int (nI dv)), (4, .int (nI (800 * t + 60))), (3, .int (nI (800 * t + 1 + 4 * c))), (0, .ref 185), (1, .int (nI t)), (2, .int (nI c))], [.int (Int32.ofInt 2), .int oo], gSh, M)) rfl ?_
        rw [cI_2]
        refine ok_icmp 147 rfl rfl (fun _ => ?_) (fun hz => absurd (by simp only [pCP]; rw [hI_int (a := 2) (by omega)]; omega) hz)
        refine ok_seq 2 (σ' := (151, [(9, .int vv), (8, .int oo), (7, .int (nI i)), (6, .int (nI dt)), (5, .int (nI dv)), (4, .int (nI (800 * t + 60))), (3, .int (nI (800 * t + 1 + 4 * c))), (0, .ref 185), (1, .int (nI t)), (2, .int (nI c))], [.int ((Int8.ofInt 10).toInt32), .int oo], gSh, M)) rfl ?_
        rw [(show (Int8.ofInt 10).toInt32 = nI 10 by decide)]
        refine ok_icmp 190 rfl rfl (fun _ => ?_) (fun hz => absurd (by simp only [pCP]; rw [hI_int (a := 10) (by omega)]; omega) hz)
        refine ok_seq 2 (σ' := (194, [(9, .int vv), (8, .int oo), (7, .int (nI i)), (6, .int (nI dt)), (5, .int (nI dv)), (4, .int (nI (800 * t + 60))), (3, .int (nI (800 * t + 1 + 4 * c))), (0, .ref 185), (1, .int (nI t)), (2, .int (nI c))], [.int ((Int8.ofInt 20).toInt32), .int oo], gSh, M)) rfl ?_
        rw [(show (Int8.ofInt 20).toInt32 = nI 20 by decide)]
        refine ok_icmp 234 rfl rfl (fun _ => ?_) (fun hz => absurd (by simp only [pCP]; rw [hI_int (a := 20) (by omega)]; omega) hz)
        refine ok_seq 2 (σ' := (238, [(9, .int vv), (8, .int oo), (7, .int (nI i)), (6, .int (nI dt)), (5, .int (nI dv)), (4, .int (nI (800 * t + 60))), (3, .int (nI (800 * t + 1 + 4 * c))), (0, .ref 185), (1, .int (nI t)), (2, .int (nI c))], [.int ((Int8.ofInt 20).toInt32), .int oo], gSh, M)) rfl ?_
        rw [(show (Int8.ofInt 20).toInt32 = nI 20 by decide)]
        refine ok_icmp 270 rfl rfl (fun _ => ?_) (fun hz => absurd (by simp only [pCP]; rw [hI_int (a := 20) (by omega)]; omega) hz)
        refine ok_seq 3 (σ' := (277, [(6, .int ((nI dt) + Int32.ofInt (-1))), (9, .int vv), (8, .int oo), (7, .int (nI i)), (5, .int (nI dv)), (4, .int (nI (800 * t + 60))), (3, .int (nI (800 * t + 1 + 4 * c))), (0, .ref 185), (1, .int (nI t)), (2, .int (nI c))], [M 185 27], gSh, M)) rfl ?_
        rw [h27]
        rw [hI_d1 dt (by omega)]
        refine ok_seq 5 (σ' := (285, [(6, .int (nI (dt - 1))), (9, .int vv), (8, .int oo), (7, .int (nI i)), (5, .int (nI dv)), (4, .int (nI (800 * t + 60))), (3, .int (nI (800 * t + 1 + 4 * c))), (0, .ref 185), (1, .int (nI t)), (2, .int (nI c))], [.int ((Int8.ofInt 21).toInt32), .int oo, .int ((nI (dt - 1)) - (Int32.ofInt 1)), .ref 193], gSh, M)) rfl ?_
        rw [cI_1, hI_sub (dt - 1) 1 (by omega), (show (Int8.ofInt 21).toInt32 = nI 21 by decide)]
        refine ok_icmp 318 rfl rfl ?_ ?_
        · intro hao
          simp only [pCP] at hao
          rw [hI_int (a := 21) (by omega)] at hao
          have hao : (oo).toInt ≠ ((21 : Nat) : Int) := by omega
          refine ok_seq 2 (σ' := (322, [(6, .int (nI (dt - 1))), (9, .int vv), (8, .int oo), (7, .int (nI i)), (5, .int (nI dv)), (4, .int (nI (800 * t + 60))), (3, .int (nI (800 * t + 1 + 4 * c))), (0, .ref 185), (1, .int (nI t)), (2, .int (nI c))], [M 185 27, .int (nI ((dt - 1) - 1)), .ref 193], gSh, M)) rfl ?_
          rw [h27]
          refine ok_seq 3 (σ' := (326, [(6, .int (nI (dt - 1))), (9, .int vv), (8, .int oo), (7, .int (nI i)), (5, .int (nI dv)), (4, .int (nI (800 * t + 60))), (3, .int (nI (800 * t + 1 + 4 * c))), (0, .ref 185), (1, .int (nI t)), (2, .int (nI c))], [.int ((nI (dt - 1)) - (Int32.ofInt 1)), .ref 193, .int (nI ((dt - 1) - 1)), .ref 193], gSh, M)) rfl ?_
          rw [cI_1, hI_sub (dt - 1) 1 (by omega)]
          refine ok_bald (n := 330) (v := nI ta) rfl rfl (hI_in (by omega) (by decide)) (by rw [hI_nat (by omega)]; exact hz1) ?_
          refine ok_if 340 rfl rfl ?_ ?_
          · intro hb1
            simp only [pCP] at hb1
            rw [hI_int (a := ta) (by omega)] at hb1
            have hb1 : ((ta : Nat) : Int) ≠ (0 : Int) := by omega
            refine ok_seq 2 (σ' := (345, [(6, .int (nI (dt - 1))), (9, .int vv), (8, .int oo), (7, .int (nI i)), (5, .int (nI dv)), (4, .int (nI (800 * t + 60))), (3, .int (nI (800 * t + 1 + 4 * c))), (0, .ref 185), (1, .int (nI t)), (2, .int (nI c))], [.int (Int32.ofInt 1), .int (nI ((dt - 1) - 1)), .ref 193], gSh, M)) rfl ?_
            rw [cI_1]
            refine ok_bast (n := 330) rfl rfl (hI_in (by omega) (by decide)) ?_
            rw [hI_nat (a := (dt - 1) - 1) (by omega)]
            refine ok_seq 2 (σ' := (38, [(7, .int ((nI i) + (Int32.ofInt 1))), (6, .int (nI (dt - 1))), (9, .int vv), (8, .int oo), (5, .int (nI dv)), (4, .int (nI (800 * t + 60))), (3, .int (nI (800 * t + 1 + 4 * c))), (0, .ref 185), (1, .int (nI t)), (2, .int (nI c))], [], gSh, pUp M 193 ((dt - 1) - 1) (.int ((nI 1) &&& 1)))) rfl ?_
            rw [cI_1, hI_add i 1]
            exact ih (i + 1) dv (dt - 1) _ _ (by omega) (by omega) hD2 (by omega) (by omega) (pu193 hT hM (by omega) (and1 _)) (up193 _ _) (Or.inr ⟨oo, vv, Or.inr (Or.inr (Or.inr (Or.inl rfl)))⟩)
          · intro hb1
            simp only [pCP] at hb1
            rw [hI_int (a := ta) (by omega)] at hb1
            have hb1 : ((ta : Nat) : Int) = (0 : Int) := by omega
            refine ok_seq 2 (σ' := (334, [(6, .int (nI (dt - 1))), (9, .int vv), (8, .int oo), (7, .int (nI i)), (5, .int (nI dv)), (4, .int (nI (800 * t + 60))), (3, .int (nI (800 * t + 1 + 4 * c))), (0, .ref 185), (1, .int (nI t)), (2, .int (nI c))], [M 185 27, .int (nI ((dt - 1) - 1)), .ref 193], gSh, M)) rfl ?_
            rw [h27]
            refine ok_seq 1 (σ' := (336, [(6, .int (nI (dt - 1))), (9, .int vv), (8, .int oo), (7, .int (nI i)), (5, .int (nI dv)), (4, .int (nI (800 * t + 60))), (3, .int (nI (800 * t + 1 + 4 * c))), (0, .ref 185), (1, .int (nI t)), (2, .int (nI c))], [.int (nI (dt - 1)), .ref 193, .int (nI ((dt - 1) - 1)), .ref 193], gSh, M)) rfl ?_
            refine ok_bald (n := 330) (v := nI tb) rfl rfl (hI_in (by omega) (by decide)) (by rw [hI_nat (by omega)]; exact hz2) ?_
            refine ok_if 344 rfl rfl ?_ ?_
            · intro hb2
              simp only [pCP] at hb2
              rw [hI_int (a := tb) (by omega)] at hb2
              have hb2 : ((tb : Nat) : Int) = (0 : Int) := by omega
              refine ok_seq 1 (σ' := (345, [(6, .int (nI (dt - 1))), (9, .int vv), (8, .int oo), (7, .int (nI i)), (5, .int (nI dv)), (4, .int (nI (800 * t + 60))), (3, .int (nI (800 * t + 1 + 4 * c))), (0, .ref 185), (1, .int (nI t)), (2, .int (nI c))], [.int (Int32.ofInt 0), .int (nI ((dt - 1) - 1)), .ref 193], gSh, M)) rfl ?_
              rw [cI_0]
              refine ok_bast (n := 330) rfl rfl (hI_in (by omega) (by decide)) ?_
              rw [hI_nat (a := (dt - 1) - 1) (by omega)]
              refine ok_seq 2 (σ' := (38, [(7, .int ((nI i) + (Int32.ofInt 1))), (6, .int (nI (dt - 1))), (9, .int vv), (8, .int oo), (5, .int (nI dv)), (4, .int (nI (800 * t + 60))), (3, .int (nI (800 * t + 1 + 4 * c))), (0, .ref 185), (1, .int (nI t)), (2, .int (nI c))], [], gSh, pUp M 193 ((dt - 1) - 1) (.int ((nI 0) &&& 1)))) rfl ?_
              rw [cI_1, hI_add i 1]
              exact ih (i + 1) dv (dt - 1) _ _ (by omega) (by omega) hD2 (by omega) (by omega) (pu193 hT hM (by omega) (and1 _)) (up193 _ _) (Or.inr ⟨oo, vv, Or.inr (Or.inr (Or.inr (Or.inl rfl)))⟩)
            · intro hb2
              simp only [pCP] at hb2
              rw [hI_int (a := tb) (by omega)] at hb2
              have hb2 : ((tb : Nat) : Int) ≠ (0 : Int) := by omega
              refine ok_seq 2 (σ' := (345, [(6, .int (nI (dt - 1))), (9, .int vv), (8, .int oo), (7, .int (nI i)), (5, .int (nI dv)), (4, .int (nI (800 * t + 60))), (3, .int (nI (800 * t + 1 + 4 * c))), (0, .ref 185), (1, .int (nI t)), (2, .int (nI c))], [.int (Int32.ofInt 1), .int (nI ((dt - 1) - 1)), .ref 193], gSh, M)) rfl ?_
              rw [cI_1]
              refine ok_bast (n := 330) rfl rfl (hI_in (by omega) (by decide)) ?_
              rw [hI_nat (a := (dt - 1) - 1) (by omega)]
              refine ok_seq 2 (σ' := (38, [(7, .int ((nI i) + (Int32.ofInt 1))), (6, .int (nI (dt - 1))), (9, .int vv), (8, .int oo), (5, .int (nI dv)), (4, .int (nI (800 * t + 60))), (3, .int (nI (800 * t + 1 + 4 * c))), (0, .ref 185), (1, .int (nI t)), (2, .int (nI c))], [], gSh, pUp M 193 ((dt - 1) - 1) (.int ((nI 1) &&& 1)))) rfl ?_
              rw [cI_1, hI_add i 1]
              exact ih (i + 1) dv (dt - 1) _ _ (by omega) (by omega) hD2 (by omega) (by omega) (pu193 hT hM (by omega) (and1 _)) (up193 _ _) (Or.inr ⟨oo, vv, Or.inr (Or.inr (Or.inr (Or.inl rfl)))⟩)
        · intro hao
          simp only [pCP] at hao
          rw [hI_int (a := 21) (by omega)] at hao
          have hao : (oo).toInt = ((21 : Nat) : Int) := by omega
          refine ok_seq 2 (σ' := (292, [(6, .int (nI (dt - 1))), (9, .int vv), (8, .int oo), (7, .int (nI i)), (5, .int (nI dv)), (4, .int (nI (800 * t + 60))), (3, .int (nI (800 * t + 1 + 4 * c))), (0, .ref 185), (1, .int (nI t)), (2, .int (nI c))], [M 185 27, .int (nI ((dt - 1) - 1)), .ref 193], gSh, M)) rfl ?_
          rw [h27]
          refine ok_seq 3 (σ' := (296, [(6, .int (nI (dt - 1))), (9, .int vv), (8, .int oo), (7, .int (nI i)), (5, .int (nI dv)), (4, .int (nI (800 * t + 60))), (3, .int (nI (800 * t + 1 + 4 * c))), (0, .ref 185), (1, .int (nI t)), (2, .int (nI c))], [.int ((nI (dt - 1)) - (Int32.ofInt 1)), .ref 193, .int (nI ((dt - 1) - 1)), .ref 193], gSh, M)) rfl ?_
          rw [cI_1, hI_sub (dt - 1) 1 (by omega)]
          refine ok_bald (n := 330) (v := nI ta) rfl rfl (hI_in (by omega) (by decide)) (by rw [hI_nat (by omega)]; exact hz1) ?_
          refine ok_if 314 rfl rfl ?_ ?_
          · intro hb1
            simp only [pCP] at hb1
            rw [hI_int (a := ta) (by omega)] at hb1
            have hb1 : ((ta : Nat) : Int) = (0 : Int) := by omega
            refine ok_seq 2 (σ' := (345, [(6, .int (nI (dt - 1))), (9, .int vv), (8, .int oo), (7, .int (nI i)), (5, .int (nI dv)), (4, .int (nI (800 * t + 60))), (3, .int (nI (800 * t + 1 + 4 * c))), (0, .ref 185), (1, .int (nI t)), (2, .int (nI c))], [.int (Int32.ofInt 0), .int (nI ((dt - 1) - 1)), .ref 193], gSh, M)) rfl ?_
            rw [cI_0]
            refine ok_bast (n := 330) rfl rfl (hI_in (by omega) (by decide)) ?_
            rw [hI_nat (a := (dt - 1) - 1) (by omega)]
            refine ok_seq 2 (σ' := (38, [(7, .int ((nI i) + (Int32.ofInt 1))), (6, .int (nI (dt - 1))), (9, .int vv), (8, .int oo), (5, .int (nI dv)), (4, .int (nI (800 * t + 60))), (3, .int (nI (800 * t + 1 + 4 * c))), (0, .ref 185), (1, .int (nI t)), (2, .int (nI c))], [], gSh, pUp M 193 ((dt - 1) - 1) (.int ((nI 0) &&& 1)))) rfl ?_
            rw [cI_1, hI_add i 1]
            exact ih (i + 1) dv (dt - 1) _ _ (by omega) (by omega) hD2 (by omega) (by omega) (pu193 hT hM (by omega) (and1 _)) (up193 _ _) (Or.inr ⟨oo, vv, Or.inr (Or.inr (Or.inr (Or.inl rfl)))⟩)
          · intro hb1
            simp only [pCP] at hb1
            rw [hI_int (a := ta) (by omega)] at hb1
            have hb1 : ((ta : Nat) : Int) ≠ (0 : Int) := by omega
            refine ok_seq 2 (σ' := (304, [(6, .int (nI (dt - 1))), (9, .int vv), (8, .int oo), (7, .int (nI i)), (5, .int (nI dv)), (4, .int (nI (800 * t + 60))), (3, .int (nI (800 * t + 1 + 4 * c))), (0, .ref 185), (1, .int (nI t)), (2, .int (nI c))], [M 185 27, .int (nI ((dt - 1) - 1)), .ref 193], gSh, M)) rfl ?_
            rw [h27]
            refine ok_seq 1 (σ' := (306, [(6, .int (nI (dt - 1))), (9, .int vv), (8, .int oo), (7, .int (nI i)), (5, .int (nI dv)), (4, .int (nI (800 * t + 60))), (3, .int (nI (800 * t + 1 + 4 * c))), (0, .ref 185), (1, .int (nI t)), (2, .int (nI c))], [.int (nI (dt - 1)), .ref 193, .int (nI ((dt - 1) - 1)), .ref 193], gSh, M)) rfl ?_
            refine ok_bald (n := 330) (v := nI tb) rfl rfl (hI_in (by omega) (by decide)) (by rw [hI_nat (by omega)]; exact hz2) ?_
            refine ok_if 314 rfl rfl ?_ ?_
            · intro hb2
              simp only [pCP] at hb2
              rw [hI_int (a := tb) (by omega)] at hb2
              have hb2 : ((tb : Nat) : Int) = (0 : Int) := by omega
              refine ok_seq 2 (σ' := (345, [(6, .int (nI (dt - 1))), (9, .int vv), (8, .int oo), (7, .int (nI i)), (5, .int (nI dv)), (4, .int (nI (800 * t + 60))), (3, .int (nI (800 * t + 1 + 4 * c))), (0, .ref 185), (1, .int (nI t)), (2, .int (nI c))], [.int (Int32.ofInt 0), .int (nI ((dt - 1) - 1)), .ref 193], gSh, M)) rfl ?_
              rw [cI_0]
              refine ok_bast (n := 330) rfl rfl (hI_in (by omega) (by decide)) ?_
              rw [hI_nat (a := (dt - 1) - 1) (by omega)]
              refine ok_seq 2 (σ' := (38, [(7, .int ((nI i) + (Int32.ofInt 1))), (6, .int (nI (dt - 1))), (9, .int vv), (8, .int oo), (5, .int (nI dv)), (4, .int (nI (800 * t + 60))), (3, .int (nI (800 * t + 1 + 4 * c))), (0, .ref 185), (1, .int (nI t)), (2, .int (nI c))], [], gSh, pUp M 193 ((dt - 1) - 1) (.int ((nI 0) &&& 1)))) rfl ?_
              rw [cI_1, hI_add i 1]
              exact ih (i + 1) dv (dt - 1) _ _ (by omega) (by omega) hD2 (by omega) (by omega) (pu193 hT hM (by omega) (and1 _)) (up193 _ _) (Or.inr ⟨oo, vv, Or.inr (Or.inr (Or.inr (Or.inl rfl)))⟩)
            · intro hb2
              simp only [pCP] at hb2
              rw [hI_int (a := tb) (by omega)] at hb2
              have hb2 : ((tb : Nat) : Int) ≠ (0 : Int) := by omega
              refine ok_seq 2 (σ' := (345, [(6, .int (nI (dt - 1))), (9, .int vv), (8, .int oo), (7, .int (nI i)), (5, .int (nI dv)), (4, .int (nI (800 * t + 60))), (3, .int (nI (800 * t + 1 + 4 * c))), (0, .ref 185), (1, .int (nI t)), (2, .int (nI c))], [.int (Int32.ofInt 1), .int (nI ((dt - 1) - 1)), .ref 193], gSh, M)) rfl ?_
              rw [cI_1]
              refine ok_bast (n := 330) rfl rfl (hI_in (by omega) (by decide)) ?_
              rw [hI_nat (a := (dt - 1) - 1) (by omega)]
              refine ok_seq 2 (σ' := (38, [(7, .int ((nI i) + (Int32.ofInt 1))), (6, .int (nI (dt - 1))), (9, .int vv), (8, .int oo), (5, .int (nI dv)), (4, .int (nI (800 * t + 60))), (3, .int (nI (800 * t + 1 + 4 * c))), (0, .ref 185), (1, .int (nI t)), (2, .int (nI c))], [], gSh, pUp M 193 ((dt - 1) - 1) (.int ((nI 1) &&& 1)))) rfl ?_
              rw [cI_1, hI_add i 1]
              exact ih (i + 1) dv (dt - 1) _ _ (by omega) (by omega) hD2 (by omega) (by omega) (pu193 hT hM (by omega) (and1 _)) (up193 _ _) (Or.inr ⟨oo, vv, Or.inr (Or.inr (Or.inr (Or.inl rfl)))⟩)
    · refine ok_seq 3 (σ' := (44, [(7, .int (nI i)), (5, .int (nI dv)), (9, .int y9), (8, .int y8), (6, .int (nI dt)), (4, .int (nI (800 * t + 60))), (3, .int (nI (800 * t + 1 + 4 * c))), (0, .ref 185), (1, .int (nI t)), (2, .int (nI c))], [M 185 5, .int (nI i)], gSh, M)) rfl ?_
      rw [h5]
      refine ok_seq 3 (σ' := (47, [(7, .int (nI i)), (5, .int (nI dv)), (9, .int y9), (8, .int y8), (6, .int (nI dt)), (4, .int (nI (800 * t + 60))), (3, .int (nI (800 * t + 1 + 4 * c))), (0, .ref 185), (1, .int (nI t)), (2, .int (nI c))], [.int ((nI (800 * t + 1 + 4 * c)) + (Int32.ofInt 3)), .ref 188, .int (nI i)], gSh, M)) rfl ?_
      rw [cI_3, hI_add (800 * t + 1 + 4 * c) 3]
      refine ok_iald (n := 3200) (v := nI j) rfl rfl (hI_in (by omega) (by decide)) (by rw [hI_nat (by omega)]; exact hj) ?_
      refine ok_icmp 352 rfl rfl (fun hz => absurd hz (by simp only [pCP]; rw [hI_int (a := i) (by omega), hI_int (a := j) (by omega)]; omega)) (fun _ => ?_)
      refine ok_seq 2 (σ' := (55, [(7, .int (nI i)), (5, .int (nI dv)), (9, .int y9), (8, .int y8), (6, .int (nI dt)), (4, .int (nI (800 * t + 60))), (3, .int (nI (800 * t + 1 + 4 * c))), (0, .ref 185), (1, .int (nI t)), (2, .int (nI c))], [M 185 5], gSh, M)) rfl ?_
      rw [h5]
      refine ok_seq 5 (σ' := (62, [(7, .int (nI i)), (5, .int (nI dv)), (9, .int y9), (8, .int y8), (6, .int (nI dt)), (4, .int (nI (800 * t + 60))), (3, .int (nI (800 * t + 1 + 4 * c))), (0, .ref 185), (1, .int (nI t)), (2, .int (nI c))], [.int ((nI (800 * t + 60)) + ((Int32.ofInt 2) * (nI i))), .ref 188], gSh, M)) rfl ?_
      rw [cI_2, hI_mul 2 i, hI_add (800 * t + 60) (2 * i)]
      refine ok_iald (n := 3200) (v := oo) rfl rfl (hI_in (by omega) (by decide)) (by rw [hI_nat (by omega)]; exact ho) ?_
      refine ok_seq 3 (σ' := (69, [(8, .int oo), (7, .int (nI i)), (5, .int (nI dv)), (9, .int y9), (6, .int (nI dt)), (4, .int (nI (800 * t + 60))), (3, .int (nI (800 * t + 1 + 4 * c))), (0, .ref 185), (1, .int (nI t)), (2, .int (nI c))], [M 185 5], gSh, M)) rfl ?_
      rw [h5]
      refine ok_seq 7 (σ' := (78, [(8, .int oo), (7, .int (nI i)), (5, .int (nI dv)), (9, .int y9), (6, .int (nI dt)), (4, .int (nI (800 * t + 60))), (3, .int (nI (800 * t + 1 + 4 * c))), (0, .ref 185), (1, .int (nI t)), (2, .int (nI c))], [.int (((nI (800 * t + 60)) + ((Int32.ofInt 2) * (nI i))) + (Int32.ofInt 1)), .ref 188], gSh, M)) rfl ?_
      rw [cI_2, hI_mul 2 i, hI_add (800 * t + 60) (2 * i), cI_1, hI_add ((800 * t + 60) + (2 * i)) 1]
      refine ok_iald (n := 3200) (v := vv) rfl rfl (hI_in (by omega) (by decide)) (by rw [hI_nat (by omega)]; exact hvv) ?_
      refine ok_seq 3 (σ' := (84, [(9, .int vv), (8, .int oo), (7, .int (nI i)), (5, .int (nI dv)), (6, .int (nI dt)), (4, .int (nI (800 * t + 60))), (3, .int (nI (800 * t + 1 + 4 * c))), (0, .ref 185), (1, .int (nI t)), (2, .int (nI c))], [.int (Int32.ofInt 1), .int oo], gSh, M)) rfl ?_
      rw [cI_1]
      rcases hop with ⟨ho1, hD2⟩ | ⟨ho1, hv1, hv2, hD2⟩ | ⟨ho1, ho3, hD2⟩ | ⟨ho1, ho2, ho3, hD2⟩ | ⟨ho1, ho2, ho3, hD2⟩ | ⟨ho1, ho3, hD2⟩ | ⟨ho1, ho2, ho3, hD2⟩
      · refine ok_icmp 119 rfl rfl (fun hz => absurd hz (by simp only [pCP]; rw [hI_int (a := 1) (by omega)]; omega)) (fun _ => ?_)
        refine ok_seq 2 (σ' := (91, [(9, .int vv), (8, .int oo), (7, .int (nI i)), (5, .int (nI dv)), (6, .int (nI dt)), (4, .int (nI (800 * t + 60))), (3, .int (nI (800 * t + 1 + 4 * c))), (0, .ref 185), (1, .int (nI t)), (2, .int (nI c))], [M 185 26], gSh, M)) rfl ?_
        rw [h26]
        refine ok_seq 2 (σ' := (95, [(9, .int vv), (8, .int oo), (7, .int (nI i)), (5, .int (nI dv)), (6, .int (nI dt)), (4, .int (nI (800 * t + 60))), (3, .int (nI (800 * t + 1 + 4 * c))), (0, .ref 185), (1, .int (nI t)), (2, .int (nI c))], [.int oo, .int (nI dv), .ref 192], gSh, M)) rfl ?_
        refine ok_if 104 rfl rfl (fun hz => absurd hz (by simp only [pCP]; omega)) (fun _ => ?_)
        refine ok_seq 3 (σ' := (112, [(9, .int vv), (8, .int oo), (7, .int (nI i)), (5, .int (nI dv)), (6, .int (nI dt)), (4, .int (nI (800 * t + 60))), (3, .int (nI (800 * t + 1 + 4 * c))), (0, .ref 185), (1, .int (nI t)), (2, .int (nI c))], [.long ((vv).toInt64), .int (nI dv), .ref 192], gSh, M)) rfl ?_
        refine ok_last (n := 330) rfl rfl (hI_in (by omega) (by decide)) ?_
        rw [hI_nat (a := dv) (by omega)]
        refine ok_seq 4 (σ' := (38, [(7, .int ((nI i) + (Int32.ofInt 1))), (5, .int ((nI dv) + (Int32.ofInt 1))), (9, .int vv), (8, .int oo), (6, .int (nI dt)), (4, .int (nI (800 * t + 60))), (3, .int (nI (800 * t + 1 + 4 * c))), (0, .ref 185), (1, .int (nI t)), (2, .int (nI c))], [], gSh, pUp M 192 dv (.long ((vv).toInt64)))) rfl ?_
        rw [cI_1, hI_add i 1, hI_add dv 1]
        exact ih (i + 1) (dv + 1) dt _ _ (by omega) (by omega) hD2 (by omega) (by omega) (pu192 hT hM (by omega) _) (up192 _ _) (Or.inr ⟨oo, vv, Or.inr (Or.inr (Or.inl rfl))⟩)
      · obtain ⟨vn, hvn, evn⟩ := ty_nat (x := []) (hi := 10) ⟨vv, rfl, hv1, hv2⟩
        cases evn
        obtain ⟨nz, hnz⟩ := pt191 hT hM (k := vn) (by omega)
        refine ok_icmp 119 rfl rfl (fun hz => absurd hz (by simp only [pCP]; rw [hI_int (a := 1) (by omega)]; omega)) (fun _ => ?_)
        refine ok_seq 2 (σ' := (91, [(9, .int (nI vn)), (8, .int oo), (7, .int (nI i)), (5, .int (nI dv)), (6, .int (nI dt)), (4, .int (nI (800 * t + 60))), (3, .int (nI (800 * t + 1 + 4 * c))), (0, .ref 185), (1, .int (nI t)), (2, .int (nI c))], [M 185 26], gSh, M)) rfl ?_
        rw [h26]
        refine ok_seq 2 (σ' := (95, [(9, .int (nI vn)), (8, .int oo), (7, .int (nI i)), (5, .int (nI dv)), (6, .int (nI dt)), (4, .int (nI (800 * t + 60))), (3, .int (nI (800 * t + 1 + 4 * c))), (0, .ref 185), (1, .int (nI t)), (2, .int (nI c))], [.int oo, .int (nI dv), .ref 192], gSh, M)) rfl ?_
        refine ok_if 104 rfl rfl (fun _ => ?_) (fun hz => absurd (by simp only [pCP]; omega) hz)
        refine ok_seq 2 (σ' := (108, [(9, .int (nI vn)), (8, .int oo), (7, .int (nI i)), (5, .int (nI dv)), (6, .int (nI dt)), (4, .int (nI (800 * t + 60))), (3, .int (nI (800 * t + 1 + 4 * c))), (0, .ref 185), (1, .int (nI t)), (2, .int (nI c))], [M 185 25, .int (nI dv), .ref 192], gSh, M)) rfl ?_
        rw [h25]
        refine ok_seq 1 (σ' := (110, [(9, .int (nI vn)), (8, .int oo), (7, .int (nI i)), (5, .int (nI dv)), (6, .int (nI dt)), (4, .int (nI (800 * t + 60))), (3, .int (nI (800 * t + 1 + 4 * c))), (0, .ref 185), (1, .int (nI t)), (2, .int (nI c))], [.int (nI vn), .ref 191, .int (nI dv), .ref 192], gSh, M)) rfl ?_
        refine ok_iald (n := 11) (v := nz) rfl rfl (hI_in (by omega) (by decide)) (by rw [hI_nat (by omega)]; exact hnz) ?_
        refine ok_seq 1 (σ' := (112, [(9, .int (nI vn)), (8, .int oo), (7, .int (nI i)), (5, .int (nI dv)), (6, .int (nI dt)), (4, .int (nI (800 * t + 60))), (3, .int (nI (800 * t + 1 + 4 * c))), (0, .ref 185), (1, .int (nI t)), (2, .int (nI c))], [.long ((nz).toInt64), .int (nI dv), .ref 192], gSh, M)) rfl ?_
        refine ok_last (n := 330) rfl rfl (hI_in (by omega) (by decide)) ?_
        rw [hI_nat (a := dv) (by omega)]
        refine ok_seq 4 (σ' := (38, [(7, .int ((nI i) + (Int32.ofInt 1))), (5, .int ((nI dv) + (Int32.ofInt 1))), (9, .int (nI vn)), (8, .int oo), (6, .int (nI dt)), (4, .int (nI (800 * t + 60))), (3, .int (nI (800 * t + 1 + 4 * c))), (0, .ref 185), (1, .int (nI t)), (2, .int (nI c))], [], gSh, pUp M 192 dv (.long ((nz).toInt64)))) rfl ?_
        rw [cI_1, hI_add i 1, hI_add dv 1]
        exact ih (i + 1) (dv + 1) dt _ _ (by omega) (by omega) hD2 (by omega) (by omega) (pu192 hT hM (by omega) _) (up192 _ _) (Or.inr ⟨oo, nI vn, Or.inr (Or.inr (Or.inl rfl))⟩)
      · obtain ⟨z1, hz1⟩ := pt192 hT hM (k := dv - 1) (by omega)
        refine ok_icmp 119 rfl rfl (fun _ => ?_) (fun hz => absurd (by simp only [pCP]; rw [hI_int (a := 1) (by omega)]; omega) hz)
        refine ok_seq 2 (σ' := (122, [(9, .int vv), (8, .int oo), (7, .int (nI i)), (5, .int (nI dv)), (6, .int (nI dt)), (4, .int (nI (800 * t + 60))), (3, .int (nI (800 * t + 1 + 4 * c))), (0, .ref 185), (1, .int (nI t)), (2, .int (nI c))], [.int (Int32.ofInt 2), .int oo], gSh, M)) rfl ?_
        rw [cI_2]
        refine ok_icmp 147 rfl rfl (fun hz => absurd hz (by simp only [pCP]; rw [hI_int (a := 2) (by omega)]; omega)) (fun _ => ?_)
        refine ok_seq 2 (σ' := (129, [(9, .int vv), (8, .int oo), (7, .int (nI i)), (5, .int (nI dv)), (6, .int (nI dt)), (4, .int (nI (800 * t + 60))), (3, .int (nI (800 * t + 1 + 4 * c))), (0, .ref 185), (1, .int (nI t)), (2, .int (nI c))], [M 185 26], gSh, M)) rfl ?_
        rw [h26]
        refine ok_seq 5 (σ' := (137, [(9, .int vv), (8, .int oo), (7, .int (nI i)), (5, .int (nI dv)), (6, .int (nI dt)), (4, .int (nI (800 * t + 60))), (3, .int (nI (800 * t + 1 + 4 * c))), (0, .ref 185), (1, .int (nI t)), (2, .int (nI c))], [M 185 26, .int ((nI dv) - (Int32.ofInt 1)), .ref 192], gSh, M)) rfl ?_
        rw [h26]
        rw [cI_1, hI_sub dv 1 (by omega)]
        refine ok_seq 3 (σ' := (141, [(9, .int vv), (8, .int oo), (7, .int (nI i)), (5, .int (nI dv)), (6, .int (nI dt)), (4, .int (nI (800 * t + 60))), (3, .int (nI (800 * t + 1 + 4 * c))), (0, .ref 185), (1, .int (nI t)), (2, .int (nI c))], [.int ((nI dv) - (Int32.ofInt 1)), .ref 192, .int (nI (dv - 1)), .ref 192], gSh, M)) rfl ?_
        rw [cI_1, hI_sub dv 1 (by omega)]
        refine ok_lald (n := 330) (v := z1) rfl rfl (hI_in (by omega) (by decide)) (by rw [hI_nat (by omega)]; exact hz1) ?_
        refine ok_seq 1 (σ' := (143, [(9, .int vv), (8, .int oo), (7, .int (nI i)), (5, .int (nI dv)), (6, .int (nI dt)), (4, .int (nI (800 * t + 60))), (3, .int (nI (800 * t + 1 + 4 * c))), (0, .ref 185), (1, .int (nI t)), (2, .int (nI c))], [.long (-z1), .int (nI (dv - 1)), .ref 192], gSh, M)) rfl ?_
        refine ok_last (n := 330) rfl rfl (hI_in (by omega) (by decide)) ?_
        rw [hI_nat (a := dv - 1) (by omega)]
        refine ok_seq 3 (σ' := (38, [(7, .int ((nI i) + (Int32.ofInt 1))), (9, .int vv), (8, .int oo), (5, .int (nI dv)), (6, .int (nI dt)), (4, .int (nI (800 * t + 60))), (3, .int (nI (800 * t + 1 + 4 * c))), (0, .ref 185), (1, .int (nI t)), (2, .int (nI c))], [], gSh, pUp M 192 (dv - 1) (.long (-z1)))) rfl ?_
        rw [cI_1, hI_add i 1]
        exact ih (i + 1) dv dt _ _ (by omega) (by omega) hD2 (by omega) (by omega) (pu192 hT hM (by omega) _) (up192 _ _) (Or.inr ⟨oo, vv, Or.inl rfl⟩)
      · obtain ⟨z1, hz1⟩ := pt192 hT hM (k := dv - 1 - 1) (by omega)
        obtain ⟨z2, hz2⟩ := pt192 hT hM (k := dv - 1) (by omega)
        obtain ⟨z3, hz3⟩ := c_pureL hH.1 (vs := [.int oo, .long z1, .long z2]) ⟨⟨oo, rfl, ho1, ho2⟩, sat_l _, sat_l _, trivial⟩ hM (hW.gr hg)
        refine ok_icmp 119 rfl rfl (fun _ => ?_) (fun hz => absurd (by simp only [pCP]; rw [hI_int (a := 1) (by omega)]; omega) hz)
        refine ok_seq 2 (σ' := (122, [(9, .int vv), (8, .int oo), (7, .int (nI i)), (5, .int (nI dv)), (6, .int (nI dt)), (4, .int (nI (800 * t + 60))), (3, .int (nI (800 * t + 1 + 4 * c))), (0, .ref 185), (1, .int (nI t)), (2, .int (nI c))], [.int (Int32.ofInt 2), .int oo], gSh, M)) rfl ?_
        rw [cI_2]
        refine ok_icmp 147 rfl rfl (fun _ => ?_) (fun hz => absurd (by simp only [pCP]; rw [hI_int (a := 2) (by omega)]; omega) hz)
        refine ok_seq 2 (σ' := (151, [(9, .int vv), (8, .int oo), (7, .int (nI i)), (5, .int (nI dv)), (6, .int (nI dt)), (4, .int (nI (800 * t + 60))), (3, .int (nI (800 * t + 1 + 4 * c))), (0, .ref 185), (1, .int (nI t)), (2, .int (nI c))], [.int ((Int8.ofInt 10).toInt32), .int oo], gSh, M)) rfl ?_
        rw [(show (Int8.ofInt 10).toInt32 = nI 10 by decide)]
        refine ok_icmp 190 rfl rfl (fun hz => absurd hz (by simp only [pCP]; rw [hI_int (a := 10) (by omega)]; omega)) (fun _ => ?_)
        refine ok_seq 3 (σ' := (161, [(5, .int ((nI dv) + Int32.ofInt (-1))), (9, .int vv), (8, .int oo), (7, .int (nI i)), (6, .int (nI dt)), (4, .int (nI (800 * t + 60))), (3, .int (nI (800 * t + 1 + 4 * c))), (0, .ref 185), (1, .int (nI t)), (2, .int (nI c))], [M 185 26], gSh, M)) rfl ?_
        rw [h26]
        rw [hI_d1 dv (by omega)]
        refine ok_seq 6 (σ' := (171, [(5, .int (nI (dv - 1))), (9, .int vv), (8, .int oo), (7, .int (nI i)), (6, .int (nI dt)), (4, .int (nI (800 * t + 60))), (3, .int (nI (800 * t + 1 + 4 * c))), (0, .ref 185), (1, .int (nI t)), (2, .int (nI c))], [M 185 26, .int oo, .int ((nI (dv - 1)) - (Int32.ofInt 1)), .ref 192], gSh, M)) rfl ?_
        rw [h26]
        rw [cI_1, hI_sub (dv - 1) 1 (by omega)]
        refine ok_seq 3 (σ' := (175, [(5, .int (nI (dv - 1))), (9, .int vv), (8, .int oo), (7, .int (nI i)), (6, .int (nI dt)), (4, .int (nI (800 * t + 60))), (3, .int (nI (800 * t + 1 + 4 * c))), (0, .ref 185), (1, .int (nI t)), (2, .int (nI c))], [.int ((nI (dv - 1)) - (Int32.ofInt 1)), .ref 192, .int oo, .int (nI ((dv - 1) - 1)), .ref 192], gSh, M)) rfl ?_
        rw [cI_1, hI_sub (dv - 1) 1 (by omega)]
        refine ok_lald (n := 330) (v := z1) rfl rfl (hI_in (by omega) (by decide)) (by rw [hI_nat (by omega)]; exact hz1) ?_
        refine ok_seq 2 (σ' := (180, [(5, .int (nI (dv - 1))), (9, .int vv), (8, .int oo), (7, .int (nI i)), (6, .int (nI dt)), (4, .int (nI (800 * t + 60))), (3, .int (nI (800 * t + 1 + 4 * c))), (0, .ref 185), (1, .int (nI t)), (2, .int (nI c))], [M 185 26, .long z1, .int oo, .int (nI ((dv - 1) - 1)), .ref 192], gSh, M)) rfl ?_
        rw [h26]
        refine ok_seq 1 (σ' := (182, [(5, .int (nI (dv - 1))), (9, .int vv), (8, .int oo), (7, .int (nI i)), (6, .int (nI dt)), (4, .int (nI (800 * t + 60))), (3, .int (nI (800 * t + 1 + 4 * c))), (0, .ref 185), (1, .int (nI t)), (2, .int (nI c))], [.int (nI (dv - 1)), .ref 192, .long z1, .int oo, .int (nI ((dv - 1) - 1)), .ref 192], gSh, M)) rfl ?_
        refine ok_lald (n := 330) (v := z2) rfl rfl (hI_in (by omega) (by decide)) (by rw [hI_nat (by omega)]; exact hz2) ?_
        refine ok_call (mi := 208) (as := [.int oo, .long z1, .long z2]) (pc' := 186) (L' := [(5, .int (nI (dv - 1))), (9, .int vv), (8, .int oo), (7, .int (nI i)), (6, .int (nI dt)), (4, .int (nI (800 * t + 60))), (3, .int (nI (800 * t + 1 + 4 * c))), (0, .ref 185), (1, .int (nI t)), (2, .int (nI c))]) (st' := [.int (nI ((dv - 1) - 1)), .ref 192]) (sh' := gSh) (M' := M) (i := .invokestatic 263) (len := 3) rfl rfl ?_
        refine ((hz3.deep (by omega))).mono ?_
        rintro v hp ⟨rfl, rfl⟩
        refine ok_last (n := 330) rfl rfl (hI_in (by omega) (by decide)) ?_
        rw [hI_nat (a := (dv - 1) - 1) (by omega)]
        refine ok_seq 3 (σ' := (38, [(7, .int ((nI i) + (Int32.ofInt 1))), (5, .int (nI (dv - 1))), (9, .int vv), (8, .int oo), (6, .int (nI dt)), (4, .int (nI (800 * t + 60))), (3, .int (nI (800 * t + 1 + 4 * c))), (0, .ref 185), (1, .int (nI t)), (2, .int (nI c))], [], gSh, pUp M 192 ((dv - 1) - 1) (.long z3))) rfl ?_
        rw [cI_1, hI_add i 1]
        exact ih (i + 1) (dv - 1) dt _ _ (by omega) (by omega) hD2 (by omega) (by omega) (pu192 hT hM (by omega) _) (up192 _ _) (Or.inr ⟨oo, vv, Or.inr (Or.inr (Or.inl rfl))⟩)
      · obtain ⟨z1, hz1⟩ := pt192 hT hM (k := dv - 2) (by omega)
        obtain ⟨z2, hz2⟩ := pt192 hT hM (k := dv - 2 + 1) (by omega)
        obtain ⟨z3, y1, y2, hz3⟩ := c_pure hH.2 (vs := [.int oo, .long z1, .long z2]) ⟨⟨oo, rfl, ho1, ho2⟩, sat_l _, sat_l _, trivial⟩ hM (hW.gr hg) (fun q hq => by cases hq)
        refine ok_icmp 119 rfl rfl (fun _ => ?_) (fun hz => absurd (by simp only [pCP]; rw [hI_int (a := 1) (by omega)]; omega) hz)
        refine ok_seq 2 (σ' := (122, [(9, .int vv), (8, .int oo), (7, .int (nI i)), (5, .int (nI dv)), (6, .int (nI dt)), (4, .int (nI (800 * t + 60))), (3, .int (nI (800 * t + 1 + 4 * c))), (0, .ref 185), (1, .int (nI t)), (2, .int (nI c))], [.int (Int32.ofInt 2), .int oo], gSh, M)) rfl ?_
        rw [cI_2]
        refine ok_icmp 147 rfl rfl (fun _ => ?_) (fun hz => absurd (by simp only [pCP]; rw [hI_int (a := 2) (by omega)]; omega) hz)
        refine ok_seq 2 (σ' := (151, [(9, .int vv), (8, .int oo), (7, .int (nI i)), (5, .int (nI dv)), (6, .int (nI dt)), (4, .int (nI (800 * t + 60))), (3, .int (nI (800 * t + 1 + 4 * c))), (0, .ref 185), (1, .int (nI t)), (2, .int (nI c))], [.int ((Int8.ofInt 10).toInt32), .int oo], gSh, M)) rfl ?_
        rw [(show (Int8.ofInt 10).toInt32 = nI 10 by decide)]
        refine ok_icmp 190 rfl rfl (fun _ => ?_) (fun hz => absurd (by simp only [pCP]; rw [hI_int (a := 10) (by omega)]; omega) hz)
        refine ok_seq 2 (σ' := (194, [(9, .int vv), (8, .int oo), (7, .int (nI i)), (5, .int (nI dv)), (6, .int (nI dt)), (4, .int (nI (800 * t + 60))), (3, .int (nI (800 * t + 1 + 4 * c))), (0, .ref 185), (1, .int (nI t)), (2, .int (nI c))], [.int ((Int8.ofInt 20).toInt32), .int oo], gSh, M)) rfl ?_
        rw [(show (Int8.ofInt 20).toInt32 = nI 20 by decide)]
        refine ok_icmp 234 rfl rfl (fun hz => absurd hz (by simp only [pCP]; rw [hI_int (a := 20) (by omega)]; omega)) (fun _ => ?_)
        refine ok_seq 3 (σ' := (204, [(5, .int ((nI dv) + Int32.ofInt (-2))), (9, .int vv), (8, .int oo), (7, .int (nI i)), (6, .int (nI dt)), (4, .int (nI (800 * t + 60))), (3, .int (nI (800 * t + 1 + 4 * c))), (0, .ref 185), (1, .int (nI t)), (2, .int (nI c))], [M 185 27], gSh, M)) rfl ?_
        rw [h27]
        rw [hI_d2 dv (by omega)]
        refine ok_seq 4 (σ' := (212, [(5, .int (nI (dv - 2))), (9, .int vv), (8, .int oo), (7, .int (nI i)), (6, .int (nI dt)), (4, .int (nI (800 * t + 60))), (3, .int (nI (800 * t + 1 + 4 * c))), (0, .ref 185), (1, .int (nI t)), (2, .int (nI c))], [M 185 26, .int oo, .int (nI dt), .ref 193], gSh, M)) rfl ?_
        rw [h26]
        refine ok_seq 1 (σ' := (214, [(5, .int (nI (dv - 2))), (9, .int vv), (8, .int oo), (7, .int (nI i)), (6, .int (nI dt)), (4, .int (nI (800 * t + 60))), (3, .int (nI (800 * t + 1 + 4 * c))), (0, .ref 185), (1, .int (nI t)), (2, .int (nI c))], [.int (nI (dv - 2)), .ref 192, .int oo, .int (nI dt), .ref 193], gSh, M)) rfl ?_
        refine ok_lald (n := 330) (v := z1) rfl rfl (hI_in (by omega) (by decide)) (by rw [hI_nat (by omega)]; exact hz1) ?_
        refine ok_seq 2 (σ' := (219, [(5, .int (nI (dv - 2))), (9, .int vv), (8, .int oo), (7, .int (nI i)), (6, .int (nI dt)), (4, .int (nI (800 * t + 60))), (3, .int (nI (800 * t + 1 + 4 * c))), (0, .ref 185), (1, .int (nI t)), (2, .int (nI c))], [M 185 26, .long z1, .int oo, .int (nI dt), .ref 193], gSh, M)) rfl ?_
        rw [h26]
        refine ok_seq 3 (σ' := (223, [(5, .int (nI (dv - 2))), (9, .int vv), (8, .int oo), (7, .int (nI i)), (6, .int (nI dt)), (4, .int (nI (800 * t + 60))), (3, .int (nI (800 * t + 1 + 4 * c))), (0, .ref 185), (1, .int (nI t)), (2, .int (nI c))], [.int ((nI (dv - 2)) + (Int32.ofInt 1)), .ref 192, .long z1, .int oo, .int (nI dt), .ref 193], gSh, M)) rfl ?_
        rw [cI_1, hI_add (dv - 2) 1]
        refine ok_lald (n := 330) (v := z2) rfl rfl (hI_in (by omega) (by decide)) (by rw [hI_nat (by omega)]; exact hz2) ?_
        refine ok_call (mi := 209) (as := [.int oo, .long z1, .long z2]) (pc' := 227) (L' := [(5, .int (nI (dv - 2))), (9, .int vv), (8, .int oo), (7, .int (nI i)), (6, .int (nI dt)), (4, .int (nI (800 * t + 60))), (3, .int (nI (800 * t + 1 + 4 * c))), (0, .ref 185), (1, .int (nI t)), (2, .int (nI c))]) (st' := [.int (nI dt), .ref 193]) (sh' := gSh) (M' := M) (i := .invokestatic 267) (len := 3) rfl rfl ?_
        refine ((hz3.deep (by omega))).mono ?_
        rintro v hp ⟨rfl, rfl⟩
        refine ok_bast (n := 330) rfl rfl (hI_in (by omega) (by decide)) ?_
        rw [hI_nat (a := dt) (by omega)]
        refine ok_seq 4 (σ' := (38, [(7, .int ((nI i) + (Int32.ofInt 1))), (6, .int ((nI dt) + (Int32.ofInt 1))), (5, .int (nI (dv - 2))), (9, .int vv), (8, .int oo), (4, .int (nI (800 * t + 60))), (3, .int (nI (800 * t + 1 + 4 * c))), (0, .ref 185), (1, .int (nI t)), (2, .int (nI c))], [], gSh, pUp M 193 dt (.int (z3 &&& 1)))) rfl ?_
        rw [cI_1, hI_add i 1, hI_add dt 1]
        exact ih (i + 1) (dv - 2) (dt + 1) _ _ (by omega) (by omega) hD2 (by omega) (by omega) (pu193 hT hM (by omega) (and1 _)) (up193 _ _) (Or.inr ⟨oo, vv, Or.inr (Or.inr (Or.inr (Or.inr (rfl))))⟩)
      · obtain ⟨tb, htb, hz1⟩ := pt193 hT hM (k := dt - 1) (by omega)
        refine ok_icmp 119 rfl rfl (fun _ => ?_) (fun hz => absurd (by simp only [pCP]; rw [hI_int (a := 1) (by omega)]; omega) hz)
        refine ok_seq 2 (σ' := (122, [(9, .int vv), (8, .int oo), (7, .int (nI i)), (5, .int (nI dv)), (6, .int (nI dt)), (4, .int (nI (800 * t + 60))), (3, .int (nI (800 * t + 1 + 4 * c))), (0, .ref 185), (1, .int (nI t)), (2, .int (nI c))], [.int (Int32.ofInt 2), .int oo], gSh, M)) rfl ?_
        rw [cI_2]
        refine ok_icmp 147 rfl rfl (fun _ => ?_) (fun hz => absurd (by simp only [pCP]; rw [hI_int (a := 2) (by omega)]; omega) hz)
        refine ok_seq 2 (σ' := (151, [(9, .int vv), (8, .int oo), (7, .int (nI i)), (5, .int (nI dv)), (6, .int (nI dt)), (4, .int (nI (800 * t + 60))), (3, .int (nI (800 * t + 1 + 4 * c))), (0, .ref 185), (1, .int (nI t)), (2, .int (nI c))], [.int ((Int8.ofInt 10).toInt32), .int oo], gSh, M)) rfl ?_
        rw [(show (Int8.ofInt 10).toInt32 = nI 10 by decide)]
        refine ok_icmp 190 rfl rfl (fun _ => ?_) (fun hz => absurd (by simp only [pCP]; rw [hI_int (a := 10) (by omega)]; omega) hz)
        refine ok_seq 2 (σ' := (194, [(9, .int vv), (8, .int oo), (7, .int (nI i)), (5, .int (nI dv)), (6, .int (nI dt)), (4, .int (nI (800 * t + 60))), (3, .int (nI (800 * t + 1 + 4 * c))), (0, .ref 185), (1, .int (nI t)), (2, .int (nI c))], [.int ((Int8.ofInt 20).toInt32), .int oo], gSh, M)) rfl ?_
        rw [(show (Int8.ofInt 20).toInt32 = nI 20 by decide)]
        refine ok_icmp 234 rfl rfl (fun _ => ?_) (fun hz => absurd (by simp only [pCP]; rw [hI_int (a := 20) (by omega)]; omega) hz)
        refine ok_seq 2 (σ' := (238, [(9, .int vv), (8, .int oo), (7, .int (nI i)), (5, .int (nI dv)), (6, .int (nI dt)), (4, .int (nI (800 * t + 60))), (3, .int (nI (800 * t + 1 + 4 * c))), (0, .ref 185), (1, .int (nI t)), (2, .int (nI c))], [.int ((Int8.ofInt 20).toInt32), .int oo], gSh, M)) rfl ?_
        rw [(show (Int8.ofInt 20).toInt32 = nI 20 by decide)]
        refine ok_icmp 270 rfl rfl (fun hz => absurd hz (by simp only [pCP]; rw [hI_int (a := 20) (by omega)]; omega)) (fun _ => ?_)
        refine ok_seq 2 (σ' := (245, [(9, .int vv), (8, .int oo), (7, .int (nI i)), (5, .int (nI dv)), (6, .int (nI dt)), (4, .int (nI (800 * t + 60))), (3, .int (nI (800 * t + 1 + 4 * c))), (0, .ref 185), (1, .int (nI t)), (2, .int (nI c))], [M 185 27], gSh, M)) rfl ?_
        rw [h27]
        refine ok_seq 5 (σ' := (253, [(9, .int vv), (8, .int oo), (7, .int (nI i)), (5, .int (nI dv)), (6, .int (nI dt)), (4, .int (nI (800 * t + 60))), (3, .int (nI (800 * t + 1 + 4 * c))), (0, .ref 185), (1, .int (nI t)), (2, .int (nI c))], [M 185 27, .int ((nI dt) - (Int32.ofInt 1)), .ref 193], gSh, M)) rfl ?_
        rw [h27]
        rw [cI_1, hI_sub dt 1 (by omega)]
        refine ok_seq 3 (σ' := (257, [(9, .int vv), (8, .int oo), (7, .int (nI i)), (5, .int (nI dv)), (6, .int (nI dt)), (4, .int (nI (800 * t + 60))), (3, .int (nI (800 * t + 1 + 4 * c))), (0, .ref 185), (1, .int (nI t)), (2, .int (nI c))], [.int ((nI dt) - (Int32.ofInt 1)), .ref 193, .int (nI (dt - 1)), .ref 193], gSh, M)) rfl ?_
        rw [cI_1, hI_sub dt 1 (by omega)]
        refine ok_bald (n := 330) (v := nI tb) rfl rfl (hI_in (by omega) (by decide)) (by rw [hI_nat (by omega)]; exact hz1) ?_
        refine ok_if 265 rfl rfl ?_ ?_
        · intro hb
          simp only [pCP] at hb
          rw [hI_int (a := tb) (by omega)] at hb
          have hb : ((tb : Nat) : Int) ≠ (0 : Int) := by omega
          refine ok_seq 1 (σ' := (266, [(9, .int vv), (8, .int oo), (7, .int (nI i)), (5, .int (nI dv)), (6, .int (nI dt)), (4, .int (nI (800 * t + 60))), (3, .int (nI (800 * t + 1 + 4 * c))), (0, .ref 185), (1, .int (nI t)), (2, .int (nI c))], [.int (Int32.ofInt 0), .int (nI (dt - 1)), .ref 193], gSh, M)) rfl ?_
          rw [cI_0]
          refine ok_bast (n := 330) rfl rfl (hI_in (by omega) (by decide)) ?_
          rw [hI_nat (a := dt - 1) (by omega)]
          refine ok_seq 3 (σ' := (38, [(7, .int ((nI i) + (Int32.ofInt 1))), (9, .int vv), (8, .int oo), (5, .int (nI dv)), (6, .int (nI dt)), (4, .int (nI (800 * t + 60))), (3, .int (nI (800 * t + 1 + 4 * c))), (0, .ref 185), (1, .int (nI t)), (2, .int (nI c))], [], gSh, pUp M 193 (dt - 1) (.int ((nI 0) &&& 1)))) rfl ?_
          rw [cI_1, hI_add i 1]
          exact ih (i + 1) dv dt _ _ (by omega) (by omega) hD2 (by omega) (by omega) (pu193 hT hM (by omega) (and1 _)) (up193 _ _) (Or.inr ⟨oo, vv, Or.inl rfl⟩)
        · intro hb
          simp only [pCP] at hb
          rw [hI_int (a := tb) (by omega)] at hb
          have hb : ((tb : Nat) : Int) = (0 : Int) := by omega
          refine ok_seq 2 (σ' := (266, [(9, .int vv), (8, .int oo), (7, .int (nI i)), (5, .int (nI dv)), (6, .int (nI dt)), (4, .int (nI (800 * t + 60))), (3, .int (nI (800 * t + 1 + 4 * c))), (0, .ref 185), (1, .int (nI t)), (2, .int (nI c))], [.int (Int32.ofInt 1), .int (nI (dt - 1)), .ref 193], gSh, M)) rfl ?_
          rw [cI_1]
          refine ok_bast (n := 330) rfl rfl (hI_in (by omega) (by decide)) ?_
          rw [hI_nat (a := dt - 1) (by omega)]
          refine ok_seq 3 (σ' := (38, [(7, .int ((nI i) + (Int32.ofInt 1))), (9, .int vv), (8, .int oo), (5, .int (nI dv)), (6, .int (nI dt)), (4, .int (nI (800 * t + 60))), (3, .int (nI (800 * t + 1 + 4 * c))), (0, .ref 185), (1, .int (nI t)), (2, .int (nI c))], [], gSh, pUp M 193 (dt - 1) (.int ((nI 1) &&& 1)))) rfl ?_
          rw [cI_1, hI_add i 1]
          exact ih (i + 1) dv dt _ _ (by omega) (by omega) hD2 (by omega) (by omega) (pu193 hT hM (by omega) (and1 _)) (up193 _ _) (Or.inr ⟨oo, vv, Or.inl rfl⟩)
      · obtain ⟨ta, hta, hz1⟩ := pt193 hT hM (k := dt - 1 - 1) (by omega)
        obtain ⟨tb, htb, hz2⟩ := pt193 hT hM (k := dt - 1) (by omega)
        refine ok_icmp 119 rfl rfl (fun _ => ?_) (fun hz => absurd (by simp only [pCP]; rw [hI_int (a := 1) (by omega)]; omega) hz)
        refine ok_seq 2 (σ' := (122, [(9, .int vv), (8, .int oo), (7, .int (nI i)), (5, .int (nI dv)), (6, .int (nI dt)), (4, .int (nI (800 * t + 60))), (3, .int (nI (800 * t + 1 + 4 * c))), (0, .ref 185), (1, .int (nI t)), (2, .int (nI c))], [.int (Int32.ofInt 2), .int oo], gSh, M)) rfl ?_
        rw [cI_2]
        refine ok_icmp 147 rfl rfl (fun _ => ?_) (fun hz => absurd (by simp only [pCP]; rw [hI_int (a := 2) (by omega)]; omega) hz)
        refine ok_seq 2 (σ' := (151, [(9, .int vv), (8, .int oo), (7, .int (nI i)), (5, .int (nI dv)), (6, .int (nI dt)), (4, .int (nI (800 * t + 60))), (3, .int (nI (800 * t + 1 + 4 * c))), (0, .ref 185), (1, .int (nI t)), (2, .int (nI c))], [.int ((Int8.ofInt 10).toInt32), .int oo], gSh, M)) rfl ?_
        rw [(show (Int8.ofInt 10).toInt32 = nI 10 by decide)]
        refine ok_icmp 190 rfl rfl (fun _ => ?_) (fun hz => absurd (by simp only [pCP]; rw [hI_int (a := 10) (by omega)]; omega) hz)
        refine ok_seq 2 (σ' := (194, [(9, .int vv), (8, .int oo), (7, .int (nI i)), (5, .int (nI dv)), (6, .int (nI dt)), (4, .int (nI (800 * t + 60))), (3, .int (nI (800 * t + 1 + 4 * c))), (0, .ref 185), (1, .int (nI t)), (2, .int (nI c))], [.int ((Int8.ofInt 20).toInt32), .int oo], gSh, M)) rfl ?_
        rw [(show (Int8.ofInt 20).toInt32 = nI 20 by decide)]
        refine ok_icmp 234 rfl rfl (fun _ => ?_) (fun hz => absurd (by simp only [pCP]; rw [hI_int (a := 20) (by omega)]; omega) hz)
        refine ok_seq 2 (σ' := (238, [(9, .int vv), (8, .int oo), (7, .int (nI i)), (5, .int (nI dv)), (6, .int (nI dt)), (4, .int (nI (800 * t + 60))), (3, .int (nI (800 * t + 1 + 4 * c))), (0, .ref 185), (1, .int (nI t)), (2, .int (nI c))], [.int ((Int8.ofInt 20).toInt32), .int oo], gSh, M)) rfl ?_
        rw [(show (Int8.ofInt 20).toInt32 = nI 20 by decide)]
        refine ok_icmp 270 rfl rfl (fun _ => ?_) (fun hz => absurd (by simp only [pCP]; rw [hI_int (a := 20) (by omega)]; omega) hz)
        refine ok_seq 3 (σ' := (277, [(6, .int ((nI dt) + Int32.ofInt (-1))), (9, .int vv), (8, .int oo), (7, .int (nI i)), (5, .int (nI dv)), (4, .int (nI (800 * t + 60))), (3, .int (nI (800 * t + 1 + 4 * c))), (0, .ref 185), (1, .int (nI t)), (2, .int (nI c))], [M 185 27], gSh, M)) rfl ?_
        rw [h27]
        rw [hI_d1 dt (by omega)]
        refine ok_seq 5 (σ' := (285, [(6, .int (nI (dt - 1))), (9, .int vv), (8, .int oo), (7, .int (nI i)), (5, .int (nI dv)), (4, .int (nI (800 * t + 60))), (3, .int (nI (800 * t + 1 + 4 * c))), (0, .ref 185), (1, .int (nI t)), (2, .int (nI c))], [.int ((Int8.ofInt 21).toInt32), .int oo, .int ((nI (dt - 1)) - (Int32.ofInt 1)), .ref 193], gSh, M)) rfl ?_
        rw [cI_1, hI_sub (dt - 1) 1 (by omega), (show (Int8.ofInt 21).toInt32 = nI 21 by decide)]
        refine ok_icmp 318 rfl rfl ?_ ?_
        · intro hao
          simp only [pCP] at hao
          rw [hI_int (a := 21) (by omega)] at hao
          have hao : (oo).toInt ≠ ((21 : Nat) : Int) := by omega
          refine ok_seq 2 (σ' := (322, [(6, .int (nI (dt - 1))), (9, .int vv), (8, .int oo), (7, .int (nI i)), (5, .int (nI dv)), (4, .int (nI (800 * t + 60))), (3, .int (nI (800 * t + 1 + 4 * c))), (0, .ref 185), (1, .int (nI t)), (2, .int (nI c))], [M 185 27, .int (nI ((dt - 1) - 1)), .ref 193], gSh, M)) rfl ?_
          rw [h27]
          refine ok_seq 3 (σ' := (326, [(6, .int (nI (dt - 1))), (9, .int vv), (8, .int oo), (7, .int (nI i)), (5, .int (nI dv)), (4, .int (nI (800 * t + 60))), (3, .int (nI (800 * t + 1 + 4 * c))), (0, .ref 185), (1, .int (nI t)), (2, .int (nI c))], [.int ((nI (dt - 1)) - (Int32.ofInt 1)), .ref 193, .int (nI ((dt - 1) - 1)), .ref 193], gSh, M)) rfl ?_
          rw [cI_1, hI_sub (dt - 1) 1 (by omega)]
          refine ok_bald (n := 330) (v := nI ta) rfl rfl (hI_in (by omega) (by decide)) (by rw [hI_nat (by omega)]; exact hz1) ?_
          refine ok_if 340 rfl rfl ?_ ?_
          · intro hb1
            simp only [pCP] at hb1
            rw [hI_int (a := ta) (by omega)] at hb1
            have hb1 : ((ta : Nat) : Int) ≠ (0 : Int) := by omega
            refine ok_seq 2 (σ' := (345, [(6, .int (nI (dt - 1))), (9, .int vv), (8, .int oo), (7, .int (nI i)), (5, .int (nI dv)), (4, .int (nI (800 * t + 60))), (3, .int (nI (800 * t + 1 + 4 * c))), (0, .ref 185), (1, .int (nI t)), (2, .int (nI c))], [.int (Int32.ofInt 1), .int (nI ((dt - 1) - 1)), .ref 193], gSh, M)) rfl ?_
            rw [cI_1]
            refine ok_bast (n := 330) rfl rfl (hI_in (by omega) (by decide)) ?_
            rw [hI_nat (a := (dt - 1) - 1) (by omega)]
            refine ok_seq 2 (σ' := (38, [(7, .int ((nI i) + (Int32.ofInt 1))), (6, .int (nI (dt - 1))), (9, .int vv), (8, .int oo), (5, .int (nI dv)), (4, .int (nI (800 * t + 60))), (3, .int (nI (800 * t + 1 + 4 * c))), (0, .ref 185), (1, .int (nI t)), (2, .int (nI c))], [], gSh, pUp M 193 ((dt - 1) - 1) (.int ((nI 1) &&& 1)))) rfl ?_
            rw [cI_1, hI_add i 1]
            exact ih (i + 1) dv (dt - 1) _ _ (by omega) (by omega) hD2 (by omega) (by omega) (pu193 hT hM (by omega) (and1 _)) (up193 _ _) (Or.inr ⟨oo, vv, Or.inr (Or.inr (Or.inr (Or.inl rfl)))⟩)
          · intro hb1
            simp only [pCP] at hb1
            rw [hI_int (a := ta) (by omega)] at hb1
            have hb1 : ((ta : Nat) : Int) = (0 : Int) := by omega
            refine ok_seq 2 (σ' := (334, [(6, .int (nI (dt - 1))), (9, .int vv), (8, .int oo), (7, .int (nI i)), (5, .int (nI dv)), (4, .int (nI (800 * t + 60))), (3, .int (nI (800 * t + 1 + 4 * c))), (0, .ref 185), (1, .int (nI t)), (2, .int (nI c))], [M 185 27, .int (nI ((dt - 1) - 1)), .ref 193], gSh, M)) rfl ?_
            rw [h27]
            refine ok_seq 1 (σ' := (336, [(6, .int (nI (dt - 1))), (9, .int vv), (8, .int oo), (7, .int (nI i)), (5, .int (nI dv)), (4, .int (nI (800 * t + 60))), (3, .int (nI (800 * t + 1 + 4 * c))), (0, .ref 185), (1, .int (nI t)), (2, .int (nI c))], [.int (nI (dt - 1)), .ref 193, .int (nI ((dt - 1) - 1)), .ref 193], gSh, M)) rfl ?_
            refine ok_bald (n := 330) (v := nI tb) rfl rfl (hI_in (by omega) (by decide)) (by rw [hI_nat (by omega)]; exact hz2) ?_
            refine ok_if 344 rfl rfl ?_ ?_
            · intro hb2
              simp only [pCP] at hb2
              rw [hI_int (a := tb) (by omega)] at hb2
              have hb2 : ((tb : Nat) : Int) = (0 : Int) := by omega
              refine ok_seq 1 (σ' := (345, [(6, .int (nI (dt - 1))), (9, .int vv), (8, .int oo), (7, .int (nI i)), (5, .int (nI dv)), (4, .int (nI (800 * t + 60))), (3, .int (nI (800 * t + 1 + 4 * c))), (0, .ref 185), (1, .int (nI t)), (2, .int (nI c))], [.int (Int32.ofInt 0), .int (nI ((dt - 1) - 1)), .ref 193], gSh, M)) rfl ?_
              rw [cI_0]
              refine ok_bast (n := 330) rfl rfl (hI_in (by omega) (by decide)) ?_
              rw [hI_nat (a := (dt - 1) - 1) (by omega)]
              refine ok_seq 2 (σ' := (38, [(7, .int ((nI i) + (Int32.ofInt 1))), (6, .int (nI (dt - 1))), (9, .int vv), (8, .int oo), (5, .int (nI dv)), (4, .int (nI (800 * t + 60))), (3, .int (nI (800 * t + 1 + 4 * c))), (0, .ref 185), (1, .int (nI t)), (2, .int (nI c))], [], gSh, pUp M 193 ((dt - 1) - 1) (.int ((nI 0) &&& 1)))) rfl ?_
              rw [cI_1, hI_add i 1]
              exact ih (i + 1) dv (dt - 1) _ _ (by omega) (by omega) hD2 (by omega) (by omega) (pu193 hT hM (by omega) (and1 _)) (up193 _ _) (Or.inr ⟨oo, vv, Or.inr (Or.inr (Or.inr (Or.inl rfl)))⟩)
            · intro hb2
              simp only [pCP] at hb2
              rw [hI_int (a := tb) (by omega)] at hb2
              have hb2 : ((tb : Nat) : Int) ≠ (0 : Int) := by omega
              refine ok_seq 2 (σ' := (345, [(6, .int (nI (dt - 1))), (9, .int vv), (8, .int oo), (7, .int (nI i)), (5, .int (nI dv)), (4, .int (nI (800 * t + 60))), (3, .int (nI (800 * t + 1 + 4 * c))), (0, .ref 185), (1, .int (nI t)), (2, .int (nI c))], [.int (Int32.ofInt 1), .int (nI ((dt - 1) - 1)), .ref 193], gSh, M)) rfl ?_
              rw [cI_1]
              refine ok_bast (n := 330) rfl rfl (hI_in (by omega) (by decide)) ?_
              rw [hI_nat (a := (dt - 1) - 1) (by omega)]
              refine ok_seq 2 (σ' := (38, [(7, .int ((nI i) + (Int32.ofInt 1))), (6, .int (nI (dt - 1))), (9, .int vv), (8, .int oo), (5, .int (nI dv)), (4, .int (nI (800 * t + 60))), (3, .int (nI (800 * t + 1 + 4 * c))), (0, .ref 185), (1, .int (nI t)), (2, .int (nI c))], [], gSh, pUp M 193 ((dt - 1) - 1) (.int ((nI 1) &&& 1)))) rfl ?_
              rw [cI_1, hI_add i 1]
              exact ih (i + 1) dv (dt - 1) _ _ (by omega) (by omega) hD2 (by omega) (by omega) (pu193 hT hM (by omega) (and1 _)) (up193 _ _) (Or.inr ⟨oo, vv, Or.inr (Or.inr (Or.inr (Or.inl rfl)))⟩)
        · intro hao
          simp only [pCP] at hao
          rw [hI_int (a := 21) (by omega)] at hao
          have hao : (oo).toInt = ((21 : Nat) : Int) := by omega
          refine ok_seq 2 (σ' := (292, [(6, .int (nI (dt - 1))), (9, .int vv), (8, .int oo), (7, .int (nI i)), (5, .int (nI dv)), (4, .int (nI (800 * t + 60))), (3, .int (nI (800 * t + 1 + 4 * c))), (0, .ref 185), (1, .int (nI t)), (2, .int (nI c))], [M 185 27, .int (nI ((dt - 1) - 1)), .ref 193], gSh, M)) rfl ?_
          rw [h27]
          refine ok_seq 3 (σ' := (296, [(6, .int (nI (dt - 1))), (9, .int vv), (8, .int oo), (7, .int (nI i)), (5, .int (nI dv)), (4, .int (nI (800 * t + 60))), (3, .int (nI (800 * t + 1 + 4 * c))), (0, .ref 185), (1, .int (nI t)), (2, .int (nI c))], [.int ((nI (dt - 1)) - (Int32.ofInt 1)), .ref 193, .int (nI ((dt - 1) - 1)), .ref 193], gSh, M)) rfl ?_
          rw [cI_1, hI_sub (dt - 1) 1 (by omega)]
          refine ok_bald (n := 330) (v := nI ta) rfl rfl (hI_in (by omega) (by decide)) (by rw [hI_nat (by omega)]; exact hz1) ?_
          refine ok_if 314 rfl rfl ?_ ?_
          · intro hb1
            simp only [pCP] at hb1
            rw [hI_int (a := ta) (by omega)] at hb1
            have hb1 : ((ta : Nat) : Int) = (0 : Int) := by omega
            refine ok_seq 2 (σ' := (345, [(6, .int (nI (dt - 1))), (9, .int vv), (8, .int oo), (7, .int (nI i)), (5, .int (nI dv)), (4, .int (nI (800 * t + 60))), (3, .int (nI (800 * t + 1 + 4 * c))), (0, .ref 185), (1, .int (nI t)), (2, .int (nI c))], [.int (Int32.ofInt 0), .int (nI ((dt - 1) - 1)), .ref 193], gSh, M)) rfl ?_
            rw [cI_0]
            refine ok_bast (n := 330) rfl rfl (hI_in (by omega) (by decide)) ?_
            rw [hI_nat (a := (dt - 1) - 1) (by omega)]
            refine ok_seq 2 (σ' := (38, [(7, .int ((nI i) + (Int32.ofInt 1))), (6, .int (nI (dt - 1))), (9, .int vv), (8, .int oo), (5, .int (nI dv)), (4, .int (nI (800 * t + 60))), (3, .int (nI (800 * t + 1 + 4 * c))), (0, .ref 185), (1, .int (nI t)), (2, .int (nI c))], [], gSh, pUp M 193 ((dt - 1) - 1) (.int ((nI 0) &&& 1)))) rfl ?_
            rw [cI_1, hI_add i 1]
            exact ih (i + 1) dv (dt - 1) _ _ (by omega) (by omega) hD2 (by omega) (by omega) (pu193 hT hM (by omega) (and1 _)) (up193 _ _) (Or.inr ⟨oo, vv, Or.inr (Or.inr (Or.inr (Or.inl rfl)))⟩)
          · intro hb1
            simp only [pCP] at hb1
            rw [hI_int (a := ta) (by omega)] at hb1
            have hb1 : ((ta : Nat) : Int) ≠ (0 : Int) := by omega
            refine ok_seq 2 (σ' := (304, [(6, .int (nI (dt - 1))), (9, .int vv), (8, .int oo), (7, .int (nI i)), (5, .int (nI dv)), (4, .int (nI (800 * t + 60))), (3, .int (nI (800 * t + 1 + 4 * c))), (0, .ref 185), (1, .int (nI t)), (2, .int (nI c))], [M 185 27, .int (nI ((dt - 1) - 1)), .ref 193], gSh, M)) rfl ?_
            rw [h27]
            refine ok_seq 1 (σ' := (306, [(6, .int (nI (dt - 1))), (9, .int vv), (8, .int oo), (7, .int (nI i)), (5, .int (nI dv)), (4, .int (nI (800 * t + 60))), (3, .int (nI (800 * t + 1 + 4 * c))), (0, .ref 185), (1, .int (nI t)), (2, .int (nI c))], [.int (nI (dt - 1)), .ref 193, .int (nI ((dt - 1) - 1)), .ref 193], gSh, M)) rfl ?_
            refine ok_bald (n := 330) (v := nI tb) rfl rfl (hI_in (by omega) (by decide)) (by rw [hI_nat (by omega)]; exact hz2) ?_
            refine ok_if 314 rfl rfl ?_ ?_
            · intro hb2
              simp only [pCP] at hb2
              rw [hI_int (a := tb) (by omega)] at hb2
              have hb2 : ((tb : Nat) : Int) = (0 : Int) := by omega
              refine ok_seq 2 (σ' := (345, [(6, .int (nI (dt - 1))), (9, .int vv), (8, .int oo), (7, .int (nI i)), (5, .int (nI dv)), (4, .int (nI (800 * t + 60))), (3, .int (nI (800 * t + 1 + 4 * c))), (0, .ref 185), (1, .int (nI t)), (2, .int (nI c))], [.int (Int32.ofInt 0), .int (nI ((dt - 1) - 1)), .ref 193], gSh, M)) rfl ?_
              rw [cI_0]
              refine ok_bast (n := 330) rfl rfl (hI_in (by omega) (by decide)) ?_
              rw [hI_nat (a := (dt - 1) - 1) (by omega)]
              refine ok_seq 2 (σ' := (38, [(7, .int ((nI i) + (Int32.ofInt 1))), (6, .int (nI (dt - 1))), (9, .int vv), (8, .int oo), (5, .int (nI dv)), (4, .int (nI (800 * t + 60))), (3, .int (nI (800 * t + 1 + 4 * c))), (0, .ref 185), (1, .int (nI t)), (2, .int (nI c))], [], gSh, pUp M 193 ((dt - 1) - 1) (.int ((nI 0) &&& 1)))) rfl ?_
              rw [cI_1, hI_add i 1]
              exact ih (i + 1) dv (dt - 1) _ _ (by omega) (by omega) hD2 (by omega) (by omega) (pu193 hT hM (by omega) (and1 _)) (up193 _ _) (Or.inr ⟨oo, vv, Or.inr (Or.inr (Or.inr (Or.inl rfl)))⟩)
            · intro hb2
              simp only [pCP] at hb2
              rw [hI_int (a := tb) (by omega)] at hb2
              have hb2 : ((tb : Nat) : Int) ≠ (0 : Int) := by omega
              refine ok_seq 2 (σ' := (345, [(6, .int (nI (dt - 1))), (9, .int vv), (8, .int oo), (7, .int (nI i)), (5, .int (nI dv)), (4, .int (nI (800 * t + 60))), (3, .int (nI (800 * t + 1 + 4 * c))), (0, .ref 185), (1, .int (nI t)), (2, .int (nI c))], [.int (Int32.ofInt 1), .int (nI ((dt - 1) - 1)), .ref 193], gSh, M)) rfl ?_
              rw [cI_1]
              refine ok_bast (n := 330) rfl rfl (hI_in (by omega) (by decide)) ?_
              rw [hI_nat (a := (dt - 1) - 1) (by omega)]
              refine ok_seq 2 (σ' := (38, [(7, .int ((nI i) + (Int32.ofInt 1))), (6, .int (nI (dt - 1))), (9, .int vv), (8, .int oo), (5, .int (nI dv)), (4, .int (nI (800 * t + 60))), (3, .int (nI (800 * t + 1 + 4 * c))), (0, .ref 185), (1, .int (nI t)), (2, .int (nI c))], [], gSh, pUp M 193 ((dt - 1) - 1) (.int ((nI 1) &&& 1)))) rfl ?_
              rw [cI_1, hI_add i 1]
              exact ih (i + 1) dv (dt - 1) _ _ (by omega) (by omega) hD2 (by omega) (by omega) (pu193 hT hM (by omega) (and1 _)) (up193 _ _) (Or.inr ⟨oo, vv, Or.inr (Or.inr (Or.inr (Or.inl rfl)))⟩)
    · refine ok_seq 3 (σ' := (44, [(7, .int (nI i)), (6, .int (nI dt)), (9, .int y9), (8, .int y8), (5, .int (nI dv)), (4, .int (nI (800 * t + 60))), (3, .int (nI (800 * t + 1 + 4 * c))), (0, .ref 185), (1, .int (nI t)), (2, .int (nI c))], [M 185 5, .int (nI i)], gSh, M)) rfl ?_
      rw [h5]
      refine ok_seq 3 (σ' := (47, [(7, .int (nI i)), (6, .int (nI dt)), (9, .int y9), (8, .int y8), (5, .int (nI dv)), (4, .int (nI (800 * t + 60))), (3, .int (nI (800 * t + 1 + 4 * c))), (0, .ref 185), (1, .int (nI t)), (2, .int (nI c))], [.int ((nI (800 * t + 1 + 4 * c)) + (Int32.ofInt 3)), .ref 188, .int (nI i)], gSh, M)) rfl ?_
      rw [cI_3, hI_add (800 * t + 1 + 4 * c) 3]
      refine ok_iald (n := 3200) (v := nI j) rfl rfl (hI_in (by omega) (by decide)) (by rw [hI_nat (by omega)]; exact hj) ?_
      refine ok_icmp 352 rfl rfl (fun hz => absurd hz (by simp only [pCP]; rw [hI_int (a := i) (by omega), hI_int (a := j) (by omega)]; omega)) (fun _ => ?_)
      refine ok_seq 2 (σ' := (55, [(7, .int (nI i)), (6, .int (nI dt)), (9, .int y9), (8, .int y8), (5, .int (nI dv)), (4, .int (nI (800 * t + 60))), (3, .int (nI (800 * t + 1 + 4 * c))), (0, .ref 185), (1, .int (nI t)), (2, .int (nI c))], [M 185 5], gSh, M)) rfl ?_
      rw [h5]
      refine ok_seq 5 (σ' := (62, [(7, .int (nI i)), (6, .int (nI dt)), (9, .int y9), (8, .int y8), (5, .int (nI dv)), (4, .int (nI (800 * t + 60))), (3, .int (nI (800 * t + 1 + 4 * c))), (0, .ref 185), (1, .int (nI t)), (2, .int (nI c))], [.int ((nI (800 * t + 60)) + ((Int32.ofInt 2) * (nI i))), .ref 188], gSh, M)) rfl ?_
      rw [cI_2, hI_mul 2 i, hI_add (800 * t + 60) (2 * i)]
      refine ok_iald (n := 3200) (v := oo) rfl rfl (hI_in (by omega) (by decide)) (by rw [hI_nat (by omega)]; exact ho) ?_
      refine ok_seq 3 (σ' := (69, [(8, .int oo), (7, .int (nI i)), (6, .int (nI dt)), (9, .int y9), (5, .int (nI dv)), (4, .int (nI (800 * t + 60))), (3, .int (nI (800 * t + 1 + 4 * c))), (0, .ref 185), (1, .int (nI t)), (2, .int (nI c))], [M 185 5], gSh, M)) rfl ?_
      rw [h5]
      refine ok_seq 7 (σ' := (78, [(8, .int oo), (7, .int (nI i)), (6, .int (nI dt)), (9, .int y9), (5, .int (nI dv)), (4, .int (nI (800 * t + 60))), (3, .int (nI (800 * t + 1 + 4 * c))), (0, .ref 185), (1, .int (nI t)), (2, .int (nI c))], [.int (((nI (800 * t + 60)) + ((Int32.ofInt 2) * (nI i))) + (Int32.ofInt 1)), .ref 188], gSh, M)) rfl ?_
      rw [cI_2, hI_mul 2 i, hI_add (800 * t + 60) (2 * i), cI_1, hI_add ((800 * t + 60) + (2 * i)) 1]
      refine ok_iald (n := 3200) (v := vv) rfl rfl (hI_in (by omega) (by decide)) (by rw [hI_nat (by omega)]; exact hvv) ?_
      refine ok_seq 3 (σ' := (84, [(9, .int vv), (8, .int oo), (7, .int (nI i)), (6, .int (nI dt)), (5, .int (nI dv)), (4, .int (nI (800 * t + 60))), (3, .int (nI (800 * t + 1 + 4 * c))), (0, .ref 185), (1, .int (nI t)), (2, .int (nI c))], [.int (Int32.ofInt 1), .int oo], gSh, M)) rfl ?_
      rw [cI_1]
      rcases hop with ⟨ho1, hD2⟩ | ⟨ho1, hv1, hv2, hD2⟩ | ⟨ho1, ho3, hD2⟩ | ⟨ho1, ho2, ho3, hD2⟩ | ⟨ho1, ho2, ho3, hD2⟩ | ⟨ho1, ho3, hD2⟩ | ⟨ho1, ho2, ho3, hD2⟩
      · refine ok_icmp 119 rfl rfl (fun hz => absurd hz (by simp only [pCP]; rw [hI_int (a := 1) (by omega)]; omega)) (fun _ => ?_)
        refine ok_seq 2 (σ' := (91, [(9, .int vv), (8, .int oo), (7, .int (nI i)), (6, .int (nI dt)), (5, .int (nI dv)), (4, .int (nI (800 * t + 60))), (3, .int (nI (800 * t + 1 + 4 * c))), (0, .ref 185), (1, .int (nI t)), (2, .int (nI c))], [M 185 26], gSh, M)) rfl ?_
        rw [h26]
        refine ok_seq 2 (σ' := (95, [(9, .int vv), (8, .int oo), (7, .int (nI i)), (6, .int (nI dt)), (5, .int (nI dv)), (4, .int (nI (800 * t + 60))), (3, .int (nI (800 * t + 1 + 4 * c))), (0, .ref 185), (1, .int (nI t)), (2, .int (nI c))], [.int oo, .int (nI dv), .ref 192], gSh, M)) rfl ?_
        refine ok_if 104 rfl rfl (fun hz => absurd hz (by simp only [pCP]; omega)) (fun _ => ?_)
        refine ok_seq 3 (σ' := (112, [(9, .int vv), (8, .int oo), (7, .int (nI i)), (6, .int (nI dt)), (5, .int (nI dv)), (4, .int (nI (800 * t + 60))), (3, .int (nI (800 * t + 1 + 4 * c))), (0, .ref 185), (1, .int (nI t)), (2, .int (nI c))], [.long ((vv).toInt64), .int (nI dv), .ref 192], gSh, M)) rfl ?_
        refine ok_last (n := 330) rfl rfl (hI_in (by omega) (by decide)) ?_
        rw [hI_nat (a := dv) (by omega)]
        refine ok_seq 4 (σ' := (38, [(7, .int ((nI i) + (Int32.ofInt 1))), (5, .int ((nI dv) + (Int32.ofInt 1))), (9, .int vv), (8, .int oo), (6, .int (nI dt)), (4, .int (nI (800 * t + 60))), (3, .int (nI (800 * t + 1 + 4 * c))), (0, .ref 185), (1, .int (nI t)), (2, .int (nI c))], [], gSh, pUp M 192 dv (.long ((vv).toInt64)))) rfl ?_
        rw [cI_1, hI_add i 1, hI_add dv 1]
        exact ih (i + 1) (dv + 1) dt _ _ (by omega) (by omega) hD2 (by omega) (by omega) (pu192 hT hM (by omega) _) (up192 _ _) (Or.inr ⟨oo, vv, Or.inr (Or.inr (Or.inl rfl))⟩)
      · obtain ⟨vn, hvn, evn⟩ := ty_nat (x := []) (hi := 10) ⟨vv, rfl, hv1, hv2⟩
        cases evn
        obtain ⟨nz, hnz⟩ := pt191 hT hM (k := vn) (by omega)
        refine ok_icmp 119 rfl rfl (fun hz => absurd hz (by simp only [pCP]; rw [hI_int (a := 1) (by omega)]; omega)) (fun _ => ?_)
        refine ok_seq 2 (σ' := (91, [(9, .int (nI vn)), (8, .int oo), (7, .int (nI i)), (6, .int (nI dt)), (5, .int (nI dv)), (4, .int (nI (800 * t + 60))), (3, .int (nI (800 * t + 1 + 4 * c))), (0, .ref 185), (1, .int (nI t)), (2, .int (nI c))], [M 185 26], gSh, M)) rfl ?_
        rw [h26]
        refine ok_seq 2 (σ' := (95, [(9, .int (nI vn)), (8, .int oo), (7, .int (nI i)), (6, .int (nI dt)), (5, .int (nI dv)), (4, .int (nI (800 * t + 60))), (3, .int (nI (800 * t + 1 + 4 * c))), (0, .ref 185), (1, .int (nI t)), (2, .int (nI c))], [.int oo, .int (nI dv), .ref 192], gSh, M)) rfl ?_
        refine ok_if 104 rfl rfl (fun _ => ?_) (fun hz => absurd (by simp only [pCP]; omega) hz)
        refine ok_seq 2 (σ' := (108, [(9, .int (nI vn)), (8, .int oo), (7, .int (nI i)), (6, .int (nI dt)), (5, .int (nI dv)), (4, .int (nI (800 * t + 60))), (3, .int (nI (800 * t + 1 + 4 * c))), (0, .ref 185), (1, .int (nI t)), (2, .int (nI c))], [M 185 25, .int (nI dv), .ref 192], gSh, M)) rfl ?_
        rw [h25]
        refine ok_seq 1 (σ' := (110, [(9, .int (nI vn)), (8, .int oo), (7, .int (nI i)), (6, .int (nI dt)), (5, .int (nI dv)), (4, .int (nI (800 * t + 60))), (3, .int (nI (800 * t + 1 + 4 * c))), (0, .ref 185), (1, .int (nI t)), (2, .int (nI c))], [.int (nI vn), .ref 191, .int (nI dv), .ref 192], gSh, M)) rfl ?_
        refine ok_iald (n := 11) (v := nz) rfl rfl (hI_in (by omega) (by decide)) (by rw [hI_nat (by omega)]; exact hnz) ?_
        refine ok_seq 1 (σ' := (112, [(9, .int (nI vn)), (8, .int oo), (7, .int (nI i)), (6, .int (nI dt)), (5, .int (nI dv)), (4, .int (nI (800 * t + 60))), (3, .int (nI (800 * t + 1 + 4 * c))), (0, .ref 185), (1, .int (nI t)), (2, .int (nI c))], [.long ((nz).toInt64), .int (nI dv), .ref 192], gSh, M)) rfl ?_
        refine ok_last (n := 330) rfl rfl (hI_in (by omega) (by decide)) ?_
        rw [hI_nat (a := dv) (by omega)]
        refine ok_seq 4 (σ' := (38, [(7, .int ((nI i) + (Int32.ofInt 1))), (5, .int ((nI dv) + (Int32.ofInt 1))), (9, .int (nI vn)), (8, .int oo), (6, .int (nI dt)), (4, .int (nI (800 * t + 60))), (3, .int (nI (800 * t + 1 + 4 * c))), (0, .ref 185), (1, .int (nI t)), (2, .int (nI c))], [], gSh, pUp M 192 dv (.long ((nz).toInt64)))) rfl ?_
        rw [cI_1, hI_add i 1, hI_add dv 1]
        exact ih (i + 1) (dv + 1) dt _ _ (by omega) (by omega) hD2 (by omega) (by omega) (pu192 hT hM (by omega) _) (up192 _ _) (Or.inr ⟨oo, nI vn, Or.inr (Or.inr (Or.inl rfl))⟩)
      · obtain ⟨z1, hz1⟩ := pt192 hT hM (k := dv - 1) (by omega)
        refine ok_icmp 119 rfl rfl (fun _ => ?_) (fun hz => absurd (by simp only [pCP]; rw [hI_int (a := 1) (by omega)]; omega) hz)
        refine ok_seq 2 (σ' := (122, [(9, .int vv), (8, .int oo), (7, .int (nI i)), (6, .int (nI dt)), (5, .int (nI dv)), (4, .int (nI (800 * t + 60))), (3, .int (nI (800 * t + 1 + 4 * c))), (0, .ref 185), (1, .int (nI t)), (2, .int (nI c))], [.int (Int32.ofInt 2), .int oo], gSh, M)) rfl ?_
        rw [cI_2]
        refine ok_icmp 147 rfl rfl (fun hz => absurd hz (by simp only [pCP]; rw [hI_int (a := 2) (by omega)]; omega)) (fun _ => ?_)
        refine ok_seq 2 (σ' := (129, [(9, .int vv), (8, .int oo), (7, .int (nI i)), (6, .int (nI dt)), (5, .int (nI dv)), (4, .int (nI (800 * t + 60))), (3, .int (nI (800 * t + 1 + 4 * c))), (0, .ref 185), (1, .int (nI t)), (2, .int (nI c))], [M 185 26], gSh, M)) rfl ?_
        rw [h26]
        refine ok_seq 5 (σ' := (137, [(9, .int vv), (8, .int oo), (7, .int (nI i)), (6, .int (nI dt)), (5, .int (nI dv)), (4, .int (nI (800 * t + 60))), (3, .int (nI (800 * t + 1 + 4 * c))), (0, .ref 185), (1, .int (nI t)), (2, .int (nI c))], [M 185 26, .int ((nI dv) - (Int32.ofInt 1)), .ref 192], gSh, M)) rfl ?_
        rw [h26]
        rw [cI_1, hI_sub dv 1 (by omega)]
        refine ok_seq 3 (σ' := (141, [(9, .int vv), (8, .int oo), (7, .int (nI i)), (6, .int (nI dt)), (5, .int (nI dv)), (4, .int (nI (800 * t + 60))), (3, .int (nI (800 * t + 1 + 4 * c))), (0, .ref 185), (1, .int (nI t)), (2, .int (nI c))], [.int ((nI dv) - (Int32.ofInt 1)), .ref 192, .int (nI (dv - 1)), .ref 192], gSh, M)) rfl ?_
        rw [cI_1, hI_sub dv 1 (by omega)]
        refine ok_lald (n := 330) (v := z1) rfl rfl (hI_in (by omega) (by decide)) (by rw [hI_nat (by omega)]; exact hz1) ?_
        refine ok_seq 1 (σ' := (143, [(9, .int vv), (8, .int oo), (7, .int (nI i)), (6, .int (nI dt)), (5, .int (nI dv)), (4, .int (nI (800 * t + 60))), (3, .int (nI (800 * t + 1 + 4 * c))), (0, .ref 185), (1, .int (nI t)), (2, .int (nI c))], [.long (-z1), .int (nI (dv - 1)), .ref 192], gSh, M)) rfl ?_
        refine ok_last (n := 330) rfl rfl (hI_in (by omega) (by decide)) ?_
        rw [hI_nat (a := dv - 1) (by omega)]
        refine ok_seq 3 (σ' := (38, [(7, .int ((nI i) + (Int32.ofInt 1))), (9, .int vv), (8, .int oo), (6, .int (nI dt)), (5, .int (nI dv)), (4, .int (nI (800 * t + 60))), (3, .int (nI (800 * t + 1 + 4 * c))), (0, .ref 185), (1, .int (nI t)), (2, .int (nI c))], [], gSh, pUp M 192 (dv - 1) (.long (-z1)))) rfl ?_
        rw [cI_1, hI_add i 1]
        exact ih (i + 1) dv dt _ _ (by omega) (by omega) hD2 (by omega) (by omega) (pu192 hT hM (by omega) _) (up192 _ _) (Or.inr ⟨oo, vv, Or.inr (Or.inl rfl)⟩)
      · obtain ⟨z1, hz1⟩ := pt192 hT hM (k := dv - 1 - 1) (by omega)
        obtain ⟨z2, hz2⟩ := pt192 hT hM (k := dv - 1) (by omega)
        obtain ⟨z3, hz3⟩ := c_pureL hH.1 (vs := [.int oo, .long z1, .long z2]) ⟨⟨oo, rfl, ho1, ho2⟩, sat_l _, sat_l _, trivial⟩ hM (hW.gr hg)
        refine ok_icmp 119 rfl rfl (fun _ => ?_) (fun hz => absurd (by simp only [pCP]; rw [hI_int (a := 1) (by omega)]; omega) hz)
        refine ok_seq 2 (σ' := (122, [(9, .int vv), (8, .int oo), (7, .int (nI i)), (6, .int (nI dt)), (5, .int (nI dv)), (4, .int (nI (800 * t + 60))), (3, .int (nI (800 * t + 1 + 4 * c))), (0, .ref 185), (1, .int (nI t)), (2, .int (nI c))], [.int (Int32.ofInt 2), .int oo], gSh, M)) rfl ?_
        rw [cI_2]
        refine ok_icmp 147 rfl rfl (fun _ => ?_) (fun hz => absurd (by simp only [pCP]; rw [hI_int (a := 2) (by omega)]; omega) hz)
        refine ok_seq 2 (σ' := (151, [(9, .int vv), (8, .int oo), (7, .int (nI i)), (6, .int (nI dt)), (5, .int (nI dv)), (4, .int (nI (800 * t + 60))), (3, .int (nI (800 * t + 1 + 4 * c))), (0, .ref 185), (1, .int (nI t)), (2, .int (nI c))], [.int ((Int8.ofInt 10).toInt32), .int oo], gSh, M)) rfl ?_
        rw [(show (Int8.ofInt 10).toInt32 = nI 10 by decide)]
        refine ok_icmp 190 rfl rfl (fun hz => absurd hz (by simp only [pCP]; rw [hI_int (a := 10) (by omega)]; omega)) (fun _ => ?_)
        refine ok_seq 3 (σ' := (161, [(5, .int ((nI dv) + Int32.ofInt (-1))), (9, .int vv), (8, .int oo), (7, .int (nI i)), (6, .int (nI dt)), (4, .int (nI (800 * t + 60))), (3, .int (nI (800 * t + 1 + 4 * c))), (0, .ref 185), (1, .int (nI t)), (2, .int (nI c))], [M 185 26], gSh, M)) rfl ?_
        rw [h26]
        rw [hI_d1 dv (by omega)]
        refine ok_seq 6 (σ' := (171, [(5, .int (nI (dv - 1))), (9, .int vv), (8, .int oo), (7, .int (nI i)), (6, .int (nI dt)), (4, .int (nI (800 * t + 60))), (3, .int (nI (800 * t + 1 + 4 * c))), (0, .ref 185), (1, .int (nI t)), (2, .int (nI c))], [M 185 26, .int oo, .int ((nI (dv - 1)) - (Int32.ofInt 1)), .ref 192], gSh, M)) rfl ?_
        rw [h26]
        rw [cI_1, hI_sub (dv - 1) 1 (by omega)]
        refine ok_seq 3 (σ' := (175, [(5, .int (nI (dv - 1))), (9, .int vv), (8, .int oo), (7, .int (nI i)), (6, .int (nI dt)), (4, .int (nI (800 * t + 60))), (3, .int (nI (800 * t + 1 + 4 * c))), (0, .ref 185), (1, .int (nI t)), (2, .int (nI c))], [.int ((nI (dv - 1)) - (Int32.ofInt 1)), .ref 192, .int oo, .int (nI ((dv - 1) - 1)), .ref 192], gSh, M)) rfl ?_
        rw [cI_1, hI_sub (dv - 1) 1 (by omega)]
        refine ok_lald (n := 330) (v := z1) rfl rfl (hI_in (by omega) (by decide)) (by rw [hI_nat (by omega)]; exact hz1) ?_
        refine ok_seq 2 (σ' := (180, [(5, .int (nI (dv - 1))), (9, .int vv), (8, .int oo), (7, .int (nI i)), (6, .int (nI dt)), (4, .int (nI (800 * t + 60))), (3, .int (nI (800 * t + 1 + 4 * c))), (0, .ref 185), (1, .int (nI t)), (2, .int (nI c))], [M 185 26, .long z1, .int oo, .int (nI ((dv - 1) - 1)), .ref 192], gSh, M)) rfl ?_
        rw [h26]
        refine ok_seq 1 (σ' := (182, [(5, .int (nI (dv - 1))), (9, .int vv), (8, .int oo), (7, .int (nI i)), (6, .int (nI dt)), (4, .int (nI (800 * t + 60))), (3, .int (nI (800 * t + 1 + 4 * c))), (0, .ref 185), (1, .int (nI t)), (2, .int (nI c))], [.int (nI (dv - 1)), .ref 192, .long z1, .int oo, .int (nI ((dv - 1) - 1)), .ref 192], gSh, M)) rfl ?_
        refine ok_lald (n := 330) (v := z2) rfl rfl (hI_in (by omega) (by decide)) (by rw [hI_nat (by omega)]; exact hz2) ?_
        refine ok_call (mi := 208) (as := [.int oo, .long z1, .long z2]) (pc' := 186) (L' := [(5, .int (nI (dv - 1))), (9, .int vv), (8, .int oo), (7, .int (nI i)), (6, .int (nI dt)), (4, .int (nI (800 * t + 60))), (3, .int (nI (800 * t + 1 + 4 * c))), (0, .ref 185), (1, .int (nI t)), (2, .int (nI c))]) (st' := [.int (nI ((dv - 1) - 1)), .ref 192]) (sh' := gSh) (M' := M) (i := .invokestatic 263) (len := 3) rfl rfl ?_
        refine ((hz3.deep (by omega))).mono ?_
        rintro v hp ⟨rfl, rfl⟩
        refine ok_last (n := 330) rfl rfl (hI_in (by omega) (by decide)) ?_
        rw [hI_nat (a := (dv - 1) - 1) (by omega)]
        refine ok_seq 3 (σ' := (38, [(7, .int ((nI i) + (Int32.ofInt 1))), (5, .int (nI (dv - 1))), (9, .int vv), (8, .int oo), (6, .int (nI dt)), (4, .int (nI (800 * t + 60))), (3, .int (nI (800 * t + 1 + 4 * c))), (0, .ref 185), (1, .int (nI t)), (2, .int (nI c))], [], gSh, pUp M 192 ((dv - 1) - 1) (.long z3))) rfl ?_
        rw [cI_1, hI_add i 1]
        exact ih (i + 1) (dv - 1) dt _ _ (by omega) (by omega) hD2 (by omega) (by omega) (pu192 hT hM (by omega) _) (up192 _ _) (Or.inr ⟨oo, vv, Or.inr (Or.inr (Or.inl rfl))⟩)
      · obtain ⟨z1, hz1⟩ := pt192 hT hM (k := dv - 2) (by omega)
        obtain ⟨z2, hz2⟩ := pt192 hT hM (k := dv - 2 + 1) (by omega)
        obtain ⟨z3, y1, y2, hz3⟩ := c_pure hH.2 (vs := [.int oo, .long z1, .long z2]) ⟨⟨oo, rfl, ho1, ho2⟩, sat_l _, sat_l _, trivial⟩ hM (hW.gr hg) (fun q hq => by cases hq)
        refine ok_icmp 119 rfl rfl (fun _ => ?_) (fun hz => absurd (by simp only [pCP]; rw [hI_int (a := 1) (by omega)]; omega) hz)
        refine ok_seq 2 (σ' := (122, [(9, .int vv), (8, .int oo), (7, .int (nI i)), (6, .int (nI dt)), (5, .int (nI dv)), (4, .int (nI (800 * t + 60))), (3, .int (nI (800 * t + 1 + 4 * c))), (0, .ref 185), (1, .int (nI t)), (2, .int (nI c))], [.int (Int32.ofInt 2), .int oo], gSh, M)) rfl ?_
        rw [cI_2]
        refine ok_icmp 147 rfl rfl (fun _ => ?_) (fun hz => absurd (by simp only [pCP]; rw [hI_int (a := 2) (by omega)]; omega) hz)
        refine ok_seq 2 (σ' := (151, [(9, .int vv), (8, .int oo), (7, .int (nI i)), (6, .int (nI dt)), (5, .int (nI dv)), (4, .int (nI (800 * t + 60))), (3, .int (nI (800 * t + 1 + 4 * c))), (0, .ref 185), (1, .int (nI t)), (2, .int (nI c))], [.int ((Int8.ofInt 10).toInt32), .int oo], gSh, M)) rfl ?_
        rw [(show (Int8.ofInt 10).toInt32 = nI 10 by decide)]
        refine ok_icmp 190 rfl rfl (fun _ => ?_) (fun hz => absurd (by simp only [pCP]; rw [hI_int (a := 10) (by omega)]; omega) hz)
        refine ok_seq 2 (σ' := (194, [(9, .int vv), (8, .int oo), (7, .int (nI i)), (6, .int (nI dt)), (5, .int (nI dv)), (4, .int (nI (800 * t + 60))), (3, .int (nI (800 * t + 1 + 4 * c))), (0, .ref 185), (1, .int (nI t)), (2, .int (nI c))], [.int ((Int8.ofInt 20).toInt32), .int oo], gSh, M)) rfl ?_
        rw [(show (Int8.ofInt 20).toInt32 = nI 20 by decide)]
        refine ok_icmp 234 rfl rfl (fun hz => absurd hz (by simp only [pCP]; rw [hI_int (a := 20) (by omega)]; omega)) (fun _ => ?_)
        refine ok_seq 3 (σ' := (204, [(5, .int ((nI dv) + Int32.ofInt (-2))), (9, .int vv), (8, .int oo), (7, .int (nI i)), (6, .int (nI dt)), (4, .int (nI (800 * t + 60))), (3, .int (nI (800 * t + 1 + 4 * c))), (0, .ref 185), (1, .int (nI t)), (2, .int (nI c))], [M 185 27], gSh, M)) rfl ?_
        rw [h27]
        rw [hI_d2 dv (by omega)]
        refine ok_seq 4 (σ' := (212, [(5, .int (nI (dv - 2))), (9, .int vv), (8, .int oo), (7, .int (nI i)), (6, .int (nI dt)), (4, .int (nI (800 * t + 60))), (3, .int (nI (800 * t + 1 + 4 * c))), (0, .ref 185), (1, .int (nI t)), (2, .int (nI c))], [M 185 26, .int oo, .int (nI dt), .ref 193], gSh, M)) rfl ?_
        rw [h26]
        refine ok_seq 1 (σ' := (214, [(5, .int (nI (dv - 2))), (9, .int vv), (8, .int oo), (7, .int (nI i)), (6, .int (nI dt)), (4, .int (nI (800 * t + 60))), (3, .int (nI (800 * t + 1 + 4 * c))), (0, .ref 185), (1, .int (nI t)), (2, .int (nI c))], [.int (nI (dv - 2)), .ref 192, .int oo, .int (nI dt), .ref 193], gSh, M)) rfl ?_
        refine ok_lald (n := 330) (v := z1) rfl rfl (hI_in (by omega) (by decide)) (by rw [hI_nat (by omega)]; exact hz1) ?_
        refine ok_seq 2 (σ' := (219, [(5, .int (nI (dv - 2))), (9, .int vv), (8, .int oo), (7, .int (nI i)), (6, .int (nI dt)), (4, .int (nI (800 * t + 60))), (3, .int (nI (800 * t + 1 + 4 * c))), (0, .ref 185), (1, .int (nI t)), (2, .int (nI c))], [M 185 26, .long z1, .int oo, .int (nI dt), .ref 193], gSh, M)) rfl ?_
        rw [h26]
        refine ok_seq 3 (σ' := (223, [(5, .int (nI (dv - 2))), (9, .int vv), (8, .int oo), (7, .int (nI i)), (6, .int (nI dt)), (4, .int (nI (800 * t + 60))), (3, .int (nI (800 * t + 1 + 4 * c))), (0, .ref 185), (1, .int (nI t)), (2, .int (nI c))], [.int ((nI (dv - 2)) + (Int32.ofInt 1)), .ref 192, .long z1, .int oo, .int (nI dt), .ref 193], gSh, M)) rfl ?_
        rw [cI_1, hI_add (dv - 2) 1]
        refine ok_lald (n := 330) (v := z2) rfl rfl (hI_in (by omega) (by decide)) (by rw [hI_nat (by omega)]; exact hz2) ?_
        refine ok_call (mi := 209) (as := [.int oo, .long z1, .long z2]) (pc' := 227) (L' := [(5, .int (nI (dv - 2))), (9, .int vv), (8, .int oo), (7, .int (nI i)), (6, .int (nI dt)), (4, .int (nI (800 * t + 60))), (3, .int (nI (800 * t + 1 + 4 * c))), (0, .ref 185), (1, .int (nI t)), (2, .int (nI c))]) (st' := [.int (nI dt), .ref 193]) (sh' := gSh) (M' := M) (i := .invokestatic 267) (len := 3) rfl rfl ?_
        refine ((hz3.deep (by omega))).mono ?_
        rintro v hp ⟨rfl, rfl⟩
        refine ok_bast (n := 330) rfl rfl (hI_in (by omega) (by decide)) ?_
        rw [hI_nat (a := dt) (by omega)]
        refine ok_seq 4 (σ' := (38, [(7, .int ((nI i) + (Int32.ofInt 1))), (6, .int ((nI dt) + (Int32.ofInt 1))), (5, .int (nI (dv - 2))), (9, .int vv), (8, .int oo), (4, .int (nI (800 * t + 60))), (3, .int (nI (800 * t + 1 + 4 * c))), (0, .ref 185), (1, .int (nI t)), (2, .int (nI c))], [], gSh, pUp M 193 dt (.int (z3 &&& 1)))) rfl ?_
        rw [cI_1, hI_add i 1, hI_add dt 1]
        exact ih (i + 1) (dv - 2) (dt + 1) _ _ (by omega) (by omega) hD2 (by omega) (by omega) (pu193 hT hM (by omega) (and1 _)) (up193 _ _) (Or.inr ⟨oo, vv, Or.inr (Or.inr (Or.inr (Or.inr (rfl))))⟩)
      · obtain ⟨tb, htb, hz1⟩ := pt193 hT hM (k := dt - 1) (by omega)
        refine ok_icmp 119 rfl rfl (fun _ => ?_) (fun hz => absurd (by simp only [pCP]; rw [hI_int (a := 1) (by omega)]; omega) hz)
        refine ok_seq 2 (σ' := (122, [(9, .int vv), (8, .int oo), (7, .int (nI i)), (6, .int (nI dt)), (5, .int (nI dv)), (4, .int (nI (800 * t + 60))), (3, .int (nI (800 * t + 1 + 4 * c))), (0, .ref 185), (1, .int (nI t)), (2, .int (nI c))], [.int (Int32.ofInt 2), .int oo], gSh, M)) rfl ?_
        rw [cI_2]
        refine ok_icmp 147 rfl rfl (fun _ => ?_) (fun hz => absurd (by simp only [pCP]; rw [hI_int (a := 2) (by omega)]; omega) hz)
        refine ok_seq 2 (σ' := (151, [(9, .int vv), (8, .int oo), (7, .int (nI i)), (6, .int (nI dt)), (5, .int (nI dv)), (4, .int (nI (800 * t + 60))), (3, .int (nI (800 * t + 1 + 4 * c))), (0, .ref 185), (1, .int (nI t)), (2, .int (nI c))], [.int ((Int8.ofInt 10).toInt32), .int oo], gSh, M)) rfl ?_
        rw [(show (Int8.ofInt 10).toInt32 = nI 10 by decide)]
        refine ok_icmp 190 rfl rfl (fun _ => ?_) (fun hz => absurd (by simp only [pCP]; rw [hI_int (a := 10) (by omega)]; omega) hz)
        refine ok_seq 2 (σ' := (194, [(9, .int vv), (8, .int oo), (7, .int (nI i)), (6, .int (nI dt)), (5, .int (nI dv)), (4, .int (nI (800 * t + 60))), (3, .int (nI (800 * t + 1 + 4 * c))), (0, .ref 185), (1, .int (nI t)), (2, .int (nI c))], [.int ((Int8.ofInt 20).toInt32), .int oo], gSh, M)) rfl ?_
        rw [(show (Int8.ofInt 20).toInt32 = nI 20 by decide)]
        refine ok_icmp 234 rfl rfl (fun _ => ?_) (fun hz => absurd (by simp only [pCP]; rw [hI_int (a := 20) (by omega)]; omega) hz)
        refine ok_seq 2 (σ' := (238, [(9, .int vv), (8, .int oo), (7, .int (nI i)), (6, .int (nI dt)), (5, .int (nI dv)), (4, .int (nI (800 * t + 60))), (3, .int (nI (800 * t + 1 + 4 * c))), (0, .ref 185), (1, .int (nI t)), (2, .int (nI c))], [.int ((Int8.ofInt 20).toInt32), .int oo], gSh, M)) rfl ?_
        rw [(show (Int8.ofInt 20).toInt32 = nI 20 by decide)]
        refine ok_icmp 270 rfl rfl (fun hz => absurd hz (by simp only [pCP]; rw [hI_int (a := 20) (by omega)]; omega)) (fun _ => ?_)
        refine ok_seq 2 (σ' := (245, [(9, .int vv), (8, .int oo), (7, .int (nI i)), (6, .int (nI dt)), (5, .int (nI dv)), (4, .int (nI (800 * t + 60))), (3, .int (nI (800 * t + 1 + 4 * c))), (0, .ref 185), (1, .int (nI t)), (2, .int (nI c))], [M 185 27], gSh, M)) rfl ?_
        rw [h27]
        refine ok_seq 5 (σ' := (253, [(9, .int vv), (8, .int oo), (7, .int (nI i)), (6, .int (nI dt)), (5, .int (nI dv)), (4, .int (nI (800 * t + 60))), (3, .int (nI (800 * t + 1 + 4 * c))), (0, .ref 185), (1, .int (nI t)), (2, .int (nI c))], [M 185 27, .int ((nI dt) - (Int32.ofInt 1)), .ref 193], gSh, M)) rfl ?_
        rw [h27]
        rw [cI_1, hI_sub dt 1 (by omega)]
        refine ok_seq 3 (σ' := (257, [(9, .int vv), (8, .int oo), (7, .int (nI i)), (6, .int (nI dt)), (5, .int (nI dv)), (4, .int (nI (800 * t + 60))), (3, .int (nI (800 * t + 1 + 4 * c))), (0, .ref 185), (1, .int (nI t)), (2, .int (nI c))], [.int ((nI dt) - (Int32.ofInt 1)), .ref 193, .int (nI (dt - 1)), .ref 193], gSh, M)) rfl ?_
        rw [cI_1, hI_sub dt 1 (by omega)]
        refine ok_bald (n := 330) (v := nI tb) rfl rfl (hI_in (by omega) (by decide)) (by rw [hI_nat (by omega)]; exact hz1) ?_
        refine ok_if 265 rfl rfl ?_ ?_
        · intro hb
          simp only [pCP] at hb
          rw [hI_int (a := tb) (by omega)] at hb
          have hb : ((tb : Nat) : Int) ≠ (0 : Int) := by omega
          refine ok_seq 1 (σ' := (266, [(9, .int vv), (8, .int oo), (7, .int (nI i)), (6, .int (nI dt)), (5, .int (nI dv)), (4, .int (nI (800 * t + 60))), (3, .int (nI (800 * t + 1 + 4 * c))), (0, .ref 185), (1, .int (nI t)), (2, .int (nI c))], [.int (Int32.ofInt 0), .int (nI (dt - 1)), .ref 193], gSh, M)) rfl ?_
          rw [cI_0]
          refine ok_bast (n := 330) rfl rfl (hI_in (by omega) (by decide)) ?_
          rw [hI_nat (a := dt - 1) (by omega)]
          refine ok_seq 3 (σ' := (38, [(7, .int ((nI i) + (Int32.ofInt 1))), (9, .int vv), (8, .int oo), (6, .int (nI dt)), (5, .int (nI dv)), (4, .int (nI (800 * t + 60))), (3, .int (nI (800 * t + 1 + 4 * c))), (0, .ref 185), (1, .int (nI t)), (2, .int (nI c))], [], gSh, pUp M 193 (dt - 1) (.int ((nI 0) &&& 1)))) rfl ?_
          rw [cI_1, hI_add i 1]
          exact ih (i + 1) dv dt _ _ (by omega) (by omega) hD2 (by omega) (by omega) (pu193 hT hM (by omega) (and1 _)) (up193 _ _) (Or.inr ⟨oo, vv, Or.inr (Or.inl rfl)⟩)
        · intro hb
          simp only [pCP] at hb
          rw [hI_int (a := tb) (by omega)] at hb
          have hb : ((tb : Nat) : Int) = (0 : Int) := by omega
          refine ok_seq 2 (σ' := (266, [(9, .int vv), (8, .int oo), (7, .int (nI i)), (6, .int (nI dt)), (5, .int (nI dv)), (4, .int (nI (800 * t + 60))), (3, .int (nI (800 * t + 1 + 4 * c))), (0, .ref 185), (1, .int (nI t)), (2, .int (nI c))], [.int (Int32.ofInt 1), .int (nI (dt - 1)), .ref 193], gSh, M)) rfl ?_
          rw [cI_1]
          refine ok_bast (n := 330) rfl rfl (hI_in (by omega) (by decide)) ?_
          rw [hI_nat (a := dt - 1) (by omega)]
          refine ok_seq 3 (σ' := (38, [(7, .int ((nI i) + (Int32.ofInt 1))), (9, .int vv), (8, .int oo), (6, .int (nI dt)), (5, .int (nI dv)), (4, .int (nI (800 * t + 60))), (3, .int (nI (800 * t + 1 + 4 * c))), (0, .ref 185), (1, .int (nI t)), (2, .int (nI c))], [], gSh, pUp M 193 (dt - 1) (.int ((nI 1) &&& 1)))) rfl ?_
          rw [cI_1, hI_add i 1]
          exact ih (i + 1) dv dt _ _ (by omega) (by omega) hD2 (by omega) (by omega) (pu193 hT hM (by omega) (and1 _)) (up193 _ _) (Or.inr ⟨oo, vv, Or.inr (Or.inl rfl)⟩)
      · obtain ⟨ta, hta, hz1⟩ := pt193 hT hM (k := dt - 1 - 1) (by omega)
        obtain ⟨tb, htb, hz2⟩ := pt193 hT hM (k := dt - 1) (by omega)
        refine ok_icmp 119 rfl rfl (fun _ => ?_) (fun hz => absurd (by simp only [pCP]; rw [hI_int (a := 1) (by omega)]; omega) hz)
        refine ok_seq 2 (σ' := (122, [(9, .int vv), (8, .int oo), (7, .int (nI i)), (6, .int (nI dt)), (5, .int (nI dv)), (4, .int (nI (800 * t + 60))), (3, .int (nI (800 * t + 1 + 4 * c))), (0, .ref 185), (1, .int (nI t)), (2, .int (nI c))], [.int (Int32.ofInt 2), .int oo], gSh, M)) rfl ?_
        rw [cI_2]
        refine ok_icmp 147 rfl rfl (fun _ => ?_) (fun hz => absurd (by simp only [pCP]; rw [hI_int (a := 2) (by omega)]; omega) hz)
        refine ok_seq 2 (σ' := (151, [(9, .int vv), (8, .int oo), (7, .int (nI i)), (6, .int (nI dt)), (5, .int (nI dv)), (4, .int (nI (800 * t + 60))), (3, .int (nI (800 * t + 1 + 4 * c))), (0, .ref 185), (1, .int (nI t)), (2, .int (nI c))], [.int ((Int8.ofInt 10).toInt32), .int oo], gSh, M)) rfl ?_
        rw [(show (Int8.ofInt 10).toInt32 = nI 10 by decide)]
        refine ok_icmp 190 rfl rfl (fun _ => ?_) (fun hz => absurd (by simp only [pCP]; rw [hI_int (a := 10) (by omega)]; omega) hz)
        refine ok_seq 2 (σ' := (194, [(9, .int vv), (8, .int oo), (7, .int (nI i)), (6, .int (nI dt)), (5, .int (nI dv)), (4, .int (nI (800 * t + 60))), (3, .int (nI (800 * t + 1 + 4 * c))), (0, .ref 185), (1, .int (nI t)), (2, .int (nI c))], [.int ((Int8.ofInt 20).toInt32), .int oo], gSh, M)) rfl ?_
        rw [(show (Int8.ofInt 20).toInt32 = nI 20 by decide)]
        refine ok_icmp 234 rfl rfl (fun _ => ?_) (fun hz => absurd (by simp only [pCP]; rw [hI_int (a := 20) (by omega)]; omega) hz)
        refine ok_seq 2 (σ' := (238, [(9, .int vv), (8, .int oo), (7, .int (nI i)), (6, .int (nI dt)), (5, .int (nI dv)), (4, .int (nI (800 * t + 60))), (3, .int (nI (800 * t + 1 + 4 * c))), (0, .ref 185), (1, .int (nI t)), (2, .int (nI c))], [.int ((Int8.ofInt 20).toInt32), .int oo], gSh, M)) rfl ?_
        rw [(show (Int8.ofInt 20).toInt32 = nI 20 by decide)]
        refine ok_icmp 270 rfl rfl (fun _ => ?_) (fun hz => absurd (by simp only [pCP]; rw [hI_int (a := 20) (by omega)]; omega) hz)
        refine ok_seq 3 (σ' := (277, [(6, .int ((nI dt) + Int32.ofInt (-1))), (9, .int vv), (8, .int oo), (7, .int (nI i)), (5, .int (nI dv)), (4, .int (nI (800 * t + 60))), (3, .int (nI (800 * t + 1 + 4 * c))), (0, .ref 185), (1, .int (nI t)), (2, .int (nI c))], [M 185 27], gSh, M)) rfl ?_
        rw [h27]
        rw [hI_d1 dt (by omega)]
        refine ok_seq 5 (σ' := (285, [(6, .int (nI (dt - 1))), (9, .int vv), (8, .int oo), (7, .int (nI i)), (5, .int (nI dv)), (4, .int (nI (800 * t + 60))), (3, .int (nI (800 * t + 1 + 4 * c))), (0, .ref 185), (1, .int (nI t)), (2, .int (nI c))], [.int ((Int8.ofInt 21).toInt32), .int oo, .int ((nI (dt - 1)) - (Int32.ofInt 1)), .ref 193], gSh, M)) rfl ?_
        rw [cI_1, hI_sub (dt - 1) 1 (by omega), (show (Int8.ofInt 21).toInt32 = nI 21 by decide)]
        refine ok_icmp 318 rfl rfl ?_ ?_
        · intro hao
          simp only [pCP] at hao
          rw [hI_int (a := 21) (by omega)] at hao
          have hao : (oo).toInt ≠ ((21 : Nat) : Int) := by omega
          refine ok_seq 2 (σ' := (322, [(6, .int (nI (dt - 1))), (9, .int vv), (8, .int oo), (7, .int (nI i)), (5, .int (nI dv)), (4, .int (nI (800 * t + 60))), (3, .int (nI (800 * t + 1 + 4 * c))), (0, .ref 185), (1, .int (nI t)), (2, .int (nI c))], [M 185 27, .int (nI ((dt - 1) - 1)), .ref 193], gSh, M)) rfl ?_
          rw [h27]
          refine ok_seq 3 (σ' := (326, [(6, .int (nI (dt - 1))), (9, .int vv), (8, .int oo), (7, .int (nI i)), (5, .int (nI dv)), (4, .int (nI (800 * t + 60))), (3, .int (nI (800 * t + 1 + 4 * c))), (0, .ref 185), (1, .int (nI t)), (2, .int (nI c))], [.int ((nI (dt - 1)) - (Int32.ofInt 1)), .ref 193, .int (nI ((dt - 1) - 1)), .ref 193], gSh, M)) rfl ?_
          rw [cI_1, hI_sub (dt - 1) 1 (by omega)]
          refine ok_bald (n := 330) (v := nI ta) rfl rfl (hI_in (by omega) (by decide)) (by rw [hI_nat (by omega)]; exact hz1) ?_
          refine ok_if 340 rfl rfl ?_ ?_
          · intro hb1
            simp only [pCP] at hb1
            rw [hI_int (a := ta) (by omega)] at hb1
            have hb1 : ((ta : Nat) : Int) ≠ (0 : Int) := by omega
            refine ok_seq 2 (σ' := (345, [(6, .int (nI (dt - 1))), (9, .int vv), (8, .int oo), (7, .int (nI i)), (5, .int (nI dv)), (4, .int (nI (800 * t + 60))), (3, .int (nI (800 * t + 1 + 4 * c))), (0, .ref 185), (1, .int (nI t)), (2, .int (nI c))], [.int (Int32.ofInt 1), .int (nI ((dt - 1) - 1)), .ref 193], gSh, M)) rfl ?_
            rw [cI_1]
            refine ok_bast (n := 330) rfl rfl (hI_in (by omega) (by decide)) ?_
            rw [hI_nat (a := (dt - 1) - 1) (by omega)]
            refine ok_seq 2 (σ' := (38, [(7, .int ((nI i) + (Int32.ofInt 1))), (6, .int (nI (dt - 1))), (9, .int vv), (8, .int oo), (5, .int (nI dv)), (4, .int (nI (800 * t + 60))), (3, .int (nI (800 * t + 1 + 4 * c))), (0, .ref 185), (1, .int (nI t)), (2, .int (nI c))], [], gSh, pUp M 193 ((dt - 1) - 1) (.int ((nI 1) &&& 1)))) rfl ?_
            rw [cI_1, hI_add i 1]
            exact ih (i + 1) dv (dt - 1) _ _ (by omega) (by omega) hD2 (by omega) (by omega) (pu193 hT hM (by omega) (and1 _)) (up193 _ _) (Or.inr ⟨oo, vv, Or.inr (Or.inr (Or.inr (Or.inl rfl)))⟩)
          · intro hb1
            simp only [pCP] at hb1
            rw [hI_int (a := ta) (by omega)] at hb1
            have hb1 : ((ta : Nat) : Int) = (0 : Int) := by omega
            refine ok_seq 2 (σ' := (334, [(6, .int (nI (dt - 1))), (9, .int vv), (8, .int oo), (7, .int (nI i)), (5, .int (nI dv)), (4, .int (nI (800 * t + 60))), (3, .int (nI (800 * t + 1 + 4 * c))), (0, .ref 185), (1, .int (nI t)), (2, .int (nI c))], [M 185 27, .int (nI ((dt - 1) - 1)), .ref 193], gSh, M)) rfl ?_
            rw [h27]
            refine ok_seq 1 (σ' := (336, [(6, .int (nI (dt - 1))), (9, .int vv), (8, .int oo), (7, .int (nI i)), (5, .int (nI dv)), (4, .int (nI (800 * t + 60))), (3, .int (nI (800 * t + 1 + 4 * c))), (0, .ref 185), (1, .int (nI t)), (2, .int (nI c))], [.int (nI (dt - 1)), .ref 193, .int (nI ((dt - 1) - 1)), .ref 193], gSh, M)) rfl ?_
            refine ok_bald (n := 330) (v := nI tb) rfl rfl (hI_in (by omega) (by decide)) (by rw [hI_nat (by omega)]; exact hz2) ?_
            refine ok_if 344 rfl rfl ?_ ?_
            · intro hb2
              simp only [pCP] at hb2
              rw [hI_int (a := tb) (by omega)] at hb2
              have hb2 : ((tb : Nat) : Int) = (0 : Int) := by omega
              refine ok_seq 1 (σ' := (345, [(6, .int (nI (dt - 1))), (9, .int vv), (8, .int oo), (7, .int (nI i)), (5, .int (nI dv)), (4, .int (nI (800 * t + 60))), (3, .int (nI (800 * t + 1 + 4 * c))), (0, .ref 185), (1, .int (nI t)), (2, .int (nI c))], [.int (Int32.ofInt 0), .int (nI ((dt - 1) - 1)), .ref 193], gSh, M)) rfl ?_
              rw [cI_0]
              refine ok_bast (n := 330) rfl rfl (hI_in (by omega) (by decide)) ?_
              rw [hI_nat (a := (dt - 1) - 1) (by omega)]
              refine ok_seq 2 (σ' := (38, [(7, .int ((nI i) + (Int32.ofInt 1))), (6, .int (nI (dt - 1))), (9, .int vv), (8, .int oo), (5, .int (nI dv)), (4, .int (nI (800 * t + 60))), (3, .int (nI (800 * t + 1 + 4 * c))), (0, .ref 185), (1, .int (nI t)), (2, .int (nI c))], [], gSh, pUp M 193 ((dt - 1) - 1) (.int ((nI 0) &&& 1)))) rfl ?_
              rw [cI_1, hI_add i 1]
              exact ih (i + 1) dv (dt - 1) _ _ (by omega) (by omega) hD2 (by omega) (by omega) (pu193 hT hM (by omega) (and1 _)) (up193 _ _) (Or.inr ⟨oo, vv, Or.inr (Or.inr (Or.inr (Or.inl rfl)))⟩)
            · intro hb2
              simp only [pCP] at hb2
              rw [hI_int (a := tb) (by omega)] at hb2
              have hb2 : ((tb : Nat) : Int) ≠ (0 : Int) := by omega
              refine ok_seq 2 (σ' := (345, [(6, .int (nI (dt - 1))), (9, .int vv), (8, .int oo), (7, .int (nI i)), (5, .int (nI dv)), (4, .int (nI (800 * t + 60))), (3, .int (nI (800 * t + 1 + 4 * c))), (0, .ref 185), (1, .int (nI t)), (2, .int (nI c))], [.int (Int32.ofInt 1), .int (nI ((dt - 1) - 1)), .ref 193], gSh, M)) rfl ?_
              rw [cI_1]
              refine ok_bast (n := 330) rfl rfl (hI_in (by omega) (by decide)) ?_
              rw [hI_nat (a := (dt - 1) - 1) (by omega)]
              refine ok_seq 2 (σ' := (38, [(7, .int ((nI i) + (Int32.ofInt 1))), (6, .int (nI (dt - 1))), (9, .int vv), (8, .int oo), (5, .int (nI dv)), (4, .int (nI (800 * t + 60))), (3, .int (nI (800 * t + 1 + 4 * c))), (0, .ref 185), (1, .int (nI t)), (2, .int (nI c))], [], gSh, pUp M 193 ((dt - 1) - 1) (.int ((nI 1) &&& 1)))) rfl ?_
              rw [cI_1, hI_add i 1]
              exact ih (i + 1) dv (dt - 1) _ _ (by omega) (by omega) hD2 (by omega) (by omega) (pu193 hT hM (by omega) (and1 _)) (up193 _ _) (Or.inr ⟨oo, vv, Or.inr (Or.inr (Or.inr (Or.inl rfl)))⟩)
        · intro hao
          simp only [pCP] at hao
          rw [hI_int (a := 21) (by omega)] at hao
          have hao : (oo).toInt = ((21 : Nat) : Int) := by omega
          refine ok_seq 2 (σ' := (292, [(6, .int (nI (dt - 1))), (9, .int vv), (8, .int oo), (7, .int (nI i)), (5, .int (nI dv)), (4, .int (nI (800 * t + 60))), (3, .int (nI (800 * t + 1 + 4 * c))), (0, .ref 185), (1, .int (nI t)), (2, .int (nI c))], [M 185 27, .int (nI ((dt - 1) - 1)), .ref 193], gSh, M)) rfl ?_
          rw [h27]
          refine ok_seq 3 (σ' := (296, [(6, .int (nI (dt - 1))), (9, .int vv), (8, .int oo), (7, .int (nI i)), (5, .int (nI dv)), (4, .int (nI (800 * t + 60))), (3, .int (nI (800 * t + 1 + 4 * c))), (0, .ref 185), (1, .int (nI t)), (2, .int (nI c))], [.int ((nI (dt - 1)) - (Int32.ofInt 1)), .ref 193, .int (nI ((dt - 1) - 1)), .ref 193], gSh, M)) rfl ?_
          rw [cI_1, hI_sub (dt - 1) 1 (by omega)]
          refine ok_bald (n := 330) (v := nI ta) rfl rfl (hI_in (by omega) (by decide)) (by rw [hI_nat (by omega)]; exact hz1) ?_
          refine ok_if 314 rfl rfl ?_ ?_
          · intro hb1
            simp only [pCP] at hb1
            rw [hI_int (a := ta) (by omega)] at hb1
            have hb1 : ((ta : Nat) : Int) = (0 : Int) := by omega
            refine ok_seq 2 (σ' := (345, [(6, .int (nI (dt - 1))), (9, .int vv), (8, .int oo), (7, .int (nI i)), (5, .int (nI dv)), (4, .int (nI (800 * t + 60))), (3, .int (nI (800 * t + 1 + 4 * c))), (0, .ref 185), (1, .int (nI t)), (2, .int (nI c))], [.int (Int32.ofInt 0), .int (nI ((dt - 1) - 1)), .ref 193], gSh, M)) rfl ?_
            rw [cI_0]
            refine ok_bast (n := 330) rfl rfl (hI_in (by omega) (by decide)) ?_
            rw [hI_nat (a := (dt - 1) - 1) (by omega)]
            refine ok_seq 2 (σ' := (38, [(7, .int ((nI i) + (Int32.ofInt 1))), (6, .int (nI (dt - 1))), (9, .int vv), (8, .int oo), (5, .int (nI dv)), (4, .int (nI (800 * t + 60))), (3, .int (nI (800 * t + 1 + 4 * c))), (0, .ref 185), (1, .int (nI t)), (2, .int (nI c))], [], gSh, pUp M 193 ((dt - 1) - 1) (.int ((nI 0) &&& 1)))) rfl ?_
            rw [cI_1, hI_add i 1]
            exact ih (i + 1) dv (dt - 1) _ _ (by omega) (by omega) hD2 (by omega) (by omega) (pu193 hT hM (by omega) (and1 _)) (up193 _ _) (Or.inr ⟨oo, vv, Or.inr (Or.inr (Or.inr (Or.inl rfl)))⟩)
          · intro hb1
            simp only [pCP] at hb1
            rw [hI_int (a := ta) (by omega)] at hb1
            have hb1 : ((ta : Nat) : Int) ≠ (0 : Int) := by omega
            refine ok_seq 2 (σ' := (304, [(6, .int (nI (dt - 1))), (9, .int vv), (8, .int oo), (7, .int (nI i)), (5, .int (nI dv)), (4, .int (nI (800 * t + 60))), (3, .int (nI (800 * t + 1 + 4 * c))), (0, .ref 185), (1, .int (nI t)), (2, .int (nI c))], [M 185 27, .int (nI ((dt - 1) - 1)), .ref 193], gSh, M)) rfl ?_
            rw [h27]
            refine ok_seq 1 (σ' := (306, [(6, .int (nI (dt - 1))), (9, .int vv), (8, .int oo), (7, .int (nI i)), (5, .int (nI dv)), (4, .int (nI (800 * t + 60))), (3, .int (nI (800 * t + 1 + 4 * c))), (0, .ref 185), (1, .int (nI t)), (2, .int (nI c))], [.int (nI (dt - 1)), .ref 193, .int (nI ((dt - 1) - 1)), .ref 193], gSh, M)) rfl ?_
            refine ok_bald (n := 330) (v := nI tb) rfl rfl (hI_in (by omega) (by decide)) (by rw [hI_nat (by omega)]; exact hz2) ?_
            refine ok_if 314 rfl rfl ?_ ?_
            · intro hb2
              simp only [pCP] at hb2
              rw [hI_int (a := tb) (by omega)] at hb2
              have hb2 : ((tb : Nat) : Int) = (0 : Int) := by omega
              refine ok_seq 2 (σ' := (345, [(6, .int (nI (dt - 1))), (9, .int vv), (8, .int oo), (7, .int (nI i)), (5, .int (nI dv)), (4, .int (nI (800 * t + 60))), (3, .int (nI (800 * t + 1 + 4 * c))), (0, .ref 185), (1, .int (nI t)), (2, .int (nI c))], [.int (Int32.ofInt 0), .int (nI ((dt - 1) - 1)), .ref 193], gSh, M)) rfl ?_
              rw [cI_0]
              refine ok_bast (n := 330) rfl rfl (hI_in (by omega) (by decide)) ?_
              rw [hI_nat (a := (dt - 1) - 1) (by omega)]
              refine ok_seq 2 (σ' := (38, [(7, .int ((nI i) + (Int32.ofInt 1))), (6, .int (nI (dt - 1))), (9, .int vv), (8, .int oo), (5, .int (nI dv)), (4, .int (nI (800 * t + 60))), (3, .int (nI (800 * t + 1 + 4 * c))), (0, .ref 185), (1, .int (nI t)), (2, .int (nI c))], [], gSh, pUp M 193 ((dt - 1) - 1) (.int ((nI 0) &&& 1)))) rfl ?_
              rw [cI_1, hI_add i 1]
              exact ih (i + 1) dv (dt - 1) _ _ (by omega) (by omega) hD2 (by omega) (by omega) (pu193 hT hM (by omega) (and1 _)) (up193 _ _) (Or.inr ⟨oo, vv, Or.inr (Or.inr (Or.inr (Or.inl rfl)))⟩)
            · intro hb2
              simp only [pCP] at hb2
              rw [hI_int (a := tb) (by omega)] at hb2
              have hb2 : ((tb : Nat) : Int) ≠ (0 : Int) := by omega
              refine ok_seq 2 (σ' := (345, [(6, .int (nI (dt - 1))), (9, .int vv), (8, .int oo), (7, .int (nI i)), (5, .int (nI dv)), (4, .int (nI (800 * t + 60))), (3, .int (nI (800 * t + 1 + 4 * c))), (0, .ref 185), (1, .int (nI t)), (2, .int (nI c))], [.int (Int32.ofInt 1), .int (nI ((dt - 1) - 1)), .ref 193], gSh, M)) rfl ?_
              rw [cI_1]
              refine ok_bast (n := 330) rfl rfl (hI_in (by omega) (by decide)) ?_
              rw [hI_nat (a := (dt - 1) - 1) (by omega)]
              refine ok_seq 2 (σ' := (38, [(7, .int ((nI i) + (Int32.ofInt 1))), (6, .int (nI (dt - 1))), (9, .int vv), (8, .int oo), (5, .int (nI dv)), (4, .int (nI (800 * t + 60))), (3, .int (nI (800 * t + 1 + 4 * c))), (0, .ref 185), (1, .int (nI t)), (2, .int (nI c))], [], gSh, pUp M 193 ((dt - 1) - 1) (.int ((nI 1) &&& 1)))) rfl ?_
              rw [cI_1, hI_add i 1]
              exact ih (i + 1) dv (dt - 1) _ _ (by omega) (by omega) hD2 (by omega) (by omega) (pu193 hT hM (by omega) (and1 _)) (up193 _ _) (Or.inr ⟨oo, vv, Or.inr (Or.inr (Or.inr (Or.inl rfl)))⟩)
    · refine ok_seq 3 (σ' := (44, [(7, .int (nI i)), (6, .int (nI dt)), (5, .int (nI dv)), (9, .int y9), (8, .int y8), (4, .int (nI (800 * t + 60))), (3, .int (nI (800 * t + 1 + 4 * c))), (0, .ref 185), (1, .int (nI t)), (2, .int (nI c))], [M 185 5, .int (nI i)], gSh, M)) rfl ?_
      rw [h5]
      refine ok_seq 3 (σ' := (47, [(7, .int (nI i)), (6, .int (nI dt)), (5, .int (nI dv)), (9, .int y9), (8, .int y8), (4, .int (nI (800 * t + 60))), (3, .int (nI (800 * t + 1 + 4 * c))), (0, .ref 185), (1, .int (nI t)), (2, .int (nI c))], [.int ((nI (800 * t + 1 + 4 * c)) + (Int32.ofInt 3)), .ref 188, .int (nI i)], gSh, M)) rfl ?_
      rw [cI_3, hI_add (800 * t + 1 + 4 * c) 3]
      refine ok_iald (n := 3200) (v := nI j) rfl rfl (hI_in (by omega) (by decide)) (by rw [hI_nat (by omega)]; exact hj) ?_
      refine ok_icmp 352 rfl rfl (fun hz => absurd hz (by simp only [pCP]; rw [hI_int (a := i) (by omega), hI_int (a := j) (by omega)]; omega)) (fun _ => ?_)
      refine ok_seq 2 (σ' := (55, [(7, .int (nI i)), (6, .int (nI dt)), (5, .int (nI dv)), (9, .int y9), (8, .int y8), (4, .int (nI (800 * t + 60))), (3, .int (nI (800 * t + 1 + 4 * c))), (0, .ref 185), (1, .int (nI t)), (2, .int (nI c))], [M 185 5], gSh, M)) rfl ?_
      rw [h5]
      refine ok_seq 5 (σ' := (62, [(7, .int (nI i)), (6, .int (nI dt)), (5, .int (nI dv)), (9, .int y9), (8, .int y8), (4, .int (nI (800 * t + 60))), (3, .int (nI (800 * t + 1 + 4 * c))), (0, .ref 185), (1, .int (nI t)), (2, .int (nI c))], [.int ((nI (800 * t + 60)) + ((Int32.ofInt 2) * (nI i))), .ref 188], gSh, M)) rfl ?_
      rw [cI_2, hI_mul 2 i, hI_add (800 * t + 60) (2 * i)]
      refine ok_iald (n := 3200) (v := oo) rfl rfl (hI_in (by omega) (by decide)) (by rw [hI_nat (by omega)]; exact ho) ?_
      refine ok_seq 3 (σ' := (69, [(8, .int oo), (7, .int (nI i)), (6, .int (nI dt)), (5, .int (nI dv)), (9, .int y9), (4, .int (nI (800 * t + 60))), (3, .int (nI (800 * t + 1 + 4 * c))), (0, .ref 185), (1, .int (nI t)), (2, .int (nI c))], [M 185 5], gSh, M)) rfl ?_
      rw [h5]
      refine ok_seq 7 (σ' := (78, [(8, .int oo), (7, .int (nI i)), (6, .int (nI dt)), (5, .int (nI dv)), (9, .int y9), (4, .int (nI (800 * t + 60))), (3, .int (nI (800 * t + 1 + 4 * c))), (0, .ref 185), (1, .int (nI t)), (2, .int (nI c))], [.int (((nI (800 * t + 60)) + ((Int32.ofInt 2) * (nI i))) + (Int32.ofInt 1)), .ref 188], gSh, M)) rfl ?_
      rw [cI_2, hI_mul 2 i, hI_add (800 * t + 60) (2 * i), cI_1, hI_add ((800 * t + 60) + (2 * i)) 1]
      refine ok_iald (n := 3200) (v := vv) rfl rfl (hI_in (by omega) (by decide)) (by rw [hI_nat (by omega)]; exact hvv) ?_
      refine ok_seq 3 (σ' := (84, [(9, .int vv), (8, .int oo), (7, .int (nI i)), (6, .int (nI dt)), (5, .int (nI dv)), (4, .int (nI (800 * t + 60))), (3, .int (nI (800 * t + 1 + 4 * c))), (0, .ref 185), (1, .int (nI t)), (2, .int (nI c))], [.int (Int32.ofInt 1), .int oo], gSh, M)) rfl ?_
      rw [cI_1]
      rcases hop with ⟨ho1, hD2⟩ | ⟨ho1, hv1, hv2, hD2⟩ | ⟨ho1, ho3, hD2⟩ | ⟨ho1, ho2, ho3, hD2⟩ | ⟨ho1, ho2, ho3, hD2⟩ | ⟨ho1, ho3, hD2⟩ | ⟨ho1, ho2, ho3, hD2⟩
      · refine ok_icmp 119 rfl rfl (fun hz => absurd hz (by simp only [pCP]; rw [hI_int (a := 1) (by omega)]; omega)) (fun _ => ?_)
        refine ok_seq 2 (σ' := (91, [(9, .int vv), (8, .int oo), (7, .int (nI i)), (6, .int (nI dt)), (5, .int (nI dv)), (4, .int (nI (800 * t + 60))), (3, .int (nI (800 * t + 1 + 4 * c))), (0, .ref 185), (1, .int (nI t)), (2, .int (nI c))], [M 185 26], gSh, M)) rfl ?_
        rw [h26]
        refine ok_seq 2 (σ' := (95, [(9, .int vv), (8, .int oo), (7, .int (nI i)), (6, .int (nI dt)), (5, .int (nI dv)), (4, .int (nI (800 * t + 60))), (3, .int (nI (800 * t + 1 + 4 * c))), (0, .ref 185), (1, .int (nI t)), (2, .int (nI c))], [.int oo, .int (nI dv), .ref 192], gSh, M)) rfl ?_
        refine ok_if 104 rfl rfl (fun hz => absurd hz (by simp only [pCP]; omega)) (fun _ => ?_)
        refine ok_seq 3 (σ' := (112, [(9, .int vv), (8, .int oo), (7, .int (nI i)), (6, .int (nI dt)), (5, .int (nI dv)), (4, .int (nI (800 * t + 60))), (3, .int (nI (800 * t + 1 + 4 * c))), (0, .ref 185), (1, .int (nI t)), (2, .int (nI c))], [.long ((vv).toInt64), .int (nI dv), .ref 192], gSh, M)) rfl ?_
        refine ok_last (n := 330) rfl rfl (hI_in (by omega) (by decide)) ?_
        rw [hI_nat (a := dv) (by omega)]
        refine ok_seq 4 (σ' := (38, [(7, .int ((nI i) + (Int32.ofInt 1))), (5, .int ((nI dv) + (Int32.ofInt 1))), (9, .int vv), (8, .int oo), (6, .int (nI dt)), (4, .int (nI (800 * t + 60))), (3, .int (nI (800 * t + 1 + 4 * c))), (0, .ref 185), (1, .int (nI t)), (2, .int (nI c))], [], gSh, pUp M 192 dv (.long ((vv).toInt64)))) rfl ?_
        rw [cI_1, hI_add i 1, hI_add dv 1]
        exact ih (i + 1) (dv + 1) dt _ _ (by omega) (by omega) hD2 (by omega) (by omega) (pu192 hT hM (by omega) _) (up192 _ _) (Or.inr ⟨oo, vv, Or.inr (Or.inr (Or.inl rfl))⟩)
      · obtain ⟨vn, hvn, evn⟩ := ty_nat (x := []) (hi := 10) ⟨vv, rfl, hv1, hv2⟩
        cases evn
        obtain ⟨nz, hnz⟩ := pt191 hT hM (k := vn) (by omega)
        refine ok_icmp 119 rfl rfl (fun hz => absurd hz (by simp only [pCP]; rw [hI_int (a := 1) (by omega)]; omega)) (fun _ => ?_)
        refine ok_seq 2 (σ' := (91, [(9, .int (nI vn)), (8, .int oo), (7, .int (nI i)), (6, .int (nI dt)), (5, .int (nI dv)), (4, .int (nI (800 * t + 60))), (3, .int (nI (800 * t + 1 + 4 * c))), (0, .ref 185), (1, .int (nI t)), (2, .int (nI c))], [M 185 26], gSh, M)) rfl ?_
        rw [h26]
        refine ok_seq 2 (σ' := (95, [(9, .int (nI vn)), (8, .int oo), (7, .int (nI i)), (6, .int (nI dt)), (5, .int (nI dv)), (4, .int (nI (800 * t + 60))), (3, .int (nI (800 * t + 1 + 4 * c))), (0, .ref 185), (1, .int (nI t)), (2, .int (nI c))], [.int oo, .int (nI dv), .ref 192], gSh, M)) rfl ?_
        refine ok_if 104 rfl rfl (fun _ => ?_) (fun hz => absurd (by simp only [pCP]; omega) hz)
        refine ok_seq 2 (σ' := (108, [(9, .int (nI vn)), (8, .int oo), (7, .int (nI i)), (6, .int (nI dt)), (5, .int (nI dv)), (4, .int (nI (800 * t + 60))), (3, .int (nI (800 * t + 1 + 4 * c))), (0, .ref 185), (1, .int (nI t)), (2, .int (nI c))], [M 185 25, .int (nI dv), .ref 192], gSh, M)) rfl ?_
        rw [h25]
        refine ok_seq 1 (σ' := (110, [(9, .int (nI vn)), (8, .int oo), (7, .int (nI i)), (6, .int (nI dt)), (5, .int (nI dv)), (4, .int (nI (800 * t + 60))), (3, .int (nI (800 * t + 1 + 4 * c))), (0, .ref 185), (1, .int (nI t)), (2, .int (nI c))], [.int (nI vn), .ref 191, .int (nI dv), .ref 192], gSh, M)) rfl ?_
        refine ok_iald (n := 11) (v := nz) rfl rfl (hI_in (by omega) (by decide)) (by rw [hI_nat (by omega)]; exact hnz) ?_
        refine ok_seq 1 (σ' := (112, [(9, .int (nI vn)), (8, .int oo), (7, .int (nI i)), (6, .int (nI dt)), (5, .int (nI dv)), (4, .int (nI (800 * t + 60))), (3, .int (nI (800 * t + 1 + 4 * c))), (0, .ref 185), (1, .int (nI t)), (2, .int (nI c))], [.long ((nz).toInt64), .int (nI dv), .ref 192], gSh, M)) rfl ?_
        refine ok_last (n := 330) rfl rfl (hI_in (by omega) (by decide)) ?_
        rw [hI_nat (a := dv) (by omega)]
        refine ok_seq 4 (σ' := (38, [(7, .int ((nI i) + (Int32.ofInt 1))), (5, .int ((nI dv) + (Int32.ofInt 1))), (9, .int (nI vn)), (8, .int oo), (6, .int (nI dt)), (4, .int (nI (800 * t + 60))), (3, .int (nI (800 * t + 1 + 4 * c))), (0, .ref 185), (1, .int (nI t)), (2, .int (nI c))], [], gSh, pUp M 192 dv (.long ((nz).toInt64)))) rfl ?_
        rw [cI_1, hI_add i 1, hI_add dv 1]
        exact ih (i + 1) (dv + 1) dt _ _ (by omega) (by omega) hD2 (by omega) (by omega) (pu192 hT hM (by omega) _) (up192 _ _) (Or.inr ⟨oo, nI vn, Or.inr (Or.inr (Or.inl rfl))⟩)
      · obtain ⟨z1, hz1⟩ := pt192 hT hM (k := dv - 1) (by omega)
        refine ok_icmp 119 rfl rfl (fun _ => ?_) (fun hz => absurd (by simp only [pCP]; rw [hI_int (a := 1) (by omega)]; omega) hz)
        refine ok_seq 2 (σ' := (122, [(9, .int vv), (8, .int oo), (7, .int (nI i)), (6, .int (nI dt)), (5, .int (nI dv)), (4, .int (nI (800 * t + 60))), (3, .int (nI (800 * t + 1 + 4 * c))), (0, .ref 185), (1, .int (nI t)), (2, .int (nI c))], [.int (Int32.ofInt 2), .int oo], gSh, M)) rfl ?_
        rw [cI_2]
        refine ok_icmp 147 rfl rfl (fun hz => absurd hz (by simp only [pCP]; rw [hI_int (a := 2) (by omega)]; omega)) (fun _ => ?_)
        refine ok_seq 2 (σ' := (129, [(9, .int vv), (8, .int oo), (7, .int (nI i)), (6, .int (nI dt)), (5, .int (nI dv)), (4, .int (nI (800 * t + 60))), (3, .int (nI (800 * t + 1 + 4 * c))), (0, .ref 185), (1, .int (nI t)), (2, .int (nI c))], [M 185 26], gSh, M)) rfl ?_
        rw [h26]
        refine ok_seq 5 (σ' := (137, [(9, .int vv), (8, .int oo), (7, .int (nI i)), (6, .int (nI dt)), (5, .int (nI dv)), (4, .int (nI (800 * t + 60))), (3, .int (nI (800 * t + 1 + 4 * c))), (0, .ref 185), (1, .int (nI t)), (2, .int (nI c))], [M 185 26, .int ((nI dv) - (Int32.ofInt 1)), .ref 192], gSh, M)) rfl ?_
        rw [h26]
        rw [cI_1, hI_sub dv 1 (by omega)]
        refine ok_seq 3 (σ' := (141, [(9, .int vv), (8, .int oo), (7, .int (nI i)), (6, .int (nI dt)), (5, .int (nI dv)), (4, .int (nI (800 * t + 60))), (3, .int (nI (800 * t + 1 + 4 * c))), (0, .ref 185), (1, .int (nI t)), (2, .int (nI c))], [.int ((nI dv) - (Int32.ofInt 1)), .ref 192, .int (nI (dv - 1)), .ref 192], gSh, M)) rfl ?_
        rw [cI_1, hI_sub dv 1 (by omega)]
        refine ok_lald (n := 330) (v := z1) rfl rfl (hI_in (by omega) (by decide)) (by rw [hI_nat (by omega)]; exact hz1) ?_
        refine ok_seq 1 (σ' := (143, [(9, .int vv), (8, .int oo), (7, .int (nI i)), (6, .int (nI dt)), (5, .int (nI dv)), (4, .int (nI (800 * t + 60))), (3, .int (nI (800 * t + 1 + 4 * c))), (0, .ref 185), (1, .int (nI t)), (2, .int (nI c))], [.long (-z1), .int (nI (dv - 1)), .ref 192], gSh, M)) rfl ?_
        refine ok_last (n := 330) rfl rfl (hI_in (by omega) (by decide)) ?_
        rw [hI_nat (a := dv - 1) (by omega)]
        refine ok_seq 3 (σ' := (38, [(7, .int ((nI i) + (Int32.ofInt 1))), (9, .int vv), (8, .int oo), (6, .int (nI dt)), (5, .int (nI dv)), (4, .int (nI (800 * t + 60))), (3, .int (nI (800 * t + 1 + 4 * c))), (0, .ref 185), (1, .int (nI t)), (2, .int (nI c))], [], gSh, pUp M 192 (dv - 1) (.long (-z1)))) rfl ?_
        rw [cI_1, hI_add i 1]
        exact ih (i + 1) dv dt _ _ (by omega) (by omega) hD2 (by omega) (by omega) (pu192 hT hM (by omega) _) (up192 _ _) (Or.inr ⟨oo, vv, Or.inr (Or.inl rfl)⟩)
      · obtain ⟨z1, hz1⟩ := pt192 hT hM (k := dv - 1 - 1) (by omega)
        obtain ⟨z2, hz2⟩ := pt192 hT hM (k := dv - 1) (by omega)
        obtain ⟨z3, hz3⟩ := c_pureL hH.1 (vs := [.int oo, .long z1, .long z2]) ⟨⟨oo, rfl, ho1, ho2⟩, sat_l _, sat_l _, trivial⟩ hM (hW.gr hg)
        refine ok_icmp 119 rfl rfl (fun _ => ?_) (fun hz => absurd (by simp only [pCP]; rw [hI_int (a := 1) (by omega)]; omega) hz)
        refine ok_seq 2 (σ' := (122, [(9, .int vv), (8, .int oo), (7, .int (nI i)), (6, .int (nI dt)), (5, .int (nI dv)), (4, .int (nI (800 * t + 60))), (3, .int (nI (800 * t + 1 + 4 * c))), (0, .ref 185), (1, .int (nI t)), (2, .int (nI c))], [.int (Int32.ofInt 2), .int oo], gSh, M)) rfl ?_
        rw [cI_2]
        refine ok_icmp 147 rfl rfl (fun _ => ?_) (fun hz => absurd (by simp only [pCP]; rw [hI_int (a := 2) (by omega)]; omega) hz)
        refine ok_seq 2 (σ' := (151, [(9, .int vv), (8, .int oo), (7, .int (nI i)), (6, .int (nI dt)), (5, .int (nI dv)), (4, .int (nI (800 * t + 60))), (3, .int (nI (800 * t + 1 + 4 * c))), (0, .ref 185), (1, .int (nI t)), (2, .int (nI c))], [.int ((Int8.ofInt 10).toInt32), .int oo], gSh, M)) rfl ?_
        rw [(show (Int8.ofInt 10).toInt32 = nI 10 by decide)]
        refine ok_icmp 190 rfl rfl (fun hz => absurd hz (by simp only [pCP]; rw [hI_int (a := 10) (by omega)]; omega)) (fun _ => ?_)
        refine ok_seq 3 (σ' := (161, [(5, .int ((nI dv) + Int32.ofInt (-1))), (9, .int vv), (8, .int oo), (7, .int (nI i)), (6, .int (nI dt)), (4, .int (nI (800 * t + 60))), (3, .int (nI (800 * t + 1 + 4 * c))), (0, .ref 185), (1, .int (nI t)), (2, .int (nI c))], [M 185 26], gSh, M)) rfl ?_
        rw [h26]
        rw [hI_d1 dv (by omega)]
        refine ok_seq 6 (σ' := (171, [(5, .int (nI (dv - 1))), (9, .int vv), (8, .int oo), (7, .int (nI i)), (6, .int (nI dt)), (4, .int (nI (800 * t + 60))), (3, .int (nI (800 * t + 1 + 4 * c))), (0, .ref 185), (1, .int (nI t)), (2, .int (nI c))], [M 185 26, .int oo, .int ((nI (dv - 1)) - (Int32.ofInt 1)), .ref 192], gSh, M)) rfl ?_
        rw [h26]
        rw [cI_1, hI_sub (dv - 1) 1 (by omega)]
        refine ok_seq 3 (σ' := (175, [(5, .int (nI (dv - 1))), (9, .int vv), (8, .int oo), (7, .int (nI i)), (6, .int (nI dt)), (4, .int (nI (800 * t + 60))), (3, .int (nI (800 * t + 1 + 4 * c))), (0, .ref 185), (1, .int (nI t)), (2, .int (nI c))], [.int ((nI (dv - 1)) - (Int32.ofInt 1)), .ref 192, .int oo, .int (nI ((dv - 1) - 1)), .ref 192], gSh, M)) rfl ?_
        rw [cI_1, hI_sub (dv - 1) 1 (by omega)]
        refine ok_lald (n := 330) (v := z1) rfl rfl (hI_in (by omega) (by decide)) (by rw [hI_nat (by omega)]; exact hz1) ?_
        refine ok_seq 2 (σ' := (180, [(5, .int (nI (dv - 1))), (9, .int vv), (8, .int oo), (7, .int (nI i)), (6, .int (nI dt)), (4, .int (nI (800 * t + 60))), (3, .int (nI (800 * t + 1 + 4 * c))), (0, .ref 185), (1, .int (nI t)), (2, .int (nI c))], [M 185 26, .long z1, .int oo, .int (nI ((dv - 1) - 1)), .ref 192], gSh, M)) rfl ?_
        rw [h26]
        refine ok_seq 1 (σ' := (182, [(5, .int (nI (dv - 1))), (9, .int vv), (8, .int oo), (7, .int (nI i)), (6, .int (nI dt)), (4, .int (nI (800 * t + 60))), (3, .int (nI (800 * t + 1 + 4 * c))), (0, .ref 185), (1, .int (nI t)), (2, .int (nI c))], [.int (nI (dv - 1)), .ref 192, .long z1, .int oo, .int (nI ((dv - 1) - 1)), .ref 192], gSh, M)) rfl ?_
        refine ok_lald (n := 330) (v := z2) rfl rfl (hI_in (by omega) (by decide)) (by rw [hI_nat (by omega)]; exact hz2) ?_
        refine ok_call (mi := 208) (as := [.int oo, .long z1, .long z2]) (pc' := 186) (L' := [(5, .int (nI (dv - 1))), (9, .int vv), (8, .int oo), (7, .int (nI i)), (6, .int (nI dt)), (4, .int (nI (800 * t + 60))), (3, .int (nI (800 * t + 1 + 4 * c))), (0, .ref 185), (1, .int (nI t)), (2, .int (nI c))]) (st' := [.int (nI ((dv - 1) - 1)), .ref 192]) (sh' := gSh) (M' := M) (i := .invokestatic 263) (len := 3) rfl rfl ?_
        refine ((hz3.deep (by omega))).mono ?_
        rintro v hp ⟨rfl, rfl⟩
        refine ok_last (n := 330) rfl rfl (hI_in (by omega) (by decide)) ?_
        rw [hI_nat (a := (dv - 1) - 1) (by omega)]
        refine ok_seq 3 (σ' := (38, [(7, .int ((nI i) + (Int32.ofInt 1))), (5, .int (nI (dv - 1))), (9, .int vv), (8, .int oo), (6, .int (nI dt)), (4, .int (nI (800 * t + 60))), (3, .int (nI (800 * t + 1 + 4 * c))), (0, .ref 185), (1, .int (nI t)), (2, .int (nI c))], [], gSh, pUp M 192 ((dv - 1) - 1) (.long z3))) rfl ?_
        rw [cI_1, hI_add i 1]
        exact ih (i + 1) (dv - 1) dt _ _ (by omega) (by omega) hD2 (by omega) (by omega) (pu192 hT hM (by omega) _) (up192 _ _) (Or.inr ⟨oo, vv, Or.inr (Or.inr (Or.inl rfl))⟩)
      · obtain ⟨z1, hz1⟩ := pt192 hT hM (k := dv - 2) (by omega)
        obtain ⟨z2, hz2⟩ := pt192 hT hM (k := dv - 2 + 1) (by omega)
        obtain ⟨z3, y1, y2, hz3⟩ := c_pure hH.2 (vs := [.int oo, .long z1, .long z2]) ⟨⟨oo, rfl, ho1, ho2⟩, sat_l _, sat_l _, trivial⟩ hM (hW.gr hg) (fun q hq => by cases hq)
        refine ok_icmp 119 rfl rfl (fun _ => ?_) (fun hz => absurd (by simp only [pCP]; rw [hI_int (a := 1) (by omega)]; omega) hz)
        refine ok_seq 2 (σ' := (122, [(9, .int vv), (8, .int oo), (7, .int (nI i)), (6, .int (nI dt)), (5, .int (nI dv)), (4, .int (nI (800 * t + 60))), (3, .int (nI (800 * t + 1 + 4 * c))), (0, .ref 185), (1, .int (nI t)), (2, .int (nI c))], [.int (Int32.ofInt 2), .int oo], gSh, M)) rfl ?_
        rw [cI_2]
        refine ok_icmp 147 rfl rfl (fun _ => ?_) (fun hz => absurd (by simp only [pCP]; rw [hI_int (a := 2) (by omega)]; omega) hz)
        refine ok_seq 2 (σ' := (151, [(9, .int vv), (8, .int oo), (7, .int (nI i)), (6, .int (nI dt)), (5, .int (nI dv)), (4, .int (nI (800 * t + 60))), (3, .int (nI (800 * t + 1 + 4 * c))), (0, .ref 185), (1, .int (nI t)), (2, .int (nI c))], [.int ((Int8.ofInt 10).toInt32), .int oo], gSh, M)) rfl ?_
        rw [(show (Int8.ofInt 10).toInt32 = nI 10 by decide)]
        refine ok_icmp 190 rfl rfl (fun _ => ?_) (fun hz => absurd (by simp only [pCP]; rw [hI_int (a := 10) (by omega)]; omega) hz)
        refine ok_seq 2 (σ' := (194, [(9, .int vv), (8, .int oo), (7, .int (nI i)), (6, .int (nI dt)), (5, .int (nI dv)), (4, .int (nI (800 * t + 60))), (3, .int (nI (800 * t + 1 + 4 * c))), (0, .ref 185), (1, .int (nI t)), (2, .int (nI c))], [.int ((Int8.ofInt 20).toInt32), .int oo], gSh, M)) rfl ?_
        rw [(show (Int8.ofInt 20).toInt32 = nI 20 by decide)]
        refine ok_icmp 234 rfl rfl (fun hz => absurd hz (by simp only [pCP]; rw [hI_int (a := 20) (by omega)]; omega)) (fun _ => ?_)
        refine ok_seq 3 (σ' := (204, [(5, .int ((nI dv) + Int32.ofInt (-2))), (9, .int vv), (8, .int oo), (7, .int (nI i)), (6, .int (nI dt)), (4, .int (nI (800 * t + 60))), (3, .int (nI (800 * t + 1 + 4 * c))), (0, .ref 185), (1, .int (nI t)), (2, .int (nI c))], [M 185 27], gSh, M)) rfl ?_
        rw [h27]
        rw [hI_d2 dv (by omega)]
        refine ok_seq 4 (σ' := (212, [(5, .int (nI (dv - 2))), (9, .int vv), (8, .int oo), (7, .int (nI i)), (6, .int (nI dt)), (4, .int (nI (800 * t + 60))), (3, .int (nI (800 * t + 1 + 4 * c))), (0, .ref 185), (1, .int (nI t)), (2, .int (nI c))], [M 185 26, .int oo, .int (nI dt), .ref 193], gSh, M)) rfl ?_
        rw [h26]
        refine ok_seq 1 (σ' := (214, [(5, .int (nI (dv - 2))), (9, .int vv), (8, .int oo), (7, .int (nI i)), (6, .int (nI dt)), (4, .int (nI (800 * t + 60))), (3, .int (nI (800 * t + 1 + 4 * c))), (0, .ref 185), (1, .int (nI t)), (2, .int (nI c))], [.int (nI (dv - 2)), .ref 192, .int oo, .int (nI dt), .ref 193], gSh, M)) rfl ?_
        refine ok_lald (n := 330) (v := z1) rfl rfl (hI_in (by omega) (by decide)) (by rw [hI_nat (by omega)]; exact hz1) ?_
        refine ok_seq 2 (σ' := (219, [(5, .int (nI (dv - 2))), (9, .int vv), (8, .int oo), (7, .int (nI i)), (6, .int (nI dt)), (4, .int (nI (800 * t + 60))), (3, .int (nI (800 * t + 1 + 4 * c))), (0, .ref 185), (1, .int (nI t)), (2, .int (nI c))], [M 185 26, .long z1, .int oo, .int (nI dt), .ref 193], gSh, M)) rfl ?_
        rw [h26]
        refine ok_seq 3 (σ' := (223, [(5, .int (nI (dv - 2))), (9, .int vv), (8, .int oo), (7, .int (nI i)), (6, .int (nI dt)), (4, .int (nI (800 * t + 60))), (3, .int (nI (800 * t + 1 + 4 * c))), (0, .ref 185), (1, .int (nI t)), (2, .int (nI c))], [.int ((nI (dv - 2)) + (Int32.ofInt 1)), .ref 192, .long z1, .int oo, .int (nI dt), .ref 193], gSh, M)) rfl ?_
        rw [cI_1, hI_add (dv - 2) 1]
        refine ok_lald (n := 330) (v := z2) rfl rfl (hI_in (by omega) (by decide)) (by rw [hI_nat (by omega)]; exact hz2) ?_
        refine ok_call (mi := 209) (as := [.int oo, .long z1, .long z2]) (pc' := 227) (L' := [(5, .int (nI (dv - 2))), (9, .int vv), (8, .int oo), (7, .int (nI i)), (6, .int (nI dt)), (4, .int (nI (800 * t + 60))), (3, .int (nI (800 * t + 1 + 4 * c))), (0, .ref 185), (1, .int (nI t)), (2, .int (nI c))]) (st' := [.int (nI dt), .ref 193]) (sh' := gSh) (M' := M) (i := .invokestatic 267) (len := 3) rfl rfl ?_
        refine ((hz3.deep (by omega))).mono ?_
        rintro v hp ⟨rfl, rfl⟩
        refine ok_bast (n := 330) rfl rfl (hI_in (by omega) (by decide)) ?_
        rw [hI_nat (a := dt) (by omega)]
        refine ok_seq 4 (σ' := (38, [(7, .int ((nI i) + (Int32.ofInt 1))), (6, .int ((nI dt) + (Int32.ofInt 1))), (5, .int (nI (dv - 2))), (9, .int vv), (8, .int oo), (4, .int (nI (800 * t + 60))), (3, .int (nI (800 * t + 1 + 4 * c))), (0, .ref 185), (1, .int (nI t)), (2, .int (nI c))], [], gSh, pUp M 193 dt (.int (z3 &&& 1)))) rfl ?_
        rw [cI_1, hI_add i 1, hI_add dt 1]
        exact ih (i + 1) (dv - 2) (dt + 1) _ _ (by omega) (by omega) hD2 (by omega) (by omega) (pu193 hT hM (by omega) (and1 _)) (up193 _ _) (Or.inr ⟨oo, vv, Or.inr (Or.inr (Or.inr (Or.inr (rfl))))⟩)
      · obtain ⟨tb, htb, hz1⟩ := pt193 hT hM (k := dt - 1) (by omega)
        refine ok_icmp 119 rfl rfl (fun _ => ?_) (fun hz => absurd (by simp only [pCP]; rw [hI_int (a := 1) (by omega)]; omega) hz)
        refine ok_seq 2 (σ' := (122, [(9, .int vv), (8, .int oo), (7, .int (nI i)), (6, .int (nI dt)), (5, .int (nI dv)), (4, .int (nI (800 * t + 60))), (3, .int (nI (800 * t + 1 + 4 * c))), (0, .ref 185), (1, .int (nI t)), (2, .int (nI c))], [.int (Int32.ofInt 2), .int oo], gSh, M)) rfl ?_
        rw [cI_2]
        refine ok_icmp 147 rfl rfl (fun _ => ?_) (fun hz => absurd (by simp only [pCP]; rw [hI_int (a := 2) (by omega)]; omega) hz)
        refine ok_seq 2 (σ' := (151, [(9, .int vv), (8, .int oo), (7, .int (nI i)), (6, .int (nI dt)), (5, .int (nI dv)), (4, .int (nI (800 * t + 60))), (3, .int (nI (800 * t + 1 + 4 * c))), (0, .ref 185), (1, .int (nI t)), (2, .int (nI c))], [.int ((Int8.ofInt 10).toInt32), .int oo], gSh, M)) rfl ?_
        rw [(show (Int8.ofInt 10).toInt32 = nI 10 by decide)]
        refine ok_icmp 190 rfl rfl (fun _ => ?_) (fun hz => absurd (by simp only [pCP]; rw [hI_int (a := 10) (by omega)]; omega) hz)
        refine ok_seq 2 (σ' := (194, [(9, .int vv), (8, .int oo), (7, .int (nI i)), (6, .int (nI dt)), (5, .int (nI dv)), (4, .int (nI (800 * t + 60))), (3, .int (nI (800 * t + 1 + 4 * c))), (0, .ref 185), (1, .int (nI t)), (2, .int (nI c))], [.int ((Int8.ofInt 20).toInt32), .int oo], gSh, M)) rfl ?_
        rw [(show (Int8.ofInt 20).toInt32 = nI 20 by decide)]
        refine ok_icmp 234 rfl rfl (fun _ => ?_) (fun hz => absurd (by simp only [pCP]; rw [hI_int (a := 20) (by omega)]; omega) hz)
        refine ok_seq 2 (σ' := (238, [(9, .int vv), (8, .int oo), (7, .int (nI i)), (6, .int (nI dt)), (5, .int (nI dv)), (4, .int (nI (800 * t + 60))), (3, .int (nI (800 * t + 1 + 4 * c))), (0, .ref 185), (1, .int (nI t)), (2, .int (nI c))], [.int ((Int8.ofInt 20).toInt32), .int oo], gSh, M)) rfl ?_
        rw [(show (Int8.ofInt 20).toInt32 = nI 20 by decide)]
        refine ok_icmp 270 rfl rfl (fun hz => absurd hz (by simp only [pCP]; rw [hI_int (a := 20) (by omega)]; omega)) (fun _ => ?_)
        refine ok_seq 2 (σ' := (245, [(9, .int vv), (8, .int oo), (7, .int (nI i)), (6, .int (nI dt)), (5, .int (nI dv)), (4, .int (nI (800 * t + 60))), (3, .int (nI (800 * t + 1 + 4 * c))), (0, .ref 185), (1, .int (nI t)), (2, .int (nI c))], [M 185 27], gSh, M)) rfl ?_
        rw [h27]
        refine ok_seq 5 (σ' := (253, [(9, .int vv), (8, .int oo), (7, .int (nI i)), (6, .int (nI dt)), (5, .int (nI dv)), (4, .int (nI (800 * t + 60))), (3, .int (nI (800 * t + 1 + 4 * c))), (0, .ref 185), (1, .int (nI t)), (2, .int (nI c))], [M 185 27, .int ((nI dt) - (Int32.ofInt 1)), .ref 193], gSh, M)) rfl ?_
        rw [h27]
        rw [cI_1, hI_sub dt 1 (by omega)]
        refine ok_seq 3 (σ' := (257, [(9, .int vv), (8, .int oo), (7, .int (nI i)), (6, .int (nI dt)), (5, .int (nI dv)), (4, .int (nI (800 * t + 60))), (3, .int (nI (800 * t + 1 + 4 * c))), (0, .ref 185), (1, .int (nI t)), (2, .int (nI c))], [.int ((nI dt) - (Int32.ofInt 1)), .ref 193, .int (nI (dt - 1)), .ref 193], gSh, M)) rfl ?_
        rw [cI_1, hI_sub dt 1 (by omega)]
        refine ok_bald (n := 330) (v := nI tb) rfl rfl (hI_in (by omega) (by decide)) (by rw [hI_nat (by omega)]; exact hz1) ?_
        refine ok_if 265 rfl rfl ?_ ?_
        · intro hb
          simp only [pCP] at hb
          rw [hI_int (a := tb) (by omega)] at hb
          have hb : ((tb : Nat) : Int) ≠ (0 : Int) := by omega
          refine ok_seq 1 (σ' := (266, [(9, .int vv), (8, .int oo), (7, .int (nI i)), (6, .int (nI dt)), (5, .int (nI dv)), (4, .int (nI (800 * t + 60))), (3, .int (nI (800 * t + 1 + 4 * c))), (0, .ref 185), (1, .int (nI t)), (2, .int (nI c))], [.int (Int32.ofInt 0), .int (nI (dt - 1)), .ref 193], gSh, M)) rfl ?_
          rw [cI_0]
          refine ok_bast (n := 330) rfl rfl (hI_in (by omega) (by decide)) ?_
          rw [hI_nat (a := dt - 1) (by omega)]
          refine ok_seq 3 (σ' := (38, [(7, .int ((nI i) + (Int32.ofInt 1))), (9, .int vv), (8, .int oo), (6, .int (nI dt)), (5, .int (nI dv)), (4, .int (nI (800 * t + 60))), (3, .int (nI (800 * t + 1 + 4 * c))), (0, .ref 185), (1, .int (nI t)), (2, .int (nI c))], [], gSh, pUp M 193 (dt - 1) (.int ((nI 0) &&& 1)))) rfl ?_
          rw [cI_1, hI_add i 1]
          exact ih (i + 1) dv dt _ _ (by omega) (by omega) hD2 (by omega) (by omega) (pu193 hT hM (by omega) (and1 _)) (up193 _ _) (Or.inr ⟨oo, vv, Or.inr (Or.inl rfl)⟩)
        · intro hb
          simp only [pCP] at hb
          rw [hI_int (a := tb) (by omega)] at hb
          have hb : ((tb : Nat) : Int) = (0 : Int) := by omega
          refine ok_seq 2 (σ' := (266, [(9, .int vv), (8, .int oo), (7, .int (nI i)), (6, .int (nI dt)), (5, .int (nI dv)), (4, .int (nI (800 * t + 60))), (3, .int (nI (800 * t + 1 + 4 * c))), (0, .ref 185), (1, .int (nI t)), (2, .int (nI c))], [.int (Int32.ofInt 1), .int (nI (dt - 1)), .ref 193], gSh, M)) rfl ?_
          rw [cI_1]
          refine ok_bast (n := 330) rfl rfl (hI_in (by omega) (by decide)) ?_
          rw [hI_nat (a := dt - 1) (by omega)]
          refine ok_seq 3 (σ' := (38, [(7, .int ((nI i) + (Int32.ofInt 1))), (9, .int vv), (8, .int oo), (6, .int (nI dt)), (5, .int (nI dv)), (4, .int (nI (800 * t + 60))), (3, .int (nI (800 * t + 1 + 4 * c))), (0, .ref 185), (1, .int (nI t)), (2, .int (nI c))], [], gSh, pUp M 193 (dt - 1) (.int ((nI 1) &&& 1)))) rfl ?_
          rw [cI_1, hI_add i 1]
          exact ih (i + 1) dv dt _ _ (by omega) (by omega) hD2 (by omega) (by omega) (pu193 hT hM (by omega) (and1 _)) (up193 _ _) (Or.inr ⟨oo, vv, Or.inr (Or.inl rfl)⟩)
      · obtain ⟨ta, hta, hz1⟩ := pt193 hT hM (k := dt - 1 - 1) (by omega)
        obtain ⟨tb, htb, hz2⟩ := pt193 hT hM (k := dt - 1) (by omega)
        refine ok_icmp 119 rfl rfl (fun _ => ?_) (fun hz => absurd (by simp only [pCP]; rw [hI_int (a := 1) (by omega)]; omega) hz)
        refine ok_seq 2 (σ' := (122, [(9, .int vv), (8, .int oo), (7, .int (nI i)), (6, .int (nI dt)), (5, .int (nI dv)), (4, .int (nI (800 * t + 60))), (3, .int (nI (800 * t + 1 + 4 * c))), (0, .ref 185), (1, .int (nI t)), (2, .int (nI c))], [.int (Int32.ofInt 2), .int oo], gSh, M)) rfl ?_
        rw [cI_2]
        refine ok_icmp 147 rfl rfl (fun _ => ?_) (fun hz => absurd (by simp only [pCP]; rw [hI_int (a := 2) (by omega)]; omega) hz)
        refine ok_seq 2 (σ' := (151, [(9, .int vv), (8, .int oo), (7, .int (nI i)), (6, .int (nI dt)), (5, .int (nI dv)), (4, .int (nI (800 * t + 60))), (3, .int (nI (800 * t + 1 + 4 * c))), (0, .ref 185), (1, .int (nI t)), (2, .int (nI c))], [.int ((Int8.ofInt 10).toInt32), .int oo], gSh, M)) rfl ?_
        rw [(show (Int8.ofInt 10).toInt32 = nI 10 by decide)]
        refine ok_icmp 190 rfl rfl (fun _ => ?_) (fun hz => absurd (by simp only [pCP]; rw [hI_int (a := 10) (by omega)]; omega) hz)
        refine ok_seq 2 (σ' := (194, [(9, .int vv), (8, .int oo), (7, .int (nI i)), (6, .int (nI dt)), (5, .int (nI dv)), (4, .int (nI (800 * t + 60))), (3, .int (nI (800 * t + 1 + 4 * c))), (0, .ref 185), (1, .int (nI t)), (2, .int (nI c))], [.int ((Int8.ofInt 20).toInt32), .int oo], gSh, M)) rfl ?_
        rw [(show (Int8.ofInt 20).toInt32 = nI 20 by decide)]
        refine ok_icmp 234 rfl rfl (fun _ => ?_) (fun hz => absurd (by simp only [pCP]; rw [hI_int (a := 20) (by omega)]; omega) hz)
        refine ok_seq 2 (σ' := (238, [(9, .int vv), (8, .int oo), (7, .int (nI i)), (6, .int (nI dt)), (5, .int (nI dv)), (4, .int (nI (800 * t + 60))), (3, .int (nI (800 * t + 1 + 4 * c))), (0, .ref 185), (1, .int (nI t)), (2, .int (nI c))], [.int ((Int8.ofInt 20).toInt32), .int oo], gSh, M)) rfl ?_
        rw [(show (Int8.ofInt 20).toInt32 = nI 20 by decide)]
        refine ok_icmp 270 rfl rfl (fun _ => ?_) (fun hz => absurd (by simp only [pCP]; rw [hI_int (a := 20) (by omega)]; omega) hz)
        refine ok_seq 3 (σ' := (277, [(6, .int ((nI dt) + Int32.ofInt (-1))), (9, .int vv), (8, .int oo), (7, .int (nI i)), (5, .int (nI dv)), (4, .int (nI (800 * t + 60))), (3, .int (nI (800 * t + 1 + 4 * c))), (0, .ref 185), (1, .int (nI t)), (2, .int (nI c))], [M 185 27], gSh, M)) rfl ?_
        rw [h27]
        rw [hI_d1 dt (by omega)]
        refine ok_seq 5 (σ' := (285, [(6, .int (nI (dt - 1))), (9, .int vv), (8, .int oo), (7, .int (nI i)), (5, .int (nI dv)), (4, .int (nI (800 * t + 60))), (3, .int (nI (800 * t + 1 + 4 * c))), (0, .ref 185), (1, .int (nI t)), (2, .int (nI c))], [.int ((Int8.ofInt 21).toInt32), .int oo, .int ((nI (dt - 1)) - (Int32.ofInt 1)), .ref 193], gSh, M)) rfl ?_
        rw [cI_1, hI_sub (dt - 1) 1 (by omega), (show (Int8.ofInt 21).toInt32 = nI 21 by decide)]
        refine ok_icmp 318 rfl rfl ?_ ?_
        · intro hao
          simp only [pCP] at hao
          rw [hI_int (a := 21) (by omega)] at hao
          have hao : (oo).toInt ≠ ((21 : Nat) : Int) := by omega
          refine ok_seq 2 (σ' := (322, [(6, .int (nI (dt - 1))), (9, .int vv), (8, .int oo), (7, .int (nI i)), (5, .int (nI dv)), (4, .int (nI (800 * t + 60))), (3, .int (nI (800 * t + 1 + 4 * c))), (0, .ref 185), (1, .int (nI t)), (2, .int (nI c))], [M 185 27, .int (nI ((dt - 1) - 1)), .ref 193], gSh, M)) rfl ?_
          rw [h27]
          refine ok_seq 3 (σ' := (326, [(6, .int (nI (dt - 1))), (9, .int vv), (8, .int oo), (7, .int (nI i)), (5, .int (nI dv)), (4, .int (nI (800 * t + 60))), (3, .int (nI (800 * t + 1 + 4 * c))), (0, .ref 185), (1, .int (nI t)), (2, .int (nI c))], [.int ((nI (dt - 1)) - (Int32.ofInt 1)), .ref 193, .int (nI ((dt - 1) - 1)), .ref 193], gSh, M)) rfl ?_
          rw [cI_1, hI_sub (dt - 1) 1 (by omega)]
          refine ok_bald (n := 330) (v := nI ta) rfl rfl (hI_in (by omega) (by decide)) (by rw [hI_nat (by omega)]; exact hz1) ?_
          refine ok_if 340 rfl rfl ?_ ?_
          · intro hb1
            simp only [pCP] at hb1
            rw [hI_int (a := ta) (by omega)] at hb1
            have hb1 : ((ta : Nat) : Int) ≠ (0 : Int) := by omega
            refine ok_seq 2 (σ' := (345, [(6, .int (nI (dt - 1))), (9, .int vv), (8, .int oo), (7, .int (nI i)), (5, .int (nI dv)), (4, .int (nI (800 * t + 60))), (3, .int (nI (800 * t + 1 + 4 * c))), (0, .ref 185), (1, .int (nI t)), (2, .int (nI c))], [.int (Int32.ofInt 1), .int (nI ((dt - 1) - 1)), .ref 193], gSh, M)) rfl ?_
            rw [cI_1]
            refine ok_bast (n := 330) rfl rfl (hI_in (by omega) (by decide)) ?_
            rw [hI_nat (a := (dt - 1) - 1) (by omega)]
            refine ok_seq 2 (σ' := (38, [(7, .int ((nI i) + (Int32.ofInt 1))), (6, .int (nI (dt - 1))), (9, .int vv), (8, .int oo), (5, .int (nI dv)), (4, .int (nI (800 * t + 60))), (3, .int (nI (800 * t + 1 + 4 * c))), (0, .ref 185), (1, .int (nI t)), (2, .int (nI c))], [], gSh, pUp M 193 ((dt - 1) - 1) (.int ((nI 1) &&& 1)))) rfl ?_
            rw [cI_1, hI_add i 1]
            exact ih (i + 1) dv (dt - 1) _ _ (by omega) (by omega) hD2 (by omega) (by omega) (pu193 hT hM (by omega) (and1 _)) (up193 _ _) (Or.inr ⟨oo, vv, Or.inr (Or.inr (Or.inr (Or.inl rfl)))⟩)
          · intro hb1
            simp only [pCP] at hb1
            rw [hI_int (a := ta) (by omega)] at hb1
            have hb1 : ((ta : Nat) : Int) = (0 : Int) := by omega
            refine ok_seq 2 (σ' := (334, [(6, .int (nI (dt - 1))), (9, .int vv), (8, .int oo), (7, .int (nI i)), (5, .int (nI dv)), (4, .int (nI (800 * t + 60))), (3, .int (nI (800 * t + 1 + 4 * c))), (0, .ref 185), (1, .int (nI t)), (2, .int (nI c))], [M 185 27, .int (nI ((dt - 1) - 1)), .ref 193], gSh, M)) rfl ?_
            rw [h27]
            refine ok_seq 1 (σ' := (336, [(6, .int (nI (dt - 1))), (9, .int vv), (8, .int oo), (7, .int (nI i)), (5, .int (nI dv)), (4, .int (nI (800 * t + 60))), (3, .int (nI (800 * t + 1 + 4 * c))), (0, .ref 185), (1, .int (nI t)), (2, .int (nI c))], [.int (nI (dt - 1)), .ref 193, .int (nI ((dt - 1) - 1)), .ref 193], gSh, M)) rfl ?_
            refine ok_bald (n := 330) (v := nI tb) rfl rfl (hI_in (by omega) (by decide)) (by rw [hI_nat (by omega)]; exact hz2) ?_
            refine ok_if 344 rfl rfl ?_ ?_
            · intro hb2
              simp only [pCP] at hb2
              rw [hI_int (a := tb) (by omega)] at hb2
              have hb2 : ((tb : Nat) : Int) = (0 : Int) := by omega
              refine ok_seq 1 (σ' := (345, [(6, .int (nI (dt - 1))), (9, .int vv), (8, .int oo), (7, .int (nI i)), (5, .int (nI dv)), (4, .int (nI (800 * t + 60))), (3, .int (nI (800 * t + 1 + 4 * c))), (0, .ref 185), (1, .int (nI t)), (2, .int (nI c))], [.int (Int32.ofInt 0), .int (nI ((dt - 1) - 1)), .ref 193], gSh, M)) rfl ?_
              rw [cI_0]
              refine ok_bast (n := 330) rfl rfl (hI_in (by omega) (by decide)) ?_
              rw [hI_nat (a := (dt - 1) - 1) (by omega)]
              refine ok_seq 2 (σ' := (38, [(7, .int ((nI i) + (Int32.ofInt 1))), (6, .int (nI (dt - 1))), (9, .int vv), (8, .int oo), (5, .int (nI dv)), (4, .int (nI (800 * t + 60))), (3, .int (nI (800 * t + 1 + 4 * c))), (0, .ref 185), (1, .int (nI t)), (2, .int (nI c))], [], gSh, pUp M 193 ((dt - 1) - 1) (.int ((nI 0) &&& 1)))) rfl ?_
              rw [cI_1, hI_add i 1]
              exact ih (i + 1) dv (dt - 1) _ _ (by omega) (by omega) hD2 (by omega) (by omega) (pu193 hT hM (by omega) (and1 _)) (up193 _ _) (Or.inr ⟨oo, vv, Or.inr (Or.inr (Or.inr (Or.inl rfl)))⟩)
            · intro hb2
              simp only [pCP] at hb2
              rw [hI_int (a := tb) (by omega)] at hb2
              have hb2 : ((tb : Nat) : Int) ≠ (0 : Int) := by omega
              refine ok_seq 2 (σ' := (345, [(6, .int (nI (dt - 1))), (9, .int vv), (8, .int oo), (7, .int (nI i)), (5, .int (nI dv)), (4, .int (nI (800 * t + 60))), (3, .int (nI (800 * t + 1 + 4 * c))), (0, .ref 185), (1, .int (nI t)), (2, .int (nI c))], [.int (Int32.ofInt 1), .int (nI ((dt - 1) - 1)), .ref 193], gSh, M)) rfl ?_
              rw [cI_1]
              refine ok_bast (n := 330) rfl rfl (hI_in (by omega) (by decide)) ?_
              rw [hI_nat (a := (dt - 1) - 1) (by omega)]
              refine ok_seq 2 (σ' := (38, [(7, .int ((nI i) + (Int32.ofInt 1))), (6, .int (nI (dt - 1))), (9, .int vv), (8, .int oo), (5, .int (nI dv)), (4, .int (nI (800 * t + 60))), (3, .int (nI (800 * t + 1 + 4 * c))), (0, .ref 185), (1, .int (nI t)), (2, .int (nI c))], [], gSh, pUp M 193 ((dt - 1) - 1) (.int ((nI 1) &&& 1)))) rfl ?_
              rw [cI_1, hI_add i 1]
              exact ih (i + 1) dv (dt - 1) _ _ (by omega) (by omega) hD2 (by omega) (by omega) (pu193 hT hM (by omega) (and1 _)) (up193 _ _) (Or.inr ⟨oo, vv, Or.inr (Or.inr (Or.inr (Or.inl rfl)))⟩)
        · intro hao
          simp only [pCP] at hao
          rw [hI_int (a := 21) (by omega)] at hao
          have hao : (oo).toInt = ((21 : Nat) : Int) := by omega
          refine ok_seq 2 (σ' := (292, [(6, .int (nI (dt - 1))), (9, .int vv), (8, .int oo), (7, .int (nI i)), (5, .int (nI dv)), (4, .int (nI (800 * t + 60))), (3, .int (nI (800 * t + 1 + 4 * c))), (0, .ref 185), (1, .int (nI t)), (2, .int (nI c))], [M 185 27, .int (nI ((dt - 1) - 1)), .ref 193], gSh, M)) rfl ?_
          rw [h27]
          refine ok_seq 3 (σ' := (296, [(6, .int (nI (dt - 1))), (9, .int vv), (8, .int oo), (7, .int (nI i)), (5, .int (nI dv)), (4, .int (nI (800 * t + 60))), (3, .int (nI (800 * t + 1 + 4 * c))), (0, .ref 185), (1, .int (nI t)), (2, .int (nI c))], [.int ((nI (dt - 1)) - (Int32.ofInt 1)), .ref 193, .int (nI ((dt - 1) - 1)), .ref 193], gSh, M)) rfl ?_
          rw [cI_1, hI_sub (dt - 1) 1 (by omega)]
          refine ok_bald (n := 330) (v := nI ta) rfl rfl (hI_in (by omega) (by decide)) (by rw [hI_nat (by omega)]; exact hz1) ?_
          refine ok_if 314 rfl rfl ?_ ?_
          · intro hb1
            simp only [pCP] at hb1
            rw [hI_int (a := ta) (by omega)] at hb1
            have hb1 : ((ta : Nat) : Int) = (0 : Int) := by omega
            refine ok_seq 2 (σ' := (345, [(6, .int (nI (dt - 1))), (9, .int vv), (8, .int oo), (7, .int (nI i)), (5, .int (nI dv)), (4, .int (nI (800 * t + 60))), (3, .int (nI (800 * t + 1 + 4 * c))), (0, .ref 185), (1, .int (nI t)), (2, .int (nI c))], [.int (Int32.ofInt 0), .int (nI ((dt - 1) - 1)), .ref 193], gSh, M)) rfl ?_
            rw [cI_0]
            refine ok_bast (n := 330) rfl rfl (hI_in (by omega) (by decide)) ?_
            rw [hI_nat (a := (dt - 1) - 1) (by omega)]
            refine ok_seq 2 (σ' := (38, [(7, .int ((nI i) + (Int32.ofInt 1))), (6, .int (nI (dt - 1))), (9, .int vv), (8, .int oo), (5, .int (nI dv)), (4, .int (nI (800 * t + 60))), (3, .int (nI (800 * t + 1 + 4 * c))), (0, .ref 185), (1, .int (nI t)), (2, .int (nI c))], [], gSh, pUp M 193 ((dt - 1) - 1) (.int ((nI 0) &&& 1)))) rfl ?_
            rw [cI_1, hI_add i 1]
            exact ih (i + 1) dv (dt - 1) _ _ (by omega) (by omega) hD2 (by omega) (by omega) (pu193 hT hM (by omega) (and1 _)) (up193 _ _) (Or.inr ⟨oo, vv, Or.inr (Or.inr (Or.inr (Or.inl rfl)))⟩)
          · intro hb1
            simp only [pCP] at hb1
            rw [hI_int (a := ta) (by omega)] at hb1
            have hb1 : ((ta : Nat) : Int) ≠ (0 : Int) := by omega
            refine ok_seq 2 (σ' := (304, [(6, .int (nI (dt - 1))), (9, .int vv), (8, .int oo), (7, .int (nI i)), (5, .int (nI dv)), (4, .int (nI (800 * t + 60))), (3, .int (nI (800 * t + 1 + 4 * c))), (0, .ref 185), (1, .int (nI t)), (2, .int (nI c))], [M 185 27, .int (nI ((dt - 1) - 1)), .ref 193], gSh, M)) rfl ?_
            rw [h27]
            refine ok_seq 1 (σ' := (306, [(6, .int (nI (dt - 1))), (9, .int vv), (8, .int oo), (7, .int (nI i)), (5, .int (nI dv)), (4, .int (nI (800 * t + 60))), (3, .int (nI (800 * t + 1 + 4 * c))), (0, .ref 185), (1, .int (nI t)), (2, .int (nI c))], [.int (nI (dt - 1)), .ref 193, .int (nI ((dt - 1) - 1)), .ref 193], gSh, M)) rfl ?_
            refine ok_bald (n := 330) (v := nI tb) rfl rfl (hI_in (by omega) (by decide)) (by rw [hI_nat (by omega)]; exact hz2) ?_
            refine ok_if 314 rfl rfl ?_ ?_
            · intro hb2
              simp only [pCP] at hb2
              rw [hI_int (a := tb) (by omega)] at hb2
              have hb2 : ((tb : Nat) : Int) = (0 : Int) := by omega
              refine ok_seq 2 (σ' := (345, [(6, .int (nI (dt - 1))), (9, .int vv), (8, .int oo), (7, .int (nI i)), (5, .int (nI dv)), (4, .int (nI (800 * t + 60))), (3, .int (nI (800 * t + 1 + 4 * c))), (0, .ref 185), (1, .int (nI t)), (2, .int (nI c))], [.int (Int32.ofInt 0), .int (nI ((dt - 1) - 1)), .ref 193], gSh, M)) rfl ?_
              rw [cI_0]
              refine ok_bast (n := 330) rfl rfl (hI_in (by omega) (by decide)) ?_
              rw [hI_nat (a := (dt - 1) - 1) (by omega)]
              refine ok_seq 2 (σ' := (38, [(7, .int ((nI i) + (Int32.ofInt 1))), (6, .int (nI (dt - 1))), (9, .int vv), (8, .int oo), (5, .int (nI dv)), (4, .int (nI (800 * t + 60))), (3, .int (nI (800 * t + 1 + 4 * c))), (0, .ref 185), (1, .int (nI t)), (2, .int (nI c))], [], gSh, pUp M 193 ((dt - 1) - 1) (.int ((nI 0) &&& 1)))) rfl ?_
              rw [cI_1, hI_add i 1]
              exact ih (i + 1) dv (dt - 1) _ _ (by omega) (by omega) hD2 (by omega) (by omega) (pu193 hT hM (by omega) (and1 _)) (up193 _ _) (Or.inr ⟨oo, vv, Or.inr (Or.inr (Or.inr (Or.inl rfl)))⟩)
            · intro hb2
              simp only [pCP] at hb2
              rw [hI_int (a := tb) (by omega)] at hb2
              have hb2 : ((tb : Nat) : Int) ≠ (0 : Int) := by omega
              refine ok_seq 2 (σ' := (345, [(6, .int (nI (dt - 1))), (9, .int vv), (8, .int oo), (7, .int (nI i)), (5, .int (nI dv)), (4, .int (nI (800 * t + 60))), (3, .int (nI (800 * t + 1 + 4 * c))), (0, .ref 185), (1, .int (nI t)), (2, .int (nI c))], [.int (Int32.ofInt 1), .int (nI ((dt - 1) - 1)), .ref 193], gSh, M)) rfl ?_
              rw [cI_1]
              refine ok_bast (n := 330) rfl rfl (hI_in (by omega) (by decide)) ?_
              rw [hI_nat (a := (dt - 1) - 1) (by omega)]
              refine ok_seq 2 (σ' := (38, [(7, .int ((nI i) + (Int32.ofInt 1))), (6, .int (nI (dt - 1))), (9, .int vv), (8, .int oo), (5, .int (nI dv)), (4, .int (nI (800 * t + 60))), (3, .int (nI (800 * t + 1 + 4 * c))), (0, .ref 185), (1, .int (nI t)), (2, .int (nI c))], [], gSh, pUp M 193 ((dt - 1) - 1) (.int ((nI 1) &&& 1)))) rfl ?_
              rw [cI_1, hI_add i 1]
              exact ih (i + 1) dv (dt - 1) _ _ (by omega) (by omega) hD2 (by omega) (by omega) (pu193 hT hM (by omega) (and1 _)) (up193 _ _) (Or.inr ⟨oo, vv, Or.inr (Or.inr (Or.inr (Or.inl rfl)))⟩)
theorem c_work {S : pScr} {d dW t c n : Nat} {τ : fT} {M : pMem} (hT : pW τ) (hH : WH τ S dW) (hM : tyM (tOf τ) M) (hg : gR M) (ht : t < 4) (hn : M 188 (800 * t) = .int (nI n)) (hcn : c < n) (hn12 : n ≤ 12) : cOk S (d + dW + 2) 210 [.ref 185, .int (nI t), .int (nI c)] (gSh, M) (fun r hp => r = none ∧ hp.1 = gSh ∧ tyM (tOf τ) hp.2 ∧ WF M hp.2) := by
  obtain ⟨n', h1, h2, h3⟩ := hg.2.2 t ht
  have e : n' = n := by
    rw [hn] at h2
    injection h2 with h2
    have e1 := congrArg Int32.toInt h2
    rw [hI_int (a := n) (by omega), show Int32.ofNat n' = nI n' from rfl, hI_int (a := n') (by omega)] at e1
    omega
  subst e
  obtain ⟨i, j, dd, g1, g2, g3, g4, Dp, g5, g6, g7⟩ := h3 c hcn
  have g1 : M 188 (800 * t + 1 + 4 * c + 2) = .int (nI i) := g1
  have g2 : M 188 (800 * t + 1 + 4 * c + 3) = .int (nI j) := g2
  have h5 := ty_ref (pty hT.1 hM 1 rfl rfl)
  refine c_of_ok (Nat.le_of_ble_eq_true rfl) ?_
  refine ok_seq 22 (σ' := (32, [(6, .int (Int32.ofInt 0)), (5, .int (Int32.ofInt 0)), (4, .int ((((Int16.ofInt 800).toInt32) * (nI t)) + ((Int8.ofInt 60).toInt32))), (3, .int (((((Int16.ofInt 800).toInt32) * (nI t)) + (Int32.ofInt 1)) + ((Int32.ofInt 4) * (nI c)))), (0, .ref 185), (1, .int (nI t)), (2, .int (nI c))], [M 185 5], gSh, M)) rfl ?_
  rw [h5]
  rw [cI_0, (show (Int16.ofInt 800).toInt32 = nI 800 by decide), hI_mul 800 t, (show (Int8.ofInt 60).toInt32 = nI 60 by decide), hI_add (800 * t) 60, cI_1, hI_add (800 * t) 1, cI_4, hI_mul 4 c, hI_add ((800 * t) + 1) (4 * c)]
  refine ok_seq 3 (σ' := (35, [(6, .int (nI 0)), (5, .int (nI 0)), (4, .int (nI ((800 * t) + 60))), (3, .int (nI (((800 * t) + 1) + (4 * c)))), (0, .ref 185), (1, .int (nI t)), (2, .int (nI c))], [.int ((nI (((800 * t) + 1) + (4 * c))) + (Int32.ofInt 2)), .ref 188], gSh, M)) rfl ?_
  rw [cI_2, hI_add (((800 * t) + 1) + (4 * c)) 2]
  refine ok_iald (n := 3200) (v := nI i) rfl rfl (hI_in (by omega) (by decide)) (by rw [hI_nat (by omega)]; exact g1) ?_
  refine ok_seq 1 (σ' := (38, [(7, .int (nI i)), (6, .int (nI 0)), (5, .int (nI 0)), (4, .int (nI ((800 * t) + 60))), (3, .int (nI (((800 * t) + 1) + (4 * c)))), (0, .ref 185), (1, .int (nI t)), (2, .int (nI c))], [], gSh, M)) rfl ?_
  exact wk_loop (Q := fun r hp => r = none ∧ hp.1 = gSh ∧ tyM (tOf τ) hp.2 ∧ WF M hp.2) hT hH hg ht (by omega) g2 g4 g7 (fun M2 a1 a2 => ⟨rfl, rfl, a1, a2⟩) (j - i) i 0 0 M _ (by omega) (Nat.le_refl _) g5 (by omega) (by omega) hM (fun _ _ _ => rfl) (Or.inl rfl)

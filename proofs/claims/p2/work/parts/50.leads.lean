/-! by hand, printed by wip/gen/gen50l.py -/
def nNeg (f : Nat → Value) : Nat → Nat
  | 0 => 0
  | n + 1 => (if vI (f n) < 0 then 1 else 0) + nNeg f n
theorem nNeg_le {f : Nat → Value} : ∀ {n : Nat}, nNeg f n ≤ n
  | 0 => Nat.le_refl _
  | n + 1 => by
    have := nNeg_le (f := f) (n := n)
    show (if vI (f n) < 0 then 1 else 0) + nNeg f n ≤ n + 1
    split <;> omega
theorem nNeg_same {f g : Nat → Value} : ∀ {n : Nat}, (∀ k, k < n → g k = f k) → nNeg g n = nNeg f n
  | 0, _ => rfl
  | n + 1, h => by
    show (if vI (g n) < 0 then 1 else 0) + nNeg g n = (if vI (f n) < 0 then 1 else 0) + nNeg f n
    rw [h n (by omega), nNeg_same (fun k hk => h k (by omega))]
theorem nNeg_put {f g : Nat → Value} {j : Nat} : ∀ {n : Nat}, j < n → vI (f j) < 0 → 0 ≤ vI (g j) → (∀ k, k ≠ j → g k = f k) → nNeg g n + 1 = nNeg f n
  | 0, h, _, _, _ => absurd h (Nat.not_lt_zero _)
  | n + 1, h, h1, h2, h3 => by
    show (if vI (g n) < 0 then 1 else 0) + nNeg g n + 1 = (if vI (f n) < 0 then 1 else 0) + nNeg f n
    by_cases e : j = n
    · subst e
      rw [if_neg (by omega), if_pos h1, nNeg_same (fun k hk => h3 k (by omega))]
      omega
    · have := nNeg_put (n := n) (by omega) h1 h2 h3
      rw [h3 n (by omega)]
      omega
def pLL : List ((Nat × Nat) × aE) := [((185, 31), (1, 0, 0, [197])), ((186, 1), (0, 0, 3, [])), ((186, 0), eA)]
/-- kinds that leads uses: N the last cell -/
def pL (τ : fT) (N : Nat) : Prop := pT τ ∧ (∀ q ∈ pLL, rowAt (τ q.1.1) q.1.2 = some q.2) ∧ (∃ lo : Nat, 1 ≤ lo ∧ rowAt (τ 185) 2 = some (0, (lo : Int), (N : Int) + 1, [])) ∧ rowAt (τ 186) 20 = some (0, 0, (N : Int), []) ∧ (∀ k, k < 36 → rowAt (τ 186) (70 + k) = some (0, 0, 1, [])) ∧ τ 197 = [(93600, eA)] ∧ N < 36
section PLY
variable {τ : fT} {N : Nat} {M : pMem}
theorem ply (hT : pL τ N) (hM : tyM (tOf τ) M) (i : Nat) {o k : Nat} {e : aE} (h : pLL[i]? = some ((o, k), e)) (ho : Nat.ble (o + 1) 205 = true) : satE e (M o k) := hM o k e (Nat.le_of_ble_eq_true ho) (by rw [tyAt_row hT.1.1]; exact hT.2.1 _ (List.mem_of_getElem? h))
theorem pl_cells (hT : pL τ N) (hM : tyM (tOf τ) M) : ∃ cl : Nat, cl ≤ N + 1 ∧ M 185 2 = .int (nI cl) ∧ 1 ≤ cl := by
  obtain ⟨lo, hlo, h⟩ := hT.2.2.1
  obtain ⟨z, hz, z1, z2⟩ := ty_int (hM 185 2 _ (by decide) (by rw [tyAt_row hT.1.1]; exact h))
  obtain ⟨n, h1, h2⟩ := ty_nat (x := []) (hi := (N : Int) + 1) ⟨z, rfl, (show (0 : Int) ≤ z.toInt by omega), z2⟩
  injection h2 with h2
  exact ⟨n, by omega, by rw [hz, h2], by have e := congrArg Int32.toInt h2; rw [hI_int (a := n) (by have := hT.2.2.2.2.2.2; omega)] at e; have z1 : (lo : Int) ≤ z.toInt := z1; omega⟩
theorem pl_ship (hT : pL τ N) (hM : tyM (tOf τ) M) : ∃ c : Nat, c ≤ N ∧ M 186 20 = .int (nI c) := by
  obtain ⟨n, h1, h2⟩ := ty_nat (hM 186 20 _ (by decide) (by rw [tyAt_row hT.1.1]; exact hT.2.2.2.1))
  exact ⟨n, by omega, h2⟩
theorem pl_exit (hT : pL τ N) (hM : tyM (tOf τ) M) {k : Nat} (hk : k < 36) : ∃ b : Nat, b ≤ 1 ∧ M 186 (70 + k) = .int (nI b) := by
  obtain ⟨n, h1, h2⟩ := ty_nat (hM 186 (70 + k) _ (by decide) (by rw [tyAt_row hT.1.1]; exact hT.2.2.2.2.1 k hk))
  exact ⟨n, by omega, h2⟩
theorem pt197 (hT : pL τ N) (hM : tyM (tOf τ) M) {k : Nat} (h : k < 93600) : ∃ z, M 197 k = .int z := by
  obtain ⟨z, h1, -⟩ := ty_int (hM 197 k eA (by decide) (by rw [tyAt_row hT.1.1]; show rowAt (τ 197) k = _; rw [hT.2.2.2.2.2.1]; exact row1_at h))
  exact ⟨z, h1⟩
theorem pu197 (hT : pL τ N) (hM : tyM (tOf τ) M) {k : Nat} (h : k < 93600) (z : Int32) : tyM (tOf τ) (pUp M 197 k (.int z)) := tyM_up hM (e := eA) (by rw [tyAt_row hT.1.1]; show rowAt (τ 197) k = _; rw [hT.2.2.2.2.2.1]; exact row1_at h) (sat_a z)
end PLY
def LH (τ : fT) (S : pScr) (dL N : Nat) : Prop :=
  cnOk τ S dL 223 ([(1, 0, 0, [185]), (0, 504, 504, [])], [], some [194], [], []) ∧
  cnOk τ S dL 162 ([(1, 0, 0, [185]), (0, 0, (N : Int), []), eA], [(0, -1, (N : Int), [])], some [], [], []) ∧
  cnOk τ S dL 217 ([(1, 0, 0, [185]), (0, 504, 504, []), (0, 0, (N : Int), []), eA, eA], [eA], some [191, 192, 193], [], [])
def LF (M0 M : pMem) : Prop := ∀ o, o ≠ 191 → o ≠ 192 → o ≠ 193 → o ≠ 194 → o ≠ 197 → M o = M0 o
theorem LF.gr {M0 M : pMem} (h : LF M0 M) (hg : gR M0) : gR M := gR_keep (h 188 (by decide) (by decide) (by decide) (by decide) (by decide)) (h 187 (by decide) (by decide) (by decide) (by decide) (by decide)) (fun k _ => by rw [h 186 (by decide) (by decide) (by decide) (by decide) (by decide)]) hg
theorem LF.tr {A B C : pMem} (h1 : LF A B) (h2 : LF B C) : LF A C := fun o k1 k2 k3 k4 k5 => (h2 o k1 k2 k3 k4 k5).trans (h1 o k1 k2 k3 k4 k5)
theorem LF.up {A B : pMem} {k : Nat} {v : Value} (h : LF A B) : LF A (pUp B 197 k v) := fun o k1 k2 k3 k4 k5 => by rw [pUp_ne k5]; exact h o k1 k2 k3 k4 k5
theorem vI_n {n : Nat} (h : n < 2147483648) : vI (.int (nI n)) = (n : Int) := hI_int h
abbrev leK (S : pScr) (d : Nat) (Q : Option Value → pHp → Prop) (σ : pSt) : Prop := pOk S 12 false 7 (pCode 270) d (fun i len τ' => ∃ v, pRet (some .int) i len τ'.2.2.1 = some v ∧ Q v (τ'.2.2.2.1, τ'.2.2.2.2)) σ
theorem le_sum {S : pScr} {d dL N cl : Nat} {ce : Int32} {τ : fT} {M0 M : pMem} (hT : pL τ N) (hM : tyM (tOf τ) M) (hF : LF M0 M) (hcl : cl ≤ N + 1) (h2 : M 185 2 = .int (nI cl)) : ∀ (r c : Nat) (s3 y2 y5 y6 : Int32) (L : pLs), c + r = cl → (L = [(4, .int (nI c)), (3, .int s3), (2, .int y2), (0, .ref 185), (1, .int ce)] ∨ L = [(4, .int (nI c)), (3, .int s3), (5, .int y5), (2, .int y2), (0, .ref 185), (1, .int ce)] ∨ L = [(4, .int (nI c)), (3, .int s3), (5, .int y5), (6, .int y6), (2, .int y2), (0, .ref 185), (1, .int ce)] ∨ L = [(4, .int (nI c)), (3, .int s3), (5, .int y5), (2, .int y2), (6, .int y6), (0, .ref 185), (1, .int ce)] ∨ L = [(4, .int (nI c)), (3, .int s3), (2, .int y2), (5, .int y5), (0, .ref 185), (1, .int ce)] ∨ L = [(4, .int (nI c)), (3, .int s3), (2, .int y2), (5, .int y5), (6, .int y6), (0, .ref 185), (1, .int ce)]) → leK S (d + dL + 2) (fun r hp => hp.1 = gSh ∧ (∃ z : Int32, r = some (.int z)) ∧ tyM (tOf τ) hp.2 ∧ LF M0 hp.2) (214, L, [], gSh, M) := by
  have hN := hT.2.2.2.2.2.2
  have h31 := ty_ref (ply hT hM 0 rfl rfl)
  intro r
  induction r with
  | zero =>
    intro c s3 y2 y5 y6 L hc hL
    rcases hL with rfl | rfl | rfl | rfl | rfl | rfl
    · refine ok_seq 3 (σ' := (220, [(4, .int (nI c)), (3, .int s3), (2, .int y2), (0, .ref 185), (1, .int ce)], [M 185 2, .int (nI c)], gSh, M)) rfl ?_
      rw [h2]
      refine ok_icmp 247 rfl rfl (fun _ => ?_) (fun hz => absurd (by simp only [pCP]; rw [hI_int (a := c) (by omega), hI_int (a := cl) (by omega)]; omega) hz)
      refine ok_seq 1 (σ' := (248, [(4, .int (nI c)), (3, .int s3), (2, .int y2), (0, .ref 185), (1, .int ce)], [.int s3], gSh, M)) rfl ?_
      exact ok_ret (i := .ireturn) (len := 1) rfl rfl ⟨_, rfl, rfl, ⟨_, rfl⟩, hM, hF⟩
    · refine ok_seq 3 (σ' := (220, [(4, .int (nI c)), (3, .int s3), (5, .int y5), (2, .int y2), (0, .ref 185), (1, .int ce)], [M 185 2, .int (nI c)], gSh, M)) rfl ?_
      rw [h2]
      refine ok_icmp 247 rfl rfl (fun _ => ?_) (fun hz => absurd (by simp only [pCP]; rw [hI_int (a := c) (by omega), hI_int (a := cl) (by omega)]; omega) hz)
      refine ok_seq 1 (σ' := (248, [(4, .int (nI c)), (3, .int s3), (5, .int y5), (2, .int y2), (0, .ref 185), (1, .int ce)], [.int s3], gSh, M)) rfl ?_
      exact ok_ret (i := .ireturn) (len := 1) rfl rfl ⟨_, rfl, rfl, ⟨_, rfl⟩, hM, hF⟩
    · refine ok_seq 3 (σ' := (220, [(4, .int (nI c)), (3, .int s3), (5, .int y5), (6, .int y6), (2, .int y2), (0, .ref 185), (1, .int ce)], [M 185 2, .int (nI c)], gSh, M)) rfl ?_
      rw [h2]
      refine ok_icmp 247 rfl rfl (fun _ => ?_) (fun hz => absurd (by simp only [pCP]; rw [hI_int (a := c) (by omega), hI_int (a := cl) (by omega)]; omega) hz)
      refine ok_seq 1 (σ' := (248, [(4, .int (nI c)), (3, .int s3), (5, .int y5), (6, .int y6), (2, .int y2), (0, .ref 185), (1, .int ce)], [.int s3], gSh, M)) rfl ?_
      exact ok_ret (i := .ireturn) (len := 1) rfl rfl ⟨_, rfl, rfl, ⟨_, rfl⟩, hM, hF⟩
    · refine ok_seq 3 (σ' := (220, [(4, .int (nI c)), (3, .int s3), (5, .int y5), (2, .int y2), (6, .int y6), (0, .ref 185), (1, .int ce)], [M 185 2, .int (nI c)], gSh, M)) rfl ?_
      rw [h2]
      refine ok_icmp 247 rfl rfl (fun _ => ?_) (fun hz => absurd (by simp only [pCP]; rw [hI_int (a := c) (by omega), hI_int (a := cl) (by omega)]; omega) hz)
      refine ok_seq 1 (σ' := (248, [(4, .int (nI c)), (3, .int s3), (5, .int y5), (2, .int y2), (6, .int y6), (0, .ref 185), (1, .int ce)], [.int s3], gSh, M)) rfl ?_
      exact ok_ret (i := .ireturn) (len := 1) rfl rfl ⟨_, rfl, rfl, ⟨_, rfl⟩, hM, hF⟩
    · refine ok_seq 3 (σ' := (220, [(4, .int (nI c)), (3, .int s3), (2, .int y2), (5, .int y5), (0, .ref 185), (1, .int ce)], [M 185 2, .int (nI c)], gSh, M)) rfl ?_
      rw [h2]
      refine ok_icmp 247 rfl rfl (fun _ => ?_) (fun hz => absurd (by simp only [pCP]; rw [hI_int (a := c) (by omega), hI_int (a := cl) (by omega)]; omega) hz)
      refine ok_seq 1 (σ' := (248, [(4, .int (nI c)), (3, .int s3), (2, .int y2), (5, .int y5), (0, .ref 185), (1, .int ce)], [.int s3], gSh, M)) rfl ?_
      exact ok_ret (i := .ireturn) (len := 1) rfl rfl ⟨_, rfl, rfl, ⟨_, rfl⟩, hM, hF⟩
    · refine ok_seq 3 (σ' := (220, [(4, .int (nI c)), (3, .int s3), (2, .int y2), (5, .int y5), (6, .int y6), (0, .ref 185), (1, .int ce)], [M 185 2, .int (nI c)], gSh, M)) rfl ?_
      rw [h2]
      refine ok_icmp 247 rfl rfl (fun _ => ?_) (fun hz => absurd (by simp only [pCP]; rw [hI_int (a := c) (by omega), hI_int (a := cl) (by omega)]; omega) hz)
      refine ok_seq 1 (σ' := (248, [(4, .int (nI c)), (3, .int s3), (2, .int y2), (5, .int y5), (6, .int y6), (0, .ref 185), (1, .int ce)], [.int s3], gSh, M)) rfl ?_
      exact ok_ret (i := .ireturn) (len := 1) rfl rfl ⟨_, rfl, rfl, ⟨_, rfl⟩, hM, hF⟩
  | succ r ih =>
    intro c s3 y2 y5 y6 L hc hL
    obtain ⟨oz, hoz⟩ := pt197 hT hM (k := c) (by omega)
    rcases hL with rfl | rfl | rfl | rfl | rfl | rfl
    · refine ok_seq 3 (σ' := (220, [(4, .int (nI c)), (3, .int s3), (2, .int y2), (0, .ref 185), (1, .int ce)], [M 185 2, .int (nI c)], gSh, M)) rfl ?_
      rw [h2]
      refine ok_icmp 247 rfl rfl (fun hz => absurd hz (by simp only [pCP]; rw [hI_int (a := c) (by omega), hI_int (a := cl) (by omega)]; omega)) (fun _ => ?_)
      refine ok_seq 3 (σ' := (228, [(4, .int (nI c)), (3, .int s3), (2, .int y2), (0, .ref 185), (1, .int ce)], [M 185 31, .int s3], gSh, M)) rfl ?_
      rw [h31]
      refine ok_seq 1 (σ' := (230, [(4, .int (nI c)), (3, .int s3), (2, .int y2), (0, .ref 185), (1, .int ce)], [.int (nI c), .ref 197, .int s3], gSh, M)) rfl ?_
      refine ok_iald (n := 93600) (v := oz) rfl rfl (hI_in (by omega) (by decide)) (by rw [hI_nat (by omega)]; exact hoz) ?_
      refine ok_if 238 rfl rfl ?_ ?_
      · intro hz
        simp only [pCP] at hz
        have hz : (oz).toInt < (0 : Int) := by omega
        refine ok_seq 5 (σ' := (214, [(4, .int ((nI c) + (Int32.ofInt 1))), (3, .int (s3 + (Int32.ofInt 0))), (2, .int y2), (0, .ref 185), (1, .int ce)], [], gSh, M)) rfl ?_
        rw [cI_1, hI_add c 1, cI_0]
        exact ih (c + 1) _ y2 y5 y6 _ (by omega) (Or.inl rfl)
      · intro hz
        simp only [pCP] at hz
        have hz : (oz).toInt ≥ (0 : Int) := by omega
        refine ok_seq 6 (σ' := (214, [(4, .int ((nI c) + (Int32.ofInt 1))), (3, .int (s3 + (Int32.ofInt 1))), (2, .int y2), (0, .ref 185), (1, .int ce)], [], gSh, M)) rfl ?_
        rw [cI_1, hI_add c 1]
        exact ih (c + 1) _ y2 y5 y6 _ (by omega) (Or.inl rfl)
    · refine ok_seq 3 (σ' := (220, [(4, .int (nI c)), (3, .int s3), (5, .int y5), (2, .int y2), (0, .ref 185), (1, .int ce)], [M 185 2, .int (nI c)], gSh, M)) rfl ?_
      rw [h2]
      refine ok_icmp 247 rfl rfl (fun hz => absurd hz (by simp only [pCP]; rw [hI_int (a := c) (by omega), hI_int (a := cl) (by omega)]; omega)) (fun _ => ?_)
      refine ok_seq 3 (σ' := (228, [(4, .int (nI c)), (3, .int s3), (5, .int y5), (2, .int y2), (0, .ref 185), (1, .int ce)], [M 185 31, .int s3], gSh, M)) rfl ?_
      rw [h31]
      refine ok_seq 1 (σ' := (230, [(4, .int (nI c)), (3, .int s3), (5, .int y5), (2, .int y2), (0, .ref 185), (1, .int ce)], [.int (nI c), .ref 197, .int s3], gSh, M)) rfl ?_
      refine ok_iald (n := 93600) (v := oz) rfl rfl (hI_in (by omega) (by decide)) (by rw [hI_nat (by omega)]; exact hoz) ?_
      refine ok_if 238 rfl rfl ?_ ?_
      · intro hz
        simp only [pCP] at hz
        have hz : (oz).toInt < (0 : Int) := by omega
        refine ok_seq 5 (σ' := (214, [(4, .int ((nI c) + (Int32.ofInt 1))), (3, .int (s3 + (Int32.ofInt 0))), (5, .int y5), (2, .int y2), (0, .ref 185), (1, .int ce)], [], gSh, M)) rfl ?_
        rw [cI_1, hI_add c 1, cI_0]
        exact ih (c + 1) _ y2 y5 y6 _ (by omega) (Or.inr (Or.inl rfl))
      · intro hz
        simp only [pCP] at hz
        have hz : (oz).toInt ≥ (0 : Int) := by omega
        refine ok_seq 6 (σ' := (214, [(4, .int ((nI c) + (Int32.ofInt 1))), (3, .int (s3 + (Int32.ofInt 1))), (5, .int y5), (2, .int y2), (0, .ref 185), (1, .int ce)], [], gSh, M)) rfl ?_
        rw [cI_1, hI_add c 1]
        exact ih (c + 1) _ y2 y5 y6 _ (by omega) (Or.inr (Or.inl rfl))
    · refine ok_seq 3 (σ' := (220, [(4, .int (nI c)), (3, .int s3), (5, .int y5), (6, .int y6), (2, .int y2), (0, .ref 185), (1, .int ce)], [M 185 2, .int (nI c)], gSh, M)) rfl ?_
      rw [h2]
      refine ok_icmp 247 rfl rfl (fun hz => absurd hz (by simp only [pCP]; rw [hI_int (a := c) (by omega), hI_int (a := cl) (by omega)]; omega)) (fun _ => ?_)
      refine ok_seq 3 (σ' := (228, [(4, .int (nI c)), (3, .int s3), (5, .int y5), (6, .int y6), (2, .int y2), (0, .ref 185), (1, .int ce)], [M 185 31, .int s3], gSh, M)) rfl ?_
      rw [h31]
      refine ok_seq 1 (σ' := (230, [(4, .int (nI c)), (3, .int s3), (5, .int y5), (6, .int y6), (2, .int y2), (0, .ref 185), (1, .int ce)], [.int (nI c), .ref 197, .int s3], gSh, M)) rfl ?_
      refine ok_iald (n := 93600) (v := oz) rfl rfl (hI_in (by omega) (by decide)) (by rw [hI_nat (by omega)]; exact hoz) ?_
      refine ok_if 238 rfl rfl ?_ ?_
      · intro hz
        simp only [pCP] at hz
        have hz : (oz).toInt < (0 : Int) := by omega
        refine ok_seq 5 (σ' := (214, [(4, .int ((nI c) + (Int32.ofInt 1))), (3, .int (s3 + (Int32.ofInt 0))), (5, .int y5), (6, .int y6), (2, .int y2), (0, .ref 185), (1, .int ce)], [], gSh, M)) rfl ?_
        rw [cI_1, hI_add c 1, cI_0]
        exact ih (c + 1) _ y2 y5 y6 _ (by omega) (Or.inr (Or.inr (Or.inl rfl)))
      · intro hz
        simp only [pCP] at hz
        have hz : (oz).toInt ≥ (0 : Int) := by omega
        refine ok_seq 6 (σ' := (214, [(4, .int ((nI c) + (Int32.ofInt 1))), (3, .int (s3 + (Int32.ofInt 1))), (5, .int y5), (6, .int y6), (2, .int y2), (0, .ref 185), (1, .int ce)], [], gSh, M)) rfl ?_
        rw [cI_1, hI_add c 1]
        exact ih (c + 1) _ y2 y5 y6 _ (by omega) (Or.inr (Or.inr (Or.inl rfl)))
    · refine ok_seq 3 (σ' := (220, [(4, .int (nI c)), (3, .int s3), (5, .int y5), (2, .int y2), (6, .int y6), (0, .ref 185), (1, .int ce)], [M 185 2, .int (nI c)], gSh, M)) rfl ?_
      rw [h2]
      refine ok_icmp 247 rfl rfl (fun hz => absurd hz (by simp only [pCP]; rw [hI_int (a := c) (by omega), hI_int (a := cl) (by omega)]; omega)) (fun _ => ?_)
      refine ok_seq 3 (σ' := (228, [(4, .int (nI c)), (3, .int s3), (5, .int y5), (2, .int y2), (6, .int y6), (0, .ref 185), (1, .int ce)], [M 185 31, .int s3], gSh, M)) rfl ?_
      rw [h31]
      refine ok_seq 1 (σ' := (230, [(4, .int (nI c)), (3, .int s3), (5, .int y5), (2, .int y2), (6, .int y6), (0, .ref 185), (1, .int ce)], [.int (nI c), .ref 197, .int s3], gSh, M)) rfl ?_
      refine ok_iald (n := 93600) (v := oz) rfl rfl (hI_in (by omega) (by decide)) (by rw [hI_nat (by omega)]; exact hoz) ?_
      refine ok_if 238 rfl rfl ?_ ?_
      · intro hz
        simp only [pCP] at hz
        have hz : (oz).toInt < (0 : Int) := by omega
        refine ok_seq 5 (σ' := (214, [(4, .int ((nI c) + (Int32.ofInt 1))), (3, .int (s3 + (Int32.ofInt 0))), (5, .int y5), (2, .int y2), (6, .int y6), (0, .ref 185), (1, .int ce)], [], gSh, M)) rfl ?_
        rw [cI_1, hI_add c 1, cI_0]
        exact ih (c + 1) _ y2 y5 y6 _ (by omega) (Or.inr (Or.inr (Or.inr (Or.inl rfl))))
      · intro hz
        simp only [pCP] at hz
        have hz : (oz).toInt ≥ (0 : Int) := by omega
        refine ok_seq 6 (σ' := (214, [(4, .int ((nI c) + (Int32.ofInt 1))), (3, .int (s3 + (Int32.ofInt 1))), (5, .int y5), (2, .int y2), (6, .int y6), (0, .ref 185), (1, .int ce)], [], gSh, M)) rfl ?_
        rw [cI_1, hI_add c 1]
        exact ih (c + 1) _ y2 y5 y6 _ (by omega) (Or.inr (Or.inr (Or.inr (Or.inl rfl))))
    · refine ok_seq 3 (σ' := (220, [(4, .int (nI c)), (3, .int s3), (2, .int y2), (5, .int y5), (0, .ref 185), (1, .int ce)], [M 185 2, .int (nI c)], gSh, M)) rfl ?_
      rw [h2]
      refine ok_icmp 247 rfl rfl (fun hz => absurd hz (by simp only [pCP]; rw [hI_int (a := c) (by omega), hI_int (a := cl) (by omega)]; omega)) (fun _ => ?_)
      refine ok_seq 3 (σ' := (228, [(4, .int (nI c)), (3, .int s3), (2, .int y2), (5, .int y5), (0, .ref 185), (1, .int ce)], [M 185 31, .int s3], gSh, M)) rfl ?_
      rw [h31]
      refine ok_seq 1 (σ' := (230, [(4, .int (nI c)), (3, .int s3), (2, .int y2), (5, .int y5), (0, .ref 185), (1, .int ce)], [.int (nI c), .ref 197, .int s3], gSh, M)) rfl ?_
      refine ok_iald (n := 93600) (v := oz) rfl rfl (hI_in (by omega) (by decide)) (by rw [hI_nat (by omega)]; exact hoz) ?_
      refine ok_if 238 rfl rfl ?_ ?_
      · intro hz
        simp only [pCP] at hz
        have hz : (oz).toInt < (0 : Int) := by omega
        refine ok_seq 5 (σ' := (214, [(4, .int ((nI c) + (Int32.ofInt 1))), (3, .int (s3 + (Int32.ofInt 0))), (2, .int y2), (5, .int y5), (0, .ref 185), (1, .int ce)], [], gSh, M)) rfl ?_
        rw [cI_1, hI_add c 1, cI_0]
        exact ih (c + 1) _ y2 y5 y6 _ (by omega) (Or.inr (Or.inr (Or.inr (Or.inr (Or.inl rfl)))))
      · intro hz
        simp only [pCP] at hz
        have hz : (oz).toInt ≥ (0 : Int) := by omega
        refine ok_seq 6 (σ' := (214, [(4, .int ((nI c) + (Int32.ofInt 1))), (3, .int (s3 + (Int32.ofInt 1))), (2, .int y2), (5, .int y5), (0, .ref 185), (1, .int ce)], [], gSh, M)) rfl ?_
        rw [cI_1, hI_add c 1]
        exact ih (c + 1) _ y2 y5 y6 _ (by omega) (Or.inr (Or.inr (Or.inr (Or.inr (Or.inl rfl)))))
    · refine ok_seq 3 (σ' := (220, [(4, .int (nI c)), (3, .int s3), (2, .int y2), (5, .int y5), (6, .int y6), (0, .ref 185), (1, .int ce)], [M 185 2, .int (nI c)], gSh, M)) rfl ?_
      rw [h2]
      refine ok_icmp 247 rfl rfl (fun hz => absurd hz (by simp only [pCP]; rw [hI_int (a := c) (by omega), hI_int (a := cl) (by omega)]; omega)) (fun _ => ?_)
      refine ok_seq 3 (σ' := (228, [(4, .int (nI c)), (3, .int s3), (2, .int y2), (5, .int y5), (6, .int y6), (0, .ref 185), (1, .int ce)], [M 185 31, .int s3], gSh, M)) rfl ?_
      rw [h31]
      refine ok_seq 1 (σ' := (230, [(4, .int (nI c)), (3, .int s3), (2, .int y2), (5, .int y5), (6, .int y6), (0, .ref 185), (1, .int ce)], [.int (nI c), .ref 197, .int s3], gSh, M)) rfl ?_
      refine ok_iald (n := 93600) (v := oz) rfl rfl (hI_in (by omega) (by decide)) (by rw [hI_nat (by omega)]; exact hoz) ?_
      refine ok_if 238 rfl rfl ?_ ?_
      · intro hz
        simp only [pCP] at hz
        have hz : (oz).toInt < (0 : Int) := by omega
        refine ok_seq 5 (σ' := (214, [(4, .int ((nI c) + (Int32.ofInt 1))), (3, .int (s3 + (Int32.ofInt 0))), (2, .int y2), (5, .int y5), (6, .int y6), (0, .ref 185), (1, .int ce)], [], gSh, M)) rfl ?_
        rw [cI_1, hI_add c 1, cI_0]
        exact ih (c + 1) _ y2 y5 y6 _ (by omega) (Or.inr (Or.inr (Or.inr (Or.inr (Or.inr (rfl))))))
      · intro hz
        simp only [pCP] at hz
        have hz : (oz).toInt ≥ (0 : Int) := by omega
        refine ok_seq 6 (σ' := (214, [(4, .int ((nI c) + (Int32.ofInt 1))), (3, .int (s3 + (Int32.ofInt 1))), (2, .int y2), (5, .int y5), (6, .int y6), (0, .ref 185), (1, .int ce)], [], gSh, M)) rfl ?_
        rw [cI_1, hI_add c 1]
        exact ih (c + 1) _ y2 y5 y6 _ (by omega) (Or.inr (Or.inr (Or.inr (Or.inr (Or.inr (rfl))))))
theorem le_end {S : pScr} {d dL N : Nat} {ce y2 y3 y4 y5 y6 : Int32} {τ : fT} {M0 M : pMem} {L : pLs} (hT : pL τ N) (hM : tyM (tOf τ) M) (hF : LF M0 M) (hce : ce.toInt ≤ (N : Int)) (hL : L = [(3, .int y3), (2, .int y2), (0, .ref 185), (1, .int ce)] ∨ L = [(3, .int y3), (4, .int y4), (2, .int y2), (0, .ref 185), (1, .int ce)] ∨ L = [(3, .int y3), (4, .int y4), (5, .int y5), (2, .int y2), (0, .ref 185), (1, .int ce)] ∨ L = [(3, .int y3), (4, .int y4), (5, .int y5), (6, .int y6), (2, .int y2), (0, .ref 185), (1, .int ce)] ∨ L = [(3, .int y3), (4, .int y4), (5, .int y5), (2, .int y2), (6, .int y6), (0, .ref 185), (1, .int ce)] ∨ L = [(3, .int y3), (4, .int y4), (2, .int y2), (5, .int y5), (0, .ref 185), (1, .int ce)] ∨ L = [(3, .int y3), (4, .int y4), (2, .int y2), (5, .int y5), (6, .int y6), (0, .ref 185), (1, .int ce)]) : leK S (d + dL + 2) (fun r hp => hp.1 = gSh ∧ (∃ z : Int32, r = some (.int z)) ∧ tyM (tOf τ) hp.2 ∧ LF M0 hp.2) (198, L, [], gSh, M) := by
  have hN := hT.2.2.2.2.2.2
  have h31 := ty_ref (ply hT hM 0 rfl rfl)
  obtain ⟨cl, hcl, h2, hcl1⟩ := pl_cells hT hM
  rcases hL with rfl | rfl | rfl | rfl | rfl | rfl | rfl
  · refine ok_seq 1 (σ' := (199, [(3, .int y3), (2, .int y2), (0, .ref 185), (1, .int ce)], [.int ce], gSh, M)) rfl ?_
    refine ok_if 209 rfl rfl ?_ ?_
    · intro hce0
      simp only [pCP] at hce0
      have hce0 : (ce).toInt < (0 : Int) := by omega
      refine ok_seq 4 (σ' := (214, [(4, .int (Int32.ofInt 0)), (3, .int (Int32.ofInt 0)), (2, .int y2), (0, .ref 185), (1, .int ce)], [], gSh, M)) rfl ?_
      rw [cI_0]
      exact le_sum (d := d) hT hM hF hcl h2 cl 0 _ y2 y5 y6 _ (by omega) (Or.inl rfl)
    · intro hce0
      simp only [pCP] at hce0
      have hce0 : (ce).toInt ≥ (0 : Int) := by omega
      obtain ⟨cn, hcn, ecn⟩ := ty_nat (x := []) (hi := (N : Int)) ⟨ce, rfl, (show (0 : Int) ≤ ce.toInt by omega), hce⟩
      cases ecn
      obtain ⟨oz, hoz⟩ := pt197 hT hM (k := cn) (by omega)
      refine ok_seq 2 (σ' := (206, [(3, .int y3), (2, .int y2), (0, .ref 185), (1, .int (nI cn))], [M 185 31], gSh, M)) rfl ?_
      rw [h31]
      refine ok_seq 1 (σ' := (207, [(3, .int y3), (2, .int y2), (0, .ref 185), (1, .int (nI cn))], [.int (nI cn), .ref 197], gSh, M)) rfl ?_
      refine ok_iald (n := 93600) (v := oz) rfl rfl (hI_in (by omega) (by decide)) (by rw [hI_nat (by omega)]; exact hoz) ?_
      exact ok_ret (i := .ireturn) (len := 1) rfl rfl ⟨_, rfl, rfl, ⟨_, rfl⟩, hM, hF⟩
  · refine ok_seq 1 (σ' := (199, [(3, .int y3), (4, .int y4), (2, .int y2), (0, .ref 185), (1, .int ce)], [.int ce], gSh, M)) rfl ?_
    refine ok_if 209 rfl rfl ?_ ?_
    · intro hce0
      simp only [pCP] at hce0
      have hce0 : (ce).toInt < (0 : Int) := by omega
      refine ok_seq 4 (σ' := (214, [(4, .int (Int32.ofInt 0)), (3, .int (Int32.ofInt 0)), (2, .int y2), (0, .ref 185), (1, .int ce)], [], gSh, M)) rfl ?_
      rw [cI_0]
      exact le_sum (d := d) hT hM hF hcl h2 cl 0 _ y2 y5 y6 _ (by omega) (Or.inl rfl)
    · intro hce0
      simp only [pCP] at hce0
      have hce0 : (ce).toInt ≥ (0 : Int) := by omega
      obtain ⟨cn, hcn, ecn⟩ := ty_nat (x := []) (hi := (N : Int)) ⟨ce, rfl, (show (0 : Int) ≤ ce.toInt by omega), hce⟩
      cases ecn
      obtain ⟨oz, hoz⟩ := pt197 hT hM (k := cn) (by omega)
      refine ok_seq 2 (σ' := (206, [(3, .int y3), (4, .int y4), (2, .int y2), (0, .ref 185), (1, .int (nI cn))], [M 185 31], gSh, M)) rfl ?_
      rw [h31]
      refine ok_seq 1 (σ' := (207, [(3, .int y3), (4, .int y4), (2, .int y2), (0, .ref 185), (1, .int (nI cn))], [.int (nI cn), .ref 197], gSh, M)) rfl ?_
      refine ok_iald (n := 93600) (v := oz) rfl rfl (hI_in (by omega) (by decide)) (by rw [hI_nat (by omega)]; exact hoz) ?_
      exact ok_ret (i := .ireturn) (len := 1) rfl rfl ⟨_, rfl, rfl, ⟨_, rfl⟩, hM, hF⟩
  · refine ok_seq 1 (σ' := (199, [(3, .int y3), (4, .int y4), (5, .int y5), (2, .int y2), (0, .ref 185), (1, .int ce)], [.int ce], gSh, M)) rfl ?_
    refine ok_if 209 rfl rfl ?_ ?_
    · intro hce0
      simp only [pCP] at hce0
      have hce0 : (ce).toInt < (0 : Int) := by omega
      refine ok_seq 4 (σ' := (214, [(4, .int (Int32.ofInt 0)), (3, .int (Int32.ofInt 0)), (5, .int y5), (2, .int y2), (0, .ref 185), (1, .int ce)], [], gSh, M)) rfl ?_
      rw [cI_0]
      exact le_sum (d := d) hT hM hF hcl h2 cl 0 _ y2 y5 y6 _ (by omega) (Or.inr (Or.inl rfl))
    · intro hce0
      simp only [pCP] at hce0
      have hce0 : (ce).toInt ≥ (0 : Int) := by omega
      obtain ⟨cn, hcn, ecn⟩ := ty_nat (x := []) (hi := (N : Int)) ⟨ce, rfl, (show (0 : Int) ≤ ce.toInt by omega), hce⟩
      cases ecn
      obtain ⟨oz, hoz⟩ := pt197 hT hM (k := cn) (by omega)
      refine ok_seq 2 (σ' := (206, [(3, .int y3), (4, .int y4), (5, .int y5), (2, .int y2), (0, .ref 185), (1, .int (nI cn))], [M 185 31], gSh, M)) rfl ?_
      rw [h31]
      refine ok_seq 1 (σ' := (207, [(3, .int y3), (4, .int y4), (5, .int y5), (2, .int y2), (0, .ref 185), (1, .int (nI cn))], [.int (nI cn), .ref 197], gSh, M)) rfl ?_
      refine ok_iald (n := 93600) (v := oz) rfl rfl (hI_in (by omega) (by decide)) (by rw [hI_nat (by omega)]; exact hoz) ?_
      exact ok_ret (i := .ireturn) (len := 1) rfl rfl ⟨_, rfl, rfl, ⟨_, rfl⟩, hM, hF⟩
  · refine ok_seq 1 (σ' := (199, [(3, .int y3), (4, .int y4), (5, .int y5), (6, .int y6), (2, .int y2), (0, .ref 185), (1, .int ce)], [.int ce], gSh, M)) rfl ?_
    refine ok_if 209 rfl rfl ?_ ?_
    · intro hce0
      simp only [pCP] at hce0
      have hce0 : (ce).toInt < (0 : Int) := by omega
      refine ok_seq 4 (σ' := (214, [(4, .int (Int32.ofInt 0)), (3, .int (Int32.ofInt 0)), (5, .int y5), (6, .int y6), (2, .int y2), (0, .ref 185), (1, .int ce)], [], gSh, M)) rfl ?_
      rw [cI_0]
      exact le_sum (d := d) hT hM hF hcl h2 cl 0 _ y2 y5 y6 _ (by omega) (Or.inr (Or.inr (Or.inl rfl)))
    · intro hce0
      simp only [pCP] at hce0
      have hce0 : (ce).toInt ≥ (0 : Int) := by omega
      obtain ⟨cn, hcn, ecn⟩ := ty_nat (x := []) (hi := (N : Int)) ⟨ce, rfl, (show (0 : Int) ≤ ce.toInt by omega), hce⟩
      cases ecn
      obtain ⟨oz, hoz⟩ := pt197 hT hM (k := cn) (by omega)
      refine ok_seq 2 (σ' := (206, [(3, .int y3), (4, .int y4), (5, .int y5), (6, .int y6), (2, .int y2), (0, .ref 185), (1, .int (nI cn))], [M 185 31], gSh, M)) rfl ?_
      rw [h31]
      refine ok_seq 1 (σ' := (207, [(3, .int y3), (4, .int y4), (5, .int y5), (6, .int y6), (2, .int y2), (0, .ref 185), (1, .int (nI cn))], [.int (nI cn), .ref 197], gSh, M)) rfl ?_
      refine ok_iald (n := 93600) (v := oz) rfl rfl (hI_in (by omega) (by decide)) (by rw [hI_nat (by omega)]; exact hoz) ?_
      exact ok_ret (i := .ireturn) (len := 1) rfl rfl ⟨_, rfl, rfl, ⟨_, rfl⟩, hM, hF⟩
  · refine ok_seq 1 (σ' := (199, [(3, .int y3), (4, .int y4), (5, .int y5), (2, .int y2), (6, .int y6), (0, .ref 185), (1, .int ce)], [.int ce], gSh, M)) rfl ?_
    refine ok_if 209 rfl rfl ?_ ?_
    · intro hce0
      simp only [pCP] at hce0
      have hce0 : (ce).toInt < (0 : Int) := by omega
      refine ok_seq 4 (σ' := (214, [(4, .int (Int32.ofInt 0)), (3, .int (Int32.ofInt 0)), (5, .int y5), (2, .int y2), (6, .int y6), (0, .ref 185), (1, .int ce)], [], gSh, M)) rfl ?_
      rw [cI_0]
      exact le_sum (d := d) hT hM hF hcl h2 cl 0 _ y2 y5 y6 _ (by omega) (Or.inr (Or.inr (Or.inr (Or.inl rfl))))
    · intro hce0
      simp only [pCP] at hce0
      have hce0 : (ce).toInt ≥ (0 : Int) := by omega
      obtain ⟨cn, hcn, ecn⟩ := ty_nat (x := []) (hi := (N : Int)) ⟨ce, rfl, (show (0 : Int) ≤ ce.toInt by omega), hce⟩
      cases ecn
      obtain ⟨oz, hoz⟩ := pt197 hT hM (k := cn) (by omega)
      refine ok_seq 2 (σ' := (206, [(3, .int y3), (4, .int y4), (5, .int y5), (2, .int y2), (6, .int y6), (0, .ref 185), (1, .int (nI cn))], [M 185 31], gSh, M)) rfl ?_
      rw [h31]
      refine ok_seq 1 (σ' := (207, [(3, .int y3), (4, .int y4), (5, .int y5), (2, .int y2), (6, .int y6), (0, .ref 185), (1, .int (nI cn))], [.int (nI cn), .ref 197], gSh, M)) rfl ?_
      refine ok_iald (n := 93600) (v := oz) rfl rfl (hI_in (by omega) (by decide)) (by rw [hI_nat (by omega)]; exact hoz) ?_
      exact ok_ret (i := .ireturn) (len := 1) rfl rfl ⟨_, rfl, rfl, ⟨_, rfl⟩, hM, hF⟩
  · refine ok_seq 1 (σ' := (199, [(3, .int y3), (4, .int y4), (2, .int y2), (5, .int y5), (0, .ref 185), (1, .int ce)], [.int ce], gSh, M)) rfl ?_
    refine ok_if 209 rfl rfl ?_ ?_
    · intro hce0
      simp only [pCP] at hce0
      have hce0 : (ce).toInt < (0 : Int) := by omega
      refine ok_seq 4 (σ' := (214, [(4, .int (Int32.ofInt 0)), (3, .int (Int32.ofInt 0)), (2, .int y2), (5, .int y5), (0, .ref 185), (1, .int ce)], [], gSh, M)) rfl ?_
      rw [cI_0]
      exact le_sum (d := d) hT hM hF hcl h2 cl 0 _ y2 y5 y6 _ (by omega) (Or.inr (Or.inr (Or.inr (Or.inr (Or.inl rfl)))))
    · intro hce0
      simp only [pCP] at hce0
      have hce0 : (ce).toInt ≥ (0 : Int) := by omega
      obtain ⟨cn, hcn, ecn⟩ := ty_nat (x := []) (hi := (N : Int)) ⟨ce, rfl, (show (0 : Int) ≤ ce.toInt by omega), hce⟩
      cases ecn
      obtain ⟨oz, hoz⟩ := pt197 hT hM (k := cn) (by omega)
      refine ok_seq 2 (σ' := (206, [(3, .int y3), (4, .int y4), (2, .int y2), (5, .int y5), (0, .ref 185), (1, .int (nI cn))], [M 185 31], gSh, M)) rfl ?_
      rw [h31]
      refine ok_seq 1 (σ' := (207, [(3, .int y3), (4, .int y4), (2, .int y2), (5, .int y5), (0, .ref 185), (1, .int (nI cn))], [.int (nI cn), .ref 197], gSh, M)) rfl ?_
      refine ok_iald (n := 93600) (v := oz) rfl rfl (hI_in (by omega) (by decide)) (by rw [hI_nat (by omega)]; exact hoz) ?_
      exact ok_ret (i := .ireturn) (len := 1) rfl rfl ⟨_, rfl, rfl, ⟨_, rfl⟩, hM, hF⟩
  · refine ok_seq 1 (σ' := (199, [(3, .int y3), (4, .int y4), (2, .int y2), (5, .int y5), (6, .int y6), (0, .ref 185), (1, .int ce)], [.int ce], gSh, M)) rfl ?_
    refine ok_if 209 rfl rfl ?_ ?_
    · intro hce0
      simp only [pCP] at hce0
      have hce0 : (ce).toInt < (0 : Int) := by omega
      refine ok_seq 4 (σ' := (214, [(4, .int (Int32.ofInt 0)), (3, .int (Int32.ofInt 0)), (2, .int y2), (5, .int y5), (6, .int y6), (0, .ref 185), (1, .int ce)], [], gSh, M)) rfl ?_
      rw [cI_0]
      exact le_sum (d := d) hT hM hF hcl h2 cl 0 _ y2 y5 y6 _ (by omega) (Or.inr (Or.inr (Or.inr (Or.inr (Or.inr (rfl))))))
    · intro hce0
      simp only [pCP] at hce0
      have hce0 : (ce).toInt ≥ (0 : Int) := by omega
      obtain ⟨cn, hcn, ecn⟩ := ty_nat (x := []) (hi := (N : Int)) ⟨ce, rfl, (show (0 : Int) ≤ ce.toInt by omega), hce⟩
      cases ecn
      obtain ⟨oz, hoz⟩ := pt197 hT hM (k := cn) (by omega)
      refine ok_seq 2 (σ' := (206, [(3, .int y3), (4, .int y4), (2, .int y2), (5, .int y5), (6, .int y6), (0, .ref 185), (1, .int (nI cn))], [M 185 31], gSh, M)) rfl ?_
      rw [h31]
      refine ok_seq 1 (σ' := (207, [(3, .int y3), (4, .int y4), (2, .int y2), (5, .int y5), (6, .int y6), (0, .ref 185), (1, .int (nI cn))], [.int (nI cn), .ref 197], gSh, M)) rfl ?_
      refine ok_iald (n := 93600) (v := oz) rfl rfl (hI_in (by omega) (by decide)) (by rw [hI_nat (by omega)]; exact hoz) ?_
      exact ok_ret (i := .ireturn) (len := 1) rfl rfl ⟨_, rfl, rfl, ⟨_, rfl⟩, hM, hF⟩
theorem le_in {S : pScr} {d dL N cl K0 fa c : Nat} {ce : Int32} {τ : fT} {M0 : pMem} (hT : pL τ N) (hH : LH τ S dL N) (hg : gR M0) (hfa : fa ≤ 40) (hc : c ≤ N) (hto : ∀ (M : pMem) (mo : Nat) (y5 y6 : Int32) (L2 : pLs), tyM (tOf τ) M → LF M0 M → mo < 2 → nNeg (M 197) (N + 1) ≤ K0 → (mo = 1 → nNeg (M 197) (N + 1) < K0) → (L2 = [(4, .int (nI (c + 1))), (2, .int (nI mo)), (3, .int (nI fa)), (0, .ref 185), (1, .int ce)] ∨ L2 = [(4, .int (nI (c + 1))), (5, .int y5), (2, .int (nI mo)), (3, .int (nI fa)), (0, .ref 185), (1, .int ce)] ∨ L2 = [(4, .int (nI (c + 1))), (5, .int y5), (6, .int y6), (2, .int (nI mo)), (3, .int (nI fa)), (0, .ref 185), (1, .int ce)] ∨ L2 = [(4, .int (nI (c + 1))), (5, .int y5), (2, .int (nI mo)), (6, .int y6), (3, .int (nI fa)), (0, .ref 185), (1, .int ce)] ∨ L2 = [(4, .int (nI (c + 1))), (2, .int (nI mo)), (3, .int (nI fa)), (5, .int y5), (0, .ref 185), (1, .int ce)] ∨ L2 = [(4, .int (nI (c + 1))), (2, .int (nI mo)), (3, .int (nI fa)), (5, .int y5), (6, .int y6), (0, .ref 185), (1, .int ce)] ∨ L2 = [(4, .int (nI (c + 1))), (5, .int y5), (2, .int (nI mo)), (3, .int (nI fa)), (6, .int y6), (0, .ref 185), (1, .int ce)]) → leK S (d + dL + 2) (fun r hp => hp.1 = gSh ∧ (∃ z : Int32, r = some (.int z)) ∧ tyM (tOf τ) hp.2 ∧ LF M0 hp.2) (70, L2, [], gSh, M)) : ∀ (r o mo : Nat) (y6 : Int32) (M : pMem) (L : pLs), o + r = 4 → tyM (tOf τ) M → LF M0 M → mo < 2 → nNeg (M 197) (N + 1) ≤ K0 → (mo = 1 → nNeg (M 197) (N + 1) < K0) → (L = [(5, .int (nI o)), (4, .int (nI c)), (2, .int (nI mo)), (3, .int (nI fa)), (0, .ref 185), (1, .int ce)] ∨ L = [(5, .int (nI o)), (6, .int y6), (4, .int (nI c)), (2, .int (nI mo)), (3, .int (nI fa)), (0, .ref 185), (1, .int ce)] ∨ L = [(5, .int (nI o)), (2, .int (nI mo)), (6, .int y6), (4, .int (nI c)), (3, .int (nI fa)), (0, .ref 185), (1, .int ce)] ∨ L = [(5, .int (nI o)), (6, .int y6), (2, .int (nI mo)), (4, .int (nI c)), (3, .int (nI fa)), (0, .ref 185), (1, .int ce)] ∨ L = [(5, .int (nI o)), (4, .int (nI c)), (6, .int y6), (2, .int (nI mo)), (3, .int (nI fa)), (0, .ref 185), (1, .int ce)] ∨ L = [(5, .int (nI o)), (4, .int (nI c)), (2, .int (nI mo)), (6, .int y6), (3, .int (nI fa)), (0, .ref 185), (1, .int ce)] ∨ L = [(5, .int (nI o)), (4, .int (nI c)), (2, .int (nI mo)), (3, .int (nI fa)), (6, .int y6), (0, .ref 185), (1, .int ce)]) → leK S (d + dL + 2) (fun r hp => hp.1 = gSh ∧ (∃ z : Int32, r = some (.int z)) ∧ tyM (tOf τ) hp.2 ∧ LF M0 hp.2) (82, L, [], gSh, M) := by
  have hN := hT.2.2.2.2.2.2
  intro r
  induction r with
  | zero =>
    intro o mo y6 M L ho hM hF hmo hK1 hK2 hL
    rcases hL with rfl | rfl | rfl | rfl | rfl | rfl | rfl
    · refine ok_seq 2 (σ' := (85, [(5, .int (nI o)), (4, .int (nI c)), (2, .int (nI mo)), (3, .int (nI fa)), (0, .ref 185), (1, .int ce)], [.int (Int32.ofInt 4), .int (nI o)], gSh, M)) rfl ?_
      rw [cI_4]
      refine ok_icmp 186 rfl rfl (fun _ => ?_) (fun hz => absurd (by simp only [pCP]; rw [hI_int (a := o) (by omega), hI_int (a := 4) (by omega)]; omega) hz)
      refine ok_seq 2 (σ' := (70, [(4, .int ((nI c) + (Int32.ofInt 1))), (5, .int (nI o)), (2, .int (nI mo)), (3, .int (nI fa)), (0, .ref 185), (1, .int ce)], [], gSh, M)) rfl ?_
      rw [cI_1, hI_add c 1]
      exact hto M mo (nI o) y6 _ hM hF hmo hK1 hK2 (Or.inr (Or.inl rfl))
    · refine ok_seq 2 (σ' := (85, [(5, .int (nI o)), (6, .int y6), (4, .int (nI c)), (2, .int (nI mo)), (3, .int (nI fa)), (0, .ref 185), (1, .int ce)], [.int (Int32.ofInt 4), .int (nI o)], gSh, M)) rfl ?_
      rw [cI_4]
      refine ok_icmp 186 rfl rfl (fun _ => ?_) (fun hz => absurd (by simp only [pCP]; rw [hI_int (a := o) (by omega), hI_int (a := 4) (by omega)]; omega) hz)
      refine ok_seq 2 (σ' := (70, [(4, .int ((nI c) + (Int32.ofInt 1))), (5, .int (nI o)), (6, .int y6), (2, .int (nI mo)), (3, .int (nI fa)), (0, .ref 185), (1, .int ce)], [], gSh, M)) rfl ?_
      rw [cI_1, hI_add c 1]
      exact hto M mo (nI o) y6 _ hM hF hmo hK1 hK2 (Or.inr (Or.inr (Or.inl rfl)))
    · refine ok_seq 2 (σ' := (85, [(5, .int (nI o)), (2, .int (nI mo)), (6, .int y6), (4, .int (nI c)), (3, .int (nI fa)), (0, .ref 185), (1, .int ce)], [.int (Int32.ofInt 4), .int (nI o)], gSh, M)) rfl ?_
      rw [cI_4]
      refine ok_icmp 186 rfl rfl (fun _ => ?_) (fun hz => absurd (by simp only [pCP]; rw [hI_int (a := o) (by omega), hI_int (a := 4) (by omega)]; omega) hz)
      refine ok_seq 2 (σ' := (70, [(4, .int ((nI c) + (Int32.ofInt 1))), (5, .int (nI o)), (2, .int (nI mo)), (6, .int y6), (3, .int (nI fa)), (0, .ref 185), (1, .int ce)], [], gSh, M)) rfl ?_
      rw [cI_1, hI_add c 1]
      exact hto M mo (nI o) y6 _ hM hF hmo hK1 hK2 (Or.inr (Or.inr (Or.inr (Or.inl rfl))))
    · refine ok_seq 2 (σ' := (85, [(5, .int (nI o)), (6, .int y6), (2, .int (nI mo)), (4, .int (nI c)), (3, .int (nI fa)), (0, .ref 185), (1, .int ce)], [.int (Int32.ofInt 4), .int (nI o)], gSh, M)) rfl ?_
      rw [cI_4]
      refine ok_icmp 186 rfl rfl (fun _ => ?_) (fun hz => absurd (by simp only [pCP]; rw [hI_int (a := o) (by omega), hI_int (a := 4) (by omega)]; omega) hz)
      refine ok_seq 2 (σ' := (70, [(4, .int ((nI c) + (Int32.ofInt 1))), (5, .int (nI o)), (6, .int y6), (2, .int (nI mo)), (3, .int (nI fa)), (0, .ref 185), (1, .int ce)], [], gSh, M)) rfl ?_
      rw [cI_1, hI_add c 1]
      exact hto M mo (nI o) y6 _ hM hF hmo hK1 hK2 (Or.inr (Or.inr (Or.inl rfl)))
    · refine ok_seq 2 (σ' := (85, [(5, .int (nI o)), (4, .int (nI c)), (6, .int y6), (2, .int (nI mo)), (3, .int (nI fa)), (0, .ref 185), (1, .int ce)], [.int (Int32.ofInt 4), .int (nI o)], gSh, M)) rfl ?_
      rw [cI_4]
      refine ok_icmp 186 rfl rfl (fun _ => ?_) (fun hz => absurd (by simp only [pCP]; rw [hI_int (a := o) (by omega), hI_int (a := 4) (by omega)]; omega) hz)
      refine ok_seq 2 (σ' := (70, [(4, .int ((nI c) + (Int32.ofInt 1))), (5, .int (nI o)), (6, .int y6), (2, .int (nI mo)), (3, .int (nI fa)), (0, .ref 185), (1, .int ce)], [], gSh, M)) rfl ?_
      rw [cI_1, hI_add c 1]
      exact hto M mo (nI o) y6 _ hM hF hmo hK1 hK2 (Or.inr (Or.inr (Or.inl rfl)))
    · refine ok_seq 2 (σ' := (85, [(5, .int (nI o)), (4, .int (nI c)), (2, .int (nI mo)), (6, .int y6), (3, .int (nI fa)), (0, .ref 185), (1, .int ce)], [.int (Int32.ofInt 4), .int (nI o)], gSh, M)) rfl ?_
      rw [cI_4]
      refine ok_icmp 186 rfl rfl (fun _ => ?_) (fun hz => absurd (by simp only [pCP]; rw [hI_int (a := o) (by omega), hI_int (a := 4) (by omega)]; omega) hz)
      refine ok_seq 2 (σ' := (70, [(4, .int ((nI c) + (Int32.ofInt 1))), (5, .int (nI o)), (2, .int (nI mo)), (6, .int y6), (3, .int (nI fa)), (0, .ref 185), (1, .int ce)], [], gSh, M)) rfl ?_
      rw [cI_1, hI_add c 1]
      exact hto M mo (nI o) y6 _ hM hF hmo hK1 hK2 (Or.inr (Or.inr (Or.inr (Or.inl rfl))))
    · refine ok_seq 2 (σ' := (85, [(5, .int (nI o)), (4, .int (nI c)), (2, .int (nI mo)), (3, .int (nI fa)), (6, .int y6), (0, .ref 185), (1, .int ce)], [.int (Int32.ofInt 4), .int (nI o)], gSh, M)) rfl ?_
      rw [cI_4]
      refine ok_icmp 186 rfl rfl (fun _ => ?_) (fun hz => absurd (by simp only [pCP]; rw [hI_int (a := o) (by omega), hI_int (a := 4) (by omega)]; omega) hz)
      refine ok_seq 2 (σ' := (70, [(4, .int ((nI c) + (Int32.ofInt 1))), (5, .int (nI o)), (2, .int (nI mo)), (3, .int (nI fa)), (6, .int y6), (0, .ref 185), (1, .int ce)], [], gSh, M)) rfl ?_
      rw [cI_1, hI_add c 1]
      exact hto M mo (nI o) y6 _ hM hF hmo hK1 hK2 (Or.inr (Or.inr (Or.inr (Or.inr (Or.inr (Or.inr (rfl)))))))
  | succ r ih =>
    intro o mo y6 M L ho hM hF hmo hK1 hK2 hL
    have h31 := ty_ref (ply hT hM 0 rfl rfl)
    have h3 := ty_ref (pty hT.1 hM 0 rfl rfl)
    obtain ⟨oz, hoz⟩ := pt197 hT hM (k := c) (by omega)
    obtain ⟨ex, hex, hex2⟩ := pl_exit hT hM (k := c) (by omega)
    obtain ⟨wz, hwz, -⟩ := ty_int (ply hT hM 1 rfl rfl)
    obtain ⟨az, haz, -⟩ := ty_int (ply hT hM 2 rfl rfl)
    obtain ⟨tz, t1, t2, t3⟩ := c_pure hH.2.1 (vs := [.ref 185, .int (nI c), .int (nI o)]) ⟨r185, sat_n (by omega) (by omega), sat_a _, trivial⟩ hM (hF.gr hg) (fun q hq => by cases hq)
    rcases hL with rfl | rfl | rfl | rfl | rfl | rfl | rfl
    · refine ok_seq 2 (σ' := (85, [(5, .int (nI o)), (4, .int (nI c)), (2, .int (nI mo)), (3, .int (nI fa)), (0, .ref 185), (1, .int ce)], [.int (Int32.ofInt 4), .int (nI o)], gSh, M)) rfl ?_
      rw [cI_4]
      refine ok_icmp 186 rfl rfl (fun hz => absurd hz (by simp only [pCP]; rw [hI_int (a := o) (by omega), hI_int (a := 4) (by omega)]; omega)) (fun _ => ?_)
      refine ok_seq 2 (σ' := (92, [(5, .int (nI o)), (4, .int (nI c)), (2, .int (nI mo)), (3, .int (nI fa)), (0, .ref 185), (1, .int ce)], [M 185 31], gSh, M)) rfl ?_
      rw [h31]
      refine ok_seq 1 (σ' := (94, [(5, .int (nI o)), (4, .int (nI c)), (2, .int (nI mo)), (3, .int (nI fa)), (0, .ref 185), (1, .int ce)], [.int (nI c), .ref 197], gSh, M)) rfl ?_
      refine ok_iald (n := 93600) (v := oz) rfl rfl (hI_in (by omega) (by decide)) (by rw [hI_nat (by omega)]; exact hoz) ?_
      refine ok_seq 1 (σ' := (96, [(5, .int (nI o)), (4, .int (nI c)), (2, .int (nI mo)), (3, .int (nI fa)), (0, .ref 185), (1, .int ce)], [.int (nI fa), .int oz], gSh, M)) rfl ?_
      refine ok_icmp 186 rfl rfl ?_ ?_
      · intro hf
        simp only [pCP] at hf
        rw [hI_int (a := fa) (by omega)] at hf
        have hf : (oz).toInt ≠ ((fa : Nat) : Int) := by omega
        refine ok_seq 2 (σ' := (70, [(4, .int ((nI c) + (Int32.ofInt 1))), (5, .int (nI o)), (2, .int (nI mo)), (3, .int (nI fa)), (0, .ref 185), (1, .int ce)], [], gSh, M)) rfl ?_
        rw [cI_1, hI_add c 1]
        exact hto M mo (nI o) y6 _ hM hF hmo hK1 hK2 (Or.inr (Or.inl rfl))
      · intro hf
        simp only [pCP] at hf
        rw [hI_int (a := fa) (by omega)] at hf
        have hf : (oz).toInt = ((fa : Nat) : Int) := by omega
        refine ok_seq 1 (σ' := (100, [(5, .int (nI o)), (4, .int (nI c)), (2, .int (nI mo)), (3, .int (nI fa)), (0, .ref 185), (1, .int ce)], [.int (nI fa)], gSh, M)) rfl ?_
        refine ok_if 116 rfl rfl ?_ ?_
        · intro hf0
          simp only [pCP] at hf0
          rw [hI_int (a := fa) (by omega)] at hf0
          have hf0 : ((fa : Nat) : Int) = (0 : Int) := by omega
          refine ok_seq 3 (σ' := (121, [(5, .int (nI o)), (4, .int (nI c)), (2, .int (nI mo)), (3, .int (nI fa)), (0, .ref 185), (1, .int ce)], [.int (nI o), .int (nI c), .ref 185], gSh, M)) rfl ?_
          refine ok_call (mi := 162) (as := [.ref 185, .int (nI c), .int (nI o)]) (pc' := 124) (L' := [(5, .int (nI o)), (4, .int (nI c)), (2, .int (nI mo)), (3, .int (nI fa)), (0, .ref 185), (1, .int ce)]) (st' := []) (sh' := gSh) (M' := M) (i := .invokevirtual 271) (len := 3) rfl rfl ?_
          refine ((t3.deep (by omega))).mono ?_
          rintro v hp ⟨rfl, rfl⟩
          refine ok_seq 2 (σ' := (128, [(6, .int tz), (5, .int (nI o)), (4, .int (nI c)), (2, .int (nI mo)), (3, .int (nI fa)), (0, .ref 185), (1, .int ce)], [.int tz], gSh, M)) rfl ?_
          refine ok_if 180 rfl rfl ?_ ?_
          · intro ht
            simp only [pCP] at ht
            have ht : (tz).toInt < (0 : Int) := by omega
            refine ok_seq 2 (σ' := (82, [(5, .int ((nI o) + (Int32.ofInt 1))), (6, .int tz), (4, .int (nI c)), (2, .int (nI mo)), (3, .int (nI fa)), (0, .ref 185), (1, .int ce)], [], gSh, M)) rfl ?_
            rw [cI_1, hI_add o 1]
            exact ih (o + 1) mo (tz) M _ (by omega) hM hF hmo hK1 hK2 (Or.inr (Or.inl rfl))
          · intro ht
            simp only [pCP] at ht
            have ht : (tz).toInt ≥ (0 : Int) := by omega
            obtain ⟨tn, htn, etn⟩ := ty_nat (x := []) (hi := (N : Int)) ⟨tz, rfl, (show (0 : Int) ≤ tz.toInt by omega), t2⟩
            cases etn
            obtain ⟨pz, hpz⟩ := pt197 hT hM (k := tn) (by omega)
            refine ok_seq 2 (σ' := (135, [(6, .int (nI tn)), (5, .int (nI o)), (4, .int (nI c)), (2, .int (nI mo)), (3, .int (nI fa)), (0, .ref 185), (1, .int ce)], [M 185 31], gSh, M)) rfl ?_
            rw [h31]
            refine ok_seq 1 (σ' := (137, [(6, .int (nI tn)), (5, .int (nI o)), (4, .int (nI c)), (2, .int (nI mo)), (3, .int (nI fa)), (0, .ref 185), (1, .int ce)], [.int (nI tn), .ref 197], gSh, M)) rfl ?_
            refine ok_iald (n := 93600) (v := pz) rfl rfl (hI_in (by omega) (by decide)) (by rw [hI_nat (by omega)]; exact hpz) ?_
            refine ok_if 180 rfl rfl ?_ ?_
            · intro hp
              simp only [pCP] at hp
              have hp : (pz).toInt ≥ (0 : Int) := by omega
              refine ok_seq 2 (σ' := (82, [(5, .int ((nI o) + (Int32.ofInt 1))), (6, .int (nI tn)), (4, .int (nI c)), (2, .int (nI mo)), (3, .int (nI fa)), (0, .ref 185), (1, .int ce)], [], gSh, M)) rfl ?_
              rw [cI_1, hI_add o 1]
              exact ih (o + 1) mo (nI tn) M _ (by omega) hM hF hmo hK1 hK2 (Or.inr (Or.inl rfl))
            · intro hp
              simp only [pCP] at hp
              have hp : (pz).toInt < (0 : Int) := by omega
              refine ok_seq 5 (σ' := (151, [(6, .int (nI tn)), (5, .int (nI o)), (4, .int (nI c)), (2, .int (nI mo)), (3, .int (nI fa)), (0, .ref 185), (1, .int ce)], [M 185 3, .int (nI tn), .int ((Int16.ofInt 504).toInt32), .ref 185], gSh, M)) rfl ?_
              rw [h3]
              rw [(show (Int16.ofInt 504).toInt32 = nI 504 by decide)]
              refine ok_seq 1 (σ' := (152, [(6, .int (nI tn)), (5, .int (nI o)), (4, .int (nI c)), (2, .int (nI mo)), (3, .int (nI fa)), (0, .ref 185), (1, .int ce)], [.int (Int32.ofInt 1), .ref 186, .int (nI tn), .int (nI 504), .ref 185], gSh, M)) rfl ?_
              rw [cI_1]
              refine ok_iald (n := 280) (v := wz) rfl rfl (hI_in (by omega) (by decide)) (by rw [hI_nat (by omega)]; exact hwz) ?_
              refine ok_seq 2 (σ' := (157, [(6, .int (nI tn)), (5, .int (nI o)), (4, .int (nI c)), (2, .int (nI mo)), (3, .int (nI fa)), (0, .ref 185), (1, .int ce)], [M 185 3, .int wz, .int (nI tn), .int (nI 504), .ref 185], gSh, M)) rfl ?_
              rw [h3]
              refine ok_seq 1 (σ' := (158, [(6, .int (nI tn)), (5, .int (nI o)), (4, .int (nI c)), (2, .int (nI mo)), (3, .int (nI fa)), (0, .ref 185), (1, .int ce)], [.int (Int32.ofInt 0), .ref 186, .int wz, .int (nI tn), .int (nI 504), .ref 185], gSh, M)) rfl ?_
              rw [cI_0]
              refine ok_iald (n := 280) (v := az) rfl rfl (hI_in (by omega) (by decide)) (by rw [hI_nat (by omega)]; exact haz) ?_
              refine ok_call (mi := 217) (as := [.ref 185, .int (nI 504), .int (nI tn), .int wz, .int az]) (pc' := 162) (L' := [(6, .int (nI tn)), (5, .int (nI o)), (4, .int (nI c)), (2, .int (nI mo)), (3, .int (nI fa)), (0, .ref 185), (1, .int ce)]) (st' := []) (sh' := gSh) (M' := M) (i := .invokevirtual 302) (len := 3) rfl rfl ?_
              refine (((hH.2.2 [.ref 185, .int (nI 504), .int (nI tn), .int wz, .int az] M ⟨r185, ⟨nI 504, rfl, by decide, by decide⟩, sat_n (by omega) (by omega), sat_a _, sat_a _, trivial⟩ hM (hF.gr hg) (fun q hq => by cases hq)).deep (by omega))).mono ?_
              rintro v ⟨sh2, M2⟩ ⟨hsh, hM2, hv, hf2, -⟩
              have hsh : sh2 = gSh := hsh
              subst hsh
              dsimp only at hM2 hf2
              have e197 : M2 197 = M 197 := hf2.1 197 (by decide)
              have hF2 : LF M0 M2 := fun o k1 k2 k3 k4 k5 => (hf2.1 o (by simp only [List.mem_cons, List.not_mem_nil, or_false, not_or]; exact ⟨k1, k2, k3⟩)).trans (hF o k1 k2 k3 k4 k5)
              have hK1' : nNeg (M2 197) (N + 1) ≤ K0 := by rw [e197]; exact hK1
              have hK2' : mo = 1 → nNeg (M2 197) (N + 1) < K0 := fun hz => by rw [e197]; exact hK2 hz
              have h312 := ty_ref (ply hT hM2 0 rfl rfl)
              obtain ⟨rz, er⟩ : ∃ rz : Int32, v = some (.int rz) := by
                cases v with
                | none => exact hv.elim
                | some v =>
                  obtain ⟨z, hz, -⟩ := ty_int hv.1
                  exact ⟨z, by rw [hz]⟩
              subst er
              refine ok_if 168 rfl rfl ?_ ?_
              · intro hr
                simp only [pCP] at hr
                have hr : (rz).toInt ≥ (0 : Int) := by omega
                refine ok_seq 2 (σ' := (172, [(6, .int (nI tn)), (5, .int (nI o)), (4, .int (nI c)), (2, .int (nI mo)), (3, .int (nI fa)), (0, .ref 185), (1, .int ce)], [M2 185 31], gSh, M2)) rfl ?_
                rw [h312]
                refine ok_seq 4 (σ' := (177, [(6, .int (nI tn)), (5, .int (nI o)), (4, .int (nI c)), (2, .int (nI mo)), (3, .int (nI fa)), (0, .ref 185), (1, .int ce)], [.int ((nI fa) + (Int32.ofInt 1)), .int (nI tn), .ref 197], gSh, M2)) rfl ?_
                rw [cI_1, hI_add fa 1]
                refine ok_iast (n := 93600) rfl rfl (hI_in (by omega) (by decide)) ?_
                rw [hI_nat (a := tn) (by omega)]
                have hw : nNeg ((pUp M2 197 tn (.int (nI (fa + 1)))) 197) (N + 1) + 1 = nNeg (M 197) (N + 1) := nNeg_put (j := tn) (by omega) (by rw [hpz]; exact hp) (by rw [pUp_self, vI_n (by omega)]; omega) (fun k hk => by rw [pUp_other _ _ _ _ (fun z => hk z.2), e197])
                refine ok_seq 4 (σ' := (82, [(5, .int ((nI o) + (Int32.ofInt 1))), (2, .int (Int32.ofInt 1)), (6, .int (nI tn)), (4, .int (nI c)), (3, .int (nI fa)), (0, .ref 185), (1, .int ce)], [], gSh, pUp M2 197 tn (.int (nI (fa + 1))))) rfl ?_
                rw [cI_1, hI_add o 1]
                exact ih (o + 1) 1 (nI tn) _ _ (by omega) (pu197 hT hM2 (by omega) _) hF2.up (by decide) (by omega) (fun _ => by omega) (Or.inr (Or.inr (Or.inl rfl)))
              · intro hr
                simp only [pCP] at hr
                have hr : (rz).toInt < (0 : Int) := by omega
                refine ok_seq 3 (σ' := (82, [(5, .int ((nI o) + (Int32.ofInt 1))), (6, .int (nI tn)), (4, .int (nI c)), (2, .int (nI mo)), (3, .int (nI fa)), (0, .ref 185), (1, .int ce)], [], gSh, M2)) rfl ?_
                rw [cI_1, hI_add o 1]
                exact ih (o + 1) mo (nI tn) M2 _ (by omega) hM2 hF2 hmo hK1' hK2' (Or.inr (Or.inl rfl))
        · intro hf0
          simp only [pCP] at hf0
          rw [hI_int (a := fa) (by omega)] at hf0
          have hf0 : ((fa : Nat) : Int) ≠ (0 : Int) := by omega
          refine ok_seq 2 (σ' := (107, [(5, .int (nI o)), (4, .int (nI c)), (2, .int (nI mo)), (3, .int (nI fa)), (0, .ref 185), (1, .int ce)], [M 185 3], gSh, M)) rfl ?_
          rw [h3]
          refine ok_seq 3 (σ' := (112, [(5, .int (nI o)), (4, .int (nI c)), (2, .int (nI mo)), (3, .int (nI fa)), (0, .ref 185), (1, .int ce)], [.int (((Int8.ofInt 70).toInt32) + (nI c)), .ref 186], gSh, M)) rfl ?_
          rw [(show (Int8.ofInt 70).toInt32 = nI 70 by decide), hI_add 70 c]
          refine ok_iald (n := 280) (v := nI ex) rfl rfl (hI_in (by omega) (by decide)) (by rw [hI_nat (by omega)]; exact hex2) ?_
          refine ok_if 186 rfl rfl ?_ ?_
          · intro he
            simp only [pCP] at he
            rw [hI_int (a := ex) (by omega)] at he
            have he : ((ex : Nat) : Int) ≠ (0 : Int) := by omega
            refine ok_seq 2 (σ' := (70, [(4, .int ((nI c) + (Int32.ofInt 1))), (5, .int (nI o)), (2, .int (nI mo)), (3, .int (nI fa)), (0, .ref 185), (1, .int ce)], [], gSh, M)) rfl ?_
            rw [cI_1, hI_add c 1]
            exact hto M mo (nI o) y6 _ hM hF hmo hK1 hK2 (Or.inr (Or.inl rfl))
          · intro he
            simp only [pCP] at he
            rw [hI_int (a := ex) (by omega)] at he
            have he : ((ex : Nat) : Int) = (0 : Int) := by omega
            refine ok_seq 3 (σ' := (121, [(5, .int (nI o)), (4, .int (nI c)), (2, .int (nI mo)), (3, .int (nI fa)), (0, .ref 185), (1, .int ce)], [.int (nI o), .int (nI c), .ref 185], gSh, M)) rfl ?_
            refine ok_call (mi := 162) (as := [.ref 185, .int (nI c), .int (nI o)]) (pc' := 124) (L' := [(5, .int (nI o)), (4, .int (nI c)), (2, .int (nI mo)), (3, .int (nI fa)), (0, .ref 185), (1, .int ce)]) (st' := []) (sh' := gSh) (M' := M) (i := .invokevirtual 271) (len := 3) rfl rfl ?_
            refine ((t3.deep (by omega))).mono ?_
            rintro v hp ⟨rfl, rfl⟩
            refine ok_seq 2 (σ' := (128, [(6, .int tz), (5, .int (nI o)), (4, .int (nI c)), (2, .int (nI mo)), (3, .int (nI fa)), (0, .ref 185), (1, .int ce)], [.int tz], gSh, M)) rfl ?_
            refine ok_if 180 rfl rfl ?_ ?_
            · intro ht
              simp only [pCP] at ht
              have ht : (tz).toInt < (0 : Int) := by omega
              refine ok_seq 2 (σ' := (82, [(5, .int ((nI o) + (Int32.ofInt 1))), (6, .int tz), (4, .int (nI c)), (2, .int (nI mo)), (3, .int (nI fa)), (0, .ref 185), (1, .int ce)], [], gSh, M)) rfl ?_
              rw [cI_1, hI_add o 1]
              exact ih (o + 1) mo (tz) M _ (by omega) hM hF hmo hK1 hK2 (Or.inr (Or.inl rfl))
            · intro ht
              simp only [pCP] at ht
              have ht : (tz).toInt ≥ (0 : Int) := by omega
              obtain ⟨tn, htn, etn⟩ := ty_nat (x := []) (hi := (N : Int)) ⟨tz, rfl, (show (0 : Int) ≤ tz.toInt by omega), t2⟩
              cases etn
              obtain ⟨pz, hpz⟩ := pt197 hT hM (k := tn) (by omega)
              refine ok_seq 2 (σ' := (135, [(6, .int (nI tn)), (5, .int (nI o)), (4, .int (nI c)), (2, .int (nI mo)), (3, .int (nI fa)), (0, .ref 185), (1, .int ce)], [M 185 31], gSh, M)) rfl ?_
              rw [h31]
              refine ok_seq 1 (σ' := (137, [(6, .int (nI tn)), (5, .int (nI o)), (4, .int (nI c)), (2, .int (nI mo)), (3, .int (nI fa)), (0, .ref 185), (1, .int ce)], [.int (nI tn), .ref 197], gSh, M)) rfl ?_
              refine ok_iald (n := 93600) (v := pz) rfl rfl (hI_in (by omega) (by decide)) (by rw [hI_nat (by omega)]; exact hpz) ?_
              refine ok_if 180 rfl rfl ?_ ?_
              · intro hp
                simp only [pCP] at hp
                have hp : (pz).toInt ≥ (0 : Int) := by omega
                refine ok_seq 2 (σ' := (82, [(5, .int ((nI o) + (Int32.ofInt 1))), (6, .int (nI tn)), (4, .int (nI c)), (2, .int (nI mo)), (3, .int (nI fa)), (0, .ref 185), (1, .int ce)], [], gSh, M)) rfl ?_
                rw [cI_1, hI_add o 1]
                exact ih (o + 1) mo (nI tn) M _ (by omega) hM hF hmo hK1 hK2 (Or.inr (Or.inl rfl))
              · intro hp
                simp only [pCP] at hp
                have hp : (pz).toInt < (0 : Int) := by omega
                refine ok_seq 5 (σ' := (151, [(6, .int (nI tn)), (5, .int (nI o)), (4, .int (nI c)), (2, .int (nI mo)), (3, .int (nI fa)), (0, .ref 185), (1, .int ce)], [M 185 3, .int (nI tn), .int ((Int16.ofInt 504).toInt32), .ref 185], gSh, M)) rfl ?_
                rw [h3]
                rw [(show (Int16.ofInt 504).toInt32 = nI 504 by decide)]
                refine ok_seq 1 (σ' := (152, [(6, .int (nI tn)), (5, .int (nI o)), (4, .int (nI c)), (2, .int (nI mo)), (3, .int (nI fa)), (0, .ref 185), (1, .int ce)], [.int (Int32.ofInt 1), .ref 186, .int (nI tn), .int (nI 504), .ref 185], gSh, M)) rfl ?_
                rw [cI_1]
                refine ok_iald (n := 280) (v := wz) rfl rfl (hI_in (by omega) (by decide)) (by rw [hI_nat (by omega)]; exact hwz) ?_
                refine ok_seq 2 (σ' := (157, [(6, .int (nI tn)), (5, .int (nI o)), (4, .int (nI c)), (2, .int (nI mo)), (3, .int (nI fa)), (0, .ref 185), (1, .int ce)], [M 185 3, .int wz, .int (nI tn), .int (nI 504), .ref 185], gSh, M)) rfl ?_
                rw [h3]
                refine ok_seq 1 (σ' := (158, [(6, .int (nI tn)), (5, .int (nI o)), (4, .int (nI c)), (2, .int (nI mo)), (3, .int (nI fa)), (0, .ref 185), (1, .int ce)], [.int (Int32.ofInt 0), .ref 186, .int wz, .int (nI tn), .int (nI 504), .ref 185], gSh, M)) rfl ?_
                rw [cI_0]
                refine ok_iald (n := 280) (v := az) rfl rfl (hI_in (by omega) (by decide)) (by rw [hI_nat (by omega)]; exact haz) ?_
                refine ok_call (mi := 217) (as := [.ref 185, .int (nI 504), .int (nI tn), .int wz, .int az]) (pc' := 162) (L' := [(6, .int (nI tn)), (5, .int (nI o)), (4, .int (nI c)), (2, .int (nI mo)), (3, .int (nI fa)), (0, .ref 185), (1, .int ce)]) (st' := []) (sh' := gSh) (M' := M) (i := .invokevirtual 302) (len := 3) rfl rfl ?_
                refine (((hH.2.2 [.ref 185, .int (nI 504), .int (nI tn), .int wz, .int az] M ⟨r185, ⟨nI 504, rfl, by decide, by decide⟩, sat_n (by omega) (by omega), sat_a _, sat_a _, trivial⟩ hM (hF.gr hg) (fun q hq => by cases hq)).deep (by omega))).mono ?_
                rintro v ⟨sh2, M2⟩ ⟨hsh, hM2, hv, hf2, -⟩
                have hsh : sh2 = gSh := hsh
                subst hsh
                dsimp only at hM2 hf2
                have e197 : M2 197 = M 197 := hf2.1 197 (by decide)
                have hF2 : LF M0 M2 := fun o k1 k2 k3 k4 k5 => (hf2.1 o (by simp only [List.mem_cons, List.not_mem_nil, or_false, not_or]; exact ⟨k1, k2, k3⟩)).trans (hF o k1 k2 k3 k4 k5)
                have hK1' : nNeg (M2 197) (N + 1) ≤ K0 := by rw [e197]; exact hK1
                have hK2' : mo = 1 → nNeg (M2 197) (N + 1) < K0 := fun hz => by rw [e197]; exact hK2 hz
                have h312 := ty_ref (ply hT hM2 0 rfl rfl)
                obtain ⟨rz, er⟩ : ∃ rz : Int32, v = some (.int rz) := by
                  cases v with
                  | none => exact hv.elim
                  | some v =>
                    obtain ⟨z, hz, -⟩ := ty_int hv.1
                    exact ⟨z, by rw [hz]⟩
                subst er
                refine ok_if 168 rfl rfl ?_ ?_
                · intro hr
                  simp only [pCP] at hr
                  have hr : (rz).toInt ≥ (0 : Int) := by omega
                  refine ok_seq 2 (σ' := (172, [(6, .int (nI tn)), (5, .int (nI o)), (4, .int (nI c)), (2, .int (nI mo)), (3, .int (nI fa)), (0, .ref 185), (1, .int ce)], [M2 185 31], gSh, M2)) rfl ?_
                  rw [h312]
                  refine ok_seq 4 (σ' := (177, [(6, .int (nI tn)), (5, .int (nI o)), (4, .int (nI c)), (2, .int (nI mo)), (3, .int (nI fa)), (0, .ref 185), (1, .int ce)], [.int ((nI fa) + (Int32.ofInt 1)), .int (nI tn), .ref 197], gSh, M2)) rfl ?_
                  rw [cI_1, hI_add fa 1]
                  refine ok_iast (n := 93600) rfl rfl (hI_in (by omega) (by decide)) ?_
                  rw [hI_nat (a := tn) (by omega)]
                  have hw : nNeg ((pUp M2 197 tn (.int (nI (fa + 1)))) 197) (N + 1) + 1 = nNeg (M 197) (N + 1) := nNeg_put (j := tn) (by omega) (by rw [hpz]; exact hp) (by rw [pUp_self, vI_n (by omega)]; omega) (fun k hk => by rw [pUp_other _ _ _ _ (fun z => hk z.2), e197])
                  refine ok_seq 4 (σ' := (82, [(5, .int ((nI o) + (Int32.ofInt 1))), (2, .int (Int32.ofInt 1)), (6, .int (nI tn)), (4, .int (nI c)), (3, .int (nI fa)), (0, .ref 185), (1, .int ce)], [], gSh, pUp M2 197 tn (.int (nI (fa + 1))))) rfl ?_
                  rw [cI_1, hI_add o 1]
                  exact ih (o + 1) 1 (nI tn) _ _ (by omega) (pu197 hT hM2 (by omega) _) hF2.up (by decide) (by omega) (fun _ => by omega) (Or.inr (Or.inr (Or.inl rfl)))
                · intro hr
                  simp only [pCP] at hr
                  have hr : (rz).toInt < (0 : Int) := by omega
                  refine ok_seq 3 (σ' := (82, [(5, .int ((nI o) + (Int32.ofInt 1))), (6, .int (nI tn)), (4, .int (nI c)), (2, .int (nI mo)), (3, .int (nI fa)), (0, .ref 185), (1, .int ce)], [], gSh, M2)) rfl ?_
                  rw [cI_1, hI_add o 1]
                  exact ih (o + 1) mo (nI tn) M2 _ (by omega) hM2 hF2 hmo hK1' hK2' (Or.inr (Or.inl rfl))
    · refine ok_seq 2 (σ' := (85, [(5, .int (nI o)), (6, .int y6), (4, .int (nI c)), (2, .int (nI mo)), (3, .int (nI fa)), (0, .ref 185), (1, .int ce)], [.int (Int32.ofInt 4), .int (nI o)], gSh, M)) rfl ?_
      rw [cI_4]
      refine ok_icmp 186 rfl rfl (fun hz => absurd hz (by simp only [pCP]; rw [hI_int (a := o) (by omega), hI_int (a := 4) (by omega)]; omega)) (fun _ => ?_)
      refine ok_seq 2 (σ' := (92, [(5, .int (nI o)), (6, .int y6), (4, .int (nI c)), (2, .int (nI mo)), (3, .int (nI fa)), (0, .ref 185), (1, .int ce)], [M 185 31], gSh, M)) rfl ?_
      rw [h31]
      refine ok_seq 1 (σ' := (94, [(5, .int (nI o)), (6, .int y6), (4, .int (nI c)), (2, .int (nI mo)), (3, .int (nI fa)), (0, .ref 185), (1, .int ce)], [.int (nI c), .ref 197], gSh, M)) rfl ?_
      refine ok_iald (n := 93600) (v := oz) rfl rfl (hI_in (by omega) (by decide)) (by rw [hI_nat (by omega)]; exact hoz) ?_
      refine ok_seq 1 (σ' := (96, [(5, .int (nI o)), (6, .int y6), (4, .int (nI c)), (2, .int (nI mo)), (3, .int (nI fa)), (0, .ref 185), (1, .int ce)], [.int (nI fa), .int oz], gSh, M)) rfl ?_
      refine ok_icmp 186 rfl rfl ?_ ?_
      · intro hf
        simp only [pCP] at hf
        rw [hI_int (a := fa) (by omega)] at hf
        have hf : (oz).toInt ≠ ((fa : Nat) : Int) := by omega
        refine ok_seq 2 (σ' := (70, [(4, .int ((nI c) + (Int32.ofInt 1))), (5, .int (nI o)), (6, .int y6), (2, .int (nI mo)), (3, .int (nI fa)), (0, .ref 185), (1, .int ce)], [], gSh, M)) rfl ?_
        rw [cI_1, hI_add c 1]
        exact hto M mo (nI o) y6 _ hM hF hmo hK1 hK2 (Or.inr (Or.inr (Or.inl rfl)))
      · intro hf
        simp only [pCP] at hf
        rw [hI_int (a := fa) (by omega)] at hf
        have hf : (oz).toInt = ((fa : Nat) : Int) := by omega
        refine ok_seq 1 (σ' := (100, [(5, .int (nI o)), (6, .int y6), (4, .int (nI c)), (2, .int (nI mo)), (3, .int (nI fa)), (0, .ref 185), (1, .int ce)], [.int (nI fa)], gSh, M)) rfl ?_
        refine ok_if 116 rfl rfl ?_ ?_
        · intro hf0
          simp only [pCP] at hf0
          rw [hI_int (a := fa) (by omega)] at hf0
          have hf0 : ((fa : Nat) : Int) = (0 : Int) := by omega
          refine ok_seq 3 (σ' := (121, [(5, .int (nI o)), (6, .int y6), (4, .int (nI c)), (2, .int (nI mo)), (3, .int (nI fa)), (0, .ref 185), (1, .int ce)], [.int (nI o), .int (nI c), .ref 185], gSh, M)) rfl ?_
          refine ok_call (mi := 162) (as := [.ref 185, .int (nI c), .int (nI o)]) (pc' := 124) (L' := [(5, .int (nI o)), (6, .int y6), (4, .int (nI c)), (2, .int (nI mo)), (3, .int (nI fa)), (0, .ref 185), (1, .int ce)]) (st' := []) (sh' := gSh) (M' := M) (i := .invokevirtual 271) (len := 3) rfl rfl ?_
          refine ((t3.deep (by omega))).mono ?_
          rintro v hp ⟨rfl, rfl⟩
          refine ok_seq 2 (σ' := (128, [(6, .int tz), (5, .int (nI o)), (4, .int (nI c)), (2, .int (nI mo)), (3, .int (nI fa)), (0, .ref 185), (1, .int ce)], [.int tz], gSh, M)) rfl ?_
          refine ok_if 180 rfl rfl ?_ ?_
          · intro ht
            simp only [pCP] at ht
            have ht : (tz).toInt < (0 : Int) := by omega
            refine ok_seq 2 (σ' := (82, [(5, .int ((nI o) + (Int32.ofInt 1))), (6, .int tz), (4, .int (nI c)), (2, .int (nI mo)), (3, .int (nI fa)), (0, .ref 185), (1, .int ce)], [], gSh, M)) rfl ?_
            rw [cI_1, hI_add o 1]
            exact ih (o + 1) mo (tz) M _ (by omega) hM hF hmo hK1 hK2 (Or.inr (Or.inl rfl))
          · intro ht
            simp only [pCP] at ht
            have ht : (tz).toInt ≥ (0 : Int) := by omega
            obtain ⟨tn, htn, etn⟩ := ty_nat (x := []) (hi := (N : Int)) ⟨tz, rfl, (show (0 : Int) ≤ tz.toInt by omega), t2⟩
            cases etn
            obtain ⟨pz, hpz⟩ := pt197 hT hM (k := tn) (by omega)
            refine ok_seq 2 (σ' := (135, [(6, .int (nI tn)), (5, .int (nI o)), (4, .int (nI c)), (2, .int (nI mo)), (3, .int (nI fa)), (0, .ref 185), (1, .int ce)], [M 185 31], gSh, M)) rfl ?_
            rw [h31]
            refine ok_seq 1 (σ' := (137, [(6, .int (nI tn)), (5, .int (nI o)), (4, .int (nI c)), (2, .int (nI mo)), (3, .int (nI fa)), (0, .ref 185), (1, .int ce)], [.int (nI tn), .ref 197], gSh, M)) rfl ?_
            refine ok_iald (n := 93600) (v := pz) rfl rfl (hI_in (by omega) (by decide)) (by rw [hI_nat (by omega)]; exact hpz) ?_
            refine ok_if 180 rfl rfl ?_ ?_
            · intro hp
              simp only [pCP] at hp
              have hp : (pz).toInt ≥ (0 : Int) := by omega
              refine ok_seq 2 (σ' := (82, [(5, .int ((nI o) + (Int32.ofInt 1))), (6, .int (nI tn)), (4, .int (nI c)), (2, .int (nI mo)), (3, .int (nI fa)), (0, .ref 185), (1, .int ce)], [], gSh, M)) rfl ?_
              rw [cI_1, hI_add o 1]
              exact ih (o + 1) mo (nI tn) M _ (by omega) hM hF hmo hK1 hK2 (Or.inr (Or.inl rfl))
            · intro hp
              simp only [pCP] at hp
              have hp : (pz).toInt < (0 : Int) := by omega
              refine ok_seq 5 (σ' := (151, [(6, .int (nI tn)), (5, .int (nI o)), (4, .int (nI c)), (2, .int (nI mo)), (3, .int (nI fa)), (0, .ref 185), (1, .int ce)], [M 185 3, .int (nI tn), .int ((Int16.ofInt 504).toInt32), .ref 185], gSh, M)) rfl ?_
              rw [h3]
              rw [(show (Int16.ofInt 504).toInt32 = nI 504 by decide)]
              refine ok_seq 1 (σ' := (152, [(6, .int (nI tn)), (5, .int (nI o)), (4, .int (nI c)), (2, .int (nI mo)), (3, .int (nI fa)), (0, .ref 185), (1, .int ce)], [.int (Int32.ofInt 1), .ref 186, .int (nI tn), .int (nI 504), .ref 185], gSh, M)) rfl ?_
              rw [cI_1]
              refine ok_iald (n := 280) (v := wz) rfl rfl (hI_in (by omega) (by decide)) (by rw [hI_nat (by omega)]; exact hwz) ?_
              refine ok_seq 2 (σ' := (157, [(6, .int (nI tn)), (5, .int (nI o)), (4, .int (nI c)), (2, .int (nI mo)), (3, .int (nI fa)), (0, .ref 185), (1, .int ce)], [M 185 3, .int wz, .int (nI tn), .int (nI 504), .ref 185], gSh, M)) rfl ?_
              rw [h3]
              refine ok_seq 1 (σ' := (158, [(6, .int (nI tn)), (5, .int (nI o)), (4, .int (nI c)), (2, .int (nI mo)), (3, .int (nI fa)), (0, .ref 185), (1, .int ce)], [.int (Int32.ofInt 0), .ref 186, .int wz, .int (nI tn), .int (nI 504), .ref 185], gSh, M)) rfl ?_
              rw [cI_0]
              refine ok_iald (n := 280) (v := az) rfl rfl (hI_in (by omega) (by decide)) (by rw [hI_nat (by omega)]; exact haz) ?_
              refine ok_call (mi := 217) (as := [.ref 185, .int (nI 504), .int (nI tn), .int wz, .int az]) (pc' := 162) (L' := [(6, .int (nI tn)), (5, .int (nI o)), (4, .int (nI c)), (2, .int (nI mo)), (3, .int (nI fa)), (0, .ref 185), (1, .int ce)]) (st' := []) (sh' := gSh) (M' := M) (i := .invokevirtual 302) (len := 3) rfl rfl ?_
              refine (((hH.2.2 [.ref 185, .int (nI 504), .int (nI tn), .int wz, .int az] M ⟨r185, ⟨nI 504, rfl, by decide, by decide⟩, sat_n (by omega) (by omega), sat_a _, sat_a _, trivial⟩ hM (hF.gr hg) (fun q hq => by cases hq)).deep (by omega))).mono ?_
              rintro v ⟨sh2, M2⟩ ⟨hsh, hM2, hv, hf2, -⟩
              have hsh : sh2 = gSh := hsh
              subst hsh
              dsimp only at hM2 hf2
              have e197 : M2 197 = M 197 := hf2.1 197 (by decide)
              have hF2 : LF M0 M2 := fun o k1 k2 k3 k4 k5 => (hf2.1 o (by simp only [List.mem_cons, List.not_mem_nil, or_false, not_or]; exact ⟨k1, k2, k3⟩)).trans (hF o k1 k2 k3 k4 k5)
              have hK1' : nNeg (M2 197) (N + 1) ≤ K0 := by rw [e197]; exact hK1
              have hK2' : mo = 1 → nNeg (M2 197) (N + 1) < K0 := fun hz => by rw [e197]; exact hK2 hz
              have h312 := ty_ref (ply hT hM2 0 rfl rfl)
              obtain ⟨rz, er⟩ : ∃ rz : Int32, v = some (.int rz) := by
                cases v with
                | none => exact hv.elim
                | some v =>
                  obtain ⟨z, hz, -⟩ := ty_int hv.1
                  exact ⟨z, by rw [hz]⟩
              subst er
              refine ok_if 168 rfl rfl ?_ ?_
              · intro hr
                simp only [pCP] at hr
                have hr : (rz).toInt ≥ (0 : Int) := by omega
                refine ok_seq 2 (σ' := (172, [(6, .int (nI tn)), (5, .int (nI o)), (4, .int (nI c)), (2, .int (nI mo)), (3, .int (nI fa)), (0, .ref 185), (1, .int ce)], [M2 185 31], gSh, M2)) rfl ?_
                rw [h312]
                refine ok_seq 4 (σ' := (177, [(6, .int (nI tn)), (5, .int (nI o)), (4, .int (nI c)), (2, .int (nI mo)), (3, .int (nI fa)), (0, .ref 185), (1, .int ce)], [.int ((nI fa) + (Int32.ofInt 1)), .int (nI tn), .ref 197], gSh, M2)) rfl ?_
                rw [cI_1, hI_add fa 1]
                refine ok_iast (n := 93600) rfl rfl (hI_in (by omega) (by decide)) ?_
                rw [hI_nat (a := tn) (by omega)]
                have hw : nNeg ((pUp M2 197 tn (.int (nI (fa + 1)))) 197) (N + 1) + 1 = nNeg (M 197) (N + 1) := nNeg_put (j := tn) (by omega) (by rw [hpz]; exact hp) (by rw [pUp_self, vI_n (by omega)]; omega) (fun k hk => by rw [pUp_other _ _ _ _ (fun z => hk z.2), e197])
                refine ok_seq 4 (σ' := (82, [(5, .int ((nI o) + (Int32.ofInt 1))), (2, .int (Int32.ofInt 1)), (6, .int (nI tn)), (4, .int (nI c)), (3, .int (nI fa)), (0, .ref 185), (1, .int ce)], [], gSh, pUp M2 197 tn (.int (nI (fa + 1))))) rfl ?_
                rw [cI_1, hI_add o 1]
                exact ih (o + 1) 1 (nI tn) _ _ (by omega) (pu197 hT hM2 (by omega) _) hF2.up (by decide) (by omega) (fun _ => by omega) (Or.inr (Or.inr (Or.inl rfl)))
              · intro hr
                simp only [pCP] at hr
                have hr : (rz).toInt < (0 : Int) := by omega
                refine ok_seq 3 (σ' := (82, [(5, .int ((nI o) + (Int32.ofInt 1))), (6, .int (nI tn)), (4, .int (nI c)), (2, .int (nI mo)), (3, .int (nI fa)), (0, .ref 185), (1, .int ce)], [], gSh, M2)) rfl ?_
                rw [cI_1, hI_add o 1]
                exact ih (o + 1) mo (nI tn) M2 _ (by omega) hM2 hF2 hmo hK1' hK2' (Or.inr (Or.inl rfl))
        · intro hf0
          simp only [pCP] at hf0
          rw [hI_int (a := fa) (by omega)] at hf0
          have hf0 : ((fa : Nat) : Int) ≠ (0 : Int) := by omega
          refine ok_seq 2 (σ' := (107, [(5, .int (nI o)), (6, .int y6), (4, .int (nI c)), (2, .int (nI mo)), (3, .int (nI fa)), (0, .ref 185), (1, .int ce)], [M 185 3], gSh, M)) rfl ?_
          rw [h3]
          refine ok_seq 3 (σ' := (112, [(5, .int (nI o)), (6, .int y6), (4, .int (nI c)), (2, .int (nI mo)), (3, .int (nI fa)), (0, .ref 185), (1, .int ce)], [.int (((Int8.ofInt 70).toInt32) + (nI c)), .ref 186], gSh, M)) rfl ?_
          rw [(show (Int8.ofInt 70).toInt32 = nI 70 by decide), hI_add 70 c]
          refine ok_iald (n := 280) (v := nI ex) rfl rfl (hI_in (by omega) (by decide)) (by rw [hI_nat (by omega)]; exact hex2) ?_
          refine ok_if 186 rfl rfl ?_ ?_
          · intro he
            simp only [pCP] at he
            rw [hI_int (a := ex) (by omega)] at he
            have he : ((ex : Nat) : Int) ≠ (0 : Int) := by omega
            refine ok_seq 2 (σ' := (70, [(4, .int ((nI c) + (Int32.ofInt 1))), (5, .int (nI o)), (6, .int y6), (2, .int (nI mo)), (3, .int (nI fa)), (0, .ref 185), (1, .int ce)], [], gSh, M)) rfl ?_
            rw [cI_1, hI_add c 1]
            exact hto M mo (nI o) y6 _ hM hF hmo hK1 hK2 (Or.inr (Or.inr (Or.inl rfl)))
          · intro he
            simp only [pCP] at he
            rw [hI_int (a := ex) (by omega)] at he
            have he : ((ex : Nat) : Int) = (0 : Int) := by omega
            refine ok_seq 3 (σ' := (121, [(5, .int (nI o)), (6, .int y6), (4, .int (nI c)), (2, .int (nI mo)), (3, .int (nI fa)), (0, .ref 185), (1, .int ce)], [.int (nI o), .int (nI c), .ref 185], gSh, M)) rfl ?_
            refine ok_call (mi := 162) (as := [.ref 185, .int (nI c), .int (nI o)]) (pc' := 124) (L' := [(5, .int (nI o)), (6, .int y6), (4, .int (nI c)), (2, .int (nI mo)), (3, .int (nI fa)), (0, .ref 185), (1, .int ce)]) (st' := []) (sh' := gSh) (M' := M) (i := .invokevirtual 271) (len := 3) rfl rfl ?_
            refine ((t3.deep (by omega))).mono ?_
            rintro v hp ⟨rfl, rfl⟩
            refine ok_seq 2 (σ' := (128, [(6, .int tz), (5, .int (nI o)), (4, .int (nI c)), (2, .int (nI mo)), (3, .int (nI fa)), (0, .ref 185), (1, .int ce)], [.int tz], gSh, M)) rfl ?_
            refine ok_if 180 rfl rfl ?_ ?_
            · intro ht
              simp only [pCP] at ht
              have ht : (tz).toInt < (0 : Int) := by omega
              refine ok_seq 2 (σ' := (82, [(5, .int ((nI o) + (Int32.ofInt 1))), (6, .int tz), (4, .int (nI c)), (2, .int (nI mo)), (3, .int (nI fa)), (0, .ref 185), (1, .int ce)], [], gSh, M)) rfl ?_
              rw [cI_1, hI_add o 1]
              exact ih (o + 1) mo (tz) M _ (by omega) hM hF hmo hK1 hK2 (Or.inr (Or.inl rfl))
            · intro ht
              simp only [pCP] at ht
              have ht : (tz).toInt ≥ (0 : Int) := by omega
              obtain ⟨tn, htn, etn⟩ := ty_nat (x := []) (hi := (N : Int)) ⟨tz, rfl, (show (0 : Int) ≤ tz.toInt by omega), t2⟩
              cases etn
              obtain ⟨pz, hpz⟩ := pt197 hT hM (k := tn) (by omega)
              refine ok_seq 2 (σ' := (135, [(6, .int (nI tn)), (5, .int (nI o)), (4, .int (nI c)), (2, .int (nI mo)), (3, .int (nI fa)), (0, .ref 185), (1, .int ce)], [M 185 31], gSh, M)) rfl ?_
              rw [h31]
              refine ok_seq 1 (σ' := (137, [(6, .int (nI tn)), (5, .int (nI o)), (4, .int (nI c)), (2, .int (nI mo)), (3, .int (nI fa)), (0, .ref 185), (1, .int ce)], [.int (nI tn), .ref 197], gSh, M)) rfl ?_
              refine ok_iald (n := 93600) (v := pz) rfl rfl (hI_in (by omega) (by decide)) (by rw [hI_nat (by omega)]; exact hpz) ?_
              refine ok_if 180 rfl rfl ?_ ?_
              · intro hp
                simp only [pCP] at hp
                have hp : (pz).toInt ≥ (0 : Int) := by omega
                refine ok_seq 2 (σ' := (82, [(5, .int ((nI o) + (Int32.ofInt 1))), (6, .int (nI tn)), (4, .int (nI c)), (2, .int (nI mo)), (3, .int (nI fa)), (0, .ref 185), (1, .int ce)], [], gSh, M)) rfl ?_
                rw [cI_1, hI_add o 1]
                exact ih (o + 1) mo (nI tn) M _ (by omega) hM hF hmo hK1 hK2 (Or.inr (Or.inl rfl))
              · intro hp
                simp only [pCP] at hp
                have hp : (pz).toInt < (0 : Int) := by omega
                refine ok_seq 5 (σ' := (151, [(6, .int (nI tn)), (5, .int (nI o)), (4, .int (nI c)), (2, .int (nI mo)), (3, .int (nI fa)), (0, .ref 185), (1, .int ce)], [M 185 3, .int (nI tn), .int ((Int16.ofInt 504).toInt32), .ref 185], gSh, M)) rfl ?_
                rw [h3]
                rw [(show (Int16.ofInt 504).toInt32 = nI 504 by decide)]
                refine ok_seq 1 (σ' := (152, [(6, .int (nI tn)), (5, .int (nI o)), (4, .int (nI c)), (2, .int (nI mo)), (3, .int (nI fa)), (0, .ref 185), (1, .int ce)], [.int (Int32.ofInt 1), .ref 186, .int (nI tn), .int (nI 504), .ref 185], gSh, M)) rfl ?_
                rw [cI_1]
                refine ok_iald (n := 280) (v := wz) rfl rfl (hI_in (by omega) (by decide)) (by rw [hI_nat (by omega)]; exact hwz) ?_
                refine ok_seq 2 (σ' := (157, [(6, .int (nI tn)), (5, .int (nI o)), (4, .int (nI c)), (2, .int (nI mo)), (3, .int (nI fa)), (0, .ref 185), (1, .int ce)], [M 185 3, .int wz, .int (nI tn), .int (nI 504), .ref 185], gSh, M)) rfl ?_
                rw [h3]
                refine ok_seq 1 (σ' := (158, [(6, .int (nI tn)), (5, .int (nI o)), (4, .int (nI c)), (2, .int (nI mo)), (3, .int (nI fa)), (0, .ref 185), (1, .int ce)], [.int (Int32.ofInt 0), .ref 186, .int wz, .int (nI tn), .int (nI 504), .ref 185], gSh, M)) rfl ?_
                rw [cI_0]
                refine ok_iald (n := 280) (v := az) rfl rfl (hI_in (by omega) (by decide)) (by rw [hI_nat (by omega)]; exact haz) ?_
                refine ok_call (mi := 217) (as := [.ref 185, .int (nI 504), .int (nI tn), .int wz, .int az]) (pc' := 162) (L' := [(6, .int (nI tn)), (5, .int (nI o)), (4, .int (nI c)), (2, .int (nI mo)), (3, .int (nI fa)), (0, .ref 185), (1, .int ce)]) (st' := []) (sh' := gSh) (M' := M) (i := .invokevirtual 302) (len := 3) rfl rfl ?_
                refine (((hH.2.2 [.ref 185, .int (nI 504), .int (nI tn), .int wz, .int az] M ⟨r185, ⟨nI 504, rfl, by decide, by decide⟩, sat_n (by omega) (by omega), sat_a _, sat_a _, trivial⟩ hM (hF.gr hg) (fun q hq => by cases hq)).deep (by omega))).mono ?_
                rintro v ⟨sh2, M2⟩ ⟨hsh, hM2, hv, hf2, -⟩
                have hsh : sh2 = gSh := hsh
                subst hsh
                dsimp only at hM2 hf2
                have e197 : M2 197 = M 197 := hf2.1 197 (by decide)
                have hF2 : LF M0 M2 := fun o k1 k2 k3 k4 k5 => (hf2.1 o (by simp only [List.mem_cons, List.not_mem_nil, or_false, not_or]; exact ⟨k1, k2, k3⟩)).trans (hF o k1 k2 k3 k4 k5)
                have hK1' : nNeg (M2 197) (N + 1) ≤ K0 := by rw [e197]; exact hK1
                have hK2' : mo = 1 → nNeg (M2 197) (N + 1) < K0 := fun hz => by rw [e197]; exact hK2 hz
                have h312 := ty_ref (ply hT hM2 0 rfl rfl)
                obtain ⟨rz, er⟩ : ∃ rz : Int32, v = some (.int rz) := by
                  cases v with
                  | none => exact hv.elim
                  | some v =>
                    obtain ⟨z, hz, -⟩ := ty_int hv.1
                    exact ⟨z, by rw [hz]⟩
                subst er
                refine ok_if 168 rfl rfl ?_ ?_
                · intro hr
                  simp only [pCP] at hr
                  have hr : (rz).toInt ≥ (0 : Int) := by omega
                  refine ok_seq 2 (σ' := (172, [(6, .int (nI tn)), (5, .int (nI o)), (4, .int (nI c)), (2, .int (nI mo)), (3, .int (nI fa)), (0, .ref 185), (1, .int ce)], [M2 185 31], gSh, M2)) rfl ?_
                  rw [h312]
                  refine ok_seq 4 (σ' := (177, [(6, .int (nI tn)), (5, .int (nI o)), (4, .int (nI c)), (2, .int (nI mo)), (3, .int (nI fa)), (0, .ref 185), (1, .int ce)], [.int ((nI fa) + (Int32.ofInt 1)), .int (nI tn), .ref 197], gSh, M2)) rfl ?_
                  rw [cI_1, hI_add fa 1]
                  refine ok_iast (n := 93600) rfl rfl (hI_in (by omega) (by decide)) ?_
                  rw [hI_nat (a := tn) (by omega)]
                  have hw : nNeg ((pUp M2 197 tn (.int (nI (fa + 1)))) 197) (N + 1) + 1 = nNeg (M 197) (N + 1) := nNeg_put (j := tn) (by omega) (by rw [hpz]; exact hp) (by rw [pUp_self, vI_n (by omega)]; omega) (fun k hk => by rw [pUp_other _ _ _ _ (fun z => hk z.2), e197])
                  refine ok_seq 4 (σ' := (82, [(5, .int ((nI o) + (Int32.ofInt 1))), (2, .int (Int32.ofInt 1)), (6, .int (nI tn)), (4, .int (nI c)), (3, .int (nI fa)), (0, .ref 185), (1, .int ce)], [], gSh, pUp M2 197 tn (.int (nI (fa + 1))))) rfl ?_
                  rw [cI_1, hI_add o 1]
                  exact ih (o + 1) 1 (nI tn) _ _ (by omega) (pu197 hT hM2 (by omega) _) hF2.up (by decide) (by omega) (fun _ => by omega) (Or.inr (Or.inr (Or.inl rfl)))
                · intro hr
                  simp only [pCP] at hr
                  have hr : (rz).toInt < (0 : Int) := by omega
                  refine ok_seq 3 (σ' := (82, [(5, .int ((nI o) + (Int32.ofInt 1))), (6, .int (nI tn)), (4, .int (nI c)), (2, .int (nI mo)), (3, .int (nI fa)), (0, .ref 185), (1, .int ce)], [], gSh, M2)) rfl ?_
                  rw [cI_1, hI_add o 1]
                  exact ih (o + 1) mo (nI tn) M2 _ (by omega) hM2 hF2 hmo hK1' hK2' (Or.inr (Or.inl rfl))
    · refine ok_seq 2 (σ' := (85, [(5, .int (nI o)), (2, .int (nI mo)), (6, .int y6), (4, .int (nI c)), (3, .int (nI fa)), (0, .ref 185), (1, .int ce)], [.int (Int32.ofInt 4), .int (nI o)], gSh, M)) rfl ?_
      rw [cI_4]
      refine ok_icmp 186 rfl rfl (fun hz => absurd hz (by simp only [pCP]; rw [hI_int (a := o) (by omega), hI_int (a := 4) (by omega)]; omega)) (fun _ => ?_)
      refine ok_seq 2 (σ' := (92, [(5, .int (nI o)), (2, .int (nI mo)), (6, .int y6), (4, .int (nI c)), (3, .int (nI fa)), (0, .ref 185), (1, .int ce)], [M 185 31], gSh, M)) rfl ?_
      rw [h31]
      refine ok_seq 1 (σ' := (94, [(5, .int (nI o)), (2, .int (nI mo)), (6, .int y6), (4, .int (nI c)), (3, .int (nI fa)), (0, .ref 185), (1, .int ce)], [.int (nI c), .ref 197], gSh, M)) rfl ?_
      refine ok_iald (n := 93600) (v := oz) rfl rfl (hI_in (by omega) (by decide)) (by rw [hI_nat (by omega)]; exact hoz) ?_
      refine ok_seq 1 (σ' := (96, [(5, .int (nI o)), (2, .int (nI mo)), (6, .int y6), (4, .int (nI c)), (3, .int (nI fa)), (0, .ref 185), (1, .int ce)], [.int (nI fa), .int oz], gSh, M)) rfl ?_
      refine ok_icmp 186 rfl rfl ?_ ?_
      · intro hf
        simp only [pCP] at hf
        rw [hI_int (a := fa) (by omega)] at hf
        have hf : (oz).toInt ≠ ((fa : Nat) : Int) := by omega
        refine ok_seq 2 (σ' := (70, [(4, .int ((nI c) + (Int32.ofInt 1))), (5, .int (nI o)), (2, .int (nI mo)), (6, .int y6), (3, .int (nI fa)), (0, .ref 185), (1, .int ce)], [], gSh, M)) rfl ?_
        rw [cI_1, hI_add c 1]
        exact hto M mo (nI o) y6 _ hM hF hmo hK1 hK2 (Or.inr (Or.inr (Or.inr (Or.inl rfl))))
      · intro hf
        simp only [pCP] at hf
        rw [hI_int (a := fa) (by omega)] at hf
        have hf : (oz).toInt = ((fa : Nat) : Int) := by omega
        refine ok_seq 1 (σ' := (100, [(5, .int (nI o)), (2, .int (nI mo)), (6, .int y6), (4, .int (nI c)), (3, .int (nI fa)), (0, .ref 185), (1, .int ce)], [.int (nI fa)], gSh, M)) rfl ?_
        refine ok_if 116 rfl rfl ?_ ?_
        · intro hf0
          simp only [pCP] at hf0
          rw [hI_int (a := fa) (by omega)] at hf0
          have hf0 : ((fa : Nat) : Int) = (0 : Int) := by omega
          refine ok_seq 3 (σ' := (121, [(5, .int (nI o)), (2, .int (nI mo)), (6, .int y6), (4, .int (nI c)), (3, .int (nI fa)), (0, .ref 185), (1, .int ce)], [.int (nI o), .int (nI c), .ref 185], gSh, M)) rfl ?_
          refine ok_call (mi := 162) (as := [.ref 185, .int (nI c), .int (nI o)]) (pc' := 124) (L' := [(5, .int (nI o)), (2, .int (nI mo)), (6, .int y6), (4, .int (nI c)), (3, .int (nI fa)), (0, .ref 185), (1, .int ce)]) (st' := []) (sh' := gSh) (M' := M) (i := .invokevirtual 271) (len := 3) rfl rfl ?_
          refine ((t3.deep (by omega))).mono ?_
          rintro v hp ⟨rfl, rfl⟩
          refine ok_seq 2 (σ' := (128, [(6, .int tz), (5, .int (nI o)), (2, .int (nI mo)), (4, .int (nI c)), (3, .int (nI fa)), (0, .ref 185), (1, .int ce)], [.int tz], gSh, M)) rfl ?_
          refine ok_if 180 rfl rfl ?_ ?_
          · intro ht
            simp only [pCP] at ht
            have ht : (tz).toInt < (0 : Int) := by omega
            refine ok_seq 2 (σ' := (82, [(5, .int ((nI o) + (Int32.ofInt 1))), (6, .int tz), (2, .int (nI mo)), (4, .int (nI c)), (3, .int (nI fa)), (0, .ref 185), (1, .int ce)], [], gSh, M)) rfl ?_
            rw [cI_1, hI_add o 1]
            exact ih (o + 1) mo (tz) M _ (by omega) hM hF hmo hK1 hK2 (Or.inr (Or.inr (Or.inr (Or.inl rfl))))
          · intro ht
            simp only [pCP] at ht
            have ht : (tz).toInt ≥ (0 : Int) := by omega
            obtain ⟨tn, htn, etn⟩ := ty_nat (x := []) (hi := (N : Int)) ⟨tz, rfl, (show (0 : Int) ≤ tz.toInt by omega), t2⟩
            cases etn
            obtain ⟨pz, hpz⟩ := pt197 hT hM (k := tn) (by omega)
            refine ok_seq 2 (σ' := (135, [(6, .int (nI tn)), (5, .int (nI o)), (2, .int (nI mo)), (4, .int (nI c)), (3, .int (nI fa)), (0, .ref 185), (1, .int ce)], [M 185 31], gSh, M)) rfl ?_
            rw [h31]
            refine ok_seq 1 (σ' := (137, [(6, .int (nI tn)), (5, .int (nI o)), (2, .int (nI mo)), (4, .int (nI c)), (3, .int (nI fa)), (0, .ref 185), (1, .int ce)], [.int (nI tn), .ref 197], gSh, M)) rfl ?_
            refine ok_iald (n := 93600) (v := pz) rfl rfl (hI_in (by omega) (by decide)) (by rw [hI_nat (by omega)]; exact hpz) ?_
            refine ok_if 180 rfl rfl ?_ ?_
            · intro hp
              simp only [pCP] at hp
              have hp : (pz).toInt ≥ (0 : Int) := by omega
              refine ok_seq 2 (σ' := (82, [(5, .int ((nI o) + (Int32.ofInt 1))), (6, .int (nI tn)), (2, .int (nI mo)), (4, .int (nI c)), (3, .int (nI fa)), (0, .ref 185), (1, .int ce)], [], gSh, M)) rfl ?_
              rw [cI_1, hI_add o 1]
              exact ih (o + 1) mo (nI tn) M _ (by omega) hM hF hmo hK1 hK2 (Or.inr (Or.inr (Or.inr (Or.inl rfl))))
            · intro hp
              simp only [pCP] at hp
              have hp : (pz).toInt < (0 : Int) := by omega
              refine ok_seq 5 (σ' := (151, [(6, .int (nI tn)), (5, .int (nI o)), (2, .int (nI mo)), (4, .int (nI c)), (3, .int (nI fa)), (0, .ref 185), (1, .int ce)], [M 185 3, .int (nI tn), .int ((Int16.ofInt 504).toInt32), .ref 185], gSh, M)) rfl ?_
              rw [h3]
              rw [(show (Int16.ofInt 504).toInt32 = nI 504 by decide)]
              refine ok_seq 1 (σ' := (152, [(6, .int (nI tn)), (5, .int (nI o)), (2, .int (nI mo)), (4, .int (nI c)), (3, .int (nI fa)), (0, .ref 185), (1, .int ce)], [.int (Int32.ofInt 1), .ref 186, .int (nI tn), .int (nI 504), .ref 185], gSh, M)) rfl ?_
              rw [cI_1]
              refine ok_iald (n := 280) (v := wz) rfl rfl (hI_in (by omega) (by decide)) (by rw [hI_nat (by omega)]; exact hwz) ?_
              refine ok_seq 2 (σ' := (157, [(6, .int (nI tn)), (5, .int (nI o)), (2, .int (nI mo)), (4, .int (nI c)), (3, .int (nI fa)), (0, .ref 185), (1, .int ce)], [M 185 3, .int wz, .int (nI tn), .int (nI 504), .ref 185], gSh, M)) rfl ?_
              rw [h3]
              refine ok_seq 1 (σ' := (158, [(6, .int (nI tn)), (5, .int (nI o)), (2, .int (nI mo)), (4, .int (nI c)), (3, .int (nI fa)), (0, .ref 185), (1, .int ce)], [.int (Int32.ofInt 0), .ref 186, .int wz, .int (nI tn), .int (nI 504), .ref 185], gSh, M)) rfl ?_
              rw [cI_0]
              refine ok_iald (n := 280) (v := az) rfl rfl (hI_in (by omega) (by decide)) (by rw [hI_nat (by omega)]; exact haz) ?_
              refine ok_call (mi := 217) (as := [.ref 185, .int (nI 504), .int (nI tn), .int wz, .int az]) (pc' := 162) (L' := [(6, .int (nI tn)), (5, .int (nI o)), (2, .int (nI mo)), (4, .int (nI c)), (3, .int (nI fa)), (0, .ref 185), (1, .int ce)]) (st' := []) (sh' := gSh) (M' := M) (i := .invokevirtual 302) (len := 3) rfl rfl ?_
              refine (((hH.2.2 [.ref 185, .int (nI 504), .int (nI tn), .int wz, .int az] M ⟨r185, ⟨nI 504, rfl, by decide, by decide⟩, sat_n (by omega) (by omega), sat_a _, sat_a _, trivial⟩ hM (hF.gr hg) (fun q hq => by cases hq)).deep (by omega))).mono ?_
              rintro v ⟨sh2, M2⟩ ⟨hsh, hM2, hv, hf2, -⟩
              have hsh : sh2 = gSh := hsh
              subst hsh
              dsimp only at hM2 hf2
              have e197 : M2 197 = M 197 := hf2.1 197 (by decide)
              have hF2 : LF M0 M2 := fun o k1 k2 k3 k4 k5 => (hf2.1 o (by simp only [List.mem_cons, List.not_mem_nil, or_false, not_or]; exact ⟨k1, k2, k3⟩)).trans (hF o k1 k2 k3 k4 k5)
              have hK1' : nNeg (M2 197) (N + 1) ≤ K0 := by rw [e197]; exact hK1
              have hK2' : mo = 1 → nNeg (M2 197) (N + 1) < K0 := fun hz => by rw [e197]; exact hK2 hz
              have h312 := ty_ref (ply hT hM2 0 rfl rfl)
              obtain ⟨rz, er⟩ : ∃ rz : Int32, v = some (.int rz) := by
                cases v with
                | none => exact hv.elim
                | some v =>
                  obtain ⟨z, hz, -⟩ := ty_int hv.1
                  exact ⟨z, by rw [hz]⟩
              subst er
              refine ok_if 168 rfl rfl ?_ ?_
              · intro hr
                simp only [pCP] at hr
                have hr : (rz).toInt ≥ (0 : Int) := by omega
                refine ok_seq 2 (σ' := (172, [(6, .int (nI tn)), (5, .int (nI o)), (2, .int (nI mo)), (4, .int (nI c)), (3, .int (nI fa)), (0, .ref 185), (1, .int ce)], [M2 185 31], gSh, M2)) rfl ?_
                rw [h312]
                refine ok_seq 4 (σ' := (177, [(6, .int (nI tn)), (5, .int (nI o)), (2, .int (nI mo)), (4, .int (nI c)), (3, .int (nI fa)), (0, .ref 185), (1, .int ce)], [.int ((nI fa) + (Int32.ofInt 1)), .int (nI tn), .ref 197], gSh, M2)) rfl ?_
                rw [cI_1, hI_add fa 1]
                refine ok_iast (n := 93600) rfl rfl (hI_in (by omega) (by decide)) ?_
                rw [hI_nat (a := tn) (by omega)]
                have hw : nNeg ((pUp M2 197 tn (.int (nI (fa + 1)))) 197) (N + 1) + 1 = nNeg (M 197) (N + 1) := nNeg_put (j := tn) (by omega) (by rw [hpz]; exact hp) (by rw [pUp_self, vI_n (by omega)]; omega) (fun k hk => by rw [pUp_other _ _ _ _ (fun z => hk z.2), e197])
                refine ok_seq 4 (σ' := (82, [(5, .int ((nI o) + (Int32.ofInt 1))), (2, .int (Int32.ofInt 1)), (6, .int (nI tn)), (4, .int (nI c)), (3, .int (nI fa)), (0, .ref 185), (1, .int ce)], [], gSh, pUp M2 197 tn (.int (nI (fa + 1))))) rfl ?_
                rw [cI_1, hI_add o 1]
                exact ih (o + 1) 1 (nI tn) _ _ (by omega) (pu197 hT hM2 (by omega) _) hF2.up (by decide) (by omega) (fun _ => by omega) (Or.inr (Or.inr (Or.inl rfl)))
              · intro hr
                simp only [pCP] at hr
                have hr : (rz).toInt < (0 : Int) := by omega
                refine ok_seq 3 (σ' := (82, [(5, .int ((nI o) + (Int32.ofInt 1))), (6, .int (nI tn)), (2, .int (nI mo)), (4, .int (nI c)), (3, .int (nI fa)), (0, .ref 185), (1, .int ce)], [], gSh, M2)) rfl ?_
                rw [cI_1, hI_add o 1]
                exact ih (o + 1) mo (nI tn) M2 _ (by omega) hM2 hF2 hmo hK1' hK2' (Or.inr (Or.inr (Or.inr (Or.inl rfl))))
        · intro hf0
          simp only [pCP] at hf0
          rw [hI_int (a := fa) (by omega)] at hf0
          have hf0 : ((fa : Nat) : Int) ≠ (0 : Int) := by omega
          refine ok_seq 2 (σ' := (107, [(5, .int (nI o)), (2, .int (nI mo)), (6, .int y6), (4, .int (nI c)), (3, .int (nI fa)), (0, .ref 185), (1, .int ce)], [M 185 3], gSh, M)) rfl ?_
          rw [h3]
          refine ok_seq 3 (σ' := (112, [(5, .int (nI o)), (2, .int (nI mo)), (6, .int y6), (4, .int (nI c)), (3, .int (nI fa)), (0, .ref 185), (1, .int ce)], [.int (((Int8.ofInt 70).toInt32) + (nI c)), .ref 186], gSh, M)) rfl ?_
          rw [(show (Int8.ofInt 70).toInt32 = nI 70 by decide), hI_add 70 c]
          refine ok_iald (n := 280) (v := nI ex) rfl rfl (hI_in (by omega) (by decide)) (by rw [hI_nat (by omega)]; exact hex2) ?_
          refine ok_if 186 rfl rfl ?_ ?_
          · intro he
            simp only [pCP] at he
            rw [hI_int (a := ex) (by omega)] at he
            have he : ((ex : Nat) : Int) ≠ (0 : Int) := by omega
            refine ok_seq 2 (σ' := (70, [(4, .int ((nI c) + (Int32.ofInt 1))), (5, .int (nI o)), (2, .int (nI mo)), (6, .int y6), (3, .int (nI fa)), (0, .ref 185), (1, .int ce)], [], gSh, M)) rfl ?_
            rw [cI_1, hI_add c 1]
            exact hto M mo (nI o) y6 _ hM hF hmo hK1 hK2 (Or.inr (Or.inr (Or.inr (Or.inl rfl))))
          · intro he
            simp only [pCP] at he
            rw [hI_int (a := ex) (by omega)] at he
            have he : ((ex : Nat) : Int) = (0 : Int) := by omega
            refine ok_seq 3 (σ' := (121, [(5, .int (nI o)), (2, .int (nI mo)), (6, .int y6), (4, .int (nI c)), (3, .int (nI fa)), (0, .ref 185), (1, .int ce)], [.int (nI o), .int (nI c), .ref 185], gSh, M)) rfl ?_
            refine ok_call (mi := 162) (as := [.ref 185, .int (nI c), .int (nI o)]) (pc' := 124) (L' := [(5, .int (nI o)), (2, .int (nI mo)), (6, .int y6), (4, .int (nI c)), (3, .int (nI fa)), (0, .ref 185), (1, .int ce)]) (st' := []) (sh' := gSh) (M' := M) (i := .invokevirtual 271) (len := 3) rfl rfl ?_
            refine ((t3.deep (by omega))).mono ?_
            rintro v hp ⟨rfl, rfl⟩
            refine ok_seq 2 (σ' := (128, [(6, .int tz), (5, .int (nI o)), (2, .int (nI mo)), (4, .int (nI c)), (3, .int (nI fa)), (0, .ref 185), (1, .int ce)], [.int tz], gSh, M)) rfl ?_
            refine ok_if 180 rfl rfl ?_ ?_
            · intro ht
              simp only [pCP] at ht
              have ht : (tz).toInt < (0 : Int) := by omega
              refine ok_seq 2 (σ' := (82, [(5, .int ((nI o) + (Int32.ofInt 1))), (6, .int tz), (2, .int (nI mo)), (4, .int (nI c)), (3, .int (nI fa)), (0, .ref 185), (1, .int ce)], [], gSh, M)) rfl ?_
              rw [cI_1, hI_add o 1]
              exact ih (o + 1) mo (tz) M _ (by omega) hM hF hmo hK1 hK2 (Or.inr (Or.inr (Or.inr (Or.inl rfl))))
            · intro ht
              simp only [pCP] at ht
              have ht : (tz).toInt ≥ (0 : Int) := by omega
              obtain ⟨tn, htn, etn⟩ := ty_nat (x := []) (hi := (N : Int)) ⟨tz, rfl, (show (0 : Int) ≤ tz.toInt by omega), t2⟩
              cases etn
              obtain ⟨pz, hpz⟩ := pt197 hT hM (k := tn) (by omega)
              refine ok_seq 2 (σ' := (135, [(6, .int (nI tn)), (5, .int (nI o)), (2, .int (nI mo)), (4, .int (nI c)), (3, .int (nI fa)), (0, .ref 185), (1, .int ce)], [M 185 31], gSh, M)) rfl ?_
              rw [h31]
              refine ok_seq 1 (σ' := (137, [(6, .int (nI tn)), (5, .int (nI o)), (2, .int (nI mo)), (4, .int (nI c)), (3, .int (nI fa)), (0, .ref 185), (1, .int ce)], [.int (nI tn), .ref 197], gSh, M)) rfl ?_
              refine ok_iald (n := 93600) (v := pz) rfl rfl (hI_in (by omega) (by decide)) (by rw [hI_nat (by omega)]; exact hpz) ?_
              refine ok_if 180 rfl rfl ?_ ?_
              · intro hp
                simp only [pCP] at hp
                have hp : (pz).toInt ≥ (0 : Int) := by omega
                refine ok_seq 2 (σ' := (82, [(5, .int ((nI o) + (Int32.ofInt 1))), (6, .int (nI tn)), (2, .int (nI mo)), (4, .int (nI c)), (3, .int (nI fa)), (0, .ref 185), (1, .int ce)], [], gSh, M)) rfl ?_
                rw [cI_1, hI_add o 1]
                exact ih (o + 1) mo (nI tn) M _ (by omega) hM hF hmo hK1 hK2 (Or.inr (Or.inr (Or.inr (Or.inl rfl))))
              · intro hp
                simp only [pCP] at hp
                have hp : (pz).toInt < (0 : Int) := by omega
                refine ok_seq 5 (σ' := (151, [(6, .int (nI tn)), (5, .int (nI o)), (2, .int (nI mo)), (4, .int (nI c)), (3, .int (nI fa)), (0, .ref 185), (1, .int ce)], [M 185 3, .int (nI tn), .int ((Int16.ofInt 504).toInt32), .ref 185], gSh, M)) rfl ?_
                rw [h3]
                rw [(show (Int16.ofInt 504).toInt32 = nI 504 by decide)]
                refine ok_seq 1 (σ' := (152, [(6, .int (nI tn)), (5, .int (nI o)), (2, .int (nI mo)), (4, .int (nI c)), (3, .int (nI fa)), (0, .ref 185), (1, .int ce)], [.int (Int32.ofInt 1), .ref 186, .int (nI tn), .int (nI 504), .ref 185], gSh, M)) rfl ?_
                rw [cI_1]
                refine ok_iald (n := 280) (v := wz) rfl rfl (hI_in (by omega) (by decide)) (by rw [hI_nat (by omega)]; exact hwz) ?_
                refine ok_seq 2 (σ' := (157, [(6, .int (nI tn)), (5, .int (nI o)), (2, .int (nI mo)), (4, .int (nI c)), (3, .int (nI fa)), (0, .ref 185), (1, .int ce)], [M 185 3, .int wz, .int (nI tn), .int (nI 504), .ref 185], gSh, M)) rfl ?_
                rw [h3]
                refine ok_seq 1 (σ' := (158, [(6, .int (nI tn)), (5, .int (nI o)), (2, .int (nI mo)), (4, .int (nI c)), (3, .int (nI fa)), (0, .ref 185), (1, .int ce)], [.int (Int32.ofInt 0), .ref 186, .int wz, .int (nI tn), .int (nI 504), .ref 185], gSh, M)) rfl ?_
                rw [cI_0]
                refine ok_iald (n := 280) (v := az) rfl rfl (hI_in (by omega) (by decide)) (by rw [hI_nat (by omega)]; exact haz) ?_
                refine ok_call (mi := 217) (as := [.ref 185, .int (nI 504), .int (nI tn), .int wz, .int az]) (pc' := 162) (L' := [(6, .int (nI tn)), (5, .int (nI o)), (2, .int (nI mo)), (4, .int (nI c)), (3, .int (nI fa)), (0, .ref 185), (1, .int ce)]) (st' := []) (sh' := gSh) (M' := M) (i := .invokevirtual 302) (len := 3) rfl rfl ?_
                refine (((hH.2.2 [.ref 185, .int (nI 504), .int (nI tn), .int wz, .int az] M ⟨r185, ⟨nI 504, rfl, by decide, by decide⟩, sat_n (by omega) (by omega), sat_a _, sat_a _, trivial⟩ hM (hF.gr hg) (fun q hq => by cases hq)).deep (by omega))).mono ?_
                rintro v ⟨sh2, M2⟩ ⟨hsh, hM2, hv, hf2, -⟩
                have hsh : sh2 = gSh := hsh
                subst hsh
                dsimp only at hM2 hf2
                have e197 : M2 197 = M 197 := hf2.1 197 (by decide)
                have hF2 : LF M0 M2 := fun o k1 k2 k3 k4 k5 => (hf2.1 o (by simp only [List.mem_cons, List.not_mem_nil, or_false, not_or]; exact ⟨k1, k2, k3⟩)).trans (hF o k1 k2 k3 k4 k5)
                have hK1' : nNeg (M2 197) (N + 1) ≤ K0 := by rw [e197]; exact hK1
                have hK2' : mo = 1 → nNeg (M2 197) (N + 1) < K0 := fun hz => by rw [e197]; exact hK2 hz
                have h312 := ty_ref (ply hT hM2 0 rfl rfl)
                obtain ⟨rz, er⟩ : ∃ rz : Int32, v = some (.int rz) := by
                  cases v with
                  | none => exact hv.elim
                  | some v =>
                    obtain ⟨z, hz, -⟩ := ty_int hv.1
                    exact ⟨z, by rw [hz]⟩
                subst er
                refine ok_if 168 rfl rfl ?_ ?_
                · intro hr
                  simp only [pCP] at hr
                  have hr : (rz).toInt ≥ (0 : Int) := by omega
                  refine ok_seq 2 (σ' := (172, [(6, .int (nI tn)), (5, .int (nI o)), (2, .int (nI mo)), (4, .int (nI c)), (3, .int (nI fa)), (0, .ref 185), (1, .int ce)], [M2 185 31], gSh, M2)) rfl ?_
                  rw [h312]
                  refine ok_seq 4 (σ' := (177, [(6, .int (nI tn)), (5, .int (nI o)), (2, .int (nI mo)), (4, .int (nI c)), (3, .int (nI fa)), (0, .ref 185), (1, .int ce)], [.int ((nI fa) + (Int32.ofInt 1)), .int (nI tn), .ref 197], gSh, M2)) rfl ?_
                  rw [cI_1, hI_add fa 1]
                  refine ok_iast (n := 93600) rfl rfl (hI_in (by omega) (by decide)) ?_
                  rw [hI_nat (a := tn) (by omega)]
                  have hw : nNeg ((pUp M2 197 tn (.int (nI (fa + 1)))) 197) (N + 1) + 1 = nNeg (M 197) (N + 1) := nNeg_put (j := tn) (by omega) (by rw [hpz]; exact hp) (by rw [pUp_self, vI_n (by omega)]; omega) (fun k hk => by rw [pUp_other _ _ _ _ (fun z => hk z.2), e197])
                  refine ok_seq 4 (σ' := (82, [(5, .int ((nI o) + (Int32.ofInt 1))), (2, .int (Int32.ofInt 1)), (6, .int (nI tn)), (4, .int (nI c)), (3, .int (nI fa)), (0, .ref 185), (1, .int ce)], [], gSh, pUp M2 197 tn (.int (nI (fa + 1))))) rfl ?_
                  rw [cI_1, hI_add o 1]
                  exact ih (o + 1) 1 (nI tn) _ _ (by omega) (pu197 hT hM2 (by omega) _) hF2.up (by decide) (by omega) (fun _ => by omega) (Or.inr (Or.inr (Or.inl rfl)))
                · intro hr
                  simp only [pCP] at hr
                  have hr : (rz).toInt < (0 : Int) := by omega
                  refine ok_seq 3 (σ' := (82, [(5, .int ((nI o) + (Int32.ofInt 1))), (6, .int (nI tn)), (2, .int (nI mo)), (4, .int (nI c)), (3, .int (nI fa)), (0, .ref 185), (1, .int ce)], [], gSh, M2)) rfl ?_
                  rw [cI_1, hI_add o 1]
                  exact ih (o + 1) mo (nI tn) M2 _ (by omega) hM2 hF2 hmo hK1' hK2' (Or.inr (Or.inr (Or.inr (Or.inl rfl))))
    · refine ok_seq 2 (σ' := (85, [(5, .int (nI o)), (6, .int y6), (2, .int (nI mo)), (4, .int (nI c)), (3, .int (nI fa)), (0, .ref 185), (1, .int ce)], [.int (Int32.ofInt 4), .int (nI o)], gSh, M)) rfl ?_
      rw [cI_4]
      refine ok_icmp 186 rfl rfl (fun hz => absurd hz (by simp only [pCP]; rw [hI_int (a := o) (by omega), hI_int (a := 4) (by omega)]; omega)) (fun _ => ?_)
      refine ok_seq 2 (σ' := (92, [(5, .int (nI o)), (6, .int y6), (2, .int (nI mo)), (4, .int (nI c)), (3, .int (nI fa)), (0, .ref 185), (1, .int ce)], [M 185 31], gSh, M)) rfl ?_
      rw [h31]
      refine ok_seq 1 (σ' := (94, [(5, .int (nI o)), (6, .int y6), (2, .int (nI mo)), (4, .int (nI c)), (3, .int (nI fa)), (0, .ref 185), (1, .int ce)], [.int (nI c), .ref 197], gSh, M)) rfl ?_
      refine ok_iald (n := 93600) (v := oz) rfl rfl (hI_in (by omega) (by decide)) (by rw [hI_nat (by omega)]; exact hoz) ?_
      refine ok_seq 1 (σ' := (96, [(5, .int (nI o)), (6, .int y6), (2, .int (nI mo)), (4, .int (nI c)), (3, .int (nI fa)), (0, .ref 185), (1, .int ce)], [.int (nI fa), .int oz], gSh, M)) rfl ?_
      refine ok_icmp 186 rfl rfl ?_ ?_
      · intro hf
        simp only [pCP] at hf
        rw [hI_int (a := fa) (by omega)] at hf
        have hf : (oz).toInt ≠ ((fa : Nat) : Int) := by omega
        refine ok_seq 2 (σ' := (70, [(4, .int ((nI c) + (Int32.ofInt 1))), (5, .int (nI o)), (6, .int y6), (2, .int (nI mo)), (3, .int (nI fa)), (0, .ref 185), (1, .int ce)], [], gSh, M)) rfl ?_
        rw [cI_1, hI_add c 1]
        exact hto M mo (nI o) y6 _ hM hF hmo hK1 hK2 (Or.inr (Or.inr (Or.inl rfl)))
      · intro hf
        simp only [pCP] at hf
        rw [hI_int (a := fa) (by omega)] at hf
        have hf : (oz).toInt = ((fa : Nat) : Int) := by omega
        refine ok_seq 1 (σ' := (100, [(5, .int (nI o)), (6, .int y6), (2, .int (nI mo)), (4, .int (nI c)), (3, .int (nI fa)), (0, .ref 185), (1, .int ce)], [.int (nI fa)], gSh, M)) rfl ?_
        refine ok_if 116 rfl rfl ?_ ?_
        · intro hf0
          simp only [pCP] at hf0
          rw [hI_int (a := fa) (by omega)] at hf0
          have hf0 : ((fa : Nat) : Int) = (0 : Int) := by omega
          refine ok_seq 3 (σ' := (121, [(5, .int (nI o)), (6, .int y6), (2, .int (nI mo)), (4, .int (nI c)), (3, .int (nI fa)), (0, .ref 185), (1, .int ce)], [.int (nI o), .int (nI c), .ref 185], gSh, M)) rfl ?_
          refine ok_call (mi := 162) (as := [.ref 185, .int (nI c), .int (nI o)]) (pc' := 124) (L' := [(5, .int (nI o)), (6, .int y6), (2, .int (nI mo)), (4, .int (nI c)), (3, .int (nI fa)), (0, .ref 185), (1, .int ce)]) (st' := []) (sh' := gSh) (M' := M) (i := .invokevirtual 271) (len := 3) rfl rfl ?_
          refine ((t3.deep (by omega))).mono ?_
          rintro v hp ⟨rfl, rfl⟩
          refine ok_seq 2 (σ' := (128, [(6, .int tz), (5, .int (nI o)), (2, .int (nI mo)), (4, .int (nI c)), (3, .int (nI fa)), (0, .ref 185), (1, .int ce)], [.int tz], gSh, M)) rfl ?_
          refine ok_if 180 rfl rfl ?_ ?_
          · intro ht
            simp only [pCP] at ht
            have ht : (tz).toInt < (0 : Int) := by omega
            refine ok_seq 2 (σ' := (82, [(5, .int ((nI o) + (Int32.ofInt 1))), (6, .int tz), (2, .int (nI mo)), (4, .int (nI c)), (3, .int (nI fa)), (0, .ref 185), (1, .int ce)], [], gSh, M)) rfl ?_
            rw [cI_1, hI_add o 1]
            exact ih (o + 1) mo (tz) M _ (by omega) hM hF hmo hK1 hK2 (Or.inr (Or.inr (Or.inr (Or.inl rfl))))
          · intro ht
            simp only [pCP] at ht
            have ht : (tz).toInt ≥ (0 : Int) := by omega
            obtain ⟨tn, htn, etn⟩ := ty_nat (x := []) (hi := (N : Int)) ⟨tz, rfl, (show (0 : Int) ≤ tz.toInt by omega), t2⟩
            cases etn
            obtain ⟨pz, hpz⟩ := pt197 hT hM (k := tn) (by omega)
            refine ok_seq 2 (σ' := (135, [(6, .int (nI tn)), (5, .int (nI o)), (2, .int (nI mo)), (4, .int (nI c)), (3, .int (nI fa)), (0, .ref 185), (1, .int ce)], [M 185 31], gSh, M)) rfl ?_
            rw [h31]
            refine ok_seq 1 (σ' := (137, [(6, .int (nI tn)), (5, .int (nI o)), (2, .int (nI mo)), (4, .int (nI c)), (3, .int (nI fa)), (0, .ref 185), (1, .int ce)], [.int (nI tn), .ref 197], gSh, M)) rfl ?_
            refine ok_iald (n := 93600) (v := pz) rfl rfl (hI_in (by omega) (by decide)) (by rw [hI_nat (by omega)]; exact hpz) ?_
            refine ok_if 180 rfl rfl ?_ ?_
            · intro hp
              simp only [pCP] at hp
              have hp : (pz).toInt ≥ (0 : Int) := by omega
              refine ok_seq 2 (σ' := (82, [(5, .int ((nI o) + (Int32.ofInt 1))), (6, .int (nI tn)), (2, .int (nI mo)), (4, .int (nI c)), (3, .int (nI fa)), (0, .ref 185), (1, .int ce)], [], gSh, M)) rfl ?_
              rw [cI_1, hI_add o 1]
              exact ih (o + 1) mo (nI tn) M _ (by omega) hM hF hmo hK1 hK2 (Or.inr (Or.inr (Or.inr (Or.inl rfl))))
            · intro hp
              simp only [pCP] at hp
              have hp : (pz).toInt < (0 : Int) := by omega
              refine ok_seq 5 (σ' := (151, [(6, .int (nI tn)), (5, .int (nI o)), (2, .int (nI mo)), (4, .int (nI c)), (3, .int (nI fa)), (0, .ref 185), (1, .int ce)], [M 185 3, .int (nI tn), .int ((Int16.ofInt 504).toInt32), .ref 185], gSh, M)) rfl ?_
              rw [h3]
              rw [(show (Int16.ofInt 504).toInt32 = nI 504 by decide)]
              refine ok_seq 1 (σ' := (152, [(6, .int (nI tn)), (5, .int (nI o)), (2, .int (nI mo)), (4, .int (nI c)), (3, .int (nI fa)), (0, .ref 185), (1, .int ce)], [.int (Int32.ofInt 1), .ref 186, .int (nI tn), .int (nI 504), .ref 185], gSh, M)) rfl ?_
              rw [cI_1]
              refine ok_iald (n := 280) (v := wz) rfl rfl (hI_in (by omega) (by decide)) (by rw [hI_nat (by omega)]; exact hwz) ?_
              refine ok_seq 2 (σ' := (157, [(6, .int (nI tn)), (5, .int (nI o)), (2, .int (nI mo)), (4, .int (nI c)), (3, .int (nI fa)), (0, .ref 185), (1, .int ce)], [M 185 3, .int wz, .int (nI tn), .int (nI 504), .ref 185], gSh, M)) rfl ?_
              rw [h3]
              refine ok_seq 1 (σ' := (158, [(6, .int (nI tn)), (5, .int (nI o)), (2, .int (nI mo)), (4, .int (nI c)), (3, .int (nI fa)), (0, .ref 185), (1, .int ce)], [.int (Int32.ofInt 0), .ref 186, .int wz, .int (nI tn), .int (nI 504), .ref 185], gSh, M)) rfl ?_
              rw [cI_0]
              refine ok_iald (n := 280) (v := az) rfl rfl (hI_in (by omega) (by decide)) (by rw [hI_nat (by omega)]; exact haz) ?_
              refine ok_call (mi := 217) (as := [.ref 185, .int (nI 504), .int (nI tn), .int wz, .int az]) (pc' := 162) (L' := [(6, .int (nI tn)), (5, .int (nI o)), (2, .int (nI mo)), (4, .int (nI c)), (3, .int (nI fa)), (0, .ref 185), (1, .int ce)]) (st' := []) (sh' := gSh) (M' := M) (i := .invokevirtual 302) (len := 3) rfl rfl ?_
              refine (((hH.2.2 [.ref 185, .int (nI 504), .int (nI tn), .int wz, .int az] M ⟨r185, ⟨nI 504, rfl, by decide, by decide⟩, sat_n (by omega) (by omega), sat_a _, sat_a _, trivial⟩ hM (hF.gr hg) (fun q hq => by cases hq)).deep (by omega))).mono ?_
              rintro v ⟨sh2, M2⟩ ⟨hsh, hM2, hv, hf2, -⟩
              have hsh : sh2 = gSh := hsh
              subst hsh
              dsimp only at hM2 hf2
              have e197 : M2 197 = M 197 := hf2.1 197 (by decide)
              have hF2 : LF M0 M2 := fun o k1 k2 k3 k4 k5 => (hf2.1 o (by simp only [List.mem_cons, List.not_mem_nil, or_false, not_or]; exact ⟨k1, k2, k3⟩)).trans (hF o k1 k2 k3 k4 k5)
              have hK1' : nNeg (M2 197) (N + 1) ≤ K0 := by rw [e197]; exact hK1
              have hK2' : mo = 1 → nNeg (M2 197) (N + 1) < K0 := fun hz => by rw [e197]; exact hK2 hz
              have h312 := ty_ref (ply hT hM2 0 rfl rfl)
              obtain ⟨rz, er⟩ : ∃ rz : Int32, v = some (.int rz) := by
                cases v with
                | none => exact hv.elim
                | some v =>
                  obtain ⟨z, hz, -⟩ := ty_int hv.1
                  exact ⟨z, by rw [hz]⟩
              subst er
              refine ok_if 168 rfl rfl ?_ ?_
              · intro hr
                simp only [pCP] at hr
                have hr : (rz).toInt ≥ (0 : Int) := by omega
                refine ok_seq 2 (σ' := (172, [(6, .int (nI tn)), (5, .int (nI o)), (2, .int (nI mo)), (4, .int (nI c)), (3, .int (nI fa)), (0, .ref 185), (1, .int ce)], [M2 185 31], gSh, M2)) rfl ?_
                rw [h312]
                refine ok_seq 4 (σ' := (177, [(6, .int (nI tn)), (5, .int (nI o)), (2, .int (nI mo)), (4, .int (nI c)), (3, .int (nI fa)), (0, .ref 185), (1, .int ce)], [.int ((nI fa) + (Int32.ofInt 1)), .int (nI tn), .ref 197], gSh, M2)) rfl ?_
                rw [cI_1, hI_add fa 1]
                refine ok_iast (n := 93600) rfl rfl (hI_in (by omega) (by decide)) ?_
                rw [hI_nat (a := tn) (by omega)]
                have hw : nNeg ((pUp M2 197 tn (.int (nI (fa + 1)))) 197) (N + 1) + 1 = nNeg (M 197) (N + 1) := nNeg_put (j := tn) (by omega) (by rw [hpz]; exact hp) (by rw [pUp_self, vI_n (by omega)]; omega) (fun k hk => by rw [pUp_other _ _ _ _ (fun z => hk z.2), e197])
                refine ok_seq 4 (σ' := (82, [(5, .int ((nI o) + (Int32.ofInt 1))), (2, .int (Int32.ofInt 1)), (6, .int (nI tn)), (4, .int (nI c)), (3, .int (nI fa)), (0, .ref 185), (1, .int ce)], [], gSh, pUp M2 197 tn (.int (nI (fa + 1))))) rfl ?_
                rw [cI_1, hI_add o 1]
                exact ih (o + 1) 1 (nI tn) _ _ (by omega) (pu197 hT hM2 (by omega) _) hF2.up (by decide) (by omega) (fun _ => by omega) (Or.inr (Or.inr (Or.inl rfl)))
              · intro hr
                simp only [pCP] at hr
                have hr : (rz).toInt < (0 : Int) := by omega
                refine ok_seq 3 (σ' := (82, [(5, .int ((nI o) + (Int32.ofInt 1))), (6, .int (nI tn)), (2, .int (nI mo)), (4, .int (nI c)), (3, .int (nI fa)), (0, .ref 185), (1, .int ce)], [], gSh, M2)) rfl ?_
                rw [cI_1, hI_add o 1]
                exact ih (o + 1) mo (nI tn) M2 _ (by omega) hM2 hF2 hmo hK1' hK2' (Or.inr (Or.inr (Or.inr (Or.inl rfl))))
        · intro hf0
          simp only [pCP] at hf0
          rw [hI_int (a := fa) (by omega)] at hf0
          have hf0 : ((fa : Nat) : Int) ≠ (0 : Int) := by omega
          refine ok_seq 2 (σ' := (107, [(5, .int (nI o)), (6, .int y6), (2, .int (nI mo)), (4, .int (nI c)), (3, .int (nI fa)), (0, .ref 185), (1, .int ce)], [M 185 3], gSh, M)) rfl ?_
          rw [h3]
          refine ok_seq 3 (σ' := (112, [(5, .int (nI o)), (6, .int y6), (2, .int (nI mo)), (4, .int (nI c)), (3, .int (nI fa)), (0, .ref 185), (1, .int ce)], [.int (((Int8.ofInt 70).toInt32) + (nI c)), .ref 186], gSh, M)) rfl ?_
          rw [(show (Int8.ofInt 70).toInt32 = nI 70 by decide), hI_add 70 c]
          refine ok_iald (n := 280) (v := nI ex) rfl rfl (hI_in (by omega) (by decide)) (by rw [hI_nat (by omega)]; exact hex2) ?_
          refine ok_if 186 rfl rfl ?_ ?_
          · intro he
            simp only [pCP] at he
            rw [hI_int (a := ex) (by omega)] at he
            have he : ((ex : Nat) : Int) ≠ (0 : Int) := by omega
            refine ok_seq 2 (σ' := (70, [(4, .int ((nI c) + (Int32.ofInt 1))), (5, .int (nI o)), (6, .int y6), (2, .int (nI mo)), (3, .int (nI fa)), (0, .ref 185), (1, .int ce)], [], gSh, M)) rfl ?_
            rw [cI_1, hI_add c 1]
            exact hto M mo (nI o) y6 _ hM hF hmo hK1 hK2 (Or.inr (Or.inr (Or.inl rfl)))
          · intro he
            simp only [pCP] at he
            rw [hI_int (a := ex) (by omega)] at he
            have he : ((ex : Nat) : Int) = (0 : Int) := by omega
            refine ok_seq 3 (σ' := (121, [(5, .int (nI o)), (6, .int y6), (2, .int (nI mo)), (4, .int (nI c)), (3, .int (nI fa)), (0, .ref 185), (1, .int ce)], [.int (nI o), .int (nI c), .ref 185], gSh, M)) rfl ?_
            refine ok_call (mi := 162) (as := [.ref 185, .int (nI c), .int (nI o)]) (pc' := 124) (L' := [(5, .int (nI o)), (6, .int y6), (2, .int (nI mo)), (4, .int (nI c)), (3, .int (nI fa)), (0, .ref 185), (1, .int ce)]) (st' := []) (sh' := gSh) (M' := M) (i := .invokevirtual 271) (len := 3) rfl rfl ?_
            refine ((t3.deep (by omega))).mono ?_
            rintro v hp ⟨rfl, rfl⟩
            refine ok_seq 2 (σ' := (128, [(6, .int tz), (5, .int (nI o)), (2, .int (nI mo)), (4, .int (nI c)), (3, .int (nI fa)), (0, .ref 185), (1, .int ce)], [.int tz], gSh, M)) rfl ?_
            refine ok_if 180 rfl rfl ?_ ?_
            · intro ht
              simp only [pCP] at ht
              have ht : (tz).toInt < (0 : Int) := by omega
              refine ok_seq 2 (σ' := (82, [(5, .int ((nI o) + (Int32.ofInt 1))), (6, .int tz), (2, .int (nI mo)), (4, .int (nI c)), (3, .int (nI fa)), (0, .ref 185), (1, .int ce)], [], gSh, M)) rfl ?_
              rw [cI_1, hI_add o 1]
              exact ih (o + 1) mo (tz) M _ (by omega) hM hF hmo hK1 hK2 (Or.inr (Or.inr (Or.inr (Or.inl rfl))))
            · intro ht
              simp only [pCP] at ht
              have ht : (tz).toInt ≥ (0 : Int) := by omega
              obtain ⟨tn, htn, etn⟩ := ty_nat (x := []) (hi := (N : Int)) ⟨tz, rfl, (show (0 : Int) ≤ tz.toInt by omega), t2⟩
              cases etn
              obtain ⟨pz, hpz⟩ := pt197 hT hM (k := tn) (by omega)
              refine ok_seq 2 (σ' := (135, [(6, .int (nI tn)), (5, .int (nI o)), (2, .int (nI mo)), (4, .int (nI c)), (3, .int (nI fa)), (0, .ref 185), (1, .int ce)], [M 185 31], gSh, M)) rfl ?_
              rw [h31]
              refine ok_seq 1 (σ' := (137, [(6, .int (nI tn)), (5, .int (nI o)), (2, .int (nI mo)), (4, .int (nI c)), (3, .int (nI fa)), (0, .ref 185), (1, .int ce)], [.int (nI tn), .ref 197], gSh, M)) rfl ?_
              refine ok_iald (n := 93600) (v := pz) rfl rfl (hI_in (by omega) (by decide)) (by rw [hI_nat (by omega)]; exact hpz) ?_
              refine ok_if 180 rfl rfl ?_ ?_
              · intro hp
                simp only [pCP] at hp
                have hp : (pz).toInt ≥ (0 : Int) := by omega
                refine ok_seq 2 (σ' := (82, [(5, .int ((nI o) + (Int32.ofInt 1))), (6, .int (nI tn)), (2, .int (nI mo)), (4, .int (nI c)), (3, .int (nI fa)), (0, .ref 185), (1, .int ce)], [], gSh, M)) rfl ?_
                rw [cI_1, hI_add o 1]
                exact ih (o + 1) mo (nI tn) M _ (by omega) hM hF hmo hK1 hK2 (Or.inr (Or.inr (Or.inr (Or.inl rfl))))
              · intro hp
                simp only [pCP] at hp
                have hp : (pz).toInt < (0 : Int) := by omega
                refine ok_seq 5 (σ' := (151, [(6, .int (nI tn)), (5, .int (nI o)), (2, .int (nI mo)), (4, .int (nI c)), (3, .int (nI fa)), (0, .ref 185), (1, .int ce)], [M 185 3, .int (nI tn), .int ((Int16.ofInt 504).toInt32), .ref 185], gSh, M)) rfl ?_
                rw [h3]
                rw [(show (Int16.ofInt 504).toInt32 = nI 504 by decide)]
                refine ok_seq 1 (σ' := (152, [(6, .int (nI tn)), (5, .int (nI o)), (2, .int (nI mo)), (4, .int (nI c)), (3, .int (nI fa)), (0, .ref 185), (1, .int ce)], [.int (Int32.ofInt 1), .ref 186, .int (nI tn), .int (nI 504), .ref 185], gSh, M)) rfl ?_
                rw [cI_1]
                refine ok_iald (n := 280) (v := wz) rfl rfl (hI_in (by omega) (by decide)) (by rw [hI_nat (by omega)]; exact hwz) ?_
                refine ok_seq 2 (σ' := (157, [(6, .int (nI tn)), (5, .int (nI o)), (2, .int (nI mo)), (4, .int (nI c)), (3, .int (nI fa)), (0, .ref 185), (1, .int ce)], [M 185 3, .int wz, .int (nI tn), .int (nI 504), .ref 185], gSh, M)) rfl ?_
                rw [h3]
                refine ok_seq 1 (σ' := (158, [(6, .int (nI tn)), (5, .int (nI o)), (2, .int (nI mo)), (4, .int (nI c)), (3, .int (nI fa)), (0, .ref 185), (1, .int ce)], [.int (Int32.ofInt 0), .ref 186, .int wz, .int (nI tn), .int (nI 504), .ref 185], gSh, M)) rfl ?_
                rw [cI_0]
                refine ok_iald (n := 280) (v := az) rfl rfl (hI_in (by omega) (by decide)) (by rw [hI_nat (by omega)]; exact haz) ?_
                refine ok_call (mi := 217) (as := [.ref 185, .int (nI 504), .int (nI tn), .int wz, .int az]) (pc' := 162) (L' := [(6, .int (nI tn)), (5, .int (nI o)), (2, .int (nI mo)), (4, .int (nI c)), (3, .int (nI fa)), (0, .ref 185), (1, .int ce)]) (st' := []) (sh' := gSh) (M' := M) (i := .invokevirtual 302) (len := 3) rfl rfl ?_
                refine (((hH.2.2 [.ref 185, .int (nI 504), .int (nI tn), .int wz, .int az] M ⟨r185, ⟨nI 504, rfl, by decide, by decide⟩, sat_n (by omega) (by omega), sat_a _, sat_a _, trivial⟩ hM (hF.gr hg) (fun q hq => by cases hq)).deep (by omega))).mono ?_
                rintro v ⟨sh2, M2⟩ ⟨hsh, hM2, hv, hf2, -⟩
                have hsh : sh2 = gSh := hsh
                subst hsh
                dsimp only at hM2 hf2
                have e197 : M2 197 = M 197 := hf2.1 197 (by decide)
                have hF2 : LF M0 M2 := fun o k1 k2 k3 k4 k5 => (hf2.1 o (by simp only [List.mem_cons, List.not_mem_nil, or_false, not_or]; exact ⟨k1, k2, k3⟩)).trans (hF o k1 k2 k3 k4 k5)
                have hK1' : nNeg (M2 197) (N + 1) ≤ K0 := by rw [e197]; exact hK1
                have hK2' : mo = 1 → nNeg (M2 197) (N + 1) < K0 := fun hz => by rw [e197]; exact hK2 hz
                have h312 := ty_ref (ply hT hM2 0 rfl rfl)
                obtain ⟨rz, er⟩ : ∃ rz : Int32, v = some (.int rz) := by
                  cases v with
                  | none => exact hv.elim
                  | some v =>
                    obtain ⟨z, hz, -⟩ := ty_int hv.1
                    exact ⟨z, by rw [hz]⟩
                subst er
                refine ok_if 168 rfl rfl ?_ ?_
                · intro hr
                  simp only [pCP] at hr
                  have hr : (rz).toInt ≥ (0 : Int) := by omega
                  refine ok_seq 2 (σ' := (172, [(6, .int (nI tn)), (5, .int (nI o)), (2, .int (nI mo)), (4, .int (nI c)), (3, .int (nI fa)), (0, .ref 185), (1, .int ce)], [M2 185 31], gSh, M2)) rfl ?_
                  rw [h312]
                  refine ok_seq 4 (σ' := (177, [(6, .int (nI tn)), (5, .int (nI o)), (2, .int (nI mo)), (4, .int (nI c)), (3, .int (nI fa)), (0, .ref 185), (1, .int ce)], [.int ((nI fa) + (Int32.ofInt 1)), .int (nI tn), .ref 197], gSh, M2)) rfl ?_
                  rw [cI_1, hI_add fa 1]
                  refine ok_iast (n := 93600) rfl rfl (hI_in (by omega) (by decide)) ?_
                  rw [hI_nat (a := tn) (by omega)]
                  have hw : nNeg ((pUp M2 197 tn (.int (nI (fa + 1)))) 197) (N + 1) + 1 = nNeg (M 197) (N + 1) := nNeg_put (j := tn) (by omega) (by rw [hpz]; exact hp) (by rw [pUp_self, vI_n (by omega)]; omega) (fun k hk => by rw [pUp_other _ _ _ _ (fun z => hk z.2), e197])
                  refine ok_seq 4 (σ' := (82, [(5, .int ((nI o) + (Int32.ofInt 1))), (2, .int (Int32.ofInt 1)), (6, .int (nI tn)), (4, .int (nI c)), (3, .int (nI fa)), (0, .ref 185), (1, .int ce)], [], gSh, pUp M2 197 tn (.int (nI (fa + 1))))) rfl ?_
                  rw [cI_1, hI_add o 1]
                  exact ih (o + 1) 1 (nI tn) _ _ (by omega) (pu197 hT hM2 (by omega) _) hF2.up (by decide) (by omega) (fun _ => by omega) (Or.inr (Or.inr (Or.inl rfl)))
                · intro hr
                  simp only [pCP] at hr
                  have hr : (rz).toInt < (0 : Int) := by omega
                  refine ok_seq 3 (σ' := (82, [(5, .int ((nI o) + (Int32.ofInt 1))), (6, .int (nI tn)), (2, .int (nI mo)), (4, .int (nI c)), (3, .int (nI fa)), (0, .ref 185), (1, .int ce)], [], gSh, M2)) rfl ?_
                  rw [cI_1, hI_add o 1]
                  exact ih (o + 1) mo (nI tn) M2 _ (by omega) hM2 hF2 hmo hK1' hK2' (Or.inr (Or.inr (Or.inr (Or.inl rfl))))
    · refine ok_seq 2 (σ' := (85, [(5, .int (nI o)), (4, .int (nI c)), (6, .int y6), (2, .int (nI mo)), (3, .int (nI fa)), (0, .ref 185), (1, .int ce)], [.int (Int32.ofInt 4), .int (nI o)], gSh, M)) rfl ?_
      rw [cI_4]
      refine ok_icmp 186 rfl rfl (fun hz => absurd hz (by simp only [pCP]; rw [hI_int (a := o) (by omega), hI_int (a := 4) (by omega)]; omega)) (fun _ => ?_)
      refine ok_seq 2 (σ' := (92, [(5, .int (nI o)), (4, .int (nI c)), (6, .int y6), (2, .int (nI mo)), (3, .int (nI fa)), (0, .ref 185), (1, .int ce)], [M 185 31], gSh, M)) rfl ?_
      rw [h31]
      refine ok_seq 1 (σ' := (94, [(5, .int (nI o)), (4, .int (nI c)), (6, .int y6), (2, .int (nI mo)), (3, .int (nI fa)), (0, .ref 185), (1, .int ce)], [.int (nI c), .ref 197], gSh, M)) rfl ?_
      refine ok_iald (n := 93600) (v := oz) rfl rfl (hI_in (by omega) (by decide)) (by rw [hI_nat (by omega)]; exact hoz) ?_
      refine ok_seq 1 (σ' := (96, [(5, .int (nI o)), (4, .int (nI c)), (6, .int y6), (2, .int (nI mo)), (3, .int (nI fa)), (0, .ref 185), (1, .int ce)], [.int (nI fa), .int oz], gSh, M)) rfl ?_
      refine ok_icmp 186 rfl rfl ?_ ?_
      · intro hf
        simp only [pCP] at hf
        rw [hI_int (a := fa) (by omega)] at hf
        have hf : (oz).toInt ≠ ((fa : Nat) : Int) := by omega
        refine ok_seq 2 (σ' := (70, [(4, .int ((nI c) + (Int32.ofInt 1))), (5, .int (nI o)), (6, .int y6), (2, .int (nI mo)), (3, .int (nI fa)), (0, .ref 185), (1, .int ce)], [], gSh, M)) rfl ?_
        rw [cI_1, hI_add c 1]
        exact hto M mo (nI o) y6 _ hM hF hmo hK1 hK2 (Or.inr (Or.inr (Or.inl rfl)))
      · intro hf
        simp only [pCP] at hf
        rw [hI_int (a := fa) (by omega)] at hf
        have hf : (oz).toInt = ((fa : Nat) : Int) := by omega
        refine ok_seq 1 (σ' := (100, [(5, .int (nI o)), (4, .int (nI c)), (6, .int y6), (2, .int (nI mo)), (3, .int (nI fa)), (0, .ref 185), (1, .int ce)], [.int (nI fa)], gSh, M)) rfl ?_
        refine ok_if 116 rfl rfl ?_ ?_
        · intro hf0
          simp only [pCP] at hf0
          rw [hI_int (a := fa) (by omega)] at hf0
          have hf0 : ((fa : Nat) : Int) = (0 : Int) := by omega
          refine ok_seq 3 (σ' := (121, [(5, .int (nI o)), (4, .int (nI c)), (6, .int y6), (2, .int (nI mo)), (3, .int (nI fa)), (0, .ref 185), (1, .int ce)], [.int (nI o), .int (nI c), .ref 185], gSh, M)) rfl ?_
          refine ok_call (mi := 162) (as := [.ref 185, .int (nI c), .int (nI o)]) (pc' := 124) (L' := [(5, .int (nI o)), (4, .int (nI c)), (6, .int y6), (2, .int (nI mo)), (3, .int (nI fa)), (0, .ref 185), (1, .int ce)]) (st' := []) (sh' := gSh) (M' := M) (i := .invokevirtual 271) (len := 3) rfl rfl ?_
          refine ((t3.deep (by omega))).mono ?_
          rintro v hp ⟨rfl, rfl⟩
          refine ok_seq 2 (σ' := (128, [(6, .int tz), (5, .int (nI o)), (4, .int (nI c)), (2, .int (nI mo)), (3, .int (nI fa)), (0, .ref 185), (1, .int ce)], [.int tz], gSh, M)) rfl ?_
          refine ok_if 180 rfl rfl ?_ ?_
          · intro ht
            simp only [pCP] at ht
            have ht : (tz).toInt < (0 : Int) := by omega
            refine ok_seq 2 (σ' := (82, [(5, .int ((nI o) + (Int32.ofInt 1))), (6, .int tz), (4, .int (nI c)), (2, .int (nI mo)), (3, .int (nI fa)), (0, .ref 185), (1, .int ce)], [], gSh, M)) rfl ?_
            rw [cI_1, hI_add o 1]
            exact ih (o + 1) mo (tz) M _ (by omega) hM hF hmo hK1 hK2 (Or.inr (Or.inl rfl))
          · intro ht
            simp only [pCP] at ht
            have ht : (tz).toInt ≥ (0 : Int) := by omega
            obtain ⟨tn, htn, etn⟩ := ty_nat (x := []) (hi := (N : Int)) ⟨tz, rfl, (show (0 : Int) ≤ tz.toInt by omega), t2⟩
            cases etn
            obtain ⟨pz, hpz⟩ := pt197 hT hM (k := tn) (by omega)
            refine ok_seq 2 (σ' := (135, [(6, .int (nI tn)), (5, .int (nI o)), (4, .int (nI c)), (2, .int (nI mo)), (3, .int (nI fa)), (0, .ref 185), (1, .int ce)], [M 185 31], gSh, M)) rfl ?_
            rw [h31]
            refine ok_seq 1 (σ' := (137, [(6, .int (nI tn)), (5, .int (nI o)), (4, .int (nI c)), (2, .int (nI mo)), (3, .int (nI fa)), (0, .ref 185), (1, .int ce)], [.int (nI tn), .ref 197], gSh, M)) rfl ?_
            refine ok_iald (n := 93600) (v := pz) rfl rfl (hI_in (by omega) (by decide)) (by rw [hI_nat (by omega)]; exact hpz) ?_
            refine ok_if 180 rfl rfl ?_ ?_
            · intro hp
              simp only [pCP] at hp
              have hp : (pz).toInt ≥ (0 : Int) := by omega
              refine ok_seq 2 (σ' := (82, [(5, .int ((nI o) + (Int32.ofInt 1))), (6, .int (nI tn)), (4, .int (nI c)), (2, .int (nI mo)), (3, .int (nI fa)), (0, .ref 185), (1, .int ce)], [], gSh, M)) rfl ?_
              rw [cI_1, hI_add o 1]
              exact ih (o + 1) mo (nI tn) M _ (by omega) hM hF hmo hK1 hK2 (Or.inr (Or.inl rfl))
            · intro hp
              simp only [pCP] at hp
              have hp : (pz).toInt < (0 : Int) := by omega
              refine ok_seq 5 (σ' := (151, [(6, .int (nI tn)), (5, .int (nI o)), (4, .int (nI c)), (2, .int (nI mo)), (3, .int (nI fa)), (0, .ref 185), (1, .int ce)], [M 185 3, .int (nI tn), .int ((Int16.ofInt 504).toInt32), .ref 185], gSh, M)) rfl ?_
              rw [h3]
              rw [(show (Int16.ofInt 504).toInt32 = nI 504 by decide)]
              refine ok_seq 1 (σ' := (152, [(6, .int (nI tn)), (5, .int (nI o)), (4, .int (nI c)), (2, .int (nI mo)), (3, .int (nI fa)), (0, .ref 185), (1, .int ce)], [.int (Int32.ofInt 1), .ref 186, .int (nI tn), .int (nI 504), .ref 185], gSh, M)) rfl ?_
              rw [cI_1]
              refine ok_iald (n := 280) (v := wz) rfl rfl (hI_in (by omega) (by decide)) (by rw [hI_nat (by omega)]; exact hwz) ?_
              refine ok_seq 2 (σ' := (157, [(6, .int (nI tn)), (5, .int (nI o)), (4, .int (nI c)), (2, .int (nI mo)), (3, .int (nI fa)), (0, .ref 185), (1, .int ce)], [M 185 3, .int wz, .int (nI tn), .int (nI 504), .ref 185], gSh, M)) rfl ?_
              rw [h3]
              refine ok_seq 1 (σ' := (158, [(6, .int (nI tn)), (5, .int (nI o)), (4, .int (nI c)), (2, .int (nI mo)), (3, .int (nI fa)), (0, .ref 185), (1, .int ce)], [.int (Int32.ofInt 0), .ref 186, .int wz, .int (nI tn), .int (nI 504), .ref 185], gSh, M)) rfl ?_
              rw [cI_0]
              refine ok_iald (n := 280) (v := az) rfl rfl (hI_in (by omega) (by decide)) (by rw [hI_nat (by omega)]; exact haz) ?_
              refine ok_call (mi := 217) (as := [.ref 185, .int (nI 504), .int (nI tn), .int wz, .int az]) (pc' := 162) (L' := [(6, .int (nI tn)), (5, .int (nI o)), (4, .int (nI c)), (2, .int (nI mo)), (3, .int (nI fa)), (0, .ref 185), (1, .int ce)]) (st' := []) (sh' := gSh) (M' := M) (i := .invokevirtual 302) (len := 3) rfl rfl ?_
              refine (((hH.2.2 [.ref 185, .int (nI 504), .int (nI tn), .int wz, .int az] M ⟨r185, ⟨nI 504, rfl, by decide, by decide⟩, sat_n (by omega) (by omega), sat_a _, sat_a _, trivial⟩ hM (hF.gr hg) (fun q hq => by cases hq)).deep (by omega))).mono ?_
              rintro v ⟨sh2, M2⟩ ⟨hsh, hM2, hv, hf2, -⟩
              have hsh : sh2 = gSh := hsh
              subst hsh
              dsimp only at hM2 hf2
              have e197 : M2 197 = M 197 := hf2.1 197 (by decide)
              have hF2 : LF M0 M2 := fun o k1 k2 k3 k4 k5 => (hf2.1 o (by simp only [List.mem_cons, List.not_mem_nil, or_false, not_or]; exact ⟨k1, k2, k3⟩)).trans (hF o k1 k2 k3 k4 k5)
              have hK1' : nNeg (M2 197) (N + 1) ≤ K0 := by rw [e197]; exact hK1
              have hK2' : mo = 1 → nNeg (M2 197) (N + 1) < K0 := fun hz => by rw [e197]; exact hK2 hz
              have h312 := ty_ref (ply hT hM2 0 rfl rfl)
              obtain ⟨rz, er⟩ : ∃ rz : Int32, v = some (.int rz) := by
                cases v with
                | none => exact hv.elim
                | some v =>
                  obtain ⟨z, hz, -⟩ := ty_int hv.1
                  exact ⟨z, by rw [hz]⟩
              subst er
              refine ok_if 168 rfl rfl ?_ ?_
              · intro hr
                simp only [pCP] at hr
                have hr : (rz).toInt ≥ (0 : Int) := by omega
                refine ok_seq 2 (σ' := (172, [(6, .int (nI tn)), (5, .int (nI o)), (4, .int (nI c)), (2, .int (nI mo)), (3, .int (nI fa)), (0, .ref 185), (1, .int ce)], [M2 185 31], gSh, M2)) rfl ?_
                rw [h312]
                refine ok_seq 4 (σ' := (177, [(6, .int (nI tn)), (5, .int (nI o)), (4, .int (nI c)), (2, .int (nI mo)), (3, .int (nI fa)), (0, .ref 185), (1, .int ce)], [.int ((nI fa) + (Int32.ofInt 1)), .int (nI tn), .ref 197], gSh, M2)) rfl ?_
                rw [cI_1, hI_add fa 1]
                refine ok_iast (n := 93600) rfl rfl (hI_in (by omega) (by decide)) ?_
                rw [hI_nat (a := tn) (by omega)]
                have hw : nNeg ((pUp M2 197 tn (.int (nI (fa + 1)))) 197) (N + 1) + 1 = nNeg (M 197) (N + 1) := nNeg_put (j := tn) (by omega) (by rw [hpz]; exact hp) (by rw [pUp_self, vI_n (by omega)]; omega) (fun k hk => by rw [pUp_other _ _ _ _ (fun z => hk z.2), e197])
                refine ok_seq 4 (σ' := (82, [(5, .int ((nI o) + (Int32.ofInt 1))), (2, .int (Int32.ofInt 1)), (6, .int (nI tn)), (4, .int (nI c)), (3, .int (nI fa)), (0, .ref 185), (1, .int ce)], [], gSh, pUp M2 197 tn (.int (nI (fa + 1))))) rfl ?_
                rw [cI_1, hI_add o 1]
                exact ih (o + 1) 1 (nI tn) _ _ (by omega) (pu197 hT hM2 (by omega) _) hF2.up (by decide) (by omega) (fun _ => by omega) (Or.inr (Or.inr (Or.inl rfl)))
              · intro hr
                simp only [pCP] at hr
                have hr : (rz).toInt < (0 : Int) := by omega
                refine ok_seq 3 (σ' := (82, [(5, .int ((nI o) + (Int32.ofInt 1))), (6, .int (nI tn)), (4, .int (nI c)), (2, .int (nI mo)), (3, .int (nI fa)), (0, .ref 185), (1, .int ce)], [], gSh, M2)) rfl ?_
                rw [cI_1, hI_add o 1]
                exact ih (o + 1) mo (nI tn) M2 _ (by omega) hM2 hF2 hmo hK1' hK2' (Or.inr (Or.inl rfl))
        · intro hf0
          simp only [pCP] at hf0
          rw [hI_int (a := fa) (by omega)] at hf0
          have hf0 : ((fa : Nat) : Int) ≠ (0 : Int) := by omega
          refine ok_seq 2 (σ' := (107, [(5, .int (nI o)), (4, .int (nI c)), (6, .int y6), (2, .int (nI mo)), (3, .int (nI fa)), (0, .ref 185), (1, .int ce)], [M 185 3], gSh, M)) rfl ?_
          rw [h3]
          refine ok_seq 3 (σ' := (112, [(5, .int (nI o)), (4, .int (nI c)), (6, .int y6), (2, .int (nI mo)), (3, .int (nI fa)), (0, .ref 185), (1, .int ce)], [.int (((Int8.ofInt 70).toInt32) + (nI c)), .ref 186], gSh, M)) rfl ?_
          rw [(show (Int8.ofInt 70).toInt32 = nI 70 by decide), hI_add 70 c]
          refine ok_iald (n := 280) (v := nI ex) rfl rfl (hI_in (by omega) (by decide)) (by rw [hI_nat (by omega)]; exact hex2) ?_
          refine ok_if 186 rfl rfl ?_ ?_
          · intro he
            simp only [pCP] at he
            rw [hI_int (a := ex) (by omega)] at he
            have he : ((ex : Nat) : Int) ≠ (0 : Int) := by omega
            refine ok_seq 2 (σ' := (70, [(4, .int ((nI c) + (Int32.ofInt 1))), (5, .int (nI o)), (6, .int y6), (2, .int (nI mo)), (3, .int (nI fa)), (0, .ref 185), (1, .int ce)], [], gSh, M)) rfl ?_
            rw [cI_1, hI_add c 1]
            exact hto M mo (nI o) y6 _ hM hF hmo hK1 hK2 (Or.inr (Or.inr (Or.inl rfl)))
          · intro he
            simp only [pCP] at he
            rw [hI_int (a := ex) (by omega)] at he
            have he : ((ex : Nat) : Int) = (0 : Int) := by omega
            refine ok_seq 3 (σ' := (121, [(5, .int (nI o)), (4, .int (nI c)), (6, .int y6), (2, .int (nI mo)), (3, .int (nI fa)), (0, .ref 185), (1, .int ce)], [.int (nI o), .int (nI c), .ref 185], gSh, M)) rfl ?_
            refine ok_call (mi := 162) (as := [.ref 185, .int (nI c), .int (nI o)]) (pc' := 124) (L' := [(5, .int (nI o)), (4, .int (nI c)), (6, .int y6), (2, .int (nI mo)), (3, .int (nI fa)), (0, .ref 185), (1, .int ce)]) (st' := []) (sh' := gSh) (M' := M) (i := .invokevirtual 271) (len := 3) rfl rfl ?_
            refine ((t3.deep (by omega))).mono ?_
            rintro v hp ⟨rfl, rfl⟩
            refine ok_seq 2 (σ' := (128, [(6, .int tz), (5, .int (nI o)), (4, .int (nI c)), (2, .int (nI mo)), (3, .int (nI fa)), (0, .ref 185), (1, .int ce)], [.int tz], gSh, M)) rfl ?_
            refine ok_if 180 rfl rfl ?_ ?_
            · intro ht
              simp only [pCP] at ht
              have ht : (tz).toInt < (0 : Int) := by omega
              refine ok_seq 2 (σ' := (82, [(5, .int ((nI o) + (Int32.ofInt 1))), (6, .int tz), (4, .int (nI c)), (2, .int (nI mo)), (3, .int (nI fa)), (0, .ref 185), (1, .int ce)], [], gSh, M)) rfl ?_
              rw [cI_1, hI_add o 1]
              exact ih (o + 1) mo (tz) M _ (by omega) hM hF hmo hK1 hK2 (Or.inr (Or.inl rfl))
            · intro ht
              simp only [pCP] at ht
              have ht : (tz).toInt ≥ (0 : Int) := by omega
              obtain ⟨tn, htn, etn⟩ := ty_nat (x := []) (hi := (N : Int)) ⟨tz, rfl, (show (0 : Int) ≤ tz.toInt by omega), t2⟩
              cases etn
              obtain ⟨pz, hpz⟩ := pt197 hT hM (k := tn) (by omega)
              refine ok_seq 2 (σ' := (135, [(6, .int (nI tn)), (5, .int (nI o)), (4, .int (nI c)), (2, .int (nI mo)), (3, .int (nI fa)), (0, .ref 185), (1, .int ce)], [M 185 31], gSh, M)) rfl ?_
              rw [h31]
              refine ok_seq 1 (σ' := (137, [(6, .int (nI tn)), (5, .int (nI o)), (4, .int (nI c)), (2, .int (nI mo)), (3, .int (nI fa)), (0, .ref 185), (1, .int ce)], [.int (nI tn), .ref 197], gSh, M)) rfl ?_
              refine ok_iald (n := 93600) (v := pz) rfl rfl (hI_in (by omega) (by decide)) (by rw [hI_nat (by omega)]; exact hpz) ?_
              refine ok_if 180 rfl rfl ?_ ?_
              · intro hp
                simp only [pCP] at hp
                have hp : (pz).toInt ≥ (0 : Int) := by omega
                refine ok_seq 2 (σ' := (82, [(5, .int ((nI o) + (Int32.ofInt 1))), (6, .int (nI tn)), (4, .int (nI c)), (2, .int (nI mo)), (3, .int (nI fa)), (0, .ref 185), (1, .int ce)], [], gSh, M)) rfl ?_
                rw [cI_1, hI_add o 1]
                exact ih (o + 1) mo (nI tn) M _ (by omega) hM hF hmo hK1 hK2 (Or.inr (Or.inl rfl))
              · intro hp
                simp only [pCP] at hp
                have hp : (pz).toInt < (0 : Int) := by omega
                refine ok_seq 5 (σ' := (151, [(6, .int (nI tn)), (5, .int (nI o)), (4, .int (nI c)), (2, .int (nI mo)), (3, .int (nI fa)), (0, .ref 185), (1, .int ce)], [M 185 3, .int (nI tn), .int ((Int16.ofInt 504).toInt32), .ref 185], gSh, M)) rfl ?_
                rw [h3]
                rw [(show (Int16.ofInt 504).toInt32 = nI 504 by decide)]
                refine ok_seq 1 (σ' := (152, [(6, .int (nI tn)), (5, .int (nI o)), (4, .int (nI c)), (2, .int (nI mo)), (3, .int (nI fa)), (0, .ref 185), (1, .int ce)], [.int (Int32.ofInt 1), .ref 186, .int (nI tn), .int (nI 504), .ref 185], gSh, M)) rfl ?_
                rw [cI_1]
                refine ok_iald (n := 280) (v := wz) rfl rfl (hI_in (by omega) (by decide)) (by rw [hI_nat (by omega)]; exact hwz) ?_
                refine ok_seq 2 (σ' := (157, [(6, .int (nI tn)), (5, .int (nI o)), (4, .int (nI c)), (2, .int (nI mo)), (3, .int (nI fa)), (0, .ref 185), (1, .int ce)], [M 185 3, .int wz, .int (nI tn), .int (nI 504), .ref 185], gSh, M)) rfl ?_
                rw [h3]
                refine ok_seq 1 (σ' := (158, [(6, .int (nI tn)), (5, .int (nI o)), (4, .int (nI c)), (2, .int (nI mo)), (3, .int (nI fa)), (0, .ref 185), (1, .int ce)], [.int (Int32.ofInt 0), .ref 186, .int wz, .int (nI tn), .int (nI 504), .ref 185], gSh, M)) rfl ?_
                rw [cI_0]
                refine ok_iald (n := 280) (v := az) rfl rfl (hI_in (by omega) (by decide)) (by rw [hI_nat (by omega)]; exact haz) ?_
                refine ok_call (mi := 217) (as := [.ref 185, .int (nI 504), .int (nI tn), .int wz, .int az]) (pc' := 162) (L' := [(6, .int (nI tn)), (5, .int (nI o)), (4, .int (nI c)), (2, .int (nI mo)), (3, .int (nI fa)), (0, .ref 185), (1, .int ce)]) (st' := []) (sh' := gSh) (M' := M) (i := .invokevirtual 302) (len := 3) rfl rfl ?_
                refine (((hH.2.2 [.ref 185, .int (nI 504), .int (nI tn), .int wz, .int az] M ⟨r185, ⟨nI 504, rfl, by decide, by decide⟩, sat_n (by omega) (by omega), sat_a _, sat_a _, trivial⟩ hM (hF.gr hg) (fun q hq => by cases hq)).deep (by omega))).mono ?_
                rintro v ⟨sh2, M2⟩ ⟨hsh, hM2, hv, hf2, -⟩
                have hsh : sh2 = gSh := hsh
                subst hsh
                dsimp only at hM2 hf2
                have e197 : M2 197 = M 197 := hf2.1 197 (by decide)
                have hF2 : LF M0 M2 := fun o k1 k2 k3 k4 k5 => (hf2.1 o (by simp only [List.mem_cons, List.not_mem_nil, or_false, not_or]; exact ⟨k1, k2, k3⟩)).trans (hF o k1 k2 k3 k4 k5)
                have hK1' : nNeg (M2 197) (N + 1) ≤ K0 := by rw [e197]; exact hK1
                have hK2' : mo = 1 → nNeg (M2 197) (N + 1) < K0 := fun hz => by rw [e197]; exact hK2 hz
                have h312 := ty_ref (ply hT hM2 0 rfl rfl)
                obtain ⟨rz, er⟩ : ∃ rz : Int32, v = some (.int rz) := by
                  cases v with
                  | none => exact hv.elim
                  | some v =>
                    obtain ⟨z, hz, -⟩ := ty_int hv.1
                    exact ⟨z, by rw [hz]⟩
                subst er
                refine ok_if 168 rfl rfl ?_ ?_
                · intro hr
                  simp only [pCP] at hr
                  have hr : (rz).toInt ≥ (0 : Int) := by omega
                  refine ok_seq 2 (σ' := (172, [(6, .int (nI tn)), (5, .int (nI o)), (4, .int (nI c)), (2, .int (nI mo)), (3, .int (nI fa)), (0, .ref 185), (1, .int ce)], [M2 185 31], gSh, M2)) rfl ?_
                  rw [h312]
                  refine ok_seq 4 (σ' := (177, [(6, .int (nI tn)), (5, .int (nI o)), (4, .int (nI c)), (2, .int (nI mo)), (3, .int (nI fa)), (0, .ref 185), (1, .int ce)], [.int ((nI fa) + (Int32.ofInt 1)), .int (nI tn), .ref 197], gSh, M2)) rfl ?_
                  rw [cI_1, hI_add fa 1]
                  refine ok_iast (n := 93600) rfl rfl (hI_in (by omega) (by decide)) ?_
                  rw [hI_nat (a := tn) (by omega)]
                  have hw : nNeg ((pUp M2 197 tn (.int (nI (fa + 1)))) 197) (N + 1) + 1 = nNeg (M 197) (N + 1) := nNeg_put (j := tn) (by omega) (by rw [hpz]; exact hp) (by rw [pUp_self, vI_n (by omega)]; omega) (fun k hk => by rw [pUp_other _ _ _ _ (fun z => hk z.2), e197])
                  refine ok_seq 4 (σ' := (82, [(5, .int ((nI o) + (Int32.ofInt 1))), (2, .int (Int32.ofInt 1)), (6, .int (nI tn)), (4, .int (nI c)), (3, .int (nI fa)), (0, .ref 185), (1, .int ce)], [], gSh, pUp M2 197 tn (.int (nI (fa + 1))))) rfl ?_
                  rw [cI_1, hI_add o 1]
                  exact ih (o + 1) 1 (nI tn) _ _ (by omega) (pu197 hT hM2 (by omega) _) hF2.up (by decide) (by omega) (fun _ => by omega) (Or.inr (Or.inr (Or.inl rfl)))
                · intro hr
                  simp only [pCP] at hr
                  have hr : (rz).toInt < (0 : Int) := by omega
                  refine ok_seq 3 (σ' := (82, [(5, .int ((nI o) + (Int32.ofInt 1))), (6, .int (nI tn)), (4, .int (nI c)), (2, .int (nI mo)), (3, .int (nI fa)), (0, .ref 185), (1, .int ce)], [], gSh, M2)) rfl ?_
                  rw [cI_1, hI_add o 1]
                  exact ih (o + 1) mo (nI tn) M2 _ (by omega) hM2 hF2 hmo hK1' hK2' (Or.inr (Or.inl rfl))
    · refine ok_seq 2 (σ' := (85, [(5, .int (nI o)), (4, .int (nI c)), (2, .int (nI mo)), (6, .int y6), (3, .int (nI fa)), (0, .ref 185), (1, .int ce)], [.int (Int32.ofInt 4), .int (nI o)], gSh, M)) rfl ?_
      rw [cI_4]
      refine ok_icmp 186 rfl rfl (fun hz => absurd hz (by simp only [pCP]; rw [hI_int (a := o) (by omega), hI_int (a := 4) (by omega)]; omega)) (fun _ => ?_)
      refine ok_seq 2 (σ' := (92, [(5, .int (nI o)), (4, .int (nI c)), (2, .int (nI mo)), (6, .int y6), (3, .int (nI fa)), (0, .ref 185), (1, .int ce)], [M 185 31], gSh, M)) rfl ?_
      rw [h31]
      refine ok_seq 1 (σ' := (94, [(5, .int (nI o)), (4, .int (nI c)), (2, .int (nI mo)), (6, .int y6), (3, .int (nI fa)), (0, .ref 185), (1, .int ce)], [.int (nI c), .ref 197], gSh, M)) rfl ?_
      refine ok_iald (n := 93600) (v := oz) rfl rfl (hI_in (by omega) (by decide)) (by rw [hI_nat (by omega)]; exact hoz) ?_
      refine ok_seq 1 (σ' := (96, [(5, .int (nI o)), (4, .int (nI c)), (2, .int (nI mo)), (6, .int y6), (3, .int (nI fa)), (0, .ref 185), (1, .int ce)], [.int (nI fa), .int oz], gSh, M)) rfl ?_
      refine ok_icmp 186 rfl rfl ?_ ?_
      · intro hf
        simp only [pCP] at hf
        rw [hI_int (a := fa) (by omega)] at hf
        have hf : (oz).toInt ≠ ((fa : Nat) : Int) := by omega
        refine ok_seq 2 (σ' := (70, [(4, .int ((nI c) + (Int32.ofInt 1))), (5, .int (nI o)), (2, .int (nI mo)), (6, .int y6), (3, .int (nI fa)), (0, .ref 185), (1, .int ce)], [], gSh, M)) rfl ?_
        rw [cI_1, hI_add c 1]
        exact hto M mo (nI o) y6 _ hM hF hmo hK1 hK2 (Or.inr (Or.inr (Or.inr (Or.inl rfl))))
      · intro hf
        simp only [pCP] at hf
        rw [hI_int (a := fa) (by omega)] at hf
        have hf : (oz).toInt = ((fa : Nat) : Int) := by omega
        refine ok_seq 1 (σ' := (100, [(5, .int (nI o)), (4, .int (nI c)), (2, .int (nI mo)), (6, .int y6), (3, .int (nI fa)), (0, .ref 185), (1, .int ce)], [.int (nI fa)], gSh, M)) rfl ?_
        refine ok_if 116 rfl rfl ?_ ?_
        · intro hf0
          simp only [pCP] at hf0
          rw [hI_int (a := fa) (by omega)] at hf0
          have hf0 : ((fa : Nat) : Int) = (0 : Int) := by omega
          refine ok_seq 3 (σ' := (121, [(5, .int (nI o)), (4, .int (nI c)), (2, .int (nI mo)), (6, .int y6), (3, .int (nI fa)), (0, .ref 185), (1, .int ce)], [.int (nI o), .int (nI c), .ref 185], gSh, M)) rfl ?_
          refine ok_call (mi := 162) (as := [.ref 185, .int (nI c), .int (nI o)]) (pc' := 124) (L' := [(5, .int (nI o)), (4, .int (nI c)), (2, .int (nI mo)), (6, .int y6), (3, .int (nI fa)), (0, .ref 185), (1, .int ce)]) (st' := []) (sh' := gSh) (M' := M) (i := .invokevirtual 271) (len := 3) rfl rfl ?_
          refine ((t3.deep (by omega))).mono ?_
          rintro v hp ⟨rfl, rfl⟩
          refine ok_seq 2 (σ' := (128, [(6, .int tz), (5, .int (nI o)), (4, .int (nI c)), (2, .int (nI mo)), (3, .int (nI fa)), (0, .ref 185), (1, .int ce)], [.int tz], gSh, M)) rfl ?_
          refine ok_if 180 rfl rfl ?_ ?_
          · intro ht
            simp only [pCP] at ht
            have ht : (tz).toInt < (0 : Int) := by omega
            refine ok_seq 2 (σ' := (82, [(5, .int ((nI o) + (Int32.ofInt 1))), (6, .int tz), (4, .int (nI c)), (2, .int (nI mo)), (3, .int (nI fa)), (0, .ref 185), (1, .int ce)], [], gSh, M)) rfl ?_
            rw [cI_1, hI_add o 1]
            exact ih (o + 1) mo (tz) M _ (by omega) hM hF hmo hK1 hK2 (Or.inr (Or.inl rfl))
          · intro ht
            simp only [pCP] at ht
            have ht : (tz).toInt ≥ (0 : Int) := by omega
            obtain ⟨tn, htn, etn⟩ := ty_nat (x := []) (hi := (N : Int)) ⟨tz, rfl, (show (0 : Int) ≤ tz.toInt by omega), t2⟩
            cases etn
            obtain ⟨pz, hpz⟩ := pt197 hT hM (k := tn) (by omega)
            refine ok_seq 2 (σ' := (135, [(6, .int (nI tn)), (5, .int (nI o)), (4, .int (nI c)), (2, .int (nI mo)), (3, .int (nI fa)), (0, .ref 185), (1, .int ce)], [M 185 31], gSh, M)) rfl ?_
            rw [h31]
            refine ok_seq 1 (σ' := (137, [(6, .int (nI tn)), (5, .int (nI o)), (4, .int (nI c)), (2, .int (nI mo)), (3, .int (nI fa)), (0, .ref 185), (1, .int ce)], [.int (nI tn), .ref 197], gSh, M)) rfl ?_
            refine ok_iald (n := 93600) (v := pz) rfl rfl (hI_in (by omega) (by decide)) (by rw [hI_nat (by omega)]; exact hpz) ?_
            refine ok_if 180 rfl rfl ?_ ?_
            · intro hp
              simp only [pCP] at hp
              have hp : (pz).toInt ≥ (0 : Int) := by omega
              refine ok_seq 2 (σ' := (82, [(5, .int ((nI o) + (Int32.ofInt 1))), (6, .int (nI tn)), (4, .int (nI c)), (2, .int (nI mo)), (3, .int (nI fa)), (0, .ref 185), (1, .int ce)], [], gSh, M)) rfl ?_
              rw [cI_1, hI_add o 1]
              exact ih (o + 1) mo (nI tn) M _ (by omega) hM hF hmo hK1 hK2 (Or.inr (Or.inl rfl))
            · intro hp
              simp only [pCP] at hp
              have hp : (pz).toInt < (0 : Int) := by omega
              refine ok_seq 5 (σ' := (151, [(6, .int (nI tn)), (5, .int (nI o)), (4, .int (nI c)), (2, .int (nI mo)), (3, .int (nI fa)), (0, .ref 185), (1, .int ce)], [M 185 3, .int (nI tn), .int ((Int16.ofInt 504).toInt32), .ref 185], gSh, M)) rfl ?_
              rw [h3]
              rw [(show (Int16.ofInt 504).toInt32 = nI 504 by decide)]
              refine ok_seq 1 (σ' := (152, [(6, .int (nI tn)), (5, .int (nI o)), (4, .int (nI c)), (2, .int (nI mo)), (3, .int (nI fa)), (0, .ref 185), (1, .int ce)], [.int (Int32.ofInt 1), .ref 186, .int (nI tn), .int (nI 504), .ref 185], gSh, M)) rfl ?_
              rw [cI_1]
              refine ok_iald (n := 280) (v := wz) rfl rfl (hI_in (by omega) (by decide)) (by rw [hI_nat (by omega)]; exact hwz) ?_
              refine ok_seq 2 (σ' := (157, [(6, .int (nI tn)), (5, .int (nI o)), (4, .int (nI c)), (2, .int (nI mo)), (3, .int (nI fa)), (0, .ref 185), (1, .int ce)], [M 185 3, .int wz, .int (nI tn), .int (nI 504), .ref 185], gSh, M)) rfl ?_
              rw [h3]
              refine ok_seq 1 (σ' := (158, [(6, .int (nI tn)), (5, .int (nI o)), (4, .int (nI c)), (2, .int (nI mo)), (3, .int (nI fa)), (0, .ref 185), (1, .int ce)], [.int (Int32.ofInt 0), .ref 186, .int wz, .int (nI tn), .int (nI 504), .ref 185], gSh, M)) rfl ?_
              rw [cI_0]
              refine ok_iald (n := 280) (v := az) rfl rfl (hI_in (by omega) (by decide)) (by rw [hI_nat (by omega)]; exact haz) ?_
              refine ok_call (mi := 217) (as := [.ref 185, .int (nI 504), .int (nI tn), .int wz, .int az]) (pc' := 162) (L' := [(6, .int (nI tn)), (5, .int (nI o)), (4, .int (nI c)), (2, .int (nI mo)), (3, .int (nI fa)), (0, .ref 185), (1, .int ce)]) (st' := []) (sh' := gSh) (M' := M) (i := .invokevirtual 302) (len := 3) rfl rfl ?_
              refine (((hH.2.2 [.ref 185, .int (nI 504), .int (nI tn), .int wz, .int az] M ⟨r185, ⟨nI 504, rfl, by decide, by decide⟩, sat_n (by omega) (by omega), sat_a _, sat_a _, trivial⟩ hM (hF.gr hg) (fun q hq => by cases hq)).deep (by omega))).mono ?_
              rintro v ⟨sh2, M2⟩ ⟨hsh, hM2, hv, hf2, -⟩
              have hsh : sh2 = gSh := hsh
              subst hsh
              dsimp only at hM2 hf2
              have e197 : M2 197 = M 197 := hf2.1 197 (by decide)
              have hF2 : LF M0 M2 := fun o k1 k2 k3 k4 k5 => (hf2.1 o (by simp only [List.mem_cons, List.not_mem_nil, or_false, not_or]; exact ⟨k1, k2, k3⟩)).trans (hF o k1 k2 k3 k4 k5)
              have hK1' : nNeg (M2 197) (N + 1) ≤ K0 := by rw [e197]; exact hK1
              have hK2' : mo = 1 → nNeg (M2 197) (N + 1) < K0 := fun hz => by rw [e197]; exact hK2 hz
              have h312 := ty_ref (ply hT hM2 0 rfl rfl)
              obtain ⟨rz, er⟩ : ∃ rz : Int32, v = some (.int rz) := by
                cases v with
                | none => exact hv.elim
                | some v =>
                  obtain ⟨z, hz, -⟩ := ty_int hv.1
                  exact ⟨z, by rw [hz]⟩
              subst er
              refine ok_if 168 rfl rfl ?_ ?_
              · intro hr
                simp only [pCP] at hr
                have hr : (rz).toInt ≥ (0 : Int) := by omega
                refine ok_seq 2 (σ' := (172, [(6, .int (nI tn)), (5, .int (nI o)), (4, .int (nI c)), (2, .int (nI mo)), (3, .int (nI fa)), (0, .ref 185), (1, .int ce)], [M2 185 31], gSh, M2)) rfl ?_
                rw [h312]
                refine ok_seq 4 (σ' := (177, [(6, .int (nI tn)), (5, .int (nI o)), (4, .int (nI c)), (2, .int (nI mo)), (3, .int (nI fa)), (0, .ref 185), (1, .int ce)], [.int ((nI fa) + (Int32.ofInt 1)), .int (nI tn), .ref 197], gSh, M2)) rfl ?_
                rw [cI_1, hI_add fa 1]
                refine ok_iast (n := 93600) rfl rfl (hI_in (by omega) (by decide)) ?_
                rw [hI_nat (a := tn) (by omega)]
                have hw : nNeg ((pUp M2 197 tn (.int (nI (fa + 1)))) 197) (N + 1) + 1 = nNeg (M 197) (N + 1) := nNeg_put (j := tn) (by omega) (by rw [hpz]; exact hp) (by rw [pUp_self, vI_n (by omega)]; omega) (fun k hk => by rw [pUp_other _ _ _ _ (fun z => hk z.2), e197])
                refine ok_seq 4 (σ' := (82, [(5, .int ((nI o) + (Int32.ofInt 1))), (2, .int (Int32.ofInt 1)), (6, .int (nI tn)), (4, .int (nI c)), (3, .int (nI fa)), (0, .ref 185), (1, .int ce)], [], gSh, pUp M2 197 tn (.int (nI (fa + 1))))) rfl ?_
                rw [cI_1, hI_add o 1]
                exact ih (o + 1) 1 (nI tn) _ _ (by omega) (pu197 hT hM2 (by omega) _) hF2.up (by decide) (by omega) (fun _ => by omega) (Or.inr (Or.inr (Or.inl rfl)))
              · intro hr
                simp only [pCP] at hr
                have hr : (rz).toInt < (0 : Int) := by omega
                refine ok_seq 3 (σ' := (82, [(5, .int ((nI o) + (Int32.ofInt 1))), (6, .int (nI tn)), (4, .int (nI c)), (2, .int (nI mo)), (3, .int (nI fa)), (0, .ref 185), (1, .int ce)], [], gSh, M2)) rfl ?_
                rw [cI_1, hI_add o 1]
                exact ih (o + 1) mo (nI tn) M2 _ (by omega) hM2 hF2 hmo hK1' hK2' (Or.inr (Or.inl rfl))
        · intro hf0
          simp only [pCP] at hf0
          rw [hI_int (a := fa) (by omega)] at hf0
          have hf0 : ((fa : Nat) : Int) ≠ (0 : Int) := by omega
          refine ok_seq 2 (σ' := (107, [(5, .int (nI o)), (4, .int (nI c)), (2, .int (nI mo)), (6, .int y6), (3, .int (nI fa)), (0, .ref 185), (1, .int ce)], [M 185 3], gSh, M)) rfl ?_
          rw [h3]
          refine ok_seq 3 (σ' := (112, [(5, .int (nI o)), (4, .int (nI c)), (2, .int (nI mo)), (6, .int y6), (3, .int (nI fa)), (0, .ref 185), (1, .int ce)], [.int (((Int8.ofInt 70).toInt32) + (nI c)), .ref 186], gSh, M)) rfl ?_
          rw [(show (Int8.ofInt 70).toInt32 = nI 70 by decide), hI_add 70 c]
          refine ok_iald (n := 280) (v := nI ex) rfl rfl (hI_in (by omega) (by decide)) (by rw [hI_nat (by omega)]; exact hex2) ?_
          refine ok_if 186 rfl rfl ?_ ?_
          · intro he
            simp only [pCP] at he
            rw [hI_int (a := ex) (by omega)] at he
            have he : ((ex : Nat) : Int) ≠ (0 : Int) := by omega
            refine ok_seq 2 (σ' := (70, [(4, .int ((nI c) + (Int32.ofInt 1))), (5, .int (nI o)), (2, .int (nI mo)), (6, .int y6), (3, .int (nI fa)), (0, .ref 185), (1, .int ce)], [], gSh, M)) rfl ?_
            rw [cI_1, hI_add c 1]
            exact hto M mo (nI o) y6 _ hM hF hmo hK1 hK2 (Or.inr (Or.inr (Or.inr (Or.inl rfl))))
          · intro he
            simp only [pCP] at he
            rw [hI_int (a := ex) (by omega)] at he
            have he : ((ex : Nat) : Int) = (0 : Int) := by omega
            refine ok_seq 3 (σ' := (121, [(5, .int (nI o)), (4, .int (nI c)), (2, .int (nI mo)), (6, .int y6), (3, .int (nI fa)), (0, .ref 185), (1, .int ce)], [.int (nI o), .int (nI c), .ref 185], gSh, M)) rfl ?_
            refine ok_call (mi := 162) (as := [.ref 185, .int (nI c), .int (nI o)]) (pc' := 124) (L' := [(5, .int (nI o)), (4, .int (nI c)), (2, .int (nI mo)), (6, .int y6), (3, .int (nI fa)), (0, .ref 185), (1, .int ce)]) (st' := []) (sh' := gSh) (M' := M) (i := .invokevirtual 271) (len := 3) rfl rfl ?_
            refine ((t3.deep (by omega))).mono ?_
            rintro v hp ⟨rfl, rfl⟩
            refine ok_seq 2 (σ' := (128, [(6, .int tz), (5, .int (nI o)), (4, .int (nI c)), (2, .int (nI mo)), (3, .int (nI fa)), (0, .ref 185), (1, .int ce)], [.int tz], gSh, M)) rfl ?_
            refine ok_if 180 rfl rfl ?_ ?_
            · intro ht
              simp only [pCP] at ht
              have ht : (tz).toInt < (0 : Int) := by omega
              refine ok_seq 2 (σ' := (82, [(5, .int ((nI o) + (Int32.ofInt 1))), (6, .int tz), (4, .int (nI c)), (2, .int (nI mo)), (3, .int (nI fa)), (0, .ref 185), (1, .int ce)], [], gSh, M)) rfl ?_
              rw [cI_1, hI_add o 1]
              exact ih (o + 1) mo (tz) M _ (by omega) hM hF hmo hK1 hK2 (Or.inr (Or.inl rfl))
            · intro ht
              simp only [pCP] at ht
              have ht : (tz).toInt ≥ (0 : Int) := by omega
              obtain ⟨tn, htn, etn⟩ := ty_nat (x := []) (hi := (N : Int)) ⟨tz, rfl, (show (0 : Int) ≤ tz.toInt by omega), t2⟩
              cases etn
              obtain ⟨pz, hpz⟩ := pt197 hT hM (k := tn) (by omega)
              refine ok_seq 2 (σ' := (135, [(6, .int (nI tn)), (5, .int (nI o)), (4, .int (nI c)), (2, .int (nI mo)), (3, .int (nI fa)), (0, .ref 185), (1, .int ce)], [M 185 31], gSh, M)) rfl ?_
              rw [h31]
              refine ok_seq 1 (σ' := (137, [(6, .int (nI tn)), (5, .int (nI o)), (4, .int (nI c)), (2, .int (nI mo)), (3, .int (nI fa)), (0, .ref 185), (1, .int ce)], [.int (nI tn), .ref 197], gSh, M)) rfl ?_
              refine ok_iald (n := 93600) (v := pz) rfl rfl (hI_in (by omega) (by decide)) (by rw [hI_nat (by omega)]; exact hpz) ?_
              refine ok_if 180 rfl rfl ?_ ?_
              · intro hp
                simp only [pCP] at hp
                have hp : (pz).toInt ≥ (0 : Int) := by omega
                refine ok_seq 2 (σ' := (82, [(5, .int ((nI o) + (Int32.ofInt 1))), (6, .int (nI tn)), (4, .int (nI c)), (2, .int (nI mo)), (3, .int (nI fa)), (0, .ref 185), (1, .int ce)], [], gSh, M)) rfl ?_
                rw [cI_1, hI_add o 1]
                exact ih (o + 1) mo (nI tn) M _ (by omega) hM hF hmo hK1 hK2 (Or.inr (Or.inl rfl))
              · intro hp
                simp only [pCP] at hp
                have hp : (pz).toInt < (0 : Int) := by omega
                refine ok_seq 5 (σ' := (151, [(6, .int (nI tn)), (5, .int (nI o)), (4, .int (nI c)), (2, .int (nI mo)), (3, .int (nI fa)), (0, .ref 185), (1, .int ce)], [M 185 3, .int (nI tn), .int ((Int16.ofInt 504).toInt32), .ref 185], gSh, M)) rfl ?_
                rw [h3]
                rw [(show (Int16.ofInt 504).toInt32 = nI 504 by decide)]
                refine ok_seq 1 (σ' := (152, [(6, .int (nI tn)), (5, .int (nI o)), (4, .int (nI c)), (2, .int (nI mo)), (3, .int (nI fa)), (0, .ref 185), (1, .int ce)], [.int (Int32.ofInt 1), .ref 186, .int (nI tn), .int (nI 504), .ref 185], gSh, M)) rfl ?_
                rw [cI_1]
                refine ok_iald (n := 280) (v := wz) rfl rfl (hI_in (by omega) (by decide)) (by rw [hI_nat (by omega)]; exact hwz) ?_
                refine ok_seq 2 (σ' := (157, [(6, .int (nI tn)), (5, .int (nI o)), (4, .int (nI c)), (2, .int (nI mo)), (3, .int (nI fa)), (0, .ref 185), (1, .int ce)], [M 185 3, .int wz, .int (nI tn), .int (nI 504), .ref 185], gSh, M)) rfl ?_
                rw [h3]
                refine ok_seq 1 (σ' := (158, [(6, .int (nI tn)), (5, .int (nI o)), (4, .int (nI c)), (2, .int (nI mo)), (3, .int (nI fa)), (0, .ref 185), (1, .int ce)], [.int (Int32.ofInt 0), .ref 186, .int wz, .int (nI tn), .int (nI 504), .ref 185], gSh, M)) rfl ?_
                rw [cI_0]
                refine ok_iald (n := 280) (v := az) rfl rfl (hI_in (by omega) (by decide)) (by rw [hI_nat (by omega)]; exact haz) ?_
                refine ok_call (mi := 217) (as := [.ref 185, .int (nI 504), .int (nI tn), .int wz, .int az]) (pc' := 162) (L' := [(6, .int (nI tn)), (5, .int (nI o)), (4, .int (nI c)), (2, .int (nI mo)), (3, .int (nI fa)), (0, .ref 185), (1, .int ce)]) (st' := []) (sh' := gSh) (M' := M) (i := .invokevirtual 302) (len := 3) rfl rfl ?_
                refine (((hH.2.2 [.ref 185, .int (nI 504), .int (nI tn), .int wz, .int az] M ⟨r185, ⟨nI 504, rfl, by decide, by decide⟩, sat_n (by omega) (by omega), sat_a _, sat_a _, trivial⟩ hM (hF.gr hg) (fun q hq => by cases hq)).deep (by omega))).mono ?_
                rintro v ⟨sh2, M2⟩ ⟨hsh, hM2, hv, hf2, -⟩
                have hsh : sh2 = gSh := hsh
                subst hsh
                dsimp only at hM2 hf2
                have e197 : M2 197 = M 197 := hf2.1 197 (by decide)
                have hF2 : LF M0 M2 := fun o k1 k2 k3 k4 k5 => (hf2.1 o (by simp only [List.mem_cons, List.not_mem_nil, or_false, not_or]; exact ⟨k1, k2, k3⟩)).trans (hF o k1 k2 k3 k4 k5)
                have hK1' : nNeg (M2 197) (N + 1) ≤ K0 := by rw [e197]; exact hK1
                have hK2' : mo = 1 → nNeg (M2 197) (N + 1) < K0 := fun hz => by rw [e197]; exact hK2 hz
                have h312 := ty_ref (ply hT hM2 0 rfl rfl)
                obtain ⟨rz, er⟩ : ∃ rz : Int32, v = some (.int rz) := by
                  cases v with
                  | none => exact hv.elim
                  | some v =>
                    obtain ⟨z, hz, -⟩ := ty_int hv.1
                    exact ⟨z, by rw [hz]⟩
                subst er
                refine ok_if 168 rfl rfl ?_ ?_
                · intro hr
                  simp only [pCP] at hr
                  have hr : (rz).toInt ≥ (0 : Int) := by omega
                  refine ok_seq 2 (σ' := (172, [(6, .int (nI tn)), (5, .int (nI o)), (4, .int (nI c)), (2, .int (nI mo)), (3, .int (nI fa)), (0, .ref 185), (1, .int ce)], [M2 185 31], gSh, M2)) rfl ?_
                  rw [h312]
                  refine ok_seq 4 (σ' := (177, [(6, .int (nI tn)), (5, .int (nI o)), (4, .int (nI c)), (2, .int (nI mo)), (3, .int (nI fa)), (0, .ref 185), (1, .int ce)], [.int ((nI fa) + (Int32.ofInt 1)), .int (nI tn), .ref 197], gSh, M2)) rfl ?_
                  rw [cI_1, hI_add fa 1]
                  refine ok_iast (n := 93600) rfl rfl (hI_in (by omega) (by decide)) ?_
                  rw [hI_nat (a := tn) (by omega)]
                  have hw : nNeg ((pUp M2 197 tn (.int (nI (fa + 1)))) 197) (N + 1) + 1 = nNeg (M 197) (N + 1) := nNeg_put (j := tn) (by omega) (by rw [hpz]; exact hp) (by rw [pUp_self, vI_n (by omega)]; omega) (fun k hk => by rw [pUp_other _ _ _ _ (fun z => hk z.2), e197])
                  refine ok_seq 4 (σ' := (82, [(5, .int ((nI o) + (Int32.ofInt 1))), (2, .int (Int32.ofInt 1)), (6, .int (nI tn)), (4, .int (nI c)), (3, .int (nI fa)), (0, .ref 185), (1, .int ce)], [], gSh, pUp M2 197 tn (.int (nI (fa + 1))))) rfl ?_
                  rw [cI_1, hI_add o 1]
                  exact ih (o + 1) 1 (nI tn) _ _ (by omega) (pu197 hT hM2 (by omega) _) hF2.up (by decide) (by omega) (fun _ => by omega) (Or.inr (Or.inr (Or.inl rfl)))
                · intro hr
                  simp only [pCP] at hr
                  have hr : (rz).toInt < (0 : Int) := by omega
                  refine ok_seq 3 (σ' := (82, [(5, .int ((nI o) + (Int32.ofInt 1))), (6, .int (nI tn)), (4, .int (nI c)), (2, .int (nI mo)), (3, .int (nI fa)), (0, .ref 185), (1, .int ce)], [], gSh, M2)) rfl ?_
                  rw [cI_1, hI_add o 1]
                  exact ih (o + 1) mo (nI tn) M2 _ (by omega) hM2 hF2 hmo hK1' hK2' (Or.inr (Or.inl rfl))
    · refine ok_seq 2 (σ' := (85, [(5, .int (nI o)), (4, .int (nI c)), (2, .int (nI mo)), (3, .int (nI fa)), (6, .int y6), (0, .ref 185), (1, .int ce)], [.int (Int32.ofInt 4), .int (nI o)], gSh, M)) rfl ?_
      rw [cI_4]
      refine ok_icmp 186 rfl rfl (fun hz => absurd hz (by simp only [pCP]; rw [hI_int (a := o) (by omega), hI_int (a := 4) (by omega)]; omega)) (fun _ => ?_)
      refine ok_seq 2 (σ' := (92, [(5, .int (nI o)), (4, .int (nI c)), (2, .int (nI mo)), (3, .int (nI fa)), (6, .int y6), (0, .ref 185), (1, .int ce)], [M 185 31], gSh, M)) rfl ?_
      rw [h31]
      refine ok_seq 1 (σ' := (94, [(5, .int (nI o)), (4, .int (nI c)), (2, .int (nI mo)), (3, .int (nI fa)), (6, .int y6), (0, .ref 185), (1, .int ce)], [.int (nI c), .ref 197], gSh, M)) rfl ?_
      refine ok_iald (n := 93600) (v := oz) rfl rfl (hI_in (by omega) (by decide)) (by rw [hI_nat (by omega)]; exact hoz) ?_
      refine ok_seq 1 (σ' := (96, [(5, .int (nI o)), (4, .int (nI c)), (2, .int (nI mo)), (3, .int (nI fa)), (6, .int y6), (0, .ref 185), (1, .int ce)], [.int (nI fa), .int oz], gSh, M)) rfl ?_
      refine ok_icmp 186 rfl rfl ?_ ?_
      · intro hf
        simp only [pCP] at hf
        rw [hI_int (a := fa) (by omega)] at hf
        have hf : (oz).toInt ≠ ((fa : Nat) : Int) := by omega
        refine ok_seq 2 (σ' := (70, [(4, .int ((nI c) + (Int32.ofInt 1))), (5, .int (nI o)), (2, .int (nI mo)), (3, .int (nI fa)), (6, .int y6), (0, .ref 185), (1, .int ce)], [], gSh, M)) rfl ?_
        rw [cI_1, hI_add c 1]
        exact hto M mo (nI o) y6 _ hM hF hmo hK1 hK2 (Or.inr (Or.inr (Or.inr (Or.inr (Or.inr (Or.inr (rfl)))))))
      · intro hf
        simp only [pCP] at hf
        rw [hI_int (a := fa) (by omega)] at hf
        have hf : (oz).toInt = ((fa : Nat) : Int) := by omega
        refine ok_seq 1 (σ' := (100, [(5, .int (nI o)), (4, .int (nI c)), (2, .int (nI mo)), (3, .int (nI fa)), (6, .int y6), (0, .ref 185), (1, .int ce)], [.int (nI fa)], gSh, M)) rfl ?_
        refine ok_if 116 rfl rfl ?_ ?_
        · intro hf0
          simp only [pCP] at hf0
          rw [hI_int (a := fa) (by omega)] at hf0
          have hf0 : ((fa : Nat) : Int) = (0 : Int) := by omega
          refine ok_seq 3 (σ' := (121, [(5, .int (nI o)), (4, .int (nI c)), (2, .int (nI mo)), (3, .int (nI fa)), (6, .int y6), (0, .ref 185), (1, .int ce)], [.int (nI o), .int (nI c), .ref 185], gSh, M)) rfl ?_
          refine ok_call (mi := 162) (as := [.ref 185, .int (nI c), .int (nI o)]) (pc' := 124) (L' := [(5, .int (nI o)), (4, .int (nI c)), (2, .int (nI mo)), (3, .int (nI fa)), (6, .int y6), (0, .ref 185), (1, .int ce)]) (st' := []) (sh' := gSh) (M' := M) (i := .invokevirtual 271) (len := 3) rfl rfl ?_
          refine ((t3.deep (by omega))).mono ?_
          rintro v hp ⟨rfl, rfl⟩
          refine ok_seq 2 (σ' := (128, [(6, .int tz), (5, .int (nI o)), (4, .int (nI c)), (2, .int (nI mo)), (3, .int (nI fa)), (0, .ref 185), (1, .int ce)], [.int tz], gSh, M)) rfl ?_
          refine ok_if 180 rfl rfl ?_ ?_
          · intro ht
            simp only [pCP] at ht
            have ht : (tz).toInt < (0 : Int) := by omega
            refine ok_seq 2 (σ' := (82, [(5, .int ((nI o) + (Int32.ofInt 1))), (6, .int tz), (4, .int (nI c)), (2, .int (nI mo)), (3, .int (nI fa)), (0, .ref 185), (1, .int ce)], [], gSh, M)) rfl ?_
            rw [cI_1, hI_add o 1]
            exact ih (o + 1) mo (tz) M _ (by omega) hM hF hmo hK1 hK2 (Or.inr (Or.inl rfl))
          · intro ht
            simp only [pCP] at ht
            have ht : (tz).toInt ≥ (0 : Int) := by omega
            obtain ⟨tn, htn, etn⟩ := ty_nat (x := []) (hi := (N : Int)) ⟨tz, rfl, (show (0 : Int) ≤ tz.toInt by omega), t2⟩
            cases etn
            obtain ⟨pz, hpz⟩ := pt197 hT hM (k := tn) (by omega)
            refine ok_seq 2 (σ' := (135, [(6, .int (nI tn)), (5, .int (nI o)), (4, .int (nI c)), (2, .int (nI mo)), (3, .int (nI fa)), (0, .ref 185), (1, .int ce)], [M 185 31], gSh, M)) rfl ?_
            rw [h31]
            refine ok_seq 1 (σ' := (137, [(6, .int (nI tn)), (5, .int (nI o)), (4, .int (nI c)), (2, .int (nI mo)), (3, .int (nI fa)), (0, .ref 185), (1, .int ce)], [.int (nI tn), .ref 197], gSh, M)) rfl ?_
            refine ok_iald (n := 93600) (v := pz) rfl rfl (hI_in (by omega) (by decide)) (by rw [hI_nat (by omega)]; exact hpz) ?_
            refine ok_if 180 rfl rfl ?_ ?_
            · intro hp
              simp only [pCP] at hp
              have hp : (pz).toInt ≥ (0 : Int) := by omega
              refine ok_seq 2 (σ' := (82, [(5, .int ((nI o) + (Int32.ofInt 1))), (6, .int (nI tn)), (4, .int (nI c)), (2, .int (nI mo)), (3, .int (nI fa)), (0, .ref 185), (1, .int ce)], [], gSh, M)) rfl ?_
              rw [cI_1, hI_add o 1]
              exact ih (o + 1) mo (nI tn) M _ (by omega) hM hF hmo hK1 hK2 (Or.inr (Or.inl rfl))
            · intro hp
              simp only [pCP] at hp
              have hp : (pz).toInt < (0 : Int) := by omega
              refine ok_seq 5 (σ' := (151, [(6, .int (nI tn)), (5, .int (nI o)), (4, .int (nI c)), (2, .int (nI mo)), (3, .int (nI fa)), (0, .ref 185), (1, .int ce)], [M 185 3, .int (nI tn), .int ((Int16.ofInt 504).toInt32), .ref 185], gSh, M)) rfl ?_
              rw [h3]
              rw [(show (Int16.ofInt 504).toInt32 = nI 504 by decide)]
              refine ok_seq 1 (σ' := (152, [(6, .int (nI tn)), (5, .int (nI o)), (4, .int (nI c)), (2, .int (nI mo)), (3, .int (nI fa)), (0, .ref 185), (1, .int ce)], [.int (Int32.ofInt 1), .ref 186, .int (nI tn), .int (nI 504), .ref 185], gSh, M)) rfl ?_
              rw [cI_1]
              refine ok_iald (n := 280) (v := wz) rfl rfl (hI_in (by omega) (by decide)) (by rw [hI_nat (by omega)]; exact hwz) ?_
              refine ok_seq 2 (σ' := (157, [(6, .int (nI tn)), (5, .int (nI o)), (4, .int (nI c)), (2, .int (nI mo)), (3, .int (nI fa)), (0, .ref 185), (1, .int ce)], [M 185 3, .int wz, .int (nI tn), .int (nI 504), .ref 185], gSh, M)) rfl ?_
              rw [h3]
              refine ok_seq 1 (σ' := (158, [(6, .int (nI tn)), (5, .int (nI o)), (4, .int (nI c)), (2, .int (nI mo)), (3, .int (nI fa)), (0, .ref 185), (1, .int ce)], [.int (Int32.ofInt 0), .ref 186, .int wz, .int (nI tn), .int (nI 504), .ref 185], gSh, M)) rfl ?_
              rw [cI_0]
              refine ok_iald (n := 280) (v := az) rfl rfl (hI_in (by omega) (by decide)) (by rw [hI_nat (by omega)]; exact haz) ?_
              refine ok_call (mi := 217) (as := [.ref 185, .int (nI 504), .int (nI tn), .int wz, .int az]) (pc' := 162) (L' := [(6, .int (nI tn)), (5, .int (nI o)), (4, .int (nI c)), (2, .int (nI mo)), (3, .int (nI fa)), (0, .ref 185), (1, .int ce)]) (st' := []) (sh' := gSh) (M' := M) (i := .invokevirtual 302) (len := 3) rfl rfl ?_
              refine (((hH.2.2 [.ref 185, .int (nI 504), .int (nI tn), .int wz, .int az] M ⟨r185, ⟨nI 504, rfl, by decide, by decide⟩, sat_n (by omega) (by omega), sat_a _, sat_a _, trivial⟩ hM (hF.gr hg) (fun q hq => by cases hq)).deep (by omega))).mono ?_
              rintro v ⟨sh2, M2⟩ ⟨hsh, hM2, hv, hf2, -⟩
              have hsh : sh2 = gSh := hsh
              subst hsh
              dsimp only at hM2 hf2
              have e197 : M2 197 = M 197 := hf2.1 197 (by decide)
              have hF2 : LF M0 M2 := fun o k1 k2 k3 k4 k5 => (hf2.1 o (by simp only [List.mem_cons, List.not_mem_nil, or_false, not_or]; exact ⟨k1, k2, k3⟩)).trans (hF o k1 k2 k3 k4 k5)
              have hK1' : nNeg (M2 197) (N + 1) ≤ K0 := by rw [e197]; exact hK1
              have hK2' : mo = 1 → nNeg (M2 197) (N + 1) < K0 := fun hz => by rw [e197]; exact hK2 hz
              have h312 := ty_ref (ply hT hM2 0 rfl rfl)
              obtain ⟨rz, er⟩ : ∃ rz : Int32, v = some (.int rz) := by
                cases v with
                | none => exact hv.elim
                | some v =>
                  obtain ⟨z, hz, -⟩ := ty_int hv.1
                  exact ⟨z, by rw [hz]⟩
              subst er
              refine ok_if 168 rfl rfl ?_ ?_
              · intro hr
                simp only [pCP] at hr
                have hr : (rz).toInt ≥ (0 : Int) := by omega
                refine ok_seq 2 (σ' := (172, [(6, .int (nI tn)), (5, .int (nI o)), (4, .int (nI c)), (2, .int (nI mo)), (3, .int (nI fa)), (0, .ref 185), (1, .int ce)], [M2 185 31], gSh, M2)) rfl ?_
                rw [h312]
                refine ok_seq 4 (σ' := (177, [(6, .int (nI tn)), (5, .int (nI o)), (4, .int (nI c)), (2, .int (nI mo)), (3, .int (nI fa)), (0, .ref 185), (1, .int ce)], [.int ((nI fa) + (Int32.ofInt 1)), .int (nI tn), .ref 197], gSh, M2)) rfl ?_
                rw [cI_1, hI_add fa 1]
                refine ok_iast (n := 93600) rfl rfl (hI_in (by omega) (by decide)) ?_
                rw [hI_nat (a := tn) (by omega)]
                have hw : nNeg ((pUp M2 197 tn (.int (nI (fa + 1)))) 197) (N + 1) + 1 = nNeg (M 197) (N + 1) := nNeg_put (j := tn) (by omega) (by rw [hpz]; exact hp) (by rw [pUp_self, vI_n (by omega)]; omega) (fun k hk => by rw [pUp_other _ _ _ _ (fun z => hk z.2), e197])
                refine ok_seq 4 (σ' := (82, [(5, .int ((nI o) + (Int32.ofInt 1))), (2, .int (Int32.ofInt 1)), (6, .int (nI tn)), (4, .int (nI c)), (3, .int (nI fa)), (0, .ref 185), (1, .int ce)], [], gSh, pUp M2 197 tn (.int (nI (fa + 1))))) rfl ?_
                rw [cI_1, hI_add o 1]
                exact ih (o + 1) 1 (nI tn) _ _ (by omega) (pu197 hT hM2 (by omega) _) hF2.up (by decide) (by omega) (fun _ => by omega) (Or.inr (Or.inr (Or.inl rfl)))
              · intro hr
                simp only [pCP] at hr
                have hr : (rz).toInt < (0 : Int) := by omega
                refine ok_seq 3 (σ' := (82, [(5, .int ((nI o) + (Int32.ofInt 1))), (6, .int (nI tn)), (4, .int (nI c)), (2, .int (nI mo)), (3, .int (nI fa)), (0, .ref 185), (1, .int ce)], [], gSh, M2)) rfl ?_
                rw [cI_1, hI_add o 1]
                exact ih (o + 1) mo (nI tn) M2 _ (by omega) hM2 hF2 hmo hK1' hK2' (Or.inr (Or.inl rfl))
        · intro hf0
          simp only [pCP] at hf0
          rw [hI_int (a := fa) (by omega)] at hf0
          have hf0 : ((fa : Nat) : Int) ≠ (0 : Int) := by omega
          refine ok_seq 2 (σ' := (107, [(5, .int (nI o)), (4, .int (nI c)), (2, .int (nI mo)), (3, .int (nI fa)), (6, .int y6), (0, .ref 185), (1, .int ce)], [M 185 3], gSh, M)) rfl ?_
          rw [h3]
          refine ok_seq 3 (σ' := (112, [(5, .int (nI o)), (4, .int (nI c)), (2, .int (nI mo)), (3, .int (nI fa)), (6, .int y6), (0, .ref 185), (1, .int ce)], [.int (((Int8.ofInt 70).toInt32) + (nI c)), .ref 186], gSh, M)) rfl ?_
          rw [(show (Int8.ofInt 70).toInt32 = nI 70 by decide), hI_add 70 c]
          refine ok_iald (n := 280) (v := nI ex) rfl rfl (hI_in (by omega) (by decide)) (by rw [hI_nat (by omega)]; exact hex2) ?_
          refine ok_if 186 rfl rfl ?_ ?_
          · intro he
            simp only [pCP] at he
            rw [hI_int (a := ex) (by omega)] at he
            have he : ((ex : Nat) : Int) ≠ (0 : Int) := by omega
            refine ok_seq 2 (σ' := (70, [(4, .int ((nI c) + (Int32.ofInt 1))), (5, .int (nI o)), (2, .int (nI mo)), (3, .int (nI fa)), (6, .int y6), (0, .ref 185), (1, .int ce)], [], gSh, M)) rfl ?_
            rw [cI_1, hI_add c 1]
            exact hto M mo (nI o) y6 _ hM hF hmo hK1 hK2 (Or.inr (Or.inr (Or.inr (Or.inr (Or.inr (Or.inr (rfl)))))))
          · intro he
            simp only [pCP] at he
            rw [hI_int (a := ex) (by omega)] at he
            have he : ((ex : Nat) : Int) = (0 : Int) := by omega
            refine ok_seq 3 (σ' := (121, [(5, .int (nI o)), (4, .int (nI c)), (2, .int (nI mo)), (3, .int (nI fa)), (6, .int y6), (0, .ref 185), (1, .int ce)], [.int (nI o), .int (nI c), .ref 185], gSh, M)) rfl ?_
            refine ok_call (mi := 162) (as := [.ref 185, .int (nI c), .int (nI o)]) (pc' := 124) (L' := [(5, .int (nI o)), (4, .int (nI c)), (2, .int (nI mo)), (3, .int (nI fa)), (6, .int y6), (0, .ref 185), (1, .int ce)]) (st' := []) (sh' := gSh) (M' := M) (i := .invokevirtual 271) (len := 3) rfl rfl ?_
            refine ((t3.deep (by omega))).mono ?_
            rintro v hp ⟨rfl, rfl⟩
            refine ok_seq 2 (σ' := (128, [(6, .int tz), (5, .int (nI o)), (4, .int (nI c)), (2, .int (nI mo)), (3, .int (nI fa)), (0, .ref 185), (1, .int ce)], [.int tz], gSh, M)) rfl ?_
            refine ok_if 180 rfl rfl ?_ ?_
            · intro ht
              simp only [pCP] at ht
              have ht : (tz).toInt < (0 : Int) := by omega
              refine ok_seq 2 (σ' := (82, [(5, .int ((nI o) + (Int32.ofInt 1))), (6, .int tz), (4, .int (nI c)), (2, .int (nI mo)), (3, .int (nI fa)), (0, .ref 185), (1, .int ce)], [], gSh, M)) rfl ?_
              rw [cI_1, hI_add o 1]
              exact ih (o + 1) mo (tz) M _ (by omega) hM hF hmo hK1 hK2 (Or.inr (Or.inl rfl))
            · intro ht
              simp only [pCP] at ht
              have ht : (tz).toInt ≥ (0 : Int) := by omega
              obtain ⟨tn, htn, etn⟩ := ty_nat (x := []) (hi := (N : Int)) ⟨tz, rfl, (show (0 : Int) ≤ tz.toInt by omega), t2⟩
              cases etn
              obtain ⟨pz, hpz⟩ := pt197 hT hM (k := tn) (by omega)
              refine ok_seq 2 (σ' := (135, [(6, .int (nI tn)), (5, .int (nI o)), (4, .int (nI c)), (2, .int (nI mo)), (3, .int (nI fa)), (0, .ref 185), (1, .int ce)], [M 185 31], gSh, M)) rfl ?_
              rw [h31]
              refine ok_seq 1 (σ' := (137, [(6, .int (nI tn)), (5, .int (nI o)), (4, .int (nI c)), (2, .int (nI mo)), (3, .int (nI fa)), (0, .ref 185), (1, .int ce)], [.int (nI tn), .ref 197], gSh, M)) rfl ?_
              refine ok_iald (n := 93600) (v := pz) rfl rfl (hI_in (by omega) (by decide)) (by rw [hI_nat (by omega)]; exact hpz) ?_
              refine ok_if 180 rfl rfl ?_ ?_
              · intro hp
                simp only [pCP] at hp
                have hp : (pz).toInt ≥ (0 : Int) := by omega
                refine ok_seq 2 (σ' := (82, [(5, .int ((nI o) + (Int32.ofInt 1))), (6, .int (nI tn)), (4, .int (nI c)), (2, .int (nI mo)), (3, .int (nI fa)), (0, .ref 185), (1, .int ce)], [], gSh, M)) rfl ?_
                rw [cI_1, hI_add o 1]
                exact ih (o + 1) mo (nI tn) M _ (by omega) hM hF hmo hK1 hK2 (Or.inr (Or.inl rfl))
              · intro hp
                simp only [pCP] at hp
                have hp : (pz).toInt < (0 : Int) := by omega
                refine ok_seq 5 (σ' := (151, [(6, .int (nI tn)), (5, .int (nI o)), (4, .int (nI c)), (2, .int (nI mo)), (3, .int (nI fa)), (0, .ref 185), (1, .int ce)], [M 185 3, .int (nI tn), .int ((Int16.ofInt 504).toInt32), .ref 185], gSh, M)) rfl ?_
                rw [h3]
                rw [(show (Int16.ofInt 504).toInt32 = nI 504 by decide)]
                refine ok_seq 1 (σ' := (152, [(6, .int (nI tn)), (5, .int (nI o)), (4, .int (nI c)), (2, .int (nI mo)), (3, .int (nI fa)), (0, .ref 185), (1, .int ce)], [.int (Int32.ofInt 1), .ref 186, .int (nI tn), .int (nI 504), .ref 185], gSh, M)) rfl ?_
                rw [cI_1]
                refine ok_iald (n := 280) (v := wz) rfl rfl (hI_in (by omega) (by decide)) (by rw [hI_nat (by omega)]; exact hwz) ?_
                refine ok_seq 2 (σ' := (157, [(6, .int (nI tn)), (5, .int (nI o)), (4, .int (nI c)), (2, .int (nI mo)), (3, .int (nI fa)), (0, .ref 185), (1, .int ce)], [M 185 3, .int wz, .int (nI tn), .int (nI 504), .ref 185], gSh, M)) rfl ?_
                rw [h3]
                refine ok_seq 1 (σ' := (158, [(6, .int (nI tn)), (5, .int (nI o)), (4, .int (nI c)), (2, .int (nI mo)), (3, .int (nI fa)), (0, .ref 185), (1, .int ce)], [.int (Int32.ofInt 0), .ref 186, .int wz, .int (nI tn), .int (nI 504), .ref 185], gSh, M)) rfl ?_
                rw [cI_0]
                refine ok_iald (n := 280) (v := az) rfl rfl (hI_in (by omega) (by decide)) (by rw [hI_nat (by omega)]; exact haz) ?_
                refine ok_call (mi := 217) (as := [.ref 185, .int (nI 504), .int (nI tn), .int wz, .int az]) (pc' := 162) (L' := [(6, .int (nI tn)), (5, .int (nI o)), (4, .int (nI c)), (2, .int (nI mo)), (3, .int (nI fa)), (0, .ref 185), (1, .int ce)]) (st' := []) (sh' := gSh) (M' := M) (i := .invokevirtual 302) (len := 3) rfl rfl ?_
                refine (((hH.2.2 [.ref 185, .int (nI 504), .int (nI tn), .int wz, .int az] M ⟨r185, ⟨nI 504, rfl, by decide, by decide⟩, sat_n (by omega) (by omega), sat_a _, sat_a _, trivial⟩ hM (hF.gr hg) (fun q hq => by cases hq)).deep (by omega))).mono ?_
                rintro v ⟨sh2, M2⟩ ⟨hsh, hM2, hv, hf2, -⟩
                have hsh : sh2 = gSh := hsh
                subst hsh
                dsimp only at hM2 hf2
                have e197 : M2 197 = M 197 := hf2.1 197 (by decide)
                have hF2 : LF M0 M2 := fun o k1 k2 k3 k4 k5 => (hf2.1 o (by simp only [List.mem_cons, List.not_mem_nil, or_false, not_or]; exact ⟨k1, k2, k3⟩)).trans (hF o k1 k2 k3 k4 k5)
                have hK1' : nNeg (M2 197) (N + 1) ≤ K0 := by rw [e197]; exact hK1
                have hK2' : mo = 1 → nNeg (M2 197) (N + 1) < K0 := fun hz => by rw [e197]; exact hK2 hz
                have h312 := ty_ref (ply hT hM2 0 rfl rfl)
                obtain ⟨rz, er⟩ : ∃ rz : Int32, v = some (.int rz) := by
                  cases v with
                  | none => exact hv.elim
                  | some v =>
                    obtain ⟨z, hz, -⟩ := ty_int hv.1
                    exact ⟨z, by rw [hz]⟩
                subst er
                refine ok_if 168 rfl rfl ?_ ?_
                · intro hr
                  simp only [pCP] at hr
                  have hr : (rz).toInt ≥ (0 : Int) := by omega
                  refine ok_seq 2 (σ' := (172, [(6, .int (nI tn)), (5, .int (nI o)), (4, .int (nI c)), (2, .int (nI mo)), (3, .int (nI fa)), (0, .ref 185), (1, .int ce)], [M2 185 31], gSh, M2)) rfl ?_
                  rw [h312]
                  refine ok_seq 4 (σ' := (177, [(6, .int (nI tn)), (5, .int (nI o)), (4, .int (nI c)), (2, .int (nI mo)), (3, .int (nI fa)), (0, .ref 185), (1, .int ce)], [.int ((nI fa) + (Int32.ofInt 1)), .int (nI tn), .ref 197], gSh, M2)) rfl ?_
                  rw [cI_1, hI_add fa 1]
                  refine ok_iast (n := 93600) rfl rfl (hI_in (by omega) (by decide)) ?_
                  rw [hI_nat (a := tn) (by omega)]
                  have hw : nNeg ((pUp M2 197 tn (.int (nI (fa + 1)))) 197) (N + 1) + 1 = nNeg (M 197) (N + 1) := nNeg_put (j := tn) (by omega) (by rw [hpz]; exact hp) (by rw [pUp_self, vI_n (by omega)]; omega) (fun k hk => by rw [pUp_other _ _ _ _ (fun z => hk z.2), e197])
                  refine ok_seq 4 (σ' := (82, [(5, .int ((nI o) + (Int32.ofInt 1))), (2, .int (Int32.ofInt 1)), (6, .int (nI tn)), (4, .int (nI c)), (3, .int (nI fa)), (0, .ref 185), (1, .int ce)], [], gSh, pUp M2 197 tn (.int (nI (fa + 1))))) rfl ?_
                  rw [cI_1, hI_add o 1]
                  exact ih (o + 1) 1 (nI tn) _ _ (by omega) (pu197 hT hM2 (by omega) _) hF2.up (by decide) (by omega) (fun _ => by omega) (Or.inr (Or.inr (Or.inl rfl)))
                · intro hr
                  simp only [pCP] at hr
                  have hr : (rz).toInt < (0 : Int) := by omega
                  refine ok_seq 3 (σ' := (82, [(5, .int ((nI o) + (Int32.ofInt 1))), (6, .int (nI tn)), (4, .int (nI c)), (2, .int (nI mo)), (3, .int (nI fa)), (0, .ref 185), (1, .int ce)], [], gSh, M2)) rfl ?_
                  rw [cI_1, hI_add o 1]
                  exact ih (o + 1) mo (nI tn) M2 _ (by omega) hM2 hF2 hmo hK1' hK2' (Or.inr (Or.inl rfl))
theorem le_mid {S : pScr} {d dL N cl K0 fa : Nat} {ce : Int32} {τ : fT} {M0 : pMem} (hT : pL τ N) (hH : LH τ S dL N) (hg : gR M0) (hfa : fa ≤ 40) (hcl : cl ≤ N + 1) (h2 : M0 185 2 = .int (nI cl)) (hto : ∀ (M : pMem) (mo : Nat) (y4 y5 y6 : Int32) (L2 : pLs), tyM (tOf τ) M → LF M0 M → mo < 2 → nNeg (M 197) (N + 1) ≤ K0 → (mo = 1 → nNeg (M 197) (N + 1) < K0) → (L2 = [(3, .int (nI (fa + 1))), (2, .int (nI mo)), (0, .ref 185), (1, .int ce)] ∨ L2 = [(3, .int (nI (fa + 1))), (4, .int y4), (2, .int (nI mo)), (0, .ref 185), (1, .int ce)] ∨ L2 = [(3, .int (nI (fa + 1))), (4, .int y4), (5, .int y5), (2, .int (nI mo)), (0, .ref 185), (1, .int ce)] ∨ L2 = [(3, .int (nI (fa + 1))), (4, .int y4), (5, .int y5), (6, .int y6), (2, .int (nI mo)), (0, .ref 185), (1, .int ce)] ∨ L2 = [(3, .int (nI (fa + 1))), (4, .int y4), (5, .int y5), (2, .int (nI mo)), (6, .int y6), (0, .ref 185), (1, .int ce)] ∨ L2 = [(3, .int (nI (fa + 1))), (4, .int y4), (2, .int (nI mo)), (5, .int y5), (0, .ref 185), (1, .int ce)] ∨ L2 = [(3, .int (nI (fa + 1))), (4, .int y4), (2, .int (nI mo)), (5, .int y5), (6, .int y6), (0, .ref 185), (1, .int ce)]) → leK S (d + dL + 2) (fun r hp => hp.1 = gSh ∧ (∃ z : Int32, r = some (.int z)) ∧ tyM (tOf τ) hp.2 ∧ LF M0 hp.2) (61, L2, [], gSh, M)) : ∀ (r c mo : Nat) (y5 y6 : Int32) (M : pMem) (L : pLs), c + r = cl → tyM (tOf τ) M → LF M0 M → mo < 2 → nNeg (M 197) (N + 1) ≤ K0 → (mo = 1 → nNeg (M 197) (N + 1) < K0) → (L = [(4, .int (nI c)), (2, .int (nI mo)), (3, .int (nI fa)), (0, .ref 185), (1, .int ce)] ∨ L = [(4, .int (nI c)), (5, .int y5), (2, .int (nI mo)), (3, .int (nI fa)), (0, .ref 185), (1, .int ce)] ∨ L = [(4, .int (nI c)), (5, .int y5), (6, .int y6), (2, .int (nI mo)), (3, .int (nI fa)), (0, .ref 185), (1, .int ce)] ∨ L = [(4, .int (nI c)), (5, .int y5), (2, .int (nI mo)), (6, .int y6), (3, .int (nI fa)), (0, .ref 185), (1, .int ce)] ∨ L = [(4, .int (nI c)), (2, .int (nI mo)), (3, .int (nI fa)), (5, .int y5), (0, .ref 185), (1, .int ce)] ∨ L = [(4, .int (nI c)), (2, .int (nI mo)), (3, .int (nI fa)), (5, .int y5), (6, .int y6), (0, .ref 185), (1, .int ce)] ∨ L = [(4, .int (nI c)), (5, .int y5), (2, .int (nI mo)), (3, .int (nI fa)), (6, .int y6), (0, .ref 185), (1, .int ce)]) → leK S (d + dL + 2) (fun r hp => hp.1 = gSh ∧ (∃ z : Int32, r = some (.int z)) ∧ tyM (tOf τ) hp.2 ∧ LF M0 hp.2) (70, L, [], gSh, M) := by
  have hN := hT.2.2.2.2.2.2
  intro r
  induction r with
  | zero =>
    intro c mo y5 y6 M L hc hM hF hmo hK1 hK2 hL
    have h2 : M 185 2 = .int (nI cl) := by rw [hF 185 (by decide) (by decide) (by decide) (by decide) (by decide)]; exact h2
    rcases hL with rfl | rfl | rfl | rfl | rfl | rfl | rfl
    · refine ok_seq 3 (σ' := (76, [(4, .int (nI c)), (2, .int (nI mo)), (3, .int (nI fa)), (0, .ref 185), (1, .int ce)], [M 185 2, .int (nI c)], gSh, M)) rfl ?_
      rw [h2]
      refine ok_icmp 192 rfl rfl (fun _ => ?_) (fun hz => absurd (by simp only [pCP]; rw [hI_int (a := c) (by omega), hI_int (a := cl) (by omega)]; omega) hz)
      refine ok_seq 2 (σ' := (61, [(3, .int ((nI fa) + (Int32.ofInt 1))), (4, .int (nI c)), (2, .int (nI mo)), (0, .ref 185), (1, .int ce)], [], gSh, M)) rfl ?_
      rw [cI_1, hI_add fa 1]
      exact hto M mo (nI c) y5 y6 _ hM hF hmo hK1 hK2 (Or.inr (Or.inl rfl))
    · refine ok_seq 3 (σ' := (76, [(4, .int (nI c)), (5, .int y5), (2, .int (nI mo)), (3, .int (nI fa)), (0, .ref 185), (1, .int ce)], [M 185 2, .int (nI c)], gSh, M)) rfl ?_
      rw [h2]
      refine ok_icmp 192 rfl rfl (fun _ => ?_) (fun hz => absurd (by simp only [pCP]; rw [hI_int (a := c) (by omega), hI_int (a := cl) (by omega)]; omega) hz)
      refine ok_seq 2 (σ' := (61, [(3, .int ((nI fa) + (Int32.ofInt 1))), (4, .int (nI c)), (5, .int y5), (2, .int (nI mo)), (0, .ref 185), (1, .int ce)], [], gSh, M)) rfl ?_
      rw [cI_1, hI_add fa 1]
      exact hto M mo (nI c) y5 y6 _ hM hF hmo hK1 hK2 (Or.inr (Or.inr (Or.inl rfl)))
    · refine ok_seq 3 (σ' := (76, [(4, .int (nI c)), (5, .int y5), (6, .int y6), (2, .int (nI mo)), (3, .int (nI fa)), (0, .ref 185), (1, .int ce)], [M 185 2, .int (nI c)], gSh, M)) rfl ?_
      rw [h2]
      refine ok_icmp 192 rfl rfl (fun _ => ?_) (fun hz => absurd (by simp only [pCP]; rw [hI_int (a := c) (by omega), hI_int (a := cl) (by omega)]; omega) hz)
      refine ok_seq 2 (σ' := (61, [(3, .int ((nI fa) + (Int32.ofInt 1))), (4, .int (nI c)), (5, .int y5), (6, .int y6), (2, .int (nI mo)), (0, .ref 185), (1, .int ce)], [], gSh, M)) rfl ?_
      rw [cI_1, hI_add fa 1]
      exact hto M mo (nI c) y5 y6 _ hM hF hmo hK1 hK2 (Or.inr (Or.inr (Or.inr (Or.inl rfl))))
    · refine ok_seq 3 (σ' := (76, [(4, .int (nI c)), (5, .int y5), (2, .int (nI mo)), (6, .int y6), (3, .int (nI fa)), (0, .ref 185), (1, .int ce)], [M 185 2, .int (nI c)], gSh, M)) rfl ?_
      rw [h2]
      refine ok_icmp 192 rfl rfl (fun _ => ?_) (fun hz => absurd (by simp only [pCP]; rw [hI_int (a := c) (by omega), hI_int (a := cl) (by omega)]; omega) hz)
      refine ok_seq 2 (σ' := (61, [(3, .int ((nI fa) + (Int32.ofInt 1))), (4, .int (nI c)), (5, .int y5), (2, .int (nI mo)), (6, .int y6), (0, .ref 185), (1, .int ce)], [], gSh, M)) rfl ?_
      rw [cI_1, hI_add fa 1]
      exact hto M mo (nI c) y5 y6 _ hM hF hmo hK1 hK2 (Or.inr (Or.inr (Or.inr (Or.inr (Or.inl rfl)))))
    · refine ok_seq 3 (σ' := (76, [(4, .int (nI c)), (2, .int (nI mo)), (3, .int (nI fa)), (5, .int y5), (0, .ref 185), (1, .int ce)], [M 185 2, .int (nI c)], gSh, M)) rfl ?_
      rw [h2]
      refine ok_icmp 192 rfl rfl (fun _ => ?_) (fun hz => absurd (by simp only [pCP]; rw [hI_int (a := c) (by omega), hI_int (a := cl) (by omega)]; omega) hz)
      refine ok_seq 2 (σ' := (61, [(3, .int ((nI fa) + (Int32.ofInt 1))), (4, .int (nI c)), (2, .int (nI mo)), (5, .int y5), (0, .ref 185), (1, .int ce)], [], gSh, M)) rfl ?_
      rw [cI_1, hI_add fa 1]
      exact hto M mo (nI c) y5 y6 _ hM hF hmo hK1 hK2 (Or.inr (Or.inr (Or.inr (Or.inr (Or.inr (Or.inl rfl))))))
    · refine ok_seq 3 (σ' := (76, [(4, .int (nI c)), (2, .int (nI mo)), (3, .int (nI fa)), (5, .int y5), (6, .int y6), (0, .ref 185), (1, .int ce)], [M 185 2, .int (nI c)], gSh, M)) rfl ?_
      rw [h2]
      refine ok_icmp 192 rfl rfl (fun _ => ?_) (fun hz => absurd (by simp only [pCP]; rw [hI_int (a := c) (by omega), hI_int (a := cl) (by omega)]; omega) hz)
      refine ok_seq 2 (σ' := (61, [(3, .int ((nI fa) + (Int32.ofInt 1))), (4, .int (nI c)), (2, .int (nI mo)), (5, .int y5), (6, .int y6), (0, .ref 185), (1, .int ce)], [], gSh, M)) rfl ?_
      rw [cI_1, hI_add fa 1]
      exact hto M mo (nI c) y5 y6 _ hM hF hmo hK1 hK2 (Or.inr (Or.inr (Or.inr (Or.inr (Or.inr (Or.inr (rfl)))))))
    · refine ok_seq 3 (σ' := (76, [(4, .int (nI c)), (5, .int y5), (2, .int (nI mo)), (3, .int (nI fa)), (6, .int y6), (0, .ref 185), (1, .int ce)], [M 185 2, .int (nI c)], gSh, M)) rfl ?_
      rw [h2]
      refine ok_icmp 192 rfl rfl (fun _ => ?_) (fun hz => absurd (by simp only [pCP]; rw [hI_int (a := c) (by omega), hI_int (a := cl) (by omega)]; omega) hz)
      refine ok_seq 2 (σ' := (61, [(3, .int ((nI fa) + (Int32.ofInt 1))), (4, .int (nI c)), (5, .int y5), (2, .int (nI mo)), (6, .int y6), (0, .ref 185), (1, .int ce)], [], gSh, M)) rfl ?_
      rw [cI_1, hI_add fa 1]
      exact hto M mo (nI c) y5 y6 _ hM hF hmo hK1 hK2 (Or.inr (Or.inr (Or.inr (Or.inr (Or.inl rfl)))))
  | succ r ih =>
    intro c mo y5 y6 M L hc hM hF hmo hK1 hK2 hL
    have h2' : M 185 2 = .int (nI cl) := by rw [hF 185 (by decide) (by decide) (by decide) (by decide) (by decide)]; exact h2
    have go := le_in (d := d) (cl := cl) (K0 := K0) (fa := fa) (c := c) (ce := ce) hT hH hg hfa (by omega) (fun M mo y5 y6 L2 a1 a2 a3 a4 a5 a6 => ih (c + 1) mo y5 y6 M L2 (by omega) a1 a2 a3 a4 a5 a6) 4 0 mo y6 M
    rcases hL with rfl | rfl | rfl | rfl | rfl | rfl | rfl
    · refine ok_seq 3 (σ' := (76, [(4, .int (nI c)), (2, .int (nI mo)), (3, .int (nI fa)), (0, .ref 185), (1, .int ce)], [M 185 2, .int (nI c)], gSh, M)) rfl ?_
      rw [h2']
      refine ok_icmp 192 rfl rfl (fun hz => absurd hz (by simp only [pCP]; rw [hI_int (a := c) (by omega), hI_int (a := cl) (by omega)]; omega)) (fun _ => ?_)
      refine ok_seq 2 (σ' := (82, [(5, .int (Int32.ofInt 0)), (4, .int (nI c)), (2, .int (nI mo)), (3, .int (nI fa)), (0, .ref 185), (1, .int ce)], [], gSh, M)) rfl ?_
      rw [cI_0]
      exact go _ rfl hM hF hmo hK1 hK2 (Or.inl rfl)
    · refine ok_seq 3 (σ' := (76, [(4, .int (nI c)), (5, .int y5), (2, .int (nI mo)), (3, .int (nI fa)), (0, .ref 185), (1, .int ce)], [M 185 2, .int (nI c)], gSh, M)) rfl ?_
      rw [h2']
      refine ok_icmp 192 rfl rfl (fun hz => absurd hz (by simp only [pCP]; rw [hI_int (a := c) (by omega), hI_int (a := cl) (by omega)]; omega)) (fun _ => ?_)
      refine ok_seq 2 (σ' := (82, [(5, .int (Int32.ofInt 0)), (4, .int (nI c)), (2, .int (nI mo)), (3, .int (nI fa)), (0, .ref 185), (1, .int ce)], [], gSh, M)) rfl ?_
      rw [cI_0]
      exact go _ rfl hM hF hmo hK1 hK2 (Or.inl rfl)
    · refine ok_seq 3 (σ' := (76, [(4, .int (nI c)), (5, .int y5), (6, .int y6), (2, .int (nI mo)), (3, .int (nI fa)), (0, .ref 185), (1, .int ce)], [M 185 2, .int (nI c)], gSh, M)) rfl ?_
      rw [h2']
      refine ok_icmp 192 rfl rfl (fun hz => absurd hz (by simp only [pCP]; rw [hI_int (a := c) (by omega), hI_int (a := cl) (by omega)]; omega)) (fun _ => ?_)
      refine ok_seq 2 (σ' := (82, [(5, .int (Int32.ofInt 0)), (4, .int (nI c)), (6, .int y6), (2, .int (nI mo)), (3, .int (nI fa)), (0, .ref 185), (1, .int ce)], [], gSh, M)) rfl ?_
      rw [cI_0]
      exact go _ rfl hM hF hmo hK1 hK2 (Or.inr (Or.inr (Or.inr (Or.inr (Or.inl rfl)))))
    · refine ok_seq 3 (σ' := (76, [(4, .int (nI c)), (5, .int y5), (2, .int (nI mo)), (6, .int y6), (3, .int (nI fa)), (0, .ref 185), (1, .int ce)], [M 185 2, .int (nI c)], gSh, M)) rfl ?_
      rw [h2']
      refine ok_icmp 192 rfl rfl (fun hz => absurd hz (by simp only [pCP]; rw [hI_int (a := c) (by omega), hI_int (a := cl) (by omega)]; omega)) (fun _ => ?_)
      refine ok_seq 2 (σ' := (82, [(5, .int (Int32.ofInt 0)), (4, .int (nI c)), (2, .int (nI mo)), (6, .int y6), (3, .int (nI fa)), (0, .ref 185), (1, .int ce)], [], gSh, M)) rfl ?_
      rw [cI_0]
      exact go _ rfl hM hF hmo hK1 hK2 (Or.inr (Or.inr (Or.inr (Or.inr (Or.inr (Or.inl rfl))))))
    · refine ok_seq 3 (σ' := (76, [(4, .int (nI c)), (2, .int (nI mo)), (3, .int (nI fa)), (5, .int y5), (0, .ref 185), (1, .int ce)], [M 185 2, .int (nI c)], gSh, M)) rfl ?_
      rw [h2']
      refine ok_icmp 192 rfl rfl (fun hz => absurd hz (by simp only [pCP]; rw [hI_int (a := c) (by omega), hI_int (a := cl) (by omega)]; omega)) (fun _ => ?_)
      refine ok_seq 2 (σ' := (82, [(5, .int (Int32.ofInt 0)), (4, .int (nI c)), (2, .int (nI mo)), (3, .int (nI fa)), (0, .ref 185), (1, .int ce)], [], gSh, M)) rfl ?_
      rw [cI_0]
      exact go _ rfl hM hF hmo hK1 hK2 (Or.inl rfl)
    · refine ok_seq 3 (σ' := (76, [(4, .int (nI c)), (2, .int (nI mo)), (3, .int (nI fa)), (5, .int y5), (6, .int y6), (0, .ref 185), (1, .int ce)], [M 185 2, .int (nI c)], gSh, M)) rfl ?_
      rw [h2']
      refine ok_icmp 192 rfl rfl (fun hz => absurd hz (by simp only [pCP]; rw [hI_int (a := c) (by omega), hI_int (a := cl) (by omega)]; omega)) (fun _ => ?_)
      refine ok_seq 2 (σ' := (82, [(5, .int (Int32.ofInt 0)), (4, .int (nI c)), (2, .int (nI mo)), (3, .int (nI fa)), (6, .int y6), (0, .ref 185), (1, .int ce)], [], gSh, M)) rfl ?_
      rw [cI_0]
      exact go _ rfl hM hF hmo hK1 hK2 (Or.inr (Or.inr (Or.inr (Or.inr (Or.inr (Or.inr (rfl)))))))
    · refine ok_seq 3 (σ' := (76, [(4, .int (nI c)), (5, .int y5), (2, .int (nI mo)), (3, .int (nI fa)), (6, .int y6), (0, .ref 185), (1, .int ce)], [M 185 2, .int (nI c)], gSh, M)) rfl ?_
      rw [h2']
      refine ok_icmp 192 rfl rfl (fun hz => absurd hz (by simp only [pCP]; rw [hI_int (a := c) (by omega), hI_int (a := cl) (by omega)]; omega)) (fun _ => ?_)
      refine ok_seq 2 (σ' := (82, [(5, .int (Int32.ofInt 0)), (4, .int (nI c)), (2, .int (nI mo)), (3, .int (nI fa)), (6, .int y6), (0, .ref 185), (1, .int ce)], [], gSh, M)) rfl ?_
      rw [cI_0]
      exact go _ rfl hM hF hmo hK1 hK2 (Or.inr (Or.inr (Or.inr (Or.inr (Or.inr (Or.inr (rfl)))))))
theorem le_out {S : pScr} {d dL N cl : Nat} {ce : Int32} {τ : fT} {M0 : pMem} (hT : pL τ N) (hH : LH τ S dL N) (hg : gR M0) (hce : ce.toInt ≤ (N : Int)) (hcl : cl ≤ N + 1) (h2 : M0 185 2 = .int (nI cl)) : ∀ (K fa mo : Nat) (y4 y5 y6 : Int32) (M : pMem) (L : pLs), nNeg (M 197) (N + 1) ≤ K → mo < 2 → (mo = 1 → fa + K ≤ 36) → tyM (tOf τ) M → LF M0 M → (L = [(3, .int (nI fa)), (2, .int (nI mo)), (0, .ref 185), (1, .int ce)] ∨ L = [(3, .int (nI fa)), (4, .int y4), (2, .int (nI mo)), (0, .ref 185), (1, .int ce)] ∨ L = [(3, .int (nI fa)), (4, .int y4), (5, .int y5), (2, .int (nI mo)), (0, .ref 185), (1, .int ce)] ∨ L = [(3, .int (nI fa)), (4, .int y4), (5, .int y5), (6, .int y6), (2, .int (nI mo)), (0, .ref 185), (1, .int ce)] ∨ L = [(3, .int (nI fa)), (4, .int y4), (5, .int y5), (2, .int (nI mo)), (6, .int y6), (0, .ref 185), (1, .int ce)] ∨ L = [(3, .int (nI fa)), (4, .int y4), (2, .int (nI mo)), (5, .int y5), (0, .ref 185), (1, .int ce)] ∨ L = [(3, .int (nI fa)), (4, .int y4), (2, .int (nI mo)), (5, .int y5), (6, .int y6), (0, .ref 185), (1, .int ce)]) → leK S (d + dL + 2) (fun r hp => hp.1 = gSh ∧ (∃ z : Int32, r = some (.int z)) ∧ tyM (tOf τ) hp.2 ∧ LF M0 hp.2) (61, L, [], gSh, M) := by
  have hN := hT.2.2.2.2.2.2
  intro K
  induction K using Nat.strongRecOn with
  | _ K ih =>
  intro fa mo y4 y5 y6 M L hK hmo hfa hM hF hL
  have fin : mo = 0 → ∀ L2 : pLs, L2 = L → leK S (d + dL + 2) (fun r hp => hp.1 = gSh ∧ (∃ z : Int32, r = some (.int z)) ∧ tyM (tOf τ) hp.2 ∧ LF M0 hp.2) (198, L2, [], gSh, M) := by
    intro hz L2 e
    subst e
    exact le_end (y2 := nI mo) (y3 := nI fa) (y4 := y4) (y5 := y5) (y6 := y6) (d := d) hT hM hF hce hL
  have go : mo = 1 → ∀ (L2 : pLs), (L2 = [(4, .int (nI 0)), (2, .int (nI 0)), (3, .int (nI fa)), (0, .ref 185), (1, .int ce)] ∨ L2 = [(4, .int (nI 0)), (5, .int y5), (2, .int (nI 0)), (3, .int (nI fa)), (0, .ref 185), (1, .int ce)] ∨ L2 = [(4, .int (nI 0)), (5, .int y5), (6, .int y6), (2, .int (nI 0)), (3, .int (nI fa)), (0, .ref 185), (1, .int ce)] ∨ L2 = [(4, .int (nI 0)), (5, .int y5), (2, .int (nI 0)), (6, .int y6), (3, .int (nI fa)), (0, .ref 185), (1, .int ce)] ∨ L2 = [(4, .int (nI 0)), (2, .int (nI 0)), (3, .int (nI fa)), (5, .int y5), (0, .ref 185), (1, .int ce)] ∨ L2 = [(4, .int (nI 0)), (2, .int (nI 0)), (3, .int (nI fa)), (5, .int y5), (6, .int y6), (0, .ref 185), (1, .int ce)] ∨ L2 = [(4, .int (nI 0)), (5, .int y5), (2, .int (nI 0)), (3, .int (nI fa)), (6, .int y6), (0, .ref 185), (1, .int ce)]) → leK S (d + dL + 2) (fun r hp => hp.1 = gSh ∧ (∃ z : Int32, r = some (.int z)) ∧ tyM (tOf τ) hp.2 ∧ LF M0 hp.2) (70, L2, [], gSh, M) := by
    intro hz L2 hL2
    have hfa := hfa hz
    refine le_mid (d := d) (cl := cl) (K0 := nNeg (M 197) (N + 1)) (fa := fa) (ce := ce) hT hH hg (by omega) hcl h2 ?_ cl 0 0 y5 y6 M L2 (by omega) hM hF (by decide) (Nat.le_refl _) (fun hz => by omega) hL2
    intro M2 mo2 y42 y52 y62 L3 a1 a2 a3 a4 a5 a6
    by_cases e : mo2 = 1
    · have a5 := a5 e
      exact ih (nNeg (M2 197) (N + 1)) (by omega) (fa + 1) mo2 y42 y52 y62 M2 L3 (Nat.le_refl _) a3 (fun _ => by omega) a1 a2 a6
    · have e0 : mo2 = 0 := by omega
      subst e0
      have fin := le_end (y2 := nI 0) (y3 := nI (fa + 1)) (y4 := y42) (y5 := y52) (y6 := y62) (S := S) (d := d) (dL := dL) (L := L3) hT a1 a2 hce a6
      rcases a6 with rfl | rfl | rfl | rfl | rfl | rfl | rfl
      · refine ok_seq 1 (σ' := (62, [(3, .int (nI (fa + 1))), (2, .int (nI 0)), (0, .ref 185), (1, .int ce)], [.int (nI 0)], gSh, M2)) rfl ?_
        exact ok_if 198 rfl rfl (fun _ => fin) (fun hz => absurd (by simp only [pCP]; decide) hz)
      · refine ok_seq 1 (σ' := (62, [(3, .int (nI (fa + 1))), (4, .int y42), (2, .int (nI 0)), (0, .ref 185), (1, .int ce)], [.int (nI 0)], gSh, M2)) rfl ?_
        exact ok_if 198 rfl rfl (fun _ => fin) (fun hz => absurd (by simp only [pCP]; decide) hz)
      · refine ok_seq 1 (σ' := (62, [(3, .int (nI (fa + 1))), (4, .int y42), (5, .int y52), (2, .int (nI 0)), (0, .ref 185), (1, .int ce)], [.int (nI 0)], gSh, M2)) rfl ?_
        exact ok_if 198 rfl rfl (fun _ => fin) (fun hz => absurd (by simp only [pCP]; decide) hz)
      · refine ok_seq 1 (σ' := (62, [(3, .int (nI (fa + 1))), (4, .int y42), (5, .int y52), (6, .int y62), (2, .int (nI 0)), (0, .ref 185), (1, .int ce)], [.int (nI 0)], gSh, M2)) rfl ?_
        exact ok_if 198 rfl rfl (fun _ => fin) (fun hz => absurd (by simp only [pCP]; decide) hz)
      · refine ok_seq 1 (σ' := (62, [(3, .int (nI (fa + 1))), (4, .int y42), (5, .int y52), (2, .int (nI 0)), (6, .int y62), (0, .ref 185), (1, .int ce)], [.int (nI 0)], gSh, M2)) rfl ?_
        exact ok_if 198 rfl rfl (fun _ => fin) (fun hz => absurd (by simp only [pCP]; decide) hz)
      · refine ok_seq 1 (σ' := (62, [(3, .int (nI (fa + 1))), (4, .int y42), (2, .int (nI 0)), (5, .int y52), (0, .ref 185), (1, .int ce)], [.int (nI 0)], gSh, M2)) rfl ?_
        exact ok_if 198 rfl rfl (fun _ => fin) (fun hz => absurd (by simp only [pCP]; decide) hz)
      · refine ok_seq 1 (σ' := (62, [(3, .int (nI (fa + 1))), (4, .int y42), (2, .int (nI 0)), (5, .int y52), (6, .int y62), (0, .ref 185), (1, .int ce)], [.int (nI 0)], gSh, M2)) rfl ?_
        exact ok_if 198 rfl rfl (fun _ => fin) (fun hz => absurd (by simp only [pCP]; decide) hz)
  rcases hL with rfl | rfl | rfl | rfl | rfl | rfl | rfl
  · refine ok_seq 1 (σ' := (62, [(3, .int (nI fa)), (2, .int (nI mo)), (0, .ref 185), (1, .int ce)], [.int (nI mo)], gSh, M)) rfl ?_
    refine ok_if 198 rfl rfl ?_ ?_
    · intro hm
      simp only [pCP] at hm
      rw [hI_int (a := mo) (by omega)] at hm
      have hm : ((mo : Nat) : Int) = (0 : Int) := by omega
      exact fin (by omega) _ rfl
    · intro hm
      simp only [pCP] at hm
      rw [hI_int (a := mo) (by omega)] at hm
      have hm : ((mo : Nat) : Int) ≠ (0 : Int) := by omega
      refine ok_seq 4 (σ' := (70, [(4, .int (Int32.ofInt 0)), (2, .int (Int32.ofInt 0)), (3, .int (nI fa)), (0, .ref 185), (1, .int ce)], [], gSh, M)) rfl ?_
      rw [cI_0]
      exact go (by omega) _ (Or.inl rfl)
  · refine ok_seq 1 (σ' := (62, [(3, .int (nI fa)), (4, .int y4), (2, .int (nI mo)), (0, .ref 185), (1, .int ce)], [.int (nI mo)], gSh, M)) rfl ?_
    refine ok_if 198 rfl rfl ?_ ?_
    · intro hm
      simp only [pCP] at hm
      rw [hI_int (a := mo) (by omega)] at hm
      have hm : ((mo : Nat) : Int) = (0 : Int) := by omega
      exact fin (by omega) _ rfl
    · intro hm
      simp only [pCP] at hm
      rw [hI_int (a := mo) (by omega)] at hm
      have hm : ((mo : Nat) : Int) ≠ (0 : Int) := by omega
      refine ok_seq 4 (σ' := (70, [(4, .int (Int32.ofInt 0)), (2, .int (Int32.ofInt 0)), (3, .int (nI fa)), (0, .ref 185), (1, .int ce)], [], gSh, M)) rfl ?_
      rw [cI_0]
      exact go (by omega) _ (Or.inl rfl)
  · refine ok_seq 1 (σ' := (62, [(3, .int (nI fa)), (4, .int y4), (5, .int y5), (2, .int (nI mo)), (0, .ref 185), (1, .int ce)], [.int (nI mo)], gSh, M)) rfl ?_
    refine ok_if 198 rfl rfl ?_ ?_
    · intro hm
      simp only [pCP] at hm
      rw [hI_int (a := mo) (by omega)] at hm
      have hm : ((mo : Nat) : Int) = (0 : Int) := by omega
      exact fin (by omega) _ rfl
    · intro hm
      simp only [pCP] at hm
      rw [hI_int (a := mo) (by omega)] at hm
      have hm : ((mo : Nat) : Int) ≠ (0 : Int) := by omega
      refine ok_seq 4 (σ' := (70, [(4, .int (Int32.ofInt 0)), (2, .int (Int32.ofInt 0)), (3, .int (nI fa)), (5, .int y5), (0, .ref 185), (1, .int ce)], [], gSh, M)) rfl ?_
      rw [cI_0]
      exact go (by omega) _ (Or.inr (Or.inr (Or.inr (Or.inr (Or.inl rfl)))))
  · refine ok_seq 1 (σ' := (62, [(3, .int (nI fa)), (4, .int y4), (5, .int y5), (6, .int y6), (2, .int (nI mo)), (0, .ref 185), (1, .int ce)], [.int (nI mo)], gSh, M)) rfl ?_
    refine ok_if 198 rfl rfl ?_ ?_
    · intro hm
      simp only [pCP] at hm
      rw [hI_int (a := mo) (by omega)] at hm
      have hm : ((mo : Nat) : Int) = (0 : Int) := by omega
      exact fin (by omega) _ rfl
    · intro hm
      simp only [pCP] at hm
      rw [hI_int (a := mo) (by omega)] at hm
      have hm : ((mo : Nat) : Int) ≠ (0 : Int) := by omega
      refine ok_seq 4 (σ' := (70, [(4, .int (Int32.ofInt 0)), (2, .int (Int32.ofInt 0)), (3, .int (nI fa)), (5, .int y5), (6, .int y6), (0, .ref 185), (1, .int ce)], [], gSh, M)) rfl ?_
      rw [cI_0]
      exact go (by omega) _ (Or.inr (Or.inr (Or.inr (Or.inr (Or.inr (Or.inl rfl))))))
  · refine ok_seq 1 (σ' := (62, [(3, .int (nI fa)), (4, .int y4), (5, .int y5), (2, .int (nI mo)), (6, .int y6), (0, .ref 185), (1, .int ce)], [.int (nI mo)], gSh, M)) rfl ?_
    refine ok_if 198 rfl rfl ?_ ?_
    · intro hm
      simp only [pCP] at hm
      rw [hI_int (a := mo) (by omega)] at hm
      have hm : ((mo : Nat) : Int) = (0 : Int) := by omega
      exact fin (by omega) _ rfl
    · intro hm
      simp only [pCP] at hm
      rw [hI_int (a := mo) (by omega)] at hm
      have hm : ((mo : Nat) : Int) ≠ (0 : Int) := by omega
      refine ok_seq 4 (σ' := (70, [(4, .int (Int32.ofInt 0)), (2, .int (Int32.ofInt 0)), (3, .int (nI fa)), (5, .int y5), (6, .int y6), (0, .ref 185), (1, .int ce)], [], gSh, M)) rfl ?_
      rw [cI_0]
      exact go (by omega) _ (Or.inr (Or.inr (Or.inr (Or.inr (Or.inr (Or.inl rfl))))))
  · refine ok_seq 1 (σ' := (62, [(3, .int (nI fa)), (4, .int y4), (2, .int (nI mo)), (5, .int y5), (0, .ref 185), (1, .int ce)], [.int (nI mo)], gSh, M)) rfl ?_
    refine ok_if 198 rfl rfl ?_ ?_
    · intro hm
      simp only [pCP] at hm
      rw [hI_int (a := mo) (by omega)] at hm
      have hm : ((mo : Nat) : Int) = (0 : Int) := by omega
      exact fin (by omega) _ rfl
    · intro hm
      simp only [pCP] at hm
      rw [hI_int (a := mo) (by omega)] at hm
      have hm : ((mo : Nat) : Int) ≠ (0 : Int) := by omega
      refine ok_seq 4 (σ' := (70, [(4, .int (Int32.ofInt 0)), (2, .int (Int32.ofInt 0)), (3, .int (nI fa)), (5, .int y5), (0, .ref 185), (1, .int ce)], [], gSh, M)) rfl ?_
      rw [cI_0]
      exact go (by omega) _ (Or.inr (Or.inr (Or.inr (Or.inr (Or.inl rfl)))))
  · refine ok_seq 1 (σ' := (62, [(3, .int (nI fa)), (4, .int y4), (2, .int (nI mo)), (5, .int y5), (6, .int y6), (0, .ref 185), (1, .int ce)], [.int (nI mo)], gSh, M)) rfl ?_
    refine ok_if 198 rfl rfl ?_ ?_
    · intro hm
      simp only [pCP] at hm
      rw [hI_int (a := mo) (by omega)] at hm
      have hm : ((mo : Nat) : Int) = (0 : Int) := by omega
      exact fin (by omega) _ rfl
    · intro hm
      simp only [pCP] at hm
      rw [hI_int (a := mo) (by omega)] at hm
      have hm : ((mo : Nat) : Int) ≠ (0 : Int) := by omega
      refine ok_seq 4 (σ' := (70, [(4, .int (Int32.ofInt 0)), (2, .int (Int32.ofInt 0)), (3, .int (nI fa)), (5, .int y5), (6, .int y6), (0, .ref 185), (1, .int ce)], [], gSh, M)) rfl ?_
      rw [cI_0]
      exact go (by omega) _ (Or.inr (Or.inr (Or.inr (Or.inr (Or.inr (Or.inl rfl))))))
theorem c_ofShip {S : pScr} {d : Nat} {M : pMem} (k w : Nat) : cOk S (d + 1) 170 [.int (nI k), .int (nI w)] (gSh, M) (fun r hp => r = some (.int (nI (20 + 5 * k + w))) ∧ hp = (gSh, M)) := by
  refine c_of_ok (Nat.le_of_ble_eq_true rfl) ?_
  refine ok_seq 7 (σ' := (8, [(0, .int (nI k)), (1, .int (nI w))], [.int ((((Int8.ofInt 20).toInt32) + ((Int32.ofInt 5) * (nI k))) + (nI w))], gSh, M)) rfl ?_
  rw [(show (Int8.ofInt 20).toInt32 = nI 20 by decide), cI_5, hI_mul 5 k, hI_add 20 (5 * k), hI_add (20 + (5 * k)) w]
  exact ok_ret (i := .ireturn) (len := 1) rfl rfl ⟨_, rfl, by simp, rfl⟩
theorem c_shipCell {S : pScr} {d sc : Nat} {M : pMem} (h3 : M 185 3 = .ref 186) (hsc : M 186 20 = .int (nI sc)) : cOk S (d + 2) 244 [.ref 185] (gSh, M) (fun r hp => r = some (.int (nI sc)) ∧ hp = (gSh, M)) := by
  refine c_of_ok (Nat.le_of_ble_eq_true rfl) ?_
  refine ok_seq 2 (σ' := (4, [(0, .ref 185)], [M 185 3], gSh, M)) rfl ?_
  rw [h3]
  refine ok_seq 2 (σ' := (6, [(0, .ref 185)], [.int (Int32.ofInt 0), .int (Int32.ofInt 0), .ref 186], gSh, M)) rfl ?_
  rw [cI_0]
  refine ok_call (mi := 170) (as := [.int (nI 0), .int (nI 0)]) (pc' := 9) (L' := [(0, .ref 185)]) (st' := [.ref 186]) (sh' := gSh) (M' := M) (i := .invokestatic 108) (len := 3) rfl rfl ?_
  refine (((c_ofShip (d := 0) 0 0).deep (by omega))).mono ?_
  rintro v hp ⟨rfl, rfl⟩
  refine ok_iald (n := 280) (v := nI sc) rfl rfl (hI_in (by omega) (by decide)) (by rw [hI_nat (by omega)]; exact hsc) ?_
  exact ok_ret (i := .ireturn) (len := 1) rfl rfl ⟨_, rfl, rfl, rfl⟩
theorem c_isCell {S : pScr} {d cl : Nat} {x : Int32} {M : pMem} (h2 : M 185 2 = .int (nI cl)) (hcl : 1 ≤ cl ∧ cl ≤ 36) : cOk S (d + 2) 159 [.ref 185, .int x] (gSh, M) (fun r hp => ((r = some (.int (nI 1)) ∧ x.toInt < (cl : Int)) ∨ r = some (.int (nI 0))) ∧ hp = (gSh, M)) := by
  refine c_of_ok (Nat.le_of_ble_eq_true rfl) ?_
  refine ok_seq 4 (σ' := (6, [(0, .ref 185), (1, .int x)], [M 185 2, .int (Int32.ofInt 0), .int x], gSh, M)) rfl ?_
  rw [h2]
  rw [cI_0]
  refine ok_seq 2 (σ' := (8, [(0, .ref 185), (1, .int x)], [.int ((nI cl) - (Int32.ofInt 1)), .int (nI 0), .int x], gSh, M)) rfl ?_
  rw [cI_1, hI_sub cl 1 (by omega)]
  refine ok_call (mi := 158) (as := [.int x, .int (nI 0), .int (nI (cl - 1))]) (pc' := 11) (L' := [(0, .ref 185), (1, .int x)]) (st' := []) (sh' := gSh) (M' := M) (i := .invokestatic 90) (len := 3) rfl rfl ?_
  refine (c_isIn).mono ?_
  rintro v hp ⟨hv, rfl⟩
  rcases hv with ⟨rfl, h1, h2⟩ | ⟨rfl, h1⟩
  · exact ok_ret (i := .ireturn) (len := 1) rfl rfl ⟨some (.int (nI 1)), pb1, Or.inl ⟨rfl, by rw [hI_int (a := cl - 1) (by omega)] at h2; omega⟩, rfl⟩
  · exact ok_ret (i := .ireturn) (len := 1) rfl rfl ⟨some (.int (nI 0)), pb0, Or.inr rfl, rfl⟩
theorem le_fill {S : pScr} {d dL N cl sc : Nat} {ce : Int32} {τ : fT} {M0 : pMem} (hT : pL τ N) (hH : LH τ S dL N) (hg : gR M0) (hce : ce.toInt ≤ (N : Int)) (hcl : cl ≤ N + 1) (h2 : M0 185 2 = .int (nI cl)) (hsc : M0 186 20 = .int (nI sc)) (hsc2 : sc ≤ N) : ∀ (r c : Nat) (M : pMem), c + r = cl → tyM (tOf τ) M → LF M0 M → leK S (d + dL + 2) (fun r hp => hp.1 = gSh ∧ (∃ z : Int32, r = some (.int z)) ∧ tyM (tOf τ) hp.2 ∧ LF M0 hp.2) (24, [(2, .int (nI c)), (0, .ref 185), (1, .int ce)], [], gSh, M) := by
  have hN := hT.2.2.2.2.2.2
  intro r
  induction r with
  | zero =>
    intro c M hc hM hF
    have h2' : M 185 2 = .int (nI cl) := by rw [hF 185 (by decide) (by decide) (by decide) (by decide) (by decide)]; exact h2
    refine ok_seq 3 (σ' := (29, [(2, .int (nI c)), (0, .ref 185), (1, .int ce)], [M 185 2, .int (nI c)], gSh, M)) rfl ?_
    rw [h2']
    refine ok_icmp 57 rfl rfl (fun _ => ?_) (fun hz => absurd (by simp only [pCP]; rw [hI_int (a := c) (by omega), hI_int (a := cl) (by omega)]; omega) hz)
    refine ok_seq 4 (σ' := (61, [(3, .int (Int32.ofInt 0)), (2, .int (Int32.ofInt 1)), (0, .ref 185), (1, .int ce)], [], gSh, M)) rfl ?_
    rw [cI_0, cI_1]
    exact le_out (d := d) hT hH hg hce hcl h2 (N + 1) 0 1 0 0 0 M _ nNeg_le (by decide) (fun _ => by omega) hM hF (Or.inl rfl)
  | succ r ih =>
    intro c M hc hM hF
    have h2' : M 185 2 = .int (nI cl) := by rw [hF 185 (by decide) (by decide) (by decide) (by decide) (by decide)]; exact h2
    have hsc : M 186 20 = .int (nI sc) := by rw [hF 186 (by decide) (by decide) (by decide) (by decide) (by decide)]; exact hsc
    have h31 := ty_ref (ply hT hM 0 rfl rfl)
    have h3 := ty_ref (pty hT.1 hM 0 rfl rfl)
    refine ok_seq 3 (σ' := (29, [(2, .int (nI c)), (0, .ref 185), (1, .int ce)], [M 185 2, .int (nI c)], gSh, M)) rfl ?_
    rw [h2']
    refine ok_icmp 57 rfl rfl (fun hz => absurd hz (by simp only [pCP]; rw [hI_int (a := c) (by omega), hI_int (a := cl) (by omega)]; omega)) (fun _ => ?_)
    refine ok_seq 2 (σ' := (36, [(2, .int (nI c)), (0, .ref 185), (1, .int ce)], [M 185 31], gSh, M)) rfl ?_
    rw [h31]
    refine ok_seq 3 (σ' := (39, [(2, .int (nI c)), (0, .ref 185), (1, .int ce)], [.ref 185, .int (nI c), .int (nI c), .ref 197], gSh, M)) rfl ?_
    refine ok_call (mi := 244) (as := [.ref 185]) (pc' := 42) (L' := [(2, .int (nI c)), (0, .ref 185), (1, .int ce)]) (st' := [.int (nI c), .int (nI c), .ref 197]) (sh' := gSh) (M' := M) (i := .invokevirtual 367) (len := 3) rfl rfl ?_
    refine (((c_shipCell (d := 0) h3 hsc).deep (by omega))).mono ?_
    rintro v hp ⟨rfl, rfl⟩
    refine ok_icmp 49 rfl rfl ?_ ?_
    · intro hs
      simp only [pCP] at hs
      rw [hI_int (a := c) (by omega), hI_int (a := sc) (by omega)] at hs
      have hs : ((c : Nat) : Int) ≠ ((sc : Nat) : Int) := by omega
      refine ok_seq 1 (σ' := (50, [(2, .int (nI c)), (0, .ref 185), (1, .int ce)], [.int mI, .int (nI c), .ref 197], gSh, M)) rfl ?_
      refine ok_iast (n := 93600) rfl rfl (hI_in (by omega) (by decide)) ?_
      rw [hI_nat (a := c) (by omega)]
      refine ok_seq 2 (σ' := (24, [(2, .int ((nI c) + (Int32.ofInt 1))), (0, .ref 185), (1, .int ce)], [], gSh, pUp M 197 c (.int mI))) rfl ?_
      rw [cI_1, hI_add c 1]
      exact ih (c + 1) _ (by omega) (pu197 hT hM (by omega) _) hF.up
    · intro hs
      simp only [pCP] at hs
      rw [hI_int (a := c) (by omega), hI_int (a := sc) (by omega)] at hs
      have hs : ((c : Nat) : Int) = ((sc : Nat) : Int) := by omega
      refine ok_seq 2 (σ' := (50, [(2, .int (nI c)), (0, .ref 185), (1, .int ce)], [.int (Int32.ofInt 0), .int (nI c), .ref 197], gSh, M)) rfl ?_
      rw [cI_0]
      refine ok_iast (n := 93600) rfl rfl (hI_in (by omega) (by decide)) ?_
      rw [hI_nat (a := c) (by omega)]
      refine ok_seq 2 (σ' := (24, [(2, .int ((nI c) + (Int32.ofInt 1))), (0, .ref 185), (1, .int ce)], [], gSh, pUp M 197 c (.int (nI 0)))) rfl ?_
      rw [cI_1, hI_add c 1]
      exact ih (c + 1) _ (by omega) (pu197 hT hM (by omega) _) hF.up
theorem h_leads {S : pScr} {dL N : Nat} {τ : fT} (hT : pL τ N) (hH : LH τ S dL N) : cnOk τ S (dL + 3) 270 ([(1, 0, 0, [185]), eA], [eA], some [191, 192, 193, 194, 197], [], []) := by
  intro vs M hvs hM hg hf
  match vs, hvs with
  | [v0, v1], ⟨k0, ⟨ce, k1, _⟩, _⟩ =>
    have k0 := ty_ref k0
    have k1 : v1 = .int ce := k1
    subst k0 k1
    have post : ∀ (r : Option Value) (hp : pHp), (fun r hp => hp.1 = gSh ∧ (∃ z : Int32, r = some (.int z)) ∧ tyM (tOf τ) hp.2 ∧ LF M hp.2) r hp → (hp.1 = gSh ∧ tyM (tOf τ) hp.2 ∧ satS [eA] r.toList ∧ frm (some [191, 192, 193, 194, 197]) M hp.2 ∧ fctM [] hp.2) := by
      rintro r hp ⟨q1, ⟨z, rfl⟩, q3, q4⟩
      exact ⟨q1, q3, ⟨sat_a z, trivial⟩, ⟨fun o ho => q4 o (fun hz => ho (by rw [hz]; decide)) (fun hz => ho (by rw [hz]; decide)) (fun hz => ho (by rw [hz]; decide)) (fun hz => ho (by rw [hz]; decide)) (fun hz => ho (by rw [hz]; decide)), q4 188 (by decide) (by decide) (by decide) (by decide) (by decide), q4 187 (by decide) (by decide) (by decide) (by decide) (by decide), fun k _ => by rw [q4 186 (by decide) (by decide) (by decide) (by decide) (by decide)]⟩, fun q hq => by cases hq⟩
    refine cOk.mono ?_ post
    refine c_of_ok (Nat.le_of_ble_eq_true rfl) ?_
    obtain ⟨cl, hcl, h2, hcl1⟩ := pl_cells hT hM
    obtain ⟨sc, hsc2, hsc⟩ := pl_ship hT hM
    have hN := hT.2.2.2.2.2.2
    have go : ce.toInt ≤ (N : Int) → leK S (dL + 2) (fun r hp => hp.1 = gSh ∧ (∃ z : Int32, r = some (.int z)) ∧ tyM (tOf τ) hp.2 ∧ LF M hp.2) (15, [(0, .ref 185), (1, .int ce)], [], gSh, M) := by
      intro hce
      refine ok_seq 2 (σ' := (19, [(0, .ref 185), (1, .int ce)], [.int ((Int16.ofInt 504).toInt32), .ref 185], gSh, M)) rfl ?_
      rw [(show (Int16.ofInt 504).toInt32 = nI 504 by decide)]
      refine ok_call (mi := 223) (as := [.ref 185, .int (nI 504)]) (pc' := 22) (L' := [(0, .ref 185), (1, .int ce)]) (st' := []) (sh' := gSh) (M' := M) (i := .invokevirtual 316) (len := 3) rfl rfl ?_
      refine (((hH.1 [.ref 185, .int (nI 504)] M ⟨r185, ⟨nI 504, rfl, by decide, by decide⟩, trivial⟩ hM hg (fun q hq => by cases hq)).deep (by omega))).mono ?_
      rintro v ⟨sh2, M2⟩ ⟨hsh, hM2, hv, hf2, -⟩
      have hsh : sh2 = gSh := hsh
      subst hsh
      dsimp only at hM2 hf2
      have ev : v = none := by
        cases v with
        | none => rfl
        | some v => exact hv.elim
      subst ev
      have hF2 : LF M M2 := fun o k1 k2 k3 k4 k5 => hf2.1 o (by simp only [List.mem_cons, List.not_mem_nil, or_false]; exact k4)
      refine ok_seq 2 (σ' := (24, [(2, .int (Int32.ofInt 0)), (0, .ref 185), (1, .int ce)], [], gSh, M2)) rfl ?_
      rw [cI_0]
      have hfin := le_fill (S := S) (d := 0) (ce := ce) hT hH hg hce hcl h2 hsc hsc2 cl 0 M2 (by omega) hM2 hF2
      rw [Nat.zero_add] at hfin
      exact hfin
    refine ok_seq 2 (σ' := (2, [(0, .ref 185), (1, .int ce)], [.int mI, .int ce], gSh, M)) rfl ?_
    refine ok_icmp 15 rfl rfl (fun hz => go (by simp only [pCP] at hz; rw [mI_int] at hz; omega)) (fun _ => ?_)
    refine ok_seq 2 (σ' := (7, [(0, .ref 185), (1, .int ce)], [.int ce, .ref 185], gSh, M)) rfl ?_
    refine ok_call (mi := 159) (as := [.ref 185, .int ce]) (pc' := 10) (L' := [(0, .ref 185), (1, .int ce)]) (st' := []) (sh' := gSh) (M' := M) (i := .invokevirtual 98) (len := 3) rfl rfl ?_
    refine (((c_isCell (d := 0) h2 (by omega)).deep (by omega))).mono ?_
    rintro v hp ⟨hv, rfl⟩
    rcases hv with ⟨rfl, h9⟩ | rfl
    · refine ok_if 15 rfl rfl (fun _ => ?_) (fun hz => absurd (by simp only [pCP]; rw [hI_int (a := 1) (by omega)]; omega) hz)
      exact go (by omega)
    · refine ok_if 15 rfl rfl (fun hz => absurd hz (by simp only [pCP]; rw [hI_int (a := 0) (by omega)]; omega)) (fun _ => ?_)
      refine ok_seq 1 (σ' := (14, [(0, .ref 185), (1, .int ce)], [.int mI], gSh, M)) rfl ?_
      exact ok_ret (i := .ireturn) (len := 1) rfl rfl ⟨_, rfl, rfl, ⟨_, rfl⟩, hM, fun _ _ _ _ _ _ => rfl⟩

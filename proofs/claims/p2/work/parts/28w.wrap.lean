/-! sums that may wrap around: any number then -/
abbrev aAny : aE := (0, Int.negSucc 2147483647, Int.ofNat 2147483647, [])
theorem satAny (z : Int32) : satE aAny (.int z) := ⟨z, rfl, (i32_rng z).1, (i32_rng z).2⟩
noncomputable def fWrM (w : aW) (k : aV → aW → Bool) : Bool := fMkN w.1 aAny (fun env v => k v (env, w.2))
noncomputable def fWrp (w : aW) (a : aV) (k : aV → aW → Bool) : Bool := bI (Nat.beq a.1 0) (bI (fR a.2) (k a w) (fWrM w k)) (fNth w.1 a.1 (fun e => bI (fR (iAdd e.2.1 a.2)) (bI (fR (iAdd e.2.2.1 a.2)) (k a w) (fWrM w k)) (fWrM w k)))
theorem fWrp_ok {τ : fT} {w : aW} {ρ : Nat → Value} {a : aV} {z : Int32} {k : aV → aW → Bool} {sh : pSh} {M : pMem} (hW : aWor (tOf τ) gSh w ρ sh M) (ha : a.1 < w.1.length) (hz : aval ρ a = .int z) (h : fWrp w a k = true) : ∃ (b : aV) (w' : aW) (ρ' : Nat → Value), k b w' = true ∧ aSub w.1.length ρ ρ' ∧ w.1.length ≤ w'.1.length ∧ aWor (tOf τ) gSh w' ρ' sh M ∧ b.1 < w'.1.length ∧ aval ρ' b = .int z := by
  have keep : k a w = true → ∃ (b : aV) (w' : aW) (ρ' : Nat → Value), k b w' = true ∧ aSub w.1.length ρ ρ' ∧ w.1.length ≤ w'.1.length ∧ aWor (tOf τ) gSh w' ρ' sh M ∧ b.1 < w'.1.length ∧ aval ρ' b = .int z := fun hk => ⟨a, w, ρ, hk, aSub.rf _ _, Nat.le_refl _, hW, ha, hz⟩
  have mk : fWrM w k = true → ∃ (b : aV) (w' : aW) (ρ' : Nat → Value), k b w' = true ∧ aSub w.1.length ρ ρ' ∧ w.1.length ≤ w'.1.length ∧ aWor (tOf τ) gSh w' ρ' sh M ∧ b.1 < w'.1.length ∧ aval ρ' b = .int z := by
    intro hk
    have hk : k (fLen w.1, 0) (fSnoc w.1 aAny, w.2) = true := hk
    rw [fSnoc_eq, fLen_eq] at hk
    obtain ⟨ρ', r1, r2, r3, r4, r5⟩ := mkE_ok (e := aAny) (v := .int z) hW.1 (satAny z)
    have e : mkE w.1 aAny = (w.1 ++ [aAny], (w.1.length, 0)) := rfl
    rw [e] at r2 r3 r4 r5
    exact ⟨_, _, ρ', hk, r1, r5, aWor_env hW r1 r2 r5, r3, r4⟩
  rcases bI_if h with ⟨-, h⟩ | ⟨-, h⟩
  · rcases bI_if h with ⟨-, h⟩ | ⟨-, h⟩
    · exact keep h
    · exact mk h
  · obtain ⟨e, -, h⟩ := fNth_ok h
    rcases bI_if h with ⟨-, h⟩ | ⟨-, h⟩
    · rcases bI_if h with ⟨-, h⟩ | ⟨-, h⟩
      · exact keep h
      · exact mk h
    · exact mk h
section FSW
variable {o nL pc pc' : Nat} {ini : Bool}
noncomputable def fcIncW (j : Nat) (n : Int) (pc' : Nat) : fC := fun _ _ A B w k => fLd A j (fun a => bI (fIsI w.1 a) (fWrp w (a.1, iAdd a.2 n) (fun b w' => k pc' ((j, b) :: fS1r w'.1 j A) B w')) false)
theorem fs_iincW {j : Nat} {n c : Int} (hp : pc + 3 = pc') (hc : c = n) (hj : Nat.ble (j + 1) nL = true) : fS o ini nL (.iinc j n) 3 pc (fcIncW j c pc') := by
  subst hc
  have hj : j < nL := Nat.le_of_ble_eq_true hj
  intro τ X ht A B w k hk S ρ L st sh M hS hG
  subst hp
  obtain ⟨a, h1, h2⟩ := fLd_ok hk
  obtain ⟨h3, h4⟩ := bI_and h2
  obtain ⟨g1, g2⟩ := hG.2.1 _ h1
  obtain ⟨hne, z, hz⟩ := fIsI_ok hG.2.2.2.1 h3
  have g2 : pLd L j = some (.int z) := by rw [← hz]; exact g2
  rw [iAdd_eq] at h4
  obtain ⟨b, w', ρ', k1, k2, k3, k4, k5, k6⟩ := fWrp_ok hG.2.2.2 (a := (a.1, a.2 + c)) g1 (aval_off hne hz c) h4
  refine ⟨(pc + 3, pS1 L j (.int (z + Int32.ofInt c)), st, sh, M), ?_, fn_of k1 k2 k3 (fS1_ok k4.1 (hG.2.1.ext k2 k3) k5 k6) (hG.2.2.1.ext k2 k3) k4⟩
  unfold pstep
  simp only [g2, hj, if_true]
  rfl
noncomputable def fAddW (pc' : Nat) (A : aL) (w : aW) (k : fK) (y x : aV) (r : List aV) : Bool := bI (Nat.beq y.1 0) (bI (fIsI w.1 x) (fWrp w (x.1, iAdd x.2 y.2) (fun b w' => k pc' A (b :: r) w')) false) (bI (Nat.beq x.1 0) (bI (fIsI w.1 y) (fWrp w (y.1, iAdd y.2 x.2) (fun b w' => k pc' A (b :: r) w')) false) (fBinS (aBin w.1 0 x y) pc' A r w k))
noncomputable def fcAddW (pc' : Nat) : fC := fun _ _ A B w k => fTwo B (fAddW pc' A w k)
theorem fs_addW (hp : pc + 1 = pc') : fS o ini nL .iadd 1 pc (fcAddW pc') := by
  intro τ X ht A B w k hk S ρ L st sh M hS hG
  subst hp
  obtain ⟨y, x, r, rfl, h⟩ := fTwo_ok hk
  obtain ⟨st1, hst, hr1, hy⟩ := aStk.cons hG.2.2.1
  obtain ⟨st2, hst2, hr2, hx⟩ := aStk.cons hr1
  have hst : st = aval ρ y :: aval ρ x :: st2 := by rw [← hst2]; exact hst
  subst hst
  have fin : ∀ zx zy, aval ρ x = .int zx → aval ρ y = .int zy → pstep S o ini nL .iadd 1 pc L (aval ρ y :: aval ρ x :: st2) sh M = some (.inl (pc + 1, L, .int (zx + zy) :: st2, sh, M)) := by
    intro zx zy e1 e2
    rw [e1, e2]
    rfl
  rcases bI_if h with ⟨h1, h2⟩ | ⟨h1, h2⟩
  · obtain ⟨h3, h4⟩ := bI_and h2
    obtain ⟨hne, z, hz⟩ := fIsI_ok hG.2.2.2.1 h3
    have ey := aval0 hG.2.2.2.1.2.1 h1
    rw [iAdd_eq] at h4
    obtain ⟨b, w', ρ', k1, k2, k3, k4, k5, k6⟩ := fWrp_ok hG.2.2.2 (a := (x.1, x.2 + y.2)) hx (aval_off hne hz _) h4
    exact ⟨_, fin _ _ hz ey, fn_of k1 k2 k3 (hG.2.1.ext k2 k3) ((hr2.ext k2 k3).push k5 k6) k4⟩
  · rcases bI_if h2 with ⟨h3, h4⟩ | ⟨h3, h4⟩
    · obtain ⟨h5, h6⟩ := bI_and h4
      obtain ⟨hne, z, hz⟩ := fIsI_ok hG.2.2.2.1 h5
      have ex := aval0 hG.2.2.2.1.2.1 h3
      rw [iAdd_eq] at h6
      obtain ⟨b, w', ρ', k1, k2, k3, k4, k5, k6⟩ := fWrp_ok hG.2.2.2 (a := (y.1, y.2 + x.2)) hy (aval_off hne hz _) h6
      refine ⟨_, fin _ _ ex hz, fn_of k1 k2 k3 (hG.2.1.ext k2 k3) ((hr2.ext k2 k3).push k5 ?_) k4⟩
      rw [k6, Int32.add_comm]
    · obtain ⟨zx, zy, e1, e2, e3⟩ := fBinS_ok hG.2.1 hr2 hG.2.2.2 h4
      exact ⟨_, fin _ _ e1 e2, e3⟩
noncomputable def fSubW (pc' : Nat) (A : aL) (w : aW) (k : fK) (y x : aV) (r : List aV) : Bool := bI (Nat.beq y.1 0) (bI (fIsI w.1 x) (fWrp w (x.1, iAdd x.2 (iNeg y.2)) (fun b w' => k pc' A (b :: r) w')) false) (fBinS (aBin w.1 1 x y) pc' A r w k)
noncomputable def fcSubW (pc' : Nat) : fC := fun _ _ A B w k => fTwo B (fSubW pc' A w k)
theorem fs_subW (hp : pc + 1 = pc') : fS o ini nL .isub 1 pc (fcSubW pc') := by
  intro τ X ht A B w k hk S ρ L st sh M hS hG
  subst hp
  obtain ⟨y, x, r, rfl, h⟩ := fTwo_ok hk
  obtain ⟨st1, hst, hr1, hy⟩ := aStk.cons hG.2.2.1
  obtain ⟨st2, hst2, hr2, hx⟩ := aStk.cons hr1
  have hst : st = aval ρ y :: aval ρ x :: st2 := by rw [← hst2]; exact hst
  subst hst
  have fin : ∀ zx zy, aval ρ x = .int zx → aval ρ y = .int zy → pstep S o ini nL .isub 1 pc L (aval ρ y :: aval ρ x :: st2) sh M = some (.inl (pc + 1, L, .int (zx - zy) :: st2, sh, M)) := by
    intro zx zy e1 e2
    rw [e1, e2]
    rfl
  rcases bI_if h with ⟨h1, h2⟩ | ⟨h1, h2⟩
  · obtain ⟨h3, h4⟩ := bI_and h2
    obtain ⟨hne, z, hz⟩ := fIsI_ok hG.2.2.2.1 h3
    have ey := aval0 hG.2.2.2.1.2.1 h1
    rw [iAdd_eq, iNeg_eq] at h4
    obtain ⟨b, w', ρ', k1, k2, k3, k4, k5, k6⟩ := fWrp_ok hG.2.2.2 (a := (x.1, x.2 + -y.2)) hx (aval_off hne hz _) h4
    refine ⟨_, fin _ _ hz ey, fn_of k1 k2 k3 (hG.2.1.ext k2 k3) ((hr2.ext k2 k3).push k5 ?_) k4⟩
    rw [k6, Int32.sub_eq_add_neg, ← Int32.ofInt_neg]
  · obtain ⟨zx, zy, e1, e2, e3⟩ := fBinS_ok hG.2.1 hr2 hG.2.2.2 h2
    exact ⟨_, fin _ _ e1 e2, e3⟩
end FSW

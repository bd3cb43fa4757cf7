/-! contracts by parting an argument's, or a place's, range -/
theorem satS_mid : ∀ {es1 es2 : List aE} {e : aE} {vs : List Value}, satS (es1 ++ e :: es2) vs → ∃ vs1 v vs2, vs = vs1 ++ v :: vs2 ∧ satS es1 vs1 ∧ satE e v ∧ satS es2 vs2
  | [], es2, e, [], h => h.elim
  | [], es2, e, v :: vs, h => ⟨[], v, vs, rfl, trivial, h.1, h.2⟩
  | e0 :: es1, es2, e, [], h => h.elim
  | e0 :: es1, es2, e, v0 :: vs, h => by
    obtain ⟨vs1, v, vs2, h1, h2, h3, h4⟩ := satS_mid (es1 := es1) (es2 := es2) (e := e) (vs := vs) h.2
    exact ⟨v0 :: vs1, v, vs2, by rw [h1]; rfl, ⟨h.1, h2⟩, h3, h4⟩
theorem con_arg {τ : fT} {S : pScr} {d m : Nat} {es1 es2 ans : List aE} {lo hi : Int} {x : List Nat} {md : fMd} {pre post : fFs} (h : ∀ v, lo ≤ v → v ≤ hi → cnOk τ S d m (es1 ++ (0, v, v, []) :: es2, ans, md, pre, post)) : cnOk τ S d m (es1 ++ (0, lo, hi, x) :: es2, ans, md, pre, post) := by
  intro vs M hvs hM hg hf
  obtain ⟨vs1, v, vs2, rfl, h2, ⟨z, hz, z1, z2⟩, h4⟩ := satS_mid hvs
  exact h z.toInt z1 z2 (vs1 ++ v :: vs2) M (satS_app h2 ⟨⟨z, hz, Int.le_refl _, Int.le_refl _⟩, h4⟩) hM hg hf
theorem con_fact {τ : fT} {S : pScr} {d m o k : Nat} {es ans : List aE} {lo hi : Int} {x : List Nat} {md : fMd} {pre post : fFs} (ht : tyAt (tOf τ) o k = some (0, lo, hi, x)) (ho : Nat.ble (o + 1) 205 = true) (h : ∀ v, lo ≤ v → v ≤ hi → cnOk τ S d m (es, ans, md, ((o, k), v) :: pre, post)) : cnOk τ S d m (es, ans, md, pre, post) := by
  intro vs M hvs hM hg hf
  obtain ⟨z, hz, z1, z2⟩ := hM o k _ (Nat.le_of_ble_eq_true ho) ht
  refine h z.toInt z1 z2 vs M hvs hM hg (fun q hq => ?_)
  rcases List.mem_cons.mp hq with rfl | hq
  · show M o k = .int (Int32.ofInt z.toInt)
    rw [hz, Int32.ofInt_toInt]
  · exact hf q hq
/-- all contracts of a row of numbers -/
theorem con_range {τ : fT} {Kt : Nat → List fCn} {dK f d m n cnt : Nat} {lo : Int} {cf : Int → fCn} {cs : List fCu} {sp : List (Nat × Nat × Int)} {S : pScr} (ht : fTau τ) (hK : ∀ m, ∀ c ∈ Kt m, cnOk τ S dK m c) (hm : Nat.ble (m + 1) nM = true) (h : fSpl cnt lo (fun v => conChk τ Kt dK f d m (cf v) cs sp n (retK τ (cf v))) = true) : ∀ v, lo ≤ v → v < lo + (cnt : Int) → cnOk τ S (d + 1) m (cf v) := fun v h1 h2 => con_ok ht hK hm (fSpl_ok h v h1 h2)

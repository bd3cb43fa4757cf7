/-! the law's start -/
/-- the script's values -/
def sv (xs : Nat → Int32) (n : Nat) : List Value := (List.range n).map (fun k => .int (xs k))
theorem sv_get {xs : Nat → Int32} {n k : Nat} (h : k < n) : (sv xs n)[k]? = some (.int (xs k)) := by
  unfold sv
  rw [List.getElem?_map, List.getElem?_range h]
  rfl
theorem sv_x {L : Nat} {xs : Nat → Int32} {ps : List aE} (hl : ps.length = L) (w : aW) (ρ : Nat → Value) (h : ∀ k v, (sv xs L)[k]? = some v → ρ (2 + k) = v) (hw : 2 + ps.length ≤ w.1.length) : xOk (some (L, 2), []) (some (L, xs)) w ρ :=
  ⟨⟨xs, rfl, Nat.le_refl _, by rw [← hl]; exact hw, fun k hk => h k _ (sv_get hk)⟩, fun q hq => by cases hq⟩
theorem sv_any {z : Int32} : satE (0, Int.negSucc 2147483647, Int.ofNat 2147483647, []) (.int z) := ⟨z, rfl, (i32_rng z).1, (i32_rng z).2⟩
theorem sv_in {z : Int32} {a b : Int} (h1 : a ≤ z.toInt) (h2 : z.toInt ≤ b) : satE (0, a, b, []) (.int z) := ⟨z, rfl, h1, h2⟩
/-- a run of a part of the law, from what is known here to what is known there -/
theorem lOk_to {τ : fT} {X0 : fX} {f d pc n pc1 n1 : Nat} {ps : List aE} {pv : List Value} {G G1 : List (Nat × aE)} {Bs Bs1 : List aE} {br br1 : List (Nat × Nat)} {S : pScr} {σ : pSt} (ht : fTau τ) (hp : satS ps pv)
    (hx : ∀ (w : aW) (ρ : Nat → Value), (∀ k v, pv[k]? = some v → ρ (2 + k) = v) → 2 + ps.length ≤ w.1.length → xOk X0 S w ρ) (h : lRun τ X0 (fun _ => []) 0 f d (stp1 pc1 (gChk G1 Bs1 br1 n1)) pc ps G Bs [] br n = true) (hσ : gSat τ pc G Bs [] br n σ) (hto : ∀ σ', gSat τ pc1 G1 Bs1 [] br1 n1 σ' → lOk S d σ') : lOk S d σ := by
  refine law_run ht (fun m c hc => by cases hc) hp hx h ?_ hσ
  intro pc' k hk A B w h9 ρ σ' hc hG
  obtain ⟨rfl, rfl⟩ := stp1_ok hk
  exact hto σ' (gChk_ok hc hG)
theorem x_none {S : pScr} {pv : List Value} {ps : List aE} (w : aW) (ρ : Nat → Value) (_ : ∀ k v, pv[k]? = some v → ρ (2 + k) = v) (_ : 2 + ps.length ≤ w.1.length) : xOk (none, []) S w ρ := ⟨trivial, fun q hq => by cases hq⟩
theorem gSat0 {τ : fT} : gSat τ 0 [(0, (3, 0, 0, []))] [] [] [] 0 (0, [(0, .retAddr 1)], [], [], fun _ _ => .null) := by
  refine ⟨rfl, fun q hq => ?_, trivial, rfl, Nat.zero_le _, fun o k e ho => by omega, fun q hq => by cases hq⟩
  rw [List.mem_singleton.mp hq]
  exact ⟨.retAddr 1, rfl, rfl⟩
/-- a fresh board is one of the wider kinds -/
theorem gSat_le {τ τ' : fT} {pc : Nat} {G : List (Nat × aE)} {fs : fFs} {σ : pSt} (ht : fTau τ) (ht' : fTau τ') (h : fTauLe τ τ' 205 = true) (hf : fTyF τ fs = true) (hσ : gSat τ pc G [] [] [] 205 σ) : gSat τ' pc G [] fs [] 205 σ := by
  obtain ⟨h1, h2, h3, h4, h5, h6, -⟩ := hσ
  have hM : tyM (tOf τ) σ.2.2.2.2 := fun o k e ho he => h6 o k e ho List.not_mem_nil he
  have hM' := tyM_le ht ht' h hM
  exact ⟨h1, h2, h3, h4, h5, fun o k e ho _ he => hM' o k e ho he, fTyF_ok ht hM hf⟩
theorem tab_up {τ : fT} {S : pScr} {d d' : Nat} {l : List (Nat × fCn)} (h : tabOk τ S d l) (hd : d ≤ d') : tabOk τ S d' l := fun m c hc => (h m c hc).deep hd

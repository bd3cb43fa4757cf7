/-! the law's start -/
def gA : List (Nat × aE) := [(0, (3, 0, 0, []))]
def gB : List (Nat × aE) := [(0, (3, 0, 0, [])), (1, (1, 0, 0, [0]))]
def gC : List (Nat × aE) := [(0, (3, 0, 0, [])), (1, (1, 0, 0, [0])), (2, (1, 0, 0, [185]))]
def br14 : List (Nat × Nat) := (List.range 9).map (fun k => (0, k))
def br32 : List (Nat × Nat) := [(185, 0), (185, 1), (185, 2), (185, 3), (185, 4), (185, 5), (185, 6), (185, 8), (185, 9), (185, 19), (185, 25), (185, 26), (185, 27), (185, 28), (185, 29), (185, 30), (185, 31), (185, 33), (185, 34), (185, 35), (185, 36), (185, 37), (185, 38), (185, 40)]
def b14 (w h : aE) : List aE := [h, w, (1, 0, 0, [0]), (1, 0, 0, [0])]
def b32 (w h : aE) : List aE := [h, w, (1, 0, 0, [185]), (1, 0, 0, [185])]
noncomputable def rA (τ : fT) (L f d : Nat) (ps : List aE) (w h : aE) : Bool := lRun τ (some (L, 2), []) (fun _ => []) 0 f d (stp1 14 (gChk gA (b14 w h) br14 1)) 0 ps gA [] [] [] 0
noncomputable def rB (τ : fT) (f d : Nat) (w h : aE) : Bool := lRun τ (none, []) (fun _ => []) 0 f d (stp1 18 (gChk gB [] [] 185)) 14 [] gA (b14 w h) [] br14 1
noncomputable def rC (τ : fT) (L f d : Nat) (ps : List aE) (w h : aE) : Bool := lRun τ (some (L, 2), []) (fun _ => []) 0 f d (stp1 32 (gChk gB (b32 w h) br32 186)) 18 ps gB [] [] [] 185
noncomputable def rD (τ : fT) (f d : Nat) (w h : aE) : Bool := lRun τ (none, []) (fun _ => []) 0 f d (stp1 36 (gChk gC [] [] 205)) 32 [] gB (b32 w h) [] br32 186
theorem start_ok {τ : fT} {L f d : Nat} {ps : List aE} {w h : aE} {xs : Nat → Int32} (ht : fTau τ) (hd : d ≤ 1000) (hps : satS ps (sv xs L)) (hA : rA τ L f d ps w h = true) (hB : rB τ f d w h = true) (hC : rC τ L f d ps w h = true) (hD : rD τ f d w h = true) (hE : ∀ σ, gSat τ 36 gC [] [] [] 205 σ → lOk (some (L, xs)) d σ) : pLaw L xs := by
  have hl : ps.length = L := by
    rw [satS_len hps]
    unfold sv
    rw [List.length_map, List.length_range]
  refine pLaw_of_ok hd (lOk_end ?_)
  refine lOk_to ht hps (sv_x hl) hA gSat0 (fun σ1 h1 => ?_)
  refine lOk_to (ps := []) (pv := []) ht trivial x_none hB h1 (fun σ2 h2 => ?_)
  refine lOk_to ht hps (sv_x hl) hC h2 (fun σ3 h3 => ?_)
  exact lOk_to (ps := []) (pv := []) ht trivial x_none hD h3 hE
noncomputable def rE (τ : fT) (L f d : Nat) (ps : List aE) : Bool := lRun τ (some (L, 2), []) (fun _ => []) 0 f d (fun _ => none) 36 ps gC [] [] [] 205
theorem end_ok {τ : fT} {L f d : Nat} {ps : List aE} {xs : Nat → Int32} (ht : fTau τ) (hps : satS ps (sv xs L)) (h : rE τ L f d ps = true) : ∀ σ, gSat τ 36 gC [] [] [] 205 σ → lOk (some (L, xs)) d σ := fun σ hσ => by
  have hl : ps.length = L := by
    rw [satS_len hps]
    unfold sv
    rw [List.length_map, List.length_range]
  exact law_run ht (fun m c hc => by cases hc) hps (sv_x hl) h (fun _ _ hk => by cases hk) hσ
def lPcs : List Nat := [220, 253, 276, 351, 374, 417, 480, 523, 566, 589, 652, 675, 688, 711, 734, 767, 810, 843, 876, 909, 932, 945, 978, 1001, 1024, 1037, 1060, 1073, 1096, 1129, 1152, 1185, 1218, 1251, 1304, 1367, 1380, 1393, 1416]
noncomputable def stpM (l : List Nat) (k : aL → List aV → aW → Bool) : fStp := fun pc => @Bool.rec (fun _ => Option (aL → List aV → aW → Bool)) none (some k) (fMem l pc)
theorem stpM_ok {l : List Nat} {pc : Nat} {k k' : aL → List aV → aW → Bool} (h : stpM l k pc = some k') : pc ∈ l ∧ k' = k := by
  have h : (@Bool.rec (fun _ => Option (aL → List aV → aW → Bool)) none (some k) (fMem l pc)) = some k' := h
  cases hb : fMem l pc with
  | false =>
    rw [hb] at h
    cases h
  | true =>
    rw [hb] at h
    cases h
    exact ⟨fMem_ok hb, rfl⟩
noncomputable def rS (τ : fT) (f d : Nat) (ps : List aE) : Bool := lRun τ (some (8, 2), []) (fun _ => []) 0 f d (stpM lPcs (gChk lG [] [] 205)) 36 ps gC [] [] [] 205
theorem switch_ok {τ τ' : fT} {f d : Nat} {fs : fFs} {ps : List aE} {xs : Nat → Int32} (ht : fTau τ) (ht' : fTau τ') (hle : fTauLe τ τ' 205 = true) (hf : fTyF τ fs = true) (hps : satS ps (sv xs 8)) (h : rS τ f d ps = true) (hcs : ∀ pc ∈ lPcs, ∀ σ, gSat τ' pc lG [] fs [] 205 σ → lOk (some (8, xs)) d σ) : ∀ σ, gSat τ 36 gC [] [] [] 205 σ → lOk (some (8, xs)) d σ := fun σ hσ => by
  have hl : ps.length = 8 := satS_len hps
  refine law_run ht (fun m c hc => by cases hc) hps (sv_x hl) h ?_ hσ
  intro pc' k hk A B w ρ σ' hc hG
  obtain ⟨hm, rfl⟩ := stpM_ok hk
  exact hcs pc' hm σ' (gSat_le ht ht' hle hf (gChk_ok hc hG))
theorem cov_ok {l : List (Nat × Nat × Nat)} {cl : Nat} (h : ∀ c, c < cl → (∃ q ∈ l, q.1 = c ∧ q.2.1 = 0 ∧ q.2.2 = 99) ∨ ((∃ q ∈ l, q.1 = c ∧ q.2.1 = 0 ∧ q.2.2 = 0) ∧ ∃ q ∈ l, q.1 = c ∧ q.2.1 = 1 ∧ q.2.2 = 99)) : ∀ c, c < cl → ∀ a, a < 100 → ∃ q ∈ l, q.1 = c ∧ q.2.1 ≤ a ∧ a ≤ q.2.2 := by
  intro c hc a ha
  rcases h c hc with ⟨q, h1, h2, h3, h4⟩ | ⟨⟨q, h1, h2, h3, h4⟩, q', g1, g2, g3, g4⟩
  · exact ⟨q, h1, h2, by omega, by omega⟩
  · by_cases e : a = 0
    · exact ⟨q, h1, h2, by omega, by omega⟩
    · exact ⟨q', g1, g2, by omega, by omega⟩

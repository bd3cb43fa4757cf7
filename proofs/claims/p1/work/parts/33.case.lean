/-! answers by a table; cases of the law; its start -/
noncomputable def fTab (tbl : List Int) (i : Nat) (v : List aV) (w : aW) : Bool := @List.rec Int (fun _ => Nat → Bool) (fun _ => false) (fun t _ ih i => bI (Nat.beq i 0) (fFits w.1 v [(0, t, t, [])]) (ih (Nat.sub i 1))) tbl i
theorem fTab_ok {tbl : List Int} {i : Nat} {v : List aV} {w : aW} (h : fTab tbl i v w = true) : ∃ t, tbl[i]? = some t ∧ fFits w.1 v [(0, t, t, [])] = true := by
  induction tbl generalizing i with
  | nil => cases h
  | cons t tbl ih =>
    rcases bI_if (show bI (Nat.beq i 0) (fFits w.1 v [(0, t, t, [])]) (fTab tbl (Nat.sub i 1) v w) = true from h) with ⟨h1, h2⟩ | ⟨h1, h2⟩
    · rw [Nat.eq_of_beq_eq_true h1]
      exact ⟨t, rfl, h2⟩
    · have hn := Nat.ne_of_beq_eq_false h1
      obtain ⟨j, rfl⟩ : ∃ j, i = j + 1 := ⟨i - 1, by omega⟩
      exact ih h2
noncomputable def retT (tbl : List Int) : fKap := fun v w => fCln w (fNth w.1 3 (fun e => bI (Nat.beq e.1 0) (bI (fEq e.2.1 e.2.2.1) (fTab tbl (fNat e.2.1) v w) false) false))
theorem con_tab {τ : fT} {Kt : Nat → List fCn} {dK f d m N : Nat} {e0 : aE} {md : fMd} {pre : fFs} {tbl : List Int} {S : pScr} (ht : fTau τ) (hK : ∀ m, ∀ c ∈ Kt m, cnOk τ S dK m c) (hm : Nat.ble (m + 1) nM = true) (h : conChk τ Kt dK f d m ([e0, (0, Int.ofNat 0, Int.ofNat N, [])], [], md, pre, []) [] [] 0 (retT tbl) = true) (i : Nat) (t : Int) (hi : Nat.ble i N = true) (hit : tbl[i]? = some t) : cnOk τ S (d + 1) m ([e0, (0, Int.ofNat i, Int.ofNat i, [])], [(0, t, t, [])], md, pre, []) := by
  intro vs M hvs hM hfc
  have hi := Nat.le_of_ble_eq_true hi
  match vs, hvs with
  | [v0, v1], ⟨h0, ⟨z, hz, z1, z2⟩, _⟩ =>
    have z1 : (i : Int) ≤ z.toInt := z1
    have z2 : z.toInt ≤ (i : Int) := z2
    refine con_gen ht hK hm h [v0, v1] M ⟨h0, ⟨z, hz, by show (0 : Int) ≤ _; omega, by show _ ≤ (N : Int); omega⟩, trivial⟩ hM hfc (fun v hp => hp.1 = gSh ∧ tyM (tOf τ) hp.2 ∧ satS [(0, t, t, [])] v ∧ frm md M hp.2 ∧ fctM [] hp.2) ?_
    intro v w' ρ' hp k1 k2 _ k3 k4
    obtain ⟨q1, q2, q3⟩ := fCln_ok k1 k3
    obtain ⟨e, g1, g2⟩ := fNth_ok q3
    obtain ⟨g3, g4⟩ := bI_and g2
    obtain ⟨g5, g6⟩ := bI_and g4
    have e1 := fEq_t g5
    have hρ : ρ' 3 = v1 := (k2 rfl).1 1 v1 rfl
    have hs := k3.1.2.2 3 e g1
    rw [hρ] at hs
    obtain ⟨z', hz', y1, y2⟩ := satE0 g3 hs
    rw [hz] at hz'
    cases hz'
    have e2 : fNat e.2.1 = i := by
      rw [fNat_eq]
      omega
    rw [e2] at g6
    obtain ⟨t', g7, g8⟩ := fTab_ok g6
    rw [hit] at g7
    cases g7
    exact ⟨q1, q2, fFits_ok k3.1 g8, k4, fun q hq => by cases hq⟩
/-- the script's values -/
def sv (xs : Nat → Int32) (n : Nat) : List Value := (List.range n).map (fun k => .int (xs k))
theorem sv_get {xs : Nat → Int32} {n k : Nat} (h : k < n) : (sv xs n)[k]? = some (.int (xs k)) := by
  unfold sv
  rw [List.getElem?_map, List.getElem?_range h]
  rfl
theorem sv_x {L : Nat} {xs : Nat → Int32} {ps : List aE} (hl : ps.length = L) (w : aW) (ρ : Nat → Value) (h : ∀ k v, (sv xs L)[k]? = some v → ρ (2 + k) = v) (hw : 2 + ps.length ≤ w.1.length) : xOk (some (L, 2), []) (some (L, xs)) w ρ :=
  ⟨⟨xs, rfl, Nat.le_refl _, by rw [← hl]; exact hw, fun k hk => h k _ (sv_get hk)⟩, fun q hq => by cases hq⟩
theorem sv_any {z : Int32} : satE (0, Int.negSucc 2147483647, Int.ofNat 2147483647, []) (.int z) := ⟨z, rfl, (i32_rng z).1, (i32_rng z).2⟩
theorem sv_in {z : Int32} {a b : Int} (h1 : a ≤ z.toInt) (h2 : z.toInt ≤ b) : satE (0, a, b, []) (.int z) := ⟨z, rfl, h1, h2⟩
def lG : List (Nat × aE) := [(0, (3, 0, 0, [])), (1, (1, 0, 0, [0])), (2, (1, 0, 0, [185])), (3, (0, Int.ofNat 2, Int.ofNat 2, []))]
theorem case_ok {τ : fT} {Kt : Nat → List fCn} {dK f d pc : Nat} {ps : List aE} {fs : fFs} {xs : Nat → Int32} {σ : pSt} (ht : fTau τ) (hK : ∀ m, ∀ c ∈ Kt m, cnOk τ (some (8, xs)) dK m c) (h : lRun τ (some (8, 2), []) Kt dK f d (fun _ => none) pc ps lG [] fs [] 205 = true) (hps : satS ps (sv xs 8)) (hσ : gSat τ pc lG [] fs [] 205 σ) : lOk (some (8, xs)) d σ :=
  law_run ht hK hps (sv_x (satS_len hps)) h (fun _ _ hk => by cases hk) hσ
/-- with sums of four arguments -/
theorem case_sum {τ : fT} {Kt : Nat → List fCn} {dK f d pc : Nat} {ps : List aE} {fs : fFs} {xs : Nat → Int32} {σ : pSt} (ht : fTau τ) (hK : ∀ m, ∀ c ∈ Kt m, cnOk τ (some (8, xs)) dK m c) (h : lRun τ (some (8, 2), [(6, 7, 10), (10, 8, 11), (11, 9, 12)]) Kt dK f d (fun _ => none) pc ps lG [] fs [] 205 = true) (hps : satS ps (sv xs 8 ++ [.int (xs 4 + xs 5), .int (xs 4 + xs 5 + xs 6), .int (xs 4 + xs 5 + xs 6 + xs 7)])) (hσ : gSat τ pc lG [] fs [] 205 σ) : lOk (some (8, xs)) d σ := by
  have hl : ps.length = 11 := satS_len hps
  refine law_run ht hK hps ?_ h (fun _ _ hk => by cases hk) hσ
  intro w ρ hv hw
  rw [hl] at hw
  have g : ∀ k, k < 8 → ρ (2 + k) = .int (xs k) := fun k hk => hv k _ (by
    rw [List.getElem?_append_left (by unfold sv; rw [List.length_map, List.length_range]; exact hk)]
    exact sv_get hk)
  have g8 : ρ 10 = .int (xs 4 + xs 5) := hv 8 _ rfl
  have g9 : ρ 11 = .int (xs 4 + xs 5 + xs 6) := hv 9 _ rfl
  have g10 : ρ 12 = .int (xs 4 + xs 5 + xs 6 + xs 7) := hv 10 _ rfl
  refine ⟨⟨xs, rfl, Nat.le_refl _, by omega, g⟩, fun q hq => ?_⟩
  rcases List.mem_cons.mp hq with rfl | hq
  · exact ⟨⟨by show 6 < _; omega, by show 7 < _; omega, by show 10 < _; omega⟩, xs 4, xs 5, g 4 (by decide), g 5 (by decide), g8, by decide, by decide, by decide⟩
  · rcases List.mem_cons.mp hq with rfl | hq
    · exact ⟨⟨by show 10 < _; omega, by show 8 < _; omega, by show 11 < _; omega⟩, _, xs 6, g8, g 6 (by decide), g9, by decide, by decide, by decide⟩
    · rcases List.mem_cons.mp hq with rfl | hq
      · exact ⟨⟨by show 11 < _; omega, by show 9 < _; omega, by show 12 < _; omega⟩, _, xs 7, g9, g 7 (by decide), g10, by decide, by decide, by decide⟩
      · cases hq
/-- a run of a part of the law, from what is known here to what is known there -/
theorem lOk_to {τ : fT} {X0 : fX} {f d pc n pc1 n1 : Nat} {ps : List aE} {pv : List Value} {G G1 : List (Nat × aE)} {Bs Bs1 : List aE} {br br1 : List (Nat × Nat)} {S : pScr} {σ : pSt} (ht : fTau τ) (hp : satS ps pv)
    (hx : ∀ (w : aW) (ρ : Nat → Value), (∀ k v, pv[k]? = some v → ρ (2 + k) = v) → 2 + ps.length ≤ w.1.length → xOk X0 S w ρ) (h : lRun τ X0 (fun _ => []) 0 f d (stp1 pc1 (gChk G1 Bs1 br1 n1)) pc ps G Bs [] br n = true) (hσ : gSat τ pc G Bs [] br n σ) (hto : ∀ σ', gSat τ pc1 G1 Bs1 [] br1 n1 σ' → lOk S d σ') : lOk S d σ := by
  refine law_run ht (fun m c hc => by cases hc) hp hx h ?_ hσ
  intro pc' k hk A B w ρ σ' hc hG
  obtain ⟨rfl, rfl⟩ := stp1_ok hk
  exact hto σ' (gChk_ok hc hG)
theorem x_none {S : pScr} {pv : List Value} {ps : List aE} (w : aW) (ρ : Nat → Value) (_ : ∀ k v, pv[k]? = some v → ρ (2 + k) = v) (_ : 2 + ps.length ≤ w.1.length) : xOk (none, []) S w ρ := ⟨trivial, fun q hq => by cases hq⟩
/-- where the law's switch leads: any of its cases -/
noncomputable def stpS (k : aL → List aV → aW → Bool) : fStp := fun pc => @Bool.rec (fun _ => Option (aL → List aV → aW → Bool)) none (some k) (Nat.ble 220 pc)
theorem gSat0 {τ : fT} : gSat τ 0 [(0, (3, 0, 0, []))] [] [] [] 0 (0, [(0, .retAddr 1)], [], [], fun _ _ => .null) := by
  refine ⟨rfl, fun q hq => ?_, trivial, rfl, Nat.zero_le _, fun o k e ho => by omega, fun q hq => by cases hq⟩
  rw [List.mem_singleton.mp hq]
  exact ⟨.retAddr 1, rfl, rfl⟩
/-- a fresh board is one of the wider kinds -/
theorem gSat_le {τ τ' : fT} {pc : Nat} {G : List (Nat × aE)} {fs : fFs} {σ : pSt} (ht : fTau τ) (ht' : fTau τ') (h : fTauLe τ τ' 205 = true) (hf : fTyF τ fs = true) (hσ : gSat τ pc G [] [] [] 205 σ) : gSat τ' pc G [] fs [] 205 σ := by
  obtain ⟨h1, h2, h3, h4, h5, h6, -⟩ := hσ
  have hM : tyM (tOf τ) σ.2.2.2.2 := fun o k e ho he => h6 o k e ho List.not_mem_nil he
  have hM' := tyM_le ht ht' h hM
  exact ⟨h1, h2, h3, h4, h5, fun o k e ho _ he => hM' o k e ho he, fTyF_ok ht hM hf⟩
theorem tab_up {τ : fT} {S : pScr} {d d' : Nat} {l : List (Nat × fCn)} (h : tabOk τ S d l) (hd : d ≤ d') : tabOk τ S d' l := fun m c hc => (h m c hc).deep hd

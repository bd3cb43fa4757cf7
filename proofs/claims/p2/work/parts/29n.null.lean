/-! the fast machine: null or not -/
noncomputable def fNulE (cn cr : Nat) (A : aL) (w : aW) (k : fK) (x : aV) (r : List aV) (e : aE) : Bool := bI (Nat.beq e.1 1) (bI (bI (fEq e.2.1 1) (k cn A r w) true) (bI (fEmp e.2.2.2) true (k cr A r (fSetN w.1 x.1 (1, 0, 0, e.2.2.2), w.2))) false) false
noncomputable def fNul (cn cr : Nat) (A : aL) (w : aW) (k : fK) (x : aV) (r : List aV) : Bool := bI (Nat.beq x.1 1) (k cr A r w) (fNth w.1 x.1 (fNulE cn cr A w k x r))
noncomputable def fcNul (cn cr : Nat) : fC := fun _ _ A B w k => @List.rec aV (fun _ => Bool) false (fun x r _ => fNul cn cr A w k x r) B
theorem fNul_ok {cn cr : Nat} {A : aL} {w : aW} {k : fK} {x : aV} {r : List aV} {ρ : Nat → Value} (hE : aEnv w.1 ρ) (h : fNul cn cr A w k x r = true) : (∃ i, aval ρ x = .ref i ∧ ∃ e', aEnv e' ρ ∧ e'.length = w.1.length ∧ k cr A r (e', w.2) = true) ∨ (aval ρ x = .null ∧ k cn A r w = true) := by
  rcases bI_if h with ⟨h1, h2⟩ | ⟨h1, h2⟩
  · refine Or.inl ⟨x.2.toNat, ?_, w.1, hE, rfl, h2⟩
    unfold aval
    rw [if_pos (Nat.eq_of_beq_eq_true h1)]
  · have hn := Nat.ne_of_beq_eq_false h1
    obtain ⟨e, h3, h4⟩ := fNth_ok h2
    obtain ⟨h5, h6⟩ := bI_and h4
    obtain ⟨h7, h8⟩ := bI_and h6
    have hv := hE.2.2 _ _ h3
    rcases satE1 h5 hv with ⟨g1, g2⟩ | ⟨i, g1, g2⟩
    · refine Or.inr ⟨aval_ref hn g1 (fun z hz => by cases hz), ?_⟩
      rcases bI_if h7 with ⟨-, q⟩ | ⟨q, -⟩
      · exact q
      · exact absurd g2 (fEq_f q)
    · refine Or.inl ⟨i, aval_ref hn g2 (fun z hz => by cases hz), ?_⟩
      rcases bI_if h8 with ⟨q, -⟩ | ⟨-, q⟩
      · rw [fEmp_ok q] at g1
        cases g1
      · refine ⟨_, ?_, ?_, q⟩
        · rw [fSetN_eq]
          refine ⟨by rw [List.length_set]; exact hE.1, hE.2.1, fun s e' hs => ?_⟩
          rw [List.getElem?_set] at hs
          split at hs
          · rename_i hss
            split at hs
            · cases hs
              subst hss
              exact Or.inr ⟨i, g1, g2⟩
            · cases hs
          · exact hE.2.2 s e' hs
        · rw [fSetN_eq, List.length_set]
section FNU
variable {o nL pc cn cr : Nat} {ini : Bool}
theorem fs_nul {i : Instr} (hr : ∀ (S : pScr) (L : pLs) (a : Nat) (st : List Value) (sh : pSh) (M : pMem), pstep S o ini nL i 3 pc L (.ref a :: st) sh M = some (.inl (cr, L, st, sh, M))) (hn : ∀ (S : pScr) (L : pLs) (st : List Value) (sh : pSh) (M : pMem), pstep S o ini nL i 3 pc L (.null :: st) sh M = some (.inl (cn, L, st, sh, M))) : fS o ini nL i 3 pc (fcNul cn cr) := by
  intro τ X ht A B w k hk S ρ L st sh M hS hG
  cases B with
  | nil => cases hk
  | cons x r =>
    obtain ⟨st1, hst, hr1, hlv⟩ := aStk.cons hG.2.2.1
    have hst : st = aval ρ x :: st1 := hst
    subst hst
    rcases fNul_ok hG.2.2.2.1 (show fNul cn cr A w k x r = true from hk) with ⟨i9, h1, e', h2, h3, h4⟩ | ⟨h1, h2⟩
    · rw [h1]
      exact ⟨_, hr S L i9 st1 sh M, aG.env' hG.2.1 hr1 hG.2.2.2 h2 h3 h4⟩
    · rw [h1]
      exact ⟨_, hn S L st1 sh M, fN.same h2 hG.2.1 hr1 hG.2.2.2⟩
theorem jp_to {off : Int} {t : Nat} {L : pLs} {st : List Value} {sh : pSh} {M : pMem} (h : (pc : Int) + off = (t : Int)) : pJp pc off L st sh M = some (.inl (t, L, st, sh, M)) := by
  unfold pJp
  rw [h, if_neg (by omega)]
  show some (Sum.inl ((t : Int).toNat, L, st, sh, M)) = _
  rw [Int.toNat_natCast]
theorem fs_ifnull {off : Int} (h1 : (pc : Int) + off = (cn : Int)) (h2 : pc + 3 = cr) : fS o ini nL (.ifnull off) 3 pc (fcNul cn cr) :=
  fs_nul (fun S L a st sh M => by rw [← h2]; rfl) (fun S L st sh M => jp_to h1)
theorem fs_ifnonnull {off : Int} (h1 : (pc : Int) + off = (cr : Int)) (h2 : pc + 3 = cn) : fS o ini nL (.ifnonnull off) 3 pc (fcNul cn cr) :=
  fs_nul (fun S L a st sh M => jp_to h1) (fun S L st sh M => by rw [← h2]; rfl)
end FNU

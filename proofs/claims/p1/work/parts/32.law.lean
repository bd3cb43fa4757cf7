/-! runs of the law's body by the fast machine -/
theorem pSz_take (l : pSh) (n : Nat) : pSz (l.take n) ≤ pSz l := by
  induction l generalizing n with
  | nil => simp [pSz]
  | cons q l ih =>
    cases n with
    | zero => simp [pSz]
    | succ n =>
      have := ih n
      simp only [pSz, List.take_succ_cons, List.map_cons, List.sum_cons] at this ⊢
      omega
theorem gSh_size : pSz gSh ≤ 7302250 := by decide +kernel
def lPost : Instr → Nat → pSt → Prop := fun i len τ => i = .ireturn ∧ len = 1 ∧ τ.2.2.1 = [.int 1] ∧ τ.2.2.2.1.length ≤ 600000 ∧ pSz τ.2.2.2.1 ≤ 7302250
def lPo : List Value → pHp → Prop := fun v hp => v = [.int 1] ∧ ∃ n, hp.1 = gSh.take n
/-- from this state on the law comes to its end with 1 -/
def lOk (S : pScr) (d : Nat) (σ : pSt) : Prop := pOk S 13 false 4 (pLook kL_law) d (fun i len τ' => ∃ v, pRet (some .boolean) i len τ'.2.2.1 = some v ∧ lPo v.toList (τ'.2.2.2.1, τ'.2.2.2.2)) σ
theorem pRet_bool {i : Instr} {len : Nat} {st : List Value} {v : Option Value} (h : pRet (some .boolean) i len st = some v) : i = .ireturn ∧ len = 1 ∧ ∃ z, st = [.int z] ∧ v = some (.int z) := by
  unfold pRet at h
  (repeat' split at h) <;> first | (cases h; exact ⟨rfl, rfl, _, rfl, rfl⟩) | (rename_i hz; cases hz; done) | (cases h; done) | (cases h; rename_i hz; cases hz)
theorem lOk_end {S : pScr} {d : Nat} {σ : pSt} (h : lOk S d σ) : pOk S 13 false 4 (pLook kL_law) d lPost σ := by
  refine pOk.mono h ?_
  rintro i len ⟨pc, L, st, sh, M⟩ ⟨v, h1, h2, n, h3⟩
  have h1 : pRet (some .boolean) i len st = some v := h1
  have h3 : sh = gSh.take n := h3
  have hs : sh.length ≤ 600000 ∧ pSz sh ≤ 7302250 := by
    rw [h3]
    refine ⟨?_, Nat.le_trans (pSz_take _ _) gSh_size⟩
    rw [List.length_take, gSh_205]
    omega
  obtain ⟨rfl, rfl, z, rfl, rfl⟩ := pRet_bool h1
  have h2 : [Value.int z] = [Value.int 1] := h2
  rw [h2]
  exact ⟨rfl, rfl, rfl, hs.1, hs.2⟩
theorem lDat : ∀ pc, ∀ e ∈ lL_law pc, fEok 13 false 4 (pLook kL_law) (some .boolean) e := lL_law_ok
noncomputable def lK1 : fKap := fun v w => fFits w.1 v [(0, Int.ofNat 1, Int.ofNat 1, [])]
noncomputable def lRun (τ : fT) (X0 : fX) (Kt : Nat → List fCn) (dK f d : Nat) (stp : fStp) (pc : Nat) (ps : List aE) (G : List (Nat × aE)) (Bs : List aE) (fs : fFs) (br : List (Nat × Nat)) (n : Nat) : Bool := fexec τ X0 none fDs fCs Kt dK f d lL_law stp (lL_law pc) pc (cutLoc G (2 + ps.length)) (cutArg Bs (2 + (ps.length + G.length))) (cutEnv (ps ++ (cutEs G ++ Bs)), fOvF fs [], br, [], n) lK1
theorem law_run {τ : fT} {X0 : fX} {Kt : Nat → List fCn} {dK f d pc n : Nat} {stp : fStp} {ps : List aE} {pv : List Value} {G : List (Nat × aE)} {Bs : List aE} {fs : fFs} {br : List (Nat × Nat)} {S : pScr} {σ : pSt} (ht : fTau τ) (hK : ∀ m, ∀ c ∈ Kt m, cnOk τ S dK m c) (hp : satS ps pv)
    (hx : ∀ (w : aW) (ρ : Nat → Value), (∀ k v, pv[k]? = some v → ρ (2 + k) = v) → 2 + ps.length ≤ w.1.length → xOk X0 S w ρ) (h : lRun τ X0 Kt dK f d stp pc ps G Bs fs br n = true)
    (hstop : ∀ (pc' : Nat) (k : aL → List aV → aW → Bool), stp pc' = some k → ∀ (A : aL) (B : List aV) (w : aW) (ρ : Nat → Value) (σ' : pSt), k A B w = true → aG (tOf τ) gSh ρ (pc', A, B, w) σ' → lOk S d σ') (hσ : gSat τ pc G Bs fs br n σ) : lOk S d σ := by
  obtain ⟨ρ, hG, hpv, -⟩ := gStart hp hσ
  have good := fexec_good (X0 := X0) (Md := none) (S := S) fD_ok hK ht f
  have hlen : 2 + ps.length ≤ (cutEnv (ps ++ (cutEs G ++ Bs))).length := by
    show _ ≤ ((ps ++ (cutEs G ++ Bs)).length + 1) + 1
    rw [List.length_append]
    omega
  refine (good 13 4 false (pLook kL_law) (some .boolean) d lL_law stp _ pc _ _ _ lK1 (by decide) lDat (lDat pc) h ρ σ lPo (hx _ _ hpv hlen) hG ?_ ?_)
  · intro pc' k hk A' B' w' ρ' σ' hc _ _ hG' _
    exact hstop pc' k hk A' B' w' ρ' σ' hc hG'
  · intro v w' ρ' hp k1 _ _ _ k5 _
    have hf := fFits_ok k5.1 (show fFits w'.1 v [(0, Int.ofNat 1, Int.ofNat 1, [])] = true from k1)
    refine ⟨?_, w'.2.2.2.2, k5.2.2.2.1⟩
    match hv : v.map (aval ρ'), hf with
    | [], hf => exact hf.elim
    | [u], hf =>
      obtain ⟨z, hz, z1, z2⟩ := hf.1
      have : z.toInt = 1 := by
        have z1 : (1 : Int) ≤ z.toInt := z1
        have z2 : z.toInt ≤ (1 : Int) := z2
        omega
      rw [hz, show z = 1 by rw [← Int32.ofInt_toInt z, this]; rfl]
    | u :: u2 :: r, hf => exact hf.2.elim
/-- a state is what is known there -/
noncomputable def fSubB (l m : List (Nat × Nat)) : Bool := @List.rec (Nat × Nat) (fun _ => Bool) true (fun q _ ih => bI (fNoB m q.1 q.2) false ih) l
theorem fNoB_no {br : List (Nat × Nat)} {i a : Nat} (h : fNoB br i a = false) : (i, a) ∈ br := by
  induction br with
  | nil => cases h
  | cons q br ih =>
    have h : bI (Nat.beq q.1 i) (bI (Nat.beq q.2 a) false (fNoB br i a)) (fNoB br i a) = false := h
    cases h1 : Nat.beq q.1 i with
    | false =>
      rw [h1] at h
      exact List.mem_cons_of_mem _ (ih h)
    | true =>
      rw [h1] at h
      have h : bI (Nat.beq q.2 a) false (fNoB br i a) = false := h
      cases h2 : Nat.beq q.2 a with
      | true =>
        rw [show (i, a) = q from (Prod.ext (Nat.eq_of_beq_eq_true h1) (Nat.eq_of_beq_eq_true h2)).symm]
        exact List.mem_cons_self
      | false =>
        rw [h2] at h
        exact List.mem_cons_of_mem _ (ih h)
theorem fSubB_ok {l m : List (Nat × Nat)} (h : fSubB l m = true) : ∀ q ∈ l, q ∈ m := by
  induction l with
  | nil => intro q hq; cases hq
  | cons p l ih =>
    obtain ⟨h1, h2⟩ := bI_not (show bI (fNoB m p.1 p.2) false (fSubB l m) = true from h)
    intro q hq
    rcases List.mem_cons.mp hq with rfl | hq
    · exact fNoB_no h1
    · exact ih h2 q hq
/-- as fGam, the script too -/
noncomputable def fScr3 (w : aW) (a : aV) : Bool := bI (Nat.beq a.1 1) false (fNth w.1 a.1 (fun d => Nat.beq d.1 3))
noncomputable def fGm3 (A : aL) (w : aW) (G : List (Nat × aE)) : Bool := @List.rec (Nat × aE) (fun _ => Bool) true (fun q _ ih => bI (fLd A q.1 (fun a => bI (Nat.beq q.2.1 3) (fScr3 w a) (fFit w.1 a q.2))) ih false) G
theorem fGm3_ok {A : aL} {w : aW} {G : List (Nat × aE)} {ρ : Nat → Value} {L : pLs} (hE : aEnv w.1 ρ) (hA : aLoc w ρ A L) (h : fGm3 A w G = true) : ∀ q ∈ G, ∃ v, pLd L q.1 = some v ∧ satE q.2 v := by
  induction G with
  | nil => intro q hq; cases hq
  | cons p G ih =>
    obtain ⟨h1, h2⟩ := bI_and (show bI (fLd A p.1 (fun a => bI (Nat.beq p.2.1 3) (fScr3 w a) (fFit w.1 a p.2))) (fGm3 A w G) false = true from h)
    intro q hq
    rcases List.mem_cons.mp hq with rfl | hq
    · obtain ⟨a, g1, g2⟩ := fLd_ok h1
      refine ⟨_, (hA _ g1).2, ?_⟩
      rcases bI_if g2 with ⟨k1, k2⟩ | ⟨-, k2⟩
      · obtain ⟨k3, k4⟩ := bI_not k2
        obtain ⟨e, k5, k6⟩ := fNth_ok k4
        have hv := hE.2.2 _ _ k5
        obtain ⟨ek, e1, e2, e3⟩ := e
        have : ek = 3 := Nat.eq_of_beq_eq_true k6
        subst this
        have hv : ρ a.1 = .retAddr 1 := hv
        obtain ⟨qi, qk, q1, q2, q3⟩ := q
        have : qk = 3 := Nat.eq_of_beq_eq_true k1
        subst this
        exact aval_ref (Nat.ne_of_beq_eq_false k3) hv (fun z hz => by cases hz)
      · exact fFit_ok hE k2
    · exact ih h2 q hq
noncomputable def gChk (G : List (Nat × aE)) (Bs : List aE) (br : List (Nat × Nat)) (n : Nat) (A : aL) (B : List aV) (w : aW) : Bool := bI (fGm3 A w G) (bI (fFits w.1 B Bs) (bI (fEmp w.2.2.2.1) (bI (fSubB w.2.2.1 br) (Nat.beq w.2.2.2.2 n) false) false) false) false
theorem gChk_ok {τ : fT} {pc n : Nat} {G : List (Nat × aE)} {Bs : List aE} {br : List (Nat × Nat)} {A : aL} {B : List aV} {w : aW} {ρ : Nat → Value} {σ : pSt} (h : gChk G Bs br n A B w = true) (hG : aG (tOf τ) gSh ρ (pc, A, B, w) σ) : gSat τ pc G Bs [] br n σ := by
  obtain ⟨h1, h⟩ := bI_and h
  obtain ⟨h2, h⟩ := bI_and h
  obtain ⟨h3, h⟩ := bI_and h
  obtain ⟨h4, h⟩ := bI_and h
  have h5 := Nat.eq_of_beq_eq_true h
  have h3 := fEmp_ok h3
  have hs : σ.2.2.1 = B.map (aval ρ) := hG.2.2.1.2
  refine ⟨hG.1, fGm3_ok hG.2.2.2.1 hG.2.1 h1, by rw [hs]; exact fFits_ok hG.2.2.2.1 h2, ?_, ?_, ?_, fun q hq => by cases hq⟩
  · have : σ.2.2.2.1 = gSh.take w.2.2.2.2 := hG.2.2.2.2.2.2.1
    rw [this, h5]
  · have : w.2.2.2.2 ≤ gSh.length := hG.2.2.2.2.2.2.2
    rw [gSh_205] at this
    omega
  · intro o k e ho hb he
    exact hG.2.2.2.2.1 o k e (by show o < w.2.2.2.2; rw [h5]; exact ho) (by show o ∉ w.2.2.2.1; rw [h3]; exact List.not_mem_nil) (fun hz => hb (fSubB_ok h4 _ hz)) he
noncomputable def stp1 (pc0 : Nat) (k : aL → List aV → aW → Bool) : fStp := fun pc => @Bool.rec (fun _ => Option (aL → List aV → aW → Bool)) none (some k) (Nat.beq pc pc0)
theorem stp1_ok {pc0 pc : Nat} {k k' : aL → List aV → aW → Bool} (h : stp1 pc0 k pc = some k') : pc = pc0 ∧ k' = k := by
  have h : (@Bool.rec (fun _ => Option (aL → List aV → aW → Bool)) none (some k) (Nat.beq pc pc0)) = some k' := h
  cases hb : Nat.beq pc pc0 with
  | false =>
    rw [hb] at h
    cases h
  | true =>
    rw [hb] at h
    cases h
    exact ⟨Nat.eq_of_beq_eq_true hb, rfl⟩
/-! kinds that hold more -/
noncomputable def fSubE (e d : aE) : Bool := bI (Nat.beq e.1 d.1) (bI (Nat.beq e.1 1) (bI (fEq e.2.1 1) (bI (fEq d.2.1 1) (fSubL e.2.2.2 d.2.2.2) false) (fSubL e.2.2.2 d.2.2.2)) (bI (Nat.ble e.1 2) (bI (fLe d.2.1 e.2.1) (fLe e.2.2.1 d.2.2.1) false) false)) false
theorem fSubE_ok {e d : aE} {v : Value} (h : fSubE e d = true) (hv : satE e v) : satE d v := by
  obtain ⟨h1, h2⟩ := bI_and h
  have h1 := Nat.eq_of_beq_eq_true h1
  obtain ⟨k, l, u, x⟩ := e
  obtain ⟨k2, l2, u2, x2⟩ := d
  have h1 : k = k2 := h1
  subst h1
  rcases bI_if h2 with ⟨h3, h4⟩ | ⟨h3, h4⟩
  · have : k = 1 := Nat.eq_of_beq_eq_true h3
    subst this
    rcases hv with ⟨hv, hn⟩ | ⟨i, hi, hv⟩
    · rcases bI_if h4 with ⟨g1, g2⟩ | ⟨g1, g2⟩
      · obtain ⟨g3, -⟩ := bI_and g2
        exact Or.inl ⟨hv, fEq_t g3⟩
      · exact absurd hn (fEq_f g1)
    · have : i ∈ x2 := by
        rcases bI_if h4 with ⟨g1, g2⟩ | ⟨g1, g2⟩
        · exact fSubL_ok (bI_and g2).2 i hi
        · exact fSubL_ok g2 i hi
      exact Or.inr ⟨i, this, hv⟩
  · obtain ⟨g1, g2⟩ := bI_and h4
    obtain ⟨g3, g4⟩ := bI_and g2
    have g3 : l2 ≤ l := fLe_t g3
    have g4 : u ≤ u2 := fLe_t g4
    have g1 : k ≤ 2 := Nat.le_of_ble_eq_true g1
    have h3 := Nat.ne_of_beq_eq_false h3
    match k, g1, h3, hv with
    | 0, _, _, hv =>
      obtain ⟨z, hz, z1, z2⟩ := hv
      exact ⟨z, hz, by omega, by omega⟩
    | 1, _, h3, _ => exact absurd rfl h3
    | 2, _, _, hv =>
      obtain ⟨z, hz, z1, z2⟩ := hv
      exact ⟨z, hz, by omega, by omega⟩
/-- rows of kinds: the first holds less -/
noncomputable def fRowLe (f : Nat) (r r' : List (Nat × aE)) : Bool := @Nat.rec (fun _ => List (Nat × aE) → List (Nat × aE) → Bool) (fun _ _ => false) (fun _ ih r r' => @List.rec (Nat × aE) (fun _ => Bool) (fEmp r') (fun q t _ => @List.rec (Nat × aE) (fun _ => Bool) false (fun q' t' _ => bI (fSubE q.2 q'.2) (bI (Nat.beq q.1 q'.1) (ih t t') (bI (Nat.ble q.1 q'.1) (ih t (q' :: t')) (ih (q :: t) t'))) false) r') r) f r r'
theorem fRowLe_ok {f : Nat} : ∀ {r r' : List (Nat × aE)}, fRowLe f r r' = true → ∀ {k : Nat} {e' : aE}, (r'.find? (fun q => Nat.blt k q.1)).map (fun q => q.2) = some e' → ∃ e, (r.find? (fun q => Nat.blt k q.1)).map (fun q => q.2) = some e ∧ fSubE e e' = true := by
  induction f with
  | zero => intro r r' h; cases h
  | succ f ih =>
    intro r r' h k e' he
    cases r with
    | nil =>
      rw [fEmp_ok (show fEmp r' = true from h)] at he
      cases he
    | cons q t =>
      cases r' with
      | nil => cases h
      | cons q' t' =>
        obtain ⟨h1, h2⟩ := bI_and (show bI (fSubE q.2 q'.2) (bI (Nat.beq q.1 q'.1) (fRowLe f t t') (bI (Nat.ble q.1 q'.1) (fRowLe f t (q' :: t')) (fRowLe f (q :: t) t'))) false = true from h)
        have blt : ∀ (a b : Nat), Nat.blt a b = true ↔ a < b := fun a b => ⟨fun hz => Nat.le_of_ble_eq_true hz, fun hz => Nat.ble_eq_true_of_le hz⟩
        have fp : ∀ (q : Nat × aE) (t : List (Nat × aE)), k < q.1 → List.find? (fun q => Nat.blt k q.1) (q :: t) = some q := fun q t hz => List.find?_cons_of_pos (p := fun q : Nat × aE => Nat.blt k q.1) ((blt _ _).mpr hz)
        have fn : ∀ (q : Nat × aE) (t : List (Nat × aE)), ¬ Nat.blt k q.1 = true → List.find? (fun q => Nat.blt k q.1) (q :: t) = List.find? (fun q => Nat.blt k q.1) t := fun q t hz => List.find?_cons_of_neg (p := fun q : Nat × aE => Nat.blt k q.1) hz
        by_cases c1 : k < q.1
        · by_cases c2 : k < q'.1
          · refine ⟨q.2, by rw [fp _ _ c1]; rfl, ?_⟩
            rw [fp _ _ c2] at he
            cases he
            exact h1
          · have c2' : ¬ Nat.blt k q'.1 = true := fun hz => c2 ((blt _ _).mp hz)
            rw [fn _ _ c2'] at he
            rcases bI_if h2 with ⟨g1, g2⟩ | ⟨g1, g2⟩
            · have := Nat.eq_of_beq_eq_true g1
              omega
            · rcases bI_if g2 with ⟨g3, g4⟩ | ⟨g3, g4⟩
              · have := Nat.le_of_ble_eq_true g3
                omega
              · exact ih g4 he
        · have c1' : ¬ Nat.blt k q.1 = true := fun hz => c1 ((blt _ _).mp hz)
          rw [fn _ _ c1']
          rcases bI_if h2 with ⟨g1, g2⟩ | ⟨g1, g2⟩
          · have e1 := Nat.eq_of_beq_eq_true g1
            have c2' : ¬ Nat.blt k q'.1 = true := fun hz => c1 (by rw [e1]; exact (blt _ _).mp hz)
            rw [fn _ _ c2'] at he
            exact ih g2 he
          · rcases bI_if g2 with ⟨g3, g4⟩ | ⟨g3, g4⟩
            · exact ih g4 he
            · have c2' : ¬ Nat.blt k q'.1 = true := fun hz => by
                have := (blt _ _).mp hz
                have g3 : ¬ q.1 ≤ q'.1 := fun hz => by
                  rw [Nat.ble_eq_true_of_le hz] at g3
                  cases g3
                omega
              rw [fn _ _ c2'] at he
              obtain ⟨e, k1, k2⟩ := ih g4 he
              rw [fn _ _ c1'] at k1
              exact ⟨e, k1, k2⟩
noncomputable def fTauLe (τ τ' : fT) (n : Nat) : Bool := @Nat.rec (fun _ => Bool) true (fun i ih => bI (fRowLe 1000 (τ i) (τ' i)) ih false) n
theorem fTauLe_ok {τ τ' : fT} {n : Nat} (h : fTauLe τ τ' n = true) : ∀ i, i < n → fRowLe 1000 (τ i) (τ' i) = true := by
  induction n with
  | zero => intro i hi; omega
  | succ n ih =>
    obtain ⟨h1, h2⟩ := bI_and (show bI (fRowLe 1000 (τ n) (τ' n)) (fTauLe τ τ' n) false = true from h)
    intro i hi
    by_cases e : i = n
    · rw [e]
      exact h1
    · exact ih h2 i (by omega)
theorem tyM_le {τ τ' : fT} {M : pMem} (ht : fTau τ) (ht' : fTau τ') (h : fTauLe τ τ' 205 = true) (hM : tyM (tOf τ) M) : tyM (tOf τ') M := by
  intro o k e' ho he
  unfold tyAt at he
  rw [tOf_get ht'] at he
  obtain ⟨e, h1, h2⟩ := fRowLe_ok (fTauLe_ok h o ho) he
  refine fSubE_ok h2 (hM o k e ho ?_)
  unfold tyAt
  rw [tOf_get ht]
  exact h1
/-- what kinds alone tell of places -/
noncomputable def fTyF (τ : fT) (fs : fFs) : Bool := @List.rec ((Nat × Nat) × Int) (fun _ => Bool) true (fun q _ ih => bI (fTy (τ q.1.1) q.1.2 (fun e => bI (Nat.beq e.1 0) (bI (fEq e.2.1 q.2) (fEq e.2.2.1 q.2) false) false)) ih false) fs
theorem fTyF_ok {τ : fT} {fs : fFs} {M : pMem} (ht : fTau τ) (hM : tyM (tOf τ) M) (h : fTyF τ fs = true) : fctM fs M := by
  induction fs with
  | nil => intro q hq; cases hq
  | cons p fs ih =>
    obtain ⟨k1, g2⟩ := bI_and (show bI (fTy (τ p.1.1) p.1.2 (fun e => bI (Nat.beq e.1 0) (bI (fEq e.2.1 p.2) (fEq e.2.2.1 p.2) false) false)) (fTyF τ fs) false = true from h)
    intro q hq
    rcases List.mem_cons.mp hq with rfl | hq
    · obtain ⟨e, k2, k3⟩ := fTy_at ht k1
      have ho : q.1.1 < 205 := by
        rcases Nat.lt_or_ge q.1.1 205 with ho | ho
        · exact ho
        · rw [ht _ ho] at k1
          cases k1
      have hs := hM _ _ e ho k2
      obtain ⟨k4, k5⟩ := bI_and k3
      obtain ⟨k6, k7⟩ := bI_and k5
      obtain ⟨z, hz, z1, z2⟩ := satE0 k4 hs
      rw [fEq_t k6] at z1
      rw [fEq_t k7] at z2
      rw [hz]
      have : z.toInt = q.2 := by omega
      rw [← this, Int32.ofInt_toInt]
    · exact ih g2 q hq

/-! runs of the law's body by the fast machine -/
theorem pSz_take (l : pSh) (n : Nat) : pSz (l.take n) ≤ pSz l := by
  induction l generalizing n with
  | nil => simp [pSz]
  | cons q l ih =>
    cases n with
    | zero => simp [pSz]
    | succ n =>
      have := ih n
      simp only [pSz, List.take_succ_cons, List.map_cons, List.sum_cons] at this ⊢
      omega
theorem gSh_size : pSz gSh ≤ 7302250 := by decide +kernel
def lPost : Instr → Nat → pSt → Prop := fun i len τ => i = .ireturn ∧ len = 1 ∧ τ.2.2.1 = [.int 1] ∧ τ.2.2.2.1.length ≤ 600000 ∧ pSz τ.2.2.2.1 ≤ 7302250
def lPo : List Value → pHp → Prop := fun v hp => v = [.int 1] ∧ ∃ n, hp.1 = gSh.take n
/-- from this state on the law comes to its end with 1 -/
def lOk (S : pScr) (d : Nat) (σ : pSt) : Prop := pOk S 13 false 4 (pLook kL_law) d (fun i len τ' => ∃ v, pRet (some .boolean) i len τ'.2.2.1 = some v ∧ lPo v.toList (τ'.2.2.2.1, τ'.2.2.2.2)) σ
theorem pRet_bool {i : Instr} {len : Nat} {st : List Value} {v : Option Value} (h : pRet (some .boolean) i len st = some v) : i = .ireturn ∧ len = 1 ∧ ∃ z, st = [.int z] ∧ v = some (.int z) := by
  unfold pRet at h
  (repeat' split at h) <;> first | (cases h; exact ⟨rfl, rfl, _, rfl, rfl⟩) | (rename_i hz; cases hz; done) | (cases h; done) | (cases h; rename_i hz; cases hz)
theorem lOk_end {S : pScr} {d : Nat} {σ : pSt} (h : lOk S d σ) : pOk S 13 false 4 (pLook kL_law) d lPost σ := by
  refine pOk.mono h ?_
  rintro i len ⟨pc, L, st, sh, M⟩ ⟨v, h1, h2, n, h3⟩
  have h1 : pRet (some .boolean) i len st = some v := h1
  have h3 : sh = gSh.take n := h3
  have hs : sh.length ≤ 600000 ∧ pSz sh ≤ 7302250 := by
    rw [h3]
    refine ⟨?_, Nat.le_trans (pSz_take _ _) gSh_size⟩
    rw [List.length_take, gSh_205]
    omega
  obtain ⟨rfl, rfl, z, rfl, rfl⟩ := pRet_bool h1
  have h2 : [Value.int z] = [Value.int 1] := h2
  rw [h2]
  exact ⟨rfl, rfl, rfl, hs.1, hs.2⟩
theorem lDat : ∀ pc, ∀ e ∈ lL_law pc, fEok 13 false 4 (pLook kL_law) (some .boolean) e := lL_law_ok
noncomputable def lK1 : fKap := fun v w _ => fFits w.1 v [(0, Int.ofNat 1, Int.ofNat 1, [])]
noncomputable def lRun (τ : fT) (X0 : fX) (Kt : Nat → List fCn) (dK f d : Nat) (stp : fStp) (pc : Nat) (ps : List aE) (G : List (Nat × aE)) (Bs : List aE) (fs : fFs) (br : List (Nat × Nat)) (n : Nat) : Bool := fexec τ X0 none fDs fCs Kt dK f d lL_law stp (lL_law pc) pc (cutLoc G (2 + ps.length)) (cutArg Bs (2 + (ps.length + G.length))) (cutEnv (ps ++ (cutEs G ++ Bs)), fOvF fs (cutOv G (2 + ps.length)), br, [], n) ([], []) lK1
theorem law_run {τ : fT} {X0 : fX} {Kt : Nat → List fCn} {dK f d pc n : Nat} {stp : fStp} {ps : List aE} {pv : List Value} {G : List (Nat × aE)} {Bs : List aE} {fs : fFs} {br : List (Nat × Nat)} {S : pScr} {σ : pSt} (ht : fTau τ) (hK : ∀ m, ∀ c ∈ Kt m, cnOk τ S dK m c) (hp : satS ps pv)
    (hx : ∀ (w : aW) (ρ : Nat → Value), (∀ k v, pv[k]? = some v → ρ (2 + k) = v) → 2 + ps.length ≤ w.1.length → xOk X0 S w ρ) (h : lRun τ X0 Kt dK f d stp pc ps G Bs fs br n = true)
    (hstop : ∀ (pc' : Nat) (k : aL → List aV → aW → fHy → Bool), stp pc' = some k → ∀ (A : aL) (B : List aV) (w : aW) (hy : fHy) (ρ : Nat → Value) (σ' : pSt), k A B w hy = true → aG (tOf τ) gSh ρ (pc', A, B, w) σ' → lOk S d σ') (hσ : gSat τ pc G Bs fs br n σ) : lOk S d σ := by
  obtain ⟨ρ, hG, hpv, -⟩ := gStart hp hσ
  have good := fexec_good (X0 := X0) (Md := none) (S := S) fD_ok hK ht f
  have hlen : 2 + ps.length ≤ (cutEnv (ps ++ (cutEs G ++ Bs))).length := by
    show _ ≤ ((ps ++ (cutEs G ++ Bs)).length + 1) + 1
    rw [List.length_append]
    omega
  refine (good 13 4 false (pLook kL_law) (some .boolean) d lL_law stp _ pc _ _ _ ([], []) lK1 (by decide) lDat (lDat pc) h ρ σ lPo (hx _ _ hpv hlen) hG ⟨(fun q hq => by cases hq), (fun q hq => by cases hq)⟩ trivial ?_ ?_)
  · intro pc' k hk A' B' w' h9 ρ' σ' hc _ _ hG' _ _
    exact hstop pc' k hk A' B' w' h9 ρ' σ' hc hG'
  · intro v w' h9 ρ' hp k1 _ _ _ k5 _ _
    have hf := fFits_ok k5.1 (show fFits w'.1 v [(0, Int.ofNat 1, Int.ofNat 1, [])] = true from k1)
    refine ⟨?_, w'.2.2.2.2, k5.2.2.2.1⟩
    match hv : v.map (aval ρ'), hf with
    | [], hf => exact hf.elim
    | [u], hf =>
      obtain ⟨z, hz, z1, z2⟩ := hf.1
      have : z.toInt = 1 := by
        have z1 : (1 : Int) ≤ z.toInt := z1
        have z2 : z.toInt ≤ (1 : Int) := z2
        omega
      rw [hz, show z = 1 by rw [← Int32.ofInt_toInt z, this]; rfl]
    | u :: u2 :: r, hf => exact hf.2.elim
/-- a state is what is known there -/
noncomputable def fSubB (l m : List (Nat × Nat)) : Bool := @List.rec (Nat × Nat) (fun _ => Bool) true (fun q _ ih => bI (fNoB m q.1 q.2) false ih) l
theorem fNoB_no {br : List (Nat × Nat)} {i a : Nat} (h : fNoB br i a = false) : (i, a) ∈ br := by
  induction br with
  | nil => cases h
  | cons q br ih =>
    have h : bI (Nat.beq q.1 i) (bI (Nat.beq q.2 a) false (fNoB br i a)) (fNoB br i a) = false := h
    cases h1 : Nat.beq q.1 i with
    | false =>
      rw [h1] at h
      exact List.mem_cons_of_mem _ (ih h)
    | true =>
      rw [h1] at h
      have h : bI (Nat.beq q.2 a) false (fNoB br i a) = false := h
      cases h2 : Nat.beq q.2 a with
      | true =>
        rw [show (i, a) = q from (Prod.ext (Nat.eq_of_beq_eq_true h1) (Nat.eq_of_beq_eq_true h2)).symm]
        exact List.mem_cons_self
      | false =>
        rw [h2] at h
        exact List.mem_cons_of_mem _ (ih h)
theorem fSubB_ok {l m : List (Nat × Nat)} (h : fSubB l m = true) : ∀ q ∈ l, q ∈ m := by
  induction l with
  | nil => intro q hq; cases hq
  | cons p l ih =>
    obtain ⟨h1, h2⟩ := bI_not (show bI (fNoB m p.1 p.2) false (fSubB l m) = true from h)
    intro q hq
    rcases List.mem_cons.mp hq with rfl | hq
    · exact fNoB_no h1
    · exact ih h2 q hq
/-- as fGam, the script too -/
noncomputable def fScr3 (w : aW) (a : aV) : Bool := bI (Nat.beq a.1 1) false (fNth w.1 a.1 (fun d => Nat.beq d.1 3))
noncomputable def fGm3 (A : aL) (w : aW) (G : List (Nat × aE)) : Bool := @List.rec (Nat × aE) (fun _ => Bool) true (fun q _ ih => bI (Nat.ble 1000000 q.1) false (bI (fLd A q.1 (fun a => bI (Nat.beq q.2.1 3) (fScr3 w a) (fFit w.1 a q.2))) ih false)) G
theorem fGm3_ok {A : aL} {w : aW} {G : List (Nat × aE)} {ρ : Nat → Value} {L : pLs} {M : pMem} (hE : aEnv w.1 ρ) (hA : aLoc w ρ A L) (h : fGm3 A w G = true) : ∀ q ∈ G, ∃ v, gv L M q.1 = some v ∧ satE q.2 v := by
  induction G with
  | nil => intro q hq; cases hq
  | cons p G ih =>
    obtain ⟨hb, h⟩ := bI_not (show bI (Nat.ble 1000000 p.1) false (bI (fLd A p.1 (fun a => bI (Nat.beq p.2.1 3) (fScr3 w a) (fFit w.1 a p.2))) (fGm3 A w G) false) = true from h)
    obtain ⟨h1, h2⟩ := bI_and h
    intro q hq
    rcases List.mem_cons.mp hq with rfl | hq
    · obtain ⟨a, g1, g2⟩ := fLd_ok h1
      refine ⟨_, (gv_loc hb).trans (hA _ g1).2, ?_⟩
      rcases bI_if g2 with ⟨k1, k2⟩ | ⟨-, k2⟩
      · obtain ⟨k3, k4⟩ := bI_not k2
        obtain ⟨e, k5, k6⟩ := fNth_ok k4
        have hv := hE.2.2 _ _ k5
        obtain ⟨ek, e1, e2, e3⟩ := e
        have : ek = 3 := Nat.eq_of_beq_eq_true k6
        subst this
        have hv : ρ a.1 = .retAddr 1 := hv
        obtain ⟨qi, qk, q1, q2, q3⟩ := q
        have : qk = 3 := Nat.eq_of_beq_eq_true k1
        subst this
        exact aval_ref (Nat.ne_of_beq_eq_false k3) hv (fun z hz => by cases hz)
      · exact fFit_ok hE k2
    · exact ih h2 q hq
noncomputable def gChk (G : List (Nat × aE)) (Bs : List aE) (br : List (Nat × Nat)) (n : Nat) (A : aL) (B : List aV) (w : aW) : Bool := bI (fGm3 A w G) (bI (fFits w.1 B Bs) (bI (fEmp w.2.2.2.1) (bI (fSubB w.2.2.1 br) (Nat.beq w.2.2.2.2 n) false) false) false) false
theorem gChk_ok {τ : fT} {pc n : Nat} {G : List (Nat × aE)} {Bs : List aE} {br : List (Nat × Nat)} {A : aL} {B : List aV} {w : aW} {ρ : Nat → Value} {σ : pSt} (h : gChk G Bs br n A B w = true) (hG : aG (tOf τ) gSh ρ (pc, A, B, w) σ) : gSat τ pc G Bs [] br n σ := by
  obtain ⟨h1, h⟩ := bI_and h
  obtain ⟨h2, h⟩ := bI_and h
  obtain ⟨h3, h⟩ := bI_and h
  obtain ⟨h4, h⟩ := bI_and h
  have h5 := Nat.eq_of_beq_eq_true h
  have h3 := fEmp_ok h3
  have hs : σ.2.2.1 = B.map (aval ρ) := hG.2.2.1.2
  refine ⟨hG.1, fGm3_ok hG.2.2.2.1 hG.2.1 h1, by rw [hs]; exact fFits_ok hG.2.2.2.1 h2, ?_, ?_, ?_, fun q hq => by cases hq⟩
  · have : σ.2.2.2.1 = gSh.take w.2.2.2.2 := hG.2.2.2.2.2.2.1
    rw [this, h5]
  · have : w.2.2.2.2 ≤ gSh.length := hG.2.2.2.2.2.2.2
    rw [gSh_205] at this
    omega
  · intro o k e ho hb he
    exact hG.2.2.2.2.1 o k e (by show o < w.2.2.2.2; rw [h5]; exact ho) (by show o ∉ w.2.2.2.1; rw [h3]; exact List.not_mem_nil) (fun hz => hb (fSubB_ok h4 _ hz)) he
noncomputable def stp1 (pc0 : Nat) (k : aL → List aV → aW → Bool) : fStp := fun pc => @Bool.rec (fun _ => Option (aL → List aV → aW → fHy → Bool)) none (some (fun A B w _ => k A B w)) (Nat.beq pc pc0)
theorem stp1_ok {pc0 pc : Nat} {k : aL → List aV → aW → Bool} {k' : aL → List aV → aW → fHy → Bool} (h : stp1 pc0 k pc = some k') : pc = pc0 ∧ k' = fun A B w _ => k A B w := by
  have h : (@Bool.rec (fun _ => Option (aL → List aV → aW → fHy → Bool)) none (some (fun A B w _ => k A B w)) (Nat.beq pc pc0)) = some k' := h
  cases hb : Nat.beq pc pc0 with
  | false =>
    rw [hb] at h
    cases h
  | true =>
    rw [hb] at h
    cases h
    exact ⟨Nat.eq_of_beq_eq_true hb, rfl⟩
noncomputable def fTauLe (τ τ' : fT) (n : Nat) : Bool := @Nat.rec (fun _ => Bool) true (fun i ih => bI (fRowLe 1000 (τ i) (τ' i)) ih false) n
theorem fTauLe_ok {τ τ' : fT} {n : Nat} (h : fTauLe τ τ' n = true) : ∀ i, i < n → fRowLe 1000 (τ i) (τ' i) = true := by
  induction n with
  | zero => intro i hi; omega
  | succ n ih =>
    obtain ⟨h1, h2⟩ := bI_and (show bI (fRowLe 1000 (τ n) (τ' n)) (fTauLe τ τ' n) false = true from h)
    intro i hi
    by_cases e : i = n
    · rw [e]
      exact h1
    · exact ih h2 i (by omega)
theorem tyM_le {τ τ' : fT} {M : pMem} (ht : fTau τ) (ht' : fTau τ') (h : fTauLe τ τ' 205 = true) (hM : tyM (tOf τ) M) : tyM (tOf τ') M := by
  intro o k e' ho he
  unfold tyAt at he
  rw [tOf_get ht'] at he
  obtain ⟨e, h1, h2⟩ := fRowLe_ok (fTauLe_ok h o ho) he
  refine fSubE_ok h2 (hM o k e ho ?_)
  unfold tyAt
  rw [tOf_get ht]
  exact h1
/-- what kinds alone tell of places -/
noncomputable def fTyF (τ : fT) (fs : fFs) : Bool := @List.rec ((Nat × Nat) × Int) (fun _ => Bool) true (fun q _ ih => bI (fTy (τ q.1.1) q.1.2 (fun e => bI (Nat.beq e.1 0) (bI (fEq e.2.1 q.2) (fEq e.2.2.1 q.2) false) false)) ih false) fs
theorem fTyF_ok {τ : fT} {fs : fFs} {M : pMem} (ht : fTau τ) (hM : tyM (tOf τ) M) (h : fTyF τ fs = true) : fctM fs M := by
  induction fs with
  | nil => intro q hq; cases hq
  | cons p fs ih =>
    obtain ⟨k1, g2⟩ := bI_and (show bI (fTy (τ p.1.1) p.1.2 (fun e => bI (Nat.beq e.1 0) (bI (fEq e.2.1 p.2) (fEq e.2.2.1 p.2) false) false)) (fTyF τ fs) false = true from h)
    intro q hq
    rcases List.mem_cons.mp hq with rfl | hq
    · obtain ⟨e, k2, k3⟩ := fTy_at ht k1
      have ho : q.1.1 < 205 := by
        rcases Nat.lt_or_ge q.1.1 205 with ho | ho
        · exact ho
        · rw [ht _ ho] at k1
          cases k1
      have hs := hM _ _ e ho k2
      obtain ⟨k4, k5⟩ := bI_and k3
      obtain ⟨k6, k7⟩ := bI_and k5
      obtain ⟨z, hz, z1, z2⟩ := satE0 k4 hs
      rw [fEq_t k6] at z1
      rw [fEq_t k7] at z2
      rw [hz]
      have : z.toInt = q.2 := by omega
      rw [← this, Int32.ofInt_toInt]
    · exact ih g2 q hq

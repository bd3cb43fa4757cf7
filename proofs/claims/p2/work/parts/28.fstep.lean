/-! the fast machine: steps -/
abbrev fK : Type := Nat → aL → List aV → aW → Bool
/-- the script, and which symbol is the sum of which two -/
abbrev fX : Type := aScr × List (Nat × Nat × Nat)
def xOk (X : fX) (S : pScr) (w : aW) (ρ : Nat → Value) : Prop := aScOk X.1 S w ρ ∧ ∀ q ∈ X.2, (q.1 < w.1.length ∧ q.2.1 < w.1.length ∧ q.2.2 < w.1.length) ∧ ∃ zx zy : Int32, ρ q.1 = .int zx ∧ ρ q.2.1 = .int zy ∧ ρ q.2.2 = .int (zx + zy) ∧ q.1 ≠ 1 ∧ q.2.1 ≠ 1 ∧ q.2.2 ≠ 1
abbrev fC : Type := fT → fX → aL → List aV → aW → fK → Bool
def fN (τ : fT) (ρ : Nat → Value) (w : aW) (k : fK) (σ : pSt) : Prop := ∃ (pc' : Nat) (A' : aL) (B' : List aV) (w' : aW) (ρ' : Nat → Value), k pc' A' B' w' = true ∧ aSub w.1.length ρ ρ' ∧ w.1.length ≤ w'.1.length ∧ aG (tOf τ) gSh ρ' (pc', A', B', w') σ
/-- a closure does what an instruction does -/
def fS (o : Nat) (ini : Bool) (nL : Nat) (i : Instr) (len pc : Nat) (cl : fC) : Prop :=
  ∀ (τ : fT) (X : fX), fTau τ → ∀ (A : aL) (B : List aV) (w : aW) (k : fK), cl τ X A B w k = true → ∀ (S : pScr) (ρ : Nat → Value) (L : pLs) (st : List Value) (sh : pSh) (M : pMem), xOk X S w ρ → aG (tOf τ) gSh ρ (pc, A, B, w) (pc, L, st, sh, M) → ∃ σ, pstep S o ini nL i len pc L st sh M = some (.inl σ) ∧ fN τ ρ w k σ
section FSC
variable {o nL pc pc' : Nat} {ini : Bool}
theorem fN.same {τ : fT} {ρ : Nat → Value} {w : aW} {k : fK} {A' : aL} {B' : List aV} {L' : pLs} {st' : List Value} {sh : pSh} {M : pMem} (hk : k pc' A' B' w = true) (h1 : aLoc w ρ A' L') (h2 : aStk w ρ B' st') (h3 : aWor (tOf τ) gSh w ρ sh M) : fN τ ρ w k (pc', L', st', sh, M) := ⟨pc', A', B', w, ρ, hk, aSub.rf _ _, Nat.le_refl _, rfl, h1, h2, h3⟩
noncomputable def fAll (r : Option (List aS)) (k : fK) : Bool := @Option.rec (List aS) (fun _ => Bool) false (fun l => @List.rec aS (fun _ => Bool) true (fun a _ ih => bI (k a.1 a.2.1 a.2.2.1 a.2.2.2) ih false) l) r
theorem fAll_ok {r : Option (List aS)} {k : fK} (h : fAll r k = true) : ∃ l, r = some l ∧ ∀ a ∈ l, k a.1 a.2.1 a.2.2.1 a.2.2.2 = true := by
  cases r with
  | none => cases h
  | some l =>
    refine ⟨l, rfl, ?_⟩
    induction l with
    | nil => intro a ha; cases ha
    | cons a l ih =>
      obtain ⟨h1, h2⟩ := bI_and (show bI (k a.1 a.2.1 a.2.2.1 a.2.2.2) (fAll (some l) k) false = true from h)
      intro b hb
      rcases List.mem_cons.mp hb with rfl | hb
      · exact h1
      · exact ih h2 b hb
/-- the slow way -/
noncomputable def fcSl (f : aT → aScr → aL → List aV → aW → Option (List aS)) : fC := fun τ X A B w k => fAll (f (tOf τ) X.1 A B w) k
theorem fs_sl {i : Instr} {len : Nat} {f : aT → aScr → aL → List aV → aW → Option (List aS)} (h : ∀ T Sa A B w, astep T gSh Sa o ini nL i len pc A B w = f T Sa A B w) : fS o ini nL i len pc (fcSl f) := by
  intro τ X ht A B w k hk S ρ L st sh M hS hG
  obtain ⟨l, h1, h2⟩ := fAll_ok hk
  obtain ⟨σ, g1, a, g2, ρ', g3, g4, g5⟩ := astep_sound (S := S) hS.1 hG ((h _ _ _ _ _).trans h1)
  exact ⟨σ, g1, a.1, a.2.1, a.2.2.1, a.2.2.2, ρ', h2 a g2, g3, g4, g5⟩
noncomputable def fcPush (c : Int) (pc' : Nat) : fC := fun _ _ A B w k => k pc' A ((0, c) :: B) w
theorem fs_push {i : Instr} {len : Nat} {c : Int} (h : ∀ S L st sh M, pstep S o ini nL i len pc L st sh M = pGo pc' L (.int (Int32.ofInt c) :: st) sh M) : fS o ini nL i len pc (fcPush c pc') := by
  intro τ X ht A B w k hk S ρ L st sh M hS hG
  refine ⟨_, h S L st sh M, fN.same hk hG.2.1 (hG.2.2.1.push (Nat.lt_of_lt_of_le (Nat.zero_lt_succ 1) hG.2.2.2.1.1) (aval_c hG.2.2.2.1.2.1 c)) hG.2.2.2⟩
noncomputable def fcLdI (j pc' : Nat) : fC := fun _ _ A B w k => fLd A j (fun a => fNm w.1 a (fun b => k pc' A (b :: B) w))
theorem fs_ldI {i : Instr} {len j : Nat} (h : ∀ S L st sh M, pstep S o ini nL i len pc L st sh M = pLoadI j len pc L st sh M) (hp : pc + len = pc') : fS o ini nL i len pc (fcLdI j pc') := by
  intro τ X ht A B w k hk S ρ L st sh M hS hG
  subst hp
  obtain ⟨a, h1, h2⟩ := fLd_ok hk
  obtain ⟨g1, g2⟩ := hG.2.1 _ h1
  obtain ⟨b, z, g3, g4, g5, g6⟩ := fNm_ok hG.2.2.2.1 g1 h2
  have g2 : pLd L j = some (.int z) := by rw [← g6]; exact g2
  refine ⟨(pc + len, L, .int z :: st, sh, M), ?_, fN.same g3 hG.2.1 (hG.2.2.1.push g4 g5) hG.2.2.2⟩
  rw [h]
  unfold pLoadI
  rw [g2]
  rfl
noncomputable def fcLdA (j pc' : Nat) : fC := fun _ _ A B w k => fLd A j (fun a => bI (fIsA w.1 a) (k pc' A (a :: B) w) false)
theorem fs_ldA {i : Instr} {len j : Nat} (h : ∀ S L st sh M, pstep S o ini nL i len pc L st sh M = pLoadA j len pc L st sh M) (hp : pc + len = pc') : fS o ini nL i len pc (fcLdA j pc') := by
  intro τ X ht A B w k hk S ρ L st sh M hS hG
  subst hp
  obtain ⟨a, h1, h2⟩ := fLd_ok hk
  obtain ⟨h3, h4⟩ := bI_and h2
  obtain ⟨g1, g2⟩ := hG.2.1 _ h1
  refine ⟨(pc + len, L, aval ρ a :: st, sh, M), ?_, fN.same h4 hG.2.1 (hG.2.2.1.push g1 rfl) hG.2.2.2⟩
  rw [h]
  unfold pLoadA
  have g2 : pLd L j = some (aval ρ a) := g2
  rw [g2]
  rcases fIsA_ok hG.2.2.2.1 h3 with ⟨x, hx⟩ | hx | hx <;> rw [hx] <;> rfl
noncomputable def fcStI (j pc' : Nat) : fC := fun _ _ A B w k => @List.rec aV (fun _ => Bool) false (fun a r _ => bI (fIsI w.1 a) (k pc' ((j, a) :: fS1r w.1 j A) r w) false) B
theorem fs_stI {i : Instr} {len j : Nat} (h : ∀ S L st sh M, pstep S o ini nL i len pc L st sh M = pStoI nL j len pc L st sh M) (hp : pc + len = pc') (hj : j < nL) : fS o ini nL i len pc (fcStI j pc') := by
  intro τ X ht A B w k hk S ρ L st sh M hS hG
  subst hp
  cases B with
  | nil => cases hk
  | cons a r =>
    obtain ⟨h3, h4⟩ := bI_and (show bI (fIsI w.1 a) (k (pc + len) ((j, a) :: fS1r w.1 j A) r w) false = true from hk)
    obtain ⟨-, z, hz⟩ := fIsI_ok hG.2.2.2.1 h3
    obtain ⟨st', hst, hr, ha⟩ := aStk.cons hG.2.2.1
    have hst : st = .int z :: st' := by rw [← hz]; exact hst
    subst hst
    refine ⟨(pc + len, pS1 L j (.int z), st', sh, M), ?_, fN.same h4 (fS1_ok hG.2.2.2.1 hG.2.1 ha hz) hr hG.2.2.2⟩
    rw [h]
    unfold pStoI
    simp only [hj, if_true]
    rfl
noncomputable def fcStA (j pc' : Nat) : fC := fun _ _ A B w k => @List.rec aV (fun _ => Bool) false (fun a r _ => fRn w.1 a (fun _ => k pc' ((j, a) :: fS1r w.1 j A) r w)) B
theorem fs_stA {i : Instr} {len j : Nat} (h : ∀ S L st sh M, pstep S o ini nL i len pc L st sh M = pStoA nL j len pc L st sh M) (hp : pc + len = pc') (hj : j < nL) : fS o ini nL i len pc (fcStA j pc') := by
  intro τ X ht A B w k hk S ρ L st sh M hS hG
  subst hp
  cases B with
  | nil => cases hk
  | cons a r =>
    obtain ⟨ids, i, h1, hz, h4⟩ := fRn_ok hG.2.2.2.1 (show fRn w.1 a (fun _ => k (pc + len) ((j, a) :: fS1r w.1 j A) r w) = true from hk)
    obtain ⟨st', hst, hr, ha⟩ := aStk.cons hG.2.2.1
    have hst : st = .ref i :: st' := by rw [← hz]; exact hst
    subst hst
    refine ⟨(pc + len, pS1 L j (.ref i), st', sh, M), ?_, fN.same h4 (fS1_ok hG.2.2.2.1 hG.2.1 ha hz) hr hG.2.2.2⟩
    rw [h]
    unfold pStoA
    simp only [hj, if_true]
    rfl
noncomputable def fcInc (j : Nat) (n : Int) (pc' : Nat) : fC := fun _ _ A B w k => fLd A j (fun a => bI (fIsI w.1 a) (k pc' ((j, (a.1, iAdd a.2 n)) :: fS1r w.1 j A) B w) false)
theorem fs_inc {j : Nat} {n : Int} (hp : pc + 3 = pc') (hj : j < nL) : fS o ini nL (.iinc j n) 3 pc (fcInc j n pc') := by
  intro τ X ht A B w k hk S ρ L st sh M hS hG
  subst hp
  obtain ⟨a, h1, h2⟩ := fLd_ok hk
  obtain ⟨h3, h4⟩ := bI_and h2
  obtain ⟨g1, g2⟩ := hG.2.1 _ h1
  obtain ⟨hne, z, hz⟩ := fIsI_ok hG.2.2.2.1 h3
  have g2 : pLd L j = some (.int z) := by rw [← hz]; exact g2
  refine ⟨(pc + 3, pS1 L j (.int (z + Int32.ofInt n)), st, sh, M), ?_, fN.same h4 (fS1_ok hG.2.2.2.1 hG.2.1 g1 ?_) hG.2.2.1 hG.2.2.2⟩
  · unfold pstep
    simp only [g2, hj, if_true]
    rfl
  · rw [iAdd_eq]
    exact aval_off hne hz n
noncomputable def fBinS (q : Option (List aE × aV)) (pc' : Nat) (A : aL) (r : List aV) (w : aW) (k : fK) : Bool := @Option.rec (List aE × aV) (fun _ => Bool) false (fun q => k pc' A (q.2 :: r) (q.1, w.2)) q
noncomputable def fSum (t : List (Nat × Nat × Nat)) (x y : aV) (k : Nat → Bool) (els : Bool) : Bool := @List.rec (Nat × Nat × Nat) (fun _ => Bool) els (fun q _ ih => bI (Nat.beq q.1 x.1) (bI (Nat.beq q.2.1 y.1) (bI (fEq x.2 0) (bI (fEq y.2 0) (k q.2.2) ih) ih) ih) ih) t
theorem fSum_ok {t : List (Nat × Nat × Nat)} {x y : aV} {k : Nat → Bool} {els : Bool} (h : fSum t x y k els = true) : (∃ q ∈ t, q.1 = x.1 ∧ q.2.1 = y.1 ∧ x.2 = 0 ∧ y.2 = 0 ∧ k q.2.2 = true) ∨ els = true := by
  induction t with
  | nil => exact Or.inr h
  | cons q t ih =>
    have h : bI (Nat.beq q.1 x.1) (bI (Nat.beq q.2.1 y.1) (bI (fEq x.2 0) (bI (fEq y.2 0) (k q.2.2) (fSum t x y k els)) (fSum t x y k els)) (fSum t x y k els)) (fSum t x y k els) = true := h
    have old : fSum t x y k els = true → (∃ p ∈ q :: t, p.1 = x.1 ∧ p.2.1 = y.1 ∧ x.2 = 0 ∧ y.2 = 0 ∧ k p.2.2 = true) ∨ els = true := fun hz => by
      rcases ih hz with ⟨p, h1, h2⟩ | h1
      · exact Or.inl ⟨p, List.mem_cons_of_mem _ h1, h2⟩
      · exact Or.inr h1
    rcases bI_if h with ⟨h1, h2⟩ | ⟨h1, h2⟩
    · rcases bI_if h2 with ⟨h3, h4⟩ | ⟨h3, h4⟩
      · rcases bI_if h4 with ⟨h5, h6⟩ | ⟨h5, h6⟩
        · rcases bI_if h6 with ⟨h7, h8⟩ | ⟨h7, h8⟩
          · exact Or.inl ⟨q, List.mem_cons_self, Nat.eq_of_beq_eq_true h1, Nat.eq_of_beq_eq_true h3, fEq_t h5, fEq_t h7, h8⟩
          · exact old h8
        · exact old h6
      · exact old h4
    · exact old h2
noncomputable def fAdd2 (X : fX) (pc' : Nat) (A : aL) (w : aW) (k : fK) (y x : aV) (r : List aV) : Bool := bI (Nat.beq y.1 0) (bI (fIsI w.1 x) (k pc' A ((x.1, iAdd x.2 y.2) :: r) w) false) (bI (Nat.beq x.1 0) (bI (fIsI w.1 y) (k pc' A ((y.1, iAdd y.2 x.2) :: r) w) false) (fSum X.2 x y (fun s => k pc' A ((s, 0) :: r) w) (fBinS (aBin w.1 0 x y) pc' A r w k)))
/-- the two on top -/
noncomputable def fTwo (B : List aV) (k : aV → aV → List aV → Bool) : Bool := @List.rec aV (fun _ => Bool) false (fun y r _ => @List.rec aV (fun _ => Bool) false (fun x r _ => k y x r) r) B
theorem fTwo_ok {B : List aV} {k : aV → aV → List aV → Bool} (h : fTwo B k = true) : ∃ y x r, B = y :: x :: r ∧ k y x r = true := by
  cases B with
  | nil => cases h
  | cons y r =>
    cases r with
    | nil => cases h
    | cons x r => exact ⟨y, x, r, rfl, h⟩
theorem fBinS_ok {τ : fT} {kd : Nat} {w : aW} {ρ : Nat → Value} {x y : aV} {r : List aV} {k : fK} {A : aL} {L : pLs} {st2 : List Value} {sh : pSh} {M : pMem} (hA : aLoc w ρ A L) (hB : aStk w ρ r st2) (hW : aWor (tOf τ) gSh w ρ sh M) (h : fBinS (aBin w.1 kd x y) pc' A r w k = true) : ∃ zx zy, aval ρ x = .int zx ∧ aval ρ y = .int zy ∧ fN τ ρ w k (pc', L, .int (opF kd zx zy) :: st2, sh, M) := by
  cases hb : aBin w.1 kd x y with
  | none =>
    rw [hb] at h
    cases h
  | some q =>
    rw [hb] at h
    obtain ⟨env, v⟩ := q
    obtain ⟨zx, zy, ρ', h1, h2, h3, h4, h5, h6, h7⟩ := aBin_ok hW.1 hb
    exact ⟨zx, zy, h1, h2, pc', A, v :: r, (env, w.2), ρ', h, h3, h7, rfl, hA.ext h3 h7, (hB.ext h3 h7).push h5 h6, aWor_env hW h3 h4 h7⟩
theorem aval0 {ρ : Nat → Value} {a : aV} (h0 : ρ 0 = .int 0) (h : Nat.beq a.1 0 = true) : aval ρ a = .int (Int32.ofInt a.2) := by
  have e1 : a = (0, a.2) := Prod.ext (Nat.eq_of_beq_eq_true h) rfl
  rw [e1]
  exact aval_c h0 _
noncomputable def fcAdd (pc' : Nat) : fC := fun _ X A B w k => fTwo B (fAdd2 X pc' A w k)
theorem fs_add (hp : pc + 1 = pc') : fS o ini nL .iadd 1 pc (fcAdd pc') := by
  intro τ X ht A B w k hk S ρ L st sh M hS hG
  subst hp
  obtain ⟨y, x, r, rfl, h⟩ := fTwo_ok hk
  obtain ⟨st1, hst, hr1, hy⟩ := aStk.cons hG.2.2.1
  obtain ⟨st2, hst2, hr2, hx⟩ := aStk.cons hr1
  have hst : st = aval ρ y :: aval ρ x :: st2 := by rw [← hst2]; exact hst
  subst hst
  have fin : ∀ zx zy, aval ρ x = .int zx → aval ρ y = .int zy → pstep S o ini nL .iadd 1 pc L (aval ρ y :: aval ρ x :: st2) sh M = some (.inl (pc + 1, L, .int (zx + zy) :: st2, sh, M)) := by
    intro zx zy e1 e2
    rw [e1, e2]
    rfl
  rcases bI_if h with ⟨h1, h2⟩ | ⟨h1, h2⟩
  · obtain ⟨h3, h4⟩ := bI_and h2
    obtain ⟨hne, z, hz⟩ := fIsI_ok hG.2.2.2.1 h3
    have ey := aval0 hG.2.2.2.1.2.1 h1
    refine ⟨_, fin _ _ hz ey, fN.same h4 hG.2.1 (hr2.push hx ?_) hG.2.2.2⟩
    rw [iAdd_eq]
    exact aval_off hne hz _
  · rcases bI_if h2 with ⟨h3, h4⟩ | ⟨h3, h4⟩
    · obtain ⟨h5, h6⟩ := bI_and h4
      obtain ⟨hne, z, hz⟩ := fIsI_ok hG.2.2.2.1 h5
      have ex := aval0 hG.2.2.2.1.2.1 h3
      refine ⟨_, fin _ _ ex hz, fN.same h6 hG.2.1 (hr2.push hy ?_) hG.2.2.2⟩
      rw [iAdd_eq, Int32.add_comm]
      exact aval_off hne hz _
    · rcases fSum_ok h4 with ⟨q, q1, q2, q3, q4, q5, q6⟩ | h4
      · obtain ⟨⟨-, -, c3⟩, zx, zy, c4, c5, c6, c7, c8, c9⟩ := hS.2 q q1
        have ex : aval ρ x = .int zx := by
          rw [show x = (q.1, 0) from Prod.ext q2.symm q4, aval_s0 c7, c4]
        have ey : aval ρ y = .int zy := by
          rw [show y = (q.2.1, 0) from Prod.ext q3.symm q5, aval_s0 c8, c5]
        refine ⟨_, fin _ _ ex ey, fN.same q6 hG.2.1 (hr2.push c3 ?_) hG.2.2.2⟩
        rw [aval_s0 c9, c6]
      · obtain ⟨zx, zy, e1, e2, e3⟩ := fBinS_ok hG.2.1 hr2 hG.2.2.2 h4
        exact ⟨_, fin _ _ e1 e2, e3⟩
noncomputable def fSub2 (pc' : Nat) (A : aL) (w : aW) (k : fK) (y x : aV) (r : List aV) : Bool := bI (Nat.beq y.1 0) (bI (fIsI w.1 x) (k pc' A ((x.1, iAdd x.2 (iNeg y.2)) :: r) w) false) (fBinS (aBin w.1 1 x y) pc' A r w k)
noncomputable def fcSub (pc' : Nat) : fC := fun _ _ A B w k => fTwo B (fSub2 pc' A w k)
theorem fs_sub (hp : pc + 1 = pc') : fS o ini nL .isub 1 pc (fcSub pc') := by
  intro τ X ht A B w k hk S ρ L st sh M hS hG
  subst hp
  obtain ⟨y, x, r, rfl, h⟩ := fTwo_ok hk
  obtain ⟨st1, hst, hr1, hy⟩ := aStk.cons hG.2.2.1
  obtain ⟨st2, hst2, hr2, hx⟩ := aStk.cons hr1
  have hst : st = aval ρ y :: aval ρ x :: st2 := by rw [← hst2]; exact hst
  subst hst
  have fin : ∀ zx zy, aval ρ x = .int zx → aval ρ y = .int zy → pstep S o ini nL .isub 1 pc L (aval ρ y :: aval ρ x :: st2) sh M = some (.inl (pc + 1, L, .int (zx - zy) :: st2, sh, M)) := by
    intro zx zy e1 e2
    rw [e1, e2]
    rfl
  rcases bI_if h with ⟨h1, h2⟩ | ⟨h1, h2⟩
  · obtain ⟨h3, h4⟩ := bI_and h2
    obtain ⟨hne, z, hz⟩ := fIsI_ok hG.2.2.2.1 h3
    have ey := aval0 hG.2.2.2.1.2.1 h1
    refine ⟨_, fin _ _ hz ey, fN.same h4 hG.2.1 (hr2.push hx ?_) hG.2.2.2⟩
    rw [iAdd_eq, iNeg_eq, Int32.sub_eq_add_neg, ← Int32.ofInt_neg]
    exact aval_off hne hz _
  · obtain ⟨zx, zy, e1, e2, e3⟩ := fBinS_ok hG.2.1 hr2 hG.2.2.2 h2
    exact ⟨_, fin _ _ e1 e2, e3⟩
noncomputable def fMul2 (pc' : Nat) (A : aL) (w : aW) (k : fK) (y x : aV) (r : List aV) : Bool := bI (Nat.beq y.1 0) (bI (Nat.beq x.1 0) (k pc' A ((0, iMul x.2 y.2) :: r) w) (fBinS (aBin w.1 2 x y) pc' A r w k)) (fBinS (aBin w.1 2 x y) pc' A r w k)
noncomputable def fcMul (pc' : Nat) : fC := fun _ _ A B w k => fTwo B (fMul2 pc' A w k)
theorem fs_mul (hp : pc + 1 = pc') : fS o ini nL .imul 1 pc (fcMul pc') := by
  intro τ X ht A B w k hk S ρ L st sh M hS hG
  subst hp
  obtain ⟨y, x, r, rfl, h⟩ := fTwo_ok hk
  obtain ⟨st1, hst, hr1, hy⟩ := aStk.cons hG.2.2.1
  obtain ⟨st2, hst2, hr2, hx⟩ := aStk.cons hr1
  have hst : st = aval ρ y :: aval ρ x :: st2 := by rw [← hst2]; exact hst
  subst hst
  have fin : ∀ zx zy, aval ρ x = .int zx → aval ρ y = .int zy → pstep S o ini nL .imul 1 pc L (aval ρ y :: aval ρ x :: st2) sh M = some (.inl (pc + 1, L, .int (zx * zy) :: st2, sh, M)) := by
    intro zx zy e1 e2
    rw [e1, e2]
    rfl
  have slow : fBinS (aBin w.1 2 x y) (pc + 1) A r w k = true → ∃ σ, pstep S o ini nL .imul 1 pc L (aval ρ y :: aval ρ x :: st2) sh M = some (.inl σ) ∧ fN τ ρ w k σ := fun hz => by
    obtain ⟨zx, zy, e1, e2, e3⟩ := fBinS_ok hG.2.1 hr2 hG.2.2.2 hz
    exact ⟨_, fin _ _ e1 e2, e3⟩
  rcases bI_if h with ⟨h1, h2⟩ | ⟨h1, h2⟩
  · rcases bI_if h2 with ⟨h3, h4⟩ | ⟨h3, h4⟩
    · refine ⟨_, fin _ _ (aval0 hG.2.2.2.1.2.1 h3) (aval0 hG.2.2.2.1.2.1 h1), fN.same h4 hG.2.1 (hr2.push (Nat.lt_of_lt_of_le (Nat.zero_lt_succ 1) hG.2.2.2.1.1) ?_) hG.2.2.2⟩
      rw [iMul_eq, ← Int32.ofInt_mul]
      exact aval_c hG.2.2.2.1.2.1 _
    · exact slow h4
  · exact slow h2
noncomputable def fcGoto (pc' : Nat) : fC := fun _ _ A B w k => k pc' A B w
theorem fs_goto {off : Int} (hp : (pc : Int) + off = (pc' : Int)) : fS o ini nL (.goto off) 3 pc (fcGoto pc') := by
  intro τ X ht A B w k hk S ρ L st sh M hS hG
  refine ⟨(pc', L, st, sh, M), ?_, fN.same hk hG.2.1 hG.2.2.1 hG.2.2.2⟩
  show pJp pc off L st sh M = _
  unfold pJp
  rw [hp, if_neg (by omega)]
  rfl
noncomputable def fSetN (env : List aE) (n : Nat) (x : aE) : List aE := @List.rec aE (fun _ => Nat → List aE) (fun _ => []) (fun e tl ih n => @Bool.rec (fun _ => List aE) (e :: ih (Nat.sub n 1)) (x :: tl) (Nat.beq n 0)) env n
theorem fSetN_eq {env : List aE} {n : Nat} {x : aE} : fSetN env n x = env.set n x := by
  induction env generalizing n with
  | nil => rfl
  | cons e env ih =>
    cases n with
    | zero => rfl
    | succ n => exact congrArg (fun z => e :: z) (ih (n := n))
noncomputable def fMax (a b : Int) : Int := @Bool.rec (fun _ => Int) a b (fLe a b)
noncomputable def fMin (a b : Int) : Int := @Bool.rec (fun _ => Int) b a (fLe a b)
theorem fMax_le {a b z : Int} (h1 : a ≤ z) (h2 : b ≤ z) : fMax a b ≤ z := by
  unfold fMax
  cases fLe a b
  · exact h1
  · exact h2
theorem le_fMin {a b z : Int} (h1 : z ≤ a) (h2 : z ≤ b) : z ≤ fMin a b := by
  unfold fMin
  cases fLe a b
  · exact h2
  · exact h1
noncomputable def fMeetS (env : List aE) (s : Nat) (l u : Int) (k : List aE → Bool) : Bool := bI (fLe l u) (k (fSetN env s (0, l, u, []))) true
noncomputable def fMeetE (env : List aE) (a : aV) (lo hi : Int) (k : List aE → Bool) (e : aE) : Bool := bI (Nat.beq e.1 0) (bI (fR (iAdd e.2.1 a.2)) (bI (fR (iAdd e.2.2.1 a.2)) (fMeetS env a.1 (fMax e.2.1 (iAdd lo (iNeg a.2))) (fMin e.2.2.1 (iAdd hi (iNeg a.2))) k) false) false) false
/-- a number is held to bounds; true where it can't be -/
noncomputable def fMeet (env : List aE) (a : aV) (lo hi : Int) (k : List aE → Bool) : Bool := bI (Nat.beq a.1 0) (bI (fR a.2) (bI (fLe lo a.2) (bI (fLe a.2 hi) (k env) true) true) false) (bI (Nat.beq a.1 1) false (fNth env a.1 (fMeetE env a lo hi k)))
theorem fMeet_ok {ρ : Nat → Value} {env : List aE} {a : aV} {lo hi : Int} {k : List aE → Bool} {z : Int32} (hE : aEnv env ρ) (h : fMeet env a lo hi k = true) (hz : aval ρ a = .int z) (h1 : lo ≤ z.toInt) (h2 : z.toInt ≤ hi) : ∃ e', k e' = true ∧ aEnv e' ρ ∧ e'.length = env.length := by
  rcases bI_if h with ⟨g1, g2⟩ | ⟨g1, g2⟩
  · obtain ⟨g3, g4⟩ := bI_and g2
    rw [aval0 hE.2.1 g1] at hz
    have hz := Value.int.inj hz
    have hq := i32_of (fR_t g3).1 (fR_t g3).2
    rw [hz] at hq
    rcases bI_if g4 with ⟨-, g5⟩ | ⟨g5, -⟩
    · rcases bI_if g5 with ⟨-, g6⟩ | ⟨g6, -⟩
      · exact ⟨env, g6, hE, rfl⟩
      · exact absurd (by omega) (fLe_f g6)
    · exact absurd (by omega) (fLe_f g5)
  · obtain ⟨g3, g4⟩ := bI_not g2
    have hn := Nat.ne_of_beq_eq_false g3
    obtain ⟨e, g5, g6⟩ := fNth_ok g4
    obtain ⟨g7, g8⟩ := bI_and g6
    obtain ⟨r1, g9⟩ := bI_and g8
    obtain ⟨r2, g10⟩ := bI_and g9
    obtain ⟨z0, hz0, q1, q2⟩ := satE0 g7 (hE.2.2 _ _ g5)
    unfold aval at hz
    rw [if_neg hn, hz0] at hz
    have hz := Value.int.inj hz
    rw [iAdd_eq] at r1 r2
    have hq := i32_add (z := z0) (n := a.2) (by have := fR_t r1; omega) (by have := fR_t r2; omega)
    rw [hz] at hq
    rw [iAdd_eq, iAdd_eq, iNeg_eq] at g10
    have e1 : fMax e.2.1 (lo + -a.2) ≤ z0.toInt := fMax_le q1 (by omega)
    have e2 : z0.toInt ≤ fMin e.2.2.1 (hi + -a.2) := le_fMin q2 (by omega)
    rcases bI_if g10 with ⟨-, g11⟩ | ⟨g11, -⟩
    · refine ⟨_, g11, ?_, by rw [fSetN_eq, List.length_set]⟩
      rw [fSetN_eq]
      refine ⟨by rw [List.length_set]; exact hE.1, hE.2.1, fun s' e' hs' => ?_⟩
      rw [List.getElem?_set] at hs'
      split at hs'
      · rename_i hss
        split at hs'
        · cases hs'
          subst hss
          exact ⟨z0, hz0, e1, e2⟩
        · cases hs'
      · exact hE.2.2 s' e' hs'
    · exact absurd (by omega) (fLe_f g11)
/-- both are held to bounds -/
noncomputable def fM2 (x y : aV) (l1 u1 l2 u2 : Int) (c : Nat) (A : aL) (r : List aV) (w : aW) (k : fK) : Bool := fMeet w.1 x l1 u1 (fun e1 => fMeet e1 y l2 u2 (fun e2 => k c A r (e2, w.2)))
noncomputable def fIf3 (c1 c2 c3 : Nat) (A : aL) (w : aW) (k : fK) (y x : aV) (r : List aV) (lx ux ly uy : Int) : Bool := bI (Nat.beq c2 c3) (bI (fM2 x y lx (iAdd uy (-1)) (iAdd lx 1) uy c1 A r w k) (fM2 x y ly ux ly ux c2 A r w k) false)
  (bI (Nat.beq c1 c2) (bI (fM2 x y lx uy lx uy c1 A r w k) (fM2 x y (iAdd ly 1) ux ly (iAdd ux (-1)) c3 A r w k) false)
  (bI (fM2 x y lx (iAdd uy (-1)) (iAdd lx 1) uy c1 A r w k) (bI (fM2 x y ly uy lx ux c2 A r w k) (fM2 x y (iAdd ly 1) ux ly (iAdd ux (-1)) c3 A r w k) false) false))
noncomputable def fIfG (c1 c2 c3 : Nat) (A : aL) (w : aW) (k : fK) (y x : aV) (r : List aV) : Bool := fIv w.1 x (fun lx ux => fIv w.1 y (fun ly uy => bI (Nat.beq x.1 y.1) (bI (fEq x.2 y.2) (k c2 A r w) (fIf3 c1 c2 c3 A w k y x r lx ux ly uy)) (fIf3 c1 c2 c3 A w k y x r lx ux ly uy)))
/-- compare: where to go if less, alike, more -/
noncomputable def fIf2 (c1 c2 c3 : Nat) (A : aL) (w : aW) (k : fK) (y x : aV) (r : List aV) : Bool := bI (Nat.beq y.1 0) (bI (Nat.beq x.1 0) (bI (fR x.2) (bI (fR y.2) (bI (fLe x.2 y.2) (bI (fEq x.2 y.2) (k c2 A r w) (k c1 A r w)) (k c3 A r w)) false) false) (fIfG c1 c2 c3 A w k y x r)) (fIfG c1 c2 c3 A w k y x r)
theorem aG.env' {τ : fT} {ρ : Nat → Value} {w : aW} {A : aL} {L : pLs} {r : List aV} {st : List Value} {sh : pSh} {M : pMem} {e : List aE} {k : fK} (hA : aLoc w ρ A L) (hB : aStk w ρ r st) (hW : aWor (tOf τ) gSh w ρ sh M) (h2 : aEnv e ρ) (h3 : e.length = w.1.length) (hk : k pc' A r (e, w.2) = true) : fN τ ρ w k (pc', L, st, sh, M) := by
  have hl : w.1.length ≤ e.length := by rw [h3]; exact Nat.le_refl _
  exact ⟨pc', A, r, (e, w.2), ρ, hk, aSub.rf _ _, hl, rfl, hA.ext (w' := (e, w.2)) (aSub.rf _ _) hl, hB.ext (w' := (e, w.2)) (aSub.rf _ _) hl, aWor_env hW (aSub.rf _ _) h2 hl⟩
theorem fIf2_ok {τ : fT} {ρ : Nat → Value} {w : aW} {A : aL} {L : pLs} {r : List aV} {st : List Value} {sh : pSh} {M : pMem} {k : fK} {x y : aV} {c1 c2 c3 : Nat} (hA : aLoc w ρ A L) (hB : aStk w ρ r st) (hW : aWor (tOf τ) gSh w ρ sh M) (h : fIf2 c1 c2 c3 A w k y x r = true) : ∃ zx zy : Int32, aval ρ x = .int zx ∧ aval ρ y = .int zy ∧ (zx < zy → fN τ ρ w k (c1, L, st, sh, M)) ∧ (zx = zy → fN τ ρ w k (c2, L, st, sh, M)) ∧ (zy < zx → fN τ ρ w k (c3, L, st, sh, M)) := by
  have slow : fIfG c1 c2 c3 A w k y x r = true → ∃ zx zy : Int32, aval ρ x = .int zx ∧ aval ρ y = .int zy ∧ (zx < zy → fN τ ρ w k (c1, L, st, sh, M)) ∧ (zx = zy → fN τ ρ w k (c2, L, st, sh, M)) ∧ (zy < zx → fN τ ρ w k (c3, L, st, sh, M)) := by
    intro h
    obtain ⟨zx, lx, ux, ex, bx1, bx2, h, hx1⟩ := fIv_ok hW.1 h
    obtain ⟨zy, ly, uy, ey, by1, by2, h, hy1⟩ := fIv_ok hW.1 h
    refine ⟨zx, zy, ex, ey, ?_⟩
    have two : ∀ (l1 u1 l2 u2 : Int) (c : Nat), fM2 x y l1 u1 l2 u2 c A r w k = true → l1 ≤ zx.toInt → zx.toInt ≤ u1 → l2 ≤ zy.toInt → zy.toInt ≤ u2 → fN τ ρ w k (c, L, st, sh, M) := by
      intro l1 u1 l2 u2 c hm g1 g2 g3 g4
      obtain ⟨e1, m1, m2, m3⟩ := fMeet_ok hW.1 hm ex g1 g2
      obtain ⟨e2, n1, n2, n3⟩ := fMeet_ok m2 m1 ey g3 g4
      exact aG.env' hA hB hW n2 (n3.trans m3) n1
    have gen : fIf3 c1 c2 c3 A w k y x r lx ux ly uy = true → (zx < zy → fN τ ρ w k (c1, L, st, sh, M)) ∧ (zx = zy → fN τ ρ w k (c2, L, st, sh, M)) ∧ (zy < zx → fN τ ρ w k (c3, L, st, sh, M)) := by
      intro h
      unfold fIf3 at h
      rw [iAdd_eq, iAdd_eq, iAdd_eq, iAdd_eq] at h
      rw [Int32.lt_iff_toInt_lt, Int32.lt_iff_toInt_lt, ← Int32.toInt_inj]
      rcases bI_if h with ⟨hc, h9⟩ | ⟨-, h9⟩
      · have hc := Nat.eq_of_beq_eq_true hc
        subst hc
        obtain ⟨h1, h2⟩ := bI_and h9
        exact ⟨fun hz => two _ _ _ _ _ h1 (by omega) (by omega) (by omega) (by omega), fun hz => two _ _ _ _ _ h2 (by omega) (by omega) (by omega) (by omega), fun hz => two _ _ _ _ _ h2 (by omega) (by omega) (by omega) (by omega)⟩
      · rcases bI_if h9 with ⟨hc, h8⟩ | ⟨-, h8⟩
        · have hc := Nat.eq_of_beq_eq_true hc
          subst hc
          obtain ⟨h1, h2⟩ := bI_and h8
          exact ⟨fun hz => two _ _ _ _ _ h1 (by omega) (by omega) (by omega) (by omega), fun hz => two _ _ _ _ _ h1 (by omega) (by omega) (by omega) (by omega), fun hz => two _ _ _ _ _ h2 (by omega) (by omega) (by omega) (by omega)⟩
        · obtain ⟨h1, h7⟩ := bI_and h8
          obtain ⟨h2, h3⟩ := bI_and h7
          exact ⟨fun hz => two _ _ _ _ _ h1 (by omega) (by omega) (by omega) (by omega), fun hz => two _ _ _ _ _ h2 (by omega) (by omega) (by omega) (by omega), fun hz => two _ _ _ _ _ h3 (by omega) (by omega) (by omega) (by omega)⟩
    rcases bI_if h with ⟨h1, h2⟩ | ⟨-, h2⟩
    · rcases bI_if h2 with ⟨h3, h4⟩ | ⟨-, h4⟩
      · have he : x = y := Prod.ext (Nat.eq_of_beq_eq_true h1) (fEq_t h3)
        subst he
        rw [ex] at ey
        cases ey
        have lt : ¬ zx < zx := Int32.lt_irrefl
        exact ⟨fun hz => absurd hz lt, fun _ => fN.same h4 hA hB hW, fun hz => absurd hz lt⟩
      · exact gen h4
    · exact gen h2
  rcases bI_if h with ⟨h1, h2⟩ | ⟨-, h2⟩
  · rcases bI_if h2 with ⟨h3, h4⟩ | ⟨-, h4⟩
    · obtain ⟨r1, h5⟩ := bI_and h4
      obtain ⟨r2, h6⟩ := bI_and h5
      have ex := aval0 hW.1.2.1 h3
      have ey := aval0 hW.1.2.1 h1
      have tx := i32_of (fR_t r1).1 (fR_t r1).2
      have ty := i32_of (fR_t r2).1 (fR_t r2).2
      refine ⟨_, _, ex, ey, ?_⟩
      rw [Int32.lt_iff_toInt_lt, Int32.lt_iff_toInt_lt, ← Int32.toInt_inj, tx, ty]
      rcases bI_if h6 with ⟨b1, b2⟩ | ⟨b1, b2⟩
      · have b1 := fLe_t b1
        rcases bI_if b2 with ⟨b3, b4⟩ | ⟨b3, b4⟩
        · have b3 := fEq_t b3
          exact ⟨fun hz => by omega, fun _ => fN.same b4 hA hB hW, fun hz => by omega⟩
        · have b3 := fEq_f b3
          exact ⟨fun _ => fN.same b4 hA hB hW, fun hz => absurd hz b3, fun hz => by omega⟩
      · have b1 := fLe_f b1
        exact ⟨fun hz => by omega, fun hz => by omega, fun _ => fN.same b2 hA hB hW⟩
    · exact slow h4
  · exact slow h2
/-- where the six compares go: less, alike, more -/
def cdOk (cd : Jvm.ClassFile.Cond) (tgt nxt c1 c2 c3 : Nat) : Bool := match cd with
  | .eq => Nat.beq c1 nxt && (Nat.beq c2 tgt && Nat.beq c3 nxt)
  | .ne => Nat.beq c1 tgt && (Nat.beq c2 nxt && Nat.beq c3 tgt)
  | .lt => Nat.beq c1 tgt && (Nat.beq c2 nxt && Nat.beq c3 nxt)
  | .ge => Nat.beq c1 nxt && (Nat.beq c2 tgt && Nat.beq c3 tgt)
  | .gt => Nat.beq c1 nxt && (Nat.beq c2 nxt && Nat.beq c3 tgt)
  | .le => Nat.beq c1 tgt && (Nat.beq c2 tgt && Nat.beq c3 nxt)
theorem cd_go {τ : fT} {ρ : Nat → Value} {w : aW} {k : fK} {cd : Jvm.ClassFile.Cond} {off : Int} {tgt c1 c2 c3 : Nat} {zx zy : Int32} {L : pLs} {st : List Value} {sh : pSh} {M : pMem} (hc : cdOk cd tgt (pc + 3) c1 c2 c3 = true) (ho : (pc : Int) + off = (tgt : Int)) (h1 : zx < zy → fN τ ρ w k (c1, L, st, sh, M)) (h2 : zx = zy → fN τ ρ w k (c2, L, st, sh, M)) (h3 : zy < zx → fN τ ρ w k (c3, L, st, sh, M)) : ∃ σ, pBr (pC cd zx zy) pc off L st sh M = some (.inl σ) ∧ fN τ ρ w k σ := by
  have tri : zx < zy ∨ zx = zy ∨ zy < zx := by
    rw [Int32.lt_iff_toInt_lt, Int32.lt_iff_toInt_lt, ← Int32.toInt_inj]
    omega
  have key : ∀ (b : Bool) (c : Nat), pC cd zx zy = b → Nat.beq c (if b = true then tgt else pc + 3) = true → fN τ ρ w k (c, L, st, sh, M) → ∃ σ, pBr (pC cd zx zy) pc off L st sh M = some (.inl σ) ∧ fN τ ρ w k σ := by
    intro b c hb he hn
    have he := Nat.eq_of_beq_eq_true he
    subst he
    refine ⟨_, ?_, hn⟩
    unfold pBr
    rw [ho, if_neg (by omega), hb]
    cases b <;> rfl
  have lt_tri := fun (a b : Int32) => (Int32.lt_iff_toInt_lt (x := a) (y := b))
  have le_tri := fun (a b : Int32) => (Int32.le_iff_toInt_le (x := a) (y := b))
  have eq_tri := fun (a b : Int32) => (Int32.toInt_inj (x := a) (y := b))
  unfold cdOk at hc
  rcases tri with h | h | h
  · have hq := (lt_tri _ _).mp h
    have ne : ¬ zx = zy := fun z => by rw [← eq_tri] at z; omega
    have nl : ¬ zy < zx := fun z => by have := (lt_tri _ _).mp z; omega
    have le : zx ≤ zy := (le_tri _ _).mpr (by omega)
    have nle : ¬ zy ≤ zx := fun z => by have := (le_tri _ _).mp z; omega
    cases cd <;> simp only [Bool.and_eq_true] at hc <;> obtain ⟨e1, e2, e3⟩ := hc
    · exact key false _ (by simp [pC, ne]) e1 (h1 h)
    · exact key true _ (by simp [pC, ne]) e1 (h1 h)
    · exact key true _ (by simp [pC, h]) e1 (h1 h)
    · exact key false _ (by simp [pC, nle]) e1 (h1 h)
    · exact key false _ (by simp [pC, nl]) e1 (h1 h)
    · exact key true _ (by simp [pC, le]) e1 (h1 h)
  · have ir : ¬ zx < zy := fun z => by have := (lt_tri _ _).mp z; rw [← eq_tri] at h; omega
    have ir2 : ¬ zy < zx := fun z => by have := (lt_tri _ _).mp z; rw [← eq_tri] at h; omega
    have le : zx ≤ zy := (le_tri _ _).mpr (by rw [← eq_tri] at h; omega)
    have le2 : zy ≤ zx := (le_tri _ _).mpr (by rw [← eq_tri] at h; omega)
    cases cd <;> simp only [Bool.and_eq_true] at hc <;> obtain ⟨e1, e2, e3⟩ := hc
    · exact key true _ (by simp [pC, h]) e2 (h2 h)
    · exact key false _ (by simp [pC, h]) e2 (h2 h)
    · exact key false _ (by simp [pC, ir]) e2 (h2 h)
    · exact key true _ (by simp [pC, le2]) e2 (h2 h)
    · exact key false _ (by simp [pC, ir2]) e2 (h2 h)
    · exact key true _ (by simp [pC, le]) e2 (h2 h)
  · have hq := (lt_tri _ _).mp h
    have ne : ¬ zx = zy := fun z => by rw [← eq_tri] at z; omega
    have nl : ¬ zx < zy := fun z => by have := (lt_tri _ _).mp z; omega
    have le : zy ≤ zx := (le_tri _ _).mpr (by omega)
    have nle : ¬ zx ≤ zy := fun z => by have := (le_tri _ _).mp z; omega
    cases cd <;> simp only [Bool.and_eq_true] at hc <;> obtain ⟨e1, e2, e3⟩ := hc
    · exact key false _ (by simp [pC, ne]) e3 (h3 h)
    · exact key true _ (by simp [pC, ne]) e3 (h3 h)
    · exact key false _ (by simp [pC, nl]) e3 (h3 h)
    · exact key true _ (by simp [pC, le]) e3 (h3 h)
    · exact key true _ (by simp [pC, h]) e3 (h3 h)
    · exact key false _ (by simp [pC, nle]) e3 (h3 h)
noncomputable def fcIcmp (c1 c2 c3 : Nat) : fC := fun _ _ A B w k => fTwo B (fIf2 c1 c2 c3 A w k)
theorem fs_icmp {cd : Jvm.ClassFile.Cond} {off : Int} {c1 c2 c3 : Nat} (tgt : Nat) (hc : cdOk cd tgt (pc + 3) c1 c2 c3 = true) (ho : (pc : Int) + off = (tgt : Int)) : fS o ini nL (.if_icmp cd off) 3 pc (fcIcmp c1 c2 c3) := by
  intro τ X ht A B w k hk S ρ L st sh M hS hG
  obtain ⟨y, x, r, rfl, h⟩ := fTwo_ok hk
  obtain ⟨st1, hst, hr1, hy⟩ := aStk.cons hG.2.2.1
  obtain ⟨st2, hst2, hr2, hx⟩ := aStk.cons hr1
  have hst : st = aval ρ y :: aval ρ x :: st2 := by rw [← hst2]; exact hst
  subst hst
  obtain ⟨zx, zy, ex, ey, h1, h2, h3⟩ := fIf2_ok hG.2.1 hr2 hG.2.2.2 h
  rw [ex, ey]
  exact cd_go hc ho h1 h2 h3
noncomputable def fcIf (c1 c2 c3 : Nat) : fC := fun _ _ A B w k => @List.rec aV (fun _ => Bool) false (fun x r _ => fIf2 c1 c2 c3 A w k (0, 0) x r) B
theorem fs_if {cd : Jvm.ClassFile.Cond} {off : Int} {c1 c2 c3 : Nat} (tgt : Nat) (hc : cdOk cd tgt (pc + 3) c1 c2 c3 = true) (ho : (pc : Int) + off = (tgt : Int)) : fS o ini nL (.ifCond cd off) 3 pc (fcIf c1 c2 c3) := by
  intro τ X ht A B w k hk S ρ L st sh M hS hG
  cases B with
  | nil => cases hk
  | cons x r =>
    obtain ⟨st2, hst, hr2, hx⟩ := aStk.cons hG.2.2.1
    have hst : st = aval ρ x :: st2 := hst
    subst hst
    obtain ⟨zx, zy, ex, ey, h1, h2, h3⟩ := fIf2_ok hG.2.1 hr2 hG.2.2.2 (show fIf2 c1 c2 c3 A w k (0, 0) x r = true from hk)
    have hy : zy = 0 := by
      rw [aval_c hG.2.2.2.1.2.1] at ey
      exact (Value.int.inj ey).symm
    subst hy
    rw [ex]
    exact cd_go hc ho h1 h2 h3
end FSC
/-! the fast machine: memory steps -/
section FSD
variable {o nL pc pc' : Nat} {ini : Bool}
theorem fSh_get {i : Nat} (h : i < 205) : fSh i = gSh[i]? := fSh_ok i h
noncomputable def fObj (n : Nat) (p : Nat → Nat → Bool) (ids : List Nat) : Bool := @List.rec Nat (fun _ => Bool) true (fun i _ ih => bI (Nat.ble (Nat.succ i) n) (@Option.rec (Nat × Nat) (fun _ => Bool) false (fun q => bI (p q.1 q.2) ih false) (fSh i)) false) ids
theorem fObj_ok {n : Nat} {p : Nat → Nat → Bool} {ids : List Nat} {i : Nat} (h : fObj n p ids = true) (hi : i ∈ ids) (hn : n ≤ 205) : ∃ c m, (gSh.take n)[i]? = some (c, m) ∧ p c m = true := by
  induction ids with
  | nil => cases hi
  | cons j ids ih =>
    obtain ⟨h1, h2⟩ := bI_and (show bI (Nat.ble (Nat.succ j) n) (@Option.rec (Nat × Nat) (fun _ => Bool) false (fun q => bI (p q.1 q.2) (fObj n p ids) false) (fSh j)) false = true from h)
    have h1 : j < n := Nat.le_of_ble_eq_true h1
    cases hq : fSh j with
    | none =>
      rw [hq] at h2
      cases h2
    | some q =>
      rw [hq] at h2
      obtain ⟨h3, h4⟩ := bI_and (show bI (p q.1 q.2) (fObj n p ids) false = true from h2)
      rcases List.mem_cons.mp hi with rfl | hi
      · refine ⟨q.1, q.2, ?_, h3⟩
        rw [List.getElem?_take_of_lt h1, ← fSh_get (by omega), hq]
      · exact ih h4 hi
noncomputable def fReadS (τ : fT) (w : aW) (ids : List Nat) (a b : Nat) (kk : aV → aW → Bool) : Bool := @Option.rec (aV × aW) (fun _ => Bool) false (fun q => kk q.1 q.2) (aRead (tOf τ) w ids a b)
noncomputable def fRead (τ : fT) (w : aW) (ids : List Nat) (a b : Nat) (kk : aV → aW → Bool) : Bool := bI (Nat.beq a b) (@List.rec Nat (fun _ => Bool) false (fun i r _ => @List.rec Nat (fun _ => Bool) (fRead1 τ w i a kk) (fun _ _ _ => fReadS τ w ids a b kk) r) ids) (fReadS τ w ids a b kk)
theorem fRead_ok {τ : fT} {sh0 sh : pSh} {w : aW} {ρ : Nat → Value} {M : pMem} {ids : List Nat} {i a b c : Nat} {kk : aV → aW → Bool} (ht : fTau τ) (h : fRead τ w ids a b kk = true) (hW : aWor (tOf τ) sh0 w ρ sh M) (hi : i ∈ ids) (h1 : a ≤ c) (h2 : c ≤ b) :
    ∃ (v : aV) (w' : aW) (ρ' : Nat → Value), kk v w' = true ∧ aSub w.1.length ρ ρ' ∧ aWor (tOf τ) sh0 w' ρ' sh M ∧ v.1 < w'.1.length ∧ M i c = aval ρ' v ∧ w.1.length ≤ w'.1.length := by
  have slow : fReadS τ w ids a b kk = true → ∃ (v : aV) (w' : aW) (ρ' : Nat → Value), kk v w' = true ∧ aSub w.1.length ρ ρ' ∧ aWor (tOf τ) sh0 w' ρ' sh M ∧ v.1 < w'.1.length ∧ M i c = aval ρ' v ∧ w.1.length ≤ w'.1.length := by
    intro h
    unfold fReadS at h
    cases hr : aRead (tOf τ) w ids a b with
    | none =>
      rw [hr] at h
      cases h
    | some q =>
      rw [hr] at h
      obtain ⟨ρ', g1, g2, g3, g4, g5, -⟩ := aRead_ok (v := q.1) (w' := q.2) hr hW hi h1 h2
      exact ⟨q.1, q.2, ρ', h, g1, g2, g3, g4, g5⟩
  rcases bI_if h with ⟨g1, g2⟩ | ⟨-, g2⟩
  · have hab := Nat.eq_of_beq_eq_true g1
    have hc : c = a := by omega
    match ids, hi, g2, slow with
    | [], hi, _, _ => cases hi
    | [j], hi, g2, _ =>
      have := List.mem_singleton.mp hi
      subst this
      subst hc
      exact fRead1_ok ht (show fRead1 τ w i c kk = true from g2) hW
    | j :: j2 :: r, hi, g2, slow => exact slow g2
  · exact slow g2
noncomputable def fWrS (τ : fT) (w : aW) (ids : List Nat) (a b : Nat) (v : aV) (kk : aW → Bool) : Bool := @Option.rec aW (fun _ => Bool) false (fun q => kk q) (aWrite (tOf τ) w ids a b v)
noncomputable def fWr (τ : fT) (w : aW) (ids : List Nat) (a b : Nat) (v : aV) (kk : aW → Bool) : Bool := bI (Nat.beq a b) (@List.rec Nat (fun _ => Bool) false (fun i r _ => @List.rec Nat (fun _ => Bool) (fWr1 τ w i a v kk) (fun _ _ _ => fWrS τ w ids a b v kk) r) ids) (fWrS τ w ids a b v kk)
theorem fWr_ok {τ : fT} {sh0 sh : pSh} {w : aW} {ρ : Nat → Value} {M : pMem} {ids : List Nat} {i a b c : Nat} {v : aV} {kk : aW → Bool} (ht : fTau τ) (h : fWr τ w ids a b v kk = true) (hW : aWor (tOf τ) sh0 w ρ sh M) (hv : v.1 < w.1.length) (hi : i ∈ ids) (h1 : a ≤ c) (h2 : c ≤ b) :
    ∃ w' : aW, kk w' = true ∧ w'.1 = w.1 ∧ aWor (tOf τ) sh0 w' ρ sh (pUp M i c (aval ρ v)) := by
  have slow : fWrS τ w ids a b v kk = true → ∃ w' : aW, kk w' = true ∧ w'.1 = w.1 ∧ aWor (tOf τ) sh0 w' ρ sh (pUp M i c (aval ρ v)) := by
    intro h
    unfold fWrS at h
    cases hr : aWrite (tOf τ) w ids a b v with
    | none =>
      rw [hr] at h
      cases h
    | some q =>
      rw [hr] at h
      obtain ⟨g1, g2⟩ := aWrite_ok hr hW hv hi h1 h2
      exact ⟨q, h, g2, g1⟩
  rcases bI_if h with ⟨g1, g2⟩ | ⟨-, g2⟩
  · have hab := Nat.eq_of_beq_eq_true g1
    have hc : c = a := by omega
    match ids, hi, g2, slow with
    | [], hi, _, _ => cases hi
    | [j], hi, g2, _ =>
      have := List.mem_singleton.mp hi
      subst this
      subst hc
      exact fWr1_ok ht (show fWr1 τ w i c v kk = true from g2) hW hv
    | j :: j2 :: r, hi, g2, slow => exact slow g2
  · exact slow g2
theorem fn_of {τ : fT} {ρ ρ' : Nat → Value} {w w' : aW} {k : fK} {A : aL} {B : List aV} {L : pLs} {st : List Value} {sh : pSh} {M : pMem} (hk : k pc' A B w' = true) (hs : aSub w.1.length ρ ρ') (hl : w.1.length ≤ w'.1.length) (hA : aLoc w' ρ' A L) (hB : aStk w' ρ' B st) (hW : aWor (tOf τ) gSh w' ρ' sh M) : fN τ ρ w k (pc', L, st, sh, M) := ⟨pc', A, B, w', ρ', hk, hs, hl, rfl, hA, hB, hW⟩
theorem gSh_205 : gSh.length = 205 := by decide +kernel
noncomputable def fGet1 (τ : fT) (ci fk pc' : Nat) (A : aL) (w : aW) (k : fK) (r : List aV) (ids : List Nat) : Bool := bI (fObj w.2.2.2.2 (fun c n => bI (Nat.beq c ci) (Nat.ble (Nat.succ fk) n) false) ids) (fRead τ w ids fk fk (fun v w' => k pc' A (v :: r) w')) false
noncomputable def fcGet (ci fk pc' : Nat) : fC := fun τ _ A B w k => @List.rec aV (fun _ => Bool) false (fun a r _ => fRn w.1 a (fGet1 τ ci fk pc' A w k r)) B
theorem fs_get {idx ci fk q : Nat} (hf : pFindI tFld o idx = some (q, ci, fk)) (hp : pc + 3 = pc') : fS o ini nL (.getfield idx) 3 pc (fcGet ci fk pc') := by
  intro τ X ht A B w k hk S ρ L st sh M hS hG
  subst hp
  cases B with
  | nil => cases hk
  | cons a r =>
    obtain ⟨ids, i, hi, hv, h1⟩ := fRn_ok hG.2.2.2.1 (show fRn w.1 a (fGet1 τ ci fk (pc + 3) A w k r) = true from hk)
    obtain ⟨h2, h3⟩ := bI_and h1
    obtain ⟨hE, hI, hO, hSh, hN⟩ := hG.2.2.2
    have hN : w.2.2.2.2 ≤ 205 := by rw [← gSh_205]; exact hN
    obtain ⟨c, m, hs, hpp⟩ := fObj_ok h2 hi hN
    obtain ⟨q1, q2⟩ := bI_and hpp
    have e1 : c = ci := Nat.eq_of_beq_eq_true q1
    have e2 : fk < m := Nat.le_of_ble_eq_true q2
    obtain ⟨st2, hst, hrs⟩ := aStk.top hG.2.2.1 hv
    have hst : st = .ref i :: st2 := hst
    subst hst
    have hSh : sh = gSh.take w.2.2.2.2 := hSh
    obtain ⟨v, w', ρ', g1, g2, g3, g4, g5, g6⟩ := fRead_ok ht h3 hG.2.2.2 hi (Nat.le_refl fk) (Nat.le_refl fk)
    refine ⟨(pc + 3, L, M i fk :: st2, sh, M), ?_, fn_of g1 g2 g6 (hG.2.1.ext g2 g6) ((hrs.ext g2 g6).push g4 g5.symm) g3⟩
    show pGetF o idx pc L (.ref i :: st2) sh M = _
    unfold pGetF
    simp only
    rw [hf, hSh, hs]
    simp only [if_pos (show c = ci ∧ fk < m from ⟨e1, e2⟩)]
    rfl
noncomputable def fPut1 (τ : fT) (ci fk pc' : Nat) (A : aL) (w : aW) (k : fK) (r : List aV) (v : aV) (ids : List Nat) : Bool := bI (fObj w.2.2.2.2 (fun c n => bI (Nat.beq c ci) (Nat.ble (Nat.succ fk) n) false) ids) (fWr τ w ids fk fk v (fun w' => k pc' A r w')) false
noncomputable def fcPut (ci fk : Nat) (e0 : aE) (pc' : Nat) : fC := fun τ _ A B w k => fTwo B (fun v a r => bI (fFit w.1 v e0) (fRn w.1 a (fPut1 τ ci fk pc' A w k r v)) false)
noncomputable def fIsN (env : List aE) (v : aV) : Bool := bI (Nat.beq v.1 1) true (fNth env v.1 (fun e => Nat.beq e.1 1))
theorem fIsN_ok {env : List aE} {ρ : Nat → Value} {v : aV} (hE : aEnv env ρ) (h : fIsN env v = true) : ∃ ids, satE (1, 1, 0, ids) (aval ρ v) := by
  rcases bI_if h with ⟨h1, -⟩ | ⟨h1, h2⟩
  · exact ⟨[v.2.toNat], Or.inr ⟨v.2.toNat, List.mem_singleton.mpr rfl, by unfold aval; rw [if_pos (Nat.eq_of_beq_eq_true h1)]⟩⟩
  · obtain ⟨e, h3, h4⟩ := fNth_ok h2
    have hn := Nat.ne_of_beq_eq_false h1
    rcases satE1 h4 (hE.2.2 _ _ h3) with ⟨hv, -⟩ | ⟨i, hi, hv⟩
    · exact ⟨[], Or.inl ⟨aval_ref hn hv (fun z hz => by cases hz), rfl⟩⟩
    · exact ⟨[i], Or.inr ⟨i, List.mem_singleton.mpr rfl, aval_ref hn hv (fun z hz => by cases hz)⟩⟩
noncomputable def fcPutR (ci fk pc' : Nat) : fC := fun τ _ A B w k => fTwo B (fun v a r => bI (fIsN w.1 v) (fRn w.1 a (fPut1 τ ci fk pc' A w k r v)) false)
theorem fPut_go {idx ci fk q : Nat} {ty : FieldType} (hf : pFindI tFld o idx = some (q, ci, fk)) (hty : pTyOf ci fk = some ty) (hfin : ((pCl ci).2.1 fk).2.2.2 = false ∨ (ini = true ∧ ci = o)) {τ : fT} {ρ : Nat → Value} {A : aL} {w : aW} {k : fK} {r : List aV} {v a : aV} {S : pScr} {L : pLs} {st : List Value} {sh : pSh} {M : pMem} (ht : fTau τ) (hA : aLoc w ρ A L) (hB : aStk w ρ (v :: a :: r) st) (hW : aWor (tOf τ) gSh w ρ sh M) (hft : narrow ty (aval ρ v) = aval ρ v ∧ fits ty (aval ρ v) = true) (h : fRn w.1 a (fPut1 τ ci fk (pc + 3) A w k r v) = true) : ∃ σ, pstep S o ini nL (.putfield idx) 3 pc L st sh M = some (.inl σ) ∧ fN τ ρ w k σ := by
  obtain ⟨ids, i, hi, hv, h1⟩ := fRn_ok hW.1 h
  obtain ⟨h2, h3⟩ := bI_and h1
  obtain ⟨st1, hst1, hr1, hlv⟩ := aStk.cons hB
  obtain ⟨st2, hst2, hrs⟩ := aStk.top hr1 hv
  have hst : st = aval ρ v :: .ref i :: st2 := by rw [← hst2]; exact hst1
  subst hst
  have hN : w.2.2.2.2 ≤ 205 := by rw [← gSh_205]; exact hW.2.2.2.2
  obtain ⟨c, m, hs, hpp⟩ := fObj_ok h2 hi hN
  obtain ⟨q1, q2⟩ := bI_and hpp
  have e1 : c = ci := Nat.eq_of_beq_eq_true q1
  have e2 : fk < m := Nat.le_of_ble_eq_true q2
  have hSh : sh = gSh.take w.2.2.2.2 := hW.2.2.2.1
  obtain ⟨w', g1, g2, g3⟩ := fWr_ok ht h3 hW hlv hi (Nat.le_refl fk) (Nat.le_refl fk)
  have hle : w.1.length ≤ w'.1.length := by rw [g2]; exact Nat.le_refl _
  refine ⟨(pc + 3, L, st2, sh, pUp M i fk (aval ρ v)), ?_, fn_of g1 (aSub.rf _ _) hle (hA.ext (aSub.rf _ _) hle) (hrs.ext (aSub.rf _ _) hle) g3⟩
  show pPutF o ini idx pc L (aval ρ v :: .ref i :: st2) sh M = _
  unfold pPutF
  simp only
  rw [hf, hSh, hs]
  simp only [if_pos (show c = ci ∧ fk < m ∧ (((pCl ci).2.1 fk).2.2.2 = false ∨ (ini = true ∧ ci = o)) from ⟨e1, e2, hfin⟩), hty, if_pos hft]
  rfl
theorem fs_put {idx ci fk q : Nat} {e0 : aE} {ty : FieldType} (hf : pFindI tFld o idx = some (q, ci, fk)) (hp : pc + 3 = pc') (hty : pTyOf ci fk = some ty) (he : aFits ty e0 = true) (hfin : ((pCl ci).2.1 fk).2.2.2 = false ∨ (ini = true ∧ ci = o)) : fS o ini nL (.putfield idx) 3 pc (fcPut ci fk e0 pc') := by
  intro τ X ht A B w k hk S ρ L st sh M hS hG
  subst hp
  obtain ⟨v, a, r, rfl, h⟩ := fTwo_ok hk
  obtain ⟨h1, h2⟩ := bI_and h
  exact fPut_go hf hty hfin ht hG.2.1 hG.2.2.1 hG.2.2.2 (aFits_ok he (fFit_ok hG.2.2.2.1 h1)) h2
theorem fs_putR {idx ci fk q : Nat} {ty : FieldType} (hf : pFindI tFld o idx = some (q, ci, fk)) (hp : pc + 3 = pc') (hty : pTyOf ci fk = some ty) (he : ∀ ids, aFits ty (1, 1, 0, ids) = true) (hfin : ((pCl ci).2.1 fk).2.2.2 = false ∨ (ini = true ∧ ci = o)) : fS o ini nL (.putfield idx) 3 pc (fcPutR ci fk pc') := by
  intro τ X ht A B w k hk S ρ L st sh M hS hG
  subst hp
  obtain ⟨v, a, r, rfl, h⟩ := fTwo_ok hk
  obtain ⟨h1, h2⟩ := bI_and h
  obtain ⟨ids, hs⟩ := fIsN_ok hG.2.2.2.1 h1
  exact fPut_go hf hty hfin ht hG.2.1 hG.2.2.1 hG.2.2.2 (aFits_ok (he ids) hs) h2
/-- one of the arrays at a place from lo to hi -/
noncomputable def fALr (τ : fT) (kd : Nat) (chk : List aE → aV → Bool) (pc' : Nat) (A : aL) (w : aW) (k : fK) (r : List aV) (lo hi : Nat) (ids : List Nat) : Bool := bI (fObj w.2.2.2.2 (fun c n => bI (Nat.beq c kd) (Nat.ble (Nat.succ hi) n) false) ids) (fRead τ w ids lo hi (fun v w' => bI (chk w'.1 v) (k pc' A (v :: r) w') false)) false
noncomputable def fHas (ov : aO) (i lo hi : Nat) : Bool := @List.rec ((Nat × Nat) × aV) (fun _ => Bool) false (fun q _ ih => bI (Nat.beq q.1.1 i) (bI (Nat.ble lo q.1.2) (bI (Nat.ble q.1.2 hi) true ih) ih) ih) ov
noncomputable def fHasL (ov : aO) (ids : List Nat) (lo hi : Nat) : Bool := @List.rec Nat (fun _ => Bool) false (fun i r _ => @List.rec Nat (fun _ => Bool) (fHas ov i lo hi) (fun _ _ _ => false) r) ids
noncomputable def fSpl (cnt : Nat) (v : Int) (p : Int → Bool) : Bool := @Nat.rec (fun _ => Int → Bool) (fun _ => true) (fun _ ih v => bI (p v) (ih (iAdd v 1)) false) cnt v
theorem fSpl_ok {cnt : Nat} {v : Int} {p : Int → Bool} (h : fSpl cnt v p = true) : ∀ x, v ≤ x → x < v + (cnt : Int) → p x = true := by
  induction cnt generalizing v with
  | zero => intro x h1 h2; omega
  | succ n ih =>
    obtain ⟨h1, h2⟩ := bI_and (show bI (p v) (fSpl n (iAdd v 1) p) false = true from h)
    intro x g1 g2
    by_cases hx : x = v
    · rw [hx]
      exact h1
    · rw [iAdd_eq] at h2
      exact ih h2 x (by omega) (by omega)
noncomputable def fALc (τ : fT) (kd : Nat) (chk : List aE → aV → Bool) (pc' : Nat) (A : aL) (w : aW) (k : fK) (r : List aV) (ids : List Nat) (j : Int) : Bool := @Int.rec (fun _ => Bool) (fun n => fALr τ kd chk pc' A w k r n n ids) (fun _ => false) j
noncomputable def fALs (τ : fT) (kd : Nat) (chk : List aE → aV → Bool) (pc' : Nat) (A : aL) (w : aW) (k : fK) (r : List aV) (j : aV) (lo hi : Int) (ids : List Nat) : Bool := bI (fLe 0 lo) (bI (fHasL w.2.1 ids (fNat lo) (fNat hi)) (fSpl (fNat (iAdd (iAdd hi (iNeg lo)) 1)) lo (fun n => fMeet w.1 j n n (fun e => fALc τ kd chk pc' A (e, w.2) k r ids n))) (fALr τ kd chk pc' A w k r (fNat lo) (fNat hi) ids)) false
noncomputable def fAL2 (τ : fT) (kd : Nat) (chk : List aE → aV → Bool) (pc' : Nat) (A : aL) (w : aW) (k : fK) (j a : aV) (r : List aV) : Bool := bI (Nat.beq j.1 0) (fRn w.1 a (fun ids => fALc τ kd chk pc' A w k r ids j.2)) (fIv w.1 j (fun lo hi => fRn w.1 a (fALs τ kd chk pc' A w k r j lo hi)))
noncomputable def fcALd (kd : Nat) (chk : List aE → aV → Bool) (pc' : Nat) : fC := fun τ _ A B w k => fTwo B (fAL2 τ kd chk pc' A w k)
theorem gSh_small {i c n m : Nat} (hn : n ≤ 205) (h : (gSh.take n)[i]? = some (c, m)) : m < 2147483648 := by
  have h2 : (c, m) ∈ gSh := List.mem_of_mem_take (List.mem_of_getElem? h)
  have h3 : gSh.all (fun q => Nat.blt q.2 2147483648) = true := by decide +kernel
  have := List.all_eq_true.mp h3 _ h2
  simpa using this
theorem fALr_ok {kd : Nat} {chk : List aE → aV → Bool} {i : Instr} {τ : fT} {ρ : Nat → Value} {A : aL} {w : aW} {k : fK} {r : List aV} {S : pScr} {L : pLs} {st2 : List Value} {sh : pSh} {M : pMem} {ids : List Nat} {x : Nat} {z : Int32} {lo hi : Nat}
    (hins : ∀ (M : pMem) (x : Nat) (z : Int32) (n : Nat) (st2 : List Value) (v : Value) (sh : pSh) (env : List aE) (ρ : Nat → Value) (a : aV), aEnv env ρ → chk env a = true → aval ρ a = v → sh[x]? = some (kd, n) → pIn z n = true → M x z.toNatClampNeg = v → pArrLd S i pc L (.int z :: .ref x :: st2) sh M = pGo (pc + 1) L (v :: st2) sh M)
    (ht : fTau τ) (hA : aLoc w ρ A L) (hB : aStk w ρ r st2) (hW : aWor (tOf τ) gSh w ρ sh M) (hx : x ∈ ids) (z0 : 0 ≤ z.toInt) (z1 : (lo : Int) ≤ z.toInt) (z2 : z.toInt ≤ (hi : Int)) (h : fALr τ kd chk (pc + 1) A w k r lo hi ids = true) :
    ∃ σ, pArrLd S i pc L (.int z :: .ref x :: st2) sh M = some (.inl σ) ∧ fN τ ρ w k σ := by
  obtain ⟨h2, h3⟩ := bI_and h
  have hN : w.2.2.2.2 ≤ 205 := by rw [← gSh_205]; exact hW.2.2.2.2
  obtain ⟨c, m, hs, hpp⟩ := fObj_ok h2 hx hN
  obtain ⟨q1, q2⟩ := bI_and hpp
  have e1 : c = kd := Nat.eq_of_beq_eq_true q1
  have e2 : hi < m := Nat.le_of_ble_eq_true q2
  subst e1
  have hSh : sh = gSh.take w.2.2.2.2 := hW.2.2.2.1
  have e3 : z.toNatClampNeg = z.toInt.toNat := rfl
  obtain ⟨p1, p2, p3⟩ := pIn_mk (j := z) (n := m) (lo := (lo : Int)) (hi := (hi : Int)) (by omega) z1 z2 (by omega)
  obtain ⟨v, w', ρ', g1, g2, g3, g4, g5, g6⟩ := fRead_ok (c := z.toNatClampNeg) ht h3 hW hx (by omega) (by omega)
  obtain ⟨g7, g8⟩ := bI_and g1
  refine ⟨(pc + 1, L, aval ρ' v :: st2, sh, M), ?_, fn_of g8 g2 g6 (hA.ext g2 g6) ((hB.ext g2 g6).push g4 rfl) g3⟩
  rw [hins M x z m st2 (aval ρ' v) sh w'.1 ρ' v g3.1 g7 rfl (by rw [hSh]; exact hs) p1 g5]
  rfl
theorem fs_aLd {kd : Nat} {chk : List aE → aV → Bool} {i : Instr} (hstep : ∀ S L st sh M, pstep S o ini nL i 1 pc L st sh M = pArrLd S i pc L st sh M)
    (hins : ∀ (S : pScr) (L : pLs) (M : pMem) (x : Nat) (z : Int32) (n : Nat) (st2 : List Value) (v : Value) (sh : pSh) (env : List aE) (ρ : Nat → Value) (a : aV), aEnv env ρ → chk env a = true → aval ρ a = v → sh[x]? = some (kd, n) → pIn z n = true → M x z.toNatClampNeg = v → pArrLd S i pc L (.int z :: .ref x :: st2) sh M = pGo (pc + 1) L (v :: st2) sh M)
    (hp : pc + 1 = pc') : fS o ini nL i 1 pc (fcALd kd chk pc') := by
  intro τ X ht A B w k hk S ρ L st sh M hS hG
  subst hp
  obtain ⟨j, a, r, rfl, h⟩ := fTwo_ok hk
  rw [hstep]
  have big : ∀ (n : Nat) (x : Nat) (ids : List Nat) (w : aW), fALr τ kd chk (pc + 1) A w k r n n ids = true → x ∈ ids → w.2.2.2.2 ≤ 205 → n < 2147483648 := by
    intro n x ids w h hx hN
    obtain ⟨h2, -⟩ := bI_and h
    obtain ⟨c, m, hs, hpp⟩ := fObj_ok h2 hx hN
    obtain ⟨-, q2⟩ := bI_and hpp
    have e2 : n < m := Nat.le_of_ble_eq_true q2
    have := gSh_small hN hs
    omega
  have hN : w.2.2.2.2 ≤ 205 := by rw [← gSh_205]; exact hG.2.2.2.2.2.2.2
  rcases bI_if h with ⟨h1, h2⟩ | ⟨h1, h2⟩
  · obtain ⟨ids, x, hx, hv, h3⟩ := fRn_ok hG.2.2.2.1 h2
    have hj := aval0 hG.2.2.2.1.2.1 h1
    obtain ⟨st2, hst, hrs⟩ := aStk.two hG.2.2.1 hv hj
    have hst : st = .int (Int32.ofInt j.2) :: .ref x :: st2 := hst
    subst hst
    cases hj2 : j.2 with
    | negSucc n =>
      rw [hj2] at h3
      cases h3
    | ofNat n =>
      rw [hj2] at h3
      have h3 : fALr τ kd chk (pc + 1) A w k r n n ids = true := h3
      have hb := big n x ids w h3 hx hN
      have ez : (Int32.ofInt (Int.ofNat n)).toInt = (n : Int) := i32_of (by unfold aLo32; simp only [Int.ofNat_eq_natCast]; omega) (by unfold aHi32; simp only [Int.ofNat_eq_natCast]; omega)
      exact fALr_ok (hins S L) ht hG.2.1 hrs hG.2.2.2 hx (by omega) (by omega) (by omega) h3
  · obtain ⟨z, lo, hi, hz, z1, z2, h3, -⟩ := fIv_ok hG.2.2.2.1 h2
    obtain ⟨ids, x, hx, hv, h4⟩ := fRn_ok hG.2.2.2.1 h3
    obtain ⟨st2, hst, hrs⟩ := aStk.two hG.2.2.1 hv hz
    have hst : st = .int z :: .ref x :: st2 := hst
    subst hst
    obtain ⟨h5, h6⟩ := bI_and h4
    have h5 := fLe_t h5
    rcases bI_if h6 with ⟨-, h7⟩ | ⟨-, h7⟩
    · have h8 := fSpl_ok h7 z.toInt z1 (by rw [fNat_eq, iAdd_eq, iAdd_eq, iNeg_eq]; omega)
      obtain ⟨e, g1, g2, g3⟩ := fMeet_ok hG.2.2.2.1 h8 hz (Int.le_refl _) (Int.le_refl _)
      have hl : w.1.length ≤ e.length := by rw [g3]; exact Nat.le_refl _
      have hW' := aWor_env hG.2.2.2 (aSub.rf _ _) g2 hl
      cases hj2 : z.toInt with
      | negSucc n =>
        rw [hj2] at g1
        cases g1
      | ofNat n =>
        rw [hj2] at g1
        have g1 : fALr τ kd chk (pc + 1) A (e, w.2) k r n n ids = true := g1
        simp only [Int.ofNat_eq_natCast] at hj2
        obtain ⟨σ, s1, pc2, A2, B2, w2, ρ2, s2, s3, s4, s5⟩ := fALr_ok (hins S L) (w := (e, w.2)) (z := z) ht (hG.2.1.ext (w' := (e, w.2)) (aSub.rf _ _) hl) (hrs.ext (w' := (e, w.2)) (aSub.rf _ _) hl) hW' hx (by omega) (by omega) (by omega) g1
        refine ⟨σ, s1, pc2, A2, B2, w2, ρ2, s2, fun s hs => s3 s ?_, ?_, s5⟩
        · show s < e.length
          omega
        · have s4 : e.length ≤ w2.1.length := s4
          omega
    · rw [fNat_eq, fNat_eq] at h7
      exact fALr_ok (hins S L) ht hG.2.1 hrs hG.2.2.2 hx (by omega) (by omega) (by omega) h7
theorem ins_iaload {kd : Nat} (hk : kd = 13) (S : pScr) (L : pLs) (M : pMem) (x : Nat) (z : Int32) (n : Nat) (st2 : List Value) (v : Value) (sh : pSh) (env : List aE) (ρ : Nat → Value) (a : aV) (hE : aEnv env ρ) (hc : fIsI env a = true) (ha : aval ρ a = v) (hs : sh[x]? = some (kd, n)) (hp : pIn z n = true) (hM : M x z.toNatClampNeg = v) : pArrLd S .iaload pc L (.int z :: .ref x :: st2) sh M = pGo (pc + 1) L (v :: st2) sh M := by
  subst hk
  obtain ⟨-, y, hy⟩ := fIsI_ok hE hc
  unfold pArrLd
  simp only [hs, hp, if_true, hM, ← ha, hy]
theorem ins_baload {kd : Nat} (hk : kd = 14) (S : pScr) (L : pLs) (M : pMem) (x : Nat) (z : Int32) (n : Nat) (st2 : List Value) (v : Value) (sh : pSh) (env : List aE) (ρ : Nat → Value) (a : aV) (hE : aEnv env ρ) (hc : fIsI env a = true) (ha : aval ρ a = v) (hs : sh[x]? = some (kd, n)) (hp : pIn z n = true) (hM : M x z.toNatClampNeg = v) : pArrLd S .baload pc L (.int z :: .ref x :: st2) sh M = pGo (pc + 1) L (v :: st2) sh M := by
  subst hk
  obtain ⟨-, y, hy⟩ := fIsI_ok hE hc
  unfold pArrLd
  simp only [hs, hp, if_true, hM, ← ha, hy]
noncomputable def fRnB (env : List aE) (a : aV) : Bool := fRn env a (fun _ => true)
theorem ins_aaload {kd : Nat} (hk : kd = 16 ∨ kd = 17 ∨ kd = 18) (S : pScr) (L : pLs) (M : pMem) (x : Nat) (z : Int32) (n : Nat) (st2 : List Value) (v : Value) (sh : pSh) (env : List aE) (ρ : Nat → Value) (a : aV) (hE : aEnv env ρ) (hc : fRnB env a = true) (ha : aval ρ a = v) (hs : sh[x]? = some (kd, n)) (hp : pIn z n = true) (hM : M x z.toNatClampNeg = v) : pArrLd S .aaload pc L (.int z :: .ref x :: st2) sh M = pGo (pc + 1) L (v :: st2) sh M := by
  obtain ⟨ids, y, -, hy, -⟩ := fRn_ok hE hc
  unfold pArrLd
  rcases hk with rfl | rfl | rfl <;> simp only [hs, hp, if_true, hM, ← ha, hy]
noncomputable def fAS1 (τ : fT) (kd pc' : Nat) (A : aL) (w : aW) (k : fK) (r : List aV) (v : aV) (lo hi : Nat) (ids : List Nat) : Bool := bI (fObj w.2.2.2.2 (fun c n => bI (Nat.beq c kd) (Nat.ble (Nat.succ hi) n) false) ids) (fWr τ w ids lo hi v (fun w' => k pc' A r w')) false
noncomputable def fAS2 (τ : fT) (kd pc' : Nat) (A : aL) (w : aW) (k : fK) (v j a : aV) (r : List aV) : Bool := bI (Nat.beq j.1 0) (@Int.rec (fun _ => Bool) (fun n => fRn w.1 a (fAS1 τ kd pc' A w k r v n n)) (fun _ => false) j.2) (fIv w.1 j (fun lo hi => bI (fLe 0 lo) (fRn w.1 a (fAS1 τ kd pc' A w k r v (fNat lo) (fNat hi))) false))
noncomputable def fcASt (kd : Nat) (e0 : aE) (pc' : Nat) : fC := fun τ _ A B w k => @List.rec aV (fun _ => Bool) false (fun v r _ => bI (fFit w.1 v e0) (fTwo r (fAS2 τ kd pc' A w k v)) false) B
theorem fs_aSt {kd : Nat} {e0 : aE} {i : Instr} (hstep : ∀ S L st sh M, pstep S o ini nL i 1 pc L st sh M = pArrSt i pc L st sh M)
    (hins : ∀ (L : pLs) (M : pMem) (x : Nat) (z : Int32) (n : Nat) (st2 : List Value) (v : Value) (sh : pSh), satE e0 v → sh[x]? = some (kd, n) → pIn z n = true → pArrSt i pc L (v :: .int z :: .ref x :: st2) sh M = pGo (pc + 1) L st2 sh (pUp M x z.toNatClampNeg v))
    (hp : pc + 1 = pc') : fS o ini nL i 1 pc (fcASt kd e0 pc') := by
  intro τ X ht A B w k hk S ρ L st sh M hS hG
  subst hp
  cases B with
  | nil => cases hk
  | cons v r0 =>
    obtain ⟨h0, hk⟩ := bI_and (show bI (fFit w.1 v e0) (fTwo r0 (fAS2 τ kd (pc + 1) A w k v)) false = true from hk)
    obtain ⟨j, a, r, rfl, h⟩ := fTwo_ok hk
    have hv := fFit_ok hG.2.2.2.1 h0
    rw [hstep]
    have hN : w.2.2.2.2 ≤ 205 := by rw [← gSh_205]; exact hG.2.2.2.2.2.2.2
    obtain ⟨st1, hst1, hr1, hlv⟩ := aStk.cons hG.2.2.1
    have key : ∀ (x : Nat) (z : Int32) (ids : List Nat) (lo hi : Nat), aval ρ j = .int z → aval ρ a = .ref x → x ∈ ids → 0 ≤ z.toInt → (lo : Int) ≤ z.toInt → z.toInt ≤ (hi : Int) → fAS1 τ kd (pc + 1) A w k r v lo hi ids = true → ∃ σ, pArrSt i pc L st sh M = some (.inl σ) ∧ fN τ ρ w k σ := by
      intro x z ids lo hi hz hx hi0 z0 z1 z2 h
      obtain ⟨h2, h3⟩ := bI_and h
      obtain ⟨c, m, hs, hpp⟩ := fObj_ok h2 hi0 hN
      obtain ⟨q1, q2⟩ := bI_and hpp
      have e1 : c = kd := Nat.eq_of_beq_eq_true q1
      have e2 : hi < m := Nat.le_of_ble_eq_true q2
      subst e1
      have hSh : sh = gSh.take w.2.2.2.2 := hG.2.2.2.2.2.2.1
      have e3 : z.toNatClampNeg = z.toInt.toNat := rfl
      obtain ⟨p1, p2, p3⟩ := pIn_mk (j := z) (n := m) (lo := (lo : Int)) (hi := (hi : Int)) (by omega) z1 z2 (by omega)
      obtain ⟨w', g1, g2, g3⟩ := fWr_ok (c := z.toNatClampNeg) ht h3 hG.2.2.2 hlv hi0 (by omega) (by omega)
      have hle : w.1.length ≤ w'.1.length := by rw [g2]; exact Nat.le_refl _
      obtain ⟨st2, hst2, hrs⟩ := aStk.two hr1 hx hz
      have hst : st = aval ρ v :: .int z :: .ref x :: st2 := by rw [← hst2]; exact hst1
      subst hst
      refine ⟨(pc + 1, L, st2, sh, pUp M x z.toNatClampNeg (aval ρ v)), ?_, fn_of g1 (aSub.rf _ _) hle (hG.2.1.ext (aSub.rf _ _) hle) (hrs.ext (aSub.rf _ _) hle) g3⟩
      rw [hins L M x z m st2 (aval ρ v) sh hv (by rw [hSh]; exact hs) p1]
      rfl
    rcases bI_if h with ⟨h1, h2⟩ | ⟨h1, h2⟩
    · have hj := aval0 hG.2.2.2.1.2.1 h1
      cases hj2 : j.2 with
      | negSucc n =>
        rw [hj2] at h2
        cases h2
      | ofNat n =>
        rw [hj2] at h2
        obtain ⟨ids, x, hx, hv2, h3⟩ := fRn_ok hG.2.2.2.1 (show fRn w.1 a (fAS1 τ kd (pc + 1) A w k r v n n) = true from h2)
        have hb : n < 2147483648 := by
          obtain ⟨h5, -⟩ := bI_and h3
          obtain ⟨c, m, hs, hpp⟩ := fObj_ok h5 hx hN
          obtain ⟨-, q2⟩ := bI_and hpp
          have e2 : n < m := Nat.le_of_ble_eq_true q2
          have := gSh_small hN hs
          omega
        have ez : (Int32.ofInt (Int.ofNat n)).toInt = (n : Int) := i32_of (by unfold aLo32; simp only [Int.ofNat_eq_natCast]; omega) (by unfold aHi32; simp only [Int.ofNat_eq_natCast]; omega)
        rw [hj2] at hj
        exact key x _ ids n n hj hv2 hx (by omega) (by omega) (by omega) h3
    · obtain ⟨z, lo, hi, hz, z1, z2, h3, -⟩ := fIv_ok hG.2.2.2.1 h2
      obtain ⟨h4, h5⟩ := bI_and h3
      have h4 := fLe_t h4
      obtain ⟨ids, x, hx, hv2, h6⟩ := fRn_ok hG.2.2.2.1 h5
      rw [fNat_eq, fNat_eq] at h6
      exact key x z ids _ _ hz hv2 hx (by omega) (by omega) (by omega) h6
theorem ins_iastore {e0 : aE} (he : e0.1 = 0) (L : pLs) (M : pMem) (x : Nat) (z : Int32) (n : Nat) (st2 : List Value) (v : Value) (sh : pSh) (hv : satE e0 v) (hs : sh[x]? = some (13, n)) (hp : pIn z n = true) : pArrSt .iastore pc L (v :: .int z :: .ref x :: st2) sh M = pGo (pc + 1) L st2 sh (pUp M x z.toNatClampNeg v) := by
  obtain ⟨y, rfl, -⟩ := satE0 (by rw [he]; rfl) hv
  unfold pArrSt
  simp only [hs, hp, if_true]
theorem ins_bastore (L : pLs) (M : pMem) (x : Nat) (z : Int32) (n : Nat) (st2 : List Value) (v : Value) (sh : pSh) (hv : satE (0, 0, 1, []) v) (hs : sh[x]? = some (14, n)) (hp : pIn z n = true) : pArrSt .bastore pc L (v :: .int z :: .ref x :: st2) sh M = pGo (pc + 1) L st2 sh (pUp M x z.toNatClampNeg v) := by
  obtain ⟨y, rfl, h1, h2⟩ := hv
  unfold pArrSt
  simp only [hs, hp, if_true]
  rcases i32_bit (z := y) h1 h2 with rfl | rfl <;> rfl
noncomputable def fcDup (pc' : Nat) : fC := fun _ _ A B w k => @List.rec aV (fun _ => Bool) false (fun a r _ => bI (fLgE w.1 a) false (k pc' A (a :: a :: r) w)) B
theorem fs_dup (hp : pc + 1 = pc') : fS o ini nL .dup 1 pc (fcDup pc') := by
  intro τ X ht A B w k hk S ρ L st sh M hS hG
  subst hp
  cases B with
  | nil => cases hk
  | cons a r =>
    obtain ⟨h1, h2⟩ := bI_not (show bI (fLgE w.1 a) false (k (pc + 1) A (a :: a :: r) w) = true from hk)
    obtain ⟨st1, hst, hr, hx⟩ := aStk.cons hG.2.2.1
    have hst : st = aval ρ a :: st1 := hst
    subst hst
    have hc := fLgE_no hG.2.2.2.1 hx h1
    have hc1 : (aval ρ a).category = 1 := by
      rcases lv_cat (aval ρ a) with h | h
      · exact h
      · exact absurd h hc
    refine ⟨(pc + 1, L, aval ρ a :: aval ρ a :: st1, sh, M), ?_, fN.same h2 hG.2.1 (hG.2.2.1.push hx rfl) hG.2.2.2⟩
    show (if (aval ρ a).category = 1 then pGo (pc + 1) L (aval ρ a :: aval ρ a :: st1) sh M else none) = _
    rw [if_pos hc1]
    rfl
noncomputable def fDv3 (op : Nat → Nat → Nat) (kd pc pc' : Nat) (A : aL) (w : aW) (k : fK) (y x : aV) (r : List aV) : Bool := bI (Nat.beq y.1 0) (bI (Nat.beq x.1 0) (@Int.rec (fun _ => Bool) (fun n => @Int.rec (fun _ => Bool) (fun m => bI (Nat.ble 1 m) (bI (Nat.ble m 2147483647) (bI (Nat.ble n 2147483647) (k pc' A ((0, Int.ofNat (op n m)) :: r) w) false) false) false) (fun _ => false) y.2) (fun _ => fAll (aDivR kd pc A (y :: x :: r) w) k) x.2) (fAll (aDivR kd pc A (y :: x :: r) w) k)) (fAll (aDivR kd pc A (y :: x :: r) w) k)
noncomputable def fcDv (op : Nat → Nat → Nat) (kd pc pc' : Nat) : fC := fun _ _ A B w k => fTwo B (fDv3 op kd pc pc' A w k)
theorem i32_nI {n : Nat} : Int32.ofInt (Int.ofNat n) = nI n := by
  unfold nI
  exact Int32.ofInt_eq_ofNat
theorem fs_dv {op : Nat → Nat → Nat} {kd : Nat} {i : Instr} (hsl : ∀ T Sa A B w, astep T gSh Sa o ini nL i 1 pc A B w = aDivR kd pc A B w) (hst : ∀ S L (x y : Int32) st sh M, ¬ y = 0 → pstep S o ini nL i 1 pc L (.int y :: .int x :: st) sh M = pGo (pc + 1) L (.int (opF kd x y) :: st) sh M) (hop : ∀ n m, n < 2 ^ 31 → 0 < m → m < 2 ^ 31 → opF kd (nI n) (nI m) = nI (op n m)) (hp : pc + 1 = pc') : fS o ini nL i 1 pc (fcDv op kd pc pc') := by
  intro τ X ht A B w k hk S ρ L st sh M hS hG
  subst hp
  obtain ⟨y, x, r, rfl, h⟩ := fTwo_ok hk
  have slow : fAll (aDivR kd pc A (y :: x :: r) w) k = true → ∃ σ, pstep S o ini nL i 1 pc L st sh M = some (.inl σ) ∧ fN τ ρ w k σ := by
    intro h
    obtain ⟨l, h1, h2⟩ := fAll_ok h
    obtain ⟨σ, g1, a, g2, ρ', g3, g4, g5⟩ := astep_sound (S := S) hS.1 hG ((hsl _ _ _ _ _).trans h1)
    exact ⟨σ, g1, a.1, a.2.1, a.2.2.1, a.2.2.2, ρ', h2 a g2, g3, g4, g5⟩
  rcases bI_if h with ⟨h1, h2⟩ | ⟨-, h2⟩
  · rcases bI_if h2 with ⟨h3, h4⟩ | ⟨-, h4⟩
    · have ex := aval0 hG.2.2.2.1.2.1 h3
      have ey := aval0 hG.2.2.2.1.2.1 h1
      cases hx : x.2 with
      | negSucc n =>
        rw [hx] at h4
        exact slow h4
      | ofNat n =>
        cases hy : y.2 with
        | negSucc m =>
          rw [hx, hy] at h4
          cases h4
        | ofNat m =>
          rw [hx, hy] at h4
          obtain ⟨b1, h5⟩ := bI_and (show bI (Nat.ble 1 m) (bI (Nat.ble m 2147483647) (bI (Nat.ble n 2147483647) (k (pc + 1) A ((0, Int.ofNat (op n m)) :: r) w) false) false) false = true from h4)
          obtain ⟨b2, h6⟩ := bI_and h5
          obtain ⟨b3, h7⟩ := bI_and h6
          have b1 := Nat.le_of_ble_eq_true b1
          have b2 := Nat.le_of_ble_eq_true b2
          have b3 := Nat.le_of_ble_eq_true b3
          rw [hx, i32_nI] at ex
          rw [hy, i32_nI] at ey
          obtain ⟨st2, hst2, hrs⟩ := aStk.two hG.2.2.1 ex ey
          have hst2 : st = .int (nI m) :: .int (nI n) :: st2 := hst2
          subst hst2
          have hne : ¬ nI m = 0 := fun hz => by
            have := nI_toInt (n := m) (by omega)
            rw [hz] at this
            have z0 : (0 : Int32).toInt = 0 := rfl
            omega
          refine ⟨(pc + 1, L, .int (nI (op n m)) :: st2, sh, M), ?_, fN.same h7 hG.2.1 (hrs.push (Nat.lt_of_lt_of_le (Nat.zero_lt_succ 1) hG.2.2.2.1.1) ?_) hG.2.2.2⟩
          · rw [hst S L (nI n) (nI m) st2 sh M hne, hop n m (by omega) (by omega) (by omega)]
            rfl
          · rw [aval_c hG.2.2.2.1.2.1, i32_nI]
    · exact slow h4
  · exact slow h2
end FSD
/-! the fast machine: one row for each instruction -/
noncomputable def fcNo : fC := fun _ _ _ _ _ _ => false
section FSW
variable {o nL pc pc' : Nat} {ini : Bool}
theorem fs_iconst {n c : Int} (hc : c = n) (hp : pc + 1 = pc') : fS o ini nL (.iconst n) 1 pc (fcPush c pc') := by
  subst hc
  subst hp
  exact fs_push (fun _ _ _ _ _ => rfl)
theorem fs_bipush {n c : Int} (hc : (iLe (-128) c && iLe c 127) = true ∧ c = n) (hp : pc + 2 = pc') : fS o ini nL (.bipush n) 2 pc (fcPush c pc') := by
  obtain ⟨hr, hc⟩ := hc
  subst hc
  subst hp
  rw [Bool.and_eq_true] at hr
  have h1 := iLe_t hr.1
  have h2 := iLe_t hr.2
  have e : (Int8.ofInt c).toInt32 = Int32.ofInt c := by
    rw [← Int32.toInt_inj, Int8.toInt_toInt32, Int8.toInt_ofInt_of_le (by omega) (by omega), Int32.toInt_ofInt_of_le (by omega) (by omega)]
  refine fs_push (fun S L st sh M => ?_)
  rw [← e]
  rfl
theorem fs_sipush {n c : Int} (hc : (iLe (-32768) c && iLe c 32767) = true ∧ c = n) (hp : pc + 3 = pc') : fS o ini nL (.sipush n) 3 pc (fcPush c pc') := by
  obtain ⟨hr, hc⟩ := hc
  subst hc
  subst hp
  rw [Bool.and_eq_true] at hr
  have h1 := iLe_t hr.1
  have h2 := iLe_t hr.2
  have e : (Int16.ofInt c).toInt32 = Int32.ofInt c := by
    rw [← Int32.toInt_inj, Int16.toInt_toInt32, Int16.toInt_ofInt_of_le (by omega) (by omega), Int32.toInt_ofInt_of_le (by omega) (by omega)]
  refine fs_push (fun S L st sh M => ?_)
  rw [← e]
  rfl
theorem fs_ldc {idx q : Nat} {c : Int} (hf : (tCst.getD o []).find? (fun e => e.1 == idx) = some (q, Int32.ofInt c)) (hp : pc + 2 = pc') : fS o ini nL (.ldc idx) 2 pc (fcPush c pc') := by
  subst hp
  refine fs_push (fun S L st sh M => ?_)
  unfold pstep
  simp only [hf]
theorem fs_iload {j : Nat} (hp : pc + 2 = pc') : fS o ini nL (.iload j) 2 pc (fcLdI j pc') := fs_ldI (fun _ _ _ _ _ => rfl) hp
theorem fs_iload_n {j : Fin 4} {k : Nat} (hp : pc + 1 = pc') (hk : j.val = k) : fS o ini nL (.iload_n j) 1 pc (fcLdI k pc') := by
  subst hk
  exact fs_ldI (fun _ _ _ _ _ => rfl) hp
theorem fs_aload {j : Nat} (hp : pc + 2 = pc') : fS o ini nL (.aload j) 2 pc (fcLdA j pc') := fs_ldA (fun _ _ _ _ _ => rfl) hp
theorem fs_aload_n {j : Fin 4} {k : Nat} (hp : pc + 1 = pc') (hk : j.val = k) : fS o ini nL (.aload_n j) 1 pc (fcLdA k pc') := by
  subst hk
  exact fs_ldA (fun _ _ _ _ _ => rfl) hp
theorem fs_istore {j : Nat} (hp : pc + 2 = pc') (hj : Nat.ble (j + 1) nL = true) : fS o ini nL (.istore j) 2 pc (fcStI j pc') := fs_stI (fun _ _ _ _ _ => rfl) hp (Nat.le_of_ble_eq_true hj)
theorem fs_istore_n {j : Fin 4} {k : Nat} (hp : pc + 1 = pc') (hk : j.val = k) (hj : Nat.ble (k + 1) nL = true) : fS o ini nL (.istore_n j) 1 pc (fcStI k pc') := by
  subst hk
  exact fs_stI (fun _ _ _ _ _ => rfl) hp (Nat.le_of_ble_eq_true hj)
theorem fs_astore {j : Nat} (hp : pc + 2 = pc') (hj : Nat.ble (j + 1) nL = true) : fS o ini nL (.astore j) 2 pc (fcStA j pc') := fs_stA (fun _ _ _ _ _ => rfl) hp (Nat.le_of_ble_eq_true hj)
theorem fs_astore_n {j : Fin 4} {k : Nat} (hp : pc + 1 = pc') (hk : j.val = k) (hj : Nat.ble (k + 1) nL = true) : fS o ini nL (.astore_n j) 1 pc (fcStA k pc') := by
  subst hk
  exact fs_stA (fun _ _ _ _ _ => rfl) hp (Nat.le_of_ble_eq_true hj)
theorem fs_iinc {j : Nat} {n c : Int} (hp : pc + 3 = pc') (hc : c = n) (hj : Nat.ble (j + 1) nL = true) : fS o ini nL (.iinc j n) 3 pc (fcInc j c pc') := by
  subst hc
  exact fs_inc hp (Nat.le_of_ble_eq_true hj)
theorem fs_idiv (hp : pc + 1 = pc') : fS o ini nL .idiv 1 pc (fcDv Nat.div 8 pc pc') := fs_dv (fun _ _ _ _ _ => rfl) (fun S L x y st sh M h => by
  show (if y = 0 then none else pGo (pc + 1) L (.int (x / y) :: st) sh M) = _
  rw [if_neg h]
  rfl) (fun n m h1 h2 h3 => pk_div h1 h2 h3) hp
theorem fs_irem (hp : pc + 1 = pc') : fS o ini nL .irem 1 pc (fcDv Nat.mod 9 pc pc') := fs_dv (fun _ _ _ _ _ => rfl) (fun S L x y st sh M h => by
  show (if y = 0 then none else pGo (pc + 1) L (.int (x - x / y * y) :: st) sh M) = _
  rw [if_neg h]
  rfl) (fun n m h1 h2 h3 => pk_rem h1 h2 h3) hp
theorem fs_iaload (hp : pc + 1 = pc') : fS o ini nL .iaload 1 pc (fcALd 13 fIsI pc') := fs_aLd (fun _ _ _ _ _ => rfl) (ins_iaload rfl) hp
theorem fs_baload (hp : pc + 1 = pc') : fS o ini nL .baload 1 pc (fcALd 14 fIsI pc') := fs_aLd (fun _ _ _ _ _ => rfl) (ins_baload rfl) hp
theorem fs_aaload16 (hp : pc + 1 = pc') : fS o ini nL .aaload 1 pc (fcALd 16 fRnB pc') := fs_aLd (fun _ _ _ _ _ => rfl) (ins_aaload (Or.inl rfl)) hp
theorem fs_aaload17 (hp : pc + 1 = pc') : fS o ini nL .aaload 1 pc (fcALd 17 fRnB pc') := fs_aLd (fun _ _ _ _ _ => rfl) (ins_aaload (Or.inr (Or.inl rfl))) hp
theorem fs_aaload18 (hp : pc + 1 = pc') : fS o ini nL .aaload 1 pc (fcALd 18 fRnB pc') := fs_aLd (fun _ _ _ _ _ => rfl) (ins_aaload (Or.inr (Or.inr rfl))) hp
theorem fs_iastore (hp : pc + 1 = pc') : fS o ini nL .iastore 1 pc (fcASt 13 aIany pc') := fs_aSt (fun _ _ _ _ _ => rfl) (ins_iastore rfl) hp
theorem fs_bastore (hp : pc + 1 = pc') : fS o ini nL .bastore 1 pc (fcASt 14 (0, 0, 1, []) pc') := fs_aSt (fun _ _ _ _ _ => rfl) ins_bastore hp
end FSW

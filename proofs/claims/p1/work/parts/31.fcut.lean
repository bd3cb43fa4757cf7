/-! contracts: by a run from the arguments, cut at loops -/
/-- a cut: its place, kinds of its locals, its measure (0: a rank; 1: a local that grows up to a bound; 2: one that falls down to it) -/
abbrev fCu : Type := Nat × List (Nat × aE) × List (Nat × Nat × Int)
def cutEnv (es : List aE) : List aE := (0, 0, 0, []) :: (0, 0, 0, []) :: es
noncomputable def cutW (es : List aE) : aW := (cutEnv es, [], [], [], 205)
noncomputable def cutLoc (G : List (Nat × aE)) (n : Nat) : aL := @List.rec (Nat × aE) (fun _ => Nat → aL) (fun _ => []) (fun q _ ih n => (q.1, (n, 0)) :: ih (Nat.succ n)) G n
noncomputable def cutArg (es : List aE) (n : Nat) : List aV := @List.rec aE (fun _ => Nat → List aV) (fun _ => []) (fun _ _ ih n => (n, 0) :: ih (Nat.succ n)) es n
noncomputable def cutEs (G : List (Nat × aE)) : List aE := @List.rec (Nat × aE) (fun _ => List aE) [] (fun q _ ih => q.2 :: ih) G
theorem cutEs_eq (G : List (Nat × aE)) : cutEs G = G.map (fun q => q.2) := by
  induction G with
  | nil => rfl
  | cons q G ih => exact congrArg (fun z => q.2 :: z) ih
def valI (L : pLs) (i : Nat) : Int := match pLd L i with
  | some (.int z) => z.toInt
  | _ => 0
def mVal (L : pLs) (q : Nat × Nat × Int) : Nat := if q.1 = 0 then q.2.2.toNat else if q.1 = 1 then (q.2.2 - valI L q.2.1).toNat else (valI L q.2.1 - q.2.2).toNat
def lexLt : List Nat → List Nat → Prop
  | b :: bs, a :: as => (b < a ∧ bs.length = as.length) ∨ (b = a ∧ lexLt bs as)
  | _, _ => False
theorem lexLt_len : ∀ {x y : List Nat}, lexLt x y → x.length = y.length
  | b :: bs, a :: as, h => by
    rcases h with ⟨-, h⟩ | ⟨-, h⟩
    · rw [List.length_cons, List.length_cons, h]
    · rw [List.length_cons, List.length_cons, lexLt_len h]
  | [], _, h => by cases h
  | _ :: _, [], h => by cases h
theorem lex_acc : ∀ (n : Nat) (l : List Nat), l.length = n → Acc lexLt l := by
  intro n
  induction n with
  | zero =>
    intro l hl
    have : l = [] := List.length_eq_zero_iff.mp hl
    subst this
    refine Acc.intro _ (fun y hy => ?_)
    cases y <;> cases hy
  | succ n ih =>
    have key : ∀ (a : Nat) (as : List Nat), as.length = n → Acc lexLt (a :: as) := by
      intro a
      induction a using Nat.strongRecOn with
      | _ a iha =>
        intro as has
        have hacc := ih as has
        induction hacc with
        | intro as h1 ih1 =>
          refine Acc.intro _ (fun y hy => ?_)
          match y, hy with
          | [], hy => cases hy
          | b :: bs, hy =>
            rcases hy with ⟨h2, h3⟩ | ⟨rfl, h3⟩
            · exact iha b h2 bs (h3.trans has)
            · exact ih1 bs h3 ((lexLt_len h3).trans has)
    intro l hl
    match l, hl with
    | [], hl => cases hl
    | a :: as, hl => exact key a as (Nat.succ.inj hl)
def cutSat (τ : fT) (c : fCu) (σ : pSt) : Prop := σ.1 = c.1 ∧ (∀ q ∈ c.2.1, ∃ v, pLd σ.2.1 q.1 = some v ∧ satE q.2 v) ∧ σ.2.2.1 = [] ∧ σ.2.2.2.1 = gSh ∧ tyM (tOf τ) σ.2.2.2.2
theorem cutEnv_ok {es : List aE} {ρ : Nat → Value} (h0 : ρ 0 = .int 0) (h1 : ρ 1 = .int 0) (h : ∀ j e, es[j]? = some e → satE e (ρ (j + 2))) : aEnv (cutEnv es) ρ := by
  refine ⟨by show 2 ≤ (es.length + 1) + 1; omega, h0, fun s e hs => ?_⟩
  match s, hs with
  | 0, hs =>
    cases hs
    rw [h0]
    exact ⟨0, rfl, by decide, by decide⟩
  | 1, hs =>
    cases hs
    rw [h1]
    exact ⟨0, rfl, by decide, by decide⟩
  | s + 2, hs => exact h s e hs
theorem cutLoc_mem {G : List (Nat × aE)} {n : Nat} {p : Nat × aV} (h : p ∈ cutLoc G n) : ∃ j q, G[j]? = some q ∧ p = (q.1, (n + j, 0)) := by
  induction G generalizing n with
  | nil => cases h
  | cons q G ih =>
    rcases List.mem_cons.mp (show p ∈ (q.1, (n, (0 : Int))) :: cutLoc G (Nat.succ n) from h) with rfl | h
    · exact ⟨0, q, rfl, rfl⟩
    · obtain ⟨j, q', h1, h2⟩ := ih h
      refine ⟨j + 1, q', h1, ?_⟩
      rw [h2, show Nat.succ n + j = n + (j + 1) by omega]
theorem cut_start {τ : fT} {c : fCu} {σ : pSt} (h : cutSat τ c σ) : ∃ ρ : Nat → Value, aG (tOf τ) gSh ρ (c.1, cutLoc c.2.1 2, [], cutW (cutEs c.2.1)) σ ∧ ∀ j q, c.2.1[j]? = some q → pLd σ.2.1 q.1 = some (ρ (j + 2)) := by
  obtain ⟨pc, L, st, sh, M⟩ := σ
  obtain ⟨h1, h2, h3, h4, h5⟩ := h
  have h2 : ∀ q ∈ c.2.1, ∃ v, pLd L q.1 = some v ∧ satE q.2 v := h2
  let ρ : Nat → Value := fun s => if s < 2 then .int 0 else match c.2.1[s - 2]? with
    | some q => (pLd L q.1).getD .null
    | none => .int 0
  have hρ : ∀ j q, c.2.1[j]? = some q → pLd L q.1 = some (ρ (j + 2)) := by
    intro j q hj
    obtain ⟨v, hv, -⟩ := h2 q (List.mem_of_getElem? hj)
    show _ = some (if j + 2 < 2 then _ else _)
    rw [if_neg (by omega), show j + 2 - 2 = j by omega, hj]
    show _ = some ((pLd L q.1).getD .null)
    rw [hv]
    rfl
  refine ⟨ρ, ⟨h1, ?_, ⟨fun a ha => (by cases ha), h3⟩, ?_, ?_, ?_, ?_, ?_⟩, hρ⟩
  · intro p hp
    obtain ⟨j, q, hj, rfl⟩ := cutLoc_mem hp
    have hlt := (List.getElem?_eq_some_iff.mp hj).1
    refine ⟨?_, ?_⟩
    · show 2 + j < ((cutEs c.2.1).length + 1) + 1
      rw [cutEs_eq, List.length_map]
      omega
    · rw [aval_s0 (by omega), show 2 + j = j + 2 by omega]
      exact hρ j q hj
  · refine cutEnv_ok rfl rfl (fun j e hj => ?_)
    rw [cutEs_eq, List.getElem?_map] at hj
    obtain ⟨q, hq, rfl⟩ := Option.map_eq_some_iff.mp hj
    obtain ⟨v, hv, hs⟩ := h2 q (List.mem_of_getElem? hq)
    have := hρ j q hq
    rw [hv] at this
    cases this
    exact hs
  · intro o k e ho _ _ he
    exact h5 o k e ho he
  · intro q hq
    cases hq
  · show sh = gSh.take 205
    rw [gSh_full]
    exact h4
  · show 205 ≤ gSh.length
    rw [gSh_205]
    exact Nat.le_refl _
/-- nothing is out of kind -/
noncomputable def fCln (w : aW) (t : Bool) : Bool := bI (fEmp w.2.2.1) (bI (fEmp w.2.2.2.1) (bI (Nat.beq w.2.2.2.2 205) t false) false) false
theorem fCln_ok {τ : fT} {w : aW} {t : Bool} {ρ : Nat → Value} {sh : pSh} {M : pMem} (h : fCln w t = true) (hW : aWor (tOf τ) gSh w ρ sh M) : sh = gSh ∧ tyM (tOf τ) M ∧ t = true := by
  obtain ⟨g3, g4⟩ := bI_and h
  obtain ⟨g5, g6⟩ := bI_and g4
  obtain ⟨g7, g8⟩ := bI_and g6
  have g3 := fEmp_ok g3
  have g5 := fEmp_ok g5
  have g7 := Nat.eq_of_beq_eq_true g7
  refine ⟨by rw [hW.2.2.2.1, g7, gSh_full], fun o k e ho he => hW.2.1 o k e (by rw [g7]; exact ho) (by rw [g5]; exact List.not_mem_nil) (by rw [g3]; exact List.not_mem_nil) he, g8⟩
noncomputable def fGam (A : aL) (w : aW) (G : List (Nat × aE)) : Bool := @List.rec (Nat × aE) (fun _ => Bool) true (fun q _ ih => bI (fLd A q.1 (fun a => fFit w.1 a q.2)) ih false) G
theorem fGam_ok {A : aL} {w : aW} {G : List (Nat × aE)} {ρ : Nat → Value} {L : pLs} (hE : aEnv w.1 ρ) (hA : aLoc w ρ A L) (h : fGam A w G = true) : ∀ q ∈ G, ∃ v, pLd L q.1 = some v ∧ satE q.2 v := by
  induction G with
  | nil => intro q hq; cases hq
  | cons p G ih =>
    obtain ⟨h1, h2⟩ := bI_and (show bI (fLd A p.1 (fun a => fFit w.1 a p.2)) (fGam A w G) false = true from h)
    intro q hq
    rcases List.mem_cons.mp hq with rfl | hq
    · obtain ⟨a, g1, g2⟩ := fLd_ok h1
      exact ⟨_, (hA _ g1).2, fFit_ok hE g2⟩
    · exact ih h2 q hq
noncomputable def fSub0 (A : aL) (B : List aV) (w : aW) (G : List (Nat × aE)) (t : Bool) : Bool := bI (fEmp B) (fCln w (bI (fGam A w G) t false)) false
theorem fSub0_ok {τ : fT} {A : aL} {B : List aV} {w : aW} {c : fCu} {t : Bool} {ρ : Nat → Value} {σ : pSt} (h : fSub0 A B w c.2.1 t = true) (hG : aG (tOf τ) gSh ρ (c.1, A, B, w) σ) : cutSat τ c σ ∧ t = true := by
  obtain ⟨h1, h2⟩ := bI_and h
  obtain ⟨g1, g2, g3⟩ := fCln_ok h2 hG.2.2.2
  obtain ⟨g4, g5⟩ := bI_and g3
  refine ⟨⟨hG.1, fGam_ok hG.2.2.2.1 hG.2.1 g4, ?_, g1, g2⟩, g5⟩
  rw [hG.2.2.1.2, fEmp_ok h1]
  rfl
/-- the symbol of a cut's local -/
noncomputable def cutSym (G : List (Nat × aE)) (i n : Nat) : Nat := @List.rec (Nat × aE) (fun _ => Nat → Nat) (fun _ => 1) (fun q _ ih n => @Bool.rec (fun _ => Nat) (ih (Nat.succ n)) n (Nat.beq q.1 i)) G n
theorem cutSym_ok {G : List (Nat × aE)} {i n : Nat} (h : cutSym G i n ≠ 1) : ∃ j q, G[j]? = some q ∧ q.1 = i ∧ cutSym G i n = n + j := by
  induction G generalizing n with
  | nil => exact absurd rfl h
  | cons q G ih =>
    have e : cutSym (q :: G) i n = @Bool.rec (fun _ => Nat) (cutSym G i (Nat.succ n)) n (Nat.beq q.1 i) := rfl
    cases hb : Nat.beq q.1 i with
    | true =>
      rw [hb] at e
      exact ⟨0, q, rfl, Nat.eq_of_beq_eq_true hb, e⟩
    | false =>
      rw [hb] at e
      have e : cutSym (q :: G) i n = cutSym G i (Nat.succ n) := e
      rw [e] at h
      obtain ⟨j, p, h1, h2, h3⟩ := ih h
      exact ⟨j + 1, p, h1, h2, by rw [e, h3]; omega⟩
noncomputable def fLs2 (G0 : List (Nat × aE)) (w : aW) (q : Nat × Nat × Int) (cont : Bool) (a : aV) : Bool := bI (Nat.beq a.1 1) false (bI (Nat.beq a.1 (cutSym G0 q.2.1 2)) (bI (fEq a.2 0) cont (bI (Nat.beq a.1 0) false (fIv w.1 a (fun lo hi => bI (Nat.beq q.1 1) (bI (fLe 1 a.2) (fLe hi q.2.2) false) (bI (fLe a.2 (-1)) (fLe q.2.2 lo) false))))) false)
noncomputable def fLs1 (G0 : List (Nat × aE)) (A : aL) (w : aW) (q p : Nat × Nat × Int) (cont : Bool) : Bool := bI (Nat.beq q.1 0) (bI (Nat.beq p.1 0) (bI (fEq p.2.2 q.2.2) cont (bI (fLe 0 p.2.2) (fLe (iAdd p.2.2 1) q.2.2) false)) false) (bI (Nat.beq q.1 p.1) (bI (fEq p.2.2 q.2.2) (fLd A p.2.1 (fLs2 G0 w q cont)) false) false)
/-- the measure falls: the old cut's, the new cut's -/
noncomputable def fLess (G0 : List (Nat × aE)) (A : aL) (w : aW) (m0 m1 : List (Nat × Nat × Int)) : Bool := @List.rec (Nat × Nat × Int) (fun _ => List (Nat × Nat × Int) → Bool) (fun _ => false) (fun q _ ih m1 => @List.rec (Nat × Nat × Int) (fun _ => Bool) false (fun p r _ => fLs1 G0 A w q p (ih r)) m1) m0 m1
theorem fIv_rel {env : List aE} {ρ : Nat → Value} {a : aV} {k : Int → Int → Bool} (hE : aEnv env ρ) (h : fIv env a k = true) (h0 : a.1 ≠ 0) : ∃ (z0 : Int32) (lo hi : Int), ρ a.1 = .int z0 ∧ lo ≤ z0.toInt + a.2 ∧ z0.toInt + a.2 ≤ hi ∧ k lo hi = true ∧ aval ρ a = .int (z0 + Int32.ofInt a.2) ∧ (z0 + Int32.ofInt a.2).toInt = z0.toInt + a.2 := by
  rcases bI_if h with ⟨h1, h2⟩ | ⟨h1, h2⟩
  · exact absurd (Nat.eq_of_beq_eq_true h1) h0
  · obtain ⟨h3, h4⟩ := bI_not h2
    obtain ⟨e, h5, h6⟩ := fNth_ok h4
    obtain ⟨h7, h8⟩ := bI_and h6
    obtain ⟨g1, g2⟩ := bI_and h8
    obtain ⟨g3, g4⟩ := bI_and g2
    obtain ⟨z0, hz, q1, q2⟩ := satE0 h7 (hE.2.2 _ _ h5)
    rw [iAdd_eq] at g1 g3 g4
    rw [iAdd_eq] at g4
    have r1 := fR_t g1
    have r2 := fR_t g3
    have hq := i32_add (z := z0) (n := a.2) (by omega) (by omega)
    refine ⟨z0, _, _, hz, by omega, by omega, g4, ?_, hq⟩
    unfold aval
    rw [if_neg (Nat.ne_of_beq_eq_false h3), hz]
theorem fLs1_ok {G0 : List (Nat × aE)} {A : aL} {w : aW} {q p : Nat × Nat × Int} {cont : Bool} {ρ ρ' : Nat → Value} {L L' : pLs} (hE : aEnv w.1 ρ') (hA : aLoc w ρ' A L') (hs : aSub ((G0.length + 1) + 1) ρ ρ') (hL : ∀ j q, G0[j]? = some q → pLd L q.1 = some (ρ (j + 2))) (h : fLs1 G0 A w q p cont = true) : mVal L' p < mVal L q ∨ (mVal L' p = mVal L q ∧ cont = true) := by
  unfold mVal
  rcases bI_if h with ⟨h1, h2⟩ | ⟨h1, h2⟩
  · obtain ⟨h3, h4⟩ := bI_and h2
    have h1 := Nat.eq_of_beq_eq_true h1
    have h3 := Nat.eq_of_beq_eq_true h3
    rw [if_pos h1, if_pos h3]
    rcases bI_if h4 with ⟨g1, g2⟩ | ⟨g1, g2⟩
    · exact Or.inr ⟨by rw [fEq_t g1], g2⟩
    · obtain ⟨g3, g4⟩ := bI_and g2
      have g3 := fLe_t g3
      have g4 := fLe_t g4
      rw [iAdd_eq] at g4
      exact Or.inl (by omega)
  · have h1 := Nat.ne_of_beq_eq_false h1
    obtain ⟨h3, h4⟩ := bI_and h2
    have h3 := Nat.eq_of_beq_eq_true h3
    obtain ⟨h5, h6⟩ := bI_and h4
    have h5 := fEq_t h5
    obtain ⟨a, g1, g2⟩ := fLd_ok h6
    obtain ⟨-, g3⟩ := hA _ g1
    have g3 : pLd L' p.2.1 = some (aval ρ' a) := g3
    obtain ⟨k1, k2⟩ := bI_not g2
    have k1 := Nat.ne_of_beq_eq_false k1
    obtain ⟨k3, k4⟩ := bI_and k2
    have k3 := Nat.eq_of_beq_eq_true k3
    obtain ⟨j, q', c1, c2, c3⟩ := cutSym_ok (G := G0) (i := q.2.1) (n := 2) (by rw [← k3]; exact k1)
    have c4 := hL j q' c1
    rw [c2] at c4
    have hj := (List.getElem?_eq_some_iff.mp c1).1
    have ea : a.1 = j + 2 := by rw [k3, c3]; omega
    have eρ : ρ' a.1 = ρ (j + 2) := by rw [ea]; exact hs _ (by omega)
    rw [if_neg h1, if_neg (by rw [← h3]; exact h1), ← h3, h5]
    rcases bI_if k4 with ⟨b1, b2⟩ | ⟨b1, b2⟩
    · have b1 := fEq_t b1
      have e2 : aval ρ' a = ρ (j + 2) := by
        rw [show a = (a.1, 0) from Prod.ext rfl b1, aval_s0 k1, eρ]
      have e3 : valI L' p.2.1 = valI L q.2.1 := by
        unfold valI
        rw [g3, c4, e2]
      rw [e3]
      exact Or.inr ⟨rfl, b2⟩
    · obtain ⟨-, b3⟩ := bI_not b2
      obtain ⟨z0, lo, hi, hz, z1, z2, b4, b5, b6⟩ := fIv_rel hE b3 (by omega)
      have e2 : valI L q.2.1 = z0.toInt := by
        unfold valI
        rw [c4, ← eρ, hz]
      have e3 : valI L' p.2.1 = z0.toInt + a.2 := by
        unfold valI
        rw [g3, b5]
        exact b6
      rw [e2, e3]
      rcases bI_if b4 with ⟨d1, d2⟩ | ⟨d1, d2⟩
      · have d1 := Nat.eq_of_beq_eq_true d1
        rw [if_pos d1, if_pos d1]
        obtain ⟨d3, d4⟩ := bI_and d2
        have d3 := fLe_t d3
        have d4 := fLe_t d4
        exact Or.inl (by omega)
      · have d1 := Nat.ne_of_beq_eq_false d1
        rw [if_neg d1, if_neg d1]
        obtain ⟨d3, d4⟩ := bI_and d2
        have d3 := fLe_t d3
        have d4 := fLe_t d4
        exact Or.inl (by omega)
theorem fLess_ok {G0 : List (Nat × aE)} {A : aL} {w : aW} {ρ ρ' : Nat → Value} {L L' : pLs} (hE : aEnv w.1 ρ') (hA : aLoc w ρ' A L') (hs : aSub ((G0.length + 1) + 1) ρ ρ') (hL : ∀ j q, G0[j]? = some q → pLd L q.1 = some (ρ (j + 2))) : ∀ {m0 m1 : List (Nat × Nat × Int)}, m0.length = m1.length → fLess G0 A w m0 m1 = true → lexLt (m1.map (mVal L')) (m0.map (mVal L)) := by
  intro m0
  induction m0 with
  | nil => intro m1 _ h; cases h
  | cons q m0 ih =>
    intro m1 hl h
    cases m1 with
    | nil => cases h
    | cons p m1 =>
      have hl : m0.length = m1.length := Nat.succ.inj hl
      rcases fLs1_ok hE hA hs hL (show fLs1 G0 A w q p (fLess G0 A w m0 m1) = true from h) with h1 | ⟨h1, h2⟩
      · exact Or.inl ⟨h1, by rw [List.length_map, List.length_map, hl]⟩
      · exact Or.inr ⟨h1, ih hl h2⟩
/-- where a run stops: at cuts; from a cut, the measure must fall -/
noncomputable def stpE (cs : List fCu) : fStp := fun pc => @List.rec fCu (fun _ => Option (aL → List aV → aW → Bool)) none (fun c _ ih => @Bool.rec (fun _ => Option (aL → List aV → aW → Bool)) ih (some (fun A B w => fSub0 A B w c.2.1 true)) (Nat.beq c.1 pc)) cs
noncomputable def stpC (c0 : fCu) (cs : List fCu) : fStp := fun pc => @List.rec fCu (fun _ => Option (aL → List aV → aW → Bool)) none (fun c _ ih => @Bool.rec (fun _ => Option (aL → List aV → aW → Bool)) ih (some (fun A B w => fSub0 A B w c.2.1 (fLess c0.2.1 A w c0.2.2 c.2.2))) (Nat.beq c.1 pc)) cs
theorem stpE_ok {cs : List fCu} {pc : Nat} {k : aL → List aV → aW → Bool} (h : stpE cs pc = some k) : ∃ c ∈ cs, c.1 = pc ∧ k = fun A B w => fSub0 A B w c.2.1 true := by
  induction cs with
  | nil => cases h
  | cons c cs ih =>
    have h : (@Bool.rec (fun _ => Option (aL → List aV → aW → Bool)) (stpE cs pc) (some (fun A B w => fSub0 A B w c.2.1 true)) (Nat.beq c.1 pc)) = some k := h
    cases hb : Nat.beq c.1 pc with
    | true =>
      rw [hb] at h
      cases h
      exact ⟨c, List.mem_cons_self, Nat.eq_of_beq_eq_true hb, rfl⟩
    | false =>
      rw [hb] at h
      obtain ⟨c', h1, h2⟩ := ih h
      exact ⟨c', List.mem_cons_of_mem _ h1, h2⟩
theorem stpC_ok {c0 : fCu} {cs : List fCu} {pc : Nat} {k : aL → List aV → aW → Bool} (h : stpC c0 cs pc = some k) : ∃ c ∈ cs, c.1 = pc ∧ k = fun A B w => fSub0 A B w c.2.1 (fLess c0.2.1 A w c0.2.2 c.2.2) := by
  induction cs with
  | nil => cases h
  | cons c cs ih =>
    have h : (@Bool.rec (fun _ => Option (aL → List aV → aW → Bool)) (stpC c0 cs pc) (some (fun A B w => fSub0 A B w c.2.1 (fLess c0.2.1 A w c0.2.2 c.2.2))) (Nat.beq c.1 pc)) = some k := h
    cases hb : Nat.beq c.1 pc with
    | true =>
      rw [hb] at h
      cases h
      exact ⟨c, List.mem_cons_self, Nat.eq_of_beq_eq_true hb, rfl⟩
    | false =>
      rw [hb] at h
      obtain ⟨c', h1, h2⟩ := ih h
      exact ⟨c', List.mem_cons_of_mem _ h1, h2⟩
/-- the answer is of its kind, and memory keeps its types -/
noncomputable def retK (es : List aE) : fKap := fun v w => fCln w (fFits w.1 v es)
noncomputable def fLenM (l : List (Nat × Nat × Int)) : Nat := @List.rec (Nat × Nat × Int) (fun _ => Nat) 0 (fun _ _ ih => Nat.succ ih) l
theorem fLenM_eq (l : List (Nat × Nat × Int)) : fLenM l = l.length := by
  induction l with
  | nil => rfl
  | cons q l ih => exact congrArg Nat.succ ih
noncomputable def conCuts (τ : fT) (Kt : Nat → List fCn) (dK f d m : Nat) (c : fCn) (cs : List fCu) (n : Nat) (l : List fCu) : Bool := @List.rec fCu (fun _ => Bool) true (fun u _ ih => bI (Nat.beq (fLenM u.2.2) n) (bI (fexec τ (none, []) fDs fCs Kt dK f d (fDs m).2 (stpC u cs) ((fDs m).2 u.1) u.1 (cutLoc u.2.1 2) [] (cutW (cutEs u.2.1)) (retK c.2)) ih false) false) l
/-- a method keeps a contract -/
noncomputable def conChk (τ : fT) (Kt : Nat → List fCn) (dK f d m : Nat) (c : fCn) (cs : List fCu) (n : Nat) : Bool := bI (Nat.ble (fSize (cutEnv c.1) (cutArg c.1 2)) (fDs m).1) (bI (fexec τ (none, []) fDs fCs Kt dK f d (fDs m).2 (stpE cs) ((fDs m).2 0) 0 (fArgs (cutEnv c.1) (cutArg c.1 2) 0) [] (cutW c.1) (retK c.2)) (conCuts τ Kt dK f d m c cs n cs) false) false
theorem conCuts_ok {τ : fT} {Kt : Nat → List fCn} {dK f d m n : Nat} {c : fCn} {cs l : List fCu} (h : conCuts τ Kt dK f d m c cs n l = true) : ∀ u ∈ l, u.2.2.length = n ∧ fexec τ (none, []) fDs fCs Kt dK f d (fDs m).2 (stpC u cs) ((fDs m).2 u.1) u.1 (cutLoc u.2.1 2) [] (cutW (cutEs u.2.1)) (retK c.2) = true := by
  induction l with
  | nil => intro u hu; cases hu
  | cons u l ih =>
    obtain ⟨h1, h2⟩ := bI_and (show bI (Nat.beq (fLenM u.2.2) n) (bI (fexec τ (none, []) fDs fCs Kt dK f d (fDs m).2 (stpC u cs) ((fDs m).2 u.1) u.1 (cutLoc u.2.1 2) [] (cutW (cutEs u.2.1)) (retK c.2)) (conCuts τ Kt dK f d m c cs n l) false) false = true from h)
    obtain ⟨h3, h4⟩ := bI_and h2
    have h1 := Nat.eq_of_beq_eq_true h1
    rw [fLenM_eq] at h1
    intro x hx
    rcases List.mem_cons.mp hx with rfl | hx
    · exact ⟨h1, h3⟩
    · exact ih h4 x hx
theorem forall2_get : ∀ {es : List aE} {vs : List Value}, satS es vs → ∀ {j : Nat} {e : aE} {v : Value}, es[j]? = some e → vs[j]? = some v → satE e v
  | [], [], _, j, e, v, h, _ => by cases h
  | e0 :: es, v0 :: vs, h, 0, e, v, g1, g2 => by
    cases g1
    cases g2
    exact h.1
  | e0 :: es, v0 :: vs, h, j + 1, e, v, g1, g2 => forall2_get (es := es) (vs := vs) h.2 (j := j) g1 g2
  | [], _ :: _, h, _, _, _, _, _ => h.elim
  | _ :: _, [], h, _, _, _, _, _ => h.elim
theorem cutArg_map {ρ : Nat → Value} {vs : List Value} : ∀ {es : List aE} {n : Nat}, 2 ≤ n → es.length = vs.length → (∀ j v, vs[j]? = some v → ρ (n + j) = v) → (cutArg es n).map (aval ρ) = vs := by
  induction vs with
  | nil =>
    intro es n _ hl _
    have : es = [] := List.length_eq_zero_iff.mp hl
    subst this
    rfl
  | cons v vs ih =>
    intro es n hn hl h
    cases es with
    | nil => cases hl
    | cons e es =>
      show aval ρ (n, 0) :: (cutArg es (Nat.succ n)).map (aval ρ) = _
      rw [aval_s0 (by omega), ih (by omega) (Nat.succ.inj hl) (fun j u hj => by rw [← h (j + 1) u hj]; congr 1; omega)]
      rw [show ρ n = v from h 0 v rfl]
theorem cutArg_lt {es : List aE} {n : Nat} {a : aV} (h : a ∈ cutArg es n) : a.1 < n + es.length := by
  induction es generalizing n with
  | nil => cases h
  | cons e es ih =>
    rcases List.mem_cons.mp (show a ∈ (n, (0 : Int)) :: cutArg es (Nat.succ n) from h) with rfl | h
    · show n < n + (es.length + 1)
      omega
    · have := ih h
      rw [List.length_cons]
      omega
theorem con_ok {τ : fT} {Kt : Nat → List fCn} {dK f d m n : Nat} {c : fCn} {cs : List fCu} {S : pScr} (ht : fTau τ) (hK : ∀ m, ∀ c ∈ Kt m, cnOk τ S dK m c) (hm : Nat.ble (m + 1) nM = true) (h : conChk τ Kt dK f d m c cs n = true) : cnOk τ S (d + 1) m c := by
  have hm : m < nM := Nat.le_of_ble_eq_true hm
  obtain ⟨D1, D2, D3⟩ := fD_ok m hm
  obtain ⟨h1, h2⟩ := bI_and h
  obtain ⟨h3, h4⟩ := bI_and h2
  have h1 := Nat.le_of_ble_eq_true h1
  have h4 := conCuts_ok h4
  have good := fexec_good (X0 := (none, [])) fD_ok hK ht f
  have xo : ∀ (w : aW) (ρ : Nat → Value), xOk (none, []) S w ρ := fun w ρ => ⟨trivial, fun q hq => by cases hq⟩
  let Post : List Value → pHp → Prop := fun v hp => hp.1 = gSh ∧ tyM (tOf τ) hp.2 ∧ satS c.2 v
  have hret : ∀ (v : List aV) (w' : aW) (ρ' : Nat → Value) (hp : pHp), retK c.2 v w' = true → aWor (tOf τ) gSh w' ρ' hp.1 hp.2 → Post (v.map (aval ρ')) hp := by
    intro v w' ρ' hp k1 k2
    obtain ⟨q1, q2, q3⟩ := fCln_ok k1 k2
    exact ⟨q1, q2, fFits_ok k2.1 q3⟩
  have cut : ∀ (ms : List Nat), Acc lexLt ms → ∀ u ∈ cs, ∀ σ : pSt, u.2.2.map (mVal σ.2.1) = ms → cutSat τ u σ → pOk S (pMe m).1 (pKind.getD m 9 == 2) (pMe m).2.2.2.1 (pCode m) d (fun i len τ' => ∃ v, pRet (pMe m).2.2.2.2 i len τ'.2.2.1 = some v ∧ Post v.toList (τ'.2.2.2.1, τ'.2.2.2.2)) σ := by
    intro ms hacc
    induction hacc with
    | intro ms _ ih =>
      intro u hu σ hms hsat
      obtain ⟨hul, hrun⟩ := h4 u hu
      obtain ⟨ρ, hG, hL⟩ := cut_start hsat
      refine good _ _ _ _ _ d _ _ _ _ _ _ _ _ (pMe_lt m hm).1 D3 (D3 u.1) hrun ρ σ Post (xo _ _) hG ?_ ?_
      · intro pc' k hk A' B' w' ρ' σ' hc hs hl hG'
        obtain ⟨u', hu', rfl, rfl⟩ := stpC_ok hk
        obtain ⟨hsat', hless⟩ := fSub0_ok hc hG'
        have hlex := fLess_ok (G0 := u.2.1) (A := A') (w := w') (L := σ.2.1) (L' := σ'.2.1) hG'.2.2.2.1 hG'.2.1 (fun s hs' => hs s (by show s < ((cutEs u.2.1).length + 1) + 1; rw [cutEs_eq, List.length_map]; exact hs')) hL (by rw [hul, (h4 u' hu').1]) hless
        rw [hms] at hlex
        exact ih _ hlex u' hu' σ' rfl hsat'
      · intro v w' ρ' hp k1 _ _ _ k5
        exact hret v w' ρ' hp k1 k5
  intro vs M hvs hM
  have hlen : c.1.length = vs.length := satS_len hvs
  let ρ : Nat → Value := fun s => if s < 2 then .int 0 else (vs[s - 2]?).getD .null
  have hρ : ∀ j v, vs[j]? = some v → ρ (2 + j) = v := by
    intro j v hj
    show (if 2 + j < 2 then _ else _) = _
    rw [if_neg (by omega), show 2 + j - 2 = j by omega, hj]
    rfl
  have hE : aEnv (cutEnv c.1) ρ := cutEnv_ok rfl rfl (fun j e hj => by
    have hlt := (List.getElem?_eq_some_iff.mp hj).1
    have hv : vs[j]? = some vs[j] := List.getElem?_eq_getElem (by omega)
    rw [show j + 2 = 2 + j by omega, hρ j _ hv]
    exact forall2_get hvs hj hv)
  have hW : aWor (tOf τ) gSh (cutW c.1) ρ gSh M := ⟨hE, fun o k e ho _ _ he => hM o k e ho he, (fun q hq => by cases hq), gSh_full.symm, by show 205 ≤ gSh.length; rw [gSh_205]; exact Nat.le_refl _⟩
  have has : ∀ a ∈ cutArg c.1 2, a.1 < (cutW c.1).1.length := fun a ha => by
    have := cutArg_lt ha
    show a.1 < (c.1.length + 1) + 1
    omega
  have hmap : (cutArg c.1 2).map (aval ρ) = vs := cutArg_map (Nat.le_refl _) hlen hρ
  rw [← hmap]
  refine c_of_ok (by rw [fSize_ok hE has, ← D1]; exact h1) ?_
  refine good _ _ _ _ _ d _ _ _ _ _ _ _ _ (pMe_lt m hm).1 D3 (D3 0) h3 ρ _ Post (xo _ _) ⟨rfl, fArgs_ok (w := cutW c.1) hE has, ⟨fun a ha => (by cases ha), rfl⟩, hW⟩ ?_ ?_
  · intro pc' k hk A' B' w' ρ' σ' hc hs hl hG'
    obtain ⟨u', hu', rfl, rfl⟩ := stpE_ok hk
    obtain ⟨hsat', -⟩ := fSub0_ok hc hG'
    exact cut _ (lex_acc _ _ rfl) u' hu' σ' rfl hsat'
  · intro v w' ρ' hp k1 _ _ _ k5
    exact hret v w' ρ' hp k1 k5
/-- a table of contracts -/
noncomputable def ktOf (l : List (Nat × fCn)) : Nat → List fCn := fun m => @List.rec (Nat × fCn) (fun _ => List fCn) [] (fun q _ ih => @Bool.rec (fun _ => List fCn) ih (q.2 :: ih) (Nat.beq q.1 m)) l
def tabOk (τ : fT) (S : pScr) (d : Nat) (l : List (Nat × fCn)) : Prop := ∀ m, ∀ c ∈ ktOf l m, cnOk τ S d m c
theorem tab_nil {τ : fT} {S : pScr} {d : Nat} : tabOk τ S d [] := fun _ _ h => by cases h
theorem cnOk.deep {τ : fT} {S : pScr} {d d' m : Nat} {c : fCn} (h : cnOk τ S d m c) (hd : d ≤ d') : cnOk τ S d' m c := fun vs M h1 h2 => (h vs M h1 h2).deep hd
theorem tab_cons {τ : fT} {S : pScr} {d d' m : Nat} {c : fCn} {l : List (Nat × fCn)} (hl : tabOk τ S d l) (h : cnOk τ S d' m c) (hd : d ≤ d') : tabOk τ S d' ((m, c) :: l) := by
  intro m' c' hc
  have hc : c' ∈ (@Bool.rec (fun _ => List fCn) (ktOf l m') (c :: ktOf l m') (Nat.beq m m')) := hc
  cases hb : Nat.beq m m' with
  | false =>
    rw [hb] at hc
    exact (hl m' c' hc).deep hd
  | true =>
    rw [hb] at hc
    have e := Nat.eq_of_beq_eq_true hb
    subst e
    rcases List.mem_cons.mp hc with rfl | hc
    · exact h
    · exact (hl m c' hc).deep hd

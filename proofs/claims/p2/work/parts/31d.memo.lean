/-! contracts by runs with cuts at which answers of pure calls are kept -/
/-- a kept answer: the method, its arguments (0 a local, 1 an object, 2 a number), the answer's kind -/
abbrev fMh : Type := Nat × List (Nat × Nat) × aE
abbrev fCh : Type := fCu × List fMh
noncomputable def mhV (L : pLs) (M : pMem) (q : Nat × Nat) : Value := if q.1 = 0 then (gv L M q.2).getD .null else if q.1 = 1 then .ref q.2 else .int (Int32.ofInt (Int.ofNat q.2))
def mhOk (S : pScr) (dK : Nat) (H : List fMh) (σ : pSt) : Prop := ∀ q ∈ H, ∃ v, satE q.2.2 v ∧ cOk S dK q.1 (q.2.1.map (mhV σ.2.1 σ.2.2.2.2)) (σ.2.2.2.1, σ.2.2.2.2) (fun r hp => r.toList = [v] ∧ hp = (σ.2.2.2.1, σ.2.2.2.2))
noncomputable def mhA (G : List (Nat × aE)) (q : Nat × Nat) : aV := @Bool.rec (fun _ => aV) (@Bool.rec (fun _ => aV) (0, Int.ofNat q.2) (1, Int.ofNat q.2) (Nat.beq q.1 1)) (cutSym G q.2 2, 0) (Nat.beq q.1 0)
noncomputable def mhAs (G : List (Nat × aE)) (l : List (Nat × Nat)) : List aV := @List.rec (Nat × Nat) (fun _ => List aV) [] (fun q _ ih => mhA G q :: ih) l
theorem mhAs_eq (G : List (Nat × aE)) (l : List (Nat × Nat)) : mhAs G l = l.map (mhA G) := by
  induction l with
  | nil => rfl
  | cons q l ih => show mhA G q :: mhAs G l = _; rw [ih]; rfl
noncomputable def mhSt (G : List (Nat × aE)) (H : List fMh) (n : Nat) : List (Nat × List aV × aV) := @List.rec fMh (fun _ => Nat → List (Nat × List aV × aV)) (fun _ => []) (fun q _ ih n => (q.1, mhAs G q.2.1, (n, 0)) :: ih (Nat.succ n)) H n
noncomputable def mhEs (H : List fMh) : List aE := @List.rec fMh (fun _ => List aE) [] (fun q _ ih => q.2.2 :: ih) H
theorem mhEs_eq (H : List fMh) : mhEs H = H.map (fun q => q.2.2) := by
  induction H with
  | nil => rfl
  | cons q H ih => show q.2.2 :: mhEs H = _; rw [ih]; rfl
/-- the kept arguments are locals of the cut -/
noncomputable def mhLoc (G : List (Nat × aE)) (l : List (Nat × Nat)) : Bool := @List.rec (Nat × Nat) (fun _ => Bool) true (fun q _ ih => bI (Nat.beq q.1 0) (bI (Nat.beq (cutSym G q.2 2) 1) false ih) (bI (Nat.ble q.1 2) ih false)) l
noncomputable def mhWf (G : List (Nat × aE)) (H : List fMh) : Bool := @List.rec fMh (fun _ => Bool) true (fun q _ ih => bI (mhLoc G q.2.1) ih false) H
theorem mhLoc_ok {G : List (Nat × aE)} {l : List (Nat × Nat)} (h : mhLoc G l = true) : ∀ q ∈ l, (q.1 = 0 ∧ cutSym G q.2 2 ≠ 1) ∨ q.1 = 1 ∨ q.1 = 2 := by
  induction l with
  | nil => intro q hq; cases hq
  | cons p l ih =>
    intro q hq
    rcases bI_if (show bI (Nat.beq p.1 0) (bI (Nat.beq (cutSym G p.2 2) 1) false (mhLoc G l)) (bI (Nat.ble p.1 2) (mhLoc G l) false) = true from h) with ⟨h1, h2⟩ | ⟨h1, h2⟩
    · obtain ⟨h3, h4⟩ := bI_not h2
      rcases List.mem_cons.mp hq with rfl | hq
      · exact Or.inl ⟨Nat.eq_of_beq_eq_true h1, Nat.ne_of_beq_eq_false h3⟩
      · exact ih h4 q hq
    · obtain ⟨h3, h4⟩ := bI_and h2
      rcases List.mem_cons.mp hq with rfl | hq
      · have h5 := Nat.le_of_ble_eq_true h3
        have h6 := Nat.ne_of_beq_eq_false h1
        exact Or.inr (by omega)
      · exact ih h4 q hq
theorem mhWf_ok {G : List (Nat × aE)} {H : List fMh} (h : mhWf G H = true) : ∀ q ∈ H, mhLoc G q.2.1 = true := by
  induction H with
  | nil => intro q hq; cases hq
  | cons p H ih =>
    obtain ⟨h1, h2⟩ := bI_and (show bI (mhLoc G p.2.1) (mhWf G H) false = true from h)
    intro q hq
    rcases List.mem_cons.mp hq with rfl | hq
    · exact h1
    · exact ih h2 q hq
/-- at a cut: the arguments as they are now -/
noncomputable def mhGet (A : aL) (l : List (Nat × Nat)) (k : List aV → Bool) : Bool := @List.rec (Nat × Nat) (fun _ => (List aV → Bool) → Bool) (fun k => k []) (fun q _ ih k => bI (Nat.beq q.1 0) (bI (Nat.ble 1000000 q.2) false (fLd A q.2 (fun a => ih (fun as => k (a :: as))))) (bI (Nat.beq q.1 1) (ih (fun as => k ((1, Int.ofNat q.2) :: as))) (bI (Nat.beq q.1 2) (ih (fun as => k ((0, Int.ofNat q.2) :: as))) false))) l k
theorem mhGet_ok {A : aL} {w : aW} {ρ : Nat → Value} {L : pLs} {M : pMem} (hA : aLoc w ρ A L) (hz : ρ 0 = .int 0) : ∀ {l : List (Nat × Nat)} {k : List aV → Bool}, mhGet A l k = true → ∃ as, k as = true ∧ as.map (aval ρ) = l.map (mhV L M) := by
  intro l
  induction l with
  | nil => intro k h; exact ⟨[], h, rfl⟩
  | cons q l ih =>
    intro k h
    rcases bI_if (show bI (Nat.beq q.1 0) (bI (Nat.ble 1000000 q.2) false (fLd A q.2 (fun a => mhGet A l (fun as => k (a :: as))))) (bI (Nat.beq q.1 1) (mhGet A l (fun as => k ((1, Int.ofNat q.2) :: as))) (bI (Nat.beq q.1 2) (mhGet A l (fun as => k ((0, Int.ofNat q.2) :: as))) false)) = true from h) with ⟨h1, h2⟩ | ⟨-, h2⟩
    · obtain ⟨h3, h4⟩ := bI_not h2
      obtain ⟨a, ha, h5⟩ := fLd_ok h4
      obtain ⟨as, h6, h7⟩ := ih h5
      refine ⟨a :: as, h6, ?_⟩
      rw [List.map_cons, List.map_cons, h7]
      have e1 : pLd L q.2 = some (aval ρ a) := (hA (q.2, a) ha).2
      have e2 : mhV L M q = aval ρ a := by
        unfold mhV
        rw [if_pos (Nat.eq_of_beq_eq_true h1), gv_loc h3, e1]
        rfl
      rw [e2]
    · rcases bI_if h2 with ⟨h3, h4⟩ | ⟨-, h2⟩
      · obtain ⟨as, h6, h7⟩ := ih h4
        refine ⟨(1, Int.ofNat q.2) :: as, h6, ?_⟩
        rw [List.map_cons, List.map_cons, h7]
        have e2 : mhV L M q = aval ρ (1, Int.ofNat q.2) := by
          unfold mhV
          rw [if_neg (by rw [Nat.eq_of_beq_eq_true h3]; decide), if_pos (Nat.eq_of_beq_eq_true h3)]
          rfl
        rw [e2]
      · obtain ⟨h3, h4⟩ := bI_and h2
        obtain ⟨as, h6, h7⟩ := ih h4
        refine ⟨(0, Int.ofNat q.2) :: as, h6, ?_⟩
        rw [List.map_cons, List.map_cons, h7]
        have e2 : mhV L M q = aval ρ (0, Int.ofNat q.2) := by
          unfold mhV
          rw [if_neg (by rw [Nat.eq_of_beq_eq_true h3]; decide), if_neg (by rw [Nat.eq_of_beq_eq_true h3]; decide), aval_c hz]
        rw [e2]
noncomputable def mhArr (A : aL) (w : aW) (h : fHy) (H : List fMh) : Bool := @List.rec fMh (fun _ => Bool) true (fun q _ ih => bI (mhGet A q.2.1 (fun as => fMemo h.1 q.1 as (fun v => fFit w.1 v q.2.2) false)) ih false) H
theorem mhArr_ok {S : pScr} {dK : Nat} {A : aL} {w : aW} {h : fHy} {H : List fMh} {ρ : Nat → Value} {σ : pSt} (hE : aEnv w.1 ρ) (hA : aLoc w ρ A σ.2.1) (hh : hyOk S dK h w ρ σ.2.2.2.1 σ.2.2.2.2) (hr : mhArr A w h H = true) : mhOk S dK H σ := by
  induction H with
  | nil => intro q hq; cases hq
  | cons p H ih =>
    obtain ⟨h1, h2⟩ := bI_and (show bI (mhGet A p.2.1 (fun as => fMemo h.1 p.1 as (fun v => fFit w.1 v p.2.2) false)) (mhArr A w h H) false = true from hr)
    intro q hq
    rcases List.mem_cons.mp hq with rfl | hq
    · obtain ⟨as, h3, h4⟩ := mhGet_ok (M := σ.2.2.2.2) hA hE.2.1 h1
      rcases fMemo_ok h3 with ⟨v, h5, h6⟩ | h5
      · obtain ⟨g1, g2, g3⟩ := hh.1 _ h5
        refine ⟨aval ρ v, fFit_ok hE h6, ?_⟩
        rw [← h4]
        exact g3
      · cases h5
    · exact ih h2 q hq
noncomputable def chW (u : fCh) : aW := (cutEnv (cutEs u.1.2.1 ++ mhEs u.2), fOvF u.1.2.2.2 (cutOv u.1.2.1 2), [], [], 205)
noncomputable def chE (τ : fT) (ls : aL → aW → fCu → Bool) (u : fCh) (A : aL) (B : List aV) (w : aW) (h : fHy) : Bool := bI (mhArr A w h u.2) (fSub0 τ A B w u.1.2.1 u.1.2.2.2 (ls A w u.1)) false
noncomputable def chHas (cs : List fCh) (pc : Nat) : Bool := @List.rec fCh (fun _ => Bool) false (fun c _ ih => bI (Nat.beq c.1.1 pc) true ih) cs
noncomputable def chAny (f : fCh → aL → List aV → aW → fHy → Bool) (cs : List fCh) (pc : Nat) (A : aL) (B : List aV) (w : aW) (h : fHy) : Bool := @List.rec fCh (fun _ => Bool) false (fun c _ ih => bI (Nat.beq c.1.1 pc) (bI (f c A B w h) true ih) ih) cs
theorem chAny_ok {f : fCh → aL → List aV → aW → fHy → Bool} {cs : List fCh} {pc : Nat} {A : aL} {B : List aV} {w : aW} {hy : fHy} (h : chAny f cs pc A B w hy = true) : ∃ u ∈ cs, u.1.1 = pc ∧ f u A B w hy = true := by
  induction cs with
  | nil => cases h
  | cons c cs ih =>
    have go : chAny f cs pc A B w hy = true → ∃ u ∈ c :: cs, u.1.1 = pc ∧ f u A B w hy = true := fun hz => by
      obtain ⟨u, h1, h2⟩ := ih hz
      exact ⟨u, List.mem_cons_of_mem _ h1, h2⟩
    rcases bI_if (show bI (Nat.beq c.1.1 pc) (bI (f c A B w hy) true (chAny f cs pc A B w hy)) (chAny f cs pc A B w hy) = true from h) with ⟨h1, h2⟩ | ⟨-, h2⟩
    · rcases bI_if h2 with ⟨h3, -⟩ | ⟨-, h3⟩
      · exact ⟨c, List.mem_cons_self, Nat.eq_of_beq_eq_true h1, h3⟩
      · exact go h3
    · exact go h2
noncomputable def chStp (f : fCh → aL → List aV → aW → fHy → Bool) (cs : List fCh) : fStp := fun pc => @Bool.rec (fun _ => Option (aL → List aV → aW → fHy → Bool)) none (some (fun A B w h => chAny f cs pc A B w h)) (chHas cs pc)
theorem chStp_ok {f : fCh → aL → List aV → aW → fHy → Bool} {cs : List fCh} {pc : Nat} {k : aL → List aV → aW → fHy → Bool} {A : aL} {B : List aV} {w : aW} {hy : fHy} (h : chStp f cs pc = some k) (hk : k A B w hy = true) : ∃ u ∈ cs, u.1.1 = pc ∧ f u A B w hy = true := by
  unfold chStp at h
  cases hb : chHas cs pc with
  | false =>
    rw [hb] at h
    cases h
  | true =>
    rw [hb] at h
    have h : some (fun A B w h => chAny f cs pc A B w h) = some k := h
    cases h
    exact chAny_ok hk
noncomputable def chCuts (τ : fT) (Kt : Nat → List fCn) (dK f d m : Nat) (c : fCn) (cs : List fCh) (n : Nat) (κ : fKap) (l : List fCh) : Bool := @List.rec fCh (fun _ => Bool) true (fun u _ ih => bI (Nat.beq (fLenM u.1.2.2.1) n) (bI (mhWf u.1.2.1 u.2) (bI (fexec τ (none, []) c.2.2.1 fDs fCs Kt dK f d (fDs m).2 (chStp (chE τ (fun A w u' => fLess u.1.2.1 A w u.1.2.2.1 u'.2.2.1)) cs) ((fDs m).2 u.1.1) u.1.1 (cutLoc u.1.2.1 2) [] (chW u) (mhSt u.1.2.1 u.2 (Nat.add 2 u.1.2.1.length), []) κ) ih false) false) false) l
theorem chCuts_ok {τ : fT} {Kt : Nat → List fCn} {dK f d m n : Nat} {c : fCn} {cs l : List fCh} {κ : fKap} (h : chCuts τ Kt dK f d m c cs n κ l = true) : ∀ u ∈ l, u.1.2.2.1.length = n ∧ mhWf u.1.2.1 u.2 = true ∧ fexec τ (none, []) c.2.2.1 fDs fCs Kt dK f d (fDs m).2 (chStp (chE τ (fun A w u' => fLess u.1.2.1 A w u.1.2.2.1 u'.2.2.1)) cs) ((fDs m).2 u.1.1) u.1.1 (cutLoc u.1.2.1 2) [] (chW u) (mhSt u.1.2.1 u.2 (Nat.add 2 u.1.2.1.length), []) κ = true := by
  induction l with
  | nil => intro u hu; cases hu
  | cons u l ih =>
    obtain ⟨h1, h2⟩ := bI_and (show bI (Nat.beq (fLenM u.1.2.2.1) n) (bI (mhWf u.1.2.1 u.2) (bI (fexec τ (none, []) c.2.2.1 fDs fCs Kt dK f d (fDs m).2 (chStp (chE τ (fun A w u' => fLess u.1.2.1 A w u.1.2.2.1 u'.2.2.1)) cs) ((fDs m).2 u.1.1) u.1.1 (cutLoc u.1.2.1 2) [] (chW u) (mhSt u.1.2.1 u.2 (Nat.add 2 u.1.2.1.length), []) κ) (chCuts τ Kt dK f d m c cs n κ l) false) false) false = true from h)
    obtain ⟨h3, h4⟩ := bI_and h2
    obtain ⟨h5, h6⟩ := bI_and h4
    have h1 := Nat.eq_of_beq_eq_true h1
    rw [fLenM_eq] at h1
    intro x hx
    rcases List.mem_cons.mp hx with rfl | hx
    · exact ⟨h1, h3, h5⟩
    · exact ih h6 x hx
noncomputable def chChk (τ : fT) (Kt : Nat → List fCn) (dK f d m : Nat) (c : fCn) (cs : List fCh) (n : Nat) (κ : fKap) : Bool := bI (Nat.ble (fSize (cutEnv c.1) (cutArg c.1 2)) (fDs m).1) (bI (fexec τ (none, []) c.2.2.1 fDs fCs Kt dK f d (fDs m).2 (chStp (chE τ (fun _ _ _ => true)) cs) ((fDs m).2 0) 0 (fArgs (cutEnv c.1) (cutArg c.1 2) 0) [] (cutW c.1 c.2.2.2.1) ([], []) κ) (chCuts τ Kt dK f d m c cs n κ cs) false) false
/-- values for the kept answers -/
theorem mh_vals {S : pScr} {dK : Nat} {σ : pSt} : ∀ {H : List fMh}, mhOk S dK H σ → ∃ pv : List Value, satS (mhEs H) pv ∧ ∀ (j : Nat) (q : fMh), H[j]? = some q → ∃ v, pv[j]? = some v ∧ cOk S dK q.1 (q.2.1.map (mhV σ.2.1 σ.2.2.2.2)) (σ.2.2.2.1, σ.2.2.2.2) (fun r hp => r.toList = [v] ∧ hp = (σ.2.2.2.1, σ.2.2.2.2)) := by
  intro H
  induction H with
  | nil => intro _; exact ⟨[], trivial, fun j q hj => by simp at hj⟩
  | cons p H ih =>
    intro h
    obtain ⟨v, h1, h2⟩ := h p List.mem_cons_self
    obtain ⟨pv, h3, h4⟩ := ih (fun q hq => h q (List.mem_cons_of_mem _ hq))
    refine ⟨v :: pv, ⟨h1, h3⟩, fun j q hj => ?_⟩
    cases j with
    | zero =>
      have hj : some p = some q := hj
      cases hj
      exact ⟨v, rfl, h2⟩
    | succ j => exact h4 j q hj
theorem mhSt_mem {G : List (Nat × aE)} : ∀ {H : List fMh} {n : Nat} {p : Nat × List aV × aV}, p ∈ mhSt G H n → ∃ j q, H[j]? = some q ∧ p = (q.1, mhAs G q.2.1, (n + j, 0)) := by
  intro H
  induction H with
  | nil => intro n p h; cases h
  | cons q H ih =>
    intro n p h
    rcases List.mem_cons.mp (show p ∈ (q.1, mhAs G q.2.1, ((n, 0) : aV)) :: mhSt G H (Nat.succ n) from h) with rfl | h
    · exact ⟨0, q, rfl, rfl⟩
    · obtain ⟨j, q', h1, h2⟩ := ih h
      exact ⟨j + 1, q', h1, by rw [h2]; show (q'.1, mhAs G q'.2.1, ((n + 1 + j, 0) : aV)) = _; rw [show n + 1 + j = n + (j + 1) by omega]⟩
/-- the run from a cut begins so -/
theorem chStart {τ : fT} {S : pScr} {dK : Nat} {u : fCh} {σ : pSt} (hw : mhWf u.1.2.1 u.2 = true) (hs : gSat τ u.1.1 u.1.2.1 [] u.1.2.2.2 [] 205 σ) (hm : mhOk S dK u.2 σ) : ∃ ρ : Nat → Value, aG (tOf τ) gSh ρ (u.1.1, cutLoc u.1.2.1 2, [], chW u) σ ∧ (∀ j q, u.1.2.1[j]? = some q → gv σ.2.1 σ.2.2.2.2 q.1 = some (ρ (j + 2))) ∧ hyOk S dK (mhSt u.1.2.1 u.2 (Nat.add 2 u.1.2.1.length), []) (chW u) ρ σ.2.2.2.1 σ.2.2.2.2 := by
  obtain ⟨⟨pc0, G, ms, fs⟩, H⟩ := u
  obtain ⟨ρ0, hG, -, hL⟩ := gStart (ps := []) (pv := []) trivial hs
  have hG : aG (tOf τ) gSh ρ0 (pc0, cutLoc G 2, [], cutWG G (cutEs G) (cutOv G 2) fs) σ := by
    have e : ([] : List aE) ++ (cutEs G ++ []) = cutEs G := by simp
    rw [e] at hG
    exact hG
  have hL : ∀ j q, G[j]? = some q → gv σ.2.1 σ.2.2.2.2 q.1 = some (ρ0 (j + 2)) := fun j q hj => by
    have := hL j q hj
    rw [show 2 + (([] : List aE).length + j) = j + 2 by simp; omega] at this
    exact this
  obtain ⟨pv, g1, g2⟩ := mh_vals hm
  have eG : (cutEs G).length = G.length := by rw [cutEs_eq, List.length_map]
  have el0 : (cutWG G (cutEs G) (cutOv G 2) fs).1.length = 2 + G.length := by
    show ((cutEs G).length + 1) + 1 = _
    omega
  let ρ : Nat → Value := fun s => if s < 2 + G.length then ρ0 s else (pv[s - (2 + G.length)]?).getD .null
  have hρ0 : ∀ s, s < 2 + G.length → ρ s = ρ0 s := fun s hs => by
    show (if s < 2 + G.length then _ else _) = _
    rw [if_pos hs]
  have hρ1 : ∀ j v, pv[j]? = some v → ρ (2 + G.length + j) = v := fun j v hj => by
    show (if 2 + G.length + j < 2 + G.length then _ else _) = _
    rw [if_neg (by omega), show 2 + G.length + j - (2 + G.length) = j by omega, hj]
    rfl
  have hsub : aSub (cutWG G (cutEs G) (cutOv G 2) fs).1.length ρ0 ρ := fun s hs => hρ0 s (by rw [el0] at hs; exact hs)
  have elw : (chW ((pc0, G, ms, fs), H)).1.length = 2 + G.length + (mhEs H).length := by
    show ((cutEs G ++ mhEs H).length + 1) + 1 = _
    rw [List.length_append]
    omega
  have hE0 : aEnv (cutEnv (cutEs G)) ρ0 := hG.2.2.2.1
  have hE : aEnv (chW ((pc0, G, ms, fs), H)).1 ρ := by
    refine ⟨by rw [elw]; omega, by rw [hρ0 0 (by omega)]; exact hE0.2.1, fun s e hs => ?_⟩
    have hs : (cutEnv (cutEs G) ++ mhEs H)[s]? = some e := hs
    have l0 : (cutEnv (cutEs G)).length = 2 + G.length := el0
    by_cases hlt : s < 2 + G.length
    · rw [List.getElem?_append_left (by omega)] at hs
      rw [hρ0 s hlt]
      exact hE0.2.2 s e hs
    · rw [List.getElem?_append_right (by omega), l0] at hs
      obtain ⟨v, k1, k2⟩ := satS_get g1 hs
      rw [show s = 2 + G.length + (s - (2 + G.length)) by omega, hρ1 _ v k1]
      exact k2
  have hle : (cutWG G (cutEs G) (cutOv G 2) fs).1.length ≤ (chW ((pc0, G, ms, fs), H)).1.length := by
    rw [el0, elw]
    omega
  refine ⟨ρ, ⟨hG.1, hG.2.1.ext hsub hle, hG.2.2.1.ext hsub hle, aWor_env hG.2.2.2 hsub hE hle⟩, ?_, ?_, (fun q hq => by cases hq)⟩
  · intro j q hj
    have hlt : j < G.length := (List.getElem?_eq_some_iff.mp hj).1
    rw [hρ0 _ (by omega)]
    exact hL j q hj
  · intro p hp
    obtain ⟨j, q, hj, rfl⟩ := mhSt_mem hp
    have hj : H[j]? = some q := hj
    have hlt : j < H.length := (List.getElem?_eq_some_iff.mp hj).1
    have eH : (mhEs H).length = H.length := by rw [mhEs_eq, List.length_map]
    obtain ⟨v, k1, k2⟩ := g2 j q hj
    have hwf := mhLoc_ok (mhWf_ok hw q (List.mem_of_getElem? hj))
    have hval : ∀ z ∈ q.2.1, (mhA G z).1 < (chW ((pc0, G, ms, fs), H)).1.length ∧ aval ρ (mhA G z) = mhV σ.2.1 σ.2.2.2.2 z := by
      intro z hz
      rcases hwf z hz with ⟨z1, z2⟩ | z1 | z1
      · obtain ⟨j2, q2, y1, y2, y3⟩ := cutSym_ok z2
        have y1 : G[j2]? = some q2 := y1
        have hlt2 : j2 < G.length := (List.getElem?_eq_some_iff.mp y1).1
        have e1 : mhA G z = (cutSym G z.2 2, 0) := by
          unfold mhA
          rw [z1]
          rfl
        rw [e1, y3]
        refine ⟨by rw [elw]; show 2 + j2 < _; omega, ?_⟩
        rw [aval_s0 (by omega), hρ0 _ (by omega)]
        have h9 := hL j2 q2 y1
        unfold mhV
        rw [if_pos z1, ← y2, h9, show j2 + 2 = 2 + j2 by omega]
        rfl
      · have e1 : mhA G z = (1, Int.ofNat z.2) := by
          unfold mhA
          rw [z1]
          rfl
        rw [e1]
        refine ⟨by rw [elw]; show 1 < _; omega, ?_⟩
        unfold mhV
        rw [if_neg (by rw [z1]; decide), if_pos z1]
        rfl
      · have e1 : mhA G z = (0, Int.ofNat z.2) := by
          unfold mhA
          rw [z1]
          rfl
        rw [e1]
        refine ⟨by rw [elw]; show 0 < _; omega, ?_⟩
        unfold mhV
        rw [if_neg (by rw [z1]; decide), if_neg (by rw [z1]; decide), aval_c hE.2.1]
    refine ⟨?_, ?_, ?_⟩
    · intro a ha
      have ha : a ∈ mhAs G q.2.1 := ha
      rw [mhAs_eq] at ha
      obtain ⟨z, hz, rfl⟩ := List.mem_map.mp ha
      exact (hval z hz).1
    · show Nat.add 2 G.length + j < _
      rw [elw, eH]
      show 2 + G.length + j < _
      omega
    · have e1 : (mhAs G q.2.1).map (aval ρ) = q.2.1.map (mhV σ.2.1 σ.2.2.2.2) := by
        rw [mhAs_eq, List.map_map]
        exact List.map_congr_left (fun z hz => (hval z hz).2)
      have e2 : aval ρ (Nat.add 2 G.length + j, 0) = v := by
        rw [aval_s0 (by show 2 + G.length + j ≠ 1; omega)]
        exact hρ1 j v k1
      show cOk S dK q.1 ((mhAs G q.2.1).map (aval ρ)) _ (fun r hp => r.toList = [aval ρ (Nat.add 2 G.length + j, 0)] ∧ hp = _)
      rw [e1, e2]
      exact k2
/-- from a cut on, the answer being asked by κ -/
theorem ch_cut {τ : fT} {Kt : Nat → List fCn} {dK f d m n : Nat} {c : fCn} {cs : List fCh} {S : pScr} {κ : fKap} {M : pMem} {Post : List Value → pHp → Prop} (ht : fTau τ) (hK : ∀ m, ∀ c ∈ Kt m, cnOk τ S dK m c) (hm : Nat.ble (m + 1) nM = true) (h : chCuts τ Kt dK f d m c cs n κ cs = true) (hgr : gRm c.2.2.1 M) (hκ : ∀ (v : List aV) (w' : aW) (h' : fHy) (ρ' : Nat → Value) (hp : pHp), κ v w' h' = true → (∀ a ∈ v, a.1 < w'.1.length) → aWor (tOf τ) gSh w' ρ' hp.1 hp.2 → frm c.2.2.1 M hp.2 → Post (v.map (aval ρ')) hp) : ∀ u ∈ cs, ∀ σ : pSt, gSat τ u.1.1 u.1.2.1 [] u.1.2.2.2 [] 205 σ → mhOk S dK u.2 σ → frm c.2.2.1 M σ.2.2.2.2 → pOk S (pMe m).1 (pKind.getD m 9 == 2) (pMe m).2.2.2.1 (pCode m) d (fun i len τ' => ∃ v, pRet (pMe m).2.2.2.2 i len τ'.2.2.1 = some v ∧ Post v.toList (τ'.2.2.2.1, τ'.2.2.2.2)) σ := by
  have hm : m < nM := Nat.le_of_ble_eq_true hm
  obtain ⟨D1, D2, D3⟩ := fD_ok m hm
  have h4 := chCuts_ok h
  have good := fexec_good (X0 := (none, [])) (Md := c.2.2.1) fD_ok hK ht f
  have xo : ∀ (w : aW) (ρ : Nat → Value), xOk (none, []) S w ρ := fun w ρ => ⟨trivial, fun q hq => by cases hq⟩
  have cut : ∀ (ms : List Nat), Acc lexLt ms → ∀ u ∈ cs, ∀ σ : pSt, u.1.2.2.1.map (mVal σ.2.1 σ.2.2.2.2) = ms → gSat τ u.1.1 u.1.2.1 [] u.1.2.2.2 [] 205 σ → mhOk S dK u.2 σ → frm c.2.2.1 M σ.2.2.2.2 → pOk S (pMe m).1 (pKind.getD m 9 == 2) (pMe m).2.2.2.1 (pCode m) d (fun i len τ' => ∃ v, pRet (pMe m).2.2.2.2 i len τ'.2.2.1 = some v ∧ Post v.toList (τ'.2.2.2.1, τ'.2.2.2.2)) σ := by
    intro ms hacc
    induction hacc with
    | intro ms _ ih =>
      intro u hu σ hms hsat hmh hfr
      obtain ⟨hul, hwf, hrun⟩ := h4 u hu
      obtain ⟨ρ, hG, hL, hhy⟩ := chStart hwf hsat hmh
      refine good _ _ _ _ _ d _ _ _ _ _ _ _ _ _ (pMe_lt m hm).1 D3 (D3 u.1.1) hrun ρ σ Post (xo _ _) hG hhy (gRm.frm hfr hgr) ?_ ?_
      · intro pc' k hk A' B' w' h9 ρ' σ' hc hs hl hG' hf' hh9
        obtain ⟨u', hu', hpc, hfu⟩ := chStp_ok hk hc
        obtain ⟨ha, hb⟩ := bI_and (show bI (mhArr A' w' h9 u'.2) (fSub0 τ A' B' w' u'.1.2.1 u'.1.2.2.2 (fLess u.1.2.1 A' w' u.1.2.2.1 u'.1.2.2.1)) false = true from hfu)
        obtain ⟨hsat', hless⟩ := fSub0_ok ht hb hG'
        have hlex := fLess_ok (G0 := u.1.2.1) (A := A') (w := w') (L := σ.2.1) (L' := σ'.2.1) (M := σ.2.2.2.2) (M' := σ'.2.2.2.2) hG'.2.2.2.1 hG'.2.1 hG'.2.2.2.2.2.1 (fun s hs' => hs s (by show s < ((cutEs u.1.2.1 ++ mhEs u.2).length + 1) + 1; rw [List.length_append, cutEs_eq, List.length_map]; omega)) hL (by rw [hul, (h4 u' hu').1]) hless
        rw [hms] at hlex
        exact ih _ hlex u' hu' σ' rfl (by rw [hpc]; exact hsat') (mhArr_ok hG'.2.2.2.1 hG'.2.1 hh9 ha) (hfr.tr hf')
      · intro v w' h9 ρ' hp k1 _ _ k4 k5 k6 _
        exact hκ v w' h9 ρ' hp k1 k4 k5 (hfr.tr k6)
  intro u hu σ h1 h2 h3
  exact cut _ (lex_acc _ _ rfl) u hu σ rfl h1 h2 h3
theorem ch_ok {τ : fT} {Kt : Nat → List fCn} {dK f d m n : Nat} {c : fCn} {cs : List fCh} {S : pScr} (ht : fTau τ) (hK : ∀ m, ∀ c ∈ Kt m, cnOk τ S dK m c) (hm : Nat.ble (m + 1) nM = true) (h : chChk τ Kt dK f d m c cs n (retK τ c) = true) : cnOk τ S (d + 1) m c := by
  intro vs M hvs hM hgr hfc
  have hgr : gRm c.2.2.1 M := gRm.of hgr
  have hm : m < nM := Nat.le_of_ble_eq_true hm
  obtain ⟨D1, D2, D3⟩ := fD_ok m hm
  obtain ⟨h1, h2⟩ := bI_and h
  obtain ⟨h3, h4⟩ := bI_and h2
  have h1 := Nat.le_of_ble_eq_true h1
  have h4 := chCuts_ok h4
  have good := fexec_good (X0 := (none, [])) (Md := c.2.2.1) fD_ok hK ht f
  have ho : ∀ (w : aW) (ρ : Nat → Value) (sh : pSh) (M : pMem), hyOk S dK ([], []) w ρ sh M := fun w ρ sh M => ⟨(fun q hq => by cases hq), (fun q hq => by cases hq)⟩
  have xo : ∀ (w : aW) (ρ : Nat → Value), xOk (none, []) S w ρ := fun w ρ => ⟨trivial, fun q hq => by cases hq⟩
  let Post : List Value → pHp → Prop := fun v hp => hp.1 = gSh ∧ tyM (tOf τ) hp.2 ∧ satS c.2.1 v ∧ frm c.2.2.1 M hp.2 ∧ fctM c.2.2.2.2 hp.2
  have hκ : ∀ (v : List aV) (w' : aW) (h' : fHy) (ρ' : Nat → Value) (hp : pHp), retK τ c v w' h' = true → (∀ a ∈ v, a.1 < w'.1.length) → aWor (tOf τ) gSh w' ρ' hp.1 hp.2 → frm c.2.2.1 M hp.2 → Post (v.map (aval ρ')) hp := by
    intro v w' h9 ρ' hp k1 _ k2 k3
    obtain ⟨e1, e2, e3⟩ := fCln_e k1
    obtain ⟨q1, q2, q3⟩ := fCln_ok k1 k2
    obtain ⟨q4, q5⟩ := bI_and q3
    exact ⟨q1, q2, fFits_ok k2.1 q5, k3, fFct_ok ht k2 e1 e2 e3 q4⟩
  have cut : ∀ (ms : List Nat), Acc lexLt ms → ∀ u ∈ cs, ∀ σ : pSt, u.1.2.2.1.map (mVal σ.2.1 σ.2.2.2.2) = ms → gSat τ u.1.1 u.1.2.1 [] u.1.2.2.2 [] 205 σ → mhOk S dK u.2 σ → frm c.2.2.1 M σ.2.2.2.2 → pOk S (pMe m).1 (pKind.getD m 9 == 2) (pMe m).2.2.2.1 (pCode m) d (fun i len τ' => ∃ v, pRet (pMe m).2.2.2.2 i len τ'.2.2.1 = some v ∧ Post v.toList (τ'.2.2.2.1, τ'.2.2.2.2)) σ := by
    intro ms hacc
    induction hacc with
    | intro ms _ ih =>
      intro u hu σ hms hsat hmh hfr
      obtain ⟨hul, hwf, hrun⟩ := h4 u hu
      obtain ⟨ρ, hG, hL, hhy⟩ := chStart hwf hsat hmh
      refine good _ _ _ _ _ d _ _ _ _ _ _ _ _ _ (pMe_lt m hm).1 D3 (D3 u.1.1) hrun ρ σ Post (xo _ _) hG hhy (gRm.frm hfr hgr) ?_ ?_
      · intro pc' k hk A' B' w' h9 ρ' σ' hc hs hl hG' hf' hh9
        obtain ⟨u', hu', hpc, hfu⟩ := chStp_ok hk hc
        obtain ⟨ha, hb⟩ := bI_and (show bI (mhArr A' w' h9 u'.2) (fSub0 τ A' B' w' u'.1.2.1 u'.1.2.2.2 (fLess u.1.2.1 A' w' u.1.2.2.1 u'.1.2.2.1)) false = true from hfu)
        obtain ⟨hsat', hless⟩ := fSub0_ok ht hb hG'
        have hlex := fLess_ok (G0 := u.1.2.1) (A := A') (w := w') (L := σ.2.1) (L' := σ'.2.1) (M := σ.2.2.2.2) (M' := σ'.2.2.2.2) hG'.2.2.2.1 hG'.2.1 hG'.2.2.2.2.2.1 (fun s hs' => hs s (by show s < ((cutEs u.1.2.1 ++ mhEs u.2).length + 1) + 1; rw [List.length_append, cutEs_eq, List.length_map]; omega)) hL (by rw [hul, (h4 u' hu').1]) hless
        rw [hms] at hlex
        exact ih _ hlex u' hu' σ' rfl (by rw [hpc]; exact hsat') (mhArr_ok hG'.2.2.2.1 hG'.2.1 hh9 ha) (hfr.tr hf')
      · intro v w' h9 ρ' hp k1 _ _ k4 k5 k6 _
        exact hκ v w' h9 ρ' hp k1 k4 k5 (hfr.tr k6)
  have hlen : c.1.length = vs.length := satS_len hvs
  let ρ : Nat → Value := fun s => if s < 2 then .int 0 else (vs[s - 2]?).getD .null
  have hρ : ∀ j v, vs[j]? = some v → ρ (2 + j) = v := by
    intro j v hj
    show (if 2 + j < 2 then _ else _) = _
    rw [if_neg (by omega), show 2 + j - 2 = j by omega, hj]
    rfl
  have hE : aEnv (cutEnv c.1) ρ := cutEnv_ok rfl rfl (fun j e hj => by
    have hlt := (List.getElem?_eq_some_iff.mp hj).1
    have hv : vs[j]? = some vs[j] := List.getElem?_eq_getElem (by omega)
    rw [show j + 2 = 2 + j by omega, hρ j _ hv]
    exact forall2_get hvs hj hv)
  have hln : (cutW c.1 c.2.2.2.1).1.length = 2 + c.1.length := by
    show (c.1.length + 1) + 1 = _
    omega
  have hW : aWor (tOf τ) gSh (cutW c.1 c.2.2.2.1) ρ gSh M := by
    refine ⟨hE, fun o k e ho _ _ he => hM o k e ho he, ?_, gSh_full.symm, by show 205 ≤ gSh.length; rw [gSh_205]; exact Nat.le_refl _⟩
    intro q hq
    rcases fOvF_mem hq with hq | ⟨p, hp, rfl⟩
    · cases hq
    · refine ⟨by rw [hln]; show 0 < _; omega, ?_⟩
      rw [aval_c hE.2.1]
      exact hfc p hp
  have has : ∀ a ∈ cutArg c.1 2, a.1 < (cutW c.1 c.2.2.2.1).1.length := fun a ha => by
    have := cutArg_lt ha
    rw [hln]
    omega
  have hmap : (cutArg c.1 2).map (aval ρ) = vs := cutArg_map (Nat.le_refl _) hlen hρ
  show cOk S (d + 1) m vs (gSh, M) (fun v hp => Post v.toList hp)
  rw [← hmap]
  refine c_of_ok (by rw [fSize_ok (w := cutW c.1 c.2.2.2.1) hE has, ← D1]; exact h1) ?_
  refine good _ _ _ _ _ d _ _ _ _ _ _ _ _ _ (pMe_lt m hm).1 D3 (D3 0) h3 ρ _ Post (xo _ _) ⟨rfl, fArgs_ok (w := cutW c.1 c.2.2.2.1) hE has, ⟨fun a ha => (by cases ha), rfl⟩, hW⟩ (ho _ _ _ _) hgr ?_ ?_
  · intro pc' k hk A' B' w' h9 ρ' σ' hc hs hl hG' hf' hh9
    obtain ⟨u', hu', hpc, hfu⟩ := chStp_ok hk hc
    obtain ⟨ha, hb⟩ := bI_and (show bI (mhArr A' w' h9 u'.2) (fSub0 τ A' B' w' u'.1.2.1 u'.1.2.2.2 true) false = true from hfu)
    obtain ⟨hsat', -⟩ := fSub0_ok ht hb hG'
    exact cut _ (lex_acc _ _ rfl) u' hu' σ' rfl (by rw [hpc]; exact hsat') (mhArr_ok hG'.2.2.2.1 hG'.2.1 hh9 ha) hf'
  · intro v w' h9 ρ' hp k1 k2 k3 k4 k5 k6 _
    exact hκ v w' h9 ρ' hp k1 k4 k5 k6

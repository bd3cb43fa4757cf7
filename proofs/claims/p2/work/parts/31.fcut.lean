/-! contracts: by a run from the arguments, cut at loops -/
/-- a place of memory, named as if it were a local -/
noncomputable def psO (i : Nat) : Nat := Nat.div (Nat.sub i 1000000) 4096
noncomputable def psK (i : Nat) : Nat := Nat.mod (Nat.sub i 1000000) 4096
noncomputable def gv (L : pLs) (M : pMem) (i : Nat) : Option Value := @Bool.rec (fun _ => Option Value) (pLd L i) (some (M (psO i) (psK i))) (Nat.ble 1000000 i)
theorem gv_loc {L : pLs} {M : pMem} {i : Nat} (h : Nat.ble 1000000 i = false) : gv L M i = pLd L i := by
  unfold gv
  rw [h]
theorem gv_mem {L : pLs} {M : pMem} {i : Nat} (h : Nat.ble 1000000 i = true) : gv L M i = some (M (psO i) (psK i)) := by
  unfold gv
  rw [h]
theorem ov_at {w : aW} {ρ : Nat → Value} {M : pMem} {o k : Nat} {v : aV} (hO : aOvr w ρ M) (h : ((o, k), v) ∈ w.2.1) : v.1 < w.1.length ∧ M o k = aval ρ v := hO _ h
theorem ovq {M : pMem} {ρ : Nat → Value} {o k : Nat} {a : aV} (h : M o k = aval ρ a) : M (((o, k), a) : (Nat × Nat) × aV).1.1 (((o, k), a) : (Nat × Nat) × aV).1.2 = aval ρ (((o, k), a) : (Nat × Nat) × aV).2 := h
noncomputable def fSubE (e d : aE) : Bool := bI (Nat.beq e.1 d.1) (bI (Nat.beq e.1 1) (bI (fEq e.2.1 1) (bI (fEq d.2.1 1) (fSubL e.2.2.2 d.2.2.2) false) (fSubL e.2.2.2 d.2.2.2)) (bI (Nat.ble e.1 2) (bI (fLe d.2.1 e.2.1) (fLe e.2.2.1 d.2.2.1) false) false)) false
theorem fSubE_ok {e d : aE} {v : Value} (h : fSubE e d = true) (hv : satE e v) : satE d v := by
  obtain ⟨h1, h2⟩ := bI_and h
  have h1 := Nat.eq_of_beq_eq_true h1
  obtain ⟨k, l, u, x⟩ := e
  obtain ⟨k2, l2, u2, x2⟩ := d
  have h1 : k = k2 := h1
  subst h1
  rcases bI_if h2 with ⟨h3, h4⟩ | ⟨h3, h4⟩
  · have : k = 1 := Nat.eq_of_beq_eq_true h3
    subst this
    rcases hv with ⟨hv, hn⟩ | ⟨i, hi, hv⟩
    · rcases bI_if h4 with ⟨g1, g2⟩ | ⟨g1, g2⟩
      · obtain ⟨g3, -⟩ := bI_and g2
        exact Or.inl ⟨hv, fEq_t g3⟩
      · exact absurd hn (fEq_f g1)
    · have : i ∈ x2 := by
        rcases bI_if h4 with ⟨g1, g2⟩ | ⟨g1, g2⟩
        · exact fSubL_ok (bI_and g2).2 i hi
        · exact fSubL_ok g2 i hi
      exact Or.inr ⟨i, this, hv⟩
  · obtain ⟨g1, g2⟩ := bI_and h4
    obtain ⟨g3, g4⟩ := bI_and g2
    have g3 : l2 ≤ l := fLe_t g3
    have g4 : u ≤ u2 := fLe_t g4
    have g1 : k ≤ 2 := Nat.le_of_ble_eq_true g1
    have h3 := Nat.ne_of_beq_eq_false h3
    match k, g1, h3, hv with
    | 0, _, _, hv =>
      obtain ⟨z, hz, z1, z2⟩ := hv
      exact ⟨z, hz, by omega, by omega⟩
    | 1, _, h3, _ => exact absurd rfl h3
    | 2, _, _, hv =>
      obtain ⟨z, hz, z1, z2⟩ := hv
      exact ⟨z, hz, by omega, by omega⟩
/-- a cut: its place, kinds of its locals, its measure (0: a rank; 1: a local that grows up to a bound; 2: one that falls down to it), what is known there -/
abbrev fCu : Type := Nat × List (Nat × aE) × List (Nat × Nat × Int) × fFs
def cutEnv (es : List aE) : List aE := (0, 0, 0, []) :: (0, 0, 0, []) :: es
noncomputable def cutW (es : List aE) (fs : fFs) : aW := (cutEnv es, fOvF fs [], [], [], 205)
noncomputable def cutWG (G : List (Nat × aE)) (es : List aE) (ov : aO) (fs : fFs) : aW := (cutEnv es, fOvF fs ov, [], [], 205)
noncomputable def cutLoc (G : List (Nat × aE)) (n : Nat) : aL := @List.rec (Nat × aE) (fun _ => Nat → aL) (fun _ => []) (fun q _ ih n => @Bool.rec (fun _ => aL) ((q.1, (n, 0)) :: ih (Nat.succ n)) (ih (Nat.succ n)) (Nat.ble 1000000 q.1)) G n
noncomputable def cutOv (G : List (Nat × aE)) (n : Nat) : aO := @List.rec (Nat × aE) (fun _ => Nat → aO) (fun _ => []) (fun q _ ih n => @Bool.rec (fun _ => aO) (ih (Nat.succ n)) (((psO q.1, psK q.1), (n, 0)) :: ih (Nat.succ n)) (Nat.ble 1000000 q.1)) G n
noncomputable def cutArg (es : List aE) (n : Nat) : List aV := @List.rec aE (fun _ => Nat → List aV) (fun _ => []) (fun _ _ ih n => (n, 0) :: ih (Nat.succ n)) es n
noncomputable def cutEs (G : List (Nat × aE)) : List aE := @List.rec (Nat × aE) (fun _ => List aE) [] (fun q _ ih => q.2 :: ih) G
theorem cutEs_eq (G : List (Nat × aE)) : cutEs G = G.map (fun q => q.2) := by
  induction G with
  | nil => rfl
  | cons q G ih => exact congrArg (fun z => q.2 :: z) ih
noncomputable def valI (L : pLs) (M : pMem) (i : Nat) : Int := match gv L M i with
  | some (.int z) => z.toInt
  | _ => 0
noncomputable def mVal (L : pLs) (M : pMem) (q : Nat × Nat × Int) : Nat := if q.1 = 0 then q.2.2.toNat else if q.1 = 1 then (q.2.2 - valI L M q.2.1).toNat else (valI L M q.2.1 - q.2.2).toNat
def lexLt : List Nat → List Nat → Prop
  | b :: bs, a :: as => (b < a ∧ bs.length = as.length) ∨ (b = a ∧ lexLt bs as)
  | _, _ => False
theorem lexLt_len : ∀ {x y : List Nat}, lexLt x y → x.length = y.length
  | b :: bs, a :: as, h => by
    rcases h with ⟨-, h⟩ | ⟨-, h⟩
    · rw [List.length_cons, List.length_cons, h]
    · rw [List.length_cons, List.length_cons, lexLt_len h]
  | [], _, h => by cases h
  | _ :: _, [], h => by cases h
theorem lex_acc : ∀ (n : Nat) (l : List Nat), l.length = n → Acc lexLt l := by
  intro n
  induction n with
  | zero =>
    intro l hl
    have : l = [] := List.length_eq_zero_iff.mp hl
    subst this
    refine Acc.intro _ (fun y hy => ?_)
    cases y <;> cases hy
  | succ n ih =>
    have key : ∀ (a : Nat) (as : List Nat), as.length = n → Acc lexLt (a :: as) := by
      intro a
      induction a using Nat.strongRecOn with
      | _ a iha =>
        intro as has
        have hacc := ih as has
        induction hacc with
        | intro as h1 ih1 =>
          refine Acc.intro _ (fun y hy => ?_)
          match y, hy with
          | [], hy => cases hy
          | b :: bs, hy =>
            rcases hy with ⟨h2, h3⟩ | ⟨rfl, h3⟩
            · exact iha b h2 bs (h3.trans has)
            · exact ih1 bs h3 ((lexLt_len h3).trans has)
    intro l hl
    match l, hl with
    | [], hl => cases hl
    | a :: as, hl => exact key a as (Nat.succ.inj hl)
theorem satS_get : ∀ {es : List aE} {vs : List Value}, satS es vs → ∀ {j : Nat} {e : aE}, es[j]? = some e → ∃ v, vs[j]? = some v ∧ satE e v
  | e0 :: es, v0 :: vs, h, 0, e, g1 => by
    cases g1
    exact ⟨v0, rfl, h.1⟩
  | e0 :: es, v0 :: vs, h, j + 1, e, g1 => satS_get (es := es) (vs := vs) h.2 (j := j) g1
  | [], [], _, j, e, h => by cases h
  | [], _ :: _, h, _, _, _ => h.elim
  | _ :: _, [], h, _, _, _ => h.elim
theorem satS_app : ∀ {es fs : List aE} {vs us : List Value}, satS es vs → satS fs us → satS (es ++ fs) (vs ++ us)
  | [], _, [], _, _, h => h
  | _ :: es, _, _ :: vs, _, h, g => ⟨h.1, satS_app (es := es) (vs := vs) h.2 g⟩
  | [], _, _ :: _, _, h, _ => h.elim
  | _ :: _, _, [], _, h, _ => h.elim
/-- what is known of a state -/
def gSat (τ : fT) (pc : Nat) (G : List (Nat × aE)) (Bs : List aE) (fs : fFs) (br : List (Nat × Nat)) (n : Nat) (σ : pSt) : Prop :=
  σ.1 = pc ∧ (∀ q ∈ G, ∃ v, gv σ.2.1 σ.2.2.2.2 q.1 = some v ∧ satE q.2 v) ∧ satS Bs σ.2.2.1 ∧ σ.2.2.2.1 = gSh.take n ∧ n ≤ 205 ∧ (∀ (o k : Nat) (e : aE), o < n → (o, k) ∉ br → tyAt (tOf τ) o k = some e → satE e (σ.2.2.2.2 o k)) ∧ fctM fs σ.2.2.2.2
theorem cutEnv_ok {es : List aE} {ρ : Nat → Value} (h0 : ρ 0 = .int 0) (h1 : ρ 1 = .int 0) (h : ∀ j e, es[j]? = some e → satE e (ρ (j + 2))) : aEnv (cutEnv es) ρ := by
  refine ⟨by show 2 ≤ (es.length + 1) + 1; omega, h0, fun s e hs => ?_⟩
  match s, hs with
  | 0, hs =>
    cases hs
    rw [h0]
    exact ⟨0, rfl, by decide, by decide⟩
  | 1, hs =>
    cases hs
    rw [h1]
    exact ⟨0, rfl, by decide, by decide⟩
  | s + 2, hs => exact h s e hs
theorem cutLoc_mem {G : List (Nat × aE)} {n : Nat} {p : Nat × aV} (h : p ∈ cutLoc G n) : ∃ j q, G[j]? = some q ∧ p = (q.1, (n + j, 0)) ∧ Nat.ble 1000000 q.1 = false := by
  induction G generalizing n with
  | nil => cases h
  | cons q G ih =>
    have h : p ∈ @Bool.rec (fun _ => aL) ((q.1, (n, (0 : Int))) :: cutLoc G (Nat.succ n)) (cutLoc G (Nat.succ n)) (Nat.ble 1000000 q.1) := h
    have old : p ∈ cutLoc G (Nat.succ n) → ∃ j q', (q :: G)[j]? = some q' ∧ p = (q'.1, (n + j, 0)) ∧ Nat.ble 1000000 q'.1 = false := fun h => by
      obtain ⟨j, q', h1, h2, h3⟩ := ih h
      refine ⟨j + 1, q', h1, ?_, h3⟩
      rw [h2, show Nat.succ n + j = n + (j + 1) by omega]
    cases hb : Nat.ble 1000000 q.1 with
    | true =>
      rw [hb] at h
      exact old h
    | false =>
      rw [hb] at h
      rcases List.mem_cons.mp h with rfl | h
      · exact ⟨0, q, rfl, rfl, hb⟩
      · exact old h
theorem cutOv_mem {G : List (Nat × aE)} {n : Nat} {p : (Nat × Nat) × aV} (h : p ∈ cutOv G n) : ∃ j q, G[j]? = some q ∧ p = ((psO q.1, psK q.1), (n + j, 0)) ∧ Nat.ble 1000000 q.1 = true := by
  induction G generalizing n with
  | nil => cases h
  | cons q G ih =>
    have h : p ∈ @Bool.rec (fun _ => aO) (cutOv G (Nat.succ n)) (((psO q.1, psK q.1), (n, (0 : Int))) :: cutOv G (Nat.succ n)) (Nat.ble 1000000 q.1) := h
    have old : p ∈ cutOv G (Nat.succ n) → ∃ j q', (q :: G)[j]? = some q' ∧ p = ((psO q'.1, psK q'.1), (n + j, 0)) ∧ Nat.ble 1000000 q'.1 = true := fun h => by
      obtain ⟨j, q', h1, h2, h3⟩ := ih h
      refine ⟨j + 1, q', h1, ?_, h3⟩
      rw [h2, show Nat.succ n + j = n + (j + 1) by omega]
    cases hb : Nat.ble 1000000 q.1 with
    | false =>
      rw [hb] at h
      exact old h
    | true =>
      rw [hb] at h
      rcases List.mem_cons.mp h with rfl | h
      · exact ⟨0, q, rfl, rfl, hb⟩
      · exact old h
theorem forall2_get : ∀ {es : List aE} {vs : List Value}, satS es vs → ∀ {j : Nat} {e : aE} {v : Value}, es[j]? = some e → vs[j]? = some v → satE e v
  | [], [], _, j, e, v, h, _ => by cases h
  | e0 :: es, v0 :: vs, h, 0, e, v, g1, g2 => by
    cases g1
    cases g2
    exact h.1
  | e0 :: es, v0 :: vs, h, j + 1, e, v, g1, g2 => forall2_get (es := es) (vs := vs) h.2 (j := j) g1 g2
  | [], _ :: _, h, _, _, _, _, _ => h.elim
  | _ :: _, [], h, _, _, _, _, _ => h.elim
theorem cutArg_map {ρ : Nat → Value} {vs : List Value} : ∀ {es : List aE} {n : Nat}, 2 ≤ n → es.length = vs.length → (∀ j v, vs[j]? = some v → ρ (n + j) = v) → (cutArg es n).map (aval ρ) = vs := by
  induction vs with
  | nil =>
    intro es n _ hl _
    have : es = [] := List.length_eq_zero_iff.mp hl
    subst this
    rfl
  | cons v vs ih =>
    intro es n hn hl h
    cases es with
    | nil => cases hl
    | cons e es =>
      show aval ρ (n, 0) :: (cutArg es (Nat.succ n)).map (aval ρ) = _
      rw [aval_s0 (by omega), ih (by omega) (Nat.succ.inj hl) (fun j u hj => by rw [← h (j + 1) u hj]; congr 1; omega)]
      rw [show ρ n = v from h 0 v rfl]
theorem cutArg_lt {es : List aE} {n : Nat} {a : aV} (h : a ∈ cutArg es n) : a.1 < n + es.length := by
  induction es generalizing n with
  | nil => cases h
  | cons e es ih =>
    rcases List.mem_cons.mp (show a ∈ (n, (0 : Int)) :: cutArg es (Nat.succ n) from h) with rfl | h
    · show n < n + (es.length + 1)
      omega
    · have := ih h
      rw [List.length_cons]
      omega
theorem gLocs {G : List (Nat × aE)} {f : Nat → Option Value} (h : ∀ q ∈ G, ∃ v, f q.1 = some v ∧ satE q.2 v) : ∃ lv : List Value, satS (cutEs G) lv ∧ ∀ (j : Nat) (q : Nat × aE), G[j]? = some q → ∃ v, lv[j]? = some v ∧ f q.1 = some v := by
  induction G with
  | nil => exact ⟨[], trivial, fun j q hj => by cases hj⟩
  | cons p G ih =>
    obtain ⟨v, h1, h2⟩ := h p List.mem_cons_self
    obtain ⟨lv, h3, h4⟩ := ih (fun q hq => h q (List.mem_cons_of_mem _ hq))
    refine ⟨v :: lv, ⟨h2, h3⟩, fun j q hj => ?_⟩
    cases j with
    | zero =>
      cases hj
      exact ⟨v, rfl, h1⟩
    | succ j => exact h4 j q hj
theorem gStart {τ : fT} {pc : Nat} {G : List (Nat × aE)} {Bs : List aE} {fs : fFs} {br : List (Nat × Nat)} {n : Nat} {σ : pSt} {ps : List aE} {pv : List Value} (hp : satS ps pv) (h : gSat τ pc G Bs fs br n σ) :
    ∃ ρ : Nat → Value, aG (tOf τ) gSh ρ (pc, cutLoc G (2 + ps.length), cutArg Bs (2 + (ps.length + G.length)), (cutEnv (ps ++ (cutEs G ++ Bs)), fOvF fs (cutOv G (2 + ps.length)), br, [], n)) σ ∧ (∀ k v, pv[k]? = some v → ρ (2 + k) = v) ∧ ∀ (j : Nat) (q : Nat × aE), G[j]? = some q → gv σ.2.1 σ.2.2.2.2 q.1 = some (ρ (2 + (ps.length + j))) := by
  obtain ⟨pc0, L, st, sh, M⟩ := σ
  obtain ⟨h1, h2, h3, h4, h5, h6, h7⟩ := h
  obtain ⟨lv, g1, g2⟩ := gLocs h2
  have hall : satS (ps ++ (cutEs G ++ Bs)) (pv ++ (lv ++ st)) := satS_app hp (satS_app g1 h3)
  have e1 : ps.length = pv.length := satS_len hp
  have e2 : (cutEs G).length = lv.length := satS_len g1
  have e3 : (cutEs G).length = G.length := by rw [cutEs_eq, List.length_map]
  have e4 : Bs.length = st.length := satS_len h3
  let ρ : Nat → Value := fun s => if s < 2 then .int 0 else ((pv ++ (lv ++ st))[s - 2]?).getD .null
  have hρ : ∀ j v, (pv ++ (lv ++ st))[j]? = some v → ρ (2 + j) = v := by
    intro j v hj
    show (if 2 + j < 2 then _ else _) = _
    rw [if_neg (by omega), show 2 + j - 2 = j by omega, hj]
    rfl
  have hE : aEnv (cutEnv (ps ++ (cutEs G ++ Bs))) ρ := cutEnv_ok rfl rfl (fun j e hj => by
    obtain ⟨v, k1, k2⟩ := satS_get hall hj
    rw [show j + 2 = 2 + j by omega, hρ j v k1]
    exact k2)
  have hlen : (cutEnv (ps ++ (cutEs G ++ Bs))).length = 2 + (ps.length + (G.length + Bs.length)) := by
    show ((ps ++ (cutEs G ++ Bs)).length + 1) + 1 = _
    rw [List.length_append, List.length_append, e3]
    omega
  have hloc : ∀ j q, G[j]? = some q → gv L M q.1 = some (ρ (2 + (ps.length + j))) := by
    intro j q hj
    obtain ⟨v, k1, k2⟩ := g2 j q hj
    have hlt : j < lv.length := (List.getElem?_eq_some_iff.mp k1).1
    rw [k2, hρ (ps.length + j) v]
    rw [List.getElem?_append_right (by omega), show ps.length + j - pv.length = j by omega, List.getElem?_append_left hlt]
    exact k1
  refine ⟨ρ, ⟨h1, ?_, ⟨?_, ?_⟩, hE, ?_, ?_, h4, ?_⟩, ?_, hloc⟩
  · intro p hp
    obtain ⟨j, q, hj, rfl, hb⟩ := cutLoc_mem hp
    have hlt := (List.getElem?_eq_some_iff.mp hj).1
    refine ⟨?_, ?_⟩
    · show 2 + ps.length + j < _
      rw [hlen]
      omega
    · show pLd L q.1 = some (aval ρ (2 + ps.length + j, 0))
      rw [aval_s0 (by omega), show 2 + ps.length + j = 2 + (ps.length + j) by omega, ← gv_loc (M := M) hb]
      exact hloc j q hj
  · intro a ha
    have := cutArg_lt ha
    show a.1 < (cutEnv (ps ++ (cutEs G ++ Bs))).length
    rw [hlen]
    omega
  · refine (cutArg_map (by omega) e4 (fun j v hj => ?_)).symm
    have hlt : j < st.length := (List.getElem?_eq_some_iff.mp hj).1
    rw [show 2 + (ps.length + G.length) + j = 2 + (ps.length + (G.length + j)) by omega, hρ (ps.length + (G.length + j)) v]
    rw [List.getElem?_append_right (by omega), List.getElem?_append_right (by omega), show ps.length + (G.length + j) - pv.length - lv.length = j by omega]
    exact hj
  · intro o k e ho _ hb he
    exact h6 o k e ho hb he
  · intro q hq
    rcases fOvF_mem hq with hq | ⟨p, hp, rfl⟩
    · obtain ⟨j, q', hj, rfl, hb⟩ := cutOv_mem hq
      have hlt := (List.getElem?_eq_some_iff.mp hj).1
      refine ⟨by show 2 + ps.length + j < (cutEnv (ps ++ (cutEs G ++ Bs))).length; rw [hlen]; omega, ?_⟩
      have h9 := hloc j q' hj
      rw [gv_mem hb] at h9
      refine ovq ?_
      rw [aval_s0 (by omega), show 2 + ps.length + j = 2 + (ps.length + j) by omega]
      exact Option.some.inj h9
    · refine ⟨by show 0 < (cutEnv (ps ++ (cutEs G ++ Bs))).length; rw [hlen]; omega, ?_⟩
      rw [aval_c rfl]
      exact h7 p hp
  · show n ≤ gSh.length
    rw [gSh_205]
    exact h5
  · intro k v hk
    refine hρ k v ?_
    rw [List.getElem?_append_left (List.getElem?_eq_some_iff.mp hk).1]
    exact hk
/-- nothing is out of kind -/
noncomputable def fCln (w : aW) (t : Bool) : Bool := bI (fEmp w.2.2.1) (bI (fEmp w.2.2.2.1) (bI (Nat.beq w.2.2.2.2 205) t false) false) false
theorem fCln_ok {τ : fT} {w : aW} {t : Bool} {ρ : Nat → Value} {sh : pSh} {M : pMem} (h : fCln w t = true) (hW : aWor (tOf τ) gSh w ρ sh M) : sh = gSh ∧ tyM (tOf τ) M ∧ t = true := by
  obtain ⟨g3, g4⟩ := bI_and h
  obtain ⟨g5, g6⟩ := bI_and g4
  obtain ⟨g7, g8⟩ := bI_and g6
  have g3 := fEmp_ok g3
  have g5 := fEmp_ok g5
  have g7 := Nat.eq_of_beq_eq_true g7
  refine ⟨by rw [hW.2.2.2.1, g7, gSh_full], fun o k e ho he => hW.2.1 o k e (by rw [g7]; exact ho) (by rw [g5]; exact List.not_mem_nil) (by rw [g3]; exact List.not_mem_nil) he, g8⟩
noncomputable def fGa1 (τ : fT) (A : aL) (w : aW) (q : Nat × aE) : Bool := bI (Nat.ble 1000000 q.1) (fFindO w.2.1 (psO q.1) (psK q.1) (fun a => fFit w.1 a q.2) (fTy (τ (psO q.1)) (psK q.1) (fun e => fSubE e q.2))) (fLd A q.1 (fun a => fFit w.1 a q.2))
noncomputable def fGam (τ : fT) (A : aL) (w : aW) (G : List (Nat × aE)) : Bool := @List.rec (Nat × aE) (fun _ => Bool) true (fun q _ ih => bI (fGa1 τ A w q) ih false) G
theorem fGam_ok {τ : fT} {A : aL} {w : aW} {G : List (Nat × aE)} {ρ : Nat → Value} {L : pLs} {sh : pSh} {M : pMem} (ht : fTau τ) (hW : aWor (tOf τ) gSh w ρ sh M) (h1 : w.2.2.1 = []) (h2 : w.2.2.2.1 = []) (h3 : w.2.2.2.2 = 205) (hA : aLoc w ρ A L) (h : fGam τ A w G = true) : ∀ q ∈ G, ∃ v, gv L M q.1 = some v ∧ satE q.2 v := by
  induction G with
  | nil => intro q hq; cases hq
  | cons p G ih =>
    obtain ⟨g1, g2⟩ := bI_and (show bI (fGa1 τ A w p) (fGam τ A w G) false = true from h)
    intro q hq
    rcases List.mem_cons.mp hq with rfl | hq
    · rcases bI_if g1 with ⟨hb, k1⟩ | ⟨hb, k1⟩
      · refine ⟨_, gv_mem hb, ?_⟩
        rcases fFindO_ok k1 with ⟨v, k2, k3⟩ | k2
        · rw [(ov_at hW.2.2.1 k2).2]
          exact fFit_ok hW.1 k3
        · obtain ⟨e, k3, k4⟩ := fTy_at ht k2
          have ho : psO q.1 < 205 := by
            rcases Nat.lt_or_ge (psO q.1) 205 with ho | ho
            · exact ho
            · rw [ht _ ho] at k2
              cases k2
          exact fSubE_ok k4 (hW.2.1 _ _ e (by rw [h3]; exact ho) (by rw [h2]; exact List.not_mem_nil) (by rw [h1]; exact List.not_mem_nil) k3)
      · obtain ⟨a, k2, k3⟩ := fLd_ok k1
        exact ⟨_, by rw [gv_loc hb]; exact (hA _ k2).2, fFit_ok hW.1 k3⟩
    · exact ih g2 q hq
/-- a local, or a tracked place -/
noncomputable def fGt (A : aL) (w : aW) (i : Nat) (k : aV → Bool) : Bool := bI (Nat.ble 1000000 i) (fFindO w.2.1 (psO i) (psK i) k false) (fLd A i k)
theorem fGt_ok {A : aL} {w : aW} {i : Nat} {k : aV → Bool} {ρ : Nat → Value} {L : pLs} {M : pMem} (hA : aLoc w ρ A L) (hO : aOvr w ρ M) (h : fGt A w i k = true) : ∃ a, gv L M i = some (aval ρ a) ∧ k a = true := by
  rcases bI_if h with ⟨hb, h⟩ | ⟨hb, h⟩
  · rcases fFindO_ok h with ⟨v, k2, k3⟩ | k2
    · exact ⟨v, by rw [gv_mem hb, (ov_at hO k2).2], k3⟩
    · cases k2
  · obtain ⟨a, k2, k3⟩ := fLd_ok h
    exact ⟨a, by rw [gv_loc hb]; exact (hA _ k2).2, k3⟩
/-- a cut is come to -/
noncomputable def fSub0 (τ : fT) (A : aL) (B : List aV) (w : aW) (G : List (Nat × aE)) (fs : fFs) (t : Bool) : Bool := bI (fEmp B) (fCln w (bI (fGam τ A w G) (bI (fFct τ w fs) t false) false)) false
theorem fCln_e {w : aW} {t : Bool} (h : fCln w t = true) : w.2.2.1 = [] ∧ w.2.2.2.1 = [] ∧ w.2.2.2.2 = 205 := by
  obtain ⟨g3, g4⟩ := bI_and h
  obtain ⟨g5, g6⟩ := bI_and g4
  obtain ⟨g7, g8⟩ := bI_and g6
  exact ⟨fEmp_ok g3, fEmp_ok g5, Nat.eq_of_beq_eq_true g7⟩
theorem fSub0_ok {τ : fT} {A : aL} {B : List aV} {w : aW} {pc : Nat} {G : List (Nat × aE)} {fs : fFs} {t : Bool} {ρ : Nat → Value} {σ : pSt} (ht : fTau τ) (h : fSub0 τ A B w G fs t = true) (hG : aG (tOf τ) gSh ρ (pc, A, B, w) σ) : gSat τ pc G [] fs [] 205 σ ∧ t = true := by
  obtain ⟨h1, h2⟩ := bI_and h
  obtain ⟨e1, e2, e3⟩ := fCln_e h2
  obtain ⟨g1, g2, g3⟩ := fCln_ok h2 hG.2.2.2
  obtain ⟨g4, g5⟩ := bI_and g3
  obtain ⟨g6, g7⟩ := bI_and g5
  refine ⟨⟨hG.1, fGam_ok ht hG.2.2.2 e1 e2 e3 hG.2.1 g4, ?_, by rw [gSh_full]; exact g1, Nat.le_refl _, fun o k e ho _ he => g2 o k e ho he, fFct_ok ht hG.2.2.2 e1 e2 e3 g6⟩, g7⟩
  have : σ.2.2.1 = B.map (aval ρ) := hG.2.2.1.2
  rw [this, fEmp_ok h1]
  exact trivial
/-- the symbol of a cut's local -/
noncomputable def cutSym (G : List (Nat × aE)) (i n : Nat) : Nat := @List.rec (Nat × aE) (fun _ => Nat → Nat) (fun _ => 1) (fun q _ ih n => @Bool.rec (fun _ => Nat) (ih (Nat.succ n)) n (Nat.beq q.1 i)) G n
theorem cutSym_ok {G : List (Nat × aE)} {i n : Nat} (h : cutSym G i n ≠ 1) : ∃ j q, G[j]? = some q ∧ q.1 = i ∧ cutSym G i n = n + j := by
  induction G generalizing n with
  | nil => exact absurd rfl h
  | cons q G ih =>
    have e : cutSym (q :: G) i n = @Bool.rec (fun _ => Nat) (cutSym G i (Nat.succ n)) n (Nat.beq q.1 i) := rfl
    cases hb : Nat.beq q.1 i with
    | true =>
      rw [hb] at e
      exact ⟨0, q, rfl, Nat.eq_of_beq_eq_true hb, e⟩
    | false =>
      rw [hb] at e
      have e : cutSym (q :: G) i n = cutSym G i (Nat.succ n) := e
      rw [e] at h
      obtain ⟨j, p, h1, h2, h3⟩ := ih h
      exact ⟨j + 1, p, h1, h2, by rw [e, h3]; omega⟩
noncomputable def fLs2 (G0 : List (Nat × aE)) (w : aW) (q : Nat × Nat × Int) (cont : Bool) (a : aV) : Bool := bI (Nat.beq a.1 1) false (bI (Nat.beq a.1 (cutSym G0 q.2.1 2)) (bI (fEq a.2 0) cont (bI (Nat.beq a.1 0) false (fIv w.1 a (fun lo hi => bI (Nat.beq q.1 1) (bI (fLe 1 a.2) (fLe hi q.2.2) false) (bI (fLe a.2 (-1)) (fLe q.2.2 lo) false))))) false)
noncomputable def fLs1 (G0 : List (Nat × aE)) (A : aL) (w : aW) (q p : Nat × Nat × Int) (cont : Bool) : Bool := bI (Nat.beq q.1 0) (bI (Nat.beq p.1 0) (bI (fEq p.2.2 q.2.2) cont (bI (fLe 0 p.2.2) (fLe (iAdd p.2.2 1) q.2.2) false)) false) (bI (Nat.beq q.1 p.1) (bI (fEq p.2.2 q.2.2) (fGt A w p.2.1 (fLs2 G0 w q cont)) false) false)
/-- the measure falls: the old cut's, the new cut's -/
noncomputable def fLess (G0 : List (Nat × aE)) (A : aL) (w : aW) (m0 m1 : List (Nat × Nat × Int)) : Bool := @List.rec (Nat × Nat × Int) (fun _ => List (Nat × Nat × Int) → Bool) (fun _ => false) (fun q _ ih m1 => @List.rec (Nat × Nat × Int) (fun _ => Bool) false (fun p r _ => fLs1 G0 A w q p (ih r)) m1) m0 m1
theorem fIv_rel {env : List aE} {ρ : Nat → Value} {a : aV} {k : Int → Int → Bool} (hE : aEnv env ρ) (h : fIv env a k = true) (h0 : a.1 ≠ 0) : ∃ (z0 : Int32) (lo hi : Int), ρ a.1 = .int z0 ∧ lo ≤ z0.toInt + a.2 ∧ z0.toInt + a.2 ≤ hi ∧ k lo hi = true ∧ aval ρ a = .int (z0 + Int32.ofInt a.2) ∧ (z0 + Int32.ofInt a.2).toInt = z0.toInt + a.2 := by
  rcases bI_if h with ⟨h1, h2⟩ | ⟨h1, h2⟩
  · exact absurd (Nat.eq_of_beq_eq_true h1) h0
  · obtain ⟨h3, h4⟩ := bI_not h2
    obtain ⟨e, h5, h6⟩ := fNth_ok h4
    obtain ⟨h7, h8⟩ := bI_and h6
    obtain ⟨g1, g2⟩ := bI_and h8
    obtain ⟨g3, g4⟩ := bI_and g2
    obtain ⟨z0, hz, q1, q2⟩ := satE0 h7 (hE.2.2 _ _ h5)
    rw [iAdd_eq] at g1 g3 g4
    rw [iAdd_eq] at g4
    have r1 := fR_t g1
    have r2 := fR_t g3
    have hq := i32_add (z := z0) (n := a.2) (by omega) (by omega)
    refine ⟨z0, _, _, hz, by omega, by omega, g4, ?_, hq⟩
    unfold aval
    rw [if_neg (Nat.ne_of_beq_eq_false h3), hz]
theorem fLs1_ok {G0 : List (Nat × aE)} {A : aL} {w : aW} {q p : Nat × Nat × Int} {cont : Bool} {ρ ρ' : Nat → Value} {L L' : pLs} {M M' : pMem} (hE : aEnv w.1 ρ') (hA : aLoc w ρ' A L') (hO : aOvr w ρ' M') (hs : aSub ((G0.length + 1) + 1) ρ ρ') (hL : ∀ j q, G0[j]? = some q → gv L M q.1 = some (ρ (j + 2))) (h : fLs1 G0 A w q p cont = true) : mVal L' M' p < mVal L M q ∨ (mVal L' M' p = mVal L M q ∧ cont = true) := by
  unfold mVal
  rcases bI_if h with ⟨h1, h2⟩ | ⟨h1, h2⟩
  · obtain ⟨h3, h4⟩ := bI_and h2
    have h1 := Nat.eq_of_beq_eq_true h1
    have h3 := Nat.eq_of_beq_eq_true h3
    rw [if_pos h1, if_pos h3]
    rcases bI_if h4 with ⟨g1, g2⟩ | ⟨g1, g2⟩
    · exact Or.inr ⟨by rw [fEq_t g1], g2⟩
    · obtain ⟨g3, g4⟩ := bI_and g2
      have g3 := fLe_t g3
      have g4 := fLe_t g4
      rw [iAdd_eq] at g4
      exact Or.inl (by omega)
  · have h1 := Nat.ne_of_beq_eq_false h1
    obtain ⟨h3, h4⟩ := bI_and h2
    have h3 := Nat.eq_of_beq_eq_true h3
    obtain ⟨h5, h6⟩ := bI_and h4
    have h5 := fEq_t h5
    obtain ⟨a, g3, g2⟩ := fGt_ok hA hO h6
    obtain ⟨k1, k2⟩ := bI_not g2
    have k1 := Nat.ne_of_beq_eq_false k1
    obtain ⟨k3, k4⟩ := bI_and k2
    have k3 := Nat.eq_of_beq_eq_true k3
    obtain ⟨j, q', c1, c2, c3⟩ := cutSym_ok (G := G0) (i := q.2.1) (n := 2) (by rw [← k3]; exact k1)
    have c4 := hL j q' c1
    rw [c2] at c4
    have hj := (List.getElem?_eq_some_iff.mp c1).1
    have ea : a.1 = j + 2 := by rw [k3, c3]; omega
    have eρ : ρ' a.1 = ρ (j + 2) := by rw [ea]; exact hs _ (by omega)
    rw [if_neg h1, if_neg (by rw [← h3]; exact h1), ← h3, h5]
    rcases bI_if k4 with ⟨b1, b2⟩ | ⟨b1, b2⟩
    · have b1 := fEq_t b1
      have e2 : aval ρ' a = ρ (j + 2) := by
        rw [show a = (a.1, 0) from Prod.ext rfl b1, aval_s0 k1, eρ]
      have e3 : valI L' M' p.2.1 = valI L M q.2.1 := by
        unfold valI
        rw [g3, c4, e2]
      rw [e3]
      exact Or.inr ⟨rfl, b2⟩
    · obtain ⟨-, b3⟩ := bI_not b2
      obtain ⟨z0, lo, hi, hz, z1, z2, b4, b5, b6⟩ := fIv_rel hE b3 (by omega)
      have e2 : valI L M q.2.1 = z0.toInt := by
        unfold valI
        rw [c4, ← eρ, hz]
      have e3 : valI L' M' p.2.1 = z0.toInt + a.2 := by
        unfold valI
        rw [g3, b5]
        exact b6
      rw [e2, e3]
      rcases bI_if b4 with ⟨d1, d2⟩ | ⟨d1, d2⟩
      · have d1 := Nat.eq_of_beq_eq_true d1
        rw [if_pos d1, if_pos d1]
        obtain ⟨d3, d4⟩ := bI_and d2
        have d3 := fLe_t d3
        have d4 := fLe_t d4
        exact Or.inl (by omega)
      · have d1 := Nat.ne_of_beq_eq_false d1
        rw [if_neg d1, if_neg d1]
        obtain ⟨d3, d4⟩ := bI_and d2
        have d3 := fLe_t d3
        have d4 := fLe_t d4
        exact Or.inl (by omega)
theorem fLess_ok {G0 : List (Nat × aE)} {A : aL} {w : aW} {ρ ρ' : Nat → Value} {L L' : pLs} {M M' : pMem} (hE : aEnv w.1 ρ') (hA : aLoc w ρ' A L') (hO : aOvr w ρ' M') (hs : aSub ((G0.length + 1) + 1) ρ ρ') (hL : ∀ j q, G0[j]? = some q → gv L M q.1 = some (ρ (j + 2))) : ∀ {m0 m1 : List (Nat × Nat × Int)}, m0.length = m1.length → fLess G0 A w m0 m1 = true → lexLt (m1.map (mVal L' M')) (m0.map (mVal L M)) := by
  intro m0
  induction m0 with
  | nil => intro m1 _ h; cases h
  | cons q m0 ih =>
    intro m1 hl h
    cases m1 with
    | nil => cases h
    | cons p m1 =>
      have hl : m0.length = m1.length := Nat.succ.inj hl
      rcases fLs1_ok hE hA hO hs hL (show fLs1 G0 A w q p (fLess G0 A w m0 m1) = true from h) with h1 | ⟨h1, h2⟩
      · exact Or.inl ⟨h1, by rw [List.length_map, List.length_map, hl]⟩
      · exact Or.inr ⟨h1, ih hl h2⟩
/-- a local's values are parted: up to a number, and beyond it -/
noncomputable def fSpt (sp : List (Nat × Nat × Int)) (pc : Nat) (base : aL → List aV → aW → Bool) : aL → List aV → aW → Bool := @List.rec (Nat × Nat × Int) (fun _ => aL → List aV → aW → Bool) base (fun s _ ih A B w => bI (Nat.beq s.1 pc) (fLd A s.2.1 (fun a => bI (fIsI w.1 a) (bI (fMeet w.1 a aLo32 s.2.2 (fun e => ih A B (e, w.2))) (fMeet w.1 a (iAdd s.2.2 1) aHi32 (fun e => ih A B (e, w.2))) false) false)) (ih A B w)) sp
theorem fSpt_ok {τ : fT} {sp : List (Nat × Nat × Int)} {pc pc' : Nat} {base : aL → List aV → aW → Bool} {A : aL} {B : List aV} {w : aW} {ρ : Nat → Value} {σ : pSt} (h : fSpt sp pc base A B w = true) (hG : aG (tOf τ) gSh ρ (pc', A, B, w) σ) : ∃ w', base A B w' = true ∧ w'.1.length = w.1.length ∧ aG (tOf τ) gSh ρ (pc', A, B, w') σ := by
  induction sp generalizing w with
  | nil => exact ⟨w, h, rfl, hG⟩
  | cons s sp ih =>
    rcases bI_if (show bI (Nat.beq s.1 pc) (fLd A s.2.1 (fun a => bI (fIsI w.1 a) (bI (fMeet w.1 a aLo32 s.2.2 (fun e => fSpt sp pc base A B (e, w.2))) (fMeet w.1 a (iAdd s.2.2 1) aHi32 (fun e => fSpt sp pc base A B (e, w.2))) false) false)) (fSpt sp pc base A B w) = true from h) with ⟨-, h⟩ | ⟨-, h⟩
    · obtain ⟨a, h1, h2⟩ := fLd_ok h
      obtain ⟨h3, h4⟩ := bI_and h2
      obtain ⟨h5, h6⟩ := bI_and h4
      rw [iAdd_eq] at h6
      obtain ⟨-, z, hz⟩ := fIsI_ok hG.2.2.2.1 h3
      have hr := i32_rng z
      have fin : ∀ e, aEnv e ρ → e.length = w.1.length → fSpt sp pc base A B (e, w.2) = true → ∃ w', base A B w' = true ∧ w'.1.length = w.1.length ∧ aG (tOf τ) gSh ρ (pc', A, B, w') σ := by
        intro e he hl hk
        have hle : w.1.length ≤ e.length := by rw [hl]; exact Nat.le_refl _
        obtain ⟨w', q1, q2, q3⟩ := ih (w := (e, w.2)) hk ⟨hG.1, hG.2.1.ext (aSub.rf _ _) hle, hG.2.2.1.ext (aSub.rf _ _) hle, aWor_env hG.2.2.2 (aSub.rf _ _) he hle⟩
        exact ⟨w', q1, q2.trans hl, q3⟩
      by_cases hc : z.toInt ≤ s.2.2
      · obtain ⟨e, k1, k2, k3⟩ := fMeet_ok hG.2.2.2.1 h5 hz hr.1 hc
        exact fin e k2 k3 k1
      · obtain ⟨e, k1, k2, k3⟩ := fMeet_ok hG.2.2.2.1 h6 hz (by omega) hr.2
        exact fin e k2 k3 k1
    · exact ih h hG
noncomputable def fHasC (cs : List fCu) (pc : Nat) : Bool := @List.rec fCu (fun _ => Bool) false (fun c _ ih => bI (Nat.beq c.1 pc) true ih) cs
noncomputable def fAnyC (f : fCu → aL → List aV → aW → Bool) (cs : List fCu) (pc : Nat) (A : aL) (B : List aV) (w : aW) : Bool := @List.rec fCu (fun _ => Bool) false (fun c _ ih => bI (Nat.beq c.1 pc) (bI (f c A B w) true ih) ih) cs
theorem fAnyC_ok {f : fCu → aL → List aV → aW → Bool} {cs : List fCu} {pc : Nat} {A : aL} {B : List aV} {w : aW} (h : fAnyC f cs pc A B w = true) : ∃ u ∈ cs, u.1 = pc ∧ f u A B w = true := by
  induction cs with
  | nil => cases h
  | cons c cs ih =>
    rcases bI_if (show bI (Nat.beq c.1 pc) (bI (f c A B w) true (fAnyC f cs pc A B w)) (fAnyC f cs pc A B w) = true from h) with ⟨h1, h2⟩ | ⟨-, h2⟩
    · rcases bI_if h2 with ⟨h3, -⟩ | ⟨-, h3⟩
      · exact ⟨c, List.mem_cons_self, Nat.eq_of_beq_eq_true h1, h3⟩
      · obtain ⟨u, g1, g2⟩ := ih h3
        exact ⟨u, List.mem_cons_of_mem _ g1, g2⟩
    · obtain ⟨u, g1, g2⟩ := ih h2
      exact ⟨u, List.mem_cons_of_mem _ g1, g2⟩
/-- where a run stops: at cuts -/
noncomputable def stpF (f : fCu → aL → List aV → aW → Bool) (cs : List fCu) (sp : List (Nat × Nat × Int)) : fStp := fun pc => @Bool.rec (fun _ => Option (aL → List aV → aW → fHy → Bool)) none (some (fun A B w _ => fSpt sp pc (fAnyC f cs pc) A B w)) (fHasC cs pc)
theorem stpF_ok {τ : fT} {f : fCu → aL → List aV → aW → Bool} {cs : List fCu} {sp : List (Nat × Nat × Int)} {pc : Nat} {k : aL → List aV → aW → fHy → Bool} {A : aL} {B : List aV} {w : aW} {hy : fHy} {ρ : Nat → Value} {σ : pSt} (h : stpF f cs sp pc = some k) (hk : k A B w hy = true) (hG : aG (tOf τ) gSh ρ (pc, A, B, w) σ) : ∃ u ∈ cs, u.1 = pc ∧ ∃ w', f u A B w' = true ∧ w'.1.length = w.1.length ∧ aG (tOf τ) gSh ρ (pc, A, B, w') σ := by
  have h : (@Bool.rec (fun _ => Option (aL → List aV → aW → fHy → Bool)) none (some (fun A B w _ => fSpt sp pc (fAnyC f cs pc) A B w)) (fHasC cs pc)) = some k := h
  cases hb : fHasC cs pc with
  | false =>
    rw [hb] at h
    cases h
  | true =>
    rw [hb] at h
    have h : some (fun (A : aL) (B : List aV) (w : aW) (_ : fHy) => fSpt sp pc (fAnyC f cs pc) A B w) = some k := h
    cases h
    obtain ⟨w', h1, h2, h3⟩ := fSpt_ok hk hG
    obtain ⟨u, g1, g2, g3⟩ := fAnyC_ok h1
    exact ⟨u, g1, g2, w', g3, h2, h3⟩
noncomputable def fE0 (τ : fT) (u : fCu) (A : aL) (B : List aV) (w : aW) : Bool := fSub0 τ A B w u.2.1 u.2.2.2 true
noncomputable def fE1 (τ : fT) (c0 u : fCu) (A : aL) (B : List aV) (w : aW) : Bool := fSub0 τ A B w u.2.1 u.2.2.2 (fLess c0.2.1 A w c0.2.2.1 u.2.2.1)
/-- the answer is of its kind, and memory keeps its types -/
noncomputable def retK (τ : fT) (c : fCn) : fKap := fun v w _ => fCln w (bI (fFct τ w c.2.2.2.2) (fFits w.1 v c.2.1) false)
noncomputable def fLenM (l : List (Nat × Nat × Int)) : Nat := @List.rec (Nat × Nat × Int) (fun _ => Nat) 0 (fun _ _ ih => Nat.succ ih) l
theorem fLenM_eq (l : List (Nat × Nat × Int)) : fLenM l = l.length := by
  induction l with
  | nil => rfl
  | cons q l ih => exact congrArg Nat.succ ih
noncomputable def conCuts (τ : fT) (Kt : Nat → List fCn) (dK f d m : Nat) (c : fCn) (cs : List fCu) (sp : List (Nat × Nat × Int)) (n : Nat) (κ : fKap) (l : List fCu) : Bool := @List.rec fCu (fun _ => Bool) true (fun u _ ih => bI (Nat.beq (fLenM u.2.2.1) n) (bI (fexec τ (none, []) c.2.2.1 fDs fCs Kt dK f d (fDs m).2 (stpF (fE1 τ u) cs sp) ((fDs m).2 u.1) u.1 (cutLoc u.2.1 2) [] (cutWG u.2.1 (cutEs u.2.1) (cutOv u.2.1 2) u.2.2.2) ([], []) κ) ih false) false) l
/-- a method keeps a contract -/
noncomputable def conChk (τ : fT) (Kt : Nat → List fCn) (dK f d m : Nat) (c : fCn) (cs : List fCu) (sp : List (Nat × Nat × Int)) (n : Nat) (κ : fKap) : Bool := bI (Nat.ble (fSize (cutEnv c.1) (cutArg c.1 2)) (fDs m).1) (bI (fexec τ (none, []) c.2.2.1 fDs fCs Kt dK f d (fDs m).2 (stpF (fE0 τ) cs sp) ((fDs m).2 0) 0 (fArgs (cutEnv c.1) (cutArg c.1 2) 0) [] (cutW c.1 c.2.2.2.1) ([], []) κ) (conCuts τ Kt dK f d m c cs sp n κ cs) false) false
theorem conCuts_ok {τ : fT} {Kt : Nat → List fCn} {dK f d m n : Nat} {c : fCn} {cs l : List fCu} {sp : List (Nat × Nat × Int)} {κ : fKap} (h : conCuts τ Kt dK f d m c cs sp n κ l = true) : ∀ u ∈ l, u.2.2.1.length = n ∧ fexec τ (none, []) c.2.2.1 fDs fCs Kt dK f d (fDs m).2 (stpF (fE1 τ u) cs sp) ((fDs m).2 u.1) u.1 (cutLoc u.2.1 2) [] (cutWG u.2.1 (cutEs u.2.1) (cutOv u.2.1 2) u.2.2.2) ([], []) κ = true := by
  induction l with
  | nil => intro u hu; cases hu
  | cons u l ih =>
    obtain ⟨h1, h2⟩ := bI_and (show bI (Nat.beq (fLenM u.2.2.1) n) (bI (fexec τ (none, []) c.2.2.1 fDs fCs Kt dK f d (fDs m).2 (stpF (fE1 τ u) cs sp) ((fDs m).2 u.1) u.1 (cutLoc u.2.1 2) [] (cutWG u.2.1 (cutEs u.2.1) (cutOv u.2.1 2) u.2.2.2) ([], []) κ) (conCuts τ Kt dK f d m c cs sp n κ l) false) false = true from h)
    obtain ⟨h3, h4⟩ := bI_and h2
    have h1 := Nat.eq_of_beq_eq_true h1
    rw [fLenM_eq] at h1
    intro x hx
    rcases List.mem_cons.mp hx with rfl | hx
    · exact ⟨h1, h3⟩
    · exact ih h4 x hx
/-- what a run with cuts says, the answer being asked by κ -/
theorem con_gen {τ : fT} {Kt : Nat → List fCn} {dK f d m n : Nat} {c : fCn} {cs : List fCu} {sp : List (Nat × Nat × Int)} {κ : fKap} {S : pScr} (ht : fTau τ) (hK : ∀ m, ∀ c ∈ Kt m, cnOk τ S dK m c) (hm : Nat.ble (m + 1) nM = true) (h : conChk τ Kt dK f d m c cs sp n κ = true) (vs : List Value) (M : pMem) (hvs : satS c.1 vs) (hM : tyM (tOf τ) M) (hgr : gRm c.2.2.1 M) (hfc : fctM c.2.2.2.1 M) (Post : List Value → pHp → Prop)
    (hκ : ∀ (v : List aV) (w' : aW) (h' : fHy) (ρ' : Nat → Value) (hp : pHp), κ v w' h' = true → (cs = [] → (∀ j u, vs[j]? = some u → ρ' (2 + j) = u) ∧ 2 + vs.length ≤ w'.1.length) → (∀ a ∈ v, a.1 < w'.1.length) → aWor (tOf τ) gSh w' ρ' hp.1 hp.2 → frm c.2.2.1 M hp.2 → Post (v.map (aval ρ')) hp) : cOk S (d + 1) m vs (gSh, M) (fun v hp => Post v.toList hp) := by
  have hm : m < nM := Nat.le_of_ble_eq_true hm
  obtain ⟨D1, D2, D3⟩ := fD_ok m hm
  obtain ⟨h1, h2⟩ := bI_and h
  obtain ⟨h3, h4⟩ := bI_and h2
  have h1 := Nat.le_of_ble_eq_true h1
  have h4 := conCuts_ok h4
  have good := fexec_good (X0 := (none, [])) (Md := c.2.2.1) fD_ok hK ht f
  have ho : ∀ (w : aW) (ρ : Nat → Value) (sh : pSh) (M : pMem), hyOk S dK ([], []) w ρ sh M := fun w ρ sh M => ⟨(fun q hq => by cases hq), (fun q hq => by cases hq)⟩
  have xo : ∀ (w : aW) (ρ : Nat → Value), xOk (none, []) S w ρ := fun w ρ => ⟨trivial, fun q hq => by cases hq⟩
  have cut : ∀ (ms : List Nat), Acc lexLt ms → ∀ u ∈ cs, ∀ σ : pSt, u.2.2.1.map (mVal σ.2.1 σ.2.2.2.2) = ms → gSat τ u.1 u.2.1 [] u.2.2.2 [] 205 σ → frm c.2.2.1 M σ.2.2.2.2 → pOk S (pMe m).1 (pKind.getD m 9 == 2) (pMe m).2.2.2.1 (pCode m) d (fun i len τ' => ∃ v, pRet (pMe m).2.2.2.2 i len τ'.2.2.1 = some v ∧ Post v.toList (τ'.2.2.2.1, τ'.2.2.2.2)) σ := by
    intro ms hacc
    induction hacc with
    | intro ms _ ih =>
      intro u hu σ hms hsat hfr
      obtain ⟨hul, hrun⟩ := h4 u hu
      obtain ⟨ρ, hG, -, hL⟩ := gStart (ps := []) (pv := []) trivial hsat
      have hG : aG (tOf τ) gSh ρ (u.1, cutLoc u.2.1 2, [], cutWG u.2.1 (cutEs u.2.1) (cutOv u.2.1 2) u.2.2.2) σ := by
        have e : ([] : List aE) ++ (cutEs u.2.1 ++ []) = cutEs u.2.1 := by simp
        rw [e] at hG
        exact hG
      have hL : ∀ j q, u.2.1[j]? = some q → gv σ.2.1 σ.2.2.2.2 q.1 = some (ρ (j + 2)) := fun j q hj => by
        have := hL j q hj
        rw [show 2 + (([] : List aE).length + j) = j + 2 by simp; omega] at this
        exact this
      refine good _ _ _ _ _ d _ _ _ _ _ _ _ _ _ (pMe_lt m hm).1 D3 (D3 u.1) hrun ρ σ Post (xo _ _) hG (ho _ _ _ _) (gRm.frm hfr hgr) ?_ ?_
      · intro pc' k hk A' B' w' h9 ρ' σ' hc hs hl hG' hf' _
        obtain ⟨u', hu', hpc, w2, hfu, hw2, hG2⟩ := stpF_ok hk hc hG'
        obtain ⟨hsat', hless⟩ := fSub0_ok ht (show fSub0 τ A' B' w2 u'.2.1 u'.2.2.2 (fLess u.2.1 A' w2 u.2.2.1 u'.2.2.1) = true from hfu) hG2
        have hlex := fLess_ok (G0 := u.2.1) (A := A') (w := w2) (L := σ.2.1) (L' := σ'.2.1) (M := σ.2.2.2.2) (M' := σ'.2.2.2.2) hG2.2.2.2.1 hG2.2.1 hG2.2.2.2.2.2.1 (fun s hs' => hs s (by show s < ((cutEs u.2.1).length + 1) + 1; rw [cutEs_eq, List.length_map]; exact hs')) hL (by rw [hul, (h4 u' hu').1]) hless
        rw [hms] at hlex
        exact ih _ hlex u' hu' σ' rfl (by rw [hpc]; exact hsat') (hfr.tr hf')
      · intro v w' h9 ρ' hp k1 _ _ k4 k5 k6 _
        exact hκ v w' h9 ρ' hp k1 (fun hz => by rw [hz] at hu; cases hu) k4 k5 (hfr.tr k6)
  have hlen : c.1.length = vs.length := satS_len hvs
  let ρ : Nat → Value := fun s => if s < 2 then .int 0 else (vs[s - 2]?).getD .null
  have hρ : ∀ j v, vs[j]? = some v → ρ (2 + j) = v := by
    intro j v hj
    show (if 2 + j < 2 then _ else _) = _
    rw [if_neg (by omega), show 2 + j - 2 = j by omega, hj]
    rfl
  have hE : aEnv (cutEnv c.1) ρ := cutEnv_ok rfl rfl (fun j e hj => by
    have hlt := (List.getElem?_eq_some_iff.mp hj).1
    have hv : vs[j]? = some vs[j] := List.getElem?_eq_getElem (by omega)
    rw [show j + 2 = 2 + j by omega, hρ j _ hv]
    exact forall2_get hvs hj hv)
  have hln : (cutW c.1 c.2.2.2.1).1.length = 2 + c.1.length := by
    show (c.1.length + 1) + 1 = _
    omega
  have hW : aWor (tOf τ) gSh (cutW c.1 c.2.2.2.1) ρ gSh M := by
    refine ⟨hE, fun o k e ho _ _ he => hM o k e ho he, ?_, gSh_full.symm, by show 205 ≤ gSh.length; rw [gSh_205]; exact Nat.le_refl _⟩
    intro q hq
    rcases fOvF_mem hq with hq | ⟨p, hp, rfl⟩
    · cases hq
    · refine ⟨by rw [hln]; show 0 < _; omega, ?_⟩
      rw [aval_c hE.2.1]
      exact hfc p hp
  have has : ∀ a ∈ cutArg c.1 2, a.1 < (cutW c.1 c.2.2.2.1).1.length := fun a ha => by
    have := cutArg_lt ha
    rw [hln]
    omega
  have hmap : (cutArg c.1 2).map (aval ρ) = vs := cutArg_map (Nat.le_refl _) hlen hρ
  rw [← hmap]
  refine c_of_ok (by rw [fSize_ok (w := cutW c.1 c.2.2.2.1) hE has, ← D1]; exact h1) ?_
  refine good _ _ _ _ _ d _ _ _ _ _ _ _ _ _ (pMe_lt m hm).1 D3 (D3 0) h3 ρ _ Post (xo _ _) ⟨rfl, fArgs_ok (w := cutW c.1 c.2.2.2.1) hE has, ⟨fun a ha => (by cases ha), rfl⟩, hW⟩ (ho _ _ _ _) hgr ?_ ?_
  · intro pc' k hk A' B' w' h9 ρ' σ' hc hs hl hG' hf' _
    obtain ⟨u', hu', hpc, w2, hfu, hw2, hG2⟩ := stpF_ok hk hc hG'
    obtain ⟨hsat', -⟩ := fSub0_ok ht (show fSub0 τ A' B' w2 u'.2.1 u'.2.2.2 true = true from hfu) hG2
    exact cut _ (lex_acc _ _ rfl) u' hu' σ' rfl (by rw [hpc]; exact hsat') hf'
  · intro v w' h9 ρ' hp k1 k2 k3 k4 k5 k6 _
    refine hκ v w' h9 ρ' hp k1 (fun _ => ⟨fun j u hj => ?_, ?_⟩) k4 k5 k6
    · have hlt := (List.getElem?_eq_some_iff.mp hj).1
      rw [k2 _ (by rw [hln]; omega)]
      exact hρ j u hj
    · rw [hln] at k3
      omega
theorem con_ok {τ : fT} {Kt : Nat → List fCn} {dK f d m n : Nat} {c : fCn} {cs : List fCu} {sp : List (Nat × Nat × Int)} {S : pScr} (ht : fTau τ) (hK : ∀ m, ∀ c ∈ Kt m, cnOk τ S dK m c) (hm : Nat.ble (m + 1) nM = true) (h : conChk τ Kt dK f d m c cs sp n (retK τ c) = true) : cnOk τ S (d + 1) m c := by
  intro vs M hvs hM hg hfc
  refine con_gen ht hK hm h vs M hvs hM (gRm.of hg) hfc (fun v hp => hp.1 = gSh ∧ tyM (tOf τ) hp.2 ∧ satS c.2.1 v ∧ frm c.2.2.1 M hp.2 ∧ fctM c.2.2.2.2 hp.2) ?_
  intro v w' h9 ρ' hp k1 _ _ k2 k3
  obtain ⟨e1, e2, e3⟩ := fCln_e k1
  obtain ⟨q1, q2, q3⟩ := fCln_ok k1 k2
  obtain ⟨q4, q5⟩ := bI_and q3
  exact ⟨q1, q2, fFits_ok k2.1 q5, k3, fFct_ok ht k2 e1 e2 e3 q4⟩
/-- a table of contracts -/
noncomputable def ktOf (l : List (Nat × fCn)) : Nat → List fCn := fun m => @List.rec (Nat × fCn) (fun _ => List fCn) [] (fun q _ ih => @Bool.rec (fun _ => List fCn) ih (q.2 :: ih) (Nat.beq q.1 m)) l
def tabOk (τ : fT) (S : pScr) (d : Nat) (l : List (Nat × fCn)) : Prop := ∀ m, ∀ c ∈ ktOf l m, cnOk τ S d m c
theorem tab_nil {τ : fT} {S : pScr} {d : Nat} : tabOk τ S d [] := fun _ _ h => by cases h
theorem cnOk.deep {τ : fT} {S : pScr} {d d' m : Nat} {c : fCn} (h : cnOk τ S d m c) (hd : d ≤ d') : cnOk τ S d' m c := fun vs M h1 h2 h3 h4 => (h vs M h1 h2 h3 h4).deep hd
theorem tab_cons {τ : fT} {S : pScr} {d d' m : Nat} {c : fCn} {l : List (Nat × fCn)} (hl : tabOk τ S d l) (h : cnOk τ S d' m c) (hd : d ≤ d') : tabOk τ S d' ((m, c) :: l) := by
  intro m' c' hc
  have hc : c' ∈ (@Bool.rec (fun _ => List fCn) (ktOf l m') (c :: ktOf l m') (Nat.beq m m')) := hc
  cases hb : Nat.beq m m' with
  | false =>
    rw [hb] at hc
    exact (hl m' c' hc).deep hd
  | true =>
    rw [hb] at hc
    have e := Nat.eq_of_beq_eq_true hb
    subst e
    rcases List.mem_cons.mp hc with rfl | hc
    · exact h
    · exact (hl m c' hc).deep hd

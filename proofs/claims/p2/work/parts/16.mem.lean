/-! memory of the abstract machine -/
def aSubE (e d : aE) : Bool := match e, d with
  | (0, l, u, _), (0, l2, u2, _) => decide (l2 ≤ l ∧ u ≤ u2)
  | (1, n, _, x), (1, n2, _, x2) => (decide (n ≠ 1 ∨ n2 = 1)) && x.all (fun i => x2.contains i)
  | (2, l, u, _), (2, l2, u2, _) => decide (l2 ≤ l ∧ u ≤ u2)
  | (3, _, _, _), (3, _, _, _) => true
  | _, _ => false
theorem aSubE_ok {e d : aE} {v : Value} (h : aSubE e d = true) (hv : satE e v) : satE d v := by
  unfold aSubE at h
  split at h
  · have h := of_decide_eq_true h
    obtain ⟨z, hz, h1, h2⟩ := hv
    exact ⟨z, hz, by omega, by omega⟩
  · rw [Bool.and_eq_true] at h
    obtain ⟨h1, h2⟩ := h
    have h1 := of_decide_eq_true h1
    rcases hv with ⟨hv, hn⟩ | ⟨i, hi, hv⟩
    · refine Or.inl ⟨hv, ?_⟩
      rcases h1 with z | z
      · exact absurd hn z
      · exact z
    · refine Or.inr ⟨i, ?_, hv⟩
      have := List.all_eq_true.mp h2 i hi
      simpa using this
  · have h := of_decide_eq_true h
    obtain ⟨z, hz, h1, h2⟩ := hv
    exact ⟨z, hz, by omega, by omega⟩
  · exact hv
  · cases h
def aJoin (e d : aE) : Option aE := match e, d with
  | (0, l, u, _), (0, l2, u2, _) => some (0, iMin l l2, iMax u u2, [])
  | (1, n, _, x), (1, n2, _, x2) => some (1, iMax n n2, 0, x ++ x2.filter (fun i => !x.contains i))
  | (2, l, u, _), (2, l2, u2, _) => some (2, iMin l l2, iMax u u2, [])
  | _, _ => none
theorem aJoin_ok {e d j : aE} {v : Value} (h : aJoin e d = some j) (hn : ∀ q, (q = e ∨ q = d) → q.1 = 1 → q.2.1 ≤ 1) (hv : satE e v ∨ satE d v) : satE j v := by
  unfold aJoin at h
  split at h
  · rename_i l u x l2 u2 x2
    cases h
    have g1 := iMin_le l l2
    have g2 := iMax_ge u u2
    rcases hv with ⟨z, hz, h1, h2⟩ | ⟨z, hz, h1, h2⟩ <;> exact ⟨z, hz, by omega, by omega⟩
  · rename_i n y x n2 y2 x2
    cases h
    have hn1 : n ≤ 1 := hn _ (Or.inl rfl) rfl
    have hn2 : n2 ≤ 1 := hn _ (Or.inr rfl) rfl
    have g2 := iMax_ge n n2
    rcases hv with (⟨hv, hn⟩ | ⟨i, hi, hv⟩) | (⟨hv, hn⟩ | ⟨i, hi, hv⟩)
    · refine Or.inl ⟨hv, ?_⟩
      have := iMax_le (z := 1) hn1 hn2
      omega
    · exact Or.inr ⟨i, List.mem_append_left _ hi, hv⟩
    · refine Or.inl ⟨hv, ?_⟩
      have := iMax_le (z := 1) hn1 hn2
      omega
    · refine Or.inr ⟨i, ?_, hv⟩
      by_cases hc : x.contains i = true
      · exact List.mem_append_left _ (by simpa using hc)
      · exact List.mem_append_right _ (List.mem_filter.mpr ⟨hi, by simpa using hc⟩)
  · rename_i l u x l2 u2 x2
    cases h
    have g1 := iMin_le l l2
    have g2 := iMax_ge u u2
    rcases hv with ⟨z, hz, h1, h2⟩ | ⟨z, hz, h1, h2⟩ <;> exact ⟨z, hz, by omega, by omega⟩
  · cases h
/-- the entries of the regions that a stretch of places touches -/
def aOver : List (Nat × aE) → Nat → Nat → Option (List aE)
  | [], _, _ => none
  | (en, e) :: r, a, b => if Nat.blt b en then some [e] else match aOver r a b with
    | some l => some (if Nat.blt a en then e :: l else l)
    | none => none
theorem aOver_ok {a b k : Nat} (h1 : a ≤ k) (h2 : k ≤ b) : ∀ {r : List (Nat × aE)} {l : List aE}, aOver r a b = some l → ∃ e, e ∈ l ∧ (r.find? (fun q => Nat.blt k q.1)).map (fun q => q.2) = some e := by
  intro r
  induction r with
  | nil => intro l h; cases h
  | cons q r ih =>
    intro l h
    obtain ⟨en, e⟩ := q
    unfold aOver at h
    split at h
    · rename_i hb
      cases h
      have hb : b < en := by simpa using hb
      refine ⟨e, by simp, ?_⟩
      rw [List.find?_cons_of_pos (by simp; omega)]
      rfl
    · rename_i hb
      have hb : en ≤ b := by simpa using hb
      split at h
      · rename_i l' hl
        cases h
        by_cases hk : k < en
        · refine ⟨e, ?_, ?_⟩
          · rw [if_pos (by simp; omega)]
            exact List.mem_cons_self
          · rw [List.find?_cons_of_pos (by simp; omega)]
            rfl
        · obtain ⟨e', h3, h4⟩ := ih hl
          refine ⟨e', ?_, ?_⟩
          · split
            · exact List.mem_cons_of_mem _ h3
            · exact h3
          · rw [List.find?_cons_of_neg (by simp; omega)]
            exact h4
      · cases h
/-- entries whose 'may be null' is at most 1 -/
def aNul (e : aE) : Bool := decide (e.1 ≠ 1 ∨ e.2.1 ≤ 1)
def aJoinL : List aE → Option aE
  | [] => none
  | [e] => if aNul e then some e else none
  | e :: l => match aJoinL l with
    | some j => if aNul e && aNul j then aJoin e j else none
    | none => none
theorem aJoinL_ok {v : Value} : ∀ {l : List aE} {j e : aE}, aJoinL l = some j → e ∈ l → satE e v → satE j v := by
  intro l
  induction l with
  | nil => intro j e h; cases h
  | cons d l ih =>
    intro j e h he hv
    unfold aJoinL at h
    split at h
    · cases h
    · rename_i d' heq
      cases heq
      split at h
      · cases h
        have : e = d := by simpa using he
        subst this
        exact hv
      · cases h
    · rename_i d' l' hne heq
      cases heq
      split at h
      · rename_i j' hj
        split at h
        · rename_i hn
          rw [Bool.and_eq_true] at hn
          have n1 := of_decide_eq_true hn.1
          have n2 := of_decide_eq_true hn.2
          refine aJoin_ok h (fun q hq h1 => ?_) ?_
          · rcases hq with rfl | rfl
            · rcases n1 with z | z
              · exact absurd h1 z
              · exact z
            · rcases n2 with z | z
              · exact absurd h1 z
              · exact z
          · rcases List.mem_cons.mp he with rfl | he
            · exact Or.inl hv
            · exact Or.inr (ih hj he hv)
        · cases h
      · cases h
/-- what an abstract value is -/
def aEnt (env : List aE) (a : aV) : Option aE := match aIv env a with
  | some (lo, hi) => some (0, lo, hi, [])
  | none => match aRf env a with
    | some (nl, ids) => some (1, if nl then 1 else 0, 0, ids)
    | none => match aLg env a with
      | some (lo, hi) => some (2, lo, hi, [])
      | none => none
theorem aLg_ok {env : List aE} {ρ : Nat → Value} {a : aV} {lo hi : Int} (hE : aEnv env ρ) (h : aLg env a = some (lo, hi)) : ∃ z : Int64, aval ρ a = .long z ∧ lo ≤ z.toInt ∧ z.toInt ≤ hi := by
  unfold aLg at h
  split at h
  · rename_i l u x he
    split at h
    · rename_i hr
      cases h
      obtain ⟨z, hz, h1, h2⟩ := hE.2.2 _ _ he
      refine ⟨z, ?_, h1, h2⟩
      unfold aval
      rw [if_neg hr, hz]
    · cases h
  · cases h
theorem aEnt_ok {env : List aE} {ρ : Nat → Value} {a : aV} {e : aE} (hE : aEnv env ρ) (h : aEnt env a = some e) : satE e (aval ρ a) := by
  unfold aEnt at h
  split at h
  · rename_i lo hi hi0
    cases h
    exact aIv_ok hE hi0
  · split at h
    · rename_i nl ids hr
      cases h
      rcases aRf_ok hE hr with ⟨h1, h2⟩ | ⟨i, h1, h2⟩
      · exact Or.inl ⟨h1, by rw [h2]; rfl⟩
      · exact Or.inr ⟨i, h1, h2⟩
    · split at h
      · rename_i lo hi hl
        cases h
        exact aLg_ok hE hl
      · cases h
/-- all the entries that places a .. b of these objects may have -/
def aEnts (T : aT) : List Nat → Nat → Nat → Option (List aE)
  | [], _, _ => some []
  | i :: r, a, b => match aOver (T.getD i []) a b, aEnts T r a b with
    | some l, some m => some (l ++ m)
    | _, _ => none
theorem aEnts_ok {T : aT} {a b k i : Nat} (h1 : a ≤ k) (h2 : k ≤ b) : ∀ {ids : List Nat} {l : List aE}, aEnts T ids a b = some l → i ∈ ids → ∃ e, e ∈ l ∧ tyAt T i k = some e := by
  intro ids
  induction ids with
  | nil => intro l _ h; cases h
  | cons j r ih =>
    intro l h hi
    unfold aEnts at h
    split at h
    · rename_i l1 m1 ho hr
      cases h
      rcases List.mem_cons.mp hi with rfl | hi
      · obtain ⟨e, h3, h4⟩ := aOver_ok h1 h2 ho
        exact ⟨e, List.mem_append_left _ h3, h4⟩
      · obtain ⟨e, h3, h4⟩ := ih hr hi
        exact ⟨e, List.mem_append_right _ h3, h4⟩
    · cases h
/-- these places keep their types -/
def aClean (w : aW) (ids : List Nat) (a b : Nat) : Bool := ids.all (fun i => Nat.blt i w.2.2.2.2 && !w.2.2.2.1.contains i) && w.2.2.1.all (fun q => !(ids.contains q.1 && (Nat.ble a q.2 && Nat.ble q.2 b)))
theorem aClean_ok {w : aW} {ids : List Nat} {a b i k : Nat} (h : aClean w ids a b = true) (hi : i ∈ ids) (h1 : a ≤ k) (h2 : k ≤ b) : i < w.2.2.2.2 ∧ i ∉ w.2.2.2.1 ∧ (i, k) ∉ w.2.2.1 := by
  unfold aClean at h
  rw [Bool.and_eq_true] at h
  have h3 := List.all_eq_true.mp h.1 i hi
  rw [Bool.and_eq_true] at h3
  refine ⟨by simpa using h3.1, by simpa using h3.2, fun hm => ?_⟩
  have h4 := List.all_eq_true.mp h.2 _ hm
  have h5 : ids.contains i = true := by simpa using hi
  have h6 : Nat.ble a k = true := Nat.ble_eq_true_of_le h1
  have h7 : Nat.ble k b = true := Nat.ble_eq_true_of_le h2
  simp [h6, h7, hi] at h4
def aFindO (ov : aO) (i k : Nat) : Option aV := (ov.find? (fun q => Nat.beq q.1.1 i && Nat.beq q.1.2 k)).map (fun q => q.2)
/-- read one of these objects at a place from a to b -/
def aRead (T : aT) (w : aW) (ids : List Nat) (a b : Nat) : Option (aV × aW) :=
  match (match ids with | [i] => if Nat.beq a b then aFindO w.2.1 i a else none | _ => none) with
  | some v => some (v, w)
  | none => if aClean w ids a b then match aEnts T ids a b with
      | some l => match aJoinL l with
        | some j => match mkE w.1 j with
          | (env, v) => some (v, env, (match ids with | [i] => if Nat.beq a b && !(Nat.ble v.1 1) then ((i, a), v) :: w.2.1 else w.2.1 | _ => w.2.1), w.2.2)
        | none => none
      | none => none
    else none
theorem aFindO_ok {ov : aO} {i k : Nat} {v : aV} (h : aFindO ov i k = some v) : ((i, k), v) ∈ ov := by
  unfold aFindO at h
  obtain ⟨⟨⟨a, b⟩, u⟩, h1, h2⟩ := Option.map_eq_some_iff.mp h
  have h3 := List.mem_of_find?_eq_some h1
  have h4 := List.find?_some h1
  rw [Bool.and_eq_true] at h4
  have e1 : a = i := Nat.eq_of_beq_eq_true h4.1
  have e2 : b = k := Nat.eq_of_beq_eq_true h4.2
  have e3 : u = v := h2
  subst e1
  subst e2
  subst e3
  exact h3
theorem aWor_env {T : aT} {sh0 sh : pSh} {w : aW} {ρ ρ' : Nat → Value} {M : pMem} {env : List aE} (h : aWor T sh0 w ρ sh M) (hs : aSub w.1.length ρ ρ') (hE : aEnv env ρ') (hl : w.1.length ≤ env.length) : aWor T sh0 (env, w.2) ρ' sh M := by
  obtain ⟨h1, h2, h3, h4⟩ := h
  refine ⟨hE, h2, fun q hq => ?_, h4⟩
  obtain ⟨g1, g2⟩ := h3 q hq
  exact ⟨Nat.lt_of_lt_of_le g1 hl, by rw [g2, aval_sub hs g1]⟩
theorem aRead_ok {T : aT} {sh0 sh : pSh} {w w' : aW} {ρ : Nat → Value} {M : pMem} {ids : List Nat} {a b i k : Nat} {v : aV} (h : aRead T w ids a b = some (v, w')) (hW : aWor T sh0 w ρ sh M) (hi : i ∈ ids) (h1 : a ≤ k) (h2 : k ≤ b) :
    ∃ ρ', aSub w.1.length ρ ρ' ∧ aWor T sh0 w' ρ' sh M ∧ v.1 < w'.1.length ∧ M i k = aval ρ' v ∧ w.1.length ≤ w'.1.length ∧ w'.2.2 = w.2.2 := by
  unfold aRead at h
  split at h
  · rename_i u hu
    cases h
    split at hu
    · rename_i j
      split at hu
      · rename_i hab
        have hab : a = b := Nat.eq_of_beq_eq_true hab
        have e1 : i = j := by simpa using hi
        have e2 : k = a := by omega
        subst e1
        subst e2
        obtain ⟨g1, g2⟩ := hW.2.2.1 _ (aFindO_ok hu)
        exact ⟨ρ, fun _ _ => rfl, hW, g1, g2, Nat.le_refl _, rfl⟩
      · cases hu
    · cases hu
  · split at h
    · rename_i hc
      split at h
      · rename_i l hl
        split at h
        · rename_i j hj
          split at h
          rename_i env u hmk
          cases h
          obtain ⟨e, he, hty⟩ := aEnts_ok h1 h2 hl hi
          obtain ⟨c1, c2, c3⟩ := aClean_ok hc hi h1 h2
          have hv := aJoinL_ok hj he (hW.2.1 i k e c1 c2 c3 hty)
          obtain ⟨ρ', g1, g2, g3, g4, g5⟩ := mkE_ok hW.1 hv
          rw [hmk] at g2 g3 g4 g5
          have hW' := aWor_env hW g1 g2 g5
          refine ⟨ρ', g1, ?_, g3, g4.symm, g5, rfl⟩
          refine ⟨hW'.1, hW'.2.1, fun q hq => ?_, hW'.2.2.2⟩
          replace hq : q ∈ (match ids with | [i] => if Nat.beq a b && !(Nat.ble v.1 1) then ((i, a), v) :: w.2.1 else w.2.1 | _ => w.2.1) := hq
          split at hq
          · split at hq
            · rename_i hab
              rw [Bool.and_eq_true] at hab
              have hab : a = b := Nat.eq_of_beq_eq_true hab.1
              have e1 := List.mem_singleton.mp hi
              have e2 : k = a := by omega
              subst e1
              subst e2
              rcases List.mem_cons.mp hq with rfl | hq
              · exact ⟨g3, g4.symm⟩
              · exact hW'.2.2.1 q hq
            · exact hW'.2.2.1 q hq
          · exact hW'.2.2.1 q hq
        · cases h
      · cases h
    · cases h
/-- an entry that is one value -/
def aOne (e : aE) : Bool := match e with
  | (0, l, u, _) => decide (l = u)
  | (1, n, _, [_]) => decide (n ≠ 1)
  | _ => false
/-- write a value to one of these objects at a place from a to b -/
def aWrite (T : aT) (w : aW) (ids : List Nat) (a b : Nat) (v : aV) : Option aW := match aEnt w.1 v with
  | none => none
  | some ev => match (match ids with | [i] => if Nat.beq a b then some i else none | _ => none) with
    | some i => match tyAt T i a with
      | some e => if aSubE ev e then some (w.1, (if aOne e then w.2.1.filter (fun q => !(Nat.beq q.1.1 i && Nat.beq q.1.2 a)) else ((i, a), v) :: w.2.1.filter (fun q => !(Nat.beq q.1.1 i && Nat.beq q.1.2 a))), w.2.2.1.filter (fun q => !(Nat.beq q.1 i && Nat.beq q.2 a)), w.2.2.2)
          else some (w.1, ((i, a), v) :: w.2.1.filter (fun q => !(Nat.beq q.1.1 i && Nat.beq q.1.2 a)), (i, a) :: w.2.2.1, w.2.2.2)
      | none => none
    | none => match aEnts T ids a b with
      | some l => some (w.1, w.2.1.filter (fun q => !(ids.contains q.1.1 && (Nat.ble a q.1.2 && Nat.ble q.1.2 b))), w.2.2.1, (if l.all (fun e => aSubE ev e) then w.2.2.2.1 else ids ++ w.2.2.2.1), w.2.2.2.2)
      | none => none
theorem pUp_other (M : pMem) (o k : Nat) (v : Value) {o' k' : Nat} (h : ¬ (o' = o ∧ k' = k)) : pUp M o k v o' k' = M o' k' := by
  unfold pUp
  by_cases h1 : o' = o
  · have h2 : k' ≠ k := fun z => h ⟨h1, z⟩
    simp [nbeq_ne h2]
  · simp [nbeq_ne h1]
theorem aWrite_ok {T : aT} {sh0 sh : pSh} {w w' : aW} {ρ : Nat → Value} {M : pMem} {ids : List Nat} {a b i k : Nat} {v : aV} (h : aWrite T w ids a b v = some w') (hW : aWor T sh0 w ρ sh M) (hv : v.1 < w.1.length) (hi : i ∈ ids) (h1 : a ≤ k) (h2 : k ≤ b) :
    aWor T sh0 w' ρ sh (pUp M i k (aval ρ v)) ∧ w'.1 = w.1 := by
  unfold aWrite at h
  split at h
  · cases h
  · rename_i ev hev
    have hsv := aEnt_ok hW.1 hev
    split at h
    · rename_i j hj
      have hj2 : ids = [j] ∧ a = b := by
        split at hj
        · split at hj
          · rename_i hab
            cases hj
            exact ⟨rfl, Nat.eq_of_beq_eq_true hab⟩
          · cases hj
        · cases hj
      obtain ⟨rfl, rfl⟩ := hj2
      have e1 := List.mem_singleton.mp hi
      have e2 : k = a := by omega
      subst e1
      subst e2
      have hov : ∀ q ∈ w.2.1.filter (fun q => !(Nat.beq q.1.1 i && Nat.beq q.1.2 k)), q.2.1 < w.1.length ∧ pUp M i k (aval ρ v) q.1.1 q.1.2 = aval ρ q.2 := by
        intro q hq
        obtain ⟨hq1, hq2⟩ := List.mem_filter.mp hq
        obtain ⟨g1, g2⟩ := hW.2.2.1 q hq1
        refine ⟨g1, ?_⟩
        rw [pUp_other, g2]
        rintro ⟨z1, z2⟩
        rw [z1, z2] at hq2
        simp at hq2
      have hov2 : ∀ q ∈ ((i, k), v) :: w.2.1.filter (fun q => !(Nat.beq q.1.1 i && Nat.beq q.1.2 k)), q.2.1 < w.1.length ∧ pUp M i k (aval ρ v) q.1.1 q.1.2 = aval ρ q.2 := by
        intro q hq
        rcases List.mem_cons.mp hq with rfl | hq
        · exact ⟨hv, pUp_self M i k _⟩
        · exact hov q hq
      split at h
      · rename_i e hty
        split at h
        · rename_i hsub
          cases h
          refine ⟨⟨hW.1, ?_, ?_, hW.2.2.2⟩, rfl⟩
          · intro o' k' e' c1 c2 c3 c4
            by_cases hz : o' = i ∧ k' = k
            · obtain ⟨rfl, rfl⟩ := hz
              rw [pUp_self]
              cases hty.symm.trans c4
              exact aSubE_ok hsub hsv
            · rw [pUp_other _ _ _ _ hz]
              refine hW.2.1 o' k' e' c1 c2 (fun hm => c3 ?_) c4
              refine List.mem_filter.mpr ⟨hm, ?_⟩
              by_cases hz1 : o' = i
              · have : k' ≠ k := fun z => hz ⟨hz1, z⟩
                simp [nbeq_ne this]
              · simp [nbeq_ne hz1]
          · show ∀ q ∈ (if aOne e then _ else _), _
            split
            · exact hov
            · exact hov2
        · cases h
          refine ⟨⟨hW.1, ?_, hov2, hW.2.2.2⟩, rfl⟩
          intro o' k' e' c1 c2 c3 c4
          have c3 : (o', k') ∉ (i, k) :: w.2.2.1 := c3
          have hz : ¬ (o' = i ∧ k' = k) := by
            rintro ⟨rfl, rfl⟩
            exact c3 List.mem_cons_self
          rw [pUp_other _ _ _ _ hz]
          exact hW.2.1 o' k' e' c1 c2 (fun hm => c3 (List.mem_cons_of_mem _ hm)) c4
      · cases h
    · split at h
      · rename_i l hl
        cases h
        refine ⟨⟨hW.1, ?_, ?_, hW.2.2.2⟩, rfl⟩
        · intro o' k' e' c1 c2 c3 c4
          have c2 : o' ∉ (if l.all (fun e => aSubE ev e) then w.2.2.2.1 else ids ++ w.2.2.2.1) := c2
          by_cases hz : o' = i ∧ k' = k
          · obtain ⟨rfl, rfl⟩ := hz
            rw [pUp_self]
            obtain ⟨e, he, hty⟩ := aEnts_ok h1 h2 hl hi
            cases hty.symm.trans c4
            split at c2
            · rename_i hall
              exact aSubE_ok (List.all_eq_true.mp hall _ he) hsv
            · exact absurd (List.mem_append_left _ hi) c2
          · rw [pUp_other _ _ _ _ hz]
            refine hW.2.1 o' k' e' c1 (fun hm => c2 ?_) c3 c4
            split
            · exact hm
            · exact List.mem_append_right _ hm
        · intro q hq
          obtain ⟨hq1, hq2⟩ := List.mem_filter.mp hq
          obtain ⟨g1, g2⟩ := hW.2.2.1 q hq1
          refine ⟨g1, ?_⟩
          rw [pUp_other, g2]
          rintro ⟨z1, z2⟩
          rw [z1, z2] at hq2
          have h6 : Nat.ble a k = true := Nat.ble_eq_true_of_le h1
          have h7 : Nat.ble k b = true := Nat.ble_eq_true_of_le h2
          simp [h6, h7, hi] at hq2
      · cases h

/-! findOut's contract out of runs -/
noncomputable def tO (τ : fT) (r : List (Nat × aE)) : fT := fun i => @Bool.rec (fun _ => List (Nat × aE)) (τ i) r (Nat.beq i 197)
theorem tO_t {τ : fT} {r : List (Nat × aE)} (h : fTau τ) : fTau (tO τ r) := fun i hi => by
  show @Bool.rec (fun _ => List (Nat × aE)) (τ i) r (Nat.beq i 197) = []
  have : Nat.beq i 197 = false := by
    cases hb : Nat.beq i 197 with
    | false => rfl
    | true =>
      have := Nat.eq_of_beq_eq_true hb
      omega
  rw [this]
  exact h i hi
theorem tO_ne {τ : fT} {r : List (Nat × aE)} {i : Nat} (h : i ≠ 197) : tO τ r i = τ i := by
  show @Bool.rec (fun _ => List (Nat × aE)) (τ i) r (Nat.beq i 197) = _
  cases hb : Nat.beq i 197 with
  | false => rfl
  | true => exact absurd (Nat.eq_of_beq_eq_true hb) h
def oX : aE := (0, Int.negSucc 0, Int.ofNat 36, [])
def oN : aE := (0, Int.negSucc 0, Int.negSucc 0, [])
theorem oX_m : satE oX (.int mI) := ⟨mI, rfl, by decide, by decide⟩
theorem oN_m : satE oN (.int mI) := ⟨mI, rfl, by decide, by decide⟩
theorem tyAt_of {τ : fT} {o k : Nat} (ht : fTau τ) : tyAt (tOf τ) o k = ((τ o).find? (fun r => Nat.blt k r.1)).map (fun r => r.2) := by
  unfold tyAt
  rw [tOf_get ht]
theorem tyM_out {τ : fT} {M1 M2 : pMem} (ht : fTau τ) (hr : τ 197 = [(93600, oX)]) (hM : tyM (tOf τ) M1) (h1 : ∀ o, o ≠ 197 → M2 o = M1 o) (h2 : ∀ j, M2 197 j = M1 197 j ∨ M2 197 j = .int mI) : tyM (tOf τ) M2 := by
  intro o k e ho he
  by_cases e9 : o = 197
  · subst e9
    rcases h2 k with h | h
    · rw [h]
      exact hM 197 k e ho he
    · rw [h]
      rw [tyAt_of ht, hr] at he
      by_cases hk : Nat.blt k 93600 = true
      · simp only [List.find?_cons, hk, Option.map_some] at he
        cases he
        exact oX_m
      · have hk : Nat.blt k 93600 = false := by
          cases hb : Nat.blt k 93600 with
          | false => rfl
          | true => exact absurd hb hk
        simp only [List.find?_cons, hk, List.find?_nil, Option.map_none] at he
        cases he
  · rw [h1 o e9]
    exact hM o k e ho he
theorem tyM_row {τ : fT} {M1 M2 : pMem} {a b : Nat} (ht : fTau τ) (hr : τ 197 = [(93600, oX)]) (hM : tyM (tOf τ) M1) (h1 : ∀ o, o ≠ 197 → M2 o = M1 o) (h2 : ∀ j, M2 197 j = M1 197 j ∨ M2 197 j = .int mI) (h3 : ∀ j, a ≤ j → j < b → M2 197 j = .int mI) (hab : a ≤ b) (hb : b ≤ 93600) : tyM (tOf (tO τ [(a, oX), (b, oN), (93600, oX)])) M2 := by
  have hM2 := tyM_out ht hr hM h1 h2
  intro o k e ho he
  by_cases e9 : o = 197
  · subst e9
    rw [tyAt_of (tO_t ht)] at he
    have he : ((([(a, oX), (b, oN), (93600, oX)] : List (Nat × aE)).find? (fun r => Nat.blt k r.1)).map (fun r => r.2)) = some e := he
    have hx : ∀ c, Nat.blt k c = true ↔ k < c := fun c => ⟨fun z => Nat.le_of_ble_eq_true z, fun z => Nat.ble_eq_true_of_le z⟩
    have hf : ∀ c, ¬ k < c → Nat.blt k c = false := fun c hc => by
      cases hb : Nat.blt k c with
      | false => rfl
      | true => exact absurd ((hx c).mp hb) hc
    have typed : k < 93600 → satE oX (M2 197 k) := fun hk => hM2 197 k oX ho (by
      rw [tyAt_of ht, hr]
      simp only [List.find?_cons, (hx 93600).mpr hk, Option.map_some])
    by_cases c1 : k < a
    · simp only [List.find?_cons, (hx a).mpr c1, Option.map_some] at he
      cases he
      exact typed (by omega)
    · by_cases c2 : k < b
      · simp only [List.find?_cons, hf a c1, (hx b).mpr c2, Option.map_some] at he
        cases he
        rw [h3 k (by omega) c2]
        exact oN_m
      · by_cases c3 : k < 93600
        · simp only [List.find?_cons, hf a c1, hf b c2, (hx 93600).mpr c3, Option.map_some] at he
          cases he
          exact typed c3
        · simp only [List.find?_cons, hf a c1, hf b c2, hf 93600 c3, List.find?_nil, Option.map_none] at he
          cases he
  · refine hM2 o k e ho ?_
    rw [tyAt_of ht]
    rw [tyAt_of (tO_t ht), tO_ne e9] at he
    exact he
noncomputable def hoC (k c lo hi : Nat) : fCn := ([(1, 0, 0, [185]), (0, Int.ofNat k, Int.ofNat k, []), (0, Int.ofNat c, Int.ofNat c, []), (0, Int.ofNat lo, Int.ofNat hi, []), (0, Int.ofNat 0, Int.ofNat 1, []), (0, Int.ofNat 0, Int.ofNat 7, [])], [oN], some [], [], [])
noncomputable def hoAll (τ : fT) (f d k : Nat) (l : List (Nat × Nat × Nat)) : Bool := @List.rec (Nat × Nat × Nat) (fun _ => Bool) true (fun q _ ih => bI (conChk τ (fun _ => []) 0 f d 241 (hoC k q.1 q.2.1 q.2.2) [] [] 0 (retK τ (hoC k q.1 q.2.1 q.2.2))) ih false) l
theorem hoAll_ok {τ : fT} {f d k : Nat} {l : List (Nat × Nat × Nat)} {S : pScr} (ht : fTau τ) (h : hoAll τ f d k l = true) : ∀ q ∈ l, cnOk τ S (d + 1) 241 (hoC k q.1 q.2.1 q.2.2) := by
  induction l with
  | nil => intro q hq; cases hq
  | cons p l ih =>
    obtain ⟨h1, h2⟩ := bI_and (show bI (conChk τ (fun _ => []) 0 f d 241 (hoC k p.1 p.2.1 p.2.2) [] [] 0 (retK τ (hoC k p.1 p.2.1 p.2.2))) (hoAll τ f d k l) false = true from h)
    intro q hq
    rcases List.mem_cons.mp hq with rfl | hq
    · exact con_ok (cs := []) (sp := []) (n := 0) (dK := 0) ht (fun m c hc => by cases hc) rfl h1
    · exact ih h2 q hq
theorem sat_nI {a lo hi : Nat} (h1 : lo ≤ a) (h2 : a ≤ hi) (ha : a < 2147483648) : satE (0, Int.ofNat lo, Int.ofNat hi, []) (.int (nI a)) := ⟨nI a, rfl, by rw [hI_int ha]; exact Int.ofNat_le.mpr h1, by rw [hI_int ha]; exact Int.ofNat_le.mpr h2⟩
/-- findOut's contract -/
theorem fo_con {τ : fT} {S : pScr} {d n cl : Nat} {fs : fFs} {l : List (Nat × Nat × Nat)} (ht : fTau τ) (hr : τ 197 = [(93600, oX)]) (hn : n ≤ 3) (hcl : cl ≤ 36) (h0 : 1 ≤ cl) (hd : 1 ≤ d)
    (h31 : tyAt (tOf τ) 185 31 = some (1, 0, 0, [197])) (h3 : tyAt (tOf τ) 185 3 = some (1, 0, 0, [186])) (h2 : tyAt (tOf τ) 185 2 = some (0, Int.ofNat cl, Int.ofNat cl, []))
    (hl : cnOk τ S d 237 ([(1, 0, 0, [185])], [], some [191, 194, 195, 196], [((186, 4), Int.ofNat n)], []))
    (hc : ∀ c, c < cl → ∀ a, a < 100 → ∃ q ∈ l, q.1 = c ∧ q.2.1 ≤ a ∧ a ≤ q.2.2)
    (HO : ∀ k, k < n → ∀ q ∈ l, cnOk (tO τ [(7200 * (k + 1), oX), (7200 * (k + 1) + 200 * cl, oN), (93600, oX)]) S d 241 (hoC k q.1 q.2.1 q.2.2))
    (hfs : ∀ q ∈ fs, q.1.1 = 197 ∧ q.1.2 < 200 * cl ∧ q.2 = Int.negSucc 0) : cnOk τ S (d + 2) 243 ([(1, 0, 0, [185])], [], some [191, 194, 195, 196, 197], [((186, 4), Int.ofNat n)], fs) := by
  intro vs M hvs hM hf
  match vs, hvs with
  | [v0], ⟨hv, _⟩ =>
    have hv0 : v0 = .ref 185 := by
      rcases hv with ⟨-, hz⟩ | ⟨i, hi, hz⟩
      · cases hz
      · rw [hz, List.mem_singleton.mp hi]
    subst hv0
    have ref : ∀ {k i : Nat}, tyAt (tOf τ) 185 k = some (1, 0, 0, [i]) → M 185 k = .ref i := fun hz => by
      rcases hM 185 _ _ (by decide) hz with ⟨-, hq⟩ | ⟨j, hj, hq⟩
      · cases hq
      · rw [hq, List.mem_singleton.mp hj]
    have e2 : M 185 2 = .int (nI cl) := by
      obtain ⟨z, hz, z1, z2⟩ := hM 185 _ _ (by decide) h2
      have z1 : (cl : Int) ≤ z.toInt := z1
      have z2 : z.toInt ≤ (cl : Int) := z2
      rw [hz]
      have : z.toInt = (cl : Int) := by omega
      rw [← Int32.ofInt_toInt z, this]
      exact congrArg Value.int i32_nI
    have e4 : M 186 4 = .int (nI n) := by
      have := hf ((186, 4), Int.ofNat n) List.mem_cons_self
      rw [this]
      exact congrArg Value.int i32_nI
    refine (c_findOut (PL := fun M1 => tyM (tOf τ) M1 ∧ frm (some [191, 194, 195, 196]) M M1) hn hcl h0 (ref h31) (ref h3) e2 e4 hd ?_ ?_).mono ?_
    · refine (hl [.ref 185] M ⟨Or.inr ⟨185, List.mem_singleton.mpr rfl, rfl⟩, trivial⟩ hM hf).mono ?_
      rintro v ⟨sh1, M1⟩ ⟨q1, q2, q3, q4, -⟩
      refine ⟨?_, q1, q4 185 (by decide), q4 186 (by decide), q2, q4⟩
      cases v with
      | none => rfl
      | some v => exact q3.elim
    · rintro M1 ⟨hM1, -⟩ k c a b j M2 g1 g2 g3 g4 g5 g6 g7 g8
      obtain ⟨q, hq, rfl, q1, q2⟩ := hc c g2 a g3
      have hT := tyM_row (a := 7200 * (k + 1)) (b := 7200 * (k + 1) + 200 * cl) ht hr hM1 g6 g7 (fun j hj1 hj2 => by
        have := g8 (j - 7200 * (k + 1)) (by omega)
        rw [show 7200 * (k + 1) + (j - 7200 * (k + 1)) = j by omega] at this
        exact this) (by omega) (by omega)
      refine (HO k g1 q hq [.ref 185, .int (nI k), .int (nI q.1), .int (nI a), .int (nI b), .int (nI j)] M2 ⟨Or.inr ⟨185, List.mem_singleton.mpr rfl, rfl⟩, sat_nI (Nat.le_refl _) (Nat.le_refl _) (by omega), sat_nI (Nat.le_refl _) (Nat.le_refl _) (by omega), sat_nI q1 q2 (by omega), sat_nI (Nat.zero_le _) (by omega) (by omega), sat_nI (Nat.zero_le _) (by omega) (by omega), trivial⟩ hT (fun q hq => by cases hq)).mono ?_
      rintro v ⟨sh1, M3⟩ ⟨p1, -, p3, p4, -⟩
      have p1 : sh1 = gSh := p1
      have p5 : M3 = M2 := funext (fun o => p4 o List.not_mem_nil)
      refine ⟨?_, by rw [p1, p5]⟩
      cases v with
      | none => exact p3.elim
      | some v =>
        obtain ⟨z, hz, z1, z2⟩ := p3.1
        have z1 : (-1 : Int) ≤ z.toInt := z1
        have z2 : z.toInt ≤ (-1 : Int) := z2
        rw [hz]
        have : z.toInt = -1 := by omega
        rw [← Int32.ofInt_toInt z, this]
    · rintro v ⟨sh1, M3⟩ ⟨rfl, q1, M1, ⟨hM1, hfr⟩, q2, q3, q4⟩
      have q2 : ∀ o, o ≠ 197 → M3 o = M1 o := q2
      refine ⟨q1, tyM_out ht hr hM1 q2 q3, trivial, fun o ho => ?_, fun q hq => ?_⟩
      · have e9 : o ≠ 197 := fun z => ho (by rw [z]; decide)
        show M3 o = M o
        rw [q2 o e9]
        exact hfr o (fun z => ho (by
          rcases List.mem_cons.mp z with rfl | z
          · decide
          · rcases List.mem_cons.mp z with rfl | z
            · decide
            · rcases List.mem_cons.mp z with rfl | z
              · decide
              · rw [List.mem_singleton.mp z]
                decide))
      · obtain ⟨f1, f2, f3⟩ := hfs q hq
        show M3 q.1.1 q.1.2 = _
        rw [f1, f3]
        exact q4 _ f2

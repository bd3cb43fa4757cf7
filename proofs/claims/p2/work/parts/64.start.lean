/-! the law's start, and what the loop wants of a width -/
/-- the script's int k, or 0 -/
def sx (n : Nat) (xs : Nat → Int32) (k : Nat) : Int32 := if k < n then xs k else nI 0
theorem c_cell {n d k : Nat} {xs : Nat → Int32} {sh : pSh} {M : pMem} (hn : n ≤ 3074) (hk : k ≤ 10) : cOk (some (n, xs)) (d + 1) 286 [.retAddr 1, .int (nI k)] (sh, M) (fun r hp => r = some (.int (sx n xs k)) ∧ hp = (sh, M)) := by
  refine c_of_ok (Nat.le_of_ble_eq_true rfl) ?_
  refine ok_seq 3 (σ' := (3, [(0, .retAddr 1), (1, .int (nI k))], [.int (Int32.ofNat n), .int (nI k)], sh, M)) rfl ?_
  refine ok_icmp (x := nI k) (y := nI n) 12 rfl rfl ?_ ?_
  · intro h
    simp only [pCP] at h
    rw [hI_int (a := k) (by omega), hI_int (a := n) (by omega)] at h
    refine ok_seq 1 (σ' := (13, [(0, .retAddr 1), (1, .int (nI k))], [.int (Int32.ofInt 0)], sh, M)) rfl ?_
    rw [cI_0]
    refine ok_ret (i := .ireturn) (len := 1) rfl rfl ⟨_, rfl, ?_, rfl⟩
    unfold sx
    rw [if_neg (by omega)]
  · intro h
    simp only [pCP] at h
    rw [hI_int (a := k) (by omega), hI_int (a := n) (by omega)] at h
    refine ok_seq 2 (σ' := (8, [(0, .retAddr 1), (1, .int (nI k))], [.int (nI k), .retAddr 1], sh, M)) rfl ?_
    refine ok_step (i := .iaload) (len := 1) (σ := (9, [(0, .retAddr 1), (1, .int (nI k))], [.int (xs k)], sh, M)) rfl ?_ ?_
    · show (if pIn (nI k) n = true then pGo (8 + 1) [(0, .retAddr 1), (1, .int (nI k))] [.int (xs (nI k).toNatClampNeg)] sh M else none) = _
      rw [if_pos (hI_in (by omega) (by omega)), hI_nat (by omega)]
      rfl
    · refine ok_seq 1 (σ' := (13, [(0, .retAddr 1), (1, .int (nI k))], [.int (xs k)], sh, M)) rfl ?_
      refine ok_ret (i := .ireturn) (len := 1) rfl rfl ⟨_, rfl, ?_, rfl⟩
      unfold sx
      rw [if_pos (by omega)]
def gA : List (Nat × aE) := [(0, (3, 0, 0, []))]
def gB : List (Nat × aE) := [(0, (3, 0, 0, [])), (1, (1, 0, 0, [0]))]
def gC : List (Nat × aE) := [(0, (3, 0, 0, [])), (1, (1, 0, 0, [0])), (2, (1, 0, 0, [185]))]
def br14 : List (Nat × Nat) := (List.range 9).map (fun k => (0, k))
def br32 : List (Nat × Nat) := [(185, 0), (185, 1), (185, 2), (185, 3), (185, 4), (185, 5), (185, 6), (185, 8), (185, 9), (185, 19), (185, 25), (185, 26), (185, 27), (185, 28), (185, 29), (185, 30), (185, 31), (185, 33), (185, 34), (185, 35), (185, 36), (185, 37), (185, 38), (185, 40)]
def b14 (w h : aE) : List aE := [h, w, (1, 0, 0, [0]), (1, 0, 0, [0])]
def b32 (w h : aE) : List aE := [h, w, (1, 0, 0, [185]), (1, 0, 0, [185])]
noncomputable def rB (τ : fT) (f d : Nat) (w h : aE) : Bool := lRun τ (none, []) (fun _ => []) 0 f d (stp1 18 (gChk gB [] [] 185)) 14 [] gA (b14 w h) [] br14 1
noncomputable def rD (τ : fT) (f d : Nat) (w h : aE) : Bool := lRun τ (none, []) (fun _ => []) 0 f d (stp1 36 (gChk gC [] [] 205)) 32 [] gB (b32 w h) [] br32 186
/-- a default is of a kind -/
noncomputable def defB (e : aE) (v : Value) : Bool := match e, v with
  | (0, lo, hi, _), .int z => decide (lo ≤ z.toInt) && decide (z.toInt ≤ hi)
  | (1, nl, _, _), .null => decide (nl = 1)
  | (2, lo, hi, _), .long z => decide (lo ≤ z.toInt) && decide (z.toInt ≤ hi)
  | _, _ => false
theorem defB_ok {e : aE} {v : Value} (h : defB e v = true) : satE e v := by
  unfold defB at h
  split at h
  · obtain ⟨h1, h2⟩ := Bool.and_eq_true_iff.mp h
    exact ⟨_, rfl, of_decide_eq_true h1, of_decide_eq_true h2⟩
  · exact Or.inl ⟨rfl, of_decide_eq_true h⟩
  · obtain ⟨h1, h2⟩ := Bool.and_eq_true_iff.mp h
    exact ⟨_, rfl, of_decide_eq_true h1, of_decide_eq_true h2⟩
  · cases h
noncomputable def defA (τ : fT) : Bool := (List.range 47).all (fun k => decide ((185, k) ∈ br32) || (match rowAt (τ 185) k with | some e => defB e (pDefF 12 k) | none => true))
theorem len185 : (gSh.take 185).length = 185 := by decide +kernel
theorem app186 : gSh.take 185 ++ [(12, 47)] = gSh.take 186 := by decide +kernel
theorem sat0 (i : Nat) : satE (1, 0, 0, [i]) (.ref i) := Or.inr ⟨i, List.mem_singleton.mpr rfl, rfl⟩
section LST
variable {n d : Nat} {xs : Nat → Int32} {L : pLs} {M : pMem} {st : List Value} {sh : pSh}
theorem ls_ld {pc : Nat} {j : Fin 4} {v : Value} (hv : (∃ x, v = .ref x) ∨ v = .retAddr 1) (hL : pLd L j = some v) (hc : pLook kL_law pc = some (.aload_n j, 1)) (K : lOk (some (n, xs)) d (pc + 1, L, v :: st, sh, M)) : lOk (some (n, xs)) d (pc, L, st, sh, M) := by
  refine ok_step hc ?_ K
  show pLoadA j 1 pc L st sh M = _
  unfold pLoadA
  rw [hL]
  rcases hv with ⟨x, rfl⟩ | rfl <;> rfl
/-- both cells of the script -/
theorem ls_two {pc o : Nat} (hn : n ≤ 3074) (hd : 1 ≤ d) (hL : pLd L 0 = some (.retAddr 1)) (hc : pLook kL_law pc = some (.aload_n 0, 1) ∧ pLook kL_law (pc + 1) = some (.iconst 0, 1) ∧ pLook kL_law (pc + 2) = some (.invokestatic 9, 3) ∧ pLook kL_law (pc + 5) = some (.aload_n 0, 1) ∧ pLook kL_law (pc + 6) = some (.iconst 1, 1) ∧ pLook kL_law (pc + 7) = some (.invokestatic 9, 3)) (K : lOk (some (n, xs)) d (pc + 10, L, [.int (sx n xs 1), .int (sx n xs 0), .ref o, .ref o], sh, M)) : lOk (some (n, xs)) d (pc, L, [.ref o, .ref o], sh, M) := by
  obtain ⟨c1, c2, c3, c4, c5, c6⟩ := hc
  refine ls_ld (Or.inr rfl) hL c1 ?_
  refine ok_step (σ := (pc + 2, L, [.int (nI 0), .retAddr 1, .ref o, .ref o], sh, M)) c2 (by rw [← cI_0]; rfl) ?_
  refine ok_call (mi := 286) (as := [.retAddr 1, .int (nI 0)]) (pc' := pc + 5) (L' := L) (st' := [.ref o, .ref o]) (sh' := sh) (M' := M) c3 rfl (((c_cell (d := 0) hn (by decide)).deep hd).mono ?_)
  rintro v hp ⟨rfl, rfl⟩
  refine ls_ld (Or.inr rfl) hL c4 ?_
  refine ok_step (σ := (pc + 7, L, [.int (nI 1), .retAddr 1, .int (sx n xs 0), .ref o, .ref o], sh, M)) c5 (by rw [← cI_1]; rfl) ?_
  refine ok_call (mi := 286) (as := [.retAddr 1, .int (nI 1)]) (pc' := pc + 10) (L' := L) (st' := [.int (sx n xs 0), .ref o, .ref o]) (sh' := sh) (M' := M) c6 rfl (((c_cell (d := 0) hn (by decide)).deep hd).mono ?_)
  rintro v hp ⟨rfl, rfl⟩
  exact K
end LST
theorem gv0 {L : pLs} {M : pMem} {i : Nat} {v : Value} (hi : i < 1000000) (h : gv L M i = some v) : pLd L i = some v := by
  rw [gv_loc] at h
  · exact h
  · cases e : Nat.ble 1000000 i with
    | true =>
      have := Nat.le_of_ble_eq_true e
      omega
    | false => rfl
theorem rowAt_ge {r : List (Nat × aE)} {n k : Nat} {e : aE} (h : r.all (fun q => Nat.ble q.1 n) = true) (hk : n ≤ k) (he : rowAt r k = some e) : False := by
  rw [rowEnd h k hk] at he
  cases he
theorem start2 {τ : fT} {n f d : Nat} {w h : aE} {xs : Nat → Int32} (ht : fTau τ) (hn : n ≤ 3074) (hd1 : 1 ≤ d) (hd : d ≤ 1000) (hw : satE w (.int (sx n xs 0))) (hh : satE h (.int (sx n xs 1))) (h0 : (τ 0).all (fun q => Nat.ble q.1 9) = true) (h185 : (τ 185).all (fun q => Nat.ble q.1 47) = true) (hdf : defA τ = true) (hB : rB τ f d w h = true) (hD : rD τ f d w h = true) (hE : ∀ σ, gSat τ 36 gC [] [] [] 205 σ → lOk (some (n, xs)) d σ) : pLaw n xs := by
  refine pLaw_of_ok hd (lOk_end ?_)
  refine ok_step (i := .new 7) (len := 3) (σ := (3, [(0, .retAddr 1)], [.ref 0], [(11, 9)], pNew (fun _ _ => .null) 0 (pDefF 11))) rfl rfl ?_
  refine ok_step (i := .dup) (len := 1) (σ := (4, [(0, .retAddr 1)], [.ref 0, .ref 0], [(11, 9)], pNew (fun _ _ => .null) 0 (pDefF 11))) rfl rfl ?_
  refine ls_two hn hd1 rfl ⟨rfl, rfl, rfl, rfl, rfl, rfl⟩ ?_
  refine lOk_to (ps := []) (pv := []) ht trivial x_none hB (G := gA) (Bs := b14 w h) (br := br14) (n := 1) ?_ (fun σ2 h2 => ?_)
  · refine ⟨rfl, fun q hq => ?_, ⟨hh, hw, sat0 0, sat0 0, trivial⟩, rfl, by decide, fun o k e ho hb he => ?_, fun q hq => by cases hq⟩
    · rw [List.mem_singleton.mp hq]
      exact ⟨.retAddr 1, rfl, rfl⟩
    · have e0 : o = 0 := by omega
      subst e0
      rw [tyAt_row ht] at he
      refine (rowAt_ge h0 ?_ he).elim
      rcases Nat.lt_or_ge k 9 with hk | hk
      · exact absurd (List.mem_map.mpr ⟨k, List.mem_range.mpr hk, rfl⟩) hb
      · exact hk
  · obtain ⟨pc2, L, st, sh, M⟩ := σ2
    obtain ⟨g1, g2, g3, g4, -, g6, -⟩ := h2
    have g1 : pc2 = 18 := g1
    subst g1
    have g4 : sh = gSh.take 185 := g4
    subst g4
    obtain ⟨v0, l0, s0⟩ := g2 (0, (3, 0, 0, [])) List.mem_cons_self
    have s0 : v0 = .retAddr 1 := s0
    subst s0
    have l0 := gv0 (by decide) l0
    obtain ⟨v1, l1, s1⟩ := g2 (1, (1, 0, 0, [0])) (List.mem_cons_of_mem _ List.mem_cons_self)
    have s1 := ty_ref s1
    subst s1
    have l1 := gv0 (by decide) l1
    have g3 : st = [] := by
      cases st with
      | nil => rfl
      | cons _ _ => exact g3.elim
    subst g3
    refine ok_step (i := .new 18) (len := 3) (σ := (21, L, [.ref (gSh.take 185).length], gSh.take 185 ++ [(12, 47)], pNew M (gSh.take 185).length (pDefF 12))) rfl rfl ?_
    rw [len185, app186]
    refine ok_step (i := .dup) (len := 1) (σ := (22, L, [.ref 185, .ref 185], gSh.take 186, pNew M 185 (pDefF 12))) rfl rfl ?_
    refine ls_two hn hd1 l0 ⟨rfl, rfl, rfl, rfl, rfl, rfl⟩ ?_
    refine lOk_to (ps := []) (pv := []) ht trivial x_none hD (G := gB) (Bs := b32 w h) (br := br32) (n := 186) ?_ hE
    refine ⟨rfl, fun q hq => ?_, ⟨hh, hw, sat0 185, sat0 185, trivial⟩, rfl, by decide, fun o k e ho hb he => ?_, fun q hq => by cases hq⟩
    · rcases List.mem_cons.mp hq with rfl | hq
      · exact ⟨.retAddr 1, (gv_loc rfl).trans l0, rfl⟩
      · rw [List.mem_singleton.mp hq]
        exact ⟨.ref 0, (gv_loc rfl).trans l1, sat0 0⟩
    · rcases Nat.lt_or_ge o 185 with ho2 | ho2
      · show satE e (pNew M 185 (pDefF 12) o k)
        rw [pNew_lt o k ho2]
        exact g6 o k e ho2 List.not_mem_nil he
      · have e0 : o = 185 := by omega
        subst e0
        rw [tyAt_row ht] at he
        have he : rowAt (τ 185) k = some e := he
        have hk : k < 47 := by
          rcases Nat.lt_or_ge k 47 with hk | hk
          · exact hk
          · exact (rowAt_ge h185 hk he).elim
        have h1 := List.all_eq_true.mp hdf k (List.mem_range.mpr hk)
        rcases Bool.or_eq_true_iff.mp h1 with h1 | h1
        · exact absurd (of_decide_eq_true h1) hb
        · rw [he] at h1
          exact defB_ok h1
/-! what holds on a fresh board -/
noncomputable def exV (τ : fT) (o k : Nat) : Option Int := match rowAt (τ o) k with
  | some (0, lo, hi, _) => if lo = hi then some lo else none
  | _ => none
theorem exV_ok {τ : fT} {M : pMem} {o k : Nat} {v : Int} (ht : fTau τ) (hM : tyM (tOf τ) M) (ho : o < 205) (h : exV τ o k = some v) : ∃ z : Int32, M o k = .int z ∧ z.toInt = v := by
  unfold exV at h
  split at h
  · rename_i lo hi x he
    split at h
    · rename_i e
      cases h
      subst e
      obtain ⟨z, hz, z1, z2⟩ := ty_int (hM o k _ ho (by rw [tyAt_row ht]; exact he))
      exact ⟨z, hz, by omega⟩
    · cases h
  · cases h
noncomputable def tenB (τ : fT) (o : Nat) : Bool := (List.range 4).all (fun w => match exV τ o (160 + 4 * w), exV τ o (160 + 4 * w + 1), exV τ o (160 + 4 * w + 2), exV τ o (160 + 4 * w + 3) with
  | some a, some b, some c, some d => decide ((0 ≤ a ∧ a ≤ 10) ∧ (0 ≤ b ∧ b ≤ 10) ∧ (0 ≤ c ∧ c ≤ 10) ∧ (0 ≤ d ∧ d ≤ 10) ∧ a + b + c + d = 10)
  | _, _, _, _ => false)
theorem tenB_ok {τ : fT} {M : pMem} {o : Nat} {f : Nat → Value} (ht : fTau τ) (hM : tyM (tOf τ) M) (ho : o < 205) (h : tenB τ o = true) (hf : ∀ k, 160 ≤ k → k < 176 → f k = M o k) : tenOk f := by
  intro w hw
  have h1 := List.all_eq_true.mp h w (List.mem_range.mpr hw)
  split at h1
  · rename_i a b c d ea eb ec ed
    obtain ⟨k1, k2, k3, k4, k5⟩ := of_decide_eq_true h1
    obtain ⟨za, a1, a2⟩ := exV_ok ht hM ho ea
    obtain ⟨zb, b1, b2⟩ := exV_ok ht hM ho eb
    obtain ⟨zc, c1, c2⟩ := exV_ok ht hM ho ec
    obtain ⟨zd, d1, d2⟩ := exV_ok ht hM ho ed
    have fa : f (160 + 4 * w) = .int za := (hf _ (by omega) (by omega)).trans a1
    have fb : f (160 + 4 * w + 1) = .int zb := (hf _ (by omega) (by omega)).trans b1
    have fc : f (160 + 4 * w + 2) = .int zc := (hf _ (by omega) (by omega)).trans c1
    have fd : f (160 + 4 * w + 3) = .int zd := (hf _ (by omega) (by omega)).trans d1
    refine ⟨fun j hj => ?_, ?_⟩
    · match j, hj with
      | 0, _ =>
        rw [show 160 + 4 * w + 0 = 160 + 4 * w from rfl, fa]
        exact ⟨⟨za, rfl⟩, by show 0 ≤ za.toInt; omega, by show za.toInt ≤ 10; omega⟩
      | 1, _ =>
        rw [fb]
        exact ⟨⟨zb, rfl⟩, by show 0 ≤ zb.toInt; omega, by show zb.toInt ≤ 10; omega⟩
      | 2, _ =>
        rw [fc]
        exact ⟨⟨zc, rfl⟩, by show 0 ≤ zc.toInt; omega, by show zc.toInt ≤ 10; omega⟩
      | 3, _ =>
        rw [fd]
        exact ⟨⟨zd, rfl⟩, by show 0 ≤ zd.toInt; omega, by show zd.toInt ≤ 10; omega⟩
      | j + 4, hj => omega
    · rw [fa, fb, fc, fd]
      show za.toInt + zb.toInt + zc.toInt + zd.toInt = 10
      omega
  · cases h1
noncomputable def frB (τ : fT) : Bool := tenB τ 186 && (tenB τ 187 && (List.range 4).all (fun s => decide (exV τ 188 (800 * s) = some 0)))
theorem frB_ok {τ : fT} {M : pMem} (ht : fTau τ) (hM : tyM (tOf τ) M) (h : frB τ = true) : gR M := by
  obtain ⟨h1, h2⟩ := Bool.and_eq_true_iff.mp h
  obtain ⟨h2, h3⟩ := Bool.and_eq_true_iff.mp h2
  refine ⟨tenB_ok ht hM (by decide) h1 ?_, tenB_ok ht hM (by decide) h2 (fun _ _ _ => rfl), fun s hs => ?_⟩
  · intro k k1 k2
    have e : prK k = true := by
      show bI (Nat.ble k 159) false (Nat.ble k 175) = true
      have e1 : Nat.ble k 159 = false := by
        cases e1 : Nat.ble k 159 with
        | true =>
          have := Nat.le_of_ble_eq_true e1
          omega
        | false => rfl
      rw [e1]
      exact Nat.ble_eq_true_of_le (by omega)
    show @Bool.rec (fun _ => Value) .null (M 186 k) (prK k) = M 186 k
    rw [e]
  · have h4 := of_decide_eq_true (List.all_eq_true.mp h3 s (List.mem_range.mpr hs))
    obtain ⟨z, z1, z2⟩ := exV_ok ht hM (by decide) h4
    refine ⟨0, by decide, ?_, fun c hc => by omega⟩
    rw [z1, ← Int32.ofInt_toInt z, z2]
    rfl
/-- from the start to the loop -/
theorem start3 {τ τ' : fT} {n d z : Nat} {xs : Nat → Int32} (ht : fTau τ) (ht' : fTau τ') (hn : n ≤ 3074) (hle : fTauLe τ τ' 205 = true) (hfr : frB τ = true) (hz1 : exV τ 2 2 = some (z : Int)) (hz2 : exV τ 185 2 = some (z : Int)) (hW : LW τ' (some (n, xs)) d) : ∀ σ, gSat τ 36 gC [] [] [] 205 σ → lOk (some (n, xs)) d σ := by
  rintro ⟨pc2, L, st, sh, M⟩ ⟨g1, g2, g3, g4, -, g6, -⟩
  have g1 : pc2 = 36 := g1
  subst g1
  have g4 : sh = gSh := (show sh = gSh.take 205 from g4).trans gSh_full
  subst g4
  have g3 : st = [] := by
    cases st with
    | nil => rfl
    | cons _ _ => exact g3.elim
  subst g3
  have hM : tyM (tOf τ) M := fun o k e ho he => g6 o k e ho List.not_mem_nil he
  obtain ⟨v0, l0, s0⟩ := g2 (0, (3, 0, 0, [])) List.mem_cons_self
  have s0 : v0 = .retAddr 1 := s0
  subst s0
  obtain ⟨v1, l1, s1⟩ := g2 (1, (1, 0, 0, [0])) (List.mem_cons_of_mem _ List.mem_cons_self)
  have s1 := ty_ref s1
  subst s1
  obtain ⟨v2, l2, s2⟩ := g2 (2, (1, 0, 0, [185])) (List.mem_cons_of_mem _ (List.mem_cons_of_mem _ List.mem_cons_self))
  have s2 := ty_ref s2
  subst s2
  obtain ⟨y1, y2, y3⟩ := exV_ok ht hM (by decide) hz1
  obtain ⟨x1, x2, x3⟩ := exV_ok ht hM (by decide) hz2
  have e : y1 = x1 := by rw [← Int32.ofInt_toInt y1, ← Int32.ofInt_toInt x1, y3, x3]
  have hJ : JM τ' M := ⟨tyM_le ht ht' hle hM, frB_ok ht hM hfr, by rw [y2, x2, e]⟩
  refine ok_step (i := .iconst 2) (len := 1) (σ := (37, L, [.int (nI 2)], gSh, M)) rfl (by rw [← cI_2]; rfl) ?_
  refine ok_step (i := .istore_n 3) (len := 1) (σ := (38, pS1 L 3 (.int (nI 2)), [], gSh, M)) rfl rfl ?_
  exact law_loop hn hW n 2 _ M (by omega) (by omega) (LI_put ⟨gv0 (by decide) l0, gv0 (by decide) l1, gv0 (by decide) l2⟩) hJ
/-! what the loop wants, out of the contracts of a width -/
theorem cJ_text {τ : fT} {S : pScr} {dN d : Nat} (hT : pT τ) (hH : PH τ S dN) (h2 : rowAt (τ 186) 2 = some (0, 0, 4, [])) (hd : dN + 11 ≤ d) : cJn τ S d 204 185 0 := by
  intro as ha M hM hg
  cases as with
  | cons _ _ => cases ha
  | nil =>
    obtain ⟨s, hs, e⟩ := ty_nat (hM 186 2 _ (by decide) (by rw [tyAt_row hT.1]; exact h2))
    refine ((c_text (d := 0) hT hH hg hM (by omega) e).deep (by omega)).mono ?_
    rintro v hp ⟨k1, kz, k3, k4, -⟩
    exact ⟨k1, k3, k4, kz⟩
theorem cJ_chances {τ : fT} {S : pScr} {d : Nat} (hT : pT τ) (hR : ∀ k, k < 16 → rowAt (τ 186) (160 + k) = some (0, 0, 10, [])) (hd : 3 ≤ d) : cJn τ S d 168 185 5 := by
  intro as ha M hM hg
  match as, ha with
  | [a, b, c, e, f], _ =>
    refine ((c_chances (d := 0) hT (fun k h1 h2 => ?_) hM hg).deep hd).mono ?_
    · have := hR (k - 160) (by omega)
      rwa [show 160 + (k - 160) = k by omega] at this
    · rintro v hp ⟨k1, ⟨z, -, kz⟩, k3, k4, -⟩
      exact ⟨k1, k3, k4, _, kz⟩
theorem cJ_image {τ : fT} {S : pScr} {d : Nat} (hT : pT τ) (hI : pI τ) (hd : 2 ≤ d) : cJn τ S d 283 185 0 := by
  intro as ha M hM hg
  cases as with
  | cons _ _ => cases ha
  | nil =>
    refine ((c_image (d := 0) hT hI hM hg).deep hd).mono ?_
    rintro v hp ⟨k1, ⟨z, kz, -⟩, k3, k4, -⟩
    exact ⟨k1, k3, k4, _, kz⟩
theorem cJ_back {τ : fT} {S : pScr} {d : Nat} (hT : pT τ) (hI : pI τ) (hd : 2 ≤ d) : cJn τ S d 284 185 0 := by
  intro as ha M hM hg
  cases as with
  | cons _ _ => cases ha
  | nil =>
    refine ((c_back (d := 0) hT hI hM hg).deep hd).mono ?_
    rintro v hp ⟨k1, ⟨z, kz, -⟩, k3, k4, -⟩
    exact ⟨k1, k3, k4, _, kz⟩
def pVL : List ((Nat × Nat) × aE) := [((0, 0), (1, 0, 0, [1])), ((1, 0), (1, 0, 0, [2])), ((2, 3), (1, 0, 0, [3])), ((185, 3), (1, 0, 0, [186]))]
def pV (τ : fT) (lo hi : Nat) : Prop := fTau τ ∧ (∀ q ∈ pVL, rowAt (τ q.1.1) q.1.2 = some q.2) ∧ rowAt (τ 2) 2 = some (0, (lo : Int), (hi : Int), []) ∧ 1 ≤ lo ∧ hi ≤ 36
theorem pvy {τ : fT} {lo hi : Nat} {M : pMem} (hT : pV τ lo hi) (hM : tyM (tOf τ) M) (i : Nat) {o k : Nat} {e : aE} (h : pVL[i]? = some ((o, k), e)) (ho : Nat.ble (o + 1) 205 = true) : satE e (M o k) := hM o k e (Nat.le_of_ble_eq_true ho) (by rw [tyAt_row hT.1]; exact hT.2.1 _ (List.mem_of_getElem? h))
theorem ice_l {τ : fT} {S : pScr} {lo hi d : Nat} (hV : pV τ lo hi) (hd : 2 ≤ d) : ∀ M, JM τ M → ∃ z : Nat, (1 ≤ z ∧ z ≤ 36) ∧ (∀ x y : Int32, cOk S d 111 [.ref 0, .int x, .int y] (gSh, M) (fun r _ => iceA z x y r)) ∧ M 185 2 = .int (nI z) := by
  intro M hJ
  obtain ⟨y, h1, h2, h3⟩ := ty_int (hJ.1 2 2 _ (by decide) (by rw [tyAt_row hV.1]; exact hV.2.2.1))
  obtain ⟨z, z1, rfl, z3⟩ := i32_nat (x := y) (by omega)
  have := hV.2.2.2
  refine ⟨z, ⟨by omega, by omega⟩, fun x y => ?_, hJ.2.2.symm.trans h1⟩
  exact (c_ice11 (d := 0) (ty_ref (pvy hV hJ.1 0 rfl rfl)) (ty_ref (pvy hV hJ.1 1 rfl rfl)) (ty_ref (pvy hV hJ.1 2 rfl rfl)) h1 (by omega)).deep hd
theorem ice_r {τ : fT} {S : pScr} {lo hi d : Nat} (hV : pV τ lo hi) (hd : 3 ≤ d) : ∀ (M : pMem) (z : Nat), 1 ≤ z ∧ z ≤ 36 → JM τ M → M 185 2 = .int (nI z) → ∀ x y : Int32, cOk S d 163 [.ref 185, .int x, .int y] (gSh, M) (fun r _ => iceA z x y r) := fun M z hz0 hJ hz x y => (c_ice12 (d := 0) (ty_ref (pvy hV hJ.1 3 rfl rfl)) hz hz0.1 hz0.2).deep hd
theorem sat_b {b : Nat} (h : b ≤ 1) : satE (0, 0, 1, []) (.int (nI b)) := sat_n (by omega) (by omega)

/-! ice answers by its arguments and the size; the law's loop; printed by wip/gen/gen63.py -/
theorem c_within {S : pScr} {d : Nat} {M : pMem} {x lo hi : Int32} : cOk S (d + 1) 154 [.int x, .int lo, .int hi] (gSh, M) (fun r hp => ((r = some (.int (nI 1)) ∧ lo.toInt ≤ x.toInt ∧ x.toInt ≤ hi.toInt) ∨ (r = some (.int (nI 0)) ∧ ¬ (lo.toInt ≤ x.toInt ∧ x.toInt ≤ hi.toInt))) ∧ hp = (gSh, M)) := by
  refine c_of_ok (Nat.le_of_ble_eq_true rfl) ?_
  refine ok_seq 2 (σ' := (2, [(0, .int x), (1, .int lo), (2, .int hi)], [.int lo, .int x], gSh, M)) rfl ?_
  refine ok_icmp 14 rfl rfl ?_ ?_
  · intro b1
    simp only [pCP] at b1
    have b1 : (x).toInt < (lo).toInt := by omega
    refine ok_seq 1 (σ' := (15, [(0, .int x), (1, .int lo), (2, .int hi)], [.int (Int32.ofInt 0)], gSh, M)) rfl ?_
    rw [cI_0]
    exact ok_ret (i := .ireturn) (len := 1) rfl rfl ⟨some (.int (nI 0)), pb0, Or.inr ⟨rfl, fun hz => by omega⟩, rfl⟩
  · intro b1
    simp only [pCP] at b1
    have b1 : (x).toInt ≥ (lo).toInt := by omega
    refine ok_seq 2 (σ' := (7, [(0, .int x), (1, .int lo), (2, .int hi)], [.int hi, .int x], gSh, M)) rfl ?_
    refine ok_icmp 14 rfl rfl ?_ ?_
    · intro b2
      simp only [pCP] at b2
      have b2 : (x).toInt > (hi).toInt := by omega
      refine ok_seq 1 (σ' := (15, [(0, .int x), (1, .int lo), (2, .int hi)], [.int (Int32.ofInt 0)], gSh, M)) rfl ?_
      rw [cI_0]
      exact ok_ret (i := .ireturn) (len := 1) rfl rfl ⟨some (.int (nI 0)), pb0, Or.inr ⟨rfl, fun hz => by omega⟩, rfl⟩
    · intro b2
      simp only [pCP] at b2
      have b2 : (x).toInt ≤ (hi).toInt := by omega
      refine ok_seq 2 (σ' := (15, [(0, .int x), (1, .int lo), (2, .int hi)], [.int (Int32.ofInt 1)], gSh, M)) rfl ?_
      rw [cI_1]
      exact ok_ret (i := .ireturn) (len := 1) rfl rfl ⟨some (.int (nI 1)), pb1, Or.inl ⟨rfl, by omega, by omega⟩, rfl⟩
theorem c_has {S : pScr} {d z : Nat} {M : pMem} {x : Int32} (hz : M 2 2 = .int (nI z)) (hz2 : z ≤ 36) : cOk S (d + 1) 66 [.ref 2, .int x] (gSh, M) (fun r hp => ((r = some (.int (nI 1)) ∧ 0 ≤ x.toInt ∧ x.toInt < (z : Int)) ∨ (r = some (.int (nI 0)) ∧ ¬ (0 ≤ x.toInt ∧ x.toInt < (z : Int)))) ∧ hp = (gSh, M)) := by
  refine c_of_ok (Nat.le_of_ble_eq_true rfl) ?_
  refine ok_seq 1 (σ' := (1, [(0, .ref 2), (1, .int x)], [.int x], gSh, M)) rfl ?_
  refine ok_if 16 rfl rfl ?_ ?_
  · intro b1
    simp only [pCP] at b1
    have b1 : (x).toInt < (0 : Int) := by omega
    refine ok_seq 1 (σ' := (17, [(0, .ref 2), (1, .int x)], [.int (Int32.ofInt 0)], gSh, M)) rfl ?_
    rw [cI_0]
    exact ok_ret (i := .ireturn) (len := 1) rfl rfl ⟨some (.int (nI 0)), pb0, Or.inr ⟨rfl, fun hz => by omega⟩, rfl⟩
  · intro b1
    simp only [pCP] at b1
    have b1 : (x).toInt ≥ (0 : Int) := by omega
    refine ok_seq 3 (σ' := (9, [(0, .ref 2), (1, .int x)], [M 2 2, .int x], gSh, M)) rfl ?_
    rw [hz]
    refine ok_icmp 16 rfl rfl ?_ ?_
    · intro b2
      simp only [pCP] at b2
      rw [hI_int (a := z) (by omega)] at b2
      have b2 : (x).toInt ≥ ((z : Nat) : Int) := by omega
      refine ok_seq 1 (σ' := (17, [(0, .ref 2), (1, .int x)], [.int (Int32.ofInt 0)], gSh, M)) rfl ?_
      rw [cI_0]
      exact ok_ret (i := .ireturn) (len := 1) rfl rfl ⟨some (.int (nI 0)), pb0, Or.inr ⟨rfl, fun hz => by omega⟩, rfl⟩
    · intro b2
      simp only [pCP] at b2
      rw [hI_int (a := z) (by omega)] at b2
      have b2 : (x).toInt < ((z : Nat) : Int) := by omega
      refine ok_seq 2 (σ' := (17, [(0, .ref 2), (1, .int x)], [.int (Int32.ofInt 1)], gSh, M)) rfl ?_
      rw [cI_1]
      exact ok_ret (i := .ireturn) (len := 1) rfl rfl ⟨some (.int (nI 1)), pb1, Or.inl ⟨rfl, by omega, by omega⟩, rfl⟩
theorem c_isCell2 {S : pScr} {d z : Nat} {M : pMem} {x : Int32} (hz : M 185 2 = .int (nI z)) (hz1 : 1 ≤ z) (hz2 : z ≤ 36) : cOk S (d + 2) 159 [.ref 185, .int x] (gSh, M) (fun r hp => ((r = some (.int (nI 1)) ∧ 0 ≤ x.toInt ∧ x.toInt < (z : Int)) ∨ (r = some (.int (nI 0)) ∧ ¬ (0 ≤ x.toInt ∧ x.toInt < (z : Int)))) ∧ hp = (gSh, M)) := by
  refine c_of_ok (Nat.le_of_ble_eq_true rfl) ?_
  refine ok_seq 4 (σ' := (6, [(0, .ref 185), (1, .int x)], [M 185 2, .int (Int32.ofInt 0), .int x], gSh, M)) rfl ?_
  rw [hz]
  rw [cI_0]
  refine ok_seq 2 (σ' := (8, [(0, .ref 185), (1, .int x)], [.int ((nI z) - (Int32.ofInt 1)), .int (nI 0), .int x], gSh, M)) rfl ?_
  rw [cI_1, hI_sub z 1 (by omega)]
  refine ok_call (mi := 158) (as := [.int x, .int (nI 0), .int (nI (z - 1))]) (pc' := 11) (L' := [(0, .ref 185), (1, .int x)]) (st' := []) (sh' := gSh) (M' := M) (i := .invokestatic 90) (len := 3) rfl rfl ?_
  refine ((c_isIn (d := d))).mono ?_
  rintro v hp ⟨hv, rfl⟩
  rcases hv with ⟨rfl, k1, k2⟩ | ⟨rfl, k1⟩
  · rw [hI_int (a := z - 1) (by omega)] at k2
    rw [hI_int (a := 0) (by omega)] at k1
    exact ok_ret (i := .ireturn) (len := 1) rfl rfl ⟨some (.int (nI 1)), pb1, Or.inl ⟨rfl, by omega, by omega⟩, rfl⟩
  · rw [hI_int (a := z - 1) (by omega), hI_int (a := 0) (by omega)] at k1
    exact ok_ret (i := .ireturn) (len := 1) rfl rfl ⟨some (.int (nI 0)), pb0, Or.inr ⟨rfl, fun hz => k1 (by omega)⟩, rfl⟩
def iceP (z : Nat) (x y : Int32) : Prop := (0 ≤ x.toInt ∧ x.toInt < (z : Int)) ∧ 0 ≤ y.toInt ∧ y.toInt ≤ 99
def iceA (z : Nat) (x y : Int32) (r : Option Value) : Prop := (r = some (.int (nI 1)) ∧ iceP z x y) ∨ (r = some (.int (nI 0)) ∧ ¬ iceP z x y)
theorem c_ice11 {S : pScr} {d z : Nat} {M : pMem} {x y : Int32} (hn : M 0 0 = .ref 1) (hs : M 1 0 = .ref 2) (hi : M 2 3 = .ref 3) (hz : M 2 2 = .int (nI z)) (hz2 : z ≤ 36) : cOk S (d + 2) 111 [.ref 0, .int x, .int y] (gSh, M) (fun r _ => iceA z x y r) := by
  refine c_of_ok (Nat.le_of_ble_eq_true rfl) ?_
  refine ok_seq 2 (σ' := (4, [(0, .ref 0), (1, .int x), (2, .int y)], [M 0 0], gSh, M)) rfl ?_
  rw [hn]
  refine ok_seq 1 (σ' := (7, [(0, .ref 0), (1, .int x), (2, .int y)], [M 1 0], gSh, M)) rfl ?_
  rw [hs]
  refine ok_seq 1 (σ' := (8, [(0, .ref 0), (1, .int x), (2, .int y)], [.int x, .ref 2], gSh, M)) rfl ?_
  refine ok_call (mi := 66) (as := [.ref 2, .int x]) (pc' := 11) (L' := [(0, .ref 0), (1, .int x), (2, .int y)]) (st' := []) (sh' := gSh) (M' := M) (i := .invokevirtual 86) (len := 3) rfl rfl ?_
  refine ((c_has (d := d) hz hz2)).mono ?_
  rintro v hp ⟨hv, rfl⟩
  rcases hv with ⟨rfl, k1, k2⟩ | ⟨rfl, k1⟩
  · refine ok_if 24 rfl rfl (fun hz => absurd hz (by simp only [pCP]; rw [hI_int (a := 1) (by omega)]; omega)) (fun _ => ?_)
    refine ok_seq 3 (σ' := (18, [(0, .ref 0), (1, .int x), (2, .int y)], [.int ((Int8.ofInt 99).toInt32), .int (Int32.ofInt 0), .int y], gSh, M)) rfl ?_
    rw [cI_0, (show (Int8.ofInt 99).toInt32 = nI 99 by decide)]
    refine ok_call (mi := 154) (as := [.int y, .int (nI 0), .int (nI 99)]) (pc' := 21) (L' := [(0, .ref 0), (1, .int x), (2, .int y)]) (st' := []) (sh' := gSh) (M' := M) (i := .invokestatic 92) (len := 3) rfl rfl ?_
    refine ((c_within (d := d))).mono ?_
    rintro v hp ⟨hv, rfl⟩
    rcases hv with ⟨rfl, k3, k4⟩ | ⟨rfl, k3⟩
    · rw [hI_int (a := 99) (by omega)] at k4
      rw [hI_int (a := 0) (by omega)] at k3
      refine ok_if 26 rfl rfl (fun _ => ?_) (fun hz => absurd (by simp only [pCP]; rw [hI_int (a := 1) (by omega)]; omega) hz)
      obtain ⟨c, c1, rfl, c2⟩ := i32_nat k1
      refine ok_seq 2 (σ' := (30, [(0, .ref 0), (1, .int (nI c)), (2, .int y)], [M 0 0], gSh, M)) rfl ?_
      rw [hn]
      refine ok_seq 1 (σ' := (33, [(0, .ref 0), (1, .int (nI c)), (2, .int y)], [M 1 0], gSh, M)) rfl ?_
      rw [hs]
      refine ok_seq 1 (σ' := (36, [(0, .ref 0), (1, .int (nI c)), (2, .int y)], [M 2 3], gSh, M)) rfl ?_
      rw [hi]
      refine ok_seq 2 (σ' := (38, [(0, .ref 0), (1, .int (nI c)), (2, .int y)], [.int y, .int (nI c), .ref 3], gSh, M)) rfl ?_
      refine ok_iast (n := 36) rfl rfl (hI_in (by omega) (by decide)) ?_
      rw [hI_nat (a := c) (by omega)]
      refine ok_seq 1 (σ' := (40, [(0, .ref 0), (1, .int (nI c)), (2, .int y)], [.int (Int32.ofInt 1)], gSh, pUp M 3 c (.int y))) rfl ?_
      rw [cI_1]
      exact ok_ret (i := .ireturn) (len := 1) rfl rfl ⟨some (.int (nI 1)), pb1, Or.inl ⟨rfl, ⟨by omega, by omega⟩, by omega, by omega⟩⟩
    · rw [hI_int (a := 99) (by omega), hI_int (a := 0) (by omega)] at k3
      refine ok_if 26 rfl rfl (fun hz => absurd hz (by simp only [pCP]; rw [hI_int (a := 0) (by omega)]; omega)) (fun _ => ?_)
      refine ok_seq 1 (σ' := (25, [(0, .ref 0), (1, .int x), (2, .int y)], [.int (Int32.ofInt 0)], gSh, M)) rfl ?_
      rw [cI_0]
      exact ok_ret (i := .ireturn) (len := 1) rfl rfl ⟨some (.int (nI 0)), pb0, Or.inr ⟨rfl, fun hz => k3 (by have := hz.2; omega)⟩⟩
  · refine ok_if 24 rfl rfl (fun _ => ?_) (fun hz => absurd (by simp only [pCP]; rw [hI_int (a := 0) (by omega)]; omega) hz)
    refine ok_seq 1 (σ' := (25, [(0, .ref 0), (1, .int x), (2, .int y)], [.int (Int32.ofInt 0)], gSh, M)) rfl ?_
    rw [cI_0]
    exact ok_ret (i := .ireturn) (len := 1) rfl rfl ⟨some (.int (nI 0)), pb0, Or.inr ⟨rfl, fun hz => k1 hz.1⟩⟩
theorem c_ice12 {S : pScr} {d z : Nat} {M : pMem} {x y : Int32} (ha : M 185 3 = .ref 186) (hz : M 185 2 = .int (nI z)) (hz1 : 1 ≤ z) (hz2 : z ≤ 36) : cOk S (d + 3) 163 [.ref 185, .int x, .int y] (gSh, M) (fun r _ => iceA z x y r) := by
  refine c_of_ok (Nat.le_of_ble_eq_true rfl) ?_
  refine ok_seq 2 (σ' := (2, [(0, .ref 185), (1, .int x), (2, .int y)], [.int x, .ref 185], gSh, M)) rfl ?_
  refine ok_call (mi := 159) (as := [.ref 185, .int x]) (pc' := 5) (L' := [(0, .ref 185), (1, .int x), (2, .int y)]) (st' := []) (sh' := gSh) (M' := M) (i := .invokevirtual 98) (len := 3) rfl rfl ?_
  refine ((c_isCell2 (d := d) hz hz1 hz2)).mono ?_
  rintro v hp ⟨hv, rfl⟩
  rcases hv with ⟨rfl, k1, k2⟩ | ⟨rfl, k1⟩
  · refine ok_if 18 rfl rfl (fun hz => absurd hz (by simp only [pCP]; rw [hI_int (a := 1) (by omega)]; omega)) (fun _ => ?_)
    refine ok_seq 3 (σ' := (12, [(0, .ref 185), (1, .int x), (2, .int y)], [.int ((Int8.ofInt 99).toInt32), .int (Int32.ofInt 0), .int y], gSh, M)) rfl ?_
    rw [cI_0, (show (Int8.ofInt 99).toInt32 = nI 99 by decide)]
    refine ok_call (mi := 158) (as := [.int y, .int (nI 0), .int (nI 99)]) (pc' := 15) (L' := [(0, .ref 185), (1, .int x), (2, .int y)]) (st' := []) (sh' := gSh) (M' := M) (i := .invokestatic 90) (len := 3) rfl rfl ?_
    refine (((c_isIn (d := 0)).deep (by omega))).mono ?_
    rintro v hp ⟨hv, rfl⟩
    rcases hv with ⟨rfl, k3, k4⟩ | ⟨rfl, k3⟩
    · rw [hI_int (a := 99) (by omega)] at k4
      rw [hI_int (a := 0) (by omega)] at k3
      refine ok_if 20 rfl rfl (fun _ => ?_) (fun hz => absurd (by simp only [pCP]; rw [hI_int (a := 1) (by omega)]; omega) hz)
      obtain ⟨c, c1, rfl, c2⟩ := i32_nat k1
      refine ok_seq 2 (σ' := (24, [(0, .ref 185), (1, .int (nI c)), (2, .int y)], [M 185 3], gSh, M)) rfl ?_
      rw [ha]
      refine ok_seq 4 (σ' := (29, [(0, .ref 185), (1, .int (nI c)), (2, .int y)], [.int y, .int (((Int8.ofInt 30).toInt32) + (nI c)), .ref 186], gSh, M)) rfl ?_
      rw [(show (Int8.ofInt 30).toInt32 = nI 30 by decide), hI_add 30 c]
      refine ok_iast (n := 280) rfl rfl (hI_in (by omega) (by decide)) ?_
      rw [hI_nat (a := 30 + c) (by omega)]
      refine ok_seq 1 (σ' := (31, [(0, .ref 185), (1, .int (nI c)), (2, .int y)], [.int (Int32.ofInt 1)], gSh, pUp M 186 (30 + c) (.int y))) rfl ?_
      rw [cI_1]
      exact ok_ret (i := .ireturn) (len := 1) rfl rfl ⟨some (.int (nI 1)), pb1, Or.inl ⟨rfl, ⟨by omega, by omega⟩, by omega, by omega⟩⟩
    · rw [hI_int (a := 99) (by omega), hI_int (a := 0) (by omega)] at k3
      refine ok_if 20 rfl rfl (fun hz => absurd hz (by simp only [pCP]; rw [hI_int (a := 0) (by omega)]; omega)) (fun _ => ?_)
      refine ok_seq 1 (σ' := (19, [(0, .ref 185), (1, .int x), (2, .int y)], [.int (Int32.ofInt 0)], gSh, M)) rfl ?_
      rw [cI_0]
      exact ok_ret (i := .ireturn) (len := 1) rfl rfl ⟨some (.int (nI 0)), pb0, Or.inr ⟨rfl, fun hz => k3 (by have := hz.2; omega)⟩⟩
  · refine ok_if 18 rfl rfl (fun _ => ?_) (fun hz => absurd (by simp only [pCP]; rw [hI_int (a := 0) (by omega)]; omega) hz)
    refine ok_seq 1 (σ' := (19, [(0, .ref 185), (1, .int x), (2, .int y)], [.int (Int32.ofInt 0)], gSh, M)) rfl ?_
    rw [cI_0]
    exact ok_ret (i := .ireturn) (len := 1) rfl rfl ⟨some (.int (nI 0)), pb0, Or.inr ⟨rfl, fun hz => k1 hz.1⟩⟩
/-- what holds of memory wherever the loop is -/
def JM (τ : fT) (M : pMem) : Prop := tyM (tOf τ) M ∧ gR M ∧ M 2 2 = M 185 2
/-- the law's locals -/
def LI (L : pLs) (i : Nat) : Prop := pLd L 0 = some (.retAddr 1) ∧ pLd L 1 = some (.ref 0) ∧ pLd L 2 = some (.ref 185) ∧ pLd L 3 = some (.int (nI i))
def cJ (τ : fT) (S : pScr) (d m : Nat) (as : List Value) : Prop := ∀ M, tyM (tOf τ) M → gR M → cOk S d m as (gSh, M) (fun v hp => hp.1 = gSh ∧ tyM (tOf τ) hp.2 ∧ gR hp.2 ∧ ∃ z, v = some (.int z))
def cJn (τ : fT) (S : pScr) (d m o n : Nat) : Prop := ∀ as : List Int32, as.length = n → cJ τ S d m (.ref o :: as.map .int)
theorem cJ_of {τ : fT} {S : pScr} {d m : Nat} {es : List aE} {lo hi : Int} {x l : List Nat} {as : List Value} (h : cnOk τ S d m (es, [(0, lo, hi, x)], some l, [], [])) (hs : satS es as) : cJ τ S d m as := by
  intro M hM hg
  refine (h as M hs hM hg (fun q hq => by cases hq)).mono ?_
  rintro v ⟨sh2, M2⟩ ⟨h1, h2, h3, h4, -⟩
  refine ⟨h1, h2, gR_keep h4.2.1 h4.2.2.1 h4.2.2.2 hg, ?_⟩
  cases v with
  | none => exact h3.elim
  | some v =>
    obtain ⟨z, hz, -⟩ := h3.1
    exact ⟨z, by rw [show v = .int z from hz]⟩
theorem sat_rep : ∀ (n : Nat) (as : List Int32), as.length = n → satS (List.replicate n eA) (as.map Value.int)
  | 0, [], _ => trivial
  | n + 1, a :: as, h => ⟨sv_any, sat_rep n as (Nat.succ.inj h)⟩
theorem cJ_n {τ : fT} {S : pScr} {d m o n : Nat} {lo hi : Int} {x l : List Nat} (h : cnOk τ S d m ((1, 0, 0, [o]) :: List.replicate n eA, [(0, lo, hi, x)], some l, [], [])) : cJn τ S d m o n := fun as ha => cJ_of h ⟨Or.inr ⟨o, List.mem_singleton.mpr rfl, rfl⟩, sat_rep n as ha⟩
theorem cJn.deep {τ : fT} {S : pScr} {d d' m o n : Nat} (h : cJn τ S d m o n) (hd : d ≤ d') : cJn τ S d' m o n := fun as ha M hM hg => (h as ha M hM hg).deep hd
theorem kF_J {τ : fT} {M M' : pMem} (hJ : JM τ M) (h1 : tyM (tOf τ) M') (h2 : gR M') (hk : kF gSh M gSh M') : JM τ M' := by
  refine ⟨h1, h2, ?_⟩
  rw [hk.2 2 6 12 2 (by decide +kernel) (by decide) (by decide +kernel), hk.2 185 12 47 2 (by decide +kernel) (by decide) (by decide +kernel)]
  exact hJ.2.2
section LAW
variable {τ : fT} {n d : Nat} {xs : Nat → Int32} {L : pLs} {M : pMem} {st : List Value} {i : Nat}
theorem lw_ld {pc : Nat} {j : Fin 4} {v : Value} (hv : (∃ x, v = .ref x) ∨ v = .retAddr 1) (hL : pLd L j = some v) (hc : pLook kL_law pc = some (.aload_n j, 1)) (K : lOk (some (n, xs)) d (pc + 1, L, v :: st, gSh, M)) : lOk (some (n, xs)) d (pc, L, st, gSh, M) := by
  refine ok_step hc ?_ K
  show pLoadA j 1 pc L st gSh M = _
  unfold pLoadA
  rw [hL]
  rcases hv with ⟨x, rfl⟩ | rfl <;> rfl
theorem lw_li {pc : Nat} {j : Fin 4} {v : Int32} (hL : pLd L j = some (.int v)) (hc : pLook kL_law pc = some (.iload_n j, 1)) (K : lOk (some (n, xs)) d (pc + 1, L, .int v :: st, gSh, M)) : lOk (some (n, xs)) d (pc, L, st, gSh, M) := by
  refine ok_step hc ?_ K
  show pLoadI j 1 pc L st gSh M = _
  unfold pLoadI
  rw [hL]
  rfl
theorem lw_scr {pc j : Nat} (hc : pLook kL_law pc = some (.iaload, 1)) (hj : j < n) (hn : n ≤ 3074) (K : lOk (some (n, xs)) d (pc + 1, L, .int (xs j) :: st, gSh, M)) : lOk (some (n, xs)) d (pc, L, .int (nI j) :: .retAddr 1 :: st, gSh, M) := by
  refine ok_step hc ?_ K
  show (if pIn (nI j) n = true then pGo (pc + 1) L (.int (xs (nI j).toNatClampNeg) :: st) gSh M else none) = _
  rw [if_pos (hI_in hj (by omega)), hI_nat (by omega)]
  rfl
/-- the script's int k behind the call's number -/
theorem lw_arg {pc k : Nat} {c : Int} (hL : LI L i) (hn : n ≤ 3074) (hi : i + 6 ≤ n) (hk : k < 6) (hc : pLook kL_law pc = some (.aload_n 0, 1) ∧ pLook kL_law (pc + 1) = some (.iload_n 3, 1) ∧ pLook kL_law (pc + 2) = some (.iconst c, 1) ∧ pLook kL_law (pc + 3) = some (.iadd, 1) ∧ pLook kL_law (pc + 4) = some (.iaload, 1)) (he : Int32.ofInt c = nI k) (K : lOk (some (n, xs)) d (pc + 5, L, .int (xs (i + k)) :: st, gSh, M)) : lOk (some (n, xs)) d (pc, L, st, gSh, M) := by
  obtain ⟨c1, c2, c3, c4, c5⟩ := hc
  refine lw_ld (Or.inr rfl) hL.1 c1 ?_
  refine lw_li hL.2.2.2 c2 ?_
  refine ok_step (σ := (pc + 3, L, .int (nI k) :: .int (nI i) :: .retAddr 1 :: st, gSh, M)) c3 (by rw [← he]; rfl) ?_
  refine ok_step (σ := (pc + 4, L, .int (nI (i + k)) :: .retAddr 1 :: st, gSh, M)) c4 (by rw [← hI_add]; rfl) ?_
  exact lw_scr c5 (by omega) hn K
/-- a script's int as a truth -/
theorem lw_bit {pc : Nat} {x : Int32} (hc : pLook kL_law pc = some (.ifCond .eq 7, 3) ∧ pLook kL_law (pc + 3) = some (.iconst 1, 1) ∧ pLook kL_law (pc + 4) = some (.goto 4, 3) ∧ pLook kL_law (pc + 7) = some (.iconst 0, 1)) (K : ∀ b : Nat, b ≤ 1 → lOk (some (n, xs)) d (pc + 8, L, .int (nI b) :: st, gSh, M)) : lOk (some (n, xs)) d (pc, L, .int x :: st, gSh, M) := by
  obtain ⟨c1, c2, c3, c4⟩ := hc
  refine ok_if (pc + 7) c1 (by omega) (fun _ => ?_) (fun _ => ?_)
  · exact ok_step (σ := (pc + 8, L, .int (nI 0) :: st, gSh, M)) c4 (by rw [← cI_0]; rfl) (K 0 (by decide))
  · refine ok_step (σ := (pc + 4, L, .int (nI 1) :: st, gSh, M)) c2 (by rw [← cI_1]; rfl) ?_
    refine ok_step (σ := (pc + 8, L, .int (nI 1) :: st, gSh, M)) c3 ?_ (K 1 (by decide))
    show pJp (pc + 4) 4 L (.int (nI 1) :: st) gSh M = _
    unfold pJp
    rw [if_neg (by omega), show (((pc + 4 : Nat) : Int) + 4).toNat = pc + 8 by omega]
    rfl
/-- a call whose answer is thrown away -/
theorem lw_cp {pc m : Nat} {ins : Instr} {as : List Value} (hJ : JM τ M) (hm : ¬ pKind.getD m 9 = 2) (hc : pLook kL_law pc = some (ins, 3)) (hp : pLook kL_law (pc + 3) = some (.pop, 1)) (hs : pstep (some (n, xs)) 13 false 4 ins 3 pc L st gSh M = some (.inr (.inr (m, as, pc + 3, L, [], gSh, M)))) (hK : cJ τ (some (n, xs)) d m as) (K : ∀ M', JM τ M' → lOk (some (n, xs)) d (pc + 4, L, [], gSh, M')) : lOk (some (n, xs)) d (pc, L, st, gSh, M) := by
  refine ok_call hc hs ((kF_c hm (hK M hJ.1 hJ.2.1)).mono ?_)
  rintro v ⟨sh2, M2⟩ ⟨⟨h1, h2, h3, z, rfl⟩, hk⟩
  have h1 : sh2 = gSh := h1
  subst h1
  exact ok_step (σ := (pc + 4, L, [], gSh, M2)) hp rfl (K M2 (kF_J hJ h2 h3 hk))
theorem lw_goto {pc t : Nat} {off : Int} (hc : pLook kL_law pc = some (.goto off, 3)) (ht : (pc : Int) + off = (t : Int)) (K : lOk (some (n, xs)) d (t, L, st, gSh, M)) : lOk (some (n, xs)) d (pc, L, st, gSh, M) := by
  refine ok_step hc ?_ K
  show pJp pc off L st gSh M = _
  unfold pJp
  rw [if_neg (by omega), show ((pc : Int) + off).toNat = t by omega]
  rfl
end LAW
def lawM : List (Nat × Nat × Nat) := [(111, 0, 2), (163, 185, 2), (112, 0, 1), (164, 185, 1), (114, 0, 1), (166, 185, 1), (115, 0, 3), (167, 185, 3), (116, 0, 5), (168, 185, 5), (117, 0, 3), (171, 185, 3), (118, 0, 3), (172, 185, 3), (119, 0, 1), (173, 185, 1), (120, 0, 5), (175, 185, 5), (121, 0, 1), (176, 185, 1), (122, 0, 0), (204, 185, 0), (123, 0, 1), (205, 185, 1), (124, 0, 1), (206, 185, 1), (125, 0, 2), (229, 185, 2), (126, 0, 3), (232, 185, 3), (127, 0, 2), (233, 185, 2), (128, 0, 2), (234, 185, 2), (129, 0, 2), (235, 185, 2), (130, 0, 1), (247, 185, 1), (131, 0, 0), (248, 185, 0), (132, 0, 2), (249, 185, 2), (133, 0, 1), (251, 185, 1), (134, 0, 1), (252, 185, 1), (135, 0, 0), (254, 185, 0), (136, 0, 1), (257, 185, 1), (137, 0, 0), (258, 185, 0), (138, 0, 1), (260, 185, 1), (139, 0, 2), (269, 185, 2), (140, 0, 1), (270, 185, 1), (141, 0, 2), (271, 185, 2), (142, 0, 2), (272, 185, 2), (143, 0, 2), (274, 185, 2), (144, 0, 4), (281, 185, 4), (145, 0, 5), (282, 185, 5), (146, 0, 0), (283, 185, 0), (147, 0, 0), (284, 185, 0), (148, 0, 1), (285, 185, 1)]
/-- all that the loop calls -/
def LW (τ : fT) (S : pScr) (d : Nat) : Prop := (∀ q ∈ lawM, cJn τ S d q.1 q.2.1 q.2.2) ∧ (∀ (a : Int32) (b c : Nat), b ≤ 1 → c ≤ 1 → cJ τ S d 113 [.ref 0, .int a, .int (nI b), .int (nI c)] ∧ cJ τ S d 165 [.ref 185, .int a, .int (nI b), .int (nI c)]) ∧ (∀ M, JM τ M → ∃ z : Nat, (1 ≤ z ∧ z ≤ 36) ∧ (∀ x y : Int32, cOk S d 111 [.ref 0, .int x, .int y] (gSh, M) (fun r _ => iceA z x y r)) ∧ M 185 2 = .int (nI z)) ∧ ∀ (M : pMem) (z : Nat), 1 ≤ z ∧ z ≤ 36 → JM τ M → M 185 2 = .int (nI z) → ∀ x y : Int32, cOk S d 163 [.ref 185, .int x, .int y] (gSh, M) (fun r _ => iceA z x y r)
theorem lw_c0 {τ : fT} {n d : Nat} {xs : Nat → Int32} {L : pLs} {M : pMem} {i : Nat} (hn : n ≤ 3074) (hi : i + 6 ≤ n) (hW : LW τ (some (n, xs)) d) (hL : LI L i) (hJ : JM τ M) (K : ∀ M', JM τ M' → lOk (some (n, xs)) d (1416, L, [], gSh, M')) : lOk (some (n, xs)) d (220, L, [], gSh, M) := by
  refine lw_ld (Or.inl ⟨_, rfl⟩) hL.2.1 rfl ?_
  refine lw_arg hL hn hi (k := 1) (by decide) ⟨rfl, rfl, rfl, rfl, rfl⟩ cI_1 ?_
  refine lw_arg hL hn hi (k := 2) (by decide) ⟨rfl, rfl, rfl, rfl, rfl⟩ cI_2 ?_
  obtain ⟨z, hz0, hz1, hz2⟩ := hW.2.2.1 M hJ
  have hA := c_both (kF_c (by decide +kernel) (hW.1 (111, 0, 2) (by decide) [xs (i + 1), xs (i + 2)] rfl M hJ.1 hJ.2.1)) (hz1 (xs (i + 1)) (xs (i + 2)))
  refine ok_call (mi := 111) (as := [.ref 0, .int (xs (i + 1)), .int (xs (i + 2))]) (pc' := 234) (L' := L) (st' := []) (sh' := gSh) (M' := M) (i := .invokevirtual 21) (len := 3) rfl rfl (hA.mono ?_)
  rintro v ⟨sh1, M1⟩ ⟨⟨⟨h1, h2, h3, -⟩, hk⟩, hv⟩
  have h1 : sh1 = gSh := h1
  subst h1
  have hJ1 := kF_J hJ h2 h3 hk
  have hz3 : M1 185 2 = .int (nI z) := (hk.2 185 12 47 2 (by decide +kernel) (by decide) (by decide +kernel)).trans hz2
  obtain ⟨b, rfl⟩ : ∃ b : Nat, v = some (.int (nI b)) := by
    rcases hv with ⟨rfl, -⟩ | ⟨rfl, -⟩
    · exact ⟨1, rfl⟩
    · exact ⟨0, rfl⟩
  refine lw_ld (Or.inl ⟨_, rfl⟩) hL.2.2.1 rfl ?_
  refine lw_arg hL hn hi (k := 1) (by decide) ⟨rfl, rfl, rfl, rfl, rfl⟩ cI_1 ?_
  refine lw_arg hL hn hi (k := 2) (by decide) ⟨rfl, rfl, rfl, rfl, rfl⟩ cI_2 ?_
  have hB := c_both (kF_c (by decide +kernel) (hW.1 (163, 185, 2) (by decide) [xs (i + 1), xs (i + 2)] rfl M1 hJ1.1 hJ1.2.1)) (hW.2.2.2 M1 z hz0 hJ1 hz3 (xs (i + 1)) (xs (i + 2)))
  refine ok_call (mi := 163) (as := [.ref 185, .int (xs (i + 1)), .int (xs (i + 2))]) (pc' := 248) (L' := L) (st' := [.int (nI b)]) (sh' := gSh) (M' := M1) (i := .invokevirtual 25) (len := 3) rfl rfl (hB.mono ?_)
  rintro v ⟨sh2, M2⟩ ⟨⟨⟨g1, g2, g3, -⟩, gk⟩, gv⟩
  have g1 : sh2 = gSh := g1
  subst g1
  have e : v = some (.int (nI b)) := by
    rcases hv with ⟨e1, p1⟩ | ⟨e1, p1⟩ <;> rcases gv with ⟨e2, p2⟩ | ⟨e2, p2⟩
    · exact e2.trans e1.symm
    · exact absurd p1 p2
    · exact absurd p2 p1
    · exact e2.trans e1.symm
  subst e
  exact ok_icmp (x := nI b) (y := nI b) 1416 rfl rfl (fun _ => K M2 (kF_J hJ1 g2 g3 gk)) (fun hz => absurd (show pCP .eq (nI b).toInt (nI b).toInt from rfl) hz)
theorem lw_c1 {τ : fT} {n d : Nat} {xs : Nat → Int32} {L : pLs} {M : pMem} {i : Nat} (hn : n ≤ 3074) (hi : i + 6 ≤ n) (hW : LW τ (some (n, xs)) d) (hL : LI L i) (hJ : JM τ M) (K : ∀ M', JM τ M' → lOk (some (n, xs)) d (1416, L, [], gSh, M')) : lOk (some (n, xs)) d (253, L, [], gSh, M) := by
  refine lw_ld (Or.inl ⟨_, rfl⟩) hL.2.1 rfl ?_
  refine lw_arg hL hn hi (k := 1) (by decide) ⟨rfl, rfl, rfl, rfl, rfl⟩ cI_1 ?_
  refine lw_cp (m := 112) (as := [.ref 0, .int (xs (i + 1))]) (ins := .invokevirtual 26) hJ (by decide +kernel) rfl rfl rfl (hW.1 (112, 0, 1) (by decide) [xs (i + 1)] rfl) (fun M1 hJ1 => ?_)
  refine lw_ld (Or.inl ⟨_, rfl⟩) hL.2.2.1 rfl ?_
  refine lw_arg hL hn hi (k := 1) (by decide) ⟨rfl, rfl, rfl, rfl, rfl⟩ cI_1 ?_
  refine lw_cp (m := 164) (as := [.ref 185, .int (xs (i + 1))]) (ins := .invokevirtual 30) hJ1 (by decide +kernel) rfl rfl rfl (hW.1 (164, 185, 1) (by decide) [xs (i + 1)] rfl) (fun M2 hJ2 => ?_)
  exact lw_goto (t := 1416) rfl rfl (K M2 hJ2)
theorem lw_c2 {τ : fT} {n d : Nat} {xs : Nat → Int32} {L : pLs} {M : pMem} {i : Nat} (hn : n ≤ 3074) (hi : i + 6 ≤ n) (hW : LW τ (some (n, xs)) d) (hL : LI L i) (hJ : JM τ M) (K : ∀ M', JM τ M' → lOk (some (n, xs)) d (1416, L, [], gSh, M')) : lOk (some (n, xs)) d (276, L, [], gSh, M) := by
  refine lw_ld (Or.inl ⟨_, rfl⟩) hL.2.1 rfl ?_
  refine lw_arg hL hn hi (k := 1) (by decide) ⟨rfl, rfl, rfl, rfl, rfl⟩ cI_1 ?_
  refine lw_arg hL hn hi (k := 2) (by decide) ⟨rfl, rfl, rfl, rfl, rfl⟩ cI_2 ?_
  refine lw_bit ⟨rfl, rfl, rfl, rfl⟩ (fun b1 hb1 => ?_)
  refine lw_arg hL hn hi (k := 3) (by decide) ⟨rfl, rfl, rfl, rfl, rfl⟩ cI_3 ?_
  refine lw_bit ⟨rfl, rfl, rfl, rfl⟩ (fun b2 hb2 => ?_)
  refine lw_cp (m := 113) (as := [.ref 0, .int (xs (i + 1)), .int (nI b1), .int (nI b2)]) (ins := .invokevirtual 31) hJ (by decide +kernel) rfl rfl rfl (hW.2.1 (xs (i + 1)) b1 b2 hb1 hb2).1 (fun M1 hJ1 => ?_)
  refine lw_ld (Or.inl ⟨_, rfl⟩) hL.2.2.1 rfl ?_
  refine lw_arg hL hn hi (k := 1) (by decide) ⟨rfl, rfl, rfl, rfl, rfl⟩ cI_1 ?_
  refine lw_arg hL hn hi (k := 2) (by decide) ⟨rfl, rfl, rfl, rfl, rfl⟩ cI_2 ?_
  refine lw_bit ⟨rfl, rfl, rfl, rfl⟩ (fun b3 hb3 => ?_)
  refine lw_arg hL hn hi (k := 3) (by decide) ⟨rfl, rfl, rfl, rfl, rfl⟩ cI_3 ?_
  refine lw_bit ⟨rfl, rfl, rfl, rfl⟩ (fun b4 hb4 => ?_)
  refine lw_cp (m := 165) (as := [.ref 185, .int (xs (i + 1)), .int (nI b3), .int (nI b4)]) (ins := .invokevirtual 35) hJ1 (by decide +kernel) rfl rfl rfl (hW.2.1 (xs (i + 1)) b3 b4 hb3 hb4).2 (fun M2 hJ2 => ?_)
  exact lw_goto (t := 1416) rfl rfl (K M2 hJ2)
theorem lw_c3 {τ : fT} {n d : Nat} {xs : Nat → Int32} {L : pLs} {M : pMem} {i : Nat} (hn : n ≤ 3074) (hi : i + 6 ≤ n) (hW : LW τ (some (n, xs)) d) (hL : LI L i) (hJ : JM τ M) (K : ∀ M', JM τ M' → lOk (some (n, xs)) d (1416, L, [], gSh, M')) : lOk (some (n, xs)) d (351, L, [], gSh, M) := by
  refine lw_ld (Or.inl ⟨_, rfl⟩) hL.2.1 rfl ?_
  refine lw_arg hL hn hi (k := 1) (by decide) ⟨rfl, rfl, rfl, rfl, rfl⟩ cI_1 ?_
  refine lw_cp (m := 114) (as := [.ref 0, .int (xs (i + 1))]) (ins := .invokevirtual 36) hJ (by decide +kernel) rfl rfl rfl (hW.1 (114, 0, 1) (by decide) [xs (i + 1)] rfl) (fun M1 hJ1 => ?_)
  refine lw_ld (Or.inl ⟨_, rfl⟩) hL.2.2.1 rfl ?_
  refine lw_arg hL hn hi (k := 1) (by decide) ⟨rfl, rfl, rfl, rfl, rfl⟩ cI_1 ?_
  refine lw_cp (m := 166) (as := [.ref 185, .int (xs (i + 1))]) (ins := .invokevirtual 40) hJ1 (by decide +kernel) rfl rfl rfl (hW.1 (166, 185, 1) (by decide) [xs (i + 1)] rfl) (fun M2 hJ2 => ?_)
  exact lw_goto (t := 1416) rfl rfl (K M2 hJ2)
theorem lw_c4 {τ : fT} {n d : Nat} {xs : Nat → Int32} {L : pLs} {M : pMem} {i : Nat} (hn : n ≤ 3074) (hi : i + 6 ≤ n) (hW : LW τ (some (n, xs)) d) (hL : LI L i) (hJ : JM τ M) (K : ∀ M', JM τ M' → lOk (some (n, xs)) d (1416, L, [], gSh, M')) : lOk (some (n, xs)) d (374, L, [], gSh, M) := by
  refine lw_ld (Or.inl ⟨_, rfl⟩) hL.2.1 rfl ?_
  refine lw_arg hL hn hi (k := 1) (by decide) ⟨rfl, rfl, rfl, rfl, rfl⟩ cI_1 ?_
  refine lw_arg hL hn hi (k := 2) (by decide) ⟨rfl, rfl, rfl, rfl, rfl⟩ cI_2 ?_
  refine lw_arg hL hn hi (k := 3) (by decide) ⟨rfl, rfl, rfl, rfl, rfl⟩ cI_3 ?_
  refine lw_cp (m := 115) (as := [.ref 0, .int (xs (i + 1)), .int (xs (i + 2)), .int (xs (i + 3))]) (ins := .invokevirtual 41) hJ (by decide +kernel) rfl rfl rfl (hW.1 (115, 0, 3) (by decide) [xs (i + 1), xs (i + 2), xs (i + 3)] rfl) (fun M1 hJ1 => ?_)
  refine lw_ld (Or.inl ⟨_, rfl⟩) hL.2.2.1 rfl ?_
  refine lw_arg hL hn hi (k := 1) (by decide) ⟨rfl, rfl, rfl, rfl, rfl⟩ cI_1 ?_
  refine lw_arg hL hn hi (k := 2) (by decide) ⟨rfl, rfl, rfl, rfl, rfl⟩ cI_2 ?_
  refine lw_arg hL hn hi (k := 3) (by decide) ⟨rfl, rfl, rfl, rfl, rfl⟩ cI_3 ?_
  refine lw_cp (m := 167) (as := [.ref 185, .int (xs (i + 1)), .int (xs (i + 2)), .int (xs (i + 3))]) (ins := .invokevirtual 45) hJ1 (by decide +kernel) rfl rfl rfl (hW.1 (167, 185, 3) (by decide) [xs (i + 1), xs (i + 2), xs (i + 3)] rfl) (fun M2 hJ2 => ?_)
  exact lw_goto (t := 1416) rfl rfl (K M2 hJ2)
theorem lw_c5 {τ : fT} {n d : Nat} {xs : Nat → Int32} {L : pLs} {M : pMem} {i : Nat} (hn : n ≤ 3074) (hi : i + 6 ≤ n) (hW : LW τ (some (n, xs)) d) (hL : LI L i) (hJ : JM τ M) (K : ∀ M', JM τ M' → lOk (some (n, xs)) d (1416, L, [], gSh, M')) : lOk (some (n, xs)) d (417, L, [], gSh, M) := by
  refine lw_ld (Or.inl ⟨_, rfl⟩) hL.2.1 rfl ?_
  refine lw_arg hL hn hi (k := 1) (by decide) ⟨rfl, rfl, rfl, rfl, rfl⟩ cI_1 ?_
  refine lw_arg hL hn hi (k := 2) (by decide) ⟨rfl, rfl, rfl, rfl, rfl⟩ cI_2 ?_
  refine lw_arg hL hn hi (k := 3) (by decide) ⟨rfl, rfl, rfl, rfl, rfl⟩ cI_3 ?_
  refine lw_arg hL hn hi (k := 4) (by decide) ⟨rfl, rfl, rfl, rfl, rfl⟩ cI_4 ?_
  refine lw_arg hL hn hi (k := 5) (by decide) ⟨rfl, rfl, rfl, rfl, rfl⟩ cI_5 ?_
  refine lw_cp (m := 116) (as := [.ref 0, .int (xs (i + 1)), .int (xs (i + 2)), .int (xs (i + 3)), .int (xs (i + 4)), .int (xs (i + 5))]) (ins := .invokevirtual 46) hJ (by decide +kernel) rfl rfl rfl (hW.1 (116, 0, 5) (by decide) [xs (i + 1), xs (i + 2), xs (i + 3), xs (i + 4), xs (i + 5)] rfl) (fun M1 hJ1 => ?_)
  refine lw_ld (Or.inl ⟨_, rfl⟩) hL.2.2.1 rfl ?_
  refine lw_arg hL hn hi (k := 1) (by decide) ⟨rfl, rfl, rfl, rfl, rfl⟩ cI_1 ?_
  refine lw_arg hL hn hi (k := 2) (by decide) ⟨rfl, rfl, rfl, rfl, rfl⟩ cI_2 ?_
  refine lw_arg hL hn hi (k := 3) (by decide) ⟨rfl, rfl, rfl, rfl, rfl⟩ cI_3 ?_
  refine lw_arg hL hn hi (k := 4) (by decide) ⟨rfl, rfl, rfl, rfl, rfl⟩ cI_4 ?_
  refine lw_arg hL hn hi (k := 5) (by decide) ⟨rfl, rfl, rfl, rfl, rfl⟩ cI_5 ?_
  refine lw_cp (m := 168) (as := [.ref 185, .int (xs (i + 1)), .int (xs (i + 2)), .int (xs (i + 3)), .int (xs (i + 4)), .int (xs (i + 5))]) (ins := .invokevirtual 50) hJ1 (by decide +kernel) rfl rfl rfl (hW.1 (168, 185, 5) (by decide) [xs (i + 1), xs (i + 2), xs (i + 3), xs (i + 4), xs (i + 5)] rfl) (fun M2 hJ2 => ?_)
  exact lw_goto (t := 1416) rfl rfl (K M2 hJ2)
theorem lw_c6 {τ : fT} {n d : Nat} {xs : Nat → Int32} {L : pLs} {M : pMem} {i : Nat} (hn : n ≤ 3074) (hi : i + 6 ≤ n) (hW : LW τ (some (n, xs)) d) (hL : LI L i) (hJ : JM τ M) (K : ∀ M', JM τ M' → lOk (some (n, xs)) d (1416, L, [], gSh, M')) : lOk (some (n, xs)) d (480, L, [], gSh, M) := by
  refine lw_ld (Or.inl ⟨_, rfl⟩) hL.2.1 rfl ?_
  refine lw_arg hL hn hi (k := 1) (by decide) ⟨rfl, rfl, rfl, rfl, rfl⟩ cI_1 ?_
  refine lw_arg hL hn hi (k := 2) (by decide) ⟨rfl, rfl, rfl, rfl, rfl⟩ cI_2 ?_
  refine lw_arg hL hn hi (k := 3) (by decide) ⟨rfl, rfl, rfl, rfl, rfl⟩ cI_3 ?_
  refine lw_cp (m := 117) (as := [.ref 0, .int (xs (i + 1)), .int (xs (i + 2)), .int (xs (i + 3))]) (ins := .invokevirtual 51) hJ (by decide +kernel) rfl rfl rfl (hW.1 (117, 0, 3) (by decide) [xs (i + 1), xs (i + 2), xs (i + 3)] rfl) (fun M1 hJ1 => ?_)
  refine lw_ld (Or.inl ⟨_, rfl⟩) hL.2.2.1 rfl ?_
  refine lw_arg hL hn hi (k := 1) (by decide) ⟨rfl, rfl, rfl, rfl, rfl⟩ cI_1 ?_
  refine lw_arg hL hn hi (k := 2) (by decide) ⟨rfl, rfl, rfl, rfl, rfl⟩ cI_2 ?_
  refine lw_arg hL hn hi (k := 3) (by decide) ⟨rfl, rfl, rfl, rfl, rfl⟩ cI_3 ?_
  refine lw_cp (m := 171) (as := [.ref 185, .int (xs (i + 1)), .int (xs (i + 2)), .int (xs (i + 3))]) (ins := .invokevirtual 54) hJ1 (by decide +kernel) rfl rfl rfl (hW.1 (171, 185, 3) (by decide) [xs (i + 1), xs (i + 2), xs (i + 3)] rfl) (fun M2 hJ2 => ?_)
  exact lw_goto (t := 1416) rfl rfl (K M2 hJ2)
theorem lw_c7 {τ : fT} {n d : Nat} {xs : Nat → Int32} {L : pLs} {M : pMem} {i : Nat} (hn : n ≤ 3074) (hi : i + 6 ≤ n) (hW : LW τ (some (n, xs)) d) (hL : LI L i) (hJ : JM τ M) (K : ∀ M', JM τ M' → lOk (some (n, xs)) d (1416, L, [], gSh, M')) : lOk (some (n, xs)) d (523, L, [], gSh, M) := by
  refine lw_ld (Or.inl ⟨_, rfl⟩) hL.2.1 rfl ?_
  refine lw_arg hL hn hi (k := 1) (by decide) ⟨rfl, rfl, rfl, rfl, rfl⟩ cI_1 ?_
  refine lw_arg hL hn hi (k := 2) (by decide) ⟨rfl, rfl, rfl, rfl, rfl⟩ cI_2 ?_
  refine lw_arg hL hn hi (k := 3) (by decide) ⟨rfl, rfl, rfl, rfl, rfl⟩ cI_3 ?_
  refine lw_cp (m := 118) (as := [.ref 0, .int (xs (i + 1)), .int (xs (i + 2)), .int (xs (i + 3))]) (ins := .invokevirtual 55) hJ (by decide +kernel) rfl rfl rfl (hW.1 (118, 0, 3) (by decide) [xs (i + 1), xs (i + 2), xs (i + 3)] rfl) (fun M1 hJ1 => ?_)
  refine lw_ld (Or.inl ⟨_, rfl⟩) hL.2.2.1 rfl ?_
  refine lw_arg hL hn hi (k := 1) (by decide) ⟨rfl, rfl, rfl, rfl, rfl⟩ cI_1 ?_
  refine lw_arg hL hn hi (k := 2) (by decide) ⟨rfl, rfl, rfl, rfl, rfl⟩ cI_2 ?_
  refine lw_arg hL hn hi (k := 3) (by decide) ⟨rfl, rfl, rfl, rfl, rfl⟩ cI_3 ?_
  refine lw_cp (m := 172) (as := [.ref 185, .int (xs (i + 1)), .int (xs (i + 2)), .int (xs (i + 3))]) (ins := .invokevirtual 58) hJ1 (by decide +kernel) rfl rfl rfl (hW.1 (172, 185, 3) (by decide) [xs (i + 1), xs (i + 2), xs (i + 3)] rfl) (fun M2 hJ2 => ?_)
  exact lw_goto (t := 1416) rfl rfl (K M2 hJ2)
theorem lw_c8 {τ : fT} {n d : Nat} {xs : Nat → Int32} {L : pLs} {M : pMem} {i : Nat} (hn : n ≤ 3074) (hi : i + 6 ≤ n) (hW : LW τ (some (n, xs)) d) (hL : LI L i) (hJ : JM τ M) (K : ∀ M', JM τ M' → lOk (some (n, xs)) d (1416, L, [], gSh, M')) : lOk (some (n, xs)) d (566, L, [], gSh, M) := by
  refine lw_ld (Or.inl ⟨_, rfl⟩) hL.2.1 rfl ?_
  refine lw_arg hL hn hi (k := 1) (by decide) ⟨rfl, rfl, rfl, rfl, rfl⟩ cI_1 ?_
  refine lw_cp (m := 119) (as := [.ref 0, .int (xs (i + 1))]) (ins := .invokevirtual 59) hJ (by decide +kernel) rfl rfl rfl (hW.1 (119, 0, 1) (by decide) [xs (i + 1)] rfl) (fun M1 hJ1 => ?_)
  refine lw_ld (Or.inl ⟨_, rfl⟩) hL.2.2.1 rfl ?_
  refine lw_arg hL hn hi (k := 1) (by decide) ⟨rfl, rfl, rfl, rfl, rfl⟩ cI_1 ?_
  refine lw_cp (m := 173) (as := [.ref 185, .int (xs (i + 1))]) (ins := .invokevirtual 62) hJ1 (by decide +kernel) rfl rfl rfl (hW.1 (173, 185, 1) (by decide) [xs (i + 1)] rfl) (fun M2 hJ2 => ?_)
  exact lw_goto (t := 1416) rfl rfl (K M2 hJ2)
theorem lw_c9 {τ : fT} {n d : Nat} {xs : Nat → Int32} {L : pLs} {M : pMem} {i : Nat} (hn : n ≤ 3074) (hi : i + 6 ≤ n) (hW : LW τ (some (n, xs)) d) (hL : LI L i) (hJ : JM τ M) (K : ∀ M', JM τ M' → lOk (some (n, xs)) d (1416, L, [], gSh, M')) : lOk (some (n, xs)) d (589, L, [], gSh, M) := by
  refine lw_ld (Or.inl ⟨_, rfl⟩) hL.2.1 rfl ?_
  refine lw_arg hL hn hi (k := 1) (by decide) ⟨rfl, rfl, rfl, rfl, rfl⟩ cI_1 ?_
  refine lw_arg hL hn hi (k := 2) (by decide) ⟨rfl, rfl, rfl, rfl, rfl⟩ cI_2 ?_
  refine lw_arg hL hn hi (k := 3) (by decide) ⟨rfl, rfl, rfl, rfl, rfl⟩ cI_3 ?_
  refine lw_arg hL hn hi (k := 4) (by decide) ⟨rfl, rfl, rfl, rfl, rfl⟩ cI_4 ?_
  refine lw_arg hL hn hi (k := 5) (by decide) ⟨rfl, rfl, rfl, rfl, rfl⟩ cI_5 ?_
  refine lw_cp (m := 120) (as := [.ref 0, .int (xs (i + 1)), .int (xs (i + 2)), .int (xs (i + 3)), .int (xs (i + 4)), .int (xs (i + 5))]) (ins := .invokevirtual 63) hJ (by decide +kernel) rfl rfl rfl (hW.1 (120, 0, 5) (by decide) [xs (i + 1), xs (i + 2), xs (i + 3), xs (i + 4), xs (i + 5)] rfl) (fun M1 hJ1 => ?_)
  refine lw_ld (Or.inl ⟨_, rfl⟩) hL.2.2.1 rfl ?_
  refine lw_arg hL hn hi (k := 1) (by decide) ⟨rfl, rfl, rfl, rfl, rfl⟩ cI_1 ?_
  refine lw_arg hL hn hi (k := 2) (by decide) ⟨rfl, rfl, rfl, rfl, rfl⟩ cI_2 ?_
  refine lw_arg hL hn hi (k := 3) (by decide) ⟨rfl, rfl, rfl, rfl, rfl⟩ cI_3 ?_
  refine lw_arg hL hn hi (k := 4) (by decide) ⟨rfl, rfl, rfl, rfl, rfl⟩ cI_4 ?_
  refine lw_arg hL hn hi (k := 5) (by decide) ⟨rfl, rfl, rfl, rfl, rfl⟩ cI_5 ?_
  refine lw_cp (m := 175) (as := [.ref 185, .int (xs (i + 1)), .int (xs (i + 2)), .int (xs (i + 3)), .int (xs (i + 4)), .int (xs (i + 5))]) (ins := .invokevirtual 67) hJ1 (by decide +kernel) rfl rfl rfl (hW.1 (175, 185, 5) (by decide) [xs (i + 1), xs (i + 2), xs (i + 3), xs (i + 4), xs (i + 5)] rfl) (fun M2 hJ2 => ?_)
  exact lw_goto (t := 1416) rfl rfl (K M2 hJ2)
theorem lw_c10 {τ : fT} {n d : Nat} {xs : Nat → Int32} {L : pLs} {M : pMem} {i : Nat} (hn : n ≤ 3074) (hi : i + 6 ≤ n) (hW : LW τ (some (n, xs)) d) (hL : LI L i) (hJ : JM τ M) (K : ∀ M', JM τ M' → lOk (some (n, xs)) d (1416, L, [], gSh, M')) : lOk (some (n, xs)) d (652, L, [], gSh, M) := by
  refine lw_ld (Or.inl ⟨_, rfl⟩) hL.2.1 rfl ?_
  refine lw_arg hL hn hi (k := 1) (by decide) ⟨rfl, rfl, rfl, rfl, rfl⟩ cI_1 ?_
  refine lw_cp (m := 121) (as := [.ref 0, .int (xs (i + 1))]) (ins := .invokevirtual 68) hJ (by decide +kernel) rfl rfl rfl (hW.1 (121, 0, 1) (by decide) [xs (i + 1)] rfl) (fun M1 hJ1 => ?_)
  refine lw_ld (Or.inl ⟨_, rfl⟩) hL.2.2.1 rfl ?_
  refine lw_arg hL hn hi (k := 1) (by decide) ⟨rfl, rfl, rfl, rfl, rfl⟩ cI_1 ?_
  refine lw_cp (m := 176) (as := [.ref 185, .int (xs (i + 1))]) (ins := .invokevirtual 71) hJ1 (by decide +kernel) rfl rfl rfl (hW.1 (176, 185, 1) (by decide) [xs (i + 1)] rfl) (fun M2 hJ2 => ?_)
  exact lw_goto (t := 1416) rfl rfl (K M2 hJ2)
theorem lw_c11 {τ : fT} {n d : Nat} {xs : Nat → Int32} {L : pLs} {M : pMem} {i : Nat} (hn : n ≤ 3074) (hi : i + 6 ≤ n) (hW : LW τ (some (n, xs)) d) (hL : LI L i) (hJ : JM τ M) (K : ∀ M', JM τ M' → lOk (some (n, xs)) d (1416, L, [], gSh, M')) : lOk (some (n, xs)) d (675, L, [], gSh, M) := by
  refine lw_ld (Or.inl ⟨_, rfl⟩) hL.2.1 rfl ?_
  refine lw_cp (m := 122) (as := [.ref 0]) (ins := .invokevirtual 72) hJ (by decide +kernel) rfl rfl rfl (hW.1 (122, 0, 0) (by decide) [] rfl) (fun M1 hJ1 => ?_)
  refine lw_ld (Or.inl ⟨_, rfl⟩) hL.2.2.1 rfl ?_
  refine lw_cp (m := 204) (as := [.ref 185]) (ins := .invokevirtual 76) hJ1 (by decide +kernel) rfl rfl rfl (hW.1 (204, 185, 0) (by decide) [] rfl) (fun M2 hJ2 => ?_)
  exact lw_goto (t := 1416) rfl rfl (K M2 hJ2)
theorem lw_c12 {τ : fT} {n d : Nat} {xs : Nat → Int32} {L : pLs} {M : pMem} {i : Nat} (hn : n ≤ 3074) (hi : i + 6 ≤ n) (hW : LW τ (some (n, xs)) d) (hL : LI L i) (hJ : JM τ M) (K : ∀ M', JM τ M' → lOk (some (n, xs)) d (1416, L, [], gSh, M')) : lOk (some (n, xs)) d (688, L, [], gSh, M) := by
  refine lw_ld (Or.inl ⟨_, rfl⟩) hL.2.1 rfl ?_
  refine lw_arg hL hn hi (k := 1) (by decide) ⟨rfl, rfl, rfl, rfl, rfl⟩ cI_1 ?_
  refine lw_cp (m := 123) (as := [.ref 0, .int (xs (i + 1))]) (ins := .invokevirtual 77) hJ (by decide +kernel) rfl rfl rfl (hW.1 (123, 0, 1) (by decide) [xs (i + 1)] rfl) (fun M1 hJ1 => ?_)
  refine lw_ld (Or.inl ⟨_, rfl⟩) hL.2.2.1 rfl ?_
  refine lw_arg hL hn hi (k := 1) (by decide) ⟨rfl, rfl, rfl, rfl, rfl⟩ cI_1 ?_
  refine lw_cp (m := 205) (as := [.ref 185, .int (xs (i + 1))]) (ins := .invokevirtual 80) hJ1 (by decide +kernel) rfl rfl rfl (hW.1 (205, 185, 1) (by decide) [xs (i + 1)] rfl) (fun M2 hJ2 => ?_)
  exact lw_goto (t := 1416) rfl rfl (K M2 hJ2)
theorem lw_c13 {τ : fT} {n d : Nat} {xs : Nat → Int32} {L : pLs} {M : pMem} {i : Nat} (hn : n ≤ 3074) (hi : i + 6 ≤ n) (hW : LW τ (some (n, xs)) d) (hL : LI L i) (hJ : JM τ M) (K : ∀ M', JM τ M' → lOk (some (n, xs)) d (1416, L, [], gSh, M')) : lOk (some (n, xs)) d (711, L, [], gSh, M) := by
  refine lw_ld (Or.inl ⟨_, rfl⟩) hL.2.1 rfl ?_
  refine lw_arg hL hn hi (k := 1) (by decide) ⟨rfl, rfl, rfl, rfl, rfl⟩ cI_1 ?_
  refine lw_cp (m := 124) (as := [.ref 0, .int (xs (i + 1))]) (ins := .invokevirtual 81) hJ (by decide +kernel) rfl rfl rfl (hW.1 (124, 0, 1) (by decide) [xs (i + 1)] rfl) (fun M1 hJ1 => ?_)
  refine lw_ld (Or.inl ⟨_, rfl⟩) hL.2.2.1 rfl ?_
  refine lw_arg hL hn hi (k := 1) (by decide) ⟨rfl, rfl, rfl, rfl, rfl⟩ cI_1 ?_
  refine lw_cp (m := 206) (as := [.ref 185, .int (xs (i + 1))]) (ins := .invokevirtual 84) hJ1 (by decide +kernel) rfl rfl rfl (hW.1 (206, 185, 1) (by decide) [xs (i + 1)] rfl) (fun M2 hJ2 => ?_)
  exact lw_goto (t := 1416) rfl rfl (K M2 hJ2)
theorem lw_c14 {τ : fT} {n d : Nat} {xs : Nat → Int32} {L : pLs} {M : pMem} {i : Nat} (hn : n ≤ 3074) (hi : i + 6 ≤ n) (hW : LW τ (some (n, xs)) d) (hL : LI L i) (hJ : JM τ M) (K : ∀ M', JM τ M' → lOk (some (n, xs)) d (1416, L, [], gSh, M')) : lOk (some (n, xs)) d (734, L, [], gSh, M) := by
  refine lw_ld (Or.inl ⟨_, rfl⟩) hL.2.1 rfl ?_
  refine lw_arg hL hn hi (k := 1) (by decide) ⟨rfl, rfl, rfl, rfl, rfl⟩ cI_1 ?_
  refine lw_arg hL hn hi (k := 2) (by decide) ⟨rfl, rfl, rfl, rfl, rfl⟩ cI_2 ?_
  refine lw_cp (m := 125) (as := [.ref 0, .int (xs (i + 1)), .int (xs (i + 2))]) (ins := .invokevirtual 85) hJ (by decide +kernel) rfl rfl rfl (hW.1 (125, 0, 2) (by decide) [xs (i + 1), xs (i + 2)] rfl) (fun M1 hJ1 => ?_)
  refine lw_ld (Or.inl ⟨_, rfl⟩) hL.2.2.1 rfl ?_
  refine lw_arg hL hn hi (k := 1) (by decide) ⟨rfl, rfl, rfl, rfl, rfl⟩ cI_1 ?_
  refine lw_arg hL hn hi (k := 2) (by decide) ⟨rfl, rfl, rfl, rfl, rfl⟩ cI_2 ?_
  refine lw_cp (m := 229) (as := [.ref 185, .int (xs (i + 1)), .int (xs (i + 2))]) (ins := .invokevirtual 88) hJ1 (by decide +kernel) rfl rfl rfl (hW.1 (229, 185, 2) (by decide) [xs (i + 1), xs (i + 2)] rfl) (fun M2 hJ2 => ?_)
  exact lw_goto (t := 1416) rfl rfl (K M2 hJ2)
theorem lw_c15 {τ : fT} {n d : Nat} {xs : Nat → Int32} {L : pLs} {M : pMem} {i : Nat} (hn : n ≤ 3074) (hi : i + 6 ≤ n) (hW : LW τ (some (n, xs)) d) (hL : LI L i) (hJ : JM τ M) (K : ∀ M', JM τ M' → lOk (some (n, xs)) d (1416, L, [], gSh, M')) : lOk (some (n, xs)) d (767, L, [], gSh, M) := by
  refine lw_ld (Or.inl ⟨_, rfl⟩) hL.2.1 rfl ?_
  refine lw_arg hL hn hi (k := 1) (by decide) ⟨rfl, rfl, rfl, rfl, rfl⟩ cI_1 ?_
  refine lw_arg hL hn hi (k := 2) (by decide) ⟨rfl, rfl, rfl, rfl, rfl⟩ cI_2 ?_
  refine lw_arg hL hn hi (k := 3) (by decide) ⟨rfl, rfl, rfl, rfl, rfl⟩ cI_3 ?_
  refine lw_cp (m := 126) (as := [.ref 0, .int (xs (i + 1)), .int (xs (i + 2)), .int (xs (i + 3))]) (ins := .invokevirtual 89) hJ (by decide +kernel) rfl rfl rfl (hW.1 (126, 0, 3) (by decide) [xs (i + 1), xs (i + 2), xs (i + 3)] rfl) (fun M1 hJ1 => ?_)
  refine lw_ld (Or.inl ⟨_, rfl⟩) hL.2.2.1 rfl ?_
  refine lw_arg hL hn hi (k := 1) (by decide) ⟨rfl, rfl, rfl, rfl, rfl⟩ cI_1 ?_
  refine lw_arg hL hn hi (k := 2) (by decide) ⟨rfl, rfl, rfl, rfl, rfl⟩ cI_2 ?_
  refine lw_arg hL hn hi (k := 3) (by decide) ⟨rfl, rfl, rfl, rfl, rfl⟩ cI_3 ?_
  refine lw_cp (m := 232) (as := [.ref 185, .int (xs (i + 1)), .int (xs (i + 2)), .int (xs (i + 3))]) (ins := .invokevirtual 93) hJ1 (by decide +kernel) rfl rfl rfl (hW.1 (232, 185, 3) (by decide) [xs (i + 1), xs (i + 2), xs (i + 3)] rfl) (fun M2 hJ2 => ?_)
  exact lw_goto (t := 1416) rfl rfl (K M2 hJ2)
theorem lw_c16 {τ : fT} {n d : Nat} {xs : Nat → Int32} {L : pLs} {M : pMem} {i : Nat} (hn : n ≤ 3074) (hi : i + 6 ≤ n) (hW : LW τ (some (n, xs)) d) (hL : LI L i) (hJ : JM τ M) (K : ∀ M', JM τ M' → lOk (some (n, xs)) d (1416, L, [], gSh, M')) : lOk (some (n, xs)) d (810, L, [], gSh, M) := by
  refine lw_ld (Or.inl ⟨_, rfl⟩) hL.2.1 rfl ?_
  refine lw_arg hL hn hi (k := 1) (by decide) ⟨rfl, rfl, rfl, rfl, rfl⟩ cI_1 ?_
  refine lw_arg hL hn hi (k := 2) (by decide) ⟨rfl, rfl, rfl, rfl, rfl⟩ cI_2 ?_
  refine lw_cp (m := 127) (as := [.ref 0, .int (xs (i + 1)), .int (xs (i + 2))]) (ins := .invokevirtual 94) hJ (by decide +kernel) rfl rfl rfl (hW.1 (127, 0, 2) (by decide) [xs (i + 1), xs (i + 2)] rfl) (fun M1 hJ1 => ?_)
  refine lw_ld (Or.inl ⟨_, rfl⟩) hL.2.2.1 rfl ?_
  refine lw_arg hL hn hi (k := 1) (by decide) ⟨rfl, rfl, rfl, rfl, rfl⟩ cI_1 ?_
  refine lw_arg hL hn hi (k := 2) (by decide) ⟨rfl, rfl, rfl, rfl, rfl⟩ cI_2 ?_
  refine lw_cp (m := 233) (as := [.ref 185, .int (xs (i + 1)), .int (xs (i + 2))]) (ins := .invokevirtual 98) hJ1 (by decide +kernel) rfl rfl rfl (hW.1 (233, 185, 2) (by decide) [xs (i + 1), xs (i + 2)] rfl) (fun M2 hJ2 => ?_)
  exact lw_goto (t := 1416) rfl rfl (K M2 hJ2)
theorem lw_c17 {τ : fT} {n d : Nat} {xs : Nat → Int32} {L : pLs} {M : pMem} {i : Nat} (hn : n ≤ 3074) (hi : i + 6 ≤ n) (hW : LW τ (some (n, xs)) d) (hL : LI L i) (hJ : JM τ M) (K : ∀ M', JM τ M' → lOk (some (n, xs)) d (1416, L, [], gSh, M')) : lOk (some (n, xs)) d (843, L, [], gSh, M) := by
  refine lw_ld (Or.inl ⟨_, rfl⟩) hL.2.1 rfl ?_
  refine lw_arg hL hn hi (k := 1) (by decide) ⟨rfl, rfl, rfl, rfl, rfl⟩ cI_1 ?_
  refine lw_arg hL hn hi (k := 2) (by decide) ⟨rfl, rfl, rfl, rfl, rfl⟩ cI_2 ?_
  refine lw_cp (m := 128) (as := [.ref 0, .int (xs (i + 1)), .int (xs (i + 2))]) (ins := .invokevirtual 99) hJ (by decide +kernel) rfl rfl rfl (hW.1 (128, 0, 2) (by decide) [xs (i + 1), xs (i + 2)] rfl) (fun M1 hJ1 => ?_)
  refine lw_ld (Or.inl ⟨_, rfl⟩) hL.2.2.1 rfl ?_
  refine lw_arg hL hn hi (k := 1) (by decide) ⟨rfl, rfl, rfl, rfl, rfl⟩ cI_1 ?_
  refine lw_arg hL hn hi (k := 2) (by decide) ⟨rfl, rfl, rfl, rfl, rfl⟩ cI_2 ?_
  refine lw_cp (m := 234) (as := [.ref 185, .int (xs (i + 1)), .int (xs (i + 2))]) (ins := .invokevirtual 102) hJ1 (by decide +kernel) rfl rfl rfl (hW.1 (234, 185, 2) (by decide) [xs (i + 1), xs (i + 2)] rfl) (fun M2 hJ2 => ?_)
  exact lw_goto (t := 1416) rfl rfl (K M2 hJ2)
theorem lw_c18 {τ : fT} {n d : Nat} {xs : Nat → Int32} {L : pLs} {M : pMem} {i : Nat} (hn : n ≤ 3074) (hi : i + 6 ≤ n) (hW : LW τ (some (n, xs)) d) (hL : LI L i) (hJ : JM τ M) (K : ∀ M', JM τ M' → lOk (some (n, xs)) d (1416, L, [], gSh, M')) : lOk (some (n, xs)) d (876, L, [], gSh, M) := by
  refine lw_ld (Or.inl ⟨_, rfl⟩) hL.2.1 rfl ?_
  refine lw_arg hL hn hi (k := 1) (by decide) ⟨rfl, rfl, rfl, rfl, rfl⟩ cI_1 ?_
  refine lw_arg hL hn hi (k := 2) (by decide) ⟨rfl, rfl, rfl, rfl, rfl⟩ cI_2 ?_
  refine lw_cp (m := 129) (as := [.ref 0, .int (xs (i + 1)), .int (xs (i + 2))]) (ins := .invokevirtual 103) hJ (by decide +kernel) rfl rfl rfl (hW.1 (129, 0, 2) (by decide) [xs (i + 1), xs (i + 2)] rfl) (fun M1 hJ1 => ?_)
  refine lw_ld (Or.inl ⟨_, rfl⟩) hL.2.2.1 rfl ?_
  refine lw_arg hL hn hi (k := 1) (by decide) ⟨rfl, rfl, rfl, rfl, rfl⟩ cI_1 ?_
  refine lw_arg hL hn hi (k := 2) (by decide) ⟨rfl, rfl, rfl, rfl, rfl⟩ cI_2 ?_
  refine lw_cp (m := 235) (as := [.ref 185, .int (xs (i + 1)), .int (xs (i + 2))]) (ins := .invokevirtual 106) hJ1 (by decide +kernel) rfl rfl rfl (hW.1 (235, 185, 2) (by decide) [xs (i + 1), xs (i + 2)] rfl) (fun M2 hJ2 => ?_)
  exact lw_goto (t := 1416) rfl rfl (K M2 hJ2)
theorem lw_c19 {τ : fT} {n d : Nat} {xs : Nat → Int32} {L : pLs} {M : pMem} {i : Nat} (hn : n ≤ 3074) (hi : i + 6 ≤ n) (hW : LW τ (some (n, xs)) d) (hL : LI L i) (hJ : JM τ M) (K : ∀ M', JM τ M' → lOk (some (n, xs)) d (1416, L, [], gSh, M')) : lOk (some (n, xs)) d (909, L, [], gSh, M) := by
  refine lw_ld (Or.inl ⟨_, rfl⟩) hL.2.1 rfl ?_
  refine lw_arg hL hn hi (k := 1) (by decide) ⟨rfl, rfl, rfl, rfl, rfl⟩ cI_1 ?_
  refine lw_cp (m := 130) (as := [.ref 0, .int (xs (i + 1))]) (ins := .invokevirtual 107) hJ (by decide +kernel) rfl rfl rfl (hW.1 (130, 0, 1) (by decide) [xs (i + 1)] rfl) (fun M1 hJ1 => ?_)
  refine lw_ld (Or.inl ⟨_, rfl⟩) hL.2.2.1 rfl ?_
  refine lw_arg hL hn hi (k := 1) (by decide) ⟨rfl, rfl, rfl, rfl, rfl⟩ cI_1 ?_
  refine lw_cp (m := 247) (as := [.ref 185, .int (xs (i + 1))]) (ins := .invokevirtual 110) hJ1 (by decide +kernel) rfl rfl rfl (hW.1 (247, 185, 1) (by decide) [xs (i + 1)] rfl) (fun M2 hJ2 => ?_)
  exact lw_goto (t := 1416) rfl rfl (K M2 hJ2)
theorem lw_c20 {τ : fT} {n d : Nat} {xs : Nat → Int32} {L : pLs} {M : pMem} {i : Nat} (hn : n ≤ 3074) (hi : i + 6 ≤ n) (hW : LW τ (some (n, xs)) d) (hL : LI L i) (hJ : JM τ M) (K : ∀ M', JM τ M' → lOk (some (n, xs)) d (1416, L, [], gSh, M')) : lOk (some (n, xs)) d (932, L, [], gSh, M) := by
  refine lw_ld (Or.inl ⟨_, rfl⟩) hL.2.1 rfl ?_
  refine lw_cp (m := 131) (as := [.ref 0]) (ins := .invokevirtual 111) hJ (by decide +kernel) rfl rfl rfl (hW.1 (131, 0, 0) (by decide) [] rfl) (fun M1 hJ1 => ?_)
  refine lw_ld (Or.inl ⟨_, rfl⟩) hL.2.2.1 rfl ?_
  refine lw_cp (m := 248) (as := [.ref 185]) (ins := .invokevirtual 114) hJ1 (by decide +kernel) rfl rfl rfl (hW.1 (248, 185, 0) (by decide) [] rfl) (fun M2 hJ2 => ?_)
  exact lw_goto (t := 1416) rfl rfl (K M2 hJ2)
theorem lw_c21 {τ : fT} {n d : Nat} {xs : Nat → Int32} {L : pLs} {M : pMem} {i : Nat} (hn : n ≤ 3074) (hi : i + 6 ≤ n) (hW : LW τ (some (n, xs)) d) (hL : LI L i) (hJ : JM τ M) (K : ∀ M', JM τ M' → lOk (some (n, xs)) d (1416, L, [], gSh, M')) : lOk (some (n, xs)) d (945, L, [], gSh, M) := by
  refine lw_ld (Or.inl ⟨_, rfl⟩) hL.2.1 rfl ?_
  refine lw_arg hL hn hi (k := 1) (by decide) ⟨rfl, rfl, rfl, rfl, rfl⟩ cI_1 ?_
  refine lw_arg hL hn hi (k := 2) (by decide) ⟨rfl, rfl, rfl, rfl, rfl⟩ cI_2 ?_
  refine lw_cp (m := 132) (as := [.ref 0, .int (xs (i + 1)), .int (xs (i + 2))]) (ins := .invokevirtual 115) hJ (by decide +kernel) rfl rfl rfl (hW.1 (132, 0, 2) (by decide) [xs (i + 1), xs (i + 2)] rfl) (fun M1 hJ1 => ?_)
  refine lw_ld (Or.inl ⟨_, rfl⟩) hL.2.2.1 rfl ?_
  refine lw_arg hL hn hi (k := 1) (by decide) ⟨rfl, rfl, rfl, rfl, rfl⟩ cI_1 ?_
  refine lw_arg hL hn hi (k := 2) (by decide) ⟨rfl, rfl, rfl, rfl, rfl⟩ cI_2 ?_
  refine lw_cp (m := 249) (as := [.ref 185, .int (xs (i + 1)), .int (xs (i + 2))]) (ins := .invokevirtual 118) hJ1 (by decide +kernel) rfl rfl rfl (hW.1 (249, 185, 2) (by decide) [xs (i + 1), xs (i + 2)] rfl) (fun M2 hJ2 => ?_)
  exact lw_goto (t := 1416) rfl rfl (K M2 hJ2)
theorem lw_c22 {τ : fT} {n d : Nat} {xs : Nat → Int32} {L : pLs} {M : pMem} {i : Nat} (hn : n ≤ 3074) (hi : i + 6 ≤ n) (hW : LW τ (some (n, xs)) d) (hL : LI L i) (hJ : JM τ M) (K : ∀ M', JM τ M' → lOk (some (n, xs)) d (1416, L, [], gSh, M')) : lOk (some (n, xs)) d (978, L, [], gSh, M) := by
  refine lw_ld (Or.inl ⟨_, rfl⟩) hL.2.1 rfl ?_
  refine lw_arg hL hn hi (k := 1) (by decide) ⟨rfl, rfl, rfl, rfl, rfl⟩ cI_1 ?_
  refine lw_cp (m := 133) (as := [.ref 0, .int (xs (i + 1))]) (ins := .invokevirtual 119) hJ (by decide +kernel) rfl rfl rfl (hW.1 (133, 0, 1) (by decide) [xs (i + 1)] rfl) (fun M1 hJ1 => ?_)
  refine lw_ld (Or.inl ⟨_, rfl⟩) hL.2.2.1 rfl ?_
  refine lw_arg hL hn hi (k := 1) (by decide) ⟨rfl, rfl, rfl, rfl, rfl⟩ cI_1 ?_
  refine lw_cp (m := 251) (as := [.ref 185, .int (xs (i + 1))]) (ins := .invokevirtual 122) hJ1 (by decide +kernel) rfl rfl rfl (hW.1 (251, 185, 1) (by decide) [xs (i + 1)] rfl) (fun M2 hJ2 => ?_)
  exact lw_goto (t := 1416) rfl rfl (K M2 hJ2)
theorem lw_c23 {τ : fT} {n d : Nat} {xs : Nat → Int32} {L : pLs} {M : pMem} {i : Nat} (hn : n ≤ 3074) (hi : i + 6 ≤ n) (hW : LW τ (some (n, xs)) d) (hL : LI L i) (hJ : JM τ M) (K : ∀ M', JM τ M' → lOk (some (n, xs)) d (1416, L, [], gSh, M')) : lOk (some (n, xs)) d (1001, L, [], gSh, M) := by
  refine lw_ld (Or.inl ⟨_, rfl⟩) hL.2.1 rfl ?_
  refine lw_arg hL hn hi (k := 1) (by decide) ⟨rfl, rfl, rfl, rfl, rfl⟩ cI_1 ?_
  refine lw_cp (m := 134) (as := [.ref 0, .int (xs (i + 1))]) (ins := .invokevirtual 123) hJ (by decide +kernel) rfl rfl rfl (hW.1 (134, 0, 1) (by decide) [xs (i + 1)] rfl) (fun M1 hJ1 => ?_)
  refine lw_ld (Or.inl ⟨_, rfl⟩) hL.2.2.1 rfl ?_
  refine lw_arg hL hn hi (k := 1) (by decide) ⟨rfl, rfl, rfl, rfl, rfl⟩ cI_1 ?_
  refine lw_cp (m := 252) (as := [.ref 185, .int (xs (i + 1))]) (ins := .invokevirtual 126) hJ1 (by decide +kernel) rfl rfl rfl (hW.1 (252, 185, 1) (by decide) [xs (i + 1)] rfl) (fun M2 hJ2 => ?_)
  exact lw_goto (t := 1416) rfl rfl (K M2 hJ2)
theorem lw_c24 {τ : fT} {n d : Nat} {xs : Nat → Int32} {L : pLs} {M : pMem} {i : Nat} (hn : n ≤ 3074) (hi : i + 6 ≤ n) (hW : LW τ (some (n, xs)) d) (hL : LI L i) (hJ : JM τ M) (K : ∀ M', JM τ M' → lOk (some (n, xs)) d (1416, L, [], gSh, M')) : lOk (some (n, xs)) d (1024, L, [], gSh, M) := by
  refine lw_ld (Or.inl ⟨_, rfl⟩) hL.2.1 rfl ?_
  refine lw_cp (m := 135) (as := [.ref 0]) (ins := .invokevirtual 127) hJ (by decide +kernel) rfl rfl rfl (hW.1 (135, 0, 0) (by decide) [] rfl) (fun M1 hJ1 => ?_)
  refine lw_ld (Or.inl ⟨_, rfl⟩) hL.2.2.1 rfl ?_
  refine lw_cp (m := 254) (as := [.ref 185]) (ins := .invokevirtual 130) hJ1 (by decide +kernel) rfl rfl rfl (hW.1 (254, 185, 0) (by decide) [] rfl) (fun M2 hJ2 => ?_)
  exact lw_goto (t := 1416) rfl rfl (K M2 hJ2)
theorem lw_c25 {τ : fT} {n d : Nat} {xs : Nat → Int32} {L : pLs} {M : pMem} {i : Nat} (hn : n ≤ 3074) (hi : i + 6 ≤ n) (hW : LW τ (some (n, xs)) d) (hL : LI L i) (hJ : JM τ M) (K : ∀ M', JM τ M' → lOk (some (n, xs)) d (1416, L, [], gSh, M')) : lOk (some (n, xs)) d (1037, L, [], gSh, M) := by
  refine lw_ld (Or.inl ⟨_, rfl⟩) hL.2.1 rfl ?_
  refine lw_arg hL hn hi (k := 1) (by decide) ⟨rfl, rfl, rfl, rfl, rfl⟩ cI_1 ?_
  refine lw_cp (m := 136) (as := [.ref 0, .int (xs (i + 1))]) (ins := .invokevirtual 131) hJ (by decide +kernel) rfl rfl rfl (hW.1 (136, 0, 1) (by decide) [xs (i + 1)] rfl) (fun M1 hJ1 => ?_)
  refine lw_ld (Or.inl ⟨_, rfl⟩) hL.2.2.1 rfl ?_
  refine lw_arg hL hn hi (k := 1) (by decide) ⟨rfl, rfl, rfl, rfl, rfl⟩ cI_1 ?_
  refine lw_cp (m := 257) (as := [.ref 185, .int (xs (i + 1))]) (ins := .invokevirtual 134) hJ1 (by decide +kernel) rfl rfl rfl (hW.1 (257, 185, 1) (by decide) [xs (i + 1)] rfl) (fun M2 hJ2 => ?_)
  exact lw_goto (t := 1416) rfl rfl (K M2 hJ2)
theorem lw_c26 {τ : fT} {n d : Nat} {xs : Nat → Int32} {L : pLs} {M : pMem} {i : Nat} (hn : n ≤ 3074) (hi : i + 6 ≤ n) (hW : LW τ (some (n, xs)) d) (hL : LI L i) (hJ : JM τ M) (K : ∀ M', JM τ M' → lOk (some (n, xs)) d (1416, L, [], gSh, M')) : lOk (some (n, xs)) d (1060, L, [], gSh, M) := by
  refine lw_ld (Or.inl ⟨_, rfl⟩) hL.2.1 rfl ?_
  refine lw_cp (m := 137) (as := [.ref 0]) (ins := .invokevirtual 135) hJ (by decide +kernel) rfl rfl rfl (hW.1 (137, 0, 0) (by decide) [] rfl) (fun M1 hJ1 => ?_)
  refine lw_ld (Or.inl ⟨_, rfl⟩) hL.2.2.1 rfl ?_
  refine lw_cp (m := 258) (as := [.ref 185]) (ins := .invokevirtual 138) hJ1 (by decide +kernel) rfl rfl rfl (hW.1 (258, 185, 0) (by decide) [] rfl) (fun M2 hJ2 => ?_)
  exact lw_goto (t := 1416) rfl rfl (K M2 hJ2)
theorem lw_c27 {τ : fT} {n d : Nat} {xs : Nat → Int32} {L : pLs} {M : pMem} {i : Nat} (hn : n ≤ 3074) (hi : i + 6 ≤ n) (hW : LW τ (some (n, xs)) d) (hL : LI L i) (hJ : JM τ M) (K : ∀ M', JM τ M' → lOk (some (n, xs)) d (1416, L, [], gSh, M')) : lOk (some (n, xs)) d (1073, L, [], gSh, M) := by
  refine lw_ld (Or.inl ⟨_, rfl⟩) hL.2.1 rfl ?_
  refine lw_arg hL hn hi (k := 1) (by decide) ⟨rfl, rfl, rfl, rfl, rfl⟩ cI_1 ?_
  refine lw_cp (m := 138) (as := [.ref 0, .int (xs (i + 1))]) (ins := .invokevirtual 139) hJ (by decide +kernel) rfl rfl rfl (hW.1 (138, 0, 1) (by decide) [xs (i + 1)] rfl) (fun M1 hJ1 => ?_)
  refine lw_ld (Or.inl ⟨_, rfl⟩) hL.2.2.1 rfl ?_
  refine lw_arg hL hn hi (k := 1) (by decide) ⟨rfl, rfl, rfl, rfl, rfl⟩ cI_1 ?_
  refine lw_cp (m := 260) (as := [.ref 185, .int (xs (i + 1))]) (ins := .invokevirtual 142) hJ1 (by decide +kernel) rfl rfl rfl (hW.1 (260, 185, 1) (by decide) [xs (i + 1)] rfl) (fun M2 hJ2 => ?_)
  exact lw_goto (t := 1416) rfl rfl (K M2 hJ2)
theorem lw_c28 {τ : fT} {n d : Nat} {xs : Nat → Int32} {L : pLs} {M : pMem} {i : Nat} (hn : n ≤ 3074) (hi : i + 6 ≤ n) (hW : LW τ (some (n, xs)) d) (hL : LI L i) (hJ : JM τ M) (K : ∀ M', JM τ M' → lOk (some (n, xs)) d (1416, L, [], gSh, M')) : lOk (some (n, xs)) d (1096, L, [], gSh, M) := by
  refine lw_ld (Or.inl ⟨_, rfl⟩) hL.2.1 rfl ?_
  refine lw_arg hL hn hi (k := 1) (by decide) ⟨rfl, rfl, rfl, rfl, rfl⟩ cI_1 ?_
  refine lw_arg hL hn hi (k := 2) (by decide) ⟨rfl, rfl, rfl, rfl, rfl⟩ cI_2 ?_
  refine lw_cp (m := 139) (as := [.ref 0, .int (xs (i + 1)), .int (xs (i + 2))]) (ins := .invokevirtual 143) hJ (by decide +kernel) rfl rfl rfl (hW.1 (139, 0, 2) (by decide) [xs (i + 1), xs (i + 2)] rfl) (fun M1 hJ1 => ?_)
  refine lw_ld (Or.inl ⟨_, rfl⟩) hL.2.2.1 rfl ?_
  refine lw_arg hL hn hi (k := 1) (by decide) ⟨rfl, rfl, rfl, rfl, rfl⟩ cI_1 ?_
  refine lw_arg hL hn hi (k := 2) (by decide) ⟨rfl, rfl, rfl, rfl, rfl⟩ cI_2 ?_
  refine lw_cp (m := 269) (as := [.ref 185, .int (xs (i + 1)), .int (xs (i + 2))]) (ins := .invokevirtual 146) hJ1 (by decide +kernel) rfl rfl rfl (hW.1 (269, 185, 2) (by decide) [xs (i + 1), xs (i + 2)] rfl) (fun M2 hJ2 => ?_)
  exact lw_goto (t := 1416) rfl rfl (K M2 hJ2)
theorem lw_c29 {τ : fT} {n d : Nat} {xs : Nat → Int32} {L : pLs} {M : pMem} {i : Nat} (hn : n ≤ 3074) (hi : i + 6 ≤ n) (hW : LW τ (some (n, xs)) d) (hL : LI L i) (hJ : JM τ M) (K : ∀ M', JM τ M' → lOk (some (n, xs)) d (1416, L, [], gSh, M')) : lOk (some (n, xs)) d (1129, L, [], gSh, M) := by
  refine lw_ld (Or.inl ⟨_, rfl⟩) hL.2.1 rfl ?_
  refine lw_arg hL hn hi (k := 1) (by decide) ⟨rfl, rfl, rfl, rfl, rfl⟩ cI_1 ?_
  refine lw_cp (m := 140) (as := [.ref 0, .int (xs (i + 1))]) (ins := .invokevirtual 147) hJ (by decide +kernel) rfl rfl rfl (hW.1 (140, 0, 1) (by decide) [xs (i + 1)] rfl) (fun M1 hJ1 => ?_)
  refine lw_ld (Or.inl ⟨_, rfl⟩) hL.2.2.1 rfl ?_
  refine lw_arg hL hn hi (k := 1) (by decide) ⟨rfl, rfl, rfl, rfl, rfl⟩ cI_1 ?_
  refine lw_cp (m := 270) (as := [.ref 185, .int (xs (i + 1))]) (ins := .invokevirtual 150) hJ1 (by decide +kernel) rfl rfl rfl (hW.1 (270, 185, 1) (by decide) [xs (i + 1)] rfl) (fun M2 hJ2 => ?_)
  exact lw_goto (t := 1416) rfl rfl (K M2 hJ2)
theorem lw_c30 {τ : fT} {n d : Nat} {xs : Nat → Int32} {L : pLs} {M : pMem} {i : Nat} (hn : n ≤ 3074) (hi : i + 6 ≤ n) (hW : LW τ (some (n, xs)) d) (hL : LI L i) (hJ : JM τ M) (K : ∀ M', JM τ M' → lOk (some (n, xs)) d (1416, L, [], gSh, M')) : lOk (some (n, xs)) d (1152, L, [], gSh, M) := by
  refine lw_ld (Or.inl ⟨_, rfl⟩) hL.2.1 rfl ?_
  refine lw_arg hL hn hi (k := 1) (by decide) ⟨rfl, rfl, rfl, rfl, rfl⟩ cI_1 ?_
  refine lw_arg hL hn hi (k := 2) (by decide) ⟨rfl, rfl, rfl, rfl, rfl⟩ cI_2 ?_
  refine lw_cp (m := 141) (as := [.ref 0, .int (xs (i + 1)), .int (xs (i + 2))]) (ins := .invokevirtual 151) hJ (by decide +kernel) rfl rfl rfl (hW.1 (141, 0, 2) (by decide) [xs (i + 1), xs (i + 2)] rfl) (fun M1 hJ1 => ?_)
  refine lw_ld (Or.inl ⟨_, rfl⟩) hL.2.2.1 rfl ?_
  refine lw_arg hL hn hi (k := 1) (by decide) ⟨rfl, rfl, rfl, rfl, rfl⟩ cI_1 ?_
  refine lw_arg hL hn hi (k := 2) (by decide) ⟨rfl, rfl, rfl, rfl, rfl⟩ cI_2 ?_
  refine lw_cp (m := 271) (as := [.ref 185, .int (xs (i + 1)), .int (xs (i + 2))]) (ins := .invokevirtual 154) hJ1 (by decide +kernel) rfl rfl rfl (hW.1 (271, 185, 2) (by decide) [xs (i + 1), xs (i + 2)] rfl) (fun M2 hJ2 => ?_)
  exact lw_goto (t := 1416) rfl rfl (K M2 hJ2)
theorem lw_c31 {τ : fT} {n d : Nat} {xs : Nat → Int32} {L : pLs} {M : pMem} {i : Nat} (hn : n ≤ 3074) (hi : i + 6 ≤ n) (hW : LW τ (some (n, xs)) d) (hL : LI L i) (hJ : JM τ M) (K : ∀ M', JM τ M' → lOk (some (n, xs)) d (1416, L, [], gSh, M')) : lOk (some (n, xs)) d (1185, L, [], gSh, M) := by
  refine lw_ld (Or.inl ⟨_, rfl⟩) hL.2.1 rfl ?_
  refine lw_arg hL hn hi (k := 1) (by decide) ⟨rfl, rfl, rfl, rfl, rfl⟩ cI_1 ?_
  refine lw_arg hL hn hi (k := 2) (by decide) ⟨rfl, rfl, rfl, rfl, rfl⟩ cI_2 ?_
  refine lw_cp (m := 142) (as := [.ref 0, .int (xs (i + 1)), .int (xs (i + 2))]) (ins := .invokevirtual 155) hJ (by decide +kernel) rfl rfl rfl (hW.1 (142, 0, 2) (by decide) [xs (i + 1), xs (i + 2)] rfl) (fun M1 hJ1 => ?_)
  refine lw_ld (Or.inl ⟨_, rfl⟩) hL.2.2.1 rfl ?_
  refine lw_arg hL hn hi (k := 1) (by decide) ⟨rfl, rfl, rfl, rfl, rfl⟩ cI_1 ?_
  refine lw_arg hL hn hi (k := 2) (by decide) ⟨rfl, rfl, rfl, rfl, rfl⟩ cI_2 ?_
  refine lw_cp (m := 272) (as := [.ref 185, .int (xs (i + 1)), .int (xs (i + 2))]) (ins := .invokevirtual 158) hJ1 (by decide +kernel) rfl rfl rfl (hW.1 (272, 185, 2) (by decide) [xs (i + 1), xs (i + 2)] rfl) (fun M2 hJ2 => ?_)
  exact lw_goto (t := 1416) rfl rfl (K M2 hJ2)
theorem lw_c32 {τ : fT} {n d : Nat} {xs : Nat → Int32} {L : pLs} {M : pMem} {i : Nat} (hn : n ≤ 3074) (hi : i + 6 ≤ n) (hW : LW τ (some (n, xs)) d) (hL : LI L i) (hJ : JM τ M) (K : ∀ M', JM τ M' → lOk (some (n, xs)) d (1416, L, [], gSh, M')) : lOk (some (n, xs)) d (1218, L, [], gSh, M) := by
  refine lw_ld (Or.inl ⟨_, rfl⟩) hL.2.1 rfl ?_
  refine lw_arg hL hn hi (k := 1) (by decide) ⟨rfl, rfl, rfl, rfl, rfl⟩ cI_1 ?_
  refine lw_arg hL hn hi (k := 2) (by decide) ⟨rfl, rfl, rfl, rfl, rfl⟩ cI_2 ?_
  refine lw_cp (m := 143) (as := [.ref 0, .int (xs (i + 1)), .int (xs (i + 2))]) (ins := .invokevirtual 159) hJ (by decide +kernel) rfl rfl rfl (hW.1 (143, 0, 2) (by decide) [xs (i + 1), xs (i + 2)] rfl) (fun M1 hJ1 => ?_)
  refine lw_ld (Or.inl ⟨_, rfl⟩) hL.2.2.1 rfl ?_
  refine lw_arg hL hn hi (k := 1) (by decide) ⟨rfl, rfl, rfl, rfl, rfl⟩ cI_1 ?_
  refine lw_arg hL hn hi (k := 2) (by decide) ⟨rfl, rfl, rfl, rfl, rfl⟩ cI_2 ?_
  refine lw_cp (m := 274) (as := [.ref 185, .int (xs (i + 1)), .int (xs (i + 2))]) (ins := .invokevirtual 162) hJ1 (by decide +kernel) rfl rfl rfl (hW.1 (274, 185, 2) (by decide) [xs (i + 1), xs (i + 2)] rfl) (fun M2 hJ2 => ?_)
  exact lw_goto (t := 1416) rfl rfl (K M2 hJ2)
theorem lw_c33 {τ : fT} {n d : Nat} {xs : Nat → Int32} {L : pLs} {M : pMem} {i : Nat} (hn : n ≤ 3074) (hi : i + 6 ≤ n) (hW : LW τ (some (n, xs)) d) (hL : LI L i) (hJ : JM τ M) (K : ∀ M', JM τ M' → lOk (some (n, xs)) d (1416, L, [], gSh, M')) : lOk (some (n, xs)) d (1251, L, [], gSh, M) := by
  refine lw_ld (Or.inl ⟨_, rfl⟩) hL.2.1 rfl ?_
  refine lw_arg hL hn hi (k := 1) (by decide) ⟨rfl, rfl, rfl, rfl, rfl⟩ cI_1 ?_
  refine lw_arg hL hn hi (k := 2) (by decide) ⟨rfl, rfl, rfl, rfl, rfl⟩ cI_2 ?_
  refine lw_arg hL hn hi (k := 3) (by decide) ⟨rfl, rfl, rfl, rfl, rfl⟩ cI_3 ?_
  refine lw_arg hL hn hi (k := 4) (by decide) ⟨rfl, rfl, rfl, rfl, rfl⟩ cI_4 ?_
  refine lw_cp (m := 144) (as := [.ref 0, .int (xs (i + 1)), .int (xs (i + 2)), .int (xs (i + 3)), .int (xs (i + 4))]) (ins := .invokevirtual 163) hJ (by decide +kernel) rfl rfl rfl (hW.1 (144, 0, 4) (by decide) [xs (i + 1), xs (i + 2), xs (i + 3), xs (i + 4)] rfl) (fun M1 hJ1 => ?_)
  refine lw_ld (Or.inl ⟨_, rfl⟩) hL.2.2.1 rfl ?_
  refine lw_arg hL hn hi (k := 1) (by decide) ⟨rfl, rfl, rfl, rfl, rfl⟩ cI_1 ?_
  refine lw_arg hL hn hi (k := 2) (by decide) ⟨rfl, rfl, rfl, rfl, rfl⟩ cI_2 ?_
  refine lw_arg hL hn hi (k := 3) (by decide) ⟨rfl, rfl, rfl, rfl, rfl⟩ cI_3 ?_
  refine lw_arg hL hn hi (k := 4) (by decide) ⟨rfl, rfl, rfl, rfl, rfl⟩ cI_4 ?_
  refine lw_cp (m := 281) (as := [.ref 185, .int (xs (i + 1)), .int (xs (i + 2)), .int (xs (i + 3)), .int (xs (i + 4))]) (ins := .invokevirtual 167) hJ1 (by decide +kernel) rfl rfl rfl (hW.1 (281, 185, 4) (by decide) [xs (i + 1), xs (i + 2), xs (i + 3), xs (i + 4)] rfl) (fun M2 hJ2 => ?_)
  exact lw_goto (t := 1416) rfl rfl (K M2 hJ2)
theorem lw_c34 {τ : fT} {n d : Nat} {xs : Nat → Int32} {L : pLs} {M : pMem} {i : Nat} (hn : n ≤ 3074) (hi : i + 6 ≤ n) (hW : LW τ (some (n, xs)) d) (hL : LI L i) (hJ : JM τ M) (K : ∀ M', JM τ M' → lOk (some (n, xs)) d (1416, L, [], gSh, M')) : lOk (some (n, xs)) d (1304, L, [], gSh, M) := by
  refine lw_ld (Or.inl ⟨_, rfl⟩) hL.2.1 rfl ?_
  refine lw_arg hL hn hi (k := 1) (by decide) ⟨rfl, rfl, rfl, rfl, rfl⟩ cI_1 ?_
  refine lw_arg hL hn hi (k := 2) (by decide) ⟨rfl, rfl, rfl, rfl, rfl⟩ cI_2 ?_
  refine lw_arg hL hn hi (k := 3) (by decide) ⟨rfl, rfl, rfl, rfl, rfl⟩ cI_3 ?_
  refine lw_arg hL hn hi (k := 4) (by decide) ⟨rfl, rfl, rfl, rfl, rfl⟩ cI_4 ?_
  refine lw_arg hL hn hi (k := 5) (by decide) ⟨rfl, rfl, rfl, rfl, rfl⟩ cI_5 ?_
  refine lw_cp (m := 145) (as := [.ref 0, .int (xs (i + 1)), .int (xs (i + 2)), .int (xs (i + 3)), .int (xs (i + 4)), .int (xs (i + 5))]) (ins := .invokevirtual 168) hJ (by decide +kernel) rfl rfl rfl (hW.1 (145, 0, 5) (by decide) [xs (i + 1), xs (i + 2), xs (i + 3), xs (i + 4), xs (i + 5)] rfl) (fun M1 hJ1 => ?_)
  refine lw_ld (Or.inl ⟨_, rfl⟩) hL.2.2.1 rfl ?_
  refine lw_arg hL hn hi (k := 1) (by decide) ⟨rfl, rfl, rfl, rfl, rfl⟩ cI_1 ?_
  refine lw_arg hL hn hi (k := 2) (by decide) ⟨rfl, rfl, rfl, rfl, rfl⟩ cI_2 ?_
  refine lw_arg hL hn hi (k := 3) (by decide) ⟨rfl, rfl, rfl, rfl, rfl⟩ cI_3 ?_
  refine lw_arg hL hn hi (k := 4) (by decide) ⟨rfl, rfl, rfl, rfl, rfl⟩ cI_4 ?_
  refine lw_arg hL hn hi (k := 5) (by decide) ⟨rfl, rfl, rfl, rfl, rfl⟩ cI_5 ?_
  refine lw_cp (m := 282) (as := [.ref 185, .int (xs (i + 1)), .int (xs (i + 2)), .int (xs (i + 3)), .int (xs (i + 4)), .int (xs (i + 5))]) (ins := .invokevirtual 171) hJ1 (by decide +kernel) rfl rfl rfl (hW.1 (282, 185, 5) (by decide) [xs (i + 1), xs (i + 2), xs (i + 3), xs (i + 4), xs (i + 5)] rfl) (fun M2 hJ2 => ?_)
  exact lw_goto (t := 1416) rfl rfl (K M2 hJ2)
theorem lw_c35 {τ : fT} {n d : Nat} {xs : Nat → Int32} {L : pLs} {M : pMem} {i : Nat} (hn : n ≤ 3074) (hi : i + 6 ≤ n) (hW : LW τ (some (n, xs)) d) (hL : LI L i) (hJ : JM τ M) (K : ∀ M', JM τ M' → lOk (some (n, xs)) d (1416, L, [], gSh, M')) : lOk (some (n, xs)) d (1367, L, [], gSh, M) := by
  refine lw_ld (Or.inl ⟨_, rfl⟩) hL.2.1 rfl ?_
  refine lw_cp (m := 146) (as := [.ref 0]) (ins := .invokevirtual 172) hJ (by decide +kernel) rfl rfl rfl (hW.1 (146, 0, 0) (by decide) [] rfl) (fun M1 hJ1 => ?_)
  refine lw_ld (Or.inl ⟨_, rfl⟩) hL.2.2.1 rfl ?_
  refine lw_cp (m := 283) (as := [.ref 185]) (ins := .invokevirtual 175) hJ1 (by decide +kernel) rfl rfl rfl (hW.1 (283, 185, 0) (by decide) [] rfl) (fun M2 hJ2 => ?_)
  exact lw_goto (t := 1416) rfl rfl (K M2 hJ2)
theorem lw_c36 {τ : fT} {n d : Nat} {xs : Nat → Int32} {L : pLs} {M : pMem} {i : Nat} (hn : n ≤ 3074) (hi : i + 6 ≤ n) (hW : LW τ (some (n, xs)) d) (hL : LI L i) (hJ : JM τ M) (K : ∀ M', JM τ M' → lOk (some (n, xs)) d (1416, L, [], gSh, M')) : lOk (some (n, xs)) d (1380, L, [], gSh, M) := by
  refine lw_ld (Or.inl ⟨_, rfl⟩) hL.2.1 rfl ?_
  refine lw_cp (m := 147) (as := [.ref 0]) (ins := .invokevirtual 176) hJ (by decide +kernel) rfl rfl rfl (hW.1 (147, 0, 0) (by decide) [] rfl) (fun M1 hJ1 => ?_)
  refine lw_ld (Or.inl ⟨_, rfl⟩) hL.2.2.1 rfl ?_
  refine lw_cp (m := 284) (as := [.ref 185]) (ins := .invokevirtual 179) hJ1 (by decide +kernel) rfl rfl rfl (hW.1 (284, 185, 0) (by decide) [] rfl) (fun M2 hJ2 => ?_)
  exact lw_goto (t := 1416) rfl rfl (K M2 hJ2)
theorem lw_c37 {τ : fT} {n d : Nat} {xs : Nat → Int32} {L : pLs} {M : pMem} {i : Nat} (hn : n ≤ 3074) (hi : i + 6 ≤ n) (hW : LW τ (some (n, xs)) d) (hL : LI L i) (hJ : JM τ M) (K : ∀ M', JM τ M' → lOk (some (n, xs)) d (1416, L, [], gSh, M')) : lOk (some (n, xs)) d (1393, L, [], gSh, M) := by
  refine lw_ld (Or.inl ⟨_, rfl⟩) hL.2.1 rfl ?_
  refine lw_arg hL hn hi (k := 1) (by decide) ⟨rfl, rfl, rfl, rfl, rfl⟩ cI_1 ?_
  refine lw_cp (m := 148) (as := [.ref 0, .int (xs (i + 1))]) (ins := .invokevirtual 180) hJ (by decide +kernel) rfl rfl rfl (hW.1 (148, 0, 1) (by decide) [xs (i + 1)] rfl) (fun M1 hJ1 => ?_)
  refine lw_ld (Or.inl ⟨_, rfl⟩) hL.2.2.1 rfl ?_
  refine lw_arg hL hn hi (k := 1) (by decide) ⟨rfl, rfl, rfl, rfl, rfl⟩ cI_1 ?_
  refine lw_cp (m := 285) (as := [.ref 185, .int (xs (i + 1))]) (ins := .invokevirtual 183) hJ1 (by decide +kernel) rfl rfl rfl (hW.1 (285, 185, 1) (by decide) [xs (i + 1)] rfl) (fun M2 hJ2 => ?_)
  exact lw_goto (t := 1416) rfl rfl (K M2 hJ2)
theorem lw_sw {z : Int32} : (z.toInt < 0 ∨ 37 < z.toInt) ∨ ∃ k : Nat, k < 38 ∧ z = nI k := by
  by_cases h : z.toInt < 0 ∨ 37 < z.toInt
  · exact Or.inl h
  · obtain ⟨k, h1, h2, h3⟩ := i32_nat (x := z) (by omega)
    exact Or.inr ⟨k, by omega, h2⟩
theorem lw_one {τ : fT} {n d : Nat} {xs : Nat → Int32} {L : pLs} {M : pMem} {i : Nat} {z : Int32} (hn : n ≤ 3074) (hi : i + 6 ≤ n) (hW : LW τ (some (n, xs)) d) (hL : LI L i) (hJ : JM τ M) (K : ∀ M', JM τ M' → lOk (some (n, xs)) d (1416, L, [], gSh, M')) : lOk (some (n, xs)) d (53, L, [.int z], gSh, M) := by
  rcases lw_sw (z := z) with hz | ⟨k, hk, rfl⟩
  · refine ok_step (i := .tableswitch 1363 0 37 #[167, 200, 223, 298, 321, 364, 427, 470, 513, 536, 599, 622, 635, 658, 681, 714, 757, 790, 823, 856, 879, 892, 925, 948, 971, 984, 1007, 1020, 1043, 1076, 1099, 1132, 1165, 1198, 1251, 1314, 1327, 1340]) (len := 167) (σ := (1416, L, [], gSh, M)) rfl ?_ (K M hJ)
    show (if z.toInt < 0 ∨ 37 < z.toInt then pJp 53 1363 L [] gSh M else _) = _
    rw [if_pos hz]
    rfl
  · match k, hk with
    | 0, _ => exact ok_step (i := .tableswitch 1363 0 37 #[167, 200, 223, 298, 321, 364, 427, 470, 513, 536, 599, 622, 635, 658, 681, 714, 757, 790, 823, 856, 879, 892, 925, 948, 971, 984, 1007, 1020, 1043, 1076, 1099, 1132, 1165, 1198, 1251, 1314, 1327, 1340]) (len := 167) (σ := (220, L, [], gSh, M)) rfl rfl (lw_c0 hn hi hW hL hJ K)
    | 1, _ => exact ok_step (i := .tableswitch 1363 0 37 #[167, 200, 223, 298, 321, 364, 427, 470, 513, 536, 599, 622, 635, 658, 681, 714, 757, 790, 823, 856, 879, 892, 925, 948, 971, 984, 1007, 1020, 1043, 1076, 1099, 1132, 1165, 1198, 1251, 1314, 1327, 1340]) (len := 167) (σ := (253, L, [], gSh, M)) rfl rfl (lw_c1 hn hi hW hL hJ K)
    | 2, _ => exact ok_step (i := .tableswitch 1363 0 37 #[167, 200, 223, 298, 321, 364, 427, 470, 513, 536, 599, 622, 635, 658, 681, 714, 757, 790, 823, 856, 879, 892, 925, 948, 971, 984, 1007, 1020, 1043, 1076, 1099, 1132, 1165, 1198, 1251, 1314, 1327, 1340]) (len := 167) (σ := (276, L, [], gSh, M)) rfl rfl (lw_c2 hn hi hW hL hJ K)
    | 3, _ => exact ok_step (i := .tableswitch 1363 0 37 #[167, 200, 223, 298, 321, 364, 427, 470, 513, 536, 599, 622, 635, 658, 681, 714, 757, 790, 823, 856, 879, 892, 925, 948, 971, 984, 1007, 1020, 1043, 1076, 1099, 1132, 1165, 1198, 1251, 1314, 1327, 1340]) (len := 167) (σ := (351, L, [], gSh, M)) rfl rfl (lw_c3 hn hi hW hL hJ K)
    | 4, _ => exact ok_step (i := .tableswitch 1363 0 37 #[167, 200, 223, 298, 321, 364, 427, 470, 513, 536, 599, 622, 635, 658, 681, 714, 757, 790, 823, 856, 879, 892, 925, 948, 971, 984, 1007, 1020, 1043, 1076, 1099, 1132, 1165, 1198, 1251, 1314, 1327, 1340]) (len := 167) (σ := (374, L, [], gSh, M)) rfl rfl (lw_c4 hn hi hW hL hJ K)
    | 5, _ => exact ok_step (i := .tableswitch 1363 0 37 #[167, 200, 223, 298, 321, 364, 427, 470, 513, 536, 599, 622, 635, 658, 681, 714, 757, 790, 823, 856, 879, 892, 925, 948, 971, 984, 1007, 1020, 1043, 1076, 1099, 1132, 1165, 1198, 1251, 1314, 1327, 1340]) (len := 167) (σ := (417, L, [], gSh, M)) rfl rfl (lw_c5 hn hi hW hL hJ K)
    | 6, _ => exact ok_step (i := .tableswitch 1363 0 37 #[167, 200, 223, 298, 321, 364, 427, 470, 513, 536, 599, 622, 635, 658, 681, 714, 757, 790, 823, 856, 879, 892, 925, 948, 971, 984, 1007, 1020, 1043, 1076, 1099, 1132, 1165, 1198, 1251, 1314, 1327, 1340]) (len := 167) (σ := (480, L, [], gSh, M)) rfl rfl (lw_c6 hn hi hW hL hJ K)
    | 7, _ => exact ok_step (i := .tableswitch 1363 0 37 #[167, 200, 223, 298, 321, 364, 427, 470, 513, 536, 599, 622, 635, 658, 681, 714, 757, 790, 823, 856, 879, 892, 925, 948, 971, 984, 1007, 1020, 1043, 1076, 1099, 1132, 1165, 1198, 1251, 1314, 1327, 1340]) (len := 167) (σ := (523, L, [], gSh, M)) rfl rfl (lw_c7 hn hi hW hL hJ K)
    | 8, _ => exact ok_step (i := .tableswitch 1363 0 37 #[167, 200, 223, 298, 321, 364, 427, 470, 513, 536, 599, 622, 635, 658, 681, 714, 757, 790, 823, 856, 879, 892, 925, 948, 971, 984, 1007, 1020, 1043, 1076, 1099, 1132, 1165, 1198, 1251, 1314, 1327, 1340]) (len := 167) (σ := (566, L, [], gSh, M)) rfl rfl (lw_c8 hn hi hW hL hJ K)
    | 9, _ => exact ok_step (i := .tableswitch 1363 0 37 #[167, 200, 223, 298, 321, 364, 427, 470, 513, 536, 599, 622, 635, 658, 681, 714, 757, 790, 823, 856, 879, 892, 925, 948, 971, 984, 1007, 1020, 1043, 1076, 1099, 1132, 1165, 1198, 1251, 1314, 1327, 1340]) (len := 167) (σ := (589, L, [], gSh, M)) rfl rfl (lw_c9 hn hi hW hL hJ K)
    | 10, _ => exact ok_step (i := .tableswitch 1363 0 37 #[167, 200, 223, 298, 321, 364, 427, 470, 513, 536, 599, 622, 635, 658, 681, 714, 757, 790, 823, 856, 879, 892, 925, 948, 971, 984, 1007, 1020, 1043, 1076, 1099, 1132, 1165, 1198, 1251, 1314, 1327, 1340]) (len := 167) (σ := (652, L, [], gSh, M)) rfl rfl (lw_c10 hn hi hW hL hJ K)
    | 11, _ => exact ok_step (i := .tableswitch 1363 0 37 #[167, 200, 223, 298, 321, 364, 427, 470, 513, 536, 599, 622, 635, 658, 681, 714, 757, 790, 823, 856, 879, 892, 925, 948, 971, 984, 1007, 1020, 1043, 1076, 1099, 1132, 1165, 1198, 1251, 1314, 1327, 1340]) (len := 167) (σ := (675, L, [], gSh, M)) rfl rfl (lw_c11 hn hi hW hL hJ K)
    | 12, _ => exact ok_step (i := .tableswitch 1363 0 37 #[167, 200, 223, 298, 321, 364, 427, 470, 513, 536, 599, 622, 635, 658, 681, 714, 757, 790, 823, 856, 879, 892, 925, 948, 971, 984, 1007, 1020, 1043, 1076, 1099, 1132, 1165, 1198, 1251, 1314, 1327, 1340]) (len := 167) (σ := (688, L, [], gSh, M)) rfl rfl (lw_c12 hn hi hW hL hJ K)
    | 13, _ => exact ok_step (i := .tableswitch 1363 0 37 #[167, 200, 223, 298, 321, 364, 427, 470, 513, 536, 599, 622, 635, 658, 681, 714, 757, 790, 823, 856, 879, 892, 925, 948, 971, 984, 1007, 1020, 1043, 1076, 1099, 1132, 1165, 1198, 1251, 1314, 1327, 1340]) (len := 167) (σ := (711, L, [], gSh, M)) rfl rfl (lw_c13 hn hi hW hL hJ K)
    | 14, _ => exact ok_step (i := .tableswitch 1363 0 37 #[167, 200, 223, 298, 321, 364, 427, 470, 513, 536, 599, 622, 635, 658, 681, 714, 757, 790, 823, 856, 879, 892, 925, 948, 971, 984, 1007, 1020, 1043, 1076, 1099, 1132, 1165, 1198, 1251, 1314, 1327, 1340]) (len := 167) (σ := (734, L, [], gSh, M)) rfl rfl (lw_c14 hn hi hW hL hJ K)
    | 15, _ => exact ok_step (i := .tableswitch 1363 0 37 #[167, 200, 223, 298, 321, 364, 427, 470, 513, 536, 599, 622, 635, 658, 681, 714, 757, 790, 823, 856, 879, 892, 925, 948, 971, 984, 1007, 1020, 1043, 1076, 1099, 1132, 1165, 1198, 1251, 1314, 1327, 1340]) (len := 167) (σ := (767, L, [], gSh, M)) rfl rfl (lw_c15 hn hi hW hL hJ K)
    | 16, _ => exact ok_step (i := .tableswitch 1363 0 37 #[167, 200, 223, 298, 321, 364, 427, 470, 513, 536, 599, 622, 635, 658, 681, 714, 757, 790, 823, 856, 879, 892, 925, 948, 971, 984, 1007, 1020, 1043, 1076, 1099, 1132, 1165, 1198, 1251, 1314, 1327, 1340]) (len := 167) (σ := (810, L, [], gSh, M)) rfl rfl (lw_c16 hn hi hW hL hJ K)
    | 17, _ => exact ok_step (i := .tableswitch 1363 0 37 #[167, 200, 223, 298, 321, 364, 427, 470, 513, 536, 599, 622, 635, 658, 681, 714, 757, 790, 823, 856, 879, 892, 925, 948, 971, 984, 1007, 1020, 1043, 1076, 1099, 1132, 1165, 1198, 1251, 1314, 1327, 1340]) (len := 167) (σ := (843, L, [], gSh, M)) rfl rfl (lw_c17 hn hi hW hL hJ K)
    | 18, _ => exact ok_step (i := .tableswitch 1363 0 37 #[167, 200, 223, 298, 321, 364, 427, 470, 513, 536, 599, 622, 635, 658, 681, 714, 757, 790, 823, 856, 879, 892, 925, 948, 971, 984, 1007, 1020, 1043, 1076, 1099, 1132, 1165, 1198, 1251, 1314, 1327, 1340]) (len := 167) (σ := (876, L, [], gSh, M)) rfl rfl (lw_c18 hn hi hW hL hJ K)
    | 19, _ => exact ok_step (i := .tableswitch 1363 0 37 #[167, 200, 223, 298, 321, 364, 427, 470, 513, 536, 599, 622, 635, 658, 681, 714, 757, 790, 823, 856, 879, 892, 925, 948, 971, 984, 1007, 1020, 1043, 1076, 1099, 1132, 1165, 1198, 1251, 1314, 1327, 1340]) (len := 167) (σ := (909, L, [], gSh, M)) rfl rfl (lw_c19 hn hi hW hL hJ K)
    | 20, _ => exact ok_step (i := .tableswitch 1363 0 37 #[167, 200, 223, 298, 321, 364, 427, 470, 513, 536, 599, 622, 635, 658, 681, 714, 757, 790, 823, 856, 879, 892, 925, 948, 971, 984, 1007, 1020, 1043, 1076, 1099, 1132, 1165, 1198, 1251, 1314, 1327, 1340]) (len := 167) (σ := (932, L, [], gSh, M)) rfl rfl (lw_c20 hn hi hW hL hJ K)
    | 21, _ => exact ok_step (i := .tableswitch 1363 0 37 #[167, 200, 223, 298, 321, 364, 427, 470, 513, 536, 599, 622, 635, 658, 681, 714, 757, 790, 823, 856, 879, 892, 925, 948, 971, 984, 1007, 1020, 1043, 1076, 1099, 1132, 1165, 1198, 1251, 1314, 1327, 1340]) (len := 167) (σ := (945, L, [], gSh, M)) rfl rfl (lw_c21 hn hi hW hL hJ K)
    | 22, _ => exact ok_step (i := .tableswitch 1363 0 37 #[167, 200, 223, 298, 321, 364, 427, 470, 513, 536, 599, 622, 635, 658, 681, 714, 757, 790, 823, 856, 879, 892, 925, 948, 971, 984, 1007, 1020, 1043, 1076, 1099, 1132, 1165, 1198, 1251, 1314, 1327, 1340]) (len := 167) (σ := (978, L, [], gSh, M)) rfl rfl (lw_c22 hn hi hW hL hJ K)
    | 23, _ => exact ok_step (i := .tableswitch 1363 0 37 #[167, 200, 223, 298, 321, 364, 427, 470, 513, 536, 599, 622, 635, 658, 681, 714, 757, 790, 823, 856, 879, 892, 925, 948, 971, 984, 1007, 1020, 1043, 1076, 1099, 1132, 1165, 1198, 1251, 1314, 1327, 1340]) (len := 167) (σ := (1001, L, [], gSh, M)) rfl rfl (lw_c23 hn hi hW hL hJ K)
    | 24, _ => exact ok_step (i := .tableswitch 1363 0 37 #[167, 200, 223, 298, 321, 364, 427, 470, 513, 536, 599, 622, 635, 658, 681, 714, 757, 790, 823, 856, 879, 892, 925, 948, 971, 984, 1007, 1020, 1043, 1076, 1099, 1132, 1165, 1198, 1251, 1314, 1327, 1340]) (len := 167) (σ := (1024, L, [], gSh, M)) rfl rfl (lw_c24 hn hi hW hL hJ K)
    | 25, _ => exact ok_step (i := .tableswitch 1363 0 37 #[167, 200, 223, 298, 321, 364, 427, 470, 513, 536, 599, 622, 635, 658, 681, 714, 757, 790, 823, 856, 879, 892, 925, 948, 971, 984, 1007, 1020, 1043, 1076, 1099, 1132, 1165, 1198, 1251, 1314, 1327, 1340]) (len := 167) (σ := (1037, L, [], gSh, M)) rfl rfl (lw_c25 hn hi hW hL hJ K)
    | 26, _ => exact ok_step (i := .tableswitch 1363 0 37 #[167, 200, 223, 298, 321, 364, 427, 470, 513, 536, 599, 622, 635, 658, 681, 714, 757, 790, 823, 856, 879, 892, 925, 948, 971, 984, 1007, 1020, 1043, 1076, 1099, 1132, 1165, 1198, 1251, 1314, 1327, 1340]) (len := 167) (σ := (1060, L, [], gSh, M)) rfl rfl (lw_c26 hn hi hW hL hJ K)
    | 27, _ => exact ok_step (i := .tableswitch 1363 0 37 #[167, 200, 223, 298, 321, 364, 427, 470, 513, 536, 599, 622, 635, 658, 681, 714, 757, 790, 823, 856, 879, 892, 925, 948, 971, 984, 1007, 1020, 1043, 1076, 1099, 1132, 1165, 1198, 1251, 1314, 1327, 1340]) (len := 167) (σ := (1073, L, [], gSh, M)) rfl rfl (lw_c27 hn hi hW hL hJ K)
    | 28, _ => exact ok_step (i := .tableswitch 1363 0 37 #[167, 200, 223, 298, 321, 364, 427, 470, 513, 536, 599, 622, 635, 658, 681, 714, 757, 790, 823, 856, 879, 892, 925, 948, 971, 984, 1007, 1020, 1043, 1076, 1099, 1132, 1165, 1198, 1251, 1314, 1327, 1340]) (len := 167) (σ := (1096, L, [], gSh, M)) rfl rfl (lw_c28 hn hi hW hL hJ K)
    | 29, _ => exact ok_step (i := .tableswitch 1363 0 37 #[167, 200, 223, 298, 321, 364, 427, 470, 513, 536, 599, 622, 635, 658, 681, 714, 757, 790, 823, 856, 879, 892, 925, 948, 971, 984, 1007, 1020, 1043, 1076, 1099, 1132, 1165, 1198, 1251, 1314, 1327, 1340]) (len := 167) (σ := (1129, L, [], gSh, M)) rfl rfl (lw_c29 hn hi hW hL hJ K)
    | 30, _ => exact ok_step (i := .tableswitch 1363 0 37 #[167, 200, 223, 298, 321, 364, 427, 470, 513, 536, 599, 622, 635, 658, 681, 714, 757, 790, 823, 856, 879, 892, 925, 948, 971, 984, 1007, 1020, 1043, 1076, 1099, 1132, 1165, 1198, 1251, 1314, 1327, 1340]) (len := 167) (σ := (1152, L, [], gSh, M)) rfl rfl (lw_c30 hn hi hW hL hJ K)
    | 31, _ => exact ok_step (i := .tableswitch 1363 0 37 #[167, 200, 223, 298, 321, 364, 427, 470, 513, 536, 599, 622, 635, 658, 681, 714, 757, 790, 823, 856, 879, 892, 925, 948, 971, 984, 1007, 1020, 1043, 1076, 1099, 1132, 1165, 1198, 1251, 1314, 1327, 1340]) (len := 167) (σ := (1185, L, [], gSh, M)) rfl rfl (lw_c31 hn hi hW hL hJ K)
    | 32, _ => exact ok_step (i := .tableswitch 1363 0 37 #[167, 200, 223, 298, 321, 364, 427, 470, 513, 536, 599, 622, 635, 658, 681, 714, 757, 790, 823, 856, 879, 892, 925, 948, 971, 984, 1007, 1020, 1043, 1076, 1099, 1132, 1165, 1198, 1251, 1314, 1327, 1340]) (len := 167) (σ := (1218, L, [], gSh, M)) rfl rfl (lw_c32 hn hi hW hL hJ K)
    | 33, _ => exact ok_step (i := .tableswitch 1363 0 37 #[167, 200, 223, 298, 321, 364, 427, 470, 513, 536, 599, 622, 635, 658, 681, 714, 757, 790, 823, 856, 879, 892, 925, 948, 971, 984, 1007, 1020, 1043, 1076, 1099, 1132, 1165, 1198, 1251, 1314, 1327, 1340]) (len := 167) (σ := (1251, L, [], gSh, M)) rfl rfl (lw_c33 hn hi hW hL hJ K)
    | 34, _ => exact ok_step (i := .tableswitch 1363 0 37 #[167, 200, 223, 298, 321, 364, 427, 470, 513, 536, 599, 622, 635, 658, 681, 714, 757, 790, 823, 856, 879, 892, 925, 948, 971, 984, 1007, 1020, 1043, 1076, 1099, 1132, 1165, 1198, 1251, 1314, 1327, 1340]) (len := 167) (σ := (1304, L, [], gSh, M)) rfl rfl (lw_c34 hn hi hW hL hJ K)
    | 35, _ => exact ok_step (i := .tableswitch 1363 0 37 #[167, 200, 223, 298, 321, 364, 427, 470, 513, 536, 599, 622, 635, 658, 681, 714, 757, 790, 823, 856, 879, 892, 925, 948, 971, 984, 1007, 1020, 1043, 1076, 1099, 1132, 1165, 1198, 1251, 1314, 1327, 1340]) (len := 167) (σ := (1367, L, [], gSh, M)) rfl rfl (lw_c35 hn hi hW hL hJ K)
    | 36, _ => exact ok_step (i := .tableswitch 1363 0 37 #[167, 200, 223, 298, 321, 364, 427, 470, 513, 536, 599, 622, 635, 658, 681, 714, 757, 790, 823, 856, 879, 892, 925, 948, 971, 984, 1007, 1020, 1043, 1076, 1099, 1132, 1165, 1198, 1251, 1314, 1327, 1340]) (len := 167) (σ := (1380, L, [], gSh, M)) rfl rfl (lw_c36 hn hi hW hL hJ K)
    | 37, _ => exact ok_step (i := .tableswitch 1363 0 37 #[167, 200, 223, 298, 321, 364, 427, 470, 513, 536, 599, 622, 635, 658, 681, 714, 757, 790, 823, 856, 879, 892, 925, 948, 971, 984, 1007, 1020, 1043, 1076, 1099, 1132, 1165, 1198, 1251, 1314, 1327, 1340]) (len := 167) (σ := (1393, L, [], gSh, M)) rfl rfl (lw_c37 hn hi hW hL hJ K)
    | k + 38, hk => omega
theorem pS1_ne {j : Nat} : ∀ {L : pLs} {k : Nat} {v : Value}, k < 3 → v.category = 1 → pLd L k = some v → pLd (L.filter (fun q => !(q.1 == 3) && !(q.1 + 1 == 3 && q.2.category == 2))) k = some v
  | [], k, v, _, _, hl => by cases hl
  | p :: L, k, v, hk, hv, hl => by
    have ih := pS1_ne (j := j) (L := L) (k := k) (v := v) hk hv
    unfold pLd at hl ih ⊢
    rw [List.find?_cons] at hl
    cases e1 : (p.1 == k) with
    | true =>
      rw [e1] at hl
      have hl : some p.2 = some v := hl
      have e2 : p.1 = k := by simpa using e1
      have e3 : (!(p.1 == 3) && !(p.1 + 1 == 3 && p.2.category == 2)) = true := by
        have e4 : p.2 = v := Option.some.inj hl
        have e5 : (k == 3) = false := by
          rw [beq_eq_false_iff_ne]
          omega
        rw [e4, hv, e2, e5]
        simp
      rw [List.filter_cons_of_pos (by exact e3), List.find?_cons, e1]
      exact hl
    | false =>
      rw [e1] at hl
      have hl : (L.find? (fun q => q.1 == k)).map (fun q => q.2) = some v := hl
      cases e3 : (!(p.1 == 3) && !(p.1 + 1 == 3 && p.2.category == 2)) with
      | true =>
        rw [List.filter_cons_of_pos (by exact e3), List.find?_cons, e1]
        exact ih hl
      | false =>
        rw [List.filter_cons_of_neg (by rw [e3]; decide)]
        exact ih hl
theorem LI_put {L : pLs} {j : Nat} (h : pLd L 0 = some (.retAddr 1) ∧ pLd L 1 = some (.ref 0) ∧ pLd L 2 = some (.ref 185)) : LI (pS1 L 3 (.int (nI j))) j := by
  have hf : ∀ (k : Nat) (v : Value), k < 3 → v.category = 1 → pLd L k = some v → pLd (pS1 L 3 (.int (nI j))) k = some v := by
    intro k v hk hv hl
    have e : (3 == k) = false := by
      rw [beq_eq_false_iff_ne]
      omega
    unfold pLd pS1
    rw [List.find?_cons, show ((3, (Value.int (nI j))).1 == k) = false from e]
    exact pS1_ne (j := j) hk hv hl
  exact ⟨hf 0 _ (by decide) rfl h.1, hf 1 _ (by decide) rfl h.2.1, hf 2 _ (by decide) rfl h.2.2, rfl⟩
theorem lw_head {n d : Nat} {xs : Nat → Int32} {L : pLs} {M : pMem} {i : Nat} (hn : n ≤ 3074) (hi : i ≤ n + 6) (hL : LI L i) (K : i + 6 ≤ n → lOk (some (n, xs)) d (53, L, [.int (xs i &&& (Int8.ofInt 63).toInt32)], gSh, M)) : lOk (some (n, xs)) d (38, L, [], gSh, M) := by
  refine lw_li hL.2.2.2 (j := 3) rfl ?_
  refine lw_ld (Or.inr rfl) hL.1 (j := 0) rfl ?_
  refine ok_step (i := .arraylength) (len := 1) (σ := (41, L, [.int (Int32.ofNat n), .int (nI i)], gSh, M)) rfl rfl ?_
  refine ok_step (i := .bipush 6) (len := 2) (σ := (43, L, [.int (nI 6), .int (Int32.ofNat n), .int (nI i)], gSh, M)) rfl rfl ?_
  refine ok_step (i := .isub) (len := 1) (σ := (44, L, [.int (nI n - nI 6), .int (nI i)], gSh, M)) rfl rfl ?_
  have e : (nI n - nI 6).toInt = (n : Int) - 6 := by
    rw [Int32.toInt_sub, hI_int (a := n) (by omega), hI_int (a := 6) (by omega)]
    apply Int.bmod_eq_of_le <;> omega
  refine ok_icmp 1422 rfl rfl (fun _ => ?_) (fun h => ?_)
  · refine ok_step (i := .iconst 1) (len := 1) (σ := (1423, L, [.int 1], gSh, M)) rfl rfl ?_
    refine ok_ret (i := .ireturn) (len := 1) rfl rfl ⟨some (.int 1), rfl, rfl, 205, ?_⟩
    exact gSh_full.symm
  · simp only [pCP] at h
    rw [e, hI_int (a := i) (by omega)] at h
    have hi6 : i + 6 ≤ n := by omega
    refine lw_ld (Or.inr rfl) hL.1 (j := 0) rfl ?_
    refine lw_li hL.2.2.2 (j := 3) rfl ?_
    refine lw_scr rfl (by omega) hn ?_
    refine ok_step (i := .bipush 63) (len := 2) (σ := (52, L, [.int ((Int8.ofInt 63).toInt32), .int (xs i)], gSh, M)) rfl rfl ?_
    exact ok_step (i := .iand) (len := 1) (σ := (53, L, [.int (xs i &&& (Int8.ofInt 63).toInt32)], gSh, M)) rfl rfl (K hi6)
theorem law_loop {τ : fT} {n d : Nat} {xs : Nat → Int32} (hn : n ≤ 3074) (hW : LW τ (some (n, xs)) d) : ∀ (r i : Nat) (L : pLs) (M : pMem), n < i + r → i ≤ n + 6 → LI L i → JM τ M → lOk (some (n, xs)) d (38, L, [], gSh, M) := by
  intro r
  induction r with
  | zero =>
    intro i L M hr hi hL hJ
    exact lw_head hn hi hL (fun h => by omega)
  | succ r ih =>
    intro i L M hr hi hL hJ
    refine lw_head hn hi hL (fun h => ?_)
    refine lw_one hn h hW hL hJ (fun M' hJ' => ?_)
    refine ok_step (i := .iinc 3 6) (len := 3) (σ := (1419, pS1 L 3 (.int (nI (i + 6))), [], gSh, M')) rfl ?_ ?_
    · show (match pLd L 3 with | some (.int x) => if 3 < 4 then pGo (1416 + 3) (pS1 L 3 (.int (x + Int32.ofInt 6))) [] gSh M' else none | _ => none) = _
      rw [hL.2.2.2]
      show some (Sum.inl (1419, pS1 L 3 (.int (nI i + Int32.ofInt 6)), [], gSh, M')) = _
      rw [show Int32.ofInt 6 = nI 6 by decide, hI_add]
    · refine ok_step (i := .goto (-1381)) (len := 3) (σ := (38, pS1 L 3 (.int (nI (i + 6))), [], gSh, M')) rfl rfl ?_
      exact ih (i + 6) _ M' (by omega) (by omega) (LI_put ⟨hL.1, hL.2.1, hL.2.2.1⟩) hJ'

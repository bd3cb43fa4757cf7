/-! by hand, printed by wip/gen/gen47.py -/
theorem ok_irem {S : pScr} {o nL d pc : Nat} {ini : Bool} {code : Nat → Option (Instr × Nat)} {Post : Instr → Nat → pSt → Prop} {L : pLs} {st : List Value} {sh : pSh} {M : pMem} {x y : Int32} (hc : code pc = some (.irem, 1)) (hy : y ≠ 0) (k : pOk S o ini nL code d Post (pc + 1, L, .int (x - x / y * y) :: st, sh, M)) : pOk S o ini nL code d Post (pc, L, .int y :: .int x :: st, sh, M) := by
  refine ok_step hc ?_ k
  show (if y = 0 then none else pGo (pc + 1) L (.int (x - x / y * y) :: st) sh M) = _
  rw [if_neg hy]
  rfl
theorem rem_in {x : Int32} (h : 0 ≤ x.toInt) : ∃ n : Nat, n ≤ 9 ∧ x - x / nI 10 * nI 10 = nI n := by
  have e10 : (nI 10).toInt = 10 := by decide
  have h1 := aBinI_ok 9 (x := x) (y := nI 10) (a := 0) (b := 2147483647) (c := 10) (d := 10) h (by have := x.toInt_lt; omega) (by omega) (by omega)
  have h2 : 0 ≤ (x - x / nI 10 * nI 10).toInt ∧ (x - x / nI 10 * nI 10).toInt ≤ 9 := h1
  obtain ⟨n, k1, k2⟩ := ty_nat (x := []) (hi := 9) ⟨_, rfl, h2.1, h2.2⟩
  injection k2 with k2
  exact ⟨n, by omega, k2⟩
theorem prV_at {f : Nat → Value} {k : Nat} (h : 160 ≤ k ∧ k ≤ 175) : prV f k = f k := by
  have e : prK k = true := by
    unfold prK
    have h1 : Nat.ble k 159 = false := by
      cases hb : Nat.ble k 159 with
      | false => rfl
      | true => exact absurd (Nat.le_of_ble_eq_true hb) (by omega)
    rw [h1]
    exact Nat.ble_eq_true_of_le h.2
  show @Bool.rec (fun _ => Value) .null (f k) (prK k) = f k
  rw [e]
theorem ten_row {f : Nat → Value} {w : Nat} (h : tenOk f) (hw : w < 4) : ∃ c0 c1 c2 c3 : Nat, c0 + c1 + c2 + c3 = 10 ∧ f (160 + 4 * w) = .int (nI c0) ∧ f (160 + 4 * w + 1) = .int (nI c1) ∧ f (160 + 4 * w + 2) = .int (nI c2) ∧ f (160 + 4 * w + 3) = .int (nI c3) := by
  obtain ⟨h1, h2⟩ := h w hw
  have get : ∀ j, j < 4 → ∃ n : Nat, n ≤ 10 ∧ f (160 + 4 * w + j) = .int (nI n) ∧ vI (f (160 + 4 * w + j)) = n := by
    intro j hj
    obtain ⟨⟨z, hz⟩, k1, k2⟩ := h1 j hj
    rw [hz] at k1 k2 ⊢
    obtain ⟨n, -, e2, e3⟩ := i32_nat (x := z) k1
    have k2 : z.toInt ≤ 10 := k2
    exact ⟨n, by omega, by rw [e2], e3⟩
  obtain ⟨c0, -, a0, b0⟩ := get 0 (by decide)
  obtain ⟨c1, -, a1, b1⟩ := get 1 (by decide)
  obtain ⟨c2, -, a2, b2⟩ := get 2 (by decide)
  obtain ⟨c3, -, a3, b3⟩ := get 3 (by decide)
  rw [show 160 + 4 * w + 0 = 160 + 4 * w by omega] at a0 b0
  rw [b0, b1, b2, b3] at h2
  exact ⟨c0, c1, c2, c3, by omega, a0, a1, a2, a3⟩
theorem gR_row {M : pMem} {w : Nat} (h : gR M) (hw : w < 4) : ∃ c0 c1 c2 c3 : Nat, c0 + c1 + c2 + c3 = 10 ∧ M 186 (160 + 4 * w) = .int (nI c0) ∧ M 186 (160 + 4 * w + 1) = .int (nI c1) ∧ M 186 (160 + 4 * w + 2) = .int (nI c2) ∧ M 186 (160 + 4 * w + 3) = .int (nI c3) := by
  obtain ⟨c0, c1, c2, c3, h0, h1, h2, h3, h4⟩ := ten_row h.1 hw
  rw [prV_at (by omega)] at h1 h2 h3 h4
  exact ⟨c0, c1, c2, c3, h0, h1, h2, h3, h4⟩
theorem c_chance {S : pScr} {d w v z : Nat} {M : pMem} (h3 : M 185 3 = .ref 186) (hw : w < 4) (hv : v < 4) (hz : M 186 (160 + 4 * w + v) = .int (nI z)) : cOk S (d + 1) 261 [.ref 185, .int (nI w), .int (nI v)] (gSh, M) (fun r hp => r = some (.int (nI z)) ∧ hp = (gSh, M)) := by
  refine c_of_ok (Nat.le_of_ble_eq_true rfl) ?_
  refine ok_seq 2 (σ' := (4, [(0, .ref 185), (1, .int (nI w)), (2, .int (nI v))], [M 185 3], gSh, M)) rfl ?_
  rw [h3]
  refine ok_seq 7 (σ' := (13, [(0, .ref 185), (1, .int (nI w)), (2, .int (nI v))], [.int ((((Int16.ofInt 160).toInt32) + ((Int32.ofInt 4) * (nI w))) + (nI v)), .ref 186], gSh, M)) rfl ?_
  rw [(show (Int16.ofInt 160).toInt32 = nI 160 by decide), cI_4, hI_mul 4 w, hI_add 160 (4 * w), hI_add (160 + (4 * w)) v]
  refine ok_iald (n := 280) (v := nI z) rfl rfl (hI_in (by omega) (by decide)) (by rw [hI_nat (by omega)]; exact hz) ?_
  exact ok_ret (i := .ireturn) (len := 1) rfl rfl ⟨_, rfl, rfl, rfl⟩
theorem h_drawWind {S : pScr} {d : Nat} {e0 : aE} {τ : fT} (hT : pO τ e0) : cnOk τ S (d + 2) 278 ([(1, 0, 0, [185]), (0, 0, 100000, [])], [(0, 0, 3, [])], some [], [], []) := by
  intro vs M hvs hM hg hf
  match vs, hvs with
  | [v0, v1], ⟨k0, ⟨x, k1, x1, x2⟩, _⟩ =>
    have k0 := ty_ref k0
    have k1 : v1 = .int x := k1
    subst k0 k1
    have post : ∀ (r : Option Value) (hp : pHp), ((∃ v : Nat, v ≤ 3 ∧ r = some (.int (nI v))) ∧ hp = (gSh, M)) → (hp.1 = gSh ∧ tyM (tOf τ) hp.2 ∧ satS [(0, 0, 3, [])] r.toList ∧ frm (some []) M hp.2 ∧ fctM [] hp.2) := by
      rintro r hp ⟨⟨v, hv, rfl⟩, rfl⟩
      exact ⟨rfl, hM, ⟨sat_n (by omega) (by omega), trivial⟩, frm.rf _ _, fun q hq => by cases hq⟩
    refine cOk.mono ?_ post
    refine c_of_ok (Nat.le_of_ble_eq_true rfl) ?_
    obtain ⟨w, hw, h46⟩ := ty_nat (poy hT hM 3 rfl rfl)
    have h3 := ty_ref (pty hT.1.1 hM 0 rfl rfl)
    obtain ⟨c0, c1, c2, c3, hs, r0, r1, r2, r3⟩ := gR_row hg (w := w) (by omega)
    obtain ⟨lf, hlf, elf⟩ := rem_in (x := x) x1
    refine ok_seq 2 (σ' := (3, [(0, .ref 185), (1, .int x)], [.int ((Int8.ofInt 10).toInt32), .int x], gSh, M)) rfl ?_
    rw [(show (Int8.ofInt 10).toInt32 = nI 10 by decide)]
    refine ok_irem rfl (by decide) ?_
    rw [elf]
    refine ok_seq 7 (σ' := (13, [(3, .int (Int32.ofInt 0)), (2, .int (nI lf)), (0, .ref 185), (1, .int x)], [M 185 46, .ref 185, .int (nI lf)], gSh, M)) rfl ?_
    rw [h46]
    rw [cI_0]
    refine ok_seq 1 (σ' := (14, [(3, .int (nI 0)), (2, .int (nI lf)), (0, .ref 185), (1, .int x)], [.int (nI 0), .int (nI w), .ref 185, .int (nI lf)], gSh, M)) rfl ?_
    refine ok_call (mi := 261) (as := [.ref 185, .int (nI w), .int (nI 0)]) (pc' := 17) (L' := [(3, .int (nI 0)), (2, .int (nI lf)), (0, .ref 185), (1, .int x)]) (st' := [.int (nI lf)]) (sh' := gSh) (M' := M) (i := .invokevirtual 401) (len := 3) rfl rfl ?_
    refine (((c_chance (d := 0) (v := 0) (z := c0) h3 (by omega) (by decide) r0).deep (by omega))).mono ?_
    rintro v hp ⟨rfl, rfl⟩
    refine ok_icmp 38 rfl rfl ?_ ?_
    · intro hl0
      simp only [pCP] at hl0
      rw [hI_int (a := lf) (by omega), hI_int (a := c0) (by omega)] at hl0
      have hl0 : ((lf : Nat) : Int) < ((c0 : Nat) : Int) := by omega
      refine ok_seq 1 (σ' := (39, [(3, .int (nI 0)), (2, .int (nI lf)), (0, .ref 185), (1, .int x)], [.int (nI 0)], gSh, M)) rfl ?_
      exact ok_ret (i := .ireturn) (len := 1) rfl rfl ⟨_, rfl, ⟨0, by decide, rfl⟩, rfl⟩
    · intro hl0
      simp only [pCP] at hl0
      rw [hI_int (a := lf) (by omega), hI_int (a := c0) (by omega)] at hl0
      have hl0 : ((lf : Nat) : Int) ≥ ((c0 : Nat) : Int) := by omega
      refine ok_seq 4 (σ' := (26, [(3, .int (nI 0)), (2, .int (nI lf)), (0, .ref 185), (1, .int x)], [M 185 46, .ref 185, .int (nI lf)], gSh, M)) rfl ?_
      rw [h46]
      refine ok_seq 1 (σ' := (27, [(3, .int (nI 0)), (2, .int (nI lf)), (0, .ref 185), (1, .int x)], [.int (nI 0), .int (nI w), .ref 185, .int (nI lf)], gSh, M)) rfl ?_
      refine ok_call (mi := 261) (as := [.ref 185, .int (nI w), .int (nI 0)]) (pc' := 30) (L' := [(3, .int (nI 0)), (2, .int (nI lf)), (0, .ref 185), (1, .int x)]) (st' := [.int (nI lf)]) (sh' := gSh) (M' := M) (i := .invokevirtual 401) (len := 3) rfl rfl ?_
      refine (((c_chance (d := 0) (v := 0) (z := c0) h3 (by omega) (by decide) r0).deep (by omega))).mono ?_
      rintro v hp ⟨rfl, rfl⟩
      refine ok_seq 4 (σ' := (7, [(3, .int ((nI 0) + (Int32.ofInt 1))), (2, .int ((nI lf) - (nI c0))), (0, .ref 185), (1, .int x)], [], gSh, M)) rfl ?_
      rw [cI_1, hI_add 0 1, hI_sub lf c0 (by omega)]
      refine ok_seq 4 (σ' := (13, [(3, .int (nI 1)), (2, .int (nI (lf - c0))), (0, .ref 185), (1, .int x)], [M 185 46, .ref 185, .int (nI (lf - c0))], gSh, M)) rfl ?_
      rw [h46]
      refine ok_seq 1 (σ' := (14, [(3, .int (nI 1)), (2, .int (nI (lf - c0))), (0, .ref 185), (1, .int x)], [.int (nI 1), .int (nI w), .ref 185, .int (nI (lf - c0))], gSh, M)) rfl ?_
      refine ok_call (mi := 261) (as := [.ref 185, .int (nI w), .int (nI 1)]) (pc' := 17) (L' := [(3, .int (nI 1)), (2, .int (nI (lf - c0))), (0, .ref 185), (1, .int x)]) (st' := [.int (nI (lf - c0))]) (sh' := gSh) (M' := M) (i := .invokevirtual 401) (len := 3) rfl rfl ?_
      refine (((c_chance (d := 0) (v := 1) (z := c1) h3 (by omega) (by decide) r1).deep (by omega))).mono ?_
      rintro v hp ⟨rfl, rfl⟩
      refine ok_icmp 38 rfl rfl ?_ ?_
      · intro hl1
        simp only [pCP] at hl1
        rw [hI_int (a := lf - c0) (by omega), hI_int (a := c1) (by omega)] at hl1
        have hl1 : ((lf - c0 : Nat) : Int) < ((c1 : Nat) : Int) := by omega
        refine ok_seq 1 (σ' := (39, [(3, .int (nI 1)), (2, .int (nI (lf - c0))), (0, .ref 185), (1, .int x)], [.int (nI 1)], gSh, M)) rfl ?_
        exact ok_ret (i := .ireturn) (len := 1) rfl rfl ⟨_, rfl, ⟨1, by decide, rfl⟩, rfl⟩
      · intro hl1
        simp only [pCP] at hl1
        rw [hI_int (a := lf - c0) (by omega), hI_int (a := c1) (by omega)] at hl1
        have hl1 : ((lf - c0 : Nat) : Int) ≥ ((c1 : Nat) : Int) := by omega
        refine ok_seq 4 (σ' := (26, [(3, .int (nI 1)), (2, .int (nI (lf - c0))), (0, .ref 185), (1, .int x)], [M 185 46, .ref 185, .int (nI (lf - c0))], gSh, M)) rfl ?_
        rw [h46]
        refine ok_seq 1 (σ' := (27, [(3, .int (nI 1)), (2, .int (nI (lf - c0))), (0, .ref 185), (1, .int x)], [.int (nI 1), .int (nI w), .ref 185, .int (nI (lf - c0))], gSh, M)) rfl ?_
        refine ok_call (mi := 261) (as := [.ref 185, .int (nI w), .int (nI 1)]) (pc' := 30) (L' := [(3, .int (nI 1)), (2, .int (nI (lf - c0))), (0, .ref 185), (1, .int x)]) (st' := [.int (nI (lf - c0))]) (sh' := gSh) (M' := M) (i := .invokevirtual 401) (len := 3) rfl rfl ?_
        refine (((c_chance (d := 0) (v := 1) (z := c1) h3 (by omega) (by decide) r1).deep (by omega))).mono ?_
        rintro v hp ⟨rfl, rfl⟩
        refine ok_seq 4 (σ' := (7, [(3, .int ((nI 1) + (Int32.ofInt 1))), (2, .int ((nI (lf - c0)) - (nI c1))), (0, .ref 185), (1, .int x)], [], gSh, M)) rfl ?_
        rw [cI_1, hI_add 1 1, hI_sub (lf - c0) c1 (by omega)]
        refine ok_seq 4 (σ' := (13, [(3, .int (nI 2)), (2, .int (nI ((lf - c0) - c1))), (0, .ref 185), (1, .int x)], [M 185 46, .ref 185, .int (nI ((lf - c0) - c1))], gSh, M)) rfl ?_
        rw [h46]
        refine ok_seq 1 (σ' := (14, [(3, .int (nI 2)), (2, .int (nI ((lf - c0) - c1))), (0, .ref 185), (1, .int x)], [.int (nI 2), .int (nI w), .ref 185, .int (nI ((lf - c0) - c1))], gSh, M)) rfl ?_
        refine ok_call (mi := 261) (as := [.ref 185, .int (nI w), .int (nI 2)]) (pc' := 17) (L' := [(3, .int (nI 2)), (2, .int (nI ((lf - c0) - c1))), (0, .ref 185), (1, .int x)]) (st' := [.int (nI ((lf - c0) - c1))]) (sh' := gSh) (M' := M) (i := .invokevirtual 401) (len := 3) rfl rfl ?_
        refine (((c_chance (d := 0) (v := 2) (z := c2) h3 (by omega) (by decide) r2).deep (by omega))).mono ?_
        rintro v hp ⟨rfl, rfl⟩
        refine ok_icmp 38 rfl rfl ?_ ?_
        · intro hl2
          simp only [pCP] at hl2
          rw [hI_int (a := (lf - c0) - c1) (by omega), hI_int (a := c2) (by omega)] at hl2
          have hl2 : (((lf - c0) - c1 : Nat) : Int) < ((c2 : Nat) : Int) := by omega
          refine ok_seq 1 (σ' := (39, [(3, .int (nI 2)), (2, .int (nI ((lf - c0) - c1))), (0, .ref 185), (1, .int x)], [.int (nI 2)], gSh, M)) rfl ?_
          exact ok_ret (i := .ireturn) (len := 1) rfl rfl ⟨_, rfl, ⟨2, by decide, rfl⟩, rfl⟩
        · intro hl2
          simp only [pCP] at hl2
          rw [hI_int (a := (lf - c0) - c1) (by omega), hI_int (a := c2) (by omega)] at hl2
          have hl2 : (((lf - c0) - c1 : Nat) : Int) ≥ ((c2 : Nat) : Int) := by omega
          refine ok_seq 4 (σ' := (26, [(3, .int (nI 2)), (2, .int (nI ((lf - c0) - c1))), (0, .ref 185), (1, .int x)], [M 185 46, .ref 185, .int (nI ((lf - c0) - c1))], gSh, M)) rfl ?_
          rw [h46]
          refine ok_seq 1 (σ' := (27, [(3, .int (nI 2)), (2, .int (nI ((lf - c0) - c1))), (0, .ref 185), (1, .int x)], [.int (nI 2), .int (nI w), .ref 185, .int (nI ((lf - c0) - c1))], gSh, M)) rfl ?_
          refine ok_call (mi := 261) (as := [.ref 185, .int (nI w), .int (nI 2)]) (pc' := 30) (L' := [(3, .int (nI 2)), (2, .int (nI ((lf - c0) - c1))), (0, .ref 185), (1, .int x)]) (st' := [.int (nI ((lf - c0) - c1))]) (sh' := gSh) (M' := M) (i := .invokevirtual 401) (len := 3) rfl rfl ?_
          refine (((c_chance (d := 0) (v := 2) (z := c2) h3 (by omega) (by decide) r2).deep (by omega))).mono ?_
          rintro v hp ⟨rfl, rfl⟩
          refine ok_seq 4 (σ' := (7, [(3, .int ((nI 2) + (Int32.ofInt 1))), (2, .int ((nI ((lf - c0) - c1)) - (nI c2))), (0, .ref 185), (1, .int x)], [], gSh, M)) rfl ?_
          rw [cI_1, hI_add 2 1, hI_sub ((lf - c0) - c1) c2 (by omega)]
          refine ok_seq 4 (σ' := (13, [(3, .int (nI 3)), (2, .int (nI (((lf - c0) - c1) - c2))), (0, .ref 185), (1, .int x)], [M 185 46, .ref 185, .int (nI (((lf - c0) - c1) - c2))], gSh, M)) rfl ?_
          rw [h46]
          refine ok_seq 1 (σ' := (14, [(3, .int (nI 3)), (2, .int (nI (((lf - c0) - c1) - c2))), (0, .ref 185), (1, .int x)], [.int (nI 3), .int (nI w), .ref 185, .int (nI (((lf - c0) - c1) - c2))], gSh, M)) rfl ?_
          refine ok_call (mi := 261) (as := [.ref 185, .int (nI w), .int (nI 3)]) (pc' := 17) (L' := [(3, .int (nI 3)), (2, .int (nI (((lf - c0) - c1) - c2))), (0, .ref 185), (1, .int x)]) (st' := [.int (nI (((lf - c0) - c1) - c2))]) (sh' := gSh) (M' := M) (i := .invokevirtual 401) (len := 3) rfl rfl ?_
          refine (((c_chance (d := 0) (v := 3) (z := c3) h3 (by omega) (by decide) r3).deep (by omega))).mono ?_
          rintro v hp ⟨rfl, rfl⟩
          refine ok_icmp 38 rfl rfl (fun _ => ?_) (fun hz => absurd (by simp only [pCP]; rw [hI_int (a := ((lf - c0) - c1) - c2) (by omega), hI_int (a := c3) (by omega)]; omega) hz)
          refine ok_seq 1 (σ' := (39, [(3, .int (nI 3)), (2, .int (nI (((lf - c0) - c1) - c2))), (0, .ref 185), (1, .int x)], [.int (nI 3)], gSh, M)) rfl ?_
          exact ok_ret (i := .ireturn) (len := 1) rfl rfl ⟨_, rfl, ⟨3, by decide, rfl⟩, rfl⟩
abbrev chK (S : pScr) (d : Nat) (Q : Option Value → pHp → Prop) (σ : pSt) : Prop := pOk S 12 false 6 (pCode 168) d (fun i len τ' => ∃ v, pRet (some .boolean) i len τ'.2.2.1 = some v ∧ Q v (τ'.2.2.2.1, τ'.2.2.2.2)) σ
theorem c_isWind {S : pScr} {d : Nat} {M : pMem} {x : Int32} : cOk S (d + 2) 160 [.int x] (gSh, M) (fun r hp => ((r = some (.int (nI 1)) ∧ ((0 : Nat) : Int) ≤ x.toInt ∧ x.toInt ≤ ((3 : Nat) : Int)) ∨ (r = some (.int (nI 0)) ∧ ¬ (((0 : Nat) : Int) ≤ x.toInt ∧ x.toInt ≤ ((3 : Nat) : Int)))) ∧ hp = (gSh, M)) := by
  refine c_of_ok (Nat.le_of_ble_eq_true rfl) ?_
  refine ok_seq 3 (σ' := (3, [(0, .int x)], [.int (Int32.ofInt 3), .int (Int32.ofInt 0), .int x], gSh, M)) rfl ?_
  rw [cI_0, cI_3]
  refine ok_call (mi := 158) (as := [.int x, .int (nI 0), .int (nI 3)]) (pc' := 6) (L' := [(0, .int x)]) (st' := []) (sh' := gSh) (M' := M) (i := .invokestatic 90) (len := 3) rfl rfl ?_
  refine (c_isIn).mono ?_
  rintro v hp ⟨hv, rfl⟩
  rw [hI_int (a := 0) (by omega), hI_int (a := 3) (by omega)] at hv
  rcases hv with ⟨rfl, h1, h2⟩ | ⟨rfl, h1⟩
  · exact ok_ret (i := .ireturn) (len := 1) rfl rfl ⟨some (.int (nI 1)), pb1, Or.inl ⟨rfl, h1, h2⟩, rfl⟩
  · exact ok_ret (i := .ireturn) (len := 1) rfl rfl ⟨some (.int (nI 0)), pb0, Or.inr ⟨rfl, h1⟩, rfl⟩
theorem c_chances {S : pScr} {d : Nat} {τ : fT} {M : pMem} {w p q r s : Int32} (hT : pT τ) (hR : ∀ k, 160 ≤ k → k < 176 → rowAt (τ 186) k = some (0, 0, 10, [])) (hM : tyM (tOf τ) M) (hg : gR M) : cOk S (d + 3) 168 [.ref 185, .int w, .int p, .int q, .int r, .int s] (gSh, M) (fun r hp => hp.1 = gSh ∧ (∃ b : Nat, b ≤ 1 ∧ r = some (.int (nI b))) ∧ tyM (tOf τ) hp.2 ∧ gR hp.2 ∧ (∀ o, o ≠ 186 → hp.2 o = M o) ∧ ∀ k, (k < 160 ∨ 176 ≤ k) → hp.2 186 k = M 186 k) := by
  refine c_of_ok (Nat.le_of_ble_eq_true rfl) ?_
  have h3 := ty_ref (pty hT hM 0 rfl rfl)
  have no : ∀ L : pLs, chK S (d + 2) (fun r hp => hp.1 = gSh ∧ (∃ b : Nat, b ≤ 1 ∧ r = some (.int (nI b))) ∧ tyM (tOf τ) hp.2 ∧ gR hp.2 ∧ (∀ o, o ≠ 186 → hp.2 o = M o) ∧ ∀ k, (k < 160 ∨ 176 ≤ k) → hp.2 186 k = M 186 k) (63, L, [], gSh, M) := by
    intro L
    refine ok_seq 1 (σ' := (64, L, [.int (Int32.ofInt 0)], gSh, M)) rfl ?_
    rw [cI_0]
    exact ok_ret (i := .ireturn) (len := 1) rfl rfl ⟨some (.int (nI 0)), pb0, rfl, ⟨0, by decide, rfl⟩, hM, hg, fun _ _ => rfl, fun _ _ => rfl⟩
  refine ok_seq 1 (σ' := (1, [(0, .ref 185), (1, .int w), (2, .int p), (3, .int q), (4, .int r), (5, .int s)], [.int w], gSh, M)) rfl ?_
  refine ok_call (mi := 160) (as := [.int w]) (pc' := 4) (L' := [(0, .ref 185), (1, .int w), (2, .int p), (3, .int q), (4, .int r), (5, .int s)]) (st' := []) (sh' := gSh) (M' := M) (i := .invokestatic 102) (len := 3) rfl rfl ?_
  refine (c_isWind).mono ?_
  rintro v hp ⟨hv, rfl⟩
  rcases hv with ⟨rfl, h1, h2⟩ | ⟨rfl, h1⟩
  · obtain ⟨wn, hwn, ew⟩ := ty_nat (x := []) (hi := 3) ⟨w, rfl, h1, h2⟩
    cases ew
    refine ok_if 63 rfl rfl (fun hz => absurd hz (by simp only [pCP]; rw [hI_int (a := 1) (by omega)]; omega)) (fun _ => ?_)
    refine ok_seq 3 (σ' := (11, [(0, .ref 185), (1, .int (nI wn)), (2, .int p), (3, .int q), (4, .int r), (5, .int s)], [.int ((Int8.ofInt 10).toInt32), .int (Int32.ofInt 0), .int p], gSh, M)) rfl ?_
    rw [cI_0, (show (Int8.ofInt 10).toInt32 = nI 10 by decide)]
    refine ok_call (mi := 158) (as := [.int p, .int (nI 0), .int (nI 10)]) (pc' := 14) (L' := [(0, .ref 185), (1, .int (nI wn)), (2, .int p), (3, .int q), (4, .int r), (5, .int s)]) (st' := []) (sh' := gSh) (M' := M) (i := .invokestatic 90) (len := 3) rfl rfl ?_
    refine ((c_isIn (d := d + 1))).mono ?_
    rintro v hp ⟨hv, rfl⟩
    rw [hI_int (a := 0) (by omega), hI_int (a := 10) (by omega)] at hv
    rcases hv with ⟨rfl, h1, h2⟩ | ⟨rfl, h1⟩
    · obtain ⟨pn, hpn, ep⟩ := ty_nat (x := []) (hi := 10) ⟨p, rfl, h1, h2⟩
      cases ep
      refine ok_if 63 rfl rfl (fun hz => absurd hz (by simp only [pCP]; rw [hI_int (a := 1) (by omega)]; omega)) (fun _ => ?_)
      refine ok_seq 3 (σ' := (21, [(0, .ref 185), (1, .int (nI wn)), (2, .int (nI pn)), (3, .int q), (4, .int r), (5, .int s)], [.int ((Int8.ofInt 10).toInt32), .int (Int32.ofInt 0), .int q], gSh, M)) rfl ?_
      rw [cI_0, (show (Int8.ofInt 10).toInt32 = nI 10 by decide)]
      refine ok_call (mi := 158) (as := [.int q, .int (nI 0), .int (nI 10)]) (pc' := 24) (L' := [(0, .ref 185), (1, .int (nI wn)), (2, .int (nI pn)), (3, .int q), (4, .int r), (5, .int s)]) (st' := []) (sh' := gSh) (M' := M) (i := .invokestatic 90) (len := 3) rfl rfl ?_
      refine ((c_isIn (d := d + 1))).mono ?_
      rintro v hp ⟨hv, rfl⟩
      rw [hI_int (a := 0) (by omega), hI_int (a := 10) (by omega)] at hv
      rcases hv with ⟨rfl, h1, h2⟩ | ⟨rfl, h1⟩
      · obtain ⟨qn, hqn, eq⟩ := ty_nat (x := []) (hi := 10) ⟨q, rfl, h1, h2⟩
        cases eq
        refine ok_if 63 rfl rfl (fun hz => absurd hz (by simp only [pCP]; rw [hI_int (a := 1) (by omega)]; omega)) (fun _ => ?_)
        refine ok_seq 3 (σ' := (32, [(0, .ref 185), (1, .int (nI wn)), (2, .int (nI pn)), (3, .int (nI qn)), (4, .int r), (5, .int s)], [.int ((Int8.ofInt 10).toInt32), .int (Int32.ofInt 0), .int r], gSh, M)) rfl ?_
        rw [cI_0, (show (Int8.ofInt 10).toInt32 = nI 10 by decide)]
        refine ok_call (mi := 158) (as := [.int r, .int (nI 0), .int (nI 10)]) (pc' := 35) (L' := [(0, .ref 185), (1, .int (nI wn)), (2, .int (nI pn)), (3, .int (nI qn)), (4, .int r), (5, .int s)]) (st' := []) (sh' := gSh) (M' := M) (i := .invokestatic 90) (len := 3) rfl rfl ?_
        refine ((c_isIn (d := d + 1))).mono ?_
        rintro v hp ⟨hv, rfl⟩
        rw [hI_int (a := 0) (by omega), hI_int (a := 10) (by omega)] at hv
        rcases hv with ⟨rfl, h1, h2⟩ | ⟨rfl, h1⟩
        · obtain ⟨rn, hrn, er⟩ := ty_nat (x := []) (hi := 10) ⟨r, rfl, h1, h2⟩
          cases er
          refine ok_if 63 rfl rfl (fun hz => absurd hz (by simp only [pCP]; rw [hI_int (a := 1) (by omega)]; omega)) (fun _ => ?_)
          refine ok_seq 3 (σ' := (43, [(0, .ref 185), (1, .int (nI wn)), (2, .int (nI pn)), (3, .int (nI qn)), (4, .int (nI rn)), (5, .int s)], [.int ((Int8.ofInt 10).toInt32), .int (Int32.ofInt 0), .int s], gSh, M)) rfl ?_
          rw [cI_0, (show (Int8.ofInt 10).toInt32 = nI 10 by decide)]
          refine ok_call (mi := 158) (as := [.int s, .int (nI 0), .int (nI 10)]) (pc' := 46) (L' := [(0, .ref 185), (1, .int (nI wn)), (2, .int (nI pn)), (3, .int (nI qn)), (4, .int (nI rn)), (5, .int s)]) (st' := []) (sh' := gSh) (M' := M) (i := .invokestatic 90) (len := 3) rfl rfl ?_
          refine ((c_isIn (d := d + 1))).mono ?_
          rintro v hp ⟨hv, rfl⟩
          rw [hI_int (a := 0) (by omega), hI_int (a := 10) (by omega)] at hv
          rcases hv with ⟨rfl, h1, h2⟩ | ⟨rfl, h1⟩
          · obtain ⟨sn, hsn, es⟩ := ty_nat (x := []) (hi := 10) ⟨s, rfl, h1, h2⟩
            cases es
            refine ok_if 63 rfl rfl (fun hz => absurd hz (by simp only [pCP]; rw [hI_int (a := 1) (by omega)]; omega)) (fun _ => ?_)
            refine ok_seq 8 (σ' := (60, [(0, .ref 185), (1, .int (nI wn)), (2, .int (nI pn)), (3, .int (nI qn)), (4, .int (nI rn)), (5, .int (nI sn))], [.int ((Int8.ofInt 10).toInt32), .int ((((nI pn) + (nI qn)) + (nI rn)) + (nI sn))], gSh, M)) rfl ?_
            rw [hI_add pn qn, hI_add (pn + qn) rn, hI_add (pn + qn + rn) sn, (show (Int8.ofInt 10).toInt32 = nI 10 by decide)]
            refine ok_icmp 65 rfl rfl ?_ ?_
            · intro hsum
              simp only [pCP] at hsum
              rw [hI_int (a := pn + qn + rn + sn) (by omega), hI_int (a := 10) (by omega)] at hsum
              have hsum : ((pn + qn + rn + sn : Nat) : Int) = ((10 : Nat) : Int) := by omega
              refine ok_seq 2 (σ' := (69, [(0, .ref 185), (1, .int (nI wn)), (2, .int (nI pn)), (3, .int (nI qn)), (4, .int (nI rn)), (5, .int (nI sn))], [M 185 3], gSh, M)) rfl ?_
              rw [h3]
              refine ok_seq 6 (σ' := (77, [(0, .ref 185), (1, .int (nI wn)), (2, .int (nI pn)), (3, .int (nI qn)), (4, .int (nI rn)), (5, .int (nI sn))], [.int (nI pn), .int (((Int16.ofInt 160).toInt32) + ((Int32.ofInt 4) * (nI wn))), .ref 186], gSh, M)) rfl ?_
              rw [(show (Int16.ofInt 160).toInt32 = nI 160 by decide), cI_4, hI_mul 4 wn, hI_add 160 (4 * wn)]
              refine ok_iast (n := 280) rfl rfl (hI_in (by omega) (by decide)) ?_
              rw [hI_nat (a := 160 + (4 * wn)) (by omega)]
              refine ok_seq 2 (σ' := (82, [(0, .ref 185), (1, .int (nI wn)), (2, .int (nI pn)), (3, .int (nI qn)), (4, .int (nI rn)), (5, .int (nI sn))], [M 185 3], gSh, pUp M 186 (160 + (4 * wn)) (.int (nI pn)))) rfl ?_
              rw [h3]
              refine ok_seq 8 (σ' := (92, [(0, .ref 185), (1, .int (nI wn)), (2, .int (nI pn)), (3, .int (nI qn)), (4, .int (nI rn)), (5, .int (nI sn))], [.int (nI qn), .int ((((Int16.ofInt 160).toInt32) + ((Int32.ofInt 4) * (nI wn))) + (Int32.ofInt 1)), .ref 186], gSh, pUp M 186 (160 + (4 * wn)) (.int (nI pn)))) rfl ?_
              rw [(show (Int16.ofInt 160).toInt32 = nI 160 by decide), cI_4, hI_mul 4 wn, hI_add 160 (4 * wn), cI_1, hI_add (160 + (4 * wn)) 1]
              refine ok_iast (n := 280) rfl rfl (hI_in (by omega) (by decide)) ?_
              rw [hI_nat (a := 160 + (4 * wn) + 1) (by omega)]
              refine ok_seq 2 (σ' := (97, [(0, .ref 185), (1, .int (nI wn)), (2, .int (nI pn)), (3, .int (nI qn)), (4, .int (nI rn)), (5, .int (nI sn))], [M 185 3], gSh, pUp (pUp M 186 (160 + (4 * wn)) (.int (nI pn))) 186 (160 + (4 * wn) + 1) (.int (nI qn)))) rfl ?_
              rw [h3]
              refine ok_seq 8 (σ' := (108, [(0, .ref 185), (1, .int (nI wn)), (2, .int (nI pn)), (3, .int (nI qn)), (4, .int (nI rn)), (5, .int (nI sn))], [.int (nI rn), .int ((((Int16.ofInt 160).toInt32) + ((Int32.ofInt 4) * (nI wn))) + (Int32.ofInt 2)), .ref 186], gSh, pUp (pUp M 186 (160 + (4 * wn)) (.int (nI pn))) 186 (160 + (4 * wn) + 1) (.int (nI qn)))) rfl ?_
              rw [(show (Int16.ofInt 160).toInt32 = nI 160 by decide), cI_4, hI_mul 4 wn, hI_add 160 (4 * wn), cI_2, hI_add (160 + (4 * wn)) 2]
              refine ok_iast (n := 280) rfl rfl (hI_in (by omega) (by decide)) ?_
              rw [hI_nat (a := 160 + (4 * wn) + 2) (by omega)]
              refine ok_seq 2 (σ' := (113, [(0, .ref 185), (1, .int (nI wn)), (2, .int (nI pn)), (3, .int (nI qn)), (4, .int (nI rn)), (5, .int (nI sn))], [M 185 3], gSh, pUp (pUp (pUp M 186 (160 + (4 * wn)) (.int (nI pn))) 186 (160 + (4 * wn) + 1) (.int (nI qn))) 186 (160 + (4 * wn) + 2) (.int (nI rn)))) rfl ?_
              rw [h3]
              refine ok_seq 8 (σ' := (124, [(0, .ref 185), (1, .int (nI wn)), (2, .int (nI pn)), (3, .int (nI qn)), (4, .int (nI rn)), (5, .int (nI sn))], [.int (nI sn), .int ((((Int16.ofInt 160).toInt32) + ((Int32.ofInt 4) * (nI wn))) + (Int32.ofInt 3)), .ref 186], gSh, pUp (pUp (pUp M 186 (160 + (4 * wn)) (.int (nI pn))) 186 (160 + (4 * wn) + 1) (.int (nI qn))) 186 (160 + (4 * wn) + 2) (.int (nI rn)))) rfl ?_
              rw [(show (Int16.ofInt 160).toInt32 = nI 160 by decide), cI_4, hI_mul 4 wn, hI_add 160 (4 * wn), cI_3, hI_add (160 + (4 * wn)) 3]
              refine ok_iast (n := 280) rfl rfl (hI_in (by omega) (by decide)) ?_
              rw [hI_nat (a := 160 + (4 * wn) + 3) (by omega)]
              refine ok_seq 1 (σ' := (126, [(0, .ref 185), (1, .int (nI wn)), (2, .int (nI pn)), (3, .int (nI qn)), (4, .int (nI rn)), (5, .int (nI sn))], [.int (Int32.ofInt 1)], gSh, pUp (pUp (pUp (pUp M 186 (160 + (4 * wn)) (.int (nI pn))) 186 (160 + (4 * wn) + 1) (.int (nI qn))) 186 (160 + (4 * wn) + 2) (.int (nI rn))) 186 (160 + (4 * wn) + 3) (.int (nI sn)))) rfl ?_
              rw [cI_1]
              have st10 : ∀ (M1 : pMem) (k n : Nat), tyM (tOf τ) M1 → 160 ≤ k → k < 176 → n ≤ 10 → tyM (tOf τ) (pUp M1 186 k (.int (nI n))) := fun M1 k n a1 a2 a3 a4 => tyM_up a1 (by rw [tyAt_row hT.1]; exact hR k a2 a3) (sat_n (by omega) (by omega))
              refine ok_ret (i := .ireturn) (len := 1) rfl rfl ⟨some (.int (nI 1)), pb1, rfl, ⟨1, by decide, rfl⟩, ?_, ?_, ?_, ?_⟩
              · exact st10 _ _ _ (st10 _ _ _ (st10 _ _ _ (st10 _ _ _ hM (by omega) (by omega) (by omega)) (by omega) (by omega) (by omega)) (by omega) (by omega) (by omega)) (by omega) (by omega) (by omega)
              · have e188 : ∀ o, o ≠ 186 → (pUp (pUp (pUp (pUp M 186 (160 + (4 * wn)) (.int (nI pn))) 186 (160 + (4 * wn) + 1) (.int (nI qn))) 186 (160 + (4 * wn) + 2) (.int (nI rn))) 186 (160 + (4 * wn) + 3) (.int (nI sn))) o = M o := fun o ho => by rw [pUp_ne ho, pUp_ne ho, pUp_ne ho, pUp_ne ho]
                refine ⟨?_, ?_, ?_⟩
                · intro w2 hw2
                  by_cases e : wn = w2
                  · subst e
                    have g0 : prV ((pUp (pUp (pUp (pUp M 186 (160 + (4 * wn)) (.int (nI pn))) 186 (160 + (4 * wn) + 1) (.int (nI qn))) 186 (160 + (4 * wn) + 2) (.int (nI rn))) 186 (160 + (4 * wn) + 3) (.int (nI sn))) 186) (160 + 4 * wn) = .int (nI pn) := by
                      rw [prV_at (by omega), pUp_other _ _ _ _ (fun z => by omega), pUp_other _ _ _ _ (fun z => by omega), pUp_other _ _ _ _ (fun z => by omega)]
                      exact pUp_self _ _ _ _
                    have g1 : prV ((pUp (pUp (pUp (pUp M 186 (160 + (4 * wn)) (.int (nI pn))) 186 (160 + (4 * wn) + 1) (.int (nI qn))) 186 (160 + (4 * wn) + 2) (.int (nI rn))) 186 (160 + (4 * wn) + 3) (.int (nI sn))) 186) (160 + 4 * wn + 1) = .int (nI qn) := by
                      rw [prV_at (by omega), pUp_other _ _ _ _ (fun z => by omega), pUp_other _ _ _ _ (fun z => by omega)]
                      exact pUp_self _ _ _ _
                    have g2 : prV ((pUp (pUp (pUp (pUp M 186 (160 + (4 * wn)) (.int (nI pn))) 186 (160 + (4 * wn) + 1) (.int (nI qn))) 186 (160 + (4 * wn) + 2) (.int (nI rn))) 186 (160 + (4 * wn) + 3) (.int (nI sn))) 186) (160 + 4 * wn + 2) = .int (nI rn) := by
                      rw [prV_at (by omega), pUp_other _ _ _ _ (fun z => by omega)]
                      exact pUp_self _ _ _ _
                    have g3 : prV ((pUp (pUp (pUp (pUp M 186 (160 + (4 * wn)) (.int (nI pn))) 186 (160 + (4 * wn) + 1) (.int (nI qn))) 186 (160 + (4 * wn) + 2) (.int (nI rn))) 186 (160 + (4 * wn) + 3) (.int (nI sn))) 186) (160 + 4 * wn + 3) = .int (nI sn) := by
                      rw [prV_at (by omega)]
                      exact pUp_self _ _ _ _
                    have v1 : ∀ n : Nat, n ≤ 10 → vI (.int (nI n)) = n := fun n hn => hI_int (by omega)
                    refine ⟨fun j hj => ?_, by dsimp only; rw [g0, g1, g2, g3, v1 _ (by omega), v1 _ (by omega), v1 _ (by omega), v1 _ (by omega)]; omega⟩
                    have hj4 : j = 0 ∨ j = 1 ∨ j = 2 ∨ j = 3 := by omega
                    dsimp only
                    rcases hj4 with rfl | rfl | rfl | rfl
                    · rw [show 160 + 4 * wn + 0 = 160 + 4 * wn by omega, g0, v1 _ (by omega)]
                      exact ⟨⟨_, rfl⟩, by omega, by omega⟩
                    · rw [g1, v1 _ (by omega)]
                      exact ⟨⟨_, rfl⟩, by omega, by omega⟩
                    · rw [g2, v1 _ (by omega)]
                      exact ⟨⟨_, rfl⟩, by omega, by omega⟩
                    · rw [g3, v1 _ (by omega)]
                      exact ⟨⟨_, rfl⟩, by omega, by omega⟩
                  · have keep : ∀ j, j < 4 → prV ((pUp (pUp (pUp (pUp M 186 (160 + (4 * wn)) (.int (nI pn))) 186 (160 + (4 * wn) + 1) (.int (nI qn))) 186 (160 + (4 * wn) + 2) (.int (nI rn))) 186 (160 + (4 * wn) + 3) (.int (nI sn))) 186) (160 + 4 * w2 + j) = prV (M 186) (160 + 4 * w2 + j) := fun j hj => by
                      rw [prV_at (by omega), prV_at (by omega), pUp_other _ _ _ _ (fun z => by omega), pUp_other _ _ _ _ (fun z => by omega), pUp_other _ _ _ _ (fun z => by omega), pUp_other _ _ _ _ (fun z => by omega)]
                    have keep0 := keep 0 (by decide)
                    simp only [Nat.add_zero] at keep0
                    obtain ⟨t1, t2⟩ := hg.1 w2 hw2
                    refine ⟨fun j hj => ?_, ?_⟩
                    · dsimp only
                      rw [keep j hj]
                      exact t1 j hj
                    · dsimp only
                      rw [keep0, keep 1 (by decide), keep 2 (by decide), keep 3 (by decide)]
                      exact t2
                · dsimp only
                  rw [e188 187 (by decide)]
                  exact hg.2.1
                · dsimp only
                  rw [e188 188 (by decide)]
                  exact hg.2.2
              · intro o ho
                dsimp only
                rw [pUp_ne ho, pUp_ne ho, pUp_ne ho, pUp_ne ho]
              · intro k hk
                dsimp only
                rw [pUp_other _ _ _ _ (fun z => by omega), pUp_other _ _ _ _ (fun z => by omega), pUp_other _ _ _ _ (fun z => by omega), pUp_other _ _ _ _ (fun z => by omega)]
            · intro hsum
              simp only [pCP] at hsum
              rw [hI_int (a := pn + qn + rn + sn) (by omega), hI_int (a := 10) (by omega)] at hsum
              have hsum : ((pn + qn + rn + sn : Nat) : Int) ≠ ((10 : Nat) : Int) := by omega
              exact no _
          · refine ok_if 63 rfl rfl (fun _ => ?_) (fun hz => absurd (by simp only [pCP]; rw [hI_int (a := 0) (by omega)]; omega) hz)
            exact no _
        · refine ok_if 63 rfl rfl (fun _ => ?_) (fun hz => absurd (by simp only [pCP]; rw [hI_int (a := 0) (by omega)]; omega) hz)
          exact no _
      · refine ok_if 63 rfl rfl (fun _ => ?_) (fun hz => absurd (by simp only [pCP]; rw [hI_int (a := 0) (by omega)]; omega) hz)
        exact no _
    · refine ok_if 63 rfl rfl (fun _ => ?_) (fun hz => absurd (by simp only [pCP]; rw [hI_int (a := 0) (by omega)]; omega) hz)
      exact no _
  · refine ok_if 63 rfl rfl (fun _ => ?_) (fun hz => absurd (by simp only [pCP]; rw [hI_int (a := 0) (by omega)]; omega) hz)
    exact no _
/-- both rows of the state are of the same kinds, numbers all -/
def pI (τ : fT) : Prop := τ 186 = τ 187 ∧ (∀ k, k < 280 → ∃ lo hi x, rowAt (τ 186) k = some (0, lo, hi, x)) ∧ (∀ k, 280 ≤ k → rowAt (τ 186) k = none) ∧ rowAt (τ 185) 4 = some (1, 0, 0, [187])
theorem pI_int {τ : fT} {M : pMem} {o k : Nat} (hT : fTau τ) (hI : pI τ) (hM : tyM (tOf τ) M) (ho : o = 186 ∨ o = 187) (hk : k < 280) : ∃ z, M o k = .int z := by
  obtain ⟨lo, hi, x, h⟩ := hI.2.1 k hk
  have h2 : rowAt (τ o) k = some (0, lo, hi, x) := by
    rcases ho with rfl | rfl
    · exact h
    · rw [← hI.1]
      exact h
  obtain ⟨z, hz, -⟩ := ty_int (hM o k _ (by omega) (by rw [tyAt_row hT]; exact h2))
  exact ⟨z, hz⟩
abbrev cpK186 (S : pScr) (d : Nat) (Q : Option Value → pHp → Prop) (σ : pSt) : Prop := pOk S 12 false 3 (pCode 157) d (fun i len τ' => ∃ v, pRet none i len τ'.2.2.1 = some v ∧ Q v (τ'.2.2.2.1, τ'.2.2.2.2)) σ
theorem c_copy186 {S : pScr} {d : Nat} {M0 : pMem} (hz : ∀ k, k < 280 → ∃ z, M0 186 k = .int z) : cOk S (d + 1) 157 [.ref 186, .ref 187] (gSh, M0) (fun r hp => r = none ∧ hp.1 = gSh ∧ (∀ o, o ≠ 187 → hp.2 o = M0 o) ∧ (∀ j, j < 280 → hp.2 187 j = M0 186 j) ∧ ∀ j, 280 ≤ j → hp.2 187 j = M0 187 j) := by
  have loop : ∀ (r k : Nat) (M : pMem), k + r = 280 → (∀ o, o ≠ 187 → M o = M0 o) → (∀ j, j < k → M 187 j = M0 186 j) → (∀ j, k ≤ j → M 187 j = M0 187 j) → cpK186 S d (fun r hp => r = none ∧ hp.1 = gSh ∧ (∀ o, o ≠ 187 → hp.2 o = M0 o) ∧ (∀ j, j < 280 → hp.2 187 j = M0 186 j) ∧ ∀ j, 280 ≤ j → hp.2 187 j = M0 187 j) (2, [(2, .int (nI k)), (0, .ref 186), (1, .ref 187)], [], gSh, M) := by
    intro r
    induction r with
    | zero =>
      intro k M hk h1 h2 h3
      refine ok_seq 2 (σ' := (6, [(2, .int (nI k)), (0, .ref 186), (1, .ref 187)], [.int ((Int16.ofInt 280).toInt32), .int (nI k)], gSh, M)) rfl ?_
      rw [(show (Int16.ofInt 280).toInt32 = nI 280 by decide)]
      refine ok_icmp 21 rfl rfl (fun _ => ?_) (fun hz => absurd (by simp only [pCP]; rw [hI_int (a := k) (by omega), hI_int (a := 280) (by omega)]; omega) hz)
      exact ok_ret (i := .return_) (len := 1) rfl rfl ⟨none, rfl, rfl, rfl, h1, fun j hj => h2 j (by omega), fun j hj => h3 j (by omega)⟩
    | succ r ih =>
      intro k M hk h1 h2 h3
      obtain ⟨z, hz⟩ := hz k (by omega)
      refine ok_seq 2 (σ' := (6, [(2, .int (nI k)), (0, .ref 186), (1, .ref 187)], [.int ((Int16.ofInt 280).toInt32), .int (nI k)], gSh, M)) rfl ?_
      rw [(show (Int16.ofInt 280).toInt32 = nI 280 by decide)]
      refine ok_icmp 21 rfl rfl (fun hz => absurd hz (by simp only [pCP]; rw [hI_int (a := k) (by omega), hI_int (a := 280) (by omega)]; omega)) (fun _ => ?_)
      refine ok_seq 4 (σ' := (13, [(2, .int (nI k)), (0, .ref 186), (1, .ref 187)], [.int (nI k), .ref 186, .int (nI k), .ref 187], gSh, M)) rfl ?_
      refine ok_iald (n := 280) (v := z) rfl rfl (hI_in (by omega) (by decide)) (by rw [hI_nat (by omega)]; exact (by rw [h1 186 (by decide)]; exact hz)) ?_
      refine ok_iast (n := 280) rfl rfl (hI_in (by omega) (by decide)) ?_
      rw [hI_nat (a := k) (by omega)]
      refine ok_seq 2 (σ' := (2, [(2, .int ((nI k) + (Int32.ofInt 1))), (0, .ref 186), (1, .ref 187)], [], gSh, pUp M 187 k (.int z))) rfl ?_
      rw [cI_1, hI_add k 1]
      refine ih (k + 1) _ (by omega) (fun o ho => by rw [pUp_ne ho]; exact h1 o ho) (fun j hj => ?_) (fun j hj => by rw [pUp_other _ _ _ _ (fun e => by omega)]; exact h3 j (by omega))
      by_cases e : j = k
      · rw [e, pUp_self, hz]
      · rw [pUp_other _ _ _ _ (fun y => e y.2)]
        exact h2 j (by omega)
  refine c_of_ok (Nat.le_of_ble_eq_true rfl) ?_
  refine ok_seq 2 (σ' := (2, [(2, .int (Int32.ofInt 0)), (0, .ref 186), (1, .ref 187)], [], gSh, M0)) rfl ?_
  rw [cI_0]
  exact loop 280 0 M0 rfl (fun _ _ => rfl) (fun j hj => by omega) (fun _ _ => rfl)
abbrev cpK187 (S : pScr) (d : Nat) (Q : Option Value → pHp → Prop) (σ : pSt) : Prop := pOk S 12 false 3 (pCode 157) d (fun i len τ' => ∃ v, pRet none i len τ'.2.2.1 = some v ∧ Q v (τ'.2.2.2.1, τ'.2.2.2.2)) σ
theorem c_copy187 {S : pScr} {d : Nat} {M0 : pMem} (hz : ∀ k, k < 280 → ∃ z, M0 187 k = .int z) : cOk S (d + 1) 157 [.ref 187, .ref 186] (gSh, M0) (fun r hp => r = none ∧ hp.1 = gSh ∧ (∀ o, o ≠ 186 → hp.2 o = M0 o) ∧ (∀ j, j < 280 → hp.2 186 j = M0 187 j) ∧ ∀ j, 280 ≤ j → hp.2 186 j = M0 186 j) := by
  have loop : ∀ (r k : Nat) (M : pMem), k + r = 280 → (∀ o, o ≠ 186 → M o = M0 o) → (∀ j, j < k → M 186 j = M0 187 j) → (∀ j, k ≤ j → M 186 j = M0 186 j) → cpK187 S d (fun r hp => r = none ∧ hp.1 = gSh ∧ (∀ o, o ≠ 186 → hp.2 o = M0 o) ∧ (∀ j, j < 280 → hp.2 186 j = M0 187 j) ∧ ∀ j, 280 ≤ j → hp.2 186 j = M0 186 j) (2, [(2, .int (nI k)), (0, .ref 187), (1, .ref 186)], [], gSh, M) := by
    intro r
    induction r with
    | zero =>
      intro k M hk h1 h2 h3
      refine ok_seq 2 (σ' := (6, [(2, .int (nI k)), (0, .ref 187), (1, .ref 186)], [.int ((Int16.ofInt 280).toInt32), .int (nI k)], gSh, M)) rfl ?_
      rw [(show (Int16.ofInt 280).toInt32 = nI 280 by decide)]
      refine ok_icmp 21 rfl rfl (fun _ => ?_) (fun hz => absurd (by simp only [pCP]; rw [hI_int (a := k) (by omega), hI_int (a := 280) (by omega)]; omega) hz)
      exact ok_ret (i := .return_) (len := 1) rfl rfl ⟨none, rfl, rfl, rfl, h1, fun j hj => h2 j (by omega), fun j hj => h3 j (by omega)⟩
    | succ r ih =>
      intro k M hk h1 h2 h3
      obtain ⟨z, hz⟩ := hz k (by omega)
      refine ok_seq 2 (σ' := (6, [(2, .int (nI k)), (0, .ref 187), (1, .ref 186)], [.int ((Int16.ofInt 280).toInt32), .int (nI k)], gSh, M)) rfl ?_
      rw [(show (Int16.ofInt 280).toInt32 = nI 280 by decide)]
      refine ok_icmp 21 rfl rfl (fun hz => absurd hz (by simp only [pCP]; rw [hI_int (a := k) (by omega), hI_int (a := 280) (by omega)]; omega)) (fun _ => ?_)
      refine ok_seq 4 (σ' := (13, [(2, .int (nI k)), (0, .ref 187), (1, .ref 186)], [.int (nI k), .ref 187, .int (nI k), .ref 186], gSh, M)) rfl ?_
      refine ok_iald (n := 280) (v := z) rfl rfl (hI_in (by omega) (by decide)) (by rw [hI_nat (by omega)]; exact (by rw [h1 187 (by decide)]; exact hz)) ?_
      refine ok_iast (n := 280) rfl rfl (hI_in (by omega) (by decide)) ?_
      rw [hI_nat (a := k) (by omega)]
      refine ok_seq 2 (σ' := (2, [(2, .int ((nI k) + (Int32.ofInt 1))), (0, .ref 187), (1, .ref 186)], [], gSh, pUp M 186 k (.int z))) rfl ?_
      rw [cI_1, hI_add k 1]
      refine ih (k + 1) _ (by omega) (fun o ho => by rw [pUp_ne ho]; exact h1 o ho) (fun j hj => ?_) (fun j hj => by rw [pUp_other _ _ _ _ (fun e => by omega)]; exact h3 j (by omega))
      by_cases e : j = k
      · rw [e, pUp_self, hz]
      · rw [pUp_other _ _ _ _ (fun y => e y.2)]
        exact h2 j (by omega)
  refine c_of_ok (Nat.le_of_ble_eq_true rfl) ?_
  refine ok_seq 2 (σ' := (2, [(2, .int (Int32.ofInt 0)), (0, .ref 187), (1, .ref 186)], [], gSh, M0)) rfl ?_
  rw [cI_0]
  exact loop 280 0 M0 rfl (fun _ _ => rfl) (fun j hj => by omega) (fun _ _ => rfl)
theorem c_image {S : pScr} {d : Nat} {τ : fT} {M : pMem} (hT : pT τ) (hI : pI τ) (hM : tyM (tOf τ) M) (hg : gR M) : cOk S (d + 2) 283 [.ref 185] (gSh, M) (fun r hp => hp.1 = gSh ∧ (∃ z, r = some (.int z) ∧ hp.2 186 0 = .int z) ∧ tyM (tOf τ) hp.2 ∧ gR hp.2 ∧ (∀ o, o ≠ 187 → hp.2 o = M o) ∧ ∀ j, j < 280 → hp.2 187 j = M 186 j) := by
  refine c_of_ok (Nat.le_of_ble_eq_true rfl) ?_
  have h3 := ty_ref (pty hT hM 0 rfl rfl)
  have h4 : M 185 4 = .ref 187 := ty_ref (hM 185 4 _ (by decide) (by rw [tyAt_row hT.1]; exact hI.2.2.2))
  refine ok_seq 2 (σ' := (4, [(0, .ref 185)], [M 185 3], gSh, M)) rfl ?_
  rw [h3]
  refine ok_seq 2 (σ' := (8, [(0, .ref 185)], [M 185 4, .ref 186], gSh, M)) rfl ?_
  rw [h4]
  refine ok_call (mi := 157) (as := [.ref 186, .ref 187]) (pc' := 11) (L' := [(0, .ref 185)]) (st' := []) (sh' := gSh) (M' := M) (i := .invokestatic 86) (len := 3) rfl rfl ?_
  refine ((c_copy186 (d := d) (fun k hk => pI_int hT.1 hI hM (by decide) hk))).mono ?_
  rintro v ⟨sh2, M2⟩ ⟨rfl, hsh, h1, h2, h5⟩
  have hsh : sh2 = gSh := hsh
  subst hsh
  dsimp only at h1 h2 h5
  have hM2 : tyM (tOf τ) M2 := by
    intro o k e ho he
    by_cases e9 : o = 187
    · subst e9
      rw [tyAt_row hT.1] at he
      have he : rowAt (τ 187) k = some e := he
      have he2 : rowAt (τ 186) k = some e := by first | (rw [hI.1]; exact he) | (rw [← hI.1]; exact he)
      by_cases hk : k < 280
      · rw [h2 k hk]
        exact hM 186 k e (by decide) (by rw [tyAt_row hT.1]; exact he2)
      · exfalso
        have h9 := hI.2.2.1 k (by omega)
        have he3 : rowAt (τ 186) k = some e := by first | exact he | exact he2
        rw [h9] at he3
        cases he3
    · rw [h1 o e9]
      exact hM o k e ho he
  have hg2 : gR M2 := by
    refine ⟨?_, ?_, by rw [h1 188 (by decide)]; exact hg.2.2⟩
    · rw [h1 186 (by decide)]
      exact hg.1
    · intro w hw
      obtain ⟨t1, t2⟩ := hg.1 w hw
      refine ⟨fun j hj => ?_, ?_⟩
      · have := t1 j hj
        rw [prV_at (by omega)] at this
        rw [h2 _ (by omega)]
        exact this
      · rw [prV_at (by omega), prV_at (by omega), prV_at (by omega), prV_at (by omega)] at t2
        rw [h2 _ (by omega), h2 _ (by omega), h2 _ (by omega), h2 _ (by omega)]
        exact t2
  have h32 := ty_ref (pty hT hM2 0 rfl rfl)
  obtain ⟨z, hz⟩ := pI_int hT.1 hI hM2 (o := 186) (k := 0) (Or.inl rfl) (by decide)
  refine ok_seq 2 (σ' := (15, [(0, .ref 185)], [M2 185 3], gSh, M2)) rfl ?_
  rw [h32]
  refine ok_seq 1 (σ' := (16, [(0, .ref 185)], [.int (Int32.ofInt 0), .ref 186], gSh, M2)) rfl ?_
  rw [cI_0]
  refine ok_iald (n := 280) (v := z) rfl rfl (hI_in (by omega) (by decide)) (by rw [hI_nat (by omega)]; exact hz) ?_
  exact ok_ret (i := .ireturn) (len := 1) rfl rfl ⟨_, rfl, rfl, ⟨z, rfl, hz⟩, hM2, hg2, h1, h2⟩
theorem c_back {S : pScr} {d : Nat} {τ : fT} {M : pMem} (hT : pT τ) (hI : pI τ) (hM : tyM (tOf τ) M) (hg : gR M) : cOk S (d + 2) 284 [.ref 185] (gSh, M) (fun r hp => hp.1 = gSh ∧ (∃ z, r = some (.int z) ∧ hp.2 186 0 = .int z) ∧ tyM (tOf τ) hp.2 ∧ gR hp.2 ∧ (∀ o, o ≠ 186 → hp.2 o = M o) ∧ ∀ j, j < 280 → hp.2 186 j = M 187 j) := by
  refine c_of_ok (Nat.le_of_ble_eq_true rfl) ?_
  have h3 := ty_ref (pty hT hM 0 rfl rfl)
  have h4 : M 185 4 = .ref 187 := ty_ref (hM 185 4 _ (by decide) (by rw [tyAt_row hT.1]; exact hI.2.2.2))
  refine ok_seq 2 (σ' := (4, [(0, .ref 185)], [M 185 4], gSh, M)) rfl ?_
  rw [h4]
  refine ok_seq 2 (σ' := (8, [(0, .ref 185)], [M 185 3, .ref 187], gSh, M)) rfl ?_
  rw [h3]
  refine ok_call (mi := 157) (as := [.ref 187, .ref 186]) (pc' := 11) (L' := [(0, .ref 185)]) (st' := []) (sh' := gSh) (M' := M) (i := .invokestatic 86) (len := 3) rfl rfl ?_
  refine ((c_copy187 (d := d) (fun k hk => pI_int hT.1 hI hM (by decide) hk))).mono ?_
  rintro v ⟨sh2, M2⟩ ⟨rfl, hsh, h1, h2, h5⟩
  have hsh : sh2 = gSh := hsh
  subst hsh
  dsimp only at h1 h2 h5
  have hM2 : tyM (tOf τ) M2 := by
    intro o k e ho he
    by_cases e9 : o = 186
    · subst e9
      rw [tyAt_row hT.1] at he
      have he : rowAt (τ 186) k = some e := he
      have he2 : rowAt (τ 187) k = some e := by first | (rw [hI.1]; exact he) | (rw [← hI.1]; exact he)
      by_cases hk : k < 280
      · rw [h2 k hk]
        exact hM 187 k e (by decide) (by rw [tyAt_row hT.1]; exact he2)
      · exfalso
        have h9 := hI.2.2.1 k (by omega)
        have he3 : rowAt (τ 186) k = some e := by first | exact he | exact he2
        rw [h9] at he3
        cases he3
    · rw [h1 o e9]
      exact hM o k e ho he
  have hg2 : gR M2 := by
    refine ⟨?_, ?_, by rw [h1 188 (by decide)]; exact hg.2.2⟩
    · intro w hw
      obtain ⟨t1, t2⟩ := hg.2.1 w hw
      refine ⟨fun j hj => ?_, ?_⟩
      · rw [prV_at (by omega), h2 _ (by omega)]
        exact t1 j hj
      · rw [prV_at (by omega), prV_at (by omega), prV_at (by omega), prV_at (by omega), h2 _ (by omega), h2 _ (by omega), h2 _ (by omega), h2 _ (by omega)]
        exact t2
    · rw [h1 187 (by decide)]
      exact hg.2.1
  have h32 := ty_ref (pty hT hM2 0 rfl rfl)
  obtain ⟨z, hz⟩ := pI_int hT.1 hI hM2 (o := 186) (k := 0) (Or.inl rfl) (by decide)
  refine ok_seq 2 (σ' := (15, [(0, .ref 185)], [M2 185 3], gSh, M2)) rfl ?_
  rw [h32]
  refine ok_seq 1 (σ' := (16, [(0, .ref 185)], [.int (Int32.ofInt 0), .ref 186], gSh, M2)) rfl ?_
  rw [cI_0]
  refine ok_iald (n := 280) (v := z) rfl rfl (hI_in (by omega) (by decide)) (by rw [hI_nat (by omega)]; exact hz) ?_
  exact ok_ret (i := .ireturn) (len := 1) rfl rfl ⟨_, rfl, rfl, ⟨z, rfl, hz⟩, hM2, hg2, h1, h2⟩

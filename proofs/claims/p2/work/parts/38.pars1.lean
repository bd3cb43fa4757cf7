/-! by hand, printed by wip/gen/gen38.py -/
theorem c_emit {S : pScr} {d t0 w : Nat} {M : pMem} {o v : Int32} (h5 : M 185 5 = .ref 188) (h15 : M 185 15 = .int (nI t0)) (h17 : M 185 17 = .int (nI w)) (hb : t0 + 60 + 2 * w + 1 < 3200) : cOk S (d + 1) 186 [.ref 185, .int o, .int v] (gSh, M) (fun r hp => r = none ∧ hp = (gSh, pUp (pUp (pUp M 188 (t0 + 60 + 2 * w) (.int o)) 188 (t0 + 60 + 2 * w + 1) (.int v)) 185 17 (.int (nI (w + 1))))) := by
  refine c_of_ok (Nat.le_of_ble_eq_true rfl) ?_
  refine ok_seq 2 (σ' := (4, [(0, .ref 185), (1, .int o), (2, .int v)], [M 185 5], gSh, M)) rfl ?_
  rw [h5]
  refine ok_seq 2 (σ' := (8, [(0, .ref 185), (1, .int o), (2, .int v)], [M 185 15, .ref 188], gSh, M)) rfl ?_
  rw [h15]
  refine ok_seq 5 (σ' := (16, [(0, .ref 185), (1, .int o), (2, .int v)], [M 185 17, .int (Int32.ofInt 2), .int ((nI t0) + ((Int8.ofInt 60).toInt32)), .ref 188], gSh, M)) rfl ?_
  rw [h17]
  rw [(show (Int8.ofInt 60).toInt32 = nI 60 by decide), hI_add t0 60, cI_2]
  refine ok_seq 3 (σ' := (19, [(0, .ref 185), (1, .int o), (2, .int v)], [.int o, .int ((nI (t0 + 60)) + ((nI 2) * (nI w))), .ref 188], gSh, M)) rfl ?_
  rw [hI_mul 2 w, hI_add (t0 + 60) (2 * w)]
  refine ok_iast (n := 3200) rfl rfl (hI_in (by omega) (by decide)) ?_
  rw [hI_nat (a := t0 + 60 + (2 * w)) (by omega)]
  refine ok_seq 2 (σ' := (24, [(0, .ref 185), (1, .int o), (2, .int v)], [M 185 5], gSh, pUp M 188 (t0 + 60 + (2 * w)) (.int o))) rfl ?_
  rw [h5]
  refine ok_seq 2 (σ' := (28, [(0, .ref 185), (1, .int o), (2, .int v)], [M 185 15, .ref 188], gSh, pUp M 188 (t0 + 60 + (2 * w)) (.int o))) rfl ?_
  rw [h15]
  refine ok_seq 5 (σ' := (36, [(0, .ref 185), (1, .int o), (2, .int v)], [M 185 17, .int (Int32.ofInt 2), .int ((nI t0) + ((Int8.ofInt 60).toInt32)), .ref 188], gSh, pUp M 188 (t0 + 60 + (2 * w)) (.int o))) rfl ?_
  rw [h17]
  rw [(show (Int8.ofInt 60).toInt32 = nI 60 by decide), hI_add t0 60, cI_2]
  refine ok_seq 5 (σ' := (41, [(0, .ref 185), (1, .int o), (2, .int v)], [.int v, .int (((nI (t0 + 60)) + ((nI 2) * (nI w))) + (Int32.ofInt 1)), .ref 188], gSh, pUp M 188 (t0 + 60 + (2 * w)) (.int o))) rfl ?_
  rw [hI_mul 2 w, hI_add (t0 + 60) (2 * w), cI_1, hI_add (t0 + 60 + (2 * w)) 1]
  refine ok_iast (n := 3200) rfl rfl (hI_in (by omega) (by decide)) ?_
  rw [hI_nat (a := t0 + 60 + (2 * w) + 1) (by omega)]
  refine ok_seq 3 (σ' := (47, [(0, .ref 185), (1, .int o), (2, .int v)], [M 185 17, .ref 185], gSh, pUp (pUp M 188 (t0 + 60 + (2 * w)) (.int o)) 188 (t0 + 60 + (2 * w) + 1) (.int v))) rfl ?_
  rw [h17]
  refine ok_seq 2 (σ' := (49, [(0, .ref 185), (1, .int o), (2, .int v)], [.int ((nI w) + (Int32.ofInt 1)), .ref 185], gSh, pUp (pUp M 188 (t0 + 60 + (2 * w)) (.int o)) 188 (t0 + 60 + (2 * w) + 1) (.int v))) rfl ?_
  rw [cI_1, hI_add w 1]
  refine ok_put (q := 157) (ci := 12) (k := 17) (n := 47) (ty := .int) rfl rfl rfl rfl rfl rfl (fi_int _) ?_
  exact ok_ret (i := .return_) (len := 1) rfl rfl ⟨_, rfl, rfl, rfl⟩
theorem c_push {S : pScr} {d q : Nat} {M : pMem} {o : Int32} (h19 : M 185 19 = .ref 190) (h20 : M 185 20 = .int (nI q)) (hb : q < 160) : cOk S (d + 1) 187 [.ref 185, .int o] (gSh, M) (fun r hp => r = none ∧ hp = (gSh, pUp (pUp M 190 q (.int o)) 185 20 (.int (nI (q + 1))))) := by
  refine c_of_ok (Nat.le_of_ble_eq_true rfl) ?_
  refine ok_seq 2 (σ' := (4, [(0, .ref 185), (1, .int o)], [M 185 19], gSh, M)) rfl ?_
  rw [h19]
  refine ok_seq 2 (σ' := (8, [(0, .ref 185), (1, .int o)], [M 185 20, .ref 190], gSh, M)) rfl ?_
  rw [h20]
  refine ok_seq 1 (σ' := (9, [(0, .ref 185), (1, .int o)], [.int o, .int (nI q), .ref 190], gSh, M)) rfl ?_
  refine ok_iast (n := 160) rfl rfl (hI_in (by omega) (by decide)) ?_
  rw [hI_nat (a := q) (by omega)]
  refine ok_seq 3 (σ' := (15, [(0, .ref 185), (1, .int o)], [M 185 20, .ref 185], gSh, pUp M 190 q (.int o))) rfl ?_
  rw [h20]
  refine ok_seq 2 (σ' := (17, [(0, .ref 185), (1, .int o)], [.int ((nI q) + (Int32.ofInt 1)), .ref 185], gSh, pUp M 190 q (.int o))) rfl ?_
  rw [cI_1, hI_add q 1]
  refine ok_put (q := 160) (ci := 12) (k := 20) (n := 47) (ty := .int) rfl rfl rfl rfl rfl rfl (fi_int _) ?_
  exact ok_ret (i := .return_) (len := 1) rfl rfl ⟨_, rfl, rfl, rfl⟩
/-- the byte of the tape at k, or -1 -/
def btA (M : pMem) (tp k : Nat) (x : Int32) : Prop := (k < tp ∧ M 189 k = .int x) ∨ (tp ≤ k ∧ x = mI)
theorem c_byteAt {S : pScr} {d k tp : Nat} {M : pMem} {x : Int32} (h7 : M 185 7 = .int (nI tp)) (h6 : M 185 6 = .ref 189) (htp : tp ≤ 300) (hk : k ≤ 300) (hb : btA M tp k x) : cOk S (d + 1) 177 [.ref 185, .int (nI k)] (gSh, M) (fun r hp => r = some (.int x) ∧ hp = (gSh, M)) := by
  refine c_of_ok (Nat.le_of_ble_eq_true rfl) ?_
  rcases hb with ⟨hlt, hx⟩ | ⟨hge, rfl⟩
  · skip
    refine ok_seq 3 (σ' := (5, [(0, .ref 185), (1, .int (nI k))], [M 185 7, .int (nI k)], gSh, M)) rfl ?_
    rw [h7]
    refine ok_icmp 17 rfl rfl (fun hz => absurd hz (by simp only [pCP]; rw [hI_int (a := k) (by omega), hI_int (a := tp) (by omega)]; omega)) (fun _ => ?_)
    refine ok_seq 2 (σ' := (12, [(0, .ref 185), (1, .int (nI k))], [M 185 6], gSh, M)) rfl ?_
    rw [h6]
    refine ok_seq 1 (σ' := (13, [(0, .ref 185), (1, .int (nI k))], [.int (nI k), .ref 189], gSh, M)) rfl ?_
    refine ok_iald (n := 300) (v := x) rfl rfl (hI_in (by omega) (by decide)) (by rw [hI_nat (by omega)]; exact hx) ?_
    refine ok_seq 1 (σ' := (18, [(0, .ref 185), (1, .int (nI k))], [.int x], gSh, M)) rfl ?_
    exact ok_ret (i := .ireturn) (len := 1) rfl rfl ⟨_, rfl, rfl, rfl⟩
  · skip
    refine ok_seq 3 (σ' := (5, [(0, .ref 185), (1, .int (nI k))], [M 185 7, .int (nI k)], gSh, M)) rfl ?_
    rw [h7]
    refine ok_icmp 17 rfl rfl (fun _ => ?_) (fun hz => absurd (by simp only [pCP]; rw [hI_int (a := k) (by omega), hI_int (a := tp) (by omega)]; omega) hz)
    refine ok_seq 1 (σ' := (18, [(0, .ref 185), (1, .int (nI k))], [.int mI], gSh, M)) rfl ?_
    exact ok_ret (i := .ireturn) (len := 1) rfl rfl ⟨_, rfl, rfl, rfl⟩
theorem c_isIn {S : pScr} {d : Nat} {M : pMem} {x lo hi : Int32} : cOk S (d + 1) 158 [.int x, .int lo, .int hi] (gSh, M) (fun r hp => ((r = some (.int (nI 1)) ∧ lo.toInt ≤ x.toInt ∧ x.toInt ≤ hi.toInt) ∨ (r = some (.int (nI 0)) ∧ ¬ (lo.toInt ≤ x.toInt ∧ x.toInt ≤ hi.toInt))) ∧ hp = (gSh, M)) := by
  refine c_of_ok (Nat.le_of_ble_eq_true rfl) ?_
  refine ok_seq 2 (σ' := (2, [(0, .int x), (1, .int lo), (2, .int hi)], [.int lo, .int x], gSh, M)) rfl ?_
  refine ok_icmp 14 rfl rfl ?_ ?_
  · intro b1
    simp only [pCP] at b1
    have b1 : (x).toInt < (lo).toInt := by omega
    refine ok_seq 1 (σ' := (15, [(0, .int x), (1, .int lo), (2, .int hi)], [.int (Int32.ofInt 0)], gSh, M)) rfl ?_
    rw [cI_0]
    exact ok_ret (i := .ireturn) (len := 1) rfl rfl ⟨_, rfl, Or.inr ⟨rfl, fun hz => by omega⟩, rfl⟩
  · intro b1
    simp only [pCP] at b1
    have b1 : (x).toInt ≥ (lo).toInt := by omega
    refine ok_seq 2 (σ' := (7, [(0, .int x), (1, .int lo), (2, .int hi)], [.int hi, .int x], gSh, M)) rfl ?_
    refine ok_icmp 14 rfl rfl ?_ ?_
    · intro b2
      simp only [pCP] at b2
      have b2 : (x).toInt > (hi).toInt := by omega
      refine ok_seq 1 (σ' := (15, [(0, .int x), (1, .int lo), (2, .int hi)], [.int (Int32.ofInt 0)], gSh, M)) rfl ?_
      rw [cI_0]
      exact ok_ret (i := .ireturn) (len := 1) rfl rfl ⟨_, rfl, Or.inr ⟨rfl, fun hz => by omega⟩, rfl⟩
    · intro b2
      simp only [pCP] at b2
      have b2 : (x).toInt ≤ (hi).toInt := by omega
      refine ok_seq 2 (σ' := (15, [(0, .int x), (1, .int lo), (2, .int hi)], [.int (Int32.ofInt 1)], gSh, M)) rfl ?_
      rw [cI_1]
      exact ok_ret (i := .ireturn) (len := 1) rfl rfl ⟨_, rfl, Or.inl ⟨rfl, by omega, by omega⟩, rfl⟩
theorem c_isDigit {S : pScr} {d : Nat} {M : pMem} {x : Int32} : cOk S (d + 2) 179 [.int x] (gSh, M) (fun r hp => ((r = some (.int (nI 1)) ∧ (48 : Nat) ≤ x.toInt ∧ x.toInt ≤ (57 : Nat)) ∨ (r = some (.int (nI 0)) ∧ ¬ ((48 : Nat) ≤ x.toInt ∧ x.toInt ≤ (57 : Nat)))) ∧ hp = (gSh, M)) := by
  refine c_of_ok (Nat.le_of_ble_eq_true rfl) ?_
  refine ok_seq 3 (σ' := (5, [(0, .int x)], [.int ((Int8.ofInt 57).toInt32), .int ((Int8.ofInt 48).toInt32), .int x], gSh, M)) rfl ?_
  rw [(show (Int8.ofInt 48).toInt32 = nI 48 by decide), (show (Int8.ofInt 57).toInt32 = nI 57 by decide)]
  refine ok_call (mi := 158) (as := [.int x, .int (nI 48), .int (nI 57)]) (pc' := 8) (L' := [(0, .int x)]) (st' := []) (sh' := gSh) (M' := M) (i := .invokestatic 90) (len := 3) rfl rfl ?_
  refine (c_isIn).mono ?_
  rintro v hp ⟨hv, rfl⟩
  rw [hI_int (a := 48) (by omega), hI_int (a := 57) (by omega)] at hv
  rcases hv with ⟨rfl, h1, h2⟩ | ⟨rfl, h1⟩
  · exact ok_ret (i := .ireturn) (len := 1) rfl rfl ⟨_, rfl, Or.inl ⟨rfl, h1, h2⟩, rfl⟩
  · exact ok_ret (i := .ireturn) (len := 1) rfl rfl ⟨_, rfl, Or.inr ⟨rfl, h1⟩, rfl⟩
def isLt (x : Int32) : Prop := (97 ≤ x.toInt ∧ x.toInt ≤ 122) ∨ (65 ≤ x.toInt ∧ x.toInt ≤ 90)
theorem c_isLetter {S : pScr} {d : Nat} {M : pMem} {x : Int32} : cOk S (d + 2) 178 [.int x] (gSh, M) (fun r hp => ((r = some (.int (nI 1)) ∧ isLt x) ∨ (r = some (.int (nI 0)) ∧ ¬ isLt x)) ∧ hp = (gSh, M)) := by
  unfold isLt
  refine c_of_ok (Nat.le_of_ble_eq_true rfl) ?_
  refine ok_seq 3 (σ' := (5, [(0, .int x)], [.int ((Int8.ofInt 122).toInt32), .int ((Int8.ofInt 97).toInt32), .int x], gSh, M)) rfl ?_
  rw [(show (Int8.ofInt 97).toInt32 = nI 97 by decide), (show (Int8.ofInt 122).toInt32 = nI 122 by decide)]
  refine ok_call (mi := 158) (as := [.int x, .int (nI 97), .int (nI 122)]) (pc' := 8) (L' := [(0, .int x)]) (st' := []) (sh' := gSh) (M' := M) (i := .invokestatic 90) (len := 3) rfl rfl ?_
  refine (c_isIn).mono ?_
  rintro v hp ⟨hv, rfl⟩
  rw [hI_int (a := 97) (by omega), hI_int (a := 122) (by omega)] at hv
  rcases hv with ⟨rfl, h1, h2⟩ | ⟨rfl, h1⟩
  · refine ok_if 22 rfl rfl (fun _ => ?_) (fun hz => absurd (by simp only [pCP]; rw [hI_int (a := 1) (by omega)]; omega) hz)
    refine ok_seq 2 (σ' := (27, [(0, .int x)], [.int (Int32.ofInt 1)], gSh, M)) rfl ?_
    rw [cI_1]
    exact ok_ret (i := .ireturn) (len := 1) rfl rfl ⟨_, rfl, Or.inl ⟨rfl, by omega⟩, rfl⟩
  · refine ok_if 22 rfl rfl (fun hz => absurd hz (by simp only [pCP]; rw [hI_int (a := 0) (by omega)]; omega)) (fun _ => ?_)
    refine ok_seq 3 (σ' := (16, [(0, .int x)], [.int ((Int8.ofInt 90).toInt32), .int ((Int8.ofInt 65).toInt32), .int x], gSh, M)) rfl ?_
    rw [(show (Int8.ofInt 65).toInt32 = nI 65 by decide), (show (Int8.ofInt 90).toInt32 = nI 90 by decide)]
    refine ok_call (mi := 158) (as := [.int x, .int (nI 65), .int (nI 90)]) (pc' := 19) (L' := [(0, .int x)]) (st' := []) (sh' := gSh) (M' := M) (i := .invokestatic 90) (len := 3) rfl rfl ?_
    refine (c_isIn).mono ?_
    rintro v hp ⟨hv, rfl⟩
    rw [hI_int (a := 65) (by omega), hI_int (a := 90) (by omega)] at hv
    rcases hv with ⟨rfl, h3, h4⟩ | ⟨rfl, h3⟩
    · refine ok_if 26 rfl rfl (fun hz => absurd hz (by simp only [pCP]; rw [hI_int (a := 1) (by omega)]; omega)) (fun _ => ?_)
      refine ok_seq 2 (σ' := (27, [(0, .int x)], [.int (Int32.ofInt 1)], gSh, M)) rfl ?_
      rw [cI_1]
      exact ok_ret (i := .ireturn) (len := 1) rfl rfl ⟨_, rfl, Or.inl ⟨rfl, by omega⟩, rfl⟩
    · refine ok_if 26 rfl rfl (fun _ => ?_) (fun hz => absurd (by simp only [pCP]; rw [hI_int (a := 0) (by omega)]; omega) hz)
      refine ok_seq 1 (σ' := (27, [(0, .int x)], [.int (Int32.ofInt 0)], gSh, M)) rfl ?_
      rw [cI_0]
      exact ok_ret (i := .ireturn) (len := 1) rfl rfl ⟨_, rfl, Or.inr ⟨rfl, by omega⟩, rfl⟩

/-! THE FAST MACHINE: the abstract machine once more, for the kernel: small bodies, continuations, ready closures -/
noncomputable def bI (c t e : Bool) : Bool := @Bool.rec (fun _ => Bool) e t c
theorem bI_if {c t e : Bool} (h : bI c t e = true) : (c = true ∧ t = true) ∨ (c = false ∧ e = true) := by
  cases c
  · exact Or.inr ⟨rfl, h⟩
  · exact Or.inl ⟨rfl, h⟩
theorem bI_and {c t : Bool} (h : bI c t false = true) : c = true ∧ t = true := by
  cases c
  · cases h
  · exact ⟨rfl, h⟩
theorem bI_not {c e : Bool} (h : bI c false e = true) : c = false ∧ e = true := by
  cases c
  · exact ⟨rfl, h⟩
  · cases h
noncomputable def iAdd (a b : Int) : Int := @Int.rec (fun _ => Int) (fun m => @Int.rec (fun _ => Int) (fun n => Int.ofNat (Nat.add m n)) (fun n => Int.subNatNat m (Nat.succ n)) b) (fun m => @Int.rec (fun _ => Int) (fun n => Int.subNatNat n (Nat.succ m)) (fun n => Int.negSucc (Nat.succ (Nat.add m n))) b) a
theorem iAdd_eq (a b : Int) : iAdd a b = a + b := by cases a <;> cases b <;> rfl
noncomputable def iNeg (a : Int) : Int := @Int.rec (fun _ => Int) (fun m => Int.subNatNat 0 m) (fun m => Int.ofNat (Nat.succ m)) a
theorem iNeg_eq (a : Int) : iNeg a = -a := by
  cases a with
  | ofNat m =>
    show Int.subNatNat 0 m = _
    rw [Int.subNatNat_eq_coe]
    simp
  | negSucc m => rfl
noncomputable def iMul (a b : Int) : Int := @Int.rec (fun _ => Int) (fun m => @Int.rec (fun _ => Int) (fun n => Int.ofNat (Nat.mul m n)) (fun n => Int.mul (Int.ofNat m) (Int.negSucc n)) b) (fun m => Int.mul (Int.negSucc m) b) a
theorem iMul_eq (a b : Int) : iMul a b = a * b := by cases a <;> cases b <;> rfl
noncomputable def fLe (a b : Int) : Bool := @Int.rec (fun _ => Bool) (fun m => @Int.rec (fun _ => Bool) (fun n => Nat.ble m n) (fun _ => false) b) (fun m => @Int.rec (fun _ => Bool) (fun _ => true) (fun n => Nat.ble n m) b) a
theorem fLe_eq (a b : Int) : fLe a b = iLe a b := by cases a <;> cases b <;> rfl
theorem fLe_t {a b : Int} (h : fLe a b = true) : a ≤ b := iLe_t (by rw [← fLe_eq]; exact h)
theorem fLe_f {a b : Int} (h : fLe a b = false) : ¬ a ≤ b := iLe_f (by rw [← fLe_eq]; exact h)
noncomputable def fEq (a b : Int) : Bool := @Int.rec (fun _ => Bool) (fun m => @Int.rec (fun _ => Bool) (fun n => Nat.beq m n) (fun _ => false) b) (fun m => @Int.rec (fun _ => Bool) (fun _ => false) (fun n => Nat.beq m n) b) a
theorem fEq_eq (a b : Int) : fEq a b = iEq a b := by cases a <;> cases b <;> rfl
theorem fEq_t {a b : Int} (h : fEq a b = true) : a = b := iEq_t (by rw [← fEq_eq]; exact h)
theorem fEq_f {a b : Int} (h : fEq a b = false) : ¬ a = b := iEq_f (by rw [← fEq_eq]; exact h)
noncomputable def fR (a : Int) : Bool := @Int.rec (fun _ => Bool) (fun m => Nat.ble m 2147483647) (fun m => Nat.ble m 2147483647) a
theorem fR_t {a : Int} (h : fR a = true) : aLo32 ≤ a ∧ a ≤ aHi32 := by
  unfold aLo32 aHi32
  cases a with
  | ofNat m =>
    have := Nat.le_of_ble_eq_true (show Nat.ble m 2147483647 = true from h)
    simp only [Int.ofNat_eq_natCast]
    omega
  | negSucc m =>
    have := Nat.le_of_ble_eq_true (show Nat.ble m 2147483647 = true from h)
    omega
noncomputable def fNat (a : Int) : Nat := @Int.rec (fun _ => Nat) (fun m => m) (fun _ => 0) a
theorem fNat_eq (a : Int) : fNat a = a.toNat := by cases a <;> rfl
noncomputable def fNth (env : List aE) (n : Nat) (k : aE → Bool) : Bool := @List.rec aE (fun _ => Nat → Bool) (fun _ => false) (fun e _ ih n => bI (Nat.beq n 0) (k e) (ih (Nat.sub n 1))) env n
theorem fNth_ok {env : List aE} {n : Nat} {k : aE → Bool} (h : fNth env n k = true) : ∃ e, env[n]? = some e ∧ k e = true := by
  induction env generalizing n with
  | nil => cases h
  | cons e env ih =>
    have h : bI (Nat.beq n 0) (k e) (fNth env (Nat.sub n 1) k) = true := h
    rcases bI_if h with ⟨h1, h2⟩ | ⟨h1, h2⟩
    · have : n = 0 := Nat.eq_of_beq_eq_true h1
      subst this
      exact ⟨e, rfl, h2⟩
    · have hn : n ≠ 0 := Nat.ne_of_beq_eq_false h1
      obtain ⟨m, rfl⟩ := Nat.exists_eq_succ_of_ne_zero hn
      obtain ⟨e', h3, h4⟩ := ih h2
      exact ⟨e', h3, h4⟩
noncomputable def fIvR (lo hi : Int) (k : Int → Int → Bool) : Bool := bI (fR lo) (bI (fR hi) (k lo hi) false) false
noncomputable def fIvE (off : Int) (k : Int → Int → Bool) (e : aE) : Bool := bI (Nat.beq e.1 0) (fIvR (iAdd e.2.1 off) (iAdd e.2.2.1 off) k) false
/-- the bounds of a number -/
noncomputable def fIv (env : List aE) (a : aV) (k : Int → Int → Bool) : Bool := bI (Nat.beq a.1 0) (bI (fR a.2) (k a.2 a.2) false) (bI (Nat.beq a.1 1) false (fNth env a.1 (fIvE a.2 k)))
section FST
variable {ρ ρ' : Nat → Value} {env : List aE} {a : aV}
theorem satE0 {e : aE} {v : Value} (h : Nat.beq e.1 0 = true) (hv : satE e v) : ∃ z : Int32, v = .int z ∧ e.2.1 ≤ z.toInt ∧ z.toInt ≤ e.2.2.1 := by
  obtain ⟨k, lo, hi, x⟩ := e
  have : k = 0 := Nat.eq_of_beq_eq_true h
  subst this
  exact hv
theorem satE1 {e : aE} {v : Value} (h : Nat.beq e.1 1 = true) (hv : satE e v) : (v = .null ∧ e.2.1 = 1) ∨ ∃ i, i ∈ e.2.2.2 ∧ v = .ref i := by
  obtain ⟨k, lo, hi, x⟩ := e
  have : k = 1 := Nat.eq_of_beq_eq_true h
  subst this
  exact hv
theorem fIv_ok {k : Int → Int → Bool} (hE : aEnv env ρ) (h : fIv env a k = true) : ∃ (z : Int32) (lo hi : Int), aval ρ a = .int z ∧ lo ≤ z.toInt ∧ z.toInt ≤ hi ∧ k lo hi = true ∧ a.1 ≠ 1 := by
  rcases bI_if h with ⟨h1, h2⟩ | ⟨h1, h2⟩
  · obtain ⟨h3, h4⟩ := bI_and h2
    have e1 : a = (0, a.2) := Prod.ext (Nat.eq_of_beq_eq_true h1) rfl
    obtain ⟨r1, r2⟩ := fR_t h3
    have r3 := i32_of r1 r2
    refine ⟨Int32.ofInt a.2, a.2, a.2, ?_, by omega, by omega, h4, ?_⟩
    · rw [e1]
      exact aval_c hE.2.1 _
    · rw [e1]
      exact Nat.zero_ne_one
  · obtain ⟨h3, h4⟩ := bI_not h2
    obtain ⟨e, h5, h6⟩ := fNth_ok h4
    obtain ⟨h7, h8⟩ := bI_and h6
    obtain ⟨g1, g2⟩ := bI_and h8
    obtain ⟨g3, g4⟩ := bI_and g2
    obtain ⟨z0, hz, q1, q2⟩ := satE0 h7 (hE.2.2 _ _ h5)
    rw [iAdd_eq] at g1 g3 g4
    rw [iAdd_eq] at g4
    have r1 := fR_t g1
    have r2 := fR_t g3
    have hq := i32_add (z := z0) (n := a.2) (by omega) (by omega)
    refine ⟨z0 + Int32.ofInt a.2, _, _, ?_, ?_, ?_, g4, Nat.ne_of_beq_eq_false h3⟩
    · unfold aval
      rw [if_neg (Nat.ne_of_beq_eq_false h3), hz]
    · omega
    · omega
/-- it is a number -/
noncomputable def fIsI (env : List aE) (a : aV) : Bool := bI (Nat.beq a.1 0) true (bI (Nat.beq a.1 1) false (fNth env a.1 (fun e => Nat.beq e.1 0)))
theorem fIsI_ok (hE : aEnv env ρ) (h : fIsI env a = true) : a.1 ≠ 1 ∧ ∃ z : Int32, aval ρ a = .int z := by
  rcases bI_if h with ⟨h1, h2⟩ | ⟨h1, h2⟩
  · have e1 : a = (0, a.2) := Prod.ext (Nat.eq_of_beq_eq_true h1) rfl
    rw [e1]
    exact ⟨Nat.zero_ne_one, _, aval_c hE.2.1 _⟩
  · obtain ⟨h3, h4⟩ := bI_not h2
    obtain ⟨e, h5, h6⟩ := fNth_ok h4
    obtain ⟨z0, hz, q1, q2⟩ := satE0 h6 (hE.2.2 _ _ h5)
    refine ⟨Nat.ne_of_beq_eq_false h3, z0 + Int32.ofInt a.2, ?_⟩
    unfold aval
    rw [if_neg (Nat.ne_of_beq_eq_false h3), hz]
noncomputable def fNmE (a : aV) (k : aV → Bool) (e : aE) : Bool := bI (Nat.beq e.1 0) (bI (fEq e.2.1 e.2.2.1) (k (0, iAdd e.2.1 a.2)) (k a)) false
/-- a number, plain where it is known -/
noncomputable def fNm (env : List aE) (a : aV) (k : aV → Bool) : Bool := bI (Nat.beq a.1 0) (k a) (bI (Nat.beq a.1 1) false (fNth env a.1 (fNmE a k)))
theorem fNm_ok {k : aV → Bool} (hE : aEnv env ρ) (ha : a.1 < env.length) (h : fNm env a k = true) : ∃ (b : aV) (z : Int32), k b = true ∧ b.1 < env.length ∧ aval ρ b = .int z ∧ aval ρ a = .int z := by
  rcases bI_if h with ⟨h1, h2⟩ | ⟨h1, h2⟩
  · have e1 : a = (0, a.2) := Prod.ext (Nat.eq_of_beq_eq_true h1) rfl
    have e2 : aval ρ a = .int (Int32.ofInt a.2) := by
      rw [e1]
      exact aval_c hE.2.1 _
    exact ⟨a, _, h2, ha, e2, e2⟩
  · obtain ⟨h3, h4⟩ := bI_not h2
    obtain ⟨e, h5, h6⟩ := fNth_ok h4
    obtain ⟨h7, h8⟩ := bI_and h6
    obtain ⟨z0, hz, q1, q2⟩ := satE0 h7 (hE.2.2 _ _ h5)
    have e2 : aval ρ a = .int (z0 + Int32.ofInt a.2) := by
      unfold aval
      rw [if_neg (Nat.ne_of_beq_eq_false h3), hz]
    rcases bI_if h8 with ⟨g1, g2⟩ | ⟨g1, g2⟩
    · have g1 := fEq_t g1
      refine ⟨_, _, g2, Nat.lt_of_lt_of_le (Nat.zero_lt_succ 1) hE.1, aval_c hE.2.1 _, ?_⟩
      rw [e2, iAdd_eq, Int32.ofInt_add]
      have : z0 = Int32.ofInt e.2.1 := by rw [show e.2.1 = z0.toInt by omega, Int32.ofInt_toInt]
      rw [this]
    · exact ⟨a, _, g2, ha, e2, e2⟩
/-- an object that is there -/
noncomputable def fRnE (k : List Nat → Bool) (e : aE) : Bool := bI (Nat.beq e.1 1) (bI (fEq e.2.1 1) false (k e.2.2.2)) false
noncomputable def fRn (env : List aE) (a : aV) (k : List Nat → Bool) : Bool := bI (Nat.beq a.1 1) (k [fNat a.2]) (fNth env a.1 (fRnE k))
theorem aval_ref {v : Value} (h1 : a.1 ≠ 1) (h : ρ a.1 = v) (hv : ∀ z, v ≠ .int z) : aval ρ a = v := by
  unfold aval
  rw [if_neg h1, h]
  cases v <;> first | rfl | exact absurd rfl (hv _)
theorem fRn_ok {k : List Nat → Bool} (hE : aEnv env ρ) (h : fRn env a k = true) : ∃ (ids : List Nat) (i : Nat), i ∈ ids ∧ aval ρ a = .ref i ∧ k ids = true := by
  rcases bI_if h with ⟨h1, h2⟩ | ⟨h1, h2⟩
  · refine ⟨_, a.2.toNat, ?_, ?_, h2⟩
    · rw [fNat_eq]
      exact List.mem_singleton.mpr rfl
    · unfold aval
      rw [if_pos (Nat.eq_of_beq_eq_true h1)]
  · obtain ⟨e, h5, h6⟩ := fNth_ok h2
    obtain ⟨h7, h8⟩ := bI_and h6
    obtain ⟨g1, g2⟩ := bI_not h8
    have g1 := fEq_f g1
    rcases satE1 h7 (hE.2.2 _ _ h5) with ⟨-, hn⟩ | ⟨i, hi, hv⟩
    · exact absurd hn g1
    · exact ⟨_, i, hi, aval_ref (Nat.ne_of_beq_eq_false h1) hv (fun z hz => by cases hz), g2⟩
/-- an object, null or the script -/
noncomputable def fIsA (env : List aE) (a : aV) : Bool := bI (Nat.beq a.1 1) true (fNth env a.1 (fun e => bI (Nat.beq e.1 1) true (Nat.beq e.1 3)))
theorem fIsA_ok (hE : aEnv env ρ) (h : fIsA env a = true) : (∃ i, aval ρ a = .ref i) ∨ aval ρ a = .null ∨ aval ρ a = .retAddr 1 := by
  rcases bI_if h with ⟨h1, h2⟩ | ⟨h1, h2⟩
  · exact Or.inl ⟨a.2.toNat, by unfold aval; rw [if_pos (Nat.eq_of_beq_eq_true h1)]⟩
  · obtain ⟨e, h5, h6⟩ := fNth_ok h2
    have hn := Nat.ne_of_beq_eq_false h1
    rcases bI_if h6 with ⟨g1, g2⟩ | ⟨g1, g2⟩
    · rcases satE1 g1 (hE.2.2 _ _ h5) with ⟨hv, -⟩ | ⟨i, hi, hv⟩
      · exact Or.inr (Or.inl (aval_ref hn hv (fun z hz => by cases hz)))
      · exact Or.inl ⟨i, aval_ref hn hv (fun z hz => by cases hz)⟩
    · have hv := hE.2.2 _ _ h5
      obtain ⟨k, lo, hi, x⟩ := e
      have : k = 3 := Nat.eq_of_beq_eq_true g2
      subst this
      exact Or.inr (Or.inr (aval_ref hn (show ρ a.1 = .retAddr 1 from hv) (fun z hz => by cases hz)))
/-- it may be a long -/
noncomputable def fLgE (env : List aE) (a : aV) : Bool := bI (Nat.ble a.1 1) false (fNth env a.1 (fun e => Nat.beq e.1 2))
theorem fNth_k {n : Nat} {k : aE → Bool} {e : aE} (h : env[n]? = some e) : fNth env n k = k e := by
  induction env generalizing n with
  | nil => cases h
  | cons e0 env ih =>
    show bI (Nat.beq n 0) (k e0) (fNth env (Nat.sub n 1) k) = k e
    cases n with
    | zero =>
      cases h
      rfl
    | succ n => exact ih h
theorem fLgE_no (hE : aEnv env ρ) (ha : a.1 < env.length) (h : fLgE env a = false) : (aval ρ a).category ≠ 2 := by
  have key : a.1 ≠ 1 → ∀ e, env[a.1]? = some e → e.1 ≠ 2 → (aval ρ a).category ≠ 2 := by
    intro h1 e he h2
    have hv := hE.2.2 _ _ he
    unfold aval
    rw [if_neg h1]
    obtain ⟨k, lo, hi, x⟩ := e
    match k, hv, h2 with
    | 0, hv, _ =>
      obtain ⟨z, hz, -⟩ := hv
      rw [hz]
      exact (by decide : (1 : Nat) ≠ 2)
    | 1, hv, _ =>
      rcases hv with ⟨hz, -⟩ | ⟨i, -, hz⟩ <;> rw [hz] <;> exact (by decide : (1 : Nat) ≠ 2)
    | 2, hv, h => exact absurd rfl h
    | 3, hv, _ =>
      have hv : ρ a.1 = .retAddr 1 := hv
      rw [hv]
      exact (by decide : (1 : Nat) ≠ 2)
    | k + 4, hv, _ => exact absurd hv (fun z => z)
  by_cases h1 : a.1 = 1
  · unfold aval
    rw [if_pos h1]
    exact (by decide : (1 : Nat) ≠ 2)
  · have he := List.getElem?_eq_getElem ha
    generalize env[a.1] = e at he
    refine key h1 e he ?_
    intro h2
    by_cases h0 : a.1 = 0
    · have hv := hE.2.2 _ _ he
      rw [h0, hE.2.1] at hv
      obtain ⟨k, lo, hi, x⟩ := e
      have h2 : k = 2 := h2
      subst h2
      obtain ⟨z, hz, -⟩ := hv
      cases hz
    · have hb : Nat.ble a.1 1 = false := by
        rw [Bool.eq_false_iff]
        intro hb
        have := Nat.le_of_ble_eq_true hb
        omega
      unfold fLgE at h
      rw [hb] at h
      have h : fNth env a.1 (fun e => Nat.beq e.1 2) = false := h
      rw [fNth_k he] at h
      have h : Nat.beq e.1 2 = false := h
      exact Nat.ne_of_beq_eq_false h h2
theorem aval_s0 {s : Nat} (hs : s ≠ 1) : aval ρ (s, 0) = ρ s := by
  unfold aval
  rw [if_neg hs]
  show (match ρ s with | Value.int z => Value.int (z + Int32.ofInt 0) | v => v) = ρ s
  cases ρ s <;> first | rfl | (show Value.int (_ + 0) = _; rw [Int32.add_zero])
end FST
/-! the fast machine: locals and memory -/
abbrev fT : Type := Nat → List (Nat × aE)
noncomputable def fLd (A : aL) (i : Nat) (k : aV → Bool) : Bool := @List.rec (Nat × aV) (fun _ => Bool) false (fun q _ ih => bI (Nat.beq q.1 i) (k q.2) ih) A
theorem fLd_ok {A : aL} {i : Nat} {k : aV → Bool} (h : fLd A i k = true) : ∃ a, (i, a) ∈ A ∧ k a = true := by
  induction A with
  | nil => cases h
  | cons q A ih =>
    rcases bI_if (show bI (Nat.beq q.1 i) (k q.2) (fLd A i k) = true from h) with ⟨h1, h2⟩ | ⟨h1, h2⟩
    · refine ⟨q.2, ?_, h2⟩
      rw [show (i, q.2) = q from Prod.ext (Nat.eq_of_beq_eq_true h1).symm rfl]
      exact List.mem_cons_self
    · obtain ⟨a, h3, h4⟩ := ih h2
      exact ⟨a, List.mem_cons_of_mem _ h3, h4⟩
noncomputable def fS1r (env : List aE) (i : Nat) (A : aL) : aL := @List.rec (Nat × aV) (fun _ => aL) [] (fun q _ ih => @Bool.rec (fun _ => aL) (@Bool.rec (fun _ => aL) (q :: ih) (@Bool.rec (fun _ => aL) (q :: ih) ih (fLgE env q.2)) (Nat.beq (Nat.succ q.1) i)) ih (Nat.beq q.1 i)) A
theorem fS1r_mem {env : List aE} {i : Nat} {A : aL} {q : Nat × aV} (h : q ∈ fS1r env i A) : q ∈ A ∧ q.1 ≠ i ∧ (q.1 + 1 = i → fLgE env q.2 = false) := by
  induction A with
  | nil => cases h
  | cons p A ih =>
    have h : q ∈ (@Bool.rec (fun _ => aL) (@Bool.rec (fun _ => aL) (p :: fS1r env i A) (@Bool.rec (fun _ => aL) (p :: fS1r env i A) (fS1r env i A) (fLgE env p.2)) (Nat.beq (Nat.succ p.1) i)) (fS1r env i A) (Nat.beq p.1 i)) := h
    have old : q ∈ fS1r env i A → q ∈ p :: A ∧ q.1 ≠ i ∧ (q.1 + 1 = i → fLgE env q.2 = false) := fun hq => ⟨List.mem_cons_of_mem _ (ih hq).1, (ih hq).2⟩
    cases h1 : Nat.beq p.1 i with
    | true =>
      rw [h1] at h
      exact old h
    | false =>
      rw [h1] at h
      have hne := Nat.ne_of_beq_eq_false h1
      cases h2 : Nat.beq (Nat.succ p.1) i with
      | false =>
        rw [h2] at h
        rcases List.mem_cons.mp h with rfl | h
        · exact ⟨List.mem_cons_self, hne, fun hz => absurd hz (Nat.ne_of_beq_eq_false h2)⟩
        · exact old h
      | true =>
        rw [h2] at h
        cases h3 : fLgE env p.2 with
        | true =>
          rw [h3] at h
          exact old h
        | false =>
          rw [h3] at h
          rcases List.mem_cons.mp h with rfl | h
          · exact ⟨List.mem_cons_self, hne, fun _ => h3⟩
          · exact old h
theorem fS1_ok {w : aW} {ρ : Nat → Value} {A : aL} {L : pLs} {i : Nat} {a : aV} {v : Value} (hE : aEnv w.1 ρ) (h : aLoc w ρ A L) (ha : a.1 < w.1.length) (hv : aval ρ a = v) : aLoc w ρ ((i, a) :: fS1r w.1 i A) (pS1 L i v) := by
  intro q hq
  unfold pS1
  rcases List.mem_cons.mp hq with rfl | hq
  · exact ⟨ha, by rw [pLd_cons, hv]⟩
  · obtain ⟨hq1, hne, hlg⟩ := fS1r_mem hq
    obtain ⟨g1, g2⟩ := h q hq1
    refine ⟨g1, ?_⟩
    rw [pLd_cons_ne _ _ (Ne.symm hne)]
    refine pLd_filter g2 ?_
    rw [Bool.and_eq_true]
    refine ⟨by simpa using hne, ?_⟩
    by_cases hi : q.1 + 1 = i
    · have hc := fLgE_no hE g1 (hlg hi)
      simp [hc]
    · simp [hi]
/-- T out of a function: 205 objects -/
def gN : Nat := 205
def tOf (τ : fT) : aT := (List.range 205).map τ
def fTau (τ : fT) : Prop := ∀ i, 205 ≤ i → τ i = []
theorem tOf_get {τ : fT} (h : fTau τ) (i : Nat) : (tOf τ).getD i [] = τ i := by
  unfold tOf
  rw [List.getD_eq_getElem?_getD, List.getElem?_map]
  by_cases hi : i < 205
  · rw [List.getElem?_range hi]
    rfl
  · rw [List.getElem?_eq_none (by rw [List.length_range]; omega), h i (by omega)]
    rfl
noncomputable def fTy (r : List (Nat × aE)) (a : Nat) (k : aE → Bool) : Bool := @List.rec (Nat × aE) (fun _ => Bool) false (fun q _ ih => bI (Nat.ble q.1 a) ih (k q.2)) r
theorem fTy_ok {r : List (Nat × aE)} {a : Nat} {k : aE → Bool} (h : fTy r a k = true) : ∃ e, (r.find? (fun q => Nat.blt a q.1)).map (fun q => q.2) = some e ∧ k e = true := by
  induction r with
  | nil => cases h
  | cons q r ih =>
    rcases bI_if (show bI (Nat.ble q.1 a) (fTy r a k) (k q.2) = true from h) with ⟨h1, h2⟩ | ⟨h1, h2⟩
    · obtain ⟨e, h3, h4⟩ := ih h2
      refine ⟨e, ?_, h4⟩
      rw [List.find?_cons_of_neg]
      · exact h3
      · have := Nat.le_of_ble_eq_true h1
        simp only [Nat.blt_eq, Nat.not_lt]
        exact this
    · refine ⟨q.2, ?_, h2⟩
      rw [List.find?_cons_of_pos]
      · rfl
      · have : ¬ q.1 ≤ a := fun hz => by
          rw [Nat.ble_eq_true_of_le hz] at h1
          cases h1
        simp only [Nat.blt_eq]
        omega
theorem fTy_at {τ : fT} {i a : Nat} {k : aE → Bool} (ht : fTau τ) (h : fTy (τ i) a k = true) : ∃ e, tyAt (tOf τ) i a = some e ∧ k e = true := by
  unfold tyAt
  rw [tOf_get ht]
  exact fTy_ok h
noncomputable def fFindO (ov : aO) (i a : Nat) (k : aV → Bool) (els : Bool) : Bool := @List.rec ((Nat × Nat) × aV) (fun _ => Bool) els (fun q _ ih => bI (Nat.beq q.1.1 i) (bI (Nat.beq q.1.2 a) (k q.2) ih) ih) ov
theorem fFindO_ok {ov : aO} {i a : Nat} {k : aV → Bool} {els : Bool} (h : fFindO ov i a k els = true) : (∃ v, ((i, a), v) ∈ ov ∧ k v = true) ∨ els = true := by
  induction ov with
  | nil => exact Or.inr h
  | cons q ov ih =>
    have h : bI (Nat.beq q.1.1 i) (bI (Nat.beq q.1.2 a) (k q.2) (fFindO ov i a k els)) (fFindO ov i a k els) = true := h
    have old : fFindO ov i a k els = true → (∃ v, ((i, a), v) ∈ q :: ov ∧ k v = true) ∨ els = true := fun hz => by
      rcases ih hz with ⟨v, h1, h2⟩ | h1
      · exact Or.inl ⟨v, List.mem_cons_of_mem _ h1, h2⟩
      · exact Or.inr h1
    rcases bI_if h with ⟨h1, h2⟩ | ⟨h1, h2⟩
    · rcases bI_if h2 with ⟨h3, h4⟩ | ⟨h3, h4⟩
      · refine Or.inl ⟨q.2, ?_, h4⟩
        rw [show ((i, a), q.2) = q from Prod.ext (Prod.ext (Nat.eq_of_beq_eq_true h1).symm (Nat.eq_of_beq_eq_true h3).symm) rfl]
        exact List.mem_cons_self
      · exact old h4
    · exact old h2
noncomputable def fLen (env : List aE) : Nat := @List.rec aE (fun _ => Nat) 0 (fun _ _ ih => Nat.succ ih) env
theorem fLen_eq (env : List aE) : fLen env = env.length := by
  induction env with
  | nil => rfl
  | cons e env ih => exact congrArg Nat.succ ih
noncomputable def fSnoc (env : List aE) (e : aE) : List aE := @List.rec aE (fun _ => List aE) [e] (fun x _ ih => x :: ih) env
theorem fSnoc_eq (env : List aE) (e : aE) : fSnoc env e = env ++ [e] := by
  induction env with
  | nil => rfl
  | cons x env ih => exact congrArg (fun z => x :: z) ih
noncomputable def fMkN (env : List aE) (e : aE) (k : List aE → aV → Bool) : Bool := k (fSnoc env e) (fLen env, 0)
noncomputable def fMk1 (env : List aE) (e : aE) (k : List aE → aV → Bool) : Bool := @List.rec Nat (fun _ => Bool) (fMkN env e k) (fun i r _ => @List.rec Nat (fun _ => Bool) (bI (fEq e.2.1 1) (fMkN env e k) (k env (1, Int.ofNat i))) (fun _ _ _ => fMkN env e k) r) e.2.2.2
/-- a value for an entry -/
noncomputable def fMk (env : List aE) (e : aE) (k : List aE → aV → Bool) : Bool := bI (Nat.beq e.1 0) (bI (fEq e.2.1 e.2.2.1) (k env (0, e.2.1)) (fMkN env e k)) (bI (Nat.beq e.1 1) (fMk1 env e k) (fMkN env e k))
theorem fMk_ok {env : List aE} {e : aE} {k : List aE → aV → Bool} (h : fMk env e k = true) : k (mkE env e).1 (mkE env e).2 = true := by
  obtain ⟨kd, lo, hi, ids⟩ := e
  have hN : fMkN env (kd, lo, hi, ids) k = true → k (env ++ [(kd, lo, hi, ids)]) (env.length, 0) = true := fun hz => by
    unfold fMkN at hz
    rw [fSnoc_eq, fLen_eq] at hz
    exact hz
  rcases bI_if h with ⟨h1, h2⟩ | ⟨h1, h2⟩
  · have : kd = 0 := Nat.eq_of_beq_eq_true h1
    subst this
    unfold mkE
    simp only
    rcases bI_if h2 with ⟨h3, h4⟩ | ⟨h3, h4⟩
    · rw [if_pos (fEq_t h3)]
      exact h4
    · rw [if_neg (fEq_f h3)]
      exact hN h4
  · have hk := Nat.ne_of_beq_eq_false h1
    rcases bI_if h2 with ⟨h3, h4⟩ | ⟨h3, h4⟩
    · have : kd = 1 := Nat.eq_of_beq_eq_true h3
      subst this
      match ids, h4, hN with
      | [], h4, hN => exact hN h4
      | [i], h4, hN =>
        have h4 : bI (fEq lo 1) (fMkN env (1, lo, hi, [i]) k) (k env (1, Int.ofNat i)) = true := h4
        unfold mkE
        simp only
        rcases bI_if h4 with ⟨h5, h6⟩ | ⟨h5, h6⟩
        · rw [if_pos (fEq_t h5)]
          exact hN h6
        · rw [if_neg (fEq_f h5)]
          exact h6
      | i :: j :: r, h4, hN => exact hN h4
    · have hk1 := Nat.ne_of_beq_eq_false h3
      match kd, hk, hk1, hN, h4 with
      | 0, hk, _, _, _ => exact absurd rfl hk
      | 1, _, hk1, _, _ => exact absurd rfl hk1
      | kd + 2, _, _, hN, h4 => exact hN h4
noncomputable def fNoB (br : List (Nat × Nat)) (i a : Nat) : Bool := @List.rec (Nat × Nat) (fun _ => Bool) true (fun q _ ih => bI (Nat.beq q.1 i) (bI (Nat.beq q.2 a) false ih) ih) br
theorem fNoB_ok {br : List (Nat × Nat)} {i a : Nat} (h : fNoB br i a = true) : (i, a) ∉ br := by
  induction br with
  | nil => exact List.not_mem_nil
  | cons q br ih =>
    have h : bI (Nat.beq q.1 i) (bI (Nat.beq q.2 a) false (fNoB br i a)) (fNoB br i a) = true := h
    intro hm
    rcases List.mem_cons.mp hm with rfl | hm
    · rw [show Nat.beq (i, a).1 i = true from Nat.beq_refl i] at h
      have h : bI (Nat.beq a a) false (fNoB br i a) = true := h
      rw [Nat.beq_refl] at h
      cases h
    · rcases bI_if h with ⟨h1, h2⟩ | ⟨h1, h2⟩
      · exact ih (bI_not h2).2 hm
      · exact ih h2 hm
noncomputable def fNoD (ds : List Nat) (i : Nat) : Bool := @List.rec Nat (fun _ => Bool) true (fun q _ ih => bI (Nat.beq q i) false ih) ds
theorem fNoD_ok {ds : List Nat} {i : Nat} (h : fNoD ds i = true) : i ∉ ds := by
  induction ds with
  | nil => exact List.not_mem_nil
  | cons q ds ih =>
    obtain ⟨h1, h2⟩ := bI_not (show bI (Nat.beq q i) false (fNoD ds i) = true from h)
    intro hm
    rcases List.mem_cons.mp hm with rfl | hm
    · exact Nat.ne_of_beq_eq_false h1 rfl
    · exact ih h2 hm
noncomputable def fRead1K (w : aW) (i a : Nat) (kk : aV → aW → Bool) (env : List aE) (v : aV) : Bool := bI (Nat.ble v.1 1) (kk v (env, w.2)) (kk v (env, ((i, a), v) :: w.2.1, w.2.2))
noncomputable def fRead1T (τ : fT) (w : aW) (i a : Nat) (kk : aV → aW → Bool) : Bool := bI (Nat.ble (Nat.succ i) w.2.2.2.2) (bI (fNoD w.2.2.2.1 i) (bI (fNoB w.2.2.1 i a) (fTy (τ i) a (fun e => fMk w.1 e (fRead1K w i a kk))) false) false) false
noncomputable def fRead1 (τ : fT) (w : aW) (i a : Nat) (kk : aV → aW → Bool) : Bool := fFindO w.2.1 i a (fun v => kk v w) (fRead1T τ w i a kk)
theorem fRead1_ok {τ : fT} {sh0 sh : pSh} {w : aW} {ρ : Nat → Value} {M : pMem} {i a : Nat} {kk : aV → aW → Bool} (ht : fTau τ) (h : fRead1 τ w i a kk = true) (hW : aWor (tOf τ) sh0 w ρ sh M) :
    ∃ (v : aV) (w' : aW) (ρ' : Nat → Value), kk v w' = true ∧ aSub w.1.length ρ ρ' ∧ aWor (tOf τ) sh0 w' ρ' sh M ∧ v.1 < w'.1.length ∧ M i a = aval ρ' v ∧ w.1.length ≤ w'.1.length := by
  rcases fFindO_ok h with ⟨v, h1, h2⟩ | h1
  · obtain ⟨g1, g2⟩ := hW.2.2.1 _ h1
    exact ⟨v, w, ρ, h2, aSub.rf _ _, hW, g1, g2, Nat.le_refl _⟩
  · obtain ⟨c1, h1⟩ := bI_and h1
    obtain ⟨c2, h1⟩ := bI_and h1
    obtain ⟨c3, h1⟩ := bI_and h1
    obtain ⟨e, h2, h3⟩ := fTy_at ht h1
    have h4 := fMk_ok h3
    have hs := hW.2.1 i a e (Nat.le_of_ble_eq_true c1) (fNoD_ok c2) (fNoB_ok c3) h2
    obtain ⟨ρ', g1, g2, g3, g4, g5⟩ := mkE_ok hW.1 hs
    have hW' := aWor_env hW g1 g2 g5
    rcases bI_if (show bI (Nat.ble (mkE w.1 e).2.1 1) (kk (mkE w.1 e).2 ((mkE w.1 e).1, w.2)) (kk (mkE w.1 e).2 ((mkE w.1 e).1, ((i, a), (mkE w.1 e).2) :: w.2.1, w.2.2)) = true from h4) with ⟨b1, b2⟩ | ⟨b1, b2⟩
    · exact ⟨_, _, ρ', b2, g1, hW', g3, g4.symm, g5⟩
    · refine ⟨_, _, ρ', b2, g1, ⟨hW'.1, hW'.2.1, ?_, hW'.2.2.2⟩, g3, g4.symm, g5⟩
      intro q hq
      rcases List.mem_cons.mp hq with rfl | hq
      · exact ⟨g3, g4.symm⟩
      · exact hW'.2.2.1 q hq
noncomputable def fFitI (e : aE) (lo hi : Int) : Bool := bI (Nat.beq e.1 0) (bI (fLe e.2.1 lo) (fLe hi e.2.2.1) false) false
noncomputable def fMem (l : List Nat) (i : Nat) : Bool := @List.rec Nat (fun _ => Bool) false (fun q _ ih => bI (Nat.beq q i) true ih) l
theorem fMem_ok {l : List Nat} {i : Nat} (h : fMem l i = true) : i ∈ l := by
  induction l with
  | nil => cases h
  | cons q l ih =>
    rcases bI_if (show bI (Nat.beq q i) true (fMem l i) = true from h) with ⟨h1, -⟩ | ⟨-, h2⟩
    · rw [Nat.eq_of_beq_eq_true h1]
      exact List.mem_cons_self
    · exact List.mem_cons_of_mem _ (ih h2)
noncomputable def fSubL (l m : List Nat) : Bool := @List.rec Nat (fun _ => Bool) true (fun q _ ih => bI (fMem m q) ih false) l
theorem fSubL_ok {l m : List Nat} (h : fSubL l m = true) : ∀ i ∈ l, i ∈ m := by
  induction l with
  | nil => intro i hi; cases hi
  | cons q l ih =>
    obtain ⟨h1, h2⟩ := bI_and (show bI (fMem m q) (fSubL l m) false = true from h)
    intro i hi
    rcases List.mem_cons.mp hi with rfl | hi
    · exact fMem_ok h1
    · exact ih h2 i hi
noncomputable def fFitN (e : aE) (d : aE) : Bool := bI (Nat.beq d.1 1) (bI (fEq d.2.1 1) (bI (fEq e.2.1 1) (fSubL d.2.2.2 e.2.2.2) false) (fSubL d.2.2.2 e.2.2.2)) false
noncomputable def fFitA (env : List aE) (v : aV) (e : aE) : Bool := bI (Nat.beq v.1 1) (fMem e.2.2.2 (fNat v.2)) (fNth env v.1 (fFitN e))
/-- a value is of an entry's kind -/
noncomputable def fFit (env : List aE) (v : aV) (e : aE) : Bool := bI (Nat.beq e.1 0) (fIv env v (fFitI e)) (bI (Nat.beq e.1 1) (fFitA env v e) (bI (Nat.beq e.1 2) (bI (Nat.beq v.1 1) false (fNth env v.1 (fun d => bI (Nat.beq d.1 2) (bI (fLe e.2.1 d.2.1) (fLe d.2.2.1 e.2.2.1) false) false))) false))
theorem fFit_ok {env : List aE} {ρ : Nat → Value} {v : aV} {e : aE} (hE : aEnv env ρ) (h : fFit env v e = true) : satE e (aval ρ v) := by
  rcases bI_if h with ⟨h1, h2⟩ | ⟨h1, h2⟩
  · obtain ⟨z, lo, hi, hz, g1, g2, g3, -⟩ := fIv_ok hE h2
    obtain ⟨-, g4⟩ := bI_and g3
    obtain ⟨g5, g6⟩ := bI_and g4
    have g5 := fLe_t g5
    have g6 := fLe_t g6
    obtain ⟨k, l, u, x⟩ := e
    have : k = 0 := Nat.eq_of_beq_eq_true h1
    subst this
    have g5 : l ≤ lo := g5
    have g6 : hi ≤ u := g6
    exact ⟨z, hz, by omega, by omega⟩
  · rcases bI_if h2 with ⟨h3, h4⟩ | ⟨h3, h4⟩
    · obtain ⟨k, l, u, x⟩ := e
      have : k = 1 := Nat.eq_of_beq_eq_true h3
      subst this
      rcases bI_if h4 with ⟨g1, g2⟩ | ⟨g1, g2⟩
      · refine Or.inr ⟨v.2.toNat, ?_, ?_⟩
        · have := fMem_ok g2
          rw [fNat_eq] at this
          exact this
        · unfold aval
          rw [if_pos (Nat.eq_of_beq_eq_true g1)]
      · obtain ⟨d, g3, g4⟩ := fNth_ok g2
        have hn := Nat.ne_of_beq_eq_false g1
        obtain ⟨g5, g6⟩ := bI_and g4
        rcases satE1 g5 (hE.2.2 _ _ g3) with ⟨hv, hnl⟩ | ⟨i, hi, hv⟩
        · rcases bI_if g6 with ⟨k1, k2⟩ | ⟨k1, k2⟩
          · obtain ⟨k3, -⟩ := bI_and k2
            exact Or.inl ⟨aval_ref hn hv (fun z hz => by cases hz), fEq_t k3⟩
          · exact absurd hnl (fEq_f k1)
        · have hin : i ∈ x := by
            rcases bI_if g6 with ⟨k1, k2⟩ | ⟨k1, k2⟩
            · exact fSubL_ok (bI_and k2).2 i hi
            · exact fSubL_ok k2 i hi
          exact Or.inr ⟨i, hin, aval_ref hn hv (fun z hz => by cases hz)⟩
    · obtain ⟨h5, h6⟩ := bI_and h4
      obtain ⟨g1, g2⟩ := bI_not h6
      obtain ⟨d, g3, g4⟩ := fNth_ok g2
      obtain ⟨g5, g6⟩ := bI_and g4
      obtain ⟨g7, g8⟩ := bI_and g6
      have hv := hE.2.2 _ _ g3
      obtain ⟨k, l, u, x⟩ := e
      have : k = 2 := Nat.eq_of_beq_eq_true h5
      subst this
      obtain ⟨k2, l2, u2, x2⟩ := d
      have : k2 = 2 := Nat.eq_of_beq_eq_true g5
      subst this
      obtain ⟨z, hz, z1, z2⟩ := hv
      have g7 : l ≤ l2 := fLe_t g7
      have g8 : u2 ≤ u := fLe_t g8
      refine ⟨z, aval_ref (Nat.ne_of_beq_eq_false g1) hz (fun z hz => by cases hz), by omega, by omega⟩
noncomputable def fRem (ov : aO) (i a : Nat) : aO := @List.rec ((Nat × Nat) × aV) (fun _ => aO) [] (fun q _ ih => @Bool.rec (fun _ => aO) (q :: ih) (@Bool.rec (fun _ => aO) (q :: ih) ih (Nat.beq q.1.2 a)) (Nat.beq q.1.1 i)) ov
theorem fRem_mem {ov : aO} {i a : Nat} {q : (Nat × Nat) × aV} (h : q ∈ fRem ov i a) : q ∈ ov ∧ ¬ (q.1.1 = i ∧ q.1.2 = a) := by
  induction ov with
  | nil => cases h
  | cons p ov ih =>
    have h : q ∈ (@Bool.rec (fun _ => aO) (p :: fRem ov i a) (@Bool.rec (fun _ => aO) (p :: fRem ov i a) (fRem ov i a) (Nat.beq p.1.2 a)) (Nat.beq p.1.1 i)) := h
    have old : q ∈ fRem ov i a → q ∈ p :: ov ∧ ¬ (q.1.1 = i ∧ q.1.2 = a) := fun hz => ⟨List.mem_cons_of_mem _ (ih hz).1, (ih hz).2⟩
    cases h1 : Nat.beq p.1.1 i with
    | false =>
      rw [h1] at h
      rcases List.mem_cons.mp h with rfl | h
      · exact ⟨List.mem_cons_self, fun z => Nat.ne_of_beq_eq_false h1 z.1⟩
      · exact old h
    | true =>
      rw [h1] at h
      cases h2 : Nat.beq p.1.2 a with
      | false =>
        rw [h2] at h
        rcases List.mem_cons.mp h with rfl | h
        · exact ⟨List.mem_cons_self, fun z => Nat.ne_of_beq_eq_false h2 z.2⟩
        · exact old h
      | true =>
        rw [h2] at h
        exact old h
noncomputable def fRemB (br : List (Nat × Nat)) (i a : Nat) : List (Nat × Nat) := @List.rec (Nat × Nat) (fun _ => List (Nat × Nat)) [] (fun q _ ih => @Bool.rec (fun _ => List (Nat × Nat)) (q :: ih) (@Bool.rec (fun _ => List (Nat × Nat)) (q :: ih) ih (Nat.beq q.2 a)) (Nat.beq q.1 i)) br
theorem fRemB_mem {br : List (Nat × Nat)} {i a : Nat} {q : Nat × Nat} (h : q ∈ br) : q ∈ fRemB br i a ∨ q = (i, a) := by
  induction br with
  | nil => cases h
  | cons p br ih =>
    show q ∈ (@Bool.rec (fun _ => List (Nat × Nat)) (p :: fRemB br i a) (@Bool.rec (fun _ => List (Nat × Nat)) (p :: fRemB br i a) (fRemB br i a) (Nat.beq p.2 a)) (Nat.beq p.1 i)) ∨ q = (i, a)
    cases h1 : Nat.beq p.1 i with
    | false =>
      rcases List.mem_cons.mp h with rfl | h
      · exact Or.inl List.mem_cons_self
      · exact (ih h).imp (List.mem_cons_of_mem _) id
    | true =>
      cases h2 : Nat.beq p.2 a with
      | false =>
        rcases List.mem_cons.mp h with rfl | h
        · exact Or.inl List.mem_cons_self
        · exact (ih h).imp (List.mem_cons_of_mem _) id
      | true =>
        rcases List.mem_cons.mp h with rfl | h
        · exact Or.inr (Prod.ext (Nat.eq_of_beq_eq_true h1) (Nat.eq_of_beq_eq_true h2))
        · exact ih h
theorem fW_ok {T : aT} {sh0 sh : pSh} {w : aW} {ρ : Nat → Value} {M : pMem} {i a : Nat} {v : aV} {ov' : aO} {br' : List (Nat × Nat)} (hW : aWor T sh0 w ρ sh M) (hv : v.1 < w.1.length)
    (hov : ∀ q ∈ ov', q = ((i, a), v) ∨ (q ∈ w.2.1 ∧ ¬ (q.1.1 = i ∧ q.1.2 = a))) (hbr : ∀ q ∈ w.2.2.1, q ∈ br' ∨ q = (i, a)) (hty : (i, a) ∈ br' ∨ ∀ e, tyAt T i a = some e → satE e (aval ρ v)) :
    aWor T sh0 (w.1, ov', br', w.2.2.2) ρ sh (pUp M i a (aval ρ v)) := by
  refine ⟨hW.1, ?_, ?_, hW.2.2.2⟩
  · intro o' k' e' c1 c2 c3 c4
    by_cases hz : o' = i ∧ k' = a
    · obtain ⟨rfl, rfl⟩ := hz
      rw [pUp_self]
      rcases hty with h | h
      · exact absurd h c3
      · exact h _ c4
    · rw [pUp_other _ _ _ _ hz]
      refine hW.2.1 o' k' e' c1 c2 (fun hm => ?_) c4
      rcases hbr _ hm with h | h
      · exact c3 h
      · cases h
        exact hz ⟨rfl, rfl⟩
  · intro q hq
    rcases hov q hq with rfl | ⟨h1, h2⟩
    · exact ⟨hv, pUp_self M i a _⟩
    · obtain ⟨g1, g2⟩ := hW.2.2.1 q h1
      refine ⟨g1, ?_⟩
      rw [pUp_other _ _ _ _ h2, g2]
noncomputable def fSing (l : List Nat) : Bool := @List.rec Nat (fun _ => Bool) false (fun _ r _ => @List.rec Nat (fun _ => Bool) true (fun _ _ _ => false) r) l
noncomputable def fOne (e : aE) : Bool := bI (Nat.beq e.1 0) (fEq e.2.1 e.2.2.1) (bI (Nat.beq e.1 1) (bI (fEq e.2.1 0) (fSing e.2.2.2) false) false)
noncomputable def fWr1E (w : aW) (i a : Nat) (v : aV) (kk : aW → Bool) (e : aE) : Bool := bI (fFit w.1 v e) (bI (fOne e) (kk (w.1, fRem w.2.1 i a, fRemB w.2.2.1 i a, w.2.2.2)) (kk (w.1, ((i, a), v) :: fRem w.2.1 i a, fRemB w.2.2.1 i a, w.2.2.2))) (kk (w.1, ((i, a), v) :: fRem w.2.1 i a, (i, a) :: w.2.2.1, w.2.2.2))
noncomputable def fWr1 (τ : fT) (w : aW) (i a : Nat) (v : aV) (kk : aW → Bool) : Bool := fTy (τ i) a (fWr1E w i a v kk)
theorem fWr1_ok {τ : fT} {sh0 sh : pSh} {w : aW} {ρ : Nat → Value} {M : pMem} {i a : Nat} {v : aV} {kk : aW → Bool} (ht : fTau τ) (h : fWr1 τ w i a v kk = true) (hW : aWor (tOf τ) sh0 w ρ sh M) (hv : v.1 < w.1.length) :
    ∃ w' : aW, kk w' = true ∧ w'.1 = w.1 ∧ aWor (tOf τ) sh0 w' ρ sh (pUp M i a (aval ρ v)) := by
  obtain ⟨e, h1, h2⟩ := fTy_at ht h
  have hfit : fFit w.1 v e = true → ∀ e', tyAt (tOf τ) i a = some e' → satE e' (aval ρ v) := fun hf e' he' => by
    rw [h1] at he'
    cases he'
    exact fFit_ok hW.1 hf
  have hov : ∀ q ∈ ((i, a), v) :: fRem w.2.1 i a, q = ((i, a), v) ∨ (q ∈ w.2.1 ∧ ¬ (q.1.1 = i ∧ q.1.2 = a)) := fun q hq => by
    rcases List.mem_cons.mp hq with h | h
    · exact Or.inl h
    · exact Or.inr (fRem_mem h)
  rcases bI_if h2 with ⟨g1, g2⟩ | ⟨g1, g2⟩
  · rcases bI_if g2 with ⟨g3, g4⟩ | ⟨g3, g4⟩
    · exact ⟨_, g4, rfl, fW_ok hW hv (fun q hq => Or.inr (fRem_mem hq)) (fun q hq => fRemB_mem hq) (Or.inr (hfit g1))⟩
    · exact ⟨_, g4, rfl, fW_ok hW hv hov (fun q hq => fRemB_mem hq) (Or.inr (hfit g1))⟩
  · exact ⟨_, g2, rfl, fW_ok hW hv hov (fun q hq => Or.inl (List.mem_cons_of_mem _ hq)) (Or.inl List.mem_cons_self)⟩

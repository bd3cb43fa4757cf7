/-! THE PURE MACHINE AGAINST THE JVM: values, locals, heap -/
def pcv (b : Nat) (x : Nat → Nat) : Value → Value
  | .ref i => .ref (b + i)
  | .retAddr k => .ref (x k)
  | v => v
theorem pcv_cat (b : Nat) (x : Nat → Nat) (v : Value) : (pcv b x v).category = v.category := by cases v <;> rfl
abbrev pcS (b : Nat) (x : Nat → Nat) (st : List Value) : List Value := st.map (pcv b x)
def pcL (b : Nat) (x : Nat → Nat) (L : pLs) : pLs := L.map (fun q => (q.1, pcv b x q.2))
theorem pcL_S1 (b : Nat) (x : Nat → Nat) (L : pLs) (i : Nat) (v : Value) : (i, pcv b x v) :: (pcL b x L).filter (fun q => !(q.1 == i) && !(q.1 + 1 == i && q.2.category == 2)) = pcL b x (pS1 L i v) := by
  unfold pcL pS1
  rw [List.map_cons, List.filter_map]
  congr 2
  apply List.filter_congr
  intro q _
  simp only [Function.comp_apply, pcv_cat]
theorem pcL_S2 (b : Nat) (x : Nat → Nat) (L : pLs) (i : Nat) (v : Value) : (i, pcv b x v) :: (pcL b x L).filter (fun q => !(q.1 == i) && (!(q.1 == i + 1) && !(q.1 + 1 == i && q.2.category == 2))) = pcL b x (pS2 L i v) := by
  unfold pcL pS2
  rw [List.map_cons, List.filter_map]
  congr 2
  apply List.filter_congr
  intro q _
  simp only [Function.comp_apply, pcv_cat]
theorem pLd_mem {L : pLs} {i : Nat} {v : Value} (h : pLd L i = some v) : (i, v) ∈ L := by
  unfold pLd at h
  obtain ⟨⟨a, w⟩, he, h2⟩ := Option.map_eq_some_iff.mp h
  have h3 := List.mem_of_find?_eq_some he
  have h4 := List.find?_some he
  have ha : a = i := by simpa using h4
  subst ha
  have hw : w = v := h2
  subst hw
  exact h3
theorem pLd_at {b : Nat} {x : Nat → Nat} {ls : Array Slot} {nL : Nat} {L : pLs} {i : Nat} {v : Value} (hl : lv_has ls nL (pcL b x L)) (h : pLd L i = some v) : ls[i]? = some (.val (pcv b x v)) := by
  have h1 : (i, pcv b x v) ∈ pcL b x L := List.mem_map.mpr ⟨(i, v), pLd_mem h, rfl⟩
  exact hl.2.2 _ h1
theorem pLd_ix {b : Nat} {x : Nat → Nat} {L : pLs} {i : Nat} {v : Value} (h : pLd L i = some v) : ∃ k : Nat, (pcL b x L)[k]? = some (i, pcv b x v) := by
  have h1 : (i, pcv b x v) ∈ pcL b x L := List.mem_map.mpr ⟨(i, v), pLd_mem h, rfl⟩
  exact List.getElem?_of_mem h1
theorem pcv_fit {b : Nat} {x : Nat → Nat} {ty : FieldType} {v : Value} (hn : narrow ty v = v) (hf : fits ty v = true) : narrow ty (pcv b x v) = pcv b x v ∧ fits ty (pcv b x v) = true := by
  cases v with
  | ref a => cases ty <;> first | exact ⟨rfl, rfl⟩ | (simp [fits] at hf)
  | retAddr k => cases ty <;> simp [fits] at hf
  | int z => exact ⟨hn, hf⟩
  | long z => exact ⟨hn, hf⟩
  | float z => exact ⟨hn, hf⟩
  | double z => exact ⟨hn, hf⟩
  | null => exact ⟨hn, hf⟩
/-- the i-th object, of kind k (below 13 a class of ours, above: an array) with n places -/
def pAt (D : va_G) (cy : Nat → ClassId) (b : Nat) (x : Nat → Nat) (i k n : Nat) (M : pMem) (H : Heap) : Prop :=
  (k < 13 ∧ (pCl k).2.2 = n ∧ t_OB (b + i) (D.1 k) n (D.2 k) H (fun j => pcv b x (M i j))) ∨ (13 ≤ k ∧ k < 19 ∧ H[b + i]? = some (arrV (cy k) n (fun j => pcv b x (M i j))))
def pR (D : va_G) (cy : Nat → ClassId) (b : Nat) (x : Nat → Nat) (sh : pSh) (M : pMem) (H : Heap) : Prop :=
  H.size = b + sh.length ∧ ∀ i k n, sh[i]? = some (k, n) → pAt D cy b x i k n M H
theorem pAt.kept {D : va_G} {cy : Nat → ClassId} {b : Nat} {x : Nat → Nat} {i k n : Nat} {M M' : pMem} {H H' : Heap} (h : pAt D cy b x i k n M H) (hq : H'[b + i]? = H[b + i]?) (hM : ∀ j, M' i j = M i j) : pAt D cy b x i k n M' H' := by
  have e : (fun j => pcv b x (M' i j)) = (fun j => pcv b x (M i j)) := funext fun j => by rw [hM]
  rcases h with ⟨h1, h2, h3⟩ | ⟨h1, h2, h3⟩
  · exact Or.inl ⟨h1, h2, by rw [e]; exact h3.kept hq⟩
  · exact Or.inr ⟨h1, h2, by rw [e, hq]; exact h3⟩
theorem pR.set {D : va_G} {cy : Nat → ClassId} {b : Nat} {x : Nat → Nat} {sh : pSh} {M M' : pMem} {H H' : Heap} {a k n : Nat} (h : pR D cy b x sh M H) (ha : sh[a]? = some (k, n)) (hz : H'.size = H.size) (ho : ∀ q, q ≠ b + a → H'[q]? = H[q]?) (hM : ∀ i, i ≠ a → ∀ j, M' i j = M i j) (hn : pAt D cy b x a k n M' H') : pR D cy b x sh M' H' := by
  refine ⟨by rw [hz]; exact h.1, fun i k' n' hi => ?_⟩
  by_cases e : i = a
  · subst e
    cases ha.symm.trans hi
    exact hn
  · exact (h.2 i k' n' hi).kept (ho _ (by omega)) (hM i e)
theorem pR.push {D : va_G} {cy : Nat → ClassId} {b : Nat} {x : Nat → Nat} {sh : pSh} {M M' : pMem} {H H' : Heap} {k n : Nat} (h : pR D cy b x sh M H) (hz : H'.size = H.size + 1) (ho : ∀ q, q < H.size → H'[q]? = H[q]?) (hM : ∀ i, i < sh.length → ∀ j, M' i j = M i j) (hn : pAt D cy b x sh.length k n M' H') : pR D cy b x (sh ++ [(k, n)]) M' H' := by
  refine ⟨by rw [hz, h.1, List.length_append]; simp; omega, fun i k' n' hi => ?_⟩
  by_cases e : i < sh.length
  · rw [List.getElem?_append_left e] at hi
    exact (h.2 i k' n' hi).kept (ho _ (by rw [h.1]; omega)) (hM i e)
  · rw [List.getElem?_append_right (by omega)] at hi
    have hz : i - sh.length < 1 := (List.getElem?_eq_some_iff.mp hi).1
    have e2 : i = sh.length := by omega
    subst e2
    rw [Nat.sub_self] at hi
    cases hi
    exact hn
theorem pR.lt {D : va_G} {cy : Nat → ClassId} {b : Nat} {x : Nat → Nat} {sh : pSh} {M : pMem} {H : Heap} (h : pR D cy b x sh M H) {a : Nat} {q : Nat × Nat} (ha : sh[a]? = some q) : b + a < H.size := by
  have := (List.getElem?_eq_some_iff.mp ha).1
  rw [h.1]
  omega
theorem pR.arr {D : va_G} {cy : Nat → ClassId} {b : Nat} {x : Nat → Nat} {sh : pSh} {M : pMem} {H : Heap} (h : pR D cy b x sh M H) {a k n : Nat} (ha : sh[a]? = some (k, n)) (hk : 13 ≤ k) : H[b + a]? = some (arrV (cy k) n (fun j => pcv b x (M a j))) := by
  rcases h.2 a k n ha with ⟨h1, -, -⟩ | ⟨-, -, h3⟩
  · omega
  · exact h3
theorem pR.obj {D : va_G} {cy : Nat → ClassId} {b : Nat} {x : Nat → Nat} {sh : pSh} {M : pMem} {H : Heap} (h : pR D cy b x sh M H) {a k n : Nat} (ha : sh[a]? = some (k, n)) (hk : k < 13) : (pCl k).2.2 = n ∧ t_OB (b + a) (D.1 k) n (D.2 k) H (fun j => pcv b x (M a j)) := by
  rcases h.2 a k n ha with ⟨-, h2, h3⟩ | ⟨h1, -, -⟩
  · exact ⟨h2, h3⟩
  · omega
/-- new T[n][k] of ints: the word that its outer class is there -/
def pAOA (U : State) : Prop := (Cond.arrayOver (.array .int)).before #[] U = true
theorem pAOA.use {A : Array Value} {U : State} (h : pAOA U) : (Cond.arrayOver (.array .int)).before A U = true := h
def tys6 (cy : Nat → ClassId) : List (ClassId × FieldType) := [(cy 13, .int), (cy 14, .boolean), (cy 15, .long), (cy 16, .array .int), (cy 17, .object RX8), (cy 18, .object RX7)]
/-- what the tables say that the words don't -/
def pK (D : va_G) (cy : Nat → ClassId) (U : State) : Prop := va_K D vwCl (tys6 cy) U ∧ (∀ (o : Nat) (q : Nat × Nat × Nat × Nat), o < 14 → q ∈ tMth.getD o [] → q.2.2.2 = 1 → va_Nw (.methodLinkNest (pOwn o) q.1 (pMe q.2.1).2.1 RX11) U) ∧ va_AO RX8 U ∧ va_AO RX7 U ∧ pAOA U
theorem pAOA.moved {u U : State} (hvm : u.vm.Alike U.vm) (h : pAOA u) : pAOA U := over_moved (a := #[]) (a' := #[]) hvm h
theorem pK.same {D : va_G} {cy : Nat → ClassId} {u U : State} (hv : u.vm = U.vm) (h : pK D cy u) : pK D cy U := by
  have ha : u.vm.Alike U.vm := by rw [hv]; exact Vm.Alike.refl _
  exact ⟨va_K.moved ha h.1, fun o q h1 h2 h3 => va_Nw.same rfl hv (h.2.1 o q h1 h2 h3), va_AO.moved ha h.2.2.1, va_AO.moved ha h.2.2.2.1, pAOA.moved ha h.2.2.2.2⟩
theorem pK.warm {D : va_G} {cy : Nat → ClassId} {s U : State} (hW : s.WarmedH U.vm) (h : pK D cy s) : pK D cy U := by
  have ha : s.vm.Alike U.vm := hW.alike
  exact ⟨va_K.moved ha h.1, fun o q h1 h2 h3 => va_Nw.warmM hW (h.2.1 o q h1 h2 h3), va_AO.moved ha h.2.2.1, va_AO.moved ha h.2.2.2.1, pAOA.moved ha h.2.2.2.2⟩
theorem pCl_at {ci : Nat} (h : ci < 13) : vwCl[ci]? = some (pCl ci) := by
  unfold pCl
  rw [List.getD_eq_getElem?_getD]
  have : ci < vwCl.length := h
  rw [List.getElem?_eq_getElem this]
  rfl
theorem tFld_lt : ∀ o, o < 14 → ∀ q ∈ tFld.getD o [], q.2.1 < 13 := by decide +kernel
theorem tMth_lt : ∀ o, o < 14 → ∀ q ∈ tMth.getD o [], q.2.1 < nM := by decide +kernel
theorem pMe_lt : ∀ m, m < nM → (pMe m).1 < 14 ∧ (pMe m).2.2.2.1 ≤ 20 ∧ pOwn (pMe m).1 = (pMe m).2.1.cls ∧ plainName (pMe m).2.1.cls = true ∧ (pMe m).2.1.cls ≠ "java/lang/invoke/MethodHandle" ∧ (pMe m).2.1.cls ≠ "java/lang/invoke/VarHandle" ∧ (pKind.getD m 9 = 2 → (pMe m).2.1.name = "<init>" ∧ (pMe m).2.2.2.2 = none) := by decide +kernel
theorem tMth_n : ∀ o, o < 14 → ∀ q ∈ tMth.getD o [], (parseMethodDescriptor (pMe q.2.1).2.1.desc).map (fun d => d.parameters.length) = some q.2.2.1 := by decide +kernel
theorem pCl_own : ∀ ci, ci < 13 → pOwn ci = (pCl ci).1 := by decide +kernel
def pTyF (ci k : Nat) : FieldType := (pTyOf ci k).getD .int
theorem pTy_ok : ∀ ci, ci < 13 → ∀ k, k < (pCl ci).2.2 → parseFieldDescriptor ((pCl ci).2.1 k).2.2.1 = some (pTyF ci k) := by decide +kernel
theorem pNm_ok : ∀ ci, ci < 13 → ∀ a, a < (pCl ci).2.2 → ∀ b, b < (pCl ci).2.2 → a ≠ b → ((pCl ci).2.1 a).2.1 ≠ ((pCl ci).2.1 b).2.1 := by decide +kernel
theorem pFld_own : ∀ ci, ci < 13 → ∀ k, k < (pCl ci).2.2 → ((pCl ci).2.1 k).1 = (pCl ci).1 := by decide +kernel
theorem tst_mna : ∀ z : Nat, z = z := fun _ => (fun _ => rfl) (@Jvm.Stand.multianewarray2F)

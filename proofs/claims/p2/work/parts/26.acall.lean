/-! calls of the abstract machine, one into another -/
section ACA
variable {T : aT} {sh0 : pSh}
def aArgs (env : List aE) : Nat → List aV → aL
  | _, [] => []
  | i, a :: r => (i, a) :: aArgs env (if (aLg env a).isSome then i + 2 else i + 1) r
def aSize (env : List aE) : List aV → Nat
  | [] => 0
  | a :: r => (if (aLg env a).isSome then 2 else 1) + aSize env r
theorem aCat2 {w : aW} {ρ : Nat → Value} {a : aV} (hE : aEnv w.1 ρ) (ha : a.1 < w.1.length) : ((aval ρ a).category = 2) ↔ (aLg w.1 a).isSome = true := by
  cases h : aLg w.1 a with
  | none =>
    have := aLg_cat hE ha h
    simp [this]
  | some q =>
    obtain ⟨z, hz, -⟩ := aLg_ok hE (show aLg w.1 a = some (q.1, q.2) from h)
    rw [hz]
    exact ⟨fun _ => rfl, fun _ => rfl⟩
theorem aArgs_ge {env : List aE} : ∀ {as : List aV} {i : Nat} {q : Nat × aV}, q ∈ aArgs env i as → i ≤ q.1 := by
  intro as
  induction as with
  | nil => intro i q h; cases h
  | cons a r ih =>
    intro i q h
    rcases List.mem_cons.mp h with rfl | h
    · exact Nat.le_refl _
    · have := ih h
      split at this <;> omega
theorem aArgs_ok {w : aW} {ρ : Nat → Value} (hE : aEnv w.1 ρ) : ∀ {as : List aV} {i : Nat}, (∀ a ∈ as, a.1 < w.1.length) → aLoc w ρ (aArgs w.1 i as) (lv_args i (as.map (aval ρ))) := by
  intro as
  induction as with
  | nil => intro i _ q hq; cases hq
  | cons a r ih =>
    intro i ha q hq
    have h0 := ha a List.mem_cons_self
    have e : (if (aval ρ a).category = 2 then i + 2 else i + 1) = (if (aLg w.1 a).isSome then i + 2 else i + 1) := by
      by_cases hc : (aval ρ a).category = 2
      · rw [if_pos hc, if_pos ((aCat2 hE h0).mp hc)]
      · rw [if_neg hc, if_neg (fun z => hc ((aCat2 hE h0).mpr z))]
    show _ ∧ pLd ((i, aval ρ a) :: lv_args (if (aval ρ a).category = 2 then i + 2 else i + 1) (r.map (aval ρ))) q.1 = _
    rw [e]
    rcases List.mem_cons.mp hq with rfl | hq
    · exact ⟨h0, pLd_cons ..⟩
    · obtain ⟨g1, g2⟩ := ih (i := if (aLg w.1 a).isSome then i + 2 else i + 1) (fun b hb => ha b (List.mem_cons_of_mem _ hb)) q hq
      have hge := aArgs_ge hq
      refine ⟨g1, ?_⟩
      rw [pLd_cons_ne _ _ (by split at hge <;> omega)]
      exact g2
theorem aSize_ok {w : aW} {ρ : Nat → Value} (hE : aEnv w.1 ρ) : ∀ {as : List aV}, (∀ a ∈ as, a.1 < w.1.length) → (lg_sl (as.map (aval ρ))).length = aSize w.1 as := by
  intro as
  induction as with
  | nil => intro _; rfl
  | cons a r ih =>
    intro ha
    have h0 := ha a List.mem_cons_self
    have ih := ih (fun b hb => ha b (List.mem_cons_of_mem _ hb))
    unfold lg_sl at ih ⊢
    unfold aSize
    rw [List.map_cons, List.flatMap_cons, List.length_append, ih]
    by_cases hc : (aval ρ a).category = 2
    · rw [if_pos hc, if_pos ((aCat2 hE h0).mp hc)]
      rfl
    · rw [if_neg hc, if_neg (fun z => hc ((aCat2 hE h0).mpr z))]
      rfl
def aRet (ret : Option FieldType) (i : Instr) (len : Nat) (B : List aV) (w : aW) : Option (Option aV) := match i, len, ret, B with
  | .return_, 1, none, [] => some none
  | .ireturn, 1, some .int, [a] => (match aIv w.1 a with
    | some _ => some (some a)
    | none => none)
  | .ireturn, 1, some .boolean, [a] => (match aIv w.1 a with
    | some (lo, hi) => if 0 ≤ lo ∧ hi ≤ 1 then some (some a) else none
    | none => none)
  | .lreturn, 1, some .long, [a] => (match aLg w.1 a with
    | some _ => some (some a)
    | none => none)
  | .areturn, 1, some (.object _), [a] => (match aRf w.1 a with
    | some (false, _) => some (some a)
    | _ => none)
  | _, _, _, _ => none
theorem aRet_ok {ret : Option FieldType} {i : Instr} {len : Nat} {B : List aV} {w : aW} {ρ : Nat → Value} {st : List Value} {v : Option aV} (h : aRet ret i len B w = some v) (hE : aEnv w.1 ρ) (hB : aStk w ρ B st) : aIsRet i len = true ∧ pRet ret i len st = some (v.map (aval ρ)) ∧ ∀ a ∈ v, a.1 < w.1.length := by
  unfold aRet at h
  split at h
  · cases h
    rw [hB.2]
    exact ⟨rfl, rfl, fun a ha => by cases ha⟩
  · rename_i a
    split at h
    · rename_i q hq
      cases h
      obtain ⟨z, hz, -⟩ := aIv_ok hE (show aIv w.1 a = some (q.1, q.2) from hq)
      rw [hB.2]
      refine ⟨rfl, ?_, fun b hb => by cases hb; exact hB.1 a List.mem_cons_self⟩
      show pRet (some .int) .ireturn 1 [aval ρ a] = some (some (aval ρ a))
      rw [hz]
      rfl
    · cases h
  · rename_i a
    split at h
    · rename_i lo hi hq
      split at h
      · rename_i hb
        cases h
        obtain ⟨z, hz, h1, h2⟩ := aIv_ok hE hq
        rw [hB.2]
        refine ⟨rfl, ?_, fun b hb => by cases hb; exact hB.1 a List.mem_cons_self⟩
        show pRet (some .boolean) .ireturn 1 [aval ρ a] = some (some (aval ρ a))
        rw [hz]
        rcases i32_bit (z := z) (by omega) (by omega) with rfl | rfl <;> rfl
      · cases h
    · cases h
  · rename_i a
    split at h
    · rename_i q hq
      cases h
      obtain ⟨z, hz, -⟩ := aLg_ok hE (show aLg w.1 a = some (q.1, q.2) from hq)
      rw [hB.2]
      refine ⟨rfl, ?_, fun b hb => by cases hb; exact hB.1 a List.mem_cons_self⟩
      show pRet (some .long) .lreturn 1 [aval ρ a] = some (some (aval ρ a))
      rw [hz]
      rfl
    · cases h
  · rename_i cn a
    split at h
    · rename_i ids hq
      cases h
      rcases aRf_ok hE hq with ⟨-, hn⟩ | ⟨j, -, hv⟩
      · cases hn
      · rw [hB.2]
        refine ⟨rfl, ?_, fun b hb => by cases hb; exact hB.1 a List.mem_cons_self⟩
        show pRet (some (.object cn)) .areturn 1 [aval ρ a] = some (some (aval ρ a))
        rw [hv]
        rfl
    · cases h
  · cases h
def aRets (ret : Option FieldType) (code : Nat → Option (Instr × Nat)) : List aS → Option (List (Option aV × aW))
  | [] => some []
  | (pc, _, B, w) :: r => match code pc with
    | some (i, len) => match aRet ret i len B w, aRets ret code r with
      | some v, some l => some ((v, w) :: l)
      | _, _ => none
    | none => none
theorem aRets_ok {ret : Option FieldType} {code : Nat → Option (Instr × Nat)} : ∀ {outs : List aS} {rs : List (Option aV × aW)}, aRets ret code outs = some rs → ∀ a ∈ outs, ∃ i len v, code a.1 = some (i, len) ∧ aRet ret i len a.2.2.1 a.2.2.2 = some v ∧ (v, a.2.2.2) ∈ rs := by
  intro outs
  induction outs with
  | nil => intro rs _ a ha; cases ha
  | cons q r ih =>
    intro rs h a ha
    obtain ⟨pc, A, B, w⟩ := q
    unfold aRets at h
    split at h
    · rename_i i len hcd
      split at h
      · rename_i v l h1 h2
        cases h
        rcases List.mem_cons.mp ha with rfl | ha
        · exact ⟨i, len, v, hcd, h1, List.mem_cons_self⟩
        · obtain ⟨i', len', v', g1, g2, g3⟩ := ih h2 a ha
          exact ⟨i', len', v', g1, g2, List.mem_cons_of_mem _ g3⟩
      · cases h
    · cases h
/-- a call, inlined, or by a contract where K has one (contracts hold from depth dK on) -/
def acallG (T : aT) (sh0 : pSh) (Sa : aScr) (K : Nat → List aV → aW → Option (List (Option aV × aW))) (dK F : Nat) : Nat → Nat → List aV → aW → Option (List (Option aV × aW))
  | 0, _, _, _ => none
  | d + 1, m, as, w => match (if Nat.ble dK (d + 1) then K m as w else none) with
    | some outs => some outs
    | none => if aSize w.1 as ≤ (pMe m).2.2.2.1 then match aexec T sh0 Sa (pMe m).1 (pKind.getD m 9 == 2) (pMe m).2.2.2.1 (pCode m) (fun _ => false) (acallG T sh0 Sa K dK F d) F [(0, aArgs w.1 0 as, [], w)] [] with
        | some outs => aRets (pMe m).2.2.2.2 (pCode m) outs
        | none => none
      else none
theorem acallG_ok {Sa : aScr} {S : pScr} {K : Nat → List aV → aW → Option (List (Option aV × aW))} {dK F : Nat} (hK : aCallOk T sh0 Sa S dK K) : ∀ d, aCallOk T sh0 Sa S d (acallG T sh0 Sa K dK F d) := by
  intro d
  induction d with
  | zero => intro m as w outs h; cases h
  | succ d ih =>
    intro m as w outs h hm ρ sh M hW hS has
    unfold acallG at h
    split at h
    · rename_i os hk
      cases h
      split at hk
      · rename_i hle
        exact (hK m as w outs hk hm ρ sh M hW hS has).deep (Nat.le_of_ble_eq_true hle)
      · cases hk
    · split at h
      · rename_i hsz
        split at h
        · rename_i os hex
          refine c_of_ok (by rw [aSize_ok hW.1 has]; exact hsz) ?_
          obtain ⟨-, h2⟩ := aexec_sound (S := S) (pMe_lt m hm).1 ih _ _ _ _ hex
          refine h2 _ (List.mem_singleton.mpr rfl) ρ _ _ ⟨rfl, aArgs_ok hW.1 has, ⟨fun a ha => (by cases ha), rfl⟩, hW⟩ hS ?_
          rintro ⟨pc', A', B', w'⟩ ha' ρ' ⟨pc2, L2, st2, sh2, M2⟩ g1 g2 ⟨k1, k2, k3, k4⟩
          have k1 : pc2 = pc' := k1
          subst k1
          obtain ⟨i, len, v, c1, c2, c3⟩ := aRets_ok h _ ha'
          obtain ⟨r1, r2, r3⟩ := aRet_ok c2 k4.1 k3
          exact ok_ret c1 (aIsRet_ok r1) ⟨_, r2, (v, w'), c3, ρ', g1, g2, r3, rfl, k4⟩
        · cases h
      · cases h
theorem aNoK {Sa : aScr} {S : pScr} : aCallOk T sh0 Sa S 0 (fun _ _ _ => none) := fun _ _ _ _ h => by cases h
end ACA

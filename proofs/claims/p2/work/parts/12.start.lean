/-! THE CLAIM OUT OF ONE WALK OF THE LAW'S BODY. Your part is whole_start (and what it stands on); all else here is the same for every law, but numbers. -/
def R_law : String := "ThroughPackLaw"
def lw_P (b : Addr) (xs : List Int32) (args : Array Value) (s : State) : Prop := args = #[.ref b] ∧ s.IntsAt b xs ∧ xs.length ≤ 3074 ∧ (Jvm.Cond.and given_1 narrow_1).before args s = true
def lw_Q (_ : Array Value) (s : State) (o : Outcome) (t : State) : Prop := o = .returned (some (.int 1)) ∧ Framed s o t [] 600000 7302250
def lw_Z (below : List Frame) (a : Array Value) (s : State) : State → Prop := fun t => ∃ o, t.status = .running ∧ Ended t below o ∧ lw_Q a s o t
/-- the law's own end, with 1 on the stack, nothing written that was there before, its room as the claim has it -/
theorem lw_ret {p : Program} {l : Launch} {e : Env} {s : State} {m : MethodId} {below : List Frame} {meth : Method} {c : Code} {b : Nat} (hx : p.tables.exec = Jvm.exec) (hb : c.code = code) (hr : meth.sig.returnType = ret) (hlocks : meth.locks = false) {pc : Nat} {H : Heap} {ls : Array Slot} (hdg : decode code pc = .ok (.ireturn, 1)) : W p l e room_1 s m #[Value.ref b] below meth c H [] 600000 7302250 (lw_Z below #[Value.ref b] s) (F0 m pc ls [.int 1]) := by
  intro T hT X
  obtain ⟨fs, hret, hrun, hended, hW, hframe⟩ := X.leave (v := some (.int 1)) (hlocks := hlocks) (fun h => by rw [hr] at h; cases h)
  have hmeth' : T.vm.method? m = some meth := X.method'
  refine ⟨T.setFrames fs, ?_, .returned (some (.int 1)), hrun, hended, rfl, ⟨_, rfl⟩, hW, hframe⟩
  jvm_step X.here [X.here.top, hx, hb, hdg, hmeth', hr, ret, narrow_b1]
  (try refine ⟨rfl, ?_⟩); (try refine ⟨rfl, ?_⟩)
  first | (intro acts; rw [hret _ acts rfl rfl rfl]) | rw [hret _ _ rfl rfl rfl]
  exact Steps.refl _
/-- what holds at the law's entry: the machine, the code, the tables' words (any of lw_tbl by 'hts w (by decide +kernel)'), the script of L ints xs at the cell b, what the Statement gives of the start (any of its parts by flat_of_before) -/
def lw_At (p : Program) (s : State) (m : MethodId) (meth : Method) (c : Code) (b L : Nat) (xs : Nat → Int32) : Prop :=
  p.tables.exec = Jvm.exec ∧ c.code = code ∧ meth.sig.returnType = ret ∧ c.maxLocals = 4 ∧ s.vm.findClass R_law = some m.cls ∧ (∀ w ∈ lw_tbl, w.before #[Value.ref b] s = true) ∧ va_X b L xs s s.heap ∧ b < s.heap.size ∧ meth.locks = false ∧ (Jvm.Cond.and given_1 narrow_1).before #[Value.ref b] s = true
set_option maxRecDepth 100000 in
theorem in_T : Cond.arrayOver (.object RX8) ∈ lw_tbl := List.mem_of_getElem? (i := 362) (by decide +kernel)
set_option maxRecDepth 100000 in
theorem in_S : Cond.arrayOver (.object RX7) ∈ lw_tbl := List.mem_of_getElem? (i := 552) (by decide +kernel)
set_option maxRecDepth 100000 in
theorem in_A : Cond.arrayOver (.array .int) ∈ lw_tbl := List.mem_of_getElem? (i := 512) (by decide +kernel)
def wNest : List Cond := ((flatT tMth).filter (fun q => q.2.2.2.2 == 1)).map (fun q => .methodLinkNest (pOwn q.1) q.2.1 (pMe q.2.2.1).2.1 RX11)
set_option maxRecDepth 100000 in
theorem in_N : wNest = [881, 917].filterMap (fun i => lw_tbl[i]?) := by decide +kernel
theorem in_N2 {o : Nat} {q : Nat × Nat × Nat × Nat} (ho : o < 14) (hq : q ∈ tMth.getD o []) (h1 : q.2.2.2 = 1) : Cond.methodLinkNest (pOwn o) q.1 (pMe q.2.1).2.1 RX11 ∈ lw_tbl := by
  have h : Cond.methodLinkNest (pOwn o) q.1 (pMe q.2.1).2.1 RX11 ∈ wNest := List.mem_map.mpr ⟨(o, q), List.mem_filter.mpr ⟨flatT_in ho hq, by simp [h1]⟩, rfl⟩
  rw [in_N] at h
  obtain ⟨i, -, hi⟩ := List.mem_filterMap.mp h
  exact List.mem_of_getElem? hi
/-- what the tables say at the law's start -/
theorem pK_start {s : State} {args : Array Value} (hts : ∀ w ∈ lw_tbl, w.before args s = true) : ∃ (D : va_G) (cy : Nat → ClassId), pK D cy s := by
  have hg : ∀ w ∈ lw_good, w.before args s = true := fun w hw => hts w (List.mem_filter.mp hw).1
  have hcl : ∀ ci : Nat, ∃ (cC : ClassId) (iS : Nat → Nat), ci < 13 → u_Kn s (pCl ci).1 (pCl ci).2.1 (pCl ci).2.2 cC iS := by
    intro ci
    by_cases h : ci < 13
    · have hinst : (Cond.instantiable (pCl ci).1 (pCl ci).2.2).before args s = true := by
        have h2 := hg _ (pInst_ok h)
        unfold wInst at h2
        rw [pCl_own ci h] at h2
        exact h2
      obtain ⟨cC, iS, hk⟩ := u_known hg (pLay_ok h) hinst
      exact ⟨cC, iS, fun _ => hk⟩
    · exact ⟨0, fun _ => 0, fun h2 => absurd h2 h⟩
  obtain ⟨c13, k13, m13, a13, b13, d13⟩ := Cond.arrayClass_spec (hg _ pArr_int)
  obtain ⟨c14, k14, m14, a14, b14, d14⟩ := Cond.arrayClass_spec (hg _ pArr_boolean)
  obtain ⟨c15, k15, m15, a15, b15, d15⟩ := Cond.arrayClass_spec (hg _ pArr_long)
  obtain ⟨m16, c16, k16, e16, -, b16, d16, a16⟩ := arrayOverA_spec (hts _ in_A)
  obtain ⟨m17, c17, k17, e17, -, b17, d17, a17⟩ := Cond.arrayOver_spec (hts _ in_T)
  obtain ⟨m18, c18, k18, e18, -, b18, d18, a18⟩ := Cond.arrayOver_spec (hts _ in_S)
  refine ⟨(fun ci => Classical.choose (hcl ci), fun ci => Classical.choose (Classical.choose_spec (hcl ci))), fun k => if k = 13 then c13 else if k = 14 then c14 else if k = 15 then c15 else if k = 16 then c16 else if k = 17 then c17 else c18, ⟨?_, ?_⟩, ?_, ?_, ?_, ?_⟩
  · intro ci q hq
    have hci : ci < 13 := (List.getElem?_eq_some_iff.mp hq).1
    have e : q = pCl ci := Option.some.inj (hq.symm.trans (pCl_at hci))
    subst e
    exact Classical.choose_spec (Classical.choose_spec (hcl ci)) hci
  · intro k q hk
    match k, hk with
    | 0, hk => cases hk; exact ⟨fun N z => ⟨(fun q hq => by cases hq), k13, b13, m13, d13⟩, a13⟩
    | 1, hk => cases hk; exact ⟨fun N z => ⟨(fun q hq => by cases hq), k14, b14, m14, d14⟩, a14⟩
    | 2, hk => cases hk; exact ⟨fun N z => ⟨(fun q hq => by cases hq), k15, b15, m15, d15⟩, a15⟩
    | 3, hk => cases hk; exact ⟨fun N z => ⟨(fun q hq => by cases hq), k16, b16, m16, d16⟩, a16⟩
    | 4, hk => cases hk; exact ⟨fun N z => ⟨(fun q hq => by cases hq), k17, b17, m17, d17⟩, ⟨k17, m17, b17, d17, e17, a17⟩⟩
    | 5, hk => cases hk; exact ⟨fun N z => ⟨(fun q hq => by cases hq), k18, b18, m18, d18⟩, ⟨k18, m18, b18, d18, e18, a18⟩⟩
    | k + 6, hk => simp [tys6] at hk
  · intro o q ho hq h1
    exact va_Nw.of rfl (hts _ (in_N2 ho hq h1))
  · exact va_AO.of (hts _ in_T)
  · exact va_AO.of (hts _ in_S)
  · exact hts _ in_A
/-- a run of the pure machine through the law -/
def pLaw (L : Nat) (xs : Nat → Int32) : Prop := ∃ (d F pcr : Nat) (Lr : pLs) (sh : pSh) (M : pMem), d ≤ 1000 ∧ prun (some (L, xs)) 13 false 4 (pLook kL_law) (pcallG pCode (some (L, xs)) F d) F (0, [(0, .retAddr 1)], [], [], fun _ _ => .null) = some (.ireturn, 1, pcr, Lr, [.int 1], sh, M) ∧ sh.length ≤ 600000 ∧ pSz sh ≤ 7302250
theorem law_of_pure {p : Program} {e : Env} {s : State} {m : MethodId} {below : List Frame} {meth : Method} {c : Code} (l : Launch) {b L : Nat} {xs : Nat → Int32} (C0 : lw_At p s m meth c b L xs) (hp : pLaw L xs) : W p l e room_1 s m #[Value.ref b] below meth c s.heap [] 0 0 (lw_Z below #[Value.ref b] s) (entryFrame m ([Value.ref b] : List Value).toArray 4) := by
  obtain ⟨hx, hb, hr, hml, hown, hts, hX, hbl, hlocks, hgv⟩ := id C0
  obtain ⟨d, F, pcr, Lr, sh, M, hd, hrun, hc1, hc2⟩ := hp
  obtain ⟨D, cy, hK⟩ := pK_start hts
  obtain ⟨sq, hsW⟩ := sW_start hts hgv
  have hl := lv_entry ([.ref b]) (n := 4) (Nat.le_of_ble_eq_true rfl)
  rw [lg_entry_eq]
  generalize (lg_sl ([.ref b]) ++ List.replicate (4 - (lg_sl ([.ref b])).length) Slot.unset).toArray = ls at hl ⊢
  have C : pCtx p room_1 s m #[Value.ref b] meth c code 4 13 false D cy s.heap.size (fun k => bif Nat.beq k 2 then sq else b) (some (L, xs)) s.heap :=
    ⟨hx, hb, hml, hown, fun w hw => hts w (List.mem_filter.mp hw).1, hK, (by omega), (fun h => by cases h), (by decide), (by decide), (fun n ys h => by cases h; exact ⟨hX, hbl, hsW⟩)⟩
  obtain ⟨-, hdr, hW⟩ := prun_sound (p := p) (e := e) (s := s) (m := m) (below := below) (meth := meth) (c := c) (l := l) C (show d + 6 ≤ 2048 ∧ 64 * d + 384 ≤ 84000 from ⟨by omega, by omega⟩) (fun pc i len h => pLook_ok kL_law_ok h) (fun mi as sh M v sh2 M2 h1 h2 => pcallG_sound (fun m pc i len hm h => pCode_ok hm h) (some (L, xs)) F l D cy s.heap.size (fun k => bif Nat.beq k 2 then sq else b) d mi as sh M v sh2 M2 h1 h2) F _ _ _ _ hrun
  have h9 := hW 0 0 (lw_Z below #[Value.ref b] s) ⟨Nat.zero_le _, Nat.zero_le _⟩ ⟨hc1, hc2⟩ ?_ ls s.heap [] hl ⟨⟨rfl, fun i k n h => by simp at h⟩, fun _ _ => rfl, fun _ h => by cases h⟩
  · exact h9
  · intro ls2 H locs hl2 hG
    refine va_forget (fun q hq => hG.2.2 q hq) ?_
    refine W.widen (k := 600000) (n := 7302250) hc1 hc2 ?_
    exact lw_ret hx hb hr hlocks hdr

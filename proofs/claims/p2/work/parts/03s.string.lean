/-! the one String constant: its length and its chars, by the JDK's own code -/
def yStrCd : MethodName := ⟨"java/lang/String", "coder", "()B"⟩
def yStrLat : MethodName := ⟨"java/lang/String", "isLatin1", "()Z"⟩
def yLatCh : MethodName := ⟨"java/lang/StringLatin1", "charAt", "([BI)C"⟩
def yStrCk : MethodName := ⟨"java/lang/String", "checkIndex", "(II)V"⟩
def yPreCk : MethodName := ⟨"jdk/internal/util/Preconditions", "checkIndex", "(IILjava/util/function/BiFunction;)I"⟩
def wT : String := "may nips walk go cost ice when or and not thick north east south west x y wind watch coal banked "
def wStr : List Cond := [.initialized "java/lang/String", .initialized "java/lang/StringLatin1", .initialized "jdk/internal/util/Preconditions", .instanceMethod yStrLen, .selects "java/lang/String" yStrLen yStrLen, .instanceMethod yStrCd, .selects "java/lang/String" yStrCd yStrCd, .instanceMethod yStrCh, .selects "java/lang/String" yStrCh yStrCh, .instanceMethod yStrLat, .selects "java/lang/String" yStrLat yStrLat, .static yLatCh, .static yStrCk, .static yPreCk, .code yStrLen prog_16_method_54_code 1 (some .int), .code yStrCd prog_16_method_152_code 1 (some .byte), .code yStrCh prog_16_method_56_code 2 (some .char), .code yStrLat prog_16_method_154_code 1 (some .boolean), .code yLatCh prog_17_method_2_code 2 (some .char), .code yStrCk prog_16_method_155_code 2 none, .code yPreCk prog_20_method_11_code 3 (some .int), .methodLink "java/lang/String" 335 yStrCd, .methodLink "java/lang/String" 492 yStrLat, .methodLink "java/lang/String" 495 yLatCh, .methodLink "java/lang/StringLatin1" 9 yStrCk, .methodLink "java/lang/String" 1059 yPreCk, .fieldLink "java/lang/String" 38 "java/lang/String" "COMPACT_STRINGS" "Z", .fieldLink "java/lang/String" 1053 "jdk/internal/util/Preconditions" "SIOOBE_FORMATTER" "Ljava/util/function/BiFunction;", .fieldLink "java/lang/String" 9 "java/lang/String" "value" "[B", .fieldLink "java/lang/String" 15 "java/lang/String" "coder" "B"]
set_option maxRecDepth 100000 in
theorem wStr_eq : wStr = [129, 130, 131, 737, 738, 741, 742, 747, 748, 751, 752, 755, 758, 763, 739, 743, 749, 753, 756, 759, 764, 740, 750, 754, 757, 762, 744, 760, 1974, 1975].filterMap (fun i => lw_tbl[i]?) := by decide +kernel
set_option maxRecDepth 100000 in
theorem wStr_gd : wStr.all goodWord = true := by decide +kernel
theorem wStr_ok {w : Cond} (h : w ∈ wStr) : w ∈ lw_good := lw_good_in _ _ wStr_eq wStr_gd h
theorem wS_0 : (.initialized "java/lang/String" : Cond) ∈ lw_good := wStr_ok (List.mem_of_getElem? (i := 0) rfl)
theorem wS_1 : (.initialized "java/lang/StringLatin1" : Cond) ∈ lw_good := wStr_ok (List.mem_of_getElem? (i := 1) rfl)
theorem wS_2 : (.initialized "jdk/internal/util/Preconditions" : Cond) ∈ lw_good := wStr_ok (List.mem_of_getElem? (i := 2) rfl)
theorem wS_3 : (.instanceMethod yStrLen : Cond) ∈ lw_good := wStr_ok (List.mem_of_getElem? (i := 3) rfl)
theorem wS_4 : (.selects "java/lang/String" yStrLen yStrLen : Cond) ∈ lw_good := wStr_ok (List.mem_of_getElem? (i := 4) rfl)
theorem wS_5 : (.instanceMethod yStrCd : Cond) ∈ lw_good := wStr_ok (List.mem_of_getElem? (i := 5) rfl)
theorem wS_6 : (.selects "java/lang/String" yStrCd yStrCd : Cond) ∈ lw_good := wStr_ok (List.mem_of_getElem? (i := 6) rfl)
theorem wS_7 : (.instanceMethod yStrCh : Cond) ∈ lw_good := wStr_ok (List.mem_of_getElem? (i := 7) rfl)
theorem wS_8 : (.selects "java/lang/String" yStrCh yStrCh : Cond) ∈ lw_good := wStr_ok (List.mem_of_getElem? (i := 8) rfl)
theorem wS_9 : (.instanceMethod yStrLat : Cond) ∈ lw_good := wStr_ok (List.mem_of_getElem? (i := 9) rfl)
theorem wS_10 : (.selects "java/lang/String" yStrLat yStrLat : Cond) ∈ lw_good := wStr_ok (List.mem_of_getElem? (i := 10) rfl)
theorem wS_11 : (.static yLatCh : Cond) ∈ lw_good := wStr_ok (List.mem_of_getElem? (i := 11) rfl)
theorem wS_12 : (.static yStrCk : Cond) ∈ lw_good := wStr_ok (List.mem_of_getElem? (i := 12) rfl)
theorem wS_13 : (.static yPreCk : Cond) ∈ lw_good := wStr_ok (List.mem_of_getElem? (i := 13) rfl)
theorem wS_14 : (.code yStrLen prog_16_method_54_code 1 (some .int) : Cond) ∈ lw_good := wStr_ok (List.mem_of_getElem? (i := 14) rfl)
theorem wS_15 : (.code yStrCd prog_16_method_152_code 1 (some .byte) : Cond) ∈ lw_good := wStr_ok (List.mem_of_getElem? (i := 15) rfl)
theorem wS_16 : (.code yStrCh prog_16_method_56_code 2 (some .char) : Cond) ∈ lw_good := wStr_ok (List.mem_of_getElem? (i := 16) rfl)
theorem wS_17 : (.code yStrLat prog_16_method_154_code 1 (some .boolean) : Cond) ∈ lw_good := wStr_ok (List.mem_of_getElem? (i := 17) rfl)
theorem wS_18 : (.code yLatCh prog_17_method_2_code 2 (some .char) : Cond) ∈ lw_good := wStr_ok (List.mem_of_getElem? (i := 18) rfl)
theorem wS_19 : (.code yStrCk prog_16_method_155_code 2 none : Cond) ∈ lw_good := wStr_ok (List.mem_of_getElem? (i := 19) rfl)
theorem wS_20 : (.code yPreCk prog_20_method_11_code 3 (some .int) : Cond) ∈ lw_good := wStr_ok (List.mem_of_getElem? (i := 20) rfl)
theorem wS_21 : (.methodLink "java/lang/String" 335 yStrCd : Cond) ∈ lw_good := wStr_ok (List.mem_of_getElem? (i := 21) rfl)
theorem wS_22 : (.methodLink "java/lang/String" 492 yStrLat : Cond) ∈ lw_good := wStr_ok (List.mem_of_getElem? (i := 22) rfl)
theorem wS_23 : (.methodLink "java/lang/String" 495 yLatCh : Cond) ∈ lw_good := wStr_ok (List.mem_of_getElem? (i := 23) rfl)
theorem wS_24 : (.methodLink "java/lang/StringLatin1" 9 yStrCk : Cond) ∈ lw_good := wStr_ok (List.mem_of_getElem? (i := 24) rfl)
theorem wS_25 : (.methodLink "java/lang/String" 1059 yPreCk : Cond) ∈ lw_good := wStr_ok (List.mem_of_getElem? (i := 25) rfl)
theorem wS_26 : (.fieldLink "java/lang/String" 38 "java/lang/String" "COMPACT_STRINGS" "Z" : Cond) ∈ lw_good := wStr_ok (List.mem_of_getElem? (i := 26) rfl)
theorem wS_27 : (.fieldLink "java/lang/String" 1053 "jdk/internal/util/Preconditions" "SIOOBE_FORMATTER" "Ljava/util/function/BiFunction;" : Cond) ∈ lw_good := wStr_ok (List.mem_of_getElem? (i := 27) rfl)
theorem wS_28 : (.fieldLink "java/lang/String" 9 "java/lang/String" "value" "[B" : Cond) ∈ lw_good := wStr_ok (List.mem_of_getElem? (i := 28) rfl)
theorem wS_29 : (.fieldLink "java/lang/String" 15 "java/lang/String" "coder" "B" : Cond) ∈ lw_good := wStr_ok (List.mem_of_getElem? (i := 29) rfl)
theorem dyStrLen_0 : decode prog_16_method_54_code 0 = .ok (.aload_n 0, 1) := by decide +kernel
theorem dyStrLen_1 : decode prog_16_method_54_code 1 = .ok (.getfield 9, 3) := by decide +kernel
theorem dyStrLen_4 : decode prog_16_method_54_code 4 = .ok (.arraylength, 1) := by decide +kernel
theorem dyStrLen_5 : decode prog_16_method_54_code 5 = .ok (.aload_n 0, 1) := by decide +kernel
theorem dyStrLen_6 : decode prog_16_method_54_code 6 = .ok (.invokevirtual 335, 3) := by decide +kernel
theorem dyStrLen_9 : decode prog_16_method_54_code 9 = .ok (.ishr, 1) := by decide +kernel
theorem dyStrLen_10 : decode prog_16_method_54_code 10 = .ok (.ireturn, 1) := by decide +kernel
theorem dyStrCd_0 : decode prog_16_method_152_code 0 = .ok (.getstatic 38, 3) := by decide +kernel
theorem dyStrCd_3 : decode prog_16_method_152_code 3 = .ok (.ifCond .eq 10, 3) := by decide +kernel
theorem dyStrCd_6 : decode prog_16_method_152_code 6 = .ok (.aload_n 0, 1) := by decide +kernel
theorem dyStrCd_7 : decode prog_16_method_152_code 7 = .ok (.getfield 15, 3) := by decide +kernel
theorem dyStrCd_10 : decode prog_16_method_152_code 10 = .ok (.goto 4, 3) := by decide +kernel
theorem dyStrCd_14 : decode prog_16_method_152_code 14 = .ok (.ireturn, 1) := by decide +kernel
theorem dyStrCh_0 : decode prog_16_method_56_code 0 = .ok (.aload_n 0, 1) := by decide +kernel
theorem dyStrCh_1 : decode prog_16_method_56_code 1 = .ok (.invokevirtual 492, 3) := by decide +kernel
theorem dyStrCh_4 : decode prog_16_method_56_code 4 = .ok (.ifCond .eq 12, 3) := by decide +kernel
theorem dyStrCh_7 : decode prog_16_method_56_code 7 = .ok (.aload_n 0, 1) := by decide +kernel
theorem dyStrCh_8 : decode prog_16_method_56_code 8 = .ok (.getfield 9, 3) := by decide +kernel
theorem dyStrCh_11 : decode prog_16_method_56_code 11 = .ok (.iload_n 1, 1) := by decide +kernel
theorem dyStrCh_12 : decode prog_16_method_56_code 12 = .ok (.invokestatic 495, 3) := by decide +kernel
theorem dyStrCh_15 : decode prog_16_method_56_code 15 = .ok (.ireturn, 1) := by decide +kernel
theorem dyStrLat_0 : decode prog_16_method_154_code 0 = .ok (.getstatic 38, 3) := by decide +kernel
theorem dyStrLat_3 : decode prog_16_method_154_code 3 = .ok (.ifCond .eq 14, 3) := by decide +kernel
theorem dyStrLat_6 : decode prog_16_method_154_code 6 = .ok (.aload_n 0, 1) := by decide +kernel
theorem dyStrLat_7 : decode prog_16_method_154_code 7 = .ok (.getfield 15, 3) := by decide +kernel
theorem dyStrLat_10 : decode prog_16_method_154_code 10 = .ok (.ifCond .ne 7, 3) := by decide +kernel
theorem dyStrLat_13 : decode prog_16_method_154_code 13 = .ok (.iconst 1, 1) := by decide +kernel
theorem dyStrLat_14 : decode prog_16_method_154_code 14 = .ok (.goto 4, 3) := by decide +kernel
theorem dyStrLat_18 : decode prog_16_method_154_code 18 = .ok (.ireturn, 1) := by decide +kernel
theorem dyLatCh_0 : decode prog_17_method_2_code 0 = .ok (.iload_n 1, 1) := by decide +kernel
theorem dyLatCh_1 : decode prog_17_method_2_code 1 = .ok (.aload_n 0, 1) := by decide +kernel
theorem dyLatCh_2 : decode prog_17_method_2_code 2 = .ok (.arraylength, 1) := by decide +kernel
theorem dyLatCh_3 : decode prog_17_method_2_code 3 = .ok (.invokestatic 9, 3) := by decide +kernel
theorem dyLatCh_6 : decode prog_17_method_2_code 6 = .ok (.aload_n 0, 1) := by decide +kernel
theorem dyLatCh_7 : decode prog_17_method_2_code 7 = .ok (.iload_n 1, 1) := by decide +kernel
theorem dyLatCh_8 : decode prog_17_method_2_code 8 = .ok (.baload, 1) := by decide +kernel
theorem dyLatCh_9 : decode prog_17_method_2_code 9 = .ok (.sipush 255, 3) := by decide +kernel
theorem dyLatCh_12 : decode prog_17_method_2_code 12 = .ok (.iand, 1) := by decide +kernel
theorem dyLatCh_13 : decode prog_17_method_2_code 13 = .ok (.i2c, 1) := by decide +kernel
theorem dyLatCh_14 : decode prog_17_method_2_code 14 = .ok (.ireturn, 1) := by decide +kernel
theorem dyStrCk_0 : decode prog_16_method_155_code 0 = .ok (.iload_n 0, 1) := by decide +kernel
theorem dyStrCk_1 : decode prog_16_method_155_code 1 = .ok (.iload_n 1, 1) := by decide +kernel
theorem dyStrCk_2 : decode prog_16_method_155_code 2 = .ok (.getstatic 1053, 3) := by decide +kernel
theorem dyStrCk_5 : decode prog_16_method_155_code 5 = .ok (.invokestatic 1059, 3) := by decide +kernel
theorem dyStrCk_8 : decode prog_16_method_155_code 8 = .ok (.pop, 1) := by decide +kernel
theorem dyStrCk_9 : decode prog_16_method_155_code 9 = .ok (.return_, 1) := by decide +kernel
theorem dyPreCk_0 : decode prog_20_method_11_code 0 = .ok (.iload_n 0, 1) := by decide +kernel
theorem dyPreCk_1 : decode prog_20_method_11_code 1 = .ok (.ifCond .lt 8, 3) := by decide +kernel
theorem dyPreCk_4 : decode prog_20_method_11_code 4 = .ok (.iload_n 0, 1) := by decide +kernel
theorem dyPreCk_5 : decode prog_20_method_11_code 5 = .ok (.iload_n 1, 1) := by decide +kernel
theorem dyPreCk_6 : decode prog_20_method_11_code 6 = .ok (.if_icmp .lt 10, 3) := by decide +kernel
theorem dyPreCk_16 : decode prog_20_method_11_code 16 = .ok (.iload_n 0, 1) := by decide +kernel
theorem dyPreCk_17 : decode prog_20_method_11_code 17 = .ok (.ireturn, 1) := by decide +kernel
/-- the world of the String: itself, its bytes, what its class's code looks at -/
def sW (b q : Nat) (U : State) (H : Heap) : Prop := ∃ v : Nat, vk_S 1 [97] [wB] (fun _ => q) (fun _ => v) (fun a => b ≤ a) U H ∧ va_Z "java/lang/String" "COMPACT_STRINGS" "Z" (.int 1) (fun a => b ≤ a) U H ∧ va_Zq "jdk/internal/util/Preconditions" "SIOOBE_FORMATTER" "Ljava/util/function/BiFunction;" (fun a => b ≤ a) U H ∧ vk_R "ThroughPack$Reader" 115 wT q U
theorem sW.same {b q : Nat} {u U : State} {H : Heap} (hv : u.vm = U.vm) (h : sW b q u H) : sW b q U H := by
  have ha : u.vm.Alike U.vm := by rw [hv]; exact Vm.Alike.refl _
  obtain ⟨v, h1, h2, h3, h4⟩ := h
  exact ⟨v, vk_S.moved ha h1, va_Z.moved ha h2, va_Zq.moved ha h3, vk_R.same hv.symm h4⟩
theorem sW.warm {b q : Nat} {s U : State} {H : Heap} (hW : s.WarmedH U.vm) (h : sW b q s H) : sW b q U H := by
  obtain ⟨v, h1, h2, h3, h4⟩ := h
  exact ⟨v, vk_S.moved hW.alike h1, va_Z.moved hW.alike h2, va_Zq.moved hW.alike h3, vk_R.warm hW h4⟩
theorem sW.kept {b q : Nat} {U : State} {H H1 : Heap} (h : sW b q U H) (hq : ∀ a : Nat, a < b → H1[a]? = H[a]?) : sW b q U H1 := by
  have hk : ∀ a : Nat, a < H.size → ¬ (fun a => b ≤ a) a → H1[a]? = H[a]? := fun a _ h2 => hq a (Nat.lt_of_not_le h2)
  obtain ⟨v, h1, h2, h3, h4⟩ := h
  exact ⟨v, h1.kept hk, h2.kept hk, h3.kept hk, h4⟩
def sP (b q : Nat) (as : List Value) : Array Value → State → Prop := fun a U => a = as.toArray ∧ sW b q U U.heap
def sQ (v : Option Value) : Array Value → State → Outcome → State → Prop := fun _ st oc t => oc = .returned v ∧ t.heap = st.heap
def sRm (f lo : Nat) : Room := { frames := f, cells := 0, slots := 0, locals := lo }
theorem sP_blind (b q : Nat) (as : List Value) : FrameBlind (sP b q as) := fun a U g mk h => ⟨h.1, sW.same (u := U) (U := U.calling g mk a) rfl h.2⟩
abbrev sMet (l : Launch) (b q : Nat) (y : MethodName) (cc : ByteArray) (n : Nat) (ret : Option FieldType) (f lo : Nat) (as : List Value) (v : Option Value) : Prop := Met l y (.code y cc n ret :: lw_good) (sRm f lo) (sP b q as) (sQ v) 0 0 (fun _ => False)
theorem s_on {p : Program} {l : Launch} {e : Env} {R : Room} {s : State} {m : MethodId} {args : Array Value} {below : List Frame} {meth : Method} {c : Code} {H : Heap} {locs : List Loc} {cells slots : Nat} {Q : State → Prop} {pc : Nat} {ls : Array Slot} {st0 rest : List Value} {a : Array Value} {v : Option Value} (hrun : va_Run p l e R s m args below meth c H locs cells slots 0 0 (F0 m pc ls st0) rest (sQ v a) (fun _ => False))
    (k : W p l e R s m args below meth c H locs cells slots Q (F0 m (pc + 3) ls (v.toList ++ rest))) : W p l e R s m args below meth c H locs cells slots Q (F0 m pc ls st0) := by
  intro T hT X
  obtain ⟨v', st₀, t, T', L', h0, X', hL, e1, e2, ⟨hv, hh⟩, st⟩ := hrun T hT X
  have hv : v' = v := Outcome.returned.inj hv
  subst hv
  have hLn : L' = [] := by
    cases L' with
    | nil => rfl
    | cons q r => exact (hL q List.mem_cons_self).elim
  subst hLn
  rw [List.append_nil] at X'
  obtain ⟨t2, a1, b1⟩ := k T' (by rw [e1, hh, h0]) X'
  exact ⟨t2, st t2 a1, b1⟩
theorem s_body {l : Launch} {b q : Nat} {y : MethodName} {cc : ByteArray} {n : Nat} {ret : Option FieldType} {f lo : Nat} {as : List Value} {v : Option Value} (hy : plainName y.cls = true) (hlen : (lg_sl as).length ≤ n)
    (body : ∀ (p : Program) (e : Env) (s : State) (m : MethodId) (below : List Frame) (meth : Method) (c : Code) (ls : Array Slot), p.tables.exec = Jvm.exec → c.code = cc → c.maxLocals = n → meth.sig.returnType = ret → meth.locks = false → s.vm.findClass y.cls = some m.cls → (∀ w ∈ lw_good, w.before as.toArray s = true) → sW b q s s.heap → lv_has ls n (lv_args 0 as) → W p l e (headSpec (.code y cc n ret :: lw_good) (sRm f lo)).room s m as.toArray below meth c s.heap [] 0 0 (MQ below (sQ v) as.toArray s 0 0 (fun _ => False)) (F0 m 0 ls [])) : sMet l b q y cc n ret f lo as v := by
  refine Met.ofW (cc := cc) (maxL := n) (ret := ret) hy rfl ?_
  intro p e s m args below meth c s₁ B hml hv
  obtain ⟨rfl, hs⟩ := hv
  have hl := lv_entry as (n := n) hlen
  rw [lg_entry_eq]
  generalize (lg_sl as ++ List.replicate (n - (lg_sl as).length) Slot.unset).toArray = ls at hl ⊢
  exact body p e s m below meth c ls B.exec B.bytes hml B.returns B.notSynchronized (findClass_of_methodNamed B.named) (fun w hw => atoms_spec (ws := .code y cc n ret :: lw_good) B.pre w (List.mem_cons_of_mem _ hw)) hs hl
theorem s_good {w0 : Cond} (h : w0 ∈ lw_good) : GoodIn lw_good (w0 :: lw_good) := fun w hw => by
  have hw : w ∈ lw_good := by
    rcases List.mem_cons.mp hw with rfl | hw
    · exact h
    · exact hw
  exact ⟨hw, good_of_word (List.mem_filter.mp hw).2⟩
theorem m_coder (l : Launch) (b q : Nat) : sMet l b q yStrCd prog_16_method_152_code 1 (some .byte) 0 0 [.ref q] (some (.int 0)) := by
  refine s_body (by decide) (Nat.le_of_ble_eq_true rfl) ?_
  intro p e s m below meth c ls hx hb hml hr hlk hown hts hW hl
  obtain ⟨v, h1, h2, h3, h4⟩ := hW
  refine va_gets hx hb h2 va_S.rf hown (hts _ wS_26) (fun _ h => h) dyStrCd_0 ?_
  refine lv_if_eq hx hb dyStrCd_3 (tgt := 13) rfl (fun h => absurd h (by decide)) (fun _ => ?_)
  refine lv_aload_n hx hb dyStrCd_6 rfl (lv_at hl 0 rfl) ?_
  refine vk_getf hx hb (h1.1 0 (by decide)).2.1 va_S.rf hown (hts _ wS_29) (fun _ h => h) dyStrCd_7 ?_
  refine lv_goto hx hb dyStrCd_10 (tgt := 14) rfl ?_
  exact W.zret hx hb hr rfl (fun t ht _ => ⟨rfl, ht⟩) (fun _ h => by cases h) dyStrCd_14
theorem m_lat (l : Launch) (b q : Nat) : sMet l b q yStrLat prog_16_method_154_code 1 (some .boolean) 0 0 [.ref q] (some (.int 1)) := by
  refine s_body (by decide) (Nat.le_of_ble_eq_true rfl) ?_
  intro p e s m below meth c ls hx hb hml hr hlk hown hts hW hl
  obtain ⟨v, h1, h2, h3, h4⟩ := hW
  refine va_gets hx hb h2 va_S.rf hown (hts _ wS_26) (fun _ h => h) dyStrLat_0 ?_
  refine lv_if_eq hx hb dyStrLat_3 (tgt := 17) rfl (fun h => absurd h (by decide)) (fun _ => ?_)
  refine lv_aload_n hx hb dyStrLat_6 rfl (lv_at hl 0 rfl) ?_
  refine vk_getf hx hb (h1.1 0 (by decide)).2.1 va_S.rf hown (hts _ wS_29) (fun _ h => h) dyStrLat_7 ?_
  refine lv_if_ne hx hb dyStrLat_10 (tgt := 17) rfl (fun h => absurd rfl h) (fun _ => ?_)
  refine lv_iconst hx hb dyStrLat_13 (v := 1) (by decide) ?_
  refine lv_goto hx hb dyStrLat_14 (tgt := 18) rfl ?_
  exact W.zret hx hb hr rfl (fun t ht _ => ⟨rfl, ht⟩) (fun _ h => by cases h) dyStrLat_18
theorem m_pre (l : Launch) (b q : Nat) {i : Int32} (h0 : ¬ i < 0) (h9 : i < 97) (u : Value) (hu : u = .null ∨ ∃ t, u = .ref t) : sMet l b q yPreCk prog_20_method_11_code 3 (some .int) 0 0 [.int i, .int 97, u] (some (.int i)) := by
  refine s_body (by decide) (by rcases hu with rfl | ⟨t, rfl⟩ <;> exact Nat.le_of_ble_eq_true rfl) ?_
  intro p e s m below meth c ls hx hb hml hr hlk hown hts hW hl
  have hl0 : ls[0]? = some (.val (.int i)) := by rcases hu with rfl | ⟨t, rfl⟩ <;> exact lv_at hl 0 rfl
  have hl1 : ls[1]? = some (.val (.int 97)) := by rcases hu with rfl | ⟨t, rfl⟩ <;> exact lv_at hl 1 rfl
  refine lv_iload_n hx hb dyPreCk_0 rfl hl0 ?_
  refine lv_if_lt hx hb dyPreCk_1 (tgt := 9) rfl (fun h => absurd h h0) (fun _ => ?_)
  refine lv_iload_n hx hb dyPreCk_4 rfl hl0 ?_
  refine lv_iload_n hx hb dyPreCk_5 rfl hl1 ?_
  refine lv_icmp_lt hx hb dyPreCk_6 (tgt := 16) rfl (fun _ => ?_) (fun h => absurd h9 h)
  refine lv_iload_n hx hb dyPreCk_16 rfl hl0 ?_
  exact W.iret hx hb hr (fun t ht _ => ⟨rfl, ht⟩) (fun _ h => by cases h) dyPreCk_17
theorem m_ck (l : Launch) (b q : Nat) {i : Int32} (h0 : ¬ i < 0) (h9 : i < 97) : sMet l b q yStrCk prog_16_method_155_code 2 none 1 64 [.int i, .int 97] none := by
  refine s_body (by decide) (Nat.le_of_ble_eq_true rfl) ?_
  intro p e s m below meth c ls hx hb hml hr hlk hown hts hW hl
  have hW' := hW
  obtain ⟨v, h1, h2, h3, h4⟩ := hW
  refine lv_iload_n hx hb dyStrCk_0 rfl (lv_at hl 0 rfl) ?_
  refine lv_iload_n hx hb dyStrCk_1 rfl (lv_at hl 1 rfl) ?_
  have go : ∀ u : Value, (u = .null ∨ ∃ t, u = .ref t) → W p l e (headSpec (.code yStrCk prog_16_method_155_code 2 none :: lw_good) (sRm 1 64)).room s m [Value.int i, Value.int 97].toArray below meth c s.heap [] 0 0 (MQ below (sQ none) [Value.int i, Value.int 97].toArray s 0 0 (fun _ => False)) (F0 m 5 ls [u, .int 97, .int i]) := by
    intro u hu
    refine s_on (v := some (.int i)) (rest := []) (va_runS (g := F0 m 5 ls [u, .int 97, .int i]) (As := [.int i, .int 97, u]) (n := 3) (Ts := lw_good) (own := "java/lang/String") ⟨hx, hb, hml, hown, hts⟩ (m_pre l b q h0 h9 u hu) ⟨callB_of 3 hts (s_good wS_20) rfl rfl rfl (hts _ wS_2) (hts _ wS_25) ⟨by decide, by decide, by decide +kernel⟩ ⟨by decide, by decide⟩, hts _ wS_13⟩ ⟨sP_blind b q _, fun U hU hWm => ⟨rfl, by rw [hU]; exact hW'.warm hWm⟩⟩ rfl rfl hl.1 rfl (Nat.le_of_ble_eq_true rfl) dyStrCk_5 ⟨by decide, by decide⟩) ?_
    refine lv_pop hx hb dyStrCk_8 rfl ?_
    exact W.vret hx hb hr (fun t ht _ => ⟨rfl, ht⟩) (fun _ h => by cases h) dyStrCk_9
  rcases h3 with h3 | ⟨t, h3⟩
  · exact va_gets hx hb h3 va_S.rf hown (hts _ wS_27) (fun _ h => h) dyStrCk_2 (go _ (Or.inl rfl))
  · exact va_gets hx hb h3 va_S.rf hown (hts _ wS_27) (fun _ h => h) dyStrCk_2 (go _ (Or.inr ⟨t, rfl⟩))
theorem pChr_ok : ∀ i, i < 97 → ((pChr i &&& 255).toUInt32 % 65536).toInt32 = pChr i ∧ narrow .char (.int (pChr i)) = .int (pChr i) := by decide +kernel
theorem m_latch (l : Launch) (b q v : Nat) {i : Int32} (h0 : ¬ i < 0) (h9 : i < 97) : Met l yLatCh (.code yLatCh prog_17_method_2_code 2 (some .char) :: lw_good) (sRm 2 128) (fun a U => sP b q [.ref v, .int i] a U ∧ va_T .byte v 97 (fun j => .int (wB.getD j 0)) (fun a => b ≤ a) U U.heap) (sQ (some (.int (pChr i.toNatClampNeg)))) 0 0 (fun _ => False) := by
  refine Met.ofW (cc := prog_17_method_2_code) (maxL := 2) (ret := some .char) (by decide) rfl ?_
  intro p e s m args below meth c s₁ B hml hv
  obtain ⟨⟨rfl, hW⟩, hT⟩ := hv
  have hx := B.exec
  have hb := B.bytes
  have hr := B.returns
  have hlk := B.notSynchronized
  have hown : s.vm.findClass "java/lang/StringLatin1" = some m.cls := findClass_of_methodNamed B.named
  have hts : ∀ w ∈ lw_good, w.before [Value.ref v, Value.int i].toArray s = true := fun w hw => atoms_spec (ws := .code yLatCh prog_17_method_2_code 2 (some .char) :: lw_good) B.pre w (List.mem_cons_of_mem _ hw)
  have hl := lv_entry [Value.ref v, Value.int i] (n := 2) (Nat.le_of_ble_eq_true rfl)
  rw [lg_entry_eq]
  generalize (lg_sl [Value.ref v, Value.int i] ++ List.replicate (2 - (lg_sl [Value.ref v, Value.int i]).length) Slot.unset).toArray = ls at hl ⊢
  have hin : vp_in i 97 := by
    intro h
    rcases h with h | h
    · exact h0 h
    · have h1 : (0 : Int) ≤ i.toInt := by
        have := Int32.not_lt.mp h0
        simpa using Int32.le_iff_toInt_le.mp this
      have h2 := Int32.lt_iff_toInt_lt.mp h9
      have h2 : i.toInt < 97 := h2
      have h : 97 ≤ i.toInt.toNat := h
      omega
  have hlt : i.toNatClampNeg < 97 := Nat.not_le.mp fun q => hin (Or.inr q)
  refine lv_iload_n hx hb dyLatCh_0 rfl (lv_at hl 1 rfl) ?_
  refine lv_aload_n hx hb dyLatCh_1 rfl (lv_at hl 0 rfl) ?_
  refine va_tlen hx hb hT va_S.rf (v := 97) rfl dyLatCh_2 ?_
  refine s_on (v := none) (rest := []) (va_runS (g := F0 m 3 ls [.int 97, .int i]) (As := [.int i, .int 97]) (n := 2) (Ts := lw_good) (own := "java/lang/StringLatin1") ⟨hx, hb, hml, hown, hts⟩ (m_ck l b q h0 h9) ⟨callB_of 2 hts (s_good wS_19) rfl rfl rfl (hts _ wS_0) (hts _ wS_24) ⟨by decide, by decide, by decide +kernel⟩ ⟨by decide, by decide⟩, hts _ wS_12⟩ ⟨sP_blind b q _, fun U hU hWm => ⟨rfl, by rw [hU]; exact hW.warm hWm⟩⟩ rfl rfl hl.1 rfl (Nat.le_of_ble_eq_true rfl) dyLatCh_3 ⟨by decide, by decide⟩) ?_
  refine lv_aload_n hx hb dyLatCh_6 rfl (lv_at hl 0 rfl) ?_
  refine lv_iload_n hx hb dyLatCh_7 rfl (lv_at hl 1 rfl) ?_
  refine va_tb hx hb hT va_S.rf hin (v := .int (pChr i.toNatClampNeg)) rfl dyLatCh_8 ?_
  refine lv_sipush hx hb dyLatCh_9 (v := 255) (by decide) ?_
  refine lv_iand hx hb dyLatCh_12 ?_
  refine lv_i2c hx hb dyLatCh_13 (pChr_ok _ hlt).1 ?_
  exact W.zret hx hb hr (pChr_ok _ hlt).2 (fun t ht _ => ⟨rfl, ht⟩) (fun _ h => by cases h) dyLatCh_14
theorem m_len (l : Launch) (b q : Nat) : sMet l b q yStrLen prog_16_method_54_code 1 (some .int) 1 64 [.ref q] (some (.int 97)) := by
  refine s_body (by decide) (Nat.le_of_ble_eq_true rfl) ?_
  intro p e s m below meth c ls hx hb hml hr hlk hown hts hW hl
  have hW' := hW
  obtain ⟨v, h1, h2, h3, h4⟩ := hW
  refine lv_aload_n hx hb dyStrLen_0 rfl (lv_at hl 0 rfl) ?_
  refine vk_getf hx hb (h1.1 0 (by decide)).2.2.1 va_S.rf hown (hts _ wS_28) (fun _ h => h) dyStrLen_1 ?_
  refine va_tlen hx hb (h1.1 0 (by decide)).2.2.2 va_S.rf (v := 97) rfl dyStrLen_4 ?_
  refine lv_aload_n hx hb dyStrLen_5 rfl (lv_at hl 0 rfl) ?_
  refine s_on (v := some (.int 0)) (rest := [.int 97]) (va_runV (g := F0 m 6 ls [.ref q, .int 97]) (b := q) (C := "java/lang/String") (As := []) (n := 0) (Ts := lw_good) (own := "java/lang/String") ⟨hx, hb, hml, hown, hts⟩ (m_coder l b q) ⟨callB_of 0 hts (s_good wS_15) rfl rfl rfl (hts _ wS_0) (hts _ wS_21) ⟨by decide, by decide, by decide +kernel⟩ ⟨by decide, by decide⟩, hts _ wS_5, hts _ wS_6⟩ ⟨sP_blind b q _, vk_recv (i := 0) h1 (by decide) va_S.rf, fun U hU hWm => ⟨rfl, by rw [hU]; exact hW'.warm hWm⟩⟩ rfl rfl hl.1 rfl (Nat.le_of_ble_eq_true rfl) dyStrLen_6 ⟨by decide, by decide⟩) ?_
  refine lv_ishr hx hb dyStrLen_9 ?_
  exact W.iret hx hb hr (fun t ht _ => ⟨rfl, ht⟩) (fun _ h => by cases h) dyStrLen_10
theorem m_ch (l : Launch) (b q : Nat) {i : Int32} (h0 : ¬ i < 0) (h9 : i < 97) : sMet l b q yStrCh prog_16_method_56_code 2 (some .char) 3 192 [.ref q, .int i] (some (.int (pChr i.toNatClampNeg))) := by
  refine s_body (by decide) (Nat.le_of_ble_eq_true rfl) ?_
  intro p e s m below meth c ls hx hb hml hr hlk hown hts hW hl
  have hW' := hW
  obtain ⟨v, h1, h2, h3, h4⟩ := hW
  have hlt : i.toNatClampNeg < 97 := by
    have h1 : (0 : Int) ≤ i.toInt := by
      have := Int32.not_lt.mp h0
      simpa using Int32.le_iff_toInt_le.mp this
    have h2 : i.toInt < 97 := Int32.lt_iff_toInt_lt.mp h9
    show i.toInt.toNat < 97
    omega
  refine lv_aload_n hx hb dyStrCh_0 rfl (lv_at hl 0 rfl) ?_
  refine s_on (v := some (.int 1)) (rest := []) (va_runV (g := F0 m 1 ls [.ref q]) (b := q) (C := "java/lang/String") (As := []) (n := 0) (Ts := lw_good) (own := "java/lang/String") ⟨hx, hb, hml, hown, hts⟩ (m_lat l b q) ⟨callB_of 0 hts (s_good wS_17) rfl rfl rfl (hts _ wS_0) (hts _ wS_22) ⟨by decide, by decide, by decide +kernel⟩ ⟨by decide, by decide⟩, hts _ wS_9, hts _ wS_10⟩ ⟨sP_blind b q _, vk_recv (i := 0) h1 (by decide) va_S.rf, fun U hU hWm => ⟨rfl, by rw [hU]; exact hW'.warm hWm⟩⟩ rfl rfl hl.1 rfl (Nat.le_of_ble_eq_true rfl) dyStrCh_1 ⟨by decide, by decide⟩) ?_
  refine lv_if_eq hx hb dyStrCh_4 (tgt := 16) rfl (fun h => absurd h (by decide)) (fun _ => ?_)
  refine lv_aload_n hx hb dyStrCh_7 rfl (lv_at hl 0 rfl) ?_
  refine vk_getf hx hb (h1.1 0 (by decide)).2.2.1 va_S.rf hown (hts _ wS_28) (fun _ h => h) dyStrCh_8 ?_
  refine lv_iload_n hx hb dyStrCh_11 rfl (lv_at hl 1 rfl) ?_
  have hTw : ∀ U : State, U.heap = s.heap → s.WarmedH U.vm → va_T .byte v 97 (fun j => .int (wB.getD j 0)) (fun a => b ≤ a) U U.heap := fun U hU hWm => by
    rw [hU]
    exact va_T.moved hWm.alike (h1.1 0 (by decide)).2.2.2
  refine s_on (v := some (.int (pChr i.toNatClampNeg))) (rest := []) (va_runS (g := F0 m 12 ls [.int i, .ref v]) (As := [.ref v, .int i]) (n := 2) (Ts := lw_good) (own := "java/lang/String") ⟨hx, hb, hml, hown, hts⟩ (m_latch l b q v h0 h9) ⟨callB_of 2 hts (s_good wS_18) rfl rfl rfl (hts _ wS_1) (hts _ wS_23) ⟨by decide, by decide, by decide +kernel⟩ ⟨by decide, by decide⟩, hts _ wS_11⟩ ⟨fun a U g mk h => ⟨sP_blind b q _ a U g mk h.1, va_T.moved (u := U) (U := U.calling g mk a) (Vm.Alike.refl U.vm) h.2⟩, fun U hU hWm => ⟨⟨rfl, by rw [hU]; exact hW'.warm hWm⟩, hTw U hU hWm⟩⟩ rfl rfl hl.1 rfl (Nat.le_of_ble_eq_true rfl) dyStrCh_12 ⟨by decide, by decide⟩) ?_
  exact W.zret hx hb hr (pChr_ok _ hlt).2 (fun t ht _ => ⟨rfl, ht⟩) (fun _ h => by cases h) dyStrCh_15
set_option maxRecDepth 100000 in
theorem in_s1 : Cond.stringRef "ThroughPack$Reader" 115 wT ∈ lw_tbl := List.mem_of_getElem? (i := 735) (by decide +kernel)
set_option maxRecDepth 100000 in
theorem in_s2 : Cond.laysStatic "java/lang/String" "COMPACT_STRINGS" "Z" ∈ lw_tbl := List.mem_of_getElem? (i := 745) (by decide +kernel)
set_option maxRecDepth 100000 in
theorem in_s3 : Cond.laysStatic "jdk/internal/util/Preconditions" "SIOOBE_FORMATTER" "Ljava/util/function/BiFunction;" ∈ lw_tbl := List.mem_of_getElem? (i := 761) (by decide +kernel)
abbrev sTm : Term := .string "ThroughPack$Reader" 115
set_option maxRecDepth 100000 in
theorem in_el : ∀ j, j < 97 → Cond.eq (.elem (.field sTm "java/lang/String" "value" "[B") (.int (Int32.ofNat j))) (.int (wB.getD j 0)) ∈ flatC (Jvm.Cond.and given_1 narrow_1) := by decide +kernel
theorem sW_start {s : State} {args : Array Value} (hts : ∀ w ∈ lw_tbl, w.before args s = true) (hgv : (Jvm.Cond.and given_1 narrow_1).before args s = true) : ∃ q, sW s.heap.size q s s.heap := by
  have hs := flat_of_before _ hgv
  have hA : ∀ a : Nat, a < s.heap.size → ¬ (fun a => s.heap.size ≤ a) a := fun a h1 h2 => Nat.not_le.mpr h1 h2
  have hex : (Cond.exactly sTm "java/lang/String").before args s = true := hs _ (by decide +kernel)
  have hco : (Cond.eq (.field sTm "java/lang/String" "coder" "B") (.int 0)).before args s = true := hs _ (by decide +kernel)
  have har : (Cond.arrayOf (.field sTm "java/lang/String" "value" "[B") .byte).before args s = true := hs _ (by decide +kernel)
  have hle : (Cond.eq (.length (.field sTm "java/lang/String" "value" "[B")) (.int 97)).before args s = true := hs _ (by decide +kernel)
  have hcs : (Cond.eq (.static "java/lang/String" "COMPACT_STRINGS" "Z") (.int 1)).before args s = true := hs _ (by decide +kernel)
  have hsf : (Cond.isRef (.static "jdk/internal/util/Preconditions" "SIOOBE_FORMATTER" "Ljava/util/function/BiFunction;")).before args s = true := hs _ (by decide +kernel)
  have hg : ∀ w ∈ lw_good, w.before args s = true := fun w hw => hts w (List.mem_filter.mp hw).1
  have z0 : ∀ i : Nat, i < 1 → i = 0 := fun i hi => by omega
  have hN : ∀ i : Nat, i < 1 → ([97] : List Nat).getD i 0 < 2 ^ 31 := fun i hi => by
    rw [z0 i hi]
    decide
  have hle' : ∀ i : Nat, i < 1 → (Cond.eq (.length (.field sTm "java/lang/String" "value" "[B")) (.int (Int32.ofNat (([97] : List Nat).getD i 0)))).before args s = true := fun i hi => by
    rw [z0 i hi]
    exact hle
  have hel : ∀ i : Nat, i < 1 → ∀ j : Nat, j < ([97] : List Nat).getD i 0 → (Cond.eq (.elem (.field sTm "java/lang/String" "value" "[B") (.int (Int32.ofNat j))) (.int ((([wB] : List (List Int32)).getD i []).getD j 0))).before args s = true := fun i hi j hj => by
    rw [z0 i hi] at hj ⊢
    exact hs _ (in_el j hj)
  obtain ⟨adK, adV, hS, hev⟩ := vk_Sof (args := args) (s := s) (N := 1) (tm := fun _ => sTm) (len := [97]) (byt := [wB]) (A := fun a => s.heap.size ≤ a) hN (fun _ _ => hex) (fun _ _ => hco) (fun _ _ => har) hle' hel (fun i j hi hj hij => absurd (by omega) hij) hA
  refine ⟨adK 0, adV 0, ⟨fun i hi => ?_, fun i j hi hj _ => (z0 i hi).trans (z0 j hj).symm⟩, va_Zof (hts _ in_s2) (hg _ wS_0) (va_eqt hcs) hA, va_Zqof (hts _ in_s3) (hg _ wS_2) hsf hA, vk_R.of (hts _ in_s1) (hev 0 (by decide))⟩
  rw [z0 i hi]
  exact hS.1 0 (by decide)

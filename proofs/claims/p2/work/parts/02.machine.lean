/-! THE PURE MACHINE: the bytecode's steps over a memory of numbered objects. A value .ref i is the i-th object that was made; .retAddr 1 is the law's script. -/
abbrev pMem : Type := Nat → Nat → Value
abbrev pLs : Type := List (Nat × Value)
abbrev pSh : Type := List (Nat × Nat)
abbrev pSt : Type := Nat × pLs × List Value × pSh × pMem
abbrev pRes : Type := pSt ⊕ (Unit ⊕ (Nat × List Value × pSt))
abbrev pScr : Type := Option (Nat × (Nat → Int32))
/-- one place of memory changes -/
def pUp (M : pMem) (o k : Nat) (v : Value) : pMem := fun a j => bif Nat.beq a o && Nat.beq j k then v else M a j
/-- one object's places change -/
def pNew (M : pMem) (o : Nat) (f : Nat → Value) : pMem := fun a j => bif Nat.beq a o then f j else M a j
def pLd (L : pLs) (i : Nat) : Option Value := (L.find? (fun q => q.1 == i)).map (fun q => q.2)
def pS1 (L : pLs) (i : Nat) (v : Value) : pLs := (i, v) :: L.filter (fun q => !(q.1 == i) && !(q.1 + 1 == i && q.2.category == 2))
def pS2 (L : pLs) (i : Nat) (v : Value) : pLs := (i, v) :: L.filter (fun q => !(q.1 == i) && (!(q.1 == i + 1) && !(q.1 + 1 == i && q.2.category == 2)))
def pGo (pc : Nat) (L : pLs) (st : List Value) (sh : pSh) (M : pMem) : Option pRes := some (.inl (pc, L, st, sh, M))
def pJp (pc : Nat) (off : Int) (L : pLs) (st : List Value) (sh : pSh) (M : pMem) : Option pRes := if (pc : Int) + off < 0 then none else pGo ((pc : Int) + off).toNat L st sh M
def pC (c : Jvm.ClassFile.Cond) (x y : Int32) : Bool := match c with
  | .eq => decide (x = y)
  | .ne => decide (¬ x = y)
  | .lt => decide (x < y)
  | .ge => decide (y ≤ x)
  | .gt => decide (y < x)
  | .le => decide (x ≤ y)
def pBr (b : Bool) (pc : Nat) (off : Int) (L : pLs) (st : List Value) (sh : pSh) (M : pMem) : Option pRes := if (pc : Int) + off < 0 then none else match b with
  | true => pGo ((pc : Int) + off).toNat L st sh M
  | false => pGo (pc + 3) L st sh M
def pSz (sh : pSh) : Nat := (sh.map (fun q => q.2)).sum
def pFindI (t : List (List (Nat × Nat × Nat))) (o i : Nat) : Option (Nat × Nat × Nat) := (t.getD o []).find? (fun e => e.1 == i)
/-- the category of what lies below a call's arguments -/
def pCat (st : List Value) : Bool := decide ((st.map fun v => v.category).sum ≤ 8)
def pInt (op : Int32 → Int32 → Int32) (pc : Nat) (L : pLs) (st : List Value) (sh : pSh) (M : pMem) : Option pRes := match st with
  | .int y :: .int x :: r => pGo (pc + 1) L (.int (op x y) :: r) sh M
  | _ => none
def pLong (op : Int64 → Int64 → Int64) (pc : Nat) (L : pLs) (st : List Value) (sh : pSh) (M : pMem) : Option pRes := match st with
  | .long y :: .long x :: r => pGo (pc + 1) L (.long (op x y) :: r) sh M
  | _ => none
def pLoadI (i n pc : Nat) (L : pLs) (st : List Value) (sh : pSh) (M : pMem) : Option pRes := match pLd L i with
  | some (.int x) => pGo (pc + n) L (.int x :: st) sh M
  | _ => none
def pLoadL (i n pc : Nat) (L : pLs) (st : List Value) (sh : pSh) (M : pMem) : Option pRes := match pLd L i with
  | some (.long x) => pGo (pc + n) L (.long x :: st) sh M
  | _ => none
def pLoadA (i n pc : Nat) (L : pLs) (st : List Value) (sh : pSh) (M : pMem) : Option pRes := match pLd L i with
  | some (.ref x) => pGo (pc + n) L (.ref x :: st) sh M
  | some .null => pGo (pc + n) L (.null :: st) sh M
  | some (.retAddr x) => pGo (pc + n) L (.retAddr x :: st) sh M
  | _ => none
def pStoI (nL i n pc : Nat) (L : pLs) (st : List Value) (sh : pSh) (M : pMem) : Option pRes := match st with
  | .int x :: r => if i < nL then pGo (pc + n) (pS1 L i (.int x)) r sh M else none
  | _ => none
def pStoL (nL i n pc : Nat) (L : pLs) (st : List Value) (sh : pSh) (M : pMem) : Option pRes := match st with
  | .long x :: r => if i + 1 < nL then pGo (pc + n) (pS2 L i (.long x)) r sh M else none
  | _ => none
def pStoA (nL i n pc : Nat) (L : pLs) (st : List Value) (sh : pSh) (M : pMem) : Option pRes := match st with
  | .ref x :: r => if i < nL then pGo (pc + n) (pS1 L i (.ref x)) r sh M else none
  | .null :: r => if i < nL then pGo (pc + n) (pS1 L i .null) r sh M else none
  | _ => none
/-- an index within -/
def pIn (j : Int32) (n : Nat) : Bool := decide (¬ (j < 0 ∨ n ≤ j.toNatClampNeg))
def pArrLd (S : pScr) (i : Instr) (pc : Nat) (L : pLs) (st : List Value) (sh : pSh) (M : pMem) : Option pRes := match st with
  | .int j :: .ref a :: r => match sh[a]? with
    | some (k, n) => if pIn j n = true then match i, k, M a j.toNatClampNeg with
      | .iaload, 13, .int v => pGo (pc + 1) L (.int v :: r) sh M
      | .baload, 14, .int v => pGo (pc + 1) L (.int v :: r) sh M
      | .laload, 15, .long v => pGo (pc + 1) L (.long v :: r) sh M
      | .aaload, 16, .ref v => pGo (pc + 1) L (.ref v :: r) sh M
      | .aaload, 17, .ref v => pGo (pc + 1) L (.ref v :: r) sh M
      | .aaload, 18, .ref v => pGo (pc + 1) L (.ref v :: r) sh M
      | _, _, _ => none else none
    | none => none
  | .int j :: .retAddr 1 :: r => match i, S with
    | .iaload, some (n, xs) => if pIn j n = true then pGo (pc + 1) L (.int (xs j.toNatClampNeg) :: r) sh M else none
    | _, _ => none
  | _ => none
def pArrSt (i : Instr) (pc : Nat) (L : pLs) (st : List Value) (sh : pSh) (M : pMem) : Option pRes := match st with
  | v :: .int j :: .ref a :: r => match sh[a]? with
    | some (k, n) => if pIn j n = true then match i, k, v with
      | .iastore, 13, .int x => pGo (pc + 1) L r sh (pUp M a j.toNatClampNeg (.int x))
      | .bastore, 14, .int x => pGo (pc + 1) L r sh (pUp M a j.toNatClampNeg (.int (x &&& 1)))
      | .lastore, 15, .long x => pGo (pc + 1) L r sh (pUp M a j.toNatClampNeg (.long x))
      | .aastore, 17, .ref x => (match sh[x]? with
        | some (8, _) => pGo (pc + 1) L r sh (pUp M a j.toNatClampNeg (.ref x))
        | _ => none)
      | .aastore, 18, .ref x => (match sh[x]? with
        | some (7, _) => pGo (pc + 1) L r sh (pUp M a j.toNatClampNeg (.ref x))
        | _ => none)
      | _, _, _ => none else none
    | none => none
  | _ => none
def pGetF (o idx pc : Nat) (L : pLs) (st : List Value) (sh : pSh) (M : pMem) : Option pRes := match st with
  | .ref a :: r => match pFindI tFld o idx, sh[a]? with
    | some (_, ci, k), some (c, n) => if c = ci ∧ k < n then pGo (pc + 3) L (M a k :: r) sh M else none
    | _, _ => none
  | _ => none
def pTyOf (ci k : Nat) : Option FieldType := parseFieldDescriptor ((pCl ci).2.1 k).2.2.1
def pTyT : List (List FieldType) := (List.range 13).map (fun ci => (List.range (pCl ci).2.2).filterMap (fun k => pTyOf ci k))
def pPutF (o : Nat) (ini : Bool) (idx pc : Nat) (L : pLs) (st : List Value) (sh : pSh) (M : pMem) : Option pRes := match st with
  | v :: .ref a :: r => match pFindI tFld o idx, sh[a]? with
    | some (_, ci, k), some (c, n) => if c = ci ∧ k < n ∧ (((pCl ci).2.1 k).2.2.2 = false ∨ (ini = true ∧ ci = o)) then match pTyOf ci k with
        | some ty => if narrow ty v = v ∧ fits ty v = true then pGo (pc + 3) L r sh (pUp M a k v) else none
        | none => none
      else none
    | _, _ => none
  | _ => none
def pDefF (ci k : Nat) : Value := match pTyOf ci k with
  | some ty => defaultValue ty
  | none => .null
def pNewO (o idx pc : Nat) (L : pLs) (st : List Value) (sh : pSh) (M : pMem) : Option pRes := match (tCls.getD o []).find? (fun e => e.1 == idx) with
  | some (_, ci) => if ci < 13 then pGo (pc + 3) L (.ref sh.length :: st) (sh ++ [(ci, (pCl ci).2.2)]) (pNew M sh.length (pDefF ci)) else none
  | none => none
def pArrK (t : ArrayType) : Option (Nat × Value) := match t with
  | .int => some (13, .int 0)
  | .boolean => some (14, .int 0)
  | .long => some (15, .long 0)
  | _ => none
def pNewA (t : ArrayType) (pc : Nat) (L : pLs) (st : List Value) (sh : pSh) (M : pMem) : Option pRes := match st with
  | .int n :: r => match pArrK t with
    | some (k, v) => if ¬ n < 0 ∧ n.toNatClampNeg ≤ 1000000 then pGo (pc + 2) L (.ref sh.length :: r) (sh ++ [(k, n.toNatClampNeg)]) (pNew M sh.length (fun _ => v)) else none
    | none => none
  | _ => none
def pNewR (o idx pc : Nat) (L : pLs) (st : List Value) (sh : pSh) (M : pMem) : Option pRes := match st with
  | .int n :: r => match (tCls.getD o []).find? (fun e => e.1 == idx) with
    | some (_, ci) => if (ci = 7 ∨ ci = 8) ∧ ¬ n < 0 ∧ n.toNatClampNeg ≤ 1000000 then pGo (pc + 3) L (.ref sh.length :: r) (sh ++ [(25 - ci, n.toNatClampNeg)]) (pNew M sh.length (fun _ => .null)) else none
    | none => none
  | _ => none
def pRows (n k : Nat) : pSh := (16, n) :: List.replicate n (13, k)
def pNewM (o idx dim pc : Nat) (L : pLs) (st : List Value) (sh : pSh) (M : pMem) : Option pRes := match st with
  | .int k :: .int n :: r => match (tCls.getD o []).find? (fun e => e.1 == idx) with
    | some (_, ci) => if ci = 16 ∧ dim = 2 ∧ ¬ n < 0 ∧ ¬ k < 0 ∧ n.toNatClampNeg ≤ 1000 ∧ k.toNatClampNeg ≤ 1000 then
        pGo (pc + 4) L (.ref sh.length :: r) (sh ++ pRows n.toNatClampNeg k.toNatClampNeg) (fun a j => bif Nat.beq a sh.length then .ref (sh.length + 1 + j) else bif Nat.blt sh.length a && Nat.ble a (sh.length + n.toNatClampNeg) then .int 0 else M a j) else none
    | none => none
  | _ => none
/-- a call of a method of ours: kind 0 static, 1 by its class, 2 a constructor -/
def pCall (kd o idx pc : Nat) (L : pLs) (st : List Value) (sh : pSh) (M : pMem) : Option pRes := match (tMth.getD o []).find? (fun e => e.1 == idx) with
  | some (_, m, n, nest) => if pKind.getD m 9 = kd ∧ n ≤ st.length ∧ (nest = 0 ∨ kd = 0) then
      (match kd with
      | 0 => if pCat (st.drop n) = true then some (.inr (.inr (m, (st.take n).reverse, pc + 3, L, st.drop n, sh, M))) else none
      | _ => match st.drop n with
        | .ref b :: r => (match sh[b]? with
          | some (c, _) => if c = (pMe m).1 ∧ pCat r = true then some (.inr (.inr (m, .ref b :: (st.take n).reverse, pc + 3, L, r, sh, M))) else none
          | none => none)
        | _ => none)
    else none
  | none => none
def pCpy (M : pMem) (s sp d dp n : Nat) : pMem := fun a j => bif Nat.beq a d && (Nat.ble dp j && Nat.blt j (dp + n)) then M s (sp + (j - dp)) else M a j
def pCk (k : Nat) : FieldType := match k with
  | 13 => .int
  | _ => .boolean
/-- a call of one of the JDK's -/
def pJdkS (o idx pc : Nat) (L : pLs) (st : List Value) (sh : pSh) (M : pMem) : Option pRes := match (tJdk.getD o []).find? (fun e => e.1 == idx) with
  | some (_, 1) => (match st with
    | .int y :: .int x :: r => if pCat r = true then pGo (pc + 3) L (.int (if x < y then y else x) :: r) sh M else none
    | _ => none)
  | some (_, 2) => (match st with
    | .int y :: .int x :: r => if pCat r = true then pGo (pc + 3) L (.int (if y < x then y else x) :: r) sh M else none
    | _ => none)
  | some (_, 3) => (match st with
    | .int x :: r => if pCat r = true then pGo (pc + 3) L (.int (if 0 ≤ x then x else 0 - x) :: r) sh M else none
    | _ => none)
  | some (_, 4) => (match st with
    | .int n :: .int dp :: .ref d :: .int sp :: .ref s :: r => (match sh[s]?, sh[d]? with
      | some (k0, n0), some (k1, n1) => if k0 = k1 ∧ (k0 = 13 ∨ k0 = 14) ∧ ((List.range n.toNatClampNeg).all (fun i => fits (pCk k0) (M s (sp.toNatClampNeg + i))) = true) ∧ ¬ sp < 0 ∧ ¬ dp < 0 ∧ ¬ n < 0 ∧ sp.toNatClampNeg + n.toNatClampNeg ≤ n0 ∧ dp.toNatClampNeg + n.toNatClampNeg ≤ n1 ∧ pCat r = true then pGo (pc + 3) L r sh (pCpy M s sp.toNatClampNeg d dp.toNatClampNeg n.toNatClampNeg) else none
      | _, _ => none)
    | _ => none)
  | _ => none
/-- a call of Object's constructor -/
def pJdkI (o idx pc : Nat) (L : pLs) (st : List Value) (sh : pSh) (M : pMem) : Option pRes := match (tJdk.getD o []).find? (fun e => e.1 == idx) with
  | some (_, 0) => (match st with
    | .ref _ :: r => if pCat r = true then pGo (pc + 3) L r sh M else none
    | _ => none)
  | _ => none
/-- the text of the one String constant; .retAddr 2 stands for it -/
def wB : List Int32 := [109, 97, 121, 32, 110, 105, 112, 115, 32, 119, 97, 108, 107, 32, 103, 111, 32, 99, 111, 115, 116, 32, 105, 99, 101, 32, 119, 104, 101, 110, 32, 111, 114, 32, 97, 110, 100, 32, 110, 111, 116, 32, 116, 104, 105, 99, 107, 32, 110, 111, 114, 116, 104, 32, 101, 97, 115, 116, 32, 115, 111, 117, 116, 104, 32, 119, 101, 115, 116, 32, 120, 32, 121, 32, 119, 105, 110, 100, 32, 119, 97, 116, 99, 104, 32, 99, 111, 97, 108, 32, 98, 97, 110, 107, 101, 100, 32]
def pChr (i : Nat) : Int32 := wB.getD i 0
/-- a call of String's length or charAt -/
def pJdkV (S : pScr) (o idx pc : Nat) (L : pLs) (st : List Value) (sh : pSh) (M : pMem) : Option pRes := match S, (tJdk.getD o []).find? (fun e => e.1 == idx) with
  | some _, some (_, 5) => (match st with
    | .retAddr 2 :: r => if pCat r = true then pGo (pc + 3) L (.int 97 :: r) sh M else none
    | _ => none)
  | some _, some (_, 6) => (match st with
    | .int i :: .retAddr 2 :: r => if pIn i 97 = true ∧ pCat r = true then pGo (pc + 3) L (.int (pChr i.toNatClampNeg) :: r) sh M else none
    | _ => none)
  | _, _ => none
def pLdcS (S : pScr) (o idx pc : Nat) (L : pLs) (st : List Value) (sh : pSh) (M : pMem) : Option pRes := match S with
  | some _ => if o = 5 ∧ idx = 115 then pGo (pc + 2) L (.retAddr 2 :: st) sh M else none
  | none => none
def pLen (S : pScr) (pc : Nat) (L : pLs) (st : List Value) (sh : pSh) (M : pMem) : Option pRes := match st with
  | .ref a :: r => (match sh[a]? with
    | some (k, n) => if 13 ≤ k ∧ k < 19 then pGo (pc + 1) L (.int (Int32.ofNat n) :: r) sh M else none
    | none => none)
  | .retAddr 1 :: r => (match S with
    | some (n, _) => pGo (pc + 1) L (.int (Int32.ofNat n) :: r) sh M
    | none => none)
  | _ => none
def pTbl (dflt lo hi : Int) (offs : Array Int) (pc : Nat) (L : pLs) (st : List Value) (sh : pSh) (M : pMem) : Option pRes := match st with
  | .int x :: r => if x.toInt < lo ∨ hi < x.toInt then pJp pc dflt L r sh M else match offs[(x.toInt - lo).toNat]? with
    | some off => pJp pc off L r sh M
    | none => none
  | _ => none
def pLkp (dflt : Int) (ps : Array (Int × Int)) (pc : Nat) (L : pLs) (st : List Value) (sh : pSh) (M : pMem) : Option pRes := match st with
  | .int x :: r => if (ps.toList.zip (ps.toList.drop 1)).all (fun (a, next) => a.1 < next.1) = true then pJp pc (Op.lookupswitch.offset ps.toList dflt x.toInt) L r sh M else none
  | _ => none
/-- one instruction, and how long it is: o its class, ini whether its method is a constructor, nL how many locals -/
def pstep (S : pScr) (o : Nat) (ini : Bool) (nL : Nat) (i : Instr) (len pc : Nat) (L : pLs) (st : List Value) (sh : pSh) (M : pMem) : Option pRes := match i, len with
  | .iconst n, 1 => pGo (pc + 1) L (.int (Int32.ofInt n) :: st) sh M
  | .bipush n, 2 => pGo (pc + 2) L (.int (Int8.ofInt n).toInt32 :: st) sh M
  | .sipush n, 3 => pGo (pc + 3) L (.int (Int16.ofInt n).toInt32 :: st) sh M
  | .lconst n, 1 => pGo (pc + 1) L (.long (Int64.ofNat (n : Nat)) :: st) sh M
  | .aconst_null, 1 => pGo (pc + 1) L (.null :: st) sh M
  | .iload k, 2 => pLoadI k 2 pc L st sh M
  | .iload_n k, 1 => pLoadI k 1 pc L st sh M
  | .lload k, 2 => pLoadL k 2 pc L st sh M
  | .lload_n k, 1 => pLoadL k 1 pc L st sh M
  | .aload k, 2 => pLoadA k 2 pc L st sh M
  | .aload_n k, 1 => pLoadA k 1 pc L st sh M
  | .istore k, 2 => pStoI nL k 2 pc L st sh M
  | .istore_n k, 1 => pStoI nL k 1 pc L st sh M
  | .lstore k, 2 => pStoL nL k 2 pc L st sh M
  | .lstore_n k, 1 => pStoL nL k 1 pc L st sh M
  | .astore k, 2 => pStoA nL k 2 pc L st sh M
  | .astore_n k, 1 => pStoA nL k 1 pc L st sh M
  | .iinc k n, 3 => (match pLd L k with
    | some (.int x) => if k < nL then pGo (pc + 3) (pS1 L k (.int (x + Int32.ofInt n))) st sh M else none
    | _ => none)
  | .iadd, 1 => pInt (fun x y => x + y) pc L st sh M
  | .isub, 1 => pInt (fun x y => x - y) pc L st sh M
  | .imul, 1 => pInt (fun x y => x * y) pc L st sh M
  | .iand, 1 => pInt (fun x y => x &&& y) pc L st sh M
  | .ior, 1 => pInt (fun x y => x ||| y) pc L st sh M
  | .ishl, 1 => pInt (fun x y => x <<< (y &&& 31)) pc L st sh M
  | .ishr, 1 => pInt (fun x y => x >>> (y &&& 31)) pc L st sh M
  | .iushr, 1 => pInt (fun x y => (x.toUInt32 >>> (y.toUInt32 &&& Int32.toUInt32 31)).toInt32) pc L st sh M
  | .idiv, 1 => (match st with
    | .int y :: .int x :: r => if y = 0 then none else pGo (pc + 1) L (.int (x / y) :: r) sh M
    | _ => none)
  | .irem, 1 => (match st with
    | .int y :: .int x :: r => if y = 0 then none else pGo (pc + 1) L (.int (x - x / y * y) :: r) sh M
    | _ => none)
  | .ineg, 1 => (match st with
    | .int x :: r => pGo (pc + 1) L (.int (-x) :: r) sh M
    | _ => none)
  | .ladd, 1 => pLong (fun x y => x + y) pc L st sh M
  | .lsub, 1 => pLong (fun x y => x - y) pc L st sh M
  | .lmul, 1 => pLong (fun x y => x * y) pc L st sh M
  | .lor, 1 => pLong (fun x y => x ||| y) pc L st sh M
  | .ldiv, 1 => (match st with
    | .long y :: .long x :: r => if y = 0 then none else pGo (pc + 1) L (.long (x / y) :: r) sh M
    | _ => none)
  | .lneg, 1 => (match st with
    | .long x :: r => pGo (pc + 1) L (.long (-x) :: r) sh M
    | _ => none)
  | .lshl, 1 => (match st with
    | .int y :: .long x :: r => pGo (pc + 1) L (.long (x <<< (y.toInt64 &&& 63)) :: r) sh M
    | _ => none)
  | .lcmp, 1 => (match st with
    | .long y :: .long x :: r => pGo (pc + 1) L (.int (lg_cmp x y) :: r) sh M
    | _ => none)
  | .i2l, 1 => (match st with
    | .int x :: r => pGo (pc + 1) L (.long x.toInt64 :: r) sh M
    | _ => none)
  | .l2i, 1 => (match st with
    | .long x :: r => pGo (pc + 1) L (.int x.toInt32 :: r) sh M
    | _ => none)
  | .dup, 1 => (match st with
    | v :: r => if v.category = 1 then pGo (pc + 1) L (v :: v :: r) sh M else none
    | _ => none)
  | .pop, 1 => (match st with
    | v :: r => if v.category = 1 then pGo (pc + 1) L r sh M else none
    | _ => none)
  | .dup2, 1 => (match st with
    | v :: u :: r => if v.category = 1 ∧ u.category = 1 then pGo (pc + 1) L (v :: u :: v :: u :: r) sh M else none
    | _ => none)
  | .ifCond c off, 3 => (match st with
    | .int x :: r => pBr (pC c x 0) pc off L r sh M
    | _ => none)
  | .if_icmp c off, 3 => (match st with
    | .int y :: .int x :: r => pBr (pC c x y) pc off L r sh M
    | _ => none)
  | .goto off, 3 => pJp pc off L st sh M
  | .ifnull off, 3 => (match st with
    | .ref _ :: r => pGo (pc + 3) L r sh M
    | .null :: r => pJp pc off L r sh M
    | _ => none)
  | .ifnonnull off, 3 => (match st with
    | .ref _ :: r => pJp pc off L r sh M
    | .null :: r => pGo (pc + 3) L r sh M
    | _ => none)
  | .tableswitch dflt lo hi offs, _ => pTbl dflt lo hi offs pc L st sh M
  | .lookupswitch dflt ps, _ => pLkp dflt ps pc L st sh M
  | .iaload, 1 => pArrLd S .iaload pc L st sh M
  | .baload, 1 => pArrLd S .baload pc L st sh M
  | .laload, 1 => pArrLd S .laload pc L st sh M
  | .aaload, 1 => pArrLd S .aaload pc L st sh M
  | .iastore, 1 => pArrSt .iastore pc L st sh M
  | .bastore, 1 => pArrSt .bastore pc L st sh M
  | .lastore, 1 => pArrSt .lastore pc L st sh M
  | .aastore, 1 => pArrSt .aastore pc L st sh M
  | .arraylength, 1 => pLen S pc L st sh M
  | .getfield idx, 3 => pGetF o idx pc L st sh M
  | .putfield idx, 3 => pPutF o ini idx pc L st sh M
  | .new idx, 3 => pNewO o idx pc L st sh M
  | .newarray t, 2 => pNewA t pc L st sh M
  | .anewarray idx, 3 => pNewR o idx pc L st sh M
  | .multianewarray idx dim, 4 => pNewM o idx dim pc L st sh M
  | .ldc idx, 2 => (match (tCst.getD o []).find? (fun e => e.1 == idx) with
    | some (_, v) => pGo (pc + 2) L (.int v :: st) sh M
    | none => pLdcS S o idx pc L st sh M)
  | .ldc2_w idx, 3 => (match (tCsl.getD o []).find? (fun e => e.1 == idx) with
    | some (_, v) => pGo (pc + 3) L (.long v :: st) sh M
    | none => none)
  | .invokevirtual idx, 3 => (match pCall 1 o idx pc L st sh M with
    | some r => some r
    | none => pJdkV S o idx pc L st sh M)
  | .invokestatic idx, 3 => (match pCall 0 o idx pc L st sh M with
    | some r => some r
    | none => pJdkS o idx pc L st sh M)
  | .invokespecial idx, 3 => (match pCall 2 o idx pc L st sh M with
    | some r => some r
    | none => pJdkI o idx pc L st sh M)
  | .ireturn, 1 => some (.inr (.inl ()))
  | .lreturn, 1 => some (.inr (.inl ()))
  | .areturn, 1 => some (.inr (.inl ()))
  | .return_, 1 => some (.inr (.inl ()))
  | _, _ => none
abbrev pHp : Type := pSh × pMem
/-- a method's body from a state on, to the return that it comes to -/
def prun (S : pScr) (o : Nat) (ini : Bool) (nL : Nat) (code : Nat → Option (Instr × Nat)) (call : Nat → List Value → pHp → Option (Option Value × pHp)) : Nat → pSt → Option (Instr × Nat × pSt)
  | 0, _ => none
  | n + 1, (pc, L, st, sh, M) => match code pc with
    | none => none
    | some (i, len) => match pstep S o ini nL i len pc L st sh M with
      | none => none
      | some (.inl σ) => prun S o ini nL code call n σ
      | some (.inr (.inl _)) => some (i, len, pc, L, st, sh, M)
      | some (.inr (.inr (m, as, pc', L', st', sh', M'))) => match call m as (sh', M') with
        | none => none
        | some (v, sh2, M2) => prun S o ini nL code call n (pc', L', v.toList ++ st', sh2, M2)
/-- the value that a return gives -/
def pRet (ret : Option FieldType) (i : Instr) (len : Nat) (st : List Value) : Option (Option Value) := match i, len, ret, st with
  | .return_, 1, none, [] => some none
  | .ireturn, 1, some .int, [.int v] => some (some (.int v))
  | .ireturn, 1, some .boolean, [.int v] => if v &&& 1 = v then some (some (.int v)) else none
  | .lreturn, 1, some .long, [.long v] => some (some (.long v))
  | .areturn, 1, some (.object _), [.ref a] => some (some (.ref a))
  | _, _, _, _ => none

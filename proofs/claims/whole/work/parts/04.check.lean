/-! ===== which runs of instructions stand in a method's bytes, with the words that they link by: decided by the kernel ===== -/
def wAt (pl : Nat) (w : Cond) : Bool := decide (lw_tbl[pl]? = some w) && goodWord w
def rkOf : Option FieldType → Nat
  | none => 0
  | some .int => 1
  | some .boolean => 1
  | some .long => 2
  | _ => 4
def okTs (pc : Nat) (v : Int) : List Int → List Nat → Bool
  | [], [] => true
  | o :: os, k :: t :: ts => decide (v = (k : Int)) && (decide ((pc : Int) + o = (t : Int)) && okTs pc (v + 1) os ts)
  | _, _ => false
def okLs (pc : Nat) : List (Int × Int) → List Nat → Bool
  | [], [] => true
  | o :: os, k :: t :: ts => decide (o.1 = (k : Int)) && (decide ((pc : Int) + o.2 = (t : Int)) && okLs pc os ts)
  | _, _ => false
def okF (own : String) (idx : Nat) (K k ty pl : Nat) : Bool := match vwCl[K - 1]? with
  | some (_, T, N) => Nat.blt 0 K && (Nat.blt k N && (decide (fT (K - 1) k = ty) && wAt pl (.fieldLink own idx (T k).1 (T k).2.1 (T k).2.2.1)))
  | none => false
/-- a final field is put by its own class's constructor alone -/
def okFin (y : MethodName) (K k : Nat) : Bool := match vwCl[K - 1]? with
  | some (_, T, _) => match (T k).2.2.2 with
    | false => true
    | true => decide (y.name = "<init>" ∧ (T k).1 = y.cls)
  | none => false
def okCall (mj na ml rk : Nat) (f : MethodName → Option FieldType → Bool) : Bool := match mE mj with
  | some (y, _, m, r) => decide (m = ml) && (decide (rkOf r = rk) && (decide ((parseMethodDescriptor y.desc).map (fun d => d.parameters.length) = some na) && f y r))
  | none => false
def okj (y : MethodName) (rt : Option FieldType) (pc : Nat) (j : Instr) : Instr → List Nat → Bool
  | .iconst n, _ => match j with
    | .iconst k => decide (k = n ∧ -32768 ≤ n ∧ n < 32768)
    | .bipush k => decide (k = n ∧ -128 ≤ n ∧ n < 128)
    | .sipush k => decide (k = n ∧ -32768 ≤ n ∧ n < 32768)
    | _ => false
  | .ldc n, lk => match lk, j with
    | [], .ldc idx => decide (idx = 19 ∧ y.cls = "StreetNames$Tape")
    | pl :: _, .ldc_w idx => Nat.blt n 2147483648 && wAt pl (.constant y.cls idx (Int32.ofNat n))
    | _, _ => false
  | .ldc2_w n, lk => match lk, j with
    | [], .lconst k => decide (n = (k : Nat))
    | [pl], .ldc2_w idx => Nat.blt n 9223372036854775808 && wAt pl (.constantLong y.cls idx (Int64.ofInt (n : Int)))
    | pl :: _, .ldc2_w idx => Nat.blt n 9223372036854775808 && wAt pl (.constantLong y.cls idx (Int64.ofInt (-(n : Int))))
    | _, _ => false
  | .iload n, _ => match j with
    | .iload k => decide (k = n)
    | .iload_n k => decide ((k : Nat) = n)
    | _ => false
  | .lload n, _ => match j with
    | .lload k => decide (k = n)
    | .lload_n k => decide ((k : Nat) = n)
    | _ => false
  | .aload n, _ => match j with
    | .aload k => decide (k = n)
    | .aload_n k => decide ((k : Nat) = n)
    | _ => false
  | .istore n, _ => match j with
    | .istore k => decide (k = n)
    | .istore_n k => decide ((k : Nat) = n)
    | _ => false
  | .lstore n, _ => match j with
    | .lstore k => decide (k = n)
    | .lstore_n k => decide ((k : Nat) = n)
    | _ => false
  | .astore n, _ => match j with
    | .astore k => decide (k = n)
    | .astore_n k => decide ((k : Nat) = n)
    | _ => false
  | .goto _, _ => match j with
    | .goto _ => true
    | _ => false
  | .if_icmp c _, lk => match j, lk with
    | .if_icmp c' o, [t] => decide (c = c' ∧ (pc : Int) + o = (t : Int))
    | _, _ => false
  | .ifCond c _, lk => match j, lk with
    | .ifCond c' o, [t] => decide (c = c' ∧ (pc : Int) + o = (t : Int))
    | _, _ => false
  | .ifnull _, lk => match j, lk with
    | .ifnull o, [t] => decide ((pc : Int) + o = (t : Int))
    | _, _ => false
  | .ifnonnull _, lk => match j, lk with
    | .ifnonnull o, [t] => decide ((pc : Int) + o = (t : Int))
    | _, _ => false
  | .tableswitch _ _ _ _, lk => match j, lk with
    | .tableswitch df lo hi os, t :: ts => decide ((pc : Int) + df = (t : Int) ∧ hi = lo + (os.toList.length : Int) - 1) && okTs pc lo os.toList ts
    | .lookupswitch df ps, t :: ts => decide ((pc : Int) + df = (t : Int)) && ((ps.toList.zip (ps.toList.drop 1)).all (fun (a, next) => a.1 < next.1) && okLs pc ps.toList ts)
    | _, _ => false
  | .getfield _, lk => match j, lk with
    | .getfield idx, [K, k, ty, pl] => okF y.cls idx K k ty pl
    | _, _ => false
  | .putfield _, lk => match j, lk with
    | .putfield idx, [K, k, ty, pl] => okF y.cls idx K k ty pl && okFin y K k
    | _, _ => false
  | .iaload, lk => decide (j = .iaload ∧ (lk = [20] ∨ lk = [25]))
  | .baload, lk => decide (j = .baload ∧ (lk = [22] ∨ lk = [23]))
  | .bastore, lk => decide (j = .bastore ∧ (lk = [22] ∨ lk = [23]))
  | .aastore, lk => decide (j = .aastore ∧ lk = [10])
  | .arraylength, lk => decide (j = .arraylength ∧ (lk = [20] ∨ lk = [21] ∨ lk = [25]))
  | .newarray _, lk => decide ((j = .newarray .int ∧ lk = [20]) ∨ (j = .newarray .long ∧ lk = [21]) ∨ (j = .newarray .byte ∧ lk = [22]) ∨ (j = .newarray .boolean ∧ lk = [23]))
  | .anewarray _, lk => match j, lk with
    | .anewarray idx, [pl] => wAt pl (.classLink y.cls idx "StreetNames$Town")
    | _, _ => false
  | .new _, lk => match j, lk with
    | .new idx, [K, N, pl] => match vwCl[K - 1]? with
      | some (C, _, M) => Nat.blt 0 K && (decide (M = N) && wAt pl (.classLink y.cls idx C))
      | none => false
    | _, _ => false
  | .ireturn, lk => decide (j = .ireturn ∧ ((lk = [1] ∧ rt = some .int) ∨ (lk = [3] ∧ rt = some .boolean)))
  | .lreturn, _ => decide (j = .lreturn ∧ rt = some .long)
  | .areturn, _ => decide (j = .areturn ∧ rt = some (.object "StreetNames$Names"))
  | .return_, _ => decide (j = .return_ ∧ rt = none)
  | .invokedynamic n, lk => match n, j, lk with
    | 0, .invokespecial idx, [pl] => wAt pl (.methodLink y.cls idx Lib.objectInit)
    | 1, .invokestatic idx, [pl] => wAt pl (.methodLink y.cls idx Lib.Math.max.name)
    | 2, .invokestatic idx, [pl] => wAt pl (.methodLink y.cls idx Lib.Math.min.name)
    | 3, .invokestatic idx, [K, pl] => decide (K = 20 ∨ K = 21) && wAt pl (.methodLink y.cls idx arraycopyName)
    | 4, .invokevirtual idx, [pl] => wAt pl (.methodLink y.cls idx ⟨"java/lang/String", "charAt", "(I)C"⟩)
    | _, _, _ => false
  | .invokestatic _, lk => match j, lk with
    | .invokestatic idx, [mj, na, ml, _, _, rk, p1, p2, p3] => okCall mj na ml rk (fun z _ => wAt p1 (.methodLink y.cls idx z) && (wAt p2 (.static z) && wAt p3 (.initialized z.cls)))
    | .invokestatic idx, [mj, na, ml, _, _, rk, p1, p2, p3, _] => okCall mj na ml rk (fun z _ => decide (lw_tbl[p1]? = some (.methodLinkNest y.cls idx z "StreetNames")) && (wAt p2 (.static z) && wAt p3 (.initialized z.cls)))
    | _, _ => false
  | .invokevirtual _, lk => match j, lk with
    | .invokevirtual idx, [mj, na, ml, _, _, rk, K, p1, p2, p3, p4] => okCall mj na ml rk (fun z _ => (Nat.blt 0 K && decide ((vwCl[K - 1]?).map (fun q => q.1) = some z.cls)) && (wAt p1 (.methodLink y.cls idx z) && (wAt p2 (.instanceMethod z) && (wAt p3 (.selects z.cls z z) && wAt p4 (.initialized z.cls)))))
    | .invokespecial idx, [mj, na, ml, _, _, rk, K, p1, p2, _, p4] => okCall mj na ml rk (fun z r => (Nat.blt 0 K && decide ((vwCl[K - 1]?).map (fun q => q.1) = some z.cls ∧ z.name = "<init>" ∧ r = none)) && (wAt p1 (.methodLink y.cls idx z) && (wAt p2 (.instanceMethod z) && wAt p4 (.initialized z.cls))))
    | .invokespecial idx, [mj, na, ml, _, _, rk, K, p1, p2, _, p4, _] => okCall mj na ml rk (fun z r => (Nat.blt 0 K && decide ((vwCl[K - 1]?).map (fun q => q.1) = some z.cls ∧ z.name = "<init>" ∧ r = none)) && (decide (lw_tbl[p1]? = some (.methodLinkNest y.cls idx z "StreetNames")) && (wAt p2 (.instanceMethod z) && wAt p4 (.initialized z.cls))))
    | _, _ => false
  | .iinc n k, _ => decide (j = .iinc n k)
  | .iadd, _ => decide (j = .iadd)
  | .isub, _ => decide (j = .isub)
  | .imul, _ => decide (j = .imul)
  | .idiv, _ => decide (j = .idiv)
  | .irem, _ => decide (j = .irem)
  | .iand, _ => decide (j = .iand)
  | .ior, _ => decide (j = .ior)
  | .ixor, _ => decide (j = .ixor)
  | .ishl, _ => decide (j = .ishl)
  | .ishr, _ => decide (j = .ishr)
  | .iushr, _ => decide (j = .iushr)
  | .ladd, _ => decide (j = .ladd)
  | .lmul, _ => decide (j = .lmul)
  | .ldiv, _ => decide (j = .ldiv)
  | .land, _ => decide (j = .land)
  | .lor, _ => decide (j = .lor)
  | .lshl, _ => decide (j = .lshl)
  | .lshr, _ => decide (j = .lshr)
  | .lcmp, _ => decide (j = .lcmp)
  | .i2l, _ => decide (j = .i2l)
  | .l2i, _ => decide (j = .l2i)
  | .i2b, _ => decide (j = .i2b)
  | .dup, _ => decide (j = .dup)
  | .dup2, _ => decide (j = .dup2)
  | .pop, _ => decide (j = .pop)
  | .aconst_null, _ => decide (j = .aconst_null)
  | .laload, _ => decide (j = .laload)
  | .aaload, _ => decide (j = .aaload)
  | .iastore, _ => decide (j = .iastore)
  | .lastore, _ => decide (j = .lastore)
  | _, _ => false
/-- an instruction's length -/
def x_len (j : Instr) (len : Nat) : Nat := match j with
  | .tableswitch _ _ _ _ => len
  | .lookupswitch _ _ => len
  | .bipush _ => 2
  | .ldc _ => 2
  | .iload _ => 2
  | .lload _ => 2
  | .aload _ => 2
  | .istore _ => 2
  | .lstore _ => 2
  | .astore _ => 2
  | .newarray _ => 2
  | .sipush _ => 3
  | .ldc_w _ => 3
  | .ldc2_w _ => 3
  | .iinc _ _ => 3
  | .getfield _ => 3
  | .putfield _ => 3
  | .goto _ => 3
  | .if_icmp _ _ => 3
  | .ifCond _ _ => 3
  | .ifnull _ => 3
  | .ifnonnull _ => 3
  | .new _ => 3
  | .anewarray _ => 3
  | .invokevirtual _ => 3
  | .invokespecial _ => 3
  | .invokestatic _ => 3
  | _ => 1
def okL (y : MethodName) (rt : Option FieldType) (cc : ByteArray) : Nat → List AI → Bool
  | _, [] => true
  | pc, (i, lk) :: is => match i with
    | .nop => decide (lk = [pc])
    | _ => match decode cc pc with
      | .ok (j, len) => decide (x_len j len = len) && (okj y rt pc j i lk && (match j with
        | .goto o => decide (0 ≤ (pc : Int) + o) && okL y rt cc ((pc : Int) + o).toNat is
        | _ => okL y rt cc (pc + len) is))
      | .error _ => false
def mF (mi : Nat) : Option MEnt := if mi = 1000 then some (x, code, maxLocals, ret) else mE mi
def okB (mi pc : Nat) (is : List AI) : Bool := match mF mi with
  | some (y, cc, _, rt) => okL y rt cc pc is
  | none => false
/-- a step of the abstract machine: some run of instructions that stands there -/
def xStep (P : PT) : PT := fun mi pc lo st h d mc ms R => ∃ is, okB mi pc is = true ∧ xc P mi is lo st h d mc ms R
def Wp : PT := fun mi pc lo st h d mc ms R => ∀ P : PT, (∀ mi pc lo st h d mc ms R, xStep P mi pc lo st h d mc ms R → P mi pc lo st h d mc ms R) → P mi pc lo st h d mc ms R

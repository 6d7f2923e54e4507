/-! ===== an abstract machine over the bytecode: cells are numbered as they are made, ints and longs are integers; 'Wp' is the least predicate that goes along with its steps ===== -/
/-- a value: an int, a long, a reference (0 is null, 1 the script, 2 the text constant, from 3 on the cells that were made) -/
abbrev AV : Type := Int ⊕ (Int ⊕ Nat)
abbrev xI (i : Int) : AV := Sum.inl i
abbrev xL (i : Int) : AV := Sum.inr (Sum.inl i)
abbrev xR (r : Nat) : AV := Sum.inr (Sum.inr r)
/-- the next cell's number; of a cell its kind (1 + number of its class; 20 int[], 21 long[], 22 byte[], 23 boolean[], 24 Town[], 25 the script, 26 the text) and length; its contents -/
abbrev Hp : Type := Nat × (Nat → Nat × Nat) × (Nat → Nat → Int)
def hpT (h : Hp) (r : Nat) : Nat × Nat := h.2.1 r
def hpC (h : Hp) (r p : Nat) : Int := h.2.2 r p
def hpU (h : Hp) (r p : Nat) (v : Int) : Hp := (h.1, h.2.1, fun r' p' => if r' = r ∧ p' = p then v else h.2.2 r' p')
def hpN (h : Hp) (k len : Nat) : Hp := (h.1 + 1, fun r => if r = h.1 then (k, len) else h.2.1 r, fun r p => if r = h.1 then 0 else h.2.2 r p)
def hpY (h : Hp) (a sp b dp n : Nat) : Hp := (h.1, h.2.1, fun r p => if r = b ∧ dp ≤ p ∧ p < dp + n then h.2.2 a (sp + (p - dp)) else h.2.2 r p)
/-- numbers -/
def ai_add (a b : Int) : Int := (Int32.ofInt a + Int32.ofInt b).toInt
def ai_sub (a b : Int) : Int := (Int32.ofInt a - Int32.ofInt b).toInt
def ai_mul (a b : Int) : Int := (Int32.ofInt a * Int32.ofInt b).toInt
def ai_div (a b : Int) : Int := (Int32.ofInt a / Int32.ofInt b).toInt
def ai_rem (a b : Int) : Int := (Int32.ofInt a - Int32.ofInt a / Int32.ofInt b * Int32.ofInt b).toInt
def ai_and (a b : Int) : Int := (Int32.ofInt a &&& Int32.ofInt b).toInt
def ai_or (a b : Int) : Int := (Int32.ofInt a ||| Int32.ofInt b).toInt
def ai_xor (a b : Int) : Int := (Int32.ofInt a ^^^ Int32.ofInt b).toInt
def ai_shl (a b : Int) : Int := (Int32.ofInt a <<< (Int32.ofInt b &&& 31)).toInt
def ai_shr (a b : Int) : Int := (Int32.ofInt a >>> (Int32.ofInt b &&& 31)).toInt
def ai_ushr (a b : Int) : Int := (((Int32.ofInt a).toUInt32 >>> ((Int32.ofInt b).toUInt32 &&& Int32.toUInt32 31)).toInt32).toInt
def ai_byte (a : Int) : Int := ((Int32.ofInt a).toInt8.toInt32).toInt
def ai_nar (k : Nat) (a : Int) : Int := if k = 22 then (vp_nar .byte (Int32.ofInt a)).toInt else (vp_nar .boolean (Int32.ofInt a)).toInt
def al_add (a b : Int) : Int := (Int64.ofInt a + Int64.ofInt b).toInt
def al_mul (a b : Int) : Int := (Int64.ofInt a * Int64.ofInt b).toInt
def al_div (a b : Int) : Int := (Int64.ofInt a / Int64.ofInt b).toInt
def al_and (a b : Int) : Int := (Int64.ofInt a &&& Int64.ofInt b).toInt
def al_or (a b : Int) : Int := (Int64.ofInt a ||| Int64.ofInt b).toInt
def al_shl (a b : Int) : Int := (Int64.ofInt a <<< ((Int32.ofInt b).toInt64 &&& 63)).toInt
def al_shr (a b : Int) : Int := (Int64.ofInt a >>> ((Int32.ofInt b).toInt64 &&& 63)).toInt
def al_cmp (a b : Int) : Int := if b < a then 1 else if a = b then 0 else -1
def al_int (a : Int) : Int := ((Int64.ofInt a).toInt32).toInt
/-- locals -/
abbrev Lo : Type := List (Option AV)
def x_lg : Lo → Nat → Option AV
  | [], _ => none
  | v :: _, 0 => v
  | _ :: t, n + 1 => x_lg t n
def x_d2 : Option AV → Option AV
  | some (.inr (.inl _)) => none
  | v => v
def x_s1 : Lo → Nat → AV → Lo
  | [], _, _ => []
  | _ :: t, 0, v => some v :: t
  | x :: t, n + 1, v => (match n with | 0 => x_d2 x | _ + 1 => x) :: x_s1 t n v
def x_s2 : Lo → Nat → AV → Lo
  | [], _, _ => []
  | _ :: t, 0, v => some v :: (match t with | [] => [] | _ :: t => none :: t)
  | x :: t, n + 1, v => (match n with | 0 => x_d2 x | _ + 1 => x) :: x_s2 t n v
def x_pad : Nat → Lo
  | 0 => []
  | n + 1 => none :: x_pad n
/-- the locals at a method's entry -/
def x_el : List AV → Nat → Lo
  | [], n => x_pad n
  | .inr (.inl v) :: as, n + 2 => some (.inr (.inl v)) :: none :: x_el as n
  | .inl v :: as, n + 1 => some (.inl v) :: x_el as n
  | .inr (.inr v) :: as, n + 1 => some (.inr (.inr v)) :: x_el as n
  | _, _ => []
def x_pop : Nat → List AV → List AV → Option (List AV × List AV)
  | 0, acc, st => some (acc, st)
  | _ + 1, _, [] => none
  | n + 1, acc, v :: st => x_pop n (v :: acc) st
/-- the stack's words -/
def x_sw : List AV → Nat
  | [] => 0
  | .inr (.inl _) :: st => x_sw st + 2
  | .inl _ :: st => x_sw st + 1
  | .inr (.inr _) :: st => x_sw st + 1
def x_mk (ty : Nat) (v : Int) : AV := match ty with
  | 1 => xL v
  | 2 => xR v.toNat
  | _ => xI v
abbrev PR : Type := Option AV → Hp → Prop
abbrev PT : Type := Nat → Nat → Lo → List AV → Hp → Nat → Nat → Nat → PR → Prop
abbrev AI : Type := Instr × List Nat
def x_if (c : ClassFile.Cond) (x y : Int) (A B : Prop) : Prop := match c with
  | .eq => if x = y then A else B
  | .ne => if x = y then B else A
  | .lt => if x < y then A else B
  | .ge => if x < y then B else A
  | .gt => if y < x then A else B
  | .le => if y < x then B else A
def x_sx (f : Nat → Prop) (v : Int) (dflt : Prop) : List Nat → Prop
  | k :: t :: ts => if v = (k : Int) then f t else x_sx f v dflt ts
  | _ => dflt
/-- a run of instructions; 'nop' with a place stands for what goes on there -/
def xc (P : PT) (mi : Nat) : List AI → Lo → List AV → Hp → Nat → Nat → Nat → PR → Prop
  | [], _, _, _, _, _, _, _ => False
  | (i, lk) :: is, lo, st, h, d, mc, ms, R => match i with
    | .nop => match lk with
      | [t] => P mi t lo st h d mc ms R
      | _ => False
    | .iconst n => xc P mi is lo (xI n :: st) h d mc ms R
    | .ldc n => match lk with
      | [] => xc P mi is lo (xR 2 :: st) h d mc ms R
      | _ => xc P mi is lo (xI (n : Int) :: st) h d mc ms R
    | .ldc2_w n => match lk with
      | _ :: _ :: _ => xc P mi is lo (xL (-(n : Int)) :: st) h d mc ms R
      | _ => xc P mi is lo (xL (n : Int) :: st) h d mc ms R
    | .iload n => match x_lg lo n with
      | some (.inl v) => xc P mi is lo (.inl v :: st) h d mc ms R
      | _ => False
    | .lload n => match x_lg lo n with
      | some (.inr (.inl v)) => xc P mi is lo (.inr (.inl v) :: st) h d mc ms R
      | _ => False
    | .aload n => match x_lg lo n with
      | some (.inr (.inr v)) => xc P mi is lo (.inr (.inr v) :: st) h d mc ms R
      | _ => False
    | .istore n => match st, Nat.blt n lo.length with
      | .inl v :: st, true => xc P mi is (x_s1 lo n (.inl v)) st h d mc ms R
      | _, _ => False
    | .lstore n => match st, Nat.blt (n + 1) lo.length with
      | .inr (.inl v) :: st, true => xc P mi is (x_s2 lo n (.inr (.inl v))) st h d mc ms R
      | _, _ => False
    | .astore n => match st, Nat.blt n lo.length with
      | .inr (.inr v) :: st, true => xc P mi is (x_s1 lo n (.inr (.inr v))) st h d mc ms R
      | _, _ => False
    | .iinc n k => match x_lg lo n, Nat.blt n lo.length with
      | some (.inl v), true => xc P mi is (x_s1 lo n (.inl (ai_add v k))) st h d mc ms R
      | _, _ => False
    | .iadd => match st with
      | .inl y :: .inl x :: st => xc P mi is lo (xI (ai_add x y) :: st) h d mc ms R
      | _ => False
    | .isub => match st with
      | .inl y :: .inl x :: st => xc P mi is lo (xI (ai_sub x y) :: st) h d mc ms R
      | _ => False
    | .imul => match st with
      | .inl y :: .inl x :: st => xc P mi is lo (xI (ai_mul x y) :: st) h d mc ms R
      | _ => False
    | .idiv => match st with
      | .inl y :: .inl x :: st => ¬ y = 0 ∧ xc P mi is lo (xI (ai_div x y) :: st) h d mc ms R
      | _ => False
    | .irem => match st with
      | .inl y :: .inl x :: st => ¬ y = 0 ∧ xc P mi is lo (xI (ai_rem x y) :: st) h d mc ms R
      | _ => False
    | .iand => match st with
      | .inl y :: .inl x :: st => xc P mi is lo (xI (ai_and x y) :: st) h d mc ms R
      | _ => False
    | .ior => match st with
      | .inl y :: .inl x :: st => xc P mi is lo (xI (ai_or x y) :: st) h d mc ms R
      | _ => False
    | .ixor => match st with
      | .inl y :: .inl x :: st => xc P mi is lo (xI (ai_xor x y) :: st) h d mc ms R
      | _ => False
    | .ishl => match st with
      | .inl y :: .inl x :: st => xc P mi is lo (xI (ai_shl x y) :: st) h d mc ms R
      | _ => False
    | .ishr => match st with
      | .inl y :: .inl x :: st => xc P mi is lo (xI (ai_shr x y) :: st) h d mc ms R
      | _ => False
    | .iushr => match st with
      | .inl y :: .inl x :: st => xc P mi is lo (xI (ai_ushr x y) :: st) h d mc ms R
      | _ => False
    | .ladd => match st with
      | .inr (.inl y) :: .inr (.inl x) :: st => xc P mi is lo (xL (al_add x y) :: st) h d mc ms R
      | _ => False
    | .lmul => match st with
      | .inr (.inl y) :: .inr (.inl x) :: st => xc P mi is lo (xL (al_mul x y) :: st) h d mc ms R
      | _ => False
    | .ldiv => match st with
      | .inr (.inl y) :: .inr (.inl x) :: st => ¬ y = 0 ∧ xc P mi is lo (xL (al_div x y) :: st) h d mc ms R
      | _ => False
    | .land => match st with
      | .inr (.inl y) :: .inr (.inl x) :: st => xc P mi is lo (xL (al_and x y) :: st) h d mc ms R
      | _ => False
    | .lor => match st with
      | .inr (.inl y) :: .inr (.inl x) :: st => xc P mi is lo (xL (al_or x y) :: st) h d mc ms R
      | _ => False
    | .lshl => match st with
      | .inl y :: .inr (.inl x) :: st => xc P mi is lo (xL (al_shl x y) :: st) h d mc ms R
      | _ => False
    | .lshr => match st with
      | .inl y :: .inr (.inl x) :: st => xc P mi is lo (xL (al_shr x y) :: st) h d mc ms R
      | _ => False
    | .lcmp => match st with
      | .inr (.inl y) :: .inr (.inl x) :: st => xc P mi is lo (xI (al_cmp x y) :: st) h d mc ms R
      | _ => False
    | .i2l => match st with
      | .inl x :: st => xc P mi is lo (xL x :: st) h d mc ms R
      | _ => False
    | .l2i => match st with
      | .inr (.inl x) :: st => xc P mi is lo (xI (al_int x) :: st) h d mc ms R
      | _ => False
    | .i2b => match st with
      | .inl x :: st => xc P mi is lo (xI (ai_byte x) :: st) h d mc ms R
      | _ => False
    | .dup => match st with
      | .inl x :: st => xc P mi is lo (.inl x :: .inl x :: st) h d mc ms R
      | .inr (.inr x) :: st => xc P mi is lo (.inr (.inr x) :: .inr (.inr x) :: st) h d mc ms R
      | _ => False
    | .dup2 => match st with
      | .inl x :: .inr (.inr r) :: st => xc P mi is lo (.inl x :: .inr (.inr r) :: .inl x :: .inr (.inr r) :: st) h d mc ms R
      | _ => False
    | .pop => match st with
      | .inl _ :: st => xc P mi is lo st h d mc ms R
      | .inr (.inr _) :: st => xc P mi is lo st h d mc ms R
      | _ => False
    | .goto _ => xc P mi is lo st h d mc ms R
    | .if_icmp c _ => match lk, st with
      | [t], .inl y :: .inl x :: st => x_if c x y (P mi t lo st h d mc ms R) (xc P mi is lo st h d mc ms R)
      | _, _ => False
    | .ifCond c _ => match lk, st with
      | [t], .inl x :: st => x_if c x 0 (P mi t lo st h d mc ms R) (xc P mi is lo st h d mc ms R)
      | _, _ => False
    | .ifnull _ => match lk, st with
      | [t], .inr (.inr r) :: st => if r = 0 then P mi t lo st h d mc ms R else xc P mi is lo st h d mc ms R
      | _, _ => False
    | .ifnonnull _ => match lk, st with
      | [t], .inr (.inr r) :: st => if r = 0 then xc P mi is lo st h d mc ms R else P mi t lo st h d mc ms R
      | _, _ => False
    | .aconst_null => xc P mi is lo (xR 0 :: st) h d mc ms R
    | .tableswitch _ _ _ _ => match lk, st with
      | t :: ts, .inl v :: st => x_sx (fun t => P mi t lo st h d mc ms R) v (P mi t lo st h d mc ms R) ts
      | _, _ => False
    | .getfield _ => match lk, st with
      | K :: k :: ty :: _, .inr (.inr r) :: st => (hpT h r).1 = K ∧ xc P mi is lo (x_mk ty (hpC h r k) :: st) h d mc ms R
      | _, _ => False
    | .putfield _ => match lk, st with
      | K :: k :: 0 :: _, .inl v :: .inr (.inr r) :: st => (hpT h r).1 = K ∧ ∀ h' : Hp, h' = hpU h r k v → xc P mi is lo st h' d mc ms R
      | K :: k :: 1 :: _, .inr (.inl v) :: .inr (.inr r) :: st => (hpT h r).1 = K ∧ ∀ h' : Hp, h' = hpU h r k v → xc P mi is lo st h' d mc ms R
      | K :: k :: 2 :: _, .inr (.inr q) :: .inr (.inr r) :: st => (hpT h r).1 = K ∧ ∀ h' : Hp, h' = hpU h r k (q : Int) → xc P mi is lo st h' d mc ms R
      | K :: k :: 3 :: _, .inl v :: .inr (.inr r) :: st => (hpT h r).1 = K ∧ (v = 0 ∨ v = 1) ∧ ∀ h' : Hp, h' = hpU h r k v → xc P mi is lo st h' d mc ms R
      | _, _ => False
    | .iaload => match lk, st with
      | [K], .inl i :: .inr (.inr r) :: st => ((hpT h r).1 = K ∧ 0 ≤ i ∧ i < ((hpT h r).2 : Int)) ∧ xc P mi is lo (xI (hpC h r i.toNat) :: st) h d mc ms R
      | _, _ => False
    | .laload => match st with
      | .inl i :: .inr (.inr r) :: st => ((hpT h r).1 = 21 ∧ 0 ≤ i ∧ i < ((hpT h r).2 : Int)) ∧ xc P mi is lo (xL (hpC h r i.toNat) :: st) h d mc ms R
      | _ => False
    | .baload => match lk, st with
      | [K], .inl i :: .inr (.inr r) :: st => ((hpT h r).1 = K ∧ 0 ≤ i ∧ i < ((hpT h r).2 : Int)) ∧ xc P mi is lo (xI (hpC h r i.toNat) :: st) h d mc ms R
      | _, _ => False
    | .aaload => match st with
      | .inl i :: .inr (.inr r) :: st => ((hpT h r).1 = 24 ∧ 0 ≤ i ∧ i < ((hpT h r).2 : Int)) ∧ xc P mi is lo (xR (hpC h r i.toNat).toNat :: st) h d mc ms R
      | _ => False
    | .iastore => match st with
      | .inl v :: .inl i :: .inr (.inr r) :: st => ((hpT h r).1 = 20 ∧ 0 ≤ i ∧ i < ((hpT h r).2 : Int)) ∧ ∀ h' : Hp, h' = hpU h r i.toNat v → xc P mi is lo st h' d mc ms R
      | _ => False
    | .lastore => match st with
      | .inr (.inl v) :: .inl i :: .inr (.inr r) :: st => ((hpT h r).1 = 21 ∧ 0 ≤ i ∧ i < ((hpT h r).2 : Int)) ∧ ∀ h' : Hp, h' = hpU h r i.toNat v → xc P mi is lo st h' d mc ms R
      | _ => False
    | .bastore => match lk, st with
      | [K], .inl v :: .inl i :: .inr (.inr r) :: st => ((hpT h r).1 = K ∧ 0 ≤ i ∧ i < ((hpT h r).2 : Int)) ∧ ∀ h' : Hp, h' = hpU h r i.toNat (ai_nar K v) → xc P mi is lo st h' d mc ms R
      | _, _ => False
    | .aastore => match lk, st with
      | [K], .inr (.inr q) :: .inl i :: .inr (.inr r) :: st => ((hpT h r).1 = 24 ∧ 0 ≤ i ∧ i < ((hpT h r).2 : Int)) ∧ (hpT h q).1 = K ∧ ∀ h' : Hp, h' = hpU h r i.toNat (q : Int) → xc P mi is lo st h' d mc ms R
      | _, _ => False
    | .arraylength => match lk, st with
      | [K], .inr (.inr r) :: st => (hpT h r).1 = K ∧ xc P mi is lo (xI ((hpT h r).2 : Int) :: st) h d mc ms R
      | _, _ => False
    | .newarray _ => match lk, st with
      | [K], .inl n :: st => (0 ≤ n ∧ n ≤ 65536 ∧ 1 ≤ mc ∧ n.toNat ≤ ms) ∧ ∀ h' : Hp, h' = hpN h K n.toNat → xc P mi is lo (xR h.1 :: st) h' d (mc - 1) (ms - n.toNat) R
      | _, _ => False
    | .anewarray _ => match st with
      | .inl n :: st => (0 ≤ n ∧ n ≤ 65536 ∧ 1 ≤ mc ∧ n.toNat ≤ ms) ∧ ∀ h' : Hp, h' = hpN h 24 n.toNat → xc P mi is lo (xR h.1 :: st) h' d (mc - 1) (ms - n.toNat) R
      | _ => False
    | .new _ => match lk with
      | K :: N :: _ => (1 ≤ mc ∧ N ≤ ms) ∧ ∀ h' : Hp, h' = hpN h K 0 → xc P mi is lo (xR h.1 :: st) h' d (mc - 1) (ms - N) R
      | _ => False
    | .ireturn => match lk, st with
      | [1], [.inl v] => R (some (.inl v)) h
      | [3], [.inl v] => (v = 0 ∨ v = 1) ∧ R (some (.inl v)) h
      | _, _ => False
    | .lreturn => match st with
      | [.inr (.inl v)] => R (some (.inr (.inl v))) h
      | _ => False
    | .areturn => match st with
      | [.inr (.inr v)] => R (some (.inr (.inr v))) h
      | _ => False
    | .return_ => match st with
      | [] => R none h
      | _ => False
    | .invokedynamic n => match lk, n with
      | _, 0 => match st, Nat.ble (x_sw (st.drop 1)) 8 with
        | .inr (.inr r) :: st, true => (1 ≤ d ∧ ¬ r = 0) ∧ xc P mi is lo st h d mc ms R
        | _, _ => False
      | _, 1 => match st, Nat.ble (x_sw (st.drop 2)) 8 with
        | .inl y :: .inl x :: st, true => 1 ≤ d ∧ xc P mi is lo (xI (if x < y then y else x) :: st) h d mc ms R
        | _, _ => False
      | _, 2 => match st, Nat.ble (x_sw (st.drop 2)) 8 with
        | .inl y :: .inl x :: st, true => 1 ≤ d ∧ xc P mi is lo (xI (if y < x then y else x) :: st) h d mc ms R
        | _, _ => False
      | K :: _, 3 => match st, Nat.ble (x_sw (st.drop 5)) 8 with
        | .inl n :: .inl dp :: .inr (.inr b) :: .inl sp :: .inr (.inr a) :: st, true => (1 ≤ d ∧ (hpT h a).1 = K ∧ (hpT h b).1 = K ∧ 0 ≤ sp ∧ 0 ≤ dp ∧ 0 ≤ n ∧ sp + n ≤ ((hpT h a).2 : Int) ∧ dp + n ≤ ((hpT h b).2 : Int)) ∧ ∀ h' : Hp, h' = hpY h a sp.toNat b dp.toNat n.toNat → xc P mi is lo st h' d mc ms R
        | _, _ => False
      | _, 4 => match st, Nat.ble (x_sw (st.drop 2)) 8 with
        | .inl i :: .inr (.inr r) :: st, true => (6 ≤ d ∧ r = 2 ∧ 0 ≤ i ∧ i < ((hpT h 2).2 : Int)) ∧ xc P mi is lo (xI (hpC h 2 i.toNat) :: st) h d mc ms R
        | _, _ => False
      | _, _ => False
    | .invokestatic _ => match lk with
      | mj :: na :: ml :: mc' :: ms' :: rk :: _ => match x_pop na [] st with
        | some (as, st) => match Nat.ble (x_sw st) 8 && Nat.ble (x_sw as) ml with
          | true => (1 ≤ d ∧ mc' ≤ mc ∧ ms' ≤ ms) ∧ ∃ Q : PR, P mj 0 (x_el as ml) [] h (d - 1) mc' ms' Q ∧ match rk with
            | 0 => ∀ h', Q none h' → xc P mi is lo st h' d (mc - mc') (ms - ms') R
            | 1 => ∀ v h', Q (some (.inl v)) h' → xc P mi is lo (.inl v :: st) h' d (mc - mc') (ms - ms') R
            | 2 => ∀ v h', Q (some (.inr (.inl v))) h' → xc P mi is lo (.inr (.inl v) :: st) h' d (mc - mc') (ms - ms') R
            | _ => ∀ v h', Q (some (.inr (.inr v))) h' → xc P mi is lo (.inr (.inr v) :: st) h' d (mc - mc') (ms - ms') R
          | false => False
        | _ => False
      | _ => False
    | .invokevirtual _ => match lk with
      | mj :: na :: ml :: mc' :: ms' :: rk :: K :: _ => match x_pop na [] st with
        | some (as, .inr (.inr r) :: st) => match Nat.ble (x_sw st) 8 && Nat.ble (x_sw as + 1) ml with
          | true => (1 ≤ d ∧ mc' ≤ mc ∧ ms' ≤ ms ∧ (hpT h r).1 = K) ∧ ∃ Q : PR, P mj 0 (x_el (.inr (.inr r) :: as) ml) [] h (d - 1) mc' ms' Q ∧ match rk with
            | 0 => ∀ h', Q none h' → xc P mi is lo st h' d (mc - mc') (ms - ms') R
            | 1 => ∀ v h', Q (some (.inl v)) h' → xc P mi is lo (.inl v :: st) h' d (mc - mc') (ms - ms') R
            | 2 => ∀ v h', Q (some (.inr (.inl v))) h' → xc P mi is lo (.inr (.inl v) :: st) h' d (mc - mc') (ms - ms') R
            | _ => ∀ v h', Q (some (.inr (.inr v))) h' → xc P mi is lo (.inr (.inr v) :: st) h' d (mc - mc') (ms - ms') R
          | false => False
        | _ => False
      | _ => False
    | _ => False

/-! ===== blocks, by program (wip/whole/genblk.py) ===== -/
def k_M_heard_0 : List AI := [(.aload 0, []), (.invokevirtual 0, [230, 0, 2, 0, 0, 1, 12, 1576, 1578, 89, 136]), (.ifCond .ne 0, [9]), (.iconst (-1), []), (.ireturn, [1])]
set_option maxRecDepth 20000 in
theorem ok_M_heard_0 : okB m_M_heard 0 k_M_heard_0 = true := by decide +kernel
set_option maxRecDepth 20000 in
theorem b_M_heard_0 (r0 : Nat) {h : Hp} {d mc ms : Nat} {R : PR} (H : ((1 ≤ d ∧ 0 ≤ mc ∧ 0 ≤ ms ∧ (hpT h r0).1 = 12) ∧ ∃ Q1 : PR, Wp m_M_hears 0 [some (xR r0), none] [] h (d - 1) 0 0 Q1 ∧ ∀ (v1 : Int) (h1 : Hp), Q1 (some (xI v1)) h1 → (if v1 = (0 : Int) then R (some (xI (-1 : Int))) h1 else Wp m_M_heard 9 [some (xR r0)] [] h1 d mc ms R))) : Wp m_M_heard 0 [some (xR r0)] [] h d mc ms R := Wp_blk ok_M_heard_0 H
def k_M_heard_9 : List AI := [(.aload 0, []), (.aload 0, []), (.aload 0, []), (.getfield 0, [12, 21, 2, 1246]), (.invokevirtual 0, [219, 1, 7, 0, 0, 1, 12, 1534, 1536, 84, 136]), (.putfield 0, [12, 22, 0, 1247]), (.aload 0, []), (.getfield 0, [12, 22, 0, 1247]), (.ireturn, [1])]
set_option maxRecDepth 20000 in
theorem ok_M_heard_9 : okB m_M_heard 9 k_M_heard_9 = true := by decide +kernel
set_option maxRecDepth 20000 in
theorem b_M_heard_9 (r0 : Nat) {h : Hp} {d mc ms : Nat} {R : PR} (H : ((hpT h r0).1 = 12 ∧ ((1 ≤ d ∧ 0 ≤ mc ∧ 0 ≤ ms ∧ (hpT h r0).1 = 12) ∧ ∃ Q1 : PR, Wp m_M_sounds 0 [some (xR r0), some (xR (Int.toNat (hpC h r0 21))), none, none, none, none, none] [] h (d - 1) 0 0 Q1 ∧ ∀ (v1 : Int) (h1 : Hp), Q1 (some (xI v1)) h1 → ((hpT h1 r0).1 = 12 ∧ ∀ g1 : Hp, g1 = hpU h1 r0 22 v1 → ((hpT g1 r0).1 = 12 ∧ R (some (xI (hpC g1 r0 22))) g1))))) : Wp m_M_heard 9 [some (xR r0)] [] h d mc ms R := Wp_blk ok_M_heard_9 H
def k_M_hears_0 : List AI := [(.aload 0, []), (.aload 0, []), (.invokevirtual 0, [173, 0, 2, 0, 0, 1, 12, 1353, 1355, 45, 136]), (.putfield 0, [12, 8, 0, 1233]), (.aload 0, []), (.getfield 0, [12, 8, 0, 1233]), (.iconst 1, []), (.iconst 10, []), (.invokestatic 0, [187, 3, 3, 0, 0, 1, 1409, 1410, 136]), (.ifCond .ne 0, [23]), (.iconst 0, []), (.ireturn, [3])]
set_option maxRecDepth 20000 in
theorem ok_M_hears_0 : okB m_M_hears 0 k_M_hears_0 = true := by decide +kernel
set_option maxRecDepth 20000 in
theorem b_M_hears_0 (r0 : Nat) (o1 : Option AV) {h : Hp} {d mc ms : Nat} {R : PR} (H : ((1 ≤ d ∧ 0 ≤ mc ∧ 0 ≤ ms ∧ (hpT h r0).1 = 12) ∧ ∃ Q1 : PR, Wp m_M_taken 0 [some (xR r0), none] [] h (d - 1) 0 0 Q1 ∧ ∀ (v1 : Int) (h1 : Hp), Q1 (some (xI v1)) h1 → ((hpT h1 r0).1 = 12 ∧ ∀ g1 : Hp, g1 = hpU h1 r0 8 v1 → ((hpT g1 r0).1 = 12 ∧ ((1 ≤ d ∧ 0 ≤ mc ∧ 0 ≤ ms) ∧ ∃ Q2 : PR, Wp m_M_isIn 0 [some (xI (hpC g1 r0 8)), some (xI (1 : Int)), some (xI (10 : Int))] [] g1 (d - 1) 0 0 Q2 ∧ ∀ (v2 : Int) (h2 : Hp), Q2 (some (xI v2)) h2 → (if v2 = (0 : Int) then (((0 : Int) = 0 ∨ (0 : Int) = 1) ∧ R (some (xI (0 : Int))) h2) else Wp m_M_hears 23 [some (xR r0), o1] [] h2 d mc ms R)))))) : Wp m_M_hears 0 [some (xR r0), o1] [] h d mc ms R := Wp_blk ok_M_hears_0 H
def k_M_hears_23 : List AI := [(.iconst 0, []), (.istore 1, []), (.nop, [25])]
set_option maxRecDepth 20000 in
theorem ok_M_hears_23 : okB m_M_hears 23 k_M_hears_23 = true := by decide +kernel
set_option maxRecDepth 20000 in
theorem b_M_hears_23 (r0 : Nat) (o1 : Option AV) {h : Hp} {d mc ms : Nat} {R : PR} (H : Wp m_M_hears 25 [some (xR r0), some (xI (0 : Int))] [] h d mc ms R) : Wp m_M_hears 23 [some (xR r0), o1] [] h d mc ms R := Wp_blk ok_M_hears_23 H
def k_M_hears_25 : List AI := [(.iload 1, []), (.aload 0, []), (.getfield 0, [12, 8, 0, 1233]), (.if_icmp .ge 0, [49]), (.aload 0, []), (.iload 1, []), (.invokevirtual 0, [180, 1, 2, 0, 0, 1, 12, 1381, 1383, 52, 136]), (.ifCond .ne 0, [43]), (.iconst 0, []), (.ireturn, [3])]
set_option maxRecDepth 20000 in
theorem ok_M_hears_25 : okB m_M_hears 25 k_M_hears_25 = true := by decide +kernel
set_option maxRecDepth 20000 in
theorem b_M_hears_25 (r0 : Nat) (i1 : Int) {h : Hp} {d mc ms : Nat} {R : PR} (H : ((hpT h r0).1 = 12 ∧ (if i1 < (hpC h r0 8) then ((1 ≤ d ∧ 0 ≤ mc ∧ 0 ≤ ms ∧ (hpT h r0).1 = 12) ∧ ∃ Q1 : PR, Wp m_M_isSmall 0 [some (xR r0), some (xI i1)] [] h (d - 1) 0 0 Q1 ∧ ∀ (v1 : Int) (h1 : Hp), Q1 (some (xI v1)) h1 → (if v1 = (0 : Int) then (((0 : Int) = 0 ∨ (0 : Int) = 1) ∧ R (some (xI (0 : Int))) h1) else Wp m_M_hears 43 [some (xR r0), some (xI i1)] [] h1 d mc ms R)) else Wp m_M_hears 49 [some (xR r0), some (xI i1)] [] h d mc ms R))) : Wp m_M_hears 25 [some (xR r0), some (xI i1)] [] h d mc ms R := Wp_blk ok_M_hears_25 H
def k_M_hears_43 : List AI := [(.iinc 1 1, []), (.goto 0, []), (.nop, [25])]
set_option maxRecDepth 20000 in
theorem ok_M_hears_43 : okB m_M_hears 43 k_M_hears_43 = true := by decide +kernel
set_option maxRecDepth 20000 in
theorem b_M_hears_43 (r0 : Nat) (i1 : Int) {h : Hp} {d mc ms : Nat} {R : PR} (H : Wp m_M_hears 25 [some (xR r0), some (xI (ai_add i1 1))] [] h d mc ms R) : Wp m_M_hears 43 [some (xR r0), some (xI i1)] [] h d mc ms R := Wp_blk ok_M_hears_43 H
def k_M_hears_49 : List AI := [(.aload 0, []), (.iconst 0, []), (.aload 0, []), (.getfield 0, [12, 8, 0, 1233]), (.invokevirtual 0, [183, 2, 6, 0, 0, 1, 12, 1393, 1395, 55, 136]), (.iconst (-1), []), (.if_icmp .eq 0, [64]), (.iconst 0, []), (.ireturn, [3])]
set_option maxRecDepth 20000 in
theorem ok_M_hears_49 : okB m_M_hears 49 k_M_hears_49 = true := by decide +kernel
set_option maxRecDepth 20000 in
theorem b_M_hears_49 (r0 : Nat) (o1 : Option AV) {h : Hp} {d mc ms : Nat} {R : PR} (H : ((hpT h r0).1 = 12 ∧ ((1 ≤ d ∧ 0 ≤ mc ∧ 0 ≤ ms ∧ (hpT h r0).1 = 12) ∧ ∃ Q1 : PR, Wp m_M_ownBetween 0 [some (xR r0), some (xI (0 : Int)), some (xI (hpC h r0 8)), none, none, none] [] h (d - 1) 0 0 Q1 ∧ ∀ (v1 : Int) (h1 : Hp), Q1 (some (xI v1)) h1 → (if v1 = (-1 : Int) then Wp m_M_hears 64 [some (xR r0), o1] [] h1 d mc ms R else (((0 : Int) = 0 ∨ (0 : Int) = 1) ∧ R (some (xI (0 : Int))) h1))))) : Wp m_M_hears 49 [some (xR r0), o1] [] h d mc ms R := Wp_blk ok_M_hears_49 H
def k_M_hears_64 : List AI := [(.aload 0, []), (.aload 0, []), (.getfield 0, [12, 8, 0, 1233]), (.putfield 0, [12, 17, 0, 1242]), (.iconst 0, []), (.istore 1, []), (.nop, [74])]
set_option maxRecDepth 20000 in
theorem ok_M_hears_64 : okB m_M_hears 64 k_M_hears_64 = true := by decide +kernel
set_option maxRecDepth 20000 in
theorem b_M_hears_64 (r0 : Nat) (o1 : Option AV) {h : Hp} {d mc ms : Nat} {R : PR} (H : ((hpT h r0).1 = 12 ∧ ((hpT h r0).1 = 12 ∧ ∀ g1 : Hp, g1 = hpU h r0 17 (hpC h r0 8) → Wp m_M_hears 74 [some (xR r0), some (xI (0 : Int))] [] g1 d mc ms R))) : Wp m_M_hears 64 [some (xR r0), o1] [] h d mc ms R := Wp_blk ok_M_hears_64 H
def k_M_hears_74 : List AI := [(.iload 1, []), (.aload 0, []), (.getfield 0, [12, 8, 0, 1233]), (.if_icmp .ge 0, [103]), (.aload 0, []), (.getfield 0, [12, 16, 2, 1241]), (.iload 1, []), (.aload 0, []), (.getfield 0, [12, 4, 2, 1229]), (.iload 1, []), (.iaload, [20]), (.iconst 96, []), (.isub, []), (.iastore, []), (.iinc 1 1, []), (.goto 0, []), (.nop, [74])]
set_option maxRecDepth 20000 in
theorem ok_M_hears_74 : okB m_M_hears 74 k_M_hears_74 = true := by decide +kernel
set_option maxRecDepth 20000 in
theorem b_M_hears_74 (r0 : Nat) (i1 : Int) {h : Hp} {d mc ms : Nat} {R : PR} (H : ((hpT h r0).1 = 12 ∧ (if i1 < (hpC h r0 8) then ((hpT h r0).1 = 12 ∧ ((hpT h r0).1 = 12 ∧ (((hpT h (Int.toNat (hpC h r0 4))).1 = 20 ∧ 0 ≤ i1 ∧ i1 < ((hpT h (Int.toNat (hpC h r0 4))).2 : Int)) ∧ (((hpT h (Int.toNat (hpC h r0 16))).1 = 20 ∧ 0 ≤ i1 ∧ i1 < ((hpT h (Int.toNat (hpC h r0 16))).2 : Int)) ∧ ∀ g1 : Hp, g1 = hpU h (Int.toNat (hpC h r0 16)) (Int.toNat i1) (ai_sub (hpC h (Int.toNat (hpC h r0 4)) (Int.toNat i1)) (96 : Int)) → Wp m_M_hears 74 [some (xR r0), some (xI (ai_add i1 1))] [] g1 d mc ms R)))) else Wp m_M_hears 103 [some (xR r0), some (xI i1)] [] h d mc ms R))) : Wp m_M_hears 74 [some (xR r0), some (xI i1)] [] h d mc ms R := Wp_blk ok_M_hears_74 H
def k_M_hears_103 : List AI := [(.iconst 1, []), (.ireturn, [3])]
set_option maxRecDepth 20000 in
theorem ok_M_hears_103 : okB m_M_hears 103 k_M_hears_103 = true := by decide +kernel
set_option maxRecDepth 20000 in
theorem b_M_hears_103 (o0 : Option AV) (o1 : Option AV) {h : Hp} {d mc ms : Nat} {R : PR} (H : (((1 : Int) = 0 ∨ (1 : Int) = 1) ∧ R (some (xI (1 : Int))) h)) : Wp m_M_hears 103 [o0, o1] [] h d mc ms R := Wp_blk ok_M_hears_103 H
def k_M_heardAt_0 : List AI := [(.iload 1, []), (.iconst 0, []), (.aload 0, []), (.getfield 0, [12, 22, 0, 1247]), (.iconst 1, []), (.isub, []), (.invokestatic 0, [187, 3, 3, 0, 0, 1, 1409, 1410, 136]), (.ifCond .eq 0, [23]), (.aload 0, []), (.getfield 0, [12, 21, 2, 1246]), (.iload 1, []), (.iaload, [20]), (.goto 0, []), (.nop, [24])]
set_option maxRecDepth 20000 in
theorem ok_M_heardAt_0 : okB m_M_heardAt 0 k_M_heardAt_0 = true := by decide +kernel
set_option maxRecDepth 20000 in
theorem b_M_heardAt_0 (r0 : Nat) (i1 : Int) {h : Hp} {d mc ms : Nat} {R : PR} (H : ((hpT h r0).1 = 12 ∧ ((1 ≤ d ∧ 0 ≤ mc ∧ 0 ≤ ms) ∧ ∃ Q1 : PR, Wp m_M_isIn 0 [some (xI i1), some (xI (0 : Int)), some (xI (ai_sub (hpC h r0 22) (1 : Int)))] [] h (d - 1) 0 0 Q1 ∧ ∀ (v1 : Int) (h1 : Hp), Q1 (some (xI v1)) h1 → (if v1 = (0 : Int) then Wp m_M_heardAt 23 [some (xR r0), some (xI i1)] [] h1 d mc ms R else ((hpT h1 r0).1 = 12 ∧ (((hpT h1 (Int.toNat (hpC h1 r0 21))).1 = 20 ∧ 0 ≤ i1 ∧ i1 < ((hpT h1 (Int.toNat (hpC h1 r0 21))).2 : Int)) ∧ Wp m_M_heardAt 24 [some (xR r0), some (xI i1)] [xI (hpC h1 (Int.toNat (hpC h1 r0 21)) (Int.toNat i1))] h1 d mc ms R)))))) : Wp m_M_heardAt 0 [some (xR r0), some (xI i1)] [] h d mc ms R := Wp_blk ok_M_heardAt_0 H
def k_M_heardAt_23 : List AI := [(.iconst (-1), []), (.nop, [24])]
set_option maxRecDepth 20000 in
theorem ok_M_heardAt_23 : okB m_M_heardAt 23 k_M_heardAt_23 = true := by decide +kernel
set_option maxRecDepth 20000 in
theorem b_M_heardAt_23 (o0 : Option AV) (o1 : Option AV) {h : Hp} {d mc ms : Nat} {R : PR} (H : Wp m_M_heardAt 24 [o0, o1] [xI (-1 : Int)] h d mc ms R) : Wp m_M_heardAt 23 [o0, o1] [] h d mc ms R := Wp_blk ok_M_heardAt_23 H
def k_M_heardAt_24 : List AI := [(.ireturn, [1])]
set_option maxRecDepth 20000 in
theorem ok_M_heardAt_24 : okB m_M_heardAt 24 k_M_heardAt_24 = true := by decide +kernel
set_option maxRecDepth 20000 in
theorem b_M_heardAt_24 (o0 : Option AV) (o1 : Option AV) (p0 : Int) {h : Hp} {d mc ms : Nat} {R : PR} (H : R (some (xI p0)) h) : Wp m_M_heardAt 24 [o0, o1] [xI p0] h d mc ms R := Wp_blk ok_M_heardAt_24 H
def k_M_find_0 : List AI := [(.aload 0, []), (.invokevirtual 0, [230, 0, 2, 0, 0, 1, 12, 1576, 1578, 89, 136]), (.ifCond .ne 0, [9]), (.iconst (-1), []), (.ireturn, [1])]
set_option maxRecDepth 20000 in
theorem ok_M_find_0 : okB m_M_find 0 k_M_find_0 = true := by decide +kernel
set_option maxRecDepth 20000 in
theorem b_M_find_0 (r0 : Nat) (o1 : Option AV) (o2 : Option AV) (o3 : Option AV) (o4 : Option AV) {h : Hp} {d mc ms : Nat} {R : PR} (H : ((1 ≤ d ∧ 0 ≤ mc ∧ 0 ≤ ms ∧ (hpT h r0).1 = 12) ∧ ∃ Q1 : PR, Wp m_M_hears 0 [some (xR r0), none] [] h (d - 1) 0 0 Q1 ∧ ∀ (v1 : Int) (h1 : Hp), Q1 (some (xI v1)) h1 → (if v1 = (0 : Int) then R (some (xI (-1 : Int))) h1 else Wp m_M_find 9 [some (xR r0), o1, o2, o3, o4] [] h1 d mc ms R))) : Wp m_M_find 0 [some (xR r0), o1, o2, o3, o4] [] h d mc ms R := Wp_blk ok_M_find_0 H
def k_M_find_9 : List AI := [(.iconst 0, []), (.istore 1, []), (.nop, [11])]
set_option maxRecDepth 20000 in
theorem ok_M_find_9 : okB m_M_find 9 k_M_find_9 = true := by decide +kernel
set_option maxRecDepth 20000 in
theorem b_M_find_9 (r0 : Nat) (o1 : Option AV) (o2 : Option AV) (o3 : Option AV) (o4 : Option AV) {h : Hp} {d mc ms : Nat} {R : PR} (H : Wp m_M_find 11 [some (xR r0), some (xI (0 : Int)), o2, o3, o4] [] h d mc ms R) : Wp m_M_find 9 [some (xR r0), o1, o2, o3, o4] [] h d mc ms R := Wp_blk ok_M_find_9 H
def k_M_find_11 : List AI := [(.iload 1, []), (.aload 0, []), (.getfield 0, [12, 0, 2, 1225]), (.iconst 7, []), (.iaload, [20]), (.if_icmp .ge 0, [48]), (.aload 0, []), (.iconst 180, []), (.iconst 10, []), (.iload 1, []), (.imul, []), (.iadd, []), (.invokevirtual 0, [233, 1, 3, 0, 0, 1, 12, 1588, 1590, 90, 136]), (.ifCond .eq 0, [42]), (.iconst 100, []), (.iload 1, []), (.iadd, []), (.ireturn, [1])]
set_option maxRecDepth 20000 in
theorem ok_M_find_11 : okB m_M_find 11 k_M_find_11 = true := by decide +kernel
set_option maxRecDepth 20000 in
theorem b_M_find_11 (r0 : Nat) (i1 : Int) (o2 : Option AV) (o3 : Option AV) (o4 : Option AV) {h : Hp} {d mc ms : Nat} {R : PR} (H : ((hpT h r0).1 = 12 ∧ (((hpT h (Int.toNat (hpC h r0 0))).1 = 20 ∧ 0 ≤ (7 : Int) ∧ (7 : Int) < ((hpT h (Int.toNat (hpC h r0 0))).2 : Int)) ∧ (if i1 < (hpC h (Int.toNat (hpC h r0 0)) (Int.toNat (7 : Int))) then ((1 ≤ d ∧ 0 ≤ mc ∧ 0 ≤ ms ∧ (hpT h r0).1 = 12) ∧ ∃ Q1 : PR, Wp m_M_isWord 0 [some (xR r0), some (xI (ai_add (180 : Int) (ai_mul (10 : Int) i1))), none] [] h (d - 1) 0 0 Q1 ∧ ∀ (v1 : Int) (h1 : Hp), Q1 (some (xI v1)) h1 → (if v1 = (0 : Int) then Wp m_M_find 42 [some (xR r0), some (xI i1), o2, o3, o4] [] h1 d mc ms R else R (some (xI (ai_add (100 : Int) i1))) h1)) else Wp m_M_find 48 [some (xR r0), some (xI i1), o2, o3, o4] [] h d mc ms R)))) : Wp m_M_find 11 [some (xR r0), some (xI i1), o2, o3, o4] [] h d mc ms R := Wp_blk ok_M_find_11 H
def k_M_find_42 : List AI := [(.iinc 1 1, []), (.goto 0, []), (.nop, [11])]
set_option maxRecDepth 20000 in
theorem ok_M_find_42 : okB m_M_find 42 k_M_find_42 = true := by decide +kernel
set_option maxRecDepth 20000 in
theorem b_M_find_42 (r0 : Nat) (i1 : Int) (o2 : Option AV) (o3 : Option AV) (o4 : Option AV) {h : Hp} {d mc ms : Nat} {R : PR} (H : Wp m_M_find 11 [some (xR r0), some (xI (ai_add i1 1)), o2, o3, o4] [] h d mc ms R) : Wp m_M_find 42 [some (xR r0), some (xI i1), o2, o3, o4] [] h d mc ms R := Wp_blk ok_M_find_42 H
def k_M_find_48 : List AI := [(.iconst 0, []), (.istore 1, []), (.nop, [50])]
set_option maxRecDepth 20000 in
theorem ok_M_find_48 : okB m_M_find 48 k_M_find_48 = true := by decide +kernel
set_option maxRecDepth 20000 in
theorem b_M_find_48 (r0 : Nat) (o1 : Option AV) (o2 : Option AV) (o3 : Option AV) (o4 : Option AV) {h : Hp} {d mc ms : Nat} {R : PR} (H : Wp m_M_find 50 [some (xR r0), some (xI (0 : Int)), o2, o3, o4] [] h d mc ms R) : Wp m_M_find 48 [some (xR r0), o1, o2, o3, o4] [] h d mc ms R := Wp_blk ok_M_find_48 H
def k_M_find_50 : List AI := [(.iload 1, []), (.aload 0, []), (.getfield 0, [12, 0, 2, 1225]), (.iconst 8, []), (.iaload, [20]), (.if_icmp .ge 0, [105]), (.aload 0, []), (.iload 1, []), (.invokevirtual 0, [228, 1, 2, 0, 0, 1, 12, 1568, 1570, 88, 136]), (.ifCond .eq 0, [99]), (.aload 0, []), (.iconst 650, []), (.iconst 10, []), (.iload 1, []), (.imul, []), (.iadd, []), (.invokevirtual 0, [233, 1, 3, 0, 0, 1, 12, 1588, 1590, 90, 136]), (.ifCond .eq 0, [99]), (.iconst 200, []), (.aload 0, []), (.getfield 0, [12, 0, 2, 1225]), (.iconst 950, []), (.iload 1, []), (.iadd, []), (.iaload, [20]), (.iadd, []), (.ireturn, [1])]
set_option maxRecDepth 20000 in
theorem ok_M_find_50 : okB m_M_find 50 k_M_find_50 = true := by decide +kernel
set_option maxRecDepth 20000 in
theorem b_M_find_50 (r0 : Nat) (i1 : Int) (o2 : Option AV) (o3 : Option AV) (o4 : Option AV) {h : Hp} {d mc ms : Nat} {R : PR} (H : ((hpT h r0).1 = 12 ∧ (((hpT h (Int.toNat (hpC h r0 0))).1 = 20 ∧ 0 ≤ (8 : Int) ∧ (8 : Int) < ((hpT h (Int.toNat (hpC h r0 0))).2 : Int)) ∧ (if i1 < (hpC h (Int.toNat (hpC h r0 0)) (Int.toNat (8 : Int))) then ((1 ≤ d ∧ 0 ≤ mc ∧ 0 ≤ ms ∧ (hpT h r0).1 = 12) ∧ ∃ Q1 : PR, Wp m_M_isLive 0 [some (xR r0), some (xI i1)] [] h (d - 1) 0 0 Q1 ∧ ∀ (v1 : Int) (h1 : Hp), Q1 (some (xI v1)) h1 → (if v1 = (0 : Int) then Wp m_M_find 99 [some (xR r0), some (xI i1), o2, o3, o4] [] h1 d mc ms R else ((1 ≤ d ∧ 0 ≤ mc ∧ 0 ≤ ms ∧ (hpT h1 r0).1 = 12) ∧ ∃ Q2 : PR, Wp m_M_isWord 0 [some (xR r0), some (xI (ai_add (650 : Int) (ai_mul (10 : Int) i1))), none] [] h1 (d - 1) 0 0 Q2 ∧ ∀ (v2 : Int) (h2 : Hp), Q2 (some (xI v2)) h2 → (if v2 = (0 : Int) then Wp m_M_find 99 [some (xR r0), some (xI i1), o2, o3, o4] [] h2 d mc ms R else ((hpT h2 r0).1 = 12 ∧ (((hpT h2 (Int.toNat (hpC h2 r0 0))).1 = 20 ∧ 0 ≤ (ai_add (950 : Int) i1) ∧ (ai_add (950 : Int) i1) < ((hpT h2 (Int.toNat (hpC h2 r0 0))).2 : Int)) ∧ R (some (xI (ai_add (200 : Int) (hpC h2 (Int.toNat (hpC h2 r0 0)) (Int.toNat (ai_add (950 : Int) i1)))))) h2)))))) else Wp m_M_find 105 [some (xR r0), some (xI i1), o2, o3, o4] [] h d mc ms R)))) : Wp m_M_find 50 [some (xR r0), some (xI i1), o2, o3, o4] [] h d mc ms R := Wp_blk ok_M_find_50 H
def k_M_find_99 : List AI := [(.iinc 1 1, []), (.goto 0, []), (.nop, [50])]
set_option maxRecDepth 20000 in
theorem ok_M_find_99 : okB m_M_find 99 k_M_find_99 = true := by decide +kernel
set_option maxRecDepth 20000 in
theorem b_M_find_99 (r0 : Nat) (i1 : Int) (o2 : Option AV) (o3 : Option AV) (o4 : Option AV) {h : Hp} {d mc ms : Nat} {R : PR} (H : Wp m_M_find 50 [some (xR r0), some (xI (ai_add i1 1)), o2, o3, o4] [] h d mc ms R) : Wp m_M_find 99 [some (xR r0), some (xI i1), o2, o3, o4] [] h d mc ms R := Wp_blk ok_M_find_99 H
def k_M_find_105 : List AI := [(.iconst (-1), []), (.istore 1, []), (.aload 0, []), (.getfield 0, [12, 0, 2, 1225]), (.iconst 0, []), (.iaload, [20]), (.iconst 1, []), (.iadd, []), (.istore 2, []), (.iconst 0, []), (.istore 3, []), (.nop, [118])]
set_option maxRecDepth 20000 in
theorem ok_M_find_105 : okB m_M_find 105 k_M_find_105 = true := by decide +kernel
set_option maxRecDepth 20000 in
theorem b_M_find_105 (r0 : Nat) (o1 : Option AV) (o2 : Option AV) (o3 : Option AV) (o4 : Option AV) {h : Hp} {d mc ms : Nat} {R : PR} (H : ((hpT h r0).1 = 12 ∧ (((hpT h (Int.toNat (hpC h r0 0))).1 = 20 ∧ 0 ≤ (0 : Int) ∧ (0 : Int) < ((hpT h (Int.toNat (hpC h r0 0))).2 : Int)) ∧ Wp m_M_find 118 [some (xR r0), some (xI (-1 : Int)), some (xI (ai_add (hpC h (Int.toNat (hpC h r0 0)) (Int.toNat (0 : Int))) (1 : Int))), some (xI (0 : Int)), o4] [] h d mc ms R))) : Wp m_M_find 105 [some (xR r0), o1, o2, o3, o4] [] h d mc ms R := Wp_blk ok_M_find_105 H
def k_M_find_118 : List AI := [(.iload 3, []), (.aload 0, []), (.getfield 0, [12, 0, 2, 1225]), (.iconst 7, []), (.iaload, [20]), (.if_icmp .ge 0, [163]), (.aload 0, []), (.iconst 180, []), (.iconst 10, []), (.iload 3, []), (.imul, []), (.iadd, []), (.invokevirtual 0, [222, 1, 9, 0, 0, 1, 12, 1546, 1548, 86, 136]), (.istore 4, []), (.iload 4, []), (.iload 2, []), (.if_icmp .lt 0, [152]), (.goto 0, []), (.nop, [157])]
set_option maxRecDepth 20000 in
theorem ok_M_find_118 : okB m_M_find 118 k_M_find_118 = true := by decide +kernel
set_option maxRecDepth 20000 in
theorem b_M_find_118 (r0 : Nat) (i1 : Int) (i2 : Int) (i3 : Int) (o4 : Option AV) {h : Hp} {d mc ms : Nat} {R : PR} (H : ((hpT h r0).1 = 12 ∧ (((hpT h (Int.toNat (hpC h r0 0))).1 = 20 ∧ 0 ≤ (7 : Int) ∧ (7 : Int) < ((hpT h (Int.toNat (hpC h r0 0))).2 : Int)) ∧ (if i3 < (hpC h (Int.toNat (hpC h r0 0)) (Int.toNat (7 : Int))) then ((1 ≤ d ∧ 0 ≤ mc ∧ 0 ≤ ms ∧ (hpT h r0).1 = 12) ∧ ∃ Q1 : PR, Wp m_M_changesTo 0 [some (xR r0), some (xI (ai_add (180 : Int) (ai_mul (10 : Int) i3))), none, none, none, none, none, none, none] [] h (d - 1) 0 0 Q1 ∧ ∀ (v1 : Int) (h1 : Hp), Q1 (some (xI v1)) h1 → (if v1 < i2 then Wp m_M_find 152 [some (xR r0), some (xI i1), some (xI i2), some (xI i3), some (xI v1)] [] h1 d mc ms R else Wp m_M_find 157 [some (xR r0), some (xI i1), some (xI i2), some (xI i3), some (xI v1)] [] h1 d mc ms R)) else Wp m_M_find 163 [some (xR r0), some (xI i1), some (xI i2), some (xI i3), o4] [] h d mc ms R)))) : Wp m_M_find 118 [some (xR r0), some (xI i1), some (xI i2), some (xI i3), o4] [] h d mc ms R := Wp_blk ok_M_find_118 H
def k_M_find_152 : List AI := [(.iload 4, []), (.istore 2, []), (.iload 3, []), (.istore 1, []), (.nop, [157])]
set_option maxRecDepth 20000 in
theorem ok_M_find_152 : okB m_M_find 152 k_M_find_152 = true := by decide +kernel
set_option maxRecDepth 20000 in
theorem b_M_find_152 (r0 : Nat) (o1 : Option AV) (o2 : Option AV) (i3 : Int) (i4 : Int) {h : Hp} {d mc ms : Nat} {R : PR} (H : Wp m_M_find 157 [some (xR r0), some (xI i3), some (xI i4), some (xI i3), some (xI i4)] [] h d mc ms R) : Wp m_M_find 152 [some (xR r0), o1, o2, some (xI i3), some (xI i4)] [] h d mc ms R := Wp_blk ok_M_find_152 H
def k_M_find_157 : List AI := [(.iinc 3 1, []), (.goto 0, []), (.nop, [118])]
set_option maxRecDepth 20000 in
theorem ok_M_find_157 : okB m_M_find 157 k_M_find_157 = true := by decide +kernel
set_option maxRecDepth 20000 in
theorem b_M_find_157 (r0 : Nat) (i1 : Int) (i2 : Int) (i3 : Int) (o4 : Option AV) {h : Hp} {d mc ms : Nat} {R : PR} (H : Wp m_M_find 118 [some (xR r0), some (xI i1), some (xI i2), some (xI (ai_add i3 1)), o4] [] h d mc ms R) : Wp m_M_find 157 [some (xR r0), some (xI i1), some (xI i2), some (xI i3), o4] [] h d mc ms R := Wp_blk ok_M_find_157 H
def k_M_find_163 : List AI := [(.aload 0, []), (.aload 0, []), (.getfield 0, [12, 18, 2, 1243]), (.invokevirtual 0, [219, 1, 7, 0, 0, 1, 12, 1534, 1536, 84, 136]), (.pop, []), (.iconst 0, []), (.istore 3, []), (.nop, [174])]
set_option maxRecDepth 20000 in
theorem ok_M_find_163 : okB m_M_find 163 k_M_find_163 = true := by decide +kernel
set_option maxRecDepth 20000 in
theorem b_M_find_163 (r0 : Nat) (i1 : Int) (o2 : Option AV) (o3 : Option AV) (o4 : Option AV) {h : Hp} {d mc ms : Nat} {R : PR} (H : ((hpT h r0).1 = 12 ∧ ((1 ≤ d ∧ 0 ≤ mc ∧ 0 ≤ ms ∧ (hpT h r0).1 = 12) ∧ ∃ Q1 : PR, Wp m_M_sounds 0 [some (xR r0), some (xR (Int.toNat (hpC h r0 18))), none, none, none, none, none] [] h (d - 1) 0 0 Q1 ∧ ∀ (v1 : Int) (h1 : Hp), Q1 (some (xI v1)) h1 → Wp m_M_find 174 [some (xR r0), some (xI i1), x_d2 o2, some (xI (0 : Int)), o4] [] h1 d mc ms R))) : Wp m_M_find 163 [some (xR r0), some (xI i1), o2, o3, o4] [] h d mc ms R := Wp_blk ok_M_find_163 H
def k_M_find_174 : List AI := [(.iload 3, []), (.aload 0, []), (.getfield 0, [12, 0, 2, 1225]), (.iconst 7, []), (.iaload, [20]), (.if_icmp .ge 0, [228]), (.aload 0, []), (.iconst 180, []), (.iconst 10, []), (.iload 3, []), (.imul, []), (.iadd, []), (.aload 0, []), (.getfield 0, [12, 19, 2, 1244]), (.invokevirtual 0, [217, 2, 3, 0, 0, 1, 12, 1526, 1528, 82, 136]), (.pop, []), (.aload 0, []), (.getfield 0, [12, 18, 2, 1243]), (.aload 0, []), (.getfield 0, [12, 19, 2, 1244]), (.invokestatic 0, [226, 2, 3, 0, 0, 1, 1561, 1562, 136]), (.ifCond .eq 0, [222]), (.iconst 300, []), (.iload 3, []), (.iadd, []), (.ireturn, [1])]
set_option maxRecDepth 20000 in
theorem ok_M_find_174 : okB m_M_find 174 k_M_find_174 = true := by decide +kernel
set_option maxRecDepth 20000 in
theorem b_M_find_174 (r0 : Nat) (i1 : Int) (o2 : Option AV) (i3 : Int) (o4 : Option AV) {h : Hp} {d mc ms : Nat} {R : PR} (H : ((hpT h r0).1 = 12 ∧ (((hpT h (Int.toNat (hpC h r0 0))).1 = 20 ∧ 0 ≤ (7 : Int) ∧ (7 : Int) < ((hpT h (Int.toNat (hpC h r0 0))).2 : Int)) ∧ (if i3 < (hpC h (Int.toNat (hpC h r0 0)) (Int.toNat (7 : Int))) then ((hpT h r0).1 = 12 ∧ ((1 ≤ d ∧ 0 ≤ mc ∧ 0 ≤ ms ∧ (hpT h r0).1 = 12) ∧ ∃ Q1 : PR, Wp m_M_laysKey 0 [some (xR r0), some (xI (ai_add (180 : Int) (ai_mul (10 : Int) i3))), some (xR (Int.toNat (hpC h r0 19)))] [] h (d - 1) 0 0 Q1 ∧ ∀ (v1 : Int) (h1 : Hp), Q1 (some (xI v1)) h1 → ((hpT h1 r0).1 = 12 ∧ ((hpT h1 r0).1 = 12 ∧ ((1 ≤ d ∧ 0 ≤ mc ∧ 0 ≤ ms) ∧ ∃ Q2 : PR, Wp m_M_areLike 0 [some (xR (Int.toNat (hpC h1 r0 18))), some (xR (Int.toNat (hpC h1 r0 19))), none] [] h1 (d - 1) 0 0 Q2 ∧ ∀ (v2 : Int) (h2 : Hp), Q2 (some (xI v2)) h2 → (if v2 = (0 : Int) then Wp m_M_find 222 [some (xR r0), some (xI i1), o2, some (xI i3), o4] [] h2 d mc ms R else R (some (xI (ai_add (300 : Int) i3))) h2)))))) else Wp m_M_find 228 [some (xR r0), some (xI i1), o2, some (xI i3), o4] [] h d mc ms R)))) : Wp m_M_find 174 [some (xR r0), some (xI i1), o2, some (xI i3), o4] [] h d mc ms R := Wp_blk ok_M_find_174 H
def k_M_find_222 : List AI := [(.iinc 3 1, []), (.goto 0, []), (.nop, [174])]
set_option maxRecDepth 20000 in
theorem ok_M_find_222 : okB m_M_find 222 k_M_find_222 = true := by decide +kernel
set_option maxRecDepth 20000 in
theorem b_M_find_222 (r0 : Nat) (i1 : Int) (o2 : Option AV) (i3 : Int) (o4 : Option AV) {h : Hp} {d mc ms : Nat} {R : PR} (H : Wp m_M_find 174 [some (xR r0), some (xI i1), x_d2 o2, some (xI (ai_add i3 1)), o4] [] h d mc ms R) : Wp m_M_find 222 [some (xR r0), some (xI i1), o2, some (xI i3), o4] [] h d mc ms R := Wp_blk ok_M_find_222 H
def k_M_find_228 : List AI := [(.iload 1, []), (.iconst (-1), []), (.if_icmp .ne 0, [237]), (.iconst (-1), []), (.goto 0, []), (.nop, [242])]
set_option maxRecDepth 20000 in
theorem ok_M_find_228 : okB m_M_find 228 k_M_find_228 = true := by decide +kernel
set_option maxRecDepth 20000 in
theorem b_M_find_228 (o0 : Option AV) (i1 : Int) (o2 : Option AV) (o3 : Option AV) (o4 : Option AV) {h : Hp} {d mc ms : Nat} {R : PR} (H : (if i1 = (-1 : Int) then Wp m_M_find 242 [o0, some (xI i1), o2, o3, o4] [xI (-1 : Int)] h d mc ms R else Wp m_M_find 237 [o0, some (xI i1), o2, o3, o4] [] h d mc ms R)) : Wp m_M_find 228 [o0, some (xI i1), o2, o3, o4] [] h d mc ms R := Wp_blk ok_M_find_228 H
def k_M_find_237 : List AI := [(.iconst 400, []), (.iload 1, []), (.iadd, []), (.nop, [242])]
set_option maxRecDepth 20000 in
theorem ok_M_find_237 : okB m_M_find 237 k_M_find_237 = true := by decide +kernel
set_option maxRecDepth 20000 in
theorem b_M_find_237 (o0 : Option AV) (i1 : Int) (o2 : Option AV) (o3 : Option AV) (o4 : Option AV) {h : Hp} {d mc ms : Nat} {R : PR} (H : Wp m_M_find 242 [o0, some (xI i1), o2, o3, o4] [xI (ai_add (400 : Int) i1)] h d mc ms R) : Wp m_M_find 237 [o0, some (xI i1), o2, o3, o4] [] h d mc ms R := Wp_blk ok_M_find_237 H
def k_M_find_242 : List AI := [(.ireturn, [1])]
set_option maxRecDepth 20000 in
theorem ok_M_find_242 : okB m_M_find 242 k_M_find_242 = true := by decide +kernel
set_option maxRecDepth 20000 in
theorem b_M_find_242 (o0 : Option AV) (o1 : Option AV) (o2 : Option AV) (o3 : Option AV) (o4 : Option AV) (p0 : Int) {h : Hp} {d mc ms : Nat} {R : PR} (H : R (some (xI p0)) h) : Wp m_M_find 242 [o0, o1, o2, o3, o4] [xI p0] h d mc ms R := Wp_blk ok_M_find_242 H
def k_M_isWord_0 : List AI := [(.iconst 0, []), (.istore 2, []), (.nop, [2])]
set_option maxRecDepth 20000 in
theorem ok_M_isWord_0 : okB m_M_isWord 0 k_M_isWord_0 = true := by decide +kernel
set_option maxRecDepth 20000 in
theorem b_M_isWord_0 (r0 : Nat) (i1 : Int) (o2 : Option AV) {h : Hp} {d mc ms : Nat} {R : PR} (H : Wp m_M_isWord 2 [some (xR r0), some (xI i1), some (xI (0 : Int))] [] h d mc ms R) : Wp m_M_isWord 0 [some (xR r0), some (xI i1), o2] [] h d mc ms R := Wp_blk ok_M_isWord_0 H
def k_M_isWord_2 : List AI := [(.iload 2, []), (.iconst 10, []), (.if_icmp .ge 0, [45]), (.aload 0, []), (.getfield 0, [12, 0, 2, 1225]), (.iload 1, []), (.iload 2, []), (.iadd, []), (.iaload, [20]), (.iload 2, []), (.aload 0, []), (.getfield 0, [12, 17, 0, 1242]), (.if_icmp .ge 0, [33]), (.aload 0, []), (.getfield 0, [12, 16, 2, 1241]), (.iload 2, []), (.iaload, [20]), (.goto 0, []), (.nop, [34])]
set_option maxRecDepth 20000 in
theorem ok_M_isWord_2 : okB m_M_isWord 2 k_M_isWord_2 = true := by decide +kernel
set_option maxRecDepth 20000 in
theorem b_M_isWord_2 (r0 : Nat) (i1 : Int) (i2 : Int) {h : Hp} {d mc ms : Nat} {R : PR} (H : (if i2 < (10 : Int) then ((hpT h r0).1 = 12 ∧ (((hpT h (Int.toNat (hpC h r0 0))).1 = 20 ∧ 0 ≤ (ai_add i1 i2) ∧ (ai_add i1 i2) < ((hpT h (Int.toNat (hpC h r0 0))).2 : Int)) ∧ ((hpT h r0).1 = 12 ∧ (if i2 < (hpC h r0 17) then ((hpT h r0).1 = 12 ∧ (((hpT h (Int.toNat (hpC h r0 16))).1 = 20 ∧ 0 ≤ i2 ∧ i2 < ((hpT h (Int.toNat (hpC h r0 16))).2 : Int)) ∧ Wp m_M_isWord 34 [some (xR r0), some (xI i1), some (xI i2)] [xI (hpC h (Int.toNat (hpC h r0 16)) (Int.toNat i2)), xI (hpC h (Int.toNat (hpC h r0 0)) (Int.toNat (ai_add i1 i2)))] h d mc ms R)) else Wp m_M_isWord 33 [some (xR r0), some (xI i1), some (xI i2)] [xI (hpC h (Int.toNat (hpC h r0 0)) (Int.toNat (ai_add i1 i2)))] h d mc ms R)))) else Wp m_M_isWord 45 [some (xR r0), some (xI i1), some (xI i2)] [] h d mc ms R)) : Wp m_M_isWord 2 [some (xR r0), some (xI i1), some (xI i2)] [] h d mc ms R := Wp_blk ok_M_isWord_2 H
def k_M_isWord_33 : List AI := [(.iconst 0, []), (.nop, [34])]
set_option maxRecDepth 20000 in
theorem ok_M_isWord_33 : okB m_M_isWord 33 k_M_isWord_33 = true := by decide +kernel
set_option maxRecDepth 20000 in
theorem b_M_isWord_33 (r0 : Nat) (i1 : Int) (i2 : Int) (p0 : Int) {h : Hp} {d mc ms : Nat} {R : PR} (H : Wp m_M_isWord 34 [some (xR r0), some (xI i1), some (xI i2)] [xI (0 : Int), xI p0] h d mc ms R) : Wp m_M_isWord 33 [some (xR r0), some (xI i1), some (xI i2)] [xI p0] h d mc ms R := Wp_blk ok_M_isWord_33 H
def k_M_isWord_34 : List AI := [(.if_icmp .eq 0, [39]), (.iconst 0, []), (.ireturn, [3])]
set_option maxRecDepth 20000 in
theorem ok_M_isWord_34 : okB m_M_isWord 34 k_M_isWord_34 = true := by decide +kernel
set_option maxRecDepth 20000 in
theorem b_M_isWord_34 (r0 : Nat) (i1 : Int) (i2 : Int) (p0 : Int) (p1 : Int) {h : Hp} {d mc ms : Nat} {R : PR} (H : (if p0 = p1 then Wp m_M_isWord 39 [some (xR r0), some (xI i1), some (xI i2)] [] h d mc ms R else (((0 : Int) = 0 ∨ (0 : Int) = 1) ∧ R (some (xI (0 : Int))) h))) : Wp m_M_isWord 34 [some (xR r0), some (xI i1), some (xI i2)] [xI p1, xI p0] h d mc ms R := Wp_blk ok_M_isWord_34 H
def k_M_isWord_39 : List AI := [(.iinc 2 1, []), (.goto 0, []), (.nop, [2])]
set_option maxRecDepth 20000 in
theorem ok_M_isWord_39 : okB m_M_isWord 39 k_M_isWord_39 = true := by decide +kernel
set_option maxRecDepth 20000 in
theorem b_M_isWord_39 (r0 : Nat) (i1 : Int) (i2 : Int) {h : Hp} {d mc ms : Nat} {R : PR} (H : Wp m_M_isWord 2 [some (xR r0), some (xI i1), some (xI (ai_add i2 1))] [] h d mc ms R) : Wp m_M_isWord 39 [some (xR r0), some (xI i1), some (xI i2)] [] h d mc ms R := Wp_blk ok_M_isWord_39 H
def k_M_isWord_45 : List AI := [(.iconst 1, []), (.ireturn, [3])]
set_option maxRecDepth 20000 in
theorem ok_M_isWord_45 : okB m_M_isWord 45 k_M_isWord_45 = true := by decide +kernel
set_option maxRecDepth 20000 in
theorem b_M_isWord_45 (o0 : Option AV) (o1 : Option AV) (o2 : Option AV) {h : Hp} {d mc ms : Nat} {R : PR} (H : (((1 : Int) = 0 ∨ (1 : Int) = 1) ∧ R (some (xI (1 : Int))) h)) : Wp m_M_isWord 45 [o0, o1, o2] [] h d mc ms R := Wp_blk ok_M_isWord_45 H
def k_M_fades_0 : List AI := [(.aload 0, []), (.invokevirtual 0, [230, 0, 2, 0, 0, 1, 12, 1576, 1578, 89, 136]), (.ifCond .ne 0, [9]), (.iconst (-1), []), (.ireturn, [1])]
set_option maxRecDepth 20000 in
theorem ok_M_fades_0 : okB m_M_fades 0 k_M_fades_0 = true := by decide +kernel
set_option maxRecDepth 20000 in
theorem b_M_fades_0 (r0 : Nat) (o1 : Option AV) (o2 : Option AV) {h : Hp} {d mc ms : Nat} {R : PR} (H : ((1 ≤ d ∧ 0 ≤ mc ∧ 0 ≤ ms ∧ (hpT h r0).1 = 12) ∧ ∃ Q1 : PR, Wp m_M_hears 0 [some (xR r0), none] [] h (d - 1) 0 0 Q1 ∧ ∀ (v1 : Int) (h1 : Hp), Q1 (some (xI v1)) h1 → (if v1 = (0 : Int) then R (some (xI (-1 : Int))) h1 else Wp m_M_fades 9 [some (xR r0), o1, o2] [] h1 d mc ms R))) : Wp m_M_fades 0 [some (xR r0), o1, o2] [] h d mc ms R := Wp_blk ok_M_fades_0 H
def k_M_fades_9 : List AI := [(.aload 0, []), (.getfield 0, [12, 0, 2, 1225]), (.iconst 9, []), (.iaload, [20]), (.istore 1, []), (.iconst 0, []), (.istore 2, []), (.nop, [19])]
set_option maxRecDepth 20000 in
theorem ok_M_fades_9 : okB m_M_fades 9 k_M_fades_9 = true := by decide +kernel
set_option maxRecDepth 20000 in
theorem b_M_fades_9 (r0 : Nat) (o1 : Option AV) (o2 : Option AV) {h : Hp} {d mc ms : Nat} {R : PR} (H : ((hpT h r0).1 = 12 ∧ (((hpT h (Int.toNat (hpC h r0 0))).1 = 20 ∧ 0 ≤ (9 : Int) ∧ (9 : Int) < ((hpT h (Int.toNat (hpC h r0 0))).2 : Int)) ∧ Wp m_M_fades 19 [some (xR r0), some (xI (hpC h (Int.toNat (hpC h r0 0)) (Int.toNat (9 : Int)))), some (xI (0 : Int))] [] h d mc ms R))) : Wp m_M_fades 9 [some (xR r0), o1, o2] [] h d mc ms R := Wp_blk ok_M_fades_9 H
def k_M_fades_19 : List AI := [(.iload 2, []), (.aload 0, []), (.getfield 0, [12, 0, 2, 1225]), (.iconst 8, []), (.iaload, [20]), (.if_icmp .ge 0, [76]), (.aload 0, []), (.iload 2, []), (.invokevirtual 0, [228, 1, 2, 0, 0, 1, 12, 1568, 1570, 88, 136]), (.ifCond .eq 0, [70]), (.aload 0, []), (.iconst 650, []), (.iconst 10, []), (.iload 2, []), (.imul, []), (.iadd, []), (.invokevirtual 0, [233, 1, 3, 0, 0, 1, 12, 1588, 1590, 90, 136]), (.ifCond .eq 0, [70]), (.iload 1, []), (.aload 0, []), (.getfield 0, [12, 0, 2, 1225]), (.iconst 980, []), (.iload 2, []), (.iadd, []), (.iaload, [20]), (.iconst 1, []), (.iadd, []), (.invokestatic 0, [235, 2, 2, 0, 0, 1, 1596, 1597, 136]), (.istore 1, []), (.nop, [70])]
set_option maxRecDepth 20000 in
theorem ok_M_fades_19 : okB m_M_fades 19 k_M_fades_19 = true := by decide +kernel
set_option maxRecDepth 20000 in
theorem b_M_fades_19 (r0 : Nat) (i1 : Int) (i2 : Int) {h : Hp} {d mc ms : Nat} {R : PR} (H : ((hpT h r0).1 = 12 ∧ (((hpT h (Int.toNat (hpC h r0 0))).1 = 20 ∧ 0 ≤ (8 : Int) ∧ (8 : Int) < ((hpT h (Int.toNat (hpC h r0 0))).2 : Int)) ∧ (if i2 < (hpC h (Int.toNat (hpC h r0 0)) (Int.toNat (8 : Int))) then ((1 ≤ d ∧ 0 ≤ mc ∧ 0 ≤ ms ∧ (hpT h r0).1 = 12) ∧ ∃ Q1 : PR, Wp m_M_isLive 0 [some (xR r0), some (xI i2)] [] h (d - 1) 0 0 Q1 ∧ ∀ (v1 : Int) (h1 : Hp), Q1 (some (xI v1)) h1 → (if v1 = (0 : Int) then Wp m_M_fades 70 [some (xR r0), some (xI i1), some (xI i2)] [] h1 d mc ms R else ((1 ≤ d ∧ 0 ≤ mc ∧ 0 ≤ ms ∧ (hpT h1 r0).1 = 12) ∧ ∃ Q2 : PR, Wp m_M_isWord 0 [some (xR r0), some (xI (ai_add (650 : Int) (ai_mul (10 : Int) i2))), none] [] h1 (d - 1) 0 0 Q2 ∧ ∀ (v2 : Int) (h2 : Hp), Q2 (some (xI v2)) h2 → (if v2 = (0 : Int) then Wp m_M_fades 70 [some (xR r0), some (xI i1), some (xI i2)] [] h2 d mc ms R else ((hpT h2 r0).1 = 12 ∧ (((hpT h2 (Int.toNat (hpC h2 r0 0))).1 = 20 ∧ 0 ≤ (ai_add (980 : Int) i2) ∧ (ai_add (980 : Int) i2) < ((hpT h2 (Int.toNat (hpC h2 r0 0))).2 : Int)) ∧ ((1 ≤ d ∧ 0 ≤ mc ∧ 0 ≤ ms) ∧ ∃ Q3 : PR, Wp m_M_greater 0 [some (xI i1), some (xI (ai_add (hpC h2 (Int.toNat (hpC h2 r0 0)) (Int.toNat (ai_add (980 : Int) i2))) (1 : Int)))] [] h2 (d - 1) 0 0 Q3 ∧ ∀ (v3 : Int) (h3 : Hp), Q3 (some (xI v3)) h3 → Wp m_M_fades 70 [some (xR r0), some (xI v3), some (xI i2)] [] h3 d mc ms R))))))) else Wp m_M_fades 76 [some (xR r0), some (xI i1), some (xI i2)] [] h d mc ms R)))) : Wp m_M_fades 19 [some (xR r0), some (xI i1), some (xI i2)] [] h d mc ms R := Wp_blk ok_M_fades_19 H
def k_M_fades_70 : List AI := [(.iinc 2 1, []), (.goto 0, []), (.nop, [19])]
set_option maxRecDepth 20000 in
theorem ok_M_fades_70 : okB m_M_fades 70 k_M_fades_70 = true := by decide +kernel
set_option maxRecDepth 20000 in
theorem b_M_fades_70 (r0 : Nat) (i1 : Int) (i2 : Int) {h : Hp} {d mc ms : Nat} {R : PR} (H : Wp m_M_fades 19 [some (xR r0), some (xI i1), some (xI (ai_add i2 1))] [] h d mc ms R) : Wp m_M_fades 70 [some (xR r0), some (xI i1), some (xI i2)] [] h d mc ms R := Wp_blk ok_M_fades_70 H
def k_M_fades_76 : List AI := [(.iload 1, []), (.iconst 999, []), (.if_icmp .gt 0, [90]), (.aload 0, []), (.invokevirtual 0, [236, 0, 2, 0, 0, 1, 12, 1599, 1601, 91, 136]), (.ifCond .eq 0, [94]), (.nop, [90])]
set_option maxRecDepth 20000 in
theorem ok_M_fades_76 : okB m_M_fades 76 k_M_fades_76 = true := by decide +kernel
set_option maxRecDepth 20000 in
theorem b_M_fades_76 (r0 : Nat) (i1 : Int) (o2 : Option AV) {h : Hp} {d mc ms : Nat} {R : PR} (H : (if (999 : Int) < i1 then Wp m_M_fades 90 [some (xR r0), some (xI i1), o2] [] h d mc ms R else ((1 ≤ d ∧ 0 ≤ mc ∧ 0 ≤ ms ∧ (hpT h r0).1 = 12) ∧ ∃ Q1 : PR, Wp m_M_isStreetMeant 0 [some (xR r0), none] [] h (d - 1) 0 0 Q1 ∧ ∀ (v1 : Int) (h1 : Hp), Q1 (some (xI v1)) h1 → (if v1 = (0 : Int) then Wp m_M_fades 94 [some (xR r0), some (xI i1), o2] [] h1 d mc ms R else Wp m_M_fades 90 [some (xR r0), some (xI i1), o2] [] h1 d mc ms R)))) : Wp m_M_fades 76 [some (xR r0), some (xI i1), o2] [] h d mc ms R := Wp_blk ok_M_fades_76 H
def k_M_fades_90 : List AI := [(.iconst (-1), []), (.goto 0, []), (.nop, [95])]
set_option maxRecDepth 20000 in
theorem ok_M_fades_90 : okB m_M_fades 90 k_M_fades_90 = true := by decide +kernel
set_option maxRecDepth 20000 in
theorem b_M_fades_90 (o0 : Option AV) (o1 : Option AV) (o2 : Option AV) {h : Hp} {d mc ms : Nat} {R : PR} (H : Wp m_M_fades 95 [o0, o1, o2] [xI (-1 : Int)] h d mc ms R) : Wp m_M_fades 90 [o0, o1, o2] [] h d mc ms R := Wp_blk ok_M_fades_90 H
def k_M_fades_94 : List AI := [(.iload 1, []), (.nop, [95])]
set_option maxRecDepth 20000 in
theorem ok_M_fades_94 : okB m_M_fades 94 k_M_fades_94 = true := by decide +kernel
set_option maxRecDepth 20000 in
theorem b_M_fades_94 (o0 : Option AV) (i1 : Int) (o2 : Option AV) {h : Hp} {d mc ms : Nat} {R : PR} (H : Wp m_M_fades 95 [o0, some (xI i1), o2] [xI i1] h d mc ms R) : Wp m_M_fades 94 [o0, some (xI i1), o2] [] h d mc ms R := Wp_blk ok_M_fades_94 H
def k_M_fades_95 : List AI := [(.ireturn, [1])]
set_option maxRecDepth 20000 in
theorem ok_M_fades_95 : okB m_M_fades 95 k_M_fades_95 = true := by decide +kernel
set_option maxRecDepth 20000 in
theorem b_M_fades_95 (o0 : Option AV) (o1 : Option AV) (o2 : Option AV) (p0 : Int) {h : Hp} {d mc ms : Nat} {R : PR} (H : R (some (xI p0)) h) : Wp m_M_fades 95 [o0, o1, o2] [xI p0] h d mc ms R := Wp_blk ok_M_fades_95 H
def k_M_greater_0 : List AI := [(.iload 0, []), (.iload 1, []), (.if_icmp .le 0, [9]), (.iload 0, []), (.goto 0, []), (.nop, [10])]
set_option maxRecDepth 20000 in
theorem ok_M_greater_0 : okB m_M_greater 0 k_M_greater_0 = true := by decide +kernel
set_option maxRecDepth 20000 in
theorem b_M_greater_0 (i0 : Int) (i1 : Int) {h : Hp} {d mc ms : Nat} {R : PR} (H : (if i1 < i0 then Wp m_M_greater 10 [some (xI i0), some (xI i1)] [xI i0] h d mc ms R else Wp m_M_greater 9 [some (xI i0), some (xI i1)] [] h d mc ms R)) : Wp m_M_greater 0 [some (xI i0), some (xI i1)] [] h d mc ms R := Wp_blk ok_M_greater_0 H
def k_M_greater_9 : List AI := [(.iload 1, []), (.nop, [10])]
set_option maxRecDepth 20000 in
theorem ok_M_greater_9 : okB m_M_greater 9 k_M_greater_9 = true := by decide +kernel
set_option maxRecDepth 20000 in
theorem b_M_greater_9 (o0 : Option AV) (i1 : Int) {h : Hp} {d mc ms : Nat} {R : PR} (H : Wp m_M_greater 10 [o0, some (xI i1)] [xI i1] h d mc ms R) : Wp m_M_greater 9 [o0, some (xI i1)] [] h d mc ms R := Wp_blk ok_M_greater_9 H
def k_M_greater_10 : List AI := [(.ireturn, [1])]
set_option maxRecDepth 20000 in
theorem ok_M_greater_10 : okB m_M_greater 10 k_M_greater_10 = true := by decide +kernel
set_option maxRecDepth 20000 in
theorem b_M_greater_10 (o0 : Option AV) (o1 : Option AV) (p0 : Int) {h : Hp} {d mc ms : Nat} {R : PR} (H : R (some (xI p0)) h) : Wp m_M_greater 10 [o0, o1] [xI p0] h d mc ms R := Wp_blk ok_M_greater_10 H
def k_M_isStreetMeant_0 : List AI := [(.iconst 0, []), (.istore 1, []), (.nop, [2])]
set_option maxRecDepth 20000 in
theorem ok_M_isStreetMeant_0 : okB m_M_isStreetMeant 0 k_M_isStreetMeant_0 = true := by decide +kernel
set_option maxRecDepth 20000 in
theorem b_M_isStreetMeant_0 (r0 : Nat) (o1 : Option AV) {h : Hp} {d mc ms : Nat} {R : PR} (H : Wp m_M_isStreetMeant 2 [some (xR r0), some (xI (0 : Int))] [] h d mc ms R) : Wp m_M_isStreetMeant 0 [some (xR r0), o1] [] h d mc ms R := Wp_blk ok_M_isStreetMeant_0 H
def k_M_isStreetMeant_2 : List AI := [(.iload 1, []), (.aload 0, []), (.getfield 0, [12, 0, 2, 1225]), (.iconst 7, []), (.iaload, [20]), (.if_icmp .ge 0, [42]), (.aload 0, []), (.iconst 180, []), (.iconst 10, []), (.iload 1, []), (.imul, []), (.iadd, []), (.invokevirtual 0, [222, 1, 9, 0, 0, 1, 12, 1546, 1548, 86, 136]), (.aload 0, []), (.getfield 0, [12, 0, 2, 1225]), (.iconst 0, []), (.iaload, [20]), (.if_icmp .gt 0, [36]), (.iconst 1, []), (.ireturn, [3])]
set_option maxRecDepth 20000 in
theorem ok_M_isStreetMeant_2 : okB m_M_isStreetMeant 2 k_M_isStreetMeant_2 = true := by decide +kernel
set_option maxRecDepth 20000 in
theorem b_M_isStreetMeant_2 (r0 : Nat) (i1 : Int) {h : Hp} {d mc ms : Nat} {R : PR} (H : ((hpT h r0).1 = 12 ∧ (((hpT h (Int.toNat (hpC h r0 0))).1 = 20 ∧ 0 ≤ (7 : Int) ∧ (7 : Int) < ((hpT h (Int.toNat (hpC h r0 0))).2 : Int)) ∧ (if i1 < (hpC h (Int.toNat (hpC h r0 0)) (Int.toNat (7 : Int))) then ((1 ≤ d ∧ 0 ≤ mc ∧ 0 ≤ ms ∧ (hpT h r0).1 = 12) ∧ ∃ Q1 : PR, Wp m_M_changesTo 0 [some (xR r0), some (xI (ai_add (180 : Int) (ai_mul (10 : Int) i1))), none, none, none, none, none, none, none] [] h (d - 1) 0 0 Q1 ∧ ∀ (v1 : Int) (h1 : Hp), Q1 (some (xI v1)) h1 → ((hpT h1 r0).1 = 12 ∧ (((hpT h1 (Int.toNat (hpC h1 r0 0))).1 = 20 ∧ 0 ≤ (0 : Int) ∧ (0 : Int) < ((hpT h1 (Int.toNat (hpC h1 r0 0))).2 : Int)) ∧ (if (hpC h1 (Int.toNat (hpC h1 r0 0)) (Int.toNat (0 : Int))) < v1 then Wp m_M_isStreetMeant 36 [some (xR r0), some (xI i1)] [] h1 d mc ms R else (((1 : Int) = 0 ∨ (1 : Int) = 1) ∧ R (some (xI (1 : Int))) h1))))) else Wp m_M_isStreetMeant 42 [some (xR r0), some (xI i1)] [] h d mc ms R)))) : Wp m_M_isStreetMeant 2 [some (xR r0), some (xI i1)] [] h d mc ms R := Wp_blk ok_M_isStreetMeant_2 H
def k_M_isStreetMeant_36 : List AI := [(.iinc 1 1, []), (.goto 0, []), (.nop, [2])]
set_option maxRecDepth 20000 in
theorem ok_M_isStreetMeant_36 : okB m_M_isStreetMeant 36 k_M_isStreetMeant_36 = true := by decide +kernel
set_option maxRecDepth 20000 in
theorem b_M_isStreetMeant_36 (r0 : Nat) (i1 : Int) {h : Hp} {d mc ms : Nat} {R : PR} (H : Wp m_M_isStreetMeant 2 [some (xR r0), some (xI (ai_add i1 1))] [] h d mc ms R) : Wp m_M_isStreetMeant 36 [some (xR r0), some (xI i1)] [] h d mc ms R := Wp_blk ok_M_isStreetMeant_36 H
def k_M_isStreetMeant_42 : List AI := [(.aload 0, []), (.aload 0, []), (.getfield 0, [12, 18, 2, 1243]), (.invokevirtual 0, [219, 1, 7, 0, 0, 1, 12, 1534, 1536, 84, 136]), (.pop, []), (.iconst 0, []), (.istore 1, []), (.nop, [53])]
set_option maxRecDepth 20000 in
theorem ok_M_isStreetMeant_42 : okB m_M_isStreetMeant 42 k_M_isStreetMeant_42 = true := by decide +kernel
set_option maxRecDepth 20000 in
theorem b_M_isStreetMeant_42 (r0 : Nat) (o1 : Option AV) {h : Hp} {d mc ms : Nat} {R : PR} (H : ((hpT h r0).1 = 12 ∧ ((1 ≤ d ∧ 0 ≤ mc ∧ 0 ≤ ms ∧ (hpT h r0).1 = 12) ∧ ∃ Q1 : PR, Wp m_M_sounds 0 [some (xR r0), some (xR (Int.toNat (hpC h r0 18))), none, none, none, none, none] [] h (d - 1) 0 0 Q1 ∧ ∀ (v1 : Int) (h1 : Hp), Q1 (some (xI v1)) h1 → Wp m_M_isStreetMeant 53 [some (xR r0), some (xI (0 : Int))] [] h1 d mc ms R))) : Wp m_M_isStreetMeant 42 [some (xR r0), o1] [] h d mc ms R := Wp_blk ok_M_isStreetMeant_42 H
def k_M_isStreetMeant_53 : List AI := [(.iload 1, []), (.aload 0, []), (.getfield 0, [12, 0, 2, 1225]), (.iconst 7, []), (.iaload, [20]), (.if_icmp .ge 0, [103]), (.aload 0, []), (.iconst 180, []), (.iconst 10, []), (.iload 1, []), (.imul, []), (.iadd, []), (.aload 0, []), (.getfield 0, [12, 19, 2, 1244]), (.invokevirtual 0, [217, 2, 3, 0, 0, 1, 12, 1526, 1528, 82, 136]), (.pop, []), (.aload 0, []), (.getfield 0, [12, 18, 2, 1243]), (.aload 0, []), (.getfield 0, [12, 19, 2, 1244]), (.invokestatic 0, [226, 2, 3, 0, 0, 1, 1561, 1562, 136]), (.ifCond .eq 0, [97]), (.iconst 1, []), (.ireturn, [3])]
set_option maxRecDepth 20000 in
theorem ok_M_isStreetMeant_53 : okB m_M_isStreetMeant 53 k_M_isStreetMeant_53 = true := by decide +kernel
set_option maxRecDepth 20000 in
theorem b_M_isStreetMeant_53 (r0 : Nat) (i1 : Int) {h : Hp} {d mc ms : Nat} {R : PR} (H : ((hpT h r0).1 = 12 ∧ (((hpT h (Int.toNat (hpC h r0 0))).1 = 20 ∧ 0 ≤ (7 : Int) ∧ (7 : Int) < ((hpT h (Int.toNat (hpC h r0 0))).2 : Int)) ∧ (if i1 < (hpC h (Int.toNat (hpC h r0 0)) (Int.toNat (7 : Int))) then ((hpT h r0).1 = 12 ∧ ((1 ≤ d ∧ 0 ≤ mc ∧ 0 ≤ ms ∧ (hpT h r0).1 = 12) ∧ ∃ Q1 : PR, Wp m_M_laysKey 0 [some (xR r0), some (xI (ai_add (180 : Int) (ai_mul (10 : Int) i1))), some (xR (Int.toNat (hpC h r0 19)))] [] h (d - 1) 0 0 Q1 ∧ ∀ (v1 : Int) (h1 : Hp), Q1 (some (xI v1)) h1 → ((hpT h1 r0).1 = 12 ∧ ((hpT h1 r0).1 = 12 ∧ ((1 ≤ d ∧ 0 ≤ mc ∧ 0 ≤ ms) ∧ ∃ Q2 : PR, Wp m_M_areLike 0 [some (xR (Int.toNat (hpC h1 r0 18))), some (xR (Int.toNat (hpC h1 r0 19))), none] [] h1 (d - 1) 0 0 Q2 ∧ ∀ (v2 : Int) (h2 : Hp), Q2 (some (xI v2)) h2 → (if v2 = (0 : Int) then Wp m_M_isStreetMeant 97 [some (xR r0), some (xI i1)] [] h2 d mc ms R else (((1 : Int) = 0 ∨ (1 : Int) = 1) ∧ R (some (xI (1 : Int))) h2))))))) else Wp m_M_isStreetMeant 103 [some (xR r0), some (xI i1)] [] h d mc ms R)))) : Wp m_M_isStreetMeant 53 [some (xR r0), some (xI i1)] [] h d mc ms R := Wp_blk ok_M_isStreetMeant_53 H
def k_M_isStreetMeant_97 : List AI := [(.iinc 1 1, []), (.goto 0, []), (.nop, [53])]
set_option maxRecDepth 20000 in
theorem ok_M_isStreetMeant_97 : okB m_M_isStreetMeant 97 k_M_isStreetMeant_97 = true := by decide +kernel
set_option maxRecDepth 20000 in
theorem b_M_isStreetMeant_97 (r0 : Nat) (i1 : Int) {h : Hp} {d mc ms : Nat} {R : PR} (H : Wp m_M_isStreetMeant 53 [some (xR r0), some (xI (ai_add i1 1))] [] h d mc ms R) : Wp m_M_isStreetMeant 97 [some (xR r0), some (xI i1)] [] h d mc ms R := Wp_blk ok_M_isStreetMeant_97 H
def k_M_isStreetMeant_103 : List AI := [(.iconst 0, []), (.ireturn, [3])]
set_option maxRecDepth 20000 in
theorem ok_M_isStreetMeant_103 : okB m_M_isStreetMeant 103 k_M_isStreetMeant_103 = true := by decide +kernel
set_option maxRecDepth 20000 in
theorem b_M_isStreetMeant_103 (o0 : Option AV) (o1 : Option AV) {h : Hp} {d mc ms : Nat} {R : PR} (H : (((0 : Int) = 0 ∨ (0 : Int) = 1) ∧ R (some (xI (0 : Int))) h)) : Wp m_M_isStreetMeant 103 [o0, o1] [] h d mc ms R := Wp_blk ok_M_isStreetMeant_103 H
def k_M_nearest_0 : List AI := [(.aload 0, []), (.iload 1, []), (.iload 2, []), (.invokevirtual 0, [214, 2, 3, 0, 0, 1, 12, 1514, 1516, 80, 136]), (.istore 4, []), (.iload 4, []), (.iconst (-1), []), (.if_icmp .eq 0, [23]), (.iload 3, []), (.iconst 0, []), (.iconst 1, []), (.invokestatic 0, [187, 3, 3, 0, 0, 1, 1409, 1410, 136]), (.ifCond .ne 0, [25]), (.nop, [23])]
set_option maxRecDepth 20000 in
theorem ok_M_nearest_0 : okB m_M_nearest 0 k_M_nearest_0 = true := by decide +kernel
set_option maxRecDepth 20000 in
theorem b_M_nearest_0 (r0 : Nat) (i1 : Int) (i2 : Int) (i3 : Int) (o4 : Option AV) (o5 : Option AV) (o6 : Option AV) (o7 : Option AV) (o8 : Option AV) {h : Hp} {d mc ms : Nat} {R : PR} (H : ((1 ≤ d ∧ 0 ≤ mc ∧ 0 ≤ ms ∧ (hpT h r0).1 = 12) ∧ ∃ Q1 : PR, Wp m_M_nameAt 0 [some (xR r0), some (xI i1), some (xI i2)] [] h (d - 1) 0 0 Q1 ∧ ∀ (v1 : Int) (h1 : Hp), Q1 (some (xI v1)) h1 → (if v1 = (-1 : Int) then Wp m_M_nearest 23 [some (xR r0), some (xI i1), some (xI i2), some (xI i3), some (xI v1), o5, o6, o7, o8] [] h1 d mc ms R else ((1 ≤ d ∧ 0 ≤ mc ∧ 0 ≤ ms) ∧ ∃ Q2 : PR, Wp m_M_isIn 0 [some (xI i3), some (xI (0 : Int)), some (xI (1 : Int))] [] h1 (d - 1) 0 0 Q2 ∧ ∀ (v2 : Int) (h2 : Hp), Q2 (some (xI v2)) h2 → (if v2 = (0 : Int) then Wp m_M_nearest 23 [some (xR r0), some (xI i1), some (xI i2), some (xI i3), some (xI v1), o5, o6, o7, o8] [] h2 d mc ms R else Wp m_M_nearest 25 [some (xR r0), some (xI i1), some (xI i2), some (xI i3), some (xI v1), o5, o6, o7, o8] [] h2 d mc ms R))))) : Wp m_M_nearest 0 [some (xR r0), some (xI i1), some (xI i2), some (xI i3), o4, o5, o6, o7, o8] [] h d mc ms R := Wp_blk ok_M_nearest_0 H
def k_M_nearest_23 : List AI := [(.iconst (-1), []), (.ireturn, [1])]
set_option maxRecDepth 20000 in
theorem ok_M_nearest_23 : okB m_M_nearest 23 k_M_nearest_23 = true := by decide +kernel
set_option maxRecDepth 20000 in
theorem b_M_nearest_23 (o0 : Option AV) (o1 : Option AV) (o2 : Option AV) (o3 : Option AV) (o4 : Option AV) (o5 : Option AV) (o6 : Option AV) (o7 : Option AV) (o8 : Option AV) {h : Hp} {d mc ms : Nat} {R : PR} (H : R (some (xI (-1 : Int))) h) : Wp m_M_nearest 23 [o0, o1, o2, o3, o4, o5, o6, o7, o8] [] h d mc ms R := Wp_blk ok_M_nearest_23 H
def k_M_nearest_25 : List AI := [(.iconst (-1), []), (.istore 5, []), (.iconst (-1), []), (.istore 6, []), (.iconst 0, []), (.istore 7, []), (.nop, [34])]
set_option maxRecDepth 20000 in
theorem ok_M_nearest_25 : okB m_M_nearest 25 k_M_nearest_25 = true := by decide +kernel
set_option maxRecDepth 20000 in
theorem b_M_nearest_25 (r0 : Nat) (i1 : Int) (i2 : Int) (i3 : Int) (i4 : Int) (o5 : Option AV) (o6 : Option AV) (o7 : Option AV) (o8 : Option AV) {h : Hp} {d mc ms : Nat} {R : PR} (H : Wp m_M_nearest 34 [some (xR r0), some (xI i1), some (xI i2), some (xI i3), some (xI i4), some (xI (-1 : Int)), some (xI (-1 : Int)), some (xI (0 : Int)), o8] [] h d mc ms R) : Wp m_M_nearest 25 [some (xR r0), some (xI i1), some (xI i2), some (xI i3), some (xI i4), o5, o6, o7, o8] [] h d mc ms R := Wp_blk ok_M_nearest_25 H
def k_M_nearest_34 : List AI := [(.iload 7, []), (.aload 0, []), (.getfield 0, [12, 0, 2, 1225]), (.iconst 7, []), (.iaload, [20]), (.if_icmp .ge 0, [106]), (.iload 1, []), (.ifCond .ne 0, [59]), (.iload 7, []), (.iload 2, []), (.if_icmp .ne 0, [59]), (.goto 0, []), (.nop, [100])]
set_option maxRecDepth 20000 in
theorem ok_M_nearest_34 : okB m_M_nearest 34 k_M_nearest_34 = true := by decide +kernel
set_option maxRecDepth 20000 in
theorem b_M_nearest_34 (r0 : Nat) (i1 : Int) (i2 : Int) (i3 : Int) (i4 : Int) (i5 : Int) (i6 : Int) (i7 : Int) (o8 : Option AV) {h : Hp} {d mc ms : Nat} {R : PR} (H : ((hpT h r0).1 = 12 ∧ (((hpT h (Int.toNat (hpC h r0 0))).1 = 20 ∧ 0 ≤ (7 : Int) ∧ (7 : Int) < ((hpT h (Int.toNat (hpC h r0 0))).2 : Int)) ∧ (if i7 < (hpC h (Int.toNat (hpC h r0 0)) (Int.toNat (7 : Int))) then (if i1 = (0 : Int) then (if i7 = i2 then Wp m_M_nearest 100 [some (xR r0), some (xI i1), some (xI i2), some (xI i3), some (xI i4), some (xI i5), some (xI i6), some (xI i7), o8] [] h d mc ms R else Wp m_M_nearest 59 [some (xR r0), some (xI i1), some (xI i2), some (xI i3), some (xI i4), some (xI i5), some (xI i6), some (xI i7), o8] [] h d mc ms R) else Wp m_M_nearest 59 [some (xR r0), some (xI i1), some (xI i2), some (xI i3), some (xI i4), some (xI i5), some (xI i6), some (xI i7), o8] [] h d mc ms R) else Wp m_M_nearest 106 [some (xR r0), some (xI i1), some (xI i2), some (xI i3), some (xI i4), some (xI i5), some (xI i6), some (xI i7), o8] [] h d mc ms R)))) : Wp m_M_nearest 34 [some (xR r0), some (xI i1), some (xI i2), some (xI i3), some (xI i4), some (xI i5), some (xI i6), some (xI i7), o8] [] h d mc ms R := Wp_blk ok_M_nearest_34 H
def k_M_nearest_59 : List AI := [(.aload 0, []), (.iload 4, []), (.iconst 180, []), (.iconst 10, []), (.iload 7, []), (.imul, []), (.iadd, []), (.invokevirtual 0, [221, 2, 3, 0, 0, 1, 12, 1542, 1544, 85, 136]), (.istore 8, []), (.iload 5, []), (.iconst (-1), []), (.if_icmp .eq 0, [92]), (.iload 8, []), (.iload 6, []), (.if_icmp .lt 0, [92]), (.goto 0, []), (.nop, [100])]
set_option maxRecDepth 20000 in
theorem ok_M_nearest_59 : okB m_M_nearest 59 k_M_nearest_59 = true := by decide +kernel
set_option maxRecDepth 20000 in
theorem b_M_nearest_59 (r0 : Nat) (i1 : Int) (i2 : Int) (i3 : Int) (i4 : Int) (i5 : Int) (i6 : Int) (i7 : Int) (o8 : Option AV) {h : Hp} {d mc ms : Nat} {R : PR} (H : ((1 ≤ d ∧ 0 ≤ mc ∧ 0 ≤ ms ∧ (hpT h r0).1 = 12) ∧ ∃ Q1 : PR, Wp m_M_changesOf 0 [some (xR r0), some (xI i4), some (xI (ai_add (180 : Int) (ai_mul (10 : Int) i7)))] [] h (d - 1) 0 0 Q1 ∧ ∀ (v1 : Int) (h1 : Hp), Q1 (some (xI v1)) h1 → (if i5 = (-1 : Int) then Wp m_M_nearest 92 [some (xR r0), some (xI i1), some (xI i2), some (xI i3), some (xI i4), some (xI i5), some (xI i6), some (xI i7), some (xI v1)] [] h1 d mc ms R else (if v1 < i6 then Wp m_M_nearest 92 [some (xR r0), some (xI i1), some (xI i2), some (xI i3), some (xI i4), some (xI i5), some (xI i6), some (xI i7), some (xI v1)] [] h1 d mc ms R else Wp m_M_nearest 100 [some (xR r0), some (xI i1), some (xI i2), some (xI i3), some (xI i4), some (xI i5), some (xI i6), some (xI i7), some (xI v1)] [] h1 d mc ms R)))) : Wp m_M_nearest 59 [some (xR r0), some (xI i1), some (xI i2), some (xI i3), some (xI i4), some (xI i5), some (xI i6), some (xI i7), o8] [] h d mc ms R := Wp_blk ok_M_nearest_59 H
def k_M_nearest_92 : List AI := [(.iload 7, []), (.istore 5, []), (.iload 8, []), (.istore 6, []), (.nop, [100])]
set_option maxRecDepth 20000 in
theorem ok_M_nearest_92 : okB m_M_nearest 92 k_M_nearest_92 = true := by decide +kernel
set_option maxRecDepth 20000 in
theorem b_M_nearest_92 (r0 : Nat) (i1 : Int) (i2 : Int) (i3 : Int) (i4 : Int) (o5 : Option AV) (o6 : Option AV) (i7 : Int) (i8 : Int) {h : Hp} {d mc ms : Nat} {R : PR} (H : Wp m_M_nearest 100 [some (xR r0), some (xI i1), some (xI i2), some (xI i3), some (xI i4), some (xI i7), some (xI i8), some (xI i7), some (xI i8)] [] h d mc ms R) : Wp m_M_nearest 92 [some (xR r0), some (xI i1), some (xI i2), some (xI i3), some (xI i4), o5, o6, some (xI i7), some (xI i8)] [] h d mc ms R := Wp_blk ok_M_nearest_92 H
def k_M_nearest_100 : List AI := [(.iinc 7 1, []), (.goto 0, []), (.nop, [34])]
set_option maxRecDepth 20000 in
theorem ok_M_nearest_100 : okB m_M_nearest 100 k_M_nearest_100 = true := by decide +kernel
set_option maxRecDepth 20000 in
theorem b_M_nearest_100 (r0 : Nat) (i1 : Int) (i2 : Int) (i3 : Int) (i4 : Int) (i5 : Int) (i6 : Int) (i7 : Int) (o8 : Option AV) {h : Hp} {d mc ms : Nat} {R : PR} (H : Wp m_M_nearest 34 [some (xR r0), some (xI i1), some (xI i2), some (xI i3), some (xI i4), some (xI i5), some (xI i6), some (xI (ai_add i7 1)), o8] [] h d mc ms R) : Wp m_M_nearest 100 [some (xR r0), some (xI i1), some (xI i2), some (xI i3), some (xI i4), some (xI i5), some (xI i6), some (xI i7), o8] [] h d mc ms R := Wp_blk ok_M_nearest_100 H
def k_M_nearest_106 : List AI := [(.iload 3, []), (.ifCond .ne 0, [115]), (.iload 5, []), (.goto 0, []), (.nop, [117])]
set_option maxRecDepth 20000 in
theorem ok_M_nearest_106 : okB m_M_nearest 106 k_M_nearest_106 = true := by decide +kernel
set_option maxRecDepth 20000 in
theorem b_M_nearest_106 (o0 : Option AV) (o1 : Option AV) (o2 : Option AV) (i3 : Int) (o4 : Option AV) (i5 : Int) (i6 : Int) (o7 : Option AV) (o8 : Option AV) {h : Hp} {d mc ms : Nat} {R : PR} (H : (if i3 = (0 : Int) then Wp m_M_nearest 117 [o0, o1, o2, some (xI i3), o4, some (xI i5), some (xI i6), o7, o8] [xI i5] h d mc ms R else Wp m_M_nearest 115 [o0, o1, o2, some (xI i3), o4, some (xI i5), some (xI i6), o7, o8] [] h d mc ms R)) : Wp m_M_nearest 106 [o0, o1, o2, some (xI i3), o4, some (xI i5), some (xI i6), o7, o8] [] h d mc ms R := Wp_blk ok_M_nearest_106 H
def k_M_nearest_115 : List AI := [(.iload 6, []), (.nop, [117])]
set_option maxRecDepth 20000 in
theorem ok_M_nearest_115 : okB m_M_nearest 115 k_M_nearest_115 = true := by decide +kernel
set_option maxRecDepth 20000 in
theorem b_M_nearest_115 (o0 : Option AV) (o1 : Option AV) (o2 : Option AV) (o3 : Option AV) (o4 : Option AV) (o5 : Option AV) (i6 : Int) (o7 : Option AV) (o8 : Option AV) {h : Hp} {d mc ms : Nat} {R : PR} (H : Wp m_M_nearest 117 [o0, o1, o2, o3, o4, o5, some (xI i6), o7, o8] [xI i6] h d mc ms R) : Wp m_M_nearest 115 [o0, o1, o2, o3, o4, o5, some (xI i6), o7, o8] [] h d mc ms R := Wp_blk ok_M_nearest_115 H
def k_M_nearest_117 : List AI := [(.ireturn, [1])]
set_option maxRecDepth 20000 in
theorem ok_M_nearest_117 : okB m_M_nearest 117 k_M_nearest_117 = true := by decide +kernel
set_option maxRecDepth 20000 in
theorem b_M_nearest_117 (o0 : Option AV) (o1 : Option AV) (o2 : Option AV) (o3 : Option AV) (o4 : Option AV) (o5 : Option AV) (o6 : Option AV) (o7 : Option AV) (o8 : Option AV) (p0 : Int) {h : Hp} {d mc ms : Nat} {R : PR} (H : R (some (xI p0)) h) : Wp m_M_nearest 117 [o0, o1, o2, o3, o4, o5, o6, o7, o8] [xI p0] h d mc ms R := Wp_blk ok_M_nearest_117 H
def k_M_clash_0 : List AI := [(.iload 1, []), (.iconst (-1), []), (.if_icmp .ge 0, [7]), (.iconst (-1), []), (.ireturn, [1])]
set_option maxRecDepth 20000 in
theorem ok_M_clash_0 : okB m_M_clash 0 k_M_clash_0 = true := by decide +kernel
set_option maxRecDepth 20000 in
theorem b_M_clash_0 (r0 : Nat) (i1 : Int) (o2 : Option AV) (o3 : Option AV) (o4 : Option AV) {h : Hp} {d mc ms : Nat} {R : PR} (H : (if i1 < (-1 : Int) then R (some (xI (-1 : Int))) h else Wp m_M_clash 7 [some (xR r0), some (xI i1), o2, o3, o4] [] h d mc ms R)) : Wp m_M_clash 0 [some (xR r0), some (xI i1), o2, o3, o4] [] h d mc ms R := Wp_blk ok_M_clash_0 H
def k_M_clash_7 : List AI := [(.iconst 0, []), (.istore 2, []), (.iconst 0, []), (.istore 3, []), (.nop, [11])]
set_option maxRecDepth 20000 in
theorem ok_M_clash_7 : okB m_M_clash 7 k_M_clash_7 = true := by decide +kernel
set_option maxRecDepth 20000 in
theorem b_M_clash_7 (r0 : Nat) (i1 : Int) (o2 : Option AV) (o3 : Option AV) (o4 : Option AV) {h : Hp} {d mc ms : Nat} {R : PR} (H : Wp m_M_clash 11 [some (xR r0), some (xI i1), some (xI (0 : Int)), some (xI (0 : Int)), o4] [] h d mc ms R) : Wp m_M_clash 7 [some (xR r0), some (xI i1), o2, o3, o4] [] h d mc ms R := Wp_blk ok_M_clash_7 H
def k_M_clash_11 : List AI := [(.iload 3, []), (.aload 0, []), (.getfield 0, [12, 0, 2, 1225]), (.iconst 7, []), (.iaload, [20]), (.if_icmp .ge 0, [80]), (.iload 3, []), (.iconst 1, []), (.iadd, []), (.istore 4, []), (.nop, [27])]
set_option maxRecDepth 20000 in
theorem ok_M_clash_11 : okB m_M_clash 11 k_M_clash_11 = true := by decide +kernel
set_option maxRecDepth 20000 in
theorem b_M_clash_11 (r0 : Nat) (i1 : Int) (i2 : Int) (i3 : Int) (o4 : Option AV) {h : Hp} {d mc ms : Nat} {R : PR} (H : ((hpT h r0).1 = 12 ∧ (((hpT h (Int.toNat (hpC h r0 0))).1 = 20 ∧ 0 ≤ (7 : Int) ∧ (7 : Int) < ((hpT h (Int.toNat (hpC h r0 0))).2 : Int)) ∧ (if i3 < (hpC h (Int.toNat (hpC h r0 0)) (Int.toNat (7 : Int))) then Wp m_M_clash 27 [some (xR r0), some (xI i1), some (xI i2), some (xI i3), some (xI (ai_add i3 (1 : Int)))] [] h d mc ms R else Wp m_M_clash 80 [some (xR r0), some (xI i1), some (xI i2), some (xI i3), o4] [] h d mc ms R)))) : Wp m_M_clash 11 [some (xR r0), some (xI i1), some (xI i2), some (xI i3), o4] [] h d mc ms R := Wp_blk ok_M_clash_11 H
def k_M_clash_27 : List AI := [(.iload 4, []), (.aload 0, []), (.getfield 0, [12, 0, 2, 1225]), (.iconst 7, []), (.iaload, [20]), (.if_icmp .ge 0, [74]), (.aload 0, []), (.iload 3, []), (.iload 4, []), (.invokevirtual 0, [239, 2, 3, 0, 0, 1, 12, 1611, 1613, 92, 136]), (.ifCond .ne 0, [52]), (.goto 0, []), (.nop, [68])]
set_option maxRecDepth 20000 in
theorem ok_M_clash_27 : okB m_M_clash 27 k_M_clash_27 = true := by decide +kernel
set_option maxRecDepth 20000 in
theorem b_M_clash_27 (r0 : Nat) (i1 : Int) (i2 : Int) (i3 : Int) (i4 : Int) {h : Hp} {d mc ms : Nat} {R : PR} (H : ((hpT h r0).1 = 12 ∧ (((hpT h (Int.toNat (hpC h r0 0))).1 = 20 ∧ 0 ≤ (7 : Int) ∧ (7 : Int) < ((hpT h (Int.toNat (hpC h r0 0))).2 : Int)) ∧ (if i4 < (hpC h (Int.toNat (hpC h r0 0)) (Int.toNat (7 : Int))) then ((1 ≤ d ∧ 0 ≤ mc ∧ 0 ≤ ms ∧ (hpT h r0).1 = 12) ∧ ∃ Q1 : PR, Wp m_M_areAlike 0 [some (xR r0), some (xI i3), some (xI i4)] [] h (d - 1) 0 0 Q1 ∧ ∀ (v1 : Int) (h1 : Hp), Q1 (some (xI v1)) h1 → (if v1 = (0 : Int) then Wp m_M_clash 68 [some (xR r0), some (xI i1), some (xI i2), some (xI i3), some (xI i4)] [] h1 d mc ms R else Wp m_M_clash 52 [some (xR r0), some (xI i1), some (xI i2), some (xI i3), some (xI i4)] [] h1 d mc ms R)) else Wp m_M_clash 74 [some (xR r0), some (xI i1), some (xI i2), some (xI i3), some (xI i4)] [] h d mc ms R)))) : Wp m_M_clash 27 [some (xR r0), some (xI i1), some (xI i2), some (xI i3), some (xI i4)] [] h d mc ms R := Wp_blk ok_M_clash_27 H
def k_M_clash_52 : List AI := [(.iload 2, []), (.iload 1, []), (.if_icmp .ne 0, [65]), (.iconst 100, []), (.iload 3, []), (.imul, []), (.iload 4, []), (.iadd, []), (.ireturn, [1])]
set_option maxRecDepth 20000 in
theorem ok_M_clash_52 : okB m_M_clash 52 k_M_clash_52 = true := by decide +kernel
set_option maxRecDepth 20000 in
theorem b_M_clash_52 (r0 : Nat) (i1 : Int) (i2 : Int) (i3 : Int) (i4 : Int) {h : Hp} {d mc ms : Nat} {R : PR} (H : (if i2 = i1 then R (some (xI (ai_add (ai_mul (100 : Int) i3) i4))) h else Wp m_M_clash 65 [some (xR r0), some (xI i1), some (xI i2), some (xI i3), some (xI i4)] [] h d mc ms R)) : Wp m_M_clash 52 [some (xR r0), some (xI i1), some (xI i2), some (xI i3), some (xI i4)] [] h d mc ms R := Wp_blk ok_M_clash_52 H
def k_M_clash_65 : List AI := [(.iinc 2 1, []), (.nop, [68])]
set_option maxRecDepth 20000 in
theorem ok_M_clash_65 : okB m_M_clash 65 k_M_clash_65 = true := by decide +kernel
set_option maxRecDepth 20000 in
theorem b_M_clash_65 (r0 : Nat) (i1 : Int) (i2 : Int) (i3 : Int) (i4 : Int) {h : Hp} {d mc ms : Nat} {R : PR} (H : Wp m_M_clash 68 [some (xR r0), some (xI i1), some (xI (ai_add i2 1)), some (xI i3), some (xI i4)] [] h d mc ms R) : Wp m_M_clash 65 [some (xR r0), some (xI i1), some (xI i2), some (xI i3), some (xI i4)] [] h d mc ms R := Wp_blk ok_M_clash_65 H
def k_M_clash_68 : List AI := [(.iinc 4 1, []), (.goto 0, []), (.nop, [27])]
set_option maxRecDepth 20000 in
theorem ok_M_clash_68 : okB m_M_clash 68 k_M_clash_68 = true := by decide +kernel
set_option maxRecDepth 20000 in
theorem b_M_clash_68 (r0 : Nat) (i1 : Int) (i2 : Int) (i3 : Int) (i4 : Int) {h : Hp} {d mc ms : Nat} {R : PR} (H : Wp m_M_clash 27 [some (xR r0), some (xI i1), some (xI i2), some (xI i3), some (xI (ai_add i4 1))] [] h d mc ms R) : Wp m_M_clash 68 [some (xR r0), some (xI i1), some (xI i2), some (xI i3), some (xI i4)] [] h d mc ms R := Wp_blk ok_M_clash_68 H
def k_M_clash_74 : List AI := [(.iinc 3 1, []), (.goto 0, []), (.nop, [11])]
set_option maxRecDepth 20000 in
theorem ok_M_clash_74 : okB m_M_clash 74 k_M_clash_74 = true := by decide +kernel
set_option maxRecDepth 20000 in
theorem b_M_clash_74 (r0 : Nat) (i1 : Int) (i2 : Int) (i3 : Int) (o4 : Option AV) {h : Hp} {d mc ms : Nat} {R : PR} (H : Wp m_M_clash 11 [some (xR r0), some (xI i1), some (xI i2), some (xI (ai_add i3 1)), o4] [] h d mc ms R) : Wp m_M_clash 74 [some (xR r0), some (xI i1), some (xI i2), some (xI i3), o4] [] h d mc ms R := Wp_blk ok_M_clash_74 H
def k_M_clash_80 : List AI := [(.iload 1, []), (.iconst (-1), []), (.if_icmp .ne 0, [89]), (.iload 2, []), (.goto 0, []), (.nop, [90])]
set_option maxRecDepth 20000 in
theorem ok_M_clash_80 : okB m_M_clash 80 k_M_clash_80 = true := by decide +kernel
set_option maxRecDepth 20000 in
theorem b_M_clash_80 (o0 : Option AV) (i1 : Int) (i2 : Int) (o3 : Option AV) (o4 : Option AV) {h : Hp} {d mc ms : Nat} {R : PR} (H : (if i1 = (-1 : Int) then Wp m_M_clash 90 [o0, some (xI i1), some (xI i2), o3, o4] [xI i2] h d mc ms R else Wp m_M_clash 89 [o0, some (xI i1), some (xI i2), o3, o4] [] h d mc ms R)) : Wp m_M_clash 80 [o0, some (xI i1), some (xI i2), o3, o4] [] h d mc ms R := Wp_blk ok_M_clash_80 H
def k_M_clash_89 : List AI := [(.iconst (-1), []), (.nop, [90])]
set_option maxRecDepth 20000 in
theorem ok_M_clash_89 : okB m_M_clash 89 k_M_clash_89 = true := by decide +kernel
set_option maxRecDepth 20000 in
theorem b_M_clash_89 (o0 : Option AV) (o1 : Option AV) (o2 : Option AV) (o3 : Option AV) (o4 : Option AV) {h : Hp} {d mc ms : Nat} {R : PR} (H : Wp m_M_clash 90 [o0, o1, o2, o3, o4] [xI (-1 : Int)] h d mc ms R) : Wp m_M_clash 89 [o0, o1, o2, o3, o4] [] h d mc ms R := Wp_blk ok_M_clash_89 H
def k_M_clash_90 : List AI := [(.ireturn, [1])]
set_option maxRecDepth 20000 in
theorem ok_M_clash_90 : okB m_M_clash 90 k_M_clash_90 = true := by decide +kernel
set_option maxRecDepth 20000 in
theorem b_M_clash_90 (o0 : Option AV) (o1 : Option AV) (o2 : Option AV) (o3 : Option AV) (o4 : Option AV) (p0 : Int) {h : Hp} {d mc ms : Nat} {R : PR} (H : R (some (xI p0)) h) : Wp m_M_clash 90 [o0, o1, o2, o3, o4] [xI p0] h d mc ms R := Wp_blk ok_M_clash_90 H
def k_M_areAlike_0 : List AI := [(.aload 0, []), (.iconst 180, []), (.iconst 10, []), (.iload 1, []), (.imul, []), (.iadd, []), (.iconst 180, []), (.iconst 10, []), (.iload 2, []), (.imul, []), (.iadd, []), (.invokevirtual 0, [225, 2, 3, 0, 0, 1, 12, 1557, 1559, 87, 136]), (.ifCond .le 0, [27]), (.iconst 1, []), (.goto 0, []), (.nop, [28])]
set_option maxRecDepth 20000 in
theorem ok_M_areAlike_0 : okB m_M_areAlike 0 k_M_areAlike_0 = true := by decide +kernel
set_option maxRecDepth 20000 in
theorem b_M_areAlike_0 (r0 : Nat) (i1 : Int) (i2 : Int) {h : Hp} {d mc ms : Nat} {R : PR} (H : ((1 ≤ d ∧ 0 ≤ mc ∧ 0 ≤ ms ∧ (hpT h r0).1 = 12) ∧ ∃ Q1 : PR, Wp m_M_alikeOf 0 [some (xR r0), some (xI (ai_add (180 : Int) (ai_mul (10 : Int) i1))), some (xI (ai_add (180 : Int) (ai_mul (10 : Int) i2)))] [] h (d - 1) 0 0 Q1 ∧ ∀ (v1 : Int) (h1 : Hp), Q1 (some (xI v1)) h1 → (if (0 : Int) < v1 then Wp m_M_areAlike 28 [some (xR r0), some (xI i1), some (xI i2)] [xI (1 : Int)] h1 d mc ms R else Wp m_M_areAlike 27 [some (xR r0), some (xI i1), some (xI i2)] [] h1 d mc ms R))) : Wp m_M_areAlike 0 [some (xR r0), some (xI i1), some (xI i2)] [] h d mc ms R := Wp_blk ok_M_areAlike_0 H
def k_M_areAlike_27 : List AI := [(.iconst 0, []), (.nop, [28])]
set_option maxRecDepth 20000 in
theorem ok_M_areAlike_27 : okB m_M_areAlike 27 k_M_areAlike_27 = true := by decide +kernel
set_option maxRecDepth 20000 in
theorem b_M_areAlike_27 (o0 : Option AV) (o1 : Option AV) (o2 : Option AV) {h : Hp} {d mc ms : Nat} {R : PR} (H : Wp m_M_areAlike 28 [o0, o1, o2] [xI (0 : Int)] h d mc ms R) : Wp m_M_areAlike 27 [o0, o1, o2] [] h d mc ms R := Wp_blk ok_M_areAlike_27 H
def k_M_areAlike_28 : List AI := [(.ireturn, [3])]
set_option maxRecDepth 20000 in
theorem ok_M_areAlike_28 : okB m_M_areAlike 28 k_M_areAlike_28 = true := by decide +kernel
set_option maxRecDepth 20000 in
theorem b_M_areAlike_28 (o0 : Option AV) (o1 : Option AV) (o2 : Option AV) (p0 : Int) {h : Hp} {d mc ms : Nat} {R : PR} (H : ((p0 = 0 ∨ p0 = 1) ∧ R (some (xI p0)) h)) : Wp m_M_areAlike 28 [o0, o1, o2] [xI p0] h d mc ms R := Wp_blk ok_M_areAlike_28 H
def k_M_circle_0 : List AI := [(.aload 0, []), (.iload 1, []), (.invokevirtual 0, [215, 1, 2, 0, 0, 1, 12, 1518, 1520, 81, 136]), (.ifCond .ne 0, [10]), (.iconst (-1), []), (.ireturn, [1])]
set_option maxRecDepth 20000 in
theorem ok_M_circle_0 : okB m_M_circle 0 k_M_circle_0 = true := by decide +kernel
set_option maxRecDepth 20000 in
theorem b_M_circle_0 (r0 : Nat) (i1 : Int) (o2 : Option AV) (o3 : Option AV) (o4 : Option AV) {h : Hp} {d mc ms : Nat} {R : PR} (H : ((1 ≤ d ∧ 0 ≤ mc ∧ 0 ≤ ms ∧ (hpT h r0).1 = 12) ∧ ∃ Q1 : PR, Wp m_M_isStreet 0 [some (xR r0), some (xI i1)] [] h (d - 1) 0 0 Q1 ∧ ∀ (v1 : Int) (h1 : Hp), Q1 (some (xI v1)) h1 → (if v1 = (0 : Int) then R (some (xI (-1 : Int))) h1 else Wp m_M_circle 10 [some (xR r0), some (xI i1), o2, o3, o4] [] h1 d mc ms R))) : Wp m_M_circle 0 [some (xR r0), some (xI i1), o2, o3, o4] [] h d mc ms R := Wp_blk ok_M_circle_0 H
def k_M_circle_10 : List AI := [(.aload 0, []), (.invokevirtual 0, [241, 0, 3, 0, 0, 0, 12, 1619, 1621, 93, 136]), (.iconst 1, []), (.iload 1, []), (.ishl, []), (.istore 2, []), (.iconst 0, []), (.istore 3, []), (.nop, [20])]
set_option maxRecDepth 20000 in
theorem ok_M_circle_10 : okB m_M_circle 10 k_M_circle_10 = true := by decide +kernel
set_option maxRecDepth 20000 in
theorem b_M_circle_10 (r0 : Nat) (i1 : Int) (o2 : Option AV) (o3 : Option AV) (o4 : Option AV) {h : Hp} {d mc ms : Nat} {R : PR} (H : ((1 ≤ d ∧ 0 ≤ mc ∧ 0 ≤ ms ∧ (hpT h r0).1 = 12) ∧ ∃ Q1 : PR, Wp m_M_laysClashes 0 [some (xR r0), none, none] [] h (d - 1) 0 0 Q1 ∧ ∀ (h1 : Hp), Q1 none h1 → Wp m_M_circle 20 [some (xR r0), some (xI i1), some (xI (ai_shl (1 : Int) i1)), some (xI (0 : Int)), o4] [] h1 d mc ms R)) : Wp m_M_circle 10 [some (xR r0), some (xI i1), o2, o3, o4] [] h d mc ms R := Wp_blk ok_M_circle_10 H
def k_M_circle_20 : List AI := [(.iload 3, []), (.iload 2, []), (.if_icmp .eq 0, [71]), (.iload 2, []), (.istore 3, []), (.iconst 0, []), (.istore 4, []), (.nop, [30])]
set_option maxRecDepth 20000 in
theorem ok_M_circle_20 : okB m_M_circle 20 k_M_circle_20 = true := by decide +kernel
set_option maxRecDepth 20000 in
theorem b_M_circle_20 (r0 : Nat) (o1 : Option AV) (i2 : Int) (i3 : Int) (o4 : Option AV) {h : Hp} {d mc ms : Nat} {R : PR} (H : (if i3 = i2 then Wp m_M_circle 71 [some (xR r0), o1, some (xI i2), some (xI i3), o4] [] h d mc ms R else Wp m_M_circle 30 [some (xR r0), o1, some (xI i2), some (xI i2), some (xI (0 : Int))] [] h d mc ms R)) : Wp m_M_circle 20 [some (xR r0), o1, some (xI i2), some (xI i3), o4] [] h d mc ms R := Wp_blk ok_M_circle_20 H
def k_M_circle_30 : List AI := [(.iload 4, []), (.aload 0, []), (.getfield 0, [12, 0, 2, 1225]), (.iconst 7, []), (.iaload, [20]), (.if_icmp .ge 0, [68]), (.iload 3, []), (.iload 4, []), (.ishr, []), (.iconst 1, []), (.iand, []), (.iconst 1, []), (.if_icmp .ne 0, [62]), (.iload 2, []), (.aload 0, []), (.getfield 0, [12, 23, 2, 1248]), (.iload 4, []), (.iaload, [20]), (.ior, []), (.istore 2, []), (.nop, [62])]
set_option maxRecDepth 20000 in
theorem ok_M_circle_30 : okB m_M_circle 30 k_M_circle_30 = true := by decide +kernel
set_option maxRecDepth 20000 in
theorem b_M_circle_30 (r0 : Nat) (o1 : Option AV) (i2 : Int) (i3 : Int) (i4 : Int) {h : Hp} {d mc ms : Nat} {R : PR} (H : ((hpT h r0).1 = 12 ∧ (((hpT h (Int.toNat (hpC h r0 0))).1 = 20 ∧ 0 ≤ (7 : Int) ∧ (7 : Int) < ((hpT h (Int.toNat (hpC h r0 0))).2 : Int)) ∧ (if i4 < (hpC h (Int.toNat (hpC h r0 0)) (Int.toNat (7 : Int))) then (if (ai_and (ai_shr i3 i4) (1 : Int)) = (1 : Int) then ((hpT h r0).1 = 12 ∧ (((hpT h (Int.toNat (hpC h r0 23))).1 = 20 ∧ 0 ≤ i4 ∧ i4 < ((hpT h (Int.toNat (hpC h r0 23))).2 : Int)) ∧ Wp m_M_circle 62 [some (xR r0), x_d2 o1, some (xI (ai_or i2 (hpC h (Int.toNat (hpC h r0 23)) (Int.toNat i4)))), some (xI i3), some (xI i4)] [] h d mc ms R)) else Wp m_M_circle 62 [some (xR r0), o1, some (xI i2), some (xI i3), some (xI i4)] [] h d mc ms R) else Wp m_M_circle 68 [some (xR r0), o1, some (xI i2), some (xI i3), some (xI i4)] [] h d mc ms R)))) : Wp m_M_circle 30 [some (xR r0), o1, some (xI i2), some (xI i3), some (xI i4)] [] h d mc ms R := Wp_blk ok_M_circle_30 H
def k_M_circle_62 : List AI := [(.iinc 4 1, []), (.goto 0, []), (.nop, [30])]
set_option maxRecDepth 20000 in
theorem ok_M_circle_62 : okB m_M_circle 62 k_M_circle_62 = true := by decide +kernel
set_option maxRecDepth 20000 in
theorem b_M_circle_62 (r0 : Nat) (o1 : Option AV) (i2 : Int) (i3 : Int) (i4 : Int) {h : Hp} {d mc ms : Nat} {R : PR} (H : Wp m_M_circle 30 [some (xR r0), o1, some (xI i2), some (xI i3), some (xI (ai_add i4 1))] [] h d mc ms R) : Wp m_M_circle 62 [some (xR r0), o1, some (xI i2), some (xI i3), some (xI i4)] [] h d mc ms R := Wp_blk ok_M_circle_62 H
def k_M_circle_68 : List AI := [(.goto 0, []), (.nop, [20])]
set_option maxRecDepth 20000 in
theorem ok_M_circle_68 : okB m_M_circle 68 k_M_circle_68 = true := by decide +kernel
set_option maxRecDepth 20000 in
theorem b_M_circle_68 (r0 : Nat) (o1 : Option AV) (i2 : Int) (i3 : Int) (o4 : Option AV) {h : Hp} {d mc ms : Nat} {R : PR} (H : Wp m_M_circle 20 [some (xR r0), o1, some (xI i2), some (xI i3), o4] [] h d mc ms R) : Wp m_M_circle 68 [some (xR r0), o1, some (xI i2), some (xI i3), o4] [] h d mc ms R := Wp_blk ok_M_circle_68 H
def k_M_circle_71 : List AI := [(.iload 2, []), (.ireturn, [1])]
set_option maxRecDepth 20000 in
theorem ok_M_circle_71 : okB m_M_circle 71 k_M_circle_71 = true := by decide +kernel
set_option maxRecDepth 20000 in
theorem b_M_circle_71 (o0 : Option AV) (o1 : Option AV) (i2 : Int) (o3 : Option AV) (o4 : Option AV) {h : Hp} {d mc ms : Nat} {R : PR} (H : R (some (xI i2)) h) : Wp m_M_circle 71 [o0, o1, some (xI i2), o3, o4] [] h d mc ms R := Wp_blk ok_M_circle_71 H
def k_M_laysClashes_0 : List AI := [(.iconst 0, []), (.istore 1, []), (.nop, [2])]
set_option maxRecDepth 20000 in
theorem ok_M_laysClashes_0 : okB m_M_laysClashes 0 k_M_laysClashes_0 = true := by decide +kernel
set_option maxRecDepth 20000 in
theorem b_M_laysClashes_0 (r0 : Nat) (o1 : Option AV) (o2 : Option AV) {h : Hp} {d mc ms : Nat} {R : PR} (H : Wp m_M_laysClashes 2 [some (xR r0), some (xI (0 : Int)), o2] [] h d mc ms R) : Wp m_M_laysClashes 0 [some (xR r0), o1, o2] [] h d mc ms R := Wp_blk ok_M_laysClashes_0 H
def k_M_laysClashes_2 : List AI := [(.iload 1, []), (.aload 0, []), (.getfield 0, [12, 0, 2, 1225]), (.iconst 7, []), (.iaload, [20]), (.if_icmp .ge 0, [71]), (.aload 0, []), (.getfield 0, [12, 23, 2, 1248]), (.iload 1, []), (.iconst 0, []), (.iastore, []), (.iconst 0, []), (.istore 2, []), (.nop, [22])]
set_option maxRecDepth 20000 in
theorem ok_M_laysClashes_2 : okB m_M_laysClashes 2 k_M_laysClashes_2 = true := by decide +kernel
set_option maxRecDepth 20000 in
theorem b_M_laysClashes_2 (r0 : Nat) (i1 : Int) (o2 : Option AV) {h : Hp} {d mc ms : Nat} {R : PR} (H : ((hpT h r0).1 = 12 ∧ (((hpT h (Int.toNat (hpC h r0 0))).1 = 20 ∧ 0 ≤ (7 : Int) ∧ (7 : Int) < ((hpT h (Int.toNat (hpC h r0 0))).2 : Int)) ∧ (if i1 < (hpC h (Int.toNat (hpC h r0 0)) (Int.toNat (7 : Int))) then ((hpT h r0).1 = 12 ∧ (((hpT h (Int.toNat (hpC h r0 23))).1 = 20 ∧ 0 ≤ i1 ∧ i1 < ((hpT h (Int.toNat (hpC h r0 23))).2 : Int)) ∧ ∀ g1 : Hp, g1 = hpU h (Int.toNat (hpC h r0 23)) (Int.toNat i1) (0 : Int) → Wp m_M_laysClashes 22 [some (xR r0), some (xI i1), some (xI (0 : Int))] [] g1 d mc ms R)) else Wp m_M_laysClashes 71 [some (xR r0), some (xI i1), o2] [] h d mc ms R)))) : Wp m_M_laysClashes 2 [some (xR r0), some (xI i1), o2] [] h d mc ms R := Wp_blk ok_M_laysClashes_2 H
def k_M_laysClashes_22 : List AI := [(.iload 2, []), (.aload 0, []), (.getfield 0, [12, 0, 2, 1225]), (.iconst 7, []), (.iaload, [20]), (.if_icmp .ge 0, [65]), (.iload 2, []), (.iload 1, []), (.if_icmp .eq 0, [59]), (.aload 0, []), (.iload 1, []), (.iload 2, []), (.invokevirtual 0, [239, 2, 3, 0, 0, 1, 12, 1611, 1613, 92, 136]), (.ifCond .eq 0, [59]), (.aload 0, []), (.getfield 0, [12, 23, 2, 1248]), (.iload 1, []), (.dup2, []), (.iaload, [20]), (.iconst 1, []), (.iload 2, []), (.ishl, []), (.ior, []), (.iastore, []), (.nop, [59])]
set_option maxRecDepth 20000 in
theorem ok_M_laysClashes_22 : okB m_M_laysClashes 22 k_M_laysClashes_22 = true := by decide +kernel
set_option maxRecDepth 20000 in
theorem b_M_laysClashes_22 (r0 : Nat) (i1 : Int) (i2 : Int) {h : Hp} {d mc ms : Nat} {R : PR} (H : ((hpT h r0).1 = 12 ∧ (((hpT h (Int.toNat (hpC h r0 0))).1 = 20 ∧ 0 ≤ (7 : Int) ∧ (7 : Int) < ((hpT h (Int.toNat (hpC h r0 0))).2 : Int)) ∧ (if i2 < (hpC h (Int.toNat (hpC h r0 0)) (Int.toNat (7 : Int))) then (if i2 = i1 then Wp m_M_laysClashes 59 [some (xR r0), some (xI i1), some (xI i2)] [] h d mc ms R else ((1 ≤ d ∧ 0 ≤ mc ∧ 0 ≤ ms ∧ (hpT h r0).1 = 12) ∧ ∃ Q1 : PR, Wp m_M_areAlike 0 [some (xR r0), some (xI i1), some (xI i2)] [] h (d - 1) 0 0 Q1 ∧ ∀ (v1 : Int) (h1 : Hp), Q1 (some (xI v1)) h1 → (if v1 = (0 : Int) then Wp m_M_laysClashes 59 [some (xR r0), some (xI i1), some (xI i2)] [] h1 d mc ms R else ((hpT h1 r0).1 = 12 ∧ (((hpT h1 (Int.toNat (hpC h1 r0 23))).1 = 20 ∧ 0 ≤ i1 ∧ i1 < ((hpT h1 (Int.toNat (hpC h1 r0 23))).2 : Int)) ∧ (((hpT h1 (Int.toNat (hpC h1 r0 23))).1 = 20 ∧ 0 ≤ i1 ∧ i1 < ((hpT h1 (Int.toNat (hpC h1 r0 23))).2 : Int)) ∧ ∀ g1 : Hp, g1 = hpU h1 (Int.toNat (hpC h1 r0 23)) (Int.toNat i1) (ai_or (hpC h1 (Int.toNat (hpC h1 r0 23)) (Int.toNat i1)) (ai_shl (1 : Int) i2)) → Wp m_M_laysClashes 59 [some (xR r0), some (xI i1), some (xI i2)] [] g1 d mc ms R)))))) else Wp m_M_laysClashes 65 [some (xR r0), some (xI i1), some (xI i2)] [] h d mc ms R)))) : Wp m_M_laysClashes 22 [some (xR r0), some (xI i1), some (xI i2)] [] h d mc ms R := Wp_blk ok_M_laysClashes_22 H
def k_M_laysClashes_59 : List AI := [(.iinc 2 1, []), (.goto 0, []), (.nop, [22])]
set_option maxRecDepth 20000 in
theorem ok_M_laysClashes_59 : okB m_M_laysClashes 59 k_M_laysClashes_59 = true := by decide +kernel
set_option maxRecDepth 20000 in
theorem b_M_laysClashes_59 (r0 : Nat) (i1 : Int) (i2 : Int) {h : Hp} {d mc ms : Nat} {R : PR} (H : Wp m_M_laysClashes 22 [some (xR r0), some (xI i1), some (xI (ai_add i2 1))] [] h d mc ms R) : Wp m_M_laysClashes 59 [some (xR r0), some (xI i1), some (xI i2)] [] h d mc ms R := Wp_blk ok_M_laysClashes_59 H
def k_M_laysClashes_65 : List AI := [(.iinc 1 1, []), (.goto 0, []), (.nop, [2])]
set_option maxRecDepth 20000 in
theorem ok_M_laysClashes_65 : okB m_M_laysClashes 65 k_M_laysClashes_65 = true := by decide +kernel
set_option maxRecDepth 20000 in
theorem b_M_laysClashes_65 (r0 : Nat) (i1 : Int) (o2 : Option AV) {h : Hp} {d mc ms : Nat} {R : PR} (H : Wp m_M_laysClashes 2 [some (xR r0), some (xI (ai_add i1 1)), o2] [] h d mc ms R) : Wp m_M_laysClashes 65 [some (xR r0), some (xI i1), o2] [] h d mc ms R := Wp_blk ok_M_laysClashes_65 H
def k_M_laysClashes_71 : List AI := [(.return_, [])]
set_option maxRecDepth 20000 in
theorem ok_M_laysClashes_71 : okB m_M_laysClashes 71 k_M_laysClashes_71 = true := by decide +kernel
set_option maxRecDepth 20000 in
theorem b_M_laysClashes_71 (o0 : Option AV) (o1 : Option AV) (o2 : Option AV) {h : Hp} {d mc ms : Nat} {R : PR} (H : R none h) : Wp m_M_laysClashes 71 [o0, o1, o2] [] h d mc ms R := Wp_blk ok_M_laysClashes_71 H
def k_M_least_0 : List AI := [(.aload 0, []), (.invokevirtual 0, [241, 0, 3, 0, 0, 0, 12, 1619, 1621, 93, 136]), (.iconst 1, []), (.aload 0, []), (.getfield 0, [12, 0, 2, 1225]), (.iconst 7, []), (.iaload, [20]), (.ishl, []), (.iconst 1, []), (.isub, []), (.istore 1, []), (.aload 0, []), (.getfield 0, [12, 0, 2, 1225]), (.iconst 7, []), (.iaload, [20]), (.istore 2, []), (.iconst 0, []), (.istore 3, []), (.nop, [26])]
set_option maxRecDepth 20000 in
theorem ok_M_least_0 : okB m_M_least 0 k_M_least_0 = true := by decide +kernel
set_option maxRecDepth 20000 in
theorem b_M_least_0 (r0 : Nat) (o1 : Option AV) (o2 : Option AV) (o3 : Option AV) {h : Hp} {d mc ms : Nat} {R : PR} (H : ((1 ≤ d ∧ 0 ≤ mc ∧ 0 ≤ ms ∧ (hpT h r0).1 = 12) ∧ ∃ Q1 : PR, Wp m_M_laysClashes 0 [some (xR r0), none, none] [] h (d - 1) 0 0 Q1 ∧ ∀ (h1 : Hp), Q1 none h1 → ((hpT h1 r0).1 = 12 ∧ (((hpT h1 (Int.toNat (hpC h1 r0 0))).1 = 20 ∧ 0 ≤ (7 : Int) ∧ (7 : Int) < ((hpT h1 (Int.toNat (hpC h1 r0 0))).2 : Int)) ∧ ((hpT h1 r0).1 = 12 ∧ (((hpT h1 (Int.toNat (hpC h1 r0 0))).1 = 20 ∧ 0 ≤ (7 : Int) ∧ (7 : Int) < ((hpT h1 (Int.toNat (hpC h1 r0 0))).2 : Int)) ∧ Wp m_M_least 26 [some (xR r0), some (xI (ai_sub (ai_shl (1 : Int) (hpC h1 (Int.toNat (hpC h1 r0 0)) (Int.toNat (7 : Int)))) (1 : Int))), some (xI (hpC h1 (Int.toNat (hpC h1 r0 0)) (Int.toNat (7 : Int)))), some (xI (0 : Int))] [] h1 d mc ms R)))))) : Wp m_M_least 0 [some (xR r0), o1, o2, o3] [] h d mc ms R := Wp_blk ok_M_least_0 H
def k_M_least_26 : List AI := [(.iload 3, []), (.iload 1, []), (.if_icmp .gt 0, [62]), (.iload 3, []), (.invokestatic 0, [212, 1, 3, 0, 0, 1, 1507, 1508, 136]), (.iload 2, []), (.if_icmp .ge 0, [56]), (.aload 0, []), (.iload 1, []), (.iload 3, []), (.iconst (-1), []), (.ixor, []), (.iand, []), (.invokevirtual 0, [243, 1, 3, 0, 0, 1, 12, 1627, 1629, 94, 136]), (.ifCond .eq 0, [56]), (.iload 3, []), (.invokestatic 0, [212, 1, 3, 0, 0, 1, 1507, 1508, 136]), (.istore 2, []), (.nop, [56])]
set_option maxRecDepth 20000 in
theorem ok_M_least_26 : okB m_M_least 26 k_M_least_26 = true := by decide +kernel
set_option maxRecDepth 20000 in
theorem b_M_least_26 (r0 : Nat) (i1 : Int) (i2 : Int) (i3 : Int) {h : Hp} {d mc ms : Nat} {R : PR} (H : (if i1 < i3 then Wp m_M_least 62 [some (xR r0), some (xI i1), some (xI i2), some (xI i3)] [] h d mc ms R else ((1 ≤ d ∧ 0 ≤ mc ∧ 0 ≤ ms) ∧ ∃ Q1 : PR, Wp m_M_bits 0 [some (xI i3), none, none] [] h (d - 1) 0 0 Q1 ∧ ∀ (v1 : Int) (h1 : Hp), Q1 (some (xI v1)) h1 → (if v1 < i2 then ((1 ≤ d ∧ 0 ≤ mc ∧ 0 ≤ ms ∧ (hpT h1 r0).1 = 12) ∧ ∃ Q2 : PR, Wp m_M_areApart 0 [some (xR r0), some (xI (ai_and i1 (ai_xor i3 (-1 : Int)))), none] [] h1 (d - 1) 0 0 Q2 ∧ ∀ (v2 : Int) (h2 : Hp), Q2 (some (xI v2)) h2 → (if v2 = (0 : Int) then Wp m_M_least 56 [some (xR r0), some (xI i1), some (xI i2), some (xI i3)] [] h2 d mc ms R else ((1 ≤ d ∧ 0 ≤ mc ∧ 0 ≤ ms) ∧ ∃ Q3 : PR, Wp m_M_bits 0 [some (xI i3), none, none] [] h2 (d - 1) 0 0 Q3 ∧ ∀ (v3 : Int) (h3 : Hp), Q3 (some (xI v3)) h3 → Wp m_M_least 56 [some (xR r0), some (xI i1), some (xI v3), some (xI i3)] [] h3 d mc ms R))) else Wp m_M_least 56 [some (xR r0), some (xI i1), some (xI i2), some (xI i3)] [] h1 d mc ms R)))) : Wp m_M_least 26 [some (xR r0), some (xI i1), some (xI i2), some (xI i3)] [] h d mc ms R := Wp_blk ok_M_least_26 H
def k_M_least_56 : List AI := [(.iinc 3 1, []), (.goto 0, []), (.nop, [26])]
set_option maxRecDepth 20000 in
theorem ok_M_least_56 : okB m_M_least 56 k_M_least_56 = true := by decide +kernel
set_option maxRecDepth 20000 in
theorem b_M_least_56 (r0 : Nat) (i1 : Int) (i2 : Int) (i3 : Int) {h : Hp} {d mc ms : Nat} {R : PR} (H : Wp m_M_least 26 [some (xR r0), some (xI i1), some (xI i2), some (xI (ai_add i3 1))] [] h d mc ms R) : Wp m_M_least 56 [some (xR r0), some (xI i1), some (xI i2), some (xI i3)] [] h d mc ms R := Wp_blk ok_M_least_56 H
def k_M_least_62 : List AI := [(.iload 2, []), (.ireturn, [1])]
set_option maxRecDepth 20000 in
theorem ok_M_least_62 : okB m_M_least 62 k_M_least_62 = true := by decide +kernel
set_option maxRecDepth 20000 in
theorem b_M_least_62 (o0 : Option AV) (o1 : Option AV) (i2 : Int) (o3 : Option AV) {h : Hp} {d mc ms : Nat} {R : PR} (H : R (some (xI i2)) h) : Wp m_M_least 62 [o0, o1, some (xI i2), o3] [] h d mc ms R := Wp_blk ok_M_least_62 H
def k_M_areApart_0 : List AI := [(.iconst 0, []), (.istore 2, []), (.nop, [2])]
set_option maxRecDepth 20000 in
theorem ok_M_areApart_0 : okB m_M_areApart 0 k_M_areApart_0 = true := by decide +kernel
set_option maxRecDepth 20000 in
theorem b_M_areApart_0 (r0 : Nat) (i1 : Int) (o2 : Option AV) {h : Hp} {d mc ms : Nat} {R : PR} (H : Wp m_M_areApart 2 [some (xR r0), some (xI i1), some (xI (0 : Int))] [] h d mc ms R) : Wp m_M_areApart 0 [some (xR r0), some (xI i1), o2] [] h d mc ms R := Wp_blk ok_M_areApart_0 H
def k_M_areApart_2 : List AI := [(.iload 2, []), (.aload 0, []), (.getfield 0, [12, 0, 2, 1225]), (.iconst 7, []), (.iaload, [20]), (.if_icmp .ge 0, [41]), (.iload 1, []), (.iload 2, []), (.ishr, []), (.iconst 1, []), (.iand, []), (.iconst 1, []), (.if_icmp .ne 0, [35]), (.aload 0, []), (.getfield 0, [12, 23, 2, 1248]), (.iload 2, []), (.iaload, [20]), (.iload 1, []), (.iand, []), (.ifCond .eq 0, [35]), (.iconst 0, []), (.ireturn, [3])]
set_option maxRecDepth 20000 in
theorem ok_M_areApart_2 : okB m_M_areApart 2 k_M_areApart_2 = true := by decide +kernel
set_option maxRecDepth 20000 in
theorem b_M_areApart_2 (r0 : Nat) (i1 : Int) (i2 : Int) {h : Hp} {d mc ms : Nat} {R : PR} (H : ((hpT h r0).1 = 12 ∧ (((hpT h (Int.toNat (hpC h r0 0))).1 = 20 ∧ 0 ≤ (7 : Int) ∧ (7 : Int) < ((hpT h (Int.toNat (hpC h r0 0))).2 : Int)) ∧ (if i2 < (hpC h (Int.toNat (hpC h r0 0)) (Int.toNat (7 : Int))) then (if (ai_and (ai_shr i1 i2) (1 : Int)) = (1 : Int) then ((hpT h r0).1 = 12 ∧ (((hpT h (Int.toNat (hpC h r0 23))).1 = 20 ∧ 0 ≤ i2 ∧ i2 < ((hpT h (Int.toNat (hpC h r0 23))).2 : Int)) ∧ (if (ai_and (hpC h (Int.toNat (hpC h r0 23)) (Int.toNat i2)) i1) = (0 : Int) then Wp m_M_areApart 35 [some (xR r0), some (xI i1), some (xI i2)] [] h d mc ms R else (((0 : Int) = 0 ∨ (0 : Int) = 1) ∧ R (some (xI (0 : Int))) h)))) else Wp m_M_areApart 35 [some (xR r0), some (xI i1), some (xI i2)] [] h d mc ms R) else Wp m_M_areApart 41 [some (xR r0), some (xI i1), some (xI i2)] [] h d mc ms R)))) : Wp m_M_areApart 2 [some (xR r0), some (xI i1), some (xI i2)] [] h d mc ms R := Wp_blk ok_M_areApart_2 H
def k_M_areApart_35 : List AI := [(.iinc 2 1, []), (.goto 0, []), (.nop, [2])]
set_option maxRecDepth 20000 in
theorem ok_M_areApart_35 : okB m_M_areApart 35 k_M_areApart_35 = true := by decide +kernel
set_option maxRecDepth 20000 in
theorem b_M_areApart_35 (r0 : Nat) (i1 : Int) (i2 : Int) {h : Hp} {d mc ms : Nat} {R : PR} (H : Wp m_M_areApart 2 [some (xR r0), some (xI i1), some (xI (ai_add i2 1))] [] h d mc ms R) : Wp m_M_areApart 35 [some (xR r0), some (xI i1), some (xI i2)] [] h d mc ms R := Wp_blk ok_M_areApart_35 H
def k_M_areApart_41 : List AI := [(.iconst 1, []), (.ireturn, [3])]
set_option maxRecDepth 20000 in
theorem ok_M_areApart_41 : okB m_M_areApart 41 k_M_areApart_41 = true := by decide +kernel
set_option maxRecDepth 20000 in
theorem b_M_areApart_41 (o0 : Option AV) (o1 : Option AV) (o2 : Option AV) {h : Hp} {d mc ms : Nat} {R : PR} (H : (((1 : Int) = 0 ∨ (1 : Int) = 1) ∧ R (some (xI (1 : Int))) h)) : Wp m_M_areApart 41 [o0, o1, o2] [] h d mc ms R := Wp_blk ok_M_areApart_41 H
def k_M_why_0 : List AI := [(.aload 0, []), (.iload 1, []), (.invokevirtual 0, [215, 1, 2, 0, 0, 1, 12, 1518, 1520, 81, 136]), (.ifCond .eq 0, [25]), (.iload 2, []), (.iconst 0, []), (.aload 0, []), (.getfield 0, [12, 0, 2, 1225]), (.iconst 6, []), (.iaload, [20]), (.iconst 1, []), (.isub, []), (.invokestatic 0, [187, 3, 3, 0, 0, 1, 1409, 1410, 136]), (.ifCond .ne 0, [27]), (.nop, [25])]
set_option maxRecDepth 20000 in
theorem ok_M_why_0 : okB m_M_why 0 k_M_why_0 = true := by decide +kernel
set_option maxRecDepth 20000 in
theorem b_M_why_0 (r0 : Nat) (i1 : Int) (i2 : Int) {h : Hp} {d mc ms : Nat} {R : PR} (H : ((1 ≤ d ∧ 0 ≤ mc ∧ 0 ≤ ms ∧ (hpT h r0).1 = 12) ∧ ∃ Q1 : PR, Wp m_M_isStreet 0 [some (xR r0), some (xI i1)] [] h (d - 1) 0 0 Q1 ∧ ∀ (v1 : Int) (h1 : Hp), Q1 (some (xI v1)) h1 → (if v1 = (0 : Int) then Wp m_M_why 25 [some (xR r0), some (xI i1), some (xI i2)] [] h1 d mc ms R else ((hpT h1 r0).1 = 12 ∧ (((hpT h1 (Int.toNat (hpC h1 r0 0))).1 = 20 ∧ 0 ≤ (6 : Int) ∧ (6 : Int) < ((hpT h1 (Int.toNat (hpC h1 r0 0))).2 : Int)) ∧ ((1 ≤ d ∧ 0 ≤ mc ∧ 0 ≤ ms) ∧ ∃ Q2 : PR, Wp m_M_isIn 0 [some (xI i2), some (xI (0 : Int)), some (xI (ai_sub (hpC h1 (Int.toNat (hpC h1 r0 0)) (Int.toNat (6 : Int))) (1 : Int)))] [] h1 (d - 1) 0 0 Q2 ∧ ∀ (v2 : Int) (h2 : Hp), Q2 (some (xI v2)) h2 → (if v2 = (0 : Int) then Wp m_M_why 25 [some (xR r0), some (xI i1), some (xI i2)] [] h2 d mc ms R else Wp m_M_why 27 [some (xR r0), some (xI i1), some (xI i2)] [] h2 d mc ms R))))))) : Wp m_M_why 0 [some (xR r0), some (xI i1), some (xI i2)] [] h d mc ms R := Wp_blk ok_M_why_0 H
def k_M_why_25 : List AI := [(.iconst (-1), []), (.ireturn, [1])]
set_option maxRecDepth 20000 in
theorem ok_M_why_25 : okB m_M_why 25 k_M_why_25 = true := by decide +kernel
set_option maxRecDepth 20000 in
theorem b_M_why_25 (o0 : Option AV) (o1 : Option AV) (o2 : Option AV) {h : Hp} {d mc ms : Nat} {R : PR} (H : R (some (xI (-1 : Int))) h) : Wp m_M_why 25 [o0, o1, o2] [] h d mc ms R := Wp_blk ok_M_why_25 H
def k_M_why_27 : List AI := [(.aload 0, []), (.iload 2, []), (.invokevirtual 0, [245, 1, 3, 0, 0, 1, 12, 1635, 1637, 95, 136]), (.ifCond .eq 0, [37]), (.iconst 1, []), (.ireturn, [1])]
set_option maxRecDepth 20000 in
theorem ok_M_why_27 : okB m_M_why 27 k_M_why_27 = true := by decide +kernel
set_option maxRecDepth 20000 in
theorem b_M_why_27 (r0 : Nat) (i1 : Int) (i2 : Int) {h : Hp} {d mc ms : Nat} {R : PR} (H : ((1 ≤ d ∧ 0 ≤ mc ∧ 0 ≤ ms ∧ (hpT h r0).1 = 12) ∧ ∃ Q1 : PR, Wp m_M_isTaken 0 [some (xR r0), some (xI i2), none] [] h (d - 1) 0 0 Q1 ∧ ∀ (v1 : Int) (h1 : Hp), Q1 (some (xI v1)) h1 → (if v1 = (0 : Int) then Wp m_M_why 37 [some (xR r0), some (xI i1), some (xI i2)] [] h1 d mc ms R else R (some (xI (1 : Int))) h1))) : Wp m_M_why 27 [some (xR r0), some (xI i1), some (xI i2)] [] h d mc ms R := Wp_blk ok_M_why_27 H
def k_M_why_37 : List AI := [(.aload 0, []), (.iload 1, []), (.iload 2, []), (.invokevirtual 0, [246, 2, 4, 0, 0, 1, 12, 1639, 1641, 96, 136]), (.ifCond .eq 0, [48]), (.iconst 2, []), (.ireturn, [1])]
set_option maxRecDepth 20000 in
theorem ok_M_why_37 : okB m_M_why 37 k_M_why_37 = true := by decide +kernel
set_option maxRecDepth 20000 in
theorem b_M_why_37 (r0 : Nat) (i1 : Int) (i2 : Int) {h : Hp} {d mc ms : Nat} {R : PR} (H : ((1 ≤ d ∧ 0 ≤ mc ∧ 0 ≤ ms ∧ (hpT h r0).1 = 12) ∧ ∃ Q1 : PR, Wp m_M_isLikeAnother 0 [some (xR r0), some (xI i1), some (xI i2), none] [] h (d - 1) 0 0 Q1 ∧ ∀ (v1 : Int) (h1 : Hp), Q1 (some (xI v1)) h1 → (if v1 = (0 : Int) then Wp m_M_why 48 [some (xR r0), some (xI i1), some (xI i2)] [] h1 d mc ms R else R (some (xI (2 : Int))) h1))) : Wp m_M_why 37 [some (xR r0), some (xI i1), some (xI i2)] [] h d mc ms R := Wp_blk ok_M_why_37 H
def k_M_why_48 : List AI := [(.aload 0, []), (.iload 1, []), (.iload 2, []), (.invokevirtual 0, [247, 2, 4, 0, 0, 1, 12, 1643, 1645, 97, 136]), (.ifCond .eq 0, [59]), (.iconst 3, []), (.ireturn, [1])]
set_option maxRecDepth 20000 in
theorem ok_M_why_48 : okB m_M_why 48 k_M_why_48 = true := by decide +kernel
set_option maxRecDepth 20000 in
theorem b_M_why_48 (r0 : Nat) (i1 : Int) (i2 : Int) {h : Hp} {d mc ms : Nat} {R : PR} (H : ((1 ≤ d ∧ 0 ≤ mc ∧ 0 ≤ ms ∧ (hpT h r0).1 = 12) ∧ ∃ Q1 : PR, Wp m_M_isLikeAlias 0 [some (xR r0), some (xI i1), some (xI i2), none] [] h (d - 1) 0 0 Q1 ∧ ∀ (v1 : Int) (h1 : Hp), Q1 (some (xI v1)) h1 → (if v1 = (0 : Int) then Wp m_M_why 59 [some (xR r0), some (xI i1), some (xI i2)] [] h1 d mc ms R else R (some (xI (3 : Int))) h1))) : Wp m_M_why 48 [some (xR r0), some (xI i1), some (xI i2)] [] h d mc ms R := Wp_blk ok_M_why_48 H
def k_M_why_59 : List AI := [(.aload 0, []), (.getfield 0, [12, 0, 2, 1225]), (.iconst 8, []), (.iaload, [20]), (.iconst 30, []), (.if_icmp .ge 0, [75]), (.iconst 0, []), (.goto 0, []), (.nop, [76])]
set_option maxRecDepth 20000 in
theorem ok_M_why_59 : okB m_M_why 59 k_M_why_59 = true := by decide +kernel
set_option maxRecDepth 20000 in
theorem b_M_why_59 (r0 : Nat) (o1 : Option AV) (o2 : Option AV) {h : Hp} {d mc ms : Nat} {R : PR} (H : ((hpT h r0).1 = 12 ∧ (((hpT h (Int.toNat (hpC h r0 0))).1 = 20 ∧ 0 ≤ (8 : Int) ∧ (8 : Int) < ((hpT h (Int.toNat (hpC h r0 0))).2 : Int)) ∧ (if (hpC h (Int.toNat (hpC h r0 0)) (Int.toNat (8 : Int))) < (30 : Int) then Wp m_M_why 76 [some (xR r0), o1, o2] [xI (0 : Int)] h d mc ms R else Wp m_M_why 75 [some (xR r0), o1, o2] [] h d mc ms R)))) : Wp m_M_why 59 [some (xR r0), o1, o2] [] h d mc ms R := Wp_blk ok_M_why_59 H
def k_M_why_75 : List AI := [(.iconst 4, []), (.nop, [76])]
set_option maxRecDepth 20000 in
theorem ok_M_why_75 : okB m_M_why 75 k_M_why_75 = true := by decide +kernel
set_option maxRecDepth 20000 in
theorem b_M_why_75 (o0 : Option AV) (o1 : Option AV) (o2 : Option AV) {h : Hp} {d mc ms : Nat} {R : PR} (H : Wp m_M_why 76 [o0, o1, o2] [xI (4 : Int)] h d mc ms R) : Wp m_M_why 75 [o0, o1, o2] [] h d mc ms R := Wp_blk ok_M_why_75 H
def k_M_why_76 : List AI := [(.ireturn, [1])]
set_option maxRecDepth 20000 in
theorem ok_M_why_76 : okB m_M_why 76 k_M_why_76 = true := by decide +kernel
set_option maxRecDepth 20000 in
theorem b_M_why_76 (o0 : Option AV) (o1 : Option AV) (o2 : Option AV) (p0 : Int) {h : Hp} {d mc ms : Nat} {R : PR} (H : R (some (xI p0)) h) : Wp m_M_why 76 [o0, o1, o2] [xI p0] h d mc ms R := Wp_blk ok_M_why_76 H
def k_M_isTaken_0 : List AI := [(.aload 0, []), (.iconst 60, []), (.iconst 10, []), (.iload 1, []), (.imul, []), (.iadd, []), (.invokevirtual 0, [218, 1, 2, 0, 0, 0, 12, 1530, 1532, 83, 136]), (.iconst 0, []), (.istore 2, []), (.nop, [13])]
set_option maxRecDepth 20000 in
theorem ok_M_isTaken_0 : okB m_M_isTaken 0 k_M_isTaken_0 = true := by decide +kernel
set_option maxRecDepth 20000 in
theorem b_M_isTaken_0 (r0 : Nat) (i1 : Int) (o2 : Option AV) {h : Hp} {d mc ms : Nat} {R : PR} (H : ((1 ≤ d ∧ 0 ≤ mc ∧ 0 ≤ ms ∧ (hpT h r0).1 = 12) ∧ ∃ Q1 : PR, Wp m_M_takesWord 0 [some (xR r0), some (xI (ai_add (60 : Int) (ai_mul (10 : Int) i1)))] [] h (d - 1) 0 0 Q1 ∧ ∀ (h1 : Hp), Q1 none h1 → Wp m_M_isTaken 13 [some (xR r0), some (xI i1), some (xI (0 : Int))] [] h1 d mc ms R)) : Wp m_M_isTaken 0 [some (xR r0), some (xI i1), o2] [] h d mc ms R := Wp_blk ok_M_isTaken_0 H
def k_M_isTaken_13 : List AI := [(.iload 2, []), (.aload 0, []), (.getfield 0, [12, 0, 2, 1225]), (.iconst 7, []), (.iaload, [20]), (.if_icmp .ge 0, [47]), (.aload 0, []), (.iconst 180, []), (.iconst 10, []), (.iload 2, []), (.imul, []), (.iadd, []), (.invokevirtual 0, [233, 1, 3, 0, 0, 1, 12, 1588, 1590, 90, 136]), (.ifCond .eq 0, [41]), (.iconst 1, []), (.ireturn, [3])]
set_option maxRecDepth 20000 in
theorem ok_M_isTaken_13 : okB m_M_isTaken 13 k_M_isTaken_13 = true := by decide +kernel
set_option maxRecDepth 20000 in
theorem b_M_isTaken_13 (r0 : Nat) (o1 : Option AV) (i2 : Int) {h : Hp} {d mc ms : Nat} {R : PR} (H : ((hpT h r0).1 = 12 ∧ (((hpT h (Int.toNat (hpC h r0 0))).1 = 20 ∧ 0 ≤ (7 : Int) ∧ (7 : Int) < ((hpT h (Int.toNat (hpC h r0 0))).2 : Int)) ∧ (if i2 < (hpC h (Int.toNat (hpC h r0 0)) (Int.toNat (7 : Int))) then ((1 ≤ d ∧ 0 ≤ mc ∧ 0 ≤ ms ∧ (hpT h r0).1 = 12) ∧ ∃ Q1 : PR, Wp m_M_isWord 0 [some (xR r0), some (xI (ai_add (180 : Int) (ai_mul (10 : Int) i2))), none] [] h (d - 1) 0 0 Q1 ∧ ∀ (v1 : Int) (h1 : Hp), Q1 (some (xI v1)) h1 → (if v1 = (0 : Int) then Wp m_M_isTaken 41 [some (xR r0), o1, some (xI i2)] [] h1 d mc ms R else (((1 : Int) = 0 ∨ (1 : Int) = 1) ∧ R (some (xI (1 : Int))) h1))) else Wp m_M_isTaken 47 [some (xR r0), o1, some (xI i2)] [] h d mc ms R)))) : Wp m_M_isTaken 13 [some (xR r0), o1, some (xI i2)] [] h d mc ms R := Wp_blk ok_M_isTaken_13 H
def k_M_isTaken_41 : List AI := [(.iinc 2 1, []), (.goto 0, []), (.nop, [13])]
set_option maxRecDepth 20000 in
theorem ok_M_isTaken_41 : okB m_M_isTaken 41 k_M_isTaken_41 = true := by decide +kernel
set_option maxRecDepth 20000 in
theorem b_M_isTaken_41 (r0 : Nat) (o1 : Option AV) (i2 : Int) {h : Hp} {d mc ms : Nat} {R : PR} (H : Wp m_M_isTaken 13 [some (xR r0), x_d2 o1, some (xI (ai_add i2 1))] [] h d mc ms R) : Wp m_M_isTaken 41 [some (xR r0), o1, some (xI i2)] [] h d mc ms R := Wp_blk ok_M_isTaken_41 H
def k_M_isTaken_47 : List AI := [(.iconst 0, []), (.ireturn, [3])]
set_option maxRecDepth 20000 in
theorem ok_M_isTaken_47 : okB m_M_isTaken 47 k_M_isTaken_47 = true := by decide +kernel
set_option maxRecDepth 20000 in
theorem b_M_isTaken_47 (o0 : Option AV) (o1 : Option AV) (o2 : Option AV) {h : Hp} {d mc ms : Nat} {R : PR} (H : (((0 : Int) = 0 ∨ (0 : Int) = 1) ∧ R (some (xI (0 : Int))) h)) : Wp m_M_isTaken 47 [o0, o1, o2] [] h d mc ms R := Wp_blk ok_M_isTaken_47 H
def k_M_isLikeAnother_0 : List AI := [(.iconst 0, []), (.istore 3, []), (.nop, [2])]
set_option maxRecDepth 20000 in
theorem ok_M_isLikeAnother_0 : okB m_M_isLikeAnother 0 k_M_isLikeAnother_0 = true := by decide +kernel
set_option maxRecDepth 20000 in
theorem b_M_isLikeAnother_0 (r0 : Nat) (i1 : Int) (i2 : Int) (o3 : Option AV) {h : Hp} {d mc ms : Nat} {R : PR} (H : Wp m_M_isLikeAnother 2 [some (xR r0), some (xI i1), some (xI i2), some (xI (0 : Int))] [] h d mc ms R) : Wp m_M_isLikeAnother 0 [some (xR r0), some (xI i1), some (xI i2), o3] [] h d mc ms R := Wp_blk ok_M_isLikeAnother_0 H
def k_M_isLikeAnother_2 : List AI := [(.iload 3, []), (.aload 0, []), (.getfield 0, [12, 0, 2, 1225]), (.iconst 7, []), (.iaload, [20]), (.if_icmp .ge 0, [48]), (.iload 3, []), (.iload 1, []), (.if_icmp .eq 0, [42]), (.aload 0, []), (.iconst 60, []), (.iconst 10, []), (.iload 2, []), (.imul, []), (.iadd, []), (.iconst 180, []), (.iconst 10, []), (.iload 3, []), (.imul, []), (.iadd, []), (.invokevirtual 0, [225, 2, 3, 0, 0, 1, 12, 1557, 1559, 87, 136]), (.ifCond .le 0, [42]), (.iconst 1, []), (.ireturn, [3])]
set_option maxRecDepth 20000 in
theorem ok_M_isLikeAnother_2 : okB m_M_isLikeAnother 2 k_M_isLikeAnother_2 = true := by decide +kernel
set_option maxRecDepth 20000 in
theorem b_M_isLikeAnother_2 (r0 : Nat) (i1 : Int) (i2 : Int) (i3 : Int) {h : Hp} {d mc ms : Nat} {R : PR} (H : ((hpT h r0).1 = 12 ∧ (((hpT h (Int.toNat (hpC h r0 0))).1 = 20 ∧ 0 ≤ (7 : Int) ∧ (7 : Int) < ((hpT h (Int.toNat (hpC h r0 0))).2 : Int)) ∧ (if i3 < (hpC h (Int.toNat (hpC h r0 0)) (Int.toNat (7 : Int))) then (if i3 = i1 then Wp m_M_isLikeAnother 42 [some (xR r0), some (xI i1), some (xI i2), some (xI i3)] [] h d mc ms R else ((1 ≤ d ∧ 0 ≤ mc ∧ 0 ≤ ms ∧ (hpT h r0).1 = 12) ∧ ∃ Q1 : PR, Wp m_M_alikeOf 0 [some (xR r0), some (xI (ai_add (60 : Int) (ai_mul (10 : Int) i2))), some (xI (ai_add (180 : Int) (ai_mul (10 : Int) i3)))] [] h (d - 1) 0 0 Q1 ∧ ∀ (v1 : Int) (h1 : Hp), Q1 (some (xI v1)) h1 → (if (0 : Int) < v1 then (((1 : Int) = 0 ∨ (1 : Int) = 1) ∧ R (some (xI (1 : Int))) h1) else Wp m_M_isLikeAnother 42 [some (xR r0), some (xI i1), some (xI i2), some (xI i3)] [] h1 d mc ms R))) else Wp m_M_isLikeAnother 48 [some (xR r0), some (xI i1), some (xI i2), some (xI i3)] [] h d mc ms R)))) : Wp m_M_isLikeAnother 2 [some (xR r0), some (xI i1), some (xI i2), some (xI i3)] [] h d mc ms R := Wp_blk ok_M_isLikeAnother_2 H
def k_M_isLikeAnother_42 : List AI := [(.iinc 3 1, []), (.goto 0, []), (.nop, [2])]
set_option maxRecDepth 20000 in
theorem ok_M_isLikeAnother_42 : okB m_M_isLikeAnother 42 k_M_isLikeAnother_42 = true := by decide +kernel
set_option maxRecDepth 20000 in
theorem b_M_isLikeAnother_42 (r0 : Nat) (i1 : Int) (i2 : Int) (i3 : Int) {h : Hp} {d mc ms : Nat} {R : PR} (H : Wp m_M_isLikeAnother 2 [some (xR r0), some (xI i1), some (xI i2), some (xI (ai_add i3 1))] [] h d mc ms R) : Wp m_M_isLikeAnother 42 [some (xR r0), some (xI i1), some (xI i2), some (xI i3)] [] h d mc ms R := Wp_blk ok_M_isLikeAnother_42 H
def k_M_isLikeAnother_48 : List AI := [(.iconst 0, []), (.ireturn, [3])]
set_option maxRecDepth 20000 in
theorem ok_M_isLikeAnother_48 : okB m_M_isLikeAnother 48 k_M_isLikeAnother_48 = true := by decide +kernel
set_option maxRecDepth 20000 in
theorem b_M_isLikeAnother_48 (o0 : Option AV) (o1 : Option AV) (o2 : Option AV) (o3 : Option AV) {h : Hp} {d mc ms : Nat} {R : PR} (H : (((0 : Int) = 0 ∨ (0 : Int) = 1) ∧ R (some (xI (0 : Int))) h)) : Wp m_M_isLikeAnother 48 [o0, o1, o2, o3] [] h d mc ms R := Wp_blk ok_M_isLikeAnother_48 H
def k_M_isLikeAlias_0 : List AI := [(.iconst 0, []), (.istore 3, []), (.nop, [2])]
set_option maxRecDepth 20000 in
theorem ok_M_isLikeAlias_0 : okB m_M_isLikeAlias 0 k_M_isLikeAlias_0 = true := by decide +kernel
set_option maxRecDepth 20000 in
theorem b_M_isLikeAlias_0 (r0 : Nat) (i1 : Int) (i2 : Int) (o3 : Option AV) {h : Hp} {d mc ms : Nat} {R : PR} (H : Wp m_M_isLikeAlias 2 [some (xR r0), some (xI i1), some (xI i2), some (xI (0 : Int))] [] h d mc ms R) : Wp m_M_isLikeAlias 0 [some (xR r0), some (xI i1), some (xI i2), o3] [] h d mc ms R := Wp_blk ok_M_isLikeAlias_0 H
def k_M_isLikeAlias_2 : List AI := [(.iload 3, []), (.aload 0, []), (.getfield 0, [12, 0, 2, 1225]), (.iconst 8, []), (.iaload, [20]), (.if_icmp .ge 0, [65]), (.aload 0, []), (.iload 3, []), (.invokevirtual 0, [228, 1, 2, 0, 0, 1, 12, 1568, 1570, 88, 136]), (.ifCond .eq 0, [59]), (.aload 0, []), (.getfield 0, [12, 0, 2, 1225]), (.iconst 950, []), (.iload 3, []), (.iadd, []), (.iaload, [20]), (.iload 1, []), (.if_icmp .eq 0, [59]), (.aload 0, []), (.iconst 60, []), (.iconst 10, []), (.iload 2, []), (.imul, []), (.iadd, []), (.iconst 650, []), (.iconst 10, []), (.iload 3, []), (.imul, []), (.iadd, []), (.invokevirtual 0, [225, 2, 3, 0, 0, 1, 12, 1557, 1559, 87, 136]), (.ifCond .le 0, [59]), (.iconst 1, []), (.ireturn, [3])]
set_option maxRecDepth 20000 in
theorem ok_M_isLikeAlias_2 : okB m_M_isLikeAlias 2 k_M_isLikeAlias_2 = true := by decide +kernel
set_option maxRecDepth 20000 in
theorem b_M_isLikeAlias_2 (r0 : Nat) (i1 : Int) (i2 : Int) (i3 : Int) {h : Hp} {d mc ms : Nat} {R : PR} (H : ((hpT h r0).1 = 12 ∧ (((hpT h (Int.toNat (hpC h r0 0))).1 = 20 ∧ 0 ≤ (8 : Int) ∧ (8 : Int) < ((hpT h (Int.toNat (hpC h r0 0))).2 : Int)) ∧ (if i3 < (hpC h (Int.toNat (hpC h r0 0)) (Int.toNat (8 : Int))) then ((1 ≤ d ∧ 0 ≤ mc ∧ 0 ≤ ms ∧ (hpT h r0).1 = 12) ∧ ∃ Q1 : PR, Wp m_M_isLive 0 [some (xR r0), some (xI i3)] [] h (d - 1) 0 0 Q1 ∧ ∀ (v1 : Int) (h1 : Hp), Q1 (some (xI v1)) h1 → (if v1 = (0 : Int) then Wp m_M_isLikeAlias 59 [some (xR r0), some (xI i1), some (xI i2), some (xI i3)] [] h1 d mc ms R else ((hpT h1 r0).1 = 12 ∧ (((hpT h1 (Int.toNat (hpC h1 r0 0))).1 = 20 ∧ 0 ≤ (ai_add (950 : Int) i3) ∧ (ai_add (950 : Int) i3) < ((hpT h1 (Int.toNat (hpC h1 r0 0))).2 : Int)) ∧ (if (hpC h1 (Int.toNat (hpC h1 r0 0)) (Int.toNat (ai_add (950 : Int) i3))) = i1 then Wp m_M_isLikeAlias 59 [some (xR r0), some (xI i1), some (xI i2), some (xI i3)] [] h1 d mc ms R else ((1 ≤ d ∧ 0 ≤ mc ∧ 0 ≤ ms ∧ (hpT h1 r0).1 = 12) ∧ ∃ Q2 : PR, Wp m_M_alikeOf 0 [some (xR r0), some (xI (ai_add (60 : Int) (ai_mul (10 : Int) i2))), some (xI (ai_add (650 : Int) (ai_mul (10 : Int) i3)))] [] h1 (d - 1) 0 0 Q2 ∧ ∀ (v2 : Int) (h2 : Hp), Q2 (some (xI v2)) h2 → (if (0 : Int) < v2 then (((1 : Int) = 0 ∨ (1 : Int) = 1) ∧ R (some (xI (1 : Int))) h2) else Wp m_M_isLikeAlias 59 [some (xR r0), some (xI i1), some (xI i2), some (xI i3)] [] h2 d mc ms R))))))) else Wp m_M_isLikeAlias 65 [some (xR r0), some (xI i1), some (xI i2), some (xI i3)] [] h d mc ms R)))) : Wp m_M_isLikeAlias 2 [some (xR r0), some (xI i1), some (xI i2), some (xI i3)] [] h d mc ms R := Wp_blk ok_M_isLikeAlias_2 H
def k_M_isLikeAlias_59 : List AI := [(.iinc 3 1, []), (.goto 0, []), (.nop, [2])]
set_option maxRecDepth 20000 in
theorem ok_M_isLikeAlias_59 : okB m_M_isLikeAlias 59 k_M_isLikeAlias_59 = true := by decide +kernel
set_option maxRecDepth 20000 in
theorem b_M_isLikeAlias_59 (r0 : Nat) (i1 : Int) (i2 : Int) (i3 : Int) {h : Hp} {d mc ms : Nat} {R : PR} (H : Wp m_M_isLikeAlias 2 [some (xR r0), some (xI i1), some (xI i2), some (xI (ai_add i3 1))] [] h d mc ms R) : Wp m_M_isLikeAlias 59 [some (xR r0), some (xI i1), some (xI i2), some (xI i3)] [] h d mc ms R := Wp_blk ok_M_isLikeAlias_59 H
def k_M_isLikeAlias_65 : List AI := [(.iconst 0, []), (.ireturn, [3])]
set_option maxRecDepth 20000 in
theorem ok_M_isLikeAlias_65 : okB m_M_isLikeAlias 65 k_M_isLikeAlias_65 = true := by decide +kernel
set_option maxRecDepth 20000 in
theorem b_M_isLikeAlias_65 (o0 : Option AV) (o1 : Option AV) (o2 : Option AV) (o3 : Option AV) {h : Hp} {d mc ms : Nat} {R : PR} (H : (((0 : Int) = 0 ∨ (0 : Int) = 1) ∧ R (some (xI (0 : Int))) h)) : Wp m_M_isLikeAlias 65 [o0, o1, o2, o3] [] h d mc ms R := Wp_blk ok_M_isLikeAlias_65 H
def k_M_takes_0 : List AI := [(.aload 0, []), (.iload 1, []), (.invokevirtual 0, [215, 1, 2, 0, 0, 1, 12, 1518, 1520, 81, 136]), (.ifCond .eq 0, [13]), (.iload 2, []), (.iconst (-1), []), (.if_icmp .ge 0, [15]), (.nop, [13])]
set_option maxRecDepth 20000 in
theorem ok_M_takes_0 : okB m_M_takes 0 k_M_takes_0 = true := by decide +kernel
set_option maxRecDepth 20000 in
theorem b_M_takes_0 (r0 : Nat) (i1 : Int) (i2 : Int) (o3 : Option AV) (o4 : Option AV) {h : Hp} {d mc ms : Nat} {R : PR} (H : ((1 ≤ d ∧ 0 ≤ mc ∧ 0 ≤ ms ∧ (hpT h r0).1 = 12) ∧ ∃ Q1 : PR, Wp m_M_isStreet 0 [some (xR r0), some (xI i1)] [] h (d - 1) 0 0 Q1 ∧ ∀ (v1 : Int) (h1 : Hp), Q1 (some (xI v1)) h1 → (if v1 = (0 : Int) then Wp m_M_takes 13 [some (xR r0), some (xI i1), some (xI i2), o3, o4] [] h1 d mc ms R else (if i2 < (-1 : Int) then Wp m_M_takes 13 [some (xR r0), some (xI i1), some (xI i2), o3, o4] [] h1 d mc ms R else Wp m_M_takes 15 [some (xR r0), some (xI i1), some (xI i2), o3, o4] [] h1 d mc ms R)))) : Wp m_M_takes 0 [some (xR r0), some (xI i1), some (xI i2), o3, o4] [] h d mc ms R := Wp_blk ok_M_takes_0 H
def k_M_takes_13 : List AI := [(.iconst (-1), []), (.ireturn, [1])]
set_option maxRecDepth 20000 in
theorem ok_M_takes_13 : okB m_M_takes 13 k_M_takes_13 = true := by decide +kernel
set_option maxRecDepth 20000 in
theorem b_M_takes_13 (o0 : Option AV) (o1 : Option AV) (o2 : Option AV) (o3 : Option AV) (o4 : Option AV) {h : Hp} {d mc ms : Nat} {R : PR} (H : R (some (xI (-1 : Int))) h) : Wp m_M_takes 13 [o0, o1, o2, o3, o4] [] h d mc ms R := Wp_blk ok_M_takes_13 H
def k_M_takes_15 : List AI := [(.iconst 0, []), (.istore 3, []), (.iconst 0, []), (.istore 4, []), (.nop, [20])]
set_option maxRecDepth 20000 in
theorem ok_M_takes_15 : okB m_M_takes 15 k_M_takes_15 = true := by decide +kernel
set_option maxRecDepth 20000 in
theorem b_M_takes_15 (r0 : Nat) (i1 : Int) (i2 : Int) (o3 : Option AV) (o4 : Option AV) {h : Hp} {d mc ms : Nat} {R : PR} (H : Wp m_M_takes 20 [some (xR r0), some (xI i1), some (xI i2), some (xI (0 : Int)), some (xI (0 : Int))] [] h d mc ms R) : Wp m_M_takes 15 [some (xR r0), some (xI i1), some (xI i2), o3, o4] [] h d mc ms R := Wp_blk ok_M_takes_15 H
def k_M_takes_20 : List AI := [(.iload 4, []), (.aload 0, []), (.getfield 0, [12, 0, 2, 1225]), (.iconst 6, []), (.iaload, [20]), (.if_icmp .ge 0, [62]), (.aload 0, []), (.iload 1, []), (.iload 4, []), (.invokevirtual 0, [244, 2, 3, 0, 0, 1, 12, 1651, 1632, 1633, 136]), (.ifCond .eq 0, [45]), (.goto 0, []), (.nop, [56])]
set_option maxRecDepth 20000 in
theorem ok_M_takes_20 : okB m_M_takes 20 k_M_takes_20 = true := by decide +kernel
set_option maxRecDepth 20000 in
theorem b_M_takes_20 (r0 : Nat) (i1 : Int) (i2 : Int) (i3 : Int) (i4 : Int) {h : Hp} {d mc ms : Nat} {R : PR} (H : ((hpT h r0).1 = 12 ∧ (((hpT h (Int.toNat (hpC h r0 0))).1 = 20 ∧ 0 ≤ (6 : Int) ∧ (6 : Int) < ((hpT h (Int.toNat (hpC h r0 0))).2 : Int)) ∧ (if i4 < (hpC h (Int.toNat (hpC h r0 0)) (Int.toNat (6 : Int))) then ((1 ≤ d ∧ 0 ≤ mc ∧ 0 ≤ ms ∧ (hpT h r0).1 = 12) ∧ ∃ Q1 : PR, Wp m_M_why 0 [some (xR r0), some (xI i1), some (xI i4)] [] h (d - 1) 0 0 Q1 ∧ ∀ (v1 : Int) (h1 : Hp), Q1 (some (xI v1)) h1 → (if v1 = (0 : Int) then Wp m_M_takes 45 [some (xR r0), some (xI i1), some (xI i2), some (xI i3), some (xI i4)] [] h1 d mc ms R else Wp m_M_takes 56 [some (xR r0), some (xI i1), some (xI i2), some (xI i3), some (xI i4)] [] h1 d mc ms R)) else Wp m_M_takes 62 [some (xR r0), some (xI i1), some (xI i2), some (xI i3), some (xI i4)] [] h d mc ms R)))) : Wp m_M_takes 20 [some (xR r0), some (xI i1), some (xI i2), some (xI i3), some (xI i4)] [] h d mc ms R := Wp_blk ok_M_takes_20 H
def k_M_takes_45 : List AI := [(.iload 3, []), (.iload 2, []), (.if_icmp .ne 0, [53]), (.iload 4, []), (.ireturn, [1])]
set_option maxRecDepth 20000 in
theorem ok_M_takes_45 : okB m_M_takes 45 k_M_takes_45 = true := by decide +kernel
set_option maxRecDepth 20000 in
theorem b_M_takes_45 (r0 : Nat) (i1 : Int) (i2 : Int) (i3 : Int) (i4 : Int) {h : Hp} {d mc ms : Nat} {R : PR} (H : (if i3 = i2 then R (some (xI i4)) h else Wp m_M_takes 53 [some (xR r0), some (xI i1), some (xI i2), some (xI i3), some (xI i4)] [] h d mc ms R)) : Wp m_M_takes 45 [some (xR r0), some (xI i1), some (xI i2), some (xI i3), some (xI i4)] [] h d mc ms R := Wp_blk ok_M_takes_45 H
def k_M_takes_53 : List AI := [(.iinc 3 1, []), (.nop, [56])]
set_option maxRecDepth 20000 in
theorem ok_M_takes_53 : okB m_M_takes 53 k_M_takes_53 = true := by decide +kernel
set_option maxRecDepth 20000 in
theorem b_M_takes_53 (r0 : Nat) (i1 : Int) (i2 : Int) (i3 : Int) (i4 : Int) {h : Hp} {d mc ms : Nat} {R : PR} (H : Wp m_M_takes 56 [some (xR r0), some (xI i1), some (xI i2), some (xI (ai_add i3 1)), some (xI i4)] [] h d mc ms R) : Wp m_M_takes 53 [some (xR r0), some (xI i1), some (xI i2), some (xI i3), some (xI i4)] [] h d mc ms R := Wp_blk ok_M_takes_53 H
def k_M_takes_56 : List AI := [(.iinc 4 1, []), (.goto 0, []), (.nop, [20])]
set_option maxRecDepth 20000 in
theorem ok_M_takes_56 : okB m_M_takes 56 k_M_takes_56 = true := by decide +kernel
set_option maxRecDepth 20000 in
theorem b_M_takes_56 (r0 : Nat) (i1 : Int) (i2 : Int) (i3 : Int) (i4 : Int) {h : Hp} {d mc ms : Nat} {R : PR} (H : Wp m_M_takes 20 [some (xR r0), some (xI i1), some (xI i2), some (xI i3), some (xI (ai_add i4 1))] [] h d mc ms R) : Wp m_M_takes 56 [some (xR r0), some (xI i1), some (xI i2), some (xI i3), some (xI i4)] [] h d mc ms R := Wp_blk ok_M_takes_56 H
def k_M_takes_62 : List AI := [(.iload 2, []), (.iconst (-1), []), (.if_icmp .ne 0, [71]), (.iload 3, []), (.goto 0, []), (.nop, [72])]
set_option maxRecDepth 20000 in
theorem ok_M_takes_62 : okB m_M_takes 62 k_M_takes_62 = true := by decide +kernel
set_option maxRecDepth 20000 in
theorem b_M_takes_62 (o0 : Option AV) (o1 : Option AV) (i2 : Int) (i3 : Int) (o4 : Option AV) {h : Hp} {d mc ms : Nat} {R : PR} (H : (if i2 = (-1 : Int) then Wp m_M_takes 72 [o0, o1, some (xI i2), some (xI i3), o4] [xI i3] h d mc ms R else Wp m_M_takes 71 [o0, o1, some (xI i2), some (xI i3), o4] [] h d mc ms R)) : Wp m_M_takes 62 [o0, o1, some (xI i2), some (xI i3), o4] [] h d mc ms R := Wp_blk ok_M_takes_62 H
def k_M_takes_71 : List AI := [(.iconst (-1), []), (.nop, [72])]
set_option maxRecDepth 20000 in
theorem ok_M_takes_71 : okB m_M_takes 71 k_M_takes_71 = true := by decide +kernel
set_option maxRecDepth 20000 in
theorem b_M_takes_71 (o0 : Option AV) (o1 : Option AV) (o2 : Option AV) (o3 : Option AV) (o4 : Option AV) {h : Hp} {d mc ms : Nat} {R : PR} (H : Wp m_M_takes 72 [o0, o1, o2, o3, o4] [xI (-1 : Int)] h d mc ms R) : Wp m_M_takes 71 [o0, o1, o2, o3, o4] [] h d mc ms R := Wp_blk ok_M_takes_71 H
def k_M_takes_72 : List AI := [(.ireturn, [1])]
set_option maxRecDepth 20000 in
theorem ok_M_takes_72 : okB m_M_takes 72 k_M_takes_72 = true := by decide +kernel
set_option maxRecDepth 20000 in
theorem b_M_takes_72 (o0 : Option AV) (o1 : Option AV) (o2 : Option AV) (o3 : Option AV) (o4 : Option AV) (p0 : Int) {h : Hp} {d mc ms : Nat} {R : PR} (H : R (some (xI p0)) h) : Wp m_M_takes 72 [o0, o1, o2, o3, o4] [xI p0] h d mc ms R := Wp_blk ok_M_takes_72 H
def k_M_plan_0 : List AI := [(.iload 1, []), (.iconst 0, []), (.iconst 2, []), (.invokestatic 0, [187, 3, 3, 0, 0, 1, 1409, 1410, 136]), (.ifCond .eq 0, [16]), (.aload 0, []), (.invokevirtual 0, [250, 0, 5, 0, 0, 1, 12, 1656, 1658, 98, 136]), (.ifCond .ne 0, [18]), (.nop, [16])]
set_option maxRecDepth 20000 in
theorem ok_M_plan_0 : okB m_M_plan 0 k_M_plan_0 = true := by decide +kernel
set_option maxRecDepth 20000 in
theorem b_M_plan_0 (r0 : Nat) (i1 : Int) {h : Hp} {d mc ms : Nat} {R : PR} (H : ((1 ≤ d ∧ 0 ≤ mc ∧ 0 ≤ ms) ∧ ∃ Q1 : PR, Wp m_M_isIn 0 [some (xI i1), some (xI (0 : Int)), some (xI (2 : Int))] [] h (d - 1) 0 0 Q1 ∧ ∀ (v1 : Int) (h1 : Hp), Q1 (some (xI v1)) h1 → (if v1 = (0 : Int) then Wp m_M_plan 16 [some (xR r0), some (xI i1)] [] h1 d mc ms R else ((1 ≤ d ∧ 0 ≤ mc ∧ 0 ≤ ms ∧ (hpT h1 r0).1 = 12) ∧ ∃ Q2 : PR, Wp m_M_plans 0 [some (xR r0), none, none, none, none] [] h1 (d - 1) 0 0 Q2 ∧ ∀ (v2 : Int) (h2 : Hp), Q2 (some (xI v2)) h2 → (if v2 = (0 : Int) then Wp m_M_plan 16 [some (xR r0), some (xI i1)] [] h2 d mc ms R else Wp m_M_plan 18 [some (xR r0), some (xI i1)] [] h2 d mc ms R))))) : Wp m_M_plan 0 [some (xR r0), some (xI i1)] [] h d mc ms R := Wp_blk ok_M_plan_0 H
def k_M_plan_16 : List AI := [(.iconst (-1), []), (.ireturn, [1])]
set_option maxRecDepth 20000 in
theorem ok_M_plan_16 : okB m_M_plan 16 k_M_plan_16 = true := by decide +kernel
set_option maxRecDepth 20000 in
theorem b_M_plan_16 (o0 : Option AV) (o1 : Option AV) {h : Hp} {d mc ms : Nat} {R : PR} (H : R (some (xI (-1 : Int))) h) : Wp m_M_plan 16 [o0, o1] [] h d mc ms R := Wp_blk ok_M_plan_16 H
def k_M_plan_18 : List AI := [(.iload 1, []), (.ifCond .ne 0, [32]), (.aload 0, []), (.getfield 0, [12, 28, 0, 1253]), (.invokestatic 0, [212, 1, 3, 0, 0, 1, 1507, 1508, 136]), (.goto 0, []), (.nop, [52])]
set_option maxRecDepth 20000 in
theorem ok_M_plan_18 : okB m_M_plan 18 k_M_plan_18 = true := by decide +kernel
set_option maxRecDepth 20000 in
theorem b_M_plan_18 (r0 : Nat) (i1 : Int) {h : Hp} {d mc ms : Nat} {R : PR} (H : (if i1 = (0 : Int) then ((hpT h r0).1 = 12 ∧ ((1 ≤ d ∧ 0 ≤ mc ∧ 0 ≤ ms) ∧ ∃ Q1 : PR, Wp m_M_bits 0 [some (xI (hpC h r0 28)), none, none] [] h (d - 1) 0 0 Q1 ∧ ∀ (v1 : Int) (h1 : Hp), Q1 (some (xI v1)) h1 → Wp m_M_plan 52 [some (xR r0), some (xI i1)] [xI v1] h1 d mc ms R)) else Wp m_M_plan 32 [some (xR r0), some (xI i1)] [] h d mc ms R)) : Wp m_M_plan 18 [some (xR r0), some (xI i1)] [] h d mc ms R := Wp_blk ok_M_plan_18 H
def k_M_plan_32 : List AI := [(.iload 1, []), (.iconst 1, []), (.if_icmp .ne 0, [48]), (.aload 0, []), (.aload 0, []), (.getfield 0, [12, 28, 0, 1253]), (.invokevirtual 0, [252, 1, 4, 0, 0, 1, 12, 1664, 1666, 100, 136]), (.goto 0, []), (.nop, [52])]
set_option maxRecDepth 20000 in
theorem ok_M_plan_32 : okB m_M_plan 32 k_M_plan_32 = true := by decide +kernel
set_option maxRecDepth 20000 in
theorem b_M_plan_32 (r0 : Nat) (i1 : Int) {h : Hp} {d mc ms : Nat} {R : PR} (H : (if i1 = (1 : Int) then ((hpT h r0).1 = 12 ∧ ((1 ≤ d ∧ 0 ≤ mc ∧ 0 ≤ ms ∧ (hpT h r0).1 = 12) ∧ ∃ Q1 : PR, Wp m_M_housesIn 0 [some (xR r0), some (xI (hpC h r0 28)), none, none] [] h (d - 1) 0 0 Q1 ∧ ∀ (v1 : Int) (h1 : Hp), Q1 (some (xI v1)) h1 → Wp m_M_plan 52 [some (xR r0), some (xI i1)] [xI v1] h1 d mc ms R)) else Wp m_M_plan 48 [some (xR r0), some (xI i1)] [] h d mc ms R)) : Wp m_M_plan 32 [some (xR r0), some (xI i1)] [] h d mc ms R := Wp_blk ok_M_plan_32 H
def k_M_plan_48 : List AI := [(.aload 0, []), (.getfield 0, [12, 28, 0, 1253]), (.nop, [52])]
set_option maxRecDepth 20000 in
theorem ok_M_plan_48 : okB m_M_plan 48 k_M_plan_48 = true := by decide +kernel
set_option maxRecDepth 20000 in
theorem b_M_plan_48 (r0 : Nat) (o1 : Option AV) {h : Hp} {d mc ms : Nat} {R : PR} (H : ((hpT h r0).1 = 12 ∧ Wp m_M_plan 52 [some (xR r0), o1] [xI (hpC h r0 28)] h d mc ms R)) : Wp m_M_plan 48 [some (xR r0), o1] [] h d mc ms R := Wp_blk ok_M_plan_48 H
def k_M_plan_52 : List AI := [(.ireturn, [1])]
set_option maxRecDepth 20000 in
theorem ok_M_plan_52 : okB m_M_plan 52 k_M_plan_52 = true := by decide +kernel
set_option maxRecDepth 20000 in
theorem b_M_plan_52 (o0 : Option AV) (o1 : Option AV) (p0 : Int) {h : Hp} {d mc ms : Nat} {R : PR} (H : R (some (xI p0)) h) : Wp m_M_plan 52 [o0, o1] [xI p0] h d mc ms R := Wp_blk ok_M_plan_52 H
def k_M_plans_0 : List AI := [(.aload 0, []), (.invokevirtual 0, [241, 0, 3, 0, 0, 0, 12, 1619, 1621, 93, 136]), (.aload 0, []), (.invokevirtual 0, [251, 0, 3, 0, 0, 0, 12, 1660, 1662, 99, 136]), (.iconst 1, []), (.aload 0, []), (.getfield 0, [12, 0, 2, 1225]), (.iconst 7, []), (.iaload, [20]), (.ishl, []), (.iconst 1, []), (.isub, []), (.istore 1, []), (.aload 0, []), (.iconst (-1), []), (.putfield 0, [12, 28, 0, 1253]), (.iconst 0, []), (.istore 2, []), (.nop, [27])]
set_option maxRecDepth 20000 in
theorem ok_M_plans_0 : okB m_M_plans 0 k_M_plans_0 = true := by decide +kernel
set_option maxRecDepth 20000 in
theorem b_M_plans_0 (r0 : Nat) (o1 : Option AV) (o2 : Option AV) (o3 : Option AV) (o4 : Option AV) {h : Hp} {d mc ms : Nat} {R : PR} (H : ((1 ≤ d ∧ 0 ≤ mc ∧ 0 ≤ ms ∧ (hpT h r0).1 = 12) ∧ ∃ Q1 : PR, Wp m_M_laysClashes 0 [some (xR r0), none, none] [] h (d - 1) 0 0 Q1 ∧ ∀ (h1 : Hp), Q1 none h1 → ((1 ≤ d ∧ 0 ≤ mc ∧ 0 ≤ ms ∧ (hpT h1 r0).1 = 12) ∧ ∃ Q2 : PR, Wp m_M_laysMay 0 [some (xR r0), none, none] [] h1 (d - 1) 0 0 Q2 ∧ ∀ (h2 : Hp), Q2 none h2 → ((hpT h2 r0).1 = 12 ∧ (((hpT h2 (Int.toNat (hpC h2 r0 0))).1 = 20 ∧ 0 ≤ (7 : Int) ∧ (7 : Int) < ((hpT h2 (Int.toNat (hpC h2 r0 0))).2 : Int)) ∧ ((hpT h2 r0).1 = 12 ∧ ∀ g1 : Hp, g1 = hpU h2 r0 28 (-1 : Int) → Wp m_M_plans 27 [some (xR r0), some (xI (ai_sub (ai_shl (1 : Int) (hpC h2 (Int.toNat (hpC h2 r0 0)) (Int.toNat (7 : Int)))) (1 : Int))), some (xI (0 : Int)), o3, o4] [] g1 d mc ms R)))))) : Wp m_M_plans 0 [some (xR r0), o1, o2, o3, o4] [] h d mc ms R := Wp_blk ok_M_plans_0 H
def k_M_plans_27 : List AI := [(.iload 2, []), (.iload 1, []), (.if_icmp .gt 0, [158]), (.aload 0, []), (.getfield 0, [12, 28, 0, 1253]), (.iconst (-1), []), (.if_icmp .eq 0, [88]), (.iload 2, []), (.invokestatic 0, [212, 1, 3, 0, 0, 1, 1507, 1508, 136]), (.aload 0, []), (.getfield 0, [12, 28, 0, 1253]), (.invokestatic 0, [212, 1, 3, 0, 0, 1, 1507, 1508, 136]), (.if_icmp .gt 0, [84]), (.iload 2, []), (.invokestatic 0, [212, 1, 3, 0, 0, 1, 1507, 1508, 136]), (.aload 0, []), (.getfield 0, [12, 28, 0, 1253]), (.invokestatic 0, [212, 1, 3, 0, 0, 1, 1507, 1508, 136]), (.if_icmp .ne 0, [88]), (.aload 0, []), (.iload 2, []), (.invokevirtual 0, [252, 1, 4, 0, 0, 1, 12, 1664, 1666, 100, 136]), (.aload 0, []), (.aload 0, []), (.getfield 0, [12, 28, 0, 1253]), (.invokevirtual 0, [252, 1, 4, 0, 0, 1, 12, 1664, 1666, 100, 136]), (.if_icmp .lt 0, [88]), (.nop, [84])]
set_option maxRecDepth 20000 in
theorem ok_M_plans_27 : okB m_M_plans 27 k_M_plans_27 = true := by decide +kernel
set_option maxRecDepth 20000 in
theorem b_M_plans_27 (r0 : Nat) (i1 : Int) (i2 : Int) (o3 : Option AV) (o4 : Option AV) {h : Hp} {d mc ms : Nat} {R : PR} (H : (if i1 < i2 then Wp m_M_plans 158 [some (xR r0), some (xI i1), some (xI i2), o3, o4] [] h d mc ms R else ((hpT h r0).1 = 12 ∧ (if (hpC h r0 28) = (-1 : Int) then Wp m_M_plans 88 [some (xR r0), some (xI i1), some (xI i2), o3, o4] [] h d mc ms R else ((1 ≤ d ∧ 0 ≤ mc ∧ 0 ≤ ms) ∧ ∃ Q1 : PR, Wp m_M_bits 0 [some (xI i2), none, none] [] h (d - 1) 0 0 Q1 ∧ ∀ (v1 : Int) (h1 : Hp), Q1 (some (xI v1)) h1 → ((hpT h1 r0).1 = 12 ∧ ((1 ≤ d ∧ 0 ≤ mc ∧ 0 ≤ ms) ∧ ∃ Q2 : PR, Wp m_M_bits 0 [some (xI (hpC h1 r0 28)), none, none] [] h1 (d - 1) 0 0 Q2 ∧ ∀ (v2 : Int) (h2 : Hp), Q2 (some (xI v2)) h2 → (if v2 < v1 then Wp m_M_plans 84 [some (xR r0), some (xI i1), some (xI i2), o3, o4] [] h2 d mc ms R else ((1 ≤ d ∧ 0 ≤ mc ∧ 0 ≤ ms) ∧ ∃ Q3 : PR, Wp m_M_bits 0 [some (xI i2), none, none] [] h2 (d - 1) 0 0 Q3 ∧ ∀ (v3 : Int) (h3 : Hp), Q3 (some (xI v3)) h3 → ((hpT h3 r0).1 = 12 ∧ ((1 ≤ d ∧ 0 ≤ mc ∧ 0 ≤ ms) ∧ ∃ Q4 : PR, Wp m_M_bits 0 [some (xI (hpC h3 r0 28)), none, none] [] h3 (d - 1) 0 0 Q4 ∧ ∀ (v4 : Int) (h4 : Hp), Q4 (some (xI v4)) h4 → (if v3 = v4 then ((1 ≤ d ∧ 0 ≤ mc ∧ 0 ≤ ms ∧ (hpT h4 r0).1 = 12) ∧ ∃ Q5 : PR, Wp m_M_housesIn 0 [some (xR r0), some (xI i2), none, none] [] h4 (d - 1) 0 0 Q5 ∧ ∀ (v5 : Int) (h5 : Hp), Q5 (some (xI v5)) h5 → ((hpT h5 r0).1 = 12 ∧ ((1 ≤ d ∧ 0 ≤ mc ∧ 0 ≤ ms ∧ (hpT h5 r0).1 = 12) ∧ ∃ Q6 : PR, Wp m_M_housesIn 0 [some (xR r0), some (xI (hpC h5 r0 28)), none, none] [] h5 (d - 1) 0 0 Q6 ∧ ∀ (v6 : Int) (h6 : Hp), Q6 (some (xI v6)) h6 → (if v5 < v6 then Wp m_M_plans 88 [some (xR r0), some (xI i1), some (xI i2), o3, o4] [] h6 d mc ms R else Wp m_M_plans 84 [some (xR r0), some (xI i1), some (xI i2), o3, o4] [] h6 d mc ms R)))) else Wp m_M_plans 88 [some (xR r0), some (xI i1), some (xI i2), o3, o4] [] h4 d mc ms R)))))))))))) : Wp m_M_plans 27 [some (xR r0), some (xI i1), some (xI i2), o3, o4] [] h d mc ms R := Wp_blk ok_M_plans_27 H
def k_M_plans_84 : List AI := [(.iconst 1, []), (.goto 0, []), (.nop, [89])]
set_option maxRecDepth 20000 in
theorem ok_M_plans_84 : okB m_M_plans 84 k_M_plans_84 = true := by decide +kernel
set_option maxRecDepth 20000 in
theorem b_M_plans_84 (r0 : Nat) (i1 : Int) (i2 : Int) (o3 : Option AV) (o4 : Option AV) {h : Hp} {d mc ms : Nat} {R : PR} (H : Wp m_M_plans 89 [some (xR r0), some (xI i1), some (xI i2), o3, o4] [xI (1 : Int)] h d mc ms R) : Wp m_M_plans 84 [some (xR r0), some (xI i1), some (xI i2), o3, o4] [] h d mc ms R := Wp_blk ok_M_plans_84 H
def k_M_plans_88 : List AI := [(.iconst 0, []), (.nop, [89])]
set_option maxRecDepth 20000 in
theorem ok_M_plans_88 : okB m_M_plans 88 k_M_plans_88 = true := by decide +kernel
set_option maxRecDepth 20000 in
theorem b_M_plans_88 (r0 : Nat) (i1 : Int) (i2 : Int) (o3 : Option AV) (o4 : Option AV) {h : Hp} {d mc ms : Nat} {R : PR} (H : Wp m_M_plans 89 [some (xR r0), some (xI i1), some (xI i2), o3, o4] [xI (0 : Int)] h d mc ms R) : Wp m_M_plans 88 [some (xR r0), some (xI i1), some (xI i2), o3, o4] [] h d mc ms R := Wp_blk ok_M_plans_88 H
def k_M_plans_89 : List AI := [(.istore 3, []), (.iload 3, []), (.ifCond .ne 0, [152]), (.aload 0, []), (.iload 1, []), (.iload 2, []), (.iconst (-1), []), (.ixor, []), (.iand, []), (.invokevirtual 0, [243, 1, 3, 0, 0, 1, 12, 1627, 1629, 94, 136]), (.ifCond .eq 0, [152]), (.aload 0, []), (.iload 2, []), (.invokevirtual 0, [253, 1, 5, 0, 0, 1, 12, 1668, 1670, 101, 136]), (.ifCond .ne 0, [117]), (.goto 0, []), (.nop, [152])]
set_option maxRecDepth 20000 in
theorem ok_M_plans_89 : okB m_M_plans 89 k_M_plans_89 = true := by decide +kernel
set_option maxRecDepth 20000 in
theorem b_M_plans_89 (r0 : Nat) (i1 : Int) (i2 : Int) (o3 : Option AV) (o4 : Option AV) (p0 : Int) {h : Hp} {d mc ms : Nat} {R : PR} (H : (if p0 = (0 : Int) then ((1 ≤ d ∧ 0 ≤ mc ∧ 0 ≤ ms ∧ (hpT h r0).1 = 12) ∧ ∃ Q1 : PR, Wp m_M_areApart 0 [some (xR r0), some (xI (ai_and i1 (ai_xor i2 (-1 : Int)))), none] [] h (d - 1) 0 0 Q1 ∧ ∀ (v1 : Int) (h1 : Hp), Q1 (some (xI v1)) h1 → (if v1 = (0 : Int) then Wp m_M_plans 152 [some (xR r0), some (xI i1), some (xI i2), some (xI p0), o4] [] h1 d mc ms R else ((1 ≤ d ∧ 0 ≤ mc ∧ 0 ≤ ms ∧ (hpT h1 r0).1 = 12) ∧ ∃ Q2 : PR, Wp m_M_names 0 [some (xR r0), some (xI i2), none, none, none] [] h1 (d - 1) 0 0 Q2 ∧ ∀ (v2 : Int) (h2 : Hp), Q2 (some (xI v2)) h2 → (if v2 = (0 : Int) then Wp m_M_plans 152 [some (xR r0), some (xI i1), some (xI i2), some (xI p0), o4] [] h2 d mc ms R else Wp m_M_plans 117 [some (xR r0), some (xI i1), some (xI i2), some (xI p0), o4] [] h2 d mc ms R)))) else Wp m_M_plans 152 [some (xR r0), some (xI i1), some (xI i2), some (xI p0), o4] [] h d mc ms R)) : Wp m_M_plans 89 [some (xR r0), some (xI i1), some (xI i2), o3, o4] [xI p0] h d mc ms R := Wp_blk ok_M_plans_89 H
def k_M_plans_117 : List AI := [(.aload 0, []), (.iload 2, []), (.putfield 0, [12, 28, 0, 1253]), (.iconst 0, []), (.istore 4, []), (.nop, [125])]
set_option maxRecDepth 20000 in
theorem ok_M_plans_117 : okB m_M_plans 117 k_M_plans_117 = true := by decide +kernel
set_option maxRecDepth 20000 in
theorem b_M_plans_117 (r0 : Nat) (i1 : Int) (i2 : Int) (o3 : Option AV) (o4 : Option AV) {h : Hp} {d mc ms : Nat} {R : PR} (H : ((hpT h r0).1 = 12 ∧ ∀ g1 : Hp, g1 = hpU h r0 28 i2 → Wp m_M_plans 125 [some (xR r0), some (xI i1), some (xI i2), x_d2 o3, some (xI (0 : Int))] [] g1 d mc ms R)) : Wp m_M_plans 117 [some (xR r0), some (xI i1), some (xI i2), o3, o4] [] h d mc ms R := Wp_blk ok_M_plans_117 H
def k_M_plans_125 : List AI := [(.iload 4, []), (.iconst 10, []), (.if_icmp .ge 0, [152]), (.aload 0, []), (.getfield 0, [12, 27, 2, 1252]), (.iload 4, []), (.aload 0, []), (.getfield 0, [12, 26, 2, 1251]), (.iload 4, []), (.iaload, [20]), (.iastore, []), (.iinc 4 1, []), (.goto 0, []), (.nop, [125])]
set_option maxRecDepth 20000 in
theorem ok_M_plans_125 : okB m_M_plans 125 k_M_plans_125 = true := by decide +kernel
set_option maxRecDepth 20000 in
theorem b_M_plans_125 (r0 : Nat) (i1 : Int) (i2 : Int) (o3 : Option AV) (i4 : Int) {h : Hp} {d mc ms : Nat} {R : PR} (H : (if i4 < (10 : Int) then ((hpT h r0).1 = 12 ∧ ((hpT h r0).1 = 12 ∧ (((hpT h (Int.toNat (hpC h r0 26))).1 = 20 ∧ 0 ≤ i4 ∧ i4 < ((hpT h (Int.toNat (hpC h r0 26))).2 : Int)) ∧ (((hpT h (Int.toNat (hpC h r0 27))).1 = 20 ∧ 0 ≤ i4 ∧ i4 < ((hpT h (Int.toNat (hpC h r0 27))).2 : Int)) ∧ ∀ g1 : Hp, g1 = hpU h (Int.toNat (hpC h r0 27)) (Int.toNat i4) (hpC h (Int.toNat (hpC h r0 26)) (Int.toNat i4)) → Wp m_M_plans 125 [some (xR r0), some (xI i1), some (xI i2), x_d2 o3, some (xI (ai_add i4 1))] [] g1 d mc ms R)))) else Wp m_M_plans 152 [some (xR r0), some (xI i1), some (xI i2), o3, some (xI i4)] [] h d mc ms R)) : Wp m_M_plans 125 [some (xR r0), some (xI i1), some (xI i2), o3, some (xI i4)] [] h d mc ms R := Wp_blk ok_M_plans_125 H
def k_M_plans_152 : List AI := [(.iinc 2 1, []), (.goto 0, []), (.nop, [27])]
set_option maxRecDepth 20000 in
theorem ok_M_plans_152 : okB m_M_plans 152 k_M_plans_152 = true := by decide +kernel
set_option maxRecDepth 20000 in
theorem b_M_plans_152 (r0 : Nat) (i1 : Int) (i2 : Int) (o3 : Option AV) (o4 : Option AV) {h : Hp} {d mc ms : Nat} {R : PR} (H : Wp m_M_plans 27 [some (xR r0), some (xI i1), some (xI (ai_add i2 1)), o3, o4] [] h d mc ms R) : Wp m_M_plans 152 [some (xR r0), some (xI i1), some (xI i2), o3, o4] [] h d mc ms R := Wp_blk ok_M_plans_152 H
def k_M_plans_158 : List AI := [(.aload 0, []), (.getfield 0, [12, 28, 0, 1253]), (.iconst (-1), []), (.if_icmp .eq 0, [170]), (.iconst 1, []), (.goto 0, []), (.nop, [171])]
set_option maxRecDepth 20000 in
theorem ok_M_plans_158 : okB m_M_plans 158 k_M_plans_158 = true := by decide +kernel
set_option maxRecDepth 20000 in
theorem b_M_plans_158 (r0 : Nat) (o1 : Option AV) (o2 : Option AV) (o3 : Option AV) (o4 : Option AV) {h : Hp} {d mc ms : Nat} {R : PR} (H : ((hpT h r0).1 = 12 ∧ (if (hpC h r0 28) = (-1 : Int) then Wp m_M_plans 170 [some (xR r0), o1, o2, o3, o4] [] h d mc ms R else Wp m_M_plans 171 [some (xR r0), o1, o2, o3, o4] [xI (1 : Int)] h d mc ms R))) : Wp m_M_plans 158 [some (xR r0), o1, o2, o3, o4] [] h d mc ms R := Wp_blk ok_M_plans_158 H
def k_M_plans_170 : List AI := [(.iconst 0, []), (.nop, [171])]
set_option maxRecDepth 20000 in
theorem ok_M_plans_170 : okB m_M_plans 170 k_M_plans_170 = true := by decide +kernel
set_option maxRecDepth 20000 in
theorem b_M_plans_170 (o0 : Option AV) (o1 : Option AV) (o2 : Option AV) (o3 : Option AV) (o4 : Option AV) {h : Hp} {d mc ms : Nat} {R : PR} (H : Wp m_M_plans 171 [o0, o1, o2, o3, o4] [xI (0 : Int)] h d mc ms R) : Wp m_M_plans 170 [o0, o1, o2, o3, o4] [] h d mc ms R := Wp_blk ok_M_plans_170 H
def k_M_plans_171 : List AI := [(.ireturn, [3])]
set_option maxRecDepth 20000 in
theorem ok_M_plans_171 : okB m_M_plans 171 k_M_plans_171 = true := by decide +kernel
set_option maxRecDepth 20000 in
theorem b_M_plans_171 (o0 : Option AV) (o1 : Option AV) (o2 : Option AV) (o3 : Option AV) (o4 : Option AV) (p0 : Int) {h : Hp} {d mc ms : Nat} {R : PR} (H : ((p0 = 0 ∨ p0 = 1) ∧ R (some (xI p0)) h)) : Wp m_M_plans 171 [o0, o1, o2, o3, o4] [xI p0] h d mc ms R := Wp_blk ok_M_plans_171 H
def k_M_laysMay_0 : List AI := [(.iconst 0, []), (.istore 1, []), (.nop, [2])]
set_option maxRecDepth 20000 in
theorem ok_M_laysMay_0 : okB m_M_laysMay 0 k_M_laysMay_0 = true := by decide +kernel
set_option maxRecDepth 20000 in
theorem b_M_laysMay_0 (r0 : Nat) (o1 : Option AV) (o2 : Option AV) {h : Hp} {d mc ms : Nat} {R : PR} (H : Wp m_M_laysMay 2 [some (xR r0), some (xI (0 : Int)), o2] [] h d mc ms R) : Wp m_M_laysMay 0 [some (xR r0), o1, o2] [] h d mc ms R := Wp_blk ok_M_laysMay_0 H
def k_M_laysMay_2 : List AI := [(.iload 1, []), (.aload 0, []), (.getfield 0, [12, 0, 2, 1225]), (.iconst 7, []), (.iaload, [20]), (.if_icmp .ge 0, [80]), (.iconst 0, []), (.istore 2, []), (.nop, [15])]
set_option maxRecDepth 20000 in
theorem ok_M_laysMay_2 : okB m_M_laysMay 2 k_M_laysMay_2 = true := by decide +kernel
set_option maxRecDepth 20000 in
theorem b_M_laysMay_2 (r0 : Nat) (i1 : Int) (o2 : Option AV) {h : Hp} {d mc ms : Nat} {R : PR} (H : ((hpT h r0).1 = 12 ∧ (((hpT h (Int.toNat (hpC h r0 0))).1 = 20 ∧ 0 ≤ (7 : Int) ∧ (7 : Int) < ((hpT h (Int.toNat (hpC h r0 0))).2 : Int)) ∧ (if i1 < (hpC h (Int.toNat (hpC h r0 0)) (Int.toNat (7 : Int))) then Wp m_M_laysMay 15 [some (xR r0), some (xI i1), some (xI (0 : Int))] [] h d mc ms R else Wp m_M_laysMay 80 [some (xR r0), some (xI i1), o2] [] h d mc ms R)))) : Wp m_M_laysMay 2 [some (xR r0), some (xI i1), o2] [] h d mc ms R := Wp_blk ok_M_laysMay_2 H
def k_M_laysMay_15 : List AI := [(.iload 2, []), (.aload 0, []), (.getfield 0, [12, 0, 2, 1225]), (.iconst 6, []), (.iaload, [20]), (.if_icmp .ge 0, [74]), (.aload 0, []), (.getfield 0, [12, 24, 2, 1249]), (.iconst 12, []), (.iload 1, []), (.imul, []), (.iload 2, []), (.iadd, []), (.aload 0, []), (.iload 2, []), (.invokevirtual 0, [245, 1, 3, 0, 0, 1, 12, 1635, 1637, 95, 136]), (.ifCond .ne 0, [66]), (.aload 0, []), (.iload 1, []), (.iload 2, []), (.invokevirtual 0, [246, 2, 4, 0, 0, 1, 12, 1639, 1641, 96, 136]), (.ifCond .ne 0, [66]), (.aload 0, []), (.iload 1, []), (.iload 2, []), (.invokevirtual 0, [247, 2, 4, 0, 0, 1, 12, 1643, 1645, 97, 136]), (.ifCond .ne 0, [66]), (.iconst 1, []), (.goto 0, []), (.nop, [67])]
set_option maxRecDepth 20000 in
theorem ok_M_laysMay_15 : okB m_M_laysMay 15 k_M_laysMay_15 = true := by decide +kernel
set_option maxRecDepth 20000 in
theorem b_M_laysMay_15 (r0 : Nat) (i1 : Int) (i2 : Int) {h : Hp} {d mc ms : Nat} {R : PR} (H : ((hpT h r0).1 = 12 ∧ (((hpT h (Int.toNat (hpC h r0 0))).1 = 20 ∧ 0 ≤ (6 : Int) ∧ (6 : Int) < ((hpT h (Int.toNat (hpC h r0 0))).2 : Int)) ∧ (if i2 < (hpC h (Int.toNat (hpC h r0 0)) (Int.toNat (6 : Int))) then ((hpT h r0).1 = 12 ∧ ((1 ≤ d ∧ 0 ≤ mc ∧ 0 ≤ ms ∧ (hpT h r0).1 = 12) ∧ ∃ Q1 : PR, Wp m_M_isTaken 0 [some (xR r0), some (xI i2), none] [] h (d - 1) 0 0 Q1 ∧ ∀ (v1 : Int) (h1 : Hp), Q1 (some (xI v1)) h1 → (if v1 = (0 : Int) then ((1 ≤ d ∧ 0 ≤ mc ∧ 0 ≤ ms ∧ (hpT h1 r0).1 = 12) ∧ ∃ Q2 : PR, Wp m_M_isLikeAnother 0 [some (xR r0), some (xI i1), some (xI i2), none] [] h1 (d - 1) 0 0 Q2 ∧ ∀ (v2 : Int) (h2 : Hp), Q2 (some (xI v2)) h2 → (if v2 = (0 : Int) then ((1 ≤ d ∧ 0 ≤ mc ∧ 0 ≤ ms ∧ (hpT h2 r0).1 = 12) ∧ ∃ Q3 : PR, Wp m_M_isLikeAlias 0 [some (xR r0), some (xI i1), some (xI i2), none] [] h2 (d - 1) 0 0 Q3 ∧ ∀ (v3 : Int) (h3 : Hp), Q3 (some (xI v3)) h3 → (if v3 = (0 : Int) then Wp m_M_laysMay 67 [some (xR r0), some (xI i1), some (xI i2)] [xI (1 : Int), xI (ai_add (ai_mul (12 : Int) i1) i2), xR (Int.toNat (hpC h r0 24))] h3 d mc ms R else Wp m_M_laysMay 66 [some (xR r0), some (xI i1), some (xI i2)] [xI (ai_add (ai_mul (12 : Int) i1) i2), xR (Int.toNat (hpC h r0 24))] h3 d mc ms R)) else Wp m_M_laysMay 66 [some (xR r0), some (xI i1), some (xI i2)] [xI (ai_add (ai_mul (12 : Int) i1) i2), xR (Int.toNat (hpC h r0 24))] h2 d mc ms R)) else Wp m_M_laysMay 66 [some (xR r0), some (xI i1), some (xI i2)] [xI (ai_add (ai_mul (12 : Int) i1) i2), xR (Int.toNat (hpC h r0 24))] h1 d mc ms R))) else Wp m_M_laysMay 74 [some (xR r0), some (xI i1), some (xI i2)] [] h d mc ms R)))) : Wp m_M_laysMay 15 [some (xR r0), some (xI i1), some (xI i2)] [] h d mc ms R := Wp_blk ok_M_laysMay_15 H
def k_M_laysMay_66 : List AI := [(.iconst 0, []), (.nop, [67])]
set_option maxRecDepth 20000 in
theorem ok_M_laysMay_66 : okB m_M_laysMay 66 k_M_laysMay_66 = true := by decide +kernel
set_option maxRecDepth 20000 in
theorem b_M_laysMay_66 (r0 : Nat) (i1 : Int) (i2 : Int) (t0 : Nat) (p1 : Int) {h : Hp} {d mc ms : Nat} {R : PR} (H : Wp m_M_laysMay 67 [some (xR r0), some (xI i1), some (xI i2)] [xI (0 : Int), xI p1, xR t0] h d mc ms R) : Wp m_M_laysMay 66 [some (xR r0), some (xI i1), some (xI i2)] [xI p1, xR t0] h d mc ms R := Wp_blk ok_M_laysMay_66 H
def k_M_laysMay_67 : List AI := [(.bastore, [23]), (.iinc 2 1, []), (.goto 0, []), (.nop, [15])]
set_option maxRecDepth 20000 in
theorem ok_M_laysMay_67 : okB m_M_laysMay 67 k_M_laysMay_67 = true := by decide +kernel
set_option maxRecDepth 20000 in
theorem b_M_laysMay_67 (r0 : Nat) (i1 : Int) (i2 : Int) (t0 : Nat) (p1 : Int) (p2 : Int) {h : Hp} {d mc ms : Nat} {R : PR} (H : (((hpT h t0).1 = 23 ∧ 0 ≤ p1 ∧ p1 < ((hpT h t0).2 : Int)) ∧ ∀ g1 : Hp, g1 = hpU h t0 (Int.toNat p1) (ai_nar 23 p2) → Wp m_M_laysMay 15 [some (xR r0), some (xI i1), some (xI (ai_add i2 1))] [] g1 d mc ms R)) : Wp m_M_laysMay 67 [some (xR r0), some (xI i1), some (xI i2)] [xI p2, xI p1, xR t0] h d mc ms R := Wp_blk ok_M_laysMay_67 H
def k_M_laysMay_74 : List AI := [(.iinc 1 1, []), (.goto 0, []), (.nop, [2])]
set_option maxRecDepth 20000 in
theorem ok_M_laysMay_74 : okB m_M_laysMay 74 k_M_laysMay_74 = true := by decide +kernel
set_option maxRecDepth 20000 in
theorem b_M_laysMay_74 (r0 : Nat) (i1 : Int) (o2 : Option AV) {h : Hp} {d mc ms : Nat} {R : PR} (H : Wp m_M_laysMay 2 [some (xR r0), some (xI (ai_add i1 1)), o2] [] h d mc ms R) : Wp m_M_laysMay 74 [some (xR r0), some (xI i1), o2] [] h d mc ms R := Wp_blk ok_M_laysMay_74 H
def k_M_laysMay_80 : List AI := [(.iconst 0, []), (.istore 1, []), (.nop, [82])]
set_option maxRecDepth 20000 in
theorem ok_M_laysMay_80 : okB m_M_laysMay 80 k_M_laysMay_80 = true := by decide +kernel
set_option maxRecDepth 20000 in
theorem b_M_laysMay_80 (r0 : Nat) (o1 : Option AV) (o2 : Option AV) {h : Hp} {d mc ms : Nat} {R : PR} (H : Wp m_M_laysMay 82 [some (xR r0), some (xI (0 : Int)), o2] [] h d mc ms R) : Wp m_M_laysMay 80 [some (xR r0), o1, o2] [] h d mc ms R := Wp_blk ok_M_laysMay_80 H
def k_M_laysMay_82 : List AI := [(.iload 1, []), (.aload 0, []), (.getfield 0, [12, 0, 2, 1225]), (.iconst 6, []), (.iaload, [20]), (.if_icmp .ge 0, [155]), (.iconst 0, []), (.istore 2, []), (.nop, [95])]
set_option maxRecDepth 20000 in
theorem ok_M_laysMay_82 : okB m_M_laysMay 82 k_M_laysMay_82 = true := by decide +kernel
set_option maxRecDepth 20000 in
theorem b_M_laysMay_82 (r0 : Nat) (i1 : Int) (o2 : Option AV) {h : Hp} {d mc ms : Nat} {R : PR} (H : ((hpT h r0).1 = 12 ∧ (((hpT h (Int.toNat (hpC h r0 0))).1 = 20 ∧ 0 ≤ (6 : Int) ∧ (6 : Int) < ((hpT h (Int.toNat (hpC h r0 0))).2 : Int)) ∧ (if i1 < (hpC h (Int.toNat (hpC h r0 0)) (Int.toNat (6 : Int))) then Wp m_M_laysMay 95 [some (xR r0), some (xI i1), some (xI (0 : Int))] [] h d mc ms R else Wp m_M_laysMay 155 [some (xR r0), some (xI i1), o2] [] h d mc ms R)))) : Wp m_M_laysMay 82 [some (xR r0), some (xI i1), o2] [] h d mc ms R := Wp_blk ok_M_laysMay_82 H
def k_M_laysMay_95 : List AI := [(.iload 2, []), (.aload 0, []), (.getfield 0, [12, 0, 2, 1225]), (.iconst 6, []), (.iaload, [20]), (.if_icmp .ge 0, [149]), (.aload 0, []), (.getfield 0, [12, 25, 2, 1250]), (.iconst 12, []), (.iload 1, []), (.imul, []), (.iload 2, []), (.iadd, []), (.aload 0, []), (.iconst 60, []), (.iconst 10, []), (.iload 1, []), (.imul, []), (.iadd, []), (.iconst 60, []), (.iconst 10, []), (.iload 2, []), (.imul, []), (.iadd, []), (.invokevirtual 0, [225, 2, 3, 0, 0, 1, 12, 1557, 1559, 87, 136]), (.ifCond .le 0, [141]), (.iconst 1, []), (.goto 0, []), (.nop, [142])]
set_option maxRecDepth 20000 in
theorem ok_M_laysMay_95 : okB m_M_laysMay 95 k_M_laysMay_95 = true := by decide +kernel
set_option maxRecDepth 20000 in
theorem b_M_laysMay_95 (r0 : Nat) (i1 : Int) (i2 : Int) {h : Hp} {d mc ms : Nat} {R : PR} (H : ((hpT h r0).1 = 12 ∧ (((hpT h (Int.toNat (hpC h r0 0))).1 = 20 ∧ 0 ≤ (6 : Int) ∧ (6 : Int) < ((hpT h (Int.toNat (hpC h r0 0))).2 : Int)) ∧ (if i2 < (hpC h (Int.toNat (hpC h r0 0)) (Int.toNat (6 : Int))) then ((hpT h r0).1 = 12 ∧ ((1 ≤ d ∧ 0 ≤ mc ∧ 0 ≤ ms ∧ (hpT h r0).1 = 12) ∧ ∃ Q1 : PR, Wp m_M_alikeOf 0 [some (xR r0), some (xI (ai_add (60 : Int) (ai_mul (10 : Int) i1))), some (xI (ai_add (60 : Int) (ai_mul (10 : Int) i2)))] [] h (d - 1) 0 0 Q1 ∧ ∀ (v1 : Int) (h1 : Hp), Q1 (some (xI v1)) h1 → (if (0 : Int) < v1 then Wp m_M_laysMay 142 [some (xR r0), some (xI i1), some (xI i2)] [xI (1 : Int), xI (ai_add (ai_mul (12 : Int) i1) i2), xR (Int.toNat (hpC h r0 25))] h1 d mc ms R else Wp m_M_laysMay 141 [some (xR r0), some (xI i1), some (xI i2)] [xI (ai_add (ai_mul (12 : Int) i1) i2), xR (Int.toNat (hpC h r0 25))] h1 d mc ms R))) else Wp m_M_laysMay 149 [some (xR r0), some (xI i1), some (xI i2)] [] h d mc ms R)))) : Wp m_M_laysMay 95 [some (xR r0), some (xI i1), some (xI i2)] [] h d mc ms R := Wp_blk ok_M_laysMay_95 H
def k_M_laysMay_141 : List AI := [(.iconst 0, []), (.nop, [142])]
set_option maxRecDepth 20000 in
theorem ok_M_laysMay_141 : okB m_M_laysMay 141 k_M_laysMay_141 = true := by decide +kernel
set_option maxRecDepth 20000 in
theorem b_M_laysMay_141 (r0 : Nat) (i1 : Int) (i2 : Int) (t0 : Nat) (p1 : Int) {h : Hp} {d mc ms : Nat} {R : PR} (H : Wp m_M_laysMay 142 [some (xR r0), some (xI i1), some (xI i2)] [xI (0 : Int), xI p1, xR t0] h d mc ms R) : Wp m_M_laysMay 141 [some (xR r0), some (xI i1), some (xI i2)] [xI p1, xR t0] h d mc ms R := Wp_blk ok_M_laysMay_141 H
def k_M_laysMay_142 : List AI := [(.bastore, [23]), (.iinc 2 1, []), (.goto 0, []), (.nop, [95])]
set_option maxRecDepth 20000 in
theorem ok_M_laysMay_142 : okB m_M_laysMay 142 k_M_laysMay_142 = true := by decide +kernel
set_option maxRecDepth 20000 in
theorem b_M_laysMay_142 (r0 : Nat) (i1 : Int) (i2 : Int) (t0 : Nat) (p1 : Int) (p2 : Int) {h : Hp} {d mc ms : Nat} {R : PR} (H : (((hpT h t0).1 = 23 ∧ 0 ≤ p1 ∧ p1 < ((hpT h t0).2 : Int)) ∧ ∀ g1 : Hp, g1 = hpU h t0 (Int.toNat p1) (ai_nar 23 p2) → Wp m_M_laysMay 95 [some (xR r0), some (xI i1), some (xI (ai_add i2 1))] [] g1 d mc ms R)) : Wp m_M_laysMay 142 [some (xR r0), some (xI i1), some (xI i2)] [xI p2, xI p1, xR t0] h d mc ms R := Wp_blk ok_M_laysMay_142 H
def k_M_laysMay_149 : List AI := [(.iinc 1 1, []), (.goto 0, []), (.nop, [82])]
set_option maxRecDepth 20000 in
theorem ok_M_laysMay_149 : okB m_M_laysMay 149 k_M_laysMay_149 = true := by decide +kernel
set_option maxRecDepth 20000 in
theorem b_M_laysMay_149 (r0 : Nat) (i1 : Int) (o2 : Option AV) {h : Hp} {d mc ms : Nat} {R : PR} (H : Wp m_M_laysMay 82 [some (xR r0), some (xI (ai_add i1 1)), o2] [] h d mc ms R) : Wp m_M_laysMay 149 [some (xR r0), some (xI i1), o2] [] h d mc ms R := Wp_blk ok_M_laysMay_149 H
def k_M_laysMay_155 : List AI := [(.return_, [])]
set_option maxRecDepth 20000 in
theorem ok_M_laysMay_155 : okB m_M_laysMay 155 k_M_laysMay_155 = true := by decide +kernel
set_option maxRecDepth 20000 in
theorem b_M_laysMay_155 (o0 : Option AV) (o1 : Option AV) (o2 : Option AV) {h : Hp} {d mc ms : Nat} {R : PR} (H : R none h) : Wp m_M_laysMay 155 [o0, o1, o2] [] h d mc ms R := Wp_blk ok_M_laysMay_155 H
def k_M_housesIn_0 : List AI := [(.iconst 0, []), (.istore 2, []), (.iconst 0, []), (.istore 3, []), (.nop, [4])]
set_option maxRecDepth 20000 in
theorem ok_M_housesIn_0 : okB m_M_housesIn 0 k_M_housesIn_0 = true := by decide +kernel
set_option maxRecDepth 20000 in
theorem b_M_housesIn_0 (r0 : Nat) (i1 : Int) (o2 : Option AV) (o3 : Option AV) {h : Hp} {d mc ms : Nat} {R : PR} (H : Wp m_M_housesIn 4 [some (xR r0), some (xI i1), some (xI (0 : Int)), some (xI (0 : Int))] [] h d mc ms R) : Wp m_M_housesIn 0 [some (xR r0), some (xI i1), o2, o3] [] h d mc ms R := Wp_blk ok_M_housesIn_0 H
def k_M_housesIn_4 : List AI := [(.iload 3, []), (.aload 0, []), (.getfield 0, [12, 0, 2, 1225]), (.iconst 7, []), (.iaload, [20]), (.if_icmp .ge 0, [47]), (.iload 2, []), (.iload 1, []), (.iload 3, []), (.ishr, []), (.iconst 1, []), (.iand, []), (.iconst 1, []), (.if_icmp .ne 0, [38]), (.aload 0, []), (.getfield 0, [12, 0, 2, 1225]), (.iconst 280, []), (.iload 3, []), (.iadd, []), (.iaload, [20]), (.goto 0, []), (.nop, [39])]
set_option maxRecDepth 20000 in
theorem ok_M_housesIn_4 : okB m_M_housesIn 4 k_M_housesIn_4 = true := by decide +kernel
set_option maxRecDepth 20000 in
theorem b_M_housesIn_4 (r0 : Nat) (i1 : Int) (i2 : Int) (i3 : Int) {h : Hp} {d mc ms : Nat} {R : PR} (H : ((hpT h r0).1 = 12 ∧ (((hpT h (Int.toNat (hpC h r0 0))).1 = 20 ∧ 0 ≤ (7 : Int) ∧ (7 : Int) < ((hpT h (Int.toNat (hpC h r0 0))).2 : Int)) ∧ (if i3 < (hpC h (Int.toNat (hpC h r0 0)) (Int.toNat (7 : Int))) then (if (ai_and (ai_shr i1 i3) (1 : Int)) = (1 : Int) then ((hpT h r0).1 = 12 ∧ (((hpT h (Int.toNat (hpC h r0 0))).1 = 20 ∧ 0 ≤ (ai_add (280 : Int) i3) ∧ (ai_add (280 : Int) i3) < ((hpT h (Int.toNat (hpC h r0 0))).2 : Int)) ∧ Wp m_M_housesIn 39 [some (xR r0), some (xI i1), some (xI i2), some (xI i3)] [xI (hpC h (Int.toNat (hpC h r0 0)) (Int.toNat (ai_add (280 : Int) i3))), xI i2] h d mc ms R)) else Wp m_M_housesIn 38 [some (xR r0), some (xI i1), some (xI i2), some (xI i3)] [xI i2] h d mc ms R) else Wp m_M_housesIn 47 [some (xR r0), some (xI i1), some (xI i2), some (xI i3)] [] h d mc ms R)))) : Wp m_M_housesIn 4 [some (xR r0), some (xI i1), some (xI i2), some (xI i3)] [] h d mc ms R := Wp_blk ok_M_housesIn_4 H
def k_M_housesIn_38 : List AI := [(.iconst 0, []), (.nop, [39])]
set_option maxRecDepth 20000 in
theorem ok_M_housesIn_38 : okB m_M_housesIn 38 k_M_housesIn_38 = true := by decide +kernel
set_option maxRecDepth 20000 in
theorem b_M_housesIn_38 (r0 : Nat) (i1 : Int) (o2 : Option AV) (i3 : Int) (p0 : Int) {h : Hp} {d mc ms : Nat} {R : PR} (H : Wp m_M_housesIn 39 [some (xR r0), some (xI i1), o2, some (xI i3)] [xI (0 : Int), xI p0] h d mc ms R) : Wp m_M_housesIn 38 [some (xR r0), some (xI i1), o2, some (xI i3)] [xI p0] h d mc ms R := Wp_blk ok_M_housesIn_38 H
def k_M_housesIn_39 : List AI := [(.iadd, []), (.istore 2, []), (.iinc 3 1, []), (.goto 0, []), (.nop, [4])]
set_option maxRecDepth 20000 in
theorem ok_M_housesIn_39 : okB m_M_housesIn 39 k_M_housesIn_39 = true := by decide +kernel
set_option maxRecDepth 20000 in
theorem b_M_housesIn_39 (r0 : Nat) (i1 : Int) (o2 : Option AV) (i3 : Int) (p0 : Int) (p1 : Int) {h : Hp} {d mc ms : Nat} {R : PR} (H : Wp m_M_housesIn 4 [some (xR r0), some (xI i1), some (xI (ai_add p0 p1)), some (xI (ai_add i3 1))] [] h d mc ms R) : Wp m_M_housesIn 39 [some (xR r0), some (xI i1), o2, some (xI i3)] [xI p1, xI p0] h d mc ms R := Wp_blk ok_M_housesIn_39 H
def k_M_housesIn_47 : List AI := [(.iload 2, []), (.ireturn, [1])]
set_option maxRecDepth 20000 in
theorem ok_M_housesIn_47 : okB m_M_housesIn 47 k_M_housesIn_47 = true := by decide +kernel
set_option maxRecDepth 20000 in
theorem b_M_housesIn_47 (o0 : Option AV) (o1 : Option AV) (i2 : Int) (o3 : Option AV) {h : Hp} {d mc ms : Nat} {R : PR} (H : R (some (xI i2)) h) : Wp m_M_housesIn 47 [o0, o1, some (xI i2), o3] [] h d mc ms R := Wp_blk ok_M_housesIn_47 H
def k_M_names_0 : List AI := [(.aload 0, []), (.getfield 0, [12, 0, 2, 1225]), (.iconst 7, []), (.iaload, [20]), (.istore 2, []), (.iconst 0, []), (.istore 3, []), (.nop, [10])]
set_option maxRecDepth 20000 in
theorem ok_M_names_0 : okB m_M_names 0 k_M_names_0 = true := by decide +kernel
set_option maxRecDepth 20000 in
theorem b_M_names_0 (r0 : Nat) (i1 : Int) (o2 : Option AV) (o3 : Option AV) (o4 : Option AV) {h : Hp} {d mc ms : Nat} {R : PR} (H : ((hpT h r0).1 = 12 ∧ (((hpT h (Int.toNat (hpC h r0 0))).1 = 20 ∧ 0 ≤ (7 : Int) ∧ (7 : Int) < ((hpT h (Int.toNat (hpC h r0 0))).2 : Int)) ∧ Wp m_M_names 10 [some (xR r0), some (xI i1), some (xI (hpC h (Int.toNat (hpC h r0 0)) (Int.toNat (7 : Int)))), some (xI (0 : Int)), o4] [] h d mc ms R))) : Wp m_M_names 0 [some (xR r0), some (xI i1), o2, o3, o4] [] h d mc ms R := Wp_blk ok_M_names_0 H
def k_M_names_10 : List AI := [(.iload 3, []), (.iload 2, []), (.if_icmp .ge 0, [28]), (.aload 0, []), (.getfield 0, [12, 26, 2, 1251]), (.iload 3, []), (.iconst (-1), []), (.iastore, []), (.iinc 3 1, []), (.goto 0, []), (.nop, [10])]
set_option maxRecDepth 20000 in
theorem ok_M_names_10 : okB m_M_names 10 k_M_names_10 = true := by decide +kernel
set_option maxRecDepth 20000 in
theorem b_M_names_10 (r0 : Nat) (i1 : Int) (i2 : Int) (i3 : Int) (o4 : Option AV) {h : Hp} {d mc ms : Nat} {R : PR} (H : (if i3 < i2 then ((hpT h r0).1 = 12 ∧ (((hpT h (Int.toNat (hpC h r0 26))).1 = 20 ∧ 0 ≤ i3 ∧ i3 < ((hpT h (Int.toNat (hpC h r0 26))).2 : Int)) ∧ ∀ g1 : Hp, g1 = hpU h (Int.toNat (hpC h r0 26)) (Int.toNat i3) (-1 : Int) → Wp m_M_names 10 [some (xR r0), some (xI i1), some (xI i2), some (xI (ai_add i3 1)), o4] [] g1 d mc ms R)) else Wp m_M_names 28 [some (xR r0), some (xI i1), some (xI i2), some (xI i3), o4] [] h d mc ms R)) : Wp m_M_names 10 [some (xR r0), some (xI i1), some (xI i2), some (xI i3), o4] [] h d mc ms R := Wp_blk ok_M_names_10 H
def k_M_names_28 : List AI := [(.iconst 0, []), (.istore 3, []), (.nop, [30])]
set_option maxRecDepth 20000 in
theorem ok_M_names_28 : okB m_M_names 28 k_M_names_28 = true := by decide +kernel
set_option maxRecDepth 20000 in
theorem b_M_names_28 (r0 : Nat) (i1 : Int) (i2 : Int) (o3 : Option AV) (o4 : Option AV) {h : Hp} {d mc ms : Nat} {R : PR} (H : Wp m_M_names 30 [some (xR r0), some (xI i1), some (xI i2), some (xI (0 : Int)), o4] [] h d mc ms R) : Wp m_M_names 28 [some (xR r0), some (xI i1), some (xI i2), o3, o4] [] h d mc ms R := Wp_blk ok_M_names_28 H
def k_M_names_30 : List AI := [(.iload 3, []), (.iload 2, []), (.if_icmp .ge 0, [49]), (.iload 1, []), (.iload 3, []), (.ishr, []), (.iconst 1, []), (.iand, []), (.ifCond .ne 0, [49]), (.iinc 3 1, []), (.goto 0, []), (.nop, [30])]
set_option maxRecDepth 20000 in
theorem ok_M_names_30 : okB m_M_names 30 k_M_names_30 = true := by decide +kernel
set_option maxRecDepth 20000 in
theorem b_M_names_30 (r0 : Nat) (i1 : Int) (i2 : Int) (i3 : Int) (o4 : Option AV) {h : Hp} {d mc ms : Nat} {R : PR} (H : (if i3 < i2 then (if (ai_and (ai_shr i1 i3) (1 : Int)) = (0 : Int) then Wp m_M_names 30 [some (xR r0), some (xI i1), some (xI i2), some (xI (ai_add i3 1)), o4] [] h d mc ms R else Wp m_M_names 49 [some (xR r0), some (xI i1), some (xI i2), some (xI i3), o4] [] h d mc ms R) else Wp m_M_names 49 [some (xR r0), some (xI i1), some (xI i2), some (xI i3), o4] [] h d mc ms R)) : Wp m_M_names 30 [some (xR r0), some (xI i1), some (xI i2), some (xI i3), o4] [] h d mc ms R := Wp_blk ok_M_names_30 H
def k_M_names_49 : List AI := [(.iload 3, []), (.ifCond .lt 0, [169]), (.iload 3, []), (.iload 2, []), (.if_icmp .ge 0, [169]), (.aload 0, []), (.getfield 0, [12, 26, 2, 1251]), (.iload 3, []), (.iaload, [20]), (.iconst 1, []), (.iadd, []), (.istore 4, []), (.nop, [68])]
set_option maxRecDepth 20000 in
theorem ok_M_names_49 : okB m_M_names 49 k_M_names_49 = true := by decide +kernel
set_option maxRecDepth 20000 in
theorem b_M_names_49 (r0 : Nat) (i1 : Int) (i2 : Int) (i3 : Int) (o4 : Option AV) {h : Hp} {d mc ms : Nat} {R : PR} (H : (if i3 < (0 : Int) then Wp m_M_names 169 [some (xR r0), some (xI i1), some (xI i2), some (xI i3), o4] [] h d mc ms R else (if i3 < i2 then ((hpT h r0).1 = 12 ∧ (((hpT h (Int.toNat (hpC h r0 26))).1 = 20 ∧ 0 ≤ i3 ∧ i3 < ((hpT h (Int.toNat (hpC h r0 26))).2 : Int)) ∧ Wp m_M_names 68 [some (xR r0), some (xI i1), some (xI i2), some (xI i3), some (xI (ai_add (hpC h (Int.toNat (hpC h r0 26)) (Int.toNat i3)) (1 : Int)))] [] h d mc ms R)) else Wp m_M_names 169 [some (xR r0), some (xI i1), some (xI i2), some (xI i3), o4] [] h d mc ms R))) : Wp m_M_names 49 [some (xR r0), some (xI i1), some (xI i2), some (xI i3), o4] [] h d mc ms R := Wp_blk ok_M_names_49 H
def k_M_names_68 : List AI := [(.iload 4, []), (.aload 0, []), (.getfield 0, [12, 0, 2, 1225]), (.iconst 6, []), (.iaload, [20]), (.if_icmp .ge 0, [96]), (.aload 0, []), (.iload 3, []), (.iload 4, []), (.invokevirtual 0, [254, 2, 4, 0, 0, 1, 12, 1672, 1674, 102, 136]), (.ifCond .ne 0, [96]), (.iinc 4 1, []), (.goto 0, []), (.nop, [68])]
set_option maxRecDepth 20000 in
theorem ok_M_names_68 : okB m_M_names 68 k_M_names_68 = true := by decide +kernel
set_option maxRecDepth 20000 in
theorem b_M_names_68 (r0 : Nat) (i1 : Int) (i2 : Int) (i3 : Int) (i4 : Int) {h : Hp} {d mc ms : Nat} {R : PR} (H : ((hpT h r0).1 = 12 ∧ (((hpT h (Int.toNat (hpC h r0 0))).1 = 20 ∧ 0 ≤ (6 : Int) ∧ (6 : Int) < ((hpT h (Int.toNat (hpC h r0 0))).2 : Int)) ∧ (if i4 < (hpC h (Int.toNat (hpC h r0 0)) (Int.toNat (6 : Int))) then ((1 ≤ d ∧ 0 ≤ mc ∧ 0 ≤ ms ∧ (hpT h r0).1 = 12) ∧ ∃ Q1 : PR, Wp m_M_fitsChoice 0 [some (xR r0), some (xI i3), some (xI i4), none] [] h (d - 1) 0 0 Q1 ∧ ∀ (v1 : Int) (h1 : Hp), Q1 (some (xI v1)) h1 → (if v1 = (0 : Int) then Wp m_M_names 68 [some (xR r0), some (xI i1), some (xI i2), some (xI i3), some (xI (ai_add i4 1))] [] h1 d mc ms R else Wp m_M_names 96 [some (xR r0), some (xI i1), some (xI i2), some (xI i3), some (xI i4)] [] h1 d mc ms R)) else Wp m_M_names 96 [some (xR r0), some (xI i1), some (xI i2), some (xI i3), some (xI i4)] [] h d mc ms R)))) : Wp m_M_names 68 [some (xR r0), some (xI i1), some (xI i2), some (xI i3), some (xI i4)] [] h d mc ms R := Wp_blk ok_M_names_68 H
def k_M_names_96 : List AI := [(.iload 4, []), (.aload 0, []), (.getfield 0, [12, 0, 2, 1225]), (.iconst 6, []), (.iaload, [20]), (.if_icmp .ge 0, [138]), (.aload 0, []), (.getfield 0, [12, 26, 2, 1251]), (.iload 3, []), (.iload 4, []), (.iastore, []), (.iinc 3 1, []), (.nop, [119])]
set_option maxRecDepth 20000 in
theorem ok_M_names_96 : okB m_M_names 96 k_M_names_96 = true := by decide +kernel
set_option maxRecDepth 20000 in
theorem b_M_names_96 (r0 : Nat) (i1 : Int) (i2 : Int) (i3 : Int) (i4 : Int) {h : Hp} {d mc ms : Nat} {R : PR} (H : ((hpT h r0).1 = 12 ∧ (((hpT h (Int.toNat (hpC h r0 0))).1 = 20 ∧ 0 ≤ (6 : Int) ∧ (6 : Int) < ((hpT h (Int.toNat (hpC h r0 0))).2 : Int)) ∧ (if i4 < (hpC h (Int.toNat (hpC h r0 0)) (Int.toNat (6 : Int))) then ((hpT h r0).1 = 12 ∧ (((hpT h (Int.toNat (hpC h r0 26))).1 = 20 ∧ 0 ≤ i3 ∧ i3 < ((hpT h (Int.toNat (hpC h r0 26))).2 : Int)) ∧ ∀ g1 : Hp, g1 = hpU h (Int.toNat (hpC h r0 26)) (Int.toNat i3) i4 → Wp m_M_names 119 [some (xR r0), some (xI i1), some (xI i2), some (xI (ai_add i3 1)), some (xI i4)] [] g1 d mc ms R)) else Wp m_M_names 138 [some (xR r0), some (xI i1), some (xI i2), some (xI i3), some (xI i4)] [] h d mc ms R)))) : Wp m_M_names 96 [some (xR r0), some (xI i1), some (xI i2), some (xI i3), some (xI i4)] [] h d mc ms R := Wp_blk ok_M_names_96 H
def k_M_names_119 : List AI := [(.iload 3, []), (.iload 2, []), (.if_icmp .ge 0, [166]), (.iload 1, []), (.iload 3, []), (.ishr, []), (.iconst 1, []), (.iand, []), (.ifCond .ne 0, [166]), (.iinc 3 1, []), (.goto 0, []), (.nop, [119])]
set_option maxRecDepth 20000 in
theorem ok_M_names_119 : okB m_M_names 119 k_M_names_119 = true := by decide +kernel
set_option maxRecDepth 20000 in
theorem b_M_names_119 (r0 : Nat) (i1 : Int) (i2 : Int) (i3 : Int) (o4 : Option AV) {h : Hp} {d mc ms : Nat} {R : PR} (H : (if i3 < i2 then (if (ai_and (ai_shr i1 i3) (1 : Int)) = (0 : Int) then Wp m_M_names 119 [some (xR r0), some (xI i1), some (xI i2), some (xI (ai_add i3 1)), o4] [] h d mc ms R else Wp m_M_names 166 [some (xR r0), some (xI i1), some (xI i2), some (xI i3), o4] [] h d mc ms R) else Wp m_M_names 166 [some (xR r0), some (xI i1), some (xI i2), some (xI i3), o4] [] h d mc ms R)) : Wp m_M_names 119 [some (xR r0), some (xI i1), some (xI i2), some (xI i3), o4] [] h d mc ms R := Wp_blk ok_M_names_119 H
def k_M_names_138 : List AI := [(.aload 0, []), (.getfield 0, [12, 26, 2, 1251]), (.iload 3, []), (.iconst (-1), []), (.iastore, []), (.iinc 3 (-1), []), (.nop, [148])]
set_option maxRecDepth 20000 in
theorem ok_M_names_138 : okB m_M_names 138 k_M_names_138 = true := by decide +kernel
set_option maxRecDepth 20000 in
theorem b_M_names_138 (r0 : Nat) (i1 : Int) (i2 : Int) (i3 : Int) (o4 : Option AV) {h : Hp} {d mc ms : Nat} {R : PR} (H : ((hpT h r0).1 = 12 ∧ (((hpT h (Int.toNat (hpC h r0 26))).1 = 20 ∧ 0 ≤ i3 ∧ i3 < ((hpT h (Int.toNat (hpC h r0 26))).2 : Int)) ∧ ∀ g1 : Hp, g1 = hpU h (Int.toNat (hpC h r0 26)) (Int.toNat i3) (-1 : Int) → Wp m_M_names 148 [some (xR r0), some (xI i1), some (xI i2), some (xI (ai_add i3 (-1))), o4] [] g1 d mc ms R))) : Wp m_M_names 138 [some (xR r0), some (xI i1), some (xI i2), some (xI i3), o4] [] h d mc ms R := Wp_blk ok_M_names_138 H
def k_M_names_148 : List AI := [(.iload 3, []), (.ifCond .lt 0, [166]), (.iload 1, []), (.iload 3, []), (.ishr, []), (.iconst 1, []), (.iand, []), (.ifCond .ne 0, [166]), (.iinc 3 (-1), []), (.goto 0, []), (.nop, [148])]
set_option maxRecDepth 20000 in
theorem ok_M_names_148 : okB m_M_names 148 k_M_names_148 = true := by decide +kernel
set_option maxRecDepth 20000 in
theorem b_M_names_148 (r0 : Nat) (i1 : Int) (i2 : Int) (i3 : Int) (o4 : Option AV) {h : Hp} {d mc ms : Nat} {R : PR} (H : (if i3 < (0 : Int) then Wp m_M_names 166 [some (xR r0), some (xI i1), some (xI i2), some (xI i3), o4] [] h d mc ms R else (if (ai_and (ai_shr i1 i3) (1 : Int)) = (0 : Int) then Wp m_M_names 148 [some (xR r0), some (xI i1), some (xI i2), some (xI (ai_add i3 (-1))), o4] [] h d mc ms R else Wp m_M_names 166 [some (xR r0), some (xI i1), some (xI i2), some (xI i3), o4] [] h d mc ms R))) : Wp m_M_names 148 [some (xR r0), some (xI i1), some (xI i2), some (xI i3), o4] [] h d mc ms R := Wp_blk ok_M_names_148 H
def k_M_names_166 : List AI := [(.goto 0, []), (.nop, [49])]
set_option maxRecDepth 20000 in
theorem ok_M_names_166 : okB m_M_names 166 k_M_names_166 = true := by decide +kernel
set_option maxRecDepth 20000 in
theorem b_M_names_166 (r0 : Nat) (i1 : Int) (i2 : Int) (i3 : Int) (o4 : Option AV) {h : Hp} {d mc ms : Nat} {R : PR} (H : Wp m_M_names 49 [some (xR r0), some (xI i1), some (xI i2), some (xI i3), o4] [] h d mc ms R) : Wp m_M_names 166 [some (xR r0), some (xI i1), some (xI i2), some (xI i3), o4] [] h d mc ms R := Wp_blk ok_M_names_166 H
def k_M_names_169 : List AI := [(.iload 3, []), (.iload 2, []), (.if_icmp .lt 0, [178]), (.iconst 1, []), (.goto 0, []), (.nop, [179])]
set_option maxRecDepth 20000 in
theorem ok_M_names_169 : okB m_M_names 169 k_M_names_169 = true := by decide +kernel
set_option maxRecDepth 20000 in
theorem b_M_names_169 (o0 : Option AV) (o1 : Option AV) (i2 : Int) (i3 : Int) (o4 : Option AV) {h : Hp} {d mc ms : Nat} {R : PR} (H : (if i3 < i2 then Wp m_M_names 178 [o0, o1, some (xI i2), some (xI i3), o4] [] h d mc ms R else Wp m_M_names 179 [o0, o1, some (xI i2), some (xI i3), o4] [xI (1 : Int)] h d mc ms R)) : Wp m_M_names 169 [o0, o1, some (xI i2), some (xI i3), o4] [] h d mc ms R := Wp_blk ok_M_names_169 H
def k_M_names_178 : List AI := [(.iconst 0, []), (.nop, [179])]
set_option maxRecDepth 20000 in
theorem ok_M_names_178 : okB m_M_names 178 k_M_names_178 = true := by decide +kernel
set_option maxRecDepth 20000 in
theorem b_M_names_178 (o0 : Option AV) (o1 : Option AV) (o2 : Option AV) (o3 : Option AV) (o4 : Option AV) {h : Hp} {d mc ms : Nat} {R : PR} (H : Wp m_M_names 179 [o0, o1, o2, o3, o4] [xI (0 : Int)] h d mc ms R) : Wp m_M_names 178 [o0, o1, o2, o3, o4] [] h d mc ms R := Wp_blk ok_M_names_178 H
def k_M_names_179 : List AI := [(.ireturn, [3])]
set_option maxRecDepth 20000 in
theorem ok_M_names_179 : okB m_M_names 179 k_M_names_179 = true := by decide +kernel
set_option maxRecDepth 20000 in
theorem b_M_names_179 (o0 : Option AV) (o1 : Option AV) (o2 : Option AV) (o3 : Option AV) (o4 : Option AV) (p0 : Int) {h : Hp} {d mc ms : Nat} {R : PR} (H : ((p0 = 0 ∨ p0 = 1) ∧ R (some (xI p0)) h)) : Wp m_M_names 179 [o0, o1, o2, o3, o4] [xI p0] h d mc ms R := Wp_blk ok_M_names_179 H
def k_M_fitsChoice_0 : List AI := [(.aload 0, []), (.getfield 0, [12, 24, 2, 1249]), (.iconst 12, []), (.iload 1, []), (.imul, []), (.iload 2, []), (.iadd, []), (.baload, [23]), (.ifCond .ne 0, [16]), (.iconst 0, []), (.ireturn, [3])]
set_option maxRecDepth 20000 in
theorem ok_M_fitsChoice_0 : okB m_M_fitsChoice 0 k_M_fitsChoice_0 = true := by decide +kernel
set_option maxRecDepth 20000 in
theorem b_M_fitsChoice_0 (r0 : Nat) (i1 : Int) (i2 : Int) (o3 : Option AV) {h : Hp} {d mc ms : Nat} {R : PR} (H : ((hpT h r0).1 = 12 ∧ (((hpT h (Int.toNat (hpC h r0 24))).1 = 23 ∧ 0 ≤ (ai_add (ai_mul (12 : Int) i1) i2) ∧ (ai_add (ai_mul (12 : Int) i1) i2) < ((hpT h (Int.toNat (hpC h r0 24))).2 : Int)) ∧ (if (hpC h (Int.toNat (hpC h r0 24)) (Int.toNat (ai_add (ai_mul (12 : Int) i1) i2))) = (0 : Int) then (((0 : Int) = 0 ∨ (0 : Int) = 1) ∧ R (some (xI (0 : Int))) h) else Wp m_M_fitsChoice 16 [some (xR r0), some (xI i1), some (xI i2), o3] [] h d mc ms R)))) : Wp m_M_fitsChoice 0 [some (xR r0), some (xI i1), some (xI i2), o3] [] h d mc ms R := Wp_blk ok_M_fitsChoice_0 H
def k_M_fitsChoice_16 : List AI := [(.iconst 0, []), (.istore 3, []), (.nop, [18])]
set_option maxRecDepth 20000 in
theorem ok_M_fitsChoice_16 : okB m_M_fitsChoice 16 k_M_fitsChoice_16 = true := by decide +kernel
set_option maxRecDepth 20000 in
theorem b_M_fitsChoice_16 (r0 : Nat) (i1 : Int) (i2 : Int) (o3 : Option AV) {h : Hp} {d mc ms : Nat} {R : PR} (H : Wp m_M_fitsChoice 18 [some (xR r0), some (xI i1), some (xI i2), some (xI (0 : Int))] [] h d mc ms R) : Wp m_M_fitsChoice 16 [some (xR r0), some (xI i1), some (xI i2), o3] [] h d mc ms R := Wp_blk ok_M_fitsChoice_16 H
def k_M_fitsChoice_18 : List AI := [(.iload 3, []), (.iload 1, []), (.if_icmp .ge 0, [60]), (.aload 0, []), (.getfield 0, [12, 26, 2, 1251]), (.iload 3, []), (.iaload, [20]), (.iconst (-1), []), (.if_icmp .eq 0, [54]), (.aload 0, []), (.getfield 0, [12, 25, 2, 1250]), (.iconst 12, []), (.iload 2, []), (.imul, []), (.aload 0, []), (.getfield 0, [12, 26, 2, 1251]), (.iload 3, []), (.iaload, [20]), (.iadd, []), (.baload, [23]), (.ifCond .eq 0, [54]), (.iconst 0, []), (.ireturn, [3])]
set_option maxRecDepth 20000 in
theorem ok_M_fitsChoice_18 : okB m_M_fitsChoice 18 k_M_fitsChoice_18 = true := by decide +kernel
set_option maxRecDepth 20000 in
theorem b_M_fitsChoice_18 (r0 : Nat) (i1 : Int) (i2 : Int) (i3 : Int) {h : Hp} {d mc ms : Nat} {R : PR} (H : (if i3 < i1 then ((hpT h r0).1 = 12 ∧ (((hpT h (Int.toNat (hpC h r0 26))).1 = 20 ∧ 0 ≤ i3 ∧ i3 < ((hpT h (Int.toNat (hpC h r0 26))).2 : Int)) ∧ (if (hpC h (Int.toNat (hpC h r0 26)) (Int.toNat i3)) = (-1 : Int) then Wp m_M_fitsChoice 54 [some (xR r0), some (xI i1), some (xI i2), some (xI i3)] [] h d mc ms R else ((hpT h r0).1 = 12 ∧ ((hpT h r0).1 = 12 ∧ (((hpT h (Int.toNat (hpC h r0 26))).1 = 20 ∧ 0 ≤ i3 ∧ i3 < ((hpT h (Int.toNat (hpC h r0 26))).2 : Int)) ∧ (((hpT h (Int.toNat (hpC h r0 25))).1 = 23 ∧ 0 ≤ (ai_add (ai_mul (12 : Int) i2) (hpC h (Int.toNat (hpC h r0 26)) (Int.toNat i3))) ∧ (ai_add (ai_mul (12 : Int) i2) (hpC h (Int.toNat (hpC h r0 26)) (Int.toNat i3))) < ((hpT h (Int.toNat (hpC h r0 25))).2 : Int)) ∧ (if (hpC h (Int.toNat (hpC h r0 25)) (Int.toNat (ai_add (ai_mul (12 : Int) i2) (hpC h (Int.toNat (hpC h r0 26)) (Int.toNat i3))))) = (0 : Int) then Wp m_M_fitsChoice 54 [some (xR r0), some (xI i1), some (xI i2), some (xI i3)] [] h d mc ms R else (((0 : Int) = 0 ∨ (0 : Int) = 1) ∧ R (some (xI (0 : Int))) h))))))))) else Wp m_M_fitsChoice 60 [some (xR r0), some (xI i1), some (xI i2), some (xI i3)] [] h d mc ms R)) : Wp m_M_fitsChoice 18 [some (xR r0), some (xI i1), some (xI i2), some (xI i3)] [] h d mc ms R := Wp_blk ok_M_fitsChoice_18 H
def k_M_fitsChoice_54 : List AI := [(.iinc 3 1, []), (.goto 0, []), (.nop, [18])]
set_option maxRecDepth 20000 in
theorem ok_M_fitsChoice_54 : okB m_M_fitsChoice 54 k_M_fitsChoice_54 = true := by decide +kernel
set_option maxRecDepth 20000 in
theorem b_M_fitsChoice_54 (r0 : Nat) (i1 : Int) (i2 : Int) (i3 : Int) {h : Hp} {d mc ms : Nat} {R : PR} (H : Wp m_M_fitsChoice 18 [some (xR r0), some (xI i1), some (xI i2), some (xI (ai_add i3 1))] [] h d mc ms R) : Wp m_M_fitsChoice 54 [some (xR r0), some (xI i1), some (xI i2), some (xI i3)] [] h d mc ms R := Wp_blk ok_M_fitsChoice_54 H
def k_M_fitsChoice_60 : List AI := [(.iconst 1, []), (.ireturn, [3])]
set_option maxRecDepth 20000 in
theorem ok_M_fitsChoice_60 : okB m_M_fitsChoice 60 k_M_fitsChoice_60 = true := by decide +kernel
set_option maxRecDepth 20000 in
theorem b_M_fitsChoice_60 (o0 : Option AV) (o1 : Option AV) (o2 : Option AV) (o3 : Option AV) {h : Hp} {d mc ms : Nat} {R : PR} (H : (((1 : Int) = 0 ∨ (1 : Int) = 1) ∧ R (some (xI (1 : Int))) h)) : Wp m_M_fitsChoice 60 [o0, o1, o2, o3] [] h d mc ms R := Wp_blk ok_M_fitsChoice_60 H
def k_M_planned_0 : List AI := [(.aload 0, []), (.iload 1, []), (.invokevirtual 0, [215, 1, 2, 0, 0, 1, 12, 1518, 1520, 81, 136]), (.ifCond .eq 0, [36]), (.aload 0, []), (.invokevirtual 0, [250, 0, 5, 0, 0, 1, 12, 1656, 1658, 98, 136]), (.ifCond .eq 0, [36]), (.aload 0, []), (.getfield 0, [12, 28, 0, 1253]), (.iload 1, []), (.ishr, []), (.iconst 1, []), (.iand, []), (.iconst 1, []), (.if_icmp .ne 0, [36]), (.aload 0, []), (.getfield 0, [12, 27, 2, 1252]), (.iload 1, []), (.iaload, [20]), (.goto 0, []), (.nop, [37])]
set_option maxRecDepth 20000 in
theorem ok_M_planned_0 : okB m_M_planned 0 k_M_planned_0 = true := by decide +kernel
set_option maxRecDepth 20000 in
theorem b_M_planned_0 (r0 : Nat) (i1 : Int) {h : Hp} {d mc ms : Nat} {R : PR} (H : ((1 ≤ d ∧ 0 ≤ mc ∧ 0 ≤ ms ∧ (hpT h r0).1 = 12) ∧ ∃ Q1 : PR, Wp m_M_isStreet 0 [some (xR r0), some (xI i1)] [] h (d - 1) 0 0 Q1 ∧ ∀ (v1 : Int) (h1 : Hp), Q1 (some (xI v1)) h1 → (if v1 = (0 : Int) then Wp m_M_planned 36 [some (xR r0), some (xI i1)] [] h1 d mc ms R else ((1 ≤ d ∧ 0 ≤ mc ∧ 0 ≤ ms ∧ (hpT h1 r0).1 = 12) ∧ ∃ Q2 : PR, Wp m_M_plans 0 [some (xR r0), none, none, none, none] [] h1 (d - 1) 0 0 Q2 ∧ ∀ (v2 : Int) (h2 : Hp), Q2 (some (xI v2)) h2 → (if v2 = (0 : Int) then Wp m_M_planned 36 [some (xR r0), some (xI i1)] [] h2 d mc ms R else ((hpT h2 r0).1 = 12 ∧ (if (ai_and (ai_shr (hpC h2 r0 28) i1) (1 : Int)) = (1 : Int) then ((hpT h2 r0).1 = 12 ∧ (((hpT h2 (Int.toNat (hpC h2 r0 27))).1 = 20 ∧ 0 ≤ i1 ∧ i1 < ((hpT h2 (Int.toNat (hpC h2 r0 27))).2 : Int)) ∧ Wp m_M_planned 37 [some (xR r0), some (xI i1)] [xI (hpC h2 (Int.toNat (hpC h2 r0 27)) (Int.toNat i1))] h2 d mc ms R)) else Wp m_M_planned 36 [some (xR r0), some (xI i1)] [] h2 d mc ms R))))))) : Wp m_M_planned 0 [some (xR r0), some (xI i1)] [] h d mc ms R := Wp_blk ok_M_planned_0 H
def k_M_planned_36 : List AI := [(.iconst (-1), []), (.nop, [37])]
set_option maxRecDepth 20000 in
theorem ok_M_planned_36 : okB m_M_planned 36 k_M_planned_36 = true := by decide +kernel
set_option maxRecDepth 20000 in
theorem b_M_planned_36 (o0 : Option AV) (o1 : Option AV) {h : Hp} {d mc ms : Nat} {R : PR} (H : Wp m_M_planned 37 [o0, o1] [xI (-1 : Int)] h d mc ms R) : Wp m_M_planned 36 [o0, o1] [] h d mc ms R := Wp_blk ok_M_planned_36 H
def k_M_planned_37 : List AI := [(.ireturn, [1])]
set_option maxRecDepth 20000 in
theorem ok_M_planned_37 : okB m_M_planned 37 k_M_planned_37 = true := by decide +kernel
set_option maxRecDepth 20000 in
theorem b_M_planned_37 (o0 : Option AV) (o1 : Option AV) (p0 : Int) {h : Hp} {d mc ms : Nat} {R : PR} (H : R (some (xI p0)) h) : Wp m_M_planned 37 [o0, o1] [xI p0] h d mc ms R := Wp_blk ok_M_planned_37 H
def k_M_houses_0 : List AI := [(.aload 0, []), (.iload 1, []), (.invokevirtual 0, [215, 1, 2, 0, 0, 1, 12, 1518, 1520, 81, 136]), (.ifCond .eq 0, [21]), (.aload 0, []), (.getfield 0, [12, 0, 2, 1225]), (.iconst 280, []), (.iload 1, []), (.iadd, []), (.iaload, [20]), (.goto 0, []), (.nop, [22])]
set_option maxRecDepth 20000 in
theorem ok_M_houses_0 : okB m_M_houses 0 k_M_houses_0 = true := by decide +kernel
set_option maxRecDepth 20000 in
theorem b_M_houses_0 (r0 : Nat) (i1 : Int) {h : Hp} {d mc ms : Nat} {R : PR} (H : ((1 ≤ d ∧ 0 ≤ mc ∧ 0 ≤ ms ∧ (hpT h r0).1 = 12) ∧ ∃ Q1 : PR, Wp m_M_isStreet 0 [some (xR r0), some (xI i1)] [] h (d - 1) 0 0 Q1 ∧ ∀ (v1 : Int) (h1 : Hp), Q1 (some (xI v1)) h1 → (if v1 = (0 : Int) then Wp m_M_houses 21 [some (xR r0), some (xI i1)] [] h1 d mc ms R else ((hpT h1 r0).1 = 12 ∧ (((hpT h1 (Int.toNat (hpC h1 r0 0))).1 = 20 ∧ 0 ≤ (ai_add (280 : Int) i1) ∧ (ai_add (280 : Int) i1) < ((hpT h1 (Int.toNat (hpC h1 r0 0))).2 : Int)) ∧ Wp m_M_houses 22 [some (xR r0), some (xI i1)] [xI (hpC h1 (Int.toNat (hpC h1 r0 0)) (Int.toNat (ai_add (280 : Int) i1)))] h1 d mc ms R))))) : Wp m_M_houses 0 [some (xR r0), some (xI i1)] [] h d mc ms R := Wp_blk ok_M_houses_0 H
def k_M_houses_21 : List AI := [(.iconst (-1), []), (.nop, [22])]
set_option maxRecDepth 20000 in
theorem ok_M_houses_21 : okB m_M_houses 21 k_M_houses_21 = true := by decide +kernel
set_option maxRecDepth 20000 in
theorem b_M_houses_21 (o0 : Option AV) (o1 : Option AV) {h : Hp} {d mc ms : Nat} {R : PR} (H : Wp m_M_houses 22 [o0, o1] [xI (-1 : Int)] h d mc ms R) : Wp m_M_houses 21 [o0, o1] [] h d mc ms R := Wp_blk ok_M_houses_21 H
def k_M_houses_22 : List AI := [(.ireturn, [1])]
set_option maxRecDepth 20000 in
theorem ok_M_houses_22 : okB m_M_houses 22 k_M_houses_22 = true := by decide +kernel
set_option maxRecDepth 20000 in
theorem b_M_houses_22 (o0 : Option AV) (o1 : Option AV) (p0 : Int) {h : Hp} {d mc ms : Nat} {R : PR} (H : R (some (xI p0)) h) : Wp m_M_houses 22 [o0, o1] [xI p0] h d mc ms R := Wp_blk ok_M_houses_22 H
def k_M_house_0 : List AI := [(.aload 0, []), (.iload 1, []), (.iload 2, []), (.invokevirtual 0, [258, 2, 3, 0, 0, 1, 12, 1688, 1690, 103, 136]), (.ifCond .ne 0, [11]), (.iconst (-1), []), (.ireturn, [1])]
set_option maxRecDepth 20000 in
theorem ok_M_house_0 : okB m_M_house 0 k_M_house_0 = true := by decide +kernel
set_option maxRecDepth 20000 in
theorem b_M_house_0 (r0 : Nat) (i1 : Int) (i2 : Int) (i3 : Int) (o4 : Option AV) {h : Hp} {d mc ms : Nat} {R : PR} (H : ((1 ≤ d ∧ 0 ≤ mc ∧ 0 ≤ ms ∧ (hpT h r0).1 = 12) ∧ ∃ Q1 : PR, Wp m_M_isHouse 0 [some (xR r0), some (xI i1), some (xI i2)] [] h (d - 1) 0 0 Q1 ∧ ∀ (v1 : Int) (h1 : Hp), Q1 (some (xI v1)) h1 → (if v1 = (0 : Int) then R (some (xI (-1 : Int))) h1 else Wp m_M_house 11 [some (xR r0), some (xI i1), some (xI i2), some (xI i3), o4] [] h1 d mc ms R))) : Wp m_M_house 0 [some (xR r0), some (xI i1), some (xI i2), some (xI i3), o4] [] h d mc ms R := Wp_blk ok_M_house_0 H
def k_M_house_11 : List AI := [(.iconst 0, []), (.iload 1, []), (.iload 2, []), (.invokestatic 0, [203, 3, 3, 0, 0, 1, 1472, 1473, 136]), (.istore 4, []), (.iload 3, []), (.tableswitch 0 0 0 #[], [94, 0, 56, 1, 56, 2, 56, 3, 66, 4, 87])]
set_option maxRecDepth 20000 in
theorem ok_M_house_11 : okB m_M_house 11 k_M_house_11 = true := by decide +kernel
set_option maxRecDepth 20000 in
theorem b_M_house_11 (r0 : Nat) (i1 : Int) (i2 : Int) (i3 : Int) (o4 : Option AV) {h : Hp} {d mc ms : Nat} {R : PR} (H : ((1 ≤ d ∧ 0 ≤ mc ∧ 0 ≤ ms) ∧ ∃ Q1 : PR, Wp m_M_houseAt 0 [some (xI (0 : Int)), some (xI i1), some (xI i2)] [] h (d - 1) 0 0 Q1 ∧ ∀ (v1 : Int) (h1 : Hp), Q1 (some (xI v1)) h1 → (if i3 = ((0 : Nat) : Int) then Wp m_M_house 56 [some (xR r0), some (xI i1), some (xI i2), some (xI i3), some (xI v1)] [] h1 d mc ms R else (if i3 = ((1 : Nat) : Int) then Wp m_M_house 56 [some (xR r0), some (xI i1), some (xI i2), some (xI i3), some (xI v1)] [] h1 d mc ms R else (if i3 = ((2 : Nat) : Int) then Wp m_M_house 56 [some (xR r0), some (xI i1), some (xI i2), some (xI i3), some (xI v1)] [] h1 d mc ms R else (if i3 = ((3 : Nat) : Int) then Wp m_M_house 66 [some (xR r0), some (xI i1), some (xI i2), some (xI i3), some (xI v1)] [] h1 d mc ms R else (if i3 = ((4 : Nat) : Int) then Wp m_M_house 87 [some (xR r0), some (xI i1), some (xI i2), some (xI i3), some (xI v1)] [] h1 d mc ms R else Wp m_M_house 94 [some (xR r0), some (xI i1), some (xI i2), some (xI i3), some (xI v1)] [] h1 d mc ms R))))))) : Wp m_M_house 11 [some (xR r0), some (xI i1), some (xI i2), some (xI i3), o4] [] h d mc ms R := Wp_blk ok_M_house_11 H
def k_M_house_56 : List AI := [(.aload 0, []), (.getfield 0, [12, 0, 2, 1225]), (.iload 4, []), (.iload 3, []), (.iadd, []), (.iaload, [20]), (.ireturn, [1])]
set_option maxRecDepth 20000 in
theorem ok_M_house_56 : okB m_M_house 56 k_M_house_56 = true := by decide +kernel
set_option maxRecDepth 20000 in
theorem b_M_house_56 (r0 : Nat) (o1 : Option AV) (o2 : Option AV) (i3 : Int) (i4 : Int) {h : Hp} {d mc ms : Nat} {R : PR} (H : ((hpT h r0).1 = 12 ∧ (((hpT h (Int.toNat (hpC h r0 0))).1 = 20 ∧ 0 ≤ (ai_add i4 i3) ∧ (ai_add i4 i3) < ((hpT h (Int.toNat (hpC h r0 0))).2 : Int)) ∧ R (some (xI (hpC h (Int.toNat (hpC h r0 0)) (Int.toNat (ai_add i4 i3))))) h))) : Wp m_M_house 56 [some (xR r0), o1, o2, some (xI i3), some (xI i4)] [] h d mc ms R := Wp_blk ok_M_house_56 H
def k_M_house_66 : List AI := [(.aload 0, []), (.aload 0, []), (.getfield 0, [12, 0, 2, 1225]), (.iload 4, []), (.iaload, [20]), (.aload 0, []), (.getfield 0, [12, 0, 2, 1225]), (.iload 4, []), (.iconst 1, []), (.iadd, []), (.iaload, [20]), (.invokevirtual 0, [259, 2, 3, 0, 0, 1, 12, 1692, 1694, 104, 136]), (.ireturn, [1])]
set_option maxRecDepth 20000 in
theorem ok_M_house_66 : okB m_M_house 66 k_M_house_66 = true := by decide +kernel
set_option maxRecDepth 20000 in
theorem b_M_house_66 (r0 : Nat) (o1 : Option AV) (o2 : Option AV) (o3 : Option AV) (i4 : Int) {h : Hp} {d mc ms : Nat} {R : PR} (H : ((hpT h r0).1 = 12 ∧ (((hpT h (Int.toNat (hpC h r0 0))).1 = 20 ∧ 0 ≤ i4 ∧ i4 < ((hpT h (Int.toNat (hpC h r0 0))).2 : Int)) ∧ ((hpT h r0).1 = 12 ∧ (((hpT h (Int.toNat (hpC h r0 0))).1 = 20 ∧ 0 ≤ (ai_add i4 (1 : Int)) ∧ (ai_add i4 (1 : Int)) < ((hpT h (Int.toNat (hpC h r0 0))).2 : Int)) ∧ ((1 ≤ d ∧ 0 ≤ mc ∧ 0 ≤ ms ∧ (hpT h r0).1 = 12) ∧ ∃ Q1 : PR, Wp m_M_lowOf 0 [some (xR r0), some (xI (hpC h (Int.toNat (hpC h r0 0)) (Int.toNat i4))), some (xI (hpC h (Int.toNat (hpC h r0 0)) (Int.toNat (ai_add i4 (1 : Int)))))] [] h (d - 1) 0 0 Q1 ∧ ∀ (v1 : Int) (h1 : Hp), Q1 (some (xI v1)) h1 → R (some (xI v1)) h1)))))) : Wp m_M_house 66 [some (xR r0), o1, o2, o3, some (xI i4)] [] h d mc ms R := Wp_blk ok_M_house_66 H
def k_M_house_87 : List AI := [(.aload 0, []), (.iload 1, []), (.iload 2, []), (.invokevirtual 0, [260, 2, 7, 0, 0, 1, 12, 1696, 1698, 105, 136]), (.ireturn, [1])]
set_option maxRecDepth 20000 in
theorem ok_M_house_87 : okB m_M_house 87 k_M_house_87 = true := by decide +kernel
set_option maxRecDepth 20000 in
theorem b_M_house_87 (r0 : Nat) (i1 : Int) (i2 : Int) (o3 : Option AV) (o4 : Option AV) {h : Hp} {d mc ms : Nat} {R : PR} (H : ((1 ≤ d ∧ 0 ≤ mc ∧ 0 ≤ ms ∧ (hpT h r0).1 = 12) ∧ ∃ Q1 : PR, Wp m_M_placeOf 0 [some (xR r0), some (xI i1), some (xI i2), none, none, none, none] [] h (d - 1) 0 0 Q1 ∧ ∀ (v1 : Int) (h1 : Hp), Q1 (some (xI v1)) h1 → R (some (xI v1)) h1)) : Wp m_M_house 87 [some (xR r0), some (xI i1), some (xI i2), o3, o4] [] h d mc ms R := Wp_blk ok_M_house_87 H
def k_M_house_94 : List AI := [(.iconst (-1), []), (.ireturn, [1])]
set_option maxRecDepth 20000 in
theorem ok_M_house_94 : okB m_M_house 94 k_M_house_94 = true := by decide +kernel
set_option maxRecDepth 20000 in
theorem b_M_house_94 (o0 : Option AV) (o1 : Option AV) (o2 : Option AV) (o3 : Option AV) (o4 : Option AV) {h : Hp} {d mc ms : Nat} {R : PR} (H : R (some (xI (-1 : Int))) h) : Wp m_M_house 94 [o0, o1, o2, o3, o4] [] h d mc ms R := Wp_blk ok_M_house_94 H
def k_M_isHouse_0 : List AI := [(.aload 0, []), (.iload 1, []), (.invokevirtual 0, [215, 1, 2, 0, 0, 1, 12, 1518, 1520, 81, 136]), (.ifCond .eq 0, [32]), (.iload 2, []), (.iconst 0, []), (.aload 0, []), (.getfield 0, [12, 0, 2, 1225]), (.iconst 280, []), (.iload 1, []), (.iadd, []), (.iaload, [20]), (.iconst 1, []), (.isub, []), (.invokestatic 0, [187, 3, 3, 0, 0, 1, 1409, 1410, 136]), (.ifCond .eq 0, [32]), (.iconst 1, []), (.goto 0, []), (.nop, [33])]
set_option maxRecDepth 20000 in
theorem ok_M_isHouse_0 : okB m_M_isHouse 0 k_M_isHouse_0 = true := by decide +kernel
set_option maxRecDepth 20000 in
theorem b_M_isHouse_0 (r0 : Nat) (i1 : Int) (i2 : Int) {h : Hp} {d mc ms : Nat} {R : PR} (H : ((1 ≤ d ∧ 0 ≤ mc ∧ 0 ≤ ms ∧ (hpT h r0).1 = 12) ∧ ∃ Q1 : PR, Wp m_M_isStreet 0 [some (xR r0), some (xI i1)] [] h (d - 1) 0 0 Q1 ∧ ∀ (v1 : Int) (h1 : Hp), Q1 (some (xI v1)) h1 → (if v1 = (0 : Int) then Wp m_M_isHouse 32 [some (xR r0), some (xI i1), some (xI i2)] [] h1 d mc ms R else ((hpT h1 r0).1 = 12 ∧ (((hpT h1 (Int.toNat (hpC h1 r0 0))).1 = 20 ∧ 0 ≤ (ai_add (280 : Int) i1) ∧ (ai_add (280 : Int) i1) < ((hpT h1 (Int.toNat (hpC h1 r0 0))).2 : Int)) ∧ ((1 ≤ d ∧ 0 ≤ mc ∧ 0 ≤ ms) ∧ ∃ Q2 : PR, Wp m_M_isIn 0 [some (xI i2), some (xI (0 : Int)), some (xI (ai_sub (hpC h1 (Int.toNat (hpC h1 r0 0)) (Int.toNat (ai_add (280 : Int) i1))) (1 : Int)))] [] h1 (d - 1) 0 0 Q2 ∧ ∀ (v2 : Int) (h2 : Hp), Q2 (some (xI v2)) h2 → (if v2 = (0 : Int) then Wp m_M_isHouse 32 [some (xR r0), some (xI i1), some (xI i2)] [] h2 d mc ms R else Wp m_M_isHouse 33 [some (xR r0), some (xI i1), some (xI i2)] [xI (1 : Int)] h2 d mc ms R))))))) : Wp m_M_isHouse 0 [some (xR r0), some (xI i1), some (xI i2)] [] h d mc ms R := Wp_blk ok_M_isHouse_0 H
def k_M_isHouse_32 : List AI := [(.iconst 0, []), (.nop, [33])]
set_option maxRecDepth 20000 in
theorem ok_M_isHouse_32 : okB m_M_isHouse 32 k_M_isHouse_32 = true := by decide +kernel
set_option maxRecDepth 20000 in
theorem b_M_isHouse_32 (o0 : Option AV) (o1 : Option AV) (o2 : Option AV) {h : Hp} {d mc ms : Nat} {R : PR} (H : Wp m_M_isHouse 33 [o0, o1, o2] [xI (0 : Int)] h d mc ms R) : Wp m_M_isHouse 32 [o0, o1, o2] [] h d mc ms R := Wp_blk ok_M_isHouse_32 H
def k_M_isHouse_33 : List AI := [(.ireturn, [3])]
set_option maxRecDepth 20000 in
theorem ok_M_isHouse_33 : okB m_M_isHouse 33 k_M_isHouse_33 = true := by decide +kernel
set_option maxRecDepth 20000 in
theorem b_M_isHouse_33 (o0 : Option AV) (o1 : Option AV) (o2 : Option AV) (p0 : Int) {h : Hp} {d mc ms : Nat} {R : PR} (H : ((p0 = 0 ∨ p0 = 1) ∧ R (some (xI p0)) h)) : Wp m_M_isHouse 33 [o0, o1, o2] [xI p0] h d mc ms R := Wp_blk ok_M_isHouse_33 H
def k_M_lowOf_0 : List AI := [(.iconst 2, []), (.iload 2, []), (.aload 0, []), (.getfield 0, [12, 0, 2, 1225]), (.iconst 2, []), (.iaload, [20]), (.idiv, []), (.imul, []), (.iconst 1, []), (.iadd, []), (.iload 1, []), (.iadd, []), (.ireturn, [1])]
set_option maxRecDepth 20000 in
theorem ok_M_lowOf_0 : okB m_M_lowOf 0 k_M_lowOf_0 = true := by decide +kernel
set_option maxRecDepth 20000 in
theorem b_M_lowOf_0 (r0 : Nat) (i1 : Int) (i2 : Int) {h : Hp} {d mc ms : Nat} {R : PR} (H : ((hpT h r0).1 = 12 ∧ (((hpT h (Int.toNat (hpC h r0 0))).1 = 20 ∧ 0 ≤ (2 : Int) ∧ (2 : Int) < ((hpT h (Int.toNat (hpC h r0 0))).2 : Int)) ∧ (¬ (hpC h (Int.toNat (hpC h r0 0)) (Int.toNat (2 : Int))) = 0 ∧ R (some (xI (ai_add (ai_add (ai_mul (2 : Int) (ai_div i2 (hpC h (Int.toNat (hpC h r0 0)) (Int.toNat (2 : Int))))) (1 : Int)) i1))) h)))) : Wp m_M_lowOf 0 [some (xR r0), some (xI i1), some (xI i2)] [] h d mc ms R := Wp_blk ok_M_lowOf_0 H
def k_M_placeOf_0 : List AI := [(.iconst 0, []), (.iload 1, []), (.iload 2, []), (.invokestatic 0, [203, 3, 3, 0, 0, 1, 1472, 1473, 136]), (.istore 3, []), (.iconst 0, []), (.istore 4, []), (.iconst 0, []), (.istore 5, []), (.nop, [13])]
set_option maxRecDepth 20000 in
theorem ok_M_placeOf_0 : okB m_M_placeOf 0 k_M_placeOf_0 = true := by decide +kernel
set_option maxRecDepth 20000 in
theorem b_M_placeOf_0 (r0 : Nat) (i1 : Int) (i2 : Int) (o3 : Option AV) (o4 : Option AV) (o5 : Option AV) (o6 : Option AV) {h : Hp} {d mc ms : Nat} {R : PR} (H : ((1 ≤ d ∧ 0 ≤ mc ∧ 0 ≤ ms) ∧ ∃ Q1 : PR, Wp m_M_houseAt 0 [some (xI (0 : Int)), some (xI i1), some (xI i2)] [] h (d - 1) 0 0 Q1 ∧ ∀ (v1 : Int) (h1 : Hp), Q1 (some (xI v1)) h1 → Wp m_M_placeOf 13 [some (xR r0), some (xI i1), some (xI i2), some (xI v1), some (xI (0 : Int)), some (xI (0 : Int)), o6] [] h1 d mc ms R)) : Wp m_M_placeOf 0 [some (xR r0), some (xI i1), some (xI i2), o3, o4, o5, o6] [] h d mc ms R := Wp_blk ok_M_placeOf_0 H
def k_M_placeOf_13 : List AI := [(.iload 5, []), (.aload 0, []), (.getfield 0, [12, 0, 2, 1225]), (.iconst 280, []), (.iload 1, []), (.iadd, []), (.iaload, [20]), (.if_icmp .ge 0, [89]), (.iconst 0, []), (.iload 1, []), (.iload 5, []), (.invokestatic 0, [203, 3, 3, 0, 0, 1, 1472, 1473, 136]), (.istore 6, []), (.iload 4, []), (.aload 0, []), (.getfield 0, [12, 0, 2, 1225]), (.iload 6, []), (.iaload, [20]), (.aload 0, []), (.getfield 0, [12, 0, 2, 1225]), (.iload 3, []), (.iaload, [20]), (.if_icmp .ne 0, [79]), (.aload 0, []), (.getfield 0, [12, 0, 2, 1225]), (.iload 6, []), (.iconst 1, []), (.iadd, []), (.iaload, [20]), (.aload 0, []), (.getfield 0, [12, 0, 2, 1225]), (.iload 3, []), (.iconst 1, []), (.iadd, []), (.iaload, [20]), (.if_icmp .ge 0, [79]), (.iconst 1, []), (.goto 0, []), (.nop, [80])]
set_option maxRecDepth 20000 in
theorem ok_M_placeOf_13 : okB m_M_placeOf 13 k_M_placeOf_13 = true := by decide +kernel
set_option maxRecDepth 20000 in
theorem b_M_placeOf_13 (r0 : Nat) (i1 : Int) (o2 : Option AV) (i3 : Int) (i4 : Int) (i5 : Int) (o6 : Option AV) {h : Hp} {d mc ms : Nat} {R : PR} (H : ((hpT h r0).1 = 12 ∧ (((hpT h (Int.toNat (hpC h r0 0))).1 = 20 ∧ 0 ≤ (ai_add (280 : Int) i1) ∧ (ai_add (280 : Int) i1) < ((hpT h (Int.toNat (hpC h r0 0))).2 : Int)) ∧ (if i5 < (hpC h (Int.toNat (hpC h r0 0)) (Int.toNat (ai_add (280 : Int) i1))) then ((1 ≤ d ∧ 0 ≤ mc ∧ 0 ≤ ms) ∧ ∃ Q1 : PR, Wp m_M_houseAt 0 [some (xI (0 : Int)), some (xI i1), some (xI i5)] [] h (d - 1) 0 0 Q1 ∧ ∀ (v1 : Int) (h1 : Hp), Q1 (some (xI v1)) h1 → ((hpT h1 r0).1 = 12 ∧ (((hpT h1 (Int.toNat (hpC h1 r0 0))).1 = 20 ∧ 0 ≤ v1 ∧ v1 < ((hpT h1 (Int.toNat (hpC h1 r0 0))).2 : Int)) ∧ ((hpT h1 r0).1 = 12 ∧ (((hpT h1 (Int.toNat (hpC h1 r0 0))).1 = 20 ∧ 0 ≤ i3 ∧ i3 < ((hpT h1 (Int.toNat (hpC h1 r0 0))).2 : Int)) ∧ (if (hpC h1 (Int.toNat (hpC h1 r0 0)) (Int.toNat v1)) = (hpC h1 (Int.toNat (hpC h1 r0 0)) (Int.toNat i3)) then ((hpT h1 r0).1 = 12 ∧ (((hpT h1 (Int.toNat (hpC h1 r0 0))).1 = 20 ∧ 0 ≤ (ai_add v1 (1 : Int)) ∧ (ai_add v1 (1 : Int)) < ((hpT h1 (Int.toNat (hpC h1 r0 0))).2 : Int)) ∧ ((hpT h1 r0).1 = 12 ∧ (((hpT h1 (Int.toNat (hpC h1 r0 0))).1 = 20 ∧ 0 ≤ (ai_add i3 (1 : Int)) ∧ (ai_add i3 (1 : Int)) < ((hpT h1 (Int.toNat (hpC h1 r0 0))).2 : Int)) ∧ (if (hpC h1 (Int.toNat (hpC h1 r0 0)) (Int.toNat (ai_add v1 (1 : Int)))) < (hpC h1 (Int.toNat (hpC h1 r0 0)) (Int.toNat (ai_add i3 (1 : Int)))) then Wp m_M_placeOf 80 [some (xR r0), some (xI i1), o2, some (xI i3), some (xI i4), some (xI i5), some (xI v1)] [xI (1 : Int), xI i4] h1 d mc ms R else Wp m_M_placeOf 79 [some (xR r0), some (xI i1), o2, some (xI i3), some (xI i4), some (xI i5), some (xI v1)] [xI i4] h1 d mc ms R))))) else Wp m_M_placeOf 79 [some (xR r0), some (xI i1), o2, some (xI i3), some (xI i4), some (xI i5), some (xI v1)] [xI i4] h1 d mc ms R)))))) else Wp m_M_placeOf 89 [some (xR r0), some (xI i1), o2, some (xI i3), some (xI i4), some (xI i5), o6] [] h d mc ms R)))) : Wp m_M_placeOf 13 [some (xR r0), some (xI i1), o2, some (xI i3), some (xI i4), some (xI i5), o6] [] h d mc ms R := Wp_blk ok_M_placeOf_13 H
def k_M_placeOf_79 : List AI := [(.iconst 0, []), (.nop, [80])]
set_option maxRecDepth 20000 in
theorem ok_M_placeOf_79 : okB m_M_placeOf 79 k_M_placeOf_79 = true := by decide +kernel
set_option maxRecDepth 20000 in
theorem b_M_placeOf_79 (r0 : Nat) (i1 : Int) (o2 : Option AV) (i3 : Int) (o4 : Option AV) (i5 : Int) (o6 : Option AV) (p0 : Int) {h : Hp} {d mc ms : Nat} {R : PR} (H : Wp m_M_placeOf 80 [some (xR r0), some (xI i1), o2, some (xI i3), o4, some (xI i5), o6] [xI (0 : Int), xI p0] h d mc ms R) : Wp m_M_placeOf 79 [some (xR r0), some (xI i1), o2, some (xI i3), o4, some (xI i5), o6] [xI p0] h d mc ms R := Wp_blk ok_M_placeOf_79 H
def k_M_placeOf_80 : List AI := [(.iadd, []), (.istore 4, []), (.iinc 5 1, []), (.goto 0, []), (.nop, [13])]
set_option maxRecDepth 20000 in
theorem ok_M_placeOf_80 : okB m_M_placeOf 80 k_M_placeOf_80 = true := by decide +kernel
set_option maxRecDepth 20000 in
theorem b_M_placeOf_80 (r0 : Nat) (i1 : Int) (o2 : Option AV) (i3 : Int) (o4 : Option AV) (i5 : Int) (o6 : Option AV) (p0 : Int) (p1 : Int) {h : Hp} {d mc ms : Nat} {R : PR} (H : Wp m_M_placeOf 13 [some (xR r0), some (xI i1), o2, some (xI i3), some (xI (ai_add p0 p1)), some (xI (ai_add i5 1)), o6] [] h d mc ms R) : Wp m_M_placeOf 80 [some (xR r0), some (xI i1), o2, some (xI i3), o4, some (xI i5), o6] [xI p1, xI p0] h d mc ms R := Wp_blk ok_M_placeOf_80 H
def k_M_placeOf_89 : List AI := [(.iload 4, []), (.ireturn, [1])]
set_option maxRecDepth 20000 in
theorem ok_M_placeOf_89 : okB m_M_placeOf 89 k_M_placeOf_89 = true := by decide +kernel
set_option maxRecDepth 20000 in
theorem b_M_placeOf_89 (o0 : Option AV) (o1 : Option AV) (o2 : Option AV) (o3 : Option AV) (i4 : Int) (o5 : Option AV) (o6 : Option AV) {h : Hp} {d mc ms : Nat} {R : PR} (H : R (some (xI i4)) h) : Wp m_M_placeOf 89 [o0, o1, o2, o3, some (xI i4), o5, o6] [] h d mc ms R := Wp_blk ok_M_placeOf_89 H
def k_M_at_0 : List AI := [(.aload 0, []), (.iload 1, []), (.invokevirtual 0, [215, 1, 2, 0, 0, 1, 12, 1518, 1520, 81, 136]), (.ifCond .ne 0, [10]), (.iconst (-1), []), (.ireturn, [1])]
set_option maxRecDepth 20000 in
theorem ok_M_at_0 : okB m_M_at 0 k_M_at_0 = true := by decide +kernel
set_option maxRecDepth 20000 in
theorem b_M_at_0 (r0 : Nat) (i1 : Int) (i2 : Int) (o3 : Option AV) {h : Hp} {d mc ms : Nat} {R : PR} (H : ((1 ≤ d ∧ 0 ≤ mc ∧ 0 ≤ ms ∧ (hpT h r0).1 = 12) ∧ ∃ Q1 : PR, Wp m_M_isStreet 0 [some (xR r0), some (xI i1)] [] h (d - 1) 0 0 Q1 ∧ ∀ (v1 : Int) (h1 : Hp), Q1 (some (xI v1)) h1 → (if v1 = (0 : Int) then R (some (xI (-1 : Int))) h1 else Wp m_M_at 10 [some (xR r0), some (xI i1), some (xI i2), o3] [] h1 d mc ms R))) : Wp m_M_at 0 [some (xR r0), some (xI i1), some (xI i2), o3] [] h d mc ms R := Wp_blk ok_M_at_0 H
def k_M_at_10 : List AI := [(.iconst 0, []), (.istore 3, []), (.nop, [12])]
set_option maxRecDepth 20000 in
theorem ok_M_at_10 : okB m_M_at 10 k_M_at_10 = true := by decide +kernel
set_option maxRecDepth 20000 in
theorem b_M_at_10 (r0 : Nat) (i1 : Int) (i2 : Int) (o3 : Option AV) {h : Hp} {d mc ms : Nat} {R : PR} (H : Wp m_M_at 12 [some (xR r0), some (xI i1), some (xI i2), some (xI (0 : Int))] [] h d mc ms R) : Wp m_M_at 10 [some (xR r0), some (xI i1), some (xI i2), o3] [] h d mc ms R := Wp_blk ok_M_at_10 H
def k_M_at_12 : List AI := [(.iload 3, []), (.aload 0, []), (.getfield 0, [12, 0, 2, 1225]), (.iconst 280, []), (.iload 1, []), (.iadd, []), (.iaload, [20]), (.if_icmp .ge 0, [51]), (.aload 0, []), (.getfield 0, [12, 0, 2, 1225]), (.iconst 0, []), (.iload 1, []), (.iload 3, []), (.invokestatic 0, [203, 3, 3, 0, 0, 1, 1472, 1473, 136]), (.iconst 2, []), (.iadd, []), (.iaload, [20]), (.iload 2, []), (.if_icmp .ne 0, [45]), (.iload 3, []), (.ireturn, [1])]
set_option maxRecDepth 20000 in
theorem ok_M_at_12 : okB m_M_at 12 k_M_at_12 = true := by decide +kernel
set_option maxRecDepth 20000 in
theorem b_M_at_12 (r0 : Nat) (i1 : Int) (i2 : Int) (i3 : Int) {h : Hp} {d mc ms : Nat} {R : PR} (H : ((hpT h r0).1 = 12 ∧ (((hpT h (Int.toNat (hpC h r0 0))).1 = 20 ∧ 0 ≤ (ai_add (280 : Int) i1) ∧ (ai_add (280 : Int) i1) < ((hpT h (Int.toNat (hpC h r0 0))).2 : Int)) ∧ (if i3 < (hpC h (Int.toNat (hpC h r0 0)) (Int.toNat (ai_add (280 : Int) i1))) then ((hpT h r0).1 = 12 ∧ ((1 ≤ d ∧ 0 ≤ mc ∧ 0 ≤ ms) ∧ ∃ Q1 : PR, Wp m_M_houseAt 0 [some (xI (0 : Int)), some (xI i1), some (xI i3)] [] h (d - 1) 0 0 Q1 ∧ ∀ (v1 : Int) (h1 : Hp), Q1 (some (xI v1)) h1 → (((hpT h1 (Int.toNat (hpC h r0 0))).1 = 20 ∧ 0 ≤ (ai_add v1 (2 : Int)) ∧ (ai_add v1 (2 : Int)) < ((hpT h1 (Int.toNat (hpC h r0 0))).2 : Int)) ∧ (if (hpC h1 (Int.toNat (hpC h r0 0)) (Int.toNat (ai_add v1 (2 : Int)))) = i2 then R (some (xI i3)) h1 else Wp m_M_at 45 [some (xR r0), some (xI i1), some (xI i2), some (xI i3)] [] h1 d mc ms R)))) else Wp m_M_at 51 [some (xR r0), some (xI i1), some (xI i2), some (xI i3)] [] h d mc ms R)))) : Wp m_M_at 12 [some (xR r0), some (xI i1), some (xI i2), some (xI i3)] [] h d mc ms R := Wp_blk ok_M_at_12 H
def k_M_at_45 : List AI := [(.iinc 3 1, []), (.goto 0, []), (.nop, [12])]
set_option maxRecDepth 20000 in
theorem ok_M_at_45 : okB m_M_at 45 k_M_at_45 = true := by decide +kernel
set_option maxRecDepth 20000 in
theorem b_M_at_45 (r0 : Nat) (i1 : Int) (i2 : Int) (i3 : Int) {h : Hp} {d mc ms : Nat} {R : PR} (H : Wp m_M_at 12 [some (xR r0), some (xI i1), some (xI i2), some (xI (ai_add i3 1))] [] h d mc ms R) : Wp m_M_at 45 [some (xR r0), some (xI i1), some (xI i2), some (xI i3)] [] h d mc ms R := Wp_blk ok_M_at_45 H
def k_M_at_51 : List AI := [(.iconst (-1), []), (.ireturn, [1])]
set_option maxRecDepth 20000 in
theorem ok_M_at_51 : okB m_M_at 51 k_M_at_51 = true := by decide +kernel
set_option maxRecDepth 20000 in
theorem b_M_at_51 (o0 : Option AV) (o1 : Option AV) (o2 : Option AV) (o3 : Option AV) {h : Hp} {d mc ms : Nat} {R : PR} (H : R (some (xI (-1 : Int))) h) : Wp m_M_at 51 [o0, o1, o2, o3] [] h d mc ms R := Wp_blk ok_M_at_51 H
def k_M_ordered_0 : List AI := [(.aload 0, []), (.iload 1, []), (.invokevirtual 0, [215, 1, 2, 0, 0, 1, 12, 1518, 1520, 81, 136]), (.ifCond .ne 0, [10]), (.iconst (-1), []), (.ireturn, [1])]
set_option maxRecDepth 20000 in
theorem ok_M_ordered_0 : okB m_M_ordered 0 k_M_ordered_0 = true := by decide +kernel
set_option maxRecDepth 20000 in
theorem b_M_ordered_0 (r0 : Nat) (i1 : Int) (o2 : Option AV) (o3 : Option AV) (o4 : Option AV) (o5 : Option AV) {h : Hp} {d mc ms : Nat} {R : PR} (H : ((1 ≤ d ∧ 0 ≤ mc ∧ 0 ≤ ms ∧ (hpT h r0).1 = 12) ∧ ∃ Q1 : PR, Wp m_M_isStreet 0 [some (xR r0), some (xI i1)] [] h (d - 1) 0 0 Q1 ∧ ∀ (v1 : Int) (h1 : Hp), Q1 (some (xI v1)) h1 → (if v1 = (0 : Int) then R (some (xI (-1 : Int))) h1 else Wp m_M_ordered 10 [some (xR r0), some (xI i1), o2, o3, o4, o5] [] h1 d mc ms R))) : Wp m_M_ordered 0 [some (xR r0), some (xI i1), o2, o3, o4, o5] [] h d mc ms R := Wp_blk ok_M_ordered_0 H
def k_M_ordered_10 : List AI := [(.iconst 0, []), (.istore 2, []), (.nop, [12])]
set_option maxRecDepth 20000 in
theorem ok_M_ordered_10 : okB m_M_ordered 10 k_M_ordered_10 = true := by decide +kernel
set_option maxRecDepth 20000 in
theorem b_M_ordered_10 (r0 : Nat) (i1 : Int) (o2 : Option AV) (o3 : Option AV) (o4 : Option AV) (o5 : Option AV) {h : Hp} {d mc ms : Nat} {R : PR} (H : Wp m_M_ordered 12 [some (xR r0), some (xI i1), some (xI (0 : Int)), o3, o4, o5] [] h d mc ms R) : Wp m_M_ordered 10 [some (xR r0), some (xI i1), o2, o3, o4, o5] [] h d mc ms R := Wp_blk ok_M_ordered_10 H
def k_M_ordered_12 : List AI := [(.iload 2, []), (.iconst 2, []), (.if_icmp .ge 0, [97]), (.aload 0, []), (.iload 1, []), (.iload 2, []), (.invokevirtual 0, [263, 2, 4, 0, 0, 0, 12, 1708, 1710, 106, 136]), (.iconst 0, []), (.istore 3, []), (.iconst 0, []), (.istore 4, []), (.nop, [28])]
set_option maxRecDepth 20000 in
theorem ok_M_ordered_12 : okB m_M_ordered 12 k_M_ordered_12 = true := by decide +kernel
set_option maxRecDepth 20000 in
theorem b_M_ordered_12 (r0 : Nat) (i1 : Int) (i2 : Int) (o3 : Option AV) (o4 : Option AV) (o5 : Option AV) {h : Hp} {d mc ms : Nat} {R : PR} (H : (if i2 < (2 : Int) then ((1 ≤ d ∧ 0 ≤ mc ∧ 0 ≤ ms ∧ (hpT h r0).1 = 12) ∧ ∃ Q1 : PR, Wp m_M_laysSide 0 [some (xR r0), some (xI i1), some (xI i2), none] [] h (d - 1) 0 0 Q1 ∧ ∀ (h1 : Hp), Q1 none h1 → Wp m_M_ordered 28 [some (xR r0), some (xI i1), some (xI i2), some (xI (0 : Int)), some (xI (0 : Int)), o5] [] h1 d mc ms R) else Wp m_M_ordered 97 [some (xR r0), some (xI i1), some (xI i2), o3, o4, o5] [] h d mc ms R)) : Wp m_M_ordered 12 [some (xR r0), some (xI i1), some (xI i2), o3, o4, o5] [] h d mc ms R := Wp_blk ok_M_ordered_12 H
def k_M_ordered_28 : List AI := [(.iload 4, []), (.aload 0, []), (.getfield 0, [12, 30, 0, 1255]), (.if_icmp .ge 0, [91]), (.aload 0, []), (.iload 1, []), (.iload 4, []), (.invokevirtual 0, [264, 2, 3, 0, 0, 1, 12, 1712, 1714, 107, 136]), (.istore 5, []), (.iload 5, []), (.iconst 2, []), (.irem, []), (.iload 2, []), (.if_icmp .eq 0, [80]), (.iload 5, []), (.iconst 999, []), (.if_icmp .gt 0, [80]), (.iload 5, []), (.aload 0, []), (.iload 1, []), (.iload 4, []), (.invokevirtual 0, [265, 2, 4, 0, 0, 1, 12, 1716, 1718, 108, 136]), (.if_icmp .lt 0, [80]), (.iload 5, []), (.iload 3, []), (.if_icmp .gt 0, [82]), (.nop, [80])]
set_option maxRecDepth 20000 in
theorem ok_M_ordered_28 : okB m_M_ordered 28 k_M_ordered_28 = true := by decide +kernel
set_option maxRecDepth 20000 in
theorem b_M_ordered_28 (r0 : Nat) (i1 : Int) (i2 : Int) (i3 : Int) (i4 : Int) (o5 : Option AV) {h : Hp} {d mc ms : Nat} {R : PR} (H : ((hpT h r0).1 = 12 ∧ (if i4 < (hpC h r0 30) then ((1 ≤ d ∧ 0 ≤ mc ∧ 0 ≤ ms ∧ (hpT h r0).1 = 12) ∧ ∃ Q1 : PR, Wp m_M_numberNow 0 [some (xR r0), some (xI i1), some (xI i4)] [] h (d - 1) 0 0 Q1 ∧ ∀ (v1 : Int) (h1 : Hp), Q1 (some (xI v1)) h1 → (¬ (2 : Int) = 0 ∧ (if (ai_rem v1 (2 : Int)) = i2 then Wp m_M_ordered 80 [some (xR r0), some (xI i1), some (xI i2), some (xI i3), some (xI i4), some (xI v1)] [] h1 d mc ms R else (if (999 : Int) < v1 then Wp m_M_ordered 80 [some (xR r0), some (xI i1), some (xI i2), some (xI i3), some (xI i4), some (xI v1)] [] h1 d mc ms R else ((1 ≤ d ∧ 0 ≤ mc ∧ 0 ≤ ms ∧ (hpT h1 r0).1 = 12) ∧ ∃ Q2 : PR, Wp m_M_lowHere 0 [some (xR r0), some (xI i1), some (xI i4), none] [] h1 (d - 1) 0 0 Q2 ∧ ∀ (v2 : Int) (h2 : Hp), Q2 (some (xI v2)) h2 → (if v1 < v2 then Wp m_M_ordered 80 [some (xR r0), some (xI i1), some (xI i2), some (xI i3), some (xI i4), some (xI v1)] [] h2 d mc ms R else (if i3 < v1 then Wp m_M_ordered 82 [some (xR r0), some (xI i1), some (xI i2), some (xI i3), some (xI i4), some (xI v1)] [] h2 d mc ms R else Wp m_M_ordered 80 [some (xR r0), some (xI i1), some (xI i2), some (xI i3), some (xI i4), some (xI v1)] [] h2 d mc ms R))))))) else Wp m_M_ordered 91 [some (xR r0), some (xI i1), some (xI i2), some (xI i3), some (xI i4), o5] [] h d mc ms R))) : Wp m_M_ordered 28 [some (xR r0), some (xI i1), some (xI i2), some (xI i3), some (xI i4), o5] [] h d mc ms R := Wp_blk ok_M_ordered_28 H
def k_M_ordered_80 : List AI := [(.iconst 0, []), (.ireturn, [1])]
set_option maxRecDepth 20000 in
theorem ok_M_ordered_80 : okB m_M_ordered 80 k_M_ordered_80 = true := by decide +kernel
set_option maxRecDepth 20000 in
theorem b_M_ordered_80 (o0 : Option AV) (o1 : Option AV) (o2 : Option AV) (o3 : Option AV) (o4 : Option AV) (o5 : Option AV) {h : Hp} {d mc ms : Nat} {R : PR} (H : R (some (xI (0 : Int))) h) : Wp m_M_ordered 80 [o0, o1, o2, o3, o4, o5] [] h d mc ms R := Wp_blk ok_M_ordered_80 H
def k_M_ordered_82 : List AI := [(.iload 5, []), (.istore 3, []), (.iinc 4 1, []), (.goto 0, []), (.nop, [28])]
set_option maxRecDepth 20000 in
theorem ok_M_ordered_82 : okB m_M_ordered 82 k_M_ordered_82 = true := by decide +kernel
set_option maxRecDepth 20000 in
theorem b_M_ordered_82 (r0 : Nat) (i1 : Int) (i2 : Int) (o3 : Option AV) (i4 : Int) (i5 : Int) {h : Hp} {d mc ms : Nat} {R : PR} (H : Wp m_M_ordered 28 [some (xR r0), some (xI i1), some (xI i2), some (xI i5), some (xI (ai_add i4 1)), some (xI i5)] [] h d mc ms R) : Wp m_M_ordered 82 [some (xR r0), some (xI i1), some (xI i2), o3, some (xI i4), some (xI i5)] [] h d mc ms R := Wp_blk ok_M_ordered_82 H
def k_M_ordered_91 : List AI := [(.iinc 2 1, []), (.goto 0, []), (.nop, [12])]
set_option maxRecDepth 20000 in
theorem ok_M_ordered_91 : okB m_M_ordered 91 k_M_ordered_91 = true := by decide +kernel
set_option maxRecDepth 20000 in
theorem b_M_ordered_91 (r0 : Nat) (i1 : Int) (i2 : Int) (o3 : Option AV) (o4 : Option AV) (o5 : Option AV) {h : Hp} {d mc ms : Nat} {R : PR} (H : Wp m_M_ordered 12 [some (xR r0), some (xI i1), some (xI (ai_add i2 1)), o3, o4, o5] [] h d mc ms R) : Wp m_M_ordered 91 [some (xR r0), some (xI i1), some (xI i2), o3, o4, o5] [] h d mc ms R := Wp_blk ok_M_ordered_91 H
def k_M_ordered_97 : List AI := [(.iconst 1, []), (.ireturn, [1])]
set_option maxRecDepth 20000 in
theorem ok_M_ordered_97 : okB m_M_ordered 97 k_M_ordered_97 = true := by decide +kernel
set_option maxRecDepth 20000 in
theorem b_M_ordered_97 (o0 : Option AV) (o1 : Option AV) (o2 : Option AV) (o3 : Option AV) (o4 : Option AV) (o5 : Option AV) {h : Hp} {d mc ms : Nat} {R : PR} (H : R (some (xI (1 : Int))) h) : Wp m_M_ordered 97 [o0, o1, o2, o3, o4, o5] [] h d mc ms R := Wp_blk ok_M_ordered_97 H
def k_M_laysSide_0 : List AI := [(.aload 0, []), (.iconst 0, []), (.putfield 0, [12, 30, 0, 1255]), (.iconst 0, []), (.istore 3, []), (.nop, [7])]
set_option maxRecDepth 20000 in
theorem ok_M_laysSide_0 : okB m_M_laysSide 0 k_M_laysSide_0 = true := by decide +kernel
set_option maxRecDepth 20000 in
theorem b_M_laysSide_0 (r0 : Nat) (i1 : Int) (i2 : Int) (o3 : Option AV) {h : Hp} {d mc ms : Nat} {R : PR} (H : ((hpT h r0).1 = 12 ∧ ∀ g1 : Hp, g1 = hpU h r0 30 (0 : Int) → Wp m_M_laysSide 7 [some (xR r0), some (xI i1), some (xI i2), some (xI (0 : Int))] [] g1 d mc ms R)) : Wp m_M_laysSide 0 [some (xR r0), some (xI i1), some (xI i2), o3] [] h d mc ms R := Wp_blk ok_M_laysSide_0 H
def k_M_laysSide_7 : List AI := [(.iload 3, []), (.aload 0, []), (.getfield 0, [12, 0, 2, 1225]), (.iconst 280, []), (.iload 1, []), (.iadd, []), (.iaload, [20]), (.if_icmp .ge 0, [52]), (.aload 0, []), (.getfield 0, [12, 0, 2, 1225]), (.iconst 0, []), (.iload 1, []), (.iload 3, []), (.invokestatic 0, [203, 3, 3, 0, 0, 1, 1472, 1473, 136]), (.iaload, [20]), (.iload 2, []), (.if_icmp .ne 0, [46]), (.aload 0, []), (.dup, []), (.getfield 0, [12, 30, 0, 1255]), (.iconst 1, []), (.iadd, []), (.putfield 0, [12, 30, 0, 1255]), (.nop, [46])]
set_option maxRecDepth 20000 in
theorem ok_M_laysSide_7 : okB m_M_laysSide 7 k_M_laysSide_7 = true := by decide +kernel
set_option maxRecDepth 20000 in
theorem b_M_laysSide_7 (r0 : Nat) (i1 : Int) (i2 : Int) (i3 : Int) {h : Hp} {d mc ms : Nat} {R : PR} (H : ((hpT h r0).1 = 12 ∧ (((hpT h (Int.toNat (hpC h r0 0))).1 = 20 ∧ 0 ≤ (ai_add (280 : Int) i1) ∧ (ai_add (280 : Int) i1) < ((hpT h (Int.toNat (hpC h r0 0))).2 : Int)) ∧ (if i3 < (hpC h (Int.toNat (hpC h r0 0)) (Int.toNat (ai_add (280 : Int) i1))) then ((hpT h r0).1 = 12 ∧ ((1 ≤ d ∧ 0 ≤ mc ∧ 0 ≤ ms) ∧ ∃ Q1 : PR, Wp m_M_houseAt 0 [some (xI (0 : Int)), some (xI i1), some (xI i3)] [] h (d - 1) 0 0 Q1 ∧ ∀ (v1 : Int) (h1 : Hp), Q1 (some (xI v1)) h1 → (((hpT h1 (Int.toNat (hpC h r0 0))).1 = 20 ∧ 0 ≤ v1 ∧ v1 < ((hpT h1 (Int.toNat (hpC h r0 0))).2 : Int)) ∧ (if (hpC h1 (Int.toNat (hpC h r0 0)) (Int.toNat v1)) = i2 then ((hpT h1 r0).1 = 12 ∧ ((hpT h1 r0).1 = 12 ∧ ∀ g1 : Hp, g1 = hpU h1 r0 30 (ai_add (hpC h1 r0 30) (1 : Int)) → Wp m_M_laysSide 46 [some (xR r0), some (xI i1), some (xI i2), some (xI i3)] [] g1 d mc ms R)) else Wp m_M_laysSide 46 [some (xR r0), some (xI i1), some (xI i2), some (xI i3)] [] h1 d mc ms R)))) else Wp m_M_laysSide 52 [some (xR r0), some (xI i1), some (xI i2), some (xI i3)] [] h d mc ms R)))) : Wp m_M_laysSide 7 [some (xR r0), some (xI i1), some (xI i2), some (xI i3)] [] h d mc ms R := Wp_blk ok_M_laysSide_7 H
def k_M_laysSide_46 : List AI := [(.iinc 3 1, []), (.goto 0, []), (.nop, [7])]
set_option maxRecDepth 20000 in
theorem ok_M_laysSide_46 : okB m_M_laysSide 46 k_M_laysSide_46 = true := by decide +kernel
set_option maxRecDepth 20000 in
theorem b_M_laysSide_46 (r0 : Nat) (i1 : Int) (i2 : Int) (i3 : Int) {h : Hp} {d mc ms : Nat} {R : PR} (H : Wp m_M_laysSide 7 [some (xR r0), some (xI i1), some (xI i2), some (xI (ai_add i3 1))] [] h d mc ms R) : Wp m_M_laysSide 46 [some (xR r0), some (xI i1), some (xI i2), some (xI i3)] [] h d mc ms R := Wp_blk ok_M_laysSide_46 H
def k_M_laysSide_52 : List AI := [(.iconst 0, []), (.istore 3, []), (.nop, [54])]
set_option maxRecDepth 20000 in
theorem ok_M_laysSide_52 : okB m_M_laysSide 52 k_M_laysSide_52 = true := by decide +kernel
set_option maxRecDepth 20000 in
theorem b_M_laysSide_52 (r0 : Nat) (i1 : Int) (i2 : Int) (o3 : Option AV) {h : Hp} {d mc ms : Nat} {R : PR} (H : Wp m_M_laysSide 54 [some (xR r0), some (xI i1), some (xI i2), some (xI (0 : Int))] [] h d mc ms R) : Wp m_M_laysSide 52 [some (xR r0), some (xI i1), some (xI i2), o3] [] h d mc ms R := Wp_blk ok_M_laysSide_52 H
def k_M_laysSide_54 : List AI := [(.iload 3, []), (.aload 0, []), (.getfield 0, [12, 0, 2, 1225]), (.iconst 280, []), (.iload 1, []), (.iadd, []), (.iaload, [20]), (.if_icmp .ge 0, [101]), (.aload 0, []), (.getfield 0, [12, 0, 2, 1225]), (.iconst 0, []), (.iload 1, []), (.iload 3, []), (.invokestatic 0, [203, 3, 3, 0, 0, 1, 1472, 1473, 136]), (.iaload, [20]), (.iload 2, []), (.if_icmp .ne 0, [95]), (.aload 0, []), (.getfield 0, [12, 29, 2, 1254]), (.aload 0, []), (.iload 1, []), (.iload 3, []), (.invokevirtual 0, [260, 2, 7, 0, 0, 1, 12, 1696, 1698, 105, 136]), (.iload 3, []), (.iastore, []), (.nop, [95])]
set_option maxRecDepth 20000 in
theorem ok_M_laysSide_54 : okB m_M_laysSide 54 k_M_laysSide_54 = true := by decide +kernel
set_option maxRecDepth 20000 in
theorem b_M_laysSide_54 (r0 : Nat) (i1 : Int) (i2 : Int) (i3 : Int) {h : Hp} {d mc ms : Nat} {R : PR} (H : ((hpT h r0).1 = 12 ∧ (((hpT h (Int.toNat (hpC h r0 0))).1 = 20 ∧ 0 ≤ (ai_add (280 : Int) i1) ∧ (ai_add (280 : Int) i1) < ((hpT h (Int.toNat (hpC h r0 0))).2 : Int)) ∧ (if i3 < (hpC h (Int.toNat (hpC h r0 0)) (Int.toNat (ai_add (280 : Int) i1))) then ((hpT h r0).1 = 12 ∧ ((1 ≤ d ∧ 0 ≤ mc ∧ 0 ≤ ms) ∧ ∃ Q1 : PR, Wp m_M_houseAt 0 [some (xI (0 : Int)), some (xI i1), some (xI i3)] [] h (d - 1) 0 0 Q1 ∧ ∀ (v1 : Int) (h1 : Hp), Q1 (some (xI v1)) h1 → (((hpT h1 (Int.toNat (hpC h r0 0))).1 = 20 ∧ 0 ≤ v1 ∧ v1 < ((hpT h1 (Int.toNat (hpC h r0 0))).2 : Int)) ∧ (if (hpC h1 (Int.toNat (hpC h r0 0)) (Int.toNat v1)) = i2 then ((hpT h1 r0).1 = 12 ∧ ((1 ≤ d ∧ 0 ≤ mc ∧ 0 ≤ ms ∧ (hpT h1 r0).1 = 12) ∧ ∃ Q2 : PR, Wp m_M_placeOf 0 [some (xR r0), some (xI i1), some (xI i3), none, none, none, none] [] h1 (d - 1) 0 0 Q2 ∧ ∀ (v2 : Int) (h2 : Hp), Q2 (some (xI v2)) h2 → (((hpT h2 (Int.toNat (hpC h1 r0 29))).1 = 20 ∧ 0 ≤ v2 ∧ v2 < ((hpT h2 (Int.toNat (hpC h1 r0 29))).2 : Int)) ∧ ∀ g1 : Hp, g1 = hpU h2 (Int.toNat (hpC h1 r0 29)) (Int.toNat v2) i3 → Wp m_M_laysSide 95 [some (xR r0), some (xI i1), some (xI i2), some (xI i3)] [] g1 d mc ms R))) else Wp m_M_laysSide 95 [some (xR r0), some (xI i1), some (xI i2), some (xI i3)] [] h1 d mc ms R)))) else Wp m_M_laysSide 101 [some (xR r0), some (xI i1), some (xI i2), some (xI i3)] [] h d mc ms R)))) : Wp m_M_laysSide 54 [some (xR r0), some (xI i1), some (xI i2), some (xI i3)] [] h d mc ms R := Wp_blk ok_M_laysSide_54 H
def k_M_laysSide_95 : List AI := [(.iinc 3 1, []), (.goto 0, []), (.nop, [54])]
set_option maxRecDepth 20000 in
theorem ok_M_laysSide_95 : okB m_M_laysSide 95 k_M_laysSide_95 = true := by decide +kernel
set_option maxRecDepth 20000 in
theorem b_M_laysSide_95 (r0 : Nat) (i1 : Int) (i2 : Int) (i3 : Int) {h : Hp} {d mc ms : Nat} {R : PR} (H : Wp m_M_laysSide 54 [some (xR r0), some (xI i1), some (xI i2), some (xI (ai_add i3 1))] [] h d mc ms R) : Wp m_M_laysSide 95 [some (xR r0), some (xI i1), some (xI i2), some (xI i3)] [] h d mc ms R := Wp_blk ok_M_laysSide_95 H
def k_M_laysSide_101 : List AI := [(.return_, [])]
set_option maxRecDepth 20000 in
theorem ok_M_laysSide_101 : okB m_M_laysSide 101 k_M_laysSide_101 = true := by decide +kernel
set_option maxRecDepth 20000 in
theorem b_M_laysSide_101 (o0 : Option AV) (o1 : Option AV) (o2 : Option AV) (o3 : Option AV) {h : Hp} {d mc ms : Nat} {R : PR} (H : R none h) : Wp m_M_laysSide 101 [o0, o1, o2, o3] [] h d mc ms R := Wp_blk ok_M_laysSide_101 H
def k_M_numberNow_0 : List AI := [(.aload 0, []), (.getfield 0, [12, 0, 2, 1225]), (.iconst 0, []), (.iload 1, []), (.aload 0, []), (.getfield 0, [12, 29, 2, 1254]), (.iload 2, []), (.iaload, [20]), (.invokestatic 0, [203, 3, 3, 0, 0, 1, 1472, 1473, 136]), (.iconst 2, []), (.iadd, []), (.iaload, [20]), (.ireturn, [1])]
set_option maxRecDepth 20000 in
theorem ok_M_numberNow_0 : okB m_M_numberNow 0 k_M_numberNow_0 = true := by decide +kernel
set_option maxRecDepth 20000 in
theorem b_M_numberNow_0 (r0 : Nat) (i1 : Int) (i2 : Int) {h : Hp} {d mc ms : Nat} {R : PR} (H : ((hpT h r0).1 = 12 ∧ ((hpT h r0).1 = 12 ∧ (((hpT h (Int.toNat (hpC h r0 29))).1 = 20 ∧ 0 ≤ i2 ∧ i2 < ((hpT h (Int.toNat (hpC h r0 29))).2 : Int)) ∧ ((1 ≤ d ∧ 0 ≤ mc ∧ 0 ≤ ms) ∧ ∃ Q1 : PR, Wp m_M_houseAt 0 [some (xI (0 : Int)), some (xI i1), some (xI (hpC h (Int.toNat (hpC h r0 29)) (Int.toNat i2)))] [] h (d - 1) 0 0 Q1 ∧ ∀ (v1 : Int) (h1 : Hp), Q1 (some (xI v1)) h1 → (((hpT h1 (Int.toNat (hpC h r0 0))).1 = 20 ∧ 0 ≤ (ai_add v1 (2 : Int)) ∧ (ai_add v1 (2 : Int)) < ((hpT h1 (Int.toNat (hpC h r0 0))).2 : Int)) ∧ R (some (xI (hpC h1 (Int.toNat (hpC h r0 0)) (Int.toNat (ai_add v1 (2 : Int)))))) h1)))))) : Wp m_M_numberNow 0 [some (xR r0), some (xI i1), some (xI i2)] [] h d mc ms R := Wp_blk ok_M_numberNow_0 H
def k_M_lowHere_0 : List AI := [(.iconst 0, []), (.iload 1, []), (.aload 0, []), (.getfield 0, [12, 29, 2, 1254]), (.iload 2, []), (.iaload, [20]), (.invokestatic 0, [203, 3, 3, 0, 0, 1, 1472, 1473, 136]), (.istore 3, []), (.aload 0, []), (.aload 0, []), (.getfield 0, [12, 0, 2, 1225]), (.iload 3, []), (.iaload, [20]), (.aload 0, []), (.getfield 0, [12, 0, 2, 1225]), (.iload 3, []), (.iconst 1, []), (.iadd, []), (.iaload, [20]), (.invokevirtual 0, [259, 2, 3, 0, 0, 1, 12, 1692, 1694, 104, 136]), (.ireturn, [1])]
set_option maxRecDepth 20000 in
theorem ok_M_lowHere_0 : okB m_M_lowHere 0 k_M_lowHere_0 = true := by decide +kernel
set_option maxRecDepth 20000 in
theorem b_M_lowHere_0 (r0 : Nat) (i1 : Int) (i2 : Int) (o3 : Option AV) {h : Hp} {d mc ms : Nat} {R : PR} (H : ((hpT h r0).1 = 12 ∧ (((hpT h (Int.toNat (hpC h r0 29))).1 = 20 ∧ 0 ≤ i2 ∧ i2 < ((hpT h (Int.toNat (hpC h r0 29))).2 : Int)) ∧ ((1 ≤ d ∧ 0 ≤ mc ∧ 0 ≤ ms) ∧ ∃ Q1 : PR, Wp m_M_houseAt 0 [some (xI (0 : Int)), some (xI i1), some (xI (hpC h (Int.toNat (hpC h r0 29)) (Int.toNat i2)))] [] h (d - 1) 0 0 Q1 ∧ ∀ (v1 : Int) (h1 : Hp), Q1 (some (xI v1)) h1 → ((hpT h1 r0).1 = 12 ∧ (((hpT h1 (Int.toNat (hpC h1 r0 0))).1 = 20 ∧ 0 ≤ v1 ∧ v1 < ((hpT h1 (Int.toNat (hpC h1 r0 0))).2 : Int)) ∧ ((hpT h1 r0).1 = 12 ∧ (((hpT h1 (Int.toNat (hpC h1 r0 0))).1 = 20 ∧ 0 ≤ (ai_add v1 (1 : Int)) ∧ (ai_add v1 (1 : Int)) < ((hpT h1 (Int.toNat (hpC h1 r0 0))).2 : Int)) ∧ ((1 ≤ d ∧ 0 ≤ mc ∧ 0 ≤ ms ∧ (hpT h1 r0).1 = 12) ∧ ∃ Q2 : PR, Wp m_M_lowOf 0 [some (xR r0), some (xI (hpC h1 (Int.toNat (hpC h1 r0 0)) (Int.toNat v1))), some (xI (hpC h1 (Int.toNat (hpC h1 r0 0)) (Int.toNat (ai_add v1 (1 : Int)))))] [] h1 (d - 1) 0 0 Q2 ∧ ∀ (v2 : Int) (h2 : Hp), Q2 (some (xI v2)) h2 → R (some (xI v2)) h2))))))))) : Wp m_M_lowHere 0 [some (xR r0), some (xI i1), some (xI i2), o3] [] h d mc ms R := Wp_blk ok_M_lowHere_0 H
def k_M_fewest_0 : List AI := [(.aload 0, []), (.iload 1, []), (.invokevirtual 0, [215, 1, 2, 0, 0, 1, 12, 1518, 1520, 81, 136]), (.ifCond .eq 0, [16]), (.aload 0, []), (.iload 1, []), (.invokevirtual 0, [267, 1, 6, 0, 0, 1, 12, 1724, 1726, 109, 136]), (.goto 0, []), (.nop, [17])]
set_option maxRecDepth 20000 in
theorem ok_M_fewest_0 : okB m_M_fewest 0 k_M_fewest_0 = true := by decide +kernel
set_option maxRecDepth 20000 in
theorem b_M_fewest_0 (r0 : Nat) (i1 : Int) {h : Hp} {d mc ms : Nat} {R : PR} (H : ((1 ≤ d ∧ 0 ≤ mc ∧ 0 ≤ ms ∧ (hpT h r0).1 = 12) ∧ ∃ Q1 : PR, Wp m_M_isStreet 0 [some (xR r0), some (xI i1)] [] h (d - 1) 0 0 Q1 ∧ ∀ (v1 : Int) (h1 : Hp), Q1 (some (xI v1)) h1 → (if v1 = (0 : Int) then Wp m_M_fewest 16 [some (xR r0), some (xI i1)] [] h1 d mc ms R else ((1 ≤ d ∧ 0 ≤ mc ∧ 0 ≤ ms ∧ (hpT h1 r0).1 = 12) ∧ ∃ Q2 : PR, Wp m_M_laysThen 0 [some (xR r0), some (xI i1), none, none, none, none] [] h1 (d - 1) 0 0 Q2 ∧ ∀ (v2 : Int) (h2 : Hp), Q2 (some (xI v2)) h2 → Wp m_M_fewest 17 [some (xR r0), some (xI i1)] [xI v2] h2 d mc ms R)))) : Wp m_M_fewest 0 [some (xR r0), some (xI i1)] [] h d mc ms R := Wp_blk ok_M_fewest_0 H
def k_M_fewest_16 : List AI := [(.iconst (-1), []), (.nop, [17])]
set_option maxRecDepth 20000 in
theorem ok_M_fewest_16 : okB m_M_fewest 16 k_M_fewest_16 = true := by decide +kernel
set_option maxRecDepth 20000 in
theorem b_M_fewest_16 (o0 : Option AV) (o1 : Option AV) {h : Hp} {d mc ms : Nat} {R : PR} (H : Wp m_M_fewest 17 [o0, o1] [xI (-1 : Int)] h d mc ms R) : Wp m_M_fewest 16 [o0, o1] [] h d mc ms R := Wp_blk ok_M_fewest_16 H
def k_M_fewest_17 : List AI := [(.ireturn, [1])]
set_option maxRecDepth 20000 in
theorem ok_M_fewest_17 : okB m_M_fewest 17 k_M_fewest_17 = true := by decide +kernel
set_option maxRecDepth 20000 in
theorem b_M_fewest_17 (o0 : Option AV) (o1 : Option AV) (p0 : Int) {h : Hp} {d mc ms : Nat} {R : PR} (H : R (some (xI p0)) h) : Wp m_M_fewest 17 [o0, o1] [xI p0] h d mc ms R := Wp_blk ok_M_fewest_17 H
def k_M_laysThen_0 : List AI := [(.iconst 0, []), (.istore 2, []), (.iconst 0, []), (.istore 3, []), (.nop, [4])]
set_option maxRecDepth 20000 in
theorem ok_M_laysThen_0 : okB m_M_laysThen 0 k_M_laysThen_0 = true := by decide +kernel
set_option maxRecDepth 20000 in
theorem b_M_laysThen_0 (r0 : Nat) (i1 : Int) (o2 : Option AV) (o3 : Option AV) (o4 : Option AV) (o5 : Option AV) {h : Hp} {d mc ms : Nat} {R : PR} (H : Wp m_M_laysThen 4 [some (xR r0), some (xI i1), some (xI (0 : Int)), some (xI (0 : Int)), o4, o5] [] h d mc ms R) : Wp m_M_laysThen 0 [some (xR r0), some (xI i1), o2, o3, o4, o5] [] h d mc ms R := Wp_blk ok_M_laysThen_0 H
def k_M_laysThen_4 : List AI := [(.iload 3, []), (.iconst 2, []), (.if_icmp .ge 0, [73]), (.aload 0, []), (.iload 1, []), (.iload 3, []), (.invokevirtual 0, [268, 2, 7, 0, 0, 1, 12, 1728, 1730, 110, 136]), (.istore 4, []), (.iload 4, []), (.iconst (-1), []), (.if_icmp .ne 0, [25]), (.iconst (-1), []), (.ireturn, [1])]
set_option maxRecDepth 20000 in
theorem ok_M_laysThen_4 : okB m_M_laysThen 4 k_M_laysThen_4 = true := by decide +kernel
set_option maxRecDepth 20000 in
theorem b_M_laysThen_4 (r0 : Nat) (i1 : Int) (i2 : Int) (i3 : Int) (o4 : Option AV) (o5 : Option AV) {h : Hp} {d mc ms : Nat} {R : PR} (H : (if i3 < (2 : Int) then ((1 ≤ d ∧ 0 ≤ mc ∧ 0 ≤ ms ∧ (hpT h r0).1 = 12) ∧ ∃ Q1 : PR, Wp m_M_fewestOn 0 [some (xR r0), some (xI i1), some (xI i3), none, none, none, none] [] h (d - 1) 0 0 Q1 ∧ ∀ (v1 : Int) (h1 : Hp), Q1 (some (xI v1)) h1 → (if v1 = (-1 : Int) then R (some (xI (-1 : Int))) h1 else Wp m_M_laysThen 25 [some (xR r0), some (xI i1), some (xI i2), some (xI i3), some (xI v1), o5] [] h1 d mc ms R)) else Wp m_M_laysThen 73 [some (xR r0), some (xI i1), some (xI i2), some (xI i3), o4, o5] [] h d mc ms R)) : Wp m_M_laysThen 4 [some (xR r0), some (xI i1), some (xI i2), some (xI i3), o4, o5] [] h d mc ms R := Wp_blk ok_M_laysThen_4 H
def k_M_laysThen_25 : List AI := [(.iload 2, []), (.iload 4, []), (.iadd, []), (.istore 2, []), (.iconst 0, []), (.istore 5, []), (.nop, [33])]
set_option maxRecDepth 20000 in
theorem ok_M_laysThen_25 : okB m_M_laysThen 25 k_M_laysThen_25 = true := by decide +kernel
set_option maxRecDepth 20000 in
theorem b_M_laysThen_25 (r0 : Nat) (i1 : Int) (i2 : Int) (i3 : Int) (i4 : Int) (o5 : Option AV) {h : Hp} {d mc ms : Nat} {R : PR} (H : Wp m_M_laysThen 33 [some (xR r0), some (xI i1), some (xI (ai_add i2 i4)), some (xI i3), some (xI i4), some (xI (0 : Int))] [] h d mc ms R) : Wp m_M_laysThen 25 [some (xR r0), some (xI i1), some (xI i2), some (xI i3), some (xI i4), o5] [] h d mc ms R := Wp_blk ok_M_laysThen_25 H
def k_M_laysThen_33 : List AI := [(.iload 5, []), (.aload 0, []), (.getfield 0, [12, 30, 0, 1255]), (.if_icmp .ge 0, [67]), (.aload 0, []), (.getfield 0, [12, 33, 2, 1258]), (.aload 0, []), (.getfield 0, [12, 29, 2, 1254]), (.iload 5, []), (.iaload, [20]), (.aload 0, []), (.getfield 0, [12, 32, 2, 1257]), (.iload 5, []), (.iaload, [20]), (.iastore, []), (.iinc 5 1, []), (.goto 0, []), (.nop, [33])]
set_option maxRecDepth 20000 in
theorem ok_M_laysThen_33 : okB m_M_laysThen 33 k_M_laysThen_33 = true := by decide +kernel
set_option maxRecDepth 20000 in
theorem b_M_laysThen_33 (r0 : Nat) (i1 : Int) (i2 : Int) (i3 : Int) (o4 : Option AV) (i5 : Int) {h : Hp} {d mc ms : Nat} {R : PR} (H : ((hpT h r0).1 = 12 ∧ (if i5 < (hpC h r0 30) then ((hpT h r0).1 = 12 ∧ ((hpT h r0).1 = 12 ∧ (((hpT h (Int.toNat (hpC h r0 29))).1 = 20 ∧ 0 ≤ i5 ∧ i5 < ((hpT h (Int.toNat (hpC h r0 29))).2 : Int)) ∧ ((hpT h r0).1 = 12 ∧ (((hpT h (Int.toNat (hpC h r0 32))).1 = 20 ∧ 0 ≤ i5 ∧ i5 < ((hpT h (Int.toNat (hpC h r0 32))).2 : Int)) ∧ (((hpT h (Int.toNat (hpC h r0 33))).1 = 20 ∧ 0 ≤ (hpC h (Int.toNat (hpC h r0 29)) (Int.toNat i5)) ∧ (hpC h (Int.toNat (hpC h r0 29)) (Int.toNat i5)) < ((hpT h (Int.toNat (hpC h r0 33))).2 : Int)) ∧ ∀ g1 : Hp, g1 = hpU h (Int.toNat (hpC h r0 33)) (Int.toNat (hpC h (Int.toNat (hpC h r0 29)) (Int.toNat i5))) (hpC h (Int.toNat (hpC h r0 32)) (Int.toNat i5)) → Wp m_M_laysThen 33 [some (xR r0), some (xI i1), some (xI i2), some (xI i3), x_d2 o4, some (xI (ai_add i5 1))] [] g1 d mc ms R)))))) else Wp m_M_laysThen 67 [some (xR r0), some (xI i1), some (xI i2), some (xI i3), o4, some (xI i5)] [] h d mc ms R))) : Wp m_M_laysThen 33 [some (xR r0), some (xI i1), some (xI i2), some (xI i3), o4, some (xI i5)] [] h d mc ms R := Wp_blk ok_M_laysThen_33 H
def k_M_laysThen_67 : List AI := [(.iinc 3 1, []), (.goto 0, []), (.nop, [4])]
set_option maxRecDepth 20000 in
theorem ok_M_laysThen_67 : okB m_M_laysThen 67 k_M_laysThen_67 = true := by decide +kernel
set_option maxRecDepth 20000 in
theorem b_M_laysThen_67 (r0 : Nat) (i1 : Int) (i2 : Int) (i3 : Int) (o4 : Option AV) (o5 : Option AV) {h : Hp} {d mc ms : Nat} {R : PR} (H : Wp m_M_laysThen 4 [some (xR r0), some (xI i1), some (xI i2), some (xI (ai_add i3 1)), o4, o5] [] h d mc ms R) : Wp m_M_laysThen 67 [some (xR r0), some (xI i1), some (xI i2), some (xI i3), o4, o5] [] h d mc ms R := Wp_blk ok_M_laysThen_67 H
def k_M_laysThen_73 : List AI := [(.iload 2, []), (.ireturn, [1])]
set_option maxRecDepth 20000 in
theorem ok_M_laysThen_73 : okB m_M_laysThen 73 k_M_laysThen_73 = true := by decide +kernel
set_option maxRecDepth 20000 in
theorem b_M_laysThen_73 (o0 : Option AV) (o1 : Option AV) (i2 : Int) (o3 : Option AV) (o4 : Option AV) (o5 : Option AV) {h : Hp} {d mc ms : Nat} {R : PR} (H : R (some (xI i2)) h) : Wp m_M_laysThen 73 [o0, o1, some (xI i2), o3, o4, o5] [] h d mc ms R := Wp_blk ok_M_laysThen_73 H
def k_M_fewestOn_0 : List AI := [(.aload 0, []), (.iload 1, []), (.iload 2, []), (.invokevirtual 0, [263, 2, 4, 0, 0, 0, 12, 1708, 1710, 106, 136]), (.iconst (-1), []), (.istore 3, []), (.iconst 1, []), (.aload 0, []), (.getfield 0, [12, 30, 0, 1255]), (.ishl, []), (.iconst 1, []), (.isub, []), (.istore 4, []), (.nop, [18])]
set_option maxRecDepth 20000 in
theorem ok_M_fewestOn_0 : okB m_M_fewestOn 0 k_M_fewestOn_0 = true := by decide +kernel
set_option maxRecDepth 20000 in
theorem b_M_fewestOn_0 (r0 : Nat) (i1 : Int) (i2 : Int) (o3 : Option AV) (o4 : Option AV) (o5 : Option AV) (o6 : Option AV) {h : Hp} {d mc ms : Nat} {R : PR} (H : ((1 ≤ d ∧ 0 ≤ mc ∧ 0 ≤ ms ∧ (hpT h r0).1 = 12) ∧ ∃ Q1 : PR, Wp m_M_laysSide 0 [some (xR r0), some (xI i1), some (xI i2), none] [] h (d - 1) 0 0 Q1 ∧ ∀ (h1 : Hp), Q1 none h1 → ((hpT h1 r0).1 = 12 ∧ Wp m_M_fewestOn 18 [some (xR r0), some (xI i1), some (xI i2), some (xI (-1 : Int)), some (xI (ai_sub (ai_shl (1 : Int) (hpC h1 r0 30)) (1 : Int))), o5, o6] [] h1 d mc ms R))) : Wp m_M_fewestOn 0 [some (xR r0), some (xI i1), some (xI i2), o3, o4, o5, o6] [] h d mc ms R := Wp_blk ok_M_fewestOn_0 H
def k_M_fewestOn_18 : List AI := [(.iload 4, []), (.ifCond .lt 0, [104]), (.iload 4, []), (.invokestatic 0, [212, 1, 3, 0, 0, 1, 1507, 1508, 136]), (.istore 5, []), (.iload 5, []), (.iload 3, []), (.if_icmp .lt 0, [98]), (.aload 0, []), (.iload 1, []), (.iload 2, []), (.iload 4, []), (.invokevirtual 0, [269, 3, 9, 0, 0, 1, 12, 1732, 1734, 111, 136]), (.ifCond .eq 0, [98]), (.iload 5, []), (.iload 3, []), (.if_icmp .ne 0, [63]), (.aload 0, []), (.invokevirtual 0, [270, 0, 2, 0, 0, 1, 12, 1736, 1738, 112, 136]), (.ifCond .ne 0, [63]), (.goto 0, []), (.nop, [98])]
set_option maxRecDepth 20000 in
theorem ok_M_fewestOn_18 : okB m_M_fewestOn 18 k_M_fewestOn_18 = true := by decide +kernel
set_option maxRecDepth 20000 in
theorem b_M_fewestOn_18 (r0 : Nat) (i1 : Int) (i2 : Int) (i3 : Int) (i4 : Int) (o5 : Option AV) (o6 : Option AV) {h : Hp} {d mc ms : Nat} {R : PR} (H : (if i4 < (0 : Int) then Wp m_M_fewestOn 104 [some (xR r0), some (xI i1), some (xI i2), some (xI i3), some (xI i4), o5, o6] [] h d mc ms R else ((1 ≤ d ∧ 0 ≤ mc ∧ 0 ≤ ms) ∧ ∃ Q1 : PR, Wp m_M_bits 0 [some (xI i4), none, none] [] h (d - 1) 0 0 Q1 ∧ ∀ (v1 : Int) (h1 : Hp), Q1 (some (xI v1)) h1 → (if v1 < i3 then Wp m_M_fewestOn 98 [some (xR r0), some (xI i1), some (xI i2), some (xI i3), some (xI i4), some (xI v1), o6] [] h1 d mc ms R else ((1 ≤ d ∧ 0 ≤ mc ∧ 0 ≤ ms ∧ (hpT h1 r0).1 = 12) ∧ ∃ Q2 : PR, Wp m_M_numbersWith 0 [some (xR r0), some (xI i1), some (xI i2), some (xI i4), none, none, none, none, none] [] h1 (d - 1) 0 0 Q2 ∧ ∀ (v2 : Int) (h2 : Hp), Q2 (some (xI v2)) h2 → (if v2 = (0 : Int) then Wp m_M_fewestOn 98 [some (xR r0), some (xI i1), some (xI i2), some (xI i3), some (xI i4), some (xI v1), o6] [] h2 d mc ms R else (if v1 = i3 then ((1 ≤ d ∧ 0 ≤ mc ∧ 0 ≤ ms ∧ (hpT h2 r0).1 = 12) ∧ ∃ Q3 : PR, Wp m_M_isLess 0 [some (xR r0), none] [] h2 (d - 1) 0 0 Q3 ∧ ∀ (v3 : Int) (h3 : Hp), Q3 (some (xI v3)) h3 → (if v3 = (0 : Int) then Wp m_M_fewestOn 98 [some (xR r0), some (xI i1), some (xI i2), some (xI i3), some (xI i4), some (xI v1), o6] [] h3 d mc ms R else Wp m_M_fewestOn 63 [some (xR r0), some (xI i1), some (xI i2), some (xI i3), some (xI i4), some (xI v1), o6] [] h3 d mc ms R)) else Wp m_M_fewestOn 63 [some (xR r0), some (xI i1), some (xI i2), some (xI i3), some (xI i4), some (xI v1), o6] [] h2 d mc ms R))))))) : Wp m_M_fewestOn 18 [some (xR r0), some (xI i1), some (xI i2), some (xI i3), some (xI i4), o5, o6] [] h d mc ms R := Wp_blk ok_M_fewestOn_18 H
def k_M_fewestOn_63 : List AI := [(.iload 5, []), (.istore 3, []), (.iconst 0, []), (.istore 6, []), (.nop, [69])]
set_option maxRecDepth 20000 in
theorem ok_M_fewestOn_63 : okB m_M_fewestOn 63 k_M_fewestOn_63 = true := by decide +kernel
set_option maxRecDepth 20000 in
theorem b_M_fewestOn_63 (r0 : Nat) (i1 : Int) (i2 : Int) (o3 : Option AV) (i4 : Int) (i5 : Int) (o6 : Option AV) {h : Hp} {d mc ms : Nat} {R : PR} (H : Wp m_M_fewestOn 69 [some (xR r0), some (xI i1), some (xI i2), some (xI i5), some (xI i4), some (xI i5), some (xI (0 : Int))] [] h d mc ms R) : Wp m_M_fewestOn 63 [some (xR r0), some (xI i1), some (xI i2), o3, some (xI i4), some (xI i5), o6] [] h d mc ms R := Wp_blk ok_M_fewestOn_63 H
def k_M_fewestOn_69 : List AI := [(.iload 6, []), (.aload 0, []), (.getfield 0, [12, 30, 0, 1255]), (.if_icmp .ge 0, [98]), (.aload 0, []), (.getfield 0, [12, 32, 2, 1257]), (.iload 6, []), (.aload 0, []), (.getfield 0, [12, 31, 2, 1256]), (.iload 6, []), (.iaload, [20]), (.iastore, []), (.iinc 6 1, []), (.goto 0, []), (.nop, [69])]
set_option maxRecDepth 20000 in
theorem ok_M_fewestOn_69 : okB m_M_fewestOn 69 k_M_fewestOn_69 = true := by decide +kernel
set_option maxRecDepth 20000 in
theorem b_M_fewestOn_69 (r0 : Nat) (i1 : Int) (i2 : Int) (i3 : Int) (i4 : Int) (o5 : Option AV) (i6 : Int) {h : Hp} {d mc ms : Nat} {R : PR} (H : ((hpT h r0).1 = 12 ∧ (if i6 < (hpC h r0 30) then ((hpT h r0).1 = 12 ∧ ((hpT h r0).1 = 12 ∧ (((hpT h (Int.toNat (hpC h r0 31))).1 = 20 ∧ 0 ≤ i6 ∧ i6 < ((hpT h (Int.toNat (hpC h r0 31))).2 : Int)) ∧ (((hpT h (Int.toNat (hpC h r0 32))).1 = 20 ∧ 0 ≤ i6 ∧ i6 < ((hpT h (Int.toNat (hpC h r0 32))).2 : Int)) ∧ ∀ g1 : Hp, g1 = hpU h (Int.toNat (hpC h r0 32)) (Int.toNat i6) (hpC h (Int.toNat (hpC h r0 31)) (Int.toNat i6)) → Wp m_M_fewestOn 69 [some (xR r0), some (xI i1), some (xI i2), some (xI i3), some (xI i4), x_d2 o5, some (xI (ai_add i6 1))] [] g1 d mc ms R)))) else Wp m_M_fewestOn 98 [some (xR r0), some (xI i1), some (xI i2), some (xI i3), some (xI i4), o5, some (xI i6)] [] h d mc ms R))) : Wp m_M_fewestOn 69 [some (xR r0), some (xI i1), some (xI i2), some (xI i3), some (xI i4), o5, some (xI i6)] [] h d mc ms R := Wp_blk ok_M_fewestOn_69 H
def k_M_fewestOn_98 : List AI := [(.iinc 4 (-1), []), (.goto 0, []), (.nop, [18])]
set_option maxRecDepth 20000 in
theorem ok_M_fewestOn_98 : okB m_M_fewestOn 98 k_M_fewestOn_98 = true := by decide +kernel
set_option maxRecDepth 20000 in
theorem b_M_fewestOn_98 (r0 : Nat) (i1 : Int) (i2 : Int) (i3 : Int) (i4 : Int) (o5 : Option AV) (o6 : Option AV) {h : Hp} {d mc ms : Nat} {R : PR} (H : Wp m_M_fewestOn 18 [some (xR r0), some (xI i1), some (xI i2), some (xI i3), some (xI (ai_add i4 (-1))), o5, o6] [] h d mc ms R) : Wp m_M_fewestOn 98 [some (xR r0), some (xI i1), some (xI i2), some (xI i3), some (xI i4), o5, o6] [] h d mc ms R := Wp_blk ok_M_fewestOn_98 H
def k_M_fewestOn_104 : List AI := [(.iload 3, []), (.iconst (-1), []), (.if_icmp .ne 0, [113]), (.iconst (-1), []), (.goto 0, []), (.nop, [119])]
set_option maxRecDepth 20000 in
theorem ok_M_fewestOn_104 : okB m_M_fewestOn 104 k_M_fewestOn_104 = true := by decide +kernel
set_option maxRecDepth 20000 in
theorem b_M_fewestOn_104 (r0 : Nat) (o1 : Option AV) (o2 : Option AV) (i3 : Int) (o4 : Option AV) (o5 : Option AV) (o6 : Option AV) {h : Hp} {d mc ms : Nat} {R : PR} (H : (if i3 = (-1 : Int) then Wp m_M_fewestOn 119 [some (xR r0), o1, o2, some (xI i3), o4, o5, o6] [xI (-1 : Int)] h d mc ms R else Wp m_M_fewestOn 113 [some (xR r0), o1, o2, some (xI i3), o4, o5, o6] [] h d mc ms R)) : Wp m_M_fewestOn 104 [some (xR r0), o1, o2, some (xI i3), o4, o5, o6] [] h d mc ms R := Wp_blk ok_M_fewestOn_104 H
def k_M_fewestOn_113 : List AI := [(.aload 0, []), (.getfield 0, [12, 30, 0, 1255]), (.iload 3, []), (.isub, []), (.nop, [119])]
set_option maxRecDepth 20000 in
theorem ok_M_fewestOn_113 : okB m_M_fewestOn 113 k_M_fewestOn_113 = true := by decide +kernel
set_option maxRecDepth 20000 in
theorem b_M_fewestOn_113 (r0 : Nat) (o1 : Option AV) (o2 : Option AV) (i3 : Int) (o4 : Option AV) (o5 : Option AV) (o6 : Option AV) {h : Hp} {d mc ms : Nat} {R : PR} (H : ((hpT h r0).1 = 12 ∧ Wp m_M_fewestOn 119 [some (xR r0), o1, o2, some (xI i3), o4, o5, o6] [xI (ai_sub (hpC h r0 30) i3)] h d mc ms R)) : Wp m_M_fewestOn 113 [some (xR r0), o1, o2, some (xI i3), o4, o5, o6] [] h d mc ms R := Wp_blk ok_M_fewestOn_113 H
def k_M_fewestOn_119 : List AI := [(.ireturn, [1])]
set_option maxRecDepth 20000 in
theorem ok_M_fewestOn_119 : okB m_M_fewestOn 119 k_M_fewestOn_119 = true := by decide +kernel
set_option maxRecDepth 20000 in
theorem b_M_fewestOn_119 (o0 : Option AV) (o1 : Option AV) (o2 : Option AV) (o3 : Option AV) (o4 : Option AV) (o5 : Option AV) (o6 : Option AV) (p0 : Int) {h : Hp} {d mc ms : Nat} {R : PR} (H : R (some (xI p0)) h) : Wp m_M_fewestOn 119 [o0, o1, o2, o3, o4, o5, o6] [xI p0] h d mc ms R := Wp_blk ok_M_fewestOn_119 H
def k_M_numbersWith_0 : List AI := [(.iconst (-1), []), (.istore 4, []), (.iconst 0, []), (.istore 5, []), (.nop, [6])]
set_option maxRecDepth 20000 in
theorem ok_M_numbersWith_0 : okB m_M_numbersWith 0 k_M_numbersWith_0 = true := by decide +kernel
set_option maxRecDepth 20000 in
theorem b_M_numbersWith_0 (r0 : Nat) (i1 : Int) (i2 : Int) (i3 : Int) (o4 : Option AV) (o5 : Option AV) (o6 : Option AV) (o7 : Option AV) (o8 : Option AV) {h : Hp} {d mc ms : Nat} {R : PR} (H : Wp m_M_numbersWith 6 [some (xR r0), some (xI i1), some (xI i2), some (xI i3), some (xI (-1 : Int)), some (xI (0 : Int)), o6, o7, o8] [] h d mc ms R) : Wp m_M_numbersWith 0 [some (xR r0), some (xI i1), some (xI i2), some (xI i3), o4, o5, o6, o7, o8] [] h d mc ms R := Wp_blk ok_M_numbersWith_0 H
def k_M_numbersWith_6 : List AI := [(.iload 5, []), (.aload 0, []), (.getfield 0, [12, 30, 0, 1255]), (.if_icmp .ge 0, [136]), (.aload 0, []), (.iload 1, []), (.iload 5, []), (.invokevirtual 0, [265, 2, 4, 0, 0, 1, 12, 1716, 1718, 108, 136]), (.iload 4, []), (.iconst (-1), []), (.if_icmp .ne 0, [32]), (.iconst 0, []), (.goto 0, []), (.nop, [36])]
set_option maxRecDepth 20000 in
theorem ok_M_numbersWith_6 : okB m_M_numbersWith 6 k_M_numbersWith_6 = true := by decide +kernel
set_option maxRecDepth 20000 in
theorem b_M_numbersWith_6 (r0 : Nat) (i1 : Int) (i2 : Int) (i3 : Int) (i4 : Int) (i5 : Int) (o6 : Option AV) (o7 : Option AV) (o8 : Option AV) {h : Hp} {d mc ms : Nat} {R : PR} (H : ((hpT h r0).1 = 12 ∧ (if i5 < (hpC h r0 30) then ((1 ≤ d ∧ 0 ≤ mc ∧ 0 ≤ ms ∧ (hpT h r0).1 = 12) ∧ ∃ Q1 : PR, Wp m_M_lowHere 0 [some (xR r0), some (xI i1), some (xI i5), none] [] h (d - 1) 0 0 Q1 ∧ ∀ (v1 : Int) (h1 : Hp), Q1 (some (xI v1)) h1 → (if i4 = (-1 : Int) then Wp m_M_numbersWith 36 [some (xR r0), some (xI i1), some (xI i2), some (xI i3), some (xI i4), some (xI i5), o6, o7, o8] [xI (0 : Int), xI v1] h1 d mc ms R else Wp m_M_numbersWith 32 [some (xR r0), some (xI i1), some (xI i2), some (xI i3), some (xI i4), some (xI i5), o6, o7, o8] [xI v1] h1 d mc ms R)) else Wp m_M_numbersWith 136 [some (xR r0), some (xI i1), some (xI i2), some (xI i3), some (xI i4), some (xI i5), o6, o7, o8] [] h d mc ms R))) : Wp m_M_numbersWith 6 [some (xR r0), some (xI i1), some (xI i2), some (xI i3), some (xI i4), some (xI i5), o6, o7, o8] [] h d mc ms R := Wp_blk ok_M_numbersWith_6 H
def k_M_numbersWith_32 : List AI := [(.iload 4, []), (.iconst 2, []), (.iadd, []), (.nop, [36])]
set_option maxRecDepth 20000 in
theorem ok_M_numbersWith_32 : okB m_M_numbersWith 32 k_M_numbersWith_32 = true := by decide +kernel
set_option maxRecDepth 20000 in
theorem b_M_numbersWith_32 (r0 : Nat) (i1 : Int) (i2 : Int) (i3 : Int) (i4 : Int) (i5 : Int) (o6 : Option AV) (o7 : Option AV) (o8 : Option AV) (p0 : Int) {h : Hp} {d mc ms : Nat} {R : PR} (H : Wp m_M_numbersWith 36 [some (xR r0), some (xI i1), some (xI i2), some (xI i3), some (xI i4), some (xI i5), o6, o7, o8] [xI (ai_add i4 (2 : Int)), xI p0] h d mc ms R) : Wp m_M_numbersWith 32 [some (xR r0), some (xI i1), some (xI i2), some (xI i3), some (xI i4), some (xI i5), o6, o7, o8] [xI p0] h d mc ms R := Wp_blk ok_M_numbersWith_32 H
def k_M_numbersWith_36 : List AI := [(.invokestatic 0, [235, 2, 2, 0, 0, 1, 1596, 1597, 136]), (.istore 6, []), (.aload 0, []), (.iload 1, []), (.iload 5, []), (.invokevirtual 0, [264, 2, 3, 0, 0, 1, 12, 1712, 1714, 107, 136]), (.istore 7, []), (.iload 3, []), (.iload 5, []), (.ishr, []), (.iconst 1, []), (.iand, []), (.iconst 1, []), (.if_icmp .ne 0, [64]), (.iconst 1, []), (.goto 0, []), (.nop, [65])]
set_option maxRecDepth 20000 in
theorem ok_M_numbersWith_36 : okB m_M_numbersWith 36 k_M_numbersWith_36 = true := by decide +kernel
set_option maxRecDepth 20000 in
theorem b_M_numbersWith_36 (r0 : Nat) (i1 : Int) (i2 : Int) (i3 : Int) (o4 : Option AV) (i5 : Int) (o6 : Option AV) (o7 : Option AV) (o8 : Option AV) (p0 : Int) (p1 : Int) {h : Hp} {d mc ms : Nat} {R : PR} (H : ((1 ≤ d ∧ 0 ≤ mc ∧ 0 ≤ ms) ∧ ∃ Q1 : PR, Wp m_M_greater 0 [some (xI p0), some (xI p1)] [] h (d - 1) 0 0 Q1 ∧ ∀ (v1 : Int) (h1 : Hp), Q1 (some (xI v1)) h1 → ((1 ≤ d ∧ 0 ≤ mc ∧ 0 ≤ ms ∧ (hpT h1 r0).1 = 12) ∧ ∃ Q2 : PR, Wp m_M_numberNow 0 [some (xR r0), some (xI i1), some (xI i5)] [] h1 (d - 1) 0 0 Q2 ∧ ∀ (v2 : Int) (h2 : Hp), Q2 (some (xI v2)) h2 → (if (ai_and (ai_shr i3 i5) (1 : Int)) = (1 : Int) then Wp m_M_numbersWith 65 [some (xR r0), some (xI i1), some (xI i2), some (xI i3), o4, some (xI i5), some (xI v1), some (xI v2), o8] [xI (1 : Int)] h2 d mc ms R else Wp m_M_numbersWith 64 [some (xR r0), some (xI i1), some (xI i2), some (xI i3), o4, some (xI i5), some (xI v1), some (xI v2), o8] [] h2 d mc ms R)))) : Wp m_M_numbersWith 36 [some (xR r0), some (xI i1), some (xI i2), some (xI i3), o4, some (xI i5), o6, o7, o8] [xI p1, xI p0] h d mc ms R := Wp_blk ok_M_numbersWith_36 H
def k_M_numbersWith_64 : List AI := [(.iconst 0, []), (.nop, [65])]
set_option maxRecDepth 20000 in
theorem ok_M_numbersWith_64 : okB m_M_numbersWith 64 k_M_numbersWith_64 = true := by decide +kernel
set_option maxRecDepth 20000 in
theorem b_M_numbersWith_64 (r0 : Nat) (i1 : Int) (i2 : Int) (i3 : Int) (o4 : Option AV) (i5 : Int) (i6 : Int) (i7 : Int) (o8 : Option AV) {h : Hp} {d mc ms : Nat} {R : PR} (H : Wp m_M_numbersWith 65 [some (xR r0), some (xI i1), some (xI i2), some (xI i3), o4, some (xI i5), some (xI i6), some (xI i7), o8] [xI (0 : Int)] h d mc ms R) : Wp m_M_numbersWith 64 [some (xR r0), some (xI i1), some (xI i2), some (xI i3), o4, some (xI i5), some (xI i6), some (xI i7), o8] [] h d mc ms R := Wp_blk ok_M_numbersWith_64 H
def k_M_numbersWith_65 : List AI := [(.istore 8, []), (.iload 8, []), (.ifCond .eq 0, [87]), (.iload 7, []), (.iconst 2, []), (.irem, []), (.iload 2, []), (.if_icmp .eq 0, [100]), (.iload 7, []), (.iload 6, []), (.if_icmp .lt 0, [100]), (.nop, [87])]
set_option maxRecDepth 20000 in
theorem ok_M_numbersWith_65 : okB m_M_numbersWith 65 k_M_numbersWith_65 = true := by decide +kernel
set_option maxRecDepth 20000 in
theorem b_M_numbersWith_65 (r0 : Nat) (i1 : Int) (i2 : Int) (i3 : Int) (o4 : Option AV) (i5 : Int) (i6 : Int) (i7 : Int) (o8 : Option AV) (p0 : Int) {h : Hp} {d mc ms : Nat} {R : PR} (H : (if p0 = (0 : Int) then Wp m_M_numbersWith 87 [some (xR r0), some (xI i1), some (xI i2), some (xI i3), o4, some (xI i5), some (xI i6), some (xI i7), some (xI p0)] [] h d mc ms R else (¬ (2 : Int) = 0 ∧ (if (ai_rem i7 (2 : Int)) = i2 then Wp m_M_numbersWith 100 [some (xR r0), some (xI i1), some (xI i2), some (xI i3), o4, some (xI i5), some (xI i6), some (xI i7), some (xI p0)] [] h d mc ms R else (if i7 < i6 then Wp m_M_numbersWith 100 [some (xR r0), some (xI i1), some (xI i2), some (xI i3), o4, some (xI i5), some (xI i6), some (xI i7), some (xI p0)] [] h d mc ms R else Wp m_M_numbersWith 87 [some (xR r0), some (xI i1), some (xI i2), some (xI i3), o4, some (xI i5), some (xI i6), some (xI i7), some (xI p0)] [] h d mc ms R))))) : Wp m_M_numbersWith 65 [some (xR r0), some (xI i1), some (xI i2), some (xI i3), o4, some (xI i5), some (xI i6), some (xI i7), o8] [xI p0] h d mc ms R := Wp_blk ok_M_numbersWith_65 H
def k_M_numbersWith_87 : List AI := [(.iload 8, []), (.ifCond .ne 0, [102]), (.iload 6, []), (.iconst 999, []), (.if_icmp .le 0, [102]), (.nop, [100])]
set_option maxRecDepth 20000 in
theorem ok_M_numbersWith_87 : okB m_M_numbersWith 87 k_M_numbersWith_87 = true := by decide +kernel
set_option maxRecDepth 20000 in
theorem b_M_numbersWith_87 (r0 : Nat) (i1 : Int) (i2 : Int) (i3 : Int) (o4 : Option AV) (i5 : Int) (i6 : Int) (i7 : Int) (i8 : Int) {h : Hp} {d mc ms : Nat} {R : PR} (H : (if i8 = (0 : Int) then (if (999 : Int) < i6 then Wp m_M_numbersWith 100 [some (xR r0), some (xI i1), some (xI i2), some (xI i3), o4, some (xI i5), some (xI i6), some (xI i7), some (xI i8)] [] h d mc ms R else Wp m_M_numbersWith 102 [some (xR r0), some (xI i1), some (xI i2), some (xI i3), o4, some (xI i5), some (xI i6), some (xI i7), some (xI i8)] [] h d mc ms R) else Wp m_M_numbersWith 102 [some (xR r0), some (xI i1), some (xI i2), some (xI i3), o4, some (xI i5), some (xI i6), some (xI i7), some (xI i8)] [] h d mc ms R)) : Wp m_M_numbersWith 87 [some (xR r0), some (xI i1), some (xI i2), some (xI i3), o4, some (xI i5), some (xI i6), some (xI i7), some (xI i8)] [] h d mc ms R := Wp_blk ok_M_numbersWith_87 H
def k_M_numbersWith_100 : List AI := [(.iconst 0, []), (.ireturn, [3])]
set_option maxRecDepth 20000 in
theorem ok_M_numbersWith_100 : okB m_M_numbersWith 100 k_M_numbersWith_100 = true := by decide +kernel
set_option maxRecDepth 20000 in
theorem b_M_numbersWith_100 (o0 : Option AV) (o1 : Option AV) (o2 : Option AV) (o3 : Option AV) (o4 : Option AV) (o5 : Option AV) (o6 : Option AV) (o7 : Option AV) (o8 : Option AV) {h : Hp} {d mc ms : Nat} {R : PR} (H : (((0 : Int) = 0 ∨ (0 : Int) = 1) ∧ R (some (xI (0 : Int))) h)) : Wp m_M_numbersWith 100 [o0, o1, o2, o3, o4, o5, o6, o7, o8] [] h d mc ms R := Wp_blk ok_M_numbersWith_100 H
def k_M_numbersWith_102 : List AI := [(.aload 0, []), (.getfield 0, [12, 31, 2, 1256]), (.iload 5, []), (.iload 8, []), (.ifCond .eq 0, [118]), (.iload 7, []), (.goto 0, []), (.nop, [120])]
set_option maxRecDepth 20000 in
theorem ok_M_numbersWith_102 : okB m_M_numbersWith 102 k_M_numbersWith_102 = true := by decide +kernel
set_option maxRecDepth 20000 in
theorem b_M_numbersWith_102 (r0 : Nat) (i1 : Int) (i2 : Int) (i3 : Int) (o4 : Option AV) (i5 : Int) (i6 : Int) (i7 : Int) (i8 : Int) {h : Hp} {d mc ms : Nat} {R : PR} (H : ((hpT h r0).1 = 12 ∧ (if i8 = (0 : Int) then Wp m_M_numbersWith 118 [some (xR r0), some (xI i1), some (xI i2), some (xI i3), o4, some (xI i5), some (xI i6), some (xI i7), some (xI i8)] [xI i5, xR (Int.toNat (hpC h r0 31))] h d mc ms R else Wp m_M_numbersWith 120 [some (xR r0), some (xI i1), some (xI i2), some (xI i3), o4, some (xI i5), some (xI i6), some (xI i7), some (xI i8)] [xI i7, xI i5, xR (Int.toNat (hpC h r0 31))] h d mc ms R))) : Wp m_M_numbersWith 102 [some (xR r0), some (xI i1), some (xI i2), some (xI i3), o4, some (xI i5), some (xI i6), some (xI i7), some (xI i8)] [] h d mc ms R := Wp_blk ok_M_numbersWith_102 H
def k_M_numbersWith_118 : List AI := [(.iload 6, []), (.nop, [120])]
set_option maxRecDepth 20000 in
theorem ok_M_numbersWith_118 : okB m_M_numbersWith 118 k_M_numbersWith_118 = true := by decide +kernel
set_option maxRecDepth 20000 in
theorem b_M_numbersWith_118 (r0 : Nat) (i1 : Int) (i2 : Int) (i3 : Int) (o4 : Option AV) (i5 : Int) (i6 : Int) (o7 : Option AV) (o8 : Option AV) (t0 : Nat) (p1 : Int) {h : Hp} {d mc ms : Nat} {R : PR} (H : Wp m_M_numbersWith 120 [some (xR r0), some (xI i1), some (xI i2), some (xI i3), o4, some (xI i5), some (xI i6), o7, o8] [xI i6, xI p1, xR t0] h d mc ms R) : Wp m_M_numbersWith 118 [some (xR r0), some (xI i1), some (xI i2), some (xI i3), o4, some (xI i5), some (xI i6), o7, o8] [xI p1, xR t0] h d mc ms R := Wp_blk ok_M_numbersWith_118 H
def k_M_numbersWith_120 : List AI := [(.iastore, []), (.aload 0, []), (.getfield 0, [12, 31, 2, 1256]), (.iload 5, []), (.iaload, [20]), (.istore 4, []), (.iinc 5 1, []), (.goto 0, []), (.nop, [6])]
set_option maxRecDepth 20000 in
theorem ok_M_numbersWith_120 : okB m_M_numbersWith 120 k_M_numbersWith_120 = true := by decide +kernel
set_option maxRecDepth 20000 in
theorem b_M_numbersWith_120 (r0 : Nat) (i1 : Int) (i2 : Int) (i3 : Int) (o4 : Option AV) (i5 : Int) (o6 : Option AV) (o7 : Option AV) (o8 : Option AV) (t0 : Nat) (p1 : Int) (p2 : Int) {h : Hp} {d mc ms : Nat} {R : PR} (H : (((hpT h t0).1 = 20 ∧ 0 ≤ p1 ∧ p1 < ((hpT h t0).2 : Int)) ∧ ∀ g1 : Hp, g1 = hpU h t0 (Int.toNat p1) p2 → ((hpT g1 r0).1 = 12 ∧ (((hpT g1 (Int.toNat (hpC g1 r0 31))).1 = 20 ∧ 0 ≤ i5 ∧ i5 < ((hpT g1 (Int.toNat (hpC g1 r0 31))).2 : Int)) ∧ Wp m_M_numbersWith 6 [some (xR r0), some (xI i1), some (xI i2), some (xI i3), some (xI (hpC g1 (Int.toNat (hpC g1 r0 31)) (Int.toNat i5))), some (xI (ai_add i5 1)), o6, o7, o8] [] g1 d mc ms R)))) : Wp m_M_numbersWith 120 [some (xR r0), some (xI i1), some (xI i2), some (xI i3), o4, some (xI i5), o6, o7, o8] [xI p2, xI p1, xR t0] h d mc ms R := Wp_blk ok_M_numbersWith_120 H
def k_M_numbersWith_136 : List AI := [(.iconst 1, []), (.ireturn, [3])]
set_option maxRecDepth 20000 in
theorem ok_M_numbersWith_136 : okB m_M_numbersWith 136 k_M_numbersWith_136 = true := by decide +kernel
set_option maxRecDepth 20000 in
theorem b_M_numbersWith_136 (o0 : Option AV) (o1 : Option AV) (o2 : Option AV) (o3 : Option AV) (o4 : Option AV) (o5 : Option AV) (o6 : Option AV) (o7 : Option AV) (o8 : Option AV) {h : Hp} {d mc ms : Nat} {R : PR} (H : (((1 : Int) = 0 ∨ (1 : Int) = 1) ∧ R (some (xI (1 : Int))) h)) : Wp m_M_numbersWith 136 [o0, o1, o2, o3, o4, o5, o6, o7, o8] [] h d mc ms R := Wp_blk ok_M_numbersWith_136 H
def k_M_isLess_0 : List AI := [(.iconst 0, []), (.istore 1, []), (.nop, [2])]
set_option maxRecDepth 20000 in
theorem ok_M_isLess_0 : okB m_M_isLess 0 k_M_isLess_0 = true := by decide +kernel
set_option maxRecDepth 20000 in
theorem b_M_isLess_0 (r0 : Nat) (o1 : Option AV) {h : Hp} {d mc ms : Nat} {R : PR} (H : Wp m_M_isLess 2 [some (xR r0), some (xI (0 : Int))] [] h d mc ms R) : Wp m_M_isLess 0 [some (xR r0), o1] [] h d mc ms R := Wp_blk ok_M_isLess_0 H
def k_M_isLess_2 : List AI := [(.iload 1, []), (.aload 0, []), (.getfield 0, [12, 30, 0, 1255]), (.if_icmp .ge 0, [52]), (.aload 0, []), (.getfield 0, [12, 31, 2, 1256]), (.iload 1, []), (.iaload, [20]), (.aload 0, []), (.getfield 0, [12, 32, 2, 1257]), (.iload 1, []), (.iaload, [20]), (.if_icmp .eq 0, [46]), (.aload 0, []), (.getfield 0, [12, 31, 2, 1256]), (.iload 1, []), (.iaload, [20]), (.aload 0, []), (.getfield 0, [12, 32, 2, 1257]), (.iload 1, []), (.iaload, [20]), (.if_icmp .ge 0, [44]), (.iconst 1, []), (.goto 0, []), (.nop, [45])]
set_option maxRecDepth 20000 in
theorem ok_M_isLess_2 : okB m_M_isLess 2 k_M_isLess_2 = true := by decide +kernel
set_option maxRecDepth 20000 in
theorem b_M_isLess_2 (r0 : Nat) (i1 : Int) {h : Hp} {d mc ms : Nat} {R : PR} (H : ((hpT h r0).1 = 12 ∧ (if i1 < (hpC h r0 30) then ((hpT h r0).1 = 12 ∧ (((hpT h (Int.toNat (hpC h r0 31))).1 = 20 ∧ 0 ≤ i1 ∧ i1 < ((hpT h (Int.toNat (hpC h r0 31))).2 : Int)) ∧ ((hpT h r0).1 = 12 ∧ (((hpT h (Int.toNat (hpC h r0 32))).1 = 20 ∧ 0 ≤ i1 ∧ i1 < ((hpT h (Int.toNat (hpC h r0 32))).2 : Int)) ∧ (if (hpC h (Int.toNat (hpC h r0 31)) (Int.toNat i1)) = (hpC h (Int.toNat (hpC h r0 32)) (Int.toNat i1)) then Wp m_M_isLess 46 [some (xR r0), some (xI i1)] [] h d mc ms R else ((hpT h r0).1 = 12 ∧ (((hpT h (Int.toNat (hpC h r0 31))).1 = 20 ∧ 0 ≤ i1 ∧ i1 < ((hpT h (Int.toNat (hpC h r0 31))).2 : Int)) ∧ ((hpT h r0).1 = 12 ∧ (((hpT h (Int.toNat (hpC h r0 32))).1 = 20 ∧ 0 ≤ i1 ∧ i1 < ((hpT h (Int.toNat (hpC h r0 32))).2 : Int)) ∧ (if (hpC h (Int.toNat (hpC h r0 31)) (Int.toNat i1)) < (hpC h (Int.toNat (hpC h r0 32)) (Int.toNat i1)) then Wp m_M_isLess 45 [some (xR r0), some (xI i1)] [xI (1 : Int)] h d mc ms R else Wp m_M_isLess 44 [some (xR r0), some (xI i1)] [] h d mc ms R)))))))))) else Wp m_M_isLess 52 [some (xR r0), some (xI i1)] [] h d mc ms R))) : Wp m_M_isLess 2 [some (xR r0), some (xI i1)] [] h d mc ms R := Wp_blk ok_M_isLess_2 H
def k_M_isLess_44 : List AI := [(.iconst 0, []), (.nop, [45])]
set_option maxRecDepth 20000 in
theorem ok_M_isLess_44 : okB m_M_isLess 44 k_M_isLess_44 = true := by decide +kernel
set_option maxRecDepth 20000 in
theorem b_M_isLess_44 (o0 : Option AV) (o1 : Option AV) {h : Hp} {d mc ms : Nat} {R : PR} (H : Wp m_M_isLess 45 [o0, o1] [xI (0 : Int)] h d mc ms R) : Wp m_M_isLess 44 [o0, o1] [] h d mc ms R := Wp_blk ok_M_isLess_44 H
def k_M_isLess_45 : List AI := [(.ireturn, [3])]
set_option maxRecDepth 20000 in
theorem ok_M_isLess_45 : okB m_M_isLess 45 k_M_isLess_45 = true := by decide +kernel
set_option maxRecDepth 20000 in
theorem b_M_isLess_45 (o0 : Option AV) (o1 : Option AV) (p0 : Int) {h : Hp} {d mc ms : Nat} {R : PR} (H : ((p0 = 0 ∨ p0 = 1) ∧ R (some (xI p0)) h)) : Wp m_M_isLess 45 [o0, o1] [xI p0] h d mc ms R := Wp_blk ok_M_isLess_45 H
def k_M_isLess_46 : List AI := [(.iinc 1 1, []), (.goto 0, []), (.nop, [2])]
set_option maxRecDepth 20000 in
theorem ok_M_isLess_46 : okB m_M_isLess 46 k_M_isLess_46 = true := by decide +kernel
set_option maxRecDepth 20000 in
theorem b_M_isLess_46 (r0 : Nat) (i1 : Int) {h : Hp} {d mc ms : Nat} {R : PR} (H : Wp m_M_isLess 2 [some (xR r0), some (xI (ai_add i1 1))] [] h d mc ms R) : Wp m_M_isLess 46 [some (xR r0), some (xI i1)] [] h d mc ms R := Wp_blk ok_M_isLess_46 H
def k_M_isLess_52 : List AI := [(.iconst 0, []), (.ireturn, [3])]
set_option maxRecDepth 20000 in
theorem ok_M_isLess_52 : okB m_M_isLess 52 k_M_isLess_52 = true := by decide +kernel
set_option maxRecDepth 20000 in
theorem b_M_isLess_52 (o0 : Option AV) (o1 : Option AV) {h : Hp} {d mc ms : Nat} {R : PR} (H : (((0 : Int) = 0 ∨ (0 : Int) = 1) ∧ R (some (xI (0 : Int))) h)) : Wp m_M_isLess 52 [o0, o1] [] h d mc ms R := Wp_blk ok_M_isLess_52 H
def k_M_then_0 : List AI := [(.aload 0, []), (.iload 1, []), (.iload 2, []), (.invokevirtual 0, [258, 2, 3, 0, 0, 1, 12, 1688, 1690, 103, 136]), (.ifCond .eq 0, [27]), (.aload 0, []), (.iload 1, []), (.invokevirtual 0, [267, 1, 6, 0, 0, 1, 12, 1724, 1726, 109, 136]), (.iconst (-1), []), (.if_icmp .eq 0, [27]), (.aload 0, []), (.getfield 0, [12, 33, 2, 1258]), (.iload 2, []), (.iaload, [20]), (.goto 0, []), (.nop, [28])]
set_option maxRecDepth 20000 in
theorem ok_M_then_0 : okB m_M_then 0 k_M_then_0 = true := by decide +kernel
set_option maxRecDepth 20000 in
theorem b_M_then_0 (r0 : Nat) (i1 : Int) (i2 : Int) {h : Hp} {d mc ms : Nat} {R : PR} (H : ((1 ≤ d ∧ 0 ≤ mc ∧ 0 ≤ ms ∧ (hpT h r0).1 = 12) ∧ ∃ Q1 : PR, Wp m_M_isHouse 0 [some (xR r0), some (xI i1), some (xI i2)] [] h (d - 1) 0 0 Q1 ∧ ∀ (v1 : Int) (h1 : Hp), Q1 (some (xI v1)) h1 → (if v1 = (0 : Int) then Wp m_M_then 27 [some (xR r0), some (xI i1), some (xI i2)] [] h1 d mc ms R else ((1 ≤ d ∧ 0 ≤ mc ∧ 0 ≤ ms ∧ (hpT h1 r0).1 = 12) ∧ ∃ Q2 : PR, Wp m_M_laysThen 0 [some (xR r0), some (xI i1), none, none, none, none] [] h1 (d - 1) 0 0 Q2 ∧ ∀ (v2 : Int) (h2 : Hp), Q2 (some (xI v2)) h2 → (if v2 = (-1 : Int) then Wp m_M_then 27 [some (xR r0), some (xI i1), some (xI i2)] [] h2 d mc ms R else ((hpT h2 r0).1 = 12 ∧ (((hpT h2 (Int.toNat (hpC h2 r0 33))).1 = 20 ∧ 0 ≤ i2 ∧ i2 < ((hpT h2 (Int.toNat (hpC h2 r0 33))).2 : Int)) ∧ Wp m_M_then 28 [some (xR r0), some (xI i1), some (xI i2)] [xI (hpC h2 (Int.toNat (hpC h2 r0 33)) (Int.toNat i2))] h2 d mc ms R))))))) : Wp m_M_then 0 [some (xR r0), some (xI i1), some (xI i2)] [] h d mc ms R := Wp_blk ok_M_then_0 H
def k_M_then_27 : List AI := [(.iconst (-1), []), (.nop, [28])]
set_option maxRecDepth 20000 in
theorem ok_M_then_27 : okB m_M_then 27 k_M_then_27 = true := by decide +kernel
set_option maxRecDepth 20000 in
theorem b_M_then_27 (o0 : Option AV) (o1 : Option AV) (o2 : Option AV) {h : Hp} {d mc ms : Nat} {R : PR} (H : Wp m_M_then 28 [o0, o1, o2] [xI (-1 : Int)] h d mc ms R) : Wp m_M_then 27 [o0, o1, o2] [] h d mc ms R := Wp_blk ok_M_then_27 H
def k_M_then_28 : List AI := [(.ireturn, [1])]
set_option maxRecDepth 20000 in
theorem ok_M_then_28 : okB m_M_then 28 k_M_then_28 = true := by decide +kernel
set_option maxRecDepth 20000 in
theorem b_M_then_28 (o0 : Option AV) (o1 : Option AV) (o2 : Option AV) (p0 : Int) {h : Hp} {d mc ms : Nat} {R : PR} (H : R (some (xI p0)) h) : Wp m_M_then 28 [o0, o1, o2] [xI p0] h d mc ms R := Wp_blk ok_M_then_28 H
def k_M_stepped_0 : List AI := [(.aload 0, []), (.iload 1, []), (.invokevirtual 0, [215, 1, 2, 0, 0, 1, 12, 1518, 1520, 81, 136]), (.ifCond .eq 0, [18]), (.iload 2, []), (.iconst 1, []), (.iconst 99, []), (.invokestatic 0, [187, 3, 3, 0, 0, 1, 1409, 1410, 136]), (.ifCond .ne 0, [20]), (.nop, [18])]
set_option maxRecDepth 20000 in
theorem ok_M_stepped_0 : okB m_M_stepped 0 k_M_stepped_0 = true := by decide +kernel
set_option maxRecDepth 20000 in
theorem b_M_stepped_0 (r0 : Nat) (i1 : Int) (i2 : Int) (o3 : Option AV) (o4 : Option AV) {h : Hp} {d mc ms : Nat} {R : PR} (H : ((1 ≤ d ∧ 0 ≤ mc ∧ 0 ≤ ms ∧ (hpT h r0).1 = 12) ∧ ∃ Q1 : PR, Wp m_M_isStreet 0 [some (xR r0), some (xI i1)] [] h (d - 1) 0 0 Q1 ∧ ∀ (v1 : Int) (h1 : Hp), Q1 (some (xI v1)) h1 → (if v1 = (0 : Int) then Wp m_M_stepped 18 [some (xR r0), some (xI i1), some (xI i2), o3, o4] [] h1 d mc ms R else ((1 ≤ d ∧ 0 ≤ mc ∧ 0 ≤ ms) ∧ ∃ Q2 : PR, Wp m_M_isIn 0 [some (xI i2), some (xI (1 : Int)), some (xI (99 : Int))] [] h1 (d - 1) 0 0 Q2 ∧ ∀ (v2 : Int) (h2 : Hp), Q2 (some (xI v2)) h2 → (if v2 = (0 : Int) then Wp m_M_stepped 18 [some (xR r0), some (xI i1), some (xI i2), o3, o4] [] h2 d mc ms R else Wp m_M_stepped 20 [some (xR r0), some (xI i1), some (xI i2), o3, o4] [] h2 d mc ms R))))) : Wp m_M_stepped 0 [some (xR r0), some (xI i1), some (xI i2), o3, o4] [] h d mc ms R := Wp_blk ok_M_stepped_0 H
def k_M_stepped_18 : List AI := [(.iconst (-1), []), (.ireturn, [1])]
set_option maxRecDepth 20000 in
theorem ok_M_stepped_18 : okB m_M_stepped 18 k_M_stepped_18 = true := by decide +kernel
set_option maxRecDepth 20000 in
theorem b_M_stepped_18 (o0 : Option AV) (o1 : Option AV) (o2 : Option AV) (o3 : Option AV) (o4 : Option AV) {h : Hp} {d mc ms : Nat} {R : PR} (H : R (some (xI (-1 : Int))) h) : Wp m_M_stepped 18 [o0, o1, o2, o3, o4] [] h d mc ms R := Wp_blk ok_M_stepped_18 H
def k_M_stepped_20 : List AI := [(.aload 0, []), (.getfield 0, [12, 0, 2, 1225]), (.iconst 2, []), (.iaload, [20]), (.istore 3, []), (.aload 0, []), (.getfield 0, [12, 0, 2, 1225]), (.iconst 2, []), (.iload 2, []), (.iastore, []), (.aload 0, []), (.iload 1, []), (.invokevirtual 0, [267, 1, 6, 0, 0, 1, 12, 1724, 1726, 109, 136]), (.istore 4, []), (.aload 0, []), (.getfield 0, [12, 0, 2, 1225]), (.iconst 2, []), (.iload 3, []), (.iastore, []), (.iload 4, []), (.ireturn, [1])]
set_option maxRecDepth 20000 in
theorem ok_M_stepped_20 : okB m_M_stepped 20 k_M_stepped_20 = true := by decide +kernel
set_option maxRecDepth 20000 in
theorem b_M_stepped_20 (r0 : Nat) (i1 : Int) (i2 : Int) (o3 : Option AV) (o4 : Option AV) {h : Hp} {d mc ms : Nat} {R : PR} (H : ((hpT h r0).1 = 12 ∧ (((hpT h (Int.toNat (hpC h r0 0))).1 = 20 ∧ 0 ≤ (2 : Int) ∧ (2 : Int) < ((hpT h (Int.toNat (hpC h r0 0))).2 : Int)) ∧ ((hpT h r0).1 = 12 ∧ (((hpT h (Int.toNat (hpC h r0 0))).1 = 20 ∧ 0 ≤ (2 : Int) ∧ (2 : Int) < ((hpT h (Int.toNat (hpC h r0 0))).2 : Int)) ∧ ∀ g1 : Hp, g1 = hpU h (Int.toNat (hpC h r0 0)) (Int.toNat (2 : Int)) i2 → ((1 ≤ d ∧ 0 ≤ mc ∧ 0 ≤ ms ∧ (hpT g1 r0).1 = 12) ∧ ∃ Q1 : PR, Wp m_M_laysThen 0 [some (xR r0), some (xI i1), none, none, none, none] [] g1 (d - 1) 0 0 Q1 ∧ ∀ (v1 : Int) (h1 : Hp), Q1 (some (xI v1)) h1 → ((hpT h1 r0).1 = 12 ∧ (((hpT h1 (Int.toNat (hpC h1 r0 0))).1 = 20 ∧ 0 ≤ (2 : Int) ∧ (2 : Int) < ((hpT h1 (Int.toNat (hpC h1 r0 0))).2 : Int)) ∧ ∀ g2 : Hp, g2 = hpU h1 (Int.toNat (hpC h1 r0 0)) (Int.toNat (2 : Int)) (hpC h (Int.toNat (hpC h r0 0)) (Int.toNat (2 : Int))) → R (some (xI v1)) g2)))))))) : Wp m_M_stepped 20 [some (xR r0), some (xI i1), some (xI i2), o3, o4] [] h d mc ms R := Wp_blk ok_M_stepped_20 H
def k_M_gaps_0 : List AI := [(.aload 0, []), (.iload 1, []), (.invokevirtual 0, [215, 1, 2, 0, 0, 1, 12, 1518, 1520, 81, 136]), (.ifCond .eq 0, [17]), (.iload 2, []), (.iconst 0, []), (.iconst 1, []), (.invokestatic 0, [187, 3, 3, 0, 0, 1, 1409, 1410, 136]), (.ifCond .ne 0, [19]), (.nop, [17])]
set_option maxRecDepth 20000 in
theorem ok_M_gaps_0 : okB m_M_gaps 0 k_M_gaps_0 = true := by decide +kernel
set_option maxRecDepth 20000 in
theorem b_M_gaps_0 (r0 : Nat) (i1 : Int) (i2 : Int) (o3 : Option AV) (o4 : Option AV) (o5 : Option AV) {h : Hp} {d mc ms : Nat} {R : PR} (H : ((1 ≤ d ∧ 0 ≤ mc ∧ 0 ≤ ms ∧ (hpT h r0).1 = 12) ∧ ∃ Q1 : PR, Wp m_M_isStreet 0 [some (xR r0), some (xI i1)] [] h (d - 1) 0 0 Q1 ∧ ∀ (v1 : Int) (h1 : Hp), Q1 (some (xI v1)) h1 → (if v1 = (0 : Int) then Wp m_M_gaps 17 [some (xR r0), some (xI i1), some (xI i2), o3, o4, o5] [] h1 d mc ms R else ((1 ≤ d ∧ 0 ≤ mc ∧ 0 ≤ ms) ∧ ∃ Q2 : PR, Wp m_M_isIn 0 [some (xI i2), some (xI (0 : Int)), some (xI (1 : Int))] [] h1 (d - 1) 0 0 Q2 ∧ ∀ (v2 : Int) (h2 : Hp), Q2 (some (xI v2)) h2 → (if v2 = (0 : Int) then Wp m_M_gaps 17 [some (xR r0), some (xI i1), some (xI i2), o3, o4, o5] [] h2 d mc ms R else Wp m_M_gaps 19 [some (xR r0), some (xI i1), some (xI i2), o3, o4, o5] [] h2 d mc ms R))))) : Wp m_M_gaps 0 [some (xR r0), some (xI i1), some (xI i2), o3, o4, o5] [] h d mc ms R := Wp_blk ok_M_gaps_0 H
def k_M_gaps_17 : List AI := [(.iconst (-1), []), (.ireturn, [1])]
set_option maxRecDepth 20000 in
theorem ok_M_gaps_17 : okB m_M_gaps 17 k_M_gaps_17 = true := by decide +kernel
set_option maxRecDepth 20000 in
theorem b_M_gaps_17 (o0 : Option AV) (o1 : Option AV) (o2 : Option AV) (o3 : Option AV) (o4 : Option AV) (o5 : Option AV) {h : Hp} {d mc ms : Nat} {R : PR} (H : R (some (xI (-1 : Int))) h) : Wp m_M_gaps 17 [o0, o1, o2, o3, o4, o5] [] h d mc ms R := Wp_blk ok_M_gaps_17 H
def k_M_gaps_19 : List AI := [(.iconst 0, []), (.istore 3, []), (.iconst 0, []), (.istore 4, []), (.iconst 1, []), (.iload 2, []), (.iadd, []), (.istore 5, []), (.nop, [29])]
set_option maxRecDepth 20000 in
theorem ok_M_gaps_19 : okB m_M_gaps 19 k_M_gaps_19 = true := by decide +kernel
set_option maxRecDepth 20000 in
theorem b_M_gaps_19 (r0 : Nat) (i1 : Int) (i2 : Int) (o3 : Option AV) (o4 : Option AV) (o5 : Option AV) {h : Hp} {d mc ms : Nat} {R : PR} (H : Wp m_M_gaps 29 [some (xR r0), some (xI i1), some (xI i2), some (xI (0 : Int)), some (xI (0 : Int)), some (xI (ai_add (1 : Int) i2))] [] h d mc ms R) : Wp m_M_gaps 19 [some (xR r0), some (xI i1), some (xI i2), o3, o4, o5] [] h d mc ms R := Wp_blk ok_M_gaps_19 H
def k_M_gaps_29 : List AI := [(.iload 5, []), (.iconst 999, []), (.if_icmp .gt 0, [63]), (.aload 0, []), (.iload 1, []), (.iload 2, []), (.iload 5, []), (.invokevirtual 0, [274, 3, 6, 0, 0, 1, 12, 1752, 1754, 113, 136]), (.ifCond .eq 0, [54]), (.iload 4, []), (.istore 3, []), (.goto 0, []), (.nop, [57])]
set_option maxRecDepth 20000 in
theorem ok_M_gaps_29 : okB m_M_gaps 29 k_M_gaps_29 = true := by decide +kernel
set_option maxRecDepth 20000 in
theorem b_M_gaps_29 (r0 : Nat) (i1 : Int) (i2 : Int) (i3 : Int) (i4 : Int) (i5 : Int) {h : Hp} {d mc ms : Nat} {R : PR} (H : (if (999 : Int) < i5 then Wp m_M_gaps 63 [some (xR r0), some (xI i1), some (xI i2), some (xI i3), some (xI i4), some (xI i5)] [] h d mc ms R else ((1 ≤ d ∧ 0 ≤ mc ∧ 0 ≤ ms ∧ (hpT h r0).1 = 12) ∧ ∃ Q1 : PR, Wp m_M_hasNumber 0 [some (xR r0), some (xI i1), some (xI i2), some (xI i5), none, none] [] h (d - 1) 0 0 Q1 ∧ ∀ (v1 : Int) (h1 : Hp), Q1 (some (xI v1)) h1 → (if v1 = (0 : Int) then Wp m_M_gaps 54 [some (xR r0), some (xI i1), some (xI i2), some (xI i3), some (xI i4), some (xI i5)] [] h1 d mc ms R else Wp m_M_gaps 57 [some (xR r0), some (xI i1), some (xI i2), some (xI i4), some (xI i4), some (xI i5)] [] h1 d mc ms R)))) : Wp m_M_gaps 29 [some (xR r0), some (xI i1), some (xI i2), some (xI i3), some (xI i4), some (xI i5)] [] h d mc ms R := Wp_blk ok_M_gaps_29 H
def k_M_gaps_54 : List AI := [(.iinc 4 1, []), (.nop, [57])]
set_option maxRecDepth 20000 in
theorem ok_M_gaps_54 : okB m_M_gaps 54 k_M_gaps_54 = true := by decide +kernel
set_option maxRecDepth 20000 in
theorem b_M_gaps_54 (r0 : Nat) (i1 : Int) (i2 : Int) (i3 : Int) (i4 : Int) (i5 : Int) {h : Hp} {d mc ms : Nat} {R : PR} (H : Wp m_M_gaps 57 [some (xR r0), some (xI i1), some (xI i2), some (xI i3), some (xI (ai_add i4 1)), some (xI i5)] [] h d mc ms R) : Wp m_M_gaps 54 [some (xR r0), some (xI i1), some (xI i2), some (xI i3), some (xI i4), some (xI i5)] [] h d mc ms R := Wp_blk ok_M_gaps_54 H
def k_M_gaps_57 : List AI := [(.iinc 5 2, []), (.goto 0, []), (.nop, [29])]
set_option maxRecDepth 20000 in
theorem ok_M_gaps_57 : okB m_M_gaps 57 k_M_gaps_57 = true := by decide +kernel
set_option maxRecDepth 20000 in
theorem b_M_gaps_57 (r0 : Nat) (i1 : Int) (i2 : Int) (i3 : Int) (i4 : Int) (i5 : Int) {h : Hp} {d mc ms : Nat} {R : PR} (H : Wp m_M_gaps 29 [some (xR r0), some (xI i1), some (xI i2), some (xI i3), some (xI i4), some (xI (ai_add i5 2))] [] h d mc ms R) : Wp m_M_gaps 57 [some (xR r0), some (xI i1), some (xI i2), some (xI i3), some (xI i4), some (xI i5)] [] h d mc ms R := Wp_blk ok_M_gaps_57 H
def k_M_gaps_63 : List AI := [(.iload 3, []), (.ireturn, [1])]
set_option maxRecDepth 20000 in
theorem ok_M_gaps_63 : okB m_M_gaps 63 k_M_gaps_63 = true := by decide +kernel
set_option maxRecDepth 20000 in
theorem b_M_gaps_63 (o0 : Option AV) (o1 : Option AV) (o2 : Option AV) (i3 : Int) (o4 : Option AV) (o5 : Option AV) {h : Hp} {d mc ms : Nat} {R : PR} (H : R (some (xI i3)) h) : Wp m_M_gaps 63 [o0, o1, o2, some (xI i3), o4, o5] [] h d mc ms R := Wp_blk ok_M_gaps_63 H
def k_M_hasNumber_0 : List AI := [(.iconst 0, []), (.istore 4, []), (.nop, [3])]
set_option maxRecDepth 20000 in
theorem ok_M_hasNumber_0 : okB m_M_hasNumber 0 k_M_hasNumber_0 = true := by decide +kernel
set_option maxRecDepth 20000 in
theorem b_M_hasNumber_0 (r0 : Nat) (i1 : Int) (i2 : Int) (i3 : Int) (o4 : Option AV) (o5 : Option AV) {h : Hp} {d mc ms : Nat} {R : PR} (H : Wp m_M_hasNumber 3 [some (xR r0), some (xI i1), some (xI i2), some (xI i3), some (xI (0 : Int)), o5] [] h d mc ms R) : Wp m_M_hasNumber 0 [some (xR r0), some (xI i1), some (xI i2), some (xI i3), o4, o5] [] h d mc ms R := Wp_blk ok_M_hasNumber_0 H
def k_M_hasNumber_3 : List AI := [(.iload 4, []), (.aload 0, []), (.getfield 0, [12, 0, 2, 1225]), (.iconst 280, []), (.iload 1, []), (.iadd, []), (.iaload, [20]), (.if_icmp .ge 0, [59]), (.iconst 0, []), (.iload 1, []), (.iload 4, []), (.invokestatic 0, [203, 3, 3, 0, 0, 1, 1472, 1473, 136]), (.istore 5, []), (.aload 0, []), (.getfield 0, [12, 0, 2, 1225]), (.iload 5, []), (.iaload, [20]), (.iload 2, []), (.if_icmp .ne 0, [53]), (.aload 0, []), (.getfield 0, [12, 0, 2, 1225]), (.iload 5, []), (.iconst 2, []), (.iadd, []), (.iaload, [20]), (.iload 3, []), (.if_icmp .ne 0, [53]), (.iconst 1, []), (.ireturn, [3])]
set_option maxRecDepth 20000 in
theorem ok_M_hasNumber_3 : okB m_M_hasNumber 3 k_M_hasNumber_3 = true := by decide +kernel
set_option maxRecDepth 20000 in
theorem b_M_hasNumber_3 (r0 : Nat) (i1 : Int) (i2 : Int) (i3 : Int) (i4 : Int) (o5 : Option AV) {h : Hp} {d mc ms : Nat} {R : PR} (H : ((hpT h r0).1 = 12 ∧ (((hpT h (Int.toNat (hpC h r0 0))).1 = 20 ∧ 0 ≤ (ai_add (280 : Int) i1) ∧ (ai_add (280 : Int) i1) < ((hpT h (Int.toNat (hpC h r0 0))).2 : Int)) ∧ (if i4 < (hpC h (Int.toNat (hpC h r0 0)) (Int.toNat (ai_add (280 : Int) i1))) then ((1 ≤ d ∧ 0 ≤ mc ∧ 0 ≤ ms) ∧ ∃ Q1 : PR, Wp m_M_houseAt 0 [some (xI (0 : Int)), some (xI i1), some (xI i4)] [] h (d - 1) 0 0 Q1 ∧ ∀ (v1 : Int) (h1 : Hp), Q1 (some (xI v1)) h1 → ((hpT h1 r0).1 = 12 ∧ (((hpT h1 (Int.toNat (hpC h1 r0 0))).1 = 20 ∧ 0 ≤ v1 ∧ v1 < ((hpT h1 (Int.toNat (hpC h1 r0 0))).2 : Int)) ∧ (if (hpC h1 (Int.toNat (hpC h1 r0 0)) (Int.toNat v1)) = i2 then ((hpT h1 r0).1 = 12 ∧ (((hpT h1 (Int.toNat (hpC h1 r0 0))).1 = 20 ∧ 0 ≤ (ai_add v1 (2 : Int)) ∧ (ai_add v1 (2 : Int)) < ((hpT h1 (Int.toNat (hpC h1 r0 0))).2 : Int)) ∧ (if (hpC h1 (Int.toNat (hpC h1 r0 0)) (Int.toNat (ai_add v1 (2 : Int)))) = i3 then (((1 : Int) = 0 ∨ (1 : Int) = 1) ∧ R (some (xI (1 : Int))) h1) else Wp m_M_hasNumber 53 [some (xR r0), some (xI i1), some (xI i2), some (xI i3), some (xI i4), some (xI v1)] [] h1 d mc ms R))) else Wp m_M_hasNumber 53 [some (xR r0), some (xI i1), some (xI i2), some (xI i3), some (xI i4), some (xI v1)] [] h1 d mc ms R)))) else Wp m_M_hasNumber 59 [some (xR r0), some (xI i1), some (xI i2), some (xI i3), some (xI i4), o5] [] h d mc ms R)))) : Wp m_M_hasNumber 3 [some (xR r0), some (xI i1), some (xI i2), some (xI i3), some (xI i4), o5] [] h d mc ms R := Wp_blk ok_M_hasNumber_3 H
def k_M_hasNumber_53 : List AI := [(.iinc 4 1, []), (.goto 0, []), (.nop, [3])]
set_option maxRecDepth 20000 in
theorem ok_M_hasNumber_53 : okB m_M_hasNumber 53 k_M_hasNumber_53 = true := by decide +kernel
set_option maxRecDepth 20000 in
theorem b_M_hasNumber_53 (r0 : Nat) (i1 : Int) (i2 : Int) (i3 : Int) (i4 : Int) (o5 : Option AV) {h : Hp} {d mc ms : Nat} {R : PR} (H : Wp m_M_hasNumber 3 [some (xR r0), some (xI i1), some (xI i2), some (xI i3), some (xI (ai_add i4 1)), o5] [] h d mc ms R) : Wp m_M_hasNumber 53 [some (xR r0), some (xI i1), some (xI i2), some (xI i3), some (xI i4), o5] [] h d mc ms R := Wp_blk ok_M_hasNumber_53 H
def k_M_hasNumber_59 : List AI := [(.iconst 0, []), (.ireturn, [3])]
set_option maxRecDepth 20000 in
theorem ok_M_hasNumber_59 : okB m_M_hasNumber 59 k_M_hasNumber_59 = true := by decide +kernel
set_option maxRecDepth 20000 in
theorem b_M_hasNumber_59 (o0 : Option AV) (o1 : Option AV) (o2 : Option AV) (o3 : Option AV) (o4 : Option AV) (o5 : Option AV) {h : Hp} {d mc ms : Nat} {R : PR} (H : (((0 : Int) = 0 ∨ (0 : Int) = 1) ∧ R (some (xI (0 : Int))) h)) : Wp m_M_hasNumber 59 [o0, o1, o2, o3, o4, o5] [] h d mc ms R := Wp_blk ok_M_hasNumber_59 H
def k_M_would_0 : List AI := [(.aload 0, []), (.iload 1, []), (.iload 2, []), (.iload 3, []), (.invokevirtual 0, [276, 3, 8, 0, 0, 1, 12, 1760, 1762, 114, 136]), (.ireturn, [1])]
set_option maxRecDepth 20000 in
theorem ok_M_would_0 : okB m_M_would 0 k_M_would_0 = true := by decide +kernel
set_option maxRecDepth 20000 in
theorem b_M_would_0 (r0 : Nat) (i1 : Int) (i2 : Int) (i3 : Int) {h : Hp} {d mc ms : Nat} {R : PR} (H : ((1 ≤ d ∧ 0 ≤ mc ∧ 0 ≤ ms ∧ (hpT h r0).1 = 12) ∧ ∃ Q1 : PR, Wp m_M_numberFor 0 [some (xR r0), some (xI i1), some (xI i2), some (xI i3), none, none, none, none] [] h (d - 1) 0 0 Q1 ∧ ∀ (v1 : Int) (h1 : Hp), Q1 (some (xI v1)) h1 → R (some (xI v1)) h1)) : Wp m_M_would 0 [some (xR r0), some (xI i1), some (xI i2), some (xI i3)] [] h d mc ms R := Wp_blk ok_M_would_0 H
def k_M_numberFor_0 : List AI := [(.aload 0, []), (.iload 1, []), (.invokevirtual 0, [215, 1, 2, 0, 0, 1, 12, 1518, 1520, 81, 136]), (.ifCond .eq 0, [55]), (.iload 2, []), (.iconst 0, []), (.iconst 1, []), (.invokestatic 0, [187, 3, 3, 0, 0, 1, 1409, 1410, 136]), (.ifCond .eq 0, [55]), (.iload 3, []), (.iconst 0, []), (.iconst 9999, []), (.invokestatic 0, [187, 3, 3, 0, 0, 1, 1409, 1410, 136]), (.ifCond .eq 0, [55]), (.aload 0, []), (.getfield 0, [12, 0, 2, 1225]), (.iconst 280, []), (.iload 1, []), (.iadd, []), (.iaload, [20]), (.iconst 12, []), (.if_icmp .eq 0, [55]), (.aload 0, []), (.iconst 0, []), (.iload 1, []), (.iload 2, []), (.iload 3, []), (.invokevirtual 0, [202, 4, 7, 0, 0, 1, 12, 1468, 1470, 73, 136]), (.iconst (-1), []), (.if_icmp .eq 0, [57]), (.nop, [55])]
set_option maxRecDepth 20000 in
theorem ok_M_numberFor_0 : okB m_M_numberFor 0 k_M_numberFor_0 = true := by decide +kernel
set_option maxRecDepth 20000 in
theorem b_M_numberFor_0 (r0 : Nat) (i1 : Int) (i2 : Int) (i3 : Int) (o4 : Option AV) (o5 : Option AV) (o6 : Option AV) (o7 : Option AV) {h : Hp} {d mc ms : Nat} {R : PR} (H : ((1 ≤ d ∧ 0 ≤ mc ∧ 0 ≤ ms ∧ (hpT h r0).1 = 12) ∧ ∃ Q1 : PR, Wp m_M_isStreet 0 [some (xR r0), some (xI i1)] [] h (d - 1) 0 0 Q1 ∧ ∀ (v1 : Int) (h1 : Hp), Q1 (some (xI v1)) h1 → (if v1 = (0 : Int) then Wp m_M_numberFor 55 [some (xR r0), some (xI i1), some (xI i2), some (xI i3), o4, o5, o6, o7] [] h1 d mc ms R else ((1 ≤ d ∧ 0 ≤ mc ∧ 0 ≤ ms) ∧ ∃ Q2 : PR, Wp m_M_isIn 0 [some (xI i2), some (xI (0 : Int)), some (xI (1 : Int))] [] h1 (d - 1) 0 0 Q2 ∧ ∀ (v2 : Int) (h2 : Hp), Q2 (some (xI v2)) h2 → (if v2 = (0 : Int) then Wp m_M_numberFor 55 [some (xR r0), some (xI i1), some (xI i2), some (xI i3), o4, o5, o6, o7] [] h2 d mc ms R else ((1 ≤ d ∧ 0 ≤ mc ∧ 0 ≤ ms) ∧ ∃ Q3 : PR, Wp m_M_isIn 0 [some (xI i3), some (xI (0 : Int)), some (xI (9999 : Int))] [] h2 (d - 1) 0 0 Q3 ∧ ∀ (v3 : Int) (h3 : Hp), Q3 (some (xI v3)) h3 → (if v3 = (0 : Int) then Wp m_M_numberFor 55 [some (xR r0), some (xI i1), some (xI i2), some (xI i3), o4, o5, o6, o7] [] h3 d mc ms R else ((hpT h3 r0).1 = 12 ∧ (((hpT h3 (Int.toNat (hpC h3 r0 0))).1 = 20 ∧ 0 ≤ (ai_add (280 : Int) i1) ∧ (ai_add (280 : Int) i1) < ((hpT h3 (Int.toNat (hpC h3 r0 0))).2 : Int)) ∧ (if (hpC h3 (Int.toNat (hpC h3 r0 0)) (Int.toNat (ai_add (280 : Int) i1))) = (12 : Int) then Wp m_M_numberFor 55 [some (xR r0), some (xI i1), some (xI i2), some (xI i3), o4, o5, o6, o7] [] h3 d mc ms R else ((1 ≤ d ∧ 0 ≤ mc ∧ 0 ≤ ms ∧ (hpT h3 r0).1 = 12) ∧ ∃ Q4 : PR, Wp m_M_standsAt 0 [some (xR r0), some (xI (0 : Int)), some (xI i1), some (xI i2), some (xI i3), none, none] [] h3 (d - 1) 0 0 Q4 ∧ ∀ (v4 : Int) (h4 : Hp), Q4 (some (xI v4)) h4 → (if v4 = (-1 : Int) then Wp m_M_numberFor 57 [some (xR r0), some (xI i1), some (xI i2), some (xI i3), o4, o5, o6, o7] [] h4 d mc ms R else Wp m_M_numberFor 55 [some (xR r0), some (xI i1), some (xI i2), some (xI i3), o4, o5, o6, o7] [] h4 d mc ms R)))))))))))) : Wp m_M_numberFor 0 [some (xR r0), some (xI i1), some (xI i2), some (xI i3), o4, o5, o6, o7] [] h d mc ms R := Wp_blk ok_M_numberFor_0 H
def k_M_numberFor_55 : List AI := [(.iconst (-1), []), (.ireturn, [1])]
set_option maxRecDepth 20000 in
theorem ok_M_numberFor_55 : okB m_M_numberFor 55 k_M_numberFor_55 = true := by decide +kernel
set_option maxRecDepth 20000 in
theorem b_M_numberFor_55 (o0 : Option AV) (o1 : Option AV) (o2 : Option AV) (o3 : Option AV) (o4 : Option AV) (o5 : Option AV) (o6 : Option AV) (o7 : Option AV) {h : Hp} {d mc ms : Nat} {R : PR} (H : R (some (xI (-1 : Int))) h) : Wp m_M_numberFor 55 [o0, o1, o2, o3, o4, o5, o6, o7] [] h d mc ms R := Wp_blk ok_M_numberFor_55 H
def k_M_numberFor_57 : List AI := [(.aload 0, []), (.iload 2, []), (.iload 3, []), (.invokevirtual 0, [259, 2, 3, 0, 0, 1, 12, 1692, 1694, 104, 136]), (.istore 4, []), (.iconst 1000, []), (.istore 5, []), (.iconst 0, []), (.istore 6, []), (.nop, [73])]
set_option maxRecDepth 20000 in
theorem ok_M_numberFor_57 : okB m_M_numberFor 57 k_M_numberFor_57 = true := by decide +kernel
set_option maxRecDepth 20000 in
theorem b_M_numberFor_57 (r0 : Nat) (i1 : Int) (i2 : Int) (i3 : Int) (o4 : Option AV) (o5 : Option AV) (o6 : Option AV) (o7 : Option AV) {h : Hp} {d mc ms : Nat} {R : PR} (H : ((1 ≤ d ∧ 0 ≤ mc ∧ 0 ≤ ms ∧ (hpT h r0).1 = 12) ∧ ∃ Q1 : PR, Wp m_M_lowOf 0 [some (xR r0), some (xI i2), some (xI i3)] [] h (d - 1) 0 0 Q1 ∧ ∀ (v1 : Int) (h1 : Hp), Q1 (some (xI v1)) h1 → Wp m_M_numberFor 73 [some (xR r0), some (xI i1), some (xI i2), some (xI i3), some (xI v1), some (xI (1000 : Int)), some (xI (0 : Int)), o7] [] h1 d mc ms R)) : Wp m_M_numberFor 57 [some (xR r0), some (xI i1), some (xI i2), some (xI i3), o4, o5, o6, o7] [] h d mc ms R := Wp_blk ok_M_numberFor_57 H
def k_M_numberFor_73 : List AI := [(.iload 6, []), (.aload 0, []), (.getfield 0, [12, 0, 2, 1225]), (.iconst 280, []), (.iload 1, []), (.iadd, []), (.iaload, [20]), (.if_icmp .ge 0, [167]), (.iconst 0, []), (.iload 1, []), (.iload 6, []), (.invokestatic 0, [203, 3, 3, 0, 0, 1, 1472, 1473, 136]), (.istore 7, []), (.aload 0, []), (.getfield 0, [12, 0, 2, 1225]), (.iload 7, []), (.iaload, [20]), (.iload 2, []), (.if_icmp .eq 0, [111]), (.goto 0, []), (.nop, [161])]
set_option maxRecDepth 20000 in
theorem ok_M_numberFor_73 : okB m_M_numberFor 73 k_M_numberFor_73 = true := by decide +kernel
set_option maxRecDepth 20000 in
theorem b_M_numberFor_73 (r0 : Nat) (i1 : Int) (i2 : Int) (i3 : Int) (i4 : Int) (i5 : Int) (i6 : Int) (o7 : Option AV) {h : Hp} {d mc ms : Nat} {R : PR} (H : ((hpT h r0).1 = 12 ∧ (((hpT h (Int.toNat (hpC h r0 0))).1 = 20 ∧ 0 ≤ (ai_add (280 : Int) i1) ∧ (ai_add (280 : Int) i1) < ((hpT h (Int.toNat (hpC h r0 0))).2 : Int)) ∧ (if i6 < (hpC h (Int.toNat (hpC h r0 0)) (Int.toNat (ai_add (280 : Int) i1))) then ((1 ≤ d ∧ 0 ≤ mc ∧ 0 ≤ ms) ∧ ∃ Q1 : PR, Wp m_M_houseAt 0 [some (xI (0 : Int)), some (xI i1), some (xI i6)] [] h (d - 1) 0 0 Q1 ∧ ∀ (v1 : Int) (h1 : Hp), Q1 (some (xI v1)) h1 → ((hpT h1 r0).1 = 12 ∧ (((hpT h1 (Int.toNat (hpC h1 r0 0))).1 = 20 ∧ 0 ≤ v1 ∧ v1 < ((hpT h1 (Int.toNat (hpC h1 r0 0))).2 : Int)) ∧ (if (hpC h1 (Int.toNat (hpC h1 r0 0)) (Int.toNat v1)) = i2 then Wp m_M_numberFor 111 [some (xR r0), some (xI i1), some (xI i2), some (xI i3), some (xI i4), some (xI i5), some (xI i6), some (xI v1)] [] h1 d mc ms R else Wp m_M_numberFor 161 [some (xR r0), some (xI i1), some (xI i2), some (xI i3), some (xI i4), some (xI i5), some (xI i6), some (xI v1)] [] h1 d mc ms R)))) else Wp m_M_numberFor 167 [some (xR r0), some (xI i1), some (xI i2), some (xI i3), some (xI i4), some (xI i5), some (xI i6), o7] [] h d mc ms R)))) : Wp m_M_numberFor 73 [some (xR r0), some (xI i1), some (xI i2), some (xI i3), some (xI i4), some (xI i5), some (xI i6), o7] [] h d mc ms R := Wp_blk ok_M_numberFor_73 H
def k_M_numberFor_111 : List AI := [(.aload 0, []), (.getfield 0, [12, 0, 2, 1225]), (.iload 7, []), (.iconst 1, []), (.iadd, []), (.iaload, [20]), (.iload 3, []), (.if_icmp .ge 0, [145]), (.iload 4, []), (.aload 0, []), (.getfield 0, [12, 0, 2, 1225]), (.iload 7, []), (.iconst 2, []), (.iadd, []), (.iaload, [20]), (.iconst 1, []), (.iadd, []), (.invokestatic 0, [235, 2, 2, 0, 0, 1, 1596, 1597, 136]), (.istore 4, []), (.goto 0, []), (.nop, [161])]
set_option maxRecDepth 20000 in
theorem ok_M_numberFor_111 : okB m_M_numberFor 111 k_M_numberFor_111 = true := by decide +kernel
set_option maxRecDepth 20000 in
theorem b_M_numberFor_111 (r0 : Nat) (i1 : Int) (i2 : Int) (i3 : Int) (i4 : Int) (i5 : Int) (i6 : Int) (i7 : Int) {h : Hp} {d mc ms : Nat} {R : PR} (H : ((hpT h r0).1 = 12 ∧ (((hpT h (Int.toNat (hpC h r0 0))).1 = 20 ∧ 0 ≤ (ai_add i7 (1 : Int)) ∧ (ai_add i7 (1 : Int)) < ((hpT h (Int.toNat (hpC h r0 0))).2 : Int)) ∧ (if (hpC h (Int.toNat (hpC h r0 0)) (Int.toNat (ai_add i7 (1 : Int)))) < i3 then ((hpT h r0).1 = 12 ∧ (((hpT h (Int.toNat (hpC h r0 0))).1 = 20 ∧ 0 ≤ (ai_add i7 (2 : Int)) ∧ (ai_add i7 (2 : Int)) < ((hpT h (Int.toNat (hpC h r0 0))).2 : Int)) ∧ ((1 ≤ d ∧ 0 ≤ mc ∧ 0 ≤ ms) ∧ ∃ Q1 : PR, Wp m_M_greater 0 [some (xI i4), some (xI (ai_add (hpC h (Int.toNat (hpC h r0 0)) (Int.toNat (ai_add i7 (2 : Int)))) (1 : Int)))] [] h (d - 1) 0 0 Q1 ∧ ∀ (v1 : Int) (h1 : Hp), Q1 (some (xI v1)) h1 → Wp m_M_numberFor 161 [some (xR r0), some (xI i1), some (xI i2), some (xI i3), some (xI v1), some (xI i5), some (xI i6), some (xI i7)] [] h1 d mc ms R))) else Wp m_M_numberFor 145 [some (xR r0), some (xI i1), some (xI i2), some (xI i3), some (xI i4), some (xI i5), some (xI i6), some (xI i7)] [] h d mc ms R)))) : Wp m_M_numberFor 111 [some (xR r0), some (xI i1), some (xI i2), some (xI i3), some (xI i4), some (xI i5), some (xI i6), some (xI i7)] [] h d mc ms R := Wp_blk ok_M_numberFor_111 H
def k_M_numberFor_145 : List AI := [(.iload 5, []), (.aload 0, []), (.getfield 0, [12, 0, 2, 1225]), (.iload 7, []), (.iconst 2, []), (.iadd, []), (.iaload, [20]), (.invokestatic 0, [223, 2, 2, 0, 0, 1, 1550, 1551, 136]), (.istore 5, []), (.nop, [161])]
set_option maxRecDepth 20000 in
theorem ok_M_numberFor_145 : okB m_M_numberFor 145 k_M_numberFor_145 = true := by decide +kernel
set_option maxRecDepth 20000 in
theorem b_M_numberFor_145 (r0 : Nat) (i1 : Int) (i2 : Int) (i3 : Int) (i4 : Int) (i5 : Int) (i6 : Int) (i7 : Int) {h : Hp} {d mc ms : Nat} {R : PR} (H : ((hpT h r0).1 = 12 ∧ (((hpT h (Int.toNat (hpC h r0 0))).1 = 20 ∧ 0 ≤ (ai_add i7 (2 : Int)) ∧ (ai_add i7 (2 : Int)) < ((hpT h (Int.toNat (hpC h r0 0))).2 : Int)) ∧ ((1 ≤ d ∧ 0 ≤ mc ∧ 0 ≤ ms) ∧ ∃ Q1 : PR, Wp m_M_lesser 0 [some (xI i5), some (xI (hpC h (Int.toNat (hpC h r0 0)) (Int.toNat (ai_add i7 (2 : Int)))))] [] h (d - 1) 0 0 Q1 ∧ ∀ (v1 : Int) (h1 : Hp), Q1 (some (xI v1)) h1 → Wp m_M_numberFor 161 [some (xR r0), some (xI i1), some (xI i2), some (xI i3), some (xI i4), some (xI v1), some (xI i6), some (xI i7)] [] h1 d mc ms R)))) : Wp m_M_numberFor 145 [some (xR r0), some (xI i1), some (xI i2), some (xI i3), some (xI i4), some (xI i5), some (xI i6), some (xI i7)] [] h d mc ms R := Wp_blk ok_M_numberFor_145 H
def k_M_numberFor_161 : List AI := [(.iinc 6 1, []), (.goto 0, []), (.nop, [73])]
set_option maxRecDepth 20000 in
theorem ok_M_numberFor_161 : okB m_M_numberFor 161 k_M_numberFor_161 = true := by decide +kernel
set_option maxRecDepth 20000 in
theorem b_M_numberFor_161 (r0 : Nat) (i1 : Int) (i2 : Int) (i3 : Int) (i4 : Int) (i5 : Int) (i6 : Int) (o7 : Option AV) {h : Hp} {d mc ms : Nat} {R : PR} (H : Wp m_M_numberFor 73 [some (xR r0), some (xI i1), some (xI i2), some (xI i3), some (xI i4), some (xI i5), some (xI (ai_add i6 1)), o7] [] h d mc ms R) : Wp m_M_numberFor 161 [some (xR r0), some (xI i1), some (xI i2), some (xI i3), some (xI i4), some (xI i5), some (xI i6), o7] [] h d mc ms R := Wp_blk ok_M_numberFor_161 H
def k_M_numberFor_167 : List AI := [(.iload 4, []), (.iconst 2, []), (.irem, []), (.iload 2, []), (.if_icmp .ne 0, [182]), (.iload 4, []), (.iconst 1, []), (.iadd, []), (.goto 0, []), (.nop, [184])]
set_option maxRecDepth 20000 in
theorem ok_M_numberFor_167 : okB m_M_numberFor 167 k_M_numberFor_167 = true := by decide +kernel
set_option maxRecDepth 20000 in
theorem b_M_numberFor_167 (o0 : Option AV) (o1 : Option AV) (i2 : Int) (o3 : Option AV) (i4 : Int) (i5 : Int) (o6 : Option AV) (o7 : Option AV) {h : Hp} {d mc ms : Nat} {R : PR} (H : (¬ (2 : Int) = 0 ∧ (if (ai_rem i4 (2 : Int)) = i2 then Wp m_M_numberFor 184 [o0, o1, some (xI i2), o3, some (xI i4), some (xI i5), o6, o7] [xI (ai_add i4 (1 : Int))] h d mc ms R else Wp m_M_numberFor 182 [o0, o1, some (xI i2), o3, some (xI i4), some (xI i5), o6, o7] [] h d mc ms R))) : Wp m_M_numberFor 167 [o0, o1, some (xI i2), o3, some (xI i4), some (xI i5), o6, o7] [] h d mc ms R := Wp_blk ok_M_numberFor_167 H
def k_M_numberFor_182 : List AI := [(.iload 4, []), (.nop, [184])]
set_option maxRecDepth 20000 in
theorem ok_M_numberFor_182 : okB m_M_numberFor 182 k_M_numberFor_182 = true := by decide +kernel
set_option maxRecDepth 20000 in
theorem b_M_numberFor_182 (o0 : Option AV) (o1 : Option AV) (o2 : Option AV) (o3 : Option AV) (i4 : Int) (i5 : Int) (o6 : Option AV) (o7 : Option AV) {h : Hp} {d mc ms : Nat} {R : PR} (H : Wp m_M_numberFor 184 [o0, o1, o2, o3, some (xI i4), some (xI i5), o6, o7] [xI i4] h d mc ms R) : Wp m_M_numberFor 182 [o0, o1, o2, o3, some (xI i4), some (xI i5), o6, o7] [] h d mc ms R := Wp_blk ok_M_numberFor_182 H
def k_M_numberFor_184 : List AI := [(.istore 6, []), (.iload 6, []), (.iload 5, []), (.if_icmp .ge 0, [198]), (.iload 6, []), (.goto 0, []), (.nop, [199])]
set_option maxRecDepth 20000 in
theorem ok_M_numberFor_184 : okB m_M_numberFor 184 k_M_numberFor_184 = true := by decide +kernel
set_option maxRecDepth 20000 in
theorem b_M_numberFor_184 (o0 : Option AV) (o1 : Option AV) (o2 : Option AV) (o3 : Option AV) (o4 : Option AV) (i5 : Int) (o6 : Option AV) (o7 : Option AV) (p0 : Int) {h : Hp} {d mc ms : Nat} {R : PR} (H : (if p0 < i5 then Wp m_M_numberFor 199 [o0, o1, o2, o3, o4, some (xI i5), some (xI p0), o7] [xI p0] h d mc ms R else Wp m_M_numberFor 198 [o0, o1, o2, o3, o4, some (xI i5), some (xI p0), o7] [] h d mc ms R)) : Wp m_M_numberFor 184 [o0, o1, o2, o3, o4, some (xI i5), o6, o7] [xI p0] h d mc ms R := Wp_blk ok_M_numberFor_184 H
def k_M_numberFor_198 : List AI := [(.iconst (-1), []), (.nop, [199])]
set_option maxRecDepth 20000 in
theorem ok_M_numberFor_198 : okB m_M_numberFor 198 k_M_numberFor_198 = true := by decide +kernel
set_option maxRecDepth 20000 in
theorem b_M_numberFor_198 (o0 : Option AV) (o1 : Option AV) (o2 : Option AV) (o3 : Option AV) (o4 : Option AV) (o5 : Option AV) (o6 : Option AV) (o7 : Option AV) {h : Hp} {d mc ms : Nat} {R : PR} (H : Wp m_M_numberFor 199 [o0, o1, o2, o3, o4, o5, o6, o7] [xI (-1 : Int)] h d mc ms R) : Wp m_M_numberFor 198 [o0, o1, o2, o3, o4, o5, o6, o7] [] h d mc ms R := Wp_blk ok_M_numberFor_198 H
def k_M_numberFor_199 : List AI := [(.ireturn, [1])]
set_option maxRecDepth 20000 in
theorem ok_M_numberFor_199 : okB m_M_numberFor 199 k_M_numberFor_199 = true := by decide +kernel
set_option maxRecDepth 20000 in
theorem b_M_numberFor_199 (o0 : Option AV) (o1 : Option AV) (o2 : Option AV) (o3 : Option AV) (o4 : Option AV) (o5 : Option AV) (o6 : Option AV) (o7 : Option AV) (p0 : Int) {h : Hp} {d mc ms : Nat} {R : PR} (H : R (some (xI p0)) h) : Wp m_M_numberFor 199 [o0, o1, o2, o3, o4, o5, o6, o7] [xI p0] h d mc ms R := Wp_blk ok_M_numberFor_199 H
def k_M_take_0 : List AI := [(.aload 0, []), (.iload 1, []), (.iload 2, []), (.invokevirtual 0, [244, 2, 3, 0, 0, 1, 12, 1651, 1632, 1633, 136]), (.ifCond .eq 0, [15]), (.aload 0, []), (.iconst 2, []), (.invokevirtual 0, [168, 1, 2, 0, 0, 1, 12, 1333, 1335, 42, 136]), (.ireturn, [1])]
set_option maxRecDepth 20000 in
theorem ok_M_take_0 : okB m_M_take 0 k_M_take_0 = true := by decide +kernel
set_option maxRecDepth 20000 in
theorem b_M_take_0 (r0 : Nat) (i1 : Int) (i2 : Int) {h : Hp} {d mc ms : Nat} {R : PR} (H : ((1 ≤ d ∧ 0 ≤ mc ∧ 0 ≤ ms ∧ (hpT h r0).1 = 12) ∧ ∃ Q1 : PR, Wp m_M_why 0 [some (xR r0), some (xI i1), some (xI i2)] [] h (d - 1) 0 0 Q1 ∧ ∀ (v1 : Int) (h1 : Hp), Q1 (some (xI v1)) h1 → (if v1 = (0 : Int) then Wp m_M_take 15 [some (xR r0), some (xI i1), some (xI i2)] [] h1 d mc ms R else ((1 ≤ d ∧ 0 ≤ mc ∧ 0 ≤ ms ∧ (hpT h1 r0).1 = 12) ∧ ∃ Q2 : PR, Wp m_M_refuses 0 [some (xR r0), some (xI (2 : Int))] [] h1 (d - 1) 0 0 Q2 ∧ ∀ (v2 : Int) (h2 : Hp), Q2 (some (xI v2)) h2 → R (some (xI v2)) h2)))) : Wp m_M_take 0 [some (xR r0), some (xI i1), some (xI i2)] [] h d mc ms R := Wp_blk ok_M_take_0 H
def k_M_take_15 : List AI := [(.aload 0, []), (.invokevirtual 0, [278, 0, 2, 0, 0, 0, 12, 1768, 1770, 115, 136]), (.aload 0, []), (.iload 1, []), (.iload 2, []), (.invokevirtual 0, [279, 2, 6, 0, 0, 0, 12, 1772, 1774, 116, 136]), (.aload 0, []), (.getfield 0, [12, 0, 2, 1225]), (.iconst 8, []), (.iaload, [20]), (.ireturn, [1])]
set_option maxRecDepth 20000 in
theorem ok_M_take_15 : okB m_M_take 15 k_M_take_15 = true := by decide +kernel
set_option maxRecDepth 20000 in
theorem b_M_take_15 (r0 : Nat) (i1 : Int) (i2 : Int) {h : Hp} {d mc ms : Nat} {R : PR} (H : ((1 ≤ d ∧ 0 ≤ mc ∧ 0 ≤ ms ∧ (hpT h r0).1 = 12) ∧ ∃ Q1 : PR, Wp m_M_keeps 0 [some (xR r0), none] [] h (d - 1) 0 0 Q1 ∧ ∀ (h1 : Hp), Q1 none h1 → ((1 ≤ d ∧ 0 ≤ mc ∧ 0 ≤ ms ∧ (hpT h1 r0).1 = 12) ∧ ∃ Q2 : PR, Wp m_M_renames 0 [some (xR r0), some (xI i1), some (xI i2), none, none, none] [] h1 (d - 1) 0 0 Q2 ∧ ∀ (h2 : Hp), Q2 none h2 → ((hpT h2 r0).1 = 12 ∧ (((hpT h2 (Int.toNat (hpC h2 r0 0))).1 = 20 ∧ 0 ≤ (8 : Int) ∧ (8 : Int) < ((hpT h2 (Int.toNat (hpC h2 r0 0))).2 : Int)) ∧ R (some (xI (hpC h2 (Int.toNat (hpC h2 r0 0)) (Int.toNat (8 : Int))))) h2))))) : Wp m_M_take 15 [some (xR r0), some (xI i1), some (xI i2)] [] h d mc ms R := Wp_blk ok_M_take_15 H
def k_M_keeps_0 : List AI := [(.aload 0, []), (.getfield 0, [12, 2, 0, 1227]), (.iconst 20, []), (.if_icmp .ne 0, [59]), (.aload 0, []), (.dup, []), (.getfield 0, [12, 2, 0, 1227]), (.iconst 1, []), (.isub, []), (.putfield 0, [12, 2, 0, 1227]), (.iconst 0, []), (.istore 1, []), (.nop, [21])]
set_option maxRecDepth 20000 in
theorem ok_M_keeps_0 : okB m_M_keeps 0 k_M_keeps_0 = true := by decide +kernel
set_option maxRecDepth 20000 in
theorem b_M_keeps_0 (r0 : Nat) (o1 : Option AV) {h : Hp} {d mc ms : Nat} {R : PR} (H : ((hpT h r0).1 = 12 ∧ (if (hpC h r0 2) = (20 : Int) then ((hpT h r0).1 = 12 ∧ ((hpT h r0).1 = 12 ∧ ∀ g1 : Hp, g1 = hpU h r0 2 (ai_sub (hpC h r0 2) (1 : Int)) → Wp m_M_keeps 21 [some (xR r0), some (xI (0 : Int))] [] g1 d mc ms R)) else Wp m_M_keeps 59 [some (xR r0), o1] [] h d mc ms R))) : Wp m_M_keeps 0 [some (xR r0), o1] [] h d mc ms R := Wp_blk ok_M_keeps_0 H
def k_M_keeps_21 : List AI := [(.iload 1, []), (.aload 0, []), (.getfield 0, [12, 2, 0, 1227]), (.if_icmp .ge 0, [59]), (.aload 0, []), (.iconst 4040, []), (.iconst 1010, []), (.iload 1, []), (.imul, []), (.iadd, []), (.iconst 4040, []), (.iconst 1010, []), (.iload 1, []), (.iconst 1, []), (.iadd, []), (.imul, []), (.iadd, []), (.invokevirtual 0, [208, 2, 4, 0, 0, 0, 12, 1491, 1493, 78, 136]), (.iinc 1 1, []), (.goto 0, []), (.nop, [21])]
set_option maxRecDepth 20000 in
theorem ok_M_keeps_21 : okB m_M_keeps 21 k_M_keeps_21 = true := by decide +kernel
set_option maxRecDepth 20000 in
theorem b_M_keeps_21 (r0 : Nat) (i1 : Int) {h : Hp} {d mc ms : Nat} {R : PR} (H : ((hpT h r0).1 = 12 ∧ (if i1 < (hpC h r0 2) then ((1 ≤ d ∧ 0 ≤ mc ∧ 0 ≤ ms ∧ (hpT h r0).1 = 12) ∧ ∃ Q1 : PR, Wp m_M_copies 0 [some (xR r0), some (xI (ai_add (4040 : Int) (ai_mul (1010 : Int) i1))), some (xI (ai_add (4040 : Int) (ai_mul (1010 : Int) (ai_add i1 (1 : Int))))), none] [] h (d - 1) 0 0 Q1 ∧ ∀ (h1 : Hp), Q1 none h1 → Wp m_M_keeps 21 [some (xR r0), some (xI (ai_add i1 1))] [] h1 d mc ms R) else Wp m_M_keeps 59 [some (xR r0), some (xI i1)] [] h d mc ms R))) : Wp m_M_keeps 21 [some (xR r0), some (xI i1)] [] h d mc ms R := Wp_blk ok_M_keeps_21 H
def k_M_keeps_59 : List AI := [(.aload 0, []), (.iconst 4040, []), (.iconst 1010, []), (.aload 0, []), (.getfield 0, [12, 2, 0, 1227]), (.imul, []), (.iadd, []), (.iconst 0, []), (.invokevirtual 0, [208, 2, 4, 0, 0, 0, 12, 1491, 1493, 78, 136]), (.aload 0, []), (.dup, []), (.getfield 0, [12, 2, 0, 1227]), (.iconst 1, []), (.iadd, []), (.putfield 0, [12, 2, 0, 1227]), (.return_, [])]
set_option maxRecDepth 20000 in
theorem ok_M_keeps_59 : okB m_M_keeps 59 k_M_keeps_59 = true := by decide +kernel
set_option maxRecDepth 20000 in
theorem b_M_keeps_59 (r0 : Nat) (o1 : Option AV) {h : Hp} {d mc ms : Nat} {R : PR} (H : ((hpT h r0).1 = 12 ∧ ((1 ≤ d ∧ 0 ≤ mc ∧ 0 ≤ ms ∧ (hpT h r0).1 = 12) ∧ ∃ Q1 : PR, Wp m_M_copies 0 [some (xR r0), some (xI (ai_add (4040 : Int) (ai_mul (1010 : Int) (hpC h r0 2)))), some (xI (0 : Int)), none] [] h (d - 1) 0 0 Q1 ∧ ∀ (h1 : Hp), Q1 none h1 → ((hpT h1 r0).1 = 12 ∧ ((hpT h1 r0).1 = 12 ∧ ∀ g1 : Hp, g1 = hpU h1 r0 2 (ai_add (hpC h1 r0 2) (1 : Int)) → R none g1))))) : Wp m_M_keeps 59 [some (xR r0), o1] [] h d mc ms R := Wp_blk ok_M_keeps_59 H
def k_M_renames_0 : List AI := [(.aload 0, []), (.iload 1, []), (.iload 2, []), (.invokevirtual 0, [280, 2, 4, 0, 0, 1, 12, 1776, 1778, 117, 136]), (.istore 3, []), (.iload 3, []), (.iconst (-1), []), (.if_icmp .eq 0, [17]), (.aload 0, []), (.iload 3, []), (.invokevirtual 0, [282, 1, 4, 0, 0, 0, 12, 1783, 1785, 118, 136]), (.nop, [17])]
set_option maxRecDepth 20000 in
theorem ok_M_renames_0 : okB m_M_renames 0 k_M_renames_0 = true := by decide +kernel
set_option maxRecDepth 20000 in
theorem b_M_renames_0 (r0 : Nat) (i1 : Int) (i2 : Int) (o3 : Option AV) (o4 : Option AV) (o5 : Option AV) {h : Hp} {d mc ms : Nat} {R : PR} (H : ((1 ≤ d ∧ 0 ≤ mc ∧ 0 ≤ ms ∧ (hpT h r0).1 = 12) ∧ ∃ Q1 : PR, Wp m_M_ownAlias 0 [some (xR r0), some (xI i1), some (xI i2), none] [] h (d - 1) 0 0 Q1 ∧ ∀ (v1 : Int) (h1 : Hp), Q1 (some (xI v1)) h1 → (if v1 = (-1 : Int) then Wp m_M_renames 17 [some (xR r0), some (xI i1), some (xI i2), some (xI v1), o4, o5] [] h1 d mc ms R else ((1 ≤ d ∧ 0 ≤ mc ∧ 0 ≤ ms ∧ (hpT h1 r0).1 = 12) ∧ ∃ Q2 : PR, Wp m_M_dropsAlias 0 [some (xR r0), some (xI v1), none, none] [] h1 (d - 1) 0 0 Q2 ∧ ∀ (h2 : Hp), Q2 none h2 → Wp m_M_renames 17 [some (xR r0), some (xI i1), some (xI i2), some (xI v1), o4, o5] [] h2 d mc ms R)))) : Wp m_M_renames 0 [some (xR r0), some (xI i1), some (xI i2), o3, o4, o5] [] h d mc ms R := Wp_blk ok_M_renames_0 H
def k_M_renames_17 : List AI := [(.aload 0, []), (.getfield 0, [12, 0, 2, 1225]), (.iconst 8, []), (.iaload, [20]), (.istore 4, []), (.iconst 0, []), (.istore 5, []), (.nop, [29])]
set_option maxRecDepth 20000 in
theorem ok_M_renames_17 : okB m_M_renames 17 k_M_renames_17 = true := by decide +kernel
set_option maxRecDepth 20000 in
theorem b_M_renames_17 (r0 : Nat) (i1 : Int) (i2 : Int) (o3 : Option AV) (o4 : Option AV) (o5 : Option AV) {h : Hp} {d mc ms : Nat} {R : PR} (H : ((hpT h r0).1 = 12 ∧ (((hpT h (Int.toNat (hpC h r0 0))).1 = 20 ∧ 0 ≤ (8 : Int) ∧ (8 : Int) < ((hpT h (Int.toNat (hpC h r0 0))).2 : Int)) ∧ Wp m_M_renames 29 [some (xR r0), some (xI i1), some (xI i2), x_d2 o3, some (xI (hpC h (Int.toNat (hpC h r0 0)) (Int.toNat (8 : Int)))), some (xI (0 : Int))] [] h d mc ms R))) : Wp m_M_renames 17 [some (xR r0), some (xI i1), some (xI i2), o3, o4, o5] [] h d mc ms R := Wp_blk ok_M_renames_17 H
def k_M_renames_29 : List AI := [(.iload 5, []), (.iconst 10, []), (.if_icmp .ge 0, [106]), (.aload 0, []), (.getfield 0, [12, 0, 2, 1225]), (.iconst 650, []), (.iconst 10, []), (.iload 4, []), (.imul, []), (.iadd, []), (.iload 5, []), (.iadd, []), (.aload 0, []), (.getfield 0, [12, 0, 2, 1225]), (.iconst 180, []), (.iconst 10, []), (.iload 1, []), (.imul, []), (.iadd, []), (.iload 5, []), (.iadd, []), (.iaload, [20]), (.iastore, []), (.aload 0, []), (.getfield 0, [12, 0, 2, 1225]), (.iconst 180, []), (.iconst 10, []), (.iload 1, []), (.imul, []), (.iadd, []), (.iload 5, []), (.iadd, []), (.aload 0, []), (.getfield 0, [12, 0, 2, 1225]), (.iconst 60, []), (.iconst 10, []), (.iload 2, []), (.imul, []), (.iadd, []), (.iload 5, []), (.iadd, []), (.iaload, [20]), (.iastore, []), (.iinc 5 1, []), (.goto 0, []), (.nop, [29])]
set_option maxRecDepth 20000 in
theorem ok_M_renames_29 : okB m_M_renames 29 k_M_renames_29 = true := by decide +kernel
set_option maxRecDepth 20000 in
theorem b_M_renames_29 (r0 : Nat) (i1 : Int) (i2 : Int) (o3 : Option AV) (i4 : Int) (i5 : Int) {h : Hp} {d mc ms : Nat} {R : PR} (H : (if i5 < (10 : Int) then ((hpT h r0).1 = 12 ∧ ((hpT h r0).1 = 12 ∧ (((hpT h (Int.toNat (hpC h r0 0))).1 = 20 ∧ 0 ≤ (ai_add (ai_add (180 : Int) (ai_mul (10 : Int) i1)) i5) ∧ (ai_add (ai_add (180 : Int) (ai_mul (10 : Int) i1)) i5) < ((hpT h (Int.toNat (hpC h r0 0))).2 : Int)) ∧ (((hpT h (Int.toNat (hpC h r0 0))).1 = 20 ∧ 0 ≤ (ai_add (ai_add (650 : Int) (ai_mul (10 : Int) i4)) i5) ∧ (ai_add (ai_add (650 : Int) (ai_mul (10 : Int) i4)) i5) < ((hpT h (Int.toNat (hpC h r0 0))).2 : Int)) ∧ ∀ g1 : Hp, g1 = hpU h (Int.toNat (hpC h r0 0)) (Int.toNat (ai_add (ai_add (650 : Int) (ai_mul (10 : Int) i4)) i5)) (hpC h (Int.toNat (hpC h r0 0)) (Int.toNat (ai_add (ai_add (180 : Int) (ai_mul (10 : Int) i1)) i5))) → ((hpT g1 r0).1 = 12 ∧ ((hpT g1 r0).1 = 12 ∧ (((hpT g1 (Int.toNat (hpC g1 r0 0))).1 = 20 ∧ 0 ≤ (ai_add (ai_add (60 : Int) (ai_mul (10 : Int) i2)) i5) ∧ (ai_add (ai_add (60 : Int) (ai_mul (10 : Int) i2)) i5) < ((hpT g1 (Int.toNat (hpC g1 r0 0))).2 : Int)) ∧ (((hpT g1 (Int.toNat (hpC g1 r0 0))).1 = 20 ∧ 0 ≤ (ai_add (ai_add (180 : Int) (ai_mul (10 : Int) i1)) i5) ∧ (ai_add (ai_add (180 : Int) (ai_mul (10 : Int) i1)) i5) < ((hpT g1 (Int.toNat (hpC g1 r0 0))).2 : Int)) ∧ ∀ g2 : Hp, g2 = hpU g1 (Int.toNat (hpC g1 r0 0)) (Int.toNat (ai_add (ai_add (180 : Int) (ai_mul (10 : Int) i1)) i5)) (hpC g1 (Int.toNat (hpC g1 r0 0)) (Int.toNat (ai_add (ai_add (60 : Int) (ai_mul (10 : Int) i2)) i5))) → Wp m_M_renames 29 [some (xR r0), some (xI i1), some (xI i2), o3, some (xI i4), some (xI (ai_add i5 1))] [] g2 d mc ms R)))))))) else Wp m_M_renames 106 [some (xR r0), some (xI i1), some (xI i2), o3, some (xI i4), some (xI i5)] [] h d mc ms R)) : Wp m_M_renames 29 [some (xR r0), some (xI i1), some (xI i2), o3, some (xI i4), some (xI i5)] [] h d mc ms R := Wp_blk ok_M_renames_29 H
def k_M_renames_106 : List AI := [(.aload 0, []), (.getfield 0, [12, 0, 2, 1225]), (.iconst 950, []), (.iload 4, []), (.iadd, []), (.iload 1, []), (.iastore, []), (.aload 0, []), (.getfield 0, [12, 0, 2, 1225]), (.iconst 980, []), (.iload 4, []), (.iadd, []), (.aload 0, []), (.getfield 0, [12, 0, 2, 1225]), (.iconst 9, []), (.iaload, [20]), (.aload 0, []), (.getfield 0, [12, 0, 2, 1225]), (.iconst 1, []), (.iaload, [20]), (.iadd, []), (.iastore, []), (.aload 0, []), (.getfield 0, [12, 0, 2, 1225]), (.iconst 8, []), (.dup2, []), (.iaload, [20]), (.iconst 1, []), (.iadd, []), (.iastore, []), (.return_, [])]
set_option maxRecDepth 20000 in
theorem ok_M_renames_106 : okB m_M_renames 106 k_M_renames_106 = true := by decide +kernel
set_option maxRecDepth 20000 in
theorem b_M_renames_106 (r0 : Nat) (i1 : Int) (o2 : Option AV) (o3 : Option AV) (i4 : Int) (o5 : Option AV) {h : Hp} {d mc ms : Nat} {R : PR} (H : ((hpT h r0).1 = 12 ∧ (((hpT h (Int.toNat (hpC h r0 0))).1 = 20 ∧ 0 ≤ (ai_add (950 : Int) i4) ∧ (ai_add (950 : Int) i4) < ((hpT h (Int.toNat (hpC h r0 0))).2 : Int)) ∧ ∀ g1 : Hp, g1 = hpU h (Int.toNat (hpC h r0 0)) (Int.toNat (ai_add (950 : Int) i4)) i1 → ((hpT g1 r0).1 = 12 ∧ ((hpT g1 r0).1 = 12 ∧ (((hpT g1 (Int.toNat (hpC g1 r0 0))).1 = 20 ∧ 0 ≤ (9 : Int) ∧ (9 : Int) < ((hpT g1 (Int.toNat (hpC g1 r0 0))).2 : Int)) ∧ ((hpT g1 r0).1 = 12 ∧ (((hpT g1 (Int.toNat (hpC g1 r0 0))).1 = 20 ∧ 0 ≤ (1 : Int) ∧ (1 : Int) < ((hpT g1 (Int.toNat (hpC g1 r0 0))).2 : Int)) ∧ (((hpT g1 (Int.toNat (hpC g1 r0 0))).1 = 20 ∧ 0 ≤ (ai_add (980 : Int) i4) ∧ (ai_add (980 : Int) i4) < ((hpT g1 (Int.toNat (hpC g1 r0 0))).2 : Int)) ∧ ∀ g2 : Hp, g2 = hpU g1 (Int.toNat (hpC g1 r0 0)) (Int.toNat (ai_add (980 : Int) i4)) (ai_add (hpC g1 (Int.toNat (hpC g1 r0 0)) (Int.toNat (9 : Int))) (hpC g1 (Int.toNat (hpC g1 r0 0)) (Int.toNat (1 : Int)))) → ((hpT g2 r0).1 = 12 ∧ (((hpT g2 (Int.toNat (hpC g2 r0 0))).1 = 20 ∧ 0 ≤ (8 : Int) ∧ (8 : Int) < ((hpT g2 (Int.toNat (hpC g2 r0 0))).2 : Int)) ∧ (((hpT g2 (Int.toNat (hpC g2 r0 0))).1 = 20 ∧ 0 ≤ (8 : Int) ∧ (8 : Int) < ((hpT g2 (Int.toNat (hpC g2 r0 0))).2 : Int)) ∧ ∀ g3 : Hp, g3 = hpU g2 (Int.toNat (hpC g2 r0 0)) (Int.toNat (8 : Int)) (ai_add (hpC g2 (Int.toNat (hpC g2 r0 0)) (Int.toNat (8 : Int))) (1 : Int)) → R none g3)))))))))))) : Wp m_M_renames 106 [some (xR r0), some (xI i1), o2, o3, some (xI i4), o5] [] h d mc ms R := Wp_blk ok_M_renames_106 H
def k_M_ownAlias_0 : List AI := [(.iconst 0, []), (.istore 3, []), (.nop, [2])]
set_option maxRecDepth 20000 in
theorem ok_M_ownAlias_0 : okB m_M_ownAlias 0 k_M_ownAlias_0 = true := by decide +kernel
set_option maxRecDepth 20000 in
theorem b_M_ownAlias_0 (r0 : Nat) (i1 : Int) (i2 : Int) (o3 : Option AV) {h : Hp} {d mc ms : Nat} {R : PR} (H : Wp m_M_ownAlias 2 [some (xR r0), some (xI i1), some (xI i2), some (xI (0 : Int))] [] h d mc ms R) : Wp m_M_ownAlias 0 [some (xR r0), some (xI i1), some (xI i2), o3] [] h d mc ms R := Wp_blk ok_M_ownAlias_0 H
def k_M_ownAlias_2 : List AI := [(.iload 3, []), (.aload 0, []), (.getfield 0, [12, 0, 2, 1225]), (.iconst 8, []), (.iaload, [20]), (.if_icmp .ge 0, [68]), (.aload 0, []), (.getfield 0, [12, 0, 2, 1225]), (.iconst 950, []), (.iload 3, []), (.iadd, []), (.iaload, [20]), (.iload 1, []), (.if_icmp .ne 0, [62]), (.aload 0, []), (.iload 3, []), (.invokevirtual 0, [228, 1, 2, 0, 0, 1, 12, 1568, 1570, 88, 136]), (.ifCond .eq 0, [62]), (.aload 0, []), (.getfield 0, [12, 0, 2, 1225]), (.iconst 650, []), (.iconst 10, []), (.iload 3, []), (.imul, []), (.iadd, []), (.iconst 60, []), (.iconst 10, []), (.iload 2, []), (.imul, []), (.iadd, []), (.invokestatic 0, [281, 3, 4, 0, 0, 1, 1780, 1781, 136]), (.ifCond .eq 0, [62]), (.iload 3, []), (.ireturn, [1])]
set_option maxRecDepth 20000 in
theorem ok_M_ownAlias_2 : okB m_M_ownAlias 2 k_M_ownAlias_2 = true := by decide +kernel
set_option maxRecDepth 20000 in
theorem b_M_ownAlias_2 (r0 : Nat) (i1 : Int) (i2 : Int) (i3 : Int) {h : Hp} {d mc ms : Nat} {R : PR} (H : ((hpT h r0).1 = 12 ∧ (((hpT h (Int.toNat (hpC h r0 0))).1 = 20 ∧ 0 ≤ (8 : Int) ∧ (8 : Int) < ((hpT h (Int.toNat (hpC h r0 0))).2 : Int)) ∧ (if i3 < (hpC h (Int.toNat (hpC h r0 0)) (Int.toNat (8 : Int))) then ((hpT h r0).1 = 12 ∧ (((hpT h (Int.toNat (hpC h r0 0))).1 = 20 ∧ 0 ≤ (ai_add (950 : Int) i3) ∧ (ai_add (950 : Int) i3) < ((hpT h (Int.toNat (hpC h r0 0))).2 : Int)) ∧ (if (hpC h (Int.toNat (hpC h r0 0)) (Int.toNat (ai_add (950 : Int) i3))) = i1 then ((1 ≤ d ∧ 0 ≤ mc ∧ 0 ≤ ms ∧ (hpT h r0).1 = 12) ∧ ∃ Q1 : PR, Wp m_M_isLive 0 [some (xR r0), some (xI i3)] [] h (d - 1) 0 0 Q1 ∧ ∀ (v1 : Int) (h1 : Hp), Q1 (some (xI v1)) h1 → (if v1 = (0 : Int) then Wp m_M_ownAlias 62 [some (xR r0), some (xI i1), some (xI i2), some (xI i3)] [] h1 d mc ms R else ((hpT h1 r0).1 = 12 ∧ ((1 ≤ d ∧ 0 ≤ mc ∧ 0 ≤ ms) ∧ ∃ Q2 : PR, Wp m_M_areSame 0 [some (xR (Int.toNat (hpC h1 r0 0))), some (xI (ai_add (650 : Int) (ai_mul (10 : Int) i3))), some (xI (ai_add (60 : Int) (ai_mul (10 : Int) i2))), none] [] h1 (d - 1) 0 0 Q2 ∧ ∀ (v2 : Int) (h2 : Hp), Q2 (some (xI v2)) h2 → (if v2 = (0 : Int) then Wp m_M_ownAlias 62 [some (xR r0), some (xI i1), some (xI i2), some (xI i3)] [] h2 d mc ms R else R (some (xI i3)) h2))))) else Wp m_M_ownAlias 62 [some (xR r0), some (xI i1), some (xI i2), some (xI i3)] [] h d mc ms R))) else Wp m_M_ownAlias 68 [some (xR r0), some (xI i1), some (xI i2), some (xI i3)] [] h d mc ms R)))) : Wp m_M_ownAlias 2 [some (xR r0), some (xI i1), some (xI i2), some (xI i3)] [] h d mc ms R := Wp_blk ok_M_ownAlias_2 H
def k_M_ownAlias_62 : List AI := [(.iinc 3 1, []), (.goto 0, []), (.nop, [2])]
set_option maxRecDepth 20000 in
theorem ok_M_ownAlias_62 : okB m_M_ownAlias 62 k_M_ownAlias_62 = true := by decide +kernel
set_option maxRecDepth 20000 in
theorem b_M_ownAlias_62 (r0 : Nat) (i1 : Int) (i2 : Int) (i3 : Int) {h : Hp} {d mc ms : Nat} {R : PR} (H : Wp m_M_ownAlias 2 [some (xR r0), some (xI i1), some (xI i2), some (xI (ai_add i3 1))] [] h d mc ms R) : Wp m_M_ownAlias 62 [some (xR r0), some (xI i1), some (xI i2), some (xI i3)] [] h d mc ms R := Wp_blk ok_M_ownAlias_62 H
def k_M_ownAlias_68 : List AI := [(.iconst (-1), []), (.ireturn, [1])]
set_option maxRecDepth 20000 in
theorem ok_M_ownAlias_68 : okB m_M_ownAlias 68 k_M_ownAlias_68 = true := by decide +kernel
set_option maxRecDepth 20000 in
theorem b_M_ownAlias_68 (o0 : Option AV) (o1 : Option AV) (o2 : Option AV) (o3 : Option AV) {h : Hp} {d mc ms : Nat} {R : PR} (H : R (some (xI (-1 : Int))) h) : Wp m_M_ownAlias 68 [o0, o1, o2, o3] [] h d mc ms R := Wp_blk ok_M_ownAlias_68 H
def k_M_areSame_0 : List AI := [(.iconst 0, []), (.istore 3, []), (.nop, [2])]
set_option maxRecDepth 20000 in
theorem ok_M_areSame_0 : okB m_M_areSame 0 k_M_areSame_0 = true := by decide +kernel
set_option maxRecDepth 20000 in
theorem b_M_areSame_0 (r0 : Nat) (i1 : Int) (i2 : Int) (o3 : Option AV) {h : Hp} {d mc ms : Nat} {R : PR} (H : Wp m_M_areSame 2 [some (xR r0), some (xI i1), some (xI i2), some (xI (0 : Int))] [] h d mc ms R) : Wp m_M_areSame 0 [some (xR r0), some (xI i1), some (xI i2), o3] [] h d mc ms R := Wp_blk ok_M_areSame_0 H
def k_M_areSame_2 : List AI := [(.iload 3, []), (.iconst 10, []), (.if_icmp .ge 0, [29]), (.aload 0, []), (.iload 1, []), (.iload 3, []), (.iadd, []), (.iaload, [20]), (.aload 0, []), (.iload 2, []), (.iload 3, []), (.iadd, []), (.iaload, [20]), (.if_icmp .eq 0, [23]), (.iconst 0, []), (.ireturn, [3])]
set_option maxRecDepth 20000 in
theorem ok_M_areSame_2 : okB m_M_areSame 2 k_M_areSame_2 = true := by decide +kernel
set_option maxRecDepth 20000 in
theorem b_M_areSame_2 (r0 : Nat) (i1 : Int) (i2 : Int) (i3 : Int) {h : Hp} {d mc ms : Nat} {R : PR} (H : (if i3 < (10 : Int) then (((hpT h r0).1 = 20 ∧ 0 ≤ (ai_add i1 i3) ∧ (ai_add i1 i3) < ((hpT h r0).2 : Int)) ∧ (((hpT h r0).1 = 20 ∧ 0 ≤ (ai_add i2 i3) ∧ (ai_add i2 i3) < ((hpT h r0).2 : Int)) ∧ (if (hpC h r0 (Int.toNat (ai_add i1 i3))) = (hpC h r0 (Int.toNat (ai_add i2 i3))) then Wp m_M_areSame 23 [some (xR r0), some (xI i1), some (xI i2), some (xI i3)] [] h d mc ms R else (((0 : Int) = 0 ∨ (0 : Int) = 1) ∧ R (some (xI (0 : Int))) h)))) else Wp m_M_areSame 29 [some (xR r0), some (xI i1), some (xI i2), some (xI i3)] [] h d mc ms R)) : Wp m_M_areSame 2 [some (xR r0), some (xI i1), some (xI i2), some (xI i3)] [] h d mc ms R := Wp_blk ok_M_areSame_2 H
def k_M_areSame_23 : List AI := [(.iinc 3 1, []), (.goto 0, []), (.nop, [2])]
set_option maxRecDepth 20000 in
theorem ok_M_areSame_23 : okB m_M_areSame 23 k_M_areSame_23 = true := by decide +kernel
set_option maxRecDepth 20000 in
theorem b_M_areSame_23 (r0 : Nat) (i1 : Int) (i2 : Int) (i3 : Int) {h : Hp} {d mc ms : Nat} {R : PR} (H : Wp m_M_areSame 2 [some (xR r0), some (xI i1), some (xI i2), some (xI (ai_add i3 1))] [] h d mc ms R) : Wp m_M_areSame 23 [some (xR r0), some (xI i1), some (xI i2), some (xI i3)] [] h d mc ms R := Wp_blk ok_M_areSame_23 H
def k_M_areSame_29 : List AI := [(.iconst 1, []), (.ireturn, [3])]
set_option maxRecDepth 20000 in
theorem ok_M_areSame_29 : okB m_M_areSame 29 k_M_areSame_29 = true := by decide +kernel
set_option maxRecDepth 20000 in
theorem b_M_areSame_29 (o0 : Option AV) (o1 : Option AV) (o2 : Option AV) (o3 : Option AV) {h : Hp} {d mc ms : Nat} {R : PR} (H : (((1 : Int) = 0 ∨ (1 : Int) = 1) ∧ R (some (xI (1 : Int))) h)) : Wp m_M_areSame 29 [o0, o1, o2, o3] [] h d mc ms R := Wp_blk ok_M_areSame_29 H
def k_M_dropsAlias_0 : List AI := [(.iload 1, []), (.istore 2, []), (.nop, [2])]
set_option maxRecDepth 20000 in
theorem ok_M_dropsAlias_0 : okB m_M_dropsAlias 0 k_M_dropsAlias_0 = true := by decide +kernel
set_option maxRecDepth 20000 in
theorem b_M_dropsAlias_0 (r0 : Nat) (i1 : Int) (o2 : Option AV) (o3 : Option AV) {h : Hp} {d mc ms : Nat} {R : PR} (H : Wp m_M_dropsAlias 2 [some (xR r0), some (xI i1), some (xI i1), o3] [] h d mc ms R) : Wp m_M_dropsAlias 0 [some (xR r0), some (xI i1), o2, o3] [] h d mc ms R := Wp_blk ok_M_dropsAlias_0 H
def k_M_dropsAlias_2 : List AI := [(.iload 2, []), (.iconst 1, []), (.iadd, []), (.aload 0, []), (.getfield 0, [12, 0, 2, 1225]), (.iconst 8, []), (.iaload, [20]), (.if_icmp .ge 0, [111]), (.iconst 0, []), (.istore 3, []), (.nop, [17])]
set_option maxRecDepth 20000 in
theorem ok_M_dropsAlias_2 : okB m_M_dropsAlias 2 k_M_dropsAlias_2 = true := by decide +kernel
set_option maxRecDepth 20000 in
theorem b_M_dropsAlias_2 (r0 : Nat) (o1 : Option AV) (i2 : Int) (o3 : Option AV) {h : Hp} {d mc ms : Nat} {R : PR} (H : ((hpT h r0).1 = 12 ∧ (((hpT h (Int.toNat (hpC h r0 0))).1 = 20 ∧ 0 ≤ (8 : Int) ∧ (8 : Int) < ((hpT h (Int.toNat (hpC h r0 0))).2 : Int)) ∧ (if (ai_add i2 (1 : Int)) < (hpC h (Int.toNat (hpC h r0 0)) (Int.toNat (8 : Int))) then Wp m_M_dropsAlias 17 [some (xR r0), o1, some (xI i2), some (xI (0 : Int))] [] h d mc ms R else Wp m_M_dropsAlias 111 [some (xR r0), o1, some (xI i2), o3] [] h d mc ms R)))) : Wp m_M_dropsAlias 2 [some (xR r0), o1, some (xI i2), o3] [] h d mc ms R := Wp_blk ok_M_dropsAlias_2 H
def k_M_dropsAlias_17 : List AI := [(.iload 3, []), (.iconst 10, []), (.if_icmp .ge 0, [61]), (.aload 0, []), (.getfield 0, [12, 0, 2, 1225]), (.iconst 650, []), (.iconst 10, []), (.iload 2, []), (.imul, []), (.iadd, []), (.iload 3, []), (.iadd, []), (.aload 0, []), (.getfield 0, [12, 0, 2, 1225]), (.iconst 650, []), (.iconst 10, []), (.iload 2, []), (.iconst 1, []), (.iadd, []), (.imul, []), (.iadd, []), (.iload 3, []), (.iadd, []), (.iaload, [20]), (.iastore, []), (.iinc 3 1, []), (.goto 0, []), (.nop, [17])]
set_option maxRecDepth 20000 in
theorem ok_M_dropsAlias_17 : okB m_M_dropsAlias 17 k_M_dropsAlias_17 = true := by decide +kernel
set_option maxRecDepth 20000 in
theorem b_M_dropsAlias_17 (r0 : Nat) (o1 : Option AV) (i2 : Int) (i3 : Int) {h : Hp} {d mc ms : Nat} {R : PR} (H : (if i3 < (10 : Int) then ((hpT h r0).1 = 12 ∧ ((hpT h r0).1 = 12 ∧ (((hpT h (Int.toNat (hpC h r0 0))).1 = 20 ∧ 0 ≤ (ai_add (ai_add (650 : Int) (ai_mul (10 : Int) (ai_add i2 (1 : Int)))) i3) ∧ (ai_add (ai_add (650 : Int) (ai_mul (10 : Int) (ai_add i2 (1 : Int)))) i3) < ((hpT h (Int.toNat (hpC h r0 0))).2 : Int)) ∧ (((hpT h (Int.toNat (hpC h r0 0))).1 = 20 ∧ 0 ≤ (ai_add (ai_add (650 : Int) (ai_mul (10 : Int) i2)) i3) ∧ (ai_add (ai_add (650 : Int) (ai_mul (10 : Int) i2)) i3) < ((hpT h (Int.toNat (hpC h r0 0))).2 : Int)) ∧ ∀ g1 : Hp, g1 = hpU h (Int.toNat (hpC h r0 0)) (Int.toNat (ai_add (ai_add (650 : Int) (ai_mul (10 : Int) i2)) i3)) (hpC h (Int.toNat (hpC h r0 0)) (Int.toNat (ai_add (ai_add (650 : Int) (ai_mul (10 : Int) (ai_add i2 (1 : Int)))) i3))) → Wp m_M_dropsAlias 17 [some (xR r0), o1, some (xI i2), some (xI (ai_add i3 1))] [] g1 d mc ms R)))) else Wp m_M_dropsAlias 61 [some (xR r0), o1, some (xI i2), some (xI i3)] [] h d mc ms R)) : Wp m_M_dropsAlias 17 [some (xR r0), o1, some (xI i2), some (xI i3)] [] h d mc ms R := Wp_blk ok_M_dropsAlias_17 H
def k_M_dropsAlias_61 : List AI := [(.aload 0, []), (.getfield 0, [12, 0, 2, 1225]), (.iconst 950, []), (.iload 2, []), (.iadd, []), (.aload 0, []), (.getfield 0, [12, 0, 2, 1225]), (.iconst 950, []), (.iload 2, []), (.iadd, []), (.iconst 1, []), (.iadd, []), (.iaload, [20]), (.iastore, []), (.aload 0, []), (.getfield 0, [12, 0, 2, 1225]), (.iconst 980, []), (.iload 2, []), (.iadd, []), (.aload 0, []), (.getfield 0, [12, 0, 2, 1225]), (.iconst 980, []), (.iload 2, []), (.iadd, []), (.iconst 1, []), (.iadd, []), (.iaload, [20]), (.iastore, []), (.iinc 2 1, []), (.goto 0, []), (.nop, [2])]
set_option maxRecDepth 20000 in
theorem ok_M_dropsAlias_61 : okB m_M_dropsAlias 61 k_M_dropsAlias_61 = true := by decide +kernel
set_option maxRecDepth 20000 in
theorem b_M_dropsAlias_61 (r0 : Nat) (o1 : Option AV) (i2 : Int) (o3 : Option AV) {h : Hp} {d mc ms : Nat} {R : PR} (H : ((hpT h r0).1 = 12 ∧ ((hpT h r0).1 = 12 ∧ (((hpT h (Int.toNat (hpC h r0 0))).1 = 20 ∧ 0 ≤ (ai_add (ai_add (950 : Int) i2) (1 : Int)) ∧ (ai_add (ai_add (950 : Int) i2) (1 : Int)) < ((hpT h (Int.toNat (hpC h r0 0))).2 : Int)) ∧ (((hpT h (Int.toNat (hpC h r0 0))).1 = 20 ∧ 0 ≤ (ai_add (950 : Int) i2) ∧ (ai_add (950 : Int) i2) < ((hpT h (Int.toNat (hpC h r0 0))).2 : Int)) ∧ ∀ g1 : Hp, g1 = hpU h (Int.toNat (hpC h r0 0)) (Int.toNat (ai_add (950 : Int) i2)) (hpC h (Int.toNat (hpC h r0 0)) (Int.toNat (ai_add (ai_add (950 : Int) i2) (1 : Int)))) → ((hpT g1 r0).1 = 12 ∧ ((hpT g1 r0).1 = 12 ∧ (((hpT g1 (Int.toNat (hpC g1 r0 0))).1 = 20 ∧ 0 ≤ (ai_add (ai_add (980 : Int) i2) (1 : Int)) ∧ (ai_add (ai_add (980 : Int) i2) (1 : Int)) < ((hpT g1 (Int.toNat (hpC g1 r0 0))).2 : Int)) ∧ (((hpT g1 (Int.toNat (hpC g1 r0 0))).1 = 20 ∧ 0 ≤ (ai_add (980 : Int) i2) ∧ (ai_add (980 : Int) i2) < ((hpT g1 (Int.toNat (hpC g1 r0 0))).2 : Int)) ∧ ∀ g2 : Hp, g2 = hpU g1 (Int.toNat (hpC g1 r0 0)) (Int.toNat (ai_add (980 : Int) i2)) (hpC g1 (Int.toNat (hpC g1 r0 0)) (Int.toNat (ai_add (ai_add (980 : Int) i2) (1 : Int)))) → Wp m_M_dropsAlias 2 [some (xR r0), x_d2 o1, some (xI (ai_add i2 1)), o3] [] g2 d mc ms R))))))))) : Wp m_M_dropsAlias 61 [some (xR r0), o1, some (xI i2), o3] [] h d mc ms R := Wp_blk ok_M_dropsAlias_61 H
def k_M_dropsAlias_111 : List AI := [(.aload 0, []), (.getfield 0, [12, 0, 2, 1225]), (.iconst 8, []), (.dup2, []), (.iaload, [20]), (.iconst 1, []), (.isub, []), (.iastore, []), (.return_, [])]
set_option maxRecDepth 20000 in
theorem ok_M_dropsAlias_111 : okB m_M_dropsAlias 111 k_M_dropsAlias_111 = true := by decide +kernel
set_option maxRecDepth 20000 in
theorem b_M_dropsAlias_111 (r0 : Nat) (o1 : Option AV) (o2 : Option AV) (o3 : Option AV) {h : Hp} {d mc ms : Nat} {R : PR} (H : ((hpT h r0).1 = 12 ∧ (((hpT h (Int.toNat (hpC h r0 0))).1 = 20 ∧ 0 ≤ (8 : Int) ∧ (8 : Int) < ((hpT h (Int.toNat (hpC h r0 0))).2 : Int)) ∧ (((hpT h (Int.toNat (hpC h r0 0))).1 = 20 ∧ 0 ≤ (8 : Int) ∧ (8 : Int) < ((hpT h (Int.toNat (hpC h r0 0))).2 : Int)) ∧ ∀ g1 : Hp, g1 = hpU h (Int.toNat (hpC h r0 0)) (Int.toNat (8 : Int)) (ai_sub (hpC h (Int.toNat (hpC h r0 0)) (Int.toNat (8 : Int))) (1 : Int)) → R none g1)))) : Wp m_M_dropsAlias 111 [some (xR r0), o1, o2, o3] [] h d mc ms R := Wp_blk ok_M_dropsAlias_111 H
def k_M_carry_0 : List AI := [(.aload 0, []), (.invokevirtual 0, [250, 0, 5, 0, 0, 1, 12, 1656, 1658, 98, 136]), (.ifCond .ne 0, [13]), (.aload 0, []), (.iconst 2, []), (.invokevirtual 0, [168, 1, 2, 0, 0, 1, 12, 1333, 1335, 42, 136]), (.ireturn, [1])]
set_option maxRecDepth 20000 in
theorem ok_M_carry_0 : okB m_M_carry 0 k_M_carry_0 = true := by decide +kernel
set_option maxRecDepth 20000 in
theorem b_M_carry_0 (r0 : Nat) (o1 : Option AV) (o2 : Option AV) {h : Hp} {d mc ms : Nat} {R : PR} (H : ((1 ≤ d ∧ 0 ≤ mc ∧ 0 ≤ ms ∧ (hpT h r0).1 = 12) ∧ ∃ Q1 : PR, Wp m_M_plans 0 [some (xR r0), none, none, none, none] [] h (d - 1) 0 0 Q1 ∧ ∀ (v1 : Int) (h1 : Hp), Q1 (some (xI v1)) h1 → (if v1 = (0 : Int) then ((1 ≤ d ∧ 0 ≤ mc ∧ 0 ≤ ms ∧ (hpT h1 r0).1 = 12) ∧ ∃ Q2 : PR, Wp m_M_refuses 0 [some (xR r0), some (xI (2 : Int))] [] h1 (d - 1) 0 0 Q2 ∧ ∀ (v2 : Int) (h2 : Hp), Q2 (some (xI v2)) h2 → R (some (xI v2)) h2) else Wp m_M_carry 13 [some (xR r0), o1, o2] [] h1 d mc ms R))) : Wp m_M_carry 0 [some (xR r0), o1, o2] [] h d mc ms R := Wp_blk ok_M_carry_0 H
def k_M_carry_13 : List AI := [(.aload 0, []), (.getfield 0, [12, 0, 2, 1225]), (.iconst 8, []), (.iaload, [20]), (.istore 1, []), (.iconst 0, []), (.istore 2, []), (.nop, [23])]
set_option maxRecDepth 20000 in
theorem ok_M_carry_13 : okB m_M_carry 13 k_M_carry_13 = true := by decide +kernel
set_option maxRecDepth 20000 in
theorem b_M_carry_13 (r0 : Nat) (o1 : Option AV) (o2 : Option AV) {h : Hp} {d mc ms : Nat} {R : PR} (H : ((hpT h r0).1 = 12 ∧ (((hpT h (Int.toNat (hpC h r0 0))).1 = 20 ∧ 0 ≤ (8 : Int) ∧ (8 : Int) < ((hpT h (Int.toNat (hpC h r0 0))).2 : Int)) ∧ Wp m_M_carry 23 [some (xR r0), some (xI (hpC h (Int.toNat (hpC h r0 0)) (Int.toNat (8 : Int)))), some (xI (0 : Int))] [] h d mc ms R))) : Wp m_M_carry 13 [some (xR r0), o1, o2] [] h d mc ms R := Wp_blk ok_M_carry_13 H
def k_M_carry_23 : List AI := [(.iload 2, []), (.aload 0, []), (.getfield 0, [12, 0, 2, 1225]), (.iconst 7, []), (.iaload, [20]), (.if_icmp .ge 0, [75]), (.aload 0, []), (.getfield 0, [12, 28, 0, 1253]), (.iload 2, []), (.ishr, []), (.iconst 1, []), (.iand, []), (.iconst 1, []), (.if_icmp .ne 0, [69]), (.iload 1, []), (.aload 0, []), (.iload 2, []), (.aload 0, []), (.getfield 0, [12, 27, 2, 1252]), (.iload 2, []), (.iaload, [20]), (.invokevirtual 0, [280, 2, 4, 0, 0, 1, 12, 1776, 1778, 117, 136]), (.iconst (-1), []), (.if_icmp .ne 0, [66]), (.iconst 1, []), (.goto 0, []), (.nop, [67])]
set_option maxRecDepth 20000 in
theorem ok_M_carry_23 : okB m_M_carry 23 k_M_carry_23 = true := by decide +kernel
set_option maxRecDepth 20000 in
theorem b_M_carry_23 (r0 : Nat) (i1 : Int) (i2 : Int) {h : Hp} {d mc ms : Nat} {R : PR} (H : ((hpT h r0).1 = 12 ∧ (((hpT h (Int.toNat (hpC h r0 0))).1 = 20 ∧ 0 ≤ (7 : Int) ∧ (7 : Int) < ((hpT h (Int.toNat (hpC h r0 0))).2 : Int)) ∧ (if i2 < (hpC h (Int.toNat (hpC h r0 0)) (Int.toNat (7 : Int))) then ((hpT h r0).1 = 12 ∧ (if (ai_and (ai_shr (hpC h r0 28) i2) (1 : Int)) = (1 : Int) then ((hpT h r0).1 = 12 ∧ (((hpT h (Int.toNat (hpC h r0 27))).1 = 20 ∧ 0 ≤ i2 ∧ i2 < ((hpT h (Int.toNat (hpC h r0 27))).2 : Int)) ∧ ((1 ≤ d ∧ 0 ≤ mc ∧ 0 ≤ ms ∧ (hpT h r0).1 = 12) ∧ ∃ Q1 : PR, Wp m_M_ownAlias 0 [some (xR r0), some (xI i2), some (xI (hpC h (Int.toNat (hpC h r0 27)) (Int.toNat i2))), none] [] h (d - 1) 0 0 Q1 ∧ ∀ (v1 : Int) (h1 : Hp), Q1 (some (xI v1)) h1 → (if v1 = (-1 : Int) then Wp m_M_carry 67 [some (xR r0), some (xI i1), some (xI i2)] [xI (1 : Int), xI i1] h1 d mc ms R else Wp m_M_carry 66 [some (xR r0), some (xI i1), some (xI i2)] [xI i1] h1 d mc ms R)))) else Wp m_M_carry 69 [some (xR r0), some (xI i1), some (xI i2)] [] h d mc ms R)) else Wp m_M_carry 75 [some (xR r0), some (xI i1), some (xI i2)] [] h d mc ms R)))) : Wp m_M_carry 23 [some (xR r0), some (xI i1), some (xI i2)] [] h d mc ms R := Wp_blk ok_M_carry_23 H
def k_M_carry_66 : List AI := [(.iconst 0, []), (.nop, [67])]
set_option maxRecDepth 20000 in
theorem ok_M_carry_66 : okB m_M_carry 66 k_M_carry_66 = true := by decide +kernel
set_option maxRecDepth 20000 in
theorem b_M_carry_66 (r0 : Nat) (o1 : Option AV) (i2 : Int) (p0 : Int) {h : Hp} {d mc ms : Nat} {R : PR} (H : Wp m_M_carry 67 [some (xR r0), o1, some (xI i2)] [xI (0 : Int), xI p0] h d mc ms R) : Wp m_M_carry 66 [some (xR r0), o1, some (xI i2)] [xI p0] h d mc ms R := Wp_blk ok_M_carry_66 H
def k_M_carry_67 : List AI := [(.iadd, []), (.istore 1, []), (.nop, [69])]
set_option maxRecDepth 20000 in
theorem ok_M_carry_67 : okB m_M_carry 67 k_M_carry_67 = true := by decide +kernel
set_option maxRecDepth 20000 in
theorem b_M_carry_67 (r0 : Nat) (o1 : Option AV) (i2 : Int) (p0 : Int) (p1 : Int) {h : Hp} {d mc ms : Nat} {R : PR} (H : Wp m_M_carry 69 [some (xR r0), some (xI (ai_add p0 p1)), some (xI i2)] [] h d mc ms R) : Wp m_M_carry 67 [some (xR r0), o1, some (xI i2)] [xI p1, xI p0] h d mc ms R := Wp_blk ok_M_carry_67 H
def k_M_carry_69 : List AI := [(.iinc 2 1, []), (.goto 0, []), (.nop, [23])]
set_option maxRecDepth 20000 in
theorem ok_M_carry_69 : okB m_M_carry 69 k_M_carry_69 = true := by decide +kernel
set_option maxRecDepth 20000 in
theorem b_M_carry_69 (r0 : Nat) (i1 : Int) (i2 : Int) {h : Hp} {d mc ms : Nat} {R : PR} (H : Wp m_M_carry 23 [some (xR r0), some (xI i1), some (xI (ai_add i2 1))] [] h d mc ms R) : Wp m_M_carry 69 [some (xR r0), some (xI i1), some (xI i2)] [] h d mc ms R := Wp_blk ok_M_carry_69 H
def k_M_carry_75 : List AI := [(.iload 1, []), (.iconst 30, []), (.if_icmp .le 0, [87]), (.aload 0, []), (.iconst 2, []), (.invokevirtual 0, [168, 1, 2, 0, 0, 1, 12, 1333, 1335, 42, 136]), (.ireturn, [1])]
set_option maxRecDepth 20000 in
theorem ok_M_carry_75 : okB m_M_carry 75 k_M_carry_75 = true := by decide +kernel
set_option maxRecDepth 20000 in
theorem b_M_carry_75 (r0 : Nat) (i1 : Int) (o2 : Option AV) {h : Hp} {d mc ms : Nat} {R : PR} (H : (if (30 : Int) < i1 then ((1 ≤ d ∧ 0 ≤ mc ∧ 0 ≤ ms ∧ (hpT h r0).1 = 12) ∧ ∃ Q1 : PR, Wp m_M_refuses 0 [some (xR r0), some (xI (2 : Int))] [] h (d - 1) 0 0 Q1 ∧ ∀ (v1 : Int) (h1 : Hp), Q1 (some (xI v1)) h1 → R (some (xI v1)) h1) else Wp m_M_carry 87 [some (xR r0), some (xI i1), o2] [] h d mc ms R)) : Wp m_M_carry 75 [some (xR r0), some (xI i1), o2] [] h d mc ms R := Wp_blk ok_M_carry_75 H
def k_M_carry_87 : List AI := [(.aload 0, []), (.invokevirtual 0, [278, 0, 2, 0, 0, 0, 12, 1768, 1770, 115, 136]), (.iconst 0, []), (.istore 2, []), (.nop, [93])]
set_option maxRecDepth 20000 in
theorem ok_M_carry_87 : okB m_M_carry 87 k_M_carry_87 = true := by decide +kernel
set_option maxRecDepth 20000 in
theorem b_M_carry_87 (r0 : Nat) (o1 : Option AV) (o2 : Option AV) {h : Hp} {d mc ms : Nat} {R : PR} (H : ((1 ≤ d ∧ 0 ≤ mc ∧ 0 ≤ ms ∧ (hpT h r0).1 = 12) ∧ ∃ Q1 : PR, Wp m_M_keeps 0 [some (xR r0), none] [] h (d - 1) 0 0 Q1 ∧ ∀ (h1 : Hp), Q1 none h1 → Wp m_M_carry 93 [some (xR r0), x_d2 o1, some (xI (0 : Int))] [] h1 d mc ms R)) : Wp m_M_carry 87 [some (xR r0), o1, o2] [] h d mc ms R := Wp_blk ok_M_carry_87 H
def k_M_carry_93 : List AI := [(.iload 2, []), (.aload 0, []), (.getfield 0, [12, 0, 2, 1225]), (.iconst 7, []), (.iaload, [20]), (.if_icmp .ge 0, [133]), (.aload 0, []), (.getfield 0, [12, 28, 0, 1253]), (.iload 2, []), (.ishr, []), (.iconst 1, []), (.iand, []), (.iconst 1, []), (.if_icmp .ne 0, [127]), (.aload 0, []), (.iload 2, []), (.aload 0, []), (.getfield 0, [12, 27, 2, 1252]), (.iload 2, []), (.iaload, [20]), (.invokevirtual 0, [279, 2, 6, 0, 0, 0, 12, 1772, 1774, 116, 136]), (.nop, [127])]
set_option maxRecDepth 20000 in
theorem ok_M_carry_93 : okB m_M_carry 93 k_M_carry_93 = true := by decide +kernel
set_option maxRecDepth 20000 in
theorem b_M_carry_93 (r0 : Nat) (o1 : Option AV) (i2 : Int) {h : Hp} {d mc ms : Nat} {R : PR} (H : ((hpT h r0).1 = 12 ∧ (((hpT h (Int.toNat (hpC h r0 0))).1 = 20 ∧ 0 ≤ (7 : Int) ∧ (7 : Int) < ((hpT h (Int.toNat (hpC h r0 0))).2 : Int)) ∧ (if i2 < (hpC h (Int.toNat (hpC h r0 0)) (Int.toNat (7 : Int))) then ((hpT h r0).1 = 12 ∧ (if (ai_and (ai_shr (hpC h r0 28) i2) (1 : Int)) = (1 : Int) then ((hpT h r0).1 = 12 ∧ (((hpT h (Int.toNat (hpC h r0 27))).1 = 20 ∧ 0 ≤ i2 ∧ i2 < ((hpT h (Int.toNat (hpC h r0 27))).2 : Int)) ∧ ((1 ≤ d ∧ 0 ≤ mc ∧ 0 ≤ ms ∧ (hpT h r0).1 = 12) ∧ ∃ Q1 : PR, Wp m_M_renames 0 [some (xR r0), some (xI i2), some (xI (hpC h (Int.toNat (hpC h r0 27)) (Int.toNat i2))), none, none, none] [] h (d - 1) 0 0 Q1 ∧ ∀ (h1 : Hp), Q1 none h1 → Wp m_M_carry 127 [some (xR r0), o1, some (xI i2)] [] h1 d mc ms R))) else Wp m_M_carry 127 [some (xR r0), o1, some (xI i2)] [] h d mc ms R)) else Wp m_M_carry 133 [some (xR r0), o1, some (xI i2)] [] h d mc ms R)))) : Wp m_M_carry 93 [some (xR r0), o1, some (xI i2)] [] h d mc ms R := Wp_blk ok_M_carry_93 H
def k_M_carry_127 : List AI := [(.iinc 2 1, []), (.goto 0, []), (.nop, [93])]
set_option maxRecDepth 20000 in
theorem ok_M_carry_127 : okB m_M_carry 127 k_M_carry_127 = true := by decide +kernel
set_option maxRecDepth 20000 in
theorem b_M_carry_127 (r0 : Nat) (o1 : Option AV) (i2 : Int) {h : Hp} {d mc ms : Nat} {R : PR} (H : Wp m_M_carry 93 [some (xR r0), x_d2 o1, some (xI (ai_add i2 1))] [] h d mc ms R) : Wp m_M_carry 127 [some (xR r0), o1, some (xI i2)] [] h d mc ms R := Wp_blk ok_M_carry_127 H
def k_M_carry_133 : List AI := [(.aload 0, []), (.getfield 0, [12, 28, 0, 1253]), (.invokestatic 0, [212, 1, 3, 0, 0, 1, 1507, 1508, 136]), (.ireturn, [1])]
set_option maxRecDepth 20000 in
theorem ok_M_carry_133 : okB m_M_carry 133 k_M_carry_133 = true := by decide +kernel
set_option maxRecDepth 20000 in
theorem b_M_carry_133 (r0 : Nat) (o1 : Option AV) (o2 : Option AV) {h : Hp} {d mc ms : Nat} {R : PR} (H : ((hpT h r0).1 = 12 ∧ ((1 ≤ d ∧ 0 ≤ mc ∧ 0 ≤ ms) ∧ ∃ Q1 : PR, Wp m_M_bits 0 [some (xI (hpC h r0 28)), none, none] [] h (d - 1) 0 0 Q1 ∧ ∀ (v1 : Int) (h1 : Hp), Q1 (some (xI v1)) h1 → R (some (xI v1)) h1))) : Wp m_M_carry 133 [some (xR r0), o1, o2] [] h d mc ms R := Wp_blk ok_M_carry_133 H
def k_M_renumber_0 : List AI := [(.aload 0, []), (.iload 1, []), (.invokevirtual 0, [215, 1, 2, 0, 0, 1, 12, 1518, 1520, 81, 136]), (.ifCond .eq 0, [16]), (.aload 0, []), (.iload 1, []), (.invokevirtual 0, [267, 1, 6, 0, 0, 1, 12, 1724, 1726, 109, 136]), (.goto 0, []), (.nop, [17])]
set_option maxRecDepth 20000 in
theorem ok_M_renumber_0 : okB m_M_renumber 0 k_M_renumber_0 = true := by decide +kernel
set_option maxRecDepth 20000 in
theorem b_M_renumber_0 (r0 : Nat) (i1 : Int) (o2 : Option AV) (o3 : Option AV) {h : Hp} {d mc ms : Nat} {R : PR} (H : ((1 ≤ d ∧ 0 ≤ mc ∧ 0 ≤ ms ∧ (hpT h r0).1 = 12) ∧ ∃ Q1 : PR, Wp m_M_isStreet 0 [some (xR r0), some (xI i1)] [] h (d - 1) 0 0 Q1 ∧ ∀ (v1 : Int) (h1 : Hp), Q1 (some (xI v1)) h1 → (if v1 = (0 : Int) then Wp m_M_renumber 16 [some (xR r0), some (xI i1), o2, o3] [] h1 d mc ms R else ((1 ≤ d ∧ 0 ≤ mc ∧ 0 ≤ ms ∧ (hpT h1 r0).1 = 12) ∧ ∃ Q2 : PR, Wp m_M_laysThen 0 [some (xR r0), some (xI i1), none, none, none, none] [] h1 (d - 1) 0 0 Q2 ∧ ∀ (v2 : Int) (h2 : Hp), Q2 (some (xI v2)) h2 → Wp m_M_renumber 17 [some (xR r0), some (xI i1), o2, o3] [xI v2] h2 d mc ms R)))) : Wp m_M_renumber 0 [some (xR r0), some (xI i1), o2, o3] [] h d mc ms R := Wp_blk ok_M_renumber_0 H
def k_M_renumber_16 : List AI := [(.iconst (-1), []), (.nop, [17])]
set_option maxRecDepth 20000 in
theorem ok_M_renumber_16 : okB m_M_renumber 16 k_M_renumber_16 = true := by decide +kernel
set_option maxRecDepth 20000 in
theorem b_M_renumber_16 (r0 : Nat) (i1 : Int) (o2 : Option AV) (o3 : Option AV) {h : Hp} {d mc ms : Nat} {R : PR} (H : Wp m_M_renumber 17 [some (xR r0), some (xI i1), o2, o3] [xI (-1 : Int)] h d mc ms R) : Wp m_M_renumber 16 [some (xR r0), some (xI i1), o2, o3] [] h d mc ms R := Wp_blk ok_M_renumber_16 H
def k_M_renumber_17 : List AI := [(.istore 2, []), (.iload 2, []), (.iconst (-1), []), (.if_icmp .ne 0, [29]), (.aload 0, []), (.iconst 2, []), (.invokevirtual 0, [168, 1, 2, 0, 0, 1, 12, 1333, 1335, 42, 136]), (.ireturn, [1])]
set_option maxRecDepth 20000 in
theorem ok_M_renumber_17 : okB m_M_renumber 17 k_M_renumber_17 = true := by decide +kernel
set_option maxRecDepth 20000 in
theorem b_M_renumber_17 (r0 : Nat) (i1 : Int) (o2 : Option AV) (o3 : Option AV) (p0 : Int) {h : Hp} {d mc ms : Nat} {R : PR} (H : (if p0 = (-1 : Int) then ((1 ≤ d ∧ 0 ≤ mc ∧ 0 ≤ ms ∧ (hpT h r0).1 = 12) ∧ ∃ Q1 : PR, Wp m_M_refuses 0 [some (xR r0), some (xI (2 : Int))] [] h (d - 1) 0 0 Q1 ∧ ∀ (v1 : Int) (h1 : Hp), Q1 (some (xI v1)) h1 → R (some (xI v1)) h1) else Wp m_M_renumber 29 [some (xR r0), some (xI i1), some (xI p0), o3] [] h d mc ms R)) : Wp m_M_renumber 17 [some (xR r0), some (xI i1), o2, o3] [xI p0] h d mc ms R := Wp_blk ok_M_renumber_17 H
def k_M_renumber_29 : List AI := [(.aload 0, []), (.invokevirtual 0, [278, 0, 2, 0, 0, 0, 12, 1768, 1770, 115, 136]), (.iconst 0, []), (.istore 3, []), (.nop, [35])]
set_option maxRecDepth 20000 in
theorem ok_M_renumber_29 : okB m_M_renumber 29 k_M_renumber_29 = true := by decide +kernel
set_option maxRecDepth 20000 in
theorem b_M_renumber_29 (r0 : Nat) (i1 : Int) (i2 : Int) (o3 : Option AV) {h : Hp} {d mc ms : Nat} {R : PR} (H : ((1 ≤ d ∧ 0 ≤ mc ∧ 0 ≤ ms ∧ (hpT h r0).1 = 12) ∧ ∃ Q1 : PR, Wp m_M_keeps 0 [some (xR r0), none] [] h (d - 1) 0 0 Q1 ∧ ∀ (h1 : Hp), Q1 none h1 → Wp m_M_renumber 35 [some (xR r0), some (xI i1), some (xI i2), some (xI (0 : Int))] [] h1 d mc ms R)) : Wp m_M_renumber 29 [some (xR r0), some (xI i1), some (xI i2), o3] [] h d mc ms R := Wp_blk ok_M_renumber_29 H
def k_M_renumber_35 : List AI := [(.iload 3, []), (.aload 0, []), (.getfield 0, [12, 0, 2, 1225]), (.iconst 280, []), (.iload 1, []), (.iadd, []), (.iaload, [20]), (.if_icmp .ge 0, [74]), (.aload 0, []), (.getfield 0, [12, 0, 2, 1225]), (.iconst 0, []), (.iload 1, []), (.iload 3, []), (.invokestatic 0, [203, 3, 3, 0, 0, 1, 1472, 1473, 136]), (.iconst 2, []), (.iadd, []), (.aload 0, []), (.getfield 0, [12, 33, 2, 1258]), (.iload 3, []), (.iaload, [20]), (.iastore, []), (.iinc 3 1, []), (.goto 0, []), (.nop, [35])]
set_option maxRecDepth 20000 in
theorem ok_M_renumber_35 : okB m_M_renumber 35 k_M_renumber_35 = true := by decide +kernel
set_option maxRecDepth 20000 in
theorem b_M_renumber_35 (r0 : Nat) (i1 : Int) (i2 : Int) (i3 : Int) {h : Hp} {d mc ms : Nat} {R : PR} (H : ((hpT h r0).1 = 12 ∧ (((hpT h (Int.toNat (hpC h r0 0))).1 = 20 ∧ 0 ≤ (ai_add (280 : Int) i1) ∧ (ai_add (280 : Int) i1) < ((hpT h (Int.toNat (hpC h r0 0))).2 : Int)) ∧ (if i3 < (hpC h (Int.toNat (hpC h r0 0)) (Int.toNat (ai_add (280 : Int) i1))) then ((hpT h r0).1 = 12 ∧ ((1 ≤ d ∧ 0 ≤ mc ∧ 0 ≤ ms) ∧ ∃ Q1 : PR, Wp m_M_houseAt 0 [some (xI (0 : Int)), some (xI i1), some (xI i3)] [] h (d - 1) 0 0 Q1 ∧ ∀ (v1 : Int) (h1 : Hp), Q1 (some (xI v1)) h1 → ((hpT h1 r0).1 = 12 ∧ (((hpT h1 (Int.toNat (hpC h1 r0 33))).1 = 20 ∧ 0 ≤ i3 ∧ i3 < ((hpT h1 (Int.toNat (hpC h1 r0 33))).2 : Int)) ∧ (((hpT h1 (Int.toNat (hpC h r0 0))).1 = 20 ∧ 0 ≤ (ai_add v1 (2 : Int)) ∧ (ai_add v1 (2 : Int)) < ((hpT h1 (Int.toNat (hpC h r0 0))).2 : Int)) ∧ ∀ g1 : Hp, g1 = hpU h1 (Int.toNat (hpC h r0 0)) (Int.toNat (ai_add v1 (2 : Int))) (hpC h1 (Int.toNat (hpC h1 r0 33)) (Int.toNat i3)) → Wp m_M_renumber 35 [some (xR r0), some (xI i1), some (xI i2), some (xI (ai_add i3 1))] [] g1 d mc ms R))))) else Wp m_M_renumber 74 [some (xR r0), some (xI i1), some (xI i2), some (xI i3)] [] h d mc ms R)))) : Wp m_M_renumber 35 [some (xR r0), some (xI i1), some (xI i2), some (xI i3)] [] h d mc ms R := Wp_blk ok_M_renumber_35 H
def k_M_renumber_74 : List AI := [(.iload 2, []), (.ireturn, [1])]
set_option maxRecDepth 20000 in
theorem ok_M_renumber_74 : okB m_M_renumber 74 k_M_renumber_74 = true := by decide +kernel
set_option maxRecDepth 20000 in
theorem b_M_renumber_74 (o0 : Option AV) (o1 : Option AV) (i2 : Int) (o3 : Option AV) {h : Hp} {d mc ms : Nat} {R : PR} (H : R (some (xI i2)) h) : Wp m_M_renumber 74 [o0, o1, some (xI i2), o3] [] h d mc ms R := Wp_blk ok_M_renumber_74 H
def k_M_build_0 : List AI := [(.aload 0, []), (.iload 1, []), (.iload 2, []), (.iload 3, []), (.invokevirtual 0, [276, 3, 8, 0, 0, 1, 12, 1760, 1762, 114, 136]), (.istore 4, []), (.iload 4, []), (.iconst (-1), []), (.if_icmp .ne 0, [21]), (.aload 0, []), (.iconst 2, []), (.invokevirtual 0, [168, 1, 2, 0, 0, 1, 12, 1333, 1335, 42, 136]), (.ireturn, [1])]
set_option maxRecDepth 20000 in
theorem ok_M_build_0 : okB m_M_build 0 k_M_build_0 = true := by decide +kernel
set_option maxRecDepth 20000 in
theorem b_M_build_0 (r0 : Nat) (i1 : Int) (i2 : Int) (i3 : Int) (o4 : Option AV) (o5 : Option AV) {h : Hp} {d mc ms : Nat} {R : PR} (H : ((1 ≤ d ∧ 0 ≤ mc ∧ 0 ≤ ms ∧ (hpT h r0).1 = 12) ∧ ∃ Q1 : PR, Wp m_M_numberFor 0 [some (xR r0), some (xI i1), some (xI i2), some (xI i3), none, none, none, none] [] h (d - 1) 0 0 Q1 ∧ ∀ (v1 : Int) (h1 : Hp), Q1 (some (xI v1)) h1 → (if v1 = (-1 : Int) then ((1 ≤ d ∧ 0 ≤ mc ∧ 0 ≤ ms ∧ (hpT h1 r0).1 = 12) ∧ ∃ Q2 : PR, Wp m_M_refuses 0 [some (xR r0), some (xI (2 : Int))] [] h1 (d - 1) 0 0 Q2 ∧ ∀ (v2 : Int) (h2 : Hp), Q2 (some (xI v2)) h2 → R (some (xI v2)) h2) else Wp m_M_build 21 [some (xR r0), some (xI i1), some (xI i2), some (xI i3), some (xI v1), o5] [] h1 d mc ms R))) : Wp m_M_build 0 [some (xR r0), some (xI i1), some (xI i2), some (xI i3), o4, o5] [] h d mc ms R := Wp_blk ok_M_build_0 H
def k_M_build_21 : List AI := [(.aload 0, []), (.invokevirtual 0, [278, 0, 2, 0, 0, 0, 12, 1768, 1770, 115, 136]), (.iconst 0, []), (.iload 1, []), (.aload 0, []), (.getfield 0, [12, 0, 2, 1225]), (.iconst 280, []), (.iload 1, []), (.iadd, []), (.iaload, [20]), (.invokestatic 0, [203, 3, 3, 0, 0, 1, 1472, 1473, 136]), (.istore 5, []), (.aload 0, []), (.getfield 0, [12, 0, 2, 1225]), (.iload 5, []), (.iload 2, []), (.iastore, []), (.aload 0, []), (.getfield 0, [12, 0, 2, 1225]), (.iload 5, []), (.iconst 1, []), (.iadd, []), (.iload 3, []), (.iastore, []), (.aload 0, []), (.getfield 0, [12, 0, 2, 1225]), (.iload 5, []), (.iconst 2, []), (.iadd, []), (.iload 4, []), (.iastore, []), (.aload 0, []), (.getfield 0, [12, 0, 2, 1225]), (.iconst 280, []), (.iload 1, []), (.iadd, []), (.dup2, []), (.iaload, [20]), (.iconst 1, []), (.iadd, []), (.iastore, []), (.iload 4, []), (.ireturn, [1])]
set_option maxRecDepth 20000 in
theorem ok_M_build_21 : okB m_M_build 21 k_M_build_21 = true := by decide +kernel
set_option maxRecDepth 20000 in
theorem b_M_build_21 (r0 : Nat) (i1 : Int) (i2 : Int) (i3 : Int) (i4 : Int) (o5 : Option AV) {h : Hp} {d mc ms : Nat} {R : PR} (H : ((1 ≤ d ∧ 0 ≤ mc ∧ 0 ≤ ms ∧ (hpT h r0).1 = 12) ∧ ∃ Q1 : PR, Wp m_M_keeps 0 [some (xR r0), none] [] h (d - 1) 0 0 Q1 ∧ ∀ (h1 : Hp), Q1 none h1 → ((hpT h1 r0).1 = 12 ∧ (((hpT h1 (Int.toNat (hpC h1 r0 0))).1 = 20 ∧ 0 ≤ (ai_add (280 : Int) i1) ∧ (ai_add (280 : Int) i1) < ((hpT h1 (Int.toNat (hpC h1 r0 0))).2 : Int)) ∧ ((1 ≤ d ∧ 0 ≤ mc ∧ 0 ≤ ms) ∧ ∃ Q2 : PR, Wp m_M_houseAt 0 [some (xI (0 : Int)), some (xI i1), some (xI (hpC h1 (Int.toNat (hpC h1 r0 0)) (Int.toNat (ai_add (280 : Int) i1))))] [] h1 (d - 1) 0 0 Q2 ∧ ∀ (v2 : Int) (h2 : Hp), Q2 (some (xI v2)) h2 → ((hpT h2 r0).1 = 12 ∧ (((hpT h2 (Int.toNat (hpC h2 r0 0))).1 = 20 ∧ 0 ≤ v2 ∧ v2 < ((hpT h2 (Int.toNat (hpC h2 r0 0))).2 : Int)) ∧ ∀ g1 : Hp, g1 = hpU h2 (Int.toNat (hpC h2 r0 0)) (Int.toNat v2) i2 → ((hpT g1 r0).1 = 12 ∧ (((hpT g1 (Int.toNat (hpC g1 r0 0))).1 = 20 ∧ 0 ≤ (ai_add v2 (1 : Int)) ∧ (ai_add v2 (1 : Int)) < ((hpT g1 (Int.toNat (hpC g1 r0 0))).2 : Int)) ∧ ∀ g2 : Hp, g2 = hpU g1 (Int.toNat (hpC g1 r0 0)) (Int.toNat (ai_add v2 (1 : Int))) i3 → ((hpT g2 r0).1 = 12 ∧ (((hpT g2 (Int.toNat (hpC g2 r0 0))).1 = 20 ∧ 0 ≤ (ai_add v2 (2 : Int)) ∧ (ai_add v2 (2 : Int)) < ((hpT g2 (Int.toNat (hpC g2 r0 0))).2 : Int)) ∧ ∀ g3 : Hp, g3 = hpU g2 (Int.toNat (hpC g2 r0 0)) (Int.toNat (ai_add v2 (2 : Int))) i4 → ((hpT g3 r0).1 = 12 ∧ (((hpT g3 (Int.toNat (hpC g3 r0 0))).1 = 20 ∧ 0 ≤ (ai_add (280 : Int) i1) ∧ (ai_add (280 : Int) i1) < ((hpT g3 (Int.toNat (hpC g3 r0 0))).2 : Int)) ∧ (((hpT g3 (Int.toNat (hpC g3 r0 0))).1 = 20 ∧ 0 ≤ (ai_add (280 : Int) i1) ∧ (ai_add (280 : Int) i1) < ((hpT g3 (Int.toNat (hpC g3 r0 0))).2 : Int)) ∧ ∀ g4 : Hp, g4 = hpU g3 (Int.toNat (hpC g3 r0 0)) (Int.toNat (ai_add (280 : Int) i1)) (ai_add (hpC g3 (Int.toNat (hpC g3 r0 0)) (Int.toNat (ai_add (280 : Int) i1))) (1 : Int)) → R (some (xI i4)) g4)))))))))))))) : Wp m_M_build 21 [some (xR r0), some (xI i1), some (xI i2), some (xI i3), some (xI i4), o5] [] h d mc ms R := Wp_blk ok_M_build_21 H
def k_M_tear_0 : List AI := [(.aload 0, []), (.iload 1, []), (.iload 2, []), (.invokevirtual 0, [258, 2, 3, 0, 0, 1, 12, 1688, 1690, 103, 136]), (.ifCond .ne 0, [15]), (.aload 0, []), (.iconst 2, []), (.invokevirtual 0, [168, 1, 2, 0, 0, 1, 12, 1333, 1335, 42, 136]), (.ireturn, [1])]
set_option maxRecDepth 20000 in
theorem ok_M_tear_0 : okB m_M_tear 0 k_M_tear_0 = true := by decide +kernel
set_option maxRecDepth 20000 in
theorem b_M_tear_0 (r0 : Nat) (i1 : Int) (i2 : Int) (o3 : Option AV) (o4 : Option AV) (o5 : Option AV) {h : Hp} {d mc ms : Nat} {R : PR} (H : ((1 ≤ d ∧ 0 ≤ mc ∧ 0 ≤ ms ∧ (hpT h r0).1 = 12) ∧ ∃ Q1 : PR, Wp m_M_isHouse 0 [some (xR r0), some (xI i1), some (xI i2)] [] h (d - 1) 0 0 Q1 ∧ ∀ (v1 : Int) (h1 : Hp), Q1 (some (xI v1)) h1 → (if v1 = (0 : Int) then ((1 ≤ d ∧ 0 ≤ mc ∧ 0 ≤ ms ∧ (hpT h1 r0).1 = 12) ∧ ∃ Q2 : PR, Wp m_M_refuses 0 [some (xR r0), some (xI (2 : Int))] [] h1 (d - 1) 0 0 Q2 ∧ ∀ (v2 : Int) (h2 : Hp), Q2 (some (xI v2)) h2 → R (some (xI v2)) h2) else Wp m_M_tear 15 [some (xR r0), some (xI i1), some (xI i2), o3, o4, o5] [] h1 d mc ms R))) : Wp m_M_tear 0 [some (xR r0), some (xI i1), some (xI i2), o3, o4, o5] [] h d mc ms R := Wp_blk ok_M_tear_0 H
def k_M_tear_15 : List AI := [(.aload 0, []), (.invokevirtual 0, [278, 0, 2, 0, 0, 0, 12, 1768, 1770, 115, 136]), (.iconst 0, []), (.iload 1, []), (.iload 2, []), (.invokestatic 0, [203, 3, 3, 0, 0, 1, 1472, 1473, 136]), (.istore 3, []), (.iconst 0, []), (.iload 1, []), (.aload 0, []), (.getfield 0, [12, 0, 2, 1225]), (.iconst 280, []), (.iload 1, []), (.iadd, []), (.iaload, [20]), (.iconst 1, []), (.isub, []), (.invokestatic 0, [203, 3, 3, 0, 0, 1, 1472, 1473, 136]), (.istore 4, []), (.iload 3, []), (.istore 5, []), (.nop, [48])]
set_option maxRecDepth 20000 in
theorem ok_M_tear_15 : okB m_M_tear 15 k_M_tear_15 = true := by decide +kernel
set_option maxRecDepth 20000 in
theorem b_M_tear_15 (r0 : Nat) (i1 : Int) (i2 : Int) (o3 : Option AV) (o4 : Option AV) (o5 : Option AV) {h : Hp} {d mc ms : Nat} {R : PR} (H : ((1 ≤ d ∧ 0 ≤ mc ∧ 0 ≤ ms ∧ (hpT h r0).1 = 12) ∧ ∃ Q1 : PR, Wp m_M_keeps 0 [some (xR r0), none] [] h (d - 1) 0 0 Q1 ∧ ∀ (h1 : Hp), Q1 none h1 → ((1 ≤ d ∧ 0 ≤ mc ∧ 0 ≤ ms) ∧ ∃ Q2 : PR, Wp m_M_houseAt 0 [some (xI (0 : Int)), some (xI i1), some (xI i2)] [] h1 (d - 1) 0 0 Q2 ∧ ∀ (v2 : Int) (h2 : Hp), Q2 (some (xI v2)) h2 → ((hpT h2 r0).1 = 12 ∧ (((hpT h2 (Int.toNat (hpC h2 r0 0))).1 = 20 ∧ 0 ≤ (ai_add (280 : Int) i1) ∧ (ai_add (280 : Int) i1) < ((hpT h2 (Int.toNat (hpC h2 r0 0))).2 : Int)) ∧ ((1 ≤ d ∧ 0 ≤ mc ∧ 0 ≤ ms) ∧ ∃ Q3 : PR, Wp m_M_houseAt 0 [some (xI (0 : Int)), some (xI i1), some (xI (ai_sub (hpC h2 (Int.toNat (hpC h2 r0 0)) (Int.toNat (ai_add (280 : Int) i1))) (1 : Int)))] [] h2 (d - 1) 0 0 Q3 ∧ ∀ (v3 : Int) (h3 : Hp), Q3 (some (xI v3)) h3 → Wp m_M_tear 48 [some (xR r0), some (xI i1), some (xI i2), some (xI v2), some (xI v3), some (xI v2)] [] h3 d mc ms R)))))) : Wp m_M_tear 15 [some (xR r0), some (xI i1), some (xI i2), o3, o4, o5] [] h d mc ms R := Wp_blk ok_M_tear_15 H
def k_M_tear_48 : List AI := [(.iload 5, []), (.iload 4, []), (.if_icmp .ge 0, [77]), (.aload 0, []), (.getfield 0, [12, 0, 2, 1225]), (.iload 5, []), (.aload 0, []), (.getfield 0, [12, 0, 2, 1225]), (.iload 5, []), (.iconst 3, []), (.iadd, []), (.iaload, [20]), (.iastore, []), (.iinc 5 1, []), (.goto 0, []), (.nop, [48])]
set_option maxRecDepth 20000 in
theorem ok_M_tear_48 : okB m_M_tear 48 k_M_tear_48 = true := by decide +kernel
set_option maxRecDepth 20000 in
theorem b_M_tear_48 (r0 : Nat) (i1 : Int) (o2 : Option AV) (o3 : Option AV) (i4 : Int) (i5 : Int) {h : Hp} {d mc ms : Nat} {R : PR} (H : (if i5 < i4 then ((hpT h r0).1 = 12 ∧ ((hpT h r0).1 = 12 ∧ (((hpT h (Int.toNat (hpC h r0 0))).1 = 20 ∧ 0 ≤ (ai_add i5 (3 : Int)) ∧ (ai_add i5 (3 : Int)) < ((hpT h (Int.toNat (hpC h r0 0))).2 : Int)) ∧ (((hpT h (Int.toNat (hpC h r0 0))).1 = 20 ∧ 0 ≤ i5 ∧ i5 < ((hpT h (Int.toNat (hpC h r0 0))).2 : Int)) ∧ ∀ g1 : Hp, g1 = hpU h (Int.toNat (hpC h r0 0)) (Int.toNat i5) (hpC h (Int.toNat (hpC h r0 0)) (Int.toNat (ai_add i5 (3 : Int)))) → Wp m_M_tear 48 [some (xR r0), some (xI i1), o2, o3, some (xI i4), some (xI (ai_add i5 1))] [] g1 d mc ms R)))) else Wp m_M_tear 77 [some (xR r0), some (xI i1), o2, o3, some (xI i4), some (xI i5)] [] h d mc ms R)) : Wp m_M_tear 48 [some (xR r0), some (xI i1), o2, o3, some (xI i4), some (xI i5)] [] h d mc ms R := Wp_blk ok_M_tear_48 H
def k_M_tear_77 : List AI := [(.aload 0, []), (.getfield 0, [12, 0, 2, 1225]), (.iconst 280, []), (.iload 1, []), (.iadd, []), (.dup2, []), (.iaload, [20]), (.iconst 1, []), (.isub, []), (.iastore, []), (.aload 0, []), (.getfield 0, [12, 0, 2, 1225]), (.iconst 280, []), (.iload 1, []), (.iadd, []), (.iaload, [20]), (.ireturn, [1])]
set_option maxRecDepth 20000 in
theorem ok_M_tear_77 : okB m_M_tear 77 k_M_tear_77 = true := by decide +kernel
set_option maxRecDepth 20000 in
theorem b_M_tear_77 (r0 : Nat) (i1 : Int) (o2 : Option AV) (o3 : Option AV) (o4 : Option AV) (o5 : Option AV) {h : Hp} {d mc ms : Nat} {R : PR} (H : ((hpT h r0).1 = 12 ∧ (((hpT h (Int.toNat (hpC h r0 0))).1 = 20 ∧ 0 ≤ (ai_add (280 : Int) i1) ∧ (ai_add (280 : Int) i1) < ((hpT h (Int.toNat (hpC h r0 0))).2 : Int)) ∧ (((hpT h (Int.toNat (hpC h r0 0))).1 = 20 ∧ 0 ≤ (ai_add (280 : Int) i1) ∧ (ai_add (280 : Int) i1) < ((hpT h (Int.toNat (hpC h r0 0))).2 : Int)) ∧ ∀ g1 : Hp, g1 = hpU h (Int.toNat (hpC h r0 0)) (Int.toNat (ai_add (280 : Int) i1)) (ai_sub (hpC h (Int.toNat (hpC h r0 0)) (Int.toNat (ai_add (280 : Int) i1))) (1 : Int)) → ((hpT g1 r0).1 = 12 ∧ (((hpT g1 (Int.toNat (hpC g1 r0 0))).1 = 20 ∧ 0 ≤ (ai_add (280 : Int) i1) ∧ (ai_add (280 : Int) i1) < ((hpT g1 (Int.toNat (hpC g1 r0 0))).2 : Int)) ∧ R (some (xI (hpC g1 (Int.toNat (hpC g1 r0 0)) (Int.toNat (ai_add (280 : Int) i1))))) g1)))))) : Wp m_M_tear 77 [some (xR r0), some (xI i1), o2, o3, o4, o5] [] h d mc ms R := Wp_blk ok_M_tear_77 H
def k_M_years_0 : List AI := [(.iload 1, []), (.iconst 1, []), (.iconst 99, []), (.invokestatic 0, [187, 3, 3, 0, 0, 1, 1409, 1410, 136]), (.ifCond .eq 0, [25]), (.aload 0, []), (.getfield 0, [12, 0, 2, 1225]), (.iconst 9, []), (.iaload, [20]), (.iload 1, []), (.iadd, []), (.iconst 999, []), (.if_icmp .le 0, [31]), (.nop, [25])]
set_option maxRecDepth 20000 in
theorem ok_M_years_0 : okB m_M_years 0 k_M_years_0 = true := by decide +kernel
set_option maxRecDepth 20000 in
theorem b_M_years_0 (r0 : Nat) (i1 : Int) (o2 : Option AV) {h : Hp} {d mc ms : Nat} {R : PR} (H : ((1 ≤ d ∧ 0 ≤ mc ∧ 0 ≤ ms) ∧ ∃ Q1 : PR, Wp m_M_isIn 0 [some (xI i1), some (xI (1 : Int)), some (xI (99 : Int))] [] h (d - 1) 0 0 Q1 ∧ ∀ (v1 : Int) (h1 : Hp), Q1 (some (xI v1)) h1 → (if v1 = (0 : Int) then Wp m_M_years 25 [some (xR r0), some (xI i1), o2] [] h1 d mc ms R else ((hpT h1 r0).1 = 12 ∧ (((hpT h1 (Int.toNat (hpC h1 r0 0))).1 = 20 ∧ 0 ≤ (9 : Int) ∧ (9 : Int) < ((hpT h1 (Int.toNat (hpC h1 r0 0))).2 : Int)) ∧ (if (999 : Int) < (ai_add (hpC h1 (Int.toNat (hpC h1 r0 0)) (Int.toNat (9 : Int))) i1) then Wp m_M_years 25 [some (xR r0), some (xI i1), o2] [] h1 d mc ms R else Wp m_M_years 31 [some (xR r0), some (xI i1), o2] [] h1 d mc ms R)))))) : Wp m_M_years 0 [some (xR r0), some (xI i1), o2] [] h d mc ms R := Wp_blk ok_M_years_0 H
def k_M_years_25 : List AI := [(.aload 0, []), (.iconst 2, []), (.invokevirtual 0, [168, 1, 2, 0, 0, 1, 12, 1333, 1335, 42, 136]), (.ireturn, [1])]
set_option maxRecDepth 20000 in
theorem ok_M_years_25 : okB m_M_years 25 k_M_years_25 = true := by decide +kernel
set_option maxRecDepth 20000 in
theorem b_M_years_25 (r0 : Nat) (o1 : Option AV) (o2 : Option AV) {h : Hp} {d mc ms : Nat} {R : PR} (H : ((1 ≤ d ∧ 0 ≤ mc ∧ 0 ≤ ms ∧ (hpT h r0).1 = 12) ∧ ∃ Q1 : PR, Wp m_M_refuses 0 [some (xR r0), some (xI (2 : Int))] [] h (d - 1) 0 0 Q1 ∧ ∀ (v1 : Int) (h1 : Hp), Q1 (some (xI v1)) h1 → R (some (xI v1)) h1)) : Wp m_M_years 25 [some (xR r0), o1, o2] [] h d mc ms R := Wp_blk ok_M_years_25 H
def k_M_years_31 : List AI := [(.aload 0, []), (.invokevirtual 0, [278, 0, 2, 0, 0, 0, 12, 1768, 1770, 115, 136]), (.aload 0, []), (.getfield 0, [12, 0, 2, 1225]), (.iconst 9, []), (.dup2, []), (.iaload, [20]), (.iload 1, []), (.iadd, []), (.iastore, []), (.iconst 0, []), (.istore 2, []), (.nop, [48])]
set_option maxRecDepth 20000 in
theorem ok_M_years_31 : okB m_M_years 31 k_M_years_31 = true := by decide +kernel
set_option maxRecDepth 20000 in
theorem b_M_years_31 (r0 : Nat) (i1 : Int) (o2 : Option AV) {h : Hp} {d mc ms : Nat} {R : PR} (H : ((1 ≤ d ∧ 0 ≤ mc ∧ 0 ≤ ms ∧ (hpT h r0).1 = 12) ∧ ∃ Q1 : PR, Wp m_M_keeps 0 [some (xR r0), none] [] h (d - 1) 0 0 Q1 ∧ ∀ (h1 : Hp), Q1 none h1 → ((hpT h1 r0).1 = 12 ∧ (((hpT h1 (Int.toNat (hpC h1 r0 0))).1 = 20 ∧ 0 ≤ (9 : Int) ∧ (9 : Int) < ((hpT h1 (Int.toNat (hpC h1 r0 0))).2 : Int)) ∧ (((hpT h1 (Int.toNat (hpC h1 r0 0))).1 = 20 ∧ 0 ≤ (9 : Int) ∧ (9 : Int) < ((hpT h1 (Int.toNat (hpC h1 r0 0))).2 : Int)) ∧ ∀ g1 : Hp, g1 = hpU h1 (Int.toNat (hpC h1 r0 0)) (Int.toNat (9 : Int)) (ai_add (hpC h1 (Int.toNat (hpC h1 r0 0)) (Int.toNat (9 : Int))) i1) → Wp m_M_years 48 [some (xR r0), some (xI i1), some (xI (0 : Int))] [] g1 d mc ms R))))) : Wp m_M_years 31 [some (xR r0), some (xI i1), o2] [] h d mc ms R := Wp_blk ok_M_years_31 H
def k_M_years_48 : List AI := [(.iload 2, []), (.aload 0, []), (.getfield 0, [12, 0, 2, 1225]), (.iconst 8, []), (.iaload, [20]), (.if_icmp .ge 0, [81]), (.aload 0, []), (.iload 2, []), (.invokevirtual 0, [228, 1, 2, 0, 0, 1, 12, 1568, 1570, 88, 136]), (.ifCond .eq 0, [73]), (.iinc 2 1, []), (.goto 0, []), (.nop, [48])]
set_option maxRecDepth 20000 in
theorem ok_M_years_48 : okB m_M_years 48 k_M_years_48 = true := by decide +kernel
set_option maxRecDepth 20000 in
theorem b_M_years_48 (r0 : Nat) (o1 : Option AV) (i2 : Int) {h : Hp} {d mc ms : Nat} {R : PR} (H : ((hpT h r0).1 = 12 ∧ (((hpT h (Int.toNat (hpC h r0 0))).1 = 20 ∧ 0 ≤ (8 : Int) ∧ (8 : Int) < ((hpT h (Int.toNat (hpC h r0 0))).2 : Int)) ∧ (if i2 < (hpC h (Int.toNat (hpC h r0 0)) (Int.toNat (8 : Int))) then ((1 ≤ d ∧ 0 ≤ mc ∧ 0 ≤ ms ∧ (hpT h r0).1 = 12) ∧ ∃ Q1 : PR, Wp m_M_isLive 0 [some (xR r0), some (xI i2)] [] h (d - 1) 0 0 Q1 ∧ ∀ (v1 : Int) (h1 : Hp), Q1 (some (xI v1)) h1 → (if v1 = (0 : Int) then Wp m_M_years 73 [some (xR r0), o1, some (xI i2)] [] h1 d mc ms R else Wp m_M_years 48 [some (xR r0), x_d2 o1, some (xI (ai_add i2 1))] [] h1 d mc ms R)) else Wp m_M_years 81 [some (xR r0), o1, some (xI i2)] [] h d mc ms R)))) : Wp m_M_years 48 [some (xR r0), o1, some (xI i2)] [] h d mc ms R := Wp_blk ok_M_years_48 H
def k_M_years_73 : List AI := [(.aload 0, []), (.iload 2, []), (.invokevirtual 0, [282, 1, 4, 0, 0, 0, 12, 1783, 1785, 118, 136]), (.goto 0, []), (.nop, [48])]
set_option maxRecDepth 20000 in
theorem ok_M_years_73 : okB m_M_years 73 k_M_years_73 = true := by decide +kernel
set_option maxRecDepth 20000 in
theorem b_M_years_73 (r0 : Nat) (o1 : Option AV) (i2 : Int) {h : Hp} {d mc ms : Nat} {R : PR} (H : ((1 ≤ d ∧ 0 ≤ mc ∧ 0 ≤ ms ∧ (hpT h r0).1 = 12) ∧ ∃ Q1 : PR, Wp m_M_dropsAlias 0 [some (xR r0), some (xI i2), none, none] [] h (d - 1) 0 0 Q1 ∧ ∀ (h1 : Hp), Q1 none h1 → Wp m_M_years 48 [some (xR r0), o1, some (xI i2)] [] h1 d mc ms R)) : Wp m_M_years 73 [some (xR r0), o1, some (xI i2)] [] h d mc ms R := Wp_blk ok_M_years_73 H
def k_M_years_81 : List AI := [(.aload 0, []), (.getfield 0, [12, 0, 2, 1225]), (.iconst 9, []), (.iaload, [20]), (.ireturn, [1])]
set_option maxRecDepth 20000 in
theorem ok_M_years_81 : okB m_M_years 81 k_M_years_81 = true := by decide +kernel
set_option maxRecDepth 20000 in
theorem b_M_years_81 (r0 : Nat) (o1 : Option AV) (o2 : Option AV) {h : Hp} {d mc ms : Nat} {R : PR} (H : ((hpT h r0).1 = 12 ∧ (((hpT h (Int.toNat (hpC h r0 0))).1 = 20 ∧ 0 ≤ (9 : Int) ∧ (9 : Int) < ((hpT h (Int.toNat (hpC h r0 0))).2 : Int)) ∧ R (some (xI (hpC h (Int.toNat (hpC h r0 0)) (Int.toNat (9 : Int))))) h))) : Wp m_M_years 81 [some (xR r0), o1, o2] [] h d mc ms R := Wp_blk ok_M_years_81 H
def k_M_undo_0 : List AI := [(.aload 0, []), (.getfield 0, [12, 2, 0, 1227]), (.ifCond .ne 0, [13]), (.aload 0, []), (.iconst 3, []), (.invokevirtual 0, [171, 1, 2, 0, 0, 1, 12, 1345, 1347, 44, 136]), (.ireturn, [3])]
set_option maxRecDepth 20000 in
theorem ok_M_undo_0 : okB m_M_undo 0 k_M_undo_0 = true := by decide +kernel
set_option maxRecDepth 20000 in
theorem b_M_undo_0 (r0 : Nat) {h : Hp} {d mc ms : Nat} {R : PR} (H : ((hpT h r0).1 = 12 ∧ (if (hpC h r0 2) = (0 : Int) then ((1 ≤ d ∧ 0 ≤ mc ∧ 0 ≤ ms ∧ (hpT h r0).1 = 12) ∧ ∃ Q1 : PR, Wp m_M_isRefused 0 [some (xR r0), some (xI (3 : Int))] [] h (d - 1) 0 0 Q1 ∧ ∀ (v1 : Int) (h1 : Hp), Q1 (some (xI v1)) h1 → ((v1 = 0 ∨ v1 = 1) ∧ R (some (xI v1)) h1)) else Wp m_M_undo 13 [some (xR r0)] [] h d mc ms R))) : Wp m_M_undo 0 [some (xR r0)] [] h d mc ms R := Wp_blk ok_M_undo_0 H
def k_M_undo_13 : List AI := [(.aload 0, []), (.dup, []), (.getfield 0, [12, 2, 0, 1227]), (.iconst 1, []), (.isub, []), (.putfield 0, [12, 2, 0, 1227]), (.aload 0, []), (.iconst 0, []), (.iconst 4040, []), (.iconst 1010, []), (.aload 0, []), (.getfield 0, [12, 2, 0, 1227]), (.imul, []), (.iadd, []), (.invokevirtual 0, [208, 2, 4, 0, 0, 0, 12, 1491, 1493, 78, 136]), (.iconst 1, []), (.ireturn, [3])]
set_option maxRecDepth 20000 in
theorem ok_M_undo_13 : okB m_M_undo 13 k_M_undo_13 = true := by decide +kernel
set_option maxRecDepth 20000 in
theorem b_M_undo_13 (r0 : Nat) {h : Hp} {d mc ms : Nat} {R : PR} (H : ((hpT h r0).1 = 12 ∧ ((hpT h r0).1 = 12 ∧ ∀ g1 : Hp, g1 = hpU h r0 2 (ai_sub (hpC h r0 2) (1 : Int)) → ((hpT g1 r0).1 = 12 ∧ ((1 ≤ d ∧ 0 ≤ mc ∧ 0 ≤ ms ∧ (hpT g1 r0).1 = 12) ∧ ∃ Q1 : PR, Wp m_M_copies 0 [some (xR r0), some (xI (0 : Int)), some (xI (ai_add (4040 : Int) (ai_mul (1010 : Int) (hpC g1 r0 2)))), none] [] g1 (d - 1) 0 0 Q1 ∧ ∀ (h1 : Hp), Q1 none h1 → (((1 : Int) = 0 ∨ (1 : Int) = 1) ∧ R (some (xI (1 : Int))) h1)))))) : Wp m_M_undo 13 [some (xR r0)] [] h d mc ms R := Wp_blk ok_M_undo_13 H
def k_M_cost_0 : List AI := [(.aload 0, []), (.iload 1, []), (.invokevirtual 0, [215, 1, 2, 0, 0, 1, 12, 1518, 1520, 81, 136]), (.ifCond .eq 0, [14]), (.lload 2, []), (.ldc2_w 0, []), (.lcmp, []), (.ifCond .ge 0, [18]), (.nop, [14])]
set_option maxRecDepth 20000 in
theorem ok_M_cost_0 : okB m_M_cost 0 k_M_cost_0 = true := by decide +kernel
set_option maxRecDepth 20000 in
theorem b_M_cost_0 (r0 : Nat) (i1 : Int) (l2 : Int) (o4 : Option AV) (o5 : Option AV) {h : Hp} {d mc ms : Nat} {R : PR} (H : ((1 ≤ d ∧ 0 ≤ mc ∧ 0 ≤ ms ∧ (hpT h r0).1 = 12) ∧ ∃ Q1 : PR, Wp m_M_isStreet 0 [some (xR r0), some (xI i1)] [] h (d - 1) 0 0 Q1 ∧ ∀ (v1 : Int) (h1 : Hp), Q1 (some (xI v1)) h1 → (if v1 = (0 : Int) then Wp m_M_cost 14 [some (xR r0), some (xI i1), some (xL l2), none, o4, o5] [] h1 d mc ms R else (if (al_cmp l2 ((0 : Nat) : Int)) < (0 : Int) then Wp m_M_cost 14 [some (xR r0), some (xI i1), some (xL l2), none, o4, o5] [] h1 d mc ms R else Wp m_M_cost 18 [some (xR r0), some (xI i1), some (xL l2), none, o4, o5] [] h1 d mc ms R)))) : Wp m_M_cost 0 [some (xR r0), some (xI i1), some (xL l2), none, o4, o5] [] h d mc ms R := Wp_blk ok_M_cost_0 H
def k_M_cost_14 : List AI := [(.ldc2_w 1, [1815, 1]), (.lreturn, [])]
set_option maxRecDepth 20000 in
theorem ok_M_cost_14 : okB m_M_cost 14 k_M_cost_14 = true := by decide +kernel
set_option maxRecDepth 20000 in
theorem b_M_cost_14 (o0 : Option AV) (o1 : Option AV) (o2 : Option AV) (o3 : Option AV) (o4 : Option AV) (o5 : Option AV) {h : Hp} {d mc ms : Nat} {R : PR} (H : R (some (xL (-((1 : Nat) : Int)))) h) : Wp m_M_cost 14 [o0, o1, o2, o3, o4, o5] [] h d mc ms R := Wp_blk ok_M_cost_14 H
def k_M_cost_18 : List AI := [(.aload 0, []), (.iconst 180, []), (.iconst 10, []), (.iload 1, []), (.imul, []), (.iadd, []), (.invokevirtual 0, [218, 1, 2, 0, 0, 0, 12, 1530, 1532, 83, 136]), (.aload 0, []), (.getfield 0, [12, 0, 2, 1225]), (.iconst 280, []), (.iload 1, []), (.iadd, []), (.iaload, [20]), (.i2l, []), (.aload 0, []), (.getfield 0, [12, 17, 0, 1242]), (.i2l, []), (.lmul, []), (.lstore 4, []), (.lload 4, []), (.ldc2_w 0, []), (.lcmp, []), (.ifCond .ne 0, [58]), (.ldc2_w 0, []), (.lreturn, [])]
set_option maxRecDepth 20000 in
theorem ok_M_cost_18 : okB m_M_cost 18 k_M_cost_18 = true := by decide +kernel
set_option maxRecDepth 20000 in
theorem b_M_cost_18 (r0 : Nat) (i1 : Int) (l2 : Int) (o4 : Option AV) (o5 : Option AV) {h : Hp} {d mc ms : Nat} {R : PR} (H : ((1 ≤ d ∧ 0 ≤ mc ∧ 0 ≤ ms ∧ (hpT h r0).1 = 12) ∧ ∃ Q1 : PR, Wp m_M_takesWord 0 [some (xR r0), some (xI (ai_add (180 : Int) (ai_mul (10 : Int) i1)))] [] h (d - 1) 0 0 Q1 ∧ ∀ (h1 : Hp), Q1 none h1 → ((hpT h1 r0).1 = 12 ∧ (((hpT h1 (Int.toNat (hpC h1 r0 0))).1 = 20 ∧ 0 ≤ (ai_add (280 : Int) i1) ∧ (ai_add (280 : Int) i1) < ((hpT h1 (Int.toNat (hpC h1 r0 0))).2 : Int)) ∧ ((hpT h1 r0).1 = 12 ∧ (if (al_cmp (al_mul (hpC h1 (Int.toNat (hpC h1 r0 0)) (Int.toNat (ai_add (280 : Int) i1))) (hpC h1 r0 17)) ((0 : Nat) : Int)) = (0 : Int) then R (some (xL ((0 : Nat) : Int))) h1 else Wp m_M_cost 58 [some (xR r0), some (xI i1), some (xL l2), none, some (xL (al_mul (hpC h1 (Int.toNat (hpC h1 r0 0)) (Int.toNat (ai_add (280 : Int) i1))) (hpC h1 r0 17))), none] [] h1 d mc ms R)))))) : Wp m_M_cost 18 [some (xR r0), some (xI i1), some (xL l2), none, o4, o5] [] h d mc ms R := Wp_blk ok_M_cost_18 H
def k_M_cost_58 : List AI := [(.lload 2, []), (.ldc2_w 9223372036854775807, [1816]), (.lload 4, []), (.ldiv, []), (.lcmp, []), (.ifCond .le 0, [75]), (.ldc2_w 2, [1817, 1]), (.goto 0, []), (.nop, [79])]
set_option maxRecDepth 20000 in
theorem ok_M_cost_58 : okB m_M_cost 58 k_M_cost_58 = true := by decide +kernel
set_option maxRecDepth 20000 in
theorem b_M_cost_58 (o0 : Option AV) (o1 : Option AV) (l2 : Int) (l4 : Int) {h : Hp} {d mc ms : Nat} {R : PR} (H : (¬ l4 = 0 ∧ (if (0 : Int) < (al_cmp l2 (al_div ((9223372036854775807 : Nat) : Int) l4)) then Wp m_M_cost 79 [o0, o1, some (xL l2), none, some (xL l4), none] [xL (-((2 : Nat) : Int))] h d mc ms R else Wp m_M_cost 75 [o0, o1, some (xL l2), none, some (xL l4), none] [] h d mc ms R))) : Wp m_M_cost 58 [o0, o1, some (xL l2), none, some (xL l4), none] [] h d mc ms R := Wp_blk ok_M_cost_58 H
def k_M_cost_75 : List AI := [(.lload 4, []), (.lload 2, []), (.lmul, []), (.nop, [79])]
set_option maxRecDepth 20000 in
theorem ok_M_cost_75 : okB m_M_cost 75 k_M_cost_75 = true := by decide +kernel
set_option maxRecDepth 20000 in
theorem b_M_cost_75 (o0 : Option AV) (o1 : Option AV) (l2 : Int) (l4 : Int) {h : Hp} {d mc ms : Nat} {R : PR} (H : Wp m_M_cost 79 [o0, o1, some (xL l2), none, some (xL l4), none] [xL (al_mul l4 l2)] h d mc ms R) : Wp m_M_cost 75 [o0, o1, some (xL l2), none, some (xL l4), none] [] h d mc ms R := Wp_blk ok_M_cost_75 H
def k_M_cost_79 : List AI := [(.lreturn, [])]
set_option maxRecDepth 20000 in
theorem ok_M_cost_79 : okB m_M_cost 79 k_M_cost_79 = true := by decide +kernel
set_option maxRecDepth 20000 in
theorem b_M_cost_79 (o0 : Option AV) (o1 : Option AV) (o2 : Option AV) (o3 : Option AV) (o4 : Option AV) (o5 : Option AV) (q0 : Int) {h : Hp} {d mc ms : Nat} {R : PR} (H : R (some (xL q0)) h) : Wp m_M_cost 79 [o0, o1, o2, o3, o4, o5] [xL q0] h d mc ms R := Wp_blk ok_M_cost_79 H
def k_M_bill_0 : List AI := [(.lload 1, []), (.ldc2_w 0, []), (.lcmp, []), (.ifCond .lt 0, [13]), (.aload 0, []), (.invokevirtual 0, [250, 0, 5, 0, 0, 1, 12, 1656, 1658, 98, 136]), (.ifCond .ne 0, [17]), (.nop, [13])]
set_option maxRecDepth 20000 in
theorem ok_M_bill_0 : okB m_M_bill 0 k_M_bill_0 = true := by decide +kernel
set_option maxRecDepth 20000 in
theorem b_M_bill_0 (r0 : Nat) (l1 : Int) (o3 : Option AV) (o4 : Option AV) (o5 : Option AV) {h : Hp} {d mc ms : Nat} {R : PR} (H : (if (al_cmp l1 ((0 : Nat) : Int)) < (0 : Int) then Wp m_M_bill 13 [some (xR r0), some (xL l1), none, o3, o4, o5] [] h d mc ms R else ((1 ≤ d ∧ 0 ≤ mc ∧ 0 ≤ ms ∧ (hpT h r0).1 = 12) ∧ ∃ Q1 : PR, Wp m_M_plans 0 [some (xR r0), none, none, none, none] [] h (d - 1) 0 0 Q1 ∧ ∀ (v1 : Int) (h1 : Hp), Q1 (some (xI v1)) h1 → (if v1 = (0 : Int) then Wp m_M_bill 13 [some (xR r0), some (xL l1), none, o3, o4, o5] [] h1 d mc ms R else Wp m_M_bill 17 [some (xR r0), some (xL l1), none, o3, o4, o5] [] h1 d mc ms R)))) : Wp m_M_bill 0 [some (xR r0), some (xL l1), none, o3, o4, o5] [] h d mc ms R := Wp_blk ok_M_bill_0 H
def k_M_bill_13 : List AI := [(.ldc2_w 1, [1815, 1]), (.lreturn, [])]
set_option maxRecDepth 20000 in
theorem ok_M_bill_13 : okB m_M_bill 13 k_M_bill_13 = true := by decide +kernel
set_option maxRecDepth 20000 in
theorem b_M_bill_13 (o0 : Option AV) (o1 : Option AV) (o2 : Option AV) (o3 : Option AV) (o4 : Option AV) (o5 : Option AV) {h : Hp} {d mc ms : Nat} {R : PR} (H : R (some (xL (-((1 : Nat) : Int)))) h) : Wp m_M_bill 13 [o0, o1, o2, o3, o4, o5] [] h d mc ms R := Wp_blk ok_M_bill_13 H
def k_M_bill_17 : List AI := [(.ldc2_w 0, []), (.lstore 3, []), (.iconst 0, []), (.istore 5, []), (.nop, [22])]
set_option maxRecDepth 20000 in
theorem ok_M_bill_17 : okB m_M_bill 17 k_M_bill_17 = true := by decide +kernel
set_option maxRecDepth 20000 in
theorem b_M_bill_17 (r0 : Nat) (l1 : Int) (o3 : Option AV) (o4 : Option AV) (o5 : Option AV) {h : Hp} {d mc ms : Nat} {R : PR} (H : Wp m_M_bill 22 [some (xR r0), some (xL l1), none, some (xL ((0 : Nat) : Int)), none, some (xI (0 : Int))] [] h d mc ms R) : Wp m_M_bill 17 [some (xR r0), some (xL l1), none, o3, o4, o5] [] h d mc ms R := Wp_blk ok_M_bill_17 H
def k_M_bill_22 : List AI := [(.iload 5, []), (.aload 0, []), (.getfield 0, [12, 0, 2, 1225]), (.iconst 7, []), (.iaload, [20]), (.if_icmp .ge 0, [89]), (.aload 0, []), (.getfield 0, [12, 28, 0, 1253]), (.iload 5, []), (.ishr, []), (.iconst 1, []), (.iand, []), (.ifCond .ne 0, [49]), (.goto 0, []), (.nop, [83])]
set_option maxRecDepth 20000 in
theorem ok_M_bill_22 : okB m_M_bill 22 k_M_bill_22 = true := by decide +kernel
set_option maxRecDepth 20000 in
theorem b_M_bill_22 (r0 : Nat) (l1 : Int) (l3 : Int) (i5 : Int) {h : Hp} {d mc ms : Nat} {R : PR} (H : ((hpT h r0).1 = 12 ∧ (((hpT h (Int.toNat (hpC h r0 0))).1 = 20 ∧ 0 ≤ (7 : Int) ∧ (7 : Int) < ((hpT h (Int.toNat (hpC h r0 0))).2 : Int)) ∧ (if i5 < (hpC h (Int.toNat (hpC h r0 0)) (Int.toNat (7 : Int))) then ((hpT h r0).1 = 12 ∧ (if (ai_and (ai_shr (hpC h r0 28) i5) (1 : Int)) = (0 : Int) then Wp m_M_bill 83 [some (xR r0), some (xL l1), none, some (xL l3), none, some (xI i5)] [] h d mc ms R else Wp m_M_bill 49 [some (xR r0), some (xL l1), none, some (xL l3), none, some (xI i5)] [] h d mc ms R)) else Wp m_M_bill 89 [some (xR r0), some (xL l1), none, some (xL l3), none, some (xI i5)] [] h d mc ms R)))) : Wp m_M_bill 22 [some (xR r0), some (xL l1), none, some (xL l3), none, some (xI i5)] [] h d mc ms R := Wp_blk ok_M_bill_22 H
def k_M_bill_49 : List AI := [(.aload 0, []), (.iconst 180, []), (.iconst 10, []), (.iload 5, []), (.imul, []), (.iadd, []), (.invokevirtual 0, [218, 1, 2, 0, 0, 0, 12, 1530, 1532, 83, 136]), (.lload 3, []), (.aload 0, []), (.getfield 0, [12, 0, 2, 1225]), (.iconst 280, []), (.iload 5, []), (.iadd, []), (.iaload, [20]), (.i2l, []), (.aload 0, []), (.getfield 0, [12, 17, 0, 1242]), (.i2l, []), (.lmul, []), (.ladd, []), (.lstore 3, []), (.nop, [83])]
set_option maxRecDepth 20000 in
theorem ok_M_bill_49 : okB m_M_bill 49 k_M_bill_49 = true := by decide +kernel
set_option maxRecDepth 20000 in
theorem b_M_bill_49 (r0 : Nat) (l1 : Int) (l3 : Int) (i5 : Int) {h : Hp} {d mc ms : Nat} {R : PR} (H : ((1 ≤ d ∧ 0 ≤ mc ∧ 0 ≤ ms ∧ (hpT h r0).1 = 12) ∧ ∃ Q1 : PR, Wp m_M_takesWord 0 [some (xR r0), some (xI (ai_add (180 : Int) (ai_mul (10 : Int) i5)))] [] h (d - 1) 0 0 Q1 ∧ ∀ (h1 : Hp), Q1 none h1 → ((hpT h1 r0).1 = 12 ∧ (((hpT h1 (Int.toNat (hpC h1 r0 0))).1 = 20 ∧ 0 ≤ (ai_add (280 : Int) i5) ∧ (ai_add (280 : Int) i5) < ((hpT h1 (Int.toNat (hpC h1 r0 0))).2 : Int)) ∧ ((hpT h1 r0).1 = 12 ∧ Wp m_M_bill 83 [some (xR r0), some (xL l1), none, some (xL (al_add l3 (al_mul (hpC h1 (Int.toNat (hpC h1 r0 0)) (Int.toNat (ai_add (280 : Int) i5))) (hpC h1 r0 17)))), none, some (xI i5)] [] h1 d mc ms R))))) : Wp m_M_bill 49 [some (xR r0), some (xL l1), none, some (xL l3), none, some (xI i5)] [] h d mc ms R := Wp_blk ok_M_bill_49 H
def k_M_bill_83 : List AI := [(.iinc 5 1, []), (.goto 0, []), (.nop, [22])]
set_option maxRecDepth 20000 in
theorem ok_M_bill_83 : okB m_M_bill 83 k_M_bill_83 = true := by decide +kernel
set_option maxRecDepth 20000 in
theorem b_M_bill_83 (r0 : Nat) (l1 : Int) (l3 : Int) (i5 : Int) {h : Hp} {d mc ms : Nat} {R : PR} (H : Wp m_M_bill 22 [some (xR r0), some (xL l1), none, some (xL l3), none, some (xI (ai_add i5 1))] [] h d mc ms R) : Wp m_M_bill 83 [some (xR r0), some (xL l1), none, some (xL l3), none, some (xI i5)] [] h d mc ms R := Wp_blk ok_M_bill_83 H
def k_M_bill_89 : List AI := [(.lload 3, []), (.ldc2_w 0, []), (.lcmp, []), (.ifCond .ne 0, [97]), (.ldc2_w 0, []), (.lreturn, [])]
set_option maxRecDepth 20000 in
theorem ok_M_bill_89 : okB m_M_bill 89 k_M_bill_89 = true := by decide +kernel
set_option maxRecDepth 20000 in
theorem b_M_bill_89 (o0 : Option AV) (l1 : Int) (l3 : Int) (o5 : Option AV) {h : Hp} {d mc ms : Nat} {R : PR} (H : (if (al_cmp l3 ((0 : Nat) : Int)) = (0 : Int) then R (some (xL ((0 : Nat) : Int))) h else Wp m_M_bill 97 [o0, some (xL l1), none, some (xL l3), none, o5] [] h d mc ms R)) : Wp m_M_bill 89 [o0, some (xL l1), none, some (xL l3), none, o5] [] h d mc ms R := Wp_blk ok_M_bill_89 H
def k_M_bill_97 : List AI := [(.lload 1, []), (.ldc2_w 9223372036854775807, [1816]), (.lload 3, []), (.ldiv, []), (.lcmp, []), (.ifCond .le 0, [113]), (.ldc2_w 2, [1817, 1]), (.goto 0, []), (.nop, [116])]
set_option maxRecDepth 20000 in
theorem ok_M_bill_97 : okB m_M_bill 97 k_M_bill_97 = true := by decide +kernel
set_option maxRecDepth 20000 in
theorem b_M_bill_97 (o0 : Option AV) (l1 : Int) (l3 : Int) (o5 : Option AV) {h : Hp} {d mc ms : Nat} {R : PR} (H : (¬ l3 = 0 ∧ (if (0 : Int) < (al_cmp l1 (al_div ((9223372036854775807 : Nat) : Int) l3)) then Wp m_M_bill 116 [o0, some (xL l1), none, some (xL l3), none, o5] [xL (-((2 : Nat) : Int))] h d mc ms R else Wp m_M_bill 113 [o0, some (xL l1), none, some (xL l3), none, o5] [] h d mc ms R))) : Wp m_M_bill 97 [o0, some (xL l1), none, some (xL l3), none, o5] [] h d mc ms R := Wp_blk ok_M_bill_97 H
def k_M_bill_113 : List AI := [(.lload 3, []), (.lload 1, []), (.lmul, []), (.nop, [116])]
set_option maxRecDepth 20000 in
theorem ok_M_bill_113 : okB m_M_bill 113 k_M_bill_113 = true := by decide +kernel
set_option maxRecDepth 20000 in
theorem b_M_bill_113 (o0 : Option AV) (l1 : Int) (l3 : Int) (o5 : Option AV) {h : Hp} {d mc ms : Nat} {R : PR} (H : Wp m_M_bill 116 [o0, some (xL l1), none, some (xL l3), none, o5] [xL (al_mul l3 l1)] h d mc ms R) : Wp m_M_bill 113 [o0, some (xL l1), none, some (xL l3), none, o5] [] h d mc ms R := Wp_blk ok_M_bill_113 H
def k_M_bill_116 : List AI := [(.lreturn, [])]
set_option maxRecDepth 20000 in
theorem ok_M_bill_116 : okB m_M_bill 116 k_M_bill_116 = true := by decide +kernel
set_option maxRecDepth 20000 in
theorem b_M_bill_116 (o0 : Option AV) (o1 : Option AV) (o2 : Option AV) (o3 : Option AV) (o4 : Option AV) (o5 : Option AV) (q0 : Int) {h : Hp} {d mc ms : Nat} {R : PR} (H : R (some (xL q0)) h) : Wp m_M_bill 116 [o0, o1, o2, o3, o4, o5] [xL q0] h d mc ms R := Wp_blk ok_M_bill_116 H
def k_M_keep_0 : List AI := [(.iload 1, []), (.iconst 0, []), (.iconst 1, []), (.invokestatic 0, [187, 3, 3, 0, 0, 1, 1409, 1410, 136]), (.ifCond .ne 0, [15]), (.aload 0, []), (.iconst 4, []), (.invokevirtual 0, [171, 1, 2, 0, 0, 1, 12, 1345, 1347, 44, 136]), (.ireturn, [3])]
set_option maxRecDepth 20000 in
theorem ok_M_keep_0 : okB m_M_keep 0 k_M_keep_0 = true := by decide +kernel
set_option maxRecDepth 20000 in
theorem b_M_keep_0 (r0 : Nat) (i1 : Int) {h : Hp} {d mc ms : Nat} {R : PR} (H : ((1 ≤ d ∧ 0 ≤ mc ∧ 0 ≤ ms) ∧ ∃ Q1 : PR, Wp m_M_isIn 0 [some (xI i1), some (xI (0 : Int)), some (xI (1 : Int))] [] h (d - 1) 0 0 Q1 ∧ ∀ (v1 : Int) (h1 : Hp), Q1 (some (xI v1)) h1 → (if v1 = (0 : Int) then ((1 ≤ d ∧ 0 ≤ mc ∧ 0 ≤ ms ∧ (hpT h1 r0).1 = 12) ∧ ∃ Q2 : PR, Wp m_M_isRefused 0 [some (xR r0), some (xI (4 : Int))] [] h1 (d - 1) 0 0 Q2 ∧ ∀ (v2 : Int) (h2 : Hp), Q2 (some (xI v2)) h2 → ((v2 = 0 ∨ v2 = 1) ∧ R (some (xI v2)) h2)) else Wp m_M_keep 15 [some (xR r0), some (xI i1)] [] h1 d mc ms R))) : Wp m_M_keep 0 [some (xR r0), some (xI i1)] [] h d mc ms R := Wp_blk ok_M_keep_0 H
def k_M_keep_15 : List AI := [(.aload 0, []), (.iconst 2020, []), (.iconst 1010, []), (.iload 1, []), (.imul, []), (.iadd, []), (.iconst 0, []), (.invokevirtual 0, [208, 2, 4, 0, 0, 0, 12, 1491, 1493, 78, 136]), (.aload 0, []), (.getfield 0, [12, 1, 2, 1226]), (.iload 1, []), (.iconst 1, []), (.bastore, [23]), (.iconst 1, []), (.ireturn, [3])]
set_option maxRecDepth 20000 in
theorem ok_M_keep_15 : okB m_M_keep 15 k_M_keep_15 = true := by decide +kernel
set_option maxRecDepth 20000 in
theorem b_M_keep_15 (r0 : Nat) (i1 : Int) {h : Hp} {d mc ms : Nat} {R : PR} (H : ((1 ≤ d ∧ 0 ≤ mc ∧ 0 ≤ ms ∧ (hpT h r0).1 = 12) ∧ ∃ Q1 : PR, Wp m_M_copies 0 [some (xR r0), some (xI (ai_add (2020 : Int) (ai_mul (1010 : Int) i1))), some (xI (0 : Int)), none] [] h (d - 1) 0 0 Q1 ∧ ∀ (h1 : Hp), Q1 none h1 → ((hpT h1 r0).1 = 12 ∧ (((hpT h1 (Int.toNat (hpC h1 r0 1))).1 = 23 ∧ 0 ≤ i1 ∧ i1 < ((hpT h1 (Int.toNat (hpC h1 r0 1))).2 : Int)) ∧ ∀ g1 : Hp, g1 = hpU h1 (Int.toNat (hpC h1 r0 1)) (Int.toNat i1) (ai_nar 23 (1 : Int)) → (((1 : Int) = 0 ∨ (1 : Int) = 1) ∧ R (some (xI (1 : Int))) g1))))) : Wp m_M_keep 15 [some (xR r0), some (xI i1)] [] h d mc ms R := Wp_blk ok_M_keep_15 H
def k_M_back_0 : List AI := [(.iload 1, []), (.iconst 0, []), (.iconst 1, []), (.invokestatic 0, [187, 3, 3, 0, 0, 1, 1409, 1410, 136]), (.ifCond .eq 0, [18]), (.aload 0, []), (.getfield 0, [12, 1, 2, 1226]), (.iload 1, []), (.baload, [23]), (.ifCond .ne 0, [24]), (.nop, [18])]
set_option maxRecDepth 20000 in
theorem ok_M_back_0 : okB m_M_back 0 k_M_back_0 = true := by decide +kernel
set_option maxRecDepth 20000 in
theorem b_M_back_0 (r0 : Nat) (i1 : Int) {h : Hp} {d mc ms : Nat} {R : PR} (H : ((1 ≤ d ∧ 0 ≤ mc ∧ 0 ≤ ms) ∧ ∃ Q1 : PR, Wp m_M_isIn 0 [some (xI i1), some (xI (0 : Int)), some (xI (1 : Int))] [] h (d - 1) 0 0 Q1 ∧ ∀ (v1 : Int) (h1 : Hp), Q1 (some (xI v1)) h1 → (if v1 = (0 : Int) then Wp m_M_back 18 [some (xR r0), some (xI i1)] [] h1 d mc ms R else ((hpT h1 r0).1 = 12 ∧ (((hpT h1 (Int.toNat (hpC h1 r0 1))).1 = 23 ∧ 0 ≤ i1 ∧ i1 < ((hpT h1 (Int.toNat (hpC h1 r0 1))).2 : Int)) ∧ (if (hpC h1 (Int.toNat (hpC h1 r0 1)) (Int.toNat i1)) = (0 : Int) then Wp m_M_back 18 [some (xR r0), some (xI i1)] [] h1 d mc ms R else Wp m_M_back 24 [some (xR r0), some (xI i1)] [] h1 d mc ms R)))))) : Wp m_M_back 0 [some (xR r0), some (xI i1)] [] h d mc ms R := Wp_blk ok_M_back_0 H
def k_M_back_18 : List AI := [(.aload 0, []), (.iconst 4, []), (.invokevirtual 0, [171, 1, 2, 0, 0, 1, 12, 1345, 1347, 44, 136]), (.ireturn, [3])]
set_option maxRecDepth 20000 in
theorem ok_M_back_18 : okB m_M_back 18 k_M_back_18 = true := by decide +kernel
set_option maxRecDepth 20000 in
theorem b_M_back_18 (r0 : Nat) (o1 : Option AV) {h : Hp} {d mc ms : Nat} {R : PR} (H : ((1 ≤ d ∧ 0 ≤ mc ∧ 0 ≤ ms ∧ (hpT h r0).1 = 12) ∧ ∃ Q1 : PR, Wp m_M_isRefused 0 [some (xR r0), some (xI (4 : Int))] [] h (d - 1) 0 0 Q1 ∧ ∀ (v1 : Int) (h1 : Hp), Q1 (some (xI v1)) h1 → ((v1 = 0 ∨ v1 = 1) ∧ R (some (xI v1)) h1))) : Wp m_M_back 18 [some (xR r0), o1] [] h d mc ms R := Wp_blk ok_M_back_18 H
def k_M_back_24 : List AI := [(.aload 0, []), (.iconst 0, []), (.iconst 2020, []), (.iconst 1010, []), (.iload 1, []), (.imul, []), (.iadd, []), (.invokevirtual 0, [208, 2, 4, 0, 0, 0, 12, 1491, 1493, 78, 136]), (.aload 0, []), (.iconst 0, []), (.putfield 0, [12, 2, 0, 1227]), (.iconst 1, []), (.ireturn, [3])]
set_option maxRecDepth 20000 in
theorem ok_M_back_24 : okB m_M_back 24 k_M_back_24 = true := by decide +kernel
set_option maxRecDepth 20000 in
theorem b_M_back_24 (r0 : Nat) (i1 : Int) {h : Hp} {d mc ms : Nat} {R : PR} (H : ((1 ≤ d ∧ 0 ≤ mc ∧ 0 ≤ ms ∧ (hpT h r0).1 = 12) ∧ ∃ Q1 : PR, Wp m_M_copies 0 [some (xR r0), some (xI (0 : Int)), some (xI (ai_add (2020 : Int) (ai_mul (1010 : Int) i1))), none] [] h (d - 1) 0 0 Q1 ∧ ∀ (h1 : Hp), Q1 none h1 → ((hpT h1 r0).1 = 12 ∧ ∀ g1 : Hp, g1 = hpU h1 r0 2 (0 : Int) → (((1 : Int) = 0 ∨ (1 : Int) = 1) ∧ R (some (xI (1 : Int))) g1)))) : Wp m_M_back 24 [some (xR r0), some (xI i1)] [] h d mc ms R := Wp_blk ok_M_back_24 H
def k_M_status_0 : List AI := [(.iload 1, []), (.iconst 0, []), (.iconst 4, []), (.invokestatic 0, [187, 3, 3, 0, 0, 1, 1409, 1410, 136]), (.ifCond .eq 0, [18]), (.aload 0, []), (.getfield 0, [12, 3, 2, 1228]), (.iload 1, []), (.iaload, [20]), (.goto 0, []), (.nop, [19])]
set_option maxRecDepth 20000 in
theorem ok_M_status_0 : okB m_M_status 0 k_M_status_0 = true := by decide +kernel
set_option maxRecDepth 20000 in
theorem b_M_status_0 (r0 : Nat) (i1 : Int) {h : Hp} {d mc ms : Nat} {R : PR} (H : ((1 ≤ d ∧ 0 ≤ mc ∧ 0 ≤ ms) ∧ ∃ Q1 : PR, Wp m_M_isIn 0 [some (xI i1), some (xI (0 : Int)), some (xI (4 : Int))] [] h (d - 1) 0 0 Q1 ∧ ∀ (v1 : Int) (h1 : Hp), Q1 (some (xI v1)) h1 → (if v1 = (0 : Int) then Wp m_M_status 18 [some (xR r0), some (xI i1)] [] h1 d mc ms R else ((hpT h1 r0).1 = 12 ∧ (((hpT h1 (Int.toNat (hpC h1 r0 3))).1 = 20 ∧ 0 ≤ i1 ∧ i1 < ((hpT h1 (Int.toNat (hpC h1 r0 3))).2 : Int)) ∧ Wp m_M_status 19 [some (xR r0), some (xI i1)] [xI (hpC h1 (Int.toNat (hpC h1 r0 3)) (Int.toNat i1))] h1 d mc ms R))))) : Wp m_M_status 0 [some (xR r0), some (xI i1)] [] h d mc ms R := Wp_blk ok_M_status_0 H
def k_M_status_18 : List AI := [(.iconst (-1), []), (.nop, [19])]
set_option maxRecDepth 20000 in
theorem ok_M_status_18 : okB m_M_status 18 k_M_status_18 = true := by decide +kernel
set_option maxRecDepth 20000 in
theorem b_M_status_18 (o0 : Option AV) (o1 : Option AV) {h : Hp} {d mc ms : Nat} {R : PR} (H : Wp m_M_status 19 [o0, o1] [xI (-1 : Int)] h d mc ms R) : Wp m_M_status 18 [o0, o1] [] h d mc ms R := Wp_blk ok_M_status_18 H
def k_M_status_19 : List AI := [(.ireturn, [1])]
set_option maxRecDepth 20000 in
theorem ok_M_status_19 : okB m_M_status 19 k_M_status_19 = true := by decide +kernel
set_option maxRecDepth 20000 in
theorem b_M_status_19 (o0 : Option AV) (o1 : Option AV) (p0 : Int) {h : Hp} {d mc ms : Nat} {R : PR} (H : R (some (xI p0)) h) : Wp m_M_status 19 [o0, o1] [xI p0] h d mc ms R := Wp_blk ok_M_status_19 H

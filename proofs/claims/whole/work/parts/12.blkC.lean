/-! ===== blocks, by program (wip/whole/genblk.py) ===== -/
def k_Reader_init_0 : List AI := [(.aload 0, []), (.invokedynamic 0, [219]), (.aload 0, []), (.new 0, [10, 8, 220]), (.dup, []), (.invokevirtual 0, [4, 0, 1, 22, 674, 0, 10, 222, 223, 0, 128, 1]), (.putfield 0, [7, 0, 2, 382]), (.aload 0, []), (.aload 1, []), (.putfield 0, [7, 3, 2, 388]), (.return_, [])]
set_option maxRecDepth 20000 in
theorem ok_Reader_init_0 : okB m_Reader_init 0 k_Reader_init_0 = true := by decide +kernel
set_option maxRecDepth 20000 in
theorem b_Reader_init_0 (r0 : Nat) (r1 : Nat) {h : Hp} {d mc ms : Nat} {R : PR} (H : ((1 ≤ d ∧ ¬ r0 = 0) ∧ ((1 ≤ mc ∧ 8 ≤ ms) ∧ ∀ g1 : Hp, g1 = hpN h 10 0 → ((1 ≤ d ∧ 22 ≤ (mc - 1) ∧ 674 ≤ (ms - 8) ∧ (hpT g1 h.1).1 = 10) ∧ ∃ Q1 : PR, Wp m_Town_init 0 [some (xR h.1)] [] g1 (d - 1) 22 674 Q1 ∧ ∀ (h1 : Hp), Q1 none h1 → ((hpT h1 r0).1 = 7 ∧ ∀ g2 : Hp, g2 = hpU h1 r0 0 ((h.1 : Nat) : Int) → ((hpT g2 r0).1 = 7 ∧ ∀ g3 : Hp, g3 = hpU g2 r0 3 ((r1 : Nat) : Int) → R none g3)))))) : Wp m_Reader_init 0 [some (xR r0), some (xR r1)] [] h d mc ms R := Wp_blk ok_Reader_init_0 H
def k_Reader_readTown_0 : List AI := [(.aload 0, []), (.getfield 0, [7, 0, 2, 382]), (.invokevirtual 0, [20, 0, 1, 0, 0, 0, 10, 580, 581, 582, 128]), (.aload 0, []), (.iconst 0, []), (.putfield 0, [7, 1, 0, 384]), (.aload 0, []), (.iconst (-1), []), (.putfield 0, [7, 2, 0, 386]), (.aload 0, []), (.iconst 0, []), (.putfield 0, [7, 9, 0, 394]), (.aload 0, []), (.iconst 0, []), (.putfield 0, [7, 4, 0, 389]), (.aload 0, []), (.iconst 0, []), (.putfield 0, [7, 5, 0, 390]), (.aload 0, []), (.iconst 0, []), (.putfield 0, [7, 6, 0, 391]), (.iconst 1, []), (.istore 1, []), (.aload 0, []), (.invokevirtual 0, [23, 0, 3, 0, 0, 0, 7, 592, 594, 1, 127]), (.iconst 0, []), (.istore 2, []), (.nop, [45])]
set_option maxRecDepth 20000 in
theorem ok_Reader_readTown_0 : okB m_Reader_readTown 0 k_Reader_readTown_0 = true := by decide +kernel
set_option maxRecDepth 20000 in
theorem b_Reader_readTown_0 (r0 : Nat) (o1 : Option AV) (o2 : Option AV) {h : Hp} {d mc ms : Nat} {R : PR} (H : ((hpT h r0).1 = 7 ∧ ((1 ≤ d ∧ 0 ≤ mc ∧ 0 ≤ ms ∧ (hpT h (Int.toNat (hpC h r0 0))).1 = 10) ∧ ∃ Q1 : PR, Wp m_Town_clear 0 [some (xR (Int.toNat (hpC h r0 0)))] [] h (d - 1) 0 0 Q1 ∧ ∀ (h1 : Hp), Q1 none h1 → ((hpT h1 r0).1 = 7 ∧ ∀ g1 : Hp, g1 = hpU h1 r0 1 (0 : Int) → ((hpT g1 r0).1 = 7 ∧ ∀ g2 : Hp, g2 = hpU g1 r0 2 (-1 : Int) → ((hpT g2 r0).1 = 7 ∧ ∀ g3 : Hp, g3 = hpU g2 r0 9 (0 : Int) → ((hpT g3 r0).1 = 7 ∧ ∀ g4 : Hp, g4 = hpU g3 r0 4 (0 : Int) → ((hpT g4 r0).1 = 7 ∧ ∀ g5 : Hp, g5 = hpU g4 r0 5 (0 : Int) → ((hpT g5 r0).1 = 7 ∧ ∀ g6 : Hp, g6 = hpU g5 r0 6 (0 : Int) → ((1 ≤ d ∧ 0 ≤ mc ∧ 0 ≤ ms ∧ (hpT g6 r0).1 = 7) ∧ ∃ Q2 : PR, Wp m_Reader_step 0 [some (xR r0), none, none] [] g6 (d - 1) 0 0 Q2 ∧ ∀ (h2 : Hp), Q2 none h2 → Wp m_Reader_readTown 45 [some (xR r0), some (xI (1 : Int)), some (xI (0 : Int))] [] h2 d mc ms R)))))))))) : Wp m_Reader_readTown 0 [some (xR r0), o1, o2] [] h d mc ms R := Wp_blk ok_Reader_readTown_0 H
def k_Reader_readTown_45 : List AI := [(.iload 2, []), (.iconst 2000, []), (.if_icmp .ge 0, [78]), (.iload 1, []), (.ifCond .eq 0, [78]), (.aload 0, []), (.getfield 0, [7, 4, 0, 389]), (.ifCond .eq 0, [78]), (.aload 0, []), (.invokevirtual 0, [29, 0, 1, 0, 0, 1, 7, 617, 619, 4, 127]), (.istore 1, []), (.aload 0, []), (.invokevirtual 0, [23, 0, 3, 0, 0, 0, 7, 592, 594, 1, 127]), (.iinc 2 1, []), (.goto 0, []), (.nop, [45])]
set_option maxRecDepth 20000 in
theorem ok_Reader_readTown_45 : okB m_Reader_readTown 45 k_Reader_readTown_45 = true := by decide +kernel
set_option maxRecDepth 20000 in
theorem b_Reader_readTown_45 (r0 : Nat) (i1 : Int) (i2 : Int) {h : Hp} {d mc ms : Nat} {R : PR} (H : (if i2 < (2000 : Int) then (if i1 = (0 : Int) then Wp m_Reader_readTown 78 [some (xR r0), some (xI i1), some (xI i2)] [] h d mc ms R else ((hpT h r0).1 = 7 ∧ (if (hpC h r0 4) = (0 : Int) then Wp m_Reader_readTown 78 [some (xR r0), some (xI i1), some (xI i2)] [] h d mc ms R else ((1 ≤ d ∧ 0 ≤ mc ∧ 0 ≤ ms ∧ (hpT h r0).1 = 7) ∧ ∃ Q1 : PR, Wp m_Reader_readStatement 0 [some (xR r0)] [] h (d - 1) 0 0 Q1 ∧ ∀ (v1 : Int) (h1 : Hp), Q1 (some (xI v1)) h1 → ((1 ≤ d ∧ 0 ≤ mc ∧ 0 ≤ ms ∧ (hpT h1 r0).1 = 7) ∧ ∃ Q2 : PR, Wp m_Reader_step 0 [some (xR r0), none, none] [] h1 (d - 1) 0 0 Q2 ∧ ∀ (h2 : Hp), Q2 none h2 → Wp m_Reader_readTown 45 [some (xR r0), some (xI v1), some (xI (ai_add i2 1))] [] h2 d mc ms R))))) else Wp m_Reader_readTown 78 [some (xR r0), some (xI i1), some (xI i2)] [] h d mc ms R)) : Wp m_Reader_readTown 45 [some (xR r0), some (xI i1), some (xI i2)] [] h d mc ms R := Wp_blk ok_Reader_readTown_45 H
def k_Reader_readTown_78 : List AI := [(.aload 0, []), (.getfield 0, [7, 1, 0, 384]), (.ifCond .ne 0, [92]), (.aload 0, []), (.getfield 0, [7, 0, 2, 382]), (.invokevirtual 0, [62, 0, 1, 0, 0, 0, 10, 754, 755, 756, 128]), (.nop, [92])]
set_option maxRecDepth 20000 in
theorem ok_Reader_readTown_78 : okB m_Reader_readTown 78 k_Reader_readTown_78 = true := by decide +kernel
set_option maxRecDepth 20000 in
theorem b_Reader_readTown_78 (r0 : Nat) (o1 : Option AV) (o2 : Option AV) {h : Hp} {d mc ms : Nat} {R : PR} (H : ((hpT h r0).1 = 7 ∧ (if (hpC h r0 1) = (0 : Int) then ((hpT h r0).1 = 7 ∧ ((1 ≤ d ∧ 0 ≤ mc ∧ 0 ≤ ms ∧ (hpT h (Int.toNat (hpC h r0 0))).1 = 10) ∧ ∃ Q1 : PR, Wp m_Town_settle 0 [some (xR (Int.toNat (hpC h r0 0)))] [] h (d - 1) 0 0 Q1 ∧ ∀ (h1 : Hp), Q1 none h1 → Wp m_Reader_readTown 92 [some (xR r0), o1, o2] [] h1 d mc ms R)) else Wp m_Reader_readTown 92 [some (xR r0), o1, o2] [] h d mc ms R))) : Wp m_Reader_readTown 78 [some (xR r0), o1, o2] [] h d mc ms R := Wp_blk ok_Reader_readTown_78 H
def k_Reader_readTown_92 : List AI := [(.return_, [])]
set_option maxRecDepth 20000 in
theorem ok_Reader_readTown_92 : okB m_Reader_readTown 92 k_Reader_readTown_92 = true := by decide +kernel
set_option maxRecDepth 20000 in
theorem b_Reader_readTown_92 (o0 : Option AV) (o1 : Option AV) (o2 : Option AV) {h : Hp} {d mc ms : Nat} {R : PR} (H : R none h) : Wp m_Reader_readTown 92 [o0, o1, o2] [] h d mc ms R := Wp_blk ok_Reader_readTown_92 H
def k_Reader_step_0 : List AI := [(.aload 0, []), (.invokevirtual 0, [24, 0, 1, 0, 0, 1, 7, 596, 598, 2, 127]), (.istore 1, []), (.aload 0, []), (.getfield 0, [7, 5, 0, 390]), (.aload 0, []), (.getfield 0, [7, 6, 0, 391]), (.iadd, []), (.istore 2, []), (.aload 0, []), (.iload 2, []), (.putfield 0, [7, 5, 0, 390]), (.nop, [20])]
set_option maxRecDepth 20000 in
theorem ok_Reader_step_0 : okB m_Reader_step 0 k_Reader_step_0 = true := by decide +kernel
set_option maxRecDepth 20000 in
theorem b_Reader_step_0 (r0 : Nat) (o1 : Option AV) (o2 : Option AV) {h : Hp} {d mc ms : Nat} {R : PR} (H : ((1 ≤ d ∧ 0 ≤ mc ∧ 0 ≤ ms ∧ (hpT h r0).1 = 7) ∧ ∃ Q1 : PR, Wp m_Reader_isLong 0 [some (xR r0)] [] h (d - 1) 0 0 Q1 ∧ ∀ (v1 : Int) (h1 : Hp), Q1 (some (xI v1)) h1 → ((hpT h1 r0).1 = 7 ∧ ((hpT h1 r0).1 = 7 ∧ ((hpT h1 r0).1 = 7 ∧ ∀ g1 : Hp, g1 = hpU h1 r0 5 (ai_add (hpC h1 r0 5) (hpC h1 r0 6)) → Wp m_Reader_step 20 [some (xR r0), some (xI v1), some (xI (ai_add (hpC h1 r0 5) (hpC h1 r0 6)))] [] g1 d mc ms R))))) : Wp m_Reader_step 0 [some (xR r0), o1, o2] [] h d mc ms R := Wp_blk ok_Reader_step_0 H
def k_Reader_step_20 : List AI := [(.aload 0, []), (.getfield 0, [7, 5, 0, 390]), (.aload 0, []), (.getfield 0, [7, 3, 2, 388]), (.getfield 0, [9, 1, 0, 203]), (.if_icmp .ge 0, [59]), (.aload 0, []), (.aload 0, []), (.getfield 0, [7, 5, 0, 390]), (.invokevirtual 0, [25, 1, 3, 0, 0, 1, 7, 600, 602, 3, 127]), (.iconst 5, []), (.if_icmp .ne 0, [59]), (.aload 0, []), (.dup, []), (.getfield 0, [7, 5, 0, 390]), (.iconst 1, []), (.iadd, []), (.putfield 0, [7, 5, 0, 390]), (.goto 0, []), (.nop, [20])]
set_option maxRecDepth 20000 in
theorem ok_Reader_step_20 : okB m_Reader_step 20 k_Reader_step_20 = true := by decide +kernel
set_option maxRecDepth 20000 in
theorem b_Reader_step_20 (r0 : Nat) (i1 : Int) (i2 : Int) {h : Hp} {d mc ms : Nat} {R : PR} (H : ((hpT h r0).1 = 7 ∧ ((hpT h r0).1 = 7 ∧ ((hpT h (Int.toNat (hpC h r0 3))).1 = 9 ∧ (if (hpC h r0 5) < (hpC h (Int.toNat (hpC h r0 3)) 1) then ((hpT h r0).1 = 7 ∧ ((1 ≤ d ∧ 0 ≤ mc ∧ 0 ≤ ms ∧ (hpT h r0).1 = 7) ∧ ∃ Q1 : PR, Wp m_Reader_kindAt 0 [some (xR r0), some (xI (hpC h r0 5)), none] [] h (d - 1) 0 0 Q1 ∧ ∀ (v1 : Int) (h1 : Hp), Q1 (some (xI v1)) h1 → (if v1 = (5 : Int) then ((hpT h1 r0).1 = 7 ∧ ((hpT h1 r0).1 = 7 ∧ ∀ g1 : Hp, g1 = hpU h1 r0 5 (ai_add (hpC h1 r0 5) (1 : Int)) → Wp m_Reader_step 20 [some (xR r0), some (xI i1), some (xI i2)] [] g1 d mc ms R)) else Wp m_Reader_step 59 [some (xR r0), some (xI i1), some (xI i2)] [] h1 d mc ms R))) else Wp m_Reader_step 59 [some (xR r0), some (xI i1), some (xI i2)] [] h d mc ms R))))) : Wp m_Reader_step 20 [some (xR r0), some (xI i1), some (xI i2)] [] h d mc ms R := Wp_blk ok_Reader_step_20 H
def k_Reader_step_59 : List AI := [(.aload 0, []), (.aload 0, []), (.aload 0, []), (.getfield 0, [7, 5, 0, 390]), (.invokevirtual 0, [25, 1, 3, 0, 0, 1, 7, 600, 602, 3, 127]), (.putfield 0, [7, 4, 0, 389]), (.aload 0, []), (.aload 0, []), (.getfield 0, [7, 4, 0, 389]), (.ifCond .ne 0, [83]), (.iconst 0, []), (.goto 0, []), (.nop, [84])]
set_option maxRecDepth 20000 in
theorem ok_Reader_step_59 : okB m_Reader_step 59 k_Reader_step_59 = true := by decide +kernel
set_option maxRecDepth 20000 in
theorem b_Reader_step_59 (r0 : Nat) (i1 : Int) (i2 : Int) {h : Hp} {d mc ms : Nat} {R : PR} (H : ((hpT h r0).1 = 7 ∧ ((1 ≤ d ∧ 0 ≤ mc ∧ 0 ≤ ms ∧ (hpT h r0).1 = 7) ∧ ∃ Q1 : PR, Wp m_Reader_kindAt 0 [some (xR r0), some (xI (hpC h r0 5)), none] [] h (d - 1) 0 0 Q1 ∧ ∀ (v1 : Int) (h1 : Hp), Q1 (some (xI v1)) h1 → ((hpT h1 r0).1 = 7 ∧ ∀ g1 : Hp, g1 = hpU h1 r0 4 v1 → ((hpT g1 r0).1 = 7 ∧ (if (hpC g1 r0 4) = (0 : Int) then Wp m_Reader_step 84 [some (xR r0), some (xI i1), some (xI i2)] [xI (0 : Int), xR r0] g1 d mc ms R else Wp m_Reader_step 83 [some (xR r0), some (xI i1), some (xI i2)] [xR r0] g1 d mc ms R)))))) : Wp m_Reader_step 59 [some (xR r0), some (xI i1), some (xI i2)] [] h d mc ms R := Wp_blk ok_Reader_step_59 H
def k_Reader_step_83 : List AI := [(.iconst 1, []), (.nop, [84])]
set_option maxRecDepth 20000 in
theorem ok_Reader_step_83 : okB m_Reader_step 83 k_Reader_step_83 = true := by decide +kernel
set_option maxRecDepth 20000 in
theorem b_Reader_step_83 (r0 : Nat) (i1 : Int) (i2 : Int) (t0 : Nat) {h : Hp} {d mc ms : Nat} {R : PR} (H : Wp m_Reader_step 84 [some (xR r0), some (xI i1), some (xI i2)] [xI (1 : Int), xR t0] h d mc ms R) : Wp m_Reader_step 83 [some (xR r0), some (xI i1), some (xI i2)] [xR t0] h d mc ms R := Wp_blk ok_Reader_step_83 H
def k_Reader_step_84 : List AI := [(.putfield 0, [7, 6, 0, 391]), (.nop, [87])]
set_option maxRecDepth 20000 in
theorem ok_Reader_step_84 : okB m_Reader_step 84 k_Reader_step_84 = true := by decide +kernel
set_option maxRecDepth 20000 in
theorem b_Reader_step_84 (r0 : Nat) (i1 : Int) (i2 : Int) (t0 : Nat) (p1 : Int) {h : Hp} {d mc ms : Nat} {R : PR} (H : ((hpT h t0).1 = 7 ∧ ∀ g1 : Hp, g1 = hpU h t0 6 p1 → Wp m_Reader_step 87 [some (xR r0), some (xI i1), some (xI i2)] [] g1 d mc ms R)) : Wp m_Reader_step 84 [some (xR r0), some (xI i1), some (xI i2)] [xI p1, xR t0] h d mc ms R := Wp_blk ok_Reader_step_84 H
def k_Reader_step_87 : List AI := [(.aload 0, []), (.invokevirtual 0, [24, 0, 1, 0, 0, 1, 7, 596, 598, 2, 127]), (.ifCond .eq 0, [146]), (.aload 0, []), (.getfield 0, [7, 5, 0, 390]), (.aload 0, []), (.getfield 0, [7, 6, 0, 391]), (.iadd, []), (.aload 0, []), (.getfield 0, [7, 3, 2, 388]), (.getfield 0, [9, 1, 0, 203]), (.if_icmp .ge 0, [146]), (.aload 0, []), (.aload 0, []), (.getfield 0, [7, 5, 0, 390]), (.aload 0, []), (.getfield 0, [7, 6, 0, 391]), (.iadd, []), (.invokevirtual 0, [25, 1, 3, 0, 0, 1, 7, 600, 602, 3, 127]), (.aload 0, []), (.getfield 0, [7, 4, 0, 389]), (.if_icmp .ne 0, [146]), (.aload 0, []), (.dup, []), (.getfield 0, [7, 6, 0, 391]), (.iconst 1, []), (.iadd, []), (.putfield 0, [7, 6, 0, 391]), (.goto 0, []), (.nop, [87])]
set_option maxRecDepth 20000 in
theorem ok_Reader_step_87 : okB m_Reader_step 87 k_Reader_step_87 = true := by decide +kernel
set_option maxRecDepth 20000 in
theorem b_Reader_step_87 (r0 : Nat) (i1 : Int) (i2 : Int) {h : Hp} {d mc ms : Nat} {R : PR} (H : ((1 ≤ d ∧ 0 ≤ mc ∧ 0 ≤ ms ∧ (hpT h r0).1 = 7) ∧ ∃ Q1 : PR, Wp m_Reader_isLong 0 [some (xR r0)] [] h (d - 1) 0 0 Q1 ∧ ∀ (v1 : Int) (h1 : Hp), Q1 (some (xI v1)) h1 → (if v1 = (0 : Int) then Wp m_Reader_step 146 [some (xR r0), some (xI i1), some (xI i2)] [] h1 d mc ms R else ((hpT h1 r0).1 = 7 ∧ ((hpT h1 r0).1 = 7 ∧ ((hpT h1 r0).1 = 7 ∧ ((hpT h1 (Int.toNat (hpC h1 r0 3))).1 = 9 ∧ (if (ai_add (hpC h1 r0 5) (hpC h1 r0 6)) < (hpC h1 (Int.toNat (hpC h1 r0 3)) 1) then ((hpT h1 r0).1 = 7 ∧ ((hpT h1 r0).1 = 7 ∧ ((1 ≤ d ∧ 0 ≤ mc ∧ 0 ≤ ms ∧ (hpT h1 r0).1 = 7) ∧ ∃ Q2 : PR, Wp m_Reader_kindAt 0 [some (xR r0), some (xI (ai_add (hpC h1 r0 5) (hpC h1 r0 6))), none] [] h1 (d - 1) 0 0 Q2 ∧ ∀ (v2 : Int) (h2 : Hp), Q2 (some (xI v2)) h2 → ((hpT h2 r0).1 = 7 ∧ (if v2 = (hpC h2 r0 4) then ((hpT h2 r0).1 = 7 ∧ ((hpT h2 r0).1 = 7 ∧ ∀ g1 : Hp, g1 = hpU h2 r0 6 (ai_add (hpC h2 r0 6) (1 : Int)) → Wp m_Reader_step 87 [some (xR r0), some (xI i1), some (xI i2)] [] g1 d mc ms R)) else Wp m_Reader_step 146 [some (xR r0), some (xI i1), some (xI i2)] [] h2 d mc ms R))))) else Wp m_Reader_step 146 [some (xR r0), some (xI i1), some (xI i2)] [] h1 d mc ms R)))))))) : Wp m_Reader_step 87 [some (xR r0), some (xI i1), some (xI i2)] [] h d mc ms R := Wp_blk ok_Reader_step_87 H
def k_Reader_step_146 : List AI := [(.iload 1, []), (.ifCond .eq 0, [170]), (.aload 0, []), (.getfield 0, [7, 5, 0, 390]), (.iload 2, []), (.if_icmp .ne 0, [170]), (.aload 0, []), (.invokevirtual 0, [24, 0, 1, 0, 0, 1, 7, 596, 598, 2, 127]), (.ifCond .eq 0, [170]), (.aload 0, []), (.iconst 4, []), (.putfield 0, [7, 4, 0, 389]), (.nop, [170])]
set_option maxRecDepth 20000 in
theorem ok_Reader_step_146 : okB m_Reader_step 146 k_Reader_step_146 = true := by decide +kernel
set_option maxRecDepth 20000 in
theorem b_Reader_step_146 (r0 : Nat) (i1 : Int) (i2 : Int) {h : Hp} {d mc ms : Nat} {R : PR} (H : (if i1 = (0 : Int) then Wp m_Reader_step 170 [some (xR r0), some (xI i1), some (xI i2)] [] h d mc ms R else ((hpT h r0).1 = 7 ∧ (if (hpC h r0 5) = i2 then ((1 ≤ d ∧ 0 ≤ mc ∧ 0 ≤ ms ∧ (hpT h r0).1 = 7) ∧ ∃ Q1 : PR, Wp m_Reader_isLong 0 [some (xR r0)] [] h (d - 1) 0 0 Q1 ∧ ∀ (v1 : Int) (h1 : Hp), Q1 (some (xI v1)) h1 → (if v1 = (0 : Int) then Wp m_Reader_step 170 [some (xR r0), some (xI i1), some (xI i2)] [] h1 d mc ms R else ((hpT h1 r0).1 = 7 ∧ ∀ g1 : Hp, g1 = hpU h1 r0 4 (4 : Int) → Wp m_Reader_step 170 [some (xR r0), some (xI i1), some (xI i2)] [] g1 d mc ms R))) else Wp m_Reader_step 170 [some (xR r0), some (xI i1), some (xI i2)] [] h d mc ms R)))) : Wp m_Reader_step 146 [some (xR r0), some (xI i1), some (xI i2)] [] h d mc ms R := Wp_blk ok_Reader_step_146 H
def k_Reader_step_170 : List AI := [(.aload 0, []), (.aload 0, []), (.getfield 0, [7, 4, 0, 389]), (.iconst 1, []), (.if_icmp .ne 0, [197]), (.aload 0, []), (.getfield 0, [7, 3, 2, 388]), (.aload 0, []), (.getfield 0, [7, 5, 0, 390]), (.aload 0, []), (.getfield 0, [7, 6, 0, 391]), (.invokevirtual 0, [27, 2, 7, 0, 0, 2, 9, 608, 609, 610, 121]), (.goto 0, []), (.nop, [198])]
set_option maxRecDepth 20000 in
theorem ok_Reader_step_170 : okB m_Reader_step 170 k_Reader_step_170 = true := by decide +kernel
set_option maxRecDepth 20000 in
theorem b_Reader_step_170 (r0 : Nat) (o1 : Option AV) (o2 : Option AV) {h : Hp} {d mc ms : Nat} {R : PR} (H : ((hpT h r0).1 = 7 ∧ (if (hpC h r0 4) = (1 : Int) then ((hpT h r0).1 = 7 ∧ ((hpT h r0).1 = 7 ∧ ((hpT h r0).1 = 7 ∧ ((1 ≤ d ∧ 0 ≤ mc ∧ 0 ≤ ms ∧ (hpT h (Int.toNat (hpC h r0 3))).1 = 9) ∧ ∃ Q1 : PR, Wp m_Tape_wordAt 0 [some (xR (Int.toNat (hpC h r0 3))), some (xI (hpC h r0 5)), some (xI (hpC h r0 6)), none, none, none, none] [] h (d - 1) 0 0 Q1 ∧ ∀ (v1 : Int) (h1 : Hp), Q1 (some (xL v1)) h1 → Wp m_Reader_step 198 [some (xR r0), o1, o2] [xL v1, xR r0] h1 d mc ms R)))) else Wp m_Reader_step 197 [some (xR r0), o1, o2] [xR r0] h d mc ms R))) : Wp m_Reader_step 170 [some (xR r0), o1, o2] [] h d mc ms R := Wp_blk ok_Reader_step_170 H
def k_Reader_step_197 : List AI := [(.ldc2_w 0, []), (.nop, [198])]
set_option maxRecDepth 20000 in
theorem ok_Reader_step_197 : okB m_Reader_step 197 k_Reader_step_197 = true := by decide +kernel
set_option maxRecDepth 20000 in
theorem b_Reader_step_197 (r0 : Nat) (o1 : Option AV) (o2 : Option AV) (t0 : Nat) {h : Hp} {d mc ms : Nat} {R : PR} (H : Wp m_Reader_step 198 [some (xR r0), o1, o2] [xL ((0 : Nat) : Int), xR t0] h d mc ms R) : Wp m_Reader_step 197 [some (xR r0), o1, o2] [xR t0] h d mc ms R := Wp_blk ok_Reader_step_197 H
def k_Reader_step_198 : List AI := [(.putfield 0, [7, 7, 1, 392]), (.aload 0, []), (.aload 0, []), (.getfield 0, [7, 3, 2, 388]), (.aload 0, []), (.getfield 0, [7, 7, 1, 392]), (.invokevirtual 0, [28, 1, 4, 0, 0, 1, 9, 613, 614, 615, 121]), (.putfield 0, [7, 8, 0, 393]), (.return_, [])]
set_option maxRecDepth 20000 in
theorem ok_Reader_step_198 : okB m_Reader_step 198 k_Reader_step_198 = true := by decide +kernel
set_option maxRecDepth 20000 in
theorem b_Reader_step_198 (r0 : Nat) (o1 : Option AV) (o2 : Option AV) (t0 : Nat) (q1 : Int) {h : Hp} {d mc ms : Nat} {R : PR} (H : ((hpT h t0).1 = 7 ∧ ∀ g1 : Hp, g1 = hpU h t0 7 q1 → ((hpT g1 r0).1 = 7 ∧ ((hpT g1 r0).1 = 7 ∧ ((1 ≤ d ∧ 0 ≤ mc ∧ 0 ≤ ms ∧ (hpT g1 (Int.toNat (hpC g1 r0 3))).1 = 9) ∧ ∃ Q1 : PR, Wp m_Tape_ownWord 0 [some (xR (Int.toNat (hpC g1 r0 3))), some (xL (hpC g1 r0 7)), none, none] [] g1 (d - 1) 0 0 Q1 ∧ ∀ (v1 : Int) (h1 : Hp), Q1 (some (xI v1)) h1 → ((hpT h1 r0).1 = 7 ∧ ∀ g2 : Hp, g2 = hpU h1 r0 8 v1 → R none g2)))))) : Wp m_Reader_step 198 [some (xR r0), o1, o2] [xL q1, xR t0] h d mc ms R := Wp_blk ok_Reader_step_198 H
def k_Reader_isLong_0 : List AI := [(.aload 0, []), (.getfield 0, [7, 4, 0, 389]), (.iconst 1, []), (.if_icmp .eq 0, [16]), (.aload 0, []), (.getfield 0, [7, 4, 0, 389]), (.iconst 2, []), (.if_icmp .ne 0, [20]), (.nop, [16])]
set_option maxRecDepth 20000 in
theorem ok_Reader_isLong_0 : okB m_Reader_isLong 0 k_Reader_isLong_0 = true := by decide +kernel
set_option maxRecDepth 20000 in
theorem b_Reader_isLong_0 (r0 : Nat) {h : Hp} {d mc ms : Nat} {R : PR} (H : ((hpT h r0).1 = 7 ∧ (if (hpC h r0 4) = (1 : Int) then Wp m_Reader_isLong 16 [some (xR r0)] [] h d mc ms R else ((hpT h r0).1 = 7 ∧ (if (hpC h r0 4) = (2 : Int) then Wp m_Reader_isLong 16 [some (xR r0)] [] h d mc ms R else Wp m_Reader_isLong 20 [some (xR r0)] [] h d mc ms R))))) : Wp m_Reader_isLong 0 [some (xR r0)] [] h d mc ms R := Wp_blk ok_Reader_isLong_0 H
def k_Reader_isLong_16 : List AI := [(.iconst 1, []), (.goto 0, []), (.nop, [21])]
set_option maxRecDepth 20000 in
theorem ok_Reader_isLong_16 : okB m_Reader_isLong 16 k_Reader_isLong_16 = true := by decide +kernel
set_option maxRecDepth 20000 in
theorem b_Reader_isLong_16 (o0 : Option AV) {h : Hp} {d mc ms : Nat} {R : PR} (H : Wp m_Reader_isLong 21 [o0] [xI (1 : Int)] h d mc ms R) : Wp m_Reader_isLong 16 [o0] [] h d mc ms R := Wp_blk ok_Reader_isLong_16 H
def k_Reader_isLong_20 : List AI := [(.iconst 0, []), (.nop, [21])]
set_option maxRecDepth 20000 in
theorem ok_Reader_isLong_20 : okB m_Reader_isLong 20 k_Reader_isLong_20 = true := by decide +kernel
set_option maxRecDepth 20000 in
theorem b_Reader_isLong_20 (o0 : Option AV) {h : Hp} {d mc ms : Nat} {R : PR} (H : Wp m_Reader_isLong 21 [o0] [xI (0 : Int)] h d mc ms R) : Wp m_Reader_isLong 20 [o0] [] h d mc ms R := Wp_blk ok_Reader_isLong_20 H
def k_Reader_isLong_21 : List AI := [(.ireturn, [3])]
set_option maxRecDepth 20000 in
theorem ok_Reader_isLong_21 : okB m_Reader_isLong 21 k_Reader_isLong_21 = true := by decide +kernel
set_option maxRecDepth 20000 in
theorem b_Reader_isLong_21 (o0 : Option AV) (p0 : Int) {h : Hp} {d mc ms : Nat} {R : PR} (H : ((p0 = 0 ∨ p0 = 1) ∧ R (some (xI p0)) h)) : Wp m_Reader_isLong 21 [o0] [xI p0] h d mc ms R := Wp_blk ok_Reader_isLong_21 H
def k_Reader_kindAt_0 : List AI := [(.iload 1, []), (.ifCond .lt 0, [15]), (.iload 1, []), (.aload 0, []), (.getfield 0, [7, 3, 2, 388]), (.getfield 0, [9, 1, 0, 203]), (.if_icmp .lt 0, [17]), (.nop, [15])]
set_option maxRecDepth 20000 in
theorem ok_Reader_kindAt_0 : okB m_Reader_kindAt 0 k_Reader_kindAt_0 = true := by decide +kernel
set_option maxRecDepth 20000 in
theorem b_Reader_kindAt_0 (r0 : Nat) (i1 : Int) (o2 : Option AV) {h : Hp} {d mc ms : Nat} {R : PR} (H : (if i1 < (0 : Int) then Wp m_Reader_kindAt 15 [some (xR r0), some (xI i1), o2] [] h d mc ms R else ((hpT h r0).1 = 7 ∧ ((hpT h (Int.toNat (hpC h r0 3))).1 = 9 ∧ (if i1 < (hpC h (Int.toNat (hpC h r0 3)) 1) then Wp m_Reader_kindAt 17 [some (xR r0), some (xI i1), o2] [] h d mc ms R else Wp m_Reader_kindAt 15 [some (xR r0), some (xI i1), o2] [] h d mc ms R))))) : Wp m_Reader_kindAt 0 [some (xR r0), some (xI i1), o2] [] h d mc ms R := Wp_blk ok_Reader_kindAt_0 H
def k_Reader_kindAt_15 : List AI := [(.iconst 0, []), (.ireturn, [1])]
set_option maxRecDepth 20000 in
theorem ok_Reader_kindAt_15 : okB m_Reader_kindAt 15 k_Reader_kindAt_15 = true := by decide +kernel
set_option maxRecDepth 20000 in
theorem b_Reader_kindAt_15 (o0 : Option AV) (o1 : Option AV) (o2 : Option AV) {h : Hp} {d mc ms : Nat} {R : PR} (H : R (some (xI (0 : Int))) h) : Wp m_Reader_kindAt 15 [o0, o1, o2] [] h d mc ms R := Wp_blk ok_Reader_kindAt_15 H
def k_Reader_kindAt_17 : List AI := [(.aload 0, []), (.getfield 0, [7, 3, 2, 388]), (.getfield 0, [9, 0, 2, 200]), (.iload 1, []), (.baload, [22]), (.istore 2, []), (.iload 2, []), (.iconst 32, []), (.if_icmp .eq 0, [39]), (.iload 2, []), (.iconst 10, []), (.if_icmp .ne 0, [41]), (.nop, [39])]
set_option maxRecDepth 20000 in
theorem ok_Reader_kindAt_17 : okB m_Reader_kindAt 17 k_Reader_kindAt_17 = true := by decide +kernel
set_option maxRecDepth 20000 in
theorem b_Reader_kindAt_17 (r0 : Nat) (i1 : Int) (o2 : Option AV) {h : Hp} {d mc ms : Nat} {R : PR} (H : ((hpT h r0).1 = 7 ∧ ((hpT h (Int.toNat (hpC h r0 3))).1 = 9 ∧ (((hpT h (Int.toNat (hpC h (Int.toNat (hpC h r0 3)) 0))).1 = 22 ∧ 0 ≤ i1 ∧ i1 < ((hpT h (Int.toNat (hpC h (Int.toNat (hpC h r0 3)) 0))).2 : Int)) ∧ (if (hpC h (Int.toNat (hpC h (Int.toNat (hpC h r0 3)) 0)) (Int.toNat i1)) = (32 : Int) then Wp m_Reader_kindAt 39 [some (xR r0), some (xI i1), some (xI (hpC h (Int.toNat (hpC h (Int.toNat (hpC h r0 3)) 0)) (Int.toNat i1)))] [] h d mc ms R else (if (hpC h (Int.toNat (hpC h (Int.toNat (hpC h r0 3)) 0)) (Int.toNat i1)) = (10 : Int) then Wp m_Reader_kindAt 39 [some (xR r0), some (xI i1), some (xI (hpC h (Int.toNat (hpC h (Int.toNat (hpC h r0 3)) 0)) (Int.toNat i1)))] [] h d mc ms R else Wp m_Reader_kindAt 41 [some (xR r0), some (xI i1), some (xI (hpC h (Int.toNat (hpC h (Int.toNat (hpC h r0 3)) 0)) (Int.toNat i1)))] [] h d mc ms R)))))) : Wp m_Reader_kindAt 17 [some (xR r0), some (xI i1), o2] [] h d mc ms R := Wp_blk ok_Reader_kindAt_17 H
def k_Reader_kindAt_39 : List AI := [(.iconst 5, []), (.ireturn, [1])]
set_option maxRecDepth 20000 in
theorem ok_Reader_kindAt_39 : okB m_Reader_kindAt 39 k_Reader_kindAt_39 = true := by decide +kernel
set_option maxRecDepth 20000 in
theorem b_Reader_kindAt_39 (o0 : Option AV) (o1 : Option AV) (o2 : Option AV) {h : Hp} {d mc ms : Nat} {R : PR} (H : R (some (xI (5 : Int))) h) : Wp m_Reader_kindAt 39 [o0, o1, o2] [] h d mc ms R := Wp_blk ok_Reader_kindAt_39 H
def k_Reader_kindAt_41 : List AI := [(.iload 2, []), (.iconst 59, []), (.if_icmp .ne 0, [49]), (.iconst 3, []), (.ireturn, [1])]
set_option maxRecDepth 20000 in
theorem ok_Reader_kindAt_41 : okB m_Reader_kindAt 41 k_Reader_kindAt_41 = true := by decide +kernel
set_option maxRecDepth 20000 in
theorem b_Reader_kindAt_41 (r0 : Nat) (i1 : Int) (i2 : Int) {h : Hp} {d mc ms : Nat} {R : PR} (H : (if i2 = (59 : Int) then R (some (xI (3 : Int))) h else Wp m_Reader_kindAt 49 [some (xR r0), some (xI i1), some (xI i2)] [] h d mc ms R)) : Wp m_Reader_kindAt 41 [some (xR r0), some (xI i1), some (xI i2)] [] h d mc ms R := Wp_blk ok_Reader_kindAt_41 H
def k_Reader_kindAt_49 : List AI := [(.iload 2, []), (.iconst 48, []), (.if_icmp .lt 0, [63]), (.iload 2, []), (.iconst 57, []), (.if_icmp .gt 0, [63]), (.iconst 2, []), (.ireturn, [1])]
set_option maxRecDepth 20000 in
theorem ok_Reader_kindAt_49 : okB m_Reader_kindAt 49 k_Reader_kindAt_49 = true := by decide +kernel
set_option maxRecDepth 20000 in
theorem b_Reader_kindAt_49 (r0 : Nat) (i1 : Int) (i2 : Int) {h : Hp} {d mc ms : Nat} {R : PR} (H : (if i2 < (48 : Int) then Wp m_Reader_kindAt 63 [some (xR r0), some (xI i1), some (xI i2)] [] h d mc ms R else (if (57 : Int) < i2 then Wp m_Reader_kindAt 63 [some (xR r0), some (xI i1), some (xI i2)] [] h d mc ms R else R (some (xI (2 : Int))) h))) : Wp m_Reader_kindAt 49 [some (xR r0), some (xI i1), some (xI i2)] [] h d mc ms R := Wp_blk ok_Reader_kindAt_49 H
def k_Reader_kindAt_63 : List AI := [(.aload 0, []), (.getfield 0, [7, 3, 2, 388]), (.iload 1, []), (.invokevirtual 0, [26, 1, 3, 0, 0, 1, 9, 604, 605, 606, 121]), (.ifCond .eq 0, [78]), (.iconst 1, []), (.goto 0, []), (.nop, [79])]
set_option maxRecDepth 20000 in
theorem ok_Reader_kindAt_63 : okB m_Reader_kindAt 63 k_Reader_kindAt_63 = true := by decide +kernel
set_option maxRecDepth 20000 in
theorem b_Reader_kindAt_63 (r0 : Nat) (i1 : Int) (o2 : Option AV) {h : Hp} {d mc ms : Nat} {R : PR} (H : ((hpT h r0).1 = 7 ∧ ((1 ≤ d ∧ 0 ≤ mc ∧ 0 ≤ ms ∧ (hpT h (Int.toNat (hpC h r0 3))).1 = 9) ∧ ∃ Q1 : PR, Wp m_Tape_letterAt 0 [some (xR (Int.toNat (hpC h r0 3))), some (xI i1), none] [] h (d - 1) 0 0 Q1 ∧ ∀ (v1 : Int) (h1 : Hp), Q1 (some (xI v1)) h1 → (if v1 = (0 : Int) then Wp m_Reader_kindAt 78 [some (xR r0), some (xI i1), o2] [] h1 d mc ms R else Wp m_Reader_kindAt 79 [some (xR r0), some (xI i1), o2] [xI (1 : Int)] h1 d mc ms R)))) : Wp m_Reader_kindAt 63 [some (xR r0), some (xI i1), o2] [] h d mc ms R := Wp_blk ok_Reader_kindAt_63 H
def k_Reader_kindAt_78 : List AI := [(.iconst 4, []), (.nop, [79])]
set_option maxRecDepth 20000 in
theorem ok_Reader_kindAt_78 : okB m_Reader_kindAt 78 k_Reader_kindAt_78 = true := by decide +kernel
set_option maxRecDepth 20000 in
theorem b_Reader_kindAt_78 (o0 : Option AV) (o1 : Option AV) (o2 : Option AV) {h : Hp} {d mc ms : Nat} {R : PR} (H : Wp m_Reader_kindAt 79 [o0, o1, o2] [xI (4 : Int)] h d mc ms R) : Wp m_Reader_kindAt 78 [o0, o1, o2] [] h d mc ms R := Wp_blk ok_Reader_kindAt_78 H
def k_Reader_kindAt_79 : List AI := [(.ireturn, [1])]
set_option maxRecDepth 20000 in
theorem ok_Reader_kindAt_79 : okB m_Reader_kindAt 79 k_Reader_kindAt_79 = true := by decide +kernel
set_option maxRecDepth 20000 in
theorem b_Reader_kindAt_79 (o0 : Option AV) (o1 : Option AV) (o2 : Option AV) (p0 : Int) {h : Hp} {d mc ms : Nat} {R : PR} (H : R (some (xI p0)) h) : Wp m_Reader_kindAt 79 [o0, o1, o2] [xI p0] h d mc ms R := Wp_blk ok_Reader_kindAt_79 H
def k_Reader_readStatement_0 : List AI := [(.aload 0, []), (.getfield 0, [7, 8, 0, 393]), (.tableswitch 0 0 0 #[], [221, 0, 72, 1, 72, 2, 72, 3, 96, 4, 116, 5, 136, 6, 156, 7, 176, 8, 221, 9, 221, 10, 196, 11, 221, 12, 216])]
set_option maxRecDepth 20000 in
theorem ok_Reader_readStatement_0 : okB m_Reader_readStatement 0 k_Reader_readStatement_0 = true := by decide +kernel
set_option maxRecDepth 20000 in
theorem b_Reader_readStatement_0 (r0 : Nat) {h : Hp} {d mc ms : Nat} {R : PR} (H : ((hpT h r0).1 = 7 ∧ (if (hpC h r0 8) = ((0 : Nat) : Int) then Wp m_Reader_readStatement 72 [some (xR r0)] [] h d mc ms R else (if (hpC h r0 8) = ((1 : Nat) : Int) then Wp m_Reader_readStatement 72 [some (xR r0)] [] h d mc ms R else (if (hpC h r0 8) = ((2 : Nat) : Int) then Wp m_Reader_readStatement 72 [some (xR r0)] [] h d mc ms R else (if (hpC h r0 8) = ((3 : Nat) : Int) then Wp m_Reader_readStatement 96 [some (xR r0)] [] h d mc ms R else (if (hpC h r0 8) = ((4 : Nat) : Int) then Wp m_Reader_readStatement 116 [some (xR r0)] [] h d mc ms R else (if (hpC h r0 8) = ((5 : Nat) : Int) then Wp m_Reader_readStatement 136 [some (xR r0)] [] h d mc ms R else (if (hpC h r0 8) = ((6 : Nat) : Int) then Wp m_Reader_readStatement 156 [some (xR r0)] [] h d mc ms R else (if (hpC h r0 8) = ((7 : Nat) : Int) then Wp m_Reader_readStatement 176 [some (xR r0)] [] h d mc ms R else (if (hpC h r0 8) = ((8 : Nat) : Int) then Wp m_Reader_readStatement 221 [some (xR r0)] [] h d mc ms R else (if (hpC h r0 8) = ((9 : Nat) : Int) then Wp m_Reader_readStatement 221 [some (xR r0)] [] h d mc ms R else (if (hpC h r0 8) = ((10 : Nat) : Int) then Wp m_Reader_readStatement 196 [some (xR r0)] [] h d mc ms R else (if (hpC h r0 8) = ((11 : Nat) : Int) then Wp m_Reader_readStatement 221 [some (xR r0)] [] h d mc ms R else (if (hpC h r0 8) = ((12 : Nat) : Int) then Wp m_Reader_readStatement 216 [some (xR r0)] [] h d mc ms R else Wp m_Reader_readStatement 221 [some (xR r0)] [] h d mc ms R))))))))))))))) : Wp m_Reader_readStatement 0 [some (xR r0)] [] h d mc ms R := Wp_blk ok_Reader_readStatement_0 H
def k_Reader_readStatement_72 : List AI := [(.aload 0, []), (.aload 0, []), (.getfield 0, [7, 8, 0, 393]), (.invokevirtual 0, [30, 1, 3, 0, 0, 1, 7, 621, 623, 5, 127]), (.ifCond .eq 0, [94]), (.aload 0, []), (.invokevirtual 0, [35, 0, 1, 0, 0, 1, 7, 641, 643, 10, 127]), (.ifCond .eq 0, [94]), (.iconst 1, []), (.goto 0, []), (.nop, [95])]
set_option maxRecDepth 20000 in
theorem ok_Reader_readStatement_72 : okB m_Reader_readStatement 72 k_Reader_readStatement_72 = true := by decide +kernel
set_option maxRecDepth 20000 in
theorem b_Reader_readStatement_72 (r0 : Nat) {h : Hp} {d mc ms : Nat} {R : PR} (H : ((hpT h r0).1 = 7 ∧ ((1 ≤ d ∧ 0 ≤ mc ∧ 0 ≤ ms ∧ (hpT h r0).1 = 7) ∧ ∃ Q1 : PR, Wp m_Reader_readSetting 0 [some (xR r0), some (xI (hpC h r0 8)), none] [] h (d - 1) 0 0 Q1 ∧ ∀ (v1 : Int) (h1 : Hp), Q1 (some (xI v1)) h1 → (if v1 = (0 : Int) then Wp m_Reader_readStatement 94 [some (xR r0)] [] h1 d mc ms R else ((1 ≤ d ∧ 0 ≤ mc ∧ 0 ≤ ms ∧ (hpT h1 r0).1 = 7) ∧ ∃ Q2 : PR, Wp m_Reader_readStop 0 [some (xR r0)] [] h1 (d - 1) 0 0 Q2 ∧ ∀ (v2 : Int) (h2 : Hp), Q2 (some (xI v2)) h2 → (if v2 = (0 : Int) then Wp m_Reader_readStatement 94 [some (xR r0)] [] h2 d mc ms R else Wp m_Reader_readStatement 95 [some (xR r0)] [xI (1 : Int)] h2 d mc ms R)))))) : Wp m_Reader_readStatement 72 [some (xR r0)] [] h d mc ms R := Wp_blk ok_Reader_readStatement_72 H
def k_Reader_readStatement_94 : List AI := [(.iconst 0, []), (.nop, [95])]
set_option maxRecDepth 20000 in
theorem ok_Reader_readStatement_94 : okB m_Reader_readStatement 94 k_Reader_readStatement_94 = true := by decide +kernel
set_option maxRecDepth 20000 in
theorem b_Reader_readStatement_94 (o0 : Option AV) {h : Hp} {d mc ms : Nat} {R : PR} (H : Wp m_Reader_readStatement 95 [o0] [xI (0 : Int)] h d mc ms R) : Wp m_Reader_readStatement 94 [o0] [] h d mc ms R := Wp_blk ok_Reader_readStatement_94 H
def k_Reader_readStatement_95 : List AI := [(.ireturn, [3])]
set_option maxRecDepth 20000 in
theorem ok_Reader_readStatement_95 : okB m_Reader_readStatement 95 k_Reader_readStatement_95 = true := by decide +kernel
set_option maxRecDepth 20000 in
theorem b_Reader_readStatement_95 (o0 : Option AV) (p0 : Int) {h : Hp} {d mc ms : Nat} {R : PR} (H : ((p0 = 0 ∨ p0 = 1) ∧ R (some (xI p0)) h)) : Wp m_Reader_readStatement 95 [o0] [xI p0] h d mc ms R := Wp_blk ok_Reader_readStatement_95 H
def k_Reader_readStatement_96 : List AI := [(.aload 0, []), (.invokevirtual 0, [36, 0, 1, 0, 0, 1, 7, 645, 647, 11, 127]), (.ifCond .eq 0, [114]), (.aload 0, []), (.invokevirtual 0, [35, 0, 1, 0, 0, 1, 7, 641, 643, 10, 127]), (.ifCond .eq 0, [114]), (.iconst 1, []), (.goto 0, []), (.nop, [115])]
set_option maxRecDepth 20000 in
theorem ok_Reader_readStatement_96 : okB m_Reader_readStatement 96 k_Reader_readStatement_96 = true := by decide +kernel
set_option maxRecDepth 20000 in
theorem b_Reader_readStatement_96 (r0 : Nat) {h : Hp} {d mc ms : Nat} {R : PR} (H : ((1 ≤ d ∧ 0 ≤ mc ∧ 0 ≤ ms ∧ (hpT h r0).1 = 7) ∧ ∃ Q1 : PR, Wp m_Reader_readMute 0 [some (xR r0)] [] h (d - 1) 0 0 Q1 ∧ ∀ (v1 : Int) (h1 : Hp), Q1 (some (xI v1)) h1 → (if v1 = (0 : Int) then Wp m_Reader_readStatement 114 [some (xR r0)] [] h1 d mc ms R else ((1 ≤ d ∧ 0 ≤ mc ∧ 0 ≤ ms ∧ (hpT h1 r0).1 = 7) ∧ ∃ Q2 : PR, Wp m_Reader_readStop 0 [some (xR r0)] [] h1 (d - 1) 0 0 Q2 ∧ ∀ (v2 : Int) (h2 : Hp), Q2 (some (xI v2)) h2 → (if v2 = (0 : Int) then Wp m_Reader_readStatement 114 [some (xR r0)] [] h2 d mc ms R else Wp m_Reader_readStatement 115 [some (xR r0)] [xI (1 : Int)] h2 d mc ms R))))) : Wp m_Reader_readStatement 96 [some (xR r0)] [] h d mc ms R := Wp_blk ok_Reader_readStatement_96 H
def k_Reader_readStatement_114 : List AI := [(.iconst 0, []), (.nop, [115])]
set_option maxRecDepth 20000 in
theorem ok_Reader_readStatement_114 : okB m_Reader_readStatement 114 k_Reader_readStatement_114 = true := by decide +kernel
set_option maxRecDepth 20000 in
theorem b_Reader_readStatement_114 (o0 : Option AV) {h : Hp} {d mc ms : Nat} {R : PR} (H : Wp m_Reader_readStatement 115 [o0] [xI (0 : Int)] h d mc ms R) : Wp m_Reader_readStatement 114 [o0] [] h d mc ms R := Wp_blk ok_Reader_readStatement_114 H
def k_Reader_readStatement_115 : List AI := [(.ireturn, [3])]
set_option maxRecDepth 20000 in
theorem ok_Reader_readStatement_115 : okB m_Reader_readStatement 115 k_Reader_readStatement_115 = true := by decide +kernel
set_option maxRecDepth 20000 in
theorem b_Reader_readStatement_115 (o0 : Option AV) (p0 : Int) {h : Hp} {d mc ms : Nat} {R : PR} (H : ((p0 = 0 ∨ p0 = 1) ∧ R (some (xI p0)) h)) : Wp m_Reader_readStatement 115 [o0] [xI p0] h d mc ms R := Wp_blk ok_Reader_readStatement_115 H
def k_Reader_readStatement_116 : List AI := [(.aload 0, []), (.invokevirtual 0, [41, 0, 1, 0, 0, 1, 7, 667, 669, 15, 127]), (.ifCond .eq 0, [134]), (.aload 0, []), (.invokevirtual 0, [35, 0, 1, 0, 0, 1, 7, 641, 643, 10, 127]), (.ifCond .eq 0, [134]), (.iconst 1, []), (.goto 0, []), (.nop, [135])]
set_option maxRecDepth 20000 in
theorem ok_Reader_readStatement_116 : okB m_Reader_readStatement 116 k_Reader_readStatement_116 = true := by decide +kernel
set_option maxRecDepth 20000 in
theorem b_Reader_readStatement_116 (r0 : Nat) {h : Hp} {d mc ms : Nat} {R : PR} (H : ((1 ≤ d ∧ 0 ≤ mc ∧ 0 ≤ ms ∧ (hpT h r0).1 = 7) ∧ ∃ Q1 : PR, Wp m_Reader_readSame 0 [some (xR r0)] [] h (d - 1) 0 0 Q1 ∧ ∀ (v1 : Int) (h1 : Hp), Q1 (some (xI v1)) h1 → (if v1 = (0 : Int) then Wp m_Reader_readStatement 134 [some (xR r0)] [] h1 d mc ms R else ((1 ≤ d ∧ 0 ≤ mc ∧ 0 ≤ ms ∧ (hpT h1 r0).1 = 7) ∧ ∃ Q2 : PR, Wp m_Reader_readStop 0 [some (xR r0)] [] h1 (d - 1) 0 0 Q2 ∧ ∀ (v2 : Int) (h2 : Hp), Q2 (some (xI v2)) h2 → (if v2 = (0 : Int) then Wp m_Reader_readStatement 134 [some (xR r0)] [] h2 d mc ms R else Wp m_Reader_readStatement 135 [some (xR r0)] [xI (1 : Int)] h2 d mc ms R))))) : Wp m_Reader_readStatement 116 [some (xR r0)] [] h d mc ms R := Wp_blk ok_Reader_readStatement_116 H
def k_Reader_readStatement_134 : List AI := [(.iconst 0, []), (.nop, [135])]
set_option maxRecDepth 20000 in
theorem ok_Reader_readStatement_134 : okB m_Reader_readStatement 134 k_Reader_readStatement_134 = true := by decide +kernel
set_option maxRecDepth 20000 in
theorem b_Reader_readStatement_134 (o0 : Option AV) {h : Hp} {d mc ms : Nat} {R : PR} (H : Wp m_Reader_readStatement 135 [o0] [xI (0 : Int)] h d mc ms R) : Wp m_Reader_readStatement 134 [o0] [] h d mc ms R := Wp_blk ok_Reader_readStatement_134 H
def k_Reader_readStatement_135 : List AI := [(.ireturn, [3])]
set_option maxRecDepth 20000 in
theorem ok_Reader_readStatement_135 : okB m_Reader_readStatement 135 k_Reader_readStatement_135 = true := by decide +kernel
set_option maxRecDepth 20000 in
theorem b_Reader_readStatement_135 (o0 : Option AV) (p0 : Int) {h : Hp} {d mc ms : Nat} {R : PR} (H : ((p0 = 0 ∨ p0 = 1) ∧ R (some (xI p0)) h)) : Wp m_Reader_readStatement 135 [o0] [xI p0] h d mc ms R := Wp_blk ok_Reader_readStatement_135 H
def k_Reader_readStatement_136 : List AI := [(.aload 0, []), (.invokevirtual 0, [44, 0, 3, 0, 0, 1, 7, 679, 681, 16, 127]), (.ifCond .eq 0, [154]), (.aload 0, []), (.invokevirtual 0, [35, 0, 1, 0, 0, 1, 7, 641, 643, 10, 127]), (.ifCond .eq 0, [154]), (.iconst 1, []), (.goto 0, []), (.nop, [155])]
set_option maxRecDepth 20000 in
theorem ok_Reader_readStatement_136 : okB m_Reader_readStatement 136 k_Reader_readStatement_136 = true := by decide +kernel
set_option maxRecDepth 20000 in
theorem b_Reader_readStatement_136 (r0 : Nat) {h : Hp} {d mc ms : Nat} {R : PR} (H : ((1 ≤ d ∧ 0 ≤ mc ∧ 0 ≤ ms ∧ (hpT h r0).1 = 7) ∧ ∃ Q1 : PR, Wp m_Reader_readPair 0 [some (xR r0), none, none] [] h (d - 1) 0 0 Q1 ∧ ∀ (v1 : Int) (h1 : Hp), Q1 (some (xI v1)) h1 → (if v1 = (0 : Int) then Wp m_Reader_readStatement 154 [some (xR r0)] [] h1 d mc ms R else ((1 ≤ d ∧ 0 ≤ mc ∧ 0 ≤ ms ∧ (hpT h1 r0).1 = 7) ∧ ∃ Q2 : PR, Wp m_Reader_readStop 0 [some (xR r0)] [] h1 (d - 1) 0 0 Q2 ∧ ∀ (v2 : Int) (h2 : Hp), Q2 (some (xI v2)) h2 → (if v2 = (0 : Int) then Wp m_Reader_readStatement 154 [some (xR r0)] [] h2 d mc ms R else Wp m_Reader_readStatement 155 [some (xR r0)] [xI (1 : Int)] h2 d mc ms R))))) : Wp m_Reader_readStatement 136 [some (xR r0)] [] h d mc ms R := Wp_blk ok_Reader_readStatement_136 H
def k_Reader_readStatement_154 : List AI := [(.iconst 0, []), (.nop, [155])]
set_option maxRecDepth 20000 in
theorem ok_Reader_readStatement_154 : okB m_Reader_readStatement 154 k_Reader_readStatement_154 = true := by decide +kernel
set_option maxRecDepth 20000 in
theorem b_Reader_readStatement_154 (o0 : Option AV) {h : Hp} {d mc ms : Nat} {R : PR} (H : Wp m_Reader_readStatement 155 [o0] [xI (0 : Int)] h d mc ms R) : Wp m_Reader_readStatement 154 [o0] [] h d mc ms R := Wp_blk ok_Reader_readStatement_154 H
def k_Reader_readStatement_155 : List AI := [(.ireturn, [3])]
set_option maxRecDepth 20000 in
theorem ok_Reader_readStatement_155 : okB m_Reader_readStatement 155 k_Reader_readStatement_155 = true := by decide +kernel
set_option maxRecDepth 20000 in
theorem b_Reader_readStatement_155 (o0 : Option AV) (p0 : Int) {h : Hp} {d mc ms : Nat} {R : PR} (H : ((p0 = 0 ∨ p0 = 1) ∧ R (some (xI p0)) h)) : Wp m_Reader_readStatement 155 [o0] [xI p0] h d mc ms R := Wp_blk ok_Reader_readStatement_155 H
def k_Reader_readStatement_156 : List AI := [(.aload 0, []), (.invokevirtual 0, [47, 0, 1, 0, 0, 1, 7, 691, 693, 17, 127]), (.ifCond .eq 0, [174]), (.aload 0, []), (.invokevirtual 0, [35, 0, 1, 0, 0, 1, 7, 641, 643, 10, 127]), (.ifCond .eq 0, [174]), (.iconst 1, []), (.goto 0, []), (.nop, [175])]
set_option maxRecDepth 20000 in
theorem ok_Reader_readStatement_156 : okB m_Reader_readStatement 156 k_Reader_readStatement_156 = true := by decide +kernel
set_option maxRecDepth 20000 in
theorem b_Reader_readStatement_156 (r0 : Nat) {h : Hp} {d mc ms : Nat} {R : PR} (H : ((1 ≤ d ∧ 0 ≤ mc ∧ 0 ≤ ms ∧ (hpT h r0).1 = 7) ∧ ∃ Q1 : PR, Wp m_Reader_readStreet 0 [some (xR r0)] [] h (d - 1) 0 0 Q1 ∧ ∀ (v1 : Int) (h1 : Hp), Q1 (some (xI v1)) h1 → (if v1 = (0 : Int) then Wp m_Reader_readStatement 174 [some (xR r0)] [] h1 d mc ms R else ((1 ≤ d ∧ 0 ≤ mc ∧ 0 ≤ ms ∧ (hpT h1 r0).1 = 7) ∧ ∃ Q2 : PR, Wp m_Reader_readStop 0 [some (xR r0)] [] h1 (d - 1) 0 0 Q2 ∧ ∀ (v2 : Int) (h2 : Hp), Q2 (some (xI v2)) h2 → (if v2 = (0 : Int) then Wp m_Reader_readStatement 174 [some (xR r0)] [] h2 d mc ms R else Wp m_Reader_readStatement 175 [some (xR r0)] [xI (1 : Int)] h2 d mc ms R))))) : Wp m_Reader_readStatement 156 [some (xR r0)] [] h d mc ms R := Wp_blk ok_Reader_readStatement_156 H
def k_Reader_readStatement_174 : List AI := [(.iconst 0, []), (.nop, [175])]
set_option maxRecDepth 20000 in
theorem ok_Reader_readStatement_174 : okB m_Reader_readStatement 174 k_Reader_readStatement_174 = true := by decide +kernel
set_option maxRecDepth 20000 in
theorem b_Reader_readStatement_174 (o0 : Option AV) {h : Hp} {d mc ms : Nat} {R : PR} (H : Wp m_Reader_readStatement 175 [o0] [xI (0 : Int)] h d mc ms R) : Wp m_Reader_readStatement 174 [o0] [] h d mc ms R := Wp_blk ok_Reader_readStatement_174 H
def k_Reader_readStatement_175 : List AI := [(.ireturn, [3])]
set_option maxRecDepth 20000 in
theorem ok_Reader_readStatement_175 : okB m_Reader_readStatement 175 k_Reader_readStatement_175 = true := by decide +kernel
set_option maxRecDepth 20000 in
theorem b_Reader_readStatement_175 (o0 : Option AV) (p0 : Int) {h : Hp} {d mc ms : Nat} {R : PR} (H : ((p0 = 0 ∨ p0 = 1) ∧ R (some (xI p0)) h)) : Wp m_Reader_readStatement 175 [o0] [xI p0] h d mc ms R := Wp_blk ok_Reader_readStatement_175 H
def k_Reader_readStatement_176 : List AI := [(.aload 0, []), (.invokevirtual 0, [54, 0, 5, 0, 0, 1, 7, 720, 722, 20, 127]), (.ifCond .eq 0, [194]), (.aload 0, []), (.invokevirtual 0, [35, 0, 1, 0, 0, 1, 7, 641, 643, 10, 127]), (.ifCond .eq 0, [194]), (.iconst 1, []), (.goto 0, []), (.nop, [195])]
set_option maxRecDepth 20000 in
theorem ok_Reader_readStatement_176 : okB m_Reader_readStatement 176 k_Reader_readStatement_176 = true := by decide +kernel
set_option maxRecDepth 20000 in
theorem b_Reader_readStatement_176 (r0 : Nat) {h : Hp} {d mc ms : Nat} {R : PR} (H : ((1 ≤ d ∧ 0 ≤ mc ∧ 0 ≤ ms ∧ (hpT h r0).1 = 7) ∧ ∃ Q1 : PR, Wp m_Reader_readHouse 0 [some (xR r0), none, none, none, none] [] h (d - 1) 0 0 Q1 ∧ ∀ (v1 : Int) (h1 : Hp), Q1 (some (xI v1)) h1 → (if v1 = (0 : Int) then Wp m_Reader_readStatement 194 [some (xR r0)] [] h1 d mc ms R else ((1 ≤ d ∧ 0 ≤ mc ∧ 0 ≤ ms ∧ (hpT h1 r0).1 = 7) ∧ ∃ Q2 : PR, Wp m_Reader_readStop 0 [some (xR r0)] [] h1 (d - 1) 0 0 Q2 ∧ ∀ (v2 : Int) (h2 : Hp), Q2 (some (xI v2)) h2 → (if v2 = (0 : Int) then Wp m_Reader_readStatement 194 [some (xR r0)] [] h2 d mc ms R else Wp m_Reader_readStatement 195 [some (xR r0)] [xI (1 : Int)] h2 d mc ms R))))) : Wp m_Reader_readStatement 176 [some (xR r0)] [] h d mc ms R := Wp_blk ok_Reader_readStatement_176 H
def k_Reader_readStatement_194 : List AI := [(.iconst 0, []), (.nop, [195])]
set_option maxRecDepth 20000 in
theorem ok_Reader_readStatement_194 : okB m_Reader_readStatement 194 k_Reader_readStatement_194 = true := by decide +kernel
set_option maxRecDepth 20000 in
theorem b_Reader_readStatement_194 (o0 : Option AV) {h : Hp} {d mc ms : Nat} {R : PR} (H : Wp m_Reader_readStatement 195 [o0] [xI (0 : Int)] h d mc ms R) : Wp m_Reader_readStatement 194 [o0] [] h d mc ms R := Wp_blk ok_Reader_readStatement_194 H
def k_Reader_readStatement_195 : List AI := [(.ireturn, [3])]
set_option maxRecDepth 20000 in
theorem ok_Reader_readStatement_195 : okB m_Reader_readStatement 195 k_Reader_readStatement_195 = true := by decide +kernel
set_option maxRecDepth 20000 in
theorem b_Reader_readStatement_195 (o0 : Option AV) (p0 : Int) {h : Hp} {d mc ms : Nat} {R : PR} (H : ((p0 = 0 ∨ p0 = 1) ∧ R (some (xI p0)) h)) : Wp m_Reader_readStatement 195 [o0] [xI p0] h d mc ms R := Wp_blk ok_Reader_readStatement_195 H
def k_Reader_readStatement_196 : List AI := [(.aload 0, []), (.invokevirtual 0, [59, 0, 3, 0, 0, 1, 7, 740, 742, 22, 127]), (.ifCond .eq 0, [214]), (.aload 0, []), (.invokevirtual 0, [35, 0, 1, 0, 0, 1, 7, 641, 643, 10, 127]), (.ifCond .eq 0, [214]), (.iconst 1, []), (.goto 0, []), (.nop, [215])]
set_option maxRecDepth 20000 in
theorem ok_Reader_readStatement_196 : okB m_Reader_readStatement 196 k_Reader_readStatement_196 = true := by decide +kernel
set_option maxRecDepth 20000 in
theorem b_Reader_readStatement_196 (r0 : Nat) {h : Hp} {d mc ms : Nat} {R : PR} (H : ((1 ≤ d ∧ 0 ≤ mc ∧ 0 ≤ ms ∧ (hpT h r0).1 = 7) ∧ ∃ Q1 : PR, Wp m_Reader_readAlias 0 [some (xR r0), none, none] [] h (d - 1) 0 0 Q1 ∧ ∀ (v1 : Int) (h1 : Hp), Q1 (some (xI v1)) h1 → (if v1 = (0 : Int) then Wp m_Reader_readStatement 214 [some (xR r0)] [] h1 d mc ms R else ((1 ≤ d ∧ 0 ≤ mc ∧ 0 ≤ ms ∧ (hpT h1 r0).1 = 7) ∧ ∃ Q2 : PR, Wp m_Reader_readStop 0 [some (xR r0)] [] h1 (d - 1) 0 0 Q2 ∧ ∀ (v2 : Int) (h2 : Hp), Q2 (some (xI v2)) h2 → (if v2 = (0 : Int) then Wp m_Reader_readStatement 214 [some (xR r0)] [] h2 d mc ms R else Wp m_Reader_readStatement 215 [some (xR r0)] [xI (1 : Int)] h2 d mc ms R))))) : Wp m_Reader_readStatement 196 [some (xR r0)] [] h d mc ms R := Wp_blk ok_Reader_readStatement_196 H
def k_Reader_readStatement_214 : List AI := [(.iconst 0, []), (.nop, [215])]
set_option maxRecDepth 20000 in
theorem ok_Reader_readStatement_214 : okB m_Reader_readStatement 214 k_Reader_readStatement_214 = true := by decide +kernel
set_option maxRecDepth 20000 in
theorem b_Reader_readStatement_214 (o0 : Option AV) {h : Hp} {d mc ms : Nat} {R : PR} (H : Wp m_Reader_readStatement 215 [o0] [xI (0 : Int)] h d mc ms R) : Wp m_Reader_readStatement 214 [o0] [] h d mc ms R := Wp_blk ok_Reader_readStatement_214 H
def k_Reader_readStatement_215 : List AI := [(.ireturn, [3])]
set_option maxRecDepth 20000 in
theorem ok_Reader_readStatement_215 : okB m_Reader_readStatement 215 k_Reader_readStatement_215 = true := by decide +kernel
set_option maxRecDepth 20000 in
theorem b_Reader_readStatement_215 (o0 : Option AV) (p0 : Int) {h : Hp} {d mc ms : Nat} {R : PR} (H : ((p0 = 0 ∨ p0 = 1) ∧ R (some (xI p0)) h)) : Wp m_Reader_readStatement 215 [o0] [xI p0] h d mc ms R := Wp_blk ok_Reader_readStatement_215 H
def k_Reader_readStatement_216 : List AI := [(.aload 0, []), (.invokevirtual 0, [61, 0, 2, 0, 0, 1, 7, 750, 752, 23, 127]), (.ireturn, [3])]
set_option maxRecDepth 20000 in
theorem ok_Reader_readStatement_216 : okB m_Reader_readStatement 216 k_Reader_readStatement_216 = true := by decide +kernel
set_option maxRecDepth 20000 in
theorem b_Reader_readStatement_216 (r0 : Nat) {h : Hp} {d mc ms : Nat} {R : PR} (H : ((1 ≤ d ∧ 0 ≤ mc ∧ 0 ≤ ms ∧ (hpT h r0).1 = 7) ∧ ∃ Q1 : PR, Wp m_Reader_readPool 0 [some (xR r0), none] [] h (d - 1) 0 0 Q1 ∧ ∀ (v1 : Int) (h1 : Hp), Q1 (some (xI v1)) h1 → ((v1 = 0 ∨ v1 = 1) ∧ R (some (xI v1)) h1))) : Wp m_Reader_readStatement 216 [some (xR r0)] [] h d mc ms R := Wp_blk ok_Reader_readStatement_216 H
def k_Reader_readStatement_221 : List AI := [(.aload 0, []), (.iconst 1, []), (.invokevirtual 0, [32, 1, 2, 0, 0, 1, 7, 629, 631, 7, 127]), (.ireturn, [3])]
set_option maxRecDepth 20000 in
theorem ok_Reader_readStatement_221 : okB m_Reader_readStatement 221 k_Reader_readStatement_221 = true := by decide +kernel
set_option maxRecDepth 20000 in
theorem b_Reader_readStatement_221 (r0 : Nat) {h : Hp} {d mc ms : Nat} {R : PR} (H : ((1 ≤ d ∧ 0 ≤ mc ∧ 0 ≤ ms ∧ (hpT h r0).1 = 7) ∧ ∃ Q1 : PR, Wp m_Reader_fails 0 [some (xR r0), some (xI (1 : Int))] [] h (d - 1) 0 0 Q1 ∧ ∀ (v1 : Int) (h1 : Hp), Q1 (some (xI v1)) h1 → ((v1 = 0 ∨ v1 = 1) ∧ R (some (xI v1)) h1))) : Wp m_Reader_readStatement 221 [some (xR r0)] [] h d mc ms R := Wp_blk ok_Reader_readStatement_221 H
def k_Reader_readSetting_0 : List AI := [(.aload 0, []), (.invokevirtual 0, [31, 0, 1, 0, 0, 1, 7, 625, 627, 6, 127]), (.ifCond .ne 0, [9]), (.iconst 0, []), (.ireturn, [3])]
set_option maxRecDepth 20000 in
theorem ok_Reader_readSetting_0 : okB m_Reader_readSetting 0 k_Reader_readSetting_0 = true := by decide +kernel
set_option maxRecDepth 20000 in
theorem b_Reader_readSetting_0 (r0 : Nat) (i1 : Int) (o2 : Option AV) {h : Hp} {d mc ms : Nat} {R : PR} (H : ((1 ≤ d ∧ 0 ≤ mc ∧ 0 ≤ ms ∧ (hpT h r0).1 = 7) ∧ ∃ Q1 : PR, Wp m_Reader_isFirst 0 [some (xR r0)] [] h (d - 1) 0 0 Q1 ∧ ∀ (v1 : Int) (h1 : Hp), Q1 (some (xI v1)) h1 → (if v1 = (0 : Int) then (((0 : Int) = 0 ∨ (0 : Int) = 1) ∧ R (some (xI (0 : Int))) h1) else Wp m_Reader_readSetting 9 [some (xR r0), some (xI i1), o2] [] h1 d mc ms R))) : Wp m_Reader_readSetting 0 [some (xR r0), some (xI i1), o2] [] h d mc ms R := Wp_blk ok_Reader_readSetting_0 H
def k_Reader_readSetting_9 : List AI := [(.aload 0, []), (.invokevirtual 0, [23, 0, 3, 0, 0, 0, 7, 592, 594, 1, 127]), (.aload 0, []), (.invokevirtual 0, [33, 0, 1, 0, 0, 1, 7, 633, 635, 8, 127]), (.ifCond .ne 0, [22]), (.iconst 0, []), (.ireturn, [3])]
set_option maxRecDepth 20000 in
theorem ok_Reader_readSetting_9 : okB m_Reader_readSetting 9 k_Reader_readSetting_9 = true := by decide +kernel
set_option maxRecDepth 20000 in
theorem b_Reader_readSetting_9 (r0 : Nat) (i1 : Int) (o2 : Option AV) {h : Hp} {d mc ms : Nat} {R : PR} (H : ((1 ≤ d ∧ 0 ≤ mc ∧ 0 ≤ ms ∧ (hpT h r0).1 = 7) ∧ ∃ Q1 : PR, Wp m_Reader_step 0 [some (xR r0), none, none] [] h (d - 1) 0 0 Q1 ∧ ∀ (h1 : Hp), Q1 none h1 → ((1 ≤ d ∧ 0 ≤ mc ∧ 0 ≤ ms ∧ (hpT h1 r0).1 = 7) ∧ ∃ Q2 : PR, Wp m_Reader_isNumber 0 [some (xR r0)] [] h1 (d - 1) 0 0 Q2 ∧ ∀ (v2 : Int) (h2 : Hp), Q2 (some (xI v2)) h2 → (if v2 = (0 : Int) then (((0 : Int) = 0 ∨ (0 : Int) = 1) ∧ R (some (xI (0 : Int))) h2) else Wp m_Reader_readSetting 22 [some (xR r0), some (xI i1), o2] [] h2 d mc ms R)))) : Wp m_Reader_readSetting 9 [some (xR r0), some (xI i1), o2] [] h d mc ms R := Wp_blk ok_Reader_readSetting_9 H
def k_Reader_readSetting_22 : List AI := [(.aload 0, []), (.invokevirtual 0, [34, 0, 3, 0, 0, 1, 7, 637, 639, 9, 127]), (.istore 2, []), (.iload 1, []), (.tableswitch 0 0 0 #[], [117, 0, 56, 1, 86])]
set_option maxRecDepth 20000 in
theorem ok_Reader_readSetting_22 : okB m_Reader_readSetting 22 k_Reader_readSetting_22 = true := by decide +kernel
set_option maxRecDepth 20000 in
theorem b_Reader_readSetting_22 (r0 : Nat) (i1 : Int) (o2 : Option AV) {h : Hp} {d mc ms : Nat} {R : PR} (H : ((1 ≤ d ∧ 0 ≤ mc ∧ 0 ≤ ms ∧ (hpT h r0).1 = 7) ∧ ∃ Q1 : PR, Wp m_Reader_number 0 [some (xR r0), none, none] [] h (d - 1) 0 0 Q1 ∧ ∀ (v1 : Int) (h1 : Hp), Q1 (some (xI v1)) h1 → (if i1 = ((0 : Nat) : Int) then Wp m_Reader_readSetting 56 [some (xR r0), some (xI i1), some (xI v1)] [] h1 d mc ms R else (if i1 = ((1 : Nat) : Int) then Wp m_Reader_readSetting 86 [some (xR r0), some (xI i1), some (xI v1)] [] h1 d mc ms R else Wp m_Reader_readSetting 117 [some (xR r0), some (xI i1), some (xI v1)] [] h1 d mc ms R)))) : Wp m_Reader_readSetting 22 [some (xR r0), some (xI i1), o2] [] h d mc ms R := Wp_blk ok_Reader_readSetting_22 H
def k_Reader_readSetting_56 : List AI := [(.aload 0, []), (.getfield 0, [7, 0, 2, 382]), (.getfield 0, [10, 0, 2, 341]), (.iload 2, []), (.putfield 0, [8, 0, 0, 239]), (.iload 2, []), (.iconst 3, []), (.if_icmp .le 0, [80]), (.aload 0, []), (.iconst 2, []), (.invokevirtual 0, [32, 1, 2, 0, 0, 1, 7, 629, 631, 7, 127]), (.ifCond .eq 0, [84]), (.nop, [80])]
set_option maxRecDepth 20000 in
theorem ok_Reader_readSetting_56 : okB m_Reader_readSetting 56 k_Reader_readSetting_56 = true := by decide +kernel
set_option maxRecDepth 20000 in
theorem b_Reader_readSetting_56 (r0 : Nat) (o1 : Option AV) (i2 : Int) {h : Hp} {d mc ms : Nat} {R : PR} (H : ((hpT h r0).1 = 7 ∧ ((hpT h (Int.toNat (hpC h r0 0))).1 = 10 ∧ ((hpT h (Int.toNat (hpC h (Int.toNat (hpC h r0 0)) 0))).1 = 8 ∧ ∀ g1 : Hp, g1 = hpU h (Int.toNat (hpC h (Int.toNat (hpC h r0 0)) 0)) 0 i2 → (if (3 : Int) < i2 then ((1 ≤ d ∧ 0 ≤ mc ∧ 0 ≤ ms ∧ (hpT g1 r0).1 = 7) ∧ ∃ Q1 : PR, Wp m_Reader_fails 0 [some (xR r0), some (xI (2 : Int))] [] g1 (d - 1) 0 0 Q1 ∧ ∀ (v1 : Int) (h1 : Hp), Q1 (some (xI v1)) h1 → (if v1 = (0 : Int) then Wp m_Reader_readSetting 84 [some (xR r0), o1, some (xI i2)] [] h1 d mc ms R else Wp m_Reader_readSetting 80 [some (xR r0), o1, some (xI i2)] [] h1 d mc ms R)) else Wp m_Reader_readSetting 80 [some (xR r0), o1, some (xI i2)] [] g1 d mc ms R))))) : Wp m_Reader_readSetting 56 [some (xR r0), o1, some (xI i2)] [] h d mc ms R := Wp_blk ok_Reader_readSetting_56 H
def k_Reader_readSetting_80 : List AI := [(.iconst 1, []), (.goto 0, []), (.nop, [85])]
set_option maxRecDepth 20000 in
theorem ok_Reader_readSetting_80 : okB m_Reader_readSetting 80 k_Reader_readSetting_80 = true := by decide +kernel
set_option maxRecDepth 20000 in
theorem b_Reader_readSetting_80 (o0 : Option AV) (o1 : Option AV) (o2 : Option AV) {h : Hp} {d mc ms : Nat} {R : PR} (H : Wp m_Reader_readSetting 85 [o0, o1, o2] [xI (1 : Int)] h d mc ms R) : Wp m_Reader_readSetting 80 [o0, o1, o2] [] h d mc ms R := Wp_blk ok_Reader_readSetting_80 H
def k_Reader_readSetting_84 : List AI := [(.iconst 0, []), (.nop, [85])]
set_option maxRecDepth 20000 in
theorem ok_Reader_readSetting_84 : okB m_Reader_readSetting 84 k_Reader_readSetting_84 = true := by decide +kernel
set_option maxRecDepth 20000 in
theorem b_Reader_readSetting_84 (o0 : Option AV) (o1 : Option AV) (o2 : Option AV) {h : Hp} {d mc ms : Nat} {R : PR} (H : Wp m_Reader_readSetting 85 [o0, o1, o2] [xI (0 : Int)] h d mc ms R) : Wp m_Reader_readSetting 84 [o0, o1, o2] [] h d mc ms R := Wp_blk ok_Reader_readSetting_84 H
def k_Reader_readSetting_85 : List AI := [(.ireturn, [3])]
set_option maxRecDepth 20000 in
theorem ok_Reader_readSetting_85 : okB m_Reader_readSetting 85 k_Reader_readSetting_85 = true := by decide +kernel
set_option maxRecDepth 20000 in
theorem b_Reader_readSetting_85 (o0 : Option AV) (o1 : Option AV) (o2 : Option AV) (p0 : Int) {h : Hp} {d mc ms : Nat} {R : PR} (H : ((p0 = 0 ∨ p0 = 1) ∧ R (some (xI p0)) h)) : Wp m_Reader_readSetting 85 [o0, o1, o2] [xI p0] h d mc ms R := Wp_blk ok_Reader_readSetting_85 H
def k_Reader_readSetting_86 : List AI := [(.aload 0, []), (.getfield 0, [7, 0, 2, 382]), (.getfield 0, [10, 0, 2, 341]), (.iload 2, []), (.putfield 0, [8, 1, 0, 243]), (.iload 2, []), (.iconst 99, []), (.if_icmp .le 0, [111]), (.aload 0, []), (.iconst 2, []), (.invokevirtual 0, [32, 1, 2, 0, 0, 1, 7, 629, 631, 7, 127]), (.ifCond .eq 0, [115]), (.nop, [111])]
set_option maxRecDepth 20000 in
theorem ok_Reader_readSetting_86 : okB m_Reader_readSetting 86 k_Reader_readSetting_86 = true := by decide +kernel
set_option maxRecDepth 20000 in
theorem b_Reader_readSetting_86 (r0 : Nat) (o1 : Option AV) (i2 : Int) {h : Hp} {d mc ms : Nat} {R : PR} (H : ((hpT h r0).1 = 7 ∧ ((hpT h (Int.toNat (hpC h r0 0))).1 = 10 ∧ ((hpT h (Int.toNat (hpC h (Int.toNat (hpC h r0 0)) 0))).1 = 8 ∧ ∀ g1 : Hp, g1 = hpU h (Int.toNat (hpC h (Int.toNat (hpC h r0 0)) 0)) 1 i2 → (if (99 : Int) < i2 then ((1 ≤ d ∧ 0 ≤ mc ∧ 0 ≤ ms ∧ (hpT g1 r0).1 = 7) ∧ ∃ Q1 : PR, Wp m_Reader_fails 0 [some (xR r0), some (xI (2 : Int))] [] g1 (d - 1) 0 0 Q1 ∧ ∀ (v1 : Int) (h1 : Hp), Q1 (some (xI v1)) h1 → (if v1 = (0 : Int) then Wp m_Reader_readSetting 115 [some (xR r0), o1, some (xI i2)] [] h1 d mc ms R else Wp m_Reader_readSetting 111 [some (xR r0), o1, some (xI i2)] [] h1 d mc ms R)) else Wp m_Reader_readSetting 111 [some (xR r0), o1, some (xI i2)] [] g1 d mc ms R))))) : Wp m_Reader_readSetting 86 [some (xR r0), o1, some (xI i2)] [] h d mc ms R := Wp_blk ok_Reader_readSetting_86 H
def k_Reader_readSetting_111 : List AI := [(.iconst 1, []), (.goto 0, []), (.nop, [116])]
set_option maxRecDepth 20000 in
theorem ok_Reader_readSetting_111 : okB m_Reader_readSetting 111 k_Reader_readSetting_111 = true := by decide +kernel
set_option maxRecDepth 20000 in
theorem b_Reader_readSetting_111 (o0 : Option AV) (o1 : Option AV) (o2 : Option AV) {h : Hp} {d mc ms : Nat} {R : PR} (H : Wp m_Reader_readSetting 116 [o0, o1, o2] [xI (1 : Int)] h d mc ms R) : Wp m_Reader_readSetting 111 [o0, o1, o2] [] h d mc ms R := Wp_blk ok_Reader_readSetting_111 H
def k_Reader_readSetting_115 : List AI := [(.iconst 0, []), (.nop, [116])]
set_option maxRecDepth 20000 in
theorem ok_Reader_readSetting_115 : okB m_Reader_readSetting 115 k_Reader_readSetting_115 = true := by decide +kernel
set_option maxRecDepth 20000 in
theorem b_Reader_readSetting_115 (o0 : Option AV) (o1 : Option AV) (o2 : Option AV) {h : Hp} {d mc ms : Nat} {R : PR} (H : Wp m_Reader_readSetting 116 [o0, o1, o2] [xI (0 : Int)] h d mc ms R) : Wp m_Reader_readSetting 115 [o0, o1, o2] [] h d mc ms R := Wp_blk ok_Reader_readSetting_115 H
def k_Reader_readSetting_116 : List AI := [(.ireturn, [3])]
set_option maxRecDepth 20000 in
theorem ok_Reader_readSetting_116 : okB m_Reader_readSetting 116 k_Reader_readSetting_116 = true := by decide +kernel
set_option maxRecDepth 20000 in
theorem b_Reader_readSetting_116 (o0 : Option AV) (o1 : Option AV) (o2 : Option AV) (p0 : Int) {h : Hp} {d mc ms : Nat} {R : PR} (H : ((p0 = 0 ∨ p0 = 1) ∧ R (some (xI p0)) h)) : Wp m_Reader_readSetting 116 [o0, o1, o2] [xI p0] h d mc ms R := Wp_blk ok_Reader_readSetting_116 H
def k_Reader_readSetting_117 : List AI := [(.aload 0, []), (.getfield 0, [7, 0, 2, 382]), (.getfield 0, [10, 0, 2, 341]), (.iload 2, []), (.putfield 0, [8, 2, 0, 246]), (.iload 2, []), (.iconst 1, []), (.if_icmp .lt 0, [139]), (.iload 2, []), (.iconst 99, []), (.if_icmp .le 0, [147]), (.nop, [139])]
set_option maxRecDepth 20000 in
theorem ok_Reader_readSetting_117 : okB m_Reader_readSetting 117 k_Reader_readSetting_117 = true := by decide +kernel
set_option maxRecDepth 20000 in
theorem b_Reader_readSetting_117 (r0 : Nat) (o1 : Option AV) (i2 : Int) {h : Hp} {d mc ms : Nat} {R : PR} (H : ((hpT h r0).1 = 7 ∧ ((hpT h (Int.toNat (hpC h r0 0))).1 = 10 ∧ ((hpT h (Int.toNat (hpC h (Int.toNat (hpC h r0 0)) 0))).1 = 8 ∧ ∀ g1 : Hp, g1 = hpU h (Int.toNat (hpC h (Int.toNat (hpC h r0 0)) 0)) 2 i2 → (if i2 < (1 : Int) then Wp m_Reader_readSetting 139 [some (xR r0), o1, some (xI i2)] [] g1 d mc ms R else (if (99 : Int) < i2 then Wp m_Reader_readSetting 139 [some (xR r0), o1, some (xI i2)] [] g1 d mc ms R else Wp m_Reader_readSetting 147 [some (xR r0), o1, some (xI i2)] [] g1 d mc ms R)))))) : Wp m_Reader_readSetting 117 [some (xR r0), o1, some (xI i2)] [] h d mc ms R := Wp_blk ok_Reader_readSetting_117 H
def k_Reader_readSetting_139 : List AI := [(.aload 0, []), (.iconst 2, []), (.invokevirtual 0, [32, 1, 2, 0, 0, 1, 7, 629, 631, 7, 127]), (.ifCond .eq 0, [151]), (.nop, [147])]
set_option maxRecDepth 20000 in
theorem ok_Reader_readSetting_139 : okB m_Reader_readSetting 139 k_Reader_readSetting_139 = true := by decide +kernel
set_option maxRecDepth 20000 in
theorem b_Reader_readSetting_139 (r0 : Nat) (o1 : Option AV) (o2 : Option AV) {h : Hp} {d mc ms : Nat} {R : PR} (H : ((1 ≤ d ∧ 0 ≤ mc ∧ 0 ≤ ms ∧ (hpT h r0).1 = 7) ∧ ∃ Q1 : PR, Wp m_Reader_fails 0 [some (xR r0), some (xI (2 : Int))] [] h (d - 1) 0 0 Q1 ∧ ∀ (v1 : Int) (h1 : Hp), Q1 (some (xI v1)) h1 → (if v1 = (0 : Int) then Wp m_Reader_readSetting 151 [some (xR r0), o1, o2] [] h1 d mc ms R else Wp m_Reader_readSetting 147 [some (xR r0), o1, o2] [] h1 d mc ms R))) : Wp m_Reader_readSetting 139 [some (xR r0), o1, o2] [] h d mc ms R := Wp_blk ok_Reader_readSetting_139 H
def k_Reader_readSetting_147 : List AI := [(.iconst 1, []), (.goto 0, []), (.nop, [152])]
set_option maxRecDepth 20000 in
theorem ok_Reader_readSetting_147 : okB m_Reader_readSetting 147 k_Reader_readSetting_147 = true := by decide +kernel
set_option maxRecDepth 20000 in
theorem b_Reader_readSetting_147 (o0 : Option AV) (o1 : Option AV) (o2 : Option AV) {h : Hp} {d mc ms : Nat} {R : PR} (H : Wp m_Reader_readSetting 152 [o0, o1, o2] [xI (1 : Int)] h d mc ms R) : Wp m_Reader_readSetting 147 [o0, o1, o2] [] h d mc ms R := Wp_blk ok_Reader_readSetting_147 H
def k_Reader_readSetting_151 : List AI := [(.iconst 0, []), (.nop, [152])]
set_option maxRecDepth 20000 in
theorem ok_Reader_readSetting_151 : okB m_Reader_readSetting 151 k_Reader_readSetting_151 = true := by decide +kernel
set_option maxRecDepth 20000 in
theorem b_Reader_readSetting_151 (o0 : Option AV) (o1 : Option AV) (o2 : Option AV) {h : Hp} {d mc ms : Nat} {R : PR} (H : Wp m_Reader_readSetting 152 [o0, o1, o2] [xI (0 : Int)] h d mc ms R) : Wp m_Reader_readSetting 151 [o0, o1, o2] [] h d mc ms R := Wp_blk ok_Reader_readSetting_151 H
def k_Reader_readSetting_152 : List AI := [(.ireturn, [3])]
set_option maxRecDepth 20000 in
theorem ok_Reader_readSetting_152 : okB m_Reader_readSetting 152 k_Reader_readSetting_152 = true := by decide +kernel
set_option maxRecDepth 20000 in
theorem b_Reader_readSetting_152 (o0 : Option AV) (o1 : Option AV) (o2 : Option AV) (p0 : Int) {h : Hp} {d mc ms : Nat} {R : PR} (H : ((p0 = 0 ∨ p0 = 1) ∧ R (some (xI p0)) h)) : Wp m_Reader_readSetting 152 [o0, o1, o2] [xI p0] h d mc ms R := Wp_blk ok_Reader_readSetting_152 H
def k_Reader_isFirst_0 : List AI := [(.aload 0, []), (.getfield 0, [7, 9, 0, 394]), (.aload 0, []), (.getfield 0, [7, 8, 0, 393]), (.ishr, []), (.iconst 1, []), (.iand, []), (.iconst 1, []), (.if_icmp .ne 0, [21]), (.aload 0, []), (.iconst 1, []), (.invokevirtual 0, [32, 1, 2, 0, 0, 1, 7, 629, 631, 7, 127]), (.ireturn, [3])]
set_option maxRecDepth 20000 in
theorem ok_Reader_isFirst_0 : okB m_Reader_isFirst 0 k_Reader_isFirst_0 = true := by decide +kernel
set_option maxRecDepth 20000 in
theorem b_Reader_isFirst_0 (r0 : Nat) {h : Hp} {d mc ms : Nat} {R : PR} (H : ((hpT h r0).1 = 7 ∧ ((hpT h r0).1 = 7 ∧ (if (ai_and (ai_shr (hpC h r0 9) (hpC h r0 8)) (1 : Int)) = (1 : Int) then ((1 ≤ d ∧ 0 ≤ mc ∧ 0 ≤ ms ∧ (hpT h r0).1 = 7) ∧ ∃ Q1 : PR, Wp m_Reader_fails 0 [some (xR r0), some (xI (1 : Int))] [] h (d - 1) 0 0 Q1 ∧ ∀ (v1 : Int) (h1 : Hp), Q1 (some (xI v1)) h1 → ((v1 = 0 ∨ v1 = 1) ∧ R (some (xI v1)) h1)) else Wp m_Reader_isFirst 21 [some (xR r0)] [] h d mc ms R)))) : Wp m_Reader_isFirst 0 [some (xR r0)] [] h d mc ms R := Wp_blk ok_Reader_isFirst_0 H
def k_Reader_isFirst_21 : List AI := [(.aload 0, []), (.dup, []), (.getfield 0, [7, 9, 0, 394]), (.iconst 1, []), (.aload 0, []), (.getfield 0, [7, 8, 0, 393]), (.ishl, []), (.ior, []), (.putfield 0, [7, 9, 0, 394]), (.iconst 1, []), (.ireturn, [3])]
set_option maxRecDepth 20000 in
theorem ok_Reader_isFirst_21 : okB m_Reader_isFirst 21 k_Reader_isFirst_21 = true := by decide +kernel
set_option maxRecDepth 20000 in
theorem b_Reader_isFirst_21 (r0 : Nat) {h : Hp} {d mc ms : Nat} {R : PR} (H : ((hpT h r0).1 = 7 ∧ ((hpT h r0).1 = 7 ∧ ((hpT h r0).1 = 7 ∧ ∀ g1 : Hp, g1 = hpU h r0 9 (ai_or (hpC h r0 9) (ai_shl (1 : Int) (hpC h r0 8))) → (((1 : Int) = 0 ∨ (1 : Int) = 1) ∧ R (some (xI (1 : Int))) g1))))) : Wp m_Reader_isFirst 21 [some (xR r0)] [] h d mc ms R := Wp_blk ok_Reader_isFirst_21 H
def k_Reader_fails_0 : List AI := [(.aload 0, []), (.iload 1, []), (.putfield 0, [7, 1, 0, 384]), (.aload 0, []), (.aload 0, []), (.getfield 0, [7, 5, 0, 390]), (.putfield 0, [7, 2, 0, 386]), (.iconst 0, []), (.ireturn, [3])]
set_option maxRecDepth 20000 in
theorem ok_Reader_fails_0 : okB m_Reader_fails 0 k_Reader_fails_0 = true := by decide +kernel
set_option maxRecDepth 20000 in
theorem b_Reader_fails_0 (r0 : Nat) (i1 : Int) {h : Hp} {d mc ms : Nat} {R : PR} (H : ((hpT h r0).1 = 7 ∧ ∀ g1 : Hp, g1 = hpU h r0 1 i1 → ((hpT g1 r0).1 = 7 ∧ ((hpT g1 r0).1 = 7 ∧ ∀ g2 : Hp, g2 = hpU g1 r0 2 (hpC g1 r0 5) → (((0 : Int) = 0 ∨ (0 : Int) = 1) ∧ R (some (xI (0 : Int))) g2))))) : Wp m_Reader_fails 0 [some (xR r0), some (xI i1)] [] h d mc ms R := Wp_blk ok_Reader_fails_0 H
def k_Reader_isNumber_0 : List AI := [(.aload 0, []), (.getfield 0, [7, 4, 0, 389]), (.iconst 2, []), (.if_icmp .ne 0, [16]), (.aload 0, []), (.getfield 0, [7, 6, 0, 391]), (.iconst 4, []), (.if_icmp .le 0, [24]), (.nop, [16])]
set_option maxRecDepth 20000 in
theorem ok_Reader_isNumber_0 : okB m_Reader_isNumber 0 k_Reader_isNumber_0 = true := by decide +kernel
set_option maxRecDepth 20000 in
theorem b_Reader_isNumber_0 (r0 : Nat) {h : Hp} {d mc ms : Nat} {R : PR} (H : ((hpT h r0).1 = 7 ∧ (if (hpC h r0 4) = (2 : Int) then ((hpT h r0).1 = 7 ∧ (if (4 : Int) < (hpC h r0 6) then Wp m_Reader_isNumber 16 [some (xR r0)] [] h d mc ms R else Wp m_Reader_isNumber 24 [some (xR r0)] [] h d mc ms R)) else Wp m_Reader_isNumber 16 [some (xR r0)] [] h d mc ms R))) : Wp m_Reader_isNumber 0 [some (xR r0)] [] h d mc ms R := Wp_blk ok_Reader_isNumber_0 H
def k_Reader_isNumber_16 : List AI := [(.aload 0, []), (.iconst 1, []), (.invokevirtual 0, [32, 1, 2, 0, 0, 1, 7, 629, 631, 7, 127]), (.ifCond .eq 0, [28]), (.nop, [24])]
set_option maxRecDepth 20000 in
theorem ok_Reader_isNumber_16 : okB m_Reader_isNumber 16 k_Reader_isNumber_16 = true := by decide +kernel
set_option maxRecDepth 20000 in
theorem b_Reader_isNumber_16 (r0 : Nat) {h : Hp} {d mc ms : Nat} {R : PR} (H : ((1 ≤ d ∧ 0 ≤ mc ∧ 0 ≤ ms ∧ (hpT h r0).1 = 7) ∧ ∃ Q1 : PR, Wp m_Reader_fails 0 [some (xR r0), some (xI (1 : Int))] [] h (d - 1) 0 0 Q1 ∧ ∀ (v1 : Int) (h1 : Hp), Q1 (some (xI v1)) h1 → (if v1 = (0 : Int) then Wp m_Reader_isNumber 28 [some (xR r0)] [] h1 d mc ms R else Wp m_Reader_isNumber 24 [some (xR r0)] [] h1 d mc ms R))) : Wp m_Reader_isNumber 16 [some (xR r0)] [] h d mc ms R := Wp_blk ok_Reader_isNumber_16 H
def k_Reader_isNumber_24 : List AI := [(.iconst 1, []), (.goto 0, []), (.nop, [29])]
set_option maxRecDepth 20000 in
theorem ok_Reader_isNumber_24 : okB m_Reader_isNumber 24 k_Reader_isNumber_24 = true := by decide +kernel
set_option maxRecDepth 20000 in
theorem b_Reader_isNumber_24 (o0 : Option AV) {h : Hp} {d mc ms : Nat} {R : PR} (H : Wp m_Reader_isNumber 29 [o0] [xI (1 : Int)] h d mc ms R) : Wp m_Reader_isNumber 24 [o0] [] h d mc ms R := Wp_blk ok_Reader_isNumber_24 H
def k_Reader_isNumber_28 : List AI := [(.iconst 0, []), (.nop, [29])]
set_option maxRecDepth 20000 in
theorem ok_Reader_isNumber_28 : okB m_Reader_isNumber 28 k_Reader_isNumber_28 = true := by decide +kernel
set_option maxRecDepth 20000 in
theorem b_Reader_isNumber_28 (o0 : Option AV) {h : Hp} {d mc ms : Nat} {R : PR} (H : Wp m_Reader_isNumber 29 [o0] [xI (0 : Int)] h d mc ms R) : Wp m_Reader_isNumber 28 [o0] [] h d mc ms R := Wp_blk ok_Reader_isNumber_28 H
def k_Reader_isNumber_29 : List AI := [(.ireturn, [3])]
set_option maxRecDepth 20000 in
theorem ok_Reader_isNumber_29 : okB m_Reader_isNumber 29 k_Reader_isNumber_29 = true := by decide +kernel
set_option maxRecDepth 20000 in
theorem b_Reader_isNumber_29 (o0 : Option AV) (p0 : Int) {h : Hp} {d mc ms : Nat} {R : PR} (H : ((p0 = 0 ∨ p0 = 1) ∧ R (some (xI p0)) h)) : Wp m_Reader_isNumber 29 [o0] [xI p0] h d mc ms R := Wp_blk ok_Reader_isNumber_29 H
def k_Reader_number_0 : List AI := [(.iconst 0, []), (.istore 1, []), (.aload 0, []), (.getfield 0, [7, 5, 0, 390]), (.istore 2, []), (.nop, [7])]
set_option maxRecDepth 20000 in
theorem ok_Reader_number_0 : okB m_Reader_number 0 k_Reader_number_0 = true := by decide +kernel
set_option maxRecDepth 20000 in
theorem b_Reader_number_0 (r0 : Nat) (o1 : Option AV) (o2 : Option AV) {h : Hp} {d mc ms : Nat} {R : PR} (H : ((hpT h r0).1 = 7 ∧ Wp m_Reader_number 7 [some (xR r0), some (xI (0 : Int)), some (xI (hpC h r0 5))] [] h d mc ms R)) : Wp m_Reader_number 0 [some (xR r0), o1, o2] [] h d mc ms R := Wp_blk ok_Reader_number_0 H
def k_Reader_number_7 : List AI := [(.iload 2, []), (.aload 0, []), (.getfield 0, [7, 5, 0, 390]), (.aload 0, []), (.getfield 0, [7, 6, 0, 391]), (.iadd, []), (.if_icmp .ge 0, [55]), (.iload 2, []), (.aload 0, []), (.getfield 0, [7, 3, 2, 388]), (.getfield 0, [9, 1, 0, 203]), (.if_icmp .ge 0, [55]), (.iconst 10, []), (.iload 1, []), (.imul, []), (.aload 0, []), (.getfield 0, [7, 3, 2, 388]), (.getfield 0, [9, 0, 2, 200]), (.iload 2, []), (.baload, [22]), (.iadd, []), (.iconst 48, []), (.isub, []), (.istore 1, []), (.iinc 2 1, []), (.goto 0, []), (.nop, [7])]
set_option maxRecDepth 20000 in
theorem ok_Reader_number_7 : okB m_Reader_number 7 k_Reader_number_7 = true := by decide +kernel
set_option maxRecDepth 20000 in
theorem b_Reader_number_7 (r0 : Nat) (i1 : Int) (i2 : Int) {h : Hp} {d mc ms : Nat} {R : PR} (H : ((hpT h r0).1 = 7 ∧ ((hpT h r0).1 = 7 ∧ (if i2 < (ai_add (hpC h r0 5) (hpC h r0 6)) then ((hpT h r0).1 = 7 ∧ ((hpT h (Int.toNat (hpC h r0 3))).1 = 9 ∧ (if i2 < (hpC h (Int.toNat (hpC h r0 3)) 1) then ((hpT h r0).1 = 7 ∧ ((hpT h (Int.toNat (hpC h r0 3))).1 = 9 ∧ (((hpT h (Int.toNat (hpC h (Int.toNat (hpC h r0 3)) 0))).1 = 22 ∧ 0 ≤ i2 ∧ i2 < ((hpT h (Int.toNat (hpC h (Int.toNat (hpC h r0 3)) 0))).2 : Int)) ∧ Wp m_Reader_number 7 [some (xR r0), some (xI (ai_sub (ai_add (ai_mul (10 : Int) i1) (hpC h (Int.toNat (hpC h (Int.toNat (hpC h r0 3)) 0)) (Int.toNat i2))) (48 : Int))), some (xI (ai_add i2 1))] [] h d mc ms R))) else Wp m_Reader_number 55 [some (xR r0), some (xI i1), some (xI i2)] [] h d mc ms R))) else Wp m_Reader_number 55 [some (xR r0), some (xI i1), some (xI i2)] [] h d mc ms R)))) : Wp m_Reader_number 7 [some (xR r0), some (xI i1), some (xI i2)] [] h d mc ms R := Wp_blk ok_Reader_number_7 H
def k_Reader_number_55 : List AI := [(.iload 1, []), (.ireturn, [1])]
set_option maxRecDepth 20000 in
theorem ok_Reader_number_55 : okB m_Reader_number 55 k_Reader_number_55 = true := by decide +kernel
set_option maxRecDepth 20000 in
theorem b_Reader_number_55 (o0 : Option AV) (i1 : Int) (o2 : Option AV) {h : Hp} {d mc ms : Nat} {R : PR} (H : R (some (xI i1)) h) : Wp m_Reader_number 55 [o0, some (xI i1), o2] [] h d mc ms R := Wp_blk ok_Reader_number_55 H
def k_Reader_readStop_0 : List AI := [(.aload 0, []), (.invokevirtual 0, [23, 0, 3, 0, 0, 0, 7, 592, 594, 1, 127]), (.aload 0, []), (.getfield 0, [7, 4, 0, 389]), (.iconst 3, []), (.if_icmp .eq 0, [20]), (.aload 0, []), (.iconst 1, []), (.invokevirtual 0, [32, 1, 2, 0, 0, 1, 7, 629, 631, 7, 127]), (.ifCond .eq 0, [24]), (.nop, [20])]
set_option maxRecDepth 20000 in
theorem ok_Reader_readStop_0 : okB m_Reader_readStop 0 k_Reader_readStop_0 = true := by decide +kernel
set_option maxRecDepth 20000 in
theorem b_Reader_readStop_0 (r0 : Nat) {h : Hp} {d mc ms : Nat} {R : PR} (H : ((1 ≤ d ∧ 0 ≤ mc ∧ 0 ≤ ms ∧ (hpT h r0).1 = 7) ∧ ∃ Q1 : PR, Wp m_Reader_step 0 [some (xR r0), none, none] [] h (d - 1) 0 0 Q1 ∧ ∀ (h1 : Hp), Q1 none h1 → ((hpT h1 r0).1 = 7 ∧ (if (hpC h1 r0 4) = (3 : Int) then Wp m_Reader_readStop 20 [some (xR r0)] [] h1 d mc ms R else ((1 ≤ d ∧ 0 ≤ mc ∧ 0 ≤ ms ∧ (hpT h1 r0).1 = 7) ∧ ∃ Q2 : PR, Wp m_Reader_fails 0 [some (xR r0), some (xI (1 : Int))] [] h1 (d - 1) 0 0 Q2 ∧ ∀ (v2 : Int) (h2 : Hp), Q2 (some (xI v2)) h2 → (if v2 = (0 : Int) then Wp m_Reader_readStop 24 [some (xR r0)] [] h2 d mc ms R else Wp m_Reader_readStop 20 [some (xR r0)] [] h2 d mc ms R)))))) : Wp m_Reader_readStop 0 [some (xR r0)] [] h d mc ms R := Wp_blk ok_Reader_readStop_0 H
def k_Reader_readStop_20 : List AI := [(.iconst 1, []), (.goto 0, []), (.nop, [25])]
set_option maxRecDepth 20000 in
theorem ok_Reader_readStop_20 : okB m_Reader_readStop 20 k_Reader_readStop_20 = true := by decide +kernel
set_option maxRecDepth 20000 in
theorem b_Reader_readStop_20 (o0 : Option AV) {h : Hp} {d mc ms : Nat} {R : PR} (H : Wp m_Reader_readStop 25 [o0] [xI (1 : Int)] h d mc ms R) : Wp m_Reader_readStop 20 [o0] [] h d mc ms R := Wp_blk ok_Reader_readStop_20 H
def k_Reader_readStop_24 : List AI := [(.iconst 0, []), (.nop, [25])]
set_option maxRecDepth 20000 in
theorem ok_Reader_readStop_24 : okB m_Reader_readStop 24 k_Reader_readStop_24 = true := by decide +kernel
set_option maxRecDepth 20000 in
theorem b_Reader_readStop_24 (o0 : Option AV) {h : Hp} {d mc ms : Nat} {R : PR} (H : Wp m_Reader_readStop 25 [o0] [xI (0 : Int)] h d mc ms R) : Wp m_Reader_readStop 24 [o0] [] h d mc ms R := Wp_blk ok_Reader_readStop_24 H
def k_Reader_readStop_25 : List AI := [(.ireturn, [3])]
set_option maxRecDepth 20000 in
theorem ok_Reader_readStop_25 : okB m_Reader_readStop 25 k_Reader_readStop_25 = true := by decide +kernel
set_option maxRecDepth 20000 in
theorem b_Reader_readStop_25 (o0 : Option AV) (p0 : Int) {h : Hp} {d mc ms : Nat} {R : PR} (H : ((p0 = 0 ∨ p0 = 1) ∧ R (some (xI p0)) h)) : Wp m_Reader_readStop 25 [o0] [xI p0] h d mc ms R := Wp_blk ok_Reader_readStop_25 H
def k_Reader_readMute_0 : List AI := [(.aload 0, []), (.invokevirtual 0, [31, 0, 1, 0, 0, 1, 7, 625, 627, 6, 127]), (.ifCond .ne 0, [9]), (.iconst 0, []), (.ireturn, [3])]
set_option maxRecDepth 20000 in
theorem ok_Reader_readMute_0 : okB m_Reader_readMute 0 k_Reader_readMute_0 = true := by decide +kernel
set_option maxRecDepth 20000 in
theorem b_Reader_readMute_0 (r0 : Nat) {h : Hp} {d mc ms : Nat} {R : PR} (H : ((1 ≤ d ∧ 0 ≤ mc ∧ 0 ≤ ms ∧ (hpT h r0).1 = 7) ∧ ∃ Q1 : PR, Wp m_Reader_isFirst 0 [some (xR r0)] [] h (d - 1) 0 0 Q1 ∧ ∀ (v1 : Int) (h1 : Hp), Q1 (some (xI v1)) h1 → (if v1 = (0 : Int) then (((0 : Int) = 0 ∨ (0 : Int) = 1) ∧ R (some (xI (0 : Int))) h1) else Wp m_Reader_readMute 9 [some (xR r0)] [] h1 d mc ms R))) : Wp m_Reader_readMute 0 [some (xR r0)] [] h d mc ms R := Wp_blk ok_Reader_readMute_0 H
def k_Reader_readMute_9 : List AI := [(.aload 0, []), (.invokevirtual 0, [23, 0, 3, 0, 0, 0, 7, 592, 594, 1, 127]), (.aload 0, []), (.iconst 1, []), (.iconst 26, []), (.invokevirtual 0, [37, 2, 3, 0, 0, 1, 7, 649, 651, 12, 127]), (.ifCond .ne 0, [25]), (.iconst 0, []), (.ireturn, [3])]
set_option maxRecDepth 20000 in
theorem ok_Reader_readMute_9 : okB m_Reader_readMute 9 k_Reader_readMute_9 = true := by decide +kernel
set_option maxRecDepth 20000 in
theorem b_Reader_readMute_9 (r0 : Nat) {h : Hp} {d mc ms : Nat} {R : PR} (H : ((1 ≤ d ∧ 0 ≤ mc ∧ 0 ≤ ms ∧ (hpT h r0).1 = 7) ∧ ∃ Q1 : PR, Wp m_Reader_step 0 [some (xR r0), none, none] [] h (d - 1) 0 0 Q1 ∧ ∀ (h1 : Hp), Q1 none h1 → ((1 ≤ d ∧ 0 ≤ mc ∧ 0 ≤ ms ∧ (hpT h1 r0).1 = 7) ∧ ∃ Q2 : PR, Wp m_Reader_areLetters 0 [some (xR r0), some (xI (1 : Int)), some (xI (26 : Int))] [] h1 (d - 1) 0 0 Q2 ∧ ∀ (v2 : Int) (h2 : Hp), Q2 (some (xI v2)) h2 → (if v2 = (0 : Int) then (((0 : Int) = 0 ∨ (0 : Int) = 1) ∧ R (some (xI (0 : Int))) h2) else Wp m_Reader_readMute 25 [some (xR r0)] [] h2 d mc ms R)))) : Wp m_Reader_readMute 9 [some (xR r0)] [] h d mc ms R := Wp_blk ok_Reader_readMute_9 H
def k_Reader_readMute_25 : List AI := [(.aload 0, []), (.getfield 0, [7, 0, 2, 382]), (.getfield 0, [10, 0, 2, 341]), (.aload 0, []), (.invokevirtual 0, [38, 0, 3, 0, 0, 1, 7, 653, 655, 13, 127]), (.putfield 0, [8, 3, 0, 249]), (.aload 0, []), (.invokevirtual 0, [39, 0, 1, 0, 0, 1, 7, 657, 659, 14, 127]), (.ifCond .ne 0, [54]), (.aload 0, []), (.iconst 3, []), (.invokevirtual 0, [32, 1, 2, 0, 0, 1, 7, 629, 631, 7, 127]), (.ifCond .eq 0, [58]), (.nop, [54])]
set_option maxRecDepth 20000 in
theorem ok_Reader_readMute_25 : okB m_Reader_readMute 25 k_Reader_readMute_25 = true := by decide +kernel
set_option maxRecDepth 20000 in
theorem b_Reader_readMute_25 (r0 : Nat) {h : Hp} {d mc ms : Nat} {R : PR} (H : ((hpT h r0).1 = 7 ∧ ((hpT h (Int.toNat (hpC h r0 0))).1 = 10 ∧ ((1 ≤ d ∧ 0 ≤ mc ∧ 0 ≤ ms ∧ (hpT h r0).1 = 7) ∧ ∃ Q1 : PR, Wp m_Reader_letterBits 0 [some (xR r0), none, none] [] h (d - 1) 0 0 Q1 ∧ ∀ (v1 : Int) (h1 : Hp), Q1 (some (xI v1)) h1 → ((hpT h1 (Int.toNat (hpC h (Int.toNat (hpC h r0 0)) 0))).1 = 8 ∧ ∀ g1 : Hp, g1 = hpU h1 (Int.toNat (hpC h (Int.toNat (hpC h r0 0)) 0)) 3 v1 → ((1 ≤ d ∧ 0 ≤ mc ∧ 0 ≤ ms ∧ (hpT g1 r0).1 = 7) ∧ ∃ Q2 : PR, Wp m_Reader_areUnlike 0 [some (xR r0)] [] g1 (d - 1) 0 0 Q2 ∧ ∀ (v2 : Int) (h2 : Hp), Q2 (some (xI v2)) h2 → (if v2 = (0 : Int) then ((1 ≤ d ∧ 0 ≤ mc ∧ 0 ≤ ms ∧ (hpT h2 r0).1 = 7) ∧ ∃ Q3 : PR, Wp m_Reader_fails 0 [some (xR r0), some (xI (3 : Int))] [] h2 (d - 1) 0 0 Q3 ∧ ∀ (v3 : Int) (h3 : Hp), Q3 (some (xI v3)) h3 → (if v3 = (0 : Int) then Wp m_Reader_readMute 58 [some (xR r0)] [] h3 d mc ms R else Wp m_Reader_readMute 54 [some (xR r0)] [] h3 d mc ms R)) else Wp m_Reader_readMute 54 [some (xR r0)] [] h2 d mc ms R))))))) : Wp m_Reader_readMute 25 [some (xR r0)] [] h d mc ms R := Wp_blk ok_Reader_readMute_25 H
def k_Reader_readMute_54 : List AI := [(.iconst 1, []), (.goto 0, []), (.nop, [59])]
set_option maxRecDepth 20000 in
theorem ok_Reader_readMute_54 : okB m_Reader_readMute 54 k_Reader_readMute_54 = true := by decide +kernel
set_option maxRecDepth 20000 in
theorem b_Reader_readMute_54 (o0 : Option AV) {h : Hp} {d mc ms : Nat} {R : PR} (H : Wp m_Reader_readMute 59 [o0] [xI (1 : Int)] h d mc ms R) : Wp m_Reader_readMute 54 [o0] [] h d mc ms R := Wp_blk ok_Reader_readMute_54 H
def k_Reader_readMute_58 : List AI := [(.iconst 0, []), (.nop, [59])]
set_option maxRecDepth 20000 in
theorem ok_Reader_readMute_58 : okB m_Reader_readMute 58 k_Reader_readMute_58 = true := by decide +kernel
set_option maxRecDepth 20000 in
theorem b_Reader_readMute_58 (o0 : Option AV) {h : Hp} {d mc ms : Nat} {R : PR} (H : Wp m_Reader_readMute 59 [o0] [xI (0 : Int)] h d mc ms R) : Wp m_Reader_readMute 58 [o0] [] h d mc ms R := Wp_blk ok_Reader_readMute_58 H
def k_Reader_readMute_59 : List AI := [(.ireturn, [3])]
set_option maxRecDepth 20000 in
theorem ok_Reader_readMute_59 : okB m_Reader_readMute 59 k_Reader_readMute_59 = true := by decide +kernel
set_option maxRecDepth 20000 in
theorem b_Reader_readMute_59 (o0 : Option AV) (p0 : Int) {h : Hp} {d mc ms : Nat} {R : PR} (H : ((p0 = 0 ∨ p0 = 1) ∧ R (some (xI p0)) h)) : Wp m_Reader_readMute 59 [o0] [xI p0] h d mc ms R := Wp_blk ok_Reader_readMute_59 H
def k_Reader_areLetters_0 : List AI := [(.aload 0, []), (.getfield 0, [7, 4, 0, 389]), (.iconst 1, []), (.if_icmp .ne 0, [24]), (.aload 0, []), (.getfield 0, [7, 6, 0, 391]), (.iload 1, []), (.if_icmp .lt 0, [24]), (.aload 0, []), (.getfield 0, [7, 6, 0, 391]), (.iload 2, []), (.if_icmp .le 0, [32]), (.nop, [24])]
set_option maxRecDepth 20000 in
theorem ok_Reader_areLetters_0 : okB m_Reader_areLetters 0 k_Reader_areLetters_0 = true := by decide +kernel
set_option maxRecDepth 20000 in
theorem b_Reader_areLetters_0 (r0 : Nat) (i1 : Int) (i2 : Int) {h : Hp} {d mc ms : Nat} {R : PR} (H : ((hpT h r0).1 = 7 ∧ (if (hpC h r0 4) = (1 : Int) then ((hpT h r0).1 = 7 ∧ (if (hpC h r0 6) < i1 then Wp m_Reader_areLetters 24 [some (xR r0), some (xI i1), some (xI i2)] [] h d mc ms R else ((hpT h r0).1 = 7 ∧ (if i2 < (hpC h r0 6) then Wp m_Reader_areLetters 24 [some (xR r0), some (xI i1), some (xI i2)] [] h d mc ms R else Wp m_Reader_areLetters 32 [some (xR r0), some (xI i1), some (xI i2)] [] h d mc ms R)))) else Wp m_Reader_areLetters 24 [some (xR r0), some (xI i1), some (xI i2)] [] h d mc ms R))) : Wp m_Reader_areLetters 0 [some (xR r0), some (xI i1), some (xI i2)] [] h d mc ms R := Wp_blk ok_Reader_areLetters_0 H
def k_Reader_areLetters_24 : List AI := [(.aload 0, []), (.iconst 1, []), (.invokevirtual 0, [32, 1, 2, 0, 0, 1, 7, 629, 631, 7, 127]), (.ifCond .eq 0, [36]), (.nop, [32])]
set_option maxRecDepth 20000 in
theorem ok_Reader_areLetters_24 : okB m_Reader_areLetters 24 k_Reader_areLetters_24 = true := by decide +kernel
set_option maxRecDepth 20000 in
theorem b_Reader_areLetters_24 (r0 : Nat) (o1 : Option AV) (o2 : Option AV) {h : Hp} {d mc ms : Nat} {R : PR} (H : ((1 ≤ d ∧ 0 ≤ mc ∧ 0 ≤ ms ∧ (hpT h r0).1 = 7) ∧ ∃ Q1 : PR, Wp m_Reader_fails 0 [some (xR r0), some (xI (1 : Int))] [] h (d - 1) 0 0 Q1 ∧ ∀ (v1 : Int) (h1 : Hp), Q1 (some (xI v1)) h1 → (if v1 = (0 : Int) then Wp m_Reader_areLetters 36 [some (xR r0), o1, o2] [] h1 d mc ms R else Wp m_Reader_areLetters 32 [some (xR r0), o1, o2] [] h1 d mc ms R))) : Wp m_Reader_areLetters 24 [some (xR r0), o1, o2] [] h d mc ms R := Wp_blk ok_Reader_areLetters_24 H
def k_Reader_areLetters_32 : List AI := [(.iconst 1, []), (.goto 0, []), (.nop, [37])]
set_option maxRecDepth 20000 in
theorem ok_Reader_areLetters_32 : okB m_Reader_areLetters 32 k_Reader_areLetters_32 = true := by decide +kernel
set_option maxRecDepth 20000 in
theorem b_Reader_areLetters_32 (o0 : Option AV) (o1 : Option AV) (o2 : Option AV) {h : Hp} {d mc ms : Nat} {R : PR} (H : Wp m_Reader_areLetters 37 [o0, o1, o2] [xI (1 : Int)] h d mc ms R) : Wp m_Reader_areLetters 32 [o0, o1, o2] [] h d mc ms R := Wp_blk ok_Reader_areLetters_32 H
def k_Reader_areLetters_36 : List AI := [(.iconst 0, []), (.nop, [37])]
set_option maxRecDepth 20000 in
theorem ok_Reader_areLetters_36 : okB m_Reader_areLetters 36 k_Reader_areLetters_36 = true := by decide +kernel
set_option maxRecDepth 20000 in
theorem b_Reader_areLetters_36 (o0 : Option AV) (o1 : Option AV) (o2 : Option AV) {h : Hp} {d mc ms : Nat} {R : PR} (H : Wp m_Reader_areLetters 37 [o0, o1, o2] [xI (0 : Int)] h d mc ms R) : Wp m_Reader_areLetters 36 [o0, o1, o2] [] h d mc ms R := Wp_blk ok_Reader_areLetters_36 H
def k_Reader_areLetters_37 : List AI := [(.ireturn, [3])]
set_option maxRecDepth 20000 in
theorem ok_Reader_areLetters_37 : okB m_Reader_areLetters 37 k_Reader_areLetters_37 = true := by decide +kernel
set_option maxRecDepth 20000 in
theorem b_Reader_areLetters_37 (o0 : Option AV) (o1 : Option AV) (o2 : Option AV) (p0 : Int) {h : Hp} {d mc ms : Nat} {R : PR} (H : ((p0 = 0 ∨ p0 = 1) ∧ R (some (xI p0)) h)) : Wp m_Reader_areLetters 37 [o0, o1, o2] [xI p0] h d mc ms R := Wp_blk ok_Reader_areLetters_37 H
def k_Reader_letterBits_0 : List AI := [(.iconst 0, []), (.istore 1, []), (.aload 0, []), (.getfield 0, [7, 5, 0, 390]), (.istore 2, []), (.nop, [7])]
set_option maxRecDepth 20000 in
theorem ok_Reader_letterBits_0 : okB m_Reader_letterBits 0 k_Reader_letterBits_0 = true := by decide +kernel
set_option maxRecDepth 20000 in
theorem b_Reader_letterBits_0 (r0 : Nat) (o1 : Option AV) (o2 : Option AV) {h : Hp} {d mc ms : Nat} {R : PR} (H : ((hpT h r0).1 = 7 ∧ Wp m_Reader_letterBits 7 [some (xR r0), some (xI (0 : Int)), some (xI (hpC h r0 5))] [] h d mc ms R)) : Wp m_Reader_letterBits 0 [some (xR r0), o1, o2] [] h d mc ms R := Wp_blk ok_Reader_letterBits_0 H
def k_Reader_letterBits_7 : List AI := [(.iload 2, []), (.aload 0, []), (.getfield 0, [7, 5, 0, 390]), (.aload 0, []), (.getfield 0, [7, 6, 0, 391]), (.iadd, []), (.if_icmp .ge 0, [39]), (.iload 1, []), (.iconst 1, []), (.aload 0, []), (.getfield 0, [7, 3, 2, 388]), (.iload 2, []), (.invokevirtual 0, [26, 1, 3, 0, 0, 1, 9, 604, 605, 606, 121]), (.ishl, []), (.ior, []), (.istore 1, []), (.iinc 2 1, []), (.goto 0, []), (.nop, [7])]
set_option maxRecDepth 20000 in
theorem ok_Reader_letterBits_7 : okB m_Reader_letterBits 7 k_Reader_letterBits_7 = true := by decide +kernel
set_option maxRecDepth 20000 in
theorem b_Reader_letterBits_7 (r0 : Nat) (i1 : Int) (i2 : Int) {h : Hp} {d mc ms : Nat} {R : PR} (H : ((hpT h r0).1 = 7 ∧ ((hpT h r0).1 = 7 ∧ (if i2 < (ai_add (hpC h r0 5) (hpC h r0 6)) then ((hpT h r0).1 = 7 ∧ ((1 ≤ d ∧ 0 ≤ mc ∧ 0 ≤ ms ∧ (hpT h (Int.toNat (hpC h r0 3))).1 = 9) ∧ ∃ Q1 : PR, Wp m_Tape_letterAt 0 [some (xR (Int.toNat (hpC h r0 3))), some (xI i2), none] [] h (d - 1) 0 0 Q1 ∧ ∀ (v1 : Int) (h1 : Hp), Q1 (some (xI v1)) h1 → Wp m_Reader_letterBits 7 [some (xR r0), some (xI (ai_or i1 (ai_shl (1 : Int) v1))), some (xI (ai_add i2 1))] [] h1 d mc ms R)) else Wp m_Reader_letterBits 39 [some (xR r0), some (xI i1), some (xI i2)] [] h d mc ms R)))) : Wp m_Reader_letterBits 7 [some (xR r0), some (xI i1), some (xI i2)] [] h d mc ms R := Wp_blk ok_Reader_letterBits_7 H
def k_Reader_letterBits_39 : List AI := [(.iload 1, []), (.ireturn, [1])]
set_option maxRecDepth 20000 in
theorem ok_Reader_letterBits_39 : okB m_Reader_letterBits 39 k_Reader_letterBits_39 = true := by decide +kernel
set_option maxRecDepth 20000 in
theorem b_Reader_letterBits_39 (o0 : Option AV) (i1 : Int) (o2 : Option AV) {h : Hp} {d mc ms : Nat} {R : PR} (H : R (some (xI i1)) h) : Wp m_Reader_letterBits 39 [o0, some (xI i1), o2] [] h d mc ms R := Wp_blk ok_Reader_letterBits_39 H
def k_Reader_areUnlike_0 : List AI := [(.aload 0, []), (.invokevirtual 0, [38, 0, 3, 0, 0, 1, 7, 653, 655, 13, 127]), (.invokestatic 0, [40, 1, 1, 0, 0, 1, 661, 662, 138]), (.aload 0, []), (.getfield 0, [7, 6, 0, 391]), (.if_icmp .ne 0, [18]), (.iconst 1, []), (.goto 0, []), (.nop, [19])]
set_option maxRecDepth 20000 in
theorem ok_Reader_areUnlike_0 : okB m_Reader_areUnlike 0 k_Reader_areUnlike_0 = true := by decide +kernel
set_option maxRecDepth 20000 in
theorem b_Reader_areUnlike_0 (r0 : Nat) {h : Hp} {d mc ms : Nat} {R : PR} (H : ((1 ≤ d ∧ 0 ≤ mc ∧ 0 ≤ ms ∧ (hpT h r0).1 = 7) ∧ ∃ Q1 : PR, Wp m_Reader_letterBits 0 [some (xR r0), none, none] [] h (d - 1) 0 0 Q1 ∧ ∀ (v1 : Int) (h1 : Hp), Q1 (some (xI v1)) h1 → ((1 ≤ d ∧ 0 ≤ mc ∧ 0 ≤ ms) ∧ ∃ Q2 : PR, Wp m_Integer_bitCount 0 [some (xI v1)] [] h1 (d - 1) 0 0 Q2 ∧ ∀ (v2 : Int) (h2 : Hp), Q2 (some (xI v2)) h2 → ((hpT h2 r0).1 = 7 ∧ (if v2 = (hpC h2 r0 6) then Wp m_Reader_areUnlike 19 [some (xR r0)] [xI (1 : Int)] h2 d mc ms R else Wp m_Reader_areUnlike 18 [some (xR r0)] [] h2 d mc ms R))))) : Wp m_Reader_areUnlike 0 [some (xR r0)] [] h d mc ms R := Wp_blk ok_Reader_areUnlike_0 H
def k_Reader_areUnlike_18 : List AI := [(.iconst 0, []), (.nop, [19])]
set_option maxRecDepth 20000 in
theorem ok_Reader_areUnlike_18 : okB m_Reader_areUnlike 18 k_Reader_areUnlike_18 = true := by decide +kernel
set_option maxRecDepth 20000 in
theorem b_Reader_areUnlike_18 (o0 : Option AV) {h : Hp} {d mc ms : Nat} {R : PR} (H : Wp m_Reader_areUnlike 19 [o0] [xI (0 : Int)] h d mc ms R) : Wp m_Reader_areUnlike 18 [o0] [] h d mc ms R := Wp_blk ok_Reader_areUnlike_18 H
def k_Reader_areUnlike_19 : List AI := [(.ireturn, [3])]
set_option maxRecDepth 20000 in
theorem ok_Reader_areUnlike_19 : okB m_Reader_areUnlike 19 k_Reader_areUnlike_19 = true := by decide +kernel
set_option maxRecDepth 20000 in
theorem b_Reader_areUnlike_19 (o0 : Option AV) (p0 : Int) {h : Hp} {d mc ms : Nat} {R : PR} (H : ((p0 = 0 ∨ p0 = 1) ∧ R (some (xI p0)) h)) : Wp m_Reader_areUnlike 19 [o0] [xI p0] h d mc ms R := Wp_blk ok_Reader_areUnlike_19 H
def k_Reader_readSame_0 : List AI := [(.aload 0, []), (.getfield 0, [7, 0, 2, 382]), (.getfield 0, [10, 0, 2, 341]), (.getfield 0, [8, 4, 0, 252]), (.iconst 8, []), (.if_icmp .lt 0, [21]), (.aload 0, []), (.iconst 4, []), (.invokevirtual 0, [32, 1, 2, 0, 0, 1, 7, 629, 631, 7, 127]), (.ireturn, [3])]
set_option maxRecDepth 20000 in
theorem ok_Reader_readSame_0 : okB m_Reader_readSame 0 k_Reader_readSame_0 = true := by decide +kernel
set_option maxRecDepth 20000 in
theorem b_Reader_readSame_0 (r0 : Nat) {h : Hp} {d mc ms : Nat} {R : PR} (H : ((hpT h r0).1 = 7 ∧ ((hpT h (Int.toNat (hpC h r0 0))).1 = 10 ∧ ((hpT h (Int.toNat (hpC h (Int.toNat (hpC h r0 0)) 0))).1 = 8 ∧ (if (hpC h (Int.toNat (hpC h (Int.toNat (hpC h r0 0)) 0)) 4) < (8 : Int) then Wp m_Reader_readSame 21 [some (xR r0)] [] h d mc ms R else ((1 ≤ d ∧ 0 ≤ mc ∧ 0 ≤ ms ∧ (hpT h r0).1 = 7) ∧ ∃ Q1 : PR, Wp m_Reader_fails 0 [some (xR r0), some (xI (4 : Int))] [] h (d - 1) 0 0 Q1 ∧ ∀ (v1 : Int) (h1 : Hp), Q1 (some (xI v1)) h1 → ((v1 = 0 ∨ v1 = 1) ∧ R (some (xI v1)) h1))))))) : Wp m_Reader_readSame 0 [some (xR r0)] [] h d mc ms R := Wp_blk ok_Reader_readSame_0 H
def k_Reader_readSame_21 : List AI := [(.aload 0, []), (.invokevirtual 0, [23, 0, 3, 0, 0, 0, 7, 592, 594, 1, 127]), (.aload 0, []), (.iconst 2, []), (.iconst 26, []), (.invokevirtual 0, [37, 2, 3, 0, 0, 1, 7, 649, 651, 12, 127]), (.ifCond .ne 0, [37]), (.iconst 0, []), (.ireturn, [3])]
set_option maxRecDepth 20000 in
theorem ok_Reader_readSame_21 : okB m_Reader_readSame 21 k_Reader_readSame_21 = true := by decide +kernel
set_option maxRecDepth 20000 in
theorem b_Reader_readSame_21 (r0 : Nat) {h : Hp} {d mc ms : Nat} {R : PR} (H : ((1 ≤ d ∧ 0 ≤ mc ∧ 0 ≤ ms ∧ (hpT h r0).1 = 7) ∧ ∃ Q1 : PR, Wp m_Reader_step 0 [some (xR r0), none, none] [] h (d - 1) 0 0 Q1 ∧ ∀ (h1 : Hp), Q1 none h1 → ((1 ≤ d ∧ 0 ≤ mc ∧ 0 ≤ ms ∧ (hpT h1 r0).1 = 7) ∧ ∃ Q2 : PR, Wp m_Reader_areLetters 0 [some (xR r0), some (xI (2 : Int)), some (xI (26 : Int))] [] h1 (d - 1) 0 0 Q2 ∧ ∀ (v2 : Int) (h2 : Hp), Q2 (some (xI v2)) h2 → (if v2 = (0 : Int) then (((0 : Int) = 0 ∨ (0 : Int) = 1) ∧ R (some (xI (0 : Int))) h2) else Wp m_Reader_readSame 37 [some (xR r0)] [] h2 d mc ms R)))) : Wp m_Reader_readSame 21 [some (xR r0)] [] h d mc ms R := Wp_blk ok_Reader_readSame_21 H
def k_Reader_readSame_37 : List AI := [(.aload 0, []), (.invokevirtual 0, [39, 0, 1, 0, 0, 1, 7, 657, 659, 14, 127]), (.ifCond .eq 0, [62]), (.aload 0, []), (.invokevirtual 0, [38, 0, 3, 0, 0, 1, 7, 653, 655, 13, 127]), (.aload 0, []), (.getfield 0, [7, 0, 2, 382]), (.getfield 0, [10, 0, 2, 341]), (.invokevirtual 0, [42, 0, 3, 0, 0, 1, 8, 671, 672, 673, 129]), (.iand, []), (.ifCond .eq 0, [68]), (.nop, [62])]
set_option maxRecDepth 20000 in
theorem ok_Reader_readSame_37 : okB m_Reader_readSame 37 k_Reader_readSame_37 = true := by decide +kernel
set_option maxRecDepth 20000 in
theorem b_Reader_readSame_37 (r0 : Nat) {h : Hp} {d mc ms : Nat} {R : PR} (H : ((1 ≤ d ∧ 0 ≤ mc ∧ 0 ≤ ms ∧ (hpT h r0).1 = 7) ∧ ∃ Q1 : PR, Wp m_Reader_areUnlike 0 [some (xR r0)] [] h (d - 1) 0 0 Q1 ∧ ∀ (v1 : Int) (h1 : Hp), Q1 (some (xI v1)) h1 → (if v1 = (0 : Int) then Wp m_Reader_readSame 62 [some (xR r0)] [] h1 d mc ms R else ((1 ≤ d ∧ 0 ≤ mc ∧ 0 ≤ ms ∧ (hpT h1 r0).1 = 7) ∧ ∃ Q2 : PR, Wp m_Reader_letterBits 0 [some (xR r0), none, none] [] h1 (d - 1) 0 0 Q2 ∧ ∀ (v2 : Int) (h2 : Hp), Q2 (some (xI v2)) h2 → ((hpT h2 r0).1 = 7 ∧ ((hpT h2 (Int.toNat (hpC h2 r0 0))).1 = 10 ∧ ((1 ≤ d ∧ 0 ≤ mc ∧ 0 ≤ ms ∧ (hpT h2 (Int.toNat (hpC h2 (Int.toNat (hpC h2 r0 0)) 0))).1 = 8) ∧ ∃ Q3 : PR, Wp m_Rules_grouped 0 [some (xR (Int.toNat (hpC h2 (Int.toNat (hpC h2 r0 0)) 0))), none, none] [] h2 (d - 1) 0 0 Q3 ∧ ∀ (v3 : Int) (h3 : Hp), Q3 (some (xI v3)) h3 → (if (ai_and v2 v3) = (0 : Int) then Wp m_Reader_readSame 68 [some (xR r0)] [] h3 d mc ms R else Wp m_Reader_readSame 62 [some (xR r0)] [] h3 d mc ms R)))))))) : Wp m_Reader_readSame 37 [some (xR r0)] [] h d mc ms R := Wp_blk ok_Reader_readSame_37 H
def k_Reader_readSame_62 : List AI := [(.aload 0, []), (.iconst 3, []), (.invokevirtual 0, [32, 1, 2, 0, 0, 1, 7, 629, 631, 7, 127]), (.ireturn, [3])]
set_option maxRecDepth 20000 in
theorem ok_Reader_readSame_62 : okB m_Reader_readSame 62 k_Reader_readSame_62 = true := by decide +kernel
set_option maxRecDepth 20000 in
theorem b_Reader_readSame_62 (r0 : Nat) {h : Hp} {d mc ms : Nat} {R : PR} (H : ((1 ≤ d ∧ 0 ≤ mc ∧ 0 ≤ ms ∧ (hpT h r0).1 = 7) ∧ ∃ Q1 : PR, Wp m_Reader_fails 0 [some (xR r0), some (xI (3 : Int))] [] h (d - 1) 0 0 Q1 ∧ ∀ (v1 : Int) (h1 : Hp), Q1 (some (xI v1)) h1 → ((v1 = 0 ∨ v1 = 1) ∧ R (some (xI v1)) h1))) : Wp m_Reader_readSame 62 [some (xR r0)] [] h d mc ms R := Wp_blk ok_Reader_readSame_62 H
def k_Reader_readSame_68 : List AI := [(.aload 0, []), (.getfield 0, [7, 0, 2, 382]), (.getfield 0, [10, 0, 2, 341]), (.aload 0, []), (.getfield 0, [7, 3, 2, 388]), (.aload 0, []), (.getfield 0, [7, 5, 0, 390]), (.invokevirtual 0, [26, 1, 3, 0, 0, 1, 9, 604, 605, 606, 121]), (.aload 0, []), (.invokevirtual 0, [38, 0, 3, 0, 0, 1, 7, 653, 655, 13, 127]), (.invokevirtual 0, [43, 2, 3, 0, 0, 0, 8, 675, 676, 677, 129]), (.iconst 1, []), (.ireturn, [3])]
set_option maxRecDepth 20000 in
theorem ok_Reader_readSame_68 : okB m_Reader_readSame 68 k_Reader_readSame_68 = true := by decide +kernel
set_option maxRecDepth 20000 in
theorem b_Reader_readSame_68 (r0 : Nat) {h : Hp} {d mc ms : Nat} {R : PR} (H : ((hpT h r0).1 = 7 ∧ ((hpT h (Int.toNat (hpC h r0 0))).1 = 10 ∧ ((hpT h r0).1 = 7 ∧ ((hpT h r0).1 = 7 ∧ ((1 ≤ d ∧ 0 ≤ mc ∧ 0 ≤ ms ∧ (hpT h (Int.toNat (hpC h r0 3))).1 = 9) ∧ ∃ Q1 : PR, Wp m_Tape_letterAt 0 [some (xR (Int.toNat (hpC h r0 3))), some (xI (hpC h r0 5)), none] [] h (d - 1) 0 0 Q1 ∧ ∀ (v1 : Int) (h1 : Hp), Q1 (some (xI v1)) h1 → ((1 ≤ d ∧ 0 ≤ mc ∧ 0 ≤ ms ∧ (hpT h1 r0).1 = 7) ∧ ∃ Q2 : PR, Wp m_Reader_letterBits 0 [some (xR r0), none, none] [] h1 (d - 1) 0 0 Q2 ∧ ∀ (v2 : Int) (h2 : Hp), Q2 (some (xI v2)) h2 → ((1 ≤ d ∧ 0 ≤ mc ∧ 0 ≤ ms ∧ (hpT h2 (Int.toNat (hpC h (Int.toNat (hpC h r0 0)) 0))).1 = 8) ∧ ∃ Q3 : PR, Wp m_Rules_addGroup 0 [some (xR (Int.toNat (hpC h (Int.toNat (hpC h r0 0)) 0))), some (xI v1), some (xI v2)] [] h2 (d - 1) 0 0 Q3 ∧ ∀ (h3 : Hp), Q3 none h3 → (((1 : Int) = 0 ∨ (1 : Int) = 1) ∧ R (some (xI (1 : Int))) h3))))))))) : Wp m_Reader_readSame 68 [some (xR r0)] [] h d mc ms R := Wp_blk ok_Reader_readSame_68 H
def k_Reader_readPair_0 : List AI := [(.aload 0, []), (.getfield 0, [7, 0, 2, 382]), (.getfield 0, [10, 0, 2, 341]), (.getfield 0, [8, 5, 0, 255]), (.iconst 8, []), (.if_icmp .lt 0, [21]), (.aload 0, []), (.iconst 4, []), (.invokevirtual 0, [32, 1, 2, 0, 0, 1, 7, 629, 631, 7, 127]), (.ireturn, [3])]
set_option maxRecDepth 20000 in
theorem ok_Reader_readPair_0 : okB m_Reader_readPair 0 k_Reader_readPair_0 = true := by decide +kernel
set_option maxRecDepth 20000 in
theorem b_Reader_readPair_0 (r0 : Nat) (o1 : Option AV) (o2 : Option AV) {h : Hp} {d mc ms : Nat} {R : PR} (H : ((hpT h r0).1 = 7 ∧ ((hpT h (Int.toNat (hpC h r0 0))).1 = 10 ∧ ((hpT h (Int.toNat (hpC h (Int.toNat (hpC h r0 0)) 0))).1 = 8 ∧ (if (hpC h (Int.toNat (hpC h (Int.toNat (hpC h r0 0)) 0)) 5) < (8 : Int) then Wp m_Reader_readPair 21 [some (xR r0), o1, o2] [] h d mc ms R else ((1 ≤ d ∧ 0 ≤ mc ∧ 0 ≤ ms ∧ (hpT h r0).1 = 7) ∧ ∃ Q1 : PR, Wp m_Reader_fails 0 [some (xR r0), some (xI (4 : Int))] [] h (d - 1) 0 0 Q1 ∧ ∀ (v1 : Int) (h1 : Hp), Q1 (some (xI v1)) h1 → ((v1 = 0 ∨ v1 = 1) ∧ R (some (xI v1)) h1))))))) : Wp m_Reader_readPair 0 [some (xR r0), o1, o2] [] h d mc ms R := Wp_blk ok_Reader_readPair_0 H
def k_Reader_readPair_21 : List AI := [(.aload 0, []), (.invokevirtual 0, [23, 0, 3, 0, 0, 0, 7, 592, 594, 1, 127]), (.aload 0, []), (.iconst 2, []), (.iconst 2, []), (.invokevirtual 0, [37, 2, 3, 0, 0, 1, 7, 649, 651, 12, 127]), (.ifCond .ne 0, [36]), (.iconst 0, []), (.ireturn, [3])]
set_option maxRecDepth 20000 in
theorem ok_Reader_readPair_21 : okB m_Reader_readPair 21 k_Reader_readPair_21 = true := by decide +kernel
set_option maxRecDepth 20000 in
theorem b_Reader_readPair_21 (r0 : Nat) (o1 : Option AV) (o2 : Option AV) {h : Hp} {d mc ms : Nat} {R : PR} (H : ((1 ≤ d ∧ 0 ≤ mc ∧ 0 ≤ ms ∧ (hpT h r0).1 = 7) ∧ ∃ Q1 : PR, Wp m_Reader_step 0 [some (xR r0), none, none] [] h (d - 1) 0 0 Q1 ∧ ∀ (h1 : Hp), Q1 none h1 → ((1 ≤ d ∧ 0 ≤ mc ∧ 0 ≤ ms ∧ (hpT h1 r0).1 = 7) ∧ ∃ Q2 : PR, Wp m_Reader_areLetters 0 [some (xR r0), some (xI (2 : Int)), some (xI (2 : Int))] [] h1 (d - 1) 0 0 Q2 ∧ ∀ (v2 : Int) (h2 : Hp), Q2 (some (xI v2)) h2 → (if v2 = (0 : Int) then (((0 : Int) = 0 ∨ (0 : Int) = 1) ∧ R (some (xI (0 : Int))) h2) else Wp m_Reader_readPair 36 [some (xR r0), o1, o2] [] h2 d mc ms R)))) : Wp m_Reader_readPair 21 [some (xR r0), o1, o2] [] h d mc ms R := Wp_blk ok_Reader_readPair_21 H
def k_Reader_readPair_36 : List AI := [(.aload 0, []), (.getfield 0, [7, 3, 2, 388]), (.aload 0, []), (.getfield 0, [7, 5, 0, 390]), (.invokevirtual 0, [26, 1, 3, 0, 0, 1, 9, 604, 605, 606, 121]), (.istore 1, []), (.aload 0, []), (.getfield 0, [7, 3, 2, 388]), (.aload 0, []), (.getfield 0, [7, 5, 0, 390]), (.iconst 1, []), (.iadd, []), (.invokevirtual 0, [26, 1, 3, 0, 0, 1, 9, 604, 605, 606, 121]), (.istore 2, []), (.aload 0, []), (.getfield 0, [7, 0, 2, 382]), (.getfield 0, [10, 0, 2, 341]), (.iload 1, []), (.iload 2, []), (.invokevirtual 0, [45, 2, 4, 0, 0, 1, 8, 683, 684, 685, 129]), (.ifCond .eq 0, [83]), (.aload 0, []), (.iconst 3, []), (.invokevirtual 0, [32, 1, 2, 0, 0, 1, 7, 629, 631, 7, 127]), (.ireturn, [3])]
set_option maxRecDepth 20000 in
theorem ok_Reader_readPair_36 : okB m_Reader_readPair 36 k_Reader_readPair_36 = true := by decide +kernel
set_option maxRecDepth 20000 in
theorem b_Reader_readPair_36 (r0 : Nat) (o1 : Option AV) (o2 : Option AV) {h : Hp} {d mc ms : Nat} {R : PR} (H : ((hpT h r0).1 = 7 ∧ ((hpT h r0).1 = 7 ∧ ((1 ≤ d ∧ 0 ≤ mc ∧ 0 ≤ ms ∧ (hpT h (Int.toNat (hpC h r0 3))).1 = 9) ∧ ∃ Q1 : PR, Wp m_Tape_letterAt 0 [some (xR (Int.toNat (hpC h r0 3))), some (xI (hpC h r0 5)), none] [] h (d - 1) 0 0 Q1 ∧ ∀ (v1 : Int) (h1 : Hp), Q1 (some (xI v1)) h1 → ((hpT h1 r0).1 = 7 ∧ ((hpT h1 r0).1 = 7 ∧ ((1 ≤ d ∧ 0 ≤ mc ∧ 0 ≤ ms ∧ (hpT h1 (Int.toNat (hpC h1 r0 3))).1 = 9) ∧ ∃ Q2 : PR, Wp m_Tape_letterAt 0 [some (xR (Int.toNat (hpC h1 r0 3))), some (xI (ai_add (hpC h1 r0 5) (1 : Int))), none] [] h1 (d - 1) 0 0 Q2 ∧ ∀ (v2 : Int) (h2 : Hp), Q2 (some (xI v2)) h2 → ((hpT h2 r0).1 = 7 ∧ ((hpT h2 (Int.toNat (hpC h2 r0 0))).1 = 10 ∧ ((1 ≤ d ∧ 0 ≤ mc ∧ 0 ≤ ms ∧ (hpT h2 (Int.toNat (hpC h2 (Int.toNat (hpC h2 r0 0)) 0))).1 = 8) ∧ ∃ Q3 : PR, Wp m_Rules_pairOf 0 [some (xR (Int.toNat (hpC h2 (Int.toNat (hpC h2 r0 0)) 0))), some (xI v1), some (xI v2), none] [] h2 (d - 1) 0 0 Q3 ∧ ∀ (v3 : Int) (h3 : Hp), Q3 (some (xI v3)) h3 → (if v3 = (0 : Int) then Wp m_Reader_readPair 83 [some (xR r0), some (xI v1), some (xI v2)] [] h3 d mc ms R else ((1 ≤ d ∧ 0 ≤ mc ∧ 0 ≤ ms ∧ (hpT h3 r0).1 = 7) ∧ ∃ Q4 : PR, Wp m_Reader_fails 0 [some (xR r0), some (xI (3 : Int))] [] h3 (d - 1) 0 0 Q4 ∧ ∀ (v4 : Int) (h4 : Hp), Q4 (some (xI v4)) h4 → ((v4 = 0 ∨ v4 = 1) ∧ R (some (xI v4)) h4))))))))))))) : Wp m_Reader_readPair 36 [some (xR r0), o1, o2] [] h d mc ms R := Wp_blk ok_Reader_readPair_36 H
def k_Reader_readPair_83 : List AI := [(.aload 0, []), (.invokevirtual 0, [23, 0, 3, 0, 0, 0, 7, 592, 594, 1, 127]), (.aload 0, []), (.iconst 1, []), (.iconst 1, []), (.invokevirtual 0, [37, 2, 3, 0, 0, 1, 7, 649, 651, 12, 127]), (.ifCond .ne 0, [98]), (.iconst 0, []), (.ireturn, [3])]
set_option maxRecDepth 20000 in
theorem ok_Reader_readPair_83 : okB m_Reader_readPair 83 k_Reader_readPair_83 = true := by decide +kernel
set_option maxRecDepth 20000 in
theorem b_Reader_readPair_83 (r0 : Nat) (i1 : Int) (i2 : Int) {h : Hp} {d mc ms : Nat} {R : PR} (H : ((1 ≤ d ∧ 0 ≤ mc ∧ 0 ≤ ms ∧ (hpT h r0).1 = 7) ∧ ∃ Q1 : PR, Wp m_Reader_step 0 [some (xR r0), none, none] [] h (d - 1) 0 0 Q1 ∧ ∀ (h1 : Hp), Q1 none h1 → ((1 ≤ d ∧ 0 ≤ mc ∧ 0 ≤ ms ∧ (hpT h1 r0).1 = 7) ∧ ∃ Q2 : PR, Wp m_Reader_areLetters 0 [some (xR r0), some (xI (1 : Int)), some (xI (1 : Int))] [] h1 (d - 1) 0 0 Q2 ∧ ∀ (v2 : Int) (h2 : Hp), Q2 (some (xI v2)) h2 → (if v2 = (0 : Int) then (((0 : Int) = 0 ∨ (0 : Int) = 1) ∧ R (some (xI (0 : Int))) h2) else Wp m_Reader_readPair 98 [some (xR r0), some (xI i1), some (xI i2)] [] h2 d mc ms R)))) : Wp m_Reader_readPair 83 [some (xR r0), some (xI i1), some (xI i2)] [] h d mc ms R := Wp_blk ok_Reader_readPair_83 H
def k_Reader_readPair_98 : List AI := [(.aload 0, []), (.getfield 0, [7, 0, 2, 382]), (.getfield 0, [10, 0, 2, 341]), (.iload 1, []), (.iload 2, []), (.aload 0, []), (.getfield 0, [7, 3, 2, 388]), (.aload 0, []), (.getfield 0, [7, 5, 0, 390]), (.invokevirtual 0, [26, 1, 3, 0, 0, 1, 9, 604, 605, 606, 121]), (.invokevirtual 0, [46, 3, 4, 0, 0, 0, 8, 687, 688, 689, 129]), (.iconst 1, []), (.ireturn, [3])]
set_option maxRecDepth 20000 in
theorem ok_Reader_readPair_98 : okB m_Reader_readPair 98 k_Reader_readPair_98 = true := by decide +kernel
set_option maxRecDepth 20000 in
theorem b_Reader_readPair_98 (r0 : Nat) (i1 : Int) (i2 : Int) {h : Hp} {d mc ms : Nat} {R : PR} (H : ((hpT h r0).1 = 7 ∧ ((hpT h (Int.toNat (hpC h r0 0))).1 = 10 ∧ ((hpT h r0).1 = 7 ∧ ((hpT h r0).1 = 7 ∧ ((1 ≤ d ∧ 0 ≤ mc ∧ 0 ≤ ms ∧ (hpT h (Int.toNat (hpC h r0 3))).1 = 9) ∧ ∃ Q1 : PR, Wp m_Tape_letterAt 0 [some (xR (Int.toNat (hpC h r0 3))), some (xI (hpC h r0 5)), none] [] h (d - 1) 0 0 Q1 ∧ ∀ (v1 : Int) (h1 : Hp), Q1 (some (xI v1)) h1 → ((1 ≤ d ∧ 0 ≤ mc ∧ 0 ≤ ms ∧ (hpT h1 (Int.toNat (hpC h (Int.toNat (hpC h r0 0)) 0))).1 = 8) ∧ ∃ Q2 : PR, Wp m_Rules_addPair 0 [some (xR (Int.toNat (hpC h (Int.toNat (hpC h r0 0)) 0))), some (xI i1), some (xI i2), some (xI v1)] [] h1 (d - 1) 0 0 Q2 ∧ ∀ (h2 : Hp), Q2 none h2 → (((1 : Int) = 0 ∨ (1 : Int) = 1) ∧ R (some (xI (1 : Int))) h2)))))))) : Wp m_Reader_readPair 98 [some (xR r0), some (xI i1), some (xI i2)] [] h d mc ms R := Wp_blk ok_Reader_readPair_98 H
def k_Reader_readStreet_0 : List AI := [(.aload 0, []), (.getfield 0, [7, 0, 2, 382]), (.getfield 0, [10, 1, 2, 345]), (.invokevirtual 0, [48, 0, 1, 0, 0, 1, 3, 695, 696, 697, 130]), (.ifCond .eq 0, [19]), (.aload 0, []), (.iconst 4, []), (.invokevirtual 0, [32, 1, 2, 0, 0, 1, 7, 629, 631, 7, 127]), (.ireturn, [3])]
set_option maxRecDepth 20000 in
theorem ok_Reader_readStreet_0 : okB m_Reader_readStreet 0 k_Reader_readStreet_0 = true := by decide +kernel
set_option maxRecDepth 20000 in
theorem b_Reader_readStreet_0 (r0 : Nat) {h : Hp} {d mc ms : Nat} {R : PR} (H : ((hpT h r0).1 = 7 ∧ ((hpT h (Int.toNat (hpC h r0 0))).1 = 10 ∧ ((1 ≤ d ∧ 0 ≤ mc ∧ 0 ≤ ms ∧ (hpT h (Int.toNat (hpC h (Int.toNat (hpC h r0 0)) 1))).1 = 3) ∧ ∃ Q1 : PR, Wp m_Names_isFull 0 [some (xR (Int.toNat (hpC h (Int.toNat (hpC h r0 0)) 1)))] [] h (d - 1) 0 0 Q1 ∧ ∀ (v1 : Int) (h1 : Hp), Q1 (some (xI v1)) h1 → (if v1 = (0 : Int) then Wp m_Reader_readStreet 19 [some (xR r0)] [] h1 d mc ms R else ((1 ≤ d ∧ 0 ≤ mc ∧ 0 ≤ ms ∧ (hpT h1 r0).1 = 7) ∧ ∃ Q2 : PR, Wp m_Reader_fails 0 [some (xR r0), some (xI (4 : Int))] [] h1 (d - 1) 0 0 Q2 ∧ ∀ (v2 : Int) (h2 : Hp), Q2 (some (xI v2)) h2 → ((v2 = 0 ∨ v2 = 1) ∧ R (some (xI v2)) h2))))))) : Wp m_Reader_readStreet 0 [some (xR r0)] [] h d mc ms R := Wp_blk ok_Reader_readStreet_0 H
def k_Reader_readStreet_19 : List AI := [(.aload 0, []), (.invokevirtual 0, [23, 0, 3, 0, 0, 0, 7, 592, 594, 1, 127]), (.aload 0, []), (.invokevirtual 0, [49, 0, 1, 0, 0, 1, 7, 699, 701, 18, 127]), (.ifCond .ne 0, [32]), (.iconst 0, []), (.ireturn, [3])]
set_option maxRecDepth 20000 in
theorem ok_Reader_readStreet_19 : okB m_Reader_readStreet 19 k_Reader_readStreet_19 = true := by decide +kernel
set_option maxRecDepth 20000 in
theorem b_Reader_readStreet_19 (r0 : Nat) {h : Hp} {d mc ms : Nat} {R : PR} (H : ((1 ≤ d ∧ 0 ≤ mc ∧ 0 ≤ ms ∧ (hpT h r0).1 = 7) ∧ ∃ Q1 : PR, Wp m_Reader_step 0 [some (xR r0), none, none] [] h (d - 1) 0 0 Q1 ∧ ∀ (h1 : Hp), Q1 none h1 → ((1 ≤ d ∧ 0 ≤ mc ∧ 0 ≤ ms ∧ (hpT h1 r0).1 = 7) ∧ ∃ Q2 : PR, Wp m_Reader_isNewName 0 [some (xR r0)] [] h1 (d - 1) 0 0 Q2 ∧ ∀ (v2 : Int) (h2 : Hp), Q2 (some (xI v2)) h2 → (if v2 = (0 : Int) then (((0 : Int) = 0 ∨ (0 : Int) = 1) ∧ R (some (xI (0 : Int))) h2) else Wp m_Reader_readStreet 32 [some (xR r0)] [] h2 d mc ms R)))) : Wp m_Reader_readStreet 19 [some (xR r0)] [] h d mc ms R := Wp_blk ok_Reader_readStreet_19 H
def k_Reader_readStreet_32 : List AI := [(.aload 0, []), (.getfield 0, [7, 0, 2, 382]), (.getfield 0, [10, 1, 2, 345]), (.aload 0, []), (.getfield 0, [7, 7, 1, 392]), (.ldc2_w 0, []), (.invokevirtual 0, [53, 2, 5, 0, 0, 0, 3, 715, 716, 717, 130]), (.iconst 1, []), (.ireturn, [3])]
set_option maxRecDepth 20000 in
theorem ok_Reader_readStreet_32 : okB m_Reader_readStreet 32 k_Reader_readStreet_32 = true := by decide +kernel
set_option maxRecDepth 20000 in
theorem b_Reader_readStreet_32 (r0 : Nat) {h : Hp} {d mc ms : Nat} {R : PR} (H : ((hpT h r0).1 = 7 ∧ ((hpT h (Int.toNat (hpC h r0 0))).1 = 10 ∧ ((hpT h r0).1 = 7 ∧ ((1 ≤ d ∧ 0 ≤ mc ∧ 0 ≤ ms ∧ (hpT h (Int.toNat (hpC h (Int.toNat (hpC h r0 0)) 1))).1 = 3) ∧ ∃ Q1 : PR, Wp m_Names_add 0 [some (xR (Int.toNat (hpC h (Int.toNat (hpC h r0 0)) 1))), some (xL (hpC h r0 7)), none, some (xL ((0 : Nat) : Int)), none] [] h (d - 1) 0 0 Q1 ∧ ∀ (h1 : Hp), Q1 none h1 → (((1 : Int) = 0 ∨ (1 : Int) = 1) ∧ R (some (xI (1 : Int))) h1)))))) : Wp m_Reader_readStreet 32 [some (xR r0)] [] h d mc ms R := Wp_blk ok_Reader_readStreet_32 H
def k_Reader_isNewName_0 : List AI := [(.aload 0, []), (.invokevirtual 0, [50, 0, 1, 0, 0, 1, 7, 703, 705, 19, 127]), (.ifCond .eq 0, [33]), (.aload 0, []), (.getfield 0, [7, 0, 2, 382]), (.aload 0, []), (.getfield 0, [7, 7, 1, 392]), (.invokevirtual 0, [51, 1, 3, 0, 0, 1, 10, 707, 708, 709, 128]), (.ifCond .eq 0, [29]), (.aload 0, []), (.iconst 3, []), (.invokevirtual 0, [32, 1, 2, 0, 0, 1, 7, 629, 631, 7, 127]), (.ifCond .eq 0, [33]), (.nop, [29])]
set_option maxRecDepth 20000 in
theorem ok_Reader_isNewName_0 : okB m_Reader_isNewName 0 k_Reader_isNewName_0 = true := by decide +kernel
set_option maxRecDepth 20000 in
theorem b_Reader_isNewName_0 (r0 : Nat) {h : Hp} {d mc ms : Nat} {R : PR} (H : ((1 ≤ d ∧ 0 ≤ mc ∧ 0 ≤ ms ∧ (hpT h r0).1 = 7) ∧ ∃ Q1 : PR, Wp m_Reader_isName 0 [some (xR r0)] [] h (d - 1) 0 0 Q1 ∧ ∀ (v1 : Int) (h1 : Hp), Q1 (some (xI v1)) h1 → (if v1 = (0 : Int) then Wp m_Reader_isNewName 33 [some (xR r0)] [] h1 d mc ms R else ((hpT h1 r0).1 = 7 ∧ ((hpT h1 r0).1 = 7 ∧ ((1 ≤ d ∧ 0 ≤ mc ∧ 0 ≤ ms ∧ (hpT h1 (Int.toNat (hpC h1 r0 0))).1 = 10) ∧ ∃ Q2 : PR, Wp m_Town_knows 0 [some (xR (Int.toNat (hpC h1 r0 0))), some (xL (hpC h1 r0 7)), none] [] h1 (d - 1) 0 0 Q2 ∧ ∀ (v2 : Int) (h2 : Hp), Q2 (some (xI v2)) h2 → (if v2 = (0 : Int) then Wp m_Reader_isNewName 29 [some (xR r0)] [] h2 d mc ms R else ((1 ≤ d ∧ 0 ≤ mc ∧ 0 ≤ ms ∧ (hpT h2 r0).1 = 7) ∧ ∃ Q3 : PR, Wp m_Reader_fails 0 [some (xR r0), some (xI (3 : Int))] [] h2 (d - 1) 0 0 Q3 ∧ ∀ (v3 : Int) (h3 : Hp), Q3 (some (xI v3)) h3 → (if v3 = (0 : Int) then Wp m_Reader_isNewName 33 [some (xR r0)] [] h3 d mc ms R else Wp m_Reader_isNewName 29 [some (xR r0)] [] h3 d mc ms R))))))))) : Wp m_Reader_isNewName 0 [some (xR r0)] [] h d mc ms R := Wp_blk ok_Reader_isNewName_0 H
def k_Reader_isNewName_29 : List AI := [(.iconst 1, []), (.goto 0, []), (.nop, [34])]
set_option maxRecDepth 20000 in
theorem ok_Reader_isNewName_29 : okB m_Reader_isNewName 29 k_Reader_isNewName_29 = true := by decide +kernel
set_option maxRecDepth 20000 in
theorem b_Reader_isNewName_29 (o0 : Option AV) {h : Hp} {d mc ms : Nat} {R : PR} (H : Wp m_Reader_isNewName 34 [o0] [xI (1 : Int)] h d mc ms R) : Wp m_Reader_isNewName 29 [o0] [] h d mc ms R := Wp_blk ok_Reader_isNewName_29 H
def k_Reader_isNewName_33 : List AI := [(.iconst 0, []), (.nop, [34])]
set_option maxRecDepth 20000 in
theorem ok_Reader_isNewName_33 : okB m_Reader_isNewName 33 k_Reader_isNewName_33 = true := by decide +kernel
set_option maxRecDepth 20000 in
theorem b_Reader_isNewName_33 (o0 : Option AV) {h : Hp} {d mc ms : Nat} {R : PR} (H : Wp m_Reader_isNewName 34 [o0] [xI (0 : Int)] h d mc ms R) : Wp m_Reader_isNewName 33 [o0] [] h d mc ms R := Wp_blk ok_Reader_isNewName_33 H
def k_Reader_isNewName_34 : List AI := [(.ireturn, [3])]
set_option maxRecDepth 20000 in
theorem ok_Reader_isNewName_34 : okB m_Reader_isNewName 34 k_Reader_isNewName_34 = true := by decide +kernel
set_option maxRecDepth 20000 in
theorem b_Reader_isNewName_34 (o0 : Option AV) (p0 : Int) {h : Hp} {d mc ms : Nat} {R : PR} (H : ((p0 = 0 ∨ p0 = 1) ∧ R (some (xI p0)) h)) : Wp m_Reader_isNewName 34 [o0] [xI p0] h d mc ms R := Wp_blk ok_Reader_isNewName_34 H
def k_Reader_isName_0 : List AI := [(.aload 0, []), (.getfield 0, [7, 7, 1, 392]), (.ldc2_w 0, []), (.lcmp, []), (.ifCond .eq 0, [17]), (.aload 0, []), (.getfield 0, [7, 8, 0, 393]), (.iconst (-1), []), (.if_icmp .eq 0, [25]), (.nop, [17])]
set_option maxRecDepth 20000 in
theorem ok_Reader_isName_0 : okB m_Reader_isName 0 k_Reader_isName_0 = true := by decide +kernel
set_option maxRecDepth 20000 in
theorem b_Reader_isName_0 (r0 : Nat) {h : Hp} {d mc ms : Nat} {R : PR} (H : ((hpT h r0).1 = 7 ∧ (if (al_cmp (hpC h r0 7) ((0 : Nat) : Int)) = (0 : Int) then Wp m_Reader_isName 17 [some (xR r0)] [] h d mc ms R else ((hpT h r0).1 = 7 ∧ (if (hpC h r0 8) = (-1 : Int) then Wp m_Reader_isName 25 [some (xR r0)] [] h d mc ms R else Wp m_Reader_isName 17 [some (xR r0)] [] h d mc ms R))))) : Wp m_Reader_isName 0 [some (xR r0)] [] h d mc ms R := Wp_blk ok_Reader_isName_0 H
def k_Reader_isName_17 : List AI := [(.aload 0, []), (.iconst 1, []), (.invokevirtual 0, [32, 1, 2, 0, 0, 1, 7, 629, 631, 7, 127]), (.ifCond .eq 0, [29]), (.nop, [25])]
set_option maxRecDepth 20000 in
theorem ok_Reader_isName_17 : okB m_Reader_isName 17 k_Reader_isName_17 = true := by decide +kernel
set_option maxRecDepth 20000 in
theorem b_Reader_isName_17 (r0 : Nat) {h : Hp} {d mc ms : Nat} {R : PR} (H : ((1 ≤ d ∧ 0 ≤ mc ∧ 0 ≤ ms ∧ (hpT h r0).1 = 7) ∧ ∃ Q1 : PR, Wp m_Reader_fails 0 [some (xR r0), some (xI (1 : Int))] [] h (d - 1) 0 0 Q1 ∧ ∀ (v1 : Int) (h1 : Hp), Q1 (some (xI v1)) h1 → (if v1 = (0 : Int) then Wp m_Reader_isName 29 [some (xR r0)] [] h1 d mc ms R else Wp m_Reader_isName 25 [some (xR r0)] [] h1 d mc ms R))) : Wp m_Reader_isName 17 [some (xR r0)] [] h d mc ms R := Wp_blk ok_Reader_isName_17 H
def k_Reader_isName_25 : List AI := [(.iconst 1, []), (.goto 0, []), (.nop, [30])]
set_option maxRecDepth 20000 in
theorem ok_Reader_isName_25 : okB m_Reader_isName 25 k_Reader_isName_25 = true := by decide +kernel
set_option maxRecDepth 20000 in
theorem b_Reader_isName_25 (o0 : Option AV) {h : Hp} {d mc ms : Nat} {R : PR} (H : Wp m_Reader_isName 30 [o0] [xI (1 : Int)] h d mc ms R) : Wp m_Reader_isName 25 [o0] [] h d mc ms R := Wp_blk ok_Reader_isName_25 H
def k_Reader_isName_29 : List AI := [(.iconst 0, []), (.nop, [30])]
set_option maxRecDepth 20000 in
theorem ok_Reader_isName_29 : okB m_Reader_isName 29 k_Reader_isName_29 = true := by decide +kernel
set_option maxRecDepth 20000 in
theorem b_Reader_isName_29 (o0 : Option AV) {h : Hp} {d mc ms : Nat} {R : PR} (H : Wp m_Reader_isName 30 [o0] [xI (0 : Int)] h d mc ms R) : Wp m_Reader_isName 29 [o0] [] h d mc ms R := Wp_blk ok_Reader_isName_29 H
def k_Reader_isName_30 : List AI := [(.ireturn, [3])]
set_option maxRecDepth 20000 in
theorem ok_Reader_isName_30 : okB m_Reader_isName 30 k_Reader_isName_30 = true := by decide +kernel
set_option maxRecDepth 20000 in
theorem b_Reader_isName_30 (o0 : Option AV) (p0 : Int) {h : Hp} {d mc ms : Nat} {R : PR} (H : ((p0 = 0 ∨ p0 = 1) ∧ R (some (xI p0)) h)) : Wp m_Reader_isName 30 [o0] [xI p0] h d mc ms R := Wp_blk ok_Reader_isName_30 H
def k_Reader_readHouse_0 : List AI := [(.aload 0, []), (.invokevirtual 0, [23, 0, 3, 0, 0, 0, 7, 592, 594, 1, 127]), (.aload 0, []), (.invokevirtual 0, [55, 0, 1, 0, 0, 1, 7, 724, 726, 21, 127]), (.ifCond .ne 0, [13]), (.iconst 0, []), (.ireturn, [3])]
set_option maxRecDepth 20000 in
theorem ok_Reader_readHouse_0 : okB m_Reader_readHouse 0 k_Reader_readHouse_0 = true := by decide +kernel
set_option maxRecDepth 20000 in
theorem b_Reader_readHouse_0 (r0 : Nat) (o1 : Option AV) (o2 : Option AV) (o3 : Option AV) (o4 : Option AV) {h : Hp} {d mc ms : Nat} {R : PR} (H : ((1 ≤ d ∧ 0 ≤ mc ∧ 0 ≤ ms ∧ (hpT h r0).1 = 7) ∧ ∃ Q1 : PR, Wp m_Reader_step 0 [some (xR r0), none, none] [] h (d - 1) 0 0 Q1 ∧ ∀ (h1 : Hp), Q1 none h1 → ((1 ≤ d ∧ 0 ≤ mc ∧ 0 ≤ ms ∧ (hpT h1 r0).1 = 7) ∧ ∃ Q2 : PR, Wp m_Reader_isStreetName 0 [some (xR r0)] [] h1 (d - 1) 0 0 Q2 ∧ ∀ (v2 : Int) (h2 : Hp), Q2 (some (xI v2)) h2 → (if v2 = (0 : Int) then (((0 : Int) = 0 ∨ (0 : Int) = 1) ∧ R (some (xI (0 : Int))) h2) else Wp m_Reader_readHouse 13 [some (xR r0), o1, o2, o3, o4] [] h2 d mc ms R)))) : Wp m_Reader_readHouse 0 [some (xR r0), o1, o2, o3, o4] [] h d mc ms R := Wp_blk ok_Reader_readHouse_0 H
def k_Reader_readHouse_13 : List AI := [(.aload 0, []), (.getfield 0, [7, 0, 2, 382]), (.getfield 0, [10, 1, 2, 345]), (.aload 0, []), (.getfield 0, [7, 7, 1, 392]), (.invokevirtual 0, [52, 1, 4, 0, 0, 1, 3, 728, 712, 713, 130]), (.istore 1, []), (.aload 0, []), (.getfield 0, [7, 0, 2, 382]), (.getfield 0, [10, 6, 2, 362]), (.getfield 0, [2, 0, 2, 318]), (.iload 1, []), (.iaload, [20]), (.iconst 12, []), (.if_icmp .lt 0, [51]), (.aload 0, []), (.iconst 4, []), (.invokevirtual 0, [32, 1, 2, 0, 0, 1, 7, 629, 631, 7, 127]), (.ireturn, [3])]
set_option maxRecDepth 20000 in
theorem ok_Reader_readHouse_13 : okB m_Reader_readHouse 13 k_Reader_readHouse_13 = true := by decide +kernel
set_option maxRecDepth 20000 in
theorem b_Reader_readHouse_13 (r0 : Nat) (o1 : Option AV) (o2 : Option AV) (o3 : Option AV) (o4 : Option AV) {h : Hp} {d mc ms : Nat} {R : PR} (H : ((hpT h r0).1 = 7 ∧ ((hpT h (Int.toNat (hpC h r0 0))).1 = 10 ∧ ((hpT h r0).1 = 7 ∧ ((1 ≤ d ∧ 0 ≤ mc ∧ 0 ≤ ms ∧ (hpT h (Int.toNat (hpC h (Int.toNat (hpC h r0 0)) 1))).1 = 3) ∧ ∃ Q1 : PR, Wp m_Names_placeOf 0 [some (xR (Int.toNat (hpC h (Int.toNat (hpC h r0 0)) 1))), some (xL (hpC h r0 7)), none, none] [] h (d - 1) 0 0 Q1 ∧ ∀ (v1 : Int) (h1 : Hp), Q1 (some (xI v1)) h1 → ((hpT h1 r0).1 = 7 ∧ ((hpT h1 (Int.toNat (hpC h1 r0 0))).1 = 10 ∧ ((hpT h1 (Int.toNat (hpC h1 (Int.toNat (hpC h1 r0 0)) 6))).1 = 2 ∧ (((hpT h1 (Int.toNat (hpC h1 (Int.toNat (hpC h1 (Int.toNat (hpC h1 r0 0)) 6)) 0))).1 = 20 ∧ 0 ≤ v1 ∧ v1 < ((hpT h1 (Int.toNat (hpC h1 (Int.toNat (hpC h1 (Int.toNat (hpC h1 r0 0)) 6)) 0))).2 : Int)) ∧ (if (hpC h1 (Int.toNat (hpC h1 (Int.toNat (hpC h1 (Int.toNat (hpC h1 r0 0)) 6)) 0)) (Int.toNat v1)) < (12 : Int) then Wp m_Reader_readHouse 51 [some (xR r0), some (xI v1), o2, o3, o4] [] h1 d mc ms R else ((1 ≤ d ∧ 0 ≤ mc ∧ 0 ≤ ms ∧ (hpT h1 r0).1 = 7) ∧ ∃ Q2 : PR, Wp m_Reader_fails 0 [some (xR r0), some (xI (4 : Int))] [] h1 (d - 1) 0 0 Q2 ∧ ∀ (v2 : Int) (h2 : Hp), Q2 (some (xI v2)) h2 → ((v2 = 0 ∨ v2 = 1) ∧ R (some (xI v2)) h2)))))))))))) : Wp m_Reader_readHouse 13 [some (xR r0), o1, o2, o3, o4] [] h d mc ms R := Wp_blk ok_Reader_readHouse_13 H
def k_Reader_readHouse_51 : List AI := [(.aload 0, []), (.invokevirtual 0, [23, 0, 3, 0, 0, 0, 7, 592, 594, 1, 127]), (.aload 0, []), (.getfield 0, [7, 8, 0, 393]), (.iconst 8, []), (.if_icmp .eq 0, [79]), (.aload 0, []), (.getfield 0, [7, 8, 0, 393]), (.iconst 9, []), (.if_icmp .eq 0, [79]), (.aload 0, []), (.iconst 1, []), (.invokevirtual 0, [32, 1, 2, 0, 0, 1, 7, 629, 631, 7, 127]), (.ireturn, [3])]
set_option maxRecDepth 20000 in
theorem ok_Reader_readHouse_51 : okB m_Reader_readHouse 51 k_Reader_readHouse_51 = true := by decide +kernel
set_option maxRecDepth 20000 in
theorem b_Reader_readHouse_51 (r0 : Nat) (i1 : Int) (o2 : Option AV) (o3 : Option AV) (o4 : Option AV) {h : Hp} {d mc ms : Nat} {R : PR} (H : ((1 ≤ d ∧ 0 ≤ mc ∧ 0 ≤ ms ∧ (hpT h r0).1 = 7) ∧ ∃ Q1 : PR, Wp m_Reader_step 0 [some (xR r0), none, none] [] h (d - 1) 0 0 Q1 ∧ ∀ (h1 : Hp), Q1 none h1 → ((hpT h1 r0).1 = 7 ∧ (if (hpC h1 r0 8) = (8 : Int) then Wp m_Reader_readHouse 79 [some (xR r0), some (xI i1), o2, o3, o4] [] h1 d mc ms R else ((hpT h1 r0).1 = 7 ∧ (if (hpC h1 r0 8) = (9 : Int) then Wp m_Reader_readHouse 79 [some (xR r0), some (xI i1), o2, o3, o4] [] h1 d mc ms R else ((1 ≤ d ∧ 0 ≤ mc ∧ 0 ≤ ms ∧ (hpT h1 r0).1 = 7) ∧ ∃ Q2 : PR, Wp m_Reader_fails 0 [some (xR r0), some (xI (1 : Int))] [] h1 (d - 1) 0 0 Q2 ∧ ∀ (v2 : Int) (h2 : Hp), Q2 (some (xI v2)) h2 → ((v2 = 0 ∨ v2 = 1) ∧ R (some (xI v2)) h2)))))))) : Wp m_Reader_readHouse 51 [some (xR r0), some (xI i1), o2, o3, o4] [] h d mc ms R := Wp_blk ok_Reader_readHouse_51 H
def k_Reader_readHouse_79 : List AI := [(.aload 0, []), (.getfield 0, [7, 8, 0, 393]), (.iconst 8, []), (.if_icmp .ne 0, [92]), (.iconst 0, []), (.goto 0, []), (.nop, [93])]
set_option maxRecDepth 20000 in
theorem ok_Reader_readHouse_79 : okB m_Reader_readHouse 79 k_Reader_readHouse_79 = true := by decide +kernel
set_option maxRecDepth 20000 in
theorem b_Reader_readHouse_79 (r0 : Nat) (i1 : Int) (o2 : Option AV) (o3 : Option AV) (o4 : Option AV) {h : Hp} {d mc ms : Nat} {R : PR} (H : ((hpT h r0).1 = 7 ∧ (if (hpC h r0 8) = (8 : Int) then Wp m_Reader_readHouse 93 [some (xR r0), some (xI i1), o2, o3, o4] [xI (0 : Int)] h d mc ms R else Wp m_Reader_readHouse 92 [some (xR r0), some (xI i1), o2, o3, o4] [] h d mc ms R))) : Wp m_Reader_readHouse 79 [some (xR r0), some (xI i1), o2, o3, o4] [] h d mc ms R := Wp_blk ok_Reader_readHouse_79 H
def k_Reader_readHouse_92 : List AI := [(.iconst 1, []), (.nop, [93])]
set_option maxRecDepth 20000 in
theorem ok_Reader_readHouse_92 : okB m_Reader_readHouse 92 k_Reader_readHouse_92 = true := by decide +kernel
set_option maxRecDepth 20000 in
theorem b_Reader_readHouse_92 (r0 : Nat) (i1 : Int) (o2 : Option AV) (o3 : Option AV) (o4 : Option AV) {h : Hp} {d mc ms : Nat} {R : PR} (H : Wp m_Reader_readHouse 93 [some (xR r0), some (xI i1), o2, o3, o4] [xI (1 : Int)] h d mc ms R) : Wp m_Reader_readHouse 92 [some (xR r0), some (xI i1), o2, o3, o4] [] h d mc ms R := Wp_blk ok_Reader_readHouse_92 H
def k_Reader_readHouse_93 : List AI := [(.istore 2, []), (.aload 0, []), (.invokevirtual 0, [23, 0, 3, 0, 0, 0, 7, 592, 594, 1, 127]), (.aload 0, []), (.invokevirtual 0, [33, 0, 1, 0, 0, 1, 7, 633, 635, 8, 127]), (.ifCond .ne 0, [107]), (.iconst 0, []), (.ireturn, [3])]
set_option maxRecDepth 20000 in
theorem ok_Reader_readHouse_93 : okB m_Reader_readHouse 93 k_Reader_readHouse_93 = true := by decide +kernel
set_option maxRecDepth 20000 in
theorem b_Reader_readHouse_93 (r0 : Nat) (i1 : Int) (o2 : Option AV) (o3 : Option AV) (o4 : Option AV) (p0 : Int) {h : Hp} {d mc ms : Nat} {R : PR} (H : ((1 ≤ d ∧ 0 ≤ mc ∧ 0 ≤ ms ∧ (hpT h r0).1 = 7) ∧ ∃ Q1 : PR, Wp m_Reader_step 0 [some (xR r0), none, none] [] h (d - 1) 0 0 Q1 ∧ ∀ (h1 : Hp), Q1 none h1 → ((1 ≤ d ∧ 0 ≤ mc ∧ 0 ≤ ms ∧ (hpT h1 r0).1 = 7) ∧ ∃ Q2 : PR, Wp m_Reader_isNumber 0 [some (xR r0)] [] h1 (d - 1) 0 0 Q2 ∧ ∀ (v2 : Int) (h2 : Hp), Q2 (some (xI v2)) h2 → (if v2 = (0 : Int) then (((0 : Int) = 0 ∨ (0 : Int) = 1) ∧ R (some (xI (0 : Int))) h2) else Wp m_Reader_readHouse 107 [some (xR r0), some (xI i1), some (xI p0), o3, o4] [] h2 d mc ms R)))) : Wp m_Reader_readHouse 93 [some (xR r0), some (xI i1), o2, o3, o4] [xI p0] h d mc ms R := Wp_blk ok_Reader_readHouse_93 H
def k_Reader_readHouse_107 : List AI := [(.aload 0, []), (.invokevirtual 0, [34, 0, 3, 0, 0, 1, 7, 637, 639, 9, 127]), (.istore 3, []), (.aload 0, []), (.getfield 0, [7, 0, 2, 382]), (.getfield 0, [10, 6, 2, 362]), (.iload 1, []), (.iload 2, []), (.iload 3, []), (.invokevirtual 0, [56, 3, 6, 0, 0, 1, 2, 729, 730, 731, 131]), (.ifCond .eq 0, [134]), (.aload 0, []), (.iconst 3, []), (.invokevirtual 0, [32, 1, 2, 0, 0, 1, 7, 629, 631, 7, 127]), (.ireturn, [3])]
set_option maxRecDepth 20000 in
theorem ok_Reader_readHouse_107 : okB m_Reader_readHouse 107 k_Reader_readHouse_107 = true := by decide +kernel
set_option maxRecDepth 20000 in
theorem b_Reader_readHouse_107 (r0 : Nat) (i1 : Int) (i2 : Int) (o3 : Option AV) (o4 : Option AV) {h : Hp} {d mc ms : Nat} {R : PR} (H : ((1 ≤ d ∧ 0 ≤ mc ∧ 0 ≤ ms ∧ (hpT h r0).1 = 7) ∧ ∃ Q1 : PR, Wp m_Reader_number 0 [some (xR r0), none, none] [] h (d - 1) 0 0 Q1 ∧ ∀ (v1 : Int) (h1 : Hp), Q1 (some (xI v1)) h1 → ((hpT h1 r0).1 = 7 ∧ ((hpT h1 (Int.toNat (hpC h1 r0 0))).1 = 10 ∧ ((1 ≤ d ∧ 0 ≤ mc ∧ 0 ≤ ms ∧ (hpT h1 (Int.toNat (hpC h1 (Int.toNat (hpC h1 r0 0)) 6))).1 = 2) ∧ ∃ Q2 : PR, Wp m_Homes_isTaken 0 [some (xR (Int.toNat (hpC h1 (Int.toNat (hpC h1 r0 0)) 6))), some (xI i1), some (xI i2), some (xI v1), none, none] [] h1 (d - 1) 0 0 Q2 ∧ ∀ (v2 : Int) (h2 : Hp), Q2 (some (xI v2)) h2 → (if v2 = (0 : Int) then Wp m_Reader_readHouse 134 [some (xR r0), some (xI i1), some (xI i2), some (xI v1), o4] [] h2 d mc ms R else ((1 ≤ d ∧ 0 ≤ mc ∧ 0 ≤ ms ∧ (hpT h2 r0).1 = 7) ∧ ∃ Q3 : PR, Wp m_Reader_fails 0 [some (xR r0), some (xI (3 : Int))] [] h2 (d - 1) 0 0 Q3 ∧ ∀ (v3 : Int) (h3 : Hp), Q3 (some (xI v3)) h3 → ((v3 = 0 ∨ v3 = 1) ∧ R (some (xI v3)) h3)))))))) : Wp m_Reader_readHouse 107 [some (xR r0), some (xI i1), some (xI i2), o3, o4] [] h d mc ms R := Wp_blk ok_Reader_readHouse_107 H
def k_Reader_readHouse_134 : List AI := [(.aload 0, []), (.invokevirtual 0, [23, 0, 3, 0, 0, 0, 7, 592, 594, 1, 127]), (.aload 0, []), (.invokevirtual 0, [33, 0, 1, 0, 0, 1, 7, 633, 635, 8, 127]), (.ifCond .ne 0, [147]), (.iconst 0, []), (.ireturn, [3])]
set_option maxRecDepth 20000 in
theorem ok_Reader_readHouse_134 : okB m_Reader_readHouse 134 k_Reader_readHouse_134 = true := by decide +kernel
set_option maxRecDepth 20000 in
theorem b_Reader_readHouse_134 (r0 : Nat) (i1 : Int) (i2 : Int) (i3 : Int) (o4 : Option AV) {h : Hp} {d mc ms : Nat} {R : PR} (H : ((1 ≤ d ∧ 0 ≤ mc ∧ 0 ≤ ms ∧ (hpT h r0).1 = 7) ∧ ∃ Q1 : PR, Wp m_Reader_step 0 [some (xR r0), none, none] [] h (d - 1) 0 0 Q1 ∧ ∀ (h1 : Hp), Q1 none h1 → ((1 ≤ d ∧ 0 ≤ mc ∧ 0 ≤ ms ∧ (hpT h1 r0).1 = 7) ∧ ∃ Q2 : PR, Wp m_Reader_isNumber 0 [some (xR r0)] [] h1 (d - 1) 0 0 Q2 ∧ ∀ (v2 : Int) (h2 : Hp), Q2 (some (xI v2)) h2 → (if v2 = (0 : Int) then (((0 : Int) = 0 ∨ (0 : Int) = 1) ∧ R (some (xI (0 : Int))) h2) else Wp m_Reader_readHouse 147 [some (xR r0), some (xI i1), some (xI i2), some (xI i3), o4] [] h2 d mc ms R)))) : Wp m_Reader_readHouse 134 [some (xR r0), some (xI i1), some (xI i2), some (xI i3), o4] [] h d mc ms R := Wp_blk ok_Reader_readHouse_134 H
def k_Reader_readHouse_147 : List AI := [(.aload 0, []), (.invokevirtual 0, [34, 0, 3, 0, 0, 1, 7, 637, 639, 9, 127]), (.istore 4, []), (.iload 4, []), (.iconst 1, []), (.if_icmp .lt 0, [167]), (.iload 4, []), (.iconst 999, []), (.if_icmp .le 0, [173]), (.nop, [167])]
set_option maxRecDepth 20000 in
theorem ok_Reader_readHouse_147 : okB m_Reader_readHouse 147 k_Reader_readHouse_147 = true := by decide +kernel
set_option maxRecDepth 20000 in
theorem b_Reader_readHouse_147 (r0 : Nat) (i1 : Int) (i2 : Int) (i3 : Int) (o4 : Option AV) {h : Hp} {d mc ms : Nat} {R : PR} (H : ((1 ≤ d ∧ 0 ≤ mc ∧ 0 ≤ ms ∧ (hpT h r0).1 = 7) ∧ ∃ Q1 : PR, Wp m_Reader_number 0 [some (xR r0), none, none] [] h (d - 1) 0 0 Q1 ∧ ∀ (v1 : Int) (h1 : Hp), Q1 (some (xI v1)) h1 → (if v1 < (1 : Int) then Wp m_Reader_readHouse 167 [some (xR r0), some (xI i1), some (xI i2), some (xI i3), some (xI v1)] [] h1 d mc ms R else (if (999 : Int) < v1 then Wp m_Reader_readHouse 167 [some (xR r0), some (xI i1), some (xI i2), some (xI i3), some (xI v1)] [] h1 d mc ms R else Wp m_Reader_readHouse 173 [some (xR r0), some (xI i1), some (xI i2), some (xI i3), some (xI v1)] [] h1 d mc ms R)))) : Wp m_Reader_readHouse 147 [some (xR r0), some (xI i1), some (xI i2), some (xI i3), o4] [] h d mc ms R := Wp_blk ok_Reader_readHouse_147 H
def k_Reader_readHouse_167 : List AI := [(.aload 0, []), (.iconst 2, []), (.invokevirtual 0, [32, 1, 2, 0, 0, 1, 7, 629, 631, 7, 127]), (.ireturn, [3])]
set_option maxRecDepth 20000 in
theorem ok_Reader_readHouse_167 : okB m_Reader_readHouse 167 k_Reader_readHouse_167 = true := by decide +kernel
set_option maxRecDepth 20000 in
theorem b_Reader_readHouse_167 (r0 : Nat) (o1 : Option AV) (o2 : Option AV) (o3 : Option AV) (o4 : Option AV) {h : Hp} {d mc ms : Nat} {R : PR} (H : ((1 ≤ d ∧ 0 ≤ mc ∧ 0 ≤ ms ∧ (hpT h r0).1 = 7) ∧ ∃ Q1 : PR, Wp m_Reader_fails 0 [some (xR r0), some (xI (2 : Int))] [] h (d - 1) 0 0 Q1 ∧ ∀ (v1 : Int) (h1 : Hp), Q1 (some (xI v1)) h1 → ((v1 = 0 ∨ v1 = 1) ∧ R (some (xI v1)) h1))) : Wp m_Reader_readHouse 167 [some (xR r0), o1, o2, o3, o4] [] h d mc ms R := Wp_blk ok_Reader_readHouse_167 H
def k_Reader_readHouse_173 : List AI := [(.aload 0, []), (.getfield 0, [7, 0, 2, 382]), (.getfield 0, [10, 6, 2, 362]), (.iload 1, []), (.iload 2, []), (.iload 3, []), (.iload 4, []), (.invokevirtual 0, [58, 4, 6, 0, 0, 0, 2, 736, 737, 738, 131]), (.iconst 1, []), (.ireturn, [3])]
set_option maxRecDepth 20000 in
theorem ok_Reader_readHouse_173 : okB m_Reader_readHouse 173 k_Reader_readHouse_173 = true := by decide +kernel
set_option maxRecDepth 20000 in
theorem b_Reader_readHouse_173 (r0 : Nat) (i1 : Int) (i2 : Int) (i3 : Int) (i4 : Int) {h : Hp} {d mc ms : Nat} {R : PR} (H : ((hpT h r0).1 = 7 ∧ ((hpT h (Int.toNat (hpC h r0 0))).1 = 10 ∧ ((1 ≤ d ∧ 0 ≤ mc ∧ 0 ≤ ms ∧ (hpT h (Int.toNat (hpC h (Int.toNat (hpC h r0 0)) 6))).1 = 2) ∧ ∃ Q1 : PR, Wp m_Homes_add 0 [some (xR (Int.toNat (hpC h (Int.toNat (hpC h r0 0)) 6))), some (xI i1), some (xI i2), some (xI i3), some (xI i4), none] [] h (d - 1) 0 0 Q1 ∧ ∀ (h1 : Hp), Q1 none h1 → (((1 : Int) = 0 ∨ (1 : Int) = 1) ∧ R (some (xI (1 : Int))) h1))))) : Wp m_Reader_readHouse 173 [some (xR r0), some (xI i1), some (xI i2), some (xI i3), some (xI i4)] [] h d mc ms R := Wp_blk ok_Reader_readHouse_173 H
def k_Reader_isStreetName_0 : List AI := [(.aload 0, []), (.invokevirtual 0, [50, 0, 1, 0, 0, 1, 7, 703, 705, 19, 127]), (.ifCond .eq 0, [37]), (.aload 0, []), (.getfield 0, [7, 0, 2, 382]), (.getfield 0, [10, 1, 2, 345]), (.aload 0, []), (.getfield 0, [7, 7, 1, 392]), (.invokevirtual 0, [52, 1, 4, 0, 0, 1, 3, 728, 712, 713, 130]), (.iconst (-1), []), (.if_icmp .ne 0, [33]), (.aload 0, []), (.iconst 3, []), (.invokevirtual 0, [32, 1, 2, 0, 0, 1, 7, 629, 631, 7, 127]), (.ifCond .eq 0, [37]), (.nop, [33])]
set_option maxRecDepth 20000 in
theorem ok_Reader_isStreetName_0 : okB m_Reader_isStreetName 0 k_Reader_isStreetName_0 = true := by decide +kernel
set_option maxRecDepth 20000 in
theorem b_Reader_isStreetName_0 (r0 : Nat) {h : Hp} {d mc ms : Nat} {R : PR} (H : ((1 ≤ d ∧ 0 ≤ mc ∧ 0 ≤ ms ∧ (hpT h r0).1 = 7) ∧ ∃ Q1 : PR, Wp m_Reader_isName 0 [some (xR r0)] [] h (d - 1) 0 0 Q1 ∧ ∀ (v1 : Int) (h1 : Hp), Q1 (some (xI v1)) h1 → (if v1 = (0 : Int) then Wp m_Reader_isStreetName 37 [some (xR r0)] [] h1 d mc ms R else ((hpT h1 r0).1 = 7 ∧ ((hpT h1 (Int.toNat (hpC h1 r0 0))).1 = 10 ∧ ((hpT h1 r0).1 = 7 ∧ ((1 ≤ d ∧ 0 ≤ mc ∧ 0 ≤ ms ∧ (hpT h1 (Int.toNat (hpC h1 (Int.toNat (hpC h1 r0 0)) 1))).1 = 3) ∧ ∃ Q2 : PR, Wp m_Names_placeOf 0 [some (xR (Int.toNat (hpC h1 (Int.toNat (hpC h1 r0 0)) 1))), some (xL (hpC h1 r0 7)), none, none] [] h1 (d - 1) 0 0 Q2 ∧ ∀ (v2 : Int) (h2 : Hp), Q2 (some (xI v2)) h2 → (if v2 = (-1 : Int) then ((1 ≤ d ∧ 0 ≤ mc ∧ 0 ≤ ms ∧ (hpT h2 r0).1 = 7) ∧ ∃ Q3 : PR, Wp m_Reader_fails 0 [some (xR r0), some (xI (3 : Int))] [] h2 (d - 1) 0 0 Q3 ∧ ∀ (v3 : Int) (h3 : Hp), Q3 (some (xI v3)) h3 → (if v3 = (0 : Int) then Wp m_Reader_isStreetName 37 [some (xR r0)] [] h3 d mc ms R else Wp m_Reader_isStreetName 33 [some (xR r0)] [] h3 d mc ms R)) else Wp m_Reader_isStreetName 33 [some (xR r0)] [] h2 d mc ms R)))))))) : Wp m_Reader_isStreetName 0 [some (xR r0)] [] h d mc ms R := Wp_blk ok_Reader_isStreetName_0 H
def k_Reader_isStreetName_33 : List AI := [(.iconst 1, []), (.goto 0, []), (.nop, [38])]
set_option maxRecDepth 20000 in
theorem ok_Reader_isStreetName_33 : okB m_Reader_isStreetName 33 k_Reader_isStreetName_33 = true := by decide +kernel
set_option maxRecDepth 20000 in
theorem b_Reader_isStreetName_33 (o0 : Option AV) {h : Hp} {d mc ms : Nat} {R : PR} (H : Wp m_Reader_isStreetName 38 [o0] [xI (1 : Int)] h d mc ms R) : Wp m_Reader_isStreetName 33 [o0] [] h d mc ms R := Wp_blk ok_Reader_isStreetName_33 H
def k_Reader_isStreetName_37 : List AI := [(.iconst 0, []), (.nop, [38])]
set_option maxRecDepth 20000 in
theorem ok_Reader_isStreetName_37 : okB m_Reader_isStreetName 37 k_Reader_isStreetName_37 = true := by decide +kernel
set_option maxRecDepth 20000 in
theorem b_Reader_isStreetName_37 (o0 : Option AV) {h : Hp} {d mc ms : Nat} {R : PR} (H : Wp m_Reader_isStreetName 38 [o0] [xI (0 : Int)] h d mc ms R) : Wp m_Reader_isStreetName 37 [o0] [] h d mc ms R := Wp_blk ok_Reader_isStreetName_37 H
def k_Reader_isStreetName_38 : List AI := [(.ireturn, [3])]
set_option maxRecDepth 20000 in
theorem ok_Reader_isStreetName_38 : okB m_Reader_isStreetName 38 k_Reader_isStreetName_38 = true := by decide +kernel
set_option maxRecDepth 20000 in
theorem b_Reader_isStreetName_38 (o0 : Option AV) (p0 : Int) {h : Hp} {d mc ms : Nat} {R : PR} (H : ((p0 = 0 ∨ p0 = 1) ∧ R (some (xI p0)) h)) : Wp m_Reader_isStreetName 38 [o0] [xI p0] h d mc ms R := Wp_blk ok_Reader_isStreetName_38 H
def k_Reader_readAlias_0 : List AI := [(.aload 0, []), (.getfield 0, [7, 0, 2, 382]), (.getfield 0, [10, 3, 2, 353]), (.getfield 0, [3, 2, 0, 302]), (.iconst 12, []), (.if_icmp .lt 0, [21]), (.aload 0, []), (.iconst 4, []), (.invokevirtual 0, [32, 1, 2, 0, 0, 1, 7, 629, 631, 7, 127]), (.ireturn, [3])]
set_option maxRecDepth 20000 in
theorem ok_Reader_readAlias_0 : okB m_Reader_readAlias 0 k_Reader_readAlias_0 = true := by decide +kernel
set_option maxRecDepth 20000 in
theorem b_Reader_readAlias_0 (r0 : Nat) (o1 : Option AV) (o2 : Option AV) {h : Hp} {d mc ms : Nat} {R : PR} (H : ((hpT h r0).1 = 7 ∧ ((hpT h (Int.toNat (hpC h r0 0))).1 = 10 ∧ ((hpT h (Int.toNat (hpC h (Int.toNat (hpC h r0 0)) 3))).1 = 3 ∧ (if (hpC h (Int.toNat (hpC h (Int.toNat (hpC h r0 0)) 3)) 2) < (12 : Int) then Wp m_Reader_readAlias 21 [some (xR r0), o1, o2] [] h d mc ms R else ((1 ≤ d ∧ 0 ≤ mc ∧ 0 ≤ ms ∧ (hpT h r0).1 = 7) ∧ ∃ Q1 : PR, Wp m_Reader_fails 0 [some (xR r0), some (xI (4 : Int))] [] h (d - 1) 0 0 Q1 ∧ ∀ (v1 : Int) (h1 : Hp), Q1 (some (xI v1)) h1 → ((v1 = 0 ∨ v1 = 1) ∧ R (some (xI v1)) h1))))))) : Wp m_Reader_readAlias 0 [some (xR r0), o1, o2] [] h d mc ms R := Wp_blk ok_Reader_readAlias_0 H
def k_Reader_readAlias_21 : List AI := [(.aload 0, []), (.invokevirtual 0, [23, 0, 3, 0, 0, 0, 7, 592, 594, 1, 127]), (.aload 0, []), (.invokevirtual 0, [49, 0, 1, 0, 0, 1, 7, 699, 701, 18, 127]), (.ifCond .ne 0, [34]), (.iconst 0, []), (.ireturn, [3])]
set_option maxRecDepth 20000 in
theorem ok_Reader_readAlias_21 : okB m_Reader_readAlias 21 k_Reader_readAlias_21 = true := by decide +kernel
set_option maxRecDepth 20000 in
theorem b_Reader_readAlias_21 (r0 : Nat) (o1 : Option AV) (o2 : Option AV) {h : Hp} {d mc ms : Nat} {R : PR} (H : ((1 ≤ d ∧ 0 ≤ mc ∧ 0 ≤ ms ∧ (hpT h r0).1 = 7) ∧ ∃ Q1 : PR, Wp m_Reader_step 0 [some (xR r0), none, none] [] h (d - 1) 0 0 Q1 ∧ ∀ (h1 : Hp), Q1 none h1 → ((1 ≤ d ∧ 0 ≤ mc ∧ 0 ≤ ms ∧ (hpT h1 r0).1 = 7) ∧ ∃ Q2 : PR, Wp m_Reader_isNewName 0 [some (xR r0)] [] h1 (d - 1) 0 0 Q2 ∧ ∀ (v2 : Int) (h2 : Hp), Q2 (some (xI v2)) h2 → (if v2 = (0 : Int) then (((0 : Int) = 0 ∨ (0 : Int) = 1) ∧ R (some (xI (0 : Int))) h2) else Wp m_Reader_readAlias 34 [some (xR r0), o1, o2] [] h2 d mc ms R)))) : Wp m_Reader_readAlias 21 [some (xR r0), o1, o2] [] h d mc ms R := Wp_blk ok_Reader_readAlias_21 H
def k_Reader_readAlias_34 : List AI := [(.aload 0, []), (.getfield 0, [7, 7, 1, 392]), (.lstore 1, []), (.aload 0, []), (.invokevirtual 0, [23, 0, 3, 0, 0, 0, 7, 592, 594, 1, 127]), (.aload 0, []), (.getfield 0, [7, 8, 0, 393]), (.iconst 11, []), (.if_icmp .eq 0, [58]), (.aload 0, []), (.iconst 1, []), (.invokevirtual 0, [32, 1, 2, 0, 0, 1, 7, 629, 631, 7, 127]), (.ireturn, [3])]
set_option maxRecDepth 20000 in
theorem ok_Reader_readAlias_34 : okB m_Reader_readAlias 34 k_Reader_readAlias_34 = true := by decide +kernel
set_option maxRecDepth 20000 in
theorem b_Reader_readAlias_34 (r0 : Nat) (o1 : Option AV) (o2 : Option AV) {h : Hp} {d mc ms : Nat} {R : PR} (H : ((hpT h r0).1 = 7 ∧ ((1 ≤ d ∧ 0 ≤ mc ∧ 0 ≤ ms ∧ (hpT h r0).1 = 7) ∧ ∃ Q1 : PR, Wp m_Reader_step 0 [some (xR r0), none, none] [] h (d - 1) 0 0 Q1 ∧ ∀ (h1 : Hp), Q1 none h1 → ((hpT h1 r0).1 = 7 ∧ (if (hpC h1 r0 8) = (11 : Int) then Wp m_Reader_readAlias 58 [some (xR r0), some (xL (hpC h r0 7)), none] [] h1 d mc ms R else ((1 ≤ d ∧ 0 ≤ mc ∧ 0 ≤ ms ∧ (hpT h1 r0).1 = 7) ∧ ∃ Q2 : PR, Wp m_Reader_fails 0 [some (xR r0), some (xI (1 : Int))] [] h1 (d - 1) 0 0 Q2 ∧ ∀ (v2 : Int) (h2 : Hp), Q2 (some (xI v2)) h2 → ((v2 = 0 ∨ v2 = 1) ∧ R (some (xI v2)) h2))))))) : Wp m_Reader_readAlias 34 [some (xR r0), o1, o2] [] h d mc ms R := Wp_blk ok_Reader_readAlias_34 H
def k_Reader_readAlias_58 : List AI := [(.aload 0, []), (.invokevirtual 0, [23, 0, 3, 0, 0, 0, 7, 592, 594, 1, 127]), (.aload 0, []), (.invokevirtual 0, [55, 0, 1, 0, 0, 1, 7, 724, 726, 21, 127]), (.ifCond .ne 0, [71]), (.iconst 0, []), (.ireturn, [3])]
set_option maxRecDepth 20000 in
theorem ok_Reader_readAlias_58 : okB m_Reader_readAlias 58 k_Reader_readAlias_58 = true := by decide +kernel
set_option maxRecDepth 20000 in
theorem b_Reader_readAlias_58 (r0 : Nat) (l1 : Int) {h : Hp} {d mc ms : Nat} {R : PR} (H : ((1 ≤ d ∧ 0 ≤ mc ∧ 0 ≤ ms ∧ (hpT h r0).1 = 7) ∧ ∃ Q1 : PR, Wp m_Reader_step 0 [some (xR r0), none, none] [] h (d - 1) 0 0 Q1 ∧ ∀ (h1 : Hp), Q1 none h1 → ((1 ≤ d ∧ 0 ≤ mc ∧ 0 ≤ ms ∧ (hpT h1 r0).1 = 7) ∧ ∃ Q2 : PR, Wp m_Reader_isStreetName 0 [some (xR r0)] [] h1 (d - 1) 0 0 Q2 ∧ ∀ (v2 : Int) (h2 : Hp), Q2 (some (xI v2)) h2 → (if v2 = (0 : Int) then (((0 : Int) = 0 ∨ (0 : Int) = 1) ∧ R (some (xI (0 : Int))) h2) else Wp m_Reader_readAlias 71 [some (xR r0), some (xL l1), none] [] h2 d mc ms R)))) : Wp m_Reader_readAlias 58 [some (xR r0), some (xL l1), none] [] h d mc ms R := Wp_blk ok_Reader_readAlias_58 H
def k_Reader_readAlias_71 : List AI := [(.aload 0, []), (.getfield 0, [7, 0, 2, 382]), (.lload 1, []), (.ldc2_w 0, []), (.aload 0, []), (.getfield 0, [7, 0, 2, 382]), (.getfield 0, [10, 1, 2, 345]), (.aload 0, []), (.getfield 0, [7, 7, 1, 392]), (.invokevirtual 0, [52, 1, 4, 0, 0, 1, 3, 728, 712, 713, 130]), (.iconst 0, []), (.invokevirtual 0, [60, 4, 7, 0, 0, 0, 10, 744, 745, 746, 128]), (.iconst 1, []), (.ireturn, [3])]
set_option maxRecDepth 20000 in
theorem ok_Reader_readAlias_71 : okB m_Reader_readAlias 71 k_Reader_readAlias_71 = true := by decide +kernel
set_option maxRecDepth 20000 in
theorem b_Reader_readAlias_71 (r0 : Nat) (l1 : Int) {h : Hp} {d mc ms : Nat} {R : PR} (H : ((hpT h r0).1 = 7 ∧ ((hpT h r0).1 = 7 ∧ ((hpT h (Int.toNat (hpC h r0 0))).1 = 10 ∧ ((hpT h r0).1 = 7 ∧ ((1 ≤ d ∧ 0 ≤ mc ∧ 0 ≤ ms ∧ (hpT h (Int.toNat (hpC h (Int.toNat (hpC h r0 0)) 1))).1 = 3) ∧ ∃ Q1 : PR, Wp m_Names_placeOf 0 [some (xR (Int.toNat (hpC h (Int.toNat (hpC h r0 0)) 1))), some (xL (hpC h r0 7)), none, none] [] h (d - 1) 0 0 Q1 ∧ ∀ (v1 : Int) (h1 : Hp), Q1 (some (xI v1)) h1 → ((1 ≤ d ∧ 0 ≤ mc ∧ 0 ≤ ms ∧ (hpT h1 (Int.toNat (hpC h r0 0))).1 = 10) ∧ ∃ Q2 : PR, Wp m_Town_addAlias 0 [some (xR (Int.toNat (hpC h r0 0))), some (xL l1), none, some (xL ((0 : Nat) : Int)), none, some (xI v1), some (xI (0 : Int))] [] h1 (d - 1) 0 0 Q2 ∧ ∀ (h2 : Hp), Q2 none h2 → (((1 : Int) = 0 ∨ (1 : Int) = 1) ∧ R (some (xI (1 : Int))) h2)))))))) : Wp m_Reader_readAlias 71 [some (xR r0), some (xL l1), none] [] h d mc ms R := Wp_blk ok_Reader_readAlias_71 H
def k_Reader_readPool_0 : List AI := [(.iconst 0, []), (.istore 1, []), (.nop, [2])]
set_option maxRecDepth 20000 in
theorem ok_Reader_readPool_0 : okB m_Reader_readPool 0 k_Reader_readPool_0 = true := by decide +kernel
set_option maxRecDepth 20000 in
theorem b_Reader_readPool_0 (r0 : Nat) (o1 : Option AV) {h : Hp} {d mc ms : Nat} {R : PR} (H : Wp m_Reader_readPool 2 [some (xR r0), some (xI (0 : Int))] [] h d mc ms R) : Wp m_Reader_readPool 0 [some (xR r0), o1] [] h d mc ms R := Wp_blk ok_Reader_readPool_0 H
def k_Reader_readPool_2 : List AI := [(.iload 1, []), (.iconst 12, []), (.if_icmp .gt 0, [75]), (.aload 0, []), (.invokevirtual 0, [23, 0, 3, 0, 0, 0, 7, 592, 594, 1, 127]), (.iload 1, []), (.ifCond .le 0, [26]), (.aload 0, []), (.getfield 0, [7, 4, 0, 389]), (.iconst 3, []), (.if_icmp .ne 0, [26]), (.iconst 1, []), (.ireturn, [3])]
set_option maxRecDepth 20000 in
theorem ok_Reader_readPool_2 : okB m_Reader_readPool 2 k_Reader_readPool_2 = true := by decide +kernel
set_option maxRecDepth 20000 in
theorem b_Reader_readPool_2 (r0 : Nat) (i1 : Int) {h : Hp} {d mc ms : Nat} {R : PR} (H : (if (12 : Int) < i1 then Wp m_Reader_readPool 75 [some (xR r0), some (xI i1)] [] h d mc ms R else ((1 ≤ d ∧ 0 ≤ mc ∧ 0 ≤ ms ∧ (hpT h r0).1 = 7) ∧ ∃ Q1 : PR, Wp m_Reader_step 0 [some (xR r0), none, none] [] h (d - 1) 0 0 Q1 ∧ ∀ (h1 : Hp), Q1 none h1 → (if (0 : Int) < i1 then ((hpT h1 r0).1 = 7 ∧ (if (hpC h1 r0 4) = (3 : Int) then (((1 : Int) = 0 ∨ (1 : Int) = 1) ∧ R (some (xI (1 : Int))) h1) else Wp m_Reader_readPool 26 [some (xR r0), some (xI i1)] [] h1 d mc ms R)) else Wp m_Reader_readPool 26 [some (xR r0), some (xI i1)] [] h1 d mc ms R)))) : Wp m_Reader_readPool 2 [some (xR r0), some (xI i1)] [] h d mc ms R := Wp_blk ok_Reader_readPool_2 H
def k_Reader_readPool_26 : List AI := [(.aload 0, []), (.invokevirtual 0, [49, 0, 1, 0, 0, 1, 7, 699, 701, 18, 127]), (.ifCond .ne 0, [35]), (.iconst 0, []), (.ireturn, [3])]
set_option maxRecDepth 20000 in
theorem ok_Reader_readPool_26 : okB m_Reader_readPool 26 k_Reader_readPool_26 = true := by decide +kernel
set_option maxRecDepth 20000 in
theorem b_Reader_readPool_26 (r0 : Nat) (i1 : Int) {h : Hp} {d mc ms : Nat} {R : PR} (H : ((1 ≤ d ∧ 0 ≤ mc ∧ 0 ≤ ms ∧ (hpT h r0).1 = 7) ∧ ∃ Q1 : PR, Wp m_Reader_isNewName 0 [some (xR r0)] [] h (d - 1) 0 0 Q1 ∧ ∀ (v1 : Int) (h1 : Hp), Q1 (some (xI v1)) h1 → (if v1 = (0 : Int) then (((0 : Int) = 0 ∨ (0 : Int) = 1) ∧ R (some (xI (0 : Int))) h1) else Wp m_Reader_readPool 35 [some (xR r0), some (xI i1)] [] h1 d mc ms R))) : Wp m_Reader_readPool 26 [some (xR r0), some (xI i1)] [] h d mc ms R := Wp_blk ok_Reader_readPool_26 H
def k_Reader_readPool_35 : List AI := [(.aload 0, []), (.getfield 0, [7, 0, 2, 382]), (.getfield 0, [10, 2, 2, 349]), (.invokevirtual 0, [48, 0, 1, 0, 0, 1, 3, 695, 696, 697, 130]), (.ifCond .eq 0, [54]), (.aload 0, []), (.iconst 4, []), (.invokevirtual 0, [32, 1, 2, 0, 0, 1, 7, 629, 631, 7, 127]), (.ireturn, [3])]
set_option maxRecDepth 20000 in
theorem ok_Reader_readPool_35 : okB m_Reader_readPool 35 k_Reader_readPool_35 = true := by decide +kernel
set_option maxRecDepth 20000 in
theorem b_Reader_readPool_35 (r0 : Nat) (i1 : Int) {h : Hp} {d mc ms : Nat} {R : PR} (H : ((hpT h r0).1 = 7 ∧ ((hpT h (Int.toNat (hpC h r0 0))).1 = 10 ∧ ((1 ≤ d ∧ 0 ≤ mc ∧ 0 ≤ ms ∧ (hpT h (Int.toNat (hpC h (Int.toNat (hpC h r0 0)) 2))).1 = 3) ∧ ∃ Q1 : PR, Wp m_Names_isFull 0 [some (xR (Int.toNat (hpC h (Int.toNat (hpC h r0 0)) 2)))] [] h (d - 1) 0 0 Q1 ∧ ∀ (v1 : Int) (h1 : Hp), Q1 (some (xI v1)) h1 → (if v1 = (0 : Int) then Wp m_Reader_readPool 54 [some (xR r0), some (xI i1)] [] h1 d mc ms R else ((1 ≤ d ∧ 0 ≤ mc ∧ 0 ≤ ms ∧ (hpT h1 r0).1 = 7) ∧ ∃ Q2 : PR, Wp m_Reader_fails 0 [some (xR r0), some (xI (4 : Int))] [] h1 (d - 1) 0 0 Q2 ∧ ∀ (v2 : Int) (h2 : Hp), Q2 (some (xI v2)) h2 → ((v2 = 0 ∨ v2 = 1) ∧ R (some (xI v2)) h2))))))) : Wp m_Reader_readPool 35 [some (xR r0), some (xI i1)] [] h d mc ms R := Wp_blk ok_Reader_readPool_35 H
def k_Reader_readPool_54 : List AI := [(.aload 0, []), (.getfield 0, [7, 0, 2, 382]), (.getfield 0, [10, 2, 2, 349]), (.aload 0, []), (.getfield 0, [7, 7, 1, 392]), (.ldc2_w 0, []), (.invokevirtual 0, [53, 2, 5, 0, 0, 0, 3, 715, 716, 717, 130]), (.iinc 1 1, []), (.goto 0, []), (.nop, [2])]
set_option maxRecDepth 20000 in
theorem ok_Reader_readPool_54 : okB m_Reader_readPool 54 k_Reader_readPool_54 = true := by decide +kernel
set_option maxRecDepth 20000 in
theorem b_Reader_readPool_54 (r0 : Nat) (i1 : Int) {h : Hp} {d mc ms : Nat} {R : PR} (H : ((hpT h r0).1 = 7 ∧ ((hpT h (Int.toNat (hpC h r0 0))).1 = 10 ∧ ((hpT h r0).1 = 7 ∧ ((1 ≤ d ∧ 0 ≤ mc ∧ 0 ≤ ms ∧ (hpT h (Int.toNat (hpC h (Int.toNat (hpC h r0 0)) 2))).1 = 3) ∧ ∃ Q1 : PR, Wp m_Names_add 0 [some (xR (Int.toNat (hpC h (Int.toNat (hpC h r0 0)) 2))), some (xL (hpC h r0 7)), none, some (xL ((0 : Nat) : Int)), none] [] h (d - 1) 0 0 Q1 ∧ ∀ (h1 : Hp), Q1 none h1 → Wp m_Reader_readPool 2 [some (xR r0), some (xI (ai_add i1 1))] [] h1 d mc ms R))))) : Wp m_Reader_readPool 54 [some (xR r0), some (xI i1)] [] h d mc ms R := Wp_blk ok_Reader_readPool_54 H
def k_Reader_readPool_75 : List AI := [(.aload 0, []), (.iconst 4, []), (.invokevirtual 0, [32, 1, 2, 0, 0, 1, 7, 629, 631, 7, 127]), (.ireturn, [3])]
set_option maxRecDepth 20000 in
theorem ok_Reader_readPool_75 : okB m_Reader_readPool 75 k_Reader_readPool_75 = true := by decide +kernel
set_option maxRecDepth 20000 in
theorem b_Reader_readPool_75 (r0 : Nat) (o1 : Option AV) {h : Hp} {d mc ms : Nat} {R : PR} (H : ((1 ≤ d ∧ 0 ≤ mc ∧ 0 ≤ ms ∧ (hpT h r0).1 = 7) ∧ ∃ Q1 : PR, Wp m_Reader_fails 0 [some (xR r0), some (xI (4 : Int))] [] h (d - 1) 0 0 Q1 ∧ ∀ (v1 : Int) (h1 : Hp), Q1 (some (xI v1)) h1 → ((v1 = 0 ∨ v1 = 1) ∧ R (some (xI v1)) h1))) : Wp m_Reader_readPool 75 [some (xR r0), o1] [] h d mc ms R := Wp_blk ok_Reader_readPool_75 H

/-! ===== where the objects' cells lie (by program wip/whole/genshape.py) ===== -/
/-- nothing else changes: by cell and place -/
def FrP (S : Nat → Nat → Prop) (h h' : Hp) : Prop := h'.1 = h.1 ∧ hpT h' = hpT h ∧ ∀ r p, ¬ S r p → hpC h' r p = hpC h r p
theorem FrP.rf {S : Nat → Nat → Prop} {h : Hp} : FrP S h h := ⟨rfl, rfl, fun _ _ _ => rfl⟩
theorem FrP.tr {S : Nat → Nat → Prop} {h h' h'' : Hp} (a : FrP S h h') (b : FrP S h' h'') : FrP S h h'' := ⟨b.1.trans a.1, b.2.1.trans a.2.1, fun r p hr => (b.2.2 r p hr).trans (a.2.2 r p hr)⟩
theorem FrP.wk {S S' : Nat → Nat → Prop} {h h' : Hp} (a : FrP S h h') (hS : ∀ r p, S r p → S' r p) : FrP S' h h' := ⟨a.1, a.2.1, fun r p hr => a.2.2 r p (fun z => hr (hS r p z))⟩
theorem FrP.up {S : Nat → Nat → Prop} {h : Hp} {r p : Nat} {v : Int} (hr : S r p) : FrP S h (hpU h r p v) := by
  refine ⟨rfl, rfl, fun q p' hq => ?_⟩
  rw [hpC_up, if_neg]
  rintro ⟨rfl, rfl⟩
  exact hq hr
theorem Fr.P {S : Nat → Prop} {S' : Nat → Nat → Prop} {h h' : Hp} (a : Fr S h h') (hS : ∀ r p, S r → S' r p) : FrP S' h h' := ⟨a.1, a.2.1, fun r p hr => a.2.2 r (fun z => hr (hS r p z)) p⟩
/-- Rules and its rows -/
def rulesAt (h : Hp) (r : Nat) : Prop := (hpT h r).1 = 8 ∧ hpC h r 6 = ((r + 1 : Nat) : Int) ∧ hpC h r 7 = ((r + 2 : Nat) : Int) ∧ hpC h r 8 = ((r + 3 : Nat) : Int) ∧ hpC h r 9 = ((r + 4 : Nat) : Int) ∧ hpC h r 10 = ((r + 5 : Nat) : Int) ∧ hpT h (r + 1) = (20, 8) ∧ hpT h (r + 2) = (20, 8) ∧ hpT h (r + 3) = (20, 8) ∧ hpT h (r + 4) = (20, 8) ∧ hpT h (r + 5) = (20, 8)
theorem rulesAt.tag {h : Hp} {r : Nat} (a : rulesAt h r) : (hpT h r).1 = 8 := a.1
theorem rulesAt.groupHead {h : Hp} {r : Nat} (a : rulesAt h r) : hpC h r 6 = ((r + 1 : Nat) : Int) := a.2.1
theorem rulesAt.groupHead_n {h : Hp} {r : Nat} (a : rulesAt h r) : Int.toNat (hpC h r 6) = r + 1 := by rw [rulesAt.groupHead a, Int.toNat_natCast]
theorem rulesAt.groupBits {h : Hp} {r : Nat} (a : rulesAt h r) : hpC h r 7 = ((r + 2 : Nat) : Int) := a.2.2.1
theorem rulesAt.groupBits_n {h : Hp} {r : Nat} (a : rulesAt h r) : Int.toNat (hpC h r 7) = r + 2 := by rw [rulesAt.groupBits a, Int.toNat_natCast]
theorem rulesAt.pairFirst {h : Hp} {r : Nat} (a : rulesAt h r) : hpC h r 8 = ((r + 3 : Nat) : Int) := a.2.2.2.1
theorem rulesAt.pairFirst_n {h : Hp} {r : Nat} (a : rulesAt h r) : Int.toNat (hpC h r 8) = r + 3 := by rw [rulesAt.pairFirst a, Int.toNat_natCast]
theorem rulesAt.pairSecond {h : Hp} {r : Nat} (a : rulesAt h r) : hpC h r 9 = ((r + 4 : Nat) : Int) := a.2.2.2.2.1
theorem rulesAt.pairSecond_n {h : Hp} {r : Nat} (a : rulesAt h r) : Int.toNat (hpC h r 9) = r + 4 := by rw [rulesAt.pairSecond a, Int.toNat_natCast]
theorem rulesAt.pairOne {h : Hp} {r : Nat} (a : rulesAt h r) : hpC h r 10 = ((r + 5 : Nat) : Int) := a.2.2.2.2.2.1
theorem rulesAt.pairOne_n {h : Hp} {r : Nat} (a : rulesAt h r) : Int.toNat (hpC h r 10) = r + 5 := by rw [rulesAt.pairOne a, Int.toNat_natCast]
theorem rulesAt.groupHead_t {h : Hp} {r : Nat} (a : rulesAt h r) : hpT h (r + 1) = (20, 8) := a.2.2.2.2.2.2.1
theorem rulesAt.groupBits_t {h : Hp} {r : Nat} (a : rulesAt h r) : hpT h (r + 2) = (20, 8) := a.2.2.2.2.2.2.2.1
theorem rulesAt.pairFirst_t {h : Hp} {r : Nat} (a : rulesAt h r) : hpT h (r + 3) = (20, 8) := a.2.2.2.2.2.2.2.2.1
theorem rulesAt.pairSecond_t {h : Hp} {r : Nat} (a : rulesAt h r) : hpT h (r + 4) = (20, 8) := a.2.2.2.2.2.2.2.2.2.1
theorem rulesAt.pairOne_t {h : Hp} {r : Nat} (a : rulesAt h r) : hpT h (r + 5) = (20, 8) := a.2.2.2.2.2.2.2.2.2.2
theorem rulesAt.fr {h h' : Hp} {r : Nat} {S : Nat → Nat → Prop} (a : rulesAt h r) (f : FrP S h h') (p6 : ¬ S r 6) (p7 : ¬ S r 7) (p8 : ¬ S r 8) (p9 : ¬ S r 9) (p10 : ¬ S r 10)  : rulesAt h' r := ⟨by rw [f.2.1]; exact a.tag, by rw [f.2.2 r 6 p6]; exact a.groupHead, by rw [f.2.2 r 7 p7]; exact a.groupBits, by rw [f.2.2 r 8 p8]; exact a.pairFirst, by rw [f.2.2 r 9 p9]; exact a.pairSecond, by rw [f.2.2 r 10 p10]; exact a.pairOne, by rw [f.2.1]; exact a.groupHead_t, by rw [f.2.1]; exact a.groupBits_t, by rw [f.2.1]; exact a.pairFirst_t, by rw [f.2.1]; exact a.pairSecond_t, by rw [f.2.1]; exact a.pairOne_t⟩
/-- Names and its rows -/
def namesAt (h : Hp) (r len : Nat) : Prop := (hpT h r).1 = 3 ∧ hpC h r 0 = ((r + 1 : Nat) : Int) ∧ hpC h r 1 = ((r + 2 : Nat) : Int) ∧ hpT h (r + 1) = (21, len) ∧ hpT h (r + 2) = (21, len)
theorem namesAt.tag {h : Hp} {r len : Nat} (a : namesAt h r len) : (hpT h r).1 = 3 := a.1
theorem namesAt.word_n {h : Hp} {r len : Nat} (a : namesAt h r len) : Int.toNat (hpC h r 0) = r + 1 := by rw [a.2.1, Int.toNat_natCast]
theorem namesAt.sound_n {h : Hp} {r len : Nat} (a : namesAt h r len) : Int.toNat (hpC h r 1) = r + 2 := by rw [a.2.2.1, Int.toNat_natCast]
theorem namesAt.word_t {h : Hp} {r len : Nat} (a : namesAt h r len) : hpT h (r + 1) = (21, len) := a.2.2.2.1
theorem namesAt.sound_t {h : Hp} {r len : Nat} (a : namesAt h r len) : hpT h (r + 2) = (21, len) := a.2.2.2.2
theorem namesAt.fr {h h' : Hp} {r len : Nat} {S : Nat → Nat → Prop} (a : namesAt h r len) (f : FrP S h h') (p0 : ¬ S r 0) (p1 : ¬ S r 1) : namesAt h' r len := ⟨by rw [f.2.1]; exact a.1, by rw [f.2.2 r 0 p0]; exact a.2.1, by rw [f.2.2 r 1 p1]; exact a.2.2.1, by rw [f.2.1]; exact a.2.2.2.1, by rw [f.2.1]; exact a.2.2.2.2⟩
/-- Homes and its rows -/
def homesAt (h : Hp) (r : Nat) : Prop := (hpT h r).1 = 2 ∧ hpC h r 0 = ((r + 1 : Nat) : Int) ∧ hpC h r 1 = ((r + 2 : Nat) : Int) ∧ hpC h r 2 = ((r + 3 : Nat) : Int) ∧ hpC h r 3 = ((r + 4 : Nat) : Int) ∧ hpT h (r + 1) = (20, 10) ∧ hpT h (r + 2) = (20, 120) ∧ hpT h (r + 3) = (20, 120) ∧ hpT h (r + 4) = (20, 120)
theorem homesAt.tag {h : Hp} {r : Nat} (a : homesAt h r) : (hpT h r).1 = 2 := a.1
theorem homesAt.count {h : Hp} {r : Nat} (a : homesAt h r) : hpC h r 0 = ((r + 1 : Nat) : Int) := a.2.1
theorem homesAt.count_n {h : Hp} {r : Nat} (a : homesAt h r) : Int.toNat (hpC h r 0) = r + 1 := by rw [homesAt.count a, Int.toNat_natCast]
theorem homesAt.side {h : Hp} {r : Nat} (a : homesAt h r) : hpC h r 1 = ((r + 2 : Nat) : Int) := a.2.2.1
theorem homesAt.side_n {h : Hp} {r : Nat} (a : homesAt h r) : Int.toNat (hpC h r 1) = r + 2 := by rw [homesAt.side a, Int.toNat_natCast]
theorem homesAt.yards {h : Hp} {r : Nat} (a : homesAt h r) : hpC h r 2 = ((r + 3 : Nat) : Int) := a.2.2.2.1
theorem homesAt.yards_n {h : Hp} {r : Nat} (a : homesAt h r) : Int.toNat (hpC h r 2) = r + 3 := by rw [homesAt.yards a, Int.toNat_natCast]
theorem homesAt.number {h : Hp} {r : Nat} (a : homesAt h r) : hpC h r 3 = ((r + 4 : Nat) : Int) := a.2.2.2.2.1
theorem homesAt.number_n {h : Hp} {r : Nat} (a : homesAt h r) : Int.toNat (hpC h r 3) = r + 4 := by rw [homesAt.number a, Int.toNat_natCast]
theorem homesAt.count_t {h : Hp} {r : Nat} (a : homesAt h r) : hpT h (r + 1) = (20, 10) := a.2.2.2.2.2.1
theorem homesAt.side_t {h : Hp} {r : Nat} (a : homesAt h r) : hpT h (r + 2) = (20, 120) := a.2.2.2.2.2.2.1
theorem homesAt.yards_t {h : Hp} {r : Nat} (a : homesAt h r) : hpT h (r + 3) = (20, 120) := a.2.2.2.2.2.2.2.1
theorem homesAt.number_t {h : Hp} {r : Nat} (a : homesAt h r) : hpT h (r + 4) = (20, 120) := a.2.2.2.2.2.2.2.2
theorem homesAt.fr {h h' : Hp} {r : Nat} {S : Nat → Nat → Prop} (a : homesAt h r) (f : FrP S h h') (p0 : ¬ S r 0) (p1 : ¬ S r 1) (p2 : ¬ S r 2) (p3 : ¬ S r 3)  : homesAt h' r := ⟨by rw [f.2.1]; exact a.tag, by rw [f.2.2 r 0 p0]; exact a.count, by rw [f.2.2 r 1 p1]; exact a.side, by rw [f.2.2 r 2 p2]; exact a.yards, by rw [f.2.2 r 3 p3]; exact a.number, by rw [f.2.1]; exact a.count_t, by rw [f.2.1]; exact a.side_t, by rw [f.2.1]; exact a.yards_t, by rw [f.2.1]; exact a.number_t⟩
/-- a Town, 23 cells -/
def townAt (h : Hp) (r : Nat) : Prop := (hpT h r).1 = 10 ∧ hpC h r 0 = ((r + 1 : Nat) : Int) ∧ hpC h r 1 = ((r + 7 : Nat) : Int) ∧ hpC h r 2 = ((r + 10 : Nat) : Int) ∧ hpC h r 3 = ((r + 13 : Nat) : Int) ∧ hpC h r 4 = ((r + 16 : Nat) : Int) ∧ hpC h r 5 = ((r + 17 : Nat) : Int) ∧ hpC h r 6 = ((r + 18 : Nat) : Int) ∧ hpT h (r + 16) = (20, 30) ∧ hpT h (r + 17) = (20, 30) ∧ rulesAt h (r + 1) ∧ namesAt h (r + 7) 10 ∧ namesAt h (r + 10) 12 ∧ namesAt h (r + 13) 30 ∧ homesAt h (r + 18)
theorem townAt.tag {h : Hp} {r : Nat} (a : townAt h r) : (hpT h r).1 = 10 := a.1
theorem townAt.rules {h : Hp} {r : Nat} (a : townAt h r) : hpC h r 0 = ((r + 1 : Nat) : Int) := a.2.1
theorem townAt.rules_n {h : Hp} {r : Nat} (a : townAt h r) : Int.toNat (hpC h r 0) = r + 1 := by rw [townAt.rules a, Int.toNat_natCast]
theorem townAt.streets {h : Hp} {r : Nat} (a : townAt h r) : hpC h r 1 = ((r + 7 : Nat) : Int) := a.2.2.1
theorem townAt.streets_n {h : Hp} {r : Nat} (a : townAt h r) : Int.toNat (hpC h r 1) = r + 7 := by rw [townAt.streets a, Int.toNat_natCast]
theorem townAt.pool {h : Hp} {r : Nat} (a : townAt h r) : hpC h r 2 = ((r + 10 : Nat) : Int) := a.2.2.2.1
theorem townAt.pool_n {h : Hp} {r : Nat} (a : townAt h r) : Int.toNat (hpC h r 2) = r + 10 := by rw [townAt.pool a, Int.toNat_natCast]
theorem townAt.aliases {h : Hp} {r : Nat} (a : townAt h r) : hpC h r 3 = ((r + 13 : Nat) : Int) := a.2.2.2.2.1
theorem townAt.aliases_n {h : Hp} {r : Nat} (a : townAt h r) : Int.toNat (hpC h r 3) = r + 13 := by rw [townAt.aliases a, Int.toNat_natCast]
theorem townAt.aliasStreet {h : Hp} {r : Nat} (a : townAt h r) : hpC h r 4 = ((r + 16 : Nat) : Int) := a.2.2.2.2.2.1
theorem townAt.aliasStreet_n {h : Hp} {r : Nat} (a : townAt h r) : Int.toNat (hpC h r 4) = r + 16 := by rw [townAt.aliasStreet a, Int.toNat_natCast]
theorem townAt.aliasLast {h : Hp} {r : Nat} (a : townAt h r) : hpC h r 5 = ((r + 17 : Nat) : Int) := a.2.2.2.2.2.2.1
theorem townAt.aliasLast_n {h : Hp} {r : Nat} (a : townAt h r) : Int.toNat (hpC h r 5) = r + 17 := by rw [townAt.aliasLast a, Int.toNat_natCast]
theorem townAt.homes {h : Hp} {r : Nat} (a : townAt h r) : hpC h r 6 = ((r + 18 : Nat) : Int) := a.2.2.2.2.2.2.2.1
theorem townAt.homes_n {h : Hp} {r : Nat} (a : townAt h r) : Int.toNat (hpC h r 6) = r + 18 := by rw [townAt.homes a, Int.toNat_natCast]
theorem townAt.aliasStreet_t {h : Hp} {r : Nat} (a : townAt h r) : hpT h (r + 16) = (20, 30) := a.2.2.2.2.2.2.2.2.1
theorem townAt.aliasLast_t {h : Hp} {r : Nat} (a : townAt h r) : hpT h (r + 17) = (20, 30) := a.2.2.2.2.2.2.2.2.2.1
theorem townAt.rules_a {h : Hp} {r : Nat} (a : townAt h r) : rulesAt h (r + 1) := a.2.2.2.2.2.2.2.2.2.2.1
theorem townAt.streets_a {h : Hp} {r : Nat} (a : townAt h r) : namesAt h (r + 7) 10 := a.2.2.2.2.2.2.2.2.2.2.2.1
theorem townAt.pool_a {h : Hp} {r : Nat} (a : townAt h r) : namesAt h (r + 10) 12 := a.2.2.2.2.2.2.2.2.2.2.2.2.1
theorem townAt.aliases_a {h : Hp} {r : Nat} (a : townAt h r) : namesAt h (r + 13) 30 := a.2.2.2.2.2.2.2.2.2.2.2.2.2.1
theorem townAt.homes_a {h : Hp} {r : Nat} (a : townAt h r) : homesAt h (r + 18) := a.2.2.2.2.2.2.2.2.2.2.2.2.2.2
theorem townAt.fr {h h' : Hp} {r : Nat} {S : Nat → Nat → Prop} (a : townAt h r) (f : FrP S h h') (p0 : ¬ S r 0) (p1 : ¬ S r 1) (p2 : ¬ S r 2) (p3 : ¬ S r 3) (p4 : ¬ S r 4) (p5 : ¬ S r 5) (p6 : ¬ S r 6) (s1 : rulesAt h' (r + 1)) (s7 : namesAt h' (r + 7) 10) (s10 : namesAt h' (r + 10) 12) (s13 : namesAt h' (r + 13) 30) (s18 : homesAt h' (r + 18)) : townAt h' r := ⟨by rw [f.2.1]; exact a.tag, by rw [f.2.2 r 0 p0]; exact a.rules, by rw [f.2.2 r 1 p1]; exact a.streets, by rw [f.2.2 r 2 p2]; exact a.pool, by rw [f.2.2 r 3 p3]; exact a.aliases, by rw [f.2.2 r 4 p4]; exact a.aliasStreet, by rw [f.2.2 r 5 p5]; exact a.aliasLast, by rw [f.2.2 r 6 p6]; exact a.homes, by rw [f.2.1]; exact a.aliasStreet_t, by rw [f.2.1]; exact a.aliasLast_t, s1, s7, s10, s13, s18⟩
/-- the reference, 20 cells -/
def modelAt (h : Hp) (r : Nat) : Prop := (hpT h r).1 = 12 ∧ hpC h r 0 = ((r + 1 : Nat) : Int) ∧ hpC h r 1 = ((r + 2 : Nat) : Int) ∧ hpC h r 3 = ((r + 3 : Nat) : Int) ∧ hpC h r 4 = ((r + 4 : Nat) : Int) ∧ hpC h r 13 = ((r + 5 : Nat) : Int) ∧ hpC h r 16 = ((r + 6 : Nat) : Int) ∧ hpC h r 18 = ((r + 7 : Nat) : Int) ∧ hpC h r 19 = ((r + 8 : Nat) : Int) ∧ hpC h r 20 = ((r + 9 : Nat) : Int) ∧ hpC h r 21 = ((r + 10 : Nat) : Int) ∧ hpC h r 23 = ((r + 11 : Nat) : Int) ∧ hpC h r 24 = ((r + 12 : Nat) : Int) ∧ hpC h r 25 = ((r + 13 : Nat) : Int) ∧ hpC h r 26 = ((r + 14 : Nat) : Int) ∧ hpC h r 27 = ((r + 15 : Nat) : Int) ∧ hpC h r 29 = ((r + 16 : Nat) : Int) ∧ hpC h r 31 = ((r + 17 : Nat) : Int) ∧ hpC h r 32 = ((r + 18 : Nat) : Int) ∧ hpC h r 33 = ((r + 19 : Nat) : Int) ∧ hpT h (r + 1) = (20, 24240) ∧ hpT h (r + 2) = (23, 2) ∧ hpT h (r + 3) = (20, 5) ∧ hpT h (r + 4) = (20, 2000) ∧ hpT h (r + 5) = (20, 68) ∧ hpT h (r + 6) = (20, 10) ∧ hpT h (r + 7) = (20, 10) ∧ hpT h (r + 8) = (20, 10) ∧ hpT h (r + 9) = (20, 11) ∧ hpT h (r + 10) = (20, 10) ∧ hpT h (r + 11) = (20, 10) ∧ hpT h (r + 12) = (23, 120) ∧ hpT h (r + 13) = (23, 144) ∧ hpT h (r + 14) = (20, 10) ∧ hpT h (r + 15) = (20, 10) ∧ hpT h (r + 16) = (20, 12) ∧ hpT h (r + 17) = (20, 12) ∧ hpT h (r + 18) = (20, 12) ∧ hpT h (r + 19) = (20, 12)
theorem modelAt.tag {h : Hp} {r : Nat} (a : modelAt h r) : (hpT h r).1 = 12 := a.1
theorem modelAt.row {h : Hp} {r : Nat} (a : modelAt h r) : hpC h r 0 = ((r + 1 : Nat) : Int) := a.2.1
theorem modelAt.row_n {h : Hp} {r : Nat} (a : modelAt h r) : Int.toNat (hpC h r 0) = r + 1 := by rw [modelAt.row a, Int.toNat_natCast]
theorem modelAt.isKept {h : Hp} {r : Nat} (a : modelAt h r) : hpC h r 1 = ((r + 2 : Nat) : Int) := a.2.2.1
theorem modelAt.isKept_n {h : Hp} {r : Nat} (a : modelAt h r) : Int.toNat (hpC h r 1) = r + 2 := by rw [modelAt.isKept a, Int.toNat_natCast]
theorem modelAt.refused {h : Hp} {r : Nat} (a : modelAt h r) : hpC h r 3 = ((r + 3 : Nat) : Int) := a.2.2.2.1
theorem modelAt.refused_n {h : Hp} {r : Nat} (a : modelAt h r) : Int.toNat (hpC h r 3) = r + 3 := by rw [modelAt.refused a, Int.toNat_natCast]
theorem modelAt.tape {h : Hp} {r : Nat} (a : modelAt h r) : hpC h r 4 = ((r + 4 : Nat) : Int) := a.2.2.2.2.1
theorem modelAt.tape_n {h : Hp} {r : Nat} (a : modelAt h r) : Int.toNat (hpC h r 4) = r + 4 := by rw [modelAt.tape a, Int.toNat_natCast]
theorem modelAt.ownLetters {h : Hp} {r : Nat} (a : modelAt h r) : hpC h r 13 = ((r + 5 : Nat) : Int) := a.2.2.2.2.2.1
theorem modelAt.ownLetters_n {h : Hp} {r : Nat} (a : modelAt h r) : Int.toNat (hpC h r 13) = r + 5 := by rw [modelAt.ownLetters a, Int.toNat_natCast]
theorem modelAt.word {h : Hp} {r : Nat} (a : modelAt h r) : hpC h r 16 = ((r + 6 : Nat) : Int) := a.2.2.2.2.2.2.1
theorem modelAt.word_n {h : Hp} {r : Nat} (a : modelAt h r) : Int.toNat (hpC h r 16) = r + 6 := by rw [modelAt.word a, Int.toNat_natCast]
theorem modelAt.keyA {h : Hp} {r : Nat} (a : modelAt h r) : hpC h r 18 = ((r + 7 : Nat) : Int) := a.2.2.2.2.2.2.2.1
theorem modelAt.keyA_n {h : Hp} {r : Nat} (a : modelAt h r) : Int.toNat (hpC h r 18) = r + 7 := by rw [modelAt.keyA a, Int.toNat_natCast]
theorem modelAt.keyB {h : Hp} {r : Nat} (a : modelAt h r) : hpC h r 19 = ((r + 8 : Nat) : Int) := a.2.2.2.2.2.2.2.2.1
theorem modelAt.keyB_n {h : Hp} {r : Nat} (a : modelAt h r) : Int.toNat (hpC h r 19) = r + 8 := by rw [modelAt.keyB a, Int.toNat_natCast]
theorem modelAt.ways {h : Hp} {r : Nat} (a : modelAt h r) : hpC h r 20 = ((r + 9 : Nat) : Int) := a.2.2.2.2.2.2.2.2.2.1
theorem modelAt.ways_n {h : Hp} {r : Nat} (a : modelAt h r) : Int.toNat (hpC h r 20) = r + 9 := by rw [modelAt.ways a, Int.toNat_natCast]
theorem modelAt.heard {h : Hp} {r : Nat} (a : modelAt h r) : hpC h r 21 = ((r + 10 : Nat) : Int) := a.2.2.2.2.2.2.2.2.2.2.1
theorem modelAt.heard_n {h : Hp} {r : Nat} (a : modelAt h r) : Int.toNat (hpC h r 21) = r + 10 := by rw [modelAt.heard a, Int.toNat_natCast]
theorem modelAt.clashes {h : Hp} {r : Nat} (a : modelAt h r) : hpC h r 23 = ((r + 11 : Nat) : Int) := a.2.2.2.2.2.2.2.2.2.2.2.1
theorem modelAt.clashes_n {h : Hp} {r : Nat} (a : modelAt h r) : Int.toNat (hpC h r 23) = r + 11 := by rw [modelAt.clashes a, Int.toNat_natCast]
theorem modelAt.may {h : Hp} {r : Nat} (a : modelAt h r) : hpC h r 24 = ((r + 12 : Nat) : Int) := a.2.2.2.2.2.2.2.2.2.2.2.2.1
theorem modelAt.may_n {h : Hp} {r : Nat} (a : modelAt h r) : Int.toNat (hpC h r 24) = r + 12 := by rw [modelAt.may a, Int.toNat_natCast]
theorem modelAt.poolAlike {h : Hp} {r : Nat} (a : modelAt h r) : hpC h r 25 = ((r + 13 : Nat) : Int) := a.2.2.2.2.2.2.2.2.2.2.2.2.2.1
theorem modelAt.poolAlike_n {h : Hp} {r : Nat} (a : modelAt h r) : Int.toNat (hpC h r 25) = r + 13 := by rw [modelAt.poolAlike a, Int.toNat_natCast]
theorem modelAt.choice {h : Hp} {r : Nat} (a : modelAt h r) : hpC h r 26 = ((r + 14 : Nat) : Int) := a.2.2.2.2.2.2.2.2.2.2.2.2.2.2.1
theorem modelAt.choice_n {h : Hp} {r : Nat} (a : modelAt h r) : Int.toNat (hpC h r 26) = r + 14 := by rw [modelAt.choice a, Int.toNat_natCast]
theorem modelAt.best {h : Hp} {r : Nat} (a : modelAt h r) : hpC h r 27 = ((r + 15 : Nat) : Int) := a.2.2.2.2.2.2.2.2.2.2.2.2.2.2.2.1
theorem modelAt.best_n {h : Hp} {r : Nat} (a : modelAt h r) : Int.toNat (hpC h r 27) = r + 15 := by rw [modelAt.best a, Int.toNat_natCast]
theorem modelAt.order {h : Hp} {r : Nat} (a : modelAt h r) : hpC h r 29 = ((r + 16 : Nat) : Int) := a.2.2.2.2.2.2.2.2.2.2.2.2.2.2.2.2.1
theorem modelAt.order_n {h : Hp} {r : Nat} (a : modelAt h r) : Int.toNat (hpC h r 29) = r + 16 := by rw [modelAt.order a, Int.toNat_natCast]
theorem modelAt.numbers {h : Hp} {r : Nat} (a : modelAt h r) : hpC h r 31 = ((r + 17 : Nat) : Int) := a.2.2.2.2.2.2.2.2.2.2.2.2.2.2.2.2.2.1
theorem modelAt.numbers_n {h : Hp} {r : Nat} (a : modelAt h r) : Int.toNat (hpC h r 31) = r + 17 := by rw [modelAt.numbers a, Int.toNat_natCast]
theorem modelAt.bestNumbers {h : Hp} {r : Nat} (a : modelAt h r) : hpC h r 32 = ((r + 18 : Nat) : Int) := a.2.2.2.2.2.2.2.2.2.2.2.2.2.2.2.2.2.2.1
theorem modelAt.bestNumbers_n {h : Hp} {r : Nat} (a : modelAt h r) : Int.toNat (hpC h r 32) = r + 18 := by rw [modelAt.bestNumbers a, Int.toNat_natCast]
theorem modelAt.thenOf {h : Hp} {r : Nat} (a : modelAt h r) : hpC h r 33 = ((r + 19 : Nat) : Int) := a.2.2.2.2.2.2.2.2.2.2.2.2.2.2.2.2.2.2.2.1
theorem modelAt.thenOf_n {h : Hp} {r : Nat} (a : modelAt h r) : Int.toNat (hpC h r 33) = r + 19 := by rw [modelAt.thenOf a, Int.toNat_natCast]
theorem modelAt.row_t {h : Hp} {r : Nat} (a : modelAt h r) : hpT h (r + 1) = (20, 24240) := a.2.2.2.2.2.2.2.2.2.2.2.2.2.2.2.2.2.2.2.2.1
theorem modelAt.isKept_t {h : Hp} {r : Nat} (a : modelAt h r) : hpT h (r + 2) = (23, 2) := a.2.2.2.2.2.2.2.2.2.2.2.2.2.2.2.2.2.2.2.2.2.1
theorem modelAt.refused_t {h : Hp} {r : Nat} (a : modelAt h r) : hpT h (r + 3) = (20, 5) := a.2.2.2.2.2.2.2.2.2.2.2.2.2.2.2.2.2.2.2.2.2.2.1
theorem modelAt.tape_t {h : Hp} {r : Nat} (a : modelAt h r) : hpT h (r + 4) = (20, 2000) := a.2.2.2.2.2.2.2.2.2.2.2.2.2.2.2.2.2.2.2.2.2.2.2.1
theorem modelAt.ownLetters_t {h : Hp} {r : Nat} (a : modelAt h r) : hpT h (r + 5) = (20, 68) := a.2.2.2.2.2.2.2.2.2.2.2.2.2.2.2.2.2.2.2.2.2.2.2.2.1
theorem modelAt.word_t {h : Hp} {r : Nat} (a : modelAt h r) : hpT h (r + 6) = (20, 10) := a.2.2.2.2.2.2.2.2.2.2.2.2.2.2.2.2.2.2.2.2.2.2.2.2.2.1
theorem modelAt.keyA_t {h : Hp} {r : Nat} (a : modelAt h r) : hpT h (r + 7) = (20, 10) := a.2.2.2.2.2.2.2.2.2.2.2.2.2.2.2.2.2.2.2.2.2.2.2.2.2.2.1
theorem modelAt.keyB_t {h : Hp} {r : Nat} (a : modelAt h r) : hpT h (r + 8) = (20, 10) := a.2.2.2.2.2.2.2.2.2.2.2.2.2.2.2.2.2.2.2.2.2.2.2.2.2.2.2.1
theorem modelAt.ways_t {h : Hp} {r : Nat} (a : modelAt h r) : hpT h (r + 9) = (20, 11) := a.2.2.2.2.2.2.2.2.2.2.2.2.2.2.2.2.2.2.2.2.2.2.2.2.2.2.2.2.1
theorem modelAt.heard_t {h : Hp} {r : Nat} (a : modelAt h r) : hpT h (r + 10) = (20, 10) := a.2.2.2.2.2.2.2.2.2.2.2.2.2.2.2.2.2.2.2.2.2.2.2.2.2.2.2.2.2.1
theorem modelAt.clashes_t {h : Hp} {r : Nat} (a : modelAt h r) : hpT h (r + 11) = (20, 10) := a.2.2.2.2.2.2.2.2.2.2.2.2.2.2.2.2.2.2.2.2.2.2.2.2.2.2.2.2.2.2.1
theorem modelAt.may_t {h : Hp} {r : Nat} (a : modelAt h r) : hpT h (r + 12) = (23, 120) := a.2.2.2.2.2.2.2.2.2.2.2.2.2.2.2.2.2.2.2.2.2.2.2.2.2.2.2.2.2.2.2.1
theorem modelAt.poolAlike_t {h : Hp} {r : Nat} (a : modelAt h r) : hpT h (r + 13) = (23, 144) := a.2.2.2.2.2.2.2.2.2.2.2.2.2.2.2.2.2.2.2.2.2.2.2.2.2.2.2.2.2.2.2.2.1
theorem modelAt.choice_t {h : Hp} {r : Nat} (a : modelAt h r) : hpT h (r + 14) = (20, 10) := a.2.2.2.2.2.2.2.2.2.2.2.2.2.2.2.2.2.2.2.2.2.2.2.2.2.2.2.2.2.2.2.2.2.1
theorem modelAt.best_t {h : Hp} {r : Nat} (a : modelAt h r) : hpT h (r + 15) = (20, 10) := a.2.2.2.2.2.2.2.2.2.2.2.2.2.2.2.2.2.2.2.2.2.2.2.2.2.2.2.2.2.2.2.2.2.2.1
theorem modelAt.order_t {h : Hp} {r : Nat} (a : modelAt h r) : hpT h (r + 16) = (20, 12) := a.2.2.2.2.2.2.2.2.2.2.2.2.2.2.2.2.2.2.2.2.2.2.2.2.2.2.2.2.2.2.2.2.2.2.2.1
theorem modelAt.numbers_t {h : Hp} {r : Nat} (a : modelAt h r) : hpT h (r + 17) = (20, 12) := a.2.2.2.2.2.2.2.2.2.2.2.2.2.2.2.2.2.2.2.2.2.2.2.2.2.2.2.2.2.2.2.2.2.2.2.2.1
theorem modelAt.bestNumbers_t {h : Hp} {r : Nat} (a : modelAt h r) : hpT h (r + 18) = (20, 12) := a.2.2.2.2.2.2.2.2.2.2.2.2.2.2.2.2.2.2.2.2.2.2.2.2.2.2.2.2.2.2.2.2.2.2.2.2.2.1
theorem modelAt.thenOf_t {h : Hp} {r : Nat} (a : modelAt h r) : hpT h (r + 19) = (20, 12) := a.2.2.2.2.2.2.2.2.2.2.2.2.2.2.2.2.2.2.2.2.2.2.2.2.2.2.2.2.2.2.2.2.2.2.2.2.2.2
theorem modelAt.fr {h h' : Hp} {r : Nat} {S : Nat → Nat → Prop} (a : modelAt h r) (f : FrP S h h') (p0 : ¬ S r 0) (p1 : ¬ S r 1) (p3 : ¬ S r 3) (p4 : ¬ S r 4) (p13 : ¬ S r 13) (p16 : ¬ S r 16) (p18 : ¬ S r 18) (p19 : ¬ S r 19) (p20 : ¬ S r 20) (p21 : ¬ S r 21) (p23 : ¬ S r 23) (p24 : ¬ S r 24) (p25 : ¬ S r 25) (p26 : ¬ S r 26) (p27 : ¬ S r 27) (p29 : ¬ S r 29) (p31 : ¬ S r 31) (p32 : ¬ S r 32) (p33 : ¬ S r 33)  : modelAt h' r := ⟨by rw [f.2.1]; exact a.tag, by rw [f.2.2 r 0 p0]; exact a.row, by rw [f.2.2 r 1 p1]; exact a.isKept, by rw [f.2.2 r 3 p3]; exact a.refused, by rw [f.2.2 r 4 p4]; exact a.tape, by rw [f.2.2 r 13 p13]; exact a.ownLetters, by rw [f.2.2 r 16 p16]; exact a.word, by rw [f.2.2 r 18 p18]; exact a.keyA, by rw [f.2.2 r 19 p19]; exact a.keyB, by rw [f.2.2 r 20 p20]; exact a.ways, by rw [f.2.2 r 21 p21]; exact a.heard, by rw [f.2.2 r 23 p23]; exact a.clashes, by rw [f.2.2 r 24 p24]; exact a.may, by rw [f.2.2 r 25 p25]; exact a.poolAlike, by rw [f.2.2 r 26 p26]; exact a.choice, by rw [f.2.2 r 27 p27]; exact a.best, by rw [f.2.2 r 29 p29]; exact a.order, by rw [f.2.2 r 31 p31]; exact a.numbers, by rw [f.2.2 r 32 p32]; exact a.bestNumbers, by rw [f.2.2 r 33 p33]; exact a.thenOf, by rw [f.2.1]; exact a.row_t, by rw [f.2.1]; exact a.isKept_t, by rw [f.2.1]; exact a.refused_t, by rw [f.2.1]; exact a.tape_t, by rw [f.2.1]; exact a.ownLetters_t, by rw [f.2.1]; exact a.word_t, by rw [f.2.1]; exact a.keyA_t, by rw [f.2.1]; exact a.keyB_t, by rw [f.2.1]; exact a.ways_t, by rw [f.2.1]; exact a.heard_t, by rw [f.2.1]; exact a.clashes_t, by rw [f.2.1]; exact a.may_t, by rw [f.2.1]; exact a.poolAlike_t, by rw [f.2.1]; exact a.choice_t, by rw [f.2.1]; exact a.best_t, by rw [f.2.1]; exact a.order_t, by rw [f.2.1]; exact a.numbers_t, by rw [f.2.1]; exact a.bestNumbers_t, by rw [f.2.1]; exact a.thenOf_t⟩
theorem modelAt.fo {h h' : Hp} {r : Nat} {S : Nat → Nat → Prop} (a : modelAt h r) (f : FrP S h h') (hS : ∀ p, p ∈ [0, 1, 3, 4, 13, 16, 18, 19, 20, 21, 23, 24, 25, 26, 27, 29, 31, 32, 33] → ¬ S r p) : modelAt h' r := a.fr f (hS 0 (by decide)) (hS 1 (by decide)) (hS 3 (by decide)) (hS 4 (by decide)) (hS 13 (by decide)) (hS 16 (by decide)) (hS 18 (by decide)) (hS 19 (by decide)) (hS 20 (by decide)) (hS 21 (by decide)) (hS 23 (by decide)) (hS 24 (by decide)) (hS 25 (by decide)) (hS 26 (by decide)) (hS 27 (by decide)) (hS 29 (by decide)) (hS 31 (by decide)) (hS 32 (by decide)) (hS 33 (by decide))

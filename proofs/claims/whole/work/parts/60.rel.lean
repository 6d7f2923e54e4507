/-! ===== what the abstract machine's states stand for ===== -/
def r32 (v : Int) : Prop := -2147483648 ≤ v ∧ v < 2147483648
def r64 (v : Int) : Prop := -9223372036854775808 ≤ v ∧ v < 9223372036854775808
theorem r32_to (x : Int32) : r32 x.toInt := ⟨Int32.le_toInt x, Int32.toInt_lt x⟩
theorem r64_to (x : Int64) : r64 x.toInt := ⟨Int64.le_toInt x, Int64.toInt_lt x⟩
theorem o32 (x : Int32) : Int32.ofInt x.toInt = x := by simp
theorem o64 (x : Int64) : Int64.ofInt x.toInt = x := by simp
theorem to32 {v : Int} (h : r32 v) : (Int32.ofInt v).toInt = v := Int32.toInt_ofInt_of_le h.1 h.2
theorem to64 {v : Int} (h : r64 v) : (Int64.ofInt v).toInt = v := Int64.toInt_ofInt_of_le h.1 h.2
theorem eq32 {a b : Int} (ha : r32 a) (hb : r32 b) : Int32.ofInt a = Int32.ofInt b ↔ a = b := by
  rw [← Int32.toInt_inj, to32 ha, to32 hb]
theorem lt32 {a b : Int} (ha : r32 a) (hb : r32 b) : Int32.ofInt a < Int32.ofInt b ↔ a < b := by
  rw [Int32.lt_iff_toInt_lt, to32 ha, to32 hb]
theorem eq64 {a b : Int} (ha : r64 a) (hb : r64 b) : Int64.ofInt a = Int64.ofInt b ↔ a = b := by
  rw [← Int64.toInt_inj, to64 ha, to64 hb]
theorem lt64 {a b : Int} (ha : r64 a) (hb : r64 b) : Int64.ofInt a < Int64.ofInt b ↔ a < b := by
  rw [Int64.lt_iff_toInt_lt, to64 ha, to64 hb]
theorem in32 {i : Int} {n : Nat} (hi : r32 i) (h0 : 0 ≤ i) (hn : i < (n : Int)) : vp_in (Int32.ofInt i) n ∧ (Int32.ofInt i).toNatClampNeg = i.toNat := by
  have e : (Int32.ofInt i).toNatClampNeg = i.toNat := by
    have := to32 hi
    simp only [Int32.toNatClampNeg, this]
  refine ⟨?_, e⟩
  unfold vp_in
  rw [e, Int32.lt_iff_toInt_lt, to32 hi]
  simp only [Int32.toInt_zero]
  omega
theorem nat32 (n : Nat) : Int32.ofNat n = Int32.ofInt (n : Int) := by
  first | rfl | exact (Int32.ofInt_eq_ofNat).symm | simp [Int32.ofInt, Int32.ofNat]
theorem by32 {n : Int} (h1 : -128 ≤ n) (h2 : n < 128) : (Int8.ofInt n).toInt32 = Int32.ofInt n := by
  rw [← Int32.toInt_inj, Int8.toInt_toInt32, to32 ⟨by omega, by omega⟩]
  exact Int8.toInt_ofInt_of_le h1 h2
theorem sh32 {n : Int} (h1 : -32768 ≤ n) (h2 : n < 32768) : (Int16.ofInt n).toInt32 = Int32.ofInt n := by
  rw [← Int32.toInt_inj, Int16.toInt_toInt32, to32 ⟨by omega, by omega⟩]
  exact Int16.toInt_ofInt_of_le h1 h2
theorem i2l32 {x : Int} (h : r32 x) : (Int32.ofInt x).toInt64 = Int64.ofInt x := by
  have h2 : r64 x := by unfold r64; unfold r32 at h; omega
  rw [← Int64.toInt_inj, Int32.toInt_toInt64, to32 h, to64 h2]
theorem cmp64 {x y : Int} (hx : r64 x) (hy : r64 y) : lg_cmp (Int64.ofInt x) (Int64.ofInt y) = Int32.ofInt (al_cmp x y) := by
  unfold lg_cmp al_cmp
  have h1 : (Int64.ofInt x > Int64.ofInt y) ↔ y < x := lt64 hy hx
  have h2 : (Int64.ofInt x = Int64.ofInt y) ↔ x = y := eq64 hx hy
  by_cases c1 : y < x
  · rw [if_pos (h1.mpr c1), if_pos c1]; rfl
  · rw [if_neg (fun h => c1 (h1.mp h)), if_neg c1]
    by_cases c2 : x = y
    · rw [if_pos (h2.mpr c2), if_pos c2]; rfl
    · rw [if_neg (fun h => c2 (h2.mp h)), if_neg c2]; rfl
/-- the parts that stay: field slots and classes, array classes, which cells may change, script's cell, the text's two cells, the script -/
abbrev GX : Type := va_G × (Nat → ClassId) × (Nat → Prop) × Nat × Nat × Nat × Nat × (Nat → Int32)
abbrev gxD (G : GX) : va_G := G.1
abbrev gxK (G : GX) : Nat → ClassId := G.2.1
abbrev gxA (G : GX) : Nat → Prop := G.2.2.1
abbrev gxb (G : GX) : Nat := G.2.2.2.1
abbrev gxs (G : GX) : Nat := G.2.2.2.2.1
abbrev gxv (G : GX) : Nat := G.2.2.2.2.2.1
abbrev gxL (G : GX) : Nat := G.2.2.2.2.2.2.1
abbrev gxX (G : GX) : Nat → Int32 := G.2.2.2.2.2.2.2
def tysL (G : GX) : List (ClassId × FieldType) := [(gxK G 0, .int), (gxK G 1, .long), (gxK G 2, .byte), (gxK G 3, .boolean), (gxK G 4, .object "StreetNames$Town")]
def txS : String := "near  last  step  mute  same  pair  streethouse left  right alias of    pool  "
def txB : List Int32 := [110, 101, 97, 114, 32, 32, 108, 97, 115, 116, 32, 32, 115, 116, 101, 112, 32, 32, 109, 117, 116, 101, 32, 32, 115, 97, 109, 101, 32, 32, 112, 97, 105, 114, 32, 32, 115, 116, 114, 101, 101, 116, 104, 111, 117, 115, 101, 32, 108, 101, 102, 116, 32, 32, 114, 105, 103, 104, 116, 32, 97, 108, 105, 97, 115, 32, 111, 102, 32, 32, 32, 32, 112, 111, 111, 108, 32, 32]
theorem txB_len : txB.length = 78 := rfl
def rOf (ad : Nat → Nat) (v : Int) : Option Nat := if v.toNat = 0 then none else some (ad v.toNat)
def vOf (ad : Nat → Nat) (ty : Nat) (v : Int) : Value := match ty with
  | 1 => .long (Int64.ofInt v)
  | 2 => va_rf (rOf ad v)
  | _ => .int (Int32.ofInt v)
def cv (ad : Nat → Nat) : AV → Value
  | .inl i => .int (Int32.ofInt i)
  | .inr (.inl i) => .long (Int64.ofInt i)
  | .inr (.inr r) => va_rf (rOf ad (r : Int))
def nF (ci : Nat) : Nat := match vwCl[ci]? with
  | some q => q.2.2
  | none => 0
def cellOf (G : GX) (ad : Nat → Nat) (h : Hp) (r : Nat) : va_E :=
  if (hpT h r).1 = 20 then .inl (gxK G 0, (hpT h r).2, .inl (fun j => Int32.ofInt (hpC h r j)))
  else if (hpT h r).1 = 21 then .inl (gxK G 1, (hpT h r).2, .inr (.inl (fun j => Int64.ofInt (hpC h r j))))
  else if (hpT h r).1 = 22 then .inl (gxK G 2, (hpT h r).2, .inl (fun j => Int32.ofInt (hpC h r j)))
  else if (hpT h r).1 = 23 then .inl (gxK G 3, (hpT h r).2, .inl (fun j => Int32.ofInt (hpC h r j)))
  else if (hpT h r).1 = 24 then .inl (gxK G 4, (hpT h r).2, .inr (.inr (.inr (.inr (fun j => rOf ad (hpC h r j))))))
  else .inr ((hpT h r).1 - 1, (List.range (nF ((hpT h r).1 - 1))).map (fun k => vOf ad (fT ((hpT h r).1 - 1) k) (hpC h r k)))
def wo (G : GX) (ad : Nat → Nat) (h : Hp) : va_W := (List.range (h.1 - 3)).map (fun k => (ad (k + 3), cellOf G ad h (k + 3)))
/-- what a place of a cell may hold -/
def pk (K p : Nat) : Nat := if K = 21 then 1 else if K = 24 then 2 else if K < 20 then fT (K - 1) p else 0
def gP (n ty : Nat) (v : Int) : Prop := match ty with
  | 1 => r64 v
  | 2 => 0 ≤ v ∧ v < (n : Int)
  | _ => r32 v
def gV (n : Nat) : AV → Prop
  | .inl i => r32 i
  | .inr (.inl i) => r64 i
  | .inr (.inr r) => r < n
def gH (G : GX) (h : Hp) : Prop := 3 ≤ h.1 ∧ (hpT h 0).1 = 0 ∧ (∀ r, h.1 ≤ r → (hpT h r).1 = 0) ∧ (∀ r, 3 ≤ r → r < h.1 → ((1 ≤ (hpT h r).1 ∧ (hpT h r).1 ≤ 12) ∨ (20 ≤ (hpT h r).1 ∧ (hpT h r).1 ≤ 24)) ∧ (hpT h r).2 < 2147483648) ∧
  (hpT h 1 = (25, gxL G) ∧ gxL G < 2147483648 ∧ ∀ j, j < gxL G → hpC h 1 j = (gxX G j).toInt) ∧ (hpT h 2 = (26, 78) ∧ ∀ j, j < 78 → hpC h 2 j = (txB.getD j 0).toInt) ∧ ∀ r p, 3 ≤ r → r < h.1 → gP h.1 (pk (hpT h r).1 p) (hpC h r p)
def wd (G : GX) (ad : Nat → Nat) (h : Hp) (H : Heap) : Prop := gH G h ∧ ad 1 = gxb G ∧ ad 2 = gxs G ∧ va_P (gxD G) vwCl (wo G ad h) H ∧ va_D (gxA G) (wo G ad h)
/-- what stays of the machine's own cells -/
def xsF (G : GX) (U : State) (H : Heap) : Prop := vk_R "StreetNames$Tape" 19 txS (gxs G) U ∧ vk_S 1 [78] [txB] (fun _ => gxs G) (fun _ => gxv G) (gxA G) U H ∧ va_Z "java/lang/String" "COMPACT_STRINGS" "Z" (.int 1) (gxA G) U H ∧ va_Zq "jdk/internal/util/Preconditions" "SIOOBE_FORMATTER" "Ljava/util/function/BiFunction;" (gxA G) U H ∧ va_AO "StreetNames$Town" U ∧ ∀ (own : String) (idx : Nat) (z : MethodName) (host : String), Cond.methodLinkNest own idx z host ∈ lw_tbl → va_Nw (.methodLinkNest own idx z host) U
def cx (G : GX) (y : MethodName) (cc : ByteArray) (ml : Nat) (rt : Option FieldType) (p : Program) (s : State) (m : MethodId) (args : Array Value) (meth : Method) (c : Code) : Prop :=
  p.tables.exec = Jvm.exec ∧ c.code = cc ∧ c.maxLocals = ml ∧ meth.sig.returnType = rt ∧ s.vm.findClass y.cls = some m.cls ∧ (y.name = "<init>" → meth.name = "<init>") ∧ (∀ w, w ∈ lw_tbl → goodWord w = true → w.before args s = true) ∧ meth.locks = false ∧
  va_K (gxD G) vwCl (tysL G) s ∧ va_X (gxb G) (gxL G) (gxX G) s s.heap ∧ gxb G < s.heap.size ∧ ¬ gxA G (gxb G) ∧ (∀ q, s.heap.size ≤ q → gxA G q) ∧ xsF G s s.heap
def rvOk (rt : Option FieldType) : Option AV → Prop
  | none => rkOf rt = 0
  | some (.inl _) => rkOf rt = 1
  | some (.inr (.inl _)) => rkOf rt = 2
  | some (.inr (.inr _)) => rkOf rt = 4
def QR (G : GX) (rt : Option FieldType) (R : PR) (ad0 : Nat → Nat) (n0 : Nat) : Array Value → State → Outcome → State → Prop := fun _ st o t =>
  (∃ (rv : Option AV) (h' : Hp) (ad' : Nat → Nat), R rv h' ∧ rvOk rt rv ∧ (∀ v, rv = some v → gV h'.1 v) ∧ n0 ≤ h'.1 ∧ (∀ r, r < n0 → ad' r = ad0 r) ∧ o = .returned (rv.map (cv ad')) ∧ wd G ad' h' t.heap ∧ va_K (gxD G) vwCl (tysL G) t) ∧ va_F (gxA G) st t
def fr (ad : Nat → Nat) (n : Nat) (lo : Lo) (ls : Array Slot) : Prop := ls.size = lo.length ∧ lv_wf ls ∧ ∀ i v, x_lg lo i = some v → ls[i]? = some (.val (cv ad v)) ∧ gV n v
def P0 (l : Launch) (G : GX) : PT := fun mi pc lo st h d mc ms R =>
  ∀ (y : MethodName) (cc : ByteArray) (ml : Nat) (rt : Option FieldType) (p : Program) (e : Env) (Rm : Room) (s : State) (m : MethodId) (args : Array Value) (below : List Frame) (meth : Method) (c : Code) (H : Heap) (locs : List Loc) (ls : Array Slot) (cells slots MC MS : Nat) (ad ad0 : Nat → Nat) (n0 : Nat),
  mF mi = some (y, cc, ml, rt) → cx G y cc ml rt p s m args meth c → d ≤ Rm.frames → 40 * d ≤ Rm.locals → cells + mc = MC → slots + ms = MS → MC ≤ Rm.cells → MS ≤ Rm.slots →
  wd G ad h H → va_S (gxA G) s.heap H locs → fr ad h.1 lo ls → lo.length = ml → (∀ v ∈ st, gV h.1 v) → n0 ≤ h.1 → (∀ r, r < n0 → ad r = ad0 r) →
  W p l e Rm s m args below meth c H locs cells slots (MQ below (QR G rt R ad0 n0) args s MC MS (gxA G)) (F0 m pc ls (st.map (cv ad)))

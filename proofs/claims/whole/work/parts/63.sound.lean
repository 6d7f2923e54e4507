/-! ===== soundness: a run of instructions of the abstract machine is one of the machine (by program wip/whole/gensnd.py) ===== -/
def Wk (l : Launch) (G : GX) (mi : Nat) (y : MethodName) (cc : ByteArray) (ml : Nat) (rt : Option FieldType) (p : Program) (e : Env) (Rm : Room) (s : State) (m : MethodId) (args : Array Value) (below : List Frame) (meth : Method) (c : Code) (MC MS : Nat) (ad0 : Nat → Nat) (n0 : Nat) (R : PR) (is : List AI) : Prop :=
  ∀ (pc : Nat) (lo : Lo) (st : List AV) (h : Hp) (d mc ms : Nat) (H : Heap) (locs : List Loc) (ls : Array Slot) (cells slots : Nat) (ad : Nat → Nat),
  okL y rt cc pc is = true → xc (P0 l G) mi is lo st h d mc ms R → d ≤ Rm.frames → 40 * d ≤ Rm.locals → cells + mc = MC → slots + ms = MS → wd G ad h H → va_S (gxA G) s.heap H locs → fr ad h.1 lo ls → lo.length = ml → (∀ v ∈ st, gV h.1 v) → n0 ≤ h.1 → (∀ r, r < n0 → ad r = ad0 r) →
  W p l e Rm s m args below meth c H locs cells slots (MQ below (QR G rt R ad0 n0) args s MC MS (gxA G)) (F0 m pc ls (st.map (cv ad)))
section SND
variable {l : Launch} {G : GX} {mi : Nat} {y : MethodName} {cc : ByteArray} {ml : Nat} {rt : Option FieldType} {p : Program} {e : Env} {Rm : Room} {s : State} {m : MethodId} {args : Array Value} {below : List Frame} {meth : Method} {c : Code} {MC MS : Nat} {ad0 : Nat → Nat} {n0 : Nat} {R : PR} {is : List AI} {lk : List Nat}
theorem x_ift_eq {a b : Int} {X Y : Prop} (ha : r32 a) (hb : r32 b) (z : Int32.ofInt a = Int32.ofInt b) (hx : x_if .eq a b X Y) : X := by
  simp only [x_if] at hx
  rw [if_pos ((eq32 ha hb).mp z)] at hx; exact hx
theorem x_iff_eq {a b : Int} {X Y : Prop} (ha : r32 a) (hb : r32 b) (z : ¬ (Int32.ofInt a = Int32.ofInt b)) (hx : x_if .eq a b X Y) : Y := by
  simp only [x_if] at hx
  rw [if_neg (fun w => z ((eq32 ha hb).mpr w))] at hx; exact hx
theorem x_ift_ne {a b : Int} {X Y : Prop} (ha : r32 a) (hb : r32 b) (z : ¬ Int32.ofInt a = Int32.ofInt b) (hx : x_if .ne a b X Y) : X := by
  simp only [x_if] at hx
  rw [if_neg (fun w => z ((eq32 ha hb).mpr w))] at hx; exact hx
theorem x_iff_ne {a b : Int} {X Y : Prop} (ha : r32 a) (hb : r32 b) (z : ¬ (¬ Int32.ofInt a = Int32.ofInt b)) (hx : x_if .ne a b X Y) : Y := by
  simp only [x_if] at hx
  rw [if_pos ((eq32 ha hb).mp (Classical.not_not.mp z))] at hx; exact hx
theorem x_ift_lt {a b : Int} {X Y : Prop} (ha : r32 a) (hb : r32 b) (z : Int32.ofInt a < Int32.ofInt b) (hx : x_if .lt a b X Y) : X := by
  simp only [x_if] at hx
  rw [if_pos ((lt32 ha hb).mp z)] at hx; exact hx
theorem x_iff_lt {a b : Int} {X Y : Prop} (ha : r32 a) (hb : r32 b) (z : ¬ (Int32.ofInt a < Int32.ofInt b)) (hx : x_if .lt a b X Y) : Y := by
  simp only [x_if] at hx
  rw [if_neg (fun w => z ((lt32 ha hb).mpr w))] at hx; exact hx
theorem x_ift_ge {a b : Int} {X Y : Prop} (ha : r32 a) (hb : r32 b) (z : Int32.ofInt b ≤ Int32.ofInt a) (hx : x_if .ge a b X Y) : X := by
  simp only [x_if] at hx
  rw [if_neg (fun w => absurd ((lt32 ha hb).mpr w) (Int32.not_lt.mpr z))] at hx; exact hx
theorem x_iff_ge {a b : Int} {X Y : Prop} (ha : r32 a) (hb : r32 b) (z : ¬ (Int32.ofInt b ≤ Int32.ofInt a)) (hx : x_if .ge a b X Y) : Y := by
  simp only [x_if] at hx
  rw [if_pos ((lt32 ha hb).mp (Int32.not_le.mp z))] at hx; exact hx
theorem x_ift_gt {a b : Int} {X Y : Prop} (ha : r32 a) (hb : r32 b) (z : Int32.ofInt b < Int32.ofInt a) (hx : x_if .gt a b X Y) : X := by
  simp only [x_if] at hx
  rw [if_pos ((lt32 hb ha).mp z)] at hx; exact hx
theorem x_iff_gt {a b : Int} {X Y : Prop} (ha : r32 a) (hb : r32 b) (z : ¬ (Int32.ofInt b < Int32.ofInt a)) (hx : x_if .gt a b X Y) : Y := by
  simp only [x_if] at hx
  rw [if_neg (fun w => z ((lt32 hb ha).mpr w))] at hx; exact hx
theorem x_ift_le {a b : Int} {X Y : Prop} (ha : r32 a) (hb : r32 b) (z : Int32.ofInt a ≤ Int32.ofInt b) (hx : x_if .le a b X Y) : X := by
  simp only [x_if] at hx
  rw [if_neg (fun w => absurd ((lt32 hb ha).mpr w) (Int32.not_lt.mpr z))] at hx; exact hx
theorem x_iff_le {a b : Int} {X Y : Prop} (ha : r32 a) (hb : r32 b) (z : ¬ (Int32.ofInt a ≤ Int32.ofInt b)) (hx : x_if .le a b X Y) : Y := by
  simp only [x_if] at hx
  rw [if_pos ((lt32 hb ha).mp (Int32.not_le.mp z))] at hx; exact hx
theorem blt_lt {a b : Nat} (h : Nat.blt a b = true) : a < b := Nat.le_of_ble_eq_true h
theorem wAt_ok {pl : Nat} {w : Cond} (h : wAt pl w = true) : w ∈ lw_tbl ∧ goodWord w = true := by
  simp only [wAt, Bool.and_eq_true, decide_eq_true_eq] at h
  exact ⟨List.mem_of_getElem? h.1, h.2⟩

set_option maxHeartbeats 1000000 in
theorem sd_iadd  (hmF : mF mi = some (y, cc, ml, rt)) (hcx : cx G y cc ml rt p s m args meth c) (hMC : MC ≤ Rm.cells) (hMS : MS ≤ Rm.slots) (ih : Wk l G mi y cc ml rt p e Rm s m args below meth c MC MS ad0 n0 R is) : Wk l G mi y cc ml rt p e Rm s m args below meth c MC MS ad0 n0 R ((.iadd, lk) :: is) := by
  intro pc lo st h d mc ms H locs ls cells slots ad hok hx hd1 hd2 hc1 hc2 hw hS hfr hll hst hn0 had
  obtain ⟨HX, HB, hml, hrt, hown, hnm, hts, hlocks, hK, hXb, hbl, hbA, hA, hxs⟩ := hcx
  obtain ⟨j, len, hdec, hlen, hj, hnx⟩ := okL_cons (by intro z; cases z) hok
  have hj := of_decide_eq_true hj
  subst hj
  obtain rfl : 1 = len := hlen
  simp only [xc] at hx
  split at hx
  · rename_i b a st
    exact lv_iadd HX HB hdec (W_i (o32 _) (ih (pc + 1) lo (xI (ai_add a b) :: st) h d mc ms H locs ls cells slots ad hnx hx hd1 hd2 hc1 hc2 hw hS hfr hll (g_cs (r32_to _) (g_tl (g_tl hst))) hn0 had))
  · exact hx.elim

set_option maxHeartbeats 1000000 in
theorem sd_isub  (hmF : mF mi = some (y, cc, ml, rt)) (hcx : cx G y cc ml rt p s m args meth c) (hMC : MC ≤ Rm.cells) (hMS : MS ≤ Rm.slots) (ih : Wk l G mi y cc ml rt p e Rm s m args below meth c MC MS ad0 n0 R is) : Wk l G mi y cc ml rt p e Rm s m args below meth c MC MS ad0 n0 R ((.isub, lk) :: is) := by
  intro pc lo st h d mc ms H locs ls cells slots ad hok hx hd1 hd2 hc1 hc2 hw hS hfr hll hst hn0 had
  obtain ⟨HX, HB, hml, hrt, hown, hnm, hts, hlocks, hK, hXb, hbl, hbA, hA, hxs⟩ := hcx
  obtain ⟨j, len, hdec, hlen, hj, hnx⟩ := okL_cons (by intro z; cases z) hok
  have hj := of_decide_eq_true hj
  subst hj
  obtain rfl : 1 = len := hlen
  simp only [xc] at hx
  split at hx
  · rename_i b a st
    exact lv_isub HX HB hdec (W_i (o32 _) (ih (pc + 1) lo (xI (ai_sub a b) :: st) h d mc ms H locs ls cells slots ad hnx hx hd1 hd2 hc1 hc2 hw hS hfr hll (g_cs (r32_to _) (g_tl (g_tl hst))) hn0 had))
  · exact hx.elim

set_option maxHeartbeats 1000000 in
theorem sd_imul  (hmF : mF mi = some (y, cc, ml, rt)) (hcx : cx G y cc ml rt p s m args meth c) (hMC : MC ≤ Rm.cells) (hMS : MS ≤ Rm.slots) (ih : Wk l G mi y cc ml rt p e Rm s m args below meth c MC MS ad0 n0 R is) : Wk l G mi y cc ml rt p e Rm s m args below meth c MC MS ad0 n0 R ((.imul, lk) :: is) := by
  intro pc lo st h d mc ms H locs ls cells slots ad hok hx hd1 hd2 hc1 hc2 hw hS hfr hll hst hn0 had
  obtain ⟨HX, HB, hml, hrt, hown, hnm, hts, hlocks, hK, hXb, hbl, hbA, hA, hxs⟩ := hcx
  obtain ⟨j, len, hdec, hlen, hj, hnx⟩ := okL_cons (by intro z; cases z) hok
  have hj := of_decide_eq_true hj
  subst hj
  obtain rfl : 1 = len := hlen
  simp only [xc] at hx
  split at hx
  · rename_i b a st
    exact lv_imul HX HB hdec (W_i (o32 _) (ih (pc + 1) lo (xI (ai_mul a b) :: st) h d mc ms H locs ls cells slots ad hnx hx hd1 hd2 hc1 hc2 hw hS hfr hll (g_cs (r32_to _) (g_tl (g_tl hst))) hn0 had))
  · exact hx.elim

set_option maxHeartbeats 1000000 in
theorem sd_iand  (hmF : mF mi = some (y, cc, ml, rt)) (hcx : cx G y cc ml rt p s m args meth c) (hMC : MC ≤ Rm.cells) (hMS : MS ≤ Rm.slots) (ih : Wk l G mi y cc ml rt p e Rm s m args below meth c MC MS ad0 n0 R is) : Wk l G mi y cc ml rt p e Rm s m args below meth c MC MS ad0 n0 R ((.iand, lk) :: is) := by
  intro pc lo st h d mc ms H locs ls cells slots ad hok hx hd1 hd2 hc1 hc2 hw hS hfr hll hst hn0 had
  obtain ⟨HX, HB, hml, hrt, hown, hnm, hts, hlocks, hK, hXb, hbl, hbA, hA, hxs⟩ := hcx
  obtain ⟨j, len, hdec, hlen, hj, hnx⟩ := okL_cons (by intro z; cases z) hok
  have hj := of_decide_eq_true hj
  subst hj
  obtain rfl : 1 = len := hlen
  simp only [xc] at hx
  split at hx
  · rename_i b a st
    exact lv_iand HX HB hdec (W_i (o32 _) (ih (pc + 1) lo (xI (ai_and a b) :: st) h d mc ms H locs ls cells slots ad hnx hx hd1 hd2 hc1 hc2 hw hS hfr hll (g_cs (r32_to _) (g_tl (g_tl hst))) hn0 had))
  · exact hx.elim

set_option maxHeartbeats 1000000 in
theorem sd_ior  (hmF : mF mi = some (y, cc, ml, rt)) (hcx : cx G y cc ml rt p s m args meth c) (hMC : MC ≤ Rm.cells) (hMS : MS ≤ Rm.slots) (ih : Wk l G mi y cc ml rt p e Rm s m args below meth c MC MS ad0 n0 R is) : Wk l G mi y cc ml rt p e Rm s m args below meth c MC MS ad0 n0 R ((.ior, lk) :: is) := by
  intro pc lo st h d mc ms H locs ls cells slots ad hok hx hd1 hd2 hc1 hc2 hw hS hfr hll hst hn0 had
  obtain ⟨HX, HB, hml, hrt, hown, hnm, hts, hlocks, hK, hXb, hbl, hbA, hA, hxs⟩ := hcx
  obtain ⟨j, len, hdec, hlen, hj, hnx⟩ := okL_cons (by intro z; cases z) hok
  have hj := of_decide_eq_true hj
  subst hj
  obtain rfl : 1 = len := hlen
  simp only [xc] at hx
  split at hx
  · rename_i b a st
    exact lv_ior HX HB hdec (W_i (o32 _) (ih (pc + 1) lo (xI (ai_or a b) :: st) h d mc ms H locs ls cells slots ad hnx hx hd1 hd2 hc1 hc2 hw hS hfr hll (g_cs (r32_to _) (g_tl (g_tl hst))) hn0 had))
  · exact hx.elim

set_option maxHeartbeats 1000000 in
theorem sd_ixor  (hmF : mF mi = some (y, cc, ml, rt)) (hcx : cx G y cc ml rt p s m args meth c) (hMC : MC ≤ Rm.cells) (hMS : MS ≤ Rm.slots) (ih : Wk l G mi y cc ml rt p e Rm s m args below meth c MC MS ad0 n0 R is) : Wk l G mi y cc ml rt p e Rm s m args below meth c MC MS ad0 n0 R ((.ixor, lk) :: is) := by
  intro pc lo st h d mc ms H locs ls cells slots ad hok hx hd1 hd2 hc1 hc2 hw hS hfr hll hst hn0 had
  obtain ⟨HX, HB, hml, hrt, hown, hnm, hts, hlocks, hK, hXb, hbl, hbA, hA, hxs⟩ := hcx
  obtain ⟨j, len, hdec, hlen, hj, hnx⟩ := okL_cons (by intro z; cases z) hok
  have hj := of_decide_eq_true hj
  subst hj
  obtain rfl : 1 = len := hlen
  simp only [xc] at hx
  split at hx
  · rename_i b a st
    exact lv_ixor HX HB hdec (W_i (o32 _) (ih (pc + 1) lo (xI (ai_xor a b) :: st) h d mc ms H locs ls cells slots ad hnx hx hd1 hd2 hc1 hc2 hw hS hfr hll (g_cs (r32_to _) (g_tl (g_tl hst))) hn0 had))
  · exact hx.elim

set_option maxHeartbeats 1000000 in
theorem sd_ishl  (hmF : mF mi = some (y, cc, ml, rt)) (hcx : cx G y cc ml rt p s m args meth c) (hMC : MC ≤ Rm.cells) (hMS : MS ≤ Rm.slots) (ih : Wk l G mi y cc ml rt p e Rm s m args below meth c MC MS ad0 n0 R is) : Wk l G mi y cc ml rt p e Rm s m args below meth c MC MS ad0 n0 R ((.ishl, lk) :: is) := by
  intro pc lo st h d mc ms H locs ls cells slots ad hok hx hd1 hd2 hc1 hc2 hw hS hfr hll hst hn0 had
  obtain ⟨HX, HB, hml, hrt, hown, hnm, hts, hlocks, hK, hXb, hbl, hbA, hA, hxs⟩ := hcx
  obtain ⟨j, len, hdec, hlen, hj, hnx⟩ := okL_cons (by intro z; cases z) hok
  have hj := of_decide_eq_true hj
  subst hj
  obtain rfl : 1 = len := hlen
  simp only [xc] at hx
  split at hx
  · rename_i b a st
    exact lv_ishl HX HB hdec (W_i (o32 _) (ih (pc + 1) lo (xI (ai_shl a b) :: st) h d mc ms H locs ls cells slots ad hnx hx hd1 hd2 hc1 hc2 hw hS hfr hll (g_cs (r32_to _) (g_tl (g_tl hst))) hn0 had))
  · exact hx.elim

set_option maxHeartbeats 1000000 in
theorem sd_ishr  (hmF : mF mi = some (y, cc, ml, rt)) (hcx : cx G y cc ml rt p s m args meth c) (hMC : MC ≤ Rm.cells) (hMS : MS ≤ Rm.slots) (ih : Wk l G mi y cc ml rt p e Rm s m args below meth c MC MS ad0 n0 R is) : Wk l G mi y cc ml rt p e Rm s m args below meth c MC MS ad0 n0 R ((.ishr, lk) :: is) := by
  intro pc lo st h d mc ms H locs ls cells slots ad hok hx hd1 hd2 hc1 hc2 hw hS hfr hll hst hn0 had
  obtain ⟨HX, HB, hml, hrt, hown, hnm, hts, hlocks, hK, hXb, hbl, hbA, hA, hxs⟩ := hcx
  obtain ⟨j, len, hdec, hlen, hj, hnx⟩ := okL_cons (by intro z; cases z) hok
  have hj := of_decide_eq_true hj
  subst hj
  obtain rfl : 1 = len := hlen
  simp only [xc] at hx
  split at hx
  · rename_i b a st
    exact lv_ishr HX HB hdec (W_i (o32 _) (ih (pc + 1) lo (xI (ai_shr a b) :: st) h d mc ms H locs ls cells slots ad hnx hx hd1 hd2 hc1 hc2 hw hS hfr hll (g_cs (r32_to _) (g_tl (g_tl hst))) hn0 had))
  · exact hx.elim

set_option maxHeartbeats 1000000 in
theorem sd_iushr  (hmF : mF mi = some (y, cc, ml, rt)) (hcx : cx G y cc ml rt p s m args meth c) (hMC : MC ≤ Rm.cells) (hMS : MS ≤ Rm.slots) (ih : Wk l G mi y cc ml rt p e Rm s m args below meth c MC MS ad0 n0 R is) : Wk l G mi y cc ml rt p e Rm s m args below meth c MC MS ad0 n0 R ((.iushr, lk) :: is) := by
  intro pc lo st h d mc ms H locs ls cells slots ad hok hx hd1 hd2 hc1 hc2 hw hS hfr hll hst hn0 had
  obtain ⟨HX, HB, hml, hrt, hown, hnm, hts, hlocks, hK, hXb, hbl, hbA, hA, hxs⟩ := hcx
  obtain ⟨j, len, hdec, hlen, hj, hnx⟩ := okL_cons (by intro z; cases z) hok
  have hj := of_decide_eq_true hj
  subst hj
  obtain rfl : 1 = len := hlen
  simp only [xc] at hx
  split at hx
  · rename_i b a st
    exact lv_iushr HX HB hdec rfl (W_i (o32 _) (ih (pc + 1) lo (xI (ai_ushr a b) :: st) h d mc ms H locs ls cells slots ad hnx hx hd1 hd2 hc1 hc2 hw hS hfr hll (g_cs (r32_to _) (g_tl (g_tl hst))) hn0 had))
  · exact hx.elim

set_option maxHeartbeats 1000000 in
theorem sd_idiv  (hmF : mF mi = some (y, cc, ml, rt)) (hcx : cx G y cc ml rt p s m args meth c) (hMC : MC ≤ Rm.cells) (hMS : MS ≤ Rm.slots) (ih : Wk l G mi y cc ml rt p e Rm s m args below meth c MC MS ad0 n0 R is) : Wk l G mi y cc ml rt p e Rm s m args below meth c MC MS ad0 n0 R ((.idiv, lk) :: is) := by
  intro pc lo st h d mc ms H locs ls cells slots ad hok hx hd1 hd2 hc1 hc2 hw hS hfr hll hst hn0 had
  obtain ⟨HX, HB, hml, hrt, hown, hnm, hts, hlocks, hK, hXb, hbl, hbA, hA, hxs⟩ := hcx
  obtain ⟨j, len, hdec, hlen, hj, hnx⟩ := okL_cons (by intro z; cases z) hok
  have hj := of_decide_eq_true hj
  subst hj
  obtain rfl : 1 = len := hlen
  simp only [xc] at hx
  split at hx
  · rename_i b a st
    obtain ⟨hne, hx⟩ := hx
    have hb2 : r32 b := g_hd hst
    exact lv_idiv HX HB hdec (fun z => hne ((eq32 hb2 ⟨by decide, by decide⟩).mp z)) (W_i (o32 _) (ih (pc + 1) lo (xI (ai_div a b) :: st) h d mc ms H locs ls cells slots ad hnx hx hd1 hd2 hc1 hc2 hw hS hfr hll (g_cs (r32_to _) (g_tl (g_tl hst))) hn0 had))
  · exact hx.elim

set_option maxHeartbeats 1000000 in
theorem sd_irem  (hmF : mF mi = some (y, cc, ml, rt)) (hcx : cx G y cc ml rt p s m args meth c) (hMC : MC ≤ Rm.cells) (hMS : MS ≤ Rm.slots) (ih : Wk l G mi y cc ml rt p e Rm s m args below meth c MC MS ad0 n0 R is) : Wk l G mi y cc ml rt p e Rm s m args below meth c MC MS ad0 n0 R ((.irem, lk) :: is) := by
  intro pc lo st h d mc ms H locs ls cells slots ad hok hx hd1 hd2 hc1 hc2 hw hS hfr hll hst hn0 had
  obtain ⟨HX, HB, hml, hrt, hown, hnm, hts, hlocks, hK, hXb, hbl, hbA, hA, hxs⟩ := hcx
  obtain ⟨j, len, hdec, hlen, hj, hnx⟩ := okL_cons (by intro z; cases z) hok
  have hj := of_decide_eq_true hj
  subst hj
  obtain rfl : 1 = len := hlen
  simp only [xc] at hx
  split at hx
  · rename_i b a st
    obtain ⟨hne, hx⟩ := hx
    have hb2 : r32 b := g_hd hst
    exact lv_irem HX HB hdec (fun z => hne ((eq32 hb2 ⟨by decide, by decide⟩).mp z)) (W_i (o32 _) (ih (pc + 1) lo (xI (ai_rem a b) :: st) h d mc ms H locs ls cells slots ad hnx hx hd1 hd2 hc1 hc2 hw hS hfr hll (g_cs (r32_to _) (g_tl (g_tl hst))) hn0 had))
  · exact hx.elim

set_option maxHeartbeats 1000000 in
theorem sd_ladd  (hmF : mF mi = some (y, cc, ml, rt)) (hcx : cx G y cc ml rt p s m args meth c) (hMC : MC ≤ Rm.cells) (hMS : MS ≤ Rm.slots) (ih : Wk l G mi y cc ml rt p e Rm s m args below meth c MC MS ad0 n0 R is) : Wk l G mi y cc ml rt p e Rm s m args below meth c MC MS ad0 n0 R ((.ladd, lk) :: is) := by
  intro pc lo st h d mc ms H locs ls cells slots ad hok hx hd1 hd2 hc1 hc2 hw hS hfr hll hst hn0 had
  obtain ⟨HX, HB, hml, hrt, hown, hnm, hts, hlocks, hK, hXb, hbl, hbA, hA, hxs⟩ := hcx
  obtain ⟨j, len, hdec, hlen, hj, hnx⟩ := okL_cons (by intro z; cases z) hok
  have hj := of_decide_eq_true hj
  subst hj
  obtain rfl : 1 = len := hlen
  simp only [xc] at hx
  split at hx
  · rename_i b a st
    exact lv_ladd HX HB hdec (W_l (o64 _) (ih (pc + 1) lo (xL (al_add a b) :: st) h d mc ms H locs ls cells slots ad hnx hx hd1 hd2 hc1 hc2 hw hS hfr hll (g_cs (r64_to _) (g_tl (g_tl hst))) hn0 had))
  · exact hx.elim

set_option maxHeartbeats 1000000 in
theorem sd_lmul  (hmF : mF mi = some (y, cc, ml, rt)) (hcx : cx G y cc ml rt p s m args meth c) (hMC : MC ≤ Rm.cells) (hMS : MS ≤ Rm.slots) (ih : Wk l G mi y cc ml rt p e Rm s m args below meth c MC MS ad0 n0 R is) : Wk l G mi y cc ml rt p e Rm s m args below meth c MC MS ad0 n0 R ((.lmul, lk) :: is) := by
  intro pc lo st h d mc ms H locs ls cells slots ad hok hx hd1 hd2 hc1 hc2 hw hS hfr hll hst hn0 had
  obtain ⟨HX, HB, hml, hrt, hown, hnm, hts, hlocks, hK, hXb, hbl, hbA, hA, hxs⟩ := hcx
  obtain ⟨j, len, hdec, hlen, hj, hnx⟩ := okL_cons (by intro z; cases z) hok
  have hj := of_decide_eq_true hj
  subst hj
  obtain rfl : 1 = len := hlen
  simp only [xc] at hx
  split at hx
  · rename_i b a st
    exact lv_lmul HX HB hdec (W_l (o64 _) (ih (pc + 1) lo (xL (al_mul a b) :: st) h d mc ms H locs ls cells slots ad hnx hx hd1 hd2 hc1 hc2 hw hS hfr hll (g_cs (r64_to _) (g_tl (g_tl hst))) hn0 had))
  · exact hx.elim

set_option maxHeartbeats 1000000 in
theorem sd_land  (hmF : mF mi = some (y, cc, ml, rt)) (hcx : cx G y cc ml rt p s m args meth c) (hMC : MC ≤ Rm.cells) (hMS : MS ≤ Rm.slots) (ih : Wk l G mi y cc ml rt p e Rm s m args below meth c MC MS ad0 n0 R is) : Wk l G mi y cc ml rt p e Rm s m args below meth c MC MS ad0 n0 R ((.land, lk) :: is) := by
  intro pc lo st h d mc ms H locs ls cells slots ad hok hx hd1 hd2 hc1 hc2 hw hS hfr hll hst hn0 had
  obtain ⟨HX, HB, hml, hrt, hown, hnm, hts, hlocks, hK, hXb, hbl, hbA, hA, hxs⟩ := hcx
  obtain ⟨j, len, hdec, hlen, hj, hnx⟩ := okL_cons (by intro z; cases z) hok
  have hj := of_decide_eq_true hj
  subst hj
  obtain rfl : 1 = len := hlen
  simp only [xc] at hx
  split at hx
  · rename_i b a st
    exact lv_land HX HB hdec (W_l (o64 _) (ih (pc + 1) lo (xL (al_and a b) :: st) h d mc ms H locs ls cells slots ad hnx hx hd1 hd2 hc1 hc2 hw hS hfr hll (g_cs (r64_to _) (g_tl (g_tl hst))) hn0 had))
  · exact hx.elim

set_option maxHeartbeats 1000000 in
theorem sd_lor  (hmF : mF mi = some (y, cc, ml, rt)) (hcx : cx G y cc ml rt p s m args meth c) (hMC : MC ≤ Rm.cells) (hMS : MS ≤ Rm.slots) (ih : Wk l G mi y cc ml rt p e Rm s m args below meth c MC MS ad0 n0 R is) : Wk l G mi y cc ml rt p e Rm s m args below meth c MC MS ad0 n0 R ((.lor, lk) :: is) := by
  intro pc lo st h d mc ms H locs ls cells slots ad hok hx hd1 hd2 hc1 hc2 hw hS hfr hll hst hn0 had
  obtain ⟨HX, HB, hml, hrt, hown, hnm, hts, hlocks, hK, hXb, hbl, hbA, hA, hxs⟩ := hcx
  obtain ⟨j, len, hdec, hlen, hj, hnx⟩ := okL_cons (by intro z; cases z) hok
  have hj := of_decide_eq_true hj
  subst hj
  obtain rfl : 1 = len := hlen
  simp only [xc] at hx
  split at hx
  · rename_i b a st
    exact lv_lor HX HB hdec (W_l (o64 _) (ih (pc + 1) lo (xL (al_or a b) :: st) h d mc ms H locs ls cells slots ad hnx hx hd1 hd2 hc1 hc2 hw hS hfr hll (g_cs (r64_to _) (g_tl (g_tl hst))) hn0 had))
  · exact hx.elim

set_option maxHeartbeats 1000000 in
theorem sd_ldiv  (hmF : mF mi = some (y, cc, ml, rt)) (hcx : cx G y cc ml rt p s m args meth c) (hMC : MC ≤ Rm.cells) (hMS : MS ≤ Rm.slots) (ih : Wk l G mi y cc ml rt p e Rm s m args below meth c MC MS ad0 n0 R is) : Wk l G mi y cc ml rt p e Rm s m args below meth c MC MS ad0 n0 R ((.ldiv, lk) :: is) := by
  intro pc lo st h d mc ms H locs ls cells slots ad hok hx hd1 hd2 hc1 hc2 hw hS hfr hll hst hn0 had
  obtain ⟨HX, HB, hml, hrt, hown, hnm, hts, hlocks, hK, hXb, hbl, hbA, hA, hxs⟩ := hcx
  obtain ⟨j, len, hdec, hlen, hj, hnx⟩ := okL_cons (by intro z; cases z) hok
  have hj := of_decide_eq_true hj
  subst hj
  obtain rfl : 1 = len := hlen
  simp only [xc] at hx
  split at hx
  · rename_i b a st
    obtain ⟨hne, hx⟩ := hx
    have hb2 : r64 b := g_hd hst
    exact lv_ldiv HX HB hdec (fun z => hne ((eq64 hb2 ⟨by decide, by decide⟩).mp z)) (W_l (o64 _) (ih (pc + 1) lo (xL (al_div a b) :: st) h d mc ms H locs ls cells slots ad hnx hx hd1 hd2 hc1 hc2 hw hS hfr hll (g_cs (r64_to _) (g_tl (g_tl hst))) hn0 had))
  · exact hx.elim

set_option maxHeartbeats 1000000 in
theorem sd_lshl  (hmF : mF mi = some (y, cc, ml, rt)) (hcx : cx G y cc ml rt p s m args meth c) (hMC : MC ≤ Rm.cells) (hMS : MS ≤ Rm.slots) (ih : Wk l G mi y cc ml rt p e Rm s m args below meth c MC MS ad0 n0 R is) : Wk l G mi y cc ml rt p e Rm s m args below meth c MC MS ad0 n0 R ((.lshl, lk) :: is) := by
  intro pc lo st h d mc ms H locs ls cells slots ad hok hx hd1 hd2 hc1 hc2 hw hS hfr hll hst hn0 had
  obtain ⟨HX, HB, hml, hrt, hown, hnm, hts, hlocks, hK, hXb, hbl, hbA, hA, hxs⟩ := hcx
  obtain ⟨j, len, hdec, hlen, hj, hnx⟩ := okL_cons (by intro z; cases z) hok
  have hj := of_decide_eq_true hj
  subst hj
  obtain rfl : 1 = len := hlen
  simp only [xc] at hx
  split at hx
  · rename_i b a st
    exact lv_lshl HX HB hdec rfl (W_l (o64 _) (ih (pc + 1) lo (xL (al_shl a b) :: st) h d mc ms H locs ls cells slots ad hnx hx hd1 hd2 hc1 hc2 hw hS hfr hll (g_cs (r64_to _) (g_tl (g_tl hst))) hn0 had))
  · exact hx.elim

set_option maxHeartbeats 1000000 in
theorem sd_lshr  (hmF : mF mi = some (y, cc, ml, rt)) (hcx : cx G y cc ml rt p s m args meth c) (hMC : MC ≤ Rm.cells) (hMS : MS ≤ Rm.slots) (ih : Wk l G mi y cc ml rt p e Rm s m args below meth c MC MS ad0 n0 R is) : Wk l G mi y cc ml rt p e Rm s m args below meth c MC MS ad0 n0 R ((.lshr, lk) :: is) := by
  intro pc lo st h d mc ms H locs ls cells slots ad hok hx hd1 hd2 hc1 hc2 hw hS hfr hll hst hn0 had
  obtain ⟨HX, HB, hml, hrt, hown, hnm, hts, hlocks, hK, hXb, hbl, hbA, hA, hxs⟩ := hcx
  obtain ⟨j, len, hdec, hlen, hj, hnx⟩ := okL_cons (by intro z; cases z) hok
  have hj := of_decide_eq_true hj
  subst hj
  obtain rfl : 1 = len := hlen
  simp only [xc] at hx
  split at hx
  · rename_i b a st
    exact lv_lshr HX HB hdec rfl (W_l (o64 _) (ih (pc + 1) lo (xL (al_shr a b) :: st) h d mc ms H locs ls cells slots ad hnx hx hd1 hd2 hc1 hc2 hw hS hfr hll (g_cs (r64_to _) (g_tl (g_tl hst))) hn0 had))
  · exact hx.elim

set_option maxHeartbeats 1000000 in
theorem sd_lcmp  (hmF : mF mi = some (y, cc, ml, rt)) (hcx : cx G y cc ml rt p s m args meth c) (hMC : MC ≤ Rm.cells) (hMS : MS ≤ Rm.slots) (ih : Wk l G mi y cc ml rt p e Rm s m args below meth c MC MS ad0 n0 R is) : Wk l G mi y cc ml rt p e Rm s m args below meth c MC MS ad0 n0 R ((.lcmp, lk) :: is) := by
  intro pc lo st h d mc ms H locs ls cells slots ad hok hx hd1 hd2 hc1 hc2 hw hS hfr hll hst hn0 had
  obtain ⟨HX, HB, hml, hrt, hown, hnm, hts, hlocks, hK, hXb, hbl, hbA, hA, hxs⟩ := hcx
  obtain ⟨j, len, hdec, hlen, hj, hnx⟩ := okL_cons (by intro z; cases z) hok
  have hj := of_decide_eq_true hj
  subst hj
  obtain rfl : 1 = len := hlen
  simp only [xc] at hx
  split at hx
  · rename_i b a st
    have hb2 : r64 b := g_hd hst
    have ha2 : r64 a := g_hd (g_tl hst)
    have hr : r32 (al_cmp a b) := by unfold al_cmp r32; split <;> (try split) <;> omega
    exact W.lcmp HX HB hdec (W_i (cmp64 ha2 hb2).symm (ih (pc + 1) lo (xI (al_cmp a b) :: st) h d mc ms H locs ls cells slots ad hnx hx hd1 hd2 hc1 hc2 hw hS hfr hll (g_cs hr (g_tl (g_tl hst))) hn0 had))
  · exact hx.elim

set_option maxHeartbeats 1000000 in
theorem sd_i2l  (hmF : mF mi = some (y, cc, ml, rt)) (hcx : cx G y cc ml rt p s m args meth c) (hMC : MC ≤ Rm.cells) (hMS : MS ≤ Rm.slots) (ih : Wk l G mi y cc ml rt p e Rm s m args below meth c MC MS ad0 n0 R is) : Wk l G mi y cc ml rt p e Rm s m args below meth c MC MS ad0 n0 R ((.i2l, lk) :: is) := by
  intro pc lo st h d mc ms H locs ls cells slots ad hok hx hd1 hd2 hc1 hc2 hw hS hfr hll hst hn0 had
  obtain ⟨HX, HB, hml, hrt, hown, hnm, hts, hlocks, hK, hXb, hbl, hbA, hA, hxs⟩ := hcx
  obtain ⟨j, len, hdec, hlen, hj, hnx⟩ := okL_cons (by intro z; cases z) hok
  have hj := of_decide_eq_true hj
  subst hj
  obtain rfl : 1 = len := hlen
  simp only [xc] at hx
  split at hx
  · rename_i a st
    have ha2 : r32 a := g_hd hst
    have ha3 : r64 a := by unfold r64; unfold r32 at ha2; omega
    exact lv_i2l HX HB hdec rfl (W_l (i2l32 ha2).symm (ih (pc + 1) lo (xL a :: st) h d mc ms H locs ls cells slots ad hnx hx hd1 hd2 hc1 hc2 hw hS hfr hll (g_cs ha3 (g_tl hst)) hn0 had))
  · exact hx.elim

set_option maxHeartbeats 1000000 in
theorem sd_l2i  (hmF : mF mi = some (y, cc, ml, rt)) (hcx : cx G y cc ml rt p s m args meth c) (hMC : MC ≤ Rm.cells) (hMS : MS ≤ Rm.slots) (ih : Wk l G mi y cc ml rt p e Rm s m args below meth c MC MS ad0 n0 R is) : Wk l G mi y cc ml rt p e Rm s m args below meth c MC MS ad0 n0 R ((.l2i, lk) :: is) := by
  intro pc lo st h d mc ms H locs ls cells slots ad hok hx hd1 hd2 hc1 hc2 hw hS hfr hll hst hn0 had
  obtain ⟨HX, HB, hml, hrt, hown, hnm, hts, hlocks, hK, hXb, hbl, hbA, hA, hxs⟩ := hcx
  obtain ⟨j, len, hdec, hlen, hj, hnx⟩ := okL_cons (by intro z; cases z) hok
  have hj := of_decide_eq_true hj
  subst hj
  obtain rfl : 1 = len := hlen
  simp only [xc] at hx
  split at hx
  · rename_i a st
    exact lv_l2i HX HB hdec rfl (W_i (o32 _) (ih (pc + 1) lo (xI (al_int a) :: st) h d mc ms H locs ls cells slots ad hnx hx hd1 hd2 hc1 hc2 hw hS hfr hll (g_cs (r32_to _) (g_tl hst)) hn0 had))
  · exact hx.elim

set_option maxHeartbeats 1000000 in
theorem sd_i2b  (hmF : mF mi = some (y, cc, ml, rt)) (hcx : cx G y cc ml rt p s m args meth c) (hMC : MC ≤ Rm.cells) (hMS : MS ≤ Rm.slots) (ih : Wk l G mi y cc ml rt p e Rm s m args below meth c MC MS ad0 n0 R is) : Wk l G mi y cc ml rt p e Rm s m args below meth c MC MS ad0 n0 R ((.i2b, lk) :: is) := by
  intro pc lo st h d mc ms H locs ls cells slots ad hok hx hd1 hd2 hc1 hc2 hw hS hfr hll hst hn0 had
  obtain ⟨HX, HB, hml, hrt, hown, hnm, hts, hlocks, hK, hXb, hbl, hbA, hA, hxs⟩ := hcx
  obtain ⟨j, len, hdec, hlen, hj, hnx⟩ := okL_cons (by intro z; cases z) hok
  have hj := of_decide_eq_true hj
  subst hj
  obtain rfl : 1 = len := hlen
  simp only [xc] at hx
  split at hx
  · rename_i a st
    exact lv_i2b HX HB hdec rfl (W_i (o32 _) (ih (pc + 1) lo (xI (ai_byte a) :: st) h d mc ms H locs ls cells slots ad hnx hx hd1 hd2 hc1 hc2 hw hS hfr hll (g_cs (r32_to _) (g_tl hst)) hn0 had))
  · exact hx.elim

set_option maxHeartbeats 1000000 in
theorem sd_dup  (hmF : mF mi = some (y, cc, ml, rt)) (hcx : cx G y cc ml rt p s m args meth c) (hMC : MC ≤ Rm.cells) (hMS : MS ≤ Rm.slots) (ih : Wk l G mi y cc ml rt p e Rm s m args below meth c MC MS ad0 n0 R is) : Wk l G mi y cc ml rt p e Rm s m args below meth c MC MS ad0 n0 R ((.dup, lk) :: is) := by
  intro pc lo st h d mc ms H locs ls cells slots ad hok hx hd1 hd2 hc1 hc2 hw hS hfr hll hst hn0 had
  obtain ⟨HX, HB, hml, hrt, hown, hnm, hts, hlocks, hK, hXb, hbl, hbA, hA, hxs⟩ := hcx
  obtain ⟨j, len, hdec, hlen, hj, hnx⟩ := okL_cons (by intro z; cases z) hok
  have hj := of_decide_eq_true hj
  subst hj
  obtain rfl : 1 = len := hlen
  simp only [xc] at hx
  split at hx
  · rename_i a st
    exact lv_dup HX HB hdec (va := cv ad (xI a)) rfl (ih (pc + 1) lo (xI a :: xI a :: st) h d mc ms H locs ls cells slots ad hnx hx hd1 hd2 hc1 hc2 hw hS hfr hll (g_cs (g_hd hst) hst) hn0 had)
  · rename_i a st
    exact lv_dup HX HB hdec (va := cv ad (xR a)) (by rw [cv_cat]; rfl) (ih (pc + 1) lo (xR a :: xR a :: st) h d mc ms H locs ls cells slots ad hnx hx hd1 hd2 hc1 hc2 hw hS hfr hll (g_cs (g_hd hst) hst) hn0 had)
  · exact hx.elim

set_option maxHeartbeats 1000000 in
theorem sd_dup2  (hmF : mF mi = some (y, cc, ml, rt)) (hcx : cx G y cc ml rt p s m args meth c) (hMC : MC ≤ Rm.cells) (hMS : MS ≤ Rm.slots) (ih : Wk l G mi y cc ml rt p e Rm s m args below meth c MC MS ad0 n0 R is) : Wk l G mi y cc ml rt p e Rm s m args below meth c MC MS ad0 n0 R ((.dup2, lk) :: is) := by
  intro pc lo st h d mc ms H locs ls cells slots ad hok hx hd1 hd2 hc1 hc2 hw hS hfr hll hst hn0 had
  obtain ⟨HX, HB, hml, hrt, hown, hnm, hts, hlocks, hK, hXb, hbl, hbA, hA, hxs⟩ := hcx
  obtain ⟨j, len, hdec, hlen, hj, hnx⟩ := okL_cons (by intro z; cases z) hok
  have hj := of_decide_eq_true hj
  subst hj
  obtain rfl : 1 = len := hlen
  simp only [xc] at hx
  split at hx
  · rename_i a r st
    exact lv_dup2_11 HX HB hdec (va := cv ad (xI a)) (vb := cv ad (xR r)) rfl (by rw [cv_cat]; rfl) (ih (pc + 1) lo (xI a :: xR r :: xI a :: xR r :: st) h d mc ms H locs ls cells slots ad hnx hx hd1 hd2 hc1 hc2 hw hS hfr hll (g_cs (g_hd hst) (g_cs (g_hd (g_tl hst)) hst)) hn0 had)
  · exact hx.elim

set_option maxHeartbeats 1000000 in
theorem sd_pop  (hmF : mF mi = some (y, cc, ml, rt)) (hcx : cx G y cc ml rt p s m args meth c) (hMC : MC ≤ Rm.cells) (hMS : MS ≤ Rm.slots) (ih : Wk l G mi y cc ml rt p e Rm s m args below meth c MC MS ad0 n0 R is) : Wk l G mi y cc ml rt p e Rm s m args below meth c MC MS ad0 n0 R ((.pop, lk) :: is) := by
  intro pc lo st h d mc ms H locs ls cells slots ad hok hx hd1 hd2 hc1 hc2 hw hS hfr hll hst hn0 had
  obtain ⟨HX, HB, hml, hrt, hown, hnm, hts, hlocks, hK, hXb, hbl, hbA, hA, hxs⟩ := hcx
  obtain ⟨j, len, hdec, hlen, hj, hnx⟩ := okL_cons (by intro z; cases z) hok
  have hj := of_decide_eq_true hj
  subst hj
  obtain rfl : 1 = len := hlen
  simp only [xc] at hx
  split at hx
  · rename_i a st
    exact lv_pop HX HB hdec (va := cv ad (xI a)) rfl (ih (pc + 1) lo st h d mc ms H locs ls cells slots ad hnx hx hd1 hd2 hc1 hc2 hw hS hfr hll (g_tl hst) hn0 had)
  · rename_i a st
    exact lv_pop HX HB hdec (va := cv ad (xR a)) (by rw [cv_cat]; rfl) (ih (pc + 1) lo st h d mc ms H locs ls cells slots ad hnx hx hd1 hd2 hc1 hc2 hw hS hfr hll (g_tl hst) hn0 had)
  · exact hx.elim

set_option maxHeartbeats 1000000 in
theorem sd_null  (hmF : mF mi = some (y, cc, ml, rt)) (hcx : cx G y cc ml rt p s m args meth c) (hMC : MC ≤ Rm.cells) (hMS : MS ≤ Rm.slots) (ih : Wk l G mi y cc ml rt p e Rm s m args below meth c MC MS ad0 n0 R is) : Wk l G mi y cc ml rt p e Rm s m args below meth c MC MS ad0 n0 R ((.aconst_null, lk) :: is) := by
  intro pc lo st h d mc ms H locs ls cells slots ad hok hx hd1 hd2 hc1 hc2 hw hS hfr hll hst hn0 had
  obtain ⟨HX, HB, hml, hrt, hown, hnm, hts, hlocks, hK, hXb, hbl, hbA, hA, hxs⟩ := hcx
  obtain ⟨j, len, hdec, hlen, hj, hnx⟩ := okL_cons (by intro z; cases z) hok
  have hj := of_decide_eq_true hj
  subst hj
  obtain rfl : 1 = len := hlen
  simp only [xc] at hx
  exact lv_null HX HB hdec (ih (pc + 1) lo (xR 0 :: st) h d mc ms H locs ls cells slots ad hnx hx hd1 hd2 hc1 hc2 hw hS hfr hll (g_cs (show 0 < h.1 by have := hw.1.1; omega) hst) hn0 had)

set_option maxHeartbeats 1000000 in
theorem sd_iconst {n : Int} (hmF : mF mi = some (y, cc, ml, rt)) (hcx : cx G y cc ml rt p s m args meth c) (hMC : MC ≤ Rm.cells) (hMS : MS ≤ Rm.slots) (ih : Wk l G mi y cc ml rt p e Rm s m args below meth c MC MS ad0 n0 R is) : Wk l G mi y cc ml rt p e Rm s m args below meth c MC MS ad0 n0 R ((.iconst n, lk) :: is) := by
  intro pc lo st h d mc ms H locs ls cells slots ad hok hx hd1 hd2 hc1 hc2 hw hS hfr hll hst hn0 had
  obtain ⟨HX, HB, hml, hrt, hown, hnm, hts, hlocks, hK, hXb, hbl, hbA, hA, hxs⟩ := hcx
  obtain ⟨j, len, hdec, hlen, hj, hnx⟩ := okL_cons (by intro z; cases z) hok
  have hr : r32 n := by
    simp only [okj] at hj
    unfold r32
    split at hj <;> first | (have := of_decide_eq_true hj; omega) | exact absurd hj (by decide)
  simp only [xc] at hx
  simp only [okj] at hj
  split at hj
  · have hj := of_decide_eq_true hj
    obtain ⟨rfl, h1, h2⟩ := hj
    obtain rfl : 1 = len := hlen
    exact lv_iconst HX HB hdec rfl (ih (pc + 1) lo (xI _ :: st) h d mc ms H locs ls cells slots ad hnx hx hd1 hd2 hc1 hc2 hw hS hfr hll (g_cs hr hst) hn0 had)
  · have hj := of_decide_eq_true hj
    obtain ⟨rfl, h1, h2⟩ := hj
    obtain rfl : 2 = len := hlen
    exact lv_bipush HX HB hdec (by32 h1 h2) (ih (pc + 2) lo (xI _ :: st) h d mc ms H locs ls cells slots ad hnx hx hd1 hd2 hc1 hc2 hw hS hfr hll (g_cs hr hst) hn0 had)
  · have hj := of_decide_eq_true hj
    obtain ⟨rfl, h1, h2⟩ := hj
    obtain rfl : 3 = len := hlen
    exact lv_sipush HX HB hdec (sh32 h1 h2) (ih (pc + 3) lo (xI _ :: st) h d mc ms H locs ls cells slots ad hnx hx hd1 hd2 hc1 hc2 hw hS hfr hll (g_cs hr hst) hn0 had)
  · exact absurd hj (by decide)

set_option maxHeartbeats 1000000 in
theorem sd_ldc {n : Nat} (hmF : mF mi = some (y, cc, ml, rt)) (hcx : cx G y cc ml rt p s m args meth c) (hMC : MC ≤ Rm.cells) (hMS : MS ≤ Rm.slots) (ih : Wk l G mi y cc ml rt p e Rm s m args below meth c MC MS ad0 n0 R is) : Wk l G mi y cc ml rt p e Rm s m args below meth c MC MS ad0 n0 R ((.ldc n, lk) :: is) := by
  intro pc lo st h d mc ms H locs ls cells slots ad hok hx hd1 hd2 hc1 hc2 hw hS hfr hll hst hn0 had
  obtain ⟨HX, HB, hml, hrt, hown, hnm, hts, hlocks, hK, hXb, hbl, hbA, hA, hxs⟩ := hcx
  obtain ⟨j, len, hdec, hlen, hj, hnx⟩ := okL_cons (by intro z; cases z) hok
  simp only [xc] at hx
  simp only [okj] at hj
  split at hj
  · rename_i idx
    have hj := of_decide_eq_true hj
    obtain ⟨rfl, hy⟩ := hj
    obtain rfl : 2 = len := hlen
    refine va_ldcS HX HB hown (by rw [hy]; exact hxs.1) hdec ?_
    refine W_r (r := 2) ?_ (ih (pc + 2) lo (xR 2 :: st) h d mc ms H locs ls cells slots ad hnx hx hd1 hd2 hc1 hc2 hw hS hfr hll (g_cs (show 2 < h.1 by have := hw.1.1; omega) hst) hn0 had)
    rw [cv_ref (by decide), hw.2.2.1]
  · rename_i pl lk' idx
    simp only [Bool.and_eq_true] at hj
    obtain ⟨h1, h2⟩ := hj
    obtain rfl : 3 = len := hlen
    have hn : n < 2147483648 := blt_lt h1
    obtain ⟨w1, w2⟩ := wAt_ok h2
    exact lv_ldcw HX HB hown (hts _ w1 w2) hdec (W_i (nat32 n).symm (ih (pc + 3) lo (xI (n : Int) :: st) h d mc ms H locs ls cells slots ad hnx hx hd1 hd2 hc1 hc2 hw hS hfr hll (g_cs (show r32 (n : Int) by unfold r32; omega) hst) hn0 had))
  · exact absurd hj (by decide)

set_option maxHeartbeats 1000000 in
theorem sd_ldc2 {n : Nat} (hmF : mF mi = some (y, cc, ml, rt)) (hcx : cx G y cc ml rt p s m args meth c) (hMC : MC ≤ Rm.cells) (hMS : MS ≤ Rm.slots) (ih : Wk l G mi y cc ml rt p e Rm s m args below meth c MC MS ad0 n0 R is) : Wk l G mi y cc ml rt p e Rm s m args below meth c MC MS ad0 n0 R ((.ldc2_w n, lk) :: is) := by
  intro pc lo st h d mc ms H locs ls cells slots ad hok hx hd1 hd2 hc1 hc2 hw hS hfr hll hst hn0 had
  obtain ⟨HX, HB, hml, hrt, hown, hnm, hts, hlocks, hK, hXb, hbl, hbA, hA, hxs⟩ := hcx
  obtain ⟨j, len, hdec, hlen, hj, hnx⟩ := okL_cons (by intro z; cases z) hok
  simp only [xc] at hx
  simp only [okj] at hj
  split at hj
  · rename_i k
    have hj := of_decide_eq_true hj
    obtain rfl : 1 = len := hlen
    have hk : n < 2 := by have := k.isLt; omega
    refine lv_lconst HX HB hdec rfl (W_l (b := (n : Int)) ?_ (ih (pc + 1) lo (xL (n : Int) :: st) h d mc ms H locs ls cells slots ad hnx hx hd1 hd2 hc1 hc2 hw hS hfr hll (g_cs (show r64 (n : Int) by unfold r64; omega) hst) hn0 had))
    rw [hj]
    first | rfl | simp
  · rename_i pl idx
    simp only [Bool.and_eq_true] at hj
    obtain ⟨h1, h2⟩ := hj
    obtain rfl : 3 = len := hlen
    have hn : n < 9223372036854775808 := blt_lt h1
    obtain ⟨w1, w2⟩ := wAt_ok h2
    exact lv_ldc2 HX HB hown (hts _ w1 w2) hdec (ih (pc + 3) lo (xL (n : Int) :: st) h d mc ms H locs ls cells slots ad hnx hx hd1 hd2 hc1 hc2 hw hS hfr hll (g_cs (show r64 (n : Int) by unfold r64; omega) hst) hn0 had)
  · rename_i pl lk' idx hlk
    simp only [Bool.and_eq_true] at hj
    obtain ⟨h1, h2⟩ := hj
    obtain rfl : 3 = len := hlen
    have hn : n < 9223372036854775808 := blt_lt h1
    obtain ⟨w1, w2⟩ := wAt_ok h2
    rcases lk' with _ | ⟨z, lk'⟩
    · exact absurd rfl (hlk)
    exact lv_ldc2 HX HB hown (hts _ w1 w2) hdec (ih (pc + 3) lo (xL (-(n : Int)) :: st) h d mc ms H locs ls cells slots ad hnx hx hd1 hd2 hc1 hc2 hw hS hfr hll (g_cs (show r64 (-(n : Int)) by unfold r64; omega) hst) hn0 had)
  · exact absurd hj (by decide)

set_option maxHeartbeats 1000000 in
theorem sd_iload {n : Nat} (hmF : mF mi = some (y, cc, ml, rt)) (hcx : cx G y cc ml rt p s m args meth c) (hMC : MC ≤ Rm.cells) (hMS : MS ≤ Rm.slots) (ih : Wk l G mi y cc ml rt p e Rm s m args below meth c MC MS ad0 n0 R is) : Wk l G mi y cc ml rt p e Rm s m args below meth c MC MS ad0 n0 R ((.iload n, lk) :: is) := by
  intro pc lo st h d mc ms H locs ls cells slots ad hok hx hd1 hd2 hc1 hc2 hw hS hfr hll hst hn0 had
  obtain ⟨HX, HB, hml, hrt, hown, hnm, hts, hlocks, hK, hXb, hbl, hbA, hA, hxs⟩ := hcx
  obtain ⟨j, len, hdec, hlen, hj, hnx⟩ := okL_cons (by intro z; cases z) hok
  simp only [xc] at hx
  split at hx
  · rename_i v hv
    obtain ⟨f1, f2⟩ := hfr.2.2 n _ hv
    simp only [okj] at hj
    split at hj
    · obtain rfl := of_decide_eq_true hj
      obtain rfl : 2 = len := hlen
      exact lv_iload HX HB hdec f1 (ih (pc + 2) lo (xI v :: st) h d mc ms H locs ls cells slots ad hnx hx hd1 hd2 hc1 hc2 hw hS hfr hll (g_cs f2 hst) hn0 had)
    · have hj := of_decide_eq_true hj
      obtain rfl : 1 = len := hlen
      exact lv_iload_n HX HB hdec hj f1 (ih (pc + 1) lo (xI v :: st) h d mc ms H locs ls cells slots ad hnx hx hd1 hd2 hc1 hc2 hw hS hfr hll (g_cs f2 hst) hn0 had)
    · exact absurd hj (by decide)
  · exact hx.elim

set_option maxHeartbeats 1000000 in
theorem sd_lload {n : Nat} (hmF : mF mi = some (y, cc, ml, rt)) (hcx : cx G y cc ml rt p s m args meth c) (hMC : MC ≤ Rm.cells) (hMS : MS ≤ Rm.slots) (ih : Wk l G mi y cc ml rt p e Rm s m args below meth c MC MS ad0 n0 R is) : Wk l G mi y cc ml rt p e Rm s m args below meth c MC MS ad0 n0 R ((.lload n, lk) :: is) := by
  intro pc lo st h d mc ms H locs ls cells slots ad hok hx hd1 hd2 hc1 hc2 hw hS hfr hll hst hn0 had
  obtain ⟨HX, HB, hml, hrt, hown, hnm, hts, hlocks, hK, hXb, hbl, hbA, hA, hxs⟩ := hcx
  obtain ⟨j, len, hdec, hlen, hj, hnx⟩ := okL_cons (by intro z; cases z) hok
  simp only [xc] at hx
  split at hx
  · rename_i v hv
    obtain ⟨f1, f2⟩ := hfr.2.2 n _ hv
    simp only [okj] at hj
    split at hj
    · obtain rfl := of_decide_eq_true hj
      obtain rfl : 2 = len := hlen
      exact lv_lload HX HB hdec f1 (ih (pc + 2) lo (xL v :: st) h d mc ms H locs ls cells slots ad hnx hx hd1 hd2 hc1 hc2 hw hS hfr hll (g_cs f2 hst) hn0 had)
    · have hj := of_decide_eq_true hj
      obtain rfl : 1 = len := hlen
      exact lv_lload_n HX HB hdec hj f1 (ih (pc + 1) lo (xL v :: st) h d mc ms H locs ls cells slots ad hnx hx hd1 hd2 hc1 hc2 hw hS hfr hll (g_cs f2 hst) hn0 had)
    · exact absurd hj (by decide)
  · exact hx.elim

set_option maxHeartbeats 1000000 in
theorem sd_aload {n : Nat} (hmF : mF mi = some (y, cc, ml, rt)) (hcx : cx G y cc ml rt p s m args meth c) (hMC : MC ≤ Rm.cells) (hMS : MS ≤ Rm.slots) (ih : Wk l G mi y cc ml rt p e Rm s m args below meth c MC MS ad0 n0 R is) : Wk l G mi y cc ml rt p e Rm s m args below meth c MC MS ad0 n0 R ((.aload n, lk) :: is) := by
  intro pc lo st h d mc ms H locs ls cells slots ad hok hx hd1 hd2 hc1 hc2 hw hS hfr hll hst hn0 had
  obtain ⟨HX, HB, hml, hrt, hown, hnm, hts, hlocks, hK, hXb, hbl, hbA, hA, hxs⟩ := hcx
  obtain ⟨j, len, hdec, hlen, hj, hnx⟩ := okL_cons (by intro z; cases z) hok
  simp only [xc] at hx
  split at hx
  · rename_i v hv
    obtain ⟨f1, f2⟩ := hfr.2.2 n _ hv
    simp only [okj] at hj
    by_cases h0 : v = 0
    · subst h0
      split at hj
      · obtain rfl := of_decide_eq_true hj
        obtain rfl : 2 = len := hlen
        exact lv_aloadN HX HB hdec f1 (ih (pc + 2) lo (xR 0 :: st) h d mc ms H locs ls cells slots ad hnx hx hd1 hd2 hc1 hc2 hw hS hfr hll (g_cs f2 hst) hn0 had)
      · have hj := of_decide_eq_true hj
        obtain rfl : 1 = len := hlen
        exact lv_aload_nN HX HB hdec hj f1 (ih (pc + 1) lo (xR 0 :: st) h d mc ms H locs ls cells slots ad hnx hx hd1 hd2 hc1 hc2 hw hS hfr hll (g_cs f2 hst) hn0 had)
      · exact absurd hj (by decide)
    · have f3 := f1
      rw [show cv ad (Sum.inr (Sum.inr v)) = .ref (ad v) from cv_ref h0] at f3
      split at hj
      · obtain rfl := of_decide_eq_true hj
        obtain rfl : 2 = len := hlen
        exact lv_aload HX HB hdec f3 (W_r (cv_ref h0) (ih (pc + 2) lo (xR v :: st) h d mc ms H locs ls cells slots ad hnx hx hd1 hd2 hc1 hc2 hw hS hfr hll (g_cs f2 hst) hn0 had))
      · have hj := of_decide_eq_true hj
        obtain rfl : 1 = len := hlen
        exact lv_aload_n HX HB hdec hj f3 (W_r (cv_ref h0) (ih (pc + 1) lo (xR v :: st) h d mc ms H locs ls cells slots ad hnx hx hd1 hd2 hc1 hc2 hw hS hfr hll (g_cs f2 hst) hn0 had))
      · exact absurd hj (by decide)
  · exact hx.elim

set_option maxHeartbeats 1000000 in
theorem sd_istore {n : Nat} (hmF : mF mi = some (y, cc, ml, rt)) (hcx : cx G y cc ml rt p s m args meth c) (hMC : MC ≤ Rm.cells) (hMS : MS ≤ Rm.slots) (ih : Wk l G mi y cc ml rt p e Rm s m args below meth c MC MS ad0 n0 R is) : Wk l G mi y cc ml rt p e Rm s m args below meth c MC MS ad0 n0 R ((.istore n, lk) :: is) := by
  intro pc lo st h d mc ms H locs ls cells slots ad hok hx hd1 hd2 hc1 hc2 hw hS hfr hll hst hn0 had
  obtain ⟨HX, HB, hml, hrt, hown, hnm, hts, hlocks, hK, hXb, hbl, hbA, hA, hxs⟩ := hcx
  obtain ⟨j, len, hdec, hlen, hj, hnx⟩ := okL_cons (by intro z; cases z) hok
  simp only [xc] at hx
  split at hx
  · rename_i v st hb
    have hn : n < lo.length := blt_lt hb
    simp only [okj] at hj
    split at hj
    · obtain rfl : 2 = len := hlen
      have hj := of_decide_eq_true hj
      rw [hj] at hdec
      refine lv_istore HX HB hdec (fr_has hfr) hn rfl (fun ls' hl => ?_)
      exact (ih (pc + 2) (x_s1 lo n (.inl v)) st h d mc ms H locs ls' cells slots ad hnx hx hd1 hd2 hc1 hc2 hw hS (fr_s1 hfr (g_hd hst) hl) (by rw [x_s1_len]; exact hll) (g_tl hst) hn0 had)
    · have hj := of_decide_eq_true hj
      obtain rfl : 1 = len := hlen
      refine lv_istore_n HX HB hdec hj (fr_has hfr) hn rfl (fun ls' hl => ?_)
      exact (ih (pc + 1) (x_s1 lo n (.inl v)) st h d mc ms H locs ls' cells slots ad hnx hx hd1 hd2 hc1 hc2 hw hS (fr_s1 hfr (g_hd hst) hl) (by rw [x_s1_len]; exact hll) (g_tl hst) hn0 had)
    · exact absurd hj (by decide)
  · exact hx.elim

set_option maxHeartbeats 1000000 in
theorem sd_lstore {n : Nat} (hmF : mF mi = some (y, cc, ml, rt)) (hcx : cx G y cc ml rt p s m args meth c) (hMC : MC ≤ Rm.cells) (hMS : MS ≤ Rm.slots) (ih : Wk l G mi y cc ml rt p e Rm s m args below meth c MC MS ad0 n0 R is) : Wk l G mi y cc ml rt p e Rm s m args below meth c MC MS ad0 n0 R ((.lstore n, lk) :: is) := by
  intro pc lo st h d mc ms H locs ls cells slots ad hok hx hd1 hd2 hc1 hc2 hw hS hfr hll hst hn0 had
  obtain ⟨HX, HB, hml, hrt, hown, hnm, hts, hlocks, hK, hXb, hbl, hbA, hA, hxs⟩ := hcx
  obtain ⟨j, len, hdec, hlen, hj, hnx⟩ := okL_cons (by intro z; cases z) hok
  simp only [xc] at hx
  split at hx
  · rename_i v st hb
    have hn : n + 1 < lo.length := blt_lt hb
    simp only [okj] at hj
    split at hj
    · obtain rfl : 2 = len := hlen
      have hj := of_decide_eq_true hj
      rw [hj] at hdec
      refine lv_lstore HX HB hdec (fr_has hfr) hn rfl (fun ls' hl => ?_)
      exact (ih (pc + 2) (x_s2 lo n (.inr (.inl v))) st h d mc ms H locs ls' cells slots ad hnx hx hd1 hd2 hc1 hc2 hw hS (fr_s2 hfr (g_hd hst) hl) (by rw [x_s2_len]; exact hll) (g_tl hst) hn0 had)
    · have hj := of_decide_eq_true hj
      obtain rfl : 1 = len := hlen
      refine lv_lstore_n HX HB hdec hj (fr_has hfr) hn rfl (fun ls' hl => ?_)
      exact (ih (pc + 1) (x_s2 lo n (.inr (.inl v))) st h d mc ms H locs ls' cells slots ad hnx hx hd1 hd2 hc1 hc2 hw hS (fr_s2 hfr (g_hd hst) hl) (by rw [x_s2_len]; exact hll) (g_tl hst) hn0 had)
    · exact absurd hj (by decide)
  · exact hx.elim

set_option maxHeartbeats 1000000 in
theorem sd_astore {n : Nat} (hmF : mF mi = some (y, cc, ml, rt)) (hcx : cx G y cc ml rt p s m args meth c) (hMC : MC ≤ Rm.cells) (hMS : MS ≤ Rm.slots) (ih : Wk l G mi y cc ml rt p e Rm s m args below meth c MC MS ad0 n0 R is) : Wk l G mi y cc ml rt p e Rm s m args below meth c MC MS ad0 n0 R ((.astore n, lk) :: is) := by
  intro pc lo st h d mc ms H locs ls cells slots ad hok hx hd1 hd2 hc1 hc2 hw hS hfr hll hst hn0 had
  obtain ⟨HX, HB, hml, hrt, hown, hnm, hts, hlocks, hK, hXb, hbl, hbA, hA, hxs⟩ := hcx
  obtain ⟨j, len, hdec, hlen, hj, hnx⟩ := okL_cons (by intro z; cases z) hok
  simp only [xc] at hx
  split at hx
  · rename_i v st hb
    have hn : n < lo.length := blt_lt hb
    simp only [okj] at hj
    by_cases h0 : v = 0
    · subst h0
      split at hj
      · obtain rfl : 2 = len := hlen
        have hj := of_decide_eq_true hj
        rw [hj] at hdec
        refine lv_astoreN HX HB hdec (fr_has hfr) hn rfl (fun ls' hl => ?_)
        exact (ih (pc + 2) (x_s1 lo n (.inr (.inr 0))) st h d mc ms H locs ls' cells slots ad hnx hx hd1 hd2 hc1 hc2 hw hS (fr_s1 hfr (g_hd hst) hl) (by rw [x_s1_len]; exact hll) (g_tl hst) hn0 had)
      · have hj := of_decide_eq_true hj
        obtain rfl : 1 = len := hlen
        refine lv_astore_nN HX HB hdec hj (fr_has hfr) hn rfl (fun ls' hl => ?_)
        exact (ih (pc + 1) (x_s1 lo n (.inr (.inr 0))) st h d mc ms H locs ls' cells slots ad hnx hx hd1 hd2 hc1 hc2 hw hS (fr_s1 hfr (g_hd hst) hl) (by rw [x_s1_len]; exact hll) (g_tl hst) hn0 had)
      · exact absurd hj (by decide)
    · have e0 : cv ad (xR v) = .ref (ad v) := cv_ref h0
      split at hj
      · obtain rfl : 2 = len := hlen
        have hj := of_decide_eq_true hj
        rw [hj] at hdec
        rw [List.map_cons, show cv ad (Sum.inr (Sum.inr v)) = .ref (ad v) from e0]
        refine lv_astore HX HB hdec (fr_has hfr) hn rfl (fun ls' hl => ?_)
        rw [← e0] at hl
        exact (ih (pc + 2) (x_s1 lo n (.inr (.inr v))) st h d mc ms H locs ls' cells slots ad hnx hx hd1 hd2 hc1 hc2 hw hS (fr_s1 hfr (g_hd hst) hl) (by rw [x_s1_len]; exact hll) (g_tl hst) hn0 had)
      · have hj := of_decide_eq_true hj
        obtain rfl : 1 = len := hlen
        rw [List.map_cons, show cv ad (Sum.inr (Sum.inr v)) = .ref (ad v) from e0]
        refine lv_astore_n HX HB hdec hj (fr_has hfr) hn rfl (fun ls' hl => ?_)
        rw [← e0] at hl
        exact (ih (pc + 1) (x_s1 lo n (.inr (.inr v))) st h d mc ms H locs ls' cells slots ad hnx hx hd1 hd2 hc1 hc2 hw hS (fr_s1 hfr (g_hd hst) hl) (by rw [x_s1_len]; exact hll) (g_tl hst) hn0 had)
      · exact absurd hj (by decide)
  · exact hx.elim

set_option maxHeartbeats 1000000 in
theorem sd_iinc {n : Nat} {k : Int} (hmF : mF mi = some (y, cc, ml, rt)) (hcx : cx G y cc ml rt p s m args meth c) (hMC : MC ≤ Rm.cells) (hMS : MS ≤ Rm.slots) (ih : Wk l G mi y cc ml rt p e Rm s m args below meth c MC MS ad0 n0 R is) : Wk l G mi y cc ml rt p e Rm s m args below meth c MC MS ad0 n0 R ((.iinc n k, lk) :: is) := by
  intro pc lo st h d mc ms H locs ls cells slots ad hok hx hd1 hd2 hc1 hc2 hw hS hfr hll hst hn0 had
  obtain ⟨HX, HB, hml, hrt, hown, hnm, hts, hlocks, hK, hXb, hbl, hbA, hA, hxs⟩ := hcx
  obtain ⟨j, len, hdec, hlen, hj, hnx⟩ := okL_cons (by intro z; cases z) hok
  have hj := of_decide_eq_true hj
  subst hj
  obtain rfl : 3 = len := hlen
  simp only [xc] at hx
  split at hx
  · rename_i v hv hb
    have hn : n < lo.length := blt_lt hb
    obtain ⟨q, hq⟩ := List.getElem?_of_mem (lvL_mem (ad := ad) hv)
    refine lv_iinc (k := q) HX HB hdec (fr_has hfr) hq (o32 _).symm hn rfl (fun ls' hl => ?_)
    exact (ih (pc + 3) (x_s1 lo n (.inl (ai_add v k))) st h d mc ms H locs ls' cells slots ad hnx hx hd1 hd2 hc1 hc2 hw hS (fr_s1 hfr (r32_to _) hl) (by rw [x_s1_len]; exact hll) hst hn0 had)
  · exact hx.elim

set_option maxHeartbeats 1000000 in
theorem sd_goto {n : Int} (hmF : mF mi = some (y, cc, ml, rt)) (hcx : cx G y cc ml rt p s m args meth c) (hMC : MC ≤ Rm.cells) (hMS : MS ≤ Rm.slots) (ih : Wk l G mi y cc ml rt p e Rm s m args below meth c MC MS ad0 n0 R is) : Wk l G mi y cc ml rt p e Rm s m args below meth c MC MS ad0 n0 R ((.goto n, lk) :: is) := by
  intro pc lo st h d mc ms H locs ls cells slots ad hok hx hd1 hd2 hc1 hc2 hw hS hfr hll hst hn0 had
  obtain ⟨HX, HB, hml, hrt, hown, hnm, hts, hlocks, hK, hXb, hbl, hbA, hA, hxs⟩ := hcx
  obtain ⟨j, len, hdec, hlen, hj, hnx⟩ := okL_cons (by intro z; cases z) hok
  simp only [xc] at hx
  simp only [okj] at hj
  split at hj
  · rename_i o
    obtain rfl : 3 = len := hlen
    obtain ⟨h0, hnx⟩ := hnx
    exact lv_goto HX HB hdec (Int.toNat_of_nonneg h0).symm (ih _ lo st h d mc ms H locs ls cells slots ad hnx hx hd1 hd2 hc1 hc2 hw hS hfr hll hst hn0 had)
  · exact absurd hj (by decide)

set_option maxHeartbeats 1000000 in
theorem sd_if_icmp {cd : ClassFile.Cond} {n : Int} (hmF : mF mi = some (y, cc, ml, rt)) (hcx : cx G y cc ml rt p s m args meth c) (hMC : MC ≤ Rm.cells) (hMS : MS ≤ Rm.slots) (ih : Wk l G mi y cc ml rt p e Rm s m args below meth c MC MS ad0 n0 R is) : Wk l G mi y cc ml rt p e Rm s m args below meth c MC MS ad0 n0 R ((.if_icmp cd n, lk) :: is) := by
  intro pc lo st h d mc ms H locs ls cells slots ad hok hx hd1 hd2 hc1 hc2 hw hS hfr hll hst hn0 had
  obtain ⟨HX, HB, hml, hrt, hown, hnm, hts, hlocks, hK, hXb, hbl, hbA, hA, hxs⟩ := hcx
  obtain ⟨j, len, hdec, hlen, hj, hnx⟩ := okL_cons (by intro z; cases z) hok
  simp only [xc] at hx
  split at hx
  · rename_i t b a st
    simp only [okj] at hj
    split at hj
    · rename_i cd' o t' hlk
      cases hlk
      obtain rfl : 3 = len := hlen
      have hj := of_decide_eq_true hj
      obtain ⟨rfl, ht⟩ := hj
      have ha2 : r32 a := g_hd (g_tl hst)
      have hb2 : r32 b := g_hd hst
      cases cd with
      | eq =>
        refine lv_icmp_eq HX HB hdec ht (fun z => ?_) (fun z => ?_)
        · have hx' := x_ift_eq ha2 hb2 z hx
          exact (hx' y cc ml rt p e Rm s m args below meth c H locs ls cells slots MC MS ad ad0 n0 hmF ⟨HX, HB, hml, hrt, hown, hnm, hts, hlocks, hK, hXb, hbl, hbA, hA, hxs⟩ hd1 hd2 hc1 hc2 hMC hMS hw hS hfr hll (g_tl (g_tl hst)) hn0 had)
        · have hx' := x_iff_eq ha2 hb2 z hx
          exact (ih (pc + 3) lo st h d mc ms H locs ls cells slots ad hnx hx' hd1 hd2 hc1 hc2 hw hS hfr hll (g_tl (g_tl hst)) hn0 had)
      | ne =>
        refine lv_icmp_ne HX HB hdec ht (fun z => ?_) (fun z => ?_)
        · have hx' := x_ift_ne ha2 hb2 z hx
          exact (hx' y cc ml rt p e Rm s m args below meth c H locs ls cells slots MC MS ad ad0 n0 hmF ⟨HX, HB, hml, hrt, hown, hnm, hts, hlocks, hK, hXb, hbl, hbA, hA, hxs⟩ hd1 hd2 hc1 hc2 hMC hMS hw hS hfr hll (g_tl (g_tl hst)) hn0 had)
        · have hx' := x_iff_ne ha2 hb2 (fun w => w z) hx
          exact (ih (pc + 3) lo st h d mc ms H locs ls cells slots ad hnx hx' hd1 hd2 hc1 hc2 hw hS hfr hll (g_tl (g_tl hst)) hn0 had)
      | lt =>
        refine lv_icmp_lt HX HB hdec ht (fun z => ?_) (fun z => ?_)
        · have hx' := x_ift_lt ha2 hb2 z hx
          exact (hx' y cc ml rt p e Rm s m args below meth c H locs ls cells slots MC MS ad ad0 n0 hmF ⟨HX, HB, hml, hrt, hown, hnm, hts, hlocks, hK, hXb, hbl, hbA, hA, hxs⟩ hd1 hd2 hc1 hc2 hMC hMS hw hS hfr hll (g_tl (g_tl hst)) hn0 had)
        · have hx' := x_iff_lt ha2 hb2 z hx
          exact (ih (pc + 3) lo st h d mc ms H locs ls cells slots ad hnx hx' hd1 hd2 hc1 hc2 hw hS hfr hll (g_tl (g_tl hst)) hn0 had)
      | ge =>
        refine lv_icmp_ge HX HB hdec ht (fun z => ?_) (fun z => ?_)
        · have hx' := x_ift_ge ha2 hb2 z hx
          exact (hx' y cc ml rt p e Rm s m args below meth c H locs ls cells slots MC MS ad ad0 n0 hmF ⟨HX, HB, hml, hrt, hown, hnm, hts, hlocks, hK, hXb, hbl, hbA, hA, hxs⟩ hd1 hd2 hc1 hc2 hMC hMS hw hS hfr hll (g_tl (g_tl hst)) hn0 had)
        · have hx' := x_iff_ge ha2 hb2 z hx
          exact (ih (pc + 3) lo st h d mc ms H locs ls cells slots ad hnx hx' hd1 hd2 hc1 hc2 hw hS hfr hll (g_tl (g_tl hst)) hn0 had)
      | gt =>
        refine lv_icmp_gt HX HB hdec ht (fun z => ?_) (fun z => ?_)
        · have hx' := x_ift_gt ha2 hb2 z hx
          exact (hx' y cc ml rt p e Rm s m args below meth c H locs ls cells slots MC MS ad ad0 n0 hmF ⟨HX, HB, hml, hrt, hown, hnm, hts, hlocks, hK, hXb, hbl, hbA, hA, hxs⟩ hd1 hd2 hc1 hc2 hMC hMS hw hS hfr hll (g_tl (g_tl hst)) hn0 had)
        · have hx' := x_iff_gt ha2 hb2 z hx
          exact (ih (pc + 3) lo st h d mc ms H locs ls cells slots ad hnx hx' hd1 hd2 hc1 hc2 hw hS hfr hll (g_tl (g_tl hst)) hn0 had)
      | le =>
        refine lv_icmp_le HX HB hdec ht (fun z => ?_) (fun z => ?_)
        · have hx' := x_ift_le ha2 hb2 z hx
          exact (hx' y cc ml rt p e Rm s m args below meth c H locs ls cells slots MC MS ad ad0 n0 hmF ⟨HX, HB, hml, hrt, hown, hnm, hts, hlocks, hK, hXb, hbl, hbA, hA, hxs⟩ hd1 hd2 hc1 hc2 hMC hMS hw hS hfr hll (g_tl (g_tl hst)) hn0 had)
        · have hx' := x_iff_le ha2 hb2 z hx
          exact (ih (pc + 3) lo st h d mc ms H locs ls cells slots ad hnx hx' hd1 hd2 hc1 hc2 hw hS hfr hll (g_tl (g_tl hst)) hn0 had)
    · exact absurd hj (by decide)
  · exact hx.elim

set_option maxHeartbeats 1000000 in
theorem sd_ifCond {cd : ClassFile.Cond} {n : Int} (hmF : mF mi = some (y, cc, ml, rt)) (hcx : cx G y cc ml rt p s m args meth c) (hMC : MC ≤ Rm.cells) (hMS : MS ≤ Rm.slots) (ih : Wk l G mi y cc ml rt p e Rm s m args below meth c MC MS ad0 n0 R is) : Wk l G mi y cc ml rt p e Rm s m args below meth c MC MS ad0 n0 R ((.ifCond cd n, lk) :: is) := by
  intro pc lo st h d mc ms H locs ls cells slots ad hok hx hd1 hd2 hc1 hc2 hw hS hfr hll hst hn0 had
  obtain ⟨HX, HB, hml, hrt, hown, hnm, hts, hlocks, hK, hXb, hbl, hbA, hA, hxs⟩ := hcx
  obtain ⟨j, len, hdec, hlen, hj, hnx⟩ := okL_cons (by intro z; cases z) hok
  simp only [xc] at hx
  split at hx
  · rename_i t a st
    simp only [okj] at hj
    split at hj
    · rename_i cd' o t' hlk
      cases hlk
      obtain rfl : 3 = len := hlen
      have hj := of_decide_eq_true hj
      obtain ⟨rfl, ht⟩ := hj
      have ha2 : r32 a := g_hd hst
      have hb2 : r32 0 := ⟨by decide, by decide⟩
      cases cd with
      | eq =>
        refine lv_if_eq HX HB hdec ht (fun z => ?_) (fun z => ?_)
        · have hx' := x_ift_eq ha2 hb2 z hx
          exact (hx' y cc ml rt p e Rm s m args below meth c H locs ls cells slots MC MS ad ad0 n0 hmF ⟨HX, HB, hml, hrt, hown, hnm, hts, hlocks, hK, hXb, hbl, hbA, hA, hxs⟩ hd1 hd2 hc1 hc2 hMC hMS hw hS hfr hll (g_tl hst) hn0 had)
        · have hx' := x_iff_eq ha2 hb2 z hx
          exact (ih (pc + 3) lo st h d mc ms H locs ls cells slots ad hnx hx' hd1 hd2 hc1 hc2 hw hS hfr hll (g_tl hst) hn0 had)
      | ne =>
        refine lv_if_ne HX HB hdec ht (fun z => ?_) (fun z => ?_)
        · have hx' := x_ift_ne ha2 hb2 z hx
          exact (hx' y cc ml rt p e Rm s m args below meth c H locs ls cells slots MC MS ad ad0 n0 hmF ⟨HX, HB, hml, hrt, hown, hnm, hts, hlocks, hK, hXb, hbl, hbA, hA, hxs⟩ hd1 hd2 hc1 hc2 hMC hMS hw hS hfr hll (g_tl hst) hn0 had)
        · have hx' := x_iff_ne ha2 hb2 (fun w => w z) hx
          exact (ih (pc + 3) lo st h d mc ms H locs ls cells slots ad hnx hx' hd1 hd2 hc1 hc2 hw hS hfr hll (g_tl hst) hn0 had)
      | lt =>
        refine lv_if_lt HX HB hdec ht (fun z => ?_) (fun z => ?_)
        · have hx' := x_ift_lt ha2 hb2 z hx
          exact (hx' y cc ml rt p e Rm s m args below meth c H locs ls cells slots MC MS ad ad0 n0 hmF ⟨HX, HB, hml, hrt, hown, hnm, hts, hlocks, hK, hXb, hbl, hbA, hA, hxs⟩ hd1 hd2 hc1 hc2 hMC hMS hw hS hfr hll (g_tl hst) hn0 had)
        · have hx' := x_iff_lt ha2 hb2 z hx
          exact (ih (pc + 3) lo st h d mc ms H locs ls cells slots ad hnx hx' hd1 hd2 hc1 hc2 hw hS hfr hll (g_tl hst) hn0 had)
      | ge =>
        refine lv_if_ge HX HB hdec ht (fun z => ?_) (fun z => ?_)
        · have hx' := x_ift_ge ha2 hb2 z hx
          exact (hx' y cc ml rt p e Rm s m args below meth c H locs ls cells slots MC MS ad ad0 n0 hmF ⟨HX, HB, hml, hrt, hown, hnm, hts, hlocks, hK, hXb, hbl, hbA, hA, hxs⟩ hd1 hd2 hc1 hc2 hMC hMS hw hS hfr hll (g_tl hst) hn0 had)
        · have hx' := x_iff_ge ha2 hb2 z hx
          exact (ih (pc + 3) lo st h d mc ms H locs ls cells slots ad hnx hx' hd1 hd2 hc1 hc2 hw hS hfr hll (g_tl hst) hn0 had)
      | gt =>
        refine lv_if_gt HX HB hdec ht (fun z => ?_) (fun z => ?_)
        · have hx' := x_ift_gt ha2 hb2 z hx
          exact (hx' y cc ml rt p e Rm s m args below meth c H locs ls cells slots MC MS ad ad0 n0 hmF ⟨HX, HB, hml, hrt, hown, hnm, hts, hlocks, hK, hXb, hbl, hbA, hA, hxs⟩ hd1 hd2 hc1 hc2 hMC hMS hw hS hfr hll (g_tl hst) hn0 had)
        · have hx' := x_iff_gt ha2 hb2 z hx
          exact (ih (pc + 3) lo st h d mc ms H locs ls cells slots ad hnx hx' hd1 hd2 hc1 hc2 hw hS hfr hll (g_tl hst) hn0 had)
      | le =>
        refine lv_if_le HX HB hdec ht (fun z => ?_) (fun z => ?_)
        · have hx' := x_ift_le ha2 hb2 z hx
          exact (hx' y cc ml rt p e Rm s m args below meth c H locs ls cells slots MC MS ad ad0 n0 hmF ⟨HX, HB, hml, hrt, hown, hnm, hts, hlocks, hK, hXb, hbl, hbA, hA, hxs⟩ hd1 hd2 hc1 hc2 hMC hMS hw hS hfr hll (g_tl hst) hn0 had)
        · have hx' := x_iff_le ha2 hb2 z hx
          exact (ih (pc + 3) lo st h d mc ms H locs ls cells slots ad hnx hx' hd1 hd2 hc1 hc2 hw hS hfr hll (g_tl hst) hn0 had)
    · exact absurd hj (by decide)
  · exact hx.elim

set_option maxHeartbeats 1000000 in
theorem sd_ifnull {n : Int} (hmF : mF mi = some (y, cc, ml, rt)) (hcx : cx G y cc ml rt p s m args meth c) (hMC : MC ≤ Rm.cells) (hMS : MS ≤ Rm.slots) (ih : Wk l G mi y cc ml rt p e Rm s m args below meth c MC MS ad0 n0 R is) : Wk l G mi y cc ml rt p e Rm s m args below meth c MC MS ad0 n0 R ((.ifnull n, lk) :: is) := by
  intro pc lo st h d mc ms H locs ls cells slots ad hok hx hd1 hd2 hc1 hc2 hw hS hfr hll hst hn0 had
  obtain ⟨HX, HB, hml, hrt, hown, hnm, hts, hlocks, hK, hXb, hbl, hbA, hA, hxs⟩ := hcx
  obtain ⟨j, len, hdec, hlen, hj, hnx⟩ := okL_cons (by intro z; cases z) hok
  simp only [xc] at hx
  split at hx
  · rename_i t r st
    simp only [okj] at hj
    split at hj
    · rename_i o t' hlk
      cases hlk
      obtain rfl : 3 = len := hlen
      have ht := of_decide_eq_true hj
      by_cases h0 : r = 0
      · subst h0
        rw [if_pos rfl] at hx
        refine lv_ifnullN HX HB hdec ht ?_
        have hx' := hx
        exact (hx' y cc ml rt p e Rm s m args below meth c H locs ls cells slots MC MS ad ad0 n0 hmF ⟨HX, HB, hml, hrt, hown, hnm, hts, hlocks, hK, hXb, hbl, hbA, hA, hxs⟩ hd1 hd2 hc1 hc2 hMC hMS hw hS hfr hll (g_tl hst) hn0 had)
      · rw [if_neg h0] at hx
        rw [List.map_cons, show cv ad (Sum.inr (Sum.inr r)) = .ref (ad r) from cv_ref h0]
        refine lv_ifnull HX HB hdec ?_
        exact (ih (pc + 3) lo st h d mc ms H locs ls cells slots ad hnx hx hd1 hd2 hc1 hc2 hw hS hfr hll (g_tl hst) hn0 had)
    · exact absurd hj (by decide)
  · exact hx.elim

set_option maxHeartbeats 1000000 in
theorem sd_ifnonnull {n : Int} (hmF : mF mi = some (y, cc, ml, rt)) (hcx : cx G y cc ml rt p s m args meth c) (hMC : MC ≤ Rm.cells) (hMS : MS ≤ Rm.slots) (ih : Wk l G mi y cc ml rt p e Rm s m args below meth c MC MS ad0 n0 R is) : Wk l G mi y cc ml rt p e Rm s m args below meth c MC MS ad0 n0 R ((.ifnonnull n, lk) :: is) := by
  intro pc lo st h d mc ms H locs ls cells slots ad hok hx hd1 hd2 hc1 hc2 hw hS hfr hll hst hn0 had
  obtain ⟨HX, HB, hml, hrt, hown, hnm, hts, hlocks, hK, hXb, hbl, hbA, hA, hxs⟩ := hcx
  obtain ⟨j, len, hdec, hlen, hj, hnx⟩ := okL_cons (by intro z; cases z) hok
  simp only [xc] at hx
  split at hx
  · rename_i t r st
    simp only [okj] at hj
    split at hj
    · rename_i o t' hlk
      cases hlk
      obtain rfl : 3 = len := hlen
      have ht := of_decide_eq_true hj
      by_cases h0 : r = 0
      · subst h0
        rw [if_pos rfl] at hx
        refine lv_ifnonnullN HX HB hdec ?_
        exact (ih (pc + 3) lo st h d mc ms H locs ls cells slots ad hnx hx hd1 hd2 hc1 hc2 hw hS hfr hll (g_tl hst) hn0 had)
      · rw [if_neg h0] at hx
        rw [List.map_cons, show cv ad (Sum.inr (Sum.inr r)) = .ref (ad r) from cv_ref h0]
        refine lv_ifnonnull HX HB hdec ht ?_
        have hx' := hx
        exact (hx' y cc ml rt p e Rm s m args below meth c H locs ls cells slots MC MS ad ad0 n0 hmF ⟨HX, HB, hml, hrt, hown, hnm, hts, hlocks, hK, hXb, hbl, hbA, hA, hxs⟩ hd1 hd2 hc1 hc2 hMC hMS hw hS hfr hll (g_tl hst) hn0 had)
    · exact absurd hj (by decide)
  · exact hx.elim

end SND

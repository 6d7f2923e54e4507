/-! ===== helpers of the soundness proof ===== -/
def x_next (y : MethodName) (rt : Option FieldType) (cc : ByteArray) (pc len : Nat) (j : Instr) (is : List AI) : Prop := match j with
  | .goto o => 0 ≤ (pc : Int) + o ∧ okL y rt cc ((pc : Int) + o).toNat is = true
  | _ => okL y rt cc (pc + len) is = true
theorem okL_cons {y : MethodName} {rt : Option FieldType} {cc : ByteArray} {pc : Nat} {i : Instr} {lk : List Nat} {is : List AI} (hn : i ≠ .nop) (h : okL y rt cc pc ((i, lk) :: is) = true) : ∃ j len, decode cc pc = .ok (j, len) ∧ x_len j len = len ∧ okj y rt pc j i lk = true ∧ x_next y rt cc pc len j is := by
  unfold okL at h
  split at h
  · rename_i e; exact absurd rfl hn
  · split at h
    · rename_i j len e
      simp only [Bool.and_eq_true, decide_eq_true_eq] at h
      refine ⟨j, len, e, h.1, h.2.1, ?_⟩
      have h3 := h.2.2
      unfold x_next
      split at h3
      · simp only [Bool.and_eq_true, decide_eq_true_eq] at h3; exact h3
      · rename_i hng
        split
        · exact absurd rfl (hng _)
        · exact h3
    · exact absurd h (by decide)
theorem g_hd {n : Nat} {v : AV} {st : List AV} (h : ∀ w ∈ v :: st, gV n w) : gV n v := h v List.mem_cons_self
theorem g_tl {n : Nat} {v : AV} {st : List AV} (h : ∀ w ∈ v :: st, gV n w) : ∀ w ∈ st, gV n w := fun w hw => h w (List.mem_cons_of_mem _ hw)
theorem g_cs {n : Nat} {v : AV} {st : List AV} (hv : gV n v) (h : ∀ w ∈ st, gV n w) : ∀ w ∈ v :: st, gV n w := fun w hw => by
  rcases List.mem_cons.mp hw with rfl | hw
  · exact hv
  · exact h w hw
section WW
variable {p : Program} {l : Launch} {e : Env} {R : Room} {s : State} {m : MethodId} {args : Array Value} {below : List Frame} {meth : Method} {c : Code} {H : Heap} {locs : List Loc} {cells slots : Nat} {Q : State → Prop} {pc : Nat} {ls : Array Slot} {st : List AV} {ad : Nat → Nat}
theorem W_i {a : Int32} {b : Int} (he : Int32.ofInt b = a) (k : W p l e R s m args below meth c H locs cells slots Q (F0 m pc ls ((xI b :: st).map (cv ad)))) : W p l e R s m args below meth c H locs cells slots Q (F0 m pc ls (.int a :: st.map (cv ad))) := by subst he; exact k
theorem W_l {a : Int64} {b : Int} (he : Int64.ofInt b = a) (k : W p l e R s m args below meth c H locs cells slots Q (F0 m pc ls ((xL b :: st).map (cv ad)))) : W p l e R s m args below meth c H locs cells slots Q (F0 m pc ls (.long a :: st.map (cv ad))) := by subst he; exact k
theorem W_r {a : Value} {r : Nat} (he : cv ad (xR r) = a) (k : W p l e R s m args below meth c H locs cells slots Q (F0 m pc ls ((xR r :: st).map (cv ad)))) : W p l e R s m args below meth c H locs cells slots Q (F0 m pc ls (a :: st.map (cv ad))) := by subst he; exact k
end WW
theorem cv_ref {ad : Nat → Nat} {r : Nat} (h : r ≠ 0) : cv ad (xR r) = .ref (ad r) := by
  show va_rf (rOf ad (r : Int)) = _
  unfold rOf
  rw [if_neg (by omega)]; simp [va_rf]
theorem cv_null {ad : Nat → Nat} : cv ad (xR 0) = .null := rfl
theorem cv_cat (ad : Nat → Nat) (v : AV) : (cv ad v).category = x_sw [v] := by
  rcases v with v | v | v
  · rfl
  · rfl
  · show (va_rf (rOf ad (v : Int))).category = 1
    unfold rOf
    split <;> rfl
theorem x_sw_cons (v : AV) (st : List AV) : x_sw (v :: st) = x_sw [v] + x_sw st := by
  rcases v with v | v | v <;> simp [x_sw] <;> omega
theorem sw_cat (ad : Nat → Nat) : ∀ st : List AV, ((st.map (cv ad)).map fun v => v.category).sum = x_sw st
  | [] => rfl
  | v :: st => by
    rw [List.map_cons, List.map_cons, List.sum_cons, sw_cat ad st, cv_cat, x_sw_cons v st]
/-! locals -/
theorem x_lg_lt : ∀ (lo : Lo) (i : Nat) (v : AV), x_lg lo i = some v → i < lo.length
  | [], _, _, h => by simp [x_lg] at h
  | _ :: _, 0, _, _ => by simp
  | _ :: t, n + 1, v, h => by
    have := x_lg_lt t n v h
    simp; omega
theorem x_d2_some {o : Option AV} {v : AV} (h : x_d2 o = some v) : o = some v ∧ x_sw [v] = 1 := by
  rcases o with _ | v' | v' | v'
  · simp [x_d2] at h
  · simp [x_d2] at h; subst h; exact ⟨rfl, rfl⟩
  · simp [x_d2] at h
  · simp [x_d2] at h; subst h; exact ⟨rfl, rfl⟩
theorem x_s1_len : ∀ (lo : Lo) (i : Nat) (v : AV), (x_s1 lo i v).length = lo.length
  | [], _, _ => rfl
  | _ :: _, 0, _ => rfl
  | x :: t, n + 1, v => by simp [x_s1, x_s1_len t n v]
theorem x_s1_lg : ∀ (lo : Lo) (i : Nat) (v : AV) (j : Nat) (w : AV), x_lg (x_s1 lo i v) j = some w → (j = i ∧ w = v) ∨ (j ≠ i ∧ x_lg lo j = some w ∧ ¬ (j + 1 = i ∧ x_sw [w] = 2))
  | [], _, _, _, _, h => by simp [x_s1, x_lg] at h
  | x :: t, 0, v, j, w, h => by
    rcases j with _ | j
    · simp [x_s1, x_lg] at h; exact Or.inl ⟨rfl, h.symm⟩
    · exact Or.inr ⟨by omega, by simpa [x_s1, x_lg] using h, by omega⟩
  | x :: t, n + 1, v, j, w, h => by
    rcases j with _ | j
    · simp only [x_s1, x_lg] at h
      refine Or.inr ⟨by omega, ?_, ?_⟩
      · rcases n with _ | n
        · exact (x_d2_some h).1
        · exact h
      · rcases n with _ | n
        · have := (x_d2_some h).2; omega
        · omega
    · simp only [x_s1, x_lg] at h
      rcases x_s1_lg t n v j w h with ⟨e1, e2⟩ | ⟨e1, e2, e3⟩
      · exact Or.inl ⟨by omega, e2⟩
      · exact Or.inr ⟨by omega, e2, by omega⟩
theorem x_s2_len : ∀ (lo : Lo) (i : Nat) (v : AV), (x_s2 lo i v).length = lo.length
  | [], _, _ => rfl
  | [_], 0, _ => rfl
  | _ :: _ :: _, 0, _ => rfl
  | x :: t, n + 1, v => by simp [x_s2, x_s2_len t n v]
theorem x_s2_lg : ∀ (lo : Lo) (i : Nat) (v : AV) (j : Nat) (w : AV), x_lg (x_s2 lo i v) j = some w → (j = i ∧ w = v) ∨ (j ≠ i ∧ j ≠ i + 1 ∧ x_lg lo j = some w ∧ ¬ (j + 1 = i ∧ x_sw [w] = 2))
  | [], _, _, _, _, h => by simp [x_s2, x_lg] at h
  | [x], 0, v, j, w, h => by
    rcases j with _ | j
    · simp [x_s2, x_lg] at h; exact Or.inl ⟨rfl, h.symm⟩
    · simp [x_s2, x_lg] at h
  | x :: x' :: t, 0, v, j, w, h => by
    rcases j with _ | _ | j
    · simp [x_s2, x_lg] at h; exact Or.inl ⟨rfl, h.symm⟩
    · simp [x_s2, x_lg] at h
    · exact Or.inr ⟨by omega, by omega, by simpa [x_s2, x_lg] using h, by omega⟩
  | x :: t, n + 1, v, j, w, h => by
    rcases j with _ | j
    · simp only [x_s2, x_lg] at h
      refine Or.inr ⟨by omega, by omega, ?_, ?_⟩
      · rcases n with _ | n
        · exact (x_d2_some h).1
        · exact h
      · rcases n with _ | n
        · have := (x_d2_some h).2; omega
        · omega
    · simp only [x_s2, x_lg] at h
      rcases x_s2_lg t n v j w h with ⟨e1, e2⟩ | ⟨e1, e2, e3, e4⟩
      · exact Or.inl ⟨by omega, e2⟩
      · exact Or.inr ⟨by omega, by omega, e3, by omega⟩
/-- the kit's list of what the locals hold -/
def lvL (ad : Nat → Nat) (lo : Lo) : List (Nat × Value) := (List.range lo.length).filterMap (fun i => (x_lg lo i).map (fun v => (i, cv ad v)))
theorem lvL_mem {ad : Nat → Nat} {lo : Lo} {i : Nat} {v : AV} (h : x_lg lo i = some v) : (i, cv ad v) ∈ lvL ad lo := by
  refine List.mem_filterMap.mpr ⟨i, List.mem_range.mpr (x_lg_lt lo i v h), ?_⟩
  rw [h]; rfl
theorem fr_has {ad : Nat → Nat} {n : Nat} {lo : Lo} {ls : Array Slot} (h : fr ad n lo ls) : lv_has ls lo.length (lvL ad lo) := by
  refine ⟨h.1, h.2.1, fun q hq => ?_⟩
  obtain ⟨i, -, hi⟩ := List.mem_filterMap.mp hq
  cases hv : x_lg lo i with
  | none => rw [hv] at hi; cases hi
  | some v =>
    rw [hv] at hi
    cases hi
    exact (h.2.2 i v hv).1
theorem fr_s1 {ad : Nat → Nat} {n : Nat} {lo : Lo} {ls ls' : Array Slot} {i : Nat} {v : AV} (h : fr ad n lo ls) (hv : gV n v) (hl : lv_has ls' lo.length ((i, cv ad v) :: (lvL ad lo).filter (fun q => !(q.1 == i) && !(q.1 + 1 == i && q.2.category == 2)))) : fr ad n (x_s1 lo i v) ls' := by
  refine ⟨by rw [x_s1_len]; exact hl.1, hl.2.1, fun j w hw => ?_⟩
  rcases x_s1_lg lo i v j w hw with ⟨rfl, rfl⟩ | ⟨e1, e2, e3⟩
  · exact ⟨hl.2.2 _ List.mem_cons_self, hv⟩
  · refine ⟨hl.2.2 (j, cv ad w) (List.mem_cons_of_mem _ (List.mem_filter.mpr ⟨lvL_mem e2, ?_⟩)), (h.2.2 j w e2).2⟩
    simp only [Bool.and_eq_true, Bool.not_eq_true', beq_eq_false_iff_ne, ne_eq, Bool.and_eq_false_iff]
    refine ⟨e1, ?_⟩
    rw [cv_cat]
    by_cases q : j + 1 = i
    · exact Or.inr (fun z => e3 ⟨q, z⟩)
    · exact Or.inl q
theorem fr_s2 {ad : Nat → Nat} {n : Nat} {lo : Lo} {ls ls' : Array Slot} {i : Nat} {v : AV} (h : fr ad n lo ls) (hv : gV n v) (hl : lv_has ls' lo.length ((i, cv ad v) :: (lvL ad lo).filter (fun q => !(q.1 == i) && (!(q.1 == i + 1) && !(q.1 + 1 == i && q.2.category == 2))))) : fr ad n (x_s2 lo i v) ls' := by
  refine ⟨by rw [x_s2_len]; exact hl.1, hl.2.1, fun j w hw => ?_⟩
  rcases x_s2_lg lo i v j w hw with ⟨rfl, rfl⟩ | ⟨e1, e0, e2, e3⟩
  · exact ⟨hl.2.2 _ List.mem_cons_self, hv⟩
  · refine ⟨hl.2.2 (j, cv ad w) (List.mem_cons_of_mem _ (List.mem_filter.mpr ⟨lvL_mem e2, ?_⟩)), (h.2.2 j w e2).2⟩
    simp only [Bool.and_eq_true, Bool.not_eq_true', beq_eq_false_iff_ne, ne_eq, Bool.and_eq_false_iff]
    refine ⟨e1, e0, ?_⟩
    rw [cv_cat]
    by_cases q : j + 1 = i
    · exact Or.inr (fun z => e3 ⟨q, z⟩)
    · exact Or.inl q
theorem fr_ad {ad ad' : Nat → Nat} {n n' : Nat} {lo : Lo} {ls : Array Slot} (h : fr ad n lo ls) (hn : n ≤ n') (ha : ∀ r, r < n → ad' r = ad r) : fr ad' n' lo ls := by
  refine ⟨h.1, h.2.1, fun i v hv => ?_⟩
  obtain ⟨h1, h2⟩ := h.2.2 i v hv
  exact ⟨by rw [h1, cv_ad ha h2], gV_mono hn h2⟩
theorem st_ad {ad ad' : Nat → Nat} {n : Nat} {st : List AV} (h : ∀ v ∈ st, gV n v) (ha : ∀ r, r < n → ad' r = ad r) : st.map (cv ad') = st.map (cv ad) := List.map_congr_left (fun v hv => cv_ad ha (h v hv))

/-! ===== soundness, calls (by program wip/whole/gensnd4.py) ===== -/
theorem xs_move {G : GX} {s U : State} {H : Heap} {locs : List Loc} (h : xsF G s s.heap) (hS : va_S (gxA G) s.heap H locs) (hU : U.heap = H) (hW : s.WarmedH U.vm) : xsF G U U.heap := by
  obtain ⟨a1, a2, a3, a4, a5, a6⟩ := h
  subst hU
  exact ⟨a1.warm hW, (a2.moved hW.alike).kept hS.2.1, (a3.moved hW.alike).kept hS.2.1, (a4.moved hW.alike).kept hS.2.1, a5.moved hW.alike, fun own idx z host hm => (a6 own idx z host hm).warmM hW⟩
def PcU (G : GX) (ad : Nat → Nat) (h : Hp) : State → Prop := fun U => wd G ad h U.heap ∧ va_K (gxD G) vwCl (tysL G) U ∧ va_X (gxb G) (gxL G) (gxX G) U U.heap ∧ gxb G < U.heap.size ∧ ¬ gxA G (gxb G) ∧ (∀ q, U.heap.size ≤ q → gxA G q) ∧ xsF G U U.heap
theorem PcU_blind {G : GX} {ad : Nat → Nat} {h : Hp} {as : List Value} : FrameBlind (va_Pc as (PcU G ad h)) := by
  intro a U g mk hq
  obtain ⟨e, b1, b2, b3, b4, b5, b6, a1, a2, a3, a4, a5, a6⟩ := hq
  have hal : U.vm.Alike (U.calling g mk a).vm := Vm.Alike.refl U.vm
  exact ⟨e, b1, b2.moved hal, b3.moved hal, b4, b5, b6, vk_R.same (u := U) rfl a1, a2.moved hal, a3.moved hal, a4.moved hal, a5.moved hal, fun own idx z host hm => va_Nw.same rfl (u := U) rfl (a6 own idx z host hm)⟩
theorem PcU_of {G : GX} {y : MethodName} {cc : ByteArray} {ml : Nat} {rt : Option FieldType} {p : Program} {s U : State} {m : MethodId} {args : Array Value} {meth : Method} {c : Code} {H : Heap} {locs : List Loc} {ad : Nat → Nat} {h : Hp} (hcx : cx G y cc ml rt p s m args meth c) (hw : wd G ad h H) (hS : va_S (gxA G) s.heap H locs) (hU : U.heap = H) (hW : s.WarmedH U.vm) : PcU G ad h U := by
  obtain ⟨HX, HB, hml, hrt, hown, hnm, hts, hlocks, hK, hXb, hbl, hbA, hA, hxs⟩ := hcx
  refine ⟨by rw [hU]; exact hw, hK.moved hW.alike, ?_, ?_, hbA, ?_, xs_move hxs hS hU hW⟩
  · rw [hU]; exact (hXb.moved hW.alike).kept (hS.2.1 _ hbl hbA)
  · rw [hU]; exact Nat.lt_of_lt_of_le hbl hS.1
  · rw [hU]; exact fun q hq => hA q (Nat.le_trans hS.1 hq)
theorem x_pad_len : ∀ n, (x_pad n).length = n
  | 0 => rfl
  | n + 1 => by simp [x_pad, x_pad_len n]
theorem x_pad_lg : ∀ (n i : Nat), x_lg (x_pad n) i = none
  | 0, _ => rfl
  | _ + 1, 0 => rfl
  | n + 1, i + 1 => x_pad_lg n i
theorem el_len : ∀ (as : List AV) (n : Nat), x_sw as ≤ n → (x_el as n).length = n
  | [], n, _ => by unfold x_el; exact x_pad_len n
  | .inl v :: as, n, h => by
    rcases n with _ | n
    · simp [x_sw] at h
    · simp only [x_el, List.length_cons]; rw [el_len as n (by simp only [x_sw] at h; omega)]
  | .inr (.inr v) :: as, n, h => by
    rcases n with _ | n
    · simp [x_sw] at h
    · simp only [x_el, List.length_cons]; rw [el_len as n (by simp only [x_sw] at h; omega)]
  | .inr (.inl v) :: as, n, h => by
    rcases n with _ | _ | n
    · simp [x_sw] at h
    · simp only [x_sw] at h; omega
    · simp only [x_el, List.length_cons]; rw [el_len as n (by simp only [x_sw] at h; omega)]
theorem el_lg (ad : Nat → Nat) : ∀ (as : List AV) (n : Nat), x_sw as ≤ n → ∀ (i j : Nat) (v : AV), x_lg (x_el as n) i = some v → (j + i, cv ad v) ∈ lv_args j (as.map (cv ad)) ∧ v ∈ as
  | [], n, _, i, j, v, h => by unfold x_el at h; rw [x_pad_lg] at h; cases h
  | .inl w :: as, n, hs, i, j, v, h => by
    rcases n with _ | n
    · simp [x_sw] at hs
    · have hc : ¬ (cv ad (.inl w)).category = 2 := by rw [cv_cat]; simp [x_sw]
      rw [List.map_cons, lv_args, if_neg hc]
      rcases i with _ | i
      · simp only [x_el, x_lg, Option.some.injEq] at h
        subst h; simp
      · simp only [x_el, x_lg] at h
        obtain ⟨h1, h2⟩ := el_lg ad as n (by simp only [x_sw] at hs; omega) i (j + 1) v h
        exact ⟨List.mem_cons_of_mem _ (by rw [show j + (i + 1) = j + 1 + i by omega]; exact h1), List.mem_cons_of_mem _ h2⟩
  | .inr (.inr w) :: as, n, hs, i, j, v, h => by
    rcases n with _ | n
    · simp [x_sw] at hs
    · have hc : ¬ (cv ad (.inr (.inr w))).category = 2 := by rw [cv_cat]; simp [x_sw]
      rw [List.map_cons, lv_args, if_neg hc]
      rcases i with _ | i
      · simp only [x_el, x_lg, Option.some.injEq] at h
        subst h; simp
      · simp only [x_el, x_lg] at h
        obtain ⟨h1, h2⟩ := el_lg ad as n (by simp only [x_sw] at hs; omega) i (j + 1) v h
        exact ⟨List.mem_cons_of_mem _ (by rw [show j + (i + 1) = j + 1 + i by omega]; exact h1), List.mem_cons_of_mem _ h2⟩
  | .inr (.inl w) :: as, n, hs, i, j, v, h => by
    rcases n with _ | _ | n
    · simp [x_sw] at hs
    · simp only [x_sw] at hs; omega
    · have hc : (cv ad (.inr (.inl w))).category = 2 := by rw [cv_cat]; rfl
      rw [List.map_cons, lv_args, if_pos hc]
      rcases i with _ | _ | i
      · simp only [x_el, x_lg, Option.some.injEq] at h
        subst h; simp
      · simp only [x_el, x_lg] at h; cases h
      · simp only [x_el, x_lg] at h
        obtain ⟨h1, h2⟩ := el_lg ad as n (by simp only [x_sw] at hs; omega) i (j + 2) v h
        exact ⟨List.mem_cons_of_mem _ (by rw [show j + (i + 1 + 1) = j + 2 + i by omega]; exact h1), List.mem_cons_of_mem _ h2⟩
theorem sl_len (ad : Nat → Nat) : ∀ as : List AV, (lg_sl (as.map (cv ad))).length = x_sw as
  | [] => rfl
  | v :: as => by
    have ih := sl_len ad as
    rw [x_sw_cons, List.map_cons]
    have e : lg_sl (cv ad v :: as.map (cv ad)) = (if (cv ad v).category = 2 then [Slot.val (cv ad v), .second] else [.val (cv ad v)]) ++ lg_sl (as.map (cv ad)) := by simp [lg_sl]
    rw [e, List.length_append, ih]
    congr 1
    rw [cv_cat]
    rcases v with v | v | v <;> rfl
theorem lwg_good {y : MethodName} {cc : ByteArray} {ml : Nat} {rt : Option FieldType} (h : Cond.code y cc ml rt ∈ lwg) : GoodIn lwg (Cond.code y cc ml rt :: lwg) := fun w hw => by
  rcases List.mem_cons.mp hw with rfl | hw
  · exact ⟨h, good_of_word (lwg_in h).2⟩
  · exact ⟨hw, good_of_word (lwg_in hw).2⟩
theorem mE_ok {mj : Nat} {y : MethodName} {cc : ByteArray} {ml : Nat} {rt : Option FieldType} (h : mE mj = some (y, cc, ml, rt)) : Cond.code y cc ml rt ∈ lwg ∧ plainName y.cls = true ∧ ml ≤ 20 ∧ y.cls ≠ "java/lang/invoke/MethodHandle" ∧ y.cls ≠ "java/lang/invoke/VarHandle" := by
  unfold mE at h
  split at h
  · rename_i q hq
    have h2 := List.all_eq_true.mp mpl_ok q (List.mem_of_getElem? hq)
    unfold okM at h2
    rw [h] at h2
    simp only [Bool.and_eq_true, decide_eq_true_eq] at h2
    unfold codeAt at h
    split at h
    · rename_i y' c' m' r' hc
      cases h
      exact ⟨lwg_mem (List.mem_of_getElem? hc) h2.1, h2.2.1, Nat.le_of_ble_eq_true h2.2.2.1, h2.2.2.2.1, h2.2.2.2.2⟩
    · cases h
  · cases h
/-- a method's contract -/
theorem met_of {l : Launch} {G : GX} {mj : Nat} {y : MethodName} {cc : ByteArray} {ml : Nat} {rt : Option FieldType} (hE : mE mj = some (y, cc, ml, rt)) (hm : mj ≠ 1000) {as : List AV} {h : Hp} {d mc ms : Nat} {Q : PR} {ad : Nat → Nat} (hsw : x_sw as ≤ ml) (hg : ∀ v ∈ as, gV h.1 v) (hP : P0 l G mj 0 (x_el as ml) [] h d mc ms Q) :
    Met l y (Cond.code y cc ml rt :: lwg) { frames := d, cells := mc, slots := ms, locals := 40 * d } (va_Pc (as.map (cv ad)) (PcU G ad h)) (QR G rt Q ad h.1) mc ms (gxA G) := by
  obtain ⟨e1, e2, e3, e4⟩ := mE_ok hE
  refine Met.ofW (cc := cc) (maxL := ml) (ret := rt) e2 rfl ?_
  intro p e s m args below meth c s₁ B hml hv
  obtain ⟨rfl, hw, hK, hXb, hbl, hbA, hA, hxs⟩ := hv
  have hts := atoms_spec (ws := Cond.code y cc ml rt :: lwg) B.pre
  have hl := lv_entry (as.map (cv ad)) (n := ml) (by rw [sl_len]; exact hsw)
  rw [lg_entry_eq]
  generalize (lg_sl (as.map (cv ad)) ++ List.replicate (ml - (lg_sl (as.map (cv ad))).length) Slot.unset).toArray = ls at hl ⊢
  refine hP y cc ml rt p e _ s m _ below meth c s.heap [] ls 0 0 mc ms ad ad h.1 (by unfold mF; rw [if_neg hm]; exact hE) ⟨B.exec, B.bytes, hml, B.returns, findClass_of_methodNamed B.named, fun hn => (name_of_methodNamed B.named B.method).1.trans hn, fun w h1 h2 => hts w (List.mem_cons_of_mem _ (lwg_mem h1 h2)), B.notSynchronized, hK, hXb, hbl, hbA, hA, hxs⟩ (Nat.le_refl _) (Nat.le_refl _) (Nat.zero_add _) (Nat.zero_add _) (Nat.le_refl _) (Nat.le_refl _) hw va_S.rf ?_ (el_len as ml hsw) (fun v hv => by cases hv) (Nat.le_refl _) (fun r _ => rfl)
  refine ⟨by rw [el_len as ml hsw]; exact hl.1, hl.2.1, fun i v hv => ?_⟩
  obtain ⟨h1, h2⟩ := el_lg ad as ml hsw i 0 v hv
  rw [Nat.zero_add] at h1
  exact ⟨hl.2.2 _ h1, hg v h2⟩
theorem run_go {p : Program} {l : Launch} {e : Env} {R : Room} {s : State} {m : MethodId} {args : Array Value} {below : List Frame} {meth : Method} {c : Code} {H : Heap} {locs : List Loc} {cells slots mc ms pc : Nat} {Q' : State → Prop} {ls : Array Slot} {st0 rest : List Value} {G : GX} {rt : Option FieldType} {Q : PR} {ad : Nat → Nat} {n : Nat} {a : Array Value}
    (hr : va_Run p l e R s m args below meth c H locs cells slots mc ms (F0 m pc ls st0) rest (QR G rt Q ad n a) (gxA G)) (hS : va_S (gxA G) s.heap H locs)
    (kk : ∀ (rv : Option AV) (h' : Hp) (ad' : Nat → Nat) (H1 : Heap) (locs1 : List Loc), Q rv h' → rvOk rt rv → (∀ v, rv = some v → gV h'.1 v) → n ≤ h'.1 → (∀ r, r < n → ad' r = ad r) → wd G ad' h' H1 → va_S (gxA G) s.heap H1 locs1 → W p l e R s m args below meth c H1 locs1 (cells + mc) (slots + ms) Q' (F0 m (pc + 3) ls ((rv.map (cv ad')).toList ++ rest))) :
    W p l e R s m args below meth c H locs cells slots Q' (F0 m pc ls st0) := by
  intro T hT X
  obtain ⟨v, st₀, t, T', L, h0, X', hL, e1, e2, ⟨⟨rv, h', ad', q1, q2, q3, q4, q5, q6, q7, q8⟩, hz, hk⟩, st⟩ := hr T hT X
  cases q6
  rw [h0] at hz hk
  obtain ⟨t2, a1, b1⟩ := kk rv h' ad' T'.heap (locs ++ L) q1 q2 q3 q4 q5 (by rw [e1]; exact q7)
    ⟨Nat.le_trans hS.1 (by rw [e1]; exact hz), fun q h1 h2 => by rw [e1, hk q (Nat.lt_of_lt_of_le h1 hS.1) h2]; exact hS.2.1 q h1 h2, fun q hq => by
      rcases List.mem_append.mp hq with h | h
      · exact hS.2.2 q h
      · exact hL q h⟩ T' rfl X'
  exact ⟨t2, st t2 a1, b1⟩
theorem pop_ok : ∀ (n : Nat) (acc st as st' : List AV), x_pop n acc st = some (as, st') → ∃ bs, as = bs ++ acc ∧ st = bs.reverse ++ st' ∧ bs.length = n
  | 0, acc, st, as, st', h => by
    simp only [x_pop, Option.some.injEq, Prod.mk.injEq] at h
    exact ⟨[], h.1.symm, h.2, rfl⟩
  | n + 1, acc, [], as, st', h => by simp [x_pop] at h
  | n + 1, acc, v :: st, as, st', h => by
    simp only [x_pop] at h
    obtain ⟨bs, h1, h2, h3⟩ := pop_ok n (v :: acc) st as st' h
    exact ⟨bs ++ [v], by rw [h1]; simp, by rw [h2]; simp, by simp [h3]⟩
theorem okCall_ok {mj na ml rk : Nat} {f : MethodName → Option FieldType → Bool} (h : okCall mj na ml rk f = true) : ∃ y cc rt, mE mj = some (y, cc, ml, rt) ∧ rkOf rt = rk ∧ (parseMethodDescriptor y.desc).map (fun d => d.parameters.length) = some na ∧ f y rt = true := by
  unfold okCall at h
  split at h
  · rename_i y cc m r hE
    simp only [Bool.and_eq_true, decide_eq_true_eq] at h
    obtain ⟨rfl, h2, h3, h4⟩ := h
    exact ⟨y, cc, r, hE, h2, h3, h4⟩
  · exact absurd h (by decide)
theorem mE_not {mj : Nat} {q : MEnt} (h : mE mj = some q) : mj ≠ 1000 := by
  intro e
  subst e
  have : mpl[1000]? = none := by decide +kernel
  unfold mE at h
  rw [this] at h
  cases h
theorem mem_pop {n : Nat} {st as st' : List AV} {q : Nat} (h : x_pop n [] st = some (as, st')) (hst : ∀ v ∈ st, gV q v) : (∀ v ∈ as, gV q v) ∧ (∀ v ∈ st', gV q v) ∧ as.length = n ∧ st = as.reverse ++ st' := by
  obtain ⟨bs, h1, h2, h3⟩ := pop_ok n [] st as st' h
  rw [List.append_nil] at h1
  subst h1
  refine ⟨fun v hv => hst v (by rw [h2]; simp [hv]), fun v hv => hst v (by rw [h2]; simp [hv]), h3, h2⟩
section SND4
variable {l : Launch} {G : GX} {mi : Nat} {y : MethodName} {cc : ByteArray} {ml : Nat} {rt : Option FieldType} {p : Program} {e : Env} {Rm : Room} {s : State} {m : MethodId} {args : Array Value} {below : List Frame} {meth : Method} {c : Code} {MC MS : Nat} {ad0 : Nat → Nat} {n0 : Nat} {R : PR} {is : List AI} {lk : List Nat}
set_option maxHeartbeats 1000000 in
theorem sd_static {k : Nat} (hmF : mF mi = some (y, cc, ml, rt)) (hcx : cx G y cc ml rt p s m args meth c) (hMC : MC ≤ Rm.cells) (hMS : MS ≤ Rm.slots) (ih : Wk l G mi y cc ml rt p e Rm s m args below meth c MC MS ad0 n0 R is) : Wk l G mi y cc ml rt p e Rm s m args below meth c MC MS ad0 n0 R ((.invokestatic k, lk) :: is) := by
  intro pc lo st h d mc ms H locs ls cells slots ad hok hx hd1 hd2 hc1 hc2 hw hS hfr hll hst hn0 had
  obtain ⟨HX, HB, hml, hrt, hown, hnm, hts, hlocks, hK, hXb, hbl, hbA, hA, hxs⟩ := hcx
  obtain ⟨j, len, hdec, hlen, hj, hnx⟩ := okL_cons (by intro z; cases z) hok
  simp only [okj] at hj
  split at hj
  · rename_i idx mj na ml' mc' ms' rk p1 p2 p3
    obtain rfl : 3 = len := hlen
    obtain ⟨z, cz, rz, hE, hrk, hpar, hf⟩ := okCall_ok hj
    obtain ⟨c1, c2, c3, c4⟩ := mE_ok hE
    simp only [Bool.and_eq_true, decide_eq_true_eq] at hf
    obtain ⟨hl, hs', hi'⟩ := hf
    obtain ⟨s1', s2'⟩ := wAt_ok hs'
    obtain ⟨i1, i2⟩ := wAt_ok hi'
    obtain ⟨l1, l2⟩ := wAt_ok hl
    simp only [xc] at hx
    split at hx
    · rename_i as st hpop
      split at hx
      · rename_i bw
        simp only [Bool.and_eq_true] at bw
        have bw1 := Nat.le_of_ble_eq_true bw.1
        have bw2 := Nat.le_of_ble_eq_true bw.2
        obtain ⟨⟨d1, hbc, hbs⟩, Q, hx2, hx3⟩ := hx
        obtain ⟨g1, hst1, hal, hsteq⟩ := mem_pop hpop hst
        have hst2 := hst1
        have hM := met_of (ad := ad) hE (mE_not hE) bw2 g1 hx2
        rw [hsteq, List.map_append, List.map_reverse]
        refine run_go (va_runS (As := as.map (cv ad)) ⟨HX, HB, hml, hown, fun w hw' => hts w (lwg_in hw').1 (lwg_in hw').2⟩ hM ⟨callB_of na (fun w hw' => hts w (lwg_in hw').1 (lwg_in hw').2) (lwg_good c1) rfl rfl rfl (hts _ i1 i2) (hts _ l1 l2) ⟨c4.1, c4.2, hpar⟩ ⟨by show d - 1 + 1 ≤ Rm.frames; omega, by show 8 + (ml' + 11) + 40 * (d - 1) ≤ Rm.locals; omega⟩, hts _ s1' s2'⟩ ⟨PcU_blind, fun U hU hW => ⟨rfl, PcU_of ⟨HX, HB, hml, hrt, hown, hnm, hts, hlocks, hK, hXb, hbl, hbA, hA, hxs⟩ hw hS hU hW⟩⟩ rfl (by simp [hal]) (hfr.1.trans hll) rfl (lv_room (by rw [sw_cat]; exact bw1)) hdec ⟨by omega, by omega⟩) hS (fun rv h' ad' H1 locs1 q1 q2 q3 q4 q5 w1 s1 => ?_)
        rw [← st_ad hst2 q5]
        split at hx3
        · rcases rv with _ | v' | v' | v'
          · exact (ih (pc + 3) lo st h' d _ _ H1 locs1 ls (cells + mc') (slots + ms') ad' hnx (hx3 _ q1) hd1 hd2 (by omega) (by omega) w1 s1 (fr_ad hfr q4 q5) hll (fun v hv => gV_mono q4 (hst2 v hv)) (Nat.le_trans hn0 q4) (fun r hr => (q5 r (Nat.lt_of_lt_of_le hr hn0)).trans (had r hr)))
          · exact absurd (q2.symm.trans hrk) (by decide)
          · exact absurd (q2.symm.trans hrk) (by decide)
          · exact absurd (q2.symm.trans hrk) (by decide)
        · rcases rv with _ | v' | v' | v'
          · exact absurd (q2.symm.trans hrk) (by decide)
          · exact (ih (pc + 3) lo (.inl v' :: st) h' d _ _ H1 locs1 ls (cells + mc') (slots + ms') ad' hnx (hx3 _ _ q1) hd1 hd2 (by omega) (by omega) w1 s1 (fr_ad hfr q4 q5) hll (g_cs (q3 _ rfl) (fun v hv => gV_mono q4 (hst2 v hv))) (Nat.le_trans hn0 q4) (fun r hr => (q5 r (Nat.lt_of_lt_of_le hr hn0)).trans (had r hr)))
          · exact absurd (q2.symm.trans hrk) (by decide)
          · exact absurd (q2.symm.trans hrk) (by decide)
        · rcases rv with _ | v' | v' | v'
          · exact absurd (q2.symm.trans hrk) (by decide)
          · exact absurd (q2.symm.trans hrk) (by decide)
          · exact (ih (pc + 3) lo (.inr (.inl v') :: st) h' d _ _ H1 locs1 ls (cells + mc') (slots + ms') ad' hnx (hx3 _ _ q1) hd1 hd2 (by omega) (by omega) w1 s1 (fr_ad hfr q4 q5) hll (g_cs (q3 _ rfl) (fun v hv => gV_mono q4 (hst2 v hv))) (Nat.le_trans hn0 q4) (fun r hr => (q5 r (Nat.lt_of_lt_of_le hr hn0)).trans (had r hr)))
          · exact absurd (q2.symm.trans hrk) (by decide)
        · rename_i n0' n1' n2'
          rcases rv with _ | v' | v' | v'
          · exact absurd (hrk.symm.trans q2) n0'
          · exact absurd (hrk.symm.trans q2) n1'
          · exact absurd (hrk.symm.trans q2) n2'
          · exact (ih (pc + 3) lo (.inr (.inr v') :: st) h' d _ _ H1 locs1 ls (cells + mc') (slots + ms') ad' hnx (hx3 _ _ q1) hd1 hd2 (by omega) (by omega) w1 s1 (fr_ad hfr q4 q5) hll (g_cs (q3 _ rfl) (fun v hv => gV_mono q4 (hst2 v hv))) (Nat.le_trans hn0 q4) (fun r hr => (q5 r (Nat.lt_of_lt_of_le hr hn0)).trans (had r hr)))
      · exact hx.elim
    · exact hx.elim
  · rename_i idx mj na ml' mc' ms' rk p1 p2 p3 p5
    obtain rfl : 3 = len := hlen
    obtain ⟨z, cz, rz, hE, hrk, hpar, hf⟩ := okCall_ok hj
    obtain ⟨c1, c2, c3, c4⟩ := mE_ok hE
    simp only [Bool.and_eq_true, decide_eq_true_eq] at hf
    obtain ⟨hl, hs', hi'⟩ := hf
    obtain ⟨s1', s2'⟩ := wAt_ok hs'
    obtain ⟨i1, i2⟩ := wAt_ok hi'
    have l1 := List.mem_of_getElem? hl
    simp only [xc] at hx
    split at hx
    · rename_i as st hpop
      split at hx
      · rename_i bw
        simp only [Bool.and_eq_true] at bw
        have bw1 := Nat.le_of_ble_eq_true bw.1
        have bw2 := Nat.le_of_ble_eq_true bw.2
        obtain ⟨⟨d1, hbc, hbs⟩, Q, hx2, hx3⟩ := hx
        obtain ⟨g1, hst1, hal, hsteq⟩ := mem_pop hpop hst
        have hst2 := hst1
        have hM := met_of (ad := ad) hE (mE_not hE) bw2 g1 hx2
        rw [hsteq, List.map_append, List.map_reverse]
        refine run_go (va_runSN (As := as.map (cv ad)) ⟨HX, HB, hml, hown, fun w hw' => hts w (lwg_in hw').1 (lwg_in hw').2⟩ hM ⟨va_cnB na (fun w hw' => hts w (lwg_in hw').1 (lwg_in hw').2) (lwg_good c1) rfl rfl rfl (hxs.2.2.2.2.2 _ _ _ _ l1) (hts _ i1 i2) ⟨c4.1, c4.2, hpar⟩ ⟨by show d - 1 + 1 ≤ Rm.frames; omega, by show 8 + (ml' + 11) + 40 * (d - 1) ≤ Rm.locals; omega⟩, hts _ s1' s2', trivial⟩ ⟨PcU_blind, fun U hU hW => ⟨rfl, PcU_of ⟨HX, HB, hml, hrt, hown, hnm, hts, hlocks, hK, hXb, hbl, hbA, hA, hxs⟩ hw hS hU hW⟩⟩ rfl (by simp [hal]) (hfr.1.trans hll) rfl (lv_room (by rw [sw_cat]; exact bw1)) hdec ⟨by omega, by omega⟩) hS (fun rv h' ad' H1 locs1 q1 q2 q3 q4 q5 w1 s1 => ?_)
        rw [← st_ad hst2 q5]
        split at hx3
        · rcases rv with _ | v' | v' | v'
          · exact (ih (pc + 3) lo st h' d _ _ H1 locs1 ls (cells + mc') (slots + ms') ad' hnx (hx3 _ q1) hd1 hd2 (by omega) (by omega) w1 s1 (fr_ad hfr q4 q5) hll (fun v hv => gV_mono q4 (hst2 v hv)) (Nat.le_trans hn0 q4) (fun r hr => (q5 r (Nat.lt_of_lt_of_le hr hn0)).trans (had r hr)))
          · exact absurd (q2.symm.trans hrk) (by decide)
          · exact absurd (q2.symm.trans hrk) (by decide)
          · exact absurd (q2.symm.trans hrk) (by decide)
        · rcases rv with _ | v' | v' | v'
          · exact absurd (q2.symm.trans hrk) (by decide)
          · exact (ih (pc + 3) lo (.inl v' :: st) h' d _ _ H1 locs1 ls (cells + mc') (slots + ms') ad' hnx (hx3 _ _ q1) hd1 hd2 (by omega) (by omega) w1 s1 (fr_ad hfr q4 q5) hll (g_cs (q3 _ rfl) (fun v hv => gV_mono q4 (hst2 v hv))) (Nat.le_trans hn0 q4) (fun r hr => (q5 r (Nat.lt_of_lt_of_le hr hn0)).trans (had r hr)))
          · exact absurd (q2.symm.trans hrk) (by decide)
          · exact absurd (q2.symm.trans hrk) (by decide)
        · rcases rv with _ | v' | v' | v'
          · exact absurd (q2.symm.trans hrk) (by decide)
          · exact absurd (q2.symm.trans hrk) (by decide)
          · exact (ih (pc + 3) lo (.inr (.inl v') :: st) h' d _ _ H1 locs1 ls (cells + mc') (slots + ms') ad' hnx (hx3 _ _ q1) hd1 hd2 (by omega) (by omega) w1 s1 (fr_ad hfr q4 q5) hll (g_cs (q3 _ rfl) (fun v hv => gV_mono q4 (hst2 v hv))) (Nat.le_trans hn0 q4) (fun r hr => (q5 r (Nat.lt_of_lt_of_le hr hn0)).trans (had r hr)))
          · exact absurd (q2.symm.trans hrk) (by decide)
        · rename_i n0' n1' n2'
          rcases rv with _ | v' | v' | v'
          · exact absurd (hrk.symm.trans q2) n0'
          · exact absurd (hrk.symm.trans q2) n1'
          · exact absurd (hrk.symm.trans q2) n2'
          · exact (ih (pc + 3) lo (.inr (.inr v') :: st) h' d _ _ H1 locs1 ls (cells + mc') (slots + ms') ad' hnx (hx3 _ _ q1) hd1 hd2 (by omega) (by omega) w1 s1 (fr_ad hfr q4 q5) hll (g_cs (q3 _ rfl) (fun v hv => gV_mono q4 (hst2 v hv))) (Nat.le_trans hn0 q4) (fun r hr => (q5 r (Nat.lt_of_lt_of_le hr hn0)).trans (had r hr)))
      · exact hx.elim
    · exact hx.elim
  · exact absurd hj (by decide)

set_option maxHeartbeats 1000000 in
theorem sd_virtual {k : Nat} (hmF : mF mi = some (y, cc, ml, rt)) (hcx : cx G y cc ml rt p s m args meth c) (hMC : MC ≤ Rm.cells) (hMS : MS ≤ Rm.slots) (ih : Wk l G mi y cc ml rt p e Rm s m args below meth c MC MS ad0 n0 R is) : Wk l G mi y cc ml rt p e Rm s m args below meth c MC MS ad0 n0 R ((.invokevirtual k, lk) :: is) := by
  intro pc lo st h d mc ms H locs ls cells slots ad hok hx hd1 hd2 hc1 hc2 hw hS hfr hll hst hn0 had
  obtain ⟨HX, HB, hml, hrt, hown, hnm, hts, hlocks, hK, hXb, hbl, hbA, hA, hxs⟩ := hcx
  obtain ⟨j, len, hdec, hlen, hj, hnx⟩ := okL_cons (by intro z; cases z) hok
  simp only [okj] at hj
  split at hj
  · rename_i idx mj na ml' mc' ms' rk K p1 p2 p3 p4
    obtain rfl : 3 = len := hlen
    obtain ⟨z, cz, rz, hE, hrk, hpar, hf⟩ := okCall_ok hj
    obtain ⟨c1, c2, c3, c4⟩ := mE_ok hE
    simp only [Bool.and_eq_true, decide_eq_true_eq] at hf
    obtain ⟨⟨hK0, hcl⟩, hl, hs', hsl, hi'⟩ := hf
    have hK0 := blt_lt hK0
    obtain ⟨s1', s2'⟩ := wAt_ok hs'
    obtain ⟨e1', e2'⟩ := wAt_ok hsl
    obtain ⟨i1, i2⟩ := wAt_ok hi'
    obtain ⟨l1, l2⟩ := wAt_ok hl
    simp only [xc] at hx
    split at hx
    · rename_i as r st hpop
      split at hx
      · rename_i bw
        simp only [Bool.and_eq_true] at bw
        have bw1 := Nat.le_of_ble_eq_true bw.1
        have bw2 := Nat.le_of_ble_eq_true bw.2
        obtain ⟨⟨d1, hbc, hbs, hr⟩, Q, hx2, hx3⟩ := hx
        obtain ⟨g1, hst1, hal, hsteq⟩ := mem_pop hpop hst
        have hst2 := g_tl hst1
        obtain ⟨⟨C, T, N⟩, hv, hcz⟩ : ∃ q, vwCl[K - 1]? = some q ∧ q.1 = z.cls := by
          cases hv : vwCl[K - 1]? with
          | none => rw [hv] at hcl; cases hcl
          | some q => rw [hv] at hcl; exact ⟨q, rfl, Option.some.inj hcl⟩
        have hcz : C = z.cls := hcz
        have hc12 := vw_lt hv
        obtain ⟨r3, rn⟩ := gH_in hw.1 hr (by omega) (by omega) (by omega)
        have he := wo_at (G := G) (ad := ad) r3 rn
        rw [cell_o hr (by omega)] at he
        have cvr : cv ad (Sum.inr (Sum.inr r)) = .ref (ad r) := cv_ref (by omega)
        have hM := met_of (ad := ad) (as := .inr (.inr r) :: as) hE (mE_not hE) bw2 (g_cs (g_hd hst1) g1) hx2
        rw [hsteq, List.map_append, List.map_reverse, List.map_cons, cvr]
        refine run_go (va_runV (C := z.cls) (As := as.map (cv ad)) ⟨HX, HB, hml, hown, fun w hw' => hts w (lwg_in hw').1 (lwg_in hw').2⟩ hM ⟨callB_of na (fun w hw' => hts w (lwg_in hw').1 (lwg_in hw').2) (lwg_good c1) rfl rfl rfl (hts _ i1 i2) (hts _ l1 l2) ⟨c4.1, c4.2, hpar⟩ ⟨by show d - 1 + 1 ≤ Rm.frames; omega, by show 8 + (ml' + 11) + 40 * (d - 1) ≤ Rm.locals; omega⟩, hts _ s1' s2', hts _ e1' e2'⟩ ⟨PcU_blind, by rw [← hcz]; exact va_recv hK hw.2.2.2.1 hv he, fun U hU hW => ⟨by rw [List.map_cons, cvr], PcU_of ⟨HX, HB, hml, hrt, hown, hnm, hts, hlocks, hK, hXb, hbl, hbA, hA, hxs⟩ hw hS hU hW⟩⟩ rfl (by simp [hal]) (hfr.1.trans hll) rfl (lv_room (by rw [sw_cat]; exact bw1)) hdec ⟨by omega, by omega⟩) hS (fun rv h' ad' H1 locs1 q1 q2 q3 q4 q5 w1 s1 => ?_)
        rw [← st_ad hst2 q5]
        split at hx3
        · rcases rv with _ | v' | v' | v'
          · exact (ih (pc + 3) lo st h' d _ _ H1 locs1 ls (cells + mc') (slots + ms') ad' hnx (hx3 _ q1) hd1 hd2 (by omega) (by omega) w1 s1 (fr_ad hfr q4 q5) hll (fun v hv => gV_mono q4 (hst2 v hv)) (Nat.le_trans hn0 q4) (fun r hr => (q5 r (Nat.lt_of_lt_of_le hr hn0)).trans (had r hr)))
          · exact absurd (q2.symm.trans hrk) (by decide)
          · exact absurd (q2.symm.trans hrk) (by decide)
          · exact absurd (q2.symm.trans hrk) (by decide)
        · rcases rv with _ | v' | v' | v'
          · exact absurd (q2.symm.trans hrk) (by decide)
          · exact (ih (pc + 3) lo (.inl v' :: st) h' d _ _ H1 locs1 ls (cells + mc') (slots + ms') ad' hnx (hx3 _ _ q1) hd1 hd2 (by omega) (by omega) w1 s1 (fr_ad hfr q4 q5) hll (g_cs (q3 _ rfl) (fun v hv => gV_mono q4 (hst2 v hv))) (Nat.le_trans hn0 q4) (fun r hr => (q5 r (Nat.lt_of_lt_of_le hr hn0)).trans (had r hr)))
          · exact absurd (q2.symm.trans hrk) (by decide)
          · exact absurd (q2.symm.trans hrk) (by decide)
        · rcases rv with _ | v' | v' | v'
          · exact absurd (q2.symm.trans hrk) (by decide)
          · exact absurd (q2.symm.trans hrk) (by decide)
          · exact (ih (pc + 3) lo (.inr (.inl v') :: st) h' d _ _ H1 locs1 ls (cells + mc') (slots + ms') ad' hnx (hx3 _ _ q1) hd1 hd2 (by omega) (by omega) w1 s1 (fr_ad hfr q4 q5) hll (g_cs (q3 _ rfl) (fun v hv => gV_mono q4 (hst2 v hv))) (Nat.le_trans hn0 q4) (fun r hr => (q5 r (Nat.lt_of_lt_of_le hr hn0)).trans (had r hr)))
          · exact absurd (q2.symm.trans hrk) (by decide)
        · rename_i n0' n1' n2'
          rcases rv with _ | v' | v' | v'
          · exact absurd (hrk.symm.trans q2) n0'
          · exact absurd (hrk.symm.trans q2) n1'
          · exact absurd (hrk.symm.trans q2) n2'
          · exact (ih (pc + 3) lo (.inr (.inr v') :: st) h' d _ _ H1 locs1 ls (cells + mc') (slots + ms') ad' hnx (hx3 _ _ q1) hd1 hd2 (by omega) (by omega) w1 s1 (fr_ad hfr q4 q5) hll (g_cs (q3 _ rfl) (fun v hv => gV_mono q4 (hst2 v hv))) (Nat.le_trans hn0 q4) (fun r hr => (q5 r (Nat.lt_of_lt_of_le hr hn0)).trans (had r hr)))
      · exact hx.elim
    · exact hx.elim
  · rename_i idx mj na ml' mc' ms' rk K p1 p2 p3 p4
    obtain rfl : 3 = len := hlen
    obtain ⟨z, cz, rz, hE, hrk, hpar, hf⟩ := okCall_ok hj
    obtain ⟨c1, c2, c3, c4⟩ := mE_ok hE
    simp only [Bool.and_eq_true, decide_eq_true_eq] at hf
    obtain ⟨⟨hK0, hcl, hzn, hrn⟩, hl, hs', hi'⟩ := hf
    have hK0 := blt_lt hK0
    obtain ⟨s1', s2'⟩ := wAt_ok hs'
    obtain ⟨i1, i2⟩ := wAt_ok hi'
    obtain ⟨l1, l2⟩ := wAt_ok hl
    simp only [xc] at hx
    split at hx
    · rename_i as r st hpop
      split at hx
      · rename_i bw
        simp only [Bool.and_eq_true] at bw
        have bw1 := Nat.le_of_ble_eq_true bw.1
        have bw2 := Nat.le_of_ble_eq_true bw.2
        obtain ⟨⟨d1, hbc, hbs, hr⟩, Q, hx2, hx3⟩ := hx
        obtain ⟨g1, hst1, hal, hsteq⟩ := mem_pop hpop hst
        have hst2 := g_tl hst1
        obtain ⟨⟨C, T, N⟩, hv, hcz⟩ : ∃ q, vwCl[K - 1]? = some q ∧ q.1 = z.cls := by
          cases hv : vwCl[K - 1]? with
          | none => rw [hv] at hcl; cases hcl
          | some q => rw [hv] at hcl; exact ⟨q, rfl, Option.some.inj hcl⟩
        have hcz : C = z.cls := hcz
        have hc12 := vw_lt hv
        obtain ⟨r3, rn⟩ := gH_in hw.1 hr (by omega) (by omega) (by omega)
        have he := wo_at (G := G) (ad := ad) r3 rn
        rw [cell_o hr (by omega)] at he
        have cvr : cv ad (Sum.inr (Sum.inr r)) = .ref (ad r) := cv_ref (by omega)
        have hM := met_of (ad := ad) (as := .inr (.inr r) :: as) hE (mE_not hE) bw2 (g_cs (g_hd hst1) g1) hx2
        rw [hsteq, List.map_append, List.map_reverse, List.map_cons, cvr]
        subst hrn
        refine run_go (va_runI (As := as.map (cv ad)) ⟨HX, HB, hml, hown, fun w hw' => hts w (lwg_in hw').1 (lwg_in hw').2⟩ hM ⟨callB_of na (fun w hw' => hts w (lwg_in hw').1 (lwg_in hw').2) (lwg_good c1) rfl rfl rfl (hts _ i1 i2) (hts _ l1 l2) ⟨c4.1, c4.2, hpar⟩ ⟨by show d - 1 + 1 ≤ Rm.frames; omega, by show 8 + (ml' + 11) + 40 * (d - 1) ≤ Rm.locals; omega⟩, hzn, hts _ s1' s2'⟩ ⟨PcU_blind, fun U hU hW => ⟨by rw [List.map_cons, cvr], PcU_of ⟨HX, HB, hml, hrt, hown, hnm, hts, hlocks, hK, hXb, hbl, hbA, hA, hxs⟩ hw hS hU hW⟩⟩ rfl (by simp [hal]) (hfr.1.trans hll) rfl (lv_room (by rw [sw_cat]; exact bw1)) hdec ⟨by omega, by omega⟩) hS (fun rv h' ad' H1 locs1 q1 q2 q3 q4 q5 w1 s1 => ?_)
        rw [← st_ad hst2 q5]
        split at hx3
        · rcases rv with _ | v' | v' | v'
          · exact (ih (pc + 3) lo st h' d _ _ H1 locs1 ls (cells + mc') (slots + ms') ad' hnx (hx3 _ q1) hd1 hd2 (by omega) (by omega) w1 s1 (fr_ad hfr q4 q5) hll (fun v hv => gV_mono q4 (hst2 v hv)) (Nat.le_trans hn0 q4) (fun r hr => (q5 r (Nat.lt_of_lt_of_le hr hn0)).trans (had r hr)))
          · exact absurd (q2.symm.trans hrk) (by decide)
          · exact absurd (q2.symm.trans hrk) (by decide)
          · exact absurd (q2.symm.trans hrk) (by decide)
        · rcases rv with _ | v' | v' | v'
          · exact absurd (q2.symm.trans hrk) (by decide)
          · exact (ih (pc + 3) lo (.inl v' :: st) h' d _ _ H1 locs1 ls (cells + mc') (slots + ms') ad' hnx (hx3 _ _ q1) hd1 hd2 (by omega) (by omega) w1 s1 (fr_ad hfr q4 q5) hll (g_cs (q3 _ rfl) (fun v hv => gV_mono q4 (hst2 v hv))) (Nat.le_trans hn0 q4) (fun r hr => (q5 r (Nat.lt_of_lt_of_le hr hn0)).trans (had r hr)))
          · exact absurd (q2.symm.trans hrk) (by decide)
          · exact absurd (q2.symm.trans hrk) (by decide)
        · rcases rv with _ | v' | v' | v'
          · exact absurd (q2.symm.trans hrk) (by decide)
          · exact absurd (q2.symm.trans hrk) (by decide)
          · exact (ih (pc + 3) lo (.inr (.inl v') :: st) h' d _ _ H1 locs1 ls (cells + mc') (slots + ms') ad' hnx (hx3 _ _ q1) hd1 hd2 (by omega) (by omega) w1 s1 (fr_ad hfr q4 q5) hll (g_cs (q3 _ rfl) (fun v hv => gV_mono q4 (hst2 v hv))) (Nat.le_trans hn0 q4) (fun r hr => (q5 r (Nat.lt_of_lt_of_le hr hn0)).trans (had r hr)))
          · exact absurd (q2.symm.trans hrk) (by decide)
        · rename_i n0' n1' n2'
          rcases rv with _ | v' | v' | v'
          · exact absurd (hrk.symm.trans q2) n0'
          · exact absurd (hrk.symm.trans q2) n1'
          · exact absurd (hrk.symm.trans q2) n2'
          · exact (ih (pc + 3) lo (.inr (.inr v') :: st) h' d _ _ H1 locs1 ls (cells + mc') (slots + ms') ad' hnx (hx3 _ _ q1) hd1 hd2 (by omega) (by omega) w1 s1 (fr_ad hfr q4 q5) hll (g_cs (q3 _ rfl) (fun v hv => gV_mono q4 (hst2 v hv))) (Nat.le_trans hn0 q4) (fun r hr => (q5 r (Nat.lt_of_lt_of_le hr hn0)).trans (had r hr)))
      · exact hx.elim
    · exact hx.elim
  · rename_i idx mj na ml' mc' ms' rk K p1 p2 p3 p4 p5
    obtain rfl : 3 = len := hlen
    obtain ⟨z, cz, rz, hE, hrk, hpar, hf⟩ := okCall_ok hj
    obtain ⟨c1, c2, c3, c4⟩ := mE_ok hE
    simp only [Bool.and_eq_true, decide_eq_true_eq] at hf
    obtain ⟨⟨hK0, hcl, hzn, hrn⟩, hl, hs', hi'⟩ := hf
    have hK0 := blt_lt hK0
    obtain ⟨s1', s2'⟩ := wAt_ok hs'
    obtain ⟨i1, i2⟩ := wAt_ok hi'
    have l1 := List.mem_of_getElem? hl
    simp only [xc] at hx
    split at hx
    · rename_i as r st hpop
      split at hx
      · rename_i bw
        simp only [Bool.and_eq_true] at bw
        have bw1 := Nat.le_of_ble_eq_true bw.1
        have bw2 := Nat.le_of_ble_eq_true bw.2
        obtain ⟨⟨d1, hbc, hbs, hr⟩, Q, hx2, hx3⟩ := hx
        obtain ⟨g1, hst1, hal, hsteq⟩ := mem_pop hpop hst
        have hst2 := g_tl hst1
        obtain ⟨⟨C, T, N⟩, hv, hcz⟩ : ∃ q, vwCl[K - 1]? = some q ∧ q.1 = z.cls := by
          cases hv : vwCl[K - 1]? with
          | none => rw [hv] at hcl; cases hcl
          | some q => rw [hv] at hcl; exact ⟨q, rfl, Option.some.inj hcl⟩
        have hcz : C = z.cls := hcz
        have hc12 := vw_lt hv
        obtain ⟨r3, rn⟩ := gH_in hw.1 hr (by omega) (by omega) (by omega)
        have he := wo_at (G := G) (ad := ad) r3 rn
        rw [cell_o hr (by omega)] at he
        have cvr : cv ad (Sum.inr (Sum.inr r)) = .ref (ad r) := cv_ref (by omega)
        have hM := met_of (ad := ad) (as := .inr (.inr r) :: as) hE (mE_not hE) bw2 (g_cs (g_hd hst1) g1) hx2
        rw [hsteq, List.map_append, List.map_reverse, List.map_cons, cvr]
        subst hrn
        refine run_go (va_runIN (As := as.map (cv ad)) ⟨HX, HB, hml, hown, fun w hw' => hts w (lwg_in hw').1 (lwg_in hw').2⟩ hM ⟨va_cnB na (fun w hw' => hts w (lwg_in hw').1 (lwg_in hw').2) (lwg_good c1) rfl rfl rfl (hxs.2.2.2.2.2 _ _ _ _ l1) (hts _ i1 i2) ⟨c4.1, c4.2, hpar⟩ ⟨by show d - 1 + 1 ≤ Rm.frames; omega, by show 8 + (ml' + 11) + 40 * (d - 1) ≤ Rm.locals; omega⟩, hzn, hts _ s1' s2'⟩ ⟨PcU_blind, fun U hU hW => ⟨by rw [List.map_cons, cvr], PcU_of ⟨HX, HB, hml, hrt, hown, hnm, hts, hlocks, hK, hXb, hbl, hbA, hA, hxs⟩ hw hS hU hW⟩⟩ rfl (by simp [hal]) (hfr.1.trans hll) rfl (lv_room (by rw [sw_cat]; exact bw1)) hdec ⟨by omega, by omega⟩) hS (fun rv h' ad' H1 locs1 q1 q2 q3 q4 q5 w1 s1 => ?_)
        rw [← st_ad hst2 q5]
        split at hx3
        · rcases rv with _ | v' | v' | v'
          · exact (ih (pc + 3) lo st h' d _ _ H1 locs1 ls (cells + mc') (slots + ms') ad' hnx (hx3 _ q1) hd1 hd2 (by omega) (by omega) w1 s1 (fr_ad hfr q4 q5) hll (fun v hv => gV_mono q4 (hst2 v hv)) (Nat.le_trans hn0 q4) (fun r hr => (q5 r (Nat.lt_of_lt_of_le hr hn0)).trans (had r hr)))
          · exact absurd (q2.symm.trans hrk) (by decide)
          · exact absurd (q2.symm.trans hrk) (by decide)
          · exact absurd (q2.symm.trans hrk) (by decide)
        · rcases rv with _ | v' | v' | v'
          · exact absurd (q2.symm.trans hrk) (by decide)
          · exact (ih (pc + 3) lo (.inl v' :: st) h' d _ _ H1 locs1 ls (cells + mc') (slots + ms') ad' hnx (hx3 _ _ q1) hd1 hd2 (by omega) (by omega) w1 s1 (fr_ad hfr q4 q5) hll (g_cs (q3 _ rfl) (fun v hv => gV_mono q4 (hst2 v hv))) (Nat.le_trans hn0 q4) (fun r hr => (q5 r (Nat.lt_of_lt_of_le hr hn0)).trans (had r hr)))
          · exact absurd (q2.symm.trans hrk) (by decide)
          · exact absurd (q2.symm.trans hrk) (by decide)
        · rcases rv with _ | v' | v' | v'
          · exact absurd (q2.symm.trans hrk) (by decide)
          · exact absurd (q2.symm.trans hrk) (by decide)
          · exact (ih (pc + 3) lo (.inr (.inl v') :: st) h' d _ _ H1 locs1 ls (cells + mc') (slots + ms') ad' hnx (hx3 _ _ q1) hd1 hd2 (by omega) (by omega) w1 s1 (fr_ad hfr q4 q5) hll (g_cs (q3 _ rfl) (fun v hv => gV_mono q4 (hst2 v hv))) (Nat.le_trans hn0 q4) (fun r hr => (q5 r (Nat.lt_of_lt_of_le hr hn0)).trans (had r hr)))
          · exact absurd (q2.symm.trans hrk) (by decide)
        · rename_i n0' n1' n2'
          rcases rv with _ | v' | v' | v'
          · exact absurd (hrk.symm.trans q2) n0'
          · exact absurd (hrk.symm.trans q2) n1'
          · exact absurd (hrk.symm.trans q2) n2'
          · exact (ih (pc + 3) lo (.inr (.inr v') :: st) h' d _ _ H1 locs1 ls (cells + mc') (slots + ms') ad' hnx (hx3 _ _ q1) hd1 hd2 (by omega) (by omega) w1 s1 (fr_ad hfr q4 q5) hll (g_cs (q3 _ rfl) (fun v hv => gV_mono q4 (hst2 v hv))) (Nat.le_trans hn0 q4) (fun r hr => (q5 r (Nat.lt_of_lt_of_le hr hn0)).trans (had r hr)))
      · exact hx.elim
    · exact hx.elim
  · exact absurd hj (by decide)

end SND4

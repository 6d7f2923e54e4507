/-! ===== soundness, the rest (by program wip/whole/gensnd3.py) ===== -/
theorem vOf_zero (ad ad' : Nat → Nat) (ty : Nat) : vOf ad ty 0 = vOf ad' ty 0 := by
  unfold vOf
  split <;> rfl
theorem dflt_ok {ci k : Nat} (hc : ci < 12) (hk : k < nF ci) (ad : Nat → Nat) : defaultValue (tyC ci k) = vOf ad (fT ci k) 0 := by
  have h1 := fT_ref ci hc k (Nat.lt_trans hk (nF_lt ci hc))
  unfold fT at h1 ⊢
  split
  · rename_i e; rw [e]; rfl
  · rename_i e; rw [e]; rfl
  · rename_i e; rw [e]; rfl
  · rename_i e1 e2 e3
    have h2 := h1 (by simp)
    cases hh : tyC ci k <;> rw [hh] at h2 <;> first | rfl | exact absurd h2 (by decide)
theorem arr_same {U : State} {cl : List vw_C} {D : va_G} {tys : List (ClassId × FieldType)} {c1 c2 : ClassId} {ty : FieldType} {i j : Nat} (hK : va_K D cl tys U) (h1 : tys[i]? = some (c1, ty)) (h2 : tys[j]? = some (c2, ty)) : c1 = c2 := by
  have a1 := (hK.2 i _ h1).2
  have a2 := (hK.2 j _ h2).2
  cases ty with
  | object C =>
    obtain ⟨_, _, _, _, _, b1⟩ := a1
    obtain ⟨_, _, _, _, _, b2⟩ := a2
    exact Option.some.inj (b1.symm.trans b2)
  | _ => exact Option.some.inj (Eq.trans (Eq.symm a1) a2)
theorem sx_tab {pc : Nat} {f : Nat → Prop} {v : Int} {B : Prop} : ∀ (os : List Int) (ts : List Nat) (lo : Int), okTs pc lo os ts = true → x_sx f v B ts → ((v < lo ∨ lo + (os.length : Int) ≤ v) → B) ∧ ∀ (n : Nat) (o : Int), v = lo + (n : Int) → os[n]? = some o → ∃ t : Nat, (pc : Int) + o = (t : Int) ∧ f t
  | [], [], lo, _, h => ⟨fun _ => h, fun n o _ h2 => by simp at h2⟩
  | [], _ :: _, _, h, _ => by simp [okTs] at h
  | _ :: _, [], _, h, _ => by simp [okTs] at h
  | _ :: _, [_], _, h, _ => by simp [okTs] at h
  | o :: os, k :: t :: ts, lo, h, hx => by
    simp only [okTs, Bool.and_eq_true, decide_eq_true_eq] at h
    simp only [x_sx] at hx
    split at hx
    · rename_i e
      refine ⟨fun z => ?_, fun n o' e1 e2 => ?_⟩
      · simp only [List.length_cons] at z; omega
      · have : n = 0 := by omega
        subst this
        simp only [List.getElem?_cons_zero, Option.some.injEq] at e2
        subst e2
        exact ⟨t, h.2.1, hx⟩
    · rename_i e
      obtain ⟨i1, i2⟩ := sx_tab os ts (lo + 1) h.2.2 hx
      refine ⟨fun z => i1 ?_, fun n o' e1 e2 => ?_⟩
      · simp only [List.length_cons] at z; omega
      · rcases n with _ | n
        · omega
        · exact i2 n o' (by omega) (by simpa using e2)
theorem sx_look {pc : Nat} {f : Nat → Prop} {v : Int} {B : Prop} (df : Int) : ∀ (os : List (Int × Int)) (ts : List Nat), okLs pc os ts = true → x_sx f v B ts → (Op.lookupswitch.offset os df v = df ∧ B) ∨ ∃ t : Nat, (pc : Int) + Op.lookupswitch.offset os df v = (t : Int) ∧ f t
  | [], [], _, h => Or.inl ⟨rfl, h⟩
  | [], _ :: _, h, _ => by simp [okLs] at h
  | _ :: _, [], h, _ => by simp [okLs] at h
  | _ :: _, [_], h, _ => by simp [okLs] at h
  | (a, o) :: os, k :: t :: ts, h, hx => by
    simp only [okLs, Bool.and_eq_true, decide_eq_true_eq] at h
    simp only [x_sx] at hx
    rw [Op.lookupswitch.offset_cons]
    split at hx
    · rename_i e
      rw [if_pos (by omega)]
      exact Or.inr ⟨t, h.2.1, hx⟩
    · rename_i e
      rw [if_neg (by omega)]
      exact sx_look df os ts h.2.2 hx
section SND3
variable {l : Launch} {G : GX} {mi : Nat} {y : MethodName} {cc : ByteArray} {ml : Nat} {rt : Option FieldType} {p : Program} {e : Env} {Rm : Room} {s : State} {m : MethodId} {args : Array Value} {below : List Frame} {meth : Method} {c : Code} {MC MS : Nat} {ad0 : Nat → Nat} {n0 : Nat} {R : PR} {is : List AI} {lk : List Nat}
theorem sd_nop (hmF : mF mi = some (y, cc, ml, rt)) (hcx : cx G y cc ml rt p s m args meth c) (hMC : MC ≤ Rm.cells) (hMS : MS ≤ Rm.slots) : Wk l G mi y cc ml rt p e Rm s m args below meth c MC MS ad0 n0 R ((.nop, lk) :: is) := by
  intro pc lo st h d mc ms H locs ls cells slots ad hok hx hd1 hd2 hc1 hc2 hw hS hfr hll hst hn0 had
  unfold okL at hok
  simp only [decide_eq_true_eq] at hok
  subst hok
  exact hx y cc ml rt p e Rm s m args below meth c H locs ls cells slots MC MS ad ad0 n0 hmF hcx hd1 hd2 hc1 hc2 hMC hMS hw hS hfr hll hst hn0 had
set_option maxHeartbeats 1000000 in
theorem sd_new {n : Nat} (hmF : mF mi = some (y, cc, ml, rt)) (hcx : cx G y cc ml rt p s m args meth c) (hMC : MC ≤ Rm.cells) (hMS : MS ≤ Rm.slots) (ih : Wk l G mi y cc ml rt p e Rm s m args below meth c MC MS ad0 n0 R is) : Wk l G mi y cc ml rt p e Rm s m args below meth c MC MS ad0 n0 R ((.new n, lk) :: is) := by
  intro pc lo st h d mc ms H locs ls cells slots ad hok hx hd1 hd2 hc1 hc2 hw hS hfr hll hst hn0 had
  obtain ⟨HX, HB, hml, hrt, hown, hnm, hts, hlocks, hK, hXb, hbl, hbA, hA, hxs⟩ := hcx
  obtain ⟨j, len, hdec, hlen, hj, hnx⟩ := okL_cons (by intro z; cases z) hok
  simp only [xc] at hx
  simp only [okj] at hj
  split at hj
  · rename_i idx K N pl
    obtain rfl : 3 = len := hlen
    obtain ⟨⟨m1, m2⟩, hx⟩ := hx
    split at hj
    · rename_i C T M hv
      simp only [Bool.and_eq_true, decide_eq_true_eq] at hj
      obtain ⟨hK0, rfl, hl⟩ := hj
      have hK0 := blt_lt hK0
      have hc12 := vw_lt hv
      have hc := cls_ok _ _ _ _ hv
      obtain ⟨l1, l2⟩ := wAt_ok hl
      refine va_new HX HB (fun w hw' => hts w (lwg_in hw').1 (lwg_in hw').2) hc.1 _ hc.2.1 hown (hts _ l1 l2) (hts _ (lwg_in hc.2.2.2.1).1 (lwg_in hc.2.2.2.1).2) (hts _ (lwg_in hc.2.2.2.2).1 (lwg_in hc.2.2.2.2).2) hK hw.2.2.2.1 hw.2.2.2.2 hS hA hv (fs := (List.range M).map (fun k => vOf ad (fT (K - 1) k) 0)) (fun j hjN => ?_) (by omega) (by omega) hdec (fun q H1 hP1 hD1 hS1 => ?_)
      · rw [dflt_ok hc12 (by rw [nF_eq hv]; exact hjN) ad]
        simp [vp_V, List.getD, hjN]
      have hw1 : wd G (adN ad h.1 q) (hpN h K 0) H1 := by
        refine wd_N hw (Or.inl ⟨by omega, by omega⟩) (by decide) ?_ hP1 hD1
        rw [cell_o (K := K) (by rw [hpT_N, if_pos rfl]) (by omega), nF_eq hv]
        congr 2
        apply List.map_congr_left
        intro k hk
        rw [hpC_N, if_pos rfl]
        exact vOf_zero _ _ _
      rw [← st_ad hst (adN_lt ad h.1 q)]
      refine W_r (r := h.1) (by rw [cv_ref (by have := hw.1.1; omega)]; simp [adN]) ?_
      exact (ih (pc + 3) lo (xR h.1 :: st) (hpN h K 0) d _ _ H1 locs ls (cells + 1) (slots + M) (adN ad h.1 q) hnx (hx _ rfl) hd1 hd2 (by omega) (by omega) hw1 hS1 (fr_ad hfr (Nat.le_succ _) (adN_lt ad h.1 q)) hll (g_cs (Nat.lt_succ_self _) (fun v hv => gV_mono (Nat.le_succ _) (hst v hv))) (Nat.le_succ_of_le hn0) (fun r hr => (adN_lt ad h.1 q r (Nat.lt_of_lt_of_le hr hn0)).trans (had r hr)))
    · exact absurd hj (by decide)
  · exact absurd hj (by decide)

set_option maxHeartbeats 1000000 in
theorem sd_newarray {aty : ArrayType} (hmF : mF mi = some (y, cc, ml, rt)) (hcx : cx G y cc ml rt p s m args meth c) (hMC : MC ≤ Rm.cells) (hMS : MS ≤ Rm.slots) (ih : Wk l G mi y cc ml rt p e Rm s m args below meth c MC MS ad0 n0 R is) : Wk l G mi y cc ml rt p e Rm s m args below meth c MC MS ad0 n0 R ((.newarray aty, lk) :: is) := by
  intro pc lo st h d mc ms H locs ls cells slots ad hok hx hd1 hd2 hc1 hc2 hw hS hfr hll hst hn0 had
  obtain ⟨HX, HB, hml, hrt, hown, hnm, hts, hlocks, hK, hXb, hbl, hbA, hA, hxs⟩ := hcx
  obtain ⟨j, len, hdec, hlen, hj, hnx⟩ := okL_cons (by intro z; cases z) hok
  replace hj := of_decide_eq_true hj
  simp only [xc] at hx
  split at hx
  · rename_i K n st
    obtain ⟨⟨m0, m1, m2, m3⟩, hx⟩ := hx
    have hnr : r32 n := g_hd hst
    have hn0' : ¬ Int32.ofInt n < 0 := fun z => absurd ((lt32 hnr (show r32 0 from ⟨by decide, by decide⟩)).mp z) (by omega)
    have hnt : (Int32.ofInt n).toNatClampNeg = n.toNat := by simp only [Int32.toNatClampNeg, to32 hnr]
    rw [List.map_cons]
    show W p l e Rm s m args below meth c H locs cells slots _ (F0 m pc ls (.int (Int32.ofInt n) :: _))
    rcases hj with hj | hj | hj | hj
    · obtain ⟨rfl, hlk⟩ := hj
      cases hlk
      obtain rfl : 2 = len := hlen
      refine va_newa (atype := .int) HX HB (hts _ (lwg_in aw_int).1 (lwg_in aw_int).2) (ty := .int) rfl hK hw.2.2.2.1 hw.2.2.2.2 hS hA (N' := n.toNat) (a0 := (n.toNat, .inl (fun _ => 0))) (fun cA => rfl) hn0' hnt (by show n.toNat * 4 ≤ 536870912; omega) (by omega) (by omega) hdec (fun q cA H1 hK1 hP1 hD1 hS1 => ?_)
      obtain rfl : cA = gxK G 0 := arr_same hK1 (i := 5) (j := 0) rfl rfl
      have hw1 : wd G (adN ad h.1 q) (hpN h 20 n.toNat) H1 := by
        refine wd_N hw (Or.inr ⟨by decide, by decide⟩) (by omega) ?_ hP1 hD1
        rw [cell_20 (by rw [hpT_N, if_pos rfl]), hpT_N, if_pos rfl]
        simp only [hpC_N, if_true]
        rfl
      rw [← st_ad (g_tl hst) (adN_lt ad h.1 q)]
      refine W_r (r := h.1) (by rw [cv_ref (by have := hw.1.1; omega)]; simp [adN]) ?_
      exact (ih (pc + 2) lo (xR h.1 :: st) (hpN h 20 n.toNat) d _ _ H1 locs ls (cells + 1) (slots + n.toNat) (adN ad h.1 q) hnx (hx _ rfl) hd1 hd2 (by omega) (by omega) hw1 hS1 (fr_ad hfr (Nat.le_succ _) (adN_lt ad h.1 q)) hll (g_cs (Nat.lt_succ_self _) (fun v hv => gV_mono (Nat.le_succ _) ((g_tl hst) v hv))) (Nat.le_succ_of_le hn0) (fun r hr => (adN_lt ad h.1 q r (Nat.lt_of_lt_of_le hr hn0)).trans (had r hr)))
    · obtain ⟨rfl, hlk⟩ := hj
      cases hlk
      obtain rfl : 2 = len := hlen
      refine va_newa (atype := .long) HX HB (hts _ (lwg_in aw_long).1 (lwg_in aw_long).2) (ty := .long) rfl hK hw.2.2.2.1 hw.2.2.2.2 hS hA (N' := n.toNat) (a0 := (n.toNat, .inr (.inl (fun _ => 0)))) (fun cA => rfl) hn0' hnt (by show n.toNat * 8 ≤ 536870912; omega) (by omega) (by omega) hdec (fun q cA H1 hK1 hP1 hD1 hS1 => ?_)
      obtain rfl : cA = gxK G 1 := arr_same hK1 (i := 5) (j := 1) rfl rfl
      have hw1 : wd G (adN ad h.1 q) (hpN h 21 n.toNat) H1 := by
        refine wd_N hw (Or.inr ⟨by decide, by decide⟩) (by omega) ?_ hP1 hD1
        rw [cell_21 (by rw [hpT_N, if_pos rfl]), hpT_N, if_pos rfl]
        simp only [hpC_N, if_true]
        rfl
      rw [← st_ad (g_tl hst) (adN_lt ad h.1 q)]
      refine W_r (r := h.1) (by rw [cv_ref (by have := hw.1.1; omega)]; simp [adN]) ?_
      exact (ih (pc + 2) lo (xR h.1 :: st) (hpN h 21 n.toNat) d _ _ H1 locs ls (cells + 1) (slots + n.toNat) (adN ad h.1 q) hnx (hx _ rfl) hd1 hd2 (by omega) (by omega) hw1 hS1 (fr_ad hfr (Nat.le_succ _) (adN_lt ad h.1 q)) hll (g_cs (Nat.lt_succ_self _) (fun v hv => gV_mono (Nat.le_succ _) ((g_tl hst) v hv))) (Nat.le_succ_of_le hn0) (fun r hr => (adN_lt ad h.1 q r (Nat.lt_of_lt_of_le hr hn0)).trans (had r hr)))
    · obtain ⟨rfl, hlk⟩ := hj
      cases hlk
      obtain rfl : 2 = len := hlen
      refine va_newa (atype := .byte) HX HB (hts _ (lwg_in aw_byte).1 (lwg_in aw_byte).2) (ty := .byte) rfl hK hw.2.2.2.1 hw.2.2.2.2 hS hA (N' := n.toNat) (a0 := (n.toNat, .inl (fun _ => 0))) (fun cA => rfl) hn0' hnt (by show n.toNat * 1 ≤ 536870912; omega) (by omega) (by omega) hdec (fun q cA H1 hK1 hP1 hD1 hS1 => ?_)
      obtain rfl : cA = gxK G 2 := arr_same hK1 (i := 5) (j := 2) rfl rfl
      have hw1 : wd G (adN ad h.1 q) (hpN h 22 n.toNat) H1 := by
        refine wd_N hw (Or.inr ⟨by decide, by decide⟩) (by omega) ?_ hP1 hD1
        rw [cell_22 (by rw [hpT_N, if_pos rfl]), hpT_N, if_pos rfl]
        simp only [hpC_N, if_true]
        rfl
      rw [← st_ad (g_tl hst) (adN_lt ad h.1 q)]
      refine W_r (r := h.1) (by rw [cv_ref (by have := hw.1.1; omega)]; simp [adN]) ?_
      exact (ih (pc + 2) lo (xR h.1 :: st) (hpN h 22 n.toNat) d _ _ H1 locs ls (cells + 1) (slots + n.toNat) (adN ad h.1 q) hnx (hx _ rfl) hd1 hd2 (by omega) (by omega) hw1 hS1 (fr_ad hfr (Nat.le_succ _) (adN_lt ad h.1 q)) hll (g_cs (Nat.lt_succ_self _) (fun v hv => gV_mono (Nat.le_succ _) ((g_tl hst) v hv))) (Nat.le_succ_of_le hn0) (fun r hr => (adN_lt ad h.1 q r (Nat.lt_of_lt_of_le hr hn0)).trans (had r hr)))
    · obtain ⟨rfl, hlk⟩ := hj
      cases hlk
      obtain rfl : 2 = len := hlen
      refine va_newa (atype := .boolean) HX HB (hts _ (lwg_in aw_boolean).1 (lwg_in aw_boolean).2) (ty := .boolean) rfl hK hw.2.2.2.1 hw.2.2.2.2 hS hA (N' := n.toNat) (a0 := (n.toNat, .inl (fun _ => 0))) (fun cA => rfl) hn0' hnt (by show n.toNat * 1 ≤ 536870912; omega) (by omega) (by omega) hdec (fun q cA H1 hK1 hP1 hD1 hS1 => ?_)
      obtain rfl : cA = gxK G 3 := arr_same hK1 (i := 5) (j := 3) rfl rfl
      have hw1 : wd G (adN ad h.1 q) (hpN h 23 n.toNat) H1 := by
        refine wd_N hw (Or.inr ⟨by decide, by decide⟩) (by omega) ?_ hP1 hD1
        rw [cell_23 (by rw [hpT_N, if_pos rfl]), hpT_N, if_pos rfl]
        simp only [hpC_N, if_true]
        rfl
      rw [← st_ad (g_tl hst) (adN_lt ad h.1 q)]
      refine W_r (r := h.1) (by rw [cv_ref (by have := hw.1.1; omega)]; simp [adN]) ?_
      exact (ih (pc + 2) lo (xR h.1 :: st) (hpN h 23 n.toNat) d _ _ H1 locs ls (cells + 1) (slots + n.toNat) (adN ad h.1 q) hnx (hx _ rfl) hd1 hd2 (by omega) (by omega) hw1 hS1 (fr_ad hfr (Nat.le_succ _) (adN_lt ad h.1 q)) hll (g_cs (Nat.lt_succ_self _) (fun v hv => gV_mono (Nat.le_succ _) ((g_tl hst) v hv))) (Nat.le_succ_of_le hn0) (fun r hr => (adN_lt ad h.1 q r (Nat.lt_of_lt_of_le hr hn0)).trans (had r hr)))
  · exact hx.elim

set_option maxHeartbeats 1000000 in
theorem sd_anewarray {k : Nat} (hmF : mF mi = some (y, cc, ml, rt)) (hcx : cx G y cc ml rt p s m args meth c) (hMC : MC ≤ Rm.cells) (hMS : MS ≤ Rm.slots) (ih : Wk l G mi y cc ml rt p e Rm s m args below meth c MC MS ad0 n0 R is) : Wk l G mi y cc ml rt p e Rm s m args below meth c MC MS ad0 n0 R ((.anewarray k, lk) :: is) := by
  intro pc lo st h d mc ms H locs ls cells slots ad hok hx hd1 hd2 hc1 hc2 hw hS hfr hll hst hn0 had
  obtain ⟨HX, HB, hml, hrt, hown, hnm, hts, hlocks, hK, hXb, hbl, hbA, hA, hxs⟩ := hcx
  obtain ⟨j, len, hdec, hlen, hj, hnx⟩ := okL_cons (by intro z; cases z) hok
  simp only [xc] at hx
  simp only [okj] at hj
  split at hj
  · rename_i idx pl
    obtain rfl : 3 = len := hlen
    obtain ⟨l1, l2⟩ := wAt_ok hj
    split at hx
    · rename_i n st
      obtain ⟨⟨m0, m1, m2, m3⟩, hx⟩ := hx
      have hnr : r32 n := g_hd hst
      have hn0' : ¬ Int32.ofInt n < 0 := fun z => absurd ((lt32 hnr (show r32 0 from ⟨by decide, by decide⟩)).mp z) (by omega)
      have hnt : (Int32.ofInt n).toNatClampNeg = n.toNat := by simp only [Int32.toNatClampNeg, to32 hnr]
      rw [List.map_cons]
      show W p l e Rm s m args below meth c H locs cells slots _ (F0 m pc ls (.int (Int32.ofInt n) :: _))
      refine va_newq HX HB hown (hts _ l1 l2) hxs.2.2.2.2.1 hK hw.2.2.2.1 hw.2.2.2.2 hS hA (N' := n.toNat) hn0' hnt (by omega) (by omega) (by omega) hdec (fun q cA H1 hK1 hP1 hD1 hS1 => ?_)
      obtain rfl : cA = gxK G 4 := arr_same hK1 (i := 5) (j := 4) rfl rfl
      have hw1 : wd G (adN ad h.1 q) (hpN h 24 n.toNat) H1 := by
        refine wd_N hw (Or.inr ⟨by decide, by decide⟩) (by omega) ?_ hP1 hD1
        rw [cell_24 (by rw [hpT_N, if_pos rfl]), hpT_N, if_pos rfl]
        simp only [hpC_N, if_true]
        rfl
      rw [← st_ad (g_tl hst) (adN_lt ad h.1 q)]
      refine W_r (r := h.1) (by rw [cv_ref (by have := hw.1.1; omega)]; simp [adN]) ?_
      exact (ih (pc + 3) lo (xR h.1 :: st) (hpN h 24 n.toNat) d _ _ H1 locs ls (cells + 1) (slots + n.toNat) (adN ad h.1 q) hnx (hx _ rfl) hd1 hd2 (by omega) (by omega) hw1 hS1 (fr_ad hfr (Nat.le_succ _) (adN_lt ad h.1 q)) hll (g_cs (Nat.lt_succ_self _) (fun v hv => gV_mono (Nat.le_succ _) ((g_tl hst) v hv))) (Nat.le_succ_of_le hn0) (fun r hr => (adN_lt ad h.1 q r (Nat.lt_of_lt_of_le hr hn0)).trans (had r hr)))
    · exact hx.elim
  · exact absurd hj (by decide)

set_option maxHeartbeats 1000000 in
theorem sd_ireturn  (hmF : mF mi = some (y, cc, ml, rt)) (hcx : cx G y cc ml rt p s m args meth c) (hMC : MC ≤ Rm.cells) (hMS : MS ≤ Rm.slots) (ih : Wk l G mi y cc ml rt p e Rm s m args below meth c MC MS ad0 n0 R is) : Wk l G mi y cc ml rt p e Rm s m args below meth c MC MS ad0 n0 R ((.ireturn, lk) :: is) := by
  intro pc lo st h d mc ms H locs ls cells slots ad hok hx hd1 hd2 hc1 hc2 hw hS hfr hll hst hn0 had
  obtain ⟨HX, HB, hml, hrt, hown, hnm, hts, hlocks, hK, hXb, hbl, hbA, hA, hxs⟩ := hcx
  obtain ⟨j, len, hdec, hlen, hj, hnx⟩ := okL_cons (by intro z; cases z) hok
  replace hj := of_decide_eq_true hj
  obtain ⟨rfl, hj⟩ := hj
  obtain rfl : 1 = len := hlen
  simp only [xc] at hx
  rcases hj with ⟨rfl, hrt'⟩ | ⟨rfl, hrt'⟩
  · split at hx
    · rename_i v hlk
      refine W.widen (k := MC) (n := MS) (by omega) (by omega) ?_
      refine W.iret HX HB (hrt.trans hrt') (fun t ht hW => ⟨⟨some (.inl v), h, ad, hx, by rw [hrt']; rfl, fun v' hv' => ?_, hn0, had, rfl, by rw [ht]; exact hw, va_K.moved hW.alike hK⟩, hS.F ht⟩) (fun q hq => hS.2.2 q hq) hdec hlocks
      cases hv'; exact g_hd hst
    · rename_i hlk; exact absurd hlk (by decide)
    · exact hx.elim
  · split at hx
    · rename_i v hlk; exact absurd hlk (by decide)
    · rename_i v hlk
      obtain ⟨h01, hx⟩ := hx
      refine W.widen (k := MC) (n := MS) (by omega) (by omega) ?_
      refine W.zret HX HB (hrt.trans hrt') (by rcases h01 with rfl | rfl <;> decide) (fun t ht hW => ⟨⟨some (.inl v), h, ad, hx, by rw [hrt']; rfl, fun v' hv' => ?_, hn0, had, rfl, by rw [ht]; exact hw, va_K.moved hW.alike hK⟩, hS.F ht⟩) (fun q hq => hS.2.2 q hq) hdec hlocks
      cases hv'; exact g_hd hst
    · exact hx.elim

set_option maxHeartbeats 1000000 in
theorem sd_lreturn  (hmF : mF mi = some (y, cc, ml, rt)) (hcx : cx G y cc ml rt p s m args meth c) (hMC : MC ≤ Rm.cells) (hMS : MS ≤ Rm.slots) (ih : Wk l G mi y cc ml rt p e Rm s m args below meth c MC MS ad0 n0 R is) : Wk l G mi y cc ml rt p e Rm s m args below meth c MC MS ad0 n0 R ((.lreturn, lk) :: is) := by
  intro pc lo st h d mc ms H locs ls cells slots ad hok hx hd1 hd2 hc1 hc2 hw hS hfr hll hst hn0 had
  obtain ⟨HX, HB, hml, hrt, hown, hnm, hts, hlocks, hK, hXb, hbl, hbA, hA, hxs⟩ := hcx
  obtain ⟨j, len, hdec, hlen, hj, hnx⟩ := okL_cons (by intro z; cases z) hok
  replace hj := of_decide_eq_true hj
  obtain ⟨rfl, hrt'⟩ := hj
  obtain rfl : 1 = len := hlen
  simp only [xc] at hx
  · split at hx
    · rename_i v
      refine W.widen (k := MC) (n := MS) (by omega) (by omega) ?_
      refine W.lret HX HB (hrt.trans hrt') (fun t ht hW => ⟨⟨some (.inr (.inl v)), h, ad, hx, by rw [hrt']; rfl, fun v' hv' => ?_, hn0, had, rfl, by rw [ht]; exact hw, va_K.moved hW.alike hK⟩, hS.F ht⟩) (fun q hq => hS.2.2 q hq) hdec hlocks
      cases hv'; exact g_hd hst
    · exact hx.elim

set_option maxHeartbeats 1000000 in
theorem sd_areturn  (hmF : mF mi = some (y, cc, ml, rt)) (hcx : cx G y cc ml rt p s m args meth c) (hMC : MC ≤ Rm.cells) (hMS : MS ≤ Rm.slots) (ih : Wk l G mi y cc ml rt p e Rm s m args below meth c MC MS ad0 n0 R is) : Wk l G mi y cc ml rt p e Rm s m args below meth c MC MS ad0 n0 R ((.areturn, lk) :: is) := by
  intro pc lo st h d mc ms H locs ls cells slots ad hok hx hd1 hd2 hc1 hc2 hw hS hfr hll hst hn0 had
  obtain ⟨HX, HB, hml, hrt, hown, hnm, hts, hlocks, hK, hXb, hbl, hbA, hA, hxs⟩ := hcx
  obtain ⟨j, len, hdec, hlen, hj, hnx⟩ := okL_cons (by intro z; cases z) hok
  replace hj := of_decide_eq_true hj
  obtain ⟨rfl, hrt'⟩ := hj
  obtain rfl : 1 = len := hlen
  simp only [xc] at hx
  · split at hx
    · rename_i v
      have hvv : cv ad (Sum.inr (Sum.inr v)) = .null ∨ ∃ a, cv ad (Sum.inr (Sum.inr v)) = .ref a := by
        by_cases h0 : v = 0
        · subst h0; exact Or.inl rfl
        · exact Or.inr ⟨_, cv_ref h0⟩
      refine W.widen (k := MC) (n := MS) (by omega) (by omega) ?_
      refine W.aret HX HB (hrt.trans hrt') (Or.inl ⟨_, rfl⟩) hvv (fun t ht hW => ⟨⟨some (.inr (.inr v)), h, ad, hx, by rw [hrt']; rfl, fun v' hv' => ?_, hn0, had, rfl, by rw [ht]; exact hw, va_K.moved hW.alike hK⟩, hS.F ht⟩) (fun q hq => hS.2.2 q hq) hdec hlocks
      cases hv'; exact g_hd hst
    · exact hx.elim

set_option maxHeartbeats 1000000 in
theorem sd_return  (hmF : mF mi = some (y, cc, ml, rt)) (hcx : cx G y cc ml rt p s m args meth c) (hMC : MC ≤ Rm.cells) (hMS : MS ≤ Rm.slots) (ih : Wk l G mi y cc ml rt p e Rm s m args below meth c MC MS ad0 n0 R is) : Wk l G mi y cc ml rt p e Rm s m args below meth c MC MS ad0 n0 R ((.return_, lk) :: is) := by
  intro pc lo st h d mc ms H locs ls cells slots ad hok hx hd1 hd2 hc1 hc2 hw hS hfr hll hst hn0 had
  obtain ⟨HX, HB, hml, hrt, hown, hnm, hts, hlocks, hK, hXb, hbl, hbA, hA, hxs⟩ := hcx
  obtain ⟨j, len, hdec, hlen, hj, hnx⟩ := okL_cons (by intro z; cases z) hok
  replace hj := of_decide_eq_true hj
  obtain ⟨rfl, hrt'⟩ := hj
  obtain rfl : 1 = len := hlen
  simp only [xc] at hx
  · split at hx
    ·
      refine W.widen (k := MC) (n := MS) (by omega) (by omega) ?_
      refine W.vret HX HB (hrt.trans hrt') (fun t ht hW => ⟨⟨none, h, ad, hx, by rw [hrt']; rfl, fun v' hv' => ?_, hn0, had, rfl, by rw [ht]; exact hw, va_K.moved hW.alike hK⟩, hS.F ht⟩) (fun q hq => hS.2.2 q hq) hdec hlocks
      cases hv'
    · exact hx.elim

set_option maxHeartbeats 1000000 in
theorem sd_switch {n1 n2 n3 : Int} {n4 : Array Int} (hmF : mF mi = some (y, cc, ml, rt)) (hcx : cx G y cc ml rt p s m args meth c) (hMC : MC ≤ Rm.cells) (hMS : MS ≤ Rm.slots) (ih : Wk l G mi y cc ml rt p e Rm s m args below meth c MC MS ad0 n0 R is) : Wk l G mi y cc ml rt p e Rm s m args below meth c MC MS ad0 n0 R ((.tableswitch n1 n2 n3 n4, lk) :: is) := by
  intro pc lo st h d mc ms H locs ls cells slots ad hok hx hd1 hd2 hc1 hc2 hw hS hfr hll hst hn0 had
  obtain ⟨HX, HB, hml, hrt, hown, hnm, hts, hlocks, hK, hXb, hbl, hbA, hA, hxs⟩ := hcx
  obtain ⟨j, len, hdec, hlen, hj, hnx⟩ := okL_cons (by intro z; cases z) hok
  simp only [xc] at hx
  simp only [okj] at hj
  split at hx
  · rename_i t ts v st
    have hvr : r32 v := g_hd hst
    rw [List.map_cons]
    show W p l e Rm s m args below meth c H locs cells slots _ (F0 m pc ls (.int (Int32.ofInt v) :: _))
    split at hj
    · rename_i df lo' hi os t' ts' hlk
      cases hlk
      simp only [Bool.and_eq_true, decide_eq_true_eq] at hj
      obtain ⟨⟨hdf, hhi⟩, hts'⟩ := hj
      obtain ⟨s1, s2⟩ := sx_tab os.toList ts lo' hts' hx
      by_cases hout : v < lo' ∨ hi < v
      · have hx' := s1 (by omega)
        exact lv_tableOut HX HB hdec (by rw [to32 hvr]; exact hout) hdf (hx' y cc ml rt p e Rm s m args below meth c H locs ls cells slots MC MS ad ad0 n0 hmF ⟨HX, HB, hml, hrt, hown, hnm, hts, hlocks, hK, hXb, hbl, hbA, hA, hxs⟩ hd1 hd2 hc1 hc2 hMC hMS hw hS hfr hll (g_tl hst) hn0 had)
      · obtain ⟨n, hn⟩ : ∃ n : Nat, v = lo' + (n : Int) := ⟨(v - lo').toNat, by omega⟩
        have hlt : n < os.toList.length := by omega
        obtain ⟨t2, ht2, hx'⟩ := s2 n _ hn (List.getElem?_eq_getElem hlt)
        refine lv_tableIn (off := os.toList[n]) HX HB hdec (by rw [to32 hvr]; omega) (by rw [to32 hvr]; omega) ?_ ht2 (hx' y cc ml rt p e Rm s m args below meth c H locs ls cells slots MC MS ad ad0 n0 hmF ⟨HX, HB, hml, hrt, hown, hnm, hts, hlocks, hK, hXb, hbl, hbA, hA, hxs⟩ hd1 hd2 hc1 hc2 hMC hMS hw hS hfr hll (g_tl hst) hn0 had)
        rw [to32 hvr, show (v - lo').toNat = n by omega, ← Array.getElem?_toList]
        exact List.getElem?_eq_getElem hlt
    · rename_i df ps t' ts' hlk
      cases hlk
      simp only [Bool.and_eq_true, decide_eq_true_eq] at hj
      obtain ⟨hdf, hps, hls⟩ := hj
      rcases sx_look df ps.toList ts hls hx with ⟨e1, hx'⟩ | ⟨t2, e1, hx'⟩
      · exact lv_lookup HX HB hdec hps (by rw [to32 hvr]; exact e1) hdf (hx' y cc ml rt p e Rm s m args below meth c H locs ls cells slots MC MS ad ad0 n0 hmF ⟨HX, HB, hml, hrt, hown, hnm, hts, hlocks, hK, hXb, hbl, hbA, hA, hxs⟩ hd1 hd2 hc1 hc2 hMC hMS hw hS hfr hll (g_tl hst) hn0 had)
      · exact lv_lookup HX HB hdec hps (by rw [to32 hvr]) e1 (hx' y cc ml rt p e Rm s m args below meth c H locs ls cells slots MC MS ad ad0 n0 hmF ⟨HX, HB, hml, hrt, hown, hnm, hts, hlocks, hK, hXb, hbl, hbA, hA, hxs⟩ hd1 hd2 hc1 hc2 hMC hMS hw hS hfr hll (g_tl hst) hn0 had)
    · exact absurd hj (by decide)
  · exact hx.elim

end SND3

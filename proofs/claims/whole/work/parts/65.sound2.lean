/-! ===== soundness, cells (by program wip/whole/gensnd2.py) ===== -/
theorem cv_mk (ad : Nat → Nat) : ∀ (ty : Nat) (v : Int), cv ad (x_mk ty v) = vOf ad ty v
  | 0, _ => rfl
  | 1, _ => rfl
  | 2, v => by
    show va_rf (rOf ad ((v.toNat : Nat) : Int)) = va_rf (rOf ad v)
    unfold rOf
    rw [Int.toNat_natCast]
  | _ + 3, _ => rfl
theorem gV_mk {n : Nat} : ∀ {ty : Nat} {v : Int}, gP n ty v → gV n (x_mk ty v)
  | 0, _, h => h
  | 1, _, h => h
  | 2, v, h => by
    show v.toNat < n
    have h : 0 ≤ v ∧ v < (n : Int) := h
    omega
  | _ + 3, _, h => h
theorem W_v {p : Program} {l : Launch} {e : Env} {R : Room} {s : State} {m : MethodId} {args : Array Value} {below : List Frame} {meth : Method} {c : Code} {H : Heap} {locs : List Loc} {cells slots : Nat} {Q : State → Prop} {pc : Nat} {ls : Array Slot} {st : List AV} {ad : Nat → Nat} {a : Value} {v : AV} (he : cv ad v = a) (k : W p l e R s m args below meth c H locs cells slots Q (F0 m pc ls ((v :: st).map (cv ad)))) : W p l e R s m args below meth c H locs cells slots Q (F0 m pc ls (a :: st.map (cv ad))) := by subst he; exact k
theorem vw_lt {ci : Nat} {q : vw_C} (h : vwCl[ci]? = some q) : ci < 12 := (List.getElem?_eq_some_iff.mp h).1
theorem okF_ok {own : String} {idx K k ty pl : Nat} (h : okF own idx K k ty pl = true) : ∃ (C : String) (T : u_T) (N : Nat), vwCl[K - 1]? = some (C, T, N) ∧ 0 < K ∧ k < N ∧ fT (K - 1) k = ty ∧ Cond.fieldLink own idx (T k).1 (T k).2.1 (T k).2.2.1 ∈ lw_tbl ∧ goodWord (Cond.fieldLink own idx (T k).1 (T k).2.1 (T k).2.2.1) = true := by
  unfold okF at h
  split at h
  · rename_i C T N hv
    simp only [Bool.and_eq_true, decide_eq_true_eq] at h
    exact ⟨C, T, N, hv, blt_lt h.1, blt_lt h.2.1, h.2.2.1, (wAt_ok h.2.2.2).1, (wAt_ok h.2.2.2).2⟩
  · exact absurd h (by decide)
theorem nF_eq {ci : Nat} {C : String} {T : u_T} {N : Nat} (h : vwCl[ci]? = some (C, T, N)) : nF ci = N := by
  unfold nF; rw [h]
theorem cell_o {G : GX} {ad : Nat → Nat} {h : Hp} {r K : Nat} (hK : (hpT h r).1 = K) (h1 : K < 20) : cellOf G ad h r = .inr (K - 1, (List.range (nF (K - 1))).map (fun k => vOf ad (fT (K - 1) k) (hpC h r k))) := by
  unfold cellOf
  rw [hK, if_neg (by omega), if_neg (by omega), if_neg (by omega), if_neg (by omega), if_neg (by omega)]
theorem cell_20 {G : GX} {ad : Nat → Nat} {h : Hp} {r : Nat} (hK : (hpT h r).1 = 20) : cellOf G ad h r = .inl (gxK G 0, (hpT h r).2, .inl (fun j => Int32.ofInt (hpC h r j))) := by
  unfold cellOf
  rw [if_pos hK]
theorem cell_21 {G : GX} {ad : Nat → Nat} {h : Hp} {r : Nat} (hK : (hpT h r).1 = 21) : cellOf G ad h r = .inl (gxK G 1, (hpT h r).2, .inr (.inl (fun j => Int64.ofInt (hpC h r j)))) := by
  unfold cellOf
  rw [if_neg (by omega), if_pos hK]
theorem cell_22 {G : GX} {ad : Nat → Nat} {h : Hp} {r : Nat} (hK : (hpT h r).1 = 22) : cellOf G ad h r = .inl (gxK G 2, (hpT h r).2, .inl (fun j => Int32.ofInt (hpC h r j))) := by
  unfold cellOf
  rw [if_neg (by omega), if_neg (by omega), if_pos hK]
theorem cell_23 {G : GX} {ad : Nat → Nat} {h : Hp} {r : Nat} (hK : (hpT h r).1 = 23) : cellOf G ad h r = .inl (gxK G 3, (hpT h r).2, .inl (fun j => Int32.ofInt (hpC h r j))) := by
  unfold cellOf
  rw [if_neg (by omega), if_neg (by omega), if_neg (by omega), if_pos hK]
theorem cell_24 {G : GX} {ad : Nat → Nat} {h : Hp} {r : Nat} (hK : (hpT h r).1 = 24) : cellOf G ad h r = .inl (gxK G 4, (hpT h r).2, .inr (.inr (.inr (.inr (fun j => rOf ad (hpC h r j)))))) := by
  unfold cellOf
  rw [if_neg (by omega), if_neg (by omega), if_neg (by omega), if_neg (by omega), if_pos hK]
theorem cell_other {G : GX} {ad : Nat → Nat} {h h' : Hp} {q : Nat} (hT : hpT h' q = hpT h q) (hC : ∀ p, hpC h' q p = hpC h q p) : cellOf G ad h' q = cellOf G ad h q := by
  unfold cellOf
  rw [hT]
  simp only [hC]
theorem wd_put {G : GX} {ad : Nat → Nat} {h : Hp} {H H1 : Heap} (hw : wd G ad h H) {r p : Nat} {v : Int} (h3 : 3 ≤ r) (hr : r < h.1) (hg : gP h.1 (pk (hpT h r).1 p) v) {E : va_E} (hE : cellOf G ad (hpU h r p v) r = E) (hP1 : va_P (gxD G) vwCl ((wo G ad h).set (r - 3) (ad r, E)) H1) (hD1 : va_D (gxA G) ((wo G ad h).set (r - 3) (ad r, E))) : wd G ad (hpU h r p v) H1 := by
  have e : wo G ad (hpU h r p v) = (wo G ad h).set (r - 3) (ad r, E) := by
    rw [← hE]
    refine wo_set rfl h3 hr (fun q hq => cell_other rfl (fun p' => ?_))
    rw [hpC_U, if_neg (fun z => hq z.1)]
  exact ⟨gH_up hw.1 h3 hg, hw.2.1, hw.2.2.1, by rw [e]; exact hP1, by rw [e]; exact hD1⟩
theorem wd_Y {G : GX} {ad : Nat → Nat} {h : Hp} {H H1 : Heap} (hw : wd G ad h H) {a sp r dp n : Nat} (ha3 : 3 ≤ a) (ha : a < h.1) (h3 : 3 ≤ r) (hr : r < h.1) (hk : ∀ p q, pk (hpT h r).1 p = pk (hpT h a).1 q) {E : va_E} (hE : cellOf G ad (hpY h a sp r dp n) r = E) (hP1 : va_P (gxD G) vwCl ((wo G ad h).set (r - 3) (ad r, E)) H1) (hD1 : va_D (gxA G) ((wo G ad h).set (r - 3) (ad r, E))) : wd G ad (hpY h a sp r dp n) H1 := by
  have e : wo G ad (hpY h a sp r dp n) = (wo G ad h).set (r - 3) (ad r, E) := by
    rw [← hE]
    refine wo_set rfl h3 hr (fun q hq => cell_other rfl (fun p' => ?_))
    rw [hpC_Y, if_neg (fun z => hq z.1)]
  exact ⟨gH_Y hw.1 h3 ha3 ha hk, hw.2.1, hw.2.2.1, by rw [e]; exact hP1, by rw [e]; exact hD1⟩
/-- the address of a new cell -/
def adN (ad : Nat → Nat) (n q : Nat) : Nat → Nat := fun r => if r = n then q else ad r
theorem adN_lt (ad : Nat → Nat) (n q : Nat) : ∀ r, r < n → adN ad n q r = ad r := fun r hr => by unfold adN; rw [if_neg (by omega)]
theorem wd_N {G : GX} {ad : Nat → Nat} {h : Hp} {H H1 : Heap} (hw : wd G ad h H) {K len q : Nat} (hK : (1 ≤ K ∧ K ≤ 12) ∨ (20 ≤ K ∧ K ≤ 24)) (hl : len < 2147483648) {E : va_E} (hE : cellOf G (adN ad h.1 q) (hpN h K len) h.1 = E) (hP1 : va_P (gxD G) vwCl (wo G ad h ++ [(q, E)]) H1) (hD1 : va_D (gxA G) (wo G ad h ++ [(q, E)])) : wd G (adN ad h.1 q) (hpN h K len) H1 := by
  have g1 := hw.1.1
  have e : wo G (adN ad h.1 q) (hpN h K len) = wo G ad h ++ [(q, E)] := by
    rw [wo_push g1 rfl (adN_lt ad h.1 q) (fun r h1 h2 => cell_eq (n := h.1) (adN_lt ad h.1 q) (fun p => hw.1.2.2.2.2.2.2 r p h1 h2) (by rw [hpT_N, if_neg (by omega)]) (fun p => by rw [hpC_N, if_neg (by omega)])), hE]
    simp [adN]
  refine ⟨gH_N hw.1 hK hl, ?_, ?_, by rw [e]; exact hP1, by rw [e]; exact hD1⟩
  · rw [adN_lt _ _ _ _ (by omega)]; exact hw.2.1
  · rw [adN_lt _ _ _ _ (by omega)]; exact hw.2.2.1
theorem up_i {h : Hp} {r k : Nat} {v : Int} : (fun j => Int32.ofInt (hpC (hpU h r k v) r j)) = upd (fun j => Int32.ofInt (hpC h r j)) k (Int32.ofInt v) := by
  funext j
  rw [hpC_U]
  unfold upd
  by_cases e : j = k
  · rw [if_pos ⟨rfl, e⟩, if_pos e]
  · rw [if_neg (fun z => e z.2), if_neg e]
theorem up_l {h : Hp} {r k : Nat} {v : Int} : (fun j => Int64.ofInt (hpC (hpU h r k v) r j)) = vp_updL (fun j => Int64.ofInt (hpC h r j)) k (Int64.ofInt v) := by
  funext j
  rw [hpC_U]
  unfold vp_updL
  by_cases e : j = k
  · rw [if_pos ⟨rfl, e⟩, if_pos e]
  · rw [if_neg (fun z => e z.2), if_neg e]
theorem up_q {ad : Nat → Nat} {h : Hp} {r k : Nat} {v : Int} : (fun j => rOf ad (hpC (hpU h r k v) r j)) = va_up (fun j => rOf ad (hpC h r j)) k (rOf ad v) := by
  funext j
  rw [hpC_U]
  unfold va_up
  by_cases e : j = k
  · rw [if_pos ⟨rfl, e⟩, if_pos e]
  · rw [if_neg (fun z => e z.2), if_neg e]
theorem is25 {G : GX} {h : Hp} (g : gH G h) {r : Nat} (hK : (hpT h r).1 = 25) : r = 1 := by
  obtain ⟨g1, g2, g3, g4, g5, g6, g7⟩ := g
  rcases r with _ | _ | _ | r
  · rw [g2] at hK; exact absurd hK (by decide)
  · rfl
  · rw [g6.1] at hK; exact absurd hK (by decide)
  · rcases Nat.lt_or_ge (r + 3) h.1 with q | q
    · have := (g4 (r + 3) (by omega) q).1
      have hK' : (hpT h (r + 3)).1 = 25 := hK
      omega
    · rw [g3 _ q] at hK; exact absurd hK (by decide)
theorem pk_20 (p : Nat) : pk 20 p = 0 := rfl
theorem pk_21 (p : Nat) : pk 21 p = 1 := rfl
theorem pk_22 (p : Nat) : pk 22 p = 0 := rfl
theorem pk_23 (p : Nat) : pk 23 p = 0 := rfl
theorem pk_24 (p : Nat) : pk 24 p = 2 := rfl
theorem pk_o {K : Nat} (h : K < 20) (p : Nat) : pk K p = fT (K - 1) p := by unfold pk; rw [if_neg (by omega), if_neg (by omega), if_pos h]
section SND2
variable {l : Launch} {G : GX} {mi : Nat} {y : MethodName} {cc : ByteArray} {ml : Nat} {rt : Option FieldType} {p : Program} {e : Env} {Rm : Room} {s : State} {m : MethodId} {args : Array Value} {below : List Frame} {meth : Method} {c : Code} {MC MS : Nat} {ad0 : Nat → Nat} {n0 : Nat} {R : PR} {is : List AI} {lk : List Nat}
set_option maxHeartbeats 1000000 in
theorem sd_getfield {n : Nat} (hmF : mF mi = some (y, cc, ml, rt)) (hcx : cx G y cc ml rt p s m args meth c) (hMC : MC ≤ Rm.cells) (hMS : MS ≤ Rm.slots) (ih : Wk l G mi y cc ml rt p e Rm s m args below meth c MC MS ad0 n0 R is) : Wk l G mi y cc ml rt p e Rm s m args below meth c MC MS ad0 n0 R ((.getfield n, lk) :: is) := by
  intro pc lo st h d mc ms H locs ls cells slots ad hok hx hd1 hd2 hc1 hc2 hw hS hfr hll hst hn0 had
  obtain ⟨HX, HB, hml, hrt, hown, hnm, hts, hlocks, hK, hXb, hbl, hbA, hA, hxs⟩ := hcx
  obtain ⟨j, len, hdec, hlen, hj, hnx⟩ := okL_cons (by intro z; cases z) hok
  simp only [xc] at hx
  simp only [okj] at hj
  split at hj
  · rename_i idx K k ty pl
    obtain rfl : 3 = len := hlen
    obtain ⟨C, T, N, hv, hK0, hkN, hty, hl1, hl2⟩ := okF_ok hj
    have hc12 := vw_lt hv
    split at hx
    · rename_i K' k' ty' tl r st hlk
      cases hlk
      obtain ⟨hr, hx⟩ := hx
      obtain ⟨r3, rn⟩ := gH_in hw.1 hr (by omega) (by omega) (by omega)
      have hc := cls_ok _ _ _ _ hv
      have he := wo_at (G := G) (ad := ad) r3 rn
      rw [cell_o hr (by omega), nF_eq hv] at he
      rw [List.map_cons, show cv ad (Sum.inr (Sum.inr r)) = .ref (ad r) from cv_ref (by omega)]
      have hgp := hw.1.2.2.2.2.2.2 r k r3 rn
      rw [hr, pk_o (by omega), hty] at hgp
      refine va_get HX HB (fun w hw' => hts w (lwg_in hw').1 (lwg_in hw').2) hc.1 hown hK hw.2.2.2.1 (r - 3) he hv k hkN (hts _ hl1 hl2) (fun x hx => hx) (v := vOf ad ty (hpC h r k)) ?_ hdec ?_
      · rw [List.getElem?_map, List.getElem?_range hkN, Option.map_some, hty]
      · exact W_v (cv_mk ad ty _) (ih (pc + 3) lo (x_mk ty (hpC h r k) :: st) h d mc ms H locs ls cells slots ad hnx hx hd1 hd2 hc1 hc2 hw hS hfr hll (g_cs (gV_mk hgp) (g_tl hst)) hn0 had)
    · exact hx.elim
  · exact absurd hj (by decide)

theorem sd_put1 (hcx : cx G y cc ml rt p s m args meth c) {pc : Nat} {h : Hp} {H : Heap} {locs : List Loc} {ls : Array Slot} {cells slots : Nat} {ad : Nat → Nat} {st : List Value} {idx K k ty pl r : Nat} {v : Value} {x : Int} {Q : State → Prop}
    (hdec : decode cc pc = .ok (.putfield idx, 3)) (hF : okF y.cls idx K k ty pl = true) (hFin : okFin y K k = true) (hw : wd G ad h H) (hS : va_S (gxA G) s.heap H locs) (hr : (hpT h r).1 = K) (hg : gP h.1 ty x) (hvv : vOf ad ty x = v) (hnar : narrow (tyC (K - 1) k) v = v) (hfit : fits (tyC (K - 1) k) v = true)
    (kk : ∀ (H1 : Heap) (locs1 : List Loc), wd G ad (hpU h r k x) H1 → va_S (gxA G) s.heap H1 locs1 → W p l e Rm s m args below meth c H1 locs1 cells slots Q (F0 m (pc + 3) ls st)) :
    W p l e Rm s m args below meth c H locs cells slots Q (F0 m pc ls (v :: .ref (ad r) :: st)) := by
  obtain ⟨HX, HB, hml, hrt, hown, hnm, hts, hlocks, hK, hXb, hbl, hbA, hA, hxs⟩ := hcx
  obtain ⟨C, T, N, hv, hK0, hkN, hty, hl1, hl2⟩ := okF_ok hF
  have hc12 := vw_lt hv
  obtain ⟨r3, rn⟩ := gH_in hw.1 hr (by omega) (by omega) (by omega)
  have hc := cls_ok _ _ _ _ hv
  have he := wo_at (G := G) (ad := ad) r3 rn
  rw [cell_o hr (by omega), nF_eq hv] at he
  have hgp : gP h.1 (pk (hpT h r).1 k) x := by rw [hr, pk_o (by omega), hty]; exact hg
  have hE : cellOf G ad (hpU h r k x) r = .inr (K - 1, ((List.range N).map (fun k => vOf ad (fT (K - 1) k) (hpC h r k))).set k v) := by
    rw [cell_o (K := K) (by rw [hpT_U]; exact hr) (by omega), nF_eq hv]
    congr 2
    rw [map_set (f := fun k => vOf ad (fT (K - 1) k) (hpC h r k)) hkN (fun j hj => by rw [hpC_U, if_neg (fun z => hj z.2)])]
    congr 1
    rw [hpC_U, if_pos ⟨rfl, rfl⟩, hty, hvv]
  unfold okFin at hFin
  rw [hv] at hFin
  simp only at hFin
  split at hFin
  · rename_i hfin
    refine va_put HX HB (fun w hw' => hts w (lwg_in hw').1 (lwg_in hw').2) hc.1 _ hc.2.1 hc.2.2.1 hown hK hw.2.2.2.1 hw.2.2.2.2 hS (r - 3) he hv k hkN (hts _ hl1 hl2) (fun x hx => hx) hfin (hc.2.1 k hkN) hnar hfit (by simp [hkN]) hdec (fun H1 locs1 hP1 hD1 hS1 => ?_)
    exact kk H1 locs1 (wd_put hw r3 rn hgp hE hP1 hD1) hS1
  · rename_i hfin
    have hFin := of_decide_eq_true hFin
    refine va_putF HX HB (fun w hw' => hts w (lwg_in hw').1 (lwg_in hw').2) hc.1 _ hc.2.1 hc.2.2.1 hown hK hw.2.2.2.1 hw.2.2.2.2 hS (r - 3) he hv k hkN (hts _ hl1 hl2) (fun x hx => hx) hfin (hnm hFin.1) hFin.2 (hc.2.1 k hkN) hnar hfit (by simp [hkN]) hdec (fun H1 locs1 hP1 hD1 hS1 => ?_)
    exact kk H1 locs1 (wd_put hw r3 rn hgp hE hP1 hD1) hS1
theorem fT_0 {ci k : Nat} (h : fT ci k = 0) : tyC ci k = .int := by
  unfold fT at h
  split at h <;> first | assumption | exact absurd h (by decide)
theorem fT_1 {ci k : Nat} (h : fT ci k = 1) : tyC ci k = .long := by
  unfold fT at h
  split at h <;> first | assumption | exact absurd h (by decide)
theorem fT_3 {ci k : Nat} (h : fT ci k = 3) : tyC ci k = .boolean := by
  unfold fT at h
  split at h <;> first | assumption | exact absurd h (by decide)
theorem fT_2 {ci k : Nat} (hc : ci < 12) (hk : k < nF ci) (h : fT ci k = 2) (v : Option Nat) : narrow (tyC ci k) (va_rf v) = va_rf v ∧ fits (tyC ci k) (va_rf v) = true := by
  have h1 := fT_ref ci hc k (Nat.lt_trans hk (nF_lt ci hc)) h
  split at h1
  · rename_i e; rw [e]; cases v <;> exact ⟨rfl, rfl⟩
  · rename_i e; rw [e]; cases v <;> exact ⟨rfl, rfl⟩
  · exact absurd h1 (by decide)
set_option maxHeartbeats 1000000 in
theorem sd_putfield {n : Nat} (hmF : mF mi = some (y, cc, ml, rt)) (hcx : cx G y cc ml rt p s m args meth c) (hMC : MC ≤ Rm.cells) (hMS : MS ≤ Rm.slots) (ih : Wk l G mi y cc ml rt p e Rm s m args below meth c MC MS ad0 n0 R is) : Wk l G mi y cc ml rt p e Rm s m args below meth c MC MS ad0 n0 R ((.putfield n, lk) :: is) := by
  intro pc lo st h d mc ms H locs ls cells slots ad hok hx hd1 hd2 hc1 hc2 hw hS hfr hll hst hn0 had
  obtain ⟨HX, HB, hml, hrt, hown, hnm, hts, hlocks, hK, hXb, hbl, hbA, hA, hxs⟩ := hcx
  obtain ⟨j, len, hdec, hlen, hj, hnx⟩ := okL_cons (by intro z; cases z) hok
  simp only [xc] at hx
  simp only [okj] at hj
  split at hj
  · rename_i idx K k ty pl
    obtain rfl : 3 = len := hlen
    simp only [Bool.and_eq_true] at hj
    split at hx
    · rename_i K' k' tl v r st hlk
      cases hlk
      obtain ⟨hr, hx⟩ := hx
      have hvr : gV h.1 (.inl v) := g_hd hst
      obtain ⟨C, T, N, hv, hK0, hkN, hty, hl1, hl2⟩ := okF_ok hj.1
      have hc12 := vw_lt hv
      have r0 : r ≠ 0 := by
        have := gH_in hw.1 hr (by omega) (by omega) (by omega); omega
      rw [List.map_cons, List.map_cons, show cv ad (Sum.inr (Sum.inr r)) = .ref (ad r) from cv_ref r0]
      obtain ⟨hn1, hn2⟩ : narrow (tyC (K - 1) k) (.int (Int32.ofInt v)) = .int (Int32.ofInt v) ∧ fits (tyC (K - 1) k) (.int (Int32.ofInt v)) = true := by rw [fT_0 hty]; exact ⟨rfl, rfl⟩
      refine sd_put1 (x := v) ⟨HX, HB, hml, hrt, hown, hnm, hts, hlocks, hK, hXb, hbl, hbA, hA, hxs⟩ hdec hj.1 hj.2 hw hS hr hvr rfl hn1 hn2 (fun H1 locs1 hw1 hS1 => ?_)
      exact (ih (pc + 3) lo st (hpU h r _ v) d mc ms H1 locs1 ls cells slots ad hnx (hx _ rfl) hd1 hd2 hc1 hc2 hw1 hS1 hfr hll (g_tl (g_tl hst)) hn0 had)
    · rename_i K' k' tl v r st hlk
      cases hlk
      obtain ⟨hr, hx⟩ := hx
      have hvr : gV h.1 (.inr (.inl v)) := g_hd hst
      obtain ⟨C, T, N, hv, hK0, hkN, hty, hl1, hl2⟩ := okF_ok hj.1
      have hc12 := vw_lt hv
      have r0 : r ≠ 0 := by
        have := gH_in hw.1 hr (by omega) (by omega) (by omega); omega
      rw [List.map_cons, List.map_cons, show cv ad (Sum.inr (Sum.inr r)) = .ref (ad r) from cv_ref r0]
      obtain ⟨hn1, hn2⟩ : narrow (tyC (K - 1) k) (.long (Int64.ofInt v)) = .long (Int64.ofInt v) ∧ fits (tyC (K - 1) k) (.long (Int64.ofInt v)) = true := by rw [fT_1 hty]; exact ⟨rfl, rfl⟩
      refine sd_put1 (x := v) ⟨HX, HB, hml, hrt, hown, hnm, hts, hlocks, hK, hXb, hbl, hbA, hA, hxs⟩ hdec hj.1 hj.2 hw hS hr hvr rfl hn1 hn2 (fun H1 locs1 hw1 hS1 => ?_)
      exact (ih (pc + 3) lo st (hpU h r _ v) d mc ms H1 locs1 ls cells slots ad hnx (hx _ rfl) hd1 hd2 hc1 hc2 hw1 hS1 hfr hll (g_tl (g_tl hst)) hn0 had)
    · rename_i K' k' tl v r st hlk
      cases hlk
      obtain ⟨hr, hx⟩ := hx
      have hvr : gV h.1 (.inr (.inr v)) := g_hd hst
      obtain ⟨C, T, N, hv, hK0, hkN, hty, hl1, hl2⟩ := okF_ok hj.1
      have hc12 := vw_lt hv
      have r0 : r ≠ 0 := by
        have := gH_in hw.1 hr (by omega) (by omega) (by omega); omega
      rw [List.map_cons, List.map_cons, show cv ad (Sum.inr (Sum.inr r)) = .ref (ad r) from cv_ref r0]
      obtain ⟨hn1, hn2⟩ := fT_2 hc12 (by rw [nF_eq hv]; exact hkN) hty (rOf ad (v : Int))
      refine sd_put1 (x := (v : Int)) ⟨HX, HB, hml, hrt, hown, hnm, hts, hlocks, hK, hXb, hbl, hbA, hA, hxs⟩ hdec hj.1 hj.2 hw hS hr (show 0 ≤ (v : Int) ∧ (v : Int) < (h.1 : Int) by have : v < h.1 := hvr; omega) rfl hn1 hn2 (fun H1 locs1 hw1 hS1 => ?_)
      exact (ih (pc + 3) lo st (hpU h r _ (v : Int)) d mc ms H1 locs1 ls cells slots ad hnx (hx _ rfl) hd1 hd2 hc1 hc2 hw1 hS1 hfr hll (g_tl (g_tl hst)) hn0 had)
    · rename_i K' k' tl v r st hlk
      cases hlk
      obtain ⟨hr, h01, hx⟩ := hx
      have hvr : gV h.1 (.inl v) := g_hd hst
      obtain ⟨C, T, N, hv, hK0, hkN, hty, hl1, hl2⟩ := okF_ok hj.1
      have hc12 := vw_lt hv
      have r0 : r ≠ 0 := by
        have := gH_in hw.1 hr (by omega) (by omega) (by omega); omega
      rw [List.map_cons, List.map_cons, show cv ad (Sum.inr (Sum.inr r)) = .ref (ad r) from cv_ref r0]
      obtain ⟨hn1, hn2⟩ : narrow (tyC (K - 1) k) (.int (Int32.ofInt v)) = .int (Int32.ofInt v) ∧ fits (tyC (K - 1) k) (.int (Int32.ofInt v)) = true := by rw [fT_3 hty]; rcases h01 with rfl | rfl <;> exact ⟨by decide, by decide⟩
      refine sd_put1 (x := v) ⟨HX, HB, hml, hrt, hown, hnm, hts, hlocks, hK, hXb, hbl, hbA, hA, hxs⟩ hdec hj.1 hj.2 hw hS hr hvr rfl hn1 hn2 (fun H1 locs1 hw1 hS1 => ?_)
      exact (ih (pc + 3) lo st (hpU h r _ v) d mc ms H1 locs1 ls cells slots ad hnx (hx _ rfl) hd1 hd2 hc1 hc2 hw1 hS1 hfr hll (g_tl (g_tl hst)) hn0 had)
    · exact hx.elim
  · exact absurd hj (by decide)

set_option maxHeartbeats 1000000 in
theorem sd_iaload  (hmF : mF mi = some (y, cc, ml, rt)) (hcx : cx G y cc ml rt p s m args meth c) (hMC : MC ≤ Rm.cells) (hMS : MS ≤ Rm.slots) (ih : Wk l G mi y cc ml rt p e Rm s m args below meth c MC MS ad0 n0 R is) : Wk l G mi y cc ml rt p e Rm s m args below meth c MC MS ad0 n0 R ((.iaload, lk) :: is) := by
  intro pc lo st h d mc ms H locs ls cells slots ad hok hx hd1 hd2 hc1 hc2 hw hS hfr hll hst hn0 had
  obtain ⟨HX, HB, hml, hrt, hown, hnm, hts, hlocks, hK, hXb, hbl, hbA, hA, hxs⟩ := hcx
  obtain ⟨j, len, hdec, hlen, hj, hnx⟩ := okL_cons (by intro z; cases z) hok
  have hj := of_decide_eq_true hj
  obtain ⟨rfl, hlk⟩ := hj
  obtain rfl : 1 = len := hlen
  simp only [xc] at hx
  split at hx
  · rename_i K i r st
    obtain ⟨⟨hr, hi0, hi1⟩, hx⟩ := hx
    rcases hlk with hlk | hlk
    · cases hlk
      obtain ⟨r3, rn⟩ := gH_in hw.1 hr (by omega) (by omega) (by omega)
      have he := wo_at (G := G) (ad := ad) r3 rn
      rw [cell_20 hr] at he
      rw [List.map_cons, List.map_cons, show cv ad (Sum.inr (Sum.inr r)) = .ref (ad r) from cv_ref (by omega)]
      have hir : r32 i := g_hd hst
      obtain ⟨hin, hnt⟩ := in32 hir hi0 hi1
      have hgp := hw.1.2.2.2.2.2.2 r i.toNat r3 rn
      rw [hr, pk_20] at hgp
      refine va_iald HX HB hK hw.2.2.2.1 (r - 3) 0 he rfl hin hdec ?_
      rw [hnt]
      exact W_i rfl (ih (pc + 1) lo (xI (hpC h r i.toNat) :: st) h d mc ms H locs ls cells slots ad hnx hx hd1 hd2 hc1 hc2 hw hS hfr hll (g_cs hgp (g_tl (g_tl hst))) hn0 had)
    · cases hlk
      obtain rfl := is25 hw.1 hr
      have h1 := hw.1.2.2.2.2.1
      rw [h1.1] at hi1
      have hir : r32 i := g_hd hst
      obtain ⟨hin, hnt⟩ := in32 hir hi0 hi1
      rw [List.map_cons, List.map_cons, show cv ad (Sum.inr (Sum.inr 1)) = .ref (ad 1) from cv_ref (by decide), hw.2.1]
      have e1 : hpC h 1 i.toNat = (gxX G i.toNat).toInt := h1.2.2 i.toNat (by have hi1 : i < (gxL G : Int) := hi1; omega)
      refine va_sld HX HB hXb hbl hbA hS hin hdec ?_
      rw [hnt]
      exact W_i (by rw [e1]; exact o32 _) (ih (pc + 1) lo (xI (hpC h 1 i.toNat) :: st) h d mc ms H locs ls cells slots ad hnx hx hd1 hd2 hc1 hc2 hw hS hfr hll (g_cs (by rw [e1]; exact r32_to _) (g_tl (g_tl hst))) hn0 had)
  · exact hx.elim

set_option maxHeartbeats 1000000 in
theorem sd_laload  (hmF : mF mi = some (y, cc, ml, rt)) (hcx : cx G y cc ml rt p s m args meth c) (hMC : MC ≤ Rm.cells) (hMS : MS ≤ Rm.slots) (ih : Wk l G mi y cc ml rt p e Rm s m args below meth c MC MS ad0 n0 R is) : Wk l G mi y cc ml rt p e Rm s m args below meth c MC MS ad0 n0 R ((.laload, lk) :: is) := by
  intro pc lo st h d mc ms H locs ls cells slots ad hok hx hd1 hd2 hc1 hc2 hw hS hfr hll hst hn0 had
  obtain ⟨HX, HB, hml, hrt, hown, hnm, hts, hlocks, hK, hXb, hbl, hbA, hA, hxs⟩ := hcx
  obtain ⟨j, len, hdec, hlen, hj, hnx⟩ := okL_cons (by intro z; cases z) hok
  have hj := of_decide_eq_true hj
  subst hj
  obtain rfl : 1 = len := hlen
  simp only [xc] at hx
  split at hx
  · rename_i i r st
    obtain ⟨⟨hr, hi0, hi1⟩, hx⟩ := hx
    obtain ⟨r3, rn⟩ := gH_in hw.1 hr (by omega) (by omega) (by omega)
    have he := wo_at (G := G) (ad := ad) r3 rn
    rw [cell_21 hr] at he
    rw [List.map_cons, List.map_cons, show cv ad (Sum.inr (Sum.inr r)) = .ref (ad r) from cv_ref (by omega)]
    have hir : r32 i := g_hd hst
    obtain ⟨hin, hnt⟩ := in32 hir hi0 hi1
    have hgp := hw.1.2.2.2.2.2.2 r i.toNat r3 rn
    rw [hr, pk_21] at hgp
    refine va_lald HX HB hK hw.2.2.2.1 (r - 3) 1 he rfl hin hdec ?_
    rw [hnt]
    exact W_l rfl (ih (pc + 1) lo (xL (hpC h r i.toNat) :: st) h d mc ms H locs ls cells slots ad hnx hx hd1 hd2 hc1 hc2 hw hS hfr hll (g_cs hgp (g_tl (g_tl hst))) hn0 had)
  · exact hx.elim

set_option maxHeartbeats 1000000 in
theorem sd_baload  (hmF : mF mi = some (y, cc, ml, rt)) (hcx : cx G y cc ml rt p s m args meth c) (hMC : MC ≤ Rm.cells) (hMS : MS ≤ Rm.slots) (ih : Wk l G mi y cc ml rt p e Rm s m args below meth c MC MS ad0 n0 R is) : Wk l G mi y cc ml rt p e Rm s m args below meth c MC MS ad0 n0 R ((.baload, lk) :: is) := by
  intro pc lo st h d mc ms H locs ls cells slots ad hok hx hd1 hd2 hc1 hc2 hw hS hfr hll hst hn0 had
  obtain ⟨HX, HB, hml, hrt, hown, hnm, hts, hlocks, hK, hXb, hbl, hbA, hA, hxs⟩ := hcx
  obtain ⟨j, len, hdec, hlen, hj, hnx⟩ := okL_cons (by intro z; cases z) hok
  have hj := of_decide_eq_true hj
  obtain ⟨rfl, hlk⟩ := hj
  obtain rfl : 1 = len := hlen
  simp only [xc] at hx
  split at hx
  · rename_i K i r st
    obtain ⟨⟨hr, hi0, hi1⟩, hx⟩ := hx
    rcases hlk with hlk | hlk
    · cases hlk
      obtain ⟨r3, rn⟩ := gH_in hw.1 hr (by omega) (by omega) (by omega)
      have he := wo_at (G := G) (ad := ad) r3 rn
      rw [cell_22 hr] at he
      rw [List.map_cons, List.map_cons, show cv ad (Sum.inr (Sum.inr r)) = .ref (ad r) from cv_ref (by omega)]
      have hir : r32 i := g_hd hst
      obtain ⟨hin, hnt⟩ := in32 hir hi0 hi1
      have hgp := hw.1.2.2.2.2.2.2 r i.toNat r3 rn
      rw [hr, pk_22] at hgp
      refine va_bald HX HB hK hw.2.2.2.1 (r - 3) 2 he rfl hin hdec ?_
      rw [hnt]
      exact W_i rfl (ih (pc + 1) lo (xI (hpC h r i.toNat) :: st) h d mc ms H locs ls cells slots ad hnx hx hd1 hd2 hc1 hc2 hw hS hfr hll (g_cs hgp (g_tl (g_tl hst))) hn0 had)
    · cases hlk
      obtain ⟨r3, rn⟩ := gH_in hw.1 hr (by omega) (by omega) (by omega)
      have he := wo_at (G := G) (ad := ad) r3 rn
      rw [cell_23 hr] at he
      rw [List.map_cons, List.map_cons, show cv ad (Sum.inr (Sum.inr r)) = .ref (ad r) from cv_ref (by omega)]
      have hir : r32 i := g_hd hst
      obtain ⟨hin, hnt⟩ := in32 hir hi0 hi1
      have hgp := hw.1.2.2.2.2.2.2 r i.toNat r3 rn
      rw [hr, pk_23] at hgp
      refine va_zald HX HB hK hw.2.2.2.1 (r - 3) 3 he rfl hin hdec ?_
      rw [hnt]
      exact W_i rfl (ih (pc + 1) lo (xI (hpC h r i.toNat) :: st) h d mc ms H locs ls cells slots ad hnx hx hd1 hd2 hc1 hc2 hw hS hfr hll (g_cs hgp (g_tl (g_tl hst))) hn0 had)
  · exact hx.elim

set_option maxHeartbeats 1000000 in
theorem sd_aaload  (hmF : mF mi = some (y, cc, ml, rt)) (hcx : cx G y cc ml rt p s m args meth c) (hMC : MC ≤ Rm.cells) (hMS : MS ≤ Rm.slots) (ih : Wk l G mi y cc ml rt p e Rm s m args below meth c MC MS ad0 n0 R is) : Wk l G mi y cc ml rt p e Rm s m args below meth c MC MS ad0 n0 R ((.aaload, lk) :: is) := by
  intro pc lo st h d mc ms H locs ls cells slots ad hok hx hd1 hd2 hc1 hc2 hw hS hfr hll hst hn0 had
  obtain ⟨HX, HB, hml, hrt, hown, hnm, hts, hlocks, hK, hXb, hbl, hbA, hA, hxs⟩ := hcx
  obtain ⟨j, len, hdec, hlen, hj, hnx⟩ := okL_cons (by intro z; cases z) hok
  have hj := of_decide_eq_true hj
  subst hj
  obtain rfl : 1 = len := hlen
  simp only [xc] at hx
  split at hx
  · rename_i i r st
    obtain ⟨⟨hr, hi0, hi1⟩, hx⟩ := hx
    obtain ⟨r3, rn⟩ := gH_in hw.1 hr (by omega) (by omega) (by omega)
    have he := wo_at (G := G) (ad := ad) r3 rn
    rw [cell_24 hr] at he
    rw [List.map_cons, List.map_cons, show cv ad (Sum.inr (Sum.inr r)) = .ref (ad r) from cv_ref (by omega)]
    have hir : r32 i := g_hd hst
    obtain ⟨hin, hnt⟩ := in32 hir hi0 hi1
    have hgp := hw.1.2.2.2.2.2.2 r i.toNat r3 rn
    rw [hr, pk_24] at hgp
    refine va_aldq HX HB hK hw.2.2.2.1 (r - 3) 4 he rfl hin hdec ?_
    rw [hnt]
    exact W_v (v := x_mk 2 (hpC h r i.toNat)) (cv_mk ad 2 _) (ih (pc + 1) lo (xR (hpC h r i.toNat).toNat :: st) h d mc ms H locs ls cells slots ad hnx hx hd1 hd2 hc1 hc2 hw hS hfr hll (g_cs (gV_mk hgp) (g_tl (g_tl hst))) hn0 had)
  · exact hx.elim

set_option maxHeartbeats 1000000 in
theorem sd_iastore  (hmF : mF mi = some (y, cc, ml, rt)) (hcx : cx G y cc ml rt p s m args meth c) (hMC : MC ≤ Rm.cells) (hMS : MS ≤ Rm.slots) (ih : Wk l G mi y cc ml rt p e Rm s m args below meth c MC MS ad0 n0 R is) : Wk l G mi y cc ml rt p e Rm s m args below meth c MC MS ad0 n0 R ((.iastore, lk) :: is) := by
  intro pc lo st h d mc ms H locs ls cells slots ad hok hx hd1 hd2 hc1 hc2 hw hS hfr hll hst hn0 had
  obtain ⟨HX, HB, hml, hrt, hown, hnm, hts, hlocks, hK, hXb, hbl, hbA, hA, hxs⟩ := hcx
  obtain ⟨j, len, hdec, hlen, hj, hnx⟩ := okL_cons (by intro z; cases z) hok
  have hj := of_decide_eq_true hj
  subst hj
  obtain rfl : 1 = len := hlen
  simp only [xc] at hx
  split at hx
  · rename_i v i r st
    obtain ⟨⟨hr, hi0, hi1⟩, hx⟩ := hx
    obtain ⟨r3, rn⟩ := gH_in hw.1 hr (by omega) (by omega) (by omega)
    have he := wo_at (G := G) (ad := ad) r3 rn
    rw [cell_20 hr] at he
    rw [List.map_cons, List.map_cons, List.map_cons, show cv ad (Sum.inr (Sum.inr r)) = .ref (ad r) from cv_ref (by omega)]
    have hir : r32 i := g_hd (g_tl hst)
    have hvr := g_hd hst
    obtain ⟨hin, hnt⟩ := in32 hir hi0 hi1
    have hE : cellOf G ad (hpU h r i.toNat v) r = .inl (gxK G 0, (hpT h r).2, .inl (upd (fun j => Int32.ofInt (hpC h r j)) (Int32.ofInt i).toNatClampNeg (Int32.ofInt v))) := by
      rw [cell_20 (by rw [hpT_U]; exact hr), hpT_U, hnt, up_i]
    refine va_iast HX HB hK hw.2.2.2.1 hw.2.2.2.2 hS (r - 3) 0 he rfl hin hdec (fun H1 locs1 hP1 hD1 hS1 => ?_)
    exact (ih (pc + 1) lo st (hpU h r i.toNat v) d mc ms H1 locs1 ls cells slots ad hnx (hx _ rfl) hd1 hd2 hc1 hc2 (wd_put hw r3 rn (by rw [hr, pk_20]; exact hvr) hE hP1 hD1) hS1 hfr hll (g_tl (g_tl (g_tl hst))) hn0 had)
  · exact hx.elim

set_option maxHeartbeats 1000000 in
theorem sd_lastore  (hmF : mF mi = some (y, cc, ml, rt)) (hcx : cx G y cc ml rt p s m args meth c) (hMC : MC ≤ Rm.cells) (hMS : MS ≤ Rm.slots) (ih : Wk l G mi y cc ml rt p e Rm s m args below meth c MC MS ad0 n0 R is) : Wk l G mi y cc ml rt p e Rm s m args below meth c MC MS ad0 n0 R ((.lastore, lk) :: is) := by
  intro pc lo st h d mc ms H locs ls cells slots ad hok hx hd1 hd2 hc1 hc2 hw hS hfr hll hst hn0 had
  obtain ⟨HX, HB, hml, hrt, hown, hnm, hts, hlocks, hK, hXb, hbl, hbA, hA, hxs⟩ := hcx
  obtain ⟨j, len, hdec, hlen, hj, hnx⟩ := okL_cons (by intro z; cases z) hok
  have hj := of_decide_eq_true hj
  subst hj
  obtain rfl : 1 = len := hlen
  simp only [xc] at hx
  split at hx
  · rename_i v i r st
    obtain ⟨⟨hr, hi0, hi1⟩, hx⟩ := hx
    obtain ⟨r3, rn⟩ := gH_in hw.1 hr (by omega) (by omega) (by omega)
    have he := wo_at (G := G) (ad := ad) r3 rn
    rw [cell_21 hr] at he
    rw [List.map_cons, List.map_cons, List.map_cons, show cv ad (Sum.inr (Sum.inr r)) = .ref (ad r) from cv_ref (by omega)]
    have hir : r32 i := g_hd (g_tl hst)
    have hvr := g_hd hst
    obtain ⟨hin, hnt⟩ := in32 hir hi0 hi1
    have hE : cellOf G ad (hpU h r i.toNat v) r = .inl (gxK G 1, (hpT h r).2, .inr (.inl (vp_updL (fun j => Int64.ofInt (hpC h r j)) (Int32.ofInt i).toNatClampNeg (Int64.ofInt v)))) := by
      rw [cell_21 (by rw [hpT_U]; exact hr), hpT_U, hnt, up_l]
    refine va_last HX HB hK hw.2.2.2.1 hw.2.2.2.2 hS (r - 3) 1 he rfl hin hdec (fun H1 locs1 hP1 hD1 hS1 => ?_)
    exact (ih (pc + 1) lo st (hpU h r i.toNat v) d mc ms H1 locs1 ls cells slots ad hnx (hx _ rfl) hd1 hd2 hc1 hc2 (wd_put hw r3 rn (by rw [hr, pk_21]; exact hvr) hE hP1 hD1) hS1 hfr hll (g_tl (g_tl (g_tl hst))) hn0 had)
  · exact hx.elim

set_option maxHeartbeats 1000000 in
theorem sd_bastore  (hmF : mF mi = some (y, cc, ml, rt)) (hcx : cx G y cc ml rt p s m args meth c) (hMC : MC ≤ Rm.cells) (hMS : MS ≤ Rm.slots) (ih : Wk l G mi y cc ml rt p e Rm s m args below meth c MC MS ad0 n0 R is) : Wk l G mi y cc ml rt p e Rm s m args below meth c MC MS ad0 n0 R ((.bastore, lk) :: is) := by
  intro pc lo st h d mc ms H locs ls cells slots ad hok hx hd1 hd2 hc1 hc2 hw hS hfr hll hst hn0 had
  obtain ⟨HX, HB, hml, hrt, hown, hnm, hts, hlocks, hK, hXb, hbl, hbA, hA, hxs⟩ := hcx
  obtain ⟨j, len, hdec, hlen, hj, hnx⟩ := okL_cons (by intro z; cases z) hok
  have hj := of_decide_eq_true hj
  obtain ⟨rfl, hlk⟩ := hj
  obtain rfl : 1 = len := hlen
  simp only [xc] at hx
  split at hx
  · rename_i K v i r st
    obtain ⟨⟨hr, hi0, hi1⟩, hx⟩ := hx
    rcases hlk with hlk | hlk
    · cases hlk
      obtain ⟨r3, rn⟩ := gH_in hw.1 hr (by omega) (by omega) (by omega)
      have he := wo_at (G := G) (ad := ad) r3 rn
      rw [cell_22 hr] at he
      rw [List.map_cons, List.map_cons, List.map_cons, show cv ad (Sum.inr (Sum.inr r)) = .ref (ad r) from cv_ref (by omega)]
      have hir : r32 i := g_hd (g_tl hst)
      have hvr := g_hd hst
      obtain ⟨hin, hnt⟩ := in32 hir hi0 hi1
      have hE : cellOf G ad (hpU h r i.toNat (ai_nar 22 v)) r = .inl (gxK G 2, (hpT h r).2, .inl (upd (fun j => Int32.ofInt (hpC h r j)) (Int32.ofInt i).toNatClampNeg (vp_nar .byte (Int32.ofInt v)))) := by
        rw [cell_22 (by rw [hpT_U]; exact hr), hpT_U, hnt, up_i, show Int32.ofInt (ai_nar 22 v) = vp_nar .byte (Int32.ofInt v) from o32 _]
      refine va_bast HX HB hK hw.2.2.2.1 hw.2.2.2.2 hS (r - 3) 2 he rfl hin hdec (fun H1 locs1 hP1 hD1 hS1 => ?_)
      exact (ih (pc + 1) lo st (hpU h r i.toNat (ai_nar 22 v)) d mc ms H1 locs1 ls cells slots ad hnx (hx _ rfl) hd1 hd2 hc1 hc2 (wd_put hw r3 rn (by rw [hr, pk_22]; exact r32_to _) hE hP1 hD1) hS1 hfr hll (g_tl (g_tl (g_tl hst))) hn0 had)
    · cases hlk
      obtain ⟨r3, rn⟩ := gH_in hw.1 hr (by omega) (by omega) (by omega)
      have he := wo_at (G := G) (ad := ad) r3 rn
      rw [cell_23 hr] at he
      rw [List.map_cons, List.map_cons, List.map_cons, show cv ad (Sum.inr (Sum.inr r)) = .ref (ad r) from cv_ref (by omega)]
      have hir : r32 i := g_hd (g_tl hst)
      have hvr := g_hd hst
      obtain ⟨hin, hnt⟩ := in32 hir hi0 hi1
      have hE : cellOf G ad (hpU h r i.toNat (ai_nar 23 v)) r = .inl (gxK G 3, (hpT h r).2, .inl (upd (fun j => Int32.ofInt (hpC h r j)) (Int32.ofInt i).toNatClampNeg (vp_nar .boolean (Int32.ofInt v)))) := by
        rw [cell_23 (by rw [hpT_U]; exact hr), hpT_U, hnt, up_i, show Int32.ofInt (ai_nar 23 v) = vp_nar .boolean (Int32.ofInt v) from o32 _]
      refine va_zast HX HB hK hw.2.2.2.1 hw.2.2.2.2 hS (r - 3) 3 he rfl hin hdec (fun H1 locs1 hP1 hD1 hS1 => ?_)
      exact (ih (pc + 1) lo st (hpU h r i.toNat (ai_nar 23 v)) d mc ms H1 locs1 ls cells slots ad hnx (hx _ rfl) hd1 hd2 hc1 hc2 (wd_put hw r3 rn (by rw [hr, pk_23]; exact r32_to _) hE hP1 hD1) hS1 hfr hll (g_tl (g_tl (g_tl hst))) hn0 had)
  · exact hx.elim

set_option maxHeartbeats 1000000 in
theorem sd_aastore  (hmF : mF mi = some (y, cc, ml, rt)) (hcx : cx G y cc ml rt p s m args meth c) (hMC : MC ≤ Rm.cells) (hMS : MS ≤ Rm.slots) (ih : Wk l G mi y cc ml rt p e Rm s m args below meth c MC MS ad0 n0 R is) : Wk l G mi y cc ml rt p e Rm s m args below meth c MC MS ad0 n0 R ((.aastore, lk) :: is) := by
  intro pc lo st h d mc ms H locs ls cells slots ad hok hx hd1 hd2 hc1 hc2 hw hS hfr hll hst hn0 had
  obtain ⟨HX, HB, hml, hrt, hown, hnm, hts, hlocks, hK, hXb, hbl, hbA, hA, hxs⟩ := hcx
  obtain ⟨j, len, hdec, hlen, hj, hnx⟩ := okL_cons (by intro z; cases z) hok
  have hj := of_decide_eq_true hj
  obtain ⟨rfl, hlk⟩ := hj
  obtain rfl : 1 = len := hlen
  simp only [xc] at hx
  split at hx
  · rename_i K v i r st
    obtain ⟨⟨hr, hi0, hi1⟩, hq, hx⟩ := hx
    cases hlk
    obtain ⟨r3, rn⟩ := gH_in hw.1 hr (by omega) (by omega) (by omega)
    have he := wo_at (G := G) (ad := ad) r3 rn
    rw [cell_24 hr] at he
    rw [List.map_cons, List.map_cons, List.map_cons, show cv ad (Sum.inr (Sum.inr r)) = .ref (ad r) from cv_ref (by omega)]
    have hir : r32 i := g_hd (g_tl hst)
    have hvr := g_hd hst
    obtain ⟨hin, hnt⟩ := in32 hir hi0 hi1
    obtain ⟨q3, qn⟩ := gH_in hw.1 hq (by omega) (by omega) (by omega)
    have hq2 := wo_at (G := G) (ad := ad) q3 qn
    rw [cell_o hq (by omega)] at hq2
    have eq0 : rOf ad (v : Int) = some (ad v) := by unfold rOf; rw [if_neg (by omega)]; simp
    rw [show cv ad (Sum.inr (Sum.inr v)) = .ref (ad v) from cv_ref (by omega)]
    have hE : cellOf G ad (hpU h r i.toNat (v : Int)) r = .inl (gxK G 4, (hpT h r).2, .inr (.inr (.inr (.inr (va_up (fun j => rOf ad (hpC h r j)) (Int32.ofInt i).toNatClampNeg (some (ad v))))))) := by
      rw [cell_24 (by rw [hpT_U]; exact hr), hpT_U, hnt, up_q, eq0]
    refine va_astq HX HB hK hw.2.2.2.1 hw.2.2.2.2 hS (r - 3) 4 (v - 3) 9 (r := (RX9, TX9, 8)) he rfl hq2 rfl hin hdec (fun H1 locs1 hP1 hD1 hS1 => ?_)
    exact (ih (pc + 1) lo st (hpU h r i.toNat (v : Int)) d mc ms H1 locs1 ls cells slots ad hnx (hx _ rfl) hd1 hd2 hc1 hc2 (wd_put hw r3 rn (by rw [hr, pk_24]; exact (show 0 ≤ (v : Int) ∧ (v : Int) < (h.1 : Int) by omega)) hE hP1 hD1) hS1 hfr hll (g_tl (g_tl (g_tl hst))) hn0 had)
  · exact hx.elim

set_option maxHeartbeats 1000000 in
theorem sd_alen  (hmF : mF mi = some (y, cc, ml, rt)) (hcx : cx G y cc ml rt p s m args meth c) (hMC : MC ≤ Rm.cells) (hMS : MS ≤ Rm.slots) (ih : Wk l G mi y cc ml rt p e Rm s m args below meth c MC MS ad0 n0 R is) : Wk l G mi y cc ml rt p e Rm s m args below meth c MC MS ad0 n0 R ((.arraylength, lk) :: is) := by
  intro pc lo st h d mc ms H locs ls cells slots ad hok hx hd1 hd2 hc1 hc2 hw hS hfr hll hst hn0 had
  obtain ⟨HX, HB, hml, hrt, hown, hnm, hts, hlocks, hK, hXb, hbl, hbA, hA, hxs⟩ := hcx
  obtain ⟨j, len, hdec, hlen, hj, hnx⟩ := okL_cons (by intro z; cases z) hok
  have hj := of_decide_eq_true hj
  obtain ⟨rfl, hlk⟩ := hj
  obtain rfl : 1 = len := hlen
  simp only [xc] at hx
  split at hx
  · rename_i K r st
    obtain ⟨hr, hx⟩ := hx
    rcases hlk with hlk | hlk | hlk
    · cases hlk
      obtain ⟨r3, rn⟩ := gH_in hw.1 hr (by omega) (by omega) (by omega)
      have he := wo_at (G := G) (ad := ad) r3 rn
      rw [cell_20 hr] at he
      have hl := (hw.1.2.2.2.1 r r3 rn).2
      rw [List.map_cons, show cv ad (Sum.inr (Sum.inr r)) = .ref (ad r) from cv_ref (by omega)]
      exact va_alen HX HB hK hw.2.2.2.1 (r - 3) 0 he rfl (nat32 _) hdec (ih (pc + 1) lo (xI ((hpT h r).2 : Int) :: st) h d mc ms H locs ls cells slots ad hnx hx hd1 hd2 hc1 hc2 hw hS hfr hll (g_cs (show r32 _ by unfold r32; omega) (g_tl hst)) hn0 had)
    · cases hlk
      obtain ⟨r3, rn⟩ := gH_in hw.1 hr (by omega) (by omega) (by omega)
      have he := wo_at (G := G) (ad := ad) r3 rn
      rw [cell_21 hr] at he
      have hl := (hw.1.2.2.2.1 r r3 rn).2
      rw [List.map_cons, show cv ad (Sum.inr (Sum.inr r)) = .ref (ad r) from cv_ref (by omega)]
      exact va_alen HX HB hK hw.2.2.2.1 (r - 3) 1 he rfl (nat32 _) hdec (ih (pc + 1) lo (xI ((hpT h r).2 : Int) :: st) h d mc ms H locs ls cells slots ad hnx hx hd1 hd2 hc1 hc2 hw hS hfr hll (g_cs (show r32 _ by unfold r32; omega) (g_tl hst)) hn0 had)
    · cases hlk
      obtain rfl := is25 hw.1 hr
      have h1 := hw.1.2.2.2.2.1
      have hl : (hpT h 1).2 < 2147483648 := by rw [h1.1]; exact h1.2.1
      rw [List.map_cons, show cv ad (Sum.inr (Sum.inr 1)) = .ref (ad 1) from cv_ref (by decide), hw.2.1]
      refine va_slen HX HB hXb hbl hbA hS hdec (W_i (b := ((hpT h 1).2 : Int)) (by rw [h1.1]; exact (nat32 _).symm) (ih (pc + 1) lo (xI ((hpT h 1).2 : Int) :: st) h d mc ms H locs ls cells slots ad hnx hx hd1 hd2 hc1 hc2 hw hS hfr hll (g_cs (show r32 _ by unfold r32; omega) (g_tl hst)) hn0 had))
  · exact hx.elim

end SND2

/-! ===== the world's list ===== -/
theorem hpT_U (h : Hp) (r p : Nat) (v : Int) : hpT (hpU h r p v) = hpT h := rfl
theorem hpC_U (h : Hp) (r p : Nat) (v : Int) (r' p' : Nat) : hpC (hpU h r p v) r' p' = if r' = r ∧ p' = p then v else hpC h r' p' := rfl
theorem hpT_Y (h : Hp) (a sp b dp n : Nat) : hpT (hpY h a sp b dp n) = hpT h := rfl
theorem hpC_Y (h : Hp) (a sp b dp n r p : Nat) : hpC (hpY h a sp b dp n) r p = if r = b ∧ dp ≤ p ∧ p < dp + n then hpC h a (sp + (p - dp)) else hpC h r p := rfl
theorem hpT_N (h : Hp) (k len r : Nat) : hpT (hpN h k len) r = if r = h.1 then (k, len) else hpT h r := rfl
theorem hpC_N (h : Hp) (k len r p : Nat) : hpC (hpN h k len) r p = if r = h.1 then 0 else hpC h r p := rfl
theorem wo_at {G : GX} {ad : Nat → Nat} {h : Hp} {r : Nat} (h3 : 3 ≤ r) (hr : r < h.1) : (wo G ad h)[r - 3]? = some (ad r, cellOf G ad h r) := by
  have e : r - 3 + 3 = r := by omega
  simp only [wo, List.getElem?_map, List.getElem?_range (show r - 3 < h.1 - 3 by omega), Option.map_some, e]
theorem wo_get {G : GX} {ad : Nat → Nat} {h : Hp} (k : Nat) : (wo G ad h)[k]? = if k < h.1 - 3 then some (ad (k + 3), cellOf G ad h (k + 3)) else none := by
  by_cases hk : k < h.1 - 3
  · rw [if_pos hk]; simp only [wo, List.getElem?_map, List.getElem?_range hk, Option.map_some]
  · rw [if_neg hk]; simp [wo, hk]
theorem wo_set {G : GX} {ad : Nat → Nat} {h h' : Hp} {r : Nat} (hn : h'.1 = h.1) (h3 : 3 ≤ r) (hr : r < h.1) (ho : ∀ q, q ≠ r → cellOf G ad h' q = cellOf G ad h q) : wo G ad h' = (wo G ad h).set (r - 3) (ad r, cellOf G ad h' r) := by
  apply List.ext_getElem?
  intro k
  rw [List.getElem?_set, wo_get, wo_get, hn]
  by_cases hk : r - 3 = k
  · subst hk
    have e : r - 3 + 3 = r := by omega
    have hl : r - 3 < (wo G ad h).length := by simp [wo]; omega
    rw [if_pos rfl, if_pos hl, if_pos (show r - 3 < h.1 - 3 by omega), e]
  · rw [if_neg hk]
    by_cases hl : k < h.1 - 3
    · rw [if_pos hl, if_pos hl, ho (k + 3) (by omega)]
    · rw [if_neg hl, if_neg hl]
theorem wo_push {G : GX} {ad ad' : Nat → Nat} {h h' : Hp} (h3 : 3 ≤ h.1) (hn : h'.1 = h.1 + 1) (ha : ∀ r, r < h.1 → ad' r = ad r) (ho : ∀ q, 3 ≤ q → q < h.1 → cellOf G ad' h' q = cellOf G ad h q) : wo G ad' h' = wo G ad h ++ [(ad' h.1, cellOf G ad' h' h.1)] := by
  apply List.ext_getElem?
  intro k
  have hl : (wo G ad h).length = h.1 - 3 := by simp [wo]
  rw [List.getElem?_append, wo_get, wo_get, hn, hl]
  by_cases hk : k < h.1 - 3
  · rw [if_pos (by omega), if_pos hk, if_pos hk, ha (k + 3) (by omega), ho (k + 3) (by omega) (by omega)]
  · rw [if_neg hk]
    by_cases hk2 : k = h.1 - 3
    · subst hk2
      have e : h.1 - 3 + 3 = h.1 := by omega
      rw [if_pos (by omega), e, Nat.sub_self]; rfl
    · rw [if_neg (by omega)]
      rw [List.getElem?_eq_none]
      simp; omega
theorem map_set {α : Type} {N k : Nat} {f f' : Nat → α} (hk : k < N) (ho : ∀ j, j ≠ k → f' j = f j) : (List.range N).map f' = ((List.range N).map f).set k (f' k) := by
  apply List.ext_getElem?
  intro j
  rw [List.getElem?_set]
  by_cases hj : k = j
  · subst hj
    simp [hk]
  · rw [if_neg hj]
    by_cases hjN : j < N
    · simp [hjN, ho j (fun e => hj e.symm)]
    · simp [hjN]
theorem gH_in {G : GX} {h : Hp} (g : gH G h) {r K : Nat} (hK : (hpT h r).1 = K) (h0 : K ≠ 0) (h1 : K ≠ 25) (h2 : K ≠ 26) : 3 ≤ r ∧ r < h.1 := by
  obtain ⟨g1, g2, g3, g4, g5, g6, g7⟩ := g
  refine ⟨?_, ?_⟩
  · rcases r with _ | _ | _ | r
    · exact absurd (hK.symm.trans g2) h0
    · rw [g5.1] at hK; exact absurd hK.symm h1
    · rw [g6.1] at hK; exact absurd hK.symm h2
    · omega
  · rcases Nat.lt_or_ge r h.1 with q | q
    · exact q
    · exact absurd (hK.symm.trans (g3 r q)) h0
theorem gH_up {G : GX} {h : Hp} (g : gH G h) {r p : Nat} {v : Int} (h3 : 3 ≤ r) (hv : gP h.1 (pk (hpT h r).1 p) v) : gH G (hpU h r p v) := by
  obtain ⟨g1, g2, g3, g4, g5, g6, g7⟩ := g
  refine ⟨g1, g2, g3, g4, ⟨g5.1, g5.2.1, fun j hj => ?_⟩, ⟨g6.1, fun j hj => ?_⟩, fun q p' h1 h2 => ?_⟩
  · rw [hpC_U, if_neg (by omega)]; exact g5.2.2 j hj
  · rw [hpC_U, if_neg (by omega)]; exact g6.2 j hj
  · rw [hpC_U, hpT_U]
    by_cases e : q = r ∧ p' = p
    · rw [if_pos e, e.1, e.2]; exact hv
    · rw [if_neg e]; exact g7 q p' h1 h2
theorem gH_Y {G : GX} {h : Hp} (g : gH G h) {a sp b dp n : Nat} (h3 : 3 ≤ b) (ha3 : 3 ≤ a) (ha : a < h.1) (hk : ∀ p q, pk (hpT h b).1 p = pk (hpT h a).1 q) : gH G (hpY h a sp b dp n) := by
  obtain ⟨g1, g2, g3, g4, g5, g6, g7⟩ := g
  refine ⟨g1, g2, g3, g4, ⟨g5.1, g5.2.1, fun j hj => ?_⟩, ⟨g6.1, fun j hj => ?_⟩, fun q p' h1 h2 => ?_⟩
  · rw [hpC_Y, if_neg (by omega)]; exact g5.2.2 j hj
  · rw [hpC_Y, if_neg (by omega)]; exact g6.2 j hj
  · rw [hpC_Y, hpT_Y]
    by_cases e : q = b ∧ dp ≤ p' ∧ p' < dp + n
    · rw [if_pos e, e.1, hk p' (sp + (p' - dp))]; exact g7 a _ ha3 ha
    · rw [if_neg e]; exact g7 q p' h1 h2
theorem gP_zero (n ty : Nat) (hn : 0 < n) : gP n ty 0 := by
  unfold gP
  split
  · unfold r64; omega
  · omega
  · unfold r32; omega
theorem gP_mono {n n' ty : Nat} {v : Int} (hn : n ≤ n') (h : gP n ty v) : gP n' ty v := by
  unfold gP at h ⊢
  split at h
  · exact h
  · exact ⟨h.1, by omega⟩
  · exact h
theorem gV_mono {n n' : Nat} {v : AV} (hn : n ≤ n') (h : gV n v) : gV n' v := by
  rcases v with v | v | v
  · exact h
  · exact h
  · exact Nat.lt_of_lt_of_le h hn
theorem gH_N {G : GX} {h : Hp} (g : gH G h) {K len : Nat} (hK : (1 ≤ K ∧ K ≤ 12) ∨ (20 ≤ K ∧ K ≤ 24)) (hl : len < 2147483648) : gH G (hpN h K len) := by
  obtain ⟨g1, g2, g3, g4, g5, g6, g7⟩ := g
  have hs : (hpN h K len).1 = h.1 + 1 := rfl
  refine ⟨by omega, ?_, fun r hr => ?_, fun r h1 h2 => ?_, ⟨?_, g5.2.1, fun j hj => ?_⟩, ⟨?_, fun j hj => ?_⟩, fun q p' h1 h2 => ?_⟩
  · rw [hpT_N, if_neg (by omega)]; exact g2
  · rw [hpT_N, if_neg (by omega)]; exact g3 r (by omega)
  · rw [hpT_N]
    by_cases e : r = h.1
    · rw [if_pos e]; exact ⟨hK, hl⟩
    · rw [if_neg e]; exact g4 r h1 (by omega)
  · rw [hpT_N, if_neg (by omega)]; exact g5.1
  · rw [hpC_N, if_neg (by omega)]; exact g5.2.2 j hj
  · rw [hpT_N, if_neg (by omega)]; exact g6.1
  · rw [hpC_N, if_neg (by omega)]; exact g6.2 j hj
  · rw [hpC_N, hpT_N]
    by_cases e : q = h.1
    · rw [if_pos e, if_pos e]; exact gP_zero _ _ (by omega)
    · rw [if_neg e, if_neg e]; exact gP_mono (by omega) (g7 q p' h1 (by omega))
theorem rOf_ad {ad ad' : Nat → Nat} {n : Nat} {v : Int} (ha : ∀ r, r < n → ad' r = ad r) (h : 0 ≤ v ∧ v < (n : Int)) : rOf ad' v = rOf ad v := by
  unfold rOf
  split
  · rfl
  · rw [ha _ (by omega)]
theorem cv_ad {ad ad' : Nat → Nat} {n : Nat} {v : AV} (ha : ∀ r, r < n → ad' r = ad r) (h : gV n v) : cv ad' v = cv ad v := by
  rcases v with v | v | v
  · rfl
  · rfl
  · show va_rf _ = va_rf _
    rw [rOf_ad ha ⟨by omega, by have : v < n := h; omega⟩]
theorem vOf_ad {ad ad' : Nat → Nat} {n ty : Nat} {v : Int} (ha : ∀ r, r < n → ad' r = ad r) (h : gP n ty v) : vOf ad' ty v = vOf ad ty v := by
  unfold vOf
  unfold gP at h
  split at h
  · rfl
  · show va_rf _ = va_rf _
    rw [rOf_ad ha h]
  · rfl
/-- a cell's reading: what it hangs on -/
theorem cell_eq {G : GX} {ad ad' : Nat → Nat} {h h' : Hp} {r n : Nat} (ha : ∀ q, q < n → ad' q = ad q) (hg : ∀ p, gP n (pk (hpT h r).1 p) (hpC h r p)) (hT : hpT h' r = hpT h r) (hC : ∀ p, hpC h' r p = hpC h r p) : cellOf G ad' h' r = cellOf G ad h r := by
  unfold cellOf
  rw [hT]
  simp only [hC]
  by_cases e0 : (hpT h r).1 = 20
  · rw [if_pos e0, if_pos e0]
  by_cases e1 : (hpT h r).1 = 21
  · rw [if_neg e0, if_neg e0, if_pos e1, if_pos e1]
  by_cases e2 : (hpT h r).1 = 22
  · rw [if_neg e0, if_neg e0, if_neg e1, if_neg e1, if_pos e2, if_pos e2]
  by_cases e3 : (hpT h r).1 = 23
  · rw [if_neg e0, if_neg e0, if_neg e1, if_neg e1, if_neg e2, if_neg e2, if_pos e3, if_pos e3]
  by_cases e4 : (hpT h r).1 = 24
  · rw [if_neg e0, if_neg e0, if_neg e1, if_neg e1, if_neg e2, if_neg e2, if_neg e3, if_neg e3, if_pos e4, if_pos e4]
    have : (fun j => rOf ad' (hpC h r j)) = (fun j => rOf ad (hpC h r j)) := by
      funext j
      have := hg j
      rw [e4] at this
      exact rOf_ad ha this
    rw [this]
  rw [if_neg e0, if_neg e0, if_neg e1, if_neg e1, if_neg e2, if_neg e2, if_neg e3, if_neg e3, if_neg e4, if_neg e4]
  congr 2
  apply List.map_congr_left
  intro k hk
  refine vOf_ad ha ?_
  have := hg k
  unfold pk at this
  rw [if_neg e1, if_neg e4] at this
  by_cases e5 : (hpT h r).1 < 20
  · rw [if_pos e5] at this; exact this
  · exfalso
    have : nF ((hpT h r).1 - 1) = 0 := by
      unfold nF
      rw [List.getElem?_eq_none (by simp [vwCl]; omega)]
    rw [this] at hk
    simp at hk

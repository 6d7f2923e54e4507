/-! ===== the law's loop (by program: genlaw.py) ===== -/
theorem lb_220 {L i mc ms : Nat} {h : Hp} {R : PR} (iv : INV L h) (hi : i + 6 ≤ L) (hL : L ≤ 3072) (hm : 23 ≤ mc) (hs : 682 ≤ ms) (nx : ∀ h2 mc' ms', INV L h2 → mc ≤ mc' + 23 → ms ≤ ms' + 682 → Wp 1000 1521 [some (xR 1), some (xR 3), some (xR 73), some (xI (i : Int))] [] h2 2000 mc' ms' R) : Wp 1000 220 [some (xR 1), some (xR 3), some (xR 73), some (xI (i : Int))] [] h 2000 mc ms R := by
  obtain ⟨w, b, n, K, A, nx0, cnt, U, ik, iw, c, m, hV, hK, r, r9, r10, t1⟩ := id iv
  obtain ⟨_, tp, _, ea, ck, nu, tr, cp, h5, hc0, _⟩ := id c
  have h20 := cp.1.2.2.2.2.2.2.2
  have a1 : ai_add (i : Int) 1 = ((i + 1 : Nat) : Int) := by rw [ai_add_eq (by omega) (by omega)]; omega
  have a2 : ai_add (i : Int) 2 = ((i + 2 : Nat) : Int) := by rw [ai_add_eq (by omega) (by omega)]; omega
  have a3 : ai_add (i : Int) 3 = ((i + 3 : Nat) : Int) := by rw [ai_add_eq (by omega) (by omega)]; omega
  have a4 : ai_add (i : Int) 4 = ((i + 4 : Nat) : Int) := by rw [ai_add_eq (by omega) (by omega)]; omega
  have a5 : ai_add (i : Int) 5 = ((i + 5 : Nat) : Int) := by rw [ai_add_eq (by omega) (by omega)]; omega
  apply b_law_220
  rw [a1, a2, a3, a4, a5, t1]
  by_cases hc : n + 20 ≤ 2000
  · refine ⟨⟨rfl, by omega, by show ((i + 1 : Nat) : Int) < (L : Int); omega⟩, ⟨rfl, by omega, by show ((i + 2 : Nat) : Int) < (L : Int); omega⟩, ⟨rfl, by omega, by show ((i + 3 : Nat) : Int) < (L : Int); omega⟩, ⟨rfl, by omega, by show ((i + 4 : Nat) : Int) < (L : Int); omega⟩, ⟨rfl, by omega, by show ((i + 5 : Nat) : Int) < (L : Int); omega⟩, ⟨by omega, by omega, by omega, c.1.tag⟩, CqQ h w (feB b n (hpC h 1 (Int.toNat ((i + 1 : Nat) : Int))) (hpC h 1 (Int.toNat ((i + 2 : Nat) : Int))) (hpC h 1 (Int.toNat ((i + 3 : Nat) : Int))) (hpC h 1 (Int.toNat ((i + 4 : Nat) : Int))) (hpC h 1 (Int.toNat ((i + 5 : Nat) : Int)))) (n + 20) K cnt U ik iw 5 _, sp_cfeed c (by omega) (fun _ _ c1 f k => CqQ.of ⟨c1, f, k⟩) (fun z => absurd hc z), fun v1 h1 q1 => ?_⟩
    obtain ⟨m1, t1', s1⟩ := lb_mid m t1 q1.2.2.1
    rw [t1', s1]
    refine ⟨⟨rfl, by omega, by show ((i + 1 : Nat) : Int) < (L : Int); omega⟩, ⟨rfl, by omega, by show ((i + 2 : Nat) : Int) < (L : Int); omega⟩, ⟨rfl, by omega, by show ((i + 3 : Nat) : Int) < (L : Int); omega⟩, ⟨rfl, by omega, by show ((i + 4 : Nat) : Int) < (L : Int); omega⟩, ⟨rfl, by omega, by show ((i + 5 : Nat) : Int) < (L : Int); omega⟩, ⟨by omega, by omega, by omega, m1.1.1.tag⟩, MqQ h1 w (feB b n (hpC h 1 (Int.toNat ((i + 1 : Nat) : Int))) (hpC h 1 (Int.toNat ((i + 2 : Nat) : Int))) (hpC h 1 (Int.toNat ((i + 3 : Nat) : Int))) (hpC h 1 (Int.toNat ((i + 4 : Nat) : Int))) (hpC h 1 (Int.toNat ((i + 5 : Nat) : Int)))) (n + 20) K cnt U ik iw 5 _, sp_mfeed m1 (by omega) (fun _ _ m2 f k => MqQ.of ⟨m2, f, k⟩) (fun z => absurd hc z), fun v2 h2 q2 => ?_⟩
    obtain ⟨ev, iv2⟩ := lb_fin iv q1 q2 hV hK
    rw [if_pos (xI_v ev)]
    exact nx h2 _ _ iv2 (by omega) (by omega)
  · refine ⟨⟨rfl, by omega, by show ((i + 1 : Nat) : Int) < (L : Int); omega⟩, ⟨rfl, by omega, by show ((i + 2 : Nat) : Int) < (L : Int); omega⟩, ⟨rfl, by omega, by show ((i + 3 : Nat) : Int) < (L : Int); omega⟩, ⟨rfl, by omega, by show ((i + 4 : Nat) : Int) < (L : Int); omega⟩, ⟨rfl, by omega, by show ((i + 5 : Nat) : Int) < (L : Int); omega⟩, ⟨by omega, by omega, by omega, c.1.tag⟩, CqQ h w b n K cnt U ik iw 0 _, sp_cfeed c (by omega) (fun a => absurd a hc) (fun _ _ c1 f k => CqQ.of ⟨c1, f, k⟩), fun v1 h1 q1 => ?_⟩
    obtain ⟨m1, t1', s1⟩ := lb_mid m t1 q1.2.2.1
    rw [t1', s1]
    refine ⟨⟨rfl, by omega, by show ((i + 1 : Nat) : Int) < (L : Int); omega⟩, ⟨rfl, by omega, by show ((i + 2 : Nat) : Int) < (L : Int); omega⟩, ⟨rfl, by omega, by show ((i + 3 : Nat) : Int) < (L : Int); omega⟩, ⟨rfl, by omega, by show ((i + 4 : Nat) : Int) < (L : Int); omega⟩, ⟨rfl, by omega, by show ((i + 5 : Nat) : Int) < (L : Int); omega⟩, ⟨by omega, by omega, by omega, m1.1.1.tag⟩, MqQ h1 w b n K cnt U ik iw 0 _, sp_mfeed m1 (by omega) (fun a => absurd a hc) (fun _ _ m2 f k => MqQ.of ⟨m2, f, k⟩), fun v2 h2 q2 => ?_⟩
    obtain ⟨ev, iv2⟩ := lb_fin iv q1 q2 hV hK
    rw [if_pos (xI_v ev)]
    exact nx h2 _ _ iv2 (by omega) (by omega)
theorem lb_283 {L i mc ms : Nat} {h : Hp} {R : PR} (iv : INV L h) (hi : i + 6 ≤ L) (hL : L ≤ 3072) (hm : 23 ≤ mc) (hs : 682 ≤ ms) (nx : ∀ h2 mc' ms', INV L h2 → mc ≤ mc' + 23 → ms ≤ ms' + 682 → Wp 1000 1521 [some (xR 1), some (xR 3), some (xR 73), some (xI (i : Int))] [] h2 2000 mc' ms' R) : Wp 1000 283 [some (xR 1), some (xR 3), some (xR 73), some (xI (i : Int))] [] h 2000 mc ms R := by
  obtain ⟨w, b, n, K, A, nx0, cnt, U, ik, iw, c, m, hV, hK, r, r9, r10, t1⟩ := id iv
  obtain ⟨_, tp, _, ea, ck, nu, tr, cp, h5, hc0, _⟩ := id c
  have h20 := cp.1.2.2.2.2.2.2.2
  have a1 : ai_add (i : Int) 1 = ((i + 1 : Nat) : Int) := by rw [ai_add_eq (by omega) (by omega)]; omega
  apply b_law_283
  rw [a1, t1]
  by_cases hc : 0 ≤ (hpC h 1 (Int.toNat ((i + 1 : Nat) : Int))) ∧ (hpC h 1 (Int.toNat ((i + 1 : Nat) : Int))) ≤ (n : Int)
  · refine ⟨⟨rfl, by omega, by show ((i + 1 : Nat) : Int) < (L : Int); omega⟩, ⟨by omega, by omega, by omega, c.1.tag⟩, CqQ h w b (Int.toNat (hpC h 1 (Int.toNat ((i + 1 : Nat) : Int)))) K cnt U ik iw 5 _, sp_cend c (by omega) (fun _ _ c1 f k => CqQ.of ⟨c1, f, k⟩) (fun z => absurd hc z), fun v1 h1 q1 => ?_⟩
    obtain ⟨m1, t1', s1⟩ := lb_mid m t1 q1.2.2.1
    rw [t1', s1]
    refine ⟨⟨rfl, by omega, by show ((i + 1 : Nat) : Int) < (L : Int); omega⟩, ⟨by omega, by omega, by omega, m1.1.1.tag⟩, MqQ h1 w b (Int.toNat (hpC h 1 (Int.toNat ((i + 1 : Nat) : Int)))) K cnt U ik iw 5 _, sp_mend m1 (by omega) (fun _ _ m2 f k => MqQ.of ⟨m2, f, k⟩) (fun z => absurd hc z), fun v2 h2 q2 => ?_⟩
    obtain ⟨ev, iv2⟩ := lb_fin iv q1 q2 hV hK
    rw [if_pos (xI_v ev)]
    exact nx h2 _ _ iv2 (by omega) (by omega)
  · refine ⟨⟨rfl, by omega, by show ((i + 1 : Nat) : Int) < (L : Int); omega⟩, ⟨by omega, by omega, by omega, c.1.tag⟩, CqQ h w b n K cnt U ik iw 0 _, sp_cend c (by omega) (fun a => absurd a hc) (fun _ _ c1 f k => CqQ.of ⟨c1, f, k⟩), fun v1 h1 q1 => ?_⟩
    obtain ⟨m1, t1', s1⟩ := lb_mid m t1 q1.2.2.1
    rw [t1', s1]
    refine ⟨⟨rfl, by omega, by show ((i + 1 : Nat) : Int) < (L : Int); omega⟩, ⟨by omega, by omega, by omega, m1.1.1.tag⟩, MqQ h1 w b n K cnt U ik iw 0 _, sp_mend m1 (by omega) (fun a => absurd a hc) (fun _ _ m2 f k => MqQ.of ⟨m2, f, k⟩), fun v2 h2 q2 => ?_⟩
    obtain ⟨ev, iv2⟩ := lb_fin iv q1 q2 hV hK
    rw [if_pos (xI_v ev)]
    exact nx h2 _ _ iv2 (by omega) (by omega)
theorem lb_306 {L i mc ms : Nat} {h : Hp} {R : PR} (iv : INV L h) (hi : i + 6 ≤ L) (hL : L ≤ 3072) (hm : 23 ≤ mc) (hs : 682 ≤ ms) (nx : ∀ h2 mc' ms', INV L h2 → mc ≤ mc' + 23 → ms ≤ ms' + 682 → Wp 1000 1521 [some (xR 1), some (xR 3), some (xR 73), some (xI (i : Int))] [] h2 2000 mc' ms' R) : Wp 1000 306 [some (xR 1), some (xR 3), some (xR 73), some (xI (i : Int))] [] h 2000 mc ms R := by
  obtain ⟨w, b, n, K, A, nx0, cnt, U, ik, iw, c, m, hV, hK, r, r9, r10, t1⟩ := id iv
  obtain ⟨_, tp, _, ea, ck, nu, tr, cp, h5, hc0, _⟩ := id c
  have h20 := cp.1.2.2.2.2.2.2.2
  apply b_law_306
  cases q : pTown b n with
  | inl rr =>
    obtain ⟨f, p⟩ := rr
    refine ⟨⟨by omega, by omega, by omega, c.1.tag⟩, fun rv h1 => rv = some (xI (-1)) ∧ (∃ A nx, CS h1 3 w b 0 K A nx cnt U ik iw) ∧ FrC h h1 3 ∧ hpC h1 3 9 = f ∧ hpC h1 3 10 = (p : Int) ∧ KR h h1 (3 + 69) 1, sp_ctown c hV (by omega) (fun f' p' e h1 c1 f1 x9 x10 kr => by rw [q] at e; cases e; exact ⟨rfl, ⟨_, _, c1⟩, f1, x9, x10, kr⟩) (fun e' D' T' G' e => by rw [q] at e; cases e), fun v1 h1 q1 => ?_⟩
    obtain ⟨e1, c1, f1, x9, x10, kr⟩ := q1
    obtain ⟨m1, _, _⟩ := lb_mid m t1 f1
    refine ⟨⟨by omega, by omega, by omega, m1.1.1.tag⟩, fun rv h2 => rv = some (xI (-1)) ∧ MS h2 73 w b 0 K cnt U ik iw ∧ FrM h1 h2 73 ∧ hpC h2 73 6 = f ∧ hpC h2 73 7 = (p : Int) ∧ KR h1 h2 (73 + 3) 1, sp_mtown m1 (by omega) (fun f' p' e h2 m2 f2 y6 y7 kr => by rw [q] at e; cases e; exact ⟨rfl, m2, f2, y6, y7, kr⟩) (fun e' D' T' G' e => by rw [q] at e; cases e), fun v2 h2 q2 => ?_⟩
    obtain ⟨e2, m2, f2, y6, y7, kr2⟩ := q2
    have n2 : ∀ q p, q < 73 → hpC h2 q p = hpC h1 q p := fun q p hq => f2.2.2 q p (by omega)
    have iv2 : INV L h2 := lb_inv iv c1 f1 m2 f2 (fun i hi => by rw [n2 _ _ (by omega), kr i hi, kr2 i hi, (f1.2 (73 + 3) (by omega)).2, r i hi]) (by rw [n2 _ _ (by omega), x9, y6]) (by rw [n2 _ _ (by omega), x10, y7]) hV hK
    have ev : v1 = v2 := by have := xI_inj e1; have := xI_inj e2; omega
    rw [if_pos ev]
    exact nx h2 _ _ iv2 (by omega) (by omega)
  | inr rr =>
    obtain ⟨e', D, T, G⟩ := rr
    have VD := seW_V (pTown_ok q).1.2.1
    refine ⟨⟨by omega, by omega, by omega, c.1.tag⟩, fun rv h1 => rv = some (xI (D 7)) ∧ (∃ A nx, CS h1 3 (seW D) b 0 K A nx 0 U ik iw) ∧ FrC h h1 3 ∧ hpC h1 3 9 = 0 ∧ hpC h1 3 10 = -1 ∧ KR h h1 (3 + 69) 5, sp_ctown c hV (by omega) (fun f' p' e => by rw [q] at e; cases e) (fun e' D' T' G' e h1 c1 f1 x9 x10 kr => by rw [q] at e; cases e; exact ⟨rfl, ⟨_, _, c1⟩, f1, x9, x10, kr⟩), fun v1 h1 q1 => ?_⟩
    obtain ⟨e1, c1, f1, x9, x10, kr⟩ := q1
    obtain ⟨m1, _, _⟩ := lb_mid m t1 f1
    refine ⟨⟨by omega, by omega, by omega, m1.1.1.tag⟩, fun rv h2 => rv = some (xI (D 7)) ∧ MS h2 73 (seW D) b 0 K 0 U ik iw ∧ FrM h1 h2 73 ∧ hpC h2 73 6 = 0 ∧ hpC h2 73 7 = -1 ∧ KR h1 h2 (73 + 3) 5, sp_mtown m1 (by omega) (fun f' p' e => by rw [q] at e; cases e) (fun e' D' T' G' e h2 m2 f2 y6 y7 kr => by rw [q] at e; cases e; exact ⟨rfl, m2, f2, y6, y7, kr⟩), fun v2 h2 q2 => ?_⟩
    obtain ⟨e2, m2, f2, y6, y7, kr2⟩ := q2
    have n2 : ∀ q p, q < 73 → hpC h2 q p = hpC h1 q p := fun q p hq => f2.2.2 q p (by omega)
    have iv2 : INV L h2 := lb_inv iv c1 f1 m2 f2 (fun i hi => by rw [n2 _ _ (by omega), kr i hi, kr2 i hi, (f1.2 (73 + 3) (by omega)).2, r i hi]) (by rw [n2 _ _ (by omega), x9, y6]) (by rw [n2 _ _ (by omega), x10, y7]) VD hK
    have ev : v1 = v2 := by have := xI_inj e1; have := xI_inj e2; omega
    rw [if_pos ev]
    exact nx h2 _ _ iv2 (by omega) (by omega)
theorem lb_319 {L i mc ms : Nat} {h : Hp} {R : PR} (iv : INV L h) (hi : i + 6 ≤ L) (hL : L ≤ 3072) (hm : 23 ≤ mc) (hs : 682 ≤ ms) (nx : ∀ h2 mc' ms', INV L h2 → mc ≤ mc' + 23 → ms ≤ ms' + 682 → Wp 1000 1521 [some (xR 1), some (xR 3), some (xR 73), some (xI (i : Int))] [] h2 2000 mc' ms' R) : Wp 1000 319 [some (xR 1), some (xR 3), some (xR 73), some (xI (i : Int))] [] h 2000 mc ms R := by
  obtain ⟨w, b, n, K, A, nx0, cnt, U, ik, iw, c, m, hV, hK, r, r9, r10, t1⟩ := id iv
  obtain ⟨_, tp, _, ea, ck, nu, tr, cp, h5, hc0, _⟩ := id c
  have h20 := cp.1.2.2.2.2.2.2.2
  have a1 : ai_add (i : Int) 1 = ((i + 1 : Nat) : Int) := by rw [ai_add_eq (by omega) (by omega)]; omega
  apply b_law_319
  rw [a1, t1]
  refine ⟨⟨rfl, by omega, by show ((i + 1 : Nat) : Int) < (L : Int); omega⟩, ⟨by omega, by omega, by omega, c.1.tag⟩, CqQ h w b n K cnt U ik iw 5 (xI (if (hpC h 1 (Int.toNat ((i + 1 : Nat) : Int))) = 0 then hpC h 3 9 else if (hpC h 1 (Int.toNat ((i + 1 : Nat) : Int))) = 1 then hpC h 3 10 else -1)), sp_cfault c.1 (CqQ.of ⟨c, FrC.rf, KO.rf⟩), fun v1 h1 q1 => ?_⟩
  obtain ⟨m1, t1', s1⟩ := lb_mid m t1 q1.2.2.1
  have E1 : hpC h1 73 6 = hpC h 3 9 := by rw [(q1.2.2.1.2 73 (by omega)).2]; exact r9.symm
  have E2 : hpC h1 73 7 = hpC h 3 10 := by rw [(q1.2.2.1.2 73 (by omega)).2]; exact r10.symm
  rw [t1', s1]
  refine ⟨⟨rfl, by omega, by show ((i + 1 : Nat) : Int) < (L : Int); omega⟩, ⟨by omega, by omega, by omega, m1.1.1.tag⟩, MqQ h1 w b n K cnt U ik iw 5 (xI (if (hpC h 1 (Int.toNat ((i + 1 : Nat) : Int))) = 0 then hpC h 3 9 else if (hpC h 1 (Int.toNat ((i + 1 : Nat) : Int))) = 1 then hpC h 3 10 else -1)), sp_mfault m1.1.1 (by rw [E1, E2]; exact (MqQ.of ⟨m1, FrP.rf, KM.rf⟩)), fun v2 h2 q2 => ?_⟩
  obtain ⟨ev, iv2⟩ := lb_fin iv q1 q2 hV hK
  rw [if_pos (xI_v ev)]
  exact nx h2 _ _ iv2 (by omega) (by omega)
theorem lb_342 {L i mc ms : Nat} {h : Hp} {R : PR} (iv : INV L h) (hi : i + 6 ≤ L) (hL : L ≤ 3072) (hm : 23 ≤ mc) (hs : 682 ≤ ms) (nx : ∀ h2 mc' ms', INV L h2 → mc ≤ mc' + 23 → ms ≤ ms' + 682 → Wp 1000 1521 [some (xR 1), some (xR 3), some (xR 73), some (xI (i : Int))] [] h2 2000 mc' ms' R) : Wp 1000 342 [some (xR 1), some (xR 3), some (xR 73), some (xI (i : Int))] [] h 2000 mc ms R := by
  obtain ⟨w, b, n, K, A, nx0, cnt, U, ik, iw, c, m, hV, hK, r, r9, r10, t1⟩ := id iv
  obtain ⟨_, tp, _, ea, ck, nu, tr, cp, h5, hc0, _⟩ := id c
  have h20 := cp.1.2.2.2.2.2.2.2
  have a1 : ai_add (i : Int) 1 = ((i + 1 : Nat) : Int) := by rw [ai_add_eq (by omega) (by omega)]; omega
  apply b_law_342
  rw [a1, t1]
  refine ⟨⟨rfl, by omega, by show ((i + 1 : Nat) : Int) < (L : Int); omega⟩, ⟨by omega, by omega, by omega, c.1.tag⟩, CqQ h w b n K cnt U ik iw 5 _, sp_chas c.1 tr hV cp.1.1 cp.1.2.2.2.1 (by omega) (CqQ.of ⟨c, FrC.rf, KO.rf⟩), fun v1 h1 q1 => ?_⟩
  obtain ⟨m1, t1', s1⟩ := lb_mid m t1 q1.2.2.1
  rw [t1', s1]
  refine ⟨⟨rfl, by omega, by show ((i + 1 : Nat) : Int) < (L : Int); omega⟩, ⟨by omega, by omega, by omega, m1.1.1.tag⟩, MqQ h1 w b n K cnt U ik iw 5 _, sp_mhas m1.1 hV m1.2.2.2.2.1 (by omega) (MqQ.of ⟨m1, FrP.rf, KM.rf⟩), fun v2 h2 q2 => ?_⟩
  obtain ⟨ev, iv2⟩ := lb_fin iv q1 q2 hV hK
  rw [if_pos (xI_v ev)]
  exact nx h2 _ _ iv2 (by omega) (by omega)
theorem lb_365 {L i mc ms : Nat} {h : Hp} {R : PR} (iv : INV L h) (hi : i + 6 ≤ L) (hL : L ≤ 3072) (hm : 23 ≤ mc) (hs : 682 ≤ ms) (nx : ∀ h2 mc' ms', INV L h2 → mc ≤ mc' + 23 → ms ≤ ms' + 682 → Wp 1000 1521 [some (xR 1), some (xR 3), some (xR 73), some (xI (i : Int))] [] h2 2000 mc' ms' R) : Wp 1000 365 [some (xR 1), some (xR 3), some (xR 73), some (xI (i : Int))] [] h 2000 mc ms R := by
  obtain ⟨w, b, n, K, A, nx0, cnt, U, ik, iw, c, m, hV, hK, r, r9, r10, t1⟩ := id iv
  obtain ⟨_, tp, _, ea, ck, nu, tr, cp, h5, hc0, _⟩ := id c
  have h20 := cp.1.2.2.2.2.2.2.2
  have a1 : ai_add (i : Int) 1 = ((i + 1 : Nat) : Int) := by rw [ai_add_eq (by omega) (by omega)]; omega
  have a2 : ai_add (i : Int) 2 = ((i + 2 : Nat) : Int) := by rw [ai_add_eq (by omega) (by omega)]; omega
  have a3 : ai_add (i : Int) 3 = ((i + 3 : Nat) : Int) := by rw [ai_add_eq (by omega) (by omega)]; omega
  apply b_law_365
  rw [a1, a2, a3, t1]
  by_cases hc : hasN w (hpC h 1 (Int.toNat ((i + 1 : Nat) : Int))) (hpC h 1 (Int.toNat ((i + 2 : Nat) : Int))) ∧ 0 ≤ (hpC h 1 (Int.toNat ((i + 3 : Nat) : Int))) ∧ (hpC h 1 (Int.toNat ((i + 3 : Nat) : Int))) < 10
  · refine ⟨⟨rfl, by omega, by show ((i + 1 : Nat) : Int) < (L : Int); omega⟩, ⟨rfl, by omega, by show ((i + 2 : Nat) : Int) < (L : Int); omega⟩, ⟨rfl, by omega, by show ((i + 3 : Nat) : Int) < (L : Int); omega⟩, ⟨by omega, by omega, by omega, c.1.tag⟩, CqQ h w b n K cnt U ik iw 5 _, sp_cletter c.1 tr hV (by omega) (fun _ _ _ => (CqQ.of ⟨c, FrC.rf, KO.rf⟩)) (fun z => absurd hc z), fun v1 h1 q1 => ?_⟩
    obtain ⟨m1, t1', s1⟩ := lb_mid m t1 q1.2.2.1
    rw [t1', s1]
    refine ⟨⟨rfl, by omega, by show ((i + 1 : Nat) : Int) < (L : Int); omega⟩, ⟨rfl, by omega, by show ((i + 2 : Nat) : Int) < (L : Int); omega⟩, ⟨rfl, by omega, by show ((i + 3 : Nat) : Int) < (L : Int); omega⟩, ⟨by omega, by omega, by omega, m1.1.1.tag⟩, MqQ h1 w b n K cnt U ik iw 5 _, sp_mletter m1.1 hV (by omega) (fun _ _ _ => (MqQ.of ⟨m1, FrP.rf, KM.rf⟩)) (fun z => absurd hc z), fun v2 h2 q2 => ?_⟩
    obtain ⟨ev, iv2⟩ := lb_fin iv q1 q2 hV hK
    rw [if_pos (xI_v ev)]
    exact nx h2 _ _ iv2 (by omega) (by omega)
  · refine ⟨⟨rfl, by omega, by show ((i + 1 : Nat) : Int) < (L : Int); omega⟩, ⟨rfl, by omega, by show ((i + 2 : Nat) : Int) < (L : Int); omega⟩, ⟨rfl, by omega, by show ((i + 3 : Nat) : Int) < (L : Int); omega⟩, ⟨by omega, by omega, by omega, c.1.tag⟩, CqQ h w b n K cnt U ik iw 5 _, sp_cletter c.1 tr hV (by omega) (fun a b d => absurd ⟨a, b, d⟩ hc) (fun _ => (CqQ.of ⟨c, FrC.rf, KO.rf⟩)), fun v1 h1 q1 => ?_⟩
    obtain ⟨m1, t1', s1⟩ := lb_mid m t1 q1.2.2.1
    rw [t1', s1]
    refine ⟨⟨rfl, by omega, by show ((i + 1 : Nat) : Int) < (L : Int); omega⟩, ⟨rfl, by omega, by show ((i + 2 : Nat) : Int) < (L : Int); omega⟩, ⟨rfl, by omega, by show ((i + 3 : Nat) : Int) < (L : Int); omega⟩, ⟨by omega, by omega, by omega, m1.1.1.tag⟩, MqQ h1 w b n K cnt U ik iw 5 _, sp_mletter m1.1 hV (by omega) (fun a b d => absurd ⟨a, b, d⟩ hc) (fun _ => (MqQ.of ⟨m1, FrP.rf, KM.rf⟩)), fun v2 h2 q2 => ?_⟩
    obtain ⟨ev, iv2⟩ := lb_fin iv q1 q2 hV hK
    rw [if_pos (xI_v ev)]
    exact nx h2 _ _ iv2 (by omega) (by omega)
theorem lb_408 {L i mc ms : Nat} {h : Hp} {R : PR} (iv : INV L h) (hi : i + 6 ≤ L) (hL : L ≤ 3072) (hm : 23 ≤ mc) (hs : 682 ≤ ms) (nx : ∀ h2 mc' ms', INV L h2 → mc ≤ mc' + 23 → ms ≤ ms' + 682 → Wp 1000 1521 [some (xR 1), some (xR 3), some (xR 73), some (xI (i : Int))] [] h2 2000 mc' ms' R) : Wp 1000 408 [some (xR 1), some (xR 3), some (xR 73), some (xI (i : Int))] [] h 2000 mc ms R := by
  obtain ⟨w, b, n, K, A, nx0, cnt, U, ik, iw, c, m, hV, hK, r, r9, r10, t1⟩ := id iv
  obtain ⟨_, tp, _, ea, ck, nu, tr, cp, h5, hc0, _⟩ := id c
  have h20 := cp.1.2.2.2.2.2.2.2
  have a1 : ai_add (i : Int) 1 = ((i + 1 : Nat) : Int) := by rw [ai_add_eq (by omega) (by omega)]; omega
  have a2 : ai_add (i : Int) 2 = ((i + 2 : Nat) : Int) := by rw [ai_add_eq (by omega) (by omega)]; omega
  have a3 : ai_add (i : Int) 3 = ((i + 3 : Nat) : Int) := by rw [ai_add_eq (by omega) (by omega)]; omega
  apply b_law_408
  rw [a1, a2, a3, t1]
  by_cases hc : hasN w (hpC h 1 (Int.toNat ((i + 1 : Nat) : Int))) (hpC h 1 (Int.toNat ((i + 2 : Nat) : Int))) ∧ 0 ≤ (hpC h 1 (Int.toNat ((i + 3 : Nat) : Int))) ∧ (hpC h 1 (Int.toNat ((i + 3 : Nat) : Int))) < 10
  · refine ⟨⟨rfl, by omega, by show ((i + 1 : Nat) : Int) < (L : Int); omega⟩, ⟨rfl, by omega, by show ((i + 2 : Nat) : Int) < (L : Int); omega⟩, ⟨rfl, by omega, by show ((i + 3 : Nat) : Int) < (L : Int); omega⟩, ⟨by omega, by omega, by omega, c.1.tag⟩, CqQ h w b n K cnt U ik iw 5 _, sp_ckey c.1 tr hV (by omega) (fun _ _ _ => (CqQ.of ⟨c, FrC.rf, KO.rf⟩)) (fun z => absurd hc z), fun v1 h1 q1 => ?_⟩
    obtain ⟨m1, t1', s1⟩ := lb_mid m t1 q1.2.2.1
    rw [t1', s1]
    refine ⟨⟨rfl, by omega, by show ((i + 1 : Nat) : Int) < (L : Int); omega⟩, ⟨rfl, by omega, by show ((i + 2 : Nat) : Int) < (L : Int); omega⟩, ⟨rfl, by omega, by show ((i + 3 : Nat) : Int) < (L : Int); omega⟩, ⟨by omega, by omega, by omega, m1.1.1.tag⟩, MqQ h1 w b n K cnt U ik iw 5 _, sp_mkey m1.1 hV (by omega) (fun _ _ _ => (fun _ f => MqQ.of (m1.q f))) (fun z => absurd hc z), fun v2 h2 q2 => ?_⟩
    obtain ⟨ev, iv2⟩ := lb_fin iv q1 q2 hV hK
    rw [if_pos (xI_v ev)]
    exact nx h2 _ _ iv2 (by omega) (by omega)
  · refine ⟨⟨rfl, by omega, by show ((i + 1 : Nat) : Int) < (L : Int); omega⟩, ⟨rfl, by omega, by show ((i + 2 : Nat) : Int) < (L : Int); omega⟩, ⟨rfl, by omega, by show ((i + 3 : Nat) : Int) < (L : Int); omega⟩, ⟨by omega, by omega, by omega, c.1.tag⟩, CqQ h w b n K cnt U ik iw 5 _, sp_ckey c.1 tr hV (by omega) (fun a b d => absurd ⟨a, b, d⟩ hc) (fun _ => (CqQ.of ⟨c, FrC.rf, KO.rf⟩)), fun v1 h1 q1 => ?_⟩
    obtain ⟨m1, t1', s1⟩ := lb_mid m t1 q1.2.2.1
    rw [t1', s1]
    refine ⟨⟨rfl, by omega, by show ((i + 1 : Nat) : Int) < (L : Int); omega⟩, ⟨rfl, by omega, by show ((i + 2 : Nat) : Int) < (L : Int); omega⟩, ⟨rfl, by omega, by show ((i + 3 : Nat) : Int) < (L : Int); omega⟩, ⟨by omega, by omega, by omega, m1.1.1.tag⟩, MqQ h1 w b n K cnt U ik iw 5 _, sp_mkey m1.1 hV (by omega) (fun a b d => absurd ⟨a, b, d⟩ hc) (fun _ => (MqQ.of ⟨m1, FrP.rf, KM.rf⟩)), fun v2 h2 q2 => ?_⟩
    obtain ⟨ev, iv2⟩ := lb_fin iv q1 q2 hV hK
    rw [if_pos (xI_v ev)]
    exact nx h2 _ _ iv2 (by omega) (by omega)
theorem lb_451 {L i mc ms : Nat} {h : Hp} {R : PR} (iv : INV L h) (hi : i + 6 ≤ L) (hL : L ≤ 3072) (hm : 23 ≤ mc) (hs : 682 ≤ ms) (nx : ∀ h2 mc' ms', INV L h2 → mc ≤ mc' + 23 → ms ≤ ms' + 682 → Wp 1000 1521 [some (xR 1), some (xR 3), some (xR 73), some (xI (i : Int))] [] h2 2000 mc' ms' R) : Wp 1000 451 [some (xR 1), some (xR 3), some (xR 73), some (xI (i : Int))] [] h 2000 mc ms R := by
  obtain ⟨w, b, n, K, A, nx0, cnt, U, ik, iw, c, m, hV, hK, r, r9, r10, t1⟩ := id iv
  obtain ⟨_, tp, _, ea, ck, nu, tr, cp, h5, hc0, _⟩ := id c
  have h20 := cp.1.2.2.2.2.2.2.2
  have a1 : ai_add (i : Int) 1 = ((i + 1 : Nat) : Int) := by rw [ai_add_eq (by omega) (by omega)]; omega
  have a2 : ai_add (i : Int) 2 = ((i + 2 : Nat) : Int) := by rw [ai_add_eq (by omega) (by omega)]; omega
  have a3 : ai_add (i : Int) 3 = ((i + 3 : Nat) : Int) := by rw [ai_add_eq (by omega) (by omega)]; omega
  have a4 : ai_add (i : Int) 4 = ((i + 4 : Nat) : Int) := by rw [ai_add_eq (by omega) (by omega)]; omega
  apply b_law_451
  rw [a1, a2, a3, a4, t1]
  by_cases hc : hasN w (hpC h 1 (Int.toNat ((i + 1 : Nat) : Int))) (hpC h 1 (Int.toNat ((i + 2 : Nat) : Int))) ∧ hasN w (hpC h 1 (Int.toNat ((i + 3 : Nat) : Int))) (hpC h 1 (Int.toNat ((i + 4 : Nat) : Int)))
  · refine ⟨⟨rfl, by omega, by show ((i + 1 : Nat) : Int) < (L : Int); omega⟩, ⟨rfl, by omega, by show ((i + 2 : Nat) : Int) < (L : Int); omega⟩, ⟨rfl, by omega, by show ((i + 3 : Nat) : Int) < (L : Int); omega⟩, ⟨rfl, by omega, by show ((i + 4 : Nat) : Int) < (L : Int); omega⟩, ⟨by omega, by omega, by omega, c.1.tag⟩, CqQ h w b n K cnt U ik iw 5 _, sp_cchanges c.1 ea tr hV (by omega) (fun _ _ => (fun _ f => CqQ.of (c.q (f.P (fun q p z => z)) (fun q p z => Or.inl z)))) (fun z => absurd hc z), fun v1 h1 q1 => ?_⟩
    obtain ⟨m1, t1', s1⟩ := lb_mid m t1 q1.2.2.1
    rw [t1', s1]
    refine ⟨⟨rfl, by omega, by show ((i + 1 : Nat) : Int) < (L : Int); omega⟩, ⟨rfl, by omega, by show ((i + 2 : Nat) : Int) < (L : Int); omega⟩, ⟨rfl, by omega, by show ((i + 3 : Nat) : Int) < (L : Int); omega⟩, ⟨rfl, by omega, by show ((i + 4 : Nat) : Int) < (L : Int); omega⟩, ⟨by omega, by omega, by omega, m1.1.1.tag⟩, MqQ h1 w b n K cnt U ik iw 5 _, sp_mchanges m1.1 hV (by omega) (fun _ _ => (fun _ f => MqQ.of (m1.q f))) (fun z => absurd hc z), fun v2 h2 q2 => ?_⟩
    obtain ⟨ev, iv2⟩ := lb_fin iv q1 q2 hV hK
    rw [if_pos (xI_v ev)]
    exact nx h2 _ _ iv2 (by omega) (by omega)
  · refine ⟨⟨rfl, by omega, by show ((i + 1 : Nat) : Int) < (L : Int); omega⟩, ⟨rfl, by omega, by show ((i + 2 : Nat) : Int) < (L : Int); omega⟩, ⟨rfl, by omega, by show ((i + 3 : Nat) : Int) < (L : Int); omega⟩, ⟨rfl, by omega, by show ((i + 4 : Nat) : Int) < (L : Int); omega⟩, ⟨by omega, by omega, by omega, c.1.tag⟩, CqQ h w b n K cnt U ik iw 5 _, sp_cchanges c.1 ea tr hV (by omega) (fun a b => absurd ⟨a, b⟩ hc) (fun _ => (CqQ.of ⟨c, FrC.rf, KO.rf⟩)), fun v1 h1 q1 => ?_⟩
    obtain ⟨m1, t1', s1⟩ := lb_mid m t1 q1.2.2.1
    rw [t1', s1]
    refine ⟨⟨rfl, by omega, by show ((i + 1 : Nat) : Int) < (L : Int); omega⟩, ⟨rfl, by omega, by show ((i + 2 : Nat) : Int) < (L : Int); omega⟩, ⟨rfl, by omega, by show ((i + 3 : Nat) : Int) < (L : Int); omega⟩, ⟨rfl, by omega, by show ((i + 4 : Nat) : Int) < (L : Int); omega⟩, ⟨by omega, by omega, by omega, m1.1.1.tag⟩, MqQ h1 w b n K cnt U ik iw 5 _, sp_mchanges m1.1 hV (by omega) (fun a b => absurd ⟨a, b⟩ hc) (fun _ => (MqQ.of ⟨m1, FrP.rf, KM.rf⟩)), fun v2 h2 q2 => ?_⟩
    obtain ⟨ev, iv2⟩ := lb_fin iv q1 q2 hV hK
    rw [if_pos (xI_v ev)]
    exact nx h2 _ _ iv2 (by omega) (by omega)
theorem lb_504 {L i mc ms : Nat} {h : Hp} {R : PR} (iv : INV L h) (hi : i + 6 ≤ L) (hL : L ≤ 3072) (hm : 23 ≤ mc) (hs : 682 ≤ ms) (nx : ∀ h2 mc' ms', INV L h2 → mc ≤ mc' + 23 → ms ≤ ms' + 682 → Wp 1000 1521 [some (xR 1), some (xR 3), some (xR 73), some (xI (i : Int))] [] h2 2000 mc' ms' R) : Wp 1000 504 [some (xR 1), some (xR 3), some (xR 73), some (xI (i : Int))] [] h 2000 mc ms R := by
  obtain ⟨w, b, n, K, A, nx0, cnt, U, ik, iw, c, m, hV, hK, r, r9, r10, t1⟩ := id iv
  obtain ⟨_, tp, _, ea, ck, nu, tr, cp, h5, hc0, _⟩ := id c
  have h20 := cp.1.2.2.2.2.2.2.2
  have a1 : ai_add (i : Int) 1 = ((i + 1 : Nat) : Int) := by rw [ai_add_eq (by omega) (by omega)]; omega
  have a2 : ai_add (i : Int) 2 = ((i + 2 : Nat) : Int) := by rw [ai_add_eq (by omega) (by omega)]; omega
  have a3 : ai_add (i : Int) 3 = ((i + 3 : Nat) : Int) := by rw [ai_add_eq (by omega) (by omega)]; omega
  have a4 : ai_add (i : Int) 4 = ((i + 4 : Nat) : Int) := by rw [ai_add_eq (by omega) (by omega)]; omega
  apply b_law_504
  rw [a1, a2, a3, a4, t1]
  by_cases hc : hasN w (hpC h 1 (Int.toNat ((i + 1 : Nat) : Int))) (hpC h 1 (Int.toNat ((i + 2 : Nat) : Int))) ∧ hasN w (hpC h 1 (Int.toNat ((i + 3 : Nat) : Int))) (hpC h 1 (Int.toNat ((i + 4 : Nat) : Int)))
  · refine ⟨⟨rfl, by omega, by show ((i + 1 : Nat) : Int) < (L : Int); omega⟩, ⟨rfl, by omega, by show ((i + 2 : Nat) : Int) < (L : Int); omega⟩, ⟨rfl, by omega, by show ((i + 3 : Nat) : Int) < (L : Int); omega⟩, ⟨rfl, by omega, by show ((i + 4 : Nat) : Int) < (L : Int); omega⟩, ⟨by omega, by omega, by omega, c.1.tag⟩, CqQ h w b n K cnt U ik iw 5 _, sp_calike c.1 tr hV (by omega) (fun _ _ => (CqQ.of ⟨c, FrC.rf, KO.rf⟩)) (fun z => absurd hc z), fun v1 h1 q1 => ?_⟩
    obtain ⟨m1, t1', s1⟩ := lb_mid m t1 q1.2.2.1
    rw [t1', s1]
    refine ⟨⟨rfl, by omega, by show ((i + 1 : Nat) : Int) < (L : Int); omega⟩, ⟨rfl, by omega, by show ((i + 2 : Nat) : Int) < (L : Int); omega⟩, ⟨rfl, by omega, by show ((i + 3 : Nat) : Int) < (L : Int); omega⟩, ⟨rfl, by omega, by show ((i + 4 : Nat) : Int) < (L : Int); omega⟩, ⟨by omega, by omega, by omega, m1.1.1.tag⟩, MqQ h1 w b n K cnt U ik iw 5 _, sp_malike m1.1 hV (by omega) (fun _ _ => (fun _ f => MqQ.of (m1.q f))) (fun z => absurd hc z), fun v2 h2 q2 => ?_⟩
    obtain ⟨ev, iv2⟩ := lb_fin iv q1 q2 hV hK
    rw [if_pos (xI_v ev)]
    exact nx h2 _ _ iv2 (by omega) (by omega)
  · refine ⟨⟨rfl, by omega, by show ((i + 1 : Nat) : Int) < (L : Int); omega⟩, ⟨rfl, by omega, by show ((i + 2 : Nat) : Int) < (L : Int); omega⟩, ⟨rfl, by omega, by show ((i + 3 : Nat) : Int) < (L : Int); omega⟩, ⟨rfl, by omega, by show ((i + 4 : Nat) : Int) < (L : Int); omega⟩, ⟨by omega, by omega, by omega, c.1.tag⟩, CqQ h w b n K cnt U ik iw 5 _, sp_calike c.1 tr hV (by omega) (fun a b => absurd ⟨a, b⟩ hc) (fun _ => (CqQ.of ⟨c, FrC.rf, KO.rf⟩)), fun v1 h1 q1 => ?_⟩
    obtain ⟨m1, t1', s1⟩ := lb_mid m t1 q1.2.2.1
    rw [t1', s1]
    refine ⟨⟨rfl, by omega, by show ((i + 1 : Nat) : Int) < (L : Int); omega⟩, ⟨rfl, by omega, by show ((i + 2 : Nat) : Int) < (L : Int); omega⟩, ⟨rfl, by omega, by show ((i + 3 : Nat) : Int) < (L : Int); omega⟩, ⟨rfl, by omega, by show ((i + 4 : Nat) : Int) < (L : Int); omega⟩, ⟨by omega, by omega, by omega, m1.1.1.tag⟩, MqQ h1 w b n K cnt U ik iw 5 _, sp_malike m1.1 hV (by omega) (fun a b => absurd ⟨a, b⟩ hc) (fun _ => (MqQ.of ⟨m1, FrP.rf, KM.rf⟩)), fun v2 h2 q2 => ?_⟩
    obtain ⟨ev, iv2⟩ := lb_fin iv q1 q2 hV hK
    rw [if_pos (xI_v ev)]
    exact nx h2 _ _ iv2 (by omega) (by omega)
theorem lb_557 {L i mc ms : Nat} {h : Hp} {R : PR} (iv : INV L h) (hi : i + 6 ≤ L) (hL : L ≤ 3072) (hm : 23 ≤ mc) (hs : 682 ≤ ms) (nx : ∀ h2 mc' ms', INV L h2 → mc ≤ mc' + 23 → ms ≤ ms' + 682 → Wp 1000 1521 [some (xR 1), some (xR 3), some (xR 73), some (xI (i : Int))] [] h2 2000 mc' ms' R) : Wp 1000 557 [some (xR 1), some (xR 3), some (xR 73), some (xI (i : Int))] [] h 2000 mc ms R := by
  obtain ⟨w, b, n, K, A, nx0, cnt, U, ik, iw, c, m, hV, hK, r, r9, r10, t1⟩ := id iv
  obtain ⟨_, tp, _, ea, ck, nu, tr, cp, h5, hc0, _⟩ := id c
  have h20 := cp.1.2.2.2.2.2.2.2
  have a1 : ai_add (i : Int) 1 = ((i + 1 : Nat) : Int) := by rw [ai_add_eq (by omega) (by omega)]; omega
  have a2 : ai_add (i : Int) 2 = ((i + 2 : Nat) : Int) := by rw [ai_add_eq (by omega) (by omega)]; omega
  apply b_law_557
  rw [a1, a2, t1]
  refine ⟨⟨rfl, by omega, by show ((i + 1 : Nat) : Int) < (L : Int); omega⟩, ⟨rfl, by omega, by show ((i + 2 : Nat) : Int) < (L : Int); omega⟩, ⟨by omega, by omega, by omega, c.1.tag⟩, CqQ h w b n K cnt U ik iw 5 _, sp_calias c.1 tr hV (by omega) (CqQ.of ⟨c, FrC.rf, KO.rf⟩), fun v1 h1 q1 => ?_⟩
  obtain ⟨m1, t1', s1⟩ := lb_mid m t1 q1.2.2.1
  rw [t1', s1]
  refine ⟨⟨rfl, by omega, by show ((i + 1 : Nat) : Int) < (L : Int); omega⟩, ⟨rfl, by omega, by show ((i + 2 : Nat) : Int) < (L : Int); omega⟩, ⟨by omega, by omega, by omega, m1.1.1.tag⟩, MqQ h1 w b n K cnt U ik iw 5 _, sp_malias m1.1 hV (by omega) (MqQ.of ⟨m1, FrP.rf, KM.rf⟩), fun v2 h2 q2 => ?_⟩
  obtain ⟨ev, iv2⟩ := lb_fin iv q1 q2 hV hK
  rw [if_pos (xI_v ev)]
  exact nx h2 _ _ iv2 (by omega) (by omega)
theorem lb_590 {L i mc ms : Nat} {h : Hp} {R : PR} (iv : INV L h) (hi : i + 6 ≤ L) (hL : L ≤ 3072) (hm : 23 ≤ mc) (hs : 682 ≤ ms) (nx : ∀ h2 mc' ms', INV L h2 → mc ≤ mc' + 23 → ms ≤ ms' + 682 → Wp 1000 1521 [some (xR 1), some (xR 3), some (xR 73), some (xI (i : Int))] [] h2 2000 mc' ms' R) : Wp 1000 590 [some (xR 1), some (xR 3), some (xR 73), some (xI (i : Int))] [] h 2000 mc ms R := by
  obtain ⟨w, b, n, K, A, nx0, cnt, U, ik, iw, c, m, hV, hK, r, r9, r10, t1⟩ := id iv
  obtain ⟨_, tp, _, ea, ck, nu, tr, cp, h5, hc0, _⟩ := id c
  have h20 := cp.1.2.2.2.2.2.2.2
  apply b_law_590
  by_cases hc : nmT b n
  · refine ⟨⟨by omega, by omega, by omega, c.1.tag⟩, CqQ h w b 0 (keyV w (tvW b 0 n)) cnt U ik iw 5 _, sp_cheard c.1 tr hV tp (by omega) (fun _ => CqQ.of (c.hd _)) (fun z => absurd hc z), fun v1 h1 q1 => ?_⟩
    obtain ⟨m1, t1', s1⟩ := lb_mid m t1 q1.2.2.1
    refine ⟨⟨by omega, by omega, by omega, m1.1.1.tag⟩, MqQ h1 w b 0 (keyV w (tvW b 0 n)) cnt U ik iw 5 _, sp_mheard m1.1 hV m1.2.2.1 m1.2.1 (by omega) (fun _ _ f h5 he => MqQ.of (m1.hd f h5 he)) (fun z => absurd hc z), fun v2 h2 q2 => ?_⟩
    obtain ⟨ev, iv2⟩ := lb_fin iv q1 q2 hV ⟨keyV_mem hV (tvW_ok hc.1 hc.2.1 hc.2.2.1), keyV_len (tvW_ok hc.1 hc.2.1 hc.2.2.1)⟩
    rw [if_pos (xI_v ev)]
    exact nx h2 _ _ iv2 (by omega) (by omega)
  · refine ⟨⟨by omega, by omega, by omega, c.1.tag⟩, CqQ h w b 0 K cnt U ik iw 5 _, sp_cheard c.1 tr hV tp (by omega) (fun a => absurd a hc) (fun _ => CqQ.of (c.tz (FrP.up (Or.inl ⟨rfl, rfl⟩)) (hpC_same _ _ _ _))), fun v1 h1 q1 => ?_⟩
    obtain ⟨m1, t1', s1⟩ := lb_mid m t1 q1.2.2.1
    refine ⟨⟨by omega, by omega, by omega, m1.1.1.tag⟩, MqQ h1 w b 0 K cnt U ik iw 5 _, sp_mheard m1.1 hV m1.2.2.1 m1.2.1 (by omega) (fun a => absurd a hc) (fun _ _ f h5 e22 e10 => MqQ.of (m1.hd f h5 ⟨by rw [e22]; exact m1.2.2.2.1.1, fun i hi => by rw [e10]; exact m1.2.2.2.1.2 i hi⟩)), fun v2 h2 q2 => ?_⟩
    obtain ⟨ev, iv2⟩ := lb_fin iv q1 q2 hV hK
    rw [if_pos (xI_v ev)]
    exact nx h2 _ _ iv2 (by omega) (by omega)
theorem lb_603 {L i mc ms : Nat} {h : Hp} {R : PR} (iv : INV L h) (hi : i + 6 ≤ L) (hL : L ≤ 3072) (hm : 23 ≤ mc) (hs : 682 ≤ ms) (nx : ∀ h2 mc' ms', INV L h2 → mc ≤ mc' + 23 → ms ≤ ms' + 682 → Wp 1000 1521 [some (xR 1), some (xR 3), some (xR 73), some (xI (i : Int))] [] h2 2000 mc' ms' R) : Wp 1000 603 [some (xR 1), some (xR 3), some (xR 73), some (xI (i : Int))] [] h 2000 mc ms R := by
  obtain ⟨w, b, n, K, A, nx0, cnt, U, ik, iw, c, m, hV, hK, r, r9, r10, t1⟩ := id iv
  obtain ⟨_, tp, _, ea, ck, nu, tr, cp, h5, hc0, _⟩ := id c
  have h20 := cp.1.2.2.2.2.2.2.2
  have a1 : ai_add (i : Int) 1 = ((i + 1 : Nat) : Int) := by rw [ai_add_eq (by omega) (by omega)]; omega
  apply b_law_603
  rw [a1, t1]
  refine ⟨⟨rfl, by omega, by show ((i + 1 : Nat) : Int) < (L : Int); omega⟩, ⟨by omega, by omega, by omega, c.1.tag⟩, CqQ h w b n K cnt U ik iw 5 _, sp_cheardAt c.1 hc0 hK (by omega) (CqQ.of ⟨c, FrC.rf, KO.rf⟩), fun v1 h1 q1 => ?_⟩
  obtain ⟨m1, t1', s1⟩ := lb_mid m t1 q1.2.2.1
  rw [t1', s1]
  refine ⟨⟨rfl, by omega, by show ((i + 1 : Nat) : Int) < (L : Int); omega⟩, ⟨by omega, by omega, by omega, m1.1.1.tag⟩, MqQ h1 w b n K cnt U ik iw 5 _, sp_mheardAt m1.1.1 m1.2.2.2.1 hK (by omega) (MqQ.of ⟨m1, FrP.rf, KM.rf⟩), fun v2 h2 q2 => ?_⟩
  obtain ⟨ev, iv2⟩ := lb_fin iv q1 q2 hV hK
  rw [if_pos (xI_v ev)]
  exact nx h2 _ _ iv2 (by omega) (by omega)
theorem lb_626 {L i mc ms : Nat} {h : Hp} {R : PR} (iv : INV L h) (hi : i + 6 ≤ L) (hL : L ≤ 3072) (hm : 23 ≤ mc) (hs : 682 ≤ ms) (nx : ∀ h2 mc' ms', INV L h2 → mc ≤ mc' + 23 → ms ≤ ms' + 682 → Wp 1000 1521 [some (xR 1), some (xR 3), some (xR 73), some (xI (i : Int))] [] h2 2000 mc' ms' R) : Wp 1000 626 [some (xR 1), some (xR 3), some (xR 73), some (xI (i : Int))] [] h 2000 mc ms R := by
  obtain ⟨w, b, n, K, A, nx0, cnt, U, ik, iw, c, m, hV, hK, r, r9, r10, t1⟩ := id iv
  obtain ⟨_, tp, _, ea, ck, nu, tr, cp, h5, hc0, _⟩ := id c
  have h20 := cp.1.2.2.2.2.2.2.2
  apply b_law_626
  by_cases hc : nmT b n
  · refine ⟨⟨by omega, by omega, by omega, c.1.tag⟩, CqQ h w b 0 K cnt U ik iw 5 _, sp_cfind c.1 tr hV ea tp (by omega) (fun _ _ f z => CqQ.of (c.tz f z)) (fun z => absurd hc z), fun v1 h1 q1 => ?_⟩
    obtain ⟨m1, t1', s1⟩ := lb_mid m t1 q1.2.2.1
    refine ⟨⟨by omega, by omega, by omega, m1.1.1.tag⟩, MqQ h1 w b 0 K cnt U ik iw 5 _, sp_mfind m1.1 hV m1.2.2.1 m1.2.1 (by omega) (fun _ _ f z => MqQ.of (m1.tz f z)) (fun z => absurd hc z), fun v2 h2 q2 => ?_⟩
    obtain ⟨ev, iv2⟩ := lb_fin iv q1 q2 hV hK
    rw [if_pos (xI_v ev)]
    exact nx h2 _ _ iv2 (by omega) (by omega)
  · refine ⟨⟨by omega, by omega, by omega, c.1.tag⟩, CqQ h w b 0 K cnt U ik iw 5 _, sp_cfind c.1 tr hV ea tp (by omega) (fun a => absurd a hc) (fun _ _ f z => CqQ.of (c.tz f z)), fun v1 h1 q1 => ?_⟩
    obtain ⟨m1, t1', s1⟩ := lb_mid m t1 q1.2.2.1
    refine ⟨⟨by omega, by omega, by omega, m1.1.1.tag⟩, MqQ h1 w b 0 K cnt U ik iw 5 _, sp_mfind m1.1 hV m1.2.2.1 m1.2.1 (by omega) (fun a => absurd a hc) (fun _ _ f z => MqQ.of (m1.tz f z)), fun v2 h2 q2 => ?_⟩
    obtain ⟨ev, iv2⟩ := lb_fin iv q1 q2 hV hK
    rw [if_pos (xI_v ev)]
    exact nx h2 _ _ iv2 (by omega) (by omega)
theorem lb_639 {L i mc ms : Nat} {h : Hp} {R : PR} (iv : INV L h) (hi : i + 6 ≤ L) (hL : L ≤ 3072) (hm : 23 ≤ mc) (hs : 682 ≤ ms) (nx : ∀ h2 mc' ms', INV L h2 → mc ≤ mc' + 23 → ms ≤ ms' + 682 → Wp 1000 1521 [some (xR 1), some (xR 3), some (xR 73), some (xI (i : Int))] [] h2 2000 mc' ms' R) : Wp 1000 639 [some (xR 1), some (xR 3), some (xR 73), some (xI (i : Int))] [] h 2000 mc ms R := by
  obtain ⟨w, b, n, K, A, nx0, cnt, U, ik, iw, c, m, hV, hK, r, r9, r10, t1⟩ := id iv
  obtain ⟨_, tp, _, ea, ck, nu, tr, cp, h5, hc0, _⟩ := id c
  have h20 := cp.1.2.2.2.2.2.2.2
  apply b_law_639
  by_cases hc : nmT b n
  · refine ⟨⟨by omega, by omega, by omega, c.1.tag⟩, CqQ h w b 0 K cnt U ik iw 5 _, sp_cfades c.1 tr hV ea tp (by omega) (fun _ _ f z => CqQ.of (c.tz f z)) (fun z => absurd hc z), fun v1 h1 q1 => ?_⟩
    obtain ⟨m1, t1', s1⟩ := lb_mid m t1 q1.2.2.1
    refine ⟨⟨by omega, by omega, by omega, m1.1.1.tag⟩, MqQ h1 w b 0 K cnt U ik iw 5 _, sp_mfades m1.1 hV m1.2.2.1 m1.2.1 (by omega) (fun _ _ f z => MqQ.of (m1.tz f z)) (fun z => absurd hc z), fun v2 h2 q2 => ?_⟩
    obtain ⟨ev, iv2⟩ := lb_fin iv q1 q2 hV hK
    rw [if_pos (xI_v ev)]
    exact nx h2 _ _ iv2 (by omega) (by omega)
  · refine ⟨⟨by omega, by omega, by omega, c.1.tag⟩, CqQ h w b 0 K cnt U ik iw 5 _, sp_cfades c.1 tr hV ea tp (by omega) (fun a => absurd a hc) (fun _ _ f z => CqQ.of (c.tz f z)), fun v1 h1 q1 => ?_⟩
    obtain ⟨m1, t1', s1⟩ := lb_mid m t1 q1.2.2.1
    refine ⟨⟨by omega, by omega, by omega, m1.1.1.tag⟩, MqQ h1 w b 0 K cnt U ik iw 5 _, sp_mfades m1.1 hV m1.2.2.1 m1.2.1 (by omega) (fun a => absurd a hc) (fun _ _ f z => MqQ.of (m1.tz f z)), fun v2 h2 q2 => ?_⟩
    obtain ⟨ev, iv2⟩ := lb_fin iv q1 q2 hV hK
    rw [if_pos (xI_v ev)]
    exact nx h2 _ _ iv2 (by omega) (by omega)
theorem lb_652 {L i mc ms : Nat} {h : Hp} {R : PR} (iv : INV L h) (hi : i + 6 ≤ L) (hL : L ≤ 3072) (hm : 23 ≤ mc) (hs : 682 ≤ ms) (nx : ∀ h2 mc' ms', INV L h2 → mc ≤ mc' + 23 → ms ≤ ms' + 682 → Wp 1000 1521 [some (xR 1), some (xR 3), some (xR 73), some (xI (i : Int))] [] h2 2000 mc' ms' R) : Wp 1000 652 [some (xR 1), some (xR 3), some (xR 73), some (xI (i : Int))] [] h 2000 mc ms R := by
  obtain ⟨w, b, n, K, A, nx0, cnt, U, ik, iw, c, m, hV, hK, r, r9, r10, t1⟩ := id iv
  obtain ⟨_, tp, _, ea, ck, nu, tr, cp, h5, hc0, _⟩ := id c
  have h20 := cp.1.2.2.2.2.2.2.2
  have a1 : ai_add (i : Int) 1 = ((i + 1 : Nat) : Int) := by rw [ai_add_eq (by omega) (by omega)]; omega
  have a2 : ai_add (i : Int) 2 = ((i + 2 : Nat) : Int) := by rw [ai_add_eq (by omega) (by omega)]; omega
  have a3 : ai_add (i : Int) 3 = ((i + 3 : Nat) : Int) := by rw [ai_add_eq (by omega) (by omega)]; omega
  apply b_law_652
  rw [a1, a2, a3, t1]
  by_cases hc : hasN w (hpC h 1 (Int.toNat ((i + 1 : Nat) : Int))) (hpC h 1 (Int.toNat ((i + 2 : Nat) : Int))) ∧ 0 ≤ (hpC h 1 (Int.toNat ((i + 3 : Nat) : Int))) ∧ (hpC h 1 (Int.toNat ((i + 3 : Nat) : Int))) ≤ 1
  · refine ⟨⟨rfl, by omega, by show ((i + 1 : Nat) : Int) < (L : Int); omega⟩, ⟨rfl, by omega, by show ((i + 2 : Nat) : Int) < (L : Int); omega⟩, ⟨rfl, by omega, by show ((i + 3 : Nat) : Int) < (L : Int); omega⟩, ⟨by omega, by omega, by omega, c.1.tag⟩, CqQ h w b n K cnt U ik iw 5 _, sp_cnearest c.1 tr hV ea (by omega) (fun _ _ => (fun _ f => CqQ.of (c.q (f.P (fun q p z => z)) (fun q p z => Or.inl z)))) (fun z => absurd hc z), fun v1 h1 q1 => ?_⟩
    obtain ⟨m1, t1', s1⟩ := lb_mid m t1 q1.2.2.1
    rw [t1', s1]
    refine ⟨⟨rfl, by omega, by show ((i + 1 : Nat) : Int) < (L : Int); omega⟩, ⟨rfl, by omega, by show ((i + 2 : Nat) : Int) < (L : Int); omega⟩, ⟨rfl, by omega, by show ((i + 3 : Nat) : Int) < (L : Int); omega⟩, ⟨by omega, by omega, by omega, m1.1.1.tag⟩, MqQ h1 w b n K cnt U ik iw 5 _, sp_mnearest m1.1 hV (by omega) (fun _ _ => (fun _ f => MqQ.of (m1.q f))) (fun z => absurd hc z), fun v2 h2 q2 => ?_⟩
    obtain ⟨ev, iv2⟩ := lb_fin iv q1 q2 hV hK
    rw [if_pos (xI_v ev)]
    exact nx h2 _ _ iv2 (by omega) (by omega)
  · refine ⟨⟨rfl, by omega, by show ((i + 1 : Nat) : Int) < (L : Int); omega⟩, ⟨rfl, by omega, by show ((i + 2 : Nat) : Int) < (L : Int); omega⟩, ⟨rfl, by omega, by show ((i + 3 : Nat) : Int) < (L : Int); omega⟩, ⟨by omega, by omega, by omega, c.1.tag⟩, CqQ h w b n K cnt U ik iw 5 _, sp_cnearest c.1 tr hV ea (by omega) (fun a b => absurd ⟨a, b.1, b.2⟩ hc) (fun _ => (CqQ.of ⟨c, FrC.rf, KO.rf⟩)), fun v1 h1 q1 => ?_⟩
    obtain ⟨m1, t1', s1⟩ := lb_mid m t1 q1.2.2.1
    rw [t1', s1]
    refine ⟨⟨rfl, by omega, by show ((i + 1 : Nat) : Int) < (L : Int); omega⟩, ⟨rfl, by omega, by show ((i + 2 : Nat) : Int) < (L : Int); omega⟩, ⟨rfl, by omega, by show ((i + 3 : Nat) : Int) < (L : Int); omega⟩, ⟨by omega, by omega, by omega, m1.1.1.tag⟩, MqQ h1 w b n K cnt U ik iw 5 _, sp_mnearest m1.1 hV (by omega) (fun a b => absurd ⟨a, b.1, b.2⟩ hc) (fun _ => (MqQ.of ⟨m1, FrP.rf, KM.rf⟩)), fun v2 h2 q2 => ?_⟩
    obtain ⟨ev, iv2⟩ := lb_fin iv q1 q2 hV hK
    rw [if_pos (xI_v ev)]
    exact nx h2 _ _ iv2 (by omega) (by omega)
theorem lb_695 {L i mc ms : Nat} {h : Hp} {R : PR} (iv : INV L h) (hi : i + 6 ≤ L) (hL : L ≤ 3072) (hm : 23 ≤ mc) (hs : 682 ≤ ms) (nx : ∀ h2 mc' ms', INV L h2 → mc ≤ mc' + 23 → ms ≤ ms' + 682 → Wp 1000 1521 [some (xR 1), some (xR 3), some (xR 73), some (xI (i : Int))] [] h2 2000 mc' ms' R) : Wp 1000 695 [some (xR 1), some (xR 3), some (xR 73), some (xI (i : Int))] [] h 2000 mc ms R := by
  obtain ⟨w, b, n, K, A, nx0, cnt, U, ik, iw, c, m, hV, hK, r, r9, r10, t1⟩ := id iv
  obtain ⟨_, tp, _, ea, ck, nu, tr, cp, h5, hc0, _⟩ := id c
  have h20 := cp.1.2.2.2.2.2.2.2
  have a1 : ai_add (i : Int) 1 = ((i + 1 : Nat) : Int) := by rw [ai_add_eq (by omega) (by omega)]; omega
  apply b_law_695
  rw [a1, t1]
  refine ⟨⟨rfl, by omega, by show ((i + 1 : Nat) : Int) < (L : Int); omega⟩, ⟨by omega, by omega, by omega, c.1.tag⟩, CqQ h w b n K cnt U ik iw 5 _, sp_cclash c.1 tr hV ck.1 ck.2.1 (by omega) (fun _ f k => CqQ.of (c.lk f k)), fun v1 h1 q1 => ?_⟩
  obtain ⟨m1, t1', s1⟩ := lb_mid m t1 q1.2.2.1
  rw [t1', s1]
  refine ⟨⟨rfl, by omega, by show ((i + 1 : Nat) : Int) < (L : Int); omega⟩, ⟨by omega, by omega, by omega, m1.1.1.tag⟩, MqQ h1 w b n K cnt U ik iw 5 _, sp_mclash m1.1 hV (by omega) (fun _ f => MqQ.of (m1.q f)), fun v2 h2 q2 => ?_⟩
  obtain ⟨ev, iv2⟩ := lb_fin iv q1 q2 hV hK
  rw [if_pos (xI_v ev)]
  exact nx h2 _ _ iv2 (by omega) (by omega)
theorem lb_718 {L i mc ms : Nat} {h : Hp} {R : PR} (iv : INV L h) (hi : i + 6 ≤ L) (hL : L ≤ 3072) (hm : 23 ≤ mc) (hs : 682 ≤ ms) (nx : ∀ h2 mc' ms', INV L h2 → mc ≤ mc' + 23 → ms ≤ ms' + 682 → Wp 1000 1521 [some (xR 1), some (xR 3), some (xR 73), some (xI (i : Int))] [] h2 2000 mc' ms' R) : Wp 1000 718 [some (xR 1), some (xR 3), some (xR 73), some (xI (i : Int))] [] h 2000 mc ms R := by
  obtain ⟨w, b, n, K, A, nx0, cnt, U, ik, iw, c, m, hV, hK, r, r9, r10, t1⟩ := id iv
  obtain ⟨_, tp, _, ea, ck, nu, tr, cp, h5, hc0, _⟩ := id c
  have h20 := cp.1.2.2.2.2.2.2.2
  have a1 : ai_add (i : Int) 1 = ((i + 1 : Nat) : Int) := by rw [ai_add_eq (by omega) (by omega)]; omega
  apply b_law_718
  rw [a1, t1]
  by_cases hc : 0 ≤ (hpC h 1 (Int.toNat ((i + 1 : Nat) : Int))) ∧ (hpC h 1 (Int.toNat ((i + 1 : Nat) : Int))) < w 7
  · refine ⟨⟨rfl, by omega, by show ((i + 1 : Nat) : Int) < (L : Int); omega⟩, ⟨by omega, by omega, by omega, c.1.tag⟩, CqQ h w b n K cnt U ik iw 5 _, sp_ccircle c.1 tr hV ck.1 ck.2.1 (by omega) (fun _ _ f k => CqQ.of (c.lk f (fun _ => k))) (fun z => absurd hc z), fun v1 h1 q1 => ?_⟩
    obtain ⟨m1, t1', s1⟩ := lb_mid m t1 q1.2.2.1
    rw [t1', s1]
    refine ⟨⟨rfl, by omega, by show ((i + 1 : Nat) : Int) < (L : Int); omega⟩, ⟨by omega, by omega, by omega, m1.1.1.tag⟩, MqQ h1 w b n K cnt U ik iw 5 _, sp_mcircle m1.1 hV (by omega) (fun _ => (fun _ f => MqQ.of (m1.q f))) (fun z => absurd hc z), fun v2 h2 q2 => ?_⟩
    obtain ⟨ev, iv2⟩ := lb_fin iv q1 q2 hV hK
    rw [if_pos (xI_v ev)]
    exact nx h2 _ _ iv2 (by omega) (by omega)
  · refine ⟨⟨rfl, by omega, by show ((i + 1 : Nat) : Int) < (L : Int); omega⟩, ⟨by omega, by omega, by omega, c.1.tag⟩, CqQ h w b n K cnt U ik iw 5 _, sp_ccircle c.1 tr hV ck.1 ck.2.1 (by omega) (fun a => absurd a hc) (fun _ => (CqQ.of ⟨c, FrC.rf, KO.rf⟩)), fun v1 h1 q1 => ?_⟩
    obtain ⟨m1, t1', s1⟩ := lb_mid m t1 q1.2.2.1
    rw [t1', s1]
    refine ⟨⟨rfl, by omega, by show ((i + 1 : Nat) : Int) < (L : Int); omega⟩, ⟨by omega, by omega, by omega, m1.1.1.tag⟩, MqQ h1 w b n K cnt U ik iw 5 _, sp_mcircle m1.1 hV (by omega) (fun a => absurd a hc) (fun _ => (MqQ.of ⟨m1, FrP.rf, KM.rf⟩)), fun v2 h2 q2 => ?_⟩
    obtain ⟨ev, iv2⟩ := lb_fin iv q1 q2 hV hK
    rw [if_pos (xI_v ev)]
    exact nx h2 _ _ iv2 (by omega) (by omega)
theorem lb_741 {L i mc ms : Nat} {h : Hp} {R : PR} (iv : INV L h) (hi : i + 6 ≤ L) (hL : L ≤ 3072) (hm : 23 ≤ mc) (hs : 682 ≤ ms) (nx : ∀ h2 mc' ms', INV L h2 → mc ≤ mc' + 23 → ms ≤ ms' + 682 → Wp 1000 1521 [some (xR 1), some (xR 3), some (xR 73), some (xI (i : Int))] [] h2 2000 mc' ms' R) : Wp 1000 741 [some (xR 1), some (xR 3), some (xR 73), some (xI (i : Int))] [] h 2000 mc ms R := by
  obtain ⟨w, b, n, K, A, nx0, cnt, U, ik, iw, c, m, hV, hK, r, r9, r10, t1⟩ := id iv
  obtain ⟨_, tp, _, ea, ck, nu, tr, cp, h5, hc0, _⟩ := id c
  have h20 := cp.1.2.2.2.2.2.2.2
  have a1 : ai_add (i : Int) 1 = ((i + 1 : Nat) : Int) := by rw [ai_add_eq (by omega) (by omega)]; omega
  have a2 : ai_add (i : Int) 2 = ((i + 2 : Nat) : Int) := by rw [ai_add_eq (by omega) (by omega)]; omega
  apply b_law_741
  rw [a1, a2, t1]
  refine ⟨⟨rfl, by omega, by show ((i + 1 : Nat) : Int) < (L : Int); omega⟩, ⟨rfl, by omega, by show ((i + 2 : Nat) : Int) < (L : Int); omega⟩, ⟨by omega, by omega, by omega, c.1.tag⟩, CqQ h w b n K cnt U ik iw 5 _, sp_cwhy c.1 tr hV (by omega) (CqQ.of ⟨c, FrC.rf, KO.rf⟩), fun v1 h1 q1 => ?_⟩
  obtain ⟨m1, t1', s1⟩ := lb_mid m t1 q1.2.2.1
  rw [t1', s1]
  refine ⟨⟨rfl, by omega, by show ((i + 1 : Nat) : Int) < (L : Int); omega⟩, ⟨rfl, by omega, by show ((i + 2 : Nat) : Int) < (L : Int); omega⟩, ⟨by omega, by omega, by omega, m1.1.1.tag⟩, MqQ h1 w b n K cnt U ik iw 5 _, sp_mwhy m1.1 hV (by omega) (fun _ f => MqQ.of (m1.q f)), fun v2 h2 q2 => ?_⟩
  obtain ⟨ev, iv2⟩ := lb_fin iv q1 q2 hV hK
  rw [if_pos (xI_v ev)]
  exact nx h2 _ _ iv2 (by omega) (by omega)
theorem lb_774 {L i mc ms : Nat} {h : Hp} {R : PR} (iv : INV L h) (hi : i + 6 ≤ L) (hL : L ≤ 3072) (hm : 23 ≤ mc) (hs : 682 ≤ ms) (nx : ∀ h2 mc' ms', INV L h2 → mc ≤ mc' + 23 → ms ≤ ms' + 682 → Wp 1000 1521 [some (xR 1), some (xR 3), some (xR 73), some (xI (i : Int))] [] h2 2000 mc' ms' R) : Wp 1000 774 [some (xR 1), some (xR 3), some (xR 73), some (xI (i : Int))] [] h 2000 mc ms R := by
  obtain ⟨w, b, n, K, A, nx0, cnt, U, ik, iw, c, m, hV, hK, r, r9, r10, t1⟩ := id iv
  obtain ⟨_, tp, _, ea, ck, nu, tr, cp, h5, hc0, _⟩ := id c
  have h20 := cp.1.2.2.2.2.2.2.2
  have a1 : ai_add (i : Int) 1 = ((i + 1 : Nat) : Int) := by rw [ai_add_eq (by omega) (by omega)]; omega
  have a2 : ai_add (i : Int) 2 = ((i + 2 : Nat) : Int) := by rw [ai_add_eq (by omega) (by omega)]; omega
  apply b_law_774
  rw [a1, a2, t1]
  refine ⟨⟨rfl, by omega, by show ((i + 1 : Nat) : Int) < (L : Int); omega⟩, ⟨rfl, by omega, by show ((i + 2 : Nat) : Int) < (L : Int); omega⟩, ⟨by omega, by omega, by omega, c.1.tag⟩, CqQ h w b n K cnt U ik iw 5 _, sp_ctakes c.1 tr hV (by omega) (CqQ.of ⟨c, FrC.rf, KO.rf⟩), fun v1 h1 q1 => ?_⟩
  obtain ⟨m1, t1', s1⟩ := lb_mid m t1 q1.2.2.1
  rw [t1', s1]
  refine ⟨⟨rfl, by omega, by show ((i + 1 : Nat) : Int) < (L : Int); omega⟩, ⟨rfl, by omega, by show ((i + 2 : Nat) : Int) < (L : Int); omega⟩, ⟨by omega, by omega, by omega, m1.1.1.tag⟩, MqQ h1 w b n K cnt U ik iw 5 _, sp_mtakes m1.1 hV (by omega) (fun _ f => MqQ.of (m1.q f)), fun v2 h2 q2 => ?_⟩
  obtain ⟨ev, iv2⟩ := lb_fin iv q1 q2 hV hK
  rw [if_pos (xI_v ev)]
  exact nx h2 _ _ iv2 (by omega) (by omega)
theorem lb_807 {L i mc ms : Nat} {h : Hp} {R : PR} (iv : INV L h) (hi : i + 6 ≤ L) (hL : L ≤ 3072) (hm : 23 ≤ mc) (hs : 682 ≤ ms) (nx : ∀ h2 mc' ms', INV L h2 → mc ≤ mc' + 23 → ms ≤ ms' + 682 → Wp 1000 1521 [some (xR 1), some (xR 3), some (xR 73), some (xI (i : Int))] [] h2 2000 mc' ms' R) : Wp 1000 807 [some (xR 1), some (xR 3), some (xR 73), some (xI (i : Int))] [] h 2000 mc ms R := by
  obtain ⟨w, b, n, K, A, nx0, cnt, U, ik, iw, c, m, hV, hK, r, r9, r10, t1⟩ := id iv
  obtain ⟨_, tp, _, ea, ck, nu, tr, cp, h5, hc0, _⟩ := id c
  have h20 := cp.1.2.2.2.2.2.2.2
  have a1 : ai_add (i : Int) 1 = ((i + 1 : Nat) : Int) := by rw [ai_add_eq (by omega) (by omega)]; omega
  apply b_law_807
  rw [a1, t1]
  refine ⟨⟨rfl, by omega, by show ((i + 1 : Nat) : Int) < (L : Int); omega⟩, ⟨by omega, by omega, by omega, c.1.tag⟩, CqQ h w b n K cnt U ik iw 5 _, sp_cplan c.1 tr hV ck.1 ck.2.1 ck.2.2 (by omega) (fun _ f k p => CqQ.of (c.p f k (fun _ => p))), fun v1 h1 q1 => ?_⟩
  obtain ⟨m1, t1', s1⟩ := lb_mid m t1 q1.2.2.1
  rw [t1', s1]
  refine ⟨⟨rfl, by omega, by show ((i + 1 : Nat) : Int) < (L : Int); omega⟩, ⟨by omega, by omega, by omega, m1.1.1.tag⟩, MqQ h1 w b n K cnt U ik iw 5 _, sp_mplan m1.1 hV (by omega) (fun _ f => MqQ.of (m1.q f)), fun v2 h2 q2 => ?_⟩
  obtain ⟨ev, iv2⟩ := lb_fin iv q1 q2 hV hK
  rw [if_pos (xI_v ev)]
  exact nx h2 _ _ iv2 (by omega) (by omega)
theorem lb_830 {L i mc ms : Nat} {h : Hp} {R : PR} (iv : INV L h) (hi : i + 6 ≤ L) (hL : L ≤ 3072) (hm : 23 ≤ mc) (hs : 682 ≤ ms) (nx : ∀ h2 mc' ms', INV L h2 → mc ≤ mc' + 23 → ms ≤ ms' + 682 → Wp 1000 1521 [some (xR 1), some (xR 3), some (xR 73), some (xI (i : Int))] [] h2 2000 mc' ms' R) : Wp 1000 830 [some (xR 1), some (xR 3), some (xR 73), some (xI (i : Int))] [] h 2000 mc ms R := by
  obtain ⟨w, b, n, K, A, nx0, cnt, U, ik, iw, c, m, hV, hK, r, r9, r10, t1⟩ := id iv
  obtain ⟨_, tp, _, ea, ck, nu, tr, cp, h5, hc0, _⟩ := id c
  have h20 := cp.1.2.2.2.2.2.2.2
  have a1 : ai_add (i : Int) 1 = ((i + 1 : Nat) : Int) := by rw [ai_add_eq (by omega) (by omega)]; omega
  apply b_law_830
  rw [a1, t1]
  refine ⟨⟨rfl, by omega, by show ((i + 1 : Nat) : Int) < (L : Int); omega⟩, ⟨by omega, by omega, by omega, c.1.tag⟩, CqQ h w b n K cnt U ik iw 5 _, sp_cplanned c.1 tr hV ck.1 ck.2.1 ck.2.2 (by omega) (fun _ f k p => CqQ.of (c.p f k p)), fun v1 h1 q1 => ?_⟩
  obtain ⟨m1, t1', s1⟩ := lb_mid m t1 q1.2.2.1
  rw [t1', s1]
  refine ⟨⟨rfl, by omega, by show ((i + 1 : Nat) : Int) < (L : Int); omega⟩, ⟨by omega, by omega, by omega, m1.1.1.tag⟩, MqQ h1 w b n K cnt U ik iw 5 _, sp_mplanned m1.1 hV (by omega) (fun _ f => MqQ.of (m1.q f)), fun v2 h2 q2 => ?_⟩
  obtain ⟨ev, iv2⟩ := lb_fin iv q1 q2 hV hK
  rw [if_pos (xI_v ev)]
  exact nx h2 _ _ iv2 (by omega) (by omega)
theorem lb_853 {L i mc ms : Nat} {h : Hp} {R : PR} (iv : INV L h) (hi : i + 6 ≤ L) (hL : L ≤ 3072) (hm : 23 ≤ mc) (hs : 682 ≤ ms) (nx : ∀ h2 mc' ms', INV L h2 → mc ≤ mc' + 23 → ms ≤ ms' + 682 → Wp 1000 1521 [some (xR 1), some (xR 3), some (xR 73), some (xI (i : Int))] [] h2 2000 mc' ms' R) : Wp 1000 853 [some (xR 1), some (xR 3), some (xR 73), some (xI (i : Int))] [] h 2000 mc ms R := by
  obtain ⟨w, b, n, K, A, nx0, cnt, U, ik, iw, c, m, hV, hK, r, r9, r10, t1⟩ := id iv
  obtain ⟨_, tp, _, ea, ck, nu, tr, cp, h5, hc0, _⟩ := id c
  have h20 := cp.1.2.2.2.2.2.2.2
  apply b_law_853
  refine ⟨⟨by omega, by omega, by omega, c.1.tag⟩, CqQ h w b n K cnt U ik iw 5 (xI (leC w)), sp_cleast c.1 tr hV ck.1 ck.2.1 (by omega) (fun _ v f k l => by rw [leT_eq hV l]; exact CqQ.of (c.lk f (fun _ => k))), fun v1 h1 q1 => ?_⟩
  obtain ⟨m1, t1', s1⟩ := lb_mid m t1 q1.2.2.1
  refine ⟨⟨by omega, by omega, by omega, m1.1.1.tag⟩, MqQ h1 w b n K cnt U ik iw 5 (xI (leC w)), sp_mleast m1.1 hV (by omega) (fun _ v f l => by rw [leC_eq l]; exact MqQ.of (m1.q f)), fun v2 h2 q2 => ?_⟩
  obtain ⟨ev, iv2⟩ := lb_fin iv q1 q2 hV hK
  rw [if_pos (xI_v ev)]
  exact nx h2 _ _ iv2 (by omega) (by omega)
theorem lb_866 {L i mc ms : Nat} {h : Hp} {R : PR} (iv : INV L h) (hi : i + 6 ≤ L) (hL : L ≤ 3072) (hm : 23 ≤ mc) (hs : 682 ≤ ms) (nx : ∀ h2 mc' ms', INV L h2 → mc ≤ mc' + 23 → ms ≤ ms' + 682 → Wp 1000 1521 [some (xR 1), some (xR 3), some (xR 73), some (xI (i : Int))] [] h2 2000 mc' ms' R) : Wp 1000 866 [some (xR 1), some (xR 3), some (xR 73), some (xI (i : Int))] [] h 2000 mc ms R := by
  obtain ⟨w, b, n, K, A, nx0, cnt, U, ik, iw, c, m, hV, hK, r, r9, r10, t1⟩ := id iv
  obtain ⟨_, tp, _, ea, ck, nu, tr, cp, h5, hc0, _⟩ := id c
  have h20 := cp.1.2.2.2.2.2.2.2
  have a1 : ai_add (i : Int) 1 = ((i + 1 : Nat) : Int) := by rw [ai_add_eq (by omega) (by omega)]; omega
  apply b_law_866
  rw [a1, t1]
  refine ⟨⟨rfl, by omega, by show ((i + 1 : Nat) : Int) < (L : Int); omega⟩, ⟨by omega, by omega, by omega, c.1.tag⟩, CqQ h w b n K cnt U ik iw 5 _, sp_chouses c.1 tr hV (by omega) (CqQ.of ⟨c, FrC.rf, KO.rf⟩), fun v1 h1 q1 => ?_⟩
  obtain ⟨m1, t1', s1⟩ := lb_mid m t1 q1.2.2.1
  rw [t1', s1]
  refine ⟨⟨rfl, by omega, by show ((i + 1 : Nat) : Int) < (L : Int); omega⟩, ⟨by omega, by omega, by omega, m1.1.1.tag⟩, MqQ h1 w b n K cnt U ik iw 5 _, sp_mhouses m1.1 hV (by omega) (MqQ.of ⟨m1, FrP.rf, KM.rf⟩), fun v2 h2 q2 => ?_⟩
  obtain ⟨ev, iv2⟩ := lb_fin iv q1 q2 hV hK
  rw [if_pos (xI_v ev)]
  exact nx h2 _ _ iv2 (by omega) (by omega)
theorem lb_889 {L i mc ms : Nat} {h : Hp} {R : PR} (iv : INV L h) (hi : i + 6 ≤ L) (hL : L ≤ 3072) (hm : 23 ≤ mc) (hs : 682 ≤ ms) (nx : ∀ h2 mc' ms', INV L h2 → mc ≤ mc' + 23 → ms ≤ ms' + 682 → Wp 1000 1521 [some (xR 1), some (xR 3), some (xR 73), some (xI (i : Int))] [] h2 2000 mc' ms' R) : Wp 1000 889 [some (xR 1), some (xR 3), some (xR 73), some (xI (i : Int))] [] h 2000 mc ms R := by
  obtain ⟨w, b, n, K, A, nx0, cnt, U, ik, iw, c, m, hV, hK, r, r9, r10, t1⟩ := id iv
  obtain ⟨_, tp, _, ea, ck, nu, tr, cp, h5, hc0, _⟩ := id c
  have h20 := cp.1.2.2.2.2.2.2.2
  have a1 : ai_add (i : Int) 1 = ((i + 1 : Nat) : Int) := by rw [ai_add_eq (by omega) (by omega)]; omega
  have a2 : ai_add (i : Int) 2 = ((i + 2 : Nat) : Int) := by rw [ai_add_eq (by omega) (by omega)]; omega
  have a3 : ai_add (i : Int) 3 = ((i + 3 : Nat) : Int) := by rw [ai_add_eq (by omega) (by omega)]; omega
  apply b_law_889
  rw [a1, a2, a3, t1]
  by_cases hc : isH w (hpC h 1 (Int.toNat ((i + 1 : Nat) : Int))) (hpC h 1 (Int.toNat ((i + 2 : Nat) : Int)))
  · refine ⟨⟨rfl, by omega, by show ((i + 1 : Nat) : Int) < (L : Int); omega⟩, ⟨rfl, by omega, by show ((i + 2 : Nat) : Int) < (L : Int); omega⟩, ⟨rfl, by omega, by show ((i + 3 : Nat) : Int) < (L : Int); omega⟩, ⟨by omega, by omega, by omega, c.1.tag⟩, CqQ h w b n K cnt U ik iw 5 _, sp_chouse c.1 tr hV (by omega) (fun _ => (CqQ.of ⟨c, FrC.rf, KO.rf⟩)) (fun z => absurd hc z), fun v1 h1 q1 => ?_⟩
    obtain ⟨m1, t1', s1⟩ := lb_mid m t1 q1.2.2.1
    rw [t1', s1]
    refine ⟨⟨rfl, by omega, by show ((i + 1 : Nat) : Int) < (L : Int); omega⟩, ⟨rfl, by omega, by show ((i + 2 : Nat) : Int) < (L : Int); omega⟩, ⟨rfl, by omega, by show ((i + 3 : Nat) : Int) < (L : Int); omega⟩, ⟨by omega, by omega, by omega, m1.1.1.tag⟩, MqQ h1 w b n K cnt U ik iw 5 _, sp_mhouse m1.1 hV (by omega) (fun _ => (MqQ.of ⟨m1, FrP.rf, KM.rf⟩)) (fun z => absurd hc z), fun v2 h2 q2 => ?_⟩
    obtain ⟨ev, iv2⟩ := lb_fin iv q1 q2 hV hK
    rw [if_pos (xI_v ev)]
    exact nx h2 _ _ iv2 (by omega) (by omega)
  · refine ⟨⟨rfl, by omega, by show ((i + 1 : Nat) : Int) < (L : Int); omega⟩, ⟨rfl, by omega, by show ((i + 2 : Nat) : Int) < (L : Int); omega⟩, ⟨rfl, by omega, by show ((i + 3 : Nat) : Int) < (L : Int); omega⟩, ⟨by omega, by omega, by omega, c.1.tag⟩, CqQ h w b n K cnt U ik iw 5 _, sp_chouse c.1 tr hV (by omega) (fun a => absurd a hc) (fun _ => (CqQ.of ⟨c, FrC.rf, KO.rf⟩)), fun v1 h1 q1 => ?_⟩
    obtain ⟨m1, t1', s1⟩ := lb_mid m t1 q1.2.2.1
    rw [t1', s1]
    refine ⟨⟨rfl, by omega, by show ((i + 1 : Nat) : Int) < (L : Int); omega⟩, ⟨rfl, by omega, by show ((i + 2 : Nat) : Int) < (L : Int); omega⟩, ⟨rfl, by omega, by show ((i + 3 : Nat) : Int) < (L : Int); omega⟩, ⟨by omega, by omega, by omega, m1.1.1.tag⟩, MqQ h1 w b n K cnt U ik iw 5 _, sp_mhouse m1.1 hV (by omega) (fun a => absurd a hc) (fun _ => (MqQ.of ⟨m1, FrP.rf, KM.rf⟩)), fun v2 h2 q2 => ?_⟩
    obtain ⟨ev, iv2⟩ := lb_fin iv q1 q2 hV hK
    rw [if_pos (xI_v ev)]
    exact nx h2 _ _ iv2 (by omega) (by omega)
theorem lb_932 {L i mc ms : Nat} {h : Hp} {R : PR} (iv : INV L h) (hi : i + 6 ≤ L) (hL : L ≤ 3072) (hm : 23 ≤ mc) (hs : 682 ≤ ms) (nx : ∀ h2 mc' ms', INV L h2 → mc ≤ mc' + 23 → ms ≤ ms' + 682 → Wp 1000 1521 [some (xR 1), some (xR 3), some (xR 73), some (xI (i : Int))] [] h2 2000 mc' ms' R) : Wp 1000 932 [some (xR 1), some (xR 3), some (xR 73), some (xI (i : Int))] [] h 2000 mc ms R := by
  obtain ⟨w, b, n, K, A, nx0, cnt, U, ik, iw, c, m, hV, hK, r, r9, r10, t1⟩ := id iv
  obtain ⟨_, tp, _, ea, ck, nu, tr, cp, h5, hc0, _⟩ := id c
  have h20 := cp.1.2.2.2.2.2.2.2
  have a1 : ai_add (i : Int) 1 = ((i + 1 : Nat) : Int) := by rw [ai_add_eq (by omega) (by omega)]; omega
  have a2 : ai_add (i : Int) 2 = ((i + 2 : Nat) : Int) := by rw [ai_add_eq (by omega) (by omega)]; omega
  apply b_law_932
  rw [a1, a2, t1]
  refine ⟨⟨rfl, by omega, by show ((i + 1 : Nat) : Int) < (L : Int); omega⟩, ⟨rfl, by omega, by show ((i + 2 : Nat) : Int) < (L : Int); omega⟩, ⟨by omega, by omega, by omega, c.1.tag⟩, CqQ h w b n K cnt U ik iw 5 _, sp_cat c.1 tr hV (by omega) (CqQ.of ⟨c, FrC.rf, KO.rf⟩), fun v1 h1 q1 => ?_⟩
  obtain ⟨m1, t1', s1⟩ := lb_mid m t1 q1.2.2.1
  rw [t1', s1]
  refine ⟨⟨rfl, by omega, by show ((i + 1 : Nat) : Int) < (L : Int); omega⟩, ⟨rfl, by omega, by show ((i + 2 : Nat) : Int) < (L : Int); omega⟩, ⟨by omega, by omega, by omega, m1.1.1.tag⟩, MqQ h1 w b n K cnt U ik iw 5 _, sp_mat m1.1 hV (by omega) (MqQ.of ⟨m1, FrP.rf, KM.rf⟩), fun v2 h2 q2 => ?_⟩
  obtain ⟨ev, iv2⟩ := lb_fin iv q1 q2 hV hK
  rw [if_pos (xI_v ev)]
  exact nx h2 _ _ iv2 (by omega) (by omega)
theorem lb_965 {L i mc ms : Nat} {h : Hp} {R : PR} (iv : INV L h) (hi : i + 6 ≤ L) (hL : L ≤ 3072) (hm : 23 ≤ mc) (hs : 682 ≤ ms) (nx : ∀ h2 mc' ms', INV L h2 → mc ≤ mc' + 23 → ms ≤ ms' + 682 → Wp 1000 1521 [some (xR 1), some (xR 3), some (xR 73), some (xI (i : Int))] [] h2 2000 mc' ms' R) : Wp 1000 965 [some (xR 1), some (xR 3), some (xR 73), some (xI (i : Int))] [] h 2000 mc ms R := by
  obtain ⟨w, b, n, K, A, nx0, cnt, U, ik, iw, c, m, hV, hK, r, r9, r10, t1⟩ := id iv
  obtain ⟨_, tp, _, ea, ck, nu, tr, cp, h5, hc0, _⟩ := id c
  have h20 := cp.1.2.2.2.2.2.2.2
  have a1 : ai_add (i : Int) 1 = ((i + 1 : Nat) : Int) := by rw [ai_add_eq (by omega) (by omega)]; omega
  apply b_law_965
  rw [a1, t1]
  by_cases hc : 0 ≤ (hpC h 1 (Int.toNat ((i + 1 : Nat) : Int))) ∧ (hpC h 1 (Int.toNat ((i + 1 : Nat) : Int))) < w 7
  · refine ⟨⟨rfl, by omega, by show ((i + 1 : Nat) : Int) < (L : Int); omega⟩, ⟨by omega, by omega, by omega, c.1.tag⟩, CqQ h w b n K cnt U ik iw 5 _, sp_cordered c.1 tr hV nu (by omega) (fun _ => (fun _ f => CqQ.of (c.q f (fun q p z => Or.inr z)))) (fun z => absurd hc z), fun v1 h1 q1 => ?_⟩
    obtain ⟨m1, t1', s1⟩ := lb_mid m t1 q1.2.2.1
    rw [t1', s1]
    refine ⟨⟨rfl, by omega, by show ((i + 1 : Nat) : Int) < (L : Int); omega⟩, ⟨by omega, by omega, by omega, m1.1.1.tag⟩, MqQ h1 w b n K cnt U ik iw 5 _, sp_mordered m1.1 hV (by omega) (fun _ => (fun _ f => MqQ.of (m1.q f))) (fun z => absurd hc z), fun v2 h2 q2 => ?_⟩
    obtain ⟨ev, iv2⟩ := lb_fin iv q1 q2 hV hK
    rw [if_pos (xI_v ev)]
    exact nx h2 _ _ iv2 (by omega) (by omega)
  · refine ⟨⟨rfl, by omega, by show ((i + 1 : Nat) : Int) < (L : Int); omega⟩, ⟨by omega, by omega, by omega, c.1.tag⟩, CqQ h w b n K cnt U ik iw 5 _, sp_cordered c.1 tr hV nu (by omega) (fun a => absurd a hc) (fun _ => (CqQ.of ⟨c, FrC.rf, KO.rf⟩)), fun v1 h1 q1 => ?_⟩
    obtain ⟨m1, t1', s1⟩ := lb_mid m t1 q1.2.2.1
    rw [t1', s1]
    refine ⟨⟨rfl, by omega, by show ((i + 1 : Nat) : Int) < (L : Int); omega⟩, ⟨by omega, by omega, by omega, m1.1.1.tag⟩, MqQ h1 w b n K cnt U ik iw 5 _, sp_mordered m1.1 hV (by omega) (fun a => absurd a hc) (fun _ => (MqQ.of ⟨m1, FrP.rf, KM.rf⟩)), fun v2 h2 q2 => ?_⟩
    obtain ⟨ev, iv2⟩ := lb_fin iv q1 q2 hV hK
    rw [if_pos (xI_v ev)]
    exact nx h2 _ _ iv2 (by omega) (by omega)
theorem lb_988 {L i mc ms : Nat} {h : Hp} {R : PR} (iv : INV L h) (hi : i + 6 ≤ L) (hL : L ≤ 3072) (hm : 23 ≤ mc) (hs : 682 ≤ ms) (nx : ∀ h2 mc' ms', INV L h2 → mc ≤ mc' + 23 → ms ≤ ms' + 682 → Wp 1000 1521 [some (xR 1), some (xR 3), some (xR 73), some (xI (i : Int))] [] h2 2000 mc' ms' R) : Wp 1000 988 [some (xR 1), some (xR 3), some (xR 73), some (xI (i : Int))] [] h 2000 mc ms R := by
  obtain ⟨w, b, n, K, A, nx0, cnt, U, ik, iw, c, m, hV, hK, r, r9, r10, t1⟩ := id iv
  obtain ⟨_, tp, _, ea, ck, nu, tr, cp, h5, hc0, _⟩ := id c
  have h20 := cp.1.2.2.2.2.2.2.2
  have a1 : ai_add (i : Int) 1 = ((i + 1 : Nat) : Int) := by rw [ai_add_eq (by omega) (by omega)]; omega
  apply b_law_988
  rw [a1, t1]
  by_cases hc : 0 ≤ (hpC h 1 (Int.toNat ((i + 1 : Nat) : Int))) ∧ (hpC h 1 (Int.toNat ((i + 1 : Nat) : Int))) < w 7
  · refine ⟨⟨rfl, by omega, by show ((i + 1 : Nat) : Int) < (L : Int); omega⟩, ⟨by omega, by omega, by omega, c.1.tag⟩, CqQ h w b n K cnt U ik iw 5 _, sp_cfewest c.1 tr hV nu (by omega) (fun _ _ f _ => CqQ.of (c.q f (fun q p z => Or.inr z))) (fun z => absurd hc z), fun v1 h1 q1 => ?_⟩
    obtain ⟨m1, t1', s1⟩ := lb_mid m t1 q1.2.2.1
    rw [t1', s1]
    refine ⟨⟨rfl, by omega, by show ((i + 1 : Nat) : Int) < (L : Int); omega⟩, ⟨by omega, by omega, by omega, m1.1.1.tag⟩, MqQ h1 w b n K cnt U ik iw 5 _, sp_mfewest m1.1 hV (by omega) (fun _ => (fun _ f => MqQ.of (m1.q f))) (fun z => absurd hc z), fun v2 h2 q2 => ?_⟩
    obtain ⟨ev, iv2⟩ := lb_fin iv q1 q2 hV hK
    rw [if_pos (xI_v ev)]
    exact nx h2 _ _ iv2 (by omega) (by omega)
  · refine ⟨⟨rfl, by omega, by show ((i + 1 : Nat) : Int) < (L : Int); omega⟩, ⟨by omega, by omega, by omega, c.1.tag⟩, CqQ h w b n K cnt U ik iw 5 _, sp_cfewest c.1 tr hV nu (by omega) (fun a => absurd a hc) (fun _ => (CqQ.of ⟨c, FrC.rf, KO.rf⟩)), fun v1 h1 q1 => ?_⟩
    obtain ⟨m1, t1', s1⟩ := lb_mid m t1 q1.2.2.1
    rw [t1', s1]
    refine ⟨⟨rfl, by omega, by show ((i + 1 : Nat) : Int) < (L : Int); omega⟩, ⟨by omega, by omega, by omega, m1.1.1.tag⟩, MqQ h1 w b n K cnt U ik iw 5 _, sp_mfewest m1.1 hV (by omega) (fun a => absurd a hc) (fun _ => (MqQ.of ⟨m1, FrP.rf, KM.rf⟩)), fun v2 h2 q2 => ?_⟩
    obtain ⟨ev, iv2⟩ := lb_fin iv q1 q2 hV hK
    rw [if_pos (xI_v ev)]
    exact nx h2 _ _ iv2 (by omega) (by omega)
theorem lb_1011 {L i mc ms : Nat} {h : Hp} {R : PR} (iv : INV L h) (hi : i + 6 ≤ L) (hL : L ≤ 3072) (hm : 23 ≤ mc) (hs : 682 ≤ ms) (nx : ∀ h2 mc' ms', INV L h2 → mc ≤ mc' + 23 → ms ≤ ms' + 682 → Wp 1000 1521 [some (xR 1), some (xR 3), some (xR 73), some (xI (i : Int))] [] h2 2000 mc' ms' R) : Wp 1000 1011 [some (xR 1), some (xR 3), some (xR 73), some (xI (i : Int))] [] h 2000 mc ms R := by
  obtain ⟨w, b, n, K, A, nx0, cnt, U, ik, iw, c, m, hV, hK, r, r9, r10, t1⟩ := id iv
  obtain ⟨_, tp, _, ea, ck, nu, tr, cp, h5, hc0, _⟩ := id c
  have h20 := cp.1.2.2.2.2.2.2.2
  have a1 : ai_add (i : Int) 1 = ((i + 1 : Nat) : Int) := by rw [ai_add_eq (by omega) (by omega)]; omega
  have a2 : ai_add (i : Int) 2 = ((i + 2 : Nat) : Int) := by rw [ai_add_eq (by omega) (by omega)]; omega
  apply b_law_1011
  rw [a1, a2, t1]
  by_cases hc : isH w (hpC h 1 (Int.toNat ((i + 1 : Nat) : Int))) (hpC h 1 (Int.toNat ((i + 2 : Nat) : Int)))
  · refine ⟨⟨rfl, by omega, by show ((i + 1 : Nat) : Int) < (L : Int); omega⟩, ⟨rfl, by omega, by show ((i + 2 : Nat) : Int) < (L : Int); omega⟩, ⟨by omega, by omega, by omega, c.1.tag⟩, CqQ h w b n K cnt U ik iw 5 _, sp_cthen c.1 tr hV nu (by omega) (fun _ => (fun _ f => CqQ.of (c.q f (fun q p z => Or.inr z)))) (fun z => absurd hc z), fun v1 h1 q1 => ?_⟩
    obtain ⟨m1, t1', s1⟩ := lb_mid m t1 q1.2.2.1
    rw [t1', s1]
    refine ⟨⟨rfl, by omega, by show ((i + 1 : Nat) : Int) < (L : Int); omega⟩, ⟨rfl, by omega, by show ((i + 2 : Nat) : Int) < (L : Int); omega⟩, ⟨by omega, by omega, by omega, m1.1.1.tag⟩, MqQ h1 w b n K cnt U ik iw 5 _, sp_mthen m1.1 hV (by omega) (fun _ => (fun _ f => MqQ.of (m1.q f))) (fun z => absurd hc z), fun v2 h2 q2 => ?_⟩
    obtain ⟨ev, iv2⟩ := lb_fin iv q1 q2 hV hK
    rw [if_pos (xI_v ev)]
    exact nx h2 _ _ iv2 (by omega) (by omega)
  · refine ⟨⟨rfl, by omega, by show ((i + 1 : Nat) : Int) < (L : Int); omega⟩, ⟨rfl, by omega, by show ((i + 2 : Nat) : Int) < (L : Int); omega⟩, ⟨by omega, by omega, by omega, c.1.tag⟩, CqQ h w b n K cnt U ik iw 5 _, sp_cthen c.1 tr hV nu (by omega) (fun a => absurd a hc) (fun _ => (CqQ.of ⟨c, FrC.rf, KO.rf⟩)), fun v1 h1 q1 => ?_⟩
    obtain ⟨m1, t1', s1⟩ := lb_mid m t1 q1.2.2.1
    rw [t1', s1]
    refine ⟨⟨rfl, by omega, by show ((i + 1 : Nat) : Int) < (L : Int); omega⟩, ⟨rfl, by omega, by show ((i + 2 : Nat) : Int) < (L : Int); omega⟩, ⟨by omega, by omega, by omega, m1.1.1.tag⟩, MqQ h1 w b n K cnt U ik iw 5 _, sp_mthen m1.1 hV (by omega) (fun a => absurd a hc) (fun _ => (MqQ.of ⟨m1, FrP.rf, KM.rf⟩)), fun v2 h2 q2 => ?_⟩
    obtain ⟨ev, iv2⟩ := lb_fin iv q1 q2 hV hK
    rw [if_pos (xI_v ev)]
    exact nx h2 _ _ iv2 (by omega) (by omega)
theorem lb_1044 {L i mc ms : Nat} {h : Hp} {R : PR} (iv : INV L h) (hi : i + 6 ≤ L) (hL : L ≤ 3072) (hm : 23 ≤ mc) (hs : 682 ≤ ms) (nx : ∀ h2 mc' ms', INV L h2 → mc ≤ mc' + 23 → ms ≤ ms' + 682 → Wp 1000 1521 [some (xR 1), some (xR 3), some (xR 73), some (xI (i : Int))] [] h2 2000 mc' ms' R) : Wp 1000 1044 [some (xR 1), some (xR 3), some (xR 73), some (xI (i : Int))] [] h 2000 mc ms R := by
  obtain ⟨w, b, n, K, A, nx0, cnt, U, ik, iw, c, m, hV, hK, r, r9, r10, t1⟩ := id iv
  obtain ⟨_, tp, _, ea, ck, nu, tr, cp, h5, hc0, _⟩ := id c
  have h20 := cp.1.2.2.2.2.2.2.2
  have a1 : ai_add (i : Int) 1 = ((i + 1 : Nat) : Int) := by rw [ai_add_eq (by omega) (by omega)]; omega
  have a2 : ai_add (i : Int) 2 = ((i + 2 : Nat) : Int) := by rw [ai_add_eq (by omega) (by omega)]; omega
  have a3 : ai_add (i : Int) 3 = ((i + 3 : Nat) : Int) := by rw [ai_add_eq (by omega) (by omega)]; omega
  apply b_law_1044
  rw [a1, a2, a3, t1]
  by_cases hc : isB w (hpC h 1 (Int.toNat ((i + 1 : Nat) : Int))) (hpC h 1 (Int.toNat ((i + 2 : Nat) : Int))) (hpC h 1 (Int.toNat ((i + 3 : Nat) : Int)))
  · refine ⟨⟨rfl, by omega, by show ((i + 1 : Nat) : Int) < (L : Int); omega⟩, ⟨rfl, by omega, by show ((i + 2 : Nat) : Int) < (L : Int); omega⟩, ⟨rfl, by omega, by show ((i + 3 : Nat) : Int) < (L : Int); omega⟩, ⟨by omega, by omega, by omega, c.1.tag⟩, CqQ h w b n K cnt U ik iw 5 _, sp_cwould c.1 tr hV (by omega) (fun _ => (CqQ.of ⟨c, FrC.rf, KO.rf⟩)) (fun z => absurd hc z), fun v1 h1 q1 => ?_⟩
    obtain ⟨m1, t1', s1⟩ := lb_mid m t1 q1.2.2.1
    rw [t1', s1]
    refine ⟨⟨rfl, by omega, by show ((i + 1 : Nat) : Int) < (L : Int); omega⟩, ⟨rfl, by omega, by show ((i + 2 : Nat) : Int) < (L : Int); omega⟩, ⟨rfl, by omega, by show ((i + 3 : Nat) : Int) < (L : Int); omega⟩, ⟨by omega, by omega, by omega, m1.1.1.tag⟩, MqQ h1 w b n K cnt U ik iw 5 _, sp_mwould m1.1 hV (by omega) (fun _ => (MqQ.of ⟨m1, FrP.rf, KM.rf⟩)) (fun z => absurd hc z), fun v2 h2 q2 => ?_⟩
    obtain ⟨ev, iv2⟩ := lb_fin iv q1 q2 hV hK
    rw [if_pos (xI_v ev)]
    exact nx h2 _ _ iv2 (by omega) (by omega)
  · refine ⟨⟨rfl, by omega, by show ((i + 1 : Nat) : Int) < (L : Int); omega⟩, ⟨rfl, by omega, by show ((i + 2 : Nat) : Int) < (L : Int); omega⟩, ⟨rfl, by omega, by show ((i + 3 : Nat) : Int) < (L : Int); omega⟩, ⟨by omega, by omega, by omega, c.1.tag⟩, CqQ h w b n K cnt U ik iw 5 _, sp_cwould c.1 tr hV (by omega) (fun a => absurd a hc) (fun _ => (CqQ.of ⟨c, FrC.rf, KO.rf⟩)), fun v1 h1 q1 => ?_⟩
    obtain ⟨m1, t1', s1⟩ := lb_mid m t1 q1.2.2.1
    rw [t1', s1]
    refine ⟨⟨rfl, by omega, by show ((i + 1 : Nat) : Int) < (L : Int); omega⟩, ⟨rfl, by omega, by show ((i + 2 : Nat) : Int) < (L : Int); omega⟩, ⟨rfl, by omega, by show ((i + 3 : Nat) : Int) < (L : Int); omega⟩, ⟨by omega, by omega, by omega, m1.1.1.tag⟩, MqQ h1 w b n K cnt U ik iw 5 _, sp_mwould m1.1 hV (by omega) (fun a => absurd a hc) (fun _ => (MqQ.of ⟨m1, FrP.rf, KM.rf⟩)), fun v2 h2 q2 => ?_⟩
    obtain ⟨ev, iv2⟩ := lb_fin iv q1 q2 hV hK
    rw [if_pos (xI_v ev)]
    exact nx h2 _ _ iv2 (by omega) (by omega)
theorem lb_1087 {L i mc ms : Nat} {h : Hp} {R : PR} (iv : INV L h) (hi : i + 6 ≤ L) (hL : L ≤ 3072) (hm : 23 ≤ mc) (hs : 682 ≤ ms) (nx : ∀ h2 mc' ms', INV L h2 → mc ≤ mc' + 23 → ms ≤ ms' + 682 → Wp 1000 1521 [some (xR 1), some (xR 3), some (xR 73), some (xI (i : Int))] [] h2 2000 mc' ms' R) : Wp 1000 1087 [some (xR 1), some (xR 3), some (xR 73), some (xI (i : Int))] [] h 2000 mc ms R := by
  obtain ⟨w, b, n, K, A, nx0, cnt, U, ik, iw, c, m, hV, hK, r, r9, r10, t1⟩ := id iv
  obtain ⟨_, tp, _, ea, ck, nu, tr, cp, h5, hc0, _⟩ := id c
  have h20 := cp.1.2.2.2.2.2.2.2
  have a1 : ai_add (i : Int) 1 = ((i + 1 : Nat) : Int) := by rw [ai_add_eq (by omega) (by omega)]; omega
  have a2 : ai_add (i : Int) 2 = ((i + 2 : Nat) : Int) := by rw [ai_add_eq (by omega) (by omega)]; omega
  apply b_law_1087
  rw [a1, a2, t1]
  by_cases hc : (0 ≤ (hpC h 1 (Int.toNat ((i + 1 : Nat) : Int))) ∧ (hpC h 1 (Int.toNat ((i + 1 : Nat) : Int))) < w 7) ∧ 1 ≤ (hpC h 1 (Int.toNat ((i + 2 : Nat) : Int))) ∧ (hpC h 1 (Int.toNat ((i + 2 : Nat) : Int))) ≤ 99
  · refine ⟨⟨rfl, by omega, by show ((i + 1 : Nat) : Int) < (L : Int); omega⟩, ⟨rfl, by omega, by show ((i + 2 : Nat) : Int) < (L : Int); omega⟩, ⟨by omega, by omega, by omega, c.1.tag⟩, CqQ h w b n K cnt U ik iw 5 _, sp_cstepped c.1 tr hV nu (by omega) (fun _ _ f _ => CqQ.of (c.q f (fun q p z => Or.inr z))) (fun z => absurd hc z), fun v1 h1 q1 => ?_⟩
    obtain ⟨m1, t1', s1⟩ := lb_mid m t1 q1.2.2.1
    rw [t1', s1]
    refine ⟨⟨rfl, by omega, by show ((i + 1 : Nat) : Int) < (L : Int); omega⟩, ⟨rfl, by omega, by show ((i + 2 : Nat) : Int) < (L : Int); omega⟩, ⟨by omega, by omega, by omega, m1.1.1.tag⟩, MqQ h1 w b n K cnt U ik iw 5 _, sp_mstepped m1.1 hV (by omega) (fun _ => (fun _ f => MqQ.of (m1.q f))) (fun z => absurd hc z), fun v2 h2 q2 => ?_⟩
    obtain ⟨ev, iv2⟩ := lb_fin iv q1 q2 hV hK
    rw [if_pos (xI_v ev)]
    exact nx h2 _ _ iv2 (by omega) (by omega)
  · refine ⟨⟨rfl, by omega, by show ((i + 1 : Nat) : Int) < (L : Int); omega⟩, ⟨rfl, by omega, by show ((i + 2 : Nat) : Int) < (L : Int); omega⟩, ⟨by omega, by omega, by omega, c.1.tag⟩, CqQ h w b n K cnt U ik iw 5 _, sp_cstepped c.1 tr hV nu (by omega) (fun a => absurd a hc) (fun _ => (CqQ.of ⟨c, FrC.rf, KO.rf⟩)), fun v1 h1 q1 => ?_⟩
    obtain ⟨m1, t1', s1⟩ := lb_mid m t1 q1.2.2.1
    rw [t1', s1]
    refine ⟨⟨rfl, by omega, by show ((i + 1 : Nat) : Int) < (L : Int); omega⟩, ⟨rfl, by omega, by show ((i + 2 : Nat) : Int) < (L : Int); omega⟩, ⟨by omega, by omega, by omega, m1.1.1.tag⟩, MqQ h1 w b n K cnt U ik iw 5 _, sp_mstepped m1.1 hV (by omega) (fun a => absurd a hc) (fun _ => (MqQ.of ⟨m1, FrP.rf, KM.rf⟩)), fun v2 h2 q2 => ?_⟩
    obtain ⟨ev, iv2⟩ := lb_fin iv q1 q2 hV hK
    rw [if_pos (xI_v ev)]
    exact nx h2 _ _ iv2 (by omega) (by omega)
theorem lb_1120 {L i mc ms : Nat} {h : Hp} {R : PR} (iv : INV L h) (hi : i + 6 ≤ L) (hL : L ≤ 3072) (hm : 23 ≤ mc) (hs : 682 ≤ ms) (nx : ∀ h2 mc' ms', INV L h2 → mc ≤ mc' + 23 → ms ≤ ms' + 682 → Wp 1000 1521 [some (xR 1), some (xR 3), some (xR 73), some (xI (i : Int))] [] h2 2000 mc' ms' R) : Wp 1000 1120 [some (xR 1), some (xR 3), some (xR 73), some (xI (i : Int))] [] h 2000 mc ms R := by
  obtain ⟨w, b, n, K, A, nx0, cnt, U, ik, iw, c, m, hV, hK, r, r9, r10, t1⟩ := id iv
  obtain ⟨_, tp, _, ea, ck, nu, tr, cp, h5, hc0, _⟩ := id c
  have h20 := cp.1.2.2.2.2.2.2.2
  have a1 : ai_add (i : Int) 1 = ((i + 1 : Nat) : Int) := by rw [ai_add_eq (by omega) (by omega)]; omega
  have a2 : ai_add (i : Int) 2 = ((i + 2 : Nat) : Int) := by rw [ai_add_eq (by omega) (by omega)]; omega
  apply b_law_1120
  rw [a1, a2, t1]
  by_cases hc : isG w (hpC h 1 (Int.toNat ((i + 1 : Nat) : Int))) (hpC h 1 (Int.toNat ((i + 2 : Nat) : Int)))
  · refine ⟨⟨rfl, by omega, by show ((i + 1 : Nat) : Int) < (L : Int); omega⟩, ⟨rfl, by omega, by show ((i + 2 : Nat) : Int) < (L : Int); omega⟩, ⟨by omega, by omega, by omega, c.1.tag⟩, CqQ h w b n K cnt U ik iw 5 _, sp_cgaps c.1 tr hV (by omega) (fun _ => (CqQ.of ⟨c, FrC.rf, KO.rf⟩)) (fun z => absurd hc z), fun v1 h1 q1 => ?_⟩
    obtain ⟨m1, t1', s1⟩ := lb_mid m t1 q1.2.2.1
    rw [t1', s1]
    refine ⟨⟨rfl, by omega, by show ((i + 1 : Nat) : Int) < (L : Int); omega⟩, ⟨rfl, by omega, by show ((i + 2 : Nat) : Int) < (L : Int); omega⟩, ⟨by omega, by omega, by omega, m1.1.1.tag⟩, MqQ h1 w b n K cnt U ik iw 5 _, sp_mgaps m1.1 hV (by omega) (fun _ => (MqQ.of ⟨m1, FrP.rf, KM.rf⟩)) (fun z => absurd hc z), fun v2 h2 q2 => ?_⟩
    obtain ⟨ev, iv2⟩ := lb_fin iv q1 q2 hV hK
    rw [if_pos (xI_v ev)]
    exact nx h2 _ _ iv2 (by omega) (by omega)
  · refine ⟨⟨rfl, by omega, by show ((i + 1 : Nat) : Int) < (L : Int); omega⟩, ⟨rfl, by omega, by show ((i + 2 : Nat) : Int) < (L : Int); omega⟩, ⟨by omega, by omega, by omega, c.1.tag⟩, CqQ h w b n K cnt U ik iw 5 _, sp_cgaps c.1 tr hV (by omega) (fun a => absurd a hc) (fun _ => (CqQ.of ⟨c, FrC.rf, KO.rf⟩)), fun v1 h1 q1 => ?_⟩
    obtain ⟨m1, t1', s1⟩ := lb_mid m t1 q1.2.2.1
    rw [t1', s1]
    refine ⟨⟨rfl, by omega, by show ((i + 1 : Nat) : Int) < (L : Int); omega⟩, ⟨rfl, by omega, by show ((i + 2 : Nat) : Int) < (L : Int); omega⟩, ⟨by omega, by omega, by omega, m1.1.1.tag⟩, MqQ h1 w b n K cnt U ik iw 5 _, sp_mgaps m1.1 hV (by omega) (fun a => absurd a hc) (fun _ => (MqQ.of ⟨m1, FrP.rf, KM.rf⟩)), fun v2 h2 q2 => ?_⟩
    obtain ⟨ev, iv2⟩ := lb_fin iv q1 q2 hV hK
    rw [if_pos (xI_v ev)]
    exact nx h2 _ _ iv2 (by omega) (by omega)
theorem lb_1153 {L i mc ms : Nat} {h : Hp} {R : PR} (iv : INV L h) (hi : i + 6 ≤ L) (hL : L ≤ 3072) (hm : 23 ≤ mc) (hs : 682 ≤ ms) (nx : ∀ h2 mc' ms', INV L h2 → mc ≤ mc' + 23 → ms ≤ ms' + 682 → Wp 1000 1521 [some (xR 1), some (xR 3), some (xR 73), some (xI (i : Int))] [] h2 2000 mc' ms' R) : Wp 1000 1153 [some (xR 1), some (xR 3), some (xR 73), some (xI (i : Int))] [] h 2000 mc ms R := by
  obtain ⟨w, b, n, K, A, nx0, cnt, U, ik, iw, c, m, hV, hK, r, r9, r10, t1⟩ := id iv
  obtain ⟨_, tp, _, ea, ck, nu, tr, cp, h5, hc0, _⟩ := id c
  have h20 := cp.1.2.2.2.2.2.2.2
  have a1 : ai_add (i : Int) 1 = ((i + 1 : Nat) : Int) := by rw [ai_add_eq (by omega) (by omega)]; omega
  have a2 : ai_add (i : Int) 2 = ((i + 2 : Nat) : Int) := by rw [ai_add_eq (by omega) (by omega)]; omega
  apply b_law_1153
  rw [a1, a2, t1]
  by_cases hc : whyA w (hpC h 1 (Int.toNat ((i + 1 : Nat) : Int))) (hpC h 1 (Int.toNat ((i + 2 : Nat) : Int))) = 0
  · refine ⟨⟨rfl, by omega, by show ((i + 1 : Nat) : Int) < (L : Int); omega⟩, ⟨rfl, by omega, by show ((i + 2 : Nat) : Int) < (L : Int); omega⟩, ⟨by omega, by omega, by omega, c.1.tag⟩, CqQ h (rnW w (Int.toNat (hpC h 1 (Int.toNat ((i + 1 : Nat) : Int)))) (Int.toNat (hpC h 1 (Int.toNat ((i + 2 : Nat) : Int))))) b n K (min (cnt + 1) 20) (stU w U) ik iw 5 _, sp_ctake c hV (by omega) (by omega) (by omega) (fun _ _ _ c1 f k => CqQ.of ⟨c1, f, k⟩) (fun z => absurd hc z), fun v1 h1 q1 => ?_⟩
    obtain ⟨m1, t1', s1⟩ := lb_mid m t1 q1.2.2.1
    rw [t1', s1]
    refine ⟨⟨rfl, by omega, by show ((i + 1 : Nat) : Int) < (L : Int); omega⟩, ⟨rfl, by omega, by show ((i + 2 : Nat) : Int) < (L : Int); omega⟩, ⟨by omega, by omega, by omega, m1.1.1.tag⟩, MqQ h1 (rnW w (Int.toNat (hpC h 1 (Int.toNat ((i + 1 : Nat) : Int)))) (Int.toNat (hpC h 1 (Int.toNat ((i + 2 : Nat) : Int))))) b n K (min (cnt + 1) 20) (stU w U) ik iw 5 _, sp_mtake m1 hV h20 (by omega) (fun _ _ m2 f k => MqQ.of ⟨m2, f, k⟩) (fun z => absurd hc z), fun v2 h2 q2 => ?_⟩
    obtain ⟨ev, iv2⟩ := lb_fin iv q1 q2 (rnW_V hV (by have := why0 hc; omega) (by have := why0 hc; omega) (Or.inr (why0 hc).2.2)) hK
    rw [if_pos (xI_v ev)]
    exact nx h2 _ _ iv2 (by omega) (by omega)
  · refine ⟨⟨rfl, by omega, by show ((i + 1 : Nat) : Int) < (L : Int); omega⟩, ⟨rfl, by omega, by show ((i + 2 : Nat) : Int) < (L : Int); omega⟩, ⟨by omega, by omega, by omega, c.1.tag⟩, CqQ h w b n K cnt U ik iw 2 _, sp_ctake c hV (by omega) (by omega) (by omega) (fun a => absurd a hc) (fun _ _ c1 f k => CqQ.of ⟨c1, f, k⟩), fun v1 h1 q1 => ?_⟩
    obtain ⟨m1, t1', s1⟩ := lb_mid m t1 q1.2.2.1
    rw [t1', s1]
    refine ⟨⟨rfl, by omega, by show ((i + 1 : Nat) : Int) < (L : Int); omega⟩, ⟨rfl, by omega, by show ((i + 2 : Nat) : Int) < (L : Int); omega⟩, ⟨by omega, by omega, by omega, m1.1.1.tag⟩, MqQ h1 w b n K cnt U ik iw 2 _, sp_mtake m1 hV h20 (by omega) (fun a => absurd a hc) (fun _ _ m2 f k => MqQ.of ⟨m2, f, k⟩), fun v2 h2 q2 => ?_⟩
    obtain ⟨ev, iv2⟩ := lb_fin iv q1 q2 hV hK
    rw [if_pos (xI_v ev)]
    exact nx h2 _ _ iv2 (by omega) (by omega)
theorem lb_1186 {L i mc ms : Nat} {h : Hp} {R : PR} (iv : INV L h) (hi : i + 6 ≤ L) (hL : L ≤ 3072) (hm : 23 ≤ mc) (hs : 682 ≤ ms) (nx : ∀ h2 mc' ms', INV L h2 → mc ≤ mc' + 23 → ms ≤ ms' + 682 → Wp 1000 1521 [some (xR 1), some (xR 3), some (xR 73), some (xI (i : Int))] [] h2 2000 mc' ms' R) : Wp 1000 1186 [some (xR 1), some (xR 3), some (xR 73), some (xI (i : Int))] [] h 2000 mc ms R := by
  obtain ⟨w, b, n, K, A, nx0, cnt, U, ik, iw, c, m, hV, hK, r, r9, r10, t1⟩ := id iv
  obtain ⟨_, tp, _, ea, ck, nu, tr, cp, h5, hc0, _⟩ := id c
  have h20 := cp.1.2.2.2.2.2.2.2
  apply b_law_1186
  by_cases hc : plC w ≠ -1 ∧ bhW w ≤ 30
  · refine ⟨⟨by omega, by omega, by omega, c.1.tag⟩, CqQ h (crW w) b n K (min (cnt + 1) 20) (stU w U) ik iw 5 _, sp_ccarry c hV (by omega) (by omega) (by omega) (fun _ _ _ _ c1 f k => CqQ.of ⟨c1, f, k⟩) (fun z => absurd hc z), fun v1 h1 q1 => ?_⟩
    obtain ⟨m1, t1', s1⟩ := lb_mid m t1 q1.2.2.1
    refine ⟨⟨by omega, by omega, by omega, m1.1.1.tag⟩, MqQ h1 (crW w) b n K (min (cnt + 1) 20) (stU w U) ik iw 5 _, sp_mcarry m1 hV h20 (by omega) (fun _ _ _ m2 f k => MqQ.of ⟨m2, f, k⟩) (fun z => absurd hc z), fun v2 h2 q2 => ?_⟩
    obtain ⟨ev, iv2⟩ := lb_fin iv q1 q2 (crW_V hV hc.1 hc.2) hK
    rw [if_pos (xI_v ev)]
    exact nx h2 _ _ iv2 (by omega) (by omega)
  · refine ⟨⟨by omega, by omega, by omega, c.1.tag⟩, CqQ h w b n K cnt U ik iw 2 _, sp_ccarry c hV (by omega) (by omega) (by omega) (fun a b => absurd ⟨a, b⟩ hc) (fun _ _ c1 f k => CqQ.of ⟨c1, f, k⟩), fun v1 h1 q1 => ?_⟩
    obtain ⟨m1, t1', s1⟩ := lb_mid m t1 q1.2.2.1
    refine ⟨⟨by omega, by omega, by omega, m1.1.1.tag⟩, MqQ h1 w b n K cnt U ik iw 2 _, sp_mcarry m1 hV h20 (by omega) (fun a b => absurd ⟨a, b⟩ hc) (fun _ _ m2 f k => MqQ.of ⟨m2, f, k⟩), fun v2 h2 q2 => ?_⟩
    obtain ⟨ev, iv2⟩ := lb_fin iv q1 q2 hV hK
    rw [if_pos (xI_v ev)]
    exact nx h2 _ _ iv2 (by omega) (by omega)
theorem lb_1199 {L i mc ms : Nat} {h : Hp} {R : PR} (iv : INV L h) (hi : i + 6 ≤ L) (hL : L ≤ 3072) (hm : 23 ≤ mc) (hs : 682 ≤ ms) (nx : ∀ h2 mc' ms', INV L h2 → mc ≤ mc' + 23 → ms ≤ ms' + 682 → Wp 1000 1521 [some (xR 1), some (xR 3), some (xR 73), some (xI (i : Int))] [] h2 2000 mc' ms' R) : Wp 1000 1199 [some (xR 1), some (xR 3), some (xR 73), some (xI (i : Int))] [] h 2000 mc ms R := by
  obtain ⟨w, b, n, K, A, nx0, cnt, U, ik, iw, c, m, hV, hK, r, r9, r10, t1⟩ := id iv
  obtain ⟨_, tp, _, ea, ck, nu, tr, cp, h5, hc0, _⟩ := id c
  have h20 := cp.1.2.2.2.2.2.2.2
  have a1 : ai_add (i : Int) 1 = ((i + 1 : Nat) : Int) := by rw [ai_add_eq (by omega) (by omega)]; omega
  apply b_law_1199
  rw [a1, t1]
  by_cases hc : (0 ≤ (hpC h 1 (Int.toNat ((i + 1 : Nat) : Int))) ∧ (hpC h 1 (Int.toNat ((i + 1 : Nat) : Int))) < w 7) ∧ fewA (hW w (Int.toNat (hpC h 1 (Int.toNat ((i + 1 : Nat) : Int))))) (w (280 + (Int.toNat (hpC h 1 (Int.toNat ((i + 1 : Nat) : Int)))))).toNat (w 2) ≠ -1
  · refine ⟨⟨rfl, by omega, by show ((i + 1 : Nat) : Int) < (L : Int); omega⟩, ⟨by omega, by omega, by omega, c.1.tag⟩, CqQ h (rnmW w (Int.toNat (hpC h 1 (Int.toNat ((i + 1 : Nat) : Int))))) b n K (min (cnt + 1) 20) (stU w U) ik iw 5 _, sp_crenum c hV (by omega) (by omega) (by omega) (fun _ _ _ _ c1 f k => CqQ.of ⟨c1, f, k⟩) (fun z => absurd hc z), fun v1 h1 q1 => ?_⟩
    obtain ⟨m1, t1', s1⟩ := lb_mid m t1 q1.2.2.1
    rw [t1', s1]
    refine ⟨⟨rfl, by omega, by show ((i + 1 : Nat) : Int) < (L : Int); omega⟩, ⟨by omega, by omega, by omega, m1.1.1.tag⟩, MqQ h1 (rnmW w (Int.toNat (hpC h 1 (Int.toNat ((i + 1 : Nat) : Int))))) b n K (min (cnt + 1) 20) (stU w U) ik iw 5 _, sp_mrenum m1 hV h20 (by omega) (fun _ _ _ m2 f k => MqQ.of ⟨m2, f, k⟩) (fun z => absurd hc z), fun v2 h2 q2 => ?_⟩
    obtain ⟨ev, iv2⟩ := lb_fin iv q1 q2 (rnmW_V hV (by have := hc.1; have := hV.1.2.2.2.2.2.2.2.1; omega) hc.2) hK
    rw [if_pos (xI_v ev)]
    exact nx h2 _ _ iv2 (by omega) (by omega)
  · refine ⟨⟨rfl, by omega, by show ((i + 1 : Nat) : Int) < (L : Int); omega⟩, ⟨by omega, by omega, by omega, c.1.tag⟩, CqQ h w b n K cnt U ik iw 2 _, sp_crenum c hV (by omega) (by omega) (by omega) (fun a b => absurd ⟨a, b⟩ hc) (fun _ _ c1 f k => CqQ.of ⟨c1, f, k⟩), fun v1 h1 q1 => ?_⟩
    obtain ⟨m1, t1', s1⟩ := lb_mid m t1 q1.2.2.1
    rw [t1', s1]
    refine ⟨⟨rfl, by omega, by show ((i + 1 : Nat) : Int) < (L : Int); omega⟩, ⟨by omega, by omega, by omega, m1.1.1.tag⟩, MqQ h1 w b n K cnt U ik iw 2 _, sp_mrenum m1 hV h20 (by omega) (fun a b => absurd ⟨a, b⟩ hc) (fun _ _ m2 f k => MqQ.of ⟨m2, f, k⟩), fun v2 h2 q2 => ?_⟩
    obtain ⟨ev, iv2⟩ := lb_fin iv q1 q2 hV hK
    rw [if_pos (xI_v ev)]
    exact nx h2 _ _ iv2 (by omega) (by omega)
theorem lb_1222 {L i mc ms : Nat} {h : Hp} {R : PR} (iv : INV L h) (hi : i + 6 ≤ L) (hL : L ≤ 3072) (hm : 23 ≤ mc) (hs : 682 ≤ ms) (nx : ∀ h2 mc' ms', INV L h2 → mc ≤ mc' + 23 → ms ≤ ms' + 682 → Wp 1000 1521 [some (xR 1), some (xR 3), some (xR 73), some (xI (i : Int))] [] h2 2000 mc' ms' R) : Wp 1000 1222 [some (xR 1), some (xR 3), some (xR 73), some (xI (i : Int))] [] h 2000 mc ms R := by
  obtain ⟨w, b, n, K, A, nx0, cnt, U, ik, iw, c, m, hV, hK, r, r9, r10, t1⟩ := id iv
  obtain ⟨_, tp, _, ea, ck, nu, tr, cp, h5, hc0, _⟩ := id c
  have h20 := cp.1.2.2.2.2.2.2.2
  have a1 : ai_add (i : Int) 1 = ((i + 1 : Nat) : Int) := by rw [ai_add_eq (by omega) (by omega)]; omega
  have a2 : ai_add (i : Int) 2 = ((i + 2 : Nat) : Int) := by rw [ai_add_eq (by omega) (by omega)]; omega
  have a3 : ai_add (i : Int) 3 = ((i + 3 : Nat) : Int) := by rw [ai_add_eq (by omega) (by omega)]; omega
  apply b_law_1222
  rw [a1, a2, a3, t1]
  by_cases hc : isB w (hpC h 1 (Int.toNat ((i + 1 : Nat) : Int))) (hpC h 1 (Int.toNat ((i + 2 : Nat) : Int))) (hpC h 1 (Int.toNat ((i + 3 : Nat) : Int))) ∧ wouldA w (Int.toNat (hpC h 1 (Int.toNat ((i + 1 : Nat) : Int)))) (hpC h 1 (Int.toNat ((i + 2 : Nat) : Int))) (hpC h 1 (Int.toNat ((i + 3 : Nat) : Int))) ≠ -1
  · refine ⟨⟨rfl, by omega, by show ((i + 1 : Nat) : Int) < (L : Int); omega⟩, ⟨rfl, by omega, by show ((i + 2 : Nat) : Int) < (L : Int); omega⟩, ⟨rfl, by omega, by show ((i + 3 : Nat) : Int) < (L : Int); omega⟩, ⟨by omega, by omega, by omega, c.1.tag⟩, CqQ h (bldW w (Int.toNat (hpC h 1 (Int.toNat ((i + 1 : Nat) : Int)))) (hpC h 1 (Int.toNat ((i + 2 : Nat) : Int))) (hpC h 1 (Int.toNat ((i + 3 : Nat) : Int))) (wouldA w (Int.toNat (hpC h 1 (Int.toNat ((i + 1 : Nat) : Int)))) (hpC h 1 (Int.toNat ((i + 2 : Nat) : Int))) (hpC h 1 (Int.toNat ((i + 3 : Nat) : Int))))) b n K (min (cnt + 1) 20) (stU w U) ik iw 5 _, sp_cbuild c hV (by omega) (by omega) (by omega) (fun _ _ _ _ c1 f k => CqQ.of ⟨c1, f, k⟩) (fun z => absurd hc z), fun v1 h1 q1 => ?_⟩
    obtain ⟨m1, t1', s1⟩ := lb_mid m t1 q1.2.2.1
    rw [t1', s1]
    refine ⟨⟨rfl, by omega, by show ((i + 1 : Nat) : Int) < (L : Int); omega⟩, ⟨rfl, by omega, by show ((i + 2 : Nat) : Int) < (L : Int); omega⟩, ⟨rfl, by omega, by show ((i + 3 : Nat) : Int) < (L : Int); omega⟩, ⟨by omega, by omega, by omega, m1.1.1.tag⟩, MqQ h1 (bldW w (Int.toNat (hpC h 1 (Int.toNat ((i + 1 : Nat) : Int)))) (hpC h 1 (Int.toNat ((i + 2 : Nat) : Int))) (hpC h 1 (Int.toNat ((i + 3 : Nat) : Int))) (wouldA w (Int.toNat (hpC h 1 (Int.toNat ((i + 1 : Nat) : Int)))) (hpC h 1 (Int.toNat ((i + 2 : Nat) : Int))) (hpC h 1 (Int.toNat ((i + 3 : Nat) : Int))))) b n K (min (cnt + 1) 20) (stU w U) ik iw 5 _, sp_mbuild m1 hV h20 (by omega) (fun _ _ _ m2 f k => MqQ.of ⟨m2, f, k⟩) (fun z => absurd hc z), fun v2 h2 q2 => ?_⟩
    obtain ⟨ev, iv2⟩ := lb_fin iv q1 q2 (bldV hV hc.1 hc.2) hK
    rw [if_pos (xI_v ev)]
    exact nx h2 _ _ iv2 (by omega) (by omega)
  · refine ⟨⟨rfl, by omega, by show ((i + 1 : Nat) : Int) < (L : Int); omega⟩, ⟨rfl, by omega, by show ((i + 2 : Nat) : Int) < (L : Int); omega⟩, ⟨rfl, by omega, by show ((i + 3 : Nat) : Int) < (L : Int); omega⟩, ⟨by omega, by omega, by omega, c.1.tag⟩, CqQ h w b n K cnt U ik iw 2 _, sp_cbuild c hV (by omega) (by omega) (by omega) (fun a b => absurd ⟨a, b⟩ hc) (fun _ _ c1 f k => CqQ.of ⟨c1, f, k⟩), fun v1 h1 q1 => ?_⟩
    obtain ⟨m1, t1', s1⟩ := lb_mid m t1 q1.2.2.1
    rw [t1', s1]
    refine ⟨⟨rfl, by omega, by show ((i + 1 : Nat) : Int) < (L : Int); omega⟩, ⟨rfl, by omega, by show ((i + 2 : Nat) : Int) < (L : Int); omega⟩, ⟨rfl, by omega, by show ((i + 3 : Nat) : Int) < (L : Int); omega⟩, ⟨by omega, by omega, by omega, m1.1.1.tag⟩, MqQ h1 w b n K cnt U ik iw 2 _, sp_mbuild m1 hV h20 (by omega) (fun a b => absurd ⟨a, b⟩ hc) (fun _ _ m2 f k => MqQ.of ⟨m2, f, k⟩), fun v2 h2 q2 => ?_⟩
    obtain ⟨ev, iv2⟩ := lb_fin iv q1 q2 hV hK
    rw [if_pos (xI_v ev)]
    exact nx h2 _ _ iv2 (by omega) (by omega)
theorem lb_1265 {L i mc ms : Nat} {h : Hp} {R : PR} (iv : INV L h) (hi : i + 6 ≤ L) (hL : L ≤ 3072) (hm : 23 ≤ mc) (hs : 682 ≤ ms) (nx : ∀ h2 mc' ms', INV L h2 → mc ≤ mc' + 23 → ms ≤ ms' + 682 → Wp 1000 1521 [some (xR 1), some (xR 3), some (xR 73), some (xI (i : Int))] [] h2 2000 mc' ms' R) : Wp 1000 1265 [some (xR 1), some (xR 3), some (xR 73), some (xI (i : Int))] [] h 2000 mc ms R := by
  obtain ⟨w, b, n, K, A, nx0, cnt, U, ik, iw, c, m, hV, hK, r, r9, r10, t1⟩ := id iv
  obtain ⟨_, tp, _, ea, ck, nu, tr, cp, h5, hc0, _⟩ := id c
  have h20 := cp.1.2.2.2.2.2.2.2
  have a1 : ai_add (i : Int) 1 = ((i + 1 : Nat) : Int) := by rw [ai_add_eq (by omega) (by omega)]; omega
  have a2 : ai_add (i : Int) 2 = ((i + 2 : Nat) : Int) := by rw [ai_add_eq (by omega) (by omega)]; omega
  apply b_law_1265
  rw [a1, a2, t1]
  by_cases hc : isH w (hpC h 1 (Int.toNat ((i + 1 : Nat) : Int))) (hpC h 1 (Int.toNat ((i + 2 : Nat) : Int)))
  · refine ⟨⟨rfl, by omega, by show ((i + 1 : Nat) : Int) < (L : Int); omega⟩, ⟨rfl, by omega, by show ((i + 2 : Nat) : Int) < (L : Int); omega⟩, ⟨by omega, by omega, by omega, c.1.tag⟩, CqQ h (terW w (Int.toNat (hpC h 1 (Int.toNat ((i + 1 : Nat) : Int)))) (Int.toNat (hpC h 1 (Int.toNat ((i + 2 : Nat) : Int))))) b n K (min (cnt + 1) 20) (stU w U) ik iw 5 _, sp_ctear c hV (by omega) (by omega) (by omega) (fun _ _ _ c1 f k => CqQ.of ⟨c1, f, k⟩) (fun z => absurd hc z), fun v1 h1 q1 => ?_⟩
    obtain ⟨m1, t1', s1⟩ := lb_mid m t1 q1.2.2.1
    rw [t1', s1]
    refine ⟨⟨rfl, by omega, by show ((i + 1 : Nat) : Int) < (L : Int); omega⟩, ⟨rfl, by omega, by show ((i + 2 : Nat) : Int) < (L : Int); omega⟩, ⟨by omega, by omega, by omega, m1.1.1.tag⟩, MqQ h1 (terW w (Int.toNat (hpC h 1 (Int.toNat ((i + 1 : Nat) : Int)))) (Int.toNat (hpC h 1 (Int.toNat ((i + 2 : Nat) : Int))))) b n K (min (cnt + 1) 20) (stU w U) ik iw 5 _, sp_mtear m1 hV h20 (by omega) (fun _ _ m2 f k => MqQ.of ⟨m2, f, k⟩) (fun z => absurd hc z), fun v2 h2 q2 => ?_⟩
    obtain ⟨ev, iv2⟩ := lb_fin iv q1 q2 (terW_V hV (by have := hc.1; omega) (by have := hc.2; omega)) hK
    rw [if_pos (xI_v ev)]
    exact nx h2 _ _ iv2 (by omega) (by omega)
  · refine ⟨⟨rfl, by omega, by show ((i + 1 : Nat) : Int) < (L : Int); omega⟩, ⟨rfl, by omega, by show ((i + 2 : Nat) : Int) < (L : Int); omega⟩, ⟨by omega, by omega, by omega, c.1.tag⟩, CqQ h w b n K cnt U ik iw 2 _, sp_ctear c hV (by omega) (by omega) (by omega) (fun a => absurd a hc) (fun _ _ c1 f k => CqQ.of ⟨c1, f, k⟩), fun v1 h1 q1 => ?_⟩
    obtain ⟨m1, t1', s1⟩ := lb_mid m t1 q1.2.2.1
    rw [t1', s1]
    refine ⟨⟨rfl, by omega, by show ((i + 1 : Nat) : Int) < (L : Int); omega⟩, ⟨rfl, by omega, by show ((i + 2 : Nat) : Int) < (L : Int); omega⟩, ⟨by omega, by omega, by omega, m1.1.1.tag⟩, MqQ h1 w b n K cnt U ik iw 2 _, sp_mtear m1 hV h20 (by omega) (fun a => absurd a hc) (fun _ _ m2 f k => MqQ.of ⟨m2, f, k⟩), fun v2 h2 q2 => ?_⟩
    obtain ⟨ev, iv2⟩ := lb_fin iv q1 q2 hV hK
    rw [if_pos (xI_v ev)]
    exact nx h2 _ _ iv2 (by omega) (by omega)
theorem lb_1298 {L i mc ms : Nat} {h : Hp} {R : PR} (iv : INV L h) (hi : i + 6 ≤ L) (hL : L ≤ 3072) (hm : 23 ≤ mc) (hs : 682 ≤ ms) (nx : ∀ h2 mc' ms', INV L h2 → mc ≤ mc' + 23 → ms ≤ ms' + 682 → Wp 1000 1521 [some (xR 1), some (xR 3), some (xR 73), some (xI (i : Int))] [] h2 2000 mc' ms' R) : Wp 1000 1298 [some (xR 1), some (xR 3), some (xR 73), some (xI (i : Int))] [] h 2000 mc ms R := by
  obtain ⟨w, b, n, K, A, nx0, cnt, U, ik, iw, c, m, hV, hK, r, r9, r10, t1⟩ := id iv
  obtain ⟨_, tp, _, ea, ck, nu, tr, cp, h5, hc0, _⟩ := id c
  have h20 := cp.1.2.2.2.2.2.2.2
  have a1 : ai_add (i : Int) 1 = ((i + 1 : Nat) : Int) := by rw [ai_add_eq (by omega) (by omega)]; omega
  apply b_law_1298
  rw [a1, t1]
  by_cases hc : (1 ≤ (hpC h 1 (Int.toNat ((i + 1 : Nat) : Int))) ∧ (hpC h 1 (Int.toNat ((i + 1 : Nat) : Int))) ≤ 99) ∧ w 9 + (hpC h 1 (Int.toNat ((i + 1 : Nat) : Int))) ≤ 999
  · refine ⟨⟨rfl, by omega, by show ((i + 1 : Nat) : Int) < (L : Int); omega⟩, ⟨by omega, by omega, by omega, c.1.tag⟩, CqQ h (yearsW w (hpC h 1 (Int.toNat ((i + 1 : Nat) : Int)))) b n K (min (cnt + 1) 20) (stU w U) ik iw 5 _, sp_cyears c hV (by omega) (by omega) (by omega) (fun _ _ _ _ c1 f k => CqQ.of ⟨c1, f, k⟩) (fun z => absurd hc z), fun v1 h1 q1 => ?_⟩
    obtain ⟨m1, t1', s1⟩ := lb_mid m t1 q1.2.2.1
    rw [t1', s1]
    refine ⟨⟨rfl, by omega, by show ((i + 1 : Nat) : Int) < (L : Int); omega⟩, ⟨by omega, by omega, by omega, m1.1.1.tag⟩, MqQ h1 (yearsW w (hpC h 1 (Int.toNat ((i + 1 : Nat) : Int)))) b n K (min (cnt + 1) 20) (stU w U) ik iw 5 _, sp_myears m1 hV h20 (by omega) (fun _ _ _ m2 f k => MqQ.of ⟨m2, f, k⟩) (fun z => absurd hc z), fun v2 h2 q2 => ?_⟩
    obtain ⟨ev, iv2⟩ := lb_fin iv q1 q2 (yearsW_AL hV hc.1.1 hc.2).1 hK
    rw [if_pos (xI_v ev)]
    exact nx h2 _ _ iv2 (by omega) (by omega)
  · refine ⟨⟨rfl, by omega, by show ((i + 1 : Nat) : Int) < (L : Int); omega⟩, ⟨by omega, by omega, by omega, c.1.tag⟩, CqQ h w b n K cnt U ik iw 2 _, sp_cyears c hV (by omega) (by omega) (by omega) (fun a b => absurd ⟨a, b⟩ hc) (fun _ _ c1 f k => CqQ.of ⟨c1, f, k⟩), fun v1 h1 q1 => ?_⟩
    obtain ⟨m1, t1', s1⟩ := lb_mid m t1 q1.2.2.1
    rw [t1', s1]
    refine ⟨⟨rfl, by omega, by show ((i + 1 : Nat) : Int) < (L : Int); omega⟩, ⟨by omega, by omega, by omega, m1.1.1.tag⟩, MqQ h1 w b n K cnt U ik iw 2 _, sp_myears m1 hV h20 (by omega) (fun a b => absurd ⟨a, b⟩ hc) (fun _ _ m2 f k => MqQ.of ⟨m2, f, k⟩), fun v2 h2 q2 => ?_⟩
    obtain ⟨ev, iv2⟩ := lb_fin iv q1 q2 hV hK
    rw [if_pos (xI_v ev)]
    exact nx h2 _ _ iv2 (by omega) (by omega)
theorem lb_1321 {L i mc ms : Nat} {h : Hp} {R : PR} (iv : INV L h) (hi : i + 6 ≤ L) (hL : L ≤ 3072) (hm : 23 ≤ mc) (hs : 682 ≤ ms) (nx : ∀ h2 mc' ms', INV L h2 → mc ≤ mc' + 23 → ms ≤ ms' + 682 → Wp 1000 1521 [some (xR 1), some (xR 3), some (xR 73), some (xI (i : Int))] [] h2 2000 mc' ms' R) : Wp 1000 1321 [some (xR 1), some (xR 3), some (xR 73), some (xI (i : Int))] [] h 2000 mc ms R := by
  obtain ⟨w, b, n, K, A, nx0, cnt, U, ik, iw, c, m, hV, hK, r, r9, r10, t1⟩ := id iv
  obtain ⟨_, tp, _, ea, ck, nu, tr, cp, h5, hc0, _⟩ := id c
  have h20 := cp.1.2.2.2.2.2.2.2
  apply b_law_1321
  by_cases hc : 0 < cnt
  · refine ⟨⟨by omega, by omega, by omega, c.1.tag⟩, CqQ h (U 0) b n K (cnt - 1) (unU U) ik iw 5 _, sp_cundo c hV (by omega) (fun _ _ _ _ c1 f k => CqQ.of ⟨c1, f, k⟩) (fun z => absurd z (by omega)), fun v1 h1 q1 => ?_⟩
    obtain ⟨m1, t1', s1⟩ := lb_mid m t1 q1.2.2.1
    refine ⟨⟨by omega, by omega, by omega, m1.1.1.tag⟩, MqQ h1 (U 0) b n K (cnt - 1) (unU U) ik iw 5 _, sp_mundo m1 h20 (by omega) (fun _ _ m2 f k => MqQ.of ⟨m2, f, k⟩) (fun z => absurd z (by omega)), fun v2 h2 q2 => ?_⟩
    obtain ⟨ev, iv2⟩ := lb_fin iv q1 q2 (cp.2.2.2.1 0 hc).2.2 hK
    rw [if_pos (xI_v ev)]
    exact nx h2 _ _ iv2 (by omega) (by omega)
  · refine ⟨⟨by omega, by omega, by omega, c.1.tag⟩, CqQ h w b n K cnt U ik iw 3 _, sp_cundo c hV (by omega) (fun a _ => absurd a hc) (fun _ _ c1 f k => CqQ.of ⟨c1, f, k⟩), fun v1 h1 q1 => ?_⟩
    obtain ⟨m1, t1', s1⟩ := lb_mid m t1 q1.2.2.1
    refine ⟨⟨by omega, by omega, by omega, m1.1.1.tag⟩, MqQ h1 w b n K cnt U ik iw 3 _, sp_mundo m1 h20 (by omega) (fun a => absurd a hc) (fun _ _ m2 f k => MqQ.of ⟨m2, f, k⟩), fun v2 h2 q2 => ?_⟩
    obtain ⟨ev, iv2⟩ := lb_fin iv q1 q2 hV hK
    rw [if_pos (xI_v ev)]
    exact nx h2 _ _ iv2 (by omega) (by omega)
theorem lb_1334 {L i mc ms : Nat} {h : Hp} {R : PR} (iv : INV L h) (hi : i + 6 ≤ L) (hL : L ≤ 3072) (hm : 23 ≤ mc) (hs : 682 ≤ ms) (nx : ∀ h2 mc' ms', INV L h2 → mc ≤ mc' + 23 → ms ≤ ms' + 682 → Wp 1000 1521 [some (xR 1), some (xR 3), some (xR 73), some (xI (i : Int))] [] h2 2000 mc' ms' R) : Wp 1000 1334 [some (xR 1), some (xR 3), some (xR 73), some (xI (i : Int))] [] h 2000 mc ms R := by
  obtain ⟨w, b, n, K, A, nx0, cnt, U, ik, iw, c, m, hV, hK, r, r9, r10, t1⟩ := id iv
  obtain ⟨_, tp, _, ea, ck, nu, tr, cp, h5, hc0, _⟩ := id c
  have h20 := cp.1.2.2.2.2.2.2.2
  have a1 : ai_add (i : Int) 1 = ((i + 1 : Nat) : Int) := by rw [ai_add_eq (by omega) (by omega)]; omega
  have a2 : ai_add (i : Int) 2 = ((i + 2 : Nat) : Int) := by rw [ai_add_eq (by omega) (by omega)]; omega
  have a3 : ai_add (i : Int) 3 = ((i + 3 : Nat) : Int) := by rw [ai_add_eq (by omega) (by omega)]; omega
  apply b_law_1334
  rw [a1, a2, a3, t1]
  refine ⟨⟨rfl, by omega, by show ((i + 1 : Nat) : Int) < (L : Int); omega⟩, ⟨rfl, by omega, by show ((i + 2 : Nat) : Int) < (L : Int); omega⟩, ⟨rfl, by omega, by show ((i + 3 : Nat) : Int) < (L : Int); omega⟩, ⟨by omega, by omega, by omega, c.1.tag⟩, CqQ h w b n K cnt U ik iw 5 _, sp_ccost c.1 tr hV (by omega) (CqQ.of ⟨c, FrC.rf, KO.rf⟩), fun v1 h1 q1 => ?_⟩
  obtain ⟨m1, t1', s1⟩ := lb_mid m t1 q1.2.2.1
  rw [t1', s1]
  refine ⟨⟨rfl, by omega, by show ((i + 1 : Nat) : Int) < (L : Int); omega⟩, ⟨rfl, by omega, by show ((i + 2 : Nat) : Int) < (L : Int); omega⟩, ⟨rfl, by omega, by show ((i + 3 : Nat) : Int) < (L : Int); omega⟩, ⟨by omega, by omega, by omega, m1.1.1.tag⟩, MqQ h1 w b n K cnt U ik iw 5 _, sp_mcost m1.1 hV (by omega) (fun _ f => MqQ.of (m1.q f)), fun v2 h2 q2 => ?_⟩
  obtain ⟨ev, iv2⟩ := lb_fin iv q1 q2 hV hK
  rw [if_pos (by rw [al_cmp_eq]; exact xL_v ev)]
  exact nx h2 _ _ iv2 (by omega) (by omega)
theorem lb_1398 {L i mc ms : Nat} {h : Hp} {R : PR} (iv : INV L h) (hi : i + 6 ≤ L) (hL : L ≤ 3072) (hm : 23 ≤ mc) (hs : 682 ≤ ms) (nx : ∀ h2 mc' ms', INV L h2 → mc ≤ mc' + 23 → ms ≤ ms' + 682 → Wp 1000 1521 [some (xR 1), some (xR 3), some (xR 73), some (xI (i : Int))] [] h2 2000 mc' ms' R) : Wp 1000 1398 [some (xR 1), some (xR 3), some (xR 73), some (xI (i : Int))] [] h 2000 mc ms R := by
  obtain ⟨w, b, n, K, A, nx0, cnt, U, ik, iw, c, m, hV, hK, r, r9, r10, t1⟩ := id iv
  obtain ⟨_, tp, _, ea, ck, nu, tr, cp, h5, hc0, _⟩ := id c
  have h20 := cp.1.2.2.2.2.2.2.2
  have a1 : ai_add (i : Int) 1 = ((i + 1 : Nat) : Int) := by rw [ai_add_eq (by omega) (by omega)]; omega
  have a2 : ai_add (i : Int) 2 = ((i + 2 : Nat) : Int) := by rw [ai_add_eq (by omega) (by omega)]; omega
  apply b_law_1398
  rw [a1, a2, t1]
  refine ⟨⟨rfl, by omega, by show ((i + 1 : Nat) : Int) < (L : Int); omega⟩, ⟨rfl, by omega, by show ((i + 2 : Nat) : Int) < (L : Int); omega⟩, ⟨by omega, by omega, by omega, c.1.tag⟩, CqQ h w b n K cnt U ik iw 5 _, sp_cbill c.1 tr hV ck.1 ck.2.1 ck.2.2 (by omega) (fun _ f k p => CqQ.of (c.p f k (fun _ => p))), fun v1 h1 q1 => ?_⟩
  obtain ⟨m1, t1', s1⟩ := lb_mid m t1 q1.2.2.1
  rw [t1', s1]
  refine ⟨⟨rfl, by omega, by show ((i + 1 : Nat) : Int) < (L : Int); omega⟩, ⟨rfl, by omega, by show ((i + 2 : Nat) : Int) < (L : Int); omega⟩, ⟨by omega, by omega, by omega, m1.1.1.tag⟩, MqQ h1 w b n K cnt U ik iw 5 _, sp_mbill m1.1 hV (by omega) (fun _ f => MqQ.of (m1.q f)), fun v2 h2 q2 => ?_⟩
  obtain ⟨ev, iv2⟩ := lb_fin iv q1 q2 hV hK
  rw [if_pos (by rw [al_cmp_eq]; exact xL_v ev)]
  exact nx h2 _ _ iv2 (by omega) (by omega)
theorem lb_1452 {L i mc ms : Nat} {h : Hp} {R : PR} (iv : INV L h) (hi : i + 6 ≤ L) (hL : L ≤ 3072) (hm : 23 ≤ mc) (hs : 682 ≤ ms) (nx : ∀ h2 mc' ms', INV L h2 → mc ≤ mc' + 23 → ms ≤ ms' + 682 → Wp 1000 1521 [some (xR 1), some (xR 3), some (xR 73), some (xI (i : Int))] [] h2 2000 mc' ms' R) : Wp 1000 1452 [some (xR 1), some (xR 3), some (xR 73), some (xI (i : Int))] [] h 2000 mc ms R := by
  obtain ⟨w, b, n, K, A, nx0, cnt, U, ik, iw, c, m, hV, hK, r, r9, r10, t1⟩ := id iv
  obtain ⟨_, tp, _, ea, ck, nu, tr, cp, h5, hc0, _⟩ := id c
  have h20 := cp.1.2.2.2.2.2.2.2
  have a1 : ai_add (i : Int) 1 = ((i + 1 : Nat) : Int) := by rw [ai_add_eq (by omega) (by omega)]; omega
  apply b_law_1452
  rw [a1, t1]
  by_cases hc : 0 ≤ (hpC h 1 (Int.toNat ((i + 1 : Nat) : Int))) ∧ (hpC h 1 (Int.toNat ((i + 1 : Nat) : Int))) ≤ 1
  · refine ⟨⟨rfl, by omega, by show ((i + 1 : Nat) : Int) < (L : Int); omega⟩, ⟨by omega, by omega, by omega, c.1.tag⟩, CqQ h w b n K cnt U (kpB ik (Int.toNat (hpC h 1 (Int.toNat ((i + 1 : Nat) : Int))))) (kpI iw (Int.toNat (hpC h 1 (Int.toNat ((i + 1 : Nat) : Int)))) w) 5 _, sp_ckeep c hV (by omega) (by omega) (by omega) (fun _ _ _ c1 f k => CqQ.of ⟨c1, f, k⟩) (fun z => absurd hc z), fun v1 h1 q1 => ?_⟩
    obtain ⟨m1, t1', s1⟩ := lb_mid m t1 q1.2.2.1
    rw [t1', s1]
    refine ⟨⟨rfl, by omega, by show ((i + 1 : Nat) : Int) < (L : Int); omega⟩, ⟨by omega, by omega, by omega, m1.1.1.tag⟩, MqQ h1 w b n K cnt U (kpB ik (Int.toNat (hpC h 1 (Int.toNat ((i + 1 : Nat) : Int))))) (kpI iw (Int.toNat (hpC h 1 (Int.toNat ((i + 1 : Nat) : Int)))) w) 5 _, sp_mkeep m1 (by omega) (fun _ _ m2 f k => MqQ.of ⟨m2, f, k⟩) (fun z => absurd hc z), fun v2 h2 q2 => ?_⟩
    obtain ⟨ev, iv2⟩ := lb_fin iv q1 q2 hV hK
    rw [if_pos (xI_v ev)]
    exact nx h2 _ _ iv2 (by omega) (by omega)
  · refine ⟨⟨rfl, by omega, by show ((i + 1 : Nat) : Int) < (L : Int); omega⟩, ⟨by omega, by omega, by omega, c.1.tag⟩, CqQ h w b n K cnt U ik iw 4 _, sp_ckeep c hV (by omega) (by omega) (by omega) (fun a => absurd a hc) (fun _ _ c1 f k => CqQ.of ⟨c1, f, k⟩), fun v1 h1 q1 => ?_⟩
    obtain ⟨m1, t1', s1⟩ := lb_mid m t1 q1.2.2.1
    rw [t1', s1]
    refine ⟨⟨rfl, by omega, by show ((i + 1 : Nat) : Int) < (L : Int); omega⟩, ⟨by omega, by omega, by omega, m1.1.1.tag⟩, MqQ h1 w b n K cnt U ik iw 4 _, sp_mkeep m1 (by omega) (fun a => absurd a hc) (fun _ _ m2 f k => MqQ.of ⟨m2, f, k⟩), fun v2 h2 q2 => ?_⟩
    obtain ⟨ev, iv2⟩ := lb_fin iv q1 q2 hV hK
    rw [if_pos (xI_v ev)]
    exact nx h2 _ _ iv2 (by omega) (by omega)
theorem lb_1475 {L i mc ms : Nat} {h : Hp} {R : PR} (iv : INV L h) (hi : i + 6 ≤ L) (hL : L ≤ 3072) (hm : 23 ≤ mc) (hs : 682 ≤ ms) (nx : ∀ h2 mc' ms', INV L h2 → mc ≤ mc' + 23 → ms ≤ ms' + 682 → Wp 1000 1521 [some (xR 1), some (xR 3), some (xR 73), some (xI (i : Int))] [] h2 2000 mc' ms' R) : Wp 1000 1475 [some (xR 1), some (xR 3), some (xR 73), some (xI (i : Int))] [] h 2000 mc ms R := by
  obtain ⟨w, b, n, K, A, nx0, cnt, U, ik, iw, c, m, hV, hK, r, r9, r10, t1⟩ := id iv
  obtain ⟨_, tp, _, ea, ck, nu, tr, cp, h5, hc0, _⟩ := id c
  have h20 := cp.1.2.2.2.2.2.2.2
  have a1 : ai_add (i : Int) 1 = ((i + 1 : Nat) : Int) := by rw [ai_add_eq (by omega) (by omega)]; omega
  apply b_law_1475
  rw [a1, t1]
  by_cases hc : isK ik (hpC h 1 (Int.toNat ((i + 1 : Nat) : Int)))
  · refine ⟨⟨rfl, by omega, by show ((i + 1 : Nat) : Int) < (L : Int); omega⟩, ⟨by omega, by omega, by omega, c.1.tag⟩, CqQ h (iw (Int.toNat (hpC h 1 (Int.toNat ((i + 1 : Nat) : Int))))) b n K 0 U ik iw 5 _, sp_cback c hV (by omega) (fun _ _ _ c1 f k => CqQ.of ⟨c1, f, k⟩) (fun z => absurd hc z), fun v1 h1 q1 => ?_⟩
    obtain ⟨m1, t1', s1⟩ := lb_mid m t1 q1.2.2.1
    rw [t1', s1]
    refine ⟨⟨rfl, by omega, by show ((i + 1 : Nat) : Int) < (L : Int); omega⟩, ⟨by omega, by omega, by omega, m1.1.1.tag⟩, MqQ h1 (iw (Int.toNat (hpC h 1 (Int.toNat ((i + 1 : Nat) : Int))))) b n K 0 U ik iw 5 _, sp_mback m1 (by omega) (fun _ _ m2 f k => MqQ.of ⟨m2, f, k⟩) (fun z => absurd hc z), fun v2 h2 q2 => ?_⟩
    obtain ⟨ev, iv2⟩ := lb_fin iv q1 q2 ((cp.2.2.2.2 (Int.toNat (hpC h 1 (Int.toNat ((i + 1 : Nat) : Int)))) (by have := hc.1; have := hc.2.1; omega)).1 hc.2.2).2.2 hK
    rw [if_pos (xI_v ev)]
    exact nx h2 _ _ iv2 (by omega) (by omega)
  · refine ⟨⟨rfl, by omega, by show ((i + 1 : Nat) : Int) < (L : Int); omega⟩, ⟨by omega, by omega, by omega, c.1.tag⟩, CqQ h w b n K cnt U ik iw 4 _, sp_cback c hV (by omega) (fun a _ => absurd a hc) (fun _ _ c1 f k => CqQ.of ⟨c1, f, k⟩), fun v1 h1 q1 => ?_⟩
    obtain ⟨m1, t1', s1⟩ := lb_mid m t1 q1.2.2.1
    rw [t1', s1]
    refine ⟨⟨rfl, by omega, by show ((i + 1 : Nat) : Int) < (L : Int); omega⟩, ⟨by omega, by omega, by omega, m1.1.1.tag⟩, MqQ h1 w b n K cnt U ik iw 4 _, sp_mback m1 (by omega) (fun a => absurd a hc) (fun _ _ m2 f k => MqQ.of ⟨m2, f, k⟩), fun v2 h2 q2 => ?_⟩
    obtain ⟨ev, iv2⟩ := lb_fin iv q1 q2 hV hK
    rw [if_pos (xI_v ev)]
    exact nx h2 _ _ iv2 (by omega) (by omega)
theorem lb_1498 {L i mc ms : Nat} {h : Hp} {R : PR} (iv : INV L h) (hi : i + 6 ≤ L) (hL : L ≤ 3072) (hm : 23 ≤ mc) (hs : 682 ≤ ms) (nx : ∀ h2 mc' ms', INV L h2 → mc ≤ mc' + 23 → ms ≤ ms' + 682 → Wp 1000 1521 [some (xR 1), some (xR 3), some (xR 73), some (xI (i : Int))] [] h2 2000 mc' ms' R) : Wp 1000 1498 [some (xR 1), some (xR 3), some (xR 73), some (xI (i : Int))] [] h 2000 mc ms R := by
  obtain ⟨w, b, n, K, A, nx0, cnt, U, ik, iw, c, m, hV, hK, r, r9, r10, t1⟩ := id iv
  obtain ⟨_, tp, _, ea, ck, nu, tr, cp, h5, hc0, _⟩ := id c
  have h20 := cp.1.2.2.2.2.2.2.2
  have a1 : ai_add (i : Int) 1 = ((i + 1 : Nat) : Int) := by rw [ai_add_eq (by omega) (by omega)]; omega
  apply b_law_1498
  rw [a1, t1]
  refine ⟨⟨rfl, by omega, by show ((i + 1 : Nat) : Int) < (L : Int); omega⟩, ⟨by omega, by omega, by omega, c.1.tag⟩, CqQ h w b n K cnt U ik iw 5 (xI (if 0 ≤ (hpC h 1 (Int.toNat ((i + 1 : Nat) : Int))) ∧ (hpC h 1 (Int.toNat ((i + 1 : Nat) : Int))) < 5 then hpC h (3 + 69) (Int.toNat (hpC h 1 (Int.toNat ((i + 1 : Nat) : Int)))) else -1)), sp_cstatus c.1 h5 (CqQ.of ⟨c, FrC.rf, KO.rf⟩), fun v1 h1 q1 => ?_⟩
  obtain ⟨m1, t1', s1⟩ := lb_mid m t1 q1.2.2.1
  have E1 : (if 0 ≤ (hpC h 1 (Int.toNat ((i + 1 : Nat) : Int))) ∧ (hpC h 1 (Int.toNat ((i + 1 : Nat) : Int))) < 5 then hpC h1 (73 + 3) (Int.toNat (hpC h 1 (Int.toNat ((i + 1 : Nat) : Int)))) else -1) = (if 0 ≤ (hpC h 1 (Int.toNat ((i + 1 : Nat) : Int))) ∧ (hpC h 1 (Int.toNat ((i + 1 : Nat) : Int))) < 5 then hpC h (3 + 69) (Int.toNat (hpC h 1 (Int.toNat ((i + 1 : Nat) : Int)))) else -1) := by
    by_cases z : 0 ≤ (hpC h 1 (Int.toNat ((i + 1 : Nat) : Int))) ∧ (hpC h 1 (Int.toNat ((i + 1 : Nat) : Int))) < 5
    · rw [if_pos z, if_pos z, (q1.2.2.1.2 (73 + 3) (by omega)).2, r _ (by omega)]
    · rw [if_neg z, if_neg z]
  rw [t1', s1]
  refine ⟨⟨rfl, by omega, by show ((i + 1 : Nat) : Int) < (L : Int); omega⟩, ⟨by omega, by omega, by omega, m1.1.1.tag⟩, MqQ h1 w b n K cnt U ik iw 5 (xI (if 0 ≤ (hpC h 1 (Int.toNat ((i + 1 : Nat) : Int))) ∧ (hpC h 1 (Int.toNat ((i + 1 : Nat) : Int))) < 5 then hpC h (3 + 69) (Int.toNat (hpC h 1 (Int.toNat ((i + 1 : Nat) : Int)))) else -1)), sp_mstatus m1.1.1 (by omega) (by rw [E1]; exact (MqQ.of ⟨m1, FrP.rf, KM.rf⟩)), fun v2 h2 q2 => ?_⟩
  obtain ⟨ev, iv2⟩ := lb_fin iv q1 q2 hV hK
  rw [if_pos (xI_v ev)]
  exact nx h2 _ _ iv2 (by omega) (by omega)

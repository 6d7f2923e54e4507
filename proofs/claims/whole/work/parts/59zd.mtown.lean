/-! ===== the reference's town: the draft is emptied, statements are read ===== -/
/-- all statements from e on -/
def pAll (b : Nat → Nat) (n : Nat) : Nat → Nat → (Nat → Int) → Nat → Nat → PO
  | 0, e, D, T, G => .inr (e, D, T, G)
  | f + 1, e, D, T, G => if tR b n e = 0 then .inr (e, D, T, G) else match pStm b n e D T G with
    | .inl r => .inl r
    | .inr (e', D', T', G') => pAll b n f e' D' T' G'
theorem tR_0 {b : Nat → Nat} {n e : Nat} : tR b n e = 0 ↔ bvT b n (tS b n e : Int) = -1 := by
  unfold tR
  rw [kdT_end]
  unfold bvT
  by_cases c : tS b n e < n
  · rw [if_pos (by omega), Int.toNat_natCast]; omega
  · rw [if_neg (by omega)]; simp [c]
theorem pStm_idem {b : Nat → Nat} {n e : Nat} {D : Nat → Int} {T G : Nat} : pStm b n (tS b n e) D T G = pStm b n e D T G := by
  have o : oS b n (tS b n e) = oS b n e := by
    by_cases k : kS b n e = 1
    · rw [oS_1 k, oS_1 (by rw [kS_idem]; exact k), tL_idem]
    · rw [oS_0 k, oS_0 (by rw [kS_idem]; exact k)]
  unfold pStm pKey
  rw [o]
  simp only [pSet, pMute, pSam, pPai, pStr, pHou, pAli, pPoo, tS_idem, tE_idem]
theorem sp_mtown40 {h : Hp} {m : Nat} {b : Nat → Nat} {n : Nat} (c : MB h m b n) {d mc ms : Nat} {R : PR} (hd : 7 ≤ d) {o1 : Option AV} {P : PO} (H : ∀ (h' : Hp), FrP (Smr m) h h' → OUT h' m P → Wp m_M_town 62 [some (xR m), o1] [] h' d mc ms R) : ∀ (f e : Nat) (D : Nat → Int) (T G : Nat) (g : Hp), n - e < f → e ≤ n → V D → Dz D → T < 65536 → G < 67108864 → FrP (Smr m) h g → MG g m e D T G → ((∃ D' T' G' e', pAll b n f e D T G = .inr (e', D', T', G') ∧ P = .inr (tS b n e', D', T', G')) ∨ ∃ r, pAll b n f e D T G = .inl r ∧ P = .inl r) → Wp m_M_town 40 [some (xR m), o1] [] g d mc ms R
  | 0, e, D, T, G, g, hf, _, _, _, _, _, _, _, _ => by omega
  | f + 1, e, D, T, G, g, hf, he, hV, hz, hT, hG, fr, mg, eP => by
    obtain ⟨k9, k11, k14, k15, kD⟩ := id mg
    have cg := c.fr fr
    have S1 := (tS_spec b n e).1
    simp only [pAll] at eP
    apply f_M_town_40
    refine ⟨⟨by omega, cg.tag⟩, sp_goesWell cg k11 (fun v ee => ?_)⟩
    have ev := xI_inj ee
    clear ee
    rw [if_pos rfl] at ev
    rw [if_neg (by omega)]
    refine ⟨⟨by omega, cg.tag⟩, sp_here cg k9 he (by omega) (fun g1 f1 q9 v2 ee => ?_)⟩
    have ev2 := xI_inj ee
    clear ee
    have F1 := fr.tr (f1.wk (fun q p z => Or.inl ⟨z.1, Or.inl z.2⟩) : FrP (Smr m) g g1)
    have c1 := c.fr F1
    have kp : ∀ p, p ≠ 9 → hpC g1 m p = hpC g m p := fun p hp => f1.2.2 _ _ (by omega)
    have D1 : DR g1 m D := kD.fr f1 (fun p z => by omega)
    have mg1 : MG g1 m (tS b n e) D T G := ⟨q9, by rw [kp _ (by omega)]; exact k11, ⟨by rw [kp _ (by omega)]; exact k14.1, by rw [kp _ (by omega)]; exact k14.2⟩, by rw [kp _ (by omega)]; exact k15, D1⟩
    by_cases z : v2 = -1
    · rw [if_pos z]
      rw [if_pos (tR_0.2 (by rw [← ev2]; exact z))] at eP
      refine H g1 F1 ?_
      rcases eP with ⟨D', T', G', e', h1, h2⟩ | ⟨r, h1, _⟩
      · cases h1; rw [h2]; exact mg1
      · cases h1
    · rw [if_neg z]
      rw [if_neg (fun y => z (by rw [ev2]; exact tR_0.1 y))] at eP
      refine ⟨⟨by omega, c1.tag⟩, sp_rstm c1 (S1.2 he) hV hz hT hG mg1 (by omega) (fun g2 f2 ou _ => ?_)⟩
      rw [pStm_idem] at ou
      have F2 := F1.tr f2
      have c2 := c.fr F2
      cases q : pStm b n e D T G with
      | inl r =>
        obtain ⟨rf, rp⟩ := r
        rw [q] at ou eP
        obtain ⟨a1, hf1, a2⟩ := ou
        simp only at eP
        apply f_M_town_40
        refine ⟨⟨by omega, c2.tag⟩, sp_goesWell c2 a1 (fun v ee => ?_)⟩
        have ev := xI_inj ee
        rw [if_neg hf1] at ev
        rw [if_pos ev]
        refine H g2 F2 ?_
        rcases eP with ⟨D', T', G', e', h1, h2⟩ | ⟨r, h1, h2⟩
        · cases h1
        · cases h1; rw [h2]; exact ⟨a1, hf1, a2⟩
      | inr r =>
        obtain ⟨e1, D1, T1, G1⟩ := r
        rw [q] at ou eP
        simp only at eP
        obtain ⟨⟨o1, o2, o3, o4⟩, o5, o6, _⟩ := pStm_ok he hV hz hT hG q
        exact sp_mtown40 c hd H f e1 D1 T1 G1 g2 (by omega) o1 o2 o5 o3 o4 F2 ou eP

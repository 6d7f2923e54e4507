/-! ===== what statements keep ===== -/
theorem Dz.of {D D' : Nat → Int} (h : Dz D) (h1 : ∀ p, 980 ≤ p → D' p = D p) (h8 : D' 8 ≤ 12) : Dz D' := ⟨fun j hj => by rw [h1 _ (by omega)]; exact h.1 j hj, h8⟩
theorem pSet_z {b : Nat → Nat} {n i e e' T G T' G' : Nat} {D D' : Nat → Int} (hi : i < 3) (hz : Dz D) (h : pSet b n i e D T G = .inr (e', D', T', G')) : Dz D' := by
  unfold pSet at h
  split at h
  · cases h
  · split at h
    · split at h
      · cases h; exact hz.of (fun p hp => upD_o (by omega)) (by rw [upD_o (by omega)]; exact hz.2)
      · cases h
    · cases h
theorem pMute_z {b : Nat → Nat} {n e e' T G T' G' : Nat} {D D' : Nat → Int} (hz : Dz D) (h : pMute b n e D T G = .inr (e', D', T', G')) : Dz D' := by
  unfold pMute at h
  split at h
  · cases h
  · split at h
    · split at h
      · cases h; exact hz.of (fun p hp => upD_o (by omega)) (by rw [upD_o (by omega)]; exact hz.2)
      · cases h
    · cases h
theorem pStr_z {b : Nat → Nat} {n e e' T G T' G' : Nat} {D D' : Nat → Int} (hV : V D) (hz : Dz D) (h : pStr b n e D T G = .inr (e', D', T', G')) : Dz D' := by
  have v7 := hV.1.2.2.2.2.2.2.2.1
  unfold pStr at h
  split at h
  · cases h
  · split at h
    · split at h
      · cases h
      · cases h; exact hz.of (fun p hp => by rw [upD_o (by omega), ptW_o (by omega)]) (by rw [upD_o (by omega), ptW_o (by omega)]; exact hz.2)
    · cases h
theorem pSam_z {b : Nat → Nat} {n e e' T G T' G' : Nat} {D D' : Nat → Int} (hz : Dz D) (h : pSam b n e D T G = .inr (e', D', T', G')) : Dz D' := by
  unfold pSam at h
  split at h
  · cases h
  · split at h
    · rename_i c2
      split at h
      · cases h
        have al := tL_al (kS_1.1 c2.1).1
        exact hz.of (fun p hp => by unfold saW; rw [upD_o (by omega)]; exact saF_o _ (fun i hi => (al i hi).2.2) p (by omega)) (by unfold saW; rw [upD_o (by omega), saF_o _ (fun i hi => (al i hi).2.2) 8 (by omega)]; exact hz.2)
      · cases h
    · cases h
theorem pPai_z {b : Nat → Nat} {n e e' T G T' G' : Nat} {D D' : Nat → Int} (hV : V D) (hz : Dz D) (h : pPai b n e D T G = .inr (e', D', T', G')) : Dz D' := by
  have v5 := hV.1.2.2.2.2.2.1
  unfold pPai at h
  split at h
  · cases h
  · split at h
    · split at h
      · split at h
        · cases h; exact hz.of (fun p hp => by unfold paW; rw [upD_o (by omega), upD_o (by omega), upD_o (by omega), upD_o (by omega)]) (by unfold paW; rw [upD_o (by omega), upD_o (by omega), upD_o (by omega), upD_o (by omega)]; exact hz.2)
        · cases h
      · cases h
    · cases h
theorem pHou_z {b : Nat → Nat} {n e e' T G T' G' : Nat} {D D' : Nat → Int} (hV : V D) (hz : Dz D) (h : pHou b n e D T G = .inr (e', D', T', G')) : Dz D' := by
  have v7 := hV.1.2.2.2.2.2.2.2.1
  unfold pHou at h
  split at h
  · split at h
    · cases h
    · rename_i c2
      obtain ⟨s, hs1, hs2, _⟩ := plW_bd c2
      rw [hs1, Int.toNat_natCast] at h
      have hb := hV.hs (s := s) (by omega)
      split at h
      · cases h
      · unfold pHo2 at h
        split at h
        · unfold pHo3 at h
          split at h
          · split at h
            · unfold pHo4 at h
              split at h
              · split at h
                · cases h
                  exact hz.of (fun p hp => bldW_o (by omega) (by omega)) (by rw [bldW_o (by omega) (by omega)]; exact hz.2)
                · cases h
              · cases h
            · cases h
          · cases h
        · cases h
  · cases h
theorem pAli_z {b : Nat → Nat} {n e e' T G T' G' : Nat} {D D' : Nat → Int} (hV : V D) (hz : Dz D) (h : pAli b n e D T G = .inr (e', D', T', G')) : Dz D' := by
  have v8 := hV.1.2.2.2.2.2.2.2.2.1
  have h12 := hz.2
  unfold pAli at h
  split at h
  · cases h
  · rename_i c0
    split at h
    · split at h
      · cases h
      · unfold pAl2 at h
        split at h
        · unfold pAl3 at h
          split at h
          · split at h
            · cases h
            · cases h
              exact hz.of (fun p hp => by unfold nalW; rw [upD_o (by omega), upD_o (by omega), ptW_o (by omega)]) (by unfold nalW; rw [upD_s]; omega)
          · cases h
        · cases h
    · cases h
theorem pPoF_z {b : Nat → Nat} {n T G : Nat} : ∀ (f e e' T' G' : Nat) (D D' : Nat → Int), e ≤ n → V D → Dz D → pPoF b n T G f e D = .inr (e', D', T', G') → Dz D'
  | 0, e, e', T', G', D, D', he, hV, hz, h => by simp only [pPoF] at h; cases h
  | f + 1, e, e', T', G', D, D', he, hV, hz, h => by
    have v6 := hV.1.2.2.2.2.2.2.1
    simp only [pPoF] at h
    split at h
    · cases h; exact hz
    · split at h
      · rename_i c2
        split at h
        · cases h
        · split at h
          · cases h
          · rename_i c4
            exact pPoF_z f _ _ _ _ _ _ (tE_le he) (npW_V hV (tV_ok he c2).1 (by omega)) (hz.of (fun p hp => by unfold npW; rw [upD_o (by omega), ptW_o (by omega)]) (by unfold npW; rw [upD_o (by omega), ptW_o (by omega)]; exact hz.2)) h
      · cases h
theorem pKey_z {b : Nat → Nat} {n e e' T G T' G' : Nat} {D D' : Nat → Int} {o : Int} (he : e ≤ n) (hV : V D) (hz : Dz D) (h : pKey b n e D T G o = .inr (e', D', T', G')) : Dz D' := by
  unfold pKey at h
  split at h
  · exact pSet_z (by omega) hz h
  · split at h
    · exact pSet_z (by omega) hz h
    · split at h
      · exact pSet_z (by omega) hz h
      · split at h
        · exact pMute_z hz h
        · split at h
          · exact pSam_z hz h
          · split at h
            · exact pPai_z hV hz h
            · split at h
              · exact pStr_z hV hz h
              · split at h
                · exact pHou_z hV hz h
                · split at h
                  · exact pAli_z hV hz h
                  · split at h
                    · unfold pPoo at h
                      split at h
                      · exact pPoF_z 13 _ _ _ _ _ _ (tE_le he) hV hz h
                      · cases h
                    · cases h
/-- a statement that goes well goes on, and keeps all -/
theorem pStm_ok {b : Nat → Nat} {n e e' T G T' G' : Nat} {D D' : Nat → Int} (he : e ≤ n) (hV : V D) (hz : Dz D) (hT : T < 65536) (hG : G < 67108864) (h : pStm b n e D T G = .inr (e', D', T', G')) : OKS n e' D' T' G' ∧ Dz D' ∧ e < e' ∧ lgT b n e' = false := by
  unfold pStm at h
  cases q : pKey b n e D T G (oS b n e) with
  | inl r => rw [q] at h; simp only [pMk] at h; cases h
  | inr r =>
    obtain ⟨e1, D1, T1, G1⟩ := r
    rw [q] at h
    simp only [pMk] at h
    split at h
    · rename_i k3
      cases h
      obtain ⟨⟨o1, o2, o3, o4⟩, o5⟩ := pKey_ok he hV hz hT hG q
      have E0 := tE_spec b n e he
      have S0 := (tS_spec b n e).1.1
      have E1 := tE_spec b n e1 o1
      have S1 := (tS_spec b n e1).1.1
      have r3 := kS_3.1 k3
      have r3' := kdT_stop.1 r3
      have hE : tE b n e1 = tS b n e1 + 1 := by unfold tE; rw [if_neg (by omega), if_neg (by omega), if_neg (by omega)]
      refine ⟨⟨E1.2.1, o2, o3, o4⟩, pKey_z he hV hz q, by omega, ?_⟩
      unfold lgT alP dgP
      rw [hE]
      simp
      omega
    · cases h

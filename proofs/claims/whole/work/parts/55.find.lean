/-! ===== find, fades ===== -/
def nfW (f : Nat → Int) : Nat → Nat → Int → Int → Int
  | 0, _, b, _ => b
  | j + 1, s, b, l => if f s < l then nfW f j (s + 1) (s : Int) (f s) else nfW f j (s + 1) b l
theorem nfW_bd (f : Nat → Int) : ∀ j s b l, nfW f j s b l = b ∨ ∃ t : Nat, nfW f j s b l = (t : Int) ∧ s ≤ t ∧ t < s + j
  | 0, s, b, l => Or.inl rfl
  | j + 1, s, b, l => by
    simp only [nfW]
    split
    · rcases nfW_bd f j (s + 1) (s : Int) (f s) with z | ⟨t, z1, z2, z3⟩
      · exact Or.inr ⟨s, z, by omega, by omega⟩
      · exact Or.inr ⟨t, z1, by omega, by omega⟩
    · rcases nfW_bd f j (s + 1) b l with z | ⟨t, z1, z2, z3⟩
      · exact Or.inl z
      · exact Or.inr ⟨t, z1, by omega, by omega⟩
theorem nfW_some (f : Nat → Int) : ∀ (j s : Nat) (b l : Int), 0 ≤ b → nfW f j s b l ≠ -1
  | 0, s, b, l, h => by simp only [nfW]; omega
  | j + 1, s, b, l, h => by
    simp only [nfW]
    split
    · exact nfW_some f j (s + 1) _ _ (by omega)
    · exact nfW_some f j (s + 1) b l h
theorem nfW_none (f : Nat → Int) (l : Int) : ∀ (j s : Nat), nfW f j s (-1) l = -1 ↔ ∀ t, s ≤ t → t < s + j → l ≤ f t
  | 0, s => by simp only [nfW, true_iff]; intro t h1 h2; omega
  | j + 1, s => by
    simp only [nfW]
    by_cases c : f s < l
    · rw [if_pos c]
      constructor
      · intro z; exact absurd z (nfW_some f j (s + 1) _ _ (by omega))
      · intro z; have := z s (by omega) (by omega); omega
    · rw [if_neg c, nfW_none f l j (s + 1)]
      constructor
      · intro z t h1 h2
        rcases Nat.eq_or_lt_of_le h1 with q | q
        · subst q; omega
        · exact z t q (by omega)
      · intro z t h1 h2; exact z t (by omega) (by omega)
def chV (w v : Nat → Int) (s : Nat) : Int := (lv (fW v 0) (fW w (180 + 10 * s)) (nW v 0) (nW w (180 + 10 * s)) : Int)
def ksV (w v : Nat → Int) (j s : Nat) : Int := fst1 (fun s => decide (keyV w v = keyW w (180 + 10 * s))) j s
/-- who is meant by likeness -/
def pk4 (b : Int) : Int := if b = -1 then -1 else 400 + b
def pk3 (k r : Int) : Int := if k = -1 then r else 300 + k
def pkA (w : Nat → Int) (l r : Int) : Int := if l = -1 then r else 200 + w (950 + l.toNat)
def pkP (p r : Int) : Int := if p = -1 then r else 100 + p
def pkD (k y : Int) : Int := if k = -1 then (if 999 < y then -1 else y) else -1
def mlW (w v : Nat → Int) : Int := pk3 (ksV w v (w 7).toNat 0) (pk4 (nfW (chV w v) (w 7).toNat 0 (-1) (w 0 + 1)))
theorem sp_meant {h : Hp} {x : Nat} {w : Nat → Int} (s : sAt h x) (a : TR h (x + 43) w) (hV : V w) (he : earAt h (x + 28) (x + 29)) {v : Nat → Int} (ok : okName v 0) {d mc ms : Nat} {R : PR} (hd : 4 ≤ d) {o3 o4 o5 o6 o7 o8 : Option AV} (H : ∀ h', Fr (fun q => q = x + 29) h h' → R (some (xI (mlW w v))) h') : Wp m_S_meantByLikeness 0 [some (xR x), some (xL (wordW v 0 : Int)), none, o3, o4, o5, o6, o7, o8] [] h d mc ms R := by
  have v0 := hV.1.1
  have v1 := hV.1.2.1
  have v2 := hV.1.2.2.1
  have v3 := hV.1.2.2.2.1
  have v4 := hV.1.2.2.2.2.1
  have v5 := hV.1.2.2.2.2.2.1
  have v6 := hV.1.2.2.2.2.2.2.1
  have v7 := hV.1.2.2.2.2.2.2.2.1
  have v8 := hV.1.2.2.2.2.2.2.2.2.1
  have v9 := hV.1.2.2.2.2.2.2.2.2.2
  have hT := a.1.1
  have hR : RW h (x + 43 + 1) w := a.1.2.1
  have b1 : NW h (x + 43 + 7) w (w 7) 180 := a.1.2.2.1
  have n1 := a.2.1
  have km := keyV_mem hV ok
  unfold mlW at H
  apply f_S_meantByLikeness_0
  rw [s.now_n, hT.rules_n]
  refine ⟨s.tag, hT.tag, ⟨by omega, hT.rules_a.tag⟩, sp_soundOf hT.rules_a (hR.are hV) (wordW_lt ok) (wordW_isL ok) (wordW_26 ok) (by omega) (fun v1 e => ?_)⟩
  cases e
  rw [keyV_word ok]
  have M : ∀ (j i : Nat) (bb l : Int) (g : Hp) (o3 o4 o8 : Option AV), ((i + j : Nat) : Int) = w 7 → Fr (fun q => q = x + 29) h g → (bb = -1 ∨ 0 ≤ bb) → (∀ h', Fr (fun q => q = x + 29) h h' → R (some (xI (pk4 (nfW (chV w v) j i bb l)))) h') → Wp m_S_meantByLikeness 81 [some (xR x), some (xL (wordW v 0 : Int)), none, o3, o4, some (xI l), some (xI (pk4 bb)), some (xI (i : Int)), o8] [] g d mc ms R := by
    intro j
    induction j with
    | zero =>
      intro i bb l g o3 o4 o8 hi f hb H
      have a := f.TR a
      have s := f.sAt s
      have hT := a.1.1
      have b1 := a.1.2.2.1
      have H := H g f
      simp only [nfW] at H
      apply f_S_meantByLikeness_81
      rw [s.now_n, hT.streets_n, b1.1, if_neg (by omega)]
      refine ⟨s.tag, hT.tag, hT.streets_a.tag, ?_⟩
      exact H
    | succ j ih =>
      intro i bb l g o3 o4 o8 hi f hb H
      have a := f.TR a
      have s := f.sAt s
      have he := he.fr f (by omega)
      have hT := a.1.1
      have b1 := a.1.2.2.1
      have oki := hV.2.2.2.2.1 i (by omega)
      simp only [nfW] at H
      apply f_S_meantByLikeness_81
      rw [s.now_n, hT.streets_n, b1.1, if_pos (by omega), hT.streets_a.word_n, hT.streets_a.word_t, s.ear_n, Int.toNat_natCast, b1.2 i (by omega), ab_1 (by omega), aa_400 (by omega)]
      refine ⟨s.tag, hT.tag, hT.streets_a.tag, s.tag, s.tag, hT.tag, hT.streets_a.tag, ⟨rfl, by omega, by show (i : Int) < 10; omega⟩, ⟨by omega, he.1⟩, ?_⟩
      refine sp_distance (wordW_lt ok) (wordW_lt oki) (wordW_isL ok).len (wordW_isL oki).len (by omega) he (fun h5 f5 v5 e => ?_)
      rw [lv_ext (a' := fW v 0) (b' := fW w (180 + 10 * i)) _ _ (fun q hq => by rw [wl_wordW ok, if_pos hq]) (fun q hq => by rw [wl_wordW oki, if_pos hq])] at e
      have e1 : v5 = chV w v i := xI_inj e
      clear e
      rw [← e1] at H
      by_cases c1 : v5 < l
      · rw [if_pos c1]
        rw [if_pos c1] at H
        have := ih (i + 1) (i : Int) v5 h5 o3 (x_d2 o4) (some (xI v5)) (by omega) (f.tr f5) (Or.inr (by omega)) H
        rw [show pk4 (i : Int) = ((400 + i : Nat) : Int) by unfold pk4; rw [if_neg (by omega)]; omega] at this
        exact this
      · rw [if_neg c1]
        rw [if_neg c1] at H
        exact ih (i + 1) bb l h5 _ _ _ (by omega) (f.tr f5) hb H
  have L : ∀ (j i : Nat) (o6 o7 o8 : Option AV), ((i + j : Nat) : Int) = w 7 → (∀ h', Fr (fun q => q = x + 29) h h' → R (some (xI (pk3 (ksV w v j i) (pk4 (nfW (chV w v) (w 7).toNat 0 (-1) (w 0 + 1)))))) h') → Wp m_S_meantByLikeness 15 [some (xR x), some (xL (wordW v 0 : Int)), none, some (xL (pkL (keyV w v) : Int)), none, some (xI (i : Int)), o6, o7, o8] [] h d mc ms R := by
    intro j
    induction j with
    | zero =>
      intro i o6 o7 o8 hi H
      rw [show ksV w v 0 i = -1 from rfl, show ∀ r, pk3 (-1) r = r from fun r => rfl] at H
      apply f_S_meantByLikeness_15
      rw [s.now_n, hT.streets_n, b1.1, if_neg (by omega), hT.rules_n, hR.1, ai_add_eq (by omega) (by omega)]
      refine ⟨s.tag, hT.tag, hT.streets_a.tag, s.tag, hT.tag, hT.rules_a.tag, ?_⟩
      exact M (w 7).toNat 0 (-1) (w 0 + 1) h _ _ _ (by omega) Fr.rf (Or.inl rfl) H
    | succ j ih =>
      intro i o6 o7 o8 hi H
      have oki := hV.2.2.2.2.1 i (by omega)
      apply f_S_meantByLikeness_15
      rw [s.now_n, hT.streets_n, b1.1, if_pos (by omega), hT.streets_a.sound_n, hT.streets_a.sound_t, Int.toNat_natCast, n1 i (by omega), ab_1 (by omega), aa_300 (by omega)]
      refine ⟨s.tag, hT.tag, hT.streets_a.tag, s.tag, hT.tag, hT.streets_a.tag, ⟨rfl, by omega, by show (i : Int) < 10; omega⟩, ?_⟩
      by_cases c : keyV w v = keyW w (180 + 10 * i)
      · rw [if_pos (al_cmp_eq.mpr (by rw [c]))]
        have H := H h Fr.rf
        rw [show ksV w v (j + 1) i = (i : Int) by simp only [ksV, fst1, decide_eq_true_eq]; rw [if_pos c]] at H
        rw [show ∀ r, pk3 (i : Int) r = ((300 + i : Nat) : Int) from fun r => by unfold pk3; rw [if_neg (by omega)]; omega] at H
        exact H
      · rw [if_neg (fun z => c (pkL_inj km (keyW_mem hV oki) (by have := al_cmp_eq.mp z; omega)))]
        rw [show ksV w v (j + 1) i = ksV w v j (i + 1) by simp only [ksV, fst1, decide_eq_true_eq]; rw [if_neg c]] at H
        exact ih (i + 1) _ _ _ (by omega) H
  exact L (w 7).toNat 0 _ _ _ (by omega) H
/-- the first live alias that is a word -/
def laA (w : Nat → Int) (W : Nat) (j k : Nat) : Int := fst1 (fun k => decide (wordW w (650 + 10 * k) = W ∧ ¬ w (980 + k) < w 9)) j k
theorem sp_liveAlias {h : Hp} {t : Nat} {w : Nat → Int} (a : TR h t w) (hV : V w) {W : Nat} {d mc ms : Nat} {R : PR} (hd : 1 ≤ d) {o3 : Option AV} (H : R (some (xI (laA w W (w 8).toNat 0))) h) : Wp m_Town_liveAlias 0 [some (xR t), some (xL (W : Int)), none, o3] [] h d mc ms R := by
  have v0 := hV.1.1
  have v1 := hV.1.2.1
  have v2 := hV.1.2.2.1
  have v3 := hV.1.2.2.2.1
  have v4 := hV.1.2.2.2.2.1
  have v5 := hV.1.2.2.2.2.2.1
  have v6 := hV.1.2.2.2.2.2.2.1
  have v7 := hV.1.2.2.2.2.2.2.2.1
  have v8 := hV.1.2.2.2.2.2.2.2.2.1
  have v9 := hV.1.2.2.2.2.2.2.2.2.2
  have hT := a.1.1
  have b3 : NW h (t + 13) w (w 8) 650 := a.1.2.2.2.2.1
  apply f_Town_liveAlias_0
  have L : ∀ j i : Nat, ((i + j : Nat) : Int) = w 8 → R (some (xI (laA w W j i))) h → Wp m_Town_liveAlias 2 [some (xR t), some (xL (W : Int)), none, some (xI (i : Int))] [] h d mc ms R := by
    intro j
    induction j with
    | zero =>
      intro i hi H
      apply f_Town_liveAlias_2
      rw [hT.aliases_n, b3.1, if_neg (by omega)]
      exact ⟨hT.tag, hT.aliases_a.tag, H⟩
    | succ j ih =>
      intro i hi H
      simp only [laA, fst1, decide_eq_true_eq] at H
      apply f_Town_liveAlias_2
      rw [hT.aliases_n, b3.1, if_pos (by omega), hT.aliases_a.word_n, hT.aliases_a.word_t, Int.toNat_natCast, b3.2 i (by omega), ab_1 (by omega)]
      refine ⟨hT.tag, hT.aliases_a.tag, hT.tag, hT.aliases_a.tag, ⟨rfl, by omega, by show (i : Int) < 30; omega⟩, ?_⟩
      by_cases c : wordW w (650 + 10 * i) = W
      · rw [if_pos (al_cmp_eq.mpr (by omega))]
        refine ⟨⟨hd, hT.tag⟩, sp_cLive a hV (by omega) (fun v e => ?_)⟩
        cases e
        by_cases c2 : w (980 + i) < w 9
        · rw [if_pos c2, if_pos rfl]
          rw [if_neg (fun z => z.2 c2)] at H
          exact ih (i + 1) (by omega) H
        · rw [if_neg c2, if_neg (by decide)]
          rw [if_pos ⟨c, c2⟩] at H
          exact H
      · rw [if_neg (fun z => c (by have := al_cmp_eq.mp z; omega))]
        rw [if_neg (fun z => c z.1)] at H
        exact ih (i + 1) (by omega) H
  exact L (w 8).toNat 0 (by omega) H
def findA (w v : Nat → Int) : Int := pkP (plW w 180 (w 7) (wordW v 0)) (pkA w (laA w (wordW v 0) (w 8).toNat 0) (mlW w v))
def Sfd (x : Nat) : Nat → Nat → Prop := fun r p => (r = x + 1 ∧ p = 1) ∨ r = x + 29
theorem fst1_bd {p : Nat → Bool} {j : Nat} (h : fst1 p j 0 ≠ -1) : ∃ i : Nat, fst1 p j 0 = (i : Int) ∧ i < j ∧ p i = true := by
  rcases fst1_cases p j 0 with ⟨z, _⟩ | ⟨i, h1, h2, h3, h4, _⟩
  · exact absurd z h
  · exact ⟨i, h4, by omega, h3⟩
theorem sp_cfind {h : Hp} {x : Nat} {w : Nat → Int} (s : sAt h x) (a : TR h (x + 43) w) (hV : V w) (he : earAt h (x + 28) (x + 29)) {b : Nat → Nat} {n : Nat} (t : TPc h x b n) {d mc ms : Nat} {R : PR} (hd : 5 ≤ d) {o1 o2 o3 o4 : Option AV}
    (H1 : nmT b n → ∀ h', FrP (Sfd x) h h' → hpC h' (x + 1) 1 = 0 → R (some (xI (findA w (tvW b 0 n)))) h')
    (H2 : ¬ nmT b n → ∀ h', FrP (Sfd x) h h' → hpC h' (x + 1) 1 = 0 → R (some (xI (-1))) h') : Wp m_S_find 0 [some (xR x), o1, o2, o3, o4] [] h d mc ms R := by
  have v0 := hV.1.1
  have v1 := hV.1.2.1
  have v2 := hV.1.2.2.1
  have v3 := hV.1.2.2.2.1
  have v4 := hV.1.2.2.2.2.1
  have v5 := hV.1.2.2.2.2.2.1
  have v6 := hV.1.2.2.2.2.2.2.1
  have v7 := hV.1.2.2.2.2.2.2.2.1
  have v8 := hV.1.2.2.2.2.2.2.2.2.1
  have v9 := hV.1.2.2.2.2.2.2.2.2.2
  have s' := TPz.s (v := 0) s
  have a' := TPz.TR (v := 0) a
  have hT := a'.1.1
  have b1 : NW (hpU h (x + 1) 1 0) (x + 43 + 7) w (w 7) 180 := a'.1.2.2.1
  have h16 := a'.1.2.2.2.2.2.1
  have f0 : FrP (Sfd x) h (hpU h (x + 1) 1 0) := FrP.up (Or.inl ⟨rfl, rfl⟩)
  have x0 : hpC (hpU h (x + 1) 1 0) (x + 1) 1 = 0 := hpC_same _ _ _ _
  have he' : earAt (hpU h (x + 1) 1 0) (x + 28) (x + 29) := ⟨he.1, by rw [hpC_ne (Or.inl (by omega))]; exact he.2.1, he.2.2.1, he.2.2.2⟩
  apply f_S_find_0
  refine ⟨⟨by omega, s.tag⟩, sp_wordOnTape s t (by omega) (fun nm pos v e => ?_) (fun nm v e => ?_)⟩
  · cases e
    have ok := tvW_ok nm.1 nm.2.1 nm.2.2.1
    have H := H1 nm
    unfold findA at H
    rw [if_neg (fun z => by have := al_cmp_eq.mp z; omega), s'.now_n, hT.streets_n]
    refine ⟨s'.tag, hT.tag, ⟨by omega, hT.streets_a.tag⟩, sp_placeOfN hT.streets_a b1 (by omega) (by omega) (fun v2 e => ?_)⟩
    have e2 := xI_inj e
    clear e
    rw [← e2] at H
    by_cases c : v2 = -1
    · rw [if_pos c, s'.now_n]
      rw [c, show ∀ r, pkP (-1) r = r from fun r => rfl] at H
      refine ⟨s'.tag, ⟨by omega, hT.tag⟩, sp_liveAlias a' hV (by omega) (fun v3 e => ?_)⟩
      have e3 := xI_inj e
      clear e
      rw [← e3] at H
      by_cases c3 : v3 = -1
      · rw [if_pos c3]
        rw [c3, show ∀ r, pkA w (-1) r = r from fun r => rfl] at H
        refine ⟨⟨by omega, s'.tag⟩, sp_meant s' a' hV he' ok (by omega) (fun g f v e => ?_)⟩
        cases e
        exact H g (f0.tr (f.P (fun r p z => Or.inr z))) (by rw [f.2.2 _ (by omega)]; exact x0)
      · rw [if_neg c3]
        obtain ⟨i, i1, i2, _⟩ := fst1_bd (fun z => c3 (by rw [e3]; exact z))
        have i1 : v3 = (i : Int) := by rw [e3]; exact i1
        have al := (hV.2.2.2.2.2.2.2 i (by omega)).1
        rw [i1, show ∀ r, pkA w (i : Int) r = 200 + w (950 + i) from fun r => by unfold pkA; rw [if_neg (by omega), Int.toNat_natCast]] at H
        rw [i1, s'.now_n, hT.aliasStreet_n, hT.aliasStreet_t, Int.toNat_natCast, h16 i (by omega), ai_add_eq (by omega) (by omega)]
        exact ⟨s'.tag, hT.tag, ⟨rfl, by omega, by show (i : Int) < 30; omega⟩, H _ f0 x0⟩
    · rw [if_neg c]
      obtain ⟨i, i1, i2, _⟩ := fst1_bd (fun z => c (by rw [e2]; exact z))
      have i1 : v2 = (i : Int) := by rw [e2]; exact i1
      rw [i1, show ∀ r, pkP (i : Int) r = 100 + (i : Int) from fun r => by unfold pkP; rw [if_neg (by omega)]] at H
      rw [i1, ai_add_eq (by omega) (by omega)]
      exact H _ f0 x0
  · cases e
    rw [if_pos (by decide)]
    exact H2 nm _ f0 x0
/-- years that a word is an alias -/
def fdW (w : Nat → Int) (W : Nat) : Nat → Nat → Int → Int
  | 0, _, y => y
  | j + 1, k, y => fdW w W j (k + 1) (if wordW w (650 + 10 * k) = W then max y (w (980 + k) + 1) else y)
def fadesA (w v : Nat → Int) : Int := pkD (mlW w v) (fdW w (wordW v 0) (w 8).toNat 0 (w 9))
theorem ml_place {w v : Nat → Int} (hV : V w) (ok : okName v 0) (h : plW w 180 (w 7) (wordW v 0) ≠ -1) : mlW w v ≠ -1 := by
  have v0 := hV.1.1
  have v1 := hV.1.2.1
  have v2 := hV.1.2.2.1
  have v3 := hV.1.2.2.2.1
  have v4 := hV.1.2.2.2.2.1
  have v5 := hV.1.2.2.2.2.2.1
  have v6 := hV.1.2.2.2.2.2.2.1
  have v7 := hV.1.2.2.2.2.2.2.2.1
  have v8 := hV.1.2.2.2.2.2.2.2.2.1
  have v9 := hV.1.2.2.2.2.2.2.2.2.2
  obtain ⟨i, i1, i2, i3⟩ := fst1_bd h
  have oki := hV.2.2.2.2.1 i (by omega)
  have e := keyV_of oki ok (of_decide_eq_true i3)
  have k1 : ksV w v (w 7).toNat 0 ≠ -1 := fun z => by
    have := fst1_none.mp z i (by omega) (by omega)
    exact of_decide_eq_false this e.symm
  rcases fst1_bd k1 with ⟨j, j1, _, _⟩
  have j2 : ksV w v (w 7).toNat 0 = (j : Int) := j1
  unfold mlW
  rw [j2]
  unfold pk3
  rw [if_neg (by omega)]
  omega
theorem sp_cfades {h : Hp} {x : Nat} {w : Nat → Int} (s : sAt h x) (a : TR h (x + 43) w) (hV : V w) (he : earAt h (x + 28) (x + 29)) {b : Nat → Nat} {n : Nat} (t : TPc h x b n) {d mc ms : Nat} {R : PR} (hd : 5 ≤ d) {o1 o2 o3 o4 : Option AV}
    (H1 : nmT b n → ∀ h', FrP (Sfd x) h h' → hpC h' (x + 1) 1 = 0 → R (some (xI (fadesA w (tvW b 0 n)))) h')
    (H2 : ¬ nmT b n → ∀ h', FrP (Sfd x) h h' → hpC h' (x + 1) 1 = 0 → R (some (xI (-1))) h') : Wp m_S_fades 0 [some (xR x), o1, o2, o3, o4] [] h d mc ms R := by
  have v0 := hV.1.1
  have v1 := hV.1.2.1
  have v2 := hV.1.2.2.1
  have v3 := hV.1.2.2.2.1
  have v4 := hV.1.2.2.2.2.1
  have v5 := hV.1.2.2.2.2.2.1
  have v6 := hV.1.2.2.2.2.2.2.1
  have v7 := hV.1.2.2.2.2.2.2.2.1
  have v8 := hV.1.2.2.2.2.2.2.2.2.1
  have v9 := hV.1.2.2.2.2.2.2.2.2.2
  have s' := TPz.s (v := 0) s
  have a' := TPz.TR (v := 0) a
  have hT := a'.1.1
  have b1 : NW (hpU h (x + 1) 1 0) (x + 43 + 7) w (w 7) 180 := a'.1.2.2.1
  have f0 : FrP (Sfd x) h (hpU h (x + 1) 1 0) := FrP.up (Or.inl ⟨rfl, rfl⟩)
  have x0 : hpC (hpU h (x + 1) 1 0) (x + 1) 1 = 0 := hpC_same _ _ _ _
  have he' : earAt (hpU h (x + 1) 1 0) (x + 28) (x + 29) := ⟨he.1, by rw [hpC_ne (Or.inl (by omega))]; exact he.2.1, he.2.2.1, he.2.2.2⟩
  apply f_S_fades_0
  refine ⟨⟨by omega, s.tag⟩, sp_wordOnTape s t (by omega) (fun nm pos v e => ?_) (fun nm v e => ?_)⟩
  · cases e
    have ok := tvW_ok nm.1 nm.2.1 nm.2.2.1
    have H := H1 nm
    unfold fadesA at H
    rw [if_neg (fun z => by have := al_cmp_eq.mp z; omega), s'.now_n, hT.streets_n]
    refine ⟨s'.tag, hT.tag, ⟨by omega, hT.streets_a.tag⟩, sp_placeOfN hT.streets_a b1 (by omega) (by omega) (fun v2 e => ?_)⟩
    have e2 := xI_inj e
    clear e
    by_cases c : v2 = -1
    · rw [if_pos c]
      refine ⟨⟨by omega, s'.tag⟩, sp_meant s' a' hV he' ok (by omega) (fun g f v3 e => ?_)⟩
      have e3 := xI_inj e
      clear e
      rw [← e3] at H
      have H := H g (f0.tr (f.P (fun r p z => Or.inr z))) (by rw [f.2.2 _ (by omega)]; exact x0)
      by_cases c3 : v3 = -1
      · rw [if_pos c3]
        rw [c3] at H
        have s := f.sAt s'
        have a := f.TR a'
        have hT := a.1.1
        have b3 : NW g (x + 43 + 13) w (w 8) 650 := a.1.2.2.2.2.1
        have h7 : hpC g (x + 43) 7 = w 9 := a.1.2.2.2.2.2.2.2
        rw [s.now_n, h7]
        refine ⟨s.tag, hT.tag, ?_⟩
        have L : ∀ (j i : Nat) (y : Int), ((i + j : Nat) : Int) = w 8 → R (some (xI (pkD (-1) (fdW w (wordW (tvW b 0 n) 0) j i y)))) g → Wp m_S_fades 48 [some (xR x), some (xL (wordW (tvW b 0 n) 0 : Int)), none, some (xI y), some (xI (i : Int))] [] g d mc ms R := by
          intro j
          induction j with
          | zero =>
            intro i y hi H
            simp only [fdW] at H
            apply f_S_fades_48
            rw [s.now_n, hT.aliases_n, b3.1, if_neg (by omega)]
            refine ⟨s.tag, hT.tag, hT.aliases_a.tag, ?_⟩
            unfold pkD at H
            rw [if_pos rfl] at H
            by_cases c5 : 999 < y
            · rw [if_pos c5]; rw [if_pos c5] at H; exact H
            · rw [if_neg c5]; rw [if_neg c5] at H; exact H
          | succ j ih =>
            intro i y hi H
            simp only [fdW] at H
            have al := (hV.2.2.2.2.2.2.2 i (by omega)).2
            apply f_S_fades_48
            rw [s.now_n, hT.aliases_n, b3.1, if_pos (by omega), hT.aliases_a.word_n, hT.aliases_a.word_t, hT.aliasLast_n, hT.aliasLast_t, Int.toNat_natCast, b3.2 i (by omega), a.2.2.2.2 i (by omega), ab_1 (by omega), ai_add_eq (by omega) (by omega)]
            refine ⟨s.tag, hT.tag, hT.aliases_a.tag, s.tag, hT.tag, hT.aliases_a.tag, ⟨rfl, by omega, by show (i : Int) < 30; omega⟩, ?_⟩
            by_cases c6 : wordW w (650 + 10 * i) = wordW (tvW b 0 n) 0
            · rw [if_pos (al_cmp_eq.mpr (by omega))]
              rw [if_pos c6] at H
              refine ⟨s.tag, hT.tag, ⟨rfl, by omega, by show (i : Int) < 30; omega⟩, by omega, ?_⟩
              rw [show (if y < w (980 + i) + 1 then w (980 + i) + 1 else y) = max y (w (980 + i) + 1) by split <;> omega]
              exact ih (i + 1) _ (by omega) H
            · rw [if_neg (fun z => c6 (by have := al_cmp_eq.mp z; omega))]
              rw [if_neg c6] at H
              exact ih (i + 1) _ (by omega) H
        exact L (w 8).toNat 0 (w 9) (by omega) H
      · rw [if_neg c3]
        unfold pkD at H
        rw [if_neg c3] at H
        exact H
    · rw [if_neg c]
      have H := H _ f0 x0
      unfold pkD at H
      rw [if_neg (ml_place hV ok (fun z => c (by rw [e2]; exact z)))] at H
      exact H
  · cases e
    rw [if_pos (by decide)]
    exact H2 nm _ f0 x0
/-! the reference -/
def SH (m : Nat) : Nat → Nat → Prop := fun r p => SM m r p ∨ (r = m ∧ (p = 5 ∨ p = 8))
theorem Shr_SH {m : Nat} {h h' : Hp} (f : FrP (Shr m) h h') : FrP (SH m) h h' := f.wk (fun r p z => by
  rcases z with ⟨z1, z2 | z2 | z2⟩ | z
  · exact Or.inr ⟨z1, Or.inl z2⟩
  · exact Or.inr ⟨z1, Or.inr z2⟩
  · exact Or.inl (Or.inl ⟨z1, Or.inl z2⟩)
  · exact Or.inl (Or.inr (Or.inl (by omega))))
theorem SM_SH {m : Nat} {h h' : Hp} (f : FrP (SM m) h h') : FrP (SH m) h h' := f.wk (fun r p z => Or.inl z)
theorem SM_5 {m : Nat} {h h' : Hp} (f : FrP (SM m) h h') : hpC h' m 5 = hpC h m 5 := f.2.2 _ _ (fun z => by rcases z with ⟨_, z⟩ | z | z <;> omega)
theorem atHand.sm {h h' : Hp} {m : Nat} {v : Nat → Int} (a : atHand h m v 0) {t : Nat} (ht : m + 7 ≤ t) (f : Fr (fun q => q = t) h h') : atHand h' m v 0 := ⟨by rw [f.2.2 _ (by omega)]; exact a.1, fun i hi => by rw [f.2.2 _ (by omega)]; exact a.2 i hi⟩
theorem sp_chTo {h : Hp} {m : Nat} {w : Nat → Int} (a : RD h m w) (hV : V w) {v : Nat → Int} (ok : okName v 0) (ah : atHand h m v 0) {i : Nat} (hi : (i : Int) < w 7) {d mc ms : Nat} {R : PR} (hd : 1 ≤ d) (H : ∀ h', Fr (fun q => q = m + 9) h h' → R (some (xI (chV w v i))) h') : Wp m_M_changesTo 0 [some (xR m), some (xI ((180 + 10 * i : Nat) : Int)), none, none, none, none, none, none, none] [] h d mc ms R := by
  have v0 := hV.1.1
  have v1 := hV.1.2.1
  have v2 := hV.1.2.2.1
  have v3 := hV.1.2.2.2.1
  have v4 := hV.1.2.2.2.2.1
  have v5 := hV.1.2.2.2.2.2.1
  have v6 := hV.1.2.2.2.2.2.2.1
  have v7 := hV.1.2.2.2.2.2.2.2.1
  have v8 := hV.1.2.2.2.2.2.2.2.2.1
  have v9 := hV.1.2.2.2.2.2.2.2.2.2
  have oki := hV.2.2.2.2.1 i hi
  have o10 := oki.spec.2.1
  refine sp_changesTo a.1 (by omega) (a.rLen (by omega) oki) ah.1 ok.spec.2.1 (fW v 0) (fW w (180 + 10 * i)) (fun q hq => by rw [ah.2 q hq]; exact (ok.f hq).1) (fun q hq => by rw [a.2 _ (by omega)]; exact (oki.f hq).1) hd (fun g f => H g f)
theorem sp_kA {h : Hp} {m : Nat} {w : Nat → Int} (a : RD h m w) (hV : V w) {v : Nat → Int} (ok : okName v 0) (ah : atHand h m v 0) {d mc ms : Nat} {R : PR} (hd : 1 ≤ d) (H : ∀ h', Fr (fun q => q = m + 7) h h' → (∀ i, i < 10 → hpC h' (m + 7) i = ((keyV w v).getD i 0 : Int)) → R (some (xI ((keyV w v).length : Int))) h') : Wp m_M_sounds 0 [some (xR m), some (xR (m + 7)), none, none, none, none, none] [] h d mc ms R :=
  sp_sounds (f := fW v 0) a.1 a.1.keyA_t (by omega) (by omega) (by omega) ah.1 ok.spec.2.1 (fun i hi => by rw [ah.2 i hi]; exact (ok.f hi).1) (fun i hi => (ok.f hi).2) (a.rules hV) hd H
theorem sp_mfind {h : Hp} {m : Nat} {w : Nat → Int} (a : RD h m w) (hV : V w) (ow : owM h m) {b : Nat → Nat} {n : Nat} (t : TPm h m b n) {d mc ms : Nat} {R : PR} (hd : 4 ≤ d) {o1 o2 o3 o4 : Option AV}
    (H1 : nmT b n → ∀ h', FrP (SH m) h h' → hpC h' m 5 = 0 → R (some (xI (findA w (tvW b 0 n)))) h')
    (H2 : ¬ nmT b n → ∀ h', FrP (SH m) h h' → hpC h' m 5 = 0 → R (some (xI (-1))) h') : Wp m_M_find 0 [some (xR m), o1, o2, o3, o4] [] h d mc ms R := by
  have v0 := hV.1.1
  have v1 := hV.1.2.1
  have v2 := hV.1.2.2.1
  have v3 := hV.1.2.2.2.1
  have v4 := hV.1.2.2.2.2.1
  have v5 := hV.1.2.2.2.2.2.1
  have v6 := hV.1.2.2.2.2.2.2.1
  have v7 := hV.1.2.2.2.2.2.2.2.1
  have v8 := hV.1.2.2.2.2.2.2.2.2.1
  have v9 := hV.1.2.2.2.2.2.2.2.2.2
  apply f_M_find_0
  refine ⟨⟨by omega, a.1.tag⟩, sp_hears a hV ow t (by omega) (fun nm g f x5 ah v e => ?_) (fun nm g f x5 v e => ?_)⟩
  · cases e
    have a := a.hr f
    have ok := tvW_ok nm.1 nm.2.1 nm.2.2.1
    have H : ∀ h', FrP (SM m) g h' → R (some (xI (findA w (tvW b 0 n)))) h' := fun h' f' => H1 nm h' ((Shr_SH f).tr (SM_SH f')) (by rw [SM_5 f']; exact x5)
    generalize tvW b 0 n = v at *
    rw [if_neg (by decide)]
    unfold findA at H
    have Ls : ∀ (j i : Nat) (bb l : Int) (g1 : Hp) (o2 o4 : Option AV), ((i + j : Nat) : Int) = w 7 → FrP (SM m) g g1 → (∀ q, q < 10 → hpC g1 (m + 7) q = ((keyV w v).getD q 0 : Int)) → (∀ h', FrP (SM m) g h' → R (some (xI (pk3 (ksV w v j i) (pk4 bb)))) h') → (bb = -1 ∨ (0 ≤ bb ∧ bb < 10)) → Wp m_M_find 174 [some (xR m), some (xI bb), o2, some (xI (i : Int)), o4] [] g1 d mc ms R := by
      intro j
      induction j with
      | zero =>
        intro i bb l g1 o2 o4 hi f1 kA H hb
        have a := a.fr f1
        have H := H g1 f1
        rw [show ksV w v 0 i = -1 from rfl, show ∀ r, pk3 (-1) r = r from fun r => rfl] at H
        unfold pk4 at H
        apply f_M_find_174
        rw [a.1.row_n, a.1.row_t, tn_7, a.2 7 (by omega), if_neg (by omega)]
        refine ⟨a.1.tag, ⟨rfl, by omega, by decide⟩, ?_⟩
        by_cases c : bb = -1
        · rw [if_pos c]; rw [if_pos c] at H; exact H
        · rw [if_neg c, ai_add_eq (by omega) (by omega)]; rw [if_neg c] at H; exact H
      | succ j ih =>
        intro i bb l g1 o2 o4 hi f1 kA H hb
        have a := a.fr f1
        have oki := hV.2.2.2.2.1 i (by omega)
        apply f_M_find_174
        rw [a.1.row_n, a.1.row_t, tn_7, a.2 7 (by omega), if_pos (by omega), am_10 (by omega), aa_180 (by omega), ab_1 (by omega), aa_300 (by omega), a.1.keyB_n]
        refine ⟨a.1.tag, ⟨rfl, by omega, by decide⟩, a.1.tag, ⟨by omega, a.1.tag⟩, sp_laysKey a hV (by omega) oki (Or.inr rfl) (by omega) (fun g2 f2 kB v1 e => ?_)⟩
        clear e
        have f2' : FrP (SM m) g1 g2 := f2.wk (fun r p z => by
          rcases z with (⟨z1, z2⟩ | z) | z
          · exact Or.inl ⟨z1, Or.inl z2⟩
          · exact Or.inr (Or.inl (by omega))
          · exact Or.inr (Or.inl (by omega)))
        have a2 := a.fr f2'
        have kA2 : ∀ q, q < 10 → hpC g2 (m + 7) q = ((keyV w v).getD q 0 : Int) := fun q hq => by
          rw [f2.2.2 _ _ (by rintro ((⟨z, -⟩ | z) | z) <;> omega)]; exact kA q hq
        rw [a2.1.keyA_n, a2.1.keyB_n]
        refine ⟨a2.1.tag, a2.1.tag, by omega, sp_areLike a2.1.keyA_t a2.1.keyB_t (keyV_len ok) (keyW_len oki) (fun c hc => (keyV_mem hV ok c hc).1) (fun c hc => (keyW_mem hV oki c hc).1) kA2 kB (fun v2 e => ?_)⟩
        cases e
        by_cases c : keyV w v = keyW w (180 + 10 * i)
        · rw [if_pos c, if_neg (by decide)]
          have H := H g2 (f1.tr f2')
          rw [show ksV w v (j + 1) i = (i : Int) by simp only [ksV, fst1, decide_eq_true_eq]; rw [if_pos c]] at H
          rw [show ∀ r, pk3 (i : Int) r = ((300 + i : Nat) : Int) from fun r => by unfold pk3; rw [if_neg (by omega)]; omega] at H
          exact H
        · rw [if_neg c, if_pos rfl]
          rw [show ksV w v (j + 1) i = ksV w v j (i + 1) by simp only [ksV, fst1, decide_eq_true_eq]; rw [if_neg c]] at H
          exact ih (i + 1) bb l g2 _ _ (by omega) (f1.tr f2') kA2 H hb
    have Lc : ∀ (j i : Nat) (bb l : Int) (g1 : Hp) (o4 : Option AV), ((i + j : Nat) : Int) = w 7 → FrP (SM m) g g1 → atHand g1 m v 0 → (∀ h', FrP (SM m) g h' → R (some (xI (pk3 (ksV w v (w 7).toNat 0) (pk4 (nfW (chV w v) j i bb l))))) h') → (bb = -1 ∨ (0 ≤ bb ∧ bb < 10)) → Wp m_M_find 118 [some (xR m), some (xI bb), some (xI l), some (xI (i : Int)), o4] [] g1 d mc ms R := by
      intro j
      induction j with
      | zero =>
        intro i bb l g1 o4 hi f1 ah H hb
        have a := a.fr f1
        simp only [nfW] at H
        apply f_M_find_118
        rw [a.1.row_n, a.1.row_t, tn_7, a.2 7 (by omega), if_neg (by omega), a.1.keyA_n]
        refine ⟨a.1.tag, ⟨rfl, by omega, by decide⟩, a.1.tag, ⟨by omega, a.1.tag⟩, sp_kA a hV ok ah (by omega) (fun g2 f2 kA v1 e => ?_)⟩
        exact Ls (w 7).toNat 0 bb l g2 _ _ (by omega) (f1.tr (Fr_SM (by omega) f2)) kA H hb
      | succ j ih =>
        intro i bb l g1 o4 hi f1 ah H hb
        have a := a.fr f1
        simp only [nfW] at H
        apply f_M_find_118
        rw [a.1.row_n, a.1.row_t, tn_7, a.2 7 (by omega), if_pos (by omega), am_10 (by omega), aa_180 (by omega), ab_1 (by omega)]
        refine ⟨a.1.tag, ⟨rfl, by omega, by decide⟩, ⟨by omega, a.1.tag⟩, sp_chTo a hV ok ah (by omega) (by omega) (fun g2 f2 v2 e => ?_)⟩
        have e2 := xI_inj e
        clear e
        rw [← e2] at H
        have f2' := f1.tr (Fr_SM (m := m) (by omega) f2)
        by_cases c : v2 < l
        · rw [if_pos c]; rw [if_pos c] at H
          exact ih (i + 1) _ _ g2 _ (by omega) f2' (ah.sm (by omega) f2) H (Or.inr (by omega))
        · rw [if_neg c]; rw [if_neg c] at H
          exact ih (i + 1) _ _ g2 _ (by omega) f2' (ah.sm (by omega) f2) H hb
    have La : ∀ (j i : Nat) (o2 o3 o4 : Option AV), ((i + j : Nat) : Int) = w 8 → (∀ h', FrP (SM m) g h' → R (some (xI (pkA w (laA w (wordW v 0) j i) (mlW w v)))) h') → Wp m_M_find 50 [some (xR m), some (xI (i : Int)), o2, o3, o4] [] g d mc ms R := by
      intro j
      induction j with
      | zero =>
        intro i o2 o3 o4 hi H
        rw [show laA w (wordW v 0) 0 i = -1 from rfl, show ∀ r, pkA w (-1) r = r from fun r => rfl] at H
        unfold mlW at H
        apply f_M_find_50
        rw [a.1.row_n, a.1.row_t, tn_8, a.2 8 (by omega), if_neg (by omega), tn_0, a.2 0 (by omega), ai_add_eq (by omega) (by omega)]
        refine ⟨a.1.tag, ⟨rfl, by omega, by decide⟩, a.1.tag, ⟨rfl, by omega, by decide⟩, ?_⟩
        exact Lc (w 7).toNat 0 (-1) (w 0 + 1) g _ (by omega) FrP.rf ah H (Or.inl rfl)
      | succ j ih =>
        intro i o2 o3 o4 hi H
        have al := (hV.2.2.2.2.2.2.2 i (by omega)).1
        have nx : ¬ (wordW w (650 + 10 * i) = wordW v 0 ∧ ¬ w (980 + i) < w 9) → ∀ o2 o3 o4 : Option AV, Wp m_M_find 50 [some (xR m), some (xI ((i + 1 : Nat) : Int)), o2, o3, o4] [] g d mc ms R := fun z o2 o3 o4 => by
          rw [show laA w (wordW v 0) (j + 1) i = laA w (wordW v 0) j (i + 1) by simp only [laA, fst1, decide_eq_true_eq]; rw [if_neg z]] at H
          exact ih (i + 1) _ _ _ (by omega) H
        apply f_M_find_50
        rw [a.1.row_n, a.1.row_t, tn_8, a.2 8 (by omega), if_pos (by omega), am_10 (by omega), aa_650 (by omega), aa_950 (by omega), ab_1 (by omega)]
        refine ⟨a.1.tag, ⟨rfl, by omega, by decide⟩, ⟨by omega, a.1.tag⟩, sp_mLive a (by omega) (fun v1 e => ?_)⟩
        cases e
        by_cases c : w (980 + i) < w 9
        · rw [if_pos c, if_pos rfl]; exact nx (fun z => z.2 c) _ _ _
        · rw [if_neg c, if_neg (by decide)]
          refine ⟨⟨by omega, a.1.tag⟩, sp_isWord a (by omega) (hV.2.2.2.2.2.1 i (by omega)) ok ah (fun v2 e => ?_)⟩
          cases e
          by_cases c2 : wordW w (650 + 10 * i) = wordW v 0
          · rw [if_pos c2, if_neg (by decide), a.1.row_n, a.1.row_t, Int.toNat_natCast, a.2 _ (by omega), ai_add_eq (by omega) (by omega)]
            have H := H g FrP.rf
            rw [show laA w (wordW v 0) (j + 1) i = (i : Int) by simp only [laA, fst1, decide_eq_true_eq]; rw [if_pos ⟨c2, c⟩]] at H
            rw [show ∀ r, pkA w (i : Int) r = 200 + w (950 + i) from fun r => by unfold pkA; rw [if_neg (by omega), Int.toNat_natCast]] at H
            exact ⟨a.1.tag, ⟨rfl, by omega, by show ((950 + i : Nat) : Int) < 24240; omega⟩, H⟩
          · rw [if_neg c2, if_pos rfl]; exact nx (fun z => c2 z.1) _ _ _
    have Lp : ∀ (j i : Nat) (o2 o3 o4 : Option AV), ((i + j : Nat) : Int) = w 7 → (∀ h', FrP (SM m) g h' → R (some (xI (pkP (fst1 (fun s => decide (wordW w (180 + 10 * s) = wordW v 0)) j i) (pkA w (laA w (wordW v 0) (w 8).toNat 0) (mlW w v))))) h') → Wp m_M_find 11 [some (xR m), some (xI (i : Int)), o2, o3, o4] [] g d mc ms R := by
      intro j
      induction j with
      | zero =>
        intro i o2 o3 o4 hi H
        rw [show fst1 (fun s => decide (wordW w (180 + 10 * s) = wordW v 0)) 0 i = -1 from rfl, show ∀ r, pkP (-1) r = r from fun r => rfl] at H
        apply f_M_find_11
        rw [a.1.row_n, a.1.row_t, tn_7, a.2 7 (by omega), if_neg (by omega)]
        exact ⟨a.1.tag, ⟨rfl, by omega, by decide⟩, La (w 8).toNat 0 _ _ _ (by omega) H⟩
      | succ j ih =>
        intro i o2 o3 o4 hi H
        apply f_M_find_11
        rw [a.1.row_n, a.1.row_t, tn_7, a.2 7 (by omega), if_pos (by omega), am_10 (by omega), aa_180 (by omega), ab_1 (by omega), aa_100 (by omega)]
        refine ⟨a.1.tag, ⟨rfl, by omega, by decide⟩, ⟨by omega, a.1.tag⟩, sp_isWord a (by omega) (hV.2.2.2.2.1 i (by omega)) ok ah (fun v2 e => ?_)⟩
        cases e
        by_cases c2 : wordW w (180 + 10 * i) = wordW v 0
        · rw [if_pos c2, if_neg (by decide)]
          have H := H g FrP.rf
          rw [show fst1 (fun s => decide (wordW w (180 + 10 * s) = wordW v 0)) (j + 1) i = (i : Int) by simp only [fst1, decide_eq_true_eq]; rw [if_pos c2]] at H
          rw [show ∀ r, pkP (i : Int) r = ((100 + i : Nat) : Int) from fun r => by unfold pkP; rw [if_neg (by omega)]; omega] at H
          exact H
        · rw [if_neg c2, if_pos rfl]
          rw [show fst1 (fun s => decide (wordW w (180 + 10 * s) = wordW v 0)) (j + 1) i = fst1 (fun s => decide (wordW w (180 + 10 * s) = wordW v 0)) j (i + 1) by simp only [fst1, decide_eq_true_eq]; rw [if_neg c2]] at H
          exact ih (i + 1) _ _ _ (by omega) H
    exact Lp (w 7).toNat 0 _ _ _ (by omega) H
  · cases e
    rw [if_pos rfl]
    exact H2 nm g (Shr_SH f) x5
theorem sp_isStreetMeant {h : Hp} {m : Nat} {w : Nat → Int} (a : RD h m w) (hV : V w) {v : Nat → Int} (ok : okName v 0) (ah : atHand h m v 0) {d mc ms : Nat} {R : PR} (hd : 3 ≤ d) {o1 : Option AV} (H1 : mlW w v ≠ -1 → ∀ h', FrP (SM m) h h' → R (some (xI 1)) h') (H0 : mlW w v = -1 → ∀ h', FrP (SM m) h h' → R (some (xI 0)) h') : Wp m_M_isStreetMeant 0 [some (xR m), o1] [] h d mc ms R := by
  have v0 := hV.1.1
  have v1 := hV.1.2.1
  have v2 := hV.1.2.2.1
  have v3 := hV.1.2.2.2.1
  have v4 := hV.1.2.2.2.2.1
  have v5 := hV.1.2.2.2.2.2.1
  have v6 := hV.1.2.2.2.2.2.2.1
  have v7 := hV.1.2.2.2.2.2.2.2.1
  have v8 := hV.1.2.2.2.2.2.2.2.2.1
  have v9 := hV.1.2.2.2.2.2.2.2.2.2
  have ks : ksV w v (w 7).toNat 0 = -1 ↔ ∀ i, i < (w 7).toNat → ¬ keyV w v = keyW w (180 + 10 * i) := by
    unfold ksV
    rw [fst1_none]
    exact ⟨fun z i hi => of_decide_eq_false (z i (by omega) (by omega)), fun z i _ hi => decide_eq_false (z i (by omega))⟩
  have nf := nfW_none (chV w v) (w 0 + 1) (w 7).toNat 0
  have ml : mlW w v = -1 ↔ (∀ i, i < (w 7).toNat → ¬ keyV w v = keyW w (180 + 10 * i)) ∧ ∀ i, i < (w 7).toNat → w 0 < chV w v i := by
    have b1 : ksV w v (w 7).toNat 0 = -1 ∨ 0 ≤ ksV w v (w 7).toNat 0 := by
      by_cases c : ksV w v (w 7).toNat 0 = -1
      · exact Or.inl c
      · obtain ⟨j, j1, _⟩ := fst1_bd c
        have : ksV w v (w 7).toNat 0 = (j : Int) := j1
        omega
    have b2 := nfW_bd (chV w v) (w 7).toNat 0 (-1) (w 0 + 1)
    unfold mlW
    rw [← ks]
    have nf' : nfW (chV w v) (w 7).toNat 0 (-1) (w 0 + 1) = -1 ↔ ∀ i, i < (w 7).toNat → w 0 < chV w v i := by
      rw [nf]
      exact ⟨fun z i hi => by have := z i (by omega) (by omega); omega, fun z i _ hi => by have := z i (by omega); omega⟩
    rw [← nf']
    generalize ksV w v (w 7).toNat 0 = A at *
    generalize nfW (chV w v) (w 7).toNat 0 (-1) (w 0 + 1) = B at *
    unfold pk3 pk4
    have b3 : B = -1 ∨ 0 ≤ B := by
      rcases b2 with z | ⟨t, z, _⟩
      · exact Or.inl z
      · omega
    clear nf nf' ks b2
    split
    · split <;> omega
    · omega
  apply f_M_isStreetMeant_0
  have Ls : ∀ (j i : Nat) (g1 : Hp), ((i + j : Nat) : Int) = w 7 → FrP (SM m) h g1 → (∀ q, q < 10 → hpC g1 (m + 7) q = ((keyV w v).getD q 0 : Int)) → (∀ i, i < (w 7).toNat → w 0 < chV w v i) → (∀ u, u < i → ¬ keyV w v = keyW w (180 + 10 * u)) → Wp m_M_isStreetMeant 53 [some (xR m), some (xI (i : Int))] [] g1 d mc ms R := by
    intro j
    induction j with
    | zero =>
      intro i g1 hi f1 kA z1 z2
      have a := a.fr f1
      apply f_M_isStreetMeant_53
      rw [a.1.row_n, a.1.row_t, tn_7, a.2 7 (by omega), if_neg (by omega)]
      exact ⟨a.1.tag, ⟨rfl, by omega, by decide⟩, by simp, H0 (ml.mpr ⟨fun u hu => z2 u (by omega), z1⟩) g1 f1⟩
    | succ j ih =>
      intro i g1 hi f1 kA z1 z2
      have a := a.fr f1
      have oki := hV.2.2.2.2.1 i (by omega)
      apply f_M_isStreetMeant_53
      rw [a.1.row_n, a.1.row_t, tn_7, a.2 7 (by omega), if_pos (by omega), am_10 (by omega), aa_180 (by omega), ab_1 (by omega), a.1.keyB_n]
      refine ⟨a.1.tag, ⟨rfl, by omega, by decide⟩, a.1.tag, ⟨by omega, a.1.tag⟩, sp_laysKey a hV (by omega) oki (Or.inr rfl) (by omega) (fun g2 f2 kB v1 e => ?_)⟩
      clear e
      have f2' : FrP (SM m) g1 g2 := f2.wk (fun r p z => by
        rcases z with (⟨z1, z2⟩ | z) | z
        · exact Or.inl ⟨z1, Or.inl z2⟩
        · exact Or.inr (Or.inl (by omega))
        · exact Or.inr (Or.inl (by omega)))
      have a2 := a.fr f2'
      have kA2 : ∀ q, q < 10 → hpC g2 (m + 7) q = ((keyV w v).getD q 0 : Int) := fun q hq => by
        rw [f2.2.2 _ _ (by rintro ((⟨z, -⟩ | z) | z) <;> omega)]; exact kA q hq
      rw [a2.1.keyA_n, a2.1.keyB_n]
      refine ⟨a2.1.tag, a2.1.tag, by omega, sp_areLike a2.1.keyA_t a2.1.keyB_t (keyV_len ok) (keyW_len oki) (fun c hc => (keyV_mem hV ok c hc).1) (fun c hc => (keyW_mem hV oki c hc).1) kA2 kB (fun v2 e => ?_)⟩
      cases e
      by_cases c : keyV w v = keyW w (180 + 10 * i)
      · rw [if_pos c, if_neg (by decide)]
        exact ⟨by simp, H1 (fun z => (ml.mp z).1 i (by omega) c) g2 (f1.tr f2')⟩
      · rw [if_neg c, if_pos rfl]
        refine ih (i + 1) g2 (by omega) (f1.tr f2') kA2 z1 (fun u hu => ?_)
        by_cases e : u = i
        · subst e; exact c
        · exact z2 u (by omega)
  have Lc : ∀ (j i : Nat) (g1 : Hp), ((i + j : Nat) : Int) = w 7 → FrP (SM m) h g1 → atHand g1 m v 0 → (∀ u, u < i → w 0 < chV w v u) → Wp m_M_isStreetMeant 2 [some (xR m), some (xI (i : Int))] [] g1 d mc ms R := by
    intro j
    induction j with
    | zero =>
      intro i g1 hi f1 ah z
      have a := a.fr f1
      apply f_M_isStreetMeant_2
      rw [a.1.row_n, a.1.row_t, tn_7, a.2 7 (by omega), if_neg (by omega), a.1.keyA_n]
      refine ⟨a.1.tag, ⟨rfl, by omega, by decide⟩, a.1.tag, ⟨by omega, a.1.tag⟩, sp_kA a hV ok ah (by omega) (fun g2 f2 kA v1 e => ?_)⟩
      exact Ls (w 7).toNat 0 g2 (by omega) (f1.tr (Fr_SM (by omega) f2)) kA (fun u hu => z u (by omega)) (fun u hu => by omega)
    | succ j ih =>
      intro i g1 hi f1 ah z
      have a := a.fr f1
      apply f_M_isStreetMeant_2
      rw [a.1.row_n, a.1.row_t, tn_7, a.2 7 (by omega), if_pos (by omega), am_10 (by omega), aa_180 (by omega), ab_1 (by omega)]
      refine ⟨a.1.tag, ⟨rfl, by omega, by decide⟩, ⟨by omega, a.1.tag⟩, sp_chTo a hV ok ah (by omega) (by omega) (fun g2 f2 v2 e => ?_)⟩
      have e2 := xI_inj e
      clear e
      have f2' := f1.tr (Fr_SM (m := m) (by omega) f2)
      have a2 := a.fr (Fr_SM (m := m) (by omega) f2)
      rw [a2.1.row_n, a2.1.row_t, tn_0, a2.2 0 (by omega)]
      refine ⟨a2.1.tag, ⟨rfl, by omega, by decide⟩, ?_⟩
      by_cases c : w 0 < v2
      · rw [if_pos c]
        refine ih (i + 1) g2 (by omega) f2' (ah.sm (by omega) f2) (fun u hu => ?_)
        by_cases e : u = i
        · subst e; omega
        · exact z u (by omega)
      · rw [if_neg c]
        exact ⟨by simp, H1 (fun y => by have := (ml.mp y).2 i (by omega); omega) g2 f2'⟩
  exact Lc (w 7).toNat 0 h (by omega) FrP.rf ah (fun u hu => by omega)
theorem sp_mfades {h : Hp} {m : Nat} {w : Nat → Int} (a : RD h m w) (hV : V w) (ow : owM h m) {b : Nat → Nat} {n : Nat} (t : TPm h m b n) {d mc ms : Nat} {R : PR} (hd : 4 ≤ d) {o1 o2 : Option AV}
    (H1 : nmT b n → ∀ h', FrP (SH m) h h' → hpC h' m 5 = 0 → R (some (xI (fadesA w (tvW b 0 n)))) h')
    (H2 : ¬ nmT b n → ∀ h', FrP (SH m) h h' → hpC h' m 5 = 0 → R (some (xI (-1))) h') : Wp m_M_fades 0 [some (xR m), o1, o2] [] h d mc ms R := by
  have v0 := hV.1.1
  have v1 := hV.1.2.1
  have v2 := hV.1.2.2.1
  have v3 := hV.1.2.2.2.1
  have v4 := hV.1.2.2.2.2.1
  have v5 := hV.1.2.2.2.2.2.1
  have v6 := hV.1.2.2.2.2.2.2.1
  have v7 := hV.1.2.2.2.2.2.2.2.1
  have v8 := hV.1.2.2.2.2.2.2.2.2.1
  have v9 := hV.1.2.2.2.2.2.2.2.2.2
  apply f_M_fades_0
  refine ⟨⟨by omega, a.1.tag⟩, sp_hears a hV ow t (by omega) (fun nm g f x5 ah v e => ?_) (fun nm g f x5 v e => ?_)⟩
  · cases e
    have a := a.hr f
    have ok := tvW_ok nm.1 nm.2.1 nm.2.2.1
    have H : ∀ h', FrP (SM m) g h' → R (some (xI (fadesA w (tvW b 0 n)))) h' := fun h' f' => H1 nm h' ((Shr_SH f).tr (SM_SH f')) (by rw [SM_5 f']; exact x5)
    generalize tvW b 0 n = v at *
    rw [if_neg (by decide), a.1.row_n, a.1.row_t, tn_9, a.2 9 (by omega)]
    refine ⟨a.1.tag, ⟨rfl, by omega, by decide⟩, ?_⟩
    unfold fadesA at H
    have L : ∀ (j i : Nat) (y : Int), ((i + j : Nat) : Int) = w 8 → w 9 ≤ y → (∀ h', FrP (SM m) g h' → R (some (xI (pkD (mlW w v) (fdW w (wordW v 0) j i y)))) h') → Wp m_M_fades 19 [some (xR m), some (xI y), some (xI (i : Int))] [] g d mc ms R := by
      intro j
      induction j with
      | zero =>
        intro i y hi hy H
        simp only [fdW] at H
        apply f_M_fades_19
        rw [a.1.row_n, a.1.row_t, tn_8, a.2 8 (by omega), if_neg (by omega)]
        refine ⟨a.1.tag, ⟨rfl, by omega, by decide⟩, ?_⟩
        by_cases c : 999 < y
        · rw [if_pos c]
          have H := H g FrP.rf
          rw [show ∀ k, pkD k y = -1 from fun k => by unfold pkD; rw [if_pos c]; split <;> rfl] at H
          exact H
        · rw [if_neg c]
          refine ⟨⟨by omega, a.1.tag⟩, sp_isStreetMeant a hV ok ah (by omega) (fun z g2 f2 v1 e => ?_) (fun z g2 f2 v1 e => ?_)⟩
          · cases e
            rw [if_neg (by decide)]
            have H := H g2 f2
            unfold pkD at H
            rw [if_neg z] at H; exact H
          · cases e
            rw [if_pos rfl]
            have H := H g2 f2
            unfold pkD at H
            rw [if_pos z, if_neg c] at H; exact H
      | succ j ih =>
        intro i y hi hy H
        simp only [fdW] at H
        have al := (hV.2.2.2.2.2.2.2 i (by omega)).2
        apply f_M_fades_19
        rw [a.1.row_n, a.1.row_t, tn_8, a.2 8 (by omega), if_pos (by omega), am_10 (by omega), aa_650 (by omega), aa_980 (by omega), ab_1 (by omega)]
        refine ⟨a.1.tag, ⟨rfl, by omega, by decide⟩, ⟨by omega, a.1.tag⟩, sp_mLive a (by omega) (fun v1 e => ?_)⟩
        cases e
        by_cases c : w (980 + i) < w 9
        · rw [if_pos c, if_pos rfl]
          rw [show (if wordW w (650 + 10 * i) = wordW v 0 then max y (w (980 + i) + 1) else y) = y by split <;> omega] at H
          exact ih (i + 1) y (by omega) hy H
        · rw [if_neg c, if_neg (by decide)]
          refine ⟨⟨by omega, a.1.tag⟩, sp_isWord a (by omega) (hV.2.2.2.2.2.1 i (by omega)) ok ah (fun v2 e => ?_)⟩
          cases e
          by_cases c2 : wordW w (650 + 10 * i) = wordW v 0
          · rw [if_pos c2, if_neg (by decide), a.1.row_n, a.1.row_t, Int.toNat_natCast, a.2 _ (by omega), ai_add_eq (by omega) (by omega)]
            rw [if_pos c2] at H
            refine ⟨a.1.tag, ⟨rfl, by omega, by show ((980 + i : Nat) : Int) < 24240; omega⟩, by omega, sp_greater (fun v3 e => ?_)⟩
            cases e
            exact ih (i + 1) _ (by omega) (by omega) H
          · rw [if_neg c2, if_pos rfl]
            rw [if_neg c2] at H
            exact ih (i + 1) y (by omega) hy H
    exact L (w 8).toNat 0 (w 9) (by omega) (Int.le_refl _) H
  · cases e
    rw [if_pos rfl]
    exact H2 nm g (Shr_SH f) x5

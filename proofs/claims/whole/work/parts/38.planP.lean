/-! ===== the plan: pure ===== -/
def tryK (f : Nat → Option (List Int)) (ok : Nat → Bool) : Nat → Nat → Option (List Int)
  | 0, _ => none
  | c + 1, k => if ok k then (match f k with | some l => some ((k : Int) :: l) | none => tryK f ok c (k + 1)) else tryK f ok c (k + 1)
/-- the first names for the streets of a set, from s on, j of them left -/
def nmP (may rv : Nat → Nat → Bool) (S pc : Nat) : Nat → Nat → (Nat → Bool) → Option (List Int)
  | 0, _, _ => some []
  | j + 1, s, B => if S.testBit s then tryK (fun k => nmP may rv S pc j (s + 1) (fun x => B x || rv k x)) (fun k => may s k && !B k) pc 0 else
      match nmP may rv S pc j (s + 1) B with
      | some l => some ((-1) :: l)
      | none => none
def vdP (may rv : Nat → Nat → Bool) (S pc : Nat) (j s : Nat) (B : Nat → Bool) (c : Nat → Nat) : Prop := ∀ t, s ≤ t → t < s + j → S.testBit t = true → (c t < pc ∧ may t (c t) = true ∧ B (c t) = false) ∧ ∀ t', s ≤ t' → t' < t → S.testBit t' = true → rv (c t') (c t) = false
theorem tryK_none {f : Nat → Option (List Int)} {ok : Nat → Bool} : ∀ c k, tryK f ok c k = none ↔ ∀ i, k ≤ i → i < k + c → ok i = true → f i = none
  | 0, k => by simp only [tryK, true_iff]; intro i h1 h2; omega
  | c + 1, k => by
    simp only [tryK]
    have ih := tryK_none (f := f) (ok := ok) c (k + 1)
    by_cases e : ok k = true
    · rw [if_pos e]
      cases hf : f k with
      | some l =>
        simp only [reduceCtorEq, false_iff]
        intro z
        have := z k (Nat.le_refl _) (by omega) e
        rw [hf] at this; cases this
      | none =>
        simp only [ih]
        constructor
        · intro z i h1 h2 h3
          rcases Nat.eq_or_lt_of_le h1 with q | q
          · subst q; exact hf
          · exact z i q (by omega) h3
        · intro z i h1 h2 h3; exact z i (by omega) (by omega) h3
    · rw [if_neg e, ih]
      constructor
      · intro z i h1 h2 h3
        rcases Nat.eq_or_lt_of_le h1 with q | q
        · subst q; exact absurd h3 e
        · exact z i q (by omega) h3
      · intro z i h1 h2 h3; exact z i (by omega) (by omega) h3
theorem vdP_in {may rv : Nat → Nat → Bool} {S pc j s : Nat} {B : Nat → Bool} {c : Nat → Nat} (hs : S.testBit s = true) : vdP may rv S pc (j + 1) s B c ↔ (c s < pc ∧ may s (c s) = true ∧ B (c s) = false) ∧ vdP may rv S pc j (s + 1) (fun x => B x || rv (c s) x) c := by
  constructor
  · intro h
    refine ⟨(h s (Nat.le_refl _) (by omega) hs).1, fun t h1 h2 h3 => ?_⟩
    obtain ⟨⟨q1, q2, q3⟩, q4⟩ := h t (by omega) (by omega) h3
    exact ⟨⟨q1, q2, by show (B (c t) || rv (c s) (c t)) = false; rw [q3, q4 s (Nat.le_refl _) (by omega) hs]; rfl⟩, fun t' g1 g2 g3 => q4 t' (by omega) g2 g3⟩
  · rintro ⟨h0, h⟩ t h1 h2 h3
    rcases Nat.eq_or_lt_of_le h1 with q | q
    · subst q; exact ⟨h0, fun t' g1 g2 _ => by omega⟩
    · obtain ⟨⟨q1, q2, q3⟩, q4⟩ := h t q (by omega) h3
      simp only [Bool.or_eq_false_iff] at q3
      refine ⟨⟨q1, q2, q3.1⟩, fun t' g1 g2 g3 => ?_⟩
      rcases Nat.eq_or_lt_of_le g1 with r | r
      · subst r; exact q3.2
      · exact q4 t' r g2 g3
theorem vdP_out {may rv : Nat → Nat → Bool} {S pc j s : Nat} {B : Nat → Bool} {c : Nat → Nat} (hs : ¬ S.testBit s = true) : vdP may rv S pc (j + 1) s B c ↔ vdP may rv S pc j (s + 1) B c := by
  constructor
  · intro h t h1 h2 h3
    obtain ⟨q1, q4⟩ := h t (by omega) (by omega) h3
    exact ⟨q1, fun t' g1 g2 g3 => q4 t' (by omega) g2 g3⟩
  · intro h t h1 h2 h3
    rcases Nat.eq_or_lt_of_le h1 with q | q
    · subst q; exact absurd h3 hs
    · obtain ⟨q1, q4⟩ := h t q (by omega) h3
      refine ⟨q1, fun t' g1 g2 g3 => ?_⟩
      rcases Nat.eq_or_lt_of_le g1 with r | r
      · subst r; exact absurd g3 hs
      · exact q4 t' r g2 g3
theorem nmP_none {may rv : Nat → Nat → Bool} {S pc : Nat} : ∀ j s B, nmP may rv S pc j s B = none ↔ ∀ c, ¬ vdP may rv S pc j s B c
  | 0, s, B => by
    simp only [nmP, reduceCtorEq, false_iff]
    intro z
    exact z (fun _ => 0) (fun t h1 h2 => by omega)
  | j + 1, s, B => by
    simp only [nmP]
    by_cases e : S.testBit s = true
    · rw [if_pos e, tryK_none]
      constructor
      · intro h c hc
        obtain ⟨⟨h1, h2, h3⟩, h4⟩ := (vdP_in e).mp hc
        have := h (c s) (by omega) (by omega) (by rw [h2, h3]; rfl)
        exact (nmP_none j (s + 1) _).mp this c h4
      · intro h k _ hk ok
        simp only [Bool.and_eq_true, Bool.not_eq_true'] at ok
        refine (nmP_none j (s + 1) _).mpr (fun c hc => ?_)
        refine h (fun t => if t = s then k else c t) ((vdP_in e).mpr ?_)
        simp only [if_true]
        refine ⟨⟨by omega, ok.1, ok.2⟩, fun t g1 g2 g3 => ?_⟩
        obtain ⟨q1, q4⟩ := hc t g1 g2 g3
        simp only [if_neg (show ¬ t = s by omega)]
        refine ⟨q1, fun t' r1 r2 r3 => ?_⟩
        rw [if_neg (show ¬ t' = s by omega)]
        exact q4 t' r1 r2 r3
    · rw [if_neg e]
      have ih := nmP_none (may := may) (rv := rv) (S := S) (pc := pc) j (s + 1) B
      cases hn : nmP may rv S pc j (s + 1) B with
      | none =>
        simp only [true_iff]
        intro c hc
        exact ih.mp hn c ((vdP_out e).mp hc)
      | some l =>
        simp only [reduceCtorEq, false_iff]
        intro z
        have := ih.mpr (fun c hc => z c ((vdP_out e).mpr hc))
        rw [hn] at this; cases this
theorem tryK_len {f : Nat → Option (List Int)} {ok : Nat → Bool} {j : Nat} (hf : ∀ k l, f k = some l → l.length = j) : ∀ c k l, tryK f ok c k = some l → l.length = j + 1
  | 0, k, l, h => by simp [tryK] at h
  | c + 1, k, l, h => by
    simp only [tryK] at h
    by_cases e : ok k = true
    · rw [if_pos e] at h
      cases hk : f k with
      | none => rw [hk] at h; exact tryK_len hf c (k + 1) l h
      | some q => rw [hk] at h; cases h; simp [hf k q hk]
    · rw [if_neg e] at h; exact tryK_len hf c (k + 1) l h
theorem nmP_len {may rv : Nat → Nat → Bool} {S pc : Nat} : ∀ j s B l, nmP may rv S pc j s B = some l → l.length = j
  | 0, s, B, l, h => by simp only [nmP] at h; cases h; rfl
  | j + 1, s, B, l, h => by
    simp only [nmP] at h
    by_cases e : S.testBit s = true
    · rw [if_pos e] at h
      exact tryK_len (fun k q hq => nmP_len j (s + 1) _ q hq) _ _ _ h
    · rw [if_neg e] at h
      cases hk : nmP may rv S pc j (s + 1) B with
      | none => rw [hk] at h; cases h
      | some q => rw [hk] at h; cases h; simp [nmP_len j (s + 1) B q hk]
theorem tryK_head {f : Nat → Option (List Int)} {ok : Nat → Bool} : ∀ c k l, tryK f ok c k = some l → ∃ i q, k ≤ i ∧ i < k + c ∧ ok i = true ∧ f i = some q ∧ l = (i : Int) :: q
  | 0, k, l, h => by simp [tryK] at h
  | c + 1, k, l, h => by
    simp only [tryK] at h
    by_cases e : ok k = true
    · rw [if_pos e] at h
      cases hk : f k with
      | none =>
        rw [hk] at h
        obtain ⟨i, q, h1, h2, h3⟩ := tryK_head c (k + 1) l h
        exact ⟨i, q, by omega, by omega, h3⟩
      | some q => rw [hk] at h; cases h; exact ⟨k, q, by omega, by omega, e, hk, rfl⟩
    · rw [if_neg e] at h
      obtain ⟨i, q, h1, h2, h3⟩ := tryK_head c (k + 1) l h
      exact ⟨i, q, by omega, by omega, h3⟩
theorem nmP_bd {may rv : Nat → Nat → Bool} {S pc : Nat} : ∀ j s B l, nmP may rv S pc j s B = some l → ∀ i, i < j → (S.testBit (s + i) = true → 0 ≤ l.getD i 0 ∧ l.getD i 0 < pc ∧ may (s + i) (l.getD i 0).toNat = true) ∧ (S.testBit (s + i) = false → l.getD i 0 = -1)
  | 0, s, B, l, h => fun i hi => by omega
  | j + 1, s, B, l, h => by
    simp only [nmP] at h
    by_cases e : S.testBit s = true
    · rw [if_pos e] at h
      obtain ⟨k, q, h1, h2, h3, h4, rfl⟩ := tryK_head _ _ _ h
      simp only [Bool.and_eq_true] at h3
      intro i hi
      cases i with
      | zero =>
        rw [Nat.add_zero, e]
        simp only [List.getD_cons_zero, Int.toNat_natCast]
        exact ⟨fun _ => ⟨by omega, by omega, h3.1⟩, fun z => by cases z⟩
      | succ i =>
        simp only [List.getD_cons_succ]
        rw [show s + (i + 1) = s + 1 + i by omega]
        exact nmP_bd j (s + 1) _ q h4 i (by omega)
    · rw [if_neg e] at h
      cases hk : nmP may rv S pc j (s + 1) B with
      | none => rw [hk] at h; cases h
      | some q =>
        rw [hk] at h; cases h
        intro i hi
        cases i with
        | zero =>
          rw [Nat.add_zero]
          simp only [List.getD_cons_zero]
          exact ⟨fun z => absurd z e, fun _ => trivial⟩
        | succ i =>
          simp only [List.getD_cons_succ]
          rw [show s + (i + 1) = s + 1 + i by omega]
          exact nmP_bd j (s + 1) B q hk i (by omega)
/-- streets of which no two outside the set clash; and none of the set could stay -/
def apP (cl : Nat → Nat → Bool) (n S : Nat) : Prop := ∀ s t, s < n → t < n → S.testBit s = false → S.testBit t = false → cl s t = false
def tiP (cl : Nat → Nat → Bool) (n S : Nat) : Prop := ∀ s, s < n → ((∃ t, t < n ∧ cl s t = true ∧ S.testBit t = false) ↔ S.testBit s = true)
theorem tiP_ap {cl : Nat → Nat → Bool} {n S : Nat} (h : tiP cl n S) : apP cl n S := by
  intro s t hs ht a b
  cases e : cl s t with
  | false => rfl
  | true => have := (h s hs).mp ⟨t, ht, e, b⟩; rw [a] at this; cases this
theorem clr_bit {S s0 : Nat} (h : S.testBit s0 = true) (t : Nat) : (S ^^^ 2 ^ s0).testBit t = (S.testBit t && !decide (t = s0)) := by
  rw [Nat.testBit_xor, Nat.testBit_two_pow]
  by_cases q : s0 = t
  · subst q; simp [h]
  · simp [q, show ¬ t = s0 from fun z => q z.symm]
theorem nkS_clr {kb kb' : Nat → Bool} {s0 : Nat} (h0 : kb s0 = true) (h : ∀ t, kb' t = (kb t && !decide (t = s0))) : ∀ j i, (s0 < i ∨ i + j ≤ s0 → nkS kb' j i = nkS kb j i) ∧ (i ≤ s0 → s0 < i + j → nkS kb' j i + 1 = nkS kb j i)
  | 0, i => ⟨fun _ => rfl, fun h1 h2 => by omega⟩
  | j + 1, i => by
    have ih := nkS_clr h0 h j (i + 1)
    simp only [nkS]
    constructor
    · intro z
      rw [h i, decide_eq_false (by omega), ih.1 (by omega)]; simp
    · intro h1 h2
      by_cases e : i = s0
      · subst e
        rw [h i, ih.1 (by omega), h0]; simp; omega
      · rw [h i, decide_eq_false e]
        have := ih.2 (by omega) (by omega)
        simp only [Bool.not_false, Bool.and_true]; omega
/-- one that could stay leaves the set -/
theorem ap_clr {cl : Nat → Nat → Bool} {n S : Nat} (sy : ∀ s t, cl s t = cl t s) (ir : ∀ s, cl s s = false) (ha : apP cl n S) (ht : ¬ tiP cl n S) : ∃ s0, s0 < n ∧ S.testBit s0 = true ∧ apP cl n (S ^^^ 2 ^ s0) := by
  apply Classical.byContradiction
  intro z
  apply ht
  intro s hs
  constructor
  · rintro ⟨t, h1, h2, h3⟩
    cases e : S.testBit s with
    | true => rfl
    | false => rw [ha s t hs h1 e h3] at h2; cases h2
  · intro hb
    apply Classical.byContradiction
    intro q
    apply z
    refine ⟨s, hs, hb, fun a b h1 h2 h3 h4 => ?_⟩
    rw [clr_bit hb] at h3 h4
    have key : ∀ c, c < n → (S.testBit c && !decide (c = s)) = false → c = s ∨ S.testBit c = false := by
      intro c _ hc
      by_cases e : c = s
      · exact Or.inl e
      · right; simpa [e] using hc
    have no : ∀ t, t < n → S.testBit t = false → cl s t = false := by
      intro t h5 h6
      cases e : cl s t with
      | false => rfl
      | true => exact absurd ⟨t, h5, e, h6⟩ q
    rcases key a h1 h3 with e1 | e1
    · rcases key b h2 h4 with e2 | e2
      · rw [e1, e2]; exact ir s
      · rw [e1]; exact no b h2 e2
    · rcases key b h2 h4 with e2 | e2
      · rw [e2, sy]; exact no a h1 e1
      · exact ha a b h1 h2 e1 e2
theorem nm_clr {may rv : Nat → Nat → Bool} {S pc n s0 : Nat} {B : Nat → Bool} (hb : S.testBit s0 = true) (h : nmP may rv S pc n 0 B ≠ none) : nmP may rv (S ^^^ 2 ^ s0) pc n 0 B ≠ none := by
  intro z
  apply h
  rw [nmP_none] at z ⊢
  intro c hc
  refine z c (fun t h1 h2 h3 => ?_)
  have up : ∀ t, (S ^^^ 2 ^ s0).testBit t = true → S.testBit t = true := by
    intro t ht
    rw [clr_bit hb] at ht
    simp only [Bool.and_eq_true] at ht
    exact ht.1
  obtain ⟨q1, q2⟩ := hc t h1 h2 (up t h3)
  exact ⟨q1, fun t' g1 g2 g3 => q2 t' g1 g2 (up t' g3)⟩
/-- the best of the sets that are such, by b, then by e, then the first -/
def beP (b e : Nat → Int) (c S : Nat) : Prop := b S < b c ∨ (b S = b c ∧ e S < e c)
theorem seP_uniq {b e : Nat → Int} {P1 P2 : Nat → Prop} {N : Nat} (h12 : ∀ S, S < N → P2 S → P1 S) (hm : ∀ S, S < N → P1 S → ¬ P2 S → ∃ S', S' < N ∧ P1 S' ∧ b S' < b S)
    {c1 c2 : Int} (h1 : (c1 = -1 ∧ ∀ S, S < N → ¬ P1 S) ∨ ∃ c : Nat, c1 = (c : Int) ∧ c < N ∧ P1 c ∧ ∀ S, S < N → P1 S → ¬ beP b e c S ∧ (b S = b c → e S = e c → c ≤ S))
    (h2 : (c2 = -1 ∧ ∀ S, S < N → ¬ P2 S) ∨ ∃ c : Nat, c2 = (c : Int) ∧ c < N ∧ P2 c ∧ ∀ S, S < N → P2 S → ¬ beP b e c S ∧ (b S = b c → e S = e c → c ≤ S)) : c1 = c2 := by
  rcases h1 with ⟨e1, q1⟩ | ⟨d1, e1, l1, p1, q1⟩
  · rcases h2 with ⟨e2, _⟩ | ⟨d2, e2, l2, p2, _⟩
    · omega
    · exact absurd (h12 d2 l2 p2) (q1 d2 l2)
  · have p21 : P2 d1 := by
      apply Classical.byContradiction
      intro z
      obtain ⟨S', g1, g2, g3⟩ := hm d1 l1 p1 z
      exact (q1 S' g1 g2).1 (Or.inl g3)
    rcases h2 with ⟨e2, q2⟩ | ⟨d2, e2, l2, p2, q2⟩
    · exact absurd p21 (q2 d1 l1)
    · have r1 := q1 d2 l2 (h12 d2 l2 p2)
      have r2 := q2 d1 l1 p21
      have eb : b d1 = b d2 := by
        rcases Int.lt_trichotomy (b d1) (b d2) with z | z | z
        · exact absurd (Or.inl z) r2.1
        · exact z
        · exact absurd (Or.inl z) r1.1
      have ee : e d1 = e d2 := by
        rcases Int.lt_trichotomy (e d1) (e d2) with z | z | z
        · exact absurd (Or.inr ⟨eb, z⟩) r2.1
        · exact z
        · exact absurd (Or.inr ⟨eb.symm, z⟩) r1.1
      have a1 := r1.2 eb.symm ee.symm
      have a2 := r2.2 eb ee
      omega
/-- the loop's state: the best of those below N -/
def seP (b e : Nat → Int) (P : Nat → Prop) (N : Nat) (c : Int) : Prop := (c = -1 ∧ ∀ S, S < N → ¬ P S) ∨ ∃ q : Nat, c = (q : Int) ∧ q < N ∧ P q ∧ ∀ S, S < N → P S → ¬ beP b e q S ∧ (b S = b q → e S = e q → q ≤ S)
theorem seP_skip {b e : Nat → Int} {P : Nat → Prop} {N : Nat} {c : Int} (h : seP b e P N c) (hs : ¬ P N ∨ ∃ q : Nat, c = (q : Int) ∧ ¬ beP b e q N) : seP b e P (N + 1) c := by
  rcases h with ⟨h1, h2⟩ | ⟨q, h1, h2, h3, h4⟩
  · rcases hs with hs | ⟨q, e1, _⟩
    · refine Or.inl ⟨h1, fun S hS z => ?_⟩
      rcases Nat.lt_or_ge S N with g | g
      · exact h2 S g z
      · rw [show S = N by omega] at z; exact hs z
    · omega
  · refine Or.inr ⟨q, h1, by omega, h3, fun S hS z => ?_⟩
    rcases Nat.lt_or_ge S N with g | g
    · exact h4 S g z
    · have g : S = N := by omega
      subst g
      rcases hs with hs | ⟨q', e1, hs⟩
      · exact absurd z hs
      · rw [show q' = q by omega] at hs
        exact ⟨hs, fun _ _ => by omega⟩
theorem seP_take {b e : Nat → Int} {P : Nat → Prop} {N : Nat} {c : Int} (h : seP b e P N c) (hP : P N) (hs : c = -1 ∨ ∃ q : Nat, c = (q : Int) ∧ beP b e q N) : seP b e P (N + 1) (N : Int) := by
  refine Or.inr ⟨N, rfl, by omega, hP, fun S hS z => ?_⟩
  rcases Nat.lt_or_ge S N with g | g
  · rcases h with ⟨h1, h2⟩ | ⟨q, h1, h2, h3, h4⟩
    · exact absurd z (h2 S g)
    · rcases hs with hs | ⟨q', e1, hs⟩
      · omega
      · rw [show q' = q by omega] at hs
        have r := (h4 S g z).1
        unfold beP at *
        constructor
        · intro w; apply r; omega
        · intro e1 e2; exfalso; apply r; omega
  · have g : S = N := by omega
    subst g
    exact ⟨fun w => by unfold beP at w; omega, fun _ _ => Nat.le_refl _⟩

/-! ===== Word.isWithin, Ear.distance ===== -/
theorem shr5 {a : Nat} (h : a < 9223372036854775808) : al_shr (a : Int) (5 : Int) = ((a / 32 : Nat) : Int) := by
  have := al_shr_nat (x := a) (k := 5) h (by decide)
  rw [Nat.shiftRight_eq_div_pow] at this
  exact this
theorem and31 {a : Nat} (h : a < 9223372036854775808) : al_and (a : Int) ((31 : Nat) : Int) = ((a % 32 : Nat) : Int) := by
  rw [al_and_nat h (by decide)]
  have := Nat.and_two_pow_sub_one_eq_mod a 5
  simp at this
  rw [this]
theorem div32_lt {a j : Nat} (h : a < 32 ^ (j + 1)) : a / 32 < 32 ^ j := by
  rw [Nat.pow_succ] at h
  exact Nat.div_lt_of_lt_mul (by omega)
theorem isL_pos {a m : Nat} (h : isL a m) (hz : a % 32 ≠ 0) : 0 < m := by
  rcases m with _ | m
  · have := h.2.2 0 (by omega); rw [wl_zero] at this; exact absurd this hz
  · omega
theorem isL_nil {a m : Nat} (h : isL a m) (hz : a % 32 = 0) : m = 0 := by
  rcases m with _ | m
  · rfl
  · have := h.2.1 0 (by omega); rw [wl_zero] at this; exact absurd hz this
theorem lv_strip {a b m n : Nat} (h1 : isL a m) (h2 : isL b n) (e : a % 32 = b % 32) : lv (wl a) (wl b) m n = lv (wl (a / 32)) (wl (b / 32)) (m - 1) (n - 1) := by
  by_cases hz : a % 32 = 0
  · rw [isL_nil h1 hz, isL_nil h2 (by omega)]; rfl
  · obtain ⟨m', rfl⟩ : ∃ m', m = m' + 1 := ⟨m - 1, by have := isL_pos h1 hz; omega⟩
    obtain ⟨n', rfl⟩ : ∃ n', n = n' + 1 := ⟨n - 1, by have := isL_pos h2 (by omega); omega⟩
    rw [lv_skip (by rw [wl_zero, wl_zero]; exact e), sh_wl, sh_wl]
    rfl
theorem lv_three {a b m n k : Nat} (h1 : isL a m) (h2 : isL b n) (e : a % 32 ≠ b % 32) : lv (wl a) (wl b) m n ≤ k + 1 ↔ (lv (wl (a / 32)) (wl (b / 32)) (m - 1) (n - 1) ≤ k ∨ lv (wl (a / 32)) (wl b) (m - 1) n ≤ k ∨ lv (wl a) (wl (b / 32)) m (n - 1) ≤ k) := by
  rcases m with _ | m
  · rcases n with _ | n
    · have e1 := h1.2.2 0 (by omega)
      have e2 := h2.2.2 0 (by omega)
      rw [wl_zero] at e1 e2
      omega
    · simp only [lv_0, Nat.zero_sub, Nat.add_sub_cancel]; omega
  · rcases n with _ | n
    · simp only [lv_s0, Nat.zero_sub, Nat.add_sub_cancel]; omega
    · rw [lv_front, if_neg (by rw [wl_zero, wl_zero]; exact e), sh_wl, sh_wl, Nat.add_sub_cancel, Nat.add_sub_cancel]
      omega
def b01 (p : Prop) (_ : Decidable p) : Int := if p then 1 else 0
theorem sp_isWithin : ∀ (k : Nat), k ≤ 100 → ∀ {w v m n : Nat}, w < 32 ^ 10 → v < 32 ^ 10 → isL w m → isL v n → ∀ {h : Hp} {d mc ms : Nat}, k ≤ d → ∀ {o5 o6 o7 o8 o9 o10 o11 o12 : Option AV} {R : PR}, R (some (xI (if lv (wl w) (wl v) m n ≤ k then 1 else 0))) h →
    Wp m_Word_isWithin 0 [some (xL (w : Int)), none, some (xL (v : Int)), none, some (xI (k : Int)), o5, o6, o7, o8, o9, o10, o11, o12] [] h d mc ms R := by
  intro k
  induction k with
  | zero =>
    intro _ w v m n hw hv h1 h2 h d mc ms hd o5 o6 o7 o8 o9 o10 o11 o12 R H
    apply f_Word_isWithin_0
    have T : ∀ (a b m n : Nat) (o9 : Option AV), a < 32 ^ 10 → b < 32 ^ 10 → isL a m → isL b n → (a = b ∨ a % 32 ≠ b % 32) → R (some (xI (if lv (wl a) (wl b) m n ≤ 0 then 1 else 0))) h → Wp m_Word_isWithin 50 [some (xL (w : Int)), none, some (xL (v : Int)), none, some (xI ((0 : Nat) : Int)), some (xL (a : Int)), none, some (xL (b : Int)), none, o9, o10, o11, o12] [] h d mc ms R := by
      intro a b m n o9 ha hb h1 h2 he H
      apply f_Word_isWithin_50
      by_cases e : a = b
      · rw [if_pos (al_cmp_eq.mpr (by omega)), if_pos (al_cmp_eq.mpr (by omega))]
        rw [if_pos (by rw [(lv_word ha hb h1 h2).mpr e]; omega)] at H
        exact ⟨Or.inr rfl, H⟩
      · have e' : ¬ al_cmp (a : Int) (b : Int) = 0 := fun z => e (by have := al_cmp_eq.mp z; omega)
        rw [if_neg e', if_neg (by omega), if_neg e']
        rw [if_neg (fun z => e ((lv_word ha hb h1 h2).mp (by omega)))] at H
        exact ⟨Or.inl rfl, H⟩
    have L : ∀ (j i a b m n : Nat), i + j = 10 → a < 32 ^ j → b < 32 ^ j → isL a m → isL b n → R (some (xI (if lv (wl a) (wl b) m n ≤ 0 then 1 else 0))) h → Wp m_Word_isWithin 9 [some (xL (w : Int)), none, some (xL (v : Int)), none, some (xI ((0 : Nat) : Int)), some (xL (a : Int)), none, some (xL (b : Int)), none, some (xI (i : Int)), o10, o11, o12] [] h d mc ms R := by
      intro j
      induction j with
      | zero =>
        intro i a b m n hi ha hb h1 h2 H
        apply f_Word_isWithin_9
        rw [if_neg (by omega)]
        exact T a b m n _ (Nat.lt_trans ha (by decide)) (Nat.lt_trans hb (by decide)) h1 h2 (Or.inl (by simp at ha hb; omega)) H
      | succ j ih =>
        intro i a b m n hi ha hb h1 h2 H
        have ha10 : a < 32 ^ 10 := Nat.lt_of_lt_of_le ha (Nat.pow_le_pow_right (by decide) (by omega))
        have hb10 : b < 32 ^ 10 := Nat.lt_of_lt_of_le hb (Nat.pow_le_pow_right (by decide) (by omega))
        apply f_Word_isWithin_9
        rw [if_pos (by omega), and31 (lt50 ha10), and31 (lt50 hb10)]
        by_cases e : a % 32 = b % 32
        · rw [if_pos (al_cmp_eq.mpr (by omega)), shr5 (lt50 ha10), shr5 (lt50 hb10), ai_add_eq (by omega) (by omega)]
          exact ih (i + 1) _ _ (m - 1) (n - 1) (by omega) (div32_lt ha) (div32_lt hb) h1.tail h2.tail (by rw [← lv_strip h1 h2 e]; exact H)
        · rw [if_neg (fun z => e (by have := al_cmp_eq.mp z; omega))]
          exact T a b m n _ ha10 hb10 h1 h2 (Or.inr e) H
    exact L 10 0 w v m n rfl hw hv h1 h2 H
  | succ k IH =>
    intro hk w v m n hw hv h1 h2 h d mc ms hd o5 o6 o7 o8 o9 o10 o11 o12 R H
    apply f_Word_isWithin_0
    have T : ∀ (a b m n : Nat) (o9 : Option AV), a < 32 ^ 10 → b < 32 ^ 10 → isL a m → isL b n → (a = b ∨ a % 32 ≠ b % 32) → R (some (xI (if lv (wl a) (wl b) m n ≤ k + 1 then 1 else 0))) h → Wp m_Word_isWithin 50 [some (xL (w : Int)), none, some (xL (v : Int)), none, some (xI ((k + 1 : Nat) : Int)), some (xL (a : Int)), none, some (xL (b : Int)), none, o9, o10, o11, o12] [] h d mc ms R := by
      intro a b m n o9 ha hb h1 h2 he H
      apply f_Word_isWithin_50
      by_cases e : a = b
      · rw [if_pos (al_cmp_eq.mpr (by omega)), if_pos (al_cmp_eq.mpr (by omega))]
        rw [if_pos (by rw [(lv_word ha hb h1 h2).mpr e]; omega)] at H
        exact ⟨Or.inr rfl, H⟩
      · have e' : ¬ al_cmp (a : Int) (b : Int) = 0 := fun z => e (by have := al_cmp_eq.mp z; omega)
        have ed : a % 32 ≠ b % 32 := he.resolve_left e
        have ha' : a / 32 < 32 ^ 10 := Nat.lt_of_le_of_lt (Nat.div_le_self _ _) ha
        have hb' : b / 32 < 32 ^ 10 := Nat.lt_of_le_of_lt (Nat.div_le_self _ _) hb
        have es : ai_sub ((k + 1 : Nat) : Int) 1 = (k : Int) := by rw [ai_sub_eq (by omega) (by omega)]; omega
        rw [if_neg e', if_pos (by omega), es, shr5 (lt50 ha), shr5 (lt50 hb)]
        have h3 := lv_three (k := k) h1 h2 ed
        refine ⟨by omega, IH (by omega) ha' hb' h1.tail h2.tail (by omega) (fun v1 e1 => ?_)⟩
        cases e1
        by_cases c1 : lv (wl (a / 32)) (wl (b / 32)) (m - 1) (n - 1) ≤ k
        · rw [if_pos c1, if_neg (by decide)]
          rw [if_pos (h3.mpr (Or.inl c1))] at H
          exact ⟨Or.inr rfl, H⟩
        · rw [if_neg c1, if_pos rfl]
          refine ⟨by omega, IH (by omega) ha' hb h1.tail h2 (by omega) (fun v1 e1 => ?_)⟩
          cases e1
          by_cases c2 : lv (wl (a / 32)) (wl b) (m - 1) n ≤ k
          · rw [if_pos c2, if_neg (by decide)]
            rw [if_pos (h3.mpr (Or.inr (Or.inl c2)))] at H
            exact ⟨Or.inr rfl, H⟩
          · rw [if_neg c2, if_pos rfl]
            refine ⟨by omega, IH (by omega) ha hb' h1 h2.tail (by omega) (fun v1 e1 => ?_)⟩
            cases e1
            by_cases c3 : lv (wl a) (wl (b / 32)) m (n - 1) ≤ k
            · rw [if_pos c3, if_neg (by decide)]
              rw [if_pos (h3.mpr (Or.inr (Or.inr c3)))] at H
              exact ⟨Or.inr rfl, H⟩
            · rw [if_neg c3, if_pos rfl]
              rw [if_neg (fun z => by rcases h3.mp z with q | q | q <;> contradiction)] at H
              exact ⟨Or.inl rfl, H⟩
    have L : ∀ (j i a b m n : Nat), i + j = 10 → a < 32 ^ j → b < 32 ^ j → isL a m → isL b n → R (some (xI (if lv (wl a) (wl b) m n ≤ k + 1 then 1 else 0))) h → Wp m_Word_isWithin 9 [some (xL (w : Int)), none, some (xL (v : Int)), none, some (xI ((k + 1 : Nat) : Int)), some (xL (a : Int)), none, some (xL (b : Int)), none, some (xI (i : Int)), o10, o11, o12] [] h d mc ms R := by
      intro j
      induction j with
      | zero =>
        intro i a b m n hi ha hb h1 h2 H
        apply f_Word_isWithin_9
        rw [if_neg (by omega)]
        exact T a b m n _ (Nat.lt_trans ha (by decide)) (Nat.lt_trans hb (by decide)) h1 h2 (Or.inl (by simp at ha hb; omega)) H
      | succ j ih =>
        intro i a b m n hi ha hb h1 h2 H
        have ha10 : a < 32 ^ 10 := Nat.lt_of_lt_of_le ha (Nat.pow_le_pow_right (by decide) (by omega))
        have hb10 : b < 32 ^ 10 := Nat.lt_of_lt_of_le hb (Nat.pow_le_pow_right (by decide) (by omega))
        apply f_Word_isWithin_9
        rw [if_pos (by omega), and31 (lt50 ha10), and31 (lt50 hb10)]
        by_cases e : a % 32 = b % 32
        · rw [if_pos (al_cmp_eq.mpr (by omega)), shr5 (lt50 ha10), shr5 (lt50 hb10), ai_add_eq (by omega) (by omega)]
          exact ih (i + 1) _ _ (m - 1) (n - 1) (by omega) (div32_lt ha) (div32_lt hb) h1.tail h2.tail (by rw [← lv_strip h1 h2 e]; exact H)
        · rw [if_neg (fun z => e (by have := al_cmp_eq.mp z; omega))]
          exact T a b m n _ ha10 hb10 h1 h2 (Or.inr e) H
    exact L 10 0 w v m n rfl hw hv h1 h2 H
/-- the ear: its object, its row -/
def earAt (h : Hp) (e r : Nat) : Prop := (hpT h e).1 = 1 ∧ hpC h e 0 = (r : Int) ∧ hpT h r = (20, 11) ∧ e ≠ r
theorem earAt.fr {h h' : Hp} {e r : Nat} {S : Nat → Prop} (a : earAt h e r) (f : Fr S h h') (hS : ¬ S e) : earAt h' e r := ⟨by rw [f.2.1]; exact a.1, by rw [f.2.2 e hS]; exact a.2.1, by rw [f.2.1]; exact a.2.2.1, a.2.2.2⟩
theorem min_ite (x y : Int) : (if y < x then y else x) = min x y := by
  rw [Int.min_def]; split <;> split <;> omega
theorem sp_distance {w v m n e r : Nat} (hw : w < 32 ^ 10) (hv : v < 32 ^ 10) (h1 : isLen w m) (h2 : isLen v n) {h : Hp} {d mc ms : Nat} (hd : 2 ≤ d) (he : earAt h e r) {R : PR} (H : ∀ h', Fr (fun q => q = r) h h' → R (some (xI (lv (wl w) (wl v) m n : Int))) h') :
    Wp m_Ear_distance 0 [some (xR e), some (xL (w : Int)), none, some (xL (v : Int)), none, none, none, none, none, none, none, none, none] [] h d mc ms R := by
  have hm := h1.1
  have hn := h2.1
  apply f_Ear_distance_0
  refine ⟨by omega, sp_lengthOf (lt50 hv) h2 (by omega) (fun v1 e1 => ?_)⟩
  cases e1
  refine ⟨by omega, sp_lengthOf (lt50 hw) h1 (by omega) (fun v1 e1 => ?_)⟩
  cases e1
  -- the inner loop
  have I : ∀ (j k i : Nat) (g : Hp) (o11 o12 : Option AV), k + j = n → i < m → Fr (fun q => q = r) h g → (∀ q, q ≤ k → hpC g r q = (lv (wl w) (wl v) (i + 1) q : Int)) → (∀ q, k < q → q ≤ n → hpC g r q = (lv (wl w) (wl v) i q : Int)) →
      (∀ (g' : Hp) (a b c d' f : Option AV), Fr (fun q => q = r) h g' → (∀ q, q ≤ n → hpC g' r q = (lv (wl w) (wl v) (i + 1) q : Int)) → Wp m_Ear_distance 40 [some (xR e), some (xL (w : Int)), none, some (xL (v : Int)), none, some (xI (n : Int)), some (xI (m : Int)), some (xI ((i + 1 + 1 : Nat) : Int)), a, b, c, d', f] [] g' d mc ms R) →
      Wp m_Ear_distance 76 [some (xR e), some (xL (w : Int)), none, some (xL (v : Int)), none, some (xI (n : Int)), some (xI (m : Int)), some (xI ((i + 1 : Nat) : Int)), some (xI (wl w i : Int)), some (xI (lv (wl w) (wl v) i k : Int)), some (xI ((k + 1 : Nat) : Int)), o11, o12] [] g d mc ms R := by
    intro j
    induction j with
    | zero =>
      intro k i g o11 o12 hk hi hF hlo hhi K
      apply f_Ear_distance_76
      rw [if_pos (by omega), ai_add_eq (by omega) (by omega)]
      exact K g _ _ _ _ _ hF (fun q hq => hlo q (by omega))
    | succ j ih =>
      intro k i g o11 o12 hk hi hF hlo hhi K
      have hg : earAt g e r := he.fr hF he.2.2.2
      obtain ⟨t1, t2, t3, t4⟩ := hg
      have tr : Int.toNat (hpC g e 0) = r := by rw [t2]; simp
      apply f_Ear_distance_76
      rw [if_neg (by omega), tr, t3]
      refine ⟨t1, ⟨rfl, by omega, by show ((k + 1 : Nat) : Int) < 11; omega⟩, by omega, ?_⟩
      rw [show ai_sub ((k + 1 : Nat) : Int) 1 = (k : Int) by rw [ai_sub_eq (by omega) (by omega)]; omega]
      refine sp_letterAt (lt50 hv) (fun v1 e1 => ?_)
      cases e1
      rw [lA_nat (by omega)]
      simp only [Int.toNat_natCast, tr, t3, t1, min_ite]
      rw [hlo k (Nat.le_refl _), hhi (k + 1) (by omega) (by omega)]
      have bnd : ∀ a b, lv (wl w) (wl v) a b ≤ a + b := by
        intro a
        induction a with
        | zero => intro b; rw [lv_0]; omega
        | succ a iha =>
          intro b
          induction b with
          | zero => rw [lv_s0]; omega
          | succ b ihb => rw [lv_ss]; have := iha (b + 1); omega
      have b1 := bnd i k
      have b2 := bnd i (k + 1)
      have b3 := bnd (i + 1) k
      have nxt : ∀ (x : Int) (o11 o12 : Option AV), x = (lv (wl w) (wl v) (i + 1) (k + 1) : Int) → Wp m_Ear_distance 76 [some (xR e), some (xL (w : Int)), none, some (xL (v : Int)), none, some (xI (n : Int)), some (xI (m : Int)), some (xI ((i + 1 : Nat) : Int)), some (xI (wl w i : Int)), some (xI (lv (wl w) (wl v) i (k + 1) : Int)), some (xI (ai_add ((k + 1 : Nat) : Int) 1)), o11, o12] [] (hpU g r (k + 1) x) d mc ms R := by
        intro x o11 o12 hx
        rw [ai_add_eq (by omega) (by omega)]
        refine ih (k + 1) i _ _ _ (by omega) hi (hF.tr (Fr.up rfl)) (fun q hq => ?_) (fun q h1 h2 => ?_) K
        · by_cases eq : q = k + 1
          · subst eq; rw [hpC_same, hx]
          · rw [hpC_ne (Or.inr eq)]; exact hlo q (by omega)
        · rw [hpC_ne (Or.inr (by omega))]; exact hhi q (by omega) h2
      by_cases c : (wl w i : Int) = (wl v k : Int)
      · rw [if_pos c]
        refine ⟨trivial, trivial, ⟨trivial, by omega, by omega⟩, by omega, by omega, ⟨trivial, by omega, by omega⟩, fun g1 e1 => ?_⟩
        subst e1
        refine nxt _ _ _ ?_
        rw [lv_ss, if_pos (by omega), ai_add_eq (by omega) (by omega)]
        omega
      · rw [if_neg c]
        refine ⟨trivial, trivial, ⟨trivial, by omega, by omega⟩, by omega, by omega, ⟨trivial, by omega, by omega⟩, fun g1 e1 => ?_⟩
        subst e1
        refine nxt _ _ _ ?_
        rw [lv_ss, if_neg (by omega), ai_add_eq (by omega) (by omega), ai_add_eq (by omega) (by omega)]
        omega
  -- the outer loop
  have O : ∀ (j i : Nat) (g : Hp) (o8 o9 o10 o11 o12 : Option AV), i + j = m → Fr (fun q => q = r) h g → (∀ q, q ≤ n → hpC g r q = (lv (wl w) (wl v) i q : Int)) →
      Wp m_Ear_distance 40 [some (xR e), some (xL (w : Int)), none, some (xL (v : Int)), none, some (xI (n : Int)), some (xI (m : Int)), some (xI ((i + 1 : Nat) : Int)), o8, o9, o10, o11, o12] [] g d mc ms R := by
    intro j
    induction j with
    | zero =>
      intro i g o8 o9 o10 o11 o12 hi hF hrow
      obtain rfl : i = m := by omega
      obtain ⟨t1, t2, t3, t4⟩ := he.fr hF he.2.2.2
      have tr : Int.toNat (hpC g e 0) = r := by rw [t2]; simp
      apply f_Ear_distance_40
      rw [if_pos (by omega), tr, t3]
      refine ⟨t1, ⟨rfl, by omega, by show (n : Int) < 11; omega⟩, ?_⟩
      rw [Int.toNat_natCast, hrow n (Nat.le_refl _)]
      exact H g hF
    | succ j ih =>
      intro i g o8 o9 o10 o11 o12 hi hF hrow
      obtain ⟨t1, t2, t3, t4⟩ := he.fr hF he.2.2.2
      have tr : Int.toNat (hpC g e 0) = r := by rw [t2]; simp
      apply f_Ear_distance_40
      rw [if_neg (by omega), show ai_sub ((i + 1 : Nat) : Int) 1 = (i : Int) by rw [ai_sub_eq (by omega) (by omega)]; omega]
      refine ⟨by omega, sp_letterAt (lt50 hw) (fun v1 e1 => ?_)⟩
      cases e1
      rw [lA_nat (by omega), tr, t3]
      refine ⟨t1, ⟨rfl, by omega, by decide⟩, t1, ⟨rfl, by omega, by decide⟩, fun g1 e1 => ?_⟩
      subst e1
      rw [show Int.toNat (0 : Int) = 0 from rfl, hrow 0 (by omega)]
      refine I n 0 i _ _ _ (by omega) (by omega) (hF.tr (Fr.up rfl)) (fun q hq => ?_) (fun q h1 h2 => ?_) (fun g' a b c d' f hF' hr' => ih (i + 1) g' a b c d' f (by omega) hF' hr')
      · obtain rfl : q = 0 := by omega
        rw [hpC_same, lv_s0]
      · rw [hpC_ne (Or.inr (by omega))]; exact hrow q h2
  -- the first row
  have F : ∀ (j k : Nat) (g : Hp), k + j = n + 1 → Fr (fun q => q = r) h g → (∀ q, q < k → hpC g r q = (q : Int)) →
      Wp m_Ear_distance 15 [some (xR e), some (xL (w : Int)), none, some (xL (v : Int)), none, some (xI (n : Int)), some (xI (m : Int)), some (xI (k : Int)), none, none, none, none, none] [] g d mc ms R := by
    intro j
    induction j with
    | zero =>
      intro k g hk hF hrow
      apply f_Ear_distance_15
      rw [if_pos (by omega)]
      exact O m 0 g _ _ _ _ _ (by omega) hF (fun q hq => by rw [lv_0]; exact hrow q (by omega))
    | succ j ih =>
      intro k g hk hF hrow
      obtain ⟨t1, t2, t3, t4⟩ := he.fr hF he.2.2.2
      have tr : Int.toNat (hpC g e 0) = r := by rw [t2]; simp
      apply f_Ear_distance_15
      rw [if_neg (by omega), tr, t3]
      refine ⟨t1, ⟨rfl, by omega, by show (k : Int) < 11; omega⟩, fun g1 e1 => ?_⟩
      subst e1
      rw [Int.toNat_natCast, ai_add_eq (by omega) (by omega)]
      refine ih (k + 1) _ (by omega) (hF.tr (Fr.up rfl)) (fun q hq => ?_)
      by_cases eq : q = k
      · subst eq; rw [hpC_same]
      · rw [hpC_ne (Or.inr eq)]; exact hrow q (by omega)
  exact F (n + 1) 0 h (by omega) Fr.rf (fun q hq => by omega)

theorem x_if_mono {c : ClassFile.Cond} {x y : Int} {A B A' B' : Prop} (ha : A → A') (hb : B → B') (h : x_if c x y A B) : x_if c x y A' B' := by
  cases c <;> simp only [x_if] at h ⊢ <;> split at h <;> rename_i e <;> (first | rw [if_pos e] | rw [if_neg e]) <;> first | exact ha h | exact hb h
theorem x_sx_mono {f g : Nat → Prop} {v : Int} {A B : Prop} (hf : ∀ t, f t → g t) (hb : A → B) : ∀ (l : List Nat), x_sx f v A l → x_sx g v B l
  | [], h => hb h
  | [_], h => hb h
  | k :: t :: ts, h => by
    simp only [x_sx] at h ⊢
    split at h
    · rename_i e; simp only [e, if_true]; exact hf _ h
    · rename_i e; simp only [e, if_false]; exact x_sx_mono hf hb ts h
set_option maxHeartbeats 4000000 in
theorem xc_mono {P P' : PT} (hP : ∀ mi pc lo st h d mc ms R, P mi pc lo st h d mc ms R → P' mi pc lo st h d mc ms R) (mi : Nat) : ∀ (is : List AI) (lo : Lo) (st : List AV) (h : Hp) (d mc ms : Nat) (R : PR), xc P mi is lo st h d mc ms R → xc P' mi is lo st h d mc ms R := by
  intro is
  induction is with
  | nil => intro lo st h d mc ms R hx; exact hx
  | cons a is ih =>
    intro lo st h d mc ms R hx
    obtain ⟨i, lk⟩ := a
    cases i
    case if_icmp =>
      simp only [xc] at hx ⊢
      split at hx
      · exact x_if_mono (hP _ _ _ _ _ _ _ _ _) (ih _ _ _ _ _ _ _) hx
      · exact hx.elim
    case ifCond =>
      simp only [xc] at hx ⊢
      split at hx
      · exact x_if_mono (hP _ _ _ _ _ _ _ _ _) (ih _ _ _ _ _ _ _) hx
      · exact hx.elim
    case tableswitch =>
      simp only [xc] at hx ⊢
      split at hx
      · exact x_sx_mono (fun t => hP _ _ _ _ _ _ _ _ _) (hP _ _ _ _ _ _ _ _ _) _ hx
      · exact hx.elim
    case ifnull =>
      simp only [xc] at hx ⊢
      split at hx
      · split at hx
        · rename_i e; simp only [e, if_true]; exact hP _ _ _ _ _ _ _ _ _ hx
        · rename_i e; simp only [e, if_false]; exact ih _ _ _ _ _ _ _ hx
      · exact hx.elim
    case ifnonnull =>
      simp only [xc] at hx ⊢
      split at hx
      · split at hx
        · rename_i e; simp only [e, if_true]; exact ih _ _ _ _ _ _ _ hx
        · rename_i e; simp only [e, if_false]; exact hP _ _ _ _ _ _ _ _ _ hx
      · exact hx.elim
    case invokestatic =>
      simp only [xc] at hx ⊢
      split at hx
      · split at hx
        · rename_i e1 e2 e3
          split at hx
          · rename_i e4
            obtain ⟨h1, Q, h2, h3⟩ := hx
            refine ⟨h1, Q, hP _ _ _ _ _ _ _ _ _ h2, ?_⟩
            split at h3
            · exact fun h' hq => ih _ _ _ _ _ _ _ (h3 h' hq)
            · exact fun v h' hq => ih _ _ _ _ _ _ _ (h3 v h' hq)
            · exact fun v h' hq => ih _ _ _ _ _ _ _ (h3 v h' hq)
            · exact fun v h' hq => ih _ _ _ _ _ _ _ (h3 v h' hq)
          · exact hx.elim
        · exact hx.elim
      · exact hx.elim
    case invokevirtual =>
      simp only [xc] at hx ⊢
      split at hx
      · split at hx
        · rename_i e1 e2 e3
          split at hx
          · rename_i e4
            obtain ⟨h1, Q, h2, h3⟩ := hx
            refine ⟨h1, Q, hP _ _ _ _ _ _ _ _ _ h2, ?_⟩
            split at h3
            · exact fun h' hq => ih _ _ _ _ _ _ _ (h3 h' hq)
            · exact fun v h' hq => ih _ _ _ _ _ _ _ (h3 v h' hq)
            · exact fun v h' hq => ih _ _ _ _ _ _ _ (h3 v h' hq)
            · exact fun v h' hq => ih _ _ _ _ _ _ _ (h3 v h' hq)
          · exact hx.elim
        · exact hx.elim
      · exact hx.elim
    all_goals
      (simp only [xc] at hx ⊢) <;>
      first
      | exact hx.elim
      | exact ih _ _ _ _ _ _ _ hx
      | (split at hx <;> first
          | exact hx.elim
          | exact hx
          | exact hP _ _ _ _ _ _ _ _ _ hx
          | exact ih _ _ _ _ _ _ _ hx
          | exact ⟨hx.1, ih _ _ _ _ _ _ _ hx.2⟩
          | exact ⟨hx.1, hx.2.1, ih _ _ _ _ _ _ _ hx.2.2⟩
          | exact ⟨hx.1, fun h' e => ih _ _ _ _ _ _ _ (hx.2 h' e)⟩
          | exact ⟨hx.1, hx.2.1, fun h' e => ih _ _ _ _ _ _ _ (hx.2.2 h' e)⟩
          | (rename_i e1; simp only [e1]; exact ih _ _ _ _ _ _ _ hx)
          | (rename_i e1 e2; simp only [e1, e2]; exact ih _ _ _ _ _ _ _ hx)
          | (rename_i e1 e2; simp only [e1, e2]; exact ⟨hx.1, ih _ _ _ _ _ _ _ hx.2⟩)
          | (split at hx <;> first
              | exact hx.elim
              | (rename_i e1; simp only [e1]; exact ⟨hx.1, ih _ _ _ _ _ _ _ hx.2⟩)
              | exact ⟨hx.1, ih _ _ _ _ _ _ _ hx.2⟩
              | exact ⟨hx.1, fun h' e => ih _ _ _ _ _ _ _ (hx.2 h' e)⟩))
theorem Wp_step {mi pc : Nat} {lo : Lo} {st : List AV} {h : Hp} {d mc ms : Nat} {R : PR} (hx : xStep Wp mi pc lo st h d mc ms R) : Wp mi pc lo st h d mc ms R := by
  intro P hP
  obtain ⟨is, ho, hx⟩ := hx
  exact hP _ _ _ _ _ _ _ _ _ ⟨is, ho, xc_mono (fun _ _ _ _ _ _ _ _ _ hw => hw P hP) _ _ _ _ _ _ _ _ _ hx⟩
theorem Wp_blk {mi pc : Nat} {is : List AI} (ho : okB mi pc is = true) {lo : Lo} {st : List AV} {h : Hp} {d mc ms : Nat} {R : PR} (hx : xc Wp mi is lo st h d mc ms R) : Wp mi pc lo st h d mc ms R := Wp_step ⟨is, ho, hx⟩

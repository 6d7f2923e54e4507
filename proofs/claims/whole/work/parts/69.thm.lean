/-! ===== soundness, intrinsics and the theorem (by program wip/whole/gensnd5.py) ===== -/
theorem max32 {a b : Int} (ha : r32 a) (hb : r32 b) : Int32.ofInt (if a < b then b else a) = (if Int32.ofInt a < Int32.ofInt b then Int32.ofInt b else Int32.ofInt a) := by
  by_cases h : a < b
  · rw [if_pos h, if_pos ((lt32 ha hb).mpr h)]
  · rw [if_neg h, if_neg (fun z => h ((lt32 ha hb).mp z))]
theorem min32 {a b : Int} (ha : r32 a) (hb : r32 b) : Int32.ofInt (if b < a then b else a) = (if Int32.ofInt b < Int32.ofInt a then Int32.ofInt b else Int32.ofInt a) := by
  by_cases h : b < a
  · rw [if_pos h, if_pos ((lt32 hb ha).mpr h)]
  · rw [if_neg h, if_neg (fun z => h ((lt32 hb ha).mp z))]
theorem r32_ite {c : Prop} [Decidable c] {a b : Int} (ha : r32 a) (hb : r32 b) : r32 (if c then a else b) := by split <;> assumption
theorem not_neg32 {n : Int} (hn : r32 n) (h0 : 0 ≤ n) : ¬ Int32.ofInt n < 0 := fun z => absurd ((lt32 hn (show r32 0 from ⟨by decide, by decide⟩)).mp z) (by omega)
theorem clamp32 {n : Int} (hn : r32 n) : (Int32.ofInt n).toNatClampNeg = n.toNat := by simp only [Int32.toNatClampNeg, to32 hn]
theorem cpy_i {h : Hp} {a sp b dp n : Nat} : (fun j => Int32.ofInt (hpC (hpY h a sp b dp n) b j)) = va_cpy (fun j => Int32.ofInt (hpC h a j)) (fun j => Int32.ofInt (hpC h b j)) sp dp n := by
  funext j
  rw [hpC_Y]
  unfold va_cpy
  by_cases e : dp ≤ j ∧ j < dp + n
  · rw [if_pos ⟨rfl, e⟩, if_pos e]
  · rw [if_neg (fun z => e z.2), if_neg e]
theorem cpy_l {h : Hp} {a sp b dp n : Nat} : (fun j => Int64.ofInt (hpC (hpY h a sp b dp n) b j)) = va_cpy (fun j => Int64.ofInt (hpC h a j)) (fun j => Int64.ofInt (hpC h b j)) sp dp n := by
  funext j
  rw [hpC_Y]
  unfold va_cpy
  by_cases e : dp ≤ j ∧ j < dp + n
  · rw [if_pos ⟨rfl, e⟩, if_pos e]
  · rw [if_neg (fun z => e z.2), if_neg e]
section SND5
variable {l : Launch} {G : GX} {mi : Nat} {y : MethodName} {cc : ByteArray} {ml : Nat} {rt : Option FieldType} {p : Program} {e : Env} {Rm : Room} {s : State} {m : MethodId} {args : Array Value} {below : List Frame} {meth : Method} {c : Code} {MC MS : Nat} {ad0 : Nat → Nat} {n0 : Nat} {R : PR} {is : List AI} {lk : List Nat}
set_option maxHeartbeats 1000000 in
theorem sd_dyn {n : Nat} (hmF : mF mi = some (y, cc, ml, rt)) (hcx : cx G y cc ml rt p s m args meth c) (hMC : MC ≤ Rm.cells) (hMS : MS ≤ Rm.slots) (ih : Wk l G mi y cc ml rt p e Rm s m args below meth c MC MS ad0 n0 R is) : Wk l G mi y cc ml rt p e Rm s m args below meth c MC MS ad0 n0 R ((.invokedynamic n, lk) :: is) := by
  intro pc lo st h d mc ms H locs ls cells slots ad hok hx hd1 hd2 hc1 hc2 hw hS hfr hll hst hn0 had
  obtain ⟨HX, HB, hml, hrt, hown, hnm, hts, hlocks, hK, hXb, hbl, hbA, hA, hxs⟩ := hcx
  obtain ⟨j, len, hdec, hlen, hj, hnx⟩ := okL_cons (by intro z; cases z) hok
  simp only [okj] at hj
  split at hj
  · rename_i idx pl
    obtain rfl : 3 = len := hlen
    obtain ⟨l1, l2⟩ := wAt_ok hj
    simp only [xc] at hx
    split at hx
    · rename_i r st hb8
      obtain ⟨⟨d1, r0⟩, hx⟩ := hx
      rw [List.map_cons, show cv ad (Sum.inr (Sum.inr r)) = .ref (ad r) from cv_ref r0]
      refine W.objInit HX HB hown (hts _ l1 l2) (hts _ (lwg_in ow_inst).1 (lwg_in ow_inst).2) (hts _ (lwg_in ow_code).1 (lwg_in ow_code).2) rfl ((hfr.1.trans hll).trans hml.symm) rfl hdec (by omega) (by show 2 * 0 + _ + 12 ≤ Rm.locals; rw [sw_cat]; have := Nat.le_of_ble_eq_true hb8; simp only [List.drop] at this; omega) ?_
      exact (ih (pc + 3) lo st h d mc ms H locs ls cells slots ad hnx hx hd1 hd2 hc1 hc2 hw hS hfr hll (g_tl hst) hn0 had)
    · exact hx.elim
  · rename_i idx pl
    obtain rfl : 3 = len := hlen
    obtain ⟨l1, l2⟩ := wAt_ok hj
    simp only [xc] at hx
    split at hx
    · rename_i b a st hb8
      obtain ⟨d1, hx⟩ := hx
      have hb2 : r32 b := g_hd hst
      have ha2 : r32 a := g_hd (g_tl hst)
      exact va_mmax HX HB (hml.trans (hfr.1.trans hll).symm) hown (hts _ l1 l2) (hts _ (lwg_in mw_max_st).1 (lwg_in mw_max_st).2) (hts _ (lwg_in mw_ini).1 (lwg_in mw_ini).2) (hts _ (lwg_in mw_max_code).1 (lwg_in mw_max_code).2) (by omega) (by rw [sw_cat]; have := Nat.le_of_ble_eq_true hb8; simp only [List.drop] at this; omega) (by omega) (by omega) hdec (W_i (max32 ha2 hb2) (ih (pc + 3) lo (xI (if a < b then b else a) :: st) h d mc ms H locs ls cells slots ad hnx hx hd1 hd2 hc1 hc2 hw hS hfr hll (g_cs (r32_ite hb2 ha2) (g_tl (g_tl hst))) hn0 had))
    · exact hx.elim
  · rename_i idx pl
    obtain rfl : 3 = len := hlen
    obtain ⟨l1, l2⟩ := wAt_ok hj
    simp only [xc] at hx
    split at hx
    · rename_i b a st hb8
      obtain ⟨d1, hx⟩ := hx
      have hb2 : r32 b := g_hd hst
      have ha2 : r32 a := g_hd (g_tl hst)
      exact va_mmin HX HB (hml.trans (hfr.1.trans hll).symm) hown (hts _ l1 l2) (hts _ (lwg_in mw_min_st).1 (lwg_in mw_min_st).2) (hts _ (lwg_in mw_ini).1 (lwg_in mw_ini).2) (hts _ (lwg_in mw_min_code).1 (lwg_in mw_min_code).2) (by omega) (by rw [sw_cat]; have := Nat.le_of_ble_eq_true hb8; simp only [List.drop] at this; omega) (by omega) (by omega) hdec (W_i (min32 ha2 hb2) (ih (pc + 3) lo (xI (if b < a then b else a) :: st) h d mc ms H locs ls cells slots ad hnx hx hd1 hd2 hc1 hc2 hw hS hfr hll (g_cs (r32_ite hb2 ha2) (g_tl (g_tl hst))) hn0 had))
    · exact hx.elim
  · rename_i idx K pl
    obtain rfl : 3 = len := hlen
    simp only [Bool.and_eq_true, decide_eq_true_eq] at hj
    obtain ⟨hKK, hj⟩ := hj
    obtain ⟨l1, l2⟩ := wAt_ok hj
    simp only [xc] at hx
    split at hx
    · rename_i n dp b sp a st hb8
      have hn : r32 n := g_hd hst
      have hdp : r32 dp := g_hd (g_tl hst)
      have hsp : r32 sp := g_hd (g_tl (g_tl (g_tl hst)))
      rcases hKK with hKK | hKK
      · subst hKK
        obtain ⟨⟨d1, hra, hrb, n1, n2, n3, n4, n5⟩, hx⟩ := hx
        obtain ⟨a3, an⟩ := gH_in hw.1 hra (by decide) (by decide) (by decide)
        obtain ⟨b3, bn⟩ := gH_in hw.1 hrb (by decide) (by decide) (by decide)
        have hea := wo_at (G := G) (ad := ad) a3 an
        have heb := wo_at (G := G) (ad := ad) b3 bn
        rw [cell_20 hra] at hea
        rw [cell_20 hrb] at heb
        have hE : cellOf G ad (hpY h a sp.toNat b dp.toNat n.toNat) b = .inl (gxK G 0, (hpT h b).2, .inl (va_cpy (fun j => Int32.ofInt (hpC h a j)) (fun j => Int32.ofInt (hpC h b j)) (Int32.ofInt sp).toNatClampNeg (Int32.ofInt dp).toNatClampNeg (Int32.ofInt n).toNatClampNeg)) := by
          rw [cell_20 (by rw [hpT_Y]; exact hrb), hpT_Y, cpy_i, clamp32 hsp, clamp32 hdp, clamp32 hn]
        simp only [List.map_cons, show cv ad (Sum.inr (Sum.inr a)) = .ref (ad a) from cv_ref (by omega), show cv ad (Sum.inr (Sum.inr b)) = .ref (ad b) from cv_ref (by omega)]
        refine va_copyi (ty := .int) HX HB (hml.trans (hfr.1.trans hll).symm) hown (hts _ l1 l2) (hts _ (lwg_in yw_nat).1 (lwg_in yw_nat).2) (hts _ (lwg_in yw_st).1 (lwg_in yw_st).2) (hts _ (lwg_in yw_ini).1 (lwg_in yw_ini).2) hK hw.2.2.2.1 hw.2.2.2.2 hS (a - 3) (b - 3) 0 0 hea heb rfl rfl rfl (not_neg32 hsp n1) (not_neg32 hdp n2) (not_neg32 hn n3) (by rw [clamp32 hsp, clamp32 hn]; omega) (by rw [clamp32 hdp, clamp32 hn]; omega) (fun i hi => rfl) (by omega) (by rw [sw_cat]; have := yw_words; have := Nat.le_of_ble_eq_true hb8; simp only [List.drop] at this; omega) hdec (fun H1 locs1 hP1 hD1 hS1 => ?_)
        exact (ih (pc + 3) lo st (hpY h a sp.toNat b dp.toNat n.toNat) d mc ms H1 locs1 ls cells slots ad hnx (hx _ rfl) hd1 hd2 hc1 hc2 (wd_Y hw a3 an b3 bn (fun p q => by rw [hra, hrb, pk_20, pk_20]) hE hP1 hD1) hS1 hfr hll (g_tl (g_tl (g_tl (g_tl (g_tl hst))))) hn0 had)
      · subst hKK
        obtain ⟨⟨d1, hra, hrb, n1, n2, n3, n4, n5⟩, hx⟩ := hx
        obtain ⟨a3, an⟩ := gH_in hw.1 hra (by decide) (by decide) (by decide)
        obtain ⟨b3, bn⟩ := gH_in hw.1 hrb (by decide) (by decide) (by decide)
        have hea := wo_at (G := G) (ad := ad) a3 an
        have heb := wo_at (G := G) (ad := ad) b3 bn
        rw [cell_21 hra] at hea
        rw [cell_21 hrb] at heb
        have hE : cellOf G ad (hpY h a sp.toNat b dp.toNat n.toNat) b = .inl (gxK G 1, (hpT h b).2, .inr (.inl (va_cpy (fun j => Int64.ofInt (hpC h a j)) (fun j => Int64.ofInt (hpC h b j)) (Int32.ofInt sp).toNatClampNeg (Int32.ofInt dp).toNatClampNeg (Int32.ofInt n).toNatClampNeg))) := by
          rw [cell_21 (by rw [hpT_Y]; exact hrb), hpT_Y, cpy_l, clamp32 hsp, clamp32 hdp, clamp32 hn]
        simp only [List.map_cons, show cv ad (Sum.inr (Sum.inr a)) = .ref (ad a) from cv_ref (by omega), show cv ad (Sum.inr (Sum.inr b)) = .ref (ad b) from cv_ref (by omega)]
        refine va_copyl (ty := .long) HX HB (hml.trans (hfr.1.trans hll).symm) hown (hts _ l1 l2) (hts _ (lwg_in yw_nat).1 (lwg_in yw_nat).2) (hts _ (lwg_in yw_st).1 (lwg_in yw_st).2) (hts _ (lwg_in yw_ini).1 (lwg_in yw_ini).2) hK hw.2.2.2.1 hw.2.2.2.2 hS (a - 3) (b - 3) 1 1 hea heb rfl rfl rfl (not_neg32 hsp n1) (not_neg32 hdp n2) (not_neg32 hn n3) (by rw [clamp32 hsp, clamp32 hn]; omega) (by rw [clamp32 hdp, clamp32 hn]; omega) (fun i hi => rfl) (by omega) (by rw [sw_cat]; have := yw_words; have := Nat.le_of_ble_eq_true hb8; simp only [List.drop] at this; omega) hdec (fun H1 locs1 hP1 hD1 hS1 => ?_)
        exact (ih (pc + 3) lo st (hpY h a sp.toNat b dp.toNat n.toNat) d mc ms H1 locs1 ls cells slots ad hnx (hx _ rfl) hd1 hd2 hc1 hc2 (wd_Y hw a3 an b3 bn (fun p q => by rw [hra, hrb, pk_21, pk_21]) hE hP1 hD1) hS1 hfr hll (g_tl (g_tl (g_tl (g_tl (g_tl hst))))) hn0 had)
    · exact hx.elim
  · rename_i idx pl
    obtain rfl : 3 = len := hlen
    obtain ⟨l1, l2⟩ := wAt_ok hj
    simp only [xc] at hx
    split at hx
    · rename_i i r st hb8
      obtain ⟨⟨d1, r2, i0, i1⟩, hx⟩ := hx
      subst r2
      have hi : r32 i := g_hd hst
      have h6 := hw.1.2.2.2.2.2.1
      have i1' : i < 78 := by rw [h6.1] at i1; exact i1
      have e1 : hpC h 2 i.toNat = (txB.getD i.toNat 0).toInt := h6.2 i.toNat (by omega)
      simp only [List.map_cons, show cv ad (Sum.inr (Sum.inr 2)) = .ref (ad 2) from cv_ref (by decide), hw.2.2.1]
      refine ch_row ⟨HX, HB, hml, hrt, hown, hnm, hts, hlocks, hK, hXb, hbl, hbA, hA, hxs⟩ hS (hfr.1.trans hll) (hts _ l1 l2) hdec (by omega) (by omega) (by rw [sw_cat]; have := Nat.le_of_ble_eq_true hb8; simp only [List.drop] at this; exact this) (by omega) (by omega) i0 i1' ?_
      exact W_i (by rw [e1]; exact o32 _) (ih (pc + 3) lo (xI (hpC h 2 i.toNat) :: st) h d mc ms H locs ls cells slots ad hnx hx hd1 hd2 hc1 hc2 hw hS hfr hll (g_cs (by rw [e1]; exact r32_to _) (g_tl (g_tl hst))) hn0 had)
    · exact hx.elim
  · exact absurd hj (by decide)

theorem snd_all (hmF : mF mi = some (y, cc, ml, rt)) (hcx : cx G y cc ml rt p s m args meth c) (hMC : MC ≤ Rm.cells) (hMS : MS ≤ Rm.slots) : ∀ is : List AI, Wk l G mi y cc ml rt p e Rm s m args below meth c MC MS ad0 n0 R is := by
  intro is
  induction is with
  | nil => intro pc lo st h d mc ms H locs ls cells slots ad hok hx; exact hx.elim
  | cons a is ih =>
    obtain ⟨i, lk⟩ := a
    cases i
    case iadd => exact sd_iadd hmF hcx hMC hMS ih
    case isub => exact sd_isub hmF hcx hMC hMS ih
    case imul => exact sd_imul hmF hcx hMC hMS ih
    case iand => exact sd_iand hmF hcx hMC hMS ih
    case ior => exact sd_ior hmF hcx hMC hMS ih
    case ixor => exact sd_ixor hmF hcx hMC hMS ih
    case ishl => exact sd_ishl hmF hcx hMC hMS ih
    case ishr => exact sd_ishr hmF hcx hMC hMS ih
    case iushr => exact sd_iushr hmF hcx hMC hMS ih
    case idiv => exact sd_idiv hmF hcx hMC hMS ih
    case irem => exact sd_irem hmF hcx hMC hMS ih
    case ladd => exact sd_ladd hmF hcx hMC hMS ih
    case lmul => exact sd_lmul hmF hcx hMC hMS ih
    case land => exact sd_land hmF hcx hMC hMS ih
    case lor => exact sd_lor hmF hcx hMC hMS ih
    case ldiv => exact sd_ldiv hmF hcx hMC hMS ih
    case lshl => exact sd_lshl hmF hcx hMC hMS ih
    case lshr => exact sd_lshr hmF hcx hMC hMS ih
    case lcmp => exact sd_lcmp hmF hcx hMC hMS ih
    case i2l => exact sd_i2l hmF hcx hMC hMS ih
    case l2i => exact sd_l2i hmF hcx hMC hMS ih
    case i2b => exact sd_i2b hmF hcx hMC hMS ih
    case dup => exact sd_dup hmF hcx hMC hMS ih
    case dup2 => exact sd_dup2 hmF hcx hMC hMS ih
    case pop => exact sd_pop hmF hcx hMC hMS ih
    case aconst_null => exact sd_null hmF hcx hMC hMS ih
    case iconst => exact sd_iconst hmF hcx hMC hMS ih
    case ldc => exact sd_ldc hmF hcx hMC hMS ih
    case ldc2_w => exact sd_ldc2 hmF hcx hMC hMS ih
    case iload => exact sd_iload hmF hcx hMC hMS ih
    case lload => exact sd_lload hmF hcx hMC hMS ih
    case aload => exact sd_aload hmF hcx hMC hMS ih
    case istore => exact sd_istore hmF hcx hMC hMS ih
    case lstore => exact sd_lstore hmF hcx hMC hMS ih
    case astore => exact sd_astore hmF hcx hMC hMS ih
    case iinc => exact sd_iinc hmF hcx hMC hMS ih
    case goto => exact sd_goto hmF hcx hMC hMS ih
    case if_icmp => exact sd_if_icmp hmF hcx hMC hMS ih
    case ifCond => exact sd_ifCond hmF hcx hMC hMS ih
    case ifnull => exact sd_ifnull hmF hcx hMC hMS ih
    case ifnonnull => exact sd_ifnonnull hmF hcx hMC hMS ih
    case getfield => exact sd_getfield hmF hcx hMC hMS ih
    case putfield => exact sd_putfield hmF hcx hMC hMS ih
    case iaload => exact sd_iaload hmF hcx hMC hMS ih
    case laload => exact sd_laload hmF hcx hMC hMS ih
    case baload => exact sd_baload hmF hcx hMC hMS ih
    case aaload => exact sd_aaload hmF hcx hMC hMS ih
    case iastore => exact sd_iastore hmF hcx hMC hMS ih
    case lastore => exact sd_lastore hmF hcx hMC hMS ih
    case bastore => exact sd_bastore hmF hcx hMC hMS ih
    case aastore => exact sd_aastore hmF hcx hMC hMS ih
    case arraylength => exact sd_alen hmF hcx hMC hMS ih
    case new => exact sd_new hmF hcx hMC hMS ih
    case newarray => exact sd_newarray hmF hcx hMC hMS ih
    case anewarray => exact sd_anewarray hmF hcx hMC hMS ih
    case ireturn => exact sd_ireturn hmF hcx hMC hMS ih
    case lreturn => exact sd_lreturn hmF hcx hMC hMS ih
    case areturn => exact sd_areturn hmF hcx hMC hMS ih
    case return_ => exact sd_return hmF hcx hMC hMS ih
    case tableswitch => exact sd_switch hmF hcx hMC hMS ih
    case invokestatic => exact sd_static hmF hcx hMC hMS ih
    case invokevirtual => exact sd_virtual hmF hcx hMC hMS ih
    case invokedynamic => exact sd_dyn hmF hcx hMC hMS ih
    case nop => exact sd_nop hmF hcx hMC hMS
    all_goals
      intro pc lo st h d mc ms H locs ls cells slots ad hok hx
      simp only [xc] at hx
end SND5
theorem snd_step (l : Launch) (G : GX) : ∀ mi pc lo st h d mc ms R, xStep (P0 l G) mi pc lo st h d mc ms R → P0 l G mi pc lo st h d mc ms R := by
  intro mi pc lo st h d mc ms R hx y cc ml rt p e Rm s m args below meth c H locs ls cells slots MC MS ad ad0 n0 hmF hcx hd1 hd2 hc1 hc2 hMC hMS hw hS hfr hll hst hn0 had
  obtain ⟨is, hok, hx⟩ := hx
  unfold okB at hok
  rw [hmF] at hok
  exact snd_all hmF hcx hMC hMS is pc lo st h d mc ms H locs ls cells slots ad hok hx hd1 hd2 hc1 hc2 hw hS hfr hll hst hn0 had
theorem Wp_snd {l : Launch} {G : GX} {mi pc : Nat} {lo : Lo} {st : List AV} {h : Hp} {d mc ms : Nat} {R : PR} (hx : Wp mi pc lo st h d mc ms R) : P0 l G mi pc lo st h d mc ms R := hx (P0 l G) (snd_step l G)

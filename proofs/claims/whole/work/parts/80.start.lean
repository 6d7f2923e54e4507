/-! THE CLAIM OUT OF ONE WALK OF THE LAW'S BODY. Your part is whole_start (and what it stands on); all else here is the same for every law, but numbers. -/
def R_law : String := "StreetNamesLaw"
def lw_P (b : Addr) (xs : List Int32) (args : Array Value) (s : State) : Prop := args = #[.ref b] ∧ s.IntsAt b xs ∧ xs.length ≤ 3072 ∧ (Jvm.Cond.and given_1 narrow_1).before args s = true
def lw_Q (_ : Array Value) (s : State) (o : Outcome) (t : State) : Prop := o = .returned (some (.int 1)) ∧ Framed s o t [] 600000 7302250
def lw_Z (below : List Frame) (a : Array Value) (s : State) : State → Prop := fun t => ∃ o, t.status = .running ∧ Ended t below o ∧ lw_Q a s o t
/-- the law's own end, with 1 on the stack, nothing written that was there before, its room as the claim has it -/
theorem lw_ret {p : Program} {l : Launch} {e : Env} {s : State} {m : MethodId} {below : List Frame} {meth : Method} {c : Code} {b : Nat} (hx : p.tables.exec = Jvm.exec) (hb : c.code = code) (hr : meth.sig.returnType = ret) (hlocks : meth.locks = false) {pc : Nat} {H : Heap} {ls : Array Slot} (hdg : decode code pc = .ok (.ireturn, 1)) : W p l e room_1 s m #[Value.ref b] below meth c H [] 600000 7302250 (lw_Z below #[Value.ref b] s) (F0 m pc ls [.int 1]) := by
  intro T hT X
  obtain ⟨fs, hret, hrun, hended, hW, hframe⟩ := X.leave (v := some (.int 1)) (hlocks := hlocks) (fun h => by rw [hr] at h; cases h)
  have hmeth' : T.vm.method? m = some meth := X.method'
  refine ⟨T.setFrames fs, ?_, .returned (some (.int 1)), hrun, hended, rfl, ⟨_, rfl⟩, hW, hframe⟩
  jvm_step X.here [X.here.top, hx, hb, hdg, hmeth', hr, ret, narrow_b1]
  (try refine ⟨rfl, ?_⟩); (try refine ⟨rfl, ?_⟩)
  first | (intro acts; rw [hret _ acts rfl rfl rfl]) | rw [hret _ _ rfl rfl rfl]
  exact Steps.refl _
/-- what holds at the law's entry: the machine, the code, the tables' words (any of lw_tbl by 'hts w (by decide +kernel)'), the script of L ints xs at the cell b, what the Statement gives of the start (any of its parts by flat_of_before) -/
def lw_At (p : Program) (s : State) (m : MethodId) (meth : Method) (c : Code) (b L : Nat) (xs : Nat → Int32) : Prop :=
  p.tables.exec = Jvm.exec ∧ c.code = code ∧ meth.sig.returnType = ret ∧ c.maxLocals = 4 ∧ s.vm.findClass R_law = some m.cls ∧ (∀ w ∈ lw_tbl, w.before #[Value.ref b] s = true) ∧ va_X b L xs s s.heap ∧ b < s.heap.size ∧ meth.locks = false ∧ (Jvm.Cond.and given_1 narrow_1).before #[Value.ref b] s = true
theorem h00_good {G : GX} (hL : gxL G < 2147483648) : gH G (h00 (gxL G) (gxX G)) := by
  refine ⟨Nat.le_refl 3, rfl, fun r hr => ?_, fun r h1 h2 => ?_, ⟨rfl, hL, fun j hj => rfl⟩, ⟨rfl, fun j hj => rfl⟩, fun r p h1 h2 => ?_⟩
  · have hr : 3 ≤ r := hr
    show (if r = 1 then (25, gxL G) else if r = 2 then (26, 78) else (0, 0)).1 = 0
    rw [if_neg (by omega), if_neg (by omega)]
  · have h2 : r < 3 := h2
    omega
  · have h2 : r < 3 := h2
    omega
theorem ends_ok {below : List Frame} {G : GX} {rt : Option FieldType} {ad0 : Nat → Nat} {n0 : Nat} {args : Array Value} {s t : State} (hA : ∀ q, gxA G q → s.heap.size ≤ q) (h : MQ below (QR G rt (fun rv _ => rv = some (xI 1)) ad0 n0) args s 600000 7302250 (gxA G) t) : lw_Z below args s t := by
  obtain ⟨o, h1, h2, ⟨⟨rv, h', ad', q1, -, -, -, -, q6, -⟩, -⟩, L, ⟨f1, f2, f3⟩, hLq⟩ := h
  subst q1
  refine ⟨o, h1, h2, q6, f1, f2, ?_⟩
  obtain ⟨g1, g2, g3, g4, g5, g6⟩ := f3
  refine ⟨g1, g2, g3, g4, g5, fun a c hc => ?_⟩
  obtain ⟨c', k1, k2, k3, k4⟩ := g6 a c hc
  refine ⟨c', k1, k2, k3, fun i _ => k4 i (fun hm => ?_)⟩
  have := hA _ (hLq _ hm)
  have ha : a < s.heap.size := (Array.getElem?_eq_some_iff.mp hc).1
  exact absurd this (Nat.not_le.mpr ha)
theorem arr_known {args : Array Value} {s : State} {ty : FieldType} (hp : refKind ty = false) (h : (Cond.arrayClass ty).before args s = true) : ∃ c : ClassId, ArrOfT s c ty ∧ va_RA s c ty := by
  obtain ⟨c, k, comp, h1, h2, h3⟩ := Cond.arrayClass_spec h
  refine ⟨c, fun n z => ⟨fun k h => (by cases h), k, h2, comp, h3⟩, ?_⟩
  cases ty <;> first | exact h1 | (simp [refKind] at hp)
theorem town_known {s : State} (h : va_AO "StreetNames$Town" s) : ∃ c : ClassId, ArrOfT s c (.object "StreetNames$Town") ∧ va_RA s c (.object "StreetNames$Town") := by
  obtain ⟨comp, c, k, h1, h2, h3, h4, h5⟩ := Cond.arrayOver_spec h
  exact ⟨c, fun n z => ⟨fun k h => (by cases h), k, h3, comp, h4⟩, k, comp, h3, h4, h1, h5⟩
theorem lwg_str : Cond.stringRef "StreetNames$Tape" 19 txS ∈ lw_tbl := List.mem_of_getElem? (i := 155) (by decide +kernel)
theorem lwg_cs : Cond.laysStatic "java/lang/String" "COMPACT_STRINGS" "Z" ∈ lw_tbl := List.mem_of_getElem? (i := 165) (by decide +kernel)
theorem lwg_sf : Cond.laysStatic "jdk/internal/util/Preconditions" "SIOOBE_FORMATTER" "Ljava/util/function/BiFunction;" ∈ lw_tbl := List.mem_of_getElem? (i := 173) (by decide +kernel)
theorem lwg_is : Cond.initialized "java/lang/String" ∈ lw_tbl := List.mem_of_getElem? (i := 122) (by decide +kernel)
theorem lwg_ip : Cond.initialized "jdk/internal/util/Preconditions" ∈ lw_tbl := List.mem_of_getElem? (i := 124) (by decide +kernel)
set_option maxRecDepth 100000 in
theorem tx_words : ∀ j, j < 78 → Cond.eq (.elem (.field (.string "StreetNames$Tape" 19) "java/lang/String" "value" "[B") (.int (Int32.ofNat j))) (.int (txB.getD j 0)) ∈ flatC (Jvm.Cond.and given_1 narrow_1) := by decide +kernel
set_option maxHeartbeats 4000000 in
set_option maxRecDepth 100000 in
theorem whole_start {p : Program} {e : Env} {s : State} {m : MethodId} {below : List Frame} {meth : Method} {c : Code} (l : Launch) (hflags : l.flags = flags0) {b L : Nat} {xs : Nat → Int32} (hL : L ≤ 3072) (C0 : lw_At p s m meth c b L xs) : W p l e room_1 s m #[Value.ref b] below meth c s.heap [] 0 0 (lw_Z below #[Value.ref b] s) (entryFrame m ([Value.ref b] : List Value).toArray 4) := by
  obtain ⟨hx, hb, hr, hml, hown, hts, hX, hbl, hlocks, hgv⟩ := id C0
  have hgs := flat_of_before _ hgv
  have hAn : ∀ a : Nat, a < s.heap.size → ¬ (fun q : Nat => s.heap.size ≤ q) a := fun a h => Nat.not_le.mpr h
  have hlw : ∀ w ∈ lwg, w.before #[Value.ref b] s = true := fun w hw => hts w (lwg_in hw).1
  -- classes

  obtain ⟨c0, iS0, hKn0⟩ := u_known (C := RX0) (T := TX0) (N := 1) (n := 1) hlw clsOk_0.1 (hlw _ clsOk_0.2.2.2.1)
  obtain ⟨c1, iS1, hKn1⟩ := u_known (C := RX1) (T := TX1) (N := 4) (n := 4) hlw clsOk_1.1 (hlw _ clsOk_1.2.2.2.1)
  obtain ⟨c2, iS2, hKn2⟩ := u_known (C := RX2) (T := TX2) (N := 3) (n := 3) hlw clsOk_2.1 (hlw _ clsOk_2.2.2.2.1)
  obtain ⟨c3, iS3, hKn3⟩ := u_known (C := RX3) (T := TX3) (N := 7) (n := 7) hlw clsOk_3.1 (hlw _ clsOk_3.2.2.2.1)
  obtain ⟨c4, iS4, hKn4⟩ := u_known (C := RX4) (T := TX4) (N := 3) (n := 3) hlw clsOk_4.1 (hlw _ clsOk_4.2.2.2.1)
  obtain ⟨c5, iS5, hKn5⟩ := u_known (C := RX5) (T := TX5) (N := 10) (n := 10) hlw clsOk_5.1 (hlw _ clsOk_5.2.2.2.1)
  obtain ⟨c6, iS6, hKn6⟩ := u_known (C := RX6) (T := TX6) (N := 10) (n := 10) hlw clsOk_6.1 (hlw _ clsOk_6.2.2.2.1)
  obtain ⟨c7, iS7, hKn7⟩ := u_known (C := RX7) (T := TX7) (N := 11) (n := 11) hlw clsOk_7.1 (hlw _ clsOk_7.2.2.2.1)
  obtain ⟨c8, iS8, hKn8⟩ := u_known (C := RX8) (T := TX8) (N := 3) (n := 3) hlw clsOk_8.1 (hlw _ clsOk_8.2.2.2.1)
  obtain ⟨c9, iS9, hKn9⟩ := u_known (C := RX9) (T := TX9) (N := 8) (n := 8) hlw clsOk_9.1 (hlw _ clsOk_9.2.2.2.1)
  obtain ⟨c10, iS10, hKn10⟩ := u_known (C := RX11) (T := TX11) (N := 12) (n := 12) hlw clsOk_10.1 (hlw _ clsOk_10.2.2.2.1)
  obtain ⟨c11, iS11, hKn11⟩ := u_known (C := RX12) (T := TX12) (N := 34) (n := 34) hlw clsOk_11.1 (hlw _ clsOk_11.2.2.2.1)
  obtain ⟨dC, dI, hKc⟩ : ∃ (dC : Nat → ClassId) (dI : Nat → Nat → Nat), ∀ (k : Nat) (q : vw_C), vwCl[k]? = some q → u_Kn s q.1 q.2.1 q.2.2 (dC k) (dI k) := by
    refine ⟨fun k => if k = 0 then c0 else if k = 1 then c1 else if k = 2 then c2 else if k = 3 then c3 else if k = 4 then c4 else if k = 5 then c5 else if k = 6 then c6 else if k = 7 then c7 else if k = 8 then c8 else if k = 9 then c9 else if k = 10 then c10 else c11, fun k => if k = 0 then iS0 else if k = 1 then iS1 else if k = 2 then iS2 else if k = 3 then iS3 else if k = 4 then iS4 else if k = 5 then iS5 else if k = 6 then iS6 else if k = 7 then iS7 else if k = 8 then iS8 else if k = 9 then iS9 else if k = 10 then iS10 else iS11, ?_⟩
    intro k q hq
    match k, hq with
    | 0, hq => cases hq; exact hKn0
    | 1, hq => cases hq; exact hKn1
    | 2, hq => cases hq; exact hKn2
    | 3, hq => cases hq; exact hKn3
    | 4, hq => cases hq; exact hKn4
    | 5, hq => cases hq; exact hKn5
    | 6, hq => cases hq; exact hKn6
    | 7, hq => cases hq; exact hKn7
    | 8, hq => cases hq; exact hKn8
    | 9, hq => cases hq; exact hKn9
    | 10, hq => cases hq; exact hKn10
    | 11, hq => cases hq; exact hKn11
    | k + 12, hq => simp [vwCl] at hq
  have hAO : va_AO "StreetNames$Town" s := va_AO.of (hts _ aw_town)
  obtain ⟨a0, ha0⟩ := arr_known rfl (hlw _ aw_int)
  obtain ⟨a1, ha1⟩ := arr_known rfl (hlw _ aw_long)
  obtain ⟨a2, ha2⟩ := arr_known rfl (hlw _ aw_byte)
  obtain ⟨a3, ha3⟩ := arr_known rfl (hlw _ aw_boolean)
  obtain ⟨a4, ha4⟩ := town_known hAO
  -- the text
  obtain ⟨adK, adV, hvS, htm⟩ := vk_Sof (args := #[Value.ref b]) (s := s) (N := 1) (tm := fun _ => .string "StreetNames$Tape" 19) (len := [78]) (byt := [txB]) (A := fun q : Nat => s.heap.size ≤ q)
    (fun i hi => match i, hi with
      | 0, _ => by decide
      | i + 1, hi => absurd hi (by omega))
    (fun i hi => hgs _ (by decide +kernel)) (fun i hi => hgs _ (by decide +kernel)) (fun i hi => hgs _ (by decide +kernel))
    (fun i hi => match i, hi with
      | 0, _ => hgs _ (by decide +kernel)
      | i + 1, hi => absurd hi (by omega))
    (fun i hi j hj => match i, hi with
      | 0, _ => hgs _ (tx_words j hj)
      | i + 1, hi => absurd hi (by omega))
    (fun i j hi hj hne => absurd (by omega) hne) hAn
  have hR : vk_R "StreetNames$Tape" 19 txS (adK 0) s := vk_R.of (A := #[Value.ref b]) (hts _ lwg_str) (htm 0 (by decide))
  have hZ1 : va_Z "java/lang/String" "COMPACT_STRINGS" "Z" (.int 1) (fun q : Nat => s.heap.size ≤ q) s s.heap := va_Zof (hts _ lwg_cs) (hts _ lwg_is) (va_eqi (hgs _ (by decide +kernel))) hAn
  have hZ2 : va_Zq "jdk/internal/util/Preconditions" "SIOOBE_FORMATTER" "Ljava/util/function/BiFunction;" (fun q : Nat => s.heap.size ≤ q) s s.heap := va_Zqof (hts _ lwg_sf) (hts _ lwg_ip) (hgs _ (by decide +kernel)) hAn
  have hvS' : vk_S 1 [78] [txB] (fun _ => adK 0) (fun _ => adV 0) (fun q : Nat => s.heap.size ≤ q) s s.heap := by
    refine ⟨fun i hi => ?_, fun i j hi hj _ => by omega⟩
    obtain rfl : i = 0 := by omega
    exact hvS.1 0 (by decide)
  let G : GX := ((dC, dI), (fun k => if k = 0 then a0 else if k = 1 then a1 else if k = 2 then a2 else if k = 3 then a3 else a4), (fun q : Nat => s.heap.size ≤ q), b, adK 0, adV 0, L, xs)
  have hK : va_K (gxD G) vwCl (tysL G) s := by
    refine ⟨hKc, fun k q hq => ?_⟩
    match k, hq with
    | 0, hq => cases hq; exact ha0
    | 1, hq => cases hq; exact ha1
    | 2, hq => cases hq; exact ha2
    | 3, hq => cases hq; exact ha3
    | 4, hq => cases hq; exact ha4
    | k + 5, hq => simp [tysL] at hq
  have hcx : cx G x code maxLocals ret p s m #[Value.ref b] meth c := ⟨hx, hb, hml, hr, hown, fun hn => absurd hn (by decide), fun w h1 _ => hts w h1, hlocks, hK, hX, hbl, Nat.not_le.mpr hbl, fun q hq => hq, hR, hvS', hZ1, hZ2, hAO, fun own idx z host hm => va_Nw.of rfl (hts _ hm)⟩
  let ad : Nat → Nat := fun r => if r = 1 then b else adK 0
  have hw : wd G ad (h00 L xs) s.heap := ⟨h00_good (G := G) (show L < 2147483648 by omega), rfl, rfl, fun k q hq => by simp [wo, h00] at hq, fun i j p q h1 => by simp [wo, h00] at h1, fun k q hq => by simp [wo, h00] at hq⟩
  have hl := lv_entry ([.ref b]) (n := 4) (Nat.le_of_ble_eq_true rfl)
  rw [lg_entry_eq]
  generalize (lg_sl ([.ref b]) ++ List.replicate (4 - (lg_sl ([.ref b])).length) Slot.unset).toArray = ls at hl ⊢
  have hfr : fr ad (h00 L xs).1 [some (xR 1), none, none, none] ls := by
    refine ⟨hl.1, hl.2.1, fun i v hv => ?_⟩
    rcases i with _ | _ | _ | _ | i
    · simp only [x_lg, Option.some.injEq] at hv
      subst hv
      exact ⟨lv_at hl 0 rfl, show 1 < 3 by decide⟩
    all_goals simp [x_lg] at hv
  have key := Wp_snd (l := l) (G := G) (law_wp L hL xs) x code maxLocals ret p e room_1 s m #[Value.ref b] below meth c s.heap [] ls 0 0 600000 7302250 ad ad 3 rfl hcx (by decide) (by decide) rfl rfl (Nat.le_refl _) (Nat.le_refl _) hw va_S.rf hfr rfl (fun v hv => by cases hv) (Nat.le_refl _) (fun _ _ => rfl)
  intro T hT X
  obtain ⟨t, k1, k2⟩ := key T hT X
  exact ⟨t, k1, ends_ok (G := G) (fun q hq => hq) k2⟩

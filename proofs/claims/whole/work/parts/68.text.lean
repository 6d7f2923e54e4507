/-! ===== the text constant's charAt (by program wip/whole/gentext.py) ===== -/
def jy_cA : MethodName := ⟨"java/lang/String", "charAt", "(I)C"⟩
set_option maxRecDepth 100000 in
theorem jc_cA : Cond.code jy_cA prog_17_method_56_code 2 (some .char) ∈ lwg := lwg_at 159 (by decide +kernel)
theorem ji_cA : Cond.initialized jy_cA.cls ∈ lwg := lwg_at 122 (by decide +kernel)
theorem jm_cA : Cond.instanceMethod jy_cA ∈ lwg := lwg_at 157 (by decide +kernel)
theorem jz_cA : Cond.selects jy_cA.cls jy_cA jy_cA ∈ lwg := lwg_at 158 (by decide +kernel)
def jy_iL : MethodName := ⟨"java/lang/String", "isLatin1", "()Z"⟩
set_option maxRecDepth 100000 in
theorem jc_iL : Cond.code jy_iL prog_17_method_154_code 1 (some .boolean) ∈ lwg := lwg_at 163 (by decide +kernel)
theorem ji_iL : Cond.initialized jy_iL.cls ∈ lwg := lwg_at 122 (by decide +kernel)
theorem jm_iL : Cond.instanceMethod jy_iL ∈ lwg := lwg_at 161 (by decide +kernel)
theorem jz_iL : Cond.selects jy_iL.cls jy_iL jy_iL ∈ lwg := lwg_at 162 (by decide +kernel)
def jy_lC : MethodName := ⟨"java/lang/StringLatin1", "charAt", "([BI)C"⟩
set_option maxRecDepth 100000 in
theorem jc_lC : Cond.code jy_lC prog_18_method_2_code 2 (some .char) ∈ lwg := lwg_at 168 (by decide +kernel)
theorem ji_lC : Cond.initialized jy_lC.cls ∈ lwg := lwg_at 123 (by decide +kernel)
theorem js_lC : Cond.static jy_lC ∈ lwg := lwg_at 167 (by decide +kernel)
def jy_cI : MethodName := ⟨"java/lang/String", "checkIndex", "(II)V"⟩
set_option maxRecDepth 100000 in
theorem jc_cI : Cond.code jy_cI prog_17_method_155_code 2 none ∈ lwg := lwg_at 171 (by decide +kernel)
theorem ji_cI : Cond.initialized jy_cI.cls ∈ lwg := lwg_at 122 (by decide +kernel)
theorem js_cI : Cond.static jy_cI ∈ lwg := lwg_at 170 (by decide +kernel)
def jy_pC : MethodName := ⟨"jdk/internal/util/Preconditions", "checkIndex", "(IILjava/util/function/BiFunction;)I"⟩
set_option maxRecDepth 100000 in
theorem jc_pC : Cond.code jy_pC prog_22_method_11_code 3 (some .int) ∈ lwg := lwg_at 176 (by decide +kernel)
theorem ji_pC : Cond.initialized jy_pC.cls ∈ lwg := lwg_at 124 (by decide +kernel)
theorem js_pC : Cond.static jy_pC ∈ lwg := lwg_at 175 (by decide +kernel)
theorem jl_iL : Cond.methodLink "java/lang/String" 492 jy_iL ∈ lwg := lwg_at 160 (by decide +kernel)
theorem jl_lC : Cond.methodLink "java/lang/String" 495 jy_lC ∈ lwg := lwg_at 166 (by decide +kernel)
theorem jl_cI : Cond.methodLink "java/lang/StringLatin1" 9 jy_cI ∈ lwg := lwg_at 169 (by decide +kernel)
theorem jl_pC : Cond.methodLink "java/lang/String" 1059 jy_pC ∈ lwg := lwg_at 174 (by decide +kernel)
theorem jf_cs : Cond.fieldLink "java/lang/String" 38 "java/lang/String" "COMPACT_STRINGS" "Z" ∈ lwg := lwg_at 164 (by decide +kernel)
theorem jf_sf : Cond.fieldLink "java/lang/String" 1053 "jdk/internal/util/Preconditions" "SIOOBE_FORMATTER" "Ljava/util/function/BiFunction;" ∈ lwg := lwg_at 172 (by decide +kernel)
theorem jf_co : Cond.fieldLink "java/lang/String" 15 "java/lang/String" "coder" "B" ∈ lwg := lwg_at 1835 (by decide +kernel)
theorem jf_va : Cond.fieldLink "java/lang/String" 9 "java/lang/String" "value" "[B" ∈ lwg := lwg_at 1836 (by decide +kernel)
theorem jd_cA_0 : decode prog_17_method_56_code 0 = .ok (.aload_n 0, 1) := by decide +kernel
theorem jd_cA_1 : decode prog_17_method_56_code 1 = .ok (.invokevirtual 492, 3) := by decide +kernel
theorem jd_cA_4 : decode prog_17_method_56_code 4 = .ok (.ifCond .eq 12, 3) := by decide +kernel
theorem jd_cA_7 : decode prog_17_method_56_code 7 = .ok (.aload_n 0, 1) := by decide +kernel
theorem jd_cA_8 : decode prog_17_method_56_code 8 = .ok (.getfield 9, 3) := by decide +kernel
theorem jd_cA_11 : decode prog_17_method_56_code 11 = .ok (.iload_n 1, 1) := by decide +kernel
theorem jd_cA_12 : decode prog_17_method_56_code 12 = .ok (.invokestatic 495, 3) := by decide +kernel
theorem jd_cA_15 : decode prog_17_method_56_code 15 = .ok (.ireturn, 1) := by decide +kernel
theorem jd_iL_0 : decode prog_17_method_154_code 0 = .ok (.getstatic 38, 3) := by decide +kernel
theorem jd_iL_3 : decode prog_17_method_154_code 3 = .ok (.ifCond .eq 14, 3) := by decide +kernel
theorem jd_iL_6 : decode prog_17_method_154_code 6 = .ok (.aload_n 0, 1) := by decide +kernel
theorem jd_iL_7 : decode prog_17_method_154_code 7 = .ok (.getfield 15, 3) := by decide +kernel
theorem jd_iL_10 : decode prog_17_method_154_code 10 = .ok (.ifCond .ne 7, 3) := by decide +kernel
theorem jd_iL_13 : decode prog_17_method_154_code 13 = .ok (.iconst 1, 1) := by decide +kernel
theorem jd_iL_14 : decode prog_17_method_154_code 14 = .ok (.goto 4, 3) := by decide +kernel
theorem jd_iL_18 : decode prog_17_method_154_code 18 = .ok (.ireturn, 1) := by decide +kernel
theorem jd_lC_0 : decode prog_18_method_2_code 0 = .ok (.iload_n 1, 1) := by decide +kernel
theorem jd_lC_1 : decode prog_18_method_2_code 1 = .ok (.aload_n 0, 1) := by decide +kernel
theorem jd_lC_2 : decode prog_18_method_2_code 2 = .ok (.arraylength, 1) := by decide +kernel
theorem jd_lC_3 : decode prog_18_method_2_code 3 = .ok (.invokestatic 9, 3) := by decide +kernel
theorem jd_lC_6 : decode prog_18_method_2_code 6 = .ok (.aload_n 0, 1) := by decide +kernel
theorem jd_lC_7 : decode prog_18_method_2_code 7 = .ok (.iload_n 1, 1) := by decide +kernel
theorem jd_lC_8 : decode prog_18_method_2_code 8 = .ok (.baload, 1) := by decide +kernel
theorem jd_lC_9 : decode prog_18_method_2_code 9 = .ok (.sipush 255, 3) := by decide +kernel
theorem jd_lC_12 : decode prog_18_method_2_code 12 = .ok (.iand, 1) := by decide +kernel
theorem jd_lC_13 : decode prog_18_method_2_code 13 = .ok (.i2c, 1) := by decide +kernel
theorem jd_lC_14 : decode prog_18_method_2_code 14 = .ok (.ireturn, 1) := by decide +kernel
theorem jd_cI_0 : decode prog_17_method_155_code 0 = .ok (.iload_n 0, 1) := by decide +kernel
theorem jd_cI_1 : decode prog_17_method_155_code 1 = .ok (.iload_n 1, 1) := by decide +kernel
theorem jd_cI_2 : decode prog_17_method_155_code 2 = .ok (.getstatic 1053, 3) := by decide +kernel
theorem jd_cI_5 : decode prog_17_method_155_code 5 = .ok (.invokestatic 1059, 3) := by decide +kernel
theorem jd_cI_8 : decode prog_17_method_155_code 8 = .ok (.pop, 1) := by decide +kernel
theorem jd_cI_9 : decode prog_17_method_155_code 9 = .ok (.return_, 1) := by decide +kernel
theorem jd_pC_0 : decode prog_22_method_11_code 0 = .ok (.iload_n 0, 1) := by decide +kernel
theorem jd_pC_1 : decode prog_22_method_11_code 1 = .ok (.ifCond .lt 8, 3) := by decide +kernel
theorem jd_pC_4 : decode prog_22_method_11_code 4 = .ok (.iload_n 0, 1) := by decide +kernel
theorem jd_pC_5 : decode prog_22_method_11_code 5 = .ok (.iload_n 1, 1) := by decide +kernel
theorem jd_pC_6 : decode prog_22_method_11_code 6 = .ok (.if_icmp .lt 10, 3) := by decide +kernel
theorem jd_pC_16 : decode prog_22_method_11_code 16 = .ok (.iload_n 0, 1) := by decide +kernel
theorem jd_pC_17 : decode prog_22_method_11_code 17 = .ok (.ireturn, 1) := by decide +kernel
def QH (v : Option Value) : Array Value → State → Outcome → State → Prop := fun _ st o t => o = .returned v ∧ t.heap = st.heap
theorem run_h {p : Program} {l : Launch} {e : Env} {R : Room} {s : State} {m : MethodId} {args : Array Value} {below : List Frame} {meth : Method} {c : Code} {H : Heap} {locs : List Loc} {cells slots pc : Nat} {Q' : State → Prop} {ls : Array Slot} {st0 rest : List Value} {v : Option Value} {a : Array Value}
    (hr : va_Run p l e R s m args below meth c H locs cells slots 0 0 (F0 m pc ls st0) rest (QH v a) (fun _ => False))
    (kk : W p l e R s m args below meth c H locs cells slots Q' (F0 m (pc + 3) ls (v.toList ++ rest))) : W p l e R s m args below meth c H locs cells slots Q' (F0 m pc ls st0) := by
  intro T hT X
  obtain ⟨v', st₀, t, T', L, h0, X', hL, e1, e2, ⟨q1, q2⟩, st⟩ := hr T hT X
  cases q1
  have hL0 : L = [] := by
    rcases L with _ | ⟨a, L⟩
    · rfl
    · exact (hL a List.mem_cons_self).elim
  subst hL0
  rw [List.append_nil] at X'
  obtain ⟨t2, a1, b1⟩ := kk T' (by rw [e1, q2, h0]) X'
  exact ⟨t2, st t2 a1, b1⟩
def PcX (G : GX) : State → Prop := fun U => xsF G U U.heap
theorem PcX_blind {G : GX} {as : List Value} : FrameBlind (va_Pc as (PcX G)) := by
  intro a U g mk hq
  obtain ⟨e, a1, a2, a3, a4, a5, a6⟩ := hq
  have hal : U.vm.Alike (U.calling g mk a).vm := Vm.Alike.refl U.vm
  exact ⟨e, vk_R.same (u := U) rfl a1, a2.moved hal, a3.moved hal, a4.moved hal, a5.moved hal, fun own idx z host hm => va_Nw.same rfl (u := U) rfl (a6 own idx z host hm)⟩
abbrev jr (k : Nat) : Room := { frames := k, cells := 0, slots := 0, locals := 40 * k }
set_option maxHeartbeats 1000000 in
theorem jM_pC (l : Launch) (G : GX) (i n : Int32) (v : Value) (h0 : ¬ i < 0) (hn : i < n) (hv : v = .null ∨ ∃ t, v = .ref t) : Met l jy_pC (Cond.code jy_pC prog_22_method_11_code 3 (some .int) :: lwg) (jr 1) (va_Pc ([.int i, .int n, v]) (PcX G)) (QH (some (.int i))) 0 0 (fun _ => False) := by
  refine Met.ofW (cc := prog_22_method_11_code) (maxL := 3) (ret := (some .int)) (by decide +kernel) rfl ?_
  intro p e s m args below meth c s₁ B hml hvv
  obtain ⟨rfl, hxs⟩ := hvv
  have hx := B.exec
  have hb := B.bytes
  have hr := B.returns
  have hlocks := B.notSynchronized
  have hts' := atoms_spec (ws := Cond.code jy_pC prog_22_method_11_code 3 (some .int) :: lwg) B.pre
  have hts : ∀ w ∈ lwg, w.before _ s = true := fun w hw => hts' w (List.mem_cons_of_mem _ hw)
  have hown : s.vm.findClass jy_pC.cls = some m.cls := findClass_of_methodNamed B.named
  have hS : va_S (gxA G) s.heap s.heap [] := va_S.rf
  have hl := lv_entry ([.int i, .int n, v]) (n := 3) (by rcases hv with rfl | ⟨t, rfl⟩ <;> exact Nat.le_of_ble_eq_true rfl)
  rw [lg_entry_eq]
  generalize (lg_sl ([.int i, .int n, v]) ++ List.replicate (3 - (lg_sl ([.int i, .int n, v])).length) Slot.unset).toArray = ls at hl ⊢
  have hl0 : ls[0]? = some (.val (.int i)) := lv_at hl 0 rfl
  have hl1 : ls[1]? = some (.val (.int n)) := lv_at hl 1 rfl
  refine lv_iload_n hx hb jd_pC_0 rfl hl0 ?_
  refine lv_if_lt (tgt := 9) hx hb jd_pC_1 (by decide) (fun z => absurd z h0) (fun _ => ?_)
  refine lv_iload_n hx hb jd_pC_4 rfl hl0 ?_
  refine lv_iload_n hx hb jd_pC_5 rfl hl1 ?_
  refine lv_icmp_lt (tgt := 16) hx hb jd_pC_6 (by decide) (fun _ => ?_) (fun z => absurd hn z)
  refine lv_iload_n hx hb jd_pC_16 rfl hl0 ?_
  exact W.iret hx hb hr (fun t ht hW => ⟨rfl, ht⟩) (fun q hq => by cases hq) jd_pC_17 hlocks

set_option maxHeartbeats 1000000 in
theorem jM_cI (l : Launch) (G : GX) (i n : Int32) (h0 : ¬ i < 0) (hn : i < n) : Met l jy_cI (Cond.code jy_cI prog_17_method_155_code 2 none :: lwg) (jr 2) (va_Pc ([.int i, .int n]) (PcX G)) (QH (none)) 0 0 (fun _ => False) := by
  refine Met.ofW (cc := prog_17_method_155_code) (maxL := 2) (ret := none) (by decide +kernel) rfl ?_
  intro p e s m args below meth c s₁ B hml hvv
  obtain ⟨rfl, hxs⟩ := hvv
  have hx := B.exec
  have hb := B.bytes
  have hr := B.returns
  have hlocks := B.notSynchronized
  have hts' := atoms_spec (ws := Cond.code jy_cI prog_17_method_155_code 2 none :: lwg) B.pre
  have hts : ∀ w ∈ lwg, w.before _ s = true := fun w hw => hts' w (List.mem_cons_of_mem _ hw)
  have hown : s.vm.findClass jy_cI.cls = some m.cls := findClass_of_methodNamed B.named
  have hS : va_S (gxA G) s.heap s.heap [] := va_S.rf
  have hl := lv_entry ([.int i, .int n]) (n := 2) (Nat.le_of_ble_eq_true rfl)
  rw [lg_entry_eq]
  generalize (lg_sl ([.int i, .int n]) ++ List.replicate (2 - (lg_sl ([.int i, .int n])).length) Slot.unset).toArray = ls at hl ⊢
  have hl0 : ls[0]? = some (.val (.int i)) := lv_at hl 0 rfl
  have hl1 : ls[1]? = some (.val (.int n)) := lv_at hl 1 rfl
  refine lv_iload_n hx hb jd_cI_0 rfl hl0 ?_
  refine lv_iload_n hx hb jd_cI_1 rfl hl1 ?_
  have key : ∀ v : Value, (v = .null ∨ ∃ t, v = .ref t) → W p l e (headSpec (Cond.code jy_cI prog_17_method_155_code 2 none :: lwg) (jr 2)).room s m ([Value.int i, .int n] : List Value).toArray below meth c s.heap [] 0 0 (MQ below (QH none) ([Value.int i, .int n] : List Value).toArray s 0 0 (fun _ => False)) (F0 m 5 ls (v :: .int n :: .int i :: [])) := by
    intro v hv
    refine run_h (va_runS (As := [.int i, .int n, v]) (rest := []) ⟨hx, hb, hml, hown, hts⟩ (jM_pC l G i n v h0 hn hv) ⟨callB_of 3 hts (lwg_good jc_pC) rfl rfl rfl (hts _ ji_pC) (hts _ jl_pC) ⟨by decide +kernel, by decide +kernel, by decide +kernel⟩ ⟨Nat.le_of_ble_eq_true rfl, Nat.le_of_ble_eq_true rfl⟩, hts _ js_pC⟩ ⟨PcX_blind, fun U hU hW => ⟨rfl, xs_move hxs hS hU hW⟩⟩ rfl rfl hl.1 rfl (lv_room (Nat.le_of_ble_eq_true rfl)) jd_cI_5 ⟨Nat.le_refl _, Nat.le_refl _⟩) ?_
    refine lv_pop hx hb jd_cI_8 rfl ?_
    exact W.vret hx hb hr (fun t ht hW => ⟨rfl, ht⟩) (fun q hq => by cases hq) jd_cI_9 hlocks
  rcases hxs.2.2.2.1 with hZ | ⟨t, hZ⟩
  · exact va_gets (C := "jdk/internal/util/Preconditions") hx hb hZ hS hown (hts _ jf_sf) (fun x h => h) jd_cI_2 (key _ (Or.inl rfl))
  · exact va_gets (C := "jdk/internal/util/Preconditions") hx hb hZ hS hown (hts _ jf_sf) (fun x h => h) jd_cI_2 (key _ (Or.inr ⟨_, rfl⟩))

theorem tx_ok : ∀ k, k < 78 → (((txB.getD k 0) &&& 255).toUInt32 % 65536).toInt32 = txB.getD k 0 ∧ narrow .char (.int (txB.getD k 0)) = .int (txB.getD k 0) := by decide +kernel
set_option maxHeartbeats 1000000 in
theorem jM_lC (l : Launch) (G : GX) (k : Nat) (hk : k < 78) : Met l jy_lC (Cond.code jy_lC prog_18_method_2_code 2 (some .char) :: lwg) (jr 3) (va_Pc ([.ref (gxv G), .int (Int32.ofNat k)]) (PcX G)) (QH (some (.int (txB.getD k 0)))) 0 0 (fun _ => False) := by
  refine Met.ofW (cc := prog_18_method_2_code) (maxL := 2) (ret := (some .char)) (by decide +kernel) rfl ?_
  intro p e s m args below meth c s₁ B hml hvv
  obtain ⟨rfl, hxs⟩ := hvv
  have hx := B.exec
  have hb := B.bytes
  have hr := B.returns
  have hlocks := B.notSynchronized
  have hts' := atoms_spec (ws := Cond.code jy_lC prog_18_method_2_code 2 (some .char) :: lwg) B.pre
  have hts : ∀ w ∈ lwg, w.before _ s = true := fun w hw => hts' w (List.mem_cons_of_mem _ hw)
  have hown : s.vm.findClass jy_lC.cls = some m.cls := findClass_of_methodNamed B.named
  have hS : va_S (gxA G) s.heap s.heap [] := va_S.rf
  have hl := lv_entry ([.ref (gxv G), .int (Int32.ofNat k)]) (n := 2) (Nat.le_of_ble_eq_true rfl)
  rw [lg_entry_eq]
  generalize (lg_sl ([.ref (gxv G), .int (Int32.ofNat k)]) ++ List.replicate (2 - (lg_sl ([.ref (gxv G), .int (Int32.ofNat k)])).length) Slot.unset).toArray = ls at hl ⊢
  have hl0 : ls[0]? = some (.val (.ref (gxv G))) := lv_at hl 0 rfl
  have hl1 : ls[1]? = some (.val (.int (Int32.ofNat k))) := lv_at hl 1 rfl
  have hT := (hxs.2.1.1 0 (by decide)).2.2.2
  have hkr : r32 (k : Int) := ⟨by omega, by omega⟩
  obtain ⟨hin, hnt⟩ := in32 (n := 78) hkr (by omega) (by omega)
  rw [← nat32] at hin hnt
  have h0 : ¬ Int32.ofNat k < 0 := by rw [nat32]; exact fun z => absurd ((lt32 hkr (show r32 0 from ⟨by decide, by decide⟩)).mp z) (by omega)
  have hn : Int32.ofNat k < Int32.ofNat 78 := by rw [nat32, nat32]; exact (lt32 hkr ⟨by decide, by decide⟩).mpr (by omega)
  refine lv_iload_n hx hb jd_lC_0 rfl hl1 ?_
  refine lv_aload_n hx hb jd_lC_1 rfl hl0 ?_
  refine va_tlen hx hb hT hS (v := Int32.ofNat 78) rfl jd_lC_2 ?_
  refine run_h (va_runS (As := [.int (Int32.ofNat k), .int (Int32.ofNat 78)]) (rest := []) ⟨hx, hb, hml, hown, hts⟩ (jM_cI l G (Int32.ofNat k) (Int32.ofNat 78) h0 hn) ⟨callB_of 2 hts (lwg_good jc_cI) rfl rfl rfl (hts _ ji_cI) (hts _ jl_cI) ⟨by decide +kernel, by decide +kernel, by decide +kernel⟩ ⟨Nat.le_of_ble_eq_true rfl, Nat.le_of_ble_eq_true rfl⟩, hts _ js_cI⟩ ⟨PcX_blind, fun U hU hW => ⟨rfl, xs_move hxs hS hU hW⟩⟩ rfl rfl hl.1 rfl (lv_room (Nat.le_of_ble_eq_true rfl)) jd_lC_3 ⟨Nat.le_refl _, Nat.le_refl _⟩) ?_
  refine lv_aload_n hx hb jd_lC_6 rfl hl0 ?_
  refine lv_iload_n hx hb jd_lC_7 rfl hl1 ?_
  refine va_tb hx hb hT hS hin (v := .int (txB.getD k 0)) (by rw [hnt]; rfl) jd_lC_8 ?_
  refine lv_sipush (v := 255) hx hb jd_lC_9 (by decide) ?_
  refine lv_iand hx hb jd_lC_12 ?_
  refine lv_i2c hx hb jd_lC_13 (tx_ok k hk).1 ?_
  exact W.zret hx hb hr (tx_ok k hk).2 (fun t ht hW => ⟨rfl, ht⟩) (fun q hq => by cases hq) jd_lC_14 hlocks

set_option maxHeartbeats 1000000 in
theorem jM_iL (l : Launch) (G : GX)   : Met l jy_iL (Cond.code jy_iL prog_17_method_154_code 1 (some .boolean) :: lwg) (jr 1) (va_Pc ([.ref (gxs G)]) (PcX G)) (QH (some (.int 1))) 0 0 (fun _ => False) := by
  refine Met.ofW (cc := prog_17_method_154_code) (maxL := 1) (ret := (some .boolean)) (by decide +kernel) rfl ?_
  intro p e s m args below meth c s₁ B hml hvv
  obtain ⟨rfl, hxs⟩ := hvv
  have hx := B.exec
  have hb := B.bytes
  have hr := B.returns
  have hlocks := B.notSynchronized
  have hts' := atoms_spec (ws := Cond.code jy_iL prog_17_method_154_code 1 (some .boolean) :: lwg) B.pre
  have hts : ∀ w ∈ lwg, w.before _ s = true := fun w hw => hts' w (List.mem_cons_of_mem _ hw)
  have hown : s.vm.findClass jy_iL.cls = some m.cls := findClass_of_methodNamed B.named
  have hS : va_S (gxA G) s.heap s.heap [] := va_S.rf
  have hl := lv_entry ([.ref (gxs G)]) (n := 1) (Nat.le_of_ble_eq_true rfl)
  rw [lg_entry_eq]
  generalize (lg_sl ([.ref (gxs G)]) ++ List.replicate (1 - (lg_sl ([.ref (gxs G)])).length) Slot.unset).toArray = ls at hl ⊢
  have hl0 : ls[0]? = some (.val (.ref (gxs G))) := lv_at hl 0 rfl
  have hC := (hxs.2.1.1 0 (by decide)).2.1
  refine va_gets (C := "java/lang/String") hx hb hxs.2.2.1 hS hown (hts _ jf_cs) (fun x h => h) jd_iL_0 ?_
  refine lv_if_eq (tgt := 17) hx hb jd_iL_3 (by decide) (fun z => absurd z (by decide)) (fun _ => ?_)
  refine lv_aload_n hx hb jd_iL_6 rfl hl0 ?_
  refine vk_getf hx hb hC hS hown (hts _ jf_co) (fun x h => h) jd_iL_7 ?_
  refine lv_if_ne (tgt := 17) hx hb jd_iL_10 (by decide) (fun z => absurd rfl z) (fun _ => ?_)
  refine lv_iconst (v := 1) hx hb jd_iL_13 (by decide) ?_
  refine lv_goto (tgt := 18) hx hb jd_iL_14 (by decide) ?_
  exact W.zret hx hb hr (by decide) (fun t ht hW => ⟨rfl, ht⟩) (fun q hq => by cases hq) jd_iL_18 hlocks

set_option maxHeartbeats 1000000 in
theorem jM_cA (l : Launch) (G : GX) (k : Nat) (hk : k < 78) : Met l jy_cA (Cond.code jy_cA prog_17_method_56_code 2 (some .char) :: lwg) (jr 4) (va_Pc ([.ref (gxs G), .int (Int32.ofNat k)]) (PcX G)) (QH (some (.int (txB.getD k 0)))) 0 0 (fun _ => False) := by
  refine Met.ofW (cc := prog_17_method_56_code) (maxL := 2) (ret := (some .char)) (by decide +kernel) rfl ?_
  intro p e s m args below meth c s₁ B hml hvv
  obtain ⟨rfl, hxs⟩ := hvv
  have hx := B.exec
  have hb := B.bytes
  have hr := B.returns
  have hlocks := B.notSynchronized
  have hts' := atoms_spec (ws := Cond.code jy_cA prog_17_method_56_code 2 (some .char) :: lwg) B.pre
  have hts : ∀ w ∈ lwg, w.before _ s = true := fun w hw => hts' w (List.mem_cons_of_mem _ hw)
  have hown : s.vm.findClass jy_cA.cls = some m.cls := findClass_of_methodNamed B.named
  have hS : va_S (gxA G) s.heap s.heap [] := va_S.rf
  have hl := lv_entry ([.ref (gxs G), .int (Int32.ofNat k)]) (n := 2) (Nat.le_of_ble_eq_true rfl)
  rw [lg_entry_eq]
  generalize (lg_sl ([.ref (gxs G), .int (Int32.ofNat k)]) ++ List.replicate (2 - (lg_sl ([.ref (gxs G), .int (Int32.ofNat k)])).length) Slot.unset).toArray = ls at hl ⊢
  have hl0 : ls[0]? = some (.val (.ref (gxs G))) := lv_at hl 0 rfl
  have hl1 : ls[1]? = some (.val (.int (Int32.ofNat k))) := lv_at hl 1 rfl
  have hV := (hxs.2.1.1 0 (by decide)).2.2.1
  refine lv_aload_n hx hb jd_cA_0 rfl hl0 ?_
  refine run_h (va_runV (C := "java/lang/String") (As := []) (rest := []) ⟨hx, hb, hml, hown, hts⟩ (jM_iL l G) ⟨callB_of 0 hts (lwg_good jc_iL) rfl rfl rfl (hts _ ji_iL) (hts _ jl_iL) ⟨by decide +kernel, by decide +kernel, by decide +kernel⟩ ⟨Nat.le_of_ble_eq_true rfl, Nat.le_of_ble_eq_true rfl⟩, hts _ jm_iL, hts _ jz_iL⟩ ⟨PcX_blind, vk_recv hxs.2.1 (i := 0) (by decide) hS, fun U hU hW => ⟨rfl, xs_move hxs hS hU hW⟩⟩ rfl rfl hl.1 rfl (lv_room (Nat.le_of_ble_eq_true rfl)) jd_cA_1 ⟨Nat.le_refl _, Nat.le_refl _⟩) ?_
  refine lv_if_eq (tgt := 16) hx hb jd_cA_4 (by decide) (fun z => absurd z (by decide)) (fun _ => ?_)
  refine lv_aload_n hx hb jd_cA_7 rfl hl0 ?_
  refine vk_getf hx hb hV hS hown (hts _ jf_va) (fun x h => h) jd_cA_8 ?_
  refine lv_iload_n hx hb jd_cA_11 rfl hl1 ?_
  refine run_h (va_runS (As := [.ref (gxv G), .int (Int32.ofNat k)]) (rest := []) ⟨hx, hb, hml, hown, hts⟩ (jM_lC l G k hk) ⟨callB_of 2 hts (lwg_good jc_lC) rfl rfl rfl (hts _ ji_lC) (hts _ jl_lC) ⟨by decide +kernel, by decide +kernel, by decide +kernel⟩ ⟨Nat.le_of_ble_eq_true rfl, Nat.le_of_ble_eq_true rfl⟩, hts _ js_lC⟩ ⟨PcX_blind, fun U hU hW => ⟨rfl, xs_move hxs hS hU hW⟩⟩ rfl rfl hl.1 rfl (lv_room (Nat.le_of_ble_eq_true rfl)) jd_cA_12 ⟨Nat.le_refl _, Nat.le_refl _⟩) ?_
  exact W.zret hx hb hr (tx_ok k hk).2 (fun t ht hW => ⟨rfl, ht⟩) (fun q hq => by cases hq) jd_cA_15 hlocks

theorem ch_row {l : Launch} {G : GX} {y : MethodName} {cc : ByteArray} {ml : Nat} {rt : Option FieldType} {p : Program} {e : Env} {Rm : Room} {s : State} {m : MethodId} {args : Array Value} {below : List Frame} {meth : Method} {c : Code} {pc : Nat} {H : Heap} {locs : List Loc} {ls : Array Slot} {cells slots idx : Nat} {rest : List Value} {i : Int} {Q : State → Prop}
    (hcx : cx G y cc ml rt p s m args meth c) (hS : va_S (gxA G) s.heap H locs) (hls : ls.size = ml) (hlink : (Cond.methodLink y.cls idx ⟨"java/lang/String", "charAt", "(I)C"⟩).before args s = true) (hdec : decode cc pc = .ok (.invokevirtual idx, 3)) (h6 : 6 ≤ Rm.frames) (h240 : 240 ≤ Rm.locals) (h8 : (rest.map fun v => v.category).sum ≤ 8) (hc : cells ≤ Rm.cells) (hs : slots ≤ Rm.slots) (h0 : 0 ≤ i) (h78 : i < 78)
    (kk : W p l e Rm s m args below meth c H locs cells slots Q (F0 m (pc + 3) ls (.int (txB.getD i.toNat 0) :: rest))) : W p l e Rm s m args below meth c H locs cells slots Q (F0 m pc ls (.int (Int32.ofInt i) :: .ref (gxs G) :: rest)) := by
  obtain ⟨HX, HB, hml, hrt, hown, hnm, hts, hlocks, hK, hXb, hbl, hbA, hA, hxs⟩ := hcx
  have hts' : ∀ w ∈ lwg, w.before args s = true := fun w hw => hts w (lwg_in hw).1 (lwg_in hw).2
  obtain ⟨k, rfl⟩ : ∃ k : Nat, i = (k : Int) := ⟨i.toNat, by omega⟩
  have hk : k < 78 := by omega
  rw [← nat32]
  rw [Int.toNat_natCast] at kk
  refine run_h (va_runV (C := "java/lang/String") (As := [.int (Int32.ofNat k)]) (rest := rest) ⟨HX, HB, hml, hown, hts'⟩ (jM_cA l G k hk) ⟨callB_of 1 hts' (lwg_good jc_cA) rfl rfl rfl (hts' _ ji_cA) hlink ⟨by decide +kernel, by decide +kernel, by decide +kernel⟩ ⟨by show 4 + 1 ≤ Rm.frames; omega, by show 8 + (2 + 11) + 40 * 4 ≤ Rm.locals; omega⟩, hts' _ jm_cA, hts' _ jz_cA⟩ ⟨PcX_blind, vk_recv hxs.2.1 (i := 0) (by decide) hS, fun U hU hW => ⟨rfl, xs_move hxs hS hU hW⟩⟩ rfl rfl hls rfl (lv_room h8) hdec ⟨hc, hs⟩) kk

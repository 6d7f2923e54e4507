/-! ===== the classes' words (by program wip/whole/gencls.py) ===== -/
def lwg : List Cond := lw_tbl.filter goodWord
theorem lwg_mem {w : Cond} (h1 : w ∈ lw_tbl) (h2 : goodWord w = true) : w ∈ lwg := List.mem_filter.mpr ⟨h1, h2⟩
theorem lwg_in {w : Cond} (h : w ∈ lwg) : w ∈ lw_tbl ∧ goodWord w = true := List.mem_filter.mp h
def clsOk (ci : Nat) (C : String) (T : u_T) (N : Nat) : Prop := (∀ w ∈ u_ws C T N, w ∈ lwg) ∧ (∀ k, k < N → parseFieldDescriptor (T k).2.2.1 = some (tyC ci k)) ∧ (∀ a, a < N → ∀ b, b < N → a ≠ b → (T a).2.1 ≠ (T b).2.1) ∧ Cond.instantiable C N ∈ lwg ∧ Cond.initialized C ∈ lwg
theorem lwg_pl {ws : List Cond} (ps : List Nat) (h : ws = ps.filterMap (fun i => lw_tbl[i]?)) (h2 : ws.all goodWord = true) : ∀ w ∈ ws, w ∈ lwg := by
  intro w hw
  have h1 := List.all_eq_true.mp h2 w hw
  rw [h] at hw
  obtain ⟨i, -, hi⟩ := List.mem_filterMap.mp hw
  exact lwg_mem (List.mem_of_getElem? hi) h1
theorem lwg_at {w : Cond} (p : Nat) (h : (decide (lw_tbl[p]? = some w) && goodWord w) = true) : w ∈ lwg := by
  simp only [Bool.and_eq_true, decide_eq_true_eq] at h
  exact lwg_mem (List.mem_of_getElem? h.1) h.2
set_option maxRecDepth 100000 in
theorem clsOk_0 : clsOk 0 RX0 TX0 1 := ⟨lwg_pl [423] (by decide +kernel) (by decide +kernel), tyX0_ok, nmX0, lwg_at 417 (by decide +kernel), lwg_at 132 (by decide +kernel)⟩
set_option maxRecDepth 100000 in
theorem clsOk_1 : clsOk 1 RX1 TX1 4 := ⟨lwg_pl [330, 332, 334, 336] (by decide +kernel) (by decide +kernel), tyX1_ok, nmX1, lwg_at 311 (by decide +kernel), lwg_at 131 (by decide +kernel)⟩
set_option maxRecDepth 100000 in
theorem clsOk_2 : clsOk 2 RX2 TX2 3 := ⟨lwg_pl [303, 305, 307] (by decide +kernel) (by decide +kernel), tyX2_ok, nmX2, lwg_at 286 (by decide +kernel), lwg_at 130 (by decide +kernel)⟩
set_option maxRecDepth 100000 in
theorem clsOk_3 : clsOk 3 RX3 TX3 7 := ⟨lwg_pl [479, 481, 483, 485, 487, 489, 491] (by decide +kernel) (by decide +kernel), tyX3_ok, nmX3, lwg_at 466 (by decide +kernel), lwg_at 134 (by decide +kernel)⟩
set_option maxRecDepth 100000 in
theorem clsOk_4 : clsOk 4 RX4 TX4 3 := ⟨lwg_pl [508, 510, 512] (by decide +kernel) (by decide +kernel), tyX4_ok, nmX4, lwg_at 497 (by decide +kernel), lwg_at 135 (by decide +kernel)⟩
set_option maxRecDepth 100000 in
theorem clsOk_5 : clsOk 5 RX5 TX5 10 := ⟨lwg_pl [444, 446, 448, 450, 452, 454, 456, 458, 460, 462] (by decide +kernel) (by decide +kernel), tyX5_ok, nmX5, lwg_at 427 (by decide +kernel), lwg_at 133 (by decide +kernel)⟩
set_option maxRecDepth 100000 in
theorem clsOk_6 : clsOk 6 RX6 TX6 10 := ⟨lwg_pl [395, 397, 399, 401, 403, 405, 407, 409, 411, 413] (by decide +kernel) (by decide +kernel), tyX6_ok, nmX6, lwg_at 215 (by decide +kernel), lwg_at 127 (by decide +kernel)⟩
set_option maxRecDepth 100000 in
theorem clsOk_7 : clsOk 7 RX7 TX7 11 := ⟨lwg_pl [261, 263, 265, 267, 269, 271, 273, 275, 277, 279, 281] (by decide +kernel) (by decide +kernel), tyX7_ok, nmX7, lwg_at 227 (by decide +kernel), lwg_at 129 (by decide +kernel)⟩
set_option maxRecDepth 100000 in
theorem clsOk_8 : clsOk 8 RX8 TX8 3 := ⟨lwg_pl [205, 207, 209] (by decide +kernel) (by decide +kernel), tyX8_ok, nmX8, lwg_at 150 (by decide +kernel), lwg_at 121 (by decide +kernel)⟩
set_option maxRecDepth 100000 in
theorem clsOk_9 : clsOk 9 RX9 TX9 8 := ⟨lwg_pl [365, 367, 369, 371, 373, 375, 377, 379] (by decide +kernel) (by decide +kernel), tyX9_ok, nmX9, lwg_at 221 (by decide +kernel), lwg_at 128 (by decide +kernel)⟩
set_option maxRecDepth 100000 in
theorem clsOk_10 : clsOk 10 RX11 TX11 12 := ⟨lwg_pl [527, 529, 531, 533, 535, 537, 539, 541, 543, 545, 547, 549] (by decide +kernel) (by decide +kernel), tyX11_ok, nmX11, lwg_at 142 (by decide +kernel), lwg_at 120 (by decide +kernel)⟩
set_option maxRecDepth 100000 in
theorem clsOk_11 : clsOk 11 RX12 TX12 34 := ⟨lwg_pl [1259, 1261, 1263, 1265, 1267, 1269, 1271, 1273, 1275, 1277, 1279, 1281, 1283, 1285, 1287, 1289, 1291, 1293, 1295, 1297, 1299, 1301, 1303, 1305, 1307, 1309, 1311, 1313, 1315, 1317, 1319, 1321, 1323, 1325] (by decide +kernel) (by decide +kernel), tyX12_ok, nmX12, lwg_at 1216 (by decide +kernel), lwg_at 136 (by decide +kernel)⟩
theorem cls_ok : ∀ (ci : Nat) (C : String) (T : u_T) (N : Nat), vwCl[ci]? = some (C, T, N) → clsOk ci C T N := by
  intro ci C T N h
  match ci, h with
  | 0, h => cases h; exact clsOk_0
  | 1, h => cases h; exact clsOk_1
  | 2, h => cases h; exact clsOk_2
  | 3, h => cases h; exact clsOk_3
  | 4, h => cases h; exact clsOk_4
  | 5, h => cases h; exact clsOk_5
  | 6, h => cases h; exact clsOk_6
  | 7, h => cases h; exact clsOk_7
  | 8, h => cases h; exact clsOk_8
  | 9, h => cases h; exact clsOk_9
  | 10, h => cases h; exact clsOk_10
  | 11, h => cases h; exact clsOk_11
  | k + 12, h => simp [vwCl] at h
theorem aw_int : Cond.arrayClass .int ∈ lwg := lwg_at 284 (by decide +kernel)
theorem aw_long : Cond.arrayClass .long ∈ lwg := lwg_at 213 (by decide +kernel)
theorem aw_byte : Cond.arrayClass .byte ∈ lwg := lwg_at 212 (by decide +kernel)
theorem aw_boolean : Cond.arrayClass .boolean ∈ lwg := lwg_at 1328 (by decide +kernel)
theorem aw_town : Cond.arrayOver (.object "StreetNames$Town") ∈ lw_tbl := List.mem_of_getElem? (i := 503) (by decide +kernel)
theorem ow_inst : Cond.instanceMethod Lib.objectInit ∈ lwg := lwg_at 147 (by decide +kernel)
set_option maxRecDepth 100000 in
theorem ow_code : Cond.code Lib.objectInit ⟨#[0xb1]⟩ 1 none ∈ lwg := lwg_at 148 (by decide +kernel)
theorem mw_max_st : Cond.static Lib.Math.max.name ∈ lwg := lwg_at 905 (by decide +kernel)
set_option maxRecDepth 100000 in
theorem mw_max_code : Cond.code Lib.Math.max.name Lib.Math.max.code 2 (some .int) ∈ lwg := lwg_at 906 (by decide +kernel)
theorem mw_min_st : Cond.static Lib.Math.min.name ∈ lwg := lwg_at 851 (by decide +kernel)
set_option maxRecDepth 100000 in
theorem mw_min_code : Cond.code Lib.Math.min.name Lib.Math.min.code 2 (some .int) ∈ lwg := lwg_at 852 (by decide +kernel)
theorem mw_ini : Cond.initialized "java/lang/Math" ∈ lwg := lwg_at 140 (by decide +kernel)
theorem yw_nat : Cond.native arraycopyName ∈ lwg := lwg_at 794 (by decide +kernel)
theorem yw_st : Cond.static arraycopyName ∈ lwg := lwg_at 793 (by decide +kernel)
theorem yw_ini : Cond.initialized "java/lang/System" ∈ lwg := lwg_at 139 (by decide +kernel)
theorem yw_words : nativeFrameWords "java/lang/System" "arraycopy" 5 ≤ 20 := by decide +kernel
theorem fT_ref : ∀ ci, ci < 12 → ∀ k, k < 40 → fT ci k = 2 → (match tyC ci k with | .object _ => true | .array _ => true | _ => false) = true := by decide +kernel
theorem nF_lt : ∀ ci, ci < 12 → nF ci < 40 := by decide +kernel

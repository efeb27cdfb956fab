/-! the words of the tables -/
def g_gw (w : Cond) : Bool := goodWord w || q_isN w
def g_tbl : List Cond := lw_tbl.filter g_gw
theorem g_tb0 : ∀ w ∈ k2_sels lw_privs, g_gw w = true → w ∈ g_tbl := fun w h g => List.mem_filter.mpr ⟨List.mem_append_left _ h, g⟩
theorem g_tb1 : ∀ w ∈ tables_1_1, g_gw w = true → w ∈ g_tbl := fun w h g => List.mem_filter.mpr ⟨List.mem_append_right _ (show w ∈ tables_1 from List.mem_append_left _ h), g⟩
theorem g_tb2 : ∀ w ∈ tables_1_2, g_gw w = true → w ∈ g_tbl := fun w h g => List.mem_filter.mpr ⟨List.mem_append_right _ (show w ∈ tables_1 from List.mem_append_right _ (List.mem_append_left _ h)), g⟩
theorem g_tb3 : ∀ w ∈ tables_1_3, g_gw w = true → w ∈ g_tbl := fun w h g => List.mem_filter.mpr ⟨List.mem_append_right _ (show w ∈ tables_1 from List.mem_append_right _ (List.mem_append_right _ (List.mem_append_left _ h))), g⟩
theorem g_tb4 : ∀ w ∈ tables_1_4, g_gw w = true → w ∈ g_tbl := fun w h g => List.mem_filter.mpr ⟨List.mem_append_right _ (show w ∈ tables_1 from List.mem_append_right _ (List.mem_append_right _ (List.mem_append_right _ (List.mem_append_left _ h)))), g⟩
theorem g_tb5 : ∀ w ∈ tables_1_5, g_gw w = true → w ∈ g_tbl := fun w h g => List.mem_filter.mpr ⟨List.mem_append_right _ (show w ∈ tables_1 from List.mem_append_right _ (List.mem_append_right _ (List.mem_append_right _ (List.mem_append_right _ (List.mem_append_left _ h))))), g⟩
theorem g_tb6 : ∀ w ∈ tables_1_6, g_gw w = true → w ∈ g_tbl := fun w h g => List.mem_filter.mpr ⟨List.mem_append_right _ (show w ∈ tables_1 from List.mem_append_right _ (List.mem_append_right _ (List.mem_append_right _ (List.mem_append_right _ (List.mem_append_right _ (List.mem_append_left _ h)))))), g⟩
theorem g_tb7 : ∀ w ∈ tables_1_7, g_gw w = true → w ∈ g_tbl := fun w h g => List.mem_filter.mpr ⟨List.mem_append_right _ (show w ∈ tables_1 from List.mem_append_right _ (List.mem_append_right _ (List.mem_append_right _ (List.mem_append_right _ (List.mem_append_right _ (List.mem_append_right _ (List.mem_append_left _ h))))))), g⟩
theorem g_tb8 : ∀ w ∈ tables_1_8, g_gw w = true → w ∈ g_tbl := fun w h g => List.mem_filter.mpr ⟨List.mem_append_right _ (show w ∈ tables_1 from List.mem_append_right _ (List.mem_append_right _ (List.mem_append_right _ (List.mem_append_right _ (List.mem_append_right _ (List.mem_append_right _ (List.mem_append_right _ (List.mem_append_left _ h)))))))), g⟩
theorem g_tb9 : ∀ w ∈ tables_1_9, g_gw w = true → w ∈ g_tbl := fun w h g => List.mem_filter.mpr ⟨List.mem_append_right _ (show w ∈ tables_1 from List.mem_append_right _ (List.mem_append_right _ (List.mem_append_right _ (List.mem_append_right _ (List.mem_append_right _ (List.mem_append_right _ (List.mem_append_right _ (List.mem_append_right _ (List.mem_append_left _ h))))))))), g⟩
theorem g_tb10 : ∀ w ∈ tables_1_10, g_gw w = true → w ∈ g_tbl := fun w h g => List.mem_filter.mpr ⟨List.mem_append_right _ (show w ∈ tables_1 from List.mem_append_right _ (List.mem_append_right _ (List.mem_append_right _ (List.mem_append_right _ (List.mem_append_right _ (List.mem_append_right _ (List.mem_append_right _ (List.mem_append_right _ (List.mem_append_right _ (h)))))))))), g⟩
theorem g_sub {ws big : List Cond} (ps : List Nat) (hp : ws = ps.filterMap (fun i => big[i]?)) (hg : ws.all g_gw = true) : ∀ w ∈ ws, w ∈ big.filter g_gw := by
  intro w hw
  have h1 := List.all_eq_true.mp hg w hw
  rw [hp] at hw
  obtain ⟨i, -, hi⟩ := List.mem_filterMap.mp hw
  exact List.mem_filter.mpr ⟨List.mem_of_getElem? hi, h1⟩
theorem g_good : q_GW g_tbl := fun w hw => (Bool.or_eq_true _ _).mp (List.mem_filter.mp hw).2
theorem g_cw0 : ∀ w ∈ u_ws "GoodbyeQuay$Formula" g_T0 5, w ∈ g_tbl := g_sub [188, 190, 192, 194, 196] (by decide +kernel) (by decide +kernel)
theorem g_cy0 : ∀ k, k < 5 → parseFieldDescriptor (g_T0 k).2.2.1 = some (g_ty 0 k) := by decide +kernel
theorem g_cn0 : ∀ a, a < 5 → ∀ b, b < 5 → a ≠ b → (g_T0 a).2.1 ≠ (g_T0 b).2.1 := by decide +kernel
theorem g_cw1 : ∀ w ∈ u_ws "GoodbyeQuay$Orders" g_T1 8, w ∈ g_tbl := g_sub [516, 518, 520, 522, 524, 526, 528, 530] (by decide +kernel) (by decide +kernel)
theorem g_cy1 : ∀ k, k < 8 → parseFieldDescriptor (g_T1 k).2.2.1 = some (g_ty 1 k) := by decide +kernel
theorem g_cn1 : ∀ a, a < 8 → ∀ b, b < 8 → a ≠ b → (g_T1 a).2.1 ≠ (g_T1 b).2.1 := by decide +kernel
theorem g_cw2 : ∀ w ∈ u_ws "GoodbyeQuay$Past" g_T2 4, w ∈ g_tbl := g_sub [395, 397, 399, 401] (by decide +kernel) (by decide +kernel)
theorem g_cy2 : ∀ k, k < 4 → parseFieldDescriptor (g_T2 k).2.2.1 = some (g_ty 2 k) := by decide +kernel
theorem g_cn2 : ∀ a, a < 4 → ∀ b, b < 4 → a ≠ b → (g_T2 a).2.1 ≠ (g_T2 b).2.1 := by decide +kernel
theorem g_cw3 : ∀ w ∈ u_ws "GoodbyeQuay$Places" g_T3 4, w ∈ g_tbl := g_sub [544, 546, 548, 550] (by decide +kernel) (by decide +kernel)
theorem g_cy3 : ∀ k, k < 4 → parseFieldDescriptor (g_T3 k).2.2.1 = some (g_ty 3 k) := by decide +kernel
theorem g_cn3 : ∀ a, a < 4 → ∀ b, b < 4 → a ≠ b → (g_T3 a).2.1 ≠ (g_T3 b).2.1 := by decide +kernel
theorem g_cw4 : ∀ w ∈ u_ws "GoodbyeQuay$Reader" g_T4 10, w ∈ g_tbl := g_sub [303, 305, 307, 309, 311, 313, 315, 317, 319, 321] (by decide +kernel) (by decide +kernel)
theorem g_cy4 : ∀ k, k < 10 → parseFieldDescriptor (g_T4 k).2.2.1 = some (g_ty 4 k) := by decide +kernel
theorem g_cn4 : ∀ a, a < 10 → ∀ b, b < 10 → a ≠ b → (g_T4 a).2.1 ≠ (g_T4 b).2.1 := by decide +kernel
theorem g_cw5 : ∀ w ∈ u_ws "GoodbyeQuay$Sight" g_T5 10, w ∈ g_tbl := g_sub [571, 573, 575, 577, 579, 581, 583, 585, 587, 589] (by decide +kernel) (by decide +kernel)
theorem g_cy5 : ∀ k, k < 10 → parseFieldDescriptor (g_T5 k).2.2.1 = some (g_ty 5 k) := by decide +kernel
theorem g_cn5 : ∀ a, a < 10 → ∀ b, b < 10 → a ≠ b → (g_T5 a).2.1 ≠ (g_T5 b).2.1 := by decide +kernel
theorem g_cw6 : ∀ w ∈ u_ws "GoodbyeQuay$State" g_T6 10, w ∈ g_tbl := g_sub [358, 360, 362, 364, 366, 368, 370, 372, 374, 376] (by decide +kernel) (by decide +kernel)
theorem g_cy6 : ∀ k, k < 10 → parseFieldDescriptor (g_T6 k).2.2.1 = some (g_ty 6 k) := by decide +kernel
theorem g_cn6 : ∀ a, a < 10 → ∀ b, b < 10 → a ≠ b → (g_T6 a).2.1 ≠ (g_T6 b).2.1 := by decide +kernel
theorem g_cw7 : ∀ w ∈ u_ws "GoodbyeQuay$Tape" g_T7 2, w ∈ g_tbl := g_sub [161, 163] (by decide +kernel) (by decide +kernel)
theorem g_cy7 : ∀ k, k < 2 → parseFieldDescriptor (g_T7 k).2.2.1 = some (g_ty 7 k) := by decide +kernel
theorem g_cn7 : ∀ a, a < 2 → ∀ b, b < 2 → a ≠ b → (g_T7 a).2.1 ≠ (g_T7 b).2.1 := by decide +kernel
theorem g_cw8 : ∀ w ∈ u_ws "GoodbyeQuay$Told" g_T8 14, w ∈ g_tbl := g_sub [256, 258, 260, 262, 264, 266, 268, 270, 272, 274, 276, 278, 280, 282] (by decide +kernel) (by decide +kernel)
theorem g_cy8 : ∀ k, k < 14 → parseFieldDescriptor (g_T8 k).2.2.1 = some (g_ty 8 k) := by decide +kernel
theorem g_cn8 : ∀ a, a < 14 → ∀ b, b < 14 → a ≠ b → (g_T8 a).2.1 ≠ (g_T8 b).2.1 := by decide +kernel
theorem g_cw9 : ∀ w ∈ u_ws "GoodbyeQuay$Trial" g_T9 20, w ∈ g_tbl := g_sub [459, 461, 463, 465, 467, 469, 471, 473, 475, 477, 479, 481, 483, 485, 487, 489, 491, 493, 495, 497] (by decide +kernel) (by decide +kernel)
theorem g_cy9 : ∀ k, k < 20 → parseFieldDescriptor (g_T9 k).2.2.1 = some (g_ty 9 k) := by decide +kernel
theorem g_cn9 : ∀ a, a < 20 → ∀ b, b < 20 → a ≠ b → (g_T9 a).2.1 ≠ (g_T9 b).2.1 := by decide +kernel
theorem g_cw10 : ∀ w ∈ u_ws "GoodbyeQuay" g_T10 15, w ∈ g_tbl := g_sub [608, 610, 612, 614, 616, 618, 620, 622, 624, 626, 628, 630, 632, 634, 636] (by decide +kernel) (by decide +kernel)
theorem g_cy10 : ∀ k, k < 15 → parseFieldDescriptor (g_T10 k).2.2.1 = some (g_ty 10 k) := by decide +kernel
theorem g_cn10 : ∀ a, a < 15 → ∀ b, b < 15 → a ≠ b → (g_T10 a).2.1 ≠ (g_T10 b).2.1 := by decide +kernel
theorem g_cw11 : ∀ w ∈ u_ws "GoodbyeQuayModel" g_T11 85, w ∈ g_tbl := g_sub [1517, 1519, 1521, 1523, 1525, 1527, 1529, 1531, 1533, 1535, 1537, 1539, 1541, 1543, 1545, 1547, 1549, 1551, 1553, 1555, 1557, 1559, 1561, 1563, 1565, 1567, 1569, 1571, 1573, 1575, 1577, 1579, 1581, 1583, 1585, 1587, 1589, 1591, 1593, 1595, 1597, 1599, 1601, 1603, 1605, 1607, 1609, 1611, 1613, 1615, 1617, 1619, 1621, 1623, 1625, 1627, 1629, 1631, 1633, 1635, 1637, 1639, 1641, 1643, 1645, 1647, 1649, 1651, 1653, 1655, 1657, 1659, 1661, 1663, 1665, 1667, 1669, 1671, 1673, 1675, 1677, 1679, 1681, 1683, 1685] (by decide +kernel) (by decide +kernel)
theorem g_cy11 : ∀ k, k < 85 → parseFieldDescriptor (g_T11 k).2.2.1 = some (g_ty 11 k) := by decide +kernel
theorem g_cn11 : ∀ a, a < 85 → ∀ b, b < 85 → a ≠ b → (g_T11 a).2.1 ≠ (g_T11 b).2.1 := by decide +kernel
theorem g_ck : q_CK g_cl g_ty g_tbl := by
  refine ⟨by decide, fun ci C T N h => ?_⟩
  match ci, h with
  | 0, h => cases h; exact ⟨g_cw0, g_cy0, g_cn0⟩
  | 1, h => cases h; exact ⟨g_cw1, g_cy1, g_cn1⟩
  | 2, h => cases h; exact ⟨g_cw2, g_cy2, g_cn2⟩
  | 3, h => cases h; exact ⟨g_cw3, g_cy3, g_cn3⟩
  | 4, h => cases h; exact ⟨g_cw4, g_cy4, g_cn4⟩
  | 5, h => cases h; exact ⟨g_cw5, g_cy5, g_cn5⟩
  | 6, h => cases h; exact ⟨g_cw6, g_cy6, g_cn6⟩
  | 7, h => cases h; exact ⟨g_cw7, g_cy7, g_cn7⟩
  | 8, h => cases h; exact ⟨g_cw8, g_cy8, g_cn8⟩
  | 9, h => cases h; exact ⟨g_cw9, g_cy9, g_cn9⟩
  | 10, h => cases h; exact ⟨g_cw10, g_cy10, g_cn10⟩
  | 11, h => cases h; exact ⟨g_cw11, g_cy11, g_cn11⟩
  | k + 12, h => simp [g_cl] at h
theorem g_ak : q_AK g_tbl := ⟨(g_tb1 _ (List.mem_of_getElem? (i := 77) (by decide +kernel)) rfl), (g_tb1 _ (List.mem_of_getElem? (i := 43) (by decide +kernel)) rfl), (g_tb2 _ (List.mem_of_getElem? (i := 229) (by decide +kernel)) rfl), (g_tb1 _ (List.mem_of_getElem? (i := 76) (by decide +kernel)) rfl)⟩
theorem g_h1 {cl : List vw_C} {ty : Nat → Nat → FieldType} {Ts : List Cond} {ms : List q_M} {own : String} {i ci k kd : Nat} (C : String) (T : u_T) (N : Nat) (h1 : cl[ci]? = some (C, T, N)) (h2 : k < N) (h3 : kd = q_kd (ty ci k)) (h4 : Cond.fieldLink own i (T k).1 (T k).2.1 (T k).2.2.1 ∈ Ts) : q_lok cl ty Ts ms own (1, i, [ci, k, kd]) := ⟨C, T, N, h1, h2, h3, h4⟩
theorem g_h3 {cl : List vw_C} {ty : Nat → Nat → FieldType} {Ts : List Cond} {ms : List q_M} {own : String} {i ci : Nat} {ks : List Nat} (C : String) (T : u_T) (N : Nat) (h1 : cl[ci]? = some (C, T, N)) (h2 : ks.length = N) (h3 : ∀ j, j < N → ks[j]? = some (q_kd (ty ci j)) ∧ q_kd (ty ci j) < 4) (h4 : Cond.classLink own i C ∈ Ts) (h5 : Cond.instantiable C N ∈ Ts) (h6 : Cond.initialized C ∈ Ts) : q_lok cl ty Ts ms own (3, i, ci :: ks) := ⟨C, T, N, h1, h2, h3, h4, h5, h6⟩
theorem g_h7 {cl : List vw_C} {ty : Nat → Nat → FieldType} {Ts : List Cond} {ms : List q_M} {own : String} {i : Nat} (h1 : Cond.methodLink own i objectInit ∈ Ts) (h2 : Cond.instanceMethod objectInit ∈ Ts) (h3 : Cond.code objectInit ⟨#[0xb1]⟩ 1 none ∈ Ts) : q_lok cl ty Ts ms own (7, i, []) := ⟨h1, h2, h3⟩
theorem g_h8 {cl : List vw_C} {ty : Nat → Nat → FieldType} {Ts : List Cond} {ms : List q_M} {own : String} {i : Nat} (h1 : Cond.methodLink own i arraycopyName ∈ Ts) (h2 : Cond.native arraycopyName ∈ Ts) (h3 : Cond.static arraycopyName ∈ Ts) (h4 : Cond.initialized "java/lang/System" ∈ Ts) : q_lok cl ty Ts ms own (8, i, []) := ⟨h1, h2, h3, h4⟩
theorem g_h11 {cl : List vw_C} {ty : Nat → Nat → FieldType} {Ts : List Cond} {ms : List q_M} {own : String} {i : Nat} (h1 : Cond.methodLink own i Lib.Math.abs.name ∈ Ts) (h2 : Cond.static Lib.Math.abs.name ∈ Ts) (h3 : Cond.initialized "java/lang/Math" ∈ Ts) (h4 : Cond.code Lib.Math.abs.name Lib.Math.abs.code 1 (some .int) ∈ Ts) : q_lok cl ty Ts ms own (11, i, [0]) := ⟨h1, h2, h3, h4⟩
theorem g_h11m {cl : List vw_C} {ty : Nat → Nat → FieldType} {Ts : List Cond} {ms : List q_M} {own : String} {i : Nat} (h1 : Cond.methodLink own i Lib.Math.max.name ∈ Ts) (h2 : Cond.static Lib.Math.max.name ∈ Ts) (h3 : Cond.initialized "java/lang/Math" ∈ Ts) (h4 : Cond.code Lib.Math.max.name Lib.Math.max.code 2 (some .int) ∈ Ts) : q_lok cl ty Ts ms own (11, i, [1]) := ⟨h1, h2, h3, h4⟩
theorem g_h11n {cl : List vw_C} {ty : Nat → Nat → FieldType} {Ts : List Cond} {ms : List q_M} {own : String} {i : Nat} (h1 : Cond.methodLink own i Lib.Math.min.name ∈ Ts) (h2 : Cond.static Lib.Math.min.name ∈ Ts) (h3 : Cond.initialized "java/lang/Math" ∈ Ts) (h4 : Cond.code Lib.Math.min.name Lib.Math.min.code 2 (some .int) ∈ Ts) : q_lok cl ty Ts ms own (11, i, [2]) := ⟨h1, h2, h3, h4⟩
theorem g_h9 {cl : List vw_C} {ty : Nat → Nat → FieldType} {Ts : List Cond} {ms : List q_M} {own : String} {i v : Nat} (h1 : Cond.constant own i (Int32.ofNat v) ∈ Ts) : q_lok cl ty Ts ms own (9, i, [v]) := h1
theorem g_h10 {cl : List vw_C} {ty : Nat → Nat → FieldType} {Ts : List Cond} {ms : List q_M} {own : String} {i v : Nat} (h1 : Cond.constantLong own i (Int64.ofNat v) ∈ Ts) : q_lok cl ty Ts ms own (10, i, [v]) := h1
theorem g_h20 {cl : List vw_C} {ty : Nat → Nat → FieldType} {Ts : List Cond} {ms : List q_M} {own : String} {i k na ml : Nat} (M : q_M) (h1 : ms[k]? = some M) (h2 : na = M.2.2.2.2) (h3 : ml = M.2.2.1) (h4 : q_MW Ts M M.2.2.2.2) (h5 : Cond.methodLink own i M.1 ∈ Ts) (h6 : Cond.static M.1 ∈ Ts) : q_lok cl ty Ts ms own (20, i, [k, na, ml]) := ⟨M, h1, h2, h3, h4, h5, h6⟩
theorem g_h21 {cl : List vw_C} {ty : Nat → Nat → FieldType} {Ts : List Cond} {ms : List q_M} {own : String} {i k na ml ci : Nat} (M : q_M) (n : Nat) (T : u_T) (N : Nat) (h1 : ms[k]? = some M) (h2 : na = M.2.2.2.2) (h3 : ml = M.2.2.1) (h0 : M.2.2.2.2 = n + 1) (h4 : q_MW Ts M n) (h5 : Cond.methodLink own i M.1 ∈ Ts) (h6 : Cond.instanceMethod M.1 ∈ Ts) (h7 : Cond.selects M.1.cls M.1 M.1 ∈ Ts) (h8 : ci < 100) (h9 : cl[ci]? = some (M.1.cls, T, N)) : q_lok cl ty Ts ms own (21, i, [k, na, ml, ci]) := ⟨M, h1, h2, h3, n, ci, T, N, h0, h4, h5, h6, h7, rfl, h8, h9⟩
theorem g_h22 {cl : List vw_C} {ty : Nat → Nat → FieldType} {Ts : List Cond} {ms : List q_M} {own : String} {i k na ml : Nat} (M : q_M) (n : Nat) (h1 : ms[k]? = some M) (h2 : na = M.2.2.2.2) (h3 : ml = M.2.2.1) (h0 : M.2.2.2.2 = n + 1) (h4 : q_MW Ts M n) (h5 : Cond.methodLink own i M.1 ∈ Ts) (h6 : Cond.instanceMethod M.1 ∈ Ts) (h7 : M.1.name = "<init>") (h8 : M.2.2.2.1 = none) : q_lok cl ty Ts ms own (22, i, [k, na, ml]) := ⟨M, h1, h2, h3, n, h0, h4, h5, h6, h7, h8⟩
theorem g_h23 {cl : List vw_C} {ty : Nat → Nat → FieldType} {Ts : List Cond} {ms : List q_M} {own : String} {i k na ml : Nat} (M : q_M) (host : String) (h1 : ms[k]? = some M) (h2 : na = M.2.2.2.2) (h3 : ml = M.2.2.1) (h4 : q_MW Ts M M.2.2.2.2) (h5 : Cond.methodLinkNest own i M.1 host ∈ Ts) (h6 : Cond.static M.1 ∈ Ts) : q_lok cl ty Ts ms own (23, i, [k, na, ml]) := ⟨M, h1, h2, h3, host, h4, h5, h6⟩
def q_nop (q : q_I) : Bool := match q.1 with
  | .nop => true
  | _ => false
theorem q_nop_spec {q : q_I} (h : q_nop q = true) : q.1 = .nop := by
  unfold q_nop at h
  split at h
  next e => exact e
  next => cases h
def q_ckr (cl : List vw_C) (lt : q_LT) (own : String) (cc : ByteArray) (nL : Nat) (ret : Option FieldType) (ini : Bool) : Nat → List q_I → Bool
  | _, [] => true
  | pc, q :: r => (q_nop q || q_ck1 cl lt own cc nL ret ini pc q) && q_ckr cl lt own cc nL ret ini (pc + 1) r
def q_ckt (cl : List vw_C) (lt : q_LT) (own : String) (cc : ByteArray) (nL : Nat) (ret : Option FieldType) (ini : Bool) : Nat → q_T → Bool
  | _, [] => true
  | i, r :: t => q_ckr cl lt own cc nL ret ini (16 * i) r && q_ckt cl lt own cc nL ret ini (i + 1) t
theorem q_ckr_spec {cl : List vw_C} {lt : q_LT} {own : String} {cc : ByteArray} {nL : Nat} {ret : Option FieldType} {ini : Bool} : ∀ (r : List q_I) (pc : Nat), q_ckr cl lt own cc nL ret ini pc r = true → ∀ (j : Nat) (q : q_I), r[j]? = some q → q.1 = .nop ∨ q_ck1 cl lt own cc nL ret ini (pc + j) q = true
  | [], _, _, j, q, hq => by simp at hq
  | x :: r, pc, h, j, q, hq => by
    unfold q_ckr at h
    rw [Bool.and_eq_true, Bool.or_eq_true] at h
    rcases j with _ | j
    · rw [List.getElem?_cons_zero] at hq
      cases hq
      exact h.1.imp q_nop_spec id
    · rw [List.getElem?_cons_succ] at hq
      have h1 := q_ckr_spec r (pc + 1) h.2 j q hq
      rw [show pc + (j + 1) = pc + 1 + j by omega]
      exact h1
theorem q_ckt_spec {cl : List vw_C} {lt : q_LT} {own : String} {cc : ByteArray} {nL : Nat} {ret : Option FieldType} {ini : Bool} : ∀ (t : q_T) (i : Nat), q_ckt cl lt own cc nL ret ini i t = true → ∀ (k : Nat) (r : List q_I), t[k]? = some r → q_ckr cl lt own cc nL ret ini (16 * (i + k)) r = true
  | [], _, _, k, r, hr => by simp at hr
  | x :: t, i, h, k, r, hr => by
    unfold q_ckt at h
    rw [Bool.and_eq_true] at h
    rcases k with _ | k
    · rw [List.getElem?_cons_zero] at hr
      cases hr
      exact h.1
    · rw [List.getElem?_cons_succ] at hr
      have h1 := q_ckt_spec t (i + 1) h.2 k r hr
      rw [show i + (k + 1) = i + 1 + k by omega]
      exact h1
theorem q_ckt_ok {cl : List vw_C} {lt : q_LT} {own : String} {cc : ByteArray} {nL : Nat} {ret : Option FieldType} {ini : Bool} {t : q_T} (h : q_ckt cl lt own cc nL ret ini 0 t = true) (pc : Nat) (q : q_I) (hq : q_get t pc = some q) : q.1 = .nop ∨ q_ck1 cl lt own cc nL ret ini pc q = true := by
  unfold q_get at hq
  split at hq
  next r hr =>
    have h1 := q_ckr_spec r _ (q_ckt_spec t 0 h (pc / 16) r hr) (pc % 16) q hq
    rw [show 16 * (0 + pc / 16) + pc % 16 = pc by omega] at h1
    exact h1
  next => cases hq
def q_F2 {α β : Type} (R : α → β → Prop) : List α → List β → Prop
  | a :: as, b :: bs => R a b ∧ q_F2 R as bs
  | [], [] => True
  | _, _ => False
theorem q_F2c {α β : Type} {R : α → β → Prop} {a : α} {b : β} {as : List α} {bs : List β} (h : R a b) (t : q_F2 R as bs) : q_F2 R (a :: as) (b :: bs) := ⟨h, t⟩
theorem q_F2n {α β : Type} {R : α → β → Prop} : q_F2 R [] [] := trivial
theorem q_F2_at {α β : Type} {R : α → β → Prop} : ∀ (as : List α) (bs : List β), q_F2 R as bs → ∀ (k : Nat) (a : α) (b : β), as[k]? = some a → bs[k]? = some b → R a b
  | [], [], _, k, a, b, ha, _ => by simp at ha
  | [], _ :: _, h, _, _, _, _, _ => h.elim
  | _ :: _, [], h, _, _, _, _, _ => h.elim
  | x :: as, y :: bs, h, k, a, b, ha, hb => by
    rcases k with _ | k
    · rw [List.getElem?_cons_zero] at ha hb
      cases ha
      cases hb
      exact h.1
    · rw [List.getElem?_cons_succ] at ha hb
      exact q_F2_at as bs h.2 k a b ha hb

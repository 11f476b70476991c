/-! SlideBoards.needCell(II)V -/
abbrev rm_X6_needCell : Room := { frames := 1, cells := 0, slots := 0, locals := 22 }
def f_X6_needCell (N : Nat) (σ : St) (a0 : Int32) (a1 : Int32) : Option XR :=
  bd1 (f_X0_hasCell N σ a0 a1) (fun r1 => if r1 = 0 then (some (.inr 0, σ)) else (some (.inl (0 : Int32), σ)))
set_option maxRecDepth 100000 in
set_option maxHeartbeats 4000000 in
theorem c_X6_needCell (l : Launch) (D : va_G) (q : Nat → Nat) (k : cK) (N : Nat) (σ : St) (a0 : Int32) (a1 : Int32) (r : Int32) (σ' : St) (h : f_X6_needCell N σ a0 a1 = some (.inl r, σ')) :
    Met l yX6_needCell [.code yX6_needCell cX6_needCell 3 none] rm_X6_needCell (PC D (CW q k σ) k [.ref (q 0), .int a0, .int a1]) (QR D (CW q k σ) (CW q k σ') none) 0 0 (AQ (CW q k σ)) := by
  refine met_of (by decide) (Nat.le_of_ble_eq_true rfl) ?_
  intro p e s m below meth c hC hw ls hl
  have hC : Cx p s m meth c cX6_needCell RX6 3 none := hC
  have hl : lv_has ls 3 [(0, .ref (q 0)), (1, .int a0), (2, .int a1)] := hl
  have hx := hC.1
  have hb := hC.2.1
  unfold f_X6_needCell at h
  refine lv_aload_n hx hb dX6_needCell_0 rfl (lv_at hl 0 rfl) ?_
  refine C_g_X6_23 hC hw dX6_needCell_1 ?_
  refine lv_iload_n hx hb dX6_needCell_4 rfl (lv_at hl 1 rfl) ?_
  refine lv_iload_n hx hb dX6_needCell_5 rfl (lv_at hl 2 rfl) ?_
  obtain ⟨r1, hc, h⟩ := bd1_o h
  refine go_i (run_VN (As := [.int a0, .int a1]) (rest := []) hC hw (c_X0_hasCell l D q k N σ a0 a1 r1 hc) kw_0 kw_3 kw_4 kw_1 kw_2 hd_X0_hasCell ⟨rfl, rfl⟩ ⟨Nat.le_of_ble_eq_true rfl, Nat.le_of_ble_eq_true rfl⟩ 1 rfl rfl rfl hl.1 rfl (Nat.le_of_ble_eq_true rfl) dX6_needCell_6 ⟨Nat.zero_le _, Nat.zero_le _⟩) hw (fun H locs hw => ?_)
  refine lv_if_ne (tgt := 22) hx hb dX6_needCell_9 (by decide) (fun c => ?_) (fun c => ?_)
  · have h := if_f h c
    cases h
    exact ret_v hC hw dX6_needCell_22
  · have h := if_t h c
    cases h
abbrev rmx_X6_needCell : Room := { frames := 7, cells := 1, slots := 6, locals := 95 }
set_option maxRecDepth 100000 in
set_option maxHeartbeats 4000000 in
theorem x_X6_needCell (l : Launch) (hst : l.stackTraces = false) (D : va_G) (q : Nat → Nat) (k : cK) (sa : Nat → Nat) (N : Nat) (σ : St) (a0 : Int32) (a1 : Int32) (ee : Nat) (σ' : St) (h : f_X6_needCell N σ a0 a1 = some (.inr ee, σ')) :
    vx_Met l yX6_needCell [.code yX6_needCell cX6_needCell 3 none] rmx_X6_needCell (PX D (CW q k σ) k sa [.ref (q 0), .int a0, .int a1]) QN (XX D (CW q k σ) (CW q k σ') ee) 1 6 (AQ (CW q k σ)) := by
  refine metx_of (by decide) (Nat.le_of_ble_eq_true rfl) ?_
  intro p e s m below meth c hC ht hw hz ls hl
  have hC : Cx p s m meth c cX6_needCell RX6 3 none := hC
  have hl : lv_has ls 3 [(0, .ref (q 0)), (1, .int a0), (2, .int a1)] := hl
  have hx := hC.1
  have hb := hC.2.1
  unfold f_X6_needCell at h
  refine lv_aload_n hx hb dX6_needCell_0 rfl (lv_at hl 0 rfl) ?_
  refine C_g_X6_23 hC hw dX6_needCell_1 ?_
  refine lv_iload_n hx hb dX6_needCell_4 rfl (lv_at hl 1 rfl) ?_
  refine lv_iload_n hx hb dX6_needCell_5 rfl (lv_at hl 2 rfl) ?_
  obtain ⟨r1, hc, h⟩ := bd1_o h
  refine go_i (run_VN (As := [.int a0, .int a1]) (rest := []) hC hw (c_X0_hasCell l D q k N σ a0 a1 r1 hc) kw_0 kw_3 kw_4 kw_1 kw_2 hd_X0_hasCell ⟨rfl, rfl⟩ ⟨Nat.le_of_ble_eq_true rfl, Nat.le_of_ble_eq_true rfl⟩ 1 rfl rfl rfl hl.1 rfl (Nat.le_of_ble_eq_true rfl) dX6_needCell_6 ⟨Nat.zero_le _, Nat.zero_le _⟩) hw (fun H locs hw => ?_)
  refine lv_if_ne (tgt := 22) hx hb dX6_needCell_9 (by decide) (fun c => ?_) (fun c => ?_)
  · have h := if_f h c
    cases h
  · have h := if_t h c
    cases h
    exact throw_x hC hst hw hz hz.2.2.1 (by decide) (by decide) aw_0 rfl hl.1 ht dX6_needCell_12 dX6_needCell_15 dX6_needCell_16 dX6_needCell_18 dX6_needCell_21 (Nat.le_of_ble_eq_true rfl) (Nat.le_of_ble_eq_true rfl) ⟨Nat.le_of_ble_eq_true rfl, Nat.le_of_ble_eq_true rfl⟩
/-! SlideBoards.wall(IIZ)Z -/
abbrev rm_X6_wall : Room := { frames := 2, cells := 0, slots := 0, locals := 46 }
def f_X6_wall (N : Nat) (σ : St) (a0 : Int32) (a1 : Int32) (a2 : Int32) : Option XR :=
  bx (f_X6_needCell N σ a0 a1) (fun r2 σ1 => bd1 (f_X0_bitOf N σ1 a0 a1) (fun r4 => bd (f_X0_setWall N σ1 r4 a2) (fun r5 σ6 => gd (decide (r5 = 0 ∨ r5 = 1)) (some (.inl r5, σ6)))))
set_option maxRecDepth 100000 in
set_option maxHeartbeats 4000000 in
theorem c_X6_wall (l : Launch) (D : va_G) (q : Nat → Nat) (k : cK) (N : Nat) (σ : St) (a0 : Int32) (a1 : Int32) (a2 : Int32) (r : Int32) (σ' : St) (h : f_X6_wall N σ a0 a1 a2 = some (.inl r, σ')) :
    Met l yX6_wall [.code yX6_wall cX6_wall 4 (some .boolean)] rm_X6_wall (PC D (CW q k σ) k [.ref (q 0), .int a0, .int a1, .int a2]) (QR D (CW q k σ) (CW q k σ') (some (.int r))) 0 0 (AQ (CW q k σ)) := by
  refine met_of (by decide) (Nat.le_of_ble_eq_true rfl) ?_
  intro p e s m below meth c hC hw ls hl
  have hC : Cx p s m meth c cX6_wall RX6 4 (some .boolean) := hC
  have hl : lv_has ls 4 [(0, .ref (q 0)), (1, .int a0), (2, .int a1), (3, .int a2)] := hl
  have hx := hC.1
  have hb := hC.2.1
  unfold f_X6_wall at h
  refine lv_aload_n hx hb dX6_wall_0 rfl (lv_at hl 0 rfl) ?_
  refine lv_iload_n hx hb dX6_wall_1 rfl (lv_at hl 1 rfl) ?_
  refine lv_iload_n hx hb dX6_wall_2 rfl (lv_at hl 2 rfl) ?_
  rcases bx_o h with ⟨r2, σ1, hc, h⟩ | ⟨e3, σ1, hc, h⟩
  · refine go_v (run_V (As := [.int a0, .int a1]) (rest := []) hC hw (c_X6_needCell l D q k N σ a0 a1 r2 σ1 hc) kw_5 kw_8 kw_9 kw_6 kw_7 hd_X6_needCell ⟨rfl, rfl⟩ ⟨Nat.le_of_ble_eq_true rfl, Nat.le_of_ble_eq_true rfl⟩ 0 rfl rfl rfl hl.1 rfl (Nat.le_of_ble_eq_true rfl) dX6_wall_3 ⟨Nat.zero_le _, Nat.zero_le _⟩) hw (fun H locs hw => ?_)
    refine lv_aload_n hx hb dX6_wall_6 rfl (lv_at hl 0 rfl) ?_
    refine C_g_X6_23 hC hw dX6_wall_7 ?_
    refine lv_aload_n hx hb dX6_wall_10 rfl (lv_at hl 0 rfl) ?_
    refine C_g_X6_23 hC hw dX6_wall_11 ?_
    refine lv_iload_n hx hb dX6_wall_14 rfl (lv_at hl 1 rfl) ?_
    refine lv_iload_n hx hb dX6_wall_15 rfl (lv_at hl 2 rfl) ?_
    obtain ⟨r4, hc, h⟩ := bd1_o h
    refine go_i (run_VN (As := [.int a0, .int a1]) (rest := [.ref (q 1)]) hC hw (c_X0_bitOf l D q k N σ1 a0 a1 r4 hc) kw_14 kw_16 kw_17 kw_1 kw_15 hd_X0_bitOf ⟨rfl, rfl⟩ ⟨Nat.le_of_ble_eq_true rfl, Nat.le_of_ble_eq_true rfl⟩ 1 rfl rfl rfl hl.1 rfl (Nat.le_of_ble_eq_true rfl) dX6_wall_16 ⟨Nat.zero_le _, Nat.zero_le _⟩) hw (fun H locs hw => ?_)
    refine lv_iload_n hx hb dX6_wall_19 rfl (lv_at hl 3 rfl) ?_
    obtain ⟨r5, σ6, hc, h⟩ := bd_o h
    refine go_i (run_VN (As := [.int r4, .int a2]) (rest := []) hC hw (c_X0_setWall l D q k N σ1 r4 a2 r5 σ6 hc) kw_22 kw_24 kw_25 kw_1 kw_23 hd_X0_setWall ⟨rfl, rfl⟩ ⟨Nat.le_of_ble_eq_true rfl, Nat.le_of_ble_eq_true rfl⟩ 1 rfl rfl rfl hl.1 rfl (Nat.le_of_ble_eq_true rfl) dX6_wall_20 ⟨Nat.zero_le _, Nat.zero_le _⟩) hw (fun H locs hw => ?_)
    obtain ⟨hz9, h⟩ := gp_o h
    cases h
    exact ret_z hC hz9 hw dX6_wall_23
  · cases h
abbrev rmx_X6_wall : Room := { frames := 8, cells := 1, slots := 6, locals := 117 }
set_option maxRecDepth 100000 in
set_option maxHeartbeats 4000000 in
theorem x_X6_wall (l : Launch) (hst : l.stackTraces = false) (D : va_G) (q : Nat → Nat) (k : cK) (sa : Nat → Nat) (N : Nat) (σ : St) (a0 : Int32) (a1 : Int32) (a2 : Int32) (ee : Nat) (σ' : St) (h : f_X6_wall N σ a0 a1 a2 = some (.inr ee, σ')) :
    vx_Met l yX6_wall [.code yX6_wall cX6_wall 4 (some .boolean)] rmx_X6_wall (PX D (CW q k σ) k sa [.ref (q 0), .int a0, .int a1, .int a2]) QN (XX D (CW q k σ) (CW q k σ') ee) 1 6 (AQ (CW q k σ)) := by
  refine metx_of (by decide) (Nat.le_of_ble_eq_true rfl) ?_
  intro p e s m below meth c hC ht hw hz ls hl
  have hC : Cx p s m meth c cX6_wall RX6 4 (some .boolean) := hC
  have hl : lv_has ls 4 [(0, .ref (q 0)), (1, .int a0), (2, .int a1), (3, .int a2)] := hl
  have hx := hC.1
  have hb := hC.2.1
  unfold f_X6_wall at h
  refine lv_aload_n hx hb dX6_wall_0 rfl (lv_at hl 0 rfl) ?_
  refine lv_iload_n hx hb dX6_wall_1 rfl (lv_at hl 1 rfl) ?_
  refine lv_iload_n hx hb dX6_wall_2 rfl (lv_at hl 2 rfl) ?_
  rcases bx_o h with ⟨r2, σ1, hc, h⟩ | ⟨e3, σ1, hc, h⟩
  · refine go_v (run_V (As := [.int a0, .int a1]) (rest := []) hC hw (c_X6_needCell l D q k N σ a0 a1 r2 σ1 hc) kw_5 kw_8 kw_9 kw_6 kw_7 hd_X6_needCell ⟨rfl, rfl⟩ ⟨Nat.le_of_ble_eq_true rfl, Nat.le_of_ble_eq_true rfl⟩ 0 rfl rfl rfl hl.1 rfl (Nat.le_of_ble_eq_true rfl) dX6_wall_3 ⟨Nat.zero_le _, Nat.zero_le _⟩) hw (fun H locs hw => ?_)
    refine lv_aload_n hx hb dX6_wall_6 rfl (lv_at hl 0 rfl) ?_
    refine C_g_X6_23 hC hw dX6_wall_7 ?_
    refine lv_aload_n hx hb dX6_wall_10 rfl (lv_at hl 0 rfl) ?_
    refine C_g_X6_23 hC hw dX6_wall_11 ?_
    refine lv_iload_n hx hb dX6_wall_14 rfl (lv_at hl 1 rfl) ?_
    refine lv_iload_n hx hb dX6_wall_15 rfl (lv_at hl 2 rfl) ?_
    obtain ⟨r4, hc, h⟩ := bd1_o h
    refine go_i (run_VN (As := [.int a0, .int a1]) (rest := [.ref (q 1)]) hC hw (c_X0_bitOf l D q k N σ1 a0 a1 r4 hc) kw_14 kw_16 kw_17 kw_1 kw_15 hd_X0_bitOf ⟨rfl, rfl⟩ ⟨Nat.le_of_ble_eq_true rfl, Nat.le_of_ble_eq_true rfl⟩ 1 rfl rfl rfl hl.1 rfl (Nat.le_of_ble_eq_true rfl) dX6_wall_16 ⟨Nat.zero_le _, Nat.zero_le _⟩) hw (fun H locs hw => ?_)
    refine lv_iload_n hx hb dX6_wall_19 rfl (lv_at hl 3 rfl) ?_
    obtain ⟨r5, σ6, hc, h⟩ := bd_o h
    refine go_i (run_VN (As := [.int r4, .int a2]) (rest := []) hC hw (c_X0_setWall l D q k N σ1 r4 a2 r5 σ6 hc) kw_22 kw_24 kw_25 kw_1 kw_23 hd_X0_setWall ⟨rfl, rfl⟩ ⟨Nat.le_of_ble_eq_true rfl, Nat.le_of_ble_eq_true rfl⟩ 1 rfl rfl rfl hl.1 rfl (Nat.le_of_ble_eq_true rfl) dX6_wall_20 ⟨Nat.zero_le _, Nat.zero_le _⟩) hw (fun H locs hw => ?_)
    obtain ⟨hz9, h⟩ := gp_o h
    cases h
  · cases h
    exact go_x (runx_V (As := [.int a0, .int a1]) (rest := []) hC hw hz (x_X6_needCell l hst D q k sa N σ a0 a1 _ _ hc) kw_5 kw_8 kw_9 kw_6 kw_7 hd_X6_needCell ⟨rfl, rfl⟩ ⟨Nat.le_of_ble_eq_true rfl, Nat.le_of_ble_eq_true rfl⟩ 0 rfl rfl rfl hl.1 rfl (Nat.le_of_ble_eq_true rfl) dX6_wall_3 ⟨Nat.le_of_ble_eq_true rfl, Nat.le_of_ble_eq_true rfl⟩) hw (fun H locs q9 ce hw h1 h2 h3 => out_x hC ht hw h1 h2 h3)
/-! SlideBoards.needKind(I)V -/
abbrev rm_X6_needKind : Room := { frames := 0, cells := 0, slots := 0, locals := 0 }
def f_X6_needKind (N : Nat) (σ : St) (a0 : Int32) : Option XR :=
  if a0 < 0 then (some (.inr 1, σ)) else (if a0 < (26 : Int32) then (some (.inl (0 : Int32), σ)) else (some (.inr 1, σ)))
set_option maxRecDepth 100000 in
set_option maxHeartbeats 4000000 in
theorem c_X6_needKind (l : Launch) (D : va_G) (q : Nat → Nat) (k : cK) (N : Nat) (σ : St) (a0 : Int32) (r : Int32) (σ' : St) (h : f_X6_needKind N σ a0 = some (.inl r, σ')) :
    Met l yX6_needKind [.code yX6_needKind cX6_needKind 1 none] rm_X6_needKind (PC D (CW q k σ) k [.int a0]) (QR D (CW q k σ) (CW q k σ') none) 0 0 (AQ (CW q k σ)) := by
  refine met_of (by decide) (Nat.le_of_ble_eq_true rfl) ?_
  intro p e s m below meth c hC hw ls hl
  have hC : Cx p s m meth c cX6_needKind RX6 1 none := hC
  have hl : lv_has ls 1 [(0, .int a0)] := hl
  have hx := hC.1
  have hb := hC.2.1
  unfold f_X6_needKind at h
  refine lv_iload_n hx hb dX6_needKind_0 rfl (lv_at hl 0 rfl) ?_
  refine lv_if_lt (tgt := 10) hx hb dX6_needKind_1 (by decide) (fun c => ?_) (fun c => ?_)
  · have h := if_t h c
    cases h
  · have h := if_f h c
    refine lv_iload_n hx hb dX6_needKind_4 rfl (lv_at hl 0 rfl) ?_
    refine lv_bipush (v := 26) hx hb dX6_needKind_5 (by decide) ?_
    refine lv_icmp_lt (tgt := 20) hx hb dX6_needKind_7 (by decide) (fun c => ?_) (fun c => ?_)
    · have h := if_t h c
      cases h
      exact ret_v hC hw dX6_needKind_20
    · have h := if_f h c
      cases h
abbrev rmx_X6_needKind : Room := { frames := 6, cells := 1, slots := 6, locals := 82 }
set_option maxRecDepth 100000 in
set_option maxHeartbeats 4000000 in
theorem x_X6_needKind (l : Launch) (hst : l.stackTraces = false) (D : va_G) (q : Nat → Nat) (k : cK) (sa : Nat → Nat) (N : Nat) (σ : St) (a0 : Int32) (ee : Nat) (σ' : St) (h : f_X6_needKind N σ a0 = some (.inr ee, σ')) :
    vx_Met l yX6_needKind [.code yX6_needKind cX6_needKind 1 none] rmx_X6_needKind (PX D (CW q k σ) k sa [.int a0]) QN (XX D (CW q k σ) (CW q k σ') ee) 1 6 (AQ (CW q k σ)) := by
  refine metx_of (by decide) (Nat.le_of_ble_eq_true rfl) ?_
  intro p e s m below meth c hC ht hw hz ls hl
  have hC : Cx p s m meth c cX6_needKind RX6 1 none := hC
  have hl : lv_has ls 1 [(0, .int a0)] := hl
  have hx := hC.1
  have hb := hC.2.1
  unfold f_X6_needKind at h
  refine lv_iload_n hx hb dX6_needKind_0 rfl (lv_at hl 0 rfl) ?_
  refine lv_if_lt (tgt := 10) hx hb dX6_needKind_1 (by decide) (fun c => ?_) (fun c => ?_)
  · have h := if_t h c
    cases h
    exact throw_x hC hst hw hz hz.2.2.2.2.2.1 (by decide) (by decide) aw_1 rfl hl.1 ht dX6_needKind_10 dX6_needKind_13 dX6_needKind_14 dX6_needKind_16 dX6_needKind_19 (Nat.le_of_ble_eq_true rfl) (Nat.le_of_ble_eq_true rfl) ⟨Nat.le_of_ble_eq_true rfl, Nat.le_of_ble_eq_true rfl⟩
  · have h := if_f h c
    refine lv_iload_n hx hb dX6_needKind_4 rfl (lv_at hl 0 rfl) ?_
    refine lv_bipush (v := 26) hx hb dX6_needKind_5 (by decide) ?_
    refine lv_icmp_lt (tgt := 20) hx hb dX6_needKind_7 (by decide) (fun c => ?_) (fun c => ?_)
    · have h := if_t h c
      cases h
    · have h := if_f h c
      cases h
      exact throw_x hC hst hw hz hz.2.2.2.2.2.1 (by decide) (by decide) aw_1 rfl hl.1 ht dX6_needKind_10 dX6_needKind_13 dX6_needKind_14 dX6_needKind_16 dX6_needKind_19 (Nat.le_of_ble_eq_true rfl) (Nat.le_of_ble_eq_true rfl) ⟨Nat.le_of_ble_eq_true rfl, Nat.le_of_ble_eq_true rfl⟩
/-! SlideBoards.block(I)I -/
abbrev rm_X6_block : Room := { frames := 1, cells := 0, slots := 0, locals := 21 }
def f_X6_block (N : Nat) (σ : St) (a0 : Int32) : Option XR :=
  bx (f_X6_needKind N σ a0) (fun r2 σ1 => bd (f_X0_addBlock N σ1 a0) (fun r4 σ5 => some (.inl r4, σ5)))
set_option maxRecDepth 100000 in
set_option maxHeartbeats 4000000 in
theorem c_X6_block (l : Launch) (D : va_G) (q : Nat → Nat) (k : cK) (N : Nat) (σ : St) (a0 : Int32) (r : Int32) (σ' : St) (h : f_X6_block N σ a0 = some (.inl r, σ')) :
    Met l yX6_block [.code yX6_block cX6_block 2 (some .int)] rm_X6_block (PC D (CW q k σ) k [.ref (q 0), .int a0]) (QR D (CW q k σ) (CW q k σ') (some (.int r))) 0 0 (AQ (CW q k σ)) := by
  refine met_of (by decide) (Nat.le_of_ble_eq_true rfl) ?_
  intro p e s m below meth c hC hw ls hl
  have hC : Cx p s m meth c cX6_block RX6 2 (some .int) := hC
  have hl : lv_has ls 2 [(0, .ref (q 0)), (1, .int a0)] := hl
  have hx := hC.1
  have hb := hC.2.1
  unfold f_X6_block at h
  refine lv_iload_n hx hb dX6_block_0 rfl (lv_at hl 1 rfl) ?_
  rcases bx_o h with ⟨r2, σ1, hc, h⟩ | ⟨e3, σ1, hc, h⟩
  · refine go_v (run_S (As := [.int a0]) (rest := []) hC hw (c_X6_needKind l D q k N σ a0 r2 σ1 hc) kw_26 kw_28 kw_6 kw_27 hd_X6_needKind ⟨rfl, rfl⟩ ⟨Nat.le_of_ble_eq_true rfl, Nat.le_of_ble_eq_true rfl⟩ rfl hl.1 rfl (Nat.le_of_ble_eq_true rfl) dX6_block_1 ⟨Nat.zero_le _, Nat.zero_le _⟩) hw (fun H locs hw => ?_)
    refine lv_aload_n hx hb dX6_block_4 rfl (lv_at hl 0 rfl) ?_
    refine C_g_X6_23 hC hw dX6_block_5 ?_
    refine lv_iload_n hx hb dX6_block_8 rfl (lv_at hl 1 rfl) ?_
    obtain ⟨r4, σ5, hc, h⟩ := bd_o h
    refine go_i (run_VN (As := [.int a0]) (rest := []) hC hw (c_X0_addBlock l D q k N σ1 a0 r4 σ5 hc) kw_29 kw_31 kw_32 kw_1 kw_30 hd_X0_addBlock ⟨rfl, rfl⟩ ⟨Nat.le_of_ble_eq_true rfl, Nat.le_of_ble_eq_true rfl⟩ 1 rfl rfl rfl hl.1 rfl (Nat.le_of_ble_eq_true rfl) dX6_block_9 ⟨Nat.zero_le _, Nat.zero_le _⟩) hw (fun H locs hw => ?_)
    cases h
    exact ret_i hC hw dX6_block_12
  · cases h
abbrev rmx_X6_block : Room := { frames := 7, cells := 1, slots := 6, locals := 102 }
set_option maxRecDepth 100000 in
set_option maxHeartbeats 4000000 in
theorem x_X6_block (l : Launch) (hst : l.stackTraces = false) (D : va_G) (q : Nat → Nat) (k : cK) (sa : Nat → Nat) (N : Nat) (σ : St) (a0 : Int32) (ee : Nat) (σ' : St) (h : f_X6_block N σ a0 = some (.inr ee, σ')) :
    vx_Met l yX6_block [.code yX6_block cX6_block 2 (some .int)] rmx_X6_block (PX D (CW q k σ) k sa [.ref (q 0), .int a0]) QN (XX D (CW q k σ) (CW q k σ') ee) 1 6 (AQ (CW q k σ)) := by
  refine metx_of (by decide) (Nat.le_of_ble_eq_true rfl) ?_
  intro p e s m below meth c hC ht hw hz ls hl
  have hC : Cx p s m meth c cX6_block RX6 2 (some .int) := hC
  have hl : lv_has ls 2 [(0, .ref (q 0)), (1, .int a0)] := hl
  have hx := hC.1
  have hb := hC.2.1
  unfold f_X6_block at h
  refine lv_iload_n hx hb dX6_block_0 rfl (lv_at hl 1 rfl) ?_
  rcases bx_o h with ⟨r2, σ1, hc, h⟩ | ⟨e3, σ1, hc, h⟩
  · refine go_v (run_S (As := [.int a0]) (rest := []) hC hw (c_X6_needKind l D q k N σ a0 r2 σ1 hc) kw_26 kw_28 kw_6 kw_27 hd_X6_needKind ⟨rfl, rfl⟩ ⟨Nat.le_of_ble_eq_true rfl, Nat.le_of_ble_eq_true rfl⟩ rfl hl.1 rfl (Nat.le_of_ble_eq_true rfl) dX6_block_1 ⟨Nat.zero_le _, Nat.zero_le _⟩) hw (fun H locs hw => ?_)
    refine lv_aload_n hx hb dX6_block_4 rfl (lv_at hl 0 rfl) ?_
    refine C_g_X6_23 hC hw dX6_block_5 ?_
    refine lv_iload_n hx hb dX6_block_8 rfl (lv_at hl 1 rfl) ?_
    obtain ⟨r4, σ5, hc, h⟩ := bd_o h
    refine go_i (run_VN (As := [.int a0]) (rest := []) hC hw (c_X0_addBlock l D q k N σ1 a0 r4 σ5 hc) kw_29 kw_31 kw_32 kw_1 kw_30 hd_X0_addBlock ⟨rfl, rfl⟩ ⟨Nat.le_of_ble_eq_true rfl, Nat.le_of_ble_eq_true rfl⟩ 1 rfl rfl rfl hl.1 rfl (Nat.le_of_ble_eq_true rfl) dX6_block_9 ⟨Nat.zero_le _, Nat.zero_le _⟩) hw (fun H locs hw => ?_)
    cases h
  · cases h
    exact go_x (runx_S (As := [.int a0]) (rest := []) hC hw hz (x_X6_needKind l hst D q k sa N σ a0 _ _ hc) kw_26 kw_28 kw_6 kw_27 hd_X6_needKind ⟨rfl, rfl⟩ ⟨Nat.le_of_ble_eq_true rfl, Nat.le_of_ble_eq_true rfl⟩ rfl hl.1 rfl (Nat.le_of_ble_eq_true rfl) dX6_block_1 ⟨Nat.le_of_ble_eq_true rfl, Nat.le_of_ble_eq_true rfl⟩) hw (fun H locs q9 ce hw h1 h2 h3 => out_x hC ht hw h1 h2 h3)
/-! SlideBoards.needBlock(I)V -/
abbrev rm_X6_needBlock : Room := { frames := 0, cells := 0, slots := 0, locals := 0 }
def f_X6_needBlock (N : Nat) (σ : St) (a0 : Int32) : Option XR :=
  if a0 < 0 then (some (.inr 0, σ)) else (if a0 < (σ.1 6) then (some (.inl (0 : Int32), σ)) else (some (.inr 0, σ)))
set_option maxRecDepth 100000 in
set_option maxHeartbeats 4000000 in
theorem c_X6_needBlock (l : Launch) (D : va_G) (q : Nat → Nat) (k : cK) (N : Nat) (σ : St) (a0 : Int32) (r : Int32) (σ' : St) (h : f_X6_needBlock N σ a0 = some (.inl r, σ')) :
    Met l yX6_needBlock [.code yX6_needBlock cX6_needBlock 2 none] rm_X6_needBlock (PC D (CW q k σ) k [.ref (q 0), .int a0]) (QR D (CW q k σ) (CW q k σ') none) 0 0 (AQ (CW q k σ)) := by
  refine met_of (by decide) (Nat.le_of_ble_eq_true rfl) ?_
  intro p e s m below meth c hC hw ls hl
  have hC : Cx p s m meth c cX6_needBlock RX6 2 none := hC
  have hl : lv_has ls 2 [(0, .ref (q 0)), (1, .int a0)] := hl
  have hx := hC.1
  have hb := hC.2.1
  unfold f_X6_needBlock at h
  refine lv_iload_n hx hb dX6_needBlock_0 rfl (lv_at hl 1 rfl) ?_
  refine lv_if_lt (tgt := 15) hx hb dX6_needBlock_1 (by decide) (fun c => ?_) (fun c => ?_)
  · have h := if_t h c
    cases h
  · have h := if_f h c
    refine lv_iload_n hx hb dX6_needBlock_4 rfl (lv_at hl 1 rfl) ?_
    refine lv_aload_n hx hb dX6_needBlock_5 rfl (lv_at hl 0 rfl) ?_
    refine C_g_X6_23 hC hw dX6_needBlock_6 ?_
    refine C_g_X6_182 hC hw dX6_needBlock_9 ?_
    refine lv_icmp_lt (tgt := 25) hx hb dX6_needBlock_12 (by decide) (fun c => ?_) (fun c => ?_)
    · have h := if_t h c
      cases h
      exact ret_v hC hw dX6_needBlock_25
    · have h := if_f h c
      cases h
abbrev rmx_X6_needBlock : Room := { frames := 7, cells := 1, slots := 6, locals := 95 }
set_option maxRecDepth 100000 in
set_option maxHeartbeats 4000000 in
theorem x_X6_needBlock (l : Launch) (hst : l.stackTraces = false) (D : va_G) (q : Nat → Nat) (k : cK) (sa : Nat → Nat) (N : Nat) (σ : St) (a0 : Int32) (ee : Nat) (σ' : St) (h : f_X6_needBlock N σ a0 = some (.inr ee, σ')) :
    vx_Met l yX6_needBlock [.code yX6_needBlock cX6_needBlock 2 none] rmx_X6_needBlock (PX D (CW q k σ) k sa [.ref (q 0), .int a0]) QN (XX D (CW q k σ) (CW q k σ') ee) 1 6 (AQ (CW q k σ)) := by
  refine metx_of (by decide) (Nat.le_of_ble_eq_true rfl) ?_
  intro p e s m below meth c hC ht hw hz ls hl
  have hC : Cx p s m meth c cX6_needBlock RX6 2 none := hC
  have hl : lv_has ls 2 [(0, .ref (q 0)), (1, .int a0)] := hl
  have hx := hC.1
  have hb := hC.2.1
  unfold f_X6_needBlock at h
  refine lv_iload_n hx hb dX6_needBlock_0 rfl (lv_at hl 1 rfl) ?_
  refine lv_if_lt (tgt := 15) hx hb dX6_needBlock_1 (by decide) (fun c => ?_) (fun c => ?_)
  · have h := if_t h c
    cases h
    exact throw_x hC hst hw hz hz.2.2.2.1 (by decide) (by decide) aw_0 rfl hl.1 ht dX6_needBlock_15 dX6_needBlock_18 dX6_needBlock_19 dX6_needBlock_21 dX6_needBlock_24 (Nat.le_of_ble_eq_true rfl) (Nat.le_of_ble_eq_true rfl) ⟨Nat.le_of_ble_eq_true rfl, Nat.le_of_ble_eq_true rfl⟩
  · have h := if_f h c
    refine lv_iload_n hx hb dX6_needBlock_4 rfl (lv_at hl 1 rfl) ?_
    refine lv_aload_n hx hb dX6_needBlock_5 rfl (lv_at hl 0 rfl) ?_
    refine C_g_X6_23 hC hw dX6_needBlock_6 ?_
    refine C_g_X6_182 hC hw dX6_needBlock_9 ?_
    refine lv_icmp_lt (tgt := 25) hx hb dX6_needBlock_12 (by decide) (fun c => ?_) (fun c => ?_)
    · have h := if_t h c
      cases h
    · have h := if_f h c
      cases h
      exact throw_x hC hst hw hz hz.2.2.2.1 (by decide) (by decide) aw_0 rfl hl.1 ht dX6_needBlock_15 dX6_needBlock_18 dX6_needBlock_19 dX6_needBlock_21 dX6_needBlock_24 (Nat.le_of_ble_eq_true rfl) (Nat.le_of_ble_eq_true rfl) ⟨Nat.le_of_ble_eq_true rfl, Nat.le_of_ble_eq_true rfl⟩
/-! SlideBoards.cell(III)Z -/
abbrev rm_X6_cell : Room := { frames := 2, cells := 0, slots := 0, locals := 44 }
def f_X6_cell (N : Nat) (σ : St) (a0 : Int32) (a1 : Int32) (a2 : Int32) : Option XR :=
  bx (f_X6_needBlock N σ a0) (fun r2 σ1 => bx (f_X6_needCell N σ1 a1 a2) (fun r5 σ4 => bd1 (f_X0_bitOf N σ4 a1 a2) (fun r7 => bd (f_X0_addCell N σ4 a0 r7) (fun r8 σ9 => gd (decide (r8 = 0 ∨ r8 = 1)) (some (.inl r8, σ9))))))
set_option maxRecDepth 100000 in
set_option maxHeartbeats 4000000 in
theorem c_X6_cell (l : Launch) (D : va_G) (q : Nat → Nat) (k : cK) (N : Nat) (σ : St) (a0 : Int32) (a1 : Int32) (a2 : Int32) (r : Int32) (σ' : St) (h : f_X6_cell N σ a0 a1 a2 = some (.inl r, σ')) :
    Met l yX6_cell [.code yX6_cell cX6_cell 4 (some .boolean)] rm_X6_cell (PC D (CW q k σ) k [.ref (q 0), .int a0, .int a1, .int a2]) (QR D (CW q k σ) (CW q k σ') (some (.int r))) 0 0 (AQ (CW q k σ)) := by
  refine met_of (by decide) (Nat.le_of_ble_eq_true rfl) ?_
  intro p e s m below meth c hC hw ls hl
  have hC : Cx p s m meth c cX6_cell RX6 4 (some .boolean) := hC
  have hl : lv_has ls 4 [(0, .ref (q 0)), (1, .int a0), (2, .int a1), (3, .int a2)] := hl
  have hx := hC.1
  have hb := hC.2.1
  unfold f_X6_cell at h
  refine lv_aload_n hx hb dX6_cell_0 rfl (lv_at hl 0 rfl) ?_
  refine lv_iload_n hx hb dX6_cell_1 rfl (lv_at hl 1 rfl) ?_
  rcases bx_o h with ⟨r2, σ1, hc, h⟩ | ⟨e3, σ1, hc, h⟩
  · refine go_v (run_V (As := [.int a0]) (rest := []) hC hw (c_X6_needBlock l D q k N σ a0 r2 σ1 hc) kw_33 kw_35 kw_36 kw_6 kw_34 hd_X6_needBlock ⟨rfl, rfl⟩ ⟨Nat.le_of_ble_eq_true rfl, Nat.le_of_ble_eq_true rfl⟩ 0 rfl rfl rfl hl.1 rfl (Nat.le_of_ble_eq_true rfl) dX6_cell_2 ⟨Nat.zero_le _, Nat.zero_le _⟩) hw (fun H locs hw => ?_)
    refine lv_aload_n hx hb dX6_cell_5 rfl (lv_at hl 0 rfl) ?_
    refine lv_iload_n hx hb dX6_cell_6 rfl (lv_at hl 2 rfl) ?_
    refine lv_iload_n hx hb dX6_cell_7 rfl (lv_at hl 3 rfl) ?_
    rcases bx_o h with ⟨r5, σ4, hc, h⟩ | ⟨e6, σ4, hc, h⟩
    · refine go_v (run_V (As := [.int a1, .int a2]) (rest := []) hC hw (c_X6_needCell l D q k N σ1 a1 a2 r5 σ4 hc) kw_5 kw_8 kw_9 kw_6 kw_7 hd_X6_needCell ⟨rfl, rfl⟩ ⟨Nat.le_of_ble_eq_true rfl, Nat.le_of_ble_eq_true rfl⟩ 0 rfl rfl rfl hl.1 rfl (Nat.le_of_ble_eq_true rfl) dX6_cell_8 ⟨Nat.zero_le _, Nat.zero_le _⟩) hw (fun H locs hw => ?_)
      refine lv_aload_n hx hb dX6_cell_11 rfl (lv_at hl 0 rfl) ?_
      refine C_g_X6_23 hC hw dX6_cell_12 ?_
      refine lv_iload_n hx hb dX6_cell_15 rfl (lv_at hl 1 rfl) ?_
      refine lv_aload_n hx hb dX6_cell_16 rfl (lv_at hl 0 rfl) ?_
      refine C_g_X6_23 hC hw dX6_cell_17 ?_
      refine lv_iload_n hx hb dX6_cell_20 rfl (lv_at hl 2 rfl) ?_
      refine lv_iload_n hx hb dX6_cell_21 rfl (lv_at hl 3 rfl) ?_
      obtain ⟨r7, hc, h⟩ := bd1_o h
      refine go_i (run_VN (As := [.int a1, .int a2]) (rest := [.int a0, .ref (q 1)]) hC hw (c_X0_bitOf l D q k N σ4 a1 a2 r7 hc) kw_14 kw_16 kw_17 kw_1 kw_15 hd_X0_bitOf ⟨rfl, rfl⟩ ⟨Nat.le_of_ble_eq_true rfl, Nat.le_of_ble_eq_true rfl⟩ 1 rfl rfl rfl hl.1 rfl (Nat.le_of_ble_eq_true rfl) dX6_cell_22 ⟨Nat.zero_le _, Nat.zero_le _⟩) hw (fun H locs hw => ?_)
      obtain ⟨r8, σ9, hc, h⟩ := bd_o h
      refine go_i (run_VN (As := [.int a0, .int r7]) (rest := []) hC hw (c_X0_addCell l D q k N σ4 a0 r7 r8 σ9 hc) kw_37 kw_39 kw_40 kw_1 kw_38 hd_X0_addCell ⟨rfl, rfl⟩ ⟨Nat.le_of_ble_eq_true rfl, Nat.le_of_ble_eq_true rfl⟩ 1 rfl rfl rfl hl.1 rfl (Nat.le_of_ble_eq_true rfl) dX6_cell_25 ⟨Nat.zero_le _, Nat.zero_le _⟩) hw (fun H locs hw => ?_)
      obtain ⟨hz9, h⟩ := gp_o h
      cases h
      exact ret_z hC hz9 hw dX6_cell_28
    · cases h
  · cases h
abbrev rmx_X6_cell : Room := { frames := 8, cells := 1, slots := 6, locals := 117 }
set_option maxRecDepth 100000 in
set_option maxHeartbeats 4000000 in
theorem x_X6_cell (l : Launch) (hst : l.stackTraces = false) (D : va_G) (q : Nat → Nat) (k : cK) (sa : Nat → Nat) (N : Nat) (σ : St) (a0 : Int32) (a1 : Int32) (a2 : Int32) (ee : Nat) (σ' : St) (h : f_X6_cell N σ a0 a1 a2 = some (.inr ee, σ')) :
    vx_Met l yX6_cell [.code yX6_cell cX6_cell 4 (some .boolean)] rmx_X6_cell (PX D (CW q k σ) k sa [.ref (q 0), .int a0, .int a1, .int a2]) QN (XX D (CW q k σ) (CW q k σ') ee) 1 6 (AQ (CW q k σ)) := by
  refine metx_of (by decide) (Nat.le_of_ble_eq_true rfl) ?_
  intro p e s m below meth c hC ht hw hz ls hl
  have hC : Cx p s m meth c cX6_cell RX6 4 (some .boolean) := hC
  have hl : lv_has ls 4 [(0, .ref (q 0)), (1, .int a0), (2, .int a1), (3, .int a2)] := hl
  have hx := hC.1
  have hb := hC.2.1
  unfold f_X6_cell at h
  refine lv_aload_n hx hb dX6_cell_0 rfl (lv_at hl 0 rfl) ?_
  refine lv_iload_n hx hb dX6_cell_1 rfl (lv_at hl 1 rfl) ?_
  rcases bx_o h with ⟨r2, σ1, hc, h⟩ | ⟨e3, σ1, hc, h⟩
  · refine go_v (run_V (As := [.int a0]) (rest := []) hC hw (c_X6_needBlock l D q k N σ a0 r2 σ1 hc) kw_33 kw_35 kw_36 kw_6 kw_34 hd_X6_needBlock ⟨rfl, rfl⟩ ⟨Nat.le_of_ble_eq_true rfl, Nat.le_of_ble_eq_true rfl⟩ 0 rfl rfl rfl hl.1 rfl (Nat.le_of_ble_eq_true rfl) dX6_cell_2 ⟨Nat.zero_le _, Nat.zero_le _⟩) hw (fun H locs hw => ?_)
    refine lv_aload_n hx hb dX6_cell_5 rfl (lv_at hl 0 rfl) ?_
    refine lv_iload_n hx hb dX6_cell_6 rfl (lv_at hl 2 rfl) ?_
    refine lv_iload_n hx hb dX6_cell_7 rfl (lv_at hl 3 rfl) ?_
    rcases bx_o h with ⟨r5, σ4, hc, h⟩ | ⟨e6, σ4, hc, h⟩
    · refine go_v (run_V (As := [.int a1, .int a2]) (rest := []) hC hw (c_X6_needCell l D q k N σ1 a1 a2 r5 σ4 hc) kw_5 kw_8 kw_9 kw_6 kw_7 hd_X6_needCell ⟨rfl, rfl⟩ ⟨Nat.le_of_ble_eq_true rfl, Nat.le_of_ble_eq_true rfl⟩ 0 rfl rfl rfl hl.1 rfl (Nat.le_of_ble_eq_true rfl) dX6_cell_8 ⟨Nat.zero_le _, Nat.zero_le _⟩) hw (fun H locs hw => ?_)
      refine lv_aload_n hx hb dX6_cell_11 rfl (lv_at hl 0 rfl) ?_
      refine C_g_X6_23 hC hw dX6_cell_12 ?_
      refine lv_iload_n hx hb dX6_cell_15 rfl (lv_at hl 1 rfl) ?_
      refine lv_aload_n hx hb dX6_cell_16 rfl (lv_at hl 0 rfl) ?_
      refine C_g_X6_23 hC hw dX6_cell_17 ?_
      refine lv_iload_n hx hb dX6_cell_20 rfl (lv_at hl 2 rfl) ?_
      refine lv_iload_n hx hb dX6_cell_21 rfl (lv_at hl 3 rfl) ?_
      obtain ⟨r7, hc, h⟩ := bd1_o h
      refine go_i (run_VN (As := [.int a1, .int a2]) (rest := [.int a0, .ref (q 1)]) hC hw (c_X0_bitOf l D q k N σ4 a1 a2 r7 hc) kw_14 kw_16 kw_17 kw_1 kw_15 hd_X0_bitOf ⟨rfl, rfl⟩ ⟨Nat.le_of_ble_eq_true rfl, Nat.le_of_ble_eq_true rfl⟩ 1 rfl rfl rfl hl.1 rfl (Nat.le_of_ble_eq_true rfl) dX6_cell_22 ⟨Nat.zero_le _, Nat.zero_le _⟩) hw (fun H locs hw => ?_)
      obtain ⟨r8, σ9, hc, h⟩ := bd_o h
      refine go_i (run_VN (As := [.int a0, .int r7]) (rest := []) hC hw (c_X0_addCell l D q k N σ4 a0 r7 r8 σ9 hc) kw_37 kw_39 kw_40 kw_1 kw_38 hd_X0_addCell ⟨rfl, rfl⟩ ⟨Nat.le_of_ble_eq_true rfl, Nat.le_of_ble_eq_true rfl⟩ 1 rfl rfl rfl hl.1 rfl (Nat.le_of_ble_eq_true rfl) dX6_cell_25 ⟨Nat.zero_le _, Nat.zero_le _⟩) hw (fun H locs hw => ?_)
      obtain ⟨hz9, h⟩ := gp_o h
      cases h
    · cases h
      exact go_x (runx_V (As := [.int a1, .int a2]) (rest := []) hC hw hz (x_X6_needCell l hst D q k sa N σ1 a1 a2 _ _ hc) kw_5 kw_8 kw_9 kw_6 kw_7 hd_X6_needCell ⟨rfl, rfl⟩ ⟨Nat.le_of_ble_eq_true rfl, Nat.le_of_ble_eq_true rfl⟩ 0 rfl rfl rfl hl.1 rfl (Nat.le_of_ble_eq_true rfl) dX6_cell_8 ⟨Nat.le_of_ble_eq_true rfl, Nat.le_of_ble_eq_true rfl⟩) hw (fun H locs q9 ce hw h1 h2 h3 => out_x hC ht hw h1 h2 h3)
  · cases h
    exact go_x (runx_V (As := [.int a0]) (rest := []) hC hw hz (x_X6_needBlock l hst D q k sa N σ a0 _ _ hc) kw_33 kw_35 kw_36 kw_6 kw_34 hd_X6_needBlock ⟨rfl, rfl⟩ ⟨Nat.le_of_ble_eq_true rfl, Nat.le_of_ble_eq_true rfl⟩ 0 rfl rfl rfl hl.1 rfl (Nat.le_of_ble_eq_true rfl) dX6_cell_2 ⟨Nat.le_of_ble_eq_true rfl, Nat.le_of_ble_eq_true rfl⟩) hw (fun H locs q9 ce hw h1 h2 h3 => out_x hC ht hw h1 h2 h3)
/-! SlideBoards.place(I)I -/
abbrev rm_X6_place : Room := { frames := 2, cells := 0, slots := 0, locals := 40 }
def f_X6_place (N : Nat) (σ : St) (a0 : Int32) : Option XR :=
  bx (f_X6_needBlock N σ a0) (fun r2 σ1 => gd (okx a0 8) (bd1 (f_X0_leastCell N σ1 (ra σ1 1 a0)) (fun r4 => some (.inl r4, σ1))))
set_option maxRecDepth 100000 in
set_option maxHeartbeats 4000000 in
theorem c_X6_place (l : Launch) (D : va_G) (q : Nat → Nat) (k : cK) (N : Nat) (σ : St) (a0 : Int32) (r : Int32) (σ' : St) (h : f_X6_place N σ a0 = some (.inl r, σ')) :
    Met l yX6_place [.code yX6_place cX6_place 2 (some .int)] rm_X6_place (PC D (CW q k σ) k [.ref (q 0), .int a0]) (QR D (CW q k σ) (CW q k σ') (some (.int r))) 0 0 (AQ (CW q k σ)) := by
  refine met_of (by decide) (Nat.le_of_ble_eq_true rfl) ?_
  intro p e s m below meth c hC hw ls hl
  have hC : Cx p s m meth c cX6_place RX6 2 (some .int) := hC
  have hl : lv_has ls 2 [(0, .ref (q 0)), (1, .int a0)] := hl
  have hx := hC.1
  have hb := hC.2.1
  unfold f_X6_place at h
  refine lv_aload_n hx hb dX6_place_0 rfl (lv_at hl 0 rfl) ?_
  refine lv_iload_n hx hb dX6_place_1 rfl (lv_at hl 1 rfl) ?_
  rcases bx_o h with ⟨r2, σ1, hc, h⟩ | ⟨e3, σ1, hc, h⟩
  · refine go_v (run_V (As := [.int a0]) (rest := []) hC hw (c_X6_needBlock l D q k N σ a0 r2 σ1 hc) kw_33 kw_35 kw_36 kw_6 kw_34 hd_X6_needBlock ⟨rfl, rfl⟩ ⟨Nat.le_of_ble_eq_true rfl, Nat.le_of_ble_eq_true rfl⟩ 0 rfl rfl rfl hl.1 rfl (Nat.le_of_ble_eq_true rfl) dX6_place_2 ⟨Nat.zero_le _, Nat.zero_le _⟩) hw (fun H locs hw => ?_)
    refine lv_aload_n hx hb dX6_place_5 rfl (lv_at hl 0 rfl) ?_
    refine C_g_X6_23 hC hw dX6_place_6 ?_
    refine C_g_X6_82 hC hw dX6_place_9 ?_
    refine lv_iload_n hx hb dX6_place_12 rfl (lv_at hl 1 rfl) ?_
    obtain ⟨hin, h⟩ := gd_o h
    refine C_ld3 hC hw hin dX6_place_13 ?_
    obtain ⟨r4, hc, h⟩ := bd1_o h
    refine go_i (run_SN (As := [.int (ra σ1 1 a0)]) (rest := []) hC hw (c_X0_leastCell l D q k N σ1 (ra σ1 1 a0) r4 hc) kw_48 kw_50 kw_1 kw_49 hd_X0_leastCell ⟨rfl, rfl⟩ ⟨Nat.le_of_ble_eq_true rfl, Nat.le_of_ble_eq_true rfl⟩ rfl hl.1 rfl (Nat.le_of_ble_eq_true rfl) dX6_place_14 ⟨Nat.zero_le _, Nat.zero_le _⟩) hw (fun H locs hw => ?_)
    cases h
    exact ret_i hC hw dX6_place_17
  · cases h
abbrev rmx_X6_place : Room := { frames := 8, cells := 1, slots := 6, locals := 116 }
set_option maxRecDepth 100000 in
set_option maxHeartbeats 4000000 in
theorem x_X6_place (l : Launch) (hst : l.stackTraces = false) (D : va_G) (q : Nat → Nat) (k : cK) (sa : Nat → Nat) (N : Nat) (σ : St) (a0 : Int32) (ee : Nat) (σ' : St) (h : f_X6_place N σ a0 = some (.inr ee, σ')) :
    vx_Met l yX6_place [.code yX6_place cX6_place 2 (some .int)] rmx_X6_place (PX D (CW q k σ) k sa [.ref (q 0), .int a0]) QN (XX D (CW q k σ) (CW q k σ') ee) 1 6 (AQ (CW q k σ)) := by
  refine metx_of (by decide) (Nat.le_of_ble_eq_true rfl) ?_
  intro p e s m below meth c hC ht hw hz ls hl
  have hC : Cx p s m meth c cX6_place RX6 2 (some .int) := hC
  have hl : lv_has ls 2 [(0, .ref (q 0)), (1, .int a0)] := hl
  have hx := hC.1
  have hb := hC.2.1
  unfold f_X6_place at h
  refine lv_aload_n hx hb dX6_place_0 rfl (lv_at hl 0 rfl) ?_
  refine lv_iload_n hx hb dX6_place_1 rfl (lv_at hl 1 rfl) ?_
  rcases bx_o h with ⟨r2, σ1, hc, h⟩ | ⟨e3, σ1, hc, h⟩
  · refine go_v (run_V (As := [.int a0]) (rest := []) hC hw (c_X6_needBlock l D q k N σ a0 r2 σ1 hc) kw_33 kw_35 kw_36 kw_6 kw_34 hd_X6_needBlock ⟨rfl, rfl⟩ ⟨Nat.le_of_ble_eq_true rfl, Nat.le_of_ble_eq_true rfl⟩ 0 rfl rfl rfl hl.1 rfl (Nat.le_of_ble_eq_true rfl) dX6_place_2 ⟨Nat.zero_le _, Nat.zero_le _⟩) hw (fun H locs hw => ?_)
    refine lv_aload_n hx hb dX6_place_5 rfl (lv_at hl 0 rfl) ?_
    refine C_g_X6_23 hC hw dX6_place_6 ?_
    refine C_g_X6_82 hC hw dX6_place_9 ?_
    refine lv_iload_n hx hb dX6_place_12 rfl (lv_at hl 1 rfl) ?_
    obtain ⟨hin, h⟩ := gd_o h
    refine C_ld3 hC hw hin dX6_place_13 ?_
    obtain ⟨r4, hc, h⟩ := bd1_o h
    refine go_i (run_SN (As := [.int (ra σ1 1 a0)]) (rest := []) hC hw (c_X0_leastCell l D q k N σ1 (ra σ1 1 a0) r4 hc) kw_48 kw_50 kw_1 kw_49 hd_X0_leastCell ⟨rfl, rfl⟩ ⟨Nat.le_of_ble_eq_true rfl, Nat.le_of_ble_eq_true rfl⟩ rfl hl.1 rfl (Nat.le_of_ble_eq_true rfl) dX6_place_14 ⟨Nat.zero_le _, Nat.zero_le _⟩) hw (fun H locs hw => ?_)
    cases h
  · cases h
    exact go_x (runx_V (As := [.int a0]) (rest := []) hC hw hz (x_X6_needBlock l hst D q k sa N σ a0 _ _ hc) kw_33 kw_35 kw_36 kw_6 kw_34 hd_X6_needBlock ⟨rfl, rfl⟩ ⟨Nat.le_of_ble_eq_true rfl, Nat.le_of_ble_eq_true rfl⟩ 0 rfl rfl rfl hl.1 rfl (Nat.le_of_ble_eq_true rfl) dX6_place_2 ⟨Nat.le_of_ble_eq_true rfl, Nat.le_of_ble_eq_true rfl⟩) hw (fun H locs q9 ce hw h1 h2 h3 => out_x hC ht hw h1 h2 h3)
/-! SlideBoards.needWay(I)V -/
abbrev rm_X6_needWay : Room := { frames := 0, cells := 0, slots := 0, locals := 0 }
def f_X6_needWay (N : Nat) (σ : St) (a0 : Int32) : Option XR :=
  if a0 < 0 then (some (.inr 0, σ)) else (if a0 < (4 : Int32) then (some (.inl (0 : Int32), σ)) else (some (.inr 0, σ)))
set_option maxRecDepth 100000 in
set_option maxHeartbeats 4000000 in
theorem c_X6_needWay (l : Launch) (D : va_G) (q : Nat → Nat) (k : cK) (N : Nat) (σ : St) (a0 : Int32) (r : Int32) (σ' : St) (h : f_X6_needWay N σ a0 = some (.inl r, σ')) :
    Met l yX6_needWay [.code yX6_needWay cX6_needWay 1 none] rm_X6_needWay (PC D (CW q k σ) k [.int a0]) (QR D (CW q k σ) (CW q k σ') none) 0 0 (AQ (CW q k σ)) := by
  refine met_of (by decide) (Nat.le_of_ble_eq_true rfl) ?_
  intro p e s m below meth c hC hw ls hl
  have hC : Cx p s m meth c cX6_needWay RX6 1 none := hC
  have hl : lv_has ls 1 [(0, .int a0)] := hl
  have hx := hC.1
  have hb := hC.2.1
  unfold f_X6_needWay at h
  refine lv_iload_n hx hb dX6_needWay_0 rfl (lv_at hl 0 rfl) ?_
  refine lv_if_lt (tgt := 9) hx hb dX6_needWay_1 (by decide) (fun c => ?_) (fun c => ?_)
  · have h := if_t h c
    cases h
  · have h := if_f h c
    refine lv_iload_n hx hb dX6_needWay_4 rfl (lv_at hl 0 rfl) ?_
    refine lv_iconst (v := 4) hx hb dX6_needWay_5 (by decide) ?_
    refine lv_icmp_lt (tgt := 19) hx hb dX6_needWay_6 (by decide) (fun c => ?_) (fun c => ?_)
    · have h := if_t h c
      cases h
      exact ret_v hC hw dX6_needWay_19
    · have h := if_f h c
      cases h
abbrev rmx_X6_needWay : Room := { frames := 7, cells := 1, slots := 6, locals := 95 }
set_option maxRecDepth 100000 in
set_option maxHeartbeats 4000000 in
theorem x_X6_needWay (l : Launch) (hst : l.stackTraces = false) (D : va_G) (q : Nat → Nat) (k : cK) (sa : Nat → Nat) (N : Nat) (σ : St) (a0 : Int32) (ee : Nat) (σ' : St) (h : f_X6_needWay N σ a0 = some (.inr ee, σ')) :
    vx_Met l yX6_needWay [.code yX6_needWay cX6_needWay 1 none] rmx_X6_needWay (PX D (CW q k σ) k sa [.int a0]) QN (XX D (CW q k σ) (CW q k σ') ee) 1 6 (AQ (CW q k σ)) := by
  refine metx_of (by decide) (Nat.le_of_ble_eq_true rfl) ?_
  intro p e s m below meth c hC ht hw hz ls hl
  have hC : Cx p s m meth c cX6_needWay RX6 1 none := hC
  have hl : lv_has ls 1 [(0, .int a0)] := hl
  have hx := hC.1
  have hb := hC.2.1
  unfold f_X6_needWay at h
  refine lv_iload_n hx hb dX6_needWay_0 rfl (lv_at hl 0 rfl) ?_
  refine lv_if_lt (tgt := 9) hx hb dX6_needWay_1 (by decide) (fun c => ?_) (fun c => ?_)
  · have h := if_t h c
    cases h
    exact throw_x hC hst hw hz hz.2.2.2.2.1 (by decide) (by decide) aw_0 rfl hl.1 ht dX6_needWay_9 dX6_needWay_12 dX6_needWay_13 dX6_needWay_15 dX6_needWay_18 (Nat.le_of_ble_eq_true rfl) (Nat.le_of_ble_eq_true rfl) ⟨Nat.le_of_ble_eq_true rfl, Nat.le_of_ble_eq_true rfl⟩
  · have h := if_f h c
    refine lv_iload_n hx hb dX6_needWay_4 rfl (lv_at hl 0 rfl) ?_
    refine lv_iconst (v := 4) hx hb dX6_needWay_5 (by decide) ?_
    refine lv_icmp_lt (tgt := 19) hx hb dX6_needWay_6 (by decide) (fun c => ?_) (fun c => ?_)
    · have h := if_t h c
      cases h
    · have h := if_f h c
      cases h
      exact throw_x hC hst hw hz hz.2.2.2.2.1 (by decide) (by decide) aw_0 rfl hl.1 ht dX6_needWay_9 dX6_needWay_12 dX6_needWay_13 dX6_needWay_15 dX6_needWay_18 (Nat.le_of_ble_eq_true rfl) (Nat.le_of_ble_eq_true rfl) ⟨Nat.le_of_ble_eq_true rfl, Nat.le_of_ble_eq_true rfl⟩
/-! SlideBoards.slide(III)I -/
abbrev rm_X6_slide : Room := { frames := 2, cells := 0, slots := 0, locals := 50 }
def f_X6_slide (N : Nat) (σ : St) (a0 : Int32) (a1 : Int32) (a2 : Int32) : Option XR :=
  bx (f_X6_needBlock N σ a0) (fun r2 σ1 => bx (f_X6_needWay N σ1 a1) (fun r5 σ4 => bd (f_X0_slideBlock N σ4 a0 a1 a2) (fun r7 σ8 => some (.inl r7, σ8))))
set_option maxRecDepth 100000 in
set_option maxHeartbeats 4000000 in
theorem c_X6_slide (l : Launch) (D : va_G) (q : Nat → Nat) (k : cK) (N : Nat) (σ : St) (a0 : Int32) (a1 : Int32) (a2 : Int32) (r : Int32) (σ' : St) (h : f_X6_slide N σ a0 a1 a2 = some (.inl r, σ')) :
    Met l yX6_slide [.code yX6_slide cX6_slide 4 (some .int)] rm_X6_slide (PC D (CW q k σ) k [.ref (q 0), .int a0, .int a1, .int a2]) (QR D (CW q k σ) (CW q k σ') (some (.int r))) 0 0 (AQ (CW q k σ)) := by
  refine met_of (by decide) (Nat.le_of_ble_eq_true rfl) ?_
  intro p e s m below meth c hC hw ls hl
  have hC : Cx p s m meth c cX6_slide RX6 4 (some .int) := hC
  have hl : lv_has ls 4 [(0, .ref (q 0)), (1, .int a0), (2, .int a1), (3, .int a2)] := hl
  have hx := hC.1
  have hb := hC.2.1
  unfold f_X6_slide at h
  refine lv_aload_n hx hb dX6_slide_0 rfl (lv_at hl 0 rfl) ?_
  refine lv_iload_n hx hb dX6_slide_1 rfl (lv_at hl 1 rfl) ?_
  rcases bx_o h with ⟨r2, σ1, hc, h⟩ | ⟨e3, σ1, hc, h⟩
  · refine go_v (run_V (As := [.int a0]) (rest := []) hC hw (c_X6_needBlock l D q k N σ a0 r2 σ1 hc) kw_33 kw_35 kw_36 kw_6 kw_34 hd_X6_needBlock ⟨rfl, rfl⟩ ⟨Nat.le_of_ble_eq_true rfl, Nat.le_of_ble_eq_true rfl⟩ 0 rfl rfl rfl hl.1 rfl (Nat.le_of_ble_eq_true rfl) dX6_slide_2 ⟨Nat.zero_le _, Nat.zero_le _⟩) hw (fun H locs hw => ?_)
    refine lv_iload_n hx hb dX6_slide_5 rfl (lv_at hl 2 rfl) ?_
    rcases bx_o h with ⟨r5, σ4, hc, h⟩ | ⟨e6, σ4, hc, h⟩
    · refine go_v (run_S (As := [.int a1]) (rest := []) hC hw (c_X6_needWay l D q k N σ1 a1 r5 σ4 hc) kw_51 kw_53 kw_6 kw_52 hd_X6_needWay ⟨rfl, rfl⟩ ⟨Nat.le_of_ble_eq_true rfl, Nat.le_of_ble_eq_true rfl⟩ rfl hl.1 rfl (Nat.le_of_ble_eq_true rfl) dX6_slide_6 ⟨Nat.zero_le _, Nat.zero_le _⟩) hw (fun H locs hw => ?_)
      refine lv_aload_n hx hb dX6_slide_9 rfl (lv_at hl 0 rfl) ?_
      refine C_g_X6_23 hC hw dX6_slide_10 ?_
      refine lv_iload_n hx hb dX6_slide_13 rfl (lv_at hl 1 rfl) ?_
      refine lv_iload_n hx hb dX6_slide_14 rfl (lv_at hl 2 rfl) ?_
      refine lv_iload_n hx hb dX6_slide_15 rfl (lv_at hl 3 rfl) ?_
      obtain ⟨r7, σ8, hc, h⟩ := bd_o h
      refine go_i (run_VN (As := [.int a0, .int a1, .int a2]) (rest := []) hC hw (c_X0_slideBlock l D q k N σ4 a0 a1 a2 r7 σ8 hc) kw_58 kw_60 kw_61 kw_1 kw_59 hd_X0_slideBlock ⟨rfl, rfl⟩ ⟨Nat.le_of_ble_eq_true rfl, Nat.le_of_ble_eq_true rfl⟩ 1 rfl rfl rfl hl.1 rfl (Nat.le_of_ble_eq_true rfl) dX6_slide_16 ⟨Nat.zero_le _, Nat.zero_le _⟩) hw (fun H locs hw => ?_)
      cases h
      exact ret_i hC hw dX6_slide_19
    · cases h
  · cases h
abbrev rmx_X6_slide : Room := { frames := 8, cells := 1, slots := 6, locals := 116 }
set_option maxRecDepth 100000 in
set_option maxHeartbeats 4000000 in
theorem x_X6_slide (l : Launch) (hst : l.stackTraces = false) (D : va_G) (q : Nat → Nat) (k : cK) (sa : Nat → Nat) (N : Nat) (σ : St) (a0 : Int32) (a1 : Int32) (a2 : Int32) (ee : Nat) (σ' : St) (h : f_X6_slide N σ a0 a1 a2 = some (.inr ee, σ')) :
    vx_Met l yX6_slide [.code yX6_slide cX6_slide 4 (some .int)] rmx_X6_slide (PX D (CW q k σ) k sa [.ref (q 0), .int a0, .int a1, .int a2]) QN (XX D (CW q k σ) (CW q k σ') ee) 1 6 (AQ (CW q k σ)) := by
  refine metx_of (by decide) (Nat.le_of_ble_eq_true rfl) ?_
  intro p e s m below meth c hC ht hw hz ls hl
  have hC : Cx p s m meth c cX6_slide RX6 4 (some .int) := hC
  have hl : lv_has ls 4 [(0, .ref (q 0)), (1, .int a0), (2, .int a1), (3, .int a2)] := hl
  have hx := hC.1
  have hb := hC.2.1
  unfold f_X6_slide at h
  refine lv_aload_n hx hb dX6_slide_0 rfl (lv_at hl 0 rfl) ?_
  refine lv_iload_n hx hb dX6_slide_1 rfl (lv_at hl 1 rfl) ?_
  rcases bx_o h with ⟨r2, σ1, hc, h⟩ | ⟨e3, σ1, hc, h⟩
  · refine go_v (run_V (As := [.int a0]) (rest := []) hC hw (c_X6_needBlock l D q k N σ a0 r2 σ1 hc) kw_33 kw_35 kw_36 kw_6 kw_34 hd_X6_needBlock ⟨rfl, rfl⟩ ⟨Nat.le_of_ble_eq_true rfl, Nat.le_of_ble_eq_true rfl⟩ 0 rfl rfl rfl hl.1 rfl (Nat.le_of_ble_eq_true rfl) dX6_slide_2 ⟨Nat.zero_le _, Nat.zero_le _⟩) hw (fun H locs hw => ?_)
    refine lv_iload_n hx hb dX6_slide_5 rfl (lv_at hl 2 rfl) ?_
    rcases bx_o h with ⟨r5, σ4, hc, h⟩ | ⟨e6, σ4, hc, h⟩
    · refine go_v (run_S (As := [.int a1]) (rest := []) hC hw (c_X6_needWay l D q k N σ1 a1 r5 σ4 hc) kw_51 kw_53 kw_6 kw_52 hd_X6_needWay ⟨rfl, rfl⟩ ⟨Nat.le_of_ble_eq_true rfl, Nat.le_of_ble_eq_true rfl⟩ rfl hl.1 rfl (Nat.le_of_ble_eq_true rfl) dX6_slide_6 ⟨Nat.zero_le _, Nat.zero_le _⟩) hw (fun H locs hw => ?_)
      refine lv_aload_n hx hb dX6_slide_9 rfl (lv_at hl 0 rfl) ?_
      refine C_g_X6_23 hC hw dX6_slide_10 ?_
      refine lv_iload_n hx hb dX6_slide_13 rfl (lv_at hl 1 rfl) ?_
      refine lv_iload_n hx hb dX6_slide_14 rfl (lv_at hl 2 rfl) ?_
      refine lv_iload_n hx hb dX6_slide_15 rfl (lv_at hl 3 rfl) ?_
      obtain ⟨r7, σ8, hc, h⟩ := bd_o h
      refine go_i (run_VN (As := [.int a0, .int a1, .int a2]) (rest := []) hC hw (c_X0_slideBlock l D q k N σ4 a0 a1 a2 r7 σ8 hc) kw_58 kw_60 kw_61 kw_1 kw_59 hd_X0_slideBlock ⟨rfl, rfl⟩ ⟨Nat.le_of_ble_eq_true rfl, Nat.le_of_ble_eq_true rfl⟩ 1 rfl rfl rfl hl.1 rfl (Nat.le_of_ble_eq_true rfl) dX6_slide_16 ⟨Nat.zero_le _, Nat.zero_le _⟩) hw (fun H locs hw => ?_)
      cases h
    · cases h
      exact go_x (runx_S (As := [.int a1]) (rest := []) hC hw hz (x_X6_needWay l hst D q k sa N σ1 a1 _ _ hc) kw_51 kw_53 kw_6 kw_52 hd_X6_needWay ⟨rfl, rfl⟩ ⟨Nat.le_of_ble_eq_true rfl, Nat.le_of_ble_eq_true rfl⟩ rfl hl.1 rfl (Nat.le_of_ble_eq_true rfl) dX6_slide_6 ⟨Nat.le_of_ble_eq_true rfl, Nat.le_of_ble_eq_true rfl⟩) hw (fun H locs q9 ce hw h1 h2 h3 => out_x hC ht hw h1 h2 h3)
  · cases h
    exact go_x (runx_V (As := [.int a0]) (rest := []) hC hw hz (x_X6_needBlock l hst D q k sa N σ a0 _ _ hc) kw_33 kw_35 kw_36 kw_6 kw_34 hd_X6_needBlock ⟨rfl, rfl⟩ ⟨Nat.le_of_ble_eq_true rfl, Nat.le_of_ble_eq_true rfl⟩ 0 rfl rfl rfl hl.1 rfl (Nat.le_of_ble_eq_true rfl) dX6_slide_2 ⟨Nat.le_of_ble_eq_true rfl, Nat.le_of_ble_eq_true rfl⟩) hw (fun H locs q9 ce hw h1 h2 h3 => out_x hC ht hw h1 h2 h3)
/-! SlideBoards.goal(III)I -/
abbrev rm_X6_goal : Room := { frames := 2, cells := 0, slots := 0, locals := 44 }
def f_X6_goal (N : Nat) (σ : St) (a0 : Int32) (a1 : Int32) (a2 : Int32) : Option XR :=
  bx (f_X6_needBlock N σ a0) (fun r2 σ1 => bx (f_X6_needCell N σ1 a1 a2) (fun r5 σ4 => bd1 (f_X0_cellOf N σ4 a1 a2) (fun r7 => bd (f_X2_add N σ4 (0 : Int32) a0 r7) (fun r8 σ9 => some (.inl r8, σ9)))))
set_option maxRecDepth 100000 in
set_option maxHeartbeats 4000000 in
theorem c_X6_goal (l : Launch) (D : va_G) (q : Nat → Nat) (k : cK) (N : Nat) (σ : St) (a0 : Int32) (a1 : Int32) (a2 : Int32) (r : Int32) (σ' : St) (h : f_X6_goal N σ a0 a1 a2 = some (.inl r, σ')) :
    Met l yX6_goal [.code yX6_goal cX6_goal 4 (some .int)] rm_X6_goal (PC D (CW q k σ) k [.ref (q 0), .int a0, .int a1, .int a2]) (QR D (CW q k σ) (CW q k σ') (some (.int r))) 0 0 (AQ (CW q k σ)) := by
  refine met_of (by decide) (Nat.le_of_ble_eq_true rfl) ?_
  intro p e s m below meth c hC hw ls hl
  have hC : Cx p s m meth c cX6_goal RX6 4 (some .int) := hC
  have hl : lv_has ls 4 [(0, .ref (q 0)), (1, .int a0), (2, .int a1), (3, .int a2)] := hl
  have hx := hC.1
  have hb := hC.2.1
  unfold f_X6_goal at h
  refine lv_aload_n hx hb dX6_goal_0 rfl (lv_at hl 0 rfl) ?_
  refine lv_iload_n hx hb dX6_goal_1 rfl (lv_at hl 1 rfl) ?_
  rcases bx_o h with ⟨r2, σ1, hc, h⟩ | ⟨e3, σ1, hc, h⟩
  · refine go_v (run_V (As := [.int a0]) (rest := []) hC hw (c_X6_needBlock l D q k N σ a0 r2 σ1 hc) kw_33 kw_35 kw_36 kw_6 kw_34 hd_X6_needBlock ⟨rfl, rfl⟩ ⟨Nat.le_of_ble_eq_true rfl, Nat.le_of_ble_eq_true rfl⟩ 0 rfl rfl rfl hl.1 rfl (Nat.le_of_ble_eq_true rfl) dX6_goal_2 ⟨Nat.zero_le _, Nat.zero_le _⟩) hw (fun H locs hw => ?_)
    refine lv_aload_n hx hb dX6_goal_5 rfl (lv_at hl 0 rfl) ?_
    refine lv_iload_n hx hb dX6_goal_6 rfl (lv_at hl 2 rfl) ?_
    refine lv_iload_n hx hb dX6_goal_7 rfl (lv_at hl 3 rfl) ?_
    rcases bx_o h with ⟨r5, σ4, hc, h⟩ | ⟨e6, σ4, hc, h⟩
    · refine go_v (run_V (As := [.int a1, .int a2]) (rest := []) hC hw (c_X6_needCell l D q k N σ1 a1 a2 r5 σ4 hc) kw_5 kw_8 kw_9 kw_6 kw_7 hd_X6_needCell ⟨rfl, rfl⟩ ⟨Nat.le_of_ble_eq_true rfl, Nat.le_of_ble_eq_true rfl⟩ 0 rfl rfl rfl hl.1 rfl (Nat.le_of_ble_eq_true rfl) dX6_goal_8 ⟨Nat.zero_le _, Nat.zero_le _⟩) hw (fun H locs hw => ?_)
      refine lv_aload_n hx hb dX6_goal_11 rfl (lv_at hl 0 rfl) ?_
      refine C_g_X6_30 hC hw dX6_goal_12 ?_
      refine lv_iconst (v := 0) hx hb dX6_goal_15 (by decide) ?_
      refine lv_iload_n hx hb dX6_goal_16 rfl (lv_at hl 1 rfl) ?_
      refine lv_aload_n hx hb dX6_goal_17 rfl (lv_at hl 0 rfl) ?_
      refine C_g_X6_23 hC hw dX6_goal_18 ?_
      refine lv_iload_n hx hb dX6_goal_21 rfl (lv_at hl 2 rfl) ?_
      refine lv_iload_n hx hb dX6_goal_22 rfl (lv_at hl 3 rfl) ?_
      obtain ⟨r7, hc, h⟩ := bd1_o h
      refine go_i (run_VN (As := [.int a1, .int a2]) (rest := [.int a0, .int (0 : Int32), .ref (q 4)]) hC hw (c_X0_cellOf l D q k N σ4 a1 a2 r7 hc) kw_62 kw_12 kw_13 kw_1 kw_11 hd_X0_cellOf ⟨rfl, rfl⟩ ⟨Nat.le_of_ble_eq_true rfl, Nat.le_of_ble_eq_true rfl⟩ 1 rfl rfl rfl hl.1 rfl (Nat.le_of_ble_eq_true rfl) dX6_goal_23 ⟨Nat.zero_le _, Nat.zero_le _⟩) hw (fun H locs hw => ?_)
      obtain ⟨r8, σ9, hc, h⟩ := bd_o h
      refine go_i (run_VN (As := [.int (0 : Int32), .int a0, .int r7]) (rest := []) hC hw (c_X2_add l D q k N σ4 (0 : Int32) a0 r7 r8 σ9 hc) kw_63 kw_66 kw_67 kw_64 kw_65 hd_X2_add ⟨rfl, rfl⟩ ⟨Nat.le_of_ble_eq_true rfl, Nat.le_of_ble_eq_true rfl⟩ 4 rfl rfl rfl hl.1 rfl (Nat.le_of_ble_eq_true rfl) dX6_goal_26 ⟨Nat.zero_le _, Nat.zero_le _⟩) hw (fun H locs hw => ?_)
      cases h
      exact ret_i hC hw dX6_goal_29
    · cases h
  · cases h
abbrev rmx_X6_goal : Room := { frames := 8, cells := 1, slots := 6, locals := 117 }
set_option maxRecDepth 100000 in
set_option maxHeartbeats 4000000 in
theorem x_X6_goal (l : Launch) (hst : l.stackTraces = false) (D : va_G) (q : Nat → Nat) (k : cK) (sa : Nat → Nat) (N : Nat) (σ : St) (a0 : Int32) (a1 : Int32) (a2 : Int32) (ee : Nat) (σ' : St) (h : f_X6_goal N σ a0 a1 a2 = some (.inr ee, σ')) :
    vx_Met l yX6_goal [.code yX6_goal cX6_goal 4 (some .int)] rmx_X6_goal (PX D (CW q k σ) k sa [.ref (q 0), .int a0, .int a1, .int a2]) QN (XX D (CW q k σ) (CW q k σ') ee) 1 6 (AQ (CW q k σ)) := by
  refine metx_of (by decide) (Nat.le_of_ble_eq_true rfl) ?_
  intro p e s m below meth c hC ht hw hz ls hl
  have hC : Cx p s m meth c cX6_goal RX6 4 (some .int) := hC
  have hl : lv_has ls 4 [(0, .ref (q 0)), (1, .int a0), (2, .int a1), (3, .int a2)] := hl
  have hx := hC.1
  have hb := hC.2.1
  unfold f_X6_goal at h
  refine lv_aload_n hx hb dX6_goal_0 rfl (lv_at hl 0 rfl) ?_
  refine lv_iload_n hx hb dX6_goal_1 rfl (lv_at hl 1 rfl) ?_
  rcases bx_o h with ⟨r2, σ1, hc, h⟩ | ⟨e3, σ1, hc, h⟩
  · refine go_v (run_V (As := [.int a0]) (rest := []) hC hw (c_X6_needBlock l D q k N σ a0 r2 σ1 hc) kw_33 kw_35 kw_36 kw_6 kw_34 hd_X6_needBlock ⟨rfl, rfl⟩ ⟨Nat.le_of_ble_eq_true rfl, Nat.le_of_ble_eq_true rfl⟩ 0 rfl rfl rfl hl.1 rfl (Nat.le_of_ble_eq_true rfl) dX6_goal_2 ⟨Nat.zero_le _, Nat.zero_le _⟩) hw (fun H locs hw => ?_)
    refine lv_aload_n hx hb dX6_goal_5 rfl (lv_at hl 0 rfl) ?_
    refine lv_iload_n hx hb dX6_goal_6 rfl (lv_at hl 2 rfl) ?_
    refine lv_iload_n hx hb dX6_goal_7 rfl (lv_at hl 3 rfl) ?_
    rcases bx_o h with ⟨r5, σ4, hc, h⟩ | ⟨e6, σ4, hc, h⟩
    · refine go_v (run_V (As := [.int a1, .int a2]) (rest := []) hC hw (c_X6_needCell l D q k N σ1 a1 a2 r5 σ4 hc) kw_5 kw_8 kw_9 kw_6 kw_7 hd_X6_needCell ⟨rfl, rfl⟩ ⟨Nat.le_of_ble_eq_true rfl, Nat.le_of_ble_eq_true rfl⟩ 0 rfl rfl rfl hl.1 rfl (Nat.le_of_ble_eq_true rfl) dX6_goal_8 ⟨Nat.zero_le _, Nat.zero_le _⟩) hw (fun H locs hw => ?_)
      refine lv_aload_n hx hb dX6_goal_11 rfl (lv_at hl 0 rfl) ?_
      refine C_g_X6_30 hC hw dX6_goal_12 ?_
      refine lv_iconst (v := 0) hx hb dX6_goal_15 (by decide) ?_
      refine lv_iload_n hx hb dX6_goal_16 rfl (lv_at hl 1 rfl) ?_
      refine lv_aload_n hx hb dX6_goal_17 rfl (lv_at hl 0 rfl) ?_
      refine C_g_X6_23 hC hw dX6_goal_18 ?_
      refine lv_iload_n hx hb dX6_goal_21 rfl (lv_at hl 2 rfl) ?_
      refine lv_iload_n hx hb dX6_goal_22 rfl (lv_at hl 3 rfl) ?_
      obtain ⟨r7, hc, h⟩ := bd1_o h
      refine go_i (run_VN (As := [.int a1, .int a2]) (rest := [.int a0, .int (0 : Int32), .ref (q 4)]) hC hw (c_X0_cellOf l D q k N σ4 a1 a2 r7 hc) kw_62 kw_12 kw_13 kw_1 kw_11 hd_X0_cellOf ⟨rfl, rfl⟩ ⟨Nat.le_of_ble_eq_true rfl, Nat.le_of_ble_eq_true rfl⟩ 1 rfl rfl rfl hl.1 rfl (Nat.le_of_ble_eq_true rfl) dX6_goal_23 ⟨Nat.zero_le _, Nat.zero_le _⟩) hw (fun H locs hw => ?_)
      obtain ⟨r8, σ9, hc, h⟩ := bd_o h
      refine go_i (run_VN (As := [.int (0 : Int32), .int a0, .int r7]) (rest := []) hC hw (c_X2_add l D q k N σ4 (0 : Int32) a0 r7 r8 σ9 hc) kw_63 kw_66 kw_67 kw_64 kw_65 hd_X2_add ⟨rfl, rfl⟩ ⟨Nat.le_of_ble_eq_true rfl, Nat.le_of_ble_eq_true rfl⟩ 4 rfl rfl rfl hl.1 rfl (Nat.le_of_ble_eq_true rfl) dX6_goal_26 ⟨Nat.zero_le _, Nat.zero_le _⟩) hw (fun H locs hw => ?_)
      cases h
    · cases h
      exact go_x (runx_V (As := [.int a1, .int a2]) (rest := []) hC hw hz (x_X6_needCell l hst D q k sa N σ1 a1 a2 _ _ hc) kw_5 kw_8 kw_9 kw_6 kw_7 hd_X6_needCell ⟨rfl, rfl⟩ ⟨Nat.le_of_ble_eq_true rfl, Nat.le_of_ble_eq_true rfl⟩ 0 rfl rfl rfl hl.1 rfl (Nat.le_of_ble_eq_true rfl) dX6_goal_8 ⟨Nat.le_of_ble_eq_true rfl, Nat.le_of_ble_eq_true rfl⟩) hw (fun H locs q9 ce hw h1 h2 h3 => out_x hC ht hw h1 h2 h3)
  · cases h
    exact go_x (runx_V (As := [.int a0]) (rest := []) hC hw hz (x_X6_needBlock l hst D q k sa N σ a0 _ _ hc) kw_33 kw_35 kw_36 kw_6 kw_34 hd_X6_needBlock ⟨rfl, rfl⟩ ⟨Nat.le_of_ble_eq_true rfl, Nat.le_of_ble_eq_true rfl⟩ 0 rfl rfl rfl hl.1 rfl (Nat.le_of_ble_eq_true rfl) dX6_goal_2 ⟨Nat.le_of_ble_eq_true rfl, Nat.le_of_ble_eq_true rfl⟩) hw (fun H locs q9 ce hw h1 h2 h3 => out_x hC ht hw h1 h2 h3)
/-! SlideBoards.kindGoal(III)I -/
abbrev rm_X6_kindGoal : Room := { frames := 2, cells := 0, slots := 0, locals := 44 }
def f_X6_kindGoal (N : Nat) (σ : St) (a0 : Int32) (a1 : Int32) (a2 : Int32) : Option XR :=
  bx (f_X6_needCell N σ a1 a2) (fun r2 σ1 => bx (f_X6_needKind N σ1 a0) (fun r5 σ4 => bd1 (f_X0_cellOf N σ4 a1 a2) (fun r7 => bd (f_X2_add N σ4 (1 : Int32) a0 r7) (fun r8 σ9 => some (.inl r8, σ9)))))
set_option maxRecDepth 100000 in
set_option maxHeartbeats 4000000 in
theorem c_X6_kindGoal (l : Launch) (D : va_G) (q : Nat → Nat) (k : cK) (N : Nat) (σ : St) (a0 : Int32) (a1 : Int32) (a2 : Int32) (r : Int32) (σ' : St) (h : f_X6_kindGoal N σ a0 a1 a2 = some (.inl r, σ')) :
    Met l yX6_kindGoal [.code yX6_kindGoal cX6_kindGoal 4 (some .int)] rm_X6_kindGoal (PC D (CW q k σ) k [.ref (q 0), .int a0, .int a1, .int a2]) (QR D (CW q k σ) (CW q k σ') (some (.int r))) 0 0 (AQ (CW q k σ)) := by
  refine met_of (by decide) (Nat.le_of_ble_eq_true rfl) ?_
  intro p e s m below meth c hC hw ls hl
  have hC : Cx p s m meth c cX6_kindGoal RX6 4 (some .int) := hC
  have hl : lv_has ls 4 [(0, .ref (q 0)), (1, .int a0), (2, .int a1), (3, .int a2)] := hl
  have hx := hC.1
  have hb := hC.2.1
  unfold f_X6_kindGoal at h
  refine lv_aload_n hx hb dX6_kindGoal_0 rfl (lv_at hl 0 rfl) ?_
  refine lv_iload_n hx hb dX6_kindGoal_1 rfl (lv_at hl 2 rfl) ?_
  refine lv_iload_n hx hb dX6_kindGoal_2 rfl (lv_at hl 3 rfl) ?_
  rcases bx_o h with ⟨r2, σ1, hc, h⟩ | ⟨e3, σ1, hc, h⟩
  · refine go_v (run_V (As := [.int a1, .int a2]) (rest := []) hC hw (c_X6_needCell l D q k N σ a1 a2 r2 σ1 hc) kw_5 kw_8 kw_9 kw_6 kw_7 hd_X6_needCell ⟨rfl, rfl⟩ ⟨Nat.le_of_ble_eq_true rfl, Nat.le_of_ble_eq_true rfl⟩ 0 rfl rfl rfl hl.1 rfl (Nat.le_of_ble_eq_true rfl) dX6_kindGoal_3 ⟨Nat.zero_le _, Nat.zero_le _⟩) hw (fun H locs hw => ?_)
    refine lv_iload_n hx hb dX6_kindGoal_6 rfl (lv_at hl 1 rfl) ?_
    rcases bx_o h with ⟨r5, σ4, hc, h⟩ | ⟨e6, σ4, hc, h⟩
    · refine go_v (run_S (As := [.int a0]) (rest := []) hC hw (c_X6_needKind l D q k N σ1 a0 r5 σ4 hc) kw_26 kw_28 kw_6 kw_27 hd_X6_needKind ⟨rfl, rfl⟩ ⟨Nat.le_of_ble_eq_true rfl, Nat.le_of_ble_eq_true rfl⟩ rfl hl.1 rfl (Nat.le_of_ble_eq_true rfl) dX6_kindGoal_7 ⟨Nat.zero_le _, Nat.zero_le _⟩) hw (fun H locs hw => ?_)
      refine lv_aload_n hx hb dX6_kindGoal_10 rfl (lv_at hl 0 rfl) ?_
      refine C_g_X6_30 hC hw dX6_kindGoal_11 ?_
      refine lv_iconst (v := 1) hx hb dX6_kindGoal_14 (by decide) ?_
      refine lv_iload_n hx hb dX6_kindGoal_15 rfl (lv_at hl 1 rfl) ?_
      refine lv_aload_n hx hb dX6_kindGoal_16 rfl (lv_at hl 0 rfl) ?_
      refine C_g_X6_23 hC hw dX6_kindGoal_17 ?_
      refine lv_iload_n hx hb dX6_kindGoal_20 rfl (lv_at hl 2 rfl) ?_
      refine lv_iload_n hx hb dX6_kindGoal_21 rfl (lv_at hl 3 rfl) ?_
      obtain ⟨r7, hc, h⟩ := bd1_o h
      refine go_i (run_VN (As := [.int a1, .int a2]) (rest := [.int a0, .int (1 : Int32), .ref (q 4)]) hC hw (c_X0_cellOf l D q k N σ4 a1 a2 r7 hc) kw_62 kw_12 kw_13 kw_1 kw_11 hd_X0_cellOf ⟨rfl, rfl⟩ ⟨Nat.le_of_ble_eq_true rfl, Nat.le_of_ble_eq_true rfl⟩ 1 rfl rfl rfl hl.1 rfl (Nat.le_of_ble_eq_true rfl) dX6_kindGoal_22 ⟨Nat.zero_le _, Nat.zero_le _⟩) hw (fun H locs hw => ?_)
      obtain ⟨r8, σ9, hc, h⟩ := bd_o h
      refine go_i (run_VN (As := [.int (1 : Int32), .int a0, .int r7]) (rest := []) hC hw (c_X2_add l D q k N σ4 (1 : Int32) a0 r7 r8 σ9 hc) kw_63 kw_66 kw_67 kw_64 kw_65 hd_X2_add ⟨rfl, rfl⟩ ⟨Nat.le_of_ble_eq_true rfl, Nat.le_of_ble_eq_true rfl⟩ 4 rfl rfl rfl hl.1 rfl (Nat.le_of_ble_eq_true rfl) dX6_kindGoal_25 ⟨Nat.zero_le _, Nat.zero_le _⟩) hw (fun H locs hw => ?_)
      cases h
      exact ret_i hC hw dX6_kindGoal_28
    · cases h
  · cases h
abbrev rmx_X6_kindGoal : Room := { frames := 8, cells := 1, slots := 6, locals := 117 }
set_option maxRecDepth 100000 in
set_option maxHeartbeats 4000000 in
theorem x_X6_kindGoal (l : Launch) (hst : l.stackTraces = false) (D : va_G) (q : Nat → Nat) (k : cK) (sa : Nat → Nat) (N : Nat) (σ : St) (a0 : Int32) (a1 : Int32) (a2 : Int32) (ee : Nat) (σ' : St) (h : f_X6_kindGoal N σ a0 a1 a2 = some (.inr ee, σ')) :
    vx_Met l yX6_kindGoal [.code yX6_kindGoal cX6_kindGoal 4 (some .int)] rmx_X6_kindGoal (PX D (CW q k σ) k sa [.ref (q 0), .int a0, .int a1, .int a2]) QN (XX D (CW q k σ) (CW q k σ') ee) 1 6 (AQ (CW q k σ)) := by
  refine metx_of (by decide) (Nat.le_of_ble_eq_true rfl) ?_
  intro p e s m below meth c hC ht hw hz ls hl
  have hC : Cx p s m meth c cX6_kindGoal RX6 4 (some .int) := hC
  have hl : lv_has ls 4 [(0, .ref (q 0)), (1, .int a0), (2, .int a1), (3, .int a2)] := hl
  have hx := hC.1
  have hb := hC.2.1
  unfold f_X6_kindGoal at h
  refine lv_aload_n hx hb dX6_kindGoal_0 rfl (lv_at hl 0 rfl) ?_
  refine lv_iload_n hx hb dX6_kindGoal_1 rfl (lv_at hl 2 rfl) ?_
  refine lv_iload_n hx hb dX6_kindGoal_2 rfl (lv_at hl 3 rfl) ?_
  rcases bx_o h with ⟨r2, σ1, hc, h⟩ | ⟨e3, σ1, hc, h⟩
  · refine go_v (run_V (As := [.int a1, .int a2]) (rest := []) hC hw (c_X6_needCell l D q k N σ a1 a2 r2 σ1 hc) kw_5 kw_8 kw_9 kw_6 kw_7 hd_X6_needCell ⟨rfl, rfl⟩ ⟨Nat.le_of_ble_eq_true rfl, Nat.le_of_ble_eq_true rfl⟩ 0 rfl rfl rfl hl.1 rfl (Nat.le_of_ble_eq_true rfl) dX6_kindGoal_3 ⟨Nat.zero_le _, Nat.zero_le _⟩) hw (fun H locs hw => ?_)
    refine lv_iload_n hx hb dX6_kindGoal_6 rfl (lv_at hl 1 rfl) ?_
    rcases bx_o h with ⟨r5, σ4, hc, h⟩ | ⟨e6, σ4, hc, h⟩
    · refine go_v (run_S (As := [.int a0]) (rest := []) hC hw (c_X6_needKind l D q k N σ1 a0 r5 σ4 hc) kw_26 kw_28 kw_6 kw_27 hd_X6_needKind ⟨rfl, rfl⟩ ⟨Nat.le_of_ble_eq_true rfl, Nat.le_of_ble_eq_true rfl⟩ rfl hl.1 rfl (Nat.le_of_ble_eq_true rfl) dX6_kindGoal_7 ⟨Nat.zero_le _, Nat.zero_le _⟩) hw (fun H locs hw => ?_)
      refine lv_aload_n hx hb dX6_kindGoal_10 rfl (lv_at hl 0 rfl) ?_
      refine C_g_X6_30 hC hw dX6_kindGoal_11 ?_
      refine lv_iconst (v := 1) hx hb dX6_kindGoal_14 (by decide) ?_
      refine lv_iload_n hx hb dX6_kindGoal_15 rfl (lv_at hl 1 rfl) ?_
      refine lv_aload_n hx hb dX6_kindGoal_16 rfl (lv_at hl 0 rfl) ?_
      refine C_g_X6_23 hC hw dX6_kindGoal_17 ?_
      refine lv_iload_n hx hb dX6_kindGoal_20 rfl (lv_at hl 2 rfl) ?_
      refine lv_iload_n hx hb dX6_kindGoal_21 rfl (lv_at hl 3 rfl) ?_
      obtain ⟨r7, hc, h⟩ := bd1_o h
      refine go_i (run_VN (As := [.int a1, .int a2]) (rest := [.int a0, .int (1 : Int32), .ref (q 4)]) hC hw (c_X0_cellOf l D q k N σ4 a1 a2 r7 hc) kw_62 kw_12 kw_13 kw_1 kw_11 hd_X0_cellOf ⟨rfl, rfl⟩ ⟨Nat.le_of_ble_eq_true rfl, Nat.le_of_ble_eq_true rfl⟩ 1 rfl rfl rfl hl.1 rfl (Nat.le_of_ble_eq_true rfl) dX6_kindGoal_22 ⟨Nat.zero_le _, Nat.zero_le _⟩) hw (fun H locs hw => ?_)
      obtain ⟨r8, σ9, hc, h⟩ := bd_o h
      refine go_i (run_VN (As := [.int (1 : Int32), .int a0, .int r7]) (rest := []) hC hw (c_X2_add l D q k N σ4 (1 : Int32) a0 r7 r8 σ9 hc) kw_63 kw_66 kw_67 kw_64 kw_65 hd_X2_add ⟨rfl, rfl⟩ ⟨Nat.le_of_ble_eq_true rfl, Nat.le_of_ble_eq_true rfl⟩ 4 rfl rfl rfl hl.1 rfl (Nat.le_of_ble_eq_true rfl) dX6_kindGoal_25 ⟨Nat.zero_le _, Nat.zero_le _⟩) hw (fun H locs hw => ?_)
      cases h
    · cases h
      exact go_x (runx_S (As := [.int a0]) (rest := []) hC hw hz (x_X6_needKind l hst D q k sa N σ1 a0 _ _ hc) kw_26 kw_28 kw_6 kw_27 hd_X6_needKind ⟨rfl, rfl⟩ ⟨Nat.le_of_ble_eq_true rfl, Nat.le_of_ble_eq_true rfl⟩ rfl hl.1 rfl (Nat.le_of_ble_eq_true rfl) dX6_kindGoal_7 ⟨Nat.le_of_ble_eq_true rfl, Nat.le_of_ble_eq_true rfl⟩) hw (fun H locs q9 ce hw h1 h2 h3 => out_x hC ht hw h1 h2 h3)
  · cases h
    exact go_x (runx_V (As := [.int a1, .int a2]) (rest := []) hC hw hz (x_X6_needCell l hst D q k sa N σ a1 a2 _ _ hc) kw_5 kw_8 kw_9 kw_6 kw_7 hd_X6_needCell ⟨rfl, rfl⟩ ⟨Nat.le_of_ble_eq_true rfl, Nat.le_of_ble_eq_true rfl⟩ 0 rfl rfl rfl hl.1 rfl (Nat.le_of_ble_eq_true rfl) dX6_kindGoal_3 ⟨Nat.le_of_ble_eq_true rfl, Nat.le_of_ble_eq_true rfl⟩) hw (fun H locs q9 ce hw h1 h2 h3 => out_x hC ht hw h1 h2 h3)
/-! SlideBoards.noGoals()I -/
abbrev rm_X6_noGoals : Room := { frames := 1, cells := 0, slots := 0, locals := 21 }
def f_X6_noGoals (N : Nat) (σ : St) : Option (Int32 × St) :=
  bd (f_X2_removeAll N σ) (fun r1 σ2 => some (r1, σ2))
set_option maxRecDepth 100000 in
set_option maxHeartbeats 4000000 in
theorem c_X6_noGoals (l : Launch) (D : va_G) (q : Nat → Nat) (k : cK) (N : Nat) (σ : St) (r : Int32) (σ' : St) (h : f_X6_noGoals N σ = some (r, σ')) :
    Met l yX6_noGoals [.code yX6_noGoals cX6_noGoals 1 (some .int)] rm_X6_noGoals (PC D (CW q k σ) k [.ref (q 0)]) (QR D (CW q k σ) (CW q k σ') (some (.int r))) 0 0 (AQ (CW q k σ)) := by
  refine met_of (by decide) (Nat.le_of_ble_eq_true rfl) ?_
  intro p e s m below meth c hC hw ls hl
  have hC : Cx p s m meth c cX6_noGoals RX6 1 (some .int) := hC
  have hl : lv_has ls 1 [(0, .ref (q 0))] := hl
  have hx := hC.1
  have hb := hC.2.1
  unfold f_X6_noGoals at h
  refine lv_aload_n hx hb dX6_noGoals_0 rfl (lv_at hl 0 rfl) ?_
  refine C_g_X6_30 hC hw dX6_noGoals_1 ?_
  obtain ⟨r1, σ2, hc, h⟩ := bd_o h
  refine go_i (run_VN (As := []) (rest := []) hC hw (c_X2_removeAll l D q k N σ r1 σ2 hc) kw_68 kw_70 kw_71 kw_64 kw_69 hd_X2_removeAll ⟨rfl, rfl⟩ ⟨Nat.le_of_ble_eq_true rfl, Nat.le_of_ble_eq_true rfl⟩ 4 rfl rfl rfl hl.1 rfl (Nat.le_of_ble_eq_true rfl) dX6_noGoals_4 ⟨Nat.zero_le _, Nat.zero_le _⟩) hw (fun H locs hw => ?_)
  cases h
  exact ret_i hC hw dX6_noGoals_7
/-! SlideBoards.open()I -/
abbrev rm_X6_open : Room := { frames := 3, cells := 0, slots := 0, locals := 69 }
def f_X6_open (N : Nat) (σ : St) : Option (Int32 × St) :=
  bd (f_X1_presentOpenGoal N σ) (fun r1 σ2 => some (r1, σ2))
set_option maxRecDepth 100000 in
set_option maxHeartbeats 4000000 in
theorem c_X6_open (l : Launch) (D : va_G) (q : Nat → Nat) (k : cK) (N : Nat) (σ : St) (r : Int32) (σ' : St) (h : f_X6_open N σ = some (r, σ')) :
    Met l yX6_open [.code yX6_open cX6_open 1 (some .int)] rm_X6_open (PC D (CW q k σ) k [.ref (q 0)]) (QR D (CW q k σ) (CW q k σ') (some (.int r))) 0 0 (AQ (CW q k σ)) := by
  refine met_of (by decide) (Nat.le_of_ble_eq_true rfl) ?_
  intro p e s m below meth c hC hw ls hl
  have hC : Cx p s m meth c cX6_open RX6 1 (some .int) := hC
  have hl : lv_has ls 1 [(0, .ref (q 0))] := hl
  have hx := hC.1
  have hb := hC.2.1
  unfold f_X6_open at h
  refine lv_aload_n hx hb dX6_open_0 rfl (lv_at hl 0 rfl) ?_
  refine C_g_X6_39 hC hw dX6_open_1 ?_
  obtain ⟨r1, σ2, hc, h⟩ := bd_o h
  refine go_i (run_VN (As := []) (rest := []) hC hw (c_X1_presentOpenGoal l D q k N σ r1 σ2 hc) kw_80 kw_83 kw_84 kw_81 kw_82 hd_X1_presentOpenGoal ⟨rfl, rfl⟩ ⟨Nat.le_of_ble_eq_true rfl, Nat.le_of_ble_eq_true rfl⟩ 8 rfl rfl rfl hl.1 rfl (Nat.le_of_ble_eq_true rfl) dX6_open_4 ⟨Nat.zero_le _, Nat.zero_le _⟩) hw (fun H locs hw => ?_)
  cases h
  exact ret_i hC hw dX6_open_7
/-! SlideBoards.search(II)I -/
abbrev rm_X6_search : Room := { frames := 6, cells := 0, slots := 0, locals := 151 }
def f_X6_search (N : Nat) (σ : St) (a0 : Int32) (a1 : Int32) : Option (Int32 × St) :=
  if a0 < 0 then (some ((-3 : Int32), σ)) else (if (1 : Int32) < a0 then (some ((-3 : Int32), σ)) else (if a1 < (1 : Int32) then (some ((-3 : Int32), σ)) else (if a1 ≤ (10000 : Int32) then (bd (f_X1_explore N σ a0 a1 (1 : Int32)) (fun r1 σ2 => if r1 = 0 then (bd1 (f_X3_keep N σ2 (1 : Int32)) (fun σ4 => if r1 = 0 then (some (σ4.1 13, σ4)) else (some (r1, σ4)))) else (bd1 (f_X3_keep N σ2 (0 : Int32)) (fun σ3 => if r1 = 0 then (some (σ3.1 13, σ3)) else (some (r1, σ3)))))) else (some ((-3 : Int32), σ)))))
set_option maxRecDepth 100000 in
set_option maxHeartbeats 4000000 in
theorem c_X6_search (l : Launch) (D : va_G) (q : Nat → Nat) (k : cK) (N : Nat) (σ : St) (a0 : Int32) (a1 : Int32) (r : Int32) (σ' : St) (h : f_X6_search N σ a0 a1 = some (r, σ')) :
    Met l yX6_search [.code yX6_search cX6_search 4 (some .int)] rm_X6_search (PC D (CW q k σ) k [.ref (q 0), .int a0, .int a1]) (QR D (CW q k σ) (CW q k σ') (some (.int r))) 0 0 (AQ (CW q k σ)) := by
  refine met_of (by decide) (Nat.le_of_ble_eq_true rfl) ?_
  intro p e s m below meth c hC hw ls hl
  have hC : Cx p s m meth c cX6_search RX6 4 (some .int) := hC
  have hl : lv_has ls 4 [(0, .ref (q 0)), (1, .int a0), (2, .int a1)] := hl
  have hx := hC.1
  have hb := hC.2.1
  unfold f_X6_search at h
  refine lv_iload_n hx hb dX6_search_0 rfl (lv_at hl 1 rfl) ?_
  refine lv_if_lt (tgt := 21) hx hb dX6_search_1 (by decide) (fun c => ?_) (fun c => ?_)
  · have h := if_t h c
    refine lv_bipush (v := -3) hx hb dX6_search_21 (by decide) ?_
    cases h
    exact ret_i hC hw dX6_search_23
  · have h := if_f h c
    refine lv_iload_n hx hb dX6_search_4 rfl (lv_at hl 1 rfl) ?_
    refine lv_iconst (v := 1) hx hb dX6_search_5 (by decide) ?_
    refine lv_icmp_gt (tgt := 21) hx hb dX6_search_6 (by decide) (fun c => ?_) (fun c => ?_)
    · have h := if_t h c
      refine lv_bipush (v := -3) hx hb dX6_search_21 (by decide) ?_
      cases h
      exact ret_i hC hw dX6_search_23
    · have h := if_f h c
      refine lv_iload_n hx hb dX6_search_9 rfl (lv_at hl 2 rfl) ?_
      refine lv_iconst (v := 1) hx hb dX6_search_10 (by decide) ?_
      refine lv_icmp_lt (tgt := 21) hx hb dX6_search_11 (by decide) (fun c => ?_) (fun c => ?_)
      · have h := if_t h c
        refine lv_bipush (v := -3) hx hb dX6_search_21 (by decide) ?_
        cases h
        exact ret_i hC hw dX6_search_23
      · have h := if_f h c
        refine lv_iload_n hx hb dX6_search_14 rfl (lv_at hl 2 rfl) ?_
        refine lv_sipush (v := 10000) hx hb dX6_search_15 (by decide) ?_
        refine lv_icmp_le (tgt := 24) hx hb dX6_search_18 (by decide) (fun c => ?_) (fun c => ?_)
        · have h := if_t h c
          refine lv_aload_n hx hb dX6_search_24 rfl (lv_at hl 0 rfl) ?_
          refine C_g_X6_39 hC hw dX6_search_25 ?_
          refine lv_iload_n hx hb dX6_search_28 rfl (lv_at hl 1 rfl) ?_
          refine lv_iload_n hx hb dX6_search_29 rfl (lv_at hl 2 rfl) ?_
          refine lv_iconst (v := 1) hx hb dX6_search_30 (by decide) ?_
          obtain ⟨r1, σ2, hc, h⟩ := bd_o h
          refine go_i (run_VN (As := [.int a0, .int a1, .int (1 : Int32)]) (rest := []) hC hw (c_X1_explore l D q k N σ a0 a1 (1 : Int32) r1 σ2 hc) kw_144 kw_146 kw_147 kw_81 kw_145 hd_X1_explore ⟨rfl, rfl⟩ ⟨Nat.le_of_ble_eq_true rfl, Nat.le_of_ble_eq_true rfl⟩ 8 rfl rfl rfl hl.1 rfl (Nat.le_of_ble_eq_true rfl) dX6_search_31 ⟨Nat.zero_le _, Nat.zero_le _⟩) hw (fun H locs hw => ?_)
          refine lv_istore_n (lv' := [(3, .int r1), (0, .ref (q 0)), (1, .int a0), (2, .int a1)]) hx hb dX6_search_34 rfl hl (by decide) rfl (fun ls hl => ?_)
          refine lv_aload_n hx hb dX6_search_35 rfl (lv_at hl 1 rfl) ?_
          refine C_g_X6_46 hC hw dX6_search_36 ?_
          refine lv_aload_n hx hb dX6_search_39 rfl (lv_at hl 1 rfl) ?_
          refine C_g_X6_39 hC hw dX6_search_40 ?_
          refine C_g_X6_114 hC hw dX6_search_43 ?_
          refine lv_iload_n hx hb dX6_search_46 rfl (lv_at hl 0 rfl) ?_
          refine lv_if_ne (tgt := 54) hx hb dX6_search_47 (by decide) (fun c => ?_) (fun c => ?_)
          · have h := if_f h c
            refine lv_iconst (v := 0) hx hb dX6_search_54 (by decide) ?_
            obtain ⟨σ3, hc, h⟩ := bd1_o h
            refine go_v (run_VN (As := [.ref (q 14), .int (0 : Int32)]) (rest := []) hC hw (c_X3_keep l D q k N σ2 (0 : Int32) σ3 hc) kw_152 kw_154 kw_155 kw_149 kw_153 hd_X3_keep ⟨rfl, rfl⟩ ⟨Nat.le_of_ble_eq_true rfl, Nat.le_of_ble_eq_true rfl⟩ 21 rfl rfl rfl hl.1 rfl (Nat.le_of_ble_eq_true rfl) dX6_search_55 ⟨Nat.zero_le _, Nat.zero_le _⟩) hw (fun H locs hw => ?_)
            refine lv_iload_n hx hb dX6_search_58 rfl (lv_at hl 0 rfl) ?_
            refine lv_if_ne (tgt := 72) hx hb dX6_search_59 (by decide) (fun c => ?_) (fun c => ?_)
            · have h := if_f h c
              refine lv_iload_n hx hb dX6_search_72 rfl (lv_at hl 0 rfl) ?_
              cases h
              exact ret_i hC hw dX6_search_73
            · have h := if_t h c
              refine lv_aload_n hx hb dX6_search_62 rfl (lv_at hl 1 rfl) ?_
              refine C_g_X6_46 hC hw dX6_search_63 ?_
              refine C_g_X6_122 hC hw dX6_search_66 ?_
              refine lv_goto (tgt := 73) hx hb dX6_search_69 (by decide) ?_
              cases h
              exact ret_i hC hw dX6_search_73
          · have h := if_t h c
            refine lv_iconst (v := 1) hx hb dX6_search_50 (by decide) ?_
            refine lv_goto (tgt := 55) hx hb dX6_search_51 (by decide) ?_
            obtain ⟨σ4, hc, h⟩ := bd1_o h
            refine go_v (run_VN (As := [.ref (q 14), .int (1 : Int32)]) (rest := []) hC hw (c_X3_keep l D q k N σ2 (1 : Int32) σ4 hc) kw_152 kw_154 kw_155 kw_149 kw_153 hd_X3_keep ⟨rfl, rfl⟩ ⟨Nat.le_of_ble_eq_true rfl, Nat.le_of_ble_eq_true rfl⟩ 21 rfl rfl rfl hl.1 rfl (Nat.le_of_ble_eq_true rfl) dX6_search_55 ⟨Nat.zero_le _, Nat.zero_le _⟩) hw (fun H locs hw => ?_)
            refine lv_iload_n hx hb dX6_search_58 rfl (lv_at hl 0 rfl) ?_
            refine lv_if_ne (tgt := 72) hx hb dX6_search_59 (by decide) (fun c => ?_) (fun c => ?_)
            · have h := if_f h c
              refine lv_iload_n hx hb dX6_search_72 rfl (lv_at hl 0 rfl) ?_
              cases h
              exact ret_i hC hw dX6_search_73
            · have h := if_t h c
              refine lv_aload_n hx hb dX6_search_62 rfl (lv_at hl 1 rfl) ?_
              refine C_g_X6_46 hC hw dX6_search_63 ?_
              refine C_g_X6_122 hC hw dX6_search_66 ?_
              refine lv_goto (tgt := 73) hx hb dX6_search_69 (by decide) ?_
              cases h
              exact ret_i hC hw dX6_search_73
        · have h := if_f h c
          refine lv_bipush (v := -3) hx hb dX6_search_21 (by decide) ?_
          cases h
          exact ret_i hC hw dX6_search_23
/-! SlideBoards.step(I)I -/
abbrev rm_X6_step : Room := { frames := 0, cells := 0, slots := 0, locals := 0 }
def f_X6_step (N : Nat) (σ : St) (a0 : Int32) : Option Int32 :=
  if a0 < 0 then (some (-1 : Int32)) else (if (σ.1 13) ≤ a0 then (some (-1 : Int32)) else (gd (okx a0 10000) (some (ra σ 14 a0))))
set_option maxRecDepth 100000 in
set_option maxHeartbeats 4000000 in
theorem c_X6_step (l : Launch) (D : va_G) (q : Nat → Nat) (k : cK) (N : Nat) (σ : St) (a0 : Int32) (r : Int32) (h : f_X6_step N σ a0 = some r) :
    Met l yX6_step [.code yX6_step cX6_step 2 (some .int)] rm_X6_step (PC D (CW q k σ) k [.ref (q 0), .int a0]) (QR D (CW q k σ) (CW q k σ) (some (.int r))) 0 0 (AQ (CW q k σ)) := by
  refine met_of (by decide) (Nat.le_of_ble_eq_true rfl) ?_
  intro p e s m below meth c hC hw ls hl
  have hC : Cx p s m meth c cX6_step RX6 2 (some .int) := hC
  have hl : lv_has ls 2 [(0, .ref (q 0)), (1, .int a0)] := hl
  have hx := hC.1
  have hb := hC.2.1
  unfold f_X6_step at h
  refine lv_iload_n hx hb dX6_step_0 rfl (lv_at hl 1 rfl) ?_
  refine lv_if_lt (tgt := 27) hx hb dX6_step_1 (by decide) (fun c => ?_) (fun c => ?_)
  · have h := if_t h c
    refine lv_iconst (v := -1) hx hb dX6_step_27 (by decide) ?_
    cases h
    exact ret_i hC hw dX6_step_28
  · have h := if_f h c
    refine lv_iload_n hx hb dX6_step_4 rfl (lv_at hl 1 rfl) ?_
    refine lv_aload_n hx hb dX6_step_5 rfl (lv_at hl 0 rfl) ?_
    refine C_g_X6_46 hC hw dX6_step_6 ?_
    refine C_g_X6_122 hC hw dX6_step_9 ?_
    refine lv_icmp_ge (tgt := 27) hx hb dX6_step_12 (by decide) (fun c => ?_) (fun c => ?_)
    · have h := if_t h c
      refine lv_iconst (v := -1) hx hb dX6_step_27 (by decide) ?_
      cases h
      exact ret_i hC hw dX6_step_28
    · have h := if_f h c
      refine lv_aload_n hx hb dX6_step_15 rfl (lv_at hl 0 rfl) ?_
      refine C_g_X6_46 hC hw dX6_step_16 ?_
      refine C_g_X6_126 hC hw dX6_step_19 ?_
      refine lv_iload_n hx hb dX6_step_22 rfl (lv_at hl 1 rfl) ?_
      obtain ⟨hin, h⟩ := gd_o h
      refine C_ld22 hC hw hin dX6_step_23 ?_
      refine lv_goto (tgt := 28) hx hb dX6_step_24 (by decide) ?_
      cases h
      exact ret_i hC hw dX6_step_28
/-! SlideBoards.states()I -/
abbrev rm_X6_states : Room := { frames := 0, cells := 0, slots := 0, locals := 0 }
def f_X6_states (N : Nat) (σ : St) : Option Int32 :=
  some (σ.1 14)
set_option maxRecDepth 100000 in
set_option maxHeartbeats 4000000 in
theorem c_X6_states (l : Launch) (D : va_G) (q : Nat → Nat) (k : cK) (N : Nat) (σ : St) (r : Int32) (h : f_X6_states N σ = some r) :
    Met l yX6_states [.code yX6_states cX6_states 1 (some .int)] rm_X6_states (PC D (CW q k σ) k [.ref (q 0)]) (QR D (CW q k σ) (CW q k σ) (some (.int r))) 0 0 (AQ (CW q k σ)) := by
  refine met_of (by decide) (Nat.le_of_ble_eq_true rfl) ?_
  intro p e s m below meth c hC hw ls hl
  have hC : Cx p s m meth c cX6_states RX6 1 (some .int) := hC
  have hl : lv_has ls 1 [(0, .ref (q 0))] := hl
  have hx := hC.1
  have hb := hC.2.1
  unfold f_X6_states at h
  refine lv_aload_n hx hb dX6_states_0 rfl (lv_at hl 0 rfl) ?_
  refine C_g_X6_46 hC hw dX6_states_1 ?_
  refine C_g_X6_129 hC hw dX6_states_4 ?_
  cases h
  exact ret_i hC hw dX6_states_7
/-! SlideBoards.reach()I -/
abbrev rm_X6_reach : Room := { frames := 6, cells := 0, slots := 0, locals := 151 }
def f_X6_reach (N : Nat) (σ : St) : Option (Int32 × St) :=
  bd (f_X1_explore N σ (0 : Int32) (10000 : Int32) (0 : Int32)) (fun r1 σ2 => if r1 = (-2 : Int32) then (some (r1, σ2)) else (some (σ2.1 12, σ2)))
set_option maxRecDepth 100000 in
set_option maxHeartbeats 4000000 in
theorem c_X6_reach (l : Launch) (D : va_G) (q : Nat → Nat) (k : cK) (N : Nat) (σ : St) (r : Int32) (σ' : St) (h : f_X6_reach N σ = some (r, σ')) :
    Met l yX6_reach [.code yX6_reach cX6_reach 2 (some .int)] rm_X6_reach (PC D (CW q k σ) k [.ref (q 0)]) (QR D (CW q k σ) (CW q k σ') (some (.int r))) 0 0 (AQ (CW q k σ)) := by
  refine met_of (by decide) (Nat.le_of_ble_eq_true rfl) ?_
  intro p e s m below meth c hC hw ls hl
  have hC : Cx p s m meth c cX6_reach RX6 2 (some .int) := hC
  have hl : lv_has ls 2 [(0, .ref (q 0))] := hl
  have hx := hC.1
  have hb := hC.2.1
  unfold f_X6_reach at h
  refine lv_aload_n hx hb dX6_reach_0 rfl (lv_at hl 0 rfl) ?_
  refine C_g_X6_39 hC hw dX6_reach_1 ?_
  refine lv_iconst (v := 0) hx hb dX6_reach_4 (by decide) ?_
  refine lv_sipush (v := 10000) hx hb dX6_reach_5 (by decide) ?_
  refine lv_iconst (v := 0) hx hb dX6_reach_8 (by decide) ?_
  obtain ⟨r1, σ2, hc, h⟩ := bd_o h
  refine go_i (run_VN (As := [.int (0 : Int32), .int (10000 : Int32), .int (0 : Int32)]) (rest := []) hC hw (c_X1_explore l D q k N σ (0 : Int32) (10000 : Int32) (0 : Int32) r1 σ2 hc) kw_144 kw_146 kw_147 kw_81 kw_145 hd_X1_explore ⟨rfl, rfl⟩ ⟨Nat.le_of_ble_eq_true rfl, Nat.le_of_ble_eq_true rfl⟩ 8 rfl rfl rfl hl.1 rfl (Nat.le_of_ble_eq_true rfl) dX6_reach_9 ⟨Nat.zero_le _, Nat.zero_le _⟩) hw (fun H locs hw => ?_)
  refine lv_istore_n (lv' := [(1, .int r1), (0, .ref (q 0))]) hx hb dX6_reach_12 rfl hl (by decide) rfl (fun ls hl => ?_)
  refine lv_iload_n hx hb dX6_reach_13 rfl (lv_at hl 0 rfl) ?_
  refine lv_bipush (v := -2) hx hb dX6_reach_14 (by decide) ?_
  refine lv_icmp_ne (tgt := 23) hx hb dX6_reach_16 (by decide) (fun c => ?_) (fun c => ?_)
  · have h := if_f h c
    refine lv_aload_n hx hb dX6_reach_23 rfl (lv_at hl 1 rfl) ?_
    refine C_g_X6_39 hC hw dX6_reach_24 ?_
    refine C_g_X6_114 hC hw dX6_reach_27 ?_
    refine C_g_X6_132 hC hw dX6_reach_30 ?_
    cases h
    exact ret_i hC hw dX6_reach_33
  · have h := if_t h c
    refine lv_iload_n hx hb dX6_reach_19 rfl (lv_at hl 0 rfl) ?_
    refine lv_goto (tgt := 33) hx hb dX6_reach_20 (by decide) ?_
    cases h
    exact ret_i hC hw dX6_reach_33
/-! SlideBoards.picture(I)I -/
abbrev rm_X6_picture : Room := { frames := 3, cells := 0, slots := 0, locals := 67 }
def f_X6_picture (N : Nat) (σ : St) (a0 : Int32) : Option Int32 :=
  if 0 ≤ a0 then (bd1 (f_X0_pictureByte N σ a0) (fun r1 => some r1)) else (some (-1 : Int32))
set_option maxRecDepth 100000 in
set_option maxHeartbeats 4000000 in
theorem c_X6_picture (l : Launch) (D : va_G) (q : Nat → Nat) (k : cK) (N : Nat) (σ : St) (a0 : Int32) (r : Int32) (h : f_X6_picture N σ a0 = some r) :
    Met l yX6_picture [.code yX6_picture cX6_picture 2 (some .int)] rm_X6_picture (PC D (CW q k σ) k [.ref (q 0), .int a0]) (QR D (CW q k σ) (CW q k σ) (some (.int r))) 0 0 (AQ (CW q k σ)) := by
  refine met_of (by decide) (Nat.le_of_ble_eq_true rfl) ?_
  intro p e s m below meth c hC hw ls hl
  have hC : Cx p s m meth c cX6_picture RX6 2 (some .int) := hC
  have hl : lv_has ls 2 [(0, .ref (q 0)), (1, .int a0)] := hl
  have hx := hC.1
  have hb := hC.2.1
  unfold f_X6_picture at h
  refine lv_iload_n hx hb dX6_picture_0 rfl (lv_at hl 1 rfl) ?_
  refine lv_if_ge (tgt := 8) hx hb dX6_picture_1 (by decide) (fun c => ?_) (fun c => ?_)
  · have h := if_t h c
    refine lv_aload_n hx hb dX6_picture_8 rfl (lv_at hl 0 rfl) ?_
    refine C_g_X6_23 hC hw dX6_picture_9 ?_
    refine lv_iload_n hx hb dX6_picture_12 rfl (lv_at hl 1 rfl) ?_
    obtain ⟨r1, hc, h⟩ := bd1_o h
    refine go_i (run_VN (As := [.int a0]) (rest := []) hC hw (c_X0_pictureByte l D q k N σ a0 r1 hc) kw_161 kw_163 kw_164 kw_1 kw_162 hd_X0_pictureByte ⟨rfl, rfl⟩ ⟨Nat.le_of_ble_eq_true rfl, Nat.le_of_ble_eq_true rfl⟩ 1 rfl rfl rfl hl.1 rfl (Nat.le_of_ble_eq_true rfl) dX6_picture_13 ⟨Nat.zero_le _, Nat.zero_le _⟩) hw (fun H locs hw => ?_)
    cases h
    exact ret_i hC hw dX6_picture_16
  · have h := if_f h c
    refine lv_iconst (v := -1) hx hb dX6_picture_4 (by decide) ?_
    refine lv_goto (tgt := 16) hx hb dX6_picture_5 (by decide) ?_
    cases h
    exact ret_i hC hw dX6_picture_16
/-! SlideBoards.node()I -/
abbrev rm_X6_node : Room := { frames := 1, cells := 0, slots := 0, locals := 21 }
def f_X6_node (N : Nat) (σ : St) : Option (Int32 × St) :=
  bd (f_X5_addNode N σ) (fun r1 σ2 => some (r1, σ2))
set_option maxRecDepth 100000 in
set_option maxHeartbeats 4000000 in
theorem c_X6_node (l : Launch) (D : va_G) (q : Nat → Nat) (k : cK) (N : Nat) (σ : St) (r : Int32) (σ' : St) (h : f_X6_node N σ = some (r, σ')) :
    Met l yX6_node [.code yX6_node cX6_node 1 (some .int)] rm_X6_node (PC D (CW q k σ) k [.ref (q 0)]) (QR D (CW q k σ) (CW q k σ') (some (.int r))) 0 0 (AQ (CW q k σ)) := by
  refine met_of (by decide) (Nat.le_of_ble_eq_true rfl) ?_
  intro p e s m below meth c hC hw ls hl
  have hC : Cx p s m meth c cX6_node RX6 1 (some .int) := hC
  have hl : lv_has ls 1 [(0, .ref (q 0))] := hl
  have hx := hC.1
  have hb := hC.2.1
  unfold f_X6_node at h
  refine lv_aload_n hx hb dX6_node_0 rfl (lv_at hl 0 rfl) ?_
  refine C_g_X6_53 hC hw dX6_node_1 ?_
  obtain ⟨r1, σ2, hc, h⟩ := bd_o h
  refine go_i (run_VN (As := []) (rest := []) hC hw (c_X5_addNode l D q k N σ r1 σ2 hc) kw_165 kw_168 kw_169 kw_166 kw_167 hd_X5_addNode ⟨rfl, rfl⟩ ⟨Nat.le_of_ble_eq_true rfl, Nat.le_of_ble_eq_true rfl⟩ 23 rfl rfl rfl hl.1 rfl (Nat.le_of_ble_eq_true rfl) dX6_node_4 ⟨Nat.zero_le _, Nat.zero_le _⟩) hw (fun H locs hw => ?_)
  cases h
  exact ret_i hC hw dX6_node_7
/-! SlideBoards.needNode(I)V -/
abbrev rm_X6_needNode : Room := { frames := 0, cells := 0, slots := 0, locals := 0 }
def f_X6_needNode (N : Nat) (σ : St) (a0 : Int32) : Option XR :=
  if a0 < 0 then (some (.inr 0, σ)) else (if a0 < (σ.1 15) then (some (.inl (0 : Int32), σ)) else (some (.inr 0, σ)))
set_option maxRecDepth 100000 in
set_option maxHeartbeats 4000000 in
theorem c_X6_needNode (l : Launch) (D : va_G) (q : Nat → Nat) (k : cK) (N : Nat) (σ : St) (a0 : Int32) (r : Int32) (σ' : St) (h : f_X6_needNode N σ a0 = some (.inl r, σ')) :
    Met l yX6_needNode [.code yX6_needNode cX6_needNode 2 none] rm_X6_needNode (PC D (CW q k σ) k [.ref (q 0), .int a0]) (QR D (CW q k σ) (CW q k σ') none) 0 0 (AQ (CW q k σ)) := by
  refine met_of (by decide) (Nat.le_of_ble_eq_true rfl) ?_
  intro p e s m below meth c hC hw ls hl
  have hC : Cx p s m meth c cX6_needNode RX6 2 none := hC
  have hl : lv_has ls 2 [(0, .ref (q 0)), (1, .int a0)] := hl
  have hx := hC.1
  have hb := hC.2.1
  unfold f_X6_needNode at h
  refine lv_iload_n hx hb dX6_needNode_0 rfl (lv_at hl 1 rfl) ?_
  refine lv_if_lt (tgt := 15) hx hb dX6_needNode_1 (by decide) (fun c => ?_) (fun c => ?_)
  · have h := if_t h c
    cases h
  · have h := if_f h c
    refine lv_iload_n hx hb dX6_needNode_4 rfl (lv_at hl 1 rfl) ?_
    refine lv_aload_n hx hb dX6_needNode_5 rfl (lv_at hl 0 rfl) ?_
    refine C_g_X6_53 hC hw dX6_needNode_6 ?_
    refine C_g_X6_194 hC hw dX6_needNode_9 ?_
    refine lv_icmp_lt (tgt := 25) hx hb dX6_needNode_12 (by decide) (fun c => ?_) (fun c => ?_)
    · have h := if_t h c
      cases h
      exact ret_v hC hw dX6_needNode_25
    · have h := if_f h c
      cases h
abbrev rmx_X6_needNode : Room := { frames := 7, cells := 1, slots := 6, locals := 95 }
set_option maxRecDepth 100000 in
set_option maxHeartbeats 4000000 in
theorem x_X6_needNode (l : Launch) (hst : l.stackTraces = false) (D : va_G) (q : Nat → Nat) (k : cK) (sa : Nat → Nat) (N : Nat) (σ : St) (a0 : Int32) (ee : Nat) (σ' : St) (h : f_X6_needNode N σ a0 = some (.inr ee, σ')) :
    vx_Met l yX6_needNode [.code yX6_needNode cX6_needNode 2 none] rmx_X6_needNode (PX D (CW q k σ) k sa [.ref (q 0), .int a0]) QN (XX D (CW q k σ) (CW q k σ') ee) 1 6 (AQ (CW q k σ)) := by
  refine metx_of (by decide) (Nat.le_of_ble_eq_true rfl) ?_
  intro p e s m below meth c hC ht hw hz ls hl
  have hC : Cx p s m meth c cX6_needNode RX6 2 none := hC
  have hl : lv_has ls 2 [(0, .ref (q 0)), (1, .int a0)] := hl
  have hx := hC.1
  have hb := hC.2.1
  unfold f_X6_needNode at h
  refine lv_iload_n hx hb dX6_needNode_0 rfl (lv_at hl 1 rfl) ?_
  refine lv_if_lt (tgt := 15) hx hb dX6_needNode_1 (by decide) (fun c => ?_) (fun c => ?_)
  · have h := if_t h c
    cases h
    exact throw_x hC hst hw hz hz.2.2.2.2.2.2.1 (by decide) (by decide) aw_0 rfl hl.1 ht dX6_needNode_15 dX6_needNode_18 dX6_needNode_19 dX6_needNode_21 dX6_needNode_24 (Nat.le_of_ble_eq_true rfl) (Nat.le_of_ble_eq_true rfl) ⟨Nat.le_of_ble_eq_true rfl, Nat.le_of_ble_eq_true rfl⟩
  · have h := if_f h c
    refine lv_iload_n hx hb dX6_needNode_4 rfl (lv_at hl 1 rfl) ?_
    refine lv_aload_n hx hb dX6_needNode_5 rfl (lv_at hl 0 rfl) ?_
    refine C_g_X6_53 hC hw dX6_needNode_6 ?_
    refine C_g_X6_194 hC hw dX6_needNode_9 ?_
    refine lv_icmp_lt (tgt := 25) hx hb dX6_needNode_12 (by decide) (fun c => ?_) (fun c => ?_)
    · have h := if_t h c
      cases h
    · have h := if_f h c
      cases h
      exact throw_x hC hst hw hz hz.2.2.2.2.2.2.1 (by decide) (by decide) aw_0 rfl hl.1 ht dX6_needNode_15 dX6_needNode_18 dX6_needNode_19 dX6_needNode_21 dX6_needNode_24 (Nat.le_of_ble_eq_true rfl) (Nat.le_of_ble_eq_true rfl) ⟨Nat.le_of_ble_eq_true rfl, Nat.le_of_ble_eq_true rfl⟩
/-! SlideBoards.join(II)Z -/
abbrev rm_X6_join : Room := { frames := 2, cells := 0, slots := 0, locals := 44 }
def f_X6_join (N : Nat) (σ : St) (a0 : Int32) (a1 : Int32) : Option XR :=
  bx (f_X6_needNode N σ a0) (fun r2 σ1 => bx (f_X6_needNode N σ1 a1) (fun r5 σ4 => bd (f_X5_addLine N σ4 a0 a1) (fun r7 σ8 => gd (decide (r7 = 0 ∨ r7 = 1)) (some (.inl r7, σ8)))))
set_option maxRecDepth 100000 in
set_option maxHeartbeats 4000000 in
theorem c_X6_join (l : Launch) (D : va_G) (q : Nat → Nat) (k : cK) (N : Nat) (σ : St) (a0 : Int32) (a1 : Int32) (r : Int32) (σ' : St) (h : f_X6_join N σ a0 a1 = some (.inl r, σ')) :
    Met l yX6_join [.code yX6_join cX6_join 3 (some .boolean)] rm_X6_join (PC D (CW q k σ) k [.ref (q 0), .int a0, .int a1]) (QR D (CW q k σ) (CW q k σ') (some (.int r))) 0 0 (AQ (CW q k σ)) := by
  refine met_of (by decide) (Nat.le_of_ble_eq_true rfl) ?_
  intro p e s m below meth c hC hw ls hl
  have hC : Cx p s m meth c cX6_join RX6 3 (some .boolean) := hC
  have hl : lv_has ls 3 [(0, .ref (q 0)), (1, .int a0), (2, .int a1)] := hl
  have hx := hC.1
  have hb := hC.2.1
  unfold f_X6_join at h
  refine lv_aload_n hx hb dX6_join_0 rfl (lv_at hl 0 rfl) ?_
  refine lv_iload_n hx hb dX6_join_1 rfl (lv_at hl 1 rfl) ?_
  rcases bx_o h with ⟨r2, σ1, hc, h⟩ | ⟨e3, σ1, hc, h⟩
  · refine go_v (run_V (As := [.int a0]) (rest := []) hC hw (c_X6_needNode l D q k N σ a0 r2 σ1 hc) kw_170 kw_172 kw_173 kw_6 kw_171 hd_X6_needNode ⟨rfl, rfl⟩ ⟨Nat.le_of_ble_eq_true rfl, Nat.le_of_ble_eq_true rfl⟩ 0 rfl rfl rfl hl.1 rfl (Nat.le_of_ble_eq_true rfl) dX6_join_2 ⟨Nat.zero_le _, Nat.zero_le _⟩) hw (fun H locs hw => ?_)
    refine lv_aload_n hx hb dX6_join_5 rfl (lv_at hl 0 rfl) ?_
    refine lv_iload_n hx hb dX6_join_6 rfl (lv_at hl 2 rfl) ?_
    rcases bx_o h with ⟨r5, σ4, hc, h⟩ | ⟨e6, σ4, hc, h⟩
    · refine go_v (run_V (As := [.int a1]) (rest := []) hC hw (c_X6_needNode l D q k N σ1 a1 r5 σ4 hc) kw_170 kw_172 kw_173 kw_6 kw_171 hd_X6_needNode ⟨rfl, rfl⟩ ⟨Nat.le_of_ble_eq_true rfl, Nat.le_of_ble_eq_true rfl⟩ 0 rfl rfl rfl hl.1 rfl (Nat.le_of_ble_eq_true rfl) dX6_join_7 ⟨Nat.zero_le _, Nat.zero_le _⟩) hw (fun H locs hw => ?_)
      refine lv_aload_n hx hb dX6_join_10 rfl (lv_at hl 0 rfl) ?_
      refine C_g_X6_53 hC hw dX6_join_11 ?_
      refine lv_iload_n hx hb dX6_join_14 rfl (lv_at hl 1 rfl) ?_
      refine lv_iload_n hx hb dX6_join_15 rfl (lv_at hl 2 rfl) ?_
      obtain ⟨r7, σ8, hc, h⟩ := bd_o h
      refine go_i (run_VN (As := [.int a0, .int a1]) (rest := []) hC hw (c_X5_addLine l D q k N σ4 a0 a1 r7 σ8 hc) kw_178 kw_180 kw_181 kw_166 kw_179 hd_X5_addLine ⟨rfl, rfl⟩ ⟨Nat.le_of_ble_eq_true rfl, Nat.le_of_ble_eq_true rfl⟩ 23 rfl rfl rfl hl.1 rfl (Nat.le_of_ble_eq_true rfl) dX6_join_16 ⟨Nat.zero_le _, Nat.zero_le _⟩) hw (fun H locs hw => ?_)
      obtain ⟨hz9, h⟩ := gp_o h
      cases h
      exact ret_z hC hz9 hw dX6_join_19
    · cases h
  · cases h
abbrev rmx_X6_join : Room := { frames := 8, cells := 1, slots := 6, locals := 116 }
set_option maxRecDepth 100000 in
set_option maxHeartbeats 4000000 in
theorem x_X6_join (l : Launch) (hst : l.stackTraces = false) (D : va_G) (q : Nat → Nat) (k : cK) (sa : Nat → Nat) (N : Nat) (σ : St) (a0 : Int32) (a1 : Int32) (ee : Nat) (σ' : St) (h : f_X6_join N σ a0 a1 = some (.inr ee, σ')) :
    vx_Met l yX6_join [.code yX6_join cX6_join 3 (some .boolean)] rmx_X6_join (PX D (CW q k σ) k sa [.ref (q 0), .int a0, .int a1]) QN (XX D (CW q k σ) (CW q k σ') ee) 1 6 (AQ (CW q k σ)) := by
  refine metx_of (by decide) (Nat.le_of_ble_eq_true rfl) ?_
  intro p e s m below meth c hC ht hw hz ls hl
  have hC : Cx p s m meth c cX6_join RX6 3 (some .boolean) := hC
  have hl : lv_has ls 3 [(0, .ref (q 0)), (1, .int a0), (2, .int a1)] := hl
  have hx := hC.1
  have hb := hC.2.1
  unfold f_X6_join at h
  refine lv_aload_n hx hb dX6_join_0 rfl (lv_at hl 0 rfl) ?_
  refine lv_iload_n hx hb dX6_join_1 rfl (lv_at hl 1 rfl) ?_
  rcases bx_o h with ⟨r2, σ1, hc, h⟩ | ⟨e3, σ1, hc, h⟩
  · refine go_v (run_V (As := [.int a0]) (rest := []) hC hw (c_X6_needNode l D q k N σ a0 r2 σ1 hc) kw_170 kw_172 kw_173 kw_6 kw_171 hd_X6_needNode ⟨rfl, rfl⟩ ⟨Nat.le_of_ble_eq_true rfl, Nat.le_of_ble_eq_true rfl⟩ 0 rfl rfl rfl hl.1 rfl (Nat.le_of_ble_eq_true rfl) dX6_join_2 ⟨Nat.zero_le _, Nat.zero_le _⟩) hw (fun H locs hw => ?_)
    refine lv_aload_n hx hb dX6_join_5 rfl (lv_at hl 0 rfl) ?_
    refine lv_iload_n hx hb dX6_join_6 rfl (lv_at hl 2 rfl) ?_
    rcases bx_o h with ⟨r5, σ4, hc, h⟩ | ⟨e6, σ4, hc, h⟩
    · refine go_v (run_V (As := [.int a1]) (rest := []) hC hw (c_X6_needNode l D q k N σ1 a1 r5 σ4 hc) kw_170 kw_172 kw_173 kw_6 kw_171 hd_X6_needNode ⟨rfl, rfl⟩ ⟨Nat.le_of_ble_eq_true rfl, Nat.le_of_ble_eq_true rfl⟩ 0 rfl rfl rfl hl.1 rfl (Nat.le_of_ble_eq_true rfl) dX6_join_7 ⟨Nat.zero_le _, Nat.zero_le _⟩) hw (fun H locs hw => ?_)
      refine lv_aload_n hx hb dX6_join_10 rfl (lv_at hl 0 rfl) ?_
      refine C_g_X6_53 hC hw dX6_join_11 ?_
      refine lv_iload_n hx hb dX6_join_14 rfl (lv_at hl 1 rfl) ?_
      refine lv_iload_n hx hb dX6_join_15 rfl (lv_at hl 2 rfl) ?_
      obtain ⟨r7, σ8, hc, h⟩ := bd_o h
      refine go_i (run_VN (As := [.int a0, .int a1]) (rest := []) hC hw (c_X5_addLine l D q k N σ4 a0 a1 r7 σ8 hc) kw_178 kw_180 kw_181 kw_166 kw_179 hd_X5_addLine ⟨rfl, rfl⟩ ⟨Nat.le_of_ble_eq_true rfl, Nat.le_of_ble_eq_true rfl⟩ 23 rfl rfl rfl hl.1 rfl (Nat.le_of_ble_eq_true rfl) dX6_join_16 ⟨Nat.zero_le _, Nat.zero_le _⟩) hw (fun H locs hw => ?_)
      obtain ⟨hz9, h⟩ := gp_o h
      cases h
    · cases h
      exact go_x (runx_V (As := [.int a1]) (rest := []) hC hw hz (x_X6_needNode l hst D q k sa N σ1 a1 _ _ hc) kw_170 kw_172 kw_173 kw_6 kw_171 hd_X6_needNode ⟨rfl, rfl⟩ ⟨Nat.le_of_ble_eq_true rfl, Nat.le_of_ble_eq_true rfl⟩ 0 rfl rfl rfl hl.1 rfl (Nat.le_of_ble_eq_true rfl) dX6_join_7 ⟨Nat.le_of_ble_eq_true rfl, Nat.le_of_ble_eq_true rfl⟩) hw (fun H locs q9 ce hw h1 h2 h3 => out_x hC ht hw h1 h2 h3)
  · cases h
    exact go_x (runx_V (As := [.int a0]) (rest := []) hC hw hz (x_X6_needNode l hst D q k sa N σ a0 _ _ hc) kw_170 kw_172 kw_173 kw_6 kw_171 hd_X6_needNode ⟨rfl, rfl⟩ ⟨Nat.le_of_ble_eq_true rfl, Nat.le_of_ble_eq_true rfl⟩ 0 rfl rfl rfl hl.1 rfl (Nat.le_of_ble_eq_true rfl) dX6_join_2 ⟨Nat.le_of_ble_eq_true rfl, Nat.le_of_ble_eq_true rfl⟩) hw (fun H locs q9 ce hw h1 h2 h3 => out_x hC ht hw h1 h2 h3)
/-! SlideBoards.tile(I)I -/
abbrev rm_X6_tile : Room := { frames := 1, cells := 0, slots := 0, locals := 21 }
def f_X6_tile (N : Nat) (σ : St) (a0 : Int32) : Option XR :=
  bx (f_X6_needNode N σ a0) (fun r2 σ1 => gd (okx a0 8) (some (.inl (ra σ1 15 a0), σ1)))
set_option maxRecDepth 100000 in
set_option maxHeartbeats 4000000 in
theorem c_X6_tile (l : Launch) (D : va_G) (q : Nat → Nat) (k : cK) (N : Nat) (σ : St) (a0 : Int32) (r : Int32) (σ' : St) (h : f_X6_tile N σ a0 = some (.inl r, σ')) :
    Met l yX6_tile [.code yX6_tile cX6_tile 2 (some .int)] rm_X6_tile (PC D (CW q k σ) k [.ref (q 0), .int a0]) (QR D (CW q k σ) (CW q k σ') (some (.int r))) 0 0 (AQ (CW q k σ)) := by
  refine met_of (by decide) (Nat.le_of_ble_eq_true rfl) ?_
  intro p e s m below meth c hC hw ls hl
  have hC : Cx p s m meth c cX6_tile RX6 2 (some .int) := hC
  have hl : lv_has ls 2 [(0, .ref (q 0)), (1, .int a0)] := hl
  have hx := hC.1
  have hb := hC.2.1
  unfold f_X6_tile at h
  refine lv_aload_n hx hb dX6_tile_0 rfl (lv_at hl 0 rfl) ?_
  refine lv_iload_n hx hb dX6_tile_1 rfl (lv_at hl 1 rfl) ?_
  rcases bx_o h with ⟨r2, σ1, hc, h⟩ | ⟨e3, σ1, hc, h⟩
  · refine go_v (run_V (As := [.int a0]) (rest := []) hC hw (c_X6_needNode l D q k N σ a0 r2 σ1 hc) kw_170 kw_172 kw_173 kw_6 kw_171 hd_X6_needNode ⟨rfl, rfl⟩ ⟨Nat.le_of_ble_eq_true rfl, Nat.le_of_ble_eq_true rfl⟩ 0 rfl rfl rfl hl.1 rfl (Nat.le_of_ble_eq_true rfl) dX6_tile_2 ⟨Nat.zero_le _, Nat.zero_le _⟩) hw (fun H locs hw => ?_)
    refine lv_aload_n hx hb dX6_tile_5 rfl (lv_at hl 0 rfl) ?_
    refine C_g_X6_53 hC hw dX6_tile_6 ?_
    refine C_g_X6_149 hC hw dX6_tile_9 ?_
    refine lv_iload_n hx hb dX6_tile_12 rfl (lv_at hl 1 rfl) ?_
    obtain ⟨hin, h⟩ := gd_o h
    refine C_ld24 hC hw hin dX6_tile_13 ?_
    cases h
    exact ret_i hC hw dX6_tile_14
  · cases h
abbrev rmx_X6_tile : Room := { frames := 8, cells := 1, slots := 6, locals := 116 }
set_option maxRecDepth 100000 in
set_option maxHeartbeats 4000000 in
theorem x_X6_tile (l : Launch) (hst : l.stackTraces = false) (D : va_G) (q : Nat → Nat) (k : cK) (sa : Nat → Nat) (N : Nat) (σ : St) (a0 : Int32) (ee : Nat) (σ' : St) (h : f_X6_tile N σ a0 = some (.inr ee, σ')) :
    vx_Met l yX6_tile [.code yX6_tile cX6_tile 2 (some .int)] rmx_X6_tile (PX D (CW q k σ) k sa [.ref (q 0), .int a0]) QN (XX D (CW q k σ) (CW q k σ') ee) 1 6 (AQ (CW q k σ)) := by
  refine metx_of (by decide) (Nat.le_of_ble_eq_true rfl) ?_
  intro p e s m below meth c hC ht hw hz ls hl
  have hC : Cx p s m meth c cX6_tile RX6 2 (some .int) := hC
  have hl : lv_has ls 2 [(0, .ref (q 0)), (1, .int a0)] := hl
  have hx := hC.1
  have hb := hC.2.1
  unfold f_X6_tile at h
  refine lv_aload_n hx hb dX6_tile_0 rfl (lv_at hl 0 rfl) ?_
  refine lv_iload_n hx hb dX6_tile_1 rfl (lv_at hl 1 rfl) ?_
  rcases bx_o h with ⟨r2, σ1, hc, h⟩ | ⟨e3, σ1, hc, h⟩
  · refine go_v (run_V (As := [.int a0]) (rest := []) hC hw (c_X6_needNode l D q k N σ a0 r2 σ1 hc) kw_170 kw_172 kw_173 kw_6 kw_171 hd_X6_needNode ⟨rfl, rfl⟩ ⟨Nat.le_of_ble_eq_true rfl, Nat.le_of_ble_eq_true rfl⟩ 0 rfl rfl rfl hl.1 rfl (Nat.le_of_ble_eq_true rfl) dX6_tile_2 ⟨Nat.zero_le _, Nat.zero_le _⟩) hw (fun H locs hw => ?_)
    refine lv_aload_n hx hb dX6_tile_5 rfl (lv_at hl 0 rfl) ?_
    refine C_g_X6_53 hC hw dX6_tile_6 ?_
    refine C_g_X6_149 hC hw dX6_tile_9 ?_
    refine lv_iload_n hx hb dX6_tile_12 rfl (lv_at hl 1 rfl) ?_
    obtain ⟨hin, h⟩ := gd_o h
    refine C_ld24 hC hw hin dX6_tile_13 ?_
    cases h
  · cases h
    exact go_x (runx_V (As := [.int a0]) (rest := []) hC hw hz (x_X6_needNode l hst D q k sa N σ a0 _ _ hc) kw_170 kw_172 kw_173 kw_6 kw_171 hd_X6_needNode ⟨rfl, rfl⟩ ⟨Nat.le_of_ble_eq_true rfl, Nat.le_of_ble_eq_true rfl⟩ 0 rfl rfl rfl hl.1 rfl (Nat.le_of_ble_eq_true rfl) dX6_tile_2 ⟨Nat.le_of_ble_eq_true rfl, Nat.le_of_ble_eq_true rfl⟩) hw (fun H locs q9 ce hw h1 h2 h3 => out_x hC ht hw h1 h2 h3)
/-! SlideBoards.shift(I)Z -/
abbrev rm_X6_shift : Room := { frames := 2, cells := 0, slots := 0, locals := 45 }
def f_X6_shift (N : Nat) (σ : St) (a0 : Int32) : Option XR :=
  bx (f_X6_needNode N σ a0) (fun r2 σ1 => bd (f_X5_moveToGap N σ1 a0) (fun r4 σ5 => gd (decide (r4 = 0 ∨ r4 = 1)) (some (.inl r4, σ5))))
set_option maxRecDepth 100000 in
set_option maxHeartbeats 4000000 in
theorem c_X6_shift (l : Launch) (D : va_G) (q : Nat → Nat) (k : cK) (N : Nat) (σ : St) (a0 : Int32) (r : Int32) (σ' : St) (h : f_X6_shift N σ a0 = some (.inl r, σ')) :
    Met l yX6_shift [.code yX6_shift cX6_shift 2 (some .boolean)] rm_X6_shift (PC D (CW q k σ) k [.ref (q 0), .int a0]) (QR D (CW q k σ) (CW q k σ') (some (.int r))) 0 0 (AQ (CW q k σ)) := by
  refine met_of (by decide) (Nat.le_of_ble_eq_true rfl) ?_
  intro p e s m below meth c hC hw ls hl
  have hC : Cx p s m meth c cX6_shift RX6 2 (some .boolean) := hC
  have hl : lv_has ls 2 [(0, .ref (q 0)), (1, .int a0)] := hl
  have hx := hC.1
  have hb := hC.2.1
  unfold f_X6_shift at h
  refine lv_aload_n hx hb dX6_shift_0 rfl (lv_at hl 0 rfl) ?_
  refine lv_iload_n hx hb dX6_shift_1 rfl (lv_at hl 1 rfl) ?_
  rcases bx_o h with ⟨r2, σ1, hc, h⟩ | ⟨e3, σ1, hc, h⟩
  · refine go_v (run_V (As := [.int a0]) (rest := []) hC hw (c_X6_needNode l D q k N σ a0 r2 σ1 hc) kw_170 kw_172 kw_173 kw_6 kw_171 hd_X6_needNode ⟨rfl, rfl⟩ ⟨Nat.le_of_ble_eq_true rfl, Nat.le_of_ble_eq_true rfl⟩ 0 rfl rfl rfl hl.1 rfl (Nat.le_of_ble_eq_true rfl) dX6_shift_2 ⟨Nat.zero_le _, Nat.zero_le _⟩) hw (fun H locs hw => ?_)
    refine lv_aload_n hx hb dX6_shift_5 rfl (lv_at hl 0 rfl) ?_
    refine C_g_X6_53 hC hw dX6_shift_6 ?_
    refine lv_iload_n hx hb dX6_shift_9 rfl (lv_at hl 1 rfl) ?_
    obtain ⟨r4, σ5, hc, h⟩ := bd_o h
    refine go_i (run_VN (As := [.int a0]) (rest := []) hC hw (c_X5_moveToGap l D q k N σ1 a0 r4 σ5 hc) kw_190 kw_192 kw_193 kw_166 kw_191 hd_X5_moveToGap ⟨rfl, rfl⟩ ⟨Nat.le_of_ble_eq_true rfl, Nat.le_of_ble_eq_true rfl⟩ 23 rfl rfl rfl hl.1 rfl (Nat.le_of_ble_eq_true rfl) dX6_shift_10 ⟨Nat.zero_le _, Nat.zero_le _⟩) hw (fun H locs hw => ?_)
    obtain ⟨hz9, h⟩ := gp_o h
    cases h
    exact ret_z hC hz9 hw dX6_shift_13
  · cases h
abbrev rmx_X6_shift : Room := { frames := 8, cells := 1, slots := 6, locals := 116 }
set_option maxRecDepth 100000 in
set_option maxHeartbeats 4000000 in
theorem x_X6_shift (l : Launch) (hst : l.stackTraces = false) (D : va_G) (q : Nat → Nat) (k : cK) (sa : Nat → Nat) (N : Nat) (σ : St) (a0 : Int32) (ee : Nat) (σ' : St) (h : f_X6_shift N σ a0 = some (.inr ee, σ')) :
    vx_Met l yX6_shift [.code yX6_shift cX6_shift 2 (some .boolean)] rmx_X6_shift (PX D (CW q k σ) k sa [.ref (q 0), .int a0]) QN (XX D (CW q k σ) (CW q k σ') ee) 1 6 (AQ (CW q k σ)) := by
  refine metx_of (by decide) (Nat.le_of_ble_eq_true rfl) ?_
  intro p e s m below meth c hC ht hw hz ls hl
  have hC : Cx p s m meth c cX6_shift RX6 2 (some .boolean) := hC
  have hl : lv_has ls 2 [(0, .ref (q 0)), (1, .int a0)] := hl
  have hx := hC.1
  have hb := hC.2.1
  unfold f_X6_shift at h
  refine lv_aload_n hx hb dX6_shift_0 rfl (lv_at hl 0 rfl) ?_
  refine lv_iload_n hx hb dX6_shift_1 rfl (lv_at hl 1 rfl) ?_
  rcases bx_o h with ⟨r2, σ1, hc, h⟩ | ⟨e3, σ1, hc, h⟩
  · refine go_v (run_V (As := [.int a0]) (rest := []) hC hw (c_X6_needNode l D q k N σ a0 r2 σ1 hc) kw_170 kw_172 kw_173 kw_6 kw_171 hd_X6_needNode ⟨rfl, rfl⟩ ⟨Nat.le_of_ble_eq_true rfl, Nat.le_of_ble_eq_true rfl⟩ 0 rfl rfl rfl hl.1 rfl (Nat.le_of_ble_eq_true rfl) dX6_shift_2 ⟨Nat.zero_le _, Nat.zero_le _⟩) hw (fun H locs hw => ?_)
    refine lv_aload_n hx hb dX6_shift_5 rfl (lv_at hl 0 rfl) ?_
    refine C_g_X6_53 hC hw dX6_shift_6 ?_
    refine lv_iload_n hx hb dX6_shift_9 rfl (lv_at hl 1 rfl) ?_
    obtain ⟨r4, σ5, hc, h⟩ := bd_o h
    refine go_i (run_VN (As := [.int a0]) (rest := []) hC hw (c_X5_moveToGap l D q k N σ1 a0 r4 σ5 hc) kw_190 kw_192 kw_193 kw_166 kw_191 hd_X5_moveToGap ⟨rfl, rfl⟩ ⟨Nat.le_of_ble_eq_true rfl, Nat.le_of_ble_eq_true rfl⟩ 23 rfl rfl rfl hl.1 rfl (Nat.le_of_ble_eq_true rfl) dX6_shift_10 ⟨Nat.zero_le _, Nat.zero_le _⟩) hw (fun H locs hw => ?_)
    obtain ⟨hz9, h⟩ := gp_o h
    cases h
  · cases h
    exact go_x (runx_V (As := [.int a0]) (rest := []) hC hw hz (x_X6_needNode l hst D q k sa N σ a0 _ _ hc) kw_170 kw_172 kw_173 kw_6 kw_171 hd_X6_needNode ⟨rfl, rfl⟩ ⟨Nat.le_of_ble_eq_true rfl, Nat.le_of_ble_eq_true rfl⟩ 0 rfl rfl rfl hl.1 rfl (Nat.le_of_ble_eq_true rfl) dX6_shift_2 ⟨Nat.le_of_ble_eq_true rfl, Nat.le_of_ble_eq_true rfl⟩) hw (fun H locs q9 ce hw h1 h2 h3 => out_x hC ht hw h1 h2 h3)
/-! SlideBoards.swap(II)Z -/
abbrev rm_X6_swap : Room := { frames := 1, cells := 0, slots := 0, locals := 23 }
def f_X6_swap (N : Nat) (σ : St) (a0 : Int32) (a1 : Int32) : Option XR :=
  bx (f_X6_needNode N σ a0) (fun r2 σ1 => bx (f_X6_needNode N σ1 a1) (fun r5 σ4 => bd (f_X5_exchange N σ4 a0 a1) (fun r7 σ8 => gd (decide (r7 = 0 ∨ r7 = 1)) (some (.inl r7, σ8)))))
set_option maxRecDepth 100000 in
set_option maxHeartbeats 4000000 in
theorem c_X6_swap (l : Launch) (D : va_G) (q : Nat → Nat) (k : cK) (N : Nat) (σ : St) (a0 : Int32) (a1 : Int32) (r : Int32) (σ' : St) (h : f_X6_swap N σ a0 a1 = some (.inl r, σ')) :
    Met l yX6_swap [.code yX6_swap cX6_swap 3 (some .boolean)] rm_X6_swap (PC D (CW q k σ) k [.ref (q 0), .int a0, .int a1]) (QR D (CW q k σ) (CW q k σ') (some (.int r))) 0 0 (AQ (CW q k σ)) := by
  refine met_of (by decide) (Nat.le_of_ble_eq_true rfl) ?_
  intro p e s m below meth c hC hw ls hl
  have hC : Cx p s m meth c cX6_swap RX6 3 (some .boolean) := hC
  have hl : lv_has ls 3 [(0, .ref (q 0)), (1, .int a0), (2, .int a1)] := hl
  have hx := hC.1
  have hb := hC.2.1
  unfold f_X6_swap at h
  refine lv_aload_n hx hb dX6_swap_0 rfl (lv_at hl 0 rfl) ?_
  refine lv_iload_n hx hb dX6_swap_1 rfl (lv_at hl 1 rfl) ?_
  rcases bx_o h with ⟨r2, σ1, hc, h⟩ | ⟨e3, σ1, hc, h⟩
  · refine go_v (run_V (As := [.int a0]) (rest := []) hC hw (c_X6_needNode l D q k N σ a0 r2 σ1 hc) kw_170 kw_172 kw_173 kw_6 kw_171 hd_X6_needNode ⟨rfl, rfl⟩ ⟨Nat.le_of_ble_eq_true rfl, Nat.le_of_ble_eq_true rfl⟩ 0 rfl rfl rfl hl.1 rfl (Nat.le_of_ble_eq_true rfl) dX6_swap_2 ⟨Nat.zero_le _, Nat.zero_le _⟩) hw (fun H locs hw => ?_)
    refine lv_aload_n hx hb dX6_swap_5 rfl (lv_at hl 0 rfl) ?_
    refine lv_iload_n hx hb dX6_swap_6 rfl (lv_at hl 2 rfl) ?_
    rcases bx_o h with ⟨r5, σ4, hc, h⟩ | ⟨e6, σ4, hc, h⟩
    · refine go_v (run_V (As := [.int a1]) (rest := []) hC hw (c_X6_needNode l D q k N σ1 a1 r5 σ4 hc) kw_170 kw_172 kw_173 kw_6 kw_171 hd_X6_needNode ⟨rfl, rfl⟩ ⟨Nat.le_of_ble_eq_true rfl, Nat.le_of_ble_eq_true rfl⟩ 0 rfl rfl rfl hl.1 rfl (Nat.le_of_ble_eq_true rfl) dX6_swap_7 ⟨Nat.zero_le _, Nat.zero_le _⟩) hw (fun H locs hw => ?_)
      refine lv_aload_n hx hb dX6_swap_10 rfl (lv_at hl 0 rfl) ?_
      refine C_g_X6_53 hC hw dX6_swap_11 ?_
      refine lv_iload_n hx hb dX6_swap_14 rfl (lv_at hl 1 rfl) ?_
      refine lv_iload_n hx hb dX6_swap_15 rfl (lv_at hl 2 rfl) ?_
      obtain ⟨r7, σ8, hc, h⟩ := bd_o h
      refine go_i (run_VN (As := [.int a0, .int a1]) (rest := []) hC hw (c_X5_exchange l D q k N σ4 a0 a1 r7 σ8 hc) kw_194 kw_188 kw_189 kw_166 kw_187 hd_X5_exchange ⟨rfl, rfl⟩ ⟨Nat.le_of_ble_eq_true rfl, Nat.le_of_ble_eq_true rfl⟩ 23 rfl rfl rfl hl.1 rfl (Nat.le_of_ble_eq_true rfl) dX6_swap_16 ⟨Nat.zero_le _, Nat.zero_le _⟩) hw (fun H locs hw => ?_)
      obtain ⟨hz9, h⟩ := gp_o h
      cases h
      exact ret_z hC hz9 hw dX6_swap_19
    · cases h
  · cases h
abbrev rmx_X6_swap : Room := { frames := 8, cells := 1, slots := 6, locals := 116 }
set_option maxRecDepth 100000 in
set_option maxHeartbeats 4000000 in
theorem x_X6_swap (l : Launch) (hst : l.stackTraces = false) (D : va_G) (q : Nat → Nat) (k : cK) (sa : Nat → Nat) (N : Nat) (σ : St) (a0 : Int32) (a1 : Int32) (ee : Nat) (σ' : St) (h : f_X6_swap N σ a0 a1 = some (.inr ee, σ')) :
    vx_Met l yX6_swap [.code yX6_swap cX6_swap 3 (some .boolean)] rmx_X6_swap (PX D (CW q k σ) k sa [.ref (q 0), .int a0, .int a1]) QN (XX D (CW q k σ) (CW q k σ') ee) 1 6 (AQ (CW q k σ)) := by
  refine metx_of (by decide) (Nat.le_of_ble_eq_true rfl) ?_
  intro p e s m below meth c hC ht hw hz ls hl
  have hC : Cx p s m meth c cX6_swap RX6 3 (some .boolean) := hC
  have hl : lv_has ls 3 [(0, .ref (q 0)), (1, .int a0), (2, .int a1)] := hl
  have hx := hC.1
  have hb := hC.2.1
  unfold f_X6_swap at h
  refine lv_aload_n hx hb dX6_swap_0 rfl (lv_at hl 0 rfl) ?_
  refine lv_iload_n hx hb dX6_swap_1 rfl (lv_at hl 1 rfl) ?_
  rcases bx_o h with ⟨r2, σ1, hc, h⟩ | ⟨e3, σ1, hc, h⟩
  · refine go_v (run_V (As := [.int a0]) (rest := []) hC hw (c_X6_needNode l D q k N σ a0 r2 σ1 hc) kw_170 kw_172 kw_173 kw_6 kw_171 hd_X6_needNode ⟨rfl, rfl⟩ ⟨Nat.le_of_ble_eq_true rfl, Nat.le_of_ble_eq_true rfl⟩ 0 rfl rfl rfl hl.1 rfl (Nat.le_of_ble_eq_true rfl) dX6_swap_2 ⟨Nat.zero_le _, Nat.zero_le _⟩) hw (fun H locs hw => ?_)
    refine lv_aload_n hx hb dX6_swap_5 rfl (lv_at hl 0 rfl) ?_
    refine lv_iload_n hx hb dX6_swap_6 rfl (lv_at hl 2 rfl) ?_
    rcases bx_o h with ⟨r5, σ4, hc, h⟩ | ⟨e6, σ4, hc, h⟩
    · refine go_v (run_V (As := [.int a1]) (rest := []) hC hw (c_X6_needNode l D q k N σ1 a1 r5 σ4 hc) kw_170 kw_172 kw_173 kw_6 kw_171 hd_X6_needNode ⟨rfl, rfl⟩ ⟨Nat.le_of_ble_eq_true rfl, Nat.le_of_ble_eq_true rfl⟩ 0 rfl rfl rfl hl.1 rfl (Nat.le_of_ble_eq_true rfl) dX6_swap_7 ⟨Nat.zero_le _, Nat.zero_le _⟩) hw (fun H locs hw => ?_)
      refine lv_aload_n hx hb dX6_swap_10 rfl (lv_at hl 0 rfl) ?_
      refine C_g_X6_53 hC hw dX6_swap_11 ?_
      refine lv_iload_n hx hb dX6_swap_14 rfl (lv_at hl 1 rfl) ?_
      refine lv_iload_n hx hb dX6_swap_15 rfl (lv_at hl 2 rfl) ?_
      obtain ⟨r7, σ8, hc, h⟩ := bd_o h
      refine go_i (run_VN (As := [.int a0, .int a1]) (rest := []) hC hw (c_X5_exchange l D q k N σ4 a0 a1 r7 σ8 hc) kw_194 kw_188 kw_189 kw_166 kw_187 hd_X5_exchange ⟨rfl, rfl⟩ ⟨Nat.le_of_ble_eq_true rfl, Nat.le_of_ble_eq_true rfl⟩ 23 rfl rfl rfl hl.1 rfl (Nat.le_of_ble_eq_true rfl) dX6_swap_16 ⟨Nat.zero_le _, Nat.zero_le _⟩) hw (fun H locs hw => ?_)
      obtain ⟨hz9, h⟩ := gp_o h
      cases h
    · cases h
      exact go_x (runx_V (As := [.int a1]) (rest := []) hC hw hz (x_X6_needNode l hst D q k sa N σ1 a1 _ _ hc) kw_170 kw_172 kw_173 kw_6 kw_171 hd_X6_needNode ⟨rfl, rfl⟩ ⟨Nat.le_of_ble_eq_true rfl, Nat.le_of_ble_eq_true rfl⟩ 0 rfl rfl rfl hl.1 rfl (Nat.le_of_ble_eq_true rfl) dX6_swap_7 ⟨Nat.le_of_ble_eq_true rfl, Nat.le_of_ble_eq_true rfl⟩) hw (fun H locs q9 ce hw h1 h2 h3 => out_x hC ht hw h1 h2 h3)
  · cases h
    exact go_x (runx_V (As := [.int a0]) (rest := []) hC hw hz (x_X6_needNode l hst D q k sa N σ a0 _ _ hc) kw_170 kw_172 kw_173 kw_6 kw_171 hd_X6_needNode ⟨rfl, rfl⟩ ⟨Nat.le_of_ble_eq_true rfl, Nat.le_of_ble_eq_true rfl⟩ 0 rfl rfl rfl hl.1 rfl (Nat.le_of_ble_eq_true rfl) dX6_swap_2 ⟨Nat.le_of_ble_eq_true rfl, Nat.le_of_ble_eq_true rfl⟩) hw (fun H locs q9 ce hw h1 h2 h3 => out_x hC ht hw h1 h2 h3)
/-! SlideBoards.even()Z -/
abbrev rm_X6_even : Room := { frames := 4, cells := 0, slots := 0, locals := 88 }
def f_X6_even (N : Nat) (σ : St) : Option (Int32 × St) :=
  bd (f_X5_hasTwoColours N σ) (fun r1 σ2 => gd (decide (r1 = 0 ∨ r1 = 1)) (some (r1, σ2)))
set_option maxRecDepth 100000 in
set_option maxHeartbeats 4000000 in
theorem c_X6_even (l : Launch) (D : va_G) (q : Nat → Nat) (k : cK) (N : Nat) (σ : St) (r : Int32) (σ' : St) (h : f_X6_even N σ = some (r, σ')) :
    Met l yX6_even [.code yX6_even cX6_even 1 (some .boolean)] rm_X6_even (PC D (CW q k σ) k [.ref (q 0)]) (QR D (CW q k σ) (CW q k σ') (some (.int r))) 0 0 (AQ (CW q k σ)) := by
  refine met_of (by decide) (Nat.le_of_ble_eq_true rfl) ?_
  intro p e s m below meth c hC hw ls hl
  have hC : Cx p s m meth c cX6_even RX6 1 (some .boolean) := hC
  have hl : lv_has ls 1 [(0, .ref (q 0))] := hl
  have hx := hC.1
  have hb := hC.2.1
  unfold f_X6_even at h
  refine lv_aload_n hx hb dX6_even_0 rfl (lv_at hl 0 rfl) ?_
  refine C_g_X6_53 hC hw dX6_even_1 ?_
  obtain ⟨r1, σ2, hc, h⟩ := bd_o h
  refine go_i (run_VN (As := []) (rest := []) hC hw (c_X5_hasTwoColours l D q k N σ r1 σ2 hc) kw_203 kw_205 kw_206 kw_166 kw_204 hd_X5_hasTwoColours ⟨rfl, rfl⟩ ⟨Nat.le_of_ble_eq_true rfl, Nat.le_of_ble_eq_true rfl⟩ 23 rfl rfl rfl hl.1 rfl (Nat.le_of_ble_eq_true rfl) dX6_even_4 ⟨Nat.zero_le _, Nat.zero_le _⟩) hw (fun H locs hw => ?_)
  obtain ⟨hz, h⟩ := gp_o h
  cases h
  exact ret_z hC hz hw dX6_even_7
/-! SlideBoards.parity()I -/
abbrev rm_X6_parity : Room := { frames := 5, cells := 0, slots := 0, locals := 108 }
def f_X6_parity (N : Nat) (σ : St) : Option (Int32 × St) :=
  bd (f_X5_invariant N σ) (fun r1 σ2 => some (r1, σ2))
set_option maxRecDepth 100000 in
set_option maxHeartbeats 4000000 in
theorem c_X6_parity (l : Launch) (D : va_G) (q : Nat → Nat) (k : cK) (N : Nat) (σ : St) (r : Int32) (σ' : St) (h : f_X6_parity N σ = some (r, σ')) :
    Met l yX6_parity [.code yX6_parity cX6_parity 1 (some .int)] rm_X6_parity (PC D (CW q k σ) k [.ref (q 0)]) (QR D (CW q k σ) (CW q k σ') (some (.int r))) 0 0 (AQ (CW q k σ)) := by
  refine met_of (by decide) (Nat.le_of_ble_eq_true rfl) ?_
  intro p e s m below meth c hC hw ls hl
  have hC : Cx p s m meth c cX6_parity RX6 1 (some .int) := hC
  have hl : lv_has ls 1 [(0, .ref (q 0))] := hl
  have hx := hC.1
  have hb := hC.2.1
  unfold f_X6_parity at h
  refine lv_aload_n hx hb dX6_parity_0 rfl (lv_at hl 0 rfl) ?_
  refine C_g_X6_53 hC hw dX6_parity_1 ?_
  obtain ⟨r1, σ2, hc, h⟩ := bd_o h
  refine go_i (run_VN (As := []) (rest := []) hC hw (c_X5_invariant l D q k N σ r1 σ2 hc) kw_212 kw_214 kw_215 kw_166 kw_213 hd_X5_invariant ⟨rfl, rfl⟩ ⟨Nat.le_of_ble_eq_true rfl, Nat.le_of_ble_eq_true rfl⟩ 23 rfl rfl rfl hl.1 rfl (Nat.le_of_ble_eq_true rfl) dX6_parity_4 ⟨Nat.zero_le _, Nat.zero_le _⟩) hw (fun H locs hw => ?_)
  cases h
  exact ret_i hC hw dX6_parity_7
/-! SlideBoards.ways()I -/
abbrev rm_X6_ways : Room := { frames := 6, cells := 0, slots := 0, locals := 128 }
def f_X6_ways (N : Nat) (σ : St) : Option (Int32 × St) :=
  bd (f_X5_countArrangements N σ) (fun r1 σ2 => some (r1, σ2))
set_option maxRecDepth 100000 in
set_option maxHeartbeats 4000000 in
theorem c_X6_ways (l : Launch) (D : va_G) (q : Nat → Nat) (k : cK) (N : Nat) (σ : St) (r : Int32) (σ' : St) (h : f_X6_ways N σ = some (r, σ')) :
    Met l yX6_ways [.code yX6_ways cX6_ways 1 (some .int)] rm_X6_ways (PC D (CW q k σ) k [.ref (q 0)]) (QR D (CW q k σ) (CW q k σ') (some (.int r))) 0 0 (AQ (CW q k σ)) := by
  refine met_of (by decide) (Nat.le_of_ble_eq_true rfl) ?_
  intro p e s m below meth c hC hw ls hl
  have hC : Cx p s m meth c cX6_ways RX6 1 (some .int) := hC
  have hl : lv_has ls 1 [(0, .ref (q 0))] := hl
  have hx := hC.1
  have hb := hC.2.1
  unfold f_X6_ways at h
  refine lv_aload_n hx hb dX6_ways_0 rfl (lv_at hl 0 rfl) ?_
  refine C_g_X6_53 hC hw dX6_ways_1 ?_
  obtain ⟨r1, σ2, hc, h⟩ := bd_o h
  refine go_i (run_VN (As := []) (rest := []) hC hw (c_X5_countArrangements l D q k N σ r1 σ2 hc) kw_237 kw_239 kw_240 kw_166 kw_238 hd_X5_countArrangements ⟨rfl, rfl⟩ ⟨Nat.le_of_ble_eq_true rfl, Nat.le_of_ble_eq_true rfl⟩ 23 rfl rfl rfl hl.1 rfl (Nat.le_of_ble_eq_true rfl) dX6_ways_4 ⟨Nat.zero_le _, Nat.zero_le _⟩) hw (fun H locs hw => ?_)
  cases h
  exact ret_i hC hw dX6_ways_7
/-! SlideBoards.home()Z -/
abbrev rm_X6_home : Room := { frames := 6, cells := 0, slots := 0, locals := 130 }
def f_X6_home (N : Nat) (σ : St) : Option (Int32 × St) :=
  bd (f_X5_comesHome N σ) (fun r1 σ2 => gd (decide (r1 = 0 ∨ r1 = 1)) (some (r1, σ2)))
set_option maxRecDepth 100000 in
set_option maxHeartbeats 4000000 in
theorem c_X6_home (l : Launch) (D : va_G) (q : Nat → Nat) (k : cK) (N : Nat) (σ : St) (r : Int32) (σ' : St) (h : f_X6_home N σ = some (r, σ')) :
    Met l yX6_home [.code yX6_home cX6_home 1 (some .boolean)] rm_X6_home (PC D (CW q k σ) k [.ref (q 0)]) (QR D (CW q k σ) (CW q k σ') (some (.int r))) 0 0 (AQ (CW q k σ)) := by
  refine met_of (by decide) (Nat.le_of_ble_eq_true rfl) ?_
  intro p e s m below meth c hC hw ls hl
  have hC : Cx p s m meth c cX6_home RX6 1 (some .boolean) := hC
  have hl : lv_has ls 1 [(0, .ref (q 0))] := hl
  have hx := hC.1
  have hb := hC.2.1
  unfold f_X6_home at h
  refine lv_aload_n hx hb dX6_home_0 rfl (lv_at hl 0 rfl) ?_
  refine C_g_X6_53 hC hw dX6_home_1 ?_
  obtain ⟨r1, σ2, hc, h⟩ := bd_o h
  refine go_i (run_VN (As := []) (rest := []) hC hw (c_X5_comesHome l D q k N σ r1 σ2 hc) kw_241 kw_243 kw_244 kw_166 kw_242 hd_X5_comesHome ⟨rfl, rfl⟩ ⟨Nat.le_of_ble_eq_true rfl, Nat.le_of_ble_eq_true rfl⟩ 23 rfl rfl rfl hl.1 rfl (Nat.le_of_ble_eq_true rfl) dX6_home_4 ⟨Nat.zero_le _, Nat.zero_le _⟩) hw (fun H locs hw => ?_)
  obtain ⟨hz, h⟩ := gp_o h
  cases h
  exact ret_z hC hz hw dX6_home_7

/-! SlideBoardsLaw.wall(LSlideBoards;IIZ[J)I -/
abbrev rm_L_wall : Room := { frames := 9, cells := 1, slots := 6, locals := 140 }
def f_L_wall (N : Nat) (σ : St) (a1 : Int32) (a2 : Int32) (a3 : Int32) : Option (Int32 × St) :=
  bc (f_X6_wall N σ a1 a2 a3) (fun r1 σ2 => if r1 = 0 then (gd (okx (0 : Int32) 1) (nm (sL σ2 3 (0 : Int32) (0 : Int64)) (fun σ4 => some ((0 : Int32), σ4)))) else (gd (okx (0 : Int32) 1) (nm (sL σ2 3 (0 : Int32) (1 : Int64)) (fun σ5 => some ((0 : Int32), σ5))))) (fun e3 σ2 => if e3 = 0 then (some ((1 : Int32), σ2)) else (none))
set_option maxRecDepth 100000 in
set_option maxHeartbeats 4000000 in
theorem c_L_wall (l : Launch) (hst : l.stackTraces = false) (D : va_G) (q : Nat → Nat) (k : cK) (sa : Nat → Nat) (N : Nat) (σ : St) (a1 : Int32) (a2 : Int32) (a3 : Int32) (r : Int32) (σ' : St) (h : f_L_wall N σ a1 a2 a3 = some (r, σ')) :
    Met l yL_wall [.codeWith yL_wall cL_wall 6 (some .int) [(0, 19, 22, 13)]] rm_L_wall (PX D (CW q k σ) k sa [.ref (q 0), .int a1, .int a2, .int a3, .ref (q 29)]) (QR D (CW q k σ) (CW q k σ') (some (.int r))) 1 6 (AQ (CW q k σ)) := by
  refine metw_of (by decide) (Nat.le_of_ble_eq_true rfl) ?_
  intro p e s m below meth c hC ht hw hz ls hl
  have hC : Cx p s m meth c cL_wall RL 6 (some .int) := hC
  have hl : lv_has ls 6 [(0, .ref (q 0)), (1, .int a1), (2, .int a2), (3, .int a3), (4, .ref (q 29))] := hl
  have hx := hC.1
  have hb := hC.2.1
  unfold f_L_wall at h
  refine lv_aload hx hb dL_wall_0 (lv_at hl 4 rfl) ?_
  refine lv_iconst (v := 0) hx hb dL_wall_2 (by decide) ?_
  refine lv_aload_n hx hb dL_wall_3 rfl (lv_at hl 0 rfl) ?_
  refine lv_iload_n hx hb dL_wall_4 rfl (lv_at hl 1 rfl) ?_
  refine lv_iload_n hx hb dL_wall_5 rfl (lv_at hl 2 rfl) ?_
  refine lv_iload_n hx hb dL_wall_6 rfl (lv_at hl 3 rfl) ?_
  rcases bc_o h with ⟨r1, σ2, hc, h⟩ | ⟨e3, σ2, hc, h⟩
  · refine go_i (run_V (As := [.int a1, .int a2, .int a3]) (rest := [.int (0 : Int32), .ref (q 29)]) hC hw (c_X6_wall l D q k N σ a1 a2 a3 r1 σ2 hc) kw_455 kw_457 kw_458 kw_6 kw_456 hd_X6_wall ⟨rfl, rfl⟩ ⟨Nat.le_of_ble_eq_true rfl, Nat.le_of_ble_eq_true rfl⟩ 0 rfl rfl rfl hl.1 rfl (Nat.le_of_ble_eq_true rfl) dL_wall_7 ⟨Nat.zero_le _, Nat.zero_le _⟩) hw (fun H locs hw => ?_)
    refine lv_if_eq (tgt := 17) hx hb dL_wall_10 (by decide) (fun c => ?_) (fun c => ?_)
    · have h := if_t h c
      refine lv_lconst (v := 0) hx hb dL_wall_17 (by decide) ?_
      obtain ⟨hin, h⟩ := gd_o h
      refine C_st29 hC hw hin dL_wall_18 (fun σ4 eσ4 H locs hw => ?_)
      have h := nm_o h σ4 eσ4
      refine lv_goto (tgt := 26) hx hb dL_wall_19 (by decide) ?_
      refine lv_iconst (v := 0) hx hb dL_wall_26 (by decide) ?_
      cases h
      refine W.widen (k := 1) (n := 6) (Nat.le_of_ble_eq_true rfl) (Nat.le_of_ble_eq_true rfl) ?_
      exact ret_i hC hw dL_wall_27
    · have h := if_f h c
      refine lv_lconst (v := 1) hx hb dL_wall_13 (by decide) ?_
      refine lv_goto (tgt := 18) hx hb dL_wall_14 (by decide) ?_
      obtain ⟨hin, h⟩ := gd_o h
      refine C_st29 hC hw hin dL_wall_18 (fun σ5 eσ5 H locs hw => ?_)
      have h := nm_o h σ5 eσ5
      refine lv_goto (tgt := 26) hx hb dL_wall_19 (by decide) ?_
      refine lv_iconst (v := 0) hx hb dL_wall_26 (by decide) ?_
      cases h
      refine W.widen (k := 1) (n := 6) (Nat.le_of_ble_eq_true rfl) (Nat.le_of_ble_eq_true rfl) ?_
      exact ret_i hC hw dL_wall_27
  · by_cases he0 : e3 = 0
    · have h := if_t h he0
      subst he0
      refine go_x (runx_V (As := [.int a1, .int a2, .int a3]) (rest := [.int (0 : Int32), .ref (q 29)]) hC hw hz (x_X6_wall l hst D q k sa N σ a1 a2 a3 _ _ hc) kw_455 kw_457 kw_458 kw_6 kw_456 hd_X6_wall ⟨rfl, rfl⟩ ⟨Nat.le_of_ble_eq_true rfl, Nat.le_of_ble_eq_true rfl⟩ 0 rfl rfl rfl hl.1 rfl (Nat.le_of_ble_eq_true rfl) dL_wall_7 ⟨Nat.le_of_ble_eq_true rfl, Nat.le_of_ble_eq_true rfl⟩) hw (fun H locs q9 ce hw h1 h2 h3 => ?_)
      refine vx_catch (own := RL) (name := EXn 0) hC.2.2.2.2.1 [] ⟨0, 19, 22, 13⟩ [] ht (fun z h => nomatch h) (by decide) (by decide) (hw.2.2.2.2.all _ _ kw_459) (hw.2.2.2.2.all _ _ kw_460) h1 h2 h3 ?_
      refine lv_astore (lv' := [(5, .ref q9), (0, .ref (q 0)), (1, .int a1), (2, .int a2), (3, .int a3), (4, .ref (q 29))]) hx hb dL_wall_22 hl (by decide) rfl (fun ls hl => ?_)
      refine lv_iconst (v := 1) hx hb dL_wall_24 (by decide) ?_
      cases h
      refine W.widen (k := 1) (n := 6) (Nat.le_of_ble_eq_true rfl) (Nat.le_of_ble_eq_true rfl) ?_
      exact ret_i hC hw dL_wall_25
    · have h := if_f h he0
      cases h
/-! SlideBoardsLaw.block(LSlideBoards;I[J)I -/
abbrev rm_L_block : Room := { frames := 8, cells := 1, slots := 6, locals := 123 }
def f_L_block (N : Nat) (σ : St) (a1 : Int32) : Option (Int32 × St) :=
  bc (f_X6_block N σ a1) (fun r1 σ2 => gd (okx (0 : Int32) 1) (nm (sL σ2 3 (0 : Int32) (Int32.toInt64 r1)) (fun σ4 => some ((0 : Int32), σ4)))) (fun e3 σ2 => if e3 = 1 then (some ((1 : Int32), σ2)) else (none))
set_option maxRecDepth 100000 in
set_option maxHeartbeats 4000000 in
theorem c_L_block (l : Launch) (hst : l.stackTraces = false) (D : va_G) (q : Nat → Nat) (k : cK) (sa : Nat → Nat) (N : Nat) (σ : St) (a1 : Int32) (r : Int32) (σ' : St) (h : f_L_block N σ a1 = some (r, σ')) :
    Met l yL_block [.codeWith yL_block cL_block 4 (some .int) [(0, 9, 12, 19)]] rm_L_block (PX D (CW q k σ) k sa [.ref (q 0), .int a1, .ref (q 29)]) (QR D (CW q k σ) (CW q k σ') (some (.int r))) 1 6 (AQ (CW q k σ)) := by
  refine metw_of (by decide) (Nat.le_of_ble_eq_true rfl) ?_
  intro p e s m below meth c hC ht hw hz ls hl
  have hC : Cx p s m meth c cL_block RL 4 (some .int) := hC
  have hl : lv_has ls 4 [(0, .ref (q 0)), (1, .int a1), (2, .ref (q 29))] := hl
  have hx := hC.1
  have hb := hC.2.1
  unfold f_L_block at h
  refine lv_aload_n hx hb dL_block_0 rfl (lv_at hl 2 rfl) ?_
  refine lv_iconst (v := 0) hx hb dL_block_1 (by decide) ?_
  refine lv_aload_n hx hb dL_block_2 rfl (lv_at hl 0 rfl) ?_
  refine lv_iload_n hx hb dL_block_3 rfl (lv_at hl 1 rfl) ?_
  rcases bc_o h with ⟨r1, σ2, hc, h⟩ | ⟨e3, σ2, hc, h⟩
  · refine go_i (run_V (As := [.int a1]) (rest := [.int (0 : Int32), .ref (q 29)]) hC hw (c_X6_block l D q k N σ a1 r1 σ2 hc) kw_461 kw_463 kw_464 kw_6 kw_462 hd_X6_block ⟨rfl, rfl⟩ ⟨Nat.le_of_ble_eq_true rfl, Nat.le_of_ble_eq_true rfl⟩ 0 rfl rfl rfl hl.1 rfl (Nat.le_of_ble_eq_true rfl) dL_block_4 ⟨Nat.zero_le _, Nat.zero_le _⟩) hw (fun H locs hw => ?_)
    refine lv_i2l (v := Int32.toInt64 r1) hx hb dL_block_7 rfl ?_
    obtain ⟨hin, h⟩ := gd_o h
    refine C_st29 hC hw hin dL_block_8 (fun σ4 eσ4 H locs hw => ?_)
    have h := nm_o h σ4 eσ4
    refine lv_goto (tgt := 15) hx hb dL_block_9 (by decide) ?_
    refine lv_iconst (v := 0) hx hb dL_block_15 (by decide) ?_
    cases h
    refine W.widen (k := 1) (n := 6) (Nat.le_of_ble_eq_true rfl) (Nat.le_of_ble_eq_true rfl) ?_
    exact ret_i hC hw dL_block_16
  · by_cases he0 : e3 = 1
    · have h := if_t h he0
      subst he0
      refine go_x (runx_V (As := [.int a1]) (rest := [.int (0 : Int32), .ref (q 29)]) hC hw hz (x_X6_block l hst D q k sa N σ a1 _ _ hc) kw_461 kw_463 kw_464 kw_6 kw_462 hd_X6_block ⟨rfl, rfl⟩ ⟨Nat.le_of_ble_eq_true rfl, Nat.le_of_ble_eq_true rfl⟩ 0 rfl rfl rfl hl.1 rfl (Nat.le_of_ble_eq_true rfl) dL_block_4 ⟨Nat.le_of_ble_eq_true rfl, Nat.le_of_ble_eq_true rfl⟩) hw (fun H locs q9 ce hw h1 h2 h3 => ?_)
      refine vx_catch (own := RL) (name := EXn 1) hC.2.2.2.2.1 [] ⟨0, 9, 12, 19⟩ [] ht (fun z h => nomatch h) (by decide) (by decide) (hw.2.2.2.2.all _ _ kw_465) (hw.2.2.2.2.all _ _ kw_466) h1 h2 h3 ?_
      refine lv_astore_n (lv' := [(3, .ref q9), (0, .ref (q 0)), (1, .int a1), (2, .ref (q 29))]) hx hb dL_block_12 rfl hl (by decide) rfl (fun ls hl => ?_)
      refine lv_iconst (v := 1) hx hb dL_block_13 (by decide) ?_
      cases h
      refine W.widen (k := 1) (n := 6) (Nat.le_of_ble_eq_true rfl) (Nat.le_of_ble_eq_true rfl) ?_
      exact ret_i hC hw dL_block_14
    · have h := if_f h he0
      cases h
/-! SlideBoardsLaw.cell(LSlideBoards;III[J)I -/
abbrev rm_L_cell_ : Room := { frames := 9, cells := 1, slots := 6, locals := 140 }
def f_L_cell_ (N : Nat) (σ : St) (a1 : Int32) (a2 : Int32) (a3 : Int32) : Option (Int32 × St) :=
  bc (f_X6_cell N σ a1 a2 a3) (fun r1 σ2 => if r1 = 0 then (gd (okx (0 : Int32) 1) (nm (sL σ2 3 (0 : Int32) (0 : Int64)) (fun σ4 => some ((0 : Int32), σ4)))) else (gd (okx (0 : Int32) 1) (nm (sL σ2 3 (0 : Int32) (1 : Int64)) (fun σ5 => some ((0 : Int32), σ5))))) (fun e3 σ2 => if e3 = 0 then (some ((1 : Int32), σ2)) else (none))
set_option maxRecDepth 100000 in
set_option maxHeartbeats 4000000 in
theorem c_L_cell_ (l : Launch) (hst : l.stackTraces = false) (D : va_G) (q : Nat → Nat) (k : cK) (sa : Nat → Nat) (N : Nat) (σ : St) (a1 : Int32) (a2 : Int32) (a3 : Int32) (r : Int32) (σ' : St) (h : f_L_cell_ N σ a1 a2 a3 = some (r, σ')) :
    Met l yL_cell_ [.codeWith yL_cell_ cL_cell_ 6 (some .int) [(0, 19, 22, 13)]] rm_L_cell_ (PX D (CW q k σ) k sa [.ref (q 0), .int a1, .int a2, .int a3, .ref (q 29)]) (QR D (CW q k σ) (CW q k σ') (some (.int r))) 1 6 (AQ (CW q k σ)) := by
  refine metw_of (by decide) (Nat.le_of_ble_eq_true rfl) ?_
  intro p e s m below meth c hC ht hw hz ls hl
  have hC : Cx p s m meth c cL_cell_ RL 6 (some .int) := hC
  have hl : lv_has ls 6 [(0, .ref (q 0)), (1, .int a1), (2, .int a2), (3, .int a3), (4, .ref (q 29))] := hl
  have hx := hC.1
  have hb := hC.2.1
  unfold f_L_cell_ at h
  refine lv_aload hx hb dL_cell__0 (lv_at hl 4 rfl) ?_
  refine lv_iconst (v := 0) hx hb dL_cell__2 (by decide) ?_
  refine lv_aload_n hx hb dL_cell__3 rfl (lv_at hl 0 rfl) ?_
  refine lv_iload_n hx hb dL_cell__4 rfl (lv_at hl 1 rfl) ?_
  refine lv_iload_n hx hb dL_cell__5 rfl (lv_at hl 2 rfl) ?_
  refine lv_iload_n hx hb dL_cell__6 rfl (lv_at hl 3 rfl) ?_
  rcases bc_o h with ⟨r1, σ2, hc, h⟩ | ⟨e3, σ2, hc, h⟩
  · refine go_i (run_V (As := [.int a1, .int a2, .int a3]) (rest := [.int (0 : Int32), .ref (q 29)]) hC hw (c_X6_cell l D q k N σ a1 a2 a3 r1 σ2 hc) kw_467 kw_469 kw_470 kw_6 kw_468 hd_X6_cell ⟨rfl, rfl⟩ ⟨Nat.le_of_ble_eq_true rfl, Nat.le_of_ble_eq_true rfl⟩ 0 rfl rfl rfl hl.1 rfl (Nat.le_of_ble_eq_true rfl) dL_cell__7 ⟨Nat.zero_le _, Nat.zero_le _⟩) hw (fun H locs hw => ?_)
    refine lv_if_eq (tgt := 17) hx hb dL_cell__10 (by decide) (fun c => ?_) (fun c => ?_)
    · have h := if_t h c
      refine lv_lconst (v := 0) hx hb dL_cell__17 (by decide) ?_
      obtain ⟨hin, h⟩ := gd_o h
      refine C_st29 hC hw hin dL_cell__18 (fun σ4 eσ4 H locs hw => ?_)
      have h := nm_o h σ4 eσ4
      refine lv_goto (tgt := 26) hx hb dL_cell__19 (by decide) ?_
      refine lv_iconst (v := 0) hx hb dL_cell__26 (by decide) ?_
      cases h
      refine W.widen (k := 1) (n := 6) (Nat.le_of_ble_eq_true rfl) (Nat.le_of_ble_eq_true rfl) ?_
      exact ret_i hC hw dL_cell__27
    · have h := if_f h c
      refine lv_lconst (v := 1) hx hb dL_cell__13 (by decide) ?_
      refine lv_goto (tgt := 18) hx hb dL_cell__14 (by decide) ?_
      obtain ⟨hin, h⟩ := gd_o h
      refine C_st29 hC hw hin dL_cell__18 (fun σ5 eσ5 H locs hw => ?_)
      have h := nm_o h σ5 eσ5
      refine lv_goto (tgt := 26) hx hb dL_cell__19 (by decide) ?_
      refine lv_iconst (v := 0) hx hb dL_cell__26 (by decide) ?_
      cases h
      refine W.widen (k := 1) (n := 6) (Nat.le_of_ble_eq_true rfl) (Nat.le_of_ble_eq_true rfl) ?_
      exact ret_i hC hw dL_cell__27
  · by_cases he0 : e3 = 0
    · have h := if_t h he0
      subst he0
      refine go_x (runx_V (As := [.int a1, .int a2, .int a3]) (rest := [.int (0 : Int32), .ref (q 29)]) hC hw hz (x_X6_cell l hst D q k sa N σ a1 a2 a3 _ _ hc) kw_467 kw_469 kw_470 kw_6 kw_468 hd_X6_cell ⟨rfl, rfl⟩ ⟨Nat.le_of_ble_eq_true rfl, Nat.le_of_ble_eq_true rfl⟩ 0 rfl rfl rfl hl.1 rfl (Nat.le_of_ble_eq_true rfl) dL_cell__7 ⟨Nat.le_of_ble_eq_true rfl, Nat.le_of_ble_eq_true rfl⟩) hw (fun H locs q9 ce hw h1 h2 h3 => ?_)
      refine vx_catch (own := RL) (name := EXn 0) hC.2.2.2.2.1 [] ⟨0, 19, 22, 13⟩ [] ht (fun z h => nomatch h) (by decide) (by decide) (hw.2.2.2.2.all _ _ kw_459) (hw.2.2.2.2.all _ _ kw_460) h1 h2 h3 ?_
      refine lv_astore (lv' := [(5, .ref q9), (0, .ref (q 0)), (1, .int a1), (2, .int a2), (3, .int a3), (4, .ref (q 29))]) hx hb dL_cell__22 hl (by decide) rfl (fun ls hl => ?_)
      refine lv_iconst (v := 1) hx hb dL_cell__24 (by decide) ?_
      cases h
      refine W.widen (k := 1) (n := 6) (Nat.le_of_ble_eq_true rfl) (Nat.le_of_ble_eq_true rfl) ?_
      exact ret_i hC hw dL_cell__25
    · have h := if_f h he0
      cases h
/-! SlideBoardsLaw.place(LSlideBoards;I[J)I -/
abbrev rm_L_place : Room := { frames := 9, cells := 1, slots := 6, locals := 137 }
def f_L_place (N : Nat) (σ : St) (a1 : Int32) : Option (Int32 × St) :=
  bc (f_X6_place N σ a1) (fun r1 σ2 => gd (okx (0 : Int32) 1) (nm (sL σ2 3 (0 : Int32) (Int32.toInt64 r1)) (fun σ4 => some ((0 : Int32), σ4)))) (fun e3 σ2 => if e3 = 0 then (some ((1 : Int32), σ2)) else (none))
set_option maxRecDepth 100000 in
set_option maxHeartbeats 4000000 in
theorem c_L_place (l : Launch) (hst : l.stackTraces = false) (D : va_G) (q : Nat → Nat) (k : cK) (sa : Nat → Nat) (N : Nat) (σ : St) (a1 : Int32) (r : Int32) (σ' : St) (h : f_L_place N σ a1 = some (r, σ')) :
    Met l yL_place [.codeWith yL_place cL_place 4 (some .int) [(0, 9, 12, 13)]] rm_L_place (PX D (CW q k σ) k sa [.ref (q 0), .int a1, .ref (q 29)]) (QR D (CW q k σ) (CW q k σ') (some (.int r))) 1 6 (AQ (CW q k σ)) := by
  refine metw_of (by decide) (Nat.le_of_ble_eq_true rfl) ?_
  intro p e s m below meth c hC ht hw hz ls hl
  have hC : Cx p s m meth c cL_place RL 4 (some .int) := hC
  have hl : lv_has ls 4 [(0, .ref (q 0)), (1, .int a1), (2, .ref (q 29))] := hl
  have hx := hC.1
  have hb := hC.2.1
  unfold f_L_place at h
  refine lv_aload_n hx hb dL_place_0 rfl (lv_at hl 2 rfl) ?_
  refine lv_iconst (v := 0) hx hb dL_place_1 (by decide) ?_
  refine lv_aload_n hx hb dL_place_2 rfl (lv_at hl 0 rfl) ?_
  refine lv_iload_n hx hb dL_place_3 rfl (lv_at hl 1 rfl) ?_
  rcases bc_o h with ⟨r1, σ2, hc, h⟩ | ⟨e3, σ2, hc, h⟩
  · refine go_i (run_V (As := [.int a1]) (rest := [.int (0 : Int32), .ref (q 29)]) hC hw (c_X6_place l D q k N σ a1 r1 σ2 hc) kw_471 kw_473 kw_474 kw_6 kw_472 hd_X6_place ⟨rfl, rfl⟩ ⟨Nat.le_of_ble_eq_true rfl, Nat.le_of_ble_eq_true rfl⟩ 0 rfl rfl rfl hl.1 rfl (Nat.le_of_ble_eq_true rfl) dL_place_4 ⟨Nat.zero_le _, Nat.zero_le _⟩) hw (fun H locs hw => ?_)
    refine lv_i2l (v := Int32.toInt64 r1) hx hb dL_place_7 rfl ?_
    obtain ⟨hin, h⟩ := gd_o h
    refine C_st29 hC hw hin dL_place_8 (fun σ4 eσ4 H locs hw => ?_)
    have h := nm_o h σ4 eσ4
    refine lv_goto (tgt := 15) hx hb dL_place_9 (by decide) ?_
    refine lv_iconst (v := 0) hx hb dL_place_15 (by decide) ?_
    cases h
    refine W.widen (k := 1) (n := 6) (Nat.le_of_ble_eq_true rfl) (Nat.le_of_ble_eq_true rfl) ?_
    exact ret_i hC hw dL_place_16
  · by_cases he0 : e3 = 0
    · have h := if_t h he0
      subst he0
      refine go_x (runx_V (As := [.int a1]) (rest := [.int (0 : Int32), .ref (q 29)]) hC hw hz (x_X6_place l hst D q k sa N σ a1 _ _ hc) kw_471 kw_473 kw_474 kw_6 kw_472 hd_X6_place ⟨rfl, rfl⟩ ⟨Nat.le_of_ble_eq_true rfl, Nat.le_of_ble_eq_true rfl⟩ 0 rfl rfl rfl hl.1 rfl (Nat.le_of_ble_eq_true rfl) dL_place_4 ⟨Nat.le_of_ble_eq_true rfl, Nat.le_of_ble_eq_true rfl⟩) hw (fun H locs q9 ce hw h1 h2 h3 => ?_)
      refine vx_catch (own := RL) (name := EXn 0) hC.2.2.2.2.1 [] ⟨0, 9, 12, 13⟩ [] ht (fun z h => nomatch h) (by decide) (by decide) (hw.2.2.2.2.all _ _ kw_459) (hw.2.2.2.2.all _ _ kw_460) h1 h2 h3 ?_
      refine lv_astore_n (lv' := [(3, .ref q9), (0, .ref (q 0)), (1, .int a1), (2, .ref (q 29))]) hx hb dL_place_12 rfl hl (by decide) rfl (fun ls hl => ?_)
      refine lv_iconst (v := 1) hx hb dL_place_13 (by decide) ?_
      cases h
      refine W.widen (k := 1) (n := 6) (Nat.le_of_ble_eq_true rfl) (Nat.le_of_ble_eq_true rfl) ?_
      exact ret_i hC hw dL_place_14
    · have h := if_f h he0
      cases h
/-! SlideBoardsLaw.slide(LSlideBoards;III[J)I -/
abbrev rm_L_slide : Room := { frames := 9, cells := 1, slots := 6, locals := 139 }
def f_L_slide (N : Nat) (σ : St) (a1 : Int32) (a2 : Int32) (a3 : Int32) : Option (Int32 × St) :=
  bc (f_X6_slide N σ a1 a2 a3) (fun r1 σ2 => gd (okx (0 : Int32) 1) (nm (sL σ2 3 (0 : Int32) (Int32.toInt64 r1)) (fun σ4 => some ((0 : Int32), σ4)))) (fun e3 σ2 => if e3 = 0 then (some ((1 : Int32), σ2)) else (none))
set_option maxRecDepth 100000 in
set_option maxHeartbeats 4000000 in
theorem c_L_slide (l : Launch) (hst : l.stackTraces = false) (D : va_G) (q : Nat → Nat) (k : cK) (sa : Nat → Nat) (N : Nat) (σ : St) (a1 : Int32) (a2 : Int32) (a3 : Int32) (r : Int32) (σ' : St) (h : f_L_slide N σ a1 a2 a3 = some (r, σ')) :
    Met l yL_slide [.codeWith yL_slide cL_slide 6 (some .int) [(0, 12, 15, 13)]] rm_L_slide (PX D (CW q k σ) k sa [.ref (q 0), .int a1, .int a2, .int a3, .ref (q 29)]) (QR D (CW q k σ) (CW q k σ') (some (.int r))) 1 6 (AQ (CW q k σ)) := by
  refine metw_of (by decide) (Nat.le_of_ble_eq_true rfl) ?_
  intro p e s m below meth c hC ht hw hz ls hl
  have hC : Cx p s m meth c cL_slide RL 6 (some .int) := hC
  have hl : lv_has ls 6 [(0, .ref (q 0)), (1, .int a1), (2, .int a2), (3, .int a3), (4, .ref (q 29))] := hl
  have hx := hC.1
  have hb := hC.2.1
  unfold f_L_slide at h
  refine lv_aload hx hb dL_slide_0 (lv_at hl 4 rfl) ?_
  refine lv_iconst (v := 0) hx hb dL_slide_2 (by decide) ?_
  refine lv_aload_n hx hb dL_slide_3 rfl (lv_at hl 0 rfl) ?_
  refine lv_iload_n hx hb dL_slide_4 rfl (lv_at hl 1 rfl) ?_
  refine lv_iload_n hx hb dL_slide_5 rfl (lv_at hl 2 rfl) ?_
  refine lv_iload_n hx hb dL_slide_6 rfl (lv_at hl 3 rfl) ?_
  rcases bc_o h with ⟨r1, σ2, hc, h⟩ | ⟨e3, σ2, hc, h⟩
  · refine go_i (run_V (As := [.int a1, .int a2, .int a3]) (rest := [.int (0 : Int32), .ref (q 29)]) hC hw (c_X6_slide l D q k N σ a1 a2 a3 r1 σ2 hc) kw_475 kw_477 kw_478 kw_6 kw_476 hd_X6_slide ⟨rfl, rfl⟩ ⟨Nat.le_of_ble_eq_true rfl, Nat.le_of_ble_eq_true rfl⟩ 0 rfl rfl rfl hl.1 rfl (Nat.le_of_ble_eq_true rfl) dL_slide_7 ⟨Nat.zero_le _, Nat.zero_le _⟩) hw (fun H locs hw => ?_)
    refine lv_i2l (v := Int32.toInt64 r1) hx hb dL_slide_10 rfl ?_
    obtain ⟨hin, h⟩ := gd_o h
    refine C_st29 hC hw hin dL_slide_11 (fun σ4 eσ4 H locs hw => ?_)
    have h := nm_o h σ4 eσ4
    refine lv_goto (tgt := 19) hx hb dL_slide_12 (by decide) ?_
    refine lv_iconst (v := 0) hx hb dL_slide_19 (by decide) ?_
    cases h
    refine W.widen (k := 1) (n := 6) (Nat.le_of_ble_eq_true rfl) (Nat.le_of_ble_eq_true rfl) ?_
    exact ret_i hC hw dL_slide_20
  · by_cases he0 : e3 = 0
    · have h := if_t h he0
      subst he0
      refine go_x (runx_V (As := [.int a1, .int a2, .int a3]) (rest := [.int (0 : Int32), .ref (q 29)]) hC hw hz (x_X6_slide l hst D q k sa N σ a1 a2 a3 _ _ hc) kw_475 kw_477 kw_478 kw_6 kw_476 hd_X6_slide ⟨rfl, rfl⟩ ⟨Nat.le_of_ble_eq_true rfl, Nat.le_of_ble_eq_true rfl⟩ 0 rfl rfl rfl hl.1 rfl (Nat.le_of_ble_eq_true rfl) dL_slide_7 ⟨Nat.le_of_ble_eq_true rfl, Nat.le_of_ble_eq_true rfl⟩) hw (fun H locs q9 ce hw h1 h2 h3 => ?_)
      refine vx_catch (own := RL) (name := EXn 0) hC.2.2.2.2.1 [] ⟨0, 12, 15, 13⟩ [] ht (fun z h => nomatch h) (by decide) (by decide) (hw.2.2.2.2.all _ _ kw_459) (hw.2.2.2.2.all _ _ kw_460) h1 h2 h3 ?_
      refine lv_astore (lv' := [(5, .ref q9), (0, .ref (q 0)), (1, .int a1), (2, .int a2), (3, .int a3), (4, .ref (q 29))]) hx hb dL_slide_15 hl (by decide) rfl (fun ls hl => ?_)
      refine lv_iconst (v := 1) hx hb dL_slide_17 (by decide) ?_
      cases h
      refine W.widen (k := 1) (n := 6) (Nat.le_of_ble_eq_true rfl) (Nat.le_of_ble_eq_true rfl) ?_
      exact ret_i hC hw dL_slide_18
    · have h := if_f h he0
      cases h
/-! SlideBoardsLaw.goal(LSlideBoards;III[J)I -/
abbrev rm_L_goal : Room := { frames := 9, cells := 1, slots := 6, locals := 140 }
def f_L_goal (N : Nat) (σ : St) (a1 : Int32) (a2 : Int32) (a3 : Int32) : Option (Int32 × St) :=
  bc (f_X6_goal N σ a1 a2 a3) (fun r1 σ2 => gd (okx (0 : Int32) 1) (nm (sL σ2 3 (0 : Int32) (Int32.toInt64 r1)) (fun σ4 => some ((0 : Int32), σ4)))) (fun e3 σ2 => if e3 = 0 then (some ((1 : Int32), σ2)) else (none))
set_option maxRecDepth 100000 in
set_option maxHeartbeats 4000000 in
theorem c_L_goal (l : Launch) (hst : l.stackTraces = false) (D : va_G) (q : Nat → Nat) (k : cK) (sa : Nat → Nat) (N : Nat) (σ : St) (a1 : Int32) (a2 : Int32) (a3 : Int32) (r : Int32) (σ' : St) (h : f_L_goal N σ a1 a2 a3 = some (r, σ')) :
    Met l yL_goal [.codeWith yL_goal cL_goal 6 (some .int) [(0, 12, 15, 13)]] rm_L_goal (PX D (CW q k σ) k sa [.ref (q 0), .int a1, .int a2, .int a3, .ref (q 29)]) (QR D (CW q k σ) (CW q k σ') (some (.int r))) 1 6 (AQ (CW q k σ)) := by
  refine metw_of (by decide) (Nat.le_of_ble_eq_true rfl) ?_
  intro p e s m below meth c hC ht hw hz ls hl
  have hC : Cx p s m meth c cL_goal RL 6 (some .int) := hC
  have hl : lv_has ls 6 [(0, .ref (q 0)), (1, .int a1), (2, .int a2), (3, .int a3), (4, .ref (q 29))] := hl
  have hx := hC.1
  have hb := hC.2.1
  unfold f_L_goal at h
  refine lv_aload hx hb dL_goal_0 (lv_at hl 4 rfl) ?_
  refine lv_iconst (v := 0) hx hb dL_goal_2 (by decide) ?_
  refine lv_aload_n hx hb dL_goal_3 rfl (lv_at hl 0 rfl) ?_
  refine lv_iload_n hx hb dL_goal_4 rfl (lv_at hl 1 rfl) ?_
  refine lv_iload_n hx hb dL_goal_5 rfl (lv_at hl 2 rfl) ?_
  refine lv_iload_n hx hb dL_goal_6 rfl (lv_at hl 3 rfl) ?_
  rcases bc_o h with ⟨r1, σ2, hc, h⟩ | ⟨e3, σ2, hc, h⟩
  · refine go_i (run_V (As := [.int a1, .int a2, .int a3]) (rest := [.int (0 : Int32), .ref (q 29)]) hC hw (c_X6_goal l D q k N σ a1 a2 a3 r1 σ2 hc) kw_479 kw_481 kw_482 kw_6 kw_480 hd_X6_goal ⟨rfl, rfl⟩ ⟨Nat.le_of_ble_eq_true rfl, Nat.le_of_ble_eq_true rfl⟩ 0 rfl rfl rfl hl.1 rfl (Nat.le_of_ble_eq_true rfl) dL_goal_7 ⟨Nat.zero_le _, Nat.zero_le _⟩) hw (fun H locs hw => ?_)
    refine lv_i2l (v := Int32.toInt64 r1) hx hb dL_goal_10 rfl ?_
    obtain ⟨hin, h⟩ := gd_o h
    refine C_st29 hC hw hin dL_goal_11 (fun σ4 eσ4 H locs hw => ?_)
    have h := nm_o h σ4 eσ4
    refine lv_goto (tgt := 19) hx hb dL_goal_12 (by decide) ?_
    refine lv_iconst (v := 0) hx hb dL_goal_19 (by decide) ?_
    cases h
    refine W.widen (k := 1) (n := 6) (Nat.le_of_ble_eq_true rfl) (Nat.le_of_ble_eq_true rfl) ?_
    exact ret_i hC hw dL_goal_20
  · by_cases he0 : e3 = 0
    · have h := if_t h he0
      subst he0
      refine go_x (runx_V (As := [.int a1, .int a2, .int a3]) (rest := [.int (0 : Int32), .ref (q 29)]) hC hw hz (x_X6_goal l hst D q k sa N σ a1 a2 a3 _ _ hc) kw_479 kw_481 kw_482 kw_6 kw_480 hd_X6_goal ⟨rfl, rfl⟩ ⟨Nat.le_of_ble_eq_true rfl, Nat.le_of_ble_eq_true rfl⟩ 0 rfl rfl rfl hl.1 rfl (Nat.le_of_ble_eq_true rfl) dL_goal_7 ⟨Nat.le_of_ble_eq_true rfl, Nat.le_of_ble_eq_true rfl⟩) hw (fun H locs q9 ce hw h1 h2 h3 => ?_)
      refine vx_catch (own := RL) (name := EXn 0) hC.2.2.2.2.1 [] ⟨0, 12, 15, 13⟩ [] ht (fun z h => nomatch h) (by decide) (by decide) (hw.2.2.2.2.all _ _ kw_459) (hw.2.2.2.2.all _ _ kw_460) h1 h2 h3 ?_
      refine lv_astore (lv' := [(5, .ref q9), (0, .ref (q 0)), (1, .int a1), (2, .int a2), (3, .int a3), (4, .ref (q 29))]) hx hb dL_goal_15 hl (by decide) rfl (fun ls hl => ?_)
      refine lv_iconst (v := 1) hx hb dL_goal_17 (by decide) ?_
      cases h
      refine W.widen (k := 1) (n := 6) (Nat.le_of_ble_eq_true rfl) (Nat.le_of_ble_eq_true rfl) ?_
      exact ret_i hC hw dL_goal_18
    · have h := if_f h he0
      cases h
/-! SlideBoardsLaw.kindGoal(LSlideBoards;III[J)I -/
abbrev rm_L_kindGoal : Room := { frames := 9, cells := 1, slots := 6, locals := 140 }
def f_L_kindGoal (N : Nat) (σ : St) (a1 : Int32) (a2 : Int32) (a3 : Int32) : Option (Int32 × St) :=
  bc (f_X6_kindGoal N σ a1 a2 a3) (fun r1 σ2 => gd (okx (0 : Int32) 1) (nm (sL σ2 3 (0 : Int32) (Int32.toInt64 r1)) (fun σ4 => some ((0 : Int32), σ4)))) (fun e3 σ2 => if e3 = 0 then (some ((1 : Int32), σ2)) else (if e3 = 1 then (some ((2 : Int32), σ2)) else (none)))
set_option maxRecDepth 100000 in
set_option maxHeartbeats 4000000 in
theorem c_L_kindGoal (l : Launch) (hst : l.stackTraces = false) (D : va_G) (q : Nat → Nat) (k : cK) (sa : Nat → Nat) (N : Nat) (σ : St) (a1 : Int32) (a2 : Int32) (a3 : Int32) (r : Int32) (σ' : St) (h : f_L_kindGoal N σ a1 a2 a3 = some (r, σ')) :
    Met l yL_kindGoal [.codeWith yL_kindGoal cL_kindGoal 6 (some .int) [(0, 12, 15, 13), (0, 12, 19, 19)]] rm_L_kindGoal (PX D (CW q k σ) k sa [.ref (q 0), .int a1, .int a2, .int a3, .ref (q 29)]) (QR D (CW q k σ) (CW q k σ') (some (.int r))) 1 6 (AQ (CW q k σ)) := by
  refine metw_of (by decide) (Nat.le_of_ble_eq_true rfl) ?_
  intro p e s m below meth c hC ht hw hz ls hl
  have hC : Cx p s m meth c cL_kindGoal RL 6 (some .int) := hC
  have hl : lv_has ls 6 [(0, .ref (q 0)), (1, .int a1), (2, .int a2), (3, .int a3), (4, .ref (q 29))] := hl
  have hx := hC.1
  have hb := hC.2.1
  unfold f_L_kindGoal at h
  refine lv_aload hx hb dL_kindGoal_0 (lv_at hl 4 rfl) ?_
  refine lv_iconst (v := 0) hx hb dL_kindGoal_2 (by decide) ?_
  refine lv_aload_n hx hb dL_kindGoal_3 rfl (lv_at hl 0 rfl) ?_
  refine lv_iload_n hx hb dL_kindGoal_4 rfl (lv_at hl 1 rfl) ?_
  refine lv_iload_n hx hb dL_kindGoal_5 rfl (lv_at hl 2 rfl) ?_
  refine lv_iload_n hx hb dL_kindGoal_6 rfl (lv_at hl 3 rfl) ?_
  rcases bc_o h with ⟨r1, σ2, hc, h⟩ | ⟨e3, σ2, hc, h⟩
  · refine go_i (run_V (As := [.int a1, .int a2, .int a3]) (rest := [.int (0 : Int32), .ref (q 29)]) hC hw (c_X6_kindGoal l D q k N σ a1 a2 a3 r1 σ2 hc) kw_483 kw_485 kw_486 kw_6 kw_484 hd_X6_kindGoal ⟨rfl, rfl⟩ ⟨Nat.le_of_ble_eq_true rfl, Nat.le_of_ble_eq_true rfl⟩ 0 rfl rfl rfl hl.1 rfl (Nat.le_of_ble_eq_true rfl) dL_kindGoal_7 ⟨Nat.zero_le _, Nat.zero_le _⟩) hw (fun H locs hw => ?_)
    refine lv_i2l (v := Int32.toInt64 r1) hx hb dL_kindGoal_10 rfl ?_
    obtain ⟨hin, h⟩ := gd_o h
    refine C_st29 hC hw hin dL_kindGoal_11 (fun σ4 eσ4 H locs hw => ?_)
    have h := nm_o h σ4 eσ4
    refine lv_goto (tgt := 23) hx hb dL_kindGoal_12 (by decide) ?_
    refine lv_iconst (v := 0) hx hb dL_kindGoal_23 (by decide) ?_
    cases h
    refine W.widen (k := 1) (n := 6) (Nat.le_of_ble_eq_true rfl) (Nat.le_of_ble_eq_true rfl) ?_
    exact ret_i hC hw dL_kindGoal_24
  · by_cases he0 : e3 = 0
    · have h := if_t h he0
      subst he0
      refine go_x (runx_V (As := [.int a1, .int a2, .int a3]) (rest := [.int (0 : Int32), .ref (q 29)]) hC hw hz (x_X6_kindGoal l hst D q k sa N σ a1 a2 a3 _ _ hc) kw_483 kw_485 kw_486 kw_6 kw_484 hd_X6_kindGoal ⟨rfl, rfl⟩ ⟨Nat.le_of_ble_eq_true rfl, Nat.le_of_ble_eq_true rfl⟩ 0 rfl rfl rfl hl.1 rfl (Nat.le_of_ble_eq_true rfl) dL_kindGoal_7 ⟨Nat.le_of_ble_eq_true rfl, Nat.le_of_ble_eq_true rfl⟩) hw (fun H locs q9 ce hw h1 h2 h3 => ?_)
      refine vx_catch (own := RL) (name := EXn 0) hC.2.2.2.2.1 [] ⟨0, 12, 15, 13⟩ [⟨0, 12, 19, 19⟩] ht (fun z h => nomatch h) (by decide) (by decide) (hw.2.2.2.2.all _ _ kw_459) (hw.2.2.2.2.all _ _ kw_460) h1 h2 h3 ?_
      refine lv_astore (lv' := [(5, .ref q9), (0, .ref (q 0)), (1, .int a1), (2, .int a2), (3, .int a3), (4, .ref (q 29))]) hx hb dL_kindGoal_15 hl (by decide) rfl (fun ls hl => ?_)
      refine lv_iconst (v := 1) hx hb dL_kindGoal_17 (by decide) ?_
      cases h
      refine W.widen (k := 1) (n := 6) (Nat.le_of_ble_eq_true rfl) (Nat.le_of_ble_eq_true rfl) ?_
      exact ret_i hC hw dL_kindGoal_18
    · have h := if_f h he0
      by_cases he1 : e3 = 1
      · have h := if_t h he1
        subst he1
        refine go_x (runx_V (As := [.int a1, .int a2, .int a3]) (rest := [.int (0 : Int32), .ref (q 29)]) hC hw hz (x_X6_kindGoal l hst D q k sa N σ a1 a2 a3 _ _ hc) kw_483 kw_485 kw_486 kw_6 kw_484 hd_X6_kindGoal ⟨rfl, rfl⟩ ⟨Nat.le_of_ble_eq_true rfl, Nat.le_of_ble_eq_true rfl⟩ 0 rfl rfl rfl hl.1 rfl (Nat.le_of_ble_eq_true rfl) dL_kindGoal_7 ⟨Nat.le_of_ble_eq_true rfl, Nat.le_of_ble_eq_true rfl⟩) hw (fun H locs q9 ce hw h1 h2 h3 => ?_)
        refine vx_catch (own := RL) (name := EXn 1) hC.2.2.2.2.1 [⟨0, 12, 15, 13⟩] ⟨0, 12, 19, 19⟩ [] ht (fun z h => by rw [List.mem_singleton] at h; subst h; exact Or.inr ⟨by decide, EXn 0, hw.2.2.2.2.all _ _ kw_459, hz.2.2.2.2.2.2.2⟩) (by decide) (by decide) (hw.2.2.2.2.all _ _ kw_465) (hw.2.2.2.2.all _ _ kw_466) h1 h2 h3 ?_
        refine lv_astore (lv' := [(5, .ref q9), (0, .ref (q 0)), (1, .int a1), (2, .int a2), (3, .int a3), (4, .ref (q 29))]) hx hb dL_kindGoal_19 hl (by decide) rfl (fun ls hl => ?_)
        refine lv_iconst (v := 2) hx hb dL_kindGoal_21 (by decide) ?_
        cases h
        refine W.widen (k := 1) (n := 6) (Nat.le_of_ble_eq_true rfl) (Nat.le_of_ble_eq_true rfl) ?_
        exact ret_i hC hw dL_kindGoal_22
      · have h := if_f h he1
        cases h
/-! SlideBoardsLaw.join(LSlideBoards;II[J)I -/
abbrev rm_L_join : Room := { frames := 9, cells := 1, slots := 6, locals := 138 }
def f_L_join (N : Nat) (σ : St) (a1 : Int32) (a2 : Int32) : Option (Int32 × St) :=
  bc (f_X6_join N σ a1 a2) (fun r1 σ2 => if r1 = 0 then (gd (okx (0 : Int32) 1) (nm (sL σ2 3 (0 : Int32) (0 : Int64)) (fun σ4 => some ((0 : Int32), σ4)))) else (gd (okx (0 : Int32) 1) (nm (sL σ2 3 (0 : Int32) (1 : Int64)) (fun σ5 => some ((0 : Int32), σ5))))) (fun e3 σ2 => if e3 = 0 then (some ((1 : Int32), σ2)) else (none))
set_option maxRecDepth 100000 in
set_option maxHeartbeats 4000000 in
theorem c_L_join (l : Launch) (hst : l.stackTraces = false) (D : va_G) (q : Nat → Nat) (k : cK) (sa : Nat → Nat) (N : Nat) (σ : St) (a1 : Int32) (a2 : Int32) (r : Int32) (σ' : St) (h : f_L_join N σ a1 a2 = some (r, σ')) :
    Met l yL_join [.codeWith yL_join cL_join 5 (some .int) [(0, 17, 20, 13)]] rm_L_join (PX D (CW q k σ) k sa [.ref (q 0), .int a1, .int a2, .ref (q 29)]) (QR D (CW q k σ) (CW q k σ') (some (.int r))) 1 6 (AQ (CW q k σ)) := by
  refine metw_of (by decide) (Nat.le_of_ble_eq_true rfl) ?_
  intro p e s m below meth c hC ht hw hz ls hl
  have hC : Cx p s m meth c cL_join RL 5 (some .int) := hC
  have hl : lv_has ls 5 [(0, .ref (q 0)), (1, .int a1), (2, .int a2), (3, .ref (q 29))] := hl
  have hx := hC.1
  have hb := hC.2.1
  unfold f_L_join at h
  refine lv_aload_n hx hb dL_join_0 rfl (lv_at hl 3 rfl) ?_
  refine lv_iconst (v := 0) hx hb dL_join_1 (by decide) ?_
  refine lv_aload_n hx hb dL_join_2 rfl (lv_at hl 0 rfl) ?_
  refine lv_iload_n hx hb dL_join_3 rfl (lv_at hl 1 rfl) ?_
  refine lv_iload_n hx hb dL_join_4 rfl (lv_at hl 2 rfl) ?_
  rcases bc_o h with ⟨r1, σ2, hc, h⟩ | ⟨e3, σ2, hc, h⟩
  · refine go_i (run_V (As := [.int a1, .int a2]) (rest := [.int (0 : Int32), .ref (q 29)]) hC hw (c_X6_join l D q k N σ a1 a2 r1 σ2 hc) kw_487 kw_489 kw_490 kw_6 kw_488 hd_X6_join ⟨rfl, rfl⟩ ⟨Nat.le_of_ble_eq_true rfl, Nat.le_of_ble_eq_true rfl⟩ 0 rfl rfl rfl hl.1 rfl (Nat.le_of_ble_eq_true rfl) dL_join_5 ⟨Nat.zero_le _, Nat.zero_le _⟩) hw (fun H locs hw => ?_)
    refine lv_if_eq (tgt := 15) hx hb dL_join_8 (by decide) (fun c => ?_) (fun c => ?_)
    · have h := if_t h c
      refine lv_lconst (v := 0) hx hb dL_join_15 (by decide) ?_
      obtain ⟨hin, h⟩ := gd_o h
      refine C_st29 hC hw hin dL_join_16 (fun σ4 eσ4 H locs hw => ?_)
      have h := nm_o h σ4 eσ4
      refine lv_goto (tgt := 24) hx hb dL_join_17 (by decide) ?_
      refine lv_iconst (v := 0) hx hb dL_join_24 (by decide) ?_
      cases h
      refine W.widen (k := 1) (n := 6) (Nat.le_of_ble_eq_true rfl) (Nat.le_of_ble_eq_true rfl) ?_
      exact ret_i hC hw dL_join_25
    · have h := if_f h c
      refine lv_lconst (v := 1) hx hb dL_join_11 (by decide) ?_
      refine lv_goto (tgt := 16) hx hb dL_join_12 (by decide) ?_
      obtain ⟨hin, h⟩ := gd_o h
      refine C_st29 hC hw hin dL_join_16 (fun σ5 eσ5 H locs hw => ?_)
      have h := nm_o h σ5 eσ5
      refine lv_goto (tgt := 24) hx hb dL_join_17 (by decide) ?_
      refine lv_iconst (v := 0) hx hb dL_join_24 (by decide) ?_
      cases h
      refine W.widen (k := 1) (n := 6) (Nat.le_of_ble_eq_true rfl) (Nat.le_of_ble_eq_true rfl) ?_
      exact ret_i hC hw dL_join_25
  · by_cases he0 : e3 = 0
    · have h := if_t h he0
      subst he0
      refine go_x (runx_V (As := [.int a1, .int a2]) (rest := [.int (0 : Int32), .ref (q 29)]) hC hw hz (x_X6_join l hst D q k sa N σ a1 a2 _ _ hc) kw_487 kw_489 kw_490 kw_6 kw_488 hd_X6_join ⟨rfl, rfl⟩ ⟨Nat.le_of_ble_eq_true rfl, Nat.le_of_ble_eq_true rfl⟩ 0 rfl rfl rfl hl.1 rfl (Nat.le_of_ble_eq_true rfl) dL_join_5 ⟨Nat.le_of_ble_eq_true rfl, Nat.le_of_ble_eq_true rfl⟩) hw (fun H locs q9 ce hw h1 h2 h3 => ?_)
      refine vx_catch (own := RL) (name := EXn 0) hC.2.2.2.2.1 [] ⟨0, 17, 20, 13⟩ [] ht (fun z h => nomatch h) (by decide) (by decide) (hw.2.2.2.2.all _ _ kw_459) (hw.2.2.2.2.all _ _ kw_460) h1 h2 h3 ?_
      refine lv_astore (lv' := [(4, .ref q9), (0, .ref (q 0)), (1, .int a1), (2, .int a2), (3, .ref (q 29))]) hx hb dL_join_20 hl (by decide) rfl (fun ls hl => ?_)
      refine lv_iconst (v := 1) hx hb dL_join_22 (by decide) ?_
      cases h
      refine W.widen (k := 1) (n := 6) (Nat.le_of_ble_eq_true rfl) (Nat.le_of_ble_eq_true rfl) ?_
      exact ret_i hC hw dL_join_23
    · have h := if_f h he0
      cases h
/-! SlideBoardsLaw.tile(LSlideBoards;I[J)I -/
abbrev rm_L_tile : Room := { frames := 9, cells := 1, slots := 6, locals := 137 }
def f_L_tile (N : Nat) (σ : St) (a1 : Int32) : Option (Int32 × St) :=
  bc (f_X6_tile N σ a1) (fun r1 σ2 => gd (okx (0 : Int32) 1) (nm (sL σ2 3 (0 : Int32) (Int32.toInt64 r1)) (fun σ4 => some ((0 : Int32), σ4)))) (fun e3 σ2 => if e3 = 0 then (some ((1 : Int32), σ2)) else (none))
set_option maxRecDepth 100000 in
set_option maxHeartbeats 4000000 in
theorem c_L_tile (l : Launch) (hst : l.stackTraces = false) (D : va_G) (q : Nat → Nat) (k : cK) (sa : Nat → Nat) (N : Nat) (σ : St) (a1 : Int32) (r : Int32) (σ' : St) (h : f_L_tile N σ a1 = some (r, σ')) :
    Met l yL_tile [.codeWith yL_tile cL_tile 4 (some .int) [(0, 9, 12, 13)]] rm_L_tile (PX D (CW q k σ) k sa [.ref (q 0), .int a1, .ref (q 29)]) (QR D (CW q k σ) (CW q k σ') (some (.int r))) 1 6 (AQ (CW q k σ)) := by
  refine metw_of (by decide) (Nat.le_of_ble_eq_true rfl) ?_
  intro p e s m below meth c hC ht hw hz ls hl
  have hC : Cx p s m meth c cL_tile RL 4 (some .int) := hC
  have hl : lv_has ls 4 [(0, .ref (q 0)), (1, .int a1), (2, .ref (q 29))] := hl
  have hx := hC.1
  have hb := hC.2.1
  unfold f_L_tile at h
  refine lv_aload_n hx hb dL_tile_0 rfl (lv_at hl 2 rfl) ?_
  refine lv_iconst (v := 0) hx hb dL_tile_1 (by decide) ?_
  refine lv_aload_n hx hb dL_tile_2 rfl (lv_at hl 0 rfl) ?_
  refine lv_iload_n hx hb dL_tile_3 rfl (lv_at hl 1 rfl) ?_
  rcases bc_o h with ⟨r1, σ2, hc, h⟩ | ⟨e3, σ2, hc, h⟩
  · refine go_i (run_V (As := [.int a1]) (rest := [.int (0 : Int32), .ref (q 29)]) hC hw (c_X6_tile l D q k N σ a1 r1 σ2 hc) kw_491 kw_493 kw_494 kw_6 kw_492 hd_X6_tile ⟨rfl, rfl⟩ ⟨Nat.le_of_ble_eq_true rfl, Nat.le_of_ble_eq_true rfl⟩ 0 rfl rfl rfl hl.1 rfl (Nat.le_of_ble_eq_true rfl) dL_tile_4 ⟨Nat.zero_le _, Nat.zero_le _⟩) hw (fun H locs hw => ?_)
    refine lv_i2l (v := Int32.toInt64 r1) hx hb dL_tile_7 rfl ?_
    obtain ⟨hin, h⟩ := gd_o h
    refine C_st29 hC hw hin dL_tile_8 (fun σ4 eσ4 H locs hw => ?_)
    have h := nm_o h σ4 eσ4
    refine lv_goto (tgt := 15) hx hb dL_tile_9 (by decide) ?_
    refine lv_iconst (v := 0) hx hb dL_tile_15 (by decide) ?_
    cases h
    refine W.widen (k := 1) (n := 6) (Nat.le_of_ble_eq_true rfl) (Nat.le_of_ble_eq_true rfl) ?_
    exact ret_i hC hw dL_tile_16
  · by_cases he0 : e3 = 0
    · have h := if_t h he0
      subst he0
      refine go_x (runx_V (As := [.int a1]) (rest := [.int (0 : Int32), .ref (q 29)]) hC hw hz (x_X6_tile l hst D q k sa N σ a1 _ _ hc) kw_491 kw_493 kw_494 kw_6 kw_492 hd_X6_tile ⟨rfl, rfl⟩ ⟨Nat.le_of_ble_eq_true rfl, Nat.le_of_ble_eq_true rfl⟩ 0 rfl rfl rfl hl.1 rfl (Nat.le_of_ble_eq_true rfl) dL_tile_4 ⟨Nat.le_of_ble_eq_true rfl, Nat.le_of_ble_eq_true rfl⟩) hw (fun H locs q9 ce hw h1 h2 h3 => ?_)
      refine vx_catch (own := RL) (name := EXn 0) hC.2.2.2.2.1 [] ⟨0, 9, 12, 13⟩ [] ht (fun z h => nomatch h) (by decide) (by decide) (hw.2.2.2.2.all _ _ kw_459) (hw.2.2.2.2.all _ _ kw_460) h1 h2 h3 ?_
      refine lv_astore_n (lv' := [(3, .ref q9), (0, .ref (q 0)), (1, .int a1), (2, .ref (q 29))]) hx hb dL_tile_12 rfl hl (by decide) rfl (fun ls hl => ?_)
      refine lv_iconst (v := 1) hx hb dL_tile_13 (by decide) ?_
      cases h
      refine W.widen (k := 1) (n := 6) (Nat.le_of_ble_eq_true rfl) (Nat.le_of_ble_eq_true rfl) ?_
      exact ret_i hC hw dL_tile_14
    · have h := if_f h he0
      cases h
/-! SlideBoardsLaw.shift(LSlideBoards;I[J)I -/
abbrev rm_L_shift : Room := { frames := 9, cells := 1, slots := 6, locals := 137 }
def f_L_shift (N : Nat) (σ : St) (a1 : Int32) : Option (Int32 × St) :=
  bc (f_X6_shift N σ a1) (fun r1 σ2 => if r1 = 0 then (gd (okx (0 : Int32) 1) (nm (sL σ2 3 (0 : Int32) (0 : Int64)) (fun σ4 => some ((0 : Int32), σ4)))) else (gd (okx (0 : Int32) 1) (nm (sL σ2 3 (0 : Int32) (1 : Int64)) (fun σ5 => some ((0 : Int32), σ5))))) (fun e3 σ2 => if e3 = 0 then (some ((1 : Int32), σ2)) else (none))
set_option maxRecDepth 100000 in
set_option maxHeartbeats 4000000 in
theorem c_L_shift (l : Launch) (hst : l.stackTraces = false) (D : va_G) (q : Nat → Nat) (k : cK) (sa : Nat → Nat) (N : Nat) (σ : St) (a1 : Int32) (r : Int32) (σ' : St) (h : f_L_shift N σ a1 = some (r, σ')) :
    Met l yL_shift [.codeWith yL_shift cL_shift 4 (some .int) [(0, 16, 19, 13)]] rm_L_shift (PX D (CW q k σ) k sa [.ref (q 0), .int a1, .ref (q 29)]) (QR D (CW q k σ) (CW q k σ') (some (.int r))) 1 6 (AQ (CW q k σ)) := by
  refine metw_of (by decide) (Nat.le_of_ble_eq_true rfl) ?_
  intro p e s m below meth c hC ht hw hz ls hl
  have hC : Cx p s m meth c cL_shift RL 4 (some .int) := hC
  have hl : lv_has ls 4 [(0, .ref (q 0)), (1, .int a1), (2, .ref (q 29))] := hl
  have hx := hC.1
  have hb := hC.2.1
  unfold f_L_shift at h
  refine lv_aload_n hx hb dL_shift_0 rfl (lv_at hl 2 rfl) ?_
  refine lv_iconst (v := 0) hx hb dL_shift_1 (by decide) ?_
  refine lv_aload_n hx hb dL_shift_2 rfl (lv_at hl 0 rfl) ?_
  refine lv_iload_n hx hb dL_shift_3 rfl (lv_at hl 1 rfl) ?_
  rcases bc_o h with ⟨r1, σ2, hc, h⟩ | ⟨e3, σ2, hc, h⟩
  · refine go_i (run_V (As := [.int a1]) (rest := [.int (0 : Int32), .ref (q 29)]) hC hw (c_X6_shift l D q k N σ a1 r1 σ2 hc) kw_495 kw_497 kw_498 kw_6 kw_496 hd_X6_shift ⟨rfl, rfl⟩ ⟨Nat.le_of_ble_eq_true rfl, Nat.le_of_ble_eq_true rfl⟩ 0 rfl rfl rfl hl.1 rfl (Nat.le_of_ble_eq_true rfl) dL_shift_4 ⟨Nat.zero_le _, Nat.zero_le _⟩) hw (fun H locs hw => ?_)
    refine lv_if_eq (tgt := 14) hx hb dL_shift_7 (by decide) (fun c => ?_) (fun c => ?_)
    · have h := if_t h c
      refine lv_lconst (v := 0) hx hb dL_shift_14 (by decide) ?_
      obtain ⟨hin, h⟩ := gd_o h
      refine C_st29 hC hw hin dL_shift_15 (fun σ4 eσ4 H locs hw => ?_)
      have h := nm_o h σ4 eσ4
      refine lv_goto (tgt := 22) hx hb dL_shift_16 (by decide) ?_
      refine lv_iconst (v := 0) hx hb dL_shift_22 (by decide) ?_
      cases h
      refine W.widen (k := 1) (n := 6) (Nat.le_of_ble_eq_true rfl) (Nat.le_of_ble_eq_true rfl) ?_
      exact ret_i hC hw dL_shift_23
    · have h := if_f h c
      refine lv_lconst (v := 1) hx hb dL_shift_10 (by decide) ?_
      refine lv_goto (tgt := 15) hx hb dL_shift_11 (by decide) ?_
      obtain ⟨hin, h⟩ := gd_o h
      refine C_st29 hC hw hin dL_shift_15 (fun σ5 eσ5 H locs hw => ?_)
      have h := nm_o h σ5 eσ5
      refine lv_goto (tgt := 22) hx hb dL_shift_16 (by decide) ?_
      refine lv_iconst (v := 0) hx hb dL_shift_22 (by decide) ?_
      cases h
      refine W.widen (k := 1) (n := 6) (Nat.le_of_ble_eq_true rfl) (Nat.le_of_ble_eq_true rfl) ?_
      exact ret_i hC hw dL_shift_23
  · by_cases he0 : e3 = 0
    · have h := if_t h he0
      subst he0
      refine go_x (runx_V (As := [.int a1]) (rest := [.int (0 : Int32), .ref (q 29)]) hC hw hz (x_X6_shift l hst D q k sa N σ a1 _ _ hc) kw_495 kw_497 kw_498 kw_6 kw_496 hd_X6_shift ⟨rfl, rfl⟩ ⟨Nat.le_of_ble_eq_true rfl, Nat.le_of_ble_eq_true rfl⟩ 0 rfl rfl rfl hl.1 rfl (Nat.le_of_ble_eq_true rfl) dL_shift_4 ⟨Nat.le_of_ble_eq_true rfl, Nat.le_of_ble_eq_true rfl⟩) hw (fun H locs q9 ce hw h1 h2 h3 => ?_)
      refine vx_catch (own := RL) (name := EXn 0) hC.2.2.2.2.1 [] ⟨0, 16, 19, 13⟩ [] ht (fun z h => nomatch h) (by decide) (by decide) (hw.2.2.2.2.all _ _ kw_459) (hw.2.2.2.2.all _ _ kw_460) h1 h2 h3 ?_
      refine lv_astore_n (lv' := [(3, .ref q9), (0, .ref (q 0)), (1, .int a1), (2, .ref (q 29))]) hx hb dL_shift_19 rfl hl (by decide) rfl (fun ls hl => ?_)
      refine lv_iconst (v := 1) hx hb dL_shift_20 (by decide) ?_
      cases h
      refine W.widen (k := 1) (n := 6) (Nat.le_of_ble_eq_true rfl) (Nat.le_of_ble_eq_true rfl) ?_
      exact ret_i hC hw dL_shift_21
    · have h := if_f h he0
      cases h
/-! SlideBoardsLaw.swap(LSlideBoards;II[J)I -/
abbrev rm_L_swap : Room := { frames := 9, cells := 1, slots := 6, locals := 138 }
def f_L_swap (N : Nat) (σ : St) (a1 : Int32) (a2 : Int32) : Option (Int32 × St) :=
  bc (f_X6_swap N σ a1 a2) (fun r1 σ2 => if r1 = 0 then (gd (okx (0 : Int32) 1) (nm (sL σ2 3 (0 : Int32) (0 : Int64)) (fun σ4 => some ((0 : Int32), σ4)))) else (gd (okx (0 : Int32) 1) (nm (sL σ2 3 (0 : Int32) (1 : Int64)) (fun σ5 => some ((0 : Int32), σ5))))) (fun e3 σ2 => if e3 = 0 then (some ((1 : Int32), σ2)) else (none))
set_option maxRecDepth 100000 in
set_option maxHeartbeats 4000000 in
theorem c_L_swap (l : Launch) (hst : l.stackTraces = false) (D : va_G) (q : Nat → Nat) (k : cK) (sa : Nat → Nat) (N : Nat) (σ : St) (a1 : Int32) (a2 : Int32) (r : Int32) (σ' : St) (h : f_L_swap N σ a1 a2 = some (r, σ')) :
    Met l yL_swap [.codeWith yL_swap cL_swap 5 (some .int) [(0, 17, 20, 13)]] rm_L_swap (PX D (CW q k σ) k sa [.ref (q 0), .int a1, .int a2, .ref (q 29)]) (QR D (CW q k σ) (CW q k σ') (some (.int r))) 1 6 (AQ (CW q k σ)) := by
  refine metw_of (by decide) (Nat.le_of_ble_eq_true rfl) ?_
  intro p e s m below meth c hC ht hw hz ls hl
  have hC : Cx p s m meth c cL_swap RL 5 (some .int) := hC
  have hl : lv_has ls 5 [(0, .ref (q 0)), (1, .int a1), (2, .int a2), (3, .ref (q 29))] := hl
  have hx := hC.1
  have hb := hC.2.1
  unfold f_L_swap at h
  refine lv_aload_n hx hb dL_swap_0 rfl (lv_at hl 3 rfl) ?_
  refine lv_iconst (v := 0) hx hb dL_swap_1 (by decide) ?_
  refine lv_aload_n hx hb dL_swap_2 rfl (lv_at hl 0 rfl) ?_
  refine lv_iload_n hx hb dL_swap_3 rfl (lv_at hl 1 rfl) ?_
  refine lv_iload_n hx hb dL_swap_4 rfl (lv_at hl 2 rfl) ?_
  rcases bc_o h with ⟨r1, σ2, hc, h⟩ | ⟨e3, σ2, hc, h⟩
  · refine go_i (run_V (As := [.int a1, .int a2]) (rest := [.int (0 : Int32), .ref (q 29)]) hC hw (c_X6_swap l D q k N σ a1 a2 r1 σ2 hc) kw_499 kw_501 kw_502 kw_6 kw_500 hd_X6_swap ⟨rfl, rfl⟩ ⟨Nat.le_of_ble_eq_true rfl, Nat.le_of_ble_eq_true rfl⟩ 0 rfl rfl rfl hl.1 rfl (Nat.le_of_ble_eq_true rfl) dL_swap_5 ⟨Nat.zero_le _, Nat.zero_le _⟩) hw (fun H locs hw => ?_)
    refine lv_if_eq (tgt := 15) hx hb dL_swap_8 (by decide) (fun c => ?_) (fun c => ?_)
    · have h := if_t h c
      refine lv_lconst (v := 0) hx hb dL_swap_15 (by decide) ?_
      obtain ⟨hin, h⟩ := gd_o h
      refine C_st29 hC hw hin dL_swap_16 (fun σ4 eσ4 H locs hw => ?_)
      have h := nm_o h σ4 eσ4
      refine lv_goto (tgt := 24) hx hb dL_swap_17 (by decide) ?_
      refine lv_iconst (v := 0) hx hb dL_swap_24 (by decide) ?_
      cases h
      refine W.widen (k := 1) (n := 6) (Nat.le_of_ble_eq_true rfl) (Nat.le_of_ble_eq_true rfl) ?_
      exact ret_i hC hw dL_swap_25
    · have h := if_f h c
      refine lv_lconst (v := 1) hx hb dL_swap_11 (by decide) ?_
      refine lv_goto (tgt := 16) hx hb dL_swap_12 (by decide) ?_
      obtain ⟨hin, h⟩ := gd_o h
      refine C_st29 hC hw hin dL_swap_16 (fun σ5 eσ5 H locs hw => ?_)
      have h := nm_o h σ5 eσ5
      refine lv_goto (tgt := 24) hx hb dL_swap_17 (by decide) ?_
      refine lv_iconst (v := 0) hx hb dL_swap_24 (by decide) ?_
      cases h
      refine W.widen (k := 1) (n := 6) (Nat.le_of_ble_eq_true rfl) (Nat.le_of_ble_eq_true rfl) ?_
      exact ret_i hC hw dL_swap_25
  · by_cases he0 : e3 = 0
    · have h := if_t h he0
      subst he0
      refine go_x (runx_V (As := [.int a1, .int a2]) (rest := [.int (0 : Int32), .ref (q 29)]) hC hw hz (x_X6_swap l hst D q k sa N σ a1 a2 _ _ hc) kw_499 kw_501 kw_502 kw_6 kw_500 hd_X6_swap ⟨rfl, rfl⟩ ⟨Nat.le_of_ble_eq_true rfl, Nat.le_of_ble_eq_true rfl⟩ 0 rfl rfl rfl hl.1 rfl (Nat.le_of_ble_eq_true rfl) dL_swap_5 ⟨Nat.le_of_ble_eq_true rfl, Nat.le_of_ble_eq_true rfl⟩) hw (fun H locs q9 ce hw h1 h2 h3 => ?_)
      refine vx_catch (own := RL) (name := EXn 0) hC.2.2.2.2.1 [] ⟨0, 17, 20, 13⟩ [] ht (fun z h => nomatch h) (by decide) (by decide) (hw.2.2.2.2.all _ _ kw_459) (hw.2.2.2.2.all _ _ kw_460) h1 h2 h3 ?_
      refine lv_astore (lv' := [(4, .ref q9), (0, .ref (q 0)), (1, .int a1), (2, .int a2), (3, .ref (q 29))]) hx hb dL_swap_20 hl (by decide) rfl (fun ls hl => ?_)
      refine lv_iconst (v := 1) hx hb dL_swap_22 (by decide) ?_
      cases h
      refine W.widen (k := 1) (n := 6) (Nat.le_of_ble_eq_true rfl) (Nat.le_of_ble_eq_true rfl) ?_
      exact ret_i hC hw dL_swap_23
    · have h := if_f h he0
      cases h

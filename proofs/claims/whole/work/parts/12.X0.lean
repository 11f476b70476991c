/-! SlideBoards$Board.hasCell(II)Z -/
abbrev rm_X0_hasCell : Room := { frames := 0, cells := 0, slots := 0, locals := 0 }
def f_X0_hasCell (N : Nat) (σ : St) (a0 : Int32) (a1 : Int32) : Option Int32 :=
  if a0 < 0 then (some (0 : Int32)) else (if (σ.1 0) ≤ a0 then (some (0 : Int32)) else (if a1 < 0 then (some (0 : Int32)) else (if (σ.1 1) ≤ a1 then (some (0 : Int32)) else (some (1 : Int32)))))
set_option maxRecDepth 100000 in
set_option maxHeartbeats 4000000 in
theorem c_X0_hasCell (l : Launch) (D : va_G) (q : Nat → Nat) (k : cK) (N : Nat) (σ : St) (a0 : Int32) (a1 : Int32) (r : Int32) (h : f_X0_hasCell N σ a0 a1 = some r) :
    Met l yX0_hasCell [.code yX0_hasCell cX0_hasCell 3 (some .boolean)] rm_X0_hasCell (PC D (CW q k σ) k [.ref (q 1), .int a0, .int a1]) (QR D (CW q k σ) (CW q k σ) (some (.int r))) 0 0 (AQ (CW q k σ)) := by
  refine met_of (by decide) (Nat.le_of_ble_eq_true rfl) ?_
  intro p e s m below meth c hC hw ls hl
  have hC : Cx p s m meth c cX0_hasCell RX0 3 (some .boolean) := hC
  have hl : lv_has ls 3 [(0, .ref (q 1)), (1, .int a0), (2, .int a1)] := hl
  have hx := hC.1
  have hb := hC.2.1
  unfold f_X0_hasCell at h
  refine lv_iload_n hx hb dX0_hasCell_0 rfl (lv_at hl 1 rfl) ?_
  refine lv_if_lt (tgt := 28) hx hb dX0_hasCell_1 (by decide) (fun c => ?_) (fun c => ?_)
  · have h := if_t h c
    refine lv_iconst (v := 0) hx hb dX0_hasCell_28 (by decide) ?_
    cases h
    exact ret_z hC (Or.inl rfl) hw dX0_hasCell_29
  · have h := if_f h c
    refine lv_iload_n hx hb dX0_hasCell_4 rfl (lv_at hl 1 rfl) ?_
    refine lv_aload_n hx hb dX0_hasCell_5 rfl (lv_at hl 0 rfl) ?_
    refine C_g_X0_18 hC hw dX0_hasCell_6 ?_
    refine lv_icmp_ge (tgt := 28) hx hb dX0_hasCell_9 (by decide) (fun c => ?_) (fun c => ?_)
    · have h := if_t h c
      refine lv_iconst (v := 0) hx hb dX0_hasCell_28 (by decide) ?_
      cases h
      exact ret_z hC (Or.inl rfl) hw dX0_hasCell_29
    · have h := if_f h c
      refine lv_iload_n hx hb dX0_hasCell_12 rfl (lv_at hl 2 rfl) ?_
      refine lv_if_lt (tgt := 28) hx hb dX0_hasCell_13 (by decide) (fun c => ?_) (fun c => ?_)
      · have h := if_t h c
        refine lv_iconst (v := 0) hx hb dX0_hasCell_28 (by decide) ?_
        cases h
        exact ret_z hC (Or.inl rfl) hw dX0_hasCell_29
      · have h := if_f h c
        refine lv_iload_n hx hb dX0_hasCell_16 rfl (lv_at hl 2 rfl) ?_
        refine lv_aload_n hx hb dX0_hasCell_17 rfl (lv_at hl 0 rfl) ?_
        refine C_g_X0_22 hC hw dX0_hasCell_18 ?_
        refine lv_icmp_ge (tgt := 28) hx hb dX0_hasCell_21 (by decide) (fun c => ?_) (fun c => ?_)
        · have h := if_t h c
          refine lv_iconst (v := 0) hx hb dX0_hasCell_28 (by decide) ?_
          cases h
          exact ret_z hC (Or.inl rfl) hw dX0_hasCell_29
        · have h := if_f h c
          refine lv_iconst (v := 1) hx hb dX0_hasCell_24 (by decide) ?_
          refine lv_goto (tgt := 29) hx hb dX0_hasCell_25 (by decide) ?_
          cases h
          exact ret_z hC (Or.inr rfl) hw dX0_hasCell_29
/-! SlideBoards$Board.cellOf(II)I -/
abbrev rm_X0_cellOf : Room := { frames := 0, cells := 0, slots := 0, locals := 0 }
def f_X0_cellOf (N : Nat) (σ : St) (a0 : Int32) (a1 : Int32) : Option Int32 :=
  some (((σ.1 0) * a1) + a0)
set_option maxRecDepth 100000 in
set_option maxHeartbeats 4000000 in
theorem c_X0_cellOf (l : Launch) (D : va_G) (q : Nat → Nat) (k : cK) (N : Nat) (σ : St) (a0 : Int32) (a1 : Int32) (r : Int32) (h : f_X0_cellOf N σ a0 a1 = some r) :
    Met l yX0_cellOf [.code yX0_cellOf cX0_cellOf 3 (some .int)] rm_X0_cellOf (PC D (CW q k σ) k [.ref (q 1), .int a0, .int a1]) (QR D (CW q k σ) (CW q k σ) (some (.int r))) 0 0 (AQ (CW q k σ)) := by
  refine met_of (by decide) (Nat.le_of_ble_eq_true rfl) ?_
  intro p e s m below meth c hC hw ls hl
  have hC : Cx p s m meth c cX0_cellOf RX0 3 (some .int) := hC
  have hl : lv_has ls 3 [(0, .ref (q 1)), (1, .int a0), (2, .int a1)] := hl
  have hx := hC.1
  have hb := hC.2.1
  unfold f_X0_cellOf at h
  refine lv_aload_n hx hb dX0_cellOf_0 rfl (lv_at hl 0 rfl) ?_
  refine C_g_X0_18 hC hw dX0_cellOf_1 ?_
  refine lv_iload_n hx hb dX0_cellOf_4 rfl (lv_at hl 2 rfl) ?_
  refine lv_imul hx hb dX0_cellOf_5 ?_
  refine lv_iload_n hx hb dX0_cellOf_6 rfl (lv_at hl 1 rfl) ?_
  refine lv_iadd hx hb dX0_cellOf_7 ?_
  cases h
  exact ret_i hC hw dX0_cellOf_8
/-! SlideBoards$Board.bitOf(II)I -/
abbrev rm_X0_bitOf : Room := { frames := 1, cells := 0, slots := 0, locals := 22 }
def f_X0_bitOf (N : Nat) (σ : St) (a0 : Int32) (a1 : Int32) : Option Int32 :=
  bd1 (f_X0_cellOf N σ a0 a1) (fun r1 => some (jshl (1 : Int32) r1))
set_option maxRecDepth 100000 in
set_option maxHeartbeats 4000000 in
theorem c_X0_bitOf (l : Launch) (D : va_G) (q : Nat → Nat) (k : cK) (N : Nat) (σ : St) (a0 : Int32) (a1 : Int32) (r : Int32) (h : f_X0_bitOf N σ a0 a1 = some r) :
    Met l yX0_bitOf [.code yX0_bitOf cX0_bitOf 3 (some .int)] rm_X0_bitOf (PC D (CW q k σ) k [.ref (q 1), .int a0, .int a1]) (QR D (CW q k σ) (CW q k σ) (some (.int r))) 0 0 (AQ (CW q k σ)) := by
  refine met_of (by decide) (Nat.le_of_ble_eq_true rfl) ?_
  intro p e s m below meth c hC hw ls hl
  have hC : Cx p s m meth c cX0_bitOf RX0 3 (some .int) := hC
  have hl : lv_has ls 3 [(0, .ref (q 1)), (1, .int a0), (2, .int a1)] := hl
  have hx := hC.1
  have hb := hC.2.1
  unfold f_X0_bitOf at h
  refine lv_iconst (v := 1) hx hb dX0_bitOf_0 (by decide) ?_
  refine lv_aload_n hx hb dX0_bitOf_1 rfl (lv_at hl 0 rfl) ?_
  refine lv_iload_n hx hb dX0_bitOf_2 rfl (lv_at hl 1 rfl) ?_
  refine lv_iload_n hx hb dX0_bitOf_3 rfl (lv_at hl 2 rfl) ?_
  obtain ⟨r1, hc, h⟩ := bd1_o h
  refine go_i (run_V (As := [.int a0, .int a1]) (rest := [.int (1 : Int32)]) hC hw (c_X0_cellOf l D q k N σ a0 a1 r1 hc) kw_10 kw_12 kw_13 kw_1 kw_11 hd_X0_cellOf ⟨rfl, rfl⟩ ⟨Nat.le_of_ble_eq_true rfl, Nat.le_of_ble_eq_true rfl⟩ 1 rfl rfl rfl hl.1 rfl (Nat.le_of_ble_eq_true rfl) dX0_bitOf_4 ⟨Nat.zero_le _, Nat.zero_le _⟩) hw (fun H locs hw => ?_)
  refine lv_ishl hx hb dX0_bitOf_7 ?_
  cases h
  exact ret_i hC hw dX0_bitOf_8
/-! SlideBoards$Board.filled()I -/
abbrev rm_X0_filled : Room := { frames := 0, cells := 0, slots := 0, locals := 0 }
def lp_X0_filled_7 (N : Nat) (σ : St) : Nat → Int32 → Int32 → Option Int32
  | 0, _, _ => none
  | n + 1, x1, x2 => if (σ.1 6) ≤ x2 then (some x1) else (gd (okx x2 8) (nm (x1 ||| (ra σ 1 x2)) (fun y2 => nm (x2 + (1 : Int32)) (fun y3 => lp_X0_filled_7 N σ n y2 y3))))
set_option maxRecDepth 100000 in
set_option maxHeartbeats 4000000 in
theorem w_X0_filled_7 {p : Program} {l : Launch} {e : Env} {s : State} {m : MethodId} {below : List Frame} {meth : Method} {c : Code} {args : Array Value} {D : va_G} {q : Nat → Nat} {k : cK} {ws0 : va_W} (hC : Cx p s m meth c cX0_filled RX0 3 (some .int)) (N : Nat) (σ : St) (r : Int32) :
    ∀ (n : Nat) (x1 : Int32) (x2 : Int32) (H : Heap) (locs : List Loc) (ls : Array Slot), lp_X0_filled_7 N σ n x1 x2 = some r → WH D (CW q k σ) k (AQ ws0) s s.heap H locs → lv_has ls 3 [(0, .ref (q 1)), (1, .int x1), (2, .int x2)] → W p l e rm_X0_filled s m args below meth c H locs 0 0 (MQ below (QR D ws0 (CW q k σ) (some (.int r))) args s 0 0 (AQ ws0)) (F0 m 7 ls []) := by
  have hx := hC.1
  have hb := hC.2.1
  intro n
  induction n with
  | zero =>
    intro x1 x2 H locs ls h
    cases h
  | succ n ih =>
    intro x1 x2 H locs ls h hw hl
    rw [lp_X0_filled_7] at h
    refine lv_iload_n hx hb dX0_filled_7 rfl (lv_at hl 2 rfl) ?_
    refine lv_aload_n hx hb dX0_filled_8 rfl (lv_at hl 0 rfl) ?_
    refine C_g_X0_50 hC hw dX0_filled_9 ?_
    refine lv_icmp_ge (tgt := 30) hx hb dX0_filled_12 (by decide) (fun c => ?_) (fun c => ?_)
    · have h := if_t h c
      refine lv_iload_n hx hb dX0_filled_30 rfl (lv_at hl 1 rfl) ?_
      cases h
      exact ret_i hC hw dX0_filled_31
    · have h := if_f h c
      refine lv_iload_n hx hb dX0_filled_15 rfl (lv_at hl 1 rfl) ?_
      refine lv_aload_n hx hb dX0_filled_16 rfl (lv_at hl 0 rfl) ?_
      refine C_g_X0_15 hC hw dX0_filled_17 ?_
      refine lv_iload_n hx hb dX0_filled_20 rfl (lv_at hl 2 rfl) ?_
      obtain ⟨hin, h⟩ := gd_o h
      refine C_ld3 hC hw hin dX0_filled_21 ?_
      refine lv_ior hx hb dX0_filled_22 ?_
      refine lv_topi (fun y2 ey2 => ?_)
      have h := nm_o h y2 ey2
      refine lv_istore_n (lv' := [(1, .int y2), (0, .ref (q 1)), (2, .int x2)]) hx hb dX0_filled_23 rfl hl (by decide) rfl (fun ls hl => ?_)
      obtain ⟨y3, ey3⟩ : ∃ y : Int32, y = x2 + (1 : Int32) := ⟨_, rfl⟩
      have h := nm_o h y3 ey3
      refine lv_iinc (v := y3) (lv' := [(2, .int y3), (1, .int y2), (0, .ref (q 1))]) hx hb dX0_filled_24 hl (k := 2) rfl (by rw [ey3]; rfl) (by decide) rfl (fun ls hl => ?_)
      refine lv_goto (tgt := 7) hx hb dX0_filled_27 (by decide) ?_
      exact ih y2 y3 _ _ ls h hw (lv_sub hl [2, 1, 0] rfl)
def f_X0_filled (N : Nat) (σ : St) : Option Int32 :=
  nm (σ.1 7) (fun y1 => lp_X0_filled_7 N σ N y1 (0 : Int32))
set_option maxRecDepth 100000 in
set_option maxHeartbeats 4000000 in
theorem c_X0_filled (l : Launch) (D : va_G) (q : Nat → Nat) (k : cK) (N : Nat) (σ : St) (r : Int32) (h : f_X0_filled N σ = some r) :
    Met l yX0_filled [.code yX0_filled cX0_filled 3 (some .int)] rm_X0_filled (PC D (CW q k σ) k [.ref (q 1)]) (QR D (CW q k σ) (CW q k σ) (some (.int r))) 0 0 (AQ (CW q k σ)) := by
  refine met_of (by decide) (Nat.le_of_ble_eq_true rfl) ?_
  intro p e s m below meth c hC hw ls hl
  have hC : Cx p s m meth c cX0_filled RX0 3 (some .int) := hC
  have hl : lv_has ls 3 [(0, .ref (q 1))] := hl
  have hx := hC.1
  have hb := hC.2.1
  unfold f_X0_filled at h
  refine lv_aload_n hx hb dX0_filled_0 rfl (lv_at hl 0 rfl) ?_
  refine C_g_X0_47 hC hw dX0_filled_1 ?_
  refine lv_topi (fun y1 ey1 => ?_)
  have h := nm_o h y1 ey1
  refine lv_istore_n (lv' := [(1, .int y1), (0, .ref (q 1))]) hx hb dX0_filled_4 rfl hl (by decide) rfl (fun ls hl => ?_)
  refine lv_iconst (v := 0) hx hb dX0_filled_5 (by decide) ?_
  refine lv_istore_n (lv' := [(2, .int (0 : Int32)), (1, .int y1), (0, .ref (q 1))]) hx hb dX0_filled_6 rfl hl (by decide) rfl (fun ls hl => ?_)
  exact w_X0_filled_7 hC N σ r N y1 (0 : Int32) _ _ ls h hw (lv_sub hl [2, 1, 0] rfl)
/-! SlideBoards$Board.setWall(IZ)Z -/
abbrev rm_X0_setWall : Room := { frames := 1, cells := 0, slots := 0, locals := 22 }
def jn_X0_setWall_14 (N : Nat) (σ : St) (x1 : Int32) (x2 : Int32) (w0 : Int32) : Option (Int32 × St) :=
  if ((σ.1 7) &&& x1) = 0 then (if x2 = 0 then (if (0 : Int32) = 0 then (some ((0 : Int32), σ)) else (nm (sI σ 7 ((σ.1 7) ^^^ x1)) (fun σ2 => some ((1 : Int32), σ2)))) else (if w0 = 0 then (some ((0 : Int32), σ)) else (nm (sI σ 7 ((σ.1 7) ^^^ x1)) (fun σ3 => some ((1 : Int32), σ3))))) else (if x2 = 0 then (if (1 : Int32) = 0 then (some ((0 : Int32), σ)) else (nm (sI σ 7 ((σ.1 7) ^^^ x1)) (fun σ4 => some ((1 : Int32), σ4)))) else (if w0 = 0 then (some ((0 : Int32), σ)) else (nm (sI σ 7 ((σ.1 7) ^^^ x1)) (fun σ5 => some ((1 : Int32), σ5)))))
set_option maxRecDepth 100000 in
set_option maxHeartbeats 4000000 in
theorem w_X0_setWall_14 {p : Program} {l : Launch} {e : Env} {s : State} {m : MethodId} {below : List Frame} {meth : Method} {c : Code} {args : Array Value} {D : va_G} {q : Nat → Nat} {k : cK} {ws0 : va_W} (hC : Cx p s m meth c cX0_setWall RX0 5 (some .boolean)) (N : Nat) (σ : St) (x1 : Int32) (x2 : Int32) (w0 : Int32) (r : Int32) (σ' : St) :
    ∀ (H : Heap) (locs : List Loc) (ls : Array Slot), jn_X0_setWall_14 N σ x1 x2 w0 = some (r, σ') → WH D (CW q k σ) k (AQ ws0) s s.heap H locs → lv_has ls 5 [(0, .ref (q 1)), (1, .int x1), (2, .int x2)] → W p l e rm_X0_setWall s m args below meth c H locs 0 0 (MQ below (QR D ws0 (CW q k σ') (some (.int r))) args s 0 0 (AQ ws0)) (F0 m 14 ls [.int w0]) := by
  have hx := hC.1
  have hb := hC.2.1
  intro H locs ls h hw hl
  unfold jn_X0_setWall_14 at h
  refine lv_istore_n (lv' := [(3, .int w0), (0, .ref (q 1)), (1, .int x1), (2, .int x2)]) hx hb dX0_setWall_14 rfl hl (by decide) rfl (fun ls hl => ?_)
  refine lv_aload_n hx hb dX0_setWall_15 rfl (lv_at hl 1 rfl) ?_
  refine C_g_X0_47 hC hw dX0_setWall_16 ?_
  refine lv_iload_n hx hb dX0_setWall_19 rfl (lv_at hl 2 rfl) ?_
  refine lv_iand hx hb dX0_setWall_20 ?_
  refine lv_if_eq (tgt := 28) hx hb dX0_setWall_21 (by decide) (fun c => ?_) (fun c => ?_)
  · have h := if_t h c
    refine lv_iconst (v := 0) hx hb dX0_setWall_28 (by decide) ?_
    refine lv_istore (lv' := [(4, .int (0 : Int32)), (3, .int w0), (0, .ref (q 1)), (1, .int x1), (2, .int x2)]) hx hb dX0_setWall_29 hl (by decide) rfl (fun ls hl => ?_)
    refine lv_iload_n hx hb dX0_setWall_31 rfl (lv_at hl 4 rfl) ?_
    refine lv_if_eq (tgt := 42) hx hb dX0_setWall_32 (by decide) (fun c => ?_) (fun c => ?_)
    · have h := if_t h c
      refine lv_iload hx hb dX0_setWall_42 (lv_at hl 0 rfl) ?_
      refine lv_if_ne (tgt := 49) hx hb dX0_setWall_44 (by decide) (fun c => ?_) (fun c => ?_)
      · have h := if_f h c
        refine lv_aload_n hx hb dX0_setWall_49 rfl (lv_at hl 2 rfl) ?_
        refine lv_dup hx hb dX0_setWall_50 rfl ?_
        refine C_g_X0_47 hC hw dX0_setWall_51 ?_
        refine lv_iload_n hx hb dX0_setWall_54 rfl (lv_at hl 3 rfl) ?_
        refine lv_ixor hx hb dX0_setWall_55 ?_
        refine C_p_X0_47 hC hw dX0_setWall_56 (fun σ2 eσ2 H locs hw => ?_)
        have h := nm_o h σ2 eσ2
        refine lv_iconst (v := 1) hx hb dX0_setWall_59 (by decide) ?_
        cases h
        exact ret_z hC (Or.inr rfl) hw dX0_setWall_60
      · have h := if_t h c
        refine lv_iconst (v := 0) hx hb dX0_setWall_47 (by decide) ?_
        cases h
        exact ret_z hC (Or.inl rfl) hw dX0_setWall_48
    · have h := if_f h c
      refine lv_iload_n hx hb dX0_setWall_35 rfl (lv_at hl 1 rfl) ?_
      refine lv_if_ne (tgt := 49) hx hb dX0_setWall_36 (by decide) (fun c => ?_) (fun c => ?_)
      · have h := if_f h c
        refine lv_aload_n hx hb dX0_setWall_49 rfl (lv_at hl 2 rfl) ?_
        refine lv_dup hx hb dX0_setWall_50 rfl ?_
        refine C_g_X0_47 hC hw dX0_setWall_51 ?_
        refine lv_iload_n hx hb dX0_setWall_54 rfl (lv_at hl 3 rfl) ?_
        refine lv_ixor hx hb dX0_setWall_55 ?_
        refine C_p_X0_47 hC hw dX0_setWall_56 (fun σ3 eσ3 H locs hw => ?_)
        have h := nm_o h σ3 eσ3
        refine lv_iconst (v := 1) hx hb dX0_setWall_59 (by decide) ?_
        cases h
        exact ret_z hC (Or.inr rfl) hw dX0_setWall_60
      · have h := if_t h c
        refine lv_goto (tgt := 47) hx hb dX0_setWall_39 (by decide) ?_
        refine lv_iconst (v := 0) hx hb dX0_setWall_47 (by decide) ?_
        cases h
        exact ret_z hC (Or.inl rfl) hw dX0_setWall_48
  · have h := if_f h c
    refine lv_iconst (v := 1) hx hb dX0_setWall_24 (by decide) ?_
    refine lv_goto (tgt := 29) hx hb dX0_setWall_25 (by decide) ?_
    refine lv_istore (lv' := [(4, .int (1 : Int32)), (3, .int w0), (0, .ref (q 1)), (1, .int x1), (2, .int x2)]) hx hb dX0_setWall_29 hl (by decide) rfl (fun ls hl => ?_)
    refine lv_iload_n hx hb dX0_setWall_31 rfl (lv_at hl 4 rfl) ?_
    refine lv_if_eq (tgt := 42) hx hb dX0_setWall_32 (by decide) (fun c => ?_) (fun c => ?_)
    · have h := if_t h c
      refine lv_iload hx hb dX0_setWall_42 (lv_at hl 0 rfl) ?_
      refine lv_if_ne (tgt := 49) hx hb dX0_setWall_44 (by decide) (fun c => ?_) (fun c => ?_)
      · have h := if_f h c
        refine lv_aload_n hx hb dX0_setWall_49 rfl (lv_at hl 2 rfl) ?_
        refine lv_dup hx hb dX0_setWall_50 rfl ?_
        refine C_g_X0_47 hC hw dX0_setWall_51 ?_
        refine lv_iload_n hx hb dX0_setWall_54 rfl (lv_at hl 3 rfl) ?_
        refine lv_ixor hx hb dX0_setWall_55 ?_
        refine C_p_X0_47 hC hw dX0_setWall_56 (fun σ4 eσ4 H locs hw => ?_)
        have h := nm_o h σ4 eσ4
        refine lv_iconst (v := 1) hx hb dX0_setWall_59 (by decide) ?_
        cases h
        exact ret_z hC (Or.inr rfl) hw dX0_setWall_60
      · have h := if_t h c
        refine lv_iconst (v := 0) hx hb dX0_setWall_47 (by decide) ?_
        cases h
        exact ret_z hC (Or.inl rfl) hw dX0_setWall_48
    · have h := if_f h c
      refine lv_iload_n hx hb dX0_setWall_35 rfl (lv_at hl 1 rfl) ?_
      refine lv_if_ne (tgt := 49) hx hb dX0_setWall_36 (by decide) (fun c => ?_) (fun c => ?_)
      · have h := if_f h c
        refine lv_aload_n hx hb dX0_setWall_49 rfl (lv_at hl 2 rfl) ?_
        refine lv_dup hx hb dX0_setWall_50 rfl ?_
        refine C_g_X0_47 hC hw dX0_setWall_51 ?_
        refine lv_iload_n hx hb dX0_setWall_54 rfl (lv_at hl 3 rfl) ?_
        refine lv_ixor hx hb dX0_setWall_55 ?_
        refine C_p_X0_47 hC hw dX0_setWall_56 (fun σ5 eσ5 H locs hw => ?_)
        have h := nm_o h σ5 eσ5
        refine lv_iconst (v := 1) hx hb dX0_setWall_59 (by decide) ?_
        cases h
        exact ret_z hC (Or.inr rfl) hw dX0_setWall_60
      · have h := if_t h c
        refine lv_goto (tgt := 47) hx hb dX0_setWall_39 (by decide) ?_
        refine lv_iconst (v := 0) hx hb dX0_setWall_47 (by decide) ?_
        cases h
        exact ret_z hC (Or.inl rfl) hw dX0_setWall_48
def f_X0_setWall (N : Nat) (σ : St) (a0 : Int32) (a1 : Int32) : Option (Int32 × St) :=
  bd1 (f_X0_filled N σ) (fun r1 => if (r1 &&& a0) = 0 then (jn_X0_setWall_14 N σ a0 a1 (1 : Int32)) else (jn_X0_setWall_14 N σ a0 a1 (0 : Int32)))
set_option maxRecDepth 100000 in
set_option maxHeartbeats 4000000 in
theorem c_X0_setWall (l : Launch) (D : va_G) (q : Nat → Nat) (k : cK) (N : Nat) (σ : St) (a0 : Int32) (a1 : Int32) (r : Int32) (σ' : St) (h : f_X0_setWall N σ a0 a1 = some (r, σ')) :
    Met l yX0_setWall [.code yX0_setWall cX0_setWall 5 (some .boolean)] rm_X0_setWall (PC D (CW q k σ) k [.ref (q 1), .int a0, .int a1]) (QR D (CW q k σ) (CW q k σ') (some (.int r))) 0 0 (AQ (CW q k σ)) := by
  refine met_of (by decide) (Nat.le_of_ble_eq_true rfl) ?_
  intro p e s m below meth c hC hw ls hl
  have hC : Cx p s m meth c cX0_setWall RX0 5 (some .boolean) := hC
  have hl : lv_has ls 5 [(0, .ref (q 1)), (1, .int a0), (2, .int a1)] := hl
  have hx := hC.1
  have hb := hC.2.1
  unfold f_X0_setWall at h
  refine lv_aload_n hx hb dX0_setWall_0 rfl (lv_at hl 0 rfl) ?_
  obtain ⟨r1, hc, h⟩ := bd1_o h
  refine go_i (run_V (As := []) (rest := []) hC hw (c_X0_filled l D q k N σ r1 hc) kw_18 kw_20 kw_21 kw_1 kw_19 hd_X0_filled ⟨rfl, rfl⟩ ⟨Nat.le_of_ble_eq_true rfl, Nat.le_of_ble_eq_true rfl⟩ 1 rfl rfl rfl hl.1 rfl (Nat.le_of_ble_eq_true rfl) dX0_setWall_1 ⟨Nat.zero_le _, Nat.zero_le _⟩) hw (fun H locs hw => ?_)
  refine lv_iload_n hx hb dX0_setWall_4 rfl (lv_at hl 1 rfl) ?_
  refine lv_iand hx hb dX0_setWall_5 ?_
  refine lv_if_ne (tgt := 13) hx hb dX0_setWall_6 (by decide) (fun c => ?_) (fun c => ?_)
  · have h := if_f h c
    refine lv_iconst (v := 0) hx hb dX0_setWall_13 (by decide) ?_
    exact w_X0_setWall_14 hC N σ a0 a1 (0 : Int32) r σ' _ _ ls h hw (lv_sub hl [0, 1, 2] rfl)
  · have h := if_t h c
    refine lv_iconst (v := 1) hx hb dX0_setWall_9 (by decide) ?_
    refine lv_goto (tgt := 14) hx hb dX0_setWall_10 (by decide) ?_
    exact w_X0_setWall_14 hC N σ a0 a1 (1 : Int32) r σ' _ _ ls h hw (lv_sub hl [0, 1, 2] rfl)
/-! SlideBoards$Board.addBlock(I)I -/
abbrev rm_X0_addBlock : Room := { frames := 0, cells := 0, slots := 0, locals := 0 }
def f_X0_addBlock (N : Nat) (σ : St) (a0 : Int32) : Option (Int32 × St) :=
  if (σ.1 6) < (8 : Int32) then (gd (okx (σ.1 6) 8) (nm (sA σ 0 (σ.1 6) a0) (fun σ1 => nm (sI σ1 6 ((σ1.1 6) + (1 : Int32))) (fun σ2 => some ((σ2.1 6) - (1 : Int32), σ2))))) else (some ((-1 : Int32), σ))
set_option maxRecDepth 100000 in
set_option maxHeartbeats 4000000 in
theorem c_X0_addBlock (l : Launch) (D : va_G) (q : Nat → Nat) (k : cK) (N : Nat) (σ : St) (a0 : Int32) (r : Int32) (σ' : St) (h : f_X0_addBlock N σ a0 = some (r, σ')) :
    Met l yX0_addBlock [.code yX0_addBlock cX0_addBlock 2 (some .int)] rm_X0_addBlock (PC D (CW q k σ) k [.ref (q 1), .int a0]) (QR D (CW q k σ) (CW q k σ') (some (.int r))) 0 0 (AQ (CW q k σ)) := by
  refine met_of (by decide) (Nat.le_of_ble_eq_true rfl) ?_
  intro p e s m below meth c hC hw ls hl
  have hC : Cx p s m meth c cX0_addBlock RX0 2 (some .int) := hC
  have hl : lv_has ls 2 [(0, .ref (q 1)), (1, .int a0)] := hl
  have hx := hC.1
  have hb := hC.2.1
  unfold f_X0_addBlock at h
  refine lv_aload_n hx hb dX0_addBlock_0 rfl (lv_at hl 0 rfl) ?_
  refine C_g_X0_50 hC hw dX0_addBlock_1 ?_
  refine lv_bipush (v := 8) hx hb dX0_addBlock_4 (by decide) ?_
  refine lv_icmp_lt (tgt := 11) hx hb dX0_addBlock_6 (by decide) (fun c => ?_) (fun c => ?_)
  · have h := if_t h c
    refine lv_aload_n hx hb dX0_addBlock_11 rfl (lv_at hl 0 rfl) ?_
    refine C_g_X0_9 hC hw dX0_addBlock_12 ?_
    refine lv_aload_n hx hb dX0_addBlock_15 rfl (lv_at hl 0 rfl) ?_
    refine C_g_X0_50 hC hw dX0_addBlock_16 ?_
    refine lv_iload_n hx hb dX0_addBlock_19 rfl (lv_at hl 1 rfl) ?_
    obtain ⟨hin, h⟩ := gd_o h
    refine C_st2 hC hw hin dX0_addBlock_20 (fun σ1 eσ1 H locs hw => ?_)
    have h := nm_o h σ1 eσ1
    refine lv_aload_n hx hb dX0_addBlock_21 rfl (lv_at hl 0 rfl) ?_
    refine lv_dup hx hb dX0_addBlock_22 rfl ?_
    refine C_g_X0_50 hC hw dX0_addBlock_23 ?_
    refine lv_iconst (v := 1) hx hb dX0_addBlock_26 (by decide) ?_
    refine lv_iadd hx hb dX0_addBlock_27 ?_
    refine C_p_X0_50 hC hw dX0_addBlock_28 (fun σ2 eσ2 H locs hw => ?_)
    have h := nm_o h σ2 eσ2
    refine lv_aload_n hx hb dX0_addBlock_31 rfl (lv_at hl 0 rfl) ?_
    refine C_g_X0_50 hC hw dX0_addBlock_32 ?_
    refine lv_iconst (v := 1) hx hb dX0_addBlock_35 (by decide) ?_
    refine lv_isub hx hb dX0_addBlock_36 ?_
    cases h
    exact ret_i hC hw dX0_addBlock_37
  · have h := if_f h c
    refine lv_iconst (v := -1) hx hb dX0_addBlock_9 (by decide) ?_
    cases h
    exact ret_i hC hw dX0_addBlock_10
/-! SlideBoards$Board.addCell(II)Z -/
abbrev rm_X0_addCell : Room := { frames := 1, cells := 0, slots := 0, locals := 22 }
def f_X0_addCell (N : Nat) (σ : St) (a0 : Int32) (a1 : Int32) : Option (Int32 × St) :=
  bd1 (f_X0_filled N σ) (fun r1 => if (r1 &&& a1) = 0 then (gd (okx a0 8) (gd (okx a0 8) (nm (sA σ 1 a0 ((ra σ 1 a0) ||| a1)) (fun σ2 => some ((1 : Int32), σ2))))) else (some ((0 : Int32), σ)))
set_option maxRecDepth 100000 in
set_option maxHeartbeats 4000000 in
theorem c_X0_addCell (l : Launch) (D : va_G) (q : Nat → Nat) (k : cK) (N : Nat) (σ : St) (a0 : Int32) (a1 : Int32) (r : Int32) (σ' : St) (h : f_X0_addCell N σ a0 a1 = some (r, σ')) :
    Met l yX0_addCell [.code yX0_addCell cX0_addCell 3 (some .boolean)] rm_X0_addCell (PC D (CW q k σ) k [.ref (q 1), .int a0, .int a1]) (QR D (CW q k σ) (CW q k σ') (some (.int r))) 0 0 (AQ (CW q k σ)) := by
  refine met_of (by decide) (Nat.le_of_ble_eq_true rfl) ?_
  intro p e s m below meth c hC hw ls hl
  have hC : Cx p s m meth c cX0_addCell RX0 3 (some .boolean) := hC
  have hl : lv_has ls 3 [(0, .ref (q 1)), (1, .int a0), (2, .int a1)] := hl
  have hx := hC.1
  have hb := hC.2.1
  unfold f_X0_addCell at h
  refine lv_aload_n hx hb dX0_addCell_0 rfl (lv_at hl 0 rfl) ?_
  obtain ⟨r1, hc, h⟩ := bd1_o h
  refine go_i (run_V (As := []) (rest := []) hC hw (c_X0_filled l D q k N σ r1 hc) kw_18 kw_20 kw_21 kw_1 kw_19 hd_X0_filled ⟨rfl, rfl⟩ ⟨Nat.le_of_ble_eq_true rfl, Nat.le_of_ble_eq_true rfl⟩ 1 rfl rfl rfl hl.1 rfl (Nat.le_of_ble_eq_true rfl) dX0_addCell_1 ⟨Nat.zero_le _, Nat.zero_le _⟩) hw (fun H locs hw => ?_)
  refine lv_iload_n hx hb dX0_addCell_4 rfl (lv_at hl 2 rfl) ?_
  refine lv_iand hx hb dX0_addCell_5 ?_
  refine lv_if_eq (tgt := 11) hx hb dX0_addCell_6 (by decide) (fun c => ?_) (fun c => ?_)
  · have h := if_t h c
    refine lv_aload_n hx hb dX0_addCell_11 rfl (lv_at hl 0 rfl) ?_
    refine C_g_X0_15 hC hw dX0_addCell_12 ?_
    refine lv_iload_n hx hb dX0_addCell_15 rfl (lv_at hl 1 rfl) ?_
    refine lv_dup2_11 hx hb dX0_addCell_16 rfl rfl ?_
    obtain ⟨hin, h⟩ := gd_o h
    refine C_ld3 hC hw hin dX0_addCell_17 ?_
    refine lv_iload_n hx hb dX0_addCell_18 rfl (lv_at hl 2 rfl) ?_
    refine lv_ior hx hb dX0_addCell_19 ?_
    obtain ⟨hin, h⟩ := gd_o h
    refine C_st3 hC hw hin dX0_addCell_20 (fun σ2 eσ2 H locs hw => ?_)
    have h := nm_o h σ2 eσ2
    refine lv_iconst (v := 1) hx hb dX0_addCell_21 (by decide) ?_
    cases h
    exact ret_z hC (Or.inr rfl) hw dX0_addCell_22
  · have h := if_f h c
    refine lv_iconst (v := 0) hx hb dX0_addCell_9 (by decide) ?_
    cases h
    exact ret_z hC (Or.inl rfl) hw dX0_addCell_10
/-! SlideBoards$Board.leastCell(I)I -/
abbrev rm_X0_leastCell : Room := { frames := 1, cells := 0, slots := 0, locals := 20 }
def f_X0_leastCell (N : Nat) (σ : St) (a0 : Int32) : Option Int32 :=
  if a0 = 0 then (some (-1 : Int32)) else (bd1 (f_J6_bitCount_0f7a4 N σ ((a0 &&& (-a0)) - (1 : Int32))) (fun r1 => some r1))
set_option maxRecDepth 100000 in
set_option maxHeartbeats 4000000 in
theorem c_X0_leastCell (l : Launch) (D : va_G) (q : Nat → Nat) (k : cK) (N : Nat) (σ : St) (a0 : Int32) (r : Int32) (h : f_X0_leastCell N σ a0 = some r) :
    Met l yX0_leastCell [.code yX0_leastCell cX0_leastCell 1 (some .int)] rm_X0_leastCell (PC D (CW q k σ) k [.int a0]) (QR D (CW q k σ) (CW q k σ) (some (.int r))) 0 0 (AQ (CW q k σ)) := by
  refine met_of (by decide) (Nat.le_of_ble_eq_true rfl) ?_
  intro p e s m below meth c hC hw ls hl
  have hC : Cx p s m meth c cX0_leastCell RX0 1 (some .int) := hC
  have hl : lv_has ls 1 [(0, .int a0)] := hl
  have hx := hC.1
  have hb := hC.2.1
  unfold f_X0_leastCell at h
  refine lv_iload_n hx hb dX0_leastCell_0 rfl (lv_at hl 0 rfl) ?_
  refine lv_if_ne (tgt := 8) hx hb dX0_leastCell_1 (by decide) (fun c => ?_) (fun c => ?_)
  · have h := if_f h c
    refine lv_iload_n hx hb dX0_leastCell_8 rfl (lv_at hl 0 rfl) ?_
    refine lv_iload_n hx hb dX0_leastCell_9 rfl (lv_at hl 0 rfl) ?_
    refine lv_ineg hx hb dX0_leastCell_10 ?_
    refine lv_iand hx hb dX0_leastCell_11 ?_
    refine lv_iconst (v := 1) hx hb dX0_leastCell_12 (by decide) ?_
    refine lv_isub hx hb dX0_leastCell_13 ?_
    obtain ⟨r1, hc, h⟩ := bd1_o h
    refine go_i (run_S (As := [.int ((a0 &&& (-a0)) - (1 : Int32))]) (rest := []) hC hw (c_J6_bitCount_0f7a4 l D q k N σ ((a0 &&& (-a0)) - (1 : Int32)) r1 hc) kw_44 kw_47 kw_45 kw_46 hd_J6_bitCount_0f7a4 ⟨rfl, rfl⟩ ⟨Nat.le_of_ble_eq_true rfl, Nat.le_of_ble_eq_true rfl⟩ rfl hl.1 rfl (Nat.le_of_ble_eq_true rfl) dX0_leastCell_14 ⟨Nat.zero_le _, Nat.zero_le _⟩) hw (fun H locs hw => ?_)
    cases h
    exact ret_i hC hw dX0_leastCell_17
  · have h := if_t h c
    refine lv_iconst (v := -1) hx hb dX0_leastCell_4 (by decide) ?_
    refine lv_goto (tgt := 17) hx hb dX0_leastCell_5 (by decide) ?_
    cases h
    exact ret_i hC hw dX0_leastCell_17
/-! SlideBoards$Board.moved(III)I -/
abbrev rm_X0_moved : Room := { frames := 0, cells := 0, slots := 0, locals := 0 }
def f_X0_moved (N : Nat) (σ : St) (a0 : Int32) (a1 : Int32) (a2 : Int32) : Option Int32 :=
  if a1 = 0 then (if (a0 &&& (σ.1 3)) = 0 then (nm (jshl a0 (1 : Int32)) (fun y1 => if (y1 &&& a2) = 0 then (some y1) else (some (0 : Int32)))) else (if ((0 : Int32) &&& a2) = 0 then (some (0 : Int32)) else (some (0 : Int32)))) else (if a1 = 1 then (if (a0 &&& (σ.1 5)) = 0 then (nm (jshl a0 (σ.1 0)) (fun y2 => if (y2 &&& a2) = 0 then (some y2) else (some (0 : Int32)))) else (if ((0 : Int32) &&& a2) = 0 then (some (0 : Int32)) else (some (0 : Int32)))) else (if a1 = 2 then (if (a0 &&& (σ.1 2)) = 0 then (nm (jushr a0 (1 : Int32)) (fun y3 => if (y3 &&& a2) = 0 then (some y3) else (some (0 : Int32)))) else (if ((0 : Int32) &&& a2) = 0 then (some (0 : Int32)) else (some (0 : Int32)))) else (if (a0 &&& (σ.1 4)) = 0 then (nm (jushr a0 (σ.1 0)) (fun y4 => if (y4 &&& a2) = 0 then (some y4) else (some (0 : Int32)))) else (if ((0 : Int32) &&& a2) = 0 then (some (0 : Int32)) else (some (0 : Int32))))))
set_option maxRecDepth 100000 in
set_option maxHeartbeats 4000000 in
theorem c_X0_moved (l : Launch) (D : va_G) (q : Nat → Nat) (k : cK) (N : Nat) (σ : St) (a0 : Int32) (a1 : Int32) (a2 : Int32) (r : Int32) (h : f_X0_moved N σ a0 a1 a2 = some r) :
    Met l yX0_moved [.code yX0_moved cX0_moved 5 (some .int)] rm_X0_moved (PC D (CW q k σ) k [.ref (q 1), .int a0, .int a1, .int a2]) (QR D (CW q k σ) (CW q k σ) (some (.int r))) 0 0 (AQ (CW q k σ)) := by
  refine met_of (by decide) (Nat.le_of_ble_eq_true rfl) ?_
  intro p e s m below meth c hC hw ls hl
  have hC : Cx p s m meth c cX0_moved RX0 5 (some .int) := hC
  have hl : lv_has ls 5 [(0, .ref (q 1)), (1, .int a0), (2, .int a1), (3, .int a2)] := hl
  have hx := hC.1
  have hb := hC.2.1
  unfold f_X0_moved at h
  refine lv_iload_n hx hb dX0_moved_0 rfl (lv_at hl 2 rfl) ?_
  by_cases c1_0 : a1 = 0
  · have h := if_t h c1_0
    refine lv_tableIn (off := 27) (tgt := 28) hx hb dX0_moved_1 (by rw [c1_0]; decide) (by rw [c1_0]; decide) (by rw [c1_0]; decide) (by decide) ?_
    refine lv_iload_n hx hb dX0_moved_28 rfl (lv_at hl 1 rfl) ?_
    refine lv_aload_n hx hb dX0_moved_29 rfl (lv_at hl 0 rfl) ?_
    refine C_g_X0_28 hC hw dX0_moved_30 ?_
    refine lv_iand hx hb dX0_moved_33 ?_
    refine lv_if_eq (tgt := 41) hx hb dX0_moved_34 (by decide) (fun c => ?_) (fun c => ?_)
    · have h := if_t h c
      refine lv_iload_n hx hb dX0_moved_41 rfl (lv_at hl 1 rfl) ?_
      refine lv_iconst (v := 1) hx hb dX0_moved_42 (by decide) ?_
      refine lv_ishl hx hb dX0_moved_43 ?_
      refine lv_topi (fun y1 ey1 => ?_)
      have h := nm_o h y1 ey1
      refine lv_istore (lv' := [(4, .int y1), (0, .ref (q 1)), (1, .int a0), (2, .int a1), (3, .int a2)]) hx hb dX0_moved_44 hl (by decide) rfl (fun ls hl => ?_)
      refine lv_goto (tgt := 115) hx hb dX0_moved_46 (by decide) ?_
      refine lv_iload hx hb dX0_moved_115 (lv_at hl 0 rfl) ?_
      refine lv_iload_n hx hb dX0_moved_117 rfl (lv_at hl 4 rfl) ?_
      refine lv_iand hx hb dX0_moved_118 ?_
      refine lv_if_eq (tgt := 126) hx hb dX0_moved_119 (by decide) (fun c => ?_) (fun c => ?_)
      · have h := if_t h c
        refine lv_iload hx hb dX0_moved_126 (lv_at hl 0 rfl) ?_
        cases h
        exact ret_i hC hw dX0_moved_128
      · have h := if_f h c
        refine lv_iconst (v := 0) hx hb dX0_moved_122 (by decide) ?_
        refine lv_goto (tgt := 128) hx hb dX0_moved_123 (by decide) ?_
        cases h
        exact ret_i hC hw dX0_moved_128
    · have h := if_f h c
      refine lv_iconst (v := 0) hx hb dX0_moved_37 (by decide) ?_
      refine lv_goto (tgt := 44) hx hb dX0_moved_38 (by decide) ?_
      refine lv_istore (lv' := [(4, .int (0 : Int32)), (0, .ref (q 1)), (1, .int a0), (2, .int a1), (3, .int a2)]) hx hb dX0_moved_44 hl (by decide) rfl (fun ls hl => ?_)
      refine lv_goto (tgt := 115) hx hb dX0_moved_46 (by decide) ?_
      refine lv_iload hx hb dX0_moved_115 (lv_at hl 0 rfl) ?_
      refine lv_iload_n hx hb dX0_moved_117 rfl (lv_at hl 4 rfl) ?_
      refine lv_iand hx hb dX0_moved_118 ?_
      refine lv_if_eq (tgt := 126) hx hb dX0_moved_119 (by decide) (fun c => ?_) (fun c => ?_)
      · have h := if_t h c
        refine lv_iload hx hb dX0_moved_126 (lv_at hl 0 rfl) ?_
        cases h
        exact ret_i hC hw dX0_moved_128
      · have h := if_f h c
        refine lv_iconst (v := 0) hx hb dX0_moved_122 (by decide) ?_
        refine lv_goto (tgt := 128) hx hb dX0_moved_123 (by decide) ?_
        cases h
        exact ret_i hC hw dX0_moved_128
  · have h := if_f h c1_0
    by_cases c1_1 : a1 = 1
    · have h := if_t h c1_1
      refine lv_tableIn (off := 48) (tgt := 49) hx hb dX0_moved_1 (by rw [c1_1]; decide) (by rw [c1_1]; decide) (by rw [c1_1]; decide) (by decide) ?_
      refine lv_iload_n hx hb dX0_moved_49 rfl (lv_at hl 1 rfl) ?_
      refine lv_aload_n hx hb dX0_moved_50 rfl (lv_at hl 0 rfl) ?_
      refine C_g_X0_34 hC hw dX0_moved_51 ?_
      refine lv_iand hx hb dX0_moved_54 ?_
      refine lv_if_eq (tgt := 62) hx hb dX0_moved_55 (by decide) (fun c => ?_) (fun c => ?_)
      · have h := if_t h c
        refine lv_iload_n hx hb dX0_moved_62 rfl (lv_at hl 1 rfl) ?_
        refine lv_aload_n hx hb dX0_moved_63 rfl (lv_at hl 0 rfl) ?_
        refine C_g_X0_18 hC hw dX0_moved_64 ?_
        refine lv_ishl hx hb dX0_moved_67 ?_
        refine lv_topi (fun y2 ey2 => ?_)
        have h := nm_o h y2 ey2
        refine lv_istore (lv' := [(4, .int y2), (0, .ref (q 1)), (1, .int a0), (2, .int a1), (3, .int a2)]) hx hb dX0_moved_68 hl (by decide) rfl (fun ls hl => ?_)
        refine lv_goto (tgt := 115) hx hb dX0_moved_70 (by decide) ?_
        refine lv_iload hx hb dX0_moved_115 (lv_at hl 0 rfl) ?_
        refine lv_iload_n hx hb dX0_moved_117 rfl (lv_at hl 4 rfl) ?_
        refine lv_iand hx hb dX0_moved_118 ?_
        refine lv_if_eq (tgt := 126) hx hb dX0_moved_119 (by decide) (fun c => ?_) (fun c => ?_)
        · have h := if_t h c
          refine lv_iload hx hb dX0_moved_126 (lv_at hl 0 rfl) ?_
          cases h
          exact ret_i hC hw dX0_moved_128
        · have h := if_f h c
          refine lv_iconst (v := 0) hx hb dX0_moved_122 (by decide) ?_
          refine lv_goto (tgt := 128) hx hb dX0_moved_123 (by decide) ?_
          cases h
          exact ret_i hC hw dX0_moved_128
      · have h := if_f h c
        refine lv_iconst (v := 0) hx hb dX0_moved_58 (by decide) ?_
        refine lv_goto (tgt := 68) hx hb dX0_moved_59 (by decide) ?_
        refine lv_istore (lv' := [(4, .int (0 : Int32)), (0, .ref (q 1)), (1, .int a0), (2, .int a1), (3, .int a2)]) hx hb dX0_moved_68 hl (by decide) rfl (fun ls hl => ?_)
        refine lv_goto (tgt := 115) hx hb dX0_moved_70 (by decide) ?_
        refine lv_iload hx hb dX0_moved_115 (lv_at hl 0 rfl) ?_
        refine lv_iload_n hx hb dX0_moved_117 rfl (lv_at hl 4 rfl) ?_
        refine lv_iand hx hb dX0_moved_118 ?_
        refine lv_if_eq (tgt := 126) hx hb dX0_moved_119 (by decide) (fun c => ?_) (fun c => ?_)
        · have h := if_t h c
          refine lv_iload hx hb dX0_moved_126 (lv_at hl 0 rfl) ?_
          cases h
          exact ret_i hC hw dX0_moved_128
        · have h := if_f h c
          refine lv_iconst (v := 0) hx hb dX0_moved_122 (by decide) ?_
          refine lv_goto (tgt := 128) hx hb dX0_moved_123 (by decide) ?_
          cases h
          exact ret_i hC hw dX0_moved_128
    · have h := if_f h c1_1
      by_cases c1_2 : a1 = 2
      · have h := if_t h c1_2
        refine lv_tableIn (off := 72) (tgt := 73) hx hb dX0_moved_1 (by rw [c1_2]; decide) (by rw [c1_2]; decide) (by rw [c1_2]; decide) (by decide) ?_
        refine lv_iload_n hx hb dX0_moved_73 rfl (lv_at hl 1 rfl) ?_
        refine lv_aload_n hx hb dX0_moved_74 rfl (lv_at hl 0 rfl) ?_
        refine C_g_X0_25 hC hw dX0_moved_75 ?_
        refine lv_iand hx hb dX0_moved_78 ?_
        refine lv_if_eq (tgt := 86) hx hb dX0_moved_79 (by decide) (fun c => ?_) (fun c => ?_)
        · have h := if_t h c
          refine lv_iload_n hx hb dX0_moved_86 rfl (lv_at hl 1 rfl) ?_
          refine lv_iconst (v := 1) hx hb dX0_moved_87 (by decide) ?_
          refine lv_iushr (v := jushr a0 (1 : Int32)) hx hb dX0_moved_88 rfl ?_
          refine lv_topi (fun y3 ey3 => ?_)
          have h := nm_o h y3 ey3
          refine lv_istore (lv' := [(4, .int y3), (0, .ref (q 1)), (1, .int a0), (2, .int a1), (3, .int a2)]) hx hb dX0_moved_89 hl (by decide) rfl (fun ls hl => ?_)
          refine lv_goto (tgt := 115) hx hb dX0_moved_91 (by decide) ?_
          refine lv_iload hx hb dX0_moved_115 (lv_at hl 0 rfl) ?_
          refine lv_iload_n hx hb dX0_moved_117 rfl (lv_at hl 4 rfl) ?_
          refine lv_iand hx hb dX0_moved_118 ?_
          refine lv_if_eq (tgt := 126) hx hb dX0_moved_119 (by decide) (fun c => ?_) (fun c => ?_)
          · have h := if_t h c
            refine lv_iload hx hb dX0_moved_126 (lv_at hl 0 rfl) ?_
            cases h
            exact ret_i hC hw dX0_moved_128
          · have h := if_f h c
            refine lv_iconst (v := 0) hx hb dX0_moved_122 (by decide) ?_
            refine lv_goto (tgt := 128) hx hb dX0_moved_123 (by decide) ?_
            cases h
            exact ret_i hC hw dX0_moved_128
        · have h := if_f h c
          refine lv_iconst (v := 0) hx hb dX0_moved_82 (by decide) ?_
          refine lv_goto (tgt := 89) hx hb dX0_moved_83 (by decide) ?_
          refine lv_istore (lv' := [(4, .int (0 : Int32)), (0, .ref (q 1)), (1, .int a0), (2, .int a1), (3, .int a2)]) hx hb dX0_moved_89 hl (by decide) rfl (fun ls hl => ?_)
          refine lv_goto (tgt := 115) hx hb dX0_moved_91 (by decide) ?_
          refine lv_iload hx hb dX0_moved_115 (lv_at hl 0 rfl) ?_
          refine lv_iload_n hx hb dX0_moved_117 rfl (lv_at hl 4 rfl) ?_
          refine lv_iand hx hb dX0_moved_118 ?_
          refine lv_if_eq (tgt := 126) hx hb dX0_moved_119 (by decide) (fun c => ?_) (fun c => ?_)
          · have h := if_t h c
            refine lv_iload hx hb dX0_moved_126 (lv_at hl 0 rfl) ?_
            cases h
            exact ret_i hC hw dX0_moved_128
          · have h := if_f h c
            refine lv_iconst (v := 0) hx hb dX0_moved_122 (by decide) ?_
            refine lv_goto (tgt := 128) hx hb dX0_moved_123 (by decide) ?_
            cases h
            exact ret_i hC hw dX0_moved_128
      · have h := if_f h c1_2
        refine lv_tableOut (tgt := 94) hx hb dX0_moved_1 (tsw3 c1_0 c1_1 c1_2) (by decide) ?_
        refine lv_iload_n hx hb dX0_moved_94 rfl (lv_at hl 1 rfl) ?_
        refine lv_aload_n hx hb dX0_moved_95 rfl (lv_at hl 0 rfl) ?_
        refine C_g_X0_31 hC hw dX0_moved_96 ?_
        refine lv_iand hx hb dX0_moved_99 ?_
        refine lv_if_eq (tgt := 107) hx hb dX0_moved_100 (by decide) (fun c => ?_) (fun c => ?_)
        · have h := if_t h c
          refine lv_iload_n hx hb dX0_moved_107 rfl (lv_at hl 1 rfl) ?_
          refine lv_aload_n hx hb dX0_moved_108 rfl (lv_at hl 0 rfl) ?_
          refine C_g_X0_18 hC hw dX0_moved_109 ?_
          refine lv_iushr (v := jushr a0 (σ.1 0)) hx hb dX0_moved_112 rfl ?_
          refine lv_topi (fun y4 ey4 => ?_)
          have h := nm_o h y4 ey4
          refine lv_istore (lv' := [(4, .int y4), (0, .ref (q 1)), (1, .int a0), (2, .int a1), (3, .int a2)]) hx hb dX0_moved_113 hl (by decide) rfl (fun ls hl => ?_)
          refine lv_iload hx hb dX0_moved_115 (lv_at hl 0 rfl) ?_
          refine lv_iload_n hx hb dX0_moved_117 rfl (lv_at hl 4 rfl) ?_
          refine lv_iand hx hb dX0_moved_118 ?_
          refine lv_if_eq (tgt := 126) hx hb dX0_moved_119 (by decide) (fun c => ?_) (fun c => ?_)
          · have h := if_t h c
            refine lv_iload hx hb dX0_moved_126 (lv_at hl 0 rfl) ?_
            cases h
            exact ret_i hC hw dX0_moved_128
          · have h := if_f h c
            refine lv_iconst (v := 0) hx hb dX0_moved_122 (by decide) ?_
            refine lv_goto (tgt := 128) hx hb dX0_moved_123 (by decide) ?_
            cases h
            exact ret_i hC hw dX0_moved_128
        · have h := if_f h c
          refine lv_iconst (v := 0) hx hb dX0_moved_103 (by decide) ?_
          refine lv_goto (tgt := 113) hx hb dX0_moved_104 (by decide) ?_
          refine lv_istore (lv' := [(4, .int (0 : Int32)), (0, .ref (q 1)), (1, .int a0), (2, .int a1), (3, .int a2)]) hx hb dX0_moved_113 hl (by decide) rfl (fun ls hl => ?_)
          refine lv_iload hx hb dX0_moved_115 (lv_at hl 0 rfl) ?_
          refine lv_iload_n hx hb dX0_moved_117 rfl (lv_at hl 4 rfl) ?_
          refine lv_iand hx hb dX0_moved_118 ?_
          refine lv_if_eq (tgt := 126) hx hb dX0_moved_119 (by decide) (fun c => ?_) (fun c => ?_)
          · have h := if_t h c
            refine lv_iload hx hb dX0_moved_126 (lv_at hl 0 rfl) ?_
            cases h
            exact ret_i hC hw dX0_moved_128
          · have h := if_f h c
            refine lv_iconst (v := 0) hx hb dX0_moved_122 (by decide) ?_
            refine lv_goto (tgt := 128) hx hb dX0_moved_123 (by decide) ?_
            cases h
            exact ret_i hC hw dX0_moved_128
/-! SlideBoards$Board.slideBlock(III)I -/
abbrev rm_X0_slideBlock : Room := { frames := 1, cells := 0, slots := 0, locals := 24 }
def lp_X0_slideBlock_18 (N : Nat) (x1 : Int32) (x2 : Int32) (x3 : Int32) (x4 : Int32) : Nat → St → Int32 → Option (Int32 × St)
  | 0, _, _ => none
  | n + 1, σ, x5 => if x3 ≤ x5 then (some (x5, σ)) else (if (5 : Int32) ≤ x5 then (some (x5, σ)) else (gd (okx x1 8) (bd1 (f_X0_moved N σ (ra σ 1 x1) x2 x4) (fun r3 => if r3 = 0 then (some (x5, σ)) else (gd (okx x1 8) (nm (sA σ 1 x1 r3) (fun σ4 => nm (x5 + (1 : Int32)) (fun y5 => lp_X0_slideBlock_18 N x1 x2 x3 x4 n σ4 y5))))))))
set_option maxRecDepth 100000 in
set_option maxHeartbeats 4000000 in
theorem w_X0_slideBlock_18 {p : Program} {l : Launch} {e : Env} {s : State} {m : MethodId} {below : List Frame} {meth : Method} {c : Code} {args : Array Value} {D : va_G} {q : Nat → Nat} {k : cK} {ws0 : va_W} (hC : Cx p s m meth c cX0_slideBlock RX0 7 (some .int)) (N : Nat) (x1 : Int32) (x2 : Int32) (x3 : Int32) (x4 : Int32) (r : Int32) (σ' : St) :
    ∀ (n : Nat) (σ : St) (x5 : Int32) (H : Heap) (locs : List Loc) (ls : Array Slot), lp_X0_slideBlock_18 N x1 x2 x3 x4 n σ x5 = some (r, σ') → WH D (CW q k σ) k (AQ ws0) s s.heap H locs → lv_has ls 7 [(0, .ref (q 1)), (1, .int x1), (2, .int x2), (3, .int x3), (4, .int x4), (5, .int x5)] → W p l e rm_X0_slideBlock s m args below meth c H locs 0 0 (MQ below (QR D ws0 (CW q k σ') (some (.int r))) args s 0 0 (AQ ws0)) (F0 m 18 ls []) := by
  have hx := hC.1
  have hb := hC.2.1
  intro n
  induction n with
  | zero =>
    intro σ x5 H locs ls h
    cases h
  | succ n ih =>
    intro σ x5 H locs ls h hw hl
    rw [lp_X0_slideBlock_18] at h
    refine lv_iload hx hb dX0_slideBlock_18 (lv_at hl 5 rfl) ?_
    refine lv_iload_n hx hb dX0_slideBlock_20 rfl (lv_at hl 3 rfl) ?_
    refine lv_icmp_ge (tgt := 67) hx hb dX0_slideBlock_21 (by decide) (fun c => ?_) (fun c => ?_)
    · have h := if_t h c
      refine lv_iload hx hb dX0_slideBlock_67 (lv_at hl 5 rfl) ?_
      cases h
      exact ret_i hC hw dX0_slideBlock_69
    · have h := if_f h c
      refine lv_iload hx hb dX0_slideBlock_24 (lv_at hl 5 rfl) ?_
      refine lv_iconst (v := 5) hx hb dX0_slideBlock_26 (by decide) ?_
      refine lv_icmp_ge (tgt := 67) hx hb dX0_slideBlock_27 (by decide) (fun c => ?_) (fun c => ?_)
      · have h := if_t h c
        refine lv_iload hx hb dX0_slideBlock_67 (lv_at hl 5 rfl) ?_
        cases h
        exact ret_i hC hw dX0_slideBlock_69
      · have h := if_f h c
        refine lv_aload_n hx hb dX0_slideBlock_30 rfl (lv_at hl 0 rfl) ?_
        refine lv_aload_n hx hb dX0_slideBlock_31 rfl (lv_at hl 0 rfl) ?_
        refine C_g_X0_15 hC hw dX0_slideBlock_32 ?_
        refine lv_iload_n hx hb dX0_slideBlock_35 rfl (lv_at hl 1 rfl) ?_
        obtain ⟨hin, h⟩ := gd_o h
        refine C_ld3 hC hw hin dX0_slideBlock_36 ?_
        refine lv_iload_n hx hb dX0_slideBlock_37 rfl (lv_at hl 2 rfl) ?_
        refine lv_iload hx hb dX0_slideBlock_38 (lv_at hl 4 rfl) ?_
        obtain ⟨r3, hc, h⟩ := bd1_o h
        refine go_i (run_V (As := [.int (ra σ 1 x1), .int x2, .int x4]) (rest := []) hC hw (c_X0_moved l D q k N σ (ra σ 1 x1) x2 x4 r3 hc) kw_54 kw_56 kw_57 kw_1 kw_55 hd_X0_moved ⟨rfl, rfl⟩ ⟨Nat.le_of_ble_eq_true rfl, Nat.le_of_ble_eq_true rfl⟩ 1 rfl rfl rfl hl.1 rfl (Nat.le_of_ble_eq_true rfl) dX0_slideBlock_40 ⟨Nat.zero_le _, Nat.zero_le _⟩) hw (fun H locs hw => ?_)
        refine lv_istore (lv' := [(6, .int r3), (0, .ref (q 1)), (1, .int x1), (2, .int x2), (3, .int x3), (4, .int x4), (5, .int x5)]) hx hb dX0_slideBlock_43 hl (by decide) rfl (fun ls hl => ?_)
        refine lv_iload hx hb dX0_slideBlock_45 (lv_at hl 0 rfl) ?_
        refine lv_if_ne (tgt := 53) hx hb dX0_slideBlock_47 (by decide) (fun c => ?_) (fun c => ?_)
        · have h := if_f h c
          refine lv_aload_n hx hb dX0_slideBlock_53 rfl (lv_at hl 1 rfl) ?_
          refine C_g_X0_15 hC hw dX0_slideBlock_54 ?_
          refine lv_iload_n hx hb dX0_slideBlock_57 rfl (lv_at hl 2 rfl) ?_
          refine lv_iload hx hb dX0_slideBlock_58 (lv_at hl 0 rfl) ?_
          obtain ⟨hin, h⟩ := gd_o h
          refine C_st3 hC hw hin dX0_slideBlock_60 (fun σ4 eσ4 H locs hw => ?_)
          have h := nm_o h σ4 eσ4
          obtain ⟨y5, ey5⟩ : ∃ y : Int32, y = x5 + (1 : Int32) := ⟨_, rfl⟩
          have h := nm_o h y5 ey5
          refine lv_iinc (v := y5) (lv' := [(5, .int y5), (6, .int r3), (0, .ref (q 1)), (1, .int x1), (2, .int x2), (3, .int x3), (4, .int x4)]) hx hb dX0_slideBlock_61 hl (k := 6) rfl (by rw [ey5]; rfl) (by decide) rfl (fun ls hl => ?_)
          refine lv_goto (tgt := 18) hx hb dX0_slideBlock_64 (by decide) ?_
          exact ih σ4 y5 _ _ ls h hw (lv_sub hl [2, 3, 4, 5, 6, 0] rfl)
        · have h := if_t h c
          refine lv_goto (tgt := 67) hx hb dX0_slideBlock_50 (by decide) ?_
          refine lv_iload hx hb dX0_slideBlock_67 (lv_at hl 6 rfl) ?_
          cases h
          exact ret_i hC hw dX0_slideBlock_69
def f_X0_slideBlock (N : Nat) (σ : St) (a0 : Int32) (a1 : Int32) (a2 : Int32) : Option (Int32 × St) :=
  bd1 (f_X0_filled N σ) (fun r1 => gd (okx a0 8) (nm (r1 &&& ((ra σ 1 a0) ^^^ (-1 : Int32))) (fun y2 => lp_X0_slideBlock_18 N a0 a1 a2 y2 N σ (0 : Int32))))
set_option maxRecDepth 100000 in
set_option maxHeartbeats 4000000 in
theorem c_X0_slideBlock (l : Launch) (D : va_G) (q : Nat → Nat) (k : cK) (N : Nat) (σ : St) (a0 : Int32) (a1 : Int32) (a2 : Int32) (r : Int32) (σ' : St) (h : f_X0_slideBlock N σ a0 a1 a2 = some (r, σ')) :
    Met l yX0_slideBlock [.code yX0_slideBlock cX0_slideBlock 7 (some .int)] rm_X0_slideBlock (PC D (CW q k σ) k [.ref (q 1), .int a0, .int a1, .int a2]) (QR D (CW q k σ) (CW q k σ') (some (.int r))) 0 0 (AQ (CW q k σ)) := by
  refine met_of (by decide) (Nat.le_of_ble_eq_true rfl) ?_
  intro p e s m below meth c hC hw ls hl
  have hC : Cx p s m meth c cX0_slideBlock RX0 7 (some .int) := hC
  have hl : lv_has ls 7 [(0, .ref (q 1)), (1, .int a0), (2, .int a1), (3, .int a2)] := hl
  have hx := hC.1
  have hb := hC.2.1
  unfold f_X0_slideBlock at h
  refine lv_aload_n hx hb dX0_slideBlock_0 rfl (lv_at hl 0 rfl) ?_
  obtain ⟨r1, hc, h⟩ := bd1_o h
  refine go_i (run_V (As := []) (rest := []) hC hw (c_X0_filled l D q k N σ r1 hc) kw_18 kw_20 kw_21 kw_1 kw_19 hd_X0_filled ⟨rfl, rfl⟩ ⟨Nat.le_of_ble_eq_true rfl, Nat.le_of_ble_eq_true rfl⟩ 1 rfl rfl rfl hl.1 rfl (Nat.le_of_ble_eq_true rfl) dX0_slideBlock_1 ⟨Nat.zero_le _, Nat.zero_le _⟩) hw (fun H locs hw => ?_)
  refine lv_aload_n hx hb dX0_slideBlock_4 rfl (lv_at hl 0 rfl) ?_
  refine C_g_X0_15 hC hw dX0_slideBlock_5 ?_
  refine lv_iload_n hx hb dX0_slideBlock_8 rfl (lv_at hl 1 rfl) ?_
  obtain ⟨hin, h⟩ := gd_o h
  refine C_ld3 hC hw hin dX0_slideBlock_9 ?_
  refine lv_iconst (v := -1) hx hb dX0_slideBlock_10 (by decide) ?_
  refine lv_ixor hx hb dX0_slideBlock_11 ?_
  refine lv_iand hx hb dX0_slideBlock_12 ?_
  refine lv_topi (fun y2 ey2 => ?_)
  have h := nm_o h y2 ey2
  refine lv_istore (lv' := [(4, .int y2), (0, .ref (q 1)), (1, .int a0), (2, .int a1), (3, .int a2)]) hx hb dX0_slideBlock_13 hl (by decide) rfl (fun ls hl => ?_)
  refine lv_iconst (v := 0) hx hb dX0_slideBlock_15 (by decide) ?_
  refine lv_istore (lv' := [(5, .int (0 : Int32)), (4, .int y2), (0, .ref (q 1)), (1, .int a0), (2, .int a1), (3, .int a2)]) hx hb dX0_slideBlock_16 hl (by decide) rfl (fun ls hl => ?_)
  exact w_X0_slideBlock_18 hC N a0 a1 a2 y2 r σ' N σ (0 : Int32) _ _ ls h hw (lv_sub hl [2, 3, 4, 5, 1, 0] rfl)
/-! SlideBoards$Board.cornered(I)I -/
abbrev rm_X0_cornered : Room := { frames := 0, cells := 0, slots := 0, locals := 0 }
def lp_X0_cornered_33 (N : Nat) (σ : St) : Nat → Int32 → Int32 → Option Int32
  | 0, _, _ => none
  | n + 1, x2, x3 => if (5 : Int32) ≤ x3 then (some x2) else (if (x2 &&& (σ.1 2)) = 0 then (nm (jushr x2 (1 : Int32)) (fun y1 => nm (x3 + (1 : Int32)) (fun y2 => lp_X0_cornered_33 N σ n y1 y2))) else (some x2))
set_option maxRecDepth 100000 in
set_option maxHeartbeats 4000000 in
theorem w_X0_cornered_33 {p : Program} {l : Launch} {e : Env} {s : State} {m : MethodId} {below : List Frame} {meth : Method} {c : Code} {args : Array Value} {D : va_G} {q : Nat → Nat} {k : cK} {ws0 : va_W} (hC : Cx p s m meth c cX0_cornered RX0 4 (some .int)) (N : Nat) (σ : St) (r : Int32) :
    ∀ (n : Nat) (x2 : Int32) (x3 : Int32) (H : Heap) (locs : List Loc) (ls : Array Slot), lp_X0_cornered_33 N σ n x2 x3 = some r → WH D (CW q k σ) k (AQ ws0) s s.heap H locs → lv_has ls 4 [(0, .ref (q 1)), (2, .int x2), (3, .int x3)] → W p l e rm_X0_cornered s m args below meth c H locs 0 0 (MQ below (QR D ws0 (CW q k σ) (some (.int r))) args s 0 0 (AQ ws0)) (F0 m 33 ls []) := by
  have hx := hC.1
  have hb := hC.2.1
  intro n
  induction n with
  | zero =>
    intro x2 x3 H locs ls h
    cases h
  | succ n ih =>
    intro x2 x3 H locs ls h hw hl
    rw [lp_X0_cornered_33] at h
    refine lv_iload_n hx hb dX0_cornered_33 rfl (lv_at hl 2 rfl) ?_
    refine lv_iconst (v := 5) hx hb dX0_cornered_34 (by decide) ?_
    refine lv_icmp_ge (tgt := 57) hx hb dX0_cornered_35 (by decide) (fun c => ?_) (fun c => ?_)
    · have h := if_t h c
      refine lv_iload_n hx hb dX0_cornered_57 rfl (lv_at hl 1 rfl) ?_
      cases h
      exact ret_i hC hw dX0_cornered_58
    · have h := if_f h c
      refine lv_iload_n hx hb dX0_cornered_38 rfl (lv_at hl 1 rfl) ?_
      refine lv_aload_n hx hb dX0_cornered_39 rfl (lv_at hl 0 rfl) ?_
      refine C_g_X0_25 hC hw dX0_cornered_40 ?_
      refine lv_iand hx hb dX0_cornered_43 ?_
      refine lv_if_ne (tgt := 57) hx hb dX0_cornered_44 (by decide) (fun c => ?_) (fun c => ?_)
      · have h := if_f h c
        refine lv_iload_n hx hb dX0_cornered_57 rfl (lv_at hl 1 rfl) ?_
        cases h
        exact ret_i hC hw dX0_cornered_58
      · have h := if_t h c
        refine lv_iload_n hx hb dX0_cornered_47 rfl (lv_at hl 1 rfl) ?_
        refine lv_iconst (v := 1) hx hb dX0_cornered_48 (by decide) ?_
        refine lv_iushr (v := jushr x2 (1 : Int32)) hx hb dX0_cornered_49 rfl ?_
        refine lv_topi (fun y1 ey1 => ?_)
        have h := nm_o h y1 ey1
        refine lv_istore_n (lv' := [(2, .int y1), (0, .ref (q 1)), (3, .int x3)]) hx hb dX0_cornered_50 rfl hl (by decide) rfl (fun ls hl => ?_)
        obtain ⟨y2, ey2⟩ : ∃ y : Int32, y = x3 + (1 : Int32) := ⟨_, rfl⟩
        have h := nm_o h y2 ey2
        refine lv_iinc (v := y2) (lv' := [(3, .int y2), (2, .int y1), (0, .ref (q 1))]) hx hb dX0_cornered_51 hl (k := 2) rfl (by rw [ey2]; rfl) (by decide) rfl (fun ls hl => ?_)
        refine lv_goto (tgt := 33) hx hb dX0_cornered_54 (by decide) ?_
        exact ih y1 y2 _ _ ls h hw (lv_sub hl [2, 1, 0] rfl)
def lp_X0_cornered_4 (N : Nat) (σ : St) : Nat → Int32 → Int32 → Option Int32
  | 0, _, _ => none
  | n + 1, x2, x3 => if (5 : Int32) ≤ x3 then (lp_X0_cornered_33 N σ N x2 (0 : Int32)) else (if (x2 &&& (σ.1 4)) = 0 then (nm (jushr x2 (σ.1 0)) (fun y3 => nm (x3 + (1 : Int32)) (fun y4 => lp_X0_cornered_4 N σ n y3 y4))) else (lp_X0_cornered_33 N σ N x2 (0 : Int32)))
set_option maxRecDepth 100000 in
set_option maxHeartbeats 4000000 in
theorem w_X0_cornered_4 {p : Program} {l : Launch} {e : Env} {s : State} {m : MethodId} {below : List Frame} {meth : Method} {c : Code} {args : Array Value} {D : va_G} {q : Nat → Nat} {k : cK} {ws0 : va_W} (hC : Cx p s m meth c cX0_cornered RX0 4 (some .int)) (N : Nat) (σ : St) (r : Int32) :
    ∀ (n : Nat) (x2 : Int32) (x3 : Int32) (H : Heap) (locs : List Loc) (ls : Array Slot), lp_X0_cornered_4 N σ n x2 x3 = some r → WH D (CW q k σ) k (AQ ws0) s s.heap H locs → lv_has ls 4 [(0, .ref (q 1)), (2, .int x2), (3, .int x3)] → W p l e rm_X0_cornered s m args below meth c H locs 0 0 (MQ below (QR D ws0 (CW q k σ) (some (.int r))) args s 0 0 (AQ ws0)) (F0 m 4 ls []) := by
  have hx := hC.1
  have hb := hC.2.1
  intro n
  induction n with
  | zero =>
    intro x2 x3 H locs ls h
    cases h
  | succ n ih =>
    intro x2 x3 H locs ls h hw hl
    rw [lp_X0_cornered_4] at h
    refine lv_iload_n hx hb dX0_cornered_4 rfl (lv_at hl 2 rfl) ?_
    refine lv_iconst (v := 5) hx hb dX0_cornered_5 (by decide) ?_
    refine lv_icmp_ge (tgt := 31) hx hb dX0_cornered_6 (by decide) (fun c => ?_) (fun c => ?_)
    · have h := if_t h c
      refine lv_iconst (v := 0) hx hb dX0_cornered_31 (by decide) ?_
      refine lv_istore_n (lv' := [(3, .int (0 : Int32)), (0, .ref (q 1)), (2, .int x2)]) hx hb dX0_cornered_32 rfl hl (by decide) rfl (fun ls hl => ?_)
      exact w_X0_cornered_33 hC N σ r N x2 (0 : Int32) _ _ ls h hw (lv_sub hl [1, 2, 0] rfl)
    · have h := if_f h c
      refine lv_iload_n hx hb dX0_cornered_9 rfl (lv_at hl 1 rfl) ?_
      refine lv_aload_n hx hb dX0_cornered_10 rfl (lv_at hl 0 rfl) ?_
      refine C_g_X0_31 hC hw dX0_cornered_11 ?_
      refine lv_iand hx hb dX0_cornered_14 ?_
      refine lv_if_ne (tgt := 31) hx hb dX0_cornered_15 (by decide) (fun c => ?_) (fun c => ?_)
      · have h := if_f h c
        refine lv_iconst (v := 0) hx hb dX0_cornered_31 (by decide) ?_
        refine lv_istore_n (lv' := [(3, .int (0 : Int32)), (0, .ref (q 1)), (2, .int x2)]) hx hb dX0_cornered_32 rfl hl (by decide) rfl (fun ls hl => ?_)
        exact w_X0_cornered_33 hC N σ r N x2 (0 : Int32) _ _ ls h hw (lv_sub hl [1, 2, 0] rfl)
      · have h := if_t h c
        refine lv_iload_n hx hb dX0_cornered_18 rfl (lv_at hl 1 rfl) ?_
        refine lv_aload_n hx hb dX0_cornered_19 rfl (lv_at hl 0 rfl) ?_
        refine C_g_X0_18 hC hw dX0_cornered_20 ?_
        refine lv_iushr (v := jushr x2 (σ.1 0)) hx hb dX0_cornered_23 rfl ?_
        refine lv_topi (fun y3 ey3 => ?_)
        have h := nm_o h y3 ey3
        refine lv_istore_n (lv' := [(2, .int y3), (0, .ref (q 1)), (3, .int x3)]) hx hb dX0_cornered_24 rfl hl (by decide) rfl (fun ls hl => ?_)
        obtain ⟨y4, ey4⟩ : ∃ y : Int32, y = x3 + (1 : Int32) := ⟨_, rfl⟩
        have h := nm_o h y4 ey4
        refine lv_iinc (v := y4) (lv' := [(3, .int y4), (2, .int y3), (0, .ref (q 1))]) hx hb dX0_cornered_25 hl (k := 2) rfl (by rw [ey4]; rfl) (by decide) rfl (fun ls hl => ?_)
        refine lv_goto (tgt := 4) hx hb dX0_cornered_28 (by decide) ?_
        exact ih y3 y4 _ _ ls h hw (lv_sub hl [2, 1, 0] rfl)
def f_X0_cornered (N : Nat) (σ : St) (a0 : Int32) : Option Int32 :=
  lp_X0_cornered_4 N σ N a0 (0 : Int32)
set_option maxRecDepth 100000 in
set_option maxHeartbeats 4000000 in
theorem c_X0_cornered (l : Launch) (D : va_G) (q : Nat → Nat) (k : cK) (N : Nat) (σ : St) (a0 : Int32) (r : Int32) (h : f_X0_cornered N σ a0 = some r) :
    Met l yX0_cornered [.code yX0_cornered cX0_cornered 4 (some .int)] rm_X0_cornered (PC D (CW q k σ) k [.ref (q 1), .int a0]) (QR D (CW q k σ) (CW q k σ) (some (.int r))) 0 0 (AQ (CW q k σ)) := by
  refine met_of (by decide) (Nat.le_of_ble_eq_true rfl) ?_
  intro p e s m below meth c hC hw ls hl
  have hC : Cx p s m meth c cX0_cornered RX0 4 (some .int) := hC
  have hl : lv_has ls 4 [(0, .ref (q 1)), (1, .int a0)] := hl
  have hx := hC.1
  have hb := hC.2.1
  unfold f_X0_cornered at h
  refine lv_iload_n hx hb dX0_cornered_0 rfl (lv_at hl 1 rfl) ?_
  refine lv_istore_n (lv' := [(2, .int a0), (0, .ref (q 1)), (1, .int a0)]) hx hb dX0_cornered_1 rfl hl (by decide) rfl (fun ls hl => ?_)
  refine lv_iconst (v := 0) hx hb dX0_cornered_2 (by decide) ?_
  refine lv_istore_n (lv' := [(3, .int (0 : Int32)), (2, .int a0), (0, .ref (q 1)), (1, .int a0)]) hx hb dX0_cornered_3 rfl hl (by decide) rfl (fun ls hl => ?_)
  exact w_X0_cornered_4 hC N σ r N a0 (0 : Int32) _ _ ls h hw (lv_sub hl [2, 1, 0] rfl)
/-! SlideBoards$Board.areAlike(II)Z -/
abbrev rm_X0_areAlike : Room := { frames := 1, cells := 0, slots := 0, locals := 23 }
def f_X0_areAlike (N : Nat) (σ : St) (a0 : Int32) (a1 : Int32) : Option Int32 :=
  gd (okx a0 8) (gd (okx a1 8) (if (ra σ 0 a0) = (ra σ 0 a1) then (gd (okx a0 8) (bd1 (f_X0_cornered N σ (ra σ 1 a0)) (fun r1 => gd (okx a1 8) (bd1 (f_X0_cornered N σ (ra σ 1 a1)) (fun r2 => if r1 = r2 then (some (1 : Int32)) else (some (0 : Int32))))))) else (some (0 : Int32))))
set_option maxRecDepth 100000 in
set_option maxHeartbeats 4000000 in
theorem c_X0_areAlike (l : Launch) (D : va_G) (q : Nat → Nat) (k : cK) (N : Nat) (σ : St) (a0 : Int32) (a1 : Int32) (r : Int32) (h : f_X0_areAlike N σ a0 a1 = some r) :
    Met l yX0_areAlike [.code yX0_areAlike cX0_areAlike 3 (some .boolean)] rm_X0_areAlike (PC D (CW q k σ) k [.ref (q 1), .int a0, .int a1]) (QR D (CW q k σ) (CW q k σ) (some (.int r))) 0 0 (AQ (CW q k σ)) := by
  refine met_of (by decide) (Nat.le_of_ble_eq_true rfl) ?_
  intro p e s m below meth c hC hw ls hl
  have hC : Cx p s m meth c cX0_areAlike RX0 3 (some .boolean) := hC
  have hl : lv_has ls 3 [(0, .ref (q 1)), (1, .int a0), (2, .int a1)] := hl
  have hx := hC.1
  have hb := hC.2.1
  unfold f_X0_areAlike at h
  refine lv_aload_n hx hb dX0_areAlike_0 rfl (lv_at hl 0 rfl) ?_
  refine C_g_X0_9 hC hw dX0_areAlike_1 ?_
  refine lv_iload_n hx hb dX0_areAlike_4 rfl (lv_at hl 1 rfl) ?_
  obtain ⟨hin, h⟩ := gd_o h
  refine C_ld2 hC hw hin dX0_areAlike_5 ?_
  refine lv_aload_n hx hb dX0_areAlike_6 rfl (lv_at hl 0 rfl) ?_
  refine C_g_X0_9 hC hw dX0_areAlike_7 ?_
  refine lv_iload_n hx hb dX0_areAlike_10 rfl (lv_at hl 2 rfl) ?_
  obtain ⟨hin, h⟩ := gd_o h
  refine C_ld2 hC hw hin dX0_areAlike_11 ?_
  refine lv_icmp_ne (tgt := 42) hx hb dX0_areAlike_12 (by decide) (fun c => ?_) (fun c => ?_)
  · have h := if_f h c
    refine lv_iconst (v := 0) hx hb dX0_areAlike_42 (by decide) ?_
    cases h
    exact ret_z hC (Or.inl rfl) hw dX0_areAlike_43
  · have h := if_t h c
    refine lv_aload_n hx hb dX0_areAlike_15 rfl (lv_at hl 0 rfl) ?_
    refine lv_aload_n hx hb dX0_areAlike_16 rfl (lv_at hl 0 rfl) ?_
    refine C_g_X0_15 hC hw dX0_areAlike_17 ?_
    refine lv_iload_n hx hb dX0_areAlike_20 rfl (lv_at hl 1 rfl) ?_
    obtain ⟨hin, h⟩ := gd_o h
    refine C_ld3 hC hw hin dX0_areAlike_21 ?_
    obtain ⟨r1, hc, h⟩ := bd1_o h
    refine go_i (run_V (As := [.int (ra σ 1 a0)]) (rest := []) hC hw (c_X0_cornered l D q k N σ (ra σ 1 a0) r1 hc) kw_94 kw_96 kw_97 kw_1 kw_95 hd_X0_cornered ⟨rfl, rfl⟩ ⟨Nat.le_of_ble_eq_true rfl, Nat.le_of_ble_eq_true rfl⟩ 1 rfl rfl rfl hl.1 rfl (Nat.le_of_ble_eq_true rfl) dX0_areAlike_22 ⟨Nat.zero_le _, Nat.zero_le _⟩) hw (fun H locs hw => ?_)
    refine lv_aload_n hx hb dX0_areAlike_25 rfl (lv_at hl 0 rfl) ?_
    refine lv_aload_n hx hb dX0_areAlike_26 rfl (lv_at hl 0 rfl) ?_
    refine C_g_X0_15 hC hw dX0_areAlike_27 ?_
    refine lv_iload_n hx hb dX0_areAlike_30 rfl (lv_at hl 2 rfl) ?_
    obtain ⟨hin, h⟩ := gd_o h
    refine C_ld3 hC hw hin dX0_areAlike_31 ?_
    obtain ⟨r2, hc, h⟩ := bd1_o h
    refine go_i (run_V (As := [.int (ra σ 1 a1)]) (rest := [.int r1]) hC hw (c_X0_cornered l D q k N σ (ra σ 1 a1) r2 hc) kw_94 kw_96 kw_97 kw_1 kw_95 hd_X0_cornered ⟨rfl, rfl⟩ ⟨Nat.le_of_ble_eq_true rfl, Nat.le_of_ble_eq_true rfl⟩ 1 rfl rfl rfl hl.1 rfl (Nat.le_of_ble_eq_true rfl) dX0_areAlike_32 ⟨Nat.zero_le _, Nat.zero_le _⟩) hw (fun H locs hw => ?_)
    refine lv_icmp_ne (tgt := 42) hx hb dX0_areAlike_35 (by decide) (fun c => ?_) (fun c => ?_)
    · have h := if_f h c
      refine lv_iconst (v := 0) hx hb dX0_areAlike_42 (by decide) ?_
      cases h
      exact ret_z hC (Or.inl rfl) hw dX0_areAlike_43
    · have h := if_t h c
      refine lv_iconst (v := 1) hx hb dX0_areAlike_38 (by decide) ?_
      refine lv_goto (tgt := 43) hx hb dX0_areAlike_39 (by decide) ?_
      cases h
      exact ret_z hC (Or.inr rfl) hw dX0_areAlike_43
/-! SlideBoards$Board.cellByte(I)I -/
abbrev rm_X0_cellByte : Room := { frames := 0, cells := 0, slots := 0, locals := 0 }
def lp_X0_cellByte_14 (N : Nat) (σ : St) (x1 : Int32) : Nat → Int32 → Option Int32
  | 0, _ => none
  | n + 1, x2 => if (σ.1 6) ≤ x2 then (some (46 : Int32)) else (gd (okx x2 8) (if ((ra σ 1 x2) &&& x1) = 0 then (nm (x2 + (1 : Int32)) (fun y1 => lp_X0_cellByte_14 N σ x1 n y1)) else (gd (okx x2 8) (some ((97 : Int32) + (ra σ 0 x2))))))
set_option maxRecDepth 100000 in
set_option maxHeartbeats 4000000 in
theorem w_X0_cellByte_14 {p : Program} {l : Launch} {e : Env} {s : State} {m : MethodId} {below : List Frame} {meth : Method} {c : Code} {args : Array Value} {D : va_G} {q : Nat → Nat} {k : cK} {ws0 : va_W} (hC : Cx p s m meth c cX0_cellByte RX0 3 (some .int)) (N : Nat) (σ : St) (x1 : Int32) (r : Int32) :
    ∀ (n : Nat) (x2 : Int32) (H : Heap) (locs : List Loc) (ls : Array Slot), lp_X0_cellByte_14 N σ x1 n x2 = some r → WH D (CW q k σ) k (AQ ws0) s s.heap H locs → lv_has ls 3 [(0, .ref (q 1)), (1, .int x1), (2, .int x2)] → W p l e rm_X0_cellByte s m args below meth c H locs 0 0 (MQ below (QR D ws0 (CW q k σ) (some (.int r))) args s 0 0 (AQ ws0)) (F0 m 14 ls []) := by
  have hx := hC.1
  have hb := hC.2.1
  intro n
  induction n with
  | zero =>
    intro x2 H locs ls h
    cases h
  | succ n ih =>
    intro x2 H locs ls h hw hl
    rw [lp_X0_cellByte_14] at h
    refine lv_iload_n hx hb dX0_cellByte_14 rfl (lv_at hl 2 rfl) ?_
    refine lv_aload_n hx hb dX0_cellByte_15 rfl (lv_at hl 0 rfl) ?_
    refine C_g_X0_50 hC hw dX0_cellByte_16 ?_
    refine lv_icmp_ge (tgt := 49) hx hb dX0_cellByte_19 (by decide) (fun c => ?_) (fun c => ?_)
    · have h := if_t h c
      refine lv_bipush (v := 46) hx hb dX0_cellByte_49 (by decide) ?_
      cases h
      exact ret_i hC hw dX0_cellByte_51
    · have h := if_f h c
      refine lv_aload_n hx hb dX0_cellByte_22 rfl (lv_at hl 0 rfl) ?_
      refine C_g_X0_15 hC hw dX0_cellByte_23 ?_
      refine lv_iload_n hx hb dX0_cellByte_26 rfl (lv_at hl 2 rfl) ?_
      obtain ⟨hin, h⟩ := gd_o h
      refine C_ld3 hC hw hin dX0_cellByte_27 ?_
      refine lv_iload_n hx hb dX0_cellByte_28 rfl (lv_at hl 1 rfl) ?_
      refine lv_iand hx hb dX0_cellByte_29 ?_
      refine lv_if_eq (tgt := 43) hx hb dX0_cellByte_30 (by decide) (fun c => ?_) (fun c => ?_)
      · have h := if_t h c
        obtain ⟨y1, ey1⟩ : ∃ y : Int32, y = x2 + (1 : Int32) := ⟨_, rfl⟩
        have h := nm_o h y1 ey1
        refine lv_iinc (v := y1) (lv' := [(2, .int y1), (0, .ref (q 1)), (1, .int x1)]) hx hb dX0_cellByte_43 hl (k := 2) rfl (by rw [ey1]; rfl) (by decide) rfl (fun ls hl => ?_)
        refine lv_goto (tgt := 14) hx hb dX0_cellByte_46 (by decide) ?_
        exact ih y1 _ _ ls h hw (lv_sub hl [1, 2, 0] rfl)
      · have h := if_f h c
        refine lv_bipush (v := 97) hx hb dX0_cellByte_33 (by decide) ?_
        refine lv_aload_n hx hb dX0_cellByte_35 rfl (lv_at hl 0 rfl) ?_
        refine C_g_X0_9 hC hw dX0_cellByte_36 ?_
        refine lv_iload_n hx hb dX0_cellByte_39 rfl (lv_at hl 2 rfl) ?_
        obtain ⟨hin, h⟩ := gd_o h
        refine C_ld2 hC hw hin dX0_cellByte_40 ?_
        refine lv_iadd hx hb dX0_cellByte_41 ?_
        cases h
        exact ret_i hC hw dX0_cellByte_42
def f_X0_cellByte (N : Nat) (σ : St) (a0 : Int32) : Option Int32 :=
  if ((σ.1 7) &&& a0) = 0 then (lp_X0_cellByte_14 N σ a0 N (0 : Int32)) else (some (35 : Int32))
set_option maxRecDepth 100000 in
set_option maxHeartbeats 4000000 in
theorem c_X0_cellByte (l : Launch) (D : va_G) (q : Nat → Nat) (k : cK) (N : Nat) (σ : St) (a0 : Int32) (r : Int32) (h : f_X0_cellByte N σ a0 = some r) :
    Met l yX0_cellByte [.code yX0_cellByte cX0_cellByte 3 (some .int)] rm_X0_cellByte (PC D (CW q k σ) k [.ref (q 1), .int a0]) (QR D (CW q k σ) (CW q k σ) (some (.int r))) 0 0 (AQ (CW q k σ)) := by
  refine met_of (by decide) (Nat.le_of_ble_eq_true rfl) ?_
  intro p e s m below meth c hC hw ls hl
  have hC : Cx p s m meth c cX0_cellByte RX0 3 (some .int) := hC
  have hl : lv_has ls 3 [(0, .ref (q 1)), (1, .int a0)] := hl
  have hx := hC.1
  have hb := hC.2.1
  unfold f_X0_cellByte at h
  refine lv_aload_n hx hb dX0_cellByte_0 rfl (lv_at hl 0 rfl) ?_
  refine C_g_X0_47 hC hw dX0_cellByte_1 ?_
  refine lv_iload_n hx hb dX0_cellByte_4 rfl (lv_at hl 1 rfl) ?_
  refine lv_iand hx hb dX0_cellByte_5 ?_
  refine lv_if_eq (tgt := 12) hx hb dX0_cellByte_6 (by decide) (fun c => ?_) (fun c => ?_)
  · have h := if_t h c
    refine lv_iconst (v := 0) hx hb dX0_cellByte_12 (by decide) ?_
    refine lv_istore_n (lv' := [(2, .int (0 : Int32)), (0, .ref (q 1)), (1, .int a0)]) hx hb dX0_cellByte_13 rfl hl (by decide) rfl (fun ls hl => ?_)
    exact w_X0_cellByte_14 hC N σ a0 r N (0 : Int32) _ _ ls h hw (lv_sub hl [1, 2, 0] rfl)
  · have h := if_f h c
    refine lv_bipush (v := 35) hx hb dX0_cellByte_9 (by decide) ?_
    cases h
    exact ret_i hC hw dX0_cellByte_11
/-! SlideBoards$Board.pictureByte(I)I -/
abbrev rm_X0_pictureByte : Room := { frames := 2, cells := 0, slots := 0, locals := 44 }
def f_X0_pictureByte (N : Nat) (σ : St) (a0 : Int32) : Option Int32 :=
  gd (decide (¬ ((σ.1 0) + (1 : Int32)) = 0)) (nm (a0 / ((σ.1 0) + (1 : Int32))) (fun y1 => gd (decide (¬ ((σ.1 0) + (1 : Int32)) = 0)) (nm (jrem a0 ((σ.1 0) + (1 : Int32))) (fun y2 => if y1 < (σ.1 1) then (if y2 = (σ.1 0) then (some (10 : Int32)) else (bd1 (f_X0_bitOf N σ y2 y1) (fun r3 => bd1 (f_X0_cellByte N σ r3) (fun r4 => some r4)))) else (some (-1 : Int32))))))
set_option maxRecDepth 100000 in
set_option maxHeartbeats 4000000 in
theorem c_X0_pictureByte (l : Launch) (D : va_G) (q : Nat → Nat) (k : cK) (N : Nat) (σ : St) (a0 : Int32) (r : Int32) (h : f_X0_pictureByte N σ a0 = some r) :
    Met l yX0_pictureByte [.code yX0_pictureByte cX0_pictureByte 4 (some .int)] rm_X0_pictureByte (PC D (CW q k σ) k [.ref (q 1), .int a0]) (QR D (CW q k σ) (CW q k σ) (some (.int r))) 0 0 (AQ (CW q k σ)) := by
  refine met_of (by decide) (Nat.le_of_ble_eq_true rfl) ?_
  intro p e s m below meth c hC hw ls hl
  have hC : Cx p s m meth c cX0_pictureByte RX0 4 (some .int) := hC
  have hl : lv_has ls 4 [(0, .ref (q 1)), (1, .int a0)] := hl
  have hx := hC.1
  have hb := hC.2.1
  unfold f_X0_pictureByte at h
  refine lv_iload_n hx hb dX0_pictureByte_0 rfl (lv_at hl 1 rfl) ?_
  refine lv_aload_n hx hb dX0_pictureByte_1 rfl (lv_at hl 0 rfl) ?_
  refine C_g_X0_18 hC hw dX0_pictureByte_2 ?_
  refine lv_iconst (v := 1) hx hb dX0_pictureByte_5 (by decide) ?_
  refine lv_iadd hx hb dX0_pictureByte_6 ?_
  obtain ⟨hne, h⟩ := gp_o h
  refine lv_idiv hx hb dX0_pictureByte_7 hne ?_
  refine lv_topi (fun y1 ey1 => ?_)
  have h := nm_o h y1 ey1
  refine lv_istore_n (lv' := [(2, .int y1), (0, .ref (q 1)), (1, .int a0)]) hx hb dX0_pictureByte_8 rfl hl (by decide) rfl (fun ls hl => ?_)
  refine lv_iload_n hx hb dX0_pictureByte_9 rfl (lv_at hl 2 rfl) ?_
  refine lv_aload_n hx hb dX0_pictureByte_10 rfl (lv_at hl 1 rfl) ?_
  refine C_g_X0_18 hC hw dX0_pictureByte_11 ?_
  refine lv_iconst (v := 1) hx hb dX0_pictureByte_14 (by decide) ?_
  refine lv_iadd hx hb dX0_pictureByte_15 ?_
  obtain ⟨hne, h⟩ := gp_o h
  refine lv_irem hx hb dX0_pictureByte_16 hne ?_
  refine lv_topi (fun y2 ey2 => ?_)
  have h := nm_o h y2 ey2
  refine lv_istore_n (lv' := [(3, .int y2), (2, .int y1), (0, .ref (q 1)), (1, .int a0)]) hx hb dX0_pictureByte_17 rfl hl (by decide) rfl (fun ls hl => ?_)
  refine lv_iload_n hx hb dX0_pictureByte_18 rfl (lv_at hl 1 rfl) ?_
  refine lv_aload_n hx hb dX0_pictureByte_19 rfl (lv_at hl 2 rfl) ?_
  refine C_g_X0_22 hC hw dX0_pictureByte_20 ?_
  refine lv_icmp_lt (tgt := 28) hx hb dX0_pictureByte_23 (by decide) (fun c => ?_) (fun c => ?_)
  · have h := if_t h c
    refine lv_iload_n hx hb dX0_pictureByte_28 rfl (lv_at hl 0 rfl) ?_
    refine lv_aload_n hx hb dX0_pictureByte_29 rfl (lv_at hl 2 rfl) ?_
    refine C_g_X0_18 hC hw dX0_pictureByte_30 ?_
    refine lv_icmp_ne (tgt := 41) hx hb dX0_pictureByte_33 (by decide) (fun c => ?_) (fun c => ?_)
    · have h := if_f h c
      refine lv_aload_n hx hb dX0_pictureByte_41 rfl (lv_at hl 2 rfl) ?_
      refine lv_aload_n hx hb dX0_pictureByte_42 rfl (lv_at hl 2 rfl) ?_
      refine lv_iload_n hx hb dX0_pictureByte_43 rfl (lv_at hl 0 rfl) ?_
      refine lv_iload_n hx hb dX0_pictureByte_44 rfl (lv_at hl 1 rfl) ?_
      obtain ⟨r3, hc, h⟩ := bd1_o h
      refine go_i (run_V (As := [.int y2, .int y1]) (rest := [.ref (q 1)]) hC hw (c_X0_bitOf l D q k N σ y2 y1 r3 hc) kw_156 kw_16 kw_17 kw_1 kw_15 hd_X0_bitOf ⟨rfl, rfl⟩ ⟨Nat.le_of_ble_eq_true rfl, Nat.le_of_ble_eq_true rfl⟩ 1 rfl rfl rfl hl.1 rfl (Nat.le_of_ble_eq_true rfl) dX0_pictureByte_45 ⟨Nat.zero_le _, Nat.zero_le _⟩) hw (fun H locs hw => ?_)
      obtain ⟨r4, hc, h⟩ := bd1_o h
      refine go_i (run_V (As := [.int r3]) (rest := []) hC hw (c_X0_cellByte l D q k N σ r3 r4 hc) kw_157 kw_159 kw_160 kw_1 kw_158 hd_X0_cellByte ⟨rfl, rfl⟩ ⟨Nat.le_of_ble_eq_true rfl, Nat.le_of_ble_eq_true rfl⟩ 1 rfl rfl rfl hl.1 rfl (Nat.le_of_ble_eq_true rfl) dX0_pictureByte_48 ⟨Nat.zero_le _, Nat.zero_le _⟩) hw (fun H locs hw => ?_)
      cases h
      exact ret_i hC hw dX0_pictureByte_51
    · have h := if_t h c
      refine lv_bipush (v := 10) hx hb dX0_pictureByte_36 (by decide) ?_
      refine lv_goto (tgt := 51) hx hb dX0_pictureByte_38 (by decide) ?_
      cases h
      exact ret_i hC hw dX0_pictureByte_51
  · have h := if_f h c
    refine lv_iconst (v := -1) hx hb dX0_pictureByte_26 (by decide) ?_
    cases h
    exact ret_i hC hw dX0_pictureByte_27

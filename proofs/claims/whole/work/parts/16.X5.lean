/-! SlideBoards$TileGraph.addNode()I -/
abbrev rm_X5_addNode : Room := { frames := 0, cells := 0, slots := 0, locals := 0 }
def lp_X5_addNode_23 (N : Nat) : Nat → St → Int32 → Option (Int32 × St)
  | 0, _, _ => none
  | n + 1, σ, x1 => if (σ.1 15) ≤ x1 then (some ((σ.1 15) - (1 : Int32), σ)) else (gd (okx x1 8) (nm (sA σ 15 x1 x1) (fun σ2 => nm (x1 + (1 : Int32)) (fun y3 => lp_X5_addNode_23 N n σ2 y3))))
set_option maxRecDepth 100000 in
set_option maxHeartbeats 4000000 in
theorem w_X5_addNode_23 {p : Program} {l : Launch} {e : Env} {s : State} {m : MethodId} {below : List Frame} {meth : Method} {c : Code} {args : Array Value} {D : va_G} {q : Nat → Nat} {k : cK} {ws0 : va_W} (hC : Cx p s m meth c cX5_addNode RX5 2 (some .int)) (N : Nat) (r : Int32) (σ' : St) :
    ∀ (n : Nat) (σ : St) (x1 : Int32) (H : Heap) (locs : List Loc) (ls : Array Slot), lp_X5_addNode_23 N n σ x1 = some (r, σ') → WH D (CW q k σ) k (AQ ws0) s s.heap H locs → lv_has ls 2 [(0, .ref (q 23)), (1, .int x1)] → W p l e rm_X5_addNode s m args below meth c H locs 0 0 (MQ below (QR D ws0 (CW q k σ') (some (.int r))) args s 0 0 (AQ ws0)) (F0 m 23 ls []) := by
  have hx := hC.1
  have hb := hC.2.1
  intro n
  induction n with
  | zero =>
    intro σ x1 H locs ls h
    cases h
  | succ n ih =>
    intro σ x1 H locs ls h hw hl
    rw [lp_X5_addNode_23] at h
    refine lv_iload_n hx hb dX5_addNode_23 rfl (lv_at hl 1 rfl) ?_
    refine lv_aload_n hx hb dX5_addNode_24 rfl (lv_at hl 0 rfl) ?_
    refine C_g_X5_30 hC hw dX5_addNode_25 ?_
    refine lv_icmp_ge (tgt := 44) hx hb dX5_addNode_28 (by decide) (fun c => ?_) (fun c => ?_)
    · have h := if_t h c
      refine lv_aload_n hx hb dX5_addNode_44 rfl (lv_at hl 0 rfl) ?_
      refine C_g_X5_30 hC hw dX5_addNode_45 ?_
      refine lv_iconst (v := 1) hx hb dX5_addNode_48 (by decide) ?_
      refine lv_isub hx hb dX5_addNode_49 ?_
      cases h
      exact ret_i hC hw dX5_addNode_50
    · have h := if_f h c
      refine lv_aload_n hx hb dX5_addNode_31 rfl (lv_at hl 0 rfl) ?_
      refine C_g_X5_9 hC hw dX5_addNode_32 ?_
      refine lv_iload_n hx hb dX5_addNode_35 rfl (lv_at hl 1 rfl) ?_
      refine lv_iload_n hx hb dX5_addNode_36 rfl (lv_at hl 1 rfl) ?_
      obtain ⟨hin, h⟩ := gd_o h
      refine C_st24 hC hw hin dX5_addNode_37 (fun σ2 eσ2 H locs hw => ?_)
      have h := nm_o h σ2 eσ2
      obtain ⟨y3, ey3⟩ : ∃ y : Int32, y = x1 + (1 : Int32) := ⟨_, rfl⟩
      have h := nm_o h y3 ey3
      refine lv_iinc (v := y3) (lv' := [(1, .int y3), (0, .ref (q 23))]) hx hb dX5_addNode_38 hl (k := 1) rfl (by rw [ey3]; rfl) (by decide) rfl (fun ls hl => ?_)
      refine lv_goto (tgt := 23) hx hb dX5_addNode_41 (by decide) ?_
      exact ih σ2 y3 _ _ ls h hw (lv_sub hl [1, 0] rfl)
def f_X5_addNode (N : Nat) (σ : St) : Option (Int32 × St) :=
  if (σ.1 15) < (8 : Int32) then (nm (sI σ 15 ((σ.1 15) + (1 : Int32))) (fun σ1 => lp_X5_addNode_23 N N σ1 (0 : Int32))) else (some ((-1 : Int32), σ))
set_option maxRecDepth 100000 in
set_option maxHeartbeats 4000000 in
theorem c_X5_addNode (l : Launch) (D : va_G) (q : Nat → Nat) (k : cK) (N : Nat) (σ : St) (r : Int32) (σ' : St) (h : f_X5_addNode N σ = some (r, σ')) :
    Met l yX5_addNode [.code yX5_addNode cX5_addNode 2 (some .int)] rm_X5_addNode (PC D (CW q k σ) k [.ref (q 23)]) (QR D (CW q k σ) (CW q k σ') (some (.int r))) 0 0 (AQ (CW q k σ)) := by
  refine met_of (by decide) (Nat.le_of_ble_eq_true rfl) ?_
  intro p e s m below meth c hC hw ls hl
  have hC : Cx p s m meth c cX5_addNode RX5 2 (some .int) := hC
  have hl : lv_has ls 2 [(0, .ref (q 23))] := hl
  have hx := hC.1
  have hb := hC.2.1
  unfold f_X5_addNode at h
  refine lv_aload_n hx hb dX5_addNode_0 rfl (lv_at hl 0 rfl) ?_
  refine C_g_X5_30 hC hw dX5_addNode_1 ?_
  refine lv_bipush (v := 8) hx hb dX5_addNode_4 (by decide) ?_
  refine lv_icmp_lt (tgt := 11) hx hb dX5_addNode_6 (by decide) (fun c => ?_) (fun c => ?_)
  · have h := if_t h c
    refine lv_aload_n hx hb dX5_addNode_11 rfl (lv_at hl 0 rfl) ?_
    refine lv_dup hx hb dX5_addNode_12 rfl ?_
    refine C_g_X5_30 hC hw dX5_addNode_13 ?_
    refine lv_iconst (v := 1) hx hb dX5_addNode_16 (by decide) ?_
    refine lv_iadd hx hb dX5_addNode_17 ?_
    refine C_p_X5_30 hC hw dX5_addNode_18 (fun σ1 eσ1 H locs hw => ?_)
    have h := nm_o h σ1 eσ1
    refine lv_iconst (v := 0) hx hb dX5_addNode_21 (by decide) ?_
    refine lv_istore_n (lv' := [(1, .int (0 : Int32)), (0, .ref (q 23))]) hx hb dX5_addNode_22 rfl hl (by decide) rfl (fun ls hl => ?_)
    exact w_X5_addNode_23 hC N r σ' N σ1 (0 : Int32) _ _ ls h hw (lv_sub hl [1, 0] rfl)
  · have h := if_f h c
    refine lv_iconst (v := -1) hx hb dX5_addNode_9 (by decide) ?_
    cases h
    exact ret_i hC hw dX5_addNode_10
/-! SlideBoards$TileGraph.areJoined(II)Z -/
abbrev rm_X5_areJoined : Room := { frames := 0, cells := 0, slots := 0, locals := 0 }
def f_X5_areJoined (N : Nat) (σ : St) (a0 : Int32) (a1 : Int32) : Option Int32 :=
  gd (okx a0 8) (if ((jushr (ra σ 16 a0) a1) &&& (1 : Int32)) = 0 then (some (0 : Int32)) else (some (1 : Int32)))
set_option maxRecDepth 100000 in
set_option maxHeartbeats 4000000 in
theorem c_X5_areJoined (l : Launch) (D : va_G) (q : Nat → Nat) (k : cK) (N : Nat) (σ : St) (a0 : Int32) (a1 : Int32) (r : Int32) (h : f_X5_areJoined N σ a0 a1 = some r) :
    Met l yX5_areJoined [.code yX5_areJoined cX5_areJoined 3 (some .boolean)] rm_X5_areJoined (PC D (CW q k σ) k [.ref (q 23), .int a0, .int a1]) (QR D (CW q k σ) (CW q k σ) (some (.int r))) 0 0 (AQ (CW q k σ)) := by
  refine met_of (by decide) (Nat.le_of_ble_eq_true rfl) ?_
  intro p e s m below meth c hC hw ls hl
  have hC : Cx p s m meth c cX5_areJoined RX5 3 (some .boolean) := hC
  have hl : lv_has ls 3 [(0, .ref (q 23)), (1, .int a0), (2, .int a1)] := hl
  have hx := hC.1
  have hb := hC.2.1
  unfold f_X5_areJoined at h
  refine lv_aload_n hx hb dX5_areJoined_0 rfl (lv_at hl 0 rfl) ?_
  refine C_g_X5_15 hC hw dX5_areJoined_1 ?_
  refine lv_iload_n hx hb dX5_areJoined_4 rfl (lv_at hl 1 rfl) ?_
  obtain ⟨hin, h⟩ := gd_o h
  refine C_ld25 hC hw hin dX5_areJoined_5 ?_
  refine lv_iload_n hx hb dX5_areJoined_6 rfl (lv_at hl 2 rfl) ?_
  refine lv_iushr (v := jushr (ra σ 16 a0) a1) hx hb dX5_areJoined_7 rfl ?_
  refine lv_iconst (v := 1) hx hb dX5_areJoined_8 (by decide) ?_
  refine lv_iand hx hb dX5_areJoined_9 ?_
  refine lv_if_eq (tgt := 17) hx hb dX5_areJoined_10 (by decide) (fun c => ?_) (fun c => ?_)
  · have h := if_t h c
    refine lv_iconst (v := 0) hx hb dX5_areJoined_17 (by decide) ?_
    cases h
    exact ret_z hC (Or.inl rfl) hw dX5_areJoined_18
  · have h := if_f h c
    refine lv_iconst (v := 1) hx hb dX5_areJoined_13 (by decide) ?_
    refine lv_goto (tgt := 18) hx hb dX5_areJoined_14 (by decide) ?_
    cases h
    exact ret_z hC (Or.inr rfl) hw dX5_areJoined_18
/-! SlideBoards$TileGraph.addLine(II)Z -/
abbrev rm_X5_addLine : Room := { frames := 1, cells := 0, slots := 0, locals := 22 }
def f_X5_addLine (N : Nat) (σ : St) (a0 : Int32) (a1 : Int32) : Option (Int32 × St) :=
  if a0 = a1 then (some ((0 : Int32), σ)) else (bd1 (f_X5_areJoined N σ a0 a1) (fun r1 => if r1 = 0 then (gd (okx a0 8) (gd (okx a0 8) (nm (sA σ 16 a0 ((ra σ 16 a0) ||| (jshl (1 : Int32) a1))) (fun σ2 => gd (okx a1 8) (gd (okx a1 8) (nm (sA σ2 16 a1 ((ra σ2 16 a1) ||| (jshl (1 : Int32) a0))) (fun σ3 => some ((1 : Int32), σ3)))))))) else (some ((0 : Int32), σ))))
set_option maxRecDepth 100000 in
set_option maxHeartbeats 4000000 in
theorem c_X5_addLine (l : Launch) (D : va_G) (q : Nat → Nat) (k : cK) (N : Nat) (σ : St) (a0 : Int32) (a1 : Int32) (r : Int32) (σ' : St) (h : f_X5_addLine N σ a0 a1 = some (r, σ')) :
    Met l yX5_addLine [.code yX5_addLine cX5_addLine 3 (some .boolean)] rm_X5_addLine (PC D (CW q k σ) k [.ref (q 23), .int a0, .int a1]) (QR D (CW q k σ) (CW q k σ') (some (.int r))) 0 0 (AQ (CW q k σ)) := by
  refine met_of (by decide) (Nat.le_of_ble_eq_true rfl) ?_
  intro p e s m below meth c hC hw ls hl
  have hC : Cx p s m meth c cX5_addLine RX5 3 (some .boolean) := hC
  have hl : lv_has ls 3 [(0, .ref (q 23)), (1, .int a0), (2, .int a1)] := hl
  have hx := hC.1
  have hb := hC.2.1
  unfold f_X5_addLine at h
  refine lv_iload_n hx hb dX5_addLine_0 rfl (lv_at hl 1 rfl) ?_
  refine lv_iload_n hx hb dX5_addLine_1 rfl (lv_at hl 2 rfl) ?_
  refine lv_icmp_eq (tgt := 14) hx hb dX5_addLine_2 (by decide) (fun c => ?_) (fun c => ?_)
  · have h := if_t h c
    refine lv_iconst (v := 0) hx hb dX5_addLine_14 (by decide) ?_
    cases h
    exact ret_z hC (Or.inl rfl) hw dX5_addLine_15
  · have h := if_f h c
    refine lv_aload_n hx hb dX5_addLine_5 rfl (lv_at hl 0 rfl) ?_
    refine lv_iload_n hx hb dX5_addLine_6 rfl (lv_at hl 1 rfl) ?_
    refine lv_iload_n hx hb dX5_addLine_7 rfl (lv_at hl 2 rfl) ?_
    obtain ⟨r1, hc, h⟩ := bd1_o h
    refine go_i (run_V (As := [.int a0, .int a1]) (rest := []) hC hw (c_X5_areJoined l D q k N σ a0 a1 r1 hc) kw_174 kw_176 kw_177 kw_166 kw_175 hd_X5_areJoined ⟨rfl, rfl⟩ ⟨Nat.le_of_ble_eq_true rfl, Nat.le_of_ble_eq_true rfl⟩ 23 rfl rfl rfl hl.1 rfl (Nat.le_of_ble_eq_true rfl) dX5_addLine_8 ⟨Nat.zero_le _, Nat.zero_le _⟩) hw (fun H locs hw => ?_)
    refine lv_if_eq (tgt := 16) hx hb dX5_addLine_11 (by decide) (fun c => ?_) (fun c => ?_)
    · have h := if_t h c
      refine lv_aload_n hx hb dX5_addLine_16 rfl (lv_at hl 0 rfl) ?_
      refine C_g_X5_15 hC hw dX5_addLine_17 ?_
      refine lv_iload_n hx hb dX5_addLine_20 rfl (lv_at hl 1 rfl) ?_
      refine lv_dup2_11 hx hb dX5_addLine_21 rfl rfl ?_
      obtain ⟨hin, h⟩ := gd_o h
      refine C_ld25 hC hw hin dX5_addLine_22 ?_
      refine lv_iconst (v := 1) hx hb dX5_addLine_23 (by decide) ?_
      refine lv_iload_n hx hb dX5_addLine_24 rfl (lv_at hl 2 rfl) ?_
      refine lv_ishl hx hb dX5_addLine_25 ?_
      refine lv_ior hx hb dX5_addLine_26 ?_
      obtain ⟨hin, h⟩ := gd_o h
      refine C_st25 hC hw hin dX5_addLine_27 (fun σ2 eσ2 H locs hw => ?_)
      have h := nm_o h σ2 eσ2
      refine lv_aload_n hx hb dX5_addLine_28 rfl (lv_at hl 0 rfl) ?_
      refine C_g_X5_15 hC hw dX5_addLine_29 ?_
      refine lv_iload_n hx hb dX5_addLine_32 rfl (lv_at hl 2 rfl) ?_
      refine lv_dup2_11 hx hb dX5_addLine_33 rfl rfl ?_
      obtain ⟨hin, h⟩ := gd_o h
      refine C_ld25 hC hw hin dX5_addLine_34 ?_
      refine lv_iconst (v := 1) hx hb dX5_addLine_35 (by decide) ?_
      refine lv_iload_n hx hb dX5_addLine_36 rfl (lv_at hl 1 rfl) ?_
      refine lv_ishl hx hb dX5_addLine_37 ?_
      refine lv_ior hx hb dX5_addLine_38 ?_
      obtain ⟨hin, h⟩ := gd_o h
      refine C_st25 hC hw hin dX5_addLine_39 (fun σ3 eσ3 H locs hw => ?_)
      have h := nm_o h σ3 eσ3
      refine lv_iconst (v := 1) hx hb dX5_addLine_40 (by decide) ?_
      cases h
      exact ret_z hC (Or.inr rfl) hw dX5_addLine_41
    · have h := if_f h c
      refine lv_iconst (v := 0) hx hb dX5_addLine_14 (by decide) ?_
      cases h
      exact ret_z hC (Or.inl rfl) hw dX5_addLine_15
/-! SlideBoards$TileGraph.gapNode()I -/
abbrev rm_X5_gapNode : Room := { frames := 0, cells := 0, slots := 0, locals := 0 }
def lp_X5_gapNode_2 (N : Nat) (σ : St) : Nat → Int32 → Option Int32
  | 0, _ => none
  | n + 1, x1 => if ((σ.1 15) - (1 : Int32)) ≤ x1 then (some x1) else (gd (okx x1 8) (if (ra σ 15 x1) = 0 then (some x1) else (nm (x1 + (1 : Int32)) (fun y1 => lp_X5_gapNode_2 N σ n y1))))
set_option maxRecDepth 100000 in
set_option maxHeartbeats 4000000 in
theorem w_X5_gapNode_2 {p : Program} {l : Launch} {e : Env} {s : State} {m : MethodId} {below : List Frame} {meth : Method} {c : Code} {args : Array Value} {D : va_G} {q : Nat → Nat} {k : cK} {ws0 : va_W} (hC : Cx p s m meth c cX5_gapNode RX5 2 (some .int)) (N : Nat) (σ : St) (r : Int32) :
    ∀ (n : Nat) (x1 : Int32) (H : Heap) (locs : List Loc) (ls : Array Slot), lp_X5_gapNode_2 N σ n x1 = some r → WH D (CW q k σ) k (AQ ws0) s s.heap H locs → lv_has ls 2 [(0, .ref (q 23)), (1, .int x1)] → W p l e rm_X5_gapNode s m args below meth c H locs 0 0 (MQ below (QR D ws0 (CW q k σ) (some (.int r))) args s 0 0 (AQ ws0)) (F0 m 2 ls []) := by
  have hx := hC.1
  have hb := hC.2.1
  intro n
  induction n with
  | zero =>
    intro x1 H locs ls h
    cases h
  | succ n ih =>
    intro x1 H locs ls h hw hl
    rw [lp_X5_gapNode_2] at h
    refine lv_iload_n hx hb dX5_gapNode_2 rfl (lv_at hl 1 rfl) ?_
    refine lv_aload_n hx hb dX5_gapNode_3 rfl (lv_at hl 0 rfl) ?_
    refine C_g_X5_30 hC hw dX5_gapNode_4 ?_
    refine lv_iconst (v := 1) hx hb dX5_gapNode_7 (by decide) ?_
    refine lv_isub hx hb dX5_gapNode_8 ?_
    refine lv_icmp_ge (tgt := 27) hx hb dX5_gapNode_9 (by decide) (fun c => ?_) (fun c => ?_)
    · have h := if_t h c
      refine lv_iload_n hx hb dX5_gapNode_27 rfl (lv_at hl 1 rfl) ?_
      cases h
      exact ret_i hC hw dX5_gapNode_28
    · have h := if_f h c
      refine lv_aload_n hx hb dX5_gapNode_12 rfl (lv_at hl 0 rfl) ?_
      refine C_g_X5_9 hC hw dX5_gapNode_13 ?_
      refine lv_iload_n hx hb dX5_gapNode_16 rfl (lv_at hl 1 rfl) ?_
      obtain ⟨hin, h⟩ := gd_o h
      refine C_ld24 hC hw hin dX5_gapNode_17 ?_
      refine lv_if_eq (tgt := 27) hx hb dX5_gapNode_18 (by decide) (fun c => ?_) (fun c => ?_)
      · have h := if_t h c
        refine lv_iload_n hx hb dX5_gapNode_27 rfl (lv_at hl 1 rfl) ?_
        cases h
        exact ret_i hC hw dX5_gapNode_28
      · have h := if_f h c
        obtain ⟨y1, ey1⟩ : ∃ y : Int32, y = x1 + (1 : Int32) := ⟨_, rfl⟩
        have h := nm_o h y1 ey1
        refine lv_iinc (v := y1) (lv' := [(1, .int y1), (0, .ref (q 23))]) hx hb dX5_gapNode_21 hl (k := 1) rfl (by rw [ey1]; rfl) (by decide) rfl (fun ls hl => ?_)
        refine lv_goto (tgt := 2) hx hb dX5_gapNode_24 (by decide) ?_
        exact ih y1 _ _ ls h hw (lv_sub hl [1, 0] rfl)
def f_X5_gapNode (N : Nat) (σ : St) : Option Int32 :=
  lp_X5_gapNode_2 N σ N (0 : Int32)
set_option maxRecDepth 100000 in
set_option maxHeartbeats 4000000 in
theorem c_X5_gapNode (l : Launch) (D : va_G) (q : Nat → Nat) (k : cK) (N : Nat) (σ : St) (r : Int32) (h : f_X5_gapNode N σ = some r) :
    Met l yX5_gapNode [.code yX5_gapNode cX5_gapNode 2 (some .int)] rm_X5_gapNode (PC D (CW q k σ) k [.ref (q 23)]) (QR D (CW q k σ) (CW q k σ) (some (.int r))) 0 0 (AQ (CW q k σ)) := by
  refine met_of (by decide) (Nat.le_of_ble_eq_true rfl) ?_
  intro p e s m below meth c hC hw ls hl
  have hC : Cx p s m meth c cX5_gapNode RX5 2 (some .int) := hC
  have hl : lv_has ls 2 [(0, .ref (q 23))] := hl
  have hx := hC.1
  have hb := hC.2.1
  unfold f_X5_gapNode at h
  refine lv_iconst (v := 0) hx hb dX5_gapNode_0 (by decide) ?_
  refine lv_istore_n (lv' := [(1, .int (0 : Int32)), (0, .ref (q 23))]) hx hb dX5_gapNode_1 rfl hl (by decide) rfl (fun ls hl => ?_)
  exact w_X5_gapNode_2 hC N σ r N (0 : Int32) _ _ ls h hw (lv_sub hl [1, 0] rfl)
/-! SlideBoards$TileGraph.exchange(II)Z -/
abbrev rm_X5_exchange : Room := { frames := 0, cells := 0, slots := 0, locals := 0 }
def f_X5_exchange (N : Nat) (σ : St) (a0 : Int32) (a1 : Int32) : Option (Int32 × St) :=
  if a0 = a1 then (some ((0 : Int32), σ)) else (gd (okx a0 8) (nm (ra σ 15 a0) (fun y1 => gd (okx a1 8) (gd (okx a0 8) (nm (sA σ 15 a0 (ra σ 15 a1)) (fun σ2 => gd (okx a1 8) (nm (sA σ2 15 a1 y1) (fun σ3 => some ((1 : Int32), σ3)))))))))
set_option maxRecDepth 100000 in
set_option maxHeartbeats 4000000 in
theorem c_X5_exchange (l : Launch) (D : va_G) (q : Nat → Nat) (k : cK) (N : Nat) (σ : St) (a0 : Int32) (a1 : Int32) (r : Int32) (σ' : St) (h : f_X5_exchange N σ a0 a1 = some (r, σ')) :
    Met l yX5_exchange [.code yX5_exchange cX5_exchange 4 (some .boolean)] rm_X5_exchange (PC D (CW q k σ) k [.ref (q 23), .int a0, .int a1]) (QR D (CW q k σ) (CW q k σ') (some (.int r))) 0 0 (AQ (CW q k σ)) := by
  refine met_of (by decide) (Nat.le_of_ble_eq_true rfl) ?_
  intro p e s m below meth c hC hw ls hl
  have hC : Cx p s m meth c cX5_exchange RX5 4 (some .boolean) := hC
  have hl : lv_has ls 4 [(0, .ref (q 23)), (1, .int a0), (2, .int a1)] := hl
  have hx := hC.1
  have hb := hC.2.1
  unfold f_X5_exchange at h
  refine lv_iload_n hx hb dX5_exchange_0 rfl (lv_at hl 1 rfl) ?_
  refine lv_iload_n hx hb dX5_exchange_1 rfl (lv_at hl 2 rfl) ?_
  refine lv_icmp_ne (tgt := 7) hx hb dX5_exchange_2 (by decide) (fun c => ?_) (fun c => ?_)
  · have h := if_f h c
    refine lv_aload_n hx hb dX5_exchange_7 rfl (lv_at hl 0 rfl) ?_
    refine C_g_X5_9 hC hw dX5_exchange_8 ?_
    refine lv_iload_n hx hb dX5_exchange_11 rfl (lv_at hl 1 rfl) ?_
    obtain ⟨hin, h⟩ := gd_o h
    refine C_ld24 hC hw hin dX5_exchange_12 ?_
    refine lv_topi (fun y1 ey1 => ?_)
    have h := nm_o h y1 ey1
    refine lv_istore_n (lv' := [(3, .int y1), (0, .ref (q 23)), (1, .int a0), (2, .int a1)]) hx hb dX5_exchange_13 rfl hl (by decide) rfl (fun ls hl => ?_)
    refine lv_aload_n hx hb dX5_exchange_14 rfl (lv_at hl 1 rfl) ?_
    refine C_g_X5_9 hC hw dX5_exchange_15 ?_
    refine lv_iload_n hx hb dX5_exchange_18 rfl (lv_at hl 2 rfl) ?_
    refine lv_aload_n hx hb dX5_exchange_19 rfl (lv_at hl 1 rfl) ?_
    refine C_g_X5_9 hC hw dX5_exchange_20 ?_
    refine lv_iload_n hx hb dX5_exchange_23 rfl (lv_at hl 3 rfl) ?_
    obtain ⟨hin, h⟩ := gd_o h
    refine C_ld24 hC hw hin dX5_exchange_24 ?_
    obtain ⟨hin, h⟩ := gd_o h
    refine C_st24 hC hw hin dX5_exchange_25 (fun σ2 eσ2 H locs hw => ?_)
    have h := nm_o h σ2 eσ2
    refine lv_aload_n hx hb dX5_exchange_26 rfl (lv_at hl 1 rfl) ?_
    refine C_g_X5_9 hC hw dX5_exchange_27 ?_
    refine lv_iload_n hx hb dX5_exchange_30 rfl (lv_at hl 3 rfl) ?_
    refine lv_iload_n hx hb dX5_exchange_31 rfl (lv_at hl 0 rfl) ?_
    obtain ⟨hin, h⟩ := gd_o h
    refine C_st24 hC hw hin dX5_exchange_32 (fun σ3 eσ3 H locs hw => ?_)
    have h := nm_o h σ3 eσ3
    refine lv_iconst (v := 1) hx hb dX5_exchange_33 (by decide) ?_
    cases h
    exact ret_z hC (Or.inr rfl) hw dX5_exchange_34
  · have h := if_t h c
    refine lv_iconst (v := 0) hx hb dX5_exchange_5 (by decide) ?_
    cases h
    exact ret_z hC (Or.inl rfl) hw dX5_exchange_6
/-! SlideBoards$TileGraph.moveToGap(I)Z -/
abbrev rm_X5_moveToGap : Room := { frames := 1, cells := 0, slots := 0, locals := 23 }
def f_X5_moveToGap (N : Nat) (σ : St) (a0 : Int32) : Option (Int32 × St) :=
  bd1 (f_X5_gapNode N σ) (fun r1 => bd1 (f_X5_areJoined N σ r1 a0) (fun r2 => if r2 = 0 then (some ((0 : Int32), σ)) else (bd (f_X5_exchange N σ r1 a0) (fun r3 σ4 => if r3 = 0 then (some ((0 : Int32), σ4)) else (some ((1 : Int32), σ4))))))
set_option maxRecDepth 100000 in
set_option maxHeartbeats 4000000 in
theorem c_X5_moveToGap (l : Launch) (D : va_G) (q : Nat → Nat) (k : cK) (N : Nat) (σ : St) (a0 : Int32) (r : Int32) (σ' : St) (h : f_X5_moveToGap N σ a0 = some (r, σ')) :
    Met l yX5_moveToGap [.code yX5_moveToGap cX5_moveToGap 3 (some .boolean)] rm_X5_moveToGap (PC D (CW q k σ) k [.ref (q 23), .int a0]) (QR D (CW q k σ) (CW q k σ') (some (.int r))) 0 0 (AQ (CW q k σ)) := by
  refine met_of (by decide) (Nat.le_of_ble_eq_true rfl) ?_
  intro p e s m below meth c hC hw ls hl
  have hC : Cx p s m meth c cX5_moveToGap RX5 3 (some .boolean) := hC
  have hl : lv_has ls 3 [(0, .ref (q 23)), (1, .int a0)] := hl
  have hx := hC.1
  have hb := hC.2.1
  unfold f_X5_moveToGap at h
  refine lv_aload_n hx hb dX5_moveToGap_0 rfl (lv_at hl 0 rfl) ?_
  obtain ⟨r1, hc, h⟩ := bd1_o h
  refine go_i (run_V (As := []) (rest := []) hC hw (c_X5_gapNode l D q k N σ r1 hc) kw_182 kw_184 kw_185 kw_166 kw_183 hd_X5_gapNode ⟨rfl, rfl⟩ ⟨Nat.le_of_ble_eq_true rfl, Nat.le_of_ble_eq_true rfl⟩ 23 rfl rfl rfl hl.1 rfl (Nat.le_of_ble_eq_true rfl) dX5_moveToGap_1 ⟨Nat.zero_le _, Nat.zero_le _⟩) hw (fun H locs hw => ?_)
  refine lv_istore_n (lv' := [(2, .int r1), (0, .ref (q 23)), (1, .int a0)]) hx hb dX5_moveToGap_4 rfl hl (by decide) rfl (fun ls hl => ?_)
  refine lv_aload_n hx hb dX5_moveToGap_5 rfl (lv_at hl 1 rfl) ?_
  refine lv_iload_n hx hb dX5_moveToGap_6 rfl (lv_at hl 0 rfl) ?_
  refine lv_iload_n hx hb dX5_moveToGap_7 rfl (lv_at hl 2 rfl) ?_
  obtain ⟨r2, hc, h⟩ := bd1_o h
  refine go_i (run_V (As := [.int r1, .int a0]) (rest := []) hC hw (c_X5_areJoined l D q k N σ r1 a0 r2 hc) kw_174 kw_176 kw_177 kw_166 kw_175 hd_X5_areJoined ⟨rfl, rfl⟩ ⟨Nat.le_of_ble_eq_true rfl, Nat.le_of_ble_eq_true rfl⟩ 23 rfl rfl rfl hl.1 rfl (Nat.le_of_ble_eq_true rfl) dX5_moveToGap_8 ⟨Nat.zero_le _, Nat.zero_le _⟩) hw (fun H locs hw => ?_)
  refine lv_if_eq (tgt := 27) hx hb dX5_moveToGap_11 (by decide) (fun c => ?_) (fun c => ?_)
  · have h := if_t h c
    refine lv_iconst (v := 0) hx hb dX5_moveToGap_27 (by decide) ?_
    cases h
    exact ret_z hC (Or.inl rfl) hw dX5_moveToGap_28
  · have h := if_f h c
    refine lv_aload_n hx hb dX5_moveToGap_14 rfl (lv_at hl 1 rfl) ?_
    refine lv_iload_n hx hb dX5_moveToGap_15 rfl (lv_at hl 0 rfl) ?_
    refine lv_iload_n hx hb dX5_moveToGap_16 rfl (lv_at hl 2 rfl) ?_
    obtain ⟨r3, σ4, hc, h⟩ := bd_o h
    refine go_i (run_V (As := [.int r1, .int a0]) (rest := []) hC hw (c_X5_exchange l D q k N σ r1 a0 r3 σ4 hc) kw_186 kw_188 kw_189 kw_166 kw_187 hd_X5_exchange ⟨rfl, rfl⟩ ⟨Nat.le_of_ble_eq_true rfl, Nat.le_of_ble_eq_true rfl⟩ 23 rfl rfl rfl hl.1 rfl (Nat.le_of_ble_eq_true rfl) dX5_moveToGap_17 ⟨Nat.zero_le _, Nat.zero_le _⟩) hw (fun H locs hw => ?_)
    refine lv_if_eq (tgt := 27) hx hb dX5_moveToGap_20 (by decide) (fun c => ?_) (fun c => ?_)
    · have h := if_t h c
      refine lv_iconst (v := 0) hx hb dX5_moveToGap_27 (by decide) ?_
      cases h
      exact ret_z hC (Or.inl rfl) hw dX5_moveToGap_28
    · have h := if_f h c
      refine lv_iconst (v := 1) hx hb dX5_moveToGap_23 (by decide) ?_
      refine lv_goto (tgt := 28) hx hb dX5_moveToGap_24 (by decide) ?_
      cases h
      exact ret_z hC (Or.inr rfl) hw dX5_moveToGap_28
/-! SlideBoards$TileGraph.spreadDistances()V -/
abbrev rm_X5_spreadDistances : Room := { frames := 1, cells := 0, slots := 0, locals := 22 }
def lp_X5_spreadDistances_22 (N : Nat) (x1 : Int32) (x2 : Int32) (K12 : St → Int32 → Option St) : Nat → St → Int32 → Option St
  | 0, _, _ => none
  | n + 1, σ, x3 => if (σ.1 15) ≤ x3 then (nm (x2 + (1 : Int32)) (fun y2 => K12 σ y2)) else (gd (okx x2 8) (if (ra σ 17 x2) = x1 then (gd (okx x3 8) (if (ra σ 17 x3) = (-1 : Int32) then (bd1 (f_X5_areJoined N σ x2 x3) (fun r5 => if r5 = 0 then (nm (x3 + (1 : Int32)) (fun y6 => lp_X5_spreadDistances_22 N x1 x2 K12 n σ y6)) else (gd (okx x3 8) (nm (sA σ 17 x3 (x1 + (1 : Int32))) (fun σ7 => nm (x3 + (1 : Int32)) (fun y8 => lp_X5_spreadDistances_22 N x1 x2 K12 n σ7 y8)))))) else (nm (x3 + (1 : Int32)) (fun y4 => lp_X5_spreadDistances_22 N x1 x2 K12 n σ y4)))) else (nm (x3 + (1 : Int32)) (fun y3 => lp_X5_spreadDistances_22 N x1 x2 K12 n σ y3))))
set_option maxRecDepth 100000 in
set_option maxHeartbeats 4000000 in
theorem w_X5_spreadDistances_22 {p : Program} {l : Launch} {e : Env} {s : State} {m : MethodId} {below : List Frame} {meth : Method} {c : Code} {args : Array Value} {D : va_G} {q : Nat → Nat} {k : cK} {ws0 : va_W} (hC : Cx p s m meth c cX5_spreadDistances RX5 4 none) (N : Nat) (x1 : Int32) (x2 : Int32) (σ' : St) (K12 : St → Int32 → Option St) (hK12 : ∀ (σ : St) (x2 : Int32) (H : Heap) (locs : List Loc) (ls : Array Slot), K12 σ x2 = some σ' → WH D (CW q k σ) k (AQ ws0) s s.heap H locs → lv_has ls 4 [(0, .ref (q 23)), (1, .int x1), (2, .int x2)] → W p l e rm_X5_spreadDistances s m args below meth c H locs 0 0 (MQ below (QR D ws0 (CW q k σ') none) args s 0 0 (AQ ws0)) (F0 m 12 ls [])) :
    ∀ (n : Nat) (σ : St) (x3 : Int32) (H : Heap) (locs : List Loc) (ls : Array Slot), lp_X5_spreadDistances_22 N x1 x2 K12 n σ x3 = some σ' → WH D (CW q k σ) k (AQ ws0) s s.heap H locs → lv_has ls 4 [(0, .ref (q 23)), (1, .int x1), (2, .int x2), (3, .int x3)] → W p l e rm_X5_spreadDistances s m args below meth c H locs 0 0 (MQ below (QR D ws0 (CW q k σ') none) args s 0 0 (AQ ws0)) (F0 m 22 ls []) := by
  have hx := hC.1
  have hb := hC.2.1
  intro n
  induction n with
  | zero =>
    intro σ x3 H locs ls h
    cases h
  | succ n ih =>
    intro σ x3 H locs ls h hw hl
    rw [lp_X5_spreadDistances_22] at h
    refine lv_iload_n hx hb dX5_spreadDistances_22 rfl (lv_at hl 3 rfl) ?_
    refine lv_aload_n hx hb dX5_spreadDistances_23 rfl (lv_at hl 0 rfl) ?_
    refine C_g_X5_30 hC hw dX5_spreadDistances_24 ?_
    refine lv_icmp_ge (tgt := 74) hx hb dX5_spreadDistances_27 (by decide) (fun c => ?_) (fun c => ?_)
    · have h := if_t h c
      obtain ⟨y2, ey2⟩ : ∃ y : Int32, y = x2 + (1 : Int32) := ⟨_, rfl⟩
      have h := nm_o h y2 ey2
      refine lv_iinc (v := y2) (lv' := [(2, .int y2), (0, .ref (q 23)), (1, .int x1), (3, .int x3)]) hx hb dX5_spreadDistances_74 hl (k := 2) rfl (by rw [ey2]; rfl) (by decide) rfl (fun ls hl => ?_)
      refine lv_goto (tgt := 12) hx hb dX5_spreadDistances_77 (by decide) ?_
      exact hK12 σ y2 _ _ ls h hw (lv_sub hl [1, 2, 0] rfl)
    · have h := if_f h c
      refine lv_aload_n hx hb dX5_spreadDistances_30 rfl (lv_at hl 0 rfl) ?_
      refine C_g_X5_18 hC hw dX5_spreadDistances_31 ?_
      refine lv_iload_n hx hb dX5_spreadDistances_34 rfl (lv_at hl 2 rfl) ?_
      obtain ⟨hin, h⟩ := gd_o h
      refine C_ld26 hC hw hin dX5_spreadDistances_35 ?_
      refine lv_iload_n hx hb dX5_spreadDistances_36 rfl (lv_at hl 1 rfl) ?_
      refine lv_icmp_ne (tgt := 68) hx hb dX5_spreadDistances_37 (by decide) (fun c => ?_) (fun c => ?_)
      · have h := if_f h c
        obtain ⟨y3, ey3⟩ : ∃ y : Int32, y = x3 + (1 : Int32) := ⟨_, rfl⟩
        have h := nm_o h y3 ey3
        refine lv_iinc (v := y3) (lv' := [(3, .int y3), (0, .ref (q 23)), (1, .int x1), (2, .int x2)]) hx hb dX5_spreadDistances_68 hl (k := 3) rfl (by rw [ey3]; rfl) (by decide) rfl (fun ls hl => ?_)
        refine lv_goto (tgt := 22) hx hb dX5_spreadDistances_71 (by decide) ?_
        exact ih σ y3 _ _ ls h hw (lv_sub hl [1, 2, 3, 0] rfl)
      · have h := if_t h c
        refine lv_aload_n hx hb dX5_spreadDistances_40 rfl (lv_at hl 0 rfl) ?_
        refine C_g_X5_18 hC hw dX5_spreadDistances_41 ?_
        refine lv_iload_n hx hb dX5_spreadDistances_44 rfl (lv_at hl 3 rfl) ?_
        obtain ⟨hin, h⟩ := gd_o h
        refine C_ld26 hC hw hin dX5_spreadDistances_45 ?_
        refine lv_iconst (v := -1) hx hb dX5_spreadDistances_46 (by decide) ?_
        refine lv_icmp_ne (tgt := 68) hx hb dX5_spreadDistances_47 (by decide) (fun c => ?_) (fun c => ?_)
        · have h := if_f h c
          obtain ⟨y4, ey4⟩ : ∃ y : Int32, y = x3 + (1 : Int32) := ⟨_, rfl⟩
          have h := nm_o h y4 ey4
          refine lv_iinc (v := y4) (lv' := [(3, .int y4), (0, .ref (q 23)), (1, .int x1), (2, .int x2)]) hx hb dX5_spreadDistances_68 hl (k := 3) rfl (by rw [ey4]; rfl) (by decide) rfl (fun ls hl => ?_)
          refine lv_goto (tgt := 22) hx hb dX5_spreadDistances_71 (by decide) ?_
          exact ih σ y4 _ _ ls h hw (lv_sub hl [1, 2, 3, 0] rfl)
        · have h := if_t h c
          refine lv_aload_n hx hb dX5_spreadDistances_50 rfl (lv_at hl 0 rfl) ?_
          refine lv_iload_n hx hb dX5_spreadDistances_51 rfl (lv_at hl 2 rfl) ?_
          refine lv_iload_n hx hb dX5_spreadDistances_52 rfl (lv_at hl 3 rfl) ?_
          obtain ⟨r5, hc, h⟩ := bd1_o h
          refine go_i (run_V (As := [.int x2, .int x3]) (rest := []) hC hw (c_X5_areJoined l D q k N σ x2 x3 r5 hc) kw_174 kw_176 kw_177 kw_166 kw_175 hd_X5_areJoined ⟨rfl, rfl⟩ ⟨Nat.le_of_ble_eq_true rfl, Nat.le_of_ble_eq_true rfl⟩ 23 rfl rfl rfl hl.1 rfl (Nat.le_of_ble_eq_true rfl) dX5_spreadDistances_53 ⟨Nat.zero_le _, Nat.zero_le _⟩) hw (fun H locs hw => ?_)
          refine lv_if_eq (tgt := 68) hx hb dX5_spreadDistances_56 (by decide) (fun c => ?_) (fun c => ?_)
          · have h := if_t h c
            obtain ⟨y6, ey6⟩ : ∃ y : Int32, y = x3 + (1 : Int32) := ⟨_, rfl⟩
            have h := nm_o h y6 ey6
            refine lv_iinc (v := y6) (lv' := [(3, .int y6), (0, .ref (q 23)), (1, .int x1), (2, .int x2)]) hx hb dX5_spreadDistances_68 hl (k := 3) rfl (by rw [ey6]; rfl) (by decide) rfl (fun ls hl => ?_)
            refine lv_goto (tgt := 22) hx hb dX5_spreadDistances_71 (by decide) ?_
            exact ih σ y6 _ _ ls h hw (lv_sub hl [1, 2, 3, 0] rfl)
          · have h := if_f h c
            refine lv_aload_n hx hb dX5_spreadDistances_59 rfl (lv_at hl 0 rfl) ?_
            refine C_g_X5_18 hC hw dX5_spreadDistances_60 ?_
            refine lv_iload_n hx hb dX5_spreadDistances_63 rfl (lv_at hl 3 rfl) ?_
            refine lv_iload_n hx hb dX5_spreadDistances_64 rfl (lv_at hl 1 rfl) ?_
            refine lv_iconst (v := 1) hx hb dX5_spreadDistances_65 (by decide) ?_
            refine lv_iadd hx hb dX5_spreadDistances_66 ?_
            obtain ⟨hin, h⟩ := gd_o h
            refine C_st26 hC hw hin dX5_spreadDistances_67 (fun σ7 eσ7 H locs hw => ?_)
            have h := nm_o h σ7 eσ7
            obtain ⟨y8, ey8⟩ : ∃ y : Int32, y = x3 + (1 : Int32) := ⟨_, rfl⟩
            have h := nm_o h y8 ey8
            refine lv_iinc (v := y8) (lv' := [(3, .int y8), (0, .ref (q 23)), (1, .int x1), (2, .int x2)]) hx hb dX5_spreadDistances_68 hl (k := 3) rfl (by rw [ey8]; rfl) (by decide) rfl (fun ls hl => ?_)
            refine lv_goto (tgt := 22) hx hb dX5_spreadDistances_71 (by decide) ?_
            exact ih σ7 y8 _ _ ls h hw (lv_sub hl [1, 2, 3, 0] rfl)
def lp_X5_spreadDistances_12 (N : Nat) (x1 : Int32) (K2 : St → Int32 → Option St) : Nat → St → Int32 → Option St
  | 0, _, _ => none
  | n + 1, σ, x2 => if (σ.1 15) ≤ x2 then (nm (x1 + (1 : Int32)) (fun y1 => K2 σ y1)) else (lp_X5_spreadDistances_22 N x1 x2 (fun v0 v1 => lp_X5_spreadDistances_12 N x1 K2 n v0 v1) N σ (0 : Int32))
set_option maxRecDepth 100000 in
set_option maxHeartbeats 4000000 in
theorem w_X5_spreadDistances_12 {p : Program} {l : Launch} {e : Env} {s : State} {m : MethodId} {below : List Frame} {meth : Method} {c : Code} {args : Array Value} {D : va_G} {q : Nat → Nat} {k : cK} {ws0 : va_W} (hC : Cx p s m meth c cX5_spreadDistances RX5 4 none) (N : Nat) (x1 : Int32) (σ' : St) (K2 : St → Int32 → Option St) (hK2 : ∀ (σ : St) (x1 : Int32) (H : Heap) (locs : List Loc) (ls : Array Slot), K2 σ x1 = some σ' → WH D (CW q k σ) k (AQ ws0) s s.heap H locs → lv_has ls 4 [(0, .ref (q 23)), (1, .int x1)] → W p l e rm_X5_spreadDistances s m args below meth c H locs 0 0 (MQ below (QR D ws0 (CW q k σ') none) args s 0 0 (AQ ws0)) (F0 m 2 ls [])) :
    ∀ (n : Nat) (σ : St) (x2 : Int32) (H : Heap) (locs : List Loc) (ls : Array Slot), lp_X5_spreadDistances_12 N x1 K2 n σ x2 = some σ' → WH D (CW q k σ) k (AQ ws0) s s.heap H locs → lv_has ls 4 [(0, .ref (q 23)), (1, .int x1), (2, .int x2)] → W p l e rm_X5_spreadDistances s m args below meth c H locs 0 0 (MQ below (QR D ws0 (CW q k σ') none) args s 0 0 (AQ ws0)) (F0 m 12 ls []) := by
  have hx := hC.1
  have hb := hC.2.1
  intro n
  induction n with
  | zero =>
    intro σ x2 H locs ls h
    cases h
  | succ n ih =>
    intro σ x2 H locs ls h hw hl
    rw [lp_X5_spreadDistances_12] at h
    refine lv_iload_n hx hb dX5_spreadDistances_12 rfl (lv_at hl 2 rfl) ?_
    refine lv_aload_n hx hb dX5_spreadDistances_13 rfl (lv_at hl 0 rfl) ?_
    refine C_g_X5_30 hC hw dX5_spreadDistances_14 ?_
    refine lv_icmp_ge (tgt := 80) hx hb dX5_spreadDistances_17 (by decide) (fun c => ?_) (fun c => ?_)
    · have h := if_t h c
      obtain ⟨y1, ey1⟩ : ∃ y : Int32, y = x1 + (1 : Int32) := ⟨_, rfl⟩
      have h := nm_o h y1 ey1
      refine lv_iinc (v := y1) (lv' := [(1, .int y1), (0, .ref (q 23)), (2, .int x2)]) hx hb dX5_spreadDistances_80 hl (k := 1) rfl (by rw [ey1]; rfl) (by decide) rfl (fun ls hl => ?_)
      refine lv_goto (tgt := 2) hx hb dX5_spreadDistances_83 (by decide) ?_
      exact hK2 σ y1 _ _ ls h hw (lv_sub hl [1, 0] rfl)
    · have h := if_f h c
      refine lv_iconst (v := 0) hx hb dX5_spreadDistances_20 (by decide) ?_
      refine lv_istore_n (lv' := [(3, .int (0 : Int32)), (0, .ref (q 23)), (1, .int x1), (2, .int x2)]) hx hb dX5_spreadDistances_21 rfl hl (by decide) rfl (fun ls hl => ?_)
      exact w_X5_spreadDistances_22 hC N x1 x2 σ' _ ih N σ (0 : Int32) _ _ ls h hw (lv_sub hl [1, 2, 3, 0] rfl)
def lp_X5_spreadDistances_2 (N : Nat) : Nat → St → Int32 → Option St
  | 0, _, _ => none
  | n + 1, σ, x1 => if (σ.1 15) ≤ x1 then (some σ) else (lp_X5_spreadDistances_12 N x1 (fun v0 v1 => lp_X5_spreadDistances_2 N n v0 v1) N σ (0 : Int32))
set_option maxRecDepth 100000 in
set_option maxHeartbeats 4000000 in
theorem w_X5_spreadDistances_2 {p : Program} {l : Launch} {e : Env} {s : State} {m : MethodId} {below : List Frame} {meth : Method} {c : Code} {args : Array Value} {D : va_G} {q : Nat → Nat} {k : cK} {ws0 : va_W} (hC : Cx p s m meth c cX5_spreadDistances RX5 4 none) (N : Nat) (σ' : St) :
    ∀ (n : Nat) (σ : St) (x1 : Int32) (H : Heap) (locs : List Loc) (ls : Array Slot), lp_X5_spreadDistances_2 N n σ x1 = some σ' → WH D (CW q k σ) k (AQ ws0) s s.heap H locs → lv_has ls 4 [(0, .ref (q 23)), (1, .int x1)] → W p l e rm_X5_spreadDistances s m args below meth c H locs 0 0 (MQ below (QR D ws0 (CW q k σ') none) args s 0 0 (AQ ws0)) (F0 m 2 ls []) := by
  have hx := hC.1
  have hb := hC.2.1
  intro n
  induction n with
  | zero =>
    intro σ x1 H locs ls h
    cases h
  | succ n ih =>
    intro σ x1 H locs ls h hw hl
    rw [lp_X5_spreadDistances_2] at h
    refine lv_iload_n hx hb dX5_spreadDistances_2 rfl (lv_at hl 1 rfl) ?_
    refine lv_aload_n hx hb dX5_spreadDistances_3 rfl (lv_at hl 0 rfl) ?_
    refine C_g_X5_30 hC hw dX5_spreadDistances_4 ?_
    refine lv_icmp_ge (tgt := 86) hx hb dX5_spreadDistances_7 (by decide) (fun c => ?_) (fun c => ?_)
    · have h := if_t h c
      cases h
      exact ret_v hC hw dX5_spreadDistances_86
    · have h := if_f h c
      refine lv_iconst (v := 0) hx hb dX5_spreadDistances_10 (by decide) ?_
      refine lv_istore_n (lv' := [(2, .int (0 : Int32)), (0, .ref (q 23)), (1, .int x1)]) hx hb dX5_spreadDistances_11 rfl hl (by decide) rfl (fun ls hl => ?_)
      exact w_X5_spreadDistances_12 hC N x1 σ' _ ih N σ (0 : Int32) _ _ ls h hw (lv_sub hl [1, 2, 0] rfl)
def f_X5_spreadDistances (N : Nat) (σ : St) : Option St :=
  lp_X5_spreadDistances_2 N N σ (0 : Int32)
set_option maxRecDepth 100000 in
set_option maxHeartbeats 4000000 in
theorem c_X5_spreadDistances (l : Launch) (D : va_G) (q : Nat → Nat) (k : cK) (N : Nat) (σ : St) (σ' : St) (h : f_X5_spreadDistances N σ = some σ') :
    Met l yX5_spreadDistances [.code yX5_spreadDistances cX5_spreadDistances 4 none] rm_X5_spreadDistances (PC D (CW q k σ) k [.ref (q 23)]) (QR D (CW q k σ) (CW q k σ') none) 0 0 (AQ (CW q k σ)) := by
  refine met_of (by decide) (Nat.le_of_ble_eq_true rfl) ?_
  intro p e s m below meth c hC hw ls hl
  have hC : Cx p s m meth c cX5_spreadDistances RX5 4 none := hC
  have hl : lv_has ls 4 [(0, .ref (q 23))] := hl
  have hx := hC.1
  have hb := hC.2.1
  unfold f_X5_spreadDistances at h
  refine lv_iconst (v := 0) hx hb dX5_spreadDistances_0 (by decide) ?_
  refine lv_istore_n (lv' := [(1, .int (0 : Int32)), (0, .ref (q 23))]) hx hb dX5_spreadDistances_1 rfl hl (by decide) rfl (fun ls hl => ?_)
  exact w_X5_spreadDistances_2 hC N σ' N σ (0 : Int32) _ _ ls h hw (lv_sub hl [1, 0] rfl)
/-! SlideBoards$TileGraph.measureDistances()V -/
abbrev rm_X5_measureDistances : Room := { frames := 2, cells := 0, slots := 0, locals := 45 }
def lp_X5_measureDistances_25 (N : Nat) : Nat → St → Int32 → Option St
  | 0, _, _ => none
  | n + 1, σ, x1 => if (σ.1 15) ≤ x1 then (some σ) else (gd (okx x1 8) (if (ra σ 17 x1) = (-1 : Int32) then (gd (okx x1 8) (nm (sA σ 17 x1 (0 : Int32)) (fun σ2 => bd1 (f_X5_spreadDistances N σ2) (fun σ3 => nm (x1 + (1 : Int32)) (fun y4 => lp_X5_measureDistances_25 N n σ3 y4))))) else (nm (x1 + (1 : Int32)) (fun y1 => lp_X5_measureDistances_25 N n σ y1))))
set_option maxRecDepth 100000 in
set_option maxHeartbeats 4000000 in
theorem w_X5_measureDistances_25 {p : Program} {l : Launch} {e : Env} {s : State} {m : MethodId} {below : List Frame} {meth : Method} {c : Code} {args : Array Value} {D : va_G} {q : Nat → Nat} {k : cK} {ws0 : va_W} (hC : Cx p s m meth c cX5_measureDistances RX5 2 none) (N : Nat) (σ' : St) :
    ∀ (n : Nat) (σ : St) (x1 : Int32) (H : Heap) (locs : List Loc) (ls : Array Slot), lp_X5_measureDistances_25 N n σ x1 = some σ' → WH D (CW q k σ) k (AQ ws0) s s.heap H locs → lv_has ls 2 [(0, .ref (q 23)), (1, .int x1)] → W p l e rm_X5_measureDistances s m args below meth c H locs 0 0 (MQ below (QR D ws0 (CW q k σ') none) args s 0 0 (AQ ws0)) (F0 m 25 ls []) := by
  have hx := hC.1
  have hb := hC.2.1
  intro n
  induction n with
  | zero =>
    intro σ x1 H locs ls h
    cases h
  | succ n ih =>
    intro σ x1 H locs ls h hw hl
    rw [lp_X5_measureDistances_25] at h
    refine lv_iload_n hx hb dX5_measureDistances_25 rfl (lv_at hl 1 rfl) ?_
    refine lv_aload_n hx hb dX5_measureDistances_26 rfl (lv_at hl 0 rfl) ?_
    refine C_g_X5_30 hC hw dX5_measureDistances_27 ?_
    refine lv_icmp_ge (tgt := 60) hx hb dX5_measureDistances_30 (by decide) (fun c => ?_) (fun c => ?_)
    · have h := if_t h c
      cases h
      exact ret_v hC hw dX5_measureDistances_60
    · have h := if_f h c
      refine lv_aload_n hx hb dX5_measureDistances_33 rfl (lv_at hl 0 rfl) ?_
      refine C_g_X5_18 hC hw dX5_measureDistances_34 ?_
      refine lv_iload_n hx hb dX5_measureDistances_37 rfl (lv_at hl 1 rfl) ?_
      obtain ⟨hin, h⟩ := gd_o h
      refine C_ld26 hC hw hin dX5_measureDistances_38 ?_
      refine lv_iconst (v := -1) hx hb dX5_measureDistances_39 (by decide) ?_
      refine lv_icmp_ne (tgt := 54) hx hb dX5_measureDistances_40 (by decide) (fun c => ?_) (fun c => ?_)
      · have h := if_f h c
        obtain ⟨y1, ey1⟩ : ∃ y : Int32, y = x1 + (1 : Int32) := ⟨_, rfl⟩
        have h := nm_o h y1 ey1
        refine lv_iinc (v := y1) (lv' := [(1, .int y1), (0, .ref (q 23))]) hx hb dX5_measureDistances_54 hl (k := 1) rfl (by rw [ey1]; rfl) (by decide) rfl (fun ls hl => ?_)
        refine lv_goto (tgt := 25) hx hb dX5_measureDistances_57 (by decide) ?_
        exact ih σ y1 _ _ ls h hw (lv_sub hl [1, 0] rfl)
      · have h := if_t h c
        refine lv_aload_n hx hb dX5_measureDistances_43 rfl (lv_at hl 0 rfl) ?_
        refine C_g_X5_18 hC hw dX5_measureDistances_44 ?_
        refine lv_iload_n hx hb dX5_measureDistances_47 rfl (lv_at hl 1 rfl) ?_
        refine lv_iconst (v := 0) hx hb dX5_measureDistances_48 (by decide) ?_
        obtain ⟨hin, h⟩ := gd_o h
        refine C_st26 hC hw hin dX5_measureDistances_49 (fun σ2 eσ2 H locs hw => ?_)
        have h := nm_o h σ2 eσ2
        refine lv_aload_n hx hb dX5_measureDistances_50 rfl (lv_at hl 0 rfl) ?_
        obtain ⟨σ3, hc, h⟩ := bd1_o h
        refine go_v (run_V (As := []) (rest := []) hC hw (c_X5_spreadDistances l D q k N σ2 σ3 hc) kw_195 kw_197 kw_198 kw_166 kw_196 hd_X5_spreadDistances ⟨rfl, rfl⟩ ⟨Nat.le_of_ble_eq_true rfl, Nat.le_of_ble_eq_true rfl⟩ 23 rfl rfl rfl hl.1 rfl (Nat.le_of_ble_eq_true rfl) dX5_measureDistances_51 ⟨Nat.zero_le _, Nat.zero_le _⟩) hw (fun H locs hw => ?_)
        obtain ⟨y4, ey4⟩ : ∃ y : Int32, y = x1 + (1 : Int32) := ⟨_, rfl⟩
        have h := nm_o h y4 ey4
        refine lv_iinc (v := y4) (lv' := [(1, .int y4), (0, .ref (q 23))]) hx hb dX5_measureDistances_54 hl (k := 1) rfl (by rw [ey4]; rfl) (by decide) rfl (fun ls hl => ?_)
        refine lv_goto (tgt := 25) hx hb dX5_measureDistances_57 (by decide) ?_
        exact ih σ3 y4 _ _ ls h hw (lv_sub hl [1, 0] rfl)
def lp_X5_measureDistances_2 (N : Nat) : Nat → St → Int32 → Option St
  | 0, _, _ => none
  | n + 1, σ, x1 => if (σ.1 15) ≤ x1 then (lp_X5_measureDistances_25 N N σ (0 : Int32)) else (gd (okx x1 8) (nm (sA σ 17 x1 (-1 : Int32)) (fun σ5 => nm (x1 + (1 : Int32)) (fun y6 => lp_X5_measureDistances_2 N n σ5 y6))))
set_option maxRecDepth 100000 in
set_option maxHeartbeats 4000000 in
theorem w_X5_measureDistances_2 {p : Program} {l : Launch} {e : Env} {s : State} {m : MethodId} {below : List Frame} {meth : Method} {c : Code} {args : Array Value} {D : va_G} {q : Nat → Nat} {k : cK} {ws0 : va_W} (hC : Cx p s m meth c cX5_measureDistances RX5 2 none) (N : Nat) (σ' : St) :
    ∀ (n : Nat) (σ : St) (x1 : Int32) (H : Heap) (locs : List Loc) (ls : Array Slot), lp_X5_measureDistances_2 N n σ x1 = some σ' → WH D (CW q k σ) k (AQ ws0) s s.heap H locs → lv_has ls 2 [(0, .ref (q 23)), (1, .int x1)] → W p l e rm_X5_measureDistances s m args below meth c H locs 0 0 (MQ below (QR D ws0 (CW q k σ') none) args s 0 0 (AQ ws0)) (F0 m 2 ls []) := by
  have hx := hC.1
  have hb := hC.2.1
  intro n
  induction n with
  | zero =>
    intro σ x1 H locs ls h
    cases h
  | succ n ih =>
    intro σ x1 H locs ls h hw hl
    rw [lp_X5_measureDistances_2] at h
    refine lv_iload_n hx hb dX5_measureDistances_2 rfl (lv_at hl 1 rfl) ?_
    refine lv_aload_n hx hb dX5_measureDistances_3 rfl (lv_at hl 0 rfl) ?_
    refine C_g_X5_30 hC hw dX5_measureDistances_4 ?_
    refine lv_icmp_ge (tgt := 23) hx hb dX5_measureDistances_7 (by decide) (fun c => ?_) (fun c => ?_)
    · have h := if_t h c
      refine lv_iconst (v := 0) hx hb dX5_measureDistances_23 (by decide) ?_
      refine lv_istore_n (lv' := [(1, .int (0 : Int32)), (0, .ref (q 23))]) hx hb dX5_measureDistances_24 rfl hl (by decide) rfl (fun ls hl => ?_)
      exact w_X5_measureDistances_25 hC N σ' N σ (0 : Int32) _ _ ls h hw (lv_sub hl [1, 0] rfl)
    · have h := if_f h c
      refine lv_aload_n hx hb dX5_measureDistances_10 rfl (lv_at hl 0 rfl) ?_
      refine C_g_X5_18 hC hw dX5_measureDistances_11 ?_
      refine lv_iload_n hx hb dX5_measureDistances_14 rfl (lv_at hl 1 rfl) ?_
      refine lv_iconst (v := -1) hx hb dX5_measureDistances_15 (by decide) ?_
      obtain ⟨hin, h⟩ := gd_o h
      refine C_st26 hC hw hin dX5_measureDistances_16 (fun σ5 eσ5 H locs hw => ?_)
      have h := nm_o h σ5 eσ5
      obtain ⟨y6, ey6⟩ : ∃ y : Int32, y = x1 + (1 : Int32) := ⟨_, rfl⟩
      have h := nm_o h y6 ey6
      refine lv_iinc (v := y6) (lv' := [(1, .int y6), (0, .ref (q 23))]) hx hb dX5_measureDistances_17 hl (k := 1) rfl (by rw [ey6]; rfl) (by decide) rfl (fun ls hl => ?_)
      refine lv_goto (tgt := 2) hx hb dX5_measureDistances_20 (by decide) ?_
      exact ih σ5 y6 _ _ ls h hw (lv_sub hl [1, 0] rfl)
def f_X5_measureDistances (N : Nat) (σ : St) : Option St :=
  lp_X5_measureDistances_2 N N σ (0 : Int32)
set_option maxRecDepth 100000 in
set_option maxHeartbeats 4000000 in
theorem c_X5_measureDistances (l : Launch) (D : va_G) (q : Nat → Nat) (k : cK) (N : Nat) (σ : St) (σ' : St) (h : f_X5_measureDistances N σ = some σ') :
    Met l yX5_measureDistances [.code yX5_measureDistances cX5_measureDistances 2 none] rm_X5_measureDistances (PC D (CW q k σ) k [.ref (q 23)]) (QR D (CW q k σ) (CW q k σ') none) 0 0 (AQ (CW q k σ)) := by
  refine met_of (by decide) (Nat.le_of_ble_eq_true rfl) ?_
  intro p e s m below meth c hC hw ls hl
  have hC : Cx p s m meth c cX5_measureDistances RX5 2 none := hC
  have hl : lv_has ls 2 [(0, .ref (q 23))] := hl
  have hx := hC.1
  have hb := hC.2.1
  unfold f_X5_measureDistances at h
  refine lv_iconst (v := 0) hx hb dX5_measureDistances_0 (by decide) ?_
  refine lv_istore_n (lv' := [(1, .int (0 : Int32)), (0, .ref (q 23))]) hx hb dX5_measureDistances_1 rfl hl (by decide) rfl (fun ls hl => ?_)
  exact w_X5_measureDistances_2 hC N σ' N σ (0 : Int32) _ _ ls h hw (lv_sub hl [1, 0] rfl)
/-! SlideBoards$TileGraph.hasTwoColours()Z -/
abbrev rm_X5_hasTwoColours : Room := { frames := 3, cells := 0, slots := 0, locals := 66 }
def lp_X5_hasTwoColours_16 (N : Nat) (σ : St) (x1 : Int32) (K6 : Int32 → Option (Int32 × St)) : Nat → Int32 → Option (Int32 × St)
  | 0, _ => none
  | n + 1, x2 => if x1 ≤ x2 then (nm (x1 + (1 : Int32)) (fun y2 => K6 y2)) else (bd1 (f_X5_areJoined N σ x1 x2) (fun r3 => if r3 = 0 then (nm (x2 + (1 : Int32)) (fun y4 => lp_X5_hasTwoColours_16 N σ x1 K6 n y4)) else (gd (okx x1 8) (gd (okx x2 8) (if (jrem ((ra σ 17 x1) + (ra σ 17 x2)) (2 : Int32)) = 0 then (some ((0 : Int32), σ)) else (nm (x2 + (1 : Int32)) (fun y5 => lp_X5_hasTwoColours_16 N σ x1 K6 n y5)))))))
set_option maxRecDepth 100000 in
set_option maxHeartbeats 4000000 in
theorem w_X5_hasTwoColours_16 {p : Program} {l : Launch} {e : Env} {s : State} {m : MethodId} {below : List Frame} {meth : Method} {c : Code} {args : Array Value} {D : va_G} {q : Nat → Nat} {k : cK} {ws0 : va_W} (hC : Cx p s m meth c cX5_hasTwoColours RX5 3 (some .boolean)) (N : Nat) (σ : St) (x1 : Int32) (r : Int32) (σ' : St) (K6 : Int32 → Option (Int32 × St)) (hK6 : ∀ (x1 : Int32) (H : Heap) (locs : List Loc) (ls : Array Slot), K6 x1 = some (r, σ') → WH D (CW q k σ) k (AQ ws0) s s.heap H locs → lv_has ls 3 [(0, .ref (q 23)), (1, .int x1)] → W p l e rm_X5_hasTwoColours s m args below meth c H locs 0 0 (MQ below (QR D ws0 (CW q k σ') (some (.int r))) args s 0 0 (AQ ws0)) (F0 m 6 ls [])) :
    ∀ (n : Nat) (x2 : Int32) (H : Heap) (locs : List Loc) (ls : Array Slot), lp_X5_hasTwoColours_16 N σ x1 K6 n x2 = some (r, σ') → WH D (CW q k σ) k (AQ ws0) s s.heap H locs → lv_has ls 3 [(0, .ref (q 23)), (1, .int x1), (2, .int x2)] → W p l e rm_X5_hasTwoColours s m args below meth c H locs 0 0 (MQ below (QR D ws0 (CW q k σ') (some (.int r))) args s 0 0 (AQ ws0)) (F0 m 16 ls []) := by
  have hx := hC.1
  have hb := hC.2.1
  intro n
  induction n with
  | zero =>
    intro x2 H locs ls h
    cases h
  | succ n ih =>
    intro x2 H locs ls h hw hl
    rw [lp_X5_hasTwoColours_16] at h
    refine lv_iload_n hx hb dX5_hasTwoColours_16 rfl (lv_at hl 2 rfl) ?_
    refine lv_iload_n hx hb dX5_hasTwoColours_17 rfl (lv_at hl 1 rfl) ?_
    refine lv_icmp_ge (tgt := 56) hx hb dX5_hasTwoColours_18 (by decide) (fun c => ?_) (fun c => ?_)
    · have h := if_t h c
      obtain ⟨y2, ey2⟩ : ∃ y : Int32, y = x1 + (1 : Int32) := ⟨_, rfl⟩
      have h := nm_o h y2 ey2
      refine lv_iinc (v := y2) (lv' := [(1, .int y2), (0, .ref (q 23)), (2, .int x2)]) hx hb dX5_hasTwoColours_56 hl (k := 1) rfl (by rw [ey2]; rfl) (by decide) rfl (fun ls hl => ?_)
      refine lv_goto (tgt := 6) hx hb dX5_hasTwoColours_59 (by decide) ?_
      exact hK6 y2 _ _ ls h hw (lv_sub hl [1, 0] rfl)
    · have h := if_f h c
      refine lv_aload_n hx hb dX5_hasTwoColours_21 rfl (lv_at hl 0 rfl) ?_
      refine lv_iload_n hx hb dX5_hasTwoColours_22 rfl (lv_at hl 1 rfl) ?_
      refine lv_iload_n hx hb dX5_hasTwoColours_23 rfl (lv_at hl 2 rfl) ?_
      obtain ⟨r3, hc, h⟩ := bd1_o h
      refine go_i (run_V (As := [.int x1, .int x2]) (rest := []) hC hw (c_X5_areJoined l D q k N σ x1 x2 r3 hc) kw_174 kw_176 kw_177 kw_166 kw_175 hd_X5_areJoined ⟨rfl, rfl⟩ ⟨Nat.le_of_ble_eq_true rfl, Nat.le_of_ble_eq_true rfl⟩ 23 rfl rfl rfl hl.1 rfl (Nat.le_of_ble_eq_true rfl) dX5_hasTwoColours_24 ⟨Nat.zero_le _, Nat.zero_le _⟩) hw (fun H locs hw => ?_)
      refine lv_if_eq (tgt := 50) hx hb dX5_hasTwoColours_27 (by decide) (fun c => ?_) (fun c => ?_)
      · have h := if_t h c
        obtain ⟨y4, ey4⟩ : ∃ y : Int32, y = x2 + (1 : Int32) := ⟨_, rfl⟩
        have h := nm_o h y4 ey4
        refine lv_iinc (v := y4) (lv' := [(2, .int y4), (0, .ref (q 23)), (1, .int x1)]) hx hb dX5_hasTwoColours_50 hl (k := 2) rfl (by rw [ey4]; rfl) (by decide) rfl (fun ls hl => ?_)
        refine lv_goto (tgt := 16) hx hb dX5_hasTwoColours_53 (by decide) ?_
        exact ih y4 _ _ ls h hw (lv_sub hl [1, 2, 0] rfl)
      · have h := if_f h c
        refine lv_aload_n hx hb dX5_hasTwoColours_30 rfl (lv_at hl 0 rfl) ?_
        refine C_g_X5_18 hC hw dX5_hasTwoColours_31 ?_
        refine lv_iload_n hx hb dX5_hasTwoColours_34 rfl (lv_at hl 1 rfl) ?_
        obtain ⟨hin, h⟩ := gd_o h
        refine C_ld26 hC hw hin dX5_hasTwoColours_35 ?_
        refine lv_aload_n hx hb dX5_hasTwoColours_36 rfl (lv_at hl 0 rfl) ?_
        refine C_g_X5_18 hC hw dX5_hasTwoColours_37 ?_
        refine lv_iload_n hx hb dX5_hasTwoColours_40 rfl (lv_at hl 2 rfl) ?_
        obtain ⟨hin, h⟩ := gd_o h
        refine C_ld26 hC hw hin dX5_hasTwoColours_41 ?_
        refine lv_iadd hx hb dX5_hasTwoColours_42 ?_
        refine lv_iconst (v := 2) hx hb dX5_hasTwoColours_43 (by decide) ?_
        refine lv_irem hx hb dX5_hasTwoColours_44 (by decide) ?_
        refine lv_if_ne (tgt := 50) hx hb dX5_hasTwoColours_45 (by decide) (fun c => ?_) (fun c => ?_)
        · have h := if_f h c
          obtain ⟨y5, ey5⟩ : ∃ y : Int32, y = x2 + (1 : Int32) := ⟨_, rfl⟩
          have h := nm_o h y5 ey5
          refine lv_iinc (v := y5) (lv' := [(2, .int y5), (0, .ref (q 23)), (1, .int x1)]) hx hb dX5_hasTwoColours_50 hl (k := 2) rfl (by rw [ey5]; rfl) (by decide) rfl (fun ls hl => ?_)
          refine lv_goto (tgt := 16) hx hb dX5_hasTwoColours_53 (by decide) ?_
          exact ih y5 _ _ ls h hw (lv_sub hl [1, 2, 0] rfl)
        · have h := if_t h c
          refine lv_iconst (v := 0) hx hb dX5_hasTwoColours_48 (by decide) ?_
          cases h
          exact ret_z hC (Or.inl rfl) hw dX5_hasTwoColours_49
def lp_X5_hasTwoColours_6 (N : Nat) (σ : St) : Nat → Int32 → Option (Int32 × St)
  | 0, _ => none
  | n + 1, x1 => if (σ.1 15) ≤ x1 then (some ((1 : Int32), σ)) else (lp_X5_hasTwoColours_16 N σ x1 (fun v0 => lp_X5_hasTwoColours_6 N σ n v0) N (0 : Int32))
set_option maxRecDepth 100000 in
set_option maxHeartbeats 4000000 in
theorem w_X5_hasTwoColours_6 {p : Program} {l : Launch} {e : Env} {s : State} {m : MethodId} {below : List Frame} {meth : Method} {c : Code} {args : Array Value} {D : va_G} {q : Nat → Nat} {k : cK} {ws0 : va_W} (hC : Cx p s m meth c cX5_hasTwoColours RX5 3 (some .boolean)) (N : Nat) (σ : St) (r : Int32) (σ' : St) :
    ∀ (n : Nat) (x1 : Int32) (H : Heap) (locs : List Loc) (ls : Array Slot), lp_X5_hasTwoColours_6 N σ n x1 = some (r, σ') → WH D (CW q k σ) k (AQ ws0) s s.heap H locs → lv_has ls 3 [(0, .ref (q 23)), (1, .int x1)] → W p l e rm_X5_hasTwoColours s m args below meth c H locs 0 0 (MQ below (QR D ws0 (CW q k σ') (some (.int r))) args s 0 0 (AQ ws0)) (F0 m 6 ls []) := by
  have hx := hC.1
  have hb := hC.2.1
  intro n
  induction n with
  | zero =>
    intro x1 H locs ls h
    cases h
  | succ n ih =>
    intro x1 H locs ls h hw hl
    rw [lp_X5_hasTwoColours_6] at h
    refine lv_iload_n hx hb dX5_hasTwoColours_6 rfl (lv_at hl 1 rfl) ?_
    refine lv_aload_n hx hb dX5_hasTwoColours_7 rfl (lv_at hl 0 rfl) ?_
    refine C_g_X5_30 hC hw dX5_hasTwoColours_8 ?_
    refine lv_icmp_ge (tgt := 62) hx hb dX5_hasTwoColours_11 (by decide) (fun c => ?_) (fun c => ?_)
    · have h := if_t h c
      refine lv_iconst (v := 1) hx hb dX5_hasTwoColours_62 (by decide) ?_
      cases h
      exact ret_z hC (Or.inr rfl) hw dX5_hasTwoColours_63
    · have h := if_f h c
      refine lv_iconst (v := 0) hx hb dX5_hasTwoColours_14 (by decide) ?_
      refine lv_istore_n (lv' := [(2, .int (0 : Int32)), (0, .ref (q 23)), (1, .int x1)]) hx hb dX5_hasTwoColours_15 rfl hl (by decide) rfl (fun ls hl => ?_)
      exact w_X5_hasTwoColours_16 hC N σ x1 r σ' _ ih N (0 : Int32) _ _ ls h hw (lv_sub hl [1, 2, 0] rfl)
def f_X5_hasTwoColours (N : Nat) (σ : St) : Option (Int32 × St) :=
  bd1 (f_X5_measureDistances N σ) (fun σ1 => lp_X5_hasTwoColours_6 N σ1 N (0 : Int32))
set_option maxRecDepth 100000 in
set_option maxHeartbeats 4000000 in
theorem c_X5_hasTwoColours (l : Launch) (D : va_G) (q : Nat → Nat) (k : cK) (N : Nat) (σ : St) (r : Int32) (σ' : St) (h : f_X5_hasTwoColours N σ = some (r, σ')) :
    Met l yX5_hasTwoColours [.code yX5_hasTwoColours cX5_hasTwoColours 3 (some .boolean)] rm_X5_hasTwoColours (PC D (CW q k σ) k [.ref (q 23)]) (QR D (CW q k σ) (CW q k σ') (some (.int r))) 0 0 (AQ (CW q k σ)) := by
  refine met_of (by decide) (Nat.le_of_ble_eq_true rfl) ?_
  intro p e s m below meth c hC hw ls hl
  have hC : Cx p s m meth c cX5_hasTwoColours RX5 3 (some .boolean) := hC
  have hl : lv_has ls 3 [(0, .ref (q 23))] := hl
  have hx := hC.1
  have hb := hC.2.1
  unfold f_X5_hasTwoColours at h
  refine lv_aload_n hx hb dX5_hasTwoColours_0 rfl (lv_at hl 0 rfl) ?_
  obtain ⟨σ1, hc, h⟩ := bd1_o h
  refine go_v (run_V (As := []) (rest := []) hC hw (c_X5_measureDistances l D q k N σ σ1 hc) kw_199 kw_201 kw_202 kw_166 kw_200 hd_X5_measureDistances ⟨rfl, rfl⟩ ⟨Nat.le_of_ble_eq_true rfl, Nat.le_of_ble_eq_true rfl⟩ 23 rfl rfl rfl hl.1 rfl (Nat.le_of_ble_eq_true rfl) dX5_hasTwoColours_1 ⟨Nat.zero_le _, Nat.zero_le _⟩) hw (fun H locs hw => ?_)
  refine lv_iconst (v := 0) hx hb dX5_hasTwoColours_4 (by decide) ?_
  refine lv_istore_n (lv' := [(1, .int (0 : Int32)), (0, .ref (q 23))]) hx hb dX5_hasTwoColours_5 rfl hl (by decide) rfl (fun ls hl => ?_)
  exact w_X5_hasTwoColours_6 hC N σ1 r σ' N (0 : Int32) _ _ ls h hw (lv_sub hl [1, 0] rfl)
/-! SlideBoards$TileGraph.countInversions()I -/
abbrev rm_X5_countInversions : Room := { frames := 0, cells := 0, slots := 0, locals := 0 }
def lp_X5_countInversions_16 (N : Nat) (σ : St) (x2 : Int32) (K4 : Int32 → Int32 → Option Int32) : Nat → Int32 → Int32 → Option Int32
  | 0, _, _ => none
  | n + 1, x1, x3 => if (σ.1 15) ≤ x3 then (nm (x2 + (1 : Int32)) (fun y2 => K4 x1 y2)) else (gd (okx x2 8) (gd (okx x3 8) (if (ra σ 15 x2) ≤ (ra σ 15 x3) then (nm (x3 + (1 : Int32)) (fun y3 => lp_X5_countInversions_16 N σ x2 K4 n x1 y3)) else (nm (x1 + (1 : Int32)) (fun y4 => nm (x3 + (1 : Int32)) (fun y5 => lp_X5_countInversions_16 N σ x2 K4 n y4 y5))))))
set_option maxRecDepth 100000 in
set_option maxHeartbeats 4000000 in
theorem w_X5_countInversions_16 {p : Program} {l : Launch} {e : Env} {s : State} {m : MethodId} {below : List Frame} {meth : Method} {c : Code} {args : Array Value} {D : va_G} {q : Nat → Nat} {k : cK} {ws0 : va_W} (hC : Cx p s m meth c cX5_countInversions RX5 4 (some .int)) (N : Nat) (σ : St) (x2 : Int32) (r : Int32) (K4 : Int32 → Int32 → Option Int32) (hK4 : ∀ (x1 : Int32) (x2 : Int32) (H : Heap) (locs : List Loc) (ls : Array Slot), K4 x1 x2 = some r → WH D (CW q k σ) k (AQ ws0) s s.heap H locs → lv_has ls 4 [(0, .ref (q 23)), (1, .int x1), (2, .int x2)] → W p l e rm_X5_countInversions s m args below meth c H locs 0 0 (MQ below (QR D ws0 (CW q k σ) (some (.int r))) args s 0 0 (AQ ws0)) (F0 m 4 ls [])) :
    ∀ (n : Nat) (x1 : Int32) (x3 : Int32) (H : Heap) (locs : List Loc) (ls : Array Slot), lp_X5_countInversions_16 N σ x2 K4 n x1 x3 = some r → WH D (CW q k σ) k (AQ ws0) s s.heap H locs → lv_has ls 4 [(0, .ref (q 23)), (1, .int x1), (2, .int x2), (3, .int x3)] → W p l e rm_X5_countInversions s m args below meth c H locs 0 0 (MQ below (QR D ws0 (CW q k σ) (some (.int r))) args s 0 0 (AQ ws0)) (F0 m 16 ls []) := by
  have hx := hC.1
  have hb := hC.2.1
  intro n
  induction n with
  | zero =>
    intro x1 x3 H locs ls h
    cases h
  | succ n ih =>
    intro x1 x3 H locs ls h hw hl
    rw [lp_X5_countInversions_16] at h
    refine lv_iload_n hx hb dX5_countInversions_16 rfl (lv_at hl 3 rfl) ?_
    refine lv_aload_n hx hb dX5_countInversions_17 rfl (lv_at hl 0 rfl) ?_
    refine C_g_X5_30 hC hw dX5_countInversions_18 ?_
    refine lv_icmp_ge (tgt := 48) hx hb dX5_countInversions_21 (by decide) (fun c => ?_) (fun c => ?_)
    · have h := if_t h c
      obtain ⟨y2, ey2⟩ : ∃ y : Int32, y = x2 + (1 : Int32) := ⟨_, rfl⟩
      have h := nm_o h y2 ey2
      refine lv_iinc (v := y2) (lv' := [(2, .int y2), (0, .ref (q 23)), (1, .int x1), (3, .int x3)]) hx hb dX5_countInversions_48 hl (k := 2) rfl (by rw [ey2]; rfl) (by decide) rfl (fun ls hl => ?_)
      refine lv_goto (tgt := 4) hx hb dX5_countInversions_51 (by decide) ?_
      exact hK4 x1 y2 _ _ ls h hw (lv_sub hl [1, 2, 0] rfl)
    · have h := if_f h c
      refine lv_aload_n hx hb dX5_countInversions_24 rfl (lv_at hl 0 rfl) ?_
      refine C_g_X5_9 hC hw dX5_countInversions_25 ?_
      refine lv_iload_n hx hb dX5_countInversions_28 rfl (lv_at hl 2 rfl) ?_
      obtain ⟨hin, h⟩ := gd_o h
      refine C_ld24 hC hw hin dX5_countInversions_29 ?_
      refine lv_aload_n hx hb dX5_countInversions_30 rfl (lv_at hl 0 rfl) ?_
      refine C_g_X5_9 hC hw dX5_countInversions_31 ?_
      refine lv_iload_n hx hb dX5_countInversions_34 rfl (lv_at hl 3 rfl) ?_
      obtain ⟨hin, h⟩ := gd_o h
      refine C_ld24 hC hw hin dX5_countInversions_35 ?_
      refine lv_icmp_le (tgt := 42) hx hb dX5_countInversions_36 (by decide) (fun c => ?_) (fun c => ?_)
      · have h := if_t h c
        obtain ⟨y3, ey3⟩ : ∃ y : Int32, y = x3 + (1 : Int32) := ⟨_, rfl⟩
        have h := nm_o h y3 ey3
        refine lv_iinc (v := y3) (lv' := [(3, .int y3), (0, .ref (q 23)), (1, .int x1), (2, .int x2)]) hx hb dX5_countInversions_42 hl (k := 3) rfl (by rw [ey3]; rfl) (by decide) rfl (fun ls hl => ?_)
        refine lv_goto (tgt := 16) hx hb dX5_countInversions_45 (by decide) ?_
        exact ih x1 y3 _ _ ls h hw (lv_sub hl [1, 2, 3, 0] rfl)
      · have h := if_f h c
        obtain ⟨y4, ey4⟩ : ∃ y : Int32, y = x1 + (1 : Int32) := ⟨_, rfl⟩
        have h := nm_o h y4 ey4
        refine lv_iinc (v := y4) (lv' := [(1, .int y4), (0, .ref (q 23)), (2, .int x2), (3, .int x3)]) hx hb dX5_countInversions_39 hl (k := 1) rfl (by rw [ey4]; rfl) (by decide) rfl (fun ls hl => ?_)
        obtain ⟨y5, ey5⟩ : ∃ y : Int32, y = x3 + (1 : Int32) := ⟨_, rfl⟩
        have h := nm_o h y5 ey5
        refine lv_iinc (v := y5) (lv' := [(3, .int y5), (1, .int y4), (0, .ref (q 23)), (2, .int x2)]) hx hb dX5_countInversions_42 hl (k := 3) rfl (by rw [ey5]; rfl) (by decide) rfl (fun ls hl => ?_)
        refine lv_goto (tgt := 16) hx hb dX5_countInversions_45 (by decide) ?_
        exact ih y4 y5 _ _ ls h hw (lv_sub hl [2, 1, 3, 0] rfl)
def lp_X5_countInversions_4 (N : Nat) (σ : St) : Nat → Int32 → Int32 → Option Int32
  | 0, _, _ => none
  | n + 1, x1, x2 => if (σ.1 15) ≤ x2 then (some x1) else (nm (x2 + (1 : Int32)) (fun y1 => lp_X5_countInversions_16 N σ x2 (fun v0 v1 => lp_X5_countInversions_4 N σ n v0 v1) N x1 y1))
set_option maxRecDepth 100000 in
set_option maxHeartbeats 4000000 in
theorem w_X5_countInversions_4 {p : Program} {l : Launch} {e : Env} {s : State} {m : MethodId} {below : List Frame} {meth : Method} {c : Code} {args : Array Value} {D : va_G} {q : Nat → Nat} {k : cK} {ws0 : va_W} (hC : Cx p s m meth c cX5_countInversions RX5 4 (some .int)) (N : Nat) (σ : St) (r : Int32) :
    ∀ (n : Nat) (x1 : Int32) (x2 : Int32) (H : Heap) (locs : List Loc) (ls : Array Slot), lp_X5_countInversions_4 N σ n x1 x2 = some r → WH D (CW q k σ) k (AQ ws0) s s.heap H locs → lv_has ls 4 [(0, .ref (q 23)), (1, .int x1), (2, .int x2)] → W p l e rm_X5_countInversions s m args below meth c H locs 0 0 (MQ below (QR D ws0 (CW q k σ) (some (.int r))) args s 0 0 (AQ ws0)) (F0 m 4 ls []) := by
  have hx := hC.1
  have hb := hC.2.1
  intro n
  induction n with
  | zero =>
    intro x1 x2 H locs ls h
    cases h
  | succ n ih =>
    intro x1 x2 H locs ls h hw hl
    rw [lp_X5_countInversions_4] at h
    refine lv_iload_n hx hb dX5_countInversions_4 rfl (lv_at hl 2 rfl) ?_
    refine lv_aload_n hx hb dX5_countInversions_5 rfl (lv_at hl 0 rfl) ?_
    refine C_g_X5_30 hC hw dX5_countInversions_6 ?_
    refine lv_icmp_ge (tgt := 54) hx hb dX5_countInversions_9 (by decide) (fun c => ?_) (fun c => ?_)
    · have h := if_t h c
      refine lv_iload_n hx hb dX5_countInversions_54 rfl (lv_at hl 1 rfl) ?_
      cases h
      exact ret_i hC hw dX5_countInversions_55
    · have h := if_f h c
      refine lv_iload_n hx hb dX5_countInversions_12 rfl (lv_at hl 2 rfl) ?_
      refine lv_iconst (v := 1) hx hb dX5_countInversions_13 (by decide) ?_
      refine lv_iadd hx hb dX5_countInversions_14 ?_
      refine lv_topi (fun y1 ey1 => ?_)
      have h := nm_o h y1 ey1
      refine lv_istore_n (lv' := [(3, .int y1), (0, .ref (q 23)), (1, .int x1), (2, .int x2)]) hx hb dX5_countInversions_15 rfl hl (by decide) rfl (fun ls hl => ?_)
      exact w_X5_countInversions_16 hC N σ x2 r _ ih N x1 y1 _ _ ls h hw (lv_sub hl [1, 2, 3, 0] rfl)
def f_X5_countInversions (N : Nat) (σ : St) : Option Int32 :=
  lp_X5_countInversions_4 N σ N (0 : Int32) (0 : Int32)
set_option maxRecDepth 100000 in
set_option maxHeartbeats 4000000 in
theorem c_X5_countInversions (l : Launch) (D : va_G) (q : Nat → Nat) (k : cK) (N : Nat) (σ : St) (r : Int32) (h : f_X5_countInversions N σ = some r) :
    Met l yX5_countInversions [.code yX5_countInversions cX5_countInversions 4 (some .int)] rm_X5_countInversions (PC D (CW q k σ) k [.ref (q 23)]) (QR D (CW q k σ) (CW q k σ) (some (.int r))) 0 0 (AQ (CW q k σ)) := by
  refine met_of (by decide) (Nat.le_of_ble_eq_true rfl) ?_
  intro p e s m below meth c hC hw ls hl
  have hC : Cx p s m meth c cX5_countInversions RX5 4 (some .int) := hC
  have hl : lv_has ls 4 [(0, .ref (q 23))] := hl
  have hx := hC.1
  have hb := hC.2.1
  unfold f_X5_countInversions at h
  refine lv_iconst (v := 0) hx hb dX5_countInversions_0 (by decide) ?_
  refine lv_istore_n (lv' := [(1, .int (0 : Int32)), (0, .ref (q 23))]) hx hb dX5_countInversions_1 rfl hl (by decide) rfl (fun ls hl => ?_)
  refine lv_iconst (v := 0) hx hb dX5_countInversions_2 (by decide) ?_
  refine lv_istore_n (lv' := [(2, .int (0 : Int32)), (1, .int (0 : Int32)), (0, .ref (q 23))]) hx hb dX5_countInversions_3 rfl hl (by decide) rfl (fun ls hl => ?_)
  exact w_X5_countInversions_4 hC N σ r N (0 : Int32) (0 : Int32) _ _ ls h hw (lv_sub hl [2, 1, 0] rfl)
/-! SlideBoards$TileGraph.invariant()I -/
abbrev rm_X5_invariant : Room := { frames := 4, cells := 0, slots := 0, locals := 88 }
def f_X5_invariant (N : Nat) (σ : St) : Option (Int32 × St) :=
  if (σ.1 15) = 0 then (some ((-1 : Int32), σ)) else (bd (f_X5_hasTwoColours N σ) (fun r1 σ2 => if r1 = 0 then (some ((-1 : Int32), σ2)) else (bd1 (f_X5_countInversions N σ2) (fun r3 => bd1 (f_X5_gapNode N σ2) (fun r4 => gd (okx r4 8) (some (jrem (r3 + (ra σ2 17 r4)) (2 : Int32), σ2)))))))
set_option maxRecDepth 100000 in
set_option maxHeartbeats 4000000 in
theorem c_X5_invariant (l : Launch) (D : va_G) (q : Nat → Nat) (k : cK) (N : Nat) (σ : St) (r : Int32) (σ' : St) (h : f_X5_invariant N σ = some (r, σ')) :
    Met l yX5_invariant [.code yX5_invariant cX5_invariant 1 (some .int)] rm_X5_invariant (PC D (CW q k σ) k [.ref (q 23)]) (QR D (CW q k σ) (CW q k σ') (some (.int r))) 0 0 (AQ (CW q k σ)) := by
  refine met_of (by decide) (Nat.le_of_ble_eq_true rfl) ?_
  intro p e s m below meth c hC hw ls hl
  have hC : Cx p s m meth c cX5_invariant RX5 1 (some .int) := hC
  have hl : lv_has ls 1 [(0, .ref (q 23))] := hl
  have hx := hC.1
  have hb := hC.2.1
  unfold f_X5_invariant at h
  refine lv_aload_n hx hb dX5_invariant_0 rfl (lv_at hl 0 rfl) ?_
  refine C_g_X5_30 hC hw dX5_invariant_1 ?_
  refine lv_if_eq (tgt := 14) hx hb dX5_invariant_4 (by decide) (fun c => ?_) (fun c => ?_)
  · have h := if_t h c
    refine lv_iconst (v := -1) hx hb dX5_invariant_14 (by decide) ?_
    cases h
    exact ret_i hC hw dX5_invariant_15
  · have h := if_f h c
    refine lv_aload_n hx hb dX5_invariant_7 rfl (lv_at hl 0 rfl) ?_
    obtain ⟨r1, σ2, hc, h⟩ := bd_o h
    refine go_i (run_V (As := []) (rest := []) hC hw (c_X5_hasTwoColours l D q k N σ r1 σ2 hc) kw_207 kw_205 kw_206 kw_166 kw_204 hd_X5_hasTwoColours ⟨rfl, rfl⟩ ⟨Nat.le_of_ble_eq_true rfl, Nat.le_of_ble_eq_true rfl⟩ 23 rfl rfl rfl hl.1 rfl (Nat.le_of_ble_eq_true rfl) dX5_invariant_8 ⟨Nat.zero_le _, Nat.zero_le _⟩) hw (fun H locs hw => ?_)
    refine lv_if_ne (tgt := 16) hx hb dX5_invariant_11 (by decide) (fun c => ?_) (fun c => ?_)
    · have h := if_f h c
      refine lv_aload_n hx hb dX5_invariant_16 rfl (lv_at hl 0 rfl) ?_
      obtain ⟨r3, hc, h⟩ := bd1_o h
      refine go_i (run_V (As := []) (rest := []) hC hw (c_X5_countInversions l D q k N σ2 r3 hc) kw_208 kw_210 kw_211 kw_166 kw_209 hd_X5_countInversions ⟨rfl, rfl⟩ ⟨Nat.le_of_ble_eq_true rfl, Nat.le_of_ble_eq_true rfl⟩ 23 rfl rfl rfl hl.1 rfl (Nat.le_of_ble_eq_true rfl) dX5_invariant_17 ⟨Nat.zero_le _, Nat.zero_le _⟩) hw (fun H locs hw => ?_)
      refine lv_aload_n hx hb dX5_invariant_20 rfl (lv_at hl 0 rfl) ?_
      refine C_g_X5_18 hC hw dX5_invariant_21 ?_
      refine lv_aload_n hx hb dX5_invariant_24 rfl (lv_at hl 0 rfl) ?_
      obtain ⟨r4, hc, h⟩ := bd1_o h
      refine go_i (run_V (As := []) (rest := [.ref (q 26), .int r3]) hC hw (c_X5_gapNode l D q k N σ2 r4 hc) kw_182 kw_184 kw_185 kw_166 kw_183 hd_X5_gapNode ⟨rfl, rfl⟩ ⟨Nat.le_of_ble_eq_true rfl, Nat.le_of_ble_eq_true rfl⟩ 23 rfl rfl rfl hl.1 rfl (Nat.le_of_ble_eq_true rfl) dX5_invariant_25 ⟨Nat.zero_le _, Nat.zero_le _⟩) hw (fun H locs hw => ?_)
      obtain ⟨hin, h⟩ := gd_o h
      refine C_ld26 hC hw hin dX5_invariant_28 ?_
      refine lv_iadd hx hb dX5_invariant_29 ?_
      refine lv_iconst (v := 2) hx hb dX5_invariant_30 (by decide) ?_
      refine lv_irem hx hb dX5_invariant_31 (by decide) ?_
      cases h
      exact ret_i hC hw dX5_invariant_32
    · have h := if_t h c
      refine lv_iconst (v := -1) hx hb dX5_invariant_14 (by decide) ?_
      cases h
      exact ret_i hC hw dX5_invariant_15
/-! SlideBoards$TileGraph.markOf(I)I -/
abbrev rm_X5_markOf : Room := { frames := 0, cells := 0, slots := 0, locals := 0 }
def f_X5_markOf (N : Nat) (σ : St) (a0 : Int32) : Option Int32 :=
  some (jushr (a0 &&& (2097151 : Int32)) (6 : Int32))
set_option maxRecDepth 100000 in
set_option maxHeartbeats 4000000 in
theorem c_X5_markOf (l : Launch) (D : va_G) (q : Nat → Nat) (k : cK) (N : Nat) (σ : St) (a0 : Int32) (r : Int32) (h : f_X5_markOf N σ a0 = some r) :
    Met l yX5_markOf [.code yX5_markOf cX5_markOf 1 (some .int)] rm_X5_markOf (PC D (CW q k σ) k [.int a0]) (QR D (CW q k σ) (CW q k σ) (some (.int r))) 0 0 (AQ (CW q k σ)) := by
  refine met_of (by decide) (Nat.le_of_ble_eq_true rfl) ?_
  intro p e s m below meth c hC hw ls hl
  have hC : Cx p s m meth c cX5_markOf RX5 1 (some .int) := hC
  have hl : lv_has ls 1 [(0, .int a0)] := hl
  have hx := hC.1
  have hb := hC.2.1
  unfold f_X5_markOf at h
  refine lv_iload_n hx hb dX5_markOf_0 rfl (lv_at hl 0 rfl) ?_
  refine lv_ldc hx hb hC.2.2.2.2.1 (hw.2.2.2.2.all _ _ kw_216) dX5_markOf_1 ?_
  refine lv_iand hx hb dX5_markOf_3 ?_
  refine lv_bipush (v := 6) hx hb dX5_markOf_4 (by decide) ?_
  refine lv_iushr (v := jushr (a0 &&& (2097151 : Int32)) (6 : Int32)) hx hb dX5_markOf_6 rfl ?_
  cases h
  exact ret_i hC hw dX5_markOf_7
/-! SlideBoards$TileGraph.isMarked(I)Z -/
abbrev rm_X5_isMarked : Room := { frames := 1, cells := 0, slots := 0, locals := 20 }
def f_X5_isMarked (N : Nat) (σ : St) (a0 : Int32) : Option Int32 :=
  bd1 (f_X5_markOf N σ a0) (fun r1 => gd (okx r1 32768) (if (lg_cmp ((jlushr (rl σ 2 r1) (a0 &&& (63 : Int32))) &&& (1 : Int64)) (0 : Int64)) = 0 then (some (0 : Int32)) else (some (1 : Int32))))
set_option maxRecDepth 100000 in
set_option maxHeartbeats 4000000 in
theorem c_X5_isMarked (l : Launch) (D : va_G) (q : Nat → Nat) (k : cK) (N : Nat) (σ : St) (a0 : Int32) (r : Int32) (h : f_X5_isMarked N σ a0 = some r) :
    Met l yX5_isMarked [.code yX5_isMarked cX5_isMarked 2 (some .boolean)] rm_X5_isMarked (PC D (CW q k σ) k [.ref (q 23), .int a0]) (QR D (CW q k σ) (CW q k σ) (some (.int r))) 0 0 (AQ (CW q k σ)) := by
  refine met_of (by decide) (Nat.le_of_ble_eq_true rfl) ?_
  intro p e s m below meth c hC hw ls hl
  have hC : Cx p s m meth c cX5_isMarked RX5 2 (some .boolean) := hC
  have hl : lv_has ls 2 [(0, .ref (q 23)), (1, .int a0)] := hl
  have hx := hC.1
  have hb := hC.2.1
  unfold f_X5_isMarked at h
  refine lv_aload_n hx hb dX5_isMarked_0 rfl (lv_at hl 0 rfl) ?_
  refine C_g_X5_26 hC hw dX5_isMarked_1 ?_
  refine lv_iload_n hx hb dX5_isMarked_4 rfl (lv_at hl 1 rfl) ?_
  obtain ⟨r1, hc, h⟩ := bd1_o h
  refine go_i (run_S (As := [.int a0]) (rest := [.ref (q 28)]) hC hw (c_X5_markOf l D q k N σ a0 r1 hc) kw_217 kw_219 kw_166 kw_218 hd_X5_markOf ⟨rfl, rfl⟩ ⟨Nat.le_of_ble_eq_true rfl, Nat.le_of_ble_eq_true rfl⟩ rfl hl.1 rfl (Nat.le_of_ble_eq_true rfl) dX5_isMarked_5 ⟨Nat.zero_le _, Nat.zero_le _⟩) hw (fun H locs hw => ?_)
  obtain ⟨hin, h⟩ := gd_o h
  refine C_ld28 hC hw hin dX5_isMarked_8 ?_
  refine lv_iload_n hx hb dX5_isMarked_9 rfl (lv_at hl 1 rfl) ?_
  refine lv_bipush (v := 63) hx hb dX5_isMarked_10 (by decide) ?_
  refine lv_iand hx hb dX5_isMarked_12 ?_
  refine lv_lushr (v := jlushr (rl σ 2 r1) (a0 &&& (63 : Int32))) hx hb dX5_isMarked_13 rfl ?_
  refine lv_lconst (v := 1) hx hb dX5_isMarked_14 (by decide) ?_
  refine lv_land hx hb dX5_isMarked_15 ?_
  refine lv_lconst (v := 0) hx hb dX5_isMarked_16 (by decide) ?_
  refine W.lcmp hx hb dX5_isMarked_17 ?_
  refine lv_if_eq (tgt := 25) hx hb dX5_isMarked_18 (by decide) (fun c => ?_) (fun c => ?_)
  · have h := if_t h c
    refine lv_iconst (v := 0) hx hb dX5_isMarked_25 (by decide) ?_
    cases h
    exact ret_z hC (Or.inl rfl) hw dX5_isMarked_26
  · have h := if_f h c
    refine lv_iconst (v := 1) hx hb dX5_isMarked_21 (by decide) ?_
    refine lv_goto (tgt := 26) hx hb dX5_isMarked_22 (by decide) ?_
    cases h
    exact ret_z hC (Or.inr rfl) hw dX5_isMarked_26
/-! SlideBoards$TileGraph.mark(I)V -/
abbrev rm_X5_mark : Room := { frames := 2, cells := 0, slots := 0, locals := 41 }
def f_X5_mark (N : Nat) (σ : St) (a0 : Int32) : Option St :=
  bd1 (f_X5_isMarked N σ a0) (fun r1 => if r1 = 0 then (if (σ.1 16) < (40320 : Int32) then (bd1 (f_X5_markOf N σ a0) (fun r2 => gd (okx r2 32768) (gd (okx r2 32768) (nm (sL σ 2 r2 ((rl σ 2 r2) ||| (jlshl (1 : Int64) (a0 &&& (63 : Int32))))) (fun σ3 => gd (okx (σ3.1 16) 40320) (nm (sA σ3 18 (σ3.1 16) a0) (fun σ4 => nm (sI σ4 16 ((σ4.1 16) + (1 : Int32))) (fun σ5 => some σ5)))))))) else (some σ)) else (some σ))
set_option maxRecDepth 100000 in
set_option maxHeartbeats 4000000 in
theorem c_X5_mark (l : Launch) (D : va_G) (q : Nat → Nat) (k : cK) (N : Nat) (σ : St) (a0 : Int32) (σ' : St) (h : f_X5_mark N σ a0 = some σ') :
    Met l yX5_mark [.code yX5_mark cX5_mark 2 none] rm_X5_mark (PC D (CW q k σ) k [.ref (q 23), .int a0]) (QR D (CW q k σ) (CW q k σ') none) 0 0 (AQ (CW q k σ)) := by
  refine met_of (by decide) (Nat.le_of_ble_eq_true rfl) ?_
  intro p e s m below meth c hC hw ls hl
  have hC : Cx p s m meth c cX5_mark RX5 2 none := hC
  have hl : lv_has ls 2 [(0, .ref (q 23)), (1, .int a0)] := hl
  have hx := hC.1
  have hb := hC.2.1
  unfold f_X5_mark at h
  refine lv_aload_n hx hb dX5_mark_0 rfl (lv_at hl 0 rfl) ?_
  refine lv_iload_n hx hb dX5_mark_1 rfl (lv_at hl 1 rfl) ?_
  obtain ⟨r1, hc, h⟩ := bd1_o h
  refine go_i (run_V (As := [.int a0]) (rest := []) hC hw (c_X5_isMarked l D q k N σ a0 r1 hc) kw_220 kw_222 kw_223 kw_166 kw_221 hd_X5_isMarked ⟨rfl, rfl⟩ ⟨Nat.le_of_ble_eq_true rfl, Nat.le_of_ble_eq_true rfl⟩ 23 rfl rfl rfl hl.1 rfl (Nat.le_of_ble_eq_true rfl) dX5_mark_2 ⟨Nat.zero_le _, Nat.zero_le _⟩) hw (fun H locs hw => ?_)
  refine lv_if_ne (tgt := 17) hx hb dX5_mark_5 (by decide) (fun c => ?_) (fun c => ?_)
  · have h := if_f h c
    cases h
    exact ret_v hC hw dX5_mark_17
  · have h := if_t h c
    refine lv_aload_n hx hb dX5_mark_8 rfl (lv_at hl 0 rfl) ?_
    refine C_g_X5_61 hC hw dX5_mark_9 ?_
    refine lv_ldc hx hb hC.2.2.2.2.1 (hw.2.2.2.2.all _ _ kw_224) dX5_mark_12 ?_
    refine lv_icmp_lt (tgt := 18) hx hb dX5_mark_14 (by decide) (fun c => ?_) (fun c => ?_)
    · have h := if_t h c
      refine lv_aload_n hx hb dX5_mark_18 rfl (lv_at hl 0 rfl) ?_
      refine C_g_X5_26 hC hw dX5_mark_19 ?_
      refine lv_iload_n hx hb dX5_mark_22 rfl (lv_at hl 1 rfl) ?_
      obtain ⟨r2, hc, h⟩ := bd1_o h
      refine go_i (run_S (As := [.int a0]) (rest := [.ref (q 28)]) hC hw (c_X5_markOf l D q k N σ a0 r2 hc) kw_217 kw_219 kw_166 kw_218 hd_X5_markOf ⟨rfl, rfl⟩ ⟨Nat.le_of_ble_eq_true rfl, Nat.le_of_ble_eq_true rfl⟩ rfl hl.1 rfl (Nat.le_of_ble_eq_true rfl) dX5_mark_23 ⟨Nat.zero_le _, Nat.zero_le _⟩) hw (fun H locs hw => ?_)
      refine lv_dup2_11 hx hb dX5_mark_26 rfl rfl ?_
      obtain ⟨hin, h⟩ := gd_o h
      refine C_ld28 hC hw hin dX5_mark_27 ?_
      refine lv_lconst (v := 1) hx hb dX5_mark_28 (by decide) ?_
      refine lv_iload_n hx hb dX5_mark_29 rfl (lv_at hl 1 rfl) ?_
      refine lv_bipush (v := 63) hx hb dX5_mark_30 (by decide) ?_
      refine lv_iand hx hb dX5_mark_32 ?_
      refine lv_lshl (v := jlshl (1 : Int64) (a0 &&& (63 : Int32))) hx hb dX5_mark_33 rfl ?_
      refine lv_lor hx hb dX5_mark_34 ?_
      obtain ⟨hin, h⟩ := gd_o h
      refine C_st28 hC hw hin dX5_mark_35 (fun σ3 eσ3 H locs hw => ?_)
      have h := nm_o h σ3 eσ3
      refine lv_aload_n hx hb dX5_mark_36 rfl (lv_at hl 0 rfl) ?_
      refine C_g_X5_22 hC hw dX5_mark_37 ?_
      refine lv_aload_n hx hb dX5_mark_40 rfl (lv_at hl 0 rfl) ?_
      refine C_g_X5_61 hC hw dX5_mark_41 ?_
      refine lv_iload_n hx hb dX5_mark_44 rfl (lv_at hl 1 rfl) ?_
      obtain ⟨hin, h⟩ := gd_o h
      refine C_st27 hC hw hin dX5_mark_45 (fun σ4 eσ4 H locs hw => ?_)
      have h := nm_o h σ4 eσ4
      refine lv_aload_n hx hb dX5_mark_46 rfl (lv_at hl 0 rfl) ?_
      refine lv_dup hx hb dX5_mark_47 rfl ?_
      refine C_g_X5_61 hC hw dX5_mark_48 ?_
      refine lv_iconst (v := 1) hx hb dX5_mark_51 (by decide) ?_
      refine lv_iadd hx hb dX5_mark_52 ?_
      refine C_p_X5_61 hC hw dX5_mark_53 (fun σ5 eσ5 H locs hw => ?_)
      have h := nm_o h σ5 eσ5
      cases h
      exact ret_v hC hw dX5_mark_56
    · have h := if_f h c
      cases h
      exact ret_v hC hw dX5_mark_17
/-! SlideBoards$TileGraph.markShifts(I)V -/
abbrev rm_X5_markShifts : Room := { frames := 3, cells := 0, slots := 0, locals := 62 }
def lp_X5_markShifts_31 (N : Nat) (x1 : Int32) (x2 : Int32) : Nat → St → Int32 → Option St
  | 0, _, _ => none
  | n + 1, σ, x3 => if (σ.1 15) ≤ x3 then (some σ) else (bd1 (f_X5_areJoined N σ x2 x3) (fun r1 => if r1 = 0 then (nm (x3 + (1 : Int32)) (fun y2 => lp_X5_markShifts_31 N x1 x2 n σ y2)) else (nm ((jushr x1 ((3 : Int32) * x3)) &&& (7 : Int32)) (fun y3 => bd1 (f_X5_mark N σ ((x1 ^^^ (jshl y3 ((3 : Int32) * x3))) ^^^ (jshl y3 ((3 : Int32) * x2)))) (fun σ4 => nm (x3 + (1 : Int32)) (fun y5 => lp_X5_markShifts_31 N x1 x2 n σ4 y5))))))
set_option maxRecDepth 100000 in
set_option maxHeartbeats 4000000 in
theorem w_X5_markShifts_31 {p : Program} {l : Launch} {e : Env} {s : State} {m : MethodId} {below : List Frame} {meth : Method} {c : Code} {args : Array Value} {D : va_G} {q : Nat → Nat} {k : cK} {ws0 : va_W} (hC : Cx p s m meth c cX5_markShifts RX5 5 none) (N : Nat) (x1 : Int32) (x2 : Int32) (σ' : St) :
    ∀ (n : Nat) (σ : St) (x3 : Int32) (H : Heap) (locs : List Loc) (ls : Array Slot), lp_X5_markShifts_31 N x1 x2 n σ x3 = some σ' → WH D (CW q k σ) k (AQ ws0) s s.heap H locs → lv_has ls 5 [(0, .ref (q 23)), (1, .int x1), (2, .int x2), (3, .int x3)] → W p l e rm_X5_markShifts s m args below meth c H locs 0 0 (MQ below (QR D ws0 (CW q k σ') none) args s 0 0 (AQ ws0)) (F0 m 31 ls []) := by
  have hx := hC.1
  have hb := hC.2.1
  intro n
  induction n with
  | zero =>
    intro σ x3 H locs ls h
    cases h
  | succ n ih =>
    intro σ x3 H locs ls h hw hl
    rw [lp_X5_markShifts_31] at h
    refine lv_iload_n hx hb dX5_markShifts_31 rfl (lv_at hl 3 rfl) ?_
    refine lv_aload_n hx hb dX5_markShifts_32 rfl (lv_at hl 0 rfl) ?_
    refine C_g_X5_30 hC hw dX5_markShifts_33 ?_
    refine lv_icmp_ge (tgt := 83) hx hb dX5_markShifts_36 (by decide) (fun c => ?_) (fun c => ?_)
    · have h := if_t h c
      cases h
      exact ret_v hC hw dX5_markShifts_83
    · have h := if_f h c
      refine lv_aload_n hx hb dX5_markShifts_39 rfl (lv_at hl 0 rfl) ?_
      refine lv_iload_n hx hb dX5_markShifts_40 rfl (lv_at hl 2 rfl) ?_
      refine lv_iload_n hx hb dX5_markShifts_41 rfl (lv_at hl 3 rfl) ?_
      obtain ⟨r1, hc, h⟩ := bd1_o h
      refine go_i (run_V (As := [.int x2, .int x3]) (rest := []) hC hw (c_X5_areJoined l D q k N σ x2 x3 r1 hc) kw_174 kw_176 kw_177 kw_166 kw_175 hd_X5_areJoined ⟨rfl, rfl⟩ ⟨Nat.le_of_ble_eq_true rfl, Nat.le_of_ble_eq_true rfl⟩ 23 rfl rfl rfl hl.1 rfl (Nat.le_of_ble_eq_true rfl) dX5_markShifts_42 ⟨Nat.zero_le _, Nat.zero_le _⟩) hw (fun H locs hw => ?_)
      refine lv_if_eq (tgt := 77) hx hb dX5_markShifts_45 (by decide) (fun c => ?_) (fun c => ?_)
      · have h := if_t h c
        obtain ⟨y2, ey2⟩ : ∃ y : Int32, y = x3 + (1 : Int32) := ⟨_, rfl⟩
        have h := nm_o h y2 ey2
        refine lv_iinc (v := y2) (lv' := [(3, .int y2), (0, .ref (q 23)), (1, .int x1), (2, .int x2)]) hx hb dX5_markShifts_77 hl (k := 3) rfl (by rw [ey2]; rfl) (by decide) rfl (fun ls hl => ?_)
        refine lv_goto (tgt := 31) hx hb dX5_markShifts_80 (by decide) ?_
        exact ih σ y2 _ _ ls h hw (lv_sub hl [1, 2, 3, 0] rfl)
      · have h := if_f h c
        refine lv_iload_n hx hb dX5_markShifts_48 rfl (lv_at hl 1 rfl) ?_
        refine lv_iconst (v := 3) hx hb dX5_markShifts_49 (by decide) ?_
        refine lv_iload_n hx hb dX5_markShifts_50 rfl (lv_at hl 3 rfl) ?_
        refine lv_imul hx hb dX5_markShifts_51 ?_
        refine lv_iushr (v := jushr x1 ((3 : Int32) * x3)) hx hb dX5_markShifts_52 rfl ?_
        refine lv_bipush (v := 7) hx hb dX5_markShifts_53 (by decide) ?_
        refine lv_iand hx hb dX5_markShifts_55 ?_
        refine lv_topi (fun y3 ey3 => ?_)
        have h := nm_o h y3 ey3
        refine lv_istore (lv' := [(4, .int y3), (0, .ref (q 23)), (1, .int x1), (2, .int x2), (3, .int x3)]) hx hb dX5_markShifts_56 hl (by decide) rfl (fun ls hl => ?_)
        refine lv_aload_n hx hb dX5_markShifts_58 rfl (lv_at hl 1 rfl) ?_
        refine lv_iload_n hx hb dX5_markShifts_59 rfl (lv_at hl 2 rfl) ?_
        refine lv_iload hx hb dX5_markShifts_60 (lv_at hl 0 rfl) ?_
        refine lv_iconst (v := 3) hx hb dX5_markShifts_62 (by decide) ?_
        refine lv_iload_n hx hb dX5_markShifts_63 rfl (lv_at hl 4 rfl) ?_
        refine lv_imul hx hb dX5_markShifts_64 ?_
        refine lv_ishl hx hb dX5_markShifts_65 ?_
        refine lv_ixor hx hb dX5_markShifts_66 ?_
        refine lv_iload hx hb dX5_markShifts_67 (lv_at hl 0 rfl) ?_
        refine lv_iconst (v := 3) hx hb dX5_markShifts_69 (by decide) ?_
        refine lv_iload_n hx hb dX5_markShifts_70 rfl (lv_at hl 3 rfl) ?_
        refine lv_imul hx hb dX5_markShifts_71 ?_
        refine lv_ishl hx hb dX5_markShifts_72 ?_
        refine lv_ixor hx hb dX5_markShifts_73 ?_
        obtain ⟨σ4, hc, h⟩ := bd1_o h
        refine go_v (run_V (As := [.int ((x1 ^^^ (jshl y3 ((3 : Int32) * x3))) ^^^ (jshl y3 ((3 : Int32) * x2)))]) (rest := []) hC hw (c_X5_mark l D q k N σ ((x1 ^^^ (jshl y3 ((3 : Int32) * x3))) ^^^ (jshl y3 ((3 : Int32) * x2))) σ4 hc) kw_225 kw_227 kw_228 kw_166 kw_226 hd_X5_mark ⟨rfl, rfl⟩ ⟨Nat.le_of_ble_eq_true rfl, Nat.le_of_ble_eq_true rfl⟩ 23 rfl rfl rfl hl.1 rfl (Nat.le_of_ble_eq_true rfl) dX5_markShifts_74 ⟨Nat.zero_le _, Nat.zero_le _⟩) hw (fun H locs hw => ?_)
        obtain ⟨y5, ey5⟩ : ∃ y : Int32, y = x3 + (1 : Int32) := ⟨_, rfl⟩
        have h := nm_o h y5 ey5
        refine lv_iinc (v := y5) (lv' := [(3, .int y5), (4, .int y3), (0, .ref (q 23)), (1, .int x1), (2, .int x2)]) hx hb dX5_markShifts_77 hl (k := 4) rfl (by rw [ey5]; rfl) (by decide) rfl (fun ls hl => ?_)
        refine lv_goto (tgt := 31) hx hb dX5_markShifts_80 (by decide) ?_
        exact ih σ4 y5 _ _ ls h hw (lv_sub hl [2, 3, 4, 0] rfl)
def lp_X5_markShifts_2 (N : Nat) (σ : St) (x1 : Int32) : Nat → Int32 → Option St
  | 0, _ => none
  | n + 1, x2 => if ((σ.1 15) - (1 : Int32)) ≤ x2 then (lp_X5_markShifts_31 N x1 x2 N σ (0 : Int32)) else (if ((jushr x1 ((3 : Int32) * x2)) &&& (7 : Int32)) = 0 then (lp_X5_markShifts_31 N x1 x2 N σ (0 : Int32)) else (nm (x2 + (1 : Int32)) (fun y6 => lp_X5_markShifts_2 N σ x1 n y6)))
set_option maxRecDepth 100000 in
set_option maxHeartbeats 4000000 in
theorem w_X5_markShifts_2 {p : Program} {l : Launch} {e : Env} {s : State} {m : MethodId} {below : List Frame} {meth : Method} {c : Code} {args : Array Value} {D : va_G} {q : Nat → Nat} {k : cK} {ws0 : va_W} (hC : Cx p s m meth c cX5_markShifts RX5 5 none) (N : Nat) (σ : St) (x1 : Int32) (σ' : St) :
    ∀ (n : Nat) (x2 : Int32) (H : Heap) (locs : List Loc) (ls : Array Slot), lp_X5_markShifts_2 N σ x1 n x2 = some σ' → WH D (CW q k σ) k (AQ ws0) s s.heap H locs → lv_has ls 5 [(0, .ref (q 23)), (1, .int x1), (2, .int x2)] → W p l e rm_X5_markShifts s m args below meth c H locs 0 0 (MQ below (QR D ws0 (CW q k σ') none) args s 0 0 (AQ ws0)) (F0 m 2 ls []) := by
  have hx := hC.1
  have hb := hC.2.1
  intro n
  induction n with
  | zero =>
    intro x2 H locs ls h
    cases h
  | succ n ih =>
    intro x2 H locs ls h hw hl
    rw [lp_X5_markShifts_2] at h
    refine lv_iload_n hx hb dX5_markShifts_2 rfl (lv_at hl 2 rfl) ?_
    refine lv_aload_n hx hb dX5_markShifts_3 rfl (lv_at hl 0 rfl) ?_
    refine C_g_X5_30 hC hw dX5_markShifts_4 ?_
    refine lv_iconst (v := 1) hx hb dX5_markShifts_7 (by decide) ?_
    refine lv_isub hx hb dX5_markShifts_8 ?_
    refine lv_icmp_ge (tgt := 29) hx hb dX5_markShifts_9 (by decide) (fun c => ?_) (fun c => ?_)
    · have h := if_t h c
      refine lv_iconst (v := 0) hx hb dX5_markShifts_29 (by decide) ?_
      refine lv_istore_n (lv' := [(3, .int (0 : Int32)), (0, .ref (q 23)), (1, .int x1), (2, .int x2)]) hx hb dX5_markShifts_30 rfl hl (by decide) rfl (fun ls hl => ?_)
      exact w_X5_markShifts_31 hC N x1 x2 σ' N σ (0 : Int32) _ _ ls h hw (lv_sub hl [1, 2, 3, 0] rfl)
    · have h := if_f h c
      refine lv_iload_n hx hb dX5_markShifts_12 rfl (lv_at hl 1 rfl) ?_
      refine lv_iconst (v := 3) hx hb dX5_markShifts_13 (by decide) ?_
      refine lv_iload_n hx hb dX5_markShifts_14 rfl (lv_at hl 2 rfl) ?_
      refine lv_imul hx hb dX5_markShifts_15 ?_
      refine lv_iushr (v := jushr x1 ((3 : Int32) * x2)) hx hb dX5_markShifts_16 rfl ?_
      refine lv_bipush (v := 7) hx hb dX5_markShifts_17 (by decide) ?_
      refine lv_iand hx hb dX5_markShifts_19 ?_
      refine lv_if_eq (tgt := 29) hx hb dX5_markShifts_20 (by decide) (fun c => ?_) (fun c => ?_)
      · have h := if_t h c
        refine lv_iconst (v := 0) hx hb dX5_markShifts_29 (by decide) ?_
        refine lv_istore_n (lv' := [(3, .int (0 : Int32)), (0, .ref (q 23)), (1, .int x1), (2, .int x2)]) hx hb dX5_markShifts_30 rfl hl (by decide) rfl (fun ls hl => ?_)
        exact w_X5_markShifts_31 hC N x1 x2 σ' N σ (0 : Int32) _ _ ls h hw (lv_sub hl [1, 2, 3, 0] rfl)
      · have h := if_f h c
        obtain ⟨y6, ey6⟩ : ∃ y : Int32, y = x2 + (1 : Int32) := ⟨_, rfl⟩
        have h := nm_o h y6 ey6
        refine lv_iinc (v := y6) (lv' := [(2, .int y6), (0, .ref (q 23)), (1, .int x1)]) hx hb dX5_markShifts_23 hl (k := 2) rfl (by rw [ey6]; rfl) (by decide) rfl (fun ls hl => ?_)
        refine lv_goto (tgt := 2) hx hb dX5_markShifts_26 (by decide) ?_
        exact ih y6 _ _ ls h hw (lv_sub hl [1, 2, 0] rfl)
def f_X5_markShifts (N : Nat) (σ : St) (a0 : Int32) : Option St :=
  lp_X5_markShifts_2 N σ a0 N (0 : Int32)
set_option maxRecDepth 100000 in
set_option maxHeartbeats 4000000 in
theorem c_X5_markShifts (l : Launch) (D : va_G) (q : Nat → Nat) (k : cK) (N : Nat) (σ : St) (a0 : Int32) (σ' : St) (h : f_X5_markShifts N σ a0 = some σ') :
    Met l yX5_markShifts [.code yX5_markShifts cX5_markShifts 5 none] rm_X5_markShifts (PC D (CW q k σ) k [.ref (q 23), .int a0]) (QR D (CW q k σ) (CW q k σ') none) 0 0 (AQ (CW q k σ)) := by
  refine met_of (by decide) (Nat.le_of_ble_eq_true rfl) ?_
  intro p e s m below meth c hC hw ls hl
  have hC : Cx p s m meth c cX5_markShifts RX5 5 none := hC
  have hl : lv_has ls 5 [(0, .ref (q 23)), (1, .int a0)] := hl
  have hx := hC.1
  have hb := hC.2.1
  unfold f_X5_markShifts at h
  refine lv_iconst (v := 0) hx hb dX5_markShifts_0 (by decide) ?_
  refine lv_istore_n (lv' := [(2, .int (0 : Int32)), (0, .ref (q 23)), (1, .int a0)]) hx hb dX5_markShifts_1 rfl hl (by decide) rfl (fun ls hl => ?_)
  exact w_X5_markShifts_2 hC N σ a0 σ' N (0 : Int32) _ _ ls h hw (lv_sub hl [1, 2, 0] rfl)
/-! SlideBoards$TileGraph.findArrangements()V -/
abbrev rm_X5_findArrangements : Room := { frames := 4, cells := 0, slots := 0, locals := 86 }
def lp_X5_findArrangements_74 (N : Nat) : Nat → St → Int32 → Option St
  | 0, _, _ => none
  | n + 1, σ, x2 => if (σ.1 16) ≤ x2 then (some σ) else (if (40320 : Int32) ≤ x2 then (some σ) else (gd (okx x2 40320) (bd1 (f_X5_markShifts N σ (ra σ 18 x2)) (fun σ3 => nm (x2 + (1 : Int32)) (fun y4 => lp_X5_findArrangements_74 N n σ3 y4)))))
set_option maxRecDepth 100000 in
set_option maxHeartbeats 4000000 in
theorem w_X5_findArrangements_74 {p : Program} {l : Launch} {e : Env} {s : State} {m : MethodId} {below : List Frame} {meth : Method} {c : Code} {args : Array Value} {D : va_G} {q : Nat → Nat} {k : cK} {ws0 : va_W} (hC : Cx p s m meth c cX5_findArrangements RX5 3 none) (N : Nat) (σ' : St) :
    ∀ (n : Nat) (σ : St) (x2 : Int32) (H : Heap) (locs : List Loc) (ls : Array Slot), lp_X5_findArrangements_74 N n σ x2 = some σ' → WH D (CW q k σ) k (AQ ws0) s s.heap H locs → lv_has ls 3 [(0, .ref (q 23)), (2, .int x2)] → W p l e rm_X5_findArrangements s m args below meth c H locs 0 0 (MQ below (QR D ws0 (CW q k σ') none) args s 0 0 (AQ ws0)) (F0 m 74 ls []) := by
  have hx := hC.1
  have hb := hC.2.1
  intro n
  induction n with
  | zero =>
    intro σ x2 H locs ls h
    cases h
  | succ n ih =>
    intro σ x2 H locs ls h hw hl
    rw [lp_X5_findArrangements_74] at h
    refine lv_iload_n hx hb dX5_findArrangements_74 rfl (lv_at hl 1 rfl) ?_
    refine lv_aload_n hx hb dX5_findArrangements_75 rfl (lv_at hl 0 rfl) ?_
    refine C_g_X5_61 hC hw dX5_findArrangements_76 ?_
    refine lv_icmp_ge (tgt := 104) hx hb dX5_findArrangements_79 (by decide) (fun c => ?_) (fun c => ?_)
    · have h := if_t h c
      cases h
      exact ret_v hC hw dX5_findArrangements_104
    · have h := if_f h c
      refine lv_iload_n hx hb dX5_findArrangements_82 rfl (lv_at hl 1 rfl) ?_
      refine lv_ldc hx hb hC.2.2.2.2.1 (hw.2.2.2.2.all _ _ kw_224) dX5_findArrangements_83 ?_
      refine lv_icmp_ge (tgt := 104) hx hb dX5_findArrangements_85 (by decide) (fun c => ?_) (fun c => ?_)
      · have h := if_t h c
        cases h
        exact ret_v hC hw dX5_findArrangements_104
      · have h := if_f h c
        refine lv_aload_n hx hb dX5_findArrangements_88 rfl (lv_at hl 0 rfl) ?_
        refine lv_aload_n hx hb dX5_findArrangements_89 rfl (lv_at hl 0 rfl) ?_
        refine C_g_X5_22 hC hw dX5_findArrangements_90 ?_
        refine lv_iload_n hx hb dX5_findArrangements_93 rfl (lv_at hl 1 rfl) ?_
        obtain ⟨hin, h⟩ := gd_o h
        refine C_ld27 hC hw hin dX5_findArrangements_94 ?_
        obtain ⟨σ3, hc, h⟩ := bd1_o h
        refine go_v (run_V (As := [.int (ra σ 18 x2)]) (rest := []) hC hw (c_X5_markShifts l D q k N σ (ra σ 18 x2) σ3 hc) kw_229 kw_231 kw_232 kw_166 kw_230 hd_X5_markShifts ⟨rfl, rfl⟩ ⟨Nat.le_of_ble_eq_true rfl, Nat.le_of_ble_eq_true rfl⟩ 23 rfl rfl rfl hl.1 rfl (Nat.le_of_ble_eq_true rfl) dX5_findArrangements_95 ⟨Nat.zero_le _, Nat.zero_le _⟩) hw (fun H locs hw => ?_)
        obtain ⟨y4, ey4⟩ : ∃ y : Int32, y = x2 + (1 : Int32) := ⟨_, rfl⟩
        have h := nm_o h y4 ey4
        refine lv_iinc (v := y4) (lv' := [(2, .int y4), (0, .ref (q 23))]) hx hb dX5_findArrangements_98 hl (k := 1) rfl (by rw [ey4]; rfl) (by decide) rfl (fun ls hl => ?_)
        refine lv_goto (tgt := 74) hx hb dX5_findArrangements_101 (by decide) ?_
        exact ih σ3 y4 _ _ ls h hw (lv_sub hl [1, 0] rfl)
def lp_X5_findArrangements_40 (N : Nat) (σ : St) : Nat → Int32 → Int32 → Option St
  | 0, _, _ => none
  | n + 1, x1, x2 => if (σ.1 15) ≤ x2 then (bd1 (f_X5_mark N σ x1) (fun σ2 => lp_X5_findArrangements_74 N N σ2 (0 : Int32))) else (gd (okx x2 8) (nm (x1 ||| (jshl (ra σ 15 x2) ((3 : Int32) * x2))) (fun y5 => nm (x2 + (1 : Int32)) (fun y6 => lp_X5_findArrangements_40 N σ n y5 y6))))
set_option maxRecDepth 100000 in
set_option maxHeartbeats 4000000 in
theorem w_X5_findArrangements_40 {p : Program} {l : Launch} {e : Env} {s : State} {m : MethodId} {below : List Frame} {meth : Method} {c : Code} {args : Array Value} {D : va_G} {q : Nat → Nat} {k : cK} {ws0 : va_W} (hC : Cx p s m meth c cX5_findArrangements RX5 3 none) (N : Nat) (σ : St) (σ' : St) :
    ∀ (n : Nat) (x1 : Int32) (x2 : Int32) (H : Heap) (locs : List Loc) (ls : Array Slot), lp_X5_findArrangements_40 N σ n x1 x2 = some σ' → WH D (CW q k σ) k (AQ ws0) s s.heap H locs → lv_has ls 3 [(0, .ref (q 23)), (1, .int x1), (2, .int x2)] → W p l e rm_X5_findArrangements s m args below meth c H locs 0 0 (MQ below (QR D ws0 (CW q k σ') none) args s 0 0 (AQ ws0)) (F0 m 40 ls []) := by
  have hx := hC.1
  have hb := hC.2.1
  intro n
  induction n with
  | zero =>
    intro x1 x2 H locs ls h
    cases h
  | succ n ih =>
    intro x1 x2 H locs ls h hw hl
    rw [lp_X5_findArrangements_40] at h
    refine lv_iload_n hx hb dX5_findArrangements_40 rfl (lv_at hl 2 rfl) ?_
    refine lv_aload_n hx hb dX5_findArrangements_41 rfl (lv_at hl 0 rfl) ?_
    refine C_g_X5_30 hC hw dX5_findArrangements_42 ?_
    refine lv_icmp_ge (tgt := 67) hx hb dX5_findArrangements_45 (by decide) (fun c => ?_) (fun c => ?_)
    · have h := if_t h c
      refine lv_aload_n hx hb dX5_findArrangements_67 rfl (lv_at hl 0 rfl) ?_
      refine lv_iload_n hx hb dX5_findArrangements_68 rfl (lv_at hl 1 rfl) ?_
      obtain ⟨σ2, hc, h⟩ := bd1_o h
      refine go_v (run_V (As := [.int x1]) (rest := []) hC hw (c_X5_mark l D q k N σ x1 σ2 hc) kw_225 kw_227 kw_228 kw_166 kw_226 hd_X5_mark ⟨rfl, rfl⟩ ⟨Nat.le_of_ble_eq_true rfl, Nat.le_of_ble_eq_true rfl⟩ 23 rfl rfl rfl hl.1 rfl (Nat.le_of_ble_eq_true rfl) dX5_findArrangements_69 ⟨Nat.zero_le _, Nat.zero_le _⟩) hw (fun H locs hw => ?_)
      refine lv_iconst (v := 0) hx hb dX5_findArrangements_72 (by decide) ?_
      refine lv_istore_n (lv' := [(2, .int (0 : Int32)), (0, .ref (q 23)), (1, .int x1)]) hx hb dX5_findArrangements_73 rfl hl (by decide) rfl (fun ls hl => ?_)
      exact w_X5_findArrangements_74 hC N σ' N σ2 (0 : Int32) _ _ ls h hw (lv_sub hl [1, 0] rfl)
    · have h := if_f h c
      refine lv_iload_n hx hb dX5_findArrangements_48 rfl (lv_at hl 1 rfl) ?_
      refine lv_aload_n hx hb dX5_findArrangements_49 rfl (lv_at hl 0 rfl) ?_
      refine C_g_X5_9 hC hw dX5_findArrangements_50 ?_
      refine lv_iload_n hx hb dX5_findArrangements_53 rfl (lv_at hl 2 rfl) ?_
      obtain ⟨hin, h⟩ := gd_o h
      refine C_ld24 hC hw hin dX5_findArrangements_54 ?_
      refine lv_iconst (v := 3) hx hb dX5_findArrangements_55 (by decide) ?_
      refine lv_iload_n hx hb dX5_findArrangements_56 rfl (lv_at hl 2 rfl) ?_
      refine lv_imul hx hb dX5_findArrangements_57 ?_
      refine lv_ishl hx hb dX5_findArrangements_58 ?_
      refine lv_ior hx hb dX5_findArrangements_59 ?_
      refine lv_topi (fun y5 ey5 => ?_)
      have h := nm_o h y5 ey5
      refine lv_istore_n (lv' := [(1, .int y5), (0, .ref (q 23)), (2, .int x2)]) hx hb dX5_findArrangements_60 rfl hl (by decide) rfl (fun ls hl => ?_)
      obtain ⟨y6, ey6⟩ : ∃ y : Int32, y = x2 + (1 : Int32) := ⟨_, rfl⟩
      have h := nm_o h y6 ey6
      refine lv_iinc (v := y6) (lv' := [(2, .int y6), (1, .int y5), (0, .ref (q 23))]) hx hb dX5_findArrangements_61 hl (k := 2) rfl (by rw [ey6]; rfl) (by decide) rfl (fun ls hl => ?_)
      refine lv_goto (tgt := 40) hx hb dX5_findArrangements_64 (by decide) ?_
      exact ih y5 y6 _ _ ls h hw (lv_sub hl [2, 1, 0] rfl)
def lp_X5_findArrangements_2 (N : Nat) : Nat → St → Int32 → Option St
  | 0, _, _ => none
  | n + 1, σ, x1 => if (σ.1 16) ≤ x1 then (nm (sI σ 16 (0 : Int32)) (fun σ1 => lp_X5_findArrangements_40 N σ1 N (0 : Int32) (0 : Int32))) else (gd (okx x1 40320) (bd1 (f_X5_markOf N σ (ra σ 18 x1)) (fun r7 => gd (okx r7 32768) (nm (sL σ 2 r7 (0 : Int64)) (fun σ8 => nm (x1 + (1 : Int32)) (fun y9 => lp_X5_findArrangements_2 N n σ8 y9))))))
set_option maxRecDepth 100000 in
set_option maxHeartbeats 4000000 in
theorem w_X5_findArrangements_2 {p : Program} {l : Launch} {e : Env} {s : State} {m : MethodId} {below : List Frame} {meth : Method} {c : Code} {args : Array Value} {D : va_G} {q : Nat → Nat} {k : cK} {ws0 : va_W} (hC : Cx p s m meth c cX5_findArrangements RX5 3 none) (N : Nat) (σ' : St) :
    ∀ (n : Nat) (σ : St) (x1 : Int32) (H : Heap) (locs : List Loc) (ls : Array Slot), lp_X5_findArrangements_2 N n σ x1 = some σ' → WH D (CW q k σ) k (AQ ws0) s s.heap H locs → lv_has ls 3 [(0, .ref (q 23)), (1, .int x1)] → W p l e rm_X5_findArrangements s m args below meth c H locs 0 0 (MQ below (QR D ws0 (CW q k σ') none) args s 0 0 (AQ ws0)) (F0 m 2 ls []) := by
  have hx := hC.1
  have hb := hC.2.1
  intro n
  induction n with
  | zero =>
    intro σ x1 H locs ls h
    cases h
  | succ n ih =>
    intro σ x1 H locs ls h hw hl
    rw [lp_X5_findArrangements_2] at h
    refine lv_iload_n hx hb dX5_findArrangements_2 rfl (lv_at hl 1 rfl) ?_
    refine lv_aload_n hx hb dX5_findArrangements_3 rfl (lv_at hl 0 rfl) ?_
    refine C_g_X5_61 hC hw dX5_findArrangements_4 ?_
    refine lv_icmp_ge (tgt := 31) hx hb dX5_findArrangements_7 (by decide) (fun c => ?_) (fun c => ?_)
    · have h := if_t h c
      refine lv_aload_n hx hb dX5_findArrangements_31 rfl (lv_at hl 0 rfl) ?_
      refine lv_iconst (v := 0) hx hb dX5_findArrangements_32 (by decide) ?_
      refine C_p_X5_61 hC hw dX5_findArrangements_33 (fun σ1 eσ1 H locs hw => ?_)
      have h := nm_o h σ1 eσ1
      refine lv_iconst (v := 0) hx hb dX5_findArrangements_36 (by decide) ?_
      refine lv_istore_n (lv' := [(1, .int (0 : Int32)), (0, .ref (q 23))]) hx hb dX5_findArrangements_37 rfl hl (by decide) rfl (fun ls hl => ?_)
      refine lv_iconst (v := 0) hx hb dX5_findArrangements_38 (by decide) ?_
      refine lv_istore_n (lv' := [(2, .int (0 : Int32)), (1, .int (0 : Int32)), (0, .ref (q 23))]) hx hb dX5_findArrangements_39 rfl hl (by decide) rfl (fun ls hl => ?_)
      exact w_X5_findArrangements_40 hC N σ1 σ' N (0 : Int32) (0 : Int32) _ _ ls h hw (lv_sub hl [2, 1, 0] rfl)
    · have h := if_f h c
      refine lv_aload_n hx hb dX5_findArrangements_10 rfl (lv_at hl 0 rfl) ?_
      refine C_g_X5_26 hC hw dX5_findArrangements_11 ?_
      refine lv_aload_n hx hb dX5_findArrangements_14 rfl (lv_at hl 0 rfl) ?_
      refine C_g_X5_22 hC hw dX5_findArrangements_15 ?_
      refine lv_iload_n hx hb dX5_findArrangements_18 rfl (lv_at hl 1 rfl) ?_
      obtain ⟨hin, h⟩ := gd_o h
      refine C_ld27 hC hw hin dX5_findArrangements_19 ?_
      obtain ⟨r7, hc, h⟩ := bd1_o h
      refine go_i (run_S (As := [.int (ra σ 18 x1)]) (rest := [.ref (q 28)]) hC hw (c_X5_markOf l D q k N σ (ra σ 18 x1) r7 hc) kw_217 kw_219 kw_166 kw_218 hd_X5_markOf ⟨rfl, rfl⟩ ⟨Nat.le_of_ble_eq_true rfl, Nat.le_of_ble_eq_true rfl⟩ rfl hl.1 rfl (Nat.le_of_ble_eq_true rfl) dX5_findArrangements_20 ⟨Nat.zero_le _, Nat.zero_le _⟩) hw (fun H locs hw => ?_)
      refine lv_lconst (v := 0) hx hb dX5_findArrangements_23 (by decide) ?_
      obtain ⟨hin, h⟩ := gd_o h
      refine C_st28 hC hw hin dX5_findArrangements_24 (fun σ8 eσ8 H locs hw => ?_)
      have h := nm_o h σ8 eσ8
      obtain ⟨y9, ey9⟩ : ∃ y : Int32, y = x1 + (1 : Int32) := ⟨_, rfl⟩
      have h := nm_o h y9 ey9
      refine lv_iinc (v := y9) (lv' := [(1, .int y9), (0, .ref (q 23))]) hx hb dX5_findArrangements_25 hl (k := 1) rfl (by rw [ey9]; rfl) (by decide) rfl (fun ls hl => ?_)
      refine lv_goto (tgt := 2) hx hb dX5_findArrangements_28 (by decide) ?_
      exact ih σ8 y9 _ _ ls h hw (lv_sub hl [1, 0] rfl)
def f_X5_findArrangements (N : Nat) (σ : St) : Option St :=
  lp_X5_findArrangements_2 N N σ (0 : Int32)
set_option maxRecDepth 100000 in
set_option maxHeartbeats 4000000 in
theorem c_X5_findArrangements (l : Launch) (D : va_G) (q : Nat → Nat) (k : cK) (N : Nat) (σ : St) (σ' : St) (h : f_X5_findArrangements N σ = some σ') :
    Met l yX5_findArrangements [.code yX5_findArrangements cX5_findArrangements 3 none] rm_X5_findArrangements (PC D (CW q k σ) k [.ref (q 23)]) (QR D (CW q k σ) (CW q k σ') none) 0 0 (AQ (CW q k σ)) := by
  refine met_of (by decide) (Nat.le_of_ble_eq_true rfl) ?_
  intro p e s m below meth c hC hw ls hl
  have hC : Cx p s m meth c cX5_findArrangements RX5 3 none := hC
  have hl : lv_has ls 3 [(0, .ref (q 23))] := hl
  have hx := hC.1
  have hb := hC.2.1
  unfold f_X5_findArrangements at h
  refine lv_iconst (v := 0) hx hb dX5_findArrangements_0 (by decide) ?_
  refine lv_istore_n (lv' := [(1, .int (0 : Int32)), (0, .ref (q 23))]) hx hb dX5_findArrangements_1 rfl hl (by decide) rfl (fun ls hl => ?_)
  exact w_X5_findArrangements_2 hC N σ' N σ (0 : Int32) _ _ ls h hw (lv_sub hl [1, 0] rfl)
/-! SlideBoards$TileGraph.countArrangements()I -/
abbrev rm_X5_countArrangements : Room := { frames := 5, cells := 0, slots := 0, locals := 108 }
def f_X5_countArrangements (N : Nat) (σ : St) : Option (Int32 × St) :=
  if (σ.1 15) = 0 then (some ((0 : Int32), σ)) else (bd1 (f_X5_findArrangements N σ) (fun σ1 => some (σ1.1 16, σ1)))
set_option maxRecDepth 100000 in
set_option maxHeartbeats 4000000 in
theorem c_X5_countArrangements (l : Launch) (D : va_G) (q : Nat → Nat) (k : cK) (N : Nat) (σ : St) (r : Int32) (σ' : St) (h : f_X5_countArrangements N σ = some (r, σ')) :
    Met l yX5_countArrangements [.code yX5_countArrangements cX5_countArrangements 1 (some .int)] rm_X5_countArrangements (PC D (CW q k σ) k [.ref (q 23)]) (QR D (CW q k σ) (CW q k σ') (some (.int r))) 0 0 (AQ (CW q k σ)) := by
  refine met_of (by decide) (Nat.le_of_ble_eq_true rfl) ?_
  intro p e s m below meth c hC hw ls hl
  have hC : Cx p s m meth c cX5_countArrangements RX5 1 (some .int) := hC
  have hl : lv_has ls 1 [(0, .ref (q 23))] := hl
  have hx := hC.1
  have hb := hC.2.1
  unfold f_X5_countArrangements at h
  refine lv_aload_n hx hb dX5_countArrangements_0 rfl (lv_at hl 0 rfl) ?_
  refine C_g_X5_30 hC hw dX5_countArrangements_1 ?_
  refine lv_if_ne (tgt := 9) hx hb dX5_countArrangements_4 (by decide) (fun c => ?_) (fun c => ?_)
  · have h := if_f h c
    refine lv_aload_n hx hb dX5_countArrangements_9 rfl (lv_at hl 0 rfl) ?_
    obtain ⟨σ1, hc, h⟩ := bd1_o h
    refine go_v (run_V (As := []) (rest := []) hC hw (c_X5_findArrangements l D q k N σ σ1 hc) kw_233 kw_235 kw_236 kw_166 kw_234 hd_X5_findArrangements ⟨rfl, rfl⟩ ⟨Nat.le_of_ble_eq_true rfl, Nat.le_of_ble_eq_true rfl⟩ 23 rfl rfl rfl hl.1 rfl (Nat.le_of_ble_eq_true rfl) dX5_countArrangements_10 ⟨Nat.zero_le _, Nat.zero_le _⟩) hw (fun H locs hw => ?_)
    refine lv_aload_n hx hb dX5_countArrangements_13 rfl (lv_at hl 0 rfl) ?_
    refine C_g_X5_61 hC hw dX5_countArrangements_14 ?_
    cases h
    exact ret_i hC hw dX5_countArrangements_17
  · have h := if_t h c
    refine lv_iconst (v := 0) hx hb dX5_countArrangements_7 (by decide) ?_
    cases h
    exact ret_i hC hw dX5_countArrangements_8
/-! SlideBoards$TileGraph.comesHome()Z -/
abbrev rm_X5_comesHome : Room := { frames := 5, cells := 0, slots := 0, locals := 108 }
def lp_X5_comesHome_4 (N : Nat) (σ : St) : Nat → Int32 → Int32 → Option (Int32 × St)
  | 0, _, _ => none
  | n + 1, x1, x2 => if (σ.1 15) ≤ x2 then (bd1 (f_X5_findArrangements N σ) (fun σ1 => bd1 (f_X5_isMarked N σ1 x1) (fun r2 => gd (decide (r2 = 0 ∨ r2 = 1)) (some (r2, σ1))))) else (nm (x1 ||| (jshl x2 ((3 : Int32) * x2))) (fun y3 => nm (x2 + (1 : Int32)) (fun y4 => lp_X5_comesHome_4 N σ n y3 y4)))
set_option maxRecDepth 100000 in
set_option maxHeartbeats 4000000 in
theorem w_X5_comesHome_4 {p : Program} {l : Launch} {e : Env} {s : State} {m : MethodId} {below : List Frame} {meth : Method} {c : Code} {args : Array Value} {D : va_G} {q : Nat → Nat} {k : cK} {ws0 : va_W} (hC : Cx p s m meth c cX5_comesHome RX5 3 (some .boolean)) (N : Nat) (σ : St) (r : Int32) (σ' : St) :
    ∀ (n : Nat) (x1 : Int32) (x2 : Int32) (H : Heap) (locs : List Loc) (ls : Array Slot), lp_X5_comesHome_4 N σ n x1 x2 = some (r, σ') → WH D (CW q k σ) k (AQ ws0) s s.heap H locs → lv_has ls 3 [(0, .ref (q 23)), (1, .int x1), (2, .int x2)] → W p l e rm_X5_comesHome s m args below meth c H locs 0 0 (MQ below (QR D ws0 (CW q k σ') (some (.int r))) args s 0 0 (AQ ws0)) (F0 m 4 ls []) := by
  have hx := hC.1
  have hb := hC.2.1
  intro n
  induction n with
  | zero =>
    intro x1 x2 H locs ls h
    cases h
  | succ n ih =>
    intro x1 x2 H locs ls h hw hl
    rw [lp_X5_comesHome_4] at h
    refine lv_iload_n hx hb dX5_comesHome_4 rfl (lv_at hl 2 rfl) ?_
    refine lv_aload_n hx hb dX5_comesHome_5 rfl (lv_at hl 0 rfl) ?_
    refine C_g_X5_30 hC hw dX5_comesHome_6 ?_
    refine lv_icmp_ge (tgt := 26) hx hb dX5_comesHome_9 (by decide) (fun c => ?_) (fun c => ?_)
    · have h := if_t h c
      refine lv_aload_n hx hb dX5_comesHome_26 rfl (lv_at hl 0 rfl) ?_
      obtain ⟨σ1, hc, h⟩ := bd1_o h
      refine go_v (run_V (As := []) (rest := []) hC hw (c_X5_findArrangements l D q k N σ σ1 hc) kw_233 kw_235 kw_236 kw_166 kw_234 hd_X5_findArrangements ⟨rfl, rfl⟩ ⟨Nat.le_of_ble_eq_true rfl, Nat.le_of_ble_eq_true rfl⟩ 23 rfl rfl rfl hl.1 rfl (Nat.le_of_ble_eq_true rfl) dX5_comesHome_27 ⟨Nat.zero_le _, Nat.zero_le _⟩) hw (fun H locs hw => ?_)
      refine lv_aload_n hx hb dX5_comesHome_30 rfl (lv_at hl 0 rfl) ?_
      refine lv_iload_n hx hb dX5_comesHome_31 rfl (lv_at hl 1 rfl) ?_
      obtain ⟨r2, hc, h⟩ := bd1_o h
      refine go_i (run_V (As := [.int x1]) (rest := []) hC hw (c_X5_isMarked l D q k N σ1 x1 r2 hc) kw_220 kw_222 kw_223 kw_166 kw_221 hd_X5_isMarked ⟨rfl, rfl⟩ ⟨Nat.le_of_ble_eq_true rfl, Nat.le_of_ble_eq_true rfl⟩ 23 rfl rfl rfl hl.1 rfl (Nat.le_of_ble_eq_true rfl) dX5_comesHome_32 ⟨Nat.zero_le _, Nat.zero_le _⟩) hw (fun H locs hw => ?_)
      obtain ⟨hz, h⟩ := gp_o h
      cases h
      exact ret_z hC hz hw dX5_comesHome_35
    · have h := if_f h c
      refine lv_iload_n hx hb dX5_comesHome_12 rfl (lv_at hl 1 rfl) ?_
      refine lv_iload_n hx hb dX5_comesHome_13 rfl (lv_at hl 2 rfl) ?_
      refine lv_iconst (v := 3) hx hb dX5_comesHome_14 (by decide) ?_
      refine lv_iload_n hx hb dX5_comesHome_15 rfl (lv_at hl 2 rfl) ?_
      refine lv_imul hx hb dX5_comesHome_16 ?_
      refine lv_ishl hx hb dX5_comesHome_17 ?_
      refine lv_ior hx hb dX5_comesHome_18 ?_
      refine lv_topi (fun y3 ey3 => ?_)
      have h := nm_o h y3 ey3
      refine lv_istore_n (lv' := [(1, .int y3), (0, .ref (q 23)), (2, .int x2)]) hx hb dX5_comesHome_19 rfl hl (by decide) rfl (fun ls hl => ?_)
      obtain ⟨y4, ey4⟩ : ∃ y : Int32, y = x2 + (1 : Int32) := ⟨_, rfl⟩
      have h := nm_o h y4 ey4
      refine lv_iinc (v := y4) (lv' := [(2, .int y4), (1, .int y3), (0, .ref (q 23))]) hx hb dX5_comesHome_20 hl (k := 2) rfl (by rw [ey4]; rfl) (by decide) rfl (fun ls hl => ?_)
      refine lv_goto (tgt := 4) hx hb dX5_comesHome_23 (by decide) ?_
      exact ih y3 y4 _ _ ls h hw (lv_sub hl [2, 1, 0] rfl)
def f_X5_comesHome (N : Nat) (σ : St) : Option (Int32 × St) :=
  lp_X5_comesHome_4 N σ N (0 : Int32) (0 : Int32)
set_option maxRecDepth 100000 in
set_option maxHeartbeats 4000000 in
theorem c_X5_comesHome (l : Launch) (D : va_G) (q : Nat → Nat) (k : cK) (N : Nat) (σ : St) (r : Int32) (σ' : St) (h : f_X5_comesHome N σ = some (r, σ')) :
    Met l yX5_comesHome [.code yX5_comesHome cX5_comesHome 3 (some .boolean)] rm_X5_comesHome (PC D (CW q k σ) k [.ref (q 23)]) (QR D (CW q k σ) (CW q k σ') (some (.int r))) 0 0 (AQ (CW q k σ)) := by
  refine met_of (by decide) (Nat.le_of_ble_eq_true rfl) ?_
  intro p e s m below meth c hC hw ls hl
  have hC : Cx p s m meth c cX5_comesHome RX5 3 (some .boolean) := hC
  have hl : lv_has ls 3 [(0, .ref (q 23))] := hl
  have hx := hC.1
  have hb := hC.2.1
  unfold f_X5_comesHome at h
  refine lv_iconst (v := 0) hx hb dX5_comesHome_0 (by decide) ?_
  refine lv_istore_n (lv' := [(1, .int (0 : Int32)), (0, .ref (q 23))]) hx hb dX5_comesHome_1 rfl hl (by decide) rfl (fun ls hl => ?_)
  refine lv_iconst (v := 0) hx hb dX5_comesHome_2 (by decide) ?_
  refine lv_istore_n (lv' := [(2, .int (0 : Int32)), (1, .int (0 : Int32)), (0, .ref (q 23))]) hx hb dX5_comesHome_3 rfl hl (by decide) rfl (fun ls hl => ?_)
  exact w_X5_comesHome_4 hC N σ r σ' N (0 : Int32) (0 : Int32) _ _ ls h hw (lv_sub hl [2, 1, 0] rfl)

/-! SlideBoards$Route.depthOf(LSlideBoards$StateStore;I)I -/
abbrev rm_X3_depthOf : Room := { frames := 0, cells := 0, slots := 0, locals := 0 }
def lp_X3_depthOf_4 (N : Nat) (σ : St) : Nat → Int32 → Int32 → Option Int32
  | 0, _, _ => none
  | n + 1, x2, x3 => if x3 ≤ 0 then (some x2) else (if (10000 : Int32) ≤ x2 then (some x2) else (nm (x2 + (1 : Int32)) (fun y1 => gd (okx x3 10000) (nm (ra σ 10 x3) (fun y2 => lp_X3_depthOf_4 N σ n y1 y2)))))
set_option maxRecDepth 100000 in
set_option maxHeartbeats 4000000 in
theorem w_X3_depthOf_4 {p : Program} {l : Launch} {e : Env} {s : State} {m : MethodId} {below : List Frame} {meth : Method} {c : Code} {args : Array Value} {D : va_G} {q : Nat → Nat} {k : cK} {ws0 : va_W} (hC : Cx p s m meth c cX3_depthOf RX3 4 (some .int)) (N : Nat) (σ : St) (r : Int32) :
    ∀ (n : Nat) (x2 : Int32) (x3 : Int32) (H : Heap) (locs : List Loc) (ls : Array Slot), lp_X3_depthOf_4 N σ n x2 x3 = some r → WH D (CW q k σ) k (AQ ws0) s s.heap H locs → lv_has ls 4 [(0, .ref (q 14)), (2, .int x2), (3, .int x3)] → W p l e rm_X3_depthOf s m args below meth c H locs 0 0 (MQ below (QR D ws0 (CW q k σ) (some (.int r))) args s 0 0 (AQ ws0)) (F0 m 4 ls []) := by
  have hx := hC.1
  have hb := hC.2.1
  intro n
  induction n with
  | zero =>
    intro x2 x3 H locs ls h
    cases h
  | succ n ih =>
    intro x2 x3 H locs ls h hw hl
    rw [lp_X3_depthOf_4] at h
    refine lv_iload_n hx hb dX3_depthOf_4 rfl (lv_at hl 2 rfl) ?_
    refine lv_if_le (tgt := 28) hx hb dX3_depthOf_5 (by decide) (fun c => ?_) (fun c => ?_)
    · have h := if_t h c
      refine lv_iload_n hx hb dX3_depthOf_28 rfl (lv_at hl 1 rfl) ?_
      cases h
      exact ret_i hC hw dX3_depthOf_29
    · have h := if_f h c
      refine lv_iload_n hx hb dX3_depthOf_8 rfl (lv_at hl 1 rfl) ?_
      refine lv_sipush (v := 10000) hx hb dX3_depthOf_9 (by decide) ?_
      refine lv_icmp_ge (tgt := 28) hx hb dX3_depthOf_12 (by decide) (fun c => ?_) (fun c => ?_)
      · have h := if_t h c
        refine lv_iload_n hx hb dX3_depthOf_28 rfl (lv_at hl 1 rfl) ?_
        cases h
        exact ret_i hC hw dX3_depthOf_29
      · have h := if_f h c
        obtain ⟨y1, ey1⟩ : ∃ y : Int32, y = x2 + (1 : Int32) := ⟨_, rfl⟩
        have h := nm_o h y1 ey1
        refine lv_iinc (v := y1) (lv' := [(2, .int y1), (0, .ref (q 14)), (3, .int x3)]) hx hb dX3_depthOf_15 hl (k := 1) rfl (by rw [ey1]; rfl) (by decide) rfl (fun ls hl => ?_)
        refine lv_aload_n hx hb dX3_depthOf_18 rfl (lv_at hl 1 rfl) ?_
        refine C_g_X3_32 hC hw dX3_depthOf_19 ?_
        refine lv_iload_n hx hb dX3_depthOf_22 rfl (lv_at hl 2 rfl) ?_
        obtain ⟨hin, h⟩ := gd_o h
        refine C_ld17 hC hw hin dX3_depthOf_23 ?_
        refine lv_topi (fun y2 ey2 => ?_)
        have h := nm_o h y2 ey2
        refine lv_istore_n (lv' := [(3, .int y2), (2, .int y1), (0, .ref (q 14))]) hx hb dX3_depthOf_24 rfl hl (by decide) rfl (fun ls hl => ?_)
        refine lv_goto (tgt := 4) hx hb dX3_depthOf_25 (by decide) ?_
        exact ih y1 y2 _ _ ls h hw (lv_sub hl [2, 1, 0] rfl)
def f_X3_depthOf (N : Nat) (σ : St) (a1 : Int32) : Option Int32 :=
  lp_X3_depthOf_4 N σ N (0 : Int32) a1
set_option maxRecDepth 100000 in
set_option maxHeartbeats 4000000 in
theorem c_X3_depthOf (l : Launch) (D : va_G) (q : Nat → Nat) (k : cK) (N : Nat) (σ : St) (a1 : Int32) (r : Int32) (h : f_X3_depthOf N σ a1 = some r) :
    Met l yX3_depthOf [.code yX3_depthOf cX3_depthOf 4 (some .int)] rm_X3_depthOf (PC D (CW q k σ) k [.ref (q 14), .int a1]) (QR D (CW q k σ) (CW q k σ) (some (.int r))) 0 0 (AQ (CW q k σ)) := by
  refine met_of (by decide) (Nat.le_of_ble_eq_true rfl) ?_
  intro p e s m below meth c hC hw ls hl
  have hC : Cx p s m meth c cX3_depthOf RX3 4 (some .int) := hC
  have hl : lv_has ls 4 [(0, .ref (q 14)), (1, .int a1)] := hl
  have hx := hC.1
  have hb := hC.2.1
  unfold f_X3_depthOf at h
  refine lv_iconst (v := 0) hx hb dX3_depthOf_0 (by decide) ?_
  refine lv_istore_n (lv' := [(2, .int (0 : Int32)), (0, .ref (q 14)), (1, .int a1)]) hx hb dX3_depthOf_1 rfl hl (by decide) rfl (fun ls hl => ?_)
  refine lv_iload_n hx hb dX3_depthOf_2 rfl (lv_at hl 2 rfl) ?_
  refine lv_istore_n (lv' := [(3, .int a1), (2, .int (0 : Int32)), (0, .ref (q 14)), (1, .int a1)]) hx hb dX3_depthOf_3 rfl hl (by decide) rfl (fun ls hl => ?_)
  exact w_X3_depthOf_4 hC N σ r N (0 : Int32) a1 _ _ ls h hw (lv_sub hl [2, 1, 0] rfl)
/-! SlideBoards$Route.keep(LSlideBoards$StateStore;Z)V -/
abbrev rm_X3_keep : Room := { frames := 1, cells := 0, slots := 0, locals := 23 }
def lp_X3_keep_45 (N : Nat) : Nat → St → Int32 → Int32 → Option St
  | 0, _, _, _ => none
  | n + 1, σ, x3, x4 => if x4 < 0 then (some σ) else (gd (okx x3 10000) (gd (okx x4 10000) (nm (sA σ 14 x4 (ra σ 11 x3)) (fun σ5 => gd (okx x3 10000) (nm (ra σ5 10 x3) (fun y6 => nm (x4 + (-1)) (fun y7 => lp_X3_keep_45 N n σ5 y6 y7)))))))
set_option maxRecDepth 100000 in
set_option maxHeartbeats 4000000 in
theorem w_X3_keep_45 {p : Program} {l : Launch} {e : Env} {s : State} {m : MethodId} {below : List Frame} {meth : Method} {c : Code} {args : Array Value} {D : va_G} {q : Nat → Nat} {k : cK} {ws0 : va_W} (hC : Cx p s m meth c cX3_keep RX3 5 none) (N : Nat) (σ' : St) :
    ∀ (n : Nat) (σ : St) (x3 : Int32) (x4 : Int32) (H : Heap) (locs : List Loc) (ls : Array Slot), lp_X3_keep_45 N n σ x3 x4 = some σ' → WH D (CW q k σ) k (AQ ws0) s s.heap H locs → lv_has ls 5 [(0, .ref (q 21)), (1, .ref (q 14)), (3, .int x3), (4, .int x4)] → W p l e rm_X3_keep s m args below meth c H locs 0 0 (MQ below (QR D ws0 (CW q k σ') none) args s 0 0 (AQ ws0)) (F0 m 45 ls []) := by
  have hx := hC.1
  have hb := hC.2.1
  intro n
  induction n with
  | zero =>
    intro σ x3 x4 H locs ls h
    cases h
  | succ n ih =>
    intro σ x3 x4 H locs ls h hw hl
    rw [lp_X3_keep_45] at h
    refine lv_iload hx hb dX3_keep_45 (lv_at hl 3 rfl) ?_
    refine lv_if_lt (tgt := 76) hx hb dX3_keep_47 (by decide) (fun c => ?_) (fun c => ?_)
    · have h := if_t h c
      cases h
      exact ret_v hC hw dX3_keep_76
    · have h := if_f h c
      refine lv_aload_n hx hb dX3_keep_50 rfl (lv_at hl 0 rfl) ?_
      refine C_g_X3_9 hC hw dX3_keep_51 ?_
      refine lv_iload hx hb dX3_keep_54 (lv_at hl 3 rfl) ?_
      refine lv_aload_n hx hb dX3_keep_56 rfl (lv_at hl 1 rfl) ?_
      refine C_g_X3_31 hC hw dX3_keep_57 ?_
      refine lv_iload_n hx hb dX3_keep_60 rfl (lv_at hl 2 rfl) ?_
      obtain ⟨hin, h⟩ := gd_o h
      refine C_ld18 hC hw hin dX3_keep_61 ?_
      obtain ⟨hin, h⟩ := gd_o h
      refine C_st22 hC hw hin dX3_keep_62 (fun σ5 eσ5 H locs hw => ?_)
      have h := nm_o h σ5 eσ5
      refine lv_aload_n hx hb dX3_keep_63 rfl (lv_at hl 1 rfl) ?_
      refine C_g_X3_32 hC hw dX3_keep_64 ?_
      refine lv_iload_n hx hb dX3_keep_67 rfl (lv_at hl 2 rfl) ?_
      obtain ⟨hin, h⟩ := gd_o h
      refine C_ld17 hC hw hin dX3_keep_68 ?_
      refine lv_topi (fun y6 ey6 => ?_)
      have h := nm_o h y6 ey6
      refine lv_istore_n (lv' := [(3, .int y6), (0, .ref (q 21)), (1, .ref (q 14)), (4, .int x4)]) hx hb dX3_keep_69 rfl hl (by decide) rfl (fun ls hl => ?_)
      obtain ⟨y7, ey7⟩ : ∃ y : Int32, y = x4 + (-1) := ⟨_, rfl⟩
      have h := nm_o h y7 ey7
      refine lv_iinc (v := y7) (lv' := [(4, .int y7), (3, .int y6), (0, .ref (q 21)), (1, .ref (q 14))]) hx hb dX3_keep_70 hl (k := 3) rfl (by rw [ey7]; rfl) (by decide) rfl (fun ls hl => ?_)
      refine lv_goto (tgt := 45) hx hb dX3_keep_73 (by decide) ?_
      exact ih σ5 y6 y7 _ _ ls h hw (lv_sub hl [2, 3, 1, 0] rfl)
def f_X3_keep (N : Nat) (σ : St) (a1 : Int32) : Option St :=
  nm (sI σ 14 (σ.1 12)) (fun σ1 => if a1 = 0 then (nm (sI σ1 13 (0 : Int32)) (fun σ2 => nm ((σ2.1 12) - (1 : Int32)) (fun y3 => nm ((σ2.1 13) - (1 : Int32)) (fun y4 => lp_X3_keep_45 N N σ2 y3 y4)))) else (bd1 (f_X3_depthOf N σ1 ((σ1.1 12) - (1 : Int32))) (fun r8 => nm (sI σ1 13 r8) (fun σ9 => nm ((σ9.1 12) - (1 : Int32)) (fun y10 => nm ((σ9.1 13) - (1 : Int32)) (fun y11 => lp_X3_keep_45 N N σ9 y10 y11))))))
set_option maxRecDepth 100000 in
set_option maxHeartbeats 4000000 in
theorem c_X3_keep (l : Launch) (D : va_G) (q : Nat → Nat) (k : cK) (N : Nat) (σ : St) (a1 : Int32) (σ' : St) (h : f_X3_keep N σ a1 = some σ') :
    Met l yX3_keep [.code yX3_keep cX3_keep 5 none] rm_X3_keep (PC D (CW q k σ) k [.ref (q 21), .ref (q 14), .int a1]) (QR D (CW q k σ) (CW q k σ') none) 0 0 (AQ (CW q k σ)) := by
  refine met_of (by decide) (Nat.le_of_ble_eq_true rfl) ?_
  intro p e s m below meth c hC hw ls hl
  have hC : Cx p s m meth c cX3_keep RX3 5 none := hC
  have hl : lv_has ls 5 [(0, .ref (q 21)), (1, .ref (q 14)), (2, .int a1)] := hl
  have hx := hC.1
  have hb := hC.2.1
  unfold f_X3_keep at h
  refine lv_aload_n hx hb dX3_keep_0 rfl (lv_at hl 0 rfl) ?_
  refine lv_aload_n hx hb dX3_keep_1 rfl (lv_at hl 1 rfl) ?_
  refine C_g_X3_15 hC hw dX3_keep_2 ?_
  refine C_p_X3_21 hC hw dX3_keep_5 (fun σ1 eσ1 H locs hw => ?_)
  have h := nm_o h σ1 eσ1
  refine lv_aload_n hx hb dX3_keep_8 rfl (lv_at hl 0 rfl) ?_
  refine lv_iload_n hx hb dX3_keep_9 rfl (lv_at hl 2 rfl) ?_
  refine lv_if_eq (tgt := 26) hx hb dX3_keep_10 (by decide) (fun c => ?_) (fun c => ?_)
  · have h := if_t h c
    refine lv_iconst (v := 0) hx hb dX3_keep_26 (by decide) ?_
    refine C_p_X3_28 hC hw dX3_keep_27 (fun σ2 eσ2 H locs hw => ?_)
    have h := nm_o h σ2 eσ2
    refine lv_aload_n hx hb dX3_keep_30 rfl (lv_at hl 1 rfl) ?_
    refine C_g_X3_15 hC hw dX3_keep_31 ?_
    refine lv_iconst (v := 1) hx hb dX3_keep_34 (by decide) ?_
    refine lv_isub hx hb dX3_keep_35 ?_
    refine lv_topi (fun y3 ey3 => ?_)
    have h := nm_o h y3 ey3
    refine lv_istore_n (lv' := [(3, .int y3), (0, .ref (q 21)), (1, .ref (q 14)), (2, .int a1)]) hx hb dX3_keep_36 rfl hl (by decide) rfl (fun ls hl => ?_)
    refine lv_aload_n hx hb dX3_keep_37 rfl (lv_at hl 1 rfl) ?_
    refine C_g_X3_28 hC hw dX3_keep_38 ?_
    refine lv_iconst (v := 1) hx hb dX3_keep_41 (by decide) ?_
    refine lv_isub hx hb dX3_keep_42 ?_
    refine lv_topi (fun y4 ey4 => ?_)
    have h := nm_o h y4 ey4
    refine lv_istore (lv' := [(4, .int y4), (3, .int y3), (0, .ref (q 21)), (1, .ref (q 14)), (2, .int a1)]) hx hb dX3_keep_43 hl (by decide) rfl (fun ls hl => ?_)
    exact w_X3_keep_45 hC N σ' N σ2 y3 y4 _ _ ls h hw (lv_sub hl [2, 3, 1, 0] rfl)
  · have h := if_f h c
    refine lv_aload_n hx hb dX3_keep_13 rfl (lv_at hl 1 rfl) ?_
    refine lv_aload_n hx hb dX3_keep_14 rfl (lv_at hl 1 rfl) ?_
    refine C_g_X3_15 hC hw dX3_keep_15 ?_
    refine lv_iconst (v := 1) hx hb dX3_keep_18 (by decide) ?_
    refine lv_isub hx hb dX3_keep_19 ?_
    obtain ⟨r8, hc, h⟩ := bd1_o h
    refine go_i (run_S (As := [.ref (q 14), .int ((σ1.1 12) - (1 : Int32))]) (rest := [.ref (q 21)]) hC hw (c_X3_depthOf l D q k N σ1 ((σ1.1 12) - (1 : Int32)) r8 hc) kw_148 kw_151 kw_149 kw_150 hd_X3_depthOf ⟨rfl, rfl⟩ ⟨Nat.le_of_ble_eq_true rfl, Nat.le_of_ble_eq_true rfl⟩ rfl hl.1 rfl (Nat.le_of_ble_eq_true rfl) dX3_keep_20 ⟨Nat.zero_le _, Nat.zero_le _⟩) hw (fun H locs hw => ?_)
    refine lv_goto (tgt := 27) hx hb dX3_keep_23 (by decide) ?_
    refine C_p_X3_28 hC hw dX3_keep_27 (fun σ9 eσ9 H locs hw => ?_)
    have h := nm_o h σ9 eσ9
    refine lv_aload_n hx hb dX3_keep_30 rfl (lv_at hl 1 rfl) ?_
    refine C_g_X3_15 hC hw dX3_keep_31 ?_
    refine lv_iconst (v := 1) hx hb dX3_keep_34 (by decide) ?_
    refine lv_isub hx hb dX3_keep_35 ?_
    refine lv_topi (fun y10 ey10 => ?_)
    have h := nm_o h y10 ey10
    refine lv_istore_n (lv' := [(3, .int y10), (0, .ref (q 21)), (1, .ref (q 14)), (2, .int a1)]) hx hb dX3_keep_36 rfl hl (by decide) rfl (fun ls hl => ?_)
    refine lv_aload_n hx hb dX3_keep_37 rfl (lv_at hl 1 rfl) ?_
    refine C_g_X3_28 hC hw dX3_keep_38 ?_
    refine lv_iconst (v := 1) hx hb dX3_keep_41 (by decide) ?_
    refine lv_isub hx hb dX3_keep_42 ?_
    refine lv_topi (fun y11 ey11 => ?_)
    have h := nm_o h y11 ey11
    refine lv_istore (lv' := [(4, .int y11), (3, .int y10), (0, .ref (q 21)), (1, .ref (q 14)), (2, .int a1)]) hx hb dX3_keep_43 hl (by decide) rfl (fun ls hl => ?_)
    exact w_X3_keep_45 hC N σ' N σ9 y10 y11 _ _ ls h hw (lv_sub hl [2, 3, 1, 0] rfl)

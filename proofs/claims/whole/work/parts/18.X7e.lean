/-! SlideBoardsModel.search(II)I -/
abbrev rm_X7_search : Room := { frames := 5, cells := 0, slots := 0, locals := 125 }
def lp_X7_search_105 (N : Nat) : Nat → St → Int32 → Int32 → Option (Int32 × St)
  | 0, _, _, _ => none
  | n + 1, σ, x4, x5 => if x5 ≤ 0 then (some (σ.1 8, σ)) else (nm (x4 + (-1)) (fun y7 => gd (okx x5 10001) (gd (okx y7 10001) (nm (sA σ 12 y7 (ra σ 7 x5)) (fun σ8 => gd (okx x5 10001) (nm (ra σ8 6 x5) (fun y9 => lp_X7_search_105 N n σ8 y7 y9)))))))
set_option maxRecDepth 100000 in
set_option maxHeartbeats 4000000 in
theorem w_X7_search_105 {p : Program} {l : Launch} {e : Env} {s : State} {m : MethodId} {below : List Frame} {meth : Method} {c : Code} {args : Array Value} {D : va_G} {q : Nat → Nat} {k : cK} {ws0 : va_W} (hC : Cx p s m meth c cX7_search RX7 6 (some .int)) (N : Nat) (r : Int32) (σ' : St) :
    ∀ (n : Nat) (σ : St) (x4 : Int32) (x5 : Int32) (H : Heap) (locs : List Loc) (ls : Array Slot), lp_X7_search_105 N n σ x4 x5 = some (r, σ') → WH D (MW q k σ) k (AQ ws0) s s.heap H locs → lv_has ls 6 [(0, .ref (q 0)), (4, .int x4), (5, .int x5)] → W p l e rm_X7_search s m args below meth c H locs 0 0 (MQ below (QR D ws0 (MW q k σ') (some (.int r))) args s 0 0 (AQ ws0)) (F0 m 105 ls []) := by
  have hx := hC.1
  have hb := hC.2.1
  intro n
  induction n with
  | zero =>
    intro σ x4 x5 H locs ls h
    cases h
  | succ n ih =>
    intro σ x4 x5 H locs ls h hw hl
    rw [lp_X7_search_105] at h
    refine lv_iload hx hb dX7_search_105 (lv_at hl 2 rfl) ?_
    refine lv_if_le (tgt := 139) hx hb dX7_search_107 (by decide) (fun c => ?_) (fun c => ?_)
    · have h := if_t h c
      refine lv_aload_n hx hb dX7_search_139 rfl (lv_at hl 0 rfl) ?_
      refine M_g_X7_169 hC hw dX7_search_140 ?_
      cases h
      exact ret_i hC hw dX7_search_143
    · have h := if_f h c
      obtain ⟨y7, ey7⟩ : ∃ y : Int32, y = x4 + (-1) := ⟨_, rfl⟩
      have h := nm_o h y7 ey7
      refine lv_iinc (v := y7) (lv' := [(4, .int y7), (0, .ref (q 0)), (5, .int x5)]) hx hb dX7_search_110 hl (k := 1) rfl (by rw [ey7]; rfl) (by decide) rfl (fun ls hl => ?_)
      refine lv_aload_n hx hb dX7_search_113 rfl (lv_at hl 1 rfl) ?_
      refine M_g_X7_48 hC hw dX7_search_114 ?_
      refine lv_iload hx hb dX7_search_117 (lv_at hl 0 rfl) ?_
      refine lv_aload_n hx hb dX7_search_119 rfl (lv_at hl 1 rfl) ?_
      refine M_g_X7_32 hC hw dX7_search_120 ?_
      refine lv_iload hx hb dX7_search_123 (lv_at hl 2 rfl) ?_
      obtain ⟨hin, h⟩ := gd_o h
      refine M_ld8 hC hw hin dX7_search_125 ?_
      obtain ⟨hin, h⟩ := gd_o h
      refine M_st13 hC hw hin dX7_search_126 (fun σ8 eσ8 H locs hw => ?_)
      have h := nm_o h σ8 eσ8
      refine lv_aload_n hx hb dX7_search_127 rfl (lv_at hl 1 rfl) ?_
      refine M_g_X7_29 hC hw dX7_search_128 ?_
      refine lv_iload hx hb dX7_search_131 (lv_at hl 2 rfl) ?_
      obtain ⟨hin, h⟩ := gd_o h
      refine M_ld7 hC hw hin dX7_search_133 ?_
      refine lv_topi (fun y9 ey9 => ?_)
      have h := nm_o h y9 ey9
      refine lv_istore (lv' := [(5, .int y9), (4, .int y7), (0, .ref (q 0))]) hx hb dX7_search_134 hl (by decide) rfl (fun ls hl => ?_)
      refine lv_goto (tgt := 105) hx hb dX7_search_136 (by decide) ?_
      exact ih σ8 y7 y9 _ _ ls h hw (lv_sub hl [2, 1, 0] rfl)
def lp_X7_search_69 (N : Nat) (x3 : Int32) : Nat → St → Int32 → Option (Int32 × St)
  | 0, _, _ => none
  | n + 1, σ, x4 => if x4 ≤ 0 then (nm (σ.1 8) (fun y6 => lp_X7_search_105 N N σ y6 x3)) else (nm (sI σ 8 ((σ.1 8) + (1 : Int32))) (fun σ10 => gd (okx x4 10001) (nm (ra σ10 6 x4) (fun y11 => lp_X7_search_69 N x3 n σ10 y11))))
set_option maxRecDepth 100000 in
set_option maxHeartbeats 4000000 in
theorem w_X7_search_69 {p : Program} {l : Launch} {e : Env} {s : State} {m : MethodId} {below : List Frame} {meth : Method} {c : Code} {args : Array Value} {D : va_G} {q : Nat → Nat} {k : cK} {ws0 : va_W} (hC : Cx p s m meth c cX7_search RX7 6 (some .int)) (N : Nat) (x3 : Int32) (r : Int32) (σ' : St) :
    ∀ (n : Nat) (σ : St) (x4 : Int32) (H : Heap) (locs : List Loc) (ls : Array Slot), lp_X7_search_69 N x3 n σ x4 = some (r, σ') → WH D (MW q k σ) k (AQ ws0) s s.heap H locs → lv_has ls 6 [(0, .ref (q 0)), (3, .int x3), (4, .int x4)] → W p l e rm_X7_search s m args below meth c H locs 0 0 (MQ below (QR D ws0 (MW q k σ') (some (.int r))) args s 0 0 (AQ ws0)) (F0 m 69 ls []) := by
  have hx := hC.1
  have hb := hC.2.1
  intro n
  induction n with
  | zero =>
    intro σ x4 H locs ls h
    cases h
  | succ n ih =>
    intro σ x4 H locs ls h hw hl
    rw [lp_X7_search_69] at h
    refine lv_iload hx hb dX7_search_69 (lv_at hl 2 rfl) ?_
    refine lv_if_le (tgt := 96) hx hb dX7_search_71 (by decide) (fun c => ?_) (fun c => ?_)
    · have h := if_t h c
      refine lv_aload_n hx hb dX7_search_96 rfl (lv_at hl 0 rfl) ?_
      refine M_g_X7_169 hC hw dX7_search_97 ?_
      refine lv_topi (fun y6 ey6 => ?_)
      have h := nm_o h y6 ey6
      refine lv_istore (lv' := [(4, .int y6), (0, .ref (q 0)), (3, .int x3)]) hx hb dX7_search_100 hl (by decide) rfl (fun ls hl => ?_)
      refine lv_iload_n hx hb dX7_search_102 rfl (lv_at hl 2 rfl) ?_
      refine lv_istore (lv' := [(5, .int x3), (4, .int y6), (0, .ref (q 0)), (3, .int x3)]) hx hb dX7_search_103 hl (by decide) rfl (fun ls hl => ?_)
      exact w_X7_search_105 hC N r σ' N σ y6 x3 _ _ ls h hw (lv_sub hl [2, 1, 0] rfl)
    · have h := if_f h c
      refine lv_aload_n hx hb dX7_search_74 rfl (lv_at hl 0 rfl) ?_
      refine lv_dup hx hb dX7_search_75 rfl ?_
      refine M_g_X7_169 hC hw dX7_search_76 ?_
      refine lv_iconst (v := 1) hx hb dX7_search_79 (by decide) ?_
      refine lv_iadd hx hb dX7_search_80 ?_
      refine M_p_X7_169 hC hw dX7_search_81 (fun σ10 eσ10 H locs hw => ?_)
      have h := nm_o h σ10 eσ10
      refine lv_aload_n hx hb dX7_search_84 rfl (lv_at hl 0 rfl) ?_
      refine M_g_X7_29 hC hw dX7_search_85 ?_
      refine lv_iload hx hb dX7_search_88 (lv_at hl 2 rfl) ?_
      obtain ⟨hin, h⟩ := gd_o h
      refine M_ld7 hC hw hin dX7_search_90 ?_
      refine lv_topi (fun y11 ey11 => ?_)
      have h := nm_o h y11 ey11
      refine lv_istore (lv' := [(4, .int y11), (0, .ref (q 0)), (3, .int x3)]) hx hb dX7_search_91 hl (by decide) rfl (fun ls hl => ?_)
      refine lv_goto (tgt := 69) hx hb dX7_search_93 (by decide) ?_
      exact ih σ10 y11 _ _ ls h hw (lv_sub hl [1, 2, 0] rfl)
def f_X7_search (N : Nat) (σ : St) (a0 : Int32) (a1 : Int32) : Option (Int32 × St) :=
  nm (sI σ 0 (0 : Int32)) (fun σ1 => if a0 < 0 then (some ((-3 : Int32), σ1)) else (if (1 : Int32) < a0 then (some ((-3 : Int32), σ1)) else (if a1 < (1 : Int32) then (some ((-3 : Int32), σ1)) else (if a1 ≤ (10000 : Int32) then (bd (f_X7_spread N σ1 a0 a1 (1 : Int32)) (fun r2 σ3 => if r2 = (-2 : Int32) then (nm (sI σ3 7 a1) (fun σ12 => nm (sI σ12 8 (0 : Int32)) (fun σ13 => if 0 ≤ r2 then (lp_X7_search_69 N r2 N σ13 r2) else (some (r2, σ13))))) else (nm (sI σ3 7 (σ3.1 6)) (fun σ4 => nm (sI σ4 8 (0 : Int32)) (fun σ5 => if 0 ≤ r2 then (lp_X7_search_69 N r2 N σ5 r2) else (some (r2, σ5))))))) else (some ((-3 : Int32), σ1))))))
set_option maxRecDepth 100000 in
set_option maxHeartbeats 4000000 in
theorem c_X7_search (l : Launch) (D : va_G) (q : Nat → Nat) (k : cK) (N : Nat) (σ : St) (a0 : Int32) (a1 : Int32) (r : Int32) (σ' : St) (h : f_X7_search N σ a0 a1 = some (r, σ')) :
    Met l yX7_search [.code yX7_search cX7_search 6 (some .int)] rm_X7_search (PC D (MW q k σ) k [.ref (q 0), .int a0, .int a1]) (QR D (MW q k σ) (MW q k σ') (some (.int r))) 0 0 (AQ (MW q k σ)) := by
  refine met_of (by decide) (Nat.le_of_ble_eq_true rfl) ?_
  intro p e s m below meth c hC hw ls hl
  have hC : Cx p s m meth c cX7_search RX7 6 (some .int) := hC
  have hl : lv_has ls 6 [(0, .ref (q 0)), (1, .int a0), (2, .int a1)] := hl
  have hx := hC.1
  have hb := hC.2.1
  unfold f_X7_search at h
  refine lv_aload_n hx hb dX7_search_0 rfl (lv_at hl 0 rfl) ?_
  refine lv_iconst (v := 0) hx hb dX7_search_1 (by decide) ?_
  refine M_p_X7_81 hC hw dX7_search_2 (fun σ1 eσ1 H locs hw => ?_)
  have h := nm_o h σ1 eσ1
  refine lv_iload_n hx hb dX7_search_5 rfl (lv_at hl 1 rfl) ?_
  refine lv_if_lt (tgt := 26) hx hb dX7_search_6 (by decide) (fun c => ?_) (fun c => ?_)
  · have h := if_t h c
    refine lv_bipush (v := -3) hx hb dX7_search_26 (by decide) ?_
    cases h
    exact ret_i hC hw dX7_search_28
  · have h := if_f h c
    refine lv_iload_n hx hb dX7_search_9 rfl (lv_at hl 1 rfl) ?_
    refine lv_iconst (v := 1) hx hb dX7_search_10 (by decide) ?_
    refine lv_icmp_gt (tgt := 26) hx hb dX7_search_11 (by decide) (fun c => ?_) (fun c => ?_)
    · have h := if_t h c
      refine lv_bipush (v := -3) hx hb dX7_search_26 (by decide) ?_
      cases h
      exact ret_i hC hw dX7_search_28
    · have h := if_f h c
      refine lv_iload_n hx hb dX7_search_14 rfl (lv_at hl 2 rfl) ?_
      refine lv_iconst (v := 1) hx hb dX7_search_15 (by decide) ?_
      refine lv_icmp_lt (tgt := 26) hx hb dX7_search_16 (by decide) (fun c => ?_) (fun c => ?_)
      · have h := if_t h c
        refine lv_bipush (v := -3) hx hb dX7_search_26 (by decide) ?_
        cases h
        exact ret_i hC hw dX7_search_28
      · have h := if_f h c
        refine lv_iload_n hx hb dX7_search_19 rfl (lv_at hl 2 rfl) ?_
        refine lv_sipush (v := 10000) hx hb dX7_search_20 (by decide) ?_
        refine lv_icmp_le (tgt := 29) hx hb dX7_search_23 (by decide) (fun c => ?_) (fun c => ?_)
        · have h := if_t h c
          refine lv_aload_n hx hb dX7_search_29 rfl (lv_at hl 0 rfl) ?_
          refine lv_iload_n hx hb dX7_search_30 rfl (lv_at hl 1 rfl) ?_
          refine lv_iload_n hx hb dX7_search_31 rfl (lv_at hl 2 rfl) ?_
          refine lv_iconst (v := 1) hx hb dX7_search_32 (by decide) ?_
          obtain ⟨r2, σ3, hc, h⟩ := bd_o h
          refine go_i (run_V (As := [.int a0, .int a1, .int (1 : Int32)]) (rest := []) hC hw (c_X7_spread l D q k N σ1 a0 a1 (1 : Int32) r2 σ3 hc) kw_318 kw_320 kw_321 kw_246 kw_319 hd_X7_spread ⟨rfl, rfl⟩ ⟨Nat.le_of_ble_eq_true rfl, Nat.le_of_ble_eq_true rfl⟩ 0 rfl rfl rfl hl.1 rfl (Nat.le_of_ble_eq_true rfl) dX7_search_33 ⟨Nat.zero_le _, Nat.zero_le _⟩) hw (fun H locs hw => ?_)
          refine lv_istore_n (lv' := [(3, .int r2), (0, .ref (q 0)), (1, .int a0), (2, .int a1)]) hx hb dX7_search_36 rfl hl (by decide) rfl (fun ls hl => ?_)
          refine lv_aload_n hx hb dX7_search_37 rfl (lv_at hl 1 rfl) ?_
          refine lv_iload_n hx hb dX7_search_38 rfl (lv_at hl 0 rfl) ?_
          refine lv_bipush (v := -2) hx hb dX7_search_39 (by decide) ?_
          refine lv_icmp_ne (tgt := 48) hx hb dX7_search_41 (by decide) (fun c => ?_) (fun c => ?_)
          · have h := if_f h c
            refine lv_aload_n hx hb dX7_search_48 rfl (lv_at hl 1 rfl) ?_
            refine M_g_X7_149 hC hw dX7_search_49 ?_
            refine M_p_X7_166 hC hw dX7_search_52 (fun σ4 eσ4 H locs hw => ?_)
            have h := nm_o h σ4 eσ4
            refine lv_aload_n hx hb dX7_search_55 rfl (lv_at hl 1 rfl) ?_
            refine lv_iconst (v := 0) hx hb dX7_search_56 (by decide) ?_
            refine M_p_X7_169 hC hw dX7_search_57 (fun σ5 eσ5 H locs hw => ?_)
            have h := nm_o h σ5 eσ5
            refine lv_iload_n hx hb dX7_search_60 rfl (lv_at hl 0 rfl) ?_
            refine lv_if_ge (tgt := 66) hx hb dX7_search_61 (by decide) (fun c => ?_) (fun c => ?_)
            · have h := if_t h c
              refine lv_iload_n hx hb dX7_search_66 rfl (lv_at hl 0 rfl) ?_
              refine lv_istore (lv' := [(4, .int r2), (3, .int r2), (0, .ref (q 0)), (1, .int a0), (2, .int a1)]) hx hb dX7_search_67 hl (by decide) rfl (fun ls hl => ?_)
              exact w_X7_search_69 hC N r2 r σ' N σ5 r2 _ _ ls h hw (lv_sub hl [2, 1, 0] rfl)
            · have h := if_f h c
              refine lv_iload_n hx hb dX7_search_64 rfl (lv_at hl 0 rfl) ?_
              cases h
              exact ret_i hC hw dX7_search_65
          · have h := if_t h c
            refine lv_iload_n hx hb dX7_search_44 rfl (lv_at hl 3 rfl) ?_
            refine lv_goto (tgt := 52) hx hb dX7_search_45 (by decide) ?_
            refine M_p_X7_166 hC hw dX7_search_52 (fun σ12 eσ12 H locs hw => ?_)
            have h := nm_o h σ12 eσ12
            refine lv_aload_n hx hb dX7_search_55 rfl (lv_at hl 1 rfl) ?_
            refine lv_iconst (v := 0) hx hb dX7_search_56 (by decide) ?_
            refine M_p_X7_169 hC hw dX7_search_57 (fun σ13 eσ13 H locs hw => ?_)
            have h := nm_o h σ13 eσ13
            refine lv_iload_n hx hb dX7_search_60 rfl (lv_at hl 0 rfl) ?_
            refine lv_if_ge (tgt := 66) hx hb dX7_search_61 (by decide) (fun c => ?_) (fun c => ?_)
            · have h := if_t h c
              refine lv_iload_n hx hb dX7_search_66 rfl (lv_at hl 0 rfl) ?_
              refine lv_istore (lv' := [(4, .int r2), (3, .int r2), (0, .ref (q 0)), (1, .int a0), (2, .int a1)]) hx hb dX7_search_67 hl (by decide) rfl (fun ls hl => ?_)
              exact w_X7_search_69 hC N r2 r σ' N σ13 r2 _ _ ls h hw (lv_sub hl [2, 1, 0] rfl)
            · have h := if_f h c
              refine lv_iload_n hx hb dX7_search_64 rfl (lv_at hl 0 rfl) ?_
              cases h
              exact ret_i hC hw dX7_search_65
        · have h := if_f h c
          refine lv_bipush (v := -3) hx hb dX7_search_26 (by decide) ?_
          cases h
          exact ret_i hC hw dX7_search_28
/-! SlideBoardsModel.step(I)I -/
abbrev rm_X7_step : Room := { frames := 0, cells := 0, slots := 0, locals := 0 }
def f_X7_step (N : Nat) (σ : St) (a0 : Int32) : Option (Int32 × St) :=
  nm (sI σ 0 (0 : Int32)) (fun σ1 => if a0 < 0 then (some ((-1 : Int32), σ1)) else (if a0 < (σ1.1 8) then (gd (okx a0 10001) (some (ra σ1 12 a0, σ1))) else (some ((-1 : Int32), σ1))))
set_option maxRecDepth 100000 in
set_option maxHeartbeats 4000000 in
theorem c_X7_step (l : Launch) (D : va_G) (q : Nat → Nat) (k : cK) (N : Nat) (σ : St) (a0 : Int32) (r : Int32) (σ' : St) (h : f_X7_step N σ a0 = some (r, σ')) :
    Met l yX7_step [.code yX7_step cX7_step 2 (some .int)] rm_X7_step (PC D (MW q k σ) k [.ref (q 0), .int a0]) (QR D (MW q k σ) (MW q k σ') (some (.int r))) 0 0 (AQ (MW q k σ)) := by
  refine met_of (by decide) (Nat.le_of_ble_eq_true rfl) ?_
  intro p e s m below meth c hC hw ls hl
  have hC : Cx p s m meth c cX7_step RX7 2 (some .int) := hC
  have hl : lv_has ls 2 [(0, .ref (q 0)), (1, .int a0)] := hl
  have hx := hC.1
  have hb := hC.2.1
  unfold f_X7_step at h
  refine lv_aload_n hx hb dX7_step_0 rfl (lv_at hl 0 rfl) ?_
  refine lv_iconst (v := 0) hx hb dX7_step_1 (by decide) ?_
  refine M_p_X7_81 hC hw dX7_step_2 (fun σ1 eσ1 H locs hw => ?_)
  have h := nm_o h σ1 eσ1
  refine lv_iload_n hx hb dX7_step_5 rfl (lv_at hl 1 rfl) ?_
  refine lv_if_lt (tgt := 17) hx hb dX7_step_6 (by decide) (fun c => ?_) (fun c => ?_)
  · have h := if_t h c
    refine lv_iconst (v := -1) hx hb dX7_step_17 (by decide) ?_
    refine lv_goto (tgt := 27) hx hb dX7_step_18 (by decide) ?_
    cases h
    exact ret_i hC hw dX7_step_27
  · have h := if_f h c
    refine lv_iload_n hx hb dX7_step_9 rfl (lv_at hl 1 rfl) ?_
    refine lv_aload_n hx hb dX7_step_10 rfl (lv_at hl 0 rfl) ?_
    refine M_g_X7_169 hC hw dX7_step_11 ?_
    refine lv_icmp_lt (tgt := 21) hx hb dX7_step_14 (by decide) (fun c => ?_) (fun c => ?_)
    · have h := if_t h c
      refine lv_aload_n hx hb dX7_step_21 rfl (lv_at hl 0 rfl) ?_
      refine M_g_X7_48 hC hw dX7_step_22 ?_
      refine lv_iload_n hx hb dX7_step_25 rfl (lv_at hl 1 rfl) ?_
      obtain ⟨hin, h⟩ := gd_o h
      refine M_ld13 hC hw hin dX7_step_26 ?_
      cases h
      exact ret_i hC hw dX7_step_27
    · have h := if_f h c
      refine lv_iconst (v := -1) hx hb dX7_step_17 (by decide) ?_
      refine lv_goto (tgt := 27) hx hb dX7_step_18 (by decide) ?_
      cases h
      exact ret_i hC hw dX7_step_27
/-! SlideBoardsModel.states()I -/
abbrev rm_X7_states : Room := { frames := 0, cells := 0, slots := 0, locals := 0 }
def f_X7_states (N : Nat) (σ : St) : Option (Int32 × St) :=
  nm (sI σ 0 (0 : Int32)) (fun σ1 => some (σ1.1 7, σ1))
set_option maxRecDepth 100000 in
set_option maxHeartbeats 4000000 in
theorem c_X7_states (l : Launch) (D : va_G) (q : Nat → Nat) (k : cK) (N : Nat) (σ : St) (r : Int32) (σ' : St) (h : f_X7_states N σ = some (r, σ')) :
    Met l yX7_states [.code yX7_states cX7_states 1 (some .int)] rm_X7_states (PC D (MW q k σ) k [.ref (q 0)]) (QR D (MW q k σ) (MW q k σ') (some (.int r))) 0 0 (AQ (MW q k σ)) := by
  refine met_of (by decide) (Nat.le_of_ble_eq_true rfl) ?_
  intro p e s m below meth c hC hw ls hl
  have hC : Cx p s m meth c cX7_states RX7 1 (some .int) := hC
  have hl : lv_has ls 1 [(0, .ref (q 0))] := hl
  have hx := hC.1
  have hb := hC.2.1
  unfold f_X7_states at h
  refine lv_aload_n hx hb dX7_states_0 rfl (lv_at hl 0 rfl) ?_
  refine lv_iconst (v := 0) hx hb dX7_states_1 (by decide) ?_
  refine M_p_X7_81 hC hw dX7_states_2 (fun σ1 eσ1 H locs hw => ?_)
  have h := nm_o h σ1 eσ1
  refine lv_aload_n hx hb dX7_states_5 rfl (lv_at hl 0 rfl) ?_
  refine M_g_X7_166 hC hw dX7_states_6 ?_
  cases h
  exact ret_i hC hw dX7_states_9
/-! SlideBoardsModel.reach()I -/
abbrev rm_X7_reach : Room := { frames := 5, cells := 0, slots := 0, locals := 125 }
def f_X7_reach (N : Nat) (σ : St) : Option (Int32 × St) :=
  nm (sI σ 0 (0 : Int32)) (fun σ1 => bd (f_X7_spread N σ1 (0 : Int32) (10000 : Int32) (0 : Int32)) (fun r2 σ3 => if r2 = (-2 : Int32) then (some ((-2 : Int32), σ3)) else (some (σ3.1 6, σ3))))
set_option maxRecDepth 100000 in
set_option maxHeartbeats 4000000 in
theorem c_X7_reach (l : Launch) (D : va_G) (q : Nat → Nat) (k : cK) (N : Nat) (σ : St) (r : Int32) (σ' : St) (h : f_X7_reach N σ = some (r, σ')) :
    Met l yX7_reach [.code yX7_reach cX7_reach 1 (some .int)] rm_X7_reach (PC D (MW q k σ) k [.ref (q 0)]) (QR D (MW q k σ) (MW q k σ') (some (.int r))) 0 0 (AQ (MW q k σ)) := by
  refine met_of (by decide) (Nat.le_of_ble_eq_true rfl) ?_
  intro p e s m below meth c hC hw ls hl
  have hC : Cx p s m meth c cX7_reach RX7 1 (some .int) := hC
  have hl : lv_has ls 1 [(0, .ref (q 0))] := hl
  have hx := hC.1
  have hb := hC.2.1
  unfold f_X7_reach at h
  refine lv_aload_n hx hb dX7_reach_0 rfl (lv_at hl 0 rfl) ?_
  refine lv_iconst (v := 0) hx hb dX7_reach_1 (by decide) ?_
  refine M_p_X7_81 hC hw dX7_reach_2 (fun σ1 eσ1 H locs hw => ?_)
  have h := nm_o h σ1 eσ1
  refine lv_aload_n hx hb dX7_reach_5 rfl (lv_at hl 0 rfl) ?_
  refine lv_iconst (v := 0) hx hb dX7_reach_6 (by decide) ?_
  refine lv_sipush (v := 10000) hx hb dX7_reach_7 (by decide) ?_
  refine lv_iconst (v := 0) hx hb dX7_reach_10 (by decide) ?_
  obtain ⟨r2, σ3, hc, h⟩ := bd_o h
  refine go_i (run_V (As := [.int (0 : Int32), .int (10000 : Int32), .int (0 : Int32)]) (rest := []) hC hw (c_X7_spread l D q k N σ1 (0 : Int32) (10000 : Int32) (0 : Int32) r2 σ3 hc) kw_318 kw_320 kw_321 kw_246 kw_319 hd_X7_spread ⟨rfl, rfl⟩ ⟨Nat.le_of_ble_eq_true rfl, Nat.le_of_ble_eq_true rfl⟩ 0 rfl rfl rfl hl.1 rfl (Nat.le_of_ble_eq_true rfl) dX7_reach_11 ⟨Nat.zero_le _, Nat.zero_le _⟩) hw (fun H locs hw => ?_)
  refine lv_bipush (v := -2) hx hb dX7_reach_14 (by decide) ?_
  refine lv_icmp_ne (tgt := 24) hx hb dX7_reach_16 (by decide) (fun c => ?_) (fun c => ?_)
  · have h := if_f h c
    refine lv_aload_n hx hb dX7_reach_24 rfl (lv_at hl 0 rfl) ?_
    refine M_g_X7_149 hC hw dX7_reach_25 ?_
    cases h
    exact ret_i hC hw dX7_reach_28
  · have h := if_t h c
    refine lv_bipush (v := -2) hx hb dX7_reach_19 (by decide) ?_
    refine lv_goto (tgt := 28) hx hb dX7_reach_21 (by decide) ?_
    cases h
    exact ret_i hC hw dX7_reach_28
/-! SlideBoardsModel.picture(I)I -/
abbrev rm_X7_picture : Room := { frames := 0, cells := 0, slots := 0, locals := 0 }
def lp_X7_picture_79 (N : Nat) (σ : St) (x3 : Int32) : Nat → Int32 → Option (Int32 × St)
  | 0, _ => none
  | n + 1, x4 => if (σ.1 4) ≤ x4 then (some ((46 : Int32), σ)) else (gd (okx x4 8) (if ((ra σ 1 x4) &&& x3) = 0 then (nm (x4 + (1 : Int32)) (fun y4 => lp_X7_picture_79 N σ x3 n y4)) else (gd (okx x4 8) (some ((97 : Int32) + (ra σ 0 x4), σ)))))
set_option maxRecDepth 100000 in
set_option maxHeartbeats 4000000 in
theorem w_X7_picture_79 {p : Program} {l : Launch} {e : Env} {s : State} {m : MethodId} {below : List Frame} {meth : Method} {c : Code} {args : Array Value} {D : va_G} {q : Nat → Nat} {k : cK} {ws0 : va_W} (hC : Cx p s m meth c cX7_picture RX7 5 (some .int)) (N : Nat) (σ : St) (x3 : Int32) (r : Int32) (σ' : St) :
    ∀ (n : Nat) (x4 : Int32) (H : Heap) (locs : List Loc) (ls : Array Slot), lp_X7_picture_79 N σ x3 n x4 = some (r, σ') → WH D (MW q k σ) k (AQ ws0) s s.heap H locs → lv_has ls 5 [(0, .ref (q 0)), (3, .int x3), (4, .int x4)] → W p l e rm_X7_picture s m args below meth c H locs 0 0 (MQ below (QR D ws0 (MW q k σ') (some (.int r))) args s 0 0 (AQ ws0)) (F0 m 79 ls []) := by
  have hx := hC.1
  have hb := hC.2.1
  intro n
  induction n with
  | zero =>
    intro x4 H locs ls h
    cases h
  | succ n ih =>
    intro x4 H locs ls h hw hl
    rw [lp_X7_picture_79] at h
    refine lv_iload hx hb dX7_picture_79 (lv_at hl 2 rfl) ?_
    refine lv_aload_n hx hb dX7_picture_81 rfl (lv_at hl 0 rfl) ?_
    refine M_g_X7_84 hC hw dX7_picture_82 ?_
    refine lv_icmp_ge (tgt := 117) hx hb dX7_picture_85 (by decide) (fun c => ?_) (fun c => ?_)
    · have h := if_t h c
      refine lv_bipush (v := 46) hx hb dX7_picture_117 (by decide) ?_
      cases h
      exact ret_i hC hw dX7_picture_119
    · have h := if_f h c
      refine lv_aload_n hx hb dX7_picture_88 rfl (lv_at hl 0 rfl) ?_
      refine M_g_X7_13 hC hw dX7_picture_89 ?_
      refine lv_iload hx hb dX7_picture_92 (lv_at hl 2 rfl) ?_
      obtain ⟨hin, h⟩ := gd_o h
      refine M_ld2 hC hw hin dX7_picture_94 ?_
      refine lv_iload_n hx hb dX7_picture_95 rfl (lv_at hl 1 rfl) ?_
      refine lv_iand hx hb dX7_picture_96 ?_
      refine lv_if_eq (tgt := 111) hx hb dX7_picture_97 (by decide) (fun c => ?_) (fun c => ?_)
      · have h := if_t h c
        obtain ⟨y4, ey4⟩ : ∃ y : Int32, y = x4 + (1 : Int32) := ⟨_, rfl⟩
        have h := nm_o h y4 ey4
        refine lv_iinc (v := y4) (lv' := [(4, .int y4), (0, .ref (q 0)), (3, .int x3)]) hx hb dX7_picture_111 hl (k := 2) rfl (by rw [ey4]; rfl) (by decide) rfl (fun ls hl => ?_)
        refine lv_goto (tgt := 79) hx hb dX7_picture_114 (by decide) ?_
        exact ih y4 _ _ ls h hw (lv_sub hl [1, 2, 0] rfl)
      · have h := if_f h c
        refine lv_bipush (v := 97) hx hb dX7_picture_100 (by decide) ?_
        refine lv_aload_n hx hb dX7_picture_102 rfl (lv_at hl 0 rfl) ?_
        refine M_g_X7_7 hC hw dX7_picture_103 ?_
        refine lv_iload hx hb dX7_picture_106 (lv_at hl 2 rfl) ?_
        obtain ⟨hin, h⟩ := gd_o h
        refine M_ld1 hC hw hin dX7_picture_108 ?_
        refine lv_iadd hx hb dX7_picture_109 ?_
        cases h
        exact ret_i hC hw dX7_picture_110
def f_X7_picture (N : Nat) (σ : St) (a0 : Int32) : Option (Int32 × St) :=
  nm (sI σ 0 (0 : Int32)) (fun σ1 => if a0 < 0 then (some ((-1 : Int32), σ1)) else (if a0 < (((σ1.1 1) + (1 : Int32)) * (σ1.1 2)) then (gd (decide (¬ ((σ1.1 1) + (1 : Int32)) = 0)) (nm (jrem a0 ((σ1.1 1) + (1 : Int32))) (fun y2 => if y2 = (σ1.1 1) then (some ((10 : Int32), σ1)) else (gd (decide (¬ ((σ1.1 1) + (1 : Int32)) = 0)) (nm (jshl (1 : Int32) (((σ1.1 1) * (a0 / ((σ1.1 1) + (1 : Int32)))) + y2)) (fun y3 => if ((σ1.1 3) &&& y3) = 0 then (lp_X7_picture_79 N σ1 y3 N (0 : Int32)) else (some ((35 : Int32), σ1)))))))) else (some ((-1 : Int32), σ1))))
set_option maxRecDepth 100000 in
set_option maxHeartbeats 4000000 in
theorem c_X7_picture (l : Launch) (D : va_G) (q : Nat → Nat) (k : cK) (N : Nat) (σ : St) (a0 : Int32) (r : Int32) (σ' : St) (h : f_X7_picture N σ a0 = some (r, σ')) :
    Met l yX7_picture [.code yX7_picture cX7_picture 5 (some .int)] rm_X7_picture (PC D (MW q k σ) k [.ref (q 0), .int a0]) (QR D (MW q k σ) (MW q k σ') (some (.int r))) 0 0 (AQ (MW q k σ)) := by
  refine met_of (by decide) (Nat.le_of_ble_eq_true rfl) ?_
  intro p e s m below meth c hC hw ls hl
  have hC : Cx p s m meth c cX7_picture RX7 5 (some .int) := hC
  have hl : lv_has ls 5 [(0, .ref (q 0)), (1, .int a0)] := hl
  have hx := hC.1
  have hb := hC.2.1
  unfold f_X7_picture at h
  refine lv_aload_n hx hb dX7_picture_0 rfl (lv_at hl 0 rfl) ?_
  refine lv_iconst (v := 0) hx hb dX7_picture_1 (by decide) ?_
  refine M_p_X7_81 hC hw dX7_picture_2 (fun σ1 eσ1 H locs hw => ?_)
  have h := nm_o h σ1 eσ1
  refine lv_iload_n hx hb dX7_picture_5 rfl (lv_at hl 1 rfl) ?_
  refine lv_if_lt (tgt := 24) hx hb dX7_picture_6 (by decide) (fun c => ?_) (fun c => ?_)
  · have h := if_t h c
    refine lv_iconst (v := -1) hx hb dX7_picture_24 (by decide) ?_
    cases h
    exact ret_i hC hw dX7_picture_25
  · have h := if_f h c
    refine lv_iload_n hx hb dX7_picture_9 rfl (lv_at hl 1 rfl) ?_
    refine lv_aload_n hx hb dX7_picture_10 rfl (lv_at hl 0 rfl) ?_
    refine M_g_X7_74 hC hw dX7_picture_11 ?_
    refine lv_iconst (v := 1) hx hb dX7_picture_14 (by decide) ?_
    refine lv_iadd hx hb dX7_picture_15 ?_
    refine lv_aload_n hx hb dX7_picture_16 rfl (lv_at hl 0 rfl) ?_
    refine M_g_X7_78 hC hw dX7_picture_17 ?_
    refine lv_imul hx hb dX7_picture_20 ?_
    refine lv_icmp_lt (tgt := 26) hx hb dX7_picture_21 (by decide) (fun c => ?_) (fun c => ?_)
    · have h := if_t h c
      refine lv_iload_n hx hb dX7_picture_26 rfl (lv_at hl 1 rfl) ?_
      refine lv_aload_n hx hb dX7_picture_27 rfl (lv_at hl 0 rfl) ?_
      refine M_g_X7_74 hC hw dX7_picture_28 ?_
      refine lv_iconst (v := 1) hx hb dX7_picture_31 (by decide) ?_
      refine lv_iadd hx hb dX7_picture_32 ?_
      obtain ⟨hne, h⟩ := gp_o h
      refine lv_irem hx hb dX7_picture_33 hne ?_
      refine lv_topi (fun y2 ey2 => ?_)
      have h := nm_o h y2 ey2
      refine lv_istore_n (lv' := [(2, .int y2), (0, .ref (q 0)), (1, .int a0)]) hx hb dX7_picture_34 rfl hl (by decide) rfl (fun ls hl => ?_)
      refine lv_iload_n hx hb dX7_picture_35 rfl (lv_at hl 0 rfl) ?_
      refine lv_aload_n hx hb dX7_picture_36 rfl (lv_at hl 1 rfl) ?_
      refine M_g_X7_74 hC hw dX7_picture_37 ?_
      refine lv_icmp_ne (tgt := 46) hx hb dX7_picture_40 (by decide) (fun c => ?_) (fun c => ?_)
      · have h := if_f h c
        refine lv_iconst (v := 1) hx hb dX7_picture_46 (by decide) ?_
        refine lv_aload_n hx hb dX7_picture_47 rfl (lv_at hl 1 rfl) ?_
        refine M_g_X7_74 hC hw dX7_picture_48 ?_
        refine lv_iload_n hx hb dX7_picture_51 rfl (lv_at hl 2 rfl) ?_
        refine lv_aload_n hx hb dX7_picture_52 rfl (lv_at hl 1 rfl) ?_
        refine M_g_X7_74 hC hw dX7_picture_53 ?_
        refine lv_iconst (v := 1) hx hb dX7_picture_56 (by decide) ?_
        refine lv_iadd hx hb dX7_picture_57 ?_
        obtain ⟨hne, h⟩ := gp_o h
        refine lv_idiv hx hb dX7_picture_58 hne ?_
        refine lv_imul hx hb dX7_picture_59 ?_
        refine lv_iload_n hx hb dX7_picture_60 rfl (lv_at hl 0 rfl) ?_
        refine lv_iadd hx hb dX7_picture_61 ?_
        refine lv_ishl hx hb dX7_picture_62 ?_
        refine lv_topi (fun y3 ey3 => ?_)
        have h := nm_o h y3 ey3
        refine lv_istore_n (lv' := [(3, .int y3), (2, .int y2), (0, .ref (q 0)), (1, .int a0)]) hx hb dX7_picture_63 rfl hl (by decide) rfl (fun ls hl => ?_)
        refine lv_aload_n hx hb dX7_picture_64 rfl (lv_at hl 2 rfl) ?_
        refine M_g_X7_87 hC hw dX7_picture_65 ?_
        refine lv_iload_n hx hb dX7_picture_68 rfl (lv_at hl 0 rfl) ?_
        refine lv_iand hx hb dX7_picture_69 ?_
        refine lv_if_eq (tgt := 76) hx hb dX7_picture_70 (by decide) (fun c => ?_) (fun c => ?_)
        · have h := if_t h c
          refine lv_iconst (v := 0) hx hb dX7_picture_76 (by decide) ?_
          refine lv_istore (lv' := [(4, .int (0 : Int32)), (3, .int y3), (2, .int y2), (0, .ref (q 0)), (1, .int a0)]) hx hb dX7_picture_77 hl (by decide) rfl (fun ls hl => ?_)
          exact w_X7_picture_79 hC N σ1 y3 r σ' N (0 : Int32) _ _ ls h hw (lv_sub hl [3, 1, 0] rfl)
        · have h := if_f h c
          refine lv_bipush (v := 35) hx hb dX7_picture_73 (by decide) ?_
          cases h
          exact ret_i hC hw dX7_picture_75
      · have h := if_t h c
        refine lv_bipush (v := 10) hx hb dX7_picture_43 (by decide) ?_
        cases h
        exact ret_i hC hw dX7_picture_45
    · have h := if_f h c
      refine lv_iconst (v := -1) hx hb dX7_picture_24 (by decide) ?_
      cases h
      exact ret_i hC hw dX7_picture_25
/-! SlideBoardsModel.isNode(I)Z -/
abbrev rm_X7_isNode : Room := { frames := 0, cells := 0, slots := 0, locals := 0 }
def f_X7_isNode (N : Nat) (σ : St) (a0 : Int32) : Option Int32 :=
  if a0 < 0 then (some (0 : Int32)) else (if (σ.1 9) ≤ a0 then (some (0 : Int32)) else (some (1 : Int32)))
set_option maxRecDepth 100000 in
set_option maxHeartbeats 4000000 in
theorem c_X7_isNode (l : Launch) (D : va_G) (q : Nat → Nat) (k : cK) (N : Nat) (σ : St) (a0 : Int32) (r : Int32) (h : f_X7_isNode N σ a0 = some r) :
    Met l yX7_isNode [.code yX7_isNode cX7_isNode 2 (some .boolean)] rm_X7_isNode (PC D (MW q k σ) k [.ref (q 0), .int a0]) (QR D (MW q k σ) (MW q k σ) (some (.int r))) 0 0 (AQ (MW q k σ)) := by
  refine met_of (by decide) (Nat.le_of_ble_eq_true rfl) ?_
  intro p e s m below meth c hC hw ls hl
  have hC : Cx p s m meth c cX7_isNode RX7 2 (some .boolean) := hC
  have hl : lv_has ls 2 [(0, .ref (q 0)), (1, .int a0)] := hl
  have hx := hC.1
  have hb := hC.2.1
  unfold f_X7_isNode at h
  refine lv_iload_n hx hb dX7_isNode_0 rfl (lv_at hl 1 rfl) ?_
  refine lv_if_lt (tgt := 16) hx hb dX7_isNode_1 (by decide) (fun c => ?_) (fun c => ?_)
  · have h := if_t h c
    refine lv_iconst (v := 0) hx hb dX7_isNode_16 (by decide) ?_
    cases h
    exact ret_z hC (Or.inl rfl) hw dX7_isNode_17
  · have h := if_f h c
    refine lv_iload_n hx hb dX7_isNode_4 rfl (lv_at hl 1 rfl) ?_
    refine lv_aload_n hx hb dX7_isNode_5 rfl (lv_at hl 0 rfl) ?_
    refine M_g_X7_172 hC hw dX7_isNode_6 ?_
    refine lv_icmp_ge (tgt := 16) hx hb dX7_isNode_9 (by decide) (fun c => ?_) (fun c => ?_)
    · have h := if_t h c
      refine lv_iconst (v := 0) hx hb dX7_isNode_16 (by decide) ?_
      cases h
      exact ret_z hC (Or.inl rfl) hw dX7_isNode_17
    · have h := if_f h c
      refine lv_iconst (v := 1) hx hb dX7_isNode_12 (by decide) ?_
      refine lv_goto (tgt := 17) hx hb dX7_isNode_13 (by decide) ?_
      cases h
      exact ret_z hC (Or.inr rfl) hw dX7_isNode_17
/-! SlideBoardsModel.node()I -/
abbrev rm_X7_node : Room := { frames := 0, cells := 0, slots := 0, locals := 0 }
def lp_X7_node_28 (N : Nat) : Nat → St → Int32 → Option (Int32 × St)
  | 0, _, _ => none
  | n + 1, σ, x1 => if (σ.1 9) ≤ x1 then (some ((σ.1 9) - (1 : Int32), σ)) else (gd (okx x1 8) (nm (sA σ 14 x1 x1) (fun σ3 => nm (x1 + (1 : Int32)) (fun y4 => lp_X7_node_28 N n σ3 y4))))
set_option maxRecDepth 100000 in
set_option maxHeartbeats 4000000 in
theorem w_X7_node_28 {p : Program} {l : Launch} {e : Env} {s : State} {m : MethodId} {below : List Frame} {meth : Method} {c : Code} {args : Array Value} {D : va_G} {q : Nat → Nat} {k : cK} {ws0 : va_W} (hC : Cx p s m meth c cX7_node RX7 2 (some .int)) (N : Nat) (r : Int32) (σ' : St) :
    ∀ (n : Nat) (σ : St) (x1 : Int32) (H : Heap) (locs : List Loc) (ls : Array Slot), lp_X7_node_28 N n σ x1 = some (r, σ') → WH D (MW q k σ) k (AQ ws0) s s.heap H locs → lv_has ls 2 [(0, .ref (q 0)), (1, .int x1)] → W p l e rm_X7_node s m args below meth c H locs 0 0 (MQ below (QR D ws0 (MW q k σ') (some (.int r))) args s 0 0 (AQ ws0)) (F0 m 28 ls []) := by
  have hx := hC.1
  have hb := hC.2.1
  intro n
  induction n with
  | zero =>
    intro σ x1 H locs ls h
    cases h
  | succ n ih =>
    intro σ x1 H locs ls h hw hl
    rw [lp_X7_node_28] at h
    refine lv_iload_n hx hb dX7_node_28 rfl (lv_at hl 1 rfl) ?_
    refine lv_aload_n hx hb dX7_node_29 rfl (lv_at hl 0 rfl) ?_
    refine M_g_X7_172 hC hw dX7_node_30 ?_
    refine lv_icmp_ge (tgt := 49) hx hb dX7_node_33 (by decide) (fun c => ?_) (fun c => ?_)
    · have h := if_t h c
      refine lv_aload_n hx hb dX7_node_49 rfl (lv_at hl 0 rfl) ?_
      refine M_g_X7_172 hC hw dX7_node_50 ?_
      refine lv_iconst (v := 1) hx hb dX7_node_53 (by decide) ?_
      refine lv_isub hx hb dX7_node_54 ?_
      cases h
      exact ret_i hC hw dX7_node_55
    · have h := if_f h c
      refine lv_aload_n hx hb dX7_node_36 rfl (lv_at hl 0 rfl) ?_
      refine M_g_X7_55 hC hw dX7_node_37 ?_
      refine lv_iload_n hx hb dX7_node_40 rfl (lv_at hl 1 rfl) ?_
      refine lv_iload_n hx hb dX7_node_41 rfl (lv_at hl 1 rfl) ?_
      obtain ⟨hin, h⟩ := gd_o h
      refine M_st15 hC hw hin dX7_node_42 (fun σ3 eσ3 H locs hw => ?_)
      have h := nm_o h σ3 eσ3
      obtain ⟨y4, ey4⟩ : ∃ y : Int32, y = x1 + (1 : Int32) := ⟨_, rfl⟩
      have h := nm_o h y4 ey4
      refine lv_iinc (v := y4) (lv' := [(1, .int y4), (0, .ref (q 0))]) hx hb dX7_node_43 hl (k := 1) rfl (by rw [ey4]; rfl) (by decide) rfl (fun ls hl => ?_)
      refine lv_goto (tgt := 28) hx hb dX7_node_46 (by decide) ?_
      exact ih σ3 y4 _ _ ls h hw (lv_sub hl [1, 0] rfl)
def f_X7_node (N : Nat) (σ : St) : Option (Int32 × St) :=
  nm (sI σ 0 (0 : Int32)) (fun σ1 => if (σ1.1 9) = (8 : Int32) then (some ((-1 : Int32), σ1)) else (nm (sI σ1 9 ((σ1.1 9) + (1 : Int32))) (fun σ2 => lp_X7_node_28 N N σ2 (0 : Int32))))
set_option maxRecDepth 100000 in
set_option maxHeartbeats 4000000 in
theorem c_X7_node (l : Launch) (D : va_G) (q : Nat → Nat) (k : cK) (N : Nat) (σ : St) (r : Int32) (σ' : St) (h : f_X7_node N σ = some (r, σ')) :
    Met l yX7_node [.code yX7_node cX7_node 2 (some .int)] rm_X7_node (PC D (MW q k σ) k [.ref (q 0)]) (QR D (MW q k σ) (MW q k σ') (some (.int r))) 0 0 (AQ (MW q k σ)) := by
  refine met_of (by decide) (Nat.le_of_ble_eq_true rfl) ?_
  intro p e s m below meth c hC hw ls hl
  have hC : Cx p s m meth c cX7_node RX7 2 (some .int) := hC
  have hl : lv_has ls 2 [(0, .ref (q 0))] := hl
  have hx := hC.1
  have hb := hC.2.1
  unfold f_X7_node at h
  refine lv_aload_n hx hb dX7_node_0 rfl (lv_at hl 0 rfl) ?_
  refine lv_iconst (v := 0) hx hb dX7_node_1 (by decide) ?_
  refine M_p_X7_81 hC hw dX7_node_2 (fun σ1 eσ1 H locs hw => ?_)
  have h := nm_o h σ1 eσ1
  refine lv_aload_n hx hb dX7_node_5 rfl (lv_at hl 0 rfl) ?_
  refine M_g_X7_172 hC hw dX7_node_6 ?_
  refine lv_bipush (v := 8) hx hb dX7_node_9 (by decide) ?_
  refine lv_icmp_ne (tgt := 16) hx hb dX7_node_11 (by decide) (fun c => ?_) (fun c => ?_)
  · have h := if_f h c
    refine lv_aload_n hx hb dX7_node_16 rfl (lv_at hl 0 rfl) ?_
    refine lv_dup hx hb dX7_node_17 rfl ?_
    refine M_g_X7_172 hC hw dX7_node_18 ?_
    refine lv_iconst (v := 1) hx hb dX7_node_21 (by decide) ?_
    refine lv_iadd hx hb dX7_node_22 ?_
    refine M_p_X7_172 hC hw dX7_node_23 (fun σ2 eσ2 H locs hw => ?_)
    have h := nm_o h σ2 eσ2
    refine lv_iconst (v := 0) hx hb dX7_node_26 (by decide) ?_
    refine lv_istore_n (lv' := [(1, .int (0 : Int32)), (0, .ref (q 0))]) hx hb dX7_node_27 rfl hl (by decide) rfl (fun ls hl => ?_)
    exact w_X7_node_28 hC N r σ' N σ2 (0 : Int32) _ _ ls h hw (lv_sub hl [1, 0] rfl)
  · have h := if_t h c
    refine lv_iconst (v := -1) hx hb dX7_node_14 (by decide) ?_
    cases h
    exact ret_i hC hw dX7_node_15
/-! SlideBoardsModel.isJoined(II)Z -/
abbrev rm_X7_isJoined : Room := { frames := 0, cells := 0, slots := 0, locals := 0 }
def f_X7_isJoined (N : Nat) (σ : St) (a0 : Int32) (a1 : Int32) : Option Int32 :=
  gd (okx (((8 : Int32) * a0) + a1) 64) (gd (decide ((ra σ 13 (((8 : Int32) * a0) + a1)) = 0 ∨ (ra σ 13 (((8 : Int32) * a0) + a1)) = 1)) (some (ra σ 13 (((8 : Int32) * a0) + a1))))
set_option maxRecDepth 100000 in
set_option maxHeartbeats 4000000 in
theorem c_X7_isJoined (l : Launch) (D : va_G) (q : Nat → Nat) (k : cK) (N : Nat) (σ : St) (a0 : Int32) (a1 : Int32) (r : Int32) (h : f_X7_isJoined N σ a0 a1 = some r) :
    Met l yX7_isJoined [.code yX7_isJoined cX7_isJoined 3 (some .boolean)] rm_X7_isJoined (PC D (MW q k σ) k [.ref (q 0), .int a0, .int a1]) (QR D (MW q k σ) (MW q k σ) (some (.int r))) 0 0 (AQ (MW q k σ)) := by
  refine met_of (by decide) (Nat.le_of_ble_eq_true rfl) ?_
  intro p e s m below meth c hC hw ls hl
  have hC : Cx p s m meth c cX7_isJoined RX7 3 (some .boolean) := hC
  have hl : lv_has ls 3 [(0, .ref (q 0)), (1, .int a0), (2, .int a1)] := hl
  have hx := hC.1
  have hb := hC.2.1
  unfold f_X7_isJoined at h
  refine lv_aload_n hx hb dX7_isJoined_0 rfl (lv_at hl 0 rfl) ?_
  refine M_g_X7_51 hC hw dX7_isJoined_1 ?_
  refine lv_bipush (v := 8) hx hb dX7_isJoined_4 (by decide) ?_
  refine lv_iload_n hx hb dX7_isJoined_6 rfl (lv_at hl 1 rfl) ?_
  refine lv_imul hx hb dX7_isJoined_7 ?_
  refine lv_iload_n hx hb dX7_isJoined_8 rfl (lv_at hl 2 rfl) ?_
  refine lv_iadd hx hb dX7_isJoined_9 ?_
  obtain ⟨hin, h⟩ := gd_o h
  refine M_ld14 hC hw hin dX7_isJoined_10 ?_
  obtain ⟨hz, h⟩ := gp_o h
  cases h
  exact ret_z hC hz hw dX7_isJoined_11
/-! SlideBoardsModel.join(II)Z -/
abbrev rm_X7_join : Room := { frames := 1, cells := 0, slots := 0, locals := 22 }
def jn_X7_join_23 (N : Nat) (σ : St) (x1 : Int32) (x2 : Int32) (w0 : Int32) (w1 : Int32) : Option (Int32 × St) :=
  bd (f_X7_throwsIf N σ w1 w0) (fun r2 σ3 => if r2 = 0 then (if x1 = x2 then (some ((0 : Int32), σ3)) else (bd1 (f_X7_isJoined N σ3 x1 x2) (fun r4 => if r4 = 0 then (gd (okx (((8 : Int32) * x1) + x2) 64) (nm (sA σ3 13 (((8 : Int32) * x1) + x2) (vp_nar .boolean (1 : Int32))) (fun σ5 => gd (okx (((8 : Int32) * x2) + x1) 64) (nm (sA σ5 13 (((8 : Int32) * x2) + x1) (vp_nar .boolean (1 : Int32))) (fun σ6 => some ((1 : Int32), σ6)))))) else (some ((0 : Int32), σ3))))) else (some ((0 : Int32), σ3)))
set_option maxRecDepth 100000 in
set_option maxHeartbeats 4000000 in
theorem w_X7_join_23 {p : Program} {l : Launch} {e : Env} {s : State} {m : MethodId} {below : List Frame} {meth : Method} {c : Code} {args : Array Value} {D : va_G} {q : Nat → Nat} {k : cK} {ws0 : va_W} (hC : Cx p s m meth c cX7_join RX7 3 (some .boolean)) (N : Nat) (σ : St) (x1 : Int32) (x2 : Int32) (w0 : Int32) (w1 : Int32) (r : Int32) (σ' : St) :
    ∀ (H : Heap) (locs : List Loc) (ls : Array Slot), jn_X7_join_23 N σ x1 x2 w0 w1 = some (r, σ') → WH D (MW q k σ) k (AQ ws0) s s.heap H locs → lv_has ls 3 [(0, .ref (q 0)), (1, .int x1), (2, .int x2)] → W p l e rm_X7_join s m args below meth c H locs 0 0 (MQ below (QR D ws0 (MW q k σ') (some (.int r))) args s 0 0 (AQ ws0)) (F0 m 23 ls [.int w0, .int w1, .ref (q 0)]) := by
  have hx := hC.1
  have hb := hC.2.1
  intro H locs ls h hw hl
  unfold jn_X7_join_23 at h
  obtain ⟨r2, σ3, hc, h⟩ := bd_o h
  refine go_i (run_V (As := [.int w1, .int w0]) (rest := []) hC hw (c_X7_throwsIf l D q k N σ w1 w0 r2 σ3 hc) kw_250 kw_252 kw_253 kw_246 kw_251 hd_X7_throwsIf ⟨rfl, rfl⟩ ⟨Nat.le_of_ble_eq_true rfl, Nat.le_of_ble_eq_true rfl⟩ 0 rfl rfl rfl hl.1 rfl (Nat.le_of_ble_eq_true rfl) dX7_join_23 ⟨Nat.zero_le _, Nat.zero_le _⟩) hw (fun H locs hw => ?_)
  refine lv_if_ne (tgt := 43) hx hb dX7_join_26 (by decide) (fun c => ?_) (fun c => ?_)
  · have h := if_f h c
    refine lv_iconst (v := 0) hx hb dX7_join_43 (by decide) ?_
    cases h
    exact ret_z hC (Or.inl rfl) hw dX7_join_44
  · have h := if_t h c
    refine lv_iload_n hx hb dX7_join_29 rfl (lv_at hl 1 rfl) ?_
    refine lv_iload_n hx hb dX7_join_30 rfl (lv_at hl 2 rfl) ?_
    refine lv_icmp_eq (tgt := 43) hx hb dX7_join_31 (by decide) (fun c => ?_) (fun c => ?_)
    · have h := if_t h c
      refine lv_iconst (v := 0) hx hb dX7_join_43 (by decide) ?_
      cases h
      exact ret_z hC (Or.inl rfl) hw dX7_join_44
    · have h := if_f h c
      refine lv_aload_n hx hb dX7_join_34 rfl (lv_at hl 0 rfl) ?_
      refine lv_iload_n hx hb dX7_join_35 rfl (lv_at hl 1 rfl) ?_
      refine lv_iload_n hx hb dX7_join_36 rfl (lv_at hl 2 rfl) ?_
      obtain ⟨r4, hc, h⟩ := bd1_o h
      refine go_i (run_V (As := [.int x1, .int x2]) (rest := []) hC hw (c_X7_isJoined l D q k N σ3 x1 x2 r4 hc) kw_326 kw_328 kw_329 kw_246 kw_327 hd_X7_isJoined ⟨rfl, rfl⟩ ⟨Nat.le_of_ble_eq_true rfl, Nat.le_of_ble_eq_true rfl⟩ 0 rfl rfl rfl hl.1 rfl (Nat.le_of_ble_eq_true rfl) dX7_join_37 ⟨Nat.zero_le _, Nat.zero_le _⟩) hw (fun H locs hw => ?_)
      refine lv_if_eq (tgt := 45) hx hb dX7_join_40 (by decide) (fun c => ?_) (fun c => ?_)
      · have h := if_t h c
        refine lv_aload_n hx hb dX7_join_45 rfl (lv_at hl 0 rfl) ?_
        refine M_g_X7_51 hC hw dX7_join_46 ?_
        refine lv_bipush (v := 8) hx hb dX7_join_49 (by decide) ?_
        refine lv_iload_n hx hb dX7_join_51 rfl (lv_at hl 1 rfl) ?_
        refine lv_imul hx hb dX7_join_52 ?_
        refine lv_iload_n hx hb dX7_join_53 rfl (lv_at hl 2 rfl) ?_
        refine lv_iadd hx hb dX7_join_54 ?_
        refine lv_iconst (v := 1) hx hb dX7_join_55 (by decide) ?_
        obtain ⟨hin, h⟩ := gd_o h
        refine M_st14 hC hw hin dX7_join_56 (fun σ5 eσ5 H locs hw => ?_)
        have h := nm_o h σ5 eσ5
        refine lv_aload_n hx hb dX7_join_57 rfl (lv_at hl 0 rfl) ?_
        refine M_g_X7_51 hC hw dX7_join_58 ?_
        refine lv_bipush (v := 8) hx hb dX7_join_61 (by decide) ?_
        refine lv_iload_n hx hb dX7_join_63 rfl (lv_at hl 2 rfl) ?_
        refine lv_imul hx hb dX7_join_64 ?_
        refine lv_iload_n hx hb dX7_join_65 rfl (lv_at hl 1 rfl) ?_
        refine lv_iadd hx hb dX7_join_66 ?_
        refine lv_iconst (v := 1) hx hb dX7_join_67 (by decide) ?_
        obtain ⟨hin, h⟩ := gd_o h
        refine M_st14 hC hw hin dX7_join_68 (fun σ6 eσ6 H locs hw => ?_)
        have h := nm_o h σ6 eσ6
        refine lv_iconst (v := 1) hx hb dX7_join_69 (by decide) ?_
        cases h
        exact ret_z hC (Or.inr rfl) hw dX7_join_70
      · have h := if_f h c
        refine lv_iconst (v := 0) hx hb dX7_join_43 (by decide) ?_
        cases h
        exact ret_z hC (Or.inl rfl) hw dX7_join_44
def jn_X7_join_18 (N : Nat) (σ : St) (x1 : Int32) (x2 : Int32) (w0 : Int32) : Option (Int32 × St) :=
  jn_X7_join_23 N σ x1 x2 (1 : Int32) w0
set_option maxRecDepth 100000 in
set_option maxHeartbeats 4000000 in
theorem w_X7_join_18 {p : Program} {l : Launch} {e : Env} {s : State} {m : MethodId} {below : List Frame} {meth : Method} {c : Code} {args : Array Value} {D : va_G} {q : Nat → Nat} {k : cK} {ws0 : va_W} (hC : Cx p s m meth c cX7_join RX7 3 (some .boolean)) (N : Nat) (σ : St) (x1 : Int32) (x2 : Int32) (w0 : Int32) (r : Int32) (σ' : St) :
    ∀ (H : Heap) (locs : List Loc) (ls : Array Slot), jn_X7_join_18 N σ x1 x2 w0 = some (r, σ') → WH D (MW q k σ) k (AQ ws0) s s.heap H locs → lv_has ls 3 [(0, .ref (q 0)), (1, .int x1), (2, .int x2)] → W p l e rm_X7_join s m args below meth c H locs 0 0 (MQ below (QR D ws0 (MW q k σ') (some (.int r))) args s 0 0 (AQ ws0)) (F0 m 18 ls [.int w0, .ref (q 0)]) := by
  have hx := hC.1
  have hb := hC.2.1
  intro H locs ls h hw hl
  unfold jn_X7_join_18 at h
  refine lv_iconst (v := 1) hx hb dX7_join_18 (by decide) ?_
  refine lv_goto (tgt := 23) hx hb dX7_join_19 (by decide) ?_
  exact w_X7_join_23 hC N σ x1 x2 (1 : Int32) w0 r σ' _ _ ls h hw (lv_sub hl [0, 1, 2] rfl)
def f_X7_join (N : Nat) (σ : St) (a0 : Int32) (a1 : Int32) : Option (Int32 × St) :=
  bd1 (f_X7_isNode N σ a0) (fun r1 => if r1 = 0 then (jn_X7_join_18 N σ a0 a1 (1 : Int32)) else (bd1 (f_X7_isNode N σ a1) (fun r7 => if r7 = 0 then (jn_X7_join_18 N σ a0 a1 (1 : Int32)) else (jn_X7_join_23 N σ a0 a1 (0 : Int32) (1 : Int32)))))
set_option maxRecDepth 100000 in
set_option maxHeartbeats 4000000 in
theorem c_X7_join (l : Launch) (D : va_G) (q : Nat → Nat) (k : cK) (N : Nat) (σ : St) (a0 : Int32) (a1 : Int32) (r : Int32) (σ' : St) (h : f_X7_join N σ a0 a1 = some (r, σ')) :
    Met l yX7_join [.code yX7_join cX7_join 3 (some .boolean)] rm_X7_join (PC D (MW q k σ) k [.ref (q 0), .int a0, .int a1]) (QR D (MW q k σ) (MW q k σ') (some (.int r))) 0 0 (AQ (MW q k σ)) := by
  refine met_of (by decide) (Nat.le_of_ble_eq_true rfl) ?_
  intro p e s m below meth c hC hw ls hl
  have hC : Cx p s m meth c cX7_join RX7 3 (some .boolean) := hC
  have hl : lv_has ls 3 [(0, .ref (q 0)), (1, .int a0), (2, .int a1)] := hl
  have hx := hC.1
  have hb := hC.2.1
  unfold f_X7_join at h
  refine lv_aload_n hx hb dX7_join_0 rfl (lv_at hl 0 rfl) ?_
  refine lv_iconst (v := 1) hx hb dX7_join_1 (by decide) ?_
  refine lv_aload_n hx hb dX7_join_2 rfl (lv_at hl 0 rfl) ?_
  refine lv_iload_n hx hb dX7_join_3 rfl (lv_at hl 1 rfl) ?_
  obtain ⟨r1, hc, h⟩ := bd1_o h
  refine go_i (run_V (As := [.int a0]) (rest := [.int (1 : Int32), .ref (q 0)]) hC hw (c_X7_isNode l D q k N σ a0 r1 hc) kw_322 kw_324 kw_325 kw_246 kw_323 hd_X7_isNode ⟨rfl, rfl⟩ ⟨Nat.le_of_ble_eq_true rfl, Nat.le_of_ble_eq_true rfl⟩ 0 rfl rfl rfl hl.1 rfl (Nat.le_of_ble_eq_true rfl) dX7_join_4 ⟨Nat.zero_le _, Nat.zero_le _⟩) hw (fun H locs hw => ?_)
  refine lv_if_eq (tgt := 18) hx hb dX7_join_7 (by decide) (fun c => ?_) (fun c => ?_)
  · have h := if_t h c
    exact w_X7_join_18 hC N σ a0 a1 (1 : Int32) r σ' _ _ ls h hw (lv_sub hl [0, 1, 2] rfl)
  · have h := if_f h c
    refine lv_aload_n hx hb dX7_join_10 rfl (lv_at hl 0 rfl) ?_
    refine lv_iload_n hx hb dX7_join_11 rfl (lv_at hl 2 rfl) ?_
    obtain ⟨r7, hc, h⟩ := bd1_o h
    refine go_i (run_V (As := [.int a1]) (rest := [.int (1 : Int32), .ref (q 0)]) hC hw (c_X7_isNode l D q k N σ a1 r7 hc) kw_322 kw_324 kw_325 kw_246 kw_323 hd_X7_isNode ⟨rfl, rfl⟩ ⟨Nat.le_of_ble_eq_true rfl, Nat.le_of_ble_eq_true rfl⟩ 0 rfl rfl rfl hl.1 rfl (Nat.le_of_ble_eq_true rfl) dX7_join_12 ⟨Nat.zero_le _, Nat.zero_le _⟩) hw (fun H locs hw => ?_)
    refine lv_if_ne (tgt := 22) hx hb dX7_join_15 (by decide) (fun c => ?_) (fun c => ?_)
    · have h := if_f h c
      refine lv_iconst (v := 0) hx hb dX7_join_22 (by decide) ?_
      exact w_X7_join_23 hC N σ a0 a1 (0 : Int32) (1 : Int32) r σ' _ _ ls h hw (lv_sub hl [0, 1, 2] rfl)
    · have h := if_t h c
      exact w_X7_join_18 hC N σ a0 a1 (1 : Int32) r σ' _ _ ls h hw (lv_sub hl [0, 1, 2] rfl)
/-! SlideBoardsModel.tile(I)I -/
abbrev rm_X7_tile : Room := { frames := 1, cells := 0, slots := 0, locals := 22 }
def f_X7_tile (N : Nat) (σ : St) (a0 : Int32) : Option (Int32 × St) :=
  bd1 (f_X7_isNode N σ a0) (fun r1 => if r1 = 0 then (bd (f_X7_throwsIf N σ (1 : Int32) (1 : Int32)) (fun r4 σ5 => if r4 = 0 then (gd (okx a0 8) (some (ra σ5 14 a0, σ5))) else (some ((0 : Int32), σ5)))) else (bd (f_X7_throwsIf N σ (1 : Int32) (0 : Int32)) (fun r2 σ3 => if r2 = 0 then (gd (okx a0 8) (some (ra σ3 14 a0, σ3))) else (some ((0 : Int32), σ3)))))
set_option maxRecDepth 100000 in
set_option maxHeartbeats 4000000 in
theorem c_X7_tile (l : Launch) (D : va_G) (q : Nat → Nat) (k : cK) (N : Nat) (σ : St) (a0 : Int32) (r : Int32) (σ' : St) (h : f_X7_tile N σ a0 = some (r, σ')) :
    Met l yX7_tile [.code yX7_tile cX7_tile 2 (some .int)] rm_X7_tile (PC D (MW q k σ) k [.ref (q 0), .int a0]) (QR D (MW q k σ) (MW q k σ') (some (.int r))) 0 0 (AQ (MW q k σ)) := by
  refine met_of (by decide) (Nat.le_of_ble_eq_true rfl) ?_
  intro p e s m below meth c hC hw ls hl
  have hC : Cx p s m meth c cX7_tile RX7 2 (some .int) := hC
  have hl : lv_has ls 2 [(0, .ref (q 0)), (1, .int a0)] := hl
  have hx := hC.1
  have hb := hC.2.1
  unfold f_X7_tile at h
  refine lv_aload_n hx hb dX7_tile_0 rfl (lv_at hl 0 rfl) ?_
  refine lv_iconst (v := 1) hx hb dX7_tile_1 (by decide) ?_
  refine lv_aload_n hx hb dX7_tile_2 rfl (lv_at hl 0 rfl) ?_
  refine lv_iload_n hx hb dX7_tile_3 rfl (lv_at hl 1 rfl) ?_
  obtain ⟨r1, hc, h⟩ := bd1_o h
  refine go_i (run_V (As := [.int a0]) (rest := [.int (1 : Int32), .ref (q 0)]) hC hw (c_X7_isNode l D q k N σ a0 r1 hc) kw_322 kw_324 kw_325 kw_246 kw_323 hd_X7_isNode ⟨rfl, rfl⟩ ⟨Nat.le_of_ble_eq_true rfl, Nat.le_of_ble_eq_true rfl⟩ 0 rfl rfl rfl hl.1 rfl (Nat.le_of_ble_eq_true rfl) dX7_tile_4 ⟨Nat.zero_le _, Nat.zero_le _⟩) hw (fun H locs hw => ?_)
  refine lv_if_ne (tgt := 14) hx hb dX7_tile_7 (by decide) (fun c => ?_) (fun c => ?_)
  · have h := if_f h c
    refine lv_iconst (v := 0) hx hb dX7_tile_14 (by decide) ?_
    obtain ⟨r2, σ3, hc, h⟩ := bd_o h
    refine go_i (run_V (As := [.int (1 : Int32), .int (0 : Int32)]) (rest := []) hC hw (c_X7_throwsIf l D q k N σ (1 : Int32) (0 : Int32) r2 σ3 hc) kw_250 kw_252 kw_253 kw_246 kw_251 hd_X7_throwsIf ⟨rfl, rfl⟩ ⟨Nat.le_of_ble_eq_true rfl, Nat.le_of_ble_eq_true rfl⟩ 0 rfl rfl rfl hl.1 rfl (Nat.le_of_ble_eq_true rfl) dX7_tile_15 ⟨Nat.zero_le _, Nat.zero_le _⟩) hw (fun H locs hw => ?_)
    refine lv_if_eq (tgt := 25) hx hb dX7_tile_18 (by decide) (fun c => ?_) (fun c => ?_)
    · have h := if_t h c
      refine lv_aload_n hx hb dX7_tile_25 rfl (lv_at hl 0 rfl) ?_
      refine M_g_X7_55 hC hw dX7_tile_26 ?_
      refine lv_iload_n hx hb dX7_tile_29 rfl (lv_at hl 1 rfl) ?_
      obtain ⟨hin, h⟩ := gd_o h
      refine M_ld15 hC hw hin dX7_tile_30 ?_
      cases h
      exact ret_i hC hw dX7_tile_31
    · have h := if_f h c
      refine lv_iconst (v := 0) hx hb dX7_tile_21 (by decide) ?_
      refine lv_goto (tgt := 31) hx hb dX7_tile_22 (by decide) ?_
      cases h
      exact ret_i hC hw dX7_tile_31
  · have h := if_t h c
    refine lv_iconst (v := 1) hx hb dX7_tile_10 (by decide) ?_
    refine lv_goto (tgt := 15) hx hb dX7_tile_11 (by decide) ?_
    obtain ⟨r4, σ5, hc, h⟩ := bd_o h
    refine go_i (run_V (As := [.int (1 : Int32), .int (1 : Int32)]) (rest := []) hC hw (c_X7_throwsIf l D q k N σ (1 : Int32) (1 : Int32) r4 σ5 hc) kw_250 kw_252 kw_253 kw_246 kw_251 hd_X7_throwsIf ⟨rfl, rfl⟩ ⟨Nat.le_of_ble_eq_true rfl, Nat.le_of_ble_eq_true rfl⟩ 0 rfl rfl rfl hl.1 rfl (Nat.le_of_ble_eq_true rfl) dX7_tile_15 ⟨Nat.zero_le _, Nat.zero_le _⟩) hw (fun H locs hw => ?_)
    refine lv_if_eq (tgt := 25) hx hb dX7_tile_18 (by decide) (fun c => ?_) (fun c => ?_)
    · have h := if_t h c
      refine lv_aload_n hx hb dX7_tile_25 rfl (lv_at hl 0 rfl) ?_
      refine M_g_X7_55 hC hw dX7_tile_26 ?_
      refine lv_iload_n hx hb dX7_tile_29 rfl (lv_at hl 1 rfl) ?_
      obtain ⟨hin, h⟩ := gd_o h
      refine M_ld15 hC hw hin dX7_tile_30 ?_
      cases h
      exact ret_i hC hw dX7_tile_31
    · have h := if_f h c
      refine lv_iconst (v := 0) hx hb dX7_tile_21 (by decide) ?_
      refine lv_goto (tgt := 31) hx hb dX7_tile_22 (by decide) ?_
      cases h
      exact ret_i hC hw dX7_tile_31
/-! SlideBoardsModel.gap()I -/
abbrev rm_X7_gap : Room := { frames := 0, cells := 0, slots := 0, locals := 0 }
def lp_X7_gap_2 (N : Nat) (σ : St) : Nat → Int32 → Option Int32
  | 0, _ => none
  | n + 1, x1 => gd (okx x1 8) (if (ra σ 14 x1) = 0 then (some x1) else (nm (x1 + (1 : Int32)) (fun y1 => lp_X7_gap_2 N σ n y1)))
set_option maxRecDepth 100000 in
set_option maxHeartbeats 4000000 in
theorem w_X7_gap_2 {p : Program} {l : Launch} {e : Env} {s : State} {m : MethodId} {below : List Frame} {meth : Method} {c : Code} {args : Array Value} {D : va_G} {q : Nat → Nat} {k : cK} {ws0 : va_W} (hC : Cx p s m meth c cX7_gap RX7 2 (some .int)) (N : Nat) (σ : St) (r : Int32) :
    ∀ (n : Nat) (x1 : Int32) (H : Heap) (locs : List Loc) (ls : Array Slot), lp_X7_gap_2 N σ n x1 = some r → WH D (MW q k σ) k (AQ ws0) s s.heap H locs → lv_has ls 2 [(0, .ref (q 0)), (1, .int x1)] → W p l e rm_X7_gap s m args below meth c H locs 0 0 (MQ below (QR D ws0 (MW q k σ) (some (.int r))) args s 0 0 (AQ ws0)) (F0 m 2 ls []) := by
  have hx := hC.1
  have hb := hC.2.1
  intro n
  induction n with
  | zero =>
    intro x1 H locs ls h
    cases h
  | succ n ih =>
    intro x1 H locs ls h hw hl
    rw [lp_X7_gap_2] at h
    refine lv_aload_n hx hb dX7_gap_2 rfl (lv_at hl 0 rfl) ?_
    refine M_g_X7_55 hC hw dX7_gap_3 ?_
    refine lv_iload_n hx hb dX7_gap_6 rfl (lv_at hl 1 rfl) ?_
    obtain ⟨hin, h⟩ := gd_o h
    refine M_ld15 hC hw hin dX7_gap_7 ?_
    refine lv_if_eq (tgt := 17) hx hb dX7_gap_8 (by decide) (fun c => ?_) (fun c => ?_)
    · have h := if_t h c
      refine lv_iload_n hx hb dX7_gap_17 rfl (lv_at hl 1 rfl) ?_
      cases h
      exact ret_i hC hw dX7_gap_18
    · have h := if_f h c
      obtain ⟨y1, ey1⟩ : ∃ y : Int32, y = x1 + (1 : Int32) := ⟨_, rfl⟩
      have h := nm_o h y1 ey1
      refine lv_iinc (v := y1) (lv' := [(1, .int y1), (0, .ref (q 0))]) hx hb dX7_gap_11 hl (k := 1) rfl (by rw [ey1]; rfl) (by decide) rfl (fun ls hl => ?_)
      refine lv_goto (tgt := 2) hx hb dX7_gap_14 (by decide) ?_
      exact ih y1 _ _ ls h hw (lv_sub hl [1, 0] rfl)
def f_X7_gap (N : Nat) (σ : St) : Option Int32 :=
  lp_X7_gap_2 N σ N (0 : Int32)
set_option maxRecDepth 100000 in
set_option maxHeartbeats 4000000 in
theorem c_X7_gap (l : Launch) (D : va_G) (q : Nat → Nat) (k : cK) (N : Nat) (σ : St) (r : Int32) (h : f_X7_gap N σ = some r) :
    Met l yX7_gap [.code yX7_gap cX7_gap 2 (some .int)] rm_X7_gap (PC D (MW q k σ) k [.ref (q 0)]) (QR D (MW q k σ) (MW q k σ) (some (.int r))) 0 0 (AQ (MW q k σ)) := by
  refine met_of (by decide) (Nat.le_of_ble_eq_true rfl) ?_
  intro p e s m below meth c hC hw ls hl
  have hC : Cx p s m meth c cX7_gap RX7 2 (some .int) := hC
  have hl : lv_has ls 2 [(0, .ref (q 0))] := hl
  have hx := hC.1
  have hb := hC.2.1
  unfold f_X7_gap at h
  refine lv_iconst (v := 0) hx hb dX7_gap_0 (by decide) ?_
  refine lv_istore_n (lv' := [(1, .int (0 : Int32)), (0, .ref (q 0))]) hx hb dX7_gap_1 rfl hl (by decide) rfl (fun ls hl => ?_)
  exact w_X7_gap_2 hC N σ r N (0 : Int32) _ _ ls h hw (lv_sub hl [1, 0] rfl)
/-! SlideBoardsModel.exchange(II)V -/
abbrev rm_X7_exchange : Room := { frames := 0, cells := 0, slots := 0, locals := 0 }
def f_X7_exchange (N : Nat) (σ : St) (a0 : Int32) (a1 : Int32) : Option St :=
  gd (okx a0 8) (nm (ra σ 14 a0) (fun y1 => gd (okx a1 8) (gd (okx a0 8) (nm (sA σ 14 a0 (ra σ 14 a1)) (fun σ2 => gd (okx a1 8) (nm (sA σ2 14 a1 y1) (fun σ3 => some σ3)))))))
set_option maxRecDepth 100000 in
set_option maxHeartbeats 4000000 in
theorem c_X7_exchange (l : Launch) (D : va_G) (q : Nat → Nat) (k : cK) (N : Nat) (σ : St) (a0 : Int32) (a1 : Int32) (σ' : St) (h : f_X7_exchange N σ a0 a1 = some σ') :
    Met l yX7_exchange [.code yX7_exchange cX7_exchange 4 none] rm_X7_exchange (PC D (MW q k σ) k [.ref (q 0), .int a0, .int a1]) (QR D (MW q k σ) (MW q k σ') none) 0 0 (AQ (MW q k σ)) := by
  refine met_of (by decide) (Nat.le_of_ble_eq_true rfl) ?_
  intro p e s m below meth c hC hw ls hl
  have hC : Cx p s m meth c cX7_exchange RX7 4 none := hC
  have hl : lv_has ls 4 [(0, .ref (q 0)), (1, .int a0), (2, .int a1)] := hl
  have hx := hC.1
  have hb := hC.2.1
  unfold f_X7_exchange at h
  refine lv_aload_n hx hb dX7_exchange_0 rfl (lv_at hl 0 rfl) ?_
  refine M_g_X7_55 hC hw dX7_exchange_1 ?_
  refine lv_iload_n hx hb dX7_exchange_4 rfl (lv_at hl 1 rfl) ?_
  obtain ⟨hin, h⟩ := gd_o h
  refine M_ld15 hC hw hin dX7_exchange_5 ?_
  refine lv_topi (fun y1 ey1 => ?_)
  have h := nm_o h y1 ey1
  refine lv_istore_n (lv' := [(3, .int y1), (0, .ref (q 0)), (1, .int a0), (2, .int a1)]) hx hb dX7_exchange_6 rfl hl (by decide) rfl (fun ls hl => ?_)
  refine lv_aload_n hx hb dX7_exchange_7 rfl (lv_at hl 1 rfl) ?_
  refine M_g_X7_55 hC hw dX7_exchange_8 ?_
  refine lv_iload_n hx hb dX7_exchange_11 rfl (lv_at hl 2 rfl) ?_
  refine lv_aload_n hx hb dX7_exchange_12 rfl (lv_at hl 1 rfl) ?_
  refine M_g_X7_55 hC hw dX7_exchange_13 ?_
  refine lv_iload_n hx hb dX7_exchange_16 rfl (lv_at hl 3 rfl) ?_
  obtain ⟨hin, h⟩ := gd_o h
  refine M_ld15 hC hw hin dX7_exchange_17 ?_
  obtain ⟨hin, h⟩ := gd_o h
  refine M_st15 hC hw hin dX7_exchange_18 (fun σ2 eσ2 H locs hw => ?_)
  have h := nm_o h σ2 eσ2
  refine lv_aload_n hx hb dX7_exchange_19 rfl (lv_at hl 1 rfl) ?_
  refine M_g_X7_55 hC hw dX7_exchange_20 ?_
  refine lv_iload_n hx hb dX7_exchange_23 rfl (lv_at hl 3 rfl) ?_
  refine lv_iload_n hx hb dX7_exchange_24 rfl (lv_at hl 0 rfl) ?_
  obtain ⟨hin, h⟩ := gd_o h
  refine M_st15 hC hw hin dX7_exchange_25 (fun σ3 eσ3 H locs hw => ?_)
  have h := nm_o h σ3 eσ3
  cases h
  exact ret_v hC hw dX7_exchange_26
/-! SlideBoardsModel.shift(I)Z -/
abbrev rm_X7_shift : Room := { frames := 1, cells := 0, slots := 0, locals := 23 }
def f_X7_shift (N : Nat) (σ : St) (a0 : Int32) : Option (Int32 × St) :=
  bd1 (f_X7_isNode N σ a0) (fun r1 => if r1 = 0 then (bd (f_X7_throwsIf N σ (1 : Int32) (1 : Int32)) (fun r8 σ9 => if r8 = 0 then (gd (okx a0 8) (if (ra σ9 14 a0) = 0 then (some ((0 : Int32), σ9)) else (bd1 (f_X7_gap N σ9) (fun r10 => bd1 (f_X7_isJoined N σ9 a0 r10) (fun r11 => if r11 = 0 then (some ((0 : Int32), σ9)) else (bd1 (f_X7_gap N σ9) (fun r12 => bd1 (f_X7_exchange N σ9 a0 r12) (fun σ13 => some ((1 : Int32), σ13))))))))) else (some ((0 : Int32), σ9)))) else (bd (f_X7_throwsIf N σ (1 : Int32) (0 : Int32)) (fun r2 σ3 => if r2 = 0 then (gd (okx a0 8) (if (ra σ3 14 a0) = 0 then (some ((0 : Int32), σ3)) else (bd1 (f_X7_gap N σ3) (fun r4 => bd1 (f_X7_isJoined N σ3 a0 r4) (fun r5 => if r5 = 0 then (some ((0 : Int32), σ3)) else (bd1 (f_X7_gap N σ3) (fun r6 => bd1 (f_X7_exchange N σ3 a0 r6) (fun σ7 => some ((1 : Int32), σ7))))))))) else (some ((0 : Int32), σ3)))))
set_option maxRecDepth 100000 in
set_option maxHeartbeats 4000000 in
theorem c_X7_shift (l : Launch) (D : va_G) (q : Nat → Nat) (k : cK) (N : Nat) (σ : St) (a0 : Int32) (r : Int32) (σ' : St) (h : f_X7_shift N σ a0 = some (r, σ')) :
    Met l yX7_shift [.code yX7_shift cX7_shift 2 (some .boolean)] rm_X7_shift (PC D (MW q k σ) k [.ref (q 0), .int a0]) (QR D (MW q k σ) (MW q k σ') (some (.int r))) 0 0 (AQ (MW q k σ)) := by
  refine met_of (by decide) (Nat.le_of_ble_eq_true rfl) ?_
  intro p e s m below meth c hC hw ls hl
  have hC : Cx p s m meth c cX7_shift RX7 2 (some .boolean) := hC
  have hl : lv_has ls 2 [(0, .ref (q 0)), (1, .int a0)] := hl
  have hx := hC.1
  have hb := hC.2.1
  unfold f_X7_shift at h
  refine lv_aload_n hx hb dX7_shift_0 rfl (lv_at hl 0 rfl) ?_
  refine lv_iconst (v := 1) hx hb dX7_shift_1 (by decide) ?_
  refine lv_aload_n hx hb dX7_shift_2 rfl (lv_at hl 0 rfl) ?_
  refine lv_iload_n hx hb dX7_shift_3 rfl (lv_at hl 1 rfl) ?_
  obtain ⟨r1, hc, h⟩ := bd1_o h
  refine go_i (run_V (As := [.int a0]) (rest := [.int (1 : Int32), .ref (q 0)]) hC hw (c_X7_isNode l D q k N σ a0 r1 hc) kw_322 kw_324 kw_325 kw_246 kw_323 hd_X7_isNode ⟨rfl, rfl⟩ ⟨Nat.le_of_ble_eq_true rfl, Nat.le_of_ble_eq_true rfl⟩ 0 rfl rfl rfl hl.1 rfl (Nat.le_of_ble_eq_true rfl) dX7_shift_4 ⟨Nat.zero_le _, Nat.zero_le _⟩) hw (fun H locs hw => ?_)
  refine lv_if_ne (tgt := 14) hx hb dX7_shift_7 (by decide) (fun c => ?_) (fun c => ?_)
  · have h := if_f h c
    refine lv_iconst (v := 0) hx hb dX7_shift_14 (by decide) ?_
    obtain ⟨r2, σ3, hc, h⟩ := bd_o h
    refine go_i (run_V (As := [.int (1 : Int32), .int (0 : Int32)]) (rest := []) hC hw (c_X7_throwsIf l D q k N σ (1 : Int32) (0 : Int32) r2 σ3 hc) kw_250 kw_252 kw_253 kw_246 kw_251 hd_X7_throwsIf ⟨rfl, rfl⟩ ⟨Nat.le_of_ble_eq_true rfl, Nat.le_of_ble_eq_true rfl⟩ 0 rfl rfl rfl hl.1 rfl (Nat.le_of_ble_eq_true rfl) dX7_shift_15 ⟨Nat.zero_le _, Nat.zero_le _⟩) hw (fun H locs hw => ?_)
    refine lv_if_ne (tgt := 42) hx hb dX7_shift_18 (by decide) (fun c => ?_) (fun c => ?_)
    · have h := if_f h c
      refine lv_iconst (v := 0) hx hb dX7_shift_42 (by decide) ?_
      cases h
      exact ret_z hC (Or.inl rfl) hw dX7_shift_43
    · have h := if_t h c
      refine lv_aload_n hx hb dX7_shift_21 rfl (lv_at hl 0 rfl) ?_
      refine M_g_X7_55 hC hw dX7_shift_22 ?_
      refine lv_iload_n hx hb dX7_shift_25 rfl (lv_at hl 1 rfl) ?_
      obtain ⟨hin, h⟩ := gd_o h
      refine M_ld15 hC hw hin dX7_shift_26 ?_
      refine lv_if_eq (tgt := 42) hx hb dX7_shift_27 (by decide) (fun c => ?_) (fun c => ?_)
      · have h := if_t h c
        refine lv_iconst (v := 0) hx hb dX7_shift_42 (by decide) ?_
        cases h
        exact ret_z hC (Or.inl rfl) hw dX7_shift_43
      · have h := if_f h c
        refine lv_aload_n hx hb dX7_shift_30 rfl (lv_at hl 0 rfl) ?_
        refine lv_iload_n hx hb dX7_shift_31 rfl (lv_at hl 1 rfl) ?_
        refine lv_aload_n hx hb dX7_shift_32 rfl (lv_at hl 0 rfl) ?_
        obtain ⟨r4, hc, h⟩ := bd1_o h
        refine go_i (run_V (As := []) (rest := [.int a0, .ref (q 0)]) hC hw (c_X7_gap l D q k N σ3 r4 hc) kw_330 kw_332 kw_333 kw_246 kw_331 hd_X7_gap ⟨rfl, rfl⟩ ⟨Nat.le_of_ble_eq_true rfl, Nat.le_of_ble_eq_true rfl⟩ 0 rfl rfl rfl hl.1 rfl (Nat.le_of_ble_eq_true rfl) dX7_shift_33 ⟨Nat.zero_le _, Nat.zero_le _⟩) hw (fun H locs hw => ?_)
        obtain ⟨r5, hc, h⟩ := bd1_o h
        refine go_i (run_V (As := [.int a0, .int r4]) (rest := []) hC hw (c_X7_isJoined l D q k N σ3 a0 r4 r5 hc) kw_326 kw_328 kw_329 kw_246 kw_327 hd_X7_isJoined ⟨rfl, rfl⟩ ⟨Nat.le_of_ble_eq_true rfl, Nat.le_of_ble_eq_true rfl⟩ 0 rfl rfl rfl hl.1 rfl (Nat.le_of_ble_eq_true rfl) dX7_shift_36 ⟨Nat.zero_le _, Nat.zero_le _⟩) hw (fun H locs hw => ?_)
        refine lv_if_ne (tgt := 44) hx hb dX7_shift_39 (by decide) (fun c => ?_) (fun c => ?_)
        · have h := if_f h c
          refine lv_aload_n hx hb dX7_shift_44 rfl (lv_at hl 0 rfl) ?_
          refine lv_iload_n hx hb dX7_shift_45 rfl (lv_at hl 1 rfl) ?_
          refine lv_aload_n hx hb dX7_shift_46 rfl (lv_at hl 0 rfl) ?_
          obtain ⟨r6, hc, h⟩ := bd1_o h
          refine go_i (run_V (As := []) (rest := [.int a0, .ref (q 0)]) hC hw (c_X7_gap l D q k N σ3 r6 hc) kw_330 kw_332 kw_333 kw_246 kw_331 hd_X7_gap ⟨rfl, rfl⟩ ⟨Nat.le_of_ble_eq_true rfl, Nat.le_of_ble_eq_true rfl⟩ 0 rfl rfl rfl hl.1 rfl (Nat.le_of_ble_eq_true rfl) dX7_shift_47 ⟨Nat.zero_le _, Nat.zero_le _⟩) hw (fun H locs hw => ?_)
          obtain ⟨σ7, hc, h⟩ := bd1_o h
          refine go_v (run_V (As := [.int a0, .int r6]) (rest := []) hC hw (c_X7_exchange l D q k N σ3 a0 r6 σ7 hc) kw_334 kw_336 kw_337 kw_246 kw_335 hd_X7_exchange ⟨rfl, rfl⟩ ⟨Nat.le_of_ble_eq_true rfl, Nat.le_of_ble_eq_true rfl⟩ 0 rfl rfl rfl hl.1 rfl (Nat.le_of_ble_eq_true rfl) dX7_shift_50 ⟨Nat.zero_le _, Nat.zero_le _⟩) hw (fun H locs hw => ?_)
          refine lv_iconst (v := 1) hx hb dX7_shift_53 (by decide) ?_
          cases h
          exact ret_z hC (Or.inr rfl) hw dX7_shift_54
        · have h := if_t h c
          refine lv_iconst (v := 0) hx hb dX7_shift_42 (by decide) ?_
          cases h
          exact ret_z hC (Or.inl rfl) hw dX7_shift_43
  · have h := if_t h c
    refine lv_iconst (v := 1) hx hb dX7_shift_10 (by decide) ?_
    refine lv_goto (tgt := 15) hx hb dX7_shift_11 (by decide) ?_
    obtain ⟨r8, σ9, hc, h⟩ := bd_o h
    refine go_i (run_V (As := [.int (1 : Int32), .int (1 : Int32)]) (rest := []) hC hw (c_X7_throwsIf l D q k N σ (1 : Int32) (1 : Int32) r8 σ9 hc) kw_250 kw_252 kw_253 kw_246 kw_251 hd_X7_throwsIf ⟨rfl, rfl⟩ ⟨Nat.le_of_ble_eq_true rfl, Nat.le_of_ble_eq_true rfl⟩ 0 rfl rfl rfl hl.1 rfl (Nat.le_of_ble_eq_true rfl) dX7_shift_15 ⟨Nat.zero_le _, Nat.zero_le _⟩) hw (fun H locs hw => ?_)
    refine lv_if_ne (tgt := 42) hx hb dX7_shift_18 (by decide) (fun c => ?_) (fun c => ?_)
    · have h := if_f h c
      refine lv_iconst (v := 0) hx hb dX7_shift_42 (by decide) ?_
      cases h
      exact ret_z hC (Or.inl rfl) hw dX7_shift_43
    · have h := if_t h c
      refine lv_aload_n hx hb dX7_shift_21 rfl (lv_at hl 0 rfl) ?_
      refine M_g_X7_55 hC hw dX7_shift_22 ?_
      refine lv_iload_n hx hb dX7_shift_25 rfl (lv_at hl 1 rfl) ?_
      obtain ⟨hin, h⟩ := gd_o h
      refine M_ld15 hC hw hin dX7_shift_26 ?_
      refine lv_if_eq (tgt := 42) hx hb dX7_shift_27 (by decide) (fun c => ?_) (fun c => ?_)
      · have h := if_t h c
        refine lv_iconst (v := 0) hx hb dX7_shift_42 (by decide) ?_
        cases h
        exact ret_z hC (Or.inl rfl) hw dX7_shift_43
      · have h := if_f h c
        refine lv_aload_n hx hb dX7_shift_30 rfl (lv_at hl 0 rfl) ?_
        refine lv_iload_n hx hb dX7_shift_31 rfl (lv_at hl 1 rfl) ?_
        refine lv_aload_n hx hb dX7_shift_32 rfl (lv_at hl 0 rfl) ?_
        obtain ⟨r10, hc, h⟩ := bd1_o h
        refine go_i (run_V (As := []) (rest := [.int a0, .ref (q 0)]) hC hw (c_X7_gap l D q k N σ9 r10 hc) kw_330 kw_332 kw_333 kw_246 kw_331 hd_X7_gap ⟨rfl, rfl⟩ ⟨Nat.le_of_ble_eq_true rfl, Nat.le_of_ble_eq_true rfl⟩ 0 rfl rfl rfl hl.1 rfl (Nat.le_of_ble_eq_true rfl) dX7_shift_33 ⟨Nat.zero_le _, Nat.zero_le _⟩) hw (fun H locs hw => ?_)
        obtain ⟨r11, hc, h⟩ := bd1_o h
        refine go_i (run_V (As := [.int a0, .int r10]) (rest := []) hC hw (c_X7_isJoined l D q k N σ9 a0 r10 r11 hc) kw_326 kw_328 kw_329 kw_246 kw_327 hd_X7_isJoined ⟨rfl, rfl⟩ ⟨Nat.le_of_ble_eq_true rfl, Nat.le_of_ble_eq_true rfl⟩ 0 rfl rfl rfl hl.1 rfl (Nat.le_of_ble_eq_true rfl) dX7_shift_36 ⟨Nat.zero_le _, Nat.zero_le _⟩) hw (fun H locs hw => ?_)
        refine lv_if_ne (tgt := 44) hx hb dX7_shift_39 (by decide) (fun c => ?_) (fun c => ?_)
        · have h := if_f h c
          refine lv_aload_n hx hb dX7_shift_44 rfl (lv_at hl 0 rfl) ?_
          refine lv_iload_n hx hb dX7_shift_45 rfl (lv_at hl 1 rfl) ?_
          refine lv_aload_n hx hb dX7_shift_46 rfl (lv_at hl 0 rfl) ?_
          obtain ⟨r12, hc, h⟩ := bd1_o h
          refine go_i (run_V (As := []) (rest := [.int a0, .ref (q 0)]) hC hw (c_X7_gap l D q k N σ9 r12 hc) kw_330 kw_332 kw_333 kw_246 kw_331 hd_X7_gap ⟨rfl, rfl⟩ ⟨Nat.le_of_ble_eq_true rfl, Nat.le_of_ble_eq_true rfl⟩ 0 rfl rfl rfl hl.1 rfl (Nat.le_of_ble_eq_true rfl) dX7_shift_47 ⟨Nat.zero_le _, Nat.zero_le _⟩) hw (fun H locs hw => ?_)
          obtain ⟨σ13, hc, h⟩ := bd1_o h
          refine go_v (run_V (As := [.int a0, .int r12]) (rest := []) hC hw (c_X7_exchange l D q k N σ9 a0 r12 σ13 hc) kw_334 kw_336 kw_337 kw_246 kw_335 hd_X7_exchange ⟨rfl, rfl⟩ ⟨Nat.le_of_ble_eq_true rfl, Nat.le_of_ble_eq_true rfl⟩ 0 rfl rfl rfl hl.1 rfl (Nat.le_of_ble_eq_true rfl) dX7_shift_50 ⟨Nat.zero_le _, Nat.zero_le _⟩) hw (fun H locs hw => ?_)
          refine lv_iconst (v := 1) hx hb dX7_shift_53 (by decide) ?_
          cases h
          exact ret_z hC (Or.inr rfl) hw dX7_shift_54
        · have h := if_t h c
          refine lv_iconst (v := 0) hx hb dX7_shift_42 (by decide) ?_
          cases h
          exact ret_z hC (Or.inl rfl) hw dX7_shift_43

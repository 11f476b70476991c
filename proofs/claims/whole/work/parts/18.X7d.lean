/-! SlideBoardsModel.isNew(II)Z -/
abbrev rm_X7_isNew : Room := { frames := 2, cells := 0, slots := 0, locals := 44 }
def lp_X7_isNew_33 (N : Nat) (x1 : Int32) (x2 : Int32) : Nat → St → Int32 → Option (Int32 × St)
  | 0, _, _ => none
  | n + 1, σ, x4 => if (8 : Int32) ≤ x4 then (gd (okx (σ.1 6) 10001) (nm (sA σ 6 (σ.1 6) x1) (fun σ4 => gd (okx (σ4.1 6) 10001) (nm (sA σ4 7 (σ4.1 6) x2) (fun σ5 => nm (sI σ5 6 ((σ5.1 6) + (1 : Int32))) (fun σ6 => some ((1 : Int32), σ6))))))) else (gd (okx x4 8) (gd (okx (((8 : Int32) * (σ.1 6)) + x4) 80008) (nm (sA σ 4 (((8 : Int32) * (σ.1 6)) + x4) (ra σ 10 x4)) (fun σ7 => gd (okx x4 8) (gd (okx (((8 : Int32) * (σ7.1 6)) + x4) 80008) (nm (sA σ7 5 (((8 : Int32) * (σ7.1 6)) + x4) (ra σ7 11 x4)) (fun σ8 => nm (x4 + (1 : Int32)) (fun y9 => lp_X7_isNew_33 N x1 x2 n σ8 y9))))))))
set_option maxRecDepth 100000 in
set_option maxHeartbeats 4000000 in
theorem w_X7_isNew_33 {p : Program} {l : Launch} {e : Env} {s : State} {m : MethodId} {below : List Frame} {meth : Method} {c : Code} {args : Array Value} {D : va_G} {q : Nat → Nat} {k : cK} {ws0 : va_W} (hC : Cx p s m meth c cX7_isNew RX7 5 (some .boolean)) (N : Nat) (x1 : Int32) (x2 : Int32) (r : Int32) (σ' : St) :
    ∀ (n : Nat) (σ : St) (x4 : Int32) (H : Heap) (locs : List Loc) (ls : Array Slot), lp_X7_isNew_33 N x1 x2 n σ x4 = some (r, σ') → WH D (MW q k σ) k (AQ ws0) s s.heap H locs → lv_has ls 5 [(0, .ref (q 0)), (1, .int x1), (2, .int x2), (4, .int x4)] → W p l e rm_X7_isNew s m args below meth c H locs 0 0 (MQ below (QR D ws0 (MW q k σ') (some (.int r))) args s 0 0 (AQ ws0)) (F0 m 33 ls []) := by
  have hx := hC.1
  have hb := hC.2.1
  intro n
  induction n with
  | zero =>
    intro σ x4 H locs ls h
    cases h
  | succ n ih =>
    intro σ x4 H locs ls h hw hl
    rw [lp_X7_isNew_33] at h
    refine lv_iload hx hb dX7_isNew_33 (lv_at hl 3 rfl) ?_
    refine lv_bipush (v := 8) hx hb dX7_isNew_35 (by decide) ?_
    refine lv_icmp_ge (tgt := 90) hx hb dX7_isNew_37 (by decide) (fun c => ?_) (fun c => ?_)
    · have h := if_t h c
      refine lv_aload_n hx hb dX7_isNew_90 rfl (lv_at hl 0 rfl) ?_
      refine M_g_X7_29 hC hw dX7_isNew_91 ?_
      refine lv_aload_n hx hb dX7_isNew_94 rfl (lv_at hl 0 rfl) ?_
      refine M_g_X7_149 hC hw dX7_isNew_95 ?_
      refine lv_iload_n hx hb dX7_isNew_98 rfl (lv_at hl 1 rfl) ?_
      obtain ⟨hin, h⟩ := gd_o h
      refine M_st7 hC hw hin dX7_isNew_99 (fun σ4 eσ4 H locs hw => ?_)
      have h := nm_o h σ4 eσ4
      refine lv_aload_n hx hb dX7_isNew_100 rfl (lv_at hl 0 rfl) ?_
      refine M_g_X7_32 hC hw dX7_isNew_101 ?_
      refine lv_aload_n hx hb dX7_isNew_104 rfl (lv_at hl 0 rfl) ?_
      refine M_g_X7_149 hC hw dX7_isNew_105 ?_
      refine lv_iload_n hx hb dX7_isNew_108 rfl (lv_at hl 2 rfl) ?_
      obtain ⟨hin, h⟩ := gd_o h
      refine M_st8 hC hw hin dX7_isNew_109 (fun σ5 eσ5 H locs hw => ?_)
      have h := nm_o h σ5 eσ5
      refine lv_aload_n hx hb dX7_isNew_110 rfl (lv_at hl 0 rfl) ?_
      refine lv_dup hx hb dX7_isNew_111 rfl ?_
      refine M_g_X7_149 hC hw dX7_isNew_112 ?_
      refine lv_iconst (v := 1) hx hb dX7_isNew_115 (by decide) ?_
      refine lv_iadd hx hb dX7_isNew_116 ?_
      refine M_p_X7_149 hC hw dX7_isNew_117 (fun σ6 eσ6 H locs hw => ?_)
      have h := nm_o h σ6 eσ6
      refine lv_iconst (v := 1) hx hb dX7_isNew_120 (by decide) ?_
      cases h
      exact ret_z hC (Or.inr rfl) hw dX7_isNew_121
    · have h := if_f h c
      refine lv_aload_n hx hb dX7_isNew_40 rfl (lv_at hl 0 rfl) ?_
      refine M_g_X7_23 hC hw dX7_isNew_41 ?_
      refine lv_bipush (v := 8) hx hb dX7_isNew_44 (by decide) ?_
      refine lv_aload_n hx hb dX7_isNew_46 rfl (lv_at hl 0 rfl) ?_
      refine M_g_X7_149 hC hw dX7_isNew_47 ?_
      refine lv_imul hx hb dX7_isNew_50 ?_
      refine lv_iload hx hb dX7_isNew_51 (lv_at hl 3 rfl) ?_
      refine lv_iadd hx hb dX7_isNew_53 ?_
      refine lv_aload_n hx hb dX7_isNew_54 rfl (lv_at hl 0 rfl) ?_
      refine M_g_X7_42 hC hw dX7_isNew_55 ?_
      refine lv_iload hx hb dX7_isNew_58 (lv_at hl 3 rfl) ?_
      obtain ⟨hin, h⟩ := gd_o h
      refine M_ld11 hC hw hin dX7_isNew_60 ?_
      obtain ⟨hin, h⟩ := gd_o h
      refine M_st5 hC hw hin dX7_isNew_61 (fun σ7 eσ7 H locs hw => ?_)
      have h := nm_o h σ7 eσ7
      refine lv_aload_n hx hb dX7_isNew_62 rfl (lv_at hl 0 rfl) ?_
      refine M_g_X7_26 hC hw dX7_isNew_63 ?_
      refine lv_bipush (v := 8) hx hb dX7_isNew_66 (by decide) ?_
      refine lv_aload_n hx hb dX7_isNew_68 rfl (lv_at hl 0 rfl) ?_
      refine M_g_X7_149 hC hw dX7_isNew_69 ?_
      refine lv_imul hx hb dX7_isNew_72 ?_
      refine lv_iload hx hb dX7_isNew_73 (lv_at hl 3 rfl) ?_
      refine lv_iadd hx hb dX7_isNew_75 ?_
      refine lv_aload_n hx hb dX7_isNew_76 rfl (lv_at hl 0 rfl) ?_
      refine M_g_X7_45 hC hw dX7_isNew_77 ?_
      refine lv_iload hx hb dX7_isNew_80 (lv_at hl 3 rfl) ?_
      obtain ⟨hin, h⟩ := gd_o h
      refine M_ld12 hC hw hin dX7_isNew_82 ?_
      obtain ⟨hin, h⟩ := gd_o h
      refine M_st6 hC hw hin dX7_isNew_83 (fun σ8 eσ8 H locs hw => ?_)
      have h := nm_o h σ8 eσ8
      obtain ⟨y9, ey9⟩ : ∃ y : Int32, y = x4 + (1 : Int32) := ⟨_, rfl⟩
      have h := nm_o h y9 ey9
      refine lv_iinc (v := y9) (lv' := [(4, .int y9), (0, .ref (q 0)), (1, .int x1), (2, .int x2)]) hx hb dX7_isNew_84 hl (k := 3) rfl (by rw [ey9]; rfl) (by decide) rfl (fun ls hl => ?_)
      refine lv_goto (tgt := 33) hx hb dX7_isNew_87 (by decide) ?_
      exact ih σ8 y9 _ _ ls h hw (lv_sub hl [1, 2, 3, 0] rfl)
def f_X7_isNew (N : Nat) (σ : St) (a0 : Int32) (a1 : Int32) : Option (Int32 × St) :=
  bd1 (f_X7_order N σ) (fun σ1 => bd1 (f_X7_seatOf N σ1) (fun r2 => gd (okx r2 32768) (if (ra σ1 8 r2) < 0 then (gd (okx r2 32768) (nm (sA σ1 8 r2 (σ1.1 6)) (fun σ3 => lp_X7_isNew_33 N a0 a1 N σ3 (0 : Int32)))) else (some ((0 : Int32), σ1)))))
set_option maxRecDepth 100000 in
set_option maxHeartbeats 4000000 in
theorem c_X7_isNew (l : Launch) (D : va_G) (q : Nat → Nat) (k : cK) (N : Nat) (σ : St) (a0 : Int32) (a1 : Int32) (r : Int32) (σ' : St) (h : f_X7_isNew N σ a0 a1 = some (r, σ')) :
    Met l yX7_isNew [.code yX7_isNew cX7_isNew 5 (some .boolean)] rm_X7_isNew (PC D (MW q k σ) k [.ref (q 0), .int a0, .int a1]) (QR D (MW q k σ) (MW q k σ') (some (.int r))) 0 0 (AQ (MW q k σ)) := by
  refine met_of (by decide) (Nat.le_of_ble_eq_true rfl) ?_
  intro p e s m below meth c hC hw ls hl
  have hC : Cx p s m meth c cX7_isNew RX7 5 (some .boolean) := hC
  have hl : lv_has ls 5 [(0, .ref (q 0)), (1, .int a0), (2, .int a1)] := hl
  have hx := hC.1
  have hb := hC.2.1
  unfold f_X7_isNew at h
  refine lv_aload_n hx hb dX7_isNew_0 rfl (lv_at hl 0 rfl) ?_
  obtain ⟨σ1, hc, h⟩ := bd1_o h
  refine go_v (run_V (As := []) (rest := []) hC hw (c_X7_order l D q k N σ σ1 hc) kw_298 kw_300 kw_301 kw_246 kw_299 hd_X7_order ⟨rfl, rfl⟩ ⟨Nat.le_of_ble_eq_true rfl, Nat.le_of_ble_eq_true rfl⟩ 0 rfl rfl rfl hl.1 rfl (Nat.le_of_ble_eq_true rfl) dX7_isNew_1 ⟨Nat.zero_le _, Nat.zero_le _⟩) hw (fun H locs hw => ?_)
  refine lv_aload_n hx hb dX7_isNew_4 rfl (lv_at hl 0 rfl) ?_
  obtain ⟨r2, hc, h⟩ := bd1_o h
  refine go_i (run_V (As := []) (rest := []) hC hw (c_X7_seatOf l D q k N σ1 r2 hc) kw_302 kw_304 kw_305 kw_246 kw_303 hd_X7_seatOf ⟨rfl, rfl⟩ ⟨Nat.le_of_ble_eq_true rfl, Nat.le_of_ble_eq_true rfl⟩ 0 rfl rfl rfl hl.1 rfl (Nat.le_of_ble_eq_true rfl) dX7_isNew_5 ⟨Nat.zero_le _, Nat.zero_le _⟩) hw (fun H locs hw => ?_)
  refine lv_istore_n (lv' := [(3, .int r2), (0, .ref (q 0)), (1, .int a0), (2, .int a1)]) hx hb dX7_isNew_8 rfl hl (by decide) rfl (fun ls hl => ?_)
  refine lv_aload_n hx hb dX7_isNew_9 rfl (lv_at hl 1 rfl) ?_
  refine M_g_X7_36 hC hw dX7_isNew_10 ?_
  refine lv_iload_n hx hb dX7_isNew_13 rfl (lv_at hl 0 rfl) ?_
  obtain ⟨hin, h⟩ := gd_o h
  refine M_ld9 hC hw hin dX7_isNew_14 ?_
  refine lv_if_lt (tgt := 20) hx hb dX7_isNew_15 (by decide) (fun c => ?_) (fun c => ?_)
  · have h := if_t h c
    refine lv_aload_n hx hb dX7_isNew_20 rfl (lv_at hl 1 rfl) ?_
    refine M_g_X7_36 hC hw dX7_isNew_21 ?_
    refine lv_iload_n hx hb dX7_isNew_24 rfl (lv_at hl 0 rfl) ?_
    refine lv_aload_n hx hb dX7_isNew_25 rfl (lv_at hl 1 rfl) ?_
    refine M_g_X7_149 hC hw dX7_isNew_26 ?_
    obtain ⟨hin, h⟩ := gd_o h
    refine M_st9 hC hw hin dX7_isNew_29 (fun σ3 eσ3 H locs hw => ?_)
    have h := nm_o h σ3 eσ3
    refine lv_iconst (v := 0) hx hb dX7_isNew_30 (by decide) ?_
    refine lv_istore (lv' := [(4, .int (0 : Int32)), (3, .int r2), (0, .ref (q 0)), (1, .int a0), (2, .int a1)]) hx hb dX7_isNew_31 hl (by decide) rfl (fun ls hl => ?_)
    exact w_X7_isNew_33 hC N a0 a1 r σ' N σ3 (0 : Int32) _ _ ls h hw (lv_sub hl [2, 3, 4, 0] rfl)
  · have h := if_f h c
    refine lv_iconst (v := 0) hx hb dX7_isNew_18 (by decide) ?_
    cases h
    exact ret_z hC (Or.inl rfl) hw dX7_isNew_19
/-! SlideBoardsModel.load(I)V -/
abbrev rm_X7_load : Room := { frames := 0, cells := 0, slots := 0, locals := 0 }
def lp_X7_load_2 (N : Nat) (x1 : Int32) : Nat → St → Int32 → Option St
  | 0, _, _ => none
  | n + 1, σ, x2 => if (8 : Int32) ≤ x2 then (some σ) else (gd (okx (((8 : Int32) * x1) + x2) 80008) (gd (okx x2 8) (nm (sA σ 10 x2 (ra σ 4 (((8 : Int32) * x1) + x2))) (fun σ1 => nm (x2 + (1 : Int32)) (fun y2 => lp_X7_load_2 N x1 n σ1 y2)))))
set_option maxRecDepth 100000 in
set_option maxHeartbeats 4000000 in
theorem w_X7_load_2 {p : Program} {l : Launch} {e : Env} {s : State} {m : MethodId} {below : List Frame} {meth : Method} {c : Code} {args : Array Value} {D : va_G} {q : Nat → Nat} {k : cK} {ws0 : va_W} (hC : Cx p s m meth c cX7_load RX7 3 none) (N : Nat) (x1 : Int32) (σ' : St) :
    ∀ (n : Nat) (σ : St) (x2 : Int32) (H : Heap) (locs : List Loc) (ls : Array Slot), lp_X7_load_2 N x1 n σ x2 = some σ' → WH D (MW q k σ) k (AQ ws0) s s.heap H locs → lv_has ls 3 [(0, .ref (q 0)), (1, .int x1), (2, .int x2)] → W p l e rm_X7_load s m args below meth c H locs 0 0 (MQ below (QR D ws0 (MW q k σ') none) args s 0 0 (AQ ws0)) (F0 m 2 ls []) := by
  have hx := hC.1
  have hb := hC.2.1
  intro n
  induction n with
  | zero =>
    intro σ x2 H locs ls h
    cases h
  | succ n ih =>
    intro σ x2 H locs ls h hw hl
    rw [lp_X7_load_2] at h
    refine lv_iload_n hx hb dX7_load_2 rfl (lv_at hl 2 rfl) ?_
    refine lv_bipush (v := 8) hx hb dX7_load_3 (by decide) ?_
    refine lv_icmp_ge (tgt := 31) hx hb dX7_load_5 (by decide) (fun c => ?_) (fun c => ?_)
    · have h := if_t h c
      cases h
      exact ret_v hC hw dX7_load_31
    · have h := if_f h c
      refine lv_aload_n hx hb dX7_load_8 rfl (lv_at hl 0 rfl) ?_
      refine M_g_X7_42 hC hw dX7_load_9 ?_
      refine lv_iload_n hx hb dX7_load_12 rfl (lv_at hl 2 rfl) ?_
      refine lv_aload_n hx hb dX7_load_13 rfl (lv_at hl 0 rfl) ?_
      refine M_g_X7_23 hC hw dX7_load_14 ?_
      refine lv_bipush (v := 8) hx hb dX7_load_17 (by decide) ?_
      refine lv_iload_n hx hb dX7_load_19 rfl (lv_at hl 1 rfl) ?_
      refine lv_imul hx hb dX7_load_20 ?_
      refine lv_iload_n hx hb dX7_load_21 rfl (lv_at hl 2 rfl) ?_
      refine lv_iadd hx hb dX7_load_22 ?_
      obtain ⟨hin, h⟩ := gd_o h
      refine M_ld5 hC hw hin dX7_load_23 ?_
      obtain ⟨hin, h⟩ := gd_o h
      refine M_st11 hC hw hin dX7_load_24 (fun σ1 eσ1 H locs hw => ?_)
      have h := nm_o h σ1 eσ1
      obtain ⟨y2, ey2⟩ : ∃ y : Int32, y = x2 + (1 : Int32) := ⟨_, rfl⟩
      have h := nm_o h y2 ey2
      refine lv_iinc (v := y2) (lv' := [(2, .int y2), (0, .ref (q 0)), (1, .int x1)]) hx hb dX7_load_25 hl (k := 2) rfl (by rw [ey2]; rfl) (by decide) rfl (fun ls hl => ?_)
      refine lv_goto (tgt := 2) hx hb dX7_load_28 (by decide) ?_
      exact ih σ1 y2 _ _ ls h hw (lv_sub hl [1, 2, 0] rfl)
def f_X7_load (N : Nat) (σ : St) (a0 : Int32) : Option St :=
  lp_X7_load_2 N a0 N σ (0 : Int32)
set_option maxRecDepth 100000 in
set_option maxHeartbeats 4000000 in
theorem c_X7_load (l : Launch) (D : va_G) (q : Nat → Nat) (k : cK) (N : Nat) (σ : St) (a0 : Int32) (σ' : St) (h : f_X7_load N σ a0 = some σ') :
    Met l yX7_load [.code yX7_load cX7_load 3 none] rm_X7_load (PC D (MW q k σ) k [.ref (q 0), .int a0]) (QR D (MW q k σ) (MW q k σ') none) 0 0 (AQ (MW q k σ)) := by
  refine met_of (by decide) (Nat.le_of_ble_eq_true rfl) ?_
  intro p e s m below meth c hC hw ls hl
  have hC : Cx p s m meth c cX7_load RX7 3 none := hC
  have hl : lv_has ls 3 [(0, .ref (q 0)), (1, .int a0)] := hl
  have hx := hC.1
  have hb := hC.2.1
  unfold f_X7_load at h
  refine lv_iconst (v := 0) hx hb dX7_load_0 (by decide) ?_
  refine lv_istore_n (lv' := [(2, .int (0 : Int32)), (0, .ref (q 0)), (1, .int a0)]) hx hb dX7_load_1 rfl hl (by decide) rfl (fun ls hl => ?_)
  exact w_X7_load_2 hC N a0 σ' N σ (0 : Int32) _ _ ls h hw (lv_sub hl [1, 2, 0] rfl)
/-! SlideBoardsModel.stepped([III)I -/
abbrev rm_X7_stepped_a11 : Room := { frames := 2, cells := 0, slots := 0, locals := 47 }
def lp_X7_stepped_a11_19 (N : Nat) (σ : St) (x2 : Int32) (x4 : Int32) : Nat → Int32 → Int32 → Option Int32
  | 0, _, _ => none
  | n + 1, x5, x6 => if (σ.1 4) ≤ x6 then (if (x4 &&& x5) = 0 then (some x4) else (some (0 : Int32))) else (if x6 = x2 then (nm (x5 ||| (0 : Int32)) (fun y5 => nm (x6 + (1 : Int32)) (fun y6 => lp_X7_stepped_a11_19 N σ x2 x4 n y5 y6))) else (gd (okx x6 8) (nm (x5 ||| (ra σ 10 x6)) (fun y3 => nm (x6 + (1 : Int32)) (fun y4 => lp_X7_stepped_a11_19 N σ x2 x4 n y3 y4)))))
set_option maxRecDepth 100000 in
set_option maxHeartbeats 4000000 in
theorem w_X7_stepped_a11_19 {p : Program} {l : Launch} {e : Env} {s : State} {m : MethodId} {below : List Frame} {meth : Method} {c : Code} {args : Array Value} {D : va_G} {q : Nat → Nat} {k : cK} {ws0 : va_W} (hC : Cx p s m meth c cX7_stepped RX7 7 (some .int)) (N : Nat) (σ : St) (x2 : Int32) (x4 : Int32) (r : Int32) :
    ∀ (n : Nat) (x5 : Int32) (x6 : Int32) (H : Heap) (locs : List Loc) (ls : Array Slot), lp_X7_stepped_a11_19 N σ x2 x4 n x5 x6 = some r → WH D (MW q k σ) k (AQ ws0) s s.heap H locs → lv_has ls 7 [(0, .ref (q 0)), (1, .ref (q 11)), (2, .int x2), (4, .int x4), (5, .int x5), (6, .int x6)] → W p l e rm_X7_stepped_a11 s m args below meth c H locs 0 0 (MQ below (QR D ws0 (MW q k σ) (some (.int r))) args s 0 0 (AQ ws0)) (F0 m 19 ls []) := by
  have hx := hC.1
  have hb := hC.2.1
  intro n
  induction n with
  | zero =>
    intro x5 x6 H locs ls h
    cases h
  | succ n ih =>
    intro x5 x6 H locs ls h hw hl
    rw [lp_X7_stepped_a11_19] at h
    refine lv_iload hx hb dX7_stepped_19 (lv_at hl 5 rfl) ?_
    refine lv_aload_n hx hb dX7_stepped_21 rfl (lv_at hl 0 rfl) ?_
    refine M_g_X7_84 hC hw dX7_stepped_22 ?_
    refine lv_icmp_ge (tgt := 53) hx hb dX7_stepped_25 (by decide) (fun c => ?_) (fun c => ?_)
    · have h := if_t h c
      refine lv_iload hx hb dX7_stepped_53 (lv_at hl 3 rfl) ?_
      refine lv_iload hx hb dX7_stepped_55 (lv_at hl 4 rfl) ?_
      refine lv_iand hx hb dX7_stepped_57 ?_
      refine lv_if_eq (tgt := 65) hx hb dX7_stepped_58 (by decide) (fun c => ?_) (fun c => ?_)
      · have h := if_t h c
        refine lv_iload hx hb dX7_stepped_65 (lv_at hl 3 rfl) ?_
        cases h
        exact ret_i hC hw dX7_stepped_67
      · have h := if_f h c
        refine lv_iconst (v := 0) hx hb dX7_stepped_61 (by decide) ?_
        refine lv_goto (tgt := 67) hx hb dX7_stepped_62 (by decide) ?_
        cases h
        exact ret_i hC hw dX7_stepped_67
    · have h := if_f h c
      refine lv_iload hx hb dX7_stepped_28 (lv_at hl 4 rfl) ?_
      refine lv_iload hx hb dX7_stepped_30 (lv_at hl 5 rfl) ?_
      refine lv_iload_n hx hb dX7_stepped_32 rfl (lv_at hl 2 rfl) ?_
      refine lv_icmp_ne (tgt := 40) hx hb dX7_stepped_33 (by decide) (fun c => ?_) (fun c => ?_)
      · have h := if_f h c
        refine lv_aload_n hx hb dX7_stepped_40 rfl (lv_at hl 1 rfl) ?_
        refine lv_iload hx hb dX7_stepped_41 (lv_at hl 5 rfl) ?_
        obtain ⟨hin, h⟩ := gd_o h
        refine M_ld11 hC hw hin dX7_stepped_43 ?_
        refine lv_ior hx hb dX7_stepped_44 ?_
        refine lv_topi (fun y3 ey3 => ?_)
        have h := nm_o h y3 ey3
        refine lv_istore (lv' := [(5, .int y3), (0, .ref (q 0)), (1, .ref (q 11)), (2, .int x2), (4, .int x4), (6, .int x6)]) hx hb dX7_stepped_45 hl (by decide) rfl (fun ls hl => ?_)
        obtain ⟨y4, ey4⟩ : ∃ y : Int32, y = x6 + (1 : Int32) := ⟨_, rfl⟩
        have h := nm_o h y4 ey4
        refine lv_iinc (v := y4) (lv' := [(6, .int y4), (5, .int y3), (0, .ref (q 0)), (1, .ref (q 11)), (2, .int x2), (4, .int x4)]) hx hb dX7_stepped_47 hl (k := 5) rfl (by rw [ey4]; rfl) (by decide) rfl (fun ls hl => ?_)
        refine lv_goto (tgt := 19) hx hb dX7_stepped_50 (by decide) ?_
        exact ih y3 y4 _ _ ls h hw (lv_sub hl [2, 3, 4, 5, 1, 0] rfl)
      · have h := if_t h c
        refine lv_iconst (v := 0) hx hb dX7_stepped_36 (by decide) ?_
        refine lv_goto (tgt := 44) hx hb dX7_stepped_37 (by decide) ?_
        refine lv_ior hx hb dX7_stepped_44 ?_
        refine lv_topi (fun y5 ey5 => ?_)
        have h := nm_o h y5 ey5
        refine lv_istore (lv' := [(5, .int y5), (0, .ref (q 0)), (1, .ref (q 11)), (2, .int x2), (4, .int x4), (6, .int x6)]) hx hb dX7_stepped_45 hl (by decide) rfl (fun ls hl => ?_)
        obtain ⟨y6, ey6⟩ : ∃ y : Int32, y = x6 + (1 : Int32) := ⟨_, rfl⟩
        have h := nm_o h y6 ey6
        refine lv_iinc (v := y6) (lv' := [(6, .int y6), (5, .int y5), (0, .ref (q 0)), (1, .ref (q 11)), (2, .int x2), (4, .int x4)]) hx hb dX7_stepped_47 hl (k := 5) rfl (by rw [ey6]; rfl) (by decide) rfl (fun ls hl => ?_)
        refine lv_goto (tgt := 19) hx hb dX7_stepped_50 (by decide) ?_
        exact ih y5 y6 _ _ ls h hw (lv_sub hl [2, 3, 4, 5, 1, 0] rfl)
def f_X7_stepped_a11 (N : Nat) (σ : St) (a1 : Int32) (a2 : Int32) : Option Int32 :=
  gd (okx a1 8) (bd1 (f_X7_moved N σ (ra σ 10 a1) a2) (fun r1 => nm (σ.1 3) (fun y2 => lp_X7_stepped_a11_19 N σ a1 r1 N y2 (0 : Int32))))
set_option maxRecDepth 100000 in
set_option maxHeartbeats 4000000 in
theorem c_X7_stepped_a11 (l : Launch) (D : va_G) (q : Nat → Nat) (k : cK) (N : Nat) (σ : St) (a1 : Int32) (a2 : Int32) (r : Int32) (h : f_X7_stepped_a11 N σ a1 a2 = some r) :
    Met l yX7_stepped [.code yX7_stepped cX7_stepped 7 (some .int)] rm_X7_stepped_a11 (PC D (MW q k σ) k [.ref (q 0), .ref (q 11), .int a1, .int a2]) (QR D (MW q k σ) (MW q k σ) (some (.int r))) 0 0 (AQ (MW q k σ)) := by
  refine met_of (by decide) (Nat.le_of_ble_eq_true rfl) ?_
  intro p e s m below meth c hC hw ls hl
  have hC : Cx p s m meth c cX7_stepped RX7 7 (some .int) := hC
  have hl : lv_has ls 7 [(0, .ref (q 0)), (1, .ref (q 11)), (2, .int a1), (3, .int a2)] := hl
  have hx := hC.1
  have hb := hC.2.1
  unfold f_X7_stepped_a11 at h
  refine lv_aload_n hx hb dX7_stepped_0 rfl (lv_at hl 0 rfl) ?_
  refine lv_aload_n hx hb dX7_stepped_1 rfl (lv_at hl 1 rfl) ?_
  refine lv_iload_n hx hb dX7_stepped_2 rfl (lv_at hl 2 rfl) ?_
  obtain ⟨hin, h⟩ := gd_o h
  refine M_ld11 hC hw hin dX7_stepped_3 ?_
  refine lv_iload_n hx hb dX7_stepped_4 rfl (lv_at hl 3 rfl) ?_
  obtain ⟨r1, hc, h⟩ := bd1_o h
  refine go_i (run_V (As := [.int (ra σ 10 a1), .int a2]) (rest := []) hC hw (c_X7_moved l D q k N σ (ra σ 10 a1) a2 r1 hc) kw_265 kw_267 kw_268 kw_246 kw_266 hd_X7_moved ⟨rfl, rfl⟩ ⟨Nat.le_of_ble_eq_true rfl, Nat.le_of_ble_eq_true rfl⟩ 0 rfl rfl rfl hl.1 rfl (Nat.le_of_ble_eq_true rfl) dX7_stepped_5 ⟨Nat.zero_le _, Nat.zero_le _⟩) hw (fun H locs hw => ?_)
  refine lv_istore (lv' := [(4, .int r1), (0, .ref (q 0)), (1, .ref (q 11)), (2, .int a1), (3, .int a2)]) hx hb dX7_stepped_8 hl (by decide) rfl (fun ls hl => ?_)
  refine lv_aload_n hx hb dX7_stepped_10 rfl (lv_at hl 1 rfl) ?_
  refine M_g_X7_87 hC hw dX7_stepped_11 ?_
  refine lv_topi (fun y2 ey2 => ?_)
  have h := nm_o h y2 ey2
  refine lv_istore (lv' := [(5, .int y2), (4, .int r1), (0, .ref (q 0)), (1, .ref (q 11)), (2, .int a1), (3, .int a2)]) hx hb dX7_stepped_14 hl (by decide) rfl (fun ls hl => ?_)
  refine lv_iconst (v := 0) hx hb dX7_stepped_16 (by decide) ?_
  refine lv_istore (lv' := [(6, .int (0 : Int32)), (5, .int y2), (4, .int r1), (0, .ref (q 0)), (1, .ref (q 11)), (2, .int a1), (3, .int a2)]) hx hb dX7_stepped_17 hl (by decide) rfl (fun ls hl => ?_)
  exact w_X7_stepped_a11_19 hC N σ a1 r1 r N y2 (0 : Int32) _ _ ls h hw (lv_sub hl [3, 4, 5, 2, 1, 0] rfl)
/-! SlideBoardsModel.isMet(I[I)Z -/
abbrev rm_X7_isMet_a11 : Room := { frames := 1, cells := 0, slots := 0, locals := 21 }
def lp_X7_isMet_a11_2 (N : Nat) (σ : St) (x1 : Int32) : Nat → Int32 → Option Int32
  | 0, _ => none
  | n + 1, x3 => if (σ.1 4) ≤ x3 then (some (0 : Int32)) else (gd (okx x1 6) (if (ra σ 2 x1) = x3 then (gd (okx x3 8) (bd1 (f_X7_placeOf N σ (ra σ 10 x3)) (fun r1 => gd (okx x1 6) (if r1 = (ra σ 3 x1) then (some (1 : Int32)) else (nm (x3 + (1 : Int32)) (fun y2 => lp_X7_isMet_a11_2 N σ x1 n y2)))))) else (gd (okx x1 6) (gd (okx x3 8) (if (ra σ 2 x1) = ((100 : Int32) + (ra σ 0 x3)) then (gd (okx x3 8) (bd1 (f_X7_placeOf N σ (ra σ 10 x3)) (fun r4 => gd (okx x1 6) (if r4 = (ra σ 3 x1) then (some (1 : Int32)) else (nm (x3 + (1 : Int32)) (fun y5 => lp_X7_isMet_a11_2 N σ x1 n y5)))))) else (nm (x3 + (1 : Int32)) (fun y3 => lp_X7_isMet_a11_2 N σ x1 n y3)))))))
set_option maxRecDepth 100000 in
set_option maxHeartbeats 4000000 in
theorem w_X7_isMet_a11_2 {p : Program} {l : Launch} {e : Env} {s : State} {m : MethodId} {below : List Frame} {meth : Method} {c : Code} {args : Array Value} {D : va_G} {q : Nat → Nat} {k : cK} {ws0 : va_W} (hC : Cx p s m meth c cX7_isMet RX7 4 (some .boolean)) (N : Nat) (σ : St) (x1 : Int32) (r : Int32) :
    ∀ (n : Nat) (x3 : Int32) (H : Heap) (locs : List Loc) (ls : Array Slot), lp_X7_isMet_a11_2 N σ x1 n x3 = some r → WH D (MW q k σ) k (AQ ws0) s s.heap H locs → lv_has ls 4 [(0, .ref (q 0)), (1, .int x1), (2, .ref (q 11)), (3, .int x3)] → W p l e rm_X7_isMet_a11 s m args below meth c H locs 0 0 (MQ below (QR D ws0 (MW q k σ) (some (.int r))) args s 0 0 (AQ ws0)) (F0 m 2 ls []) := by
  have hx := hC.1
  have hb := hC.2.1
  intro n
  induction n with
  | zero =>
    intro x3 H locs ls h
    cases h
  | succ n ih =>
    intro x3 H locs ls h hw hl
    rw [lp_X7_isMet_a11_2] at h
    refine lv_iload_n hx hb dX7_isMet_2 rfl (lv_at hl 3 rfl) ?_
    refine lv_aload_n hx hb dX7_isMet_3 rfl (lv_at hl 0 rfl) ?_
    refine M_g_X7_84 hC hw dX7_isMet_4 ?_
    refine lv_icmp_ge (tgt := 61) hx hb dX7_isMet_7 (by decide) (fun c => ?_) (fun c => ?_)
    · have h := if_t h c
      refine lv_iconst (v := 0) hx hb dX7_isMet_61 (by decide) ?_
      cases h
      exact ret_z hC (Or.inl rfl) hw dX7_isMet_62
    · have h := if_f h c
      refine lv_aload_n hx hb dX7_isMet_10 rfl (lv_at hl 0 rfl) ?_
      refine M_g_X7_16 hC hw dX7_isMet_11 ?_
      refine lv_iload_n hx hb dX7_isMet_14 rfl (lv_at hl 1 rfl) ?_
      obtain ⟨hin, h⟩ := gd_o h
      refine M_ld3 hC hw hin dX7_isMet_15 ?_
      refine lv_iload_n hx hb dX7_isMet_16 rfl (lv_at hl 3 rfl) ?_
      refine lv_icmp_eq (tgt := 38) hx hb dX7_isMet_17 (by decide) (fun c => ?_) (fun c => ?_)
      · have h := if_t h c
        refine lv_aload_n hx hb dX7_isMet_38 rfl (lv_at hl 2 rfl) ?_
        refine lv_iload_n hx hb dX7_isMet_39 rfl (lv_at hl 3 rfl) ?_
        obtain ⟨hin, h⟩ := gd_o h
        refine M_ld11 hC hw hin dX7_isMet_40 ?_
        obtain ⟨r1, hc, h⟩ := bd1_o h
        refine go_i (run_S (As := [.int (ra σ 10 x3)]) (rest := []) hC hw (c_X7_placeOf l D q k N σ (ra σ 10 x3) r1 hc) kw_262 kw_264 kw_246 kw_263 hd_X7_placeOf ⟨rfl, rfl⟩ ⟨Nat.le_of_ble_eq_true rfl, Nat.le_of_ble_eq_true rfl⟩ rfl hl.1 rfl (Nat.le_of_ble_eq_true rfl) dX7_isMet_41 ⟨Nat.zero_le _, Nat.zero_le _⟩) hw (fun H locs hw => ?_)
        refine lv_aload_n hx hb dX7_isMet_44 rfl (lv_at hl 0 rfl) ?_
        refine M_g_X7_19 hC hw dX7_isMet_45 ?_
        refine lv_iload_n hx hb dX7_isMet_48 rfl (lv_at hl 1 rfl) ?_
        obtain ⟨hin, h⟩ := gd_o h
        refine M_ld4 hC hw hin dX7_isMet_49 ?_
        refine lv_icmp_ne (tgt := 55) hx hb dX7_isMet_50 (by decide) (fun c => ?_) (fun c => ?_)
        · have h := if_f h c
          obtain ⟨y2, ey2⟩ : ∃ y : Int32, y = x3 + (1 : Int32) := ⟨_, rfl⟩
          have h := nm_o h y2 ey2
          refine lv_iinc (v := y2) (lv' := [(3, .int y2), (0, .ref (q 0)), (1, .int x1), (2, .ref (q 11))]) hx hb dX7_isMet_55 hl (k := 3) rfl (by rw [ey2]; rfl) (by decide) rfl (fun ls hl => ?_)
          refine lv_goto (tgt := 2) hx hb dX7_isMet_58 (by decide) ?_
          exact ih y2 _ _ ls h hw (lv_sub hl [1, 2, 3, 0] rfl)
        · have h := if_t h c
          refine lv_iconst (v := 1) hx hb dX7_isMet_53 (by decide) ?_
          cases h
          exact ret_z hC (Or.inr rfl) hw dX7_isMet_54
      · have h := if_f h c
        refine lv_aload_n hx hb dX7_isMet_20 rfl (lv_at hl 0 rfl) ?_
        refine M_g_X7_16 hC hw dX7_isMet_21 ?_
        refine lv_iload_n hx hb dX7_isMet_24 rfl (lv_at hl 1 rfl) ?_
        obtain ⟨hin, h⟩ := gd_o h
        refine M_ld3 hC hw hin dX7_isMet_25 ?_
        refine lv_bipush (v := 100) hx hb dX7_isMet_26 (by decide) ?_
        refine lv_aload_n hx hb dX7_isMet_28 rfl (lv_at hl 0 rfl) ?_
        refine M_g_X7_7 hC hw dX7_isMet_29 ?_
        refine lv_iload_n hx hb dX7_isMet_32 rfl (lv_at hl 3 rfl) ?_
        obtain ⟨hin, h⟩ := gd_o h
        refine M_ld1 hC hw hin dX7_isMet_33 ?_
        refine lv_iadd hx hb dX7_isMet_34 ?_
        refine lv_icmp_ne (tgt := 55) hx hb dX7_isMet_35 (by decide) (fun c => ?_) (fun c => ?_)
        · have h := if_f h c
          obtain ⟨y3, ey3⟩ : ∃ y : Int32, y = x3 + (1 : Int32) := ⟨_, rfl⟩
          have h := nm_o h y3 ey3
          refine lv_iinc (v := y3) (lv' := [(3, .int y3), (0, .ref (q 0)), (1, .int x1), (2, .ref (q 11))]) hx hb dX7_isMet_55 hl (k := 3) rfl (by rw [ey3]; rfl) (by decide) rfl (fun ls hl => ?_)
          refine lv_goto (tgt := 2) hx hb dX7_isMet_58 (by decide) ?_
          exact ih y3 _ _ ls h hw (lv_sub hl [1, 2, 3, 0] rfl)
        · have h := if_t h c
          refine lv_aload_n hx hb dX7_isMet_38 rfl (lv_at hl 2 rfl) ?_
          refine lv_iload_n hx hb dX7_isMet_39 rfl (lv_at hl 3 rfl) ?_
          obtain ⟨hin, h⟩ := gd_o h
          refine M_ld11 hC hw hin dX7_isMet_40 ?_
          obtain ⟨r4, hc, h⟩ := bd1_o h
          refine go_i (run_S (As := [.int (ra σ 10 x3)]) (rest := []) hC hw (c_X7_placeOf l D q k N σ (ra σ 10 x3) r4 hc) kw_262 kw_264 kw_246 kw_263 hd_X7_placeOf ⟨rfl, rfl⟩ ⟨Nat.le_of_ble_eq_true rfl, Nat.le_of_ble_eq_true rfl⟩ rfl hl.1 rfl (Nat.le_of_ble_eq_true rfl) dX7_isMet_41 ⟨Nat.zero_le _, Nat.zero_le _⟩) hw (fun H locs hw => ?_)
          refine lv_aload_n hx hb dX7_isMet_44 rfl (lv_at hl 0 rfl) ?_
          refine M_g_X7_19 hC hw dX7_isMet_45 ?_
          refine lv_iload_n hx hb dX7_isMet_48 rfl (lv_at hl 1 rfl) ?_
          obtain ⟨hin, h⟩ := gd_o h
          refine M_ld4 hC hw hin dX7_isMet_49 ?_
          refine lv_icmp_ne (tgt := 55) hx hb dX7_isMet_50 (by decide) (fun c => ?_) (fun c => ?_)
          · have h := if_f h c
            obtain ⟨y5, ey5⟩ : ∃ y : Int32, y = x3 + (1 : Int32) := ⟨_, rfl⟩
            have h := nm_o h y5 ey5
            refine lv_iinc (v := y5) (lv' := [(3, .int y5), (0, .ref (q 0)), (1, .int x1), (2, .ref (q 11))]) hx hb dX7_isMet_55 hl (k := 3) rfl (by rw [ey5]; rfl) (by decide) rfl (fun ls hl => ?_)
            refine lv_goto (tgt := 2) hx hb dX7_isMet_58 (by decide) ?_
            exact ih y5 _ _ ls h hw (lv_sub hl [1, 2, 3, 0] rfl)
          · have h := if_t h c
            refine lv_iconst (v := 1) hx hb dX7_isMet_53 (by decide) ?_
            cases h
            exact ret_z hC (Or.inr rfl) hw dX7_isMet_54
def f_X7_isMet_a11 (N : Nat) (σ : St) (a0 : Int32) : Option Int32 :=
  lp_X7_isMet_a11_2 N σ a0 N (0 : Int32)
set_option maxRecDepth 100000 in
set_option maxHeartbeats 4000000 in
theorem c_X7_isMet_a11 (l : Launch) (D : va_G) (q : Nat → Nat) (k : cK) (N : Nat) (σ : St) (a0 : Int32) (r : Int32) (h : f_X7_isMet_a11 N σ a0 = some r) :
    Met l yX7_isMet [.code yX7_isMet cX7_isMet 4 (some .boolean)] rm_X7_isMet_a11 (PC D (MW q k σ) k [.ref (q 0), .int a0, .ref (q 11)]) (QR D (MW q k σ) (MW q k σ) (some (.int r))) 0 0 (AQ (MW q k σ)) := by
  refine met_of (by decide) (Nat.le_of_ble_eq_true rfl) ?_
  intro p e s m below meth c hC hw ls hl
  have hC : Cx p s m meth c cX7_isMet RX7 4 (some .boolean) := hC
  have hl : lv_has ls 4 [(0, .ref (q 0)), (1, .int a0), (2, .ref (q 11))] := hl
  have hx := hC.1
  have hb := hC.2.1
  unfold f_X7_isMet_a11 at h
  refine lv_iconst (v := 0) hx hb dX7_isMet_0 (by decide) ?_
  refine lv_istore_n (lv' := [(3, .int (0 : Int32)), (0, .ref (q 0)), (1, .int a0), (2, .ref (q 11))]) hx hb dX7_isMet_1 rfl hl (by decide) rfl (fun ls hl => ?_)
  exact w_X7_isMet_a11_2 hC N σ a0 r N (0 : Int32) _ _ ls h hw (lv_sub hl [1, 2, 3, 0] rfl)
/-! SlideBoardsModel.openIn([I)I -/
abbrev rm_X7_openIn_a11 : Room := { frames := 2, cells := 0, slots := 0, locals := 44 }
def lp_X7_openIn_a11_2 (N : Nat) (σ : St) : Nat → Int32 → Option Int32
  | 0, _ => none
  | n + 1, x2 => if (σ.1 5) ≤ x2 then (some (-1 : Int32)) else (bd1 (f_X7_isMet_a11 N σ x2) (fun r1 => if r1 = 0 then (some x2) else (nm (x2 + (1 : Int32)) (fun y2 => lp_X7_openIn_a11_2 N σ n y2))))
set_option maxRecDepth 100000 in
set_option maxHeartbeats 4000000 in
theorem w_X7_openIn_a11_2 {p : Program} {l : Launch} {e : Env} {s : State} {m : MethodId} {below : List Frame} {meth : Method} {c : Code} {args : Array Value} {D : va_G} {q : Nat → Nat} {k : cK} {ws0 : va_W} (hC : Cx p s m meth c cX7_openIn RX7 3 (some .int)) (N : Nat) (σ : St) (r : Int32) :
    ∀ (n : Nat) (x2 : Int32) (H : Heap) (locs : List Loc) (ls : Array Slot), lp_X7_openIn_a11_2 N σ n x2 = some r → WH D (MW q k σ) k (AQ ws0) s s.heap H locs → lv_has ls 3 [(0, .ref (q 0)), (1, .ref (q 11)), (2, .int x2)] → W p l e rm_X7_openIn_a11 s m args below meth c H locs 0 0 (MQ below (QR D ws0 (MW q k σ) (some (.int r))) args s 0 0 (AQ ws0)) (F0 m 2 ls []) := by
  have hx := hC.1
  have hb := hC.2.1
  intro n
  induction n with
  | zero =>
    intro x2 H locs ls h
    cases h
  | succ n ih =>
    intro x2 H locs ls h hw hl
    rw [lp_X7_openIn_a11_2] at h
    refine lv_iload_n hx hb dX7_openIn_2 rfl (lv_at hl 2 rfl) ?_
    refine lv_aload_n hx hb dX7_openIn_3 rfl (lv_at hl 0 rfl) ?_
    refine M_g_X7_122 hC hw dX7_openIn_4 ?_
    refine lv_icmp_ge (tgt := 27) hx hb dX7_openIn_7 (by decide) (fun c => ?_) (fun c => ?_)
    · have h := if_t h c
      refine lv_iconst (v := -1) hx hb dX7_openIn_27 (by decide) ?_
      cases h
      exact ret_i hC hw dX7_openIn_28
    · have h := if_f h c
      refine lv_aload_n hx hb dX7_openIn_10 rfl (lv_at hl 0 rfl) ?_
      refine lv_iload_n hx hb dX7_openIn_11 rfl (lv_at hl 2 rfl) ?_
      refine lv_aload_n hx hb dX7_openIn_12 rfl (lv_at hl 1 rfl) ?_
      obtain ⟨r1, hc, h⟩ := bd1_o h
      refine go_i (run_V (As := [.int x2, .ref (q 11)]) (rest := []) hC hw (c_X7_isMet_a11 l D q k N σ x2 r1 hc) kw_277 kw_279 kw_280 kw_246 kw_278 hd_X7_isMet ⟨rfl, rfl⟩ ⟨Nat.le_of_ble_eq_true rfl, Nat.le_of_ble_eq_true rfl⟩ 0 rfl rfl rfl hl.1 rfl (Nat.le_of_ble_eq_true rfl) dX7_openIn_13 ⟨Nat.zero_le _, Nat.zero_le _⟩) hw (fun H locs hw => ?_)
      refine lv_if_ne (tgt := 21) hx hb dX7_openIn_16 (by decide) (fun c => ?_) (fun c => ?_)
      · have h := if_f h c
        obtain ⟨y2, ey2⟩ : ∃ y : Int32, y = x2 + (1 : Int32) := ⟨_, rfl⟩
        have h := nm_o h y2 ey2
        refine lv_iinc (v := y2) (lv' := [(2, .int y2), (0, .ref (q 0)), (1, .ref (q 11))]) hx hb dX7_openIn_21 hl (k := 2) rfl (by rw [ey2]; rfl) (by decide) rfl (fun ls hl => ?_)
        refine lv_goto (tgt := 2) hx hb dX7_openIn_24 (by decide) ?_
        exact ih y2 _ _ ls h hw (lv_sub hl [1, 2, 0] rfl)
      · have h := if_t h c
        refine lv_iload_n hx hb dX7_openIn_19 rfl (lv_at hl 2 rfl) ?_
        cases h
        exact ret_i hC hw dX7_openIn_20
def f_X7_openIn_a11 (N : Nat) (σ : St) : Option Int32 :=
  lp_X7_openIn_a11_2 N σ N (0 : Int32)
set_option maxRecDepth 100000 in
set_option maxHeartbeats 4000000 in
theorem c_X7_openIn_a11 (l : Launch) (D : va_G) (q : Nat → Nat) (k : cK) (N : Nat) (σ : St) (r : Int32) (h : f_X7_openIn_a11 N σ = some r) :
    Met l yX7_openIn [.code yX7_openIn cX7_openIn 3 (some .int)] rm_X7_openIn_a11 (PC D (MW q k σ) k [.ref (q 0), .ref (q 11)]) (QR D (MW q k σ) (MW q k σ) (some (.int r))) 0 0 (AQ (MW q k σ)) := by
  refine met_of (by decide) (Nat.le_of_ble_eq_true rfl) ?_
  intro p e s m below meth c hC hw ls hl
  have hC : Cx p s m meth c cX7_openIn RX7 3 (some .int) := hC
  have hl : lv_has ls 3 [(0, .ref (q 0)), (1, .ref (q 11))] := hl
  have hx := hC.1
  have hb := hC.2.1
  unfold f_X7_openIn_a11 at h
  refine lv_iconst (v := 0) hx hb dX7_openIn_0 (by decide) ?_
  refine lv_istore_n (lv' := [(2, .int (0 : Int32)), (0, .ref (q 0)), (1, .ref (q 11))]) hx hb dX7_openIn_1 rfl hl (by decide) rfl (fun ls hl => ?_)
  exact w_X7_openIn_a11_2 hC N σ r N (0 : Int32) _ _ ls h hw (lv_sub hl [1, 2, 0] rfl)
/-! SlideBoardsModel.spread(IIZ)I -/
abbrev rm_X7_spread : Room := { frames := 4, cells := 0, slots := 0, locals := 96 }
def jn_X7_spread_180 (N : Nat) (σ : St) (x1 : Int32) (x2 : Int32) (x3 : Int32) (x4 : Int32) (x5 : Int32) (x6 : Int32) (x8 : Int32) (x9 : Int32) (w0 : Int32) (K144 : St → Int32 → Int32 → Option (Int32 × St)) : Option (Int32 × St) :=
  if x9 = 0 then (nm (x8 + (1 : Int32)) (fun y17 => K144 σ w0 y17)) else (gd (okx x6 8) (nm (sA σ 10 x6 x9) (fun σ10 => bd (f_X7_isNew N σ10 x4 (((32 : Int32) * x8) + x5)) (fun r11 σ12 => if r11 = 0 then (nm (x8 + (1 : Int32)) (fun y16 => K144 σ12 w0 y16)) else (if (σ12.1 6) ≤ x2 then (if x3 = 0 then (nm (x8 + (1 : Int32)) (fun y13 => K144 σ12 w0 y13)) else (bd1 (f_X7_openIn_a11 N σ12) (fun r14 => if 0 ≤ r14 then (nm (x8 + (1 : Int32)) (fun y15 => K144 σ12 w0 y15)) else (some ((σ12.1 6) - (1 : Int32), σ12))))) else (some ((-2 : Int32), σ12)))))))
set_option maxRecDepth 100000 in
set_option maxHeartbeats 4000000 in
theorem w_X7_spread_180 {p : Program} {l : Launch} {e : Env} {s : State} {m : MethodId} {below : List Frame} {meth : Method} {c : Code} {args : Array Value} {D : va_G} {q : Nat → Nat} {k : cK} {ws0 : va_W} (hC : Cx p s m meth c cX7_spread RX7 10 (some .int)) (N : Nat) (σ : St) (x1 : Int32) (x2 : Int32) (x3 : Int32) (x4 : Int32) (x5 : Int32) (x6 : Int32) (x8 : Int32) (x9 : Int32) (w0 : Int32) (r : Int32) (σ' : St) (K144 : St → Int32 → Int32 → Option (Int32 × St)) (hK144 : ∀ (σ : St) (x7 : Int32) (x8 : Int32) (H : Heap) (locs : List Loc) (ls : Array Slot), K144 σ x7 x8 = some (r, σ') → WH D (MW q k σ) k (AQ ws0) s s.heap H locs → lv_has ls 10 [(0, .ref (q 0)), (1, .int x1), (2, .int x2), (3, .int x3), (4, .int x4), (5, .int x5), (6, .int x6), (7, .int x7), (8, .int x8)] → W p l e rm_X7_spread s m args below meth c H locs 0 0 (MQ below (QR D ws0 (MW q k σ') (some (.int r))) args s 0 0 (AQ ws0)) (F0 m 144 ls [])) :
    ∀ (H : Heap) (locs : List Loc) (ls : Array Slot), jn_X7_spread_180 N σ x1 x2 x3 x4 x5 x6 x8 x9 w0 K144 = some (r, σ') → WH D (MW q k σ) k (AQ ws0) s s.heap H locs → lv_has ls 10 [(0, .ref (q 0)), (1, .int x1), (2, .int x2), (3, .int x3), (4, .int x4), (5, .int x5), (6, .int x6), (8, .int x8), (9, .int x9)] → W p l e rm_X7_spread s m args below meth c H locs 0 0 (MQ below (QR D ws0 (MW q k σ') (some (.int r))) args s 0 0 (AQ ws0)) (F0 m 180 ls [.int w0]) := by
  have hx := hC.1
  have hb := hC.2.1
  intro H locs ls h hw hl
  unfold jn_X7_spread_180 at h
  refine lv_istore (lv' := [(7, .int w0), (0, .ref (q 0)), (1, .int x1), (2, .int x2), (3, .int x3), (4, .int x4), (5, .int x5), (6, .int x6), (8, .int x8), (9, .int x9)]) hx hb dX7_spread_180 hl (by decide) rfl (fun ls hl => ?_)
  refine lv_iload hx hb dX7_spread_182 (lv_at hl 9 rfl) ?_
  refine lv_if_ne (tgt := 190) hx hb dX7_spread_184 (by decide) (fun c => ?_) (fun c => ?_)
  · have h := if_f h c
    refine lv_aload_n hx hb dX7_spread_190 rfl (lv_at hl 1 rfl) ?_
    refine M_g_X7_42 hC hw dX7_spread_191 ?_
    refine lv_iload hx hb dX7_spread_194 (lv_at hl 7 rfl) ?_
    refine lv_iload hx hb dX7_spread_196 (lv_at hl 9 rfl) ?_
    obtain ⟨hin, h⟩ := gd_o h
    refine M_st11 hC hw hin dX7_spread_198 (fun σ10 eσ10 H locs hw => ?_)
    have h := nm_o h σ10 eσ10
    refine lv_aload_n hx hb dX7_spread_199 rfl (lv_at hl 1 rfl) ?_
    refine lv_iload hx hb dX7_spread_200 (lv_at hl 5 rfl) ?_
    refine lv_bipush (v := 32) hx hb dX7_spread_202 (by decide) ?_
    refine lv_iload hx hb dX7_spread_204 (lv_at hl 8 rfl) ?_
    refine lv_imul hx hb dX7_spread_206 ?_
    refine lv_iload hx hb dX7_spread_207 (lv_at hl 6 rfl) ?_
    refine lv_iadd hx hb dX7_spread_209 ?_
    obtain ⟨r11, σ12, hc, h⟩ := bd_o h
    refine go_i (run_V (As := [.int x4, .int (((32 : Int32) * x8) + x5)]) (rest := []) hC hw (c_X7_isNew l D q k N σ10 x4 (((32 : Int32) * x8) + x5) r11 σ12 hc) kw_310 kw_312 kw_313 kw_246 kw_311 hd_X7_isNew ⟨rfl, rfl⟩ ⟨Nat.le_of_ble_eq_true rfl, Nat.le_of_ble_eq_true rfl⟩ 0 rfl rfl rfl hl.1 rfl (Nat.le_of_ble_eq_true rfl) dX7_spread_210 ⟨Nat.zero_le _, Nat.zero_le _⟩) hw (fun H locs hw => ?_)
    refine lv_if_ne (tgt := 219) hx hb dX7_spread_213 (by decide) (fun c => ?_) (fun c => ?_)
    · have h := if_f h c
      refine lv_aload_n hx hb dX7_spread_219 rfl (lv_at hl 1 rfl) ?_
      refine M_g_X7_149 hC hw dX7_spread_220 ?_
      refine lv_iload_n hx hb dX7_spread_223 rfl (lv_at hl 3 rfl) ?_
      refine lv_icmp_le (tgt := 230) hx hb dX7_spread_224 (by decide) (fun c => ?_) (fun c => ?_)
      · have h := if_t h c
        refine lv_iload_n hx hb dX7_spread_230 rfl (lv_at hl 4 rfl) ?_
        refine lv_if_eq (tgt := 252) hx hb dX7_spread_231 (by decide) (fun c => ?_) (fun c => ?_)
        · have h := if_t h c
          obtain ⟨y13, ey13⟩ : ∃ y : Int32, y = x8 + (1 : Int32) := ⟨_, rfl⟩
          have h := nm_o h y13 ey13
          refine lv_iinc (v := y13) (lv' := [(8, .int y13), (7, .int w0), (0, .ref (q 0)), (1, .int x1), (2, .int x2), (3, .int x3), (4, .int x4), (5, .int x5), (6, .int x6), (9, .int x9)]) hx hb dX7_spread_252 hl (k := 8) rfl (by rw [ey13]; rfl) (by decide) rfl (fun ls hl => ?_)
          refine lv_goto (tgt := 144) hx hb dX7_spread_255 (by decide) ?_
          exact hK144 σ12 w0 y13 _ _ ls h hw (lv_sub hl [2, 3, 4, 5, 6, 7, 8, 1, 0] rfl)
        · have h := if_f h c
          refine lv_aload_n hx hb dX7_spread_234 rfl (lv_at hl 1 rfl) ?_
          refine lv_aload_n hx hb dX7_spread_235 rfl (lv_at hl 1 rfl) ?_
          refine M_g_X7_42 hC hw dX7_spread_236 ?_
          obtain ⟨r14, hc, h⟩ := bd1_o h
          refine go_i (run_V (As := [.ref (q 11)]) (rest := []) hC hw (c_X7_openIn_a11 l D q k N σ12 r14 hc) kw_281 kw_283 kw_284 kw_246 kw_282 hd_X7_openIn ⟨rfl, rfl⟩ ⟨Nat.le_of_ble_eq_true rfl, Nat.le_of_ble_eq_true rfl⟩ 0 rfl rfl rfl hl.1 rfl (Nat.le_of_ble_eq_true rfl) dX7_spread_239 ⟨Nat.zero_le _, Nat.zero_le _⟩) hw (fun H locs hw => ?_)
          refine lv_if_ge (tgt := 252) hx hb dX7_spread_242 (by decide) (fun c => ?_) (fun c => ?_)
          · have h := if_t h c
            obtain ⟨y15, ey15⟩ : ∃ y : Int32, y = x8 + (1 : Int32) := ⟨_, rfl⟩
            have h := nm_o h y15 ey15
            refine lv_iinc (v := y15) (lv' := [(8, .int y15), (7, .int w0), (0, .ref (q 0)), (1, .int x1), (2, .int x2), (3, .int x3), (4, .int x4), (5, .int x5), (6, .int x6), (9, .int x9)]) hx hb dX7_spread_252 hl (k := 8) rfl (by rw [ey15]; rfl) (by decide) rfl (fun ls hl => ?_)
            refine lv_goto (tgt := 144) hx hb dX7_spread_255 (by decide) ?_
            exact hK144 σ12 w0 y15 _ _ ls h hw (lv_sub hl [2, 3, 4, 5, 6, 7, 8, 1, 0] rfl)
          · have h := if_f h c
            refine lv_aload_n hx hb dX7_spread_245 rfl (lv_at hl 1 rfl) ?_
            refine M_g_X7_149 hC hw dX7_spread_246 ?_
            refine lv_iconst (v := 1) hx hb dX7_spread_249 (by decide) ?_
            refine lv_isub hx hb dX7_spread_250 ?_
            cases h
            exact ret_i hC hw dX7_spread_251
      · have h := if_f h c
        refine lv_bipush (v := -2) hx hb dX7_spread_227 (by decide) ?_
        cases h
        exact ret_i hC hw dX7_spread_229
    · have h := if_t h c
      refine lv_goto (tgt := 252) hx hb dX7_spread_216 (by decide) ?_
      obtain ⟨y16, ey16⟩ : ∃ y : Int32, y = x8 + (1 : Int32) := ⟨_, rfl⟩
      have h := nm_o h y16 ey16
      refine lv_iinc (v := y16) (lv' := [(8, .int y16), (7, .int w0), (0, .ref (q 0)), (1, .int x1), (2, .int x2), (3, .int x3), (4, .int x4), (5, .int x5), (6, .int x6), (9, .int x9)]) hx hb dX7_spread_252 hl (k := 8) rfl (by rw [ey16]; rfl) (by decide) rfl (fun ls hl => ?_)
      refine lv_goto (tgt := 144) hx hb dX7_spread_255 (by decide) ?_
      exact hK144 σ12 w0 y16 _ _ ls h hw (lv_sub hl [2, 3, 4, 5, 6, 7, 8, 1, 0] rfl)
  · have h := if_t h c
    refine lv_goto (tgt := 252) hx hb dX7_spread_187 (by decide) ?_
    obtain ⟨y17, ey17⟩ : ∃ y : Int32, y = x8 + (1 : Int32) := ⟨_, rfl⟩
    have h := nm_o h y17 ey17
    refine lv_iinc (v := y17) (lv' := [(8, .int y17), (7, .int w0), (0, .ref (q 0)), (1, .int x1), (2, .int x2), (3, .int x3), (4, .int x4), (5, .int x5), (6, .int x6), (9, .int x9)]) hx hb dX7_spread_252 hl (k := 8) rfl (by rw [ey17]; rfl) (by decide) rfl (fun ls hl => ?_)
    refine lv_goto (tgt := 144) hx hb dX7_spread_255 (by decide) ?_
    exact hK144 σ w0 y17 _ _ ls h hw (lv_sub hl [2, 3, 4, 5, 6, 7, 8, 1, 0] rfl)
def jn_X7_spread_179 (N : Nat) (σ : St) (x1 : Int32) (x2 : Int32) (x3 : Int32) (x4 : Int32) (x5 : Int32) (x6 : Int32) (x8 : Int32) (x9 : Int32) (K144 : St → Int32 → Int32 → Option (Int32 × St)) : Option (Int32 × St) :=
  jn_X7_spread_180 N σ x1 x2 x3 x4 x5 x6 x8 x9 (0 : Int32) K144
set_option maxRecDepth 100000 in
set_option maxHeartbeats 4000000 in
theorem w_X7_spread_179 {p : Program} {l : Launch} {e : Env} {s : State} {m : MethodId} {below : List Frame} {meth : Method} {c : Code} {args : Array Value} {D : va_G} {q : Nat → Nat} {k : cK} {ws0 : va_W} (hC : Cx p s m meth c cX7_spread RX7 10 (some .int)) (N : Nat) (σ : St) (x1 : Int32) (x2 : Int32) (x3 : Int32) (x4 : Int32) (x5 : Int32) (x6 : Int32) (x8 : Int32) (x9 : Int32) (r : Int32) (σ' : St) (K144 : St → Int32 → Int32 → Option (Int32 × St)) (hK144 : ∀ (σ : St) (x7 : Int32) (x8 : Int32) (H : Heap) (locs : List Loc) (ls : Array Slot), K144 σ x7 x8 = some (r, σ') → WH D (MW q k σ) k (AQ ws0) s s.heap H locs → lv_has ls 10 [(0, .ref (q 0)), (1, .int x1), (2, .int x2), (3, .int x3), (4, .int x4), (5, .int x5), (6, .int x6), (7, .int x7), (8, .int x8)] → W p l e rm_X7_spread s m args below meth c H locs 0 0 (MQ below (QR D ws0 (MW q k σ') (some (.int r))) args s 0 0 (AQ ws0)) (F0 m 144 ls [])) :
    ∀ (H : Heap) (locs : List Loc) (ls : Array Slot), jn_X7_spread_179 N σ x1 x2 x3 x4 x5 x6 x8 x9 K144 = some (r, σ') → WH D (MW q k σ) k (AQ ws0) s s.heap H locs → lv_has ls 10 [(0, .ref (q 0)), (1, .int x1), (2, .int x2), (3, .int x3), (4, .int x4), (5, .int x5), (6, .int x6), (8, .int x8), (9, .int x9)] → W p l e rm_X7_spread s m args below meth c H locs 0 0 (MQ below (QR D ws0 (MW q k σ') (some (.int r))) args s 0 0 (AQ ws0)) (F0 m 179 ls []) := by
  have hx := hC.1
  have hb := hC.2.1
  intro H locs ls h hw hl
  unfold jn_X7_spread_179 at h
  refine lv_iconst (v := 0) hx hb dX7_spread_179 (by decide) ?_
  exact w_X7_spread_180 hC N σ x1 x2 x3 x4 x5 x6 x8 x9 (0 : Int32) r σ' K144 hK144 _ _ ls h hw (lv_sub hl [0, 1, 2, 3, 4, 5, 6, 7, 8] rfl)
def lp_X7_spread_144 (N : Nat) (x1 : Int32) (x2 : Int32) (x3 : Int32) (x4 : Int32) (x5 : Int32) (x6 : Int32) (K115 : St → Int32 → Option (Int32 × St)) : Nat → St → Int32 → Int32 → Option (Int32 × St)
  | 0, _, _, _ => none
  | n + 1, σ, x7, x8 => if x7 = 0 then (nm (x5 + (1 : Int32)) (fun y8 => K115 σ y8)) else (bd1 (f_X7_stepped_a11 N σ x6 (jrem x5 (4 : Int32))) (fun r9 => if r9 = 0 then (jn_X7_spread_179 N σ x1 x2 x3 x4 x5 x6 x8 r9 (fun v0 v1 v2 => lp_X7_spread_144 N x1 x2 x3 x4 x5 x6 K115 n v0 v1 v2)) else (if x1 = (1 : Int32) then (jn_X7_spread_180 N σ x1 x2 x3 x4 x5 x6 x8 r9 (1 : Int32) (fun v0 v1 v2 => lp_X7_spread_144 N x1 x2 x3 x4 x5 x6 K115 n v0 v1 v2)) else (jn_X7_spread_179 N σ x1 x2 x3 x4 x5 x6 x8 r9 (fun v0 v1 v2 => lp_X7_spread_144 N x1 x2 x3 x4 x5 x6 K115 n v0 v1 v2)))))
set_option maxRecDepth 100000 in
set_option maxHeartbeats 4000000 in
theorem w_X7_spread_144 {p : Program} {l : Launch} {e : Env} {s : State} {m : MethodId} {below : List Frame} {meth : Method} {c : Code} {args : Array Value} {D : va_G} {q : Nat → Nat} {k : cK} {ws0 : va_W} (hC : Cx p s m meth c cX7_spread RX7 10 (some .int)) (N : Nat) (x1 : Int32) (x2 : Int32) (x3 : Int32) (x4 : Int32) (x5 : Int32) (x6 : Int32) (r : Int32) (σ' : St) (K115 : St → Int32 → Option (Int32 × St)) (hK115 : ∀ (σ : St) (x5 : Int32) (H : Heap) (locs : List Loc) (ls : Array Slot), K115 σ x5 = some (r, σ') → WH D (MW q k σ) k (AQ ws0) s s.heap H locs → lv_has ls 10 [(0, .ref (q 0)), (1, .int x1), (2, .int x2), (3, .int x3), (4, .int x4), (5, .int x5)] → W p l e rm_X7_spread s m args below meth c H locs 0 0 (MQ below (QR D ws0 (MW q k σ') (some (.int r))) args s 0 0 (AQ ws0)) (F0 m 115 ls [])) :
    ∀ (n : Nat) (σ : St) (x7 : Int32) (x8 : Int32) (H : Heap) (locs : List Loc) (ls : Array Slot), lp_X7_spread_144 N x1 x2 x3 x4 x5 x6 K115 n σ x7 x8 = some (r, σ') → WH D (MW q k σ) k (AQ ws0) s s.heap H locs → lv_has ls 10 [(0, .ref (q 0)), (1, .int x1), (2, .int x2), (3, .int x3), (4, .int x4), (5, .int x5), (6, .int x6), (7, .int x7), (8, .int x8)] → W p l e rm_X7_spread s m args below meth c H locs 0 0 (MQ below (QR D ws0 (MW q k σ') (some (.int r))) args s 0 0 (AQ ws0)) (F0 m 144 ls []) := by
  have hx := hC.1
  have hb := hC.2.1
  intro n
  induction n with
  | zero =>
    intro σ x7 x8 H locs ls h
    cases h
  | succ n ih =>
    intro σ x7 x8 H locs ls h hw hl
    rw [lp_X7_spread_144] at h
    refine lv_iload hx hb dX7_spread_144 (lv_at hl 7 rfl) ?_
    refine lv_if_eq (tgt := 258) hx hb dX7_spread_146 (by decide) (fun c => ?_) (fun c => ?_)
    · have h := if_t h c
      obtain ⟨y8, ey8⟩ : ∃ y : Int32, y = x5 + (1 : Int32) := ⟨_, rfl⟩
      have h := nm_o h y8 ey8
      refine lv_iinc (v := y8) (lv' := [(5, .int y8), (0, .ref (q 0)), (1, .int x1), (2, .int x2), (3, .int x3), (4, .int x4), (6, .int x6), (7, .int x7), (8, .int x8)]) hx hb dX7_spread_258 hl (k := 5) rfl (by rw [ey8]; rfl) (by decide) rfl (fun ls hl => ?_)
      refine lv_goto (tgt := 115) hx hb dX7_spread_261 (by decide) ?_
      exact hK115 σ y8 _ _ ls h hw (lv_sub hl [1, 2, 3, 4, 5, 0] rfl)
    · have h := if_f h c
      refine lv_aload_n hx hb dX7_spread_149 rfl (lv_at hl 0 rfl) ?_
      refine lv_aload_n hx hb dX7_spread_150 rfl (lv_at hl 0 rfl) ?_
      refine M_g_X7_42 hC hw dX7_spread_151 ?_
      refine lv_iload hx hb dX7_spread_154 (lv_at hl 6 rfl) ?_
      refine lv_iload hx hb dX7_spread_156 (lv_at hl 5 rfl) ?_
      refine lv_iconst (v := 4) hx hb dX7_spread_158 (by decide) ?_
      refine lv_irem hx hb dX7_spread_159 (by decide) ?_
      obtain ⟨r9, hc, h⟩ := bd1_o h
      refine go_i (run_V (As := [.ref (q 11), .int x6, .int (jrem x5 (4 : Int32))]) (rest := []) hC hw (c_X7_stepped_a11 l D q k N σ x6 (jrem x5 (4 : Int32)) r9 hc) kw_269 kw_271 kw_272 kw_246 kw_270 hd_X7_stepped ⟨rfl, rfl⟩ ⟨Nat.le_of_ble_eq_true rfl, Nat.le_of_ble_eq_true rfl⟩ 0 rfl rfl rfl hl.1 rfl (Nat.le_of_ble_eq_true rfl) dX7_spread_160 ⟨Nat.zero_le _, Nat.zero_le _⟩) hw (fun H locs hw => ?_)
      refine lv_istore (lv' := [(9, .int r9), (0, .ref (q 0)), (1, .int x1), (2, .int x2), (3, .int x3), (4, .int x4), (5, .int x5), (6, .int x6), (7, .int x7), (8, .int x8)]) hx hb dX7_spread_163 hl (by decide) rfl (fun ls hl => ?_)
      refine lv_iload hx hb dX7_spread_165 (lv_at hl 0 rfl) ?_
      refine lv_if_eq (tgt := 179) hx hb dX7_spread_167 (by decide) (fun c => ?_) (fun c => ?_)
      · have h := if_t h c
        exact w_X7_spread_179 hC N σ x1 x2 x3 x4 x5 x6 x8 r9 r σ' _ ih _ _ ls h hw (lv_sub hl [1, 2, 3, 4, 5, 6, 7, 9, 0] rfl)
      · have h := if_f h c
        refine lv_iload_n hx hb dX7_spread_170 rfl (lv_at hl 2 rfl) ?_
        refine lv_iconst (v := 1) hx hb dX7_spread_171 (by decide) ?_
        refine lv_icmp_ne (tgt := 179) hx hb dX7_spread_172 (by decide) (fun c => ?_) (fun c => ?_)
        · have h := if_f h c
          exact w_X7_spread_179 hC N σ x1 x2 x3 x4 x5 x6 x8 r9 r σ' _ ih _ _ ls h hw (lv_sub hl [1, 2, 3, 4, 5, 6, 7, 9, 0] rfl)
        · have h := if_t h c
          refine lv_iconst (v := 1) hx hb dX7_spread_175 (by decide) ?_
          refine lv_goto (tgt := 180) hx hb dX7_spread_176 (by decide) ?_
          exact w_X7_spread_180 hC N σ x1 x2 x3 x4 x5 x6 x8 r9 (1 : Int32) r σ' _ ih _ _ ls h hw (lv_sub hl [1, 2, 3, 4, 5, 6, 7, 9, 0] rfl)
def lp_X7_spread_115 (N : Nat) (x1 : Int32) (x2 : Int32) (x3 : Int32) (x4 : Int32) (K103 : St → Int32 → Option (Int32 × St)) : Nat → St → Int32 → Option (Int32 × St)
  | 0, _, _ => none
  | n + 1, σ, x5 => if ((4 : Int32) * (σ.1 4)) ≤ x5 then (nm (x4 + (1 : Int32)) (fun y5 => K103 σ y5)) else (bd1 (f_X7_load N σ x4) (fun σ6 => nm (x5 / (4 : Int32)) (fun y7 => lp_X7_spread_144 N x1 x2 x3 x4 x5 y7 (fun v0 v1 => lp_X7_spread_115 N x1 x2 x3 x4 K103 n v0 v1) N σ6 (1 : Int32) (1 : Int32))))
set_option maxRecDepth 100000 in
set_option maxHeartbeats 4000000 in
theorem w_X7_spread_115 {p : Program} {l : Launch} {e : Env} {s : State} {m : MethodId} {below : List Frame} {meth : Method} {c : Code} {args : Array Value} {D : va_G} {q : Nat → Nat} {k : cK} {ws0 : va_W} (hC : Cx p s m meth c cX7_spread RX7 10 (some .int)) (N : Nat) (x1 : Int32) (x2 : Int32) (x3 : Int32) (x4 : Int32) (r : Int32) (σ' : St) (K103 : St → Int32 → Option (Int32 × St)) (hK103 : ∀ (σ : St) (x4 : Int32) (H : Heap) (locs : List Loc) (ls : Array Slot), K103 σ x4 = some (r, σ') → WH D (MW q k σ) k (AQ ws0) s s.heap H locs → lv_has ls 10 [(0, .ref (q 0)), (1, .int x1), (2, .int x2), (3, .int x3), (4, .int x4)] → W p l e rm_X7_spread s m args below meth c H locs 0 0 (MQ below (QR D ws0 (MW q k σ') (some (.int r))) args s 0 0 (AQ ws0)) (F0 m 103 ls [])) :
    ∀ (n : Nat) (σ : St) (x5 : Int32) (H : Heap) (locs : List Loc) (ls : Array Slot), lp_X7_spread_115 N x1 x2 x3 x4 K103 n σ x5 = some (r, σ') → WH D (MW q k σ) k (AQ ws0) s s.heap H locs → lv_has ls 10 [(0, .ref (q 0)), (1, .int x1), (2, .int x2), (3, .int x3), (4, .int x4), (5, .int x5)] → W p l e rm_X7_spread s m args below meth c H locs 0 0 (MQ below (QR D ws0 (MW q k σ') (some (.int r))) args s 0 0 (AQ ws0)) (F0 m 115 ls []) := by
  have hx := hC.1
  have hb := hC.2.1
  intro n
  induction n with
  | zero =>
    intro σ x5 H locs ls h
    cases h
  | succ n ih =>
    intro σ x5 H locs ls h hw hl
    rw [lp_X7_spread_115] at h
    refine lv_iload hx hb dX7_spread_115 (lv_at hl 5 rfl) ?_
    refine lv_iconst (v := 4) hx hb dX7_spread_117 (by decide) ?_
    refine lv_aload_n hx hb dX7_spread_118 rfl (lv_at hl 0 rfl) ?_
    refine M_g_X7_84 hC hw dX7_spread_119 ?_
    refine lv_imul hx hb dX7_spread_122 ?_
    refine lv_icmp_ge (tgt := 264) hx hb dX7_spread_123 (by decide) (fun c => ?_) (fun c => ?_)
    · have h := if_t h c
      obtain ⟨y5, ey5⟩ : ∃ y : Int32, y = x4 + (1 : Int32) := ⟨_, rfl⟩
      have h := nm_o h y5 ey5
      refine lv_iinc (v := y5) (lv' := [(4, .int y5), (0, .ref (q 0)), (1, .int x1), (2, .int x2), (3, .int x3), (5, .int x5)]) hx hb dX7_spread_264 hl (k := 4) rfl (by rw [ey5]; rfl) (by decide) rfl (fun ls hl => ?_)
      refine lv_goto (tgt := 103) hx hb dX7_spread_267 (by decide) ?_
      exact hK103 σ y5 _ _ ls h hw (lv_sub hl [1, 2, 3, 4, 0] rfl)
    · have h := if_f h c
      refine lv_aload_n hx hb dX7_spread_126 rfl (lv_at hl 0 rfl) ?_
      refine lv_iload hx hb dX7_spread_127 (lv_at hl 4 rfl) ?_
      obtain ⟨σ6, hc, h⟩ := bd1_o h
      refine go_v (run_V (As := [.int x4]) (rest := []) hC hw (c_X7_load l D q k N σ x4 σ6 hc) kw_314 kw_316 kw_317 kw_246 kw_315 hd_X7_load ⟨rfl, rfl⟩ ⟨Nat.le_of_ble_eq_true rfl, Nat.le_of_ble_eq_true rfl⟩ 0 rfl rfl rfl hl.1 rfl (Nat.le_of_ble_eq_true rfl) dX7_spread_129 ⟨Nat.zero_le _, Nat.zero_le _⟩) hw (fun H locs hw => ?_)
      refine lv_iload hx hb dX7_spread_132 (lv_at hl 5 rfl) ?_
      refine lv_iconst (v := 4) hx hb dX7_spread_134 (by decide) ?_
      refine lv_idiv hx hb dX7_spread_135 (by decide) ?_
      refine lv_topi (fun y7 ey7 => ?_)
      have h := nm_o h y7 ey7
      refine lv_istore (lv' := [(6, .int y7), (0, .ref (q 0)), (1, .int x1), (2, .int x2), (3, .int x3), (4, .int x4), (5, .int x5)]) hx hb dX7_spread_136 hl (by decide) rfl (fun ls hl => ?_)
      refine lv_iconst (v := 1) hx hb dX7_spread_138 (by decide) ?_
      refine lv_istore (lv' := [(7, .int (1 : Int32)), (6, .int y7), (0, .ref (q 0)), (1, .int x1), (2, .int x2), (3, .int x3), (4, .int x4), (5, .int x5)]) hx hb dX7_spread_139 hl (by decide) rfl (fun ls hl => ?_)
      refine lv_iconst (v := 1) hx hb dX7_spread_141 (by decide) ?_
      refine lv_istore (lv' := [(8, .int (1 : Int32)), (7, .int (1 : Int32)), (6, .int y7), (0, .ref (q 0)), (1, .int x1), (2, .int x2), (3, .int x3), (4, .int x4), (5, .int x5)]) hx hb dX7_spread_142 hl (by decide) rfl (fun ls hl => ?_)
      exact w_X7_spread_144 hC N x1 x2 x3 x4 x5 y7 r σ' _ ih N σ6 (1 : Int32) (1 : Int32) _ _ ls h hw (lv_sub hl [3, 4, 5, 6, 7, 8, 2, 1, 0] rfl)
def lp_X7_spread_103 (N : Nat) (x1 : Int32) (x2 : Int32) (x3 : Int32) : Nat → St → Int32 → Option (Int32 × St)
  | 0, _, _ => none
  | n + 1, σ, x4 => if (σ.1 6) ≤ x4 then (some ((-1 : Int32), σ)) else (lp_X7_spread_115 N x1 x2 x3 x4 (fun v0 v1 => lp_X7_spread_103 N x1 x2 x3 n v0 v1) N σ (0 : Int32))
set_option maxRecDepth 100000 in
set_option maxHeartbeats 4000000 in
theorem w_X7_spread_103 {p : Program} {l : Launch} {e : Env} {s : State} {m : MethodId} {below : List Frame} {meth : Method} {c : Code} {args : Array Value} {D : va_G} {q : Nat → Nat} {k : cK} {ws0 : va_W} (hC : Cx p s m meth c cX7_spread RX7 10 (some .int)) (N : Nat) (x1 : Int32) (x2 : Int32) (x3 : Int32) (r : Int32) (σ' : St) :
    ∀ (n : Nat) (σ : St) (x4 : Int32) (H : Heap) (locs : List Loc) (ls : Array Slot), lp_X7_spread_103 N x1 x2 x3 n σ x4 = some (r, σ') → WH D (MW q k σ) k (AQ ws0) s s.heap H locs → lv_has ls 10 [(0, .ref (q 0)), (1, .int x1), (2, .int x2), (3, .int x3), (4, .int x4)] → W p l e rm_X7_spread s m args below meth c H locs 0 0 (MQ below (QR D ws0 (MW q k σ') (some (.int r))) args s 0 0 (AQ ws0)) (F0 m 103 ls []) := by
  have hx := hC.1
  have hb := hC.2.1
  intro n
  induction n with
  | zero =>
    intro σ x4 H locs ls h
    cases h
  | succ n ih =>
    intro σ x4 H locs ls h hw hl
    rw [lp_X7_spread_103] at h
    refine lv_iload hx hb dX7_spread_103 (lv_at hl 4 rfl) ?_
    refine lv_aload_n hx hb dX7_spread_105 rfl (lv_at hl 0 rfl) ?_
    refine M_g_X7_149 hC hw dX7_spread_106 ?_
    refine lv_icmp_ge (tgt := 270) hx hb dX7_spread_109 (by decide) (fun c => ?_) (fun c => ?_)
    · have h := if_t h c
      refine lv_iconst (v := -1) hx hb dX7_spread_270 (by decide) ?_
      cases h
      exact ret_i hC hw dX7_spread_271
    · have h := if_f h c
      refine lv_iconst (v := 0) hx hb dX7_spread_112 (by decide) ?_
      refine lv_istore (lv' := [(5, .int (0 : Int32)), (0, .ref (q 0)), (1, .int x1), (2, .int x2), (3, .int x3), (4, .int x4)]) hx hb dX7_spread_113 hl (by decide) rfl (fun ls hl => ?_)
      exact w_X7_spread_115 hC N x1 x2 x3 x4 r σ' _ ih N σ (0 : Int32) _ _ ls h hw (lv_sub hl [1, 2, 3, 4, 5, 0] rfl)
def lp_X7_spread_36 (N : Nat) (x1 : Int32) (x2 : Int32) (x3 : Int32) : Nat → St → Int32 → Option (Int32 × St)
  | 0, _, _ => none
  | n + 1, σ, x4 => if (8 : Int32) ≤ x4 then (bd (f_X7_isNew N σ (-1 : Int32) (0 : Int32)) (fun r3 σ4 => if x3 = 0 then (lp_X7_spread_103 N x1 x2 x3 N σ4 (0 : Int32)) else (bd1 (f_X7_openIn_a11 N σ4) (fun r18 => if 0 ≤ r18 then (lp_X7_spread_103 N x1 x2 x3 N σ4 (0 : Int32)) else (some ((0 : Int32), σ4)))))) else (if (σ.1 4) ≤ x4 then (gd (okx x4 8) (nm (sA σ 10 x4 (0 : Int32)) (fun σ19 => nm (x4 + (1 : Int32)) (fun y20 => lp_X7_spread_36 N x1 x2 x3 n σ19 y20)))) else (gd (okx x4 8) (gd (okx x4 8) (nm (sA σ 10 x4 (ra σ 1 x4)) (fun σ21 => nm (x4 + (1 : Int32)) (fun y22 => lp_X7_spread_36 N x1 x2 x3 n σ21 y22))))))
set_option maxRecDepth 100000 in
set_option maxHeartbeats 4000000 in
theorem w_X7_spread_36 {p : Program} {l : Launch} {e : Env} {s : State} {m : MethodId} {below : List Frame} {meth : Method} {c : Code} {args : Array Value} {D : va_G} {q : Nat → Nat} {k : cK} {ws0 : va_W} (hC : Cx p s m meth c cX7_spread RX7 10 (some .int)) (N : Nat) (x1 : Int32) (x2 : Int32) (x3 : Int32) (r : Int32) (σ' : St) :
    ∀ (n : Nat) (σ : St) (x4 : Int32) (H : Heap) (locs : List Loc) (ls : Array Slot), lp_X7_spread_36 N x1 x2 x3 n σ x4 = some (r, σ') → WH D (MW q k σ) k (AQ ws0) s s.heap H locs → lv_has ls 10 [(0, .ref (q 0)), (1, .int x1), (2, .int x2), (3, .int x3), (4, .int x4)] → W p l e rm_X7_spread s m args below meth c H locs 0 0 (MQ below (QR D ws0 (MW q k σ') (some (.int r))) args s 0 0 (AQ ws0)) (F0 m 36 ls []) := by
  have hx := hC.1
  have hb := hC.2.1
  intro n
  induction n with
  | zero =>
    intro σ x4 H locs ls h
    cases h
  | succ n ih =>
    intro σ x4 H locs ls h hw hl
    rw [lp_X7_spread_36] at h
    refine lv_iload hx hb dX7_spread_36 (lv_at hl 4 rfl) ?_
    refine lv_bipush (v := 8) hx hb dX7_spread_38 (by decide) ?_
    refine lv_icmp_ge (tgt := 76) hx hb dX7_spread_40 (by decide) (fun c => ?_) (fun c => ?_)
    · have h := if_t h c
      refine lv_aload_n hx hb dX7_spread_76 rfl (lv_at hl 0 rfl) ?_
      refine lv_iconst (v := -1) hx hb dX7_spread_77 (by decide) ?_
      refine lv_iconst (v := 0) hx hb dX7_spread_78 (by decide) ?_
      obtain ⟨r3, σ4, hc, h⟩ := bd_o h
      refine go_i (run_V (As := [.int (-1 : Int32), .int (0 : Int32)]) (rest := []) hC hw (c_X7_isNew l D q k N σ (-1 : Int32) (0 : Int32) r3 σ4 hc) kw_310 kw_312 kw_313 kw_246 kw_311 hd_X7_isNew ⟨rfl, rfl⟩ ⟨Nat.le_of_ble_eq_true rfl, Nat.le_of_ble_eq_true rfl⟩ 0 rfl rfl rfl hl.1 rfl (Nat.le_of_ble_eq_true rfl) dX7_spread_79 ⟨Nat.zero_le _, Nat.zero_le _⟩) hw (fun H locs hw => ?_)
      refine lv_pop hx hb dX7_spread_82 rfl ?_
      refine lv_iload_n hx hb dX7_spread_83 rfl (lv_at hl 3 rfl) ?_
      refine lv_if_eq (tgt := 100) hx hb dX7_spread_84 (by decide) (fun c => ?_) (fun c => ?_)
      · have h := if_t h c
        refine lv_iconst (v := 0) hx hb dX7_spread_100 (by decide) ?_
        refine lv_istore (lv' := [(4, .int (0 : Int32)), (0, .ref (q 0)), (1, .int x1), (2, .int x2), (3, .int x3)]) hx hb dX7_spread_101 hl (by decide) rfl (fun ls hl => ?_)
        exact w_X7_spread_103 hC N x1 x2 x3 r σ' N σ4 (0 : Int32) _ _ ls h hw (lv_sub hl [1, 2, 3, 4, 0] rfl)
      · have h := if_f h c
        refine lv_aload_n hx hb dX7_spread_87 rfl (lv_at hl 0 rfl) ?_
        refine lv_aload_n hx hb dX7_spread_88 rfl (lv_at hl 0 rfl) ?_
        refine M_g_X7_42 hC hw dX7_spread_89 ?_
        obtain ⟨r18, hc, h⟩ := bd1_o h
        refine go_i (run_V (As := [.ref (q 11)]) (rest := []) hC hw (c_X7_openIn_a11 l D q k N σ4 r18 hc) kw_281 kw_283 kw_284 kw_246 kw_282 hd_X7_openIn ⟨rfl, rfl⟩ ⟨Nat.le_of_ble_eq_true rfl, Nat.le_of_ble_eq_true rfl⟩ 0 rfl rfl rfl hl.1 rfl (Nat.le_of_ble_eq_true rfl) dX7_spread_92 ⟨Nat.zero_le _, Nat.zero_le _⟩) hw (fun H locs hw => ?_)
        refine lv_if_ge (tgt := 100) hx hb dX7_spread_95 (by decide) (fun c => ?_) (fun c => ?_)
        · have h := if_t h c
          refine lv_iconst (v := 0) hx hb dX7_spread_100 (by decide) ?_
          refine lv_istore (lv' := [(4, .int (0 : Int32)), (0, .ref (q 0)), (1, .int x1), (2, .int x2), (3, .int x3)]) hx hb dX7_spread_101 hl (by decide) rfl (fun ls hl => ?_)
          exact w_X7_spread_103 hC N x1 x2 x3 r σ' N σ4 (0 : Int32) _ _ ls h hw (lv_sub hl [1, 2, 3, 4, 0] rfl)
        · have h := if_f h c
          refine lv_iconst (v := 0) hx hb dX7_spread_98 (by decide) ?_
          cases h
          exact ret_i hC hw dX7_spread_99
    · have h := if_f h c
      refine lv_aload_n hx hb dX7_spread_43 rfl (lv_at hl 0 rfl) ?_
      refine M_g_X7_42 hC hw dX7_spread_44 ?_
      refine lv_iload hx hb dX7_spread_47 (lv_at hl 4 rfl) ?_
      refine lv_iload hx hb dX7_spread_49 (lv_at hl 4 rfl) ?_
      refine lv_aload_n hx hb dX7_spread_51 rfl (lv_at hl 0 rfl) ?_
      refine M_g_X7_84 hC hw dX7_spread_52 ?_
      refine lv_icmp_ge (tgt := 68) hx hb dX7_spread_55 (by decide) (fun c => ?_) (fun c => ?_)
      · have h := if_t h c
        refine lv_iconst (v := 0) hx hb dX7_spread_68 (by decide) ?_
        obtain ⟨hin, h⟩ := gd_o h
        refine M_st11 hC hw hin dX7_spread_69 (fun σ19 eσ19 H locs hw => ?_)
        have h := nm_o h σ19 eσ19
        obtain ⟨y20, ey20⟩ : ∃ y : Int32, y = x4 + (1 : Int32) := ⟨_, rfl⟩
        have h := nm_o h y20 ey20
        refine lv_iinc (v := y20) (lv' := [(4, .int y20), (0, .ref (q 0)), (1, .int x1), (2, .int x2), (3, .int x3)]) hx hb dX7_spread_70 hl (k := 4) rfl (by rw [ey20]; rfl) (by decide) rfl (fun ls hl => ?_)
        refine lv_goto (tgt := 36) hx hb dX7_spread_73 (by decide) ?_
        exact ih σ19 y20 _ _ ls h hw (lv_sub hl [1, 2, 3, 4, 0] rfl)
      · have h := if_f h c
        refine lv_aload_n hx hb dX7_spread_58 rfl (lv_at hl 0 rfl) ?_
        refine M_g_X7_13 hC hw dX7_spread_59 ?_
        refine lv_iload hx hb dX7_spread_62 (lv_at hl 4 rfl) ?_
        obtain ⟨hin, h⟩ := gd_o h
        refine M_ld2 hC hw hin dX7_spread_64 ?_
        refine lv_goto (tgt := 69) hx hb dX7_spread_65 (by decide) ?_
        obtain ⟨hin, h⟩ := gd_o h
        refine M_st11 hC hw hin dX7_spread_69 (fun σ21 eσ21 H locs hw => ?_)
        have h := nm_o h σ21 eσ21
        obtain ⟨y22, ey22⟩ : ∃ y : Int32, y = x4 + (1 : Int32) := ⟨_, rfl⟩
        have h := nm_o h y22 ey22
        refine lv_iinc (v := y22) (lv' := [(4, .int y22), (0, .ref (q 0)), (1, .int x1), (2, .int x2), (3, .int x3)]) hx hb dX7_spread_70 hl (k := 4) rfl (by rw [ey22]; rfl) (by decide) rfl (fun ls hl => ?_)
        refine lv_goto (tgt := 36) hx hb dX7_spread_73 (by decide) ?_
        exact ih σ21 y22 _ _ ls h hw (lv_sub hl [1, 2, 3, 4, 0] rfl)
def lp_X7_spread_7 (N : Nat) (x1 : Int32) (x2 : Int32) (x3 : Int32) : Nat → St → Int32 → Option (Int32 × St)
  | 0, _, _ => none
  | n + 1, σ, x4 => if (32768 : Int32) ≤ x4 then (nm (sI σ 6 (0 : Int32)) (fun σ2 => lp_X7_spread_36 N x1 x2 x3 N σ2 (0 : Int32))) else (gd (okx x4 32768) (nm (sA σ 8 x4 (-1 : Int32)) (fun σ23 => nm (x4 + (1 : Int32)) (fun y24 => lp_X7_spread_7 N x1 x2 x3 n σ23 y24))))
set_option maxRecDepth 100000 in
set_option maxHeartbeats 4000000 in
theorem w_X7_spread_7 {p : Program} {l : Launch} {e : Env} {s : State} {m : MethodId} {below : List Frame} {meth : Method} {c : Code} {args : Array Value} {D : va_G} {q : Nat → Nat} {k : cK} {ws0 : va_W} (hC : Cx p s m meth c cX7_spread RX7 10 (some .int)) (N : Nat) (x1 : Int32) (x2 : Int32) (x3 : Int32) (r : Int32) (σ' : St) :
    ∀ (n : Nat) (σ : St) (x4 : Int32) (H : Heap) (locs : List Loc) (ls : Array Slot), lp_X7_spread_7 N x1 x2 x3 n σ x4 = some (r, σ') → WH D (MW q k σ) k (AQ ws0) s s.heap H locs → lv_has ls 10 [(0, .ref (q 0)), (1, .int x1), (2, .int x2), (3, .int x3), (4, .int x4)] → W p l e rm_X7_spread s m args below meth c H locs 0 0 (MQ below (QR D ws0 (MW q k σ') (some (.int r))) args s 0 0 (AQ ws0)) (F0 m 7 ls []) := by
  have hx := hC.1
  have hb := hC.2.1
  intro n
  induction n with
  | zero =>
    intro σ x4 H locs ls h
    cases h
  | succ n ih =>
    intro σ x4 H locs ls h hw hl
    rw [lp_X7_spread_7] at h
    refine lv_iload hx hb dX7_spread_7 (lv_at hl 4 rfl) ?_
    refine lv_ldc hx hb hC.2.2.2.2.1 (hw.2.2.2.2.all _ _ kw_297) dX7_spread_9 ?_
    refine lv_icmp_ge (tgt := 28) hx hb dX7_spread_11 (by decide) (fun c => ?_) (fun c => ?_)
    · have h := if_t h c
      refine lv_aload_n hx hb dX7_spread_28 rfl (lv_at hl 0 rfl) ?_
      refine lv_iconst (v := 0) hx hb dX7_spread_29 (by decide) ?_
      refine M_p_X7_149 hC hw dX7_spread_30 (fun σ2 eσ2 H locs hw => ?_)
      have h := nm_o h σ2 eσ2
      refine lv_iconst (v := 0) hx hb dX7_spread_33 (by decide) ?_
      refine lv_istore (lv' := [(4, .int (0 : Int32)), (0, .ref (q 0)), (1, .int x1), (2, .int x2), (3, .int x3)]) hx hb dX7_spread_34 hl (by decide) rfl (fun ls hl => ?_)
      exact w_X7_spread_36 hC N x1 x2 x3 r σ' N σ2 (0 : Int32) _ _ ls h hw (lv_sub hl [1, 2, 3, 4, 0] rfl)
    · have h := if_f h c
      refine lv_aload_n hx hb dX7_spread_14 rfl (lv_at hl 0 rfl) ?_
      refine M_g_X7_36 hC hw dX7_spread_15 ?_
      refine lv_iload hx hb dX7_spread_18 (lv_at hl 4 rfl) ?_
      refine lv_iconst (v := -1) hx hb dX7_spread_20 (by decide) ?_
      obtain ⟨hin, h⟩ := gd_o h
      refine M_st9 hC hw hin dX7_spread_21 (fun σ23 eσ23 H locs hw => ?_)
      have h := nm_o h σ23 eσ23
      obtain ⟨y24, ey24⟩ : ∃ y : Int32, y = x4 + (1 : Int32) := ⟨_, rfl⟩
      have h := nm_o h y24 ey24
      refine lv_iinc (v := y24) (lv' := [(4, .int y24), (0, .ref (q 0)), (1, .int x1), (2, .int x2), (3, .int x3)]) hx hb dX7_spread_22 hl (k := 4) rfl (by rw [ey24]; rfl) (by decide) rfl (fun ls hl => ?_)
      refine lv_goto (tgt := 7) hx hb dX7_spread_25 (by decide) ?_
      exact ih σ23 y24 _ _ ls h hw (lv_sub hl [1, 2, 3, 4, 0] rfl)
def f_X7_spread (N : Nat) (σ : St) (a0 : Int32) (a1 : Int32) (a2 : Int32) : Option (Int32 × St) :=
  bd1 (f_X7_liken N σ) (fun σ1 => lp_X7_spread_7 N a0 a1 a2 N σ1 (0 : Int32))
set_option maxRecDepth 100000 in
set_option maxHeartbeats 4000000 in
theorem c_X7_spread (l : Launch) (D : va_G) (q : Nat → Nat) (k : cK) (N : Nat) (σ : St) (a0 : Int32) (a1 : Int32) (a2 : Int32) (r : Int32) (σ' : St) (h : f_X7_spread N σ a0 a1 a2 = some (r, σ')) :
    Met l yX7_spread [.code yX7_spread cX7_spread 10 (some .int)] rm_X7_spread (PC D (MW q k σ) k [.ref (q 0), .int a0, .int a1, .int a2]) (QR D (MW q k σ) (MW q k σ') (some (.int r))) 0 0 (AQ (MW q k σ)) := by
  refine met_of (by decide) (Nat.le_of_ble_eq_true rfl) ?_
  intro p e s m below meth c hC hw ls hl
  have hC : Cx p s m meth c cX7_spread RX7 10 (some .int) := hC
  have hl : lv_has ls 10 [(0, .ref (q 0)), (1, .int a0), (2, .int a1), (3, .int a2)] := hl
  have hx := hC.1
  have hb := hC.2.1
  unfold f_X7_spread at h
  refine lv_aload_n hx hb dX7_spread_0 rfl (lv_at hl 0 rfl) ?_
  obtain ⟨σ1, hc, h⟩ := bd1_o h
  refine go_v (run_V (As := []) (rest := []) hC hw (c_X7_liken l D q k N σ σ1 hc) kw_306 kw_308 kw_309 kw_246 kw_307 hd_X7_liken ⟨rfl, rfl⟩ ⟨Nat.le_of_ble_eq_true rfl, Nat.le_of_ble_eq_true rfl⟩ 0 rfl rfl rfl hl.1 rfl (Nat.le_of_ble_eq_true rfl) dX7_spread_1 ⟨Nat.zero_le _, Nat.zero_le _⟩) hw (fun H locs hw => ?_)
  refine lv_iconst (v := 0) hx hb dX7_spread_4 (by decide) ?_
  refine lv_istore (lv' := [(4, .int (0 : Int32)), (0, .ref (q 0)), (1, .int a0), (2, .int a1), (3, .int a2)]) hx hb dX7_spread_5 hl (by decide) rfl (fun ls hl => ?_)
  exact w_X7_spread_7 hC N a0 a1 a2 r σ' N σ1 (0 : Int32) _ _ ls h hw (lv_sub hl [1, 2, 3, 4, 0] rfl)

/-! SlideBoards$Finder.presentOpenGoal()I -/
abbrev rm_X1_presentOpenGoal : Room := { frames := 2, cells := 0, slots := 0, locals := 48 }
def lp_X1_presentOpenGoal_2 (N : Nat) : Nat → St → Int32 → Option (Int32 × St)
  | 0, _, _ => none
  | n + 1, σ, x1 => if (σ.1 6) ≤ x1 then (bd1 (f_X2_firstOpen_a11 N σ) (fun r1 => some (r1, σ))) else (gd (okx x1 8) (bd1 (f_X0_leastCell N σ (ra σ 1 x1)) (fun r2 => gd (okx x1 8) (nm (sA σ 7 x1 r2) (fun σ3 => nm (x1 + (1 : Int32)) (fun y4 => lp_X1_presentOpenGoal_2 N n σ3 y4))))))
set_option maxRecDepth 100000 in
set_option maxHeartbeats 4000000 in
theorem w_X1_presentOpenGoal_2 {p : Program} {l : Launch} {e : Env} {s : State} {m : MethodId} {below : List Frame} {meth : Method} {c : Code} {args : Array Value} {D : va_G} {q : Nat → Nat} {k : cK} {ws0 : va_W} (hC : Cx p s m meth c cX1_presentOpenGoal RX1 2 (some .int)) (N : Nat) (r : Int32) (σ' : St) :
    ∀ (n : Nat) (σ : St) (x1 : Int32) (H : Heap) (locs : List Loc) (ls : Array Slot), lp_X1_presentOpenGoal_2 N n σ x1 = some (r, σ') → WH D (CW q k σ) k (AQ ws0) s s.heap H locs → lv_has ls 2 [(0, .ref (q 8)), (1, .int x1)] → W p l e rm_X1_presentOpenGoal s m args below meth c H locs 0 0 (MQ below (QR D ws0 (CW q k σ') (some (.int r))) args s 0 0 (AQ ws0)) (F0 m 2 ls []) := by
  have hx := hC.1
  have hb := hC.2.1
  intro n
  induction n with
  | zero =>
    intro σ x1 H locs ls h
    cases h
  | succ n ih =>
    intro σ x1 H locs ls h hw hl
    rw [lp_X1_presentOpenGoal_2] at h
    refine lv_iload_n hx hb dX1_presentOpenGoal_2 rfl (lv_at hl 1 rfl) ?_
    refine lv_aload_n hx hb dX1_presentOpenGoal_3 rfl (lv_at hl 0 rfl) ?_
    refine C_g_X1_34 hC hw dX1_presentOpenGoal_4 ?_
    refine C_g_X1_42 hC hw dX1_presentOpenGoal_7 ?_
    refine lv_icmp_ge (tgt := 37) hx hb dX1_presentOpenGoal_10 (by decide) (fun c => ?_) (fun c => ?_)
    · have h := if_t h c
      refine lv_aload_n hx hb dX1_presentOpenGoal_37 rfl (lv_at hl 0 rfl) ?_
      refine C_g_X1_38 hC hw dX1_presentOpenGoal_38 ?_
      refine lv_aload_n hx hb dX1_presentOpenGoal_41 rfl (lv_at hl 0 rfl) ?_
      refine C_g_X1_34 hC hw dX1_presentOpenGoal_42 ?_
      refine lv_aload_n hx hb dX1_presentOpenGoal_45 rfl (lv_at hl 0 rfl) ?_
      refine C_g_X1_25 hC hw dX1_presentOpenGoal_46 ?_
      obtain ⟨r1, hc, h⟩ := bd1_o h
      refine go_i (run_VN (As := [.ref (q 1), .ref (q 11)]) (rest := []) hC hw (c_X2_firstOpen_a11 l D q k N σ r1 hc) kw_75 kw_77 kw_78 kw_64 kw_76 hd_X2_firstOpen ⟨rfl, rfl⟩ ⟨Nat.le_of_ble_eq_true rfl, Nat.le_of_ble_eq_true rfl⟩ 4 rfl rfl rfl hl.1 rfl (Nat.le_of_ble_eq_true rfl) dX1_presentOpenGoal_49 ⟨Nat.zero_le _, Nat.zero_le _⟩) hw (fun H locs hw => ?_)
      cases h
      exact ret_i hC hw dX1_presentOpenGoal_52
    · have h := if_f h c
      refine lv_aload_n hx hb dX1_presentOpenGoal_13 rfl (lv_at hl 0 rfl) ?_
      refine C_g_X1_25 hC hw dX1_presentOpenGoal_14 ?_
      refine lv_iload_n hx hb dX1_presentOpenGoal_17 rfl (lv_at hl 1 rfl) ?_
      refine lv_aload_n hx hb dX1_presentOpenGoal_18 rfl (lv_at hl 0 rfl) ?_
      refine C_g_X1_34 hC hw dX1_presentOpenGoal_19 ?_
      refine C_g_X1_48 hC hw dX1_presentOpenGoal_22 ?_
      refine lv_iload_n hx hb dX1_presentOpenGoal_25 rfl (lv_at hl 1 rfl) ?_
      obtain ⟨hin, h⟩ := gd_o h
      refine C_ld3 hC hw hin dX1_presentOpenGoal_26 ?_
      obtain ⟨r2, hc, h⟩ := bd1_o h
      refine go_i (run_SN (As := [.int (ra σ 1 x1)]) (rest := [.int x1, .ref (q 11)]) hC hw (c_X0_leastCell l D q k N σ (ra σ 1 x1) r2 hc) kw_79 kw_50 kw_1 kw_49 hd_X0_leastCell ⟨rfl, rfl⟩ ⟨Nat.le_of_ble_eq_true rfl, Nat.le_of_ble_eq_true rfl⟩ rfl hl.1 rfl (Nat.le_of_ble_eq_true rfl) dX1_presentOpenGoal_27 ⟨Nat.zero_le _, Nat.zero_le _⟩) hw (fun H locs hw => ?_)
      obtain ⟨hin, h⟩ := gd_o h
      refine C_st11 hC hw hin dX1_presentOpenGoal_30 (fun σ3 eσ3 H locs hw => ?_)
      have h := nm_o h σ3 eσ3
      obtain ⟨y4, ey4⟩ : ∃ y : Int32, y = x1 + (1 : Int32) := ⟨_, rfl⟩
      have h := nm_o h y4 ey4
      refine lv_iinc (v := y4) (lv' := [(1, .int y4), (0, .ref (q 8))]) hx hb dX1_presentOpenGoal_31 hl (k := 1) rfl (by rw [ey4]; rfl) (by decide) rfl (fun ls hl => ?_)
      refine lv_goto (tgt := 2) hx hb dX1_presentOpenGoal_34 (by decide) ?_
      exact ih σ3 y4 _ _ ls h hw (lv_sub hl [1, 0] rfl)
def f_X1_presentOpenGoal (N : Nat) (σ : St) : Option (Int32 × St) :=
  lp_X1_presentOpenGoal_2 N N σ (0 : Int32)
set_option maxRecDepth 100000 in
set_option maxHeartbeats 4000000 in
theorem c_X1_presentOpenGoal (l : Launch) (D : va_G) (q : Nat → Nat) (k : cK) (N : Nat) (σ : St) (r : Int32) (σ' : St) (h : f_X1_presentOpenGoal N σ = some (r, σ')) :
    Met l yX1_presentOpenGoal [.code yX1_presentOpenGoal cX1_presentOpenGoal 2 (some .int)] rm_X1_presentOpenGoal (PC D (CW q k σ) k [.ref (q 8)]) (QR D (CW q k σ) (CW q k σ') (some (.int r))) 0 0 (AQ (CW q k σ)) := by
  refine met_of (by decide) (Nat.le_of_ble_eq_true rfl) ?_
  intro p e s m below meth c hC hw ls hl
  have hC : Cx p s m meth c cX1_presentOpenGoal RX1 2 (some .int) := hC
  have hl : lv_has ls 2 [(0, .ref (q 8))] := hl
  have hx := hC.1
  have hb := hC.2.1
  unfold f_X1_presentOpenGoal at h
  refine lv_iconst (v := 0) hx hb dX1_presentOpenGoal_0 (by decide) ?_
  refine lv_istore_n (lv' := [(1, .int (0 : Int32)), (0, .ref (q 8))]) hx hb dX1_presentOpenGoal_1 rfl hl (by decide) rfl (fun ls hl => ?_)
  exact w_X1_presentOpenGoal_2 hC N r σ' N σ (0 : Int32) _ _ ls h hw (lv_sub hl [1, 0] rfl)
/-! SlideBoards$Finder.findAlike()V -/
abbrev rm_X1_findAlike : Room := { frames := 2, cells := 0, slots := 0, locals := 45 }
def lp_X1_findAlike_15 (N : Nat) (σ : St) (x1 : Int32) (K2 : St → Int32 → Option St) : Nat → Int32 → Option St
  | 0, _ => none
  | n + 1, x2 => if x1 ≤ x2 then (gd (okx x1 8) (nm (sA σ 5 x1 x2) (fun σ1 => nm (x1 + (1 : Int32)) (fun y2 => K2 σ1 y2)))) else (bd1 (f_X0_areAlike N σ x2 x1) (fun r3 => if r3 = 0 then (nm (x2 + (1 : Int32)) (fun y6 => lp_X1_findAlike_15 N σ x1 K2 n y6)) else (gd (okx x1 8) (nm (sA σ 5 x1 x2) (fun σ4 => nm (x1 + (1 : Int32)) (fun y5 => K2 σ4 y5))))))
set_option maxRecDepth 100000 in
set_option maxHeartbeats 4000000 in
theorem w_X1_findAlike_15 {p : Program} {l : Launch} {e : Env} {s : State} {m : MethodId} {below : List Frame} {meth : Method} {c : Code} {args : Array Value} {D : va_G} {q : Nat → Nat} {k : cK} {ws0 : va_W} (hC : Cx p s m meth c cX1_findAlike RX1 3 none) (N : Nat) (σ : St) (x1 : Int32) (σ' : St) (K2 : St → Int32 → Option St) (hK2 : ∀ (σ : St) (x1 : Int32) (H : Heap) (locs : List Loc) (ls : Array Slot), K2 σ x1 = some σ' → WH D (CW q k σ) k (AQ ws0) s s.heap H locs → lv_has ls 3 [(0, .ref (q 8)), (1, .int x1)] → W p l e rm_X1_findAlike s m args below meth c H locs 0 0 (MQ below (QR D ws0 (CW q k σ') none) args s 0 0 (AQ ws0)) (F0 m 2 ls [])) :
    ∀ (n : Nat) (x2 : Int32) (H : Heap) (locs : List Loc) (ls : Array Slot), lp_X1_findAlike_15 N σ x1 K2 n x2 = some σ' → WH D (CW q k σ) k (AQ ws0) s s.heap H locs → lv_has ls 3 [(0, .ref (q 8)), (1, .int x1), (2, .int x2)] → W p l e rm_X1_findAlike s m args below meth c H locs 0 0 (MQ below (QR D ws0 (CW q k σ') none) args s 0 0 (AQ ws0)) (F0 m 15 ls []) := by
  have hx := hC.1
  have hb := hC.2.1
  intro n
  induction n with
  | zero =>
    intro x2 H locs ls h
    cases h
  | succ n ih =>
    intro x2 H locs ls h hw hl
    rw [lp_X1_findAlike_15] at h
    refine lv_iload_n hx hb dX1_findAlike_15 rfl (lv_at hl 2 rfl) ?_
    refine lv_iload_n hx hb dX1_findAlike_16 rfl (lv_at hl 1 rfl) ?_
    refine lv_icmp_ge (tgt := 38) hx hb dX1_findAlike_17 (by decide) (fun c => ?_) (fun c => ?_)
    · have h := if_t h c
      refine lv_aload_n hx hb dX1_findAlike_38 rfl (lv_at hl 0 rfl) ?_
      refine C_g_X1_18 hC hw dX1_findAlike_39 ?_
      refine lv_iload_n hx hb dX1_findAlike_42 rfl (lv_at hl 1 rfl) ?_
      refine lv_iload_n hx hb dX1_findAlike_43 rfl (lv_at hl 2 rfl) ?_
      obtain ⟨hin, h⟩ := gd_o h
      refine C_st9 hC hw hin dX1_findAlike_44 (fun σ1 eσ1 H locs hw => ?_)
      have h := nm_o h σ1 eσ1
      obtain ⟨y2, ey2⟩ : ∃ y : Int32, y = x1 + (1 : Int32) := ⟨_, rfl⟩
      have h := nm_o h y2 ey2
      refine lv_iinc (v := y2) (lv' := [(1, .int y2), (0, .ref (q 8)), (2, .int x2)]) hx hb dX1_findAlike_45 hl (k := 1) rfl (by rw [ey2]; rfl) (by decide) rfl (fun ls hl => ?_)
      refine lv_goto (tgt := 2) hx hb dX1_findAlike_48 (by decide) ?_
      exact hK2 σ1 y2 _ _ ls h hw (lv_sub hl [1, 0] rfl)
    · have h := if_f h c
      refine lv_aload_n hx hb dX1_findAlike_20 rfl (lv_at hl 0 rfl) ?_
      refine C_g_X1_34 hC hw dX1_findAlike_21 ?_
      refine lv_iload_n hx hb dX1_findAlike_24 rfl (lv_at hl 2 rfl) ?_
      refine lv_iload_n hx hb dX1_findAlike_25 rfl (lv_at hl 1 rfl) ?_
      obtain ⟨r3, hc, h⟩ := bd1_o h
      refine go_i (run_VN (As := [.int x2, .int x1]) (rest := []) hC hw (c_X0_areAlike l D q k N σ x2 x1 r3 hc) kw_98 kw_100 kw_101 kw_1 kw_99 hd_X0_areAlike ⟨rfl, rfl⟩ ⟨Nat.le_of_ble_eq_true rfl, Nat.le_of_ble_eq_true rfl⟩ 1 rfl rfl rfl hl.1 rfl (Nat.le_of_ble_eq_true rfl) dX1_findAlike_26 ⟨Nat.zero_le _, Nat.zero_le _⟩) hw (fun H locs hw => ?_)
      refine lv_if_ne (tgt := 38) hx hb dX1_findAlike_29 (by decide) (fun c => ?_) (fun c => ?_)
      · have h := if_f h c
        refine lv_aload_n hx hb dX1_findAlike_38 rfl (lv_at hl 0 rfl) ?_
        refine C_g_X1_18 hC hw dX1_findAlike_39 ?_
        refine lv_iload_n hx hb dX1_findAlike_42 rfl (lv_at hl 1 rfl) ?_
        refine lv_iload_n hx hb dX1_findAlike_43 rfl (lv_at hl 2 rfl) ?_
        obtain ⟨hin, h⟩ := gd_o h
        refine C_st9 hC hw hin dX1_findAlike_44 (fun σ4 eσ4 H locs hw => ?_)
        have h := nm_o h σ4 eσ4
        obtain ⟨y5, ey5⟩ : ∃ y : Int32, y = x1 + (1 : Int32) := ⟨_, rfl⟩
        have h := nm_o h y5 ey5
        refine lv_iinc (v := y5) (lv' := [(1, .int y5), (0, .ref (q 8)), (2, .int x2)]) hx hb dX1_findAlike_45 hl (k := 1) rfl (by rw [ey5]; rfl) (by decide) rfl (fun ls hl => ?_)
        refine lv_goto (tgt := 2) hx hb dX1_findAlike_48 (by decide) ?_
        exact hK2 σ4 y5 _ _ ls h hw (lv_sub hl [1, 0] rfl)
      · have h := if_t h c
        obtain ⟨y6, ey6⟩ : ∃ y : Int32, y = x2 + (1 : Int32) := ⟨_, rfl⟩
        have h := nm_o h y6 ey6
        refine lv_iinc (v := y6) (lv' := [(2, .int y6), (0, .ref (q 8)), (1, .int x1)]) hx hb dX1_findAlike_32 hl (k := 2) rfl (by rw [ey6]; rfl) (by decide) rfl (fun ls hl => ?_)
        refine lv_goto (tgt := 15) hx hb dX1_findAlike_35 (by decide) ?_
        exact ih y6 _ _ ls h hw (lv_sub hl [1, 2, 0] rfl)
def lp_X1_findAlike_2 (N : Nat) : Nat → St → Int32 → Option St
  | 0, _, _ => none
  | n + 1, σ, x1 => if (σ.1 6) ≤ x1 then (some σ) else (lp_X1_findAlike_15 N σ x1 (fun v0 v1 => lp_X1_findAlike_2 N n v0 v1) N (0 : Int32))
set_option maxRecDepth 100000 in
set_option maxHeartbeats 4000000 in
theorem w_X1_findAlike_2 {p : Program} {l : Launch} {e : Env} {s : State} {m : MethodId} {below : List Frame} {meth : Method} {c : Code} {args : Array Value} {D : va_G} {q : Nat → Nat} {k : cK} {ws0 : va_W} (hC : Cx p s m meth c cX1_findAlike RX1 3 none) (N : Nat) (σ' : St) :
    ∀ (n : Nat) (σ : St) (x1 : Int32) (H : Heap) (locs : List Loc) (ls : Array Slot), lp_X1_findAlike_2 N n σ x1 = some σ' → WH D (CW q k σ) k (AQ ws0) s s.heap H locs → lv_has ls 3 [(0, .ref (q 8)), (1, .int x1)] → W p l e rm_X1_findAlike s m args below meth c H locs 0 0 (MQ below (QR D ws0 (CW q k σ') none) args s 0 0 (AQ ws0)) (F0 m 2 ls []) := by
  have hx := hC.1
  have hb := hC.2.1
  intro n
  induction n with
  | zero =>
    intro σ x1 H locs ls h
    cases h
  | succ n ih =>
    intro σ x1 H locs ls h hw hl
    rw [lp_X1_findAlike_2] at h
    refine lv_iload_n hx hb dX1_findAlike_2 rfl (lv_at hl 1 rfl) ?_
    refine lv_aload_n hx hb dX1_findAlike_3 rfl (lv_at hl 0 rfl) ?_
    refine C_g_X1_34 hC hw dX1_findAlike_4 ?_
    refine C_g_X1_42 hC hw dX1_findAlike_7 ?_
    refine lv_icmp_ge (tgt := 51) hx hb dX1_findAlike_10 (by decide) (fun c => ?_) (fun c => ?_)
    · have h := if_t h c
      cases h
      exact ret_v hC hw dX1_findAlike_51
    · have h := if_f h c
      refine lv_iconst (v := 0) hx hb dX1_findAlike_13 (by decide) ?_
      refine lv_istore_n (lv' := [(2, .int (0 : Int32)), (0, .ref (q 8)), (1, .int x1)]) hx hb dX1_findAlike_14 rfl hl (by decide) rfl (fun ls hl => ?_)
      exact w_X1_findAlike_15 hC N σ x1 σ' _ ih N (0 : Int32) _ _ ls h hw (lv_sub hl [1, 2, 0] rfl)
def f_X1_findAlike (N : Nat) (σ : St) : Option St :=
  lp_X1_findAlike_2 N N σ (0 : Int32)
set_option maxRecDepth 100000 in
set_option maxHeartbeats 4000000 in
theorem c_X1_findAlike (l : Launch) (D : va_G) (q : Nat → Nat) (k : cK) (N : Nat) (σ : St) (σ' : St) (h : f_X1_findAlike N σ = some σ') :
    Met l yX1_findAlike [.code yX1_findAlike cX1_findAlike 3 none] rm_X1_findAlike (PC D (CW q k σ) k [.ref (q 8)]) (QR D (CW q k σ) (CW q k σ') none) 0 0 (AQ (CW q k σ)) := by
  refine met_of (by decide) (Nat.le_of_ble_eq_true rfl) ?_
  intro p e s m below meth c hC hw ls hl
  have hC : Cx p s m meth c cX1_findAlike RX1 3 none := hC
  have hl : lv_has ls 3 [(0, .ref (q 8))] := hl
  have hx := hC.1
  have hb := hC.2.1
  unfold f_X1_findAlike at h
  refine lv_iconst (v := 0) hx hb dX1_findAlike_0 (by decide) ?_
  refine lv_istore_n (lv' := [(1, .int (0 : Int32)), (0, .ref (q 8))]) hx hb dX1_findAlike_1 rfl hl (by decide) rfl (fun ls hl => ?_)
  exact w_X1_findAlike_2 hC N σ' N σ (0 : Int32) _ _ ls h hw (lv_sub hl [1, 0] rfl)
/-! SlideBoards$Finder.keyOfPlaces()J -/
abbrev rm_X1_keyOfPlaces : Room := { frames := 0, cells := 0, slots := 0, locals := 0 }
def lp_X1_keyOfPlaces_86 (N : Nat) (σ : St) : Nat → Int64 → Int32 → Option (Int64 × St)
  | 0, _, _ => none
  | n + 1, x1, x3 => if (σ.1 6) ≤ x3 then (some (x1, σ)) else (gd (okx x3 8) (nm ((jlshl x1 (5 : Int32)) ||| (Int32.toInt64 ((ra σ 9 x3) &&& (31 : Int32)))) (fun y1 => nm (x3 + (1 : Int32)) (fun y2 => lp_X1_keyOfPlaces_86 N σ n y1 y2))))
set_option maxRecDepth 100000 in
set_option maxHeartbeats 4000000 in
theorem w_X1_keyOfPlaces_86 {p : Program} {l : Launch} {e : Env} {s : State} {m : MethodId} {below : List Frame} {meth : Method} {c : Code} {args : Array Value} {D : va_G} {q : Nat → Nat} {k : cK} {ws0 : va_W} (hC : Cx p s m meth c cX1_keyOfPlaces RX1 4 (some .long)) (N : Nat) (σ : St) (r : Int64) (σ' : St) :
    ∀ (n : Nat) (x1 : Int64) (x3 : Int32) (H : Heap) (locs : List Loc) (ls : Array Slot), lp_X1_keyOfPlaces_86 N σ n x1 x3 = some (r, σ') → WH D (CW q k σ) k (AQ ws0) s s.heap H locs → lv_has ls 4 [(0, .ref (q 8)), (1, .long x1), (3, .int x3)] → W p l e rm_X1_keyOfPlaces s m args below meth c H locs 0 0 (MQ below (QR D ws0 (CW q k σ') (some (.long r))) args s 0 0 (AQ ws0)) (F0 m 86 ls []) := by
  have hx := hC.1
  have hb := hC.2.1
  intro n
  induction n with
  | zero =>
    intro x1 x3 H locs ls h
    cases h
  | succ n ih =>
    intro x1 x3 H locs ls h hw hl
    rw [lp_X1_keyOfPlaces_86] at h
    refine lv_iload_n hx hb dX1_keyOfPlaces_86 rfl (lv_at hl 2 rfl) ?_
    refine lv_aload_n hx hb dX1_keyOfPlaces_87 rfl (lv_at hl 0 rfl) ?_
    refine C_g_X1_34 hC hw dX1_keyOfPlaces_88 ?_
    refine C_g_X1_42 hC hw dX1_keyOfPlaces_91 ?_
    refine lv_icmp_ge (tgt := 118) hx hb dX1_keyOfPlaces_94 (by decide) (fun c => ?_) (fun c => ?_)
    · have h := if_t h c
      refine lv_lload_n hx hb dX1_keyOfPlaces_118 rfl (lv_at hl 1 rfl) ?_
      cases h
      exact ret_l hC hw dX1_keyOfPlaces_119
    · have h := if_f h c
      refine lv_lload_n hx hb dX1_keyOfPlaces_97 rfl (lv_at hl 1 rfl) ?_
      refine lv_iconst (v := 5) hx hb dX1_keyOfPlaces_98 (by decide) ?_
      refine lv_lshl (v := jlshl x1 (5 : Int32)) hx hb dX1_keyOfPlaces_99 rfl ?_
      refine lv_aload_n hx hb dX1_keyOfPlaces_100 rfl (lv_at hl 0 rfl) ?_
      refine C_g_X1_31 hC hw dX1_keyOfPlaces_101 ?_
      refine lv_iload_n hx hb dX1_keyOfPlaces_104 rfl (lv_at hl 2 rfl) ?_
      obtain ⟨hin, h⟩ := gd_o h
      refine C_ld13 hC hw hin dX1_keyOfPlaces_105 ?_
      refine lv_bipush (v := 31) hx hb dX1_keyOfPlaces_106 (by decide) ?_
      refine lv_iand hx hb dX1_keyOfPlaces_108 ?_
      refine lv_i2l (v := Int32.toInt64 ((ra σ 9 x3) &&& (31 : Int32))) hx hb dX1_keyOfPlaces_109 rfl ?_
      refine lv_lor hx hb dX1_keyOfPlaces_110 ?_
      refine lv_topl (fun y1 ey1 => ?_)
      have h := nm_o h y1 ey1
      refine lv_lstore_n (lv' := [(1, .long y1), (0, .ref (q 8)), (3, .int x3)]) hx hb dX1_keyOfPlaces_111 rfl hl (by decide) rfl (fun ls hl => ?_)
      obtain ⟨y2, ey2⟩ : ∃ y : Int32, y = x3 + (1 : Int32) := ⟨_, rfl⟩
      have h := nm_o h y2 ey2
      refine lv_iinc (v := y2) (lv' := [(3, .int y2), (1, .long y1), (0, .ref (q 8))]) hx hb dX1_keyOfPlaces_112 hl (k := 2) rfl (by rw [ey2]; rfl) (by decide) rfl (fun ls hl => ?_)
      refine lv_goto (tgt := 86) hx hb dX1_keyOfPlaces_115 (by decide) ?_
      exact ih y1 y2 _ _ ls h hw (lv_sub hl [2, 1, 0] rfl)
def lp_X1_keyOfPlaces_33 (N : Nat) (x1 : Int32) (x2 : Int32) (K2 : St → Int32 → Option (Int64 × St)) : Nat → St → Int32 → Option (Int64 × St)
  | 0, _, _ => none
  | n + 1, σ, x3 => if x3 ≤ 0 then (gd (okx x3 8) (nm (sA σ 9 x3 x2) (fun σ4 => nm (x1 + (1 : Int32)) (fun y5 => K2 σ4 y5)))) else (gd (okx (x3 - (1 : Int32)) 8) (if (ra σ 9 (x3 - (1 : Int32))) ≤ x2 then (gd (okx x3 8) (nm (sA σ 9 x3 x2) (fun σ6 => nm (x1 + (1 : Int32)) (fun y7 => K2 σ6 y7)))) else (gd (okx (x3 - (1 : Int32)) 8) (gd (okx x3 8) (nm (sA σ 9 x3 (ra σ 9 (x3 - (1 : Int32)))) (fun σ8 => nm (x3 + (-1)) (fun y9 => lp_X1_keyOfPlaces_33 N x1 x2 K2 n σ8 y9)))))))
set_option maxRecDepth 100000 in
set_option maxHeartbeats 4000000 in
theorem w_X1_keyOfPlaces_33 {p : Program} {l : Launch} {e : Env} {s : State} {m : MethodId} {below : List Frame} {meth : Method} {c : Code} {args : Array Value} {D : va_G} {q : Nat → Nat} {k : cK} {ws0 : va_W} (hC : Cx p s m meth c cX1_keyOfPlaces RX1 4 (some .long)) (N : Nat) (x1 : Int32) (x2 : Int32) (r : Int64) (σ' : St) (K2 : St → Int32 → Option (Int64 × St)) (hK2 : ∀ (σ : St) (x1 : Int32) (H : Heap) (locs : List Loc) (ls : Array Slot), K2 σ x1 = some (r, σ') → WH D (CW q k σ) k (AQ ws0) s s.heap H locs → lv_has ls 4 [(0, .ref (q 8)), (1, .int x1)] → W p l e rm_X1_keyOfPlaces s m args below meth c H locs 0 0 (MQ below (QR D ws0 (CW q k σ') (some (.long r))) args s 0 0 (AQ ws0)) (F0 m 2 ls [])) :
    ∀ (n : Nat) (σ : St) (x3 : Int32) (H : Heap) (locs : List Loc) (ls : Array Slot), lp_X1_keyOfPlaces_33 N x1 x2 K2 n σ x3 = some (r, σ') → WH D (CW q k σ) k (AQ ws0) s s.heap H locs → lv_has ls 4 [(0, .ref (q 8)), (1, .int x1), (2, .int x2), (3, .int x3)] → W p l e rm_X1_keyOfPlaces s m args below meth c H locs 0 0 (MQ below (QR D ws0 (CW q k σ') (some (.long r))) args s 0 0 (AQ ws0)) (F0 m 33 ls []) := by
  have hx := hC.1
  have hb := hC.2.1
  intro n
  induction n with
  | zero =>
    intro σ x3 H locs ls h
    cases h
  | succ n ih =>
    intro σ x3 H locs ls h hw hl
    rw [lp_X1_keyOfPlaces_33] at h
    refine lv_iload_n hx hb dX1_keyOfPlaces_33 rfl (lv_at hl 3 rfl) ?_
    refine lv_if_le (tgt := 69) hx hb dX1_keyOfPlaces_34 (by decide) (fun c => ?_) (fun c => ?_)
    · have h := if_t h c
      refine lv_aload_n hx hb dX1_keyOfPlaces_69 rfl (lv_at hl 0 rfl) ?_
      refine C_g_X1_31 hC hw dX1_keyOfPlaces_70 ?_
      refine lv_iload_n hx hb dX1_keyOfPlaces_73 rfl (lv_at hl 3 rfl) ?_
      refine lv_iload_n hx hb dX1_keyOfPlaces_74 rfl (lv_at hl 2 rfl) ?_
      obtain ⟨hin, h⟩ := gd_o h
      refine C_st13 hC hw hin dX1_keyOfPlaces_75 (fun σ4 eσ4 H locs hw => ?_)
      have h := nm_o h σ4 eσ4
      obtain ⟨y5, ey5⟩ : ∃ y : Int32, y = x1 + (1 : Int32) := ⟨_, rfl⟩
      have h := nm_o h y5 ey5
      refine lv_iinc (v := y5) (lv' := [(1, .int y5), (0, .ref (q 8)), (2, .int x2), (3, .int x3)]) hx hb dX1_keyOfPlaces_76 hl (k := 1) rfl (by rw [ey5]; rfl) (by decide) rfl (fun ls hl => ?_)
      refine lv_goto (tgt := 2) hx hb dX1_keyOfPlaces_79 (by decide) ?_
      exact hK2 σ4 y5 _ _ ls h hw (lv_sub hl [1, 0] rfl)
    · have h := if_f h c
      refine lv_aload_n hx hb dX1_keyOfPlaces_37 rfl (lv_at hl 0 rfl) ?_
      refine C_g_X1_31 hC hw dX1_keyOfPlaces_38 ?_
      refine lv_iload_n hx hb dX1_keyOfPlaces_41 rfl (lv_at hl 3 rfl) ?_
      refine lv_iconst (v := 1) hx hb dX1_keyOfPlaces_42 (by decide) ?_
      refine lv_isub hx hb dX1_keyOfPlaces_43 ?_
      obtain ⟨hin, h⟩ := gd_o h
      refine C_ld13 hC hw hin dX1_keyOfPlaces_44 ?_
      refine lv_iload_n hx hb dX1_keyOfPlaces_45 rfl (lv_at hl 2 rfl) ?_
      refine lv_icmp_le (tgt := 69) hx hb dX1_keyOfPlaces_46 (by decide) (fun c => ?_) (fun c => ?_)
      · have h := if_t h c
        refine lv_aload_n hx hb dX1_keyOfPlaces_69 rfl (lv_at hl 0 rfl) ?_
        refine C_g_X1_31 hC hw dX1_keyOfPlaces_70 ?_
        refine lv_iload_n hx hb dX1_keyOfPlaces_73 rfl (lv_at hl 3 rfl) ?_
        refine lv_iload_n hx hb dX1_keyOfPlaces_74 rfl (lv_at hl 2 rfl) ?_
        obtain ⟨hin, h⟩ := gd_o h
        refine C_st13 hC hw hin dX1_keyOfPlaces_75 (fun σ6 eσ6 H locs hw => ?_)
        have h := nm_o h σ6 eσ6
        obtain ⟨y7, ey7⟩ : ∃ y : Int32, y = x1 + (1 : Int32) := ⟨_, rfl⟩
        have h := nm_o h y7 ey7
        refine lv_iinc (v := y7) (lv' := [(1, .int y7), (0, .ref (q 8)), (2, .int x2), (3, .int x3)]) hx hb dX1_keyOfPlaces_76 hl (k := 1) rfl (by rw [ey7]; rfl) (by decide) rfl (fun ls hl => ?_)
        refine lv_goto (tgt := 2) hx hb dX1_keyOfPlaces_79 (by decide) ?_
        exact hK2 σ6 y7 _ _ ls h hw (lv_sub hl [1, 0] rfl)
      · have h := if_f h c
        refine lv_aload_n hx hb dX1_keyOfPlaces_49 rfl (lv_at hl 0 rfl) ?_
        refine C_g_X1_31 hC hw dX1_keyOfPlaces_50 ?_
        refine lv_iload_n hx hb dX1_keyOfPlaces_53 rfl (lv_at hl 3 rfl) ?_
        refine lv_aload_n hx hb dX1_keyOfPlaces_54 rfl (lv_at hl 0 rfl) ?_
        refine C_g_X1_31 hC hw dX1_keyOfPlaces_55 ?_
        refine lv_iload_n hx hb dX1_keyOfPlaces_58 rfl (lv_at hl 3 rfl) ?_
        refine lv_iconst (v := 1) hx hb dX1_keyOfPlaces_59 (by decide) ?_
        refine lv_isub hx hb dX1_keyOfPlaces_60 ?_
        obtain ⟨hin, h⟩ := gd_o h
        refine C_ld13 hC hw hin dX1_keyOfPlaces_61 ?_
        obtain ⟨hin, h⟩ := gd_o h
        refine C_st13 hC hw hin dX1_keyOfPlaces_62 (fun σ8 eσ8 H locs hw => ?_)
        have h := nm_o h σ8 eσ8
        obtain ⟨y9, ey9⟩ : ∃ y : Int32, y = x3 + (-1) := ⟨_, rfl⟩
        have h := nm_o h y9 ey9
        refine lv_iinc (v := y9) (lv' := [(3, .int y9), (0, .ref (q 8)), (1, .int x1), (2, .int x2)]) hx hb dX1_keyOfPlaces_63 hl (k := 3) rfl (by rw [ey9]; rfl) (by decide) rfl (fun ls hl => ?_)
        refine lv_goto (tgt := 33) hx hb dX1_keyOfPlaces_66 (by decide) ?_
        exact ih σ8 y9 _ _ ls h hw (lv_sub hl [1, 2, 3, 0] rfl)
def lp_X1_keyOfPlaces_2 (N : Nat) : Nat → St → Int32 → Option (Int64 × St)
  | 0, _, _ => none
  | n + 1, σ, x1 => if (σ.1 6) ≤ x1 then (lp_X1_keyOfPlaces_86 N σ N (0 : Int64) (0 : Int32)) else (gd (okx x1 8) (gd (okx x1 8) (nm (((jshl (ra σ 5 x1) (5 : Int32)) + (ra σ 7 x1)) + (1 : Int32)) (fun y3 => lp_X1_keyOfPlaces_33 N x1 y3 (fun v0 v1 => lp_X1_keyOfPlaces_2 N n v0 v1) N σ x1))))
set_option maxRecDepth 100000 in
set_option maxHeartbeats 4000000 in
theorem w_X1_keyOfPlaces_2 {p : Program} {l : Launch} {e : Env} {s : State} {m : MethodId} {below : List Frame} {meth : Method} {c : Code} {args : Array Value} {D : va_G} {q : Nat → Nat} {k : cK} {ws0 : va_W} (hC : Cx p s m meth c cX1_keyOfPlaces RX1 4 (some .long)) (N : Nat) (r : Int64) (σ' : St) :
    ∀ (n : Nat) (σ : St) (x1 : Int32) (H : Heap) (locs : List Loc) (ls : Array Slot), lp_X1_keyOfPlaces_2 N n σ x1 = some (r, σ') → WH D (CW q k σ) k (AQ ws0) s s.heap H locs → lv_has ls 4 [(0, .ref (q 8)), (1, .int x1)] → W p l e rm_X1_keyOfPlaces s m args below meth c H locs 0 0 (MQ below (QR D ws0 (CW q k σ') (some (.long r))) args s 0 0 (AQ ws0)) (F0 m 2 ls []) := by
  have hx := hC.1
  have hb := hC.2.1
  intro n
  induction n with
  | zero =>
    intro σ x1 H locs ls h
    cases h
  | succ n ih =>
    intro σ x1 H locs ls h hw hl
    rw [lp_X1_keyOfPlaces_2] at h
    refine lv_iload_n hx hb dX1_keyOfPlaces_2 rfl (lv_at hl 1 rfl) ?_
    refine lv_aload_n hx hb dX1_keyOfPlaces_3 rfl (lv_at hl 0 rfl) ?_
    refine C_g_X1_34 hC hw dX1_keyOfPlaces_4 ?_
    refine C_g_X1_42 hC hw dX1_keyOfPlaces_7 ?_
    refine lv_icmp_ge (tgt := 82) hx hb dX1_keyOfPlaces_10 (by decide) (fun c => ?_) (fun c => ?_)
    · have h := if_t h c
      refine lv_lconst (v := 0) hx hb dX1_keyOfPlaces_82 (by decide) ?_
      refine lv_lstore_n (lv' := [(1, .long (0 : Int64)), (0, .ref (q 8))]) hx hb dX1_keyOfPlaces_83 rfl hl (by decide) rfl (fun ls hl => ?_)
      refine lv_iconst (v := 0) hx hb dX1_keyOfPlaces_84 (by decide) ?_
      refine lv_istore_n (lv' := [(3, .int (0 : Int32)), (1, .long (0 : Int64)), (0, .ref (q 8))]) hx hb dX1_keyOfPlaces_85 rfl hl (by decide) rfl (fun ls hl => ?_)
      exact w_X1_keyOfPlaces_86 hC N σ r σ' N (0 : Int64) (0 : Int32) _ _ ls h hw (lv_sub hl [2, 1, 0] rfl)
    · have h := if_f h c
      refine lv_aload_n hx hb dX1_keyOfPlaces_13 rfl (lv_at hl 0 rfl) ?_
      refine C_g_X1_18 hC hw dX1_keyOfPlaces_14 ?_
      refine lv_iload_n hx hb dX1_keyOfPlaces_17 rfl (lv_at hl 1 rfl) ?_
      obtain ⟨hin, h⟩ := gd_o h
      refine C_ld9 hC hw hin dX1_keyOfPlaces_18 ?_
      refine lv_iconst (v := 5) hx hb dX1_keyOfPlaces_19 (by decide) ?_
      refine lv_ishl hx hb dX1_keyOfPlaces_20 ?_
      refine lv_aload_n hx hb dX1_keyOfPlaces_21 rfl (lv_at hl 0 rfl) ?_
      refine C_g_X1_25 hC hw dX1_keyOfPlaces_22 ?_
      refine lv_iload_n hx hb dX1_keyOfPlaces_25 rfl (lv_at hl 1 rfl) ?_
      obtain ⟨hin, h⟩ := gd_o h
      refine C_ld11 hC hw hin dX1_keyOfPlaces_26 ?_
      refine lv_iadd hx hb dX1_keyOfPlaces_27 ?_
      refine lv_iconst (v := 1) hx hb dX1_keyOfPlaces_28 (by decide) ?_
      refine lv_iadd hx hb dX1_keyOfPlaces_29 ?_
      refine lv_topi (fun y3 ey3 => ?_)
      have h := nm_o h y3 ey3
      refine lv_istore_n (lv' := [(2, .int y3), (0, .ref (q 8)), (1, .int x1)]) hx hb dX1_keyOfPlaces_30 rfl hl (by decide) rfl (fun ls hl => ?_)
      refine lv_iload_n hx hb dX1_keyOfPlaces_31 rfl (lv_at hl 2 rfl) ?_
      refine lv_istore_n (lv' := [(3, .int x1), (2, .int y3), (0, .ref (q 8)), (1, .int x1)]) hx hb dX1_keyOfPlaces_32 rfl hl (by decide) rfl (fun ls hl => ?_)
      exact w_X1_keyOfPlaces_33 hC N x1 y3 r σ' _ ih N σ x1 _ _ ls h hw (lv_sub hl [2, 3, 1, 0] rfl)
def f_X1_keyOfPlaces (N : Nat) (σ : St) : Option (Int64 × St) :=
  lp_X1_keyOfPlaces_2 N N σ (0 : Int32)
set_option maxRecDepth 100000 in
set_option maxHeartbeats 4000000 in
theorem c_X1_keyOfPlaces (l : Launch) (D : va_G) (q : Nat → Nat) (k : cK) (N : Nat) (σ : St) (r : Int64) (σ' : St) (h : f_X1_keyOfPlaces N σ = some (r, σ')) :
    Met l yX1_keyOfPlaces [.code yX1_keyOfPlaces cX1_keyOfPlaces 4 (some .long)] rm_X1_keyOfPlaces (PC D (CW q k σ) k [.ref (q 8)]) (QR D (CW q k σ) (CW q k σ') (some (.long r))) 0 0 (AQ (CW q k σ)) := by
  refine met_of (by decide) (Nat.le_of_ble_eq_true rfl) ?_
  intro p e s m below meth c hC hw ls hl
  have hC : Cx p s m meth c cX1_keyOfPlaces RX1 4 (some .long) := hC
  have hl : lv_has ls 4 [(0, .ref (q 8))] := hl
  have hx := hC.1
  have hb := hC.2.1
  unfold f_X1_keyOfPlaces at h
  refine lv_iconst (v := 0) hx hb dX1_keyOfPlaces_0 (by decide) ?_
  refine lv_istore_n (lv' := [(1, .int (0 : Int32)), (0, .ref (q 8))]) hx hb dX1_keyOfPlaces_1 rfl hl (by decide) rfl (fun ls hl => ?_)
  exact w_X1_keyOfPlaces_2 hC N r σ' N σ (0 : Int32) _ _ ls h hw (lv_sub hl [1, 0] rfl)
/-! SlideBoards$Finder.layoutOfPlaces()J -/
abbrev rm_X1_layoutOfPlaces : Room := { frames := 0, cells := 0, slots := 0, locals := 0 }
def lp_X1_layoutOfPlaces_12 (N : Nat) (σ : St) : Nat → Int64 → Int32 → Option Int64
  | 0, _, _ => none
  | n + 1, x1, x3 => if x3 < 0 then (some x1) else (gd (okx x3 8) (nm ((jlshl x1 (5 : Int32)) ||| (Int32.toInt64 ((ra σ 7 x3) + (1 : Int32)))) (fun y2 => nm (x3 + (-1)) (fun y3 => lp_X1_layoutOfPlaces_12 N σ n y2 y3))))
set_option maxRecDepth 100000 in
set_option maxHeartbeats 4000000 in
theorem w_X1_layoutOfPlaces_12 {p : Program} {l : Launch} {e : Env} {s : State} {m : MethodId} {below : List Frame} {meth : Method} {c : Code} {args : Array Value} {D : va_G} {q : Nat → Nat} {k : cK} {ws0 : va_W} (hC : Cx p s m meth c cX1_layoutOfPlaces RX1 4 (some .long)) (N : Nat) (σ : St) (r : Int64) :
    ∀ (n : Nat) (x1 : Int64) (x3 : Int32) (H : Heap) (locs : List Loc) (ls : Array Slot), lp_X1_layoutOfPlaces_12 N σ n x1 x3 = some r → WH D (CW q k σ) k (AQ ws0) s s.heap H locs → lv_has ls 4 [(0, .ref (q 8)), (1, .long x1), (3, .int x3)] → W p l e rm_X1_layoutOfPlaces s m args below meth c H locs 0 0 (MQ below (QR D ws0 (CW q k σ) (some (.long r))) args s 0 0 (AQ ws0)) (F0 m 12 ls []) := by
  have hx := hC.1
  have hb := hC.2.1
  intro n
  induction n with
  | zero =>
    intro x1 x3 H locs ls h
    cases h
  | succ n ih =>
    intro x1 x3 H locs ls h hw hl
    rw [lp_X1_layoutOfPlaces_12] at h
    refine lv_iload_n hx hb dX1_layoutOfPlaces_12 rfl (lv_at hl 2 rfl) ?_
    refine lv_if_lt (tgt := 36) hx hb dX1_layoutOfPlaces_13 (by decide) (fun c => ?_) (fun c => ?_)
    · have h := if_t h c
      refine lv_lload_n hx hb dX1_layoutOfPlaces_36 rfl (lv_at hl 1 rfl) ?_
      cases h
      exact ret_l hC hw dX1_layoutOfPlaces_37
    · have h := if_f h c
      refine lv_lload_n hx hb dX1_layoutOfPlaces_16 rfl (lv_at hl 1 rfl) ?_
      refine lv_iconst (v := 5) hx hb dX1_layoutOfPlaces_17 (by decide) ?_
      refine lv_lshl (v := jlshl x1 (5 : Int32)) hx hb dX1_layoutOfPlaces_18 rfl ?_
      refine lv_aload_n hx hb dX1_layoutOfPlaces_19 rfl (lv_at hl 0 rfl) ?_
      refine C_g_X1_25 hC hw dX1_layoutOfPlaces_20 ?_
      refine lv_iload_n hx hb dX1_layoutOfPlaces_23 rfl (lv_at hl 2 rfl) ?_
      obtain ⟨hin, h⟩ := gd_o h
      refine C_ld11 hC hw hin dX1_layoutOfPlaces_24 ?_
      refine lv_iconst (v := 1) hx hb dX1_layoutOfPlaces_25 (by decide) ?_
      refine lv_iadd hx hb dX1_layoutOfPlaces_26 ?_
      refine lv_i2l (v := Int32.toInt64 ((ra σ 7 x3) + (1 : Int32))) hx hb dX1_layoutOfPlaces_27 rfl ?_
      refine lv_lor hx hb dX1_layoutOfPlaces_28 ?_
      refine lv_topl (fun y2 ey2 => ?_)
      have h := nm_o h y2 ey2
      refine lv_lstore_n (lv' := [(1, .long y2), (0, .ref (q 8)), (3, .int x3)]) hx hb dX1_layoutOfPlaces_29 rfl hl (by decide) rfl (fun ls hl => ?_)
      obtain ⟨y3, ey3⟩ : ∃ y : Int32, y = x3 + (-1) := ⟨_, rfl⟩
      have h := nm_o h y3 ey3
      refine lv_iinc (v := y3) (lv' := [(3, .int y3), (1, .long y2), (0, .ref (q 8))]) hx hb dX1_layoutOfPlaces_30 hl (k := 2) rfl (by rw [ey3]; rfl) (by decide) rfl (fun ls hl => ?_)
      refine lv_goto (tgt := 12) hx hb dX1_layoutOfPlaces_33 (by decide) ?_
      exact ih y2 y3 _ _ ls h hw (lv_sub hl [2, 1, 0] rfl)
def f_X1_layoutOfPlaces (N : Nat) (σ : St) : Option Int64 :=
  nm ((σ.1 6) - (1 : Int32)) (fun y1 => lp_X1_layoutOfPlaces_12 N σ N (0 : Int64) y1)
set_option maxRecDepth 100000 in
set_option maxHeartbeats 4000000 in
theorem c_X1_layoutOfPlaces (l : Launch) (D : va_G) (q : Nat → Nat) (k : cK) (N : Nat) (σ : St) (r : Int64) (h : f_X1_layoutOfPlaces N σ = some r) :
    Met l yX1_layoutOfPlaces [.code yX1_layoutOfPlaces cX1_layoutOfPlaces 4 (some .long)] rm_X1_layoutOfPlaces (PC D (CW q k σ) k [.ref (q 8)]) (QR D (CW q k σ) (CW q k σ) (some (.long r))) 0 0 (AQ (CW q k σ)) := by
  refine met_of (by decide) (Nat.le_of_ble_eq_true rfl) ?_
  intro p e s m below meth c hC hw ls hl
  have hC : Cx p s m meth c cX1_layoutOfPlaces RX1 4 (some .long) := hC
  have hl : lv_has ls 4 [(0, .ref (q 8))] := hl
  have hx := hC.1
  have hb := hC.2.1
  unfold f_X1_layoutOfPlaces at h
  refine lv_lconst (v := 0) hx hb dX1_layoutOfPlaces_0 (by decide) ?_
  refine lv_lstore_n (lv' := [(1, .long (0 : Int64)), (0, .ref (q 8))]) hx hb dX1_layoutOfPlaces_1 rfl hl (by decide) rfl (fun ls hl => ?_)
  refine lv_aload_n hx hb dX1_layoutOfPlaces_2 rfl (lv_at hl 1 rfl) ?_
  refine C_g_X1_34 hC hw dX1_layoutOfPlaces_3 ?_
  refine C_g_X1_42 hC hw dX1_layoutOfPlaces_6 ?_
  refine lv_iconst (v := 1) hx hb dX1_layoutOfPlaces_9 (by decide) ?_
  refine lv_isub hx hb dX1_layoutOfPlaces_10 ?_
  refine lv_topi (fun y1 ey1 => ?_)
  have h := nm_o h y1 ey1
  refine lv_istore_n (lv' := [(3, .int y1), (1, .long (0 : Int64)), (0, .ref (q 8))]) hx hb dX1_layoutOfPlaces_11 rfl hl (by decide) rfl (fun ls hl => ?_)
  exact w_X1_layoutOfPlaces_12 hC N σ r N (0 : Int64) y1 _ _ ls h hw (lv_sub hl [2, 1, 0] rfl)
/-! SlideBoards$Finder.offer(II)I -/
abbrev rm_X1_offer : Room := { frames := 2, cells := 0, slots := 0, locals := 48 }
def f_X1_offer (N : Nat) (σ : St) (a0 : Int32) (a1 : Int32) : Option (Int32 × St) :=
  bd (f_X1_keyOfPlaces N σ) (fun r1 σ2 => bd1 (f_X4_holds N σ2 r1) (fun r3 => if r3 = 0 then (if (σ2.1 12) < (σ2.1 9) then (bd1 (f_X1_layoutOfPlaces N σ2) (fun r4 => bd1 (f_X4_take N σ2 r1 r4 a0 a1) (fun σ5 => if (σ5.1 11) = 0 then (some ((1 : Int32), σ5)) else (bd1 (f_X2_firstOpen_a11 N σ5) (fun r6 => if r6 = (-1 : Int32) then (some ((0 : Int32), σ5)) else (some ((1 : Int32), σ5))))))) else (some ((-2 : Int32), σ2))) else (some ((1 : Int32), σ2))))
set_option maxRecDepth 100000 in
set_option maxHeartbeats 4000000 in
theorem c_X1_offer (l : Launch) (D : va_G) (q : Nat → Nat) (k : cK) (N : Nat) (σ : St) (a0 : Int32) (a1 : Int32) (r : Int32) (σ' : St) (h : f_X1_offer N σ a0 a1 = some (r, σ')) :
    Met l yX1_offer [.code yX1_offer cX1_offer 5 (some .int)] rm_X1_offer (PC D (CW q k σ) k [.ref (q 8), .int a0, .int a1]) (QR D (CW q k σ) (CW q k σ') (some (.int r))) 0 0 (AQ (CW q k σ)) := by
  refine met_of (by decide) (Nat.le_of_ble_eq_true rfl) ?_
  intro p e s m below meth c hC hw ls hl
  have hC : Cx p s m meth c cX1_offer RX1 5 (some .int) := hC
  have hl : lv_has ls 5 [(0, .ref (q 8)), (1, .int a0), (2, .int a1)] := hl
  have hx := hC.1
  have hb := hC.2.1
  unfold f_X1_offer at h
  refine lv_aload_n hx hb dX1_offer_0 rfl (lv_at hl 0 rfl) ?_
  obtain ⟨r1, σ2, hc, h⟩ := bd_o h
  refine go_l (run_V (As := []) (rest := []) hC hw (c_X1_keyOfPlaces l D q k N σ r1 σ2 hc) kw_106 kw_108 kw_109 kw_81 kw_107 hd_X1_keyOfPlaces ⟨rfl, rfl⟩ ⟨Nat.le_of_ble_eq_true rfl, Nat.le_of_ble_eq_true rfl⟩ 8 rfl rfl rfl hl.1 rfl (Nat.le_of_ble_eq_true rfl) dX1_offer_1 ⟨Nat.zero_le _, Nat.zero_le _⟩) hw (fun H locs hw => ?_)
  refine lv_lstore_n (lv' := [(3, .long r1), (0, .ref (q 8)), (1, .int a0), (2, .int a1)]) hx hb dX1_offer_4 rfl hl (by decide) rfl (fun ls hl => ?_)
  refine lv_aload_n hx hb dX1_offer_5 rfl (lv_at hl 1 rfl) ?_
  refine C_g_X1_12 hC hw dX1_offer_6 ?_
  refine lv_lload_n hx hb dX1_offer_9 rfl (lv_at hl 0 rfl) ?_
  obtain ⟨r3, hc, h⟩ := bd1_o h
  refine go_i (run_VN (As := [.long r1]) (rest := []) hC hw (c_X4_holds l D q k N σ2 r1 r3 hc) kw_110 kw_112 kw_113 kw_87 kw_111 hd_X4_holds ⟨rfl, rfl⟩ ⟨Nat.le_of_ble_eq_true rfl, Nat.le_of_ble_eq_true rfl⟩ 14 rfl rfl rfl hl.1 rfl (Nat.le_of_ble_eq_true rfl) dX1_offer_10 ⟨Nat.zero_le _, Nat.zero_le _⟩) hw (fun H locs hw => ?_)
  refine lv_if_eq (tgt := 18) hx hb dX1_offer_13 (by decide) (fun c => ?_) (fun c => ?_)
  · have h := if_t h c
    refine lv_aload_n hx hb dX1_offer_18 rfl (lv_at hl 1 rfl) ?_
    refine C_g_X1_12 hC hw dX1_offer_19 ?_
    refine C_g_X1_79 hC hw dX1_offer_22 ?_
    refine lv_aload_n hx hb dX1_offer_25 rfl (lv_at hl 1 rfl) ?_
    refine C_g_X1_59 hC hw dX1_offer_26 ?_
    refine lv_icmp_lt (tgt := 35) hx hb dX1_offer_29 (by decide) (fun c => ?_) (fun c => ?_)
    · have h := if_t h c
      refine lv_aload_n hx hb dX1_offer_35 rfl (lv_at hl 1 rfl) ?_
      refine C_g_X1_12 hC hw dX1_offer_36 ?_
      refine lv_lload_n hx hb dX1_offer_39 rfl (lv_at hl 0 rfl) ?_
      refine lv_aload_n hx hb dX1_offer_40 rfl (lv_at hl 1 rfl) ?_
      obtain ⟨r4, hc, h⟩ := bd1_o h
      refine go_l (run_V (As := []) (rest := [.long r1, .ref (q 14)]) hC hw (c_X1_layoutOfPlaces l D q k N σ2 r4 hc) kw_114 kw_116 kw_117 kw_81 kw_115 hd_X1_layoutOfPlaces ⟨rfl, rfl⟩ ⟨Nat.le_of_ble_eq_true rfl, Nat.le_of_ble_eq_true rfl⟩ 8 rfl rfl rfl hl.1 rfl (Nat.le_of_ble_eq_true rfl) dX1_offer_41 ⟨Nat.zero_le _, Nat.zero_le _⟩) hw (fun H locs hw => ?_)
      refine lv_iload_n hx hb dX1_offer_44 rfl (lv_at hl 2 rfl) ?_
      refine lv_iload_n hx hb dX1_offer_45 rfl (lv_at hl 3 rfl) ?_
      obtain ⟨σ5, hc, h⟩ := bd1_o h
      refine go_v (run_VN (As := [.long r1, .long r4, .int a0, .int a1]) (rest := []) hC hw (c_X4_take l D q k N σ2 r1 r4 a0 a1 σ5 hc) kw_118 kw_120 kw_121 kw_87 kw_119 hd_X4_take ⟨rfl, rfl⟩ ⟨Nat.le_of_ble_eq_true rfl, Nat.le_of_ble_eq_true rfl⟩ 14 rfl rfl rfl hl.1 rfl (Nat.le_of_ble_eq_true rfl) dX1_offer_46 ⟨Nat.zero_le _, Nat.zero_le _⟩) hw (fun H locs hw => ?_)
      refine lv_aload_n hx hb dX1_offer_49 rfl (lv_at hl 1 rfl) ?_
      refine C_g_X1_65 hC hw dX1_offer_50 ?_
      refine lv_if_eq (tgt := 79) hx hb dX1_offer_53 (by decide) (fun c => ?_) (fun c => ?_)
      · have h := if_t h c
        refine lv_iconst (v := 1) hx hb dX1_offer_79 (by decide) ?_
        cases h
        exact ret_i hC hw dX1_offer_80
      · have h := if_f h c
        refine lv_aload_n hx hb dX1_offer_56 rfl (lv_at hl 1 rfl) ?_
        refine C_g_X1_38 hC hw dX1_offer_57 ?_
        refine lv_aload_n hx hb dX1_offer_60 rfl (lv_at hl 1 rfl) ?_
        refine C_g_X1_34 hC hw dX1_offer_61 ?_
        refine lv_aload_n hx hb dX1_offer_64 rfl (lv_at hl 1 rfl) ?_
        refine C_g_X1_25 hC hw dX1_offer_65 ?_
        obtain ⟨r6, hc, h⟩ := bd1_o h
        refine go_i (run_VN (As := [.ref (q 1), .ref (q 11)]) (rest := []) hC hw (c_X2_firstOpen_a11 l D q k N σ5 r6 hc) kw_75 kw_77 kw_78 kw_64 kw_76 hd_X2_firstOpen ⟨rfl, rfl⟩ ⟨Nat.le_of_ble_eq_true rfl, Nat.le_of_ble_eq_true rfl⟩ 4 rfl rfl rfl hl.1 rfl (Nat.le_of_ble_eq_true rfl) dX1_offer_68 ⟨Nat.zero_le _, Nat.zero_le _⟩) hw (fun H locs hw => ?_)
        refine lv_iconst (v := -1) hx hb dX1_offer_71 (by decide) ?_
        refine lv_icmp_ne (tgt := 79) hx hb dX1_offer_72 (by decide) (fun c => ?_) (fun c => ?_)
        · have h := if_f h c
          refine lv_iconst (v := 1) hx hb dX1_offer_79 (by decide) ?_
          cases h
          exact ret_i hC hw dX1_offer_80
        · have h := if_t h c
          refine lv_iconst (v := 0) hx hb dX1_offer_75 (by decide) ?_
          refine lv_goto (tgt := 80) hx hb dX1_offer_76 (by decide) ?_
          cases h
          exact ret_i hC hw dX1_offer_80
    · have h := if_f h c
      refine lv_bipush (v := -2) hx hb dX1_offer_32 (by decide) ?_
      cases h
      exact ret_i hC hw dX1_offer_34
  · have h := if_f h c
    refine lv_iconst (v := 1) hx hb dX1_offer_16 (by decide) ?_
    cases h
    exact ret_i hC hw dX1_offer_17
/-! SlideBoards$Finder.offerPresent()I -/
abbrev rm_X1_offerPresent : Room := { frames := 3, cells := 0, slots := 0, locals := 72 }
def lp_X1_offerPresent_2 (N : Nat) : Nat → St → Int32 → Option (Int32 × St)
  | 0, _, _ => none
  | n + 1, σ, x1 => if (σ.1 6) ≤ x1 then (bd (f_X1_offer N σ (-1 : Int32) (0 : Int32)) (fun r1 σ2 => some (r1, σ2))) else (gd (okx x1 8) (bd1 (f_X0_leastCell N σ (ra σ 1 x1)) (fun r3 => gd (okx x1 8) (nm (sA σ 6 x1 r3) (fun σ4 => gd (okx x1 8) (gd (okx x1 8) (nm (sA σ4 7 x1 (ra σ4 6 x1)) (fun σ5 => nm (x1 + (1 : Int32)) (fun y6 => lp_X1_offerPresent_2 N n σ5 y6)))))))))
set_option maxRecDepth 100000 in
set_option maxHeartbeats 4000000 in
theorem w_X1_offerPresent_2 {p : Program} {l : Launch} {e : Env} {s : State} {m : MethodId} {below : List Frame} {meth : Method} {c : Code} {args : Array Value} {D : va_G} {q : Nat → Nat} {k : cK} {ws0 : va_W} (hC : Cx p s m meth c cX1_offerPresent RX1 2 (some .int)) (N : Nat) (r : Int32) (σ' : St) :
    ∀ (n : Nat) (σ : St) (x1 : Int32) (H : Heap) (locs : List Loc) (ls : Array Slot), lp_X1_offerPresent_2 N n σ x1 = some (r, σ') → WH D (CW q k σ) k (AQ ws0) s s.heap H locs → lv_has ls 2 [(0, .ref (q 8)), (1, .int x1)] → W p l e rm_X1_offerPresent s m args below meth c H locs 0 0 (MQ below (QR D ws0 (CW q k σ') (some (.int r))) args s 0 0 (AQ ws0)) (F0 m 2 ls []) := by
  have hx := hC.1
  have hb := hC.2.1
  intro n
  induction n with
  | zero =>
    intro σ x1 H locs ls h
    cases h
  | succ n ih =>
    intro σ x1 H locs ls h hw hl
    rw [lp_X1_offerPresent_2] at h
    refine lv_iload_n hx hb dX1_offerPresent_2 rfl (lv_at hl 1 rfl) ?_
    refine lv_aload_n hx hb dX1_offerPresent_3 rfl (lv_at hl 0 rfl) ?_
    refine C_g_X1_34 hC hw dX1_offerPresent_4 ?_
    refine C_g_X1_42 hC hw dX1_offerPresent_7 ?_
    refine lv_icmp_ge (tgt := 49) hx hb dX1_offerPresent_10 (by decide) (fun c => ?_) (fun c => ?_)
    · have h := if_t h c
      refine lv_aload_n hx hb dX1_offerPresent_49 rfl (lv_at hl 0 rfl) ?_
      refine lv_iconst (v := -1) hx hb dX1_offerPresent_50 (by decide) ?_
      refine lv_iconst (v := 0) hx hb dX1_offerPresent_51 (by decide) ?_
      obtain ⟨r1, σ2, hc, h⟩ := bd_o h
      refine go_i (run_V (As := [.int (-1 : Int32), .int (0 : Int32)]) (rest := []) hC hw (c_X1_offer l D q k N σ (-1 : Int32) (0 : Int32) r1 σ2 hc) kw_122 kw_124 kw_125 kw_81 kw_123 hd_X1_offer ⟨rfl, rfl⟩ ⟨Nat.le_of_ble_eq_true rfl, Nat.le_of_ble_eq_true rfl⟩ 8 rfl rfl rfl hl.1 rfl (Nat.le_of_ble_eq_true rfl) dX1_offerPresent_52 ⟨Nat.zero_le _, Nat.zero_le _⟩) hw (fun H locs hw => ?_)
      cases h
      exact ret_i hC hw dX1_offerPresent_55
    · have h := if_f h c
      refine lv_aload_n hx hb dX1_offerPresent_13 rfl (lv_at hl 0 rfl) ?_
      refine C_g_X1_22 hC hw dX1_offerPresent_14 ?_
      refine lv_iload_n hx hb dX1_offerPresent_17 rfl (lv_at hl 1 rfl) ?_
      refine lv_aload_n hx hb dX1_offerPresent_18 rfl (lv_at hl 0 rfl) ?_
      refine C_g_X1_34 hC hw dX1_offerPresent_19 ?_
      refine C_g_X1_48 hC hw dX1_offerPresent_22 ?_
      refine lv_iload_n hx hb dX1_offerPresent_25 rfl (lv_at hl 1 rfl) ?_
      obtain ⟨hin, h⟩ := gd_o h
      refine C_ld3 hC hw hin dX1_offerPresent_26 ?_
      obtain ⟨r3, hc, h⟩ := bd1_o h
      refine go_i (run_SN (As := [.int (ra σ 1 x1)]) (rest := [.int x1, .ref (q 10)]) hC hw (c_X0_leastCell l D q k N σ (ra σ 1 x1) r3 hc) kw_79 kw_50 kw_1 kw_49 hd_X0_leastCell ⟨rfl, rfl⟩ ⟨Nat.le_of_ble_eq_true rfl, Nat.le_of_ble_eq_true rfl⟩ rfl hl.1 rfl (Nat.le_of_ble_eq_true rfl) dX1_offerPresent_27 ⟨Nat.zero_le _, Nat.zero_le _⟩) hw (fun H locs hw => ?_)
      obtain ⟨hin, h⟩ := gd_o h
      refine C_st10 hC hw hin dX1_offerPresent_30 (fun σ4 eσ4 H locs hw => ?_)
      have h := nm_o h σ4 eσ4
      refine lv_aload_n hx hb dX1_offerPresent_31 rfl (lv_at hl 0 rfl) ?_
      refine C_g_X1_25 hC hw dX1_offerPresent_32 ?_
      refine lv_iload_n hx hb dX1_offerPresent_35 rfl (lv_at hl 1 rfl) ?_
      refine lv_aload_n hx hb dX1_offerPresent_36 rfl (lv_at hl 0 rfl) ?_
      refine C_g_X1_22 hC hw dX1_offerPresent_37 ?_
      refine lv_iload_n hx hb dX1_offerPresent_40 rfl (lv_at hl 1 rfl) ?_
      obtain ⟨hin, h⟩ := gd_o h
      refine C_ld10 hC hw hin dX1_offerPresent_41 ?_
      obtain ⟨hin, h⟩ := gd_o h
      refine C_st11 hC hw hin dX1_offerPresent_42 (fun σ5 eσ5 H locs hw => ?_)
      have h := nm_o h σ5 eσ5
      obtain ⟨y6, ey6⟩ : ∃ y : Int32, y = x1 + (1 : Int32) := ⟨_, rfl⟩
      have h := nm_o h y6 ey6
      refine lv_iinc (v := y6) (lv' := [(1, .int y6), (0, .ref (q 8))]) hx hb dX1_offerPresent_43 hl (k := 1) rfl (by rw [ey6]; rfl) (by decide) rfl (fun ls hl => ?_)
      refine lv_goto (tgt := 2) hx hb dX1_offerPresent_46 (by decide) ?_
      exact ih σ5 y6 _ _ ls h hw (lv_sub hl [1, 0] rfl)
def f_X1_offerPresent (N : Nat) (σ : St) : Option (Int32 × St) :=
  lp_X1_offerPresent_2 N N σ (0 : Int32)
set_option maxRecDepth 100000 in
set_option maxHeartbeats 4000000 in
theorem c_X1_offerPresent (l : Launch) (D : va_G) (q : Nat → Nat) (k : cK) (N : Nat) (σ : St) (r : Int32) (σ' : St) (h : f_X1_offerPresent N σ = some (r, σ')) :
    Met l yX1_offerPresent [.code yX1_offerPresent cX1_offerPresent 2 (some .int)] rm_X1_offerPresent (PC D (CW q k σ) k [.ref (q 8)]) (QR D (CW q k σ) (CW q k σ') (some (.int r))) 0 0 (AQ (CW q k σ)) := by
  refine met_of (by decide) (Nat.le_of_ble_eq_true rfl) ?_
  intro p e s m below meth c hC hw ls hl
  have hC : Cx p s m meth c cX1_offerPresent RX1 2 (some .int) := hC
  have hl : lv_has ls 2 [(0, .ref (q 8))] := hl
  have hx := hC.1
  have hb := hC.2.1
  unfold f_X1_offerPresent at h
  refine lv_iconst (v := 0) hx hb dX1_offerPresent_0 (by decide) ?_
  refine lv_istore_n (lv' := [(1, .int (0 : Int32)), (0, .ref (q 8))]) hx hb dX1_offerPresent_1 rfl hl (by decide) rfl (fun ls hl => ?_)
  exact w_X1_offerPresent_2 hC N r σ' N σ (0 : Int32) _ _ ls h hw (lv_sub hl [1, 0] rfl)
/-! SlideBoards$Finder.load(J)I -/
abbrev rm_X1_load : Room := { frames := 0, cells := 0, slots := 0, locals := 0 }
def lp_X1_load_14 (N : Nat) : Nat → St → Int32 → Int64 → Int32 → Option (Int32 × St)
  | 0, _, _, _, _ => none
  | n + 1, σ, x3, x4, x6 => if (σ.1 6) ≤ x6 then (some (x3, σ)) else (gd (okx x6 8) (nm (sA σ 7 x6 ((Int64.toInt32 (x4 &&& (31 : Int64))) - (1 : Int32))) (fun σ2 => nm (jlushr x4 (5 : Int32)) (fun y3 => gd (okx x6 8) (gd (okx x6 8) (nm ((ra σ2 7 x6) - (ra σ2 6 x6)) (fun y4 => if y4 < 0 then (gd (okx x6 8) (gd (okx x6 8) (nm (sA σ2 8 x6 (jushr (ra σ2 1 x6) (-y4))) (fun σ5 => gd (okx x6 8) (nm (x3 ||| (ra σ5 8 x6)) (fun y6 => nm (x6 + (1 : Int32)) (fun y7 => lp_X1_load_14 N n σ5 y6 y3 y7))))))) else (gd (okx x6 8) (gd (okx x6 8) (nm (sA σ2 8 x6 (jshl (ra σ2 1 x6) y4)) (fun σ8 => gd (okx x6 8) (nm (x3 ||| (ra σ8 8 x6)) (fun y9 => nm (x6 + (1 : Int32)) (fun y10 => lp_X1_load_14 N n σ8 y9 y3 y10))))))))))))))
set_option maxRecDepth 100000 in
set_option maxHeartbeats 4000000 in
theorem w_X1_load_14 {p : Program} {l : Launch} {e : Env} {s : State} {m : MethodId} {below : List Frame} {meth : Method} {c : Code} {args : Array Value} {D : va_G} {q : Nat → Nat} {k : cK} {ws0 : va_W} (hC : Cx p s m meth c cX1_load RX1 8 (some .int)) (N : Nat) (r : Int32) (σ' : St) :
    ∀ (n : Nat) (σ : St) (x3 : Int32) (x4 : Int64) (x6 : Int32) (H : Heap) (locs : List Loc) (ls : Array Slot), lp_X1_load_14 N n σ x3 x4 x6 = some (r, σ') → WH D (CW q k σ) k (AQ ws0) s s.heap H locs → lv_has ls 8 [(0, .ref (q 8)), (3, .int x3), (4, .long x4), (6, .int x6)] → W p l e rm_X1_load s m args below meth c H locs 0 0 (MQ below (QR D ws0 (CW q k σ') (some (.int r))) args s 0 0 (AQ ws0)) (F0 m 14 ls []) := by
  have hx := hC.1
  have hb := hC.2.1
  intro n
  induction n with
  | zero =>
    intro σ x3 x4 x6 H locs ls h
    cases h
  | succ n ih =>
    intro σ x3 x4 x6 H locs ls h hw hl
    rw [lp_X1_load_14] at h
    refine lv_iload hx hb dX1_load_14 (lv_at hl 3 rfl) ?_
    refine lv_aload_n hx hb dX1_load_16 rfl (lv_at hl 0 rfl) ?_
    refine C_g_X1_34 hC hw dX1_load_17 ?_
    refine C_g_X1_42 hC hw dX1_load_20 ?_
    refine lv_icmp_ge (tgt := 123) hx hb dX1_load_23 (by decide) (fun c => ?_) (fun c => ?_)
    · have h := if_t h c
      refine lv_iload_n hx hb dX1_load_123 rfl (lv_at hl 1 rfl) ?_
      cases h
      exact ret_i hC hw dX1_load_124
    · have h := if_f h c
      refine lv_aload_n hx hb dX1_load_26 rfl (lv_at hl 0 rfl) ?_
      refine C_g_X1_25 hC hw dX1_load_27 ?_
      refine lv_iload hx hb dX1_load_30 (lv_at hl 3 rfl) ?_
      refine lv_lload hx hb dX1_load_32 (lv_at hl 2 rfl) ?_
      refine lv_ldc2 hx hb hC.2.2.2.2.1 (hw.2.2.2.2.all _ _ kw_130) dX1_load_34 ?_
      refine lv_land hx hb dX1_load_37 ?_
      refine lv_l2i (v := Int64.toInt32 (x4 &&& (31 : Int64))) hx hb dX1_load_38 rfl ?_
      refine lv_iconst (v := 1) hx hb dX1_load_39 (by decide) ?_
      refine lv_isub hx hb dX1_load_40 ?_
      obtain ⟨hin, h⟩ := gd_o h
      refine C_st11 hC hw hin dX1_load_41 (fun σ2 eσ2 H locs hw => ?_)
      have h := nm_o h σ2 eσ2
      refine lv_lload hx hb dX1_load_42 (lv_at hl 2 rfl) ?_
      refine lv_iconst (v := 5) hx hb dX1_load_44 (by decide) ?_
      refine lv_lushr (v := jlushr x4 (5 : Int32)) hx hb dX1_load_45 rfl ?_
      refine lv_topl (fun y3 ey3 => ?_)
      have h := nm_o h y3 ey3
      refine lv_lstore (lv' := [(4, .long y3), (0, .ref (q 8)), (3, .int x3), (6, .int x6)]) hx hb dX1_load_46 hl (by decide) rfl (fun ls hl => ?_)
      refine lv_aload_n hx hb dX1_load_48 rfl (lv_at hl 1 rfl) ?_
      refine C_g_X1_25 hC hw dX1_load_49 ?_
      refine lv_iload hx hb dX1_load_52 (lv_at hl 3 rfl) ?_
      obtain ⟨hin, h⟩ := gd_o h
      refine C_ld11 hC hw hin dX1_load_54 ?_
      refine lv_aload_n hx hb dX1_load_55 rfl (lv_at hl 1 rfl) ?_
      refine C_g_X1_22 hC hw dX1_load_56 ?_
      refine lv_iload hx hb dX1_load_59 (lv_at hl 3 rfl) ?_
      obtain ⟨hin, h⟩ := gd_o h
      refine C_ld10 hC hw hin dX1_load_61 ?_
      refine lv_isub hx hb dX1_load_62 ?_
      refine lv_topi (fun y4 ey4 => ?_)
      have h := nm_o h y4 ey4
      refine lv_istore (lv' := [(7, .int y4), (4, .long y3), (0, .ref (q 8)), (3, .int x3), (6, .int x6)]) hx hb dX1_load_63 hl (by decide) rfl (fun ls hl => ?_)
      refine lv_aload_n hx hb dX1_load_65 rfl (lv_at hl 2 rfl) ?_
      refine C_g_X1_28 hC hw dX1_load_66 ?_
      refine lv_iload hx hb dX1_load_69 (lv_at hl 4 rfl) ?_
      refine lv_iload hx hb dX1_load_71 (lv_at hl 0 rfl) ?_
      refine lv_if_lt (tgt := 92) hx hb dX1_load_73 (by decide) (fun c => ?_) (fun c => ?_)
      · have h := if_t h c
        refine lv_aload_n hx hb dX1_load_92 rfl (lv_at hl 2 rfl) ?_
        refine C_g_X1_34 hC hw dX1_load_93 ?_
        refine C_g_X1_48 hC hw dX1_load_96 ?_
        refine lv_iload hx hb dX1_load_99 (lv_at hl 4 rfl) ?_
        obtain ⟨hin, h⟩ := gd_o h
        refine C_ld3 hC hw hin dX1_load_101 ?_
        refine lv_iload hx hb dX1_load_102 (lv_at hl 0 rfl) ?_
        refine lv_ineg hx hb dX1_load_104 ?_
        refine lv_iushr (v := jushr (ra σ2 1 x6) (-y4)) hx hb dX1_load_105 rfl ?_
        obtain ⟨hin, h⟩ := gd_o h
        refine C_st12 hC hw hin dX1_load_106 (fun σ5 eσ5 H locs hw => ?_)
        have h := nm_o h σ5 eσ5
        refine lv_iload_n hx hb dX1_load_107 rfl (lv_at hl 3 rfl) ?_
        refine lv_aload_n hx hb dX1_load_108 rfl (lv_at hl 2 rfl) ?_
        refine C_g_X1_28 hC hw dX1_load_109 ?_
        refine lv_iload hx hb dX1_load_112 (lv_at hl 4 rfl) ?_
        obtain ⟨hin, h⟩ := gd_o h
        refine C_ld12 hC hw hin dX1_load_114 ?_
        refine lv_ior hx hb dX1_load_115 ?_
        refine lv_topi (fun y6 ey6 => ?_)
        have h := nm_o h y6 ey6
        refine lv_istore_n (lv' := [(3, .int y6), (7, .int y4), (4, .long y3), (0, .ref (q 8)), (6, .int x6)]) hx hb dX1_load_116 rfl hl (by decide) rfl (fun ls hl => ?_)
        obtain ⟨y7, ey7⟩ : ∃ y : Int32, y = x6 + (1 : Int32) := ⟨_, rfl⟩
        have h := nm_o h y7 ey7
        refine lv_iinc (v := y7) (lv' := [(6, .int y7), (3, .int y6), (7, .int y4), (4, .long y3), (0, .ref (q 8))]) hx hb dX1_load_117 hl (k := 4) rfl (by rw [ey7]; rfl) (by decide) rfl (fun ls hl => ?_)
        refine lv_goto (tgt := 14) hx hb dX1_load_120 (by decide) ?_
        exact ih σ5 y6 y3 y7 _ _ ls h hw (lv_sub hl [4, 1, 3, 0] rfl)
      · have h := if_f h c
        refine lv_aload_n hx hb dX1_load_76 rfl (lv_at hl 2 rfl) ?_
        refine C_g_X1_34 hC hw dX1_load_77 ?_
        refine C_g_X1_48 hC hw dX1_load_80 ?_
        refine lv_iload hx hb dX1_load_83 (lv_at hl 4 rfl) ?_
        obtain ⟨hin, h⟩ := gd_o h
        refine C_ld3 hC hw hin dX1_load_85 ?_
        refine lv_iload hx hb dX1_load_86 (lv_at hl 0 rfl) ?_
        refine lv_ishl hx hb dX1_load_88 ?_
        refine lv_goto (tgt := 106) hx hb dX1_load_89 (by decide) ?_
        obtain ⟨hin, h⟩ := gd_o h
        refine C_st12 hC hw hin dX1_load_106 (fun σ8 eσ8 H locs hw => ?_)
        have h := nm_o h σ8 eσ8
        refine lv_iload_n hx hb dX1_load_107 rfl (lv_at hl 3 rfl) ?_
        refine lv_aload_n hx hb dX1_load_108 rfl (lv_at hl 2 rfl) ?_
        refine C_g_X1_28 hC hw dX1_load_109 ?_
        refine lv_iload hx hb dX1_load_112 (lv_at hl 4 rfl) ?_
        obtain ⟨hin, h⟩ := gd_o h
        refine C_ld12 hC hw hin dX1_load_114 ?_
        refine lv_ior hx hb dX1_load_115 ?_
        refine lv_topi (fun y9 ey9 => ?_)
        have h := nm_o h y9 ey9
        refine lv_istore_n (lv' := [(3, .int y9), (7, .int y4), (4, .long y3), (0, .ref (q 8)), (6, .int x6)]) hx hb dX1_load_116 rfl hl (by decide) rfl (fun ls hl => ?_)
        obtain ⟨y10, ey10⟩ : ∃ y : Int32, y = x6 + (1 : Int32) := ⟨_, rfl⟩
        have h := nm_o h y10 ey10
        refine lv_iinc (v := y10) (lv' := [(6, .int y10), (3, .int y9), (7, .int y4), (4, .long y3), (0, .ref (q 8))]) hx hb dX1_load_117 hl (k := 4) rfl (by rw [ey10]; rfl) (by decide) rfl (fun ls hl => ?_)
        refine lv_goto (tgt := 14) hx hb dX1_load_120 (by decide) ?_
        exact ih σ8 y9 y3 y10 _ _ ls h hw (lv_sub hl [4, 1, 3, 0] rfl)
def f_X1_load (N : Nat) (σ : St) (a0 : Int64) : Option (Int32 × St) :=
  nm (σ.1 7) (fun y1 => lp_X1_load_14 N N σ y1 a0 (0 : Int32))
set_option maxRecDepth 100000 in
set_option maxHeartbeats 4000000 in
theorem c_X1_load (l : Launch) (D : va_G) (q : Nat → Nat) (k : cK) (N : Nat) (σ : St) (a0 : Int64) (r : Int32) (σ' : St) (h : f_X1_load N σ a0 = some (r, σ')) :
    Met l yX1_load [.code yX1_load cX1_load 8 (some .int)] rm_X1_load (PC D (CW q k σ) k [.ref (q 8), .long a0]) (QR D (CW q k σ) (CW q k σ') (some (.int r))) 0 0 (AQ (CW q k σ)) := by
  refine met_of (by decide) (Nat.le_of_ble_eq_true rfl) ?_
  intro p e s m below meth c hC hw ls hl
  have hC : Cx p s m meth c cX1_load RX1 8 (some .int) := hC
  have hl : lv_has ls 8 [(0, .ref (q 8)), (1, .long a0)] := hl
  have hx := hC.1
  have hb := hC.2.1
  unfold f_X1_load at h
  refine lv_aload_n hx hb dX1_load_0 rfl (lv_at hl 0 rfl) ?_
  refine C_g_X1_34 hC hw dX1_load_1 ?_
  refine C_g_X1_124 hC hw dX1_load_4 ?_
  refine lv_topi (fun y1 ey1 => ?_)
  have h := nm_o h y1 ey1
  refine lv_istore_n (lv' := [(3, .int y1), (0, .ref (q 8)), (1, .long a0)]) hx hb dX1_load_7 rfl hl (by decide) rfl (fun ls hl => ?_)
  refine lv_lload_n hx hb dX1_load_8 rfl (lv_at hl 2 rfl) ?_
  refine lv_lstore (lv' := [(4, .long a0), (3, .int y1), (0, .ref (q 8)), (1, .long a0)]) hx hb dX1_load_9 hl (by decide) rfl (fun ls hl => ?_)
  refine lv_iconst (v := 0) hx hb dX1_load_11 (by decide) ?_
  refine lv_istore (lv' := [(6, .int (0 : Int32)), (4, .long a0), (3, .int y1), (0, .ref (q 8)), (1, .long a0)]) hx hb dX1_load_12 hl (by decide) rfl (fun ls hl => ?_)
  exact w_X1_load_14 hC N r σ' N σ y1 a0 (0 : Int32) _ _ ls h hw (lv_sub hl [3, 2, 1, 0] rfl)
/-! SlideBoards$Finder.tryWay(IIII)I -/
abbrev rm_X1_tryWay : Room := { frames := 3, cells := 0, slots := 0, locals := 72 }
def lp_X1_tryWay_22 (N : Nat) (x1 : Int32) (x2 : Int32) (x3 : Int32) (x4 : Int32) (x5 : Int32) : Nat → St → Int32 → Int32 → Int32 → Option (Int32 × St)
  | 0, _, _, _, _ => none
  | n + 1, σ, x6, x7, x8 => if (σ.1 10) < x8 then (gd (okx x2 8) (nm (sA σ 7 x2 x5) (fun σ3 => some (x7, σ3)))) else (if x7 = (1 : Int32) then (bd1 (f_X0_moved N σ x6 x3 x4) (fun r5 => if r5 = 0 then (gd (okx x2 8) (nm (sA σ 7 x2 x5) (fun σ11 => some (x7, σ11)))) else (bd1 (f_X0_leastCell N σ r5) (fun r6 => gd (okx x2 8) (nm (sA σ 7 x2 r6) (fun σ7 => bd (f_X1_offer N σ7 x1 ((((32 : Int32) * x8) + ((4 : Int32) * x2)) + x3)) (fun r8 σ9 => nm (x8 + (1 : Int32)) (fun y10 => lp_X1_tryWay_22 N x1 x2 x3 x4 x5 n σ9 r5 r8 y10)))))))) else (gd (okx x2 8) (nm (sA σ 7 x2 x5) (fun σ4 => some (x7, σ4)))))
set_option maxRecDepth 100000 in
set_option maxHeartbeats 4000000 in
theorem w_X1_tryWay_22 {p : Program} {l : Launch} {e : Env} {s : State} {m : MethodId} {below : List Frame} {meth : Method} {c : Code} {args : Array Value} {D : va_G} {q : Nat → Nat} {k : cK} {ws0 : va_W} (hC : Cx p s m meth c cX1_tryWay RX1 9 (some .int)) (N : Nat) (x1 : Int32) (x2 : Int32) (x3 : Int32) (x4 : Int32) (x5 : Int32) (r : Int32) (σ' : St) :
    ∀ (n : Nat) (σ : St) (x6 : Int32) (x7 : Int32) (x8 : Int32) (H : Heap) (locs : List Loc) (ls : Array Slot), lp_X1_tryWay_22 N x1 x2 x3 x4 x5 n σ x6 x7 x8 = some (r, σ') → WH D (CW q k σ) k (AQ ws0) s s.heap H locs → lv_has ls 9 [(0, .ref (q 8)), (1, .int x1), (2, .int x2), (3, .int x3), (4, .int x4), (5, .int x5), (6, .int x6), (7, .int x7), (8, .int x8)] → W p l e rm_X1_tryWay s m args below meth c H locs 0 0 (MQ below (QR D ws0 (CW q k σ') (some (.int r))) args s 0 0 (AQ ws0)) (F0 m 22 ls []) := by
  have hx := hC.1
  have hb := hC.2.1
  intro n
  induction n with
  | zero =>
    intro σ x6 x7 x8 H locs ls h
    cases h
  | succ n ih =>
    intro σ x6 x7 x8 H locs ls h hw hl
    rw [lp_X1_tryWay_22] at h
    refine lv_iload hx hb dX1_tryWay_22 (lv_at hl 8 rfl) ?_
    refine lv_aload_n hx hb dX1_tryWay_24 rfl (lv_at hl 0 rfl) ?_
    refine C_g_X1_62 hC hw dX1_tryWay_25 ?_
    refine lv_icmp_gt (tgt := 94) hx hb dX1_tryWay_28 (by decide) (fun c => ?_) (fun c => ?_)
    · have h := if_t h c
      refine lv_aload_n hx hb dX1_tryWay_94 rfl (lv_at hl 0 rfl) ?_
      refine C_g_X1_25 hC hw dX1_tryWay_95 ?_
      refine lv_iload_n hx hb dX1_tryWay_98 rfl (lv_at hl 2 rfl) ?_
      refine lv_iload hx hb dX1_tryWay_99 (lv_at hl 5 rfl) ?_
      obtain ⟨hin, h⟩ := gd_o h
      refine C_st11 hC hw hin dX1_tryWay_101 (fun σ3 eσ3 H locs hw => ?_)
      have h := nm_o h σ3 eσ3
      refine lv_iload hx hb dX1_tryWay_102 (lv_at hl 7 rfl) ?_
      cases h
      exact ret_i hC hw dX1_tryWay_104
    · have h := if_f h c
      refine lv_iload hx hb dX1_tryWay_31 (lv_at hl 7 rfl) ?_
      refine lv_iconst (v := 1) hx hb dX1_tryWay_33 (by decide) ?_
      refine lv_icmp_ne (tgt := 94) hx hb dX1_tryWay_34 (by decide) (fun c => ?_) (fun c => ?_)
      · have h := if_f h c
        refine lv_aload_n hx hb dX1_tryWay_94 rfl (lv_at hl 0 rfl) ?_
        refine C_g_X1_25 hC hw dX1_tryWay_95 ?_
        refine lv_iload_n hx hb dX1_tryWay_98 rfl (lv_at hl 2 rfl) ?_
        refine lv_iload hx hb dX1_tryWay_99 (lv_at hl 5 rfl) ?_
        obtain ⟨hin, h⟩ := gd_o h
        refine C_st11 hC hw hin dX1_tryWay_101 (fun σ4 eσ4 H locs hw => ?_)
        have h := nm_o h σ4 eσ4
        refine lv_iload hx hb dX1_tryWay_102 (lv_at hl 7 rfl) ?_
        cases h
        exact ret_i hC hw dX1_tryWay_104
      · have h := if_t h c
        refine lv_aload_n hx hb dX1_tryWay_37 rfl (lv_at hl 0 rfl) ?_
        refine C_g_X1_34 hC hw dX1_tryWay_38 ?_
        refine lv_iload hx hb dX1_tryWay_41 (lv_at hl 6 rfl) ?_
        refine lv_iload_n hx hb dX1_tryWay_43 rfl (lv_at hl 3 rfl) ?_
        refine lv_iload hx hb dX1_tryWay_44 (lv_at hl 4 rfl) ?_
        obtain ⟨r5, hc, h⟩ := bd1_o h
        refine go_i (run_VN (As := [.int x6, .int x3, .int x4]) (rest := []) hC hw (c_X0_moved l D q k N σ x6 x3 x4 r5 hc) kw_135 kw_56 kw_57 kw_1 kw_55 hd_X0_moved ⟨rfl, rfl⟩ ⟨Nat.le_of_ble_eq_true rfl, Nat.le_of_ble_eq_true rfl⟩ 1 rfl rfl rfl hl.1 rfl (Nat.le_of_ble_eq_true rfl) dX1_tryWay_46 ⟨Nat.zero_le _, Nat.zero_le _⟩) hw (fun H locs hw => ?_)
        refine lv_istore (lv' := [(6, .int r5), (0, .ref (q 8)), (1, .int x1), (2, .int x2), (3, .int x3), (4, .int x4), (5, .int x5), (7, .int x7), (8, .int x8)]) hx hb dX1_tryWay_49 hl (by decide) rfl (fun ls hl => ?_)
        refine lv_iload hx hb dX1_tryWay_51 (lv_at hl 0 rfl) ?_
        refine lv_if_ne (tgt := 59) hx hb dX1_tryWay_53 (by decide) (fun c => ?_) (fun c => ?_)
        · have h := if_f h c
          refine lv_aload_n hx hb dX1_tryWay_59 rfl (lv_at hl 1 rfl) ?_
          refine C_g_X1_25 hC hw dX1_tryWay_60 ?_
          refine lv_iload_n hx hb dX1_tryWay_63 rfl (lv_at hl 3 rfl) ?_
          refine lv_iload hx hb dX1_tryWay_64 (lv_at hl 0 rfl) ?_
          obtain ⟨r6, hc, h⟩ := bd1_o h
          refine go_i (run_SN (As := [.int r5]) (rest := [.int x2, .ref (q 11)]) hC hw (c_X0_leastCell l D q k N σ r5 r6 hc) kw_79 kw_50 kw_1 kw_49 hd_X0_leastCell ⟨rfl, rfl⟩ ⟨Nat.le_of_ble_eq_true rfl, Nat.le_of_ble_eq_true rfl⟩ rfl hl.1 rfl (Nat.le_of_ble_eq_true rfl) dX1_tryWay_66 ⟨Nat.zero_le _, Nat.zero_le _⟩) hw (fun H locs hw => ?_)
          obtain ⟨hin, h⟩ := gd_o h
          refine C_st11 hC hw hin dX1_tryWay_69 (fun σ7 eσ7 H locs hw => ?_)
          have h := nm_o h σ7 eσ7
          refine lv_aload_n hx hb dX1_tryWay_70 rfl (lv_at hl 1 rfl) ?_
          refine lv_iload_n hx hb dX1_tryWay_71 rfl (lv_at hl 2 rfl) ?_
          refine lv_bipush (v := 32) hx hb dX1_tryWay_72 (by decide) ?_
          refine lv_iload hx hb dX1_tryWay_74 (lv_at hl 8 rfl) ?_
          refine lv_imul hx hb dX1_tryWay_76 ?_
          refine lv_iconst (v := 4) hx hb dX1_tryWay_77 (by decide) ?_
          refine lv_iload_n hx hb dX1_tryWay_78 rfl (lv_at hl 3 rfl) ?_
          refine lv_imul hx hb dX1_tryWay_79 ?_
          refine lv_iadd hx hb dX1_tryWay_80 ?_
          refine lv_iload_n hx hb dX1_tryWay_81 rfl (lv_at hl 4 rfl) ?_
          refine lv_iadd hx hb dX1_tryWay_82 ?_
          obtain ⟨r8, σ9, hc, h⟩ := bd_o h
          refine go_i (run_V (As := [.int x1, .int ((((32 : Int32) * x8) + ((4 : Int32) * x2)) + x3)]) (rest := []) hC hw (c_X1_offer l D q k N σ7 x1 ((((32 : Int32) * x8) + ((4 : Int32) * x2)) + x3) r8 σ9 hc) kw_122 kw_124 kw_125 kw_81 kw_123 hd_X1_offer ⟨rfl, rfl⟩ ⟨Nat.le_of_ble_eq_true rfl, Nat.le_of_ble_eq_true rfl⟩ 8 rfl rfl rfl hl.1 rfl (Nat.le_of_ble_eq_true rfl) dX1_tryWay_83 ⟨Nat.zero_le _, Nat.zero_le _⟩) hw (fun H locs hw => ?_)
          refine lv_istore (lv' := [(7, .int r8), (6, .int r5), (0, .ref (q 8)), (1, .int x1), (2, .int x2), (3, .int x3), (4, .int x4), (5, .int x5), (8, .int x8)]) hx hb dX1_tryWay_86 hl (by decide) rfl (fun ls hl => ?_)
          obtain ⟨y10, ey10⟩ : ∃ y : Int32, y = x8 + (1 : Int32) := ⟨_, rfl⟩
          have h := nm_o h y10 ey10
          refine lv_iinc (v := y10) (lv' := [(8, .int y10), (7, .int r8), (6, .int r5), (0, .ref (q 8)), (1, .int x1), (2, .int x2), (3, .int x3), (4, .int x4), (5, .int x5)]) hx hb dX1_tryWay_88 hl (k := 8) rfl (by rw [ey10]; rfl) (by decide) rfl (fun ls hl => ?_)
          refine lv_goto (tgt := 22) hx hb dX1_tryWay_91 (by decide) ?_
          exact ih σ9 r5 r8 y10 _ _ ls h hw (lv_sub hl [3, 4, 5, 6, 7, 8, 2, 1, 0] rfl)
        · have h := if_t h c
          refine lv_goto (tgt := 94) hx hb dX1_tryWay_56 (by decide) ?_
          refine lv_aload_n hx hb dX1_tryWay_94 rfl (lv_at hl 1 rfl) ?_
          refine C_g_X1_25 hC hw dX1_tryWay_95 ?_
          refine lv_iload_n hx hb dX1_tryWay_98 rfl (lv_at hl 3 rfl) ?_
          refine lv_iload hx hb dX1_tryWay_99 (lv_at hl 6 rfl) ?_
          obtain ⟨hin, h⟩ := gd_o h
          refine C_st11 hC hw hin dX1_tryWay_101 (fun σ11 eσ11 H locs hw => ?_)
          have h := nm_o h σ11 eσ11
          refine lv_iload hx hb dX1_tryWay_102 (lv_at hl 7 rfl) ?_
          cases h
          exact ret_i hC hw dX1_tryWay_104
def f_X1_tryWay (N : Nat) (σ : St) (a0 : Int32) (a1 : Int32) (a2 : Int32) (a3 : Int32) : Option (Int32 × St) :=
  gd (okx a1 8) (nm (ra σ 7 a1) (fun y1 => gd (okx a1 8) (nm (ra σ 8 a1) (fun y2 => lp_X1_tryWay_22 N a0 a1 a2 a3 y1 N σ y2 (1 : Int32) (1 : Int32)))))
set_option maxRecDepth 100000 in
set_option maxHeartbeats 4000000 in
theorem c_X1_tryWay (l : Launch) (D : va_G) (q : Nat → Nat) (k : cK) (N : Nat) (σ : St) (a0 : Int32) (a1 : Int32) (a2 : Int32) (a3 : Int32) (r : Int32) (σ' : St) (h : f_X1_tryWay N σ a0 a1 a2 a3 = some (r, σ')) :
    Met l yX1_tryWay [.code yX1_tryWay cX1_tryWay 9 (some .int)] rm_X1_tryWay (PC D (CW q k σ) k [.ref (q 8), .int a0, .int a1, .int a2, .int a3]) (QR D (CW q k σ) (CW q k σ') (some (.int r))) 0 0 (AQ (CW q k σ)) := by
  refine met_of (by decide) (Nat.le_of_ble_eq_true rfl) ?_
  intro p e s m below meth c hC hw ls hl
  have hC : Cx p s m meth c cX1_tryWay RX1 9 (some .int) := hC
  have hl : lv_has ls 9 [(0, .ref (q 8)), (1, .int a0), (2, .int a1), (3, .int a2), (4, .int a3)] := hl
  have hx := hC.1
  have hb := hC.2.1
  unfold f_X1_tryWay at h
  refine lv_aload_n hx hb dX1_tryWay_0 rfl (lv_at hl 0 rfl) ?_
  refine C_g_X1_25 hC hw dX1_tryWay_1 ?_
  refine lv_iload_n hx hb dX1_tryWay_4 rfl (lv_at hl 2 rfl) ?_
  obtain ⟨hin, h⟩ := gd_o h
  refine C_ld11 hC hw hin dX1_tryWay_5 ?_
  refine lv_topi (fun y1 ey1 => ?_)
  have h := nm_o h y1 ey1
  refine lv_istore (lv' := [(5, .int y1), (0, .ref (q 8)), (1, .int a0), (2, .int a1), (3, .int a2), (4, .int a3)]) hx hb dX1_tryWay_6 hl (by decide) rfl (fun ls hl => ?_)
  refine lv_aload_n hx hb dX1_tryWay_8 rfl (lv_at hl 1 rfl) ?_
  refine C_g_X1_28 hC hw dX1_tryWay_9 ?_
  refine lv_iload_n hx hb dX1_tryWay_12 rfl (lv_at hl 3 rfl) ?_
  obtain ⟨hin, h⟩ := gd_o h
  refine C_ld12 hC hw hin dX1_tryWay_13 ?_
  refine lv_topi (fun y2 ey2 => ?_)
  have h := nm_o h y2 ey2
  refine lv_istore (lv' := [(6, .int y2), (5, .int y1), (0, .ref (q 8)), (1, .int a0), (2, .int a1), (3, .int a2), (4, .int a3)]) hx hb dX1_tryWay_14 hl (by decide) rfl (fun ls hl => ?_)
  refine lv_iconst (v := 1) hx hb dX1_tryWay_16 (by decide) ?_
  refine lv_istore (lv' := [(7, .int (1 : Int32)), (6, .int y2), (5, .int y1), (0, .ref (q 8)), (1, .int a0), (2, .int a1), (3, .int a2), (4, .int a3)]) hx hb dX1_tryWay_17 hl (by decide) rfl (fun ls hl => ?_)
  refine lv_iconst (v := 1) hx hb dX1_tryWay_19 (by decide) ?_
  refine lv_istore (lv' := [(8, .int (1 : Int32)), (7, .int (1 : Int32)), (6, .int y2), (5, .int y1), (0, .ref (q 8)), (1, .int a0), (2, .int a1), (3, .int a2), (4, .int a3)]) hx hb dX1_tryWay_20 hl (by decide) rfl (fun ls hl => ?_)
  exact w_X1_tryWay_22 hC N a0 a1 a2 a3 y1 r σ' N σ y2 (1 : Int32) (1 : Int32) _ _ ls h hw (lv_sub hl [4, 5, 6, 7, 8, 3, 2, 1, 0] rfl)
/-! SlideBoards$Finder.expand(I)I -/
abbrev rm_X1_expand : Room := { frames := 4, cells := 0, slots := 0, locals := 100 }
def lp_X1_expand_42 (N : Nat) (x1 : Int32) (x2 : Int32) (x3 : Int32) (x4 : Int32) (K16 : St → Int32 → Option (Int32 × St)) : Nat → St → Int32 → Option (Int32 × St)
  | 0, _, _ => none
  | n + 1, σ, x5 => if (4 : Int32) ≤ x5 then (nm (x3 + (1 : Int32)) (fun y4 => K16 σ y4)) else (bd (f_X1_tryWay N σ x1 x3 x5 x4) (fun r5 σ6 => if r5 = (1 : Int32) then (nm (x5 + (1 : Int32)) (fun y7 => lp_X1_expand_42 N x1 x2 x3 x4 K16 n σ6 y7)) else (some (r5, σ6))))
set_option maxRecDepth 100000 in
set_option maxHeartbeats 4000000 in
theorem w_X1_expand_42 {p : Program} {l : Launch} {e : Env} {s : State} {m : MethodId} {below : List Frame} {meth : Method} {c : Code} {args : Array Value} {D : va_G} {q : Nat → Nat} {k : cK} {ws0 : va_W} (hC : Cx p s m meth c cX1_expand RX1 7 (some .int)) (N : Nat) (x1 : Int32) (x2 : Int32) (x3 : Int32) (x4 : Int32) (r : Int32) (σ' : St) (K16 : St → Int32 → Option (Int32 × St)) (hK16 : ∀ (σ : St) (x3 : Int32) (H : Heap) (locs : List Loc) (ls : Array Slot), K16 σ x3 = some (r, σ') → WH D (CW q k σ) k (AQ ws0) s s.heap H locs → lv_has ls 7 [(0, .ref (q 8)), (1, .int x1), (2, .int x2), (3, .int x3)] → W p l e rm_X1_expand s m args below meth c H locs 0 0 (MQ below (QR D ws0 (CW q k σ') (some (.int r))) args s 0 0 (AQ ws0)) (F0 m 16 ls [])) :
    ∀ (n : Nat) (σ : St) (x5 : Int32) (H : Heap) (locs : List Loc) (ls : Array Slot), lp_X1_expand_42 N x1 x2 x3 x4 K16 n σ x5 = some (r, σ') → WH D (CW q k σ) k (AQ ws0) s s.heap H locs → lv_has ls 7 [(0, .ref (q 8)), (1, .int x1), (2, .int x2), (3, .int x3), (4, .int x4), (5, .int x5)] → W p l e rm_X1_expand s m args below meth c H locs 0 0 (MQ below (QR D ws0 (CW q k σ') (some (.int r))) args s 0 0 (AQ ws0)) (F0 m 42 ls []) := by
  have hx := hC.1
  have hb := hC.2.1
  intro n
  induction n with
  | zero =>
    intro σ x5 H locs ls h
    cases h
  | succ n ih =>
    intro σ x5 H locs ls h hw hl
    rw [lp_X1_expand_42] at h
    refine lv_iload hx hb dX1_expand_42 (lv_at hl 5 rfl) ?_
    refine lv_iconst (v := 4) hx hb dX1_expand_44 (by decide) ?_
    refine lv_icmp_ge (tgt := 75) hx hb dX1_expand_45 (by decide) (fun c => ?_) (fun c => ?_)
    · have h := if_t h c
      obtain ⟨y4, ey4⟩ : ∃ y : Int32, y = x3 + (1 : Int32) := ⟨_, rfl⟩
      have h := nm_o h y4 ey4
      refine lv_iinc (v := y4) (lv' := [(3, .int y4), (0, .ref (q 8)), (1, .int x1), (2, .int x2), (4, .int x4), (5, .int x5)]) hx hb dX1_expand_75 hl (k := 3) rfl (by rw [ey4]; rfl) (by decide) rfl (fun ls hl => ?_)
      refine lv_goto (tgt := 16) hx hb dX1_expand_78 (by decide) ?_
      exact hK16 σ y4 _ _ ls h hw (lv_sub hl [1, 2, 3, 0] rfl)
    · have h := if_f h c
      refine lv_aload_n hx hb dX1_expand_48 rfl (lv_at hl 0 rfl) ?_
      refine lv_iload_n hx hb dX1_expand_49 rfl (lv_at hl 1 rfl) ?_
      refine lv_iload_n hx hb dX1_expand_50 rfl (lv_at hl 3 rfl) ?_
      refine lv_iload hx hb dX1_expand_51 (lv_at hl 5 rfl) ?_
      refine lv_iload hx hb dX1_expand_53 (lv_at hl 4 rfl) ?_
      obtain ⟨r5, σ6, hc, h⟩ := bd_o h
      refine go_i (run_V (As := [.int x1, .int x3, .int x5, .int x4]) (rest := []) hC hw (c_X1_tryWay l D q k N σ x1 x3 x5 x4 r5 σ6 hc) kw_136 kw_138 kw_139 kw_81 kw_137 hd_X1_tryWay ⟨rfl, rfl⟩ ⟨Nat.le_of_ble_eq_true rfl, Nat.le_of_ble_eq_true rfl⟩ 8 rfl rfl rfl hl.1 rfl (Nat.le_of_ble_eq_true rfl) dX1_expand_55 ⟨Nat.zero_le _, Nat.zero_le _⟩) hw (fun H locs hw => ?_)
      refine lv_istore (lv' := [(6, .int r5), (0, .ref (q 8)), (1, .int x1), (2, .int x2), (3, .int x3), (4, .int x4), (5, .int x5)]) hx hb dX1_expand_58 hl (by decide) rfl (fun ls hl => ?_)
      refine lv_iload hx hb dX1_expand_60 (lv_at hl 0 rfl) ?_
      refine lv_iconst (v := 1) hx hb dX1_expand_62 (by decide) ?_
      refine lv_icmp_eq (tgt := 69) hx hb dX1_expand_63 (by decide) (fun c => ?_) (fun c => ?_)
      · have h := if_t h c
        obtain ⟨y7, ey7⟩ : ∃ y : Int32, y = x5 + (1 : Int32) := ⟨_, rfl⟩
        have h := nm_o h y7 ey7
        refine lv_iinc (v := y7) (lv' := [(5, .int y7), (6, .int r5), (0, .ref (q 8)), (1, .int x1), (2, .int x2), (3, .int x3), (4, .int x4)]) hx hb dX1_expand_69 hl (k := 6) rfl (by rw [ey7]; rfl) (by decide) rfl (fun ls hl => ?_)
        refine lv_goto (tgt := 42) hx hb dX1_expand_72 (by decide) ?_
        exact ih σ6 y7 _ _ ls h hw (lv_sub hl [2, 3, 4, 5, 6, 0] rfl)
      · have h := if_f h c
        refine lv_iload hx hb dX1_expand_66 (lv_at hl 0 rfl) ?_
        cases h
        exact ret_i hC hw dX1_expand_68
def lp_X1_expand_16 (N : Nat) (x1 : Int32) (x2 : Int32) : Nat → St → Int32 → Option (Int32 × St)
  | 0, _, _ => none
  | n + 1, σ, x3 => if (σ.1 6) ≤ x3 then (some ((1 : Int32), σ)) else (gd (okx x3 8) (nm (x2 &&& ((ra σ 8 x3) ^^^ (-1 : Int32))) (fun y3 => lp_X1_expand_42 N x1 x2 x3 y3 (fun v0 v1 => lp_X1_expand_16 N x1 x2 n v0 v1) N σ (0 : Int32))))
set_option maxRecDepth 100000 in
set_option maxHeartbeats 4000000 in
theorem w_X1_expand_16 {p : Program} {l : Launch} {e : Env} {s : State} {m : MethodId} {below : List Frame} {meth : Method} {c : Code} {args : Array Value} {D : va_G} {q : Nat → Nat} {k : cK} {ws0 : va_W} (hC : Cx p s m meth c cX1_expand RX1 7 (some .int)) (N : Nat) (x1 : Int32) (x2 : Int32) (r : Int32) (σ' : St) :
    ∀ (n : Nat) (σ : St) (x3 : Int32) (H : Heap) (locs : List Loc) (ls : Array Slot), lp_X1_expand_16 N x1 x2 n σ x3 = some (r, σ') → WH D (CW q k σ) k (AQ ws0) s s.heap H locs → lv_has ls 7 [(0, .ref (q 8)), (1, .int x1), (2, .int x2), (3, .int x3)] → W p l e rm_X1_expand s m args below meth c H locs 0 0 (MQ below (QR D ws0 (CW q k σ') (some (.int r))) args s 0 0 (AQ ws0)) (F0 m 16 ls []) := by
  have hx := hC.1
  have hb := hC.2.1
  intro n
  induction n with
  | zero =>
    intro σ x3 H locs ls h
    cases h
  | succ n ih =>
    intro σ x3 H locs ls h hw hl
    rw [lp_X1_expand_16] at h
    refine lv_iload_n hx hb dX1_expand_16 rfl (lv_at hl 3 rfl) ?_
    refine lv_aload_n hx hb dX1_expand_17 rfl (lv_at hl 0 rfl) ?_
    refine C_g_X1_34 hC hw dX1_expand_18 ?_
    refine C_g_X1_42 hC hw dX1_expand_21 ?_
    refine lv_icmp_ge (tgt := 81) hx hb dX1_expand_24 (by decide) (fun c => ?_) (fun c => ?_)
    · have h := if_t h c
      refine lv_iconst (v := 1) hx hb dX1_expand_81 (by decide) ?_
      cases h
      exact ret_i hC hw dX1_expand_82
    · have h := if_f h c
      refine lv_iload_n hx hb dX1_expand_27 rfl (lv_at hl 2 rfl) ?_
      refine lv_aload_n hx hb dX1_expand_28 rfl (lv_at hl 0 rfl) ?_
      refine C_g_X1_28 hC hw dX1_expand_29 ?_
      refine lv_iload_n hx hb dX1_expand_32 rfl (lv_at hl 3 rfl) ?_
      obtain ⟨hin, h⟩ := gd_o h
      refine C_ld12 hC hw hin dX1_expand_33 ?_
      refine lv_iconst (v := -1) hx hb dX1_expand_34 (by decide) ?_
      refine lv_ixor hx hb dX1_expand_35 ?_
      refine lv_iand hx hb dX1_expand_36 ?_
      refine lv_topi (fun y3 ey3 => ?_)
      have h := nm_o h y3 ey3
      refine lv_istore (lv' := [(4, .int y3), (0, .ref (q 8)), (1, .int x1), (2, .int x2), (3, .int x3)]) hx hb dX1_expand_37 hl (by decide) rfl (fun ls hl => ?_)
      refine lv_iconst (v := 0) hx hb dX1_expand_39 (by decide) ?_
      refine lv_istore (lv' := [(5, .int (0 : Int32)), (4, .int y3), (0, .ref (q 8)), (1, .int x1), (2, .int x2), (3, .int x3)]) hx hb dX1_expand_40 hl (by decide) rfl (fun ls hl => ?_)
      exact w_X1_expand_42 hC N x1 x2 x3 y3 r σ' _ ih N σ (0 : Int32) _ _ ls h hw (lv_sub hl [2, 3, 4, 5, 1, 0] rfl)
def f_X1_expand (N : Nat) (σ : St) (a0 : Int32) : Option (Int32 × St) :=
  gd (okx a0 10000) (bd (f_X1_load N σ (rl σ 1 a0)) (fun r1 σ2 => lp_X1_expand_16 N a0 r1 N σ2 (0 : Int32)))
set_option maxRecDepth 100000 in
set_option maxHeartbeats 4000000 in
theorem c_X1_expand (l : Launch) (D : va_G) (q : Nat → Nat) (k : cK) (N : Nat) (σ : St) (a0 : Int32) (r : Int32) (σ' : St) (h : f_X1_expand N σ a0 = some (r, σ')) :
    Met l yX1_expand [.code yX1_expand cX1_expand 7 (some .int)] rm_X1_expand (PC D (CW q k σ) k [.ref (q 8), .int a0]) (QR D (CW q k σ) (CW q k σ') (some (.int r))) 0 0 (AQ (CW q k σ)) := by
  refine met_of (by decide) (Nat.le_of_ble_eq_true rfl) ?_
  intro p e s m below meth c hC hw ls hl
  have hC : Cx p s m meth c cX1_expand RX1 7 (some .int) := hC
  have hl : lv_has ls 7 [(0, .ref (q 8)), (1, .int a0)] := hl
  have hx := hC.1
  have hb := hC.2.1
  unfold f_X1_expand at h
  refine lv_aload_n hx hb dX1_expand_0 rfl (lv_at hl 0 rfl) ?_
  refine lv_aload_n hx hb dX1_expand_1 rfl (lv_at hl 0 rfl) ?_
  refine C_g_X1_12 hC hw dX1_expand_2 ?_
  refine C_g_X1_93 hC hw dX1_expand_5 ?_
  refine lv_iload_n hx hb dX1_expand_8 rfl (lv_at hl 1 rfl) ?_
  obtain ⟨hin, h⟩ := gd_o h
  refine C_ld16 hC hw hin dX1_expand_9 ?_
  obtain ⟨r1, σ2, hc, h⟩ := bd_o h
  refine go_i (run_V (As := [.long (rl σ 1 a0)]) (rest := []) hC hw (c_X1_load l D q k N σ (rl σ 1 a0) r1 σ2 hc) kw_131 kw_133 kw_134 kw_81 kw_132 hd_X1_load ⟨rfl, rfl⟩ ⟨Nat.le_of_ble_eq_true rfl, Nat.le_of_ble_eq_true rfl⟩ 8 rfl rfl rfl hl.1 rfl (Nat.le_of_ble_eq_true rfl) dX1_expand_10 ⟨Nat.zero_le _, Nat.zero_le _⟩) hw (fun H locs hw => ?_)
  refine lv_istore_n (lv' := [(2, .int r1), (0, .ref (q 8)), (1, .int a0)]) hx hb dX1_expand_13 rfl hl (by decide) rfl (fun ls hl => ?_)
  refine lv_iconst (v := 0) hx hb dX1_expand_14 (by decide) ?_
  refine lv_istore_n (lv' := [(3, .int (0 : Int32)), (2, .int r1), (0, .ref (q 8)), (1, .int a0)]) hx hb dX1_expand_15 rfl hl (by decide) rfl (fun ls hl => ?_)
  exact w_X1_expand_16 hC N a0 r1 r σ' N σ2 (0 : Int32) _ _ ls h hw (lv_sub hl [2, 3, 1, 0] rfl)
/-! SlideBoards$Finder.explore(IIZ)I -/
abbrev rm_X1_explore : Room := { frames := 5, cells := 0, slots := 0, locals := 126 }
def lp_X1_explore_43 (N : Nat) : Nat → St → Int32 → Int32 → Option (Int32 × St)
  | 0, _, _, _ => none
  | n + 1, σ, x4, x5 => if x4 = (1 : Int32) then (if (σ.1 12) ≤ x5 then (if x4 = (1 : Int32) then (some ((-1 : Int32), σ)) else (some (x4, σ))) else (if (10000 : Int32) ≤ x5 then (if x4 = (1 : Int32) then (some ((-1 : Int32), σ)) else (some (x4, σ))) else (bd (f_X1_expand N σ x5) (fun r8 σ9 => nm (x5 + (1 : Int32)) (fun y10 => lp_X1_explore_43 N n σ9 r8 y10))))) else (if x4 = (1 : Int32) then (some ((-1 : Int32), σ)) else (some (x4, σ)))
set_option maxRecDepth 100000 in
set_option maxHeartbeats 4000000 in
theorem w_X1_explore_43 {p : Program} {l : Launch} {e : Env} {s : State} {m : MethodId} {below : List Frame} {meth : Method} {c : Code} {args : Array Value} {D : va_G} {q : Nat → Nat} {k : cK} {ws0 : va_W} (hC : Cx p s m meth c cX1_explore RX1 6 (some .int)) (N : Nat) (r : Int32) (σ' : St) :
    ∀ (n : Nat) (σ : St) (x4 : Int32) (x5 : Int32) (H : Heap) (locs : List Loc) (ls : Array Slot), lp_X1_explore_43 N n σ x4 x5 = some (r, σ') → WH D (CW q k σ) k (AQ ws0) s s.heap H locs → lv_has ls 6 [(0, .ref (q 8)), (4, .int x4), (5, .int x5)] → W p l e rm_X1_explore s m args below meth c H locs 0 0 (MQ below (QR D ws0 (CW q k σ') (some (.int r))) args s 0 0 (AQ ws0)) (F0 m 43 ls []) := by
  have hx := hC.1
  have hb := hC.2.1
  intro n
  induction n with
  | zero =>
    intro σ x4 x5 H locs ls h
    cases h
  | succ n ih =>
    intro σ x4 x5 H locs ls h hw hl
    rw [lp_X1_explore_43] at h
    refine lv_iload hx hb dX1_explore_43 (lv_at hl 1 rfl) ?_
    refine lv_iconst (v := 1) hx hb dX1_explore_45 (by decide) ?_
    refine lv_icmp_ne (tgt := 83) hx hb dX1_explore_46 (by decide) (fun c => ?_) (fun c => ?_)
    · have h := if_f h c
      refine lv_iload hx hb dX1_explore_83 (lv_at hl 1 rfl) ?_
      refine lv_iconst (v := 1) hx hb dX1_explore_85 (by decide) ?_
      refine lv_icmp_ne (tgt := 93) hx hb dX1_explore_86 (by decide) (fun c => ?_) (fun c => ?_)
      · have h := if_f h c
        refine lv_iload hx hb dX1_explore_93 (lv_at hl 1 rfl) ?_
        cases h
        exact ret_i hC hw dX1_explore_95
      · have h := if_t h c
        refine lv_iconst (v := -1) hx hb dX1_explore_89 (by decide) ?_
        refine lv_goto (tgt := 95) hx hb dX1_explore_90 (by decide) ?_
        cases h
        exact ret_i hC hw dX1_explore_95
    · have h := if_t h c
      refine lv_iload hx hb dX1_explore_49 (lv_at hl 2 rfl) ?_
      refine lv_aload_n hx hb dX1_explore_51 rfl (lv_at hl 0 rfl) ?_
      refine C_g_X1_12 hC hw dX1_explore_52 ?_
      refine C_g_X1_79 hC hw dX1_explore_55 ?_
      refine lv_icmp_ge (tgt := 83) hx hb dX1_explore_58 (by decide) (fun c => ?_) (fun c => ?_)
      · have h := if_t h c
        refine lv_iload hx hb dX1_explore_83 (lv_at hl 1 rfl) ?_
        refine lv_iconst (v := 1) hx hb dX1_explore_85 (by decide) ?_
        refine lv_icmp_ne (tgt := 93) hx hb dX1_explore_86 (by decide) (fun c => ?_) (fun c => ?_)
        · have h := if_f h c
          refine lv_iload hx hb dX1_explore_93 (lv_at hl 1 rfl) ?_
          cases h
          exact ret_i hC hw dX1_explore_95
        · have h := if_t h c
          refine lv_iconst (v := -1) hx hb dX1_explore_89 (by decide) ?_
          refine lv_goto (tgt := 95) hx hb dX1_explore_90 (by decide) ?_
          cases h
          exact ret_i hC hw dX1_explore_95
      · have h := if_f h c
        refine lv_iload hx hb dX1_explore_61 (lv_at hl 2 rfl) ?_
        refine lv_sipush (v := 10000) hx hb dX1_explore_63 (by decide) ?_
        refine lv_icmp_ge (tgt := 83) hx hb dX1_explore_66 (by decide) (fun c => ?_) (fun c => ?_)
        · have h := if_t h c
          refine lv_iload hx hb dX1_explore_83 (lv_at hl 1 rfl) ?_
          refine lv_iconst (v := 1) hx hb dX1_explore_85 (by decide) ?_
          refine lv_icmp_ne (tgt := 93) hx hb dX1_explore_86 (by decide) (fun c => ?_) (fun c => ?_)
          · have h := if_f h c
            refine lv_iload hx hb dX1_explore_93 (lv_at hl 1 rfl) ?_
            cases h
            exact ret_i hC hw dX1_explore_95
          · have h := if_t h c
            refine lv_iconst (v := -1) hx hb dX1_explore_89 (by decide) ?_
            refine lv_goto (tgt := 95) hx hb dX1_explore_90 (by decide) ?_
            cases h
            exact ret_i hC hw dX1_explore_95
        · have h := if_f h c
          refine lv_aload_n hx hb dX1_explore_69 rfl (lv_at hl 0 rfl) ?_
          refine lv_iload hx hb dX1_explore_70 (lv_at hl 2 rfl) ?_
          obtain ⟨r8, σ9, hc, h⟩ := bd_o h
          refine go_i (run_V (As := [.int x5]) (rest := []) hC hw (c_X1_expand l D q k N σ x5 r8 σ9 hc) kw_140 kw_142 kw_143 kw_81 kw_141 hd_X1_expand ⟨rfl, rfl⟩ ⟨Nat.le_of_ble_eq_true rfl, Nat.le_of_ble_eq_true rfl⟩ 8 rfl rfl rfl hl.1 rfl (Nat.le_of_ble_eq_true rfl) dX1_explore_72 ⟨Nat.zero_le _, Nat.zero_le _⟩) hw (fun H locs hw => ?_)
          refine lv_istore (lv' := [(4, .int r8), (0, .ref (q 8)), (5, .int x5)]) hx hb dX1_explore_75 hl (by decide) rfl (fun ls hl => ?_)
          obtain ⟨y10, ey10⟩ : ∃ y : Int32, y = x5 + (1 : Int32) := ⟨_, rfl⟩
          have h := nm_o h y10 ey10
          refine lv_iinc (v := y10) (lv' := [(5, .int y10), (4, .int r8), (0, .ref (q 8))]) hx hb dX1_explore_77 hl (k := 2) rfl (by rw [ey10]; rfl) (by decide) rfl (fun ls hl => ?_)
          refine lv_goto (tgt := 43) hx hb dX1_explore_80 (by decide) ?_
          exact ih σ9 r8 y10 _ _ ls h hw (lv_sub hl [2, 1, 0] rfl)
def f_X1_explore (N : Nat) (σ : St) (a0 : Int32) (a1 : Int32) (a2 : Int32) : Option (Int32 × St) :=
  nm (sI σ 9 a1) (fun σ1 => if a0 = 0 then (nm (sI σ1 10 (1 : Int32)) (fun σ11 => gd (decide (a2 = 0 ∨ a2 = 1)) (nm (sI σ11 11 a2) (fun σ12 => bd1 (f_X4_clear N σ12) (fun σ13 => bd1 (f_X1_findAlike N σ13) (fun σ14 => bd (f_X1_offerPresent N σ14) (fun r15 σ16 => lp_X1_explore_43 N N σ16 r15 (0 : Int32)))))))) else (nm (sI σ1 10 (5 : Int32)) (fun σ2 => gd (decide (a2 = 0 ∨ a2 = 1)) (nm (sI σ2 11 a2) (fun σ3 => bd1 (f_X4_clear N σ3) (fun σ4 => bd1 (f_X1_findAlike N σ4) (fun σ5 => bd (f_X1_offerPresent N σ5) (fun r6 σ7 => lp_X1_explore_43 N N σ7 r6 (0 : Int32)))))))))
set_option maxRecDepth 100000 in
set_option maxHeartbeats 4000000 in
theorem c_X1_explore (l : Launch) (D : va_G) (q : Nat → Nat) (k : cK) (N : Nat) (σ : St) (a0 : Int32) (a1 : Int32) (a2 : Int32) (r : Int32) (σ' : St) (h : f_X1_explore N σ a0 a1 a2 = some (r, σ')) :
    Met l yX1_explore [.code yX1_explore cX1_explore 6 (some .int)] rm_X1_explore (PC D (CW q k σ) k [.ref (q 8), .int a0, .int a1, .int a2]) (QR D (CW q k σ) (CW q k σ') (some (.int r))) 0 0 (AQ (CW q k σ)) := by
  refine met_of (by decide) (Nat.le_of_ble_eq_true rfl) ?_
  intro p e s m below meth c hC hw ls hl
  have hC : Cx p s m meth c cX1_explore RX1 6 (some .int) := hC
  have hl : lv_has ls 6 [(0, .ref (q 8)), (1, .int a0), (2, .int a1), (3, .int a2)] := hl
  have hx := hC.1
  have hb := hC.2.1
  unfold f_X1_explore at h
  refine lv_aload_n hx hb dX1_explore_0 rfl (lv_at hl 0 rfl) ?_
  refine lv_iload_n hx hb dX1_explore_1 rfl (lv_at hl 2 rfl) ?_
  refine C_p_X1_59 hC hw dX1_explore_2 (fun σ1 eσ1 H locs hw => ?_)
  have h := nm_o h σ1 eσ1
  refine lv_aload_n hx hb dX1_explore_5 rfl (lv_at hl 0 rfl) ?_
  refine lv_iload_n hx hb dX1_explore_6 rfl (lv_at hl 1 rfl) ?_
  refine lv_if_ne (tgt := 14) hx hb dX1_explore_7 (by decide) (fun c => ?_) (fun c => ?_)
  · have h := if_f h c
    refine lv_iconst (v := 5) hx hb dX1_explore_14 (by decide) ?_
    refine C_p_X1_62 hC hw dX1_explore_15 (fun σ2 eσ2 H locs hw => ?_)
    have h := nm_o h σ2 eσ2
    refine lv_aload_n hx hb dX1_explore_18 rfl (lv_at hl 0 rfl) ?_
    refine lv_iload_n hx hb dX1_explore_19 rfl (lv_at hl 3 rfl) ?_
    obtain ⟨hz, h⟩ := gp_o h
    refine C_p_X1_65 hC hw hz dX1_explore_20 (fun σ3 eσ3 H locs hw => ?_)
    have h := nm_o h σ3 eσ3
    refine lv_aload_n hx hb dX1_explore_23 rfl (lv_at hl 0 rfl) ?_
    refine C_g_X1_12 hC hw dX1_explore_24 ?_
    obtain ⟨σ4, hc, h⟩ := bd1_o h
    refine go_v (run_VN (As := []) (rest := []) hC hw (c_X4_clear l D q k N σ3 σ4 hc) kw_90 kw_92 kw_93 kw_87 kw_91 hd_X4_clear ⟨rfl, rfl⟩ ⟨Nat.le_of_ble_eq_true rfl, Nat.le_of_ble_eq_true rfl⟩ 14 rfl rfl rfl hl.1 rfl (Nat.le_of_ble_eq_true rfl) dX1_explore_27 ⟨Nat.zero_le _, Nat.zero_le _⟩) hw (fun H locs hw => ?_)
    refine lv_aload_n hx hb dX1_explore_30 rfl (lv_at hl 0 rfl) ?_
    obtain ⟨σ5, hc, h⟩ := bd1_o h
    refine go_v (run_V (As := []) (rest := []) hC hw (c_X1_findAlike l D q k N σ4 σ5 hc) kw_102 kw_104 kw_105 kw_81 kw_103 hd_X1_findAlike ⟨rfl, rfl⟩ ⟨Nat.le_of_ble_eq_true rfl, Nat.le_of_ble_eq_true rfl⟩ 8 rfl rfl rfl hl.1 rfl (Nat.le_of_ble_eq_true rfl) dX1_explore_31 ⟨Nat.zero_le _, Nat.zero_le _⟩) hw (fun H locs hw => ?_)
    refine lv_aload_n hx hb dX1_explore_34 rfl (lv_at hl 0 rfl) ?_
    obtain ⟨r6, σ7, hc, h⟩ := bd_o h
    refine go_i (run_V (As := []) (rest := []) hC hw (c_X1_offerPresent l D q k N σ5 r6 σ7 hc) kw_126 kw_128 kw_129 kw_81 kw_127 hd_X1_offerPresent ⟨rfl, rfl⟩ ⟨Nat.le_of_ble_eq_true rfl, Nat.le_of_ble_eq_true rfl⟩ 8 rfl rfl rfl hl.1 rfl (Nat.le_of_ble_eq_true rfl) dX1_explore_35 ⟨Nat.zero_le _, Nat.zero_le _⟩) hw (fun H locs hw => ?_)
    refine lv_istore (lv' := [(4, .int r6), (0, .ref (q 8)), (1, .int a0), (2, .int a1), (3, .int a2)]) hx hb dX1_explore_38 hl (by decide) rfl (fun ls hl => ?_)
    refine lv_iconst (v := 0) hx hb dX1_explore_40 (by decide) ?_
    refine lv_istore (lv' := [(5, .int (0 : Int32)), (4, .int r6), (0, .ref (q 8)), (1, .int a0), (2, .int a1), (3, .int a2)]) hx hb dX1_explore_41 hl (by decide) rfl (fun ls hl => ?_)
    exact w_X1_explore_43 hC N r σ' N σ7 r6 (0 : Int32) _ _ ls h hw (lv_sub hl [2, 1, 0] rfl)
  · have h := if_t h c
    refine lv_iconst (v := 1) hx hb dX1_explore_10 (by decide) ?_
    refine lv_goto (tgt := 15) hx hb dX1_explore_11 (by decide) ?_
    refine C_p_X1_62 hC hw dX1_explore_15 (fun σ11 eσ11 H locs hw => ?_)
    have h := nm_o h σ11 eσ11
    refine lv_aload_n hx hb dX1_explore_18 rfl (lv_at hl 0 rfl) ?_
    refine lv_iload_n hx hb dX1_explore_19 rfl (lv_at hl 3 rfl) ?_
    obtain ⟨hz, h⟩ := gp_o h
    refine C_p_X1_65 hC hw hz dX1_explore_20 (fun σ12 eσ12 H locs hw => ?_)
    have h := nm_o h σ12 eσ12
    refine lv_aload_n hx hb dX1_explore_23 rfl (lv_at hl 0 rfl) ?_
    refine C_g_X1_12 hC hw dX1_explore_24 ?_
    obtain ⟨σ13, hc, h⟩ := bd1_o h
    refine go_v (run_VN (As := []) (rest := []) hC hw (c_X4_clear l D q k N σ12 σ13 hc) kw_90 kw_92 kw_93 kw_87 kw_91 hd_X4_clear ⟨rfl, rfl⟩ ⟨Nat.le_of_ble_eq_true rfl, Nat.le_of_ble_eq_true rfl⟩ 14 rfl rfl rfl hl.1 rfl (Nat.le_of_ble_eq_true rfl) dX1_explore_27 ⟨Nat.zero_le _, Nat.zero_le _⟩) hw (fun H locs hw => ?_)
    refine lv_aload_n hx hb dX1_explore_30 rfl (lv_at hl 0 rfl) ?_
    obtain ⟨σ14, hc, h⟩ := bd1_o h
    refine go_v (run_V (As := []) (rest := []) hC hw (c_X1_findAlike l D q k N σ13 σ14 hc) kw_102 kw_104 kw_105 kw_81 kw_103 hd_X1_findAlike ⟨rfl, rfl⟩ ⟨Nat.le_of_ble_eq_true rfl, Nat.le_of_ble_eq_true rfl⟩ 8 rfl rfl rfl hl.1 rfl (Nat.le_of_ble_eq_true rfl) dX1_explore_31 ⟨Nat.zero_le _, Nat.zero_le _⟩) hw (fun H locs hw => ?_)
    refine lv_aload_n hx hb dX1_explore_34 rfl (lv_at hl 0 rfl) ?_
    obtain ⟨r15, σ16, hc, h⟩ := bd_o h
    refine go_i (run_V (As := []) (rest := []) hC hw (c_X1_offerPresent l D q k N σ14 r15 σ16 hc) kw_126 kw_128 kw_129 kw_81 kw_127 hd_X1_offerPresent ⟨rfl, rfl⟩ ⟨Nat.le_of_ble_eq_true rfl, Nat.le_of_ble_eq_true rfl⟩ 8 rfl rfl rfl hl.1 rfl (Nat.le_of_ble_eq_true rfl) dX1_explore_35 ⟨Nat.zero_le _, Nat.zero_le _⟩) hw (fun H locs hw => ?_)
    refine lv_istore (lv' := [(4, .int r15), (0, .ref (q 8)), (1, .int a0), (2, .int a1), (3, .int a2)]) hx hb dX1_explore_38 hl (by decide) rfl (fun ls hl => ?_)
    refine lv_iconst (v := 0) hx hb dX1_explore_40 (by decide) ?_
    refine lv_istore (lv' := [(5, .int (0 : Int32)), (4, .int r15), (0, .ref (q 8)), (1, .int a0), (2, .int a1), (3, .int a2)]) hx hb dX1_explore_41 hl (by decide) rfl (fun ls hl => ?_)
    exact w_X1_explore_43 hC N r σ' N σ16 r15 (0 : Int32) _ _ ls h hw (lv_sub hl [2, 1, 0] rfl)

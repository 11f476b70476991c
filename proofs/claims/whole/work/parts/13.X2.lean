/-! SlideBoards$Goals.add(ZII)I -/
abbrev rm_X2_add : Room := { frames := 0, cells := 0, slots := 0, locals := 0 }
def f_X2_add (N : Nat) (σ : St) (a0 : Int32) (a1 : Int32) (a2 : Int32) : Option (Int32 × St) :=
  if (σ.1 8) < (6 : Int32) then (gd (okx (σ.1 8) 6) (nm (sA σ 2 (σ.1 8) (vp_nar .boolean a0)) (fun σ1 => gd (okx (σ1.1 8) 6) (nm (sA σ1 3 (σ1.1 8) a1) (fun σ2 => gd (okx (σ2.1 8) 6) (nm (sA σ2 4 (σ2.1 8) a2) (fun σ3 => nm (sI σ3 8 ((σ3.1 8) + (1 : Int32))) (fun σ4 => some ((σ4.1 8) - (1 : Int32), σ4))))))))) else (some ((-1 : Int32), σ))
set_option maxRecDepth 100000 in
set_option maxHeartbeats 4000000 in
theorem c_X2_add (l : Launch) (D : va_G) (q : Nat → Nat) (k : cK) (N : Nat) (σ : St) (a0 : Int32) (a1 : Int32) (a2 : Int32) (r : Int32) (σ' : St) (h : f_X2_add N σ a0 a1 a2 = some (r, σ')) :
    Met l yX2_add [.code yX2_add cX2_add 4 (some .int)] rm_X2_add (PC D (CW q k σ) k [.ref (q 4), .int a0, .int a1, .int a2]) (QR D (CW q k σ) (CW q k σ') (some (.int r))) 0 0 (AQ (CW q k σ)) := by
  refine met_of (by decide) (Nat.le_of_ble_eq_true rfl) ?_
  intro p e s m below meth c hC hw ls hl
  have hC : Cx p s m meth c cX2_add RX2 4 (some .int) := hC
  have hl : lv_has ls 4 [(0, .ref (q 4)), (1, .int a0), (2, .int a1), (3, .int a2)] := hl
  have hx := hC.1
  have hb := hC.2.1
  unfold f_X2_add at h
  refine lv_aload_n hx hb dX2_add_0 rfl (lv_at hl 0 rfl) ?_
  refine C_g_X2_22 hC hw dX2_add_1 ?_
  refine lv_bipush (v := 6) hx hb dX2_add_4 (by decide) ?_
  refine lv_icmp_lt (tgt := 11) hx hb dX2_add_6 (by decide) (fun c => ?_) (fun c => ?_)
  · have h := if_t h c
    refine lv_aload_n hx hb dX2_add_11 rfl (lv_at hl 0 rfl) ?_
    refine C_g_X2_9 hC hw dX2_add_12 ?_
    refine lv_aload_n hx hb dX2_add_15 rfl (lv_at hl 0 rfl) ?_
    refine C_g_X2_22 hC hw dX2_add_16 ?_
    refine lv_iload_n hx hb dX2_add_19 rfl (lv_at hl 1 rfl) ?_
    obtain ⟨hin, h⟩ := gd_o h
    refine C_st5 hC hw hin dX2_add_20 (fun σ1 eσ1 H locs hw => ?_)
    have h := nm_o h σ1 eσ1
    refine lv_aload_n hx hb dX2_add_21 rfl (lv_at hl 0 rfl) ?_
    refine C_g_X2_15 hC hw dX2_add_22 ?_
    refine lv_aload_n hx hb dX2_add_25 rfl (lv_at hl 0 rfl) ?_
    refine C_g_X2_22 hC hw dX2_add_26 ?_
    refine lv_iload_n hx hb dX2_add_29 rfl (lv_at hl 2 rfl) ?_
    obtain ⟨hin, h⟩ := gd_o h
    refine C_st6 hC hw hin dX2_add_30 (fun σ2 eσ2 H locs hw => ?_)
    have h := nm_o h σ2 eσ2
    refine lv_aload_n hx hb dX2_add_31 rfl (lv_at hl 0 rfl) ?_
    refine C_g_X2_19 hC hw dX2_add_32 ?_
    refine lv_aload_n hx hb dX2_add_35 rfl (lv_at hl 0 rfl) ?_
    refine C_g_X2_22 hC hw dX2_add_36 ?_
    refine lv_iload_n hx hb dX2_add_39 rfl (lv_at hl 3 rfl) ?_
    obtain ⟨hin, h⟩ := gd_o h
    refine C_st7 hC hw hin dX2_add_40 (fun σ3 eσ3 H locs hw => ?_)
    have h := nm_o h σ3 eσ3
    refine lv_aload_n hx hb dX2_add_41 rfl (lv_at hl 0 rfl) ?_
    refine lv_dup hx hb dX2_add_42 rfl ?_
    refine C_g_X2_22 hC hw dX2_add_43 ?_
    refine lv_iconst (v := 1) hx hb dX2_add_46 (by decide) ?_
    refine lv_iadd hx hb dX2_add_47 ?_
    refine C_p_X2_22 hC hw dX2_add_48 (fun σ4 eσ4 H locs hw => ?_)
    have h := nm_o h σ4 eσ4
    refine lv_aload_n hx hb dX2_add_51 rfl (lv_at hl 0 rfl) ?_
    refine C_g_X2_22 hC hw dX2_add_52 ?_
    refine lv_iconst (v := 1) hx hb dX2_add_55 (by decide) ?_
    refine lv_isub hx hb dX2_add_56 ?_
    cases h
    exact ret_i hC hw dX2_add_57
  · have h := if_f h c
    refine lv_iconst (v := -1) hx hb dX2_add_9 (by decide) ?_
    cases h
    exact ret_i hC hw dX2_add_10
/-! SlideBoards$Goals.removeAll()I -/
abbrev rm_X2_removeAll : Room := { frames := 0, cells := 0, slots := 0, locals := 0 }
def f_X2_removeAll (N : Nat) (σ : St) : Option (Int32 × St) :=
  nm (σ.1 8) (fun y1 => nm (sI σ 8 (0 : Int32)) (fun σ2 => some (y1, σ2)))
set_option maxRecDepth 100000 in
set_option maxHeartbeats 4000000 in
theorem c_X2_removeAll (l : Launch) (D : va_G) (q : Nat → Nat) (k : cK) (N : Nat) (σ : St) (r : Int32) (σ' : St) (h : f_X2_removeAll N σ = some (r, σ')) :
    Met l yX2_removeAll [.code yX2_removeAll cX2_removeAll 2 (some .int)] rm_X2_removeAll (PC D (CW q k σ) k [.ref (q 4)]) (QR D (CW q k σ) (CW q k σ') (some (.int r))) 0 0 (AQ (CW q k σ)) := by
  refine met_of (by decide) (Nat.le_of_ble_eq_true rfl) ?_
  intro p e s m below meth c hC hw ls hl
  have hC : Cx p s m meth c cX2_removeAll RX2 2 (some .int) := hC
  have hl : lv_has ls 2 [(0, .ref (q 4))] := hl
  have hx := hC.1
  have hb := hC.2.1
  unfold f_X2_removeAll at h
  refine lv_aload_n hx hb dX2_removeAll_0 rfl (lv_at hl 0 rfl) ?_
  refine C_g_X2_22 hC hw dX2_removeAll_1 ?_
  refine lv_topi (fun y1 ey1 => ?_)
  have h := nm_o h y1 ey1
  refine lv_istore_n (lv' := [(1, .int y1), (0, .ref (q 4))]) hx hb dX2_removeAll_4 rfl hl (by decide) rfl (fun ls hl => ?_)
  refine lv_aload_n hx hb dX2_removeAll_5 rfl (lv_at hl 1 rfl) ?_
  refine lv_iconst (v := 0) hx hb dX2_removeAll_6 (by decide) ?_
  refine C_p_X2_22 hC hw dX2_removeAll_7 (fun σ2 eσ2 H locs hw => ?_)
  have h := nm_o h σ2 eσ2
  refine lv_iload_n hx hb dX2_removeAll_10 rfl (lv_at hl 0 rfl) ?_
  cases h
  exact ret_i hC hw dX2_removeAll_11
/-! SlideBoards$Goals.kindIsAt(LSlideBoards$Board;[III)Z -/
abbrev rm_X2_kindIsAt_a11 : Room := { frames := 0, cells := 0, slots := 0, locals := 0 }
def lp_X2_kindIsAt_a11_3 (N : Nat) (σ : St) (x2 : Int32) (x3 : Int32) : Nat → Int32 → Option Int32
  | 0, _ => none
  | n + 1, x4 => if (σ.1 6) ≤ x4 then (some (0 : Int32)) else (gd (okx x4 8) (if (ra σ 0 x4) = x2 then (gd (okx x4 8) (if (ra σ 7 x4) = x3 then (some (1 : Int32)) else (nm (x4 + (1 : Int32)) (fun y2 => lp_X2_kindIsAt_a11_3 N σ x2 x3 n y2)))) else (nm (x4 + (1 : Int32)) (fun y1 => lp_X2_kindIsAt_a11_3 N σ x2 x3 n y1))))
set_option maxRecDepth 100000 in
set_option maxHeartbeats 4000000 in
theorem w_X2_kindIsAt_a11_3 {p : Program} {l : Launch} {e : Env} {s : State} {m : MethodId} {below : List Frame} {meth : Method} {c : Code} {args : Array Value} {D : va_G} {q : Nat → Nat} {k : cK} {ws0 : va_W} (hC : Cx p s m meth c cX2_kindIsAt RX2 5 (some .boolean)) (N : Nat) (σ : St) (x2 : Int32) (x3 : Int32) (r : Int32) :
    ∀ (n : Nat) (x4 : Int32) (H : Heap) (locs : List Loc) (ls : Array Slot), lp_X2_kindIsAt_a11_3 N σ x2 x3 n x4 = some r → WH D (CW q k σ) k (AQ ws0) s s.heap H locs → lv_has ls 5 [(0, .ref (q 1)), (1, .ref (q 11)), (2, .int x2), (3, .int x3), (4, .int x4)] → W p l e rm_X2_kindIsAt_a11 s m args below meth c H locs 0 0 (MQ below (QR D ws0 (CW q k σ) (some (.int r))) args s 0 0 (AQ ws0)) (F0 m 3 ls []) := by
  have hx := hC.1
  have hb := hC.2.1
  intro n
  induction n with
  | zero =>
    intro x4 H locs ls h
    cases h
  | succ n ih =>
    intro x4 H locs ls h hw hl
    rw [lp_X2_kindIsAt_a11_3] at h
    refine lv_iload hx hb dX2_kindIsAt_3 (lv_at hl 4 rfl) ?_
    refine lv_aload_n hx hb dX2_kindIsAt_5 rfl (lv_at hl 0 rfl) ?_
    refine C_g_X2_30 hC hw dX2_kindIsAt_6 ?_
    refine lv_icmp_ge (tgt := 39) hx hb dX2_kindIsAt_9 (by decide) (fun c => ?_) (fun c => ?_)
    · have h := if_t h c
      refine lv_iconst (v := 0) hx hb dX2_kindIsAt_39 (by decide) ?_
      cases h
      exact ret_z hC (Or.inl rfl) hw dX2_kindIsAt_40
    · have h := if_f h c
      refine lv_aload_n hx hb dX2_kindIsAt_12 rfl (lv_at hl 0 rfl) ?_
      refine C_g_X2_35 hC hw dX2_kindIsAt_13 ?_
      refine lv_iload hx hb dX2_kindIsAt_16 (lv_at hl 4 rfl) ?_
      obtain ⟨hin, h⟩ := gd_o h
      refine C_ld2 hC hw hin dX2_kindIsAt_18 ?_
      refine lv_iload_n hx hb dX2_kindIsAt_19 rfl (lv_at hl 2 rfl) ?_
      refine lv_icmp_ne (tgt := 33) hx hb dX2_kindIsAt_20 (by decide) (fun c => ?_) (fun c => ?_)
      · have h := if_f h c
        obtain ⟨y1, ey1⟩ : ∃ y : Int32, y = x4 + (1 : Int32) := ⟨_, rfl⟩
        have h := nm_o h y1 ey1
        refine lv_iinc (v := y1) (lv' := [(4, .int y1), (0, .ref (q 1)), (1, .ref (q 11)), (2, .int x2), (3, .int x3)]) hx hb dX2_kindIsAt_33 hl (k := 4) rfl (by rw [ey1]; rfl) (by decide) rfl (fun ls hl => ?_)
        refine lv_goto (tgt := 3) hx hb dX2_kindIsAt_36 (by decide) ?_
        exact ih y1 _ _ ls h hw (lv_sub hl [1, 2, 3, 4, 0] rfl)
      · have h := if_t h c
        refine lv_aload_n hx hb dX2_kindIsAt_23 rfl (lv_at hl 1 rfl) ?_
        refine lv_iload hx hb dX2_kindIsAt_24 (lv_at hl 4 rfl) ?_
        obtain ⟨hin, h⟩ := gd_o h
        refine C_ld11 hC hw hin dX2_kindIsAt_26 ?_
        refine lv_iload_n hx hb dX2_kindIsAt_27 rfl (lv_at hl 3 rfl) ?_
        refine lv_icmp_ne (tgt := 33) hx hb dX2_kindIsAt_28 (by decide) (fun c => ?_) (fun c => ?_)
        · have h := if_f h c
          obtain ⟨y2, ey2⟩ : ∃ y : Int32, y = x4 + (1 : Int32) := ⟨_, rfl⟩
          have h := nm_o h y2 ey2
          refine lv_iinc (v := y2) (lv' := [(4, .int y2), (0, .ref (q 1)), (1, .ref (q 11)), (2, .int x2), (3, .int x3)]) hx hb dX2_kindIsAt_33 hl (k := 4) rfl (by rw [ey2]; rfl) (by decide) rfl (fun ls hl => ?_)
          refine lv_goto (tgt := 3) hx hb dX2_kindIsAt_36 (by decide) ?_
          exact ih y2 _ _ ls h hw (lv_sub hl [1, 2, 3, 4, 0] rfl)
        · have h := if_t h c
          refine lv_iconst (v := 1) hx hb dX2_kindIsAt_31 (by decide) ?_
          cases h
          exact ret_z hC (Or.inr rfl) hw dX2_kindIsAt_32
def f_X2_kindIsAt_a11 (N : Nat) (σ : St) (a2 : Int32) (a3 : Int32) : Option Int32 :=
  lp_X2_kindIsAt_a11_3 N σ a2 a3 N (0 : Int32)
set_option maxRecDepth 100000 in
set_option maxHeartbeats 4000000 in
theorem c_X2_kindIsAt_a11 (l : Launch) (D : va_G) (q : Nat → Nat) (k : cK) (N : Nat) (σ : St) (a2 : Int32) (a3 : Int32) (r : Int32) (h : f_X2_kindIsAt_a11 N σ a2 a3 = some r) :
    Met l yX2_kindIsAt [.code yX2_kindIsAt cX2_kindIsAt 5 (some .boolean)] rm_X2_kindIsAt_a11 (PC D (CW q k σ) k [.ref (q 1), .ref (q 11), .int a2, .int a3]) (QR D (CW q k σ) (CW q k σ) (some (.int r))) 0 0 (AQ (CW q k σ)) := by
  refine met_of (by decide) (Nat.le_of_ble_eq_true rfl) ?_
  intro p e s m below meth c hC hw ls hl
  have hC : Cx p s m meth c cX2_kindIsAt RX2 5 (some .boolean) := hC
  have hl : lv_has ls 5 [(0, .ref (q 1)), (1, .ref (q 11)), (2, .int a2), (3, .int a3)] := hl
  have hx := hC.1
  have hb := hC.2.1
  unfold f_X2_kindIsAt_a11 at h
  refine lv_iconst (v := 0) hx hb dX2_kindIsAt_0 (by decide) ?_
  refine lv_istore (lv' := [(4, .int (0 : Int32)), (0, .ref (q 1)), (1, .ref (q 11)), (2, .int a2), (3, .int a3)]) hx hb dX2_kindIsAt_1 hl (by decide) rfl (fun ls hl => ?_)
  exact w_X2_kindIsAt_a11_3 hC N σ a2 a3 r N (0 : Int32) _ _ ls h hw (lv_sub hl [1, 2, 3, 4, 0] rfl)
/-! SlideBoards$Goals.firstOpen(LSlideBoards$Board;[I)I -/
abbrev rm_X2_firstOpen_a11 : Room := { frames := 1, cells := 0, slots := 0, locals := 24 }
def lp_X2_firstOpen_a11_2 (N : Nat) (σ : St) : Nat → Int32 → Option Int32
  | 0, _ => none
  | n + 1, x3 => if (σ.1 8) ≤ x3 then (some (-1 : Int32)) else (gd (okx x3 6) (if (ra σ 2 x3) = 0 then (gd (okx x3 6) (gd (okx (ra σ 3 x3) 8) (gd (okx x3 6) (if (ra σ 7 (ra σ 3 x3)) = (ra σ 4 x3) then (if (1 : Int32) = 0 then (some x3) else (nm (x3 + (1 : Int32)) (fun y2 => lp_X2_firstOpen_a11_2 N σ n y2))) else (if (0 : Int32) = 0 then (some x3) else (nm (x3 + (1 : Int32)) (fun y1 => lp_X2_firstOpen_a11_2 N σ n y1))))))) else (gd (okx x3 6) (gd (okx x3 6) (bd1 (f_X2_kindIsAt_a11 N σ (ra σ 3 x3) (ra σ 4 x3)) (fun r3 => if r3 = 0 then (some x3) else (nm (x3 + (1 : Int32)) (fun y4 => lp_X2_firstOpen_a11_2 N σ n y4))))))))
set_option maxRecDepth 100000 in
set_option maxHeartbeats 4000000 in
theorem w_X2_firstOpen_a11_2 {p : Program} {l : Launch} {e : Env} {s : State} {m : MethodId} {below : List Frame} {meth : Method} {c : Code} {args : Array Value} {D : va_G} {q : Nat → Nat} {k : cK} {ws0 : va_W} (hC : Cx p s m meth c cX2_firstOpen RX2 5 (some .int)) (N : Nat) (σ : St) (r : Int32) :
    ∀ (n : Nat) (x3 : Int32) (H : Heap) (locs : List Loc) (ls : Array Slot), lp_X2_firstOpen_a11_2 N σ n x3 = some r → WH D (CW q k σ) k (AQ ws0) s s.heap H locs → lv_has ls 5 [(0, .ref (q 4)), (1, .ref (q 1)), (2, .ref (q 11)), (3, .int x3)] → W p l e rm_X2_firstOpen_a11 s m args below meth c H locs 0 0 (MQ below (QR D ws0 (CW q k σ) (some (.int r))) args s 0 0 (AQ ws0)) (F0 m 2 ls []) := by
  have hx := hC.1
  have hb := hC.2.1
  intro n
  induction n with
  | zero =>
    intro x3 H locs ls h
    cases h
  | succ n ih =>
    intro x3 H locs ls h hw hl
    rw [lp_X2_firstOpen_a11_2] at h
    refine lv_iload_n hx hb dX2_firstOpen_2 rfl (lv_at hl 3 rfl) ?_
    refine lv_aload_n hx hb dX2_firstOpen_3 rfl (lv_at hl 0 rfl) ?_
    refine C_g_X2_22 hC hw dX2_firstOpen_4 ?_
    refine lv_icmp_ge (tgt := 76) hx hb dX2_firstOpen_7 (by decide) (fun c => ?_) (fun c => ?_)
    · have h := if_t h c
      refine lv_iconst (v := -1) hx hb dX2_firstOpen_76 (by decide) ?_
      cases h
      exact ret_i hC hw dX2_firstOpen_77
    · have h := if_f h c
      refine lv_aload_n hx hb dX2_firstOpen_10 rfl (lv_at hl 0 rfl) ?_
      refine C_g_X2_9 hC hw dX2_firstOpen_11 ?_
      refine lv_iload_n hx hb dX2_firstOpen_14 rfl (lv_at hl 3 rfl) ?_
      obtain ⟨hin, h⟩ := gd_o h
      refine C_ld5 hC hw hin dX2_firstOpen_15 ?_
      refine lv_if_eq (tgt := 39) hx hb dX2_firstOpen_16 (by decide) (fun c => ?_) (fun c => ?_)
      · have h := if_t h c
        refine lv_aload_n hx hb dX2_firstOpen_39 rfl (lv_at hl 2 rfl) ?_
        refine lv_aload_n hx hb dX2_firstOpen_40 rfl (lv_at hl 0 rfl) ?_
        refine C_g_X2_15 hC hw dX2_firstOpen_41 ?_
        refine lv_iload_n hx hb dX2_firstOpen_44 rfl (lv_at hl 3 rfl) ?_
        obtain ⟨hin, h⟩ := gd_o h
        refine C_ld6 hC hw hin dX2_firstOpen_45 ?_
        obtain ⟨hin, h⟩ := gd_o h
        refine C_ld11 hC hw hin dX2_firstOpen_46 ?_
        refine lv_aload_n hx hb dX2_firstOpen_47 rfl (lv_at hl 0 rfl) ?_
        refine C_g_X2_19 hC hw dX2_firstOpen_48 ?_
        refine lv_iload_n hx hb dX2_firstOpen_51 rfl (lv_at hl 3 rfl) ?_
        obtain ⟨hin, h⟩ := gd_o h
        refine C_ld7 hC hw hin dX2_firstOpen_52 ?_
        refine lv_icmp_ne (tgt := 60) hx hb dX2_firstOpen_53 (by decide) (fun c => ?_) (fun c => ?_)
        · have h := if_f h c
          refine lv_iconst (v := 0) hx hb dX2_firstOpen_60 (by decide) ?_
          refine lv_istore (lv' := [(4, .int (0 : Int32)), (0, .ref (q 4)), (1, .ref (q 1)), (2, .ref (q 11)), (3, .int x3)]) hx hb dX2_firstOpen_61 hl (by decide) rfl (fun ls hl => ?_)
          refine lv_iload hx hb dX2_firstOpen_63 (lv_at hl 0 rfl) ?_
          refine lv_if_ne (tgt := 70) hx hb dX2_firstOpen_65 (by decide) (fun c => ?_) (fun c => ?_)
          · have h := if_f h c
            obtain ⟨y1, ey1⟩ : ∃ y : Int32, y = x3 + (1 : Int32) := ⟨_, rfl⟩
            have h := nm_o h y1 ey1
            refine lv_iinc (v := y1) (lv' := [(3, .int y1), (4, .int (0 : Int32)), (0, .ref (q 4)), (1, .ref (q 1)), (2, .ref (q 11))]) hx hb dX2_firstOpen_70 hl (k := 4) rfl (by rw [ey1]; rfl) (by decide) rfl (fun ls hl => ?_)
            refine lv_goto (tgt := 2) hx hb dX2_firstOpen_73 (by decide) ?_
            exact ih y1 _ _ ls h hw (lv_sub hl [2, 3, 4, 0] rfl)
          · have h := if_t h c
            refine lv_iload_n hx hb dX2_firstOpen_68 rfl (lv_at hl 4 rfl) ?_
            cases h
            exact ret_i hC hw dX2_firstOpen_69
        · have h := if_t h c
          refine lv_iconst (v := 1) hx hb dX2_firstOpen_56 (by decide) ?_
          refine lv_goto (tgt := 61) hx hb dX2_firstOpen_57 (by decide) ?_
          refine lv_istore (lv' := [(4, .int (1 : Int32)), (0, .ref (q 4)), (1, .ref (q 1)), (2, .ref (q 11)), (3, .int x3)]) hx hb dX2_firstOpen_61 hl (by decide) rfl (fun ls hl => ?_)
          refine lv_iload hx hb dX2_firstOpen_63 (lv_at hl 0 rfl) ?_
          refine lv_if_ne (tgt := 70) hx hb dX2_firstOpen_65 (by decide) (fun c => ?_) (fun c => ?_)
          · have h := if_f h c
            obtain ⟨y2, ey2⟩ : ∃ y : Int32, y = x3 + (1 : Int32) := ⟨_, rfl⟩
            have h := nm_o h y2 ey2
            refine lv_iinc (v := y2) (lv' := [(3, .int y2), (4, .int (1 : Int32)), (0, .ref (q 4)), (1, .ref (q 1)), (2, .ref (q 11))]) hx hb dX2_firstOpen_70 hl (k := 4) rfl (by rw [ey2]; rfl) (by decide) rfl (fun ls hl => ?_)
            refine lv_goto (tgt := 2) hx hb dX2_firstOpen_73 (by decide) ?_
            exact ih y2 _ _ ls h hw (lv_sub hl [2, 3, 4, 0] rfl)
          · have h := if_t h c
            refine lv_iload_n hx hb dX2_firstOpen_68 rfl (lv_at hl 4 rfl) ?_
            cases h
            exact ret_i hC hw dX2_firstOpen_69
      · have h := if_f h c
        refine lv_aload_n hx hb dX2_firstOpen_19 rfl (lv_at hl 1 rfl) ?_
        refine lv_aload_n hx hb dX2_firstOpen_20 rfl (lv_at hl 2 rfl) ?_
        refine lv_aload_n hx hb dX2_firstOpen_21 rfl (lv_at hl 0 rfl) ?_
        refine C_g_X2_15 hC hw dX2_firstOpen_22 ?_
        refine lv_iload_n hx hb dX2_firstOpen_25 rfl (lv_at hl 3 rfl) ?_
        obtain ⟨hin, h⟩ := gd_o h
        refine C_ld6 hC hw hin dX2_firstOpen_26 ?_
        refine lv_aload_n hx hb dX2_firstOpen_27 rfl (lv_at hl 0 rfl) ?_
        refine C_g_X2_19 hC hw dX2_firstOpen_28 ?_
        refine lv_iload_n hx hb dX2_firstOpen_31 rfl (lv_at hl 3 rfl) ?_
        obtain ⟨hin, h⟩ := gd_o h
        refine C_ld7 hC hw hin dX2_firstOpen_32 ?_
        obtain ⟨r3, hc, h⟩ := bd1_o h
        refine go_i (run_S (As := [.ref (q 1), .ref (q 11), .int (ra σ 3 x3), .int (ra σ 4 x3)]) (rest := []) hC hw (c_X2_kindIsAt_a11 l D q k N σ (ra σ 3 x3) (ra σ 4 x3) r3 hc) kw_72 kw_74 kw_64 kw_73 hd_X2_kindIsAt ⟨rfl, rfl⟩ ⟨Nat.le_of_ble_eq_true rfl, Nat.le_of_ble_eq_true rfl⟩ rfl hl.1 rfl (Nat.le_of_ble_eq_true rfl) dX2_firstOpen_33 ⟨Nat.zero_le _, Nat.zero_le _⟩) hw (fun H locs hw => ?_)
        refine lv_goto (tgt := 61) hx hb dX2_firstOpen_36 (by decide) ?_
        refine lv_istore (lv' := [(4, .int r3), (0, .ref (q 4)), (1, .ref (q 1)), (2, .ref (q 11)), (3, .int x3)]) hx hb dX2_firstOpen_61 hl (by decide) rfl (fun ls hl => ?_)
        refine lv_iload hx hb dX2_firstOpen_63 (lv_at hl 0 rfl) ?_
        refine lv_if_ne (tgt := 70) hx hb dX2_firstOpen_65 (by decide) (fun c => ?_) (fun c => ?_)
        · have h := if_f h c
          obtain ⟨y4, ey4⟩ : ∃ y : Int32, y = x3 + (1 : Int32) := ⟨_, rfl⟩
          have h := nm_o h y4 ey4
          refine lv_iinc (v := y4) (lv' := [(3, .int y4), (4, .int r3), (0, .ref (q 4)), (1, .ref (q 1)), (2, .ref (q 11))]) hx hb dX2_firstOpen_70 hl (k := 4) rfl (by rw [ey4]; rfl) (by decide) rfl (fun ls hl => ?_)
          refine lv_goto (tgt := 2) hx hb dX2_firstOpen_73 (by decide) ?_
          exact ih y4 _ _ ls h hw (lv_sub hl [2, 3, 4, 0] rfl)
        · have h := if_t h c
          refine lv_iload_n hx hb dX2_firstOpen_68 rfl (lv_at hl 4 rfl) ?_
          cases h
          exact ret_i hC hw dX2_firstOpen_69
def f_X2_firstOpen_a11 (N : Nat) (σ : St) : Option Int32 :=
  lp_X2_firstOpen_a11_2 N σ N (0 : Int32)
set_option maxRecDepth 100000 in
set_option maxHeartbeats 4000000 in
theorem c_X2_firstOpen_a11 (l : Launch) (D : va_G) (q : Nat → Nat) (k : cK) (N : Nat) (σ : St) (r : Int32) (h : f_X2_firstOpen_a11 N σ = some r) :
    Met l yX2_firstOpen [.code yX2_firstOpen cX2_firstOpen 5 (some .int)] rm_X2_firstOpen_a11 (PC D (CW q k σ) k [.ref (q 4), .ref (q 1), .ref (q 11)]) (QR D (CW q k σ) (CW q k σ) (some (.int r))) 0 0 (AQ (CW q k σ)) := by
  refine met_of (by decide) (Nat.le_of_ble_eq_true rfl) ?_
  intro p e s m below meth c hC hw ls hl
  have hC : Cx p s m meth c cX2_firstOpen RX2 5 (some .int) := hC
  have hl : lv_has ls 5 [(0, .ref (q 4)), (1, .ref (q 1)), (2, .ref (q 11))] := hl
  have hx := hC.1
  have hb := hC.2.1
  unfold f_X2_firstOpen_a11 at h
  refine lv_iconst (v := 0) hx hb dX2_firstOpen_0 (by decide) ?_
  refine lv_istore_n (lv' := [(3, .int (0 : Int32)), (0, .ref (q 4)), (1, .ref (q 1)), (2, .ref (q 11))]) hx hb dX2_firstOpen_1 rfl hl (by decide) rfl (fun ls hl => ?_)
  exact w_X2_firstOpen_a11_2 hC N σ r N (0 : Int32) _ _ ls h hw (lv_sub hl [1, 2, 3, 0] rfl)

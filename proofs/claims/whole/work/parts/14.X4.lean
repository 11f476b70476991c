/-! SlideBoards$StateStore.bucketOf(J)I -/
abbrev rm_X4_bucketOf : Room := { frames := 0, cells := 0, slots := 0, locals := 0 }
def f_X4_bucketOf (N : Nat) (σ : St) (a0 : Int64) : Option Int32 :=
  some (Int64.toInt32 (jlushr (a0 * (-7046029254386353131 : Int64)) (50 : Int32)))
set_option maxRecDepth 100000 in
set_option maxHeartbeats 4000000 in
theorem c_X4_bucketOf (l : Launch) (D : va_G) (q : Nat → Nat) (k : cK) (N : Nat) (σ : St) (a0 : Int64) (r : Int32) (h : f_X4_bucketOf N σ a0 = some r) :
    Met l yX4_bucketOf [.code yX4_bucketOf cX4_bucketOf 2 (some .int)] rm_X4_bucketOf (PC D (CW q k σ) k [.long a0]) (QR D (CW q k σ) (CW q k σ) (some (.int r))) 0 0 (AQ (CW q k σ)) := by
  refine met_of (by decide) (Nat.le_of_ble_eq_true rfl) ?_
  intro p e s m below meth c hC hw ls hl
  have hC : Cx p s m meth c cX4_bucketOf RX4 2 (some .int) := hC
  have hl : lv_has ls 2 [(0, .long a0)] := hl
  have hx := hC.1
  have hb := hC.2.1
  unfold f_X4_bucketOf at h
  refine lv_lload_n hx hb dX4_bucketOf_0 rfl (lv_at hl 0 rfl) ?_
  refine lv_ldc2 hx hb hC.2.2.2.2.1 (hw.2.2.2.2.all _ _ kw_85) dX4_bucketOf_1 ?_
  refine lv_lmul hx hb dX4_bucketOf_4 ?_
  refine lv_bipush (v := 50) hx hb dX4_bucketOf_5 (by decide) ?_
  refine lv_lushr (v := jlushr (a0 * (-7046029254386353131 : Int64)) (50 : Int32)) hx hb dX4_bucketOf_7 rfl ?_
  refine lv_l2i (v := Int64.toInt32 (jlushr (a0 * (-7046029254386353131 : Int64)) (50 : Int32))) hx hb dX4_bucketOf_8 rfl ?_
  cases h
  exact ret_i hC hw dX4_bucketOf_9
/-! SlideBoards$StateStore.clear()V -/
abbrev rm_X4_clear : Room := { frames := 1, cells := 0, slots := 0, locals := 21 }
def lp_X4_clear_2 (N : Nat) : Nat → St → Int32 → Option St
  | 0, _, _ => none
  | n + 1, σ, x1 => if (σ.1 12) ≤ x1 then (nm (sI σ 12 (0 : Int32)) (fun σ1 => some σ1)) else (gd (okx x1 10000) (bd1 (f_X4_bucketOf N σ (rl σ 0 x1)) (fun r2 => gd (okx r2 16384) (nm (sA σ 12 r2 (0 : Int32)) (fun σ3 => nm (x1 + (1 : Int32)) (fun y4 => lp_X4_clear_2 N n σ3 y4))))))
set_option maxRecDepth 100000 in
set_option maxHeartbeats 4000000 in
theorem w_X4_clear_2 {p : Program} {l : Launch} {e : Env} {s : State} {m : MethodId} {below : List Frame} {meth : Method} {c : Code} {args : Array Value} {D : va_G} {q : Nat → Nat} {k : cK} {ws0 : va_W} (hC : Cx p s m meth c cX4_clear RX4 2 none) (N : Nat) (σ' : St) :
    ∀ (n : Nat) (σ : St) (x1 : Int32) (H : Heap) (locs : List Loc) (ls : Array Slot), lp_X4_clear_2 N n σ x1 = some σ' → WH D (CW q k σ) k (AQ ws0) s s.heap H locs → lv_has ls 2 [(0, .ref (q 14)), (1, .int x1)] → W p l e rm_X4_clear s m args below meth c H locs 0 0 (MQ below (QR D ws0 (CW q k σ') none) args s 0 0 (AQ ws0)) (F0 m 2 ls []) := by
  have hx := hC.1
  have hb := hC.2.1
  intro n
  induction n with
  | zero =>
    intro σ x1 H locs ls h
    cases h
  | succ n ih =>
    intro σ x1 H locs ls h hw hl
    rw [lp_X4_clear_2] at h
    refine lv_iload_n hx hb dX4_clear_2 rfl (lv_at hl 1 rfl) ?_
    refine lv_aload_n hx hb dX4_clear_3 rfl (lv_at hl 0 rfl) ?_
    refine C_g_X4_33 hC hw dX4_clear_4 ?_
    refine lv_icmp_ge (tgt := 31) hx hb dX4_clear_7 (by decide) (fun c => ?_) (fun c => ?_)
    · have h := if_t h c
      refine lv_aload_n hx hb dX4_clear_31 rfl (lv_at hl 0 rfl) ?_
      refine lv_iconst (v := 0) hx hb dX4_clear_32 (by decide) ?_
      refine C_p_X4_33 hC hw dX4_clear_33 (fun σ1 eσ1 H locs hw => ?_)
      have h := nm_o h σ1 eσ1
      cases h
      exact ret_v hC hw dX4_clear_36
    · have h := if_f h c
      refine lv_aload_n hx hb dX4_clear_10 rfl (lv_at hl 0 rfl) ?_
      refine C_g_X4_25 hC hw dX4_clear_11 ?_
      refine lv_aload_n hx hb dX4_clear_14 rfl (lv_at hl 0 rfl) ?_
      refine C_g_X4_9 hC hw dX4_clear_15 ?_
      refine lv_iload_n hx hb dX4_clear_18 rfl (lv_at hl 1 rfl) ?_
      obtain ⟨hin, h⟩ := gd_o h
      refine C_ld15 hC hw hin dX4_clear_19 ?_
      obtain ⟨r2, hc, h⟩ := bd1_o h
      refine go_i (run_S (As := [.long (rl σ 0 x1)]) (rest := [.ref (q 19)]) hC hw (c_X4_bucketOf l D q k N σ (rl σ 0 x1) r2 hc) kw_86 kw_89 kw_87 kw_88 hd_X4_bucketOf ⟨rfl, rfl⟩ ⟨Nat.le_of_ble_eq_true rfl, Nat.le_of_ble_eq_true rfl⟩ rfl hl.1 rfl (Nat.le_of_ble_eq_true rfl) dX4_clear_20 ⟨Nat.zero_le _, Nat.zero_le _⟩) hw (fun H locs hw => ?_)
      refine lv_iconst (v := 0) hx hb dX4_clear_23 (by decide) ?_
      obtain ⟨hin, h⟩ := gd_o h
      refine C_st19 hC hw hin dX4_clear_24 (fun σ3 eσ3 H locs hw => ?_)
      have h := nm_o h σ3 eσ3
      obtain ⟨y4, ey4⟩ : ∃ y : Int32, y = x1 + (1 : Int32) := ⟨_, rfl⟩
      have h := nm_o h y4 ey4
      refine lv_iinc (v := y4) (lv' := [(1, .int y4), (0, .ref (q 14))]) hx hb dX4_clear_25 hl (k := 1) rfl (by rw [ey4]; rfl) (by decide) rfl (fun ls hl => ?_)
      refine lv_goto (tgt := 2) hx hb dX4_clear_28 (by decide) ?_
      exact ih σ3 y4 _ _ ls h hw (lv_sub hl [1, 0] rfl)
def f_X4_clear (N : Nat) (σ : St) : Option St :=
  lp_X4_clear_2 N N σ (0 : Int32)
set_option maxRecDepth 100000 in
set_option maxHeartbeats 4000000 in
theorem c_X4_clear (l : Launch) (D : va_G) (q : Nat → Nat) (k : cK) (N : Nat) (σ : St) (σ' : St) (h : f_X4_clear N σ = some σ') :
    Met l yX4_clear [.code yX4_clear cX4_clear 2 none] rm_X4_clear (PC D (CW q k σ) k [.ref (q 14)]) (QR D (CW q k σ) (CW q k σ') none) 0 0 (AQ (CW q k σ)) := by
  refine met_of (by decide) (Nat.le_of_ble_eq_true rfl) ?_
  intro p e s m below meth c hC hw ls hl
  have hC : Cx p s m meth c cX4_clear RX4 2 none := hC
  have hl : lv_has ls 2 [(0, .ref (q 14))] := hl
  have hx := hC.1
  have hb := hC.2.1
  unfold f_X4_clear at h
  refine lv_iconst (v := 0) hx hb dX4_clear_0 (by decide) ?_
  refine lv_istore_n (lv' := [(1, .int (0 : Int32)), (0, .ref (q 14))]) hx hb dX4_clear_1 rfl hl (by decide) rfl (fun ls hl => ?_)
  exact w_X4_clear_2 hC N σ' N σ (0 : Int32) _ _ ls h hw (lv_sub hl [1, 0] rfl)
/-! SlideBoards$StateStore.holds(J)Z -/
abbrev rm_X4_holds : Room := { frames := 1, cells := 0, slots := 0, locals := 21 }
def lp_X4_holds_13 (N : Nat) (σ : St) (x1 : Int64) : Nat → Int32 → Int32 → Option Int32
  | 0, _, _ => none
  | n + 1, x3, x4 => if (σ.1 12) ≤ x4 then (some (0 : Int32)) else (if x3 = 0 then (some (0 : Int32)) else (gd (okx (x3 - (1 : Int32)) 10000) (if (lg_cmp (rl σ 0 (x3 - (1 : Int32))) x1) = 0 then (some (1 : Int32)) else (gd (okx (x3 - (1 : Int32)) 10000) (nm (ra σ 13 (x3 - (1 : Int32))) (fun y3 => nm (x4 + (1 : Int32)) (fun y4 => lp_X4_holds_13 N σ x1 n y3 y4)))))))
set_option maxRecDepth 100000 in
set_option maxHeartbeats 4000000 in
theorem w_X4_holds_13 {p : Program} {l : Launch} {e : Env} {s : State} {m : MethodId} {below : List Frame} {meth : Method} {c : Code} {args : Array Value} {D : va_G} {q : Nat → Nat} {k : cK} {ws0 : va_W} (hC : Cx p s m meth c cX4_holds RX4 5 (some .boolean)) (N : Nat) (σ : St) (x1 : Int64) (r : Int32) :
    ∀ (n : Nat) (x3 : Int32) (x4 : Int32) (H : Heap) (locs : List Loc) (ls : Array Slot), lp_X4_holds_13 N σ x1 n x3 x4 = some r → WH D (CW q k σ) k (AQ ws0) s s.heap H locs → lv_has ls 5 [(0, .ref (q 14)), (1, .long x1), (3, .int x3), (4, .int x4)] → W p l e rm_X4_holds s m args below meth c H locs 0 0 (MQ below (QR D ws0 (CW q k σ) (some (.int r))) args s 0 0 (AQ ws0)) (F0 m 13 ls []) := by
  have hx := hC.1
  have hb := hC.2.1
  intro n
  induction n with
  | zero =>
    intro x3 x4 H locs ls h
    cases h
  | succ n ih =>
    intro x3 x4 H locs ls h hw hl
    rw [lp_X4_holds_13] at h
    refine lv_iload hx hb dX4_holds_13 (lv_at hl 3 rfl) ?_
    refine lv_aload_n hx hb dX4_holds_15 rfl (lv_at hl 0 rfl) ?_
    refine C_g_X4_33 hC hw dX4_holds_16 ?_
    refine lv_icmp_ge (tgt := 56) hx hb dX4_holds_19 (by decide) (fun c => ?_) (fun c => ?_)
    · have h := if_t h c
      refine lv_iconst (v := 0) hx hb dX4_holds_56 (by decide) ?_
      cases h
      exact ret_z hC (Or.inl rfl) hw dX4_holds_57
    · have h := if_f h c
      refine lv_iload_n hx hb dX4_holds_22 rfl (lv_at hl 2 rfl) ?_
      refine lv_if_eq (tgt := 56) hx hb dX4_holds_23 (by decide) (fun c => ?_) (fun c => ?_)
      · have h := if_t h c
        refine lv_iconst (v := 0) hx hb dX4_holds_56 (by decide) ?_
        cases h
        exact ret_z hC (Or.inl rfl) hw dX4_holds_57
      · have h := if_f h c
        refine lv_aload_n hx hb dX4_holds_26 rfl (lv_at hl 0 rfl) ?_
        refine C_g_X4_9 hC hw dX4_holds_27 ?_
        refine lv_iload_n hx hb dX4_holds_30 rfl (lv_at hl 2 rfl) ?_
        refine lv_iconst (v := 1) hx hb dX4_holds_31 (by decide) ?_
        refine lv_isub hx hb dX4_holds_32 ?_
        obtain ⟨hin, h⟩ := gd_o h
        refine C_ld15 hC hw hin dX4_holds_33 ?_
        refine lv_lload_n hx hb dX4_holds_34 rfl (lv_at hl 1 rfl) ?_
        refine W.lcmp hx hb dX4_holds_35 ?_
        refine lv_if_ne (tgt := 41) hx hb dX4_holds_36 (by decide) (fun c => ?_) (fun c => ?_)
        · have h := if_f h c
          refine lv_aload_n hx hb dX4_holds_41 rfl (lv_at hl 0 rfl) ?_
          refine C_g_X4_28 hC hw dX4_holds_42 ?_
          refine lv_iload_n hx hb dX4_holds_45 rfl (lv_at hl 2 rfl) ?_
          refine lv_iconst (v := 1) hx hb dX4_holds_46 (by decide) ?_
          refine lv_isub hx hb dX4_holds_47 ?_
          obtain ⟨hin, h⟩ := gd_o h
          refine C_ld20 hC hw hin dX4_holds_48 ?_
          refine lv_topi (fun y3 ey3 => ?_)
          have h := nm_o h y3 ey3
          refine lv_istore_n (lv' := [(3, .int y3), (0, .ref (q 14)), (1, .long x1), (4, .int x4)]) hx hb dX4_holds_49 rfl hl (by decide) rfl (fun ls hl => ?_)
          obtain ⟨y4, ey4⟩ : ∃ y : Int32, y = x4 + (1 : Int32) := ⟨_, rfl⟩
          have h := nm_o h y4 ey4
          refine lv_iinc (v := y4) (lv' := [(4, .int y4), (3, .int y3), (0, .ref (q 14)), (1, .long x1)]) hx hb dX4_holds_50 hl (k := 3) rfl (by rw [ey4]; rfl) (by decide) rfl (fun ls hl => ?_)
          refine lv_goto (tgt := 13) hx hb dX4_holds_53 (by decide) ?_
          exact ih y3 y4 _ _ ls h hw (lv_sub hl [2, 3, 1, 0] rfl)
        · have h := if_t h c
          refine lv_iconst (v := 1) hx hb dX4_holds_39 (by decide) ?_
          cases h
          exact ret_z hC (Or.inr rfl) hw dX4_holds_40
def f_X4_holds (N : Nat) (σ : St) (a0 : Int64) : Option Int32 :=
  bd1 (f_X4_bucketOf N σ a0) (fun r1 => gd (okx r1 16384) (nm (ra σ 12 r1) (fun y2 => lp_X4_holds_13 N σ a0 N y2 (0 : Int32))))
set_option maxRecDepth 100000 in
set_option maxHeartbeats 4000000 in
theorem c_X4_holds (l : Launch) (D : va_G) (q : Nat → Nat) (k : cK) (N : Nat) (σ : St) (a0 : Int64) (r : Int32) (h : f_X4_holds N σ a0 = some r) :
    Met l yX4_holds [.code yX4_holds cX4_holds 5 (some .boolean)] rm_X4_holds (PC D (CW q k σ) k [.ref (q 14), .long a0]) (QR D (CW q k σ) (CW q k σ) (some (.int r))) 0 0 (AQ (CW q k σ)) := by
  refine met_of (by decide) (Nat.le_of_ble_eq_true rfl) ?_
  intro p e s m below meth c hC hw ls hl
  have hC : Cx p s m meth c cX4_holds RX4 5 (some .boolean) := hC
  have hl : lv_has ls 5 [(0, .ref (q 14)), (1, .long a0)] := hl
  have hx := hC.1
  have hb := hC.2.1
  unfold f_X4_holds at h
  refine lv_aload_n hx hb dX4_holds_0 rfl (lv_at hl 0 rfl) ?_
  refine C_g_X4_25 hC hw dX4_holds_1 ?_
  refine lv_lload_n hx hb dX4_holds_4 rfl (lv_at hl 1 rfl) ?_
  obtain ⟨r1, hc, h⟩ := bd1_o h
  refine go_i (run_S (As := [.long a0]) (rest := [.ref (q 19)]) hC hw (c_X4_bucketOf l D q k N σ a0 r1 hc) kw_86 kw_89 kw_87 kw_88 hd_X4_bucketOf ⟨rfl, rfl⟩ ⟨Nat.le_of_ble_eq_true rfl, Nat.le_of_ble_eq_true rfl⟩ rfl hl.1 rfl (Nat.le_of_ble_eq_true rfl) dX4_holds_5 ⟨Nat.zero_le _, Nat.zero_le _⟩) hw (fun H locs hw => ?_)
  obtain ⟨hin, h⟩ := gd_o h
  refine C_ld19 hC hw hin dX4_holds_8 ?_
  refine lv_topi (fun y2 ey2 => ?_)
  have h := nm_o h y2 ey2
  refine lv_istore_n (lv' := [(3, .int y2), (0, .ref (q 14)), (1, .long a0)]) hx hb dX4_holds_9 rfl hl (by decide) rfl (fun ls hl => ?_)
  refine lv_iconst (v := 0) hx hb dX4_holds_10 (by decide) ?_
  refine lv_istore (lv' := [(4, .int (0 : Int32)), (3, .int y2), (0, .ref (q 14)), (1, .long a0)]) hx hb dX4_holds_11 hl (by decide) rfl (fun ls hl => ?_)
  exact w_X4_holds_13 hC N σ a0 r N y2 (0 : Int32) _ _ ls h hw (lv_sub hl [2, 3, 1, 0] rfl)
/-! SlideBoards$StateStore.take(JJII)V -/
abbrev rm_X4_take : Room := { frames := 1, cells := 0, slots := 0, locals := 21 }
def f_X4_take (N : Nat) (σ : St) (a0 : Int64) (a1 : Int64) (a2 : Int32) (a3 : Int32) : Option St :=
  if (σ.1 12) < (10000 : Int32) then (bd1 (f_X4_bucketOf N σ a0) (fun r1 => gd (okx (σ.1 12) 10000) (nm (sL σ 0 (σ.1 12) a0) (fun σ2 => gd (okx (σ2.1 12) 10000) (nm (sL σ2 1 (σ2.1 12) a1) (fun σ3 => gd (okx (σ3.1 12) 10000) (nm (sA σ3 10 (σ3.1 12) a2) (fun σ4 => gd (okx (σ4.1 12) 10000) (nm (sA σ4 11 (σ4.1 12) a3) (fun σ5 => gd (okx r1 16384) (gd (okx (σ5.1 12) 10000) (nm (sA σ5 13 (σ5.1 12) (ra σ5 12 r1)) (fun σ6 => nm (sI σ6 12 ((σ6.1 12) + (1 : Int32))) (fun σ7 => gd (okx r1 16384) (nm (sA σ7 12 r1 (σ7.1 12)) (fun σ8 => some σ8)))))))))))))))) else (some σ)
set_option maxRecDepth 100000 in
set_option maxHeartbeats 4000000 in
theorem c_X4_take (l : Launch) (D : va_G) (q : Nat → Nat) (k : cK) (N : Nat) (σ : St) (a0 : Int64) (a1 : Int64) (a2 : Int32) (a3 : Int32) (σ' : St) (h : f_X4_take N σ a0 a1 a2 a3 = some σ') :
    Met l yX4_take [.code yX4_take cX4_take 8 none] rm_X4_take (PC D (CW q k σ) k [.ref (q 14), .long a0, .long a1, .int a2, .int a3]) (QR D (CW q k σ) (CW q k σ') none) 0 0 (AQ (CW q k σ)) := by
  refine met_of (by decide) (Nat.le_of_ble_eq_true rfl) ?_
  intro p e s m below meth c hC hw ls hl
  have hC : Cx p s m meth c cX4_take RX4 8 none := hC
  have hl : lv_has ls 8 [(0, .ref (q 14)), (1, .long a0), (3, .long a1), (5, .int a2), (6, .int a3)] := hl
  have hx := hC.1
  have hb := hC.2.1
  unfold f_X4_take at h
  refine lv_aload_n hx hb dX4_take_0 rfl (lv_at hl 0 rfl) ?_
  refine C_g_X4_33 hC hw dX4_take_1 ?_
  refine lv_sipush (v := 10000) hx hb dX4_take_4 (by decide) ?_
  refine lv_icmp_lt (tgt := 11) hx hb dX4_take_7 (by decide) (fun c => ?_) (fun c => ?_)
  · have h := if_t h c
    refine lv_lload_n hx hb dX4_take_11 rfl (lv_at hl 1 rfl) ?_
    obtain ⟨r1, hc, h⟩ := bd1_o h
    refine go_i (run_S (As := [.long a0]) (rest := []) hC hw (c_X4_bucketOf l D q k N σ a0 r1 hc) kw_86 kw_89 kw_87 kw_88 hd_X4_bucketOf ⟨rfl, rfl⟩ ⟨Nat.le_of_ble_eq_true rfl, Nat.le_of_ble_eq_true rfl⟩ rfl hl.1 rfl (Nat.le_of_ble_eq_true rfl) dX4_take_12 ⟨Nat.zero_le _, Nat.zero_le _⟩) hw (fun H locs hw => ?_)
    refine lv_istore (lv' := [(7, .int r1), (0, .ref (q 14)), (1, .long a0), (3, .long a1), (5, .int a2), (6, .int a3)]) hx hb dX4_take_15 hl (by decide) rfl (fun ls hl => ?_)
    refine lv_aload_n hx hb dX4_take_17 rfl (lv_at hl 1 rfl) ?_
    refine C_g_X4_9 hC hw dX4_take_18 ?_
    refine lv_aload_n hx hb dX4_take_21 rfl (lv_at hl 1 rfl) ?_
    refine C_g_X4_33 hC hw dX4_take_22 ?_
    refine lv_lload_n hx hb dX4_take_25 rfl (lv_at hl 2 rfl) ?_
    obtain ⟨hin, h⟩ := gd_o h
    refine C_st15 hC hw hin dX4_take_26 (fun σ2 eσ2 H locs hw => ?_)
    have h := nm_o h σ2 eσ2
    refine lv_aload_n hx hb dX4_take_27 rfl (lv_at hl 1 rfl) ?_
    refine C_g_X4_15 hC hw dX4_take_28 ?_
    refine lv_aload_n hx hb dX4_take_31 rfl (lv_at hl 1 rfl) ?_
    refine C_g_X4_33 hC hw dX4_take_32 ?_
    refine lv_lload_n hx hb dX4_take_35 rfl (lv_at hl 3 rfl) ?_
    obtain ⟨hin, h⟩ := gd_o h
    refine C_st16 hC hw hin dX4_take_36 (fun σ3 eσ3 H locs hw => ?_)
    have h := nm_o h σ3 eσ3
    refine lv_aload_n hx hb dX4_take_37 rfl (lv_at hl 1 rfl) ?_
    refine C_g_X4_18 hC hw dX4_take_38 ?_
    refine lv_aload_n hx hb dX4_take_41 rfl (lv_at hl 1 rfl) ?_
    refine C_g_X4_33 hC hw dX4_take_42 ?_
    refine lv_iload hx hb dX4_take_45 (lv_at hl 4 rfl) ?_
    obtain ⟨hin, h⟩ := gd_o h
    refine C_st17 hC hw hin dX4_take_47 (fun σ4 eσ4 H locs hw => ?_)
    have h := nm_o h σ4 eσ4
    refine lv_aload_n hx hb dX4_take_48 rfl (lv_at hl 1 rfl) ?_
    refine C_g_X4_22 hC hw dX4_take_49 ?_
    refine lv_aload_n hx hb dX4_take_52 rfl (lv_at hl 1 rfl) ?_
    refine C_g_X4_33 hC hw dX4_take_53 ?_
    refine lv_iload hx hb dX4_take_56 (lv_at hl 5 rfl) ?_
    obtain ⟨hin, h⟩ := gd_o h
    refine C_st18 hC hw hin dX4_take_58 (fun σ5 eσ5 H locs hw => ?_)
    have h := nm_o h σ5 eσ5
    refine lv_aload_n hx hb dX4_take_59 rfl (lv_at hl 1 rfl) ?_
    refine C_g_X4_28 hC hw dX4_take_60 ?_
    refine lv_aload_n hx hb dX4_take_63 rfl (lv_at hl 1 rfl) ?_
    refine C_g_X4_33 hC hw dX4_take_64 ?_
    refine lv_aload_n hx hb dX4_take_67 rfl (lv_at hl 1 rfl) ?_
    refine C_g_X4_25 hC hw dX4_take_68 ?_
    refine lv_iload hx hb dX4_take_71 (lv_at hl 0 rfl) ?_
    obtain ⟨hin, h⟩ := gd_o h
    refine C_ld19 hC hw hin dX4_take_73 ?_
    obtain ⟨hin, h⟩ := gd_o h
    refine C_st20 hC hw hin dX4_take_74 (fun σ6 eσ6 H locs hw => ?_)
    have h := nm_o h σ6 eσ6
    refine lv_aload_n hx hb dX4_take_75 rfl (lv_at hl 1 rfl) ?_
    refine lv_dup hx hb dX4_take_76 rfl ?_
    refine C_g_X4_33 hC hw dX4_take_77 ?_
    refine lv_iconst (v := 1) hx hb dX4_take_80 (by decide) ?_
    refine lv_iadd hx hb dX4_take_81 ?_
    refine C_p_X4_33 hC hw dX4_take_82 (fun σ7 eσ7 H locs hw => ?_)
    have h := nm_o h σ7 eσ7
    refine lv_aload_n hx hb dX4_take_85 rfl (lv_at hl 1 rfl) ?_
    refine C_g_X4_25 hC hw dX4_take_86 ?_
    refine lv_iload hx hb dX4_take_89 (lv_at hl 0 rfl) ?_
    refine lv_aload_n hx hb dX4_take_91 rfl (lv_at hl 1 rfl) ?_
    refine C_g_X4_33 hC hw dX4_take_92 ?_
    obtain ⟨hin, h⟩ := gd_o h
    refine C_st19 hC hw hin dX4_take_95 (fun σ8 eσ8 H locs hw => ?_)
    have h := nm_o h σ8 eσ8
    cases h
    exact ret_v hC hw dX4_take_96
  · have h := if_f h c
    cases h
    exact ret_v hC hw dX4_take_10

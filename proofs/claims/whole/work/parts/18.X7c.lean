/-! SlideBoardsModel.openIn([I)I -/
abbrev rm_X7_openIn_a2 : Room := { frames := 2, cells := 0, slots := 0, locals := 44 }
def lp_X7_openIn_a2_2 (N : Nat) (σ : St) : Nat → Int32 → Option Int32
  | 0, _ => none
  | n + 1, x2 => if (σ.1 5) ≤ x2 then (some (-1 : Int32)) else (bd1 (f_X7_isMet_a2 N σ x2) (fun r1 => if r1 = 0 then (some x2) else (nm (x2 + (1 : Int32)) (fun y2 => lp_X7_openIn_a2_2 N σ n y2))))
set_option maxRecDepth 100000 in
set_option maxHeartbeats 4000000 in
theorem w_X7_openIn_a2_2 {p : Program} {l : Launch} {e : Env} {s : State} {m : MethodId} {below : List Frame} {meth : Method} {c : Code} {args : Array Value} {D : va_G} {q : Nat → Nat} {k : cK} {ws0 : va_W} (hC : Cx p s m meth c cX7_openIn RX7 3 (some .int)) (N : Nat) (σ : St) (r : Int32) :
    ∀ (n : Nat) (x2 : Int32) (H : Heap) (locs : List Loc) (ls : Array Slot), lp_X7_openIn_a2_2 N σ n x2 = some r → WH D (MW q k σ) k (AQ ws0) s s.heap H locs → lv_has ls 3 [(0, .ref (q 0)), (1, .ref (q 2)), (2, .int x2)] → W p l e rm_X7_openIn_a2 s m args below meth c H locs 0 0 (MQ below (QR D ws0 (MW q k σ) (some (.int r))) args s 0 0 (AQ ws0)) (F0 m 2 ls []) := by
  have hx := hC.1
  have hb := hC.2.1
  intro n
  induction n with
  | zero =>
    intro x2 H locs ls h
    cases h
  | succ n ih =>
    intro x2 H locs ls h hw hl
    rw [lp_X7_openIn_a2_2] at h
    refine lv_iload_n hx hb dX7_openIn_2 rfl (lv_at hl 2 rfl) ?_
    refine lv_aload_n hx hb dX7_openIn_3 rfl (lv_at hl 0 rfl) ?_
    refine M_g_X7_122 hC hw dX7_openIn_4 ?_
    refine lv_icmp_ge (tgt := 27) hx hb dX7_openIn_7 (by decide) (fun c => ?_) (fun c => ?_)
    · have h := if_t h c
      refine lv_iconst (v := -1) hx hb dX7_openIn_27 (by decide) ?_
      cases h
      exact ret_i hC hw dX7_openIn_28
    · have h := if_f h c
      refine lv_aload_n hx hb dX7_openIn_10 rfl (lv_at hl 0 rfl) ?_
      refine lv_iload_n hx hb dX7_openIn_11 rfl (lv_at hl 2 rfl) ?_
      refine lv_aload_n hx hb dX7_openIn_12 rfl (lv_at hl 1 rfl) ?_
      obtain ⟨r1, hc, h⟩ := bd1_o h
      refine go_i (run_V (As := [.int x2, .ref (q 2)]) (rest := []) hC hw (c_X7_isMet_a2 l D q k N σ x2 r1 hc) kw_277 kw_279 kw_280 kw_246 kw_278 hd_X7_isMet ⟨rfl, rfl⟩ ⟨Nat.le_of_ble_eq_true rfl, Nat.le_of_ble_eq_true rfl⟩ 0 rfl rfl rfl hl.1 rfl (Nat.le_of_ble_eq_true rfl) dX7_openIn_13 ⟨Nat.zero_le _, Nat.zero_le _⟩) hw (fun H locs hw => ?_)
      refine lv_if_ne (tgt := 21) hx hb dX7_openIn_16 (by decide) (fun c => ?_) (fun c => ?_)
      · have h := if_f h c
        obtain ⟨y2, ey2⟩ : ∃ y : Int32, y = x2 + (1 : Int32) := ⟨_, rfl⟩
        have h := nm_o h y2 ey2
        refine lv_iinc (v := y2) (lv' := [(2, .int y2), (0, .ref (q 0)), (1, .ref (q 2))]) hx hb dX7_openIn_21 hl (k := 2) rfl (by rw [ey2]; rfl) (by decide) rfl (fun ls hl => ?_)
        refine lv_goto (tgt := 2) hx hb dX7_openIn_24 (by decide) ?_
        exact ih y2 _ _ ls h hw (lv_sub hl [1, 2, 0] rfl)
      · have h := if_t h c
        refine lv_iload_n hx hb dX7_openIn_19 rfl (lv_at hl 2 rfl) ?_
        cases h
        exact ret_i hC hw dX7_openIn_20
def f_X7_openIn_a2 (N : Nat) (σ : St) : Option Int32 :=
  lp_X7_openIn_a2_2 N σ N (0 : Int32)
set_option maxRecDepth 100000 in
set_option maxHeartbeats 4000000 in
theorem c_X7_openIn_a2 (l : Launch) (D : va_G) (q : Nat → Nat) (k : cK) (N : Nat) (σ : St) (r : Int32) (h : f_X7_openIn_a2 N σ = some r) :
    Met l yX7_openIn [.code yX7_openIn cX7_openIn 3 (some .int)] rm_X7_openIn_a2 (PC D (MW q k σ) k [.ref (q 0), .ref (q 2)]) (QR D (MW q k σ) (MW q k σ) (some (.int r))) 0 0 (AQ (MW q k σ)) := by
  refine met_of (by decide) (Nat.le_of_ble_eq_true rfl) ?_
  intro p e s m below meth c hC hw ls hl
  have hC : Cx p s m meth c cX7_openIn RX7 3 (some .int) := hC
  have hl : lv_has ls 3 [(0, .ref (q 0)), (1, .ref (q 2))] := hl
  have hx := hC.1
  have hb := hC.2.1
  unfold f_X7_openIn_a2 at h
  refine lv_iconst (v := 0) hx hb dX7_openIn_0 (by decide) ?_
  refine lv_istore_n (lv' := [(2, .int (0 : Int32)), (0, .ref (q 0)), (1, .ref (q 2))]) hx hb dX7_openIn_1 rfl hl (by decide) rfl (fun ls hl => ?_)
  exact w_X7_openIn_a2_2 hC N σ r N (0 : Int32) _ _ ls h hw (lv_sub hl [1, 2, 0] rfl)
/-! SlideBoardsModel.open()I -/
abbrev rm_X7_open : Room := { frames := 3, cells := 0, slots := 0, locals := 66 }
def f_X7_open (N : Nat) (σ : St) : Option (Int32 × St) :=
  nm (sI σ 0 (0 : Int32)) (fun σ1 => bd1 (f_X7_openIn_a2 N σ1) (fun r2 => some (r2, σ1)))
set_option maxRecDepth 100000 in
set_option maxHeartbeats 4000000 in
theorem c_X7_open (l : Launch) (D : va_G) (q : Nat → Nat) (k : cK) (N : Nat) (σ : St) (r : Int32) (σ' : St) (h : f_X7_open N σ = some (r, σ')) :
    Met l yX7_open [.code yX7_open cX7_open 1 (some .int)] rm_X7_open (PC D (MW q k σ) k [.ref (q 0)]) (QR D (MW q k σ) (MW q k σ') (some (.int r))) 0 0 (AQ (MW q k σ)) := by
  refine met_of (by decide) (Nat.le_of_ble_eq_true rfl) ?_
  intro p e s m below meth c hC hw ls hl
  have hC : Cx p s m meth c cX7_open RX7 1 (some .int) := hC
  have hl : lv_has ls 1 [(0, .ref (q 0))] := hl
  have hx := hC.1
  have hb := hC.2.1
  unfold f_X7_open at h
  refine lv_aload_n hx hb dX7_open_0 rfl (lv_at hl 0 rfl) ?_
  refine lv_iconst (v := 0) hx hb dX7_open_1 (by decide) ?_
  refine M_p_X7_81 hC hw dX7_open_2 (fun σ1 eσ1 H locs hw => ?_)
  have h := nm_o h σ1 eσ1
  refine lv_aload_n hx hb dX7_open_5 rfl (lv_at hl 0 rfl) ?_
  refine lv_aload_n hx hb dX7_open_6 rfl (lv_at hl 0 rfl) ?_
  refine M_g_X7_13 hC hw dX7_open_7 ?_
  obtain ⟨r2, hc, h⟩ := bd1_o h
  refine go_i (run_V (As := [.ref (q 2)]) (rest := []) hC hw (c_X7_openIn_a2 l D q k N σ1 r2 hc) kw_281 kw_283 kw_284 kw_246 kw_282 hd_X7_openIn ⟨rfl, rfl⟩ ⟨Nat.le_of_ble_eq_true rfl, Nat.le_of_ble_eq_true rfl⟩ 0 rfl rfl rfl hl.1 rfl (Nat.le_of_ble_eq_true rfl) dX7_open_10 ⟨Nat.zero_le _, Nat.zero_le _⟩) hw (fun H locs hw => ?_)
  cases h
  exact ret_i hC hw dX7_open_13
/-! SlideBoardsModel.isIn(IIII)Z -/
abbrev rm_X7_isIn : Room := { frames := 1, cells := 0, slots := 0, locals := 22 }
def f_X7_isIn (N : Nat) (σ : St) (a0 : Int32) (a1 : Int32) (a2 : Int32) (a3 : Int32) : Option Int32 :=
  gd (decide (¬ (σ.1 1) = 0)) (nm ((jrem a1 (σ.1 1)) + a2) (fun y1 => gd (decide (¬ (σ.1 1) = 0)) (nm ((a1 / (σ.1 1)) + a3) (fun y2 => bd1 (f_X7_isCell N σ y1 y2) (fun r3 => if r3 = 0 then (some (0 : Int32)) else (if ((jshr a0 (((σ.1 1) * y2) + y1)) &&& (1 : Int32)) = (1 : Int32) then (some (1 : Int32)) else (some (0 : Int32))))))))
set_option maxRecDepth 100000 in
set_option maxHeartbeats 4000000 in
theorem c_X7_isIn (l : Launch) (D : va_G) (q : Nat → Nat) (k : cK) (N : Nat) (σ : St) (a0 : Int32) (a1 : Int32) (a2 : Int32) (a3 : Int32) (r : Int32) (h : f_X7_isIn N σ a0 a1 a2 a3 = some r) :
    Met l yX7_isIn [.code yX7_isIn cX7_isIn 7 (some .boolean)] rm_X7_isIn (PC D (MW q k σ) k [.ref (q 0), .int a0, .int a1, .int a2, .int a3]) (QR D (MW q k σ) (MW q k σ) (some (.int r))) 0 0 (AQ (MW q k σ)) := by
  refine met_of (by decide) (Nat.le_of_ble_eq_true rfl) ?_
  intro p e s m below meth c hC hw ls hl
  have hC : Cx p s m meth c cX7_isIn RX7 7 (some .boolean) := hC
  have hl : lv_has ls 7 [(0, .ref (q 0)), (1, .int a0), (2, .int a1), (3, .int a2), (4, .int a3)] := hl
  have hx := hC.1
  have hb := hC.2.1
  unfold f_X7_isIn at h
  refine lv_iload_n hx hb dX7_isIn_0 rfl (lv_at hl 2 rfl) ?_
  refine lv_aload_n hx hb dX7_isIn_1 rfl (lv_at hl 0 rfl) ?_
  refine M_g_X7_74 hC hw dX7_isIn_2 ?_
  obtain ⟨hne, h⟩ := gp_o h
  refine lv_irem hx hb dX7_isIn_5 hne ?_
  refine lv_iload_n hx hb dX7_isIn_6 rfl (lv_at hl 3 rfl) ?_
  refine lv_iadd hx hb dX7_isIn_7 ?_
  refine lv_topi (fun y1 ey1 => ?_)
  have h := nm_o h y1 ey1
  refine lv_istore (lv' := [(5, .int y1), (0, .ref (q 0)), (1, .int a0), (2, .int a1), (3, .int a2), (4, .int a3)]) hx hb dX7_isIn_8 hl (by decide) rfl (fun ls hl => ?_)
  refine lv_iload_n hx hb dX7_isIn_10 rfl (lv_at hl 3 rfl) ?_
  refine lv_aload_n hx hb dX7_isIn_11 rfl (lv_at hl 1 rfl) ?_
  refine M_g_X7_74 hC hw dX7_isIn_12 ?_
  obtain ⟨hne, h⟩ := gp_o h
  refine lv_idiv hx hb dX7_isIn_15 hne ?_
  refine lv_iload hx hb dX7_isIn_16 (lv_at hl 5 rfl) ?_
  refine lv_iadd hx hb dX7_isIn_18 ?_
  refine lv_topi (fun y2 ey2 => ?_)
  have h := nm_o h y2 ey2
  refine lv_istore (lv' := [(6, .int y2), (5, .int y1), (0, .ref (q 0)), (1, .int a0), (2, .int a1), (3, .int a2), (4, .int a3)]) hx hb dX7_isIn_19 hl (by decide) rfl (fun ls hl => ?_)
  refine lv_aload_n hx hb dX7_isIn_21 rfl (lv_at hl 2 rfl) ?_
  refine lv_iload hx hb dX7_isIn_22 (lv_at hl 1 rfl) ?_
  refine lv_iload hx hb dX7_isIn_24 (lv_at hl 0 rfl) ?_
  obtain ⟨r3, hc, h⟩ := bd1_o h
  refine go_i (run_V (As := [.int y1, .int y2]) (rest := []) hC hw (c_X7_isCell l D q k N σ y1 y2 r3 hc) kw_245 kw_248 kw_249 kw_246 kw_247 hd_X7_isCell ⟨rfl, rfl⟩ ⟨Nat.le_of_ble_eq_true rfl, Nat.le_of_ble_eq_true rfl⟩ 0 rfl rfl rfl hl.1 rfl (Nat.le_of_ble_eq_true rfl) dX7_isIn_26 ⟨Nat.zero_le _, Nat.zero_le _⟩) hw (fun H locs hw => ?_)
  refine lv_if_eq (tgt := 54) hx hb dX7_isIn_29 (by decide) (fun c => ?_) (fun c => ?_)
  · have h := if_t h c
    refine lv_iconst (v := 0) hx hb dX7_isIn_54 (by decide) ?_
    cases h
    exact ret_z hC (Or.inl rfl) hw dX7_isIn_55
  · have h := if_f h c
    refine lv_iload_n hx hb dX7_isIn_32 rfl (lv_at hl 3 rfl) ?_
    refine lv_aload_n hx hb dX7_isIn_33 rfl (lv_at hl 2 rfl) ?_
    refine M_g_X7_74 hC hw dX7_isIn_34 ?_
    refine lv_iload hx hb dX7_isIn_37 (lv_at hl 0 rfl) ?_
    refine lv_imul hx hb dX7_isIn_39 ?_
    refine lv_iload hx hb dX7_isIn_40 (lv_at hl 1 rfl) ?_
    refine lv_iadd hx hb dX7_isIn_42 ?_
    refine lv_ishr hx hb dX7_isIn_43 ?_
    refine lv_iconst (v := 1) hx hb dX7_isIn_44 (by decide) ?_
    refine lv_iand hx hb dX7_isIn_45 ?_
    refine lv_iconst (v := 1) hx hb dX7_isIn_46 (by decide) ?_
    refine lv_icmp_ne (tgt := 54) hx hb dX7_isIn_47 (by decide) (fun c => ?_) (fun c => ?_)
    · have h := if_f h c
      refine lv_iconst (v := 0) hx hb dX7_isIn_54 (by decide) ?_
      cases h
      exact ret_z hC (Or.inl rfl) hw dX7_isIn_55
    · have h := if_t h c
      refine lv_iconst (v := 1) hx hb dX7_isIn_50 (by decide) ?_
      refine lv_goto (tgt := 55) hx hb dX7_isIn_51 (by decide) ?_
      cases h
      exact ret_z hC (Or.inr rfl) hw dX7_isIn_55
/-! SlideBoardsModel.isShape(II)Z -/
abbrev rm_X7_isShape : Room := { frames := 2, cells := 0, slots := 0, locals := 48 }
def lp_X7_isShape_53 (N : Nat) (σ : St) (x1 : Int32) (x2 : Int32) (x3 : Int32) (x4 : Int32) (x5 : Int32) (K37 : Int32 → Option Int32) : Nat → Int32 → Option Int32
  | 0, _ => none
  | n + 1, x6 => if (σ.1 1) < x6 then (nm (x5 + (1 : Int32)) (fun y5 => K37 y5)) else (bd1 (f_X7_isIn N σ x1 x3 x6 x5) (fun r6 => bd1 (f_X7_isIn N σ x2 x4 x6 x5) (fun r7 => if r6 = r7 then (nm (x6 + (1 : Int32)) (fun y8 => lp_X7_isShape_53 N σ x1 x2 x3 x4 x5 K37 n y8)) else (some (0 : Int32)))))
set_option maxRecDepth 100000 in
set_option maxHeartbeats 4000000 in
theorem w_X7_isShape_53 {p : Program} {l : Launch} {e : Env} {s : State} {m : MethodId} {below : List Frame} {meth : Method} {c : Code} {args : Array Value} {D : va_G} {q : Nat → Nat} {k : cK} {ws0 : va_W} (hC : Cx p s m meth c cX7_isShape RX7 7 (some .boolean)) (N : Nat) (σ : St) (x1 : Int32) (x2 : Int32) (x3 : Int32) (x4 : Int32) (x5 : Int32) (r : Int32) (K37 : Int32 → Option Int32) (hK37 : ∀ (x5 : Int32) (H : Heap) (locs : List Loc) (ls : Array Slot), K37 x5 = some r → WH D (MW q k σ) k (AQ ws0) s s.heap H locs → lv_has ls 7 [(0, .ref (q 0)), (1, .int x1), (2, .int x2), (3, .int x3), (4, .int x4), (5, .int x5)] → W p l e rm_X7_isShape s m args below meth c H locs 0 0 (MQ below (QR D ws0 (MW q k σ) (some (.int r))) args s 0 0 (AQ ws0)) (F0 m 37 ls [])) :
    ∀ (n : Nat) (x6 : Int32) (H : Heap) (locs : List Loc) (ls : Array Slot), lp_X7_isShape_53 N σ x1 x2 x3 x4 x5 K37 n x6 = some r → WH D (MW q k σ) k (AQ ws0) s s.heap H locs → lv_has ls 7 [(0, .ref (q 0)), (1, .int x1), (2, .int x2), (3, .int x3), (4, .int x4), (5, .int x5), (6, .int x6)] → W p l e rm_X7_isShape s m args below meth c H locs 0 0 (MQ below (QR D ws0 (MW q k σ) (some (.int r))) args s 0 0 (AQ ws0)) (F0 m 53 ls []) := by
  have hx := hC.1
  have hb := hC.2.1
  intro n
  induction n with
  | zero =>
    intro x6 H locs ls h
    cases h
  | succ n ih =>
    intro x6 H locs ls h hw hl
    rw [lp_X7_isShape_53] at h
    refine lv_iload hx hb dX7_isShape_53 (lv_at hl 6 rfl) ?_
    refine lv_aload_n hx hb dX7_isShape_55 rfl (lv_at hl 0 rfl) ?_
    refine M_g_X7_74 hC hw dX7_isShape_56 ?_
    refine lv_icmp_gt (tgt := 94) hx hb dX7_isShape_59 (by decide) (fun c => ?_) (fun c => ?_)
    · have h := if_t h c
      obtain ⟨y5, ey5⟩ : ∃ y : Int32, y = x5 + (1 : Int32) := ⟨_, rfl⟩
      have h := nm_o h y5 ey5
      refine lv_iinc (v := y5) (lv' := [(5, .int y5), (0, .ref (q 0)), (1, .int x1), (2, .int x2), (3, .int x3), (4, .int x4), (6, .int x6)]) hx hb dX7_isShape_94 hl (k := 5) rfl (by rw [ey5]; rfl) (by decide) rfl (fun ls hl => ?_)
      refine lv_goto (tgt := 37) hx hb dX7_isShape_97 (by decide) ?_
      exact hK37 y5 _ _ ls h hw (lv_sub hl [1, 2, 3, 4, 5, 0] rfl)
    · have h := if_f h c
      refine lv_aload_n hx hb dX7_isShape_62 rfl (lv_at hl 0 rfl) ?_
      refine lv_iload_n hx hb dX7_isShape_63 rfl (lv_at hl 1 rfl) ?_
      refine lv_iload_n hx hb dX7_isShape_64 rfl (lv_at hl 3 rfl) ?_
      refine lv_iload hx hb dX7_isShape_65 (lv_at hl 6 rfl) ?_
      refine lv_iload hx hb dX7_isShape_67 (lv_at hl 5 rfl) ?_
      obtain ⟨r6, hc, h⟩ := bd1_o h
      refine go_i (run_V (As := [.int x1, .int x3, .int x6, .int x5]) (rest := []) hC hw (c_X7_isIn l D q k N σ x1 x3 x6 x5 r6 hc) kw_285 kw_287 kw_288 kw_246 kw_286 hd_X7_isIn ⟨rfl, rfl⟩ ⟨Nat.le_of_ble_eq_true rfl, Nat.le_of_ble_eq_true rfl⟩ 0 rfl rfl rfl hl.1 rfl (Nat.le_of_ble_eq_true rfl) dX7_isShape_69 ⟨Nat.zero_le _, Nat.zero_le _⟩) hw (fun H locs hw => ?_)
      refine lv_aload_n hx hb dX7_isShape_72 rfl (lv_at hl 0 rfl) ?_
      refine lv_iload_n hx hb dX7_isShape_73 rfl (lv_at hl 2 rfl) ?_
      refine lv_iload hx hb dX7_isShape_74 (lv_at hl 4 rfl) ?_
      refine lv_iload hx hb dX7_isShape_76 (lv_at hl 6 rfl) ?_
      refine lv_iload hx hb dX7_isShape_78 (lv_at hl 5 rfl) ?_
      obtain ⟨r7, hc, h⟩ := bd1_o h
      refine go_i (run_V (As := [.int x2, .int x4, .int x6, .int x5]) (rest := [.int r6]) hC hw (c_X7_isIn l D q k N σ x2 x4 x6 x5 r7 hc) kw_285 kw_287 kw_288 kw_246 kw_286 hd_X7_isIn ⟨rfl, rfl⟩ ⟨Nat.le_of_ble_eq_true rfl, Nat.le_of_ble_eq_true rfl⟩ 0 rfl rfl rfl hl.1 rfl (Nat.le_of_ble_eq_true rfl) dX7_isShape_80 ⟨Nat.zero_le _, Nat.zero_le _⟩) hw (fun H locs hw => ?_)
      refine lv_icmp_eq (tgt := 88) hx hb dX7_isShape_83 (by decide) (fun c => ?_) (fun c => ?_)
      · have h := if_t h c
        obtain ⟨y8, ey8⟩ : ∃ y : Int32, y = x6 + (1 : Int32) := ⟨_, rfl⟩
        have h := nm_o h y8 ey8
        refine lv_iinc (v := y8) (lv' := [(6, .int y8), (0, .ref (q 0)), (1, .int x1), (2, .int x2), (3, .int x3), (4, .int x4), (5, .int x5)]) hx hb dX7_isShape_88 hl (k := 6) rfl (by rw [ey8]; rfl) (by decide) rfl (fun ls hl => ?_)
        refine lv_goto (tgt := 53) hx hb dX7_isShape_91 (by decide) ?_
        exact ih y8 _ _ ls h hw (lv_sub hl [1, 2, 3, 4, 5, 6, 0] rfl)
      · have h := if_f h c
        refine lv_iconst (v := 0) hx hb dX7_isShape_86 (by decide) ?_
        cases h
        exact ret_z hC (Or.inl rfl) hw dX7_isShape_87
def lp_X7_isShape_37 (N : Nat) (σ : St) (x1 : Int32) (x2 : Int32) (x3 : Int32) (x4 : Int32) : Nat → Int32 → Option Int32
  | 0, _ => none
  | n + 1, x5 => if (σ.1 2) < x5 then (some (1 : Int32)) else (nm (-(σ.1 1)) (fun y4 => lp_X7_isShape_53 N σ x1 x2 x3 x4 x5 (fun v0 => lp_X7_isShape_37 N σ x1 x2 x3 x4 n v0) N y4))
set_option maxRecDepth 100000 in
set_option maxHeartbeats 4000000 in
theorem w_X7_isShape_37 {p : Program} {l : Launch} {e : Env} {s : State} {m : MethodId} {below : List Frame} {meth : Method} {c : Code} {args : Array Value} {D : va_G} {q : Nat → Nat} {k : cK} {ws0 : va_W} (hC : Cx p s m meth c cX7_isShape RX7 7 (some .boolean)) (N : Nat) (σ : St) (x1 : Int32) (x2 : Int32) (x3 : Int32) (x4 : Int32) (r : Int32) :
    ∀ (n : Nat) (x5 : Int32) (H : Heap) (locs : List Loc) (ls : Array Slot), lp_X7_isShape_37 N σ x1 x2 x3 x4 n x5 = some r → WH D (MW q k σ) k (AQ ws0) s s.heap H locs → lv_has ls 7 [(0, .ref (q 0)), (1, .int x1), (2, .int x2), (3, .int x3), (4, .int x4), (5, .int x5)] → W p l e rm_X7_isShape s m args below meth c H locs 0 0 (MQ below (QR D ws0 (MW q k σ) (some (.int r))) args s 0 0 (AQ ws0)) (F0 m 37 ls []) := by
  have hx := hC.1
  have hb := hC.2.1
  intro n
  induction n with
  | zero =>
    intro x5 H locs ls h
    cases h
  | succ n ih =>
    intro x5 H locs ls h hw hl
    rw [lp_X7_isShape_37] at h
    refine lv_iload hx hb dX7_isShape_37 (lv_at hl 5 rfl) ?_
    refine lv_aload_n hx hb dX7_isShape_39 rfl (lv_at hl 0 rfl) ?_
    refine M_g_X7_78 hC hw dX7_isShape_40 ?_
    refine lv_icmp_gt (tgt := 100) hx hb dX7_isShape_43 (by decide) (fun c => ?_) (fun c => ?_)
    · have h := if_t h c
      refine lv_iconst (v := 1) hx hb dX7_isShape_100 (by decide) ?_
      cases h
      exact ret_z hC (Or.inr rfl) hw dX7_isShape_101
    · have h := if_f h c
      refine lv_aload_n hx hb dX7_isShape_46 rfl (lv_at hl 0 rfl) ?_
      refine M_g_X7_74 hC hw dX7_isShape_47 ?_
      refine lv_ineg hx hb dX7_isShape_50 ?_
      refine lv_topi (fun y4 ey4 => ?_)
      have h := nm_o h y4 ey4
      refine lv_istore (lv' := [(6, .int y4), (0, .ref (q 0)), (1, .int x1), (2, .int x2), (3, .int x3), (4, .int x4), (5, .int x5)]) hx hb dX7_isShape_51 hl (by decide) rfl (fun ls hl => ?_)
      exact w_X7_isShape_53 hC N σ x1 x2 x3 x4 x5 r _ ih N y4 _ _ ls h hw (lv_sub hl [1, 2, 3, 4, 5, 6, 0] rfl)
def f_X7_isShape (N : Nat) (σ : St) (a0 : Int32) (a1 : Int32) : Option Int32 :=
  if a0 = 0 then (if a0 = a1 then (some (1 : Int32)) else (some (0 : Int32))) else (if a1 = 0 then (if a0 = a1 then (some (1 : Int32)) else (some (0 : Int32))) else (bd1 (f_X7_placeOf N σ a0) (fun r1 => bd1 (f_X7_placeOf N σ a1) (fun r2 => nm (-(σ.1 2)) (fun y3 => lp_X7_isShape_37 N σ a0 a1 r1 r2 N y3)))))
set_option maxRecDepth 100000 in
set_option maxHeartbeats 4000000 in
theorem c_X7_isShape (l : Launch) (D : va_G) (q : Nat → Nat) (k : cK) (N : Nat) (σ : St) (a0 : Int32) (a1 : Int32) (r : Int32) (h : f_X7_isShape N σ a0 a1 = some r) :
    Met l yX7_isShape [.code yX7_isShape cX7_isShape 7 (some .boolean)] rm_X7_isShape (PC D (MW q k σ) k [.ref (q 0), .int a0, .int a1]) (QR D (MW q k σ) (MW q k σ) (some (.int r))) 0 0 (AQ (MW q k σ)) := by
  refine met_of (by decide) (Nat.le_of_ble_eq_true rfl) ?_
  intro p e s m below meth c hC hw ls hl
  have hC : Cx p s m meth c cX7_isShape RX7 7 (some .boolean) := hC
  have hl : lv_has ls 7 [(0, .ref (q 0)), (1, .int a0), (2, .int a1)] := hl
  have hx := hC.1
  have hb := hC.2.1
  unfold f_X7_isShape at h
  refine lv_iload_n hx hb dX7_isShape_0 rfl (lv_at hl 1 rfl) ?_
  refine lv_if_eq (tgt := 8) hx hb dX7_isShape_1 (by decide) (fun c => ?_) (fun c => ?_)
  · have h := if_t h c
    refine lv_iload_n hx hb dX7_isShape_8 rfl (lv_at hl 1 rfl) ?_
    refine lv_iload_n hx hb dX7_isShape_9 rfl (lv_at hl 2 rfl) ?_
    refine lv_icmp_ne (tgt := 17) hx hb dX7_isShape_10 (by decide) (fun c => ?_) (fun c => ?_)
    · have h := if_f h c
      refine lv_iconst (v := 0) hx hb dX7_isShape_17 (by decide) ?_
      cases h
      exact ret_z hC (Or.inl rfl) hw dX7_isShape_18
    · have h := if_t h c
      refine lv_iconst (v := 1) hx hb dX7_isShape_13 (by decide) ?_
      refine lv_goto (tgt := 18) hx hb dX7_isShape_14 (by decide) ?_
      cases h
      exact ret_z hC (Or.inr rfl) hw dX7_isShape_18
  · have h := if_f h c
    refine lv_iload_n hx hb dX7_isShape_4 rfl (lv_at hl 2 rfl) ?_
    refine lv_if_ne (tgt := 19) hx hb dX7_isShape_5 (by decide) (fun c => ?_) (fun c => ?_)
    · have h := if_f h c
      refine lv_iload_n hx hb dX7_isShape_19 rfl (lv_at hl 1 rfl) ?_
      obtain ⟨r1, hc, h⟩ := bd1_o h
      refine go_i (run_S (As := [.int a0]) (rest := []) hC hw (c_X7_placeOf l D q k N σ a0 r1 hc) kw_262 kw_264 kw_246 kw_263 hd_X7_placeOf ⟨rfl, rfl⟩ ⟨Nat.le_of_ble_eq_true rfl, Nat.le_of_ble_eq_true rfl⟩ rfl hl.1 rfl (Nat.le_of_ble_eq_true rfl) dX7_isShape_20 ⟨Nat.zero_le _, Nat.zero_le _⟩) hw (fun H locs hw => ?_)
      refine lv_istore_n (lv' := [(3, .int r1), (0, .ref (q 0)), (1, .int a0), (2, .int a1)]) hx hb dX7_isShape_23 rfl hl (by decide) rfl (fun ls hl => ?_)
      refine lv_iload_n hx hb dX7_isShape_24 rfl (lv_at hl 3 rfl) ?_
      obtain ⟨r2, hc, h⟩ := bd1_o h
      refine go_i (run_S (As := [.int a1]) (rest := []) hC hw (c_X7_placeOf l D q k N σ a1 r2 hc) kw_262 kw_264 kw_246 kw_263 hd_X7_placeOf ⟨rfl, rfl⟩ ⟨Nat.le_of_ble_eq_true rfl, Nat.le_of_ble_eq_true rfl⟩ rfl hl.1 rfl (Nat.le_of_ble_eq_true rfl) dX7_isShape_25 ⟨Nat.zero_le _, Nat.zero_le _⟩) hw (fun H locs hw => ?_)
      refine lv_istore (lv' := [(4, .int r2), (3, .int r1), (0, .ref (q 0)), (1, .int a0), (2, .int a1)]) hx hb dX7_isShape_28 hl (by decide) rfl (fun ls hl => ?_)
      refine lv_aload_n hx hb dX7_isShape_30 rfl (lv_at hl 2 rfl) ?_
      refine M_g_X7_78 hC hw dX7_isShape_31 ?_
      refine lv_ineg hx hb dX7_isShape_34 ?_
      refine lv_topi (fun y3 ey3 => ?_)
      have h := nm_o h y3 ey3
      refine lv_istore (lv' := [(5, .int y3), (4, .int r2), (3, .int r1), (0, .ref (q 0)), (1, .int a0), (2, .int a1)]) hx hb dX7_isShape_35 hl (by decide) rfl (fun ls hl => ?_)
      exact w_X7_isShape_37 hC N σ a0 a1 r1 r2 r N y3 _ _ ls h hw (lv_sub hl [3, 4, 5, 2, 1, 0] rfl)
    · have h := if_t h c
      refine lv_iload_n hx hb dX7_isShape_8 rfl (lv_at hl 1 rfl) ?_
      refine lv_iload_n hx hb dX7_isShape_9 rfl (lv_at hl 2 rfl) ?_
      refine lv_icmp_ne (tgt := 17) hx hb dX7_isShape_10 (by decide) (fun c => ?_) (fun c => ?_)
      · have h := if_f h c
        refine lv_iconst (v := 0) hx hb dX7_isShape_17 (by decide) ?_
        cases h
        exact ret_z hC (Or.inl rfl) hw dX7_isShape_18
      · have h := if_t h c
        refine lv_iconst (v := 1) hx hb dX7_isShape_13 (by decide) ?_
        refine lv_goto (tgt := 18) hx hb dX7_isShape_14 (by decide) ?_
        cases h
        exact ret_z hC (Or.inr rfl) hw dX7_isShape_18
/-! SlideBoardsModel.liken()V -/
abbrev rm_X7_liken : Room := { frames := 3, cells := 0, slots := 0, locals := 74 }
def lp_X7_liken_21 (N : Nat) (x1 : Int32) (K2 : St → Int32 → Option St) : Nat → St → Int32 → Option St
  | 0, _, _ => none
  | n + 1, σ, x2 => if x2 < 0 then (nm (x1 + (1 : Int32)) (fun y3 => K2 σ y3)) else (gd (okx x2 8) (gd (okx x1 8) (if (ra σ 0 x2) = (ra σ 0 x1) then (gd (okx x2 8) (gd (okx x1 8) (bd1 (f_X7_isShape N σ (ra σ 1 x2) (ra σ 1 x1)) (fun r5 => if r5 = 0 then (nm (x2 + (-1)) (fun y6 => lp_X7_liken_21 N x1 K2 n σ y6)) else (gd (okx x1 8) (nm (sA σ 9 x1 x2) (fun σ7 => nm (x2 + (-1)) (fun y8 => lp_X7_liken_21 N x1 K2 n σ7 y8)))))))) else (nm (x2 + (-1)) (fun y4 => lp_X7_liken_21 N x1 K2 n σ y4)))))
set_option maxRecDepth 100000 in
set_option maxHeartbeats 4000000 in
theorem w_X7_liken_21 {p : Program} {l : Launch} {e : Env} {s : State} {m : MethodId} {below : List Frame} {meth : Method} {c : Code} {args : Array Value} {D : va_G} {q : Nat → Nat} {k : cK} {ws0 : va_W} (hC : Cx p s m meth c cX7_liken RX7 3 none) (N : Nat) (x1 : Int32) (σ' : St) (K2 : St → Int32 → Option St) (hK2 : ∀ (σ : St) (x1 : Int32) (H : Heap) (locs : List Loc) (ls : Array Slot), K2 σ x1 = some σ' → WH D (MW q k σ) k (AQ ws0) s s.heap H locs → lv_has ls 3 [(0, .ref (q 0)), (1, .int x1)] → W p l e rm_X7_liken s m args below meth c H locs 0 0 (MQ below (QR D ws0 (MW q k σ') none) args s 0 0 (AQ ws0)) (F0 m 2 ls [])) :
    ∀ (n : Nat) (σ : St) (x2 : Int32) (H : Heap) (locs : List Loc) (ls : Array Slot), lp_X7_liken_21 N x1 K2 n σ x2 = some σ' → WH D (MW q k σ) k (AQ ws0) s s.heap H locs → lv_has ls 3 [(0, .ref (q 0)), (1, .int x1), (2, .int x2)] → W p l e rm_X7_liken s m args below meth c H locs 0 0 (MQ below (QR D ws0 (MW q k σ') none) args s 0 0 (AQ ws0)) (F0 m 21 ls []) := by
  have hx := hC.1
  have hb := hC.2.1
  intro n
  induction n with
  | zero =>
    intro σ x2 H locs ls h
    cases h
  | succ n ih =>
    intro σ x2 H locs ls h hw hl
    rw [lp_X7_liken_21] at h
    refine lv_iload_n hx hb dX7_liken_21 rfl (lv_at hl 2 rfl) ?_
    refine lv_if_lt (tgt := 72) hx hb dX7_liken_22 (by decide) (fun c => ?_) (fun c => ?_)
    · have h := if_t h c
      obtain ⟨y3, ey3⟩ : ∃ y : Int32, y = x1 + (1 : Int32) := ⟨_, rfl⟩
      have h := nm_o h y3 ey3
      refine lv_iinc (v := y3) (lv' := [(1, .int y3), (0, .ref (q 0)), (2, .int x2)]) hx hb dX7_liken_72 hl (k := 1) rfl (by rw [ey3]; rfl) (by decide) rfl (fun ls hl => ?_)
      refine lv_goto (tgt := 2) hx hb dX7_liken_75 (by decide) ?_
      exact hK2 σ y3 _ _ ls h hw (lv_sub hl [1, 0] rfl)
    · have h := if_f h c
      refine lv_aload_n hx hb dX7_liken_25 rfl (lv_at hl 0 rfl) ?_
      refine M_g_X7_7 hC hw dX7_liken_26 ?_
      refine lv_iload_n hx hb dX7_liken_29 rfl (lv_at hl 2 rfl) ?_
      obtain ⟨hin, h⟩ := gd_o h
      refine M_ld1 hC hw hin dX7_liken_30 ?_
      refine lv_aload_n hx hb dX7_liken_31 rfl (lv_at hl 0 rfl) ?_
      refine M_g_X7_7 hC hw dX7_liken_32 ?_
      refine lv_iload_n hx hb dX7_liken_35 rfl (lv_at hl 1 rfl) ?_
      obtain ⟨hin, h⟩ := gd_o h
      refine M_ld1 hC hw hin dX7_liken_36 ?_
      refine lv_icmp_ne (tgt := 66) hx hb dX7_liken_37 (by decide) (fun c => ?_) (fun c => ?_)
      · have h := if_f h c
        obtain ⟨y4, ey4⟩ : ∃ y : Int32, y = x2 + (-1) := ⟨_, rfl⟩
        have h := nm_o h y4 ey4
        refine lv_iinc (v := y4) (lv' := [(2, .int y4), (0, .ref (q 0)), (1, .int x1)]) hx hb dX7_liken_66 hl (k := 2) rfl (by rw [ey4]; rfl) (by decide) rfl (fun ls hl => ?_)
        refine lv_goto (tgt := 21) hx hb dX7_liken_69 (by decide) ?_
        exact ih σ y4 _ _ ls h hw (lv_sub hl [1, 2, 0] rfl)
      · have h := if_t h c
        refine lv_aload_n hx hb dX7_liken_40 rfl (lv_at hl 0 rfl) ?_
        refine lv_aload_n hx hb dX7_liken_41 rfl (lv_at hl 0 rfl) ?_
        refine M_g_X7_13 hC hw dX7_liken_42 ?_
        refine lv_iload_n hx hb dX7_liken_45 rfl (lv_at hl 2 rfl) ?_
        obtain ⟨hin, h⟩ := gd_o h
        refine M_ld2 hC hw hin dX7_liken_46 ?_
        refine lv_aload_n hx hb dX7_liken_47 rfl (lv_at hl 0 rfl) ?_
        refine M_g_X7_13 hC hw dX7_liken_48 ?_
        refine lv_iload_n hx hb dX7_liken_51 rfl (lv_at hl 1 rfl) ?_
        obtain ⟨hin, h⟩ := gd_o h
        refine M_ld2 hC hw hin dX7_liken_52 ?_
        obtain ⟨r5, hc, h⟩ := bd1_o h
        refine go_i (run_V (As := [.int (ra σ 1 x2), .int (ra σ 1 x1)]) (rest := []) hC hw (c_X7_isShape l D q k N σ (ra σ 1 x2) (ra σ 1 x1) r5 hc) kw_289 kw_291 kw_292 kw_246 kw_290 hd_X7_isShape ⟨rfl, rfl⟩ ⟨Nat.le_of_ble_eq_true rfl, Nat.le_of_ble_eq_true rfl⟩ 0 rfl rfl rfl hl.1 rfl (Nat.le_of_ble_eq_true rfl) dX7_liken_53 ⟨Nat.zero_le _, Nat.zero_le _⟩) hw (fun H locs hw => ?_)
        refine lv_if_eq (tgt := 66) hx hb dX7_liken_56 (by decide) (fun c => ?_) (fun c => ?_)
        · have h := if_t h c
          obtain ⟨y6, ey6⟩ : ∃ y : Int32, y = x2 + (-1) := ⟨_, rfl⟩
          have h := nm_o h y6 ey6
          refine lv_iinc (v := y6) (lv' := [(2, .int y6), (0, .ref (q 0)), (1, .int x1)]) hx hb dX7_liken_66 hl (k := 2) rfl (by rw [ey6]; rfl) (by decide) rfl (fun ls hl => ?_)
          refine lv_goto (tgt := 21) hx hb dX7_liken_69 (by decide) ?_
          exact ih σ y6 _ _ ls h hw (lv_sub hl [1, 2, 0] rfl)
        · have h := if_f h c
          refine lv_aload_n hx hb dX7_liken_59 rfl (lv_at hl 0 rfl) ?_
          refine M_g_X7_39 hC hw dX7_liken_60 ?_
          refine lv_iload_n hx hb dX7_liken_63 rfl (lv_at hl 1 rfl) ?_
          refine lv_iload_n hx hb dX7_liken_64 rfl (lv_at hl 2 rfl) ?_
          obtain ⟨hin, h⟩ := gd_o h
          refine M_st10 hC hw hin dX7_liken_65 (fun σ7 eσ7 H locs hw => ?_)
          have h := nm_o h σ7 eσ7
          obtain ⟨y8, ey8⟩ : ∃ y : Int32, y = x2 + (-1) := ⟨_, rfl⟩
          have h := nm_o h y8 ey8
          refine lv_iinc (v := y8) (lv' := [(2, .int y8), (0, .ref (q 0)), (1, .int x1)]) hx hb dX7_liken_66 hl (k := 2) rfl (by rw [ey8]; rfl) (by decide) rfl (fun ls hl => ?_)
          refine lv_goto (tgt := 21) hx hb dX7_liken_69 (by decide) ?_
          exact ih σ7 y8 _ _ ls h hw (lv_sub hl [1, 2, 0] rfl)
def lp_X7_liken_2 (N : Nat) : Nat → St → Int32 → Option St
  | 0, _, _ => none
  | n + 1, σ, x1 => if (σ.1 4) ≤ x1 then (some σ) else (gd (okx x1 8) (nm (sA σ 9 x1 x1) (fun σ1 => nm (x1 - (1 : Int32)) (fun y2 => lp_X7_liken_21 N x1 (fun v0 v1 => lp_X7_liken_2 N n v0 v1) N σ1 y2))))
set_option maxRecDepth 100000 in
set_option maxHeartbeats 4000000 in
theorem w_X7_liken_2 {p : Program} {l : Launch} {e : Env} {s : State} {m : MethodId} {below : List Frame} {meth : Method} {c : Code} {args : Array Value} {D : va_G} {q : Nat → Nat} {k : cK} {ws0 : va_W} (hC : Cx p s m meth c cX7_liken RX7 3 none) (N : Nat) (σ' : St) :
    ∀ (n : Nat) (σ : St) (x1 : Int32) (H : Heap) (locs : List Loc) (ls : Array Slot), lp_X7_liken_2 N n σ x1 = some σ' → WH D (MW q k σ) k (AQ ws0) s s.heap H locs → lv_has ls 3 [(0, .ref (q 0)), (1, .int x1)] → W p l e rm_X7_liken s m args below meth c H locs 0 0 (MQ below (QR D ws0 (MW q k σ') none) args s 0 0 (AQ ws0)) (F0 m 2 ls []) := by
  have hx := hC.1
  have hb := hC.2.1
  intro n
  induction n with
  | zero =>
    intro σ x1 H locs ls h
    cases h
  | succ n ih =>
    intro σ x1 H locs ls h hw hl
    rw [lp_X7_liken_2] at h
    refine lv_iload_n hx hb dX7_liken_2 rfl (lv_at hl 1 rfl) ?_
    refine lv_aload_n hx hb dX7_liken_3 rfl (lv_at hl 0 rfl) ?_
    refine M_g_X7_84 hC hw dX7_liken_4 ?_
    refine lv_icmp_ge (tgt := 78) hx hb dX7_liken_7 (by decide) (fun c => ?_) (fun c => ?_)
    · have h := if_t h c
      cases h
      exact ret_v hC hw dX7_liken_78
    · have h := if_f h c
      refine lv_aload_n hx hb dX7_liken_10 rfl (lv_at hl 0 rfl) ?_
      refine M_g_X7_39 hC hw dX7_liken_11 ?_
      refine lv_iload_n hx hb dX7_liken_14 rfl (lv_at hl 1 rfl) ?_
      refine lv_iload_n hx hb dX7_liken_15 rfl (lv_at hl 1 rfl) ?_
      obtain ⟨hin, h⟩ := gd_o h
      refine M_st10 hC hw hin dX7_liken_16 (fun σ1 eσ1 H locs hw => ?_)
      have h := nm_o h σ1 eσ1
      refine lv_iload_n hx hb dX7_liken_17 rfl (lv_at hl 1 rfl) ?_
      refine lv_iconst (v := 1) hx hb dX7_liken_18 (by decide) ?_
      refine lv_isub hx hb dX7_liken_19 ?_
      refine lv_topi (fun y2 ey2 => ?_)
      have h := nm_o h y2 ey2
      refine lv_istore_n (lv' := [(2, .int y2), (0, .ref (q 0)), (1, .int x1)]) hx hb dX7_liken_20 rfl hl (by decide) rfl (fun ls hl => ?_)
      exact w_X7_liken_21 hC N x1 σ' _ ih N σ1 y2 _ _ ls h hw (lv_sub hl [1, 2, 0] rfl)
def f_X7_liken (N : Nat) (σ : St) : Option St :=
  lp_X7_liken_2 N N σ (0 : Int32)
set_option maxRecDepth 100000 in
set_option maxHeartbeats 4000000 in
theorem c_X7_liken (l : Launch) (D : va_G) (q : Nat → Nat) (k : cK) (N : Nat) (σ : St) (σ' : St) (h : f_X7_liken N σ = some σ') :
    Met l yX7_liken [.code yX7_liken cX7_liken 3 none] rm_X7_liken (PC D (MW q k σ) k [.ref (q 0)]) (QR D (MW q k σ) (MW q k σ') none) 0 0 (AQ (MW q k σ)) := by
  refine met_of (by decide) (Nat.le_of_ble_eq_true rfl) ?_
  intro p e s m below meth c hC hw ls hl
  have hC : Cx p s m meth c cX7_liken RX7 3 none := hC
  have hl : lv_has ls 3 [(0, .ref (q 0))] := hl
  have hx := hC.1
  have hb := hC.2.1
  unfold f_X7_liken at h
  refine lv_iconst (v := 0) hx hb dX7_liken_0 (by decide) ?_
  refine lv_istore_n (lv' := [(1, .int (0 : Int32)), (0, .ref (q 0))]) hx hb dX7_liken_1 rfl hl (by decide) rfl (fun ls hl => ?_)
  exact w_X7_liken_2 hC N σ' N σ (0 : Int32) _ _ ls h hw (lv_sub hl [1, 0] rfl)
/-! SlideBoardsModel.order()V -/
abbrev rm_X7_order : Room := { frames := 0, cells := 0, slots := 0, locals := 0 }
def lp_X7_order_104 (N : Nat) (σ : St) (x1 : Int32) (K23 : St → Int32 → Option St) : Nat → Int32 → Int32 → Option St
  | 0, _, _ => none
  | n + 1, x2, x3 => gd (okx x3 8) (gd (okx x1 8) (if (ra σ 9 x3) = (ra σ 9 x1) then (if x2 ≤ 0 then (gd (okx x1 8) (gd (okx x3 8) (nm (sA σ 11 x3 (ra σ 10 x1)) (fun σ5 => nm (x1 + (1 : Int32)) (fun y6 => K23 σ5 y6))))) else (gd (okx x3 8) (gd (okx x1 8) (if (ra σ 9 x3) = (ra σ 9 x1) then (nm (x2 - (1 : Int32)) (fun y9 => nm (x3 + (1 : Int32)) (fun y10 => lp_X7_order_104 N σ x1 K23 n y9 y10))) else (nm (x2 - (0 : Int32)) (fun y7 => nm (x3 + (1 : Int32)) (fun y8 => lp_X7_order_104 N σ x1 K23 n y7 y8))))))) else (gd (okx x3 8) (gd (okx x1 8) (if (ra σ 9 x3) = (ra σ 9 x1) then (nm (x2 - (1 : Int32)) (fun y3 => nm (x3 + (1 : Int32)) (fun y4 => lp_X7_order_104 N σ x1 K23 n y3 y4))) else (nm (x2 - (0 : Int32)) (fun y1 => nm (x3 + (1 : Int32)) (fun y2 => lp_X7_order_104 N σ x1 K23 n y1 y2))))))))
set_option maxRecDepth 100000 in
set_option maxHeartbeats 4000000 in
theorem w_X7_order_104 {p : Program} {l : Launch} {e : Env} {s : State} {m : MethodId} {below : List Frame} {meth : Method} {c : Code} {args : Array Value} {D : va_G} {q : Nat → Nat} {k : cK} {ws0 : va_W} (hC : Cx p s m meth c cX7_order RX7 4 none) (N : Nat) (σ : St) (x1 : Int32) (σ' : St) (K23 : St → Int32 → Option St) (hK23 : ∀ (σ : St) (x1 : Int32) (H : Heap) (locs : List Loc) (ls : Array Slot), K23 σ x1 = some σ' → WH D (MW q k σ) k (AQ ws0) s s.heap H locs → lv_has ls 4 [(0, .ref (q 0)), (1, .int x1)] → W p l e rm_X7_order s m args below meth c H locs 0 0 (MQ below (QR D ws0 (MW q k σ') none) args s 0 0 (AQ ws0)) (F0 m 23 ls [])) :
    ∀ (n : Nat) (x2 : Int32) (x3 : Int32) (H : Heap) (locs : List Loc) (ls : Array Slot), lp_X7_order_104 N σ x1 K23 n x2 x3 = some σ' → WH D (MW q k σ) k (AQ ws0) s s.heap H locs → lv_has ls 4 [(0, .ref (q 0)), (1, .int x1), (2, .int x2), (3, .int x3)] → W p l e rm_X7_order s m args below meth c H locs 0 0 (MQ below (QR D ws0 (MW q k σ') none) args s 0 0 (AQ ws0)) (F0 m 104 ls []) := by
  have hx := hC.1
  have hb := hC.2.1
  intro n
  induction n with
  | zero =>
    intro x2 x3 H locs ls h
    cases h
  | succ n ih =>
    intro x2 x3 H locs ls h hw hl
    rw [lp_X7_order_104] at h
    refine lv_aload_n hx hb dX7_order_104 rfl (lv_at hl 0 rfl) ?_
    refine M_g_X7_39 hC hw dX7_order_105 ?_
    refine lv_iload_n hx hb dX7_order_108 rfl (lv_at hl 3 rfl) ?_
    obtain ⟨hin, h⟩ := gd_o h
    refine M_ld10 hC hw hin dX7_order_109 ?_
    refine lv_aload_n hx hb dX7_order_110 rfl (lv_at hl 0 rfl) ?_
    refine M_g_X7_39 hC hw dX7_order_111 ?_
    refine lv_iload_n hx hb dX7_order_114 rfl (lv_at hl 1 rfl) ?_
    obtain ⟨hin, h⟩ := gd_o h
    refine M_ld10 hC hw hin dX7_order_115 ?_
    refine lv_icmp_ne (tgt := 123) hx hb dX7_order_116 (by decide) (fun c => ?_) (fun c => ?_)
    · have h := if_f h c
      refine lv_iload_n hx hb dX7_order_123 rfl (lv_at hl 2 rfl) ?_
      refine lv_aload_n hx hb dX7_order_124 rfl (lv_at hl 0 rfl) ?_
      refine M_g_X7_39 hC hw dX7_order_125 ?_
      refine lv_iload_n hx hb dX7_order_128 rfl (lv_at hl 3 rfl) ?_
      obtain ⟨hin, h⟩ := gd_o h
      refine M_ld10 hC hw hin dX7_order_129 ?_
      refine lv_aload_n hx hb dX7_order_130 rfl (lv_at hl 0 rfl) ?_
      refine M_g_X7_39 hC hw dX7_order_131 ?_
      refine lv_iload_n hx hb dX7_order_134 rfl (lv_at hl 1 rfl) ?_
      obtain ⟨hin, h⟩ := gd_o h
      refine M_ld10 hC hw hin dX7_order_135 ?_
      refine lv_icmp_ne (tgt := 143) hx hb dX7_order_136 (by decide) (fun c => ?_) (fun c => ?_)
      · have h := if_f h c
        refine lv_iconst (v := 0) hx hb dX7_order_143 (by decide) ?_
        refine lv_isub hx hb dX7_order_144 ?_
        refine lv_topi (fun y1 ey1 => ?_)
        have h := nm_o h y1 ey1
        refine lv_istore_n (lv' := [(2, .int y1), (0, .ref (q 0)), (1, .int x1), (3, .int x3)]) hx hb dX7_order_145 rfl hl (by decide) rfl (fun ls hl => ?_)
        obtain ⟨y2, ey2⟩ : ∃ y : Int32, y = x3 + (1 : Int32) := ⟨_, rfl⟩
        have h := nm_o h y2 ey2
        refine lv_iinc (v := y2) (lv' := [(3, .int y2), (2, .int y1), (0, .ref (q 0)), (1, .int x1)]) hx hb dX7_order_146 hl (k := 3) rfl (by rw [ey2]; rfl) (by decide) rfl (fun ls hl => ?_)
        refine lv_goto (tgt := 104) hx hb dX7_order_149 (by decide) ?_
        exact ih y1 y2 _ _ ls h hw (lv_sub hl [2, 3, 1, 0] rfl)
      · have h := if_t h c
        refine lv_iconst (v := 1) hx hb dX7_order_139 (by decide) ?_
        refine lv_goto (tgt := 144) hx hb dX7_order_140 (by decide) ?_
        refine lv_isub hx hb dX7_order_144 ?_
        refine lv_topi (fun y3 ey3 => ?_)
        have h := nm_o h y3 ey3
        refine lv_istore_n (lv' := [(2, .int y3), (0, .ref (q 0)), (1, .int x1), (3, .int x3)]) hx hb dX7_order_145 rfl hl (by decide) rfl (fun ls hl => ?_)
        obtain ⟨y4, ey4⟩ : ∃ y : Int32, y = x3 + (1 : Int32) := ⟨_, rfl⟩
        have h := nm_o h y4 ey4
        refine lv_iinc (v := y4) (lv' := [(3, .int y4), (2, .int y3), (0, .ref (q 0)), (1, .int x1)]) hx hb dX7_order_146 hl (k := 3) rfl (by rw [ey4]; rfl) (by decide) rfl (fun ls hl => ?_)
        refine lv_goto (tgt := 104) hx hb dX7_order_149 (by decide) ?_
        exact ih y3 y4 _ _ ls h hw (lv_sub hl [2, 3, 1, 0] rfl)
    · have h := if_t h c
      refine lv_iload_n hx hb dX7_order_119 rfl (lv_at hl 2 rfl) ?_
      refine lv_if_le (tgt := 152) hx hb dX7_order_120 (by decide) (fun c => ?_) (fun c => ?_)
      · have h := if_t h c
        refine lv_aload_n hx hb dX7_order_152 rfl (lv_at hl 0 rfl) ?_
        refine M_g_X7_45 hC hw dX7_order_153 ?_
        refine lv_iload_n hx hb dX7_order_156 rfl (lv_at hl 3 rfl) ?_
        refine lv_aload_n hx hb dX7_order_157 rfl (lv_at hl 0 rfl) ?_
        refine M_g_X7_42 hC hw dX7_order_158 ?_
        refine lv_iload_n hx hb dX7_order_161 rfl (lv_at hl 1 rfl) ?_
        obtain ⟨hin, h⟩ := gd_o h
        refine M_ld11 hC hw hin dX7_order_162 ?_
        obtain ⟨hin, h⟩ := gd_o h
        refine M_st12 hC hw hin dX7_order_163 (fun σ5 eσ5 H locs hw => ?_)
        have h := nm_o h σ5 eσ5
        obtain ⟨y6, ey6⟩ : ∃ y : Int32, y = x1 + (1 : Int32) := ⟨_, rfl⟩
        have h := nm_o h y6 ey6
        refine lv_iinc (v := y6) (lv' := [(1, .int y6), (0, .ref (q 0)), (2, .int x2), (3, .int x3)]) hx hb dX7_order_164 hl (k := 1) rfl (by rw [ey6]; rfl) (by decide) rfl (fun ls hl => ?_)
        refine lv_goto (tgt := 23) hx hb dX7_order_167 (by decide) ?_
        exact hK23 σ5 y6 _ _ ls h hw (lv_sub hl [1, 0] rfl)
      · have h := if_f h c
        refine lv_iload_n hx hb dX7_order_123 rfl (lv_at hl 2 rfl) ?_
        refine lv_aload_n hx hb dX7_order_124 rfl (lv_at hl 0 rfl) ?_
        refine M_g_X7_39 hC hw dX7_order_125 ?_
        refine lv_iload_n hx hb dX7_order_128 rfl (lv_at hl 3 rfl) ?_
        obtain ⟨hin, h⟩ := gd_o h
        refine M_ld10 hC hw hin dX7_order_129 ?_
        refine lv_aload_n hx hb dX7_order_130 rfl (lv_at hl 0 rfl) ?_
        refine M_g_X7_39 hC hw dX7_order_131 ?_
        refine lv_iload_n hx hb dX7_order_134 rfl (lv_at hl 1 rfl) ?_
        obtain ⟨hin, h⟩ := gd_o h
        refine M_ld10 hC hw hin dX7_order_135 ?_
        refine lv_icmp_ne (tgt := 143) hx hb dX7_order_136 (by decide) (fun c => ?_) (fun c => ?_)
        · have h := if_f h c
          refine lv_iconst (v := 0) hx hb dX7_order_143 (by decide) ?_
          refine lv_isub hx hb dX7_order_144 ?_
          refine lv_topi (fun y7 ey7 => ?_)
          have h := nm_o h y7 ey7
          refine lv_istore_n (lv' := [(2, .int y7), (0, .ref (q 0)), (1, .int x1), (3, .int x3)]) hx hb dX7_order_145 rfl hl (by decide) rfl (fun ls hl => ?_)
          obtain ⟨y8, ey8⟩ : ∃ y : Int32, y = x3 + (1 : Int32) := ⟨_, rfl⟩
          have h := nm_o h y8 ey8
          refine lv_iinc (v := y8) (lv' := [(3, .int y8), (2, .int y7), (0, .ref (q 0)), (1, .int x1)]) hx hb dX7_order_146 hl (k := 3) rfl (by rw [ey8]; rfl) (by decide) rfl (fun ls hl => ?_)
          refine lv_goto (tgt := 104) hx hb dX7_order_149 (by decide) ?_
          exact ih y7 y8 _ _ ls h hw (lv_sub hl [2, 3, 1, 0] rfl)
        · have h := if_t h c
          refine lv_iconst (v := 1) hx hb dX7_order_139 (by decide) ?_
          refine lv_goto (tgt := 144) hx hb dX7_order_140 (by decide) ?_
          refine lv_isub hx hb dX7_order_144 ?_
          refine lv_topi (fun y9 ey9 => ?_)
          have h := nm_o h y9 ey9
          refine lv_istore_n (lv' := [(2, .int y9), (0, .ref (q 0)), (1, .int x1), (3, .int x3)]) hx hb dX7_order_145 rfl hl (by decide) rfl (fun ls hl => ?_)
          obtain ⟨y10, ey10⟩ : ∃ y : Int32, y = x3 + (1 : Int32) := ⟨_, rfl⟩
          have h := nm_o h y10 ey10
          refine lv_iinc (v := y10) (lv' := [(3, .int y10), (2, .int y9), (0, .ref (q 0)), (1, .int x1)]) hx hb dX7_order_146 hl (k := 3) rfl (by rw [ey10]; rfl) (by decide) rfl (fun ls hl => ?_)
          refine lv_goto (tgt := 104) hx hb dX7_order_149 (by decide) ?_
          exact ih y9 y10 _ _ ls h hw (lv_sub hl [2, 3, 1, 0] rfl)
def lp_X7_order_35 (N : Nat) (σ : St) (x1 : Int32) (K23 : St → Int32 → Option St) : Nat → Int32 → Int32 → Option St
  | 0, _, _ => none
  | n + 1, x2, x3 => if (σ.1 4) ≤ x3 then (lp_X7_order_104 N σ x1 K23 N x2 (0 : Int32)) else (gd (okx x3 8) (gd (okx x1 8) (if (ra σ 9 x3) = (ra σ 9 x1) then (gd (okx x3 8) (gd (okx x1 8) (if (ra σ 10 x3) < (ra σ 10 x1) then (nm (x2 + (1 : Int32)) (fun y12 => nm (x3 + (1 : Int32)) (fun y13 => lp_X7_order_35 N σ x1 K23 n y12 y13))) else (gd (okx x3 8) (gd (okx x1 8) (if (ra σ 10 x3) = (ra σ 10 x1) then (if x1 ≤ x3 then (nm (x3 + (1 : Int32)) (fun y15 => lp_X7_order_35 N σ x1 K23 n x2 y15)) else (nm (x2 + (1 : Int32)) (fun y16 => nm (x3 + (1 : Int32)) (fun y17 => lp_X7_order_35 N σ x1 K23 n y16 y17)))) else (nm (x3 + (1 : Int32)) (fun y14 => lp_X7_order_35 N σ x1 K23 n x2 y14)))))))) else (nm (x3 + (1 : Int32)) (fun y11 => lp_X7_order_35 N σ x1 K23 n x2 y11)))))
set_option maxRecDepth 100000 in
set_option maxHeartbeats 4000000 in
theorem w_X7_order_35 {p : Program} {l : Launch} {e : Env} {s : State} {m : MethodId} {below : List Frame} {meth : Method} {c : Code} {args : Array Value} {D : va_G} {q : Nat → Nat} {k : cK} {ws0 : va_W} (hC : Cx p s m meth c cX7_order RX7 4 none) (N : Nat) (σ : St) (x1 : Int32) (σ' : St) (K23 : St → Int32 → Option St) (hK23 : ∀ (σ : St) (x1 : Int32) (H : Heap) (locs : List Loc) (ls : Array Slot), K23 σ x1 = some σ' → WH D (MW q k σ) k (AQ ws0) s s.heap H locs → lv_has ls 4 [(0, .ref (q 0)), (1, .int x1)] → W p l e rm_X7_order s m args below meth c H locs 0 0 (MQ below (QR D ws0 (MW q k σ') none) args s 0 0 (AQ ws0)) (F0 m 23 ls [])) :
    ∀ (n : Nat) (x2 : Int32) (x3 : Int32) (H : Heap) (locs : List Loc) (ls : Array Slot), lp_X7_order_35 N σ x1 K23 n x2 x3 = some σ' → WH D (MW q k σ) k (AQ ws0) s s.heap H locs → lv_has ls 4 [(0, .ref (q 0)), (1, .int x1), (2, .int x2), (3, .int x3)] → W p l e rm_X7_order s m args below meth c H locs 0 0 (MQ below (QR D ws0 (MW q k σ') none) args s 0 0 (AQ ws0)) (F0 m 35 ls []) := by
  have hx := hC.1
  have hb := hC.2.1
  intro n
  induction n with
  | zero =>
    intro x2 x3 H locs ls h
    cases h
  | succ n ih =>
    intro x2 x3 H locs ls h hw hl
    rw [lp_X7_order_35] at h
    refine lv_iload_n hx hb dX7_order_35 rfl (lv_at hl 3 rfl) ?_
    refine lv_aload_n hx hb dX7_order_36 rfl (lv_at hl 0 rfl) ?_
    refine M_g_X7_84 hC hw dX7_order_37 ?_
    refine lv_icmp_ge (tgt := 102) hx hb dX7_order_40 (by decide) (fun c => ?_) (fun c => ?_)
    · have h := if_t h c
      refine lv_iconst (v := 0) hx hb dX7_order_102 (by decide) ?_
      refine lv_istore_n (lv' := [(3, .int (0 : Int32)), (0, .ref (q 0)), (1, .int x1), (2, .int x2)]) hx hb dX7_order_103 rfl hl (by decide) rfl (fun ls hl => ?_)
      exact w_X7_order_104 hC N σ x1 σ' K23 hK23 N x2 (0 : Int32) _ _ ls h hw (lv_sub hl [1, 2, 3, 0] rfl)
    · have h := if_f h c
      refine lv_aload_n hx hb dX7_order_43 rfl (lv_at hl 0 rfl) ?_
      refine M_g_X7_39 hC hw dX7_order_44 ?_
      refine lv_iload_n hx hb dX7_order_47 rfl (lv_at hl 3 rfl) ?_
      obtain ⟨hin, h⟩ := gd_o h
      refine M_ld10 hC hw hin dX7_order_48 ?_
      refine lv_aload_n hx hb dX7_order_49 rfl (lv_at hl 0 rfl) ?_
      refine M_g_X7_39 hC hw dX7_order_50 ?_
      refine lv_iload_n hx hb dX7_order_53 rfl (lv_at hl 1 rfl) ?_
      obtain ⟨hin, h⟩ := gd_o h
      refine M_ld10 hC hw hin dX7_order_54 ?_
      refine lv_icmp_ne (tgt := 96) hx hb dX7_order_55 (by decide) (fun c => ?_) (fun c => ?_)
      · have h := if_f h c
        obtain ⟨y11, ey11⟩ : ∃ y : Int32, y = x3 + (1 : Int32) := ⟨_, rfl⟩
        have h := nm_o h y11 ey11
        refine lv_iinc (v := y11) (lv' := [(3, .int y11), (0, .ref (q 0)), (1, .int x1), (2, .int x2)]) hx hb dX7_order_96 hl (k := 3) rfl (by rw [ey11]; rfl) (by decide) rfl (fun ls hl => ?_)
        refine lv_goto (tgt := 35) hx hb dX7_order_99 (by decide) ?_
        exact ih x2 y11 _ _ ls h hw (lv_sub hl [1, 2, 3, 0] rfl)
      · have h := if_t h c
        refine lv_aload_n hx hb dX7_order_58 rfl (lv_at hl 0 rfl) ?_
        refine M_g_X7_42 hC hw dX7_order_59 ?_
        refine lv_iload_n hx hb dX7_order_62 rfl (lv_at hl 3 rfl) ?_
        obtain ⟨hin, h⟩ := gd_o h
        refine M_ld11 hC hw hin dX7_order_63 ?_
        refine lv_aload_n hx hb dX7_order_64 rfl (lv_at hl 0 rfl) ?_
        refine M_g_X7_42 hC hw dX7_order_65 ?_
        refine lv_iload_n hx hb dX7_order_68 rfl (lv_at hl 1 rfl) ?_
        obtain ⟨hin, h⟩ := gd_o h
        refine M_ld11 hC hw hin dX7_order_69 ?_
        refine lv_icmp_lt (tgt := 93) hx hb dX7_order_70 (by decide) (fun c => ?_) (fun c => ?_)
        · have h := if_t h c
          obtain ⟨y12, ey12⟩ : ∃ y : Int32, y = x2 + (1 : Int32) := ⟨_, rfl⟩
          have h := nm_o h y12 ey12
          refine lv_iinc (v := y12) (lv' := [(2, .int y12), (0, .ref (q 0)), (1, .int x1), (3, .int x3)]) hx hb dX7_order_93 hl (k := 2) rfl (by rw [ey12]; rfl) (by decide) rfl (fun ls hl => ?_)
          obtain ⟨y13, ey13⟩ : ∃ y : Int32, y = x3 + (1 : Int32) := ⟨_, rfl⟩
          have h := nm_o h y13 ey13
          refine lv_iinc (v := y13) (lv' := [(3, .int y13), (2, .int y12), (0, .ref (q 0)), (1, .int x1)]) hx hb dX7_order_96 hl (k := 3) rfl (by rw [ey13]; rfl) (by decide) rfl (fun ls hl => ?_)
          refine lv_goto (tgt := 35) hx hb dX7_order_99 (by decide) ?_
          exact ih y12 y13 _ _ ls h hw (lv_sub hl [2, 3, 1, 0] rfl)
        · have h := if_f h c
          refine lv_aload_n hx hb dX7_order_73 rfl (lv_at hl 0 rfl) ?_
          refine M_g_X7_42 hC hw dX7_order_74 ?_
          refine lv_iload_n hx hb dX7_order_77 rfl (lv_at hl 3 rfl) ?_
          obtain ⟨hin, h⟩ := gd_o h
          refine M_ld11 hC hw hin dX7_order_78 ?_
          refine lv_aload_n hx hb dX7_order_79 rfl (lv_at hl 0 rfl) ?_
          refine M_g_X7_42 hC hw dX7_order_80 ?_
          refine lv_iload_n hx hb dX7_order_83 rfl (lv_at hl 1 rfl) ?_
          obtain ⟨hin, h⟩ := gd_o h
          refine M_ld11 hC hw hin dX7_order_84 ?_
          refine lv_icmp_ne (tgt := 96) hx hb dX7_order_85 (by decide) (fun c => ?_) (fun c => ?_)
          · have h := if_f h c
            obtain ⟨y14, ey14⟩ : ∃ y : Int32, y = x3 + (1 : Int32) := ⟨_, rfl⟩
            have h := nm_o h y14 ey14
            refine lv_iinc (v := y14) (lv' := [(3, .int y14), (0, .ref (q 0)), (1, .int x1), (2, .int x2)]) hx hb dX7_order_96 hl (k := 3) rfl (by rw [ey14]; rfl) (by decide) rfl (fun ls hl => ?_)
            refine lv_goto (tgt := 35) hx hb dX7_order_99 (by decide) ?_
            exact ih x2 y14 _ _ ls h hw (lv_sub hl [1, 2, 3, 0] rfl)
          · have h := if_t h c
            refine lv_iload_n hx hb dX7_order_88 rfl (lv_at hl 3 rfl) ?_
            refine lv_iload_n hx hb dX7_order_89 rfl (lv_at hl 1 rfl) ?_
            refine lv_icmp_ge (tgt := 96) hx hb dX7_order_90 (by decide) (fun c => ?_) (fun c => ?_)
            · have h := if_t h c
              obtain ⟨y15, ey15⟩ : ∃ y : Int32, y = x3 + (1 : Int32) := ⟨_, rfl⟩
              have h := nm_o h y15 ey15
              refine lv_iinc (v := y15) (lv' := [(3, .int y15), (0, .ref (q 0)), (1, .int x1), (2, .int x2)]) hx hb dX7_order_96 hl (k := 3) rfl (by rw [ey15]; rfl) (by decide) rfl (fun ls hl => ?_)
              refine lv_goto (tgt := 35) hx hb dX7_order_99 (by decide) ?_
              exact ih x2 y15 _ _ ls h hw (lv_sub hl [1, 2, 3, 0] rfl)
            · have h := if_f h c
              obtain ⟨y16, ey16⟩ : ∃ y : Int32, y = x2 + (1 : Int32) := ⟨_, rfl⟩
              have h := nm_o h y16 ey16
              refine lv_iinc (v := y16) (lv' := [(2, .int y16), (0, .ref (q 0)), (1, .int x1), (3, .int x3)]) hx hb dX7_order_93 hl (k := 2) rfl (by rw [ey16]; rfl) (by decide) rfl (fun ls hl => ?_)
              obtain ⟨y17, ey17⟩ : ∃ y : Int32, y = x3 + (1 : Int32) := ⟨_, rfl⟩
              have h := nm_o h y17 ey17
              refine lv_iinc (v := y17) (lv' := [(3, .int y17), (2, .int y16), (0, .ref (q 0)), (1, .int x1)]) hx hb dX7_order_96 hl (k := 3) rfl (by rw [ey17]; rfl) (by decide) rfl (fun ls hl => ?_)
              refine lv_goto (tgt := 35) hx hb dX7_order_99 (by decide) ?_
              exact ih y16 y17 _ _ ls h hw (lv_sub hl [2, 3, 1, 0] rfl)
def lp_X7_order_23 (N : Nat) : Nat → St → Int32 → Option St
  | 0, _, _ => none
  | n + 1, σ, x1 => if (σ.1 4) ≤ x1 then (some σ) else (lp_X7_order_35 N σ x1 (fun v0 v1 => lp_X7_order_23 N n v0 v1) N (0 : Int32) (0 : Int32))
set_option maxRecDepth 100000 in
set_option maxHeartbeats 4000000 in
theorem w_X7_order_23 {p : Program} {l : Launch} {e : Env} {s : State} {m : MethodId} {below : List Frame} {meth : Method} {c : Code} {args : Array Value} {D : va_G} {q : Nat → Nat} {k : cK} {ws0 : va_W} (hC : Cx p s m meth c cX7_order RX7 4 none) (N : Nat) (σ' : St) :
    ∀ (n : Nat) (σ : St) (x1 : Int32) (H : Heap) (locs : List Loc) (ls : Array Slot), lp_X7_order_23 N n σ x1 = some σ' → WH D (MW q k σ) k (AQ ws0) s s.heap H locs → lv_has ls 4 [(0, .ref (q 0)), (1, .int x1)] → W p l e rm_X7_order s m args below meth c H locs 0 0 (MQ below (QR D ws0 (MW q k σ') none) args s 0 0 (AQ ws0)) (F0 m 23 ls []) := by
  have hx := hC.1
  have hb := hC.2.1
  intro n
  induction n with
  | zero =>
    intro σ x1 H locs ls h
    cases h
  | succ n ih =>
    intro σ x1 H locs ls h hw hl
    rw [lp_X7_order_23] at h
    refine lv_iload_n hx hb dX7_order_23 rfl (lv_at hl 1 rfl) ?_
    refine lv_aload_n hx hb dX7_order_24 rfl (lv_at hl 0 rfl) ?_
    refine M_g_X7_84 hC hw dX7_order_25 ?_
    refine lv_icmp_ge (tgt := 170) hx hb dX7_order_28 (by decide) (fun c => ?_) (fun c => ?_)
    · have h := if_t h c
      cases h
      exact ret_v hC hw dX7_order_170
    · have h := if_f h c
      refine lv_iconst (v := 0) hx hb dX7_order_31 (by decide) ?_
      refine lv_istore_n (lv' := [(2, .int (0 : Int32)), (0, .ref (q 0)), (1, .int x1)]) hx hb dX7_order_32 rfl hl (by decide) rfl (fun ls hl => ?_)
      refine lv_iconst (v := 0) hx hb dX7_order_33 (by decide) ?_
      refine lv_istore_n (lv' := [(3, .int (0 : Int32)), (2, .int (0 : Int32)), (0, .ref (q 0)), (1, .int x1)]) hx hb dX7_order_34 rfl hl (by decide) rfl (fun ls hl => ?_)
      exact w_X7_order_35 hC N σ x1 σ' _ ih N (0 : Int32) (0 : Int32) _ _ ls h hw (lv_sub hl [2, 3, 1, 0] rfl)
def lp_X7_order_2 (N : Nat) : Nat → St → Int32 → Option St
  | 0, _, _ => none
  | n + 1, σ, x1 => if (8 : Int32) ≤ x1 then (lp_X7_order_23 N N σ (0 : Int32)) else (gd (okx x1 8) (nm (sA σ 11 x1 (0 : Int32)) (fun σ18 => nm (x1 + (1 : Int32)) (fun y19 => lp_X7_order_2 N n σ18 y19))))
set_option maxRecDepth 100000 in
set_option maxHeartbeats 4000000 in
theorem w_X7_order_2 {p : Program} {l : Launch} {e : Env} {s : State} {m : MethodId} {below : List Frame} {meth : Method} {c : Code} {args : Array Value} {D : va_G} {q : Nat → Nat} {k : cK} {ws0 : va_W} (hC : Cx p s m meth c cX7_order RX7 4 none) (N : Nat) (σ' : St) :
    ∀ (n : Nat) (σ : St) (x1 : Int32) (H : Heap) (locs : List Loc) (ls : Array Slot), lp_X7_order_2 N n σ x1 = some σ' → WH D (MW q k σ) k (AQ ws0) s s.heap H locs → lv_has ls 4 [(0, .ref (q 0)), (1, .int x1)] → W p l e rm_X7_order s m args below meth c H locs 0 0 (MQ below (QR D ws0 (MW q k σ') none) args s 0 0 (AQ ws0)) (F0 m 2 ls []) := by
  have hx := hC.1
  have hb := hC.2.1
  intro n
  induction n with
  | zero =>
    intro σ x1 H locs ls h
    cases h
  | succ n ih =>
    intro σ x1 H locs ls h hw hl
    rw [lp_X7_order_2] at h
    refine lv_iload_n hx hb dX7_order_2 rfl (lv_at hl 1 rfl) ?_
    refine lv_bipush (v := 8) hx hb dX7_order_3 (by decide) ?_
    refine lv_icmp_ge (tgt := 21) hx hb dX7_order_5 (by decide) (fun c => ?_) (fun c => ?_)
    · have h := if_t h c
      refine lv_iconst (v := 0) hx hb dX7_order_21 (by decide) ?_
      refine lv_istore_n (lv' := [(1, .int (0 : Int32)), (0, .ref (q 0))]) hx hb dX7_order_22 rfl hl (by decide) rfl (fun ls hl => ?_)
      exact w_X7_order_23 hC N σ' N σ (0 : Int32) _ _ ls h hw (lv_sub hl [1, 0] rfl)
    · have h := if_f h c
      refine lv_aload_n hx hb dX7_order_8 rfl (lv_at hl 0 rfl) ?_
      refine M_g_X7_45 hC hw dX7_order_9 ?_
      refine lv_iload_n hx hb dX7_order_12 rfl (lv_at hl 1 rfl) ?_
      refine lv_iconst (v := 0) hx hb dX7_order_13 (by decide) ?_
      obtain ⟨hin, h⟩ := gd_o h
      refine M_st12 hC hw hin dX7_order_14 (fun σ18 eσ18 H locs hw => ?_)
      have h := nm_o h σ18 eσ18
      obtain ⟨y19, ey19⟩ : ∃ y : Int32, y = x1 + (1 : Int32) := ⟨_, rfl⟩
      have h := nm_o h y19 ey19
      refine lv_iinc (v := y19) (lv' := [(1, .int y19), (0, .ref (q 0))]) hx hb dX7_order_15 hl (k := 1) rfl (by rw [ey19]; rfl) (by decide) rfl (fun ls hl => ?_)
      refine lv_goto (tgt := 2) hx hb dX7_order_18 (by decide) ?_
      exact ih σ18 y19 _ _ ls h hw (lv_sub hl [1, 0] rfl)
def f_X7_order (N : Nat) (σ : St) : Option St :=
  lp_X7_order_2 N N σ (0 : Int32)
set_option maxRecDepth 100000 in
set_option maxHeartbeats 4000000 in
theorem c_X7_order (l : Launch) (D : va_G) (q : Nat → Nat) (k : cK) (N : Nat) (σ : St) (σ' : St) (h : f_X7_order N σ = some σ') :
    Met l yX7_order [.code yX7_order cX7_order 4 none] rm_X7_order (PC D (MW q k σ) k [.ref (q 0)]) (QR D (MW q k σ) (MW q k σ') none) 0 0 (AQ (MW q k σ)) := by
  refine met_of (by decide) (Nat.le_of_ble_eq_true rfl) ?_
  intro p e s m below meth c hC hw ls hl
  have hC : Cx p s m meth c cX7_order RX7 4 none := hC
  have hl : lv_has ls 4 [(0, .ref (q 0))] := hl
  have hx := hC.1
  have hb := hC.2.1
  unfold f_X7_order at h
  refine lv_iconst (v := 0) hx hb dX7_order_0 (by decide) ?_
  refine lv_istore_n (lv' := [(1, .int (0 : Int32)), (0, .ref (q 0))]) hx hb dX7_order_1 rfl hl (by decide) rfl (fun ls hl => ?_)
  exact w_X7_order_2 hC N σ' N σ (0 : Int32) _ _ ls h hw (lv_sub hl [1, 0] rfl)
/-! SlideBoardsModel.isKey(I)Z -/
abbrev rm_X7_isKey : Room := { frames := 0, cells := 0, slots := 0, locals := 0 }
def lp_X7_isKey_2 (N : Nat) (σ : St) (x1 : Int32) : Nat → Int32 → Option Int32
  | 0, _ => none
  | n + 1, x2 => if (8 : Int32) ≤ x2 then (some (1 : Int32)) else (gd (okx (((8 : Int32) * x1) + x2) 80008) (gd (okx x2 8) (if (ra σ 5 (((8 : Int32) * x1) + x2)) = (ra σ 11 x2) then (nm (x2 + (1 : Int32)) (fun y1 => lp_X7_isKey_2 N σ x1 n y1)) else (some (0 : Int32)))))
set_option maxRecDepth 100000 in
set_option maxHeartbeats 4000000 in
theorem w_X7_isKey_2 {p : Program} {l : Launch} {e : Env} {s : State} {m : MethodId} {below : List Frame} {meth : Method} {c : Code} {args : Array Value} {D : va_G} {q : Nat → Nat} {k : cK} {ws0 : va_W} (hC : Cx p s m meth c cX7_isKey RX7 3 (some .boolean)) (N : Nat) (σ : St) (x1 : Int32) (r : Int32) :
    ∀ (n : Nat) (x2 : Int32) (H : Heap) (locs : List Loc) (ls : Array Slot), lp_X7_isKey_2 N σ x1 n x2 = some r → WH D (MW q k σ) k (AQ ws0) s s.heap H locs → lv_has ls 3 [(0, .ref (q 0)), (1, .int x1), (2, .int x2)] → W p l e rm_X7_isKey s m args below meth c H locs 0 0 (MQ below (QR D ws0 (MW q k σ) (some (.int r))) args s 0 0 (AQ ws0)) (F0 m 2 ls []) := by
  have hx := hC.1
  have hb := hC.2.1
  intro n
  induction n with
  | zero =>
    intro x2 H locs ls h
    cases h
  | succ n ih =>
    intro x2 H locs ls h hw hl
    rw [lp_X7_isKey_2] at h
    refine lv_iload_n hx hb dX7_isKey_2 rfl (lv_at hl 2 rfl) ?_
    refine lv_bipush (v := 8) hx hb dX7_isKey_3 (by decide) ?_
    refine lv_icmp_ge (tgt := 36) hx hb dX7_isKey_5 (by decide) (fun c => ?_) (fun c => ?_)
    · have h := if_t h c
      refine lv_iconst (v := 1) hx hb dX7_isKey_36 (by decide) ?_
      cases h
      exact ret_z hC (Or.inr rfl) hw dX7_isKey_37
    · have h := if_f h c
      refine lv_aload_n hx hb dX7_isKey_8 rfl (lv_at hl 0 rfl) ?_
      refine M_g_X7_26 hC hw dX7_isKey_9 ?_
      refine lv_bipush (v := 8) hx hb dX7_isKey_12 (by decide) ?_
      refine lv_iload_n hx hb dX7_isKey_14 rfl (lv_at hl 1 rfl) ?_
      refine lv_imul hx hb dX7_isKey_15 ?_
      refine lv_iload_n hx hb dX7_isKey_16 rfl (lv_at hl 2 rfl) ?_
      refine lv_iadd hx hb dX7_isKey_17 ?_
      obtain ⟨hin, h⟩ := gd_o h
      refine M_ld6 hC hw hin dX7_isKey_18 ?_
      refine lv_aload_n hx hb dX7_isKey_19 rfl (lv_at hl 0 rfl) ?_
      refine M_g_X7_45 hC hw dX7_isKey_20 ?_
      refine lv_iload_n hx hb dX7_isKey_23 rfl (lv_at hl 2 rfl) ?_
      obtain ⟨hin, h⟩ := gd_o h
      refine M_ld12 hC hw hin dX7_isKey_24 ?_
      refine lv_icmp_eq (tgt := 30) hx hb dX7_isKey_25 (by decide) (fun c => ?_) (fun c => ?_)
      · have h := if_t h c
        obtain ⟨y1, ey1⟩ : ∃ y : Int32, y = x2 + (1 : Int32) := ⟨_, rfl⟩
        have h := nm_o h y1 ey1
        refine lv_iinc (v := y1) (lv' := [(2, .int y1), (0, .ref (q 0)), (1, .int x1)]) hx hb dX7_isKey_30 hl (k := 2) rfl (by rw [ey1]; rfl) (by decide) rfl (fun ls hl => ?_)
        refine lv_goto (tgt := 2) hx hb dX7_isKey_33 (by decide) ?_
        exact ih y1 _ _ ls h hw (lv_sub hl [1, 2, 0] rfl)
      · have h := if_f h c
        refine lv_iconst (v := 0) hx hb dX7_isKey_28 (by decide) ?_
        cases h
        exact ret_z hC (Or.inl rfl) hw dX7_isKey_29
def f_X7_isKey (N : Nat) (σ : St) (a0 : Int32) : Option Int32 :=
  lp_X7_isKey_2 N σ a0 N (0 : Int32)
set_option maxRecDepth 100000 in
set_option maxHeartbeats 4000000 in
theorem c_X7_isKey (l : Launch) (D : va_G) (q : Nat → Nat) (k : cK) (N : Nat) (σ : St) (a0 : Int32) (r : Int32) (h : f_X7_isKey N σ a0 = some r) :
    Met l yX7_isKey [.code yX7_isKey cX7_isKey 3 (some .boolean)] rm_X7_isKey (PC D (MW q k σ) k [.ref (q 0), .int a0]) (QR D (MW q k σ) (MW q k σ) (some (.int r))) 0 0 (AQ (MW q k σ)) := by
  refine met_of (by decide) (Nat.le_of_ble_eq_true rfl) ?_
  intro p e s m below meth c hC hw ls hl
  have hC : Cx p s m meth c cX7_isKey RX7 3 (some .boolean) := hC
  have hl : lv_has ls 3 [(0, .ref (q 0)), (1, .int a0)] := hl
  have hx := hC.1
  have hb := hC.2.1
  unfold f_X7_isKey at h
  refine lv_iconst (v := 0) hx hb dX7_isKey_0 (by decide) ?_
  refine lv_istore_n (lv' := [(2, .int (0 : Int32)), (0, .ref (q 0)), (1, .int a0)]) hx hb dX7_isKey_1 rfl hl (by decide) rfl (fun ls hl => ?_)
  exact w_X7_isKey_2 hC N σ a0 r N (0 : Int32) _ _ ls h hw (lv_sub hl [1, 2, 0] rfl)
/-! SlideBoardsModel.seatOf()I -/
abbrev rm_X7_seatOf : Room := { frames := 1, cells := 0, slots := 0, locals := 22 }
def lp_X7_seatOf_49 (N : Nat) (σ : St) : Nat → Int32 → Option Int32
  | 0, _ => none
  | n + 1, x2 => gd (okx x2 32768) (if (ra σ 8 x2) < 0 then (some x2) else (gd (okx x2 32768) (bd1 (f_X7_isKey N σ (ra σ 8 x2)) (fun r2 => if r2 = 0 then (nm (jrem (x2 + (1 : Int32)) (32768 : Int32)) (fun y3 => lp_X7_seatOf_49 N σ n y3)) else (some x2)))))
set_option maxRecDepth 100000 in
set_option maxHeartbeats 4000000 in
theorem w_X7_seatOf_49 {p : Program} {l : Launch} {e : Env} {s : State} {m : MethodId} {below : List Frame} {meth : Method} {c : Code} {args : Array Value} {D : va_G} {q : Nat → Nat} {k : cK} {ws0 : va_W} (hC : Cx p s m meth c cX7_seatOf RX7 3 (some .int)) (N : Nat) (σ : St) (r : Int32) :
    ∀ (n : Nat) (x2 : Int32) (H : Heap) (locs : List Loc) (ls : Array Slot), lp_X7_seatOf_49 N σ n x2 = some r → WH D (MW q k σ) k (AQ ws0) s s.heap H locs → lv_has ls 3 [(0, .ref (q 0)), (2, .int x2)] → W p l e rm_X7_seatOf s m args below meth c H locs 0 0 (MQ below (QR D ws0 (MW q k σ) (some (.int r))) args s 0 0 (AQ ws0)) (F0 m 49 ls []) := by
  have hx := hC.1
  have hb := hC.2.1
  intro n
  induction n with
  | zero =>
    intro x2 H locs ls h
    cases h
  | succ n ih =>
    intro x2 H locs ls h hw hl
    rw [lp_X7_seatOf_49] at h
    refine lv_aload_n hx hb dX7_seatOf_49 rfl (lv_at hl 0 rfl) ?_
    refine M_g_X7_36 hC hw dX7_seatOf_50 ?_
    refine lv_iload_n hx hb dX7_seatOf_53 rfl (lv_at hl 1 rfl) ?_
    obtain ⟨hin, h⟩ := gd_o h
    refine M_ld9 hC hw hin dX7_seatOf_54 ?_
    refine lv_if_lt (tgt := 81) hx hb dX7_seatOf_55 (by decide) (fun c => ?_) (fun c => ?_)
    · have h := if_t h c
      refine lv_iload_n hx hb dX7_seatOf_81 rfl (lv_at hl 1 rfl) ?_
      cases h
      exact ret_i hC hw dX7_seatOf_82
    · have h := if_f h c
      refine lv_aload_n hx hb dX7_seatOf_58 rfl (lv_at hl 0 rfl) ?_
      refine lv_aload_n hx hb dX7_seatOf_59 rfl (lv_at hl 0 rfl) ?_
      refine M_g_X7_36 hC hw dX7_seatOf_60 ?_
      refine lv_iload_n hx hb dX7_seatOf_63 rfl (lv_at hl 1 rfl) ?_
      obtain ⟨hin, h⟩ := gd_o h
      refine M_ld9 hC hw hin dX7_seatOf_64 ?_
      obtain ⟨r2, hc, h⟩ := bd1_o h
      refine go_i (run_V (As := [.int (ra σ 8 x2)]) (rest := []) hC hw (c_X7_isKey l D q k N σ (ra σ 8 x2) r2 hc) kw_293 kw_295 kw_296 kw_246 kw_294 hd_X7_isKey ⟨rfl, rfl⟩ ⟨Nat.le_of_ble_eq_true rfl, Nat.le_of_ble_eq_true rfl⟩ 0 rfl rfl rfl hl.1 rfl (Nat.le_of_ble_eq_true rfl) dX7_seatOf_65 ⟨Nat.zero_le _, Nat.zero_le _⟩) hw (fun H locs hw => ?_)
      refine lv_if_ne (tgt := 81) hx hb dX7_seatOf_68 (by decide) (fun c => ?_) (fun c => ?_)
      · have h := if_f h c
        refine lv_iload_n hx hb dX7_seatOf_81 rfl (lv_at hl 1 rfl) ?_
        cases h
        exact ret_i hC hw dX7_seatOf_82
      · have h := if_t h c
        refine lv_iload_n hx hb dX7_seatOf_71 rfl (lv_at hl 1 rfl) ?_
        refine lv_iconst (v := 1) hx hb dX7_seatOf_72 (by decide) ?_
        refine lv_iadd hx hb dX7_seatOf_73 ?_
        refine lv_ldc hx hb hC.2.2.2.2.1 (hw.2.2.2.2.all _ _ kw_297) dX7_seatOf_74 ?_
        refine lv_irem hx hb dX7_seatOf_76 (by decide) ?_
        refine lv_topi (fun y3 ey3 => ?_)
        have h := nm_o h y3 ey3
        refine lv_istore_n (lv' := [(2, .int y3), (0, .ref (q 0))]) hx hb dX7_seatOf_77 rfl hl (by decide) rfl (fun ls hl => ?_)
        refine lv_goto (tgt := 49) hx hb dX7_seatOf_78 (by decide) ?_
        exact ih y3 _ _ ls h hw (lv_sub hl [1, 0] rfl)
def lp_X7_seatOf_4 (N : Nat) (σ : St) : Nat → Int32 → Int32 → Option Int32
  | 0, _, _ => none
  | n + 1, x1, x2 => if (8 : Int32) ≤ x2 then (nm ((x1 ^^^ (jushr x1 (15 : Int32))) &&& (32767 : Int32)) (fun y1 => lp_X7_seatOf_49 N σ N y1)) else (gd (okx x2 8) (gd (okx x2 8) (nm (((x1 * (31 : Int32)) + (ra σ 11 x2)) + (jushr (ra σ 11 x2) (7 : Int32))) (fun y4 => nm (x2 + (1 : Int32)) (fun y5 => lp_X7_seatOf_4 N σ n y4 y5)))))
set_option maxRecDepth 100000 in
set_option maxHeartbeats 4000000 in
theorem w_X7_seatOf_4 {p : Program} {l : Launch} {e : Env} {s : State} {m : MethodId} {below : List Frame} {meth : Method} {c : Code} {args : Array Value} {D : va_G} {q : Nat → Nat} {k : cK} {ws0 : va_W} (hC : Cx p s m meth c cX7_seatOf RX7 3 (some .int)) (N : Nat) (σ : St) (r : Int32) :
    ∀ (n : Nat) (x1 : Int32) (x2 : Int32) (H : Heap) (locs : List Loc) (ls : Array Slot), lp_X7_seatOf_4 N σ n x1 x2 = some r → WH D (MW q k σ) k (AQ ws0) s s.heap H locs → lv_has ls 3 [(0, .ref (q 0)), (1, .int x1), (2, .int x2)] → W p l e rm_X7_seatOf s m args below meth c H locs 0 0 (MQ below (QR D ws0 (MW q k σ) (some (.int r))) args s 0 0 (AQ ws0)) (F0 m 4 ls []) := by
  have hx := hC.1
  have hb := hC.2.1
  intro n
  induction n with
  | zero =>
    intro x1 x2 H locs ls h
    cases h
  | succ n ih =>
    intro x1 x2 H locs ls h hw hl
    rw [lp_X7_seatOf_4] at h
    refine lv_iload_n hx hb dX7_seatOf_4 rfl (lv_at hl 2 rfl) ?_
    refine lv_bipush (v := 8) hx hb dX7_seatOf_5 (by decide) ?_
    refine lv_icmp_ge (tgt := 38) hx hb dX7_seatOf_7 (by decide) (fun c => ?_) (fun c => ?_)
    · have h := if_t h c
      refine lv_iload_n hx hb dX7_seatOf_38 rfl (lv_at hl 1 rfl) ?_
      refine lv_iload_n hx hb dX7_seatOf_39 rfl (lv_at hl 1 rfl) ?_
      refine lv_bipush (v := 15) hx hb dX7_seatOf_40 (by decide) ?_
      refine lv_iushr (v := jushr x1 (15 : Int32)) hx hb dX7_seatOf_42 rfl ?_
      refine lv_ixor hx hb dX7_seatOf_43 ?_
      refine lv_sipush (v := 32767) hx hb dX7_seatOf_44 (by decide) ?_
      refine lv_iand hx hb dX7_seatOf_47 ?_
      refine lv_topi (fun y1 ey1 => ?_)
      have h := nm_o h y1 ey1
      refine lv_istore_n (lv' := [(2, .int y1), (0, .ref (q 0)), (1, .int x1)]) hx hb dX7_seatOf_48 rfl hl (by decide) rfl (fun ls hl => ?_)
      exact w_X7_seatOf_49 hC N σ r N y1 _ _ ls h hw (lv_sub hl [1, 0] rfl)
    · have h := if_f h c
      refine lv_iload_n hx hb dX7_seatOf_10 rfl (lv_at hl 1 rfl) ?_
      refine lv_bipush (v := 31) hx hb dX7_seatOf_11 (by decide) ?_
      refine lv_imul hx hb dX7_seatOf_13 ?_
      refine lv_aload_n hx hb dX7_seatOf_14 rfl (lv_at hl 0 rfl) ?_
      refine M_g_X7_45 hC hw dX7_seatOf_15 ?_
      refine lv_iload_n hx hb dX7_seatOf_18 rfl (lv_at hl 2 rfl) ?_
      obtain ⟨hin, h⟩ := gd_o h
      refine M_ld12 hC hw hin dX7_seatOf_19 ?_
      refine lv_iadd hx hb dX7_seatOf_20 ?_
      refine lv_aload_n hx hb dX7_seatOf_21 rfl (lv_at hl 0 rfl) ?_
      refine M_g_X7_45 hC hw dX7_seatOf_22 ?_
      refine lv_iload_n hx hb dX7_seatOf_25 rfl (lv_at hl 2 rfl) ?_
      obtain ⟨hin, h⟩ := gd_o h
      refine M_ld12 hC hw hin dX7_seatOf_26 ?_
      refine lv_bipush (v := 7) hx hb dX7_seatOf_27 (by decide) ?_
      refine lv_iushr (v := jushr (ra σ 11 x2) (7 : Int32)) hx hb dX7_seatOf_29 rfl ?_
      refine lv_iadd hx hb dX7_seatOf_30 ?_
      refine lv_topi (fun y4 ey4 => ?_)
      have h := nm_o h y4 ey4
      refine lv_istore_n (lv' := [(1, .int y4), (0, .ref (q 0)), (2, .int x2)]) hx hb dX7_seatOf_31 rfl hl (by decide) rfl (fun ls hl => ?_)
      obtain ⟨y5, ey5⟩ : ∃ y : Int32, y = x2 + (1 : Int32) := ⟨_, rfl⟩
      have h := nm_o h y5 ey5
      refine lv_iinc (v := y5) (lv' := [(2, .int y5), (1, .int y4), (0, .ref (q 0))]) hx hb dX7_seatOf_32 hl (k := 2) rfl (by rw [ey5]; rfl) (by decide) rfl (fun ls hl => ?_)
      refine lv_goto (tgt := 4) hx hb dX7_seatOf_35 (by decide) ?_
      exact ih y4 y5 _ _ ls h hw (lv_sub hl [2, 1, 0] rfl)
def f_X7_seatOf (N : Nat) (σ : St) : Option Int32 :=
  lp_X7_seatOf_4 N σ N (0 : Int32) (0 : Int32)
set_option maxRecDepth 100000 in
set_option maxHeartbeats 4000000 in
theorem c_X7_seatOf (l : Launch) (D : va_G) (q : Nat → Nat) (k : cK) (N : Nat) (σ : St) (r : Int32) (h : f_X7_seatOf N σ = some r) :
    Met l yX7_seatOf [.code yX7_seatOf cX7_seatOf 3 (some .int)] rm_X7_seatOf (PC D (MW q k σ) k [.ref (q 0)]) (QR D (MW q k σ) (MW q k σ) (some (.int r))) 0 0 (AQ (MW q k σ)) := by
  refine met_of (by decide) (Nat.le_of_ble_eq_true rfl) ?_
  intro p e s m below meth c hC hw ls hl
  have hC : Cx p s m meth c cX7_seatOf RX7 3 (some .int) := hC
  have hl : lv_has ls 3 [(0, .ref (q 0))] := hl
  have hx := hC.1
  have hb := hC.2.1
  unfold f_X7_seatOf at h
  refine lv_iconst (v := 0) hx hb dX7_seatOf_0 (by decide) ?_
  refine lv_istore_n (lv' := [(1, .int (0 : Int32)), (0, .ref (q 0))]) hx hb dX7_seatOf_1 rfl hl (by decide) rfl (fun ls hl => ?_)
  refine lv_iconst (v := 0) hx hb dX7_seatOf_2 (by decide) ?_
  refine lv_istore_n (lv' := [(2, .int (0 : Int32)), (1, .int (0 : Int32)), (0, .ref (q 0))]) hx hb dX7_seatOf_3 rfl hl (by decide) rfl (fun ls hl => ?_)
  exact w_X7_seatOf_4 hC N σ r N (0 : Int32) (0 : Int32) _ _ ls h hw (lv_sub hl [2, 1, 0] rfl)

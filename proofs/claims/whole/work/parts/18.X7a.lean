/-! SlideBoardsModel.thrown()I -/
abbrev rm_X7_thrown : Room := { frames := 0, cells := 0, slots := 0, locals := 0 }
def f_X7_thrown (N : Nat) (σ : St) : Option Int32 :=
  some (σ.1 0)
set_option maxRecDepth 100000 in
set_option maxHeartbeats 4000000 in
theorem c_X7_thrown (l : Launch) (D : va_G) (q : Nat → Nat) (k : cK) (N : Nat) (σ : St) (r : Int32) (h : f_X7_thrown N σ = some r) :
    Met l yX7_thrown [.code yX7_thrown cX7_thrown 1 (some .int)] rm_X7_thrown (PC D (MW q k σ) k [.ref (q 0)]) (QR D (MW q k σ) (MW q k σ) (some (.int r))) 0 0 (AQ (MW q k σ)) := by
  refine met_of (by decide) (Nat.le_of_ble_eq_true rfl) ?_
  intro p e s m below meth c hC hw ls hl
  have hC : Cx p s m meth c cX7_thrown RX7 1 (some .int) := hC
  have hl : lv_has ls 1 [(0, .ref (q 0))] := hl
  have hx := hC.1
  have hb := hC.2.1
  unfold f_X7_thrown at h
  refine lv_aload_n hx hb dX7_thrown_0 rfl (lv_at hl 0 rfl) ?_
  refine M_g_X7_81 hC hw dX7_thrown_1 ?_
  cases h
  exact ret_i hC hw dX7_thrown_4
/-! SlideBoardsModel.throwsIf(IZ)Z -/
abbrev rm_X7_throwsIf : Room := { frames := 0, cells := 0, slots := 0, locals := 0 }
def f_X7_throwsIf (N : Nat) (σ : St) (a0 : Int32) (a1 : Int32) : Option (Int32 × St) :=
  if a1 = 0 then (nm (sI σ 0 (0 : Int32)) (fun σ1 => gd (decide (a1 = 0 ∨ a1 = 1)) (some (a1, σ1)))) else (nm (sI σ 0 a0) (fun σ2 => gd (decide (a1 = 0 ∨ a1 = 1)) (some (a1, σ2))))
set_option maxRecDepth 100000 in
set_option maxHeartbeats 4000000 in
theorem c_X7_throwsIf (l : Launch) (D : va_G) (q : Nat → Nat) (k : cK) (N : Nat) (σ : St) (a0 : Int32) (a1 : Int32) (r : Int32) (σ' : St) (h : f_X7_throwsIf N σ a0 a1 = some (r, σ')) :
    Met l yX7_throwsIf [.code yX7_throwsIf cX7_throwsIf 3 (some .boolean)] rm_X7_throwsIf (PC D (MW q k σ) k [.ref (q 0), .int a0, .int a1]) (QR D (MW q k σ) (MW q k σ') (some (.int r))) 0 0 (AQ (MW q k σ)) := by
  refine met_of (by decide) (Nat.le_of_ble_eq_true rfl) ?_
  intro p e s m below meth c hC hw ls hl
  have hC : Cx p s m meth c cX7_throwsIf RX7 3 (some .boolean) := hC
  have hl : lv_has ls 3 [(0, .ref (q 0)), (1, .int a0), (2, .int a1)] := hl
  have hx := hC.1
  have hb := hC.2.1
  unfold f_X7_throwsIf at h
  refine lv_aload_n hx hb dX7_throwsIf_0 rfl (lv_at hl 0 rfl) ?_
  refine lv_iload_n hx hb dX7_throwsIf_1 rfl (lv_at hl 2 rfl) ?_
  refine lv_if_eq (tgt := 9) hx hb dX7_throwsIf_2 (by decide) (fun c => ?_) (fun c => ?_)
  · have h := if_t h c
    refine lv_iconst (v := 0) hx hb dX7_throwsIf_9 (by decide) ?_
    refine M_p_X7_81 hC hw dX7_throwsIf_10 (fun σ1 eσ1 H locs hw => ?_)
    have h := nm_o h σ1 eσ1
    refine lv_iload_n hx hb dX7_throwsIf_13 rfl (lv_at hl 2 rfl) ?_
    obtain ⟨hz, h⟩ := gp_o h
    cases h
    exact ret_z hC hz hw dX7_throwsIf_14
  · have h := if_f h c
    refine lv_iload_n hx hb dX7_throwsIf_5 rfl (lv_at hl 1 rfl) ?_
    refine lv_goto (tgt := 10) hx hb dX7_throwsIf_6 (by decide) ?_
    refine M_p_X7_81 hC hw dX7_throwsIf_10 (fun σ2 eσ2 H locs hw => ?_)
    have h := nm_o h σ2 eσ2
    refine lv_iload_n hx hb dX7_throwsIf_13 rfl (lv_at hl 2 rfl) ?_
    obtain ⟨hz, h⟩ := gp_o h
    cases h
    exact ret_z hC hz hw dX7_throwsIf_14
/-! SlideBoardsModel.isCell(II)Z -/
abbrev rm_X7_isCell : Room := { frames := 0, cells := 0, slots := 0, locals := 0 }
def f_X7_isCell (N : Nat) (σ : St) (a0 : Int32) (a1 : Int32) : Option Int32 :=
  if a0 < 0 then (some (0 : Int32)) else (if (σ.1 1) ≤ a0 then (some (0 : Int32)) else (if a1 < 0 then (some (0 : Int32)) else (if (σ.1 2) ≤ a1 then (some (0 : Int32)) else (some (1 : Int32)))))
set_option maxRecDepth 100000 in
set_option maxHeartbeats 4000000 in
theorem c_X7_isCell (l : Launch) (D : va_G) (q : Nat → Nat) (k : cK) (N : Nat) (σ : St) (a0 : Int32) (a1 : Int32) (r : Int32) (h : f_X7_isCell N σ a0 a1 = some r) :
    Met l yX7_isCell [.code yX7_isCell cX7_isCell 3 (some .boolean)] rm_X7_isCell (PC D (MW q k σ) k [.ref (q 0), .int a0, .int a1]) (QR D (MW q k σ) (MW q k σ) (some (.int r))) 0 0 (AQ (MW q k σ)) := by
  refine met_of (by decide) (Nat.le_of_ble_eq_true rfl) ?_
  intro p e s m below meth c hC hw ls hl
  have hC : Cx p s m meth c cX7_isCell RX7 3 (some .boolean) := hC
  have hl : lv_has ls 3 [(0, .ref (q 0)), (1, .int a0), (2, .int a1)] := hl
  have hx := hC.1
  have hb := hC.2.1
  unfold f_X7_isCell at h
  refine lv_iload_n hx hb dX7_isCell_0 rfl (lv_at hl 1 rfl) ?_
  refine lv_if_lt (tgt := 28) hx hb dX7_isCell_1 (by decide) (fun c => ?_) (fun c => ?_)
  · have h := if_t h c
    refine lv_iconst (v := 0) hx hb dX7_isCell_28 (by decide) ?_
    cases h
    exact ret_z hC (Or.inl rfl) hw dX7_isCell_29
  · have h := if_f h c
    refine lv_iload_n hx hb dX7_isCell_4 rfl (lv_at hl 1 rfl) ?_
    refine lv_aload_n hx hb dX7_isCell_5 rfl (lv_at hl 0 rfl) ?_
    refine M_g_X7_74 hC hw dX7_isCell_6 ?_
    refine lv_icmp_ge (tgt := 28) hx hb dX7_isCell_9 (by decide) (fun c => ?_) (fun c => ?_)
    · have h := if_t h c
      refine lv_iconst (v := 0) hx hb dX7_isCell_28 (by decide) ?_
      cases h
      exact ret_z hC (Or.inl rfl) hw dX7_isCell_29
    · have h := if_f h c
      refine lv_iload_n hx hb dX7_isCell_12 rfl (lv_at hl 2 rfl) ?_
      refine lv_if_lt (tgt := 28) hx hb dX7_isCell_13 (by decide) (fun c => ?_) (fun c => ?_)
      · have h := if_t h c
        refine lv_iconst (v := 0) hx hb dX7_isCell_28 (by decide) ?_
        cases h
        exact ret_z hC (Or.inl rfl) hw dX7_isCell_29
      · have h := if_f h c
        refine lv_iload_n hx hb dX7_isCell_16 rfl (lv_at hl 2 rfl) ?_
        refine lv_aload_n hx hb dX7_isCell_17 rfl (lv_at hl 0 rfl) ?_
        refine M_g_X7_78 hC hw dX7_isCell_18 ?_
        refine lv_icmp_ge (tgt := 28) hx hb dX7_isCell_21 (by decide) (fun c => ?_) (fun c => ?_)
        · have h := if_t h c
          refine lv_iconst (v := 0) hx hb dX7_isCell_28 (by decide) ?_
          cases h
          exact ret_z hC (Or.inl rfl) hw dX7_isCell_29
        · have h := if_f h c
          refine lv_iconst (v := 1) hx hb dX7_isCell_24 (by decide) ?_
          refine lv_goto (tgt := 29) hx hb dX7_isCell_25 (by decide) ?_
          cases h
          exact ret_z hC (Or.inr rfl) hw dX7_isCell_29
/-! SlideBoardsModel.isBlock(I)Z -/
abbrev rm_X7_isBlock : Room := { frames := 0, cells := 0, slots := 0, locals := 0 }
def f_X7_isBlock (N : Nat) (σ : St) (a0 : Int32) : Option Int32 :=
  if a0 < 0 then (some (0 : Int32)) else (if (σ.1 4) ≤ a0 then (some (0 : Int32)) else (some (1 : Int32)))
set_option maxRecDepth 100000 in
set_option maxHeartbeats 4000000 in
theorem c_X7_isBlock (l : Launch) (D : va_G) (q : Nat → Nat) (k : cK) (N : Nat) (σ : St) (a0 : Int32) (r : Int32) (h : f_X7_isBlock N σ a0 = some r) :
    Met l yX7_isBlock [.code yX7_isBlock cX7_isBlock 2 (some .boolean)] rm_X7_isBlock (PC D (MW q k σ) k [.ref (q 0), .int a0]) (QR D (MW q k σ) (MW q k σ) (some (.int r))) 0 0 (AQ (MW q k σ)) := by
  refine met_of (by decide) (Nat.le_of_ble_eq_true rfl) ?_
  intro p e s m below meth c hC hw ls hl
  have hC : Cx p s m meth c cX7_isBlock RX7 2 (some .boolean) := hC
  have hl : lv_has ls 2 [(0, .ref (q 0)), (1, .int a0)] := hl
  have hx := hC.1
  have hb := hC.2.1
  unfold f_X7_isBlock at h
  refine lv_iload_n hx hb dX7_isBlock_0 rfl (lv_at hl 1 rfl) ?_
  refine lv_if_lt (tgt := 16) hx hb dX7_isBlock_1 (by decide) (fun c => ?_) (fun c => ?_)
  · have h := if_t h c
    refine lv_iconst (v := 0) hx hb dX7_isBlock_16 (by decide) ?_
    cases h
    exact ret_z hC (Or.inl rfl) hw dX7_isBlock_17
  · have h := if_f h c
    refine lv_iload_n hx hb dX7_isBlock_4 rfl (lv_at hl 1 rfl) ?_
    refine lv_aload_n hx hb dX7_isBlock_5 rfl (lv_at hl 0 rfl) ?_
    refine M_g_X7_84 hC hw dX7_isBlock_6 ?_
    refine lv_icmp_ge (tgt := 16) hx hb dX7_isBlock_9 (by decide) (fun c => ?_) (fun c => ?_)
    · have h := if_t h c
      refine lv_iconst (v := 0) hx hb dX7_isBlock_16 (by decide) ?_
      cases h
      exact ret_z hC (Or.inl rfl) hw dX7_isBlock_17
    · have h := if_f h c
      refine lv_iconst (v := 1) hx hb dX7_isBlock_12 (by decide) ?_
      refine lv_goto (tgt := 17) hx hb dX7_isBlock_13 (by decide) ?_
      cases h
      exact ret_z hC (Or.inr rfl) hw dX7_isBlock_17
/-! SlideBoardsModel.blocked()I -/
abbrev rm_X7_blocked : Room := { frames := 0, cells := 0, slots := 0, locals := 0 }
def lp_X7_blocked_7 (N : Nat) (σ : St) : Nat → Int32 → Int32 → Option Int32
  | 0, _, _ => none
  | n + 1, x1, x2 => if (σ.1 4) ≤ x2 then (some x1) else (gd (okx x2 8) (nm (x1 ||| (ra σ 1 x2)) (fun y2 => nm (x2 + (1 : Int32)) (fun y3 => lp_X7_blocked_7 N σ n y2 y3))))
set_option maxRecDepth 100000 in
set_option maxHeartbeats 4000000 in
theorem w_X7_blocked_7 {p : Program} {l : Launch} {e : Env} {s : State} {m : MethodId} {below : List Frame} {meth : Method} {c : Code} {args : Array Value} {D : va_G} {q : Nat → Nat} {k : cK} {ws0 : va_W} (hC : Cx p s m meth c cX7_blocked RX7 3 (some .int)) (N : Nat) (σ : St) (r : Int32) :
    ∀ (n : Nat) (x1 : Int32) (x2 : Int32) (H : Heap) (locs : List Loc) (ls : Array Slot), lp_X7_blocked_7 N σ n x1 x2 = some r → WH D (MW q k σ) k (AQ ws0) s s.heap H locs → lv_has ls 3 [(0, .ref (q 0)), (1, .int x1), (2, .int x2)] → W p l e rm_X7_blocked s m args below meth c H locs 0 0 (MQ below (QR D ws0 (MW q k σ) (some (.int r))) args s 0 0 (AQ ws0)) (F0 m 7 ls []) := by
  have hx := hC.1
  have hb := hC.2.1
  intro n
  induction n with
  | zero =>
    intro x1 x2 H locs ls h
    cases h
  | succ n ih =>
    intro x1 x2 H locs ls h hw hl
    rw [lp_X7_blocked_7] at h
    refine lv_iload_n hx hb dX7_blocked_7 rfl (lv_at hl 2 rfl) ?_
    refine lv_aload_n hx hb dX7_blocked_8 rfl (lv_at hl 0 rfl) ?_
    refine M_g_X7_84 hC hw dX7_blocked_9 ?_
    refine lv_icmp_ge (tgt := 30) hx hb dX7_blocked_12 (by decide) (fun c => ?_) (fun c => ?_)
    · have h := if_t h c
      refine lv_iload_n hx hb dX7_blocked_30 rfl (lv_at hl 1 rfl) ?_
      cases h
      exact ret_i hC hw dX7_blocked_31
    · have h := if_f h c
      refine lv_iload_n hx hb dX7_blocked_15 rfl (lv_at hl 1 rfl) ?_
      refine lv_aload_n hx hb dX7_blocked_16 rfl (lv_at hl 0 rfl) ?_
      refine M_g_X7_13 hC hw dX7_blocked_17 ?_
      refine lv_iload_n hx hb dX7_blocked_20 rfl (lv_at hl 2 rfl) ?_
      obtain ⟨hin, h⟩ := gd_o h
      refine M_ld2 hC hw hin dX7_blocked_21 ?_
      refine lv_ior hx hb dX7_blocked_22 ?_
      refine lv_topi (fun y2 ey2 => ?_)
      have h := nm_o h y2 ey2
      refine lv_istore_n (lv' := [(1, .int y2), (0, .ref (q 0)), (2, .int x2)]) hx hb dX7_blocked_23 rfl hl (by decide) rfl (fun ls hl => ?_)
      obtain ⟨y3, ey3⟩ : ∃ y : Int32, y = x2 + (1 : Int32) := ⟨_, rfl⟩
      have h := nm_o h y3 ey3
      refine lv_iinc (v := y3) (lv' := [(2, .int y3), (1, .int y2), (0, .ref (q 0))]) hx hb dX7_blocked_24 hl (k := 2) rfl (by rw [ey3]; rfl) (by decide) rfl (fun ls hl => ?_)
      refine lv_goto (tgt := 7) hx hb dX7_blocked_27 (by decide) ?_
      exact ih y2 y3 _ _ ls h hw (lv_sub hl [2, 1, 0] rfl)
def f_X7_blocked (N : Nat) (σ : St) : Option Int32 :=
  nm (σ.1 3) (fun y1 => lp_X7_blocked_7 N σ N y1 (0 : Int32))
set_option maxRecDepth 100000 in
set_option maxHeartbeats 4000000 in
theorem c_X7_blocked (l : Launch) (D : va_G) (q : Nat → Nat) (k : cK) (N : Nat) (σ : St) (r : Int32) (h : f_X7_blocked N σ = some r) :
    Met l yX7_blocked [.code yX7_blocked cX7_blocked 3 (some .int)] rm_X7_blocked (PC D (MW q k σ) k [.ref (q 0)]) (QR D (MW q k σ) (MW q k σ) (some (.int r))) 0 0 (AQ (MW q k σ)) := by
  refine met_of (by decide) (Nat.le_of_ble_eq_true rfl) ?_
  intro p e s m below meth c hC hw ls hl
  have hC : Cx p s m meth c cX7_blocked RX7 3 (some .int) := hC
  have hl : lv_has ls 3 [(0, .ref (q 0))] := hl
  have hx := hC.1
  have hb := hC.2.1
  unfold f_X7_blocked at h
  refine lv_aload_n hx hb dX7_blocked_0 rfl (lv_at hl 0 rfl) ?_
  refine M_g_X7_87 hC hw dX7_blocked_1 ?_
  refine lv_topi (fun y1 ey1 => ?_)
  have h := nm_o h y1 ey1
  refine lv_istore_n (lv' := [(1, .int y1), (0, .ref (q 0))]) hx hb dX7_blocked_4 rfl hl (by decide) rfl (fun ls hl => ?_)
  refine lv_iconst (v := 0) hx hb dX7_blocked_5 (by decide) ?_
  refine lv_istore_n (lv' := [(2, .int (0 : Int32)), (1, .int y1), (0, .ref (q 0))]) hx hb dX7_blocked_6 rfl hl (by decide) rfl (fun ls hl => ?_)
  exact w_X7_blocked_7 hC N σ r N y1 (0 : Int32) _ _ ls h hw (lv_sub hl [2, 1, 0] rfl)
/-! SlideBoardsModel.wall(IIZ)Z -/
abbrev rm_X7_wall : Room := { frames := 1, cells := 0, slots := 0, locals := 22 }
def jn_X7_wall_51 (N : Nat) (σ : St) (x3 : Int32) (x4 : Int32) (w0 : Int32) : Option (Int32 × St) :=
  if w0 = x3 then (some ((0 : Int32), σ)) else (if x3 = 0 then (nm (sI σ 3 ((σ.1 3) ^^^ x4)) (fun σ5 => some ((1 : Int32), σ5))) else (bd1 (f_X7_blocked N σ) (fun r6 => if (r6 &&& x4) = 0 then (nm (sI σ 3 ((σ.1 3) ^^^ x4)) (fun σ7 => some ((1 : Int32), σ7))) else (some ((0 : Int32), σ)))))
set_option maxRecDepth 100000 in
set_option maxHeartbeats 4000000 in
theorem w_X7_wall_51 {p : Program} {l : Launch} {e : Env} {s : State} {m : MethodId} {below : List Frame} {meth : Method} {c : Code} {args : Array Value} {D : va_G} {q : Nat → Nat} {k : cK} {ws0 : va_W} (hC : Cx p s m meth c cX7_wall RX7 5 (some .boolean)) (N : Nat) (σ : St) (x3 : Int32) (x4 : Int32) (w0 : Int32) (r : Int32) (σ' : St) :
    ∀ (H : Heap) (locs : List Loc) (ls : Array Slot), jn_X7_wall_51 N σ x3 x4 w0 = some (r, σ') → WH D (MW q k σ) k (AQ ws0) s s.heap H locs → lv_has ls 5 [(0, .ref (q 0)), (3, .int x3), (4, .int x4)] → W p l e rm_X7_wall s m args below meth c H locs 0 0 (MQ below (QR D ws0 (MW q k σ') (some (.int r))) args s 0 0 (AQ ws0)) (F0 m 51 ls [.int w0]) := by
  have hx := hC.1
  have hb := hC.2.1
  intro H locs ls h hw hl
  unfold jn_X7_wall_51 at h
  refine lv_iload_n hx hb dX7_wall_51 rfl (lv_at hl 1 rfl) ?_
  refine lv_icmp_eq (tgt := 69) hx hb dX7_wall_52 (by decide) (fun c => ?_) (fun c => ?_)
  · have h := if_t h c
    refine lv_iconst (v := 0) hx hb dX7_wall_69 (by decide) ?_
    cases h
    exact ret_z hC (Or.inl rfl) hw dX7_wall_70
  · have h := if_f h c
    refine lv_iload_n hx hb dX7_wall_55 rfl (lv_at hl 1 rfl) ?_
    refine lv_if_eq (tgt := 71) hx hb dX7_wall_56 (by decide) (fun c => ?_) (fun c => ?_)
    · have h := if_t h c
      refine lv_aload_n hx hb dX7_wall_71 rfl (lv_at hl 0 rfl) ?_
      refine lv_aload_n hx hb dX7_wall_72 rfl (lv_at hl 0 rfl) ?_
      refine M_g_X7_87 hC hw dX7_wall_73 ?_
      refine lv_iload hx hb dX7_wall_76 (lv_at hl 2 rfl) ?_
      refine lv_ixor hx hb dX7_wall_78 ?_
      refine M_p_X7_87 hC hw dX7_wall_79 (fun σ5 eσ5 H locs hw => ?_)
      have h := nm_o h σ5 eσ5
      refine lv_iconst (v := 1) hx hb dX7_wall_82 (by decide) ?_
      cases h
      exact ret_z hC (Or.inr rfl) hw dX7_wall_83
    · have h := if_f h c
      refine lv_aload_n hx hb dX7_wall_59 rfl (lv_at hl 0 rfl) ?_
      obtain ⟨r6, hc, h⟩ := bd1_o h
      refine go_i (run_V (As := []) (rest := []) hC hw (c_X7_blocked l D q k N σ r6 hc) kw_254 kw_256 kw_257 kw_246 kw_255 hd_X7_blocked ⟨rfl, rfl⟩ ⟨Nat.le_of_ble_eq_true rfl, Nat.le_of_ble_eq_true rfl⟩ 0 rfl rfl rfl hl.1 rfl (Nat.le_of_ble_eq_true rfl) dX7_wall_60 ⟨Nat.zero_le _, Nat.zero_le _⟩) hw (fun H locs hw => ?_)
      refine lv_iload hx hb dX7_wall_63 (lv_at hl 2 rfl) ?_
      refine lv_iand hx hb dX7_wall_65 ?_
      refine lv_if_eq (tgt := 71) hx hb dX7_wall_66 (by decide) (fun c => ?_) (fun c => ?_)
      · have h := if_t h c
        refine lv_aload_n hx hb dX7_wall_71 rfl (lv_at hl 0 rfl) ?_
        refine lv_aload_n hx hb dX7_wall_72 rfl (lv_at hl 0 rfl) ?_
        refine M_g_X7_87 hC hw dX7_wall_73 ?_
        refine lv_iload hx hb dX7_wall_76 (lv_at hl 2 rfl) ?_
        refine lv_ixor hx hb dX7_wall_78 ?_
        refine M_p_X7_87 hC hw dX7_wall_79 (fun σ7 eσ7 H locs hw => ?_)
        have h := nm_o h σ7 eσ7
        refine lv_iconst (v := 1) hx hb dX7_wall_82 (by decide) ?_
        cases h
        exact ret_z hC (Or.inr rfl) hw dX7_wall_83
      · have h := if_f h c
        refine lv_iconst (v := 0) hx hb dX7_wall_69 (by decide) ?_
        cases h
        exact ret_z hC (Or.inl rfl) hw dX7_wall_70
def jn_X7_wall_16 (N : Nat) (σ : St) (x1 : Int32) (x2 : Int32) (x3 : Int32) (w0 : Int32) (w1 : Int32) : Option (Int32 × St) :=
  bd (f_X7_throwsIf N σ w1 w0) (fun r2 σ3 => if r2 = 0 then (nm (jshl (1 : Int32) (((σ3.1 1) * x2) + x1)) (fun y4 => if ((σ3.1 3) &&& y4) = 0 then (jn_X7_wall_51 N σ3 x3 y4 (0 : Int32)) else (jn_X7_wall_51 N σ3 x3 y4 (1 : Int32)))) else (some ((0 : Int32), σ3)))
set_option maxRecDepth 100000 in
set_option maxHeartbeats 4000000 in
theorem w_X7_wall_16 {p : Program} {l : Launch} {e : Env} {s : State} {m : MethodId} {below : List Frame} {meth : Method} {c : Code} {args : Array Value} {D : va_G} {q : Nat → Nat} {k : cK} {ws0 : va_W} (hC : Cx p s m meth c cX7_wall RX7 5 (some .boolean)) (N : Nat) (σ : St) (x1 : Int32) (x2 : Int32) (x3 : Int32) (w0 : Int32) (w1 : Int32) (r : Int32) (σ' : St) :
    ∀ (H : Heap) (locs : List Loc) (ls : Array Slot), jn_X7_wall_16 N σ x1 x2 x3 w0 w1 = some (r, σ') → WH D (MW q k σ) k (AQ ws0) s s.heap H locs → lv_has ls 5 [(0, .ref (q 0)), (1, .int x1), (2, .int x2), (3, .int x3)] → W p l e rm_X7_wall s m args below meth c H locs 0 0 (MQ below (QR D ws0 (MW q k σ') (some (.int r))) args s 0 0 (AQ ws0)) (F0 m 16 ls [.int w0, .int w1, .ref (q 0)]) := by
  have hx := hC.1
  have hb := hC.2.1
  intro H locs ls h hw hl
  unfold jn_X7_wall_16 at h
  obtain ⟨r2, σ3, hc, h⟩ := bd_o h
  refine go_i (run_V (As := [.int w1, .int w0]) (rest := []) hC hw (c_X7_throwsIf l D q k N σ w1 w0 r2 σ3 hc) kw_250 kw_252 kw_253 kw_246 kw_251 hd_X7_throwsIf ⟨rfl, rfl⟩ ⟨Nat.le_of_ble_eq_true rfl, Nat.le_of_ble_eq_true rfl⟩ 0 rfl rfl rfl hl.1 rfl (Nat.le_of_ble_eq_true rfl) dX7_wall_16 ⟨Nat.zero_le _, Nat.zero_le _⟩) hw (fun H locs hw => ?_)
  refine lv_if_eq (tgt := 24) hx hb dX7_wall_19 (by decide) (fun c => ?_) (fun c => ?_)
  · have h := if_t h c
    refine lv_iconst (v := 1) hx hb dX7_wall_24 (by decide) ?_
    refine lv_aload_n hx hb dX7_wall_25 rfl (lv_at hl 0 rfl) ?_
    refine M_g_X7_74 hC hw dX7_wall_26 ?_
    refine lv_iload_n hx hb dX7_wall_29 rfl (lv_at hl 2 rfl) ?_
    refine lv_imul hx hb dX7_wall_30 ?_
    refine lv_iload_n hx hb dX7_wall_31 rfl (lv_at hl 1 rfl) ?_
    refine lv_iadd hx hb dX7_wall_32 ?_
    refine lv_ishl hx hb dX7_wall_33 ?_
    refine lv_topi (fun y4 ey4 => ?_)
    have h := nm_o h y4 ey4
    refine lv_istore (lv' := [(4, .int y4), (0, .ref (q 0)), (1, .int x1), (2, .int x2), (3, .int x3)]) hx hb dX7_wall_34 hl (by decide) rfl (fun ls hl => ?_)
    refine lv_aload_n hx hb dX7_wall_36 rfl (lv_at hl 1 rfl) ?_
    refine M_g_X7_87 hC hw dX7_wall_37 ?_
    refine lv_iload hx hb dX7_wall_40 (lv_at hl 0 rfl) ?_
    refine lv_iand hx hb dX7_wall_42 ?_
    refine lv_if_eq (tgt := 50) hx hb dX7_wall_43 (by decide) (fun c => ?_) (fun c => ?_)
    · have h := if_t h c
      refine lv_iconst (v := 0) hx hb dX7_wall_50 (by decide) ?_
      exact w_X7_wall_51 hC N σ3 x3 y4 (0 : Int32) r σ' _ _ ls h hw (lv_sub hl [1, 4, 0] rfl)
    · have h := if_f h c
      refine lv_iconst (v := 1) hx hb dX7_wall_46 (by decide) ?_
      refine lv_goto (tgt := 51) hx hb dX7_wall_47 (by decide) ?_
      exact w_X7_wall_51 hC N σ3 x3 y4 (1 : Int32) r σ' _ _ ls h hw (lv_sub hl [1, 4, 0] rfl)
  · have h := if_f h c
    refine lv_iconst (v := 0) hx hb dX7_wall_22 (by decide) ?_
    cases h
    exact ret_z hC (Or.inl rfl) hw dX7_wall_23
def f_X7_wall (N : Nat) (σ : St) (a0 : Int32) (a1 : Int32) (a2 : Int32) : Option (Int32 × St) :=
  bd1 (f_X7_isCell N σ a0 a1) (fun r1 => if r1 = 0 then (jn_X7_wall_16 N σ a0 a1 a2 (1 : Int32) (1 : Int32)) else (jn_X7_wall_16 N σ a0 a1 a2 (0 : Int32) (1 : Int32)))
set_option maxRecDepth 100000 in
set_option maxHeartbeats 4000000 in
theorem c_X7_wall (l : Launch) (D : va_G) (q : Nat → Nat) (k : cK) (N : Nat) (σ : St) (a0 : Int32) (a1 : Int32) (a2 : Int32) (r : Int32) (σ' : St) (h : f_X7_wall N σ a0 a1 a2 = some (r, σ')) :
    Met l yX7_wall [.code yX7_wall cX7_wall 5 (some .boolean)] rm_X7_wall (PC D (MW q k σ) k [.ref (q 0), .int a0, .int a1, .int a2]) (QR D (MW q k σ) (MW q k σ') (some (.int r))) 0 0 (AQ (MW q k σ)) := by
  refine met_of (by decide) (Nat.le_of_ble_eq_true rfl) ?_
  intro p e s m below meth c hC hw ls hl
  have hC : Cx p s m meth c cX7_wall RX7 5 (some .boolean) := hC
  have hl : lv_has ls 5 [(0, .ref (q 0)), (1, .int a0), (2, .int a1), (3, .int a2)] := hl
  have hx := hC.1
  have hb := hC.2.1
  unfold f_X7_wall at h
  refine lv_aload_n hx hb dX7_wall_0 rfl (lv_at hl 0 rfl) ?_
  refine lv_iconst (v := 1) hx hb dX7_wall_1 (by decide) ?_
  refine lv_aload_n hx hb dX7_wall_2 rfl (lv_at hl 0 rfl) ?_
  refine lv_iload_n hx hb dX7_wall_3 rfl (lv_at hl 1 rfl) ?_
  refine lv_iload_n hx hb dX7_wall_4 rfl (lv_at hl 2 rfl) ?_
  obtain ⟨r1, hc, h⟩ := bd1_o h
  refine go_i (run_V (As := [.int a0, .int a1]) (rest := [.int (1 : Int32), .ref (q 0)]) hC hw (c_X7_isCell l D q k N σ a0 a1 r1 hc) kw_245 kw_248 kw_249 kw_246 kw_247 hd_X7_isCell ⟨rfl, rfl⟩ ⟨Nat.le_of_ble_eq_true rfl, Nat.le_of_ble_eq_true rfl⟩ 0 rfl rfl rfl hl.1 rfl (Nat.le_of_ble_eq_true rfl) dX7_wall_5 ⟨Nat.zero_le _, Nat.zero_le _⟩) hw (fun H locs hw => ?_)
  refine lv_if_ne (tgt := 15) hx hb dX7_wall_8 (by decide) (fun c => ?_) (fun c => ?_)
  · have h := if_f h c
    refine lv_iconst (v := 0) hx hb dX7_wall_15 (by decide) ?_
    exact w_X7_wall_16 hC N σ a0 a1 a2 (0 : Int32) (1 : Int32) r σ' _ _ ls h hw (lv_sub hl [0, 1, 2, 3] rfl)
  · have h := if_t h c
    refine lv_iconst (v := 1) hx hb dX7_wall_11 (by decide) ?_
    refine lv_goto (tgt := 16) hx hb dX7_wall_12 (by decide) ?_
    exact w_X7_wall_16 hC N σ a0 a1 a2 (1 : Int32) (1 : Int32) r σ' _ _ ls h hw (lv_sub hl [0, 1, 2, 3] rfl)
/-! SlideBoardsModel.block(I)I -/
abbrev rm_X7_block : Room := { frames := 1, cells := 0, slots := 0, locals := 22 }
def jn_X7_block_17 (N : Nat) (σ : St) (x1 : Int32) (w0 : Int32) (w1 : Int32) : Option (Int32 × St) :=
  bd (f_X7_throwsIf N σ w1 w0) (fun r1 σ2 => if r1 = 0 then (if (σ2.1 4) = (8 : Int32) then (some ((-1 : Int32), σ2)) else (gd (okx (σ2.1 4) 8) (nm (sA σ2 0 (σ2.1 4) x1) (fun σ3 => gd (okx (σ3.1 4) 8) (nm (sA σ3 1 (σ3.1 4) (0 : Int32)) (fun σ4 => nm (sI σ4 4 ((σ4.1 4) + (1 : Int32))) (fun σ5 => some ((σ5.1 4) - (1 : Int32), σ5)))))))) else (some ((0 : Int32), σ2)))
set_option maxRecDepth 100000 in
set_option maxHeartbeats 4000000 in
theorem w_X7_block_17 {p : Program} {l : Launch} {e : Env} {s : State} {m : MethodId} {below : List Frame} {meth : Method} {c : Code} {args : Array Value} {D : va_G} {q : Nat → Nat} {k : cK} {ws0 : va_W} (hC : Cx p s m meth c cX7_block RX7 2 (some .int)) (N : Nat) (σ : St) (x1 : Int32) (w0 : Int32) (w1 : Int32) (r : Int32) (σ' : St) :
    ∀ (H : Heap) (locs : List Loc) (ls : Array Slot), jn_X7_block_17 N σ x1 w0 w1 = some (r, σ') → WH D (MW q k σ) k (AQ ws0) s s.heap H locs → lv_has ls 2 [(0, .ref (q 0)), (1, .int x1)] → W p l e rm_X7_block s m args below meth c H locs 0 0 (MQ below (QR D ws0 (MW q k σ') (some (.int r))) args s 0 0 (AQ ws0)) (F0 m 17 ls [.int w0, .int w1, .ref (q 0)]) := by
  have hx := hC.1
  have hb := hC.2.1
  intro H locs ls h hw hl
  unfold jn_X7_block_17 at h
  obtain ⟨r1, σ2, hc, h⟩ := bd_o h
  refine go_i (run_V (As := [.int w1, .int w0]) (rest := []) hC hw (c_X7_throwsIf l D q k N σ w1 w0 r1 σ2 hc) kw_250 kw_252 kw_253 kw_246 kw_251 hd_X7_throwsIf ⟨rfl, rfl⟩ ⟨Nat.le_of_ble_eq_true rfl, Nat.le_of_ble_eq_true rfl⟩ 0 rfl rfl rfl hl.1 rfl (Nat.le_of_ble_eq_true rfl) dX7_block_17 ⟨Nat.zero_le _, Nat.zero_le _⟩) hw (fun H locs hw => ?_)
  refine lv_if_eq (tgt := 25) hx hb dX7_block_20 (by decide) (fun c => ?_) (fun c => ?_)
  · have h := if_t h c
    refine lv_aload_n hx hb dX7_block_25 rfl (lv_at hl 0 rfl) ?_
    refine M_g_X7_84 hC hw dX7_block_26 ?_
    refine lv_bipush (v := 8) hx hb dX7_block_29 (by decide) ?_
    refine lv_icmp_ne (tgt := 36) hx hb dX7_block_31 (by decide) (fun c => ?_) (fun c => ?_)
    · have h := if_f h c
      refine lv_aload_n hx hb dX7_block_36 rfl (lv_at hl 0 rfl) ?_
      refine M_g_X7_7 hC hw dX7_block_37 ?_
      refine lv_aload_n hx hb dX7_block_40 rfl (lv_at hl 0 rfl) ?_
      refine M_g_X7_84 hC hw dX7_block_41 ?_
      refine lv_iload_n hx hb dX7_block_44 rfl (lv_at hl 1 rfl) ?_
      obtain ⟨hin, h⟩ := gd_o h
      refine M_st1 hC hw hin dX7_block_45 (fun σ3 eσ3 H locs hw => ?_)
      have h := nm_o h σ3 eσ3
      refine lv_aload_n hx hb dX7_block_46 rfl (lv_at hl 0 rfl) ?_
      refine M_g_X7_13 hC hw dX7_block_47 ?_
      refine lv_aload_n hx hb dX7_block_50 rfl (lv_at hl 0 rfl) ?_
      refine M_g_X7_84 hC hw dX7_block_51 ?_
      refine lv_iconst (v := 0) hx hb dX7_block_54 (by decide) ?_
      obtain ⟨hin, h⟩ := gd_o h
      refine M_st2 hC hw hin dX7_block_55 (fun σ4 eσ4 H locs hw => ?_)
      have h := nm_o h σ4 eσ4
      refine lv_aload_n hx hb dX7_block_56 rfl (lv_at hl 0 rfl) ?_
      refine lv_dup hx hb dX7_block_57 rfl ?_
      refine M_g_X7_84 hC hw dX7_block_58 ?_
      refine lv_iconst (v := 1) hx hb dX7_block_61 (by decide) ?_
      refine lv_iadd hx hb dX7_block_62 ?_
      refine M_p_X7_84 hC hw dX7_block_63 (fun σ5 eσ5 H locs hw => ?_)
      have h := nm_o h σ5 eσ5
      refine lv_aload_n hx hb dX7_block_66 rfl (lv_at hl 0 rfl) ?_
      refine M_g_X7_84 hC hw dX7_block_67 ?_
      refine lv_iconst (v := 1) hx hb dX7_block_70 (by decide) ?_
      refine lv_isub hx hb dX7_block_71 ?_
      cases h
      exact ret_i hC hw dX7_block_72
    · have h := if_t h c
      refine lv_iconst (v := -1) hx hb dX7_block_34 (by decide) ?_
      cases h
      exact ret_i hC hw dX7_block_35
  · have h := if_f h c
    refine lv_iconst (v := 0) hx hb dX7_block_23 (by decide) ?_
    cases h
    exact ret_i hC hw dX7_block_24
def jn_X7_block_12 (N : Nat) (σ : St) (x1 : Int32) (w0 : Int32) : Option (Int32 × St) :=
  jn_X7_block_17 N σ x1 (1 : Int32) w0
set_option maxRecDepth 100000 in
set_option maxHeartbeats 4000000 in
theorem w_X7_block_12 {p : Program} {l : Launch} {e : Env} {s : State} {m : MethodId} {below : List Frame} {meth : Method} {c : Code} {args : Array Value} {D : va_G} {q : Nat → Nat} {k : cK} {ws0 : va_W} (hC : Cx p s m meth c cX7_block RX7 2 (some .int)) (N : Nat) (σ : St) (x1 : Int32) (w0 : Int32) (r : Int32) (σ' : St) :
    ∀ (H : Heap) (locs : List Loc) (ls : Array Slot), jn_X7_block_12 N σ x1 w0 = some (r, σ') → WH D (MW q k σ) k (AQ ws0) s s.heap H locs → lv_has ls 2 [(0, .ref (q 0)), (1, .int x1)] → W p l e rm_X7_block s m args below meth c H locs 0 0 (MQ below (QR D ws0 (MW q k σ') (some (.int r))) args s 0 0 (AQ ws0)) (F0 m 12 ls [.int w0, .ref (q 0)]) := by
  have hx := hC.1
  have hb := hC.2.1
  intro H locs ls h hw hl
  unfold jn_X7_block_12 at h
  refine lv_iconst (v := 1) hx hb dX7_block_12 (by decide) ?_
  refine lv_goto (tgt := 17) hx hb dX7_block_13 (by decide) ?_
  exact w_X7_block_17 hC N σ x1 (1 : Int32) w0 r σ' _ _ ls h hw (lv_sub hl [0, 1] rfl)
def f_X7_block (N : Nat) (σ : St) (a0 : Int32) : Option (Int32 × St) :=
  if a0 < 0 then (jn_X7_block_12 N σ a0 (1 : Int32)) else (if a0 ≤ (25 : Int32) then (jn_X7_block_17 N σ a0 (0 : Int32) (1 : Int32)) else (jn_X7_block_12 N σ a0 (1 : Int32)))
set_option maxRecDepth 100000 in
set_option maxHeartbeats 4000000 in
theorem c_X7_block (l : Launch) (D : va_G) (q : Nat → Nat) (k : cK) (N : Nat) (σ : St) (a0 : Int32) (r : Int32) (σ' : St) (h : f_X7_block N σ a0 = some (r, σ')) :
    Met l yX7_block [.code yX7_block cX7_block 2 (some .int)] rm_X7_block (PC D (MW q k σ) k [.ref (q 0), .int a0]) (QR D (MW q k σ) (MW q k σ') (some (.int r))) 0 0 (AQ (MW q k σ)) := by
  refine met_of (by decide) (Nat.le_of_ble_eq_true rfl) ?_
  intro p e s m below meth c hC hw ls hl
  have hC : Cx p s m meth c cX7_block RX7 2 (some .int) := hC
  have hl : lv_has ls 2 [(0, .ref (q 0)), (1, .int a0)] := hl
  have hx := hC.1
  have hb := hC.2.1
  unfold f_X7_block at h
  refine lv_aload_n hx hb dX7_block_0 rfl (lv_at hl 0 rfl) ?_
  refine lv_iconst (v := 1) hx hb dX7_block_1 (by decide) ?_
  refine lv_iload_n hx hb dX7_block_2 rfl (lv_at hl 1 rfl) ?_
  refine lv_if_lt (tgt := 12) hx hb dX7_block_3 (by decide) (fun c => ?_) (fun c => ?_)
  · have h := if_t h c
    exact w_X7_block_12 hC N σ a0 (1 : Int32) r σ' _ _ ls h hw (lv_sub hl [0, 1] rfl)
  · have h := if_f h c
    refine lv_iload_n hx hb dX7_block_6 rfl (lv_at hl 1 rfl) ?_
    refine lv_bipush (v := 25) hx hb dX7_block_7 (by decide) ?_
    refine lv_icmp_le (tgt := 16) hx hb dX7_block_9 (by decide) (fun c => ?_) (fun c => ?_)
    · have h := if_t h c
      refine lv_iconst (v := 0) hx hb dX7_block_16 (by decide) ?_
      exact w_X7_block_17 hC N σ a0 (0 : Int32) (1 : Int32) r σ' _ _ ls h hw (lv_sub hl [0, 1] rfl)
    · have h := if_f h c
      exact w_X7_block_12 hC N σ a0 (1 : Int32) r σ' _ _ ls h hw (lv_sub hl [0, 1] rfl)
/-! SlideBoardsModel.cell(III)Z -/
abbrev rm_X7_cell : Room := { frames := 1, cells := 0, slots := 0, locals := 22 }
def jn_X7_cell_24 (N : Nat) (σ : St) (x1 : Int32) (x2 : Int32) (x3 : Int32) (w0 : Int32) (w1 : Int32) : Option (Int32 × St) :=
  bd (f_X7_throwsIf N σ w1 w0) (fun r2 σ3 => if r2 = 0 then (nm (jshl (1 : Int32) (((σ3.1 1) * x3) + x2)) (fun y4 => bd1 (f_X7_blocked N σ3) (fun r5 => if (r5 &&& y4) = 0 then (gd (okx x1 8) (gd (okx x1 8) (nm (sA σ3 1 x1 ((ra σ3 1 x1) ||| y4)) (fun σ6 => some ((1 : Int32), σ6))))) else (some ((0 : Int32), σ3))))) else (some ((0 : Int32), σ3)))
set_option maxRecDepth 100000 in
set_option maxHeartbeats 4000000 in
theorem w_X7_cell_24 {p : Program} {l : Launch} {e : Env} {s : State} {m : MethodId} {below : List Frame} {meth : Method} {c : Code} {args : Array Value} {D : va_G} {q : Nat → Nat} {k : cK} {ws0 : va_W} (hC : Cx p s m meth c cX7_cell RX7 5 (some .boolean)) (N : Nat) (σ : St) (x1 : Int32) (x2 : Int32) (x3 : Int32) (w0 : Int32) (w1 : Int32) (r : Int32) (σ' : St) :
    ∀ (H : Heap) (locs : List Loc) (ls : Array Slot), jn_X7_cell_24 N σ x1 x2 x3 w0 w1 = some (r, σ') → WH D (MW q k σ) k (AQ ws0) s s.heap H locs → lv_has ls 5 [(0, .ref (q 0)), (1, .int x1), (2, .int x2), (3, .int x3)] → W p l e rm_X7_cell s m args below meth c H locs 0 0 (MQ below (QR D ws0 (MW q k σ') (some (.int r))) args s 0 0 (AQ ws0)) (F0 m 24 ls [.int w0, .int w1, .ref (q 0)]) := by
  have hx := hC.1
  have hb := hC.2.1
  intro H locs ls h hw hl
  unfold jn_X7_cell_24 at h
  obtain ⟨r2, σ3, hc, h⟩ := bd_o h
  refine go_i (run_V (As := [.int w1, .int w0]) (rest := []) hC hw (c_X7_throwsIf l D q k N σ w1 w0 r2 σ3 hc) kw_250 kw_252 kw_253 kw_246 kw_251 hd_X7_throwsIf ⟨rfl, rfl⟩ ⟨Nat.le_of_ble_eq_true rfl, Nat.le_of_ble_eq_true rfl⟩ 0 rfl rfl rfl hl.1 rfl (Nat.le_of_ble_eq_true rfl) dX7_cell_24 ⟨Nat.zero_le _, Nat.zero_le _⟩) hw (fun H locs hw => ?_)
  refine lv_if_eq (tgt := 32) hx hb dX7_cell_27 (by decide) (fun c => ?_) (fun c => ?_)
  · have h := if_t h c
    refine lv_iconst (v := 1) hx hb dX7_cell_32 (by decide) ?_
    refine lv_aload_n hx hb dX7_cell_33 rfl (lv_at hl 0 rfl) ?_
    refine M_g_X7_74 hC hw dX7_cell_34 ?_
    refine lv_iload_n hx hb dX7_cell_37 rfl (lv_at hl 3 rfl) ?_
    refine lv_imul hx hb dX7_cell_38 ?_
    refine lv_iload_n hx hb dX7_cell_39 rfl (lv_at hl 2 rfl) ?_
    refine lv_iadd hx hb dX7_cell_40 ?_
    refine lv_ishl hx hb dX7_cell_41 ?_
    refine lv_topi (fun y4 ey4 => ?_)
    have h := nm_o h y4 ey4
    refine lv_istore (lv' := [(4, .int y4), (0, .ref (q 0)), (1, .int x1), (2, .int x2), (3, .int x3)]) hx hb dX7_cell_42 hl (by decide) rfl (fun ls hl => ?_)
    refine lv_aload_n hx hb dX7_cell_44 rfl (lv_at hl 1 rfl) ?_
    obtain ⟨r5, hc, h⟩ := bd1_o h
    refine go_i (run_V (As := []) (rest := []) hC hw (c_X7_blocked l D q k N σ3 r5 hc) kw_254 kw_256 kw_257 kw_246 kw_255 hd_X7_blocked ⟨rfl, rfl⟩ ⟨Nat.le_of_ble_eq_true rfl, Nat.le_of_ble_eq_true rfl⟩ 0 rfl rfl rfl hl.1 rfl (Nat.le_of_ble_eq_true rfl) dX7_cell_45 ⟨Nat.zero_le _, Nat.zero_le _⟩) hw (fun H locs hw => ?_)
    refine lv_iload hx hb dX7_cell_48 (lv_at hl 0 rfl) ?_
    refine lv_iand hx hb dX7_cell_50 ?_
    refine lv_if_eq (tgt := 56) hx hb dX7_cell_51 (by decide) (fun c => ?_) (fun c => ?_)
    · have h := if_t h c
      refine lv_aload_n hx hb dX7_cell_56 rfl (lv_at hl 1 rfl) ?_
      refine M_g_X7_13 hC hw dX7_cell_57 ?_
      refine lv_iload_n hx hb dX7_cell_60 rfl (lv_at hl 2 rfl) ?_
      refine lv_aload_n hx hb dX7_cell_61 rfl (lv_at hl 1 rfl) ?_
      refine M_g_X7_13 hC hw dX7_cell_62 ?_
      refine lv_iload_n hx hb dX7_cell_65 rfl (lv_at hl 2 rfl) ?_
      obtain ⟨hin, h⟩ := gd_o h
      refine M_ld2 hC hw hin dX7_cell_66 ?_
      refine lv_iload hx hb dX7_cell_67 (lv_at hl 0 rfl) ?_
      refine lv_ior hx hb dX7_cell_69 ?_
      obtain ⟨hin, h⟩ := gd_o h
      refine M_st2 hC hw hin dX7_cell_70 (fun σ6 eσ6 H locs hw => ?_)
      have h := nm_o h σ6 eσ6
      refine lv_iconst (v := 1) hx hb dX7_cell_71 (by decide) ?_
      cases h
      exact ret_z hC (Or.inr rfl) hw dX7_cell_72
    · have h := if_f h c
      refine lv_iconst (v := 0) hx hb dX7_cell_54 (by decide) ?_
      cases h
      exact ret_z hC (Or.inl rfl) hw dX7_cell_55
  · have h := if_f h c
    refine lv_iconst (v := 0) hx hb dX7_cell_30 (by decide) ?_
    cases h
    exact ret_z hC (Or.inl rfl) hw dX7_cell_31
def jn_X7_cell_19 (N : Nat) (σ : St) (x1 : Int32) (x2 : Int32) (x3 : Int32) (w0 : Int32) : Option (Int32 × St) :=
  jn_X7_cell_24 N σ x1 x2 x3 (1 : Int32) w0
set_option maxRecDepth 100000 in
set_option maxHeartbeats 4000000 in
theorem w_X7_cell_19 {p : Program} {l : Launch} {e : Env} {s : State} {m : MethodId} {below : List Frame} {meth : Method} {c : Code} {args : Array Value} {D : va_G} {q : Nat → Nat} {k : cK} {ws0 : va_W} (hC : Cx p s m meth c cX7_cell RX7 5 (some .boolean)) (N : Nat) (σ : St) (x1 : Int32) (x2 : Int32) (x3 : Int32) (w0 : Int32) (r : Int32) (σ' : St) :
    ∀ (H : Heap) (locs : List Loc) (ls : Array Slot), jn_X7_cell_19 N σ x1 x2 x3 w0 = some (r, σ') → WH D (MW q k σ) k (AQ ws0) s s.heap H locs → lv_has ls 5 [(0, .ref (q 0)), (1, .int x1), (2, .int x2), (3, .int x3)] → W p l e rm_X7_cell s m args below meth c H locs 0 0 (MQ below (QR D ws0 (MW q k σ') (some (.int r))) args s 0 0 (AQ ws0)) (F0 m 19 ls [.int w0, .ref (q 0)]) := by
  have hx := hC.1
  have hb := hC.2.1
  intro H locs ls h hw hl
  unfold jn_X7_cell_19 at h
  refine lv_iconst (v := 1) hx hb dX7_cell_19 (by decide) ?_
  refine lv_goto (tgt := 24) hx hb dX7_cell_20 (by decide) ?_
  exact w_X7_cell_24 hC N σ x1 x2 x3 (1 : Int32) w0 r σ' _ _ ls h hw (lv_sub hl [0, 1, 2, 3] rfl)
def f_X7_cell (N : Nat) (σ : St) (a0 : Int32) (a1 : Int32) (a2 : Int32) : Option (Int32 × St) :=
  bd1 (f_X7_isBlock N σ a0) (fun r1 => if r1 = 0 then (jn_X7_cell_19 N σ a0 a1 a2 (1 : Int32)) else (bd1 (f_X7_isCell N σ a1 a2) (fun r7 => if r7 = 0 then (jn_X7_cell_19 N σ a0 a1 a2 (1 : Int32)) else (jn_X7_cell_24 N σ a0 a1 a2 (0 : Int32) (1 : Int32)))))
set_option maxRecDepth 100000 in
set_option maxHeartbeats 4000000 in
theorem c_X7_cell (l : Launch) (D : va_G) (q : Nat → Nat) (k : cK) (N : Nat) (σ : St) (a0 : Int32) (a1 : Int32) (a2 : Int32) (r : Int32) (σ' : St) (h : f_X7_cell N σ a0 a1 a2 = some (r, σ')) :
    Met l yX7_cell [.code yX7_cell cX7_cell 5 (some .boolean)] rm_X7_cell (PC D (MW q k σ) k [.ref (q 0), .int a0, .int a1, .int a2]) (QR D (MW q k σ) (MW q k σ') (some (.int r))) 0 0 (AQ (MW q k σ)) := by
  refine met_of (by decide) (Nat.le_of_ble_eq_true rfl) ?_
  intro p e s m below meth c hC hw ls hl
  have hC : Cx p s m meth c cX7_cell RX7 5 (some .boolean) := hC
  have hl : lv_has ls 5 [(0, .ref (q 0)), (1, .int a0), (2, .int a1), (3, .int a2)] := hl
  have hx := hC.1
  have hb := hC.2.1
  unfold f_X7_cell at h
  refine lv_aload_n hx hb dX7_cell_0 rfl (lv_at hl 0 rfl) ?_
  refine lv_iconst (v := 1) hx hb dX7_cell_1 (by decide) ?_
  refine lv_aload_n hx hb dX7_cell_2 rfl (lv_at hl 0 rfl) ?_
  refine lv_iload_n hx hb dX7_cell_3 rfl (lv_at hl 1 rfl) ?_
  obtain ⟨r1, hc, h⟩ := bd1_o h
  refine go_i (run_V (As := [.int a0]) (rest := [.int (1 : Int32), .ref (q 0)]) hC hw (c_X7_isBlock l D q k N σ a0 r1 hc) kw_258 kw_260 kw_261 kw_246 kw_259 hd_X7_isBlock ⟨rfl, rfl⟩ ⟨Nat.le_of_ble_eq_true rfl, Nat.le_of_ble_eq_true rfl⟩ 0 rfl rfl rfl hl.1 rfl (Nat.le_of_ble_eq_true rfl) dX7_cell_4 ⟨Nat.zero_le _, Nat.zero_le _⟩) hw (fun H locs hw => ?_)
  refine lv_if_eq (tgt := 19) hx hb dX7_cell_7 (by decide) (fun c => ?_) (fun c => ?_)
  · have h := if_t h c
    exact w_X7_cell_19 hC N σ a0 a1 a2 (1 : Int32) r σ' _ _ ls h hw (lv_sub hl [0, 1, 2, 3] rfl)
  · have h := if_f h c
    refine lv_aload_n hx hb dX7_cell_10 rfl (lv_at hl 0 rfl) ?_
    refine lv_iload_n hx hb dX7_cell_11 rfl (lv_at hl 2 rfl) ?_
    refine lv_iload_n hx hb dX7_cell_12 rfl (lv_at hl 3 rfl) ?_
    obtain ⟨r7, hc, h⟩ := bd1_o h
    refine go_i (run_V (As := [.int a1, .int a2]) (rest := [.int (1 : Int32), .ref (q 0)]) hC hw (c_X7_isCell l D q k N σ a1 a2 r7 hc) kw_245 kw_248 kw_249 kw_246 kw_247 hd_X7_isCell ⟨rfl, rfl⟩ ⟨Nat.le_of_ble_eq_true rfl, Nat.le_of_ble_eq_true rfl⟩ 0 rfl rfl rfl hl.1 rfl (Nat.le_of_ble_eq_true rfl) dX7_cell_13 ⟨Nat.zero_le _, Nat.zero_le _⟩) hw (fun H locs hw => ?_)
    refine lv_if_ne (tgt := 23) hx hb dX7_cell_16 (by decide) (fun c => ?_) (fun c => ?_)
    · have h := if_f h c
      refine lv_iconst (v := 0) hx hb dX7_cell_23 (by decide) ?_
      exact w_X7_cell_24 hC N σ a0 a1 a2 (0 : Int32) (1 : Int32) r σ' _ _ ls h hw (lv_sub hl [0, 1, 2, 3] rfl)
    · have h := if_t h c
      exact w_X7_cell_19 hC N σ a0 a1 a2 (1 : Int32) r σ' _ _ ls h hw (lv_sub hl [0, 1, 2, 3] rfl)
/-! SlideBoardsModel.placeOf(I)I -/
abbrev rm_X7_placeOf : Room := { frames := 0, cells := 0, slots := 0, locals := 0 }
def lp_X7_placeOf_2 (N : Nat) (σ : St) (x0 : Int32) : Nat → Int32 → Option Int32
  | 0, _ => none
  | n + 1, x1 => if (25 : Int32) ≤ x1 then (some (-1 : Int32)) else (if ((jshr x0 x1) &&& (1 : Int32)) = (1 : Int32) then (some x1) else (nm (x1 + (1 : Int32)) (fun y1 => lp_X7_placeOf_2 N σ x0 n y1)))
set_option maxRecDepth 100000 in
set_option maxHeartbeats 4000000 in
theorem w_X7_placeOf_2 {p : Program} {l : Launch} {e : Env} {s : State} {m : MethodId} {below : List Frame} {meth : Method} {c : Code} {args : Array Value} {D : va_G} {q : Nat → Nat} {k : cK} {ws0 : va_W} (hC : Cx p s m meth c cX7_placeOf RX7 2 (some .int)) (N : Nat) (σ : St) (x0 : Int32) (r : Int32) :
    ∀ (n : Nat) (x1 : Int32) (H : Heap) (locs : List Loc) (ls : Array Slot), lp_X7_placeOf_2 N σ x0 n x1 = some r → WH D (MW q k σ) k (AQ ws0) s s.heap H locs → lv_has ls 2 [(0, .int x0), (1, .int x1)] → W p l e rm_X7_placeOf s m args below meth c H locs 0 0 (MQ below (QR D ws0 (MW q k σ) (some (.int r))) args s 0 0 (AQ ws0)) (F0 m 2 ls []) := by
  have hx := hC.1
  have hb := hC.2.1
  intro n
  induction n with
  | zero =>
    intro x1 H locs ls h
    cases h
  | succ n ih =>
    intro x1 H locs ls h hw hl
    rw [lp_X7_placeOf_2] at h
    refine lv_iload_n hx hb dX7_placeOf_2 rfl (lv_at hl 1 rfl) ?_
    refine lv_bipush (v := 25) hx hb dX7_placeOf_3 (by decide) ?_
    refine lv_icmp_ge (tgt := 25) hx hb dX7_placeOf_5 (by decide) (fun c => ?_) (fun c => ?_)
    · have h := if_t h c
      refine lv_iconst (v := -1) hx hb dX7_placeOf_25 (by decide) ?_
      cases h
      exact ret_i hC hw dX7_placeOf_26
    · have h := if_f h c
      refine lv_iload_n hx hb dX7_placeOf_8 rfl (lv_at hl 0 rfl) ?_
      refine lv_iload_n hx hb dX7_placeOf_9 rfl (lv_at hl 1 rfl) ?_
      refine lv_ishr hx hb dX7_placeOf_10 ?_
      refine lv_iconst (v := 1) hx hb dX7_placeOf_11 (by decide) ?_
      refine lv_iand hx hb dX7_placeOf_12 ?_
      refine lv_iconst (v := 1) hx hb dX7_placeOf_13 (by decide) ?_
      refine lv_icmp_ne (tgt := 19) hx hb dX7_placeOf_14 (by decide) (fun c => ?_) (fun c => ?_)
      · have h := if_f h c
        obtain ⟨y1, ey1⟩ : ∃ y : Int32, y = x1 + (1 : Int32) := ⟨_, rfl⟩
        have h := nm_o h y1 ey1
        refine lv_iinc (v := y1) (lv' := [(1, .int y1), (0, .int x0)]) hx hb dX7_placeOf_19 hl (k := 1) rfl (by rw [ey1]; rfl) (by decide) rfl (fun ls hl => ?_)
        refine lv_goto (tgt := 2) hx hb dX7_placeOf_22 (by decide) ?_
        exact ih y1 _ _ ls h hw (lv_sub hl [1, 0] rfl)
      · have h := if_t h c
        refine lv_iload_n hx hb dX7_placeOf_17 rfl (lv_at hl 1 rfl) ?_
        cases h
        exact ret_i hC hw dX7_placeOf_18
def f_X7_placeOf (N : Nat) (σ : St) (a0 : Int32) : Option Int32 :=
  lp_X7_placeOf_2 N σ a0 N (0 : Int32)
set_option maxRecDepth 100000 in
set_option maxHeartbeats 4000000 in
theorem c_X7_placeOf (l : Launch) (D : va_G) (q : Nat → Nat) (k : cK) (N : Nat) (σ : St) (a0 : Int32) (r : Int32) (h : f_X7_placeOf N σ a0 = some r) :
    Met l yX7_placeOf [.code yX7_placeOf cX7_placeOf 2 (some .int)] rm_X7_placeOf (PC D (MW q k σ) k [.int a0]) (QR D (MW q k σ) (MW q k σ) (some (.int r))) 0 0 (AQ (MW q k σ)) := by
  refine met_of (by decide) (Nat.le_of_ble_eq_true rfl) ?_
  intro p e s m below meth c hC hw ls hl
  have hC : Cx p s m meth c cX7_placeOf RX7 2 (some .int) := hC
  have hl : lv_has ls 2 [(0, .int a0)] := hl
  have hx := hC.1
  have hb := hC.2.1
  unfold f_X7_placeOf at h
  refine lv_iconst (v := 0) hx hb dX7_placeOf_0 (by decide) ?_
  refine lv_istore_n (lv' := [(1, .int (0 : Int32)), (0, .int a0)]) hx hb dX7_placeOf_1 rfl hl (by decide) rfl (fun ls hl => ?_)
  exact w_X7_placeOf_2 hC N σ a0 r N (0 : Int32) _ _ ls h hw (lv_sub hl [1, 0] rfl)
/-! SlideBoardsModel.place(I)I -/
abbrev rm_X7_place : Room := { frames := 1, cells := 0, slots := 0, locals := 22 }
def f_X7_place (N : Nat) (σ : St) (a0 : Int32) : Option (Int32 × St) :=
  bd1 (f_X7_isBlock N σ a0) (fun r1 => if r1 = 0 then (bd (f_X7_throwsIf N σ (1 : Int32) (1 : Int32)) (fun r5 σ6 => if r5 = 0 then (gd (okx a0 8) (bd1 (f_X7_placeOf N σ6 (ra σ6 1 a0)) (fun r7 => some (r7, σ6)))) else (some ((0 : Int32), σ6)))) else (bd (f_X7_throwsIf N σ (1 : Int32) (0 : Int32)) (fun r2 σ3 => if r2 = 0 then (gd (okx a0 8) (bd1 (f_X7_placeOf N σ3 (ra σ3 1 a0)) (fun r4 => some (r4, σ3)))) else (some ((0 : Int32), σ3)))))
set_option maxRecDepth 100000 in
set_option maxHeartbeats 4000000 in
theorem c_X7_place (l : Launch) (D : va_G) (q : Nat → Nat) (k : cK) (N : Nat) (σ : St) (a0 : Int32) (r : Int32) (σ' : St) (h : f_X7_place N σ a0 = some (r, σ')) :
    Met l yX7_place [.code yX7_place cX7_place 2 (some .int)] rm_X7_place (PC D (MW q k σ) k [.ref (q 0), .int a0]) (QR D (MW q k σ) (MW q k σ') (some (.int r))) 0 0 (AQ (MW q k σ)) := by
  refine met_of (by decide) (Nat.le_of_ble_eq_true rfl) ?_
  intro p e s m below meth c hC hw ls hl
  have hC : Cx p s m meth c cX7_place RX7 2 (some .int) := hC
  have hl : lv_has ls 2 [(0, .ref (q 0)), (1, .int a0)] := hl
  have hx := hC.1
  have hb := hC.2.1
  unfold f_X7_place at h
  refine lv_aload_n hx hb dX7_place_0 rfl (lv_at hl 0 rfl) ?_
  refine lv_iconst (v := 1) hx hb dX7_place_1 (by decide) ?_
  refine lv_aload_n hx hb dX7_place_2 rfl (lv_at hl 0 rfl) ?_
  refine lv_iload_n hx hb dX7_place_3 rfl (lv_at hl 1 rfl) ?_
  obtain ⟨r1, hc, h⟩ := bd1_o h
  refine go_i (run_V (As := [.int a0]) (rest := [.int (1 : Int32), .ref (q 0)]) hC hw (c_X7_isBlock l D q k N σ a0 r1 hc) kw_258 kw_260 kw_261 kw_246 kw_259 hd_X7_isBlock ⟨rfl, rfl⟩ ⟨Nat.le_of_ble_eq_true rfl, Nat.le_of_ble_eq_true rfl⟩ 0 rfl rfl rfl hl.1 rfl (Nat.le_of_ble_eq_true rfl) dX7_place_4 ⟨Nat.zero_le _, Nat.zero_le _⟩) hw (fun H locs hw => ?_)
  refine lv_if_ne (tgt := 14) hx hb dX7_place_7 (by decide) (fun c => ?_) (fun c => ?_)
  · have h := if_f h c
    refine lv_iconst (v := 0) hx hb dX7_place_14 (by decide) ?_
    obtain ⟨r2, σ3, hc, h⟩ := bd_o h
    refine go_i (run_V (As := [.int (1 : Int32), .int (0 : Int32)]) (rest := []) hC hw (c_X7_throwsIf l D q k N σ (1 : Int32) (0 : Int32) r2 σ3 hc) kw_250 kw_252 kw_253 kw_246 kw_251 hd_X7_throwsIf ⟨rfl, rfl⟩ ⟨Nat.le_of_ble_eq_true rfl, Nat.le_of_ble_eq_true rfl⟩ 0 rfl rfl rfl hl.1 rfl (Nat.le_of_ble_eq_true rfl) dX7_place_15 ⟨Nat.zero_le _, Nat.zero_le _⟩) hw (fun H locs hw => ?_)
    refine lv_if_eq (tgt := 25) hx hb dX7_place_18 (by decide) (fun c => ?_) (fun c => ?_)
    · have h := if_t h c
      refine lv_aload_n hx hb dX7_place_25 rfl (lv_at hl 0 rfl) ?_
      refine M_g_X7_13 hC hw dX7_place_26 ?_
      refine lv_iload_n hx hb dX7_place_29 rfl (lv_at hl 1 rfl) ?_
      obtain ⟨hin, h⟩ := gd_o h
      refine M_ld2 hC hw hin dX7_place_30 ?_
      obtain ⟨r4, hc, h⟩ := bd1_o h
      refine go_i (run_S (As := [.int (ra σ3 1 a0)]) (rest := []) hC hw (c_X7_placeOf l D q k N σ3 (ra σ3 1 a0) r4 hc) kw_262 kw_264 kw_246 kw_263 hd_X7_placeOf ⟨rfl, rfl⟩ ⟨Nat.le_of_ble_eq_true rfl, Nat.le_of_ble_eq_true rfl⟩ rfl hl.1 rfl (Nat.le_of_ble_eq_true rfl) dX7_place_31 ⟨Nat.zero_le _, Nat.zero_le _⟩) hw (fun H locs hw => ?_)
      cases h
      exact ret_i hC hw dX7_place_34
    · have h := if_f h c
      refine lv_iconst (v := 0) hx hb dX7_place_21 (by decide) ?_
      refine lv_goto (tgt := 34) hx hb dX7_place_22 (by decide) ?_
      cases h
      exact ret_i hC hw dX7_place_34
  · have h := if_t h c
    refine lv_iconst (v := 1) hx hb dX7_place_10 (by decide) ?_
    refine lv_goto (tgt := 15) hx hb dX7_place_11 (by decide) ?_
    obtain ⟨r5, σ6, hc, h⟩ := bd_o h
    refine go_i (run_V (As := [.int (1 : Int32), .int (1 : Int32)]) (rest := []) hC hw (c_X7_throwsIf l D q k N σ (1 : Int32) (1 : Int32) r5 σ6 hc) kw_250 kw_252 kw_253 kw_246 kw_251 hd_X7_throwsIf ⟨rfl, rfl⟩ ⟨Nat.le_of_ble_eq_true rfl, Nat.le_of_ble_eq_true rfl⟩ 0 rfl rfl rfl hl.1 rfl (Nat.le_of_ble_eq_true rfl) dX7_place_15 ⟨Nat.zero_le _, Nat.zero_le _⟩) hw (fun H locs hw => ?_)
    refine lv_if_eq (tgt := 25) hx hb dX7_place_18 (by decide) (fun c => ?_) (fun c => ?_)
    · have h := if_t h c
      refine lv_aload_n hx hb dX7_place_25 rfl (lv_at hl 0 rfl) ?_
      refine M_g_X7_13 hC hw dX7_place_26 ?_
      refine lv_iload_n hx hb dX7_place_29 rfl (lv_at hl 1 rfl) ?_
      obtain ⟨hin, h⟩ := gd_o h
      refine M_ld2 hC hw hin dX7_place_30 ?_
      obtain ⟨r7, hc, h⟩ := bd1_o h
      refine go_i (run_S (As := [.int (ra σ6 1 a0)]) (rest := []) hC hw (c_X7_placeOf l D q k N σ6 (ra σ6 1 a0) r7 hc) kw_262 kw_264 kw_246 kw_263 hd_X7_placeOf ⟨rfl, rfl⟩ ⟨Nat.le_of_ble_eq_true rfl, Nat.le_of_ble_eq_true rfl⟩ rfl hl.1 rfl (Nat.le_of_ble_eq_true rfl) dX7_place_31 ⟨Nat.zero_le _, Nat.zero_le _⟩) hw (fun H locs hw => ?_)
      cases h
      exact ret_i hC hw dX7_place_34
    · have h := if_f h c
      refine lv_iconst (v := 0) hx hb dX7_place_21 (by decide) ?_
      refine lv_goto (tgt := 34) hx hb dX7_place_22 (by decide) ?_
      cases h
      exact ret_i hC hw dX7_place_34
/-! SlideBoardsModel.moved(II)I -/
abbrev rm_X7_moved : Room := { frames := 1, cells := 0, slots := 0, locals := 22 }
def jn_X7_moved_50 (N : Nat) (σ : St) (x1 : Int32) (x2 : Int32) (x3 : Int32) (w0 : Int32) (w1 : Int32) (K2 : Int32 → Option Int32) : Option Int32 :=
  nm (w1 + w0) (fun y2 => gd (decide (¬ (σ.1 1) = 0)) (if x2 = (1 : Int32) then (nm ((x3 / (σ.1 1)) + (1 : Int32)) (fun y9 => bd1 (f_X7_isCell N σ y2 y9) (fun r10 => if r10 = 0 then (some (0 : Int32)) else (nm (x3 + (1 : Int32)) (fun y11 => K2 y11))))) else (if x2 = (3 : Int32) then (nm ((x3 / (σ.1 1)) + (-1 : Int32)) (fun y6 => bd1 (f_X7_isCell N σ y2 y6) (fun r7 => if r7 = 0 then (some (0 : Int32)) else (nm (x3 + (1 : Int32)) (fun y8 => K2 y8))))) else (nm ((x3 / (σ.1 1)) + (0 : Int32)) (fun y3 => bd1 (f_X7_isCell N σ y2 y3) (fun r4 => if r4 = 0 then (some (0 : Int32)) else (nm (x3 + (1 : Int32)) (fun y5 => K2 y5))))))))
set_option maxRecDepth 100000 in
set_option maxHeartbeats 4000000 in
theorem w_X7_moved_50 {p : Program} {l : Launch} {e : Env} {s : State} {m : MethodId} {below : List Frame} {meth : Method} {c : Code} {args : Array Value} {D : va_G} {q : Nat → Nat} {k : cK} {ws0 : va_W} (hC : Cx p s m meth c cX7_moved RX7 6 (some .int)) (N : Nat) (σ : St) (x1 : Int32) (x2 : Int32) (x3 : Int32) (w0 : Int32) (w1 : Int32) (r : Int32) (K2 : Int32 → Option Int32) (hK2 : ∀ (x3 : Int32) (H : Heap) (locs : List Loc) (ls : Array Slot), K2 x3 = some r → WH D (MW q k σ) k (AQ ws0) s s.heap H locs → lv_has ls 6 [(0, .ref (q 0)), (1, .int x1), (2, .int x2), (3, .int x3)] → W p l e rm_X7_moved s m args below meth c H locs 0 0 (MQ below (QR D ws0 (MW q k σ) (some (.int r))) args s 0 0 (AQ ws0)) (F0 m 2 ls [])) :
    ∀ (H : Heap) (locs : List Loc) (ls : Array Slot), jn_X7_moved_50 N σ x1 x2 x3 w0 w1 K2 = some r → WH D (MW q k σ) k (AQ ws0) s s.heap H locs → lv_has ls 6 [(0, .ref (q 0)), (1, .int x1), (2, .int x2), (3, .int x3)] → W p l e rm_X7_moved s m args below meth c H locs 0 0 (MQ below (QR D ws0 (MW q k σ) (some (.int r))) args s 0 0 (AQ ws0)) (F0 m 50 ls [.int w0, .int w1]) := by
  have hx := hC.1
  have hb := hC.2.1
  intro H locs ls h hw hl
  unfold jn_X7_moved_50 at h
  refine lv_iadd hx hb dX7_moved_50 ?_
  refine lv_topi (fun y2 ey2 => ?_)
  have h := nm_o h y2 ey2
  refine lv_istore (lv' := [(4, .int y2), (0, .ref (q 0)), (1, .int x1), (2, .int x2), (3, .int x3)]) hx hb dX7_moved_51 hl (by decide) rfl (fun ls hl => ?_)
  refine lv_iload_n hx hb dX7_moved_53 rfl (lv_at hl 4 rfl) ?_
  refine lv_aload_n hx hb dX7_moved_54 rfl (lv_at hl 1 rfl) ?_
  refine M_g_X7_74 hC hw dX7_moved_55 ?_
  obtain ⟨hne, h⟩ := gp_o h
  refine lv_idiv hx hb dX7_moved_58 hne ?_
  refine lv_iload_n hx hb dX7_moved_59 rfl (lv_at hl 3 rfl) ?_
  refine lv_iconst (v := 1) hx hb dX7_moved_60 (by decide) ?_
  refine lv_icmp_ne (tgt := 68) hx hb dX7_moved_61 (by decide) (fun c => ?_) (fun c => ?_)
  · have h := if_f h c
    refine lv_iload_n hx hb dX7_moved_68 rfl (lv_at hl 3 rfl) ?_
    refine lv_iconst (v := 3) hx hb dX7_moved_69 (by decide) ?_
    refine lv_icmp_ne (tgt := 77) hx hb dX7_moved_70 (by decide) (fun c => ?_) (fun c => ?_)
    · have h := if_f h c
      refine lv_iconst (v := 0) hx hb dX7_moved_77 (by decide) ?_
      refine lv_iadd hx hb dX7_moved_78 ?_
      refine lv_topi (fun y3 ey3 => ?_)
      have h := nm_o h y3 ey3
      refine lv_istore (lv' := [(5, .int y3), (4, .int y2), (0, .ref (q 0)), (1, .int x1), (2, .int x2), (3, .int x3)]) hx hb dX7_moved_79 hl (by decide) rfl (fun ls hl => ?_)
      refine lv_aload_n hx hb dX7_moved_81 rfl (lv_at hl 2 rfl) ?_
      refine lv_iload hx hb dX7_moved_82 (lv_at hl 1 rfl) ?_
      refine lv_iload hx hb dX7_moved_84 (lv_at hl 0 rfl) ?_
      obtain ⟨r4, hc, h⟩ := bd1_o h
      refine go_i (run_V (As := [.int y2, .int y3]) (rest := []) hC hw (c_X7_isCell l D q k N σ y2 y3 r4 hc) kw_245 kw_248 kw_249 kw_246 kw_247 hd_X7_isCell ⟨rfl, rfl⟩ ⟨Nat.le_of_ble_eq_true rfl, Nat.le_of_ble_eq_true rfl⟩ 0 rfl rfl rfl hl.1 rfl (Nat.le_of_ble_eq_true rfl) dX7_moved_86 ⟨Nat.zero_le _, Nat.zero_le _⟩) hw (fun H locs hw => ?_)
      refine lv_if_ne (tgt := 94) hx hb dX7_moved_89 (by decide) (fun c => ?_) (fun c => ?_)
      · have h := if_f h c
        obtain ⟨y5, ey5⟩ : ∃ y : Int32, y = x3 + (1 : Int32) := ⟨_, rfl⟩
        have h := nm_o h y5 ey5
        refine lv_iinc (v := y5) (lv' := [(3, .int y5), (5, .int y3), (4, .int y2), (0, .ref (q 0)), (1, .int x1), (2, .int x2)]) hx hb dX7_moved_94 hl (k := 5) rfl (by rw [ey5]; rfl) (by decide) rfl (fun ls hl => ?_)
        refine lv_goto (tgt := 2) hx hb dX7_moved_97 (by decide) ?_
        exact hK2 y5 _ _ ls h hw (lv_sub hl [3, 4, 5, 0] rfl)
      · have h := if_t h c
        refine lv_iconst (v := 0) hx hb dX7_moved_92 (by decide) ?_
        cases h
        exact ret_i hC hw dX7_moved_93
    · have h := if_t h c
      refine lv_iconst (v := -1) hx hb dX7_moved_73 (by decide) ?_
      refine lv_goto (tgt := 78) hx hb dX7_moved_74 (by decide) ?_
      refine lv_iadd hx hb dX7_moved_78 ?_
      refine lv_topi (fun y6 ey6 => ?_)
      have h := nm_o h y6 ey6
      refine lv_istore (lv' := [(5, .int y6), (4, .int y2), (0, .ref (q 0)), (1, .int x1), (2, .int x2), (3, .int x3)]) hx hb dX7_moved_79 hl (by decide) rfl (fun ls hl => ?_)
      refine lv_aload_n hx hb dX7_moved_81 rfl (lv_at hl 2 rfl) ?_
      refine lv_iload hx hb dX7_moved_82 (lv_at hl 1 rfl) ?_
      refine lv_iload hx hb dX7_moved_84 (lv_at hl 0 rfl) ?_
      obtain ⟨r7, hc, h⟩ := bd1_o h
      refine go_i (run_V (As := [.int y2, .int y6]) (rest := []) hC hw (c_X7_isCell l D q k N σ y2 y6 r7 hc) kw_245 kw_248 kw_249 kw_246 kw_247 hd_X7_isCell ⟨rfl, rfl⟩ ⟨Nat.le_of_ble_eq_true rfl, Nat.le_of_ble_eq_true rfl⟩ 0 rfl rfl rfl hl.1 rfl (Nat.le_of_ble_eq_true rfl) dX7_moved_86 ⟨Nat.zero_le _, Nat.zero_le _⟩) hw (fun H locs hw => ?_)
      refine lv_if_ne (tgt := 94) hx hb dX7_moved_89 (by decide) (fun c => ?_) (fun c => ?_)
      · have h := if_f h c
        obtain ⟨y8, ey8⟩ : ∃ y : Int32, y = x3 + (1 : Int32) := ⟨_, rfl⟩
        have h := nm_o h y8 ey8
        refine lv_iinc (v := y8) (lv' := [(3, .int y8), (5, .int y6), (4, .int y2), (0, .ref (q 0)), (1, .int x1), (2, .int x2)]) hx hb dX7_moved_94 hl (k := 5) rfl (by rw [ey8]; rfl) (by decide) rfl (fun ls hl => ?_)
        refine lv_goto (tgt := 2) hx hb dX7_moved_97 (by decide) ?_
        exact hK2 y8 _ _ ls h hw (lv_sub hl [3, 4, 5, 0] rfl)
      · have h := if_t h c
        refine lv_iconst (v := 0) hx hb dX7_moved_92 (by decide) ?_
        cases h
        exact ret_i hC hw dX7_moved_93
  · have h := if_t h c
    refine lv_iconst (v := 1) hx hb dX7_moved_64 (by decide) ?_
    refine lv_goto (tgt := 78) hx hb dX7_moved_65 (by decide) ?_
    refine lv_iadd hx hb dX7_moved_78 ?_
    refine lv_topi (fun y9 ey9 => ?_)
    have h := nm_o h y9 ey9
    refine lv_istore (lv' := [(5, .int y9), (4, .int y2), (0, .ref (q 0)), (1, .int x1), (2, .int x2), (3, .int x3)]) hx hb dX7_moved_79 hl (by decide) rfl (fun ls hl => ?_)
    refine lv_aload_n hx hb dX7_moved_81 rfl (lv_at hl 2 rfl) ?_
    refine lv_iload hx hb dX7_moved_82 (lv_at hl 1 rfl) ?_
    refine lv_iload hx hb dX7_moved_84 (lv_at hl 0 rfl) ?_
    obtain ⟨r10, hc, h⟩ := bd1_o h
    refine go_i (run_V (As := [.int y2, .int y9]) (rest := []) hC hw (c_X7_isCell l D q k N σ y2 y9 r10 hc) kw_245 kw_248 kw_249 kw_246 kw_247 hd_X7_isCell ⟨rfl, rfl⟩ ⟨Nat.le_of_ble_eq_true rfl, Nat.le_of_ble_eq_true rfl⟩ 0 rfl rfl rfl hl.1 rfl (Nat.le_of_ble_eq_true rfl) dX7_moved_86 ⟨Nat.zero_le _, Nat.zero_le _⟩) hw (fun H locs hw => ?_)
    refine lv_if_ne (tgt := 94) hx hb dX7_moved_89 (by decide) (fun c => ?_) (fun c => ?_)
    · have h := if_f h c
      obtain ⟨y11, ey11⟩ : ∃ y : Int32, y = x3 + (1 : Int32) := ⟨_, rfl⟩
      have h := nm_o h y11 ey11
      refine lv_iinc (v := y11) (lv' := [(3, .int y11), (5, .int y9), (4, .int y2), (0, .ref (q 0)), (1, .int x1), (2, .int x2)]) hx hb dX7_moved_94 hl (k := 5) rfl (by rw [ey11]; rfl) (by decide) rfl (fun ls hl => ?_)
      refine lv_goto (tgt := 2) hx hb dX7_moved_97 (by decide) ?_
      exact hK2 y11 _ _ ls h hw (lv_sub hl [3, 4, 5, 0] rfl)
    · have h := if_t h c
      refine lv_iconst (v := 0) hx hb dX7_moved_92 (by decide) ?_
      cases h
      exact ret_i hC hw dX7_moved_93
def lp_X7_moved_2 (N : Nat) (σ : St) (x1 : Int32) (x2 : Int32) : Nat → Int32 → Option Int32
  | 0, _ => none
  | n + 1, x3 => if ((σ.1 1) * (σ.1 2)) ≤ x3 then (if (jrem x2 (2 : Int32)) = 0 then (if (2 : Int32) ≤ x2 then (some (jshr x1 (1 : Int32))) else (some (jshl x1 (1 : Int32)))) else (nm (σ.1 1) (fun y1 => if (2 : Int32) ≤ x2 then (some (jshr x1 y1)) else (some (jshl x1 y1))))) else (if ((jshr x1 x3) &&& (1 : Int32)) = 0 then (nm (x3 + (1 : Int32)) (fun y12 => lp_X7_moved_2 N σ x1 x2 n y12)) else (gd (decide (¬ (σ.1 1) = 0)) (if x2 = 0 then (jn_X7_moved_50 N σ x1 x2 x3 (1 : Int32) (jrem x3 (σ.1 1)) (fun v0 => lp_X7_moved_2 N σ x1 x2 n v0)) else (if x2 = (2 : Int32) then (jn_X7_moved_50 N σ x1 x2 x3 (-1 : Int32) (jrem x3 (σ.1 1)) (fun v0 => lp_X7_moved_2 N σ x1 x2 n v0)) else (jn_X7_moved_50 N σ x1 x2 x3 (0 : Int32) (jrem x3 (σ.1 1)) (fun v0 => lp_X7_moved_2 N σ x1 x2 n v0))))))
set_option maxRecDepth 100000 in
set_option maxHeartbeats 4000000 in
theorem w_X7_moved_2 {p : Program} {l : Launch} {e : Env} {s : State} {m : MethodId} {below : List Frame} {meth : Method} {c : Code} {args : Array Value} {D : va_G} {q : Nat → Nat} {k : cK} {ws0 : va_W} (hC : Cx p s m meth c cX7_moved RX7 6 (some .int)) (N : Nat) (σ : St) (x1 : Int32) (x2 : Int32) (r : Int32) :
    ∀ (n : Nat) (x3 : Int32) (H : Heap) (locs : List Loc) (ls : Array Slot), lp_X7_moved_2 N σ x1 x2 n x3 = some r → WH D (MW q k σ) k (AQ ws0) s s.heap H locs → lv_has ls 6 [(0, .ref (q 0)), (1, .int x1), (2, .int x2), (3, .int x3)] → W p l e rm_X7_moved s m args below meth c H locs 0 0 (MQ below (QR D ws0 (MW q k σ) (some (.int r))) args s 0 0 (AQ ws0)) (F0 m 2 ls []) := by
  have hx := hC.1
  have hb := hC.2.1
  intro n
  induction n with
  | zero =>
    intro x3 H locs ls h
    cases h
  | succ n ih =>
    intro x3 H locs ls h hw hl
    rw [lp_X7_moved_2] at h
    refine lv_iload_n hx hb dX7_moved_2 rfl (lv_at hl 3 rfl) ?_
    refine lv_aload_n hx hb dX7_moved_3 rfl (lv_at hl 0 rfl) ?_
    refine M_g_X7_74 hC hw dX7_moved_4 ?_
    refine lv_aload_n hx hb dX7_moved_7 rfl (lv_at hl 0 rfl) ?_
    refine M_g_X7_78 hC hw dX7_moved_8 ?_
    refine lv_imul hx hb dX7_moved_11 ?_
    refine lv_icmp_ge (tgt := 100) hx hb dX7_moved_12 (by decide) (fun c => ?_) (fun c => ?_)
    · have h := if_t h c
      refine lv_iload_n hx hb dX7_moved_100 rfl (lv_at hl 2 rfl) ?_
      refine lv_iconst (v := 2) hx hb dX7_moved_101 (by decide) ?_
      refine lv_irem hx hb dX7_moved_102 (by decide) ?_
      refine lv_if_ne (tgt := 110) hx hb dX7_moved_103 (by decide) (fun c => ?_) (fun c => ?_)
      · have h := if_f h c
        refine lv_aload_n hx hb dX7_moved_110 rfl (lv_at hl 0 rfl) ?_
        refine M_g_X7_74 hC hw dX7_moved_111 ?_
        refine lv_topi (fun y1 ey1 => ?_)
        have h := nm_o h y1 ey1
        refine lv_istore_n (lv' := [(3, .int y1), (0, .ref (q 0)), (1, .int x1), (2, .int x2)]) hx hb dX7_moved_114 rfl hl (by decide) rfl (fun ls hl => ?_)
        refine lv_iload_n hx hb dX7_moved_115 rfl (lv_at hl 3 rfl) ?_
        refine lv_iconst (v := 2) hx hb dX7_moved_116 (by decide) ?_
        refine lv_icmp_ge (tgt := 126) hx hb dX7_moved_117 (by decide) (fun c => ?_) (fun c => ?_)
        · have h := if_t h c
          refine lv_iload_n hx hb dX7_moved_126 rfl (lv_at hl 2 rfl) ?_
          refine lv_iload_n hx hb dX7_moved_127 rfl (lv_at hl 0 rfl) ?_
          refine lv_ishr hx hb dX7_moved_128 ?_
          cases h
          exact ret_i hC hw dX7_moved_129
        · have h := if_f h c
          refine lv_iload_n hx hb dX7_moved_120 rfl (lv_at hl 2 rfl) ?_
          refine lv_iload_n hx hb dX7_moved_121 rfl (lv_at hl 0 rfl) ?_
          refine lv_ishl hx hb dX7_moved_122 ?_
          refine lv_goto (tgt := 129) hx hb dX7_moved_123 (by decide) ?_
          cases h
          exact ret_i hC hw dX7_moved_129
      · have h := if_t h c
        refine lv_iconst (v := 1) hx hb dX7_moved_106 (by decide) ?_
        refine lv_goto (tgt := 114) hx hb dX7_moved_107 (by decide) ?_
        refine lv_istore_n (lv' := [(3, .int (1 : Int32)), (0, .ref (q 0)), (1, .int x1), (2, .int x2)]) hx hb dX7_moved_114 rfl hl (by decide) rfl (fun ls hl => ?_)
        refine lv_iload_n hx hb dX7_moved_115 rfl (lv_at hl 3 rfl) ?_
        refine lv_iconst (v := 2) hx hb dX7_moved_116 (by decide) ?_
        refine lv_icmp_ge (tgt := 126) hx hb dX7_moved_117 (by decide) (fun c => ?_) (fun c => ?_)
        · have h := if_t h c
          refine lv_iload_n hx hb dX7_moved_126 rfl (lv_at hl 2 rfl) ?_
          refine lv_iload_n hx hb dX7_moved_127 rfl (lv_at hl 0 rfl) ?_
          refine lv_ishr hx hb dX7_moved_128 ?_
          cases h
          exact ret_i hC hw dX7_moved_129
        · have h := if_f h c
          refine lv_iload_n hx hb dX7_moved_120 rfl (lv_at hl 2 rfl) ?_
          refine lv_iload_n hx hb dX7_moved_121 rfl (lv_at hl 0 rfl) ?_
          refine lv_ishl hx hb dX7_moved_122 ?_
          refine lv_goto (tgt := 129) hx hb dX7_moved_123 (by decide) ?_
          cases h
          exact ret_i hC hw dX7_moved_129
    · have h := if_f h c
      refine lv_iload_n hx hb dX7_moved_15 rfl (lv_at hl 1 rfl) ?_
      refine lv_iload_n hx hb dX7_moved_16 rfl (lv_at hl 3 rfl) ?_
      refine lv_ishr hx hb dX7_moved_17 ?_
      refine lv_iconst (v := 1) hx hb dX7_moved_18 (by decide) ?_
      refine lv_iand hx hb dX7_moved_19 ?_
      refine lv_if_ne (tgt := 26) hx hb dX7_moved_20 (by decide) (fun c => ?_) (fun c => ?_)
      · have h := if_f h c
        refine lv_iload_n hx hb dX7_moved_26 rfl (lv_at hl 3 rfl) ?_
        refine lv_aload_n hx hb dX7_moved_27 rfl (lv_at hl 0 rfl) ?_
        refine M_g_X7_74 hC hw dX7_moved_28 ?_
        obtain ⟨hne, h⟩ := gp_o h
        refine lv_irem hx hb dX7_moved_31 hne ?_
        refine lv_iload_n hx hb dX7_moved_32 rfl (lv_at hl 2 rfl) ?_
        refine lv_if_ne (tgt := 40) hx hb dX7_moved_33 (by decide) (fun c => ?_) (fun c => ?_)
        · have h := if_f h c
          refine lv_iload_n hx hb dX7_moved_40 rfl (lv_at hl 2 rfl) ?_
          refine lv_iconst (v := 2) hx hb dX7_moved_41 (by decide) ?_
          refine lv_icmp_ne (tgt := 49) hx hb dX7_moved_42 (by decide) (fun c => ?_) (fun c => ?_)
          · have h := if_f h c
            refine lv_iconst (v := 0) hx hb dX7_moved_49 (by decide) ?_
            exact w_X7_moved_50 hC N σ x1 x2 x3 (0 : Int32) (jrem x3 (σ.1 1)) r _ ih _ _ ls h hw (lv_sub hl [0, 1, 2, 3] rfl)
          · have h := if_t h c
            refine lv_iconst (v := -1) hx hb dX7_moved_45 (by decide) ?_
            refine lv_goto (tgt := 50) hx hb dX7_moved_46 (by decide) ?_
            exact w_X7_moved_50 hC N σ x1 x2 x3 (-1 : Int32) (jrem x3 (σ.1 1)) r _ ih _ _ ls h hw (lv_sub hl [0, 1, 2, 3] rfl)
        · have h := if_t h c
          refine lv_iconst (v := 1) hx hb dX7_moved_36 (by decide) ?_
          refine lv_goto (tgt := 50) hx hb dX7_moved_37 (by decide) ?_
          exact w_X7_moved_50 hC N σ x1 x2 x3 (1 : Int32) (jrem x3 (σ.1 1)) r _ ih _ _ ls h hw (lv_sub hl [0, 1, 2, 3] rfl)
      · have h := if_t h c
        refine lv_goto (tgt := 94) hx hb dX7_moved_23 (by decide) ?_
        obtain ⟨y12, ey12⟩ : ∃ y : Int32, y = x3 + (1 : Int32) := ⟨_, rfl⟩
        have h := nm_o h y12 ey12
        refine lv_iinc (v := y12) (lv' := [(3, .int y12), (0, .ref (q 0)), (1, .int x1), (2, .int x2)]) hx hb dX7_moved_94 hl (k := 3) rfl (by rw [ey12]; rfl) (by decide) rfl (fun ls hl => ?_)
        refine lv_goto (tgt := 2) hx hb dX7_moved_97 (by decide) ?_
        exact ih y12 _ _ ls h hw (lv_sub hl [1, 2, 3, 0] rfl)
def f_X7_moved (N : Nat) (σ : St) (a0 : Int32) (a1 : Int32) : Option Int32 :=
  lp_X7_moved_2 N σ a0 a1 N (0 : Int32)
set_option maxRecDepth 100000 in
set_option maxHeartbeats 4000000 in
theorem c_X7_moved (l : Launch) (D : va_G) (q : Nat → Nat) (k : cK) (N : Nat) (σ : St) (a0 : Int32) (a1 : Int32) (r : Int32) (h : f_X7_moved N σ a0 a1 = some r) :
    Met l yX7_moved [.code yX7_moved cX7_moved 6 (some .int)] rm_X7_moved (PC D (MW q k σ) k [.ref (q 0), .int a0, .int a1]) (QR D (MW q k σ) (MW q k σ) (some (.int r))) 0 0 (AQ (MW q k σ)) := by
  refine met_of (by decide) (Nat.le_of_ble_eq_true rfl) ?_
  intro p e s m below meth c hC hw ls hl
  have hC : Cx p s m meth c cX7_moved RX7 6 (some .int) := hC
  have hl : lv_has ls 6 [(0, .ref (q 0)), (1, .int a0), (2, .int a1)] := hl
  have hx := hC.1
  have hb := hC.2.1
  unfold f_X7_moved at h
  refine lv_iconst (v := 0) hx hb dX7_moved_0 (by decide) ?_
  refine lv_istore_n (lv' := [(3, .int (0 : Int32)), (0, .ref (q 0)), (1, .int a0), (2, .int a1)]) hx hb dX7_moved_1 rfl hl (by decide) rfl (fun ls hl => ?_)
  exact w_X7_moved_2 hC N σ a0 a1 r N (0 : Int32) _ _ ls h hw (lv_sub hl [1, 2, 3, 0] rfl)

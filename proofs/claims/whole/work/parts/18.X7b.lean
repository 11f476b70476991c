/-! SlideBoardsModel.stepped([III)I -/
abbrev rm_X7_stepped_a2 : Room := { frames := 2, cells := 0, slots := 0, locals := 47 }
def lp_X7_stepped_a2_19 (N : Nat) (σ : St) (x2 : Int32) (x4 : Int32) : Nat → Int32 → Int32 → Option Int32
  | 0, _, _ => none
  | n + 1, x5, x6 => if (σ.1 4) ≤ x6 then (if (x4 &&& x5) = 0 then (some x4) else (some (0 : Int32))) else (if x6 = x2 then (nm (x5 ||| (0 : Int32)) (fun y5 => nm (x6 + (1 : Int32)) (fun y6 => lp_X7_stepped_a2_19 N σ x2 x4 n y5 y6))) else (gd (okx x6 8) (nm (x5 ||| (ra σ 1 x6)) (fun y3 => nm (x6 + (1 : Int32)) (fun y4 => lp_X7_stepped_a2_19 N σ x2 x4 n y3 y4)))))
set_option maxRecDepth 100000 in
set_option maxHeartbeats 4000000 in
theorem w_X7_stepped_a2_19 {p : Program} {l : Launch} {e : Env} {s : State} {m : MethodId} {below : List Frame} {meth : Method} {c : Code} {args : Array Value} {D : va_G} {q : Nat → Nat} {k : cK} {ws0 : va_W} (hC : Cx p s m meth c cX7_stepped RX7 7 (some .int)) (N : Nat) (σ : St) (x2 : Int32) (x4 : Int32) (r : Int32) :
    ∀ (n : Nat) (x5 : Int32) (x6 : Int32) (H : Heap) (locs : List Loc) (ls : Array Slot), lp_X7_stepped_a2_19 N σ x2 x4 n x5 x6 = some r → WH D (MW q k σ) k (AQ ws0) s s.heap H locs → lv_has ls 7 [(0, .ref (q 0)), (1, .ref (q 2)), (2, .int x2), (4, .int x4), (5, .int x5), (6, .int x6)] → W p l e rm_X7_stepped_a2 s m args below meth c H locs 0 0 (MQ below (QR D ws0 (MW q k σ) (some (.int r))) args s 0 0 (AQ ws0)) (F0 m 19 ls []) := by
  have hx := hC.1
  have hb := hC.2.1
  intro n
  induction n with
  | zero =>
    intro x5 x6 H locs ls h
    cases h
  | succ n ih =>
    intro x5 x6 H locs ls h hw hl
    rw [lp_X7_stepped_a2_19] at h
    refine lv_iload hx hb dX7_stepped_19 (lv_at hl 5 rfl) ?_
    refine lv_aload_n hx hb dX7_stepped_21 rfl (lv_at hl 0 rfl) ?_
    refine M_g_X7_84 hC hw dX7_stepped_22 ?_
    refine lv_icmp_ge (tgt := 53) hx hb dX7_stepped_25 (by decide) (fun c => ?_) (fun c => ?_)
    · have h := if_t h c
      refine lv_iload hx hb dX7_stepped_53 (lv_at hl 3 rfl) ?_
      refine lv_iload hx hb dX7_stepped_55 (lv_at hl 4 rfl) ?_
      refine lv_iand hx hb dX7_stepped_57 ?_
      refine lv_if_eq (tgt := 65) hx hb dX7_stepped_58 (by decide) (fun c => ?_) (fun c => ?_)
      · have h := if_t h c
        refine lv_iload hx hb dX7_stepped_65 (lv_at hl 3 rfl) ?_
        cases h
        exact ret_i hC hw dX7_stepped_67
      · have h := if_f h c
        refine lv_iconst (v := 0) hx hb dX7_stepped_61 (by decide) ?_
        refine lv_goto (tgt := 67) hx hb dX7_stepped_62 (by decide) ?_
        cases h
        exact ret_i hC hw dX7_stepped_67
    · have h := if_f h c
      refine lv_iload hx hb dX7_stepped_28 (lv_at hl 4 rfl) ?_
      refine lv_iload hx hb dX7_stepped_30 (lv_at hl 5 rfl) ?_
      refine lv_iload_n hx hb dX7_stepped_32 rfl (lv_at hl 2 rfl) ?_
      refine lv_icmp_ne (tgt := 40) hx hb dX7_stepped_33 (by decide) (fun c => ?_) (fun c => ?_)
      · have h := if_f h c
        refine lv_aload_n hx hb dX7_stepped_40 rfl (lv_at hl 1 rfl) ?_
        refine lv_iload hx hb dX7_stepped_41 (lv_at hl 5 rfl) ?_
        obtain ⟨hin, h⟩ := gd_o h
        refine M_ld2 hC hw hin dX7_stepped_43 ?_
        refine lv_ior hx hb dX7_stepped_44 ?_
        refine lv_topi (fun y3 ey3 => ?_)
        have h := nm_o h y3 ey3
        refine lv_istore (lv' := [(5, .int y3), (0, .ref (q 0)), (1, .ref (q 2)), (2, .int x2), (4, .int x4), (6, .int x6)]) hx hb dX7_stepped_45 hl (by decide) rfl (fun ls hl => ?_)
        obtain ⟨y4, ey4⟩ : ∃ y : Int32, y = x6 + (1 : Int32) := ⟨_, rfl⟩
        have h := nm_o h y4 ey4
        refine lv_iinc (v := y4) (lv' := [(6, .int y4), (5, .int y3), (0, .ref (q 0)), (1, .ref (q 2)), (2, .int x2), (4, .int x4)]) hx hb dX7_stepped_47 hl (k := 5) rfl (by rw [ey4]; rfl) (by decide) rfl (fun ls hl => ?_)
        refine lv_goto (tgt := 19) hx hb dX7_stepped_50 (by decide) ?_
        exact ih y3 y4 _ _ ls h hw (lv_sub hl [2, 3, 4, 5, 1, 0] rfl)
      · have h := if_t h c
        refine lv_iconst (v := 0) hx hb dX7_stepped_36 (by decide) ?_
        refine lv_goto (tgt := 44) hx hb dX7_stepped_37 (by decide) ?_
        refine lv_ior hx hb dX7_stepped_44 ?_
        refine lv_topi (fun y5 ey5 => ?_)
        have h := nm_o h y5 ey5
        refine lv_istore (lv' := [(5, .int y5), (0, .ref (q 0)), (1, .ref (q 2)), (2, .int x2), (4, .int x4), (6, .int x6)]) hx hb dX7_stepped_45 hl (by decide) rfl (fun ls hl => ?_)
        obtain ⟨y6, ey6⟩ : ∃ y : Int32, y = x6 + (1 : Int32) := ⟨_, rfl⟩
        have h := nm_o h y6 ey6
        refine lv_iinc (v := y6) (lv' := [(6, .int y6), (5, .int y5), (0, .ref (q 0)), (1, .ref (q 2)), (2, .int x2), (4, .int x4)]) hx hb dX7_stepped_47 hl (k := 5) rfl (by rw [ey6]; rfl) (by decide) rfl (fun ls hl => ?_)
        refine lv_goto (tgt := 19) hx hb dX7_stepped_50 (by decide) ?_
        exact ih y5 y6 _ _ ls h hw (lv_sub hl [2, 3, 4, 5, 1, 0] rfl)
def f_X7_stepped_a2 (N : Nat) (σ : St) (a1 : Int32) (a2 : Int32) : Option Int32 :=
  gd (okx a1 8) (bd1 (f_X7_moved N σ (ra σ 1 a1) a2) (fun r1 => nm (σ.1 3) (fun y2 => lp_X7_stepped_a2_19 N σ a1 r1 N y2 (0 : Int32))))
set_option maxRecDepth 100000 in
set_option maxHeartbeats 4000000 in
theorem c_X7_stepped_a2 (l : Launch) (D : va_G) (q : Nat → Nat) (k : cK) (N : Nat) (σ : St) (a1 : Int32) (a2 : Int32) (r : Int32) (h : f_X7_stepped_a2 N σ a1 a2 = some r) :
    Met l yX7_stepped [.code yX7_stepped cX7_stepped 7 (some .int)] rm_X7_stepped_a2 (PC D (MW q k σ) k [.ref (q 0), .ref (q 2), .int a1, .int a2]) (QR D (MW q k σ) (MW q k σ) (some (.int r))) 0 0 (AQ (MW q k σ)) := by
  refine met_of (by decide) (Nat.le_of_ble_eq_true rfl) ?_
  intro p e s m below meth c hC hw ls hl
  have hC : Cx p s m meth c cX7_stepped RX7 7 (some .int) := hC
  have hl : lv_has ls 7 [(0, .ref (q 0)), (1, .ref (q 2)), (2, .int a1), (3, .int a2)] := hl
  have hx := hC.1
  have hb := hC.2.1
  unfold f_X7_stepped_a2 at h
  refine lv_aload_n hx hb dX7_stepped_0 rfl (lv_at hl 0 rfl) ?_
  refine lv_aload_n hx hb dX7_stepped_1 rfl (lv_at hl 1 rfl) ?_
  refine lv_iload_n hx hb dX7_stepped_2 rfl (lv_at hl 2 rfl) ?_
  obtain ⟨hin, h⟩ := gd_o h
  refine M_ld2 hC hw hin dX7_stepped_3 ?_
  refine lv_iload_n hx hb dX7_stepped_4 rfl (lv_at hl 3 rfl) ?_
  obtain ⟨r1, hc, h⟩ := bd1_o h
  refine go_i (run_V (As := [.int (ra σ 1 a1), .int a2]) (rest := []) hC hw (c_X7_moved l D q k N σ (ra σ 1 a1) a2 r1 hc) kw_265 kw_267 kw_268 kw_246 kw_266 hd_X7_moved ⟨rfl, rfl⟩ ⟨Nat.le_of_ble_eq_true rfl, Nat.le_of_ble_eq_true rfl⟩ 0 rfl rfl rfl hl.1 rfl (Nat.le_of_ble_eq_true rfl) dX7_stepped_5 ⟨Nat.zero_le _, Nat.zero_le _⟩) hw (fun H locs hw => ?_)
  refine lv_istore (lv' := [(4, .int r1), (0, .ref (q 0)), (1, .ref (q 2)), (2, .int a1), (3, .int a2)]) hx hb dX7_stepped_8 hl (by decide) rfl (fun ls hl => ?_)
  refine lv_aload_n hx hb dX7_stepped_10 rfl (lv_at hl 1 rfl) ?_
  refine M_g_X7_87 hC hw dX7_stepped_11 ?_
  refine lv_topi (fun y2 ey2 => ?_)
  have h := nm_o h y2 ey2
  refine lv_istore (lv' := [(5, .int y2), (4, .int r1), (0, .ref (q 0)), (1, .ref (q 2)), (2, .int a1), (3, .int a2)]) hx hb dX7_stepped_14 hl (by decide) rfl (fun ls hl => ?_)
  refine lv_iconst (v := 0) hx hb dX7_stepped_16 (by decide) ?_
  refine lv_istore (lv' := [(6, .int (0 : Int32)), (5, .int y2), (4, .int r1), (0, .ref (q 0)), (1, .ref (q 2)), (2, .int a1), (3, .int a2)]) hx hb dX7_stepped_17 hl (by decide) rfl (fun ls hl => ?_)
  exact w_X7_stepped_a2_19 hC N σ a1 r1 r N y2 (0 : Int32) _ _ ls h hw (lv_sub hl [3, 4, 5, 2, 1, 0] rfl)
/-! SlideBoardsModel.slide(III)I -/
abbrev rm_X7_slide : Room := { frames := 3, cells := 0, slots := 0, locals := 73 }
def lp_X7_slide_48 (N : Nat) (x1 : Int32) (x2 : Int32) (x3 : Int32) : Nat → St → Int32 → Int32 → Option (Int32 × St)
  | 0, _, _, _ => none
  | n + 1, σ, x4, x5 => if x5 = 0 then (some (x4, σ)) else (bd1 (f_X7_stepped_a2 N σ x1 x2) (fun r4 => if r4 = 0 then (if (0 : Int32) = 0 then (lp_X7_slide_48 N x1 x2 x3 n σ x4 (0 : Int32)) else (gd (okx x1 8) (nm (sA σ 1 x1 r4) (fun σ5 => nm (x4 + (1 : Int32)) (fun y6 => if x3 ≤ y6 then (lp_X7_slide_48 N x1 x2 x3 n σ5 y6 (0 : Int32)) else (lp_X7_slide_48 N x1 x2 x3 n σ5 y6 (1 : Int32))))))) else (if (1 : Int32) = 0 then (lp_X7_slide_48 N x1 x2 x3 n σ x4 (1 : Int32)) else (gd (okx x1 8) (nm (sA σ 1 x1 r4) (fun σ7 => nm (x4 + (1 : Int32)) (fun y8 => if x3 ≤ y8 then (lp_X7_slide_48 N x1 x2 x3 n σ7 y8 (0 : Int32)) else (lp_X7_slide_48 N x1 x2 x3 n σ7 y8 (1 : Int32)))))))))
set_option maxRecDepth 100000 in
set_option maxHeartbeats 4000000 in
theorem w_X7_slide_48 {p : Program} {l : Launch} {e : Env} {s : State} {m : MethodId} {below : List Frame} {meth : Method} {c : Code} {args : Array Value} {D : va_G} {q : Nat → Nat} {k : cK} {ws0 : va_W} (hC : Cx p s m meth c cX7_slide RX7 7 (some .int)) (N : Nat) (x1 : Int32) (x2 : Int32) (x3 : Int32) (r : Int32) (σ' : St) :
    ∀ (n : Nat) (σ : St) (x4 : Int32) (x5 : Int32) (H : Heap) (locs : List Loc) (ls : Array Slot), lp_X7_slide_48 N x1 x2 x3 n σ x4 x5 = some (r, σ') → WH D (MW q k σ) k (AQ ws0) s s.heap H locs → lv_has ls 7 [(0, .ref (q 0)), (1, .int x1), (2, .int x2), (3, .int x3), (4, .int x4), (5, .int x5)] → W p l e rm_X7_slide s m args below meth c H locs 0 0 (MQ below (QR D ws0 (MW q k σ') (some (.int r))) args s 0 0 (AQ ws0)) (F0 m 48 ls []) := by
  have hx := hC.1
  have hb := hC.2.1
  intro n
  induction n with
  | zero =>
    intro σ x4 x5 H locs ls h
    cases h
  | succ n ih =>
    intro σ x4 x5 H locs ls h hw hl
    rw [lp_X7_slide_48] at h
    refine lv_iload hx hb dX7_slide_48 (lv_at hl 5 rfl) ?_
    refine lv_if_eq (tgt := 112) hx hb dX7_slide_50 (by decide) (fun c => ?_) (fun c => ?_)
    · have h := if_t h c
      refine lv_iload hx hb dX7_slide_112 (lv_at hl 4 rfl) ?_
      cases h
      exact ret_i hC hw dX7_slide_114
    · have h := if_f h c
      refine lv_aload_n hx hb dX7_slide_53 rfl (lv_at hl 0 rfl) ?_
      refine lv_aload_n hx hb dX7_slide_54 rfl (lv_at hl 0 rfl) ?_
      refine M_g_X7_13 hC hw dX7_slide_55 ?_
      refine lv_iload_n hx hb dX7_slide_58 rfl (lv_at hl 1 rfl) ?_
      refine lv_iload_n hx hb dX7_slide_59 rfl (lv_at hl 2 rfl) ?_
      obtain ⟨r4, hc, h⟩ := bd1_o h
      refine go_i (run_V (As := [.ref (q 2), .int x1, .int x2]) (rest := []) hC hw (c_X7_stepped_a2 l D q k N σ x1 x2 r4 hc) kw_269 kw_271 kw_272 kw_246 kw_270 hd_X7_stepped ⟨rfl, rfl⟩ ⟨Nat.le_of_ble_eq_true rfl, Nat.le_of_ble_eq_true rfl⟩ 0 rfl rfl rfl hl.1 rfl (Nat.le_of_ble_eq_true rfl) dX7_slide_60 ⟨Nat.zero_le _, Nat.zero_le _⟩) hw (fun H locs hw => ?_)
      refine lv_istore (lv' := [(6, .int r4), (0, .ref (q 0)), (1, .int x1), (2, .int x2), (3, .int x3), (4, .int x4), (5, .int x5)]) hx hb dX7_slide_63 hl (by decide) rfl (fun ls hl => ?_)
      refine lv_iload hx hb dX7_slide_65 (lv_at hl 0 rfl) ?_
      refine lv_if_eq (tgt := 74) hx hb dX7_slide_67 (by decide) (fun c => ?_) (fun c => ?_)
      · have h := if_t h c
        refine lv_iconst (v := 0) hx hb dX7_slide_74 (by decide) ?_
        refine lv_istore (lv' := [(5, .int (0 : Int32)), (6, .int r4), (0, .ref (q 0)), (1, .int x1), (2, .int x2), (3, .int x3), (4, .int x4)]) hx hb dX7_slide_75 hl (by decide) rfl (fun ls hl => ?_)
        refine lv_iload hx hb dX7_slide_77 (lv_at hl 0 rfl) ?_
        refine lv_if_ne (tgt := 85) hx hb dX7_slide_79 (by decide) (fun c => ?_) (fun c => ?_)
        · have h := if_f h c
          refine lv_aload_n hx hb dX7_slide_85 rfl (lv_at hl 2 rfl) ?_
          refine M_g_X7_13 hC hw dX7_slide_86 ?_
          refine lv_iload_n hx hb dX7_slide_89 rfl (lv_at hl 3 rfl) ?_
          refine lv_iload hx hb dX7_slide_90 (lv_at hl 1 rfl) ?_
          obtain ⟨hin, h⟩ := gd_o h
          refine M_st2 hC hw hin dX7_slide_92 (fun σ5 eσ5 H locs hw => ?_)
          have h := nm_o h σ5 eσ5
          obtain ⟨y6, ey6⟩ : ∃ y : Int32, y = x4 + (1 : Int32) := ⟨_, rfl⟩
          have h := nm_o h y6 ey6
          refine lv_iinc (v := y6) (lv' := [(4, .int y6), (5, .int (0 : Int32)), (6, .int r4), (0, .ref (q 0)), (1, .int x1), (2, .int x2), (3, .int x3)]) hx hb dX7_slide_93 hl (k := 6) rfl (by rw [ey6]; rfl) (by decide) rfl (fun ls hl => ?_)
          refine lv_iload hx hb dX7_slide_96 (lv_at hl 0 rfl) ?_
          refine lv_iload_n hx hb dX7_slide_98 rfl (lv_at hl 6 rfl) ?_
          refine lv_icmp_ge (tgt := 106) hx hb dX7_slide_99 (by decide) (fun c => ?_) (fun c => ?_)
          · have h := if_t h c
            refine lv_iconst (v := 0) hx hb dX7_slide_106 (by decide) ?_
            refine lv_istore (lv' := [(5, .int (0 : Int32)), (4, .int y6), (6, .int r4), (0, .ref (q 0)), (1, .int x1), (2, .int x2), (3, .int x3)]) hx hb dX7_slide_107 hl (by decide) rfl (fun ls hl => ?_)
            refine lv_goto (tgt := 48) hx hb dX7_slide_109 (by decide) ?_
            exact ih σ5 y6 (0 : Int32) _ _ ls h hw (lv_sub hl [3, 4, 5, 6, 1, 0] rfl)
          · have h := if_f h c
            refine lv_iconst (v := 1) hx hb dX7_slide_102 (by decide) ?_
            refine lv_goto (tgt := 107) hx hb dX7_slide_103 (by decide) ?_
            refine lv_istore (lv' := [(5, .int (1 : Int32)), (4, .int y6), (6, .int r4), (0, .ref (q 0)), (1, .int x1), (2, .int x2), (3, .int x3)]) hx hb dX7_slide_107 hl (by decide) rfl (fun ls hl => ?_)
            refine lv_goto (tgt := 48) hx hb dX7_slide_109 (by decide) ?_
            exact ih σ5 y6 (1 : Int32) _ _ ls h hw (lv_sub hl [3, 4, 5, 6, 1, 0] rfl)
        · have h := if_t h c
          refine lv_goto (tgt := 48) hx hb dX7_slide_82 (by decide) ?_
          exact ih σ x4 (0 : Int32) _ _ ls h hw (lv_sub hl [2, 3, 4, 5, 6, 0] rfl)
      · have h := if_f h c
        refine lv_iconst (v := 1) hx hb dX7_slide_70 (by decide) ?_
        refine lv_goto (tgt := 75) hx hb dX7_slide_71 (by decide) ?_
        refine lv_istore (lv' := [(5, .int (1 : Int32)), (6, .int r4), (0, .ref (q 0)), (1, .int x1), (2, .int x2), (3, .int x3), (4, .int x4)]) hx hb dX7_slide_75 hl (by decide) rfl (fun ls hl => ?_)
        refine lv_iload hx hb dX7_slide_77 (lv_at hl 0 rfl) ?_
        refine lv_if_ne (tgt := 85) hx hb dX7_slide_79 (by decide) (fun c => ?_) (fun c => ?_)
        · have h := if_f h c
          refine lv_aload_n hx hb dX7_slide_85 rfl (lv_at hl 2 rfl) ?_
          refine M_g_X7_13 hC hw dX7_slide_86 ?_
          refine lv_iload_n hx hb dX7_slide_89 rfl (lv_at hl 3 rfl) ?_
          refine lv_iload hx hb dX7_slide_90 (lv_at hl 1 rfl) ?_
          obtain ⟨hin, h⟩ := gd_o h
          refine M_st2 hC hw hin dX7_slide_92 (fun σ7 eσ7 H locs hw => ?_)
          have h := nm_o h σ7 eσ7
          obtain ⟨y8, ey8⟩ : ∃ y : Int32, y = x4 + (1 : Int32) := ⟨_, rfl⟩
          have h := nm_o h y8 ey8
          refine lv_iinc (v := y8) (lv' := [(4, .int y8), (5, .int (1 : Int32)), (6, .int r4), (0, .ref (q 0)), (1, .int x1), (2, .int x2), (3, .int x3)]) hx hb dX7_slide_93 hl (k := 6) rfl (by rw [ey8]; rfl) (by decide) rfl (fun ls hl => ?_)
          refine lv_iload hx hb dX7_slide_96 (lv_at hl 0 rfl) ?_
          refine lv_iload_n hx hb dX7_slide_98 rfl (lv_at hl 6 rfl) ?_
          refine lv_icmp_ge (tgt := 106) hx hb dX7_slide_99 (by decide) (fun c => ?_) (fun c => ?_)
          · have h := if_t h c
            refine lv_iconst (v := 0) hx hb dX7_slide_106 (by decide) ?_
            refine lv_istore (lv' := [(5, .int (0 : Int32)), (4, .int y8), (6, .int r4), (0, .ref (q 0)), (1, .int x1), (2, .int x2), (3, .int x3)]) hx hb dX7_slide_107 hl (by decide) rfl (fun ls hl => ?_)
            refine lv_goto (tgt := 48) hx hb dX7_slide_109 (by decide) ?_
            exact ih σ7 y8 (0 : Int32) _ _ ls h hw (lv_sub hl [3, 4, 5, 6, 1, 0] rfl)
          · have h := if_f h c
            refine lv_iconst (v := 1) hx hb dX7_slide_102 (by decide) ?_
            refine lv_goto (tgt := 107) hx hb dX7_slide_103 (by decide) ?_
            refine lv_istore (lv' := [(5, .int (1 : Int32)), (4, .int y8), (6, .int r4), (0, .ref (q 0)), (1, .int x1), (2, .int x2), (3, .int x3)]) hx hb dX7_slide_107 hl (by decide) rfl (fun ls hl => ?_)
            refine lv_goto (tgt := 48) hx hb dX7_slide_109 (by decide) ?_
            exact ih σ7 y8 (1 : Int32) _ _ ls h hw (lv_sub hl [3, 4, 5, 6, 1, 0] rfl)
        · have h := if_t h c
          refine lv_goto (tgt := 48) hx hb dX7_slide_82 (by decide) ?_
          exact ih σ x4 (1 : Int32) _ _ ls h hw (lv_sub hl [2, 3, 4, 5, 6, 0] rfl)
def f_X7_slide (N : Nat) (σ : St) (a0 : Int32) (a1 : Int32) (a2 : Int32) : Option (Int32 × St) :=
  bd1 (f_X7_isBlock N σ a0) (fun r1 => if r1 = 0 then (bd (f_X7_throwsIf N σ (1 : Int32) (1 : Int32)) (fun r2 σ3 => if r2 = 0 then (if a2 ≤ (0 : Int32) then (lp_X7_slide_48 N a0 a1 a2 N σ3 (0 : Int32) (0 : Int32)) else (lp_X7_slide_48 N a0 a1 a2 N σ3 (0 : Int32) (1 : Int32))) else (some ((0 : Int32), σ3)))) else (if a1 < 0 then (bd (f_X7_throwsIf N σ (1 : Int32) (1 : Int32)) (fun r9 σ10 => if r9 = 0 then (if a2 ≤ (0 : Int32) then (lp_X7_slide_48 N a0 a1 a2 N σ10 (0 : Int32) (0 : Int32)) else (lp_X7_slide_48 N a0 a1 a2 N σ10 (0 : Int32) (1 : Int32))) else (some ((0 : Int32), σ10)))) else (if a1 ≤ (3 : Int32) then (bd (f_X7_throwsIf N σ (1 : Int32) (0 : Int32)) (fun r11 σ12 => if r11 = 0 then (if a2 ≤ (0 : Int32) then (lp_X7_slide_48 N a0 a1 a2 N σ12 (0 : Int32) (0 : Int32)) else (lp_X7_slide_48 N a0 a1 a2 N σ12 (0 : Int32) (1 : Int32))) else (some ((0 : Int32), σ12)))) else (bd (f_X7_throwsIf N σ (1 : Int32) (1 : Int32)) (fun r13 σ14 => if r13 = 0 then (if a2 ≤ (0 : Int32) then (lp_X7_slide_48 N a0 a1 a2 N σ14 (0 : Int32) (0 : Int32)) else (lp_X7_slide_48 N a0 a1 a2 N σ14 (0 : Int32) (1 : Int32))) else (some ((0 : Int32), σ14)))))))
set_option maxRecDepth 100000 in
set_option maxHeartbeats 4000000 in
theorem c_X7_slide (l : Launch) (D : va_G) (q : Nat → Nat) (k : cK) (N : Nat) (σ : St) (a0 : Int32) (a1 : Int32) (a2 : Int32) (r : Int32) (σ' : St) (h : f_X7_slide N σ a0 a1 a2 = some (r, σ')) :
    Met l yX7_slide [.code yX7_slide cX7_slide 7 (some .int)] rm_X7_slide (PC D (MW q k σ) k [.ref (q 0), .int a0, .int a1, .int a2]) (QR D (MW q k σ) (MW q k σ') (some (.int r))) 0 0 (AQ (MW q k σ)) := by
  refine met_of (by decide) (Nat.le_of_ble_eq_true rfl) ?_
  intro p e s m below meth c hC hw ls hl
  have hC : Cx p s m meth c cX7_slide RX7 7 (some .int) := hC
  have hl : lv_has ls 7 [(0, .ref (q 0)), (1, .int a0), (2, .int a1), (3, .int a2)] := hl
  have hx := hC.1
  have hb := hC.2.1
  unfold f_X7_slide at h
  refine lv_aload_n hx hb dX7_slide_0 rfl (lv_at hl 0 rfl) ?_
  refine lv_iconst (v := 1) hx hb dX7_slide_1 (by decide) ?_
  refine lv_aload_n hx hb dX7_slide_2 rfl (lv_at hl 0 rfl) ?_
  refine lv_iload_n hx hb dX7_slide_3 rfl (lv_at hl 1 rfl) ?_
  obtain ⟨r1, hc, h⟩ := bd1_o h
  refine go_i (run_V (As := [.int a0]) (rest := [.int (1 : Int32), .ref (q 0)]) hC hw (c_X7_isBlock l D q k N σ a0 r1 hc) kw_258 kw_260 kw_261 kw_246 kw_259 hd_X7_isBlock ⟨rfl, rfl⟩ ⟨Nat.le_of_ble_eq_true rfl, Nat.le_of_ble_eq_true rfl⟩ 0 rfl rfl rfl hl.1 rfl (Nat.le_of_ble_eq_true rfl) dX7_slide_4 ⟨Nat.zero_le _, Nat.zero_le _⟩) hw (fun H locs hw => ?_)
  refine lv_if_eq (tgt := 19) hx hb dX7_slide_7 (by decide) (fun c => ?_) (fun c => ?_)
  · have h := if_t h c
    refine lv_iconst (v := 1) hx hb dX7_slide_19 (by decide) ?_
    refine lv_goto (tgt := 24) hx hb dX7_slide_20 (by decide) ?_
    obtain ⟨r2, σ3, hc, h⟩ := bd_o h
    refine go_i (run_V (As := [.int (1 : Int32), .int (1 : Int32)]) (rest := []) hC hw (c_X7_throwsIf l D q k N σ (1 : Int32) (1 : Int32) r2 σ3 hc) kw_250 kw_252 kw_253 kw_246 kw_251 hd_X7_throwsIf ⟨rfl, rfl⟩ ⟨Nat.le_of_ble_eq_true rfl, Nat.le_of_ble_eq_true rfl⟩ 0 rfl rfl rfl hl.1 rfl (Nat.le_of_ble_eq_true rfl) dX7_slide_24 ⟨Nat.zero_le _, Nat.zero_le _⟩) hw (fun H locs hw => ?_)
    refine lv_if_eq (tgt := 32) hx hb dX7_slide_27 (by decide) (fun c => ?_) (fun c => ?_)
    · have h := if_t h c
      refine lv_iconst (v := 0) hx hb dX7_slide_32 (by decide) ?_
      refine lv_istore (lv' := [(4, .int (0 : Int32)), (0, .ref (q 0)), (1, .int a0), (2, .int a1), (3, .int a2)]) hx hb dX7_slide_33 hl (by decide) rfl (fun ls hl => ?_)
      refine lv_iload hx hb dX7_slide_35 (lv_at hl 0 rfl) ?_
      refine lv_iload_n hx hb dX7_slide_37 rfl (lv_at hl 4 rfl) ?_
      refine lv_icmp_ge (tgt := 45) hx hb dX7_slide_38 (by decide) (fun c => ?_) (fun c => ?_)
      · have h := if_t h c
        refine lv_iconst (v := 0) hx hb dX7_slide_45 (by decide) ?_
        refine lv_istore (lv' := [(5, .int (0 : Int32)), (4, .int (0 : Int32)), (0, .ref (q 0)), (1, .int a0), (2, .int a1), (3, .int a2)]) hx hb dX7_slide_46 hl (by decide) rfl (fun ls hl => ?_)
        exact w_X7_slide_48 hC N a0 a1 a2 r σ' N σ3 (0 : Int32) (0 : Int32) _ _ ls h hw (lv_sub hl [2, 3, 4, 5, 1, 0] rfl)
      · have h := if_f h c
        refine lv_iconst (v := 1) hx hb dX7_slide_41 (by decide) ?_
        refine lv_goto (tgt := 46) hx hb dX7_slide_42 (by decide) ?_
        refine lv_istore (lv' := [(5, .int (1 : Int32)), (4, .int (0 : Int32)), (0, .ref (q 0)), (1, .int a0), (2, .int a1), (3, .int a2)]) hx hb dX7_slide_46 hl (by decide) rfl (fun ls hl => ?_)
        exact w_X7_slide_48 hC N a0 a1 a2 r σ' N σ3 (0 : Int32) (1 : Int32) _ _ ls h hw (lv_sub hl [2, 3, 4, 5, 1, 0] rfl)
    · have h := if_f h c
      refine lv_iconst (v := 0) hx hb dX7_slide_30 (by decide) ?_
      cases h
      exact ret_i hC hw dX7_slide_31
  · have h := if_f h c
    refine lv_iload_n hx hb dX7_slide_10 rfl (lv_at hl 2 rfl) ?_
    refine lv_if_lt (tgt := 19) hx hb dX7_slide_11 (by decide) (fun c => ?_) (fun c => ?_)
    · have h := if_t h c
      refine lv_iconst (v := 1) hx hb dX7_slide_19 (by decide) ?_
      refine lv_goto (tgt := 24) hx hb dX7_slide_20 (by decide) ?_
      obtain ⟨r9, σ10, hc, h⟩ := bd_o h
      refine go_i (run_V (As := [.int (1 : Int32), .int (1 : Int32)]) (rest := []) hC hw (c_X7_throwsIf l D q k N σ (1 : Int32) (1 : Int32) r9 σ10 hc) kw_250 kw_252 kw_253 kw_246 kw_251 hd_X7_throwsIf ⟨rfl, rfl⟩ ⟨Nat.le_of_ble_eq_true rfl, Nat.le_of_ble_eq_true rfl⟩ 0 rfl rfl rfl hl.1 rfl (Nat.le_of_ble_eq_true rfl) dX7_slide_24 ⟨Nat.zero_le _, Nat.zero_le _⟩) hw (fun H locs hw => ?_)
      refine lv_if_eq (tgt := 32) hx hb dX7_slide_27 (by decide) (fun c => ?_) (fun c => ?_)
      · have h := if_t h c
        refine lv_iconst (v := 0) hx hb dX7_slide_32 (by decide) ?_
        refine lv_istore (lv' := [(4, .int (0 : Int32)), (0, .ref (q 0)), (1, .int a0), (2, .int a1), (3, .int a2)]) hx hb dX7_slide_33 hl (by decide) rfl (fun ls hl => ?_)
        refine lv_iload hx hb dX7_slide_35 (lv_at hl 0 rfl) ?_
        refine lv_iload_n hx hb dX7_slide_37 rfl (lv_at hl 4 rfl) ?_
        refine lv_icmp_ge (tgt := 45) hx hb dX7_slide_38 (by decide) (fun c => ?_) (fun c => ?_)
        · have h := if_t h c
          refine lv_iconst (v := 0) hx hb dX7_slide_45 (by decide) ?_
          refine lv_istore (lv' := [(5, .int (0 : Int32)), (4, .int (0 : Int32)), (0, .ref (q 0)), (1, .int a0), (2, .int a1), (3, .int a2)]) hx hb dX7_slide_46 hl (by decide) rfl (fun ls hl => ?_)
          exact w_X7_slide_48 hC N a0 a1 a2 r σ' N σ10 (0 : Int32) (0 : Int32) _ _ ls h hw (lv_sub hl [2, 3, 4, 5, 1, 0] rfl)
        · have h := if_f h c
          refine lv_iconst (v := 1) hx hb dX7_slide_41 (by decide) ?_
          refine lv_goto (tgt := 46) hx hb dX7_slide_42 (by decide) ?_
          refine lv_istore (lv' := [(5, .int (1 : Int32)), (4, .int (0 : Int32)), (0, .ref (q 0)), (1, .int a0), (2, .int a1), (3, .int a2)]) hx hb dX7_slide_46 hl (by decide) rfl (fun ls hl => ?_)
          exact w_X7_slide_48 hC N a0 a1 a2 r σ' N σ10 (0 : Int32) (1 : Int32) _ _ ls h hw (lv_sub hl [2, 3, 4, 5, 1, 0] rfl)
      · have h := if_f h c
        refine lv_iconst (v := 0) hx hb dX7_slide_30 (by decide) ?_
        cases h
        exact ret_i hC hw dX7_slide_31
    · have h := if_f h c
      refine lv_iload_n hx hb dX7_slide_14 rfl (lv_at hl 2 rfl) ?_
      refine lv_iconst (v := 3) hx hb dX7_slide_15 (by decide) ?_
      refine lv_icmp_le (tgt := 23) hx hb dX7_slide_16 (by decide) (fun c => ?_) (fun c => ?_)
      · have h := if_t h c
        refine lv_iconst (v := 0) hx hb dX7_slide_23 (by decide) ?_
        obtain ⟨r11, σ12, hc, h⟩ := bd_o h
        refine go_i (run_V (As := [.int (1 : Int32), .int (0 : Int32)]) (rest := []) hC hw (c_X7_throwsIf l D q k N σ (1 : Int32) (0 : Int32) r11 σ12 hc) kw_250 kw_252 kw_253 kw_246 kw_251 hd_X7_throwsIf ⟨rfl, rfl⟩ ⟨Nat.le_of_ble_eq_true rfl, Nat.le_of_ble_eq_true rfl⟩ 0 rfl rfl rfl hl.1 rfl (Nat.le_of_ble_eq_true rfl) dX7_slide_24 ⟨Nat.zero_le _, Nat.zero_le _⟩) hw (fun H locs hw => ?_)
        refine lv_if_eq (tgt := 32) hx hb dX7_slide_27 (by decide) (fun c => ?_) (fun c => ?_)
        · have h := if_t h c
          refine lv_iconst (v := 0) hx hb dX7_slide_32 (by decide) ?_
          refine lv_istore (lv' := [(4, .int (0 : Int32)), (0, .ref (q 0)), (1, .int a0), (2, .int a1), (3, .int a2)]) hx hb dX7_slide_33 hl (by decide) rfl (fun ls hl => ?_)
          refine lv_iload hx hb dX7_slide_35 (lv_at hl 0 rfl) ?_
          refine lv_iload_n hx hb dX7_slide_37 rfl (lv_at hl 4 rfl) ?_
          refine lv_icmp_ge (tgt := 45) hx hb dX7_slide_38 (by decide) (fun c => ?_) (fun c => ?_)
          · have h := if_t h c
            refine lv_iconst (v := 0) hx hb dX7_slide_45 (by decide) ?_
            refine lv_istore (lv' := [(5, .int (0 : Int32)), (4, .int (0 : Int32)), (0, .ref (q 0)), (1, .int a0), (2, .int a1), (3, .int a2)]) hx hb dX7_slide_46 hl (by decide) rfl (fun ls hl => ?_)
            exact w_X7_slide_48 hC N a0 a1 a2 r σ' N σ12 (0 : Int32) (0 : Int32) _ _ ls h hw (lv_sub hl [2, 3, 4, 5, 1, 0] rfl)
          · have h := if_f h c
            refine lv_iconst (v := 1) hx hb dX7_slide_41 (by decide) ?_
            refine lv_goto (tgt := 46) hx hb dX7_slide_42 (by decide) ?_
            refine lv_istore (lv' := [(5, .int (1 : Int32)), (4, .int (0 : Int32)), (0, .ref (q 0)), (1, .int a0), (2, .int a1), (3, .int a2)]) hx hb dX7_slide_46 hl (by decide) rfl (fun ls hl => ?_)
            exact w_X7_slide_48 hC N a0 a1 a2 r σ' N σ12 (0 : Int32) (1 : Int32) _ _ ls h hw (lv_sub hl [2, 3, 4, 5, 1, 0] rfl)
        · have h := if_f h c
          refine lv_iconst (v := 0) hx hb dX7_slide_30 (by decide) ?_
          cases h
          exact ret_i hC hw dX7_slide_31
      · have h := if_f h c
        refine lv_iconst (v := 1) hx hb dX7_slide_19 (by decide) ?_
        refine lv_goto (tgt := 24) hx hb dX7_slide_20 (by decide) ?_
        obtain ⟨r13, σ14, hc, h⟩ := bd_o h
        refine go_i (run_V (As := [.int (1 : Int32), .int (1 : Int32)]) (rest := []) hC hw (c_X7_throwsIf l D q k N σ (1 : Int32) (1 : Int32) r13 σ14 hc) kw_250 kw_252 kw_253 kw_246 kw_251 hd_X7_throwsIf ⟨rfl, rfl⟩ ⟨Nat.le_of_ble_eq_true rfl, Nat.le_of_ble_eq_true rfl⟩ 0 rfl rfl rfl hl.1 rfl (Nat.le_of_ble_eq_true rfl) dX7_slide_24 ⟨Nat.zero_le _, Nat.zero_le _⟩) hw (fun H locs hw => ?_)
        refine lv_if_eq (tgt := 32) hx hb dX7_slide_27 (by decide) (fun c => ?_) (fun c => ?_)
        · have h := if_t h c
          refine lv_iconst (v := 0) hx hb dX7_slide_32 (by decide) ?_
          refine lv_istore (lv' := [(4, .int (0 : Int32)), (0, .ref (q 0)), (1, .int a0), (2, .int a1), (3, .int a2)]) hx hb dX7_slide_33 hl (by decide) rfl (fun ls hl => ?_)
          refine lv_iload hx hb dX7_slide_35 (lv_at hl 0 rfl) ?_
          refine lv_iload_n hx hb dX7_slide_37 rfl (lv_at hl 4 rfl) ?_
          refine lv_icmp_ge (tgt := 45) hx hb dX7_slide_38 (by decide) (fun c => ?_) (fun c => ?_)
          · have h := if_t h c
            refine lv_iconst (v := 0) hx hb dX7_slide_45 (by decide) ?_
            refine lv_istore (lv' := [(5, .int (0 : Int32)), (4, .int (0 : Int32)), (0, .ref (q 0)), (1, .int a0), (2, .int a1), (3, .int a2)]) hx hb dX7_slide_46 hl (by decide) rfl (fun ls hl => ?_)
            exact w_X7_slide_48 hC N a0 a1 a2 r σ' N σ14 (0 : Int32) (0 : Int32) _ _ ls h hw (lv_sub hl [2, 3, 4, 5, 1, 0] rfl)
          · have h := if_f h c
            refine lv_iconst (v := 1) hx hb dX7_slide_41 (by decide) ?_
            refine lv_goto (tgt := 46) hx hb dX7_slide_42 (by decide) ?_
            refine lv_istore (lv' := [(5, .int (1 : Int32)), (4, .int (0 : Int32)), (0, .ref (q 0)), (1, .int a0), (2, .int a1), (3, .int a2)]) hx hb dX7_slide_46 hl (by decide) rfl (fun ls hl => ?_)
            exact w_X7_slide_48 hC N a0 a1 a2 r σ' N σ14 (0 : Int32) (1 : Int32) _ _ ls h hw (lv_sub hl [2, 3, 4, 5, 1, 0] rfl)
        · have h := if_f h c
          refine lv_iconst (v := 0) hx hb dX7_slide_30 (by decide) ?_
          cases h
          exact ret_i hC hw dX7_slide_31
/-! SlideBoardsModel.addGoal(III)I -/
abbrev rm_X7_addGoal : Room := { frames := 0, cells := 0, slots := 0, locals := 0 }
def f_X7_addGoal (N : Nat) (σ : St) (a0 : Int32) (a1 : Int32) (a2 : Int32) : Option (Int32 × St) :=
  if (σ.1 5) = (6 : Int32) then (some ((-1 : Int32), σ)) else (gd (okx (σ.1 5) 6) (nm (sA σ 2 (σ.1 5) a0) (fun σ1 => gd (okx (σ1.1 5) 6) (nm (sA σ1 3 (σ1.1 5) (((σ1.1 1) * a2) + a1)) (fun σ2 => nm (sI σ2 5 ((σ2.1 5) + (1 : Int32))) (fun σ3 => some ((σ3.1 5) - (1 : Int32), σ3)))))))
set_option maxRecDepth 100000 in
set_option maxHeartbeats 4000000 in
theorem c_X7_addGoal (l : Launch) (D : va_G) (q : Nat → Nat) (k : cK) (N : Nat) (σ : St) (a0 : Int32) (a1 : Int32) (a2 : Int32) (r : Int32) (σ' : St) (h : f_X7_addGoal N σ a0 a1 a2 = some (r, σ')) :
    Met l yX7_addGoal [.code yX7_addGoal cX7_addGoal 4 (some .int)] rm_X7_addGoal (PC D (MW q k σ) k [.ref (q 0), .int a0, .int a1, .int a2]) (QR D (MW q k σ) (MW q k σ') (some (.int r))) 0 0 (AQ (MW q k σ)) := by
  refine met_of (by decide) (Nat.le_of_ble_eq_true rfl) ?_
  intro p e s m below meth c hC hw ls hl
  have hC : Cx p s m meth c cX7_addGoal RX7 4 (some .int) := hC
  have hl : lv_has ls 4 [(0, .ref (q 0)), (1, .int a0), (2, .int a1), (3, .int a2)] := hl
  have hx := hC.1
  have hb := hC.2.1
  unfold f_X7_addGoal at h
  refine lv_aload_n hx hb dX7_addGoal_0 rfl (lv_at hl 0 rfl) ?_
  refine M_g_X7_122 hC hw dX7_addGoal_1 ?_
  refine lv_bipush (v := 6) hx hb dX7_addGoal_4 (by decide) ?_
  refine lv_icmp_ne (tgt := 11) hx hb dX7_addGoal_6 (by decide) (fun c => ?_) (fun c => ?_)
  · have h := if_f h c
    refine lv_aload_n hx hb dX7_addGoal_11 rfl (lv_at hl 0 rfl) ?_
    refine M_g_X7_16 hC hw dX7_addGoal_12 ?_
    refine lv_aload_n hx hb dX7_addGoal_15 rfl (lv_at hl 0 rfl) ?_
    refine M_g_X7_122 hC hw dX7_addGoal_16 ?_
    refine lv_iload_n hx hb dX7_addGoal_19 rfl (lv_at hl 1 rfl) ?_
    obtain ⟨hin, h⟩ := gd_o h
    refine M_st3 hC hw hin dX7_addGoal_20 (fun σ1 eσ1 H locs hw => ?_)
    have h := nm_o h σ1 eσ1
    refine lv_aload_n hx hb dX7_addGoal_21 rfl (lv_at hl 0 rfl) ?_
    refine M_g_X7_19 hC hw dX7_addGoal_22 ?_
    refine lv_aload_n hx hb dX7_addGoal_25 rfl (lv_at hl 0 rfl) ?_
    refine M_g_X7_122 hC hw dX7_addGoal_26 ?_
    refine lv_aload_n hx hb dX7_addGoal_29 rfl (lv_at hl 0 rfl) ?_
    refine M_g_X7_74 hC hw dX7_addGoal_30 ?_
    refine lv_iload_n hx hb dX7_addGoal_33 rfl (lv_at hl 3 rfl) ?_
    refine lv_imul hx hb dX7_addGoal_34 ?_
    refine lv_iload_n hx hb dX7_addGoal_35 rfl (lv_at hl 2 rfl) ?_
    refine lv_iadd hx hb dX7_addGoal_36 ?_
    obtain ⟨hin, h⟩ := gd_o h
    refine M_st4 hC hw hin dX7_addGoal_37 (fun σ2 eσ2 H locs hw => ?_)
    have h := nm_o h σ2 eσ2
    refine lv_aload_n hx hb dX7_addGoal_38 rfl (lv_at hl 0 rfl) ?_
    refine lv_dup hx hb dX7_addGoal_39 rfl ?_
    refine M_g_X7_122 hC hw dX7_addGoal_40 ?_
    refine lv_iconst (v := 1) hx hb dX7_addGoal_43 (by decide) ?_
    refine lv_iadd hx hb dX7_addGoal_44 ?_
    refine M_p_X7_122 hC hw dX7_addGoal_45 (fun σ3 eσ3 H locs hw => ?_)
    have h := nm_o h σ3 eσ3
    refine lv_aload_n hx hb dX7_addGoal_48 rfl (lv_at hl 0 rfl) ?_
    refine M_g_X7_122 hC hw dX7_addGoal_49 ?_
    refine lv_iconst (v := 1) hx hb dX7_addGoal_52 (by decide) ?_
    refine lv_isub hx hb dX7_addGoal_53 ?_
    cases h
    exact ret_i hC hw dX7_addGoal_54
  · have h := if_t h c
    refine lv_iconst (v := -1) hx hb dX7_addGoal_9 (by decide) ?_
    cases h
    exact ret_i hC hw dX7_addGoal_10
/-! SlideBoardsModel.goal(III)I -/
abbrev rm_X7_goal : Room := { frames := 1, cells := 0, slots := 0, locals := 23 }
def f_X7_goal (N : Nat) (σ : St) (a0 : Int32) (a1 : Int32) (a2 : Int32) : Option (Int32 × St) :=
  bd1 (f_X7_isBlock N σ a0) (fun r1 => if r1 = 0 then (bd (f_X7_throwsIf N σ (1 : Int32) (1 : Int32)) (fun r2 σ3 => if r2 = 0 then (bd (f_X7_addGoal N σ3 a0 a1 a2) (fun r4 σ5 => some (r4, σ5))) else (some ((0 : Int32), σ3)))) else (bd1 (f_X7_isCell N σ a1 a2) (fun r6 => if r6 = 0 then (bd (f_X7_throwsIf N σ (1 : Int32) (1 : Int32)) (fun r11 σ12 => if r11 = 0 then (bd (f_X7_addGoal N σ12 a0 a1 a2) (fun r13 σ14 => some (r13, σ14))) else (some ((0 : Int32), σ12)))) else (bd (f_X7_throwsIf N σ (1 : Int32) (0 : Int32)) (fun r7 σ8 => if r7 = 0 then (bd (f_X7_addGoal N σ8 a0 a1 a2) (fun r9 σ10 => some (r9, σ10))) else (some ((0 : Int32), σ8)))))))
set_option maxRecDepth 100000 in
set_option maxHeartbeats 4000000 in
theorem c_X7_goal (l : Launch) (D : va_G) (q : Nat → Nat) (k : cK) (N : Nat) (σ : St) (a0 : Int32) (a1 : Int32) (a2 : Int32) (r : Int32) (σ' : St) (h : f_X7_goal N σ a0 a1 a2 = some (r, σ')) :
    Met l yX7_goal [.code yX7_goal cX7_goal 4 (some .int)] rm_X7_goal (PC D (MW q k σ) k [.ref (q 0), .int a0, .int a1, .int a2]) (QR D (MW q k σ) (MW q k σ') (some (.int r))) 0 0 (AQ (MW q k σ)) := by
  refine met_of (by decide) (Nat.le_of_ble_eq_true rfl) ?_
  intro p e s m below meth c hC hw ls hl
  have hC : Cx p s m meth c cX7_goal RX7 4 (some .int) := hC
  have hl : lv_has ls 4 [(0, .ref (q 0)), (1, .int a0), (2, .int a1), (3, .int a2)] := hl
  have hx := hC.1
  have hb := hC.2.1
  unfold f_X7_goal at h
  refine lv_aload_n hx hb dX7_goal_0 rfl (lv_at hl 0 rfl) ?_
  refine lv_iconst (v := 1) hx hb dX7_goal_1 (by decide) ?_
  refine lv_aload_n hx hb dX7_goal_2 rfl (lv_at hl 0 rfl) ?_
  refine lv_iload_n hx hb dX7_goal_3 rfl (lv_at hl 1 rfl) ?_
  obtain ⟨r1, hc, h⟩ := bd1_o h
  refine go_i (run_V (As := [.int a0]) (rest := [.int (1 : Int32), .ref (q 0)]) hC hw (c_X7_isBlock l D q k N σ a0 r1 hc) kw_258 kw_260 kw_261 kw_246 kw_259 hd_X7_isBlock ⟨rfl, rfl⟩ ⟨Nat.le_of_ble_eq_true rfl, Nat.le_of_ble_eq_true rfl⟩ 0 rfl rfl rfl hl.1 rfl (Nat.le_of_ble_eq_true rfl) dX7_goal_4 ⟨Nat.zero_le _, Nat.zero_le _⟩) hw (fun H locs hw => ?_)
  refine lv_if_eq (tgt := 19) hx hb dX7_goal_7 (by decide) (fun c => ?_) (fun c => ?_)
  · have h := if_t h c
    refine lv_iconst (v := 1) hx hb dX7_goal_19 (by decide) ?_
    refine lv_goto (tgt := 24) hx hb dX7_goal_20 (by decide) ?_
    obtain ⟨r2, σ3, hc, h⟩ := bd_o h
    refine go_i (run_V (As := [.int (1 : Int32), .int (1 : Int32)]) (rest := []) hC hw (c_X7_throwsIf l D q k N σ (1 : Int32) (1 : Int32) r2 σ3 hc) kw_250 kw_252 kw_253 kw_246 kw_251 hd_X7_throwsIf ⟨rfl, rfl⟩ ⟨Nat.le_of_ble_eq_true rfl, Nat.le_of_ble_eq_true rfl⟩ 0 rfl rfl rfl hl.1 rfl (Nat.le_of_ble_eq_true rfl) dX7_goal_24 ⟨Nat.zero_le _, Nat.zero_le _⟩) hw (fun H locs hw => ?_)
    refine lv_if_eq (tgt := 32) hx hb dX7_goal_27 (by decide) (fun c => ?_) (fun c => ?_)
    · have h := if_t h c
      refine lv_aload_n hx hb dX7_goal_32 rfl (lv_at hl 0 rfl) ?_
      refine lv_iload_n hx hb dX7_goal_33 rfl (lv_at hl 1 rfl) ?_
      refine lv_iload_n hx hb dX7_goal_34 rfl (lv_at hl 2 rfl) ?_
      refine lv_iload_n hx hb dX7_goal_35 rfl (lv_at hl 3 rfl) ?_
      obtain ⟨r4, σ5, hc, h⟩ := bd_o h
      refine go_i (run_V (As := [.int a0, .int a1, .int a2]) (rest := []) hC hw (c_X7_addGoal l D q k N σ3 a0 a1 a2 r4 σ5 hc) kw_273 kw_275 kw_276 kw_246 kw_274 hd_X7_addGoal ⟨rfl, rfl⟩ ⟨Nat.le_of_ble_eq_true rfl, Nat.le_of_ble_eq_true rfl⟩ 0 rfl rfl rfl hl.1 rfl (Nat.le_of_ble_eq_true rfl) dX7_goal_36 ⟨Nat.zero_le _, Nat.zero_le _⟩) hw (fun H locs hw => ?_)
      cases h
      exact ret_i hC hw dX7_goal_39
    · have h := if_f h c
      refine lv_iconst (v := 0) hx hb dX7_goal_30 (by decide) ?_
      cases h
      exact ret_i hC hw dX7_goal_31
  · have h := if_f h c
    refine lv_aload_n hx hb dX7_goal_10 rfl (lv_at hl 0 rfl) ?_
    refine lv_iload_n hx hb dX7_goal_11 rfl (lv_at hl 2 rfl) ?_
    refine lv_iload_n hx hb dX7_goal_12 rfl (lv_at hl 3 rfl) ?_
    obtain ⟨r6, hc, h⟩ := bd1_o h
    refine go_i (run_V (As := [.int a1, .int a2]) (rest := [.int (1 : Int32), .ref (q 0)]) hC hw (c_X7_isCell l D q k N σ a1 a2 r6 hc) kw_245 kw_248 kw_249 kw_246 kw_247 hd_X7_isCell ⟨rfl, rfl⟩ ⟨Nat.le_of_ble_eq_true rfl, Nat.le_of_ble_eq_true rfl⟩ 0 rfl rfl rfl hl.1 rfl (Nat.le_of_ble_eq_true rfl) dX7_goal_13 ⟨Nat.zero_le _, Nat.zero_le _⟩) hw (fun H locs hw => ?_)
    refine lv_if_ne (tgt := 23) hx hb dX7_goal_16 (by decide) (fun c => ?_) (fun c => ?_)
    · have h := if_f h c
      refine lv_iconst (v := 0) hx hb dX7_goal_23 (by decide) ?_
      obtain ⟨r7, σ8, hc, h⟩ := bd_o h
      refine go_i (run_V (As := [.int (1 : Int32), .int (0 : Int32)]) (rest := []) hC hw (c_X7_throwsIf l D q k N σ (1 : Int32) (0 : Int32) r7 σ8 hc) kw_250 kw_252 kw_253 kw_246 kw_251 hd_X7_throwsIf ⟨rfl, rfl⟩ ⟨Nat.le_of_ble_eq_true rfl, Nat.le_of_ble_eq_true rfl⟩ 0 rfl rfl rfl hl.1 rfl (Nat.le_of_ble_eq_true rfl) dX7_goal_24 ⟨Nat.zero_le _, Nat.zero_le _⟩) hw (fun H locs hw => ?_)
      refine lv_if_eq (tgt := 32) hx hb dX7_goal_27 (by decide) (fun c => ?_) (fun c => ?_)
      · have h := if_t h c
        refine lv_aload_n hx hb dX7_goal_32 rfl (lv_at hl 0 rfl) ?_
        refine lv_iload_n hx hb dX7_goal_33 rfl (lv_at hl 1 rfl) ?_
        refine lv_iload_n hx hb dX7_goal_34 rfl (lv_at hl 2 rfl) ?_
        refine lv_iload_n hx hb dX7_goal_35 rfl (lv_at hl 3 rfl) ?_
        obtain ⟨r9, σ10, hc, h⟩ := bd_o h
        refine go_i (run_V (As := [.int a0, .int a1, .int a2]) (rest := []) hC hw (c_X7_addGoal l D q k N σ8 a0 a1 a2 r9 σ10 hc) kw_273 kw_275 kw_276 kw_246 kw_274 hd_X7_addGoal ⟨rfl, rfl⟩ ⟨Nat.le_of_ble_eq_true rfl, Nat.le_of_ble_eq_true rfl⟩ 0 rfl rfl rfl hl.1 rfl (Nat.le_of_ble_eq_true rfl) dX7_goal_36 ⟨Nat.zero_le _, Nat.zero_le _⟩) hw (fun H locs hw => ?_)
        cases h
        exact ret_i hC hw dX7_goal_39
      · have h := if_f h c
        refine lv_iconst (v := 0) hx hb dX7_goal_30 (by decide) ?_
        cases h
        exact ret_i hC hw dX7_goal_31
    · have h := if_t h c
      refine lv_iconst (v := 1) hx hb dX7_goal_19 (by decide) ?_
      refine lv_goto (tgt := 24) hx hb dX7_goal_20 (by decide) ?_
      obtain ⟨r11, σ12, hc, h⟩ := bd_o h
      refine go_i (run_V (As := [.int (1 : Int32), .int (1 : Int32)]) (rest := []) hC hw (c_X7_throwsIf l D q k N σ (1 : Int32) (1 : Int32) r11 σ12 hc) kw_250 kw_252 kw_253 kw_246 kw_251 hd_X7_throwsIf ⟨rfl, rfl⟩ ⟨Nat.le_of_ble_eq_true rfl, Nat.le_of_ble_eq_true rfl⟩ 0 rfl rfl rfl hl.1 rfl (Nat.le_of_ble_eq_true rfl) dX7_goal_24 ⟨Nat.zero_le _, Nat.zero_le _⟩) hw (fun H locs hw => ?_)
      refine lv_if_eq (tgt := 32) hx hb dX7_goal_27 (by decide) (fun c => ?_) (fun c => ?_)
      · have h := if_t h c
        refine lv_aload_n hx hb dX7_goal_32 rfl (lv_at hl 0 rfl) ?_
        refine lv_iload_n hx hb dX7_goal_33 rfl (lv_at hl 1 rfl) ?_
        refine lv_iload_n hx hb dX7_goal_34 rfl (lv_at hl 2 rfl) ?_
        refine lv_iload_n hx hb dX7_goal_35 rfl (lv_at hl 3 rfl) ?_
        obtain ⟨r13, σ14, hc, h⟩ := bd_o h
        refine go_i (run_V (As := [.int a0, .int a1, .int a2]) (rest := []) hC hw (c_X7_addGoal l D q k N σ12 a0 a1 a2 r13 σ14 hc) kw_273 kw_275 kw_276 kw_246 kw_274 hd_X7_addGoal ⟨rfl, rfl⟩ ⟨Nat.le_of_ble_eq_true rfl, Nat.le_of_ble_eq_true rfl⟩ 0 rfl rfl rfl hl.1 rfl (Nat.le_of_ble_eq_true rfl) dX7_goal_36 ⟨Nat.zero_le _, Nat.zero_le _⟩) hw (fun H locs hw => ?_)
        cases h
        exact ret_i hC hw dX7_goal_39
      · have h := if_f h c
        refine lv_iconst (v := 0) hx hb dX7_goal_30 (by decide) ?_
        cases h
        exact ret_i hC hw dX7_goal_31
/-! SlideBoardsModel.kindGoal(III)I -/
abbrev rm_X7_kindGoal : Room := { frames := 1, cells := 0, slots := 0, locals := 23 }
def jn_X7_kindGoal_16 (N : Nat) (σ : St) (x1 : Int32) (x2 : Int32) (x3 : Int32) (w0 : Int32) (w1 : Int32) : Option (Int32 × St) :=
  bd (f_X7_throwsIf N σ w1 w0) (fun r2 σ3 => if r2 = 0 then (if x1 < 0 then (bd (f_X7_throwsIf N σ3 (2 : Int32) (1 : Int32)) (fun r4 σ5 => if r4 = 0 then (bd (f_X7_addGoal N σ5 ((100 : Int32) + x1) x2 x3) (fun r6 σ7 => some (r6, σ7))) else (some ((0 : Int32), σ5)))) else (if x1 ≤ (25 : Int32) then (bd (f_X7_throwsIf N σ3 (2 : Int32) (0 : Int32)) (fun r8 σ9 => if r8 = 0 then (bd (f_X7_addGoal N σ9 ((100 : Int32) + x1) x2 x3) (fun r10 σ11 => some (r10, σ11))) else (some ((0 : Int32), σ9)))) else (bd (f_X7_throwsIf N σ3 (2 : Int32) (1 : Int32)) (fun r12 σ13 => if r12 = 0 then (bd (f_X7_addGoal N σ13 ((100 : Int32) + x1) x2 x3) (fun r14 σ15 => some (r14, σ15))) else (some ((0 : Int32), σ13)))))) else (some ((0 : Int32), σ3)))
set_option maxRecDepth 100000 in
set_option maxHeartbeats 4000000 in
theorem w_X7_kindGoal_16 {p : Program} {l : Launch} {e : Env} {s : State} {m : MethodId} {below : List Frame} {meth : Method} {c : Code} {args : Array Value} {D : va_G} {q : Nat → Nat} {k : cK} {ws0 : va_W} (hC : Cx p s m meth c cX7_kindGoal RX7 4 (some .int)) (N : Nat) (σ : St) (x1 : Int32) (x2 : Int32) (x3 : Int32) (w0 : Int32) (w1 : Int32) (r : Int32) (σ' : St) :
    ∀ (H : Heap) (locs : List Loc) (ls : Array Slot), jn_X7_kindGoal_16 N σ x1 x2 x3 w0 w1 = some (r, σ') → WH D (MW q k σ) k (AQ ws0) s s.heap H locs → lv_has ls 4 [(0, .ref (q 0)), (1, .int x1), (2, .int x2), (3, .int x3)] → W p l e rm_X7_kindGoal s m args below meth c H locs 0 0 (MQ below (QR D ws0 (MW q k σ') (some (.int r))) args s 0 0 (AQ ws0)) (F0 m 16 ls [.int w0, .int w1, .ref (q 0)]) := by
  have hx := hC.1
  have hb := hC.2.1
  intro H locs ls h hw hl
  unfold jn_X7_kindGoal_16 at h
  obtain ⟨r2, σ3, hc, h⟩ := bd_o h
  refine go_i (run_V (As := [.int w1, .int w0]) (rest := []) hC hw (c_X7_throwsIf l D q k N σ w1 w0 r2 σ3 hc) kw_250 kw_252 kw_253 kw_246 kw_251 hd_X7_throwsIf ⟨rfl, rfl⟩ ⟨Nat.le_of_ble_eq_true rfl, Nat.le_of_ble_eq_true rfl⟩ 0 rfl rfl rfl hl.1 rfl (Nat.le_of_ble_eq_true rfl) dX7_kindGoal_16 ⟨Nat.zero_le _, Nat.zero_le _⟩) hw (fun H locs hw => ?_)
  refine lv_if_ne (tgt := 45) hx hb dX7_kindGoal_19 (by decide) (fun c => ?_) (fun c => ?_)
  · have h := if_f h c
    refine lv_iconst (v := 0) hx hb dX7_kindGoal_45 (by decide) ?_
    cases h
    exact ret_i hC hw dX7_kindGoal_46
  · have h := if_t h c
    refine lv_aload_n hx hb dX7_kindGoal_22 rfl (lv_at hl 0 rfl) ?_
    refine lv_iconst (v := 2) hx hb dX7_kindGoal_23 (by decide) ?_
    refine lv_iload_n hx hb dX7_kindGoal_24 rfl (lv_at hl 1 rfl) ?_
    refine lv_if_lt (tgt := 34) hx hb dX7_kindGoal_25 (by decide) (fun c => ?_) (fun c => ?_)
    · have h := if_t h c
      refine lv_iconst (v := 1) hx hb dX7_kindGoal_34 (by decide) ?_
      refine lv_goto (tgt := 39) hx hb dX7_kindGoal_35 (by decide) ?_
      obtain ⟨r4, σ5, hc, h⟩ := bd_o h
      refine go_i (run_V (As := [.int (2 : Int32), .int (1 : Int32)]) (rest := []) hC hw (c_X7_throwsIf l D q k N σ3 (2 : Int32) (1 : Int32) r4 σ5 hc) kw_250 kw_252 kw_253 kw_246 kw_251 hd_X7_throwsIf ⟨rfl, rfl⟩ ⟨Nat.le_of_ble_eq_true rfl, Nat.le_of_ble_eq_true rfl⟩ 0 rfl rfl rfl hl.1 rfl (Nat.le_of_ble_eq_true rfl) dX7_kindGoal_39 ⟨Nat.zero_le _, Nat.zero_le _⟩) hw (fun H locs hw => ?_)
      refine lv_if_eq (tgt := 47) hx hb dX7_kindGoal_42 (by decide) (fun c => ?_) (fun c => ?_)
      · have h := if_t h c
        refine lv_aload_n hx hb dX7_kindGoal_47 rfl (lv_at hl 0 rfl) ?_
        refine lv_bipush (v := 100) hx hb dX7_kindGoal_48 (by decide) ?_
        refine lv_iload_n hx hb dX7_kindGoal_50 rfl (lv_at hl 1 rfl) ?_
        refine lv_iadd hx hb dX7_kindGoal_51 ?_
        refine lv_iload_n hx hb dX7_kindGoal_52 rfl (lv_at hl 2 rfl) ?_
        refine lv_iload_n hx hb dX7_kindGoal_53 rfl (lv_at hl 3 rfl) ?_
        obtain ⟨r6, σ7, hc, h⟩ := bd_o h
        refine go_i (run_V (As := [.int ((100 : Int32) + x1), .int x2, .int x3]) (rest := []) hC hw (c_X7_addGoal l D q k N σ5 ((100 : Int32) + x1) x2 x3 r6 σ7 hc) kw_273 kw_275 kw_276 kw_246 kw_274 hd_X7_addGoal ⟨rfl, rfl⟩ ⟨Nat.le_of_ble_eq_true rfl, Nat.le_of_ble_eq_true rfl⟩ 0 rfl rfl rfl hl.1 rfl (Nat.le_of_ble_eq_true rfl) dX7_kindGoal_54 ⟨Nat.zero_le _, Nat.zero_le _⟩) hw (fun H locs hw => ?_)
        cases h
        exact ret_i hC hw dX7_kindGoal_57
      · have h := if_f h c
        refine lv_iconst (v := 0) hx hb dX7_kindGoal_45 (by decide) ?_
        cases h
        exact ret_i hC hw dX7_kindGoal_46
    · have h := if_f h c
      refine lv_iload_n hx hb dX7_kindGoal_28 rfl (lv_at hl 1 rfl) ?_
      refine lv_bipush (v := 25) hx hb dX7_kindGoal_29 (by decide) ?_
      refine lv_icmp_le (tgt := 38) hx hb dX7_kindGoal_31 (by decide) (fun c => ?_) (fun c => ?_)
      · have h := if_t h c
        refine lv_iconst (v := 0) hx hb dX7_kindGoal_38 (by decide) ?_
        obtain ⟨r8, σ9, hc, h⟩ := bd_o h
        refine go_i (run_V (As := [.int (2 : Int32), .int (0 : Int32)]) (rest := []) hC hw (c_X7_throwsIf l D q k N σ3 (2 : Int32) (0 : Int32) r8 σ9 hc) kw_250 kw_252 kw_253 kw_246 kw_251 hd_X7_throwsIf ⟨rfl, rfl⟩ ⟨Nat.le_of_ble_eq_true rfl, Nat.le_of_ble_eq_true rfl⟩ 0 rfl rfl rfl hl.1 rfl (Nat.le_of_ble_eq_true rfl) dX7_kindGoal_39 ⟨Nat.zero_le _, Nat.zero_le _⟩) hw (fun H locs hw => ?_)
        refine lv_if_eq (tgt := 47) hx hb dX7_kindGoal_42 (by decide) (fun c => ?_) (fun c => ?_)
        · have h := if_t h c
          refine lv_aload_n hx hb dX7_kindGoal_47 rfl (lv_at hl 0 rfl) ?_
          refine lv_bipush (v := 100) hx hb dX7_kindGoal_48 (by decide) ?_
          refine lv_iload_n hx hb dX7_kindGoal_50 rfl (lv_at hl 1 rfl) ?_
          refine lv_iadd hx hb dX7_kindGoal_51 ?_
          refine lv_iload_n hx hb dX7_kindGoal_52 rfl (lv_at hl 2 rfl) ?_
          refine lv_iload_n hx hb dX7_kindGoal_53 rfl (lv_at hl 3 rfl) ?_
          obtain ⟨r10, σ11, hc, h⟩ := bd_o h
          refine go_i (run_V (As := [.int ((100 : Int32) + x1), .int x2, .int x3]) (rest := []) hC hw (c_X7_addGoal l D q k N σ9 ((100 : Int32) + x1) x2 x3 r10 σ11 hc) kw_273 kw_275 kw_276 kw_246 kw_274 hd_X7_addGoal ⟨rfl, rfl⟩ ⟨Nat.le_of_ble_eq_true rfl, Nat.le_of_ble_eq_true rfl⟩ 0 rfl rfl rfl hl.1 rfl (Nat.le_of_ble_eq_true rfl) dX7_kindGoal_54 ⟨Nat.zero_le _, Nat.zero_le _⟩) hw (fun H locs hw => ?_)
          cases h
          exact ret_i hC hw dX7_kindGoal_57
        · have h := if_f h c
          refine lv_iconst (v := 0) hx hb dX7_kindGoal_45 (by decide) ?_
          cases h
          exact ret_i hC hw dX7_kindGoal_46
      · have h := if_f h c
        refine lv_iconst (v := 1) hx hb dX7_kindGoal_34 (by decide) ?_
        refine lv_goto (tgt := 39) hx hb dX7_kindGoal_35 (by decide) ?_
        obtain ⟨r12, σ13, hc, h⟩ := bd_o h
        refine go_i (run_V (As := [.int (2 : Int32), .int (1 : Int32)]) (rest := []) hC hw (c_X7_throwsIf l D q k N σ3 (2 : Int32) (1 : Int32) r12 σ13 hc) kw_250 kw_252 kw_253 kw_246 kw_251 hd_X7_throwsIf ⟨rfl, rfl⟩ ⟨Nat.le_of_ble_eq_true rfl, Nat.le_of_ble_eq_true rfl⟩ 0 rfl rfl rfl hl.1 rfl (Nat.le_of_ble_eq_true rfl) dX7_kindGoal_39 ⟨Nat.zero_le _, Nat.zero_le _⟩) hw (fun H locs hw => ?_)
        refine lv_if_eq (tgt := 47) hx hb dX7_kindGoal_42 (by decide) (fun c => ?_) (fun c => ?_)
        · have h := if_t h c
          refine lv_aload_n hx hb dX7_kindGoal_47 rfl (lv_at hl 0 rfl) ?_
          refine lv_bipush (v := 100) hx hb dX7_kindGoal_48 (by decide) ?_
          refine lv_iload_n hx hb dX7_kindGoal_50 rfl (lv_at hl 1 rfl) ?_
          refine lv_iadd hx hb dX7_kindGoal_51 ?_
          refine lv_iload_n hx hb dX7_kindGoal_52 rfl (lv_at hl 2 rfl) ?_
          refine lv_iload_n hx hb dX7_kindGoal_53 rfl (lv_at hl 3 rfl) ?_
          obtain ⟨r14, σ15, hc, h⟩ := bd_o h
          refine go_i (run_V (As := [.int ((100 : Int32) + x1), .int x2, .int x3]) (rest := []) hC hw (c_X7_addGoal l D q k N σ13 ((100 : Int32) + x1) x2 x3 r14 σ15 hc) kw_273 kw_275 kw_276 kw_246 kw_274 hd_X7_addGoal ⟨rfl, rfl⟩ ⟨Nat.le_of_ble_eq_true rfl, Nat.le_of_ble_eq_true rfl⟩ 0 rfl rfl rfl hl.1 rfl (Nat.le_of_ble_eq_true rfl) dX7_kindGoal_54 ⟨Nat.zero_le _, Nat.zero_le _⟩) hw (fun H locs hw => ?_)
          cases h
          exact ret_i hC hw dX7_kindGoal_57
        · have h := if_f h c
          refine lv_iconst (v := 0) hx hb dX7_kindGoal_45 (by decide) ?_
          cases h
          exact ret_i hC hw dX7_kindGoal_46
def f_X7_kindGoal (N : Nat) (σ : St) (a0 : Int32) (a1 : Int32) (a2 : Int32) : Option (Int32 × St) :=
  bd1 (f_X7_isCell N σ a1 a2) (fun r1 => if r1 = 0 then (jn_X7_kindGoal_16 N σ a0 a1 a2 (1 : Int32) (1 : Int32)) else (jn_X7_kindGoal_16 N σ a0 a1 a2 (0 : Int32) (1 : Int32)))
set_option maxRecDepth 100000 in
set_option maxHeartbeats 4000000 in
theorem c_X7_kindGoal (l : Launch) (D : va_G) (q : Nat → Nat) (k : cK) (N : Nat) (σ : St) (a0 : Int32) (a1 : Int32) (a2 : Int32) (r : Int32) (σ' : St) (h : f_X7_kindGoal N σ a0 a1 a2 = some (r, σ')) :
    Met l yX7_kindGoal [.code yX7_kindGoal cX7_kindGoal 4 (some .int)] rm_X7_kindGoal (PC D (MW q k σ) k [.ref (q 0), .int a0, .int a1, .int a2]) (QR D (MW q k σ) (MW q k σ') (some (.int r))) 0 0 (AQ (MW q k σ)) := by
  refine met_of (by decide) (Nat.le_of_ble_eq_true rfl) ?_
  intro p e s m below meth c hC hw ls hl
  have hC : Cx p s m meth c cX7_kindGoal RX7 4 (some .int) := hC
  have hl : lv_has ls 4 [(0, .ref (q 0)), (1, .int a0), (2, .int a1), (3, .int a2)] := hl
  have hx := hC.1
  have hb := hC.2.1
  unfold f_X7_kindGoal at h
  refine lv_aload_n hx hb dX7_kindGoal_0 rfl (lv_at hl 0 rfl) ?_
  refine lv_iconst (v := 1) hx hb dX7_kindGoal_1 (by decide) ?_
  refine lv_aload_n hx hb dX7_kindGoal_2 rfl (lv_at hl 0 rfl) ?_
  refine lv_iload_n hx hb dX7_kindGoal_3 rfl (lv_at hl 2 rfl) ?_
  refine lv_iload_n hx hb dX7_kindGoal_4 rfl (lv_at hl 3 rfl) ?_
  obtain ⟨r1, hc, h⟩ := bd1_o h
  refine go_i (run_V (As := [.int a1, .int a2]) (rest := [.int (1 : Int32), .ref (q 0)]) hC hw (c_X7_isCell l D q k N σ a1 a2 r1 hc) kw_245 kw_248 kw_249 kw_246 kw_247 hd_X7_isCell ⟨rfl, rfl⟩ ⟨Nat.le_of_ble_eq_true rfl, Nat.le_of_ble_eq_true rfl⟩ 0 rfl rfl rfl hl.1 rfl (Nat.le_of_ble_eq_true rfl) dX7_kindGoal_5 ⟨Nat.zero_le _, Nat.zero_le _⟩) hw (fun H locs hw => ?_)
  refine lv_if_ne (tgt := 15) hx hb dX7_kindGoal_8 (by decide) (fun c => ?_) (fun c => ?_)
  · have h := if_f h c
    refine lv_iconst (v := 0) hx hb dX7_kindGoal_15 (by decide) ?_
    exact w_X7_kindGoal_16 hC N σ a0 a1 a2 (0 : Int32) (1 : Int32) r σ' _ _ ls h hw (lv_sub hl [0, 1, 2, 3] rfl)
  · have h := if_t h c
    refine lv_iconst (v := 1) hx hb dX7_kindGoal_11 (by decide) ?_
    refine lv_goto (tgt := 16) hx hb dX7_kindGoal_12 (by decide) ?_
    exact w_X7_kindGoal_16 hC N σ a0 a1 a2 (1 : Int32) (1 : Int32) r σ' _ _ ls h hw (lv_sub hl [0, 1, 2, 3] rfl)
/-! SlideBoardsModel.noGoals()I -/
abbrev rm_X7_noGoals : Room := { frames := 0, cells := 0, slots := 0, locals := 0 }
def f_X7_noGoals (N : Nat) (σ : St) : Option (Int32 × St) :=
  nm (sI σ 0 (0 : Int32)) (fun σ1 => nm (σ1.1 5) (fun y2 => nm (sI σ1 5 (0 : Int32)) (fun σ3 => some (y2, σ3))))
set_option maxRecDepth 100000 in
set_option maxHeartbeats 4000000 in
theorem c_X7_noGoals (l : Launch) (D : va_G) (q : Nat → Nat) (k : cK) (N : Nat) (σ : St) (r : Int32) (σ' : St) (h : f_X7_noGoals N σ = some (r, σ')) :
    Met l yX7_noGoals [.code yX7_noGoals cX7_noGoals 2 (some .int)] rm_X7_noGoals (PC D (MW q k σ) k [.ref (q 0)]) (QR D (MW q k σ) (MW q k σ') (some (.int r))) 0 0 (AQ (MW q k σ)) := by
  refine met_of (by decide) (Nat.le_of_ble_eq_true rfl) ?_
  intro p e s m below meth c hC hw ls hl
  have hC : Cx p s m meth c cX7_noGoals RX7 2 (some .int) := hC
  have hl : lv_has ls 2 [(0, .ref (q 0))] := hl
  have hx := hC.1
  have hb := hC.2.1
  unfold f_X7_noGoals at h
  refine lv_aload_n hx hb dX7_noGoals_0 rfl (lv_at hl 0 rfl) ?_
  refine lv_iconst (v := 0) hx hb dX7_noGoals_1 (by decide) ?_
  refine M_p_X7_81 hC hw dX7_noGoals_2 (fun σ1 eσ1 H locs hw => ?_)
  have h := nm_o h σ1 eσ1
  refine lv_aload_n hx hb dX7_noGoals_5 rfl (lv_at hl 0 rfl) ?_
  refine M_g_X7_122 hC hw dX7_noGoals_6 ?_
  refine lv_topi (fun y2 ey2 => ?_)
  have h := nm_o h y2 ey2
  refine lv_istore_n (lv' := [(1, .int y2), (0, .ref (q 0))]) hx hb dX7_noGoals_9 rfl hl (by decide) rfl (fun ls hl => ?_)
  refine lv_aload_n hx hb dX7_noGoals_10 rfl (lv_at hl 1 rfl) ?_
  refine lv_iconst (v := 0) hx hb dX7_noGoals_11 (by decide) ?_
  refine M_p_X7_122 hC hw dX7_noGoals_12 (fun σ3 eσ3 H locs hw => ?_)
  have h := nm_o h σ3 eσ3
  refine lv_iload_n hx hb dX7_noGoals_15 rfl (lv_at hl 0 rfl) ?_
  cases h
  exact ret_i hC hw dX7_noGoals_16
/-! SlideBoardsModel.isMet(I[I)Z -/
abbrev rm_X7_isMet_a2 : Room := { frames := 1, cells := 0, slots := 0, locals := 21 }
def lp_X7_isMet_a2_2 (N : Nat) (σ : St) (x1 : Int32) : Nat → Int32 → Option Int32
  | 0, _ => none
  | n + 1, x3 => if (σ.1 4) ≤ x3 then (some (0 : Int32)) else (gd (okx x1 6) (if (ra σ 2 x1) = x3 then (gd (okx x3 8) (bd1 (f_X7_placeOf N σ (ra σ 1 x3)) (fun r1 => gd (okx x1 6) (if r1 = (ra σ 3 x1) then (some (1 : Int32)) else (nm (x3 + (1 : Int32)) (fun y2 => lp_X7_isMet_a2_2 N σ x1 n y2)))))) else (gd (okx x1 6) (gd (okx x3 8) (if (ra σ 2 x1) = ((100 : Int32) + (ra σ 0 x3)) then (gd (okx x3 8) (bd1 (f_X7_placeOf N σ (ra σ 1 x3)) (fun r4 => gd (okx x1 6) (if r4 = (ra σ 3 x1) then (some (1 : Int32)) else (nm (x3 + (1 : Int32)) (fun y5 => lp_X7_isMet_a2_2 N σ x1 n y5)))))) else (nm (x3 + (1 : Int32)) (fun y3 => lp_X7_isMet_a2_2 N σ x1 n y3)))))))
set_option maxRecDepth 100000 in
set_option maxHeartbeats 4000000 in
theorem w_X7_isMet_a2_2 {p : Program} {l : Launch} {e : Env} {s : State} {m : MethodId} {below : List Frame} {meth : Method} {c : Code} {args : Array Value} {D : va_G} {q : Nat → Nat} {k : cK} {ws0 : va_W} (hC : Cx p s m meth c cX7_isMet RX7 4 (some .boolean)) (N : Nat) (σ : St) (x1 : Int32) (r : Int32) :
    ∀ (n : Nat) (x3 : Int32) (H : Heap) (locs : List Loc) (ls : Array Slot), lp_X7_isMet_a2_2 N σ x1 n x3 = some r → WH D (MW q k σ) k (AQ ws0) s s.heap H locs → lv_has ls 4 [(0, .ref (q 0)), (1, .int x1), (2, .ref (q 2)), (3, .int x3)] → W p l e rm_X7_isMet_a2 s m args below meth c H locs 0 0 (MQ below (QR D ws0 (MW q k σ) (some (.int r))) args s 0 0 (AQ ws0)) (F0 m 2 ls []) := by
  have hx := hC.1
  have hb := hC.2.1
  intro n
  induction n with
  | zero =>
    intro x3 H locs ls h
    cases h
  | succ n ih =>
    intro x3 H locs ls h hw hl
    rw [lp_X7_isMet_a2_2] at h
    refine lv_iload_n hx hb dX7_isMet_2 rfl (lv_at hl 3 rfl) ?_
    refine lv_aload_n hx hb dX7_isMet_3 rfl (lv_at hl 0 rfl) ?_
    refine M_g_X7_84 hC hw dX7_isMet_4 ?_
    refine lv_icmp_ge (tgt := 61) hx hb dX7_isMet_7 (by decide) (fun c => ?_) (fun c => ?_)
    · have h := if_t h c
      refine lv_iconst (v := 0) hx hb dX7_isMet_61 (by decide) ?_
      cases h
      exact ret_z hC (Or.inl rfl) hw dX7_isMet_62
    · have h := if_f h c
      refine lv_aload_n hx hb dX7_isMet_10 rfl (lv_at hl 0 rfl) ?_
      refine M_g_X7_16 hC hw dX7_isMet_11 ?_
      refine lv_iload_n hx hb dX7_isMet_14 rfl (lv_at hl 1 rfl) ?_
      obtain ⟨hin, h⟩ := gd_o h
      refine M_ld3 hC hw hin dX7_isMet_15 ?_
      refine lv_iload_n hx hb dX7_isMet_16 rfl (lv_at hl 3 rfl) ?_
      refine lv_icmp_eq (tgt := 38) hx hb dX7_isMet_17 (by decide) (fun c => ?_) (fun c => ?_)
      · have h := if_t h c
        refine lv_aload_n hx hb dX7_isMet_38 rfl (lv_at hl 2 rfl) ?_
        refine lv_iload_n hx hb dX7_isMet_39 rfl (lv_at hl 3 rfl) ?_
        obtain ⟨hin, h⟩ := gd_o h
        refine M_ld2 hC hw hin dX7_isMet_40 ?_
        obtain ⟨r1, hc, h⟩ := bd1_o h
        refine go_i (run_S (As := [.int (ra σ 1 x3)]) (rest := []) hC hw (c_X7_placeOf l D q k N σ (ra σ 1 x3) r1 hc) kw_262 kw_264 kw_246 kw_263 hd_X7_placeOf ⟨rfl, rfl⟩ ⟨Nat.le_of_ble_eq_true rfl, Nat.le_of_ble_eq_true rfl⟩ rfl hl.1 rfl (Nat.le_of_ble_eq_true rfl) dX7_isMet_41 ⟨Nat.zero_le _, Nat.zero_le _⟩) hw (fun H locs hw => ?_)
        refine lv_aload_n hx hb dX7_isMet_44 rfl (lv_at hl 0 rfl) ?_
        refine M_g_X7_19 hC hw dX7_isMet_45 ?_
        refine lv_iload_n hx hb dX7_isMet_48 rfl (lv_at hl 1 rfl) ?_
        obtain ⟨hin, h⟩ := gd_o h
        refine M_ld4 hC hw hin dX7_isMet_49 ?_
        refine lv_icmp_ne (tgt := 55) hx hb dX7_isMet_50 (by decide) (fun c => ?_) (fun c => ?_)
        · have h := if_f h c
          obtain ⟨y2, ey2⟩ : ∃ y : Int32, y = x3 + (1 : Int32) := ⟨_, rfl⟩
          have h := nm_o h y2 ey2
          refine lv_iinc (v := y2) (lv' := [(3, .int y2), (0, .ref (q 0)), (1, .int x1), (2, .ref (q 2))]) hx hb dX7_isMet_55 hl (k := 3) rfl (by rw [ey2]; rfl) (by decide) rfl (fun ls hl => ?_)
          refine lv_goto (tgt := 2) hx hb dX7_isMet_58 (by decide) ?_
          exact ih y2 _ _ ls h hw (lv_sub hl [1, 2, 3, 0] rfl)
        · have h := if_t h c
          refine lv_iconst (v := 1) hx hb dX7_isMet_53 (by decide) ?_
          cases h
          exact ret_z hC (Or.inr rfl) hw dX7_isMet_54
      · have h := if_f h c
        refine lv_aload_n hx hb dX7_isMet_20 rfl (lv_at hl 0 rfl) ?_
        refine M_g_X7_16 hC hw dX7_isMet_21 ?_
        refine lv_iload_n hx hb dX7_isMet_24 rfl (lv_at hl 1 rfl) ?_
        obtain ⟨hin, h⟩ := gd_o h
        refine M_ld3 hC hw hin dX7_isMet_25 ?_
        refine lv_bipush (v := 100) hx hb dX7_isMet_26 (by decide) ?_
        refine lv_aload_n hx hb dX7_isMet_28 rfl (lv_at hl 0 rfl) ?_
        refine M_g_X7_7 hC hw dX7_isMet_29 ?_
        refine lv_iload_n hx hb dX7_isMet_32 rfl (lv_at hl 3 rfl) ?_
        obtain ⟨hin, h⟩ := gd_o h
        refine M_ld1 hC hw hin dX7_isMet_33 ?_
        refine lv_iadd hx hb dX7_isMet_34 ?_
        refine lv_icmp_ne (tgt := 55) hx hb dX7_isMet_35 (by decide) (fun c => ?_) (fun c => ?_)
        · have h := if_f h c
          obtain ⟨y3, ey3⟩ : ∃ y : Int32, y = x3 + (1 : Int32) := ⟨_, rfl⟩
          have h := nm_o h y3 ey3
          refine lv_iinc (v := y3) (lv' := [(3, .int y3), (0, .ref (q 0)), (1, .int x1), (2, .ref (q 2))]) hx hb dX7_isMet_55 hl (k := 3) rfl (by rw [ey3]; rfl) (by decide) rfl (fun ls hl => ?_)
          refine lv_goto (tgt := 2) hx hb dX7_isMet_58 (by decide) ?_
          exact ih y3 _ _ ls h hw (lv_sub hl [1, 2, 3, 0] rfl)
        · have h := if_t h c
          refine lv_aload_n hx hb dX7_isMet_38 rfl (lv_at hl 2 rfl) ?_
          refine lv_iload_n hx hb dX7_isMet_39 rfl (lv_at hl 3 rfl) ?_
          obtain ⟨hin, h⟩ := gd_o h
          refine M_ld2 hC hw hin dX7_isMet_40 ?_
          obtain ⟨r4, hc, h⟩ := bd1_o h
          refine go_i (run_S (As := [.int (ra σ 1 x3)]) (rest := []) hC hw (c_X7_placeOf l D q k N σ (ra σ 1 x3) r4 hc) kw_262 kw_264 kw_246 kw_263 hd_X7_placeOf ⟨rfl, rfl⟩ ⟨Nat.le_of_ble_eq_true rfl, Nat.le_of_ble_eq_true rfl⟩ rfl hl.1 rfl (Nat.le_of_ble_eq_true rfl) dX7_isMet_41 ⟨Nat.zero_le _, Nat.zero_le _⟩) hw (fun H locs hw => ?_)
          refine lv_aload_n hx hb dX7_isMet_44 rfl (lv_at hl 0 rfl) ?_
          refine M_g_X7_19 hC hw dX7_isMet_45 ?_
          refine lv_iload_n hx hb dX7_isMet_48 rfl (lv_at hl 1 rfl) ?_
          obtain ⟨hin, h⟩ := gd_o h
          refine M_ld4 hC hw hin dX7_isMet_49 ?_
          refine lv_icmp_ne (tgt := 55) hx hb dX7_isMet_50 (by decide) (fun c => ?_) (fun c => ?_)
          · have h := if_f h c
            obtain ⟨y5, ey5⟩ : ∃ y : Int32, y = x3 + (1 : Int32) := ⟨_, rfl⟩
            have h := nm_o h y5 ey5
            refine lv_iinc (v := y5) (lv' := [(3, .int y5), (0, .ref (q 0)), (1, .int x1), (2, .ref (q 2))]) hx hb dX7_isMet_55 hl (k := 3) rfl (by rw [ey5]; rfl) (by decide) rfl (fun ls hl => ?_)
            refine lv_goto (tgt := 2) hx hb dX7_isMet_58 (by decide) ?_
            exact ih y5 _ _ ls h hw (lv_sub hl [1, 2, 3, 0] rfl)
          · have h := if_t h c
            refine lv_iconst (v := 1) hx hb dX7_isMet_53 (by decide) ?_
            cases h
            exact ret_z hC (Or.inr rfl) hw dX7_isMet_54
def f_X7_isMet_a2 (N : Nat) (σ : St) (a0 : Int32) : Option Int32 :=
  lp_X7_isMet_a2_2 N σ a0 N (0 : Int32)
set_option maxRecDepth 100000 in
set_option maxHeartbeats 4000000 in
theorem c_X7_isMet_a2 (l : Launch) (D : va_G) (q : Nat → Nat) (k : cK) (N : Nat) (σ : St) (a0 : Int32) (r : Int32) (h : f_X7_isMet_a2 N σ a0 = some r) :
    Met l yX7_isMet [.code yX7_isMet cX7_isMet 4 (some .boolean)] rm_X7_isMet_a2 (PC D (MW q k σ) k [.ref (q 0), .int a0, .ref (q 2)]) (QR D (MW q k σ) (MW q k σ) (some (.int r))) 0 0 (AQ (MW q k σ)) := by
  refine met_of (by decide) (Nat.le_of_ble_eq_true rfl) ?_
  intro p e s m below meth c hC hw ls hl
  have hC : Cx p s m meth c cX7_isMet RX7 4 (some .boolean) := hC
  have hl : lv_has ls 4 [(0, .ref (q 0)), (1, .int a0), (2, .ref (q 2))] := hl
  have hx := hC.1
  have hb := hC.2.1
  unfold f_X7_isMet_a2 at h
  refine lv_iconst (v := 0) hx hb dX7_isMet_0 (by decide) ?_
  refine lv_istore_n (lv' := [(3, .int (0 : Int32)), (0, .ref (q 0)), (1, .int a0), (2, .ref (q 2))]) hx hb dX7_isMet_1 rfl hl (by decide) rfl (fun ls hl => ?_)
  exact w_X7_isMet_a2_2 hC N σ a0 r N (0 : Int32) _ _ ls h hw (lv_sub hl [1, 2, 3, 0] rfl)

/-! SlideBoardsModel.rank()I -/
abbrev rm_X7_rank : Room := { frames := 0, cells := 0, slots := 0, locals := 0 }
def lp_X7_rank_19 (N : Nat) (σ : St) (x1 : Int32) (x2 : Int32) (K4 : Int32 → Int32 → Option Int32) : Nat → Int32 → Int32 → Option Int32
  | 0, _, _ => none
  | n + 1, x3, x4 => if (σ.1 9) ≤ x4 then (nm ((x1 * ((σ.1 9) - x2)) + x3) (fun y2 => nm (x2 + (1 : Int32)) (fun y3 => K4 y2 y3))) else (gd (okx x4 8) (gd (okx x2 8) (if (ra σ 15 x2) ≤ (ra σ 15 x4) then (nm (x3 + (0 : Int32)) (fun y4 => nm (x4 + (1 : Int32)) (fun y5 => lp_X7_rank_19 N σ x1 x2 K4 n y4 y5))) else (nm (x3 + (1 : Int32)) (fun y6 => nm (x4 + (1 : Int32)) (fun y7 => lp_X7_rank_19 N σ x1 x2 K4 n y6 y7))))))
set_option maxRecDepth 100000 in
set_option maxHeartbeats 4000000 in
theorem w_X7_rank_19 {p : Program} {l : Launch} {e : Env} {s : State} {m : MethodId} {below : List Frame} {meth : Method} {c : Code} {args : Array Value} {D : va_G} {q : Nat → Nat} {k : cK} {ws0 : va_W} (hC : Cx p s m meth c cX7_rank RX7 5 (some .int)) (N : Nat) (σ : St) (x1 : Int32) (x2 : Int32) (r : Int32) (K4 : Int32 → Int32 → Option Int32) (hK4 : ∀ (x1 : Int32) (x2 : Int32) (H : Heap) (locs : List Loc) (ls : Array Slot), K4 x1 x2 = some r → WH D (MW q k σ) k (AQ ws0) s s.heap H locs → lv_has ls 5 [(0, .ref (q 0)), (1, .int x1), (2, .int x2)] → W p l e rm_X7_rank s m args below meth c H locs 0 0 (MQ below (QR D ws0 (MW q k σ) (some (.int r))) args s 0 0 (AQ ws0)) (F0 m 4 ls [])) :
    ∀ (n : Nat) (x3 : Int32) (x4 : Int32) (H : Heap) (locs : List Loc) (ls : Array Slot), lp_X7_rank_19 N σ x1 x2 K4 n x3 x4 = some r → WH D (MW q k σ) k (AQ ws0) s s.heap H locs → lv_has ls 5 [(0, .ref (q 0)), (1, .int x1), (2, .int x2), (3, .int x3), (4, .int x4)] → W p l e rm_X7_rank s m args below meth c H locs 0 0 (MQ below (QR D ws0 (MW q k σ) (some (.int r))) args s 0 0 (AQ ws0)) (F0 m 19 ls []) := by
  have hx := hC.1
  have hb := hC.2.1
  intro n
  induction n with
  | zero =>
    intro x3 x4 H locs ls h
    cases h
  | succ n ih =>
    intro x3 x4 H locs ls h hw hl
    rw [lp_X7_rank_19] at h
    refine lv_iload hx hb dX7_rank_19 (lv_at hl 4 rfl) ?_
    refine lv_aload_n hx hb dX7_rank_21 rfl (lv_at hl 0 rfl) ?_
    refine M_g_X7_172 hC hw dX7_rank_22 ?_
    refine lv_icmp_ge (tgt := 58) hx hb dX7_rank_25 (by decide) (fun c => ?_) (fun c => ?_)
    · have h := if_t h c
      refine lv_iload_n hx hb dX7_rank_58 rfl (lv_at hl 1 rfl) ?_
      refine lv_aload_n hx hb dX7_rank_59 rfl (lv_at hl 0 rfl) ?_
      refine M_g_X7_172 hC hw dX7_rank_60 ?_
      refine lv_iload_n hx hb dX7_rank_63 rfl (lv_at hl 2 rfl) ?_
      refine lv_isub hx hb dX7_rank_64 ?_
      refine lv_imul hx hb dX7_rank_65 ?_
      refine lv_iload_n hx hb dX7_rank_66 rfl (lv_at hl 3 rfl) ?_
      refine lv_iadd hx hb dX7_rank_67 ?_
      refine lv_topi (fun y2 ey2 => ?_)
      have h := nm_o h y2 ey2
      refine lv_istore_n (lv' := [(1, .int y2), (0, .ref (q 0)), (2, .int x2), (3, .int x3), (4, .int x4)]) hx hb dX7_rank_68 rfl hl (by decide) rfl (fun ls hl => ?_)
      obtain ⟨y3, ey3⟩ : ∃ y : Int32, y = x2 + (1 : Int32) := ⟨_, rfl⟩
      have h := nm_o h y3 ey3
      refine lv_iinc (v := y3) (lv' := [(2, .int y3), (1, .int y2), (0, .ref (q 0)), (3, .int x3), (4, .int x4)]) hx hb dX7_rank_69 hl (k := 2) rfl (by rw [ey3]; rfl) (by decide) rfl (fun ls hl => ?_)
      refine lv_goto (tgt := 4) hx hb dX7_rank_72 (by decide) ?_
      exact hK4 y2 y3 _ _ ls h hw (lv_sub hl [2, 1, 0] rfl)
    · have h := if_f h c
      refine lv_iload_n hx hb dX7_rank_28 rfl (lv_at hl 3 rfl) ?_
      refine lv_aload_n hx hb dX7_rank_29 rfl (lv_at hl 0 rfl) ?_
      refine M_g_X7_58 hC hw dX7_rank_30 ?_
      refine lv_iload hx hb dX7_rank_33 (lv_at hl 4 rfl) ?_
      obtain ⟨hin, h⟩ := gd_o h
      refine M_ld16 hC hw hin dX7_rank_35 ?_
      refine lv_aload_n hx hb dX7_rank_36 rfl (lv_at hl 0 rfl) ?_
      refine M_g_X7_58 hC hw dX7_rank_37 ?_
      refine lv_iload_n hx hb dX7_rank_40 rfl (lv_at hl 2 rfl) ?_
      obtain ⟨hin, h⟩ := gd_o h
      refine M_ld16 hC hw hin dX7_rank_41 ?_
      refine lv_icmp_ge (tgt := 49) hx hb dX7_rank_42 (by decide) (fun c => ?_) (fun c => ?_)
      · have h := if_t h c
        refine lv_iconst (v := 0) hx hb dX7_rank_49 (by decide) ?_
        refine lv_iadd hx hb dX7_rank_50 ?_
        refine lv_topi (fun y4 ey4 => ?_)
        have h := nm_o h y4 ey4
        refine lv_istore_n (lv' := [(3, .int y4), (0, .ref (q 0)), (1, .int x1), (2, .int x2), (4, .int x4)]) hx hb dX7_rank_51 rfl hl (by decide) rfl (fun ls hl => ?_)
        obtain ⟨y5, ey5⟩ : ∃ y : Int32, y = x4 + (1 : Int32) := ⟨_, rfl⟩
        have h := nm_o h y5 ey5
        refine lv_iinc (v := y5) (lv' := [(4, .int y5), (3, .int y4), (0, .ref (q 0)), (1, .int x1), (2, .int x2)]) hx hb dX7_rank_52 hl (k := 4) rfl (by rw [ey5]; rfl) (by decide) rfl (fun ls hl => ?_)
        refine lv_goto (tgt := 19) hx hb dX7_rank_55 (by decide) ?_
        exact ih y4 y5 _ _ ls h hw (lv_sub hl [2, 3, 4, 1, 0] rfl)
      · have h := if_f h c
        refine lv_iconst (v := 1) hx hb dX7_rank_45 (by decide) ?_
        refine lv_goto (tgt := 50) hx hb dX7_rank_46 (by decide) ?_
        refine lv_iadd hx hb dX7_rank_50 ?_
        refine lv_topi (fun y6 ey6 => ?_)
        have h := nm_o h y6 ey6
        refine lv_istore_n (lv' := [(3, .int y6), (0, .ref (q 0)), (1, .int x1), (2, .int x2), (4, .int x4)]) hx hb dX7_rank_51 rfl hl (by decide) rfl (fun ls hl => ?_)
        obtain ⟨y7, ey7⟩ : ∃ y : Int32, y = x4 + (1 : Int32) := ⟨_, rfl⟩
        have h := nm_o h y7 ey7
        refine lv_iinc (v := y7) (lv' := [(4, .int y7), (3, .int y6), (0, .ref (q 0)), (1, .int x1), (2, .int x2)]) hx hb dX7_rank_52 hl (k := 4) rfl (by rw [ey7]; rfl) (by decide) rfl (fun ls hl => ?_)
        refine lv_goto (tgt := 19) hx hb dX7_rank_55 (by decide) ?_
        exact ih y6 y7 _ _ ls h hw (lv_sub hl [2, 3, 4, 1, 0] rfl)
def lp_X7_rank_4 (N : Nat) (σ : St) : Nat → Int32 → Int32 → Option Int32
  | 0, _, _ => none
  | n + 1, x1, x2 => if (σ.1 9) ≤ x2 then (some x1) else (nm (x2 + (1 : Int32)) (fun y1 => lp_X7_rank_19 N σ x1 x2 (fun v0 v1 => lp_X7_rank_4 N σ n v0 v1) N (0 : Int32) y1))
set_option maxRecDepth 100000 in
set_option maxHeartbeats 4000000 in
theorem w_X7_rank_4 {p : Program} {l : Launch} {e : Env} {s : State} {m : MethodId} {below : List Frame} {meth : Method} {c : Code} {args : Array Value} {D : va_G} {q : Nat → Nat} {k : cK} {ws0 : va_W} (hC : Cx p s m meth c cX7_rank RX7 5 (some .int)) (N : Nat) (σ : St) (r : Int32) :
    ∀ (n : Nat) (x1 : Int32) (x2 : Int32) (H : Heap) (locs : List Loc) (ls : Array Slot), lp_X7_rank_4 N σ n x1 x2 = some r → WH D (MW q k σ) k (AQ ws0) s s.heap H locs → lv_has ls 5 [(0, .ref (q 0)), (1, .int x1), (2, .int x2)] → W p l e rm_X7_rank s m args below meth c H locs 0 0 (MQ below (QR D ws0 (MW q k σ) (some (.int r))) args s 0 0 (AQ ws0)) (F0 m 4 ls []) := by
  have hx := hC.1
  have hb := hC.2.1
  intro n
  induction n with
  | zero =>
    intro x1 x2 H locs ls h
    cases h
  | succ n ih =>
    intro x1 x2 H locs ls h hw hl
    rw [lp_X7_rank_4] at h
    refine lv_iload_n hx hb dX7_rank_4 rfl (lv_at hl 2 rfl) ?_
    refine lv_aload_n hx hb dX7_rank_5 rfl (lv_at hl 0 rfl) ?_
    refine M_g_X7_172 hC hw dX7_rank_6 ?_
    refine lv_icmp_ge (tgt := 75) hx hb dX7_rank_9 (by decide) (fun c => ?_) (fun c => ?_)
    · have h := if_t h c
      refine lv_iload_n hx hb dX7_rank_75 rfl (lv_at hl 1 rfl) ?_
      cases h
      exact ret_i hC hw dX7_rank_76
    · have h := if_f h c
      refine lv_iconst (v := 0) hx hb dX7_rank_12 (by decide) ?_
      refine lv_istore_n (lv' := [(3, .int (0 : Int32)), (0, .ref (q 0)), (1, .int x1), (2, .int x2)]) hx hb dX7_rank_13 rfl hl (by decide) rfl (fun ls hl => ?_)
      refine lv_iload_n hx hb dX7_rank_14 rfl (lv_at hl 3 rfl) ?_
      refine lv_iconst (v := 1) hx hb dX7_rank_15 (by decide) ?_
      refine lv_iadd hx hb dX7_rank_16 ?_
      refine lv_topi (fun y1 ey1 => ?_)
      have h := nm_o h y1 ey1
      refine lv_istore (lv' := [(4, .int y1), (3, .int (0 : Int32)), (0, .ref (q 0)), (1, .int x1), (2, .int x2)]) hx hb dX7_rank_17 hl (by decide) rfl (fun ls hl => ?_)
      exact w_X7_rank_19 hC N σ x1 x2 r _ ih N (0 : Int32) y1 _ _ ls h hw (lv_sub hl [2, 3, 4, 1, 0] rfl)
def f_X7_rank (N : Nat) (σ : St) : Option Int32 :=
  lp_X7_rank_4 N σ N (0 : Int32) (0 : Int32)
set_option maxRecDepth 100000 in
set_option maxHeartbeats 4000000 in
theorem c_X7_rank (l : Launch) (D : va_G) (q : Nat → Nat) (k : cK) (N : Nat) (σ : St) (r : Int32) (h : f_X7_rank N σ = some r) :
    Met l yX7_rank [.code yX7_rank cX7_rank 5 (some .int)] rm_X7_rank (PC D (MW q k σ) k [.ref (q 0)]) (QR D (MW q k σ) (MW q k σ) (some (.int r))) 0 0 (AQ (MW q k σ)) := by
  refine met_of (by decide) (Nat.le_of_ble_eq_true rfl) ?_
  intro p e s m below meth c hC hw ls hl
  have hC : Cx p s m meth c cX7_rank RX7 5 (some .int) := hC
  have hl : lv_has ls 5 [(0, .ref (q 0))] := hl
  have hx := hC.1
  have hb := hC.2.1
  unfold f_X7_rank at h
  refine lv_iconst (v := 0) hx hb dX7_rank_0 (by decide) ?_
  refine lv_istore_n (lv' := [(1, .int (0 : Int32)), (0, .ref (q 0))]) hx hb dX7_rank_1 rfl hl (by decide) rfl (fun ls hl => ?_)
  refine lv_iconst (v := 0) hx hb dX7_rank_2 (by decide) ?_
  refine lv_istore_n (lv' := [(2, .int (0 : Int32)), (1, .int (0 : Int32)), (0, .ref (q 0))]) hx hb dX7_rank_3 rfl hl (by decide) rfl (fun ls hl => ?_)
  exact w_X7_rank_4 hC N σ r N (0 : Int32) (0 : Int32) _ _ ls h hw (lv_sub hl [2, 1, 0] rfl)
/-! SlideBoardsModel.unrank(I)V -/
abbrev rm_X7_unrank : Room := { frames := 0, cells := 0, slots := 0, locals := 0 }
def lp_X7_unrank_58 (N : Nat) (x3 : Int32) (K49 : St → Int32 → Option St) : Nat → St → Int32 → Option St
  | 0, _, _ => none
  | n + 1, σ, x4 => if (σ.1 9) ≤ x4 then (nm (x3 + (-1)) (fun y4 => K49 σ y4)) else (gd (okx x4 8) (gd (okx x4 8) (gd (okx x3 8) (if (ra σ 15 x4) < (ra σ 15 x3) then (gd (okx x4 8) (nm (sA σ 15 x4 ((ra σ 15 x4) + (0 : Int32))) (fun σ5 => nm (x4 + (1 : Int32)) (fun y6 => lp_X7_unrank_58 N x3 K49 n σ5 y6)))) else (gd (okx x4 8) (nm (sA σ 15 x4 ((ra σ 15 x4) + (1 : Int32))) (fun σ7 => nm (x4 + (1 : Int32)) (fun y8 => lp_X7_unrank_58 N x3 K49 n σ7 y8))))))))
set_option maxRecDepth 100000 in
set_option maxHeartbeats 4000000 in
theorem w_X7_unrank_58 {p : Program} {l : Launch} {e : Env} {s : State} {m : MethodId} {below : List Frame} {meth : Method} {c : Code} {args : Array Value} {D : va_G} {q : Nat → Nat} {k : cK} {ws0 : va_W} (hC : Cx p s m meth c cX7_unrank RX7 5 none) (N : Nat) (x3 : Int32) (σ' : St) (K49 : St → Int32 → Option St) (hK49 : ∀ (σ : St) (x3 : Int32) (H : Heap) (locs : List Loc) (ls : Array Slot), K49 σ x3 = some σ' → WH D (MW q k σ) k (AQ ws0) s s.heap H locs → lv_has ls 5 [(0, .ref (q 0)), (3, .int x3)] → W p l e rm_X7_unrank s m args below meth c H locs 0 0 (MQ below (QR D ws0 (MW q k σ') none) args s 0 0 (AQ ws0)) (F0 m 49 ls [])) :
    ∀ (n : Nat) (σ : St) (x4 : Int32) (H : Heap) (locs : List Loc) (ls : Array Slot), lp_X7_unrank_58 N x3 K49 n σ x4 = some σ' → WH D (MW q k σ) k (AQ ws0) s s.heap H locs → lv_has ls 5 [(0, .ref (q 0)), (3, .int x3), (4, .int x4)] → W p l e rm_X7_unrank s m args below meth c H locs 0 0 (MQ below (QR D ws0 (MW q k σ') none) args s 0 0 (AQ ws0)) (F0 m 58 ls []) := by
  have hx := hC.1
  have hb := hC.2.1
  intro n
  induction n with
  | zero =>
    intro σ x4 H locs ls h
    cases h
  | succ n ih =>
    intro σ x4 H locs ls h hw hl
    rw [lp_X7_unrank_58] at h
    refine lv_iload hx hb dX7_unrank_58 (lv_at hl 2 rfl) ?_
    refine lv_aload_n hx hb dX7_unrank_60 rfl (lv_at hl 0 rfl) ?_
    refine M_g_X7_172 hC hw dX7_unrank_61 ?_
    refine lv_icmp_ge (tgt := 104) hx hb dX7_unrank_64 (by decide) (fun c => ?_) (fun c => ?_)
    · have h := if_t h c
      obtain ⟨y4, ey4⟩ : ∃ y : Int32, y = x3 + (-1) := ⟨_, rfl⟩
      have h := nm_o h y4 ey4
      refine lv_iinc (v := y4) (lv' := [(3, .int y4), (0, .ref (q 0)), (4, .int x4)]) hx hb dX7_unrank_104 hl (k := 1) rfl (by rw [ey4]; rfl) (by decide) rfl (fun ls hl => ?_)
      refine lv_goto (tgt := 49) hx hb dX7_unrank_107 (by decide) ?_
      exact hK49 σ y4 _ _ ls h hw (lv_sub hl [1, 0] rfl)
    · have h := if_f h c
      refine lv_aload_n hx hb dX7_unrank_67 rfl (lv_at hl 0 rfl) ?_
      refine M_g_X7_58 hC hw dX7_unrank_68 ?_
      refine lv_iload hx hb dX7_unrank_71 (lv_at hl 2 rfl) ?_
      refine lv_dup2_11 hx hb dX7_unrank_73 rfl rfl ?_
      obtain ⟨hin, h⟩ := gd_o h
      refine M_ld16 hC hw hin dX7_unrank_74 ?_
      refine lv_aload_n hx hb dX7_unrank_75 rfl (lv_at hl 0 rfl) ?_
      refine M_g_X7_58 hC hw dX7_unrank_76 ?_
      refine lv_iload hx hb dX7_unrank_79 (lv_at hl 2 rfl) ?_
      obtain ⟨hin, h⟩ := gd_o h
      refine M_ld16 hC hw hin dX7_unrank_81 ?_
      refine lv_aload_n hx hb dX7_unrank_82 rfl (lv_at hl 0 rfl) ?_
      refine M_g_X7_58 hC hw dX7_unrank_83 ?_
      refine lv_iload_n hx hb dX7_unrank_86 rfl (lv_at hl 1 rfl) ?_
      obtain ⟨hin, h⟩ := gd_o h
      refine M_ld16 hC hw hin dX7_unrank_87 ?_
      refine lv_icmp_lt (tgt := 95) hx hb dX7_unrank_88 (by decide) (fun c => ?_) (fun c => ?_)
      · have h := if_t h c
        refine lv_iconst (v := 0) hx hb dX7_unrank_95 (by decide) ?_
        refine lv_iadd hx hb dX7_unrank_96 ?_
        obtain ⟨hin, h⟩ := gd_o h
        refine M_st16 hC hw hin dX7_unrank_97 (fun σ5 eσ5 H locs hw => ?_)
        have h := nm_o h σ5 eσ5
        obtain ⟨y6, ey6⟩ : ∃ y : Int32, y = x4 + (1 : Int32) := ⟨_, rfl⟩
        have h := nm_o h y6 ey6
        refine lv_iinc (v := y6) (lv' := [(4, .int y6), (0, .ref (q 0)), (3, .int x3)]) hx hb dX7_unrank_98 hl (k := 2) rfl (by rw [ey6]; rfl) (by decide) rfl (fun ls hl => ?_)
        refine lv_goto (tgt := 58) hx hb dX7_unrank_101 (by decide) ?_
        exact ih σ5 y6 _ _ ls h hw (lv_sub hl [1, 2, 0] rfl)
      · have h := if_f h c
        refine lv_iconst (v := 1) hx hb dX7_unrank_91 (by decide) ?_
        refine lv_goto (tgt := 96) hx hb dX7_unrank_92 (by decide) ?_
        refine lv_iadd hx hb dX7_unrank_96 ?_
        obtain ⟨hin, h⟩ := gd_o h
        refine M_st16 hC hw hin dX7_unrank_97 (fun σ7 eσ7 H locs hw => ?_)
        have h := nm_o h σ7 eσ7
        obtain ⟨y8, ey8⟩ : ∃ y : Int32, y = x4 + (1 : Int32) := ⟨_, rfl⟩
        have h := nm_o h y8 ey8
        refine lv_iinc (v := y8) (lv' := [(4, .int y8), (0, .ref (q 0)), (3, .int x3)]) hx hb dX7_unrank_98 hl (k := 2) rfl (by rw [ey8]; rfl) (by decide) rfl (fun ls hl => ?_)
        refine lv_goto (tgt := 58) hx hb dX7_unrank_101 (by decide) ?_
        exact ih σ7 y8 _ _ ls h hw (lv_sub hl [1, 2, 0] rfl)
def lp_X7_unrank_49 (N : Nat) : Nat → St → Int32 → Option St
  | 0, _, _ => none
  | n + 1, σ, x3 => if x3 < 0 then (some σ) else (nm (x3 + (1 : Int32)) (fun y3 => lp_X7_unrank_58 N x3 (fun v0 v1 => lp_X7_unrank_49 N n v0 v1) N σ y3))
set_option maxRecDepth 100000 in
set_option maxHeartbeats 4000000 in
theorem w_X7_unrank_49 {p : Program} {l : Launch} {e : Env} {s : State} {m : MethodId} {below : List Frame} {meth : Method} {c : Code} {args : Array Value} {D : va_G} {q : Nat → Nat} {k : cK} {ws0 : va_W} (hC : Cx p s m meth c cX7_unrank RX7 5 none) (N : Nat) (σ' : St) :
    ∀ (n : Nat) (σ : St) (x3 : Int32) (H : Heap) (locs : List Loc) (ls : Array Slot), lp_X7_unrank_49 N n σ x3 = some σ' → WH D (MW q k σ) k (AQ ws0) s s.heap H locs → lv_has ls 5 [(0, .ref (q 0)), (3, .int x3)] → W p l e rm_X7_unrank s m args below meth c H locs 0 0 (MQ below (QR D ws0 (MW q k σ') none) args s 0 0 (AQ ws0)) (F0 m 49 ls []) := by
  have hx := hC.1
  have hb := hC.2.1
  intro n
  induction n with
  | zero =>
    intro σ x3 H locs ls h
    cases h
  | succ n ih =>
    intro σ x3 H locs ls h hw hl
    rw [lp_X7_unrank_49] at h
    refine lv_iload_n hx hb dX7_unrank_49 rfl (lv_at hl 1 rfl) ?_
    refine lv_if_lt (tgt := 110) hx hb dX7_unrank_50 (by decide) (fun c => ?_) (fun c => ?_)
    · have h := if_t h c
      cases h
      exact ret_v hC hw dX7_unrank_110
    · have h := if_f h c
      refine lv_iload_n hx hb dX7_unrank_53 rfl (lv_at hl 1 rfl) ?_
      refine lv_iconst (v := 1) hx hb dX7_unrank_54 (by decide) ?_
      refine lv_iadd hx hb dX7_unrank_55 ?_
      refine lv_topi (fun y3 ey3 => ?_)
      have h := nm_o h y3 ey3
      refine lv_istore (lv' := [(4, .int y3), (0, .ref (q 0)), (3, .int x3)]) hx hb dX7_unrank_56 hl (by decide) rfl (fun ls hl => ?_)
      exact w_X7_unrank_58 hC N x3 σ' _ ih N σ y3 _ _ ls h hw (lv_sub hl [1, 2, 0] rfl)
def lp_X7_unrank_9 (N : Nat) : Nat → St → Int32 → Int32 → Option St
  | 0, _, _, _ => none
  | n + 1, σ, x2, x3 => if x3 < 0 then (nm ((σ.1 9) - (1 : Int32)) (fun y2 => lp_X7_unrank_49 N N σ y2)) else (gd (decide (¬ ((σ.1 9) - x3) = 0)) (gd (okx x3 8) (nm (sA σ 15 x3 (jrem x2 ((σ.1 9) - x3))) (fun σ9 => gd (decide (¬ ((σ9.1 9) - x3) = 0)) (nm (x2 / ((σ9.1 9) - x3)) (fun y10 => nm (x3 + (-1)) (fun y11 => lp_X7_unrank_9 N n σ9 y10 y11)))))))
set_option maxRecDepth 100000 in
set_option maxHeartbeats 4000000 in
theorem w_X7_unrank_9 {p : Program} {l : Launch} {e : Env} {s : State} {m : MethodId} {below : List Frame} {meth : Method} {c : Code} {args : Array Value} {D : va_G} {q : Nat → Nat} {k : cK} {ws0 : va_W} (hC : Cx p s m meth c cX7_unrank RX7 5 none) (N : Nat) (σ' : St) :
    ∀ (n : Nat) (σ : St) (x2 : Int32) (x3 : Int32) (H : Heap) (locs : List Loc) (ls : Array Slot), lp_X7_unrank_9 N n σ x2 x3 = some σ' → WH D (MW q k σ) k (AQ ws0) s s.heap H locs → lv_has ls 5 [(0, .ref (q 0)), (2, .int x2), (3, .int x3)] → W p l e rm_X7_unrank s m args below meth c H locs 0 0 (MQ below (QR D ws0 (MW q k σ') none) args s 0 0 (AQ ws0)) (F0 m 9 ls []) := by
  have hx := hC.1
  have hb := hC.2.1
  intro n
  induction n with
  | zero =>
    intro σ x2 x3 H locs ls h
    cases h
  | succ n ih =>
    intro σ x2 x3 H locs ls h hw hl
    rw [lp_X7_unrank_9] at h
    refine lv_iload_n hx hb dX7_unrank_9 rfl (lv_at hl 2 rfl) ?_
    refine lv_if_lt (tgt := 42) hx hb dX7_unrank_10 (by decide) (fun c => ?_) (fun c => ?_)
    · have h := if_t h c
      refine lv_aload_n hx hb dX7_unrank_42 rfl (lv_at hl 0 rfl) ?_
      refine M_g_X7_172 hC hw dX7_unrank_43 ?_
      refine lv_iconst (v := 1) hx hb dX7_unrank_46 (by decide) ?_
      refine lv_isub hx hb dX7_unrank_47 ?_
      refine lv_topi (fun y2 ey2 => ?_)
      have h := nm_o h y2 ey2
      refine lv_istore_n (lv' := [(3, .int y2), (0, .ref (q 0)), (2, .int x2)]) hx hb dX7_unrank_48 rfl hl (by decide) rfl (fun ls hl => ?_)
      exact w_X7_unrank_49 hC N σ' N σ y2 _ _ ls h hw (lv_sub hl [1, 0] rfl)
    · have h := if_f h c
      refine lv_aload_n hx hb dX7_unrank_13 rfl (lv_at hl 0 rfl) ?_
      refine M_g_X7_58 hC hw dX7_unrank_14 ?_
      refine lv_iload_n hx hb dX7_unrank_17 rfl (lv_at hl 2 rfl) ?_
      refine lv_iload_n hx hb dX7_unrank_18 rfl (lv_at hl 1 rfl) ?_
      refine lv_aload_n hx hb dX7_unrank_19 rfl (lv_at hl 0 rfl) ?_
      refine M_g_X7_172 hC hw dX7_unrank_20 ?_
      refine lv_iload_n hx hb dX7_unrank_23 rfl (lv_at hl 2 rfl) ?_
      refine lv_isub hx hb dX7_unrank_24 ?_
      obtain ⟨hne, h⟩ := gp_o h
      refine lv_irem hx hb dX7_unrank_25 hne ?_
      obtain ⟨hin, h⟩ := gd_o h
      refine M_st16 hC hw hin dX7_unrank_26 (fun σ9 eσ9 H locs hw => ?_)
      have h := nm_o h σ9 eσ9
      refine lv_iload_n hx hb dX7_unrank_27 rfl (lv_at hl 1 rfl) ?_
      refine lv_aload_n hx hb dX7_unrank_28 rfl (lv_at hl 0 rfl) ?_
      refine M_g_X7_172 hC hw dX7_unrank_29 ?_
      refine lv_iload_n hx hb dX7_unrank_32 rfl (lv_at hl 2 rfl) ?_
      refine lv_isub hx hb dX7_unrank_33 ?_
      obtain ⟨hne, h⟩ := gp_o h
      refine lv_idiv hx hb dX7_unrank_34 hne ?_
      refine lv_topi (fun y10 ey10 => ?_)
      have h := nm_o h y10 ey10
      refine lv_istore_n (lv' := [(2, .int y10), (0, .ref (q 0)), (3, .int x3)]) hx hb dX7_unrank_35 rfl hl (by decide) rfl (fun ls hl => ?_)
      obtain ⟨y11, ey11⟩ : ∃ y : Int32, y = x3 + (-1) := ⟨_, rfl⟩
      have h := nm_o h y11 ey11
      refine lv_iinc (v := y11) (lv' := [(3, .int y11), (2, .int y10), (0, .ref (q 0))]) hx hb dX7_unrank_36 hl (k := 2) rfl (by rw [ey11]; rfl) (by decide) rfl (fun ls hl => ?_)
      refine lv_goto (tgt := 9) hx hb dX7_unrank_39 (by decide) ?_
      exact ih σ9 y10 y11 _ _ ls h hw (lv_sub hl [2, 1, 0] rfl)
def f_X7_unrank (N : Nat) (σ : St) (a0 : Int32) : Option St :=
  nm ((σ.1 9) - (1 : Int32)) (fun y1 => lp_X7_unrank_9 N N σ a0 y1)
set_option maxRecDepth 100000 in
set_option maxHeartbeats 4000000 in
theorem c_X7_unrank (l : Launch) (D : va_G) (q : Nat → Nat) (k : cK) (N : Nat) (σ : St) (a0 : Int32) (σ' : St) (h : f_X7_unrank N σ a0 = some σ') :
    Met l yX7_unrank [.code yX7_unrank cX7_unrank 5 none] rm_X7_unrank (PC D (MW q k σ) k [.ref (q 0), .int a0]) (QR D (MW q k σ) (MW q k σ') none) 0 0 (AQ (MW q k σ)) := by
  refine met_of (by decide) (Nat.le_of_ble_eq_true rfl) ?_
  intro p e s m below meth c hC hw ls hl
  have hC : Cx p s m meth c cX7_unrank RX7 5 none := hC
  have hl : lv_has ls 5 [(0, .ref (q 0)), (1, .int a0)] := hl
  have hx := hC.1
  have hb := hC.2.1
  unfold f_X7_unrank at h
  refine lv_iload_n hx hb dX7_unrank_0 rfl (lv_at hl 1 rfl) ?_
  refine lv_istore_n (lv' := [(2, .int a0), (0, .ref (q 0)), (1, .int a0)]) hx hb dX7_unrank_1 rfl hl (by decide) rfl (fun ls hl => ?_)
  refine lv_aload_n hx hb dX7_unrank_2 rfl (lv_at hl 1 rfl) ?_
  refine M_g_X7_172 hC hw dX7_unrank_3 ?_
  refine lv_iconst (v := 1) hx hb dX7_unrank_6 (by decide) ?_
  refine lv_isub hx hb dX7_unrank_7 ?_
  refine lv_topi (fun y1 ey1 => ?_)
  have h := nm_o h y1 ey1
  refine lv_istore_n (lv' := [(3, .int y1), (2, .int a0), (0, .ref (q 0)), (1, .int a0)]) hx hb dX7_unrank_8 rfl hl (by decide) rfl (fun ls hl => ?_)
  exact w_X7_unrank_9 hC N σ' N σ a0 y1 _ _ ls h hw (lv_sub hl [2, 1, 0] rfl)
/-! SlideBoardsModel.go()I -/
abbrev rm_X7_go : Room := { frames := 1, cells := 0, slots := 0, locals := 24 }
def lp_X7_go_103 (N : Nat) (σ : St) (x1 : Int32) (x2 : Int32) (x3 : Int32) (K82 : St → Int32 → Int32 → Option (Int32 × St)) : Nat → Int32 → Option (Int32 × St)
  | 0, _ => none
  | n + 1, x4 => gd (okx x4 8) (if (ra σ 15 x4) = 0 then (bd1 (f_X7_isJoined N σ x3 x4) (fun r6 => if r6 = 0 then (nm (x3 + (1 : Int32)) (fun y15 => K82 σ x1 y15)) else (gd (okx x3 8) (gd (okx x4 8) (nm (sA σ 15 x4 (ra σ 15 x3)) (fun σ7 => gd (okx x3 8) (nm (sA σ7 15 x3 (0 : Int32)) (fun σ8 => bd1 (f_X7_rank N σ8) (fun r9 => gd (okx r9 40320) (if (ra σ8 16 r9) = 0 then (gd (okx r9 40320) (nm (sA σ8 16 r9 (vp_nar .boolean (1 : Int32))) (fun σ10 => gd (okx x1 40320) (nm (sA σ10 17 x1 r9) (fun σ11 => nm (x1 + (1 : Int32)) (fun y12 => nm (x3 + (1 : Int32)) (fun y13 => K82 σ11 y12 y13))))))) else (nm (x3 + (1 : Int32)) (fun y14 => K82 σ8 x1 y14)))))))))))) else (nm (x4 + (1 : Int32)) (fun y16 => lp_X7_go_103 N σ x1 x2 x3 K82 n y16)))
set_option maxRecDepth 100000 in
set_option maxHeartbeats 4000000 in
theorem w_X7_go_103 {p : Program} {l : Launch} {e : Env} {s : State} {m : MethodId} {below : List Frame} {meth : Method} {c : Code} {args : Array Value} {D : va_G} {q : Nat → Nat} {k : cK} {ws0 : va_W} (hC : Cx p s m meth c cX7_go RX7 6 (some .int)) (N : Nat) (σ : St) (x1 : Int32) (x2 : Int32) (x3 : Int32) (r : Int32) (σ' : St) (K82 : St → Int32 → Int32 → Option (Int32 × St)) (hK82 : ∀ (σ : St) (x1 : Int32) (x3 : Int32) (H : Heap) (locs : List Loc) (ls : Array Slot), K82 σ x1 x3 = some (r, σ') → WH D (MW q k σ) k (AQ ws0) s s.heap H locs → lv_has ls 6 [(0, .ref (q 0)), (1, .int x1), (2, .int x2), (3, .int x3)] → W p l e rm_X7_go s m args below meth c H locs 0 0 (MQ below (QR D ws0 (MW q k σ') (some (.int r))) args s 0 0 (AQ ws0)) (F0 m 82 ls [])) :
    ∀ (n : Nat) (x4 : Int32) (H : Heap) (locs : List Loc) (ls : Array Slot), lp_X7_go_103 N σ x1 x2 x3 K82 n x4 = some (r, σ') → WH D (MW q k σ) k (AQ ws0) s s.heap H locs → lv_has ls 6 [(0, .ref (q 0)), (1, .int x1), (2, .int x2), (3, .int x3), (4, .int x4)] → W p l e rm_X7_go s m args below meth c H locs 0 0 (MQ below (QR D ws0 (MW q k σ') (some (.int r))) args s 0 0 (AQ ws0)) (F0 m 103 ls []) := by
  have hx := hC.1
  have hb := hC.2.1
  intro n
  induction n with
  | zero =>
    intro x4 H locs ls h
    cases h
  | succ n ih =>
    intro x4 H locs ls h hw hl
    rw [lp_X7_go_103] at h
    refine lv_aload_n hx hb dX7_go_103 rfl (lv_at hl 0 rfl) ?_
    refine M_g_X7_58 hC hw dX7_go_104 ?_
    refine lv_iload hx hb dX7_go_107 (lv_at hl 4 rfl) ?_
    obtain ⟨hin, h⟩ := gd_o h
    refine M_ld16 hC hw hin dX7_go_109 ?_
    refine lv_if_eq (tgt := 119) hx hb dX7_go_110 (by decide) (fun c => ?_) (fun c => ?_)
    · have h := if_t h c
      refine lv_aload_n hx hb dX7_go_119 rfl (lv_at hl 0 rfl) ?_
      refine lv_iload_n hx hb dX7_go_120 rfl (lv_at hl 3 rfl) ?_
      refine lv_iload hx hb dX7_go_121 (lv_at hl 4 rfl) ?_
      obtain ⟨r6, hc, h⟩ := bd1_o h
      refine go_i (run_V (As := [.int x3, .int x4]) (rest := []) hC hw (c_X7_isJoined l D q k N σ x3 x4 r6 hc) kw_326 kw_328 kw_329 kw_246 kw_327 hd_X7_isJoined ⟨rfl, rfl⟩ ⟨Nat.le_of_ble_eq_true rfl, Nat.le_of_ble_eq_true rfl⟩ 0 rfl rfl rfl hl.1 rfl (Nat.le_of_ble_eq_true rfl) dX7_go_123 ⟨Nat.zero_le _, Nat.zero_le _⟩) hw (fun H locs hw => ?_)
      refine lv_if_ne (tgt := 132) hx hb dX7_go_126 (by decide) (fun c => ?_) (fun c => ?_)
      · have h := if_f h c
        refine lv_aload_n hx hb dX7_go_132 rfl (lv_at hl 0 rfl) ?_
        refine M_g_X7_58 hC hw dX7_go_133 ?_
        refine lv_iload hx hb dX7_go_136 (lv_at hl 4 rfl) ?_
        refine lv_aload_n hx hb dX7_go_138 rfl (lv_at hl 0 rfl) ?_
        refine M_g_X7_58 hC hw dX7_go_139 ?_
        refine lv_iload_n hx hb dX7_go_142 rfl (lv_at hl 3 rfl) ?_
        obtain ⟨hin, h⟩ := gd_o h
        refine M_ld16 hC hw hin dX7_go_143 ?_
        obtain ⟨hin, h⟩ := gd_o h
        refine M_st16 hC hw hin dX7_go_144 (fun σ7 eσ7 H locs hw => ?_)
        have h := nm_o h σ7 eσ7
        refine lv_aload_n hx hb dX7_go_145 rfl (lv_at hl 0 rfl) ?_
        refine M_g_X7_58 hC hw dX7_go_146 ?_
        refine lv_iload_n hx hb dX7_go_149 rfl (lv_at hl 3 rfl) ?_
        refine lv_iconst (v := 0) hx hb dX7_go_150 (by decide) ?_
        obtain ⟨hin, h⟩ := gd_o h
        refine M_st16 hC hw hin dX7_go_151 (fun σ8 eσ8 H locs hw => ?_)
        have h := nm_o h σ8 eσ8
        refine lv_aload_n hx hb dX7_go_152 rfl (lv_at hl 0 rfl) ?_
        obtain ⟨r9, hc, h⟩ := bd1_o h
        refine go_i (run_V (As := []) (rest := []) hC hw (c_X7_rank l D q k N σ8 r9 hc) kw_347 kw_349 kw_350 kw_246 kw_348 hd_X7_rank ⟨rfl, rfl⟩ ⟨Nat.le_of_ble_eq_true rfl, Nat.le_of_ble_eq_true rfl⟩ 0 rfl rfl rfl hl.1 rfl (Nat.le_of_ble_eq_true rfl) dX7_go_153 ⟨Nat.zero_le _, Nat.zero_le _⟩) hw (fun H locs hw => ?_)
        refine lv_istore (lv' := [(5, .int r9), (0, .ref (q 0)), (1, .int x1), (2, .int x2), (3, .int x3), (4, .int x4)]) hx hb dX7_go_156 hl (by decide) rfl (fun ls hl => ?_)
        refine lv_aload_n hx hb dX7_go_158 rfl (lv_at hl 1 rfl) ?_
        refine M_g_X7_62 hC hw dX7_go_159 ?_
        refine lv_iload hx hb dX7_go_162 (lv_at hl 0 rfl) ?_
        obtain ⟨hin, h⟩ := gd_o h
        refine M_ld17 hC hw hin dX7_go_164 ?_
        refine lv_if_eq (tgt := 171) hx hb dX7_go_165 (by decide) (fun c => ?_) (fun c => ?_)
        · have h := if_t h c
          refine lv_aload_n hx hb dX7_go_171 rfl (lv_at hl 1 rfl) ?_
          refine M_g_X7_62 hC hw dX7_go_172 ?_
          refine lv_iload hx hb dX7_go_175 (lv_at hl 0 rfl) ?_
          refine lv_iconst (v := 1) hx hb dX7_go_177 (by decide) ?_
          obtain ⟨hin, h⟩ := gd_o h
          refine M_st17 hC hw hin dX7_go_178 (fun σ10 eσ10 H locs hw => ?_)
          have h := nm_o h σ10 eσ10
          refine lv_aload_n hx hb dX7_go_179 rfl (lv_at hl 1 rfl) ?_
          refine M_g_X7_65 hC hw dX7_go_180 ?_
          refine lv_iload_n hx hb dX7_go_183 rfl (lv_at hl 2 rfl) ?_
          refine lv_iload hx hb dX7_go_184 (lv_at hl 0 rfl) ?_
          obtain ⟨hin, h⟩ := gd_o h
          refine M_st18 hC hw hin dX7_go_186 (fun σ11 eσ11 H locs hw => ?_)
          have h := nm_o h σ11 eσ11
          obtain ⟨y12, ey12⟩ : ∃ y : Int32, y = x1 + (1 : Int32) := ⟨_, rfl⟩
          have h := nm_o h y12 ey12
          refine lv_iinc (v := y12) (lv' := [(1, .int y12), (5, .int r9), (0, .ref (q 0)), (2, .int x2), (3, .int x3), (4, .int x4)]) hx hb dX7_go_187 hl (k := 2) rfl (by rw [ey12]; rfl) (by decide) rfl (fun ls hl => ?_)
          obtain ⟨y13, ey13⟩ : ∃ y : Int32, y = x3 + (1 : Int32) := ⟨_, rfl⟩
          have h := nm_o h y13 ey13
          refine lv_iinc (v := y13) (lv' := [(3, .int y13), (1, .int y12), (5, .int r9), (0, .ref (q 0)), (2, .int x2), (4, .int x4)]) hx hb dX7_go_190 hl (k := 4) rfl (by rw [ey13]; rfl) (by decide) rfl (fun ls hl => ?_)
          refine lv_goto (tgt := 82) hx hb dX7_go_193 (by decide) ?_
          exact hK82 σ11 y12 y13 _ _ ls h hw (lv_sub hl [3, 1, 4, 0] rfl)
        · have h := if_f h c
          refine lv_goto (tgt := 190) hx hb dX7_go_168 (by decide) ?_
          obtain ⟨y14, ey14⟩ : ∃ y : Int32, y = x3 + (1 : Int32) := ⟨_, rfl⟩
          have h := nm_o h y14 ey14
          refine lv_iinc (v := y14) (lv' := [(3, .int y14), (5, .int r9), (0, .ref (q 0)), (1, .int x1), (2, .int x2), (4, .int x4)]) hx hb dX7_go_190 hl (k := 4) rfl (by rw [ey14]; rfl) (by decide) rfl (fun ls hl => ?_)
          refine lv_goto (tgt := 82) hx hb dX7_go_193 (by decide) ?_
          exact hK82 σ8 x1 y14 _ _ ls h hw (lv_sub hl [2, 3, 4, 0] rfl)
      · have h := if_t h c
        refine lv_goto (tgt := 190) hx hb dX7_go_129 (by decide) ?_
        obtain ⟨y15, ey15⟩ : ∃ y : Int32, y = x3 + (1 : Int32) := ⟨_, rfl⟩
        have h := nm_o h y15 ey15
        refine lv_iinc (v := y15) (lv' := [(3, .int y15), (0, .ref (q 0)), (1, .int x1), (2, .int x2), (4, .int x4)]) hx hb dX7_go_190 hl (k := 3) rfl (by rw [ey15]; rfl) (by decide) rfl (fun ls hl => ?_)
        refine lv_goto (tgt := 82) hx hb dX7_go_193 (by decide) ?_
        exact hK82 σ x1 y15 _ _ ls h hw (lv_sub hl [1, 2, 3, 0] rfl)
    · have h := if_f h c
      obtain ⟨y16, ey16⟩ : ∃ y : Int32, y = x4 + (1 : Int32) := ⟨_, rfl⟩
      have h := nm_o h y16 ey16
      refine lv_iinc (v := y16) (lv' := [(4, .int y16), (0, .ref (q 0)), (1, .int x1), (2, .int x2), (3, .int x3)]) hx hb dX7_go_113 hl (k := 4) rfl (by rw [ey16]; rfl) (by decide) rfl (fun ls hl => ?_)
      refine lv_goto (tgt := 103) hx hb dX7_go_116 (by decide) ?_
      exact ih y16 _ _ ls h hw (lv_sub hl [1, 2, 3, 4, 0] rfl)
def lp_X7_go_82 (N : Nat) (x2 : Int32) (K75 : St → Int32 → Int32 → Option (Int32 × St)) : Nat → St → Int32 → Int32 → Option (Int32 × St)
  | 0, _, _, _ => none
  | n + 1, σ, x1, x3 => if (σ.1 9) ≤ x3 then (nm (x2 + (1 : Int32)) (fun y4 => K75 σ x1 y4)) else (gd (okx x2 40320) (bd1 (f_X7_unrank N σ (ra σ 17 x2)) (fun σ5 => lp_X7_go_103 N σ5 x1 x2 x3 (fun v0 v1 v2 => lp_X7_go_82 N x2 K75 n v0 v1 v2) N (0 : Int32))))
set_option maxRecDepth 100000 in
set_option maxHeartbeats 4000000 in
theorem w_X7_go_82 {p : Program} {l : Launch} {e : Env} {s : State} {m : MethodId} {below : List Frame} {meth : Method} {c : Code} {args : Array Value} {D : va_G} {q : Nat → Nat} {k : cK} {ws0 : va_W} (hC : Cx p s m meth c cX7_go RX7 6 (some .int)) (N : Nat) (x2 : Int32) (r : Int32) (σ' : St) (K75 : St → Int32 → Int32 → Option (Int32 × St)) (hK75 : ∀ (σ : St) (x1 : Int32) (x2 : Int32) (H : Heap) (locs : List Loc) (ls : Array Slot), K75 σ x1 x2 = some (r, σ') → WH D (MW q k σ) k (AQ ws0) s s.heap H locs → lv_has ls 6 [(0, .ref (q 0)), (1, .int x1), (2, .int x2)] → W p l e rm_X7_go s m args below meth c H locs 0 0 (MQ below (QR D ws0 (MW q k σ') (some (.int r))) args s 0 0 (AQ ws0)) (F0 m 75 ls [])) :
    ∀ (n : Nat) (σ : St) (x1 : Int32) (x3 : Int32) (H : Heap) (locs : List Loc) (ls : Array Slot), lp_X7_go_82 N x2 K75 n σ x1 x3 = some (r, σ') → WH D (MW q k σ) k (AQ ws0) s s.heap H locs → lv_has ls 6 [(0, .ref (q 0)), (1, .int x1), (2, .int x2), (3, .int x3)] → W p l e rm_X7_go s m args below meth c H locs 0 0 (MQ below (QR D ws0 (MW q k σ') (some (.int r))) args s 0 0 (AQ ws0)) (F0 m 82 ls []) := by
  have hx := hC.1
  have hb := hC.2.1
  intro n
  induction n with
  | zero =>
    intro σ x1 x3 H locs ls h
    cases h
  | succ n ih =>
    intro σ x1 x3 H locs ls h hw hl
    rw [lp_X7_go_82] at h
    refine lv_iload_n hx hb dX7_go_82 rfl (lv_at hl 3 rfl) ?_
    refine lv_aload_n hx hb dX7_go_83 rfl (lv_at hl 0 rfl) ?_
    refine M_g_X7_172 hC hw dX7_go_84 ?_
    refine lv_icmp_ge (tgt := 196) hx hb dX7_go_87 (by decide) (fun c => ?_) (fun c => ?_)
    · have h := if_t h c
      obtain ⟨y4, ey4⟩ : ∃ y : Int32, y = x2 + (1 : Int32) := ⟨_, rfl⟩
      have h := nm_o h y4 ey4
      refine lv_iinc (v := y4) (lv' := [(2, .int y4), (0, .ref (q 0)), (1, .int x1), (3, .int x3)]) hx hb dX7_go_196 hl (k := 2) rfl (by rw [ey4]; rfl) (by decide) rfl (fun ls hl => ?_)
      refine lv_goto (tgt := 75) hx hb dX7_go_199 (by decide) ?_
      exact hK75 σ x1 y4 _ _ ls h hw (lv_sub hl [1, 2, 0] rfl)
    · have h := if_f h c
      refine lv_aload_n hx hb dX7_go_90 rfl (lv_at hl 0 rfl) ?_
      refine lv_aload_n hx hb dX7_go_91 rfl (lv_at hl 0 rfl) ?_
      refine M_g_X7_65 hC hw dX7_go_92 ?_
      refine lv_iload_n hx hb dX7_go_95 rfl (lv_at hl 2 rfl) ?_
      obtain ⟨hin, h⟩ := gd_o h
      refine M_ld18 hC hw hin dX7_go_96 ?_
      obtain ⟨σ5, hc, h⟩ := bd1_o h
      refine go_v (run_V (As := [.int (ra σ 17 x2)]) (rest := []) hC hw (c_X7_unrank l D q k N σ (ra σ 17 x2) σ5 hc) kw_351 kw_353 kw_354 kw_246 kw_352 hd_X7_unrank ⟨rfl, rfl⟩ ⟨Nat.le_of_ble_eq_true rfl, Nat.le_of_ble_eq_true rfl⟩ 0 rfl rfl rfl hl.1 rfl (Nat.le_of_ble_eq_true rfl) dX7_go_97 ⟨Nat.zero_le _, Nat.zero_le _⟩) hw (fun H locs hw => ?_)
      refine lv_iconst (v := 0) hx hb dX7_go_100 (by decide) ?_
      refine lv_istore (lv' := [(4, .int (0 : Int32)), (0, .ref (q 0)), (1, .int x1), (2, .int x2), (3, .int x3)]) hx hb dX7_go_101 hl (by decide) rfl (fun ls hl => ?_)
      exact w_X7_go_103 hC N σ5 x1 x2 x3 r σ' _ ih N (0 : Int32) _ _ ls h hw (lv_sub hl [1, 2, 3, 4, 0] rfl)
def lp_X7_go_75 (N : Nat) : Nat → St → Int32 → Int32 → Option (Int32 × St)
  | 0, _, _, _ => none
  | n + 1, σ, x1, x2 => if x1 ≤ x2 then (some (x1, σ)) else (lp_X7_go_82 N x2 (fun v0 v1 v2 => lp_X7_go_75 N n v0 v1 v2) N σ x1 (0 : Int32))
set_option maxRecDepth 100000 in
set_option maxHeartbeats 4000000 in
theorem w_X7_go_75 {p : Program} {l : Launch} {e : Env} {s : State} {m : MethodId} {below : List Frame} {meth : Method} {c : Code} {args : Array Value} {D : va_G} {q : Nat → Nat} {k : cK} {ws0 : va_W} (hC : Cx p s m meth c cX7_go RX7 6 (some .int)) (N : Nat) (r : Int32) (σ' : St) :
    ∀ (n : Nat) (σ : St) (x1 : Int32) (x2 : Int32) (H : Heap) (locs : List Loc) (ls : Array Slot), lp_X7_go_75 N n σ x1 x2 = some (r, σ') → WH D (MW q k σ) k (AQ ws0) s s.heap H locs → lv_has ls 6 [(0, .ref (q 0)), (1, .int x1), (2, .int x2)] → W p l e rm_X7_go s m args below meth c H locs 0 0 (MQ below (QR D ws0 (MW q k σ') (some (.int r))) args s 0 0 (AQ ws0)) (F0 m 75 ls []) := by
  have hx := hC.1
  have hb := hC.2.1
  intro n
  induction n with
  | zero =>
    intro σ x1 x2 H locs ls h
    cases h
  | succ n ih =>
    intro σ x1 x2 H locs ls h hw hl
    rw [lp_X7_go_75] at h
    refine lv_iload_n hx hb dX7_go_75 rfl (lv_at hl 2 rfl) ?_
    refine lv_iload_n hx hb dX7_go_76 rfl (lv_at hl 1 rfl) ?_
    refine lv_icmp_ge (tgt := 202) hx hb dX7_go_77 (by decide) (fun c => ?_) (fun c => ?_)
    · have h := if_t h c
      refine lv_iload_n hx hb dX7_go_202 rfl (lv_at hl 1 rfl) ?_
      cases h
      exact ret_i hC hw dX7_go_203
    · have h := if_f h c
      refine lv_iconst (v := 0) hx hb dX7_go_80 (by decide) ?_
      refine lv_istore_n (lv' := [(3, .int (0 : Int32)), (0, .ref (q 0)), (1, .int x1), (2, .int x2)]) hx hb dX7_go_81 rfl hl (by decide) rfl (fun ls hl => ?_)
      exact w_X7_go_82 hC N x2 r σ' _ ih N σ x1 (0 : Int32) _ _ ls h hw (lv_sub hl [1, 2, 3, 0] rfl)
def lp_X7_go_23 (N : Nat) : Nat → St → Int32 → Option (Int32 × St)
  | 0, _, _ => none
  | n + 1, σ, x1 => if (σ.1 9) ≤ x1 then (bd1 (f_X7_rank N σ) (fun r1 => gd (okx (0 : Int32) 40320) (nm (sA σ 17 (0 : Int32) r1) (fun σ2 => gd (okx (0 : Int32) 40320) (gd (okx (ra σ2 17 (0 : Int32)) 40320) (nm (sA σ2 16 (ra σ2 17 (0 : Int32)) (vp_nar .boolean (1 : Int32))) (fun σ3 => lp_X7_go_75 N N σ3 (1 : Int32) (0 : Int32)))))))) else (gd (okx x1 8) (gd (okx x1 8) (nm (sA σ 15 x1 (ra σ 14 x1)) (fun σ17 => nm (x1 + (1 : Int32)) (fun y18 => lp_X7_go_23 N n σ17 y18)))))
set_option maxRecDepth 100000 in
set_option maxHeartbeats 4000000 in
theorem w_X7_go_23 {p : Program} {l : Launch} {e : Env} {s : State} {m : MethodId} {below : List Frame} {meth : Method} {c : Code} {args : Array Value} {D : va_G} {q : Nat → Nat} {k : cK} {ws0 : va_W} (hC : Cx p s m meth c cX7_go RX7 6 (some .int)) (N : Nat) (r : Int32) (σ' : St) :
    ∀ (n : Nat) (σ : St) (x1 : Int32) (H : Heap) (locs : List Loc) (ls : Array Slot), lp_X7_go_23 N n σ x1 = some (r, σ') → WH D (MW q k σ) k (AQ ws0) s s.heap H locs → lv_has ls 6 [(0, .ref (q 0)), (1, .int x1)] → W p l e rm_X7_go s m args below meth c H locs 0 0 (MQ below (QR D ws0 (MW q k σ') (some (.int r))) args s 0 0 (AQ ws0)) (F0 m 23 ls []) := by
  have hx := hC.1
  have hb := hC.2.1
  intro n
  induction n with
  | zero =>
    intro σ x1 H locs ls h
    cases h
  | succ n ih =>
    intro σ x1 H locs ls h hw hl
    rw [lp_X7_go_23] at h
    refine lv_iload_n hx hb dX7_go_23 rfl (lv_at hl 1 rfl) ?_
    refine lv_aload_n hx hb dX7_go_24 rfl (lv_at hl 0 rfl) ?_
    refine M_g_X7_172 hC hw dX7_go_25 ?_
    refine lv_icmp_ge (tgt := 49) hx hb dX7_go_28 (by decide) (fun c => ?_) (fun c => ?_)
    · have h := if_t h c
      refine lv_aload_n hx hb dX7_go_49 rfl (lv_at hl 0 rfl) ?_
      refine M_g_X7_65 hC hw dX7_go_50 ?_
      refine lv_iconst (v := 0) hx hb dX7_go_53 (by decide) ?_
      refine lv_aload_n hx hb dX7_go_54 rfl (lv_at hl 0 rfl) ?_
      obtain ⟨r1, hc, h⟩ := bd1_o h
      refine go_i (run_V (As := []) (rest := [.int (0 : Int32), .ref (q 18)]) hC hw (c_X7_rank l D q k N σ r1 hc) kw_347 kw_349 kw_350 kw_246 kw_348 hd_X7_rank ⟨rfl, rfl⟩ ⟨Nat.le_of_ble_eq_true rfl, Nat.le_of_ble_eq_true rfl⟩ 0 rfl rfl rfl hl.1 rfl (Nat.le_of_ble_eq_true rfl) dX7_go_55 ⟨Nat.zero_le _, Nat.zero_le _⟩) hw (fun H locs hw => ?_)
      obtain ⟨hin, h⟩ := gd_o h
      refine M_st18 hC hw hin dX7_go_58 (fun σ2 eσ2 H locs hw => ?_)
      have h := nm_o h σ2 eσ2
      refine lv_aload_n hx hb dX7_go_59 rfl (lv_at hl 0 rfl) ?_
      refine M_g_X7_62 hC hw dX7_go_60 ?_
      refine lv_aload_n hx hb dX7_go_63 rfl (lv_at hl 0 rfl) ?_
      refine M_g_X7_65 hC hw dX7_go_64 ?_
      refine lv_iconst (v := 0) hx hb dX7_go_67 (by decide) ?_
      obtain ⟨hin, h⟩ := gd_o h
      refine M_ld18 hC hw hin dX7_go_68 ?_
      refine lv_iconst (v := 1) hx hb dX7_go_69 (by decide) ?_
      obtain ⟨hin, h⟩ := gd_o h
      refine M_st17 hC hw hin dX7_go_70 (fun σ3 eσ3 H locs hw => ?_)
      have h := nm_o h σ3 eσ3
      refine lv_iconst (v := 1) hx hb dX7_go_71 (by decide) ?_
      refine lv_istore_n (lv' := [(1, .int (1 : Int32)), (0, .ref (q 0))]) hx hb dX7_go_72 rfl hl (by decide) rfl (fun ls hl => ?_)
      refine lv_iconst (v := 0) hx hb dX7_go_73 (by decide) ?_
      refine lv_istore_n (lv' := [(2, .int (0 : Int32)), (1, .int (1 : Int32)), (0, .ref (q 0))]) hx hb dX7_go_74 rfl hl (by decide) rfl (fun ls hl => ?_)
      exact w_X7_go_75 hC N r σ' N σ3 (1 : Int32) (0 : Int32) _ _ ls h hw (lv_sub hl [2, 1, 0] rfl)
    · have h := if_f h c
      refine lv_aload_n hx hb dX7_go_31 rfl (lv_at hl 0 rfl) ?_
      refine M_g_X7_58 hC hw dX7_go_32 ?_
      refine lv_iload_n hx hb dX7_go_35 rfl (lv_at hl 1 rfl) ?_
      refine lv_aload_n hx hb dX7_go_36 rfl (lv_at hl 0 rfl) ?_
      refine M_g_X7_55 hC hw dX7_go_37 ?_
      refine lv_iload_n hx hb dX7_go_40 rfl (lv_at hl 1 rfl) ?_
      obtain ⟨hin, h⟩ := gd_o h
      refine M_ld15 hC hw hin dX7_go_41 ?_
      obtain ⟨hin, h⟩ := gd_o h
      refine M_st16 hC hw hin dX7_go_42 (fun σ17 eσ17 H locs hw => ?_)
      have h := nm_o h σ17 eσ17
      obtain ⟨y18, ey18⟩ : ∃ y : Int32, y = x1 + (1 : Int32) := ⟨_, rfl⟩
      have h := nm_o h y18 ey18
      refine lv_iinc (v := y18) (lv' := [(1, .int y18), (0, .ref (q 0))]) hx hb dX7_go_43 hl (k := 1) rfl (by rw [ey18]; rfl) (by decide) rfl (fun ls hl => ?_)
      refine lv_goto (tgt := 23) hx hb dX7_go_46 (by decide) ?_
      exact ih σ17 y18 _ _ ls h hw (lv_sub hl [1, 0] rfl)
def lp_X7_go_2 (N : Nat) : Nat → St → Int32 → Option (Int32 × St)
  | 0, _, _ => none
  | n + 1, σ, x1 => if (40320 : Int32) ≤ x1 then (lp_X7_go_23 N N σ (0 : Int32)) else (gd (okx x1 40320) (nm (sA σ 16 x1 (vp_nar .boolean (0 : Int32))) (fun σ19 => nm (x1 + (1 : Int32)) (fun y20 => lp_X7_go_2 N n σ19 y20))))
set_option maxRecDepth 100000 in
set_option maxHeartbeats 4000000 in
theorem w_X7_go_2 {p : Program} {l : Launch} {e : Env} {s : State} {m : MethodId} {below : List Frame} {meth : Method} {c : Code} {args : Array Value} {D : va_G} {q : Nat → Nat} {k : cK} {ws0 : va_W} (hC : Cx p s m meth c cX7_go RX7 6 (some .int)) (N : Nat) (r : Int32) (σ' : St) :
    ∀ (n : Nat) (σ : St) (x1 : Int32) (H : Heap) (locs : List Loc) (ls : Array Slot), lp_X7_go_2 N n σ x1 = some (r, σ') → WH D (MW q k σ) k (AQ ws0) s s.heap H locs → lv_has ls 6 [(0, .ref (q 0)), (1, .int x1)] → W p l e rm_X7_go s m args below meth c H locs 0 0 (MQ below (QR D ws0 (MW q k σ') (some (.int r))) args s 0 0 (AQ ws0)) (F0 m 2 ls []) := by
  have hx := hC.1
  have hb := hC.2.1
  intro n
  induction n with
  | zero =>
    intro σ x1 H locs ls h
    cases h
  | succ n ih =>
    intro σ x1 H locs ls h hw hl
    rw [lp_X7_go_2] at h
    refine lv_iload_n hx hb dX7_go_2 rfl (lv_at hl 1 rfl) ?_
    refine lv_ldc hx hb hC.2.2.2.2.1 (hw.2.2.2.2.all _ _ kw_346) dX7_go_3 ?_
    refine lv_icmp_ge (tgt := 21) hx hb dX7_go_5 (by decide) (fun c => ?_) (fun c => ?_)
    · have h := if_t h c
      refine lv_iconst (v := 0) hx hb dX7_go_21 (by decide) ?_
      refine lv_istore_n (lv' := [(1, .int (0 : Int32)), (0, .ref (q 0))]) hx hb dX7_go_22 rfl hl (by decide) rfl (fun ls hl => ?_)
      exact w_X7_go_23 hC N r σ' N σ (0 : Int32) _ _ ls h hw (lv_sub hl [1, 0] rfl)
    · have h := if_f h c
      refine lv_aload_n hx hb dX7_go_8 rfl (lv_at hl 0 rfl) ?_
      refine M_g_X7_62 hC hw dX7_go_9 ?_
      refine lv_iload_n hx hb dX7_go_12 rfl (lv_at hl 1 rfl) ?_
      refine lv_iconst (v := 0) hx hb dX7_go_13 (by decide) ?_
      obtain ⟨hin, h⟩ := gd_o h
      refine M_st17 hC hw hin dX7_go_14 (fun σ19 eσ19 H locs hw => ?_)
      have h := nm_o h σ19 eσ19
      obtain ⟨y20, ey20⟩ : ∃ y : Int32, y = x1 + (1 : Int32) := ⟨_, rfl⟩
      have h := nm_o h y20 ey20
      refine lv_iinc (v := y20) (lv' := [(1, .int y20), (0, .ref (q 0))]) hx hb dX7_go_15 hl (k := 1) rfl (by rw [ey20]; rfl) (by decide) rfl (fun ls hl => ?_)
      refine lv_goto (tgt := 2) hx hb dX7_go_18 (by decide) ?_
      exact ih σ19 y20 _ _ ls h hw (lv_sub hl [1, 0] rfl)
def f_X7_go (N : Nat) (σ : St) : Option (Int32 × St) :=
  lp_X7_go_2 N N σ (0 : Int32)
set_option maxRecDepth 100000 in
set_option maxHeartbeats 4000000 in
theorem c_X7_go (l : Launch) (D : va_G) (q : Nat → Nat) (k : cK) (N : Nat) (σ : St) (r : Int32) (σ' : St) (h : f_X7_go N σ = some (r, σ')) :
    Met l yX7_go [.code yX7_go cX7_go 6 (some .int)] rm_X7_go (PC D (MW q k σ) k [.ref (q 0)]) (QR D (MW q k σ) (MW q k σ') (some (.int r))) 0 0 (AQ (MW q k σ)) := by
  refine met_of (by decide) (Nat.le_of_ble_eq_true rfl) ?_
  intro p e s m below meth c hC hw ls hl
  have hC : Cx p s m meth c cX7_go RX7 6 (some .int) := hC
  have hl : lv_has ls 6 [(0, .ref (q 0))] := hl
  have hx := hC.1
  have hb := hC.2.1
  unfold f_X7_go at h
  refine lv_iconst (v := 0) hx hb dX7_go_0 (by decide) ?_
  refine lv_istore_n (lv' := [(1, .int (0 : Int32)), (0, .ref (q 0))]) hx hb dX7_go_1 rfl hl (by decide) rfl (fun ls hl => ?_)
  exact w_X7_go_2 hC N r σ' N σ (0 : Int32) _ _ ls h hw (lv_sub hl [1, 0] rfl)
/-! SlideBoardsModel.ways()I -/
abbrev rm_X7_ways : Room := { frames := 2, cells := 0, slots := 0, locals := 49 }
def f_X7_ways (N : Nat) (σ : St) : Option (Int32 × St) :=
  nm (sI σ 0 (0 : Int32)) (fun σ1 => if (σ1.1 9) = 0 then (some ((0 : Int32), σ1)) else (bd (f_X7_go N σ1) (fun r2 σ3 => some (r2, σ3))))
set_option maxRecDepth 100000 in
set_option maxHeartbeats 4000000 in
theorem c_X7_ways (l : Launch) (D : va_G) (q : Nat → Nat) (k : cK) (N : Nat) (σ : St) (r : Int32) (σ' : St) (h : f_X7_ways N σ = some (r, σ')) :
    Met l yX7_ways [.code yX7_ways cX7_ways 1 (some .int)] rm_X7_ways (PC D (MW q k σ) k [.ref (q 0)]) (QR D (MW q k σ) (MW q k σ') (some (.int r))) 0 0 (AQ (MW q k σ)) := by
  refine met_of (by decide) (Nat.le_of_ble_eq_true rfl) ?_
  intro p e s m below meth c hC hw ls hl
  have hC : Cx p s m meth c cX7_ways RX7 1 (some .int) := hC
  have hl : lv_has ls 1 [(0, .ref (q 0))] := hl
  have hx := hC.1
  have hb := hC.2.1
  unfold f_X7_ways at h
  refine lv_aload_n hx hb dX7_ways_0 rfl (lv_at hl 0 rfl) ?_
  refine lv_iconst (v := 0) hx hb dX7_ways_1 (by decide) ?_
  refine M_p_X7_81 hC hw dX7_ways_2 (fun σ1 eσ1 H locs hw => ?_)
  have h := nm_o h σ1 eσ1
  refine lv_aload_n hx hb dX7_ways_5 rfl (lv_at hl 0 rfl) ?_
  refine M_g_X7_172 hC hw dX7_ways_6 ?_
  refine lv_if_ne (tgt := 16) hx hb dX7_ways_9 (by decide) (fun c => ?_) (fun c => ?_)
  · have h := if_f h c
    refine lv_aload_n hx hb dX7_ways_16 rfl (lv_at hl 0 rfl) ?_
    obtain ⟨r2, σ3, hc, h⟩ := bd_o h
    refine go_i (run_V (As := []) (rest := []) hC hw (c_X7_go l D q k N σ1 r2 σ3 hc) kw_355 kw_357 kw_358 kw_246 kw_356 hd_X7_go ⟨rfl, rfl⟩ ⟨Nat.le_of_ble_eq_true rfl, Nat.le_of_ble_eq_true rfl⟩ 0 rfl rfl rfl hl.1 rfl (Nat.le_of_ble_eq_true rfl) dX7_ways_17 ⟨Nat.zero_le _, Nat.zero_le _⟩) hw (fun H locs hw => ?_)
    cases h
    exact ret_i hC hw dX7_ways_20
  · have h := if_t h c
    refine lv_iconst (v := 0) hx hb dX7_ways_12 (by decide) ?_
    refine lv_goto (tgt := 20) hx hb dX7_ways_13 (by decide) ?_
    cases h
    exact ret_i hC hw dX7_ways_20
/-! SlideBoardsModel.home()Z -/
abbrev rm_X7_home : Room := { frames := 2, cells := 0, slots := 0, locals := 49 }
def f_X7_home (N : Nat) (σ : St) : Option (Int32 × St) :=
  nm (sI σ 0 (0 : Int32)) (fun σ1 => if (σ1.1 9) = 0 then (some ((1 : Int32), σ1)) else (bd (f_X7_go N σ1) (fun r2 σ3 => gd (okx (0 : Int32) 40320) (gd (decide ((ra σ3 16 (0 : Int32)) = 0 ∨ (ra σ3 16 (0 : Int32)) = 1)) (some (ra σ3 16 (0 : Int32), σ3))))))
set_option maxRecDepth 100000 in
set_option maxHeartbeats 4000000 in
theorem c_X7_home (l : Launch) (D : va_G) (q : Nat → Nat) (k : cK) (N : Nat) (σ : St) (r : Int32) (σ' : St) (h : f_X7_home N σ = some (r, σ')) :
    Met l yX7_home [.code yX7_home cX7_home 1 (some .boolean)] rm_X7_home (PC D (MW q k σ) k [.ref (q 0)]) (QR D (MW q k σ) (MW q k σ') (some (.int r))) 0 0 (AQ (MW q k σ)) := by
  refine met_of (by decide) (Nat.le_of_ble_eq_true rfl) ?_
  intro p e s m below meth c hC hw ls hl
  have hC : Cx p s m meth c cX7_home RX7 1 (some .boolean) := hC
  have hl : lv_has ls 1 [(0, .ref (q 0))] := hl
  have hx := hC.1
  have hb := hC.2.1
  unfold f_X7_home at h
  refine lv_aload_n hx hb dX7_home_0 rfl (lv_at hl 0 rfl) ?_
  refine lv_iconst (v := 0) hx hb dX7_home_1 (by decide) ?_
  refine M_p_X7_81 hC hw dX7_home_2 (fun σ1 eσ1 H locs hw => ?_)
  have h := nm_o h σ1 eσ1
  refine lv_aload_n hx hb dX7_home_5 rfl (lv_at hl 0 rfl) ?_
  refine M_g_X7_172 hC hw dX7_home_6 ?_
  refine lv_if_ne (tgt := 14) hx hb dX7_home_9 (by decide) (fun c => ?_) (fun c => ?_)
  · have h := if_f h c
    refine lv_aload_n hx hb dX7_home_14 rfl (lv_at hl 0 rfl) ?_
    obtain ⟨r2, σ3, hc, h⟩ := bd_o h
    refine go_i (run_V (As := []) (rest := []) hC hw (c_X7_go l D q k N σ1 r2 σ3 hc) kw_355 kw_357 kw_358 kw_246 kw_356 hd_X7_go ⟨rfl, rfl⟩ ⟨Nat.le_of_ble_eq_true rfl, Nat.le_of_ble_eq_true rfl⟩ 0 rfl rfl rfl hl.1 rfl (Nat.le_of_ble_eq_true rfl) dX7_home_15 ⟨Nat.zero_le _, Nat.zero_le _⟩) hw (fun H locs hw => ?_)
    refine lv_pop hx hb dX7_home_18 rfl ?_
    refine lv_aload_n hx hb dX7_home_19 rfl (lv_at hl 0 rfl) ?_
    refine M_g_X7_62 hC hw dX7_home_20 ?_
    refine lv_iconst (v := 0) hx hb dX7_home_23 (by decide) ?_
    obtain ⟨hin, h⟩ := gd_o h
    refine M_ld17 hC hw hin dX7_home_24 ?_
    obtain ⟨hz, h⟩ := gp_o h
    cases h
    exact ret_z hC hz hw dX7_home_25
  · have h := if_t h c
    refine lv_iconst (v := 1) hx hb dX7_home_12 (by decide) ?_
    cases h
    exact ret_z hC (Or.inr rfl) hw dX7_home_13

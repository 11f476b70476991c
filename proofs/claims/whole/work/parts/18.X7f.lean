/-! SlideBoardsModel.swap(II)Z -/
abbrev rm_X7_swap : Room := { frames := 1, cells := 0, slots := 0, locals := 23 }
def f_X7_swap (N : Nat) (σ : St) (a0 : Int32) (a1 : Int32) : Option (Int32 × St) :=
  bd1 (f_X7_isNode N σ a0) (fun r1 => if r1 = 0 then (bd (f_X7_throwsIf N σ (1 : Int32) (1 : Int32)) (fun r2 σ3 => if r2 = 0 then (if a0 = a1 then (some ((0 : Int32), σ3)) else (bd1 (f_X7_exchange N σ3 a0 a1) (fun σ4 => some ((1 : Int32), σ4)))) else (some ((0 : Int32), σ3)))) else (bd1 (f_X7_isNode N σ a1) (fun r5 => if r5 = 0 then (bd (f_X7_throwsIf N σ (1 : Int32) (1 : Int32)) (fun r9 σ10 => if r9 = 0 then (if a0 = a1 then (some ((0 : Int32), σ10)) else (bd1 (f_X7_exchange N σ10 a0 a1) (fun σ11 => some ((1 : Int32), σ11)))) else (some ((0 : Int32), σ10)))) else (bd (f_X7_throwsIf N σ (1 : Int32) (0 : Int32)) (fun r6 σ7 => if r6 = 0 then (if a0 = a1 then (some ((0 : Int32), σ7)) else (bd1 (f_X7_exchange N σ7 a0 a1) (fun σ8 => some ((1 : Int32), σ8)))) else (some ((0 : Int32), σ7)))))))
set_option maxRecDepth 100000 in
set_option maxHeartbeats 4000000 in
theorem c_X7_swap (l : Launch) (D : va_G) (q : Nat → Nat) (k : cK) (N : Nat) (σ : St) (a0 : Int32) (a1 : Int32) (r : Int32) (σ' : St) (h : f_X7_swap N σ a0 a1 = some (r, σ')) :
    Met l yX7_swap [.code yX7_swap cX7_swap 3 (some .boolean)] rm_X7_swap (PC D (MW q k σ) k [.ref (q 0), .int a0, .int a1]) (QR D (MW q k σ) (MW q k σ') (some (.int r))) 0 0 (AQ (MW q k σ)) := by
  refine met_of (by decide) (Nat.le_of_ble_eq_true rfl) ?_
  intro p e s m below meth c hC hw ls hl
  have hC : Cx p s m meth c cX7_swap RX7 3 (some .boolean) := hC
  have hl : lv_has ls 3 [(0, .ref (q 0)), (1, .int a0), (2, .int a1)] := hl
  have hx := hC.1
  have hb := hC.2.1
  unfold f_X7_swap at h
  refine lv_aload_n hx hb dX7_swap_0 rfl (lv_at hl 0 rfl) ?_
  refine lv_iconst (v := 1) hx hb dX7_swap_1 (by decide) ?_
  refine lv_aload_n hx hb dX7_swap_2 rfl (lv_at hl 0 rfl) ?_
  refine lv_iload_n hx hb dX7_swap_3 rfl (lv_at hl 1 rfl) ?_
  obtain ⟨r1, hc, h⟩ := bd1_o h
  refine go_i (run_V (As := [.int a0]) (rest := [.int (1 : Int32), .ref (q 0)]) hC hw (c_X7_isNode l D q k N σ a0 r1 hc) kw_322 kw_324 kw_325 kw_246 kw_323 hd_X7_isNode ⟨rfl, rfl⟩ ⟨Nat.le_of_ble_eq_true rfl, Nat.le_of_ble_eq_true rfl⟩ 0 rfl rfl rfl hl.1 rfl (Nat.le_of_ble_eq_true rfl) dX7_swap_4 ⟨Nat.zero_le _, Nat.zero_le _⟩) hw (fun H locs hw => ?_)
  refine lv_if_eq (tgt := 18) hx hb dX7_swap_7 (by decide) (fun c => ?_) (fun c => ?_)
  · have h := if_t h c
    refine lv_iconst (v := 1) hx hb dX7_swap_18 (by decide) ?_
    refine lv_goto (tgt := 23) hx hb dX7_swap_19 (by decide) ?_
    obtain ⟨r2, σ3, hc, h⟩ := bd_o h
    refine go_i (run_V (As := [.int (1 : Int32), .int (1 : Int32)]) (rest := []) hC hw (c_X7_throwsIf l D q k N σ (1 : Int32) (1 : Int32) r2 σ3 hc) kw_250 kw_252 kw_253 kw_246 kw_251 hd_X7_throwsIf ⟨rfl, rfl⟩ ⟨Nat.le_of_ble_eq_true rfl, Nat.le_of_ble_eq_true rfl⟩ 0 rfl rfl rfl hl.1 rfl (Nat.le_of_ble_eq_true rfl) dX7_swap_23 ⟨Nat.zero_le _, Nat.zero_le _⟩) hw (fun H locs hw => ?_)
    refine lv_if_ne (tgt := 34) hx hb dX7_swap_26 (by decide) (fun c => ?_) (fun c => ?_)
    · have h := if_f h c
      refine lv_iconst (v := 0) hx hb dX7_swap_34 (by decide) ?_
      cases h
      exact ret_z hC (Or.inl rfl) hw dX7_swap_35
    · have h := if_t h c
      refine lv_iload_n hx hb dX7_swap_29 rfl (lv_at hl 1 rfl) ?_
      refine lv_iload_n hx hb dX7_swap_30 rfl (lv_at hl 2 rfl) ?_
      refine lv_icmp_ne (tgt := 36) hx hb dX7_swap_31 (by decide) (fun c => ?_) (fun c => ?_)
      · have h := if_f h c
        refine lv_aload_n hx hb dX7_swap_36 rfl (lv_at hl 0 rfl) ?_
        refine lv_iload_n hx hb dX7_swap_37 rfl (lv_at hl 1 rfl) ?_
        refine lv_iload_n hx hb dX7_swap_38 rfl (lv_at hl 2 rfl) ?_
        obtain ⟨σ4, hc, h⟩ := bd1_o h
        refine go_v (run_V (As := [.int a0, .int a1]) (rest := []) hC hw (c_X7_exchange l D q k N σ3 a0 a1 σ4 hc) kw_334 kw_336 kw_337 kw_246 kw_335 hd_X7_exchange ⟨rfl, rfl⟩ ⟨Nat.le_of_ble_eq_true rfl, Nat.le_of_ble_eq_true rfl⟩ 0 rfl rfl rfl hl.1 rfl (Nat.le_of_ble_eq_true rfl) dX7_swap_39 ⟨Nat.zero_le _, Nat.zero_le _⟩) hw (fun H locs hw => ?_)
        refine lv_iconst (v := 1) hx hb dX7_swap_42 (by decide) ?_
        cases h
        exact ret_z hC (Or.inr rfl) hw dX7_swap_43
      · have h := if_t h c
        refine lv_iconst (v := 0) hx hb dX7_swap_34 (by decide) ?_
        cases h
        exact ret_z hC (Or.inl rfl) hw dX7_swap_35
  · have h := if_f h c
    refine lv_aload_n hx hb dX7_swap_10 rfl (lv_at hl 0 rfl) ?_
    refine lv_iload_n hx hb dX7_swap_11 rfl (lv_at hl 2 rfl) ?_
    obtain ⟨r5, hc, h⟩ := bd1_o h
    refine go_i (run_V (As := [.int a1]) (rest := [.int (1 : Int32), .ref (q 0)]) hC hw (c_X7_isNode l D q k N σ a1 r5 hc) kw_322 kw_324 kw_325 kw_246 kw_323 hd_X7_isNode ⟨rfl, rfl⟩ ⟨Nat.le_of_ble_eq_true rfl, Nat.le_of_ble_eq_true rfl⟩ 0 rfl rfl rfl hl.1 rfl (Nat.le_of_ble_eq_true rfl) dX7_swap_12 ⟨Nat.zero_le _, Nat.zero_le _⟩) hw (fun H locs hw => ?_)
    refine lv_if_ne (tgt := 22) hx hb dX7_swap_15 (by decide) (fun c => ?_) (fun c => ?_)
    · have h := if_f h c
      refine lv_iconst (v := 0) hx hb dX7_swap_22 (by decide) ?_
      obtain ⟨r6, σ7, hc, h⟩ := bd_o h
      refine go_i (run_V (As := [.int (1 : Int32), .int (0 : Int32)]) (rest := []) hC hw (c_X7_throwsIf l D q k N σ (1 : Int32) (0 : Int32) r6 σ7 hc) kw_250 kw_252 kw_253 kw_246 kw_251 hd_X7_throwsIf ⟨rfl, rfl⟩ ⟨Nat.le_of_ble_eq_true rfl, Nat.le_of_ble_eq_true rfl⟩ 0 rfl rfl rfl hl.1 rfl (Nat.le_of_ble_eq_true rfl) dX7_swap_23 ⟨Nat.zero_le _, Nat.zero_le _⟩) hw (fun H locs hw => ?_)
      refine lv_if_ne (tgt := 34) hx hb dX7_swap_26 (by decide) (fun c => ?_) (fun c => ?_)
      · have h := if_f h c
        refine lv_iconst (v := 0) hx hb dX7_swap_34 (by decide) ?_
        cases h
        exact ret_z hC (Or.inl rfl) hw dX7_swap_35
      · have h := if_t h c
        refine lv_iload_n hx hb dX7_swap_29 rfl (lv_at hl 1 rfl) ?_
        refine lv_iload_n hx hb dX7_swap_30 rfl (lv_at hl 2 rfl) ?_
        refine lv_icmp_ne (tgt := 36) hx hb dX7_swap_31 (by decide) (fun c => ?_) (fun c => ?_)
        · have h := if_f h c
          refine lv_aload_n hx hb dX7_swap_36 rfl (lv_at hl 0 rfl) ?_
          refine lv_iload_n hx hb dX7_swap_37 rfl (lv_at hl 1 rfl) ?_
          refine lv_iload_n hx hb dX7_swap_38 rfl (lv_at hl 2 rfl) ?_
          obtain ⟨σ8, hc, h⟩ := bd1_o h
          refine go_v (run_V (As := [.int a0, .int a1]) (rest := []) hC hw (c_X7_exchange l D q k N σ7 a0 a1 σ8 hc) kw_334 kw_336 kw_337 kw_246 kw_335 hd_X7_exchange ⟨rfl, rfl⟩ ⟨Nat.le_of_ble_eq_true rfl, Nat.le_of_ble_eq_true rfl⟩ 0 rfl rfl rfl hl.1 rfl (Nat.le_of_ble_eq_true rfl) dX7_swap_39 ⟨Nat.zero_le _, Nat.zero_le _⟩) hw (fun H locs hw => ?_)
          refine lv_iconst (v := 1) hx hb dX7_swap_42 (by decide) ?_
          cases h
          exact ret_z hC (Or.inr rfl) hw dX7_swap_43
        · have h := if_t h c
          refine lv_iconst (v := 0) hx hb dX7_swap_34 (by decide) ?_
          cases h
          exact ret_z hC (Or.inl rfl) hw dX7_swap_35
    · have h := if_t h c
      refine lv_iconst (v := 1) hx hb dX7_swap_18 (by decide) ?_
      refine lv_goto (tgt := 23) hx hb dX7_swap_19 (by decide) ?_
      obtain ⟨r9, σ10, hc, h⟩ := bd_o h
      refine go_i (run_V (As := [.int (1 : Int32), .int (1 : Int32)]) (rest := []) hC hw (c_X7_throwsIf l D q k N σ (1 : Int32) (1 : Int32) r9 σ10 hc) kw_250 kw_252 kw_253 kw_246 kw_251 hd_X7_throwsIf ⟨rfl, rfl⟩ ⟨Nat.le_of_ble_eq_true rfl, Nat.le_of_ble_eq_true rfl⟩ 0 rfl rfl rfl hl.1 rfl (Nat.le_of_ble_eq_true rfl) dX7_swap_23 ⟨Nat.zero_le _, Nat.zero_le _⟩) hw (fun H locs hw => ?_)
      refine lv_if_ne (tgt := 34) hx hb dX7_swap_26 (by decide) (fun c => ?_) (fun c => ?_)
      · have h := if_f h c
        refine lv_iconst (v := 0) hx hb dX7_swap_34 (by decide) ?_
        cases h
        exact ret_z hC (Or.inl rfl) hw dX7_swap_35
      · have h := if_t h c
        refine lv_iload_n hx hb dX7_swap_29 rfl (lv_at hl 1 rfl) ?_
        refine lv_iload_n hx hb dX7_swap_30 rfl (lv_at hl 2 rfl) ?_
        refine lv_icmp_ne (tgt := 36) hx hb dX7_swap_31 (by decide) (fun c => ?_) (fun c => ?_)
        · have h := if_f h c
          refine lv_aload_n hx hb dX7_swap_36 rfl (lv_at hl 0 rfl) ?_
          refine lv_iload_n hx hb dX7_swap_37 rfl (lv_at hl 1 rfl) ?_
          refine lv_iload_n hx hb dX7_swap_38 rfl (lv_at hl 2 rfl) ?_
          obtain ⟨σ11, hc, h⟩ := bd1_o h
          refine go_v (run_V (As := [.int a0, .int a1]) (rest := []) hC hw (c_X7_exchange l D q k N σ10 a0 a1 σ11 hc) kw_334 kw_336 kw_337 kw_246 kw_335 hd_X7_exchange ⟨rfl, rfl⟩ ⟨Nat.le_of_ble_eq_true rfl, Nat.le_of_ble_eq_true rfl⟩ 0 rfl rfl rfl hl.1 rfl (Nat.le_of_ble_eq_true rfl) dX7_swap_39 ⟨Nat.zero_le _, Nat.zero_le _⟩) hw (fun H locs hw => ?_)
          refine lv_iconst (v := 1) hx hb dX7_swap_42 (by decide) ?_
          cases h
          exact ret_z hC (Or.inr rfl) hw dX7_swap_43
        · have h := if_t h c
          refine lv_iconst (v := 0) hx hb dX7_swap_34 (by decide) ?_
          cases h
          exact ret_z hC (Or.inl rfl) hw dX7_swap_35
/-! SlideBoardsModel.measure(I)V -/
abbrev rm_X7_measure : Room := { frames := 1, cells := 0, slots := 0, locals := 22 }
def lp_X7_measure_56 (N : Nat) (x2 : Int32) (x3 : Int32) (K45 : St → Int32 → Option St) : Nat → St → Int32 → Option St
  | 0, _, _ => none
  | n + 1, σ, x4 => if (σ.1 9) ≤ x4 then (nm (x3 + (1 : Int32)) (fun y2 => K45 σ y2)) else (bd1 (f_X7_isJoined N σ x3 x4) (fun r3 => if r3 = 0 then (nm (x4 + (1 : Int32)) (fun y4 => lp_X7_measure_56 N x2 x3 K45 n σ y4)) else (gd (okx x3 8) (gd (okx x4 8) (if (ra σ 19 x4) ≤ ((ra σ 19 x3) + (1 : Int32)) then (nm (x4 + (1 : Int32)) (fun y5 => lp_X7_measure_56 N x2 x3 K45 n σ y5)) else (gd (okx x3 8) (gd (okx x4 8) (nm (sA σ 19 x4 ((ra σ 19 x3) + (1 : Int32))) (fun σ6 => nm (x4 + (1 : Int32)) (fun y7 => lp_X7_measure_56 N x2 x3 K45 n σ6 y7))))))))))
set_option maxRecDepth 100000 in
set_option maxHeartbeats 4000000 in
theorem w_X7_measure_56 {p : Program} {l : Launch} {e : Env} {s : State} {m : MethodId} {below : List Frame} {meth : Method} {c : Code} {args : Array Value} {D : va_G} {q : Nat → Nat} {k : cK} {ws0 : va_W} (hC : Cx p s m meth c cX7_measure RX7 5 none) (N : Nat) (x2 : Int32) (x3 : Int32) (σ' : St) (K45 : St → Int32 → Option St) (hK45 : ∀ (σ : St) (x3 : Int32) (H : Heap) (locs : List Loc) (ls : Array Slot), K45 σ x3 = some σ' → WH D (MW q k σ) k (AQ ws0) s s.heap H locs → lv_has ls 5 [(0, .ref (q 0)), (2, .int x2), (3, .int x3)] → W p l e rm_X7_measure s m args below meth c H locs 0 0 (MQ below (QR D ws0 (MW q k σ') none) args s 0 0 (AQ ws0)) (F0 m 45 ls [])) :
    ∀ (n : Nat) (σ : St) (x4 : Int32) (H : Heap) (locs : List Loc) (ls : Array Slot), lp_X7_measure_56 N x2 x3 K45 n σ x4 = some σ' → WH D (MW q k σ) k (AQ ws0) s s.heap H locs → lv_has ls 5 [(0, .ref (q 0)), (2, .int x2), (3, .int x3), (4, .int x4)] → W p l e rm_X7_measure s m args below meth c H locs 0 0 (MQ below (QR D ws0 (MW q k σ') none) args s 0 0 (AQ ws0)) (F0 m 56 ls []) := by
  have hx := hC.1
  have hb := hC.2.1
  intro n
  induction n with
  | zero =>
    intro σ x4 H locs ls h
    cases h
  | succ n ih =>
    intro σ x4 H locs ls h hw hl
    rw [lp_X7_measure_56] at h
    refine lv_iload hx hb dX7_measure_56 (lv_at hl 3 rfl) ?_
    refine lv_aload_n hx hb dX7_measure_58 rfl (lv_at hl 0 rfl) ?_
    refine M_g_X7_172 hC hw dX7_measure_59 ?_
    refine lv_icmp_ge (tgt := 114) hx hb dX7_measure_62 (by decide) (fun c => ?_) (fun c => ?_)
    · have h := if_t h c
      obtain ⟨y2, ey2⟩ : ∃ y : Int32, y = x3 + (1 : Int32) := ⟨_, rfl⟩
      have h := nm_o h y2 ey2
      refine lv_iinc (v := y2) (lv' := [(3, .int y2), (0, .ref (q 0)), (2, .int x2), (4, .int x4)]) hx hb dX7_measure_114 hl (k := 2) rfl (by rw [ey2]; rfl) (by decide) rfl (fun ls hl => ?_)
      refine lv_goto (tgt := 45) hx hb dX7_measure_117 (by decide) ?_
      exact hK45 σ y2 _ _ ls h hw (lv_sub hl [1, 2, 0] rfl)
    · have h := if_f h c
      refine lv_aload_n hx hb dX7_measure_65 rfl (lv_at hl 0 rfl) ?_
      refine lv_iload_n hx hb dX7_measure_66 rfl (lv_at hl 2 rfl) ?_
      refine lv_iload hx hb dX7_measure_67 (lv_at hl 3 rfl) ?_
      obtain ⟨r3, hc, h⟩ := bd1_o h
      refine go_i (run_V (As := [.int x3, .int x4]) (rest := []) hC hw (c_X7_isJoined l D q k N σ x3 x4 r3 hc) kw_326 kw_328 kw_329 kw_246 kw_327 hd_X7_isJoined ⟨rfl, rfl⟩ ⟨Nat.le_of_ble_eq_true rfl, Nat.le_of_ble_eq_true rfl⟩ 0 rfl rfl rfl hl.1 rfl (Nat.le_of_ble_eq_true rfl) dX7_measure_69 ⟨Nat.zero_le _, Nat.zero_le _⟩) hw (fun H locs hw => ?_)
      refine lv_if_eq (tgt := 108) hx hb dX7_measure_72 (by decide) (fun c => ?_) (fun c => ?_)
      · have h := if_t h c
        obtain ⟨y4, ey4⟩ : ∃ y : Int32, y = x4 + (1 : Int32) := ⟨_, rfl⟩
        have h := nm_o h y4 ey4
        refine lv_iinc (v := y4) (lv' := [(4, .int y4), (0, .ref (q 0)), (2, .int x2), (3, .int x3)]) hx hb dX7_measure_108 hl (k := 3) rfl (by rw [ey4]; rfl) (by decide) rfl (fun ls hl => ?_)
        refine lv_goto (tgt := 56) hx hb dX7_measure_111 (by decide) ?_
        exact ih σ y4 _ _ ls h hw (lv_sub hl [1, 2, 3, 0] rfl)
      · have h := if_f h c
        refine lv_aload_n hx hb dX7_measure_75 rfl (lv_at hl 0 rfl) ?_
        refine M_g_X7_71 hC hw dX7_measure_76 ?_
        refine lv_iload_n hx hb dX7_measure_79 rfl (lv_at hl 2 rfl) ?_
        obtain ⟨hin, h⟩ := gd_o h
        refine M_ld20 hC hw hin dX7_measure_80 ?_
        refine lv_iconst (v := 1) hx hb dX7_measure_81 (by decide) ?_
        refine lv_iadd hx hb dX7_measure_82 ?_
        refine lv_aload_n hx hb dX7_measure_83 rfl (lv_at hl 0 rfl) ?_
        refine M_g_X7_71 hC hw dX7_measure_84 ?_
        refine lv_iload hx hb dX7_measure_87 (lv_at hl 3 rfl) ?_
        obtain ⟨hin, h⟩ := gd_o h
        refine M_ld20 hC hw hin dX7_measure_89 ?_
        refine lv_icmp_ge (tgt := 108) hx hb dX7_measure_90 (by decide) (fun c => ?_) (fun c => ?_)
        · have h := if_t h c
          obtain ⟨y5, ey5⟩ : ∃ y : Int32, y = x4 + (1 : Int32) := ⟨_, rfl⟩
          have h := nm_o h y5 ey5
          refine lv_iinc (v := y5) (lv' := [(4, .int y5), (0, .ref (q 0)), (2, .int x2), (3, .int x3)]) hx hb dX7_measure_108 hl (k := 3) rfl (by rw [ey5]; rfl) (by decide) rfl (fun ls hl => ?_)
          refine lv_goto (tgt := 56) hx hb dX7_measure_111 (by decide) ?_
          exact ih σ y5 _ _ ls h hw (lv_sub hl [1, 2, 3, 0] rfl)
        · have h := if_f h c
          refine lv_aload_n hx hb dX7_measure_93 rfl (lv_at hl 0 rfl) ?_
          refine M_g_X7_71 hC hw dX7_measure_94 ?_
          refine lv_iload hx hb dX7_measure_97 (lv_at hl 3 rfl) ?_
          refine lv_aload_n hx hb dX7_measure_99 rfl (lv_at hl 0 rfl) ?_
          refine M_g_X7_71 hC hw dX7_measure_100 ?_
          refine lv_iload_n hx hb dX7_measure_103 rfl (lv_at hl 2 rfl) ?_
          obtain ⟨hin, h⟩ := gd_o h
          refine M_ld20 hC hw hin dX7_measure_104 ?_
          refine lv_iconst (v := 1) hx hb dX7_measure_105 (by decide) ?_
          refine lv_iadd hx hb dX7_measure_106 ?_
          obtain ⟨hin, h⟩ := gd_o h
          refine M_st20 hC hw hin dX7_measure_107 (fun σ6 eσ6 H locs hw => ?_)
          have h := nm_o h σ6 eσ6
          obtain ⟨y7, ey7⟩ : ∃ y : Int32, y = x4 + (1 : Int32) := ⟨_, rfl⟩
          have h := nm_o h y7 ey7
          refine lv_iinc (v := y7) (lv' := [(4, .int y7), (0, .ref (q 0)), (2, .int x2), (3, .int x3)]) hx hb dX7_measure_108 hl (k := 3) rfl (by rw [ey7]; rfl) (by decide) rfl (fun ls hl => ?_)
          refine lv_goto (tgt := 56) hx hb dX7_measure_111 (by decide) ?_
          exact ih σ6 y7 _ _ ls h hw (lv_sub hl [1, 2, 3, 0] rfl)
def lp_X7_measure_45 (N : Nat) (x2 : Int32) (K35 : St → Int32 → Option St) : Nat → St → Int32 → Option St
  | 0, _, _ => none
  | n + 1, σ, x3 => if (σ.1 9) ≤ x3 then (nm (x2 + (1 : Int32)) (fun y1 => K35 σ y1)) else (lp_X7_measure_56 N x2 x3 (fun v0 v1 => lp_X7_measure_45 N x2 K35 n v0 v1) N σ (0 : Int32))
set_option maxRecDepth 100000 in
set_option maxHeartbeats 4000000 in
theorem w_X7_measure_45 {p : Program} {l : Launch} {e : Env} {s : State} {m : MethodId} {below : List Frame} {meth : Method} {c : Code} {args : Array Value} {D : va_G} {q : Nat → Nat} {k : cK} {ws0 : va_W} (hC : Cx p s m meth c cX7_measure RX7 5 none) (N : Nat) (x2 : Int32) (σ' : St) (K35 : St → Int32 → Option St) (hK35 : ∀ (σ : St) (x2 : Int32) (H : Heap) (locs : List Loc) (ls : Array Slot), K35 σ x2 = some σ' → WH D (MW q k σ) k (AQ ws0) s s.heap H locs → lv_has ls 5 [(0, .ref (q 0)), (2, .int x2)] → W p l e rm_X7_measure s m args below meth c H locs 0 0 (MQ below (QR D ws0 (MW q k σ') none) args s 0 0 (AQ ws0)) (F0 m 35 ls [])) :
    ∀ (n : Nat) (σ : St) (x3 : Int32) (H : Heap) (locs : List Loc) (ls : Array Slot), lp_X7_measure_45 N x2 K35 n σ x3 = some σ' → WH D (MW q k σ) k (AQ ws0) s s.heap H locs → lv_has ls 5 [(0, .ref (q 0)), (2, .int x2), (3, .int x3)] → W p l e rm_X7_measure s m args below meth c H locs 0 0 (MQ below (QR D ws0 (MW q k σ') none) args s 0 0 (AQ ws0)) (F0 m 45 ls []) := by
  have hx := hC.1
  have hb := hC.2.1
  intro n
  induction n with
  | zero =>
    intro σ x3 H locs ls h
    cases h
  | succ n ih =>
    intro σ x3 H locs ls h hw hl
    rw [lp_X7_measure_45] at h
    refine lv_iload_n hx hb dX7_measure_45 rfl (lv_at hl 2 rfl) ?_
    refine lv_aload_n hx hb dX7_measure_46 rfl (lv_at hl 0 rfl) ?_
    refine M_g_X7_172 hC hw dX7_measure_47 ?_
    refine lv_icmp_ge (tgt := 120) hx hb dX7_measure_50 (by decide) (fun c => ?_) (fun c => ?_)
    · have h := if_t h c
      obtain ⟨y1, ey1⟩ : ∃ y : Int32, y = x2 + (1 : Int32) := ⟨_, rfl⟩
      have h := nm_o h y1 ey1
      refine lv_iinc (v := y1) (lv' := [(2, .int y1), (0, .ref (q 0)), (3, .int x3)]) hx hb dX7_measure_120 hl (k := 1) rfl (by rw [ey1]; rfl) (by decide) rfl (fun ls hl => ?_)
      refine lv_goto (tgt := 35) hx hb dX7_measure_123 (by decide) ?_
      exact hK35 σ y1 _ _ ls h hw (lv_sub hl [1, 0] rfl)
    · have h := if_f h c
      refine lv_iconst (v := 0) hx hb dX7_measure_53 (by decide) ?_
      refine lv_istore (lv' := [(4, .int (0 : Int32)), (0, .ref (q 0)), (2, .int x2), (3, .int x3)]) hx hb dX7_measure_54 hl (by decide) rfl (fun ls hl => ?_)
      exact w_X7_measure_56 hC N x2 x3 σ' _ ih N σ (0 : Int32) _ _ ls h hw (lv_sub hl [1, 2, 3, 0] rfl)
def lp_X7_measure_35 (N : Nat) : Nat → St → Int32 → Option St
  | 0, _, _ => none
  | n + 1, σ, x2 => if (σ.1 9) ≤ x2 then (some σ) else (lp_X7_measure_45 N x2 (fun v0 v1 => lp_X7_measure_35 N n v0 v1) N σ (0 : Int32))
set_option maxRecDepth 100000 in
set_option maxHeartbeats 4000000 in
theorem w_X7_measure_35 {p : Program} {l : Launch} {e : Env} {s : State} {m : MethodId} {below : List Frame} {meth : Method} {c : Code} {args : Array Value} {D : va_G} {q : Nat → Nat} {k : cK} {ws0 : va_W} (hC : Cx p s m meth c cX7_measure RX7 5 none) (N : Nat) (σ' : St) :
    ∀ (n : Nat) (σ : St) (x2 : Int32) (H : Heap) (locs : List Loc) (ls : Array Slot), lp_X7_measure_35 N n σ x2 = some σ' → WH D (MW q k σ) k (AQ ws0) s s.heap H locs → lv_has ls 5 [(0, .ref (q 0)), (2, .int x2)] → W p l e rm_X7_measure s m args below meth c H locs 0 0 (MQ below (QR D ws0 (MW q k σ') none) args s 0 0 (AQ ws0)) (F0 m 35 ls []) := by
  have hx := hC.1
  have hb := hC.2.1
  intro n
  induction n with
  | zero =>
    intro σ x2 H locs ls h
    cases h
  | succ n ih =>
    intro σ x2 H locs ls h hw hl
    rw [lp_X7_measure_35] at h
    refine lv_iload_n hx hb dX7_measure_35 rfl (lv_at hl 1 rfl) ?_
    refine lv_aload_n hx hb dX7_measure_36 rfl (lv_at hl 0 rfl) ?_
    refine M_g_X7_172 hC hw dX7_measure_37 ?_
    refine lv_icmp_ge (tgt := 126) hx hb dX7_measure_40 (by decide) (fun c => ?_) (fun c => ?_)
    · have h := if_t h c
      cases h
      exact ret_v hC hw dX7_measure_126
    · have h := if_f h c
      refine lv_iconst (v := 0) hx hb dX7_measure_43 (by decide) ?_
      refine lv_istore_n (lv' := [(3, .int (0 : Int32)), (0, .ref (q 0)), (2, .int x2)]) hx hb dX7_measure_44 rfl hl (by decide) rfl (fun ls hl => ?_)
      exact w_X7_measure_45 hC N x2 σ' _ ih N σ (0 : Int32) _ _ ls h hw (lv_sub hl [1, 2, 0] rfl)
def lp_X7_measure_2 (N : Nat) (x1 : Int32) : Nat → St → Int32 → Option St
  | 0, _, _ => none
  | n + 1, σ, x2 => if (σ.1 9) ≤ x2 then (lp_X7_measure_35 N N σ (0 : Int32)) else (if x2 = x1 then (gd (okx x2 8) (nm (sA σ 19 x2 (0 : Int32)) (fun σ10 => nm (x2 + (1 : Int32)) (fun y11 => lp_X7_measure_2 N x1 n σ10 y11)))) else (gd (okx x2 8) (nm (sA σ 19 x2 (99 : Int32)) (fun σ8 => nm (x2 + (1 : Int32)) (fun y9 => lp_X7_measure_2 N x1 n σ8 y9)))))
set_option maxRecDepth 100000 in
set_option maxHeartbeats 4000000 in
theorem w_X7_measure_2 {p : Program} {l : Launch} {e : Env} {s : State} {m : MethodId} {below : List Frame} {meth : Method} {c : Code} {args : Array Value} {D : va_G} {q : Nat → Nat} {k : cK} {ws0 : va_W} (hC : Cx p s m meth c cX7_measure RX7 5 none) (N : Nat) (x1 : Int32) (σ' : St) :
    ∀ (n : Nat) (σ : St) (x2 : Int32) (H : Heap) (locs : List Loc) (ls : Array Slot), lp_X7_measure_2 N x1 n σ x2 = some σ' → WH D (MW q k σ) k (AQ ws0) s s.heap H locs → lv_has ls 5 [(0, .ref (q 0)), (1, .int x1), (2, .int x2)] → W p l e rm_X7_measure s m args below meth c H locs 0 0 (MQ below (QR D ws0 (MW q k σ') none) args s 0 0 (AQ ws0)) (F0 m 2 ls []) := by
  have hx := hC.1
  have hb := hC.2.1
  intro n
  induction n with
  | zero =>
    intro σ x2 H locs ls h
    cases h
  | succ n ih =>
    intro σ x2 H locs ls h hw hl
    rw [lp_X7_measure_2] at h
    refine lv_iload_n hx hb dX7_measure_2 rfl (lv_at hl 2 rfl) ?_
    refine lv_aload_n hx hb dX7_measure_3 rfl (lv_at hl 0 rfl) ?_
    refine M_g_X7_172 hC hw dX7_measure_4 ?_
    refine lv_icmp_ge (tgt := 33) hx hb dX7_measure_7 (by decide) (fun c => ?_) (fun c => ?_)
    · have h := if_t h c
      refine lv_iconst (v := 0) hx hb dX7_measure_33 (by decide) ?_
      refine lv_istore_n (lv' := [(2, .int (0 : Int32)), (0, .ref (q 0)), (1, .int x1)]) hx hb dX7_measure_34 rfl hl (by decide) rfl (fun ls hl => ?_)
      exact w_X7_measure_35 hC N σ' N σ (0 : Int32) _ _ ls h hw (lv_sub hl [1, 0] rfl)
    · have h := if_f h c
      refine lv_aload_n hx hb dX7_measure_10 rfl (lv_at hl 0 rfl) ?_
      refine M_g_X7_71 hC hw dX7_measure_11 ?_
      refine lv_iload_n hx hb dX7_measure_14 rfl (lv_at hl 2 rfl) ?_
      refine lv_iload_n hx hb dX7_measure_15 rfl (lv_at hl 2 rfl) ?_
      refine lv_iload_n hx hb dX7_measure_16 rfl (lv_at hl 1 rfl) ?_
      refine lv_icmp_ne (tgt := 24) hx hb dX7_measure_17 (by decide) (fun c => ?_) (fun c => ?_)
      · have h := if_f h c
        refine lv_bipush (v := 99) hx hb dX7_measure_24 (by decide) ?_
        obtain ⟨hin, h⟩ := gd_o h
        refine M_st20 hC hw hin dX7_measure_26 (fun σ8 eσ8 H locs hw => ?_)
        have h := nm_o h σ8 eσ8
        obtain ⟨y9, ey9⟩ : ∃ y : Int32, y = x2 + (1 : Int32) := ⟨_, rfl⟩
        have h := nm_o h y9 ey9
        refine lv_iinc (v := y9) (lv' := [(2, .int y9), (0, .ref (q 0)), (1, .int x1)]) hx hb dX7_measure_27 hl (k := 2) rfl (by rw [ey9]; rfl) (by decide) rfl (fun ls hl => ?_)
        refine lv_goto (tgt := 2) hx hb dX7_measure_30 (by decide) ?_
        exact ih σ8 y9 _ _ ls h hw (lv_sub hl [1, 2, 0] rfl)
      · have h := if_t h c
        refine lv_iconst (v := 0) hx hb dX7_measure_20 (by decide) ?_
        refine lv_goto (tgt := 26) hx hb dX7_measure_21 (by decide) ?_
        obtain ⟨hin, h⟩ := gd_o h
        refine M_st20 hC hw hin dX7_measure_26 (fun σ10 eσ10 H locs hw => ?_)
        have h := nm_o h σ10 eσ10
        obtain ⟨y11, ey11⟩ : ∃ y : Int32, y = x2 + (1 : Int32) := ⟨_, rfl⟩
        have h := nm_o h y11 ey11
        refine lv_iinc (v := y11) (lv' := [(2, .int y11), (0, .ref (q 0)), (1, .int x1)]) hx hb dX7_measure_27 hl (k := 2) rfl (by rw [ey11]; rfl) (by decide) rfl (fun ls hl => ?_)
        refine lv_goto (tgt := 2) hx hb dX7_measure_30 (by decide) ?_
        exact ih σ10 y11 _ _ ls h hw (lv_sub hl [1, 2, 0] rfl)
def f_X7_measure (N : Nat) (σ : St) (a0 : Int32) : Option St :=
  lp_X7_measure_2 N a0 N σ (0 : Int32)
set_option maxRecDepth 100000 in
set_option maxHeartbeats 4000000 in
theorem c_X7_measure (l : Launch) (D : va_G) (q : Nat → Nat) (k : cK) (N : Nat) (σ : St) (a0 : Int32) (σ' : St) (h : f_X7_measure N σ a0 = some σ') :
    Met l yX7_measure [.code yX7_measure cX7_measure 5 none] rm_X7_measure (PC D (MW q k σ) k [.ref (q 0), .int a0]) (QR D (MW q k σ) (MW q k σ') none) 0 0 (AQ (MW q k σ)) := by
  refine met_of (by decide) (Nat.le_of_ble_eq_true rfl) ?_
  intro p e s m below meth c hC hw ls hl
  have hC : Cx p s m meth c cX7_measure RX7 5 none := hC
  have hl : lv_has ls 5 [(0, .ref (q 0)), (1, .int a0)] := hl
  have hx := hC.1
  have hb := hC.2.1
  unfold f_X7_measure at h
  refine lv_iconst (v := 0) hx hb dX7_measure_0 (by decide) ?_
  refine lv_istore_n (lv' := [(2, .int (0 : Int32)), (0, .ref (q 0)), (1, .int a0)]) hx hb dX7_measure_1 rfl hl (by decide) rfl (fun ls hl => ?_)
  exact w_X7_measure_2 hC N a0 σ' N σ (0 : Int32) _ _ ls h hw (lv_sub hl [1, 2, 0] rfl)
/-! SlideBoardsModel.isEven()Z -/
abbrev rm_X7_isEven : Room := { frames := 2, cells := 0, slots := 0, locals := 46 }
def lp_X7_isEven_118 (N : Nat) (σ : St) (x1 : Int32) (K108 : Int32 → Option (Int32 × St)) : Nat → Int32 → Option (Int32 × St)
  | 0, _ => none
  | n + 1, x2 => if (σ.1 9) ≤ x2 then (nm (x1 + (1 : Int32)) (fun y1 => K108 y1)) else (bd1 (f_X7_isJoined N σ x1 x2) (fun r2 => if r2 = 0 then (nm (x2 + (1 : Int32)) (fun y3 => lp_X7_isEven_118 N σ x1 K108 n y3)) else (gd (okx x1 8) (gd (okx x2 8) (if (ra σ 18 x1) = (ra σ 18 x2) then (some ((0 : Int32), σ)) else (nm (x2 + (1 : Int32)) (fun y4 => lp_X7_isEven_118 N σ x1 K108 n y4)))))))
set_option maxRecDepth 100000 in
set_option maxHeartbeats 4000000 in
theorem w_X7_isEven_118 {p : Program} {l : Launch} {e : Env} {s : State} {m : MethodId} {below : List Frame} {meth : Method} {c : Code} {args : Array Value} {D : va_G} {q : Nat → Nat} {k : cK} {ws0 : va_W} (hC : Cx p s m meth c cX7_isEven RX7 3 (some .boolean)) (N : Nat) (σ : St) (x1 : Int32) (r : Int32) (σ' : St) (K108 : Int32 → Option (Int32 × St)) (hK108 : ∀ (x1 : Int32) (H : Heap) (locs : List Loc) (ls : Array Slot), K108 x1 = some (r, σ') → WH D (MW q k σ) k (AQ ws0) s s.heap H locs → lv_has ls 3 [(0, .ref (q 0)), (1, .int x1)] → W p l e rm_X7_isEven s m args below meth c H locs 0 0 (MQ below (QR D ws0 (MW q k σ') (some (.int r))) args s 0 0 (AQ ws0)) (F0 m 108 ls [])) :
    ∀ (n : Nat) (x2 : Int32) (H : Heap) (locs : List Loc) (ls : Array Slot), lp_X7_isEven_118 N σ x1 K108 n x2 = some (r, σ') → WH D (MW q k σ) k (AQ ws0) s s.heap H locs → lv_has ls 3 [(0, .ref (q 0)), (1, .int x1), (2, .int x2)] → W p l e rm_X7_isEven s m args below meth c H locs 0 0 (MQ below (QR D ws0 (MW q k σ') (some (.int r))) args s 0 0 (AQ ws0)) (F0 m 118 ls []) := by
  have hx := hC.1
  have hb := hC.2.1
  intro n
  induction n with
  | zero =>
    intro x2 H locs ls h
    cases h
  | succ n ih =>
    intro x2 H locs ls h hw hl
    rw [lp_X7_isEven_118] at h
    refine lv_iload_n hx hb dX7_isEven_118 rfl (lv_at hl 2 rfl) ?_
    refine lv_aload_n hx hb dX7_isEven_119 rfl (lv_at hl 0 rfl) ?_
    refine M_g_X7_172 hC hw dX7_isEven_120 ?_
    refine lv_icmp_ge (tgt := 158) hx hb dX7_isEven_123 (by decide) (fun c => ?_) (fun c => ?_)
    · have h := if_t h c
      obtain ⟨y1, ey1⟩ : ∃ y : Int32, y = x1 + (1 : Int32) := ⟨_, rfl⟩
      have h := nm_o h y1 ey1
      refine lv_iinc (v := y1) (lv' := [(1, .int y1), (0, .ref (q 0)), (2, .int x2)]) hx hb dX7_isEven_158 hl (k := 1) rfl (by rw [ey1]; rfl) (by decide) rfl (fun ls hl => ?_)
      refine lv_goto (tgt := 108) hx hb dX7_isEven_161 (by decide) ?_
      exact hK108 y1 _ _ ls h hw (lv_sub hl [1, 0] rfl)
    · have h := if_f h c
      refine lv_aload_n hx hb dX7_isEven_126 rfl (lv_at hl 0 rfl) ?_
      refine lv_iload_n hx hb dX7_isEven_127 rfl (lv_at hl 1 rfl) ?_
      refine lv_iload_n hx hb dX7_isEven_128 rfl (lv_at hl 2 rfl) ?_
      obtain ⟨r2, hc, h⟩ := bd1_o h
      refine go_i (run_V (As := [.int x1, .int x2]) (rest := []) hC hw (c_X7_isJoined l D q k N σ x1 x2 r2 hc) kw_326 kw_328 kw_329 kw_246 kw_327 hd_X7_isJoined ⟨rfl, rfl⟩ ⟨Nat.le_of_ble_eq_true rfl, Nat.le_of_ble_eq_true rfl⟩ 0 rfl rfl rfl hl.1 rfl (Nat.le_of_ble_eq_true rfl) dX7_isEven_129 ⟨Nat.zero_le _, Nat.zero_le _⟩) hw (fun H locs hw => ?_)
      refine lv_if_eq (tgt := 152) hx hb dX7_isEven_132 (by decide) (fun c => ?_) (fun c => ?_)
      · have h := if_t h c
        obtain ⟨y3, ey3⟩ : ∃ y : Int32, y = x2 + (1 : Int32) := ⟨_, rfl⟩
        have h := nm_o h y3 ey3
        refine lv_iinc (v := y3) (lv' := [(2, .int y3), (0, .ref (q 0)), (1, .int x1)]) hx hb dX7_isEven_152 hl (k := 2) rfl (by rw [ey3]; rfl) (by decide) rfl (fun ls hl => ?_)
        refine lv_goto (tgt := 118) hx hb dX7_isEven_155 (by decide) ?_
        exact ih y3 _ _ ls h hw (lv_sub hl [1, 2, 0] rfl)
      · have h := if_f h c
        refine lv_aload_n hx hb dX7_isEven_135 rfl (lv_at hl 0 rfl) ?_
        refine M_g_X7_68 hC hw dX7_isEven_136 ?_
        refine lv_iload_n hx hb dX7_isEven_139 rfl (lv_at hl 1 rfl) ?_
        obtain ⟨hin, h⟩ := gd_o h
        refine M_ld19 hC hw hin dX7_isEven_140 ?_
        refine lv_aload_n hx hb dX7_isEven_141 rfl (lv_at hl 0 rfl) ?_
        refine M_g_X7_68 hC hw dX7_isEven_142 ?_
        refine lv_iload_n hx hb dX7_isEven_145 rfl (lv_at hl 2 rfl) ?_
        obtain ⟨hin, h⟩ := gd_o h
        refine M_ld19 hC hw hin dX7_isEven_146 ?_
        refine lv_icmp_ne (tgt := 152) hx hb dX7_isEven_147 (by decide) (fun c => ?_) (fun c => ?_)
        · have h := if_f h c
          obtain ⟨y4, ey4⟩ : ∃ y : Int32, y = x2 + (1 : Int32) := ⟨_, rfl⟩
          have h := nm_o h y4 ey4
          refine lv_iinc (v := y4) (lv' := [(2, .int y4), (0, .ref (q 0)), (1, .int x1)]) hx hb dX7_isEven_152 hl (k := 2) rfl (by rw [ey4]; rfl) (by decide) rfl (fun ls hl => ?_)
          refine lv_goto (tgt := 118) hx hb dX7_isEven_155 (by decide) ?_
          exact ih y4 _ _ ls h hw (lv_sub hl [1, 2, 0] rfl)
        · have h := if_t h c
          refine lv_iconst (v := 0) hx hb dX7_isEven_150 (by decide) ?_
          cases h
          exact ret_z hC (Or.inl rfl) hw dX7_isEven_151
def lp_X7_isEven_108 (N : Nat) (σ : St) : Nat → Int32 → Option (Int32 × St)
  | 0, _ => none
  | n + 1, x1 => if (σ.1 9) ≤ x1 then (some ((1 : Int32), σ)) else (lp_X7_isEven_118 N σ x1 (fun v0 => lp_X7_isEven_108 N σ n v0) N (0 : Int32))
set_option maxRecDepth 100000 in
set_option maxHeartbeats 4000000 in
theorem w_X7_isEven_108 {p : Program} {l : Launch} {e : Env} {s : State} {m : MethodId} {below : List Frame} {meth : Method} {c : Code} {args : Array Value} {D : va_G} {q : Nat → Nat} {k : cK} {ws0 : va_W} (hC : Cx p s m meth c cX7_isEven RX7 3 (some .boolean)) (N : Nat) (σ : St) (r : Int32) (σ' : St) :
    ∀ (n : Nat) (x1 : Int32) (H : Heap) (locs : List Loc) (ls : Array Slot), lp_X7_isEven_108 N σ n x1 = some (r, σ') → WH D (MW q k σ) k (AQ ws0) s s.heap H locs → lv_has ls 3 [(0, .ref (q 0)), (1, .int x1)] → W p l e rm_X7_isEven s m args below meth c H locs 0 0 (MQ below (QR D ws0 (MW q k σ') (some (.int r))) args s 0 0 (AQ ws0)) (F0 m 108 ls []) := by
  have hx := hC.1
  have hb := hC.2.1
  intro n
  induction n with
  | zero =>
    intro x1 H locs ls h
    cases h
  | succ n ih =>
    intro x1 H locs ls h hw hl
    rw [lp_X7_isEven_108] at h
    refine lv_iload_n hx hb dX7_isEven_108 rfl (lv_at hl 1 rfl) ?_
    refine lv_aload_n hx hb dX7_isEven_109 rfl (lv_at hl 0 rfl) ?_
    refine M_g_X7_172 hC hw dX7_isEven_110 ?_
    refine lv_icmp_ge (tgt := 164) hx hb dX7_isEven_113 (by decide) (fun c => ?_) (fun c => ?_)
    · have h := if_t h c
      refine lv_iconst (v := 1) hx hb dX7_isEven_164 (by decide) ?_
      cases h
      exact ret_z hC (Or.inr rfl) hw dX7_isEven_165
    · have h := if_f h c
      refine lv_iconst (v := 0) hx hb dX7_isEven_116 (by decide) ?_
      refine lv_istore_n (lv' := [(2, .int (0 : Int32)), (0, .ref (q 0)), (1, .int x1)]) hx hb dX7_isEven_117 rfl hl (by decide) rfl (fun ls hl => ?_)
      exact w_X7_isEven_118 hC N σ x1 r σ' _ ih N (0 : Int32) _ _ ls h hw (lv_sub hl [1, 2, 0] rfl)
def lp_X7_isEven_52 (N : Nat) (x1 : Int32) (K25 : St → Int32 → Option (Int32 × St)) : Nat → St → Int32 → Option (Int32 × St)
  | 0, _, _ => none
  | n + 1, σ, x2 => if (σ.1 9) ≤ x2 then (nm (x1 + (1 : Int32)) (fun y6 => K25 σ y6)) else (gd (okx x2 8) (if (99 : Int32) ≤ (ra σ 19 x2) then (gd (okx x2 8) (gd (okx x2 8) (nm (sA σ 18 x2 (ra σ 18 x2)) (fun σ7 => nm (x2 + (1 : Int32)) (fun y8 => lp_X7_isEven_52 N x1 K25 n σ7 y8))))) else (gd (okx x2 8) (gd (okx x2 8) (nm (sA σ 18 x2 (jrem (ra σ 19 x2) (2 : Int32))) (fun σ9 => nm (x2 + (1 : Int32)) (fun y10 => lp_X7_isEven_52 N x1 K25 n σ9 y10)))))))
set_option maxRecDepth 100000 in
set_option maxHeartbeats 4000000 in
theorem w_X7_isEven_52 {p : Program} {l : Launch} {e : Env} {s : State} {m : MethodId} {below : List Frame} {meth : Method} {c : Code} {args : Array Value} {D : va_G} {q : Nat → Nat} {k : cK} {ws0 : va_W} (hC : Cx p s m meth c cX7_isEven RX7 3 (some .boolean)) (N : Nat) (x1 : Int32) (r : Int32) (σ' : St) (K25 : St → Int32 → Option (Int32 × St)) (hK25 : ∀ (σ : St) (x1 : Int32) (H : Heap) (locs : List Loc) (ls : Array Slot), K25 σ x1 = some (r, σ') → WH D (MW q k σ) k (AQ ws0) s s.heap H locs → lv_has ls 3 [(0, .ref (q 0)), (1, .int x1)] → W p l e rm_X7_isEven s m args below meth c H locs 0 0 (MQ below (QR D ws0 (MW q k σ') (some (.int r))) args s 0 0 (AQ ws0)) (F0 m 25 ls [])) :
    ∀ (n : Nat) (σ : St) (x2 : Int32) (H : Heap) (locs : List Loc) (ls : Array Slot), lp_X7_isEven_52 N x1 K25 n σ x2 = some (r, σ') → WH D (MW q k σ) k (AQ ws0) s s.heap H locs → lv_has ls 3 [(0, .ref (q 0)), (1, .int x1), (2, .int x2)] → W p l e rm_X7_isEven s m args below meth c H locs 0 0 (MQ below (QR D ws0 (MW q k σ') (some (.int r))) args s 0 0 (AQ ws0)) (F0 m 52 ls []) := by
  have hx := hC.1
  have hb := hC.2.1
  intro n
  induction n with
  | zero =>
    intro σ x2 H locs ls h
    cases h
  | succ n ih =>
    intro σ x2 H locs ls h hw hl
    rw [lp_X7_isEven_52] at h
    refine lv_iload_n hx hb dX7_isEven_52 rfl (lv_at hl 2 rfl) ?_
    refine lv_aload_n hx hb dX7_isEven_53 rfl (lv_at hl 0 rfl) ?_
    refine M_g_X7_172 hC hw dX7_isEven_54 ?_
    refine lv_icmp_ge (tgt := 100) hx hb dX7_isEven_57 (by decide) (fun c => ?_) (fun c => ?_)
    · have h := if_t h c
      obtain ⟨y6, ey6⟩ : ∃ y : Int32, y = x1 + (1 : Int32) := ⟨_, rfl⟩
      have h := nm_o h y6 ey6
      refine lv_iinc (v := y6) (lv' := [(1, .int y6), (0, .ref (q 0)), (2, .int x2)]) hx hb dX7_isEven_100 hl (k := 1) rfl (by rw [ey6]; rfl) (by decide) rfl (fun ls hl => ?_)
      refine lv_goto (tgt := 25) hx hb dX7_isEven_103 (by decide) ?_
      exact hK25 σ y6 _ _ ls h hw (lv_sub hl [1, 0] rfl)
    · have h := if_f h c
      refine lv_aload_n hx hb dX7_isEven_60 rfl (lv_at hl 0 rfl) ?_
      refine M_g_X7_68 hC hw dX7_isEven_61 ?_
      refine lv_iload_n hx hb dX7_isEven_64 rfl (lv_at hl 2 rfl) ?_
      refine lv_aload_n hx hb dX7_isEven_65 rfl (lv_at hl 0 rfl) ?_
      refine M_g_X7_71 hC hw dX7_isEven_66 ?_
      refine lv_iload_n hx hb dX7_isEven_69 rfl (lv_at hl 2 rfl) ?_
      obtain ⟨hin, h⟩ := gd_o h
      refine M_ld20 hC hw hin dX7_isEven_70 ?_
      refine lv_bipush (v := 99) hx hb dX7_isEven_71 (by decide) ?_
      refine lv_icmp_ge (tgt := 87) hx hb dX7_isEven_73 (by decide) (fun c => ?_) (fun c => ?_)
      · have h := if_t h c
        refine lv_aload_n hx hb dX7_isEven_87 rfl (lv_at hl 0 rfl) ?_
        refine M_g_X7_68 hC hw dX7_isEven_88 ?_
        refine lv_iload_n hx hb dX7_isEven_91 rfl (lv_at hl 2 rfl) ?_
        obtain ⟨hin, h⟩ := gd_o h
        refine M_ld19 hC hw hin dX7_isEven_92 ?_
        obtain ⟨hin, h⟩ := gd_o h
        refine M_st19 hC hw hin dX7_isEven_93 (fun σ7 eσ7 H locs hw => ?_)
        have h := nm_o h σ7 eσ7
        obtain ⟨y8, ey8⟩ : ∃ y : Int32, y = x2 + (1 : Int32) := ⟨_, rfl⟩
        have h := nm_o h y8 ey8
        refine lv_iinc (v := y8) (lv' := [(2, .int y8), (0, .ref (q 0)), (1, .int x1)]) hx hb dX7_isEven_94 hl (k := 2) rfl (by rw [ey8]; rfl) (by decide) rfl (fun ls hl => ?_)
        refine lv_goto (tgt := 52) hx hb dX7_isEven_97 (by decide) ?_
        exact ih σ7 y8 _ _ ls h hw (lv_sub hl [1, 2, 0] rfl)
      · have h := if_f h c
        refine lv_aload_n hx hb dX7_isEven_76 rfl (lv_at hl 0 rfl) ?_
        refine M_g_X7_71 hC hw dX7_isEven_77 ?_
        refine lv_iload_n hx hb dX7_isEven_80 rfl (lv_at hl 2 rfl) ?_
        obtain ⟨hin, h⟩ := gd_o h
        refine M_ld20 hC hw hin dX7_isEven_81 ?_
        refine lv_iconst (v := 2) hx hb dX7_isEven_82 (by decide) ?_
        refine lv_irem hx hb dX7_isEven_83 (by decide) ?_
        refine lv_goto (tgt := 93) hx hb dX7_isEven_84 (by decide) ?_
        obtain ⟨hin, h⟩ := gd_o h
        refine M_st19 hC hw hin dX7_isEven_93 (fun σ9 eσ9 H locs hw => ?_)
        have h := nm_o h σ9 eσ9
        obtain ⟨y10, ey10⟩ : ∃ y : Int32, y = x2 + (1 : Int32) := ⟨_, rfl⟩
        have h := nm_o h y10 ey10
        refine lv_iinc (v := y10) (lv' := [(2, .int y10), (0, .ref (q 0)), (1, .int x1)]) hx hb dX7_isEven_94 hl (k := 2) rfl (by rw [ey10]; rfl) (by decide) rfl (fun ls hl => ?_)
        refine lv_goto (tgt := 52) hx hb dX7_isEven_97 (by decide) ?_
        exact ih σ9 y10 _ _ ls h hw (lv_sub hl [1, 2, 0] rfl)
def lp_X7_isEven_25 (N : Nat) : Nat → St → Int32 → Option (Int32 × St)
  | 0, _, _ => none
  | n + 1, σ, x1 => if (σ.1 9) ≤ x1 then (lp_X7_isEven_108 N σ N (0 : Int32)) else (gd (okx x1 8) (if (ra σ 18 x1) < 0 then (bd1 (f_X7_measure N σ x1) (fun σ5 => lp_X7_isEven_52 N x1 (fun v0 v1 => lp_X7_isEven_25 N n v0 v1) N σ5 (0 : Int32))) else (nm (x1 + (1 : Int32)) (fun y11 => lp_X7_isEven_25 N n σ y11))))
set_option maxRecDepth 100000 in
set_option maxHeartbeats 4000000 in
theorem w_X7_isEven_25 {p : Program} {l : Launch} {e : Env} {s : State} {m : MethodId} {below : List Frame} {meth : Method} {c : Code} {args : Array Value} {D : va_G} {q : Nat → Nat} {k : cK} {ws0 : va_W} (hC : Cx p s m meth c cX7_isEven RX7 3 (some .boolean)) (N : Nat) (r : Int32) (σ' : St) :
    ∀ (n : Nat) (σ : St) (x1 : Int32) (H : Heap) (locs : List Loc) (ls : Array Slot), lp_X7_isEven_25 N n σ x1 = some (r, σ') → WH D (MW q k σ) k (AQ ws0) s s.heap H locs → lv_has ls 3 [(0, .ref (q 0)), (1, .int x1)] → W p l e rm_X7_isEven s m args below meth c H locs 0 0 (MQ below (QR D ws0 (MW q k σ') (some (.int r))) args s 0 0 (AQ ws0)) (F0 m 25 ls []) := by
  have hx := hC.1
  have hb := hC.2.1
  intro n
  induction n with
  | zero =>
    intro σ x1 H locs ls h
    cases h
  | succ n ih =>
    intro σ x1 H locs ls h hw hl
    rw [lp_X7_isEven_25] at h
    refine lv_iload_n hx hb dX7_isEven_25 rfl (lv_at hl 1 rfl) ?_
    refine lv_aload_n hx hb dX7_isEven_26 rfl (lv_at hl 0 rfl) ?_
    refine M_g_X7_172 hC hw dX7_isEven_27 ?_
    refine lv_icmp_ge (tgt := 106) hx hb dX7_isEven_30 (by decide) (fun c => ?_) (fun c => ?_)
    · have h := if_t h c
      refine lv_iconst (v := 0) hx hb dX7_isEven_106 (by decide) ?_
      refine lv_istore_n (lv' := [(1, .int (0 : Int32)), (0, .ref (q 0))]) hx hb dX7_isEven_107 rfl hl (by decide) rfl (fun ls hl => ?_)
      exact w_X7_isEven_108 hC N σ r σ' N (0 : Int32) _ _ ls h hw (lv_sub hl [1, 0] rfl)
    · have h := if_f h c
      refine lv_aload_n hx hb dX7_isEven_33 rfl (lv_at hl 0 rfl) ?_
      refine M_g_X7_68 hC hw dX7_isEven_34 ?_
      refine lv_iload_n hx hb dX7_isEven_37 rfl (lv_at hl 1 rfl) ?_
      obtain ⟨hin, h⟩ := gd_o h
      refine M_ld19 hC hw hin dX7_isEven_38 ?_
      refine lv_if_lt (tgt := 45) hx hb dX7_isEven_39 (by decide) (fun c => ?_) (fun c => ?_)
      · have h := if_t h c
        refine lv_aload_n hx hb dX7_isEven_45 rfl (lv_at hl 0 rfl) ?_
        refine lv_iload_n hx hb dX7_isEven_46 rfl (lv_at hl 1 rfl) ?_
        obtain ⟨σ5, hc, h⟩ := bd1_o h
        refine go_v (run_V (As := [.int x1]) (rest := []) hC hw (c_X7_measure l D q k N σ x1 σ5 hc) kw_338 kw_340 kw_341 kw_246 kw_339 hd_X7_measure ⟨rfl, rfl⟩ ⟨Nat.le_of_ble_eq_true rfl, Nat.le_of_ble_eq_true rfl⟩ 0 rfl rfl rfl hl.1 rfl (Nat.le_of_ble_eq_true rfl) dX7_isEven_47 ⟨Nat.zero_le _, Nat.zero_le _⟩) hw (fun H locs hw => ?_)
        refine lv_iconst (v := 0) hx hb dX7_isEven_50 (by decide) ?_
        refine lv_istore_n (lv' := [(2, .int (0 : Int32)), (0, .ref (q 0)), (1, .int x1)]) hx hb dX7_isEven_51 rfl hl (by decide) rfl (fun ls hl => ?_)
        exact w_X7_isEven_52 hC N x1 r σ' _ ih N σ5 (0 : Int32) _ _ ls h hw (lv_sub hl [1, 2, 0] rfl)
      · have h := if_f h c
        refine lv_goto (tgt := 100) hx hb dX7_isEven_42 (by decide) ?_
        obtain ⟨y11, ey11⟩ : ∃ y : Int32, y = x1 + (1 : Int32) := ⟨_, rfl⟩
        have h := nm_o h y11 ey11
        refine lv_iinc (v := y11) (lv' := [(1, .int y11), (0, .ref (q 0))]) hx hb dX7_isEven_100 hl (k := 1) rfl (by rw [ey11]; rfl) (by decide) rfl (fun ls hl => ?_)
        refine lv_goto (tgt := 25) hx hb dX7_isEven_103 (by decide) ?_
        exact ih σ y11 _ _ ls h hw (lv_sub hl [1, 0] rfl)
def lp_X7_isEven_2 (N : Nat) : Nat → St → Int32 → Option (Int32 × St)
  | 0, _, _ => none
  | n + 1, σ, x1 => if (σ.1 9) ≤ x1 then (lp_X7_isEven_25 N N σ (0 : Int32)) else (gd (okx x1 8) (nm (sA σ 18 x1 (-1 : Int32)) (fun σ12 => nm (x1 + (1 : Int32)) (fun y13 => lp_X7_isEven_2 N n σ12 y13))))
set_option maxRecDepth 100000 in
set_option maxHeartbeats 4000000 in
theorem w_X7_isEven_2 {p : Program} {l : Launch} {e : Env} {s : State} {m : MethodId} {below : List Frame} {meth : Method} {c : Code} {args : Array Value} {D : va_G} {q : Nat → Nat} {k : cK} {ws0 : va_W} (hC : Cx p s m meth c cX7_isEven RX7 3 (some .boolean)) (N : Nat) (r : Int32) (σ' : St) :
    ∀ (n : Nat) (σ : St) (x1 : Int32) (H : Heap) (locs : List Loc) (ls : Array Slot), lp_X7_isEven_2 N n σ x1 = some (r, σ') → WH D (MW q k σ) k (AQ ws0) s s.heap H locs → lv_has ls 3 [(0, .ref (q 0)), (1, .int x1)] → W p l e rm_X7_isEven s m args below meth c H locs 0 0 (MQ below (QR D ws0 (MW q k σ') (some (.int r))) args s 0 0 (AQ ws0)) (F0 m 2 ls []) := by
  have hx := hC.1
  have hb := hC.2.1
  intro n
  induction n with
  | zero =>
    intro σ x1 H locs ls h
    cases h
  | succ n ih =>
    intro σ x1 H locs ls h hw hl
    rw [lp_X7_isEven_2] at h
    refine lv_iload_n hx hb dX7_isEven_2 rfl (lv_at hl 1 rfl) ?_
    refine lv_aload_n hx hb dX7_isEven_3 rfl (lv_at hl 0 rfl) ?_
    refine M_g_X7_172 hC hw dX7_isEven_4 ?_
    refine lv_icmp_ge (tgt := 23) hx hb dX7_isEven_7 (by decide) (fun c => ?_) (fun c => ?_)
    · have h := if_t h c
      refine lv_iconst (v := 0) hx hb dX7_isEven_23 (by decide) ?_
      refine lv_istore_n (lv' := [(1, .int (0 : Int32)), (0, .ref (q 0))]) hx hb dX7_isEven_24 rfl hl (by decide) rfl (fun ls hl => ?_)
      exact w_X7_isEven_25 hC N r σ' N σ (0 : Int32) _ _ ls h hw (lv_sub hl [1, 0] rfl)
    · have h := if_f h c
      refine lv_aload_n hx hb dX7_isEven_10 rfl (lv_at hl 0 rfl) ?_
      refine M_g_X7_68 hC hw dX7_isEven_11 ?_
      refine lv_iload_n hx hb dX7_isEven_14 rfl (lv_at hl 1 rfl) ?_
      refine lv_iconst (v := -1) hx hb dX7_isEven_15 (by decide) ?_
      obtain ⟨hin, h⟩ := gd_o h
      refine M_st19 hC hw hin dX7_isEven_16 (fun σ12 eσ12 H locs hw => ?_)
      have h := nm_o h σ12 eσ12
      obtain ⟨y13, ey13⟩ : ∃ y : Int32, y = x1 + (1 : Int32) := ⟨_, rfl⟩
      have h := nm_o h y13 ey13
      refine lv_iinc (v := y13) (lv' := [(1, .int y13), (0, .ref (q 0))]) hx hb dX7_isEven_17 hl (k := 1) rfl (by rw [ey13]; rfl) (by decide) rfl (fun ls hl => ?_)
      refine lv_goto (tgt := 2) hx hb dX7_isEven_20 (by decide) ?_
      exact ih σ12 y13 _ _ ls h hw (lv_sub hl [1, 0] rfl)
def f_X7_isEven (N : Nat) (σ : St) : Option (Int32 × St) :=
  lp_X7_isEven_2 N N σ (0 : Int32)
set_option maxRecDepth 100000 in
set_option maxHeartbeats 4000000 in
theorem c_X7_isEven (l : Launch) (D : va_G) (q : Nat → Nat) (k : cK) (N : Nat) (σ : St) (r : Int32) (σ' : St) (h : f_X7_isEven N σ = some (r, σ')) :
    Met l yX7_isEven [.code yX7_isEven cX7_isEven 3 (some .boolean)] rm_X7_isEven (PC D (MW q k σ) k [.ref (q 0)]) (QR D (MW q k σ) (MW q k σ') (some (.int r))) 0 0 (AQ (MW q k σ)) := by
  refine met_of (by decide) (Nat.le_of_ble_eq_true rfl) ?_
  intro p e s m below meth c hC hw ls hl
  have hC : Cx p s m meth c cX7_isEven RX7 3 (some .boolean) := hC
  have hl : lv_has ls 3 [(0, .ref (q 0))] := hl
  have hx := hC.1
  have hb := hC.2.1
  unfold f_X7_isEven at h
  refine lv_iconst (v := 0) hx hb dX7_isEven_0 (by decide) ?_
  refine lv_istore_n (lv' := [(1, .int (0 : Int32)), (0, .ref (q 0))]) hx hb dX7_isEven_1 rfl hl (by decide) rfl (fun ls hl => ?_)
  exact w_X7_isEven_2 hC N r σ' N σ (0 : Int32) _ _ ls h hw (lv_sub hl [1, 0] rfl)
/-! SlideBoardsModel.even()Z -/
abbrev rm_X7_even : Room := { frames := 3, cells := 0, slots := 0, locals := 68 }
def f_X7_even (N : Nat) (σ : St) : Option (Int32 × St) :=
  nm (sI σ 0 (0 : Int32)) (fun σ1 => bd (f_X7_isEven N σ1) (fun r2 σ3 => gd (decide (r2 = 0 ∨ r2 = 1)) (some (r2, σ3))))
set_option maxRecDepth 100000 in
set_option maxHeartbeats 4000000 in
theorem c_X7_even (l : Launch) (D : va_G) (q : Nat → Nat) (k : cK) (N : Nat) (σ : St) (r : Int32) (σ' : St) (h : f_X7_even N σ = some (r, σ')) :
    Met l yX7_even [.code yX7_even cX7_even 1 (some .boolean)] rm_X7_even (PC D (MW q k σ) k [.ref (q 0)]) (QR D (MW q k σ) (MW q k σ') (some (.int r))) 0 0 (AQ (MW q k σ)) := by
  refine met_of (by decide) (Nat.le_of_ble_eq_true rfl) ?_
  intro p e s m below meth c hC hw ls hl
  have hC : Cx p s m meth c cX7_even RX7 1 (some .boolean) := hC
  have hl : lv_has ls 1 [(0, .ref (q 0))] := hl
  have hx := hC.1
  have hb := hC.2.1
  unfold f_X7_even at h
  refine lv_aload_n hx hb dX7_even_0 rfl (lv_at hl 0 rfl) ?_
  refine lv_iconst (v := 0) hx hb dX7_even_1 (by decide) ?_
  refine M_p_X7_81 hC hw dX7_even_2 (fun σ1 eσ1 H locs hw => ?_)
  have h := nm_o h σ1 eσ1
  refine lv_aload_n hx hb dX7_even_5 rfl (lv_at hl 0 rfl) ?_
  obtain ⟨r2, σ3, hc, h⟩ := bd_o h
  refine go_i (run_V (As := []) (rest := []) hC hw (c_X7_isEven l D q k N σ1 r2 σ3 hc) kw_342 kw_344 kw_345 kw_246 kw_343 hd_X7_isEven ⟨rfl, rfl⟩ ⟨Nat.le_of_ble_eq_true rfl, Nat.le_of_ble_eq_true rfl⟩ 0 rfl rfl rfl hl.1 rfl (Nat.le_of_ble_eq_true rfl) dX7_even_6 ⟨Nat.zero_le _, Nat.zero_le _⟩) hw (fun H locs hw => ?_)
  obtain ⟨hz, h⟩ := gp_o h
  cases h
  exact ret_z hC hz hw dX7_even_9
/-! SlideBoardsModel.parity()I -/
abbrev rm_X7_parity : Room := { frames := 3, cells := 0, slots := 0, locals := 68 }
def lp_X7_parity_90 (N : Nat) (σ : St) (x1 : Int32) : Nat → Int32 → Option (Int32 × St)
  | 0, _ => none
  | n + 1, x2 => gd (okx x2 8) (if (ra σ 19 x2) = (99 : Int32) then (nm (x2 + (1 : Int32)) (fun y6 => lp_X7_parity_90 N σ x1 n y6)) else (gd (okx x2 8) (some (jrem (x1 + (ra σ 19 x2)) (2 : Int32), σ))))
set_option maxRecDepth 100000 in
set_option maxHeartbeats 4000000 in
theorem w_X7_parity_90 {p : Program} {l : Launch} {e : Env} {s : State} {m : MethodId} {below : List Frame} {meth : Method} {c : Code} {args : Array Value} {D : va_G} {q : Nat → Nat} {k : cK} {ws0 : va_W} (hC : Cx p s m meth c cX7_parity RX7 4 (some .int)) (N : Nat) (σ : St) (x1 : Int32) (r : Int32) (σ' : St) :
    ∀ (n : Nat) (x2 : Int32) (H : Heap) (locs : List Loc) (ls : Array Slot), lp_X7_parity_90 N σ x1 n x2 = some (r, σ') → WH D (MW q k σ) k (AQ ws0) s s.heap H locs → lv_has ls 4 [(0, .ref (q 0)), (1, .int x1), (2, .int x2)] → W p l e rm_X7_parity s m args below meth c H locs 0 0 (MQ below (QR D ws0 (MW q k σ') (some (.int r))) args s 0 0 (AQ ws0)) (F0 m 90 ls []) := by
  have hx := hC.1
  have hb := hC.2.1
  intro n
  induction n with
  | zero =>
    intro x2 H locs ls h
    cases h
  | succ n ih =>
    intro x2 H locs ls h hw hl
    rw [lp_X7_parity_90] at h
    refine lv_aload_n hx hb dX7_parity_90 rfl (lv_at hl 0 rfl) ?_
    refine M_g_X7_71 hC hw dX7_parity_91 ?_
    refine lv_iload_n hx hb dX7_parity_94 rfl (lv_at hl 2 rfl) ?_
    obtain ⟨hin, h⟩ := gd_o h
    refine M_ld20 hC hw hin dX7_parity_95 ?_
    refine lv_bipush (v := 99) hx hb dX7_parity_96 (by decide) ?_
    refine lv_icmp_ne (tgt := 107) hx hb dX7_parity_98 (by decide) (fun c => ?_) (fun c => ?_)
    · have h := if_f h c
      refine lv_iload_n hx hb dX7_parity_107 rfl (lv_at hl 1 rfl) ?_
      refine lv_aload_n hx hb dX7_parity_108 rfl (lv_at hl 0 rfl) ?_
      refine M_g_X7_71 hC hw dX7_parity_109 ?_
      refine lv_iload_n hx hb dX7_parity_112 rfl (lv_at hl 2 rfl) ?_
      obtain ⟨hin, h⟩ := gd_o h
      refine M_ld20 hC hw hin dX7_parity_113 ?_
      refine lv_iadd hx hb dX7_parity_114 ?_
      refine lv_iconst (v := 2) hx hb dX7_parity_115 (by decide) ?_
      refine lv_irem hx hb dX7_parity_116 (by decide) ?_
      cases h
      exact ret_i hC hw dX7_parity_117
    · have h := if_t h c
      obtain ⟨y6, ey6⟩ : ∃ y : Int32, y = x2 + (1 : Int32) := ⟨_, rfl⟩
      have h := nm_o h y6 ey6
      refine lv_iinc (v := y6) (lv' := [(2, .int y6), (0, .ref (q 0)), (1, .int x1)]) hx hb dX7_parity_101 hl (k := 2) rfl (by rw [ey6]; rfl) (by decide) rfl (fun ls hl => ?_)
      refine lv_goto (tgt := 90) hx hb dX7_parity_104 (by decide) ?_
      exact ih y6 _ _ ls h hw (lv_sub hl [1, 2, 0] rfl)
def lp_X7_parity_37 (N : Nat) (σ : St) (x2 : Int32) (K25 : Int32 → Int32 → Option (Int32 × St)) : Nat → Int32 → Int32 → Option (Int32 × St)
  | 0, _, _ => none
  | n + 1, x1, x3 => if (σ.1 9) ≤ x3 then (nm (x2 + (1 : Int32)) (fun y8 => K25 x1 y8)) else (gd (okx x2 8) (gd (okx x3 8) (if (ra σ 14 x2) ≤ (ra σ 14 x3) then (nm (x1 + (0 : Int32)) (fun y9 => nm (x3 + (1 : Int32)) (fun y10 => lp_X7_parity_37 N σ x2 K25 n y9 y10))) else (nm (x1 + (1 : Int32)) (fun y11 => nm (x3 + (1 : Int32)) (fun y12 => lp_X7_parity_37 N σ x2 K25 n y11 y12))))))
set_option maxRecDepth 100000 in
set_option maxHeartbeats 4000000 in
theorem w_X7_parity_37 {p : Program} {l : Launch} {e : Env} {s : State} {m : MethodId} {below : List Frame} {meth : Method} {c : Code} {args : Array Value} {D : va_G} {q : Nat → Nat} {k : cK} {ws0 : va_W} (hC : Cx p s m meth c cX7_parity RX7 4 (some .int)) (N : Nat) (σ : St) (x2 : Int32) (r : Int32) (σ' : St) (K25 : Int32 → Int32 → Option (Int32 × St)) (hK25 : ∀ (x1 : Int32) (x2 : Int32) (H : Heap) (locs : List Loc) (ls : Array Slot), K25 x1 x2 = some (r, σ') → WH D (MW q k σ) k (AQ ws0) s s.heap H locs → lv_has ls 4 [(0, .ref (q 0)), (1, .int x1), (2, .int x2)] → W p l e rm_X7_parity s m args below meth c H locs 0 0 (MQ below (QR D ws0 (MW q k σ') (some (.int r))) args s 0 0 (AQ ws0)) (F0 m 25 ls [])) :
    ∀ (n : Nat) (x1 : Int32) (x3 : Int32) (H : Heap) (locs : List Loc) (ls : Array Slot), lp_X7_parity_37 N σ x2 K25 n x1 x3 = some (r, σ') → WH D (MW q k σ) k (AQ ws0) s s.heap H locs → lv_has ls 4 [(0, .ref (q 0)), (1, .int x1), (2, .int x2), (3, .int x3)] → W p l e rm_X7_parity s m args below meth c H locs 0 0 (MQ below (QR D ws0 (MW q k σ') (some (.int r))) args s 0 0 (AQ ws0)) (F0 m 37 ls []) := by
  have hx := hC.1
  have hb := hC.2.1
  intro n
  induction n with
  | zero =>
    intro x1 x3 H locs ls h
    cases h
  | succ n ih =>
    intro x1 x3 H locs ls h hw hl
    rw [lp_X7_parity_37] at h
    refine lv_iload_n hx hb dX7_parity_37 rfl (lv_at hl 3 rfl) ?_
    refine lv_aload_n hx hb dX7_parity_38 rfl (lv_at hl 0 rfl) ?_
    refine M_g_X7_172 hC hw dX7_parity_39 ?_
    refine lv_icmp_ge (tgt := 74) hx hb dX7_parity_42 (by decide) (fun c => ?_) (fun c => ?_)
    · have h := if_t h c
      obtain ⟨y8, ey8⟩ : ∃ y : Int32, y = x2 + (1 : Int32) := ⟨_, rfl⟩
      have h := nm_o h y8 ey8
      refine lv_iinc (v := y8) (lv' := [(2, .int y8), (0, .ref (q 0)), (1, .int x1), (3, .int x3)]) hx hb dX7_parity_74 hl (k := 2) rfl (by rw [ey8]; rfl) (by decide) rfl (fun ls hl => ?_)
      refine lv_goto (tgt := 25) hx hb dX7_parity_77 (by decide) ?_
      exact hK25 x1 y8 _ _ ls h hw (lv_sub hl [1, 2, 0] rfl)
    · have h := if_f h c
      refine lv_iload_n hx hb dX7_parity_45 rfl (lv_at hl 1 rfl) ?_
      refine lv_aload_n hx hb dX7_parity_46 rfl (lv_at hl 0 rfl) ?_
      refine M_g_X7_55 hC hw dX7_parity_47 ?_
      refine lv_iload_n hx hb dX7_parity_50 rfl (lv_at hl 2 rfl) ?_
      obtain ⟨hin, h⟩ := gd_o h
      refine M_ld15 hC hw hin dX7_parity_51 ?_
      refine lv_aload_n hx hb dX7_parity_52 rfl (lv_at hl 0 rfl) ?_
      refine M_g_X7_55 hC hw dX7_parity_53 ?_
      refine lv_iload_n hx hb dX7_parity_56 rfl (lv_at hl 3 rfl) ?_
      obtain ⟨hin, h⟩ := gd_o h
      refine M_ld15 hC hw hin dX7_parity_57 ?_
      refine lv_icmp_le (tgt := 65) hx hb dX7_parity_58 (by decide) (fun c => ?_) (fun c => ?_)
      · have h := if_t h c
        refine lv_iconst (v := 0) hx hb dX7_parity_65 (by decide) ?_
        refine lv_iadd hx hb dX7_parity_66 ?_
        refine lv_topi (fun y9 ey9 => ?_)
        have h := nm_o h y9 ey9
        refine lv_istore_n (lv' := [(1, .int y9), (0, .ref (q 0)), (2, .int x2), (3, .int x3)]) hx hb dX7_parity_67 rfl hl (by decide) rfl (fun ls hl => ?_)
        obtain ⟨y10, ey10⟩ : ∃ y : Int32, y = x3 + (1 : Int32) := ⟨_, rfl⟩
        have h := nm_o h y10 ey10
        refine lv_iinc (v := y10) (lv' := [(3, .int y10), (1, .int y9), (0, .ref (q 0)), (2, .int x2)]) hx hb dX7_parity_68 hl (k := 3) rfl (by rw [ey10]; rfl) (by decide) rfl (fun ls hl => ?_)
        refine lv_goto (tgt := 37) hx hb dX7_parity_71 (by decide) ?_
        exact ih y9 y10 _ _ ls h hw (lv_sub hl [2, 1, 3, 0] rfl)
      · have h := if_f h c
        refine lv_iconst (v := 1) hx hb dX7_parity_61 (by decide) ?_
        refine lv_goto (tgt := 66) hx hb dX7_parity_62 (by decide) ?_
        refine lv_iadd hx hb dX7_parity_66 ?_
        refine lv_topi (fun y11 ey11 => ?_)
        have h := nm_o h y11 ey11
        refine lv_istore_n (lv' := [(1, .int y11), (0, .ref (q 0)), (2, .int x2), (3, .int x3)]) hx hb dX7_parity_67 rfl hl (by decide) rfl (fun ls hl => ?_)
        obtain ⟨y12, ey12⟩ : ∃ y : Int32, y = x3 + (1 : Int32) := ⟨_, rfl⟩
        have h := nm_o h y12 ey12
        refine lv_iinc (v := y12) (lv' := [(3, .int y12), (1, .int y11), (0, .ref (q 0)), (2, .int x2)]) hx hb dX7_parity_68 hl (k := 3) rfl (by rw [ey12]; rfl) (by decide) rfl (fun ls hl => ?_)
        refine lv_goto (tgt := 37) hx hb dX7_parity_71 (by decide) ?_
        exact ih y11 y12 _ _ ls h hw (lv_sub hl [2, 1, 3, 0] rfl)
def lp_X7_parity_25 (N : Nat) (σ : St) : Nat → Int32 → Int32 → Option (Int32 × St)
  | 0, _, _ => none
  | n + 1, x1, x2 => if (σ.1 9) ≤ x2 then (bd1 (f_X7_gap N σ) (fun r4 => bd1 (f_X7_measure N σ r4) (fun σ5 => lp_X7_parity_90 N σ5 x1 N (0 : Int32)))) else (nm (x2 + (1 : Int32)) (fun y7 => lp_X7_parity_37 N σ x2 (fun v0 v1 => lp_X7_parity_25 N σ n v0 v1) N x1 y7))
set_option maxRecDepth 100000 in
set_option maxHeartbeats 4000000 in
theorem w_X7_parity_25 {p : Program} {l : Launch} {e : Env} {s : State} {m : MethodId} {below : List Frame} {meth : Method} {c : Code} {args : Array Value} {D : va_G} {q : Nat → Nat} {k : cK} {ws0 : va_W} (hC : Cx p s m meth c cX7_parity RX7 4 (some .int)) (N : Nat) (σ : St) (r : Int32) (σ' : St) :
    ∀ (n : Nat) (x1 : Int32) (x2 : Int32) (H : Heap) (locs : List Loc) (ls : Array Slot), lp_X7_parity_25 N σ n x1 x2 = some (r, σ') → WH D (MW q k σ) k (AQ ws0) s s.heap H locs → lv_has ls 4 [(0, .ref (q 0)), (1, .int x1), (2, .int x2)] → W p l e rm_X7_parity s m args below meth c H locs 0 0 (MQ below (QR D ws0 (MW q k σ') (some (.int r))) args s 0 0 (AQ ws0)) (F0 m 25 ls []) := by
  have hx := hC.1
  have hb := hC.2.1
  intro n
  induction n with
  | zero =>
    intro x1 x2 H locs ls h
    cases h
  | succ n ih =>
    intro x1 x2 H locs ls h hw hl
    rw [lp_X7_parity_25] at h
    refine lv_iload_n hx hb dX7_parity_25 rfl (lv_at hl 2 rfl) ?_
    refine lv_aload_n hx hb dX7_parity_26 rfl (lv_at hl 0 rfl) ?_
    refine M_g_X7_172 hC hw dX7_parity_27 ?_
    refine lv_icmp_ge (tgt := 80) hx hb dX7_parity_30 (by decide) (fun c => ?_) (fun c => ?_)
    · have h := if_t h c
      refine lv_aload_n hx hb dX7_parity_80 rfl (lv_at hl 0 rfl) ?_
      refine lv_aload_n hx hb dX7_parity_81 rfl (lv_at hl 0 rfl) ?_
      obtain ⟨r4, hc, h⟩ := bd1_o h
      refine go_i (run_V (As := []) (rest := [.ref (q 0)]) hC hw (c_X7_gap l D q k N σ r4 hc) kw_330 kw_332 kw_333 kw_246 kw_331 hd_X7_gap ⟨rfl, rfl⟩ ⟨Nat.le_of_ble_eq_true rfl, Nat.le_of_ble_eq_true rfl⟩ 0 rfl rfl rfl hl.1 rfl (Nat.le_of_ble_eq_true rfl) dX7_parity_82 ⟨Nat.zero_le _, Nat.zero_le _⟩) hw (fun H locs hw => ?_)
      obtain ⟨σ5, hc, h⟩ := bd1_o h
      refine go_v (run_V (As := [.int r4]) (rest := []) hC hw (c_X7_measure l D q k N σ r4 σ5 hc) kw_338 kw_340 kw_341 kw_246 kw_339 hd_X7_measure ⟨rfl, rfl⟩ ⟨Nat.le_of_ble_eq_true rfl, Nat.le_of_ble_eq_true rfl⟩ 0 rfl rfl rfl hl.1 rfl (Nat.le_of_ble_eq_true rfl) dX7_parity_85 ⟨Nat.zero_le _, Nat.zero_le _⟩) hw (fun H locs hw => ?_)
      refine lv_iconst (v := 0) hx hb dX7_parity_88 (by decide) ?_
      refine lv_istore_n (lv' := [(2, .int (0 : Int32)), (0, .ref (q 0)), (1, .int x1)]) hx hb dX7_parity_89 rfl hl (by decide) rfl (fun ls hl => ?_)
      exact w_X7_parity_90 hC N σ5 x1 r σ' N (0 : Int32) _ _ ls h hw (lv_sub hl [1, 2, 0] rfl)
    · have h := if_f h c
      refine lv_iload_n hx hb dX7_parity_33 rfl (lv_at hl 2 rfl) ?_
      refine lv_iconst (v := 1) hx hb dX7_parity_34 (by decide) ?_
      refine lv_iadd hx hb dX7_parity_35 ?_
      refine lv_topi (fun y7 ey7 => ?_)
      have h := nm_o h y7 ey7
      refine lv_istore_n (lv' := [(3, .int y7), (0, .ref (q 0)), (1, .int x1), (2, .int x2)]) hx hb dX7_parity_36 rfl hl (by decide) rfl (fun ls hl => ?_)
      exact w_X7_parity_37 hC N σ x2 r σ' _ ih N x1 y7 _ _ ls h hw (lv_sub hl [1, 2, 3, 0] rfl)
def f_X7_parity (N : Nat) (σ : St) : Option (Int32 × St) :=
  nm (sI σ 0 (0 : Int32)) (fun σ1 => if (σ1.1 9) = 0 then (some ((-1 : Int32), σ1)) else (bd (f_X7_isEven N σ1) (fun r2 σ3 => if r2 = 0 then (some ((-1 : Int32), σ3)) else (lp_X7_parity_25 N σ3 N (0 : Int32) (0 : Int32)))))
set_option maxRecDepth 100000 in
set_option maxHeartbeats 4000000 in
theorem c_X7_parity (l : Launch) (D : va_G) (q : Nat → Nat) (k : cK) (N : Nat) (σ : St) (r : Int32) (σ' : St) (h : f_X7_parity N σ = some (r, σ')) :
    Met l yX7_parity [.code yX7_parity cX7_parity 4 (some .int)] rm_X7_parity (PC D (MW q k σ) k [.ref (q 0)]) (QR D (MW q k σ) (MW q k σ') (some (.int r))) 0 0 (AQ (MW q k σ)) := by
  refine met_of (by decide) (Nat.le_of_ble_eq_true rfl) ?_
  intro p e s m below meth c hC hw ls hl
  have hC : Cx p s m meth c cX7_parity RX7 4 (some .int) := hC
  have hl : lv_has ls 4 [(0, .ref (q 0))] := hl
  have hx := hC.1
  have hb := hC.2.1
  unfold f_X7_parity at h
  refine lv_aload_n hx hb dX7_parity_0 rfl (lv_at hl 0 rfl) ?_
  refine lv_iconst (v := 0) hx hb dX7_parity_1 (by decide) ?_
  refine M_p_X7_81 hC hw dX7_parity_2 (fun σ1 eσ1 H locs hw => ?_)
  have h := nm_o h σ1 eσ1
  refine lv_aload_n hx hb dX7_parity_5 rfl (lv_at hl 0 rfl) ?_
  refine M_g_X7_172 hC hw dX7_parity_6 ?_
  refine lv_if_eq (tgt := 19) hx hb dX7_parity_9 (by decide) (fun c => ?_) (fun c => ?_)
  · have h := if_t h c
    refine lv_iconst (v := -1) hx hb dX7_parity_19 (by decide) ?_
    cases h
    exact ret_i hC hw dX7_parity_20
  · have h := if_f h c
    refine lv_aload_n hx hb dX7_parity_12 rfl (lv_at hl 0 rfl) ?_
    obtain ⟨r2, σ3, hc, h⟩ := bd_o h
    refine go_i (run_V (As := []) (rest := []) hC hw (c_X7_isEven l D q k N σ1 r2 σ3 hc) kw_342 kw_344 kw_345 kw_246 kw_343 hd_X7_isEven ⟨rfl, rfl⟩ ⟨Nat.le_of_ble_eq_true rfl, Nat.le_of_ble_eq_true rfl⟩ 0 rfl rfl rfl hl.1 rfl (Nat.le_of_ble_eq_true rfl) dX7_parity_13 ⟨Nat.zero_le _, Nat.zero_le _⟩) hw (fun H locs hw => ?_)
    refine lv_if_ne (tgt := 21) hx hb dX7_parity_16 (by decide) (fun c => ?_) (fun c => ?_)
    · have h := if_f h c
      refine lv_iconst (v := 0) hx hb dX7_parity_21 (by decide) ?_
      refine lv_istore_n (lv' := [(1, .int (0 : Int32)), (0, .ref (q 0))]) hx hb dX7_parity_22 rfl hl (by decide) rfl (fun ls hl => ?_)
      refine lv_iconst (v := 0) hx hb dX7_parity_23 (by decide) ?_
      refine lv_istore_n (lv' := [(2, .int (0 : Int32)), (1, .int (0 : Int32)), (0, .ref (q 0))]) hx hb dX7_parity_24 rfl hl (by decide) rfl (fun ls hl => ?_)
      exact w_X7_parity_25 hC N σ3 r σ' N (0 : Int32) (0 : Int32) _ _ ls h hw (lv_sub hl [2, 1, 0] rfl)
    · have h := if_t h c
      refine lv_iconst (v := -1) hx hb dX7_parity_19 (by decide) ?_
      cases h
      exact ret_i hC hw dX7_parity_20

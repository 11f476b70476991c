/-! the law's entry: the two objects, the out row, then the loop -/
def cv (xs : Nat → Int32) (L : Nat) (i : Int32) : Int32 := if nI L ≤ i then 0 else rs xs i
set_option maxRecDepth 100000 in
set_option maxHeartbeats 4000000 in
theorem e_cell (l : Launch) (b L : Nat) (xs : Nat → Int32) (hL : L < 2 ^ 31) (i : Int32) (hi : ¬ i < 0) : Met l yL_cell [.code yL_cell cL_cell 2 (some .int)] { frames := 0, cells := 0, slots := 0, locals := 0 } (fun v U => v = ([.ref b, .int i] : List Value).toArray ∧ va_X b L xs U U.heap) (fun _ st o t => o = .returned (some (.int (cv xs L i))) ∧ t.heap = st.heap) 0 0 (fun _ => False) := by
  refine Met.ofW (cc := cL_cell) (maxL := 2) (ret := some .int) (by decide) rfl ?_
  intro p e s m args below meth c s₁ B hml hv
  obtain ⟨rfl, hX⟩ := hv
  have hx := B.exec
  have hb := B.bytes
  have hr := B.returns
  have hlocks := B.notSynchronized
  have hbl : b < s.heap.size := by obtain ⟨scr, h1, -⟩ := hX; exact (Array.getElem?_eq_some_iff.mp h1).1
  have hl := lv_entry ([.ref b, .int i]) (n := 2) (Nat.le_of_ble_eq_true rfl)
  rw [lg_entry_eq]
  generalize (lg_sl ([.ref b, .int i]) ++ List.replicate (2 - (lg_sl ([.ref b, .int i])).length) Slot.unset).toArray = ls at hl ⊢
  have hl : lv_has ls 2 [(0, .ref b), (1, .int i)] := hl
  have hS : va_S (fun _ => False) s.heap s.heap [] := va_S.rf
  refine lv_iload_n hx hb dL_cell_0 rfl (lv_at hl 1 rfl) ?_
  refine lv_aload_n hx hb dL_cell_1 rfl (lv_at hl 0 rfl) ?_
  refine va_slen (A := fun _ => False) hx hb hX hbl (fun h => h) hS dL_cell_2 ?_
  refine lv_icmp_ge (tgt := 12) hx hb dL_cell_3 (by decide) (fun c => ?_) (fun c => ?_)
  · refine lv_iconst (v := 0) hx hb dL_cell_12 (by decide) ?_
    have e1 : cv xs L i = 0 := if_pos c
    rw [e1]
    exact W.iret hx hb hr (fun t ht _ => ⟨rfl, ht⟩) (fun q h => by cases h) dL_cell_13 hlocks
  · have hin : vp_in i L := by
      rcases pk_ix i hL with h | h | ⟨j, hj, rfl⟩
      · exact absurd h hi
      · exact absurd h c
      · exact vp_in_nI hj hL
    refine lv_aload_n hx hb dL_cell_6 rfl (lv_at hl 0 rfl) ?_
    refine lv_iload_n hx hb dL_cell_7 rfl (lv_at hl 1 rfl) ?_
    refine va_sld (A := fun _ => False) hx hb hX hbl (fun h => h) hS hin dL_cell_8 ?_
    refine lv_goto (tgt := 13) hx hb dL_cell_9 (by decide) ?_
    have e1 : cv xs L i = xs i.toNatClampNeg := if_neg c
    rw [e1]
    exact W.iret hx hb hr (fun t ht _ => ⟨rfl, ht⟩) (fun q h => by cases h) dL_cell_13 hlocks
section Entry
variable {p : Program} {l : Launch} {e : Env} {s : State} {m : MethodId} {args : Array Value} {below : List Frame} {meth : Method} {c : Code} {H : Heap} {locs : List Loc} {cells slots : Nat} {Q : State → Prop}
variable {D : va_G} {ws : va_W} {k : cK} {A : Nat → Prop} {pc b L : Nat} {xs : Nat → Int32} {ls : Array Slot} {rest : List Value} {ret9 : Option FieldType}
theorem o_cell (hC : Cx p s m meth c cL_law RL 7 ret9) (hX : va_X b L xs s s.heap) (hL : L < 2 ^ 31) (hbl : b < s.heap.size) (hbA : ¬ A b) (hw : WH D ws k A s s.heap H locs) {i : Int32} (hi : ¬ i < 0) (hsize : ls.size = 7) (hrest : (rest.map fun v => v.category).sum ≤ 8) (hf : cells ≤ room_1.cells ∧ slots ≤ room_1.slots) (hdg : decode cL_law pc = .ok (.invokestatic 52, 3))
    (kk : ∀ locs1 : List Loc, WH D ws k A s s.heap H locs1 → W p l e room_1 s m args below meth c H locs1 cells slots Q (F0 m (pc + 3) ls (.int (cv xs L i) :: rest))) : W p l e room_1 s m args below meth c H locs cells slots Q (F0 m pc ls (.int i :: .ref b :: rest)) := by
  obtain ⟨hx, hb, -, hml, hown, -⟩ := hC
  have ht := hw.2.2.2.2.all args
  obtain ⟨hK, hP, hD, hS, hT⟩ := hw
  have hr := va_runS (l := l) (e := e) (R := room_1) (below := below) (meth := meth) (locs := locs) (cells := cells) (slots := slots) (H := H) (As := [.ref b, .int i]) (rest := rest) (g := F0 m pc ls (.int i :: .ref b :: rest)) (bytes := cL_cell) (maxL := 2) (ret := some .int) ⟨hx, hb, hml, hown, ht⟩ (e_cell l b L xs hL i hi)
    ⟨callB_of 2 ht (gd_code kw_735) rfl rfl rfl (ht _ kw_556) (ht _ kw_733) hd_L_cell ⟨Nat.le_of_ble_eq_true rfl, Nat.le_of_ble_eq_true rfl⟩, ht _ kw_734⟩
    ⟨fun a U g mk h => ⟨h.1, va_X.moved (u := U) (U := U.calling g mk a) (Vm.Alike.refl U.vm) h.2⟩, fun U hU hW => ⟨rfl, by rw [hU]; exact va_X.moved hW.alike (hX.kept (hS.2.1 b hbl hbA))⟩⟩ rfl rfl hsize rfl (lv_room hrest) hdg hf
  intro T hT9 X
  obtain ⟨v, st₀, t, T', L9, h0, X', hL9, e1, e2, ⟨hv, hh⟩, st⟩ := hr T hT9 X
  cases hv
  obtain ⟨t2, a1, b1⟩ := kk (locs ++ L9) ⟨hK, hP, hD, ⟨hS.1, hS.2.1, fun q hq => by
    rcases List.mem_append.mp hq with h | h
    · exact hS.2.2 q h
    · exact (hL9 q h).elim⟩, hT⟩ T' (by rw [e1, hh, h0]) X'
  exact ⟨t2, st t2 a1, b1⟩
end Entry
theorem WH.sub {D : va_G} {ws ws' : va_W} {k : cK} {A : Nat → Prop} {s : State} {H0 H : Heap} {locs : List Loc} (h : WH D ws k A s H0 H locs) (is : List Nat) (hn : va_nd is = true) (hs : is.map (fun i => ws[i]?) = ws'.map some) : WH D ws' k A s H0 H locs := by
  obtain ⟨h1, h2, h3, h4, h5⟩ := h
  refine ⟨h1, fun j q hq => ?_, h3.sub is hn hs, h4, h5⟩
  have h9 : (is.map (fun i => ws[i]?))[j]? = some (some q) := by rw [hs, List.getElem?_map, hq]; rfl
  rw [List.getElem?_map] at h9
  cases hi : is[j]? with
  | none => rw [hi] at h9; cases h9
  | some i => rw [hi] at h9; exact h2 i q (Option.some.inj h9)
/-- the class's state at its start, the reference's -/
def sC0 (w h z : Int32) : St := (fun j => if j = 0 then w else if j = 1 then h else if j = 2 then z else if j = 3 then jshl z (w - 1) else if j = 4 then jshl 1 w - 1 else if j = 5 then jshl (jshl 1 w - 1) (w * (h - 1)) else 0, fun _ _ => 0, fun _ _ => 0)
def sM0 (w h : Int32) : St := (fun j => if j = 1 then w else if j = 2 then h else 0, fun _ _ => 0, fun _ _ => 0)
theorem CT_of {s : State} {a : Array Value} (h : ∀ w ∈ lw_tbl, w.before a s = true) : CT s := fun w hw => vx_ot_at (State.WarmedH.refl s) rfl (gw_ot (List.mem_filter.mp hw).2) (h w (List.mem_filter.mp hw).1)
theorem k_ex {s : State} {a : Array Value} {ty : FieldType} (hty : ∀ C, ty ≠ .object C) (h : (Cond.arrayClass ty).before a s = true) : ∃ cA, ArrOfT s cA ty ∧ va_RA s cA ty := by
  obtain ⟨c, k, comp, h1, h2, h3⟩ := Cond.arrayClass_spec h
  refine ⟨c, fun n z => ⟨fun k h => (by cases h), k, h2, comp, h3⟩, ?_⟩
  cases ty with
  | object C => exact absurd rfl (hty C)
  | _ => exact h1
theorem iJx : ∀ w ∈ u_ws RJx00060 TJx00060 6, w ∈ GT := by decide +kernel
set_option maxRecDepth 100000 in
set_option maxHeartbeats 8000000 in
/-- THE LAW, from its entry, if its function answers 1 -/
theorem start_open {p : Program} {e : Env} {s : State} {m : MethodId} {below : List Frame} {meth : Method} {c : Code} (l : Launch) (hst : l.stackTraces = false) {b L : Nat} {xs : Nat → Int32} (hL : L ≤ 2050) (C0 : lw_At p s m meth c b L xs)
    {sa : Nat → Nat} (hz : XPm (fun a => s.heap.size ≤ a) sa s s.heap) (N n : Nat) (hn : n ≤ 1000) (z : Int32) (hzz : lp_Bd (jmax 1 (jmin 5 (cv xs L 0))) (jmax 1 (jmin 5 (cv xs L 1))) N 0 0 = some z)
    (hlaw : lp_law N xs L n (sC0 (jmax 1 (jmin 5 (cv xs L 0))) (jmax 1 (jmin 5 (cv xs L 1))) z) (sM0 (jclamp (cv xs L 0)) (jclamp (cv xs L 1))) 2 = some 1) :
    W p l e room_1 s m #[Value.ref b] below meth c s.heap [] 0 0 (lw_Z below #[Value.ref b] s) (entryFrame m ([Value.ref b] : List Value).toArray 7) := by
  obtain ⟨hx, hb, hr, hml, hown, hts, hX, hbl, hlocks, hgv⟩ := id C0
  have hC : Cx p s m meth c cL_law RL 7 ret := ⟨hx, hb, hr, hml, hown, hlocks⟩
  have hT0 : CT s := CT_of hts
  have hA : ∀ q : Nat, s.heap.size ≤ q → (fun q : Nat => s.heap.size ≤ q) q := fun _ h => h
  have hbA : ¬ (fun q : Nat => s.heap.size ≤ q) b := Nat.not_le.mpr hbl
  have hL31 : L < 2 ^ 31 := by omega
  obtain ⟨d0, f0, hn0⟩ := u_known (C := RJx00060) (T := TJx00060) (N := 6) (n := 6) (ws := GT) (args := #[Value.ref b]) (hT0.all _) iJx (hT0.all _ _ kw_746)
  obtain ⟨d1, f1, hn1⟩ := u_known (C := RX0) (T := TX0) (N := 10) (n := 10) (ws := GT) (args := #[Value.ref b]) (hT0.all _) iX0 (hT0.all _ _ kw_522)
  obtain ⟨d2, f2, hn2⟩ := u_known (C := RX1) (T := TX1) (N := 11) (n := 11) (ws := GT) (args := #[Value.ref b]) (hT0.all _) iX1 (hT0.all _ _ kw_539)
  obtain ⟨d3, f3, hn3⟩ := u_known (C := RX2) (T := TX2) (N := 4) (n := 4) (ws := GT) (args := #[Value.ref b]) (hT0.all _) iX2 (hT0.all _ _ kw_534)
  obtain ⟨d4, f4, hn4⟩ := u_known (C := RX3) (T := TX3) (N := 3) (n := 3) (ws := GT) (args := #[Value.ref b]) (hT0.all _) iX3 (hT0.all _ _ kw_544)
  obtain ⟨d5, f5, hn5⟩ := u_known (C := RX4) (T := TX4) (N := 7) (n := 7) (ws := GT) (args := #[Value.ref b]) (hT0.all _) iX4 (hT0.all _ _ kw_516)
  obtain ⟨d6, f6, hn6⟩ := u_known (C := RX5) (T := TX5) (N := 7) (n := 7) (ws := GT) (args := #[Value.ref b]) (hT0.all _) iX5 (hT0.all _ _ kw_549)
  obtain ⟨d7, f7, hn7⟩ := u_known (C := RX6) (T := TX6) (N := 5) (n := 5) (ws := GT) (args := #[Value.ref b]) (hT0.all _) iX6 (hT0.all _ _ kw_737)
  obtain ⟨d8, f8, hn8⟩ := u_known (C := RX7) (T := TX7) (N := 30) (n := 30) (ws := GT) (args := #[Value.ref b]) (hT0.all _) iX7 (hT0.all _ _ kw_739)
  obtain ⟨cI, kI⟩ := k_ex (ty := .int) (fun C h => by cases h) (hT0.all #[] _ (by decide +kernel : Cond.arrayClass .int ∈ GT))
  obtain ⟨cJ, kJ⟩ := k_ex (ty := .long) (fun C h => by cases h) (hT0.all #[] _ (by decide +kernel : Cond.arrayClass .long ∈ GT))
  obtain ⟨cZ, kZ⟩ := k_ex (ty := .boolean) (fun C h => by cases h) (hT0.all #[] _ (by decide +kernel : Cond.arrayClass .boolean ∈ GT))
  obtain ⟨D, k, hK⟩ : ∃ (D : va_G) (k : cK), va_K D vwCl (cT k) s := by
    refine ⟨(fun j => if j = 0 then d0 else if j = 1 then d1 else if j = 2 then d2 else if j = 3 then d3 else if j = 4 then d4 else if j = 5 then d5 else if j = 6 then d6 else if j = 7 then d7 else d8, fun j => if j = 0 then f0 else if j = 1 then f1 else if j = 2 then f2 else if j = 3 then f3 else if j = 4 then f4 else if j = 5 then f5 else if j = 6 then f6 else if j = 7 then f7 else f8), (cI, cJ, cZ), ?_, ?_⟩
    · intro j q hq
      match j, hq with
      | 0, hq => cases hq; exact hn0
      | 1, hq => cases hq; exact hn1
      | 2, hq => cases hq; exact hn2
      | 3, hq => cases hq; exact hn3
      | 4, hq => cases hq; exact hn4
      | 5, hq => cases hq; exact hn5
      | 6, hq => cases hq; exact hn6
      | 7, hq => cases hq; exact hn7
      | 8, hq => cases hq; exact hn8
      | j + 9, hq => simp [vwCl] at hq
    · intro j q hq
      match j, hq with
      | 0, hq => cases hq; exact kI
      | 1, hq => cases hq; exact kJ
      | 2, hq => cases hq; exact kZ
      | j + 3, hq => simp [cT] at hq
  have hw : WH D [] k (fun q : Nat => s.heap.size ≤ q) s s.heap s.heap [] := ⟨hK, fun j q h => by simp at h, ⟨fun i j p q h => by simp at h, fun j q h => by simp at h⟩, va_S.rf, hT0⟩
  have hl := lv_entry ([.ref b]) (n := 7) (Nat.le_of_ble_eq_true rfl)
  rw [lg_entry_eq]
  generalize (lg_sl ([.ref b]) ++ List.replicate (7 - (lg_sl ([.ref b])).length) Slot.unset).toArray = ls at hl ⊢
  have hl : lv_has ls 7 [(0, .ref b)] := hl
  refine o_new (ci := 7) (fs := [.null, .null, .null, .null, .null]) hC hw hA iX6 tyX6 tyX6_ok kw_736 kw_737 kw_6 rfl (by decide +kernel) (Nat.le_of_ble_eq_true rfl) (Nat.le_of_ble_eq_true rfl) dL_law_0 (fun h6 H hw => ?_)
  have hw : WH D [(h6, .inr (7, [.null, .null, .null, .null, .null]))] k (fun q : Nat => s.heap.size ≤ q) s s.heap _ _ := hw
  refine lv_dup hx hb dL_law_3 rfl ?_
  refine lv_aload_n hx hb dL_law_4 rfl (lv_at hl 0 rfl) ?_
  refine lv_iconst (v := 0) hx hb dL_law_5 (by decide) ?_
  refine o_cell hC hX hL31 hbl hbA hw (by decide) hl.1 (Nat.le_of_ble_eq_true rfl) ⟨Nat.le_of_ble_eq_true rfl, Nat.le_of_ble_eq_true rfl⟩ dL_law_6 (fun locs hw => ?_)
  refine lv_aload_n hx hb dL_law_9 rfl (lv_at hl 0 rfl) ?_
  refine lv_iconst (v := 1) hx hb dL_law_10 (by decide) ?_
  refine o_cell hC hX hL31 hbl hbA hw (by decide) hl.1 (Nat.le_of_ble_eq_true rfl) ⟨Nat.le_of_ble_eq_true rfl, Nat.le_of_ble_eq_true rfl⟩ dL_law_11 (fun locs hw => ?_)
  refine go_n (wr := []) (run_I (wr := []) (wc := [(h6, .inr (7, [.null, .null, .null, .null, .null]))]) (As := [.int (cv xs L 0), .int (cv xs L 1)]) (rest := [.ref h6]) hC hw (c_X6_init l D k N h6 H.size (cv xs L 0) (cv xs L 1) z hzz) rfl kw_740 kw_741 kw_6 kw_742 hd_X6_init ⟨rfl, rfl⟩ ⟨Nat.le_of_ble_eq_true rfl, Nat.le_of_ble_eq_true rfl⟩ rfl hl.1 rfl (Nat.le_of_ble_eq_true rfl) dL_law_14 ⟨Nat.le_of_ble_eq_true rfl, Nat.le_of_ble_eq_true rfl⟩) hw hA (fun u6 H locs hw => ?_)
  refine lv_astore_n (lv' := [(1, .ref h6), (0, .ref b)]) hx hb dL_law_17 rfl hl (by decide) rfl (fun ls hl => ?_)
  refine o_new (ci := 8) (fs := [.int 0, .int 0, .int 0, .int 0, .int 0, .null, .null, .int 0, .null, .null, .int 0, .null, .null, .null, .null, .null, .null, .null, .null, .int 0, .int 0, .null, .int 0, .null, .null, .null, .null, .null, .null, .null]) hC hw hA iX7 tyX7 tyX7_ok kw_738 kw_739 kw_246 rfl (by decide +kernel) (Nat.le_of_ble_eq_true rfl) (Nat.le_of_ble_eq_true rfl) dL_law_18 (fun h7 H hw => ?_)
  refine lv_dup hx hb dL_law_21 rfl ?_
  refine lv_aload_n hx hb dL_law_22 rfl (lv_at hl 1 rfl) ?_
  refine lv_iconst (v := 0) hx hb dL_law_23 (by decide) ?_
  refine o_cell hC hX hL31 hbl hbA hw (by decide) hl.1 (Nat.le_of_ble_eq_true rfl) ⟨Nat.le_of_ble_eq_true rfl, Nat.le_of_ble_eq_true rfl⟩ dL_law_24 (fun locs hw => ?_)
  refine lv_aload_n hx hb dL_law_27 rfl (lv_at hl 1 rfl) ?_
  refine lv_iconst (v := 1) hx hb dL_law_28 (by decide) ?_
  refine o_cell hC hX hL31 hbl hbA hw (by decide) hl.1 (Nat.le_of_ble_eq_true rfl) ⟨Nat.le_of_ble_eq_true rfl, Nat.le_of_ble_eq_true rfl⟩ dL_law_29 (fun locs hw => ?_)
  refine go_n (wr := [] ++ mk_X6_init k h6 (cv xs L 0) (cv xs L 1) z u6) (run_I (wr := [] ++ mk_X6_init k h6 (cv xs L 0) (cv xs L 1) z u6) (wc := [(h7, .inr (8, [.int 0, .int 0, .int 0, .int 0, .int 0, .null, .null, .int 0, .null, .null, .int 0, .null, .null, .null, .null, .null, .null, .null, .null, .int 0, .int 0, .null, .int 0, .null, .null, .null, .null, .null, .null, .null]))]) (As := [.int (cv xs L 0), .int (cv xs L 1)]) (rest := [.ref h7]) hC hw (c_X7_init l D k N h7 H.size (cv xs L 0) (cv xs L 1)) rfl kw_743 kw_744 kw_246 kw_745 hd_X7_init ⟨rfl, rfl⟩ ⟨Nat.le_of_ble_eq_true rfl, Nat.le_of_ble_eq_true rfl⟩ rfl hl.1 rfl (Nat.le_of_ble_eq_true rfl) dL_law_32 ⟨Nat.le_of_ble_eq_true rfl, Nat.le_of_ble_eq_true rfl⟩) hw hA (fun u7 H locs hw => ?_)
  refine lv_astore_n (lv' := [(2, .ref h7), (1, .ref h6), (0, .ref b)]) hx hb dL_law_35 rfl hl (by decide) rfl (fun ls hl => ?_)
  refine lv_iconst (v := 1) hx hb dL_law_36 (by decide) ?_
  refine o_newj (N := 1) hC hw hA kw_510 (by decide) (by decide) (by decide) (Nat.le_of_ble_eq_true rfl) (Nat.le_of_ble_eq_true rfl) dL_law_37 (fun h9 H hw => ?_)
  refine lv_astore_n (lv' := [(3, .ref h9), (2, .ref h7), (1, .ref h6), (0, .ref b)]) hx hb dL_law_39 rfl hl (by decide) rfl (fun ls hl => ?_)
  refine lv_iconst (v := 2) hx hb dL_law_40 (by decide) ?_
  refine lv_istore (lv' := [(4, .int 2), (3, .ref h9), (2, .ref h7), (1, .ref h6), (0, .ref b)]) hx hb dL_law_41 hl (by decide) rfl (fun ls hl => ?_)
  refine W.widen (k := 100000) (n := 1000000) (Nat.le_of_ble_eq_true rfl) (Nat.le_of_ble_eq_true rfl) ?_
  have hw2 := hw.sub (ws' := CW (fun i => if i = 0 then h6 else if i = 1 then u6 0 else if i = 2 then u6 1 else if i = 3 then u6 2 else if i = 4 then u6 3 else if i = 5 then u6 4 else if i = 6 then u6 5 else if i = 7 then u6 6 else if i = 8 then u6 7 else if i = 9 then u6 15 else if i = 10 then u6 16 else if i = 11 then u6 17 else if i = 12 then u6 18 else if i = 13 then u6 19 else if i = 14 then u6 8 else if i = 15 then u6 9 else if i = 16 then u6 10 else if i = 17 then u6 11 else if i = 18 then u6 12 else if i = 19 then u6 13 else if i = 20 then u6 14 else if i = 21 then u6 20 else if i = 22 then u6 21 else if i = 23 then u6 22 else if i = 24 then u6 23 else if i = 25 then u6 24 else if i = 26 then u6 25 else if i = 27 then u6 26 else if i = 28 then u6 27 else h9) k (sC0 (jmax 1 (jmin 5 (cv xs L 0))) (jmax 1 (jmin 5 (cv xs L 1))) z) ++ MW (fun i => if i = 0 then h7 else if i = 1 then u7 0 else if i = 2 then u7 1 else if i = 3 then u7 2 else if i = 4 then u7 3 else if i = 5 then u7 4 else if i = 6 then u7 5 else if i = 7 then u7 6 else if i = 8 then u7 7 else if i = 9 then u7 8 else if i = 10 then u7 9 else if i = 11 then u7 10 else if i = 12 then u7 11 else if i = 13 then u7 12 else if i = 14 then u7 13 else if i = 15 then u7 14 else if i = 16 then u7 15 else if i = 17 then u7 16 else if i = 18 then u7 17 else if i = 19 then u7 18 else u7 19) k (sM0 (jclamp (cv xs L 0)) (jclamp (cv xs L 1)))) [0, 1, 2, 3, 4, 5, 6, 7, 8, 16, 17, 18, 19, 20, 9, 10, 11, 12, 13, 14, 15, 21, 22, 23, 24, 25, 26, 27, 28, 50, 29, 30, 31, 32, 33, 34, 35, 36, 37, 38, 39, 40, 41, 42, 43, 44, 45, 46, 47, 48, 49] (by decide +kernel) rfl
  exact w_loop hC hst hz hX hbl N n _ _ 2 100000 1000000 _ _ ls (by omega) (by omega) hlaw hw2 (lv_sub hl [4, 3, 2, 1, 0] rfl)

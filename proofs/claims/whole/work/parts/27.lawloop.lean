def rs (xs : Nat → Int32) (i : Int32) : Int32 := xs i.toNatClampNeg
section LawScript
variable {p : Program} {l : Launch} {e : Env} {R : Room} {s : State} {m : MethodId} {args : Array Value} {below : List Frame} {meth : Method} {c : Code} {H : Heap} {locs : List Loc} {cells slots mc ms : Nat} {Q : State → Prop}
variable {D : va_G} {ws wc wc' wm wm' : va_W} {k : cK} {A : Nat → Prop} {H0 : Heap} {pc nL b L : Nat} {xs : Nat → Int32} {ls : Array Slot} {rest st0 : List Value} {cc : ByteArray} {own : String} {ret9 : Option FieldType}
theorem o_sld (hC : Cx p s m meth c cc own nL ret9) (hX : va_X b L xs s H0) (hbl : b < H0.size) (hbA : ¬ A b) (hw : WH D ws k A s H0 H locs) {i : Int32} (hin : vp_in i L) (hdg : decode cc pc = .ok (.iaload, 1))
    (kk : W p l e R s m args below meth c H locs cells slots Q (F0 m (pc + 1) ls (.int (rs xs i) :: rest))) : W p l e R s m args below meth c H locs cells slots Q (F0 m pc ls (.int i :: .ref b :: rest)) :=
  va_sld hC.1 hC.2.1 hX hbl hbA hw.2.2.2.1 hin hdg kk
theorem o_slen (hC : Cx p s m meth c cc own nL ret9) (hX : va_X b L xs s H0) (hbl : b < H0.size) (hbA : ¬ A b) (hw : WH D ws k A s H0 H locs) (hdg : decode cc pc = .ok (.arraylength, 1))
    (kk : W p l e R s m args below meth c H locs cells slots Q (F0 m (pc + 1) ls (.int (nI L) :: rest))) : W p l e R s m args below meth c H locs cells slots Q (F0 m pc ls (.ref b :: rest)) :=
  va_slen hC.1 hC.2.1 hX hbl hbA hw.2.2.2.1 hdg kk
theorem go_Li {r : Int32} {a : Array Value} (hr : va_Run p l e R s m args below meth c H locs cells slots mc ms (F0 m pc ls st0) rest (QR D wc wc' (some (.int r)) a) (AQ wc)) (hw : WH D (wc ++ wm) k A s H0 H locs)
    (kk : ∀ (H1 : Heap) (locs1 : List Loc), WH D (wc' ++ wm) k A s H0 H1 locs1 → W p l e R s m args below meth c H1 locs1 (cells + mc) (slots + ms) Q (F0 m (pc + 3) ls (.int r :: rest))) :
    W p l e R s m args below meth c H locs cells slots Q (F0 m pc ls st0) := go_L hr hw kk
theorem go_Ri {r : Int32} {a : Array Value} (hr : va_Run p l e R s m args below meth c H locs cells slots mc ms (F0 m pc ls st0) rest (QR D wm wm' (some (.int r)) a) (AQ wm)) (hw : WH D (wc ++ wm) k A s H0 H locs)
    (kk : ∀ (H1 : Heap) (locs1 : List Loc), WH D (wc ++ wm') k A s H0 H1 locs1 → W p l e R s m args below meth c H1 locs1 (cells + mc) (slots + ms) Q (F0 m (pc + 3) ls (.int r :: rest))) :
    W p l e R s m args below meth c H locs cells slots Q (F0 m pc ls st0) := go_R hr hw kk
end LawScript
/-! the law, call 0 -/
def g_law_0 (N : Nat) (xs : Nat → Int32) (L : Nat) (σ τ : St) (i : Int32) (K : St → St → Option Int32) : Option Int32 :=
  gd (okx (i + (1 : Int32)) L) (gd (okx (i + (2 : Int32)) L) (gd (okx (i + (3 : Int32)) L) (if (rs xs (i + (3 : Int32))) = 0 then (bd (f_L_wall N σ (rs xs (i + (1 : Int32))) (rs xs (i + (2 : Int32))) (0 : Int32)) (fun r1 σ2 => gd (okx (i + (1 : Int32)) L) (gd (okx (i + (2 : Int32)) L) (gd (okx (i + (3 : Int32)) L) (if (rs xs (i + (3 : Int32))) = 0 then (bd (f_X7_wall N τ (rs xs (i + (1 : Int32))) (rs xs (i + (2 : Int32))) (0 : Int32)) (fun r3 τ4 => bd1 (f_X7_thrown N τ4) (fun r5 => if r5 = r1 then (if r1 = 0 then (gd (okx (0 : Int32) 1) (if r3 = 0 then (if (lg_cmp (rl σ2 3 (0 : Int32)) (0 : Int64)) = 0 then (K σ2 τ4) else (some 0)) else (if (lg_cmp (rl σ2 3 (0 : Int32)) (1 : Int64)) = 0 then (K σ2 τ4) else (some 0)))) else (K σ2 τ4)) else (some 0)))) else (bd (f_X7_wall N τ (rs xs (i + (1 : Int32))) (rs xs (i + (2 : Int32))) (1 : Int32)) (fun r6 τ7 => bd1 (f_X7_thrown N τ7) (fun r8 => if r8 = r1 then (if r1 = 0 then (gd (okx (0 : Int32) 1) (if r6 = 0 then (if (lg_cmp (rl σ2 3 (0 : Int32)) (0 : Int64)) = 0 then (K σ2 τ7) else (some 0)) else (if (lg_cmp (rl σ2 3 (0 : Int32)) (1 : Int64)) = 0 then (K σ2 τ7) else (some 0)))) else (K σ2 τ7)) else (some 0))))))))) else (bd (f_L_wall N σ (rs xs (i + (1 : Int32))) (rs xs (i + (2 : Int32))) (1 : Int32)) (fun r9 σ10 => gd (okx (i + (1 : Int32)) L) (gd (okx (i + (2 : Int32)) L) (gd (okx (i + (3 : Int32)) L) (if (rs xs (i + (3 : Int32))) = 0 then (bd (f_X7_wall N τ (rs xs (i + (1 : Int32))) (rs xs (i + (2 : Int32))) (0 : Int32)) (fun r11 τ12 => bd1 (f_X7_thrown N τ12) (fun r13 => if r13 = r9 then (if r9 = 0 then (gd (okx (0 : Int32) 1) (if r11 = 0 then (if (lg_cmp (rl σ10 3 (0 : Int32)) (0 : Int64)) = 0 then (K σ10 τ12) else (some 0)) else (if (lg_cmp (rl σ10 3 (0 : Int32)) (1 : Int64)) = 0 then (K σ10 τ12) else (some 0)))) else (K σ10 τ12)) else (some 0)))) else (bd (f_X7_wall N τ (rs xs (i + (1 : Int32))) (rs xs (i + (2 : Int32))) (1 : Int32)) (fun r14 τ15 => bd1 (f_X7_thrown N τ15) (fun r16 => if r16 = r9 then (if r9 = 0 then (gd (okx (0 : Int32) 1) (if r14 = 0 then (if (lg_cmp (rl σ10 3 (0 : Int32)) (0 : Int64)) = 0 then (K σ10 τ15) else (some 0)) else (if (lg_cmp (rl σ10 3 (0 : Int32)) (1 : Int64)) = 0 then (K σ10 τ15) else (some 0)))) else (K σ10 τ15)) else (some 0))))))))))))
set_option maxRecDepth 100000 in
set_option maxHeartbeats 4000000 in
theorem w_law_0 {p : Program} {l : Launch} {e : Env} {s : State} {m : MethodId} {below : List Frame} {meth : Method} {c : Code} {D : va_G} {q u : Nat → Nat} {k : cK} {sa : Nat → Nat} {b L : Nat} {xs : Nat → Int32} (hC : Cx p s m meth c cL_law RL 7 ret) (hst : l.stackTraces = false) (hz : XPm (fun a => s.heap.size ≤ a) sa s s.heap) (hX : va_X b L xs s s.heap) (hbl : b < s.heap.size) (N : Nat) (i : Int32) (K : St → St → Option Int32) {cells slots : Nat} (hcs : cells + 1 ≤ 601024 ∧ slots + 6 ≤ 7293000)
    (hK : ∀ (σ τ : St) (H : Heap) (locs : List Loc) (ls : Array Slot), K σ τ = some 1 → WH D (CW q k σ ++ MW u k τ) k (fun a => s.heap.size ≤ a) s s.heap H locs → lv_has ls 7 [(0, .ref b), (1, .ref (q 0)), (2, .ref (u 0)), (3, .ref (q 29)), (4, .int i)] → W p l e room_1 s m #[Value.ref b] below meth c H locs (cells + 1) (slots + 6) (lw_Z below #[Value.ref b] s) (F0 m 1179 ls [])) :
    ∀ (σ τ : St) (H : Heap) (locs : List Loc) (ls : Array Slot), g_law_0 N xs L σ τ i K = some 1 → WH D (CW q k σ ++ MW u k τ) k (fun a => s.heap.size ≤ a) s s.heap H locs → lv_has ls 7 [(0, .ref b), (1, .ref (q 0)), (2, .ref (u 0)), (3, .ref (q 29)), (4, .int i)] → W p l e room_1 s m #[Value.ref b] below meth c H locs cells slots (lw_Z below #[Value.ref b] s) (F0 m 164 ls []) := by
  intro σ τ H locs ls h hw hl
  have hx := hC.1
  have hb := hC.2.1
  have hbA : ¬ (fun a : Nat => s.heap.size ≤ a) b := Nat.not_le.mpr hbl
  have hf0 : cells ≤ room_1.cells ∧ slots ≤ room_1.slots := ⟨Nat.le_trans (Nat.le_succ _) hcs.1, Nat.le_trans (Nat.le_add_right _ 6) hcs.2⟩
  have hf1 : cells + 1 ≤ room_1.cells ∧ slots + 6 ≤ room_1.slots := hcs
  unfold g_law_0 at h
  refine lv_aload_n hx hb dL_law_164 rfl (lv_at hl 1 rfl) ?_
  refine lv_aload_n hx hb dL_law_165 rfl (lv_at hl 0 rfl) ?_
  refine lv_iload hx hb dL_law_166 (lv_at hl 4 rfl) ?_
  refine lv_iconst (v := 1) hx hb dL_law_168 (by decide) ?_
  refine lv_iadd hx hb dL_law_169 ?_
  obtain ⟨hin, h⟩ := gd_o h
  refine o_sld hC hX hbl hbA hw hin dL_law_170 ?_
  refine lv_aload_n hx hb dL_law_171 rfl (lv_at hl 0 rfl) ?_
  refine lv_iload hx hb dL_law_172 (lv_at hl 4 rfl) ?_
  refine lv_iconst (v := 2) hx hb dL_law_174 (by decide) ?_
  refine lv_iadd hx hb dL_law_175 ?_
  obtain ⟨hin, h⟩ := gd_o h
  refine o_sld hC hX hbl hbA hw hin dL_law_176 ?_
  refine lv_aload_n hx hb dL_law_177 rfl (lv_at hl 0 rfl) ?_
  refine lv_iload hx hb dL_law_178 (lv_at hl 4 rfl) ?_
  refine lv_iconst (v := 3) hx hb dL_law_180 (by decide) ?_
  refine lv_iadd hx hb dL_law_181 ?_
  obtain ⟨hin, h⟩ := gd_o h
  refine o_sld hC hX hbl hbA hw hin dL_law_182 ?_
  refine lv_if_eq (tgt := 190) hx hb dL_law_183 (by decide) (fun c => ?_) (fun c => ?_)
  · have h := if_t h c
    refine lv_iconst (v := 0) hx hb dL_law_190 (by decide) ?_
    refine lv_aload_n hx hb dL_law_191 rfl (lv_at hl 3 rfl) ?_
    obtain ⟨r1, σ2, hc, h⟩ := bd_o h
    refine go_Li (run_SW (As := [.ref (q 0), .int (rs xs (i + (1 : Int32))), .int (rs xs (i + (2 : Int32))), .int (0 : Int32), .ref (q 29)]) (rest := []) hC hw.left hz (c_L_wall l hst D q k sa N σ (rs xs (i + (1 : Int32))) (rs xs (i + (2 : Int32))) (0 : Int32) r1 σ2 hc) kw_555 kw_558 kw_556 kw_557 hd_L_wall ⟨rfl, rfl⟩ ⟨Nat.le_of_ble_eq_true rfl, Nat.le_of_ble_eq_true rfl⟩ rfl hl.1 rfl (Nat.le_of_ble_eq_true rfl) dL_law_192 hf1) hw (fun H locs hw => ?_)
    refine lv_istore (lv' := [(5, .int r1), (0, .ref b), (1, .ref (q 0)), (2, .ref (u 0)), (3, .ref (q 29)), (4, .int i)]) hx hb dL_law_195 hl (by decide) rfl (fun ls hl => ?_)
    refine lv_aload_n hx hb dL_law_197 rfl (lv_at hl 3 rfl) ?_
    refine lv_aload_n hx hb dL_law_198 rfl (lv_at hl 1 rfl) ?_
    refine lv_iload hx hb dL_law_199 (lv_at hl 5 rfl) ?_
    refine lv_iconst (v := 1) hx hb dL_law_201 (by decide) ?_
    refine lv_iadd hx hb dL_law_202 ?_
    obtain ⟨hin, h⟩ := gd_o h
    refine o_sld hC hX hbl hbA hw hin dL_law_203 ?_
    refine lv_aload_n hx hb dL_law_204 rfl (lv_at hl 1 rfl) ?_
    refine lv_iload hx hb dL_law_205 (lv_at hl 5 rfl) ?_
    refine lv_iconst (v := 2) hx hb dL_law_207 (by decide) ?_
    refine lv_iadd hx hb dL_law_208 ?_
    obtain ⟨hin, h⟩ := gd_o h
    refine o_sld hC hX hbl hbA hw hin dL_law_209 ?_
    refine lv_aload_n hx hb dL_law_210 rfl (lv_at hl 1 rfl) ?_
    refine lv_iload hx hb dL_law_211 (lv_at hl 5 rfl) ?_
    refine lv_iconst (v := 3) hx hb dL_law_213 (by decide) ?_
    refine lv_iadd hx hb dL_law_214 ?_
    obtain ⟨hin, h⟩ := gd_o h
    refine o_sld hC hX hbl hbA hw hin dL_law_215 ?_
    refine lv_if_eq (tgt := 223) hx hb dL_law_216 (by decide) (fun c => ?_) (fun c => ?_)
    · have h := if_t h c
      refine lv_iconst (v := 0) hx hb dL_law_223 (by decide) ?_
      obtain ⟨r3, τ4, hc, h⟩ := bd_o h
      refine go_Ri (mc := 0) (ms := 0) (run_V (As := [.int (rs xs (i + (1 : Int32))), .int (rs xs (i + (2 : Int32))), .int (0 : Int32)]) (rest := []) hC hw.right (c_X7_wall l D u k N τ (rs xs (i + (1 : Int32))) (rs xs (i + (2 : Int32))) (0 : Int32) r3 τ4 hc) kw_559 kw_560 kw_561 kw_246 kw_562 hd_X7_wall ⟨rfl, rfl⟩ ⟨Nat.le_of_ble_eq_true rfl, Nat.le_of_ble_eq_true rfl⟩ 0 rfl rfl rfl hl.1 rfl (Nat.le_of_ble_eq_true rfl) dL_law_224 hf1) hw (fun H locs hw => ?_)
      refine lv_istore (lv' := [(6, .int r3), (5, .int r1), (0, .ref b), (1, .ref (q 0)), (2, .ref (u 0)), (3, .ref (q 29)), (4, .int i)]) hx hb dL_law_227 hl (by decide) rfl (fun ls hl => ?_)
      refine lv_aload_n hx hb dL_law_229 rfl (lv_at hl 4 rfl) ?_
      obtain ⟨r5, hc, h⟩ := bd1_o h
      refine go_Ri (mc := 0) (ms := 0) (run_V (As := []) (rest := []) hC hw.right (c_X7_thrown l D u k N τ4 r5 hc) kw_563 kw_564 kw_565 kw_246 kw_566 hd_X7_thrown ⟨rfl, rfl⟩ ⟨Nat.le_of_ble_eq_true rfl, Nat.le_of_ble_eq_true rfl⟩ 0 rfl rfl rfl hl.1 rfl (Nat.le_of_ble_eq_true rfl) dL_law_230 hf1) hw (fun H locs hw => ?_)
      refine lv_iload hx hb dL_law_233 (lv_at hl 1 rfl) ?_
      refine lv_icmp_eq (tgt := 240) hx hb dL_law_235 (by decide) (fun c => ?_) (fun c => ?_)
      · have h := if_t h c
        refine lv_iload hx hb dL_law_240 (lv_at hl 1 rfl) ?_
        refine lv_if_ne (tgt := 264) hx hb dL_law_242 (by decide) (fun c => ?_) (fun c => ?_)
        · have h := if_f h c
          refine lv_goto (tgt := 1179) hx hb dL_law_264 (by decide) ?_
          refine W.widen (k := cells + 1) (n := slots + 6) (by omega) (by omega) ?_
          exact hK σ2 τ4 _ _ ls h hw (lv_sub hl [2, 3, 4, 5, 6] rfl)
        · have h := if_t h c
          refine lv_aload_n hx hb dL_law_245 rfl (lv_at hl 5 rfl) ?_
          refine lv_iconst (v := 0) hx hb dL_law_246 (by decide) ?_
          obtain ⟨hin, h⟩ := gd_o h
          refine C_ld29 hC hw.left hin dL_law_247 ?_
          refine lv_iload hx hb dL_law_248 (lv_at hl 0 rfl) ?_
          refine lv_if_eq (tgt := 257) hx hb dL_law_250 (by decide) (fun c => ?_) (fun c => ?_)
          · have h := if_t h c
            refine lv_lconst (v := 0) hx hb dL_law_257 (by decide) ?_
            refine W.lcmp hx hb dL_law_258 ?_
            refine lv_if_eq (tgt := 264) hx hb dL_law_259 (by decide) (fun c => ?_) (fun c => ?_)
            · have h := if_t h c
              refine lv_goto (tgt := 1179) hx hb dL_law_264 (by decide) ?_
              refine W.widen (k := cells + 1) (n := slots + 6) (by omega) (by omega) ?_
              exact hK σ2 τ4 _ _ ls h hw (lv_sub hl [2, 3, 4, 5, 6] rfl)
            · have h := if_f h c
              exact absurd (Option.some.inj h) (by decide)
          · have h := if_f h c
            refine lv_lconst (v := 1) hx hb dL_law_253 (by decide) ?_
            refine lv_goto (tgt := 258) hx hb dL_law_254 (by decide) ?_
            refine W.lcmp hx hb dL_law_258 ?_
            refine lv_if_eq (tgt := 264) hx hb dL_law_259 (by decide) (fun c => ?_) (fun c => ?_)
            · have h := if_t h c
              refine lv_goto (tgt := 1179) hx hb dL_law_264 (by decide) ?_
              refine W.widen (k := cells + 1) (n := slots + 6) (by omega) (by omega) ?_
              exact hK σ2 τ4 _ _ ls h hw (lv_sub hl [2, 3, 4, 5, 6] rfl)
            · have h := if_f h c
              exact absurd (Option.some.inj h) (by decide)
      · have h := if_f h c
        exact absurd (Option.some.inj h) (by decide)
    · have h := if_f h c
      refine lv_iconst (v := 1) hx hb dL_law_219 (by decide) ?_
      refine lv_goto (tgt := 224) hx hb dL_law_220 (by decide) ?_
      obtain ⟨r6, τ7, hc, h⟩ := bd_o h
      refine go_Ri (mc := 0) (ms := 0) (run_V (As := [.int (rs xs (i + (1 : Int32))), .int (rs xs (i + (2 : Int32))), .int (1 : Int32)]) (rest := []) hC hw.right (c_X7_wall l D u k N τ (rs xs (i + (1 : Int32))) (rs xs (i + (2 : Int32))) (1 : Int32) r6 τ7 hc) kw_559 kw_560 kw_561 kw_246 kw_562 hd_X7_wall ⟨rfl, rfl⟩ ⟨Nat.le_of_ble_eq_true rfl, Nat.le_of_ble_eq_true rfl⟩ 0 rfl rfl rfl hl.1 rfl (Nat.le_of_ble_eq_true rfl) dL_law_224 hf1) hw (fun H locs hw => ?_)
      refine lv_istore (lv' := [(6, .int r6), (5, .int r1), (0, .ref b), (1, .ref (q 0)), (2, .ref (u 0)), (3, .ref (q 29)), (4, .int i)]) hx hb dL_law_227 hl (by decide) rfl (fun ls hl => ?_)
      refine lv_aload_n hx hb dL_law_229 rfl (lv_at hl 4 rfl) ?_
      obtain ⟨r8, hc, h⟩ := bd1_o h
      refine go_Ri (mc := 0) (ms := 0) (run_V (As := []) (rest := []) hC hw.right (c_X7_thrown l D u k N τ7 r8 hc) kw_563 kw_564 kw_565 kw_246 kw_566 hd_X7_thrown ⟨rfl, rfl⟩ ⟨Nat.le_of_ble_eq_true rfl, Nat.le_of_ble_eq_true rfl⟩ 0 rfl rfl rfl hl.1 rfl (Nat.le_of_ble_eq_true rfl) dL_law_230 hf1) hw (fun H locs hw => ?_)
      refine lv_iload hx hb dL_law_233 (lv_at hl 1 rfl) ?_
      refine lv_icmp_eq (tgt := 240) hx hb dL_law_235 (by decide) (fun c => ?_) (fun c => ?_)
      · have h := if_t h c
        refine lv_iload hx hb dL_law_240 (lv_at hl 1 rfl) ?_
        refine lv_if_ne (tgt := 264) hx hb dL_law_242 (by decide) (fun c => ?_) (fun c => ?_)
        · have h := if_f h c
          refine lv_goto (tgt := 1179) hx hb dL_law_264 (by decide) ?_
          refine W.widen (k := cells + 1) (n := slots + 6) (by omega) (by omega) ?_
          exact hK σ2 τ7 _ _ ls h hw (lv_sub hl [2, 3, 4, 5, 6] rfl)
        · have h := if_t h c
          refine lv_aload_n hx hb dL_law_245 rfl (lv_at hl 5 rfl) ?_
          refine lv_iconst (v := 0) hx hb dL_law_246 (by decide) ?_
          obtain ⟨hin, h⟩ := gd_o h
          refine C_ld29 hC hw.left hin dL_law_247 ?_
          refine lv_iload hx hb dL_law_248 (lv_at hl 0 rfl) ?_
          refine lv_if_eq (tgt := 257) hx hb dL_law_250 (by decide) (fun c => ?_) (fun c => ?_)
          · have h := if_t h c
            refine lv_lconst (v := 0) hx hb dL_law_257 (by decide) ?_
            refine W.lcmp hx hb dL_law_258 ?_
            refine lv_if_eq (tgt := 264) hx hb dL_law_259 (by decide) (fun c => ?_) (fun c => ?_)
            · have h := if_t h c
              refine lv_goto (tgt := 1179) hx hb dL_law_264 (by decide) ?_
              refine W.widen (k := cells + 1) (n := slots + 6) (by omega) (by omega) ?_
              exact hK σ2 τ7 _ _ ls h hw (lv_sub hl [2, 3, 4, 5, 6] rfl)
            · have h := if_f h c
              exact absurd (Option.some.inj h) (by decide)
          · have h := if_f h c
            refine lv_lconst (v := 1) hx hb dL_law_253 (by decide) ?_
            refine lv_goto (tgt := 258) hx hb dL_law_254 (by decide) ?_
            refine W.lcmp hx hb dL_law_258 ?_
            refine lv_if_eq (tgt := 264) hx hb dL_law_259 (by decide) (fun c => ?_) (fun c => ?_)
            · have h := if_t h c
              refine lv_goto (tgt := 1179) hx hb dL_law_264 (by decide) ?_
              refine W.widen (k := cells + 1) (n := slots + 6) (by omega) (by omega) ?_
              exact hK σ2 τ7 _ _ ls h hw (lv_sub hl [2, 3, 4, 5, 6] rfl)
            · have h := if_f h c
              exact absurd (Option.some.inj h) (by decide)
      · have h := if_f h c
        exact absurd (Option.some.inj h) (by decide)
  · have h := if_f h c
    refine lv_iconst (v := 1) hx hb dL_law_186 (by decide) ?_
    refine lv_goto (tgt := 191) hx hb dL_law_187 (by decide) ?_
    refine lv_aload_n hx hb dL_law_191 rfl (lv_at hl 3 rfl) ?_
    obtain ⟨r9, σ10, hc, h⟩ := bd_o h
    refine go_Li (run_SW (As := [.ref (q 0), .int (rs xs (i + (1 : Int32))), .int (rs xs (i + (2 : Int32))), .int (1 : Int32), .ref (q 29)]) (rest := []) hC hw.left hz (c_L_wall l hst D q k sa N σ (rs xs (i + (1 : Int32))) (rs xs (i + (2 : Int32))) (1 : Int32) r9 σ10 hc) kw_555 kw_558 kw_556 kw_557 hd_L_wall ⟨rfl, rfl⟩ ⟨Nat.le_of_ble_eq_true rfl, Nat.le_of_ble_eq_true rfl⟩ rfl hl.1 rfl (Nat.le_of_ble_eq_true rfl) dL_law_192 hf1) hw (fun H locs hw => ?_)
    refine lv_istore (lv' := [(5, .int r9), (0, .ref b), (1, .ref (q 0)), (2, .ref (u 0)), (3, .ref (q 29)), (4, .int i)]) hx hb dL_law_195 hl (by decide) rfl (fun ls hl => ?_)
    refine lv_aload_n hx hb dL_law_197 rfl (lv_at hl 3 rfl) ?_
    refine lv_aload_n hx hb dL_law_198 rfl (lv_at hl 1 rfl) ?_
    refine lv_iload hx hb dL_law_199 (lv_at hl 5 rfl) ?_
    refine lv_iconst (v := 1) hx hb dL_law_201 (by decide) ?_
    refine lv_iadd hx hb dL_law_202 ?_
    obtain ⟨hin, h⟩ := gd_o h
    refine o_sld hC hX hbl hbA hw hin dL_law_203 ?_
    refine lv_aload_n hx hb dL_law_204 rfl (lv_at hl 1 rfl) ?_
    refine lv_iload hx hb dL_law_205 (lv_at hl 5 rfl) ?_
    refine lv_iconst (v := 2) hx hb dL_law_207 (by decide) ?_
    refine lv_iadd hx hb dL_law_208 ?_
    obtain ⟨hin, h⟩ := gd_o h
    refine o_sld hC hX hbl hbA hw hin dL_law_209 ?_
    refine lv_aload_n hx hb dL_law_210 rfl (lv_at hl 1 rfl) ?_
    refine lv_iload hx hb dL_law_211 (lv_at hl 5 rfl) ?_
    refine lv_iconst (v := 3) hx hb dL_law_213 (by decide) ?_
    refine lv_iadd hx hb dL_law_214 ?_
    obtain ⟨hin, h⟩ := gd_o h
    refine o_sld hC hX hbl hbA hw hin dL_law_215 ?_
    refine lv_if_eq (tgt := 223) hx hb dL_law_216 (by decide) (fun c => ?_) (fun c => ?_)
    · have h := if_t h c
      refine lv_iconst (v := 0) hx hb dL_law_223 (by decide) ?_
      obtain ⟨r11, τ12, hc, h⟩ := bd_o h
      refine go_Ri (mc := 0) (ms := 0) (run_V (As := [.int (rs xs (i + (1 : Int32))), .int (rs xs (i + (2 : Int32))), .int (0 : Int32)]) (rest := []) hC hw.right (c_X7_wall l D u k N τ (rs xs (i + (1 : Int32))) (rs xs (i + (2 : Int32))) (0 : Int32) r11 τ12 hc) kw_559 kw_560 kw_561 kw_246 kw_562 hd_X7_wall ⟨rfl, rfl⟩ ⟨Nat.le_of_ble_eq_true rfl, Nat.le_of_ble_eq_true rfl⟩ 0 rfl rfl rfl hl.1 rfl (Nat.le_of_ble_eq_true rfl) dL_law_224 hf1) hw (fun H locs hw => ?_)
      refine lv_istore (lv' := [(6, .int r11), (5, .int r9), (0, .ref b), (1, .ref (q 0)), (2, .ref (u 0)), (3, .ref (q 29)), (4, .int i)]) hx hb dL_law_227 hl (by decide) rfl (fun ls hl => ?_)
      refine lv_aload_n hx hb dL_law_229 rfl (lv_at hl 4 rfl) ?_
      obtain ⟨r13, hc, h⟩ := bd1_o h
      refine go_Ri (mc := 0) (ms := 0) (run_V (As := []) (rest := []) hC hw.right (c_X7_thrown l D u k N τ12 r13 hc) kw_563 kw_564 kw_565 kw_246 kw_566 hd_X7_thrown ⟨rfl, rfl⟩ ⟨Nat.le_of_ble_eq_true rfl, Nat.le_of_ble_eq_true rfl⟩ 0 rfl rfl rfl hl.1 rfl (Nat.le_of_ble_eq_true rfl) dL_law_230 hf1) hw (fun H locs hw => ?_)
      refine lv_iload hx hb dL_law_233 (lv_at hl 1 rfl) ?_
      refine lv_icmp_eq (tgt := 240) hx hb dL_law_235 (by decide) (fun c => ?_) (fun c => ?_)
      · have h := if_t h c
        refine lv_iload hx hb dL_law_240 (lv_at hl 1 rfl) ?_
        refine lv_if_ne (tgt := 264) hx hb dL_law_242 (by decide) (fun c => ?_) (fun c => ?_)
        · have h := if_f h c
          refine lv_goto (tgt := 1179) hx hb dL_law_264 (by decide) ?_
          refine W.widen (k := cells + 1) (n := slots + 6) (by omega) (by omega) ?_
          exact hK σ10 τ12 _ _ ls h hw (lv_sub hl [2, 3, 4, 5, 6] rfl)
        · have h := if_t h c
          refine lv_aload_n hx hb dL_law_245 rfl (lv_at hl 5 rfl) ?_
          refine lv_iconst (v := 0) hx hb dL_law_246 (by decide) ?_
          obtain ⟨hin, h⟩ := gd_o h
          refine C_ld29 hC hw.left hin dL_law_247 ?_
          refine lv_iload hx hb dL_law_248 (lv_at hl 0 rfl) ?_
          refine lv_if_eq (tgt := 257) hx hb dL_law_250 (by decide) (fun c => ?_) (fun c => ?_)
          · have h := if_t h c
            refine lv_lconst (v := 0) hx hb dL_law_257 (by decide) ?_
            refine W.lcmp hx hb dL_law_258 ?_
            refine lv_if_eq (tgt := 264) hx hb dL_law_259 (by decide) (fun c => ?_) (fun c => ?_)
            · have h := if_t h c
              refine lv_goto (tgt := 1179) hx hb dL_law_264 (by decide) ?_
              refine W.widen (k := cells + 1) (n := slots + 6) (by omega) (by omega) ?_
              exact hK σ10 τ12 _ _ ls h hw (lv_sub hl [2, 3, 4, 5, 6] rfl)
            · have h := if_f h c
              exact absurd (Option.some.inj h) (by decide)
          · have h := if_f h c
            refine lv_lconst (v := 1) hx hb dL_law_253 (by decide) ?_
            refine lv_goto (tgt := 258) hx hb dL_law_254 (by decide) ?_
            refine W.lcmp hx hb dL_law_258 ?_
            refine lv_if_eq (tgt := 264) hx hb dL_law_259 (by decide) (fun c => ?_) (fun c => ?_)
            · have h := if_t h c
              refine lv_goto (tgt := 1179) hx hb dL_law_264 (by decide) ?_
              refine W.widen (k := cells + 1) (n := slots + 6) (by omega) (by omega) ?_
              exact hK σ10 τ12 _ _ ls h hw (lv_sub hl [2, 3, 4, 5, 6] rfl)
            · have h := if_f h c
              exact absurd (Option.some.inj h) (by decide)
      · have h := if_f h c
        exact absurd (Option.some.inj h) (by decide)
    · have h := if_f h c
      refine lv_iconst (v := 1) hx hb dL_law_219 (by decide) ?_
      refine lv_goto (tgt := 224) hx hb dL_law_220 (by decide) ?_
      obtain ⟨r14, τ15, hc, h⟩ := bd_o h
      refine go_Ri (mc := 0) (ms := 0) (run_V (As := [.int (rs xs (i + (1 : Int32))), .int (rs xs (i + (2 : Int32))), .int (1 : Int32)]) (rest := []) hC hw.right (c_X7_wall l D u k N τ (rs xs (i + (1 : Int32))) (rs xs (i + (2 : Int32))) (1 : Int32) r14 τ15 hc) kw_559 kw_560 kw_561 kw_246 kw_562 hd_X7_wall ⟨rfl, rfl⟩ ⟨Nat.le_of_ble_eq_true rfl, Nat.le_of_ble_eq_true rfl⟩ 0 rfl rfl rfl hl.1 rfl (Nat.le_of_ble_eq_true rfl) dL_law_224 hf1) hw (fun H locs hw => ?_)
      refine lv_istore (lv' := [(6, .int r14), (5, .int r9), (0, .ref b), (1, .ref (q 0)), (2, .ref (u 0)), (3, .ref (q 29)), (4, .int i)]) hx hb dL_law_227 hl (by decide) rfl (fun ls hl => ?_)
      refine lv_aload_n hx hb dL_law_229 rfl (lv_at hl 4 rfl) ?_
      obtain ⟨r16, hc, h⟩ := bd1_o h
      refine go_Ri (mc := 0) (ms := 0) (run_V (As := []) (rest := []) hC hw.right (c_X7_thrown l D u k N τ15 r16 hc) kw_563 kw_564 kw_565 kw_246 kw_566 hd_X7_thrown ⟨rfl, rfl⟩ ⟨Nat.le_of_ble_eq_true rfl, Nat.le_of_ble_eq_true rfl⟩ 0 rfl rfl rfl hl.1 rfl (Nat.le_of_ble_eq_true rfl) dL_law_230 hf1) hw (fun H locs hw => ?_)
      refine lv_iload hx hb dL_law_233 (lv_at hl 1 rfl) ?_
      refine lv_icmp_eq (tgt := 240) hx hb dL_law_235 (by decide) (fun c => ?_) (fun c => ?_)
      · have h := if_t h c
        refine lv_iload hx hb dL_law_240 (lv_at hl 1 rfl) ?_
        refine lv_if_ne (tgt := 264) hx hb dL_law_242 (by decide) (fun c => ?_) (fun c => ?_)
        · have h := if_f h c
          refine lv_goto (tgt := 1179) hx hb dL_law_264 (by decide) ?_
          refine W.widen (k := cells + 1) (n := slots + 6) (by omega) (by omega) ?_
          exact hK σ10 τ15 _ _ ls h hw (lv_sub hl [2, 3, 4, 5, 6] rfl)
        · have h := if_t h c
          refine lv_aload_n hx hb dL_law_245 rfl (lv_at hl 5 rfl) ?_
          refine lv_iconst (v := 0) hx hb dL_law_246 (by decide) ?_
          obtain ⟨hin, h⟩ := gd_o h
          refine C_ld29 hC hw.left hin dL_law_247 ?_
          refine lv_iload hx hb dL_law_248 (lv_at hl 0 rfl) ?_
          refine lv_if_eq (tgt := 257) hx hb dL_law_250 (by decide) (fun c => ?_) (fun c => ?_)
          · have h := if_t h c
            refine lv_lconst (v := 0) hx hb dL_law_257 (by decide) ?_
            refine W.lcmp hx hb dL_law_258 ?_
            refine lv_if_eq (tgt := 264) hx hb dL_law_259 (by decide) (fun c => ?_) (fun c => ?_)
            · have h := if_t h c
              refine lv_goto (tgt := 1179) hx hb dL_law_264 (by decide) ?_
              refine W.widen (k := cells + 1) (n := slots + 6) (by omega) (by omega) ?_
              exact hK σ10 τ15 _ _ ls h hw (lv_sub hl [2, 3, 4, 5, 6] rfl)
            · have h := if_f h c
              exact absurd (Option.some.inj h) (by decide)
          · have h := if_f h c
            refine lv_lconst (v := 1) hx hb dL_law_253 (by decide) ?_
            refine lv_goto (tgt := 258) hx hb dL_law_254 (by decide) ?_
            refine W.lcmp hx hb dL_law_258 ?_
            refine lv_if_eq (tgt := 264) hx hb dL_law_259 (by decide) (fun c => ?_) (fun c => ?_)
            · have h := if_t h c
              refine lv_goto (tgt := 1179) hx hb dL_law_264 (by decide) ?_
              refine W.widen (k := cells + 1) (n := slots + 6) (by omega) (by omega) ?_
              exact hK σ10 τ15 _ _ ls h hw (lv_sub hl [2, 3, 4, 5, 6] rfl)
            · have h := if_f h c
              exact absurd (Option.some.inj h) (by decide)
      · have h := if_f h c
        exact absurd (Option.some.inj h) (by decide)
/-! the law, call 1 -/
def g_law_1 (N : Nat) (xs : Nat → Int32) (L : Nat) (σ τ : St) (i : Int32) (K : St → St → Option Int32) : Option Int32 :=
  gd (okx (i + (1 : Int32)) L) (bd (f_L_block N σ (rs xs (i + (1 : Int32)))) (fun r1 σ2 => gd (okx (i + (1 : Int32)) L) (bd (f_X7_block N τ (rs xs (i + (1 : Int32)))) (fun r3 τ4 => bd1 (f_X7_thrown N τ4) (fun r5 => if r5 = r1 then (if r1 = 0 then (gd (okx (0 : Int32) 1) (if (lg_cmp (rl σ2 3 (0 : Int32)) (Int32.toInt64 r3)) = 0 then (K σ2 τ4) else (some 0))) else (K σ2 τ4)) else (some 0))))))
set_option maxRecDepth 100000 in
set_option maxHeartbeats 4000000 in
theorem w_law_1 {p : Program} {l : Launch} {e : Env} {s : State} {m : MethodId} {below : List Frame} {meth : Method} {c : Code} {D : va_G} {q u : Nat → Nat} {k : cK} {sa : Nat → Nat} {b L : Nat} {xs : Nat → Int32} (hC : Cx p s m meth c cL_law RL 7 ret) (hst : l.stackTraces = false) (hz : XPm (fun a => s.heap.size ≤ a) sa s s.heap) (hX : va_X b L xs s s.heap) (hbl : b < s.heap.size) (N : Nat) (i : Int32) (K : St → St → Option Int32) {cells slots : Nat} (hcs : cells + 1 ≤ 601024 ∧ slots + 6 ≤ 7293000)
    (hK : ∀ (σ τ : St) (H : Heap) (locs : List Loc) (ls : Array Slot), K σ τ = some 1 → WH D (CW q k σ ++ MW u k τ) k (fun a => s.heap.size ≤ a) s s.heap H locs → lv_has ls 7 [(0, .ref b), (1, .ref (q 0)), (2, .ref (u 0)), (3, .ref (q 29)), (4, .int i)] → W p l e room_1 s m #[Value.ref b] below meth c H locs (cells + 1) (slots + 6) (lw_Z below #[Value.ref b] s) (F0 m 1179 ls [])) :
    ∀ (σ τ : St) (H : Heap) (locs : List Loc) (ls : Array Slot), g_law_1 N xs L σ τ i K = some 1 → WH D (CW q k σ ++ MW u k τ) k (fun a => s.heap.size ≤ a) s s.heap H locs → lv_has ls 7 [(0, .ref b), (1, .ref (q 0)), (2, .ref (u 0)), (3, .ref (q 29)), (4, .int i)] → W p l e room_1 s m #[Value.ref b] below meth c H locs cells slots (lw_Z below #[Value.ref b] s) (F0 m 267 ls []) := by
  intro σ τ H locs ls h hw hl
  have hx := hC.1
  have hb := hC.2.1
  have hbA : ¬ (fun a : Nat => s.heap.size ≤ a) b := Nat.not_le.mpr hbl
  have hf0 : cells ≤ room_1.cells ∧ slots ≤ room_1.slots := ⟨Nat.le_trans (Nat.le_succ _) hcs.1, Nat.le_trans (Nat.le_add_right _ 6) hcs.2⟩
  have hf1 : cells + 1 ≤ room_1.cells ∧ slots + 6 ≤ room_1.slots := hcs
  unfold g_law_1 at h
  refine lv_aload_n hx hb dL_law_267 rfl (lv_at hl 1 rfl) ?_
  refine lv_aload_n hx hb dL_law_268 rfl (lv_at hl 0 rfl) ?_
  refine lv_iload hx hb dL_law_269 (lv_at hl 4 rfl) ?_
  refine lv_iconst (v := 1) hx hb dL_law_271 (by decide) ?_
  refine lv_iadd hx hb dL_law_272 ?_
  obtain ⟨hin, h⟩ := gd_o h
  refine o_sld hC hX hbl hbA hw hin dL_law_273 ?_
  refine lv_aload_n hx hb dL_law_274 rfl (lv_at hl 3 rfl) ?_
  obtain ⟨r1, σ2, hc, h⟩ := bd_o h
  refine go_Li (run_SW (As := [.ref (q 0), .int (rs xs (i + (1 : Int32))), .ref (q 29)]) (rest := []) hC hw.left hz (c_L_block l hst D q k sa N σ (rs xs (i + (1 : Int32))) r1 σ2 hc) kw_567 kw_569 kw_556 kw_568 hd_L_block ⟨rfl, rfl⟩ ⟨Nat.le_of_ble_eq_true rfl, Nat.le_of_ble_eq_true rfl⟩ rfl hl.1 rfl (Nat.le_of_ble_eq_true rfl) dL_law_275 hf1) hw (fun H locs hw => ?_)
  refine lv_istore (lv' := [(5, .int r1), (0, .ref b), (1, .ref (q 0)), (2, .ref (u 0)), (3, .ref (q 29)), (4, .int i)]) hx hb dL_law_278 hl (by decide) rfl (fun ls hl => ?_)
  refine lv_aload_n hx hb dL_law_280 rfl (lv_at hl 3 rfl) ?_
  refine lv_aload_n hx hb dL_law_281 rfl (lv_at hl 1 rfl) ?_
  refine lv_iload hx hb dL_law_282 (lv_at hl 5 rfl) ?_
  refine lv_iconst (v := 1) hx hb dL_law_284 (by decide) ?_
  refine lv_iadd hx hb dL_law_285 ?_
  obtain ⟨hin, h⟩ := gd_o h
  refine o_sld hC hX hbl hbA hw hin dL_law_286 ?_
  obtain ⟨r3, τ4, hc, h⟩ := bd_o h
  refine go_Ri (mc := 0) (ms := 0) (run_V (As := [.int (rs xs (i + (1 : Int32)))]) (rest := []) hC hw.right (c_X7_block l D u k N τ (rs xs (i + (1 : Int32))) r3 τ4 hc) kw_570 kw_571 kw_572 kw_246 kw_573 hd_X7_block ⟨rfl, rfl⟩ ⟨Nat.le_of_ble_eq_true rfl, Nat.le_of_ble_eq_true rfl⟩ 0 rfl rfl rfl hl.1 rfl (Nat.le_of_ble_eq_true rfl) dL_law_287 hf1) hw (fun H locs hw => ?_)
  refine lv_istore (lv' := [(6, .int r3), (5, .int r1), (0, .ref b), (1, .ref (q 0)), (2, .ref (u 0)), (3, .ref (q 29)), (4, .int i)]) hx hb dL_law_290 hl (by decide) rfl (fun ls hl => ?_)
  refine lv_aload_n hx hb dL_law_292 rfl (lv_at hl 4 rfl) ?_
  obtain ⟨r5, hc, h⟩ := bd1_o h
  refine go_Ri (mc := 0) (ms := 0) (run_V (As := []) (rest := []) hC hw.right (c_X7_thrown l D u k N τ4 r5 hc) kw_563 kw_564 kw_565 kw_246 kw_566 hd_X7_thrown ⟨rfl, rfl⟩ ⟨Nat.le_of_ble_eq_true rfl, Nat.le_of_ble_eq_true rfl⟩ 0 rfl rfl rfl hl.1 rfl (Nat.le_of_ble_eq_true rfl) dL_law_293 hf1) hw (fun H locs hw => ?_)
  refine lv_iload hx hb dL_law_296 (lv_at hl 1 rfl) ?_
  refine lv_icmp_eq (tgt := 303) hx hb dL_law_298 (by decide) (fun c => ?_) (fun c => ?_)
  · have h := if_t h c
    refine lv_iload hx hb dL_law_303 (lv_at hl 1 rfl) ?_
    refine lv_if_ne (tgt := 320) hx hb dL_law_305 (by decide) (fun c => ?_) (fun c => ?_)
    · have h := if_f h c
      refine lv_goto (tgt := 1179) hx hb dL_law_320 (by decide) ?_
      refine W.widen (k := cells + 1) (n := slots + 6) (by omega) (by omega) ?_
      exact hK σ2 τ4 _ _ ls h hw (lv_sub hl [2, 3, 4, 5, 6] rfl)
    · have h := if_t h c
      refine lv_aload_n hx hb dL_law_308 rfl (lv_at hl 5 rfl) ?_
      refine lv_iconst (v := 0) hx hb dL_law_309 (by decide) ?_
      obtain ⟨hin, h⟩ := gd_o h
      refine C_ld29 hC hw.left hin dL_law_310 ?_
      refine lv_iload hx hb dL_law_311 (lv_at hl 0 rfl) ?_
      refine lv_i2l (v := Int32.toInt64 r3) hx hb dL_law_313 rfl ?_
      refine W.lcmp hx hb dL_law_314 ?_
      refine lv_if_eq (tgt := 320) hx hb dL_law_315 (by decide) (fun c => ?_) (fun c => ?_)
      · have h := if_t h c
        refine lv_goto (tgt := 1179) hx hb dL_law_320 (by decide) ?_
        refine W.widen (k := cells + 1) (n := slots + 6) (by omega) (by omega) ?_
        exact hK σ2 τ4 _ _ ls h hw (lv_sub hl [2, 3, 4, 5, 6] rfl)
      · have h := if_f h c
        exact absurd (Option.some.inj h) (by decide)
  · have h := if_f h c
    exact absurd (Option.some.inj h) (by decide)
/-! the law, call 2 -/
def g_law_2 (N : Nat) (xs : Nat → Int32) (L : Nat) (σ τ : St) (i : Int32) (K : St → St → Option Int32) : Option Int32 :=
  gd (okx (i + (1 : Int32)) L) (gd (okx (i + (2 : Int32)) L) (gd (okx (i + (3 : Int32)) L) (bd (f_L_cell_ N σ (rs xs (i + (1 : Int32))) (rs xs (i + (2 : Int32))) (rs xs (i + (3 : Int32)))) (fun r1 σ2 => gd (okx (i + (1 : Int32)) L) (gd (okx (i + (2 : Int32)) L) (gd (okx (i + (3 : Int32)) L) (bd (f_X7_cell N τ (rs xs (i + (1 : Int32))) (rs xs (i + (2 : Int32))) (rs xs (i + (3 : Int32)))) (fun r3 τ4 => bd1 (f_X7_thrown N τ4) (fun r5 => if r5 = r1 then (if r1 = 0 then (gd (okx (0 : Int32) 1) (if r3 = 0 then (if (lg_cmp (rl σ2 3 (0 : Int32)) (0 : Int64)) = 0 then (K σ2 τ4) else (some 0)) else (if (lg_cmp (rl σ2 3 (0 : Int32)) (1 : Int64)) = 0 then (K σ2 τ4) else (some 0)))) else (K σ2 τ4)) else (some 0))))))))))
set_option maxRecDepth 100000 in
set_option maxHeartbeats 4000000 in
theorem w_law_2 {p : Program} {l : Launch} {e : Env} {s : State} {m : MethodId} {below : List Frame} {meth : Method} {c : Code} {D : va_G} {q u : Nat → Nat} {k : cK} {sa : Nat → Nat} {b L : Nat} {xs : Nat → Int32} (hC : Cx p s m meth c cL_law RL 7 ret) (hst : l.stackTraces = false) (hz : XPm (fun a => s.heap.size ≤ a) sa s s.heap) (hX : va_X b L xs s s.heap) (hbl : b < s.heap.size) (N : Nat) (i : Int32) (K : St → St → Option Int32) {cells slots : Nat} (hcs : cells + 1 ≤ 601024 ∧ slots + 6 ≤ 7293000)
    (hK : ∀ (σ τ : St) (H : Heap) (locs : List Loc) (ls : Array Slot), K σ τ = some 1 → WH D (CW q k σ ++ MW u k τ) k (fun a => s.heap.size ≤ a) s s.heap H locs → lv_has ls 7 [(0, .ref b), (1, .ref (q 0)), (2, .ref (u 0)), (3, .ref (q 29)), (4, .int i)] → W p l e room_1 s m #[Value.ref b] below meth c H locs (cells + 1) (slots + 6) (lw_Z below #[Value.ref b] s) (F0 m 1179 ls [])) :
    ∀ (σ τ : St) (H : Heap) (locs : List Loc) (ls : Array Slot), g_law_2 N xs L σ τ i K = some 1 → WH D (CW q k σ ++ MW u k τ) k (fun a => s.heap.size ≤ a) s s.heap H locs → lv_has ls 7 [(0, .ref b), (1, .ref (q 0)), (2, .ref (u 0)), (3, .ref (q 29)), (4, .int i)] → W p l e room_1 s m #[Value.ref b] below meth c H locs cells slots (lw_Z below #[Value.ref b] s) (F0 m 323 ls []) := by
  intro σ τ H locs ls h hw hl
  have hx := hC.1
  have hb := hC.2.1
  have hbA : ¬ (fun a : Nat => s.heap.size ≤ a) b := Nat.not_le.mpr hbl
  have hf0 : cells ≤ room_1.cells ∧ slots ≤ room_1.slots := ⟨Nat.le_trans (Nat.le_succ _) hcs.1, Nat.le_trans (Nat.le_add_right _ 6) hcs.2⟩
  have hf1 : cells + 1 ≤ room_1.cells ∧ slots + 6 ≤ room_1.slots := hcs
  unfold g_law_2 at h
  refine lv_aload_n hx hb dL_law_323 rfl (lv_at hl 1 rfl) ?_
  refine lv_aload_n hx hb dL_law_324 rfl (lv_at hl 0 rfl) ?_
  refine lv_iload hx hb dL_law_325 (lv_at hl 4 rfl) ?_
  refine lv_iconst (v := 1) hx hb dL_law_327 (by decide) ?_
  refine lv_iadd hx hb dL_law_328 ?_
  obtain ⟨hin, h⟩ := gd_o h
  refine o_sld hC hX hbl hbA hw hin dL_law_329 ?_
  refine lv_aload_n hx hb dL_law_330 rfl (lv_at hl 0 rfl) ?_
  refine lv_iload hx hb dL_law_331 (lv_at hl 4 rfl) ?_
  refine lv_iconst (v := 2) hx hb dL_law_333 (by decide) ?_
  refine lv_iadd hx hb dL_law_334 ?_
  obtain ⟨hin, h⟩ := gd_o h
  refine o_sld hC hX hbl hbA hw hin dL_law_335 ?_
  refine lv_aload_n hx hb dL_law_336 rfl (lv_at hl 0 rfl) ?_
  refine lv_iload hx hb dL_law_337 (lv_at hl 4 rfl) ?_
  refine lv_iconst (v := 3) hx hb dL_law_339 (by decide) ?_
  refine lv_iadd hx hb dL_law_340 ?_
  obtain ⟨hin, h⟩ := gd_o h
  refine o_sld hC hX hbl hbA hw hin dL_law_341 ?_
  refine lv_aload_n hx hb dL_law_342 rfl (lv_at hl 3 rfl) ?_
  obtain ⟨r1, σ2, hc, h⟩ := bd_o h
  refine go_Li (run_SW (As := [.ref (q 0), .int (rs xs (i + (1 : Int32))), .int (rs xs (i + (2 : Int32))), .int (rs xs (i + (3 : Int32))), .ref (q 29)]) (rest := []) hC hw.left hz (c_L_cell_ l hst D q k sa N σ (rs xs (i + (1 : Int32))) (rs xs (i + (2 : Int32))) (rs xs (i + (3 : Int32))) r1 σ2 hc) kw_574 kw_576 kw_556 kw_575 hd_L_cell_ ⟨rfl, rfl⟩ ⟨Nat.le_of_ble_eq_true rfl, Nat.le_of_ble_eq_true rfl⟩ rfl hl.1 rfl (Nat.le_of_ble_eq_true rfl) dL_law_343 hf1) hw (fun H locs hw => ?_)
  refine lv_istore (lv' := [(5, .int r1), (0, .ref b), (1, .ref (q 0)), (2, .ref (u 0)), (3, .ref (q 29)), (4, .int i)]) hx hb dL_law_346 hl (by decide) rfl (fun ls hl => ?_)
  refine lv_aload_n hx hb dL_law_348 rfl (lv_at hl 3 rfl) ?_
  refine lv_aload_n hx hb dL_law_349 rfl (lv_at hl 1 rfl) ?_
  refine lv_iload hx hb dL_law_350 (lv_at hl 5 rfl) ?_
  refine lv_iconst (v := 1) hx hb dL_law_352 (by decide) ?_
  refine lv_iadd hx hb dL_law_353 ?_
  obtain ⟨hin, h⟩ := gd_o h
  refine o_sld hC hX hbl hbA hw hin dL_law_354 ?_
  refine lv_aload_n hx hb dL_law_355 rfl (lv_at hl 1 rfl) ?_
  refine lv_iload hx hb dL_law_356 (lv_at hl 5 rfl) ?_
  refine lv_iconst (v := 2) hx hb dL_law_358 (by decide) ?_
  refine lv_iadd hx hb dL_law_359 ?_
  obtain ⟨hin, h⟩ := gd_o h
  refine o_sld hC hX hbl hbA hw hin dL_law_360 ?_
  refine lv_aload_n hx hb dL_law_361 rfl (lv_at hl 1 rfl) ?_
  refine lv_iload hx hb dL_law_362 (lv_at hl 5 rfl) ?_
  refine lv_iconst (v := 3) hx hb dL_law_364 (by decide) ?_
  refine lv_iadd hx hb dL_law_365 ?_
  obtain ⟨hin, h⟩ := gd_o h
  refine o_sld hC hX hbl hbA hw hin dL_law_366 ?_
  obtain ⟨r3, τ4, hc, h⟩ := bd_o h
  refine go_Ri (mc := 0) (ms := 0) (run_V (As := [.int (rs xs (i + (1 : Int32))), .int (rs xs (i + (2 : Int32))), .int (rs xs (i + (3 : Int32)))]) (rest := []) hC hw.right (c_X7_cell l D u k N τ (rs xs (i + (1 : Int32))) (rs xs (i + (2 : Int32))) (rs xs (i + (3 : Int32))) r3 τ4 hc) kw_577 kw_578 kw_579 kw_246 kw_580 hd_X7_cell ⟨rfl, rfl⟩ ⟨Nat.le_of_ble_eq_true rfl, Nat.le_of_ble_eq_true rfl⟩ 0 rfl rfl rfl hl.1 rfl (Nat.le_of_ble_eq_true rfl) dL_law_367 hf1) hw (fun H locs hw => ?_)
  refine lv_istore (lv' := [(6, .int r3), (5, .int r1), (0, .ref b), (1, .ref (q 0)), (2, .ref (u 0)), (3, .ref (q 29)), (4, .int i)]) hx hb dL_law_370 hl (by decide) rfl (fun ls hl => ?_)
  refine lv_aload_n hx hb dL_law_372 rfl (lv_at hl 4 rfl) ?_
  obtain ⟨r5, hc, h⟩ := bd1_o h
  refine go_Ri (mc := 0) (ms := 0) (run_V (As := []) (rest := []) hC hw.right (c_X7_thrown l D u k N τ4 r5 hc) kw_563 kw_564 kw_565 kw_246 kw_566 hd_X7_thrown ⟨rfl, rfl⟩ ⟨Nat.le_of_ble_eq_true rfl, Nat.le_of_ble_eq_true rfl⟩ 0 rfl rfl rfl hl.1 rfl (Nat.le_of_ble_eq_true rfl) dL_law_373 hf1) hw (fun H locs hw => ?_)
  refine lv_iload hx hb dL_law_376 (lv_at hl 1 rfl) ?_
  refine lv_icmp_eq (tgt := 383) hx hb dL_law_378 (by decide) (fun c => ?_) (fun c => ?_)
  · have h := if_t h c
    refine lv_iload hx hb dL_law_383 (lv_at hl 1 rfl) ?_
    refine lv_if_ne (tgt := 407) hx hb dL_law_385 (by decide) (fun c => ?_) (fun c => ?_)
    · have h := if_f h c
      refine lv_goto (tgt := 1179) hx hb dL_law_407 (by decide) ?_
      refine W.widen (k := cells + 1) (n := slots + 6) (by omega) (by omega) ?_
      exact hK σ2 τ4 _ _ ls h hw (lv_sub hl [2, 3, 4, 5, 6] rfl)
    · have h := if_t h c
      refine lv_aload_n hx hb dL_law_388 rfl (lv_at hl 5 rfl) ?_
      refine lv_iconst (v := 0) hx hb dL_law_389 (by decide) ?_
      obtain ⟨hin, h⟩ := gd_o h
      refine C_ld29 hC hw.left hin dL_law_390 ?_
      refine lv_iload hx hb dL_law_391 (lv_at hl 0 rfl) ?_
      refine lv_if_eq (tgt := 400) hx hb dL_law_393 (by decide) (fun c => ?_) (fun c => ?_)
      · have h := if_t h c
        refine lv_lconst (v := 0) hx hb dL_law_400 (by decide) ?_
        refine W.lcmp hx hb dL_law_401 ?_
        refine lv_if_eq (tgt := 407) hx hb dL_law_402 (by decide) (fun c => ?_) (fun c => ?_)
        · have h := if_t h c
          refine lv_goto (tgt := 1179) hx hb dL_law_407 (by decide) ?_
          refine W.widen (k := cells + 1) (n := slots + 6) (by omega) (by omega) ?_
          exact hK σ2 τ4 _ _ ls h hw (lv_sub hl [2, 3, 4, 5, 6] rfl)
        · have h := if_f h c
          exact absurd (Option.some.inj h) (by decide)
      · have h := if_f h c
        refine lv_lconst (v := 1) hx hb dL_law_396 (by decide) ?_
        refine lv_goto (tgt := 401) hx hb dL_law_397 (by decide) ?_
        refine W.lcmp hx hb dL_law_401 ?_
        refine lv_if_eq (tgt := 407) hx hb dL_law_402 (by decide) (fun c => ?_) (fun c => ?_)
        · have h := if_t h c
          refine lv_goto (tgt := 1179) hx hb dL_law_407 (by decide) ?_
          refine W.widen (k := cells + 1) (n := slots + 6) (by omega) (by omega) ?_
          exact hK σ2 τ4 _ _ ls h hw (lv_sub hl [2, 3, 4, 5, 6] rfl)
        · have h := if_f h c
          exact absurd (Option.some.inj h) (by decide)
  · have h := if_f h c
    exact absurd (Option.some.inj h) (by decide)
/-! the law, call 3 -/
def g_law_3 (N : Nat) (xs : Nat → Int32) (L : Nat) (σ τ : St) (i : Int32) (K : St → St → Option Int32) : Option Int32 :=
  gd (okx (i + (1 : Int32)) L) (bd (f_L_place N σ (rs xs (i + (1 : Int32)))) (fun r1 σ2 => gd (okx (i + (1 : Int32)) L) (bd (f_X7_place N τ (rs xs (i + (1 : Int32)))) (fun r3 τ4 => bd1 (f_X7_thrown N τ4) (fun r5 => if r5 = r1 then (if r1 = 0 then (gd (okx (0 : Int32) 1) (if (lg_cmp (rl σ2 3 (0 : Int32)) (Int32.toInt64 r3)) = 0 then (K σ2 τ4) else (some 0))) else (K σ2 τ4)) else (some 0))))))
set_option maxRecDepth 100000 in
set_option maxHeartbeats 4000000 in
theorem w_law_3 {p : Program} {l : Launch} {e : Env} {s : State} {m : MethodId} {below : List Frame} {meth : Method} {c : Code} {D : va_G} {q u : Nat → Nat} {k : cK} {sa : Nat → Nat} {b L : Nat} {xs : Nat → Int32} (hC : Cx p s m meth c cL_law RL 7 ret) (hst : l.stackTraces = false) (hz : XPm (fun a => s.heap.size ≤ a) sa s s.heap) (hX : va_X b L xs s s.heap) (hbl : b < s.heap.size) (N : Nat) (i : Int32) (K : St → St → Option Int32) {cells slots : Nat} (hcs : cells + 1 ≤ 601024 ∧ slots + 6 ≤ 7293000)
    (hK : ∀ (σ τ : St) (H : Heap) (locs : List Loc) (ls : Array Slot), K σ τ = some 1 → WH D (CW q k σ ++ MW u k τ) k (fun a => s.heap.size ≤ a) s s.heap H locs → lv_has ls 7 [(0, .ref b), (1, .ref (q 0)), (2, .ref (u 0)), (3, .ref (q 29)), (4, .int i)] → W p l e room_1 s m #[Value.ref b] below meth c H locs (cells + 1) (slots + 6) (lw_Z below #[Value.ref b] s) (F0 m 1179 ls [])) :
    ∀ (σ τ : St) (H : Heap) (locs : List Loc) (ls : Array Slot), g_law_3 N xs L σ τ i K = some 1 → WH D (CW q k σ ++ MW u k τ) k (fun a => s.heap.size ≤ a) s s.heap H locs → lv_has ls 7 [(0, .ref b), (1, .ref (q 0)), (2, .ref (u 0)), (3, .ref (q 29)), (4, .int i)] → W p l e room_1 s m #[Value.ref b] below meth c H locs cells slots (lw_Z below #[Value.ref b] s) (F0 m 410 ls []) := by
  intro σ τ H locs ls h hw hl
  have hx := hC.1
  have hb := hC.2.1
  have hbA : ¬ (fun a : Nat => s.heap.size ≤ a) b := Nat.not_le.mpr hbl
  have hf0 : cells ≤ room_1.cells ∧ slots ≤ room_1.slots := ⟨Nat.le_trans (Nat.le_succ _) hcs.1, Nat.le_trans (Nat.le_add_right _ 6) hcs.2⟩
  have hf1 : cells + 1 ≤ room_1.cells ∧ slots + 6 ≤ room_1.slots := hcs
  unfold g_law_3 at h
  refine lv_aload_n hx hb dL_law_410 rfl (lv_at hl 1 rfl) ?_
  refine lv_aload_n hx hb dL_law_411 rfl (lv_at hl 0 rfl) ?_
  refine lv_iload hx hb dL_law_412 (lv_at hl 4 rfl) ?_
  refine lv_iconst (v := 1) hx hb dL_law_414 (by decide) ?_
  refine lv_iadd hx hb dL_law_415 ?_
  obtain ⟨hin, h⟩ := gd_o h
  refine o_sld hC hX hbl hbA hw hin dL_law_416 ?_
  refine lv_aload_n hx hb dL_law_417 rfl (lv_at hl 3 rfl) ?_
  obtain ⟨r1, σ2, hc, h⟩ := bd_o h
  refine go_Li (run_SW (As := [.ref (q 0), .int (rs xs (i + (1 : Int32))), .ref (q 29)]) (rest := []) hC hw.left hz (c_L_place l hst D q k sa N σ (rs xs (i + (1 : Int32))) r1 σ2 hc) kw_581 kw_583 kw_556 kw_582 hd_L_place ⟨rfl, rfl⟩ ⟨Nat.le_of_ble_eq_true rfl, Nat.le_of_ble_eq_true rfl⟩ rfl hl.1 rfl (Nat.le_of_ble_eq_true rfl) dL_law_418 hf1) hw (fun H locs hw => ?_)
  refine lv_istore (lv' := [(5, .int r1), (0, .ref b), (1, .ref (q 0)), (2, .ref (u 0)), (3, .ref (q 29)), (4, .int i)]) hx hb dL_law_421 hl (by decide) rfl (fun ls hl => ?_)
  refine lv_aload_n hx hb dL_law_423 rfl (lv_at hl 3 rfl) ?_
  refine lv_aload_n hx hb dL_law_424 rfl (lv_at hl 1 rfl) ?_
  refine lv_iload hx hb dL_law_425 (lv_at hl 5 rfl) ?_
  refine lv_iconst (v := 1) hx hb dL_law_427 (by decide) ?_
  refine lv_iadd hx hb dL_law_428 ?_
  obtain ⟨hin, h⟩ := gd_o h
  refine o_sld hC hX hbl hbA hw hin dL_law_429 ?_
  obtain ⟨r3, τ4, hc, h⟩ := bd_o h
  refine go_Ri (mc := 0) (ms := 0) (run_V (As := [.int (rs xs (i + (1 : Int32)))]) (rest := []) hC hw.right (c_X7_place l D u k N τ (rs xs (i + (1 : Int32))) r3 τ4 hc) kw_584 kw_585 kw_586 kw_246 kw_587 hd_X7_place ⟨rfl, rfl⟩ ⟨Nat.le_of_ble_eq_true rfl, Nat.le_of_ble_eq_true rfl⟩ 0 rfl rfl rfl hl.1 rfl (Nat.le_of_ble_eq_true rfl) dL_law_430 hf1) hw (fun H locs hw => ?_)
  refine lv_istore (lv' := [(6, .int r3), (5, .int r1), (0, .ref b), (1, .ref (q 0)), (2, .ref (u 0)), (3, .ref (q 29)), (4, .int i)]) hx hb dL_law_433 hl (by decide) rfl (fun ls hl => ?_)
  refine lv_aload_n hx hb dL_law_435 rfl (lv_at hl 4 rfl) ?_
  obtain ⟨r5, hc, h⟩ := bd1_o h
  refine go_Ri (mc := 0) (ms := 0) (run_V (As := []) (rest := []) hC hw.right (c_X7_thrown l D u k N τ4 r5 hc) kw_563 kw_564 kw_565 kw_246 kw_566 hd_X7_thrown ⟨rfl, rfl⟩ ⟨Nat.le_of_ble_eq_true rfl, Nat.le_of_ble_eq_true rfl⟩ 0 rfl rfl rfl hl.1 rfl (Nat.le_of_ble_eq_true rfl) dL_law_436 hf1) hw (fun H locs hw => ?_)
  refine lv_iload hx hb dL_law_439 (lv_at hl 1 rfl) ?_
  refine lv_icmp_eq (tgt := 446) hx hb dL_law_441 (by decide) (fun c => ?_) (fun c => ?_)
  · have h := if_t h c
    refine lv_iload hx hb dL_law_446 (lv_at hl 1 rfl) ?_
    refine lv_if_ne (tgt := 463) hx hb dL_law_448 (by decide) (fun c => ?_) (fun c => ?_)
    · have h := if_f h c
      refine lv_goto (tgt := 1179) hx hb dL_law_463 (by decide) ?_
      refine W.widen (k := cells + 1) (n := slots + 6) (by omega) (by omega) ?_
      exact hK σ2 τ4 _ _ ls h hw (lv_sub hl [2, 3, 4, 5, 6] rfl)
    · have h := if_t h c
      refine lv_aload_n hx hb dL_law_451 rfl (lv_at hl 5 rfl) ?_
      refine lv_iconst (v := 0) hx hb dL_law_452 (by decide) ?_
      obtain ⟨hin, h⟩ := gd_o h
      refine C_ld29 hC hw.left hin dL_law_453 ?_
      refine lv_iload hx hb dL_law_454 (lv_at hl 0 rfl) ?_
      refine lv_i2l (v := Int32.toInt64 r3) hx hb dL_law_456 rfl ?_
      refine W.lcmp hx hb dL_law_457 ?_
      refine lv_if_eq (tgt := 463) hx hb dL_law_458 (by decide) (fun c => ?_) (fun c => ?_)
      · have h := if_t h c
        refine lv_goto (tgt := 1179) hx hb dL_law_463 (by decide) ?_
        refine W.widen (k := cells + 1) (n := slots + 6) (by omega) (by omega) ?_
        exact hK σ2 τ4 _ _ ls h hw (lv_sub hl [2, 3, 4, 5, 6] rfl)
      · have h := if_f h c
        exact absurd (Option.some.inj h) (by decide)
  · have h := if_f h c
    exact absurd (Option.some.inj h) (by decide)
/-! the law, call 4 -/
def g_law_4 (N : Nat) (xs : Nat → Int32) (L : Nat) (σ τ : St) (i : Int32) (K : St → St → Option Int32) : Option Int32 :=
  gd (okx (i + (1 : Int32)) L) (gd (okx (i + (2 : Int32)) L) (gd (okx (i + (3 : Int32)) L) (bd (f_L_slide N σ (rs xs (i + (1 : Int32))) (rs xs (i + (2 : Int32))) (rs xs (i + (3 : Int32)))) (fun r1 σ2 => gd (okx (i + (1 : Int32)) L) (gd (okx (i + (2 : Int32)) L) (gd (okx (i + (3 : Int32)) L) (bd (f_X7_slide N τ (rs xs (i + (1 : Int32))) (rs xs (i + (2 : Int32))) (rs xs (i + (3 : Int32)))) (fun r3 τ4 => bd1 (f_X7_thrown N τ4) (fun r5 => if r5 = r1 then (if r1 = 0 then (gd (okx (0 : Int32) 1) (if (lg_cmp (rl σ2 3 (0 : Int32)) (Int32.toInt64 r3)) = 0 then (K σ2 τ4) else (some 0))) else (K σ2 τ4)) else (some 0))))))))))
set_option maxRecDepth 100000 in
set_option maxHeartbeats 4000000 in
theorem w_law_4 {p : Program} {l : Launch} {e : Env} {s : State} {m : MethodId} {below : List Frame} {meth : Method} {c : Code} {D : va_G} {q u : Nat → Nat} {k : cK} {sa : Nat → Nat} {b L : Nat} {xs : Nat → Int32} (hC : Cx p s m meth c cL_law RL 7 ret) (hst : l.stackTraces = false) (hz : XPm (fun a => s.heap.size ≤ a) sa s s.heap) (hX : va_X b L xs s s.heap) (hbl : b < s.heap.size) (N : Nat) (i : Int32) (K : St → St → Option Int32) {cells slots : Nat} (hcs : cells + 1 ≤ 601024 ∧ slots + 6 ≤ 7293000)
    (hK : ∀ (σ τ : St) (H : Heap) (locs : List Loc) (ls : Array Slot), K σ τ = some 1 → WH D (CW q k σ ++ MW u k τ) k (fun a => s.heap.size ≤ a) s s.heap H locs → lv_has ls 7 [(0, .ref b), (1, .ref (q 0)), (2, .ref (u 0)), (3, .ref (q 29)), (4, .int i)] → W p l e room_1 s m #[Value.ref b] below meth c H locs (cells + 1) (slots + 6) (lw_Z below #[Value.ref b] s) (F0 m 1179 ls [])) :
    ∀ (σ τ : St) (H : Heap) (locs : List Loc) (ls : Array Slot), g_law_4 N xs L σ τ i K = some 1 → WH D (CW q k σ ++ MW u k τ) k (fun a => s.heap.size ≤ a) s s.heap H locs → lv_has ls 7 [(0, .ref b), (1, .ref (q 0)), (2, .ref (u 0)), (3, .ref (q 29)), (4, .int i)] → W p l e room_1 s m #[Value.ref b] below meth c H locs cells slots (lw_Z below #[Value.ref b] s) (F0 m 466 ls []) := by
  intro σ τ H locs ls h hw hl
  have hx := hC.1
  have hb := hC.2.1
  have hbA : ¬ (fun a : Nat => s.heap.size ≤ a) b := Nat.not_le.mpr hbl
  have hf0 : cells ≤ room_1.cells ∧ slots ≤ room_1.slots := ⟨Nat.le_trans (Nat.le_succ _) hcs.1, Nat.le_trans (Nat.le_add_right _ 6) hcs.2⟩
  have hf1 : cells + 1 ≤ room_1.cells ∧ slots + 6 ≤ room_1.slots := hcs
  unfold g_law_4 at h
  refine lv_aload_n hx hb dL_law_466 rfl (lv_at hl 1 rfl) ?_
  refine lv_aload_n hx hb dL_law_467 rfl (lv_at hl 0 rfl) ?_
  refine lv_iload hx hb dL_law_468 (lv_at hl 4 rfl) ?_
  refine lv_iconst (v := 1) hx hb dL_law_470 (by decide) ?_
  refine lv_iadd hx hb dL_law_471 ?_
  obtain ⟨hin, h⟩ := gd_o h
  refine o_sld hC hX hbl hbA hw hin dL_law_472 ?_
  refine lv_aload_n hx hb dL_law_473 rfl (lv_at hl 0 rfl) ?_
  refine lv_iload hx hb dL_law_474 (lv_at hl 4 rfl) ?_
  refine lv_iconst (v := 2) hx hb dL_law_476 (by decide) ?_
  refine lv_iadd hx hb dL_law_477 ?_
  obtain ⟨hin, h⟩ := gd_o h
  refine o_sld hC hX hbl hbA hw hin dL_law_478 ?_
  refine lv_aload_n hx hb dL_law_479 rfl (lv_at hl 0 rfl) ?_
  refine lv_iload hx hb dL_law_480 (lv_at hl 4 rfl) ?_
  refine lv_iconst (v := 3) hx hb dL_law_482 (by decide) ?_
  refine lv_iadd hx hb dL_law_483 ?_
  obtain ⟨hin, h⟩ := gd_o h
  refine o_sld hC hX hbl hbA hw hin dL_law_484 ?_
  refine lv_aload_n hx hb dL_law_485 rfl (lv_at hl 3 rfl) ?_
  obtain ⟨r1, σ2, hc, h⟩ := bd_o h
  refine go_Li (run_SW (As := [.ref (q 0), .int (rs xs (i + (1 : Int32))), .int (rs xs (i + (2 : Int32))), .int (rs xs (i + (3 : Int32))), .ref (q 29)]) (rest := []) hC hw.left hz (c_L_slide l hst D q k sa N σ (rs xs (i + (1 : Int32))) (rs xs (i + (2 : Int32))) (rs xs (i + (3 : Int32))) r1 σ2 hc) kw_588 kw_590 kw_556 kw_589 hd_L_slide ⟨rfl, rfl⟩ ⟨Nat.le_of_ble_eq_true rfl, Nat.le_of_ble_eq_true rfl⟩ rfl hl.1 rfl (Nat.le_of_ble_eq_true rfl) dL_law_486 hf1) hw (fun H locs hw => ?_)
  refine lv_istore (lv' := [(5, .int r1), (0, .ref b), (1, .ref (q 0)), (2, .ref (u 0)), (3, .ref (q 29)), (4, .int i)]) hx hb dL_law_489 hl (by decide) rfl (fun ls hl => ?_)
  refine lv_aload_n hx hb dL_law_491 rfl (lv_at hl 3 rfl) ?_
  refine lv_aload_n hx hb dL_law_492 rfl (lv_at hl 1 rfl) ?_
  refine lv_iload hx hb dL_law_493 (lv_at hl 5 rfl) ?_
  refine lv_iconst (v := 1) hx hb dL_law_495 (by decide) ?_
  refine lv_iadd hx hb dL_law_496 ?_
  obtain ⟨hin, h⟩ := gd_o h
  refine o_sld hC hX hbl hbA hw hin dL_law_497 ?_
  refine lv_aload_n hx hb dL_law_498 rfl (lv_at hl 1 rfl) ?_
  refine lv_iload hx hb dL_law_499 (lv_at hl 5 rfl) ?_
  refine lv_iconst (v := 2) hx hb dL_law_501 (by decide) ?_
  refine lv_iadd hx hb dL_law_502 ?_
  obtain ⟨hin, h⟩ := gd_o h
  refine o_sld hC hX hbl hbA hw hin dL_law_503 ?_
  refine lv_aload_n hx hb dL_law_504 rfl (lv_at hl 1 rfl) ?_
  refine lv_iload hx hb dL_law_505 (lv_at hl 5 rfl) ?_
  refine lv_iconst (v := 3) hx hb dL_law_507 (by decide) ?_
  refine lv_iadd hx hb dL_law_508 ?_
  obtain ⟨hin, h⟩ := gd_o h
  refine o_sld hC hX hbl hbA hw hin dL_law_509 ?_
  obtain ⟨r3, τ4, hc, h⟩ := bd_o h
  refine go_Ri (mc := 0) (ms := 0) (run_V (As := [.int (rs xs (i + (1 : Int32))), .int (rs xs (i + (2 : Int32))), .int (rs xs (i + (3 : Int32)))]) (rest := []) hC hw.right (c_X7_slide l D u k N τ (rs xs (i + (1 : Int32))) (rs xs (i + (2 : Int32))) (rs xs (i + (3 : Int32))) r3 τ4 hc) kw_591 kw_592 kw_593 kw_246 kw_594 hd_X7_slide ⟨rfl, rfl⟩ ⟨Nat.le_of_ble_eq_true rfl, Nat.le_of_ble_eq_true rfl⟩ 0 rfl rfl rfl hl.1 rfl (Nat.le_of_ble_eq_true rfl) dL_law_510 hf1) hw (fun H locs hw => ?_)
  refine lv_istore (lv' := [(6, .int r3), (5, .int r1), (0, .ref b), (1, .ref (q 0)), (2, .ref (u 0)), (3, .ref (q 29)), (4, .int i)]) hx hb dL_law_513 hl (by decide) rfl (fun ls hl => ?_)
  refine lv_aload_n hx hb dL_law_515 rfl (lv_at hl 4 rfl) ?_
  obtain ⟨r5, hc, h⟩ := bd1_o h
  refine go_Ri (mc := 0) (ms := 0) (run_V (As := []) (rest := []) hC hw.right (c_X7_thrown l D u k N τ4 r5 hc) kw_563 kw_564 kw_565 kw_246 kw_566 hd_X7_thrown ⟨rfl, rfl⟩ ⟨Nat.le_of_ble_eq_true rfl, Nat.le_of_ble_eq_true rfl⟩ 0 rfl rfl rfl hl.1 rfl (Nat.le_of_ble_eq_true rfl) dL_law_516 hf1) hw (fun H locs hw => ?_)
  refine lv_iload hx hb dL_law_519 (lv_at hl 1 rfl) ?_
  refine lv_icmp_eq (tgt := 526) hx hb dL_law_521 (by decide) (fun c => ?_) (fun c => ?_)
  · have h := if_t h c
    refine lv_iload hx hb dL_law_526 (lv_at hl 1 rfl) ?_
    refine lv_if_ne (tgt := 543) hx hb dL_law_528 (by decide) (fun c => ?_) (fun c => ?_)
    · have h := if_f h c
      refine lv_goto (tgt := 1179) hx hb dL_law_543 (by decide) ?_
      refine W.widen (k := cells + 1) (n := slots + 6) (by omega) (by omega) ?_
      exact hK σ2 τ4 _ _ ls h hw (lv_sub hl [2, 3, 4, 5, 6] rfl)
    · have h := if_t h c
      refine lv_aload_n hx hb dL_law_531 rfl (lv_at hl 5 rfl) ?_
      refine lv_iconst (v := 0) hx hb dL_law_532 (by decide) ?_
      obtain ⟨hin, h⟩ := gd_o h
      refine C_ld29 hC hw.left hin dL_law_533 ?_
      refine lv_iload hx hb dL_law_534 (lv_at hl 0 rfl) ?_
      refine lv_i2l (v := Int32.toInt64 r3) hx hb dL_law_536 rfl ?_
      refine W.lcmp hx hb dL_law_537 ?_
      refine lv_if_eq (tgt := 543) hx hb dL_law_538 (by decide) (fun c => ?_) (fun c => ?_)
      · have h := if_t h c
        refine lv_goto (tgt := 1179) hx hb dL_law_543 (by decide) ?_
        refine W.widen (k := cells + 1) (n := slots + 6) (by omega) (by omega) ?_
        exact hK σ2 τ4 _ _ ls h hw (lv_sub hl [2, 3, 4, 5, 6] rfl)
      · have h := if_f h c
        exact absurd (Option.some.inj h) (by decide)
  · have h := if_f h c
    exact absurd (Option.some.inj h) (by decide)
/-! the law, call 5 -/
def g_law_5 (N : Nat) (xs : Nat → Int32) (L : Nat) (σ τ : St) (i : Int32) (K : St → St → Option Int32) : Option Int32 :=
  gd (okx (i + (1 : Int32)) L) (gd (okx (i + (2 : Int32)) L) (gd (okx (i + (3 : Int32)) L) (bd (f_L_goal N σ (rs xs (i + (1 : Int32))) (rs xs (i + (2 : Int32))) (rs xs (i + (3 : Int32)))) (fun r1 σ2 => gd (okx (i + (1 : Int32)) L) (gd (okx (i + (2 : Int32)) L) (gd (okx (i + (3 : Int32)) L) (bd (f_X7_goal N τ (rs xs (i + (1 : Int32))) (rs xs (i + (2 : Int32))) (rs xs (i + (3 : Int32)))) (fun r3 τ4 => bd1 (f_X7_thrown N τ4) (fun r5 => if r5 = r1 then (if r1 = 0 then (gd (okx (0 : Int32) 1) (if (lg_cmp (rl σ2 3 (0 : Int32)) (Int32.toInt64 r3)) = 0 then (K σ2 τ4) else (some 0))) else (K σ2 τ4)) else (some 0))))))))))
set_option maxRecDepth 100000 in
set_option maxHeartbeats 4000000 in
theorem w_law_5 {p : Program} {l : Launch} {e : Env} {s : State} {m : MethodId} {below : List Frame} {meth : Method} {c : Code} {D : va_G} {q u : Nat → Nat} {k : cK} {sa : Nat → Nat} {b L : Nat} {xs : Nat → Int32} (hC : Cx p s m meth c cL_law RL 7 ret) (hst : l.stackTraces = false) (hz : XPm (fun a => s.heap.size ≤ a) sa s s.heap) (hX : va_X b L xs s s.heap) (hbl : b < s.heap.size) (N : Nat) (i : Int32) (K : St → St → Option Int32) {cells slots : Nat} (hcs : cells + 1 ≤ 601024 ∧ slots + 6 ≤ 7293000)
    (hK : ∀ (σ τ : St) (H : Heap) (locs : List Loc) (ls : Array Slot), K σ τ = some 1 → WH D (CW q k σ ++ MW u k τ) k (fun a => s.heap.size ≤ a) s s.heap H locs → lv_has ls 7 [(0, .ref b), (1, .ref (q 0)), (2, .ref (u 0)), (3, .ref (q 29)), (4, .int i)] → W p l e room_1 s m #[Value.ref b] below meth c H locs (cells + 1) (slots + 6) (lw_Z below #[Value.ref b] s) (F0 m 1179 ls [])) :
    ∀ (σ τ : St) (H : Heap) (locs : List Loc) (ls : Array Slot), g_law_5 N xs L σ τ i K = some 1 → WH D (CW q k σ ++ MW u k τ) k (fun a => s.heap.size ≤ a) s s.heap H locs → lv_has ls 7 [(0, .ref b), (1, .ref (q 0)), (2, .ref (u 0)), (3, .ref (q 29)), (4, .int i)] → W p l e room_1 s m #[Value.ref b] below meth c H locs cells slots (lw_Z below #[Value.ref b] s) (F0 m 546 ls []) := by
  intro σ τ H locs ls h hw hl
  have hx := hC.1
  have hb := hC.2.1
  have hbA : ¬ (fun a : Nat => s.heap.size ≤ a) b := Nat.not_le.mpr hbl
  have hf0 : cells ≤ room_1.cells ∧ slots ≤ room_1.slots := ⟨Nat.le_trans (Nat.le_succ _) hcs.1, Nat.le_trans (Nat.le_add_right _ 6) hcs.2⟩
  have hf1 : cells + 1 ≤ room_1.cells ∧ slots + 6 ≤ room_1.slots := hcs
  unfold g_law_5 at h
  refine lv_aload_n hx hb dL_law_546 rfl (lv_at hl 1 rfl) ?_
  refine lv_aload_n hx hb dL_law_547 rfl (lv_at hl 0 rfl) ?_
  refine lv_iload hx hb dL_law_548 (lv_at hl 4 rfl) ?_
  refine lv_iconst (v := 1) hx hb dL_law_550 (by decide) ?_
  refine lv_iadd hx hb dL_law_551 ?_
  obtain ⟨hin, h⟩ := gd_o h
  refine o_sld hC hX hbl hbA hw hin dL_law_552 ?_
  refine lv_aload_n hx hb dL_law_553 rfl (lv_at hl 0 rfl) ?_
  refine lv_iload hx hb dL_law_554 (lv_at hl 4 rfl) ?_
  refine lv_iconst (v := 2) hx hb dL_law_556 (by decide) ?_
  refine lv_iadd hx hb dL_law_557 ?_
  obtain ⟨hin, h⟩ := gd_o h
  refine o_sld hC hX hbl hbA hw hin dL_law_558 ?_
  refine lv_aload_n hx hb dL_law_559 rfl (lv_at hl 0 rfl) ?_
  refine lv_iload hx hb dL_law_560 (lv_at hl 4 rfl) ?_
  refine lv_iconst (v := 3) hx hb dL_law_562 (by decide) ?_
  refine lv_iadd hx hb dL_law_563 ?_
  obtain ⟨hin, h⟩ := gd_o h
  refine o_sld hC hX hbl hbA hw hin dL_law_564 ?_
  refine lv_aload_n hx hb dL_law_565 rfl (lv_at hl 3 rfl) ?_
  obtain ⟨r1, σ2, hc, h⟩ := bd_o h
  refine go_Li (run_SW (As := [.ref (q 0), .int (rs xs (i + (1 : Int32))), .int (rs xs (i + (2 : Int32))), .int (rs xs (i + (3 : Int32))), .ref (q 29)]) (rest := []) hC hw.left hz (c_L_goal l hst D q k sa N σ (rs xs (i + (1 : Int32))) (rs xs (i + (2 : Int32))) (rs xs (i + (3 : Int32))) r1 σ2 hc) kw_595 kw_597 kw_556 kw_596 hd_L_goal ⟨rfl, rfl⟩ ⟨Nat.le_of_ble_eq_true rfl, Nat.le_of_ble_eq_true rfl⟩ rfl hl.1 rfl (Nat.le_of_ble_eq_true rfl) dL_law_566 hf1) hw (fun H locs hw => ?_)
  refine lv_istore (lv' := [(5, .int r1), (0, .ref b), (1, .ref (q 0)), (2, .ref (u 0)), (3, .ref (q 29)), (4, .int i)]) hx hb dL_law_569 hl (by decide) rfl (fun ls hl => ?_)
  refine lv_aload_n hx hb dL_law_571 rfl (lv_at hl 3 rfl) ?_
  refine lv_aload_n hx hb dL_law_572 rfl (lv_at hl 1 rfl) ?_
  refine lv_iload hx hb dL_law_573 (lv_at hl 5 rfl) ?_
  refine lv_iconst (v := 1) hx hb dL_law_575 (by decide) ?_
  refine lv_iadd hx hb dL_law_576 ?_
  obtain ⟨hin, h⟩ := gd_o h
  refine o_sld hC hX hbl hbA hw hin dL_law_577 ?_
  refine lv_aload_n hx hb dL_law_578 rfl (lv_at hl 1 rfl) ?_
  refine lv_iload hx hb dL_law_579 (lv_at hl 5 rfl) ?_
  refine lv_iconst (v := 2) hx hb dL_law_581 (by decide) ?_
  refine lv_iadd hx hb dL_law_582 ?_
  obtain ⟨hin, h⟩ := gd_o h
  refine o_sld hC hX hbl hbA hw hin dL_law_583 ?_
  refine lv_aload_n hx hb dL_law_584 rfl (lv_at hl 1 rfl) ?_
  refine lv_iload hx hb dL_law_585 (lv_at hl 5 rfl) ?_
  refine lv_iconst (v := 3) hx hb dL_law_587 (by decide) ?_
  refine lv_iadd hx hb dL_law_588 ?_
  obtain ⟨hin, h⟩ := gd_o h
  refine o_sld hC hX hbl hbA hw hin dL_law_589 ?_
  obtain ⟨r3, τ4, hc, h⟩ := bd_o h
  refine go_Ri (mc := 0) (ms := 0) (run_V (As := [.int (rs xs (i + (1 : Int32))), .int (rs xs (i + (2 : Int32))), .int (rs xs (i + (3 : Int32)))]) (rest := []) hC hw.right (c_X7_goal l D u k N τ (rs xs (i + (1 : Int32))) (rs xs (i + (2 : Int32))) (rs xs (i + (3 : Int32))) r3 τ4 hc) kw_598 kw_599 kw_600 kw_246 kw_601 hd_X7_goal ⟨rfl, rfl⟩ ⟨Nat.le_of_ble_eq_true rfl, Nat.le_of_ble_eq_true rfl⟩ 0 rfl rfl rfl hl.1 rfl (Nat.le_of_ble_eq_true rfl) dL_law_590 hf1) hw (fun H locs hw => ?_)
  refine lv_istore (lv' := [(6, .int r3), (5, .int r1), (0, .ref b), (1, .ref (q 0)), (2, .ref (u 0)), (3, .ref (q 29)), (4, .int i)]) hx hb dL_law_593 hl (by decide) rfl (fun ls hl => ?_)
  refine lv_aload_n hx hb dL_law_595 rfl (lv_at hl 4 rfl) ?_
  obtain ⟨r5, hc, h⟩ := bd1_o h
  refine go_Ri (mc := 0) (ms := 0) (run_V (As := []) (rest := []) hC hw.right (c_X7_thrown l D u k N τ4 r5 hc) kw_563 kw_564 kw_565 kw_246 kw_566 hd_X7_thrown ⟨rfl, rfl⟩ ⟨Nat.le_of_ble_eq_true rfl, Nat.le_of_ble_eq_true rfl⟩ 0 rfl rfl rfl hl.1 rfl (Nat.le_of_ble_eq_true rfl) dL_law_596 hf1) hw (fun H locs hw => ?_)
  refine lv_iload hx hb dL_law_599 (lv_at hl 1 rfl) ?_
  refine lv_icmp_eq (tgt := 606) hx hb dL_law_601 (by decide) (fun c => ?_) (fun c => ?_)
  · have h := if_t h c
    refine lv_iload hx hb dL_law_606 (lv_at hl 1 rfl) ?_
    refine lv_if_ne (tgt := 623) hx hb dL_law_608 (by decide) (fun c => ?_) (fun c => ?_)
    · have h := if_f h c
      refine lv_goto (tgt := 1179) hx hb dL_law_623 (by decide) ?_
      refine W.widen (k := cells + 1) (n := slots + 6) (by omega) (by omega) ?_
      exact hK σ2 τ4 _ _ ls h hw (lv_sub hl [2, 3, 4, 5, 6] rfl)
    · have h := if_t h c
      refine lv_aload_n hx hb dL_law_611 rfl (lv_at hl 5 rfl) ?_
      refine lv_iconst (v := 0) hx hb dL_law_612 (by decide) ?_
      obtain ⟨hin, h⟩ := gd_o h
      refine C_ld29 hC hw.left hin dL_law_613 ?_
      refine lv_iload hx hb dL_law_614 (lv_at hl 0 rfl) ?_
      refine lv_i2l (v := Int32.toInt64 r3) hx hb dL_law_616 rfl ?_
      refine W.lcmp hx hb dL_law_617 ?_
      refine lv_if_eq (tgt := 623) hx hb dL_law_618 (by decide) (fun c => ?_) (fun c => ?_)
      · have h := if_t h c
        refine lv_goto (tgt := 1179) hx hb dL_law_623 (by decide) ?_
        refine W.widen (k := cells + 1) (n := slots + 6) (by omega) (by omega) ?_
        exact hK σ2 τ4 _ _ ls h hw (lv_sub hl [2, 3, 4, 5, 6] rfl)
      · have h := if_f h c
        exact absurd (Option.some.inj h) (by decide)
  · have h := if_f h c
    exact absurd (Option.some.inj h) (by decide)
/-! the law, call 6 -/
def g_law_6 (N : Nat) (xs : Nat → Int32) (L : Nat) (σ τ : St) (i : Int32) (K : St → St → Option Int32) : Option Int32 :=
  gd (okx (i + (1 : Int32)) L) (gd (okx (i + (2 : Int32)) L) (gd (okx (i + (3 : Int32)) L) (bd (f_L_kindGoal N σ (rs xs (i + (1 : Int32))) (rs xs (i + (2 : Int32))) (rs xs (i + (3 : Int32)))) (fun r1 σ2 => gd (okx (i + (1 : Int32)) L) (gd (okx (i + (2 : Int32)) L) (gd (okx (i + (3 : Int32)) L) (bd (f_X7_kindGoal N τ (rs xs (i + (1 : Int32))) (rs xs (i + (2 : Int32))) (rs xs (i + (3 : Int32)))) (fun r3 τ4 => bd1 (f_X7_thrown N τ4) (fun r5 => if r5 = r1 then (if r1 = 0 then (gd (okx (0 : Int32) 1) (if (lg_cmp (rl σ2 3 (0 : Int32)) (Int32.toInt64 r3)) = 0 then (K σ2 τ4) else (some 0))) else (K σ2 τ4)) else (some 0))))))))))
set_option maxRecDepth 100000 in
set_option maxHeartbeats 4000000 in
theorem w_law_6 {p : Program} {l : Launch} {e : Env} {s : State} {m : MethodId} {below : List Frame} {meth : Method} {c : Code} {D : va_G} {q u : Nat → Nat} {k : cK} {sa : Nat → Nat} {b L : Nat} {xs : Nat → Int32} (hC : Cx p s m meth c cL_law RL 7 ret) (hst : l.stackTraces = false) (hz : XPm (fun a => s.heap.size ≤ a) sa s s.heap) (hX : va_X b L xs s s.heap) (hbl : b < s.heap.size) (N : Nat) (i : Int32) (K : St → St → Option Int32) {cells slots : Nat} (hcs : cells + 1 ≤ 601024 ∧ slots + 6 ≤ 7293000)
    (hK : ∀ (σ τ : St) (H : Heap) (locs : List Loc) (ls : Array Slot), K σ τ = some 1 → WH D (CW q k σ ++ MW u k τ) k (fun a => s.heap.size ≤ a) s s.heap H locs → lv_has ls 7 [(0, .ref b), (1, .ref (q 0)), (2, .ref (u 0)), (3, .ref (q 29)), (4, .int i)] → W p l e room_1 s m #[Value.ref b] below meth c H locs (cells + 1) (slots + 6) (lw_Z below #[Value.ref b] s) (F0 m 1179 ls [])) :
    ∀ (σ τ : St) (H : Heap) (locs : List Loc) (ls : Array Slot), g_law_6 N xs L σ τ i K = some 1 → WH D (CW q k σ ++ MW u k τ) k (fun a => s.heap.size ≤ a) s s.heap H locs → lv_has ls 7 [(0, .ref b), (1, .ref (q 0)), (2, .ref (u 0)), (3, .ref (q 29)), (4, .int i)] → W p l e room_1 s m #[Value.ref b] below meth c H locs cells slots (lw_Z below #[Value.ref b] s) (F0 m 626 ls []) := by
  intro σ τ H locs ls h hw hl
  have hx := hC.1
  have hb := hC.2.1
  have hbA : ¬ (fun a : Nat => s.heap.size ≤ a) b := Nat.not_le.mpr hbl
  have hf0 : cells ≤ room_1.cells ∧ slots ≤ room_1.slots := ⟨Nat.le_trans (Nat.le_succ _) hcs.1, Nat.le_trans (Nat.le_add_right _ 6) hcs.2⟩
  have hf1 : cells + 1 ≤ room_1.cells ∧ slots + 6 ≤ room_1.slots := hcs
  unfold g_law_6 at h
  refine lv_aload_n hx hb dL_law_626 rfl (lv_at hl 1 rfl) ?_
  refine lv_aload_n hx hb dL_law_627 rfl (lv_at hl 0 rfl) ?_
  refine lv_iload hx hb dL_law_628 (lv_at hl 4 rfl) ?_
  refine lv_iconst (v := 1) hx hb dL_law_630 (by decide) ?_
  refine lv_iadd hx hb dL_law_631 ?_
  obtain ⟨hin, h⟩ := gd_o h
  refine o_sld hC hX hbl hbA hw hin dL_law_632 ?_
  refine lv_aload_n hx hb dL_law_633 rfl (lv_at hl 0 rfl) ?_
  refine lv_iload hx hb dL_law_634 (lv_at hl 4 rfl) ?_
  refine lv_iconst (v := 2) hx hb dL_law_636 (by decide) ?_
  refine lv_iadd hx hb dL_law_637 ?_
  obtain ⟨hin, h⟩ := gd_o h
  refine o_sld hC hX hbl hbA hw hin dL_law_638 ?_
  refine lv_aload_n hx hb dL_law_639 rfl (lv_at hl 0 rfl) ?_
  refine lv_iload hx hb dL_law_640 (lv_at hl 4 rfl) ?_
  refine lv_iconst (v := 3) hx hb dL_law_642 (by decide) ?_
  refine lv_iadd hx hb dL_law_643 ?_
  obtain ⟨hin, h⟩ := gd_o h
  refine o_sld hC hX hbl hbA hw hin dL_law_644 ?_
  refine lv_aload_n hx hb dL_law_645 rfl (lv_at hl 3 rfl) ?_
  obtain ⟨r1, σ2, hc, h⟩ := bd_o h
  refine go_Li (run_SW (As := [.ref (q 0), .int (rs xs (i + (1 : Int32))), .int (rs xs (i + (2 : Int32))), .int (rs xs (i + (3 : Int32))), .ref (q 29)]) (rest := []) hC hw.left hz (c_L_kindGoal l hst D q k sa N σ (rs xs (i + (1 : Int32))) (rs xs (i + (2 : Int32))) (rs xs (i + (3 : Int32))) r1 σ2 hc) kw_602 kw_604 kw_556 kw_603 hd_L_kindGoal ⟨rfl, rfl⟩ ⟨Nat.le_of_ble_eq_true rfl, Nat.le_of_ble_eq_true rfl⟩ rfl hl.1 rfl (Nat.le_of_ble_eq_true rfl) dL_law_646 hf1) hw (fun H locs hw => ?_)
  refine lv_istore (lv' := [(5, .int r1), (0, .ref b), (1, .ref (q 0)), (2, .ref (u 0)), (3, .ref (q 29)), (4, .int i)]) hx hb dL_law_649 hl (by decide) rfl (fun ls hl => ?_)
  refine lv_aload_n hx hb dL_law_651 rfl (lv_at hl 3 rfl) ?_
  refine lv_aload_n hx hb dL_law_652 rfl (lv_at hl 1 rfl) ?_
  refine lv_iload hx hb dL_law_653 (lv_at hl 5 rfl) ?_
  refine lv_iconst (v := 1) hx hb dL_law_655 (by decide) ?_
  refine lv_iadd hx hb dL_law_656 ?_
  obtain ⟨hin, h⟩ := gd_o h
  refine o_sld hC hX hbl hbA hw hin dL_law_657 ?_
  refine lv_aload_n hx hb dL_law_658 rfl (lv_at hl 1 rfl) ?_
  refine lv_iload hx hb dL_law_659 (lv_at hl 5 rfl) ?_
  refine lv_iconst (v := 2) hx hb dL_law_661 (by decide) ?_
  refine lv_iadd hx hb dL_law_662 ?_
  obtain ⟨hin, h⟩ := gd_o h
  refine o_sld hC hX hbl hbA hw hin dL_law_663 ?_
  refine lv_aload_n hx hb dL_law_664 rfl (lv_at hl 1 rfl) ?_
  refine lv_iload hx hb dL_law_665 (lv_at hl 5 rfl) ?_
  refine lv_iconst (v := 3) hx hb dL_law_667 (by decide) ?_
  refine lv_iadd hx hb dL_law_668 ?_
  obtain ⟨hin, h⟩ := gd_o h
  refine o_sld hC hX hbl hbA hw hin dL_law_669 ?_
  obtain ⟨r3, τ4, hc, h⟩ := bd_o h
  refine go_Ri (mc := 0) (ms := 0) (run_V (As := [.int (rs xs (i + (1 : Int32))), .int (rs xs (i + (2 : Int32))), .int (rs xs (i + (3 : Int32)))]) (rest := []) hC hw.right (c_X7_kindGoal l D u k N τ (rs xs (i + (1 : Int32))) (rs xs (i + (2 : Int32))) (rs xs (i + (3 : Int32))) r3 τ4 hc) kw_605 kw_606 kw_607 kw_246 kw_608 hd_X7_kindGoal ⟨rfl, rfl⟩ ⟨Nat.le_of_ble_eq_true rfl, Nat.le_of_ble_eq_true rfl⟩ 0 rfl rfl rfl hl.1 rfl (Nat.le_of_ble_eq_true rfl) dL_law_670 hf1) hw (fun H locs hw => ?_)
  refine lv_istore (lv' := [(6, .int r3), (5, .int r1), (0, .ref b), (1, .ref (q 0)), (2, .ref (u 0)), (3, .ref (q 29)), (4, .int i)]) hx hb dL_law_673 hl (by decide) rfl (fun ls hl => ?_)
  refine lv_aload_n hx hb dL_law_675 rfl (lv_at hl 4 rfl) ?_
  obtain ⟨r5, hc, h⟩ := bd1_o h
  refine go_Ri (mc := 0) (ms := 0) (run_V (As := []) (rest := []) hC hw.right (c_X7_thrown l D u k N τ4 r5 hc) kw_563 kw_564 kw_565 kw_246 kw_566 hd_X7_thrown ⟨rfl, rfl⟩ ⟨Nat.le_of_ble_eq_true rfl, Nat.le_of_ble_eq_true rfl⟩ 0 rfl rfl rfl hl.1 rfl (Nat.le_of_ble_eq_true rfl) dL_law_676 hf1) hw (fun H locs hw => ?_)
  refine lv_iload hx hb dL_law_679 (lv_at hl 1 rfl) ?_
  refine lv_icmp_eq (tgt := 686) hx hb dL_law_681 (by decide) (fun c => ?_) (fun c => ?_)
  · have h := if_t h c
    refine lv_iload hx hb dL_law_686 (lv_at hl 1 rfl) ?_
    refine lv_if_ne (tgt := 703) hx hb dL_law_688 (by decide) (fun c => ?_) (fun c => ?_)
    · have h := if_f h c
      refine lv_goto (tgt := 1179) hx hb dL_law_703 (by decide) ?_
      refine W.widen (k := cells + 1) (n := slots + 6) (by omega) (by omega) ?_
      exact hK σ2 τ4 _ _ ls h hw (lv_sub hl [2, 3, 4, 5, 6] rfl)
    · have h := if_t h c
      refine lv_aload_n hx hb dL_law_691 rfl (lv_at hl 5 rfl) ?_
      refine lv_iconst (v := 0) hx hb dL_law_692 (by decide) ?_
      obtain ⟨hin, h⟩ := gd_o h
      refine C_ld29 hC hw.left hin dL_law_693 ?_
      refine lv_iload hx hb dL_law_694 (lv_at hl 0 rfl) ?_
      refine lv_i2l (v := Int32.toInt64 r3) hx hb dL_law_696 rfl ?_
      refine W.lcmp hx hb dL_law_697 ?_
      refine lv_if_eq (tgt := 703) hx hb dL_law_698 (by decide) (fun c => ?_) (fun c => ?_)
      · have h := if_t h c
        refine lv_goto (tgt := 1179) hx hb dL_law_703 (by decide) ?_
        refine W.widen (k := cells + 1) (n := slots + 6) (by omega) (by omega) ?_
        exact hK σ2 τ4 _ _ ls h hw (lv_sub hl [2, 3, 4, 5, 6] rfl)
      · have h := if_f h c
        exact absurd (Option.some.inj h) (by decide)
  · have h := if_f h c
    exact absurd (Option.some.inj h) (by decide)
/-! the law, call 7 -/
def g_law_7 (N : Nat) (xs : Nat → Int32) (L : Nat) (σ τ : St) (i : Int32) (K : St → St → Option Int32) : Option Int32 :=
  bd (f_X6_noGoals N σ) (fun r1 σ2 => bd (f_X7_noGoals N τ) (fun r3 τ4 => if r1 = r3 then (K σ2 τ4) else (some 0)))
set_option maxRecDepth 100000 in
set_option maxHeartbeats 4000000 in
theorem w_law_7 {p : Program} {l : Launch} {e : Env} {s : State} {m : MethodId} {below : List Frame} {meth : Method} {c : Code} {D : va_G} {q u : Nat → Nat} {k : cK} {sa : Nat → Nat} {b L : Nat} {xs : Nat → Int32} (hC : Cx p s m meth c cL_law RL 7 ret) (hst : l.stackTraces = false) (hz : XPm (fun a => s.heap.size ≤ a) sa s s.heap) (hX : va_X b L xs s s.heap) (hbl : b < s.heap.size) (N : Nat) (i : Int32) (K : St → St → Option Int32) {cells slots : Nat} (hcs : cells + 1 ≤ 601024 ∧ slots + 6 ≤ 7293000)
    (hK : ∀ (σ τ : St) (H : Heap) (locs : List Loc) (ls : Array Slot), K σ τ = some 1 → WH D (CW q k σ ++ MW u k τ) k (fun a => s.heap.size ≤ a) s s.heap H locs → lv_has ls 7 [(0, .ref b), (1, .ref (q 0)), (2, .ref (u 0)), (3, .ref (q 29)), (4, .int i)] → W p l e room_1 s m #[Value.ref b] below meth c H locs (cells + 1) (slots + 6) (lw_Z below #[Value.ref b] s) (F0 m 1179 ls [])) :
    ∀ (σ τ : St) (H : Heap) (locs : List Loc) (ls : Array Slot), g_law_7 N xs L σ τ i K = some 1 → WH D (CW q k σ ++ MW u k τ) k (fun a => s.heap.size ≤ a) s s.heap H locs → lv_has ls 7 [(0, .ref b), (1, .ref (q 0)), (2, .ref (u 0)), (3, .ref (q 29)), (4, .int i)] → W p l e room_1 s m #[Value.ref b] below meth c H locs cells slots (lw_Z below #[Value.ref b] s) (F0 m 706 ls []) := by
  intro σ τ H locs ls h hw hl
  have hx := hC.1
  have hb := hC.2.1
  have hbA : ¬ (fun a : Nat => s.heap.size ≤ a) b := Nat.not_le.mpr hbl
  have hf0 : cells ≤ room_1.cells ∧ slots ≤ room_1.slots := ⟨Nat.le_trans (Nat.le_succ _) hcs.1, Nat.le_trans (Nat.le_add_right _ 6) hcs.2⟩
  have hf1 : cells + 1 ≤ room_1.cells ∧ slots + 6 ≤ room_1.slots := hcs
  unfold g_law_7 at h
  refine lv_aload_n hx hb dL_law_706 rfl (lv_at hl 1 rfl) ?_
  obtain ⟨r1, σ2, hc, h⟩ := bd_o h
  refine go_Li (mc := 0) (ms := 0) (run_V (As := []) (rest := []) hC hw.left (c_X6_noGoals l D q k N σ r1 σ2 hc) kw_609 kw_610 kw_611 kw_6 kw_612 hd_X6_noGoals ⟨rfl, rfl⟩ ⟨Nat.le_of_ble_eq_true rfl, Nat.le_of_ble_eq_true rfl⟩ 0 rfl rfl rfl hl.1 rfl (Nat.le_of_ble_eq_true rfl) dL_law_707 hf0) hw (fun H locs hw => ?_)
  refine lv_aload_n hx hb dL_law_710 rfl (lv_at hl 2 rfl) ?_
  obtain ⟨r3, τ4, hc, h⟩ := bd_o h
  refine go_Ri (mc := 0) (ms := 0) (run_V (As := []) (rest := [.int r1]) hC hw.right (c_X7_noGoals l D u k N τ r3 τ4 hc) kw_613 kw_614 kw_615 kw_246 kw_616 hd_X7_noGoals ⟨rfl, rfl⟩ ⟨Nat.le_of_ble_eq_true rfl, Nat.le_of_ble_eq_true rfl⟩ 0 rfl rfl rfl hl.1 rfl (Nat.le_of_ble_eq_true rfl) dL_law_711 hf0) hw (fun H locs hw => ?_)
  refine lv_icmp_eq (tgt := 1179) hx hb dL_law_714 (by decide) (fun c => ?_) (fun c => ?_)
  · have h := if_t h c
    refine W.widen (k := cells + 1) (n := slots + 6) (by omega) (by omega) ?_
    exact hK σ2 τ4 _ _ ls h hw (lv_sub hl [0, 1, 2, 3, 4] rfl)
  · have h := if_f h c
    exact absurd (Option.some.inj h) (by decide)
/-! the law, call 8 -/
def g_law_8 (N : Nat) (xs : Nat → Int32) (L : Nat) (σ τ : St) (i : Int32) (K : St → St → Option Int32) : Option Int32 :=
  bd (f_X6_open N σ) (fun r1 σ2 => bd (f_X7_open N τ) (fun r3 τ4 => if r1 = r3 then (K σ2 τ4) else (some 0)))
set_option maxRecDepth 100000 in
set_option maxHeartbeats 4000000 in
theorem w_law_8 {p : Program} {l : Launch} {e : Env} {s : State} {m : MethodId} {below : List Frame} {meth : Method} {c : Code} {D : va_G} {q u : Nat → Nat} {k : cK} {sa : Nat → Nat} {b L : Nat} {xs : Nat → Int32} (hC : Cx p s m meth c cL_law RL 7 ret) (hst : l.stackTraces = false) (hz : XPm (fun a => s.heap.size ≤ a) sa s s.heap) (hX : va_X b L xs s s.heap) (hbl : b < s.heap.size) (N : Nat) (i : Int32) (K : St → St → Option Int32) {cells slots : Nat} (hcs : cells + 1 ≤ 601024 ∧ slots + 6 ≤ 7293000)
    (hK : ∀ (σ τ : St) (H : Heap) (locs : List Loc) (ls : Array Slot), K σ τ = some 1 → WH D (CW q k σ ++ MW u k τ) k (fun a => s.heap.size ≤ a) s s.heap H locs → lv_has ls 7 [(0, .ref b), (1, .ref (q 0)), (2, .ref (u 0)), (3, .ref (q 29)), (4, .int i)] → W p l e room_1 s m #[Value.ref b] below meth c H locs (cells + 1) (slots + 6) (lw_Z below #[Value.ref b] s) (F0 m 1179 ls [])) :
    ∀ (σ τ : St) (H : Heap) (locs : List Loc) (ls : Array Slot), g_law_8 N xs L σ τ i K = some 1 → WH D (CW q k σ ++ MW u k τ) k (fun a => s.heap.size ≤ a) s s.heap H locs → lv_has ls 7 [(0, .ref b), (1, .ref (q 0)), (2, .ref (u 0)), (3, .ref (q 29)), (4, .int i)] → W p l e room_1 s m #[Value.ref b] below meth c H locs cells slots (lw_Z below #[Value.ref b] s) (F0 m 719 ls []) := by
  intro σ τ H locs ls h hw hl
  have hx := hC.1
  have hb := hC.2.1
  have hbA : ¬ (fun a : Nat => s.heap.size ≤ a) b := Nat.not_le.mpr hbl
  have hf0 : cells ≤ room_1.cells ∧ slots ≤ room_1.slots := ⟨Nat.le_trans (Nat.le_succ _) hcs.1, Nat.le_trans (Nat.le_add_right _ 6) hcs.2⟩
  have hf1 : cells + 1 ≤ room_1.cells ∧ slots + 6 ≤ room_1.slots := hcs
  unfold g_law_8 at h
  refine lv_aload_n hx hb dL_law_719 rfl (lv_at hl 1 rfl) ?_
  obtain ⟨r1, σ2, hc, h⟩ := bd_o h
  refine go_Li (mc := 0) (ms := 0) (run_V (As := []) (rest := []) hC hw.left (c_X6_open l D q k N σ r1 σ2 hc) kw_617 kw_618 kw_619 kw_6 kw_620 hd_X6_open ⟨rfl, rfl⟩ ⟨Nat.le_of_ble_eq_true rfl, Nat.le_of_ble_eq_true rfl⟩ 0 rfl rfl rfl hl.1 rfl (Nat.le_of_ble_eq_true rfl) dL_law_720 hf0) hw (fun H locs hw => ?_)
  refine lv_aload_n hx hb dL_law_723 rfl (lv_at hl 2 rfl) ?_
  obtain ⟨r3, τ4, hc, h⟩ := bd_o h
  refine go_Ri (mc := 0) (ms := 0) (run_V (As := []) (rest := [.int r1]) hC hw.right (c_X7_open l D u k N τ r3 τ4 hc) kw_621 kw_622 kw_623 kw_246 kw_624 hd_X7_open ⟨rfl, rfl⟩ ⟨Nat.le_of_ble_eq_true rfl, Nat.le_of_ble_eq_true rfl⟩ 0 rfl rfl rfl hl.1 rfl (Nat.le_of_ble_eq_true rfl) dL_law_724 hf0) hw (fun H locs hw => ?_)
  refine lv_icmp_eq (tgt := 1179) hx hb dL_law_727 (by decide) (fun c => ?_) (fun c => ?_)
  · have h := if_t h c
    refine W.widen (k := cells + 1) (n := slots + 6) (by omega) (by omega) ?_
    exact hK σ2 τ4 _ _ ls h hw (lv_sub hl [0, 1, 2, 3, 4] rfl)
  · have h := if_f h c
    exact absurd (Option.some.inj h) (by decide)
/-! the law, call 9 -/
def g_law_9 (N : Nat) (xs : Nat → Int32) (L : Nat) (σ τ : St) (i : Int32) (K : St → St → Option Int32) : Option Int32 :=
  gd (okx (i + (1 : Int32)) L) (gd (okx (i + (2 : Int32)) L) (bd (f_X6_search N σ (rs xs (i + (1 : Int32))) (rs xs (i + (2 : Int32)))) (fun r1 σ2 => gd (okx (i + (1 : Int32)) L) (gd (okx (i + (2 : Int32)) L) (bd (f_X7_search N τ (rs xs (i + (1 : Int32))) (rs xs (i + (2 : Int32)))) (fun r3 τ4 => if r1 = r3 then (K σ2 τ4) else (some 0)))))))
set_option maxRecDepth 100000 in
set_option maxHeartbeats 4000000 in
theorem w_law_9 {p : Program} {l : Launch} {e : Env} {s : State} {m : MethodId} {below : List Frame} {meth : Method} {c : Code} {D : va_G} {q u : Nat → Nat} {k : cK} {sa : Nat → Nat} {b L : Nat} {xs : Nat → Int32} (hC : Cx p s m meth c cL_law RL 7 ret) (hst : l.stackTraces = false) (hz : XPm (fun a => s.heap.size ≤ a) sa s s.heap) (hX : va_X b L xs s s.heap) (hbl : b < s.heap.size) (N : Nat) (i : Int32) (K : St → St → Option Int32) {cells slots : Nat} (hcs : cells + 1 ≤ 601024 ∧ slots + 6 ≤ 7293000)
    (hK : ∀ (σ τ : St) (H : Heap) (locs : List Loc) (ls : Array Slot), K σ τ = some 1 → WH D (CW q k σ ++ MW u k τ) k (fun a => s.heap.size ≤ a) s s.heap H locs → lv_has ls 7 [(0, .ref b), (1, .ref (q 0)), (2, .ref (u 0)), (3, .ref (q 29)), (4, .int i)] → W p l e room_1 s m #[Value.ref b] below meth c H locs (cells + 1) (slots + 6) (lw_Z below #[Value.ref b] s) (F0 m 1179 ls [])) :
    ∀ (σ τ : St) (H : Heap) (locs : List Loc) (ls : Array Slot), g_law_9 N xs L σ τ i K = some 1 → WH D (CW q k σ ++ MW u k τ) k (fun a => s.heap.size ≤ a) s s.heap H locs → lv_has ls 7 [(0, .ref b), (1, .ref (q 0)), (2, .ref (u 0)), (3, .ref (q 29)), (4, .int i)] → W p l e room_1 s m #[Value.ref b] below meth c H locs cells slots (lw_Z below #[Value.ref b] s) (F0 m 732 ls []) := by
  intro σ τ H locs ls h hw hl
  have hx := hC.1
  have hb := hC.2.1
  have hbA : ¬ (fun a : Nat => s.heap.size ≤ a) b := Nat.not_le.mpr hbl
  have hf0 : cells ≤ room_1.cells ∧ slots ≤ room_1.slots := ⟨Nat.le_trans (Nat.le_succ _) hcs.1, Nat.le_trans (Nat.le_add_right _ 6) hcs.2⟩
  have hf1 : cells + 1 ≤ room_1.cells ∧ slots + 6 ≤ room_1.slots := hcs
  unfold g_law_9 at h
  refine lv_aload_n hx hb dL_law_732 rfl (lv_at hl 1 rfl) ?_
  refine lv_aload_n hx hb dL_law_733 rfl (lv_at hl 0 rfl) ?_
  refine lv_iload hx hb dL_law_734 (lv_at hl 4 rfl) ?_
  refine lv_iconst (v := 1) hx hb dL_law_736 (by decide) ?_
  refine lv_iadd hx hb dL_law_737 ?_
  obtain ⟨hin, h⟩ := gd_o h
  refine o_sld hC hX hbl hbA hw hin dL_law_738 ?_
  refine lv_aload_n hx hb dL_law_739 rfl (lv_at hl 0 rfl) ?_
  refine lv_iload hx hb dL_law_740 (lv_at hl 4 rfl) ?_
  refine lv_iconst (v := 2) hx hb dL_law_742 (by decide) ?_
  refine lv_iadd hx hb dL_law_743 ?_
  obtain ⟨hin, h⟩ := gd_o h
  refine o_sld hC hX hbl hbA hw hin dL_law_744 ?_
  obtain ⟨r1, σ2, hc, h⟩ := bd_o h
  refine go_Li (mc := 0) (ms := 0) (run_V (As := [.int (rs xs (i + (1 : Int32))), .int (rs xs (i + (2 : Int32)))]) (rest := []) hC hw.left (c_X6_search l D q k N σ (rs xs (i + (1 : Int32))) (rs xs (i + (2 : Int32))) r1 σ2 hc) kw_625 kw_626 kw_627 kw_6 kw_628 hd_X6_search ⟨rfl, rfl⟩ ⟨Nat.le_of_ble_eq_true rfl, Nat.le_of_ble_eq_true rfl⟩ 0 rfl rfl rfl hl.1 rfl (Nat.le_of_ble_eq_true rfl) dL_law_745 hf0) hw (fun H locs hw => ?_)
  refine lv_aload_n hx hb dL_law_748 rfl (lv_at hl 2 rfl) ?_
  refine lv_aload_n hx hb dL_law_749 rfl (lv_at hl 0 rfl) ?_
  refine lv_iload hx hb dL_law_750 (lv_at hl 4 rfl) ?_
  refine lv_iconst (v := 1) hx hb dL_law_752 (by decide) ?_
  refine lv_iadd hx hb dL_law_753 ?_
  obtain ⟨hin, h⟩ := gd_o h
  refine o_sld hC hX hbl hbA hw hin dL_law_754 ?_
  refine lv_aload_n hx hb dL_law_755 rfl (lv_at hl 0 rfl) ?_
  refine lv_iload hx hb dL_law_756 (lv_at hl 4 rfl) ?_
  refine lv_iconst (v := 2) hx hb dL_law_758 (by decide) ?_
  refine lv_iadd hx hb dL_law_759 ?_
  obtain ⟨hin, h⟩ := gd_o h
  refine o_sld hC hX hbl hbA hw hin dL_law_760 ?_
  obtain ⟨r3, τ4, hc, h⟩ := bd_o h
  refine go_Ri (mc := 0) (ms := 0) (run_V (As := [.int (rs xs (i + (1 : Int32))), .int (rs xs (i + (2 : Int32)))]) (rest := [.int r1]) hC hw.right (c_X7_search l D u k N τ (rs xs (i + (1 : Int32))) (rs xs (i + (2 : Int32))) r3 τ4 hc) kw_629 kw_630 kw_631 kw_246 kw_632 hd_X7_search ⟨rfl, rfl⟩ ⟨Nat.le_of_ble_eq_true rfl, Nat.le_of_ble_eq_true rfl⟩ 0 rfl rfl rfl hl.1 rfl (Nat.le_of_ble_eq_true rfl) dL_law_761 hf0) hw (fun H locs hw => ?_)
  refine lv_icmp_eq (tgt := 1179) hx hb dL_law_764 (by decide) (fun c => ?_) (fun c => ?_)
  · have h := if_t h c
    refine W.widen (k := cells + 1) (n := slots + 6) (by omega) (by omega) ?_
    exact hK σ2 τ4 _ _ ls h hw (lv_sub hl [0, 1, 2, 3, 4] rfl)
  · have h := if_f h c
    exact absurd (Option.some.inj h) (by decide)
/-! the law, call 10 -/
def g_law_10 (N : Nat) (xs : Nat → Int32) (L : Nat) (σ τ : St) (i : Int32) (K : St → St → Option Int32) : Option Int32 :=
  gd (okx (i + (1 : Int32)) L) (bd1 (f_X6_step N σ (rs xs (i + (1 : Int32)))) (fun r1 => gd (okx (i + (1 : Int32)) L) (bd (f_X7_step N τ (rs xs (i + (1 : Int32)))) (fun r2 τ3 => if r1 = r2 then (K σ τ3) else (some 0)))))
set_option maxRecDepth 100000 in
set_option maxHeartbeats 4000000 in
theorem w_law_10 {p : Program} {l : Launch} {e : Env} {s : State} {m : MethodId} {below : List Frame} {meth : Method} {c : Code} {D : va_G} {q u : Nat → Nat} {k : cK} {sa : Nat → Nat} {b L : Nat} {xs : Nat → Int32} (hC : Cx p s m meth c cL_law RL 7 ret) (hst : l.stackTraces = false) (hz : XPm (fun a => s.heap.size ≤ a) sa s s.heap) (hX : va_X b L xs s s.heap) (hbl : b < s.heap.size) (N : Nat) (i : Int32) (K : St → St → Option Int32) {cells slots : Nat} (hcs : cells + 1 ≤ 601024 ∧ slots + 6 ≤ 7293000)
    (hK : ∀ (σ τ : St) (H : Heap) (locs : List Loc) (ls : Array Slot), K σ τ = some 1 → WH D (CW q k σ ++ MW u k τ) k (fun a => s.heap.size ≤ a) s s.heap H locs → lv_has ls 7 [(0, .ref b), (1, .ref (q 0)), (2, .ref (u 0)), (3, .ref (q 29)), (4, .int i)] → W p l e room_1 s m #[Value.ref b] below meth c H locs (cells + 1) (slots + 6) (lw_Z below #[Value.ref b] s) (F0 m 1179 ls [])) :
    ∀ (σ τ : St) (H : Heap) (locs : List Loc) (ls : Array Slot), g_law_10 N xs L σ τ i K = some 1 → WH D (CW q k σ ++ MW u k τ) k (fun a => s.heap.size ≤ a) s s.heap H locs → lv_has ls 7 [(0, .ref b), (1, .ref (q 0)), (2, .ref (u 0)), (3, .ref (q 29)), (4, .int i)] → W p l e room_1 s m #[Value.ref b] below meth c H locs cells slots (lw_Z below #[Value.ref b] s) (F0 m 769 ls []) := by
  intro σ τ H locs ls h hw hl
  have hx := hC.1
  have hb := hC.2.1
  have hbA : ¬ (fun a : Nat => s.heap.size ≤ a) b := Nat.not_le.mpr hbl
  have hf0 : cells ≤ room_1.cells ∧ slots ≤ room_1.slots := ⟨Nat.le_trans (Nat.le_succ _) hcs.1, Nat.le_trans (Nat.le_add_right _ 6) hcs.2⟩
  have hf1 : cells + 1 ≤ room_1.cells ∧ slots + 6 ≤ room_1.slots := hcs
  unfold g_law_10 at h
  refine lv_aload_n hx hb dL_law_769 rfl (lv_at hl 1 rfl) ?_
  refine lv_aload_n hx hb dL_law_770 rfl (lv_at hl 0 rfl) ?_
  refine lv_iload hx hb dL_law_771 (lv_at hl 4 rfl) ?_
  refine lv_iconst (v := 1) hx hb dL_law_773 (by decide) ?_
  refine lv_iadd hx hb dL_law_774 ?_
  obtain ⟨hin, h⟩ := gd_o h
  refine o_sld hC hX hbl hbA hw hin dL_law_775 ?_
  obtain ⟨r1, hc, h⟩ := bd1_o h
  refine go_Li (mc := 0) (ms := 0) (run_V (As := [.int (rs xs (i + (1 : Int32)))]) (rest := []) hC hw.left (c_X6_step l D q k N σ (rs xs (i + (1 : Int32))) r1 hc) kw_633 kw_634 kw_635 kw_6 kw_636 hd_X6_step ⟨rfl, rfl⟩ ⟨Nat.le_of_ble_eq_true rfl, Nat.le_of_ble_eq_true rfl⟩ 0 rfl rfl rfl hl.1 rfl (Nat.le_of_ble_eq_true rfl) dL_law_776 hf0) hw (fun H locs hw => ?_)
  refine lv_aload_n hx hb dL_law_779 rfl (lv_at hl 2 rfl) ?_
  refine lv_aload_n hx hb dL_law_780 rfl (lv_at hl 0 rfl) ?_
  refine lv_iload hx hb dL_law_781 (lv_at hl 4 rfl) ?_
  refine lv_iconst (v := 1) hx hb dL_law_783 (by decide) ?_
  refine lv_iadd hx hb dL_law_784 ?_
  obtain ⟨hin, h⟩ := gd_o h
  refine o_sld hC hX hbl hbA hw hin dL_law_785 ?_
  obtain ⟨r2, τ3, hc, h⟩ := bd_o h
  refine go_Ri (mc := 0) (ms := 0) (run_V (As := [.int (rs xs (i + (1 : Int32)))]) (rest := [.int r1]) hC hw.right (c_X7_step l D u k N τ (rs xs (i + (1 : Int32))) r2 τ3 hc) kw_637 kw_638 kw_639 kw_246 kw_640 hd_X7_step ⟨rfl, rfl⟩ ⟨Nat.le_of_ble_eq_true rfl, Nat.le_of_ble_eq_true rfl⟩ 0 rfl rfl rfl hl.1 rfl (Nat.le_of_ble_eq_true rfl) dL_law_786 hf0) hw (fun H locs hw => ?_)
  refine lv_icmp_eq (tgt := 1179) hx hb dL_law_789 (by decide) (fun c => ?_) (fun c => ?_)
  · have h := if_t h c
    refine W.widen (k := cells + 1) (n := slots + 6) (by omega) (by omega) ?_
    exact hK σ τ3 _ _ ls h hw (lv_sub hl [0, 1, 2, 3, 4] rfl)
  · have h := if_f h c
    exact absurd (Option.some.inj h) (by decide)
/-! the law, call 11 -/
def g_law_11 (N : Nat) (xs : Nat → Int32) (L : Nat) (σ τ : St) (i : Int32) (K : St → St → Option Int32) : Option Int32 :=
  bd1 (f_X6_states N σ) (fun r1 => bd (f_X7_states N τ) (fun r2 τ3 => if r1 = r2 then (K σ τ3) else (some 0)))
set_option maxRecDepth 100000 in
set_option maxHeartbeats 4000000 in
theorem w_law_11 {p : Program} {l : Launch} {e : Env} {s : State} {m : MethodId} {below : List Frame} {meth : Method} {c : Code} {D : va_G} {q u : Nat → Nat} {k : cK} {sa : Nat → Nat} {b L : Nat} {xs : Nat → Int32} (hC : Cx p s m meth c cL_law RL 7 ret) (hst : l.stackTraces = false) (hz : XPm (fun a => s.heap.size ≤ a) sa s s.heap) (hX : va_X b L xs s s.heap) (hbl : b < s.heap.size) (N : Nat) (i : Int32) (K : St → St → Option Int32) {cells slots : Nat} (hcs : cells + 1 ≤ 601024 ∧ slots + 6 ≤ 7293000)
    (hK : ∀ (σ τ : St) (H : Heap) (locs : List Loc) (ls : Array Slot), K σ τ = some 1 → WH D (CW q k σ ++ MW u k τ) k (fun a => s.heap.size ≤ a) s s.heap H locs → lv_has ls 7 [(0, .ref b), (1, .ref (q 0)), (2, .ref (u 0)), (3, .ref (q 29)), (4, .int i)] → W p l e room_1 s m #[Value.ref b] below meth c H locs (cells + 1) (slots + 6) (lw_Z below #[Value.ref b] s) (F0 m 1179 ls [])) :
    ∀ (σ τ : St) (H : Heap) (locs : List Loc) (ls : Array Slot), g_law_11 N xs L σ τ i K = some 1 → WH D (CW q k σ ++ MW u k τ) k (fun a => s.heap.size ≤ a) s s.heap H locs → lv_has ls 7 [(0, .ref b), (1, .ref (q 0)), (2, .ref (u 0)), (3, .ref (q 29)), (4, .int i)] → W p l e room_1 s m #[Value.ref b] below meth c H locs cells slots (lw_Z below #[Value.ref b] s) (F0 m 794 ls []) := by
  intro σ τ H locs ls h hw hl
  have hx := hC.1
  have hb := hC.2.1
  have hbA : ¬ (fun a : Nat => s.heap.size ≤ a) b := Nat.not_le.mpr hbl
  have hf0 : cells ≤ room_1.cells ∧ slots ≤ room_1.slots := ⟨Nat.le_trans (Nat.le_succ _) hcs.1, Nat.le_trans (Nat.le_add_right _ 6) hcs.2⟩
  have hf1 : cells + 1 ≤ room_1.cells ∧ slots + 6 ≤ room_1.slots := hcs
  unfold g_law_11 at h
  refine lv_aload_n hx hb dL_law_794 rfl (lv_at hl 1 rfl) ?_
  obtain ⟨r1, hc, h⟩ := bd1_o h
  refine go_Li (mc := 0) (ms := 0) (run_V (As := []) (rest := []) hC hw.left (c_X6_states l D q k N σ r1 hc) kw_641 kw_642 kw_643 kw_6 kw_644 hd_X6_states ⟨rfl, rfl⟩ ⟨Nat.le_of_ble_eq_true rfl, Nat.le_of_ble_eq_true rfl⟩ 0 rfl rfl rfl hl.1 rfl (Nat.le_of_ble_eq_true rfl) dL_law_795 hf0) hw (fun H locs hw => ?_)
  refine lv_aload_n hx hb dL_law_798 rfl (lv_at hl 2 rfl) ?_
  obtain ⟨r2, τ3, hc, h⟩ := bd_o h
  refine go_Ri (mc := 0) (ms := 0) (run_V (As := []) (rest := [.int r1]) hC hw.right (c_X7_states l D u k N τ r2 τ3 hc) kw_645 kw_646 kw_647 kw_246 kw_648 hd_X7_states ⟨rfl, rfl⟩ ⟨Nat.le_of_ble_eq_true rfl, Nat.le_of_ble_eq_true rfl⟩ 0 rfl rfl rfl hl.1 rfl (Nat.le_of_ble_eq_true rfl) dL_law_799 hf0) hw (fun H locs hw => ?_)
  refine lv_icmp_eq (tgt := 1179) hx hb dL_law_802 (by decide) (fun c => ?_) (fun c => ?_)
  · have h := if_t h c
    refine W.widen (k := cells + 1) (n := slots + 6) (by omega) (by omega) ?_
    exact hK σ τ3 _ _ ls h hw (lv_sub hl [0, 1, 2, 3, 4] rfl)
  · have h := if_f h c
    exact absurd (Option.some.inj h) (by decide)
/-! the law, call 12 -/
def g_law_12 (N : Nat) (xs : Nat → Int32) (L : Nat) (σ τ : St) (i : Int32) (K : St → St → Option Int32) : Option Int32 :=
  bd (f_X6_reach N σ) (fun r1 σ2 => bd (f_X7_reach N τ) (fun r3 τ4 => if r1 = r3 then (K σ2 τ4) else (some 0)))
set_option maxRecDepth 100000 in
set_option maxHeartbeats 4000000 in
theorem w_law_12 {p : Program} {l : Launch} {e : Env} {s : State} {m : MethodId} {below : List Frame} {meth : Method} {c : Code} {D : va_G} {q u : Nat → Nat} {k : cK} {sa : Nat → Nat} {b L : Nat} {xs : Nat → Int32} (hC : Cx p s m meth c cL_law RL 7 ret) (hst : l.stackTraces = false) (hz : XPm (fun a => s.heap.size ≤ a) sa s s.heap) (hX : va_X b L xs s s.heap) (hbl : b < s.heap.size) (N : Nat) (i : Int32) (K : St → St → Option Int32) {cells slots : Nat} (hcs : cells + 1 ≤ 601024 ∧ slots + 6 ≤ 7293000)
    (hK : ∀ (σ τ : St) (H : Heap) (locs : List Loc) (ls : Array Slot), K σ τ = some 1 → WH D (CW q k σ ++ MW u k τ) k (fun a => s.heap.size ≤ a) s s.heap H locs → lv_has ls 7 [(0, .ref b), (1, .ref (q 0)), (2, .ref (u 0)), (3, .ref (q 29)), (4, .int i)] → W p l e room_1 s m #[Value.ref b] below meth c H locs (cells + 1) (slots + 6) (lw_Z below #[Value.ref b] s) (F0 m 1179 ls [])) :
    ∀ (σ τ : St) (H : Heap) (locs : List Loc) (ls : Array Slot), g_law_12 N xs L σ τ i K = some 1 → WH D (CW q k σ ++ MW u k τ) k (fun a => s.heap.size ≤ a) s s.heap H locs → lv_has ls 7 [(0, .ref b), (1, .ref (q 0)), (2, .ref (u 0)), (3, .ref (q 29)), (4, .int i)] → W p l e room_1 s m #[Value.ref b] below meth c H locs cells slots (lw_Z below #[Value.ref b] s) (F0 m 807 ls []) := by
  intro σ τ H locs ls h hw hl
  have hx := hC.1
  have hb := hC.2.1
  have hbA : ¬ (fun a : Nat => s.heap.size ≤ a) b := Nat.not_le.mpr hbl
  have hf0 : cells ≤ room_1.cells ∧ slots ≤ room_1.slots := ⟨Nat.le_trans (Nat.le_succ _) hcs.1, Nat.le_trans (Nat.le_add_right _ 6) hcs.2⟩
  have hf1 : cells + 1 ≤ room_1.cells ∧ slots + 6 ≤ room_1.slots := hcs
  unfold g_law_12 at h
  refine lv_aload_n hx hb dL_law_807 rfl (lv_at hl 1 rfl) ?_
  obtain ⟨r1, σ2, hc, h⟩ := bd_o h
  refine go_Li (mc := 0) (ms := 0) (run_V (As := []) (rest := []) hC hw.left (c_X6_reach l D q k N σ r1 σ2 hc) kw_649 kw_650 kw_651 kw_6 kw_652 hd_X6_reach ⟨rfl, rfl⟩ ⟨Nat.le_of_ble_eq_true rfl, Nat.le_of_ble_eq_true rfl⟩ 0 rfl rfl rfl hl.1 rfl (Nat.le_of_ble_eq_true rfl) dL_law_808 hf0) hw (fun H locs hw => ?_)
  refine lv_aload_n hx hb dL_law_811 rfl (lv_at hl 2 rfl) ?_
  obtain ⟨r3, τ4, hc, h⟩ := bd_o h
  refine go_Ri (mc := 0) (ms := 0) (run_V (As := []) (rest := [.int r1]) hC hw.right (c_X7_reach l D u k N τ r3 τ4 hc) kw_653 kw_654 kw_655 kw_246 kw_656 hd_X7_reach ⟨rfl, rfl⟩ ⟨Nat.le_of_ble_eq_true rfl, Nat.le_of_ble_eq_true rfl⟩ 0 rfl rfl rfl hl.1 rfl (Nat.le_of_ble_eq_true rfl) dL_law_812 hf0) hw (fun H locs hw => ?_)
  refine lv_icmp_eq (tgt := 1179) hx hb dL_law_815 (by decide) (fun c => ?_) (fun c => ?_)
  · have h := if_t h c
    refine W.widen (k := cells + 1) (n := slots + 6) (by omega) (by omega) ?_
    exact hK σ2 τ4 _ _ ls h hw (lv_sub hl [0, 1, 2, 3, 4] rfl)
  · have h := if_f h c
    exact absurd (Option.some.inj h) (by decide)
/-! the law, call 13 -/
def g_law_13 (N : Nat) (xs : Nat → Int32) (L : Nat) (σ τ : St) (i : Int32) (K : St → St → Option Int32) : Option Int32 :=
  gd (okx (i + (1 : Int32)) L) (bd1 (f_X6_picture N σ (rs xs (i + (1 : Int32)))) (fun r1 => gd (okx (i + (1 : Int32)) L) (bd (f_X7_picture N τ (rs xs (i + (1 : Int32)))) (fun r2 τ3 => if r1 = r2 then (K σ τ3) else (some 0)))))
set_option maxRecDepth 100000 in
set_option maxHeartbeats 4000000 in
theorem w_law_13 {p : Program} {l : Launch} {e : Env} {s : State} {m : MethodId} {below : List Frame} {meth : Method} {c : Code} {D : va_G} {q u : Nat → Nat} {k : cK} {sa : Nat → Nat} {b L : Nat} {xs : Nat → Int32} (hC : Cx p s m meth c cL_law RL 7 ret) (hst : l.stackTraces = false) (hz : XPm (fun a => s.heap.size ≤ a) sa s s.heap) (hX : va_X b L xs s s.heap) (hbl : b < s.heap.size) (N : Nat) (i : Int32) (K : St → St → Option Int32) {cells slots : Nat} (hcs : cells + 1 ≤ 601024 ∧ slots + 6 ≤ 7293000)
    (hK : ∀ (σ τ : St) (H : Heap) (locs : List Loc) (ls : Array Slot), K σ τ = some 1 → WH D (CW q k σ ++ MW u k τ) k (fun a => s.heap.size ≤ a) s s.heap H locs → lv_has ls 7 [(0, .ref b), (1, .ref (q 0)), (2, .ref (u 0)), (3, .ref (q 29)), (4, .int i)] → W p l e room_1 s m #[Value.ref b] below meth c H locs (cells + 1) (slots + 6) (lw_Z below #[Value.ref b] s) (F0 m 1179 ls [])) :
    ∀ (σ τ : St) (H : Heap) (locs : List Loc) (ls : Array Slot), g_law_13 N xs L σ τ i K = some 1 → WH D (CW q k σ ++ MW u k τ) k (fun a => s.heap.size ≤ a) s s.heap H locs → lv_has ls 7 [(0, .ref b), (1, .ref (q 0)), (2, .ref (u 0)), (3, .ref (q 29)), (4, .int i)] → W p l e room_1 s m #[Value.ref b] below meth c H locs cells slots (lw_Z below #[Value.ref b] s) (F0 m 820 ls []) := by
  intro σ τ H locs ls h hw hl
  have hx := hC.1
  have hb := hC.2.1
  have hbA : ¬ (fun a : Nat => s.heap.size ≤ a) b := Nat.not_le.mpr hbl
  have hf0 : cells ≤ room_1.cells ∧ slots ≤ room_1.slots := ⟨Nat.le_trans (Nat.le_succ _) hcs.1, Nat.le_trans (Nat.le_add_right _ 6) hcs.2⟩
  have hf1 : cells + 1 ≤ room_1.cells ∧ slots + 6 ≤ room_1.slots := hcs
  unfold g_law_13 at h
  refine lv_aload_n hx hb dL_law_820 rfl (lv_at hl 1 rfl) ?_
  refine lv_aload_n hx hb dL_law_821 rfl (lv_at hl 0 rfl) ?_
  refine lv_iload hx hb dL_law_822 (lv_at hl 4 rfl) ?_
  refine lv_iconst (v := 1) hx hb dL_law_824 (by decide) ?_
  refine lv_iadd hx hb dL_law_825 ?_
  obtain ⟨hin, h⟩ := gd_o h
  refine o_sld hC hX hbl hbA hw hin dL_law_826 ?_
  obtain ⟨r1, hc, h⟩ := bd1_o h
  refine go_Li (mc := 0) (ms := 0) (run_V (As := [.int (rs xs (i + (1 : Int32)))]) (rest := []) hC hw.left (c_X6_picture l D q k N σ (rs xs (i + (1 : Int32))) r1 hc) kw_657 kw_658 kw_659 kw_6 kw_660 hd_X6_picture ⟨rfl, rfl⟩ ⟨Nat.le_of_ble_eq_true rfl, Nat.le_of_ble_eq_true rfl⟩ 0 rfl rfl rfl hl.1 rfl (Nat.le_of_ble_eq_true rfl) dL_law_827 hf0) hw (fun H locs hw => ?_)
  refine lv_aload_n hx hb dL_law_830 rfl (lv_at hl 2 rfl) ?_
  refine lv_aload_n hx hb dL_law_831 rfl (lv_at hl 0 rfl) ?_
  refine lv_iload hx hb dL_law_832 (lv_at hl 4 rfl) ?_
  refine lv_iconst (v := 1) hx hb dL_law_834 (by decide) ?_
  refine lv_iadd hx hb dL_law_835 ?_
  obtain ⟨hin, h⟩ := gd_o h
  refine o_sld hC hX hbl hbA hw hin dL_law_836 ?_
  obtain ⟨r2, τ3, hc, h⟩ := bd_o h
  refine go_Ri (mc := 0) (ms := 0) (run_V (As := [.int (rs xs (i + (1 : Int32)))]) (rest := [.int r1]) hC hw.right (c_X7_picture l D u k N τ (rs xs (i + (1 : Int32))) r2 τ3 hc) kw_661 kw_662 kw_663 kw_246 kw_664 hd_X7_picture ⟨rfl, rfl⟩ ⟨Nat.le_of_ble_eq_true rfl, Nat.le_of_ble_eq_true rfl⟩ 0 rfl rfl rfl hl.1 rfl (Nat.le_of_ble_eq_true rfl) dL_law_837 hf0) hw (fun H locs hw => ?_)
  refine lv_icmp_eq (tgt := 1179) hx hb dL_law_840 (by decide) (fun c => ?_) (fun c => ?_)
  · have h := if_t h c
    refine W.widen (k := cells + 1) (n := slots + 6) (by omega) (by omega) ?_
    exact hK σ τ3 _ _ ls h hw (lv_sub hl [0, 1, 2, 3, 4] rfl)
  · have h := if_f h c
    exact absurd (Option.some.inj h) (by decide)
/-! the law, call 14 -/
def g_law_14 (N : Nat) (xs : Nat → Int32) (L : Nat) (σ τ : St) (i : Int32) (K : St → St → Option Int32) : Option Int32 :=
  bd (f_X6_node N σ) (fun r1 σ2 => bd (f_X7_node N τ) (fun r3 τ4 => if r1 = r3 then (K σ2 τ4) else (some 0)))
set_option maxRecDepth 100000 in
set_option maxHeartbeats 4000000 in
theorem w_law_14 {p : Program} {l : Launch} {e : Env} {s : State} {m : MethodId} {below : List Frame} {meth : Method} {c : Code} {D : va_G} {q u : Nat → Nat} {k : cK} {sa : Nat → Nat} {b L : Nat} {xs : Nat → Int32} (hC : Cx p s m meth c cL_law RL 7 ret) (hst : l.stackTraces = false) (hz : XPm (fun a => s.heap.size ≤ a) sa s s.heap) (hX : va_X b L xs s s.heap) (hbl : b < s.heap.size) (N : Nat) (i : Int32) (K : St → St → Option Int32) {cells slots : Nat} (hcs : cells + 1 ≤ 601024 ∧ slots + 6 ≤ 7293000)
    (hK : ∀ (σ τ : St) (H : Heap) (locs : List Loc) (ls : Array Slot), K σ τ = some 1 → WH D (CW q k σ ++ MW u k τ) k (fun a => s.heap.size ≤ a) s s.heap H locs → lv_has ls 7 [(0, .ref b), (1, .ref (q 0)), (2, .ref (u 0)), (3, .ref (q 29)), (4, .int i)] → W p l e room_1 s m #[Value.ref b] below meth c H locs (cells + 1) (slots + 6) (lw_Z below #[Value.ref b] s) (F0 m 1179 ls [])) :
    ∀ (σ τ : St) (H : Heap) (locs : List Loc) (ls : Array Slot), g_law_14 N xs L σ τ i K = some 1 → WH D (CW q k σ ++ MW u k τ) k (fun a => s.heap.size ≤ a) s s.heap H locs → lv_has ls 7 [(0, .ref b), (1, .ref (q 0)), (2, .ref (u 0)), (3, .ref (q 29)), (4, .int i)] → W p l e room_1 s m #[Value.ref b] below meth c H locs cells slots (lw_Z below #[Value.ref b] s) (F0 m 845 ls []) := by
  intro σ τ H locs ls h hw hl
  have hx := hC.1
  have hb := hC.2.1
  have hbA : ¬ (fun a : Nat => s.heap.size ≤ a) b := Nat.not_le.mpr hbl
  have hf0 : cells ≤ room_1.cells ∧ slots ≤ room_1.slots := ⟨Nat.le_trans (Nat.le_succ _) hcs.1, Nat.le_trans (Nat.le_add_right _ 6) hcs.2⟩
  have hf1 : cells + 1 ≤ room_1.cells ∧ slots + 6 ≤ room_1.slots := hcs
  unfold g_law_14 at h
  refine lv_aload_n hx hb dL_law_845 rfl (lv_at hl 1 rfl) ?_
  obtain ⟨r1, σ2, hc, h⟩ := bd_o h
  refine go_Li (mc := 0) (ms := 0) (run_V (As := []) (rest := []) hC hw.left (c_X6_node l D q k N σ r1 σ2 hc) kw_665 kw_666 kw_667 kw_6 kw_668 hd_X6_node ⟨rfl, rfl⟩ ⟨Nat.le_of_ble_eq_true rfl, Nat.le_of_ble_eq_true rfl⟩ 0 rfl rfl rfl hl.1 rfl (Nat.le_of_ble_eq_true rfl) dL_law_846 hf0) hw (fun H locs hw => ?_)
  refine lv_aload_n hx hb dL_law_849 rfl (lv_at hl 2 rfl) ?_
  obtain ⟨r3, τ4, hc, h⟩ := bd_o h
  refine go_Ri (mc := 0) (ms := 0) (run_V (As := []) (rest := [.int r1]) hC hw.right (c_X7_node l D u k N τ r3 τ4 hc) kw_669 kw_670 kw_671 kw_246 kw_672 hd_X7_node ⟨rfl, rfl⟩ ⟨Nat.le_of_ble_eq_true rfl, Nat.le_of_ble_eq_true rfl⟩ 0 rfl rfl rfl hl.1 rfl (Nat.le_of_ble_eq_true rfl) dL_law_850 hf0) hw (fun H locs hw => ?_)
  refine lv_icmp_eq (tgt := 1179) hx hb dL_law_853 (by decide) (fun c => ?_) (fun c => ?_)
  · have h := if_t h c
    refine W.widen (k := cells + 1) (n := slots + 6) (by omega) (by omega) ?_
    exact hK σ2 τ4 _ _ ls h hw (lv_sub hl [0, 1, 2, 3, 4] rfl)
  · have h := if_f h c
    exact absurd (Option.some.inj h) (by decide)
/-! the law, call 15 -/
def g_law_15 (N : Nat) (xs : Nat → Int32) (L : Nat) (σ τ : St) (i : Int32) (K : St → St → Option Int32) : Option Int32 :=
  gd (okx (i + (1 : Int32)) L) (gd (okx (i + (2 : Int32)) L) (bd (f_L_join N σ (rs xs (i + (1 : Int32))) (rs xs (i + (2 : Int32)))) (fun r1 σ2 => gd (okx (i + (1 : Int32)) L) (gd (okx (i + (2 : Int32)) L) (bd (f_X7_join N τ (rs xs (i + (1 : Int32))) (rs xs (i + (2 : Int32)))) (fun r3 τ4 => bd1 (f_X7_thrown N τ4) (fun r5 => if r5 = r1 then (if r1 = 0 then (gd (okx (0 : Int32) 1) (if r3 = 0 then (if (lg_cmp (rl σ2 3 (0 : Int32)) (0 : Int64)) = 0 then (K σ2 τ4) else (some 0)) else (if (lg_cmp (rl σ2 3 (0 : Int32)) (1 : Int64)) = 0 then (K σ2 τ4) else (some 0)))) else (K σ2 τ4)) else (some 0))))))))
set_option maxRecDepth 100000 in
set_option maxHeartbeats 4000000 in
theorem w_law_15 {p : Program} {l : Launch} {e : Env} {s : State} {m : MethodId} {below : List Frame} {meth : Method} {c : Code} {D : va_G} {q u : Nat → Nat} {k : cK} {sa : Nat → Nat} {b L : Nat} {xs : Nat → Int32} (hC : Cx p s m meth c cL_law RL 7 ret) (hst : l.stackTraces = false) (hz : XPm (fun a => s.heap.size ≤ a) sa s s.heap) (hX : va_X b L xs s s.heap) (hbl : b < s.heap.size) (N : Nat) (i : Int32) (K : St → St → Option Int32) {cells slots : Nat} (hcs : cells + 1 ≤ 601024 ∧ slots + 6 ≤ 7293000)
    (hK : ∀ (σ τ : St) (H : Heap) (locs : List Loc) (ls : Array Slot), K σ τ = some 1 → WH D (CW q k σ ++ MW u k τ) k (fun a => s.heap.size ≤ a) s s.heap H locs → lv_has ls 7 [(0, .ref b), (1, .ref (q 0)), (2, .ref (u 0)), (3, .ref (q 29)), (4, .int i)] → W p l e room_1 s m #[Value.ref b] below meth c H locs (cells + 1) (slots + 6) (lw_Z below #[Value.ref b] s) (F0 m 1179 ls [])) :
    ∀ (σ τ : St) (H : Heap) (locs : List Loc) (ls : Array Slot), g_law_15 N xs L σ τ i K = some 1 → WH D (CW q k σ ++ MW u k τ) k (fun a => s.heap.size ≤ a) s s.heap H locs → lv_has ls 7 [(0, .ref b), (1, .ref (q 0)), (2, .ref (u 0)), (3, .ref (q 29)), (4, .int i)] → W p l e room_1 s m #[Value.ref b] below meth c H locs cells slots (lw_Z below #[Value.ref b] s) (F0 m 858 ls []) := by
  intro σ τ H locs ls h hw hl
  have hx := hC.1
  have hb := hC.2.1
  have hbA : ¬ (fun a : Nat => s.heap.size ≤ a) b := Nat.not_le.mpr hbl
  have hf0 : cells ≤ room_1.cells ∧ slots ≤ room_1.slots := ⟨Nat.le_trans (Nat.le_succ _) hcs.1, Nat.le_trans (Nat.le_add_right _ 6) hcs.2⟩
  have hf1 : cells + 1 ≤ room_1.cells ∧ slots + 6 ≤ room_1.slots := hcs
  unfold g_law_15 at h
  refine lv_aload_n hx hb dL_law_858 rfl (lv_at hl 1 rfl) ?_
  refine lv_aload_n hx hb dL_law_859 rfl (lv_at hl 0 rfl) ?_
  refine lv_iload hx hb dL_law_860 (lv_at hl 4 rfl) ?_
  refine lv_iconst (v := 1) hx hb dL_law_862 (by decide) ?_
  refine lv_iadd hx hb dL_law_863 ?_
  obtain ⟨hin, h⟩ := gd_o h
  refine o_sld hC hX hbl hbA hw hin dL_law_864 ?_
  refine lv_aload_n hx hb dL_law_865 rfl (lv_at hl 0 rfl) ?_
  refine lv_iload hx hb dL_law_866 (lv_at hl 4 rfl) ?_
  refine lv_iconst (v := 2) hx hb dL_law_868 (by decide) ?_
  refine lv_iadd hx hb dL_law_869 ?_
  obtain ⟨hin, h⟩ := gd_o h
  refine o_sld hC hX hbl hbA hw hin dL_law_870 ?_
  refine lv_aload_n hx hb dL_law_871 rfl (lv_at hl 3 rfl) ?_
  obtain ⟨r1, σ2, hc, h⟩ := bd_o h
  refine go_Li (run_SW (As := [.ref (q 0), .int (rs xs (i + (1 : Int32))), .int (rs xs (i + (2 : Int32))), .ref (q 29)]) (rest := []) hC hw.left hz (c_L_join l hst D q k sa N σ (rs xs (i + (1 : Int32))) (rs xs (i + (2 : Int32))) r1 σ2 hc) kw_673 kw_675 kw_556 kw_674 hd_L_join ⟨rfl, rfl⟩ ⟨Nat.le_of_ble_eq_true rfl, Nat.le_of_ble_eq_true rfl⟩ rfl hl.1 rfl (Nat.le_of_ble_eq_true rfl) dL_law_872 hf1) hw (fun H locs hw => ?_)
  refine lv_istore (lv' := [(5, .int r1), (0, .ref b), (1, .ref (q 0)), (2, .ref (u 0)), (3, .ref (q 29)), (4, .int i)]) hx hb dL_law_875 hl (by decide) rfl (fun ls hl => ?_)
  refine lv_aload_n hx hb dL_law_877 rfl (lv_at hl 3 rfl) ?_
  refine lv_aload_n hx hb dL_law_878 rfl (lv_at hl 1 rfl) ?_
  refine lv_iload hx hb dL_law_879 (lv_at hl 5 rfl) ?_
  refine lv_iconst (v := 1) hx hb dL_law_881 (by decide) ?_
  refine lv_iadd hx hb dL_law_882 ?_
  obtain ⟨hin, h⟩ := gd_o h
  refine o_sld hC hX hbl hbA hw hin dL_law_883 ?_
  refine lv_aload_n hx hb dL_law_884 rfl (lv_at hl 1 rfl) ?_
  refine lv_iload hx hb dL_law_885 (lv_at hl 5 rfl) ?_
  refine lv_iconst (v := 2) hx hb dL_law_887 (by decide) ?_
  refine lv_iadd hx hb dL_law_888 ?_
  obtain ⟨hin, h⟩ := gd_o h
  refine o_sld hC hX hbl hbA hw hin dL_law_889 ?_
  obtain ⟨r3, τ4, hc, h⟩ := bd_o h
  refine go_Ri (mc := 0) (ms := 0) (run_V (As := [.int (rs xs (i + (1 : Int32))), .int (rs xs (i + (2 : Int32)))]) (rest := []) hC hw.right (c_X7_join l D u k N τ (rs xs (i + (1 : Int32))) (rs xs (i + (2 : Int32))) r3 τ4 hc) kw_676 kw_677 kw_678 kw_246 kw_679 hd_X7_join ⟨rfl, rfl⟩ ⟨Nat.le_of_ble_eq_true rfl, Nat.le_of_ble_eq_true rfl⟩ 0 rfl rfl rfl hl.1 rfl (Nat.le_of_ble_eq_true rfl) dL_law_890 hf1) hw (fun H locs hw => ?_)
  refine lv_istore (lv' := [(6, .int r3), (5, .int r1), (0, .ref b), (1, .ref (q 0)), (2, .ref (u 0)), (3, .ref (q 29)), (4, .int i)]) hx hb dL_law_893 hl (by decide) rfl (fun ls hl => ?_)
  refine lv_aload_n hx hb dL_law_895 rfl (lv_at hl 4 rfl) ?_
  obtain ⟨r5, hc, h⟩ := bd1_o h
  refine go_Ri (mc := 0) (ms := 0) (run_V (As := []) (rest := []) hC hw.right (c_X7_thrown l D u k N τ4 r5 hc) kw_563 kw_564 kw_565 kw_246 kw_566 hd_X7_thrown ⟨rfl, rfl⟩ ⟨Nat.le_of_ble_eq_true rfl, Nat.le_of_ble_eq_true rfl⟩ 0 rfl rfl rfl hl.1 rfl (Nat.le_of_ble_eq_true rfl) dL_law_896 hf1) hw (fun H locs hw => ?_)
  refine lv_iload hx hb dL_law_899 (lv_at hl 1 rfl) ?_
  refine lv_icmp_eq (tgt := 906) hx hb dL_law_901 (by decide) (fun c => ?_) (fun c => ?_)
  · have h := if_t h c
    refine lv_iload hx hb dL_law_906 (lv_at hl 1 rfl) ?_
    refine lv_if_ne (tgt := 930) hx hb dL_law_908 (by decide) (fun c => ?_) (fun c => ?_)
    · have h := if_f h c
      refine lv_goto (tgt := 1179) hx hb dL_law_930 (by decide) ?_
      refine W.widen (k := cells + 1) (n := slots + 6) (by omega) (by omega) ?_
      exact hK σ2 τ4 _ _ ls h hw (lv_sub hl [2, 3, 4, 5, 6] rfl)
    · have h := if_t h c
      refine lv_aload_n hx hb dL_law_911 rfl (lv_at hl 5 rfl) ?_
      refine lv_iconst (v := 0) hx hb dL_law_912 (by decide) ?_
      obtain ⟨hin, h⟩ := gd_o h
      refine C_ld29 hC hw.left hin dL_law_913 ?_
      refine lv_iload hx hb dL_law_914 (lv_at hl 0 rfl) ?_
      refine lv_if_eq (tgt := 923) hx hb dL_law_916 (by decide) (fun c => ?_) (fun c => ?_)
      · have h := if_t h c
        refine lv_lconst (v := 0) hx hb dL_law_923 (by decide) ?_
        refine W.lcmp hx hb dL_law_924 ?_
        refine lv_if_eq (tgt := 930) hx hb dL_law_925 (by decide) (fun c => ?_) (fun c => ?_)
        · have h := if_t h c
          refine lv_goto (tgt := 1179) hx hb dL_law_930 (by decide) ?_
          refine W.widen (k := cells + 1) (n := slots + 6) (by omega) (by omega) ?_
          exact hK σ2 τ4 _ _ ls h hw (lv_sub hl [2, 3, 4, 5, 6] rfl)
        · have h := if_f h c
          exact absurd (Option.some.inj h) (by decide)
      · have h := if_f h c
        refine lv_lconst (v := 1) hx hb dL_law_919 (by decide) ?_
        refine lv_goto (tgt := 924) hx hb dL_law_920 (by decide) ?_
        refine W.lcmp hx hb dL_law_924 ?_
        refine lv_if_eq (tgt := 930) hx hb dL_law_925 (by decide) (fun c => ?_) (fun c => ?_)
        · have h := if_t h c
          refine lv_goto (tgt := 1179) hx hb dL_law_930 (by decide) ?_
          refine W.widen (k := cells + 1) (n := slots + 6) (by omega) (by omega) ?_
          exact hK σ2 τ4 _ _ ls h hw (lv_sub hl [2, 3, 4, 5, 6] rfl)
        · have h := if_f h c
          exact absurd (Option.some.inj h) (by decide)
  · have h := if_f h c
    exact absurd (Option.some.inj h) (by decide)
/-! the law, call 16 -/
def g_law_16 (N : Nat) (xs : Nat → Int32) (L : Nat) (σ τ : St) (i : Int32) (K : St → St → Option Int32) : Option Int32 :=
  gd (okx (i + (1 : Int32)) L) (bd (f_L_tile N σ (rs xs (i + (1 : Int32)))) (fun r1 σ2 => gd (okx (i + (1 : Int32)) L) (bd (f_X7_tile N τ (rs xs (i + (1 : Int32)))) (fun r3 τ4 => bd1 (f_X7_thrown N τ4) (fun r5 => if r5 = r1 then (if r1 = 0 then (gd (okx (0 : Int32) 1) (if (lg_cmp (rl σ2 3 (0 : Int32)) (Int32.toInt64 r3)) = 0 then (K σ2 τ4) else (some 0))) else (K σ2 τ4)) else (some 0))))))
set_option maxRecDepth 100000 in
set_option maxHeartbeats 4000000 in
theorem w_law_16 {p : Program} {l : Launch} {e : Env} {s : State} {m : MethodId} {below : List Frame} {meth : Method} {c : Code} {D : va_G} {q u : Nat → Nat} {k : cK} {sa : Nat → Nat} {b L : Nat} {xs : Nat → Int32} (hC : Cx p s m meth c cL_law RL 7 ret) (hst : l.stackTraces = false) (hz : XPm (fun a => s.heap.size ≤ a) sa s s.heap) (hX : va_X b L xs s s.heap) (hbl : b < s.heap.size) (N : Nat) (i : Int32) (K : St → St → Option Int32) {cells slots : Nat} (hcs : cells + 1 ≤ 601024 ∧ slots + 6 ≤ 7293000)
    (hK : ∀ (σ τ : St) (H : Heap) (locs : List Loc) (ls : Array Slot), K σ τ = some 1 → WH D (CW q k σ ++ MW u k τ) k (fun a => s.heap.size ≤ a) s s.heap H locs → lv_has ls 7 [(0, .ref b), (1, .ref (q 0)), (2, .ref (u 0)), (3, .ref (q 29)), (4, .int i)] → W p l e room_1 s m #[Value.ref b] below meth c H locs (cells + 1) (slots + 6) (lw_Z below #[Value.ref b] s) (F0 m 1179 ls [])) :
    ∀ (σ τ : St) (H : Heap) (locs : List Loc) (ls : Array Slot), g_law_16 N xs L σ τ i K = some 1 → WH D (CW q k σ ++ MW u k τ) k (fun a => s.heap.size ≤ a) s s.heap H locs → lv_has ls 7 [(0, .ref b), (1, .ref (q 0)), (2, .ref (u 0)), (3, .ref (q 29)), (4, .int i)] → W p l e room_1 s m #[Value.ref b] below meth c H locs cells slots (lw_Z below #[Value.ref b] s) (F0 m 933 ls []) := by
  intro σ τ H locs ls h hw hl
  have hx := hC.1
  have hb := hC.2.1
  have hbA : ¬ (fun a : Nat => s.heap.size ≤ a) b := Nat.not_le.mpr hbl
  have hf0 : cells ≤ room_1.cells ∧ slots ≤ room_1.slots := ⟨Nat.le_trans (Nat.le_succ _) hcs.1, Nat.le_trans (Nat.le_add_right _ 6) hcs.2⟩
  have hf1 : cells + 1 ≤ room_1.cells ∧ slots + 6 ≤ room_1.slots := hcs
  unfold g_law_16 at h
  refine lv_aload_n hx hb dL_law_933 rfl (lv_at hl 1 rfl) ?_
  refine lv_aload_n hx hb dL_law_934 rfl (lv_at hl 0 rfl) ?_
  refine lv_iload hx hb dL_law_935 (lv_at hl 4 rfl) ?_
  refine lv_iconst (v := 1) hx hb dL_law_937 (by decide) ?_
  refine lv_iadd hx hb dL_law_938 ?_
  obtain ⟨hin, h⟩ := gd_o h
  refine o_sld hC hX hbl hbA hw hin dL_law_939 ?_
  refine lv_aload_n hx hb dL_law_940 rfl (lv_at hl 3 rfl) ?_
  obtain ⟨r1, σ2, hc, h⟩ := bd_o h
  refine go_Li (run_SW (As := [.ref (q 0), .int (rs xs (i + (1 : Int32))), .ref (q 29)]) (rest := []) hC hw.left hz (c_L_tile l hst D q k sa N σ (rs xs (i + (1 : Int32))) r1 σ2 hc) kw_680 kw_682 kw_556 kw_681 hd_L_tile ⟨rfl, rfl⟩ ⟨Nat.le_of_ble_eq_true rfl, Nat.le_of_ble_eq_true rfl⟩ rfl hl.1 rfl (Nat.le_of_ble_eq_true rfl) dL_law_941 hf1) hw (fun H locs hw => ?_)
  refine lv_istore (lv' := [(5, .int r1), (0, .ref b), (1, .ref (q 0)), (2, .ref (u 0)), (3, .ref (q 29)), (4, .int i)]) hx hb dL_law_944 hl (by decide) rfl (fun ls hl => ?_)
  refine lv_aload_n hx hb dL_law_946 rfl (lv_at hl 3 rfl) ?_
  refine lv_aload_n hx hb dL_law_947 rfl (lv_at hl 1 rfl) ?_
  refine lv_iload hx hb dL_law_948 (lv_at hl 5 rfl) ?_
  refine lv_iconst (v := 1) hx hb dL_law_950 (by decide) ?_
  refine lv_iadd hx hb dL_law_951 ?_
  obtain ⟨hin, h⟩ := gd_o h
  refine o_sld hC hX hbl hbA hw hin dL_law_952 ?_
  obtain ⟨r3, τ4, hc, h⟩ := bd_o h
  refine go_Ri (mc := 0) (ms := 0) (run_V (As := [.int (rs xs (i + (1 : Int32)))]) (rest := []) hC hw.right (c_X7_tile l D u k N τ (rs xs (i + (1 : Int32))) r3 τ4 hc) kw_683 kw_684 kw_685 kw_246 kw_686 hd_X7_tile ⟨rfl, rfl⟩ ⟨Nat.le_of_ble_eq_true rfl, Nat.le_of_ble_eq_true rfl⟩ 0 rfl rfl rfl hl.1 rfl (Nat.le_of_ble_eq_true rfl) dL_law_953 hf1) hw (fun H locs hw => ?_)
  refine lv_istore (lv' := [(6, .int r3), (5, .int r1), (0, .ref b), (1, .ref (q 0)), (2, .ref (u 0)), (3, .ref (q 29)), (4, .int i)]) hx hb dL_law_956 hl (by decide) rfl (fun ls hl => ?_)
  refine lv_aload_n hx hb dL_law_958 rfl (lv_at hl 4 rfl) ?_
  obtain ⟨r5, hc, h⟩ := bd1_o h
  refine go_Ri (mc := 0) (ms := 0) (run_V (As := []) (rest := []) hC hw.right (c_X7_thrown l D u k N τ4 r5 hc) kw_563 kw_564 kw_565 kw_246 kw_566 hd_X7_thrown ⟨rfl, rfl⟩ ⟨Nat.le_of_ble_eq_true rfl, Nat.le_of_ble_eq_true rfl⟩ 0 rfl rfl rfl hl.1 rfl (Nat.le_of_ble_eq_true rfl) dL_law_959 hf1) hw (fun H locs hw => ?_)
  refine lv_iload hx hb dL_law_962 (lv_at hl 1 rfl) ?_
  refine lv_icmp_eq (tgt := 969) hx hb dL_law_964 (by decide) (fun c => ?_) (fun c => ?_)
  · have h := if_t h c
    refine lv_iload hx hb dL_law_969 (lv_at hl 1 rfl) ?_
    refine lv_if_ne (tgt := 986) hx hb dL_law_971 (by decide) (fun c => ?_) (fun c => ?_)
    · have h := if_f h c
      refine lv_goto (tgt := 1179) hx hb dL_law_986 (by decide) ?_
      refine W.widen (k := cells + 1) (n := slots + 6) (by omega) (by omega) ?_
      exact hK σ2 τ4 _ _ ls h hw (lv_sub hl [2, 3, 4, 5, 6] rfl)
    · have h := if_t h c
      refine lv_aload_n hx hb dL_law_974 rfl (lv_at hl 5 rfl) ?_
      refine lv_iconst (v := 0) hx hb dL_law_975 (by decide) ?_
      obtain ⟨hin, h⟩ := gd_o h
      refine C_ld29 hC hw.left hin dL_law_976 ?_
      refine lv_iload hx hb dL_law_977 (lv_at hl 0 rfl) ?_
      refine lv_i2l (v := Int32.toInt64 r3) hx hb dL_law_979 rfl ?_
      refine W.lcmp hx hb dL_law_980 ?_
      refine lv_if_eq (tgt := 986) hx hb dL_law_981 (by decide) (fun c => ?_) (fun c => ?_)
      · have h := if_t h c
        refine lv_goto (tgt := 1179) hx hb dL_law_986 (by decide) ?_
        refine W.widen (k := cells + 1) (n := slots + 6) (by omega) (by omega) ?_
        exact hK σ2 τ4 _ _ ls h hw (lv_sub hl [2, 3, 4, 5, 6] rfl)
      · have h := if_f h c
        exact absurd (Option.some.inj h) (by decide)
  · have h := if_f h c
    exact absurd (Option.some.inj h) (by decide)
/-! the law, call 17 -/
def g_law_17 (N : Nat) (xs : Nat → Int32) (L : Nat) (σ τ : St) (i : Int32) (K : St → St → Option Int32) : Option Int32 :=
  gd (okx (i + (1 : Int32)) L) (bd (f_L_shift N σ (rs xs (i + (1 : Int32)))) (fun r1 σ2 => gd (okx (i + (1 : Int32)) L) (bd (f_X7_shift N τ (rs xs (i + (1 : Int32)))) (fun r3 τ4 => bd1 (f_X7_thrown N τ4) (fun r5 => if r5 = r1 then (if r1 = 0 then (gd (okx (0 : Int32) 1) (if r3 = 0 then (if (lg_cmp (rl σ2 3 (0 : Int32)) (0 : Int64)) = 0 then (K σ2 τ4) else (some 0)) else (if (lg_cmp (rl σ2 3 (0 : Int32)) (1 : Int64)) = 0 then (K σ2 τ4) else (some 0)))) else (K σ2 τ4)) else (some 0))))))
set_option maxRecDepth 100000 in
set_option maxHeartbeats 4000000 in
theorem w_law_17 {p : Program} {l : Launch} {e : Env} {s : State} {m : MethodId} {below : List Frame} {meth : Method} {c : Code} {D : va_G} {q u : Nat → Nat} {k : cK} {sa : Nat → Nat} {b L : Nat} {xs : Nat → Int32} (hC : Cx p s m meth c cL_law RL 7 ret) (hst : l.stackTraces = false) (hz : XPm (fun a => s.heap.size ≤ a) sa s s.heap) (hX : va_X b L xs s s.heap) (hbl : b < s.heap.size) (N : Nat) (i : Int32) (K : St → St → Option Int32) {cells slots : Nat} (hcs : cells + 1 ≤ 601024 ∧ slots + 6 ≤ 7293000)
    (hK : ∀ (σ τ : St) (H : Heap) (locs : List Loc) (ls : Array Slot), K σ τ = some 1 → WH D (CW q k σ ++ MW u k τ) k (fun a => s.heap.size ≤ a) s s.heap H locs → lv_has ls 7 [(0, .ref b), (1, .ref (q 0)), (2, .ref (u 0)), (3, .ref (q 29)), (4, .int i)] → W p l e room_1 s m #[Value.ref b] below meth c H locs (cells + 1) (slots + 6) (lw_Z below #[Value.ref b] s) (F0 m 1179 ls [])) :
    ∀ (σ τ : St) (H : Heap) (locs : List Loc) (ls : Array Slot), g_law_17 N xs L σ τ i K = some 1 → WH D (CW q k σ ++ MW u k τ) k (fun a => s.heap.size ≤ a) s s.heap H locs → lv_has ls 7 [(0, .ref b), (1, .ref (q 0)), (2, .ref (u 0)), (3, .ref (q 29)), (4, .int i)] → W p l e room_1 s m #[Value.ref b] below meth c H locs cells slots (lw_Z below #[Value.ref b] s) (F0 m 989 ls []) := by
  intro σ τ H locs ls h hw hl
  have hx := hC.1
  have hb := hC.2.1
  have hbA : ¬ (fun a : Nat => s.heap.size ≤ a) b := Nat.not_le.mpr hbl
  have hf0 : cells ≤ room_1.cells ∧ slots ≤ room_1.slots := ⟨Nat.le_trans (Nat.le_succ _) hcs.1, Nat.le_trans (Nat.le_add_right _ 6) hcs.2⟩
  have hf1 : cells + 1 ≤ room_1.cells ∧ slots + 6 ≤ room_1.slots := hcs
  unfold g_law_17 at h
  refine lv_aload_n hx hb dL_law_989 rfl (lv_at hl 1 rfl) ?_
  refine lv_aload_n hx hb dL_law_990 rfl (lv_at hl 0 rfl) ?_
  refine lv_iload hx hb dL_law_991 (lv_at hl 4 rfl) ?_
  refine lv_iconst (v := 1) hx hb dL_law_993 (by decide) ?_
  refine lv_iadd hx hb dL_law_994 ?_
  obtain ⟨hin, h⟩ := gd_o h
  refine o_sld hC hX hbl hbA hw hin dL_law_995 ?_
  refine lv_aload_n hx hb dL_law_996 rfl (lv_at hl 3 rfl) ?_
  obtain ⟨r1, σ2, hc, h⟩ := bd_o h
  refine go_Li (run_SW (As := [.ref (q 0), .int (rs xs (i + (1 : Int32))), .ref (q 29)]) (rest := []) hC hw.left hz (c_L_shift l hst D q k sa N σ (rs xs (i + (1 : Int32))) r1 σ2 hc) kw_687 kw_689 kw_556 kw_688 hd_L_shift ⟨rfl, rfl⟩ ⟨Nat.le_of_ble_eq_true rfl, Nat.le_of_ble_eq_true rfl⟩ rfl hl.1 rfl (Nat.le_of_ble_eq_true rfl) dL_law_997 hf1) hw (fun H locs hw => ?_)
  refine lv_istore (lv' := [(5, .int r1), (0, .ref b), (1, .ref (q 0)), (2, .ref (u 0)), (3, .ref (q 29)), (4, .int i)]) hx hb dL_law_1000 hl (by decide) rfl (fun ls hl => ?_)
  refine lv_aload_n hx hb dL_law_1002 rfl (lv_at hl 3 rfl) ?_
  refine lv_aload_n hx hb dL_law_1003 rfl (lv_at hl 1 rfl) ?_
  refine lv_iload hx hb dL_law_1004 (lv_at hl 5 rfl) ?_
  refine lv_iconst (v := 1) hx hb dL_law_1006 (by decide) ?_
  refine lv_iadd hx hb dL_law_1007 ?_
  obtain ⟨hin, h⟩ := gd_o h
  refine o_sld hC hX hbl hbA hw hin dL_law_1008 ?_
  obtain ⟨r3, τ4, hc, h⟩ := bd_o h
  refine go_Ri (mc := 0) (ms := 0) (run_V (As := [.int (rs xs (i + (1 : Int32)))]) (rest := []) hC hw.right (c_X7_shift l D u k N τ (rs xs (i + (1 : Int32))) r3 τ4 hc) kw_690 kw_691 kw_692 kw_246 kw_693 hd_X7_shift ⟨rfl, rfl⟩ ⟨Nat.le_of_ble_eq_true rfl, Nat.le_of_ble_eq_true rfl⟩ 0 rfl rfl rfl hl.1 rfl (Nat.le_of_ble_eq_true rfl) dL_law_1009 hf1) hw (fun H locs hw => ?_)
  refine lv_istore (lv' := [(6, .int r3), (5, .int r1), (0, .ref b), (1, .ref (q 0)), (2, .ref (u 0)), (3, .ref (q 29)), (4, .int i)]) hx hb dL_law_1012 hl (by decide) rfl (fun ls hl => ?_)
  refine lv_aload_n hx hb dL_law_1014 rfl (lv_at hl 4 rfl) ?_
  obtain ⟨r5, hc, h⟩ := bd1_o h
  refine go_Ri (mc := 0) (ms := 0) (run_V (As := []) (rest := []) hC hw.right (c_X7_thrown l D u k N τ4 r5 hc) kw_563 kw_564 kw_565 kw_246 kw_566 hd_X7_thrown ⟨rfl, rfl⟩ ⟨Nat.le_of_ble_eq_true rfl, Nat.le_of_ble_eq_true rfl⟩ 0 rfl rfl rfl hl.1 rfl (Nat.le_of_ble_eq_true rfl) dL_law_1015 hf1) hw (fun H locs hw => ?_)
  refine lv_iload hx hb dL_law_1018 (lv_at hl 1 rfl) ?_
  refine lv_icmp_eq (tgt := 1025) hx hb dL_law_1020 (by decide) (fun c => ?_) (fun c => ?_)
  · have h := if_t h c
    refine lv_iload hx hb dL_law_1025 (lv_at hl 1 rfl) ?_
    refine lv_if_ne (tgt := 1049) hx hb dL_law_1027 (by decide) (fun c => ?_) (fun c => ?_)
    · have h := if_f h c
      refine lv_goto (tgt := 1179) hx hb dL_law_1049 (by decide) ?_
      refine W.widen (k := cells + 1) (n := slots + 6) (by omega) (by omega) ?_
      exact hK σ2 τ4 _ _ ls h hw (lv_sub hl [2, 3, 4, 5, 6] rfl)
    · have h := if_t h c
      refine lv_aload_n hx hb dL_law_1030 rfl (lv_at hl 5 rfl) ?_
      refine lv_iconst (v := 0) hx hb dL_law_1031 (by decide) ?_
      obtain ⟨hin, h⟩ := gd_o h
      refine C_ld29 hC hw.left hin dL_law_1032 ?_
      refine lv_iload hx hb dL_law_1033 (lv_at hl 0 rfl) ?_
      refine lv_if_eq (tgt := 1042) hx hb dL_law_1035 (by decide) (fun c => ?_) (fun c => ?_)
      · have h := if_t h c
        refine lv_lconst (v := 0) hx hb dL_law_1042 (by decide) ?_
        refine W.lcmp hx hb dL_law_1043 ?_
        refine lv_if_eq (tgt := 1049) hx hb dL_law_1044 (by decide) (fun c => ?_) (fun c => ?_)
        · have h := if_t h c
          refine lv_goto (tgt := 1179) hx hb dL_law_1049 (by decide) ?_
          refine W.widen (k := cells + 1) (n := slots + 6) (by omega) (by omega) ?_
          exact hK σ2 τ4 _ _ ls h hw (lv_sub hl [2, 3, 4, 5, 6] rfl)
        · have h := if_f h c
          exact absurd (Option.some.inj h) (by decide)
      · have h := if_f h c
        refine lv_lconst (v := 1) hx hb dL_law_1038 (by decide) ?_
        refine lv_goto (tgt := 1043) hx hb dL_law_1039 (by decide) ?_
        refine W.lcmp hx hb dL_law_1043 ?_
        refine lv_if_eq (tgt := 1049) hx hb dL_law_1044 (by decide) (fun c => ?_) (fun c => ?_)
        · have h := if_t h c
          refine lv_goto (tgt := 1179) hx hb dL_law_1049 (by decide) ?_
          refine W.widen (k := cells + 1) (n := slots + 6) (by omega) (by omega) ?_
          exact hK σ2 τ4 _ _ ls h hw (lv_sub hl [2, 3, 4, 5, 6] rfl)
        · have h := if_f h c
          exact absurd (Option.some.inj h) (by decide)
  · have h := if_f h c
    exact absurd (Option.some.inj h) (by decide)
/-! the law, call 18 -/
def g_law_18 (N : Nat) (xs : Nat → Int32) (L : Nat) (σ τ : St) (i : Int32) (K : St → St → Option Int32) : Option Int32 :=
  gd (okx (i + (1 : Int32)) L) (gd (okx (i + (2 : Int32)) L) (bd (f_L_swap N σ (rs xs (i + (1 : Int32))) (rs xs (i + (2 : Int32)))) (fun r1 σ2 => gd (okx (i + (1 : Int32)) L) (gd (okx (i + (2 : Int32)) L) (bd (f_X7_swap N τ (rs xs (i + (1 : Int32))) (rs xs (i + (2 : Int32)))) (fun r3 τ4 => bd1 (f_X7_thrown N τ4) (fun r5 => if r5 = r1 then (if r1 = 0 then (gd (okx (0 : Int32) 1) (if r3 = 0 then (if (lg_cmp (rl σ2 3 (0 : Int32)) (0 : Int64)) = 0 then (K σ2 τ4) else (some 0)) else (if (lg_cmp (rl σ2 3 (0 : Int32)) (1 : Int64)) = 0 then (K σ2 τ4) else (some 0)))) else (K σ2 τ4)) else (some 0))))))))
set_option maxRecDepth 100000 in
set_option maxHeartbeats 4000000 in
theorem w_law_18 {p : Program} {l : Launch} {e : Env} {s : State} {m : MethodId} {below : List Frame} {meth : Method} {c : Code} {D : va_G} {q u : Nat → Nat} {k : cK} {sa : Nat → Nat} {b L : Nat} {xs : Nat → Int32} (hC : Cx p s m meth c cL_law RL 7 ret) (hst : l.stackTraces = false) (hz : XPm (fun a => s.heap.size ≤ a) sa s s.heap) (hX : va_X b L xs s s.heap) (hbl : b < s.heap.size) (N : Nat) (i : Int32) (K : St → St → Option Int32) {cells slots : Nat} (hcs : cells + 1 ≤ 601024 ∧ slots + 6 ≤ 7293000)
    (hK : ∀ (σ τ : St) (H : Heap) (locs : List Loc) (ls : Array Slot), K σ τ = some 1 → WH D (CW q k σ ++ MW u k τ) k (fun a => s.heap.size ≤ a) s s.heap H locs → lv_has ls 7 [(0, .ref b), (1, .ref (q 0)), (2, .ref (u 0)), (3, .ref (q 29)), (4, .int i)] → W p l e room_1 s m #[Value.ref b] below meth c H locs (cells + 1) (slots + 6) (lw_Z below #[Value.ref b] s) (F0 m 1179 ls [])) :
    ∀ (σ τ : St) (H : Heap) (locs : List Loc) (ls : Array Slot), g_law_18 N xs L σ τ i K = some 1 → WH D (CW q k σ ++ MW u k τ) k (fun a => s.heap.size ≤ a) s s.heap H locs → lv_has ls 7 [(0, .ref b), (1, .ref (q 0)), (2, .ref (u 0)), (3, .ref (q 29)), (4, .int i)] → W p l e room_1 s m #[Value.ref b] below meth c H locs cells slots (lw_Z below #[Value.ref b] s) (F0 m 1052 ls []) := by
  intro σ τ H locs ls h hw hl
  have hx := hC.1
  have hb := hC.2.1
  have hbA : ¬ (fun a : Nat => s.heap.size ≤ a) b := Nat.not_le.mpr hbl
  have hf0 : cells ≤ room_1.cells ∧ slots ≤ room_1.slots := ⟨Nat.le_trans (Nat.le_succ _) hcs.1, Nat.le_trans (Nat.le_add_right _ 6) hcs.2⟩
  have hf1 : cells + 1 ≤ room_1.cells ∧ slots + 6 ≤ room_1.slots := hcs
  unfold g_law_18 at h
  refine lv_aload_n hx hb dL_law_1052 rfl (lv_at hl 1 rfl) ?_
  refine lv_aload_n hx hb dL_law_1053 rfl (lv_at hl 0 rfl) ?_
  refine lv_iload hx hb dL_law_1054 (lv_at hl 4 rfl) ?_
  refine lv_iconst (v := 1) hx hb dL_law_1056 (by decide) ?_
  refine lv_iadd hx hb dL_law_1057 ?_
  obtain ⟨hin, h⟩ := gd_o h
  refine o_sld hC hX hbl hbA hw hin dL_law_1058 ?_
  refine lv_aload_n hx hb dL_law_1059 rfl (lv_at hl 0 rfl) ?_
  refine lv_iload hx hb dL_law_1060 (lv_at hl 4 rfl) ?_
  refine lv_iconst (v := 2) hx hb dL_law_1062 (by decide) ?_
  refine lv_iadd hx hb dL_law_1063 ?_
  obtain ⟨hin, h⟩ := gd_o h
  refine o_sld hC hX hbl hbA hw hin dL_law_1064 ?_
  refine lv_aload_n hx hb dL_law_1065 rfl (lv_at hl 3 rfl) ?_
  obtain ⟨r1, σ2, hc, h⟩ := bd_o h
  refine go_Li (run_SW (As := [.ref (q 0), .int (rs xs (i + (1 : Int32))), .int (rs xs (i + (2 : Int32))), .ref (q 29)]) (rest := []) hC hw.left hz (c_L_swap l hst D q k sa N σ (rs xs (i + (1 : Int32))) (rs xs (i + (2 : Int32))) r1 σ2 hc) kw_694 kw_696 kw_556 kw_695 hd_L_swap ⟨rfl, rfl⟩ ⟨Nat.le_of_ble_eq_true rfl, Nat.le_of_ble_eq_true rfl⟩ rfl hl.1 rfl (Nat.le_of_ble_eq_true rfl) dL_law_1066 hf1) hw (fun H locs hw => ?_)
  refine lv_istore (lv' := [(5, .int r1), (0, .ref b), (1, .ref (q 0)), (2, .ref (u 0)), (3, .ref (q 29)), (4, .int i)]) hx hb dL_law_1069 hl (by decide) rfl (fun ls hl => ?_)
  refine lv_aload_n hx hb dL_law_1071 rfl (lv_at hl 3 rfl) ?_
  refine lv_aload_n hx hb dL_law_1072 rfl (lv_at hl 1 rfl) ?_
  refine lv_iload hx hb dL_law_1073 (lv_at hl 5 rfl) ?_
  refine lv_iconst (v := 1) hx hb dL_law_1075 (by decide) ?_
  refine lv_iadd hx hb dL_law_1076 ?_
  obtain ⟨hin, h⟩ := gd_o h
  refine o_sld hC hX hbl hbA hw hin dL_law_1077 ?_
  refine lv_aload_n hx hb dL_law_1078 rfl (lv_at hl 1 rfl) ?_
  refine lv_iload hx hb dL_law_1079 (lv_at hl 5 rfl) ?_
  refine lv_iconst (v := 2) hx hb dL_law_1081 (by decide) ?_
  refine lv_iadd hx hb dL_law_1082 ?_
  obtain ⟨hin, h⟩ := gd_o h
  refine o_sld hC hX hbl hbA hw hin dL_law_1083 ?_
  obtain ⟨r3, τ4, hc, h⟩ := bd_o h
  refine go_Ri (mc := 0) (ms := 0) (run_V (As := [.int (rs xs (i + (1 : Int32))), .int (rs xs (i + (2 : Int32)))]) (rest := []) hC hw.right (c_X7_swap l D u k N τ (rs xs (i + (1 : Int32))) (rs xs (i + (2 : Int32))) r3 τ4 hc) kw_697 kw_698 kw_699 kw_246 kw_700 hd_X7_swap ⟨rfl, rfl⟩ ⟨Nat.le_of_ble_eq_true rfl, Nat.le_of_ble_eq_true rfl⟩ 0 rfl rfl rfl hl.1 rfl (Nat.le_of_ble_eq_true rfl) dL_law_1084 hf1) hw (fun H locs hw => ?_)
  refine lv_istore (lv' := [(6, .int r3), (5, .int r1), (0, .ref b), (1, .ref (q 0)), (2, .ref (u 0)), (3, .ref (q 29)), (4, .int i)]) hx hb dL_law_1087 hl (by decide) rfl (fun ls hl => ?_)
  refine lv_aload_n hx hb dL_law_1089 rfl (lv_at hl 4 rfl) ?_
  obtain ⟨r5, hc, h⟩ := bd1_o h
  refine go_Ri (mc := 0) (ms := 0) (run_V (As := []) (rest := []) hC hw.right (c_X7_thrown l D u k N τ4 r5 hc) kw_563 kw_564 kw_565 kw_246 kw_566 hd_X7_thrown ⟨rfl, rfl⟩ ⟨Nat.le_of_ble_eq_true rfl, Nat.le_of_ble_eq_true rfl⟩ 0 rfl rfl rfl hl.1 rfl (Nat.le_of_ble_eq_true rfl) dL_law_1090 hf1) hw (fun H locs hw => ?_)
  refine lv_iload hx hb dL_law_1093 (lv_at hl 1 rfl) ?_
  refine lv_icmp_eq (tgt := 1100) hx hb dL_law_1095 (by decide) (fun c => ?_) (fun c => ?_)
  · have h := if_t h c
    refine lv_iload hx hb dL_law_1100 (lv_at hl 1 rfl) ?_
    refine lv_if_ne (tgt := 1124) hx hb dL_law_1102 (by decide) (fun c => ?_) (fun c => ?_)
    · have h := if_f h c
      refine lv_goto (tgt := 1179) hx hb dL_law_1124 (by decide) ?_
      refine W.widen (k := cells + 1) (n := slots + 6) (by omega) (by omega) ?_
      exact hK σ2 τ4 _ _ ls h hw (lv_sub hl [2, 3, 4, 5, 6] rfl)
    · have h := if_t h c
      refine lv_aload_n hx hb dL_law_1105 rfl (lv_at hl 5 rfl) ?_
      refine lv_iconst (v := 0) hx hb dL_law_1106 (by decide) ?_
      obtain ⟨hin, h⟩ := gd_o h
      refine C_ld29 hC hw.left hin dL_law_1107 ?_
      refine lv_iload hx hb dL_law_1108 (lv_at hl 0 rfl) ?_
      refine lv_if_eq (tgt := 1117) hx hb dL_law_1110 (by decide) (fun c => ?_) (fun c => ?_)
      · have h := if_t h c
        refine lv_lconst (v := 0) hx hb dL_law_1117 (by decide) ?_
        refine W.lcmp hx hb dL_law_1118 ?_
        refine lv_if_eq (tgt := 1124) hx hb dL_law_1119 (by decide) (fun c => ?_) (fun c => ?_)
        · have h := if_t h c
          refine lv_goto (tgt := 1179) hx hb dL_law_1124 (by decide) ?_
          refine W.widen (k := cells + 1) (n := slots + 6) (by omega) (by omega) ?_
          exact hK σ2 τ4 _ _ ls h hw (lv_sub hl [2, 3, 4, 5, 6] rfl)
        · have h := if_f h c
          exact absurd (Option.some.inj h) (by decide)
      · have h := if_f h c
        refine lv_lconst (v := 1) hx hb dL_law_1113 (by decide) ?_
        refine lv_goto (tgt := 1118) hx hb dL_law_1114 (by decide) ?_
        refine W.lcmp hx hb dL_law_1118 ?_
        refine lv_if_eq (tgt := 1124) hx hb dL_law_1119 (by decide) (fun c => ?_) (fun c => ?_)
        · have h := if_t h c
          refine lv_goto (tgt := 1179) hx hb dL_law_1124 (by decide) ?_
          refine W.widen (k := cells + 1) (n := slots + 6) (by omega) (by omega) ?_
          exact hK σ2 τ4 _ _ ls h hw (lv_sub hl [2, 3, 4, 5, 6] rfl)
        · have h := if_f h c
          exact absurd (Option.some.inj h) (by decide)
  · have h := if_f h c
    exact absurd (Option.some.inj h) (by decide)
/-! the law, call 19 -/
def g_law_19 (N : Nat) (xs : Nat → Int32) (L : Nat) (σ τ : St) (i : Int32) (K : St → St → Option Int32) : Option Int32 :=
  bd (f_X6_even N σ) (fun r1 σ2 => bd (f_X7_even N τ) (fun r3 τ4 => if r1 = r3 then (K σ2 τ4) else (some 0)))
set_option maxRecDepth 100000 in
set_option maxHeartbeats 4000000 in
theorem w_law_19 {p : Program} {l : Launch} {e : Env} {s : State} {m : MethodId} {below : List Frame} {meth : Method} {c : Code} {D : va_G} {q u : Nat → Nat} {k : cK} {sa : Nat → Nat} {b L : Nat} {xs : Nat → Int32} (hC : Cx p s m meth c cL_law RL 7 ret) (hst : l.stackTraces = false) (hz : XPm (fun a => s.heap.size ≤ a) sa s s.heap) (hX : va_X b L xs s s.heap) (hbl : b < s.heap.size) (N : Nat) (i : Int32) (K : St → St → Option Int32) {cells slots : Nat} (hcs : cells + 1 ≤ 601024 ∧ slots + 6 ≤ 7293000)
    (hK : ∀ (σ τ : St) (H : Heap) (locs : List Loc) (ls : Array Slot), K σ τ = some 1 → WH D (CW q k σ ++ MW u k τ) k (fun a => s.heap.size ≤ a) s s.heap H locs → lv_has ls 7 [(0, .ref b), (1, .ref (q 0)), (2, .ref (u 0)), (3, .ref (q 29)), (4, .int i)] → W p l e room_1 s m #[Value.ref b] below meth c H locs (cells + 1) (slots + 6) (lw_Z below #[Value.ref b] s) (F0 m 1179 ls [])) :
    ∀ (σ τ : St) (H : Heap) (locs : List Loc) (ls : Array Slot), g_law_19 N xs L σ τ i K = some 1 → WH D (CW q k σ ++ MW u k τ) k (fun a => s.heap.size ≤ a) s s.heap H locs → lv_has ls 7 [(0, .ref b), (1, .ref (q 0)), (2, .ref (u 0)), (3, .ref (q 29)), (4, .int i)] → W p l e room_1 s m #[Value.ref b] below meth c H locs cells slots (lw_Z below #[Value.ref b] s) (F0 m 1127 ls []) := by
  intro σ τ H locs ls h hw hl
  have hx := hC.1
  have hb := hC.2.1
  have hbA : ¬ (fun a : Nat => s.heap.size ≤ a) b := Nat.not_le.mpr hbl
  have hf0 : cells ≤ room_1.cells ∧ slots ≤ room_1.slots := ⟨Nat.le_trans (Nat.le_succ _) hcs.1, Nat.le_trans (Nat.le_add_right _ 6) hcs.2⟩
  have hf1 : cells + 1 ≤ room_1.cells ∧ slots + 6 ≤ room_1.slots := hcs
  unfold g_law_19 at h
  refine lv_aload_n hx hb dL_law_1127 rfl (lv_at hl 1 rfl) ?_
  obtain ⟨r1, σ2, hc, h⟩ := bd_o h
  refine go_Li (mc := 0) (ms := 0) (run_V (As := []) (rest := []) hC hw.left (c_X6_even l D q k N σ r1 σ2 hc) kw_701 kw_702 kw_703 kw_6 kw_704 hd_X6_even ⟨rfl, rfl⟩ ⟨Nat.le_of_ble_eq_true rfl, Nat.le_of_ble_eq_true rfl⟩ 0 rfl rfl rfl hl.1 rfl (Nat.le_of_ble_eq_true rfl) dL_law_1128 hf0) hw (fun H locs hw => ?_)
  refine lv_aload_n hx hb dL_law_1131 rfl (lv_at hl 2 rfl) ?_
  obtain ⟨r3, τ4, hc, h⟩ := bd_o h
  refine go_Ri (mc := 0) (ms := 0) (run_V (As := []) (rest := [.int r1]) hC hw.right (c_X7_even l D u k N τ r3 τ4 hc) kw_705 kw_706 kw_707 kw_246 kw_708 hd_X7_even ⟨rfl, rfl⟩ ⟨Nat.le_of_ble_eq_true rfl, Nat.le_of_ble_eq_true rfl⟩ 0 rfl rfl rfl hl.1 rfl (Nat.le_of_ble_eq_true rfl) dL_law_1132 hf0) hw (fun H locs hw => ?_)
  refine lv_icmp_eq (tgt := 1179) hx hb dL_law_1135 (by decide) (fun c => ?_) (fun c => ?_)
  · have h := if_t h c
    refine W.widen (k := cells + 1) (n := slots + 6) (by omega) (by omega) ?_
    exact hK σ2 τ4 _ _ ls h hw (lv_sub hl [0, 1, 2, 3, 4] rfl)
  · have h := if_f h c
    exact absurd (Option.some.inj h) (by decide)
/-! the law, call 20 -/
def g_law_20 (N : Nat) (xs : Nat → Int32) (L : Nat) (σ τ : St) (i : Int32) (K : St → St → Option Int32) : Option Int32 :=
  bd (f_X6_parity N σ) (fun r1 σ2 => bd (f_X7_parity N τ) (fun r3 τ4 => if r1 = r3 then (K σ2 τ4) else (some 0)))
set_option maxRecDepth 100000 in
set_option maxHeartbeats 4000000 in
theorem w_law_20 {p : Program} {l : Launch} {e : Env} {s : State} {m : MethodId} {below : List Frame} {meth : Method} {c : Code} {D : va_G} {q u : Nat → Nat} {k : cK} {sa : Nat → Nat} {b L : Nat} {xs : Nat → Int32} (hC : Cx p s m meth c cL_law RL 7 ret) (hst : l.stackTraces = false) (hz : XPm (fun a => s.heap.size ≤ a) sa s s.heap) (hX : va_X b L xs s s.heap) (hbl : b < s.heap.size) (N : Nat) (i : Int32) (K : St → St → Option Int32) {cells slots : Nat} (hcs : cells + 1 ≤ 601024 ∧ slots + 6 ≤ 7293000)
    (hK : ∀ (σ τ : St) (H : Heap) (locs : List Loc) (ls : Array Slot), K σ τ = some 1 → WH D (CW q k σ ++ MW u k τ) k (fun a => s.heap.size ≤ a) s s.heap H locs → lv_has ls 7 [(0, .ref b), (1, .ref (q 0)), (2, .ref (u 0)), (3, .ref (q 29)), (4, .int i)] → W p l e room_1 s m #[Value.ref b] below meth c H locs (cells + 1) (slots + 6) (lw_Z below #[Value.ref b] s) (F0 m 1179 ls [])) :
    ∀ (σ τ : St) (H : Heap) (locs : List Loc) (ls : Array Slot), g_law_20 N xs L σ τ i K = some 1 → WH D (CW q k σ ++ MW u k τ) k (fun a => s.heap.size ≤ a) s s.heap H locs → lv_has ls 7 [(0, .ref b), (1, .ref (q 0)), (2, .ref (u 0)), (3, .ref (q 29)), (4, .int i)] → W p l e room_1 s m #[Value.ref b] below meth c H locs cells slots (lw_Z below #[Value.ref b] s) (F0 m 1140 ls []) := by
  intro σ τ H locs ls h hw hl
  have hx := hC.1
  have hb := hC.2.1
  have hbA : ¬ (fun a : Nat => s.heap.size ≤ a) b := Nat.not_le.mpr hbl
  have hf0 : cells ≤ room_1.cells ∧ slots ≤ room_1.slots := ⟨Nat.le_trans (Nat.le_succ _) hcs.1, Nat.le_trans (Nat.le_add_right _ 6) hcs.2⟩
  have hf1 : cells + 1 ≤ room_1.cells ∧ slots + 6 ≤ room_1.slots := hcs
  unfold g_law_20 at h
  refine lv_aload_n hx hb dL_law_1140 rfl (lv_at hl 1 rfl) ?_
  obtain ⟨r1, σ2, hc, h⟩ := bd_o h
  refine go_Li (mc := 0) (ms := 0) (run_V (As := []) (rest := []) hC hw.left (c_X6_parity l D q k N σ r1 σ2 hc) kw_709 kw_710 kw_711 kw_6 kw_712 hd_X6_parity ⟨rfl, rfl⟩ ⟨Nat.le_of_ble_eq_true rfl, Nat.le_of_ble_eq_true rfl⟩ 0 rfl rfl rfl hl.1 rfl (Nat.le_of_ble_eq_true rfl) dL_law_1141 hf0) hw (fun H locs hw => ?_)
  refine lv_aload_n hx hb dL_law_1144 rfl (lv_at hl 2 rfl) ?_
  obtain ⟨r3, τ4, hc, h⟩ := bd_o h
  refine go_Ri (mc := 0) (ms := 0) (run_V (As := []) (rest := [.int r1]) hC hw.right (c_X7_parity l D u k N τ r3 τ4 hc) kw_713 kw_714 kw_715 kw_246 kw_716 hd_X7_parity ⟨rfl, rfl⟩ ⟨Nat.le_of_ble_eq_true rfl, Nat.le_of_ble_eq_true rfl⟩ 0 rfl rfl rfl hl.1 rfl (Nat.le_of_ble_eq_true rfl) dL_law_1145 hf0) hw (fun H locs hw => ?_)
  refine lv_icmp_eq (tgt := 1179) hx hb dL_law_1148 (by decide) (fun c => ?_) (fun c => ?_)
  · have h := if_t h c
    refine W.widen (k := cells + 1) (n := slots + 6) (by omega) (by omega) ?_
    exact hK σ2 τ4 _ _ ls h hw (lv_sub hl [0, 1, 2, 3, 4] rfl)
  · have h := if_f h c
    exact absurd (Option.some.inj h) (by decide)
/-! the law, call 21 -/
def g_law_21 (N : Nat) (xs : Nat → Int32) (L : Nat) (σ τ : St) (i : Int32) (K : St → St → Option Int32) : Option Int32 :=
  bd (f_X6_ways N σ) (fun r1 σ2 => bd (f_X7_ways N τ) (fun r3 τ4 => if r1 = r3 then (K σ2 τ4) else (some 0)))
set_option maxRecDepth 100000 in
set_option maxHeartbeats 4000000 in
theorem w_law_21 {p : Program} {l : Launch} {e : Env} {s : State} {m : MethodId} {below : List Frame} {meth : Method} {c : Code} {D : va_G} {q u : Nat → Nat} {k : cK} {sa : Nat → Nat} {b L : Nat} {xs : Nat → Int32} (hC : Cx p s m meth c cL_law RL 7 ret) (hst : l.stackTraces = false) (hz : XPm (fun a => s.heap.size ≤ a) sa s s.heap) (hX : va_X b L xs s s.heap) (hbl : b < s.heap.size) (N : Nat) (i : Int32) (K : St → St → Option Int32) {cells slots : Nat} (hcs : cells + 1 ≤ 601024 ∧ slots + 6 ≤ 7293000)
    (hK : ∀ (σ τ : St) (H : Heap) (locs : List Loc) (ls : Array Slot), K σ τ = some 1 → WH D (CW q k σ ++ MW u k τ) k (fun a => s.heap.size ≤ a) s s.heap H locs → lv_has ls 7 [(0, .ref b), (1, .ref (q 0)), (2, .ref (u 0)), (3, .ref (q 29)), (4, .int i)] → W p l e room_1 s m #[Value.ref b] below meth c H locs (cells + 1) (slots + 6) (lw_Z below #[Value.ref b] s) (F0 m 1179 ls [])) :
    ∀ (σ τ : St) (H : Heap) (locs : List Loc) (ls : Array Slot), g_law_21 N xs L σ τ i K = some 1 → WH D (CW q k σ ++ MW u k τ) k (fun a => s.heap.size ≤ a) s s.heap H locs → lv_has ls 7 [(0, .ref b), (1, .ref (q 0)), (2, .ref (u 0)), (3, .ref (q 29)), (4, .int i)] → W p l e room_1 s m #[Value.ref b] below meth c H locs cells slots (lw_Z below #[Value.ref b] s) (F0 m 1153 ls []) := by
  intro σ τ H locs ls h hw hl
  have hx := hC.1
  have hb := hC.2.1
  have hbA : ¬ (fun a : Nat => s.heap.size ≤ a) b := Nat.not_le.mpr hbl
  have hf0 : cells ≤ room_1.cells ∧ slots ≤ room_1.slots := ⟨Nat.le_trans (Nat.le_succ _) hcs.1, Nat.le_trans (Nat.le_add_right _ 6) hcs.2⟩
  have hf1 : cells + 1 ≤ room_1.cells ∧ slots + 6 ≤ room_1.slots := hcs
  unfold g_law_21 at h
  refine lv_aload_n hx hb dL_law_1153 rfl (lv_at hl 1 rfl) ?_
  obtain ⟨r1, σ2, hc, h⟩ := bd_o h
  refine go_Li (mc := 0) (ms := 0) (run_V (As := []) (rest := []) hC hw.left (c_X6_ways l D q k N σ r1 σ2 hc) kw_717 kw_718 kw_719 kw_6 kw_720 hd_X6_ways ⟨rfl, rfl⟩ ⟨Nat.le_of_ble_eq_true rfl, Nat.le_of_ble_eq_true rfl⟩ 0 rfl rfl rfl hl.1 rfl (Nat.le_of_ble_eq_true rfl) dL_law_1154 hf0) hw (fun H locs hw => ?_)
  refine lv_aload_n hx hb dL_law_1157 rfl (lv_at hl 2 rfl) ?_
  obtain ⟨r3, τ4, hc, h⟩ := bd_o h
  refine go_Ri (mc := 0) (ms := 0) (run_V (As := []) (rest := [.int r1]) hC hw.right (c_X7_ways l D u k N τ r3 τ4 hc) kw_721 kw_722 kw_723 kw_246 kw_724 hd_X7_ways ⟨rfl, rfl⟩ ⟨Nat.le_of_ble_eq_true rfl, Nat.le_of_ble_eq_true rfl⟩ 0 rfl rfl rfl hl.1 rfl (Nat.le_of_ble_eq_true rfl) dL_law_1158 hf0) hw (fun H locs hw => ?_)
  refine lv_icmp_eq (tgt := 1179) hx hb dL_law_1161 (by decide) (fun c => ?_) (fun c => ?_)
  · have h := if_t h c
    refine W.widen (k := cells + 1) (n := slots + 6) (by omega) (by omega) ?_
    exact hK σ2 τ4 _ _ ls h hw (lv_sub hl [0, 1, 2, 3, 4] rfl)
  · have h := if_f h c
    exact absurd (Option.some.inj h) (by decide)
/-! the law, call 22 -/
def g_law_22 (N : Nat) (xs : Nat → Int32) (L : Nat) (σ τ : St) (i : Int32) (K : St → St → Option Int32) : Option Int32 :=
  bd (f_X6_home N σ) (fun r1 σ2 => bd (f_X7_home N τ) (fun r3 τ4 => if r1 = r3 then (K σ2 τ4) else (some 0)))
set_option maxRecDepth 100000 in
set_option maxHeartbeats 4000000 in
theorem w_law_22 {p : Program} {l : Launch} {e : Env} {s : State} {m : MethodId} {below : List Frame} {meth : Method} {c : Code} {D : va_G} {q u : Nat → Nat} {k : cK} {sa : Nat → Nat} {b L : Nat} {xs : Nat → Int32} (hC : Cx p s m meth c cL_law RL 7 ret) (hst : l.stackTraces = false) (hz : XPm (fun a => s.heap.size ≤ a) sa s s.heap) (hX : va_X b L xs s s.heap) (hbl : b < s.heap.size) (N : Nat) (i : Int32) (K : St → St → Option Int32) {cells slots : Nat} (hcs : cells + 1 ≤ 601024 ∧ slots + 6 ≤ 7293000)
    (hK : ∀ (σ τ : St) (H : Heap) (locs : List Loc) (ls : Array Slot), K σ τ = some 1 → WH D (CW q k σ ++ MW u k τ) k (fun a => s.heap.size ≤ a) s s.heap H locs → lv_has ls 7 [(0, .ref b), (1, .ref (q 0)), (2, .ref (u 0)), (3, .ref (q 29)), (4, .int i)] → W p l e room_1 s m #[Value.ref b] below meth c H locs (cells + 1) (slots + 6) (lw_Z below #[Value.ref b] s) (F0 m 1179 ls [])) :
    ∀ (σ τ : St) (H : Heap) (locs : List Loc) (ls : Array Slot), g_law_22 N xs L σ τ i K = some 1 → WH D (CW q k σ ++ MW u k τ) k (fun a => s.heap.size ≤ a) s s.heap H locs → lv_has ls 7 [(0, .ref b), (1, .ref (q 0)), (2, .ref (u 0)), (3, .ref (q 29)), (4, .int i)] → W p l e room_1 s m #[Value.ref b] below meth c H locs cells slots (lw_Z below #[Value.ref b] s) (F0 m 1166 ls []) := by
  intro σ τ H locs ls h hw hl
  have hx := hC.1
  have hb := hC.2.1
  have hbA : ¬ (fun a : Nat => s.heap.size ≤ a) b := Nat.not_le.mpr hbl
  have hf0 : cells ≤ room_1.cells ∧ slots ≤ room_1.slots := ⟨Nat.le_trans (Nat.le_succ _) hcs.1, Nat.le_trans (Nat.le_add_right _ 6) hcs.2⟩
  have hf1 : cells + 1 ≤ room_1.cells ∧ slots + 6 ≤ room_1.slots := hcs
  unfold g_law_22 at h
  refine lv_aload_n hx hb dL_law_1166 rfl (lv_at hl 1 rfl) ?_
  obtain ⟨r1, σ2, hc, h⟩ := bd_o h
  refine go_Li (mc := 0) (ms := 0) (run_V (As := []) (rest := []) hC hw.left (c_X6_home l D q k N σ r1 σ2 hc) kw_725 kw_726 kw_727 kw_6 kw_728 hd_X6_home ⟨rfl, rfl⟩ ⟨Nat.le_of_ble_eq_true rfl, Nat.le_of_ble_eq_true rfl⟩ 0 rfl rfl rfl hl.1 rfl (Nat.le_of_ble_eq_true rfl) dL_law_1167 hf0) hw (fun H locs hw => ?_)
  refine lv_aload_n hx hb dL_law_1170 rfl (lv_at hl 2 rfl) ?_
  obtain ⟨r3, τ4, hc, h⟩ := bd_o h
  refine go_Ri (mc := 0) (ms := 0) (run_V (As := []) (rest := [.int r1]) hC hw.right (c_X7_home l D u k N τ r3 τ4 hc) kw_729 kw_730 kw_731 kw_246 kw_732 hd_X7_home ⟨rfl, rfl⟩ ⟨Nat.le_of_ble_eq_true rfl, Nat.le_of_ble_eq_true rfl⟩ 0 rfl rfl rfl hl.1 rfl (Nat.le_of_ble_eq_true rfl) dL_law_1171 hf0) hw (fun H locs hw => ?_)
  refine lv_icmp_eq (tgt := 1179) hx hb dL_law_1174 (by decide) (fun c => ?_) (fun c => ?_)
  · have h := if_t h c
    refine W.widen (k := cells + 1) (n := slots + 6) (by omega) (by omega) ?_
    exact hK σ2 τ4 _ _ ls h hw (lv_sub hl [0, 1, 2, 3, 4] rfl)
  · have h := if_f h c
    exact absurd (Option.some.inj h) (by decide)
def sw_law (N : Nat) (xs : Nat → Int32) (L : Nat) (σ τ : St) (i : Int32) (K : St → St → Option Int32) : Option Int32 :=
  if rs xs i &&& 31 = 0 then (g_law_0 N xs L σ τ i K) else (if rs xs i &&& 31 = 1 then (g_law_1 N xs L σ τ i K) else (if rs xs i &&& 31 = 2 then (g_law_2 N xs L σ τ i K) else (if rs xs i &&& 31 = 3 then (g_law_3 N xs L σ τ i K) else (if rs xs i &&& 31 = 4 then (g_law_4 N xs L σ τ i K) else (if rs xs i &&& 31 = 5 then (g_law_5 N xs L σ τ i K) else (if rs xs i &&& 31 = 6 then (g_law_6 N xs L σ τ i K) else (if rs xs i &&& 31 = 7 then (g_law_7 N xs L σ τ i K) else (if rs xs i &&& 31 = 8 then (g_law_8 N xs L σ τ i K) else (if rs xs i &&& 31 = 9 then (g_law_9 N xs L σ τ i K) else (if rs xs i &&& 31 = 10 then (g_law_10 N xs L σ τ i K) else (if rs xs i &&& 31 = 11 then (g_law_11 N xs L σ τ i K) else (if rs xs i &&& 31 = 12 then (g_law_12 N xs L σ τ i K) else (if rs xs i &&& 31 = 13 then (g_law_13 N xs L σ τ i K) else (if rs xs i &&& 31 = 14 then (g_law_14 N xs L σ τ i K) else (if rs xs i &&& 31 = 15 then (g_law_15 N xs L σ τ i K) else (if rs xs i &&& 31 = 16 then (g_law_16 N xs L σ τ i K) else (if rs xs i &&& 31 = 17 then (g_law_17 N xs L σ τ i K) else (if rs xs i &&& 31 = 18 then (g_law_18 N xs L σ τ i K) else (if rs xs i &&& 31 = 19 then (g_law_19 N xs L σ τ i K) else (if rs xs i &&& 31 = 20 then (g_law_20 N xs L σ τ i K) else (if rs xs i &&& 31 = 21 then (g_law_21 N xs L σ τ i K) else (if rs xs i &&& 31 = 22 then (g_law_22 N xs L σ τ i K) else (K σ τ)))))))))))))))))))))))
def lp_law (N : Nat) (xs : Nat → Int32) (L : Nat) : Nat → St → St → Int32 → Option Int32
  | 0, _, _, _ => none
  | n + 1, σ, τ, i => if nI L - 4 < i then some 1 else gd (okx i L) (sw_law N xs L σ τ i (fun σ1 τ1 => lp_law N xs L n σ1 τ1 (i + 4)))
theorem tsw23 {x : Int32} (h0 : ¬ x = 0) (h1 : ¬ x = 1) (h2 : ¬ x = 2) (h3 : ¬ x = 3) (h4 : ¬ x = 4) (h5 : ¬ x = 5) (h6 : ¬ x = 6) (h7 : ¬ x = 7) (h8 : ¬ x = 8) (h9 : ¬ x = 9) (h10 : ¬ x = 10) (h11 : ¬ x = 11) (h12 : ¬ x = 12) (h13 : ¬ x = 13) (h14 : ¬ x = 14) (h15 : ¬ x = 15) (h16 : ¬ x = 16) (h17 : ¬ x = 17) (h18 : ¬ x = 18) (h19 : ¬ x = 19) (h20 : ¬ x = 20) (h21 : ¬ x = 21) (h22 : ¬ x = 22) : x.toInt < 0 ∨ 22 < x.toInt := by
  have k0 : ¬ x.toInt = 0 := lv_neT h0 rfl
  have k1 : ¬ x.toInt = 1 := lv_neT h1 rfl
  have k2 : ¬ x.toInt = 2 := lv_neT h2 rfl
  have k3 : ¬ x.toInt = 3 := lv_neT h3 rfl
  have k4 : ¬ x.toInt = 4 := lv_neT h4 rfl
  have k5 : ¬ x.toInt = 5 := lv_neT h5 rfl
  have k6 : ¬ x.toInt = 6 := lv_neT h6 rfl
  have k7 : ¬ x.toInt = 7 := lv_neT h7 rfl
  have k8 : ¬ x.toInt = 8 := lv_neT h8 rfl
  have k9 : ¬ x.toInt = 9 := lv_neT h9 rfl
  have k10 : ¬ x.toInt = 10 := lv_neT h10 rfl
  have k11 : ¬ x.toInt = 11 := lv_neT h11 rfl
  have k12 : ¬ x.toInt = 12 := lv_neT h12 rfl
  have k13 : ¬ x.toInt = 13 := lv_neT h13 rfl
  have k14 : ¬ x.toInt = 14 := lv_neT h14 rfl
  have k15 : ¬ x.toInt = 15 := lv_neT h15 rfl
  have k16 : ¬ x.toInt = 16 := lv_neT h16 rfl
  have k17 : ¬ x.toInt = 17 := lv_neT h17 rfl
  have k18 : ¬ x.toInt = 18 := lv_neT h18 rfl
  have k19 : ¬ x.toInt = 19 := lv_neT h19 rfl
  have k20 : ¬ x.toInt = 20 := lv_neT h20 rfl
  have k21 : ¬ x.toInt = 21 := lv_neT h21 rfl
  have k22 : ¬ x.toInt = 22 := lv_neT h22 rfl
  omega
set_option maxRecDepth 100000 in
set_option maxHeartbeats 4000000 in
theorem w_sw {p : Program} {l : Launch} {e : Env} {s : State} {m : MethodId} {below : List Frame} {meth : Method} {c : Code} {D : va_G} {q u : Nat → Nat} {k : cK} {sa : Nat → Nat} {b L : Nat} {xs : Nat → Int32} (hC : Cx p s m meth c cL_law RL 7 ret) (hst : l.stackTraces = false) (hz : XPm (fun a => s.heap.size ≤ a) sa s s.heap) (hX : va_X b L xs s s.heap) (hbl : b < s.heap.size) (N : Nat) (i : Int32) (K : St → St → Option Int32) {cells slots : Nat} (hcs : cells + 1 ≤ 601024 ∧ slots + 6 ≤ 7293000)
    (hK : ∀ (σ τ : St) (H : Heap) (locs : List Loc) (ls : Array Slot), K σ τ = some 1 → WH D (CW q k σ ++ MW u k τ) k (fun a => s.heap.size ≤ a) s s.heap H locs → lv_has ls 7 [(0, .ref b), (1, .ref (q 0)), (2, .ref (u 0)), (3, .ref (q 29)), (4, .int i)] → W p l e room_1 s m #[Value.ref b] below meth c H locs (cells + 1) (slots + 6) (lw_Z below #[Value.ref b] s) (F0 m 1179 ls [])) :
    ∀ (σ τ : St) (H : Heap) (locs : List Loc) (ls : Array Slot), sw_law N xs L σ τ i K = some 1 → WH D (CW q k σ ++ MW u k τ) k (fun a => s.heap.size ≤ a) s s.heap H locs → lv_has ls 7 [(0, .ref b), (1, .ref (q 0)), (2, .ref (u 0)), (3, .ref (q 29)), (4, .int i)] → W p l e room_1 s m #[Value.ref b] below meth c H locs cells slots (lw_Z below #[Value.ref b] s) (F0 m 59 ls [.int (rs xs i &&& 31)]) := by
  intro σ τ H locs ls h hw hl
  have hx := hC.1
  have hb := hC.2.1
  unfold sw_law at h
  by_cases c0 : rs xs i &&& 31 = 0
  · have h := if_t h c0
    refine lv_tableIn (off := 105) (tgt := 164) hx hb dL_law_59 (by rw [c0]; decide) (by rw [c0]; decide) (by rw [c0]; decide) (by decide) ?_
    exact w_law_0 hC hst hz hX hbl N i K hcs hK σ τ _ _ ls h hw hl
  have h := if_f h c0
  by_cases c1 : rs xs i &&& 31 = 1
  · have h := if_t h c1
    refine lv_tableIn (off := 208) (tgt := 267) hx hb dL_law_59 (by rw [c1]; decide) (by rw [c1]; decide) (by rw [c1]; decide) (by decide) ?_
    exact w_law_1 hC hst hz hX hbl N i K hcs hK σ τ _ _ ls h hw hl
  have h := if_f h c1
  by_cases c2 : rs xs i &&& 31 = 2
  · have h := if_t h c2
    refine lv_tableIn (off := 264) (tgt := 323) hx hb dL_law_59 (by rw [c2]; decide) (by rw [c2]; decide) (by rw [c2]; decide) (by decide) ?_
    exact w_law_2 hC hst hz hX hbl N i K hcs hK σ τ _ _ ls h hw hl
  have h := if_f h c2
  by_cases c3 : rs xs i &&& 31 = 3
  · have h := if_t h c3
    refine lv_tableIn (off := 351) (tgt := 410) hx hb dL_law_59 (by rw [c3]; decide) (by rw [c3]; decide) (by rw [c3]; decide) (by decide) ?_
    exact w_law_3 hC hst hz hX hbl N i K hcs hK σ τ _ _ ls h hw hl
  have h := if_f h c3
  by_cases c4 : rs xs i &&& 31 = 4
  · have h := if_t h c4
    refine lv_tableIn (off := 407) (tgt := 466) hx hb dL_law_59 (by rw [c4]; decide) (by rw [c4]; decide) (by rw [c4]; decide) (by decide) ?_
    exact w_law_4 hC hst hz hX hbl N i K hcs hK σ τ _ _ ls h hw hl
  have h := if_f h c4
  by_cases c5 : rs xs i &&& 31 = 5
  · have h := if_t h c5
    refine lv_tableIn (off := 487) (tgt := 546) hx hb dL_law_59 (by rw [c5]; decide) (by rw [c5]; decide) (by rw [c5]; decide) (by decide) ?_
    exact w_law_5 hC hst hz hX hbl N i K hcs hK σ τ _ _ ls h hw hl
  have h := if_f h c5
  by_cases c6 : rs xs i &&& 31 = 6
  · have h := if_t h c6
    refine lv_tableIn (off := 567) (tgt := 626) hx hb dL_law_59 (by rw [c6]; decide) (by rw [c6]; decide) (by rw [c6]; decide) (by decide) ?_
    exact w_law_6 hC hst hz hX hbl N i K hcs hK σ τ _ _ ls h hw hl
  have h := if_f h c6
  by_cases c7 : rs xs i &&& 31 = 7
  · have h := if_t h c7
    refine lv_tableIn (off := 647) (tgt := 706) hx hb dL_law_59 (by rw [c7]; decide) (by rw [c7]; decide) (by rw [c7]; decide) (by decide) ?_
    exact w_law_7 hC hst hz hX hbl N i K hcs hK σ τ _ _ ls h hw hl
  have h := if_f h c7
  by_cases c8 : rs xs i &&& 31 = 8
  · have h := if_t h c8
    refine lv_tableIn (off := 660) (tgt := 719) hx hb dL_law_59 (by rw [c8]; decide) (by rw [c8]; decide) (by rw [c8]; decide) (by decide) ?_
    exact w_law_8 hC hst hz hX hbl N i K hcs hK σ τ _ _ ls h hw hl
  have h := if_f h c8
  by_cases c9 : rs xs i &&& 31 = 9
  · have h := if_t h c9
    refine lv_tableIn (off := 673) (tgt := 732) hx hb dL_law_59 (by rw [c9]; decide) (by rw [c9]; decide) (by rw [c9]; decide) (by decide) ?_
    exact w_law_9 hC hst hz hX hbl N i K hcs hK σ τ _ _ ls h hw hl
  have h := if_f h c9
  by_cases c10 : rs xs i &&& 31 = 10
  · have h := if_t h c10
    refine lv_tableIn (off := 710) (tgt := 769) hx hb dL_law_59 (by rw [c10]; decide) (by rw [c10]; decide) (by rw [c10]; decide) (by decide) ?_
    exact w_law_10 hC hst hz hX hbl N i K hcs hK σ τ _ _ ls h hw hl
  have h := if_f h c10
  by_cases c11 : rs xs i &&& 31 = 11
  · have h := if_t h c11
    refine lv_tableIn (off := 735) (tgt := 794) hx hb dL_law_59 (by rw [c11]; decide) (by rw [c11]; decide) (by rw [c11]; decide) (by decide) ?_
    exact w_law_11 hC hst hz hX hbl N i K hcs hK σ τ _ _ ls h hw hl
  have h := if_f h c11
  by_cases c12 : rs xs i &&& 31 = 12
  · have h := if_t h c12
    refine lv_tableIn (off := 748) (tgt := 807) hx hb dL_law_59 (by rw [c12]; decide) (by rw [c12]; decide) (by rw [c12]; decide) (by decide) ?_
    exact w_law_12 hC hst hz hX hbl N i K hcs hK σ τ _ _ ls h hw hl
  have h := if_f h c12
  by_cases c13 : rs xs i &&& 31 = 13
  · have h := if_t h c13
    refine lv_tableIn (off := 761) (tgt := 820) hx hb dL_law_59 (by rw [c13]; decide) (by rw [c13]; decide) (by rw [c13]; decide) (by decide) ?_
    exact w_law_13 hC hst hz hX hbl N i K hcs hK σ τ _ _ ls h hw hl
  have h := if_f h c13
  by_cases c14 : rs xs i &&& 31 = 14
  · have h := if_t h c14
    refine lv_tableIn (off := 786) (tgt := 845) hx hb dL_law_59 (by rw [c14]; decide) (by rw [c14]; decide) (by rw [c14]; decide) (by decide) ?_
    exact w_law_14 hC hst hz hX hbl N i K hcs hK σ τ _ _ ls h hw hl
  have h := if_f h c14
  by_cases c15 : rs xs i &&& 31 = 15
  · have h := if_t h c15
    refine lv_tableIn (off := 799) (tgt := 858) hx hb dL_law_59 (by rw [c15]; decide) (by rw [c15]; decide) (by rw [c15]; decide) (by decide) ?_
    exact w_law_15 hC hst hz hX hbl N i K hcs hK σ τ _ _ ls h hw hl
  have h := if_f h c15
  by_cases c16 : rs xs i &&& 31 = 16
  · have h := if_t h c16
    refine lv_tableIn (off := 874) (tgt := 933) hx hb dL_law_59 (by rw [c16]; decide) (by rw [c16]; decide) (by rw [c16]; decide) (by decide) ?_
    exact w_law_16 hC hst hz hX hbl N i K hcs hK σ τ _ _ ls h hw hl
  have h := if_f h c16
  by_cases c17 : rs xs i &&& 31 = 17
  · have h := if_t h c17
    refine lv_tableIn (off := 930) (tgt := 989) hx hb dL_law_59 (by rw [c17]; decide) (by rw [c17]; decide) (by rw [c17]; decide) (by decide) ?_
    exact w_law_17 hC hst hz hX hbl N i K hcs hK σ τ _ _ ls h hw hl
  have h := if_f h c17
  by_cases c18 : rs xs i &&& 31 = 18
  · have h := if_t h c18
    refine lv_tableIn (off := 993) (tgt := 1052) hx hb dL_law_59 (by rw [c18]; decide) (by rw [c18]; decide) (by rw [c18]; decide) (by decide) ?_
    exact w_law_18 hC hst hz hX hbl N i K hcs hK σ τ _ _ ls h hw hl
  have h := if_f h c18
  by_cases c19 : rs xs i &&& 31 = 19
  · have h := if_t h c19
    refine lv_tableIn (off := 1068) (tgt := 1127) hx hb dL_law_59 (by rw [c19]; decide) (by rw [c19]; decide) (by rw [c19]; decide) (by decide) ?_
    exact w_law_19 hC hst hz hX hbl N i K hcs hK σ τ _ _ ls h hw hl
  have h := if_f h c19
  by_cases c20 : rs xs i &&& 31 = 20
  · have h := if_t h c20
    refine lv_tableIn (off := 1081) (tgt := 1140) hx hb dL_law_59 (by rw [c20]; decide) (by rw [c20]; decide) (by rw [c20]; decide) (by decide) ?_
    exact w_law_20 hC hst hz hX hbl N i K hcs hK σ τ _ _ ls h hw hl
  have h := if_f h c20
  by_cases c21 : rs xs i &&& 31 = 21
  · have h := if_t h c21
    refine lv_tableIn (off := 1094) (tgt := 1153) hx hb dL_law_59 (by rw [c21]; decide) (by rw [c21]; decide) (by rw [c21]; decide) (by decide) ?_
    exact w_law_21 hC hst hz hX hbl N i K hcs hK σ τ _ _ ls h hw hl
  have h := if_f h c21
  by_cases c22 : rs xs i &&& 31 = 22
  · have h := if_t h c22
    refine lv_tableIn (off := 1107) (tgt := 1166) hx hb dL_law_59 (by rw [c22]; decide) (by rw [c22]; decide) (by rw [c22]; decide) (by decide) ?_
    exact w_law_22 hC hst hz hX hbl N i K hcs hK σ τ _ _ ls h hw hl
  have h := if_f h c22
  refine lv_tableOut (tgt := 1179) hx hb dL_law_59 (tsw23 c0 c1 c2 c3 c4 c5 c6 c7 c8 c9 c10 c11 c12 c13 c14 c15 c16 c17 c18 c19 c20 c21 c22) (by decide) ?_
  refine W.widen (k := cells + 1) (n := slots + 6) (by omega) (by omega) ?_
  exact hK σ τ _ _ ls h hw hl
set_option maxRecDepth 100000 in
set_option maxHeartbeats 4000000 in
theorem w_loop {p : Program} {l : Launch} {e : Env} {s : State} {m : MethodId} {below : List Frame} {meth : Method} {c : Code} {D : va_G} {q u : Nat → Nat} {k : cK} {sa : Nat → Nat} {b L : Nat} {xs : Nat → Int32} (hC : Cx p s m meth c cL_law RL 7 ret) (hst : l.stackTraces = false) (hz : XPm (fun a => s.heap.size ≤ a) sa s s.heap) (hX : va_X b L xs s s.heap) (hbl : b < s.heap.size) (N : Nat) :
    ∀ (n : Nat) (σ τ : St) (i : Int32) (cells slots : Nat) (H : Heap) (locs : List Loc) (ls : Array Slot), cells + 1 * n ≤ 601024 → slots + 6 * n ≤ 7293000 → lp_law N xs L n σ τ i = some 1 → WH D (CW q k σ ++ MW u k τ) k (fun a => s.heap.size ≤ a) s s.heap H locs → lv_has ls 7 [(0, .ref b), (1, .ref (q 0)), (2, .ref (u 0)), (3, .ref (q 29)), (4, .int i)] → W p l e room_1 s m #[Value.ref b] below meth c H locs cells slots (lw_Z below #[Value.ref b] s) (F0 m 43 ls []) := by
  have hx := hC.1
  have hb := hC.2.1
  have hbA : ¬ (fun a : Nat => s.heap.size ≤ a) b := Nat.not_le.mpr hbl
  intro n
  induction n with
  | zero =>
    intro σ τ i cells slots H locs ls _ _ h
    cases h
  | succ n ih =>
    intro σ τ i cells slots H locs ls hc1 hc2 h hw hl
    rw [lp_law] at h
    refine lv_iload hx hb dL_law_43 (lv_at hl 4 rfl) ?_
    refine lv_aload_n hx hb dL_law_45 rfl (lv_at hl 0 rfl) ?_
    refine o_slen hC hX hbl hbA hw dL_law_46 ?_
    refine lv_iconst (v := 4) hx hb dL_law_47 (by decide) ?_
    refine lv_isub hx hb dL_law_48 ?_
    refine lv_icmp_gt (tgt := 1185) hx hb dL_law_49 (by decide) (fun c => ?_) (fun c => ?_)
    · refine lv_iconst (v := 1) hx hb dL_law_1185 (by decide) ?_
      refine va_forget (fun q hq => hw.2.2.2.1.2.2 q hq) ?_
      refine W.widen (k := 601024) (n := 7293000) (by omega) (by omega) ?_
      exact lw_ret hx hb hC.2.2.1 hC.2.2.2.2.2 dL_law_1186
    · have h := if_f h c
      refine lv_aload_n hx hb dL_law_52 rfl (lv_at hl 0 rfl) ?_
      refine lv_iload hx hb dL_law_53 (lv_at hl 4 rfl) ?_
      obtain ⟨hin, h⟩ := gd_o h
      refine o_sld hC hX hbl hbA hw hin dL_law_55 ?_
      refine lv_bipush (v := 31) hx hb dL_law_56 (by decide) ?_
      refine lv_iand hx hb dL_law_58 ?_
      refine w_sw hC hst hz hX hbl N i _ (cells := cells) (slots := slots) ⟨by omega, by omega⟩ (fun σ1 τ1 H locs ls h hw hl => ?_) σ τ _ _ ls h hw hl
      refine lv_iinc (v := i + 4) (lv' := [(4, .int (i + 4)), (0, .ref b), (1, .ref (q 0)), (2, .ref (u 0)), (3, .ref (q 29))]) hx hb dL_law_1179 hl (k := 4) rfl rfl (by decide) rfl (fun ls hl => ?_)
      refine lv_goto (tgt := 43) hx hb dL_law_1182 (by decide) ?_
      exact ih σ1 τ1 (i + 4) (cells + 1) (slots + 6) _ _ ls (by omega) (by omega) h hw (lv_sub hl [1, 2, 3, 4, 0] rfl)

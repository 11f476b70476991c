def CW (q : Nat → Nat) (k : cK) (σ : St) : va_W := [(q 0, .inr (7, [.ref (q 1), .ref (q 4), .ref (q 8), .ref (q 21), .ref (q 23)])),
  (q 1, .inr (1, [.int (σ.1 0), .int (σ.1 1), .int (σ.1 2), .int (σ.1 3), .int (σ.1 4), .int (σ.1 5), .ref (q 2), .ref (q 3), .int (σ.1 6), .int (σ.1 7)])),
  (q 2, .inl (k.1, 8, .inl (σ.2.1 0))),
  (q 3, .inl (k.1, 8, .inl (σ.2.1 1))),
  (q 4, .inr (3, [.ref (q 5), .ref (q 6), .ref (q 7), .int (σ.1 8)])),
  (q 5, .inl (k.2.2, 6, .inl (σ.2.1 2))),
  (q 6, .inl (k.1, 6, .inl (σ.2.1 3))),
  (q 7, .inl (k.1, 6, .inl (σ.2.1 4))),
  (q 8, .inr (2, [.ref (q 1), .ref (q 4), .ref (q 14), .ref (q 9), .ref (q 10), .ref (q 11), .ref (q 12), .ref (q 13), .int (σ.1 9), .int (σ.1 10), .int (σ.1 11)])),
  (q 9, .inl (k.1, 8, .inl (σ.2.1 5))),
  (q 10, .inl (k.1, 8, .inl (σ.2.1 6))),
  (q 11, .inl (k.1, 8, .inl (σ.2.1 7))),
  (q 12, .inl (k.1, 8, .inl (σ.2.1 8))),
  (q 13, .inl (k.1, 8, .inl (σ.2.1 9))),
  (q 14, .inr (5, [.ref (q 15), .ref (q 16), .ref (q 17), .ref (q 18), .ref (q 19), .ref (q 20), .int (σ.1 12)])),
  (q 15, .inl (k.2.1, 10000, .inr (.inl (σ.2.2 0)))),
  (q 16, .inl (k.2.1, 10000, .inr (.inl (σ.2.2 1)))),
  (q 17, .inl (k.1, 10000, .inl (σ.2.1 10))),
  (q 18, .inl (k.1, 10000, .inl (σ.2.1 11))),
  (q 19, .inl (k.1, 16384, .inl (σ.2.1 12))),
  (q 20, .inl (k.1, 10000, .inl (σ.2.1 13))),
  (q 21, .inr (4, [.ref (q 22), .int (σ.1 13), .int (σ.1 14)])),
  (q 22, .inl (k.1, 10000, .inl (σ.2.1 14))),
  (q 23, .inr (6, [.ref (q 24), .ref (q 25), .ref (q 26), .ref (q 27), .ref (q 28), .int (σ.1 15), .int (σ.1 16)])),
  (q 24, .inl (k.1, 8, .inl (σ.2.1 15))),
  (q 25, .inl (k.1, 8, .inl (σ.2.1 16))),
  (q 26, .inl (k.1, 8, .inl (σ.2.1 17))),
  (q 27, .inl (k.1, 40320, .inl (σ.2.1 18))),
  (q 28, .inl (k.2.1, 32768, .inr (.inl (σ.2.2 2)))),
  (q 29, .inl (k.2.1, 1, .inr (.inl (σ.2.2 3))))]
def MW (q : Nat → Nat) (k : cK) (σ : St) : va_W := [(q 0, .inr (8, [.int (σ.1 0), .int (σ.1 1), .int (σ.1 2), .int (σ.1 3), .int (σ.1 4), .ref (q 1), .ref (q 2), .int (σ.1 5), .ref (q 3), .ref (q 4), .int (σ.1 6), .ref (q 5), .ref (q 6), .ref (q 7), .ref (q 8), .ref (q 9), .ref (q 10), .ref (q 11), .ref (q 12), .int (σ.1 7), .int (σ.1 8), .ref (q 13), .int (σ.1 9), .ref (q 14), .ref (q 15), .ref (q 16), .ref (q 17), .ref (q 18), .ref (q 19), .ref (q 20)])),
  (q 1, .inl (k.1, 8, .inl (σ.2.1 0))),
  (q 2, .inl (k.1, 8, .inl (σ.2.1 1))),
  (q 3, .inl (k.1, 6, .inl (σ.2.1 2))),
  (q 4, .inl (k.1, 6, .inl (σ.2.1 3))),
  (q 5, .inl (k.1, 80008, .inl (σ.2.1 4))),
  (q 6, .inl (k.1, 80008, .inl (σ.2.1 5))),
  (q 7, .inl (k.1, 10001, .inl (σ.2.1 6))),
  (q 8, .inl (k.1, 10001, .inl (σ.2.1 7))),
  (q 9, .inl (k.1, 32768, .inl (σ.2.1 8))),
  (q 10, .inl (k.1, 8, .inl (σ.2.1 9))),
  (q 11, .inl (k.1, 8, .inl (σ.2.1 10))),
  (q 12, .inl (k.1, 8, .inl (σ.2.1 11))),
  (q 13, .inl (k.1, 10001, .inl (σ.2.1 12))),
  (q 14, .inl (k.2.2, 64, .inl (σ.2.1 13))),
  (q 15, .inl (k.1, 8, .inl (σ.2.1 14))),
  (q 16, .inl (k.1, 8, .inl (σ.2.1 15))),
  (q 17, .inl (k.2.2, 40320, .inl (σ.2.1 16))),
  (q 18, .inl (k.1, 40320, .inl (σ.2.1 17))),
  (q 19, .inl (k.1, 8, .inl (σ.2.1 18))),
  (q 20, .inl (k.1, 8, .inl (σ.2.1 19)))]
section OwnC
variable {p : Program} {l : Launch} {e : Env} {R : Room} {s : State} {m : MethodId} {args : Array Value} {below : List Frame} {meth : Method} {c : Code} {H : Heap} {locs : List Loc} {cells slots : Nat} {Q : State → Prop}
variable {D : va_G} {q : Nat → Nat} {σ : St} {k : cK} {A : Nat → Prop} {H0 : Heap} {pc nL : Nat} {ls : Array Slot} {rest : List Value} {cc : ByteArray} {ret : Option FieldType}
theorem C_g_X0_15 (hC : Cx p s m meth c cc RX0 nL ret) (hw : WH D (CW q k σ) k A s H0 H locs) (hdg : decode cc pc = .ok (.getfield 15, 3))
    (kk : W p l e R s m args below meth c H locs cells slots Q (F0 m (pc + 3) ls (.ref (q 3) :: rest))) : W p l e R s m args below meth c H locs cells slots Q (F0 m pc ls (.ref (q 1) :: rest)) :=
  o_get hC hw iX0 1 rfl rfl 7 (by decide) kw_359 rfl hdg kk
theorem C_g_X0_18 (hC : Cx p s m meth c cc RX0 nL ret) (hw : WH D (CW q k σ) k A s H0 H locs) (hdg : decode cc pc = .ok (.getfield 18, 3))
    (kk : W p l e R s m args below meth c H locs cells slots Q (F0 m (pc + 3) ls (.int (σ.1 0) :: rest))) : W p l e R s m args below meth c H locs cells slots Q (F0 m pc ls (.ref (q 1) :: rest)) :=
  o_get hC hw iX0 1 rfl rfl 0 (by decide) kw_360 rfl hdg kk
theorem C_g_X0_22 (hC : Cx p s m meth c cc RX0 nL ret) (hw : WH D (CW q k σ) k A s H0 H locs) (hdg : decode cc pc = .ok (.getfield 22, 3))
    (kk : W p l e R s m args below meth c H locs cells slots Q (F0 m (pc + 3) ls (.int (σ.1 1) :: rest))) : W p l e R s m args below meth c H locs cells slots Q (F0 m pc ls (.ref (q 1) :: rest)) :=
  o_get hC hw iX0 1 rfl rfl 1 (by decide) kw_361 rfl hdg kk
theorem C_g_X0_25 (hC : Cx p s m meth c cc RX0 nL ret) (hw : WH D (CW q k σ) k A s H0 H locs) (hdg : decode cc pc = .ok (.getfield 25, 3))
    (kk : W p l e R s m args below meth c H locs cells slots Q (F0 m (pc + 3) ls (.int (σ.1 2) :: rest))) : W p l e R s m args below meth c H locs cells slots Q (F0 m pc ls (.ref (q 1) :: rest)) :=
  o_get hC hw iX0 1 rfl rfl 2 (by decide) kw_362 rfl hdg kk
theorem C_g_X0_28 (hC : Cx p s m meth c cc RX0 nL ret) (hw : WH D (CW q k σ) k A s H0 H locs) (hdg : decode cc pc = .ok (.getfield 28, 3))
    (kk : W p l e R s m args below meth c H locs cells slots Q (F0 m (pc + 3) ls (.int (σ.1 3) :: rest))) : W p l e R s m args below meth c H locs cells slots Q (F0 m pc ls (.ref (q 1) :: rest)) :=
  o_get hC hw iX0 1 rfl rfl 3 (by decide) kw_363 rfl hdg kk
theorem C_g_X0_31 (hC : Cx p s m meth c cc RX0 nL ret) (hw : WH D (CW q k σ) k A s H0 H locs) (hdg : decode cc pc = .ok (.getfield 31, 3))
    (kk : W p l e R s m args below meth c H locs cells slots Q (F0 m (pc + 3) ls (.int (σ.1 4) :: rest))) : W p l e R s m args below meth c H locs cells slots Q (F0 m pc ls (.ref (q 1) :: rest)) :=
  o_get hC hw iX0 1 rfl rfl 4 (by decide) kw_364 rfl hdg kk
theorem C_g_X0_34 (hC : Cx p s m meth c cc RX0 nL ret) (hw : WH D (CW q k σ) k A s H0 H locs) (hdg : decode cc pc = .ok (.getfield 34, 3))
    (kk : W p l e R s m args below meth c H locs cells slots Q (F0 m (pc + 3) ls (.int (σ.1 5) :: rest))) : W p l e R s m args below meth c H locs cells slots Q (F0 m pc ls (.ref (q 1) :: rest)) :=
  o_get hC hw iX0 1 rfl rfl 5 (by decide) kw_365 rfl hdg kk
theorem C_g_X0_47 (hC : Cx p s m meth c cc RX0 nL ret) (hw : WH D (CW q k σ) k A s H0 H locs) (hdg : decode cc pc = .ok (.getfield 47, 3))
    (kk : W p l e R s m args below meth c H locs cells slots Q (F0 m (pc + 3) ls (.int (σ.1 7) :: rest))) : W p l e R s m args below meth c H locs cells slots Q (F0 m pc ls (.ref (q 1) :: rest)) :=
  o_get hC hw iX0 1 rfl rfl 9 (by decide) kw_366 rfl hdg kk
theorem C_g_X0_50 (hC : Cx p s m meth c cc RX0 nL ret) (hw : WH D (CW q k σ) k A s H0 H locs) (hdg : decode cc pc = .ok (.getfield 50, 3))
    (kk : W p l e R s m args below meth c H locs cells slots Q (F0 m (pc + 3) ls (.int (σ.1 6) :: rest))) : W p l e R s m args below meth c H locs cells slots Q (F0 m pc ls (.ref (q 1) :: rest)) :=
  o_get hC hw iX0 1 rfl rfl 8 (by decide) kw_367 rfl hdg kk
theorem C_g_X0_9 (hC : Cx p s m meth c cc RX0 nL ret) (hw : WH D (CW q k σ) k A s H0 H locs) (hdg : decode cc pc = .ok (.getfield 9, 3))
    (kk : W p l e R s m args below meth c H locs cells slots Q (F0 m (pc + 3) ls (.ref (q 2) :: rest))) : W p l e R s m args below meth c H locs cells slots Q (F0 m pc ls (.ref (q 1) :: rest)) :=
  o_get hC hw iX0 1 rfl rfl 6 (by decide) kw_368 rfl hdg kk
theorem C_g_X1_12 (hC : Cx p s m meth c cc RX1 nL ret) (hw : WH D (CW q k σ) k A s H0 H locs) (hdg : decode cc pc = .ok (.getfield 12, 3))
    (kk : W p l e R s m args below meth c H locs cells slots Q (F0 m (pc + 3) ls (.ref (q 14) :: rest))) : W p l e R s m args below meth c H locs cells slots Q (F0 m pc ls (.ref (q 8) :: rest)) :=
  o_get hC hw iX1 8 rfl rfl 2 (by decide) kw_369 rfl hdg kk
theorem C_g_X1_124 (hC : Cx p s m meth c cc RX1 nL ret) (hw : WH D (CW q k σ) k A s H0 H locs) (hdg : decode cc pc = .ok (.getfield 124, 3))
    (kk : W p l e R s m args below meth c H locs cells slots Q (F0 m (pc + 3) ls (.int (σ.1 7) :: rest))) : W p l e R s m args below meth c H locs cells slots Q (F0 m pc ls (.ref (q 1) :: rest)) :=
  o_getN hC hw iX0 1 rfl rfl 9 (by decide) kw_370 rfl hdg kk
theorem C_g_X1_18 (hC : Cx p s m meth c cc RX1 nL ret) (hw : WH D (CW q k σ) k A s H0 H locs) (hdg : decode cc pc = .ok (.getfield 18, 3))
    (kk : W p l e R s m args below meth c H locs cells slots Q (F0 m (pc + 3) ls (.ref (q 9) :: rest))) : W p l e R s m args below meth c H locs cells slots Q (F0 m pc ls (.ref (q 8) :: rest)) :=
  o_get hC hw iX1 8 rfl rfl 3 (by decide) kw_371 rfl hdg kk
theorem C_g_X1_22 (hC : Cx p s m meth c cc RX1 nL ret) (hw : WH D (CW q k σ) k A s H0 H locs) (hdg : decode cc pc = .ok (.getfield 22, 3))
    (kk : W p l e R s m args below meth c H locs cells slots Q (F0 m (pc + 3) ls (.ref (q 10) :: rest))) : W p l e R s m args below meth c H locs cells slots Q (F0 m pc ls (.ref (q 8) :: rest)) :=
  o_get hC hw iX1 8 rfl rfl 4 (by decide) kw_372 rfl hdg kk
theorem C_g_X1_25 (hC : Cx p s m meth c cc RX1 nL ret) (hw : WH D (CW q k σ) k A s H0 H locs) (hdg : decode cc pc = .ok (.getfield 25, 3))
    (kk : W p l e R s m args below meth c H locs cells slots Q (F0 m (pc + 3) ls (.ref (q 11) :: rest))) : W p l e R s m args below meth c H locs cells slots Q (F0 m pc ls (.ref (q 8) :: rest)) :=
  o_get hC hw iX1 8 rfl rfl 5 (by decide) kw_373 rfl hdg kk
theorem C_g_X1_28 (hC : Cx p s m meth c cc RX1 nL ret) (hw : WH D (CW q k σ) k A s H0 H locs) (hdg : decode cc pc = .ok (.getfield 28, 3))
    (kk : W p l e R s m args below meth c H locs cells slots Q (F0 m (pc + 3) ls (.ref (q 12) :: rest))) : W p l e R s m args below meth c H locs cells slots Q (F0 m pc ls (.ref (q 8) :: rest)) :=
  o_get hC hw iX1 8 rfl rfl 6 (by decide) kw_374 rfl hdg kk
theorem C_g_X1_31 (hC : Cx p s m meth c cc RX1 nL ret) (hw : WH D (CW q k σ) k A s H0 H locs) (hdg : decode cc pc = .ok (.getfield 31, 3))
    (kk : W p l e R s m args below meth c H locs cells slots Q (F0 m (pc + 3) ls (.ref (q 13) :: rest))) : W p l e R s m args below meth c H locs cells slots Q (F0 m pc ls (.ref (q 8) :: rest)) :=
  o_get hC hw iX1 8 rfl rfl 7 (by decide) kw_375 rfl hdg kk
theorem C_g_X1_34 (hC : Cx p s m meth c cc RX1 nL ret) (hw : WH D (CW q k σ) k A s H0 H locs) (hdg : decode cc pc = .ok (.getfield 34, 3))
    (kk : W p l e R s m args below meth c H locs cells slots Q (F0 m (pc + 3) ls (.ref (q 1) :: rest))) : W p l e R s m args below meth c H locs cells slots Q (F0 m pc ls (.ref (q 8) :: rest)) :=
  o_get hC hw iX1 8 rfl rfl 0 (by decide) kw_376 rfl hdg kk
theorem C_g_X1_38 (hC : Cx p s m meth c cc RX1 nL ret) (hw : WH D (CW q k σ) k A s H0 H locs) (hdg : decode cc pc = .ok (.getfield 38, 3))
    (kk : W p l e R s m args below meth c H locs cells slots Q (F0 m (pc + 3) ls (.ref (q 4) :: rest))) : W p l e R s m args below meth c H locs cells slots Q (F0 m pc ls (.ref (q 8) :: rest)) :=
  o_get hC hw iX1 8 rfl rfl 1 (by decide) kw_377 rfl hdg kk
theorem C_g_X1_42 (hC : Cx p s m meth c cc RX1 nL ret) (hw : WH D (CW q k σ) k A s H0 H locs) (hdg : decode cc pc = .ok (.getfield 42, 3))
    (kk : W p l e R s m args below meth c H locs cells slots Q (F0 m (pc + 3) ls (.int (σ.1 6) :: rest))) : W p l e R s m args below meth c H locs cells slots Q (F0 m pc ls (.ref (q 1) :: rest)) :=
  o_getN hC hw iX0 1 rfl rfl 8 (by decide) kw_378 rfl hdg kk
theorem C_g_X1_48 (hC : Cx p s m meth c cc RX1 nL ret) (hw : WH D (CW q k σ) k A s H0 H locs) (hdg : decode cc pc = .ok (.getfield 48, 3))
    (kk : W p l e R s m args below meth c H locs cells slots Q (F0 m (pc + 3) ls (.ref (q 3) :: rest))) : W p l e R s m args below meth c H locs cells slots Q (F0 m pc ls (.ref (q 1) :: rest)) :=
  o_getN hC hw iX0 1 rfl rfl 7 (by decide) kw_379 rfl hdg kk
theorem C_g_X1_59 (hC : Cx p s m meth c cc RX1 nL ret) (hw : WH D (CW q k σ) k A s H0 H locs) (hdg : decode cc pc = .ok (.getfield 59, 3))
    (kk : W p l e R s m args below meth c H locs cells slots Q (F0 m (pc + 3) ls (.int (σ.1 9) :: rest))) : W p l e R s m args below meth c H locs cells slots Q (F0 m pc ls (.ref (q 8) :: rest)) :=
  o_get hC hw iX1 8 rfl rfl 8 (by decide) kw_380 rfl hdg kk
theorem C_g_X1_62 (hC : Cx p s m meth c cc RX1 nL ret) (hw : WH D (CW q k σ) k A s H0 H locs) (hdg : decode cc pc = .ok (.getfield 62, 3))
    (kk : W p l e R s m args below meth c H locs cells slots Q (F0 m (pc + 3) ls (.int (σ.1 10) :: rest))) : W p l e R s m args below meth c H locs cells slots Q (F0 m pc ls (.ref (q 8) :: rest)) :=
  o_get hC hw iX1 8 rfl rfl 9 (by decide) kw_381 rfl hdg kk
theorem C_g_X1_65 (hC : Cx p s m meth c cc RX1 nL ret) (hw : WH D (CW q k σ) k A s H0 H locs) (hdg : decode cc pc = .ok (.getfield 65, 3))
    (kk : W p l e R s m args below meth c H locs cells slots Q (F0 m (pc + 3) ls (.int (σ.1 11) :: rest))) : W p l e R s m args below meth c H locs cells slots Q (F0 m pc ls (.ref (q 8) :: rest)) :=
  o_get hC hw iX1 8 rfl rfl 10 (by decide) kw_382 rfl hdg kk
theorem C_g_X1_79 (hC : Cx p s m meth c cc RX1 nL ret) (hw : WH D (CW q k σ) k A s H0 H locs) (hdg : decode cc pc = .ok (.getfield 79, 3))
    (kk : W p l e R s m args below meth c H locs cells slots Q (F0 m (pc + 3) ls (.int (σ.1 12) :: rest))) : W p l e R s m args below meth c H locs cells slots Q (F0 m pc ls (.ref (q 14) :: rest)) :=
  o_getN hC hw iX4 14 rfl rfl 6 (by decide) kw_383 rfl hdg kk
theorem C_g_X1_93 (hC : Cx p s m meth c cc RX1 nL ret) (hw : WH D (CW q k σ) k A s H0 H locs) (hdg : decode cc pc = .ok (.getfield 93, 3))
    (kk : W p l e R s m args below meth c H locs cells slots Q (F0 m (pc + 3) ls (.ref (q 16) :: rest))) : W p l e R s m args below meth c H locs cells slots Q (F0 m pc ls (.ref (q 14) :: rest)) :=
  o_getN hC hw iX4 14 rfl rfl 1 (by decide) kw_384 rfl hdg kk
theorem C_g_X2_15 (hC : Cx p s m meth c cc RX2 nL ret) (hw : WH D (CW q k σ) k A s H0 H locs) (hdg : decode cc pc = .ok (.getfield 15, 3))
    (kk : W p l e R s m args below meth c H locs cells slots Q (F0 m (pc + 3) ls (.ref (q 6) :: rest))) : W p l e R s m args below meth c H locs cells slots Q (F0 m pc ls (.ref (q 4) :: rest)) :=
  o_get hC hw iX2 4 rfl rfl 1 (by decide) kw_385 rfl hdg kk
theorem C_g_X2_19 (hC : Cx p s m meth c cc RX2 nL ret) (hw : WH D (CW q k σ) k A s H0 H locs) (hdg : decode cc pc = .ok (.getfield 19, 3))
    (kk : W p l e R s m args below meth c H locs cells slots Q (F0 m (pc + 3) ls (.ref (q 7) :: rest))) : W p l e R s m args below meth c H locs cells slots Q (F0 m pc ls (.ref (q 4) :: rest)) :=
  o_get hC hw iX2 4 rfl rfl 2 (by decide) kw_386 rfl hdg kk
theorem C_g_X2_22 (hC : Cx p s m meth c cc RX2 nL ret) (hw : WH D (CW q k σ) k A s H0 H locs) (hdg : decode cc pc = .ok (.getfield 22, 3))
    (kk : W p l e R s m args below meth c H locs cells slots Q (F0 m (pc + 3) ls (.int (σ.1 8) :: rest))) : W p l e R s m args below meth c H locs cells slots Q (F0 m pc ls (.ref (q 4) :: rest)) :=
  o_get hC hw iX2 4 rfl rfl 3 (by decide) kw_387 rfl hdg kk
theorem C_g_X2_30 (hC : Cx p s m meth c cc RX2 nL ret) (hw : WH D (CW q k σ) k A s H0 H locs) (hdg : decode cc pc = .ok (.getfield 30, 3))
    (kk : W p l e R s m args below meth c H locs cells slots Q (F0 m (pc + 3) ls (.int (σ.1 6) :: rest))) : W p l e R s m args below meth c H locs cells slots Q (F0 m pc ls (.ref (q 1) :: rest)) :=
  o_getN hC hw iX0 1 rfl rfl 8 (by decide) kw_388 rfl hdg kk
theorem C_g_X2_35 (hC : Cx p s m meth c cc RX2 nL ret) (hw : WH D (CW q k σ) k A s H0 H locs) (hdg : decode cc pc = .ok (.getfield 35, 3))
    (kk : W p l e R s m args below meth c H locs cells slots Q (F0 m (pc + 3) ls (.ref (q 2) :: rest))) : W p l e R s m args below meth c H locs cells slots Q (F0 m pc ls (.ref (q 1) :: rest)) :=
  o_getN hC hw iX0 1 rfl rfl 6 (by decide) kw_389 rfl hdg kk
theorem C_g_X2_9 (hC : Cx p s m meth c cc RX2 nL ret) (hw : WH D (CW q k σ) k A s H0 H locs) (hdg : decode cc pc = .ok (.getfield 9, 3))
    (kk : W p l e R s m args below meth c H locs cells slots Q (F0 m (pc + 3) ls (.ref (q 5) :: rest))) : W p l e R s m args below meth c H locs cells slots Q (F0 m pc ls (.ref (q 4) :: rest)) :=
  o_get hC hw iX2 4 rfl rfl 0 (by decide) kw_390 rfl hdg kk
theorem C_g_X3_15 (hC : Cx p s m meth c cc RX3 nL ret) (hw : WH D (CW q k σ) k A s H0 H locs) (hdg : decode cc pc = .ok (.getfield 15, 3))
    (kk : W p l e R s m args below meth c H locs cells slots Q (F0 m (pc + 3) ls (.int (σ.1 12) :: rest))) : W p l e R s m args below meth c H locs cells slots Q (F0 m pc ls (.ref (q 14) :: rest)) :=
  o_getN hC hw iX4 14 rfl rfl 6 (by decide) kw_391 rfl hdg kk
theorem C_g_X3_28 (hC : Cx p s m meth c cc RX3 nL ret) (hw : WH D (CW q k σ) k A s H0 H locs) (hdg : decode cc pc = .ok (.getfield 28, 3))
    (kk : W p l e R s m args below meth c H locs cells slots Q (F0 m (pc + 3) ls (.int (σ.1 13) :: rest))) : W p l e R s m args below meth c H locs cells slots Q (F0 m pc ls (.ref (q 21) :: rest)) :=
  o_get hC hw iX3 21 rfl rfl 1 (by decide) kw_392 rfl hdg kk
theorem C_g_X3_31 (hC : Cx p s m meth c cc RX3 nL ret) (hw : WH D (CW q k σ) k A s H0 H locs) (hdg : decode cc pc = .ok (.getfield 31, 3))
    (kk : W p l e R s m args below meth c H locs cells slots Q (F0 m (pc + 3) ls (.ref (q 18) :: rest))) : W p l e R s m args below meth c H locs cells slots Q (F0 m pc ls (.ref (q 14) :: rest)) :=
  o_getN hC hw iX4 14 rfl rfl 3 (by decide) kw_393 rfl hdg kk
theorem C_g_X3_32 (hC : Cx p s m meth c cc RX3 nL ret) (hw : WH D (CW q k σ) k A s H0 H locs) (hdg : decode cc pc = .ok (.getfield 32, 3))
    (kk : W p l e R s m args below meth c H locs cells slots Q (F0 m (pc + 3) ls (.ref (q 17) :: rest))) : W p l e R s m args below meth c H locs cells slots Q (F0 m pc ls (.ref (q 14) :: rest)) :=
  o_getN hC hw iX4 14 rfl rfl 2 (by decide) kw_394 rfl hdg kk
theorem C_g_X3_9 (hC : Cx p s m meth c cc RX3 nL ret) (hw : WH D (CW q k σ) k A s H0 H locs) (hdg : decode cc pc = .ok (.getfield 9, 3))
    (kk : W p l e R s m args below meth c H locs cells slots Q (F0 m (pc + 3) ls (.ref (q 22) :: rest))) : W p l e R s m args below meth c H locs cells slots Q (F0 m pc ls (.ref (q 21) :: rest)) :=
  o_get hC hw iX3 21 rfl rfl 0 (by decide) kw_395 rfl hdg kk
theorem C_g_X4_15 (hC : Cx p s m meth c cc RX4 nL ret) (hw : WH D (CW q k σ) k A s H0 H locs) (hdg : decode cc pc = .ok (.getfield 15, 3))
    (kk : W p l e R s m args below meth c H locs cells slots Q (F0 m (pc + 3) ls (.ref (q 16) :: rest))) : W p l e R s m args below meth c H locs cells slots Q (F0 m pc ls (.ref (q 14) :: rest)) :=
  o_get hC hw iX4 14 rfl rfl 1 (by decide) kw_396 rfl hdg kk
theorem C_g_X4_18 (hC : Cx p s m meth c cc RX4 nL ret) (hw : WH D (CW q k σ) k A s H0 H locs) (hdg : decode cc pc = .ok (.getfield 18, 3))
    (kk : W p l e R s m args below meth c H locs cells slots Q (F0 m (pc + 3) ls (.ref (q 17) :: rest))) : W p l e R s m args below meth c H locs cells slots Q (F0 m pc ls (.ref (q 14) :: rest)) :=
  o_get hC hw iX4 14 rfl rfl 2 (by decide) kw_397 rfl hdg kk
theorem C_g_X4_22 (hC : Cx p s m meth c cc RX4 nL ret) (hw : WH D (CW q k σ) k A s H0 H locs) (hdg : decode cc pc = .ok (.getfield 22, 3))
    (kk : W p l e R s m args below meth c H locs cells slots Q (F0 m (pc + 3) ls (.ref (q 18) :: rest))) : W p l e R s m args below meth c H locs cells slots Q (F0 m pc ls (.ref (q 14) :: rest)) :=
  o_get hC hw iX4 14 rfl rfl 3 (by decide) kw_398 rfl hdg kk
theorem C_g_X4_25 (hC : Cx p s m meth c cc RX4 nL ret) (hw : WH D (CW q k σ) k A s H0 H locs) (hdg : decode cc pc = .ok (.getfield 25, 3))
    (kk : W p l e R s m args below meth c H locs cells slots Q (F0 m (pc + 3) ls (.ref (q 19) :: rest))) : W p l e R s m args below meth c H locs cells slots Q (F0 m pc ls (.ref (q 14) :: rest)) :=
  o_get hC hw iX4 14 rfl rfl 4 (by decide) kw_399 rfl hdg kk
theorem C_g_X4_28 (hC : Cx p s m meth c cc RX4 nL ret) (hw : WH D (CW q k σ) k A s H0 H locs) (hdg : decode cc pc = .ok (.getfield 28, 3))
    (kk : W p l e R s m args below meth c H locs cells slots Q (F0 m (pc + 3) ls (.ref (q 20) :: rest))) : W p l e R s m args below meth c H locs cells slots Q (F0 m pc ls (.ref (q 14) :: rest)) :=
  o_get hC hw iX4 14 rfl rfl 5 (by decide) kw_400 rfl hdg kk
theorem C_g_X4_33 (hC : Cx p s m meth c cc RX4 nL ret) (hw : WH D (CW q k σ) k A s H0 H locs) (hdg : decode cc pc = .ok (.getfield 33, 3))
    (kk : W p l e R s m args below meth c H locs cells slots Q (F0 m (pc + 3) ls (.int (σ.1 12) :: rest))) : W p l e R s m args below meth c H locs cells slots Q (F0 m pc ls (.ref (q 14) :: rest)) :=
  o_get hC hw iX4 14 rfl rfl 6 (by decide) kw_401 rfl hdg kk
theorem C_g_X4_9 (hC : Cx p s m meth c cc RX4 nL ret) (hw : WH D (CW q k σ) k A s H0 H locs) (hdg : decode cc pc = .ok (.getfield 9, 3))
    (kk : W p l e R s m args below meth c H locs cells slots Q (F0 m (pc + 3) ls (.ref (q 15) :: rest))) : W p l e R s m args below meth c H locs cells slots Q (F0 m pc ls (.ref (q 14) :: rest)) :=
  o_get hC hw iX4 14 rfl rfl 0 (by decide) kw_402 rfl hdg kk
theorem C_g_X5_15 (hC : Cx p s m meth c cc RX5 nL ret) (hw : WH D (CW q k σ) k A s H0 H locs) (hdg : decode cc pc = .ok (.getfield 15, 3))
    (kk : W p l e R s m args below meth c H locs cells slots Q (F0 m (pc + 3) ls (.ref (q 25) :: rest))) : W p l e R s m args below meth c H locs cells slots Q (F0 m pc ls (.ref (q 23) :: rest)) :=
  o_get hC hw iX5 23 rfl rfl 1 (by decide) kw_403 rfl hdg kk
theorem C_g_X5_18 (hC : Cx p s m meth c cc RX5 nL ret) (hw : WH D (CW q k σ) k A s H0 H locs) (hdg : decode cc pc = .ok (.getfield 18, 3))
    (kk : W p l e R s m args below meth c H locs cells slots Q (F0 m (pc + 3) ls (.ref (q 26) :: rest))) : W p l e R s m args below meth c H locs cells slots Q (F0 m pc ls (.ref (q 23) :: rest)) :=
  o_get hC hw iX5 23 rfl rfl 2 (by decide) kw_404 rfl hdg kk
theorem C_g_X5_22 (hC : Cx p s m meth c cc RX5 nL ret) (hw : WH D (CW q k σ) k A s H0 H locs) (hdg : decode cc pc = .ok (.getfield 22, 3))
    (kk : W p l e R s m args below meth c H locs cells slots Q (F0 m (pc + 3) ls (.ref (q 27) :: rest))) : W p l e R s m args below meth c H locs cells slots Q (F0 m pc ls (.ref (q 23) :: rest)) :=
  o_get hC hw iX5 23 rfl rfl 3 (by decide) kw_405 rfl hdg kk
theorem C_g_X5_26 (hC : Cx p s m meth c cc RX5 nL ret) (hw : WH D (CW q k σ) k A s H0 H locs) (hdg : decode cc pc = .ok (.getfield 26, 3))
    (kk : W p l e R s m args below meth c H locs cells slots Q (F0 m (pc + 3) ls (.ref (q 28) :: rest))) : W p l e R s m args below meth c H locs cells slots Q (F0 m pc ls (.ref (q 23) :: rest)) :=
  o_get hC hw iX5 23 rfl rfl 4 (by decide) kw_406 rfl hdg kk
theorem C_g_X5_30 (hC : Cx p s m meth c cc RX5 nL ret) (hw : WH D (CW q k σ) k A s H0 H locs) (hdg : decode cc pc = .ok (.getfield 30, 3))
    (kk : W p l e R s m args below meth c H locs cells slots Q (F0 m (pc + 3) ls (.int (σ.1 15) :: rest))) : W p l e R s m args below meth c H locs cells slots Q (F0 m pc ls (.ref (q 23) :: rest)) :=
  o_get hC hw iX5 23 rfl rfl 5 (by decide) kw_407 rfl hdg kk
theorem C_g_X5_61 (hC : Cx p s m meth c cc RX5 nL ret) (hw : WH D (CW q k σ) k A s H0 H locs) (hdg : decode cc pc = .ok (.getfield 61, 3))
    (kk : W p l e R s m args below meth c H locs cells slots Q (F0 m (pc + 3) ls (.int (σ.1 16) :: rest))) : W p l e R s m args below meth c H locs cells slots Q (F0 m pc ls (.ref (q 23) :: rest)) :=
  o_get hC hw iX5 23 rfl rfl 6 (by decide) kw_408 rfl hdg kk
theorem C_g_X5_9 (hC : Cx p s m meth c cc RX5 nL ret) (hw : WH D (CW q k σ) k A s H0 H locs) (hdg : decode cc pc = .ok (.getfield 9, 3))
    (kk : W p l e R s m args below meth c H locs cells slots Q (F0 m (pc + 3) ls (.ref (q 24) :: rest))) : W p l e R s m args below meth c H locs cells slots Q (F0 m pc ls (.ref (q 23) :: rest)) :=
  o_get hC hw iX5 23 rfl rfl 0 (by decide) kw_409 rfl hdg kk
theorem C_g_X6_114 (hC : Cx p s m meth c cc RX6 nL ret) (hw : WH D (CW q k σ) k A s H0 H locs) (hdg : decode cc pc = .ok (.getfield 114, 3))
    (kk : W p l e R s m args below meth c H locs cells slots Q (F0 m (pc + 3) ls (.ref (q 14) :: rest))) : W p l e R s m args below meth c H locs cells slots Q (F0 m pc ls (.ref (q 8) :: rest)) :=
  o_getN hC hw iX1 8 rfl rfl 2 (by decide) kw_410 rfl hdg kk
theorem C_g_X6_122 (hC : Cx p s m meth c cc RX6 nL ret) (hw : WH D (CW q k σ) k A s H0 H locs) (hdg : decode cc pc = .ok (.getfield 122, 3))
    (kk : W p l e R s m args below meth c H locs cells slots Q (F0 m (pc + 3) ls (.int (σ.1 13) :: rest))) : W p l e R s m args below meth c H locs cells slots Q (F0 m pc ls (.ref (q 21) :: rest)) :=
  o_getN hC hw iX3 21 rfl rfl 1 (by decide) kw_411 rfl hdg kk
theorem C_g_X6_126 (hC : Cx p s m meth c cc RX6 nL ret) (hw : WH D (CW q k σ) k A s H0 H locs) (hdg : decode cc pc = .ok (.getfield 126, 3))
    (kk : W p l e R s m args below meth c H locs cells slots Q (F0 m (pc + 3) ls (.ref (q 22) :: rest))) : W p l e R s m args below meth c H locs cells slots Q (F0 m pc ls (.ref (q 21) :: rest)) :=
  o_getN hC hw iX3 21 rfl rfl 0 (by decide) kw_412 rfl hdg kk
theorem C_g_X6_129 (hC : Cx p s m meth c cc RX6 nL ret) (hw : WH D (CW q k σ) k A s H0 H locs) (hdg : decode cc pc = .ok (.getfield 129, 3))
    (kk : W p l e R s m args below meth c H locs cells slots Q (F0 m (pc + 3) ls (.int (σ.1 14) :: rest))) : W p l e R s m args below meth c H locs cells slots Q (F0 m pc ls (.ref (q 21) :: rest)) :=
  o_getN hC hw iX3 21 rfl rfl 2 (by decide) kw_413 rfl hdg kk
theorem C_g_X6_132 (hC : Cx p s m meth c cc RX6 nL ret) (hw : WH D (CW q k σ) k A s H0 H locs) (hdg : decode cc pc = .ok (.getfield 132, 3))
    (kk : W p l e R s m args below meth c H locs cells slots Q (F0 m (pc + 3) ls (.int (σ.1 12) :: rest))) : W p l e R s m args below meth c H locs cells slots Q (F0 m pc ls (.ref (q 14) :: rest)) :=
  o_getN hC hw iX4 14 rfl rfl 6 (by decide) kw_414 rfl hdg kk
theorem C_g_X6_149 (hC : Cx p s m meth c cc RX6 nL ret) (hw : WH D (CW q k σ) k A s H0 H locs) (hdg : decode cc pc = .ok (.getfield 149, 3))
    (kk : W p l e R s m args below meth c H locs cells slots Q (F0 m (pc + 3) ls (.ref (q 24) :: rest))) : W p l e R s m args below meth c H locs cells slots Q (F0 m pc ls (.ref (q 23) :: rest)) :=
  o_getN hC hw iX5 23 rfl rfl 0 (by decide) kw_415 rfl hdg kk
theorem C_g_X6_182 (hC : Cx p s m meth c cc RX6 nL ret) (hw : WH D (CW q k σ) k A s H0 H locs) (hdg : decode cc pc = .ok (.getfield 182, 3))
    (kk : W p l e R s m args below meth c H locs cells slots Q (F0 m (pc + 3) ls (.int (σ.1 6) :: rest))) : W p l e R s m args below meth c H locs cells slots Q (F0 m pc ls (.ref (q 1) :: rest)) :=
  o_getN hC hw iX0 1 rfl rfl 8 (by decide) kw_416 rfl hdg kk
theorem C_g_X6_194 (hC : Cx p s m meth c cc RX6 nL ret) (hw : WH D (CW q k σ) k A s H0 H locs) (hdg : decode cc pc = .ok (.getfield 194, 3))
    (kk : W p l e R s m args below meth c H locs cells slots Q (F0 m (pc + 3) ls (.int (σ.1 15) :: rest))) : W p l e R s m args below meth c H locs cells slots Q (F0 m pc ls (.ref (q 23) :: rest)) :=
  o_getN hC hw iX5 23 rfl rfl 5 (by decide) kw_417 rfl hdg kk
theorem C_g_X6_23 (hC : Cx p s m meth c cc RX6 nL ret) (hw : WH D (CW q k σ) k A s H0 H locs) (hdg : decode cc pc = .ok (.getfield 23, 3))
    (kk : W p l e R s m args below meth c H locs cells slots Q (F0 m (pc + 3) ls (.ref (q 1) :: rest))) : W p l e R s m args below meth c H locs cells slots Q (F0 m pc ls (.ref (q 0) :: rest)) :=
  o_get hC hw iX6 0 rfl rfl 0 (by decide) kw_418 rfl hdg kk
theorem C_g_X6_30 (hC : Cx p s m meth c cc RX6 nL ret) (hw : WH D (CW q k σ) k A s H0 H locs) (hdg : decode cc pc = .ok (.getfield 30, 3))
    (kk : W p l e R s m args below meth c H locs cells slots Q (F0 m (pc + 3) ls (.ref (q 4) :: rest))) : W p l e R s m args below meth c H locs cells slots Q (F0 m pc ls (.ref (q 0) :: rest)) :=
  o_get hC hw iX6 0 rfl rfl 1 (by decide) kw_419 rfl hdg kk
theorem C_g_X6_39 (hC : Cx p s m meth c cc RX6 nL ret) (hw : WH D (CW q k σ) k A s H0 H locs) (hdg : decode cc pc = .ok (.getfield 39, 3))
    (kk : W p l e R s m args below meth c H locs cells slots Q (F0 m (pc + 3) ls (.ref (q 8) :: rest))) : W p l e R s m args below meth c H locs cells slots Q (F0 m pc ls (.ref (q 0) :: rest)) :=
  o_get hC hw iX6 0 rfl rfl 2 (by decide) kw_420 rfl hdg kk
theorem C_g_X6_46 (hC : Cx p s m meth c cc RX6 nL ret) (hw : WH D (CW q k σ) k A s H0 H locs) (hdg : decode cc pc = .ok (.getfield 46, 3))
    (kk : W p l e R s m args below meth c H locs cells slots Q (F0 m (pc + 3) ls (.ref (q 21) :: rest))) : W p l e R s m args below meth c H locs cells slots Q (F0 m pc ls (.ref (q 0) :: rest)) :=
  o_get hC hw iX6 0 rfl rfl 3 (by decide) kw_421 rfl hdg kk
theorem C_g_X6_53 (hC : Cx p s m meth c cc RX6 nL ret) (hw : WH D (CW q k σ) k A s H0 H locs) (hdg : decode cc pc = .ok (.getfield 53, 3))
    (kk : W p l e R s m args below meth c H locs cells slots Q (F0 m (pc + 3) ls (.ref (q 23) :: rest))) : W p l e R s m args below meth c H locs cells slots Q (F0 m pc ls (.ref (q 0) :: rest)) :=
  o_get hC hw iX6 0 rfl rfl 4 (by decide) kw_422 rfl hdg kk
theorem C_g_X6_82 (hC : Cx p s m meth c cc RX6 nL ret) (hw : WH D (CW q k σ) k A s H0 H locs) (hdg : decode cc pc = .ok (.getfield 82, 3))
    (kk : W p l e R s m args below meth c H locs cells slots Q (F0 m (pc + 3) ls (.ref (q 3) :: rest))) : W p l e R s m args below meth c H locs cells slots Q (F0 m pc ls (.ref (q 1) :: rest)) :=
  o_getN hC hw iX0 1 rfl rfl 7 (by decide) kw_423 rfl hdg kk
theorem C_p_X0_47 {v : Int32} (hC : Cx p s m meth c cc RX0 nL ret) (hw : WH D (CW q k σ) k A s H0 H locs) (hdg : decode cc pc = .ok (.putfield 47, 3))
    (kk : ∀ (σ1 : St), σ1 = sI σ 7 v → ∀ (H1 : Heap) (locs1 : List Loc), WH D (CW q k σ1) k A s H0 H1 locs1 → W p l e R s m args below meth c H1 locs1 cells slots Q (F0 m (pc + 3) ls rest)) : W p l e R s m args below meth c H locs cells slots Q (F0 m pc ls (.int v :: .ref (q 1) :: rest)) :=
  o_put hC hw iX0 tyX0 tyX0_ok nmX0 1 rfl rfl 9 (by decide) kw_366 rfl ⟨rfl, rfl⟩ (Nat.le_of_ble_eq_true rfl) rfl hdg (kk _ rfl)
theorem C_p_X0_50 {v : Int32} (hC : Cx p s m meth c cc RX0 nL ret) (hw : WH D (CW q k σ) k A s H0 H locs) (hdg : decode cc pc = .ok (.putfield 50, 3))
    (kk : ∀ (σ1 : St), σ1 = sI σ 6 v → ∀ (H1 : Heap) (locs1 : List Loc), WH D (CW q k σ1) k A s H0 H1 locs1 → W p l e R s m args below meth c H1 locs1 cells slots Q (F0 m (pc + 3) ls rest)) : W p l e R s m args below meth c H locs cells slots Q (F0 m pc ls (.int v :: .ref (q 1) :: rest)) :=
  o_put hC hw iX0 tyX0 tyX0_ok nmX0 1 rfl rfl 8 (by decide) kw_367 rfl ⟨rfl, rfl⟩ (Nat.le_of_ble_eq_true rfl) rfl hdg (kk _ rfl)
theorem C_p_X1_59 {v : Int32} (hC : Cx p s m meth c cc RX1 nL ret) (hw : WH D (CW q k σ) k A s H0 H locs) (hdg : decode cc pc = .ok (.putfield 59, 3))
    (kk : ∀ (σ1 : St), σ1 = sI σ 9 v → ∀ (H1 : Heap) (locs1 : List Loc), WH D (CW q k σ1) k A s H0 H1 locs1 → W p l e R s m args below meth c H1 locs1 cells slots Q (F0 m (pc + 3) ls rest)) : W p l e R s m args below meth c H locs cells slots Q (F0 m pc ls (.int v :: .ref (q 8) :: rest)) :=
  o_put hC hw iX1 tyX1 tyX1_ok nmX1 8 rfl rfl 8 (by decide) kw_380 rfl ⟨rfl, rfl⟩ (Nat.le_of_ble_eq_true rfl) rfl hdg (kk _ rfl)
theorem C_p_X1_62 {v : Int32} (hC : Cx p s m meth c cc RX1 nL ret) (hw : WH D (CW q k σ) k A s H0 H locs) (hdg : decode cc pc = .ok (.putfield 62, 3))
    (kk : ∀ (σ1 : St), σ1 = sI σ 10 v → ∀ (H1 : Heap) (locs1 : List Loc), WH D (CW q k σ1) k A s H0 H1 locs1 → W p l e R s m args below meth c H1 locs1 cells slots Q (F0 m (pc + 3) ls rest)) : W p l e R s m args below meth c H locs cells slots Q (F0 m pc ls (.int v :: .ref (q 8) :: rest)) :=
  o_put hC hw iX1 tyX1 tyX1_ok nmX1 8 rfl rfl 9 (by decide) kw_381 rfl ⟨rfl, rfl⟩ (Nat.le_of_ble_eq_true rfl) rfl hdg (kk _ rfl)
theorem C_p_X1_65 {v : Int32} (hC : Cx p s m meth c cc RX1 nL ret) (hw : WH D (CW q k σ) k A s H0 H locs) (hz : v = 0 ∨ v = 1) (hdg : decode cc pc = .ok (.putfield 65, 3))
    (kk : ∀ (σ1 : St), σ1 = sI σ 11 v → ∀ (H1 : Heap) (locs1 : List Loc), WH D (CW q k σ1) k A s H0 H1 locs1 → W p l e R s m args below meth c H1 locs1 cells slots Q (F0 m (pc + 3) ls rest)) : W p l e R s m args below meth c H locs cells slots Q (F0 m pc ls (.int v :: .ref (q 8) :: rest)) :=
  o_put hC hw iX1 tyX1 tyX1_ok nmX1 8 rfl rfl 10 (by decide) kw_382 rfl (z_ok hz) (Nat.le_of_ble_eq_true rfl) rfl hdg (kk _ rfl)
theorem C_p_X2_22 {v : Int32} (hC : Cx p s m meth c cc RX2 nL ret) (hw : WH D (CW q k σ) k A s H0 H locs) (hdg : decode cc pc = .ok (.putfield 22, 3))
    (kk : ∀ (σ1 : St), σ1 = sI σ 8 v → ∀ (H1 : Heap) (locs1 : List Loc), WH D (CW q k σ1) k A s H0 H1 locs1 → W p l e R s m args below meth c H1 locs1 cells slots Q (F0 m (pc + 3) ls rest)) : W p l e R s m args below meth c H locs cells slots Q (F0 m pc ls (.int v :: .ref (q 4) :: rest)) :=
  o_put hC hw iX2 tyX2 tyX2_ok nmX2 4 rfl rfl 3 (by decide) kw_387 rfl ⟨rfl, rfl⟩ (Nat.le_of_ble_eq_true rfl) rfl hdg (kk _ rfl)
theorem C_p_X3_21 {v : Int32} (hC : Cx p s m meth c cc RX3 nL ret) (hw : WH D (CW q k σ) k A s H0 H locs) (hdg : decode cc pc = .ok (.putfield 21, 3))
    (kk : ∀ (σ1 : St), σ1 = sI σ 14 v → ∀ (H1 : Heap) (locs1 : List Loc), WH D (CW q k σ1) k A s H0 H1 locs1 → W p l e R s m args below meth c H1 locs1 cells slots Q (F0 m (pc + 3) ls rest)) : W p l e R s m args below meth c H locs cells slots Q (F0 m pc ls (.int v :: .ref (q 21) :: rest)) :=
  o_put hC hw iX3 tyX3 tyX3_ok nmX3 21 rfl rfl 2 (by decide) kw_424 rfl ⟨rfl, rfl⟩ (Nat.le_of_ble_eq_true rfl) rfl hdg (kk _ rfl)
theorem C_p_X3_28 {v : Int32} (hC : Cx p s m meth c cc RX3 nL ret) (hw : WH D (CW q k σ) k A s H0 H locs) (hdg : decode cc pc = .ok (.putfield 28, 3))
    (kk : ∀ (σ1 : St), σ1 = sI σ 13 v → ∀ (H1 : Heap) (locs1 : List Loc), WH D (CW q k σ1) k A s H0 H1 locs1 → W p l e R s m args below meth c H1 locs1 cells slots Q (F0 m (pc + 3) ls rest)) : W p l e R s m args below meth c H locs cells slots Q (F0 m pc ls (.int v :: .ref (q 21) :: rest)) :=
  o_put hC hw iX3 tyX3 tyX3_ok nmX3 21 rfl rfl 1 (by decide) kw_392 rfl ⟨rfl, rfl⟩ (Nat.le_of_ble_eq_true rfl) rfl hdg (kk _ rfl)
theorem C_p_X4_33 {v : Int32} (hC : Cx p s m meth c cc RX4 nL ret) (hw : WH D (CW q k σ) k A s H0 H locs) (hdg : decode cc pc = .ok (.putfield 33, 3))
    (kk : ∀ (σ1 : St), σ1 = sI σ 12 v → ∀ (H1 : Heap) (locs1 : List Loc), WH D (CW q k σ1) k A s H0 H1 locs1 → W p l e R s m args below meth c H1 locs1 cells slots Q (F0 m (pc + 3) ls rest)) : W p l e R s m args below meth c H locs cells slots Q (F0 m pc ls (.int v :: .ref (q 14) :: rest)) :=
  o_put hC hw iX4 tyX4 tyX4_ok nmX4 14 rfl rfl 6 (by decide) kw_401 rfl ⟨rfl, rfl⟩ (Nat.le_of_ble_eq_true rfl) rfl hdg (kk _ rfl)
theorem C_p_X5_30 {v : Int32} (hC : Cx p s m meth c cc RX5 nL ret) (hw : WH D (CW q k σ) k A s H0 H locs) (hdg : decode cc pc = .ok (.putfield 30, 3))
    (kk : ∀ (σ1 : St), σ1 = sI σ 15 v → ∀ (H1 : Heap) (locs1 : List Loc), WH D (CW q k σ1) k A s H0 H1 locs1 → W p l e R s m args below meth c H1 locs1 cells slots Q (F0 m (pc + 3) ls rest)) : W p l e R s m args below meth c H locs cells slots Q (F0 m pc ls (.int v :: .ref (q 23) :: rest)) :=
  o_put hC hw iX5 tyX5 tyX5_ok nmX5 23 rfl rfl 5 (by decide) kw_407 rfl ⟨rfl, rfl⟩ (Nat.le_of_ble_eq_true rfl) rfl hdg (kk _ rfl)
theorem C_p_X5_61 {v : Int32} (hC : Cx p s m meth c cc RX5 nL ret) (hw : WH D (CW q k σ) k A s H0 H locs) (hdg : decode cc pc = .ok (.putfield 61, 3))
    (kk : ∀ (σ1 : St), σ1 = sI σ 16 v → ∀ (H1 : Heap) (locs1 : List Loc), WH D (CW q k σ1) k A s H0 H1 locs1 → W p l e R s m args below meth c H1 locs1 cells slots Q (F0 m (pc + 3) ls rest)) : W p l e R s m args below meth c H locs cells slots Q (F0 m pc ls (.int v :: .ref (q 23) :: rest)) :=
  o_put hC hw iX5 tyX5 tyX5_ok nmX5 23 rfl rfl 6 (by decide) kw_408 rfl ⟨rfl, rfl⟩ (Nat.le_of_ble_eq_true rfl) rfl hdg (kk _ rfl)
theorem C_ld2 {own : String} {i : Int32} (hC : Cx p s m meth c cc own nL ret) (hw : WH D (CW q k σ) k A s H0 H locs) (hin : vp_in i 8) (hdg : decode cc pc = .ok (.iaload, 1))
    (kk : W p l e R s m args below meth c H locs cells slots Q (F0 m (pc + 1) ls (.int (ra σ 0 i) :: rest))) : W p l e R s m args below meth c H locs cells slots Q (F0 m pc ls (.int i :: .ref (q 2) :: rest)) :=
  o_iald hC hw 2 rfl hin hdg kk
theorem C_st2 {own : String} {i : Int32} {x : Int32} (hC : Cx p s m meth c cc own nL ret) (hw : WH D (CW q k σ) k A s H0 H locs) (hin : vp_in i 8) (hdg : decode cc pc = .ok (.iastore, 1))
    (kk : ∀ (σ1 : St), σ1 = sA σ 0 i x → ∀ (H1 : Heap) (locs1 : List Loc), WH D (CW q k σ1) k A s H0 H1 locs1 → W p l e R s m args below meth c H1 locs1 cells slots Q (F0 m (pc + 1) ls rest)) : W p l e R s m args below meth c H locs cells slots Q (F0 m pc ls (.int x :: .int i :: .ref (q 2) :: rest)) :=
  o_iast hC hw 2 rfl hin rfl hdg (kk _ rfl)
theorem C_ld3 {own : String} {i : Int32} (hC : Cx p s m meth c cc own nL ret) (hw : WH D (CW q k σ) k A s H0 H locs) (hin : vp_in i 8) (hdg : decode cc pc = .ok (.iaload, 1))
    (kk : W p l e R s m args below meth c H locs cells slots Q (F0 m (pc + 1) ls (.int (ra σ 1 i) :: rest))) : W p l e R s m args below meth c H locs cells slots Q (F0 m pc ls (.int i :: .ref (q 3) :: rest)) :=
  o_iald hC hw 3 rfl hin hdg kk
theorem C_st3 {own : String} {i : Int32} {x : Int32} (hC : Cx p s m meth c cc own nL ret) (hw : WH D (CW q k σ) k A s H0 H locs) (hin : vp_in i 8) (hdg : decode cc pc = .ok (.iastore, 1))
    (kk : ∀ (σ1 : St), σ1 = sA σ 1 i x → ∀ (H1 : Heap) (locs1 : List Loc), WH D (CW q k σ1) k A s H0 H1 locs1 → W p l e R s m args below meth c H1 locs1 cells slots Q (F0 m (pc + 1) ls rest)) : W p l e R s m args below meth c H locs cells slots Q (F0 m pc ls (.int x :: .int i :: .ref (q 3) :: rest)) :=
  o_iast hC hw 3 rfl hin rfl hdg (kk _ rfl)
theorem C_ld5 {own : String} {i : Int32} (hC : Cx p s m meth c cc own nL ret) (hw : WH D (CW q k σ) k A s H0 H locs) (hin : vp_in i 6) (hdg : decode cc pc = .ok (.baload, 1))
    (kk : W p l e R s m args below meth c H locs cells slots Q (F0 m (pc + 1) ls (.int (ra σ 2 i) :: rest))) : W p l e R s m args below meth c H locs cells slots Q (F0 m pc ls (.int i :: .ref (q 5) :: rest)) :=
  o_zald hC hw 5 rfl hin hdg kk
theorem C_st5 {own : String} {i : Int32} {x : Int32} (hC : Cx p s m meth c cc own nL ret) (hw : WH D (CW q k σ) k A s H0 H locs) (hin : vp_in i 6) (hdg : decode cc pc = .ok (.bastore, 1))
    (kk : ∀ (σ1 : St), σ1 = sA σ 2 i (vp_nar .boolean x) → ∀ (H1 : Heap) (locs1 : List Loc), WH D (CW q k σ1) k A s H0 H1 locs1 → W p l e R s m args below meth c H1 locs1 cells slots Q (F0 m (pc + 1) ls rest)) : W p l e R s m args below meth c H locs cells slots Q (F0 m pc ls (.int x :: .int i :: .ref (q 5) :: rest)) :=
  o_zast hC hw 5 rfl hin rfl hdg (kk _ rfl)
theorem C_ld6 {own : String} {i : Int32} (hC : Cx p s m meth c cc own nL ret) (hw : WH D (CW q k σ) k A s H0 H locs) (hin : vp_in i 6) (hdg : decode cc pc = .ok (.iaload, 1))
    (kk : W p l e R s m args below meth c H locs cells slots Q (F0 m (pc + 1) ls (.int (ra σ 3 i) :: rest))) : W p l e R s m args below meth c H locs cells slots Q (F0 m pc ls (.int i :: .ref (q 6) :: rest)) :=
  o_iald hC hw 6 rfl hin hdg kk
theorem C_st6 {own : String} {i : Int32} {x : Int32} (hC : Cx p s m meth c cc own nL ret) (hw : WH D (CW q k σ) k A s H0 H locs) (hin : vp_in i 6) (hdg : decode cc pc = .ok (.iastore, 1))
    (kk : ∀ (σ1 : St), σ1 = sA σ 3 i x → ∀ (H1 : Heap) (locs1 : List Loc), WH D (CW q k σ1) k A s H0 H1 locs1 → W p l e R s m args below meth c H1 locs1 cells slots Q (F0 m (pc + 1) ls rest)) : W p l e R s m args below meth c H locs cells slots Q (F0 m pc ls (.int x :: .int i :: .ref (q 6) :: rest)) :=
  o_iast hC hw 6 rfl hin rfl hdg (kk _ rfl)
theorem C_ld7 {own : String} {i : Int32} (hC : Cx p s m meth c cc own nL ret) (hw : WH D (CW q k σ) k A s H0 H locs) (hin : vp_in i 6) (hdg : decode cc pc = .ok (.iaload, 1))
    (kk : W p l e R s m args below meth c H locs cells slots Q (F0 m (pc + 1) ls (.int (ra σ 4 i) :: rest))) : W p l e R s m args below meth c H locs cells slots Q (F0 m pc ls (.int i :: .ref (q 7) :: rest)) :=
  o_iald hC hw 7 rfl hin hdg kk
theorem C_st7 {own : String} {i : Int32} {x : Int32} (hC : Cx p s m meth c cc own nL ret) (hw : WH D (CW q k σ) k A s H0 H locs) (hin : vp_in i 6) (hdg : decode cc pc = .ok (.iastore, 1))
    (kk : ∀ (σ1 : St), σ1 = sA σ 4 i x → ∀ (H1 : Heap) (locs1 : List Loc), WH D (CW q k σ1) k A s H0 H1 locs1 → W p l e R s m args below meth c H1 locs1 cells slots Q (F0 m (pc + 1) ls rest)) : W p l e R s m args below meth c H locs cells slots Q (F0 m pc ls (.int x :: .int i :: .ref (q 7) :: rest)) :=
  o_iast hC hw 7 rfl hin rfl hdg (kk _ rfl)
theorem C_ld9 {own : String} {i : Int32} (hC : Cx p s m meth c cc own nL ret) (hw : WH D (CW q k σ) k A s H0 H locs) (hin : vp_in i 8) (hdg : decode cc pc = .ok (.iaload, 1))
    (kk : W p l e R s m args below meth c H locs cells slots Q (F0 m (pc + 1) ls (.int (ra σ 5 i) :: rest))) : W p l e R s m args below meth c H locs cells slots Q (F0 m pc ls (.int i :: .ref (q 9) :: rest)) :=
  o_iald hC hw 9 rfl hin hdg kk
theorem C_st9 {own : String} {i : Int32} {x : Int32} (hC : Cx p s m meth c cc own nL ret) (hw : WH D (CW q k σ) k A s H0 H locs) (hin : vp_in i 8) (hdg : decode cc pc = .ok (.iastore, 1))
    (kk : ∀ (σ1 : St), σ1 = sA σ 5 i x → ∀ (H1 : Heap) (locs1 : List Loc), WH D (CW q k σ1) k A s H0 H1 locs1 → W p l e R s m args below meth c H1 locs1 cells slots Q (F0 m (pc + 1) ls rest)) : W p l e R s m args below meth c H locs cells slots Q (F0 m pc ls (.int x :: .int i :: .ref (q 9) :: rest)) :=
  o_iast hC hw 9 rfl hin rfl hdg (kk _ rfl)
theorem C_ld10 {own : String} {i : Int32} (hC : Cx p s m meth c cc own nL ret) (hw : WH D (CW q k σ) k A s H0 H locs) (hin : vp_in i 8) (hdg : decode cc pc = .ok (.iaload, 1))
    (kk : W p l e R s m args below meth c H locs cells slots Q (F0 m (pc + 1) ls (.int (ra σ 6 i) :: rest))) : W p l e R s m args below meth c H locs cells slots Q (F0 m pc ls (.int i :: .ref (q 10) :: rest)) :=
  o_iald hC hw 10 rfl hin hdg kk
theorem C_st10 {own : String} {i : Int32} {x : Int32} (hC : Cx p s m meth c cc own nL ret) (hw : WH D (CW q k σ) k A s H0 H locs) (hin : vp_in i 8) (hdg : decode cc pc = .ok (.iastore, 1))
    (kk : ∀ (σ1 : St), σ1 = sA σ 6 i x → ∀ (H1 : Heap) (locs1 : List Loc), WH D (CW q k σ1) k A s H0 H1 locs1 → W p l e R s m args below meth c H1 locs1 cells slots Q (F0 m (pc + 1) ls rest)) : W p l e R s m args below meth c H locs cells slots Q (F0 m pc ls (.int x :: .int i :: .ref (q 10) :: rest)) :=
  o_iast hC hw 10 rfl hin rfl hdg (kk _ rfl)
theorem C_ld11 {own : String} {i : Int32} (hC : Cx p s m meth c cc own nL ret) (hw : WH D (CW q k σ) k A s H0 H locs) (hin : vp_in i 8) (hdg : decode cc pc = .ok (.iaload, 1))
    (kk : W p l e R s m args below meth c H locs cells slots Q (F0 m (pc + 1) ls (.int (ra σ 7 i) :: rest))) : W p l e R s m args below meth c H locs cells slots Q (F0 m pc ls (.int i :: .ref (q 11) :: rest)) :=
  o_iald hC hw 11 rfl hin hdg kk
theorem C_st11 {own : String} {i : Int32} {x : Int32} (hC : Cx p s m meth c cc own nL ret) (hw : WH D (CW q k σ) k A s H0 H locs) (hin : vp_in i 8) (hdg : decode cc pc = .ok (.iastore, 1))
    (kk : ∀ (σ1 : St), σ1 = sA σ 7 i x → ∀ (H1 : Heap) (locs1 : List Loc), WH D (CW q k σ1) k A s H0 H1 locs1 → W p l e R s m args below meth c H1 locs1 cells slots Q (F0 m (pc + 1) ls rest)) : W p l e R s m args below meth c H locs cells slots Q (F0 m pc ls (.int x :: .int i :: .ref (q 11) :: rest)) :=
  o_iast hC hw 11 rfl hin rfl hdg (kk _ rfl)
theorem C_ld12 {own : String} {i : Int32} (hC : Cx p s m meth c cc own nL ret) (hw : WH D (CW q k σ) k A s H0 H locs) (hin : vp_in i 8) (hdg : decode cc pc = .ok (.iaload, 1))
    (kk : W p l e R s m args below meth c H locs cells slots Q (F0 m (pc + 1) ls (.int (ra σ 8 i) :: rest))) : W p l e R s m args below meth c H locs cells slots Q (F0 m pc ls (.int i :: .ref (q 12) :: rest)) :=
  o_iald hC hw 12 rfl hin hdg kk
theorem C_st12 {own : String} {i : Int32} {x : Int32} (hC : Cx p s m meth c cc own nL ret) (hw : WH D (CW q k σ) k A s H0 H locs) (hin : vp_in i 8) (hdg : decode cc pc = .ok (.iastore, 1))
    (kk : ∀ (σ1 : St), σ1 = sA σ 8 i x → ∀ (H1 : Heap) (locs1 : List Loc), WH D (CW q k σ1) k A s H0 H1 locs1 → W p l e R s m args below meth c H1 locs1 cells slots Q (F0 m (pc + 1) ls rest)) : W p l e R s m args below meth c H locs cells slots Q (F0 m pc ls (.int x :: .int i :: .ref (q 12) :: rest)) :=
  o_iast hC hw 12 rfl hin rfl hdg (kk _ rfl)
theorem C_ld13 {own : String} {i : Int32} (hC : Cx p s m meth c cc own nL ret) (hw : WH D (CW q k σ) k A s H0 H locs) (hin : vp_in i 8) (hdg : decode cc pc = .ok (.iaload, 1))
    (kk : W p l e R s m args below meth c H locs cells slots Q (F0 m (pc + 1) ls (.int (ra σ 9 i) :: rest))) : W p l e R s m args below meth c H locs cells slots Q (F0 m pc ls (.int i :: .ref (q 13) :: rest)) :=
  o_iald hC hw 13 rfl hin hdg kk
theorem C_st13 {own : String} {i : Int32} {x : Int32} (hC : Cx p s m meth c cc own nL ret) (hw : WH D (CW q k σ) k A s H0 H locs) (hin : vp_in i 8) (hdg : decode cc pc = .ok (.iastore, 1))
    (kk : ∀ (σ1 : St), σ1 = sA σ 9 i x → ∀ (H1 : Heap) (locs1 : List Loc), WH D (CW q k σ1) k A s H0 H1 locs1 → W p l e R s m args below meth c H1 locs1 cells slots Q (F0 m (pc + 1) ls rest)) : W p l e R s m args below meth c H locs cells slots Q (F0 m pc ls (.int x :: .int i :: .ref (q 13) :: rest)) :=
  o_iast hC hw 13 rfl hin rfl hdg (kk _ rfl)
theorem C_ld15 {own : String} {i : Int32} (hC : Cx p s m meth c cc own nL ret) (hw : WH D (CW q k σ) k A s H0 H locs) (hin : vp_in i 10000) (hdg : decode cc pc = .ok (.laload, 1))
    (kk : W p l e R s m args below meth c H locs cells slots Q (F0 m (pc + 1) ls (.long (rl σ 0 i) :: rest))) : W p l e R s m args below meth c H locs cells slots Q (F0 m pc ls (.int i :: .ref (q 15) :: rest)) :=
  o_lald hC hw 15 rfl hin hdg kk
theorem C_st15 {own : String} {i : Int32} {x : Int64} (hC : Cx p s m meth c cc own nL ret) (hw : WH D (CW q k σ) k A s H0 H locs) (hin : vp_in i 10000) (hdg : decode cc pc = .ok (.lastore, 1))
    (kk : ∀ (σ1 : St), σ1 = sL σ 0 i x → ∀ (H1 : Heap) (locs1 : List Loc), WH D (CW q k σ1) k A s H0 H1 locs1 → W p l e R s m args below meth c H1 locs1 cells slots Q (F0 m (pc + 1) ls rest)) : W p l e R s m args below meth c H locs cells slots Q (F0 m pc ls (.long x :: .int i :: .ref (q 15) :: rest)) :=
  o_last hC hw 15 rfl hin rfl hdg (kk _ rfl)
theorem C_ld16 {own : String} {i : Int32} (hC : Cx p s m meth c cc own nL ret) (hw : WH D (CW q k σ) k A s H0 H locs) (hin : vp_in i 10000) (hdg : decode cc pc = .ok (.laload, 1))
    (kk : W p l e R s m args below meth c H locs cells slots Q (F0 m (pc + 1) ls (.long (rl σ 1 i) :: rest))) : W p l e R s m args below meth c H locs cells slots Q (F0 m pc ls (.int i :: .ref (q 16) :: rest)) :=
  o_lald hC hw 16 rfl hin hdg kk
theorem C_st16 {own : String} {i : Int32} {x : Int64} (hC : Cx p s m meth c cc own nL ret) (hw : WH D (CW q k σ) k A s H0 H locs) (hin : vp_in i 10000) (hdg : decode cc pc = .ok (.lastore, 1))
    (kk : ∀ (σ1 : St), σ1 = sL σ 1 i x → ∀ (H1 : Heap) (locs1 : List Loc), WH D (CW q k σ1) k A s H0 H1 locs1 → W p l e R s m args below meth c H1 locs1 cells slots Q (F0 m (pc + 1) ls rest)) : W p l e R s m args below meth c H locs cells slots Q (F0 m pc ls (.long x :: .int i :: .ref (q 16) :: rest)) :=
  o_last hC hw 16 rfl hin rfl hdg (kk _ rfl)
theorem C_ld17 {own : String} {i : Int32} (hC : Cx p s m meth c cc own nL ret) (hw : WH D (CW q k σ) k A s H0 H locs) (hin : vp_in i 10000) (hdg : decode cc pc = .ok (.iaload, 1))
    (kk : W p l e R s m args below meth c H locs cells slots Q (F0 m (pc + 1) ls (.int (ra σ 10 i) :: rest))) : W p l e R s m args below meth c H locs cells slots Q (F0 m pc ls (.int i :: .ref (q 17) :: rest)) :=
  o_iald hC hw 17 rfl hin hdg kk
theorem C_st17 {own : String} {i : Int32} {x : Int32} (hC : Cx p s m meth c cc own nL ret) (hw : WH D (CW q k σ) k A s H0 H locs) (hin : vp_in i 10000) (hdg : decode cc pc = .ok (.iastore, 1))
    (kk : ∀ (σ1 : St), σ1 = sA σ 10 i x → ∀ (H1 : Heap) (locs1 : List Loc), WH D (CW q k σ1) k A s H0 H1 locs1 → W p l e R s m args below meth c H1 locs1 cells slots Q (F0 m (pc + 1) ls rest)) : W p l e R s m args below meth c H locs cells slots Q (F0 m pc ls (.int x :: .int i :: .ref (q 17) :: rest)) :=
  o_iast hC hw 17 rfl hin rfl hdg (kk _ rfl)
theorem C_ld18 {own : String} {i : Int32} (hC : Cx p s m meth c cc own nL ret) (hw : WH D (CW q k σ) k A s H0 H locs) (hin : vp_in i 10000) (hdg : decode cc pc = .ok (.iaload, 1))
    (kk : W p l e R s m args below meth c H locs cells slots Q (F0 m (pc + 1) ls (.int (ra σ 11 i) :: rest))) : W p l e R s m args below meth c H locs cells slots Q (F0 m pc ls (.int i :: .ref (q 18) :: rest)) :=
  o_iald hC hw 18 rfl hin hdg kk
theorem C_st18 {own : String} {i : Int32} {x : Int32} (hC : Cx p s m meth c cc own nL ret) (hw : WH D (CW q k σ) k A s H0 H locs) (hin : vp_in i 10000) (hdg : decode cc pc = .ok (.iastore, 1))
    (kk : ∀ (σ1 : St), σ1 = sA σ 11 i x → ∀ (H1 : Heap) (locs1 : List Loc), WH D (CW q k σ1) k A s H0 H1 locs1 → W p l e R s m args below meth c H1 locs1 cells slots Q (F0 m (pc + 1) ls rest)) : W p l e R s m args below meth c H locs cells slots Q (F0 m pc ls (.int x :: .int i :: .ref (q 18) :: rest)) :=
  o_iast hC hw 18 rfl hin rfl hdg (kk _ rfl)
theorem C_ld19 {own : String} {i : Int32} (hC : Cx p s m meth c cc own nL ret) (hw : WH D (CW q k σ) k A s H0 H locs) (hin : vp_in i 16384) (hdg : decode cc pc = .ok (.iaload, 1))
    (kk : W p l e R s m args below meth c H locs cells slots Q (F0 m (pc + 1) ls (.int (ra σ 12 i) :: rest))) : W p l e R s m args below meth c H locs cells slots Q (F0 m pc ls (.int i :: .ref (q 19) :: rest)) :=
  o_iald hC hw 19 rfl hin hdg kk
theorem C_st19 {own : String} {i : Int32} {x : Int32} (hC : Cx p s m meth c cc own nL ret) (hw : WH D (CW q k σ) k A s H0 H locs) (hin : vp_in i 16384) (hdg : decode cc pc = .ok (.iastore, 1))
    (kk : ∀ (σ1 : St), σ1 = sA σ 12 i x → ∀ (H1 : Heap) (locs1 : List Loc), WH D (CW q k σ1) k A s H0 H1 locs1 → W p l e R s m args below meth c H1 locs1 cells slots Q (F0 m (pc + 1) ls rest)) : W p l e R s m args below meth c H locs cells slots Q (F0 m pc ls (.int x :: .int i :: .ref (q 19) :: rest)) :=
  o_iast hC hw 19 rfl hin rfl hdg (kk _ rfl)
theorem C_ld20 {own : String} {i : Int32} (hC : Cx p s m meth c cc own nL ret) (hw : WH D (CW q k σ) k A s H0 H locs) (hin : vp_in i 10000) (hdg : decode cc pc = .ok (.iaload, 1))
    (kk : W p l e R s m args below meth c H locs cells slots Q (F0 m (pc + 1) ls (.int (ra σ 13 i) :: rest))) : W p l e R s m args below meth c H locs cells slots Q (F0 m pc ls (.int i :: .ref (q 20) :: rest)) :=
  o_iald hC hw 20 rfl hin hdg kk
theorem C_st20 {own : String} {i : Int32} {x : Int32} (hC : Cx p s m meth c cc own nL ret) (hw : WH D (CW q k σ) k A s H0 H locs) (hin : vp_in i 10000) (hdg : decode cc pc = .ok (.iastore, 1))
    (kk : ∀ (σ1 : St), σ1 = sA σ 13 i x → ∀ (H1 : Heap) (locs1 : List Loc), WH D (CW q k σ1) k A s H0 H1 locs1 → W p l e R s m args below meth c H1 locs1 cells slots Q (F0 m (pc + 1) ls rest)) : W p l e R s m args below meth c H locs cells slots Q (F0 m pc ls (.int x :: .int i :: .ref (q 20) :: rest)) :=
  o_iast hC hw 20 rfl hin rfl hdg (kk _ rfl)
theorem C_ld22 {own : String} {i : Int32} (hC : Cx p s m meth c cc own nL ret) (hw : WH D (CW q k σ) k A s H0 H locs) (hin : vp_in i 10000) (hdg : decode cc pc = .ok (.iaload, 1))
    (kk : W p l e R s m args below meth c H locs cells slots Q (F0 m (pc + 1) ls (.int (ra σ 14 i) :: rest))) : W p l e R s m args below meth c H locs cells slots Q (F0 m pc ls (.int i :: .ref (q 22) :: rest)) :=
  o_iald hC hw 22 rfl hin hdg kk
theorem C_st22 {own : String} {i : Int32} {x : Int32} (hC : Cx p s m meth c cc own nL ret) (hw : WH D (CW q k σ) k A s H0 H locs) (hin : vp_in i 10000) (hdg : decode cc pc = .ok (.iastore, 1))
    (kk : ∀ (σ1 : St), σ1 = sA σ 14 i x → ∀ (H1 : Heap) (locs1 : List Loc), WH D (CW q k σ1) k A s H0 H1 locs1 → W p l e R s m args below meth c H1 locs1 cells slots Q (F0 m (pc + 1) ls rest)) : W p l e R s m args below meth c H locs cells slots Q (F0 m pc ls (.int x :: .int i :: .ref (q 22) :: rest)) :=
  o_iast hC hw 22 rfl hin rfl hdg (kk _ rfl)
theorem C_ld24 {own : String} {i : Int32} (hC : Cx p s m meth c cc own nL ret) (hw : WH D (CW q k σ) k A s H0 H locs) (hin : vp_in i 8) (hdg : decode cc pc = .ok (.iaload, 1))
    (kk : W p l e R s m args below meth c H locs cells slots Q (F0 m (pc + 1) ls (.int (ra σ 15 i) :: rest))) : W p l e R s m args below meth c H locs cells slots Q (F0 m pc ls (.int i :: .ref (q 24) :: rest)) :=
  o_iald hC hw 24 rfl hin hdg kk
theorem C_st24 {own : String} {i : Int32} {x : Int32} (hC : Cx p s m meth c cc own nL ret) (hw : WH D (CW q k σ) k A s H0 H locs) (hin : vp_in i 8) (hdg : decode cc pc = .ok (.iastore, 1))
    (kk : ∀ (σ1 : St), σ1 = sA σ 15 i x → ∀ (H1 : Heap) (locs1 : List Loc), WH D (CW q k σ1) k A s H0 H1 locs1 → W p l e R s m args below meth c H1 locs1 cells slots Q (F0 m (pc + 1) ls rest)) : W p l e R s m args below meth c H locs cells slots Q (F0 m pc ls (.int x :: .int i :: .ref (q 24) :: rest)) :=
  o_iast hC hw 24 rfl hin rfl hdg (kk _ rfl)
theorem C_ld25 {own : String} {i : Int32} (hC : Cx p s m meth c cc own nL ret) (hw : WH D (CW q k σ) k A s H0 H locs) (hin : vp_in i 8) (hdg : decode cc pc = .ok (.iaload, 1))
    (kk : W p l e R s m args below meth c H locs cells slots Q (F0 m (pc + 1) ls (.int (ra σ 16 i) :: rest))) : W p l e R s m args below meth c H locs cells slots Q (F0 m pc ls (.int i :: .ref (q 25) :: rest)) :=
  o_iald hC hw 25 rfl hin hdg kk
theorem C_st25 {own : String} {i : Int32} {x : Int32} (hC : Cx p s m meth c cc own nL ret) (hw : WH D (CW q k σ) k A s H0 H locs) (hin : vp_in i 8) (hdg : decode cc pc = .ok (.iastore, 1))
    (kk : ∀ (σ1 : St), σ1 = sA σ 16 i x → ∀ (H1 : Heap) (locs1 : List Loc), WH D (CW q k σ1) k A s H0 H1 locs1 → W p l e R s m args below meth c H1 locs1 cells slots Q (F0 m (pc + 1) ls rest)) : W p l e R s m args below meth c H locs cells slots Q (F0 m pc ls (.int x :: .int i :: .ref (q 25) :: rest)) :=
  o_iast hC hw 25 rfl hin rfl hdg (kk _ rfl)
theorem C_ld26 {own : String} {i : Int32} (hC : Cx p s m meth c cc own nL ret) (hw : WH D (CW q k σ) k A s H0 H locs) (hin : vp_in i 8) (hdg : decode cc pc = .ok (.iaload, 1))
    (kk : W p l e R s m args below meth c H locs cells slots Q (F0 m (pc + 1) ls (.int (ra σ 17 i) :: rest))) : W p l e R s m args below meth c H locs cells slots Q (F0 m pc ls (.int i :: .ref (q 26) :: rest)) :=
  o_iald hC hw 26 rfl hin hdg kk
theorem C_st26 {own : String} {i : Int32} {x : Int32} (hC : Cx p s m meth c cc own nL ret) (hw : WH D (CW q k σ) k A s H0 H locs) (hin : vp_in i 8) (hdg : decode cc pc = .ok (.iastore, 1))
    (kk : ∀ (σ1 : St), σ1 = sA σ 17 i x → ∀ (H1 : Heap) (locs1 : List Loc), WH D (CW q k σ1) k A s H0 H1 locs1 → W p l e R s m args below meth c H1 locs1 cells slots Q (F0 m (pc + 1) ls rest)) : W p l e R s m args below meth c H locs cells slots Q (F0 m pc ls (.int x :: .int i :: .ref (q 26) :: rest)) :=
  o_iast hC hw 26 rfl hin rfl hdg (kk _ rfl)
theorem C_ld27 {own : String} {i : Int32} (hC : Cx p s m meth c cc own nL ret) (hw : WH D (CW q k σ) k A s H0 H locs) (hin : vp_in i 40320) (hdg : decode cc pc = .ok (.iaload, 1))
    (kk : W p l e R s m args below meth c H locs cells slots Q (F0 m (pc + 1) ls (.int (ra σ 18 i) :: rest))) : W p l e R s m args below meth c H locs cells slots Q (F0 m pc ls (.int i :: .ref (q 27) :: rest)) :=
  o_iald hC hw 27 rfl hin hdg kk
theorem C_st27 {own : String} {i : Int32} {x : Int32} (hC : Cx p s m meth c cc own nL ret) (hw : WH D (CW q k σ) k A s H0 H locs) (hin : vp_in i 40320) (hdg : decode cc pc = .ok (.iastore, 1))
    (kk : ∀ (σ1 : St), σ1 = sA σ 18 i x → ∀ (H1 : Heap) (locs1 : List Loc), WH D (CW q k σ1) k A s H0 H1 locs1 → W p l e R s m args below meth c H1 locs1 cells slots Q (F0 m (pc + 1) ls rest)) : W p l e R s m args below meth c H locs cells slots Q (F0 m pc ls (.int x :: .int i :: .ref (q 27) :: rest)) :=
  o_iast hC hw 27 rfl hin rfl hdg (kk _ rfl)
theorem C_ld28 {own : String} {i : Int32} (hC : Cx p s m meth c cc own nL ret) (hw : WH D (CW q k σ) k A s H0 H locs) (hin : vp_in i 32768) (hdg : decode cc pc = .ok (.laload, 1))
    (kk : W p l e R s m args below meth c H locs cells slots Q (F0 m (pc + 1) ls (.long (rl σ 2 i) :: rest))) : W p l e R s m args below meth c H locs cells slots Q (F0 m pc ls (.int i :: .ref (q 28) :: rest)) :=
  o_lald hC hw 28 rfl hin hdg kk
theorem C_st28 {own : String} {i : Int32} {x : Int64} (hC : Cx p s m meth c cc own nL ret) (hw : WH D (CW q k σ) k A s H0 H locs) (hin : vp_in i 32768) (hdg : decode cc pc = .ok (.lastore, 1))
    (kk : ∀ (σ1 : St), σ1 = sL σ 2 i x → ∀ (H1 : Heap) (locs1 : List Loc), WH D (CW q k σ1) k A s H0 H1 locs1 → W p l e R s m args below meth c H1 locs1 cells slots Q (F0 m (pc + 1) ls rest)) : W p l e R s m args below meth c H locs cells slots Q (F0 m pc ls (.long x :: .int i :: .ref (q 28) :: rest)) :=
  o_last hC hw 28 rfl hin rfl hdg (kk _ rfl)
theorem C_ld29 {own : String} {i : Int32} (hC : Cx p s m meth c cc own nL ret) (hw : WH D (CW q k σ) k A s H0 H locs) (hin : vp_in i 1) (hdg : decode cc pc = .ok (.laload, 1))
    (kk : W p l e R s m args below meth c H locs cells slots Q (F0 m (pc + 1) ls (.long (rl σ 3 i) :: rest))) : W p l e R s m args below meth c H locs cells slots Q (F0 m pc ls (.int i :: .ref (q 29) :: rest)) :=
  o_lald hC hw 29 rfl hin hdg kk
theorem C_st29 {own : String} {i : Int32} {x : Int64} (hC : Cx p s m meth c cc own nL ret) (hw : WH D (CW q k σ) k A s H0 H locs) (hin : vp_in i 1) (hdg : decode cc pc = .ok (.lastore, 1))
    (kk : ∀ (σ1 : St), σ1 = sL σ 3 i x → ∀ (H1 : Heap) (locs1 : List Loc), WH D (CW q k σ1) k A s H0 H1 locs1 → W p l e R s m args below meth c H1 locs1 cells slots Q (F0 m (pc + 1) ls rest)) : W p l e R s m args below meth c H locs cells slots Q (F0 m pc ls (.long x :: .int i :: .ref (q 29) :: rest)) :=
  o_last hC hw 29 rfl hin rfl hdg (kk _ rfl)
end OwnC
section OwnM
variable {p : Program} {l : Launch} {e : Env} {R : Room} {s : State} {m : MethodId} {args : Array Value} {below : List Frame} {meth : Method} {c : Code} {H : Heap} {locs : List Loc} {cells slots : Nat} {Q : State → Prop}
variable {D : va_G} {q : Nat → Nat} {σ : St} {k : cK} {A : Nat → Prop} {H0 : Heap} {pc nL : Nat} {ls : Array Slot} {rest : List Value} {cc : ByteArray} {ret : Option FieldType}
theorem M_g_X7_122 (hC : Cx p s m meth c cc RX7 nL ret) (hw : WH D (MW q k σ) k A s H0 H locs) (hdg : decode cc pc = .ok (.getfield 122, 3))
    (kk : W p l e R s m args below meth c H locs cells slots Q (F0 m (pc + 3) ls (.int (σ.1 5) :: rest))) : W p l e R s m args below meth c H locs cells slots Q (F0 m pc ls (.ref (q 0) :: rest)) :=
  o_get hC hw iX7 0 rfl rfl 7 (by decide) kw_425 rfl hdg kk
theorem M_g_X7_13 (hC : Cx p s m meth c cc RX7 nL ret) (hw : WH D (MW q k σ) k A s H0 H locs) (hdg : decode cc pc = .ok (.getfield 13, 3))
    (kk : W p l e R s m args below meth c H locs cells slots Q (F0 m (pc + 3) ls (.ref (q 2) :: rest))) : W p l e R s m args below meth c H locs cells slots Q (F0 m pc ls (.ref (q 0) :: rest)) :=
  o_get hC hw iX7 0 rfl rfl 6 (by decide) kw_426 rfl hdg kk
theorem M_g_X7_149 (hC : Cx p s m meth c cc RX7 nL ret) (hw : WH D (MW q k σ) k A s H0 H locs) (hdg : decode cc pc = .ok (.getfield 149, 3))
    (kk : W p l e R s m args below meth c H locs cells slots Q (F0 m (pc + 3) ls (.int (σ.1 6) :: rest))) : W p l e R s m args below meth c H locs cells slots Q (F0 m pc ls (.ref (q 0) :: rest)) :=
  o_get hC hw iX7 0 rfl rfl 10 (by decide) kw_427 rfl hdg kk
theorem M_g_X7_16 (hC : Cx p s m meth c cc RX7 nL ret) (hw : WH D (MW q k σ) k A s H0 H locs) (hdg : decode cc pc = .ok (.getfield 16, 3))
    (kk : W p l e R s m args below meth c H locs cells slots Q (F0 m (pc + 3) ls (.ref (q 3) :: rest))) : W p l e R s m args below meth c H locs cells slots Q (F0 m pc ls (.ref (q 0) :: rest)) :=
  o_get hC hw iX7 0 rfl rfl 8 (by decide) kw_428 rfl hdg kk
theorem M_g_X7_166 (hC : Cx p s m meth c cc RX7 nL ret) (hw : WH D (MW q k σ) k A s H0 H locs) (hdg : decode cc pc = .ok (.getfield 166, 3))
    (kk : W p l e R s m args below meth c H locs cells slots Q (F0 m (pc + 3) ls (.int (σ.1 7) :: rest))) : W p l e R s m args below meth c H locs cells slots Q (F0 m pc ls (.ref (q 0) :: rest)) :=
  o_get hC hw iX7 0 rfl rfl 19 (by decide) kw_429 rfl hdg kk
theorem M_g_X7_169 (hC : Cx p s m meth c cc RX7 nL ret) (hw : WH D (MW q k σ) k A s H0 H locs) (hdg : decode cc pc = .ok (.getfield 169, 3))
    (kk : W p l e R s m args below meth c H locs cells slots Q (F0 m (pc + 3) ls (.int (σ.1 8) :: rest))) : W p l e R s m args below meth c H locs cells slots Q (F0 m pc ls (.ref (q 0) :: rest)) :=
  o_get hC hw iX7 0 rfl rfl 20 (by decide) kw_430 rfl hdg kk
theorem M_g_X7_172 (hC : Cx p s m meth c cc RX7 nL ret) (hw : WH D (MW q k σ) k A s H0 H locs) (hdg : decode cc pc = .ok (.getfield 172, 3))
    (kk : W p l e R s m args below meth c H locs cells slots Q (F0 m (pc + 3) ls (.int (σ.1 9) :: rest))) : W p l e R s m args below meth c H locs cells slots Q (F0 m pc ls (.ref (q 0) :: rest)) :=
  o_get hC hw iX7 0 rfl rfl 22 (by decide) kw_431 rfl hdg kk
theorem M_g_X7_19 (hC : Cx p s m meth c cc RX7 nL ret) (hw : WH D (MW q k σ) k A s H0 H locs) (hdg : decode cc pc = .ok (.getfield 19, 3))
    (kk : W p l e R s m args below meth c H locs cells slots Q (F0 m (pc + 3) ls (.ref (q 4) :: rest))) : W p l e R s m args below meth c H locs cells slots Q (F0 m pc ls (.ref (q 0) :: rest)) :=
  o_get hC hw iX7 0 rfl rfl 9 (by decide) kw_432 rfl hdg kk
theorem M_g_X7_23 (hC : Cx p s m meth c cc RX7 nL ret) (hw : WH D (MW q k σ) k A s H0 H locs) (hdg : decode cc pc = .ok (.getfield 23, 3))
    (kk : W p l e R s m args below meth c H locs cells slots Q (F0 m (pc + 3) ls (.ref (q 5) :: rest))) : W p l e R s m args below meth c H locs cells slots Q (F0 m pc ls (.ref (q 0) :: rest)) :=
  o_get hC hw iX7 0 rfl rfl 11 (by decide) kw_433 rfl hdg kk
theorem M_g_X7_26 (hC : Cx p s m meth c cc RX7 nL ret) (hw : WH D (MW q k σ) k A s H0 H locs) (hdg : decode cc pc = .ok (.getfield 26, 3))
    (kk : W p l e R s m args below meth c H locs cells slots Q (F0 m (pc + 3) ls (.ref (q 6) :: rest))) : W p l e R s m args below meth c H locs cells slots Q (F0 m pc ls (.ref (q 0) :: rest)) :=
  o_get hC hw iX7 0 rfl rfl 12 (by decide) kw_434 rfl hdg kk
theorem M_g_X7_29 (hC : Cx p s m meth c cc RX7 nL ret) (hw : WH D (MW q k σ) k A s H0 H locs) (hdg : decode cc pc = .ok (.getfield 29, 3))
    (kk : W p l e R s m args below meth c H locs cells slots Q (F0 m (pc + 3) ls (.ref (q 7) :: rest))) : W p l e R s m args below meth c H locs cells slots Q (F0 m pc ls (.ref (q 0) :: rest)) :=
  o_get hC hw iX7 0 rfl rfl 13 (by decide) kw_435 rfl hdg kk
theorem M_g_X7_32 (hC : Cx p s m meth c cc RX7 nL ret) (hw : WH D (MW q k σ) k A s H0 H locs) (hdg : decode cc pc = .ok (.getfield 32, 3))
    (kk : W p l e R s m args below meth c H locs cells slots Q (F0 m (pc + 3) ls (.ref (q 8) :: rest))) : W p l e R s m args below meth c H locs cells slots Q (F0 m pc ls (.ref (q 0) :: rest)) :=
  o_get hC hw iX7 0 rfl rfl 14 (by decide) kw_436 rfl hdg kk
theorem M_g_X7_36 (hC : Cx p s m meth c cc RX7 nL ret) (hw : WH D (MW q k σ) k A s H0 H locs) (hdg : decode cc pc = .ok (.getfield 36, 3))
    (kk : W p l e R s m args below meth c H locs cells slots Q (F0 m (pc + 3) ls (.ref (q 9) :: rest))) : W p l e R s m args below meth c H locs cells slots Q (F0 m pc ls (.ref (q 0) :: rest)) :=
  o_get hC hw iX7 0 rfl rfl 15 (by decide) kw_437 rfl hdg kk
theorem M_g_X7_39 (hC : Cx p s m meth c cc RX7 nL ret) (hw : WH D (MW q k σ) k A s H0 H locs) (hdg : decode cc pc = .ok (.getfield 39, 3))
    (kk : W p l e R s m args below meth c H locs cells slots Q (F0 m (pc + 3) ls (.ref (q 10) :: rest))) : W p l e R s m args below meth c H locs cells slots Q (F0 m pc ls (.ref (q 0) :: rest)) :=
  o_get hC hw iX7 0 rfl rfl 16 (by decide) kw_438 rfl hdg kk
theorem M_g_X7_42 (hC : Cx p s m meth c cc RX7 nL ret) (hw : WH D (MW q k σ) k A s H0 H locs) (hdg : decode cc pc = .ok (.getfield 42, 3))
    (kk : W p l e R s m args below meth c H locs cells slots Q (F0 m (pc + 3) ls (.ref (q 11) :: rest))) : W p l e R s m args below meth c H locs cells slots Q (F0 m pc ls (.ref (q 0) :: rest)) :=
  o_get hC hw iX7 0 rfl rfl 17 (by decide) kw_439 rfl hdg kk
theorem M_g_X7_45 (hC : Cx p s m meth c cc RX7 nL ret) (hw : WH D (MW q k σ) k A s H0 H locs) (hdg : decode cc pc = .ok (.getfield 45, 3))
    (kk : W p l e R s m args below meth c H locs cells slots Q (F0 m (pc + 3) ls (.ref (q 12) :: rest))) : W p l e R s m args below meth c H locs cells slots Q (F0 m pc ls (.ref (q 0) :: rest)) :=
  o_get hC hw iX7 0 rfl rfl 18 (by decide) kw_440 rfl hdg kk
theorem M_g_X7_48 (hC : Cx p s m meth c cc RX7 nL ret) (hw : WH D (MW q k σ) k A s H0 H locs) (hdg : decode cc pc = .ok (.getfield 48, 3))
    (kk : W p l e R s m args below meth c H locs cells slots Q (F0 m (pc + 3) ls (.ref (q 13) :: rest))) : W p l e R s m args below meth c H locs cells slots Q (F0 m pc ls (.ref (q 0) :: rest)) :=
  o_get hC hw iX7 0 rfl rfl 21 (by decide) kw_441 rfl hdg kk
theorem M_g_X7_51 (hC : Cx p s m meth c cc RX7 nL ret) (hw : WH D (MW q k σ) k A s H0 H locs) (hdg : decode cc pc = .ok (.getfield 51, 3))
    (kk : W p l e R s m args below meth c H locs cells slots Q (F0 m (pc + 3) ls (.ref (q 14) :: rest))) : W p l e R s m args below meth c H locs cells slots Q (F0 m pc ls (.ref (q 0) :: rest)) :=
  o_get hC hw iX7 0 rfl rfl 23 (by decide) kw_442 rfl hdg kk
theorem M_g_X7_55 (hC : Cx p s m meth c cc RX7 nL ret) (hw : WH D (MW q k σ) k A s H0 H locs) (hdg : decode cc pc = .ok (.getfield 55, 3))
    (kk : W p l e R s m args below meth c H locs cells slots Q (F0 m (pc + 3) ls (.ref (q 15) :: rest))) : W p l e R s m args below meth c H locs cells slots Q (F0 m pc ls (.ref (q 0) :: rest)) :=
  o_get hC hw iX7 0 rfl rfl 24 (by decide) kw_443 rfl hdg kk
theorem M_g_X7_58 (hC : Cx p s m meth c cc RX7 nL ret) (hw : WH D (MW q k σ) k A s H0 H locs) (hdg : decode cc pc = .ok (.getfield 58, 3))
    (kk : W p l e R s m args below meth c H locs cells slots Q (F0 m (pc + 3) ls (.ref (q 16) :: rest))) : W p l e R s m args below meth c H locs cells slots Q (F0 m pc ls (.ref (q 0) :: rest)) :=
  o_get hC hw iX7 0 rfl rfl 25 (by decide) kw_444 rfl hdg kk
theorem M_g_X7_62 (hC : Cx p s m meth c cc RX7 nL ret) (hw : WH D (MW q k σ) k A s H0 H locs) (hdg : decode cc pc = .ok (.getfield 62, 3))
    (kk : W p l e R s m args below meth c H locs cells slots Q (F0 m (pc + 3) ls (.ref (q 17) :: rest))) : W p l e R s m args below meth c H locs cells slots Q (F0 m pc ls (.ref (q 0) :: rest)) :=
  o_get hC hw iX7 0 rfl rfl 26 (by decide) kw_445 rfl hdg kk
theorem M_g_X7_65 (hC : Cx p s m meth c cc RX7 nL ret) (hw : WH D (MW q k σ) k A s H0 H locs) (hdg : decode cc pc = .ok (.getfield 65, 3))
    (kk : W p l e R s m args below meth c H locs cells slots Q (F0 m (pc + 3) ls (.ref (q 18) :: rest))) : W p l e R s m args below meth c H locs cells slots Q (F0 m pc ls (.ref (q 0) :: rest)) :=
  o_get hC hw iX7 0 rfl rfl 27 (by decide) kw_446 rfl hdg kk
theorem M_g_X7_68 (hC : Cx p s m meth c cc RX7 nL ret) (hw : WH D (MW q k σ) k A s H0 H locs) (hdg : decode cc pc = .ok (.getfield 68, 3))
    (kk : W p l e R s m args below meth c H locs cells slots Q (F0 m (pc + 3) ls (.ref (q 19) :: rest))) : W p l e R s m args below meth c H locs cells slots Q (F0 m pc ls (.ref (q 0) :: rest)) :=
  o_get hC hw iX7 0 rfl rfl 28 (by decide) kw_447 rfl hdg kk
theorem M_g_X7_7 (hC : Cx p s m meth c cc RX7 nL ret) (hw : WH D (MW q k σ) k A s H0 H locs) (hdg : decode cc pc = .ok (.getfield 7, 3))
    (kk : W p l e R s m args below meth c H locs cells slots Q (F0 m (pc + 3) ls (.ref (q 1) :: rest))) : W p l e R s m args below meth c H locs cells slots Q (F0 m pc ls (.ref (q 0) :: rest)) :=
  o_get hC hw iX7 0 rfl rfl 5 (by decide) kw_448 rfl hdg kk
theorem M_g_X7_71 (hC : Cx p s m meth c cc RX7 nL ret) (hw : WH D (MW q k σ) k A s H0 H locs) (hdg : decode cc pc = .ok (.getfield 71, 3))
    (kk : W p l e R s m args below meth c H locs cells slots Q (F0 m (pc + 3) ls (.ref (q 20) :: rest))) : W p l e R s m args below meth c H locs cells slots Q (F0 m pc ls (.ref (q 0) :: rest)) :=
  o_get hC hw iX7 0 rfl rfl 29 (by decide) kw_449 rfl hdg kk
theorem M_g_X7_74 (hC : Cx p s m meth c cc RX7 nL ret) (hw : WH D (MW q k σ) k A s H0 H locs) (hdg : decode cc pc = .ok (.getfield 74, 3))
    (kk : W p l e R s m args below meth c H locs cells slots Q (F0 m (pc + 3) ls (.int (σ.1 1) :: rest))) : W p l e R s m args below meth c H locs cells slots Q (F0 m pc ls (.ref (q 0) :: rest)) :=
  o_get hC hw iX7 0 rfl rfl 1 (by decide) kw_450 rfl hdg kk
theorem M_g_X7_78 (hC : Cx p s m meth c cc RX7 nL ret) (hw : WH D (MW q k σ) k A s H0 H locs) (hdg : decode cc pc = .ok (.getfield 78, 3))
    (kk : W p l e R s m args below meth c H locs cells slots Q (F0 m (pc + 3) ls (.int (σ.1 2) :: rest))) : W p l e R s m args below meth c H locs cells slots Q (F0 m pc ls (.ref (q 0) :: rest)) :=
  o_get hC hw iX7 0 rfl rfl 2 (by decide) kw_451 rfl hdg kk
theorem M_g_X7_81 (hC : Cx p s m meth c cc RX7 nL ret) (hw : WH D (MW q k σ) k A s H0 H locs) (hdg : decode cc pc = .ok (.getfield 81, 3))
    (kk : W p l e R s m args below meth c H locs cells slots Q (F0 m (pc + 3) ls (.int (σ.1 0) :: rest))) : W p l e R s m args below meth c H locs cells slots Q (F0 m pc ls (.ref (q 0) :: rest)) :=
  o_get hC hw iX7 0 rfl rfl 0 (by decide) kw_452 rfl hdg kk
theorem M_g_X7_84 (hC : Cx p s m meth c cc RX7 nL ret) (hw : WH D (MW q k σ) k A s H0 H locs) (hdg : decode cc pc = .ok (.getfield 84, 3))
    (kk : W p l e R s m args below meth c H locs cells slots Q (F0 m (pc + 3) ls (.int (σ.1 4) :: rest))) : W p l e R s m args below meth c H locs cells slots Q (F0 m pc ls (.ref (q 0) :: rest)) :=
  o_get hC hw iX7 0 rfl rfl 4 (by decide) kw_453 rfl hdg kk
theorem M_g_X7_87 (hC : Cx p s m meth c cc RX7 nL ret) (hw : WH D (MW q k σ) k A s H0 H locs) (hdg : decode cc pc = .ok (.getfield 87, 3))
    (kk : W p l e R s m args below meth c H locs cells slots Q (F0 m (pc + 3) ls (.int (σ.1 3) :: rest))) : W p l e R s m args below meth c H locs cells slots Q (F0 m pc ls (.ref (q 0) :: rest)) :=
  o_get hC hw iX7 0 rfl rfl 3 (by decide) kw_454 rfl hdg kk
theorem M_p_X7_122 {v : Int32} (hC : Cx p s m meth c cc RX7 nL ret) (hw : WH D (MW q k σ) k A s H0 H locs) (hdg : decode cc pc = .ok (.putfield 122, 3))
    (kk : ∀ (σ1 : St), σ1 = sI σ 5 v → ∀ (H1 : Heap) (locs1 : List Loc), WH D (MW q k σ1) k A s H0 H1 locs1 → W p l e R s m args below meth c H1 locs1 cells slots Q (F0 m (pc + 3) ls rest)) : W p l e R s m args below meth c H locs cells slots Q (F0 m pc ls (.int v :: .ref (q 0) :: rest)) :=
  o_put hC hw iX7 tyX7 tyX7_ok nmX7 0 rfl rfl 7 (by decide) kw_425 rfl ⟨rfl, rfl⟩ (Nat.le_of_ble_eq_true rfl) rfl hdg (kk _ rfl)
theorem M_p_X7_149 {v : Int32} (hC : Cx p s m meth c cc RX7 nL ret) (hw : WH D (MW q k σ) k A s H0 H locs) (hdg : decode cc pc = .ok (.putfield 149, 3))
    (kk : ∀ (σ1 : St), σ1 = sI σ 6 v → ∀ (H1 : Heap) (locs1 : List Loc), WH D (MW q k σ1) k A s H0 H1 locs1 → W p l e R s m args below meth c H1 locs1 cells slots Q (F0 m (pc + 3) ls rest)) : W p l e R s m args below meth c H locs cells slots Q (F0 m pc ls (.int v :: .ref (q 0) :: rest)) :=
  o_put hC hw iX7 tyX7 tyX7_ok nmX7 0 rfl rfl 10 (by decide) kw_427 rfl ⟨rfl, rfl⟩ (Nat.le_of_ble_eq_true rfl) rfl hdg (kk _ rfl)
theorem M_p_X7_166 {v : Int32} (hC : Cx p s m meth c cc RX7 nL ret) (hw : WH D (MW q k σ) k A s H0 H locs) (hdg : decode cc pc = .ok (.putfield 166, 3))
    (kk : ∀ (σ1 : St), σ1 = sI σ 7 v → ∀ (H1 : Heap) (locs1 : List Loc), WH D (MW q k σ1) k A s H0 H1 locs1 → W p l e R s m args below meth c H1 locs1 cells slots Q (F0 m (pc + 3) ls rest)) : W p l e R s m args below meth c H locs cells slots Q (F0 m pc ls (.int v :: .ref (q 0) :: rest)) :=
  o_put hC hw iX7 tyX7 tyX7_ok nmX7 0 rfl rfl 19 (by decide) kw_429 rfl ⟨rfl, rfl⟩ (Nat.le_of_ble_eq_true rfl) rfl hdg (kk _ rfl)
theorem M_p_X7_169 {v : Int32} (hC : Cx p s m meth c cc RX7 nL ret) (hw : WH D (MW q k σ) k A s H0 H locs) (hdg : decode cc pc = .ok (.putfield 169, 3))
    (kk : ∀ (σ1 : St), σ1 = sI σ 8 v → ∀ (H1 : Heap) (locs1 : List Loc), WH D (MW q k σ1) k A s H0 H1 locs1 → W p l e R s m args below meth c H1 locs1 cells slots Q (F0 m (pc + 3) ls rest)) : W p l e R s m args below meth c H locs cells slots Q (F0 m pc ls (.int v :: .ref (q 0) :: rest)) :=
  o_put hC hw iX7 tyX7 tyX7_ok nmX7 0 rfl rfl 20 (by decide) kw_430 rfl ⟨rfl, rfl⟩ (Nat.le_of_ble_eq_true rfl) rfl hdg (kk _ rfl)
theorem M_p_X7_172 {v : Int32} (hC : Cx p s m meth c cc RX7 nL ret) (hw : WH D (MW q k σ) k A s H0 H locs) (hdg : decode cc pc = .ok (.putfield 172, 3))
    (kk : ∀ (σ1 : St), σ1 = sI σ 9 v → ∀ (H1 : Heap) (locs1 : List Loc), WH D (MW q k σ1) k A s H0 H1 locs1 → W p l e R s m args below meth c H1 locs1 cells slots Q (F0 m (pc + 3) ls rest)) : W p l e R s m args below meth c H locs cells slots Q (F0 m pc ls (.int v :: .ref (q 0) :: rest)) :=
  o_put hC hw iX7 tyX7 tyX7_ok nmX7 0 rfl rfl 22 (by decide) kw_431 rfl ⟨rfl, rfl⟩ (Nat.le_of_ble_eq_true rfl) rfl hdg (kk _ rfl)
theorem M_p_X7_81 {v : Int32} (hC : Cx p s m meth c cc RX7 nL ret) (hw : WH D (MW q k σ) k A s H0 H locs) (hdg : decode cc pc = .ok (.putfield 81, 3))
    (kk : ∀ (σ1 : St), σ1 = sI σ 0 v → ∀ (H1 : Heap) (locs1 : List Loc), WH D (MW q k σ1) k A s H0 H1 locs1 → W p l e R s m args below meth c H1 locs1 cells slots Q (F0 m (pc + 3) ls rest)) : W p l e R s m args below meth c H locs cells slots Q (F0 m pc ls (.int v :: .ref (q 0) :: rest)) :=
  o_put hC hw iX7 tyX7 tyX7_ok nmX7 0 rfl rfl 0 (by decide) kw_452 rfl ⟨rfl, rfl⟩ (Nat.le_of_ble_eq_true rfl) rfl hdg (kk _ rfl)
theorem M_p_X7_84 {v : Int32} (hC : Cx p s m meth c cc RX7 nL ret) (hw : WH D (MW q k σ) k A s H0 H locs) (hdg : decode cc pc = .ok (.putfield 84, 3))
    (kk : ∀ (σ1 : St), σ1 = sI σ 4 v → ∀ (H1 : Heap) (locs1 : List Loc), WH D (MW q k σ1) k A s H0 H1 locs1 → W p l e R s m args below meth c H1 locs1 cells slots Q (F0 m (pc + 3) ls rest)) : W p l e R s m args below meth c H locs cells slots Q (F0 m pc ls (.int v :: .ref (q 0) :: rest)) :=
  o_put hC hw iX7 tyX7 tyX7_ok nmX7 0 rfl rfl 4 (by decide) kw_453 rfl ⟨rfl, rfl⟩ (Nat.le_of_ble_eq_true rfl) rfl hdg (kk _ rfl)
theorem M_p_X7_87 {v : Int32} (hC : Cx p s m meth c cc RX7 nL ret) (hw : WH D (MW q k σ) k A s H0 H locs) (hdg : decode cc pc = .ok (.putfield 87, 3))
    (kk : ∀ (σ1 : St), σ1 = sI σ 3 v → ∀ (H1 : Heap) (locs1 : List Loc), WH D (MW q k σ1) k A s H0 H1 locs1 → W p l e R s m args below meth c H1 locs1 cells slots Q (F0 m (pc + 3) ls rest)) : W p l e R s m args below meth c H locs cells slots Q (F0 m pc ls (.int v :: .ref (q 0) :: rest)) :=
  o_put hC hw iX7 tyX7 tyX7_ok nmX7 0 rfl rfl 3 (by decide) kw_454 rfl ⟨rfl, rfl⟩ (Nat.le_of_ble_eq_true rfl) rfl hdg (kk _ rfl)
theorem M_ld1 {own : String} {i : Int32} (hC : Cx p s m meth c cc own nL ret) (hw : WH D (MW q k σ) k A s H0 H locs) (hin : vp_in i 8) (hdg : decode cc pc = .ok (.iaload, 1))
    (kk : W p l e R s m args below meth c H locs cells slots Q (F0 m (pc + 1) ls (.int (ra σ 0 i) :: rest))) : W p l e R s m args below meth c H locs cells slots Q (F0 m pc ls (.int i :: .ref (q 1) :: rest)) :=
  o_iald hC hw 1 rfl hin hdg kk
theorem M_st1 {own : String} {i : Int32} {x : Int32} (hC : Cx p s m meth c cc own nL ret) (hw : WH D (MW q k σ) k A s H0 H locs) (hin : vp_in i 8) (hdg : decode cc pc = .ok (.iastore, 1))
    (kk : ∀ (σ1 : St), σ1 = sA σ 0 i x → ∀ (H1 : Heap) (locs1 : List Loc), WH D (MW q k σ1) k A s H0 H1 locs1 → W p l e R s m args below meth c H1 locs1 cells slots Q (F0 m (pc + 1) ls rest)) : W p l e R s m args below meth c H locs cells slots Q (F0 m pc ls (.int x :: .int i :: .ref (q 1) :: rest)) :=
  o_iast hC hw 1 rfl hin rfl hdg (kk _ rfl)
theorem M_ld2 {own : String} {i : Int32} (hC : Cx p s m meth c cc own nL ret) (hw : WH D (MW q k σ) k A s H0 H locs) (hin : vp_in i 8) (hdg : decode cc pc = .ok (.iaload, 1))
    (kk : W p l e R s m args below meth c H locs cells slots Q (F0 m (pc + 1) ls (.int (ra σ 1 i) :: rest))) : W p l e R s m args below meth c H locs cells slots Q (F0 m pc ls (.int i :: .ref (q 2) :: rest)) :=
  o_iald hC hw 2 rfl hin hdg kk
theorem M_st2 {own : String} {i : Int32} {x : Int32} (hC : Cx p s m meth c cc own nL ret) (hw : WH D (MW q k σ) k A s H0 H locs) (hin : vp_in i 8) (hdg : decode cc pc = .ok (.iastore, 1))
    (kk : ∀ (σ1 : St), σ1 = sA σ 1 i x → ∀ (H1 : Heap) (locs1 : List Loc), WH D (MW q k σ1) k A s H0 H1 locs1 → W p l e R s m args below meth c H1 locs1 cells slots Q (F0 m (pc + 1) ls rest)) : W p l e R s m args below meth c H locs cells slots Q (F0 m pc ls (.int x :: .int i :: .ref (q 2) :: rest)) :=
  o_iast hC hw 2 rfl hin rfl hdg (kk _ rfl)
theorem M_ld3 {own : String} {i : Int32} (hC : Cx p s m meth c cc own nL ret) (hw : WH D (MW q k σ) k A s H0 H locs) (hin : vp_in i 6) (hdg : decode cc pc = .ok (.iaload, 1))
    (kk : W p l e R s m args below meth c H locs cells slots Q (F0 m (pc + 1) ls (.int (ra σ 2 i) :: rest))) : W p l e R s m args below meth c H locs cells slots Q (F0 m pc ls (.int i :: .ref (q 3) :: rest)) :=
  o_iald hC hw 3 rfl hin hdg kk
theorem M_st3 {own : String} {i : Int32} {x : Int32} (hC : Cx p s m meth c cc own nL ret) (hw : WH D (MW q k σ) k A s H0 H locs) (hin : vp_in i 6) (hdg : decode cc pc = .ok (.iastore, 1))
    (kk : ∀ (σ1 : St), σ1 = sA σ 2 i x → ∀ (H1 : Heap) (locs1 : List Loc), WH D (MW q k σ1) k A s H0 H1 locs1 → W p l e R s m args below meth c H1 locs1 cells slots Q (F0 m (pc + 1) ls rest)) : W p l e R s m args below meth c H locs cells slots Q (F0 m pc ls (.int x :: .int i :: .ref (q 3) :: rest)) :=
  o_iast hC hw 3 rfl hin rfl hdg (kk _ rfl)
theorem M_ld4 {own : String} {i : Int32} (hC : Cx p s m meth c cc own nL ret) (hw : WH D (MW q k σ) k A s H0 H locs) (hin : vp_in i 6) (hdg : decode cc pc = .ok (.iaload, 1))
    (kk : W p l e R s m args below meth c H locs cells slots Q (F0 m (pc + 1) ls (.int (ra σ 3 i) :: rest))) : W p l e R s m args below meth c H locs cells slots Q (F0 m pc ls (.int i :: .ref (q 4) :: rest)) :=
  o_iald hC hw 4 rfl hin hdg kk
theorem M_st4 {own : String} {i : Int32} {x : Int32} (hC : Cx p s m meth c cc own nL ret) (hw : WH D (MW q k σ) k A s H0 H locs) (hin : vp_in i 6) (hdg : decode cc pc = .ok (.iastore, 1))
    (kk : ∀ (σ1 : St), σ1 = sA σ 3 i x → ∀ (H1 : Heap) (locs1 : List Loc), WH D (MW q k σ1) k A s H0 H1 locs1 → W p l e R s m args below meth c H1 locs1 cells slots Q (F0 m (pc + 1) ls rest)) : W p l e R s m args below meth c H locs cells slots Q (F0 m pc ls (.int x :: .int i :: .ref (q 4) :: rest)) :=
  o_iast hC hw 4 rfl hin rfl hdg (kk _ rfl)
theorem M_ld5 {own : String} {i : Int32} (hC : Cx p s m meth c cc own nL ret) (hw : WH D (MW q k σ) k A s H0 H locs) (hin : vp_in i 80008) (hdg : decode cc pc = .ok (.iaload, 1))
    (kk : W p l e R s m args below meth c H locs cells slots Q (F0 m (pc + 1) ls (.int (ra σ 4 i) :: rest))) : W p l e R s m args below meth c H locs cells slots Q (F0 m pc ls (.int i :: .ref (q 5) :: rest)) :=
  o_iald hC hw 5 rfl hin hdg kk
theorem M_st5 {own : String} {i : Int32} {x : Int32} (hC : Cx p s m meth c cc own nL ret) (hw : WH D (MW q k σ) k A s H0 H locs) (hin : vp_in i 80008) (hdg : decode cc pc = .ok (.iastore, 1))
    (kk : ∀ (σ1 : St), σ1 = sA σ 4 i x → ∀ (H1 : Heap) (locs1 : List Loc), WH D (MW q k σ1) k A s H0 H1 locs1 → W p l e R s m args below meth c H1 locs1 cells slots Q (F0 m (pc + 1) ls rest)) : W p l e R s m args below meth c H locs cells slots Q (F0 m pc ls (.int x :: .int i :: .ref (q 5) :: rest)) :=
  o_iast hC hw 5 rfl hin rfl hdg (kk _ rfl)
theorem M_ld6 {own : String} {i : Int32} (hC : Cx p s m meth c cc own nL ret) (hw : WH D (MW q k σ) k A s H0 H locs) (hin : vp_in i 80008) (hdg : decode cc pc = .ok (.iaload, 1))
    (kk : W p l e R s m args below meth c H locs cells slots Q (F0 m (pc + 1) ls (.int (ra σ 5 i) :: rest))) : W p l e R s m args below meth c H locs cells slots Q (F0 m pc ls (.int i :: .ref (q 6) :: rest)) :=
  o_iald hC hw 6 rfl hin hdg kk
theorem M_st6 {own : String} {i : Int32} {x : Int32} (hC : Cx p s m meth c cc own nL ret) (hw : WH D (MW q k σ) k A s H0 H locs) (hin : vp_in i 80008) (hdg : decode cc pc = .ok (.iastore, 1))
    (kk : ∀ (σ1 : St), σ1 = sA σ 5 i x → ∀ (H1 : Heap) (locs1 : List Loc), WH D (MW q k σ1) k A s H0 H1 locs1 → W p l e R s m args below meth c H1 locs1 cells slots Q (F0 m (pc + 1) ls rest)) : W p l e R s m args below meth c H locs cells slots Q (F0 m pc ls (.int x :: .int i :: .ref (q 6) :: rest)) :=
  o_iast hC hw 6 rfl hin rfl hdg (kk _ rfl)
theorem M_ld7 {own : String} {i : Int32} (hC : Cx p s m meth c cc own nL ret) (hw : WH D (MW q k σ) k A s H0 H locs) (hin : vp_in i 10001) (hdg : decode cc pc = .ok (.iaload, 1))
    (kk : W p l e R s m args below meth c H locs cells slots Q (F0 m (pc + 1) ls (.int (ra σ 6 i) :: rest))) : W p l e R s m args below meth c H locs cells slots Q (F0 m pc ls (.int i :: .ref (q 7) :: rest)) :=
  o_iald hC hw 7 rfl hin hdg kk
theorem M_st7 {own : String} {i : Int32} {x : Int32} (hC : Cx p s m meth c cc own nL ret) (hw : WH D (MW q k σ) k A s H0 H locs) (hin : vp_in i 10001) (hdg : decode cc pc = .ok (.iastore, 1))
    (kk : ∀ (σ1 : St), σ1 = sA σ 6 i x → ∀ (H1 : Heap) (locs1 : List Loc), WH D (MW q k σ1) k A s H0 H1 locs1 → W p l e R s m args below meth c H1 locs1 cells slots Q (F0 m (pc + 1) ls rest)) : W p l e R s m args below meth c H locs cells slots Q (F0 m pc ls (.int x :: .int i :: .ref (q 7) :: rest)) :=
  o_iast hC hw 7 rfl hin rfl hdg (kk _ rfl)
theorem M_ld8 {own : String} {i : Int32} (hC : Cx p s m meth c cc own nL ret) (hw : WH D (MW q k σ) k A s H0 H locs) (hin : vp_in i 10001) (hdg : decode cc pc = .ok (.iaload, 1))
    (kk : W p l e R s m args below meth c H locs cells slots Q (F0 m (pc + 1) ls (.int (ra σ 7 i) :: rest))) : W p l e R s m args below meth c H locs cells slots Q (F0 m pc ls (.int i :: .ref (q 8) :: rest)) :=
  o_iald hC hw 8 rfl hin hdg kk
theorem M_st8 {own : String} {i : Int32} {x : Int32} (hC : Cx p s m meth c cc own nL ret) (hw : WH D (MW q k σ) k A s H0 H locs) (hin : vp_in i 10001) (hdg : decode cc pc = .ok (.iastore, 1))
    (kk : ∀ (σ1 : St), σ1 = sA σ 7 i x → ∀ (H1 : Heap) (locs1 : List Loc), WH D (MW q k σ1) k A s H0 H1 locs1 → W p l e R s m args below meth c H1 locs1 cells slots Q (F0 m (pc + 1) ls rest)) : W p l e R s m args below meth c H locs cells slots Q (F0 m pc ls (.int x :: .int i :: .ref (q 8) :: rest)) :=
  o_iast hC hw 8 rfl hin rfl hdg (kk _ rfl)
theorem M_ld9 {own : String} {i : Int32} (hC : Cx p s m meth c cc own nL ret) (hw : WH D (MW q k σ) k A s H0 H locs) (hin : vp_in i 32768) (hdg : decode cc pc = .ok (.iaload, 1))
    (kk : W p l e R s m args below meth c H locs cells slots Q (F0 m (pc + 1) ls (.int (ra σ 8 i) :: rest))) : W p l e R s m args below meth c H locs cells slots Q (F0 m pc ls (.int i :: .ref (q 9) :: rest)) :=
  o_iald hC hw 9 rfl hin hdg kk
theorem M_st9 {own : String} {i : Int32} {x : Int32} (hC : Cx p s m meth c cc own nL ret) (hw : WH D (MW q k σ) k A s H0 H locs) (hin : vp_in i 32768) (hdg : decode cc pc = .ok (.iastore, 1))
    (kk : ∀ (σ1 : St), σ1 = sA σ 8 i x → ∀ (H1 : Heap) (locs1 : List Loc), WH D (MW q k σ1) k A s H0 H1 locs1 → W p l e R s m args below meth c H1 locs1 cells slots Q (F0 m (pc + 1) ls rest)) : W p l e R s m args below meth c H locs cells slots Q (F0 m pc ls (.int x :: .int i :: .ref (q 9) :: rest)) :=
  o_iast hC hw 9 rfl hin rfl hdg (kk _ rfl)
theorem M_ld10 {own : String} {i : Int32} (hC : Cx p s m meth c cc own nL ret) (hw : WH D (MW q k σ) k A s H0 H locs) (hin : vp_in i 8) (hdg : decode cc pc = .ok (.iaload, 1))
    (kk : W p l e R s m args below meth c H locs cells slots Q (F0 m (pc + 1) ls (.int (ra σ 9 i) :: rest))) : W p l e R s m args below meth c H locs cells slots Q (F0 m pc ls (.int i :: .ref (q 10) :: rest)) :=
  o_iald hC hw 10 rfl hin hdg kk
theorem M_st10 {own : String} {i : Int32} {x : Int32} (hC : Cx p s m meth c cc own nL ret) (hw : WH D (MW q k σ) k A s H0 H locs) (hin : vp_in i 8) (hdg : decode cc pc = .ok (.iastore, 1))
    (kk : ∀ (σ1 : St), σ1 = sA σ 9 i x → ∀ (H1 : Heap) (locs1 : List Loc), WH D (MW q k σ1) k A s H0 H1 locs1 → W p l e R s m args below meth c H1 locs1 cells slots Q (F0 m (pc + 1) ls rest)) : W p l e R s m args below meth c H locs cells slots Q (F0 m pc ls (.int x :: .int i :: .ref (q 10) :: rest)) :=
  o_iast hC hw 10 rfl hin rfl hdg (kk _ rfl)
theorem M_ld11 {own : String} {i : Int32} (hC : Cx p s m meth c cc own nL ret) (hw : WH D (MW q k σ) k A s H0 H locs) (hin : vp_in i 8) (hdg : decode cc pc = .ok (.iaload, 1))
    (kk : W p l e R s m args below meth c H locs cells slots Q (F0 m (pc + 1) ls (.int (ra σ 10 i) :: rest))) : W p l e R s m args below meth c H locs cells slots Q (F0 m pc ls (.int i :: .ref (q 11) :: rest)) :=
  o_iald hC hw 11 rfl hin hdg kk
theorem M_st11 {own : String} {i : Int32} {x : Int32} (hC : Cx p s m meth c cc own nL ret) (hw : WH D (MW q k σ) k A s H0 H locs) (hin : vp_in i 8) (hdg : decode cc pc = .ok (.iastore, 1))
    (kk : ∀ (σ1 : St), σ1 = sA σ 10 i x → ∀ (H1 : Heap) (locs1 : List Loc), WH D (MW q k σ1) k A s H0 H1 locs1 → W p l e R s m args below meth c H1 locs1 cells slots Q (F0 m (pc + 1) ls rest)) : W p l e R s m args below meth c H locs cells slots Q (F0 m pc ls (.int x :: .int i :: .ref (q 11) :: rest)) :=
  o_iast hC hw 11 rfl hin rfl hdg (kk _ rfl)
theorem M_ld12 {own : String} {i : Int32} (hC : Cx p s m meth c cc own nL ret) (hw : WH D (MW q k σ) k A s H0 H locs) (hin : vp_in i 8) (hdg : decode cc pc = .ok (.iaload, 1))
    (kk : W p l e R s m args below meth c H locs cells slots Q (F0 m (pc + 1) ls (.int (ra σ 11 i) :: rest))) : W p l e R s m args below meth c H locs cells slots Q (F0 m pc ls (.int i :: .ref (q 12) :: rest)) :=
  o_iald hC hw 12 rfl hin hdg kk
theorem M_st12 {own : String} {i : Int32} {x : Int32} (hC : Cx p s m meth c cc own nL ret) (hw : WH D (MW q k σ) k A s H0 H locs) (hin : vp_in i 8) (hdg : decode cc pc = .ok (.iastore, 1))
    (kk : ∀ (σ1 : St), σ1 = sA σ 11 i x → ∀ (H1 : Heap) (locs1 : List Loc), WH D (MW q k σ1) k A s H0 H1 locs1 → W p l e R s m args below meth c H1 locs1 cells slots Q (F0 m (pc + 1) ls rest)) : W p l e R s m args below meth c H locs cells slots Q (F0 m pc ls (.int x :: .int i :: .ref (q 12) :: rest)) :=
  o_iast hC hw 12 rfl hin rfl hdg (kk _ rfl)
theorem M_ld13 {own : String} {i : Int32} (hC : Cx p s m meth c cc own nL ret) (hw : WH D (MW q k σ) k A s H0 H locs) (hin : vp_in i 10001) (hdg : decode cc pc = .ok (.iaload, 1))
    (kk : W p l e R s m args below meth c H locs cells slots Q (F0 m (pc + 1) ls (.int (ra σ 12 i) :: rest))) : W p l e R s m args below meth c H locs cells slots Q (F0 m pc ls (.int i :: .ref (q 13) :: rest)) :=
  o_iald hC hw 13 rfl hin hdg kk
theorem M_st13 {own : String} {i : Int32} {x : Int32} (hC : Cx p s m meth c cc own nL ret) (hw : WH D (MW q k σ) k A s H0 H locs) (hin : vp_in i 10001) (hdg : decode cc pc = .ok (.iastore, 1))
    (kk : ∀ (σ1 : St), σ1 = sA σ 12 i x → ∀ (H1 : Heap) (locs1 : List Loc), WH D (MW q k σ1) k A s H0 H1 locs1 → W p l e R s m args below meth c H1 locs1 cells slots Q (F0 m (pc + 1) ls rest)) : W p l e R s m args below meth c H locs cells slots Q (F0 m pc ls (.int x :: .int i :: .ref (q 13) :: rest)) :=
  o_iast hC hw 13 rfl hin rfl hdg (kk _ rfl)
theorem M_ld14 {own : String} {i : Int32} (hC : Cx p s m meth c cc own nL ret) (hw : WH D (MW q k σ) k A s H0 H locs) (hin : vp_in i 64) (hdg : decode cc pc = .ok (.baload, 1))
    (kk : W p l e R s m args below meth c H locs cells slots Q (F0 m (pc + 1) ls (.int (ra σ 13 i) :: rest))) : W p l e R s m args below meth c H locs cells slots Q (F0 m pc ls (.int i :: .ref (q 14) :: rest)) :=
  o_zald hC hw 14 rfl hin hdg kk
theorem M_st14 {own : String} {i : Int32} {x : Int32} (hC : Cx p s m meth c cc own nL ret) (hw : WH D (MW q k σ) k A s H0 H locs) (hin : vp_in i 64) (hdg : decode cc pc = .ok (.bastore, 1))
    (kk : ∀ (σ1 : St), σ1 = sA σ 13 i (vp_nar .boolean x) → ∀ (H1 : Heap) (locs1 : List Loc), WH D (MW q k σ1) k A s H0 H1 locs1 → W p l e R s m args below meth c H1 locs1 cells slots Q (F0 m (pc + 1) ls rest)) : W p l e R s m args below meth c H locs cells slots Q (F0 m pc ls (.int x :: .int i :: .ref (q 14) :: rest)) :=
  o_zast hC hw 14 rfl hin rfl hdg (kk _ rfl)
theorem M_ld15 {own : String} {i : Int32} (hC : Cx p s m meth c cc own nL ret) (hw : WH D (MW q k σ) k A s H0 H locs) (hin : vp_in i 8) (hdg : decode cc pc = .ok (.iaload, 1))
    (kk : W p l e R s m args below meth c H locs cells slots Q (F0 m (pc + 1) ls (.int (ra σ 14 i) :: rest))) : W p l e R s m args below meth c H locs cells slots Q (F0 m pc ls (.int i :: .ref (q 15) :: rest)) :=
  o_iald hC hw 15 rfl hin hdg kk
theorem M_st15 {own : String} {i : Int32} {x : Int32} (hC : Cx p s m meth c cc own nL ret) (hw : WH D (MW q k σ) k A s H0 H locs) (hin : vp_in i 8) (hdg : decode cc pc = .ok (.iastore, 1))
    (kk : ∀ (σ1 : St), σ1 = sA σ 14 i x → ∀ (H1 : Heap) (locs1 : List Loc), WH D (MW q k σ1) k A s H0 H1 locs1 → W p l e R s m args below meth c H1 locs1 cells slots Q (F0 m (pc + 1) ls rest)) : W p l e R s m args below meth c H locs cells slots Q (F0 m pc ls (.int x :: .int i :: .ref (q 15) :: rest)) :=
  o_iast hC hw 15 rfl hin rfl hdg (kk _ rfl)
theorem M_ld16 {own : String} {i : Int32} (hC : Cx p s m meth c cc own nL ret) (hw : WH D (MW q k σ) k A s H0 H locs) (hin : vp_in i 8) (hdg : decode cc pc = .ok (.iaload, 1))
    (kk : W p l e R s m args below meth c H locs cells slots Q (F0 m (pc + 1) ls (.int (ra σ 15 i) :: rest))) : W p l e R s m args below meth c H locs cells slots Q (F0 m pc ls (.int i :: .ref (q 16) :: rest)) :=
  o_iald hC hw 16 rfl hin hdg kk
theorem M_st16 {own : String} {i : Int32} {x : Int32} (hC : Cx p s m meth c cc own nL ret) (hw : WH D (MW q k σ) k A s H0 H locs) (hin : vp_in i 8) (hdg : decode cc pc = .ok (.iastore, 1))
    (kk : ∀ (σ1 : St), σ1 = sA σ 15 i x → ∀ (H1 : Heap) (locs1 : List Loc), WH D (MW q k σ1) k A s H0 H1 locs1 → W p l e R s m args below meth c H1 locs1 cells slots Q (F0 m (pc + 1) ls rest)) : W p l e R s m args below meth c H locs cells slots Q (F0 m pc ls (.int x :: .int i :: .ref (q 16) :: rest)) :=
  o_iast hC hw 16 rfl hin rfl hdg (kk _ rfl)
theorem M_ld17 {own : String} {i : Int32} (hC : Cx p s m meth c cc own nL ret) (hw : WH D (MW q k σ) k A s H0 H locs) (hin : vp_in i 40320) (hdg : decode cc pc = .ok (.baload, 1))
    (kk : W p l e R s m args below meth c H locs cells slots Q (F0 m (pc + 1) ls (.int (ra σ 16 i) :: rest))) : W p l e R s m args below meth c H locs cells slots Q (F0 m pc ls (.int i :: .ref (q 17) :: rest)) :=
  o_zald hC hw 17 rfl hin hdg kk
theorem M_st17 {own : String} {i : Int32} {x : Int32} (hC : Cx p s m meth c cc own nL ret) (hw : WH D (MW q k σ) k A s H0 H locs) (hin : vp_in i 40320) (hdg : decode cc pc = .ok (.bastore, 1))
    (kk : ∀ (σ1 : St), σ1 = sA σ 16 i (vp_nar .boolean x) → ∀ (H1 : Heap) (locs1 : List Loc), WH D (MW q k σ1) k A s H0 H1 locs1 → W p l e R s m args below meth c H1 locs1 cells slots Q (F0 m (pc + 1) ls rest)) : W p l e R s m args below meth c H locs cells slots Q (F0 m pc ls (.int x :: .int i :: .ref (q 17) :: rest)) :=
  o_zast hC hw 17 rfl hin rfl hdg (kk _ rfl)
theorem M_ld18 {own : String} {i : Int32} (hC : Cx p s m meth c cc own nL ret) (hw : WH D (MW q k σ) k A s H0 H locs) (hin : vp_in i 40320) (hdg : decode cc pc = .ok (.iaload, 1))
    (kk : W p l e R s m args below meth c H locs cells slots Q (F0 m (pc + 1) ls (.int (ra σ 17 i) :: rest))) : W p l e R s m args below meth c H locs cells slots Q (F0 m pc ls (.int i :: .ref (q 18) :: rest)) :=
  o_iald hC hw 18 rfl hin hdg kk
theorem M_st18 {own : String} {i : Int32} {x : Int32} (hC : Cx p s m meth c cc own nL ret) (hw : WH D (MW q k σ) k A s H0 H locs) (hin : vp_in i 40320) (hdg : decode cc pc = .ok (.iastore, 1))
    (kk : ∀ (σ1 : St), σ1 = sA σ 17 i x → ∀ (H1 : Heap) (locs1 : List Loc), WH D (MW q k σ1) k A s H0 H1 locs1 → W p l e R s m args below meth c H1 locs1 cells slots Q (F0 m (pc + 1) ls rest)) : W p l e R s m args below meth c H locs cells slots Q (F0 m pc ls (.int x :: .int i :: .ref (q 18) :: rest)) :=
  o_iast hC hw 18 rfl hin rfl hdg (kk _ rfl)
theorem M_ld19 {own : String} {i : Int32} (hC : Cx p s m meth c cc own nL ret) (hw : WH D (MW q k σ) k A s H0 H locs) (hin : vp_in i 8) (hdg : decode cc pc = .ok (.iaload, 1))
    (kk : W p l e R s m args below meth c H locs cells slots Q (F0 m (pc + 1) ls (.int (ra σ 18 i) :: rest))) : W p l e R s m args below meth c H locs cells slots Q (F0 m pc ls (.int i :: .ref (q 19) :: rest)) :=
  o_iald hC hw 19 rfl hin hdg kk
theorem M_st19 {own : String} {i : Int32} {x : Int32} (hC : Cx p s m meth c cc own nL ret) (hw : WH D (MW q k σ) k A s H0 H locs) (hin : vp_in i 8) (hdg : decode cc pc = .ok (.iastore, 1))
    (kk : ∀ (σ1 : St), σ1 = sA σ 18 i x → ∀ (H1 : Heap) (locs1 : List Loc), WH D (MW q k σ1) k A s H0 H1 locs1 → W p l e R s m args below meth c H1 locs1 cells slots Q (F0 m (pc + 1) ls rest)) : W p l e R s m args below meth c H locs cells slots Q (F0 m pc ls (.int x :: .int i :: .ref (q 19) :: rest)) :=
  o_iast hC hw 19 rfl hin rfl hdg (kk _ rfl)
theorem M_ld20 {own : String} {i : Int32} (hC : Cx p s m meth c cc own nL ret) (hw : WH D (MW q k σ) k A s H0 H locs) (hin : vp_in i 8) (hdg : decode cc pc = .ok (.iaload, 1))
    (kk : W p l e R s m args below meth c H locs cells slots Q (F0 m (pc + 1) ls (.int (ra σ 19 i) :: rest))) : W p l e R s m args below meth c H locs cells slots Q (F0 m pc ls (.int i :: .ref (q 20) :: rest)) :=
  o_iald hC hw 20 rfl hin hdg kk
theorem M_st20 {own : String} {i : Int32} {x : Int32} (hC : Cx p s m meth c cc own nL ret) (hw : WH D (MW q k σ) k A s H0 H locs) (hin : vp_in i 8) (hdg : decode cc pc = .ok (.iastore, 1))
    (kk : ∀ (σ1 : St), σ1 = sA σ 19 i x → ∀ (H1 : Heap) (locs1 : List Loc), WH D (MW q k σ1) k A s H0 H1 locs1 → W p l e R s m args below meth c H1 locs1 cells slots Q (F0 m (pc + 1) ls rest)) : W p l e R s m args below meth c H locs cells slots Q (F0 m pc ls (.int x :: .int i :: .ref (q 20) :: rest)) :=
  o_iast hC hw 20 rfl hin rfl hdg (kk _ rfl)
end OwnM

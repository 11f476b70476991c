/-! own base: the global words, worlds, contracts in one form, calls, the little language of the functions that the walks are held against -/
def gw (w : Cond) : Bool := goodWord w || (match w with | .fieldLinkNest .. => true | .methodLinkNest .. => true | .castable .. => true | .declares _ => true | _ => false)
def GT : List Cond := lw_tbl.filter gw
def CT (U : State) : Prop := ∀ w ∈ GT, w.before #[] U = true
theorem gt_in {w : Cond} (h : w ∈ lw_tbl) (g : gw w = true) : w ∈ GT := List.mem_filter.mpr ⟨h, g⟩
theorem CT.at {s U : State} (h : CT s) (hW : s.WarmedH U.vm) (a : Array Value) : ∀ w ∈ GT, w.before a U = true := by
  intro w hw
  have h1 := h w hw
  have h2 : gw w = true := (List.mem_filter.mp hw).2
  unfold gw at h2
  rw [Bool.or_eq_true] at h2
  rcases h2 with h2 | h2
  · exact word_at hW (good_of_word h2) h1
  · cases w <;> first | (cases h2; done) | exact va_Nw.use rfl (va_Nw.warmF hW h1) | exact va_Nw.use rfl (va_Nw.warmM hW h1) | exact va_Nw.use rfl (va_Nw.warmC hW h1) | exact va_Nw.use rfl (va_Nw.warmD hW h1)
theorem CT.all {s : State} (h : CT s) (a : Array Value) : ∀ w ∈ GT, w.before a s = true := h.at (State.WarmedH.refl s) a
theorem CT.moved {s U : State} (h : CT s) (hW : s.WarmedH U.vm) : CT U := h.at hW #[]
/-- a state of the class, or of the reference: its ints, its int rows, its long rows, by their numbers -/
abbrev St : Type := (Nat → Int32) × (Nat → Nat → Int32) × (Nat → Nat → Int64)
def sI (σ : St) (k : Nat) (v : Int32) : St := (upd σ.1 k v, σ.2)
def sA (σ : St) (k : Nat) (i : Int32) (v : Int32) : St := (σ.1, (fun j => if j = k then upd (σ.2.1 k) i.toNatClampNeg v else σ.2.1 j), σ.2.2)
def sL (σ : St) (k : Nat) (i : Int32) (v : Int64) : St := (σ.1, σ.2.1, fun j => if j = k then vp_updL (σ.2.2 k) i.toNatClampNeg v else σ.2.2 j)
abbrev cK : Type := ClassId × ClassId × ClassId
abbrev cT (k : cK) : List (ClassId × FieldType) := [(k.1, .int), (k.2.1, .long), (k.2.2, .boolean)]
def AQ (ws : va_W) : Nat → Prop := fun a => ∃ (k : Nat) (e : va_E), ws[k]? = some (a, e)
def WH (D : va_G) (ws : va_W) (k : cK) (A : Nat → Prop) (s : State) (H0 H : Heap) (locs : List Loc) : Prop :=
  va_K D vwCl (cT k) s ∧ va_P D vwCl ws H ∧ va_D A ws ∧ va_S A H0 H locs ∧ CT s
def PC (D : va_G) (ws : va_W) (k : cK) (av : List Value) : Array Value → State → Prop := fun v U =>
  v = av.toArray ∧ va_K D vwCl (cT k) U ∧ va_P D vwCl ws U.heap ∧ va_D (AQ ws) ws ∧ CT U
def QR (D : va_G) (ws ws' : va_W) (r : Option Value) : Array Value → State → Outcome → State → Prop := fun _ st o t =>
  o = .returned r ∧ va_P D vwCl ws' t.heap ∧ va_D (AQ ws) ws' ∧ va_F (AQ ws) st t
theorem PC.blind {D : va_G} {ws : va_W} {k : cK} {av : List Value} : FrameBlind (PC D ws k av) := by
  intro a U g mk h
  obtain ⟨h1, h2, h3, h4, h5⟩ := h
  exact ⟨h1, va_K.moved (u := U) (U := U.calling g mk a) (Vm.Alike.refl U.vm) h2, h3, h4, h5.moved (U := U.calling g mk a) (State.WarmedH.refl U)⟩
/-- what a method's walk stands on -/
def Cx (p : Program) (s : State) (m : MethodId) (meth : Method) (c : Code) (cc : ByteArray) (own : String) (maxL : Nat) (ret : Option FieldType) : Prop :=
  p.tables.exec = Jvm.exec ∧ c.code = cc ∧ meth.sig.returnType = ret ∧ c.maxLocals = maxL ∧ s.vm.findClass own = some m.cls ∧ meth.locks = false
theorem met_of {l : Launch} {y : MethodName} {cc : ByteArray} {maxL : Nat} {ret : Option FieldType} {rm : Room} {D : va_G} {ws : va_W} {k : cK} {av : List Value} {Qc : Array Value → State → Outcome → State → Prop}
    (hy : plainName y.cls = true) (hlen : (lg_sl av).length ≤ maxL)
    (body : ∀ (p : Program) (e : Env) (s : State) (m : MethodId) (below : List Frame) (meth : Method) (c : Code), Cx p s m meth c cc y.cls maxL ret → WH D ws k (AQ ws) s s.heap s.heap [] → ∀ ls : Array Slot, lv_has ls maxL (lv_args 0 av) →
      W p l e rm s m av.toArray below meth c s.heap [] 0 0 (MQ below Qc av.toArray s 0 0 (AQ ws)) (F0 m 0 ls [])) :
    Met l y [.code y cc maxL ret] rm (PC D ws k av) Qc 0 0 (AQ ws) := by
  refine Met.ofW (cc := cc) (maxL := maxL) (ret := ret) hy rfl ?_
  intro p e s m args below meth c s₁ B hml hv
  obtain ⟨rfl, hK, hP, hD, hC⟩ := hv
  rw [lg_entry_eq]
  exact body p e s m below meth c ⟨B.exec, B.bytes, B.returns, hml, findClass_of_methodNamed B.named, B.notSynchronized⟩ ⟨hK, hP, hD, va_S.rf, hC⟩ _ (lv_entry av hlen)
section OwnRows
variable {p : Program} {l : Launch} {e : Env} {R : Room} {s : State} {m : MethodId} {args : Array Value} {below : List Frame} {meth : Method} {c : Code} {H : Heap} {locs : List Loc} {cells slots : Nat} {Q : State → Prop}
variable {D : va_G} {ws ws' ws0 : va_W} {k : cK} {A : Nat → Prop} {H0 : Heap} {pc nL : Nat} {ls : Array Slot} {rest st0 : List Value} {cc : ByteArray} {own : String} {ret : Option FieldType}
theorem ret_i (hC : Cx p s m meth c cc own nL (some .int)) {v : Int32} (hw : WH D ws' k (AQ ws0) s s.heap H locs) (hdg : decode cc pc = .ok (.ireturn, 1)) :
    W p l e R s m args below meth c H locs cells slots (MQ below (QR D ws0 ws' (some (.int v))) args s cells slots (AQ ws0)) (F0 m pc ls [.int v]) :=
  W.iret hC.1 hC.2.1 hC.2.2.1 (fun t ht _ => ⟨rfl, by rw [ht]; exact hw.2.1, hw.2.2.1, hw.2.2.2.1.F ht⟩) hw.2.2.2.1.2.2 hdg hC.2.2.2.2.2
theorem ret_l (hC : Cx p s m meth c cc own nL (some .long)) {v : Int64} (hw : WH D ws' k (AQ ws0) s s.heap H locs) (hdg : decode cc pc = .ok (.lreturn, 1)) :
    W p l e R s m args below meth c H locs cells slots (MQ below (QR D ws0 ws' (some (.long v))) args s cells slots (AQ ws0)) (F0 m pc ls [.long v]) :=
  W.lret hC.1 hC.2.1 hC.2.2.1 (fun t ht _ => ⟨rfl, by rw [ht]; exact hw.2.1, hw.2.2.1, hw.2.2.2.1.F ht⟩) hw.2.2.2.1.2.2 hdg hC.2.2.2.2.2
theorem ret_v (hC : Cx p s m meth c cc own nL none) (hw : WH D ws' k (AQ ws0) s s.heap H locs) (hdg : decode cc pc = .ok (.return_, 1)) :
    W p l e R s m args below meth c H locs cells slots (MQ below (QR D ws0 ws' none) args s cells slots (AQ ws0)) (F0 m pc ls []) :=
  W.vret hC.1 hC.2.1 hC.2.2.1 (fun t ht _ => ⟨rfl, by rw [ht]; exact hw.2.1, hw.2.2.1, hw.2.2.2.1.F ht⟩) hw.2.2.2.1.2.2 hdg hC.2.2.2.2.2
theorem z_ok {v : Int32} (h : v = 0 ∨ v = 1) : narrow .boolean (.int v) = .int v ∧ fits .boolean (.int v) = true := by
  rcases h with rfl | rfl <;> exact ⟨rfl, rfl⟩
theorem ret_z (hC : Cx p s m meth c cc own nL (some .boolean)) {v : Int32} (hz : v = 0 ∨ v = 1) (hw : WH D ws' k (AQ ws0) s s.heap H locs) (hdg : decode cc pc = .ok (.ireturn, 1)) :
    W p l e R s m args below meth c H locs cells slots (MQ below (QR D ws0 ws' (some (.int v))) args s cells slots (AQ ws0)) (F0 m pc ls [.int v]) :=
  W.zret hC.1 hC.2.1 hC.2.2.1 (z_ok hz).1 (fun t ht _ => ⟨rfl, by rw [ht]; exact hw.2.1, hw.2.2.1, hw.2.2.2.1.F ht⟩) hw.2.2.2.1.2.2 hdg hC.2.2.2.2.2
/-- behind a call -/
theorem go_r {r : Option Value} {a : Array Value} (hr : va_Run p l e R s m args below meth c H locs cells slots 0 0 (F0 m pc ls st0) rest (QR D ws ws' r a) (AQ ws)) (hw : WH D ws k A s H0 H locs)
    (kk : ∀ (H1 : Heap) (locs1 : List Loc), WH D ws' k A s H0 H1 locs1 → W p l e R s m args below meth c H1 locs1 cells slots Q (F0 m (pc + 3) ls (r.toList ++ rest))) :
    W p l e R s m args below meth c H locs cells slots Q (F0 m pc ls st0) := by
  intro T hT X
  obtain ⟨v, st₀, t, T', L, h0, X', hL, e1, e2, ⟨hv, hP1, hD1, hz, hk⟩, st⟩ := hr T hT X
  cases hv
  obtain ⟨hK, hP, hD, hS, hC⟩ := hw
  have hA : ∀ q, AQ ws q → A q := fun q ⟨i, e, h⟩ => hD.2 i _ h
  rw [h0] at hz hk
  obtain ⟨t2, a1, b1⟩ := kk T'.heap (locs ++ L) ⟨hK, by rw [e1]; exact hP1, hD1.weaken (fun _ q _ h => hA q.1 h),
    ⟨Nat.le_trans hS.1 (by rw [e1]; exact hz), fun q h1 h2 => by rw [e1, hk q (Nat.lt_of_lt_of_le h1 hS.1) (fun z => h2 (hA q z))]; exact hS.2.1 q h1 h2, fun q hq => by
      rcases List.mem_append.mp hq with h | h
      · exact hS.2.2 q h
      · exact hA _ (hL q h)⟩, hC⟩ T' rfl X'
  exact ⟨t2, st t2 a1, b1⟩
theorem go_i {r : Int32} {a : Array Value} (hr : va_Run p l e R s m args below meth c H locs cells slots 0 0 (F0 m pc ls st0) rest (QR D ws ws' (some (.int r)) a) (AQ ws)) (hw : WH D ws k A s H0 H locs)
    (kk : ∀ (H1 : Heap) (locs1 : List Loc), WH D ws' k A s H0 H1 locs1 → W p l e R s m args below meth c H1 locs1 cells slots Q (F0 m (pc + 3) ls (.int r :: rest))) :
    W p l e R s m args below meth c H locs cells slots Q (F0 m pc ls st0) := go_r hr hw kk
theorem go_l {r : Int64} {a : Array Value} (hr : va_Run p l e R s m args below meth c H locs cells slots 0 0 (F0 m pc ls st0) rest (QR D ws ws' (some (.long r)) a) (AQ ws)) (hw : WH D ws k A s H0 H locs)
    (kk : ∀ (H1 : Heap) (locs1 : List Loc), WH D ws' k A s H0 H1 locs1 → W p l e R s m args below meth c H1 locs1 cells slots Q (F0 m (pc + 3) ls (.long r :: rest))) :
    W p l e R s m args below meth c H locs cells slots Q (F0 m pc ls st0) := go_r hr hw kk
theorem go_v {a : Array Value} (hr : va_Run p l e R s m args below meth c H locs cells slots 0 0 (F0 m pc ls st0) rest (QR D ws ws' none a) (AQ ws)) (hw : WH D ws k A s H0 H locs)
    (kk : ∀ (H1 : Heap) (locs1 : List Loc), WH D ws' k A s H0 H1 locs1 → W p l e R s m args below meth c H1 locs1 cells slots Q (F0 m (pc + 3) ls rest)) :
    W p l e R s m args below meth c H locs cells slots Q (F0 m pc ls st0) := go_r hr hw kk
variable {y : MethodName} {bytes : ByteArray} {maxL n index : Nat} {rt : Option FieldType} {rm : Room} {Qc : Array Value → State → Outcome → State → Prop} {C host : String} {b : Addr} {As : List Value}
theorem gd_code (hcode : Cond.code y bytes maxL rt ∈ GT) : GoodIn GT [Cond.code y bytes maxL rt] := by
  intro w hw
  rw [List.mem_singleton] at hw
  subst hw
  exact ⟨hcode, Or.inl rfl⟩
theorem pre_of {av : List Value} (hw : WH D ws k A s H0 H locs) : ∀ U : State, U.heap = H → s.WarmedH U.vm → PC D ws k av av.toArray U := by
  intro U hU hW
  obtain ⟨hK, hP, hD, hS, hC⟩ := hw
  exact ⟨rfl, va_K.moved hW.alike hK, by rw [hU]; exact hP, ⟨hD.1, fun i q h => ⟨i, q.2, h⟩⟩, hC.moved hW⟩
theorem run_VN (hC : Cx p s m meth c cc own nL ret) (hw : WH D ws k A s H0 H locs) (hM : Met l y [.code y bytes maxL rt] rm (PC D ws k (.ref b :: As)) Qc 0 0 (AQ ws))
    (hl : Cond.methodLinkNest own index y host ∈ GT) (hi : Cond.instanceMethod y ∈ GT) (hs : Cond.selects C y y ∈ GT) (hini : Cond.initialized y.cls ∈ GT) (hcode : Cond.code y bytes maxL rt ∈ GT)
    (hd : y.cls ≠ "java/lang/invoke/MethodHandle" ∧ y.cls ≠ "java/lang/invoke/VarHandle" ∧ (parseMethodDescriptor y.desc).map (fun d => d.parameters.length) = some n)
    (hrc : rm.cells = 0 ∧ rm.slots = 0) (hR : rm.frames + 1 ≤ R.frames ∧ 8 + (maxL + 11) + rm.locals ≤ R.locals) (q0 : Nat) {ci : Nat} {T : u_T} {N : Nat} {fs : List Value} (he : ws[q0]? = some (b, .inr (ci, fs))) (hc : vwCl[ci]? = some (C, T, N))
    (hn : As.length = n) (hsize : ls.size = nL) (hstack : st0 = As.reverse ++ .ref b :: rest) (hW : (rest.map fun v => v.category).sum ≤ 8) (hdg : decode cc pc = .ok (.invokevirtual index, 3)) (hf : cells ≤ R.cells ∧ slots ≤ R.slots) :
    va_Run p l e R s m args below meth c H locs cells slots 0 0 (F0 m pc ls st0) rest (Qc (Value.ref b :: As).toArray) (AQ ws) := by
  obtain ⟨hx, hb, -, hml, hown, -⟩ := hC
  have ht := hw.2.2.2.2.all args
  exact va_runVN (bytes := bytes) (maxL := maxL) (ret := rt) ⟨hx, hb, hml, hown, ht⟩ hM ⟨va_cnB n ht (gd_code hcode) rfl hrc.1 hrc.2 (va_Nw.of rfl (ht _ hl)) (ht _ hini) hd hR, ht _ hi, ht _ hs⟩
    ⟨PC.blind, va_recv hw.1 hw.2.1 hc he, pre_of hw⟩ rfl hn hsize hstack (lv_room hW) hdg hf
theorem run_V (hC : Cx p s m meth c cc own nL ret) (hw : WH D ws k A s H0 H locs) (hM : Met l y [.code y bytes maxL rt] rm (PC D ws k (.ref b :: As)) Qc 0 0 (AQ ws))
    (hl : Cond.methodLink own index y ∈ GT) (hi : Cond.instanceMethod y ∈ GT) (hs : Cond.selects C y y ∈ GT) (hini : Cond.initialized y.cls ∈ GT) (hcode : Cond.code y bytes maxL rt ∈ GT)
    (hd : y.cls ≠ "java/lang/invoke/MethodHandle" ∧ y.cls ≠ "java/lang/invoke/VarHandle" ∧ (parseMethodDescriptor y.desc).map (fun d => d.parameters.length) = some n)
    (hrc : rm.cells = 0 ∧ rm.slots = 0) (hR : rm.frames + 1 ≤ R.frames ∧ 8 + (maxL + 11) + rm.locals ≤ R.locals) (q0 : Nat) {ci : Nat} {T : u_T} {N : Nat} {fs : List Value} (he : ws[q0]? = some (b, .inr (ci, fs))) (hc : vwCl[ci]? = some (C, T, N))
    (hn : As.length = n) (hsize : ls.size = nL) (hstack : st0 = As.reverse ++ .ref b :: rest) (hW : (rest.map fun v => v.category).sum ≤ 8) (hdg : decode cc pc = .ok (.invokevirtual index, 3)) (hf : cells ≤ R.cells ∧ slots ≤ R.slots) :
    va_Run p l e R s m args below meth c H locs cells slots 0 0 (F0 m pc ls st0) rest (Qc (Value.ref b :: As).toArray) (AQ ws) := by
  obtain ⟨hx, hb, -, hml, hown, -⟩ := hC
  have ht := hw.2.2.2.2.all args
  exact va_runV (bytes := bytes) (maxL := maxL) (ret := rt) ⟨hx, hb, hml, hown, ht⟩ hM ⟨callB_of n ht (gd_code hcode) rfl hrc.1 hrc.2 (ht _ hini) (ht _ hl) hd hR, ht _ hi, ht _ hs⟩
    ⟨PC.blind, va_recv hw.1 hw.2.1 hc he, pre_of hw⟩ rfl hn hsize hstack (lv_room hW) hdg hf
theorem run_S (hC : Cx p s m meth c cc own nL ret) (hw : WH D ws k A s H0 H locs) (hM : Met l y [.code y bytes maxL rt] rm (PC D ws k As) Qc 0 0 (AQ ws))
    (hl : Cond.methodLink own index y ∈ GT) (hs : Cond.static y ∈ GT) (hini : Cond.initialized y.cls ∈ GT) (hcode : Cond.code y bytes maxL rt ∈ GT)
    (hd : y.cls ≠ "java/lang/invoke/MethodHandle" ∧ y.cls ≠ "java/lang/invoke/VarHandle" ∧ (parseMethodDescriptor y.desc).map (fun d => d.parameters.length) = some n)
    (hrc : rm.cells = 0 ∧ rm.slots = 0) (hR : rm.frames + 1 ≤ R.frames ∧ 8 + (maxL + 11) + rm.locals ≤ R.locals)
    (hn : As.length = n) (hsize : ls.size = nL) (hstack : st0 = As.reverse ++ rest) (hW : (rest.map fun v => v.category).sum ≤ 8) (hdg : decode cc pc = .ok (.invokestatic index, 3)) (hf : cells ≤ R.cells ∧ slots ≤ R.slots) :
    va_Run p l e R s m args below meth c H locs cells slots 0 0 (F0 m pc ls st0) rest (Qc As.toArray) (AQ ws) := by
  obtain ⟨hx, hb, -, hml, hown, -⟩ := hC
  have ht := hw.2.2.2.2.all args
  exact va_runS (bytes := bytes) (maxL := maxL) (ret := rt) ⟨hx, hb, hml, hown, ht⟩ hM ⟨callB_of n ht (gd_code hcode) rfl hrc.1 hrc.2 (ht _ hini) (ht _ hl) hd hR, ht _ hs⟩
    ⟨PC.blind, pre_of hw⟩ rfl hn hsize hstack (lv_room hW) hdg hf
theorem run_SN (hC : Cx p s m meth c cc own nL ret) (hw : WH D ws k A s H0 H locs) (hM : Met l y [.code y bytes maxL rt] rm (PC D ws k As) Qc 0 0 (AQ ws))
    (hl : Cond.methodLinkNest own index y host ∈ GT) (hs : Cond.static y ∈ GT) (hini : Cond.initialized y.cls ∈ GT) (hcode : Cond.code y bytes maxL rt ∈ GT)
    (hd : y.cls ≠ "java/lang/invoke/MethodHandle" ∧ y.cls ≠ "java/lang/invoke/VarHandle" ∧ (parseMethodDescriptor y.desc).map (fun d => d.parameters.length) = some n)
    (hrc : rm.cells = 0 ∧ rm.slots = 0) (hR : rm.frames + 1 ≤ R.frames ∧ 8 + (maxL + 11) + rm.locals ≤ R.locals)
    (hn : As.length = n) (hsize : ls.size = nL) (hstack : st0 = As.reverse ++ rest) (hW : (rest.map fun v => v.category).sum ≤ 8) (hdg : decode cc pc = .ok (.invokestatic index, 3)) (hf : cells ≤ R.cells ∧ slots ≤ R.slots) :
    va_Run p l e R s m args below meth c H locs cells slots 0 0 (F0 m pc ls st0) rest (Qc As.toArray) (AQ ws) := by
  obtain ⟨hx, hb, -, hml, hown, -⟩ := hC
  have ht := hw.2.2.2.2.all args
  exact va_runSN (bytes := bytes) (maxL := maxL) (ret := rt) ⟨hx, hb, hml, hown, ht⟩ hM ⟨va_cnB n ht (gd_code hcode) rfl hrc.1 hrc.2 (va_Nw.of rfl (ht _ hl)) (ht _ hini) hd hR, ht _ hs, trivial⟩
    ⟨PC.blind, pre_of hw⟩ rfl hn hsize hstack (lv_room hW) hdg hf
/-- fields and rows -/
theorem o_get (hC : Cx p s m meth c cc own nL ret) (hw : WH D ws k A s H0 H locs) {C : String} {T : u_T} {N ci : Nat} (hin : ∀ w ∈ u_ws C T N, w ∈ GT) (q0 : Nat) {a : Nat} {fs : List Value} (he : ws[q0]? = some (a, .inr (ci, fs))) (hc : vwCl[ci]? = some (C, T, N)) (j : Nat) (hj : j < N)
    (hlink : Cond.fieldLink own index (T j).1 (T j).2.1 (T j).2.2.1 ∈ GT) {v : Value} (hv : fs[j]? = some v) (hdg : decode cc pc = .ok (.getfield index, 3))
    (kk : W p l e R s m args below meth c H locs cells slots Q (F0 m (pc + 3) ls (v :: rest))) : W p l e R s m args below meth c H locs cells slots Q (F0 m pc ls (.ref a :: rest)) :=
  va_get hC.1 hC.2.1 (hw.2.2.2.2.all args) hin hC.2.2.2.2.1 hw.1 hw.2.1 q0 he hc j hj (hw.2.2.2.2.all args _ hlink) (fun _ h => h) hv hdg kk
theorem o_getN (hC : Cx p s m meth c cc own nL ret) (hw : WH D ws k A s H0 H locs) {C : String} {T : u_T} {N ci : Nat} (hin : ∀ w ∈ u_ws C T N, w ∈ GT) (q0 : Nat) {a : Nat} {fs : List Value} (he : ws[q0]? = some (a, .inr (ci, fs))) (hc : vwCl[ci]? = some (C, T, N)) (j : Nat) (hj : j < N)
    (hlink : Cond.fieldLinkNest own index (T j).1 (T j).2.1 (T j).2.2.1 host ∈ GT) {v : Value} (hv : fs[j]? = some v) (hdg : decode cc pc = .ok (.getfield index, 3))
    (kk : W p l e R s m args below meth c H locs cells slots Q (F0 m (pc + 3) ls (v :: rest))) : W p l e R s m args below meth c H locs cells slots Q (F0 m pc ls (.ref a :: rest)) :=
  va_getN hC.1 hC.2.1 (hw.2.2.2.2.all args) hin hC.2.2.2.2.1 hw.1 hw.2.1 q0 he hc j hj (hw.2.2.2.2.all args _ hlink) (fun _ h => h) hv hdg kk
theorem o_put (hC : Cx p s m meth c cc own nL ret) (hw : WH D ws k A s H0 H locs) {C : String} {T : u_T} {N ci : Nat} (hin : ∀ w ∈ u_ws C T N, w ∈ GT) (ty0 : Nat → FieldType) (hty : ∀ k, k < N → parseFieldDescriptor (T k).2.2.1 = some (ty0 k)) (hnm : ∀ a, a < N → ∀ b, b < N → a ≠ b → (T a).2.1 ≠ (T b).2.1)
    (q0 : Nat) {a : Nat} {fs : List Value} (he : ws[q0]? = some (a, .inr (ci, fs))) (hc : vwCl[ci]? = some (C, T, N)) (j : Nat) (hj : j < N) (hlink : Cond.fieldLink own index (T j).1 (T j).2.1 (T j).2.2.1 ∈ GT) (hfin : (T j).2.2.2 = false) {v : Value}
    (hn : narrow (ty0 j) v = v ∧ fits (ty0 j) v = true) (hl : j < fs.length) (hws : ws.set q0 (a, .inr (ci, fs.set j v)) = ws') (hdg : decode cc pc = .ok (.putfield index, 3))
    (kk : ∀ (H1 : Heap) (locs1 : List Loc), WH D ws' k A s H0 H1 locs1 → W p l e R s m args below meth c H1 locs1 cells slots Q (F0 m (pc + 3) ls rest)) : W p l e R s m args below meth c H locs cells slots Q (F0 m pc ls (v :: .ref a :: rest)) := by
  subst hws
  exact va_put hC.1 hC.2.1 (hw.2.2.2.2.all args) hin ty0 hty hnm hC.2.2.2.2.1 hw.1 hw.2.1 hw.2.2.1 hw.2.2.2.1 q0 he hc j hj (hw.2.2.2.2.all args _ hlink) (fun _ h => h) hfin (hty j hj) hn.1 hn.2 hl hdg (fun H1 l1 hP hD hS => kk H1 l1 ⟨hw.1, hP, hD, hS, hw.2.2.2.2⟩)
theorem o_iald (hC : Cx p s m meth c cc own nL ret) (hw : WH D ws k A s H0 H locs) (q0 : Nat) {a n : Nat} {f : Nat → Int32} (ha : ws[q0]? = some (a, .inl (k.1, n, .inl f))) {i : Int32} (hin : vp_in i n) (hdg : decode cc pc = .ok (.iaload, 1))
    (kk : W p l e R s m args below meth c H locs cells slots Q (F0 m (pc + 1) ls (.int (f i.toNatClampNeg) :: rest))) : W p l e R s m args below meth c H locs cells slots Q (F0 m pc ls (.int i :: .ref a :: rest)) :=
  va_iald hC.1 hC.2.1 hw.1 hw.2.1 q0 0 ha rfl hin hdg kk
theorem o_lald (hC : Cx p s m meth c cc own nL ret) (hw : WH D ws k A s H0 H locs) (q0 : Nat) {a n : Nat} {f : Nat → Int64} (ha : ws[q0]? = some (a, .inl (k.2.1, n, .inr (.inl f)))) {i : Int32} (hin : vp_in i n) (hdg : decode cc pc = .ok (.laload, 1))
    (kk : W p l e R s m args below meth c H locs cells slots Q (F0 m (pc + 1) ls (.long (f i.toNatClampNeg) :: rest))) : W p l e R s m args below meth c H locs cells slots Q (F0 m pc ls (.int i :: .ref a :: rest)) :=
  va_lald hC.1 hC.2.1 hw.1 hw.2.1 q0 1 ha rfl hin hdg kk
theorem o_zald (hC : Cx p s m meth c cc own nL ret) (hw : WH D ws k A s H0 H locs) (q0 : Nat) {a n : Nat} {f : Nat → Int32} (ha : ws[q0]? = some (a, .inl (k.2.2, n, .inl f))) {i : Int32} (hin : vp_in i n) (hdg : decode cc pc = .ok (.baload, 1))
    (kk : W p l e R s m args below meth c H locs cells slots Q (F0 m (pc + 1) ls (.int (f i.toNatClampNeg) :: rest))) : W p l e R s m args below meth c H locs cells slots Q (F0 m pc ls (.int i :: .ref a :: rest)) :=
  va_zald hC.1 hC.2.1 hw.1 hw.2.1 q0 2 ha rfl hin hdg kk
theorem o_iast (hC : Cx p s m meth c cc own nL ret) (hw : WH D ws k A s H0 H locs) (q0 : Nat) {a n : Nat} {f : Nat → Int32} (ha : ws[q0]? = some (a, .inl (k.1, n, .inl f))) {i x : Int32} (hin : vp_in i n) (hws : ws.set q0 (a, .inl (k.1, n, .inl (upd f i.toNatClampNeg x))) = ws') (hdg : decode cc pc = .ok (.iastore, 1))
    (kk : ∀ (H1 : Heap) (locs1 : List Loc), WH D ws' k A s H0 H1 locs1 → W p l e R s m args below meth c H1 locs1 cells slots Q (F0 m (pc + 1) ls rest)) : W p l e R s m args below meth c H locs cells slots Q (F0 m pc ls (.int x :: .int i :: .ref a :: rest)) := by
  subst hws
  exact va_iast hC.1 hC.2.1 hw.1 hw.2.1 hw.2.2.1 hw.2.2.2.1 q0 0 ha rfl hin hdg (fun H1 l1 hP hD hS => kk H1 l1 ⟨hw.1, hP, hD, hS, hw.2.2.2.2⟩)
theorem o_last (hC : Cx p s m meth c cc own nL ret) (hw : WH D ws k A s H0 H locs) (q0 : Nat) {a n : Nat} {f : Nat → Int64} (ha : ws[q0]? = some (a, .inl (k.2.1, n, .inr (.inl f)))) {i : Int32} {x : Int64} (hin : vp_in i n) (hws : ws.set q0 (a, .inl (k.2.1, n, .inr (.inl (vp_updL f i.toNatClampNeg x)))) = ws') (hdg : decode cc pc = .ok (.lastore, 1))
    (kk : ∀ (H1 : Heap) (locs1 : List Loc), WH D ws' k A s H0 H1 locs1 → W p l e R s m args below meth c H1 locs1 cells slots Q (F0 m (pc + 1) ls rest)) : W p l e R s m args below meth c H locs cells slots Q (F0 m pc ls (.long x :: .int i :: .ref a :: rest)) := by
  subst hws
  exact va_last hC.1 hC.2.1 hw.1 hw.2.1 hw.2.2.1 hw.2.2.2.1 q0 1 ha rfl hin hdg (fun H1 l1 hP hD hS => kk H1 l1 ⟨hw.1, hP, hD, hS, hw.2.2.2.2⟩)
theorem o_zast (hC : Cx p s m meth c cc own nL ret) (hw : WH D ws k A s H0 H locs) (q0 : Nat) {a n : Nat} {f : Nat → Int32} (ha : ws[q0]? = some (a, .inl (k.2.2, n, .inl f))) {i x : Int32} (hin : vp_in i n) (hws : ws.set q0 (a, .inl (k.2.2, n, .inl (upd f i.toNatClampNeg (vp_nar .boolean x)))) = ws') (hdg : decode cc pc = .ok (.bastore, 1))
    (kk : ∀ (H1 : Heap) (locs1 : List Loc), WH D ws' k A s H0 H1 locs1 → W p l e R s m args below meth c H1 locs1 cells slots Q (F0 m (pc + 1) ls rest)) : W p l e R s m args below meth c H locs cells slots Q (F0 m pc ls (.int x :: .int i :: .ref a :: rest)) := by
  subst hws
  exact va_zast hC.1 hC.2.1 hw.1 hw.2.1 hw.2.2.1 hw.2.2.2.1 q0 2 ha rfl hin hdg (fun H1 l1 hP hD hS => kk H1 l1 ⟨hw.1, hP, hD, hS, hw.2.2.2.2⟩)
end OwnRows
/-! the little language of the functions -/
def jshl (x y : Int32) : Int32 := x <<< (y &&& 31)
def jshr (x y : Int32) : Int32 := x >>> (y &&& 31)
def jushr (x y : Int32) : Int32 := (x.toUInt32 >>> (y.toUInt32 &&& Int32.toUInt32 31)).toInt32
def jrem (x y : Int32) : Int32 := x - x / y * y
def jlshl (x : Int64) (y : Int32) : Int64 := x <<< (y.toInt64 &&& 63)
def jlushr (x : Int64) (y : Int32) : Int64 := (x.toUInt64 >>> (y.toInt64.toUInt64 &&& Int64.toUInt64 63)).toInt64
def nm {α β : Type} (a : α) (f : α → β) : β := f a
def okx (i : Int32) (n : Nat) : Bool := decide (¬ (i < 0 ∨ n ≤ i.toNatClampNeg))
def gd {α : Type} (b : Bool) (x : Option α) : Option α := if b = true then x else none
def bd {α β γ : Type} (x : Option (α × β)) (f : α → β → Option γ) : Option γ := match x with | none => none | some (a, b) => f a b
def bd1 {α γ : Type} (x : Option α) (f : α → Option γ) : Option γ := match x with | none => none | some a => f a
theorem nm_o {α β : Type} {a : α} {f : α → β} {r : β} (h : nm a f = r) (x : α) (e : x = a) : f x = r := by subst e; exact h
theorem gd_o {α : Type} {i : Int32} {n : Nat} {x : Option α} {r : α} (h : gd (okx i n) x = some r) : vp_in i n ∧ x = some r := by
  unfold gd at h
  split at h
  · rename_i hb
    have h1 : ¬ (i < 0 ∨ n ≤ i.toNatClampNeg) := of_decide_eq_true hb
    exact ⟨h1, h⟩
  · cases h
theorem gp_o {α : Type} {P : Prop} {x : Option α} {r : α} {_ : Decidable P} (h : gd (decide P) x = some r) : P ∧ x = some r := by
  unfold gd at h
  split at h
  · rename_i hb; exact ⟨of_decide_eq_true hb, h⟩
  · cases h
theorem bd_o {α β γ : Type} {x : Option (α × β)} {f : α → β → Option γ} {r : γ} (h : bd x f = some r) : ∃ a b, x = some (a, b) ∧ f a b = some r := by
  unfold bd at h
  split at h
  · cases h
  · exact ⟨_, _, rfl, h⟩
theorem bd1_o {α γ : Type} {x : Option α} {f : α → Option γ} {r : γ} (h : bd1 x f = some r) : ∃ a, x = some a ∧ f a = some r := by
  unfold bd1 at h
  split at h
  · cases h
  · exact ⟨_, rfl, h⟩
theorem if_t {α : Type} {P : Prop} {_ : Decidable P} {a b r : α} (h : (if P then a else b) = r) (c : P) : a = r := by rw [if_pos c] at h; exact h
theorem if_f {α : Type} {P : Prop} {_ : Decidable P} {a b r : α} (h : (if P then a else b) = r) (c : ¬ P) : b = r := by rw [if_neg c] at h; exact h

/-! constructors: worlds that grow -/
def AN (ws : va_W) (sz : Nat) : Nat → Prop := fun a => AQ ws a ∨ sz ≤ a
def PN (D : va_G) (ws : va_W) (k : cK) (sz : Nat) (av : List Value) : Array Value → State → Prop := fun v U =>
  v = av.toArray ∧ U.heap.size = sz ∧ va_K D vwCl (cT k) U ∧ va_P D vwCl ws U.heap ∧ va_D (AN ws sz) ws ∧ CT U
def QC (D : va_G) (ws : va_W) (sz : Nat) (mk : (Nat → Nat) → va_W) : Array Value → State → Outcome → State → Prop := fun _ st o t =>
  o = .returned none ∧ ∃ u : Nat → Nat, va_P D vwCl (mk u) t.heap ∧ va_D (AN ws sz) (mk u) ∧ va_F (AN ws sz) st t
theorem PN.blind {D : va_G} {ws : va_W} {k : cK} {sz : Nat} {av : List Value} : FrameBlind (PN D ws k sz av) := by
  intro a U g mk h
  obtain ⟨h1, h0, h2, h3, h4, h5⟩ := h
  exact ⟨h1, h0, va_K.moved (u := U) (U := U.calling g mk a) (Vm.Alike.refl U.vm) h2, h3, h4, h5.moved (U := U.calling g mk a) (State.WarmedH.refl U)⟩
theorem metn_of {l : Launch} {y : MethodName} {cc : ByteArray} {maxL mc ms sz : Nat} {rm : Room} {D : va_G} {ws : va_W} {k : cK} {av : List Value} {Qc : Array Value → State → Outcome → State → Prop}
    (hy : plainName y.cls = true) (hi : y.name = "<init>") (hlen : (lg_sl av).length ≤ maxL)
    (body : ∀ (p : Program) (e : Env) (s : State) (m : MethodId) (below : List Frame) (meth : Method) (c : Code), Cx p s m meth c cc y.cls maxL none → meth.name = "<init>" → s.heap.size = sz → WH D ws k (AN ws sz) s s.heap s.heap [] → (∀ q, s.heap.size ≤ q → AN ws sz q) → ∀ ls : Array Slot, lv_has ls maxL (lv_args 0 av) →
      W p l e rm s m av.toArray below meth c s.heap [] 0 0 (MQ below Qc av.toArray s mc ms (AN ws sz)) (F0 m 0 ls [])) :
    Met l y [.code y cc maxL none] rm (PN D ws k sz av) Qc mc ms (AN ws sz) := by
  refine Met.ofW (cc := cc) (maxL := maxL) (ret := none) hy rfl ?_
  intro p e s m args below meth c s₁ B hml hv
  obtain ⟨rfl, hsz, hK, hP, hD, hC⟩ := hv
  rw [lg_entry_eq]
  exact body p e s m below meth c ⟨B.exec, B.bytes, B.returns, hml, findClass_of_methodNamed B.named, B.notSynchronized⟩ ((name_of_methodNamed B.named B.method).1.trans hi) hsz ⟨hK, hP, hD, va_S.rf, hC⟩ (fun q h => Or.inr (by rw [← hsz]; exact h)) _ (lv_entry av hlen)
theorem k_of {s : State} {D : va_G} {k : cK} (hK : va_K D vwCl (cT k) s) {cA : ClassId} {t0 : Nat} {kc : ClassId} {ty : FieldType} (h : (cT k)[t0]? = some (kc, ty)) (hty : ∀ C, ty ≠ .object C) (hA : va_RA s cA ty) : cA = kc := by
  have h1 := (hK.2 t0 _ h).2
  cases ty with
  | object C => exact absurd rfl (hty C)
  | _ => exact Option.some.inj (hA.symm.trans h1)
section CtorRows
variable {p : Program} {l : Launch} {e : Env} {R : Room} {s : State} {m : MethodId} {args : Array Value} {below : List Frame} {meth : Method} {c : Code} {H : Heap} {locs : List Loc} {cells slots mc ms : Nat} {Q : State → Prop}
variable {D : va_G} {ws ws' ws0 wr wc : va_W} {k : cK} {A : Nat → Prop} {H0 : Heap} {pc nL sz : Nat} {ls : Array Slot} {rest st0 : List Value} {cc : ByteArray} {own : String} {ret : Option FieldType} {index : Nat}
theorem o_obj (hC : Cx p s m meth c cc own nL ret) (hw : WH D ws k A s H0 H locs) {idx a : Nat} (hl : Cond.methodLink own idx objectInit ∈ GT) (hi : Cond.instanceMethod objectInit ∈ GT) (hc : Cond.code objectInit ⟨#[0xb1]⟩ 1 none ∈ GT) (hsize : ls.size = nL) (hd : decode cc pc = .ok (.invokespecial idx, 3))
    (hR : 1 ≤ R.frames ∧ 20 ≤ R.locals) (hrest : (rest.map fun v => v.category).sum ≤ 8) (kk : W p l e R s m args below meth c H locs cells slots Q (F0 m (pc + 3) ls rest)) : W p l e R s m args below meth c H locs cells slots Q (F0 m pc ls (.ref a :: rest)) := by
  obtain ⟨hx, hb, -, hml, hown, -⟩ := hC
  have ht := hw.2.2.2.2.all args
  exact W.objInit hx hb hown (ht _ hl) (ht _ hi) (ht _ hc) rfl (hsize.trans hml.symm) rfl hd hR.1 (Nat.le_trans (Nat.add_le_add_right (lv_room hrest) 12) hR.2) kk
theorem o_putF (hC : Cx p s m meth c cc own nL ret) (hin2 : meth.name = "<init>") (hw : WH D ws k A s H0 H locs) {C : String} {T : u_T} {N ci : Nat} (hin : ∀ w ∈ u_ws C T N, w ∈ GT) (ty0 : Nat → FieldType) (hty : ∀ k, k < N → parseFieldDescriptor (T k).2.2.1 = some (ty0 k)) (hnm : ∀ a, a < N → ∀ b, b < N → a ≠ b → (T a).2.1 ≠ (T b).2.1)
    (q0 : Nat) {a : Nat} {fs : List Value} (he : ws[q0]? = some (a, .inr (ci, fs))) (hc : vwCl[ci]? = some (C, T, N)) (j : Nat) (hj : j < N) (hlink : Cond.fieldLink own index (T j).1 (T j).2.1 (T j).2.2.1 ∈ GT) (hfin : (T j).2.2.2 = true) (hdecl : (T j).1 = own) {v : Value}
    (hn : narrow (ty0 j) v = v ∧ fits (ty0 j) v = true) (hl : j < fs.length) (hws : ws.set q0 (a, .inr (ci, fs.set j v)) = ws') (hdg : decode cc pc = .ok (.putfield index, 3))
    (kk : ∀ (H1 : Heap) (locs1 : List Loc), WH D ws' k A s H0 H1 locs1 → W p l e R s m args below meth c H1 locs1 cells slots Q (F0 m (pc + 3) ls rest)) : W p l e R s m args below meth c H locs cells slots Q (F0 m pc ls (v :: .ref a :: rest)) := by
  subst hws
  exact va_putF hC.1 hC.2.1 (hw.2.2.2.2.all args) hin ty0 hty hnm hC.2.2.2.2.1 hw.1 hw.2.1 hw.2.2.1 hw.2.2.2.1 q0 he hc j hj (hw.2.2.2.2.all args _ hlink) (fun _ h => h) hfin hin2 hdecl (hty j hj) hn.1 hn.2 hl hdg (fun H1 l1 hP hD hS => kk H1 l1 ⟨hw.1, hP, hD, hS, hw.2.2.2.2⟩)
theorem o_newi (hC : Cx p s m meth c cc own nL ret) (hw : WH D ws k A s H0 H locs) (hA : ∀ q, H0.size ≤ q → A q) (ha : Cond.arrayClass .int ∈ GT) {n : Int32} {N : Nat} (hn : ¬ n < 0) (hN : n.toNatClampNeg = N) (hby : N * 4 ≤ 536870912) (hcells : cells + 1 ≤ R.cells) (hslots : slots + N ≤ R.slots) (hdg : decode cc pc = .ok (.newarray .int, 2))
    (kk : ∀ (q : Nat) (H1 : Heap), WH D (ws ++ [(q, .inl (k.1, N, .inl (fun _ => 0)))]) k A s H0 H1 locs → W p l e R s m args below meth c H1 locs (cells + 1) (slots + N) Q (F0 m (pc + 2) ls (.ref q :: rest))) : W p l e R s m args below meth c H locs cells slots Q (F0 m pc ls (.int n :: rest)) := by
  obtain ⟨hK, hP, hD, hS, hT⟩ := hw
  refine va_newa (ty := .int) (a0 := (N, .inl (fun _ => 0))) hC.1 hC.2.1 (atype := .int) (hT.all args _ ha) rfl hK hP hD hS hA (fun _ => rfl) hn hN hby hcells hslots hdg (fun q cA H1 hK1 hP1 hD1 hS1 => ?_)
  have hk : cA = k.1 := k_of hK (t0 := 0) rfl (fun C h => by cases h) (hK1.2 3 (cA, .int) rfl).2
  subst hk
  exact kk q H1 ⟨hK, hP1, hD1, hS1, hT⟩
theorem o_newj (hC : Cx p s m meth c cc own nL ret) (hw : WH D ws k A s H0 H locs) (hA : ∀ q, H0.size ≤ q → A q) (ha : Cond.arrayClass .long ∈ GT) {n : Int32} {N : Nat} (hn : ¬ n < 0) (hN : n.toNatClampNeg = N) (hby : N * 8 ≤ 536870912) (hcells : cells + 1 ≤ R.cells) (hslots : slots + N ≤ R.slots) (hdg : decode cc pc = .ok (.newarray .long, 2))
    (kk : ∀ (q : Nat) (H1 : Heap), WH D (ws ++ [(q, .inl (k.2.1, N, .inr (.inl (fun _ => 0))))]) k A s H0 H1 locs → W p l e R s m args below meth c H1 locs (cells + 1) (slots + N) Q (F0 m (pc + 2) ls (.ref q :: rest))) : W p l e R s m args below meth c H locs cells slots Q (F0 m pc ls (.int n :: rest)) := by
  obtain ⟨hK, hP, hD, hS, hT⟩ := hw
  refine va_newa (ty := .long) (a0 := (N, .inr (.inl (fun _ => 0)))) hC.1 hC.2.1 (atype := .long) (hT.all args _ ha) rfl hK hP hD hS hA (fun _ => rfl) hn hN hby hcells hslots hdg (fun q cA H1 hK1 hP1 hD1 hS1 => ?_)
  have hk : cA = k.2.1 := k_of hK (t0 := 1) rfl (fun C h => by cases h) (hK1.2 3 (cA, .long) rfl).2
  subst hk
  exact kk q H1 ⟨hK, hP1, hD1, hS1, hT⟩
theorem o_newz (hC : Cx p s m meth c cc own nL ret) (hw : WH D ws k A s H0 H locs) (hA : ∀ q, H0.size ≤ q → A q) (ha : Cond.arrayClass .boolean ∈ GT) {n : Int32} {N : Nat} (hn : ¬ n < 0) (hN : n.toNatClampNeg = N) (hby : N * 1 ≤ 536870912) (hcells : cells + 1 ≤ R.cells) (hslots : slots + N ≤ R.slots) (hdg : decode cc pc = .ok (.newarray .boolean, 2))
    (kk : ∀ (q : Nat) (H1 : Heap), WH D (ws ++ [(q, .inl (k.2.2, N, .inl (fun _ => 0)))]) k A s H0 H1 locs → W p l e R s m args below meth c H1 locs (cells + 1) (slots + N) Q (F0 m (pc + 2) ls (.ref q :: rest))) : W p l e R s m args below meth c H locs cells slots Q (F0 m pc ls (.int n :: rest)) := by
  obtain ⟨hK, hP, hD, hS, hT⟩ := hw
  refine va_newa (ty := .boolean) (a0 := (N, .inl (fun _ => 0))) hC.1 hC.2.1 (atype := .boolean) (hT.all args _ ha) rfl hK hP hD hS hA (fun _ => rfl) hn hN hby hcells hslots hdg (fun q cA H1 hK1 hP1 hD1 hS1 => ?_)
  have hk : cA = k.2.2 := k_of hK (t0 := 2) rfl (fun C h => by cases h) (hK1.2 3 (cA, .boolean) rfl).2
  subst hk
  exact kk q H1 ⟨hK, hP1, hD1, hS1, hT⟩
theorem o_new (hC : Cx p s m meth c cc own nL ret) (hw : WH D ws k A s H0 H locs) (hA : ∀ q, H0.size ≤ q → A q) {C : String} {T : u_T} {N ci : Nat} (hin : ∀ w ∈ u_ws C T N, w ∈ GT) (ty : Nat → FieldType) (hty : ∀ k, k < N → parseFieldDescriptor (T k).2.2.1 = some (ty k)) (hcl : Cond.classLink own index C ∈ GT) (hinst : Cond.instantiable C N ∈ GT) (hini : Cond.initialized C ∈ GT)
    (hc : vwCl[ci]? = some (C, T, N)) {fs : List Value} (hfs : ∀ j, j < N → defaultValue (ty j) = vp_V fs j) (hcells : cells + 1 ≤ R.cells) (hslots : slots + N ≤ R.slots) (hdg : decode cc pc = .ok (.new index, 3))
    (kk : ∀ (q : Nat) (H1 : Heap), WH D (ws ++ [(q, .inr (ci, fs))]) k A s H0 H1 locs → W p l e R s m args below meth c H1 locs (cells + 1) (slots + N) Q (F0 m (pc + 3) ls (.ref q :: rest))) : W p l e R s m args below meth c H locs cells slots Q (F0 m pc ls rest) := by
  have ht := hw.2.2.2.2.all args
  exact va_new hC.1 hC.2.1 ht hin ty hty hC.2.2.2.2.1 (ht _ hcl) (ht _ hinst) (ht _ hini) hw.1 hw.2.1 hw.2.2.1 hw.2.2.2.1 hA hc hfs hcells hslots hdg (fun q H1 hP hD hS => kk q H1 ⟨hw.1, hP, hD, hS, hw.2.2.2.2⟩)
theorem ret_n {mk : (Nat → Nat) → va_W} (hC : Cx p s m meth c cc own nL none) (u : Nat → Nat) (hu : mk u = ws') (hw : WH D ws' k (AN ws0 sz) s s.heap H locs) (hdg : decode cc pc = .ok (.return_, 1)) :
    W p l e R s m args below meth c H locs cells slots (MQ below (QC D ws0 sz mk) args s cells slots (AN ws0 sz)) (F0 m pc ls []) :=
  W.vret hC.1 hC.2.1 hC.2.2.1 (fun t ht _ => ⟨rfl, u, by rw [ht, hu]; exact hw.2.1, by rw [hu]; exact hw.2.2.1, hw.2.2.2.1.F ht⟩) hw.2.2.2.1.2.2 hdg hC.2.2.2.2.2
variable {y : MethodName} {bytes : ByteArray} {maxL n : Nat} {rm : Room} {host : String} {b : Addr} {As : List Value} {Qc : Array Value → State → Outcome → State → Prop}
theorem pren_of {av : List Value} (hw : WH D (wr ++ wc) k A s H0 H locs) : ∀ U : State, U.heap = H → s.WarmedH U.vm → PN D wc k H.size av av.toArray U := by
  intro U hU hW
  obtain ⟨hK, hP, hD, hS, hC⟩ := hw.right
  exact ⟨rfl, by rw [hU], va_K.moved hW.alike hK, by rw [hU]; exact hP, ⟨hD.1, fun i q h => Or.inl ⟨i, q.2, h⟩⟩, hC.moved hW⟩
theorem run_IN (hC : Cx p s m meth c cc own nL ret) (hw : WH D (wr ++ wc) k A s H0 H locs) (hM : Met l y [.code y bytes maxL none] rm (PN D wc k H.size (.ref b :: As)) Qc mc ms (AN wc H.size)) (hi0 : y.name = "<init>")
    (hl : Cond.methodLinkNest own index y host ∈ GT) (hi : Cond.instanceMethod y ∈ GT) (hini : Cond.initialized y.cls ∈ GT) (hcode : Cond.code y bytes maxL none ∈ GT)
    (hd : y.cls ≠ "java/lang/invoke/MethodHandle" ∧ y.cls ≠ "java/lang/invoke/VarHandle" ∧ (parseMethodDescriptor y.desc).map (fun d => d.parameters.length) = some n)
    (hrc : rm.cells = mc ∧ rm.slots = ms) (hR : rm.frames + 1 ≤ R.frames ∧ 8 + (maxL + 11) + rm.locals ≤ R.locals)
    (hn : As.length = n) (hsize : ls.size = nL) (hstack : st0 = As.reverse ++ .ref b :: rest) (hW : (rest.map fun v => v.category).sum ≤ 8) (hdg : decode cc pc = .ok (.invokespecial index, 3)) (hf : cells + mc ≤ R.cells ∧ slots + ms ≤ R.slots) :
    va_Run p l e R s m args below meth c H locs cells slots mc ms (F0 m pc ls st0) rest (Qc (Value.ref b :: As).toArray) (AN wc H.size) := by
  obtain ⟨hx, hb, -, hml, hown, -⟩ := hC
  have ht := hw.2.2.2.2.all args
  exact va_runIN (bytes := bytes) (maxL := maxL) ⟨hx, hb, hml, hown, ht⟩ hM ⟨va_cnB n ht (gd_code hcode) rfl hrc.1 hrc.2 (va_Nw.of rfl (ht _ hl)) (ht _ hini) hd hR, hi0, ht _ hi⟩
    ⟨PN.blind, pren_of hw⟩ rfl hn hsize hstack (lv_room hW) hdg hf
theorem run_I (hC : Cx p s m meth c cc own nL ret) (hw : WH D (wr ++ wc) k A s H0 H locs) (hM : Met l y [.code y bytes maxL none] rm (PN D wc k H.size (.ref b :: As)) Qc mc ms (AN wc H.size)) (hi0 : y.name = "<init>")
    (hl : Cond.methodLink own index y ∈ GT) (hi : Cond.instanceMethod y ∈ GT) (hini : Cond.initialized y.cls ∈ GT) (hcode : Cond.code y bytes maxL none ∈ GT)
    (hd : y.cls ≠ "java/lang/invoke/MethodHandle" ∧ y.cls ≠ "java/lang/invoke/VarHandle" ∧ (parseMethodDescriptor y.desc).map (fun d => d.parameters.length) = some n)
    (hrc : rm.cells = mc ∧ rm.slots = ms) (hR : rm.frames + 1 ≤ R.frames ∧ 8 + (maxL + 11) + rm.locals ≤ R.locals)
    (hn : As.length = n) (hsize : ls.size = nL) (hstack : st0 = As.reverse ++ .ref b :: rest) (hW : (rest.map fun v => v.category).sum ≤ 8) (hdg : decode cc pc = .ok (.invokespecial index, 3)) (hf : cells + mc ≤ R.cells ∧ slots + ms ≤ R.slots) :
    va_Run p l e R s m args below meth c H locs cells slots mc ms (F0 m pc ls st0) rest (Qc (Value.ref b :: As).toArray) (AN wc H.size) := by
  obtain ⟨hx, hb, -, hml, hown, -⟩ := hC
  have ht := hw.2.2.2.2.all args
  exact va_runI (bytes := bytes) (maxL := maxL) ⟨hx, hb, hml, hown, ht⟩ hM ⟨callB_of n ht (gd_code hcode) rfl hrc.1 hrc.2 (ht _ hini) (ht _ hl) hd hR, hi0, ht _ hi⟩
    ⟨PN.blind, pren_of hw⟩ rfl hn hsize hstack (lv_room hW) hdg hf
theorem go_n {mk : (Nat → Nat) → va_W} {a : Array Value} (hr : va_Run p l e R s m args below meth c H locs cells slots mc ms (F0 m pc ls st0) rest (QC D wc H.size mk a) (AN wc H.size)) (hw : WH D (wr ++ wc) k A s H0 H locs) (hA : ∀ q, H0.size ≤ q → A q)
    (kk : ∀ (u : Nat → Nat) (H1 : Heap) (locs1 : List Loc), WH D (wr ++ mk u) k A s H0 H1 locs1 → W p l e R s m args below meth c H1 locs1 (cells + mc) (slots + ms) Q (F0 m (pc + 3) ls rest)) :
    W p l e R s m args below meth c H locs cells slots Q (F0 m pc ls st0) := by
  intro T hT X
  obtain ⟨v, st₀, t, T', L, h0, X', hL, e1, e2, ⟨hv, u, hP1, hD1, hz, hk⟩, st⟩ := hr T hT X
  cases hv
  obtain ⟨hK, hP, hD, hS, hC⟩ := hw
  have hB : ∀ q, AN wc H.size q → A q := fun q h => by
    rcases h with ⟨i, e, h⟩ | h
    · exact hD.2 _ _ (app_r (wc := wr) h)
    · exact hA q (Nat.le_trans hS.1 h)
  have hap : ∀ (i : Nat) (q : Nat × va_E), wr[i]? = some q → ¬ AN wc H.size q.1 := fun i q h h9 => by
    rcases h9 with ⟨j, e, h9⟩ | h9
    · have h1 := hD.1 _ i (q.1, e) q (app_r (wc := wr) h9) (app_l h) rfl
      have h2 := (List.getElem?_eq_some_iff.mp h).1
      omega
    · have := (hP i q (app_l h)).lt
      omega
  rw [h0] at hz hk
  obtain ⟨t2, a1, b1⟩ := kk u T'.heap (locs ++ L) ⟨hK, by rw [e1]; exact va_P.app (fun i q h => (hP i q (app_l h)).kept (hk q.1 ((hP i q (app_l h)).lt) (hap i q h))) hP1,
    va_D.app ⟨fun i j x y hx hy hxy => hD.1 i j x y (app_l hx) (app_l hy) hxy, fun i q h => hD.2 i q (app_l h)⟩ (hD1.weaken (fun _ q _ h => hB q.1 h)) (fun i j x y hx hy hxy => hap i x hx (by rw [hxy]; exact hD1.2 j y hy)),
    ⟨Nat.le_trans hS.1 (by rw [e1]; exact hz), fun q h1 h2 => by rw [e1, hk q (Nat.lt_of_lt_of_le h1 hS.1) (fun z => h2 (hB q z))]; exact hS.2.1 q h1 h2, fun q hq => by
      rcases List.mem_append.mp hq with h | h
      · exact hS.2.2 q h
      · exact hB _ (hL q h)⟩, hC⟩ T' rfl X'
  exact ⟨t2, st t2 a1, b1⟩
end CtorRows

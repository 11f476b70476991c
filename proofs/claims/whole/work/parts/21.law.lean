/-! a throw that the method's own table takes: one row of the table, the walk through the rows, the machine's step -/
section VXC
theorem ctc_row {Q : Handler → Pre} {E : CtlPost} {e : Env} {d : Bool} {acts : List Action} {S : State} {f : JFrame} {a : Addr} {x : ExceptionTableEntry} {t : List ExceptionTableEntry} {k : ClassId} {ce : Cell} {b : Bool} (hx : covers x f.pc = true) (h0 : x.catchType ≠ 0)
    (hl : S.vm.ClassLinks e.platform f.method.cls x.catchType k) (hcell : S.heap[a]? = some ce) (hv : ce.vm = .none) (hk : ∃ z, S.vm.classes[ce.cls]? = some z) (hb : S.vm.assignable ce.cls k = b) :
    wp (findHandler.go f a (x :: t)) Q E e d acts S ↔
      (if b = true then Q (.found x.handlerPc) d acts (S.setVm (S.vm.noted f.method.cls x.catchType (.cls k)))
       else wp (findHandler.go f a t) Q E e d acts (S.setVm (S.vm.noted f.method.cls x.catchType (.cls k)))) := by
  have hal : S.vm.Alike (S.vm.noted f.method.cls x.catchType (.cls k)) := (Vm.Alike.refl S.vm).noted _ _ _
  have hb' : (S.vm.noted f.method.cls x.catchType (.cls k)).assignable ce.cls k = b := by rw [hal.assignable]; exact hb
  obtain ⟨z1, hz1⟩ := hk
  obtain ⟨_, _, _, z2, _, _, _, _, _, hz2, _, _⟩ := hl.here
  obtain ⟨y1, hy1, -⟩ := hal.2.2 _ _ hz1
  obtain ⟨y2, hy2, -⟩ := hal.2.2 _ _ hz2
  obtain ⟨r1, r2⟩ := (resolveClass_links e.toSetting hl).op (op := VmOp.resolveClass f.method.cls x.catchType) rfl
  have hx' : (decide (x.startPc ≤ f.pc) && decide (f.pc < x.endPc)) = true := hx
  cases b <;> simp [findHandler.go, hx', h0, r1, r2, hcell, hv, hy1, hy2, hb', VmOp.dirties, VmOp.acts]
theorem ctc_walk {e : Env} {s : State} {f : JFrame} {a : Addr} {ce : Cell} {x : ExceptionTableEntry} {suf : List ExceptionTableEntry} {k : ClassId} (hv : ce.vm = .none) (hk : ∃ z, s.vm.classes[ce.cls]? = some z) (hx : covers x f.pc = true) (h0 : x.catchType ≠ 0)
    (hl : s.vm.ClassLinks e.platform f.method.cls x.catchType k) (hb : s.vm.assignable ce.cls k = true) (pre : List ExceptionTableEntry) :
    ∀ S : State, s.WarmedH S.vm → S.heap[a]? = some ce →
      (∀ z ∈ pre, covers z f.pc = false ∨ (z.catchType ≠ 0 ∧ ∃ j, s.vm.ClassLinks e.platform f.method.cls z.catchType j ∧ s.vm.assignable ce.cls j = false)) →
      ∃ vm', s.WarmedH vm' ∧ ∀ (Q : Handler → Pre) (E : CtlPost) (d : Bool) (acts : List Action), wp (findHandler.go f a (pre ++ x :: suf)) Q E e d acts S ↔ Q (.found x.handlerPc) d acts (S.setVm vm') := by
  have note : ∀ (vm1 : Vm) (i j : Nat), s.WarmedH vm1 → s.vm.ClassLinks e.platform f.method.cls i j → s.WarmedH (vm1.noted f.method.cls i (.cls j)) := by
    intro vm1 i j hW h9
    obtain ⟨_, _, _, _, g1, _, _, _, _, _, _, g2⟩ := h9.here
    exact hW.noted g1 g2 (State.rightAt_cls h9)
  have there : ∀ vm1 : Vm, s.WarmedH vm1 → ∃ z, vm1.classes[ce.cls]? = some z := by
    intro vm1 hW
    obtain ⟨z, hz⟩ := hk
    obtain ⟨y, hy, -⟩ := hW.alike.2.2 _ _ hz
    exact ⟨y, hy⟩
  induction pre with
  | nil =>
    intro S hW hcell _
    refine ⟨_, note S.vm _ _ hW hl, fun Q E d acts => ?_⟩
    rw [List.nil_append, ctc_row hx h0 (hW.classLinks hl) hcell hv (there _ hW) (b := true) (by rw [hW.alike.assignable]; exact hb), if_pos rfl]
  | cons z zs ih =>
    intro S hW hcell hp
    have hp' := fun y hy => hp y (List.mem_cons_of_mem z hy)
    cases hz : covers z f.pc with
    | false =>
      obtain ⟨vm', h1, h2⟩ := ih S hW hcell hp'
      refine ⟨vm', h1, fun Q E d acts => ?_⟩
      rw [List.cons_append, W.findHandler_go_skip hz]
      exact h2 Q E d acts
    | true =>
      rcases hp z List.mem_cons_self with h9 | ⟨g0, j, g1, g2⟩
      · rw [hz] at h9; cases h9
      · obtain ⟨vm', h1, h2⟩ := ih (S.setVm (S.vm.noted f.method.cls z.catchType (.cls j))) (note S.vm _ _ hW g1) hcell hp'
        refine ⟨vm', h1, fun Q E d acts => ?_⟩
        rw [List.cons_append, ctc_row hz g0 (hW.classLinks g1) hcell hv (there _ hW) (b := false) (by rw [hW.alike.assignable]; exact g2), if_neg (by decide)]
        exact h2 Q E d acts
theorem ctc_step {tb : Tables} {e : Env} {T : State} {g g1 : JFrame} {c : Code} {below r : List Frame} {a : Addr} {h : Nat} {vm' : Vm} {target : State} (hA : At T g.method c below) (hfr : T.frames = .java g1 :: r)
    (hf : ∀ (Q : Handler → Pre) (E : CtlPost) (d : Bool) (acts : List Action), wp (findHandler g a) Q E e d acts ((T.setTop g).pushFrame (.throwing a)) ↔ Q (.found h) d acts (((T.setTop g).pushFrame (.throwing a)).setVm vm'))
    (hk : Steps tb e below ((T.setVm vm').setTop { g with pc := h, stack := [.ref a] }) target) : Steps tb e below ((T.setTop g).pushFrame (.throwing a)) target := by
  obtain ⟨h1, h2⟩ := hA.throwing a
  have step : (stepThrowing e ((T.setTop g).pushFrame (.throwing a)) a (.java g :: r)).Is ((((T.setTop g).pushFrame (.throwing a)).setVm vm').setFrames (.java { g with pc := h, stack := [.ref a] } :: r)) [] := by
    simp only [stepThrowing, searchFrame, vmDo]
    generalize hres : Sem.go _ e false [] ((T.setTop g).pushFrame (.throwing a)) = res
    obtain ⟨as, rfl, has⟩ := Sem.eq_ok_of hres (a := Handler.found h) (s' := ((T.setTop g).pushFrame (.throwing a)).setVm vm') (acts' := []) (by simp [hf _ _ _ _])
    exact ⟨rfl, has⟩
  have top : ((T.setTop g).pushFrame (.throwing a)).frames = .throwing a :: .java g :: r := by
    rw [frames_entered hA.top, hfr, List.tail_cons]
  have back : (((T.setTop g).pushFrame (.throwing a)).setVm vm').setFrames (.java { g with pc := h, stack := [.ref a] } :: r) = (T.setVm vm').setTop { g with pc := h, stack := [.ref a] } := by
    have e1 : (T.setVm vm').frames = .java g1 :: r := hfr
    have e2 : ∀ (U : State) (F : List Frame), (U.setFrames F).setVm vm' = (U.setVm vm').setFrames F := fun _ _ => rfl
    rw [State.setTop_of_frames _ e1, State.pushFrame, State.setTop_of_frames _ hfr, State.setFrames_setFrames, e2, State.setFrames_setFrames]
  refine Steps.head h1 h2 ?_
  rw [stepThread_throwing top, step.1, back]
  exact hk
variable {p : Program} {l : Launch} {e : Env} {R : Room} {s : State} {m : MethodId} {args : Array Value} {below : List Frame} {meth : Method} {c : Code} {H : Heap} {locs : List Loc} {cells slots : Nat} {Q : State → Prop}
variable {pc : Nat} {ls : Array Slot} {rest : List Value}
theorem vx_catch {own name : String} {E : String} {ce : Cell} {q : Addr} (hown : s.vm.findClass own = some m.cls) (pre : List ExceptionTableEntry) (x : ExceptionTableEntry) (suf : List ExceptionTableEntry) (hsplit : c.exceptionTable.toList = pre ++ x :: suf)
    (hpass : ∀ z ∈ pre, covers z pc = false ∨ (z.catchType ≠ 0 ∧ ∃ nm : String, (Cond.classLink own z.catchType nm).before args s = true ∧ va_Nc E nm s)) (hx : covers x pc = true) (h0 : x.catchType ≠ 0)
    (hlink : (Cond.classLink own x.catchType name).before args s = true) (hcast : (Cond.castable E name).before args s = true) (hcell : H[q]? = some ce) (hv : ce.vm = .none) (hcl : s.vm.findClass E = some ce.cls)
    (kk : W p l e R s m args below meth c H locs cells slots Q (F0 m x.handlerPc ls [.ref q])) : vx_W p l e R s m args below meth c H locs cells slots Q (F0 m pc ls rest) q := by
  intro T hT X
  have hpl : e.platform.magicAccessors = ({} : Platform).magicAccessors := by rw [X.admits.platform]
  obtain ⟨c3, c4, hc3, hc4, hasg⟩ := Cond.castable_spec hcast
  cases Option.some.inj (hc3.symm.trans hcl)
  obtain ⟨c5, hc5, hcl5⟩ := Cond.classLink_spec hown hlink e.platform hpl
  cases Option.some.inj (hc4.symm.trans hc5)
  obtain ⟨g1, hfr⟩ := X.frames_eq
  obtain ⟨vm', hW, hf⟩ := ctc_walk (f := F0 m pc ls rest) (a := q) (suf := suf) hv (by obtain ⟨k9, h9, -⟩ := Vm.findClass_spec hcl; exact ⟨k9, h9⟩) hx h0 hcl5 hasg pre ((T.setTop (F0 m pc ls rest)).pushFrame (.throwing q)) X.warmed (show T.heap[q]? = some ce by rw [hT]; exact hcell)
    (fun z hz => by
      rcases hpass z hz with h | ⟨hz0, nm, hl1, a8, b8, h1, h2, h3⟩
      · exact Or.inl h
      · obtain ⟨c6, hc6, hcl6⟩ := Cond.classLink_spec hown hl1 e.platform hpl
        cases Option.some.inj (h1.symm.trans hcl)
        cases Option.some.inj (h2.symm.trans hc6)
        exact Or.inr ⟨hz0, _, hcl6, h3⟩)
  have hf' : ∀ (Q : Handler → Pre) (E : CtlPost) (d : Bool) (acts : List Action), wp (findHandler (F0 m pc ls rest) q) Q E e d acts ((T.setTop (F0 m pc ls rest)).pushFrame (.throwing q)) ↔ Q (.found x.handlerPc) d acts (((T.setTop (F0 m pc ls rest)).pushFrame (.throwing q)).setVm vm') := by
    intro Q E d acts
    rw [W.findHandler_eq (meth := meth) (code := c) X.method' X.code, hsplit]
    exact hf Q E d acts
  obtain ⟨t, a1, b1⟩ := kk (T.setVm vm') hT (X.noted hW)
  exact ⟨t, ctc_step X.here hfr hf' a1, b1⟩
end VXC
/-! methods with a table of their own, and the law's two worlds -/
theorem metw_of {l : Launch} {y : MethodName} {cc : ByteArray} {maxL mc ms : Nat} {ret : Option FieldType} {hh : List (Nat × Nat × Nat × Nat)} {rm : Room} {D : va_G} {ws : va_W} {k : cK} {sa : Nat → Nat} {av : List Value} {Qc : Array Value → State → Outcome → State → Prop}
    (hy : plainName y.cls = true) (hlen : (lg_sl av).length ≤ maxL)
    (body : ∀ (p : Program) (e : Env) (s : State) (m : MethodId) (below : List Frame) (meth : Method) (c : Code), Cx p s m meth c cc y.cls maxL ret → c.exceptionTable.toList = tableOf hh → WH D ws k (AQ ws) s s.heap s.heap [] → XPm (AQ ws) sa s s.heap → ∀ ls : Array Slot, lv_has ls maxL (lv_args 0 av) →
      W p l e rm s m av.toArray below meth c s.heap [] 0 0 (MQ below Qc av.toArray s mc ms (AQ ws)) (F0 m 0 ls [])) :
    Met l y [.codeWith y cc maxL ret hh] rm (PX D ws k sa av) Qc mc ms (AQ ws) := by
  refine va_MetW (cc := cc) (maxL := maxL) (ret := ret) (hh := hh) hy rfl ?_
  intro p e s m args below meth c s₁ B hml hv
  obtain ⟨⟨rfl, hK, hP, hD, hC⟩, hz⟩ := hv
  have ht := vx_table (x := y) B (atoms_spec (ws := [Cond.codeWith y cc maxL ret hh]) B.pre _ List.mem_cons_self)
  rw [lg_entry_eq]
  exact body p e s m below meth c ⟨B.exec, B.bytes, B.returns, hml, findClass_of_methodNamed B.named, B.notSynchronized⟩ ht ⟨hK, hP, hD, va_S.rf, hC⟩ hz _ (lv_entry av hlen)
def bc (x : Option XR) (f : Int32 → St → Option (Int32 × St)) (g : Nat → St → Option (Int32 × St)) : Option (Int32 × St) := match x with | none => none | some (.inr e, σ) => g e σ | some (.inl r, σ) => f r σ
theorem bc_o {x : Option XR} {f : Int32 → St → Option (Int32 × St)} {g : Nat → St → Option (Int32 × St)} {r : Int32 × St} (h : bc x f g = some r) : (∃ a σ1, x = some (.inl a, σ1) ∧ f a σ1 = some r) ∨ (∃ e σ1, x = some (.inr e, σ1) ∧ g e σ1 = some r) := by
  unfold bc at h
  split at h
  · cases h
  · exact Or.inr ⟨_, _, rfl, h⟩
  · exact Or.inl ⟨_, _, rfl, h⟩
theorem WH.left {D : va_G} {wc wm : va_W} {k : cK} {A : Nat → Prop} {s : State} {H0 H : Heap} {locs : List Loc} (h : WH D (wc ++ wm) k A s H0 H locs) : WH D wc k A s H0 H locs := by
  obtain ⟨h1, h2, h3, h4, h5⟩ := h
  have e : ∀ (i : Nat) (q : Nat × va_E), wc[i]? = some q → (wc ++ wm)[i]? = some q := fun i q h => by
    rw [List.getElem?_append_left (List.getElem?_eq_some_iff.mp h).1]; exact h
  exact ⟨h1, fun i q h => h2 i q (e i q h), ⟨fun i j x y hx hy hxy => h3.1 i j x y (e i x hx) (e j y hy) hxy, fun i q h => h3.2 i q (e i q h)⟩, h4, h5⟩
theorem app_r {wc wm : va_W} {i : Nat} {q : Nat × va_E} (h : wm[i]? = some q) : (wc ++ wm)[wc.length + i]? = some q := by
  rw [List.getElem?_append_right (Nat.le_add_right _ _), Nat.add_sub_cancel_left]; exact h
theorem app_l {wc wm : va_W} {i : Nat} {q : Nat × va_E} (h : wc[i]? = some q) : (wc ++ wm)[i]? = some q := by
  rw [List.getElem?_append_left (List.getElem?_eq_some_iff.mp h).1]; exact h
theorem WH.right {D : va_G} {wc wm : va_W} {k : cK} {A : Nat → Prop} {s : State} {H0 H : Heap} {locs : List Loc} (h : WH D (wc ++ wm) k A s H0 H locs) : WH D wm k A s H0 H locs := by
  obtain ⟨h1, h2, h3, h4, h5⟩ := h
  exact ⟨h1, fun i q h => h2 _ q (app_r h), ⟨fun i j x y hx hy hxy => by have := h3.1 _ _ x y (app_r (wc := wc) hx) (app_r (wc := wc) hy) hxy; omega, fun i q h => h3.2 _ q (app_r h)⟩, h4, h5⟩
section LawRows
variable {p : Program} {l : Launch} {e : Env} {R : Room} {s : State} {m : MethodId} {args : Array Value} {below : List Frame} {meth : Method} {c : Code} {H : Heap} {locs : List Loc} {cells slots mc ms : Nat} {Q : State → Prop}
variable {D : va_G} {wc wc' wm wm' : va_W} {k : cK} {A : Nat → Prop} {H0 : Heap} {pc nL : Nat} {ls : Array Slot} {rest st0 : List Value} {cc : ByteArray} {own : String} {ret : Option FieldType}
/-- the callee's world is the one, the other stays -/
theorem go_L {r : Option Value} {a : Array Value} (hr : va_Run p l e R s m args below meth c H locs cells slots mc ms (F0 m pc ls st0) rest (QR D wc wc' r a) (AQ wc)) (hw : WH D (wc ++ wm) k A s H0 H locs)
    (kk : ∀ (H1 : Heap) (locs1 : List Loc), WH D (wc' ++ wm) k A s H0 H1 locs1 → W p l e R s m args below meth c H1 locs1 (cells + mc) (slots + ms) Q (F0 m (pc + 3) ls (r.toList ++ rest))) :
    W p l e R s m args below meth c H locs cells slots Q (F0 m pc ls st0) := by
  intro T hT X
  obtain ⟨v, st₀, t, T', L, h0, X', hL, e1, e2, ⟨hv, hP1, hD1, hz, hk⟩, st⟩ := hr T hT X
  cases hv
  obtain ⟨hK, hP, hD, hS, hC⟩ := hw
  have hA : ∀ q, AQ wc q → A q := fun q ⟨i, e, h⟩ => hD.2 i _ (app_l h)
  have hap : ∀ (i : Nat) (q : Nat × va_E), wm[i]? = some q → ¬ AQ wc q.1 := fun i q h ⟨j, e, h9⟩ => by
    have h1 := hD.1 j _ (q.1, e) q (app_l h9) (app_r (wc := wc) h) rfl
    have h2 := (List.getElem?_eq_some_iff.mp h9).1
    omega
  rw [h0] at hz hk
  obtain ⟨t2, a1, b1⟩ := kk T'.heap (locs ++ L) ⟨hK, by rw [e1]; exact hP1.app (fun i q h => (hP _ q (app_r (wc := wc) h)).kept (hk q.1 ((hP _ q (app_r (wc := wc) h)).lt) (hap i q h))),
    (hD1.weaken (fun _ q _ h => hA q.1 h)).app ⟨fun i j x y hx hy hxy => by have := hD.1 _ _ x y (app_r (wc := wc) hx) (app_r (wc := wc) hy) hxy; omega, fun i q h => hD.2 _ q (app_r (wc := wc) h)⟩ (fun i j x y hx hy hxy => hap j y hy (by rw [← hxy]; exact hD1.2 i x hx)),
    ⟨Nat.le_trans hS.1 (by rw [e1]; exact hz), fun q h1 h2 => by rw [e1, hk q (Nat.lt_of_lt_of_le h1 hS.1) (fun z => h2 (hA q z))]; exact hS.2.1 q h1 h2, fun q hq => by
      rcases List.mem_append.mp hq with h | h
      · exact hS.2.2 q h
      · exact hA _ (hL q h)⟩, hC⟩ T' rfl X'
  exact ⟨t2, st t2 a1, b1⟩
theorem go_R {r : Option Value} {a : Array Value} (hr : va_Run p l e R s m args below meth c H locs cells slots mc ms (F0 m pc ls st0) rest (QR D wm wm' r a) (AQ wm)) (hw : WH D (wc ++ wm) k A s H0 H locs)
    (kk : ∀ (H1 : Heap) (locs1 : List Loc), WH D (wc ++ wm') k A s H0 H1 locs1 → W p l e R s m args below meth c H1 locs1 (cells + mc) (slots + ms) Q (F0 m (pc + 3) ls (r.toList ++ rest))) :
    W p l e R s m args below meth c H locs cells slots Q (F0 m pc ls st0) := by
  intro T hT X
  obtain ⟨v, st₀, t, T', L, h0, X', hL, e1, e2, ⟨hv, hP1, hD1, hz, hk⟩, st⟩ := hr T hT X
  cases hv
  obtain ⟨hK, hP, hD, hS, hC⟩ := hw
  have hA : ∀ q, AQ wm q → A q := fun q ⟨i, e, h⟩ => hD.2 _ _ (app_r (wc := wc) h)
  have hap : ∀ (i : Nat) (q : Nat × va_E), wc[i]? = some q → ¬ AQ wm q.1 := fun i q h ⟨j, e, h9⟩ => by
    have h1 := hD.1 _ i (q.1, e) q (app_r (wc := wc) h9) (app_l h) rfl
    have h2 := (List.getElem?_eq_some_iff.mp h).1
    omega
  rw [h0] at hz hk
  obtain ⟨t2, a1, b1⟩ := kk T'.heap (locs ++ L) ⟨hK, by rw [e1]; exact va_P.app (fun i q h => (hP i q (app_l h)).kept (hk q.1 ((hP i q (app_l h)).lt) (hap i q h))) hP1,
    va_D.app ⟨fun i j x y hx hy hxy => hD.1 i j x y (app_l hx) (app_l hy) hxy, fun i q h => hD.2 i q (app_l h)⟩ (hD1.weaken (fun _ q _ h => hA q.1 h)) (fun i j x y hx hy hxy => hap i x hx (by rw [hxy]; exact hD1.2 j y hy)),
    ⟨Nat.le_trans hS.1 (by rw [e1]; exact hz), fun q h1 h2 => by rw [e1, hk q (Nat.lt_of_lt_of_le h1 hS.1) (fun z => h2 (hA q z))]; exact hS.2.1 q h1 h2, fun q hq => by
      rcases List.mem_append.mp hq with h | h
      · exact hS.2.2 q h
      · exact hA _ (hL q h)⟩, hC⟩ T' rfl X'
  exact ⟨t2, st t2 a1, b1⟩
variable {ws ws' : va_W} {sa : Nat → Nat} {y : MethodName} {bytes : ByteArray} {maxL n index : Nat} {rt : Option FieldType} {rm : Room} {As : List Value} {hh : List (Nat × Nat × Nat × Nat)} {Qc : Array Value → State → Outcome → State → Prop}
theorem gd_codeW (hcode : Cond.codeWith y bytes maxL rt hh ∈ GT) : GoodIn GT [Cond.codeWith y bytes maxL rt hh] := by
  intro w hw
  rw [List.mem_singleton] at hw
  subst hw
  exact ⟨hcode, Or.inl rfl⟩
theorem run_SW (hC : Cx p s m meth c cc own nL ret) (hw : WH D ws k A s s.heap H locs) (hz : XPm A sa s s.heap) (hM : Met l y [.codeWith y bytes maxL rt hh] rm (PX D ws k sa As) Qc mc ms (AQ ws))
    (hl : Cond.methodLink own index y ∈ GT) (hs : Cond.static y ∈ GT) (hini : Cond.initialized y.cls ∈ GT) (hcode : Cond.codeWith y bytes maxL rt hh ∈ GT)
    (hd : y.cls ≠ "java/lang/invoke/MethodHandle" ∧ y.cls ≠ "java/lang/invoke/VarHandle" ∧ (parseMethodDescriptor y.desc).map (fun d => d.parameters.length) = some n)
    (hrc : rm.cells = mc ∧ rm.slots = ms) (hR : rm.frames + 1 ≤ R.frames ∧ 8 + (maxL + 11) + rm.locals ≤ R.locals)
    (hn : As.length = n) (hsize : ls.size = nL) (hstack : st0 = As.reverse ++ rest) (hW : (rest.map fun v => v.category).sum ≤ 8) (hdg : decode cc pc = .ok (.invokestatic index, 3)) (hf : cells + mc ≤ R.cells ∧ slots + ms ≤ R.slots) :
    va_Run p l e R s m args below meth c H locs cells slots mc ms (F0 m pc ls st0) rest (Qc As.toArray) (AQ ws) := by
  obtain ⟨hx, hb, -, hml, hown, -⟩ := hC
  have ht := hw.2.2.2.2.all args
  refine vx_runSW (hh := hh) (bytes := bytes) (maxL := maxL) (ret := rt) ⟨hx, hb, hml, hown, ht⟩ hM ⟨⟨hrc.1, hrc.2, hR.1, hR.2, pay_in ht (gd_codeW hcode), List.mem_cons_self⟩, ht _ hcode, ht _ hini, ⟨hd.1, hd.2.1⟩, fun sig h => ?_, ht _ hl, ht _ hs⟩
    ⟨PX.blind, prex_of hw hz⟩ rfl hn hsize hstack (lv_room hW) hdg hf
  have h2 := hd.2.2
  rw [h] at h2
  exact (Option.some.inj h2).symm
end LawRows

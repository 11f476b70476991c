section VXC
variable {p : Program} {l : Launch} {e : Env} {R : Room} {s : State} {m : MethodId} {args : Array Value} {below : List Frame} {meth : Method} {c : Code} {H : Heap} {locs : List Loc} {cells slots : Nat} {Q : State → Prop}
variable {pc : Nat} {ls : Array Slot} {rest : List Value}
theorem vx_catch {own name : String} {E : String} {ce : Cell} {q : Addr} (hown : s.vm.findClass own = some m.cls) (pre : List ExceptionTableEntry) (x : ExceptionTableEntry) (suf : List ExceptionTableEntry) (hsplit : c.exceptionTable.toList = pre ++ x :: suf)
    (hpass : ∀ z ∈ pre, covers z pc = false ∨ (z.catchType ≠ 0 ∧ ∃ nm : String, (Cond.classLink own z.catchType nm).before args s = true ∧ va_Nc E nm s)) (hx : covers x pc = true) (h0 : x.catchType ≠ 0)
    (hlink : (Cond.classLink own x.catchType name).before args s = true) (hcast : (Cond.castable E name).before args s = true) (hcell : H[q]? = some ce) (hv : ce.vm = .none) (hcl : s.vm.findClass E = some ce.cls)
    (kk : W p l e R s m args below meth c H locs cells slots Q (F0 m x.handlerPc ls [.ref q])) : vx_W p l e R s m args below meth c H locs cells slots Q (F0 m pc ls rest) q := by
  intro T hT X
  have hpl : e.platform.magicAccessors = ({} : Platform).magicAccessors := by rw [X.admits.platform]
  obtain ⟨c3, c4, hc3, hc4, hasg⟩ := Cond.castable_spec hcast
  cases Option.some.inj (hc3.symm.trans hcl)
  obtain ⟨c5, hc5, hcl5⟩ := Cond.classLink_spec hown hlink e.platform hpl
  cases Option.some.inj (hc4.symm.trans hc5)
  obtain ⟨vm', X', st⟩ := Jvm.Stand.thenCaughtThrough X q (g := F0 m pc ls rest) rfl (Steps.refl _) (by rw [hT]; exact hcell) (by rw [hv]; rfl) (by obtain ⟨k9, h9, -⟩ := Vm.findClass_spec hcl; exact ⟨k9, h9⟩) pre x suf hsplit
    (fun z hz => by
      rcases hpass z hz with h | ⟨hz0, nm, hl1, hn1⟩
      · exact Or.inl h
      · obtain ⟨c6, hc6, hcl6⟩ := Cond.classLink_spec hown hl1 e.platform hpl
        obtain ⟨a8, b8, h1, h2, h3⟩ := hn1
        cases Option.some.inj (h1.symm.trans hcl)
        cases Option.some.inj (h2.symm.trans hc6)
        exact Or.inr ⟨hz0, _, hcl6, h3⟩) hx (Or.inr ⟨h0, c4, hcl5, hasg⟩)
  obtain ⟨t, a1, b1⟩ := kk (T.setVm vm') hT X'
  exact ⟨t, st.trans a1, b1⟩
end VXC
/-! methods with a table of their own, and the law's two worlds -/
theorem metw_of {l : Launch} {y : MethodName} {cc : ByteArray} {maxL mc ms : Nat} {ret : Option FieldType} {hh : List (Nat × Nat × Nat × Nat)} {rm : Room} {D : va_G} {ws : va_W} {k : cK} {sa : Nat → Nat} {av : List Value} {Qc : Array Value → State → Outcome → State → Prop}
    (hy : plainName y.cls = true) (hlen : (lg_sl av).length ≤ maxL)
    (body : ∀ (p : Program) (e : Env) (s : State) (m : MethodId) (below : List Frame) (meth : Method) (c : Code), Cx p s m meth c cc y.cls maxL ret → c.exceptionTable.toList = tableOf hh → WH D ws k (AQ ws) s s.heap s.heap [] → XPm (AQ ws) sa s s.heap → ∀ ls : Array Slot, lv_has ls maxL (lv_args 0 av) →
      W p l e rm s m av.toArray below meth c s.heap [] 0 0 (MQ below Qc av.toArray s mc ms (AQ ws)) (F0 m 0 ls [])) :
    Met l y [.codeWith y cc maxL ret hh] rm (PX D ws k sa av) Qc mc ms (AQ ws) := by
  refine va_MetW (cc := cc) (maxL := maxL) (ret := ret) (hh := hh) hy rfl ?_
  intro p e s m args below meth c s₁ B hml hv
  obtain ⟨⟨rfl, hK, hP, hD, hC⟩, hz⟩ := hv
  have ht := vx_table (x := y) B (atoms_spec (ws := [Cond.codeWith y cc maxL ret hh]) B.pre _ List.mem_cons_self)
  rw [lg_entry_eq]
  exact body p e s m below meth c ⟨B.exec, B.bytes, B.returns, hml, findClass_of_methodNamed B.named, B.notSynchronized⟩ ht ⟨hK, hP, hD, va_S.rf, hC⟩ hz _ (lv_entry av hlen)
def bc (x : Option XR) (f : Int32 → St → Option (Int32 × St)) (g : Nat → St → Option (Int32 × St)) : Option (Int32 × St) := match x with | none => none | some (.inr e, σ) => g e σ | some (.inl r, σ) => f r σ
theorem bc_o {x : Option XR} {f : Int32 → St → Option (Int32 × St)} {g : Nat → St → Option (Int32 × St)} {r : Int32 × St} (h : bc x f g = some r) : (∃ a σ1, x = some (.inl a, σ1) ∧ f a σ1 = some r) ∨ (∃ e σ1, x = some (.inr e, σ1) ∧ g e σ1 = some r) := by
  unfold bc at h
  split at h
  · cases h
  · exact Or.inr ⟨_, _, rfl, h⟩
  · exact Or.inl ⟨_, _, rfl, h⟩
theorem WH.left {D : va_G} {wc wm : va_W} {k : cK} {A : Nat → Prop} {s : State} {H0 H : Heap} {locs : List Loc} (h : WH D (wc ++ wm) k A s H0 H locs) : WH D wc k A s H0 H locs := by
  obtain ⟨h1, h2, h3, h4, h5⟩ := h
  have e : ∀ (i : Nat) (q : Nat × va_E), wc[i]? = some q → (wc ++ wm)[i]? = some q := fun i q h => by
    rw [List.getElem?_append_left (List.getElem?_eq_some_iff.mp h).1]; exact h
  exact ⟨h1, fun i q h => h2 i q (e i q h), ⟨fun i j x y hx hy hxy => h3.1 i j x y (e i x hx) (e j y hy) hxy, fun i q h => h3.2 i q (e i q h)⟩, h4, h5⟩
theorem app_r {wc wm : va_W} {i : Nat} {q : Nat × va_E} (h : wm[i]? = some q) : (wc ++ wm)[wc.length + i]? = some q := by
  rw [List.getElem?_append_right (Nat.le_add_right _ _), Nat.add_sub_cancel_left]; exact h
theorem app_l {wc wm : va_W} {i : Nat} {q : Nat × va_E} (h : wc[i]? = some q) : (wc ++ wm)[i]? = some q := by
  rw [List.getElem?_append_left (List.getElem?_eq_some_iff.mp h).1]; exact h
theorem WH.right {D : va_G} {wc wm : va_W} {k : cK} {A : Nat → Prop} {s : State} {H0 H : Heap} {locs : List Loc} (h : WH D (wc ++ wm) k A s H0 H locs) : WH D wm k A s H0 H locs := by
  obtain ⟨h1, h2, h3, h4, h5⟩ := h
  exact ⟨h1, fun i q h => h2 _ q (app_r h), ⟨fun i j x y hx hy hxy => by have := h3.1 _ _ x y (app_r (wc := wc) hx) (app_r (wc := wc) hy) hxy; omega, fun i q h => h3.2 _ q (app_r h)⟩, h4, h5⟩
section LawRows
variable {p : Program} {l : Launch} {e : Env} {R : Room} {s : State} {m : MethodId} {args : Array Value} {below : List Frame} {meth : Method} {c : Code} {H : Heap} {locs : List Loc} {cells slots mc ms : Nat} {Q : State → Prop}
variable {D : va_G} {wc wc' wm wm' : va_W} {k : cK} {A : Nat → Prop} {H0 : Heap} {pc nL : Nat} {ls : Array Slot} {rest st0 : List Value} {cc : ByteArray} {own : String} {ret : Option FieldType}
/-- the callee's world is the one, the other stays -/
theorem go_L {r : Option Value} {a : Array Value} (hr : va_Run p l e R s m args below meth c H locs cells slots mc ms (F0 m pc ls st0) rest (QR D wc wc' r a) (AQ wc)) (hw : WH D (wc ++ wm) k A s H0 H locs)
    (kk : ∀ (H1 : Heap) (locs1 : List Loc), WH D (wc' ++ wm) k A s H0 H1 locs1 → W p l e R s m args below meth c H1 locs1 (cells + mc) (slots + ms) Q (F0 m (pc + 3) ls (r.toList ++ rest))) :
    W p l e R s m args below meth c H locs cells slots Q (F0 m pc ls st0) := by
  intro T hT X
  obtain ⟨v, st₀, t, T', L, h0, X', hL, e1, e2, ⟨hv, hP1, hD1, hz, hk⟩, st⟩ := hr T hT X
  cases hv
  obtain ⟨hK, hP, hD, hS, hC⟩ := hw
  have hA : ∀ q, AQ wc q → A q := fun q ⟨i, e, h⟩ => hD.2 i _ (app_l h)
  have hap : ∀ (i : Nat) (q : Nat × va_E), wm[i]? = some q → ¬ AQ wc q.1 := fun i q h ⟨j, e, h9⟩ => by
    have h1 := hD.1 j _ (q.1, e) q (app_l h9) (app_r (wc := wc) h) rfl
    have h2 := (List.getElem?_eq_some_iff.mp h9).1
    omega
  rw [h0] at hz hk
  obtain ⟨t2, a1, b1⟩ := kk T'.heap (locs ++ L) ⟨hK, by rw [e1]; exact hP1.app (fun i q h => (hP _ q (app_r (wc := wc) h)).kept (hk q.1 ((hP _ q (app_r (wc := wc) h)).lt) (hap i q h))),
    (hD1.weaken (fun _ q _ h => hA q.1 h)).app ⟨fun i j x y hx hy hxy => by have := hD.1 _ _ x y (app_r (wc := wc) hx) (app_r (wc := wc) hy) hxy; omega, fun i q h => hD.2 _ q (app_r (wc := wc) h)⟩ (fun i j x y hx hy hxy => hap j y hy (by rw [← hxy]; exact hD1.2 i x hx)),
    ⟨Nat.le_trans hS.1 (by rw [e1]; exact hz), fun q h1 h2 => by rw [e1, hk q (Nat.lt_of_lt_of_le h1 hS.1) (fun z => h2 (hA q z))]; exact hS.2.1 q h1 h2, fun q hq => by
      rcases List.mem_append.mp hq with h | h
      · exact hS.2.2 q h
      · exact hA _ (hL q h)⟩, hC⟩ T' rfl X'
  exact ⟨t2, st t2 a1, b1⟩
theorem go_R {r : Option Value} {a : Array Value} (hr : va_Run p l e R s m args below meth c H locs cells slots mc ms (F0 m pc ls st0) rest (QR D wm wm' r a) (AQ wm)) (hw : WH D (wc ++ wm) k A s H0 H locs)
    (kk : ∀ (H1 : Heap) (locs1 : List Loc), WH D (wc ++ wm') k A s H0 H1 locs1 → W p l e R s m args below meth c H1 locs1 (cells + mc) (slots + ms) Q (F0 m (pc + 3) ls (r.toList ++ rest))) :
    W p l e R s m args below meth c H locs cells slots Q (F0 m pc ls st0) := by
  intro T hT X
  obtain ⟨v, st₀, t, T', L, h0, X', hL, e1, e2, ⟨hv, hP1, hD1, hz, hk⟩, st⟩ := hr T hT X
  cases hv
  obtain ⟨hK, hP, hD, hS, hC⟩ := hw
  have hA : ∀ q, AQ wm q → A q := fun q ⟨i, e, h⟩ => hD.2 _ _ (app_r (wc := wc) h)
  have hap : ∀ (i : Nat) (q : Nat × va_E), wc[i]? = some q → ¬ AQ wm q.1 := fun i q h ⟨j, e, h9⟩ => by
    have h1 := hD.1 _ i (q.1, e) q (app_r (wc := wc) h9) (app_l h) rfl
    have h2 := (List.getElem?_eq_some_iff.mp h).1
    omega
  rw [h0] at hz hk
  obtain ⟨t2, a1, b1⟩ := kk T'.heap (locs ++ L) ⟨hK, by rw [e1]; exact va_P.app (fun i q h => (hP i q (app_l h)).kept (hk q.1 ((hP i q (app_l h)).lt) (hap i q h))) hP1,
    va_D.app ⟨fun i j x y hx hy hxy => hD.1 i j x y (app_l hx) (app_l hy) hxy, fun i q h => hD.2 i q (app_l h)⟩ (hD1.weaken (fun _ q _ h => hA q.1 h)) (fun i j x y hx hy hxy => hap i x hx (by rw [hxy]; exact hD1.2 j y hy)),
    ⟨Nat.le_trans hS.1 (by rw [e1]; exact hz), fun q h1 h2 => by rw [e1, hk q (Nat.lt_of_lt_of_le h1 hS.1) (fun z => h2 (hA q z))]; exact hS.2.1 q h1 h2, fun q hq => by
      rcases List.mem_append.mp hq with h | h
      · exact hS.2.2 q h
      · exact hA _ (hL q h)⟩, hC⟩ T' rfl X'
  exact ⟨t2, st t2 a1, b1⟩
variable {ws ws' : va_W} {sa : Nat → Nat} {y : MethodName} {bytes : ByteArray} {maxL n index : Nat} {rt : Option FieldType} {rm : Room} {As : List Value} {hh : List (Nat × Nat × Nat × Nat)} {Qc : Array Value → State → Outcome → State → Prop}
theorem gd_codeW (hcode : Cond.codeWith y bytes maxL rt hh ∈ GT) : GoodIn GT [Cond.codeWith y bytes maxL rt hh] := by
  intro w hw
  rw [List.mem_singleton] at hw
  subst hw
  exact ⟨hcode, Or.inl rfl⟩
theorem run_SW (hC : Cx p s m meth c cc own nL ret) (hw : WH D ws k A s s.heap H locs) (hz : XPm A sa s s.heap) (hM : Met l y [.codeWith y bytes maxL rt hh] rm (PX D ws k sa As) Qc mc ms (AQ ws))
    (hl : Cond.methodLink own index y ∈ GT) (hs : Cond.static y ∈ GT) (hini : Cond.initialized y.cls ∈ GT) (hcode : Cond.codeWith y bytes maxL rt hh ∈ GT)
    (hd : y.cls ≠ "java/lang/invoke/MethodHandle" ∧ y.cls ≠ "java/lang/invoke/VarHandle" ∧ (parseMethodDescriptor y.desc).map (fun d => d.parameters.length) = some n)
    (hrc : rm.cells = mc ∧ rm.slots = ms) (hR : rm.frames + 1 ≤ R.frames ∧ 8 + (maxL + 11) + rm.locals ≤ R.locals)
    (hn : As.length = n) (hsize : ls.size = nL) (hstack : st0 = As.reverse ++ rest) (hW : (rest.map fun v => v.category).sum ≤ 8) (hdg : decode cc pc = .ok (.invokestatic index, 3)) (hf : cells + mc ≤ R.cells ∧ slots + ms ≤ R.slots) :
    va_Run p l e R s m args below meth c H locs cells slots mc ms (F0 m pc ls st0) rest (Qc As.toArray) (AQ ws) := by
  obtain ⟨hx, hb, -, hml, hown, -⟩ := hC
  have ht := hw.2.2.2.2.all args
  refine vx_runSW (hh := hh) (bytes := bytes) (maxL := maxL) (ret := rt) ⟨hx, hb, hml, hown, ht⟩ hM ⟨⟨hrc.1, hrc.2, hR.1, hR.2, pay_in ht (gd_codeW hcode), List.mem_cons_self⟩, ht _ hcode, ht _ hini, ⟨hd.1, hd.2.1⟩, fun sig h => ?_, ht _ hl, ht _ hs⟩
    ⟨PX.blind, prex_of hw hz⟩ rfl hn hsize hstack (lv_room hW) hdg hf
  have h2 := hd.2.2
  rw [h] at h2
  exact (Option.some.inj h2).symm
end LawRows

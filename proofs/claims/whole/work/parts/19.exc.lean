/-! methods that throw: what they stand on, the throw itself, the call -/
def EXn (e : Nat) : String := if e = 0 then "java/lang/ArrayIndexOutOfBoundsException" else "java/lang/IllegalArgumentException"
def XPm (A : Nat → Prop) (sa : Nat → Nat) (U : State) (H : Heap) : Prop :=
  vx_Zq Bundle.tN "UNASSIGNED_STACK" Bundle.steD A U H ∧ vx_Zq Bundle.tN "SUPPRESSED_SENTINEL" Bundle.listD A U H ∧ vk_R RX6 177 "there is no such cell" (sa 0) U ∧ vk_R RX6 185 "there is no such block" (sa 1) U ∧ vk_R RX6 187 "there is no such way" (sa 2) U ∧ vk_R RX6 191 "there is no such kind" (sa 3) U ∧ vk_R RX6 197 "there is no such node" (sa 4) U ∧ va_Nc (EXn 1) (EXn 0) U
theorem XPm.go {A B : Nat → Prop} {sa : Nat → Nat} {s U : State} {H H1 : Heap} (h : XPm A sa s H) (hW : s.WarmedH U.vm) (hq : ∀ a : Nat, a < H.size → ¬ A a → H1[a]? = H[a]?) (hAB : ∀ q, B q → A q) : XPm B sa U H1 := by
  obtain ⟨h1, h2, h3, h4, h5, h6, h7, h8⟩ := h
  exact ⟨((h1.moved hW.alike).kept hq).narrow hAB, ((h2.moved hW.alike).kept hq).narrow hAB, h3.warm hW, h4.warm hW, h5.warm hW, h6.warm hW, h7.warm hW, h8.moved hW.alike⟩
def PX (D : va_G) (ws : va_W) (k : cK) (sa : Nat → Nat) (av : List Value) : Array Value → State → Prop := fun v U => PC D ws k av v U ∧ XPm (AQ ws) sa U U.heap
theorem PX.blind {D : va_G} {ws : va_W} {k : cK} {sa : Nat → Nat} {av : List Value} : FrameBlind (PX D ws k sa av) := by
  intro a U g mk h
  exact ⟨PC.blind a U g mk h.1, h.2.go (U := U.calling g mk a) (State.WarmedH.refl U) (fun _ _ _ => rfl) (fun _ h => h)⟩
def XX (D : va_G) (ws ws' : va_W) (ee : Nat) : String → State → State → Prop := fun E st t => E = EXn ee ∧ va_P D vwCl ws' t.heap ∧ va_D (AQ ws) ws' ∧ va_F (AQ ws) st t
abbrev QN : Array Value → State → Outcome → State → Prop := fun _ _ _ _ => False
theorem gw_ot {w : Cond} (h : gw w = true) : vx_ot w = true := by
  unfold gw at h
  unfold vx_ot
  rw [Bool.or_eq_true] at h ⊢
  rcases h with h | h
  · exact Or.inr h
  · left; cases w <;> first | (cases h; done) | rfl
theorem metx_of {l : Launch} {y : MethodName} {cc : ByteArray} {maxL : Nat} {ret : Option FieldType} {rm : Room} {D : va_G} {ws ws' : va_W} {k : cK} {sa : Nat → Nat} {av : List Value} {ee : Nat}
    (hy : plainName y.cls = true) (hlen : (lg_sl av).length ≤ maxL)
    (body : ∀ (p : Program) (e : Env) (s : State) (m : MethodId) (below : List Frame) (meth : Method) (c : Code), Cx p s m meth c cc y.cls maxL ret → (∀ x ∈ c.exceptionTable.toList, False) → WH D ws k (AQ ws) s s.heap s.heap [] → XPm (AQ ws) sa s s.heap → ∀ ls : Array Slot, lv_has ls maxL (lv_args 0 av) →
      W p l e rm s m av.toArray below meth c s.heap [] 0 0 (vx_MQ below QN (XX D ws ws' ee) av.toArray s 1 6 (AQ ws)) (F0 m 0 ls [])) :
    vx_Met l y [.code y cc maxL ret] rm (PX D ws k sa av) QN (XX D ws ws' ee) 1 6 (AQ ws) := by
  refine vx_ofW (cc := cc) (maxL := maxL) (ret := ret) hy rfl ?_
  intro p e s m args below meth c s₁ B hml ht hv
  obtain ⟨⟨rfl, hK, hP, hD, hC⟩, hz⟩ := hv
  rw [lg_entry_eq]
  exact body p e s m below meth c ⟨B.exec, B.bytes, B.returns, hml, findClass_of_methodNamed B.named, B.notSynchronized⟩ ht ⟨hK, hP, hD, va_S.rf, hC⟩ hz _ (lv_entry av hlen)
section ExcRows
variable {p : Program} {l : Launch} {e : Env} {R : Room} {s : State} {m : MethodId} {args : Array Value} {below : List Frame} {meth : Method} {c : Code} {H : Heap} {locs : List Loc} {cells slots : Nat} {Q : State → Prop}
variable {D : va_G} {ws ws' ws0 : va_W} {k : cK} {A : Nat → Prop} {sa : Nat → Nat} {pc nL ee : Nat} {ls : Array Slot} {rest st0 : List Value} {cc : ByteArray} {own : String} {ret : Option FieldType}
theorem throw_x {cls text : String} {names : List String} {ik is ic si : Nat} (hC : Cx p s m meth c cc own nL ret) (hl : l.stackTraces = false) (hw : WH D ws' k (AQ ws0) s s.heap H locs) (hz : XPm (AQ ws0) sa s s.heap) (hstr : vk_R own is text si s)
    (hcls : Bundle.fit cls = true) (hnames : ∀ n ∈ names, Bundle.fit n = true) (hin : ∀ w ∈ Cond.classLink own ik cls :: Cond.initialized cls :: vx_atS own ic cls names, w ∈ GT) (hE : cls = EXn ee) (hls : ls.size = nL) (ht : ∀ x ∈ c.exceptionTable.toList, False)
    (d0 : decode cc pc = .ok (.new ik, 3)) (d3 : decode cc (pc + 3) = .ok (.dup, 1)) (d4 : decode cc (pc + 4) = .ok (.ldc is, 2)) (d6 : decode cc (pc + 6) = .ok (.invokespecial ic, 3)) (d9 : decode cc (pc + 9) = .ok (.athrow, 1))
    (hRframes : names.length + 3 < R.frames) (hRlocals : (rest.map fun v => v.category).sum + (13 * (names.length + 1) + 43) ≤ R.locals) (hRc : 0 + 1 ≤ R.cells ∧ 0 + 6 ≤ R.slots) :
    W p l e R s m args below meth c H locs 0 0 (vx_MQ below QN (XX D ws0 ws' ee) args s 1 6 (AQ ws0)) (F0 m pc ls rest) := by
  obtain ⟨hx, hb, hr, hml, hown, hlocks⟩ := hC
  obtain ⟨hK, hP, hD, hS, hT⟩ := hw
  have hts := hT.all args
  exact vx_throwS (sa := si) hx hb hl hown hcls hnames (hts _ (hin _ (List.mem_cons_self))) (hts _ (hin _ (List.mem_cons_of_mem _ List.mem_cons_self))) hstr (fun w h => hts _ (hin _ (List.mem_cons_of_mem _ (List.mem_cons_of_mem _ h))))
    (fun w h => gw_ot (List.mem_filter.mp (hin w h)).2) hz.1 hz.2.1 hS (hls.trans hml.symm) d0 d3 d4 d6 d9 (fun x h => (ht x h).elim) hRframes hRlocals hRc.1 hRc.2 hlocks
    (fun t hvm hsz hk => ⟨hE, hP.kept (fun i q h => hk q.1 ((hP i q h).lt)), hD, Nat.le_trans hS.1 hsz, fun q h1 h2 => (hk q (Nat.lt_of_lt_of_le h1 hS.1)).trans (hS.2.1 q h1 h2)⟩) hS.2.2 (Nat.le_refl _) (Nat.le_refl _)
theorem prex_of {av : List Value} (hw : WH D ws k A s s.heap H locs) (hz : XPm A sa s s.heap) : ∀ U : State, U.heap = H → s.WarmedH U.vm → PX D ws k sa av av.toArray U := by
  intro U hU hW
  refine ⟨pre_of hw U hU hW, ?_⟩
  rw [hU]
  exact hz.go hW hw.2.2.2.1.2.1 (fun q ⟨i, e, h⟩ => hw.2.2.1.2 i _ h)
variable {y : MethodName} {bytes : ByteArray} {maxL n index : Nat} {rt : Option FieldType} {rm : Room} {C host : String} {b : Addr} {As : List Value}
theorem runx_V (hC : Cx p s m meth c cc own nL ret) (hw : WH D ws k A s s.heap H locs) (hz : XPm A sa s s.heap) (hM : vx_Met l y [.code y bytes maxL rt] rm (PX D ws k sa (.ref b :: As)) QN (XX D ws ws' ee) 1 6 (AQ ws))
    (hl : Cond.methodLink own index y ∈ GT) (hi : Cond.instanceMethod y ∈ GT) (hs : Cond.selects C y y ∈ GT) (hini : Cond.initialized y.cls ∈ GT) (hcode : Cond.code y bytes maxL rt ∈ GT)
    (hd : y.cls ≠ "java/lang/invoke/MethodHandle" ∧ y.cls ≠ "java/lang/invoke/VarHandle" ∧ (parseMethodDescriptor y.desc).map (fun d => d.parameters.length) = some n)
    (hrc : rm.cells = 1 ∧ rm.slots = 6) (hR : rm.frames + 1 ≤ R.frames ∧ 8 + (maxL + 11) + rm.locals ≤ R.locals) (q0 : Nat) {ci : Nat} {T : u_T} {N : Nat} {fs : List Value} (he : ws[q0]? = some (b, .inr (ci, fs))) (hc : vwCl[ci]? = some (C, T, N))
    (hn : As.length = n) (hsize : ls.size = nL) (hstack : st0 = As.reverse ++ .ref b :: rest) (hW : (rest.map fun v => v.category).sum ≤ 8) (hdg : decode cc pc = .ok (.invokevirtual index, 3)) (hf : cells + 1 ≤ R.cells ∧ slots + 6 ≤ R.slots) :
    vx_Run p l e R s m args below meth c H locs cells slots 1 6 (F0 m pc ls st0) rest (QN (Value.ref b :: As).toArray) (XX D ws ws' ee) (AQ ws) := by
  obtain ⟨hx, hb, -, hml, hown, -⟩ := hC
  have ht := hw.2.2.2.2.all args
  exact vx_runV (bytes := bytes) (maxL := maxL) (ret := rt) ⟨hx, hb, hml, hown, ht⟩ hM ⟨callB_of n ht (gd_code hcode) rfl hrc.1 hrc.2 (ht _ hini) (ht _ hl) hd hR, ht _ hi, ht _ hs⟩
    ⟨PX.blind, va_recv hw.1 hw.2.1 hc he, prex_of hw hz⟩ rfl hn hsize hstack (lv_room hW) hdg hf
theorem runx_S (hC : Cx p s m meth c cc own nL ret) (hw : WH D ws k A s s.heap H locs) (hz : XPm A sa s s.heap) (hM : vx_Met l y [.code y bytes maxL rt] rm (PX D ws k sa As) QN (XX D ws ws' ee) 1 6 (AQ ws))
    (hl : Cond.methodLink own index y ∈ GT) (hs : Cond.static y ∈ GT) (hini : Cond.initialized y.cls ∈ GT) (hcode : Cond.code y bytes maxL rt ∈ GT)
    (hd : y.cls ≠ "java/lang/invoke/MethodHandle" ∧ y.cls ≠ "java/lang/invoke/VarHandle" ∧ (parseMethodDescriptor y.desc).map (fun d => d.parameters.length) = some n)
    (hrc : rm.cells = 1 ∧ rm.slots = 6) (hR : rm.frames + 1 ≤ R.frames ∧ 8 + (maxL + 11) + rm.locals ≤ R.locals)
    (hn : As.length = n) (hsize : ls.size = nL) (hstack : st0 = As.reverse ++ rest) (hW : (rest.map fun v => v.category).sum ≤ 8) (hdg : decode cc pc = .ok (.invokestatic index, 3)) (hf : cells + 1 ≤ R.cells ∧ slots + 6 ≤ R.slots) :
    vx_Run p l e R s m args below meth c H locs cells slots 1 6 (F0 m pc ls st0) rest (QN As.toArray) (XX D ws ws' ee) (AQ ws) := by
  obtain ⟨hx, hb, -, hml, hown, -⟩ := hC
  have ht := hw.2.2.2.2.all args
  exact vx_runS (bytes := bytes) (maxL := maxL) (ret := rt) ⟨hx, hb, hml, hown, ht⟩ hM ⟨callB_of n ht (gd_code hcode) rfl hrc.1 hrc.2 (ht _ hini) (ht _ hl) hd hR, ht _ hs⟩
    ⟨PX.blind, prex_of hw hz⟩ rfl hn hsize hstack (lv_room hW) hdg hf
/-- behind a call that throws -/
theorem go_x {H0 : Heap} {a : Array Value} (hr : vx_Run p l e R s m args below meth c H locs cells slots 1 6 (F0 m pc ls st0) rest (QN a) (XX D ws ws' ee) (AQ ws)) (hw : WH D ws k A s H0 H locs)
    (kx : ∀ (H1 : Heap) (locs1 : List Loc) (q9 : Addr) (ce : Cell), WH D ws' k A s H0 H1 locs1 → H1[q9]? = some ce → ce.vm = .none → s.vm.findClass (EXn ee) = some ce.cls → vx_W p l e R s m args below meth c H1 locs1 (cells + 1) (slots + 6) Q (F0 m pc ls rest) q9) :
    W p l e R s m args below meth c H locs cells slots Q (F0 m pc ls st0) := by
  intro T hT X
  rcases hr T hT X with ⟨v, st₀, t, T', L, h0, X', hL, e1, e2, hF, st⟩ | ⟨q, st₀, t, T', L, E, ce, h0, X', hL, e1, e2, ⟨hE, hP1, hD1, hF⟩, hce, hcv, hcl, st⟩
  · exact hF.elim
  · obtain ⟨hK, hP, hD, hS, hC⟩ := hw
    have hA : ∀ q, AQ ws q → A q := fun q ⟨i, e, h⟩ => hD.2 i _ h
    obtain ⟨k1, k2, k3⟩ := vx_keep (A0 := A) (A1 := AQ ws) h0 e1 hS (fun q _ h => hA q h) hA hL hF
    subst hE
    obtain ⟨t2, a1, b1⟩ := kx T'.heap (locs ++ L) q ce ⟨hK, by rw [e1]; exact hP1, hD1.weaken (fun _ q _ h => hA q.1 h), k3, hC⟩ (by rw [e1]; exact hce) hcv hcl T' rfl X'
    exact ⟨t2, st.trans a1, b1⟩
/-- it goes on to the caller -/
theorem out_x (hC : Cx p s m meth c cc own nL ret) (ht : ∀ x ∈ c.exceptionTable.toList, False) {q9 : Addr} {ce : Cell} (hw : WH D ws' k (AQ ws0) s s.heap H locs) (h1 : H[q9]? = some ce) (h2 : ce.vm = .none) (h3 : s.vm.findClass (EXn ee) = some ce.cls) :
    vx_W p l e R s m args below meth c H locs (0 + 1) (0 + 6) (vx_MQ below QN (XX D ws0 ws' ee) args s 1 6 (AQ ws0)) (F0 m pc ls rest) q9 :=
  vx_out (fun x h => (ht x h).elim) hC.2.2.2.2.2 h1 h2 h3 (fun t hT _ => ⟨rfl, by rw [hT]; exact hw.2.1, hw.2.2.1, hw.2.2.2.1.F hT⟩) hw.2.2.2.1.2.2 (Nat.le_refl _) (Nat.le_refl _)
end ExcRows
abbrev XR : Type := (Int32 ⊕ Nat) × St
def bx (x : Option XR) (f : Int32 → St → Option XR) : Option XR := match x with | none => none | some (.inr e, σ) => some (.inr e, σ) | some (.inl r, σ) => f r σ
theorem bx_o {x : Option XR} {f : Int32 → St → Option XR} {r : XR} (h : bx x f = some r) : (∃ a σ1, x = some (.inl a, σ1) ∧ f a σ1 = some r) ∨ (∃ e σ1, x = some (.inr e, σ1) ∧ r = (.inr e, σ1)) := by
  unfold bx at h
  split at h
  · cases h
  · cases h; exact Or.inr ⟨_, _, rfl, rfl⟩
  · exact Or.inl ⟨_, _, rfl, h⟩
theorem aw_0 : ∀ w ∈ Cond.classLink RX6 175 (EXn 0) :: Cond.initialized (EXn 0) :: vx_atS RX6 179 (EXn 0) ["java/lang/IndexOutOfBoundsException", "java/lang/RuntimeException", "java/lang/Exception"], w ∈ GT := by decide +kernel
theorem aw_1 : ∀ w ∈ Cond.classLink RX6 189 (EXn 1) :: Cond.initialized (EXn 1) :: vx_atS RX6 193 (EXn 1) ["java/lang/RuntimeException", "java/lang/Exception"], w ∈ GT := by decide +kernel

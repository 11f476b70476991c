/-! the class's store -/
def bn (key : Int64) : Nat := (jlushr (key * -7046029254386353131) 50).toBitVec.toNat
theorem bn_lt (key : Int64) : bn key < 16384 := by
  show bn key < 2 ^ 14
  apply Nat.lt_pow_two_of_testBit
  intro i hi
  show btl (jlushr (key * -7046029254386353131) (nI 50)) i = false
  rw [l_ushr (by omega), l_big (by omega)]
theorem bkt_bn (key : Int64) : bkt key = nI (bn key) := by
  have h := bn_lt key
  have e : jlushr (key * -7046029254386353131) 50 = lN (bn key) := by
    apply l_ext
    intro i hi
    rw [btl_lN (by omega)]
    rfl
  unfold bkt
  rw [e, lN_i]
theorem bucketOf_ok (N : Nat) (σ : St) (key : Int64) : f_X4_bucketOf N σ key = some (nI (bn key)) := by
  rw [← bkt_bn]; rfl
theorem sA_oth (σ : St) {a b : Nat} (i v : Int32) (h : b ≠ a) : (sA σ a i v).2.1 b = σ.2.1 b := if_neg h
theorem sL_row (σ : St) (a i : Nat) (v : Int64) (h : i < 2 ^ 31) : (sL σ a (nI i) v).2.2 a = vp_updL (σ.2.2 a) i v := by
  show (if a = a then vp_updL (σ.2.2 a) (nI i).toNatClampNeg v else σ.2.2 a) = _
  rw [if_pos rfl, nI_clamp h]
theorem sL_oth (σ : St) {a b : Nat} (i : Int32) (v : Int64) (h : b ≠ a) : (sL σ a i v).2.2 b = σ.2.2 b := if_neg h
theorem sI_oth (σ : St) {a b : Nat} (v : Int32) (h : b ≠ a) : (sI σ a v).1 b = σ.1 b := if_neg h
theorem sI_own (σ : St) (a : Nat) (v : Int32) : (sI σ a v).1 a = v := if_pos rfl
/-- what the store's doings leave alone -/
def FO (σ σ' : St) : Prop := (∀ j, j ≠ 12 → σ'.1 j = σ.1 j) ∧ (∀ b, b < 9 ∨ 13 < b → σ'.2.1 b = σ.2.1 b) ∧ ∀ b, b ≠ 0 → b ≠ 1 → σ'.2.2 b = σ.2.2 b
theorem FO.rf {σ : St} : FO σ σ := ⟨fun _ _ => rfl, fun _ _ => rfl, fun _ _ _ => rfl⟩
theorem FO.tr {σ σ1 σ2 : St} (h1 : FO σ σ1) (h2 : FO σ1 σ2) : FO σ σ2 := ⟨fun b hb => (h2.1 b hb).trans (h1.1 b hb), fun b hb => (h2.2.1 b hb).trans (h1.2.1 b hb), fun b hb hc => (h2.2.2 b hb hc).trans (h1.2.2 b hb hc)⟩
theorem FO.o {σ σ1 : St} {a : Nat} (ha : 9 ≤ a ∧ a ≤ 13) (h : O1 a σ σ1) : FO σ σ1 := ⟨fun j _ => by rw [h.1], fun b hb => h.2.1 b (by omega), fun b _ _ => by rw [h.2.2]⟩
theorem FO.l {σ : St} {a : Nat} (ha : a = 0 ∨ a = 1) (i : Int32) (v : Int64) : FO σ (sL σ a i v) := ⟨fun _ _ => rfl, fun _ _ => rfl, fun b h0 h1 => sL_oth σ i v (by omega)⟩
theorem FO.i {σ : St} (v : Int32) : FO σ (sI σ 12 v) := ⟨fun j hj => sI_oth σ v hj, fun _ _ => rfl, fun _ _ _ => rfl⟩
/-- the first one of a bucket below -/
def LK (ky : Nat → Int64) (B top l : Nat) : Prop := l ≤ top ∧ (∀ j, l ≤ j → j < top → bn (ky j) ≠ B) ∧ (0 < l → bn (ky (l - 1)) = B)
def CH (n : Nat) (ky : Nat → Int64) (hd nx : Nat → Int32) : Prop := (∀ B, B < 16384 → ∃ l, hd B = nI l ∧ LK ky B n l) ∧ ∀ k, k < n → ∃ l, nx k = nI l ∧ LK ky (bn (ky k)) k l
theorem CH_0 {ky : Nat → Int64} {hd nx : Nat → Int32} (h : ∀ B, B < 16384 → hd B = 0) : CH 0 ky hd nx := ⟨fun B hB => ⟨0, h B hB, Nat.le_refl 0, fun j _ h => by omega, fun h => by omega⟩, fun k hk => by omega⟩
theorem CH_RC {n : Nat} {σ : St} (hn : n ≤ 10000) (h12 : σ.1 12 = nI n) (h : CH n (σ.2.2 0) (σ.2.1 12) (σ.2.1 13)) : RC σ := by
  refine ⟨n, hn, h12, fun B hB hz => ?_⟩
  obtain ⟨l, e, h1, h2, h3⟩ := h.1 B hB
  rcases Nat.eq_zero_or_pos l with c | c
  · rw [e, c] at hz; exact absurd rfl hz
  · exact ⟨l - 1, by omega, by rw [bkt_bn, h3 c]⟩
theorem clear_ok {N : Nat} (hN : 100000 ≤ N) {σ0 : St} (hC : RC σ0) : ∃ σ', FO σ0 σ' ∧ σ'.1 12 = 0 ∧ (∀ B, B < 16384 → σ'.2.1 12 B = 0) ∧ f_X4_clear N σ0 = some σ' := by
  obtain ⟨cnt, hc, h12, hh⟩ := hC
  have key : ∀ (e n x : Nat) (σ : St), x + e = cnt → e < n → O1 12 σ0 σ → (∀ B, B < 16384 → σ.2.1 12 B ≠ 0 → ∃ s, x ≤ s ∧ s < cnt ∧ bkt (σ0.2.2 0 s) = nI B) → ∃ σ', FO σ0 σ' ∧ σ'.1 12 = 0 ∧ (∀ B, B < 16384 → σ'.2.1 12 B = 0) ∧ lp_X4_clear_2 N n σ (nI x) = some σ' := by
    intro e
    induction e with
    | zero =>
      intro n x σ hx hn o h
      obtain ⟨n, rfl⟩ : ∃ j, n = j + 1 := ⟨n - 1, by omega⟩
      refine ⟨sI σ 12 0, (FO.o (by omega) o).tr (FO.i 0), sI_own _ _ _, fun B hB => ?_, ?_⟩
      · apply Classical.byContradiction
        intro hz
        obtain ⟨s, c1, c2, -⟩ := h B hB hz
        omega
      · rw [lp_X4_clear_2, o.1, h12, if_pos (nI_le (by omega) (by omega)), nm_eq]
    | succ e ih =>
      intro n x σ hx hn o h
      obtain ⟨n, rfl⟩ : ∃ j, n = j + 1 := ⟨n - 1, by omega⟩
      have hb := bn_lt (σ0.2.2 0 x)
      rw [lp_X4_clear_2, o.1, h12, if_neg (nI_ge (by omega) (by omega)), gd_t (okx_nI (by omega) (by omega)), rl_nI _ _ (by omega), o.2.2, bucketOf_ok, bd1_some, gd_t (okx_nI hb (by omega)), nm_eq, nm_eq, nI_1]
      refine ih n (x + 1) _ (by omega) (by omega) (o.tr (O1.sA _ _)) (fun B hB hz => ?_)
      rw [sA_row _ _ _ _ (by omega)] at hz
      by_cases d : B = bn (σ0.2.2 0 x)
      · rw [d, pk_us] at hz; exact absurd rfl hz
      · rw [pk_un d] at hz
        obtain ⟨s, c1, c2, c3⟩ := h B hB hz
        refine ⟨s, ?_, c2, c3⟩
        rcases Nat.lt_or_ge x s with q | q
        · exact q
        · exfalso
          apply d
          rw [show s = x by omega, bkt_bn] at c3
          exact ((nI_eq (by omega) (by omega)).mp c3).symm
  exact key cnt N 0 σ0 (by omega) (by omega) O1.rf (fun B hB hz => by
    obtain ⟨s, c1, c2⟩ := hh B hB hz
    exact ⟨s, by omega, c1, c2⟩)
theorem holds_ok {N : Nat} (hN : 100000 ≤ N) {n : Nat} {σ : St} (hn : n ≤ 10000) (h12 : σ.1 12 = nI n) (hC : CH n (σ.2.2 0) (σ.2.1 12) (σ.2.1 13)) (key : Int64) : ∃ r, Yn r (∃ j, j < n ∧ σ.2.2 0 j = key) ∧ f_X4_holds N σ key = some r := by
  have lp : ∀ (f l t : Nat), l < f → t + l ≤ n → (∀ j, l ≤ j → j < n → σ.2.2 0 j ≠ key) → (0 < l → bn (σ.2.2 0 (l - 1)) = bn key) → ∃ r, Yn r (∃ j, j < n ∧ σ.2.2 0 j = key) ∧ lp_X4_holds_13 N σ key f (nI l) (nI t) = some r := by
    intro f
    induction f with
    | zero => intro l t h; omega
    | succ f ih =>
      intro l t hl ht h1 h2
      rw [lp_X4_holds_13, h12]
      rcases Nat.eq_zero_or_pos l with c | c
      · subst c
        refine ⟨0, Or.inr ⟨rfl, fun ⟨j, c1, c2⟩ => h1 j (by omega) c1 c2⟩, ?_⟩
        by_cases d : nI n ≤ nI t
        · rw [if_pos d]
        · rw [if_neg d, if_pos (show nI 0 = 0 from rfl)]
      · obtain ⟨l, rfl⟩ : ∃ j, l = j + 1 := ⟨l - 1, by omega⟩
        rw [Nat.add_sub_cancel] at h2
        have hb := h2 c
        rw [if_neg (nI_ge (by omega) (by omega)), if_neg (nI_ne0 c (by omega)), nI_pred, gd_t (okx_nI (by omega) (by omega)), rl_nI _ _ (by omega)]
        by_cases d : σ.2.2 0 l = key
        · rw [if_pos ((lg_eq _ _).mpr d)]
          exact ⟨1, Or.inl ⟨rfl, l, by omega, d⟩, rfl⟩
        · rw [if_neg (fun q => d ((lg_eq _ _).mp q)), gd_t (okx_nI (by omega) (by omega)), ra_nI _ _ (by omega)]
          obtain ⟨l', e, q1, q2, q3⟩ := hC.2 l (by omega)
          rw [e, nm_eq, nm_eq, nI_1]
          refine ih l' (t + 1) (by omega) (by omega) (fun j c1 c2 c3 => ?_) (fun q => by rw [q3 q, hb])
          rcases Nat.lt_trichotomy j l with z | z | z
          · exact q2 j c1 z (by rw [c3, hb])
          · rw [z] at c3; exact d c3
          · exact h1 j z c2 c3
  have hb := bn_lt key
  obtain ⟨l, e, q1, q2, q3⟩ := hC.1 (bn key) hb
  unfold f_X4_holds
  rw [bucketOf_ok, bd1_some, gd_t (okx_nI hb (by omega)), ra_nI _ _ (by omega), e, nm_eq]
  exact lp N l 0 (by omega) (by omega) (fun j c1 c2 c3 => q2 j c1 c2 (by rw [c3])) q3
/-- one more -/
def pu {β : Type} (Q : Nat → β) (n : Nat) (t : β) : Nat → β := fun j => if j = n then t else Q j
theorem pu_n {β : Type} (Q : Nat → β) (n : Nat) (t : β) : pu Q n t n = t := if_pos rfl
theorem pu_o {β : Type} (Q : Nat → β) {n j : Nat} (t : β) (h : j ≠ n) : pu Q n t j = Q j := if_neg h
theorem LK_congr {ky ky' : Nat → Int64} {B top l : Nat} (h : ∀ j, j < top → ky' j = ky j) (H : LK ky B top l) : LK ky' B top l := by
  obtain ⟨h1, h2, h3⟩ := H
  refine ⟨h1, fun j c1 c2 => by rw [h j c2]; exact h2 j c1 c2, fun c => by rw [h (l - 1) (by omega)]; exact h3 c⟩
theorem take_ok {N : Nat} {n : Nat} {σ : St} (hn : n < 10000) (h12 : σ.1 12 = nI n) (hC : CH n (σ.2.2 0) (σ.2.1 12) (σ.2.1 13)) (key lay : Int64) (a2 a3 : Int32) : ∃ σ', FO σ σ' ∧ σ'.1 12 = nI (n + 1) ∧ σ'.2.2 0 = vp_updL (σ.2.2 0) n key ∧ σ'.2.2 1 = vp_updL (σ.2.2 1) n lay ∧ σ'.2.1 10 = upd (σ.2.1 10) n a2 ∧ σ'.2.1 11 = upd (σ.2.1 11) n a3 ∧ CH (n + 1) (σ'.2.2 0) (σ'.2.1 12) (σ'.2.1 13) ∧ f_X4_take N σ key lay a2 a3 = some σ' := by
  have hb := bn_lt key
  obtain ⟨l0, el0, hl0⟩ := hC.1 (bn key) hb
  have on : okx (nI n) 10000 = true := okx_nI hn (by omega)
  have obk : okx (nI (bn key)) 16384 = true := okx_nI hb (by omega)
  have i12 : ∀ (ρ : St) (a : Nat) (i v : Int32), (sA ρ a i v).1 12 = ρ.1 12 := fun _ _ _ _ => rfl
  have l12 : ∀ (ρ : St) (a : Nat) (i : Int32) (v : Int64), (sL ρ a i v).1 12 = ρ.1 12 := fun _ _ _ _ => rfl
  let s1 := sL σ 0 (nI n) key
  let s2 := sL s1 1 (nI n) lay
  let s3 := sA s2 10 (nI n) a2
  let s4 := sA s3 11 (nI n) a3
  let s5 := sA s4 13 (nI n) (nI l0)
  let s6 := sI s5 12 (nI (n + 1))
  let s7 := sA s6 12 (nI (bn key)) (nI (n + 1))
  have r0 : s7.2.2 0 = vp_updL (σ.2.2 0) n key := by
    show (sL s1 1 (nI n) lay).2.2 0 = _
    rw [sL_oth _ _ _ (by omega)]
    exact sL_row _ _ _ _ (by omega)
  have r1 : s7.2.2 1 = vp_updL (σ.2.2 1) n lay := by
    show (sL s1 1 (nI n) lay).2.2 1 = _
    rw [sL_row _ _ _ _ (by omega)]
    rfl
  have r12 : s7.2.1 12 = upd (σ.2.1 12) (bn key) (nI (n + 1)) := by
    show (sA s6 12 (nI (bn key)) (nI (n + 1))).2.1 12 = _
    rw [sA_row _ _ _ _ (by omega)]
    show upd ((sA s4 13 (nI n) (nI l0)).2.1 12) _ _ = _
    rw [sA_oth _ _ _ (by omega)]
    show upd ((sA s3 11 (nI n) a3).2.1 12) _ _ = _
    rw [sA_oth _ _ _ (by omega)]
    show upd ((sA s2 10 (nI n) a2).2.1 12) _ _ = _
    rw [sA_oth _ _ _ (by omega)]
    rfl
  have r13 : s7.2.1 13 = upd (σ.2.1 13) n (nI l0) := by
    show (sA s6 12 (nI (bn key)) (nI (n + 1))).2.1 13 = _
    rw [sA_oth _ _ _ (by omega)]
    show (sA s4 13 (nI n) (nI l0)).2.1 13 = _
    rw [sA_row _ _ _ _ (by omega)]
    show upd ((sA s3 11 (nI n) a3).2.1 13) _ _ = _
    rw [sA_oth _ _ _ (by omega)]
    show upd ((sA s2 10 (nI n) a2).2.1 13) _ _ = _
    rw [sA_oth _ _ _ (by omega)]
    rfl
  have r10 : s7.2.1 10 = upd (σ.2.1 10) n a2 := by
    show (sA s6 12 (nI (bn key)) (nI (n + 1))).2.1 10 = _
    rw [sA_oth _ _ _ (by omega)]
    show (sA s4 13 (nI n) (nI l0)).2.1 10 = _
    rw [sA_oth _ _ _ (by omega)]
    show (sA s3 11 (nI n) a3).2.1 10 = _
    rw [sA_oth _ _ _ (by omega)]
    show (sA s2 10 (nI n) a2).2.1 10 = _
    rw [sA_row _ _ _ _ (by omega)]
    rfl
  have r11 : s7.2.1 11 = upd (σ.2.1 11) n a3 := by
    show (sA s6 12 (nI (bn key)) (nI (n + 1))).2.1 11 = _
    rw [sA_oth _ _ _ (by omega)]
    show (sA s4 13 (nI n) (nI l0)).2.1 11 = _
    rw [sA_oth _ _ _ (by omega)]
    show (sA s3 11 (nI n) a3).2.1 11 = _
    rw [sA_row _ _ _ _ (by omega)]
    show upd ((sA s2 10 (nI n) a2).2.1 11) _ _ = _
    rw [sA_oth _ _ _ (by omega)]
    rfl
  have hlt : ∀ j, j < n → vp_updL (σ.2.2 0) n key j = σ.2.2 0 j := fun j hj => pk_uLn (by omega)
  refine ⟨s7, ?_, (sI_own s5 12 (nI (n + 1)) : s6.1 12 = nI (n + 1)), r0, r1, r10, r11, ?_, ?_⟩
  · exact ((((((FO.l (by omega) _ _).tr (FO.l (by omega) _ _)).tr (FO.o (a := 10) (by omega) (O1.sA _ _))).tr (FO.o (a := 11) (by omega) (O1.sA _ _))).tr (FO.o (a := 13) (by omega) (O1.sA _ _))).tr (FO.i _)).tr (FO.o (a := 12) (by omega) (O1.sA _ _))
  · rw [r0, r12, r13]
    refine ⟨fun B hB => ?_, fun k hk => ?_⟩
    · by_cases d : B = bn key
      · refine ⟨n + 1, by rw [d, pk_us], Nat.le_refl _, fun j c1 c2 => by omega, fun _ => ?_⟩
        rw [Nat.add_sub_cancel, pk_uLs, d]
      · obtain ⟨l, e, h1, h2, h3⟩ := hC.1 B hB
        refine ⟨l, by rw [pk_un d]; exact e, by omega, fun j c1 c2 => ?_, fun c => ?_⟩
        · rcases Nat.lt_or_ge j n with z | z
          · rw [hlt j z]; exact h2 j c1 z
          · rw [show j = n by omega, pk_uLs]; exact fun q => d q.symm
        · rw [hlt (l - 1) (by omega)]; exact h3 c
    · rcases Nat.lt_or_ge k n with z | z
      · obtain ⟨l, e, h⟩ := hC.2 k z
        refine ⟨l, by rw [pk_un (by omega)]; exact e, ?_⟩
        rw [hlt k z]
        exact LK_congr (fun j hj => hlt j (by omega)) h
      · have ek : k = n := by omega
        subst ek
        refine ⟨l0, by rw [pk_us], ?_⟩
        rw [pk_uLs]
        exact LK_congr (fun j hj => hlt j (by omega)) hl0
  · unfold f_X4_take
    rw [h12, if_pos (show nI n < 10000 from nI_lt (b := 10000) hn (by omega)), bucketOf_ok, bd1_some, gd_t on, nm_eq, l12, h12, gd_t on, nm_eq, l12, l12, h12, gd_t on, nm_eq, i12, l12, l12, h12, gd_t on, nm_eq, i12, i12, l12, l12, h12, gd_t obk, gd_t on, ra_nI _ _ (by omega)]
    have hd : s4.2.1 12 (bn key) = nI l0 := by
      show (sA s3 11 (nI n) a3).2.1 12 (bn key) = _
      rw [sA_oth _ _ _ (by omega)]
      show (sA s2 10 (nI n) a2).2.1 12 (bn key) = _
      rw [sA_oth _ _ _ (by omega)]
      exact el0
    show nm (sA s4 13 (nI n) (s4.2.1 12 (bn key))) _ = _
    rw [hd, nm_eq]
    show nm (sI s5 12 (s5.1 12 + 1)) _ = _
    rw [show s5.1 12 = nI n from h12, nI_1, nm_eq, gd_t obk]
    rfl
/-! layouts -/
def lyr (p : Nat → Nat) : Nat → Nat → Nat
  | _, 0 => 0
  | k, e + 1 => lyr p (k + 1) e * 32 + p k
theorem lyr_s (p : Nat → Nat) (k e : Nat) : lyr p k (e + 1) = lyr p (k + 1) e * 32 + p k := rfl
theorem lyr_lt {p : Nat → Nat} {nb : Nat} (hp : ∀ b, b < nb → p b < 32) : ∀ e k, k + e ≤ nb → lyr p k e < 2 ^ (5 * e) := by
  intro e
  induction e with
  | zero => intro k _; exact Nat.one_pos
  | succ e ih =>
    intro k hk
    have h1 := ih (k + 1) (by omega)
    have h2 := hp k (by omega)
    rw [lyr_s, show 5 * (e + 1) = 5 * e + 5 by omega, Nat.pow_add]
    generalize 2 ^ (5 * e) = M at *
    omega
theorem lyr_lt8 {p : Nat → Nat} {nb : Nat} (hnb : nb ≤ 8) (hp : ∀ b, b < nb → p b < 32) {e k : Nat} (hk : k + e ≤ nb) : lyr p k e < 2 ^ 40 := Nat.lt_of_lt_of_le (lyr_lt hp e k hk) (Nat.pow_le_pow_right (by omega) (by omega))
theorem sub_m1 (x : Int32) : x + (-1) = x - 1 := (Int32.sub_eq_add_neg x 1).symm
theorem layout_ok {N : Nat} (hN : 100 ≤ N) {nb : Nat} {p : Nat → Nat} {σ : St} (hnb : nb ≤ 8) (h6 : σ.1 6 = nI nb) (h7 : ∀ b, b < nb → σ.2.1 7 b = nI (p b) - 1) (hp : ∀ b, b < nb → p b < 32) : f_X1_layoutOfPlaces N σ = some (lN (lyr p 0 nb)) := by
  have lp : ∀ (k n e : Nat), k + e = nb → k < n → lp_X1_layoutOfPlaces_12 N σ n (lN (lyr p k e)) (nI k - 1) = some (lN (lyr p 0 nb)) := by
    intro k
    induction k with
    | zero =>
      intro n e he hn
      obtain ⟨n, rfl⟩ : ∃ j, n = j + 1 := ⟨n - 1, by omega⟩
      rw [lp_X1_layoutOfPlaces_12, if_pos (show nI 0 - 1 < 0 by decide), show e = nb by omega]
    | succ k ih =>
      intro n e he hn
      obtain ⟨n, rfl⟩ : ∃ j, n = j + 1 := ⟨n - 1, by omega⟩
      have hk := hp k (by omega)
      have hl := lyr_lt8 hnb hp (show (k + 1) + e ≤ nb by omega)
      rw [lp_X1_layoutOfPlaces_12, nI_pred, if_neg (nI_pos (by omega)), gd_t (okx_nI (by omega) (by omega)), ra_nI _ _ (by omega), h7 k (by omega), Int32.sub_add_cancel, nI_l (by omega), lN_dig (by omega) hk, nm_eq, nm_eq, sub_m1]
      exact ih n (e + 1) (by omega) (by omega)
  unfold f_X1_layoutOfPlaces
  rw [h6, nm_eq]
  exact lp nb N 0 (by omega) (by omega)
/-- the class's store holds n states -/
def SC (nb : Nat) (α : Nat → Nat) (n : Nat) (S : Nat → Nat → Int32) (par mov : Nat → Int32) (σ : St) : Prop :=
  σ.1 12 = nI n ∧ (∀ j, j < n → (∃ K, CK nb α (fun b => pp (S j b)) K ∧ K < 2 ^ 40 ∧ σ.2.2 0 j = lN K) ∧ σ.2.2 1 j = lN (lyr (fun b => pp (S j b)) 0 nb) ∧ σ.2.1 10 j = par j ∧ σ.2.1 11 j = mov j) ∧ CH n (σ.2.2 0) (σ.2.1 12) (σ.2.1 13)
theorem SC_fr {nb n : Nat} {α : Nat → Nat} {S : Nat → Nat → Int32} {par mov : Nat → Int32} {σ σ' : St} (H : SC nb α n S par mov σ) (h12 : σ'.1 12 = σ.1 12) (r10 : σ'.2.1 10 = σ.2.1 10) (r11 : σ'.2.1 11 = σ.2.1 11) (r12 : σ'.2.1 12 = σ.2.1 12) (r13 : σ'.2.1 13 = σ.2.1 13) (l0 : σ'.2.2 0 = σ.2.2 0) (l1 : σ'.2.2 1 = σ.2.2 1) : SC nb α n S par mov σ' := by
  unfold SC at *
  rw [h12, r10, r11, r12, r13, l0, l1]
  exact H
theorem SC_o {nb n : Nat} {α : Nat → Nat} {S : Nat → Nat → Int32} {par mov : Nat → Int32} {σ σ' : St} {a : Nat} (ha : a ≤ 9) (H : SC nb α n S par mov σ) (o : O1 a σ σ') : SC nb α n S par mov σ' :=
  SC_fr H (by rw [o.1]) (o.2.1 10 (by omega)) (o.2.1 11 (by omega)) (o.2.1 12 (by omega)) (o.2.1 13 (by omega)) (by rw [o.2.2]) (by rw [o.2.2])
/-- the state has come up -/
def Has (nb : Nat) (α : Nat → Nat) (n : Nat) (S : Nat → Nat → Int32) (m : Nat → Int32) : Prop := ∃ j, j < n ∧ Eqv nb α (fun b => pp (S j b)) (fun b => pp (m b))
theorem offer_ok {N : Nat} (hN : 100000 ≤ N) {nb n most : Nat} {α : Nat → Nat} {S : Nat → Nat → Int32} {par mov m : Nat → Int32} {σ : St} (hnb : nb ≤ 8) (h6 : σ.1 6 = nI nb) (h5 : ∀ b, b < nb → σ.2.1 5 b = nI (α b) ∧ α b < 8) (h7 : ∀ b, b < nb → σ.2.1 7 b = plc (m b)) (hm : ∀ b, b < nb → inb (m b) 25) (hS : ∀ j, j < n → ∀ b, b < nb → inb (S j b) 25) (h9 : σ.1 9 = nI most) (hmost : most ≤ 10000) (hn : n ≤ most) (hC : SC nb α n S par mov σ) (a0 a1 : Int32) :
    (Has nb α n S m → ∃ σ', FO σ σ' ∧ SC nb α n S par mov σ' ∧ f_X1_offer N σ a0 a1 = some (1, σ')) ∧
    (¬ Has nb α n S m → n = most → ∃ σ', FO σ σ' ∧ SC nb α n S par mov σ' ∧ f_X1_offer N σ a0 a1 = some (-2, σ')) ∧
    (¬ Has nb α n S m → n < most → ∃ σ', FO σ σ' ∧ SC nb α (n + 1) (pu S n m) (pu par n a0) (pu mov n a1) σ' ∧ f_X1_offer N σ a0 a1 = if σ'.1 11 = 0 then some (1, σ') else bd1 (f_X2_firstOpen_a11 N σ') (fun r6 => if r6 = -1 then some (0, σ') else some (1, σ'))) := by
  have h7' : ∀ b, b < nb → σ.2.1 7 b = nI (pp (m b)) - 1 ∧ pp (m b) ≤ 25 := fun b hb => ⟨by rw [h7 b hb, plc_pp], pp_le (hm b hb)⟩
  obtain ⟨K, σ2, o2, ck, hK, e2⟩ := key_ok (N := N) (p := fun b => pp (m b)) (by omega) hnb h6 h5 h7'
  have hC2 : SC nb α n S par mov σ2 := SC_o (by omega) hC o2
  have f2 : FO σ σ2 := FO.o (by omega) o2
  obtain ⟨c12, cj, cch⟩ := hC2
  obtain ⟨r, yr, er⟩ := holds_ok (N := N) hN (show n ≤ 10000 by omega) c12 cch (lN K)
  have yr : Yn r (Has nb α n S m) := yr.congr (by
    constructor
    · rintro ⟨j, hj, e⟩
      obtain ⟨⟨K', k1, k2, k3⟩, -⟩ := cj j hj
      rw [k3] at e
      have := (pk_lEQ (by omega) (by omega)).mp e
      exact ⟨j, hj, (CK_iff (fun b hb => by have := pp_le (hS j hj b hb); omega) (fun b hb => by have := pp_le (hm b hb); omega) k1 ck).mp this⟩
    · rintro ⟨j, hj, e⟩
      obtain ⟨⟨K', k1, k2, k3⟩, -⟩ := cj j hj
      have := (CK_iff (fun b hb => by have := pp_le (hS j hj b hb); omega) (fun b hb => by have := pp_le (hm b hb); omega) k1 ck).mpr e
      exact ⟨j, hj, by rw [k3, this]⟩)
  have c9 : σ2.1 9 = nI most := by rw [o2.1]; exact h9
  refine ⟨fun h => ?_, fun h hmo => ?_, fun h hlt => ?_⟩
  · refine ⟨σ2, f2, ⟨c12, cj, cch⟩, ?_⟩
    rcases yr with ⟨q, _⟩ | ⟨_, q⟩
    · unfold f_X1_offer
      rw [e2, bd_some, er, bd1_some, q, if_neg (by decide)]
    · exact absurd h q
  · refine ⟨σ2, f2, ⟨c12, cj, cch⟩, ?_⟩
    rcases yr with ⟨_, q⟩ | ⟨q, _⟩
    · exact absurd q h
    · unfold f_X1_offer
      rw [e2, bd_some, er, bd1_some, q, if_pos rfl, c12, c9, if_neg (nI_nlt (by omega) (by omega))]
  · have el := layout_ok (N := N) (σ := σ2) (p := fun b => pp (m b)) (by omega) hnb (by rw [o2.1]; exact h6) (by rw [o2.2.1 7 (by omega)]; exact fun b hb => (h7' b hb).1) (fun b hb => by have := (h7' b hb).2; omega)
    obtain ⟨σ3, f3, d12, d0, d1, d10, d11, dch, e3⟩ := take_ok (N := N) (σ := σ2) (show n < 10000 by omega) c12 cch (lN K) (lN (lyr (fun b => pp (m b)) 0 nb)) a0 a1
    refine ⟨σ3, f2.tr f3, ⟨d12, fun j hj => ?_, dch⟩, ?_⟩
    · rw [d0, d1, d10, d11]
      by_cases z : j = n
      · subst z
        rw [pk_uLs, pk_uLs, pk_us, pk_us, pu_n, pu_n, pu_n]
        exact ⟨⟨K, ck, hK, rfl⟩, rfl, rfl, rfl⟩
      · rw [pk_uLn z, pk_uLn z, pk_un z, pk_un z, pu_o _ _ z, pu_o _ _ z, pu_o _ _ z]
        exact cj j (by omega)
    · rcases yr with ⟨_, q⟩ | ⟨q, _⟩
      · exact absurd q h
      · unfold f_X1_offer
        rw [e2, bd_some, er, bd1_some, q, if_pos rfl, c12, c9, if_pos (nI_lt hlt (by omega)), el, bd1_some, e3, bd1_some]

/-! the reference's shapes -/
def zI (z : Int) : Int32 := Int32.ofInt z
theorem zI_nI (n : Nat) : zI n = nI n := Int32.ofInt_eq_ofNat
theorem zI_add (a b : Int) : zI a + zI b = zI (a + b) := (Int32.ofInt_add a b).symm
theorem zI_1 (a : Int) : zI a + 1 = zI (a + 1) := zI_add a 1
theorem zI_toInt {z : Int} (h1 : -1000 ≤ z) (h2 : z ≤ 1000) : (zI z).toInt = z := Int32.toInt_ofInt_of_le (by omega) (by omega)
theorem zI_neg (n : Nat) : - nI n = zI (-(n : Int)) := Int32.neg_ofNat
theorem isIn_ok (N : Nat) {τ : St} {w h p : Nat} (t1 : τ.1 1 = nI w) (t2 : τ.1 2 = nI h) (hw : w < 6 ∧ 1 ≤ w) (hh : h < 6 ∧ 1 ≤ h) (hp : p < w * h) (a : Int32) {dx dy : Int} (x1 : -5 ≤ dx) (x2 : dx ≤ 5) (y1 : -5 ≤ dy) (y2 : dy ≤ 5) : ∃ r, Yn r (Cl w h a (((p % w : Nat) : Int) + dx) (((p / w : Nat) : Int) + dy)) ∧ f_X7_isIn N τ a (nI p) (zI dx) (zI dy) = some r := by
  have h25 := wh25 hw.1 hh.1
  have ew : ¬ nI w = 0 := nI_ne0 hw.2 (by omega)
  have er : jrem (nI p) (nI w) = nI (p % w) := by unfold jrem; exact pk_rem (by omega) hw.2 (by omega)
  have ed : nI p / nI w = nI (p / w) := pk_div (by omega) hw.2 (by omega)
  have m1 : p % w < w := Nat.mod_lt _ hw.2
  have m2 : p / w < h := Nat.div_lt_of_lt_mul hp
  have d0 : (0 : Int) ≤ ((p / w : Nat) : Int) := Int.natCast_nonneg _
  have d1 : (0 : Int) ≤ ((p % w : Nat) : Int) := Int.natCast_nonneg _
  unfold f_X7_isIn
  rw [t1, er, ed, gd_t (decide_eq_true ew), nm_eq, gd_t (decide_eq_true ew), nm_eq, ← zI_nI (p % w), ← zI_nI (p / w), zI_add, zI_add, isCell_nI N t1 t2 hw.1 hh.1, zI_toInt (by omega) (by omega), zI_toInt (by omega) (by omega), bd1_some]
  by_cases hc : 0 ≤ ((p % w : Nat) : Int) + dx ∧ ((p % w : Nat) : Int) + dx < w ∧ 0 ≤ ((p / w : Nat) : Int) + dy ∧ ((p / w : Nat) : Int) + dy < h
  · obtain ⟨u, hu⟩ := Int.eq_ofNat_of_zero_le hc.1
    obtain ⟨v, hv⟩ := Int.eq_ofNat_of_zero_le hc.2.2.1
    have hc' := hc
    rw [hu, hv] at hc' ⊢
    have hun : u < w := by omega
    have hvn : v < h := by omega
    have hlt := cell_no hun hvn
    rw [if_pos hc', if_neg (show ¬ (1 : Int32) = 0 by decide), zI_nI, zI_nI, cell_nI]
    have hC : Cl w h a (u : Int) (v : Int) ↔ bt a (w * v + u) = true := by
      unfold Cl
      rw [Int.toNat_natCast, Int.toNat_natCast]
      constructor
      · intro q; exact q.2.2.2.2
      · intro q; exact ⟨by omega, by omega, by omega, by omega, q⟩
    by_cases hb : bt a (w * v + u) = true
    · exact ⟨1, Or.inl ⟨rfl, hC.mpr hb⟩, by rw [if_pos ((shr1 (by omega)).mpr hb)]⟩
    · exact ⟨0, Or.inr ⟨rfl, fun q => hb (hC.mp q)⟩, by rw [if_neg (fun q => hb ((shr1 (by omega)).mp q))]⟩
  · rw [if_neg hc, if_pos rfl]
    exact ⟨0, Or.inr ⟨rfl, fun q => hc ⟨q.1, q.2.1, q.2.2.1, q.2.2.2.1⟩⟩, rfl⟩
/-- the cells of both at a distance from their least ones -/
def Gd (w h p q : Nat) (a b : Int32) (dx dy : Int) : Prop := Cl w h a (((p % w : Nat) : Int) + dx) (((p / w : Nat) : Int) + dy) ↔ Cl w h b (((q % w : Nat) : Int) + dx) (((q / w : Nat) : Int) + dy)
theorem sh53 (N : Nat) {τ : St} {w h p q : Nat} (t1 : τ.1 1 = nI w) (t2 : τ.1 2 = nI h) (hw : w < 6 ∧ 1 ≤ w) (hh : h < 6 ∧ 1 ≤ h) (hp : p < w * h) (hq : q < w * h) (a b : Int32) {dy : Int} (y1 : -5 ≤ dy) (y2 : dy ≤ 5) (K : Int32 → Option Int32) : ∀ (e n k : Nat), k + e = 2 * w + 1 → e < n →
    ((∀ k', k ≤ k' → k' ≤ 2 * w → Gd w h p q a b ((k' : Int) - w) dy) ∧ lp_X7_isShape_53 N τ a b (nI p) (nI q) (zI dy) K n (zI ((k : Int) - w)) = K (zI (dy + 1))) ∨ ((¬ ∀ k', k ≤ k' → k' ≤ 2 * w → Gd w h p q a b ((k' : Int) - w) dy) ∧ lp_X7_isShape_53 N τ a b (nI p) (nI q) (zI dy) K n (zI ((k : Int) - w)) = some 0) := by
  have hcmp : ∀ k : Nat, k ≤ 20 → (nI w < zI ((k : Int) - w) ↔ 2 * w < k) := by
    intro k hk
    rw [Int32.lt_iff_toInt_lt, nI_toInt (by omega), zI_toInt (by omega) (by omega)]
    omega
  intro e
  induction e with
  | zero =>
    intro n k hk hn
    obtain ⟨n, rfl⟩ : ∃ j, n = j + 1 := ⟨n - 1, by omega⟩
    left
    refine ⟨fun k' h1 h2 => by omega, ?_⟩
    rw [lp_X7_isShape_53, t1, if_pos ((hcmp k (by omega)).mpr (by omega)), nm_eq, zI_1]
  | succ e ih =>
    intro n k hk hn
    obtain ⟨n, rfl⟩ : ∃ j, n = j + 1 := ⟨n - 1, by omega⟩
    obtain ⟨r1, y1', e1⟩ := isIn_ok N t1 t2 hw hh hp a (dx := (k : Int) - w) (by omega) (by omega) y1 y2
    obtain ⟨r2, y2', e2⟩ := isIn_ok N t1 t2 hw hh hq b (dx := (k : Int) - w) (by omega) (by omega) y1 y2
    have hg : r1 = r2 ↔ Gd w h p q a b ((k : Int) - w) dy := by
      unfold Gd
      rcases y1' with ⟨q1, q2⟩ | ⟨q1, q2⟩ <;> rcases y2' with ⟨q3, q4⟩ | ⟨q3, q4⟩
      · rw [q1, q3]; exact ⟨fun _ => ⟨fun _ => q4, fun _ => q2⟩, fun _ => rfl⟩
      · rw [q1, q3]; exact ⟨fun h => absurd h (by decide), fun h => absurd (h.mp q2) q4⟩
      · rw [q1, q3]; exact ⟨fun h => absurd h (by decide), fun h => absurd (h.mpr q4) q2⟩
      · rw [q1, q3]; exact ⟨fun _ => ⟨fun h => absurd h q2, fun h => absurd h q4⟩, fun _ => rfl⟩
    rw [lp_X7_isShape_53, t1, if_neg (fun q => by have := (hcmp k (by omega)).mp q; omega), e1, bd1_some, e2, bd1_some]
    by_cases hr : r1 = r2
    · rw [if_pos hr, nm_eq, zI_1, show (k : Int) - w + 1 = ((k + 1 : Nat) : Int) - w by omega]
      rcases ih n (k + 1) (by omega) (by omega) with ⟨h1, h2⟩ | ⟨h1, h2⟩
      · left
        refine ⟨fun k' c1 c2 => ?_, h2⟩
        rcases Nat.lt_or_ge k k' with c | c
        · exact h1 k' c c2
        · rw [show k' = k by omega]; exact hg.mp hr
      · right
        exact ⟨fun hall => h1 (fun k' c1 c2 => hall k' (by omega) c2), h2⟩
    · rw [if_neg hr]
      right
      exact ⟨fun hall => hr (hg.mpr (hall k (Nat.le_refl _) (by omega))), rfl⟩
theorem sh37 {N : Nat} (hN : 100 ≤ N) {τ : St} {w h p q : Nat} (t1 : τ.1 1 = nI w) (t2 : τ.1 2 = nI h) (hw : w < 6 ∧ 1 ≤ w) (hh : h < 6 ∧ 1 ≤ h) (hp : p < w * h) (hq : q < w * h) (a b : Int32) : ∀ (e n j : Nat), j + e = 2 * h + 1 → e < n → ∃ r, Yn r (∀ j', j ≤ j' → j' ≤ 2 * h → ∀ k', 0 ≤ k' → k' ≤ 2 * w → Gd w h p q a b (((k' : Nat) : Int) - w) ((j' : Int) - h)) ∧ lp_X7_isShape_37 N τ a b (nI p) (nI q) n (zI ((j : Int) - h)) = some r := by
  have hcmp : ∀ k : Nat, k ≤ 20 → (nI h < zI ((k : Int) - h) ↔ 2 * h < k) := by
    intro k hk
    rw [Int32.lt_iff_toInt_lt, nI_toInt (by omega), zI_toInt (by omega) (by omega)]
    omega
  intro e
  induction e with
  | zero =>
    intro n j hj hn
    obtain ⟨n, rfl⟩ : ∃ j, n = j + 1 := ⟨n - 1, by omega⟩
    refine ⟨1, Or.inl ⟨rfl, fun j' h1 h2 => by omega⟩, ?_⟩
    rw [lp_X7_isShape_37, t2, if_pos ((hcmp j (by omega)).mpr (by omega))]
  | succ e ih =>
    intro n j hj hn
    obtain ⟨n, rfl⟩ : ∃ j, n = j + 1 := ⟨n - 1, by omega⟩
    have h0 : - nI w = zI (((0 : Nat) : Int) - w) := by rw [zI_neg]; congr 1; omega
    rw [lp_X7_isShape_37, t2, if_neg (fun z => by have := (hcmp j (by omega)).mp z; omega), t1, nm_eq, h0]
    rcases sh53 N t1 t2 hw hh hp hq a b (dy := (j : Int) - h) (by omega) (by omega) (fun v0 => lp_X7_isShape_37 N τ a b (nI p) (nI q) n v0) (2 * w + 1) N 0 (by omega) (by omega) with ⟨h1, h2⟩ | ⟨h1, h2⟩
    · rw [h2]
      show ∃ r, _ ∧ lp_X7_isShape_37 N τ a b (nI p) (nI q) n (zI ((j : Int) - h + 1)) = some r
      rw [show (j : Int) - h + 1 = ((j + 1 : Nat) : Int) - h by omega]
      obtain ⟨r, hr, e2⟩ := ih n (j + 1) (by omega) (by omega)
      refine ⟨r, hr.congr ?_, e2⟩
      constructor
      · intro hall j' c1 c2
        rcases Nat.lt_or_ge j j' with c | c
        · exact hall j' c c2
        · rw [show j' = j by omega]; exact h1
      · intro hall j' c1 c2
        exact hall j' (by omega) c2
    · rw [h2]
      exact ⟨0, Or.inr ⟨rfl, fun hall => h1 (hall j (Nat.le_refl _) (by omega))⟩, rfl⟩
theorem gd_iff {w h p q : Nat} {a b : Int32} (hw : w < 6 ∧ 1 ≤ w) (hh : h < 6 ∧ 1 ≤ h) (ha : inb a (w * h)) (hb : inb b (w * h)) (hp : low a p) (hq : low b q) : (∀ j', 0 ≤ j' → j' ≤ 2 * h → ∀ k', 0 ≤ k' → k' ≤ 2 * w → Gd w h p q a b (((k' : Nat) : Int) - w) (((j' : Nat) : Int) - h)) ↔ ∃ X Y, T2 w h a b X Y := by
  have hpl := low_lt hp ha
  have hql := low_lt hq hb
  have mp : p % w < w := Nat.mod_lt _ hw.2
  have mq : q % w < w := Nat.mod_lt _ hw.2
  have dp : p / w < h := Nat.div_lt_of_lt_mul hpl
  have dq : q / w < h := Nat.div_lt_of_lt_mul hql
  constructor
  · intro hall
    refine ⟨((q % w : Nat) : Int) - ((p % w : Nat) : Int), ((q / w : Nat) : Int) - ((p / w : Nat) : Int), fun x y => ?_⟩
    have key : ∀ dx dy : Int, -(w : Int) ≤ dx → dx ≤ w → -(h : Int) ≤ dy → dy ≤ h → Gd w h p q a b dx dy := by
      intro dx dy z1 z2 z3 z4
      have := hall (dy + h).toNat (by omega) (by omega) (dx + w).toNat (by omega) (by omega)
      rw [show (((dx + w).toNat : Nat) : Int) - w = dx by omega, show (((dy + h).toNat : Nat) : Int) - h = dy by omega] at this
      exact this
    have conv : ∀ (z1 : -(w : Int) ≤ x - ((p % w : Nat) : Int)) (z2 : x - ((p % w : Nat) : Int) ≤ w) (z3 : -(h : Int) ≤ y - ((p / w : Nat) : Int)) (z4 : y - ((p / w : Nat) : Int) ≤ h), Cl w h a x y ↔ Cl w h b (x + (((q % w : Nat) : Int) - ((p % w : Nat) : Int))) (y + (((q / w : Nat) : Int) - ((p / w : Nat) : Int))) := by
      intro z1 z2 z3 z4
      have := key _ _ z1 z2 z3 z4
      unfold Gd at this
      rw [show ((p % w : Nat) : Int) + (x - ((p % w : Nat) : Int)) = x by omega, show ((p / w : Nat) : Int) + (y - ((p / w : Nat) : Int)) = y by omega, show ((q % w : Nat) : Int) + (x - ((p % w : Nat) : Int)) = x + (((q % w : Nat) : Int) - ((p % w : Nat) : Int)) by omega, show ((q / w : Nat) : Int) + (y - ((p / w : Nat) : Int)) = y + (((q / w : Nat) : Int) - ((p / w : Nat) : Int)) by omega] at this
      exact this
    generalize p % w = pm at *
    generalize q % w = qm at *
    generalize p / w = pd at *
    generalize q / w = qd at *
    constructor
    · intro hc
      have c := hc
      obtain ⟨c1, c2, c3, c4, -⟩ := c
      exact (conv (by omega) (by omega) (by omega) (by omega)).mp hc
    · intro hc
      have c := hc
      obtain ⟨c1, c2, c3, c4, -⟩ := c
      exact (conv (by omega) (by omega) (by omega) (by omega)).mpr hc
  · rintro ⟨X, Y, ht⟩ j' _ _ k' _ _
    have cp := (Cl_of (h := h) hw.2 hpl).mp hp.2.1
    have cq := (Cl_of (h := h) hw.2 hql).mp hq.2.1
    obtain ⟨u, v, eu, ev, hu, hv, hbit, -⟩ := Cl_bit ((ht _ _).mp cp)
    obtain ⟨u', v', eu', ev', hu', hv', hbit', -⟩ := Cl_bit ((ht.sy _ _).mp cq)
    have l1 : q ≤ w * v + u := by
      rcases Nat.lt_or_ge (w * v + u) q with c | c
      · rw [hq.2.2 _ c] at hbit; cases hbit
      · exact c
    have l2 : p ≤ w * v' + u' := by
      rcases Nat.lt_or_ge (w * v' + u') p with c | c
      · rw [hp.2.2 _ c] at hbit'; cases hbit'
      · exact c
    have s1 : v + v' = p / w + q / w := by
      generalize p / w = pd at *
      generalize q / w = qd at *
      omega
    have s2 : u + u' = p % w + q % w := by
      generalize p % w = pm at *
      generalize q % w = qm at *
      omega
    have s3 : w * v + w * v' = w * (p / w) + w * (q / w) := by rw [← Nat.mul_add, ← Nat.mul_add, s1]
    have ep := Nat.div_add_mod p w
    have eq' := Nat.div_add_mod q w
    have hq2 : q = w * v + u := by
      generalize w * (p / w) = A1 at *
      generalize w * (q / w) = A2 at *
      generalize p % w = pm at *
      generalize q % w = qm at *
      generalize w * v = A3 at *
      generalize w * v' = A4 at *
      omega
    have eqm : q % w = u := by rw [hq2, Nat.mul_add_mod, Nat.mod_eq_of_lt hu]
    have eqd : q / w = v := by rw [hq2, Nat.mul_add_div (by omega), Nat.div_eq_of_lt hu, Nat.add_zero]
    unfold Gd
    rw [ht, eqm, eqd]
    rw [show ((p % w : Nat) : Int) + (((k' : Nat) : Int) - w) + X = (u : Int) + (((k' : Nat) : Int) - w) by rw [← eu]; omega, show ((p / w : Nat) : Int) + (((j' : Nat) : Int) - h) + Y = (v : Int) + (((j' : Nat) : Int) - h) by rw [← ev]; omega]
theorem isShape_ok {N : Nat} (hN : 100 ≤ N) {τ : St} {w h : Nat} (t1 : τ.1 1 = nI w) (t2 : τ.1 2 = nI h) (hw : w < 6 ∧ 1 ≤ w) (hh : h < 6 ∧ 1 ≤ h) {a b : Int32} (ha : inb a (w * h)) (hb : inb b (w * h)) : ∃ r, Yn r (Shp w h a b) ∧ f_X7_isShape N τ a b = some r := by
  have h25 := wh25 hw.1 hh.1
  unfold f_X7_isShape
  by_cases za : a = 0
  · rw [if_pos za]
    by_cases e : a = b
    · rw [if_pos e]
      exact ⟨1, Or.inl ⟨rfl, Or.inl ⟨za, by rw [← e]; exact za⟩⟩, rfl⟩
    · rw [if_neg e]
      refine ⟨0, Or.inr ⟨rfl, ?_⟩, rfl⟩
      rintro (⟨_, h2⟩ | ⟨h1, _⟩)
      · exact e (by rw [za, h2])
      · exact h1 za
  · rw [if_neg za]
    by_cases zb : b = 0
    · rw [if_pos zb, if_neg (fun e => za (by rw [e]; exact zb))]
      refine ⟨0, Or.inr ⟨rfl, ?_⟩, rfl⟩
      rintro (⟨h1, _⟩ | ⟨_, h2, _⟩)
      · exact za h1
      · exact h2 zb
    · obtain ⟨p, hp⟩ := low_ex za
      obtain ⟨q, hq⟩ := low_ex zb
      have hpl := low_lt hp ha
      have hql := low_lt hq hb
      rw [if_neg zb, placeOf_ok hN τ hp (by omega), bd1_some, placeOf_ok hN τ hq (by omega), bd1_some, nm_eq, t2, show - nI h = zI (((0 : Nat) : Int) - h) by rw [zI_neg]; congr 1; omega]
      obtain ⟨r, hr, e⟩ := sh37 hN t1 t2 hw hh hpl hql a b (2 * h + 1) N 0 (by omega) (by omega)
      refine ⟨r, hr.congr ((gd_iff hw hh ha hb hp hq).trans ?_), e⟩
      constructor
      · intro q; exact Or.inr ⟨za, zb, q⟩
      · rintro (⟨h1, _⟩ | ⟨_, _, h3⟩)
        · exact absurd h1 za
        · exact h3
/-! alike blocks -/
def AL (w h : Nat) (kd B : Nat → Int32) (k b : Nat) : Prop := kd k = kd b ∧ Shp w h (B k) (B b)
def IsA (w h : Nat) (kd B : Nat → Int32) (b a : Nat) : Prop := a ≤ b ∧ (a < b → AL w h kd B a b) ∧ ∀ k, k < a → ¬ AL w h kd B k b
theorem IsA_un {w h : Nat} {kd B : Nat → Int32} {b a a' : Nat} (h1 : IsA w h kd B b a) (h2 : IsA w h kd B b a') : a = a' := by
  rcases Nat.lt_trichotomy a a' with c | c | c
  · exact absurd (h1.2.1 (by have := h2.1; omega)) (h2.2.2 a c)
  · exact c
  · exact absurd (h2.2.1 (by have := h1.1; omega)) (h1.2.2 a' c)
theorem areAlike_ok {N : Nat} (hN : 100 ≤ N) {σ : St} {w h nb k b : Nat} (hw : w < 6 ∧ 1 ≤ w) (hh : h < 6 ∧ 1 ≤ h) (h0 : σ.1 0 = nI w) (h2 : σ.1 2 = eL w h) (h4 : σ.1 4 = eT w) (hnb : nb ≤ 8) (hin : ∀ b, b < nb → inb (σ.2.1 1 b) (w * h)) (hk : k < nb) (hb : b < nb) : ∃ r, Yn r (AL w h (σ.2.1 0) (σ.2.1 1) k b) ∧ f_X0_areAlike N σ (nI k) (nI b) = some r := by
  have ok : okx (nI k) 8 = true := okx_nI (by omega) (by omega)
  have ob : okx (nI b) 8 = true := okx_nI (by omega) (by omega)
  obtain ⟨ca, cb, e1, e2, e3, -⟩ := corn_iff hN hw hh h0 h2 h4 (hin k hk) (hin b hb)
  unfold f_X0_areAlike
  simp only [gd_t ok, gd_t ob, ra_nI _ _ (show k < 2 ^ 31 by omega), ra_nI _ _ (show b < 2 ^ 31 by omega), e1, e2, bd1_some]
  by_cases q : σ.2.1 0 k = σ.2.1 0 b
  · rw [if_pos q]
    by_cases c : ca = cb
    · exact ⟨1, Or.inl ⟨rfl, q, e3.mp c⟩, by rw [if_pos c]⟩
    · exact ⟨0, Or.inr ⟨rfl, fun z => c (e3.mpr z.2)⟩, by rw [if_neg c]⟩
  · exact ⟨0, Or.inr ⟨rfl, fun z => q z.1⟩, by rw [if_neg q]⟩
theorem fa15 {N : Nat} (hN : 100 ≤ N) {σ : St} {w h nb b : Nat} (hw : w < 6 ∧ 1 ≤ w) (hh : h < 6 ∧ 1 ≤ h) (h0 : σ.1 0 = nI w) (h2 : σ.1 2 = eL w h) (h4 : σ.1 4 = eT w) (hnb : nb ≤ 8) (hin : ∀ b, b < nb → inb (σ.2.1 1 b) (w * h)) (hb : b < nb) (K : St → Int32 → Option St) : ∀ (e n x : Nat), x + e = b → e < n → (∀ k, k < x → ¬ AL w h (σ.2.1 0) (σ.2.1 1) k b) → ∃ a, IsA w h (σ.2.1 0) (σ.2.1 1) b a ∧ lp_X1_findAlike_15 N σ (nI b) K n (nI x) = K (sA σ 5 (nI b) (nI a)) (nI (b + 1)) := by
  intro e
  induction e with
  | zero =>
    intro n x hx hn hno
    obtain ⟨n, rfl⟩ : ∃ j, n = j + 1 := ⟨n - 1, by omega⟩
    refine ⟨x, ⟨by omega, fun q => by omega, hno⟩, ?_⟩
    rw [lp_X1_findAlike_15, if_pos (nI_le (by omega) (by omega)), gd_t (okx_nI (by omega) (by omega)), nm_eq, nm_eq, nI_1]
  | succ e ih =>
    intro n x hx hn hno
    obtain ⟨n, rfl⟩ : ∃ j, n = j + 1 := ⟨n - 1, by omega⟩
    obtain ⟨r, hr, e1⟩ := areAlike_ok hN hw hh h0 h2 h4 hnb hin (show x < nb by omega) hb
    rw [lp_X1_findAlike_15, if_neg (nI_ge (by omega) (by omega)), e1, bd1_some, gd_t (okx_nI (by omega) (by omega)), nm_eq, nm_eq, nm_eq, nI_1, nI_1]
    rcases hr with ⟨r1, r2⟩ | ⟨r1, r2⟩
    · rw [r1, if_neg (show ¬ (1 : Int32) = 0 by decide)]
      exact ⟨x, ⟨by omega, fun _ => r2, hno⟩, rfl⟩
    · rw [r1, if_pos rfl]
      exact ih n (x + 1) (by omega) (by omega) (fun k hk => by
        rcases Nat.lt_or_ge k x with c | c
        · exact hno k c
        · rw [show k = x by omega]; exact r2)
theorem findAlike_ok {N : Nat} (hN : 100 ≤ N) {σ0 : St} {w h nb : Nat} (hw : w < 6 ∧ 1 ≤ w) (hh : h < 6 ∧ 1 ≤ h) (h0 : σ0.1 0 = nI w) (h2 : σ0.1 2 = eL w h) (h4 : σ0.1 4 = eT w) (h6 : σ0.1 6 = nI nb) (hnb : nb ≤ 8) (hin : ∀ b, b < nb → inb (σ0.2.1 1 b) (w * h)) : ∃ σ', O1 5 σ0 σ' ∧ (∀ b, b < nb → ∃ a, σ'.2.1 5 b = nI a ∧ IsA w h (σ0.2.1 0) (σ0.2.1 1) b a) ∧ f_X1_findAlike N σ0 = some σ' := by
  have key : ∀ (e n b : Nat) (σ : St), b + e = nb → e < n → O1 5 σ0 σ → (∀ b', b' < b → ∃ a, σ.2.1 5 b' = nI a ∧ IsA w h (σ0.2.1 0) (σ0.2.1 1) b' a) → ∃ σ', O1 5 σ0 σ' ∧ (∀ b, b < nb → ∃ a, σ'.2.1 5 b = nI a ∧ IsA w h (σ0.2.1 0) (σ0.2.1 1) b a) ∧ lp_X1_findAlike_2 N n σ (nI b) = some σ' := by
    intro e
    induction e with
    | zero =>
      intro n b σ hb hn o hd
      obtain ⟨n, rfl⟩ : ∃ j, n = j + 1 := ⟨n - 1, by omega⟩
      exact ⟨σ, o, fun b' hb' => hd b' (by omega), by rw [lp_X1_findAlike_2, o.1, h6, if_pos (nI_le (by omega) (by omega))]⟩
    | succ e ih =>
      intro n b σ hb hn o hd
      obtain ⟨n, rfl⟩ : ∃ j, n = j + 1 := ⟨n - 1, by omega⟩
      have r0 := o.2.1 0 (by omega)
      have r1 := o.2.1 1 (by omega)
      obtain ⟨a, ha, e1⟩ := fa15 hN (σ := σ) (nb := nb) hw hh (by rw [o.1]; exact h0) (by rw [o.1]; exact h2) (by rw [o.1]; exact h4) hnb (by rw [r1]; exact hin) (show b < nb by omega) (fun v0 v1 => lp_X1_findAlike_2 N n v0 v1) b N 0 (by omega) (by omega) (fun k hk => by omega)
      have e1 : lp_X1_findAlike_15 N σ (nI b) (fun v0 v1 => lp_X1_findAlike_2 N n v0 v1) N 0 = _ := e1
      rw [lp_X1_findAlike_2, o.1, h6, if_neg (nI_ge (by omega) (by omega)), e1]
      rw [r0, r1] at ha
      exact ih n (b + 1) _ (by omega) (by omega) (o.tr (O1.sA _ _)) (fun b' hb' => by
        rw [sA_row _ _ _ _ (by omega)]
        by_cases c : b' = b
        · rw [c, pk_us]; exact ⟨a, rfl, ha⟩
        · rw [pk_un c]; exact hd b' (by omega))
  exact key nb N 0 σ0 (by omega) (by omega) O1.rf (fun b hb => by omega)
theorem lk21 {N : Nat} (hN : 100 ≤ N) {τ0 : St} {w h nb b : Nat} (hw : w < 6 ∧ 1 ≤ w) (hh : h < 6 ∧ 1 ≤ h) (t1 : τ0.1 1 = nI w) (t2 : τ0.1 2 = nI h) (hnb : nb ≤ 8) (hin : ∀ b, b < nb → inb (τ0.2.1 1 b) (w * h)) (hb : b < nb) (R : Nat → Int32) (K : St → Int32 → Option St) : ∀ (j n a : Nat) (τ : St), j ≤ b → j < n → O1 9 τ0 τ → τ.2.1 9 b = nI a → (∀ b', b' < b → τ.2.1 9 b' = R b') → (j ≤ a ∧ a ≤ b ∧ (a < b → AL w h (τ0.2.1 0) (τ0.2.1 1) a b) ∧ ∀ k, j ≤ k → k < a → ¬ AL w h (τ0.2.1 0) (τ0.2.1 1) k b) → ∃ τ' a', O1 9 τ0 τ' ∧ τ'.2.1 9 b = nI a' ∧ (∀ b', b' < b → τ'.2.1 9 b' = R b') ∧ IsA w h (τ0.2.1 0) (τ0.2.1 1) b a' ∧ lp_X7_liken_21 N (nI b) K n τ (nI j - 1) = K τ' (nI (b + 1)) := by
  intro j
  induction j with
  | zero =>
    intro n a τ hj hn o h9 hR hI
    obtain ⟨n, rfl⟩ : ∃ j, n = j + 1 := ⟨n - 1, by omega⟩
    refine ⟨τ, a, o, h9, hR, ⟨hI.2.1, hI.2.2.1, fun k hk => hI.2.2.2 k (by omega) hk⟩, ?_⟩
    rw [lp_X7_liken_21, if_pos (show nI 0 - 1 < 0 by decide), nm_eq, nI_1]
  | succ j ih =>
    intro n a τ hj hn o h9 hR hI
    obtain ⟨n, rfl⟩ : ∃ j, n = j + 1 := ⟨n - 1, by omega⟩
    have oj : okx (nI j) 8 = true := okx_nI (by omega) (by omega)
    have ob : okx (nI b) 8 = true := okx_nI (by omega) (by omega)
    have r0 := o.2.1 0 (by omega)
    have r1 := o.2.1 1 (by omega)
    obtain ⟨r, hr, e1⟩ := isShape_ok hN (τ := τ) (by rw [o.1]; exact t1) (by rw [o.1]; exact t2) hw hh (hin j (by omega)) (hin b hb)
    have em : nI j + (-1) = nI j - 1 := by rw [Int32.sub_eq_add_neg]
    rw [nI_pred, lp_X7_liken_21, if_neg (nI_pos (by omega))]
    simp only [gd_t oj, gd_t ob, ra_nI _ _ (show j < 2 ^ 31 by omega), ra_nI _ _ (show b < 2 ^ 31 by omega), r0, r1, e1, bd1_some, nm_eq, em]
    have skip : ¬ AL w h (τ0.2.1 0) (τ0.2.1 1) j b → ∃ τ' a', O1 9 τ0 τ' ∧ τ'.2.1 9 b = nI a' ∧ (∀ b', b' < b → τ'.2.1 9 b' = R b') ∧ IsA w h (τ0.2.1 0) (τ0.2.1 1) b a' ∧ lp_X7_liken_21 N (nI b) K n τ (nI j - 1) = K τ' (nI (b + 1)) := by
      intro hno
      refine ih n a τ (by omega) (by omega) o h9 hR ⟨by omega, hI.2.1, hI.2.2.1, fun k c1 c2 => ?_⟩
      rcases Nat.lt_or_ge j k with c | c
      · exact hI.2.2.2 k c c2
      · rw [show k = j by omega]; exact hno
    by_cases q : τ0.2.1 0 j = τ0.2.1 0 b
    · rw [if_pos q]
      rcases hr with ⟨y1, y2⟩ | ⟨y1, y2⟩
      · rw [y1, if_neg (show ¬ (1 : Int32) = 0 by decide)]
        refine ih n j _ (by omega) (by omega) (o.tr (O1.sA _ _)) ?_ ?_ ⟨by omega, by omega, fun _ => ⟨q, y2⟩, fun k c1 c2 => by omega⟩
        · rw [sA_row _ _ _ _ (by omega)]; exact pk_us
        · intro b' hb'
          rw [sA_row _ _ _ _ (by omega), pk_un (by omega)]; exact hR b' hb'
      · rw [y1, if_pos rfl]
        exact skip (fun z => y2 z.2)
    · rw [if_neg q]
      exact skip (fun z => q z.1)
theorem liken_ok {N : Nat} (hN : 100 ≤ N) {τ0 : St} {w h nb : Nat} (hw : w < 6 ∧ 1 ≤ w) (hh : h < 6 ∧ 1 ≤ h) (t1 : τ0.1 1 = nI w) (t2 : τ0.1 2 = nI h) (t4 : τ0.1 4 = nI nb) (hnb : nb ≤ 8) (hin : ∀ b, b < nb → inb (τ0.2.1 1 b) (w * h)) : ∃ τ', O1 9 τ0 τ' ∧ (∀ b, b < nb → ∃ a, τ'.2.1 9 b = nI a ∧ IsA w h (τ0.2.1 0) (τ0.2.1 1) b a) ∧ f_X7_liken N τ0 = some τ' := by
  have key : ∀ (e n b : Nat) (τ : St), b + e = nb → e < n → O1 9 τ0 τ → (∀ b', b' < b → ∃ a, τ.2.1 9 b' = nI a ∧ IsA w h (τ0.2.1 0) (τ0.2.1 1) b' a) → ∃ τ', O1 9 τ0 τ' ∧ (∀ b, b < nb → ∃ a, τ'.2.1 9 b = nI a ∧ IsA w h (τ0.2.1 0) (τ0.2.1 1) b a) ∧ lp_X7_liken_2 N n τ (nI b) = some τ' := by
    intro e
    induction e with
    | zero =>
      intro n b τ hb hn o hd
      obtain ⟨n, rfl⟩ : ∃ j, n = j + 1 := ⟨n - 1, by omega⟩
      exact ⟨τ, o, fun b' hb' => hd b' (by omega), by rw [lp_X7_liken_2, o.1, t4, if_pos (nI_le (by omega) (by omega))]⟩
    | succ e ih =>
      intro n b τ hb hn o hd
      obtain ⟨n, rfl⟩ : ∃ j, n = j + 1 := ⟨n - 1, by omega⟩
      have us : (sA τ 9 (nI b) (nI b)).2.1 9 b = nI b := by rw [sA_row _ _ _ _ (by omega)]; exact pk_us
      have un : ∀ b', b' ≠ b → (sA τ 9 (nI b) (nI b)).2.1 9 b' = τ.2.1 9 b' := fun b' hb' => by rw [sA_row _ _ _ _ (by omega)]; exact pk_un hb'
      obtain ⟨τ1, a, o1, q1, q2, q3, q4⟩ := lk21 hN (τ0 := τ0) hw hh t1 t2 hnb hin (show b < nb by omega) (τ.2.1 9) (fun v0 v1 => lp_X7_liken_2 N n v0 v1) b N b (sA τ 9 (nI b) (nI b)) (Nat.le_refl _) (by omega) (o.tr (O1.sA _ _)) us (fun b' hb' => un b' (by omega)) ⟨Nat.le_refl _, Nat.le_refl _, fun q => by omega, fun k c1 c2 => by omega⟩
      rw [lp_X7_liken_2, o.1, t4, if_neg (nI_ge (by omega) (by omega)), gd_t (okx_nI (by omega) (by omega)), nm_eq, nm_eq, q4]
      exact ih n (b + 1) τ1 (by omega) (by omega) o1 (fun b' hb' => by
        by_cases c : b' = b
        · rw [c]; exact ⟨a, q1, q3⟩
        · rw [q2 b' (by omega)]; exact hd b' (by omega))
  exact key nb N 0 τ0 (by omega) (by omega) O1.rf (fun b hb => by omega)
/-- blocks of one kind that are alike have one odd number -/
theorem AL_core {w h : Nat} {kd B : Nat → Int32} {k b : Nat} (hw : w < 6 ∧ 1 ≤ w) (hh : h < 6 ∧ 1 ≤ h) (hk : inb (B k) (w * h)) (hb : inb (B b) (w * h)) (hA : AL w h kd B k b) : (B k = 0 ∧ B b = 0) ∨ ∃ c lk lb, c % 2 = 1 ∧ num (B k) = c * 2 ^ lk ∧ num (B b) = c * 2 ^ lb := by
  by_cases z : B k = 0
  · rcases hA.2 with ⟨h1, h2⟩ | ⟨h1, _⟩
    · exact Or.inl ⟨h1, h2⟩
    · exact absurd z h1
  · right
    obtain ⟨ca, cb, -, -, e3, e4⟩ := corn_iff (N := 100) (by omega) (σ := (fun j => if j = 0 then nI w else if j = 2 then eL w h else eT w, fun _ _ => 0, fun _ _ => 0)) hw hh rfl rfl rfl hk hb
    exact e4 (e3.mpr hA.2) z

/-! the search. First: a block's mask as an odd number times a power of two -/
theorem num_lt_inb {m : Int32} {n : Nat} (h : inb m n) : num m < 2 ^ n := by
  apply Nat.lt_pow_two_of_testBit
  intro i hi
  rw [← bt_num]
  rcases Nat.lt_or_ge i 32 with c | c
  · exact h i c hi
  · exact b_big c
theorem num_0 : num 0 = 0 := by decide
theorem num_inj {a b : Int32} (h : num a = num b) : a = b := by rw [← nI_num a, ← nI_num b, h]
theorem low_num {m : Int32} {l : Nat} (h : low m l) : ∃ c, c % 2 = 1 ∧ num m = c * 2 ^ l := by
  refine ⟨num m / 2 ^ l, ?_, ?_⟩
  · have h1 : (num m / 2 ^ l).testBit 0 = true := by
      rw [Nat.testBit_div_two_pow, Nat.zero_add]
      exact h.2.1
    rw [Nat.testBit_zero] at h1
    exact of_decide_eq_true h1
  · have h1 : num m % 2 ^ l = 0 := by
      apply Nat.eq_of_testBit_eq
      intro i
      rw [Nat.testBit_mod_two_pow, Nat.zero_testBit]
      rcases Nat.lt_or_ge i l with c | c
      · rw [← bt_num, h.2.2 i c, Bool.and_false]
      · rw [decide_eq_false (by omega), Bool.false_and]
    have h2 := Nat.div_add_mod (num m) (2 ^ l)
    rw [h1, Nat.add_zero, Nat.mul_comm] at h2
    exact h2.symm
theorem num_low {m : Int32} {c l : Nat} (hc : c % 2 = 1) (h : num m = c * 2 ^ l) : low m l := by
  have tb : ∀ i, bt m i = (decide (i ≥ l) && c.testBit (i - l)) := by
    intro i
    rw [bt_num, h, ← Nat.shiftLeft_eq, Nat.testBit_shiftLeft]
  have hb : bt m l = true := by
    rw [tb, decide_eq_true (Nat.le_refl l), Nat.sub_self, Nat.testBit_zero, decide_eq_true hc]
    rfl
  refine ⟨?_, hb, ?_⟩
  · rcases Nat.lt_or_ge l 32 with e | e
    · exact e
    · rw [b_big e] at hb; cases hb
  · intro i hi
    rw [tb, decide_eq_false (by omega), Bool.false_and]
theorem odd_un {c c' l l' : Nat} {m : Int32} (h1 : c % 2 = 1) (h2 : c' % 2 = 1) (e1 : num m = c * 2 ^ l) (e2 : num m = c' * 2 ^ l') : c = c' ∧ l = l' := by
  have hl : l = l' := low_fun (num_low h1 e1) (num_low h2 e2)
  subst hl
  rw [e1] at e2
  exact ⟨Nat.eq_of_mul_eq_mul_right (Nat.two_pow_pos l) e2, rfl⟩
theorem shl_num {m : Int32} {k : Nat} (hk : k < 32) (h : num m * 2 ^ k < 2 ^ 32) : num (jshl m (nI k)) = num m * 2 ^ k := by
  show (m <<< (nI k &&& 31)).toBitVec.toNat = _
  rw [pk_shl m (nI k &&& 31) k (s_l k hk)]
  exact Nat.mod_eq_of_lt h
theorem ushr_num {m : Int32} {k : Nat} (hk : k < 32) : num (jushr m (nI k)) = num m / 2 ^ k := pk_ushr m (nI k) k (s_u k hk)
theorem pow_split {c l k : Nat} (h : k ≤ l) : c * 2 ^ l / 2 ^ k = c * 2 ^ (l - k) := by
  rw [show l = (l - k) + k by omega, Nat.pow_add, ← Nat.mul_assoc, Nat.mul_div_cancel _ (Nat.two_pow_pos k), show l - k + k - k = l - k by omega]
/-- a step keeps the odd number -/
theorem mv_core {w h way c l : Nat} {m : Int32} (hw : w < 6 ∧ 1 ≤ w) (hh : h < 6 ∧ 1 ≤ h) (hy : way < 4) (hm : inb m (w * h)) (hz : mv w h way m ≠ 0) (hc : c % 2 = 1) (he : num m = c * 2 ^ l) : ∃ l', num (mv w h way m) = c * 2 ^ l' := by
  have h25 := wh25 hw.1 hh.1
  obtain ⟨e0, e1⟩ := mv_nz hz
  have hlow := num_low hc he
  have hl := low_lt hlow hm
  have ho := (edge0_iff hw hh hy).mp e0 l hl hlow.2.1
  obtain ⟨l2, l3⟩ := tgt_le hw ho
  have hn := num_lt_inb hm
  have hn25 : num m < 2 ^ 25 := Nat.lt_of_lt_of_le hn (Nat.pow_le_pow_right (by omega) h25)
  have hbig : ∀ k, k ≤ 5 → num m * 2 ^ k < 2 ^ 32 := by
    intro k hk
    have : 2 ^ k ≤ 2 ^ 5 := Nat.pow_le_pow_right (by omega) hk
    calc num m * 2 ^ k ≤ num m * 2 ^ 5 := Nat.mul_le_mul_left _ this
      _ < 2 ^ 32 := by omega
  rw [e1]
  rcases (show way = 0 ∨ way = 1 ∨ way = 2 ∨ way = 3 by omega) with rfl | rfl | rfl | rfl
  · refine ⟨l + 1, ?_⟩
    show num (jshl m (nI 1)) = _
    rw [shl_num (by omega) (hbig 1 (by omega)), he, Nat.mul_assoc, ← Nat.pow_add]
  · refine ⟨l + w, ?_⟩
    show num (jshl m (nI w)) = _
    rw [shl_num (by omega) (hbig w (by omega)), he, Nat.mul_assoc, ← Nat.pow_add]
  · refine ⟨l - 1, ?_⟩
    show num (jushr m (nI 1)) = _
    rw [ushr_num (by omega), he, pow_split (l2 rfl)]
  · refine ⟨l - w, ?_⟩
    show num (jushr m (nI w)) = _
    rw [ushr_num (by omega), he, pow_split (l3 rfl)]
/-! a mask's cells on the board -/
def Cl (w h : Nat) (m : Int32) (x y : Int) : Prop := 0 ≤ x ∧ x < w ∧ 0 ≤ y ∧ y < h ∧ bt m (w * y.toNat + x.toNat) = true
def T2 (w h : Nat) (a b : Int32) (X Y : Int) : Prop := ∀ x y : Int, Cl w h a x y ↔ Cl w h b (x + X) (y + Y)
theorem T2.rf (w h : Nat) (a : Int32) : T2 w h a a 0 0 := fun x y => by rw [Int.add_zero, Int.add_zero]
theorem T2.tr {w h : Nat} {a b c : Int32} {X Y X' Y' : Int} (h1 : T2 w h a b X Y) (h2 : T2 w h b c X' Y') : T2 w h a c (X + X') (Y + Y') := fun x y => by
  rw [h1 x y, h2 (x + X) (y + Y), Int.add_assoc, Int.add_assoc]
theorem T2.sy {w h : Nat} {a b : Int32} {X Y : Int} (h1 : T2 w h a b X Y) : T2 w h b a (-X) (-Y) := fun x y => by
  have := h1 (x + -X) (y + -Y)
  rw [show x + -X + X = x by omega, show y + -Y + Y = y by omega] at this
  exact this.symm
/-- the cell of a bit -/
theorem Cl_of {w h i : Nat} {m : Int32} (hw : 1 ≤ w) (hi : i < w * h) : bt m i = true ↔ Cl w h m ((i % w : Nat) : Int) ((i / w : Nat) : Int) := by
  have h1 : i % w < w := Nat.mod_lt _ hw
  have h2 : i / w < h := Nat.div_lt_of_lt_mul hi
  have h3 : w * (((i / w : Nat) : Int)).toNat + (((i % w : Nat) : Int)).toNat = i := by
    rw [Int.toNat_natCast, Int.toNat_natCast]
    exact Nat.div_add_mod i w
  unfold Cl
  rw [h3]
  constructor
  · intro h; exact ⟨Int.natCast_nonneg _, Int.ofNat_lt.mpr h1, Int.natCast_nonneg _, Int.ofNat_lt.mpr h2, h⟩
  · intro h; exact h.2.2.2.2
theorem Cl_bit {w h : Nat} {m : Int32} {x y : Int} (h1 : Cl w h m x y) : ∃ a b : Nat, x = a ∧ y = b ∧ a < w ∧ b < h ∧ bt m (w * b + a) = true ∧ w * b + a < w * h := by
  obtain ⟨p1, p2, p3, p4, p5⟩ := h1
  refine ⟨x.toNat, y.toNat, by omega, by omega, by omega, by omega, p5, cell_no (by omega) (by omega)⟩
theorem T2_eq {w h : Nat} {a b : Int32} (hw : 1 ≤ w) (ha : inb a (w * h)) (hb : inb b (w * h)) (h1 : T2 w h a b 0 0) : a = b := by
  apply b_ext
  intro i hi
  rcases Nat.lt_or_ge i (w * h) with c | c
  · apply Bool.eq_iff_iff.mpr
    rw [Cl_of hw c, Cl_of hw c, h1, Int.add_zero, Int.add_zero]
  · rw [ha i hi c, hb i hi c]
theorem ushr_inb {m : Int32} {n k : Nat} (hk : k < 32) (h : inb m n) : inb (jushr m (nI k)) n := by
  intro i hi hn
  rw [bt_ushr hk]
  rcases Nat.lt_or_ge (k + i) 32 with c | c
  · exact h (k + i) c (by omega)
  · exact b_big c
/-- pushed up by a row -/
theorem up_T2 {w h : Nat} {m : Int32} (hw : w < 6 ∧ 1 ≤ w) (hh : h < 6 ∧ 1 ≤ h) (hm : inb m (w * h)) (he : m &&& eT w = 0) : T2 w h m (jushr m (nI w)) 0 (-1) := by
  have h25 := wh25 hw.1 hh.1
  have hok := (edge0_iff (way := 3) hw hh (by omega)).mp he
  intro x y
  constructor
  · intro hc
    obtain ⟨a, b, rfl, rfl, ha, hb, hbit, hl⟩ := Cl_bit hc
    have h1 : 1 ≤ (w * b + a) / w := hok _ hl hbit
    have h2 : (w * b + a) / w = b := by
      rw [Nat.mul_add_div (by omega), Nat.div_eq_of_lt ha, Nat.add_zero]
    obtain ⟨b, rfl⟩ : ∃ j, b = j + 1 := ⟨b - 1, by omega⟩
    refine ⟨by omega, by omega, by omega, by omega, ?_⟩
    rw [show (((b + 1 : Nat) : Int) + -1).toNat = b by omega, show (((a : Nat) : Int) + 0).toNat = a by omega, bt_ushr (by omega)]
    rw [Nat.mul_add, Nat.mul_one] at hbit
    rw [show w + (w * b + a) = w * b + w + a by omega]
    exact hbit
  · rintro ⟨p1, p2, p3, p4, p5⟩
    rw [bt_ushr (by omega)] at p5
    obtain ⟨a, ha⟩ := Int.eq_ofNat_of_zero_le p1
    obtain ⟨b, hb⟩ := Int.eq_ofNat_of_zero_le p3
    have e5 : w + (w * (y + -1).toNat + (x + 0).toNat) = w * (b + 1) + a := by
      rw [show (y + -1).toNat = b by omega, show (x + 0).toNat = a by omega, Nat.mul_add, Nat.mul_one]
      omega
    rw [e5] at p5
    have hlt := inb_lt hm p5
    have hb2 : b + 1 < h := by
      rcases Nat.lt_or_ge (b + 1) h with c | c
      · exact c
      · have := Nat.mul_le_mul_left w c
        omega
    refine ⟨by omega, by omega, by omega, by omega, ?_⟩
    rw [show y.toNat = b + 1 by omega, show x.toNat = a by omega]
    exact p5
/-- pushed left by a column -/
theorem lf_T2 {w h : Nat} {m : Int32} (hw : w < 6 ∧ 1 ≤ w) (hh : h < 6 ∧ 1 ≤ h) (hm : inb m (w * h)) (he : m &&& eL w h = 0) : T2 w h m (jushr m (nI 1)) (-1) 0 := by
  have h25 := wh25 hw.1 hh.1
  have hok := (edge0_iff (way := 2) hw hh (by omega)).mp he
  intro x y
  constructor
  · intro hc
    obtain ⟨a, b, rfl, rfl, ha, hb, hbit, hl⟩ := Cl_bit hc
    have h1 : 1 ≤ (w * b + a) % w := hok _ hl hbit
    have h2 : (w * b + a) % w = a := by
      rw [Nat.mul_add_mod, Nat.mod_eq_of_lt ha]
    obtain ⟨a, rfl⟩ : ∃ j, a = j + 1 := ⟨a - 1, by omega⟩
    refine ⟨by omega, by omega, by omega, by omega, ?_⟩
    rw [show (((a + 1 : Nat) : Int) + -1).toNat = a by omega, show (((b : Nat) : Int) + 0).toNat = b by omega, bt_ushr (by omega), show 1 + (w * b + a) = w * b + (a + 1) by omega]
    exact hbit
  · rintro ⟨p1, p2, p3, p4, p5⟩
    rw [bt_ushr (by omega)] at p5
    obtain ⟨a, ha⟩ := Int.eq_ofNat_of_zero_le p1
    obtain ⟨b, hb⟩ := Int.eq_ofNat_of_zero_le p3
    rw [show (y + 0).toNat = b by omega, show (x + -1).toNat = a by omega, show 1 + (w * b + a) = w * b + (a + 1) by omega] at p5
    have hlt := inb_lt hm p5
    have h1 : 1 ≤ (w * b + (a + 1)) % w := hok _ hlt p5
    have ha2 : a + 1 < w := by
      rcases Nat.lt_or_ge (a + 1) w with c | c
      · exact c
      · have : a + 1 = w := by omega
        rw [this, Nat.mul_add_mod, Nat.mod_self] at h1
        omega
    refine ⟨by omega, by omega, by omega, by omega, ?_⟩
    rw [show y.toNat = b by omega, show x.toNat = a + 1 by omega]
    exact p5
/-- what cornered keeps -/
def Cr (w h : Nat) (m c : Int32) : Prop := inb c (w * h) ∧ (∃ X Y, T2 w h m c X Y) ∧ ∀ k l, k % 2 = 1 → num m = k * 2 ^ l → ∃ l', num c = k * 2 ^ l'
theorem Cr.rf {w h : Nat} {m : Int32} (hm : inb m (w * h)) : Cr w h m m := ⟨hm, ⟨0, 0, T2.rf w h m⟩, fun k l _ e => ⟨l, e⟩⟩
theorem Cr.tr {w h : Nat} {a b c : Int32} (h1 : Cr w h a b) (h2 : Cr w h b c) : Cr w h a c := by
  obtain ⟨-, ⟨X, Y, t1⟩, n1⟩ := h1
  obtain ⟨i2, ⟨X', Y', t2⟩, n2⟩ := h2
  refine ⟨i2, ⟨_, _, t1.tr t2⟩, fun k l hk e => ?_⟩
  obtain ⟨l', e'⟩ := n1 k l hk e
  exact n2 k l' hk e'
theorem up_Cr {w h : Nat} {m : Int32} (hw : w < 6 ∧ 1 ≤ w) (hh : h < 6 ∧ 1 ≤ h) (hm : inb m (w * h)) (he : m &&& eT w = 0) : Cr w h m (jushr m (nI w)) := by
  refine ⟨ushr_inb (by omega) hm, ⟨_, _, up_T2 hw hh hm he⟩, fun k l hk e => ⟨l - w, ?_⟩⟩
  have hlow := num_low hk e
  have ho := (edge0_iff (way := 3) hw hh (by omega)).mp he l (low_lt hlow hm) hlow.2.1
  rw [ushr_num (by omega), e, pow_split ((tgt_le hw ho).2 rfl)]
theorem lf_Cr {w h : Nat} {m : Int32} (hw : w < 6 ∧ 1 ≤ w) (hh : h < 6 ∧ 1 ≤ h) (hm : inb m (w * h)) (he : m &&& eL w h = 0) : Cr w h m (jushr m (nI 1)) := by
  refine ⟨ushr_inb (by omega) hm, ⟨_, _, lf_T2 hw hh hm he⟩, fun k l hk e => ⟨l - 1, ?_⟩⟩
  have hlow := num_low hk e
  have ho := (edge0_iff (way := 2) hw hh (by omega)).mp he l (low_lt hlow hm) hlow.2.1
  rw [ushr_num (by omega), e, pow_split ((tgt_le hw ho).1 rfl)]
theorem edge_cell {w h way : Nat} {m : Int32} (hw : w < 6 ∧ 1 ≤ w) (hh : h < 6 ∧ 1 ≤ h) (hy : way < 4) (hm : inb m (w * h)) (he : ¬ m &&& edge w h way = 0) : ∃ c, c < w * h ∧ bt m c = true ∧ ¬ okc w h way c := by
  apply Classical.byContradiction
  intro hn
  apply he
  rw [edge0_iff hw hh hy]
  intro c hc hb
  apply Classical.byContradiction
  intro ho
  exact hn ⟨c, hc, hb, ho⟩
theorem top_cell {w h : Nat} {m : Int32} (hw : w < 6 ∧ 1 ≤ w) (hh : h < 6 ∧ 1 ≤ h) (hm : inb m (w * h)) (he : ¬ m &&& eT w = 0) : ∃ x, Cl w h m x 0 := by
  obtain ⟨c, hc, hb, ho⟩ := edge_cell (way := 3) hw hh (by omega) hm he
  have ho : ¬ 1 ≤ c / w := ho
  refine ⟨((c % w : Nat) : Int), ?_⟩
  have := (Cl_of (h := h) hw.2 hc).mp hb
  rw [Nat.eq_zero_of_not_pos ho] at this
  exact this
theorem left_cell {w h : Nat} {m : Int32} (hw : w < 6 ∧ 1 ≤ w) (hh : h < 6 ∧ 1 ≤ h) (hm : inb m (w * h)) (he : ¬ m &&& eL w h = 0) : ∃ y, Cl w h m 0 y := by
  obtain ⟨c, hc, hb, ho⟩ := edge_cell (way := 2) hw hh (by omega) hm he
  have ho : ¬ 1 ≤ c % w := ho
  refine ⟨((c / w : Nat) : Int), ?_⟩
  have := (Cl_of (h := h) hw.2 hc).mp hb
  rw [Nat.eq_zero_of_not_pos ho] at this
  exact this
theorem corn33 {N : Nat} {σ : St} {w h : Nat} (hw : w < 6 ∧ 1 ≤ w) (hh : h < 6 ∧ 1 ≤ h) (h2 : σ.1 2 = eL w h) : ∀ (r n d : Nat) (m : Int32), d + r ≤ 4 → r + 1 < n → inb m (w * h) → (∃ x, Cl w h m x 0) → (∃ x y, Cl w h m x y ∧ x ≤ r) → ∃ c, lp_X0_cornered_33 N σ n m (nI d) = some c ∧ Cr w h m c ∧ (∃ x, Cl w h c x 0) ∧ ∃ y, Cl w h c 0 y := by
  intro r
  induction r with
  | zero =>
    intro n d m hd hn hm ht hr
    obtain ⟨n, rfl⟩ : ∃ j, n = j + 1 := ⟨n - 1, by omega⟩
    obtain ⟨x, y, hc, hx⟩ := hr
    have h0 : x = 0 := by have := hc.1; omega
    subst h0
    have he : ¬ m &&& eL w h = 0 := by
      intro he
      have := (lf_T2 hw hh hm he 0 y).mp hc
      have := this.1
      omega
    refine ⟨m, ?_, Cr.rf hm, ht, y, hc⟩
    rw [lp_X0_cornered_33, if_neg (show ¬ (5 : Int32) ≤ nI d from nI_ge (b := 5) (by omega) (by omega)), h2, if_neg he]
  | succ r ih =>
    intro n d m hd hn hm ht hr
    obtain ⟨n, rfl⟩ : ∃ j, n = j + 1 := ⟨n - 1, by omega⟩
    rw [lp_X0_cornered_33, if_neg (show ¬ (5 : Int32) ≤ nI d from nI_ge (b := 5) (by omega) (by omega)), h2]
    by_cases he : m &&& eL w h = 0
    · rw [if_pos he, nm_eq, nm_eq, nI_1]
      have hcr := lf_Cr hw hh hm he
      have ht2 := lf_T2 hw hh hm he
      obtain ⟨x0, hx0⟩ := ht
      obtain ⟨x, y, hc, hx⟩ := hr
      obtain ⟨c, e1, e2, e3, e4⟩ := ih n (d + 1) (jushr m (nI 1)) (by omega) (by omega) hcr.1 ⟨x0 + -1, by have := (ht2 x0 0).mp hx0; rw [Int.add_zero] at this; exact this⟩ ⟨x + -1, y + 0, (ht2 x y).mp hc, by omega⟩
      exact ⟨c, e1, hcr.tr e2, e3, e4⟩
    · rw [if_neg he]
      exact ⟨m, rfl, Cr.rf hm, ht, left_cell hw hh hm he⟩
theorem corn4 {N : Nat} (hN : 100 ≤ N) {σ : St} {w h : Nat} (hw : w < 6 ∧ 1 ≤ w) (hh : h < 6 ∧ 1 ≤ h) (h0 : σ.1 0 = nI w) (h2 : σ.1 2 = eL w h) (h4 : σ.1 4 = eT w) : ∀ (r n d : Nat) (m : Int32), d + r ≤ 4 → r + 1 < n → inb m (w * h) → (∃ x y, Cl w h m x y ∧ y ≤ r) → ∃ c, lp_X0_cornered_4 N σ n m (nI d) = some c ∧ Cr w h m c ∧ (∃ x, Cl w h c x 0) ∧ ∃ y, Cl w h c 0 y := by
  have fin : ∀ m : Int32, inb m (w * h) → (∃ x, Cl w h m x 0) → ∃ c, lp_X0_cornered_33 N σ N m 0 = some c ∧ Cr w h m c ∧ (∃ x, Cl w h c x 0) ∧ ∃ y, Cl w h c 0 y := by
    intro m hm ht
    obtain ⟨x, hx⟩ := ht
    exact corn33 hw hh h2 4 N 0 m (by omega) (by omega) hm ⟨x, hx⟩ ⟨x, 0, hx, by have := hx.2.1; omega⟩
  intro r
  induction r with
  | zero =>
    intro n d m hd hn hm hr
    obtain ⟨n, rfl⟩ : ∃ j, n = j + 1 := ⟨n - 1, by omega⟩
    obtain ⟨x, y, hc, hy⟩ := hr
    have hy0 : y = 0 := by have := hc.2.2.1; omega
    subst hy0
    have he : ¬ m &&& eT w = 0 := by
      intro he
      have := (up_T2 hw hh hm he x 0).mp hc
      have := this.2.2.1
      omega
    rw [lp_X0_cornered_4, if_neg (show ¬ (5 : Int32) ≤ nI d from nI_ge (b := 5) (by omega) (by omega)), h4, if_neg he]
    exact fin m hm ⟨x, hc⟩
  | succ r ih =>
    intro n d m hd hn hm hr
    obtain ⟨n, rfl⟩ : ∃ j, n = j + 1 := ⟨n - 1, by omega⟩
    rw [lp_X0_cornered_4, if_neg (show ¬ (5 : Int32) ≤ nI d from nI_ge (b := 5) (by omega) (by omega)), h4]
    by_cases he : m &&& eT w = 0
    · rw [if_pos he, nm_eq, nm_eq, nI_1, h0]
      have hcr := up_Cr hw hh hm he
      have ht2 := up_T2 hw hh hm he
      obtain ⟨x, y, hc, hx⟩ := hr
      obtain ⟨c, e1, e2, e3, e4⟩ := ih n (d + 1) (jushr m (nI w)) (by omega) (by omega) hcr.1 ⟨x + 0, y + -1, (ht2 x y).mp hc, by omega⟩
      exact ⟨c, e1, hcr.tr e2, e3, e4⟩
    · rw [if_neg he]
      exact fin m hm (top_cell hw hh hm he)
theorem corn_ok {N : Nat} (hN : 100 ≤ N) {σ : St} {w h : Nat} (hw : w < 6 ∧ 1 ≤ w) (hh : h < 6 ∧ 1 ≤ h) (h0 : σ.1 0 = nI w) (h2 : σ.1 2 = eL w h) (h4 : σ.1 4 = eT w) {m : Int32} (hm : inb m (w * h)) (hz : m ≠ 0) : ∃ c, f_X0_cornered N σ m = some c ∧ Cr w h m c ∧ (∃ x, Cl w h c x 0) ∧ ∃ y, Cl w h c 0 y := by
  obtain ⟨i, hi, hb⟩ := nz_iff.mp hz
  have hl := inb_lt hm hb
  have hc := (Cl_of (h := h) hw.2 hl).mp hb
  exact corn4 hN hw hh h0 h2 h4 4 N 0 m (by omega) (by omega) hm ⟨_, _, hc, by have := hc.2.2.2.1; omega⟩
theorem and_0 (x : Int32) : (0 : Int32) &&& x = 0 := by apply b_ext; intro i _; rw [b_and, b_0]; rfl
theorem ushr_0 {k : Nat} (hk : k < 32) : jushr 0 (nI k) = 0 := by apply b_ext; intro i _; rw [bt_ushr hk, b_0, b_0]
theorem corn_0 {N : Nat} (hN : 100 ≤ N) {σ : St} {w : Nat} (hw : w < 6 ∧ 1 ≤ w) (h0 : σ.1 0 = nI w) : f_X0_cornered N σ 0 = some 0 := by
  have a : ∀ (r n d : Nat), d + r = 5 → r < n → lp_X0_cornered_33 N σ n 0 (nI d) = some 0 := by
    intro r
    induction r with
    | zero =>
      intro n d hd hn
      obtain ⟨n, rfl⟩ : ∃ j, n = j + 1 := ⟨n - 1, by omega⟩
      rw [lp_X0_cornered_33, if_pos (show (5 : Int32) ≤ nI d from nI_le (a := 5) (by omega) (by omega))]
    | succ r ih =>
      intro n d hd hn
      obtain ⟨n, rfl⟩ : ∃ j, n = j + 1 := ⟨n - 1, by omega⟩
      rw [lp_X0_cornered_33, if_neg (show ¬ (5 : Int32) ≤ nI d from nI_ge (b := 5) (by omega) (by omega)), if_pos (and_0 _), nm_eq, nm_eq, nI_1, show jushr 0 1 = 0 from ushr_0 (k := 1) (by omega)]
      exact ih n (d + 1) (by omega) (by omega)
  have b : ∀ (r n d : Nat), d + r = 5 → r < n → lp_X0_cornered_4 N σ n 0 (nI d) = some 0 := by
    intro r
    induction r with
    | zero =>
      intro n d hd hn
      obtain ⟨n, rfl⟩ : ∃ j, n = j + 1 := ⟨n - 1, by omega⟩
      rw [lp_X0_cornered_4, if_pos (show (5 : Int32) ≤ nI d from nI_le (a := 5) (by omega) (by omega))]
      exact a 5 N 0 (by omega) (by omega)
    | succ r ih =>
      intro n d hd hn
      obtain ⟨n, rfl⟩ : ∃ j, n = j + 1 := ⟨n - 1, by omega⟩
      rw [lp_X0_cornered_4, if_neg (show ¬ (5 : Int32) ≤ nI d from nI_ge (b := 5) (by omega) (by omega)), if_pos (and_0 _), nm_eq, nm_eq, nI_1, h0, ushr_0 (by omega)]
      exact ih n (d + 1) (by omega) (by omega)
  exact b 5 N 0 (by omega) (by omega)
/-- both in the corner, and one a shift of the other: the same -/
theorem corn_un {w h : Nat} {a b : Int32} {X Y : Int} (hw : 1 ≤ w) (ha : inb a (w * h)) (hb : inb b (w * h)) (ha1 : ∃ x, Cl w h a x 0) (ha2 : ∃ y, Cl w h a 0 y) (hb1 : ∃ x, Cl w h b x 0) (hb2 : ∃ y, Cl w h b 0 y) (ht : T2 w h a b X Y) : a = b := by
  obtain ⟨x1, p1⟩ := ha1
  obtain ⟨y1, p2⟩ := ha2
  obtain ⟨x2, p3⟩ := hb1
  obtain ⟨y2, p4⟩ := hb2
  have q1 := ((ht x1 0).mp p1).2.2.1
  have q2 := ((ht 0 y1).mp p2).1
  have q3 := ((ht.sy x2 0).mp p3).2.2.1
  have q4 := ((ht.sy 0 y2).mp p4).1
  have eX : X = 0 := by omega
  have eY : Y = 0 := by omega
  subst eX
  subst eY
  exact T2_eq hw ha hb ht
/-- alike shapes -/
def Shp (w h : Nat) (a b : Int32) : Prop := (a = 0 ∧ b = 0) ∨ (a ≠ 0 ∧ b ≠ 0 ∧ ∃ X Y, T2 w h a b X Y)
theorem corn_iff {N : Nat} (hN : 100 ≤ N) {σ : St} {w h : Nat} (hw : w < 6 ∧ 1 ≤ w) (hh : h < 6 ∧ 1 ≤ h) (h0 : σ.1 0 = nI w) (h2 : σ.1 2 = eL w h) (h4 : σ.1 4 = eT w) {a b : Int32} (ha : inb a (w * h)) (hb : inb b (w * h)) :
    ∃ ca cb, f_X0_cornered N σ a = some ca ∧ f_X0_cornered N σ b = some cb ∧ (ca = cb ↔ Shp w h a b) ∧ (ca = cb → a ≠ 0 → ∃ k la lb, k % 2 = 1 ∧ num a = k * 2 ^ la ∧ num b = k * 2 ^ lb) := by
  have nzc : ∀ {c : Int32}, (∃ x, Cl w h c x 0) → c ≠ 0 := by
    rintro c ⟨x, hx⟩ e
    have := hx.2.2.2.2
    rw [e, b_0] at this
    cases this
  by_cases za : a = 0
  · by_cases zb : b = 0
    · subst za; subst zb
      exact ⟨0, 0, corn_0 hN hw h0, corn_0 hN hw h0, ⟨fun _ => Or.inl ⟨rfl, rfl⟩, fun _ => rfl⟩, fun _ h => absurd rfl h⟩
    · subst za
      obtain ⟨cb, b1, b2, b3, b4⟩ := corn_ok hN hw hh h0 h2 h4 hb zb
      refine ⟨0, cb, corn_0 hN hw h0, b1, ⟨fun e => absurd e.symm (nzc b3), ?_⟩, fun _ h => absurd rfl h⟩
      rintro (⟨_, h⟩ | ⟨h, _⟩)
      · exact absurd h zb
      · exact absurd rfl h
  · obtain ⟨ca, a1, a2, a3, a4⟩ := corn_ok hN hw hh h0 h2 h4 ha za
    by_cases zb : b = 0
    · subst zb
      refine ⟨ca, 0, a1, corn_0 hN hw h0, ⟨fun e => absurd e (nzc a3), ?_⟩, fun e => absurd e (nzc a3)⟩
      rintro (⟨h, _⟩ | ⟨_, h, _⟩)
      · exact absurd h za
      · exact absurd rfl h
    · obtain ⟨cb, b1, b2, b3, b4⟩ := corn_ok hN hw hh h0 h2 h4 hb zb
      obtain ⟨ia, ⟨X, Y, ta⟩, na⟩ := a2
      obtain ⟨ib, ⟨X', Y', tb⟩, nb'⟩ := b2
      refine ⟨ca, cb, a1, b1, ⟨fun e => ?_, ?_⟩, fun e _ => ?_⟩
      · subst e
        exact Or.inr ⟨za, zb, _, _, ta.tr tb.sy⟩
      · rintro (⟨h, _⟩ | ⟨_, _, U, V, t⟩)
        · exact absurd h za
        · exact corn_un hw.2 ia ib a3 a4 b3 b4 (ta.sy.tr (t.tr tb))
      · subst e
        obtain ⟨l, hl⟩ := low_ex za
        obtain ⟨l2, hl2⟩ := low_ex zb
        obtain ⟨k, k1, k2⟩ := low_num hl
        obtain ⟨k', k1', k2'⟩ := low_num hl2
        obtain ⟨m1, e1⟩ := na k l k1 k2
        obtain ⟨m2, e2⟩ := nb' k' l2 k1' k2'
        obtain ⟨ek, -⟩ := odd_un k1 k1' e1 e2
        exact ⟨k, l, l2, k1, k2, by rw [ek]; exact k2'⟩

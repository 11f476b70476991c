/-! bits: the least cell, both ways of finding it -/
theorem bt_shl {n : Nat} (hn : n < 32) (x : Int32) {i : Nat} (hi : i < 32) : bt (jshl x (nI n)) i = (decide (n ≤ i) && bt x (i - n)) := b_shl n hn x hi
theorem bt_ushr {n : Nat} (hn : n < 32) (x : Int32) (i : Nat) : bt (jushr x (nI n)) i = bt x (n + i) := b_ushr n hn x i
theorem bt_shr {n : Nat} (hn : n < 32) (x : Int32) {i : Nat} (hi : i < 32) : bt (jshr x (nI n)) i = if n + i < 32 then bt x (n + i) else bt x 31 := b_sshr n hn x hi
theorem bt_neg (x : Int32) {i : Nat} (hi : i < 32) : bt (-x) i = (bt x i ^^ decide (∃ j, j < i ∧ bt x j = true)) := by
  unfold bt
  rw [Int32.toBitVec_neg, BitVec.getLsbD_neg]
  simp [hi]
theorem bt_one (i : Nat) : bt 1 i = decide (i = 0) := by
  rcases Nat.lt_or_ge i 32 with h | h
  · exact (by decide +kernel : ∀ i, i < 32 → bt 1 i = decide (i = 0)) i h
  · rw [b_big h, decide_eq_false (by omega)]
/-- the mask of one cell -/
def one (k : Nat) : Int32 := jshl 1 (nI k)
theorem bt_one' {k : Nat} (hk : k < 32) {i : Nat} (hi : i < 32) : bt (one k) i = decide (i = k) := by
  unfold one
  rw [bt_shl hk 1 hi, bt_one]
  by_cases h : i = k
  · subst h; simp
  · rcases Nat.lt_or_ge i k with h1 | h1
    · simp [Nat.not_le.mpr h1, h]
    · simp [h]; omega
theorem and0_iff {x : Int32} {k : Nat} (hk : k < 32) : x &&& one k = 0 ↔ bt x k = false := by
  constructor
  · intro h
    have h1 := b_and x (one k) k
    rw [h, b_0, bt_one' hk hk] at h1
    simpa using h1.symm
  · intro h
    apply b_ext
    intro i hi
    rw [b_and, b_0, bt_one' hk hi]
    by_cases e : i = k
    · subst e; simp [h]
    · simp [e]
theorem nz_iff {x : Int32} : x ≠ 0 ↔ ∃ i, i < 32 ∧ bt x i = true := by
  constructor
  · intro h
    apply Classical.byContradiction
    intro hn
    apply h
    apply b_ext
    intro i hi
    rw [b_0]
    cases hb : bt x i
    · rfl
    · exact absurd ⟨i, hi, hb⟩ hn
  · rintro ⟨i, hi, h⟩ e
    rw [e, b_0] at h
    cases h
/-- k is the least cell of x -/
def low (x : Int32) (k : Nat) : Prop := k < 32 ∧ bt x k = true ∧ ∀ i, i < k → bt x i = false
theorem low_ex {x : Int32} (h : x ≠ 0) : ∃ k, low x k := by
  obtain ⟨i, hi, hb⟩ := nz_iff.mp h
  obtain ⟨k, ⟨hk, h1⟩, h2⟩ := pk_least (fun k => k < 32 ∧ bt x k = true) ⟨i, hi, hb⟩
  exact ⟨k, hk, h1, fun j hj => by
    cases e : bt x j
    · rfl
    · exact absurd ⟨by omega, e⟩ (h2 j hj)⟩
theorem low_fun {x : Int32} {a b : Nat} (ha : low x a) (hb : low x b) : a = b := by
  rcases Nat.lt_trichotomy a b with h | h | h
  · have := hb.2.2 a h; rw [ha.2.1] at this; cases this
  · exact h
  · have := ha.2.2 b h; rw [hb.2.1] at this; cases this
theorem low_and {x : Int32} {k : Nat} (h : low x k) : x &&& (-x) = one k := by
  obtain ⟨hk, h1, h2⟩ := h
  apply b_ext
  intro i hi
  rw [b_and, bt_neg x hi, bt_one' hk hi]
  rcases Nat.lt_trichotomy i k with e | e | e
  · rw [h2 i e, decide_eq_false (show ¬ i = k by omega)]; rfl
  · subst e
    rw [h1, decide_eq_false (fun ⟨j, hj, hb⟩ => by rw [h2 j hj] at hb; cases hb)]
    simp
  · rw [decide_eq_true (⟨k, e, h1⟩ : ∃ j, j < i ∧ bt x j = true), decide_eq_false (show ¬ i = k by omega)]
    cases bt x i <;> rfl
theorem bitCount_one (N : Nat) (σ : St) : ∀ k, k < 31 → f_J6_bitCount_0f7a4 N σ (one k - 1) = some (nI k) := by
  have h : ∀ k, k < 31 → f_J6_bitCount_0f7a4 0 (fun _ => 0, fun _ _ => 0, fun _ _ => 0) (one k - 1) = some (nI k) := by decide +kernel
  intro k hk
  exact h k hk
theorem leastCell_ok (N : Nat) (σ : St) {x : Int32} {k : Nat} (h : low x k) (hk : k < 31) : f_X0_leastCell N σ x = some (nI k) := by
  unfold f_X0_leastCell
  rw [if_neg (nz_iff.mpr ⟨k, h.1, h.2.1⟩), low_and h, bitCount_one N σ k hk]
  rfl
theorem leastCell_0 (N : Nat) (σ : St) : f_X0_leastCell N σ 0 = some (-1) := by
  unfold f_X0_leastCell
  rw [if_pos rfl]
/-- a mask of cells of the board alone -/
def inb (x : Int32) (n : Nat) : Prop := ∀ i, i < 32 → n ≤ i → bt x i = false
theorem shr1 {x : Int32} {c : Nat} (hc : c < 31) : (jshr x (nI c) &&& 1 = 1) ↔ bt x c = true := by
  have key : ∀ i, i < 32 → bt (jshr x (nI c) &&& 1) i = (decide (i = 0) && bt x c) := by
    intro i hi
    rw [b_and, bt_shr (by omega) x hi, bt_one]
    by_cases e : i = 0
    · subst e; simp [show c < 32 by omega]
    · simp [e]
  constructor
  · intro h
    have := key 0 (by omega)
    rw [h, bt_one] at this
    simpa using this.symm
  · intro h
    apply b_ext
    intro i hi
    rw [key i hi, bt_one, h]
    simp
theorem shr0 {x : Int32} {c : Nat} (hc : c < 31) : (jshr x (nI c) &&& 1 = 0) ↔ bt x c = false := by
  have key : ∀ i, i < 32 → bt (jshr x (nI c) &&& 1) i = (decide (i = 0) && bt x c) := by
    intro i hi
    rw [b_and, bt_shr (by omega) x hi, bt_one]
    by_cases e : i = 0
    · subst e; simp [show c < 32 by omega]
    · simp [e]
  constructor
  · intro h
    have := key 0 (by omega)
    rw [h, b_0] at this
    simpa using this.symm
  · intro h
    apply b_ext
    intro i hi
    rw [key i hi, b_0, h]
    simp
theorem lp_placeOf (N : Nat) (σ : St) {x : Int32} {k : Nat} (h : low x k) (hk : k < 25) : ∀ (d n i : Nat), i + d = k → d < n → lp_X7_placeOf_2 N σ x n (nI i) = some (nI k) := by
  intro d
  induction d with
  | zero =>
    intro n i hi hn
    obtain ⟨n, rfl⟩ : ∃ m, n = m + 1 := ⟨n - 1, by omega⟩
    rw [lp_X7_placeOf_2, if_neg (show ¬ (25 : Int32) ≤ nI i from nI_ge (a := i) (b := 25) (by omega) (by omega)), if_pos ((shr1 (by omega)).mpr (by rw [show i = k by omega]; exact h.2.1)), show i = k by omega]
  | succ d ih =>
    intro n i hi hn
    obtain ⟨n, rfl⟩ : ∃ m, n = m + 1 := ⟨n - 1, by omega⟩
    rw [lp_X7_placeOf_2, if_neg (show ¬ (25 : Int32) ≤ nI i from nI_ge (a := i) (b := 25) (by omega) (by omega)), if_neg (fun e => by
      have := (shr1 (x := x) (c := i) (by omega)).mp e
      rw [h.2.2 i (by omega)] at this; cases this)]
    show lp_X7_placeOf_2 N σ x n (nI i + 1) = _
    rw [nI_1]
    exact ih n (i + 1) (by omega) (by omega)
theorem placeOf_ok {N : Nat} (hN : 100 ≤ N) (σ : St) {x : Int32} {k : Nat} (h : low x k) (hk : k < 25) : f_X7_placeOf N σ x = some (nI k) := by
  unfold f_X7_placeOf
  exact lp_placeOf N σ h hk k N 0 (by omega) (by omega)
theorem lp_placeOf0 (N : Nat) (σ : St) : ∀ (d n i : Nat), i + d = 25 → d < n → lp_X7_placeOf_2 N σ 0 n (nI i) = some (-1) := by
  intro d
  induction d with
  | zero =>
    intro n i hi hn
    obtain ⟨n, rfl⟩ : ∃ m, n = m + 1 := ⟨n - 1, by omega⟩
    rw [lp_X7_placeOf_2, if_pos (show (25 : Int32) ≤ nI i from nI_le (a := 25) (b := i) (by omega) (by omega))]
  | succ d ih =>
    intro n i hi hn
    obtain ⟨n, rfl⟩ : ∃ m, n = m + 1 := ⟨n - 1, by omega⟩
    rw [lp_X7_placeOf_2, if_neg (show ¬ (25 : Int32) ≤ nI i from nI_ge (a := i) (b := 25) (by omega) (by omega)), if_neg (fun e => by
      have := (shr1 (x := 0) (c := i) (by omega)).mp e
      rw [b_0] at this; cases this)]
    show lp_X7_placeOf_2 N σ 0 n (nI i + 1) = _
    rw [nI_1]
    exact ih n (i + 1) (by omega) (by omega)
theorem placeOf_0 {N : Nat} (hN : 100 ≤ N) (σ : St) : f_X7_placeOf N σ 0 = some (-1) := by
  unfold f_X7_placeOf
  exact lp_placeOf0 N σ 25 N 0 (by omega) (by omega)
/-- a block's place: its least cell, -1 without cells -/
noncomputable def plc (x : Int32) : Int32 := if h : x = 0 then -1 else nI (Classical.choose (low_ex h))
theorem plc_low {x : Int32} {k : Nat} (h : low x k) : plc x = nI k := by
  have hx : x ≠ 0 := nz_iff.mpr ⟨k, h.1, h.2.1⟩
  unfold plc
  rw [dif_neg hx, low_fun (Classical.choose_spec (low_ex hx)) h]
theorem plc_0 : plc 0 = -1 := by unfold plc; rw [dif_pos rfl]
theorem low_lt {x : Int32} {k n : Nat} (h : low x k) (hi : inb x n) : k < n := by
  rcases Nat.lt_or_ge k n with e | e
  · exact e
  · have := hi k h.1 e; rw [h.2.1] at this; cases this
theorem leastCell_plc (N : Nat) (σ : St) {x : Int32} (hi : inb x 25) : f_X0_leastCell N σ x = some (plc x) := by
  by_cases h : x = 0
  · subst h; rw [leastCell_0, plc_0]
  · obtain ⟨k, hk⟩ := low_ex h
    have := low_lt hk hi
    rw [leastCell_ok N σ hk (by omega), plc_low hk]
theorem placeOf_plc {N : Nat} (hN : 100 ≤ N) (σ : St) {x : Int32} (hi : inb x 25) : f_X7_placeOf N σ x = some (plc x) := by
  by_cases h : x = 0
  · subst h; rw [placeOf_0 hN, plc_0]
  · obtain ⟨k, hk⟩ := low_ex h
    have := low_lt hk hi
    rw [placeOf_ok hN σ hk (by omega), plc_low hk]

/-! a step of a block: the class's edges and shifts, the reference's cell by cell -/
def eL (w h : Nat) : Int32 := (lp_Bd (nI w) (nI h) 10 0 0).getD 0
def eR (w h : Nat) : Int32 := jshl (eL w h) (nI w - 1)
def eT (w : Nat) : Int32 := jshl 1 (nI w) - 1
def eB (w h : Nat) : Int32 := jshl (eT w) (nI w * (nI h - 1))
/-- a cell may go on the board by one in a way -/
def okc (w h way c : Nat) : Prop := if way = 0 then c % w + 1 < w else if way = 1 then c / w + 1 < h else if way = 2 then 1 ≤ c % w else 1 ≤ c / w
theorem okc_dec (w h way c : Nat) : okc w h way c ∨ ¬ okc w h way c := Classical.em _
def okcb (w h way c : Nat) : Bool := if way = 0 then decide (c % w + 1 < w) else if way = 1 then decide (c / w + 1 < h) else if way = 2 then decide (1 ≤ c % w) else decide (1 ≤ c / w)
theorem okcb_iff (w h way c : Nat) : okcb w h way c = true ↔ okc w h way c := by
  unfold okcb okc
  split
  · simp
  · split
    · simp
    · split <;> simp
def edge (w h way : Nat) : Int32 := if way = 0 then eR w h else if way = 1 then eB w h else if way = 2 then eL w h else eT w
theorem edge_bits0 : ((List.range 5).all (fun w => (List.range 5).all (fun h => (List.range 4).all (fun way => (List.range 32).all (fun c => bt (edge (w + 1) (h + 1) way) c == (decide (c < (w + 1) * (h + 1)) && !okcb (w + 1) (h + 1) way c)))))) = true := by decide +kernel
theorem edge_bits : ∀ w, w < 6 → 1 ≤ w → ∀ h, h < 6 → 1 ≤ h → ∀ way, way < 4 → ∀ c, c < 32 → bt (edge w h way) c = (decide (c < w * h) && !okcb w h way c) := by
  intro w hw hw1 h hh hh1 way hy c hc
  obtain ⟨w, rfl⟩ : ∃ j, w = j + 1 := ⟨w - 1, by omega⟩
  obtain ⟨h, rfl⟩ : ∃ j, h = j + 1 := ⟨h - 1, by omega⟩
  have e1 := List.all_eq_true.mp edge_bits0 w (List.mem_range.mpr (by omega))
  have e2 := List.all_eq_true.mp e1 h (List.mem_range.mpr (by omega))
  have e3 := List.all_eq_true.mp e2 way (List.mem_range.mpr (by omega))
  have e4 := List.all_eq_true.mp e3 c (List.mem_range.mpr (by omega))
  exact eq_of_beq e4
theorem lp_Bd_ok : ∀ w, w < 6 → 1 ≤ w → ∀ h, h < 6 → 1 ≤ h → lp_Bd (nI w) (nI h) 10 0 0 = some (eL w h) := by decide +kernel
theorem lp_Bd_mono (a0 a1 : Int32) : ∀ (n m : Nat) (x3 x4 z : Int32), n ≤ m → lp_Bd a0 a1 n x3 x4 = some z → lp_Bd a0 a1 m x3 x4 = some z := by
  intro n
  induction n with
  | zero => intro m x3 x4 z _ h; cases h
  | succ n ih =>
    intro m x3 x4 z hm h
    obtain ⟨m, rfl⟩ : ∃ j, m = j + 1 := ⟨m - 1, by omega⟩
    rw [lp_Bd] at h ⊢
    split
    · rename_i c; rw [if_pos c] at h; exact h
    · rename_i c; rw [if_neg c] at h; exact ih m _ _ _ (by omega) h
/-- where a block's cells come to in a way, on an empty board -/
def shf (w way : Nat) (m : Int32) : Int32 := if way = 0 then jshl m (nI 1) else if way = 1 then jshl m (nI w) else if way = 2 then jushr m (nI 1) else jushr m (nI w)
def mv (w h way : Nat) (m : Int32) : Int32 := if m &&& edge w h way = 0 then shf w way m else 0
theorem edge0_iff {w h way : Nat} {m : Int32} (hw : w < 6 ∧ 1 ≤ w) (hh : h < 6 ∧ 1 ≤ h) (hy : way < 4) : m &&& edge w h way = 0 ↔ ∀ c, c < w * h → bt m c = true → okc w h way c := by
  have h25 : w * h ≤ 25 := Nat.mul_le_mul (show w ≤ 5 by omega) (show h ≤ 5 by omega)
  constructor
  · intro e c hc hb
    have h1 := b_and m (edge w h way) c
    rw [e, b_0, hb, edge_bits w hw.1 hw.2 h hh.1 hh.2 way hy c (by omega), decide_eq_true hc] at h1
    rw [← okcb_iff]
    cases hk : okcb w h way c
    · rw [hk] at h1; cases h1
    · rfl
  · intro hall
    apply b_ext
    intro i hi
    rw [b_and, b_0, edge_bits w hw.1 hw.2 h hh.1 hh.2 way hy i hi]
    by_cases hc : i < w * h
    · cases hb : bt m i
      · rfl
      · rw [(okcb_iff w h way i).mpr (hall i hc hb)]; simp
    · simp [hc]
theorem moved_ok (N : Nat) {σ : St} {w h way : Nat} (h0 : σ.1 0 = nI w) (h2 : σ.1 2 = eL w h) (h3 : σ.1 3 = eR w h) (h4 : σ.1 4 = eT w) (h5 : σ.1 5 = eB w h) (hy : way < 4) (m o : Int32) :
    f_X0_moved N σ m (nI way) o = some (if mv w h way m &&& o = 0 then mv w h way m else 0) := by
  have z0 : (0 : Int32) &&& o = 0 := by apply b_ext; intro i _; rw [b_and, b_0]; rfl
  unfold f_X0_moved nm
  rw [h0, h2, h3, h4, h5]
  rcases (show way = 0 ∨ way = 1 ∨ way = 2 ∨ way = 3 by omega) with rfl | rfl | rfl | rfl
  · rw [if_pos (show nI 0 = 0 from rfl)]
    unfold mv edge shf
    simp only [if_true]
    by_cases e : m &&& eR w h = 0
    · simp only [e, if_true]
      show (if jshl m (nI 1) &&& o = 0 then some (jshl m (nI 1)) else some 0) = _
      split <;> rfl
    · simp only [e, if_false, z0, if_true]
  · rw [if_neg (show ¬ nI 1 = 0 by decide), if_pos (show nI 1 = 1 from rfl)]
    unfold mv edge shf
    simp only [if_true, show ¬ (1 = 0) by decide, if_false]
    by_cases e : m &&& eB w h = 0
    · simp only [e, if_true]
      split <;> rfl
    · simp only [e, if_false, z0, if_true]
  · rw [if_neg (show ¬ nI 2 = 0 by decide), if_neg (show ¬ nI 2 = 1 by decide), if_pos (show nI 2 = 2 from rfl)]
    unfold mv edge shf
    simp only [if_true, show ¬ (2 = 0) by decide, show ¬ (2 = 1) by decide, if_false]
    by_cases e : m &&& eL w h = 0
    · simp only [e, if_true]
      show (if jushr m (nI 1) &&& o = 0 then some (jushr m (nI 1)) else some 0) = _
      split <;> rfl
    · simp only [e, if_false, z0, if_true]
  · rw [if_neg (show ¬ nI 3 = 0 by decide), if_neg (show ¬ nI 3 = 1 by decide), if_neg (show ¬ nI 3 = 2 by decide)]
    unfold mv edge shf
    simp only [if_true, show ¬ (3 = 0) by decide, show ¬ (3 = 1) by decide, show ¬ (3 = 2) by decide, if_false]
    by_cases e : m &&& eT w = 0
    · simp only [e, if_true]
      split <;> rfl
    · simp only [e, if_false, z0, if_true]
theorem isCell_nI (N : Nat) {σ : St} {w h : Nat} (h1 : σ.1 1 = nI w) (h2 : σ.1 2 = nI h) (hw : w < 6) (hh : h < 6) (x y : Int32) : f_X7_isCell N σ x y = some (if 0 ≤ x.toInt ∧ x.toInt < w ∧ 0 ≤ y.toInt ∧ y.toInt < h then 1 else 0) := by
  have e1 : ∀ z : Int32, z < 0 ↔ z.toInt < 0 := fun z => by rw [Int32.lt_iff_toInt_lt, Int32.toInt_zero]
  have e2 : ∀ (z : Int32) (n : Nat), n < 6 → (nI n ≤ z ↔ (n : Int) ≤ z.toInt) := fun z n hn => by rw [Int32.le_iff_toInt_le, nI_toInt (by omega)]
  unfold f_X7_isCell
  rw [h1, h2]
  by_cases a1 : x < 0
  · rw [if_pos a1, if_neg (by rw [e1] at a1; omega)]
  · rw [if_neg a1]
    by_cases a2 : nI w ≤ x
    · rw [if_pos a2, if_neg (by rw [e2 _ _ hw] at a2; omega)]
    · rw [if_neg a2]
      by_cases a3 : y < 0
      · rw [if_pos a3, if_neg (by rw [e1] at a3; omega)]
      · rw [if_neg a3]
        by_cases a4 : nI h ≤ y
        · rw [if_pos a4, if_neg (by rw [e2 _ _ hh] at a4; omega)]
        · rw [if_neg a4, if_pos]
          rw [e1] at a1 a3
          rw [e2 _ _ hw] at a2
          rw [e2 _ _ hh] at a4
          omega
theorem hasCell_nI (N : Nat) {σ : St} {w h : Nat} (h1 : σ.1 0 = nI w) (h2 : σ.1 1 = nI h) (hw : w < 6) (hh : h < 6) (x y : Int32) : f_X0_hasCell N σ x y = some (if 0 ≤ x.toInt ∧ x.toInt < w ∧ 0 ≤ y.toInt ∧ y.toInt < h then 1 else 0) := by
  have e1 : ∀ z : Int32, z < 0 ↔ z.toInt < 0 := fun z => by rw [Int32.lt_iff_toInt_lt, Int32.toInt_zero]
  have e2 : ∀ (z : Int32) (n : Nat), n < 6 → (nI n ≤ z ↔ (n : Int) ≤ z.toInt) := fun z n hn => by rw [Int32.le_iff_toInt_le, nI_toInt (by omega)]
  unfold f_X0_hasCell
  rw [h1, h2]
  by_cases a1 : x < 0
  · rw [if_pos a1, if_neg (by rw [e1] at a1; omega)]
  · rw [if_neg a1]
    by_cases a2 : nI w ≤ x
    · rw [if_pos a2, if_neg (by rw [e2 _ _ hw] at a2; omega)]
    · rw [if_neg a2]
      by_cases a3 : y < 0
      · rw [if_pos a3, if_neg (by rw [e1] at a3; omega)]
      · rw [if_neg a3]
        by_cases a4 : nI h ≤ y
        · rw [if_pos a4, if_neg (by rw [e2 _ _ hh] at a4; omega)]
        · rw [if_neg a4, if_pos]
          rw [e1] at a1 a3
          rw [e2 _ _ hw] at a2
          rw [e2 _ _ hh] at a4
          omega

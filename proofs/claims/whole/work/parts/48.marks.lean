/-! longs by their bits -/
def btl (x : Int64) (i : Nat) : Bool := x.toBitVec.getLsbD i
theorem l_ext {x y : Int64} (h : ∀ i, i < 64 → btl x i = btl y i) : x = y := Int64.toBitVec_inj.mp (BitVec.eq_of_getLsbD_eq (fun i hi => h i hi))
theorem l_or (x y : Int64) (i : Nat) : btl (x ||| y) i = (btl x i || btl y i) := by unfold btl; rw [Int64.toBitVec_or, BitVec.getLsbD_or]
theorem l_and (x y : Int64) (i : Nat) : btl (x &&& y) i = (btl x i && btl y i) := by unfold btl; rw [Int64.toBitVec_and, BitVec.getLsbD_and]
theorem l_0 (i : Nat) : btl 0 i = false := BitVec.getLsbD_zero
theorem l_big {x : Int64} {i : Nat} (h : 64 ≤ i) : btl x i = false := BitVec.getLsbD_of_ge _ _ h
theorem sl_l : ∀ n, n < 64 → (((nI n).toInt64 &&& 63).toBitVec.smod 64).toNat = n := by decide +kernel
theorem sl_u : ∀ n, n < 64 → (((nI n).toInt64.toUInt64 &&& Int64.toUInt64 63).toBitVec % 64).toNat = n := by decide +kernel
theorem l_shl {n : Nat} (hn : n < 64) (x : Int64) {i : Nat} (hi : i < 64) : btl (jlshl x (nI n)) i = (decide (n ≤ i) && btl x (i - n)) := by
  unfold btl jlshl
  rw [Int64.toBitVec_shiftLeft]
  show (x.toBitVec <<< (((nI n).toInt64 &&& 63).toBitVec.smod 64).toNat).getLsbD i = _
  rw [sl_l n hn, BitVec.getLsbD_shiftLeft]
  rcases Nat.lt_or_ge i n with h | h
  · simp [h, Nat.not_le.mpr h]
  · simp [hi, h, Nat.not_lt.mpr h]
theorem l_ushr {n : Nat} (hn : n < 64) (x : Int64) (i : Nat) : btl (jlushr x (nI n)) i = btl x (n + i) := by
  show (x.toUInt64 >>> ((nI n).toInt64.toUInt64 &&& Int64.toUInt64 63)).toBitVec.getLsbD i = x.toUInt64.toBitVec.getLsbD (n + i)
  rw [UInt64.toBitVec_shiftRight]
  show (x.toUInt64.toBitVec >>> (((nI n).toInt64.toUInt64 &&& Int64.toUInt64 63).toBitVec % 64).toNat).getLsbD i = _
  rw [sl_u n hn, BitVec.getLsbD_ushiftRight]
theorem l_one (i : Nat) : btl 1 i = decide (i = 0) := by
  rcases Nat.lt_or_ge i 64 with h | h
  · exact (by decide +kernel : ∀ i, i < 64 → btl 1 i = decide (i = 0)) i h
  · rw [l_big h, decide_eq_false (by omega)]
theorem lg_eq (x y : Int64) : lg_cmp x y = 0 ↔ x = y := by
  constructor
  · intro h
    unfold lg_cmp at h
    by_cases h1 : x > y
    · rw [if_pos h1] at h; exact absurd h (by decide)
    · rw [if_neg h1] at h
      by_cases h2 : x = y
      · exact h2
      · rw [if_neg h2] at h; exact absurd h (by decide)
  · rintro rfl; exact lg_same x
theorem lushr0 {x : Int64} {c : Nat} (hc : c < 64) : (jlushr x (nI c) &&& 1 = 0) ↔ btl x c = false := by
  have key : ∀ i, i < 64 → btl (jlushr x (nI c) &&& 1) i = (decide (i = 0) && btl x c) := by
    intro i hi
    rw [l_and, l_ushr hc x, l_one]
    by_cases e : i = 0
    · subst e; simp
    · simp [e]
  constructor
  · intro h
    have := key 0 (by omega)
    rw [h, l_0] at this
    simpa using this.symm
  · intro h
    apply l_ext
    intro i hi
    rw [key i hi, l_0, h]
    simp
/-! an arrangement in an int -/
def num (A : Int32) : Nat := A.toBitVec.toNat
theorem bt_num (A : Int32) (i : Nat) : bt A i = (num A).testBit i := rfl
theorem num_lt (A : Int32) : num A < 2 ^ 32 := A.toBitVec.isLt
theorem bt_nI {n : Nat} (h : n < 2 ^ 32) (i : Nat) : bt (nI n) i = n.testBit i := by
  show (nI n).toBitVec.toNat.testBit i = _
  rw [pk_tn h]
theorem nI_num (A : Int32) : nI (num A) = A := b_ext (fun i _ => by rw [bt_nI (num_lt A), bt_num])
/-- its 21 telling bits -/
def ky (A : Int32) : Nat := num A % 2 ^ 21
theorem ky_lt (A : Int32) : ky A < 2 ^ 21 := Nat.mod_lt _ (by omega)
theorem mko_eq (A : Int32) : mko A = nI (ky A / 64) := by
  unfold mko
  rw [pk_and A 21 (by decide)]
  unfold jushr
  rw [pk_ushrN (n := A.toBitVec.toNat % 2 ^ 21) (by omega) 6 6 (by decide)]
  rfl
theorem and63 (A : Int32) : A &&& 63 = nI (ky A % 64) := by
  rw [pk_and A 6 (by decide)]
  congr 1
  show num A % 2 ^ 6 = num A % 2 ^ 21 % 64
  omega
def En (nn : Nat) (A : Int32) (t : Nat → Nat) : Prop := ∀ i, i < 32 → bt A i = (decide (i < 3 * nn) && (t (i / 3)).testBit (i % 3))
theorem tb8 {x i : Nat} (hx : x < 8) (hi : 3 ≤ i) : x.testBit i = false := Nat.testBit_lt_two_pow (Nat.lt_of_lt_of_le hx (Nat.pow_le_pow_right (by omega) hi : 2 ^ 3 ≤ 2 ^ i))
theorem bt_7 (i : Nat) : bt 7 i = decide (i < 3) := by
  rcases Nat.lt_or_ge i 32 with h | h
  · exact (by decide +kernel : ∀ i, i < 32 → bt 7 i = decide (i < 3)) i h
  · rw [b_big h, decide_eq_false (by omega)]
theorem En_tile {nn v : Nat} {A : Int32} {t : Nat → Nat} (hnn : nn ≤ 8) (h : En nn A t) (hv : v < nn) (h8 : t v < 8) : jushr A (3 * nI v) &&& 7 = nI (t v) := by
  rw [show (3 : Int32) * nI v = nI (3 * v) from pk_mul 3 v]
  apply b_ext
  intro i hi
  rw [b_and, bt_ushr (by omega), bt_7, bt_nI (by omega)]
  rcases Nat.lt_or_ge i 3 with c | c
  · rw [h (3 * v + i) (by omega), decide_eq_true c, decide_eq_true (show 3 * v + i < 3 * nn by omega), show (3 * v + i) / 3 = v by omega, show (3 * v + i) % 3 = i by omega]
    simp
  · rw [decide_eq_false (by omega), tb8 h8 c, Bool.and_false]
theorem bsh {x v : Nat} (hx : x < 8) (hv : v < 8) {i : Nat} (hi : i < 32) : bt (jshl (nI x) (3 * nI v)) i = (decide (i / 3 = v) && x.testBit (i % 3)) := by
  rw [show (3 : Int32) * nI v = nI (3 * v) from pk_mul 3 v, bt_shl (by omega) _ hi, bt_nI (by omega)]
  by_cases e : i / 3 = v
  · rw [decide_eq_true e, decide_eq_true (show 3 * v ≤ i by omega), show i - 3 * v = i % 3 by omega]
  · rw [decide_eq_false e, Bool.false_and]
    rcases Nat.lt_or_ge i (3 * v) with c | c
    · rw [decide_eq_false (by omega), Bool.false_and]
    · rw [tb8 hx (show 3 ≤ i - 3 * v by omega), Bool.and_false]
theorem En_exch {nn v g : Nat} {A : Int32} {t : Nat → Nat} (hnn : nn ≤ 8) (h : En nn A t) (hv : v < nn) (hg : g < nn) (hvg : v ≠ g) (h8 : t v < 8) (hz : t g = 0) : En nn ((A ^^^ jshl (nI (t v)) (3 * nI v)) ^^^ jshl (nI (t v)) (3 * nI g)) (exch t g v) := by
  intro i hi
  rw [b_xor, b_xor, bsh h8 (by omega) hi, bsh h8 (by omega) hi, h i hi]
  unfold exch
  by_cases e1 : i / 3 = g
  · rw [if_pos e1, e1, hz, decide_eq_false (show ¬ g = v by omega), decide_eq_true (show i < 3 * nn by omega), decide_eq_true (rfl : g = g)]
    simp
  · rw [if_neg e1]
    by_cases e2 : i / 3 = v
    · rw [if_pos e2, e2, hz, decide_eq_false (show ¬ v = g by omega), decide_eq_true (show i < 3 * nn by omega), decide_eq_true (rfl : v = v)]
      simp
    · rw [if_neg e2, decide_eq_false e1, decide_eq_false e2]
      simp
theorem En_or {k : Nat} {A : Int32} {t : Nat → Nat} (hk : k < 8) (h : En k A t) (h8 : t k < 8) : En (k + 1) (A ||| jshl (nI (t k)) (3 * nI k)) t := by
  intro i hi
  rw [b_or, bsh h8 hk hi, h i hi]
  by_cases e : i / 3 = k
  · rw [e, decide_eq_true (rfl : k = k), decide_eq_true (show i < 3 * (k + 1) by omega), decide_eq_false (show ¬ i < 3 * k by omega)]
    simp
  · rw [decide_eq_false e, Bool.false_and, Bool.or_false]
    rcases Nat.lt_or_ge i (3 * k) with c | c
    · rw [decide_eq_true c, decide_eq_true (show i < 3 * (k + 1) by omega)]
    · rw [decide_eq_false (by omega), decide_eq_false (show ¬ i < 3 * (k + 1) by omega)]
theorem En_0 (t : Nat → Nat) : En 0 0 t := fun i _ => by rw [b_0, decide_eq_false (by omega), Bool.false_and]
theorem En_un {nn : Nat} {A B : Int32} {t s : Nat → Nat} (hA : En nn A t) (hB : En nn B s) (h : ∀ v, v < nn → t v = s v) : A = B := by
  apply b_ext
  intro i hi
  rw [hA i hi, hB i hi]
  by_cases c : i < 3 * nn
  · rw [h (i / 3) (by omega)]
  · rw [decide_eq_false c, Bool.false_and, Bool.false_and]
theorem ky_inj {nn : Nat} {A B : Int32} {t s : Nat → Nat} (hnn : nn ≤ 8) (hA : En nn A t) (hB : En nn B s) (ht : perm nn t) (hs : perm nn s) (h : ky A = ky B) : ∀ v, v < nn → t v = s v := by
  have low : ∀ v, v < nn → v < 7 → t v = s v := by
    intro v hv hv7
    apply Nat.eq_of_testBit_eq
    intro i
    have b1 := ht.1 v hv
    have b2 := hs.1 v hv
    rcases Nat.lt_or_ge i 3 with c | c
    · have e1 : (ky A).testBit (3 * v + i) = (ky B).testBit (3 * v + i) := by rw [h]
      unfold ky at e1
      rw [Nat.testBit_mod_two_pow, Nat.testBit_mod_two_pow, decide_eq_true (show 3 * v + i < 21 by omega), Bool.true_and, Bool.true_and, ← bt_num, ← bt_num, hA _ (by omega), hB _ (by omega), decide_eq_true (show 3 * v + i < 3 * nn by omega), Bool.true_and, Bool.true_and, show (3 * v + i) / 3 = v by omega, show (3 * v + i) % 3 = i by omega] at e1
      exact e1
    · rw [tb8 (by omega) c, tb8 (by omega) c]
  intro v hv
  rcases Nat.lt_or_ge v 7 with c | c
  · exact low v hv c
  · obtain ⟨u, hu, e⟩ := perm_onto nn t ht (s v) (hs.1 v hv)
    rcases Nat.lt_or_ge u 7 with c2 | c2
    · rw [low u hu c2] at e
      have := hs.2 u v hu hv e
      omega
    · rw [show v = u by omega] at e ⊢
      exact e
/-! marks -/
theorem isMarked_ok (N : Nat) (σ : St) (A : Int32) : f_X5_isMarked N σ A = some (if btl (σ.2.2 2 (ky A / 64)) (ky A % 64) = true then 1 else 0) := by
  have hk := ky_lt A
  unfold f_X5_isMarked f_X5_markOf
  rw [bd1_some, show jushr (A &&& 2097151) 6 = nI (ky A / 64) from mko_eq A, gd_t (okx_nI (by omega) (by omega)), rl_nI _ _ (by omega), and63]
  cases e : btl (σ.2.2 2 (ky A / 64)) (ky A % 64)
  · rw [if_pos ((lg_eq _ _).mpr ((lushr0 (by omega)).mpr e))]; rfl
  · rw [if_neg (fun q => by
      have := (lushr0 (by omega)).mp ((lg_eq _ _).mp q)
      rw [e] at this; cases this)]; rfl
def WP (nn n : Nat) (Q : Nat → Nat → Nat) : Prop := (∀ j, j < n → perm nn (Q j)) ∧ ∀ i j, i < n → j < n → (∀ v, v < nn → Q i v = Q j v) → i = j
def WC (nn n : Nat) (Q : Nat → Nat → Nat) (σ : St) : Prop := σ.1 16 = nI n ∧ (∀ j, j < n → En nn (σ.2.1 18 j) (Q j)) ∧ ∀ x, x < 2 ^ 21 → (btl (σ.2.2 2 (x / 64)) (x % 64) = true ↔ ∃ j, j < n ∧ ky (σ.2.1 18 j) = x)
def WM (nn n : Nat) (Q : Nat → Nat → Nat) (τ : St) : Prop := (∀ j, j < n → τ.2.1 17 j = nI (rk nn (Q j) nn)) ∧ ∀ k, k < 40320 → Yn (τ.2.1 16 k) (∃ j, j < n ∧ rk nn (Q j) nn = k)
def OC (σ σ' : St) : Prop := (∀ j, j ≠ 16 → σ'.1 j = σ.1 j) ∧ (∀ b, b ≠ 18 → σ'.2.1 b = σ.2.1 b) ∧ ∀ b, b ≠ 2 → σ'.2.2 b = σ.2.2 b
theorem OC.rf {σ : St} : OC σ σ := ⟨fun _ _ => rfl, fun _ _ => rfl, fun _ _ => rfl⟩
theorem OC.tr {σ σ1 σ2 : St} (h1 : OC σ σ1) (h2 : OC σ1 σ2) : OC σ σ2 := ⟨fun b hb => (h2.1 b hb).trans (h1.1 b hb), fun b hb => (h2.2.1 b hb).trans (h1.2.1 b hb), fun b hb => (h2.2.2 b hb).trans (h1.2.2 b hb)⟩
def OR (τ τ' : St) : Prop := τ'.1 = τ.1 ∧ (∀ b, b ≠ 15 → b ≠ 16 → b ≠ 17 → τ'.2.1 b = τ.2.1 b) ∧ τ'.2.2 = τ.2.2
theorem OR.rf {τ : St} : OR τ τ := ⟨rfl, fun _ _ _ _ => rfl, rfl⟩
theorem OR.tr {τ τ1 τ2 : St} (h1 : OR τ τ1) (h2 : OR τ1 τ2) : OR τ τ2 := ⟨h2.1.trans h1.1, fun b hb hc hd => (h2.2.1 b hb hc hd).trans (h1.2.1 b hb hc hd), h2.2.2.trans h1.2.2⟩
theorem OR.o {τ τ1 : St} {a : Nat} (ha : a = 15 ∨ a = 16 ∨ a = 17) (h : O1 a τ τ1) : OR τ τ1 := ⟨h.1, fun b _ _ _ => h.2.1 b (by omega), h.2.2⟩
theorem WP_le {nn n : Nat} {Q : Nat → Nat → Nat} (hnn : nn ≤ 8) (h : WP nn n Q) : n ≤ 40320 :=
  inj_le (f := fun j => rk nn (Q j) nn) (fun j _ => rk_lt' hnn (Q j) (Nat.le_refl _)) (fun i j hi hj e => h.2 i j hi hj (rk_inj hnn (h.1 i hi) (h.1 j hj) e))
/-- one arrangement more -/
def psh (Q : Nat → Nat → Nat) (n : Nat) (t : Nat → Nat) : Nat → Nat → Nat := fun j => if j = n then t else Q j
theorem psh_n (Q : Nat → Nat → Nat) (n : Nat) (t : Nat → Nat) : psh Q n t n = t := if_pos rfl
theorem psh_o (Q : Nat → Nat → Nat) {n j : Nat} (t : Nat → Nat) (h : j ≠ n) : psh Q n t j = Q j := if_neg h
theorem WP_psh {nn n : Nat} {Q : Nat → Nat → Nat} {t : Nat → Nat} (h : WP nn n Q) (ht : perm nn t) (hn : ¬ ∃ j, j < n ∧ ∀ v, v < nn → Q j v = t v) : WP nn (n + 1) (psh Q n t) := by
  constructor
  · intro j hj
    by_cases e : j = n
    · rw [e, psh_n]; exact ht
    · rw [psh_o Q t e]; exact h.1 j (by omega)
  · intro i j hi hj hv
    by_cases e1 : i = n
    · by_cases e2 : j = n
      · omega
      · rw [e1, psh_n, psh_o Q t e2] at hv
        exact absurd ⟨j, by omega, fun v hv' => (hv v hv').symm⟩ hn
    · by_cases e2 : j = n
      · rw [e2, psh_n, psh_o Q t e1] at hv
        exact absurd ⟨i, by omega, hv⟩ hn
      · rw [psh_o Q t e1, psh_o Q t e2] at hv
        exact h.2 i j (by omega) (by omega) hv
theorem mark_step (N : Nat) {nn n : Nat} {Q : Nat → Nat → Nat} {σ : St} {A : Int32} {t : Nat → Nat} (hnn : nn ≤ 8) (hP : WP nn n Q) (hW : WC nn n Q σ) (hA : En nn A t) (ht : perm nn t) :
    ((∃ j, j < n ∧ ∀ v, v < nn → Q j v = t v) ∧ f_X5_mark N σ A = some σ) ∨ ((¬ ∃ j, j < n ∧ ∀ v, v < nn → Q j v = t v) ∧ n < 40320 ∧ ∃ σ', f_X5_mark N σ A = some σ' ∧ OC σ σ' ∧ WC nn (n + 1) (psh Q n t) σ') := by
  obtain ⟨w1, w2, w3⟩ := hW
  have hk := ky_lt A
  have hiff : btl (σ.2.2 2 (ky A / 64)) (ky A % 64) = true ↔ ∃ j, j < n ∧ ∀ v, v < nn → Q j v = t v := by
    rw [w3 (ky A) hk]
    constructor
    · rintro ⟨j, hj, e⟩
      exact ⟨j, hj, ky_inj hnn (w2 j hj) hA (hP.1 j hj) ht e⟩
    · rintro ⟨j, hj, e⟩
      exact ⟨j, hj, by rw [En_un (w2 j hj) hA e]⟩
  unfold f_X5_mark
  rw [isMarked_ok, bd1_some]
  by_cases hm : ∃ j, j < n ∧ ∀ v, v < nn → Q j v = t v
  · left
    refine ⟨hm, ?_⟩
    rw [hiff.mpr hm, if_pos rfl, if_neg (show ¬ (1 : Int32) = 0 by decide)]
  · right
    have hP' := WP_psh hP ht hm
    have hn := WP_le hnn hP'
    have hb : btl (σ.2.2 2 (ky A / 64)) (ky A % 64) = false := by
      cases e : btl (σ.2.2 2 (ky A / 64)) (ky A % 64)
      · rfl
      · exact absurd (hiff.mp e) hm
    refine ⟨hm, by omega, ?_⟩
    unfold f_X5_markOf
    rw [hb, if_neg (by decide : ¬ false = true), if_pos rfl, w1, if_pos (show nI n < 40320 from nI_lt (b := 40320) (by omega) (by omega)), bd1_some, show jushr (A &&& 2097151) 6 = nI (ky A / 64) from mko_eq A, gd_t (okx_nI (by omega) (by omega)), gd_t (okx_nI (by omega) (by omega)), rl_nI _ _ (by omega), and63, nm_eq]
    rw [show (sL σ 2 (nI (ky A / 64)) (σ.2.2 2 (ky A / 64) ||| jlshl 1 (nI (ky A % 64)))).1 16 = nI n from w1, gd_t (okx_nI (by omega) (by omega)), nm_eq, nm_eq]
    rw [show (sA (sL σ 2 (nI (ky A / 64)) (σ.2.2 2 (ky A / 64) ||| jlshl 1 (nI (ky A % 64)))) 18 (nI n) A).1 16 = nI n from w1, nI_1]
    refine ⟨_, rfl, ?_, ?_⟩
    · refine ⟨fun j hj => ?_, fun b hb => ?_, fun b hb => ?_⟩
      · rw [sI_1, if_neg hj]; rfl
      · rw [sI_2]
        show (if b = 18 then _ else σ.2.1 b) = _
        rw [if_neg hb]
      · rw [sI_2]
        show (if b = 2 then _ else σ.2.2 b) = _
        rw [if_neg hb]
    · have r18 : ∀ j, (sI (sA (sL σ 2 (nI (ky A / 64)) (σ.2.2 2 (ky A / 64) ||| jlshl 1 (nI (ky A % 64)))) 18 (nI n) A) 16 (nI (n + 1))).2.1 18 j = if j = n then A else σ.2.1 18 j := by
        intro j
        rw [sI_2, sA_21 _ 18 n j _ 18 (by omega)]
        simp only [true_and]
        rfl
      have rl2 : ∀ m, (sI (sA (sL σ 2 (nI (ky A / 64)) (σ.2.2 2 (ky A / 64) ||| jlshl 1 (nI (ky A % 64)))) 18 (nI n) A) 16 (nI (n + 1))).2.2 2 m = if m = ky A / 64 then σ.2.2 2 (ky A / 64) ||| jlshl 1 (nI (ky A % 64)) else σ.2.2 2 m := by
        intro m
        rw [sI_2, sA_22, sL_22 _ 2 (ky A / 64) m _ 2 (by omega)]
        simp only [true_and]
      refine ⟨rfl, ?_, ?_⟩
      · intro j hj
        rw [r18]
        by_cases e : j = n
        · rw [if_pos e, e, psh_n]; exact hA
        · rw [if_neg e, psh_o Q t e]; exact w2 j (by omega)
      · intro x hx
        have hbit : btl ((sI (sA (sL σ 2 (nI (ky A / 64)) (σ.2.2 2 (ky A / 64) ||| jlshl 1 (nI (ky A % 64)))) 18 (nI n) A) 16 (nI (n + 1))).2.2 2 (x / 64)) (x % 64) = true ↔ btl (σ.2.2 2 (x / 64)) (x % 64) = true ∨ x = ky A := by
          rw [rl2]
          by_cases e : x / 64 = ky A / 64
          · rw [if_pos e, e, l_or, l_shl (by omega) _ (by omega), l_one, Bool.or_eq_true, Bool.and_eq_true, decide_eq_true_eq, decide_eq_true_eq]
            constructor
            · rintro (h | ⟨h1, h2⟩)
              · exact Or.inl h
              · right; omega
            · rintro (h | h)
              · exact Or.inl h
              · right; constructor <;> omega
          · rw [if_neg e]
            constructor
            · exact Or.inl
            · rintro (h | h)
              · exact h
              · rw [h] at e; exact absurd rfl e
        rw [hbit, w3 x hx]
        constructor
        · rintro (⟨j, hj, e⟩ | e)
          · exact ⟨j, by omega, by rw [r18, if_neg (by omega)]; exact e⟩
          · exact ⟨n, by omega, by rw [r18, if_pos rfl, e]⟩
        · rintro ⟨j, hj, e⟩
          rw [r18] at e
          by_cases c : j = n
          · rw [if_pos c] at e; exact Or.inr e.symm
          · rw [if_neg c] at e; exact Or.inl ⟨j, by omega, e⟩

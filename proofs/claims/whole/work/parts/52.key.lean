/-! counting -/
def ct (f : Nat → Bool) : Nat → Nat
  | 0 => 0
  | n + 1 => ct f n + (if f n = true then 1 else 0)
theorem ct_s (f : Nat → Bool) (n : Nat) : ct f (n + 1) = ct f n + (if f n = true then 1 else 0) := rfl
theorem ct_le (f : Nat → Bool) (n : Nat) : ct f n ≤ n := by
  induction n with
  | zero => exact Nat.le_refl 0
  | succ n ih => rw [ct_s]; split <;> omega
theorem ct_congr {f g : Nat → Bool} {n : Nat} (h : ∀ j, j < n → f j = g j) : ct f n = ct g n := by
  induction n with
  | zero => rfl
  | succ n ih => rw [ct_s, ct_s, ih (fun j hj => h j (by omega)), h n (by omega)]
theorem ct_mono {f g : Nat → Bool} {n : Nat} (h : ∀ j, j < n → f j = true → g j = true) : ct f n ≤ ct g n := by
  induction n with
  | zero => exact Nat.le_refl 0
  | succ n ih =>
    have h1 := ih (fun j hj => h j (by omega))
    rw [ct_s, ct_s]
    by_cases c : f n = true
    · rw [if_pos c, if_pos (h n (by omega) c)]; omega
    · rw [if_neg c]; split <;> omega
theorem ct_strict {f g : Nat → Bool} {n i : Nat} (h : ∀ j, j < n → f j = true → g j = true) (hi : i < n) (h1 : ¬ f i = true) (h2 : g i = true) : ct f n < ct g n := by
  induction n with
  | zero => omega
  | succ n ih =>
    have h3 : ∀ j, j < n → f j = true → g j = true := fun j hj => h j (by omega)
    rw [ct_s, ct_s]
    rcases Nat.lt_or_ge i n with c | c
    · have := ih h3 c
      by_cases d : f n = true
      · rw [if_pos d, if_pos (h n (by omega) d)]; omega
      · rw [if_neg d]; split <;> omega
    · have e : i = n := by omega
      subst e
      have := ct_mono h3
      rw [if_neg h1, if_pos h2]; omega
theorem ct_le_n {f : Nat → Bool} {m n : Nat} (h : m ≤ n) : ct f m ≤ ct f n := by
  induction n with
  | zero => rw [show m = 0 by omega]; exact Nat.le_refl _
  | succ n ih =>
    rcases Nat.lt_or_ge n m with c | c
    · rw [show m = n + 1 by omega]; exact Nat.le_refl _
    · have := ih c
      rw [ct_s]; split <;> omega
theorem ct_at {f : Nat → Bool} {n r : Nat} (h : r < ct f n) : ∃ s, s < n ∧ f s = true ∧ ct f s = r := by
  induction n with
  | zero => exact absurd h (by show ¬ r < 0; omega)
  | succ n ih =>
    rw [ct_s] at h
    rcases Nat.lt_or_ge r (ct f n) with c | c
    · obtain ⟨s, h1, h2⟩ := ih c
      exact ⟨s, by omega, h2⟩
    · by_cases d : f n = true
      · rw [if_pos d] at h
        exact ⟨n, by omega, d, by omega⟩
      · rw [if_neg d] at h; omega
theorem ct_all {f : Nat → Bool} {n : Nat} (h : ∀ j, j < n → f j = true) : ct f n = n := by
  induction n with
  | zero => rfl
  | succ n ih => rw [ct_s, ih (fun j hj => h j (by omega)), if_pos (h n (by omega))]
theorem ct_tail {f : Nat → Bool} {i n : Nat} (hi : i ≤ n) (h : ∀ j, i ≤ j → j < n → ¬ f j = true) : ct f n = ct f i := by
  induction n with
  | zero => rw [show i = 0 by omega]
  | succ n ih =>
    rcases Nat.lt_or_ge n i with c | c
    · rw [show i = n + 1 by omega]
    · rw [ct_s, ih c (fun j h1 h2 => h j h1 (by omega)), if_neg (h n c (by omega)), Nat.add_zero]
theorem ct_add {f g e : Nat → Bool} {n : Nat} (h : ∀ j, j < n → e j = (f j || g j)) (hd : ∀ j, j < n → f j = true → ¬ g j = true) : ct e n = ct f n + ct g n := by
  induction n with
  | zero => rfl
  | succ n ih =>
    rw [ct_s, ct_s, ct_s, ih (fun j hj => h j (by omega)) (fun j hj => hd j (by omega)), h n (by omega)]
    by_cases c : f n = true
    · rw [if_pos (by rw [c]; rfl), if_pos c, if_neg (hd n (by omega) c)]; omega
    · by_cases d : g n = true
      · rw [if_pos (by rw [d, Bool.or_true]), if_neg c, if_pos d]; omega
      · rw [if_neg (fun q => by rw [Bool.or_eq_true] at q; exact q.elim c d), if_neg c, if_neg d]; omega
def lt' (s : Nat → Nat) (x : Nat) : Nat → Bool := fun j => decide (s j < x)
theorem lt'_t {s : Nat → Nat} {x j : Nat} : lt' s x j = true ↔ s j < x := decide_eq_true_iff
def srtd (s : Nat → Nat) (n : Nat) : Prop := ∀ i j, i ≤ j → j < n → s i ≤ s j
theorem srt_lt {s : Nat → Nat} {n i : Nat} (h : srtd s n) (hi : i < n) (x : Nat) : s i < x ↔ i < ct (lt' s x) n := by
  constructor
  · intro hx
    have h1 : ct (lt' s x) (i + 1) = i + 1 := ct_all (fun j hj => lt'_t.mpr (by have := h j i (by omega) hi; omega))
    have h2 := ct_le_n (f := lt' s x) (show i + 1 ≤ n by omega)
    omega
  · intro hx
    apply Classical.byContradiction
    intro hn
    have h1 := ct_tail (f := lt' s x) (show i ≤ n by omega) (fun j h1 h2 h3 => by
      have a := lt'_t.mp h3
      have b := h i j h1 h2
      omega)
    have h2 := ct_le (lt' s x) i
    omega
theorem srt_eq {s t : Nat → Nat} {n : Nat} (hs : srtd s n) (ht : srtd t n) (h : ∀ x, ct (lt' s x) n = ct (lt' t x) n) : ∀ i, i < n → s i = t i := by
  intro i hi
  have k : ∀ x, s i < x ↔ t i < x := fun x => by rw [srt_lt hs hi, srt_lt ht hi, h x]
  have a := (k (s i + 1)).mp (by omega)
  have b := (k (t i + 1)).mpr (by omega)
  omega
/-! insertion -/
def ins (s : Nat → Nat) (a v : Nat) : Nat → Nat := fun j => if j < a then s j else if j = a then v else s (j - 1)
theorem ins_ct (s : Nat → Nat) (a v x : Nat) : ∀ b, a ≤ b → ct (lt' (ins s a v) x) (b + 1) = ct (lt' s x) b + (if v < x then 1 else 0) := by
  intro b
  induction b with
  | zero =>
    intro ha
    have e : a = 0 := by omega
    subst e
    rw [ct_s]
    have : lt' (ins s 0 v) x 0 = decide (v < x) := rfl
    rw [this]
    by_cases c : v < x
    · rw [decide_eq_true c, if_pos rfl, if_pos c]; rfl
    · rw [decide_eq_false c, if_neg (by decide), if_neg c]; rfl
  | succ b ih =>
    intro ha
    rw [ct_s]
    rcases Nat.lt_or_ge b a with c | c
    · have e : a = b + 1 := by omega
      subst e
      have h1 : ct (lt' (ins s (b + 1) v) x) (b + 1) = ct (lt' s x) (b + 1) := ct_congr (fun j hj => by
        unfold lt' ins
        rw [if_pos hj])
      have h2 : lt' (ins s (b + 1) v) x (b + 1) = decide (v < x) := by
        unfold lt' ins
        rw [if_neg (by omega), if_pos rfl]
      rw [h1, h2]
      by_cases d : v < x
      · rw [decide_eq_true d, if_pos rfl, if_pos d]
      · rw [decide_eq_false d, if_neg (by decide), if_neg d]
    · have h2 : lt' (ins s a v) x (b + 1) = lt' s x b := by
        unfold lt' ins
        rw [if_neg (by omega), if_neg (by omega), Nat.add_sub_cancel]
      rw [ih c, h2, ct_s]
      omega
theorem ins_srt {s : Nat → Nat} {a v b : Nat} (hs : srtd s b) (hab : a ≤ b) (h1 : ∀ j, a ≤ j → j < b → v < s j) (h2 : ∀ j, j < a → s j ≤ v) : srtd (ins s a v) (b + 1) := by
  intro i j hij hj
  unfold ins
  by_cases c1 : i < a
  · rw [if_pos c1]
    by_cases d1 : j < a
    · rw [if_pos d1]; exact hs i j hij (by omega)
    · rw [if_neg d1]
      by_cases d2 : j = a
      · rw [if_pos d2]; exact h2 i c1
      · rw [if_neg d2]; exact hs i (j - 1) (by omega) (by omega)
  · rw [if_neg c1, if_neg (show ¬ j < a by omega)]
    by_cases c2 : i = a
    · rw [if_pos c2]
      by_cases d2 : j = a
      · rw [if_pos d2]; exact Nat.le_refl _
      · rw [if_neg d2]; exact Nat.le_of_lt (h1 (j - 1) (by omega) (by omega))
    · rw [if_neg c2, if_neg (show ¬ j = a by omega)]
      exact hs (i - 1) (j - 1) (by omega) (by omega)
theorem ins_lt {s : Nat → Nat} {a v b M : Nat} (hab : a ≤ b) (h : ∀ j, j < b → s j < M) (hv : v < M) : ∀ j, j < b + 1 → ins s a v j < M := by
  intro j hj
  unfold ins
  split
  · exact h j (by omega)
  · split
    · exact hv
    · exact h (j - 1) (by omega)
theorem k33 {N : Nat} {b v : Nat} {s : Nat → Nat} {σ0 : St} (hb : b < 8) (hs : srtd s b) (hs1 : ∀ j, j < b → s j < 1000) (hv : v < 1000) (K : St → Int32 → Option (Int64 × St)) : ∀ (at' n : Nat) (σ : St), at' ≤ b → at' < n → O1 9 σ0 σ → (∀ j, j < at' → σ.2.1 9 j = nI (s j)) → (∀ j, at' < j → j ≤ b → σ.2.1 9 j = nI (s (j - 1))) → (∀ j, at' ≤ j → j < b → v < s j) →
    ∃ a σ', a ≤ b ∧ O1 9 σ0 σ' ∧ (∀ j, j < b + 1 → σ'.2.1 9 j = nI (ins s a v j)) ∧ (∀ j, a ≤ j → j < b → v < s j) ∧ (∀ j, j < a → s j ≤ v) ∧ lp_X1_keyOfPlaces_33 N (nI b) (nI v) K n σ (nI at') = K σ' (nI (b + 1)) := by
  have fin : ∀ (at' : Nat) (σ : St), at' ≤ b → O1 9 σ0 σ → (∀ j, j < at' → σ.2.1 9 j = nI (s j)) → (∀ j, at' < j → j ≤ b → σ.2.1 9 j = nI (s (j - 1))) → O1 9 σ0 (sA σ 9 (nI at') (nI v)) ∧ ∀ j, j < b + 1 → (sA σ 9 (nI at') (nI v)).2.1 9 j = nI (ins s at' v j) := by
    intro at' σ ha o h1 h2
    refine ⟨o.tr (O1.sA _ _), fun j hj => ?_⟩
    rw [sA_row _ _ _ _ (by omega)]
    unfold ins
    by_cases c1 : j < at'
    · rw [if_pos c1, pk_un (by omega)]; exact h1 j c1
    · rw [if_neg c1]
      by_cases c2 : j = at'
      · rw [if_pos c2, c2, pk_us]
      · rw [if_neg c2, pk_un c2]; exact h2 j (by omega) (by omega)
  intro at'
  induction at' with
  | zero =>
    intro n σ ha hn o h1 h2 h3
    obtain ⟨n, rfl⟩ : ∃ j, n = j + 1 := ⟨n - 1, by omega⟩
    obtain ⟨f1, f2⟩ := fin 0 σ ha o h1 h2
    refine ⟨0, _, by omega, f1, f2, h3, fun j hj => by omega, ?_⟩
    rw [lp_X1_keyOfPlaces_33, if_pos (show nI 0 ≤ 0 by decide), gd_t (okx_nI (by omega) (by omega)), nm_eq, nm_eq, nI_1]
  | succ at' ih =>
    intro n σ ha hn o h1 h2 h3
    obtain ⟨n, rfl⟩ : ∃ j, n = j + 1 := ⟨n - 1, by omega⟩
    have hsa := hs1 at' (by omega)
    rw [lp_X1_keyOfPlaces_33, if_neg (nI_nle (by omega) (by omega)), nI_pred, gd_t (okx_nI (by omega) (by omega)), ra_nI _ _ (by omega), h1 at' (by omega)]
    rcases Nat.lt_or_ge v (s at') with c | c
    · rw [if_neg (nI_ge c (by omega)), gd_t (okx_nI (by omega) (by omega)), gd_t (okx_nI (by omega) (by omega)), nm_eq, nm_eq, pk_m1]
      refine ih n _ (by omega) (by omega) (o.tr (O1.sA _ _)) (fun j hj => ?_) (fun j hj hj2 => ?_) (fun j hj hj2 => ?_)
      · rw [sA_row _ _ _ _ (by omega), pk_un (by omega)]; exact h1 j (by omega)
      · rw [sA_row _ _ _ _ (by omega)]
        by_cases d : j = at' + 1
        · rw [d, pk_us, Nat.add_sub_cancel]
        · rw [pk_un d]; exact h2 j (by omega) hj2
      · rcases Nat.lt_or_ge at' j with d | d
        · exact h3 j d hj2
        · rw [show j = at' by omega]; exact c
    · obtain ⟨f1, f2⟩ := fin (at' + 1) σ ha o h1 h2
      refine ⟨at' + 1, _, ha, f1, f2, h3, fun j hj => ?_, ?_⟩
      · have := hs j at' (by omega) (by omega)
        omega
      · rw [if_pos (nI_le c (by omega)), gd_t (okx_nI (by omega) (by omega)), nm_eq, nm_eq, nI_1]
/-! places -/
noncomputable def pp (x : Int32) : Nat := if h : x = 0 then 0 else Classical.choose (low_ex h) + 1
theorem pp_0 : pp 0 = 0 := by unfold pp; rw [dif_pos rfl]
theorem pp_low {x : Int32} {k : Nat} (h : low x k) : pp x = k + 1 := by
  have hx : x ≠ 0 := nz_iff.mpr ⟨k, h.1, h.2.1⟩
  unfold pp
  rw [dif_neg hx, low_fun (Classical.choose_spec (low_ex hx)) h]
theorem plc_pp (x : Int32) : plc x = nI (pp x) - 1 := by
  by_cases h : x = 0
  · subst h; rw [plc_0, pp_0]; rfl
  · obtain ⟨k, hk⟩ := low_ex h
    rw [plc_low hk, pp_low hk, nI_pred]
theorem pp_le {x : Int32} {n : Nat} (h : inb x n) : pp x ≤ n := by
  by_cases z : x = 0
  · subst z; rw [pp_0]; omega
  · obtain ⟨k, hk⟩ := low_ex z
    have := low_lt hk h
    rw [pp_low hk]; omega
/-! longs as numbers -/
theorem btl_lN {n : Nat} (h : n < 2 ^ 64) (i : Nat) : btl (lN n) i = n.testBit i := by
  show (BitVec.ofNat 64 n).toNat.testBit i = _
  rw [BitVec.toNat_ofNat, Nat.mod_eq_of_lt h]
theorem lN_dig {d r : Nat} (hd : d < 2 ^ 50) (hr : r < 32) : jlshl (lN d) 5 ||| lN r = lN (d * 32 + r) := by
  apply l_ext
  intro i hi
  rw [l_or, show jlshl (lN d) 5 = jlshl (lN d) (nI 5) from rfl, l_shl (by omega) _ hi, btl_lN (by omega), btl_lN (by omega), btl_lN (by omega), show d * 32 + r = 2 ^ 5 * d + r by omega, Nat.testBit_two_pow_mul_add d (show r < 2 ^ 5 by omega)]
  rcases Nat.lt_or_ge i 5 with c | c
  · rw [decide_eq_false (by omega), Bool.false_and, Bool.false_or, if_pos c]
  · rw [decide_eq_true c, Bool.true_and, if_neg (by omega), Nat.testBit_lt_two_pow (Nat.lt_of_lt_of_le (show r < 2 ^ 5 by omega) (Nat.pow_le_pow_right (by omega) c)), Bool.or_false]
def dig (s : Nat → Nat) : Nat → Nat
  | 0 => 0
  | k + 1 => dig s k * 32 + s k % 32
theorem dig_s (s : Nat → Nat) (k : Nat) : dig s (k + 1) = dig s k * 32 + s k % 32 := rfl
theorem dig_lt (s : Nat → Nat) : ∀ k, dig s k < 2 ^ (5 * k) := by
  intro k
  induction k with
  | zero => exact Nat.one_pos
  | succ k ih =>
    rw [dig_s, show 5 * (k + 1) = 5 * k + 5 by omega, Nat.pow_add]
    have := Nat.mod_lt (s k) (show 0 < 32 by omega)
    generalize 2 ^ (5 * k) = M at *
    omega
theorem dig_lt8 (s : Nat → Nat) {k : Nat} (hk : k ≤ 8) : dig s k < 2 ^ 40 := Nat.lt_of_lt_of_le (dig_lt s k) (Nat.pow_le_pow_right (by omega) (by omega))
theorem dig_inj {s t : Nat → Nat} : ∀ {n : Nat}, dig s n = dig t n → ∀ k, k < n → s k % 32 = t k % 32 := by
  intro n
  induction n with
  | zero => intro _ k hk; omega
  | succ n ih =>
    intro h k hk
    rw [dig_s, dig_s] at h
    have a := Nat.mod_lt (s n) (show 0 < 32 by omega)
    have b := Nat.mod_lt (t n) (show 0 < 32 by omega)
    rcases Nat.lt_or_ge k n with c | c
    · exact ih (by omega) k c
    · rw [show k = n by omega]; omega
theorem dig_congr {s t : Nat → Nat} {n : Nat} (h : ∀ k, k < n → s k = t k) : dig s n = dig t n := by
  induction n with
  | zero => rfl
  | succ n ih => rw [dig_s, dig_s, ih (fun k hk => h k (by omega)), h n (by omega)]
theorem k86 {N : Nat} {nb : Nat} {s : Nat → Nat} {σ : St} (hnb : nb ≤ 8) (h6 : σ.1 6 = nI nb) (hs : ∀ j, j < nb → σ.2.1 9 j = nI (s j)) (hs1 : ∀ j, j < nb → s j < 1000) : ∀ (e n k : Nat), k + e = nb → e < n → lp_X1_keyOfPlaces_86 N σ n (lN (dig s k)) (nI k) = some (lN (dig s nb), σ) := by
  intro e
  induction e with
  | zero =>
    intro n k hk hn
    obtain ⟨n, rfl⟩ : ∃ j, n = j + 1 := ⟨n - 1, by omega⟩
    rw [lp_X1_keyOfPlaces_86, h6, if_pos (nI_le (by omega) (by omega)), show k = nb by omega]
  | succ e ih =>
    intro n k hk hn
    obtain ⟨n, rfl⟩ : ∃ j, n = j + 1 := ⟨n - 1, by omega⟩
    have hd := dig_lt8 s (show k ≤ 8 by omega)
    have hk1 := hs1 k (by omega)
    rw [lp_X1_keyOfPlaces_86, h6, if_neg (nI_ge (by omega) (by omega)), gd_t (okx_nI (by omega) (by omega)), ra_nI _ _ (by omega), hs k (by omega), pk_andN (by omega) 5 (by decide), nI_l (by omega), lN_dig (by omega) (by omega), nm_eq, nm_eq, nI_1]
    exact ih n (k + 1) (by omega) (by omega)
/-- the class's key of a state -/
def vv (α p : Nat → Nat) : Nat → Nat := fun b => 32 * α b + p b
def CK (nb : Nat) (α p : Nat → Nat) (K : Nat) : Prop := ∃ s, srtd s nb ∧ (∀ x, ct (lt' s x) nb = ct (lt' (vv α p) x) nb) ∧ K = dig s nb
theorem k2 {N : Nat} (hN : 100 ≤ N) {nb : Nat} {α p : Nat → Nat} {σ0 : St} (hnb : nb ≤ 8) (h6 : σ0.1 6 = nI nb) (h5 : ∀ b, b < nb → σ0.2.1 5 b = nI (α b) ∧ α b < 8) (h7 : ∀ b, b < nb → σ0.2.1 7 b = nI (p b) - 1 ∧ p b ≤ 25) : ∀ (e n b : Nat) (s : Nat → Nat) (σ : St), b + e = nb → e < n → O1 9 σ0 σ → srtd s b → (∀ j, j < b → s j < 1000) → (∀ j, j < b → σ.2.1 9 j = nI (s j)) → (∀ x, ct (lt' s x) b = ct (lt' (vv α p) x) b) → ∃ K σ', O1 9 σ0 σ' ∧ CK nb α p K ∧ K < 2 ^ 40 ∧ lp_X1_keyOfPlaces_2 N n σ (nI b) = some (lN K, σ') := by
  intro e
  induction e with
  | zero =>
    intro n b s σ hb hn o h1 h2 h3 h4
    obtain ⟨n, rfl⟩ : ∃ j, n = j + 1 := ⟨n - 1, by omega⟩
    have eb : b = nb := by omega
    subst eb
    have e1 := k86 (N := N) (σ := σ) hnb (by rw [o.1]; exact h6) h3 h2 b N 0 (by omega) (by omega)
    exact ⟨dig s b, σ, o, ⟨s, h1, h4, rfl⟩, dig_lt8 s hnb, by rw [lp_X1_keyOfPlaces_2, o.1, h6, if_pos (nI_le (by omega) (by omega))]; exact e1⟩
  | succ e ih =>
    intro n b s σ hb hn o h1 h2 h3 h4
    obtain ⟨n, rfl⟩ : ∃ j, n = j + 1 := ⟨n - 1, by omega⟩
    obtain ⟨a1, a2⟩ := h5 b (by omega)
    obtain ⟨p1, p2⟩ := h7 b (by omega)
    have ev : (jshl (nI (α b)) 5 + (nI (p b) - 1)) + 1 = nI (32 * α b + p b) := by
      have e1 : jshl (nI (α b)) 5 = nI (32 * α b) := by
        apply num_inj
        have hn : num (nI (α b)) = α b := pk_tn (by omega)
        have hn2 : num (nI (32 * α b)) = 32 * α b := pk_tn (by omega)
        have := shl_num (m := nI (α b)) (k := 5) (by omega) (by rw [hn]; omega)
        rw [hn] at this
        rw [hn2]
        refine Eq.trans this ?_
        omega
      rw [e1, Int32.add_assoc, Int32.sub_add_cancel, nI_add]
    obtain ⟨a, σ1, q1, q2, q3, q4, q5, q6⟩ := k33 (N := N) (σ0 := σ0) (v := 32 * α b + p b) (show b < 8 by omega) h1 h2 (by omega) (fun v0 v1 => lp_X1_keyOfPlaces_2 N n v0 v1) b N σ (Nat.le_refl _) (by omega) o h3 (fun j c1 c2 => by omega) (fun j c1 c2 => by omega)
    rw [lp_X1_keyOfPlaces_2, o.1, h6, if_neg (nI_ge (by omega) (by omega)), gd_t (okx_nI (by omega) (by omega)), gd_t (okx_nI (by omega) (by omega)), ra_nI _ _ (by omega), ra_nI _ _ (by omega), o.2.1 5 (by omega), o.2.1 7 (by omega), a1, p1, ev, nm_eq, q6]
    exact ih n (b + 1) (ins s a (32 * α b + p b)) σ1 (by omega) (by omega) q2 (ins_srt h1 q1 q4 q5) (ins_lt q1 h2 (by omega)) q3 (fun x => by
      rw [ins_ct _ _ _ _ _ q1, h4 x, ct_s]
      congr 1
      by_cases c : 32 * α b + p b < x
      · rw [if_pos c, if_pos (show lt' (vv α p) x b = true from decide_eq_true c)]
      · rw [if_neg c, if_neg (show ¬ lt' (vv α p) x b = true from fun z => c (of_decide_eq_true z))])
theorem key_ok {N : Nat} (hN : 100 ≤ N) {nb : Nat} {α p : Nat → Nat} {σ : St} (hnb : nb ≤ 8) (h6 : σ.1 6 = nI nb) (h5 : ∀ b, b < nb → σ.2.1 5 b = nI (α b) ∧ α b < 8) (h7 : ∀ b, b < nb → σ.2.1 7 b = nI (p b) - 1 ∧ p b ≤ 25) : ∃ K σ', O1 9 σ σ' ∧ CK nb α p K ∧ K < 2 ^ 40 ∧ f_X1_keyOfPlaces N σ = some (lN K, σ') :=
  k2 hN hnb h6 h5 h7 nb N 0 (fun _ => 0) σ (by omega) (by omega) O1.rf (fun i j _ hj => by omega) (fun j hj => by omega) (fun j hj => by omega) (fun x => rfl)
/-- the same state: as many of each alike ones at each place -/
def ep (α p : Nat → Nat) (c q : Nat) : Nat → Bool := fun b => decide (α b = c) && decide (p b < q)
theorem ep_t {α p : Nat → Nat} {c q b : Nat} : ep α p c q b = true ↔ α b = c ∧ p b < q := by
  unfold ep
  rw [Bool.and_eq_true, decide_eq_true_iff, decide_eq_true_iff]
def Eqv (nb : Nat) (α p p' : Nat → Nat) : Prop := ∀ c q, ct (ep α p c q) nb = ct (ep α p' c q) nb
theorem vv_ct {nb : Nat} {α p : Nat → Nat} (hp : ∀ b, b < nb → p b < 32) (c : Nat) {q : Nat} (hq : q ≤ 32) : ct (lt' (vv α p) (32 * c + q)) nb = ct (lt' α c) nb + ct (ep α p c q) nb := by
  refine ct_add (fun j hj => ?_) (fun j hj h1 h2 => ?_)
  · have := hp j hj
    apply Bool.eq_iff_iff.mpr
    rw [Bool.or_eq_true, lt'_t, lt'_t, ep_t]
    unfold vv
    omega
  · have a := lt'_t.mp h1
    have b := ep_t.mp h2
    omega
theorem CK_iff {nb : Nat} {α p p' : Nat → Nat} {K K' : Nat} (hp : ∀ b, b < nb → p b < 32) (hp' : ∀ b, b < nb → p' b < 32) (h1 : CK nb α p K) (h2 : CK nb α p' K') : K = K' ↔ Eqv nb α p p' := by
  obtain ⟨s, s1, s2, s3⟩ := h1
  obtain ⟨t, t1, t2, t3⟩ := h2
  constructor
  · intro e
    rw [s3, t3] at e
    have hmod := dig_inj e
    have hdiv : ∀ k, k < nb → s k / 32 = t k / 32 := by
      intro k hk
      have h : ∀ c, s k < 32 * c ↔ t k < 32 * c := by
        intro c
        rw [srt_lt s1 hk, srt_lt t1 hk, s2, t2]
        have a := vv_ct (α := α) hp c (show 0 ≤ 32 by omega)
        have b := vv_ct (α := α) hp' c (show 0 ≤ 32 by omega)
        rw [Nat.add_zero] at a b
        have z : ∀ p : Nat → Nat, ct (ep α p c 0) nb = 0 := by
          intro p
          have := ct_tail (f := ep α p c 0) (i := 0) (n := nb) (by omega) (fun j _ _ h => by have := (ep_t.mp h).2; omega)
          exact this
        rw [a, b, z, z]
      have a := (h (s k / 32 + 1)).mp (by omega)
      have b := (h (t k / 32 + 1)).mpr (by omega)
      omega
    have hst : ∀ k, k < nb → s k = t k := fun k hk => by
      have a := hmod k hk
      have b := hdiv k hk
      omega
    have hV : ∀ x, ct (lt' (vv α p) x) nb = ct (lt' (vv α p') x) nb := fun x => by
      rw [← s2, ← t2]
      exact ct_congr (fun j hj => by unfold lt'; rw [hst j hj])
    have h32 : ∀ c q, q ≤ 32 → ct (ep α p c q) nb = ct (ep α p' c q) nb := by
      intro c q hq
      have a := vv_ct (α := α) hp c hq
      have b := vv_ct (α := α) hp' c hq
      have v := hV (32 * c + q)
      omega
    intro c q
    rcases Nat.lt_or_ge 32 q with d | d
    · have z : ∀ p : Nat → Nat, (∀ b, b < nb → p b < 32) → ct (ep α p c q) nb = ct (ep α p c 32) nb := by
        intro p hp
        refine ct_congr (fun j hj => ?_)
        have := hp j hj
        unfold ep
        rw [decide_eq_true (show p j < q by omega), decide_eq_true (show p j < 32 by omega)]
      rw [z p hp, z p' hp']
      exact h32 c 32 (Nat.le_refl _)
    · exact h32 c q d
  · intro h
    rw [s3, t3]
    refine dig_congr (srt_eq s1 t1 (fun x => ?_))
    rw [s2, t2]
    have a := vv_ct (α := α) hp (x / 32) (show x % 32 ≤ 32 by omega)
    have b := vv_ct (α := α) hp' (x / 32) (show x % 32 ≤ 32 by omega)
    rw [show 32 * (x / 32) + x % 32 = x by omega] at a b
    rw [a, b, h]

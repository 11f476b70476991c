/-! the reference's key: alike blocks' cells in order -/
def Sm (x y : Int32) : Prop := (x = 0 ∧ y = 0) ∨ ∃ c l k, c % 2 = 1 ∧ num x = c * 2 ^ l ∧ num y = c * 2 ^ k
theorem Sm.rf (x : Int32) : Sm x x := by
  by_cases h : x = 0
  · exact Or.inl ⟨h, h⟩
  · obtain ⟨l, hl⟩ := low_ex h
    obtain ⟨c, h1, h2⟩ := low_num hl
    exact Or.inr ⟨c, l, l, h1, h2, h2⟩
theorem Sm.sy {x y : Int32} (h : Sm x y) : Sm y x := by
  rcases h with ⟨a, b⟩ | ⟨c, l, k, h1, h2, h3⟩
  · exact Or.inl ⟨b, a⟩
  · exact Or.inr ⟨c, k, l, h1, h3, h2⟩
theorem odd_nz {x : Int32} {c l : Nat} (hc : c % 2 = 1) (h : num x = c * 2 ^ l) : x ≠ 0 := by
  intro e
  have := (num_low hc h).2.1
  rw [e, b_0] at this
  cases this
theorem Sm.tr {x y z : Int32} (h : Sm x y) (h' : Sm y z) : Sm x z := by
  rcases h with ⟨a, b⟩ | ⟨c, l, k, h1, h2, h3⟩
  · rcases h' with ⟨a', b'⟩ | ⟨c', l', k', h1', h2', h3'⟩
    · exact Or.inl ⟨a, b'⟩
    · exact absurd b (odd_nz h1' h2')
  · rcases h' with ⟨a', b'⟩ | ⟨c', l', k', h1', h2', h3'⟩
    · exact absurd a' (odd_nz h1 h3)
    · obtain ⟨e, -⟩ := odd_un h1 h1' h3 h2'
      exact Or.inr ⟨c, l, k', h1, h2, by rw [e]; exact h3'⟩
theorem Sm_pp {x y : Int32} (h : Sm x y) (hx : inb x 25) (hy : inb y 25) : (x < y ↔ pp x < pp y) ∧ (x = y ↔ pp x = pp y) := by
  rcases h with ⟨a, b⟩ | ⟨c, l, k, h1, h2, h3⟩
  · rw [a, b, pp_0]
    exact ⟨⟨fun h => absurd h (by decide), fun h => by omega⟩, ⟨fun _ => rfl, fun _ => rfl⟩⟩
  · have e1 := num_low h1 h2
    have e2 := num_low h1 h3
    have n1 := num_lt_inb hx
    have n2 := num_lt_inb hy
    have q : num x < num y ↔ l < k := by
      rw [h2, h3, Nat.mul_lt_mul_left (by omega : 0 < c), Nat.pow_lt_pow_iff_right (by omega)]
    rw [pp_low e1, pp_low e2]
    constructor
    · rw [← nI_num x, ← nI_num y, nI_ltI (by omega) (by omega), q]
      omega
    · constructor
      · intro e
        rw [e] at e1
        rw [low_fun e1 e2]
      · intro e
        apply num_inj
        rw [h2, h3, show l = k by omega]
/-- below in the order of its alike ones -/
def rf (α p : Nat → Nat) (b : Nat) : Nat → Bool := fun j => decide (α j = α b) && (decide (p j < p b) || (decide (p j = p b) && decide (j < b)))
theorem rf_t {α p : Nat → Nat} {b j : Nat} : rf α p b j = true ↔ α j = α b ∧ (p j < p b ∨ (p j = p b ∧ j < b)) := by
  unfold rf
  rw [Bool.and_eq_true, Bool.or_eq_true, Bool.and_eq_true, decide_eq_true_iff, decide_eq_true_iff, decide_eq_true_iff, decide_eq_true_iff]
def eqc (α : Nat → Nat) (c : Nat) : Nat → Bool := fun j => decide (α j = c)
theorem eqc_t {α : Nat → Nat} {c j : Nat} : eqc α c j = true ↔ α j = c := decide_eq_true_iff
theorem ord_inj {α p : Nat → Nat} {nb b b' : Nat} (hb : b < nb) (hb' : b' < nb) (ha : α b = α b') (h : ct (rf α p b) nb = ct (rf α p b') nb) : b = b' := by
  have key : ∀ x y, x < nb → y < nb → α x = α y → (p x < p y ∨ (p x = p y ∧ x < y)) → ct (rf α p x) nb < ct (rf α p y) nb := by
    intro x y hx hy hxy hlt
    refine ct_strict (i := x) (fun j hj h1 => ?_) hx (fun h1 => ?_) (rf_t.mpr ⟨hxy, hlt⟩)
    · have := rf_t.mp h1
      refine rf_t.mpr ⟨this.1.trans hxy, ?_⟩
      omega
    · have := rf_t.mp h1
      omega
  rcases Nat.lt_trichotomy b b' with c | c | c
  · rcases Nat.lt_or_ge (p b') (p b) with d | d
    · have := key b' b hb' hb ha.symm (Or.inl d); omega
    · have := key b b' hb hb' ha (by omega); omega
  · exact c
  · rcases Nat.lt_or_ge (p b) (p b') with d | d
    · have := key b b' hb hb' ha (Or.inl d); omega
    · have := key b' b hb' hb ha.symm (by omega); omega
theorem seat_ex {α p : Nat → Nat} {nb b : Nat} (hb : b < nb) : ∃ s, s < nb ∧ α s = α b ∧ ct (eqc α (α b)) s = ct (rf α p b) nb := by
  have h : ct (rf α p b) nb < ct (eqc α (α b)) nb := ct_strict (i := b) (fun j hj h1 => eqc_t.mpr (rf_t.mp h1).1) hb (fun h1 => by have := rf_t.mp h1; omega) (eqc_t.mpr rfl)
  obtain ⟨s, h1, h2, h3⟩ := ct_at h
  exact ⟨s, h1, eqc_t.mp h2, h3⟩
theorem seat_onto {α p : Nat → Nat} {nb s : Nat} (hs : s < nb) : ∃ b, b < nb ∧ α b = α s ∧ ct (eqc α (α s)) s = ct (rf α p b) nb := by
  have hf : ∀ b, ∃ s, b < nb → s < nb ∧ α s = α b ∧ ct (eqc α (α b)) s = ct (rf α p b) nb := by
    intro b
    by_cases hb : b < nb
    · obtain ⟨s, h⟩ := seat_ex (α := α) (p := p) hb
      exact ⟨s, fun _ => h⟩
    · exact ⟨0, fun h => absurd h hb⟩
  obtain ⟨f, hf⟩ : ∃ f : Nat → Nat, ∀ b, b < nb → f b < nb ∧ α (f b) = α b ∧ ct (eqc α (α b)) (f b) = ct (rf α p b) nb := ⟨fun b => Classical.choose (hf b), fun b => Classical.choose_spec (hf b)⟩
  have hp : perm nb f := ⟨fun v hv => (hf v hv).1, fun u v hu hv e => by
    have h1 := hf u hu
    have h2 := hf v hv
    have ha : α u = α v := by rw [← h1.2.1, ← h2.2.1, e]
    refine ord_inj (p := p) hu hv ha ?_
    rw [← h1.2.2, ← h2.2.2, e, ha]⟩
  obtain ⟨b, hb, e⟩ := perm_onto nb f hp s hs
  have h1 := hf b hb
  rw [e] at h1
  exact ⟨b, hb, h1.2.1.symm, by rw [h1.2.1]; exact h1.2.2⟩
/-- the key of a state -/
def RK (nb : Nat) (α p : Nat → Nat) (m κ : Nat → Int32) : Prop := (∀ s, nb ≤ s → s < 8 → κ s = 0) ∧ ∀ b s, b < nb → s < nb → α s = α b → ct (eqc α (α b)) s = ct (rf α p b) nb → κ s = m b
theorem RK_iff {nb : Nat} {α p p' : Nat → Nat} {m m' κ κ' : Nat → Int32} (hnb : nb ≤ 8) (h1 : RK nb α p m κ) (h2 : RK nb α p' m' κ') (hm : ∀ b b', b < nb → b' < nb → α b = α b' → (m b = m' b' ↔ p b = p' b')) : (∀ s, s < 8 → κ s = κ' s) ↔ Eqv nb α p p' := by
  have cut : ∀ (p : Nat → Nat) b s q, b < nb → s < nb → α b = α s → ct (eqc α (α s)) s = ct (rf α p b) nb → (p b < q ↔ ct (eqc α (α s)) s < ct (ep α p (α s) q) nb) := by
    intro p b s q hb hs ha e
    rw [e]
    constructor
    · intro hq
      refine ct_strict (i := b) (fun j hj h => ?_) hb (fun h => ?_) (ep_t.mpr ⟨ha, hq⟩)
      · have := rf_t.mp h
        exact ep_t.mpr ⟨this.1.trans ha, by omega⟩
      · have := rf_t.mp h; omega
    · intro hlt
      apply Classical.byContradiction
      intro hq
      have := ct_mono (f := ep α p (α s) q) (g := rf α p b) (n := nb) (fun j hj h => by
        have := ep_t.mp h
        exact rf_t.mpr ⟨this.1.trans ha.symm, by omega⟩)
      omega
  have hk : ∀ s, s < nb → ∃ b b', b < nb ∧ b' < nb ∧ (∀ q, p b < q ↔ ct (eqc α (α s)) s < ct (ep α p (α s) q) nb) ∧ (∀ q, p' b' < q ↔ ct (eqc α (α s)) s < ct (ep α p' (α s) q) nb) ∧ (κ s = κ' s ↔ p b = p' b') := by
    intro s hs
    obtain ⟨b, hb, ha, e⟩ := seat_onto (α := α) (p := p) hs
    obtain ⟨b', hb', ha', e'⟩ := seat_onto (α := α) (p := p') hs
    refine ⟨b, b', hb, hb', fun q => cut p b s q hb hs ha e, fun q => cut p' b' s q hb' hs ha' e', ?_⟩
    rw [h1.2 b s hb hs ha.symm (by rw [ha]; exact e), h2.2 b' s hb' hs ha'.symm (by rw [ha']; exact e')]
    exact hm b b' hb hb' (by rw [ha, ha'])
  constructor
  · intro hκ c q
    have no : ∀ (p p' : Nat → Nat), (∀ s, s < nb → ∃ b b', (∀ q, p b < q ↔ ct (eqc α (α s)) s < ct (ep α p (α s) q) nb) ∧ (∀ q, p' b' < q ↔ ct (eqc α (α s)) s < ct (ep α p' (α s) q) nb) ∧ p b = p' b') → ¬ ct (ep α p c q) nb < ct (ep α p' c q) nb := by
      intro p p' H hlt
      have hle : ct (ep α p' c q) nb ≤ ct (eqc α c) nb := ct_mono (fun j hj h => eqc_t.mpr (ep_t.mp h).1)
      obtain ⟨s, s1, s2, s3⟩ := ct_at (n := nb) (f := eqc α c) (r := ct (ep α p c q) nb) (by omega)
      have hc : α s = c := eqc_t.mp s2
      obtain ⟨b, b', c1, c2, c3⟩ := H s s1
      have d1 := c1 q
      have d2 := c2 q
      rw [hc, s3] at d1 d2
      have := d2.mpr hlt
      rw [← c3] at this
      have := d1.mp this
      omega
    have a := no p p' (fun s hs => by
      obtain ⟨b, b', _, _, c1, c2, c3⟩ := hk s hs
      exact ⟨b, b', c1, c2, c3.mp (hκ s (by omega))⟩)
    have b := no p' p (fun s hs => by
      obtain ⟨b, b', _, _, c1, c2, c3⟩ := hk s hs
      exact ⟨b', b, c2, c1, (c3.mp (hκ s (by omega))).symm⟩)
    omega
  · intro he s hs
    rcases Nat.lt_or_ge s nb with d | d
    · obtain ⟨b, b', _, _, c1, c2, c3⟩ := hk s d
      refine c3.mpr ?_
      have f : ∀ q, p b < q ↔ p' b' < q := fun q => by rw [c1, c2, he]
      have x := (f (p b + 1)).mp (by omega)
      have y := (f (p' b' + 1)).mpr (by omega)
      omega
    · rw [h1.1 s d hs, h2.1 s d hs]
/-! its loops -/
theorem or35 {N : Nat} {nb b : Nat} {α p : Nat → Nat} {m : Nat → Int32} {τ : St} (hnb : nb ≤ 8) (hb : b < nb) (t4 : τ.1 4 = nI nb) (t9 : ∀ k, k < nb → τ.2.1 9 k = nI (α k) ∧ α k < 8) (t10 : ∀ k, k < nb → τ.2.1 10 k = m k) (hm : ∀ k b, k < nb → b < nb → α k = α b → (m k < m b ↔ p k < p b) ∧ (m k = m b ↔ p k = p b)) (K : St → Int32 → Option St) : ∀ (e n j : Nat), j + e = nb → e < n → lp_X7_order_35 N τ (nI b) K n (nI (ct (rf α p b) j)) (nI j) = lp_X7_order_104 N τ (nI b) K N (nI (ct (rf α p b) nb)) 0 := by
  intro e
  induction e with
  | zero =>
    intro n j hj hn
    obtain ⟨n, rfl⟩ : ∃ j, n = j + 1 := ⟨n - 1, by omega⟩
    rw [lp_X7_order_35, t4, if_pos (nI_le (by omega) (by omega)), show j = nb by omega]
  | succ e ih =>
    intro n j hj hn
    obtain ⟨n, rfl⟩ : ∃ j, n = j + 1 := ⟨n - 1, by omega⟩
    have oj : okx (nI j) 8 = true := okx_nI (by omega) (by omega)
    have ob : okx (nI b) 8 = true := okx_nI (by omega) (by omega)
    have aj := t9 j (by omega)
    have ab := t9 b hb
    have next : ∀ v : Bool, rf α p b j = v → nI (ct (rf α p b) j) + (if v = true then 1 else 0) = nI (ct (rf α p b) (j + 1)) := by
      intro v hv
      rw [ct_s, hv]
      cases v
      · rw [if_neg (by decide), if_neg (by decide), Int32.add_zero, Nat.add_zero]
      · rw [if_pos rfl, if_pos rfl, nI_1]
    rw [lp_X7_order_35, t4, if_neg (nI_ge (by omega) (by omega))]
    simp only [gd_t oj, gd_t ob, nm_eq, ra_nI _ _ (show j < 2 ^ 31 by omega), ra_nI _ _ (show b < 2 ^ 31 by omega), aj.1, ab.1, t10 j (by omega), t10 b hb, nI_1]
    have i1 : lp_X7_order_35 N τ (nI b) K n (nI (ct (rf α p b) (j + 1))) (nI (j + 1)) = lp_X7_order_104 N τ (nI b) K N (nI (ct (rf α p b) nb)) 0 := ih n (j + 1) (by omega) (by omega)
    have no : rf α p b j = false → ct (rf α p b) (j + 1) = ct (rf α p b) j := fun hv => by rw [ct_s, hv, if_neg (by decide), Nat.add_zero]
    have ye : rf α p b j = true → ct (rf α p b) (j + 1) = ct (rf α p b) j + 1 := fun hv => by rw [ct_s, hv, if_pos rfl]
    by_cases ha : α j = α b
    · obtain ⟨m1, m2⟩ := hm j b (by omega) hb ha
      rw [if_pos (by rw [ha])]
      by_cases c1 : m j < m b
      · rw [if_pos c1, ← ye (rf_t.mpr ⟨ha, Or.inl (m1.mp c1)⟩)]
        exact i1
      · rw [if_neg c1]
        by_cases c2 : m j = m b
        · rw [if_pos c2]
          rcases Nat.lt_or_ge j b with d | d
          · rw [if_neg (nI_ge d (by omega)), ← ye (rf_t.mpr ⟨ha, Or.inr ⟨m2.mp c2, d⟩⟩)]
            exact i1
          · rw [if_pos (nI_le d (by omega)), ← no (Bool.eq_false_iff.mpr (fun h => by have := rf_t.mp h; have := m2.mp c2; omega))]
            exact i1
        · rw [if_neg c2, ← no (Bool.eq_false_iff.mpr (fun h => by
            rcases (rf_t.mp h).2 with q | q
            · exact c1 (m1.mpr q)
            · exact c2 (m2.mpr q.1)))]
          exact i1
    · rw [if_neg (fun q => ha ((nI_eq (by omega) (by omega)).mp q)), ← no (Bool.eq_false_iff.mpr (fun h => ha (rf_t.mp h).1))]
      exact i1
theorem or104 {N : Nat} {nb b r s0 : Nat} {α : Nat → Nat} {m : Nat → Int32} {τ : St} (hnb : nb ≤ 8) (hb : b < nb) (t9 : ∀ k, k < nb → τ.2.1 9 k = nI (α k) ∧ α k < 8) (t10 : ∀ k, k < nb → τ.2.1 10 k = m k) (hs : s0 < nb) (hs1 : α s0 = α b) (hs2 : ct (eqc α (α b)) s0 = r) (K : St → Int32 → Option St) : ∀ (e n s x : Nat), s + e = s0 → e < n → x + ct (eqc α (α b)) s = r → lp_X7_order_104 N τ (nI b) K n (nI x) (nI s) = K (sA τ 11 (nI s0) (m b)) (nI (b + 1)) := by
  have hr : r ≤ 8 := by rw [← hs2]; have := ct_le (eqc α (α b)) s0; omega
  intro e
  induction e with
  | zero =>
    intro n s x hse hn hx
    obtain ⟨n, rfl⟩ : ∃ j, n = j + 1 := ⟨n - 1, by omega⟩
    have es : s = s0 := by omega
    subst es
    have ob : okx (nI b) 8 = true := okx_nI (by omega) (by omega)
    have os : okx (nI s) 8 = true := okx_nI (by omega) (by omega)
    have x0 : x = 0 := by omega
    subst x0
    rw [lp_X7_order_104]
    simp only [gd_t ob, gd_t os, nm_eq, ra_nI _ _ (show s < 2 ^ 31 by omega), ra_nI _ _ (show b < 2 ^ 31 by omega), (t9 s hs).1, (t9 b hb).1, t10 b hb, nI_1]
    rw [if_pos (by rw [hs1]), if_pos (show nI 0 ≤ 0 by decide)]
  | succ e ih =>
    intro n s x hse hn hx
    obtain ⟨n, rfl⟩ : ∃ j, n = j + 1 := ⟨n - 1, by omega⟩
    have ob : okx (nI b) 8 = true := okx_nI (by omega) (by omega)
    have os : okx (nI s) 8 = true := okx_nI (by omega) (by omega)
    have as := t9 s (by omega)
    have ab := t9 b hb
    rw [lp_X7_order_104]
    simp only [gd_t ob, gd_t os, nm_eq, ra_nI _ _ (show s < 2 ^ 31 by omega), ra_nI _ _ (show b < 2 ^ 31 by omega), as.1, ab.1, nI_1]
    by_cases ha : α s = α b
    · have h1 : ct (eqc α (α b)) (s + 1) = ct (eqc α (α b)) s + 1 := by rw [ct_s, if_pos (eqc_t.mpr ha)]
      have h2 := ct_le_n (f := eqc α (α b)) (show s + 1 ≤ s0 by omega)
      have hx1 : 0 < x := by omega
      obtain ⟨x, rfl⟩ : ∃ j, x = j + 1 := ⟨x - 1, by omega⟩
      have q : nI (α s) = nI (α b) := by rw [ha]
      simp only [if_pos q, if_neg (nI_nle hx1 (by omega)), nI_pred]
      exact ih n (s + 1) x (by omega) (by omega) (by omega)
    · have h1 : ct (eqc α (α b)) (s + 1) = ct (eqc α (α b)) s := by rw [ct_s, if_neg (fun h => ha (eqc_t.mp h)), Nat.add_zero]
      have q : ¬ nI (α s) = nI (α b) := fun q => ha ((nI_eq (by omega) (by omega)).mp q)
      simp only [if_neg q, Int32.sub_zero]
      exact ih n (s + 1) x (by omega) (by omega) (by omega)
theorem or23 {N : Nat} (hN : 100 ≤ N) {nb : Nat} {α p : Nat → Nat} {m : Nat → Int32} {τ0 : St} (hnb : nb ≤ 8) (t4 : τ0.1 4 = nI nb) (t9 : ∀ k, k < nb → τ0.2.1 9 k = nI (α k) ∧ α k < 8) (t10 : ∀ k, k < nb → τ0.2.1 10 k = m k) (hm : ∀ k b, k < nb → b < nb → α k = α b → (m k < m b ↔ p k < p b) ∧ (m k = m b ↔ p k = p b)) : ∀ (e n b : Nat) (τ : St), b + e = nb → e < n → O1 11 τ0 τ → (∀ s, nb ≤ s → s < 8 → τ.2.1 11 s = 0) → (∀ b' s, b' < b → s < nb → α s = α b' → ct (eqc α (α b')) s = ct (rf α p b') nb → τ.2.1 11 s = m b') → ∃ τ', O1 11 τ0 τ' ∧ RK nb α p m (τ'.2.1 11) ∧ lp_X7_order_23 N n τ (nI b) = some τ' := by
  intro e
  induction e with
  | zero =>
    intro n b τ hb hn o h1 h2
    obtain ⟨n, rfl⟩ : ∃ j, n = j + 1 := ⟨n - 1, by omega⟩
    have eb : b = nb := by omega
    subst eb
    exact ⟨τ, o, ⟨h1, h2⟩, by rw [lp_X7_order_23, o.1, t4, if_pos (nI_le (by omega) (by omega))]⟩
  | succ e ih =>
    intro n b τ hb hn o h1 h2
    obtain ⟨n, rfl⟩ : ∃ j, n = j + 1 := ⟨n - 1, by omega⟩
    have hbn : b < nb := by omega
    have t4' : τ.1 4 = nI nb := by rw [o.1]; exact t4
    have t9' : ∀ k, k < nb → τ.2.1 9 k = nI (α k) ∧ α k < 8 := by rw [o.2.1 9 (by omega)]; exact t9
    have t10' : ∀ k, k < nb → τ.2.1 10 k = m k := by rw [o.2.1 10 (by omega)]; exact t10
    obtain ⟨s0, s1, s2, s3⟩ := seat_ex (α := α) (p := p) hbn
    have e1 := or35 (N := N) hnb hbn t4' t9' t10' hm (fun v0 v1 => lp_X7_order_23 N n v0 v1) nb N 0 (by omega) (by omega)
    have e2 := or104 (N := N) (τ := τ) hnb hbn t9' t10' s1 s2 s3 (fun v0 v1 => lp_X7_order_23 N n v0 v1) s0 N 0 _ (by omega) (by omega) (Nat.add_zero _)
    rw [lp_X7_order_23, t4', if_neg (nI_ge (by omega) (by omega))]
    have e3 := e1.trans e2
    show ∃ τ', O1 11 τ0 τ' ∧ RK nb α p m (τ'.2.1 11) ∧ lp_X7_order_35 N τ (nI b) (fun v0 v1 => lp_X7_order_23 N n v0 v1) N (nI (ct (rf α p b) 0)) (nI 0) = some τ'
    rw [e3]
    refine ih n (b + 1) _ (by omega) (by omega) (o.tr (O1.sA _ _)) (fun s c1 c2 => ?_) (fun b' s c1 c2 c3 c4 => ?_)
    · rw [sA_row _ _ _ _ (by omega), pk_un (by omega)]; exact h1 s c1 c2
    · rw [sA_row _ _ _ _ (by omega)]
      by_cases d : s = s0
      · subst d
        have eb : b' = b := ord_inj (p := p) (by omega) hbn (c3.symm.trans s2) (by rw [← c4, ← s3, ← c3, s2])
        rw [eb, pk_us]
      · rw [pk_un d]
        refine h2 b' s ?_ c2 c3 c4
        rcases Nat.lt_or_ge b' b with q | q
        · exact q
        · exfalso
          have eb : b' = b := by omega
          subst eb
          apply d
          have la : ∀ x y, x < y → α x = α b' → ct (eqc α (α b')) x = ct (eqc α (α b')) y → False := by
            intro x y hxy hx he
            have g1 : ct (eqc α (α b')) (x + 1) = ct (eqc α (α b')) x + 1 := by rw [ct_s, if_pos (eqc_t.mpr hx)]
            have g2 := ct_le_n (f := eqc α (α b')) (show x + 1 ≤ y by omega)
            omega
          rcases Nat.lt_trichotomy s s0 with z | z | z
          · exact absurd (c4.trans s3.symm) (fun q => la s s0 z c3 q)
          · exact z
          · exact absurd (s3.trans c4.symm) (fun q => la s0 s z s2 q)
theorem order_ok {N : Nat} (hN : 100 ≤ N) {nb : Nat} {α p : Nat → Nat} {m : Nat → Int32} {τ0 : St} (hnb : nb ≤ 8) (t4 : τ0.1 4 = nI nb) (t9 : ∀ k, k < nb → τ0.2.1 9 k = nI (α k) ∧ α k < 8) (t10 : ∀ k, k < nb → τ0.2.1 10 k = m k) (hm : ∀ k b, k < nb → b < nb → α k = α b → (m k < m b ↔ p k < p b) ∧ (m k = m b ↔ p k = p b)) : ∃ τ', O1 11 τ0 τ' ∧ RK nb α p m (τ'.2.1 11) ∧ f_X7_order N τ0 = some τ' := by
  have key : ∀ (e n k : Nat) (τ : St), k + e = 8 → e < n → O1 11 τ0 τ → (∀ s, s < k → τ.2.1 11 s = 0) → ∃ τ', O1 11 τ0 τ' ∧ RK nb α p m (τ'.2.1 11) ∧ lp_X7_order_2 N n τ (nI k) = some τ' := by
    intro e
    induction e with
    | zero =>
      intro n k τ hk hn o h
      obtain ⟨n, rfl⟩ : ∃ j, n = j + 1 := ⟨n - 1, by omega⟩
      rw [lp_X7_order_2, if_pos (show (8 : Int32) ≤ nI k from nI_le (a := 8) (by omega) (by omega))]
      exact or23 hN hnb t4 t9 t10 hm nb N 0 τ (by omega) (by omega) o (fun s _ c2 => h s (by omega)) (fun b' s c => by omega)
    | succ e ih =>
      intro n k τ hk hn o h
      obtain ⟨n, rfl⟩ : ∃ j, n = j + 1 := ⟨n - 1, by omega⟩
      rw [lp_X7_order_2, if_neg (show ¬ (8 : Int32) ≤ nI k from nI_ge (b := 8) (by omega) (by omega)), gd_t (okx_nI (by omega) (by omega)), nm_eq, nm_eq, nI_1]
      refine ih n (k + 1) _ (by omega) (by omega) (o.tr (O1.sA _ _)) (fun s hs => ?_)
      rw [sA_row _ _ _ _ (by omega)]
      by_cases d : s = k
      · rw [d, pk_us]
      · rw [pk_un d]; exact h s (by omega)
  exact key 8 N 0 τ0 (by omega) (by omega) O1.rf (fun s hs => by omega)

/-! slide: a step of a block among the others -/
def ormx (w : Int32) (f : Nat → Int32) (b : Nat) : Nat → Int32
  | 0 => w
  | n + 1 => ormx w f b n ||| (if n = b then 0 else f n)
theorem ormx_s (w : Int32) (f : Nat → Int32) (b n : Nat) : ormx w f b (n + 1) = ormx w f b n ||| (if n = b then 0 else f n) := rfl
theorem bt_ormx (w : Int32) (f : Nat → Int32) (b n i : Nat) : bt (ormx w f b n) i = true ↔ bt w i = true ∨ ∃ k, k < n ∧ k ≠ b ∧ bt (f k) i = true := by
  induction n with
  | zero =>
    constructor
    · exact Or.inl
    · rintro (h | ⟨k, hk, -⟩)
      · exact h
      · omega
  | succ n ih =>
    rw [ormx_s, b_or, Bool.or_eq_true, ih]
    constructor
    · rintro ((h | ⟨k, hk, h⟩) | h)
      · exact Or.inl h
      · exact Or.inr ⟨k, by omega, h⟩
      · by_cases e : n = b
        · rw [if_pos e, b_0] at h; cases h
        · rw [if_neg e] at h; exact Or.inr ⟨n, by omega, e, h⟩
    · rintro (h | ⟨k, hk, hkb, h⟩)
      · exact Or.inl (Or.inl h)
      · rcases Nat.lt_or_ge k n with e | e
        · exact Or.inl (Or.inr ⟨k, e, hkb, h⟩)
        · have ek : k = n := by omega
          subst ek
          right
          rw [if_neg hkb]; exact h
theorem ormx_congr {w : Int32} {f g : Nat → Int32} {b n : Nat} (h : ∀ k, k < n → k ≠ b → f k = g k) : ormx w f b n = ormx w g b n := by
  induction n with
  | zero => rfl
  | succ n ih =>
    rw [ormx_s, ormx_s, ih (fun k hk => h k (by omega))]
    by_cases e : n = b
    · rw [if_pos e, if_pos e]
    · rw [if_neg e, if_neg e, h n (by omega) e]
theorem ormx_eq {w : Int32} {f : Nat → Int32} {b n : Nat} (hb : b < n) (hd : dj w f n) : orm w f n &&& (f b ^^^ (-1)) = ormx w f b n := by
  apply b_ext
  intro i hi
  rw [b_and, b_xor, b_m1 i hi]
  apply Bool.eq_iff_iff.mpr
  rw [Bool.and_eq_true, bt_orm, bt_ormx]
  constructor
  · rintro ⟨h | ⟨k, hk, h⟩, h2⟩
    · exact Or.inl h
    · refine Or.inr ⟨k, hk, ?_, h⟩
      rintro rfl
      rw [h] at h2
      cases h2
  · rintro (h | ⟨k, hk, hkb, h⟩)
    · refine ⟨Or.inl h, ?_⟩
      cases e : bt (f b) i
      · rfl
      · rw [hd.1 b hb i hi e] at h; cases h
    · refine ⟨Or.inr ⟨k, hk, h⟩, ?_⟩
      cases e : bt (f b) i
      · rfl
      · rw [hd.2 k b hk hb hkb i hi h] at e; cases e
def stp (w h way : Nat) (m o : Int32) : Int32 := if mv w h way m &&& o = 0 then mv w h way m else 0
theorem stp_nz {w h way : Nat} {m o : Int32} (hz : stp w h way m o ≠ 0) : stp w h way m o = mv w h way m ∧ mv w h way m &&& o = 0 := by
  unfold stp at *
  by_cases e : mv w h way m &&& o = 0
  · exact ⟨if_pos e, e⟩
  · rw [if_neg e] at hz; exact absurd rfl hz
theorem lp_stepped_a2 (N : Nat) (τ : St) {nb b : Nat} (hnb : nb ≤ 8) (h4 : τ.1 4 = nI nb) (hb : b < 8) (x4 : Int32) : ∀ (d n i : Nat), i + d = nb → d < n → lp_X7_stepped_a2_19 N τ (nI b) x4 n (ormx (τ.1 3) (τ.2.1 1) b i) (nI i) = some (if x4 &&& ormx (τ.1 3) (τ.2.1 1) b nb = 0 then x4 else 0) := by
  intro d
  induction d with
  | zero =>
    intro n i hi hn
    obtain ⟨n, rfl⟩ : ∃ m, n = m + 1 := ⟨n - 1, by omega⟩
    rw [lp_X7_stepped_a2_19, h4, if_pos (nI_le (by omega) (by omega)), show i = nb by omega]
    split <;> rfl
  | succ d ih =>
    intro n i hi hn
    obtain ⟨n, rfl⟩ : ∃ m, n = m + 1 := ⟨n - 1, by omega⟩
    have e := ih n (i + 1) (by omega) (by omega)
    rw [ormx_s] at e
    rw [lp_X7_stepped_a2_19, h4, if_neg (nI_ge (by omega) (by omega))]
    by_cases hib : i = b
    · rw [if_pos hib] at e
      rw [if_pos (by rw [hib]), nm_eq, nm_eq, nI_1]
      exact e
    · rw [if_neg hib] at e
      rw [if_neg (fun q => hib ((nI_eq (by omega) (by omega)).mp q)), gd_t (okx_nI (by omega) (by omega)), ra_nI _ _ (by omega), nm_eq, nm_eq, nI_1]
      exact e
theorem stepped_a2_ok {N : Nat} (hN : 100 ≤ N) {τ : St} {w h nb b way : Nat} (h1 : τ.1 1 = nI w) (h2 : τ.1 2 = nI h) (hw : w < 6 ∧ 1 ≤ w) (hh : h < 6 ∧ 1 ≤ h) (hy : way < 4) (hnb : nb ≤ 8) (h4 : τ.1 4 = nI nb) (hb : b < 8) (hm : inb (τ.2.1 1 b) (w * h)) :
    f_X7_stepped_a2 N τ (nI b) (nI way) = some (stp w h way (τ.2.1 1 b) (ormx (τ.1 3) (τ.2.1 1) b nb)) := by
  have h25 := wh25 hw.1 hh.1
  unfold f_X7_stepped_a2
  rw [gd_t (okx_nI hb (by omega)), ra_nI _ _ (by omega), movedR_ok hN h1 h2 hw hh hy (hm 31 (by omega) (by omega)), bd1_some, nm_eq]
  exact lp_stepped_a2 N τ hnb h4 hb _ nb N 0 (by omega) (by omega)
theorem lp_stepped_a11 (N : Nat) (τ : St) {nb b : Nat} (hnb : nb ≤ 8) (h4 : τ.1 4 = nI nb) (hb : b < 8) (x4 : Int32) : ∀ (d n i : Nat), i + d = nb → d < n → lp_X7_stepped_a11_19 N τ (nI b) x4 n (ormx (τ.1 3) (τ.2.1 10) b i) (nI i) = some (if x4 &&& ormx (τ.1 3) (τ.2.1 10) b nb = 0 then x4 else 0) := by
  intro d
  induction d with
  | zero =>
    intro n i hi hn
    obtain ⟨n, rfl⟩ : ∃ m, n = m + 1 := ⟨n - 1, by omega⟩
    rw [lp_X7_stepped_a11_19, h4, if_pos (nI_le (by omega) (by omega)), show i = nb by omega]
    split <;> rfl
  | succ d ih =>
    intro n i hi hn
    obtain ⟨n, rfl⟩ : ∃ m, n = m + 1 := ⟨n - 1, by omega⟩
    have e := ih n (i + 1) (by omega) (by omega)
    rw [ormx_s] at e
    rw [lp_X7_stepped_a11_19, h4, if_neg (nI_ge (by omega) (by omega))]
    by_cases hib : i = b
    · rw [if_pos hib] at e
      rw [if_pos (by rw [hib]), nm_eq, nm_eq, nI_1]
      exact e
    · rw [if_neg hib] at e
      rw [if_neg (fun q => hib ((nI_eq (by omega) (by omega)).mp q)), gd_t (okx_nI (by omega) (by omega)), ra_nI _ _ (by omega), nm_eq, nm_eq, nI_1]
      exact e
theorem stepped_a11_ok {N : Nat} (hN : 100 ≤ N) {τ : St} {w h nb b way : Nat} (h1 : τ.1 1 = nI w) (h2 : τ.1 2 = nI h) (hw : w < 6 ∧ 1 ≤ w) (hh : h < 6 ∧ 1 ≤ h) (hy : way < 4) (hnb : nb ≤ 8) (h4 : τ.1 4 = nI nb) (hb : b < 8) (hm : inb (τ.2.1 10 b) (w * h)) :
    f_X7_stepped_a11 N τ (nI b) (nI way) = some (stp w h way (τ.2.1 10 b) (ormx (τ.1 3) (τ.2.1 10) b nb)) := by
  have h25 := wh25 hw.1 hh.1
  unfold f_X7_stepped_a11
  rw [gd_t (okx_nI hb (by omega)), ra_nI _ _ (by omega), movedR_ok hN h1 h2 hw hh hy (hm 31 (by omega) (by omega)), bd1_some, nm_eq]
  exact lp_stepped_a11 N τ hnb h4 hb _ nb N 0 (by omega) (by omega)
/-! where a cell comes to, and how far it may go on -/
def tgt (w way c : Nat) : Nat := if way = 0 then c + 1 else if way = 1 then c + w else if way = 2 then c - 1 else c - w
def room (w h way c : Nat) : Nat := if way = 0 then w - 1 - c % w else if way = 1 then h - 1 - c / w else if way = 2 then c % w else c / w
theorem tgt_ok0 : ((List.range 5).all (fun w => (List.range 5).all (fun h => (List.range 4).all (fun way => (List.range 25).all (fun c => !(decide (c < (w + 1) * (h + 1)) && okcb (w + 1) (h + 1) way c) || (decide (tgt (w + 1) way c < (w + 1) * (h + 1)) && decide (room (w + 1) (h + 1) way (tgt (w + 1) way c) + 1 = room (w + 1) (h + 1) way c))))))) = true := by decide +kernel
theorem room4_0 : ((List.range 5).all (fun w => (List.range 5).all (fun h => (List.range 4).all (fun way => (List.range 25).all (fun c => !decide (c < (w + 1) * (h + 1)) || decide (room (w + 1) (h + 1) way c ≤ 4)))))) = true := by decide +kernel
theorem tgt_ok {w h way c : Nat} (hw : w < 6 ∧ 1 ≤ w) (hh : h < 6 ∧ 1 ≤ h) (hy : way < 4) (hc : c < w * h) (ho : okc w h way c) : tgt w way c < w * h ∧ room w h way (tgt w way c) + 1 = room w h way c := by
  have h25 := wh25 hw.1 hh.1
  obtain ⟨w, rfl⟩ : ∃ j, w = j + 1 := ⟨w - 1, by omega⟩
  obtain ⟨h, rfl⟩ : ∃ j, h = j + 1 := ⟨h - 1, by omega⟩
  have e1 := List.all_eq_true.mp tgt_ok0 w (List.mem_range.mpr (by omega))
  have e2 := List.all_eq_true.mp e1 h (List.mem_range.mpr (by omega))
  have e3 := List.all_eq_true.mp e2 way (List.mem_range.mpr (by omega))
  have e4 := List.all_eq_true.mp e3 c (List.mem_range.mpr (by omega))
  rw [(okcb_iff _ _ _ _).mpr ho, decide_eq_true hc] at e4
  simp only [Bool.and_self, Bool.not_true, Bool.false_or, Bool.and_eq_true, decide_eq_true_eq] at e4
  exact e4
theorem room4 {w h way c : Nat} (hw : w < 6 ∧ 1 ≤ w) (hh : h < 6 ∧ 1 ≤ h) (hy : way < 4) (hc : c < w * h) : room w h way c ≤ 4 := by
  have h25 := wh25 hw.1 hh.1
  obtain ⟨w, rfl⟩ : ∃ j, w = j + 1 := ⟨w - 1, by omega⟩
  obtain ⟨h, rfl⟩ : ∃ j, h = j + 1 := ⟨h - 1, by omega⟩
  have e1 := List.all_eq_true.mp room4_0 w (List.mem_range.mpr (by omega))
  have e2 := List.all_eq_true.mp e1 h (List.mem_range.mpr (by omega))
  have e3 := List.all_eq_true.mp e2 way (List.mem_range.mpr (by omega))
  have e4 := List.all_eq_true.mp e3 c (List.mem_range.mpr (by omega))
  rw [decide_eq_true hc] at e4
  simp only [Bool.not_true, Bool.false_or, decide_eq_true_eq] at e4
  exact e4
theorem mv_nz {w h way : Nat} {m : Int32} (hz : mv w h way m ≠ 0) : m &&& edge w h way = 0 ∧ mv w h way m = shf w way m := by
  unfold mv at *
  by_cases e : m &&& edge w h way = 0
  · exact ⟨e, if_pos e⟩
  · rw [if_neg e] at hz; exact absurd rfl hz
theorem tgt_le {w h way c : Nat} (hw : w < 6 ∧ 1 ≤ w) (ho : okc w h way c) : (way = 2 → 1 ≤ c) ∧ (way = 3 → w ≤ c) := by
  unfold okc at ho
  constructor
  · rintro rfl
    have h1 : 1 ≤ c % w := ho
    have := Nat.mod_le c w
    omega
  · rintro rfl
    have h1 : 1 ≤ c / w := ho
    rcases Nat.lt_or_ge c w with e | e
    · rw [Nat.div_eq_of_lt e] at h1; omega
    · exact e
theorem mv_fw {w h way c : Nat} {m : Int32} (hw : w < 6 ∧ 1 ≤ w) (hh : h < 6 ∧ 1 ≤ h) (hy : way < 4) (hz : mv w h way m ≠ 0) (hc : c < w * h) (hb : bt m c = true) : okc w h way c ∧ tgt w way c < w * h ∧ bt (mv w h way m) (tgt w way c) = true ∧ room w h way (tgt w way c) + 1 = room w h way c := by
  have h25 := wh25 hw.1 hh.1
  obtain ⟨e0, e1⟩ := mv_nz hz
  have ho := (edge0_iff hw hh hy).mp e0 c hc hb
  obtain ⟨a1, a2⟩ := tgt_ok hw hh hy hc ho
  obtain ⟨l2, l3⟩ := tgt_le hw ho
  refine ⟨ho, a1, ?_, a2⟩
  rw [e1]
  rcases (show way = 0 ∨ way = 1 ∨ way = 2 ∨ way = 3 by omega) with rfl | rfl | rfl | rfl
  · have a1 : c + 1 < w * h := a1
    show bt (jshl m (nI 1)) (c + 1) = true
    rw [bt_shl (by omega) m (by omega)]
    simp [hb]
  · have a1 : c + w < w * h := a1
    show bt (jshl m (nI w)) (c + w) = true
    rw [bt_shl (by omega) m (by omega)]
    simp [hb]
  · have l2 := l2 rfl
    show bt (jushr m (nI 1)) (c - 1) = true
    rw [bt_ushr (by omega) m, show 1 + (c - 1) = c by omega]
    exact hb
  · have l3 := l3 rfl
    show bt (jushr m (nI w)) (c - w) = true
    rw [bt_ushr (by omega) m, show w + (c - w) = c by omega]
    exact hb
theorem inb_lt {m : Int32} {n i : Nat} (hi : inb m n) (h : bt m i = true) : i < n := by
  rcases Nat.lt_or_ge i n with e | e
  · exact e
  · rcases Nat.lt_or_ge i 32 with f | f
    · rw [hi i f e] at h; cases h
    · rw [b_big f] at h; cases h
theorem mv_bw {w h way i : Nat} {m : Int32} (hw : w < 6 ∧ 1 ≤ w) (hh : h < 6 ∧ 1 ≤ h) (hy : way < 4) (hm : inb m (w * h)) (hz : mv w h way m ≠ 0) (hi : i < 32) (hb : bt (mv w h way m) i = true) : ∃ c, c < w * h ∧ bt m c = true ∧ tgt w way c = i := by
  obtain ⟨e0, e1⟩ := mv_nz hz
  rw [e1] at hb
  rcases (show way = 0 ∨ way = 1 ∨ way = 2 ∨ way = 3 by omega) with rfl | rfl | rfl | rfl
  · have hb : bt (jshl m (nI 1)) i = true := hb
    rw [bt_shl (by omega) m hi, Bool.and_eq_true] at hb
    have := of_decide_eq_true hb.1
    exact ⟨i - 1, inb_lt hm hb.2, hb.2, by show i - 1 + 1 = i; omega⟩
  · have hb : bt (jshl m (nI w)) i = true := hb
    rw [bt_shl (by omega) m hi, Bool.and_eq_true] at hb
    have := of_decide_eq_true hb.1
    exact ⟨i - w, inb_lt hm hb.2, hb.2, by show i - w + w = i; omega⟩
  · have hb : bt (jushr m (nI 1)) i = true := hb
    rw [bt_ushr (by omega) m] at hb
    exact ⟨1 + i, inb_lt hm hb, hb, by show 1 + i - 1 = i; omega⟩
  · have hb : bt (jushr m (nI w)) i = true := hb
    rw [bt_ushr (by omega) m] at hb
    exact ⟨w + i, inb_lt hm hb, hb, by show w + i - w = i; omega⟩
theorem mv_inb {w h way : Nat} {m : Int32} (hw : w < 6 ∧ 1 ≤ w) (hh : h < 6 ∧ 1 ≤ h) (hy : way < 4) (hm : inb m (w * h)) (hz : mv w h way m ≠ 0) : inb (mv w h way m) (w * h) := by
  intro i hi hn
  cases e : bt (mv w h way m) i
  · rfl
  · obtain ⟨c, hc, hb, ht⟩ := mv_bw hw hh hy hm hz hi e
    have := (mv_fw hw hh hy hz hc hb).2.1
    omega
theorem RB_mask {w h nb j : Nat} {m : Int32} {σ τ : St} (hB : RB w h nb σ τ) (hj : j < nb) (hin : inb m (w * h)) (hdw : ∀ i, i < 32 → bt m i = true → bt (σ.1 7) i = false) (hdo : ∀ b, b < nb → b ≠ j → ∀ i, i < 32 → bt m i = true → bt (σ.2.1 1 b) i = false) : RB w h nb (sA σ 1 (nI j) m) (sA τ 1 (nI j) m) := by
  obtain ⟨⟨hw, hh, hnb⟩, ⟨s0, s1, s2, s3, s4, s5, s6⟩, ⟨t1, t2, t4, t3⟩, hbl, hz, hwi, hdj⟩ := hB
  have a1 : ∀ b, (sA σ 1 (nI j) m).2.1 1 b = if b = j then m else σ.2.1 1 b := fun b => by rw [sA_21 σ 1 j b _ 1 (by omega)]; simp
  have b1 : ∀ b, (sA τ 1 (nI j) m).2.1 1 b = if b = j then m else τ.2.1 1 b := fun b => by rw [sA_21 _ 1 j b _ 1 (by omega)]; simp
  refine ⟨⟨hw, hh, hnb⟩, ⟨s0, s1, s2, s3, s4, s5, s6⟩, ⟨t1, t2, t4, t3⟩, ?_, ?_, hwi, ?_, ?_⟩
  · intro b hb
    rw [a1, b1]
    obtain ⟨e0, e1, hi, hk⟩ := hbl b hb
    refine ⟨e0, ?_, ?_, hk⟩
    · by_cases e : b = j
      · rw [if_pos e, if_pos e]
      · rw [if_neg e, if_neg e, e1]
    · by_cases e : b = j
      · rw [if_pos e]; exact hin
      · rw [if_neg e]; exact hi
  · intro b hb hb8
    rw [a1, if_neg (by omega)]
    exact hz b hb hb8
  · intro b hb i hi hbi
    rw [a1] at hbi
    by_cases e : b = j
    · rw [if_pos e] at hbi
      exact hdw i hi hbi
    · rw [if_neg e] at hbi
      exact hdj.1 b hb i hi hbi
  · intro a b ha hb hab i hi hbi
    rw [a1] at hbi ⊢
    by_cases e : a = j
    · rw [if_pos e] at hbi
      rw [if_neg (by omega)]
      exact hdo b hb (by omega) i hi hbi
    · rw [if_neg e] at hbi
      by_cases e2 : b = j
      · rw [if_pos e2]
        cases e3 : bt m i
        · rfl
        · rw [hdo a ha e i hi e3] at hbi; cases hbi
      · rw [if_neg e2]
        exact hdj.2 a b ha hb hab i hi hbi
theorem slide_loop {N : Nat} (hN : 100 ≤ N) {w h nb b way : Nat} (hb : b < nb) (hy : way < 4) (x3 o : Int32) :
    ∀ (r n n' done : Nat) (σ τ : St), RB w h nb σ τ → ormx (σ.1 7) (σ.2.1 1) b nb = o → done + r ≤ 4 → (σ.2.1 1 b ≠ 0 → ∃ c, c < w * h ∧ bt (σ.2.1 1 b) c = true ∧ room w h way c ≤ r) → r + 1 < n → r + 2 < n' →
    ∃ res σ1 τ1, lp_X0_slideBlock_18 N (nI b) (nI way) x3 o n σ (nI done) = some (res, σ1) ∧ lp_X7_slide_48 N (nI b) (nI way) x3 n' τ (nI done) (if x3 ≤ nI done then 0 else 1) = some (res, τ1) ∧ RB w h nb σ1 τ1 ∧ O1 1 σ σ1 ∧ O1 1 τ τ1 := by
  intro r
  induction r using Nat.strongRecOn with
  | ind r ih =>
    intro n n' done σ τ hB ho hd hroom hn hn'
    have hB' := hB
    obtain ⟨⟨hw, hh, hnb⟩, ⟨s0, s1, s2, s3, s4, s5, s6⟩, ⟨t1, t2, t4, t3⟩, hbl, hz, hwi, hdj⟩ := hB'
    obtain ⟨n, rfl⟩ : ∃ m, n = m + 1 := ⟨n - 1, by omega⟩
    obtain ⟨n', rfl⟩ : ∃ m, n' = m + 1 := ⟨n' - 1, by omega⟩
    obtain ⟨q0, q1, hin, hk⟩ := hbl b hb
    by_cases h3 : x3 ≤ nI done
    · refine ⟨nI done, σ, τ, ?_, ?_, hB, O1.rf, O1.rf⟩
      · rw [lp_X0_slideBlock_18, if_pos h3]
      · rw [if_pos h3, lp_X7_slide_48, if_pos rfl]
    · have h5 : ¬ (5 : Int32) ≤ nI done := nI_ge (a := done) (b := 5) (by omega) (by omega)
      have hm := moved_ok (h := h) (way := way) N s0 s2 s3 s4 s5 hy (σ.2.1 1 b) o
      have hs := stepped_a2_ok hN t1 t2 hw hh hy hnb t4 (show b < 8 by omega) (by rw [q1]; exact hin)
      have eo : ormx (τ.1 3) (τ.2.1 1) b nb = o := by
        rw [t3, ← ho]
        exact ormx_congr (fun k hk _ => (hbl k hk).2.1)
      rw [eo, q1] at hs
      have hm : f_X0_moved N σ (σ.2.1 1 b) (nI way) o = some (stp w h way (σ.2.1 1 b) o) := hm
      have c1 : lp_X0_slideBlock_18 N (nI b) (nI way) x3 o (n + 1) σ (nI done) = if stp w h way (σ.2.1 1 b) o = 0 then some (nI done, σ) else lp_X0_slideBlock_18 N (nI b) (nI way) x3 o n (sA σ 1 (nI b) (stp w h way (σ.2.1 1 b) o)) (nI (done + 1)) := by
        rw [lp_X0_slideBlock_18, if_neg h3, if_neg h5, gd_t (okx_nI (by omega) (by omega)), ra_nI _ _ (by omega), hm, bd1_some]
        split
        · rfl
        · rw [gd_t (okx_nI (by omega) (by omega)), nm_eq, nm_eq, nI_1]
      have c2 : lp_X7_slide_48 N (nI b) (nI way) x3 (n' + 1) τ (nI done) 1 = if stp w h way (σ.2.1 1 b) o = 0 then lp_X7_slide_48 N (nI b) (nI way) x3 n' τ (nI done) 0 else lp_X7_slide_48 N (nI b) (nI way) x3 n' (sA τ 1 (nI b) (stp w h way (σ.2.1 1 b) o)) (nI (done + 1)) (if x3 ≤ nI (done + 1) then 0 else 1) := by
        rw [lp_X7_slide_48, if_neg (show ¬ (1 : Int32) = 0 by decide), hs, bd1_some]
        split
        · rw [if_pos rfl]
        · rw [if_neg (show ¬ (1 : Int32) = 0 by decide), gd_t (okx_nI (by omega) (by omega)), nm_eq, nm_eq, nI_1]
          split <;> rfl
      rw [if_neg h3, c1, c2]
      by_cases hz0 : stp w h way (σ.2.1 1 b) o = 0
      · rw [if_pos hz0, if_pos hz0]
        obtain ⟨n', rfl⟩ : ∃ m, n' = m + 1 := ⟨n' - 1, by omega⟩
        exact ⟨nI done, σ, τ, rfl, by rw [lp_X7_slide_48, if_pos rfl], hB, O1.rf, O1.rf⟩
      · rw [if_neg hz0, if_neg hz0]
        obtain ⟨y1, y2⟩ := stp_nz hz0
        have hmz : mv w h way (σ.2.1 1 b) ≠ 0 := by rw [← y1]; exact hz0
        have hm0 : σ.2.1 1 b ≠ 0 := by
          intro e
          obtain ⟨i, hi, hbi⟩ := nz_iff.mp hmz
          obtain ⟨c, hc, hbc, -⟩ := mv_bw hw hh hy hin hmz hi hbi
          rw [e, b_0] at hbc
          cases hbc
        obtain ⟨c, hc, hbc, hrc⟩ := hroom hm0
        obtain ⟨-, f1, f2, f3⟩ := mv_fw hw hh hy hmz hc hbc
        have hno : ∀ i, i < 32 → bt (mv w h way (σ.2.1 1 b)) i = true → bt o i = false := by
          intro i hi hbi
          have h1 := b_and (mv w h way (σ.2.1 1 b)) o i
          rw [y2, b_0, hbi] at h1
          cases e : bt o i
          · rfl
          · rw [e] at h1; cases h1
        have hno2 : ∀ i, i < 32 → bt (mv w h way (σ.2.1 1 b)) i = true → ¬ (bt (σ.1 7) i = true ∨ ∃ k, k < nb ∧ k ≠ b ∧ bt (σ.2.1 1 k) i = true) := by
          intro i hi hbi h
          have := hno i hi hbi
          rw [← ho, (bt_ormx _ _ _ _ _).mpr h] at this
          cases this
        have hB1 : RB w h nb (sA σ 1 (nI b) (stp w h way (σ.2.1 1 b) o)) (sA τ 1 (nI b) (stp w h way (σ.2.1 1 b) o)) := by
          rw [y1]
          refine RB_mask hB hb (mv_inb hw hh hy hin hmz) ?_ ?_
          · intro i hi hbi
            cases e : bt (σ.1 7) i
            · rfl
            · exact absurd (Or.inl e) (hno2 i hi hbi)
          · intro k hk hkb i hi hbi
            cases e : bt (σ.2.1 1 k) i
            · rfl
            · exact absurd (Or.inr ⟨k, hk, hkb, e⟩) (hno2 i hi hbi)
        have a1 : ∀ k, (sA σ 1 (nI b) (stp w h way (σ.2.1 1 b) o)).2.1 1 k = if k = b then stp w h way (σ.2.1 1 b) o else σ.2.1 1 k := fun k => by rw [sA_21 σ 1 b k _ 1 (by omega)]; simp
        obtain ⟨res, σ1, τ1, e1, e2, e3, e4, e5⟩ := ih (r - 1) (by omega) n n' (done + 1) _ _ hB1 (by
          refine Eq.trans ?_ ho
          exact ormx_congr (fun k hk hkb => by rw [a1, if_neg hkb])) (by omega) (fun _ => ⟨tgt w way c, f1, by rw [a1, if_pos rfl, y1]; exact f2, by omega⟩) (by omega) (by omega)
        exact ⟨res, σ1, τ1, e1, e2, e3, (O1.sA _ _).tr e4, (O1.sA _ _).tr e5⟩
/-- the relation, when masks alone have changed -/
theorem Rel_O1 {σ τ σ1 τ1 : St} {w h nb ng nn : Nat} (hB : RB w h nb σ1 τ1) (hG : RG nb ng σ τ) (hS : RS σ τ) (hC : RC σ) (hT : RT nn σ τ) (hM : RM σ) (o1 : O1 1 σ σ1) (o2 : O1 1 (sI τ 0 0) τ1) : Rel σ1 τ1 := by
  obtain ⟨a1, a2, a3⟩ := o1
  obtain ⟨b1, b2, b3⟩ := o2
  have b1' : ∀ j, 1 ≤ j → τ1.1 j = τ.1 j := fun j hj => by rw [b1, sI_1, if_neg (by omega)]
  have b2' : ∀ b, b ≠ 1 → τ1.2.1 b = τ.2.1 b := b2
  refine ⟨w, h, nb, ng, nn, hB, ?_, ?_, ?_, ?_, ?_⟩
  · exact RG_fr hG (by rw [a1]) (a2 2 (by omega)) (a2 3 (by omega)) (a2 4 (by omega)) (b1' 5 (by omega)) (b2' 2 (by omega)) (b2' 3 (by omega))
  · exact RS_fr hS (by rw [a1]) (by rw [a1]) (a2 14 (by omega)) (b1' 7 (by omega)) (b1' 8 (by omega)) (b2' 12 (by omega))
  · exact RC_fr hC (by rw [a1]) (a2 12 (by omega)) (by rw [a3])
  · exact RT_fr hT (by rw [a1]) (a2 15 (by omega)) (a2 16 (by omega)) (b1' 9 (by omega)) (b2' 13 (by omega)) (b2' 14 (by omega))
  · exact RM_fr hM (by rw [a1]) (a2 18 (by omega)) (by rw [a3])
theorem RB_th {w h nb : Nat} {σ τ : St} (hB : RB w h nb σ τ) (v : Int32) : RB w h nb σ (sI τ 0 v) := hB
theorem pr_slide {N : Nat} (hN : 100 ≤ N) {σ τ : St} (hR : Rel σ τ) (z y x : Int32) : Pr hf0 (f_X6_slide N σ z y x) (f_X7_slide N τ z y x) := by
  have hR' := hR
  obtain ⟨w, h, nb, ng, nn, hB, hG, hS, hC, hT, hM⟩ := hR'
  have hB' := hB
  obtain ⟨⟨hw, hh, hnb⟩, ⟨s0, s1, s2, s3, s4, s5, s6⟩, ⟨t1, t2, t4, t3⟩, hbl, hz, hwi, hdj⟩ := hB'
  have bad : ∀ (a : Option XR) (b : Option (Int32 × St)), a = some (.inr 0, σ) → b = some (0, sI τ 0 1) → Pr hf0 a b := by
    intro a b ha hb
    exact Or.inr ⟨0, 0, 1, σ, sI τ 0 1, ha, hb, rfl, by decide, rfl, th_rel hR 1⟩
  unfold f_X6_slide f_X7_slide
  rw [needBlock_nI N s6, isBlock_nI N t4]
  rcases cases_n z (n := nb) (by omega) with h1 | ⟨h1, h2⟩ | ⟨j, hj, rfl⟩
  · simp only [h1, if_true]; exact bad _ _ rfl rfl
  · simp only [h1, h2, if_true, if_false]; exact bad _ _ rfl rfl
  · have q1 := nI_pos (n := j) (by omega)
    have q2 : ¬ nI nb ≤ nI j := nI_ge hj (by omega)
    simp only [q1, q2, if_false]
    rw [bx_inl, bd1_some, if_neg (show ¬ (1 : Int32) = 0 by decide)]
    unfold f_X6_needWay
    rcases cases_n y (n := 4) (by omega) with h1 | ⟨h1, h2⟩ | ⟨way, hy, rfl⟩
    · rw [if_pos h1, if_pos h1]; exact bad _ _ rfl rfl
    · rw [if_neg h1, if_neg h1, if_neg (show ¬ y < 4 from Int32.not_lt.mpr h2), if_neg (show ¬ y ≤ 3 from fun e => by
        have h3 : nI 4 ≤ nI 3 := Int32.le_trans h2 e
        exact absurd h3 (by decide))]
      exact bad _ _ rfl rfl
    · rw [if_neg (nI_pos (n := way) (by omega)), if_neg (nI_pos (n := way) (by omega)), if_pos (show nI way < 4 from nI_lt (b := 4) hy (by omega)), if_pos (show nI way ≤ 3 from nI_le (b := 3) (by omega) (by omega)), bx_inl, throwsIf_0, bd_some, if_pos rfl]
      unfold f_X0_slideBlock
      rw [filled_ok hN hnb s6, bd1_some, gd_t (okx_nI (by omega) (by omega)), nm_eq, ra_nI _ _ (by omega), ormx_eq hj hdj]
      obtain ⟨res, σ1, τ1, e1, e2, e3, e4, e5⟩ := slide_loop (N := N) (way := way) hN hj hy x _ 4 N N 0 σ (sI τ 0 0) (RB_th hB 0) rfl (by omega) (fun hm0 => by
        obtain ⟨i, hi, hbi⟩ := nz_iff.mp hm0
        have hl := inb_lt (hbl j hj).2.2.1 hbi
        exact ⟨i, hl, hbi, room4 hw hh hy hl⟩) (by omega) (by omega)
      have e1 : lp_X0_slideBlock_18 N (nI j) (nI way) x (ormx (σ.1 7) (σ.2.1 1) j nb) N σ 0 = some (res, σ1) := e1
      rw [e1, bd_some]
      refine Or.inl ⟨res, σ1, τ1, rfl, ?_, ?_, Rel_O1 e3 hG hS hC hT hM e4 e5⟩
      · have e2 : lp_X7_slide_48 N (nI j) (nI way) x N (sI τ 0 0) 0 (if x ≤ 0 then 0 else 1) = some (res, τ1) := e2
        rw [← e2]
        split <;> rfl
      · rw [e5.1]; rfl
theorem pg_4 {σ τ : St} (hR : Rel σ τ) {N : Nat} (hN : 100 ≤ N) {xs : Nat → Int32} {L : Nat} {i : Int32} (ho1 : okx (i + 1) L = true) (ho2 : okx (i + 2) L = true) (ho3 : okx (i + 3) L = true) (K : St → St → Option Int32) : ∃ σ1 τ1, Rel σ1 τ1 ∧ g_law_4 N xs L σ τ i K = K σ1 τ1 := by
  obtain ⟨σ1, τ1, h1, h2⟩ := cl_int (pr_slide hN hR (rs xs (i + 1)) (rs xs (i + 2)) (rs xs (i + 3))) K
  refine ⟨σ1, τ1, h1, ?_⟩
  rw [← h2]
  unfold g_law_4 f_L_slide
  simp only [gd_t ho1, gd_t ho2, gd_t ho3]
  rfl

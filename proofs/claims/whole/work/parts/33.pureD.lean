/-! the reference's step -/
theorem shr_eq {m : Int32} (h : bt m 31 = false) {k : Nat} (hk : k < 32) : jshr m (nI k) = jushr m (nI k) := by
  apply b_ext
  intro i hi
  rw [bt_shr hk m hi, bt_ushr hk m i]
  by_cases e : k + i < 32
  · rw [if_pos e]
  · rw [if_neg e, h, b_big (by omega)]
theorem m1_toInt {a : Nat} (h : a < 2 ^ 30) : (nI a + (-1)).toInt = (a : Int) - 1 := by
  rcases Nat.eq_zero_or_pos a with e | e
  · subst e; rfl
  · rw [sb_m1 e, nI_toInt (by omega)]; omega
theorem jn_mv2 (N : Nat) {τ : St} {w c : Nat} (m : Int32) (h1 : τ.1 1 = nI w) (ew : ¬ nI w = 0) (ed : nI c / nI w = nI (c / w)) (w0 w1 : Int32) (K : Int32 → Option Int32) :
    jn_X7_moved_50 N τ m (nI 2) (nI c) w0 w1 K = bd1 (f_X7_isCell N τ (w1 + w0) (nI (c / w) + 0)) (fun r => if r = 0 then some 0 else nm (nI c + 1) (fun y => K y)) := by
  unfold jn_X7_moved_50
  rw [nm_eq, h1, gd_t (decide_eq_true ew), if_neg (show ¬ nI 2 = 1 by decide), if_neg (show ¬ nI 2 = 3 by decide), ed, nm_eq]
set_option maxRecDepth 100000 in
theorem mvstep (N : Nat) {τ : St} {w h way c n : Nat} {m : Int32} (h1 : τ.1 1 = nI w) (h2 : τ.1 2 = nI h) (hw : w < 6 ∧ 1 ≤ w) (hh : h < 6 ∧ 1 ≤ h) (hy : way < 4) (hc : c < w * h) (hb : bt m c = true) :
    (okc w h way c → lp_X7_moved_2 N τ m (nI way) (n + 1) (nI c) = lp_X7_moved_2 N τ m (nI way) n (nI (c + 1))) ∧ (¬ okc w h way c → lp_X7_moved_2 N τ m (nI way) (n + 1) (nI c) = some 0) := by
  have h25 : w * h ≤ 25 := Nat.mul_le_mul (show w ≤ 5 by omega) (show h ≤ 5 by omega)
  have hdiv : c / w < h := Nat.div_lt_of_lt_mul hc
  have hmod : c % w < w := Nat.mod_lt _ hw.2
  have ew : ¬ nI w = 0 := nI_ne0 hw.2 (by omega)
  have er : jrem (nI c) (nI w) = nI (c % w) := by unfold jrem; exact pk_rem (by omega) hw.2 (by omega)
  have ed : nI c / nI w = nI (c / w) := pk_div (by omega) hw.2 (by omega)
  have gdw : ∀ (x : Option Int32), gd (decide (¬ nI w = 0)) x = x := fun x => gd_t (decide_eq_true ew)
  have nb : ¬ (jshr m (nI c) &&& 1) = 0 := fun e => by rw [(shr0 (by omega)).mp e] at hb; cases hb
  have nl : ¬ nI w * nI h ≤ nI c := by rw [pk_mul]; exact nI_ge hc (by omega)
  have t0 : ∀ a : Nat, a < 100 → (nI a + 0).toInt = (a : Int) := fun a ha => by rw [Int32.add_zero, nI_toInt (by omega)]
  have t1 : ∀ a : Nat, a < 100 → (nI a + 1).toInt = (a : Int) + 1 := fun a ha => by rw [nI_1, nI_toInt (by omega)]; omega
  have tm : ∀ a : Nat, a < 100 → (nI a + (-1)).toInt = (a : Int) - 1 := fun a ha => m1_toInt (by omega)
  have hc0 : c / w < 100 := by omega
  have hc1 : c % w < 100 := by omega
  have ic := isCell_nI N h1 h2 hw.1 hh.1
  have key : ∀ (dx dy : Int32), (c % w < 100 → True) → (bd1 (f_X7_isCell N τ (nI (c % w) + dx) (nI (c / w) + dy)) (fun r => if r = 0 then some 0 else nm (nI c + 1) (fun y => lp_X7_moved_2 N τ m (nI way) n y))) = if 0 ≤ (nI (c % w) + dx).toInt ∧ (nI (c % w) + dx).toInt < w ∧ 0 ≤ (nI (c / w) + dy).toInt ∧ (nI (c / w) + dy).toInt < h then lp_X7_moved_2 N τ m (nI way) n (nI (c + 1)) else some 0 := by
    intro dx dy _
    rw [ic]
    by_cases e : 0 ≤ (nI (c % w) + dx).toInt ∧ (nI (c % w) + dx).toInt < w ∧ 0 ≤ (nI (c / w) + dy).toInt ∧ (nI (c / w) + dy).toInt < h
    · rw [if_pos e, if_pos e]
      show nm (nI c + 1) _ = _
      rw [nI_1]; rfl
    · rw [if_neg e, if_neg e]; rfl
  rcases (show way = 0 ∨ way = 1 ∨ way = 2 ∨ way = 3 by omega) with rfl | rfl | rfl | rfl
  · have e : lp_X7_moved_2 N τ m (nI 0) (n + 1) (nI c) = bd1 (f_X7_isCell N τ (nI (c % w) + 1) (nI (c / w) + 0)) (fun r => if r = 0 then some 0 else nm (nI c + 1) (fun y => lp_X7_moved_2 N τ m (nI 0) n y)) := by
      rw [lp_X7_moved_2, h1, h2, if_neg nl, if_neg nb, gdw, if_pos (show nI 0 = 0 from rfl)]
      unfold jn_X7_moved_50
      rw [h1, er]
      show gd _ _ = _
      rw [gdw, if_neg (show ¬ nI 0 = 1 by decide), if_neg (show ¬ nI 0 = 3 by decide), ed]
      rfl
    rw [e, key 1 0 (fun _ => trivial), t1 _ hc1, t0 _ hc0]
    unfold okc
    simp only [if_true]
    clear key ic er ed e
    generalize c % w = md at *
    generalize c / w = dv at *
    constructor
    · intro ho; rw [if_pos (by omega)]
    · intro ho; rw [if_neg (by omega)]
  · have e : lp_X7_moved_2 N τ m (nI 1) (n + 1) (nI c) = bd1 (f_X7_isCell N τ (nI (c % w) + 0) (nI (c / w) + 1)) (fun r => if r = 0 then some 0 else nm (nI c + 1) (fun y => lp_X7_moved_2 N τ m (nI 1) n y)) := by
      rw [lp_X7_moved_2, h1, h2, if_neg nl, if_neg nb, gdw, if_neg (show ¬ nI 1 = 0 by decide), if_neg (show ¬ nI 1 = 2 by decide)]
      unfold jn_X7_moved_50
      rw [h1, er]
      show gd _ _ = _
      rw [gdw, if_pos (show nI 1 = 1 from rfl), ed]
      rfl
    rw [e, key 0 1 (fun _ => trivial), t0 _ hc1, t1 _ hc0]
    unfold okc
    simp only [if_true, show ¬ (1 = 0) by decide, if_false]
    clear key ic er ed e
    generalize c % w = md at *
    generalize c / w = dv at *
    constructor
    · intro ho; rw [if_pos (by omega)]
    · intro ho; rw [if_neg (by omega)]
  · have e : lp_X7_moved_2 N τ m (nI 2) (n + 1) (nI c) = bd1 (f_X7_isCell N τ (nI (c % w) + (-1)) (nI (c / w) + 0)) (fun r => if r = 0 then some 0 else nm (nI c + 1) (fun y => lp_X7_moved_2 N τ m (nI 2) n y)) := by
      rw [lp_X7_moved_2, h1, h2, if_neg nl, if_neg nb, gdw, if_neg (show ¬ nI 2 = 0 by decide), if_pos (show nI 2 = 2 from rfl), er, jn_mv2 N m h1 ew ed]
    rw [e, key (-1) 0 (fun _ => trivial), tm _ hc1, t0 _ hc0]
    unfold okc
    simp only [if_true, show ¬ (2 = 0) by decide, show ¬ (2 = 1) by decide, if_false]
    clear key ic er ed e
    generalize c % w = md at *
    generalize c / w = dv at *
    constructor
    · intro ho; rw [if_pos (by omega)]
    · intro ho; rw [if_neg (by omega)]
  · have e : lp_X7_moved_2 N τ m (nI 3) (n + 1) (nI c) = bd1 (f_X7_isCell N τ (nI (c % w) + 0) (nI (c / w) + (-1))) (fun r => if r = 0 then some 0 else nm (nI c + 1) (fun y => lp_X7_moved_2 N τ m (nI 3) n y)) := by
      rw [lp_X7_moved_2, h1, h2, if_neg nl, if_neg nb, gdw, if_neg (show ¬ nI 3 = 0 by decide), if_neg (show ¬ nI 3 = 2 by decide)]
      unfold jn_X7_moved_50
      rw [h1, er]
      show gd _ _ = _
      rw [gdw, if_neg (show ¬ nI 3 = 1 by decide), if_pos (show nI 3 = 3 from rfl), ed]
      rfl
    rw [e, key 0 (-1) (fun _ => trivial), t0 _ hc1, tm _ hc0]
    unfold okc
    simp only [if_true, show ¬ (3 = 0) by decide, show ¬ (3 = 1) by decide, show ¬ (3 = 2) by decide, if_false]
    clear key ic er ed e
    generalize c % w = md at *
    generalize c / w = dv at *
    constructor
    · intro ho; rw [if_pos (by omega)]
    · intro ho; rw [if_neg (by omega)]
theorem lp_moved (N : Nat) {τ : St} {w h way : Nat} {m : Int32} (h1 : τ.1 1 = nI w) (h2 : τ.1 2 = nI h) (hw : w < 6 ∧ 1 ≤ w) (hh : h < 6 ∧ 1 ≤ h) (hy : way < 4) (hm : bt m 31 = false) :
    ∀ (d n c : Nat), c + d = w * h → d < n → (∀ i, i < c → bt m i = true → okc w h way i) → lp_X7_moved_2 N τ m (nI way) n (nI c) = some (mv w h way m) := by
  have h25 : w * h ≤ 25 := Nat.mul_le_mul (show w ≤ 5 by omega) (show h ≤ 5 by omega)
  intro d
  induction d with
  | zero =>
    intro n c hc hn hok
    obtain ⟨n, rfl⟩ : ∃ j, n = j + 1 := ⟨n - 1, by omega⟩
    have e0 : m &&& edge w h way = 0 := (edge0_iff hw hh hy).mpr (fun i hi hb => hok i (by omega) hb)
    rw [lp_X7_moved_2, h1, h2, pk_mul, if_pos (nI_le (by omega) (by omega))]
    unfold mv shf
    rw [if_pos e0]
    rcases (show way = 0 ∨ way = 1 ∨ way = 2 ∨ way = 3 by omega) with rfl | rfl | rfl | rfl
    · rw [if_pos (show jrem (nI 0) 2 = 0 by decide), if_neg (show ¬ (2 : Int32) ≤ nI 0 by decide)]; rfl
    · rw [if_neg (show ¬ jrem (nI 1) 2 = 0 by decide)]
      show (if (2 : Int32) ≤ nI 1 then some (jshr m (nI w)) else some (jshl m (nI w))) = _
      rw [if_neg (show ¬ (2 : Int32) ≤ nI 1 by decide)]; rfl
    · rw [if_pos (show jrem (nI 2) 2 = 0 by decide), if_pos (show (2 : Int32) ≤ nI 2 by decide)]
      show some (jshr m (nI 1)) = _
      rw [shr_eq hm (by omega)]; rfl
    · rw [if_neg (show ¬ jrem (nI 3) 2 = 0 by decide)]
      show (if (2 : Int32) ≤ nI 3 then some (jshr m (nI w)) else some (jshl m (nI w))) = _
      rw [if_pos (show (2 : Int32) ≤ nI 3 by decide), shr_eq hm (by omega)]; rfl
  | succ d ih =>
    intro n c hc hn hok
    obtain ⟨n, rfl⟩ : ∃ j, n = j + 1 := ⟨n - 1, by omega⟩
    have nl : ¬ nI w * nI h ≤ nI c := by rw [pk_mul]; exact nI_ge (by omega) (by omega)
    cases hb : bt m c
    · rw [lp_X7_moved_2, h1, h2, if_neg nl, if_pos ((shr0 (by omega)).mpr hb)]
      show lp_X7_moved_2 N τ m (nI way) n (nI c + 1) = _
      rw [nI_1]
      exact ih n (c + 1) (by omega) (by omega) (fun i hi hbi => by
        rcases Nat.lt_or_ge i c with e | e
        · exact hok i e hbi
        · rw [show i = c by omega, hb] at hbi; cases hbi)
    · obtain ⟨s1, s2⟩ := mvstep (n := n) N h1 h2 hw hh hy (show c < w * h by omega) hb
      by_cases ho : okc w h way c
      · rw [s1 ho]
        exact ih n (c + 1) (by omega) (by omega) (fun i hi hbi => by
          rcases Nat.lt_or_ge i c with e | e
          · exact hok i e hbi
          · rw [show i = c by omega]; exact ho)
      · rw [s2 ho]
        unfold mv
        rw [if_neg (fun e0 => ho ((edge0_iff hw hh hy).mp e0 c (by omega) hb))]
theorem movedR_ok {N : Nat} (hN : 100 ≤ N) {τ : St} {w h way : Nat} {m : Int32} (h1 : τ.1 1 = nI w) (h2 : τ.1 2 = nI h) (hw : w < 6 ∧ 1 ≤ w) (hh : h < 6 ∧ 1 ≤ h) (hy : way < 4) (hm : bt m 31 = false) : f_X7_moved N τ m (nI way) = some (mv w h way m) := by
  have h25 : w * h ≤ 25 := Nat.mul_le_mul (show w ≤ 5 by omega) (show h ≤ 5 by omega)
  unfold f_X7_moved
  exact lp_moved N h1 h2 hw hh hy hm (w * h) N 0 (by omega) (by omega) (fun i hi => by omega)

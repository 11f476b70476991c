/-! ways, home: both sides in step -/
theorem go103_skip (N : Nat) {nn g : Nat} {τ : St} {t : Nat → Nat} (hnn : nn ≤ 8) (hp : perm nn t) (ht : ∀ v, v < nn → τ.2.1 15 v = nI (t v)) (hg : g < nn) (hz : t g = 0) (x1 x2 x3 : Int32) (K : St → Int32 → Int32 → Option (Int32 × St)) : ∀ (e n x : Nat), x + e = g → e < n → ∃ m, lp_X7_go_103 N τ x1 x2 x3 K n (nI x) = lp_X7_go_103 N τ x1 x2 x3 K (m + 1) (nI g) := by
  intro e
  induction e with
  | zero =>
    intro n x hx hn
    exact ⟨n - 1, by rw [show n - 1 + 1 = n by omega, show x = g by omega]⟩
  | succ e ih =>
    intro n x hx hn
    obtain ⟨n, rfl⟩ : ∃ m, n = m + 1 := ⟨n - 1, by omega⟩
    obtain ⟨m, hm⟩ := ih n (x + 1) (by omega) (by omega)
    refine ⟨m, ?_⟩
    have e2 : t x ≠ 0 := fun q => by
      have := hp.2 x g (by omega) hg (by rw [q, hz])
      omega
    have e3 := hp.1 x (by omega)
    rw [← hm]
    rw [lp_X7_go_103, gd_t (okx_nI (by omega) (by omega)), ra_nI _ _ (by omega), ht x (by omega), if_neg (nI_ne0 (by omega) (by omega)), nm_eq, nI_1]
theorem node_loop {N : Nat} (hN : 100 ≤ N) {nn i g : Nat} {ln : Nat → Nat → Bool} {t : Nat → Nat} {A : Int32} (hg : Gr nn ln) (h0 : ∀ a, ln a a = false) (hA : En nn A t) (hp : perm nn t) (hgn : nn ≠ 0 → g < nn ∧ t g = 0) (K : St → Int32 → Int32 → Option (Int32 × St)) :
    ∀ (e f f' v n : Nat) (Q : Nat → Nat → Nat) (σ τ : St), v + e = nn → e < f → e < f' → WP nn n Q → WC nn n Q σ → WM nn n Q τ → i < n → (∀ u, u < nn → Q i u = t u) → σ.1 15 = nI nn → τ.1 9 = nI nn → LN ln σ τ →
    ∃ n' Q' σ' τ', n ≤ n' ∧ (∀ j, j < n → Q' j = Q j) ∧ WP nn n' Q' ∧ WC nn n' Q' σ' ∧ WM nn n' Q' τ' ∧ OC σ σ' ∧ OR τ τ' ∧ lp_X5_markShifts_31 N A (nI g) f σ (nI v) = some σ' ∧ lp_X7_go_82 N (nI i) K f' τ (nI n) (nI v) = K τ' (nI n') (nI (i + 1)) := by
  have hnn := hg.1
  intro e
  induction e with
  | zero =>
    intro f f' v n Q σ τ hv hf hf' hP hC hM hi hQ s15 t9 hl
    obtain ⟨f, rfl⟩ : ∃ m, f = m + 1 := ⟨f - 1, by omega⟩
    obtain ⟨f', rfl⟩ : ∃ m, f' = m + 1 := ⟨f' - 1, by omega⟩
    refine ⟨n, Q, σ, τ, Nat.le_refl _, fun _ _ => rfl, hP, hC, hM, OC.rf, OR.rf, ?_, ?_⟩
    · rw [lp_X5_markShifts_31, s15, if_pos (nI_le (by omega) (by omega))]
    · rw [lp_X7_go_82, t9, if_pos (nI_le (by omega) (by omega)), nm_eq, nI_1]
  | succ e ih =>
    intro f f' v n Q σ τ hv hf hf' hP hC hM hi hQ s15 t9 hl
    obtain ⟨f, rfl⟩ : ∃ m, f = m + 1 := ⟨f - 1, by omega⟩
    obtain ⟨f', rfl⟩ : ∃ m, f' = m + 1 := ⟨f' - 1, by omega⟩
    obtain ⟨hgl, hgz⟩ := hgn (by omega)
    have hvn : v < nn := by omega
    have hn40 := WP_le hnn hP
    have e1 : rk nn (Q i) nn = rk nn t nn := rk_congr hQ nn (Nat.le_refl _)
    obtain ⟨τ1, o1, u1, u2⟩ := unrank_ok hN hnn t9 hp
    have hl1 : LN ln σ τ1 := LN_O1M hl (by omega) o1
    have t91 : τ1.1 9 = nI nn := by rw [o1.1]; exact t9
    obtain ⟨m, hm⟩ := go103_skip N hnn hp u1 hgl hgz (nI n) (nI i) (nI v) (fun v0 v1 v2 => lp_X7_go_82 N (nI i) K f' v0 v1 v2) g N 0 (by omega) (by omega)
    have hm : lp_X7_go_103 N τ1 (nI n) (nI i) (nI v) (fun v0 v1 v2 => lp_X7_go_82 N (nI i) K f' v0 v1 v2) N 0 = lp_X7_go_103 N τ1 (nI n) (nI i) (nI v) (fun v0 v1 v2 => lp_X7_go_82 N (nI i) K f' v0 v1 v2) (m + 1) (nI g) := hm
    have hstart : lp_X7_go_82 N (nI i) K (f' + 1) τ (nI n) (nI v) = lp_X7_go_103 N τ1 (nI n) (nI i) (nI v) (fun v0 v1 v2 => lp_X7_go_82 N (nI i) K f' v0 v1 v2) (m + 1) (nI g) := by
      rw [← hm, lp_X7_go_82, t9, if_neg (nI_ge (by omega) (by omega)), gd_t (okx_nI (by omega) (by omega)), ra_nI _ _ (by omega), hM.1 i hi, e1, u2, bd1_some]
    have ov : okx (nI v) 8 = true := okx_nI (by omega) (by omega)
    have og : okx (nI g) 8 = true := okx_nI (by omega) (by omega)
    rw [hstart, lp_X7_go_103, lp_X5_markShifts_31, s15, if_neg (nI_ge (by omega) (by omega)), joinedC N hl (by omega) (by omega), joinedM N hl1 (by omega) (by omega)]
    simp only [gd_t ov, gd_t og, ra_nI _ _ (show v < 2 ^ 31 by omega), ra_nI _ _ (show g < 2 ^ 31 by omega), bd1_some, nm_eq, nI_1, u1 g hgl, hgz, hg.2.1 g v (by omega) (by omega)]
    rw [if_pos (show nI 0 = 0 from rfl)]
    cases hj : ln v g
    · rw [if_neg (by decide : ¬ false = true), if_pos rfl, if_pos rfl]
      obtain ⟨n', Q', σ', τ', a1, a2, a3, a4, a5, a6, a7, a8, a9⟩ := ih f f' (v + 1) n Q σ τ1 (by omega) (by omega) (by omega) hP hC (by unfold WM; rw [o1.2.1 17 (by omega), o1.2.1 16 (by omega)]; exact hM) hi hQ s15 t91 hl1
      exact ⟨n', Q', σ', τ', a1, a2, a3, a4, a5, a6, (OR.o (Or.inl rfl) o1).tr a7, a8, a9⟩
    · rw [if_pos rfl, if_neg (show ¬ (1 : Int32) = 0 by decide), if_neg (show ¬ (1 : Int32) = 0 by decide)]
      have hvg : v ≠ g := fun q => by rw [q, h0 g] at hj; cases hj
      have ht8 : ∀ u, u < nn → t u < 8 := fun u hu => by have := hp.1 u hu; omega
      have hp' := perm_exch hp hgl hvn
      have hA' := En_exch hnn hA hvn hgl hvg (ht8 v hvn) hgz
      rw [En_tile hnn hA hvn (ht8 v hvn), u1 v hvn]
      have o2 : O1 15 τ1 (sA (sA τ1 15 (nI g) (nI (t v))) 15 (nI v) 0) := (O1.sA _ _).tr (O1.sA _ _)
      have v2 : ∀ u, u < nn → (sA (sA τ1 15 (nI g) (nI (t v))) 15 (nI v) 0).2.1 15 u = nI (exch t g v u) := by
        intro u hu
        rw [sA_21 _ 15 v u _ 15 (by omega), sA_21 _ 15 g u _ 15 (by omega)]
        simp only [true_and]
        unfold exch
        by_cases c1 : u = v
        · rw [if_pos c1, if_neg (by omega), if_pos c1, hgz]; rfl
        · rw [if_neg c1]
          by_cases c2 : u = g
          · rw [if_pos c2, if_pos c2]
          · rw [if_neg c2, if_neg c2, if_neg c1]; exact u1 u hu
      generalize hτ2 : sA (sA τ1 15 (nI g) (nI (t v))) 15 (nI v) 0 = τ2 at o2 v2 ⊢
      have t92 : τ2.1 9 = nI nn := by rw [o2.1]; exact t91
      have hrk := rank_ok hN hnn t92 v2 (fun u hu => by have := hp'.1 u hu; omega)
      have hlt := rk_lt' hnn (exch t g v) (Nat.le_refl nn)
      have ork : okx (nI (rk nn (exch t g v) nn)) 40320 = true := okx_nI hlt (by omega)
      have hl2 : LN ln σ τ2 := LN_O1M hl1 (by omega) o2
      have hM2 : WM nn n Q τ2 := by unfold WM; rw [o2.2.1 17 (by omega), o2.2.1 16 (by omega), o1.2.1 17 (by omega), o1.2.1 16 (by omega)]; exact hM
      have oo : OR τ τ2 := (OR.o (Or.inl rfl) o1).tr (OR.o (Or.inl rfl) o2)
      have hseen : (∃ j, j < n ∧ rk nn (Q j) nn = rk nn (exch t g v) nn) ↔ ∃ j, j < n ∧ ∀ u, u < nn → Q j u = exch t g v u := by
        constructor
        · rintro ⟨j, hj, e⟩
          exact ⟨j, hj, rk_inj hnn (hP.1 j hj) hp' e⟩
        · rintro ⟨j, hj, e⟩
          exact ⟨j, hj, rk_congr e nn (Nat.le_refl _)⟩
      have hy := (hM2.2 _ hlt).congr hseen
      rw [hrk]
      simp only [bd1_some, gd_t ork, ra_nI _ _ (show rk nn (exch t g v) nn < 2 ^ 31 by omega)]
      rcases mark_step N hnn hP hC hA' hp' with ⟨m1, m2⟩ | ⟨m1, m2, σ1, m3, m4, m5⟩
      · rw [m2, bd1_some]
        have hs : ¬ τ2.2.1 16 (rk nn (exch t g v) nn) = 0 := by
          rcases hy with ⟨y1, -⟩ | ⟨-, y2⟩
          · rw [y1]; decide
          · exact absurd m1 y2
        rw [if_neg hs]
        obtain ⟨n', Q', σ', τ', a1, a2, a3, a4, a5, a6, a7, a8, a9⟩ := ih f f' (v + 1) n Q σ τ2 (by omega) (by omega) (by omega) hP hC hM2 hi hQ s15 t92 hl2
        exact ⟨n', Q', σ', τ', a1, a2, a3, a4, a5, a6, oo.tr a7, a8, a9⟩
      · rw [m3, bd1_some]
        have hs : τ2.2.1 16 (rk nn (exch t g v) nn) = 0 := by
          rcases hy with ⟨-, y2⟩ | ⟨y1, -⟩
          · exact absurd y2 m1
          · exact y1
        rw [if_pos hs, gd_t (okx_nI m2 (by omega)), nar1]
        have o3 : OR τ2 (sA (sA τ2 16 (nI (rk nn (exch t g v) nn)) 1) 17 (nI n) (nI (rk nn (exch t g v) nn))) := (OR.o (Or.inr (Or.inl rfl)) (O1.sA _ _)).tr (OR.o (Or.inr (Or.inr rfl)) (O1.sA _ _))
        have r17 : ∀ j, (sA (sA τ2 16 (nI (rk nn (exch t g v) nn)) 1) 17 (nI n) (nI (rk nn (exch t g v) nn))).2.1 17 j = if j = n then nI (rk nn (exch t g v) nn) else τ2.2.1 17 j := by
          intro j
          rw [sA_21 _ 17 n j _ 17 (by omega), sA_21 _ 16 _ j _ 17 (by omega), if_neg (show ¬ ((17 : Nat) = 16 ∧ j = rk nn (exch t g v) nn) by omega)]
          simp only [true_and]
        have r16 : ∀ j, (sA (sA τ2 16 (nI (rk nn (exch t g v) nn)) 1) 17 (nI n) (nI (rk nn (exch t g v) nn))).2.1 16 j = if j = rk nn (exch t g v) nn then 1 else τ2.2.1 16 j := by
          intro j
          rw [sA_21 _ 17 n j _ 16 (by omega), if_neg (show ¬ ((16 : Nat) = 17 ∧ j = n) by omega), sA_21 _ 16 _ j _ 16 (by omega)]
          simp only [true_and]
        generalize hτ3 : sA (sA τ2 16 (nI (rk nn (exch t g v) nn)) 1) 17 (nI n) (nI (rk nn (exch t g v) nn)) = τ3 at o3 r17 r16 ⊢
        have hM3 : WM nn (n + 1) (psh Q n (exch t g v)) τ3 := by
          constructor
          · intro j hj
            rw [r17]
            by_cases c : j = n
            · rw [if_pos c, c, psh_n]
            · rw [if_neg c, psh_o Q _ c]; exact hM2.1 j (by omega)
          · intro k hk
            rw [r16]
            by_cases c : k = rk nn (exch t g v) nn
            · rw [if_pos c]
              exact Or.inl ⟨rfl, n, by omega, by rw [psh_n, c]⟩
            · rw [if_neg c]
              refine (hM2.2 k hk).congr ?_
              constructor
              · rintro ⟨j, hj, e⟩
                exact ⟨j, by omega, by rw [psh_o Q _ (by omega)]; exact e⟩
              · rintro ⟨j, hj, e⟩
                by_cases c2 : j = n
                · rw [c2, psh_n] at e; exact absurd e.symm c
                · rw [psh_o Q _ c2] at e; exact ⟨j, by omega, e⟩
        have hl3 : LN ln σ1 τ3 := ⟨by rw [m4.2.1 16 (by omega)]; exact hl2.1, by rw [o3.2.1 13 (by omega) (by omega) (by omega)]; exact hl2.2⟩
        obtain ⟨n', Q', σ', τ', a1, a2, a3, a4, a5, a6, a7, a8, a9⟩ := ih f f' (v + 1) (n + 1) (psh Q n (exch t g v)) σ1 τ3 (by omega) (by omega) (by omega) (WP_psh hP hp' m1) m5 hM3 (by omega) (fun u hu => by rw [psh_o Q _ (by omega)]; exact hQ u hu) (by rw [m4.1 15 (by omega)]; exact s15) (by rw [o3.1]; exact t92) hl3
        exact ⟨n', Q', σ', τ', by omega, fun j hj => by rw [a2 j (by omega), psh_o Q _ (by omega)], a3, a4, a5, m4.tr a6, oo.tr (o3.tr a7), a8, a9⟩
theorem mgap (N : Nat) {nn g : Nat} {σ : St} {A : Int32} {t : Nat → Nat} (hnn : nn ≤ 8) (s15 : σ.1 15 = nI nn) (hA : En nn A t) (hp : perm nn t) (hg : g < nn) (hz : t g = 0) : ∀ (d n x : Nat), x + d = g → d < n → lp_X5_markShifts_2 N σ A n (nI x) = lp_X5_markShifts_31 N A (nI g) N σ 0 := by
  have ht8 : ∀ u, u < nn → t u < 8 := fun u hu => by have := hp.1 u hu; omega
  intro d
  induction d with
  | zero =>
    intro n x hx hn
    obtain ⟨n, rfl⟩ : ∃ m, n = m + 1 := ⟨n - 1, by omega⟩
    rw [lp_X5_markShifts_2, show x = g by omega, En_tile hnn hA hg (ht8 g hg), hz, if_pos (show nI 0 = 0 from rfl)]
    split <;> rfl
  | succ d ih =>
    intro n x hx hn
    obtain ⟨n, rfl⟩ : ∃ m, n = m + 1 := ⟨n - 1, by omega⟩
    have e1 : nI nn - 1 = nI (nn - 1) := by
      rw [show nn = (nn - 1) + 1 by omega, nI_pred]; rfl
    have e2 : t x ≠ 0 := fun q => by
      have := hp.2 x g (by omega) hg (by rw [q, hz])
      omega
    have e3 := ht8 x (by omega)
    rw [lp_X5_markShifts_2, s15, e1, if_neg (nI_ge (by omega) (by omega)), En_tile hnn hA (by omega) e3, if_neg (nI_ne0 (by omega) (by omega)), nm_eq, nI_1]
    exact ih n (x + 1) (by omega) (by omega)
theorem bfs_loop {N : Nat} (hN : 100 ≤ N) {nn : Nat} {ln : Nat → Nat → Bool} (hg : Gr nn ln) (h0 : ∀ a, ln a a = false) :
    ∀ (e f f' i n : Nat) (Q : Nat → Nat → Nat) (σ τ : St), i + e = 40320 → e < f → e < f' → WP nn n Q → WC nn n Q σ → WM nn n Q τ → i ≤ n → σ.1 15 = nI nn → τ.1 9 = nI nn → LN ln σ τ →
    ∃ n' Q' σ' τ', n ≤ n' ∧ WP nn n' Q' ∧ WC nn n' Q' σ' ∧ WM nn n' Q' τ' ∧ OC σ σ' ∧ OR τ τ' ∧ lp_X5_findArrangements_74 N f σ (nI i) = some σ' ∧ lp_X7_go_75 N f' τ (nI n) (nI i) = some (nI n', τ') := by
  have hnn := hg.1
  have stop : ∀ (f f' i n : Nat) (Q : Nat → Nat → Nat) (σ τ : St), 0 < f → 0 < f' → WP nn n Q → WC nn n Q σ → WM nn n Q τ → i ≤ 40320 → n ≤ i → ∃ n' Q' σ' τ', n ≤ n' ∧ WP nn n' Q' ∧ WC nn n' Q' σ' ∧ WM nn n' Q' τ' ∧ OC σ σ' ∧ OR τ τ' ∧ lp_X5_findArrangements_74 N f σ (nI i) = some σ' ∧ lp_X7_go_75 N f' τ (nI n) (nI i) = some (nI n', τ') := by
    intro f f' i n Q σ τ hf hf' hP hC hM hi hni
    obtain ⟨f, rfl⟩ : ∃ m, f = m + 1 := ⟨f - 1, by omega⟩
    obtain ⟨f', rfl⟩ : ∃ m, f' = m + 1 := ⟨f' - 1, by omega⟩
    refine ⟨n, Q, σ, τ, Nat.le_refl _, hP, hC, hM, OC.rf, OR.rf, ?_, ?_⟩
    · rw [lp_X5_findArrangements_74, hC.1, if_pos (nI_le hni (by omega))]
    · rw [lp_X7_go_75, if_pos (nI_le hni (by omega))]
  intro e
  induction e with
  | zero =>
    intro f f' i n Q σ τ hi hf hf' hP hC hM hin s15 t9 hl
    have := WP_le hnn hP
    exact stop f f' i n Q σ τ (by omega) (by omega) hP hC hM (by omega) (by omega)
  | succ e ih =>
    intro f f' i n Q σ τ hi hf hf' hP hC hM hin s15 t9 hl
    rcases Nat.lt_or_ge i n with c | c
    · obtain ⟨f, rfl⟩ : ∃ m, f = m + 1 := ⟨f - 1, by omega⟩
      obtain ⟨f', rfl⟩ : ∃ m, f' = m + 1 := ⟨f' - 1, by omega⟩
      have hn40 := WP_le hnn hP
      have hp := hP.1 i c
      have hA := hC.2.1 i c
      obtain ⟨g, hgn, hgap⟩ : ∃ g, (nn ≠ 0 → g < nn ∧ Q i g = 0) ∧ f_X5_markShifts N σ (σ.2.1 18 i) = lp_X5_markShifts_31 N (σ.2.1 18 i) (nI g) N σ 0 := by
        by_cases hz : nn = 0
        · refine ⟨0, fun q => absurd hz q, ?_⟩
          unfold f_X5_markShifts
          obtain ⟨M, hM'⟩ : ∃ M, N = M + 1 := ⟨N - 1, by omega⟩
          rw [show lp_X5_markShifts_2 N σ (σ.2.1 18 i) N 0 = lp_X5_markShifts_2 N σ (σ.2.1 18 i) (M + 1) 0 by rw [← hM'], lp_X5_markShifts_2, s15, hz, if_pos (show nI 0 - 1 ≤ 0 by decide)]
          rfl
        · obtain ⟨g, hg1, hg2⟩ := perm_onto nn (Q i) hp 0 (by omega)
          exact ⟨g, fun _ => ⟨hg1, hg2⟩, mgap N hnn s15 hA hp hg1 hg2 g N 0 (by omega) (by omega)⟩
      obtain ⟨n1, Q1, σ1, τ1, a1, a2, a3, a4, a5, a6, a7, a8, a9⟩ := node_loop hN (i := i) (g := g) hg h0 hA hp hgn (fun v0 v1 v2 => lp_X7_go_75 N f' v0 v1 v2) nn N N 0 n Q σ τ (by omega) (by omega) (by omega) hP hC hM c (fun _ _ => rfl) s15 t9 hl
      obtain ⟨n2, Q2, σ2, τ2, b0, b1, b2, b3, b4, b5, b6, b7⟩ := ih f f' (i + 1) n1 Q1 σ1 τ1 (by omega) (by omega) (by omega) a3 a4 a5 (by omega) (by rw [a6.1 15 (by omega)]; exact s15) (by rw [a7.1]; exact t9) ⟨by rw [a6.2.1 16 (by omega)]; exact hl.1, by rw [a7.2.1 13 (by omega) (by omega) (by omega)]; exact hl.2⟩
      refine ⟨n2, Q2, σ2, τ2, by omega, b1, b2, b3, a6.tr b4, a7.tr b5, ?_, ?_⟩
      · have a8 : lp_X5_markShifts_31 N (σ.2.1 18 i) (nI g) N σ 0 = some σ1 := a8
        rw [lp_X5_findArrangements_74, hC.1, if_neg (nI_ge c (by omega)), if_neg (show ¬ (40320 : Int32) ≤ nI i from nI_ge (b := 40320) (by omega) (by omega)), gd_t (okx_nI (by omega) (by omega)), ra_nI _ _ (by omega), hgap, a8, bd1_some, nm_eq, nI_1]
        exact b6
      · rw [lp_X7_go_75, if_neg (nI_ge c (by omega))]
        exact Eq.trans a9 b7
    · exact stop f f' i n Q σ τ (by omega) (by omega) hP hC hM (by omega) c
/-! their beginnings -/
theorem fa2 {N : Nat} {fd : Nat} {σ0 : St} (hfd : fd ≤ 40320) (s16 : σ0.1 16 = nI fd) : ∀ (e n x : Nat) (σ : St), x + e = fd → e < n → OC σ0 σ → σ.1 16 = nI fd → σ.2.1 18 = σ0.2.1 18 → (∀ m, m < 32768 → σ.2.2 2 m ≠ 0 → ∃ j, x ≤ j ∧ j < fd ∧ mko (σ0.2.1 18 j) = nI m) →
    ∃ σ', OC σ0 σ' ∧ σ'.1 16 = 0 ∧ (∀ m, m < 32768 → σ'.2.2 2 m = 0) ∧ lp_X5_findArrangements_2 N n σ (nI x) = lp_X5_findArrangements_40 N σ' N 0 0 := by
  intro e
  induction e with
  | zero =>
    intro n x σ hx hn o h16 h18 hm
    obtain ⟨n, rfl⟩ : ∃ m, n = m + 1 := ⟨n - 1, by omega⟩
    refine ⟨sI σ 16 0, o.tr ⟨fun j hj => by rw [sI_1, if_neg hj], fun _ _ => rfl, fun _ _ => rfl⟩, rfl, fun m hm' => ?_, ?_⟩
    · apply Classical.byContradiction
      intro q
      obtain ⟨j, h1, h2, _⟩ := hm m hm' q
      omega
    · rw [lp_X5_findArrangements_2, h16, if_pos (nI_le (by omega) (by omega)), nm_eq]
  | succ e ih =>
    intro n x σ hx hn o h16 h18 hm
    obtain ⟨n, rfl⟩ : ∃ m, n = m + 1 := ⟨n - 1, by omega⟩
    have hk := ky_lt (σ0.2.1 18 x)
    have em : mko (σ.2.1 18 x) = nI (ky (σ0.2.1 18 x) / 64) := by rw [h18]; exact mko_eq _
    unfold mko at em
    rw [lp_X5_findArrangements_2, h16, if_neg (nI_ge (by omega) (by omega)), gd_t (okx_nI (by omega) (by omega)), ra_nI _ _ (by omega)]
    unfold f_X5_markOf
    rw [em, bd1_some, gd_t (okx_nI (by omega) (by omega)), nm_eq, nm_eq, nI_1]
    refine ih n (x + 1) _ (by omega) (by omega) (o.tr ⟨fun _ _ => rfl, fun _ _ => rfl, fun b hb => ?_⟩) h16 h18 ?_
    · show (if b = 2 then _ else σ.2.2 b) = _
      rw [if_neg hb]
    · intro m hm' hne
      rw [sL_22 _ 2 _ m _ 2 (by omega)] at hne
      by_cases c : m = ky (σ0.2.1 18 x) / 64
      · rw [if_pos ⟨rfl, c⟩] at hne; exact absurd rfl hne
      · rw [if_neg (fun q => c q.2)] at hne
        obtain ⟨j, j1, j2, j3⟩ := hm m hm' hne
        refine ⟨j, ?_, j2, j3⟩
        rcases Nat.lt_or_ge x j with q | q
        · exact q
        · rw [show j = x by omega, mko_eq] at j3
          have := (nI_eq (by omega) (by omega)).mp j3
          omega
theorem fa40 {N : Nat} {nn : Nat} {σ : St} {t : Nat → Nat} (hnn : nn ≤ 8) (s15 : σ.1 15 = nI nn) (ht : ∀ v, v < nn → σ.2.1 15 v = nI (t v)) (h8 : ∀ v, v < nn → t v < 8) : ∀ (e n k : Nat) (A : Int32), k + e = nn → e < n → En k A t → ∃ B, En nn B t ∧ lp_X5_findArrangements_40 N σ n A (nI k) = bd1 (f_X5_mark N σ B) (fun σ2 => lp_X5_findArrangements_74 N N σ2 0) := by
  intro e
  induction e with
  | zero =>
    intro n k A hk hn hA
    obtain ⟨n, rfl⟩ : ∃ m, n = m + 1 := ⟨n - 1, by omega⟩
    refine ⟨A, by rw [show nn = k by omega]; exact hA, ?_⟩
    rw [lp_X5_findArrangements_40, s15, if_pos (nI_le (by omega) (by omega))]
  | succ e ih =>
    intro n k A hk hn hA
    obtain ⟨n, rfl⟩ : ∃ m, n = m + 1 := ⟨n - 1, by omega⟩
    rw [lp_X5_findArrangements_40, s15, if_neg (nI_ge (by omega) (by omega)), gd_t (okx_nI (by omega) (by omega)), ra_nI _ _ (by omega), ht k (by omega), nm_eq, nm_eq, nI_1]
    exact ih n (k + 1) _ (by omega) (by omega) (En_or (by omega) hA (h8 k (by omega)))
theorem ch4 {N : Nat} {nn : Nat} {σ : St} (hnn : nn ≤ 8) (s15 : σ.1 15 = nI nn) : ∀ (e n k : Nat) (A : Int32), k + e = nn → e < n → En k A (fun v => v) → ∃ B, En nn B (fun v => v) ∧ lp_X5_comesHome_4 N σ n A (nI k) = bd1 (f_X5_findArrangements N σ) (fun σ1 => bd1 (f_X5_isMarked N σ1 B) (fun r2 => gd (decide (r2 = 0 ∨ r2 = 1)) (some (r2, σ1)))) := by
  intro e
  induction e with
  | zero =>
    intro n k A hk hn hA
    obtain ⟨n, rfl⟩ : ∃ m, n = m + 1 := ⟨n - 1, by omega⟩
    refine ⟨A, by rw [show nn = k by omega]; exact hA, ?_⟩
    rw [lp_X5_comesHome_4, s15, if_pos (nI_le (by omega) (by omega))]
  | succ e ih =>
    intro n k A hk hn hA
    obtain ⟨n, rfl⟩ : ∃ m, n = m + 1 := ⟨n - 1, by omega⟩
    rw [lp_X5_comesHome_4, s15, if_neg (nI_ge (by omega) (by omega)), nm_eq, nm_eq, nI_1]
    exact ih n (k + 1) _ (by omega) (by omega) (En_or (t := fun v => v) (by omega) hA (by omega))
theorem go2 {N : Nat} {τ0 : St} : ∀ (e n x : Nat) (τ : St), x + e = 40320 → e < n → O1 16 τ0 τ → (∀ k, k < x → τ.2.1 16 k = 0) → ∃ τ', O1 16 τ0 τ' ∧ (∀ k, k < 40320 → τ'.2.1 16 k = 0) ∧ lp_X7_go_2 N n τ (nI x) = lp_X7_go_23 N N τ' 0 := by
  intro e
  induction e with
  | zero =>
    intro n x τ hx hn o h
    obtain ⟨n, rfl⟩ : ∃ m, n = m + 1 := ⟨n - 1, by omega⟩
    exact ⟨τ, o, fun k hk => h k (by omega), by rw [lp_X7_go_2, if_pos (show (40320 : Int32) ≤ nI x from nI_le (a := 40320) (by omega) (by omega))]⟩
  | succ e ih =>
    intro n x τ hx hn o h
    obtain ⟨n, rfl⟩ : ∃ m, n = m + 1 := ⟨n - 1, by omega⟩
    rw [lp_X7_go_2, if_neg (show ¬ (40320 : Int32) ≤ nI x from nI_ge (b := 40320) (by omega) (by omega)), gd_t (okx_nI (by omega) (by omega)), nm_eq, nm_eq, nI_1, nar0]
    refine ih n (x + 1) _ (by omega) (by omega) (o.tr (O1.sA _ _)) (fun k hk => ?_)
    rw [sA_row _ _ _ _ (by omega)]
    by_cases q : k = x
    · rw [q]; exact pk_us
    · rw [pk_un q]; exact h k (by omega)
theorem go23 {N : Nat} {nn : Nat} {τ0 : St} {t : Nat → Nat} (hnn : nn ≤ 8) (t9 : τ0.1 9 = nI nn) (ht : ∀ v, v < nn → τ0.2.1 14 v = nI (t v)) : ∀ (e n x : Nat) (τ : St), x + e = nn → e < n → O1 15 τ0 τ → (∀ v, v < x → τ.2.1 15 v = nI (t v)) → ∃ τ', O1 15 τ0 τ' ∧ (∀ v, v < nn → τ'.2.1 15 v = nI (t v)) ∧ lp_X7_go_23 N n τ (nI x) = bd1 (f_X7_rank N τ') (fun r1 => gd (okx (0 : Int32) 40320) (nm (sA τ' 17 (0 : Int32) r1) (fun σ2 => gd (okx (0 : Int32) 40320) (gd (okx (ra σ2 17 (0 : Int32)) 40320) (nm (sA σ2 16 (ra σ2 17 (0 : Int32)) (vp_nar .boolean (1 : Int32))) (fun σ3 => lp_X7_go_75 N N σ3 (1 : Int32) (0 : Int32))))))) := by
  intro e
  induction e with
  | zero =>
    intro n x τ hx hn o h
    obtain ⟨n, rfl⟩ : ∃ m, n = m + 1 := ⟨n - 1, by omega⟩
    exact ⟨τ, o, fun k hk => h k (by omega), by rw [lp_X7_go_23, o.1, t9, if_pos (nI_le (by omega) (by omega))]⟩
  | succ e ih =>
    intro n x τ hx hn o h
    obtain ⟨n, rfl⟩ : ∃ m, n = m + 1 := ⟨n - 1, by omega⟩
    rw [lp_X7_go_23, o.1, t9, if_neg (nI_ge (by omega) (by omega)), gd_t (okx_nI (by omega) (by omega)), gd_t (okx_nI (by omega) (by omega)), ra_nI _ _ (by omega), o.2.1 14 (by omega), ht x (by omega), nm_eq, nm_eq, nI_1]
    refine ih n (x + 1) _ (by omega) (by omega) (o.tr (O1.sA _ _)) (fun k hk => ?_)
    rw [sA_row _ _ _ _ (by omega)]
    by_cases q : k = x
    · rw [q]; exact pk_us
    · rw [pk_un q]; exact h k (by omega)
/-- both find the same arrangements -/
theorem find_ok {N : Nat} (hN : 100000 ≤ N) {nn : Nat} {σ τ : St} (hT : RT nn σ τ) (hM : RM σ) : ∃ n Q σ' τ', 1 ≤ n ∧ WP nn n Q ∧ WC nn n Q σ' ∧ WM nn n Q τ' ∧ OC σ σ' ∧ OR τ τ' ∧ f_X5_findArrangements N σ = some σ' ∧ f_X7_go N τ = some (nI n, τ') := by
  obtain ⟨hnn, s15, t9, ⟨t, hp, ht⟩, ⟨ln, l1, l2, l3, l4, l5⟩⟩ := hT
  obtain ⟨fd, m1, m2, m3⟩ := hM
  have h100 : 100 ≤ N := by omega
  have h8 : ∀ v, v < nn → t v < 8 := fun v hv => by have := hp.1 v hv; omega
  obtain ⟨σ1, o1, z1, z2, e1⟩ := fa2 (N := N) m1 m2 fd N 0 σ (by omega) (by omega) OC.rf m2 rfl (fun m hm hne => by
    obtain ⟨j, j1, j2⟩ := m3 m hm hne
    exact ⟨j, by omega, j1, j2⟩)
  have s15' : σ1.1 15 = nI nn := by rw [o1.1 15 (by omega)]; exact s15
  obtain ⟨B, hB, e2⟩ := fa40 (N := N) (t := t) hnn s15' (fun v hv => by rw [o1.2.1 15 (by omega)]; exact (ht v hv).1) h8 nn N 0 0 (by omega) (by omega) (En_0 t)
  have hP0 : WP nn 0 (fun _ => t) := ⟨fun j hj => by omega, fun i j hi => by omega⟩
  have hC0 : WC nn 0 (fun _ => t) σ1 := ⟨z1, fun j hj => by omega, fun x hx => by
    rw [z2 (x / 64) (by omega), l_0]
    constructor
    · intro q; cases q
    · rintro ⟨j, hj, _⟩; omega⟩
  rcases mark_step N hnn hP0 hC0 hB hp with ⟨⟨j, hj, _⟩, _⟩ | ⟨q1, q2, σ2, q3, q4, q5⟩
  · omega
  · obtain ⟨τ1, p1, p2, p3⟩ := go2 (N := N) 40320 N 0 τ (by omega) (by omega) O1.rf (fun k hk => by omega)
    obtain ⟨τ2, r1, r2, r3⟩ := go23 (N := N) (t := t) hnn (show τ1.1 9 = nI nn by rw [p1.1]; exact t9) (fun v hv => by rw [p1.2.1 14 (by omega)]; exact (ht v hv).2) nn N 0 τ1 (by omega) (by omega) O1.rf (fun k hk => by omega)
    have t92 : τ2.1 9 = nI nn := by rw [r1.1, p1.1]; exact t9
    have hrk := rank_ok h100 hnn t92 r2 h8
    have hlt := rk_lt' hnn t (Nat.le_refl nn)
    have r3 : lp_X7_go_23 N N τ1 0 = _ := r3
    have p3 : f_X7_go N τ = lp_X7_go_23 N N τ1 0 := p3
    have o0 : okx (0 : Int32) 40320 = true := by decide
    have ra17 : ra (sA τ2 17 (0 : Int32) (nI (rk nn t nn))) 17 (0 : Int32) = nI (rk nn t nn) := by
      show (sA τ2 17 (nI 0) (nI (rk nn t nn))).2.1 17 0 = _
      rw [sA_row _ _ _ _ (by omega)]; exact pk_us
    rw [hrk, bd1_some, gd_t o0, nm_eq, gd_t o0, ra17, gd_t (okx_nI hlt (by omega)), nm_eq, nar1] at r3
    have hM1 : WM nn 1 (psh (fun _ => t) 0 t) (sA (sA τ2 17 (0 : Int32) (nI (rk nn t nn))) 16 (nI (rk nn t nn)) 1) := by
      constructor
      · intro j hj
        have : j = 0 := by omega
        subst this
        rw [psh_n]
        show (sA (sA τ2 17 (nI 0) (nI (rk nn t nn))) 16 (nI (rk nn t nn)) 1).2.1 17 0 = _
        rw [sA_21 _ 16 _ 0 _ 17 (by omega), if_neg (by omega), sA_row _ _ _ _ (by omega)]; exact pk_us
      · intro k hk
        have e : (sA (sA τ2 17 (0 : Int32) (nI (rk nn t nn))) 16 (nI (rk nn t nn)) 1).2.1 16 k = if k = rk nn t nn then 1 else 0 := by
          show (sA (sA τ2 17 (nI 0) (nI (rk nn t nn))) 16 (nI (rk nn t nn)) 1).2.1 16 k = _
          rw [sA_21 _ 16 _ k _ 16 (by omega), sA_21 _ 17 0 k _ 16 (by omega), if_neg (show ¬ ((16 : Nat) = 17 ∧ k = 0) by omega), r1.2.1 16 (by omega), p2 k hk]
          simp only [true_and]
        rw [e]
        by_cases c : k = rk nn t nn
        · rw [if_pos c]; exact Or.inl ⟨rfl, 0, by omega, by rw [psh_n, c]⟩
        · rw [if_neg c]
          refine Or.inr ⟨rfl, fun ⟨j, hj, e⟩ => ?_⟩
          have : j = 0 := by omega
          subst this
          rw [psh_n] at e
          exact c e.symm
    have oo : OR τ (sA (sA τ2 17 (0 : Int32) (nI (rk nn t nn))) 16 (nI (rk nn t nn)) 1) := (OR.o (Or.inr (Or.inl rfl)) p1).tr ((OR.o (Or.inl rfl) r1).tr ((OR.o (Or.inr (Or.inr rfl)) (O1.sA (a := 17) _ _)).tr (OR.o (Or.inr (Or.inl rfl)) (O1.sA (a := 16) _ _))))
    obtain ⟨n, Q, σ3, τ3, b0, b1, b2, b3, b4, b5, b6, b7⟩ := bfs_loop h100 (nn := nn) (ln := ln) ⟨hnn, l1, l3⟩ l2 40320 N N 0 1 _ σ2 _ (by omega) (by omega) (by omega) (WP_psh hP0 hp q1) q5 hM1 (by omega) (by rw [q4.1 15 (by omega)]; exact s15') (by rw [oo.1]; exact t9) ⟨by rw [q4.2.1 16 (by omega), o1.2.1 16 (by omega)]; exact l4, by rw [oo.2.1 13 (by omega) (by omega) (by omega)]; exact l5⟩
    refine ⟨n, Q, σ3, τ3, b0, b1, b2, b3, o1.tr (q4.tr b4), oo.tr b5, ?_, ?_⟩
    · have e1 : f_X5_findArrangements N σ = lp_X5_findArrangements_40 N σ1 N 0 0 := e1
      have e2 : lp_X5_findArrangements_40 N σ1 N 0 0 = _ := e2
      rw [e1, e2, q3, bd1_some]
      exact b6
    · rw [p3, r3]
      exact b7
/-- the relation behind it -/
theorem Rel_ways {σ τ σ1 τ1 : St} {w h nb ng nn n : Nat} {Q : Nat → Nat → Nat} (hB : RB w h nb σ τ) (hG : RG nb ng σ τ) (hS : RS σ τ) (hC : RC σ) (hT : RT nn σ τ) (hP : WP nn n Q) (hW : WC nn n Q σ1) (o1 : OC σ σ1) (o2 : OR (sI τ 0 0) τ1) : Rel σ1 τ1 := by
  have hnn := hT.1
  have k1 : ∀ j, j ≠ 0 → τ1.1 j = τ.1 j := fun j h0 => by rw [o2.1, sI_1, if_neg h0]
  have k2 : ∀ b, b < 15 → τ1.2.1 b = τ.2.1 b := fun b hb => o2.2.1 b (by omega) (by omega) (by omega)
  refine ⟨w, h, nb, ng, nn, RB_fr hB (fun j hj => o1.1 j (by omega)) (o1.2.1 0 (by omega)) (o1.2.1 1 (by omega)) (fun j _ _ => k1 j (by omega)) (k2 0 (by omega)) (k2 1 (by omega)), ?_, ?_, ?_, ?_, ?_⟩
  · exact RG_fr hG (o1.1 8 (by omega)) (o1.2.1 2 (by omega)) (o1.2.1 3 (by omega)) (o1.2.1 4 (by omega)) (k1 5 (by omega)) (k2 2 (by omega)) (k2 3 (by omega))
  · exact RS_fr hS (o1.1 13 (by omega)) (o1.1 14 (by omega)) (o1.2.1 14 (by omega)) (k1 7 (by omega)) (k1 8 (by omega)) (k2 12 (by omega))
  · exact RC_fr hC (o1.1 12 (by omega)) (o1.2.1 12 (by omega)) (o1.2.2 0 (by omega))
  · exact RT_fr hT (o1.1 15 (by omega)) (o1.2.1 15 (by omega)) (o1.2.1 16 (by omega)) (k1 9 (by omega)) (k2 13 (by omega)) (k2 14 (by omega))
  · refine ⟨n, WP_le hnn hP, hW.1, fun m hm hne => ?_⟩
    have hx : ∃ i, i < 64 ∧ btl (σ1.2.2 2 m) i = true := by
      apply Classical.byContradiction
      intro q
      apply hne
      apply l_ext
      intro i hi
      rw [l_0]
      cases e : btl (σ1.2.2 2 m) i
      · rfl
      · exact absurd ⟨i, hi, e⟩ q
    obtain ⟨i, hi, hb⟩ := hx
    have := (hW.2.2 (64 * m + i) (by omega)).mp (by rw [show (64 * m + i) / 64 = m by omega, show (64 * m + i) % 64 = i by omega]; exact hb)
    obtain ⟨j, hj, e⟩ := this
    exact ⟨j, hj, by rw [mko_eq, e, show (64 * m + i) / 64 = m by omega]⟩
theorem pg_21 {σ τ : St} (hR : Rel σ τ) {N : Nat} (hN : 100000 ≤ N) {xs : Nat → Int32} {L : Nat} {i : Int32} (K : St → St → Option Int32) : ∃ σ1 τ1, Rel σ1 τ1 ∧ g_law_21 N xs L σ τ i K = K σ1 τ1 := by
  have hR' := hR
  obtain ⟨w, h, nb, ng, nn, hB, hG, hS, hC, hT, hM⟩ := hR'
  have s15 := hT.2.1
  have t9 := hT.2.2.1
  have hnn := hT.1
  unfold g_law_21 f_X6_ways f_X7_ways f_X5_countArrangements
  rw [nm_eq, s15, show (sI τ 0 0).1 9 = nI nn from t9]
  by_cases h0 : nn = 0
  · refine ⟨σ, sI τ 0 0, th_rel hR 0, ?_⟩
    rw [h0, if_pos (show nI 0 = 0 from rfl), if_pos (show nI 0 = 0 from rfl), bd_some, bd_some, bd_some, if_pos rfl]
  · have n0 : ¬ nI nn = 0 := nI_ne0 (by omega) (by omega)
    obtain ⟨n, Q, σ1, τ1, b0, b1, b2, b3, b4, b5, b6, b7⟩ := find_ok hN (σ := σ) (τ := sI τ 0 0) hT hM
    refine ⟨σ1, τ1, Rel_ways hB hG hS hC hT b1 b2 b4 b5, ?_⟩
    rw [if_neg n0, if_neg n0, b6, b7, bd1_some, bd_some, bd_some, bd_some, bd_some, b2.1, if_pos rfl]
theorem pg_22 {σ τ : St} (hR : Rel σ τ) {N : Nat} (hN : 100000 ≤ N) {xs : Nat → Int32} {L : Nat} {i : Int32} (K : St → St → Option Int32) : ∃ σ1 τ1, Rel σ1 τ1 ∧ g_law_22 N xs L σ τ i K = K σ1 τ1 := by
  have hR' := hR
  obtain ⟨w, h, nb, ng, nn, hB, hG, hS, hC, hT, hM⟩ := hR'
  have s15 := hT.2.1
  have t9 := hT.2.2.1
  have hnn := hT.1
  obtain ⟨n, Q, σ1, τ1, b0, b1, b2, b3, b4, b5, b6, b7⟩ := find_ok hN (σ := σ) (τ := sI τ 0 0) hT hM
  obtain ⟨A, hA, e1⟩ := ch4 (N := N) hnn s15 nn N 0 0 (by omega) (by omega) (En_0 _)
  have e1 : f_X5_comesHome N σ = _ := e1
  have hid : perm nn (fun v => v) := ⟨fun v hv => hv, fun u v _ _ h => h⟩
  have hmark : btl (σ1.2.2 2 (ky A / 64)) (ky A % 64) = true ↔ ∃ j, j < n ∧ ∀ v, v < nn → Q j v = v := by
    rw [b2.2.2 (ky A) (ky_lt A)]
    constructor
    · rintro ⟨j, hj, e⟩
      exact ⟨j, hj, ky_inj hnn (b2.2.1 j hj) hA (b1.1 j hj) hid e⟩
    · rintro ⟨j, hj, e⟩
      exact ⟨j, hj, by rw [En_un (b2.2.1 j hj) hA e]⟩
  have hy : Yn (τ1.2.1 16 0) (∃ j, j < n ∧ ∀ v, v < nn → Q j v = v) := (b3.2 0 (by omega)).congr (by
    constructor
    · rintro ⟨j, hj, e⟩
      exact ⟨j, hj, rk_inj hnn (b1.1 j hj) hid (by rw [e, rk_id (fun _ _ => rfl) nn (Nat.le_refl _)])⟩
    · rintro ⟨j, hj, e⟩
      exact ⟨j, hj, rk_id e nn (Nat.le_refl _)⟩)
  have o0 : okx (0 : Int32) 40320 = true := by decide
  unfold g_law_22 f_X6_home f_X7_home
  rw [e1, b6, bd1_some, isMarked_ok, bd1_some, nm_eq, show (sI τ 0 0).1 9 = nI nn from t9]
  by_cases h0 : nn = 0
  · have hm : btl (σ1.2.2 2 (ky A / 64)) (ky A % 64) = true := by
      rw [hmark]
      exact ⟨0, by omega, fun v hv => by omega⟩
    refine ⟨σ1, sI τ 0 0, Rel_ways hB hG hS hC hT b1 b2 b4 OR.rf, ?_⟩
    rw [hm, if_pos rfl, h0, if_pos (show nI 0 = 0 from rfl), gd_t (by decide), bd_some, gd_t (by decide), bd_some, bd_some, if_pos rfl]
  · have n0 : ¬ nI nn = 0 := nI_ne0 (by omega) (by omega)
    refine ⟨σ1, τ1, Rel_ways hB hG hS hC hT b1 b2 b4 b5, ?_⟩
    have er : ra τ1 16 (0 : Int32) = τ1.2.1 16 0 := ra_nI τ1 16 (i := 0) (by omega)
    rw [if_neg n0, b7, bd_some, gd_t o0, er]
    rcases hy with ⟨y1, y2⟩ | ⟨y1, y2⟩
    · rw [hmark.mpr y2, if_pos rfl, y1, gd_t (by decide), gd_t (by decide), bd_some, gd_t (by decide), bd_some, bd_some, if_pos rfl]
    · have hb : btl (σ1.2.2 2 (ky A / 64)) (ky A % 64) = false := by
        cases e : btl (σ1.2.2 2 (ky A / 64)) (ky A % 64)
        · rfl
        · exact absurd (hmark.mp e) y2
      rw [hb, if_neg (by decide : ¬ false = true), y1, gd_t (by decide), gd_t (by decide), bd_some, gd_t (by decide), bd_some, bd_some, if_pos rfl]

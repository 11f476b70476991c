/-! the loops over ways, blocks and states, side by side -/
theorem way_loop {N : Nat} (hN : 100000 ≤ N) {w h nb ng most me goal : Nat} {α : Nat → Nat} {B : Nat → Int32} {wl : Int32} {σ0 τ0 : St} (hX : CX w h nb ng most me goal α B wl σ0 τ0) {i b : Nat} (hb : b < nb) {m M8 : Nat → Int32} (hgm : GS w h nb wl B m) (hm8 : ∀ k, k < nb → M8 k = m k) (x2 : Int32) (K16 : St → Int32 → Option (Int32 × St)) (KR : St → Int32 → Option (Int32 × St)) :
    ∀ (e f f' way n : Nat) (S : Nat → Nat → Int32) (par mov : Nat → Int32) (σ τ : St), way + e = 4 → e < f → e ≤ f' → FE σ0 σ → FT τ0 τ → IV w h nb most α B wl n S par mov σ τ → i < n → S i = m → (∀ k, k < nb → σ.2.1 7 k = plc (m k)) → σ.2.1 8 = M8 →
    (∃ n' S' par' mov' σ' τ', FE σ0 σ' ∧ FT τ0 τ' ∧ IV w h nb most α B wl n' S' par' mov' σ' τ' ∧ n ≤ n' ∧ (∀ j, j < n → S' j = S j) ∧ (∀ k, k < nb → σ'.2.1 7 k = plc (m k)) ∧ σ'.2.1 8 = M8 ∧ lp_X1_expand_42 N (nI i) x2 (nI b) (ormx wl m b nb) K16 f σ (nI way) = K16 σ' (nI (b + 1)) ∧ lp_X7_spread_115 N (nI me) (nI most) (nI goal) (nI i) KR f' τ (nI (4 * b + way)) = lp_X7_spread_115 N (nI me) (nI most) (nI goal) (nI i) KR (f' - e) τ' (nI (4 * b + 4))) ∨
    (∃ r rr σ' τ', r ≠ 1 ∧ FIN w h nb most α B wl σ0 τ0 r rr σ' τ' ∧ lp_X1_expand_42 N (nI i) x2 (nI b) (ormx wl m b nb) K16 f σ (nI way) = some (r, σ') ∧ lp_X7_spread_115 N (nI me) (nI most) (nI goal) (nI i) KR f' τ (nI (4 * b + way)) = some (rr, τ')) := by
  intro e
  induction e with
  | zero =>
    intro f f' way n S par mov σ τ hwe hf hf' fe ft hV hin hSi h7 h8
    obtain ⟨f, rfl⟩ : ∃ j, f = j + 1 := ⟨f - 1, by omega⟩
    have ew : way = 4 := by omega
    subst ew
    left
    refine ⟨n, S, par, mov, σ, τ, fe, ft, hV, Nat.le_refl _, fun j _ => rfl, h7, h8, ?_, rfl⟩
    rw [lp_X1_expand_42, if_pos (show (4 : Int32) ≤ nI 4 by decide), nm_eq, nI_1]
  | succ e ih =>
    intro f f' way n S par mov σ τ hwe hf hf' fe ft hV hin hSi h7 h8
    obtain ⟨f, rfl⟩ : ∃ j, f = j + 1 := ⟨f - 1, by omega⟩
    obtain ⟨f', rfl⟩ : ∃ j, f' = j + 1 := ⟨f' - 1, by omega⟩
    have hXc := CX_fr hX fe ft
    obtain ⟨hB, hG, ⟨x9, x10, x11, x7, x1⟩, hal, ⟨z1, z2, z3, z4⟩, hA⟩ := hXc
    obtain ⟨⟨hw, hh, hnb⟩, ⟨s0, s1, s2, s3, s4, s5, s6⟩, ⟨t1, t2, t4, t3⟩, hbl, -⟩ := hB
    have h25 := wh25 hw.1 hh.1
    have ob : okx (nI b) 8 = true := okx_nI (by omega) (by omega)
    have hvn := hV.2.2.1
    obtain ⟨τ6, o6, r10, e6⟩ := loadR (N := N) (by omega) (show i ≤ 10000 by omega) (m := m) (τ0 := τ) (fun k hk => by rw [← hSi]; exact (hV.2.1.2.1 i hin).1 k hk)
    have hV6 : IV w h nb most α B wl n S par mov σ τ6 := ⟨hV.1, SR_o (a := 10) (by omega) hV.2.1 o6, hV.2.2⟩
    have us := upd_self m b
    have hcl : lp_X1_expand_42 N (nI i) x2 (nI b) (ormx wl m b nb) K16 (f + 1) σ (nI way) = bd (lp_X1_tryWay_22 N (nI i) (nI b) (nI way) (ormx wl m b nb) (plc (m b)) N σ (m b) 1 (nI 1)) (fun r5 σ6 => if r5 = (1 : Int32) then (nm (nI way + (1 : Int32)) (fun y7 => lp_X1_expand_42 N (nI i) x2 (nI b) (ormx wl m b nb) K16 f σ6 y7)) else (some (r5, σ6))) := by
      rw [lp_X1_expand_42, if_neg (show ¬ (4 : Int32) ≤ nI way from nI_ge (b := 4) (by omega) (by omega))]
      unfold f_X1_tryWay
      rw [gd_t ob, ra_nI _ _ (by omega), h7 b hb, nm_eq, gd_t ob, ra_nI _ _ (by omega), h8, hm8 b hb, nm_eq]
      rfl
    have hrf : lp_X7_spread_115 N (nI me) (nI most) (nI goal) (nI i) KR (f' + 1) τ (nI (4 * b + way)) = lp_X7_spread_144 N (nI me) (nI most) (nI goal) (nI i) (nI (4 * b + way)) (nI b) (fun v0 v1 => lp_X7_spread_115 N (nI me) (nI most) (nI goal) (nI i) KR f' v0 v1) N τ6 1 (nI 1) := by
      rw [lp_X7_spread_115, t4, show (4 : Int32) * nI nb = nI (4 * nb) from pk_mul 4 nb, if_neg (nI_ge (by omega) (by omega)), e6, bd1_some, nm_eq, show nI (4 * b + way) / 4 = nI b by rw [show (4 : Int32) = nI 4 from rfl, pk_div (by omega) (by omega) (by omega)]; congr 1; omega]
      rfl
    rw [hcl, hrf]
    have res := try_loop (N := N) hN hX (i := i) (m := m) (M8 := M8) hb (show way < 4 by omega) (fun v0 v1 => lp_X7_spread_115 N (nI me) (nI most) (nI goal) (nI i) KR f' v0 v1) 4 N N 1 n S par mov (m b) σ τ6 fe (ft.tr (FT.o (a := 10) (by omega) o6)) hV6 hin (by rw [us]; exact hgm) (by rw [us]; exact h7) h8 (by rw [us]; exact r10) (fun hz => by
      obtain ⟨c, hc, hbc⟩ := nz_iff.mp hz
      have hl := inb_lt (hgm.1 b hb).1 hbc
      exact ⟨c, hl, hbc, room4 hw hh (by omega) hl⟩) (fun _ => by omega) (fun _ => rfl) (by omega) (by omega) (by omega)
    rcases res with ⟨n', S', par', mov', σ', τ', q1, q2, q3, q4, q5, q6, q7, q8, q9⟩ | ⟨r', rr, σ', τ', q1, q2, q3, q4⟩
    · rw [q8, q9, bd_some, if_pos rfl, nm_eq, nI_1]
      have res2 := ih f f' (way + 1) n' S' par' mov' σ' τ' (by omega) (by omega) (by omega) q1 q2 q3 (by omega) ((q5 i hin).trans hSi) q6 q7
      rw [show f' + 1 - (e + 1) = f' - e by omega]
      rcases res2 with ⟨n2, S2, par2, mov2, σ2, τ2, p1, p2, p3, p4, p5, p6, p7, p8, p9⟩ | res2
      · exact Or.inl ⟨n2, S2, par2, mov2, σ2, τ2, p1, p2, p3, by omega, fun j hj => (p5 j (by omega)).trans (q5 j hj), p6, p7, p8, p9⟩
      · exact Or.inr res2
    · right
      rw [q3, q4, bd_some, if_neg q1]
      exact ⟨r', rr, σ', τ', q1, q2, rfl, rfl⟩
theorem block_loop {N : Nat} (hN : 100000 ≤ N) {w h nb ng most me goal : Nat} {α : Nat → Nat} {B : Nat → Int32} {wl : Int32} {σ0 τ0 : St} (hX : CX w h nb ng most me goal α B wl σ0 τ0) {i : Nat} {m M8 : Nat → Int32} (hgm : GS w h nb wl B m) (hm8 : ∀ k, k < nb → M8 k = m k) (KR : St → Int32 → Option (Int32 × St)) :
    ∀ (e f f' b n : Nat) (S : Nat → Nat → Int32) (par mov : Nat → Int32) (σ τ : St), b + e = nb → e < f → 4 * e < f' → FE σ0 σ → FT τ0 τ → IV w h nb most α B wl n S par mov σ τ → i < n → S i = m → (∀ k, k < nb → σ.2.1 7 k = plc (m k)) → σ.2.1 8 = M8 →
    (∃ n' S' par' mov' σ' τ', FE σ0 σ' ∧ FT τ0 τ' ∧ IV w h nb most α B wl n' S' par' mov' σ' τ' ∧ n ≤ n' ∧ (∀ j, j < n → S' j = S j) ∧ lp_X1_expand_16 N (nI i) (orm wl m nb) f σ (nI b) = some (1, σ') ∧ lp_X7_spread_115 N (nI me) (nI most) (nI goal) (nI i) KR f' τ (nI (4 * b)) = KR τ' (nI (i + 1))) ∨
    (∃ r rr σ' τ', r ≠ 1 ∧ FIN w h nb most α B wl σ0 τ0 r rr σ' τ' ∧ lp_X1_expand_16 N (nI i) (orm wl m nb) f σ (nI b) = some (r, σ') ∧ lp_X7_spread_115 N (nI me) (nI most) (nI goal) (nI i) KR f' τ (nI (4 * b)) = some (rr, τ')) := by
  intro e
  induction e with
  | zero =>
    intro f f' b n S par mov σ τ hbe hf hf' fe ft hV hin hSi h7 h8
    obtain ⟨f, rfl⟩ : ∃ j, f = j + 1 := ⟨f - 1, by omega⟩
    obtain ⟨f', rfl⟩ : ∃ j, f' = j + 1 := ⟨f' - 1, by omega⟩
    have hXc := CX_fr hX fe ft
    obtain ⟨hB, -⟩ := hXc
    obtain ⟨⟨hw, hh, hnb⟩, ⟨s0, s1, s2, s3, s4, s5, s6⟩, ⟨t1, t2, t4, t3⟩, hbl, -⟩ := hB
    have eb : b = nb := by omega
    subst eb
    left
    refine ⟨n, S, par, mov, σ, τ, fe, ft, hV, Nat.le_refl _, fun j _ => rfl, ?_, ?_⟩
    · rw [lp_X1_expand_16, s6, if_pos (nI_le (by omega) (by omega))]
    · rw [lp_X7_spread_115, t4, show (4 : Int32) * nI b = nI (4 * b) from pk_mul 4 b, if_pos (nI_le (by omega) (by omega)), nm_eq, nI_1]
  | succ e ih =>
    intro f f' b n S par mov σ τ hbe hf hf' fe ft hV hin hSi h7 h8
    obtain ⟨f, rfl⟩ : ∃ j, f = j + 1 := ⟨f - 1, by omega⟩
    have hXc := CX_fr hX fe ft
    obtain ⟨hB, -⟩ := hXc
    obtain ⟨⟨hw, hh, hnb⟩, ⟨s0, s1, s2, s3, s4, s5, s6⟩, ⟨t1, t2, t4, t3⟩, hbl, -⟩ := hB
    have hb : b < nb := by omega
    have hcl : lp_X1_expand_16 N (nI i) (orm wl m nb) (f + 1) σ (nI b) = lp_X1_expand_42 N (nI i) (orm wl m nb) (nI b) (ormx wl m b nb) (fun v0 v1 => lp_X1_expand_16 N (nI i) (orm wl m nb) f v0 v1) N σ (nI 0) := by
      rw [lp_X1_expand_16, s6, if_neg (nI_ge (by omega) (by omega)), gd_t (okx_nI (by omega) (by omega)), ra_nI _ _ (by omega), h8, hm8 b hb, ormx_eq hb hgm.2.1, nm_eq]
      rfl
    rw [hcl]
    have res := way_loop (N := N) hN hX (i := i) hb hgm hm8 (orm wl m nb) (fun v0 v1 => lp_X1_expand_16 N (nI i) (orm wl m nb) f v0 v1) KR 4 N f' 0 n S par mov σ τ (by omega) (by omega) (by omega) fe ft hV hin hSi h7 h8
    rcases res with ⟨n', S', par', mov', σ', τ', q1, q2, q3, q4, q5, q6, q7, q8, q9⟩ | ⟨r', rr, σ', τ', q1, q2, q3, q4⟩
    · rw [Nat.add_zero] at q9
      rw [q8, q9]
      have res2 := ih f (f' - 4) (b + 1) n' S' par' mov' σ' τ' (by omega) (by omega) (by omega) q1 q2 q3 (by omega) ((q5 i hin).trans hSi) q6 q7
      rw [show 4 * (b + 1) = 4 * b + 4 by omega] at res2
      rcases res2 with ⟨n2, S2, par2, mov2, σ2, τ2, p1, p2, p3, p4, p5, p6, p7⟩ | res2
      · exact Or.inl ⟨n2, S2, par2, mov2, σ2, τ2, p1, p2, p3, by omega, fun j hj => (p5 j (by omega)).trans (q5 j hj), p6, p7⟩
      · exact Or.inr res2
    · right
      rw [Nat.add_zero] at q4
      exact ⟨r', rr, σ', τ', q1, q2, q3, q4⟩
theorem FE.o2 {σ σ1 : St} (h : O2 7 8 σ σ1) : FE σ σ1 := ⟨fun j _ => by rw [h.1], fun b hb => h.2.1 b (by omega) (by omega), fun b _ _ => by rw [h.2.2]⟩
theorem state_loop {N : Nat} (hN : 100000 ≤ N) {w h nb ng most me goal : Nat} {α : Nat → Nat} {B : Nat → Int32} {wl : Int32} {σ0 τ0 : St} (hX : CX w h nb ng most me goal α B wl σ0 τ0) :
    ∀ (e f f' i n : Nat) (S : Nat → Nat → Int32) (par mov : Nat → Int32) (σ τ : St), i + e = 10000 → e < f → e < f' → FE σ0 σ → FT τ0 τ → IV w h nb most α B wl n S par mov σ τ → i ≤ n → 1 ≤ n →
    ∃ r rr σ' τ', FIN w h nb most α B wl σ0 τ0 r rr σ' τ' ∧ lp_X1_explore_43 N f σ 1 (nI i) = some (r, σ') ∧ lp_X7_spread_103 N (nI me) (nI most) (nI goal) f' τ (nI i) = some (rr, τ') := by
  intro e
  induction e with
  | zero =>
    intro f f' i n S par mov σ τ hie hf hf' fe ft hV hin hn1
    obtain ⟨f, rfl⟩ : ∃ j, f = j + 1 := ⟨f - 1, by omega⟩
    obtain ⟨f', rfl⟩ : ∃ j, f' = j + 1 := ⟨f' - 1, by omega⟩
    have z2 := hX.2.2.2.2.1.2.1
    have hvn := hV.2.2.1
    refine ⟨-1, -1, σ, τ, ⟨fe, ft, Or.inr (Or.inr ⟨rfl, rfl, n, S, par, mov, hn1, hV⟩)⟩, ?_, ?_⟩
    · rw [lp_X1_explore_43, if_pos rfl, hV.1.1, if_pos (nI_le (by omega) (by omega)), if_pos rfl]
    · rw [lp_X7_spread_103, hV.2.1.1, if_pos (nI_le (by omega) (by omega))]
  | succ e ih =>
    intro f f' i n S par mov σ τ hie hf hf' fe ft hV hin hn1
    obtain ⟨f, rfl⟩ : ∃ j, f = j + 1 := ⟨f - 1, by omega⟩
    obtain ⟨f', rfl⟩ : ∃ j, f' = j + 1 := ⟨f' - 1, by omega⟩
    have hXc := CX_fr hX fe ft
    obtain ⟨hB, hG, ⟨x9, x10, x11, x7, x1⟩, hal, ⟨z1, z2, z3, z4⟩, hA⟩ := hXc
    have hB' := hB
    obtain ⟨⟨hw, hh, hnb⟩, ⟨s0, s1, s2, s3, s4, s5, s6⟩, ⟨t1, t2, t4, t3⟩, hbl, -⟩ := hB'
    have h25 := wh25 hw.1 hh.1
    have hvn := hV.2.2.1
    rcases Nat.lt_or_ge i n with c | c
    · have hgm := hV.2.2.2.1 i c
      obtain ⟨σ2, o2, r7, r8, e2⟩ := loadC (N := N) (by omega) hnb h25 s6 x7 x1 (fun b hb => by rw [← x1]; exact (hbl b hb).2.2.1) (fun b hb => (hal b hb).2.2) hgm
      have hV2 : IV w h nb most α B wl n S par mov σ2 τ := ⟨SC_fr hV.1 (by rw [o2.1]) (o2.2.1 10 (by omega) (by omega)) (o2.2.1 11 (by omega) (by omega)) (o2.2.1 12 (by omega) (by omega)) (o2.2.1 13 (by omega) (by omega)) (by rw [o2.2.2]) (by rw [o2.2.2]), hV.2⟩
      have res := block_loop (N := N) hN hX (i := i) (M8 := σ2.2.1 8) hgm r8 (fun v0 v1 => lp_X7_spread_103 N (nI me) (nI most) (nI goal) f' v0 v1) nb N N 0 n S par mov σ2 τ (by omega) (by omega) (by omega) (fe.tr (FE.o2 o2)) ft hV2 c rfl r7 rfl
      have hcl : lp_X1_explore_43 N (f + 1) σ 1 (nI i) = bd (lp_X1_expand_16 N (nI i) (orm wl (S i) nb) N σ2 (nI 0)) (fun r8 σ9 => lp_X1_explore_43 N f σ9 r8 (nI (i + 1))) := by
        rw [lp_X1_explore_43, if_pos rfl, hV.1.1, if_neg (nI_ge c (by omega)), if_neg (show ¬ (10000 : Int32) ≤ nI i from nI_ge (b := 10000) (by omega) (by omega))]
        unfold f_X1_expand
        rw [gd_t (okx_nI (by omega) (by omega)), rl_nI _ _ (by omega), (hV.1.2.1 i c).2.1, e2, bd_some]
        simp only [nm_eq, nI_1]
        rfl
      have hrf : lp_X7_spread_103 N (nI me) (nI most) (nI goal) (f' + 1) τ (nI i) = lp_X7_spread_115 N (nI me) (nI most) (nI goal) (nI i) (fun v0 v1 => lp_X7_spread_103 N (nI me) (nI most) (nI goal) f' v0 v1) N τ (nI (4 * 0)) := by
        rw [lp_X7_spread_103, hV.2.1.1, if_neg (nI_ge c (by omega))]
        rfl
      rw [hcl, hrf]
      rcases res with ⟨n', S', par', mov', σ', τ', q1, q2, q3, q4, q5, q6, q7⟩ | ⟨r', rr, σ', τ', q1, q2, q3, q4⟩
      · rw [q6, q7, bd_some]
        exact ih f f' (i + 1) n' S' par' mov' σ' τ' (by omega) (by omega) (by omega) q1 q2 q3 (by omega) (by omega)
      · refine ⟨r', rr, σ', τ', q2, ?_, q4⟩
        obtain ⟨f, rfl⟩ : ∃ j, f = j + 1 := ⟨f - 1, by omega⟩
        rw [q3, bd_some, lp_X1_explore_43, if_neg q1, if_neg q1]
    · refine ⟨-1, -1, σ, τ, ⟨fe, ft, Or.inr (Or.inr ⟨rfl, rfl, n, S, par, mov, hn1, hV⟩)⟩, ?_, ?_⟩
      · rw [lp_X1_explore_43, if_pos rfl, hV.1.1, if_pos (nI_le c (by omega)), if_pos rfl]
      · rw [lp_X7_spread_103, hV.2.1.1, if_pos (nI_le c (by omega))]

/-! how the search begins -/
theorem present_ok {N : Nat} (hN : 100 ≤ N) {nb : Nat} {B : Nat → Int32} {σ0 : St} (hnb : nb ≤ 8) (h6 : σ0.1 6 = nI nb) (hB : σ0.2.1 1 = B) (hi : ∀ b, b < nb → inb (B b) 25) : ∃ σ', O2 6 7 σ0 σ' ∧ (∀ b, b < nb → σ'.2.1 6 b = plc (B b) ∧ σ'.2.1 7 b = plc (B b)) ∧ f_X1_offerPresent N σ0 = bd (f_X1_offer N σ' (-1) 0) (fun r1 σ2 => some (r1, σ2)) := by
  have lp : ∀ (e f k : Nat) (σ : St), k + e = nb → e < f → O2 6 7 σ0 σ → (∀ b, b < k → σ.2.1 6 b = plc (B b) ∧ σ.2.1 7 b = plc (B b)) → ∃ σ', O2 6 7 σ0 σ' ∧ (∀ b, b < nb → σ'.2.1 6 b = plc (B b) ∧ σ'.2.1 7 b = plc (B b)) ∧ lp_X1_offerPresent_2 N f σ (nI k) = bd (f_X1_offer N σ' (-1) 0) (fun r1 σ2 => some (r1, σ2)) := by
    intro e
    induction e with
    | zero =>
      intro f k σ hk hf o h
      obtain ⟨f, rfl⟩ : ∃ j, f = j + 1 := ⟨f - 1, by omega⟩
      exact ⟨σ, o, fun b hb => h b (by omega), by rw [lp_X1_offerPresent_2, o.1, h6, if_pos (nI_le (by omega) (by omega))]⟩
    | succ e ih =>
      intro f k σ hk hf o h
      obtain ⟨f, rfl⟩ : ∃ j, f = j + 1 := ⟨f - 1, by omega⟩
      have ok : okx (nI k) 8 = true := okx_nI (by omega) (by omega)
      have r6 : (sA σ 6 (nI k) (plc (B k))).2.1 6 = upd (σ.2.1 6) k (plc (B k)) := sA_row _ _ _ _ (by omega)
      rw [lp_X1_offerPresent_2, o.1, h6, if_neg (nI_ge (by omega) (by omega)), gd_t ok, ra_nI _ _ (by omega), o.2.1 1 (by omega) (by omega), hB, leastCell_plc N σ (hi k (by omega)), bd1_some, gd_t ok, nm_eq, gd_t ok, gd_t ok, ra_nI _ _ (by omega), r6, pk_us, nm_eq, nm_eq, nI_1]
      refine ih f (k + 1) _ (by omega) (by omega) ⟨o.1, fun b c1 c2 => by rw [sA_oth _ _ _ c2, sA_oth _ _ _ c1]; exact o.2.1 b c1 c2, o.2.2⟩ (fun b hb => ?_)
      rw [sA_oth _ _ _ (show 6 ≠ 7 by omega), r6, sA_row _ _ _ _ (by omega), sA_oth _ _ _ (show 7 ≠ 6 by omega)]
      by_cases d : b = k
      · rw [d, pk_us, pk_us]; exact ⟨rfl, rfl⟩
      · rw [pk_un d, pk_un d]; exact h b (by omega)
  exact lp nb N 0 σ0 (by omega) (by omega) O2.rf (fun b hb => by omega)
theorem sp7 {N : Nat} (hN : 100000 ≤ N) (x1 x2 x3 : Int32) {τ0 : St} : ∃ τ', O1 8 τ0 τ' ∧ (∀ y, y < 32768 → τ'.2.1 8 y = -1) ∧ lp_X7_spread_7 N x1 x2 x3 N τ0 0 = lp_X7_spread_36 N x1 x2 x3 N (sI τ' 6 0) 0 := by
  have lp : ∀ (e f k : Nat) (τ : St), k + e = 32768 → e < f → O1 8 τ0 τ → (∀ y, y < k → τ.2.1 8 y = -1) → ∃ τ', O1 8 τ0 τ' ∧ (∀ y, y < 32768 → τ'.2.1 8 y = -1) ∧ lp_X7_spread_7 N x1 x2 x3 f τ (nI k) = lp_X7_spread_36 N x1 x2 x3 N (sI τ' 6 0) 0 := by
    intro e
    induction e with
    | zero =>
      intro f k τ hk hf o h
      obtain ⟨f, rfl⟩ : ∃ j, f = j + 1 := ⟨f - 1, by omega⟩
      exact ⟨τ, o, fun y hy => h y (by omega), by rw [lp_X7_spread_7, if_pos (show (32768 : Int32) ≤ nI k from nI_le (a := 32768) (by omega) (by omega)), nm_eq]⟩
    | succ e ih =>
      intro f k τ hk hf o h
      obtain ⟨f, rfl⟩ : ∃ j, f = j + 1 := ⟨f - 1, by omega⟩
      rw [lp_X7_spread_7, if_neg (show ¬ (32768 : Int32) ≤ nI k from nI_ge (b := 32768) (by omega) (by omega)), gd_t (okx_nI (by omega) (by omega)), nm_eq, nm_eq, nI_1]
      refine ih f (k + 1) _ (by omega) (by omega) (o.tr (O1.sA _ _)) (fun y hy => ?_)
      rw [sA_row _ _ _ _ (by omega)]
      by_cases d : y = k
      · rw [d, pk_us]
      · rw [pk_un d]; exact h y (by omega)
  exact lp 32768 N 0 τ0 (by omega) (by omega) O1.rf (fun y hy => by omega)
theorem sp36 {N : Nat} (hN : 100 ≤ N) (x1 x2 x3 : Int32) {nb : Nat} {B : Nat → Int32} {τ0 : St} (hnb : nb ≤ 8) (t4 : τ0.1 4 = nI nb) (t1 : ∀ b, b < nb → τ0.2.1 1 b = B b) (hz : ∀ b, nb ≤ b → b < 8 → B b = 0) : ∃ τ', O1 10 τ0 τ' ∧ (∀ b, b < 8 → τ'.2.1 10 b = B b) ∧ lp_X7_spread_36 N x1 x2 x3 N τ0 0 = bd (f_X7_isNew N τ' (-1) 0) (fun r3 σ4 => if x3 = 0 then (lp_X7_spread_103 N x1 x2 x3 N σ4 (0 : Int32)) else (bd1 (f_X7_openIn_a11 N σ4) (fun r18 => if 0 ≤ r18 then (lp_X7_spread_103 N x1 x2 x3 N σ4 (0 : Int32)) else (some ((0 : Int32), σ4))))) := by
  have lp : ∀ (e f k : Nat) (τ : St), k + e = 8 → e < f → O1 10 τ0 τ → (∀ b, b < k → τ.2.1 10 b = B b) → ∃ τ', O1 10 τ0 τ' ∧ (∀ b, b < 8 → τ'.2.1 10 b = B b) ∧ lp_X7_spread_36 N x1 x2 x3 f τ (nI k) = bd (f_X7_isNew N τ' (-1) 0) (fun r3 σ4 => if x3 = 0 then (lp_X7_spread_103 N x1 x2 x3 N σ4 (0 : Int32)) else (bd1 (f_X7_openIn_a11 N σ4) (fun r18 => if 0 ≤ r18 then (lp_X7_spread_103 N x1 x2 x3 N σ4 (0 : Int32)) else (some ((0 : Int32), σ4))))) := by
    intro e
    induction e with
    | zero =>
      intro f k τ hk hf o h
      obtain ⟨f, rfl⟩ : ∃ j, f = j + 1 := ⟨f - 1, by omega⟩
      exact ⟨τ, o, fun b hb => h b (by omega), by rw [lp_X7_spread_36, if_pos (show (8 : Int32) ≤ nI k from nI_le (a := 8) (by omega) (by omega))]⟩
    | succ e ih =>
      intro f k τ hk hf o h
      obtain ⟨f, rfl⟩ : ∃ j, f = j + 1 := ⟨f - 1, by omega⟩
      have ok : okx (nI k) 8 = true := okx_nI (by omega) (by omega)
      have go := ih f (k + 1) (sA τ 10 (nI k) (B k)) (by omega) (by omega) (o.tr (O1.sA _ _)) (fun b hb => by
        rw [sA_row _ _ _ _ (by omega)]
        by_cases d : b = k
        · rw [d, pk_us]
        · rw [pk_un d]; exact h b (by omega))
      rw [lp_X7_spread_36, if_neg (show ¬ (8 : Int32) ≤ nI k from nI_ge (b := 8) (by omega) (by omega)), o.1, t4]
      rcases Nat.lt_or_ge k nb with c | c
      · rw [if_neg (nI_ge c (by omega)), gd_t ok, gd_t ok, ra_nI _ _ (by omega), o.2.1 1 (by omega), t1 k c, nm_eq, nm_eq, nI_1]
        exact go
      · rw [if_pos (nI_le c (by omega)), gd_t ok, nm_eq, nm_eq, nI_1]
        rw [hz k c (by omega)] at go
        exact go
  exact lp 8 N 0 τ0 (by omega) (by omega) O1.rf (fun b hb => by omega)
theorem IsA_congr {w h : Nat} {kd B kd' B' : Nat → Int32} {b a : Nat} (hk : ∀ k, k ≤ b → kd k = kd' k ∧ B k = B' k) (H : IsA w h kd B b a) : IsA w h kd' B' b a := by
  obtain ⟨h1, h2, h3⟩ := H
  have e : ∀ k, k ≤ b → (AL w h kd B k b ↔ AL w h kd' B' k b) := fun k hkb => by
    unfold AL
    rw [(hk k hkb).1, (hk k hkb).2, (hk b (Nat.le_refl _)).1, (hk b (Nat.le_refl _)).2]
  exact ⟨h1, fun c => (e a h1).mp (h2 c), fun k c q => h3 k c ((e k (by omega)).mpr q)⟩
theorem IsA_Sm {w h nb : Nat} {kd B : Nat → Int32} (hw : w < 6 ∧ 1 ≤ w) (hh : h < 6 ∧ 1 ≤ h) (hi : ∀ b, b < nb → inb (B b) (w * h)) {k b a : Nat} (hk : k < nb) (hb : b < nb) (h1 : IsA w h kd B k a) (h2 : IsA w h kd B b a) : Sm (B k) (B b) := by
  have s : ∀ x, x < nb → IsA w h kd B x a → Sm (B a) (B x) := by
    intro x hx hA
    rcases Nat.lt_or_ge a x with c | c
    · exact AL_core hw hh (hi a (by omega)) (hi x hx) (hA.2.1 c)
    · rw [show a = x by have := hA.1; omega]; exact Sm.rf _
  exact (s k hk h1).sy.tr (s b hb h2)
/-- what both leave alone -/
def GX (σ σ' : St) : Prop := (∀ j, j < 9 ∨ 12 < j → σ'.1 j = σ.1 j) ∧ (∀ b, b < 5 ∨ 13 < b → σ'.2.1 b = σ.2.1 b) ∧ ∀ b, b ≠ 0 → b ≠ 1 → σ'.2.2 b = σ.2.2 b
theorem GX.tr {σ σ1 σ2 : St} (h1 : GX σ σ1) (h2 : GX σ1 σ2) : GX σ σ2 := ⟨fun b hb => (h2.1 b hb).trans (h1.1 b hb), fun b hb => (h2.2.1 b hb).trans (h1.2.1 b hb), fun b hb hc => (h2.2.2 b hb hc).trans (h1.2.2 b hb hc)⟩
theorem GX.e {σ σ1 : St} (h : FE σ σ1) : GX σ σ1 := ⟨fun j hj => h.1 j (by omega), fun b hb => h.2.1 b (by omega), h.2.2⟩
theorem GX.o {σ σ1 : St} {a : Nat} (ha : 5 ≤ a ∧ a ≤ 13) (h : O1 a σ σ1) : GX σ σ1 := ⟨fun j _ => by rw [h.1], fun b hb => h.2.1 b (by omega), fun b _ _ => by rw [h.2.2]⟩
theorem GX.o2 {σ σ1 : St} (h : O2 6 7 σ σ1) : GX σ σ1 := ⟨fun j _ => by rw [h.1], fun b hb => h.2.1 b (by omega) (by omega), fun b _ _ => by rw [h.2.2]⟩
theorem GX.i {σ : St} {a : Nat} (ha : 9 ≤ a ∧ a ≤ 12) (v : Int32) : GX σ (sI σ a v) := ⟨fun j hj => sI_oth σ v (by omega), fun _ _ => rfl, fun _ _ _ => rfl⟩
def GY (τ τ' : St) : Prop := (∀ j, j ≠ 6 → τ'.1 j = τ.1 j) ∧ (∀ b, b < 4 ∨ 11 < b → τ'.2.1 b = τ.2.1 b) ∧ τ'.2.2 = τ.2.2
theorem GY.tr {τ τ1 τ2 : St} (h1 : GY τ τ1) (h2 : GY τ1 τ2) : GY τ τ2 := ⟨fun b hb => (h2.1 b hb).trans (h1.1 b hb), fun b hb => (h2.2.1 b hb).trans (h1.2.1 b hb), h2.2.2.trans h1.2.2⟩
theorem GY.t {τ τ1 : St} (h : FT τ τ1) : GY τ τ1 := ⟨h.1, fun b hb => h.2.1 b (by omega), h.2.2⟩
theorem GY.o {τ τ1 : St} {a : Nat} (ha : 4 ≤ a ∧ a ≤ 11) (h : O1 a τ τ1) : GY τ τ1 := ⟨fun j _ => by rw [h.1], fun b hb => h.2.1 b (by omega), h.2.2⟩
theorem GY.i {τ : St} (v : Int32) : GY τ (sI τ 6 v) := ⟨fun j hj => sI_oth τ v hj, fun _ _ => rfl, rfl⟩
theorem RB_g {w h nb : Nat} {σ τ σ' τ' : St} (H : RB w h nb σ τ) (f : GX σ σ') (g : GY τ τ') : RB w h nb σ' τ' :=
  RB_fr H (fun j hj => f.1 j (by omega)) (f.2.1 0 (by omega)) (f.2.1 1 (by omega)) (fun j c1 c2 => g.1 j (by omega)) (g.2.1 0 (by omega)) (g.2.1 1 (by omega))
theorem RG_g {nb ng : Nat} {σ τ σ' τ' : St} (H : RG nb ng σ τ) (f : GX σ σ') (g : GY τ τ') : RG nb ng σ' τ' :=
  RG_fr H (f.1 8 (by omega)) (f.2.1 2 (by omega)) (f.2.1 3 (by omega)) (f.2.1 4 (by omega)) (g.1 5 (by omega)) (g.2.1 2 (by omega)) (g.2.1 3 (by omega))
theorem explore_eq {N : Nat} {σ : St} {me most goal : Nat} (hme : me ≤ 1) (hgo : goal ≤ 1) : f_X1_explore N σ (nI me) (nI most) (nI goal) = bd1 (f_X4_clear N (sI (sI (sI σ 9 (nI most)) 10 (nI (if me = 0 then 1 else 5))) 11 (nI goal))) (fun σ4 => bd1 (f_X1_findAlike N σ4) (fun σ5 => bd (f_X1_offerPresent N σ5) (fun r6 σ7 => lp_X1_explore_43 N N σ7 r6 (0 : Int32)))) := by
  have hg : decide (nI goal = 0 ∨ nI goal = 1) = true := by
    rcases (show goal = 0 ∨ goal = 1 by omega) with e | e
    · rw [e]; decide
    · rw [e]; decide
  unfold f_X1_explore
  rcases (show me = 0 ∨ me = 1 by omega) with e | e
  · rw [e, nm_eq, if_pos (show nI 0 = 0 from rfl), nm_eq, gd_t hg, nm_eq]
    rfl
  · rw [e, nm_eq, if_neg (show ¬ nI 1 = 0 by decide), nm_eq, gd_t hg, nm_eq]
    rfl
theorem explore_ok {N : Nat} (hN : 100000 ≤ N) {w h nb ng : Nat} {σ τ : St} (hB : RB w h nb σ τ) (hG : RG nb ng σ τ) (hC : RC σ) {me most goal : Nat} (hme : me ≤ 1) (hm1 : 1 ≤ most) (hm2 : most ≤ 10000) (hgo : goal ≤ 1) : ∃ (α : Nat → Nat) (B : Nat → Int32) (wl r rr : Int32) (σ0 τ0 σ' τ' : St), GX σ σ' ∧ GY τ τ' ∧ FIN w h nb most α B wl σ0 τ0 r rr σ' τ' ∧ f_X1_explore N σ (nI me) (nI most) (nI goal) = some (r, σ') ∧ f_X7_spread N τ (nI me) (nI most) (nI goal) = some (rr, τ') := by
  have hB0 := hB
  obtain ⟨⟨hw, hh, hnb⟩, ⟨s0, s1, s2, s3, s4, s5, s6⟩, ⟨t1, t2, t4, t3⟩, hbl, hzz, hwi, hdj⟩ := hB0
  have h25 := wh25 hw.1 hh.1
  -- the class's side
  obtain ⟨sa, ea⟩ : ∃ sa, sa = sI (sI (sI σ 9 (nI most)) 10 (nI (if me = 0 then 1 else 5))) 11 (nI goal) := ⟨_, rfl⟩
  have ga : GX σ sa := by rw [ea]; exact ((GX.i (a := 9) (by omega) _).tr (GX.i (a := 10) (by omega) _)).tr (GX.i (a := 11) (by omega) _)
  have a9 : sa.1 9 = nI most := by rw [ea]; rfl
  have a10 : sa.1 10 = nI (if me = 0 then 1 else 5) := by rw [ea]; rfl
  have a11 : sa.1 11 = nI goal := by rw [ea]; rfl
  have hCa : RC sa := by rw [ea]; exact RC_fr hC rfl rfl rfl
  obtain ⟨sb, fb, b12, bh, eb⟩ := clear_ok (N := N) hN hCa
  have gb : GX σ sb := ga.tr (GX.e (FE.f fb))
  obtain ⟨sc, oc, hc5, ec⟩ := findAlike_ok (N := N) (σ0 := sb) (by omega) hw hh (by rw [gb.1 0 (by omega)]; exact s0) (by rw [gb.1 2 (by omega)]; exact s2) (by rw [gb.1 4 (by omega)]; exact s4) (by rw [gb.1 6 (by omega)]; exact s6) hnb (by rw [gb.2.1 1 (by omega)]; exact fun b hb => (hbl b hb).2.2.1)
  rw [gb.2.1 0 (by omega), gb.2.1 1 (by omega)] at hc5
  have gc : GX σ sc := gb.tr (GX.o (a := 5) (by omega) oc)
  obtain ⟨sd, od, hd67, ed⟩ := present_ok (N := N) (σ0 := sc) (B := σ.2.1 1) (by omega) hnb (by rw [gc.1 6 (by omega)]; exact s6) (gc.2.1 1 (by omega)) (fun b hb => inb_mono (hbl b hb).2.2.1 h25)
  have gd' : GX σ sd := gc.tr (GX.o2 od)
  -- the reference's side
  obtain ⟨ta, oa, ha9, eta⟩ := liken_ok (N := N) (τ0 := τ) (by omega) hw hh t1 t2 t4 hnb (fun b hb => by rw [(hbl b hb).2.1]; exact (hbl b hb).2.2.1)
  obtain ⟨tb, ob, hb8, etb⟩ := sp7 (N := N) hN (nI me) (nI most) (nI goal) (τ0 := ta)
  have hg3 : GY τ (sI tb 6 0) := ((GY.o (a := 9) (by omega) oa).tr (GY.o (a := 8) (by omega) ob)).tr (GY.i 0)
  obtain ⟨td, otd, htd, etd⟩ := sp36 (N := N) (by omega) (nI me) (nI most) (nI goal) (nb := nb) (B := σ.2.1 1) (τ0 := sI tb 6 0) hnb (by rw [hg3.1 4 (by omega)]; exact t4) (fun b hb => by rw [hg3.2.1 1 (by omega)]; exact (hbl b hb).2.1) hzz
  have gtd : GY τ td := hg3.tr (GY.o (a := 10) (by omega) otd)
  -- alike blocks
  have hf : ∀ b, ∃ a, b < nb → sc.2.1 5 b = nI a ∧ IsA w h (σ.2.1 0) (σ.2.1 1) b a := by
    intro b
    by_cases hb : b < nb
    · obtain ⟨a, ha⟩ := hc5 b hb
      exact ⟨a, fun _ => ha⟩
    · exact ⟨0, fun q => absurd q hb⟩
  obtain ⟨α, hα⟩ : ∃ α : Nat → Nat, ∀ b, b < nb → sc.2.1 5 b = nI (α b) ∧ IsA w h (σ.2.1 0) (σ.2.1 1) b (α b) := ⟨fun b => Classical.choose (hf b), fun b => Classical.choose_spec (hf b)⟩
  have hX : CX w h nb ng most me goal α (σ.2.1 1) (σ.1 7) sd td := by
    refine ⟨RB_g hB gd' gtd, RG_g hG gd' gtd, ⟨?_, ?_, ?_, gd'.1 7 (by omega), gd'.2.1 1 (by omega)⟩, fun b hb => ⟨⟨?_, ?_⟩, ?_, (hd67 b hb).1⟩, ⟨hm1, hm2, hme, hgo⟩, fun k b hk hb e => ?_⟩
    · rw [od.1, oc.1, fb.1 9 (by omega)]; exact a9
    · rw [od.1, oc.1, fb.1 10 (by omega)]; exact a10
    · rw [od.1, oc.1, fb.1 11 (by omega)]; exact a11
    · rw [od.2.1 5 (by omega) (by omega)]; exact (hα b hb).1
    · have := (hα b hb).2.1; omega
    · rw [otd.2.1 9 (by omega)]
      show tb.2.1 9 b = _
      rw [ob.2.1 9 (by omega)]
      obtain ⟨a', q1, q2⟩ := ha9 b hb
      have q3 := IsA_congr (kd' := σ.2.1 0) (B' := σ.2.1 1) (fun k hk => ⟨(hbl k (by omega)).1, (hbl k (by omega)).2.1⟩) q2
      rw [q1, IsA_un q3 (hα b hb).2]
    · have h2 := (hα b hb).2
      rw [← e] at h2
      exact IsA_Sm hw hh (fun b hb => (hbl b hb).2.2.1) hk hb (hα k hk).2 h2
  have hgs : GS w h nb (σ.1 7) (σ.2.1 1) (σ.2.1 1) := ⟨fun b hb => ⟨(hbl b hb).2.2.1, Sm.rf _⟩, hdj, hzz⟩
  have hV : IV w h nb most α (σ.2.1 1) (σ.1 7) 0 (fun _ _ => 0) (fun _ => 0) (fun _ => 0) sd td := by
    refine ⟨⟨?_, fun j hj => by omega, ?_⟩, ⟨?_, fun j hj => by omega, ?_⟩, by omega, fun j hj => by omega, fun j hj => by omega⟩
    · rw [od.1, oc.1]; exact b12
    · rw [od.2.1 12 (by omega) (by omega), oc.2.1 12 (by omega)]
      exact CH_0 bh
    · rw [otd.1]; rfl
    · refine ⟨fun y hy => Or.inl ?_, fun y y' j _ _ hj => by omega, fun j hj => by omega⟩
      rw [otd.2.1 8 (by omega)]
      exact hb8 y hy
  have ecl : f_X1_explore N σ (nI me) (nI most) (nI goal) = bd (f_X1_offer N sd (-1) 0) (fun r6 σ7 => lp_X1_explore_43 N N σ7 r6 (0 : Int32)) := by
    rw [explore_eq hme hgo, ← ea, eb, bd1_some, ec, bd1_some, ed]
    cases f_X1_offer N sd (-1) 0 with
    | none => rfl
    | some x => rfl
  have erf : f_X7_spread N τ (nI me) (nI most) (nI goal) = bd (f_X7_isNew N td (-1) 0) (fun r3 σ4 => if nI goal = 0 then (lp_X7_spread_103 N (nI me) (nI most) (nI goal) N σ4 (0 : Int32)) else (bd1 (f_X7_openIn_a11 N σ4) (fun r18 => if 0 ≤ r18 then (lp_X7_spread_103 N (nI me) (nI most) (nI goal) N σ4 (0 : Int32)) else (some ((0 : Int32), σ4))))) := by
    unfold f_X7_spread
    rw [eta, bd1_some, etb, etd]
  have stored : ∀ (S : Nat → Nat → Int32) (par mov : Nat → Int32) (σ1 τ1 : St), FO sd σ1 → FN td τ1 → IV w h nb most α (σ.2.1 1) (σ.1 7) 1 S par mov σ1 τ1 → ∃ (r rr : Int32) (σ' τ' : St), GX σ σ' ∧ GY τ τ' ∧ FIN w h nb most α (σ.2.1 1) (σ.1 7) sd td r rr σ' τ' ∧ lp_X1_explore_43 N N σ1 1 0 = some (r, σ') ∧ lp_X7_spread_103 N (nI me) (nI most) (nI goal) N τ1 0 = some (rr, τ') := by
    intro S par mov σ1 τ1 f1 g1 hV1
    obtain ⟨r, rr, σ', τ', q1, q2, q3⟩ := state_loop (N := N) hN hX 10000 N N 0 1 S par mov σ1 τ1 (by omega) (by omega) (by omega) (FE.f f1) (FT.f g1) hV1 (by omega) (by omega)
    exact ⟨r, rr, σ', τ', gd'.tr (GX.e q1.1), gtd.tr (GY.t q1.2.1), q1, q2, q3⟩
  rw [ecl, erf]
  rcases both (N := N) hN hX hV hgs (fun b hb => (hd67 b hb).2) htd (-1) 0 (Or.inl ⟨rfl, rfl⟩) with ⟨σ1, τ1, f1, g1, hV1, q, e1, e2⟩ | ⟨σ1, τ1, f1, g1, q, -⟩ | ⟨σ1, τ1, f1, g1, hV1, e1, e2, e3⟩ | ⟨σ1, τ1, f1, g1, hV1, eg, e1, e2, e3⟩
  · omega
  · omega
  · obtain ⟨r, rr, σ', τ', q1, q2, q3, q4, q5⟩ := stored _ _ _ σ1 τ1 f1 g1 hV1
    refine ⟨α, σ.2.1 1, σ.1 7, r, rr, sd, td, σ', τ', q1, q2, q3, ?_, ?_⟩
    · rw [e1, bd_some]; exact q4
    · rw [e2, bd_some]
      rcases e3 with e3 | ⟨e3, g, hg6, e5⟩
      · rw [if_pos (by rw [e3]; rfl)]; exact q5
      · rw [if_neg (by rw [e3]; decide), e5, bd1_some, if_pos (nI_pos' (by omega))]; exact q5
  · refine ⟨α, σ.2.1 1, σ.1 7, 0, 0, sd, td, σ1, τ1, gd'.tr (GX.e (FE.f f1)), gtd.tr (GY.t (FT.f g1)), ⟨FE.f f1, FT.f g1, Or.inl ⟨rfl, 1, _, _, _, by omega, hV1, rfl⟩⟩, ?_, ?_⟩
    · obtain ⟨N, rfl⟩ : ∃ j, N = j + 1 := ⟨N - 1, by omega⟩
      rw [e1, bd_some, lp_X1_explore_43, if_neg (by decide), if_neg (by decide)]
    · rw [e2, bd_some, if_neg (by rw [eg]; decide), e3, bd1_some, if_neg (by decide)]
/-! the way back -/
def CHN (par : Nat → Int32) : Nat → Nat → Prop
  | 0, j => j = 0
  | d + 1, j => 0 < j ∧ ∃ i, i < j ∧ par j = nI i ∧ CHN par d i
theorem CHN_ex {par : Nat → Int32} {n : Nat} (h : ∀ j, j < n → (j = 0 → par j = -1) ∧ (0 < j → ∃ i, i < j ∧ par j = nI i)) : ∀ j, j < n → ∃ d, d ≤ j ∧ CHN par d j := by
  intro j
  induction j using Nat.strongRecOn with
  | ind j ih =>
    intro hj
    rcases Nat.eq_zero_or_pos j with c | c
    · exact ⟨0, by omega, c⟩
    · obtain ⟨i, h1, h2⟩ := (h j hj).2 c
      obtain ⟨d, h3, h4⟩ := ih i h1 (by omega)
      exact ⟨d + 1, by omega, c, i, h1, h2, h4⟩
theorem depth_ok {N n : Nat} {par : Nat → Int32} {σ : St} (hn : n ≤ 10000) (h : ∀ j, j < n → σ.2.1 10 j = par j) : ∀ (d f a j : Nat), CHN par d j → j < n → a + d < 10000 → d < f → lp_X3_depthOf_4 N σ f (nI a) (nI j) = some (nI (a + d)) := by
  intro d
  induction d with
  | zero =>
    intro f a j hc hj ha hf
    obtain ⟨f, rfl⟩ : ∃ j, f = j + 1 := ⟨f - 1, by omega⟩
    have hc : j = 0 := hc
    subst hc
    rw [lp_X3_depthOf_4, if_pos (show nI 0 ≤ 0 by decide)]
    rfl
  | succ d ih =>
    intro f a j hc hj ha hf
    obtain ⟨f, rfl⟩ : ∃ j, f = j + 1 := ⟨f - 1, by omega⟩
    obtain ⟨c1, i, c2, c3, c4⟩ := hc
    rw [lp_X3_depthOf_4, if_neg (nI_nle c1 (by omega)), if_neg (show ¬ (10000 : Int32) ≤ nI a from nI_ge (b := 10000) (by omega) (by omega)), nm_eq, gd_t (okx_nI (by omega) (by omega)), ra_nI _ _ (by omega), h j hj, c3, nm_eq, nI_1, ih f (a + 1) i c4 (by omega) (by omega) (by omega)]
    congr 2
    omega
theorem sI_sI (τ : St) (a : Nat) (x y : Int32) : sI (sI τ a x) a y = sI τ a y := by
  show (upd (upd τ.1 a x) a y, τ.2) = (upd τ.1 a y, τ.2)
  rw [upd_upd]
theorem depthR_ok {N n : Nat} {par : Nat → Int32} {τ : St} (hn : n ≤ 10000) (h : ∀ j, j < n → τ.2.1 6 j = par j) (x3 : Int32) : ∀ (d f a j : Nat), CHN par d j → j < n → d < f → lp_X7_search_69 N x3 f (sI τ 8 (nI a)) (nI j) = lp_X7_search_105 N N (sI τ 8 (nI (a + d))) (nI (a + d)) x3 := by
  intro d
  induction d with
  | zero =>
    intro f a j hc hj hf
    obtain ⟨f, rfl⟩ : ∃ j, f = j + 1 := ⟨f - 1, by omega⟩
    have hc : j = 0 := hc
    subst hc
    rw [lp_X7_search_69, if_pos (show nI 0 ≤ 0 by decide), sI_own, nm_eq]
    rfl
  | succ d ih =>
    intro f a j hc hj hf
    obtain ⟨f, rfl⟩ : ∃ j, f = j + 1 := ⟨f - 1, by omega⟩
    obtain ⟨c1, i, c2, c3, c4⟩ := hc
    rw [lp_X7_search_69, if_neg (nI_nle c1 (by omega)), sI_own, sI_sI, nI_1, nm_eq, gd_t (okx_nI (by omega) (by omega)), ra_nI _ _ (by omega), sI_2, h j hj, c3, nm_eq, ih f (a + 1) i c4 (by omega) (by omega), show a + 1 + d = a + (d + 1) by omega]
theorem route_ok {N n : Nat} {par mov : Nat → Int32} (hn : n ≤ 10000) : ∀ (k f f' j : Nat) (σ τ : St), CHN par k j → j < n → k < 10000 → k < f → k < f' → (∀ j, j < n → σ.2.1 10 j = par j ∧ σ.2.1 11 j = mov j ∧ τ.2.1 6 j = par j ∧ τ.2.1 7 j = mov j) → ∃ σ' τ', O1 14 σ σ' ∧ O1 12 τ τ' ∧ (∀ p, k ≤ p → σ'.2.1 14 p = σ.2.1 14 p ∧ τ'.2.1 12 p = τ.2.1 12 p) ∧ (∀ p, p < k → τ'.2.1 12 p = σ'.2.1 14 p) ∧ lp_X3_keep_45 N f σ (nI j) (nI k - 1) = some σ' ∧ lp_X7_search_105 N f' τ (nI k) (nI j) = some (τ.1 8, τ') := by
  intro k
  induction k with
  | zero =>
    intro f f' j σ τ hc hj hk hf hf' h
    obtain ⟨f, rfl⟩ : ∃ j, f = j + 1 := ⟨f - 1, by omega⟩
    obtain ⟨f', rfl⟩ : ∃ j, f' = j + 1 := ⟨f' - 1, by omega⟩
    have hc : j = 0 := hc
    subst hc
    refine ⟨σ, τ, O1.rf, O1.rf, fun p _ => ⟨rfl, rfl⟩, fun p hp => by omega, ?_, ?_⟩
    · rw [lp_X3_keep_45, if_pos (show nI 0 - 1 < 0 by decide)]
    · rw [lp_X7_search_105, if_pos (show nI 0 ≤ 0 by decide)]
  | succ k ih =>
    intro f f' j σ τ hc hj hk hf hf' h
    obtain ⟨f, rfl⟩ : ∃ j, f = j + 1 := ⟨f - 1, by omega⟩
    obtain ⟨f', rfl⟩ : ∃ j, f' = j + 1 := ⟨f' - 1, by omega⟩
    obtain ⟨c1, i, c2, c3, c4⟩ := hc
    obtain ⟨p1, p2, p3, p4⟩ := h j hj
    obtain ⟨σ', τ', o1, o2, q1, q2, q3, q4⟩ := ih f f' i (sA σ 14 (nI k) (mov j)) (sA τ 12 (nI k) (mov j)) c4 (by omega) (by omega) (by omega) (by omega) (fun j hj => by
      rw [sA_oth _ _ _ (show 10 ≠ 14 by omega), sA_oth _ _ _ (show 11 ≠ 14 by omega), sA_oth _ _ _ (show 6 ≠ 12 by omega), sA_oth _ _ _ (show 7 ≠ 12 by omega)]
      exact h j hj)
    have r14 : (sA σ 14 (nI k) (mov j)).2.1 14 = upd (σ.2.1 14) k (mov j) := sA_row _ _ _ _ (by omega)
    have r12 : (sA τ 12 (nI k) (mov j)).2.1 12 = upd (τ.2.1 12) k (mov j) := sA_row _ _ _ _ (by omega)
    rw [r14, r12] at q1
    refine ⟨σ', τ', (O1.sA _ _).tr o1, (O1.sA _ _).tr o2, fun p hp => ?_, fun p hp => ?_, ?_, ?_⟩
    · obtain ⟨z1, z2⟩ := q1 p (by omega)
      rw [pk_un (by omega)] at z1 z2
      exact ⟨z1, z2⟩
    · rcases Nat.lt_or_ge p k with d | d
      · exact q2 p d
      · obtain ⟨z1, z2⟩ := q1 k (Nat.le_refl _)
        rw [show p = k by omega, z1, z2, pk_us, pk_us]
    · rw [lp_X3_keep_45, nI_pred, if_neg (nI_pos (by omega)), gd_t (okx_nI (by omega) (by omega)), gd_t (okx_nI (by omega) (by omega)), ra_nI _ _ (by omega), p2, nm_eq, gd_t (okx_nI (by omega) (by omega)), ra_nI _ _ (by omega), sA_oth _ _ _ (show 10 ≠ 14 by omega), p1, c3, nm_eq, nm_eq, sub_m1]
      exact q3
    · rw [lp_X7_search_105, if_neg (nI_nle c1 (by omega)), pk_m1, nm_eq, gd_t (okx_nI (by omega) (by omega)), gd_t (okx_nI (by omega) (by omega)), ra_nI _ _ (by omega), p4, nm_eq, gd_t (okx_nI (by omega) (by omega)), ra_nI _ _ (by omega), sA_oth _ _ _ (show 6 ≠ 12 by omega), p3, c3, nm_eq]
      exact q4
/-! the relation behind search and reach -/
def HX (σ σ' : St) : Prop := (∀ j, j < 9 ∨ 14 < j → σ'.1 j = σ.1 j) ∧ (∀ b, b < 5 ∨ 14 < b → σ'.2.1 b = σ.2.1 b) ∧ ∀ b, b ≠ 0 → b ≠ 1 → σ'.2.2 b = σ.2.2 b
def HY (τ τ' : St) : Prop := (∀ j, 1 ≤ j → j < 6 ∨ 8 < j → τ'.1 j = τ.1 j) ∧ ∀ b, b < 4 ∨ 12 < b → τ'.2.1 b = τ.2.1 b
theorem HX.g {σ σ' : St} (h : GX σ σ') : HX σ σ' := ⟨fun j hj => h.1 j (by omega), fun b hb => h.2.1 b (by omega), h.2.2⟩
theorem HX.tr {σ σ1 σ2 : St} (h1 : HX σ σ1) (h2 : HX σ1 σ2) : HX σ σ2 := ⟨fun b hb => (h2.1 b hb).trans (h1.1 b hb), fun b hb => (h2.2.1 b hb).trans (h1.2.1 b hb), fun b hb hc => (h2.2.2 b hb hc).trans (h1.2.2 b hb hc)⟩
theorem HX.i {σ : St} {a : Nat} (ha : 9 ≤ a ∧ a ≤ 14) (v : Int32) : HX σ (sI σ a v) := ⟨fun j hj => sI_oth σ v (by omega), fun _ _ => rfl, fun _ _ _ => rfl⟩
theorem HX.o {σ σ1 : St} {a : Nat} (ha : 5 ≤ a ∧ a ≤ 14) (h : O1 a σ σ1) : HX σ σ1 := ⟨fun j _ => by rw [h.1], fun b hb => h.2.1 b (by omega), fun b _ _ => by rw [h.2.2]⟩
theorem HY.g {τ τ' : St} (h : GY τ τ') : HY τ τ' := ⟨fun j _ hj => h.1 j (by omega), fun b hb => h.2.1 b (by omega)⟩
theorem HY.tr {τ τ1 τ2 : St} (h1 : HY τ τ1) (h2 : HY τ1 τ2) : HY τ τ2 := ⟨fun b hb hc => (h2.1 b hb hc).trans (h1.1 b hb hc), fun b hb => (h2.2 b hb).trans (h1.2 b hb)⟩
theorem HY.i {τ : St} {a : Nat} (ha : a = 0 ∨ (6 ≤ a ∧ a ≤ 8)) (v : Int32) : HY τ (sI τ a v) := ⟨fun j _ hj => sI_oth τ v (by omega), fun _ _ => rfl⟩
theorem HY.o {τ τ1 : St} {a : Nat} (ha : 4 ≤ a ∧ a ≤ 12) (h : O1 a τ τ1) : HY τ τ1 := ⟨fun j _ _ => by rw [h.1], fun b hb => h.2.1 b (by omega)⟩
theorem Rel_end {w h nb ng nn : Nat} {σ τ σ' τ' : St} (hB : RB w h nb σ τ) (hG : RG nb ng σ τ) (hT : RT nn σ τ) (hM : RM σ) (f : HX σ σ') (g : HY τ τ') (hS : RS σ' τ') (hC : RC σ') : Rel σ' τ' :=
  ⟨w, h, nb, ng, nn, RB_fr hB (fun j hj => f.1 j (by omega)) (f.2.1 0 (by omega)) (f.2.1 1 (by omega)) (fun j c1 c2 => g.1 j c1 (by omega)) (g.2 0 (by omega)) (g.2 1 (by omega)), RG_fr hG (f.1 8 (by omega)) (f.2.1 2 (by omega)) (f.2.1 3 (by omega)) (f.2.1 4 (by omega)) (g.1 5 (by omega) (by omega)) (g.2 2 (by omega)) (g.2 3 (by omega)), hS, hC, RT_fr hT (f.1 15 (by omega)) (f.2.1 15 (by omega)) (f.2.1 16 (by omega)) (g.1 9 (by omega) (by omega)) (g.2 13 (by omega)) (g.2 14 (by omega)), RM_fr hM (f.1 16 (by omega)) (f.2.1 18 (by omega)) (f.2.2 2 (by omega) (by omega))⟩
theorem SC_RC {nb n : Nat} {α : Nat → Nat} {S : Nat → Nat → Int32} {par mov : Nat → Int32} {σ : St} (hn : n ≤ 10000) (h : SC nb α n S par mov σ) : RC σ := CH_RC hn h.1 h.2.2
theorem nI_nm2 {n : Nat} (h : n < 2 ^ 31) : nI n ≠ -2 := fun e => nI_pos h (by rw [e]; decide)
theorem keep0 {N : Nat} (hN : 1 ≤ N) (σ : St) : f_X3_keep N σ 0 = some (sI (sI σ 14 (σ.1 12)) 13 0) := by
  obtain ⟨N, rfl⟩ : ∃ j, N = j + 1 := ⟨N - 1, by omega⟩
  unfold f_X3_keep
  rw [nm_eq, if_pos rfl, nm_eq, nm_eq, nm_eq, sI_own, lp_X3_keep_45, if_pos (by decide)]
theorem pg_12 {σ τ : St} (hR : Rel σ τ) {N : Nat} (hN : 100000 ≤ N) {xs : Nat → Int32} {L : Nat} {i : Int32} (K : St → St → Option Int32) : ∃ σ1 τ1, Rel σ1 τ1 ∧ g_law_12 N xs L σ τ i K = K σ1 τ1 := by
  obtain ⟨w, h, nb, ng, nn, hB, hG, hS, hC, hT, hM⟩ := th_rel hR 0
  obtain ⟨α, B, wl, r, rr, σ0, τ0, σ', τ', f, g, hF, e1, e2⟩ := explore_ok (N := N) hN hB hG hC (me := 0) (most := 10000) (goal := 0) (by omega) (by omega) (by omega) (by omega)
  have hS' : RS σ' τ' := RS_fr hS (f.1 13 (by omega)) (f.1 14 (by omega)) (f.2.1 14 (by omega)) (g.1 7 (by omega)) (g.1 8 (by omega)) (g.2.1 12 (by omega))
  have fin : ∀ v : Int32, RC σ' → f_X6_reach N σ = some (v, σ') → f_X7_reach N τ = some (v, τ') → ∃ σ1 τ1, Rel σ1 τ1 ∧ g_law_12 N xs L σ τ i K = K σ1 τ1 := by
    intro v hc c1 c2
    refine ⟨σ', τ', Rel_end hB hG hT hM (HX.g f) (HY.g g) hS' hc, ?_⟩
    unfold g_law_12
    rw [c1, bd_some, c2, bd_some, if_pos rfl]
  have e1 : f_X1_explore N σ 0 10000 0 = some (r, σ') := e1
  have e2 : f_X7_spread N (sI τ 0 0) 0 10000 0 = some (rr, τ') := e2
  obtain ⟨-, -, c⟩ := hF
  rcases c with ⟨c0, n, S, par, mov, c1, c2, c3⟩ | ⟨c0, c1, S, par, mov, c2⟩ | ⟨c0, c3, n, S, par, mov, c1, c2⟩
  · have hn := c2.2.2.1
    refine fin (nI n) (SC_RC hn c2.1) ?_ ?_
    · unfold f_X6_reach
      rw [e1, bd_some, c0, if_neg (by decide), c2.1.1]
    · unfold f_X7_reach
      rw [nm_eq, e2, bd_some, c3, if_neg (nI_nm2 (by omega)), c2.2.1.1]
  · refine fin (-2) (SC_RC (by omega) c2) ?_ ?_
    · unfold f_X6_reach
      rw [e1, bd_some, c0, if_pos rfl]
    · unfold f_X7_reach
      rw [nm_eq, e2, bd_some, c1, if_pos rfl]
  · have hn := c2.2.2.1
    refine fin (nI n) (SC_RC hn c2.1) ?_ ?_
    · unfold f_X6_reach
      rw [e1, bd_some, c0, if_neg (by decide), c2.1.1]
    · unfold f_X7_reach
      rw [nm_eq, e2, bd_some, c3, if_neg (by decide), c2.2.1.1]
theorem search_ok {σ τ : St} (hR : Rel σ τ) {N : Nat} (hN : 100000 ≤ N) (a0 a1 : Int32) : ∃ r σ1 τ1, Rel σ1 τ1 ∧ f_X6_search N σ a0 a1 = some (r, σ1) ∧ f_X7_search N τ a0 a1 = some (r, τ1) := by
  have hR0 := th_rel hR 0
  unfold f_X6_search f_X7_search
  rw [nm_eq]
  by_cases c1 : a0 < 0
  · exact ⟨-3, σ, sI τ 0 0, hR0, by rw [if_pos c1], by rw [if_pos c1]⟩
  rw [if_neg c1, if_neg c1]
  by_cases c2 : 1 < a0
  · exact ⟨-3, σ, sI τ 0 0, hR0, by rw [if_pos c2], by rw [if_pos c2]⟩
  rw [if_neg c2, if_neg c2]
  by_cases c3 : a1 < 1
  · exact ⟨-3, σ, sI τ 0 0, hR0, by rw [if_pos c3], by rw [if_pos c3]⟩
  rw [if_neg c3, if_neg c3]
  by_cases c4 : a1 ≤ 10000
  · rw [if_pos c4, if_pos c4]
    obtain ⟨me, hme, rfl⟩ : ∃ me, me ≤ 1 ∧ a0 = nI me := by
      obtain ⟨j, hj, e⟩ := nI_of c1
      refine ⟨j, ?_, e⟩
      rcases Nat.lt_or_ge 1 j with q | q
      · exact absurd (by rw [e]; exact nI_lt (a := 1) q hj) c2
      · exact q
    obtain ⟨most, hm1, hm2, rfl⟩ : ∃ most, 1 ≤ most ∧ most ≤ 10000 ∧ a1 = nI most := by
      have c5 : ¬ a1 < 0 := fun q => c3 (by rw [Int32.lt_iff_toInt_lt] at *; have : (0 : Int32).toInt = 0 := rfl; have : (1 : Int32).toInt = 1 := rfl; omega)
      obtain ⟨j, hj, e⟩ := nI_of c5
      refine ⟨j, ?_, ?_, e⟩
      · rcases Nat.lt_or_ge j 1 with q | q
        · exact absurd (by rw [e]; exact nI_lt (b := 1) q (by omega)) c3
        · exact q
      · rcases Nat.lt_or_ge 10000 j with q | q
        · exact absurd c4 (by rw [e]; exact nI_ge (a := 10000) q hj)
        · exact q
    obtain ⟨w, h, nb, ng, nn, hB, hG, hS, hC, hT, hM⟩ := hR0
    obtain ⟨α, B, wl, r, rr, σ0, τ0, σ', τ', f, g, hF, e1, e2⟩ := explore_ok (N := N) hN hB hG hC (me := me) (most := most) (goal := 1) hme hm1 hm2 (by omega)
    have e1 : f_X1_explore N σ (nI me) (nI most) 1 = some (r, σ') := e1
    have e2 : f_X7_spread N (sI τ 0 0) (nI me) (nI most) 1 = some (rr, τ') := e2
    rw [e1, e2, bd_some, bd_some]
    obtain ⟨-, -, c⟩ := hF
    have nogoal : ∀ (n : Nat) (v : Int32), n ≤ 10000 → ¬ v = 0 → ¬ 0 ≤ v → σ'.1 12 = nI n → RC σ' → ∃ σ1 τ1, Rel σ1 τ1 ∧ sI (sI σ' 14 (σ'.1 12)) 13 0 = σ1 ∧ sI (sI τ' 7 (nI n)) 8 0 = τ1 := by
      intro n v hn _ _ h12 hc
      refine ⟨_, _, ?_, rfl, rfl⟩
      refine Rel_end hB hG hT hM ((HX.g f).tr ((HX.i (a := 14) (by omega) _).tr (HX.i (a := 13) (by omega) _))) ((HY.g g).tr ((HY.i (a := 7) (by omega) _).tr (HY.i (a := 8) (by omega) _))) ?_ (RC_fr hc rfl rfl rfl)
      refine ⟨0, n, by omega, hn, rfl, rfl, ?_, rfl, fun k hk => by omega⟩
      show σ'.1 12 = nI n
      exact h12
    rcases c with ⟨c0, n, S, par, mov, d1, d2, d3⟩ | ⟨c0, d1, S, par, mov, d2⟩ | ⟨c0, d3, n, S, par, mov, d1, d2⟩
    · have hn := d2.2.2.1
      have hn' : n ≤ 10000 := by omega
      obtain ⟨d, hd, hch⟩ := CHN_ex (par := par) (n := n) d2.2.2.2.2 (n - 1) (by omega)
      have h12 : σ'.1 12 = nI n := d2.1.1
      have t6 : τ'.1 6 = nI n := d2.2.1.1
      -- the class
      obtain ⟨s1, es1⟩ : ∃ s1, s1 = sI σ' 14 (nI n) := ⟨_, rfl⟩
      have dep : f_X3_depthOf N s1 (nI (n - 1)) = some (nI d) := by
        unfold f_X3_depthOf
        have := depth_ok (N := N) (σ := s1) hn' (fun j hj => by rw [es1]; exact (d2.1.2.1 j hj).2.2.1) d N 0 (n - 1) hch (by omega) (by omega) (by omega)
        rw [Nat.zero_add] at this
        exact this
      -- the reference
      have depR := depthR_ok (N := N) (τ := sI τ' 7 (nI n)) hn' (fun j hj => (d2.2.1.2.1 j hj).2.2.1) (nI (n - 1)) d N 0 (n - 1) hch (by omega) (by omega)
      rw [Nat.zero_add] at depR
      obtain ⟨σ2, τ2, o1, o2, -, q2, q3, q4⟩ := route_ok (N := N) (par := par) (mov := mov) hn' d N N (n - 1) (sI s1 13 (nI d)) (sI (sI τ' 7 (nI n)) 8 (nI d)) hch (by omega) (by omega) (by omega) (by omega) (fun j hj => by
        rw [es1]
        obtain ⟨-, -, z1, z2⟩ := d2.1.2.1 j hj
        obtain ⟨-, -, z3, z4⟩ := d2.2.1.2.1 j hj
        exact ⟨z1, z2, z3, z4⟩)
      refine ⟨nI d, σ2, τ2, ?_, ?_, ?_⟩
      · refine Rel_end hB hG hT hM ((HX.g f).tr (((es1 ▸ HX.i (a := 14) (by omega) _ : HX σ' s1).tr (HX.i (a := 13) (by omega) _)).tr (HX.o (a := 14) (by omega) o1))) ((HY.g g).tr (((HY.i (a := 7) (by omega) _).tr (HY.i (a := 8) (by omega) _)).tr (HY.o (a := 12) (by omega) o2))) ?_ ?_
        · refine ⟨d, n, by omega, hn', ?_, ?_, ?_, ?_, q2⟩
          · rw [o1.1]; exact sI_own _ _ _
          · rw [o2.1]; exact sI_own _ _ _
          · rw [o1.1, es1]; rfl
          · rw [o2.1]; rfl
        · refine SC_RC hn' (SC_fr d2.1 ?_ ?_ ?_ ?_ ?_ ?_ ?_)
          · rw [o1.1, es1]; rfl
          · rw [o1.2.1 10 (by omega), es1]; rfl
          · rw [o1.2.1 11 (by omega), es1]; rfl
          · rw [o1.2.1 12 (by omega), es1]; rfl
          · rw [o1.2.1 13 (by omega), es1]; rfl
          · rw [o1.2.2, es1]; rfl
          · rw [o1.2.2, es1]; rfl
      · rw [if_pos c0]
        have ek : f_X3_keep N σ' 1 = some σ2 := by
          unfold f_X3_keep
          rw [nm_eq, if_neg (by decide), h12, ← es1]
          have h12' : s1.1 12 = nI n := by rw [es1]; exact h12
          rw [h12', show nI n - 1 = nI (n - 1) by rw [show n = (n - 1) + 1 by omega, nI_pred, Nat.add_sub_cancel], dep, bd1_some, nm_eq, nm_eq, nm_eq, sI_own]
          rw [show (sI s1 13 (nI d)).1 12 = nI n from h12', show nI n - 1 = nI (n - 1) by rw [show n = (n - 1) + 1 by omega, nI_pred, Nat.add_sub_cancel]]
          exact q3
        rw [ek, bd1_some, if_pos c0, o1.1, sI_own]
      · rw [d3, if_neg (nI_nm2 (by omega)), t6, nm_eq, nm_eq, if_pos (nI_pos' (by omega))]
        have depR : lp_X7_search_69 N (nI (n - 1)) N (sI (sI τ' 7 (nI n)) 8 0) (nI (n - 1)) = _ := depR
        rw [depR, q4, sI_own]
    · obtain ⟨σ1, τ1, z1, z2, z3⟩ := nogoal most (-2) hm2 (by decide) (by decide) d2.1 (SC_RC hm2 d2)
      refine ⟨-2, σ1, τ1, z1, ?_, ?_⟩
      · rw [c0, if_neg (by decide), keep0 (by omega), bd1_some, if_neg (by decide), z2]
      · rw [d1, if_pos rfl, nm_eq, nm_eq, if_neg (by decide), z3]
    · have hn := d2.2.2.1
      obtain ⟨σ1, τ1, z1, z2, z3⟩ := nogoal n (-1) (by omega) (by decide) (by decide) d2.1.1 (SC_RC (by omega) d2.1)
      refine ⟨-1, σ1, τ1, z1, ?_, ?_⟩
      · rw [c0, if_neg (by decide), keep0 (by omega), bd1_some, if_neg (by decide), z2]
      · rw [d3, if_neg (by decide), d2.2.1.1, nm_eq, nm_eq, if_neg (by decide), z3]
  · exact ⟨-3, σ, sI τ 0 0, hR0, by rw [if_neg c4], by rw [if_neg c4]⟩
theorem pg_9 {σ τ : St} (hR : Rel σ τ) {N : Nat} (hN : 100000 ≤ N) {xs : Nat → Int32} {L : Nat} {i : Int32} (ho1 : okx (i + 1) L = true) (ho2 : okx (i + 2) L = true) (K : St → St → Option Int32) : ∃ σ1 τ1, Rel σ1 τ1 ∧ g_law_9 N xs L σ τ i K = K σ1 τ1 := by
  obtain ⟨r, σ1, τ1, h1, e1, e2⟩ := search_ok hR hN (rs xs (i + 1)) (rs xs (i + 2))
  refine ⟨σ1, τ1, h1, ?_⟩
  unfold g_law_9
  rw [gd_t ho1, gd_t ho2, e1, bd_some, gd_t ho1, gd_t ho2, e2, bd_some, if_pos rfl]

theorem vm_rule {s : Nat → Int} {n : Nat} {rk rv : Nat → Int} {μ : vr_M} (h : vm_ru s n rk rv) (e : μ 69 = s) (a : Int) : fX10_isRule a μ = some (if 0 ≤ a ∧ a < (n : Int) then 1 else 0, μ) := by
  have h0 : μ 69 1 = (n : Int) := by rw [e]; exact h.1
  have h2 := h.2.1
  by_cases c : 0 ≤ a ∧ a < (n : Int)
  · rw [if_pos c, vm_ruleT (by omega) (by omega)]
  · rw [if_neg c, vm_ruleF (by omega) (by omega)]
theorem vm_rk {s : Nat → Int} {n : Nat} {rk rv : Nat → Int} {μ : vr_M} (h : vm_ru (μ 69) n rk rv) {i : Nat} (hi : i < n) : μ 69 (170 + (i : Int)).toNat = rk i ∧ μ 69 (178 + (i : Int)).toNat = rv i ∧ (0 ≤ rk i ∧ rk i ≤ 6) ∧ (1 ≤ rv i ∧ rv i ≤ 30) ∧ (0 ≤ 170 + (i : Int) ∧ 170 + (i : Int) < 933) ∧ (0 ≤ 178 + (i : Int) ∧ 178 + (i : Int) < 933) := by
  have h2 := h.2.1
  obtain ⟨⟨q1, q2⟩, q3, q4⟩ := h.2.2 i hi
  rw [show (170 + (i : Int)).toNat = 170 + i by omega, show (178 + (i : Int)).toNat = 178 + i by omega]
  exact ⟨q1, q2, q3, q4, by omega, by omega⟩
theorem vy_T_4 {kind v : Int} {cl : vl_C} {wk mv : Int} {h : vh_H} {T : Nat → Int} : vy_T kind v cl wk mv h T 4 = T 4 + 1 ∧ vy_T kind v cl wk mv h T 5 = T 5 + (if vy_we kind v cl wk mv h = 0 then 1 else 0) ∧ vy_T kind v cl wk mv h T 6 = (if vy_we kind v cl wk mv h = 0 ∧ T 5 = 0 then T 4 else T 6) ∧ vy_T kind v cl wk mv h T 7 = T 7 + vh_mo (vy_to kind v cl wk mv h) h := ⟨rfl, rfl, rfl, rfl⟩
theorem vm_goL {cl : vl_C} {wk mv gr dr m : Int} {nr : Nat} {rk rv : Nat → Int} {r : Nat} (hr9 : r < nr) :
    ∀ (d k n : Nat) (μ : vr_M) (h : vh_H) (Y : Int) (T : Nat → Int), (k : Int) + d = m → d < n → Y + d ≤ 99998 → vm_ru (μ 69) nr rk rv → vm_B μ h cl wk mv gr dr Y → (0 ≤ T 5 ∧ T 5 ≤ k) → m ≤ 300 →
      ∃ μ', fX10_go_L28 n (r : Int) m (T 5) (k : Int) μ = some ((vy_it (rk r) (rv r) cl wk mv gr 1 d (h, T)).2 5, μ') ∧ vm_X μ μ' ∧ vm_h μ' = vy_hs (rk r) (rv r) cl wk mv gr 1 d h := by
  intro d
  induction d with
  | zero =>
    intro k n μ h Y T hd hn hY hr hb ht hk
    obtain ⟨n, rfl⟩ : ∃ m, n = m + 1 := ⟨n - 1, by omega⟩
    exact ⟨μ, by rw [fX10_go_L28.eq_2, if_pos (by omega)]; rfl, vm_X.rf, hb.1⟩
  | succ d ih =>
    intro k n μ h Y T hd hn hY hr hb ht hk
    obtain ⟨n, rfl⟩ : ∃ m, n = m + 1 := ⟨n - 1, by omega⟩
    obtain ⟨b1, b2, b3⟩ := hb
    obtain ⟨q1, q2, q3, q4, q5, q6⟩ := vm_rk (s := μ 69) hr hr9
    have e3 : (k : Int) + 1 = ((k + 1 : Nat) : Int) := by omega
    obtain ⟨μ1, g1, g2, g3, g4, g5, g6, g7⟩ := vm_year (gw := 1) (by omega) b2 q3 q4 b1 b3
    have t := vy_T_4 (kind := rk r) (v := rv r) (cl := cl) (wk := wk) (mv := mv) (h := h) (T := T)
    have hw5 : (0 : Int) ≤ (if vy_we (rk r) (rv r) cl wk mv h = 0 then 1 else 0) ∧ (if vy_we (rk r) (rv r) cl wk mv h = 0 then (1 : Int) else 0) ≤ 1 := by split <;> omega
    obtain ⟨μ', k1, k2, k3⟩ := ih (k + 1) n μ1 (vy_h (rk r) (rv r) cl wk mv gr 1 h) (Y + 1) (vy_T (rk r) (rv r) cl wk mv h T) (by omega) (by omega) (by omega) (hr.x g2) ⟨g3, vy_h_wf b2 b3.1.1 b3.2.2.2.1 b3.2.2.2.2.1, b3.x g2⟩ (by rw [t.2.1]; omega) (by omega)
    refine ⟨μ', ?_, g2.tr k2, k3⟩
    rw [t.2.1] at k1
    rw [fX10_go_L28.eq_2, if_neg (by omega), vp_gdT q5, vp_gdT q6]
    simp only [q1, q2]
    rw [vp_gdT (by omega), vp_gdT (by omega), g1, vp_bind]
    simp only [g4]
    unfold fX10_go_B74
    rw [e3]
    by_cases c : vy_we (rk r) (rv r) cl wk mv h = 0
    · simp only [c, if_true] at k1 ⊢
      rw [vp_gdT (by decide), if_neg (by decide), vp_gdT (by omega), vp_gdT (by omega)]
      exact k1
    · simp only [c, if_false] at k1 ⊢
      rw [vp_gdT (by decide), if_pos trivial, vp_gdT (by omega), vp_gdT (by omega)]
      exact k1
theorem vm_go {μ : vr_M} {h : vh_H} {cl : vl_C} {wk mv gr dr Y : Int} {n : Nat} {rk rv : Nat → Int} (hY : Y ≤ 99000) (hb : vm_B μ h cl wk mv gr dr Y) (hr : vm_ru (μ 69) n rk rv) {i : Nat} (hi : i < n) {m : Int} (hm : 1 ≤ m ∧ m ≤ 30) :
    ∃ μ', fX10_go (i : Int) m μ = some ((vy_it (rk i) (rv i) cl wk mv gr 1 m.toNat (h, vt_T0)).2 5, μ') ∧ vm_X μ μ' ∧ vm_h μ' = vy_hs (rk i) (rv i) cl wk mv gr 1 m.toNat h := by
  obtain ⟨μ', k1, k2, k3⟩ := vm_goL (m := m) hi m.toNat 0 9000 μ h Y vt_T0 (by omega) (by omega) (by omega) hr hb (by decide) (by omega)
  refine ⟨μ', ?_, k2, k3⟩
  rw [fX10_go, vm_rule hr rfl, vp_bind, if_pos (show 0 ≤ (i : Int) ∧ (i : Int) < (n : Int) by omega), if_pos (show ¬ (1 : Int) = 0 by decide), vm_inT hm, vp_bind, if_pos (show ¬ (1 : Int) = 0 by decide)]
  exact k1
theorem vm_proofL {s0 : Nat → Int} {cl : vl_C} {wk mv gr dr m w kind v : Int} (hkd : 0 ≤ kind ∧ kind ≤ 6) (hvr : 1 ≤ v ∧ v ≤ 30) :
    ∀ (d k n : Nat) (μ : vr_M) (h : vh_H) (Y : Int) (T : Nat → Int), (k : Int) + d = m → d < n → Y + d ≤ 99998 → vm_kp s0 μ → vm_B μ h cl wk mv gr dr Y → T 4 = (k : Int) → (T 5 = 0 ↔ T 6 = -5) → 0 ≤ T 5 → (0 ≤ T 7 ∧ T 7 ≤ k) → m ≤ 300 →
      ∃ μ', fX10_proof_L85 n m w kind v (T 6) (T 7) (k : Int) μ = some (if w = 0 then (vy_it kind v cl wk mv gr 1 d (h, T)).2 6 else (vy_it kind v cl wk mv gr 1 d (h, T)).2 7, μ') ∧ vm_Y μ μ' ∧ μ' 69 = s0 := by
  intro d
  induction d with
  | zero =>
    intro k n μ h Y T hd hn hY hk hb t4 t56 t5 t7 hk3
    obtain ⟨n, rfl⟩ : ∃ m, n = m + 1 := ⟨n - 1, by omega⟩
    obtain ⟨μ', g1, g2, g3, g4⟩ := vm_unk hk
    refine ⟨μ', ?_, vm_Y.s g2, g3⟩
    rw [fX10_proof_L85.eq_2, if_pos (by omega), g1, vp_bind]
    unfold fX10_proof_B163
    by_cases c : w = 0
    · rw [if_neg (fun q => q c), if_pos c]; rfl
    · rw [if_pos c, if_neg c]; rfl
  | succ d ih =>
    intro k n μ h Y T hd hn hY hk hb t4 t56 t5 t7 hk3
    obtain ⟨n, rfl⟩ : ∃ m, n = m + 1 := ⟨n - 1, by omega⟩
    obtain ⟨b1, b2, b3⟩ := hb
    have e3 : (k : Int) + 1 = ((k + 1 : Nat) : Int) := by omega
    obtain ⟨μ1, g1, g2, g3, g4, g5, g6, g7⟩ := vm_year (gw := 1) (by omega) b2 hkd hvr b1 b3
    have t := vy_T_4 (kind := kind) (v := v) (cl := cl) (wk := wk) (mv := mv) (h := h) (T := T)
    have hm01 : vh_mo (vy_to kind v cl wk mv h) h = 0 ∨ vh_mo (vy_to kind v cl wk mv h) h = 1 := by unfold vh_mo; split <;> simp
    generalize vy_T kind v cl wk mv h T = T' at t
    obtain ⟨t4', t5', t6', t7'⟩ := t
    have ihT : ∀ T'' : Nat → Int, T'' = vy_T kind v cl wk mv h T → T'' 4 = ((k + 1 : Nat) : Int) → (T'' 5 = 0 ↔ T'' 6 = -5) → 0 ≤ T'' 5 → (0 ≤ T'' 7 ∧ T'' 7 ≤ ((k + 1 : Nat) : Int)) → ∃ μ', fX10_proof_L85 n m w kind v (T'' 6) (T'' 7) ((k + 1 : Nat) : Int) μ1 = some (if w = 0 then (vy_it kind v cl wk mv gr 1 (d + 1) (h, T)).2 6 else (vy_it kind v cl wk mv gr 1 (d + 1) (h, T)).2 7, μ') ∧ vm_Y μ1 μ' ∧ μ' 69 = s0 := by
      intro T'' e1 e2 e3 e4 e5
      subst e1
      exact ih (k + 1) n μ1 (vy_h kind v cl wk mv gr 1 h) (Y + 1) _ (by omega) (by omega) (by omega) (hk.x g2) ⟨g3, vy_h_wf b2 b3.1.1 b3.2.2.2.1 b3.2.2.2.2.1, b3.x g2⟩ e2 e3 e4 e5 (by omega)
    have t := vy_T_4 (kind := kind) (v := v) (cl := cl) (wk := wk) (mv := mv) (h := h) (T := T)
    obtain ⟨u4, u5, u6, u7⟩ := t
    obtain ⟨μ', k1, k2, k3⟩ := ihT _ rfl (by omega) (by
      rw [u5, u6]
      by_cases c : vy_we kind v cl wk mv h = 0
      · simp only [c, if_true, true_and]
        by_cases z : T 5 = 0
        · rw [if_pos z]; omega
        · rw [if_neg z]; omega
      · simp only [c, if_false, false_and]
        omega) (by rw [u5]; split <;> omega) (by rw [u7]; omega)
    refine ⟨μ', ?_, g2.y.tr k2, k3⟩
    rw [u6, u7] at k1
    rw [fX10_proof_L85.eq_2, if_neg (by omega), g1, vp_bind]
    unfold fX10_proof_B121 fX10_proof_B123 fX10_proof_B139
    simp only [g4, g5]
    rw [e3]
    have fin : ∀ x6 : Int, x6 = (if vy_we kind v cl wk mv h = 0 ∧ T 5 = 0 then T 4 else T 6) → vr_gd (vr_R (vh_mo (vy_to kind v cl wk mv h) h)) (if vh_mo (vy_to kind v cl wk mv h) h = 0 then vr_gd (vr_R (T 7 + 0)) (vr_gd (vr_R ((k + 1 : Nat) : Int)) (fX10_proof_L85 n m w kind v x6 (T 7 + 0) ((k + 1 : Nat) : Int) μ1)) else vr_gd (vr_R (T 7 + 1)) (vr_gd (vr_R ((k + 1 : Nat) : Int)) (fX10_proof_L85 n m w kind v x6 (T 7 + 1) ((k + 1 : Nat) : Int) μ1))) = some (if w = 0 then (vy_it kind v cl wk mv gr 1 (d + 1) (h, T)).2 6 else (vy_it kind v cl wk mv gr 1 (d + 1) (h, T)).2 7, μ') := by
      intro x6 hx6
      rw [vp_gdT (by omega), hx6]
      rcases hm01 with q | q
      · rw [q] at k1 ⊢
        rw [if_pos rfl, vp_gdT (by omega), vp_gdT (by omega)]
        exact k1
      · rw [q] at k1 ⊢
        rw [if_neg (by decide), vp_gdT (by omega), vp_gdT (by omega)]
        exact k1
    by_cases z : T 6 = -5
    · have z5 := t56.mpr z
      rw [if_neg (fun q => q z)]
      by_cases c : vy_we kind v cl wk mv h = 0
      · simp only [c, if_true]
        rw [vp_gdT (by decide), if_neg (by decide)]
        exact fin _ (by rw [if_pos ⟨c, z5⟩, t4])
      · simp only [c, if_false]
        rw [vp_gdT (by decide), if_pos trivial]
        exact fin _ (by rw [if_neg (fun q => c q.1)])
    · have z5 : ¬ T 5 = 0 := fun q => z (t56.mp q)
      rw [if_pos z]
      exact fin _ (by rw [if_neg (fun q => z5 q.2)])
/-- fed in all of these years -/
theorem vm_firstL {cl : vl_C} {wk mv gr dr m gw kind v : Int} (hkd : 0 ≤ kind ∧ kind ≤ 6) (hvr : 1 ≤ v ∧ v ≤ 30) :
    ∀ (d k n : Nat) (μ : vr_M) (h : vh_H) (Y : Int), (k : Int) + d = m → d < n → Y + d ≤ 99998 → vm_B μ h cl wk mv gr dr Y → m ≤ 300 →
      ∃ μ' r, fX10_firstHungry_L3 n kind v m gw (k : Int) μ = some (r, μ') ∧ vm_X μ μ' ∧ ((vy_fed kind v cl wk mv gr gw d h = true ∧ r = -5 ∧ vm_h μ' = vy_hs kind v cl wk mv gr gw d h) ∨ (vy_fed kind v cl wk mv gr gw d h = false ∧ 0 ≤ r)) := by
  intro d
  induction d with
  | zero =>
    intro k n μ h Y hd hn hY hb hk3
    obtain ⟨n, rfl⟩ : ∃ m, n = m + 1 := ⟨n - 1, by omega⟩
    exact ⟨μ, -5, by rw [fX10_firstHungry_L3.eq_2, if_pos (by omega)], vm_X.rf, Or.inl ⟨rfl, rfl, hb.1⟩⟩
  | succ d ih =>
    intro k n μ h Y hd hn hY hb hk3
    obtain ⟨n, rfl⟩ : ∃ m, n = m + 1 := ⟨n - 1, by omega⟩
    obtain ⟨b1, b2, b3⟩ := hb
    have e3 : (k : Int) + 1 = ((k + 1 : Nat) : Int) := by omega
    obtain ⟨μ1, g1, g2, g3, g4, g5, g6, g7⟩ := vm_year (gw := gw) (by omega) b2 hkd hvr b1 b3
    by_cases c : vy_we kind v cl wk mv h = 0
    · refine ⟨μ1, (k : Int), ?_, g2, Or.inr ⟨by rw [vy_fed, if_pos c], by omega⟩⟩
      rw [fX10_firstHungry_L3.eq_2, if_neg (by omega), g1, vp_bind]
      simp only [g4, c, if_true]
      rw [vp_gdT (by decide), if_neg (by decide)]
    · obtain ⟨μ', r, k1, k2, k3⟩ := ih (k + 1) n μ1 (vy_h kind v cl wk mv gr gw h) (Y + 1) (by omega) (by omega) (by omega) ⟨g3, vy_h_wf b2 b3.1.1 b3.2.2.2.1 b3.2.2.2.2.1, b3.x g2⟩ (by omega)
      refine ⟨μ', r, ?_, g2.tr k2, by rw [vy_fed, if_neg c]; exact k3⟩
      rw [fX10_firstHungry_L3.eq_2, if_neg (by omega), g1, vp_bind]
      simp only [g4, c, if_false]
      rw [vp_gdT (by decide), if_pos trivial, vp_gdT (by omega), e3]
      exact k1
theorem vm_mostL {s0 : Nat → Int} {h : vh_H} {cl : vl_C} {wk mv gr dr kind v Y m : Int} (hY : Y ≤ 99000) (hkd : 0 ≤ kind ∧ kind ≤ 6) (hvr : 1 ≤ v ∧ v ≤ 30) (hm : 0 ≤ m ∧ m ≤ 300) :
    ∀ (q n : Nat) (μ : vr_M), q ≤ 99 → q < n → vm_kp s0 μ → μ 69 = s0 → vm_B μ h cl wk mv gr dr Y →
      ∃ μ', fX10_mostMouths_L4 n kind v m (q : Int) μ = some (vy_most kind v cl wk mv gr m.toNat h q, μ') ∧ vm_Y μ μ' ∧ μ' 69 = s0 := by
  intro q
  induction q with
  | zero =>
    intro n μ hq hn hk hs hb
    obtain ⟨n, rfl⟩ : ∃ m, n = m + 1 := ⟨n - 1, by omega⟩
    exact ⟨μ, by rw [fX10_mostMouths_L4.eq_2, if_pos (by omega)]; rfl, vm_Y.rf, hs⟩
  | succ q ih =>
    intro n μ hq hn hk hs hb
    obtain ⟨n, rfl⟩ : ∃ m, n = m + 1 := ⟨n - 1, by omega⟩
    obtain ⟨b1, b2, b3⟩ := hb
    have x1 : vm_X μ (vr_u μ 69 8 ((q + 1 : Nat) : Int)) := vm_X.sl (j := 2) (by decide)
    have wf1 : vh_wf Y (vh_up h 5 2 ((q + 1 : Nat) : Int)) := by
      obtain ⟨w1, w2, w3, w4, w5⟩ := b2
      refine ⟨w1, w2, ⟨?_, ?_⟩, w4, w5⟩
      · show 1 ≤ ((q + 1 : Nat) : Int); omega
      · show ((q + 1 : Nat) : Int) ≤ 99; omega
    obtain ⟨μ1, r, k1, k2, k3⟩ := vm_firstL (gw := 0) (m := m) hkd hvr m.toNat 0 9000 (vr_u μ 69 8 ((q + 1 : Nat) : Int)) (vh_up h 5 2 ((q + 1 : Nat) : Int)) Y (by omega) (by omega) (by omega) ⟨by rw [vm_h8, b1], wf1, b3.x x1⟩ (by omega)
    have x2 := x1.tr k2
    obtain ⟨μ2, g1, g2, g3, g4⟩ := vm_unk (hk.x x2)
    have y2 := x2.y.tr (vm_Y.s g2)
    have k1' : fX10_firstHungry kind v m 0 (vr_u μ 69 8 ((q + 1 : Nat) : Int)) = some (r, μ1) := k1
    rw [fX10_mostMouths_L4.eq_2, if_neg (by omega), k1', vp_bind, vy_most]
    unfold fX10_mostMouths_B36
    dsimp only
    rw [g1, vp_bind, vp_bind]
    rcases k3 with ⟨f1, f2, f3⟩ | ⟨f1, f2⟩
    · refine ⟨μ2, ?_, y2, g3⟩
      rw [if_neg (fun z => z f2), if_neg (by decide), if_pos f1]
    · obtain ⟨μ', j1, j2, j3⟩ := ih n μ2 (by omega) (by omega) g4 g3 ((vm_B.fr (μ := μ) ⟨b1, b2, b3⟩ (by rw [g3, hs])))
      refine ⟨μ', ?_, y2.tr j2, j3⟩
      rw [if_pos (by omega), if_pos rfl, vp_gdT (by omega), show ((q + 1 : Nat) : Int) + (-1) = (q : Int) by omega]
      dsimp only
      rw [j1, if_neg (by rw [f1]; decide)]
theorem vm_proof {μ : vr_M} {h : vh_H} {cl : vl_C} {wk mv gr dr Y : Int} {n : Nat} {rk rv : Nat → Int} (hY : Y ≤ 99000) (hb : vm_B μ h cl wk mv gr dr Y) (hr : vm_ru (μ 69) n rk rv) {i : Nat} (hi : i < n) {m w : Int} (hm : 1 ≤ m ∧ m ≤ 30) (hw : 0 ≤ w ∧ w ≤ 2) :
    ∃ μ', fX10_proof (i : Int) m w μ = some (if w = 2 then vy_most (rk i) (rv i) cl wk mv gr m.toNat h 99 else if w = 0 then (vy_it (rk i) (rv i) cl wk mv gr 1 m.toNat (h, vt_T0)).2 6 else (vy_it (rk i) (rv i) cl wk mv gr 1 m.toNat (h, vt_T0)).2 7, μ') ∧ vm_Y μ μ' ∧ μ' 69 = μ 69 := by
  obtain ⟨q1, q2, q3, q4, q5, q6⟩ := vm_rk (s := μ 69) hr hi
  obtain ⟨μ1, a1, a2, a3, a4⟩ := vm_keep μ
  have e0 : fX10_proof (i : Int) m w μ = (if ¬ w = 2 then fX10_proof_L85 9000 m w (rk i) (rv i) (-5) 0 0 μ1 else (fX10_mostMouths (rk i) (rv i) m μ1).bind (fun r17 => some (r17.1, r17.2))) := by
    rw [fX10_proof, vm_rule hr rfl, vp_bind, if_pos (show 0 ≤ (i : Int) ∧ (i : Int) < (n : Int) by omega), if_neg (show ¬ (1 : Int) = 0 by decide), vm_inT hw, vp_bind, if_pos (show ¬ (1 : Int) = 0 by decide), vm_inT hm, vp_bind, if_pos (show ¬ (1 : Int) = 0 by decide)]
    dsimp only
    rw [vp_gdT q5, vp_gdT q6, a1, vp_bind]
    simp only [q1, q2]
    rw [vp_gdT (by omega), vp_gdT (by omega), vp_gdT (by omega), vp_gdT (by omega)]
  rw [e0]
  by_cases c2 : w = 2
  · obtain ⟨μ', k1, k2, k3⟩ := vm_mostL (m := m) hY q3 q4 (by omega) 99 9000 μ1 (by decide) (by decide) a4 a3 (hb.fr a3)
    refine ⟨μ', ?_, (vm_Y.k a2).tr k2, k3⟩
    have k1' : fX10_mostMouths (rk i) (rv i) m μ1 = some (vy_most (rk i) (rv i) cl wk mv gr m.toNat h 99, μ') := k1
    rw [if_neg (fun z => z c2), k1', vp_bind, if_pos c2]
  · obtain ⟨μ', k1, k2, k3⟩ := vm_proofL (w := w) (m := m) q3 q4 m.toNat 0 9000 μ1 h Y vt_T0 (by omega) (by omega) (by omega) a4 (hb.fr a3) rfl (by decide) (by decide) (by decide) (by omega)
    refine ⟨μ', ?_, (vm_Y.k a2).tr k2, k3⟩
    rw [if_pos c2, if_neg c2]
    exact k1

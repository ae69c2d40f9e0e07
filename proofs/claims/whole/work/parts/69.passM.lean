theorem vm_h3 {μ : vr_M} {v : Int} : vm_h (vr_u μ 69 3 v) = vh_up (vm_h μ) 5 3 v := vm_hs (j := 3) (by decide)
theorem vm_h7 {μ : vr_M} {v : Int} : vm_h (vr_u μ 69 7 v) = vh_up (vm_h μ) 5 1 v := vm_hs (j := 1) (by decide)
theorem vm_h8 {μ : vr_M} {v : Int} : vm_h (vr_u μ 69 8 v) = vh_up (vm_h μ) 5 2 v := vm_hs (j := 2) (by decide)
theorem vm_passL {cl : vl_C} {s v gw x5 wk mv gr dr Y : Int} (hY : Y ≤ 99998) (hs : 0 ≤ s ∧ s < 256) (hv : 0 ≤ v ∧ v ≤ 40) {h : vh_H} (hh : vh_wf Y h) {N : Nat} (hN : h 5 0 = (N : Int)) :
    ∀ (d p n : Nat) (μ : vr_M), p + d = N → d < n → vm_h μ = vh_pp cl s h p → vm_L μ cl wk mv gr dr →
      ∃ μ', fX10_goesBy_L39 n s v gw x5 (p : Int) μ = some (x5, μ') ∧ vm_X μ μ' ∧ (∀ j, j ≠ 12 → j ≠ 13 → μ' 68 j = μ 68 j) ∧ vm_h μ' = vh_sp cl gr gw s v h := by
  have w0 := hh.1
  intro d
  induction d with
  | zero =>
    intro p n μ hd hn hc hL
    obtain ⟨n, rfl⟩ : ∃ m, n = m + 1 := ⟨n - 1, by omega⟩
    have hp : p = N := by omega
    subst hp
    have e5 : ∀ j, vm_h μ 5 j = h 5 j := fun j => by rw [hc, vh_pp5]
    have m0 : μ 69 0 = (p : Int) := by rw [← hN, ← e5 0]; rfl
    have m8 : μ 69 8 = h 5 2 := by rw [← e5 2]; rfl
    have m3 : μ 69 3 = h 5 3 := by rw [← e5 3]; rfl
    have hmm := hh.2.2.1
    have x1 : vm_X μ (vr_u μ 69 7 v) := vm_X.sl (j := 1) (by decide)
    have c1 : vm_h (vr_u μ 69 7 v) = vh_pp cl s (vh_up h 5 1 v) p := by
      rw [vm_h7, hc, vh_pp_up]
    have hNt : (h 5 0).toNat = p := by omega
    rw [fX10_goesBy_L39.eq_2, vp_gdT (by omega), if_pos (by omega)]
    by_cases cg : gw = 0
    · rw [if_pos cg, fX10_goesBy_B242]
      have e3 : vr_u μ 69 7 v 69 3 = h 5 3 := by rw [vp_uj (by decide), m3]
      rw [e3]
      refine ⟨vr_u (vr_u μ 69 7 v) 69 3 (h 5 3 + 1), rfl, x1.tr (vm_X.sl (j := 3) (by decide)), fun j _ _ => by rw [vp_un (by decide), vp_un (by decide)], ?_⟩
      rw [vm_h3, c1]
      unfold vh_sp
      rw [if_pos cg, hNt]
    · have hL1 := hL.x x1
      have hgr := hL.2.2.2.2.1
      have hmo := vh_mo_in hmm hgr
      have td : (h 5 2 * gr + 99).tdiv 100 = (h 5 2 * gr + 99) / 100 := Int.tdiv_eq_ediv_of_nonneg (by omega)
      have e8 : vr_u μ 69 7 v 69 8 = h 5 2 := by rw [vp_uj (by decide), m8]
      rw [if_neg cg, vp_let, (vm_tells hL1).2.2.1, vp_bind]
      simp only [e8, td]
      rw [vp_gdT (by omega), vp_gdT (by omega)]
      have fin : ∀ M : Int, M = min (h 5 2 + (h 5 2 * gr + 99) / 100) 99 → ∃ μ', fX10_goesBy_B241 x5 8 M (vr_u μ 69 7 v) = some (x5, μ') ∧ vm_X μ μ' ∧ (∀ j, j ≠ 12 → j ≠ 13 → μ' 68 j = μ 68 j) ∧ vm_h μ' = vh_sp cl gr gw s v h := by
        intro M hM
        have e3 : vr_u (vr_u μ 69 7 v) 69 8 M 69 3 = h 5 3 := by rw [vp_uj (by decide), vp_uj (by decide), m3]
        rw [fX10_goesBy_B241, vp_gdT (by decide), fX10_goesBy_B242, show (8 : Int).toNat = 8 from rfl, e3]
        refine ⟨vr_u (vr_u (vr_u μ 69 7 v) 69 8 M) 69 3 (h 5 3 + 1), rfl, (x1.tr (vm_X.sl (j := 2) (by decide))).tr (vm_X.sl (j := 3) (by decide)), fun j _ _ => by rw [vp_un (by decide), vp_un (by decide), vp_un (by decide)], ?_⟩
        rw [vm_h3, vm_h8, c1]
        unfold vh_sp
        rw [if_neg cg, hNt, hM]
        funext a b
        unfold vh_up
        by_cases a2 : a = 5 ∧ b = 2
        · rw [if_pos a2, if_pos a2, if_neg (by omega)]
        · rw [if_neg a2, if_neg a2]
      by_cases c9 : h 5 2 + (h 5 2 * gr + 99) / 100 ≤ 99
      · rw [if_pos c9]
        exact fin _ (by omega)
      · rw [if_neg c9]
        exact fin _ (by omega)
  | succ d ih =>
    intro p n μ hd hn hc hL
    obtain ⟨n, rfl⟩ : ∃ m, n = m + 1 := ⟨n - 1, by omega⟩
    have hp8 : p < 8 := by omega
    have m0 : μ 69 0 = (N : Int) := by rw [← hN, ← vh_pp5 (cl := cl) (s := s) (h := h) p, ← hc]; rfl
    have hpw := vh_pp_wf (cl := cl) (s := s) hh (p := p) (by omega)
    obtain ⟨b0, b1, b2, b3, b4⟩ := vh_pp_in (cl := cl) (s := s) hh p (by omega) p hp8
    have b22 := b2.2.2 (Nat.le_refl p)
    have p2 := vm_hf hc (f := 2) (by decide) hp8
    have p3 := vm_hf hc (f := 3) (by decide) hp8
    have e3 : (p : Int) + 1 = ((p + 1 : Nat) : Int) := by omega
    have e146 : (146 + (p : Int)).toNat = 130 + 8 * 2 + p := by omega
    have e154 : (154 + (p : Int)).toNat = 130 + 8 * 3 + p := by omega
    have e162 : (162 + (p : Int)).toNat = 130 + 8 * 4 + p := by omega
    have step : ∃ μ1, fX10_goesBy_L39 (n + 1) s v gw x5 (p : Int) μ = fX10_goesBy_L39 n s v gw x5 ((p + 1 : Nat) : Int) μ1 ∧ vm_X μ μ1 ∧ (∀ j, j ≠ 12 → j ≠ 13 → μ1 68 j = μ 68 j) ∧ vm_h μ1 = vh_pp cl s h (p + 1) := by
      rw [fX10_goesBy_L39.eq_2, vp_gdT (by omega), if_neg (by omega), vp_and_bit hs hp8, vh_pp_s]
      by_cases c : vp_bit s p = true
      · obtain ⟨μ1, k1, k2, k3⟩ := vm_worn (p := p) (by omega : Y + 1 ≤ 100000) hc hpw hL.1 hp8
        have z1 := vm_Z.of k2 k3
        have hc1 : vm_h μ1 = vh_pp cl s h p := (vm_h_fr z1.s).trans hc
        have q2 := vm_hf hc1 (f := 2) (by decide) hp8
        refine ⟨vr_u (vr_u μ1 69 (130 + 8 * 4 + p) (vh_wt (vh_pp cl s h p) cl p)) 69 (130 + 8 * 2 + p) (vh_pp cl s h p 2 p + 1), ?_, (z1.x.tr (vm_X.h (f := 4) (by decide) hp8)).tr (vm_X.h (f := 2) (by decide) hp8), fun j j1 j2 => by rw [vp_un (by decide), vp_un (by decide)]; exact k3 j j1 j2, ?_⟩
        · rw [if_pos c, if_neg (by decide), k1, vp_bind, vp_gdT (by omega), vp_gdT (by omega), vp_let, fX10_goesBy_B171, vp_gdT (by omega), e3, e146, e162]
          rw [show vr_u μ1 69 (130 + 8 * 4 + p) (vh_wt (vh_pp cl s h p) cl p) 69 (130 + 8 * 2 + p) = vh_pp cl s h p 2 p from by rw [vp_uj (by omega), q2]]
        · rw [vm_hu (by decide) hp8, vm_hu (by decide) hp8, hc1, if_pos c]
      · rw [if_neg c, if_pos (by decide), vp_gdT (by omega), e146, p2, vp_gdT (by omega), if_neg c]
        by_cases d0 : 0 < vh_pp cl s h p 2 p
        · refine ⟨vr_u (vr_u μ 69 (130 + 8 * 2 + p) 0) 69 (130 + 8 * 3 + p) 0, ?_, (vm_X.h (f := 2) (by decide) hp8).tr (vm_X.h (f := 3) (by decide) hp8), fun j _ _ => by rw [vp_un (by decide), vp_un (by decide)], ?_⟩
          · rw [if_neg (by omega), vp_gdT (by omega), fX10_goesBy_B171, vp_gdT (by omega), e3, e154]
          · rw [vm_hu (by decide) hp8, vm_hu (by decide) hp8, hc, if_pos d0]
        · refine ⟨vr_u μ 69 (130 + 8 * 3 + p) (min (vh_pp cl s h p 3 p + 1) 30), ?_, vm_X.h (f := 3) (by decide) hp8, fun j _ _ => by rw [vp_un (by decide)], ?_⟩
          · rw [if_pos (by omega), vp_gdT (by omega), e154, p3, vp_gdT (by omega)]
            by_cases c30 : 30 ≤ vh_pp cl s h p 3 p
            · rw [if_pos c30, vp_gdT (by omega), fX10_goesBy_B169, vp_gdT (by omega), fX10_goesBy_B171, vp_gdT (by omega), e3, e154, show min (vh_pp cl s h p 3 p + 1) 30 = vh_pp cl s h p 3 p + 0 by omega]
            · rw [if_neg c30, vp_gdT (by omega), fX10_goesBy_B169, vp_gdT (by omega), fX10_goesBy_B171, vp_gdT (by omega), e3, e154, show min (vh_pp cl s h p 3 p + 1) 30 = vh_pp cl s h p 3 p + 1 by omega]
          · rw [vm_hu (by decide) hp8, hc, if_neg d0]
    obtain ⟨μ1, k1, k2, k4, k3⟩ := step
    obtain ⟨μ', g1, g2, g4, g3⟩ := ih (p + 1) n μ1 (by omega) (by omega) k3 (hL.x k2)
    exact ⟨μ', by rw [k1]; exact g1, k2.tr g2, fun j j1 j2 => (g4 j j1 j2).trans (k4 j j1 j2), g3⟩
/-- a year in the reference -/
theorem vm_goes {μ : vr_M} {h : vh_H} {cl : vl_C} {wk mv gr dr Y s v gw : Int} (hY : Y ≤ 99998) (hw : vh_wf Y h) (hs : 0 ≤ s ∧ s < 256) (hv : 0 ≤ v ∧ v ≤ 40) (hh : vm_h μ = h) (hL : vm_L μ cl wk mv gr dr) :
    ∃ μ', fX10_goesBy s v gw μ = some (vh_ha cl wk mv s v h, μ') ∧ vm_X μ μ' ∧ (∀ j, j ≠ 12 → j ≠ 13 → μ' 68 j = μ 68 j) ∧ vm_h μ' = vh_sp cl gr gw s v h := by
  obtain ⟨μ1, a1, a2, a3⟩ := vm_sum (by omega) hw hs hv hh hL
  have z1 := vm_Z.of a2 a3
  have hh1 : vm_h μ1 = h := (vm_h_fr z1.s).trans hh
  have hL1 := hL.z z1
  have m7 : μ1 69 7 = h 5 1 := by rw [← hh1]; rfl
  have w1 := hw.2.1
  have w0 := hw.1
  obtain ⟨N, hN⟩ : ∃ N : Nat, h 5 0 = (N : Int) := ⟨(h 5 0).toNat, by have := hw.1; omega⟩
  have hR := vh_ha_in (wk := wk) (mv := mv) (s := s) (to := v) hw hL.1.1 hL.2.2.2.1
  obtain ⟨μ', k1, k2, k4, k3⟩ := vm_passL (gw := gw) (x5 := vh_ha cl wk mv s v h) hY hs hv hw hN N 0 9000 μ1 (by omega) (by omega) hh1 hL1
  refine ⟨μ', ?_, z1.x.tr k2, fun j j1 j2 => (k4 j j1 j2).trans (a3 j j1 j2), k3⟩
  have k1' : fX10_goesBy_L39 9000 s v gw (vh_ha cl wk mv s v h) 0 μ1 = some (vh_ha cl wk mv s v h, μ') := k1
  rw [fX10_goesBy, a1, vp_bind]
  simp only [m7]
  rw [vp_gdT (by omega)]
  unfold vh_ha vh_co at hR k1' ⊢
  by_cases c : v = h 5 1
  · rw [if_pos c] at hR k1' ⊢
    rw [if_neg (fun q => q c), fX10_goesBy_B33, vp_gdT (by omega), k1']
  · rw [if_neg c] at hR k1' ⊢
    rw [if_pos c, (vm_tells hL1).2.1, vp_bind, fX10_goesBy_B33, vp_gdT (by omega), k1']

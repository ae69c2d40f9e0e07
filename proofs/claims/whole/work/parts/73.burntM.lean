theorem vk_pk_in {kind v : Int} {h : vh_H} {cl : vl_C} {wk vi Y : Int} (hY : Y ≤ 100000) (hw : vh_wf Y h) (hc : vl_wf cl) (hk : 0 ≤ kind ∧ kind ≤ 6) (hvr : 1 ≤ v ∧ v ≤ 30) (hvi : 0 ≤ vi ∧ vi ≤ 40) : 0 ≤ vk_pk kind v h cl wk vi ∧ vk_pk kind v h cl wk vi < 256 := by
  have w0 := hw.1
  have hG : ∀ p, p < 8 → 0 ≤ vh_G h cl vi wk p ∧ vh_G h cl vi wk p ≤ 990 := fun p hp => vh_G_in hw hc hp
  have h256 : ∀ N, N < 9 → 2 ^ N ≤ 256 := by decide
  unfold vk_pk
  by_cases c1 : kind = 1
  · rw [if_pos c1]
    have := vk_tn_in v (h 5 3) (h 5 0).toNat
    have := vp_p8 (p := (h 5 0).toNat) (by omega)
    omega
  · rw [if_neg c1]
    by_cases c4 : kind = 4
    · rw [if_pos c4]
      have a := vk_bs_in (vh_G h cl vi wk) (h 5 2) (2 ^ (h 5 0).toNat - 1)
      have b := vk_gv_in (vh_G h cl vi wk) 8
      have := h256 (h 5 0).toNat (by omega)
      rw [show (2 : Int) ^ 8 = 256 from rfl] at b
      split <;> omega
    · rw [if_neg c4]
      have key : ∀ (f : Nat) (r : Nat → Int) (s x : Int), 0 ≤ s ∧ s < 256 → (∀ p, p < 8 → vp_bit s p = true → r p = 0) → 0 ≤ vk_gr (vh_G h cl vi wk) (h 5 2) f r s x ∧ vk_gr (vh_G h cl vi wk) (h 5 2) f r s x < 256 := by
        intro f
        induction f with
        | zero => intro r s x hs _; exact hs
        | succ f ih =>
          intro r s x hs hb
          unfold vk_gr
          split
          · exact hs
          · split
            · exact hs
            · next c =>
              have h7 := vk_am_le r 7
              have hnb : vp_bit s (vk_am r 7) = false := by
                cases q : vp_bit s (vk_am r 7) with
                | false => rfl
                | true => exact absurd (hb _ (by omega) q) c
              obtain ⟨s1, s2⟩ := vp_add hs (by omega) hnb
              have := vp_pow_nn (vk_am r 7)
              refine ih _ _ _ ⟨by omega, s1⟩ (fun p hp q => ?_)
              rw [s2 p hp] at q
              by_cases e : p = vk_am r 7
              · simp only [e, if_true]
              · simp only [e, if_false]
                exact hb p hp (by simpa [e] using q)
      exact key 8 _ 0 0 (by decide) (fun p _ q => by
        have : vp_bit 0 p = false := by unfold vp_bit; simp
        rw [this] at q
        exact absurd q (by decide))
theorem vm_burnt {μ : vr_M} {h : vh_H} {cl : vl_C} {wk mv gr dr kind v vi Y : Int} (hY : Y ≤ 100000) (hw : vh_wf Y h) (hk : 0 ≤ kind ∧ kind ≤ 6) (hvr : 1 ≤ v ∧ v ≤ 30) (hvi : 0 ≤ vi ∧ vi ≤ 40) (hh : vm_h μ = h) (hL : vm_L μ cl wk mv gr dr) :
    ∃ μ', fX10_burntBy kind v vi μ = some (vk_pk kind v h cl wk vi, μ') ∧ vm_Z μ μ' := by
  have w0 := hw.1
  obtain ⟨N, hN⟩ : ∃ N : Nat, h 5 0 = (N : Int) := ⟨(h 5 0).toNat, by omega⟩
  have hNt : (h 5 0).toNat = N := by omega
  obtain ⟨μ1, a1, a2, a3⟩ := vm_look hY hw hvi hN hh hL
  have hh1 : vm_h μ1 = h := (vm_h_fr a2.s).trans hh
  have hG : ∀ p, p < 8 → 0 ≤ vh_G h cl vi wk p ∧ vh_G h cl vi wk p ≤ 990 := fun p hp => vh_G_in hw hL.1.1 hp
  have m0 : μ1 69 0 = (N : Int) := by rw [← hN, ← hh1]; rfl
  have m8 : μ1 69 8 = h 5 2 := by rw [← hh1]; rfl
  have m3 : μ1 69 3 = h 5 3 := by rw [← hh1]; rfl
  refine ⟨μ1, ?_, a2⟩
  rw [fX10_burntBy, a1, vp_bind]
  unfold vk_pk fX10_burntBy_B83
  rw [hNt]
  by_cases c1 : kind = 1
  · have t := vm_turnL (μ := μ1) hvr m0 (by omega) m3 (by have := hw.2.2.2.1; omega) N 0 9000 (by omega) (by omega)
    rw [if_neg (fun q => q c1), if_pos c1]
    exact t
  · rw [if_pos c1, if_neg c1]
    by_cases c4 : kind = 4
    · rw [if_neg (fun q => q c4), if_pos c4]
      dsimp only
      rw [vm_best m0 (by omega) m8 hw.2.2.1 a3 hG (fun p hp => by unfold vh_G; rw [if_neg (by omega)]), vp_bind]
    · rw [if_pos c4, if_neg c4]
      dsimp only
      rw [vm_one hY hw hh1 (by omega) hvr hN a3 hG hvi, vp_bind]
theorem vm_harv {μ : vr_M} {h : vh_H} {cl : vl_C} {wk mv gr dr kind v vi Y : Int} (hY : Y ≤ 100000) (hw : vh_wf Y h) (hk : 0 ≤ kind ∧ kind ≤ 6) (hvr : 1 ≤ v ∧ v ≤ 30) (hvi : 0 ≤ vi ∧ vi ≤ 40) (hh : vm_h μ = h) (hL : vm_L μ cl wk mv gr dr) :
    ∃ μ', fX10_harvestAt kind v vi μ = some (vk_hv kind v h cl wk mv vi, μ') ∧ vm_Z μ μ' := by
  obtain ⟨μ1, a1, a2⟩ := vm_burnt hY hw hk hvr hvi hh hL
  have hh1 : vm_h μ1 = h := (vm_h_fr a2.s).trans hh
  have hL1 := hL.z a2
  have hp := vk_pk_in (wk := wk) hY hw hL.1.1 hk hvr hvi
  obtain ⟨μ2, b1, b2, b3⟩ := vm_sum hY hw hp hvi hh1 hL1
  have z2 := a2.tr (vm_Z.of b2 b3)
  have hh2 : vm_h μ2 = h := (vm_h_fr z2.s).trans hh
  have hL2 := hL.z z2
  have m7 : μ2 69 7 = h 5 1 := by rw [← hh2]; rfl
  have w1 := hw.2.1
  have hR := vk_hv_in (kind := kind) (v := v) (wk := wk) (mv := mv) (vi := vi) hw hL.1.1 hL.2.2.2.1
  refine ⟨μ2, ?_, z2⟩
  rw [fX10_harvestAt, a1, vp_bind]
  dsimp only
  rw [b1, vp_bind]
  simp only [m7]
  rw [vp_gdT (by omega)]
  unfold vk_hv fX10_harvestAt_B39 at *
  by_cases c : vi = h 5 1
  · rw [if_pos c] at hR ⊢
    rw [if_neg (fun q => q c), vp_gdT (by omega)]
  · rw [if_neg c] at hR ⊢
    rw [if_pos c, (vm_tells hL2).2.1, vp_bind]
    dsimp only
    rw [vp_gdT (by omega)]
theorem vm_movesL {h : vh_H} {cl : vl_C} {wk mv gr dr kind v Y : Int} (hY : Y ≤ 100000) (hw : vh_wf Y h) (hk : 0 ≤ kind ∧ kind ≤ 6) (hvr : 1 ≤ v ∧ v ≤ 30) {N : Nat} (hN : h 5 0 = (N : Int)) {x3 : Int} (hx3 : ¬ h 5 2 ≤ x3) :
    ∀ (d p n : Nat) (μ : vr_M), p + d = N → d < n → vm_h μ = h → vm_L μ cl wk mv gr dr →
      ∃ μ', fX10_movesTo_L29 n kind v x3 (vk_gp kind v h cl wk mv p).2 (vk_gp kind v h cl wk mv p).1 (p : Int) μ = some ((vk_gp kind v h cl wk mv N).2, μ') ∧ vm_Z μ μ' := by
  have w0 := hw.1
  have w2 := hw.2.2.1
  intro d
  induction d with
  | zero =>
    intro p n μ hd hn hh hL
    obtain ⟨n, rfl⟩ : ∃ m, n = m + 1 := ⟨n - 1, by omega⟩
    have hp : p = N := by omega
    subst hp
    have m0 : μ 69 0 = (p : Int) := by rw [← hN, ← hh]; rfl
    exact ⟨μ, by rw [fX10_movesTo_L29.eq_2, vp_gdT (by omega), if_pos (by omega), fX10_movesTo_B117], vm_Z.rf⟩
  | succ d ih =>
    intro p n μ hd hn hh hL
    obtain ⟨n, rfl⟩ : ∃ m, n = m + 1 := ⟨n - 1, by omega⟩
    have hp8 : p < 8 := by omega
    have m0 : μ 69 0 = (N : Int) := by rw [← hN, ← hh]; rfl
    have m8 : μ 69 8 = h 5 2 := by rw [← hh]; rfl
    have p1 := vm_hf hh (f := 1) (by decide) hp8
    have b1 := (hw.2.2.2.2 p hp8).2.1
    have e138 : (138 + (p : Int)).toNat = 130 + 8 * 1 + p := by omega
    have e3 : (p : Int) + 1 = ((p + 1 : Nat) : Int) := by omega
    obtain ⟨μ1, k1, k2⟩ := vm_harv hY hw hk hvr b1 hh hL
    have hh1 : vm_h μ1 = h := (vm_h_fr k2.s).trans hh
    have q1 := vm_hf hh1 (f := 1) (by decide) hp8
    obtain ⟨μ', g1, g2⟩ := ih (p + 1) n μ1 (by omega) (by omega) hh1 (hL.z k2)
    refine ⟨μ', ?_, k2.tr g2⟩
    have hst : vk_gp kind v h cl wk mv (p + 1) = if (vk_gp kind v h cl wk mv p).1 < vk_hv kind v h cl wk mv (h 1 p) then (vk_hv kind v h cl wk mv (h 1 p), h 1 p) else vk_gp kind v h cl wk mv p := rfl
    rw [hst] at g1
    rw [fX10_movesTo_L29.eq_2, vp_gdT (by omega), if_neg (by omega), vp_gdT (by omega), if_neg (by omega), vp_gdT (by omega)]
    simp only [e138, p1]
    rw [vp_gdT (by omega), k1, vp_bind]
    unfold fX10_movesTo_B93 fX10_movesTo_B109
    dsimp only
    simp only [q1, e3]
    by_cases c : (vk_gp kind v h cl wk mv p).1 < vk_hv kind v h cl wk mv (h 1 p)
    · rw [if_pos c] at g1
      rw [if_neg (by omega), vp_gdT (by omega), if_neg (by omega), vp_gdT (by omega), g1]
    · rw [if_neg c] at g1
      rw [if_pos (by omega), if_pos (by omega), vp_gdT (by omega), g1]
theorem vm_moves {μ : vr_M} {h : vh_H} {cl : vl_C} {wk mv gr dr kind v Y : Int} (hY : Y ≤ 100000) (hw : vh_wf Y h) (hk : 0 ≤ kind ∧ kind ≤ 6) (hvr : 1 ≤ v ∧ v ≤ 30) (hh : vm_h μ = h) (hL : vm_L μ cl wk mv gr dr) :
    ∃ μ', fX10_movesTo kind v μ = some (vk_gl kind v h cl wk mv, μ') ∧ vm_Z μ μ' := by
  have w0 := hw.1
  have w1 := hw.2.1
  have w2 := hw.2.2.1
  obtain ⟨N, hN⟩ : ∃ N : Nat, h 5 0 = (N : Int) := ⟨(h 5 0).toNat, by omega⟩
  have hNt : (h 5 0).toNat = N := by omega
  have m7 : μ 69 7 = h 5 1 := by rw [← hh]; rfl
  obtain ⟨μ1, a1, a2⟩ := vm_harv hY hw hk hvr w1 hh hL
  have hh1 : vm_h μ1 = h := (vm_h_fr a2.s).trans hh
  have n7 : μ1 69 7 = h 5 1 := by rw [← hh1]; rfl
  have n0 : μ1 69 0 = (N : Int) := by rw [← hN, ← hh1]; rfl
  have n8 : μ1 69 8 = h 5 2 := by rw [← hh1]; rfl
  rw [fX10_movesTo]
  simp only [m7]
  rw [vp_gdT (by omega), a1, vp_bind]
  simp only [n7]
  rw [vp_gdT (by omega)]
  unfold vk_gl
  rw [hNt]
  by_cases c : h 5 2 ≤ vk_hv kind v h cl wk mv (h 5 1)
  · refine ⟨μ1, ?_, a2⟩
    rw [if_pos c, fX10_movesTo_L29.eq_2, n0, vp_gdT (by omega), n8]
    unfold fX10_movesTo_B117
    by_cases d : (N : Int) ≤ 0
    · rw [if_pos d]
    · rw [if_neg d, vp_gdT (by omega), if_pos c]
  · obtain ⟨μ', k1, k2⟩ := vm_movesL (mv := mv) hY hw hk hvr hN c N 0 9000 μ1 (by omega) (by omega) hh1 (hL.z a2)
    refine ⟨μ', ?_, a2.tr k2⟩
    rw [if_neg c]
    exact k1
/-- a year by a rule in the reference -/
theorem vm_year {μ : vr_M} {h : vh_H} {cl : vl_C} {wk mv gr dr kind v gw Y : Int} (hY : Y ≤ 99998) (hw : vh_wf Y h) (hk : 0 ≤ kind ∧ kind ≤ 6) (hvr : 1 ≤ v ∧ v ≤ 30) (hh : vm_h μ = h) (hL : vm_L μ cl wk mv gr dr) :
    ∃ μ', fX10_yearBy kind v gw μ = some (vh_ha cl wk mv (vy_s kind v cl wk mv h) (vy_to kind v cl wk mv h) h, μ') ∧ vm_X μ μ' ∧ vm_h μ' = vy_h kind v cl wk mv gr gw h ∧ μ' 68 15 = (if vy_we kind v cl wk mv h = 0 then 1 else 0) ∧ μ' 68 16 = vh_mo (vy_to kind v cl wk mv h) h ∧ μ' 68 17 = vh_go h cl wk (vy_s kind v cl wk mv h) (vy_to kind v cl wk mv h) ∧ μ' 68 18 = h 5 2 := by
  have w0 := hw.1
  have w1 := hw.2.1
  have w2 := hw.2.2.1
  obtain ⟨μ1, a1, a2⟩ := vm_moves (by omega) hw hk hvr hh hL
  have hh1 : vm_h μ1 = h := (vm_h_fr a2.s).trans hh
  have hL1 := hL.z a2
  have ht := vk_gl_in (kind := kind) (v := v) (wk := wk) (mv := mv) hw hL.1.1 hL.2.2.2.1
  obtain ⟨μ2, b1, b2⟩ := vm_burnt (by omega) hw hk hvr ht hh1 hL1
  have z2 := a2.tr b2
  have hh2 : vm_h μ2 = h := (vm_h_fr z2.s).trans hh
  have hs := vk_pk_in (kind := kind) (v := v) (vi := vk_gl kind v h cl wk mv) (wk := wk) (by omega : Y ≤ 100000) hw hL.1.1 hk hvr ht
  have n7 : μ2 69 7 = h 5 1 := by rw [← hh2]; rfl
  have n8 : μ2 69 8 = h 5 2 := by rw [← hh2]; rfl
  generalize hM : vr_u (vr_u μ2 68 16 (vh_mo (vk_gl kind v h cl wk mv) h)) 68 18 (h 5 2) = M
  have zM : vm_Z μ2 M := by rw [← hM]; exact (vm_Z.u (by decide)).tr (vm_Z.u (by decide))
  have z3 := z2.tr zM
  have hh3 : vm_h M = h := (vm_h_fr z3.s).trans hh
  have hL3 := hL.z z3
  obtain ⟨μ4, c1, c2, c3⟩ := vm_sum (by omega) hw hs ht hh3 hL3
  have z4 := z3.tr (vm_Z.of c2 c3)
  generalize hM2 : vr_u μ4 68 17 (vh_go h cl wk (vk_pk kind v h cl wk (vk_gl kind v h cl wk mv)) (vk_gl kind v h cl wk mv)) = M2
  have zM2 : vm_Z μ4 M2 := by rw [← hM2]; exact vm_Z.u (by decide)
  have z5 := z4.tr zM2
  have hh5 : vm_h M2 = h := (vm_h_fr z5.s).trans hh
  have hL5 := hL.z z5
  obtain ⟨μ6, d1, d2, d3, d4⟩ := vm_goes (gw := gw) hY hw hs ht hh5 hL5
  have e18 : M2 68 18 = h 5 2 := by rw [← hM2, vp_uj (by decide), c3 18 (by decide) (by decide), ← hM, vp_us]
  have e17 : M2 68 17 = vh_go h cl wk (vk_pk kind v h cl wk (vk_gl kind v h cl wk mv)) (vk_gl kind v h cl wk mv) := by rw [← hM2, vp_us]
  have e16 : M2 68 16 = vh_mo (vk_gl kind v h cl wk mv) h := by rw [← hM2, vp_uj (by decide), c3 16 (by decide) (by decide), ← hM, vp_uj (by decide), vp_us]
  have hR := vh_ha_in (wk := wk) (mv := mv) (s := vk_pk kind v h cl wk (vk_gl kind v h cl wk mv)) (to := vk_gl kind v h cl wk mv) hw hL.1.1 hL.2.2.2.1
  have hmo : vh_mo (vk_gl kind v h cl wk mv) h = 0 ∨ vh_mo (vk_gl kind v h cl wk mv) h = 1 := by unfold vh_mo; split <;> simp
  have B36 : fX10_yearBy_B36 gw (vk_gl kind v h cl wk mv) (vk_pk kind v h cl wk (vk_gl kind v h cl wk mv)) (vh_mo (vk_gl kind v h cl wk mv) h) μ2 = some (vh_ha cl wk mv (vk_pk kind v h cl wk (vk_gl kind v h cl wk mv)) (vk_gl kind v h cl wk mv) h, vr_u μ6 68 15 (if vy_we kind v cl wk mv h = 0 then 1 else 0)) := by
    rw [fX10_yearBy_B36, vp_gdT hmo, vp_let]
    have e8 : vr_u μ2 68 16 (vh_mo (vk_gl kind v h cl wk mv) h) 69 8 = h 5 2 := by rw [vp_un (by decide), n8]
    rw [e8, hM, c1, vp_bind]
    dsimp only
    rw [hM2, d1, vp_bind]
    have f18 : μ6 68 18 = h 5 2 := by rw [d3 18 (by decide) (by decide), e18]
    simp only [f18]
    rw [vp_gdT (by omega)]
    unfold fX10_yearBy_B88 vy_we vh_we vy_s vy_to
    by_cases c : vh_ha cl wk mv (vk_pk kind v h cl wk (vk_gl kind v h cl wk mv)) (vk_gl kind v h cl wk mv) h < h 5 2
    · rw [if_neg (by omega), vp_gdT (by decide), if_pos c, if_pos rfl]
    · rw [if_pos (by omega), vp_gdT (by decide), if_neg c, if_neg (by decide)]
  refine ⟨vr_u μ6 68 15 (if vy_we kind v cl wk mv h = 0 then 1 else 0), ?_, (z5.x.tr d2).tr (vm_Z.u (by decide)).x, ?_, vp_us, ?_, ?_, ?_⟩
  · rw [fX10_yearBy, a1, vp_bind]
    dsimp only
    rw [b1, vp_bind]
    simp only [n7]
    rw [vp_gdT (by omega)]
    unfold vh_mo at B36
    by_cases c : vk_gl kind v h cl wk mv = h 5 1
    · rw [if_pos c] at B36
      rw [if_pos c, B36]
      rfl
    · rw [if_neg c] at B36
      rw [if_neg c, B36]
      rfl
  · rw [vm_h_fr (vp_uc (show 69 ≠ 68 by decide)), d4]
    rfl
  · rw [vp_uj (by decide), d3 16 (by decide) (by decide), e16]
    rfl
  · rw [vp_uj (by decide), d3 17 (by decide) (by decide), e17]
    rfl
  · rw [vp_uj (by decide), d3 18 (by decide) (by decide), e18]

theorem vm_safeL {cl : vl_C} {wk mv gr dr m w : Int} {nr : Nat} {rk rv : Nat → Int} {r : Nat} (hr9 : r < nr) :
    ∀ (d k n : Nat) (μ : vr_M) (h : vh_H) (Y : Int) (x4 x6 : Int64), (k : Int) + d = m → Y + d ≤ 99998 → vm_ru (μ 69) nr rk rv → vm_B μ h cl wk mv gr dr Y → m ≤ 300 →
      ∃ μ', fX10_safe_L54 (n + d) (r : Int) m w x4 x6 dr (k : Int) μ = fX10_safe_L54 n (r : Int) m w (vy_saf (rk r) (rv r) cl wk mv gr dr d h x4) (vp_x10 d x6) dr m μ' ∧ vm_X μ μ' := by
  intro d
  induction d with
  | zero =>
    intro k n μ h Y x4 x6 hd hY hr hb hm
    exact ⟨μ, by rw [show (k : Int) = m by omega]; rfl, vm_X.rf⟩
  | succ d ih =>
    intro k n μ h Y x4 x6 hd hY hr hb hm
    obtain ⟨b1, b2, b3⟩ := hb
    obtain ⟨q1, q2, q3, q4, q5, q6⟩ := vm_rk (s := μ 69) hr hr9
    have w2 := b2.2.2.1
    have hdr := b3.2.2.2.2.2
    have e3 : (k : Int) + 1 = ((k + 1 : Nat) : Int) := by omega
    obtain ⟨μ1, g1, g2, g3, g4, g5, g6, g7⟩ := vm_year (gw := 1) (by omega) b2 q3 q4 b1 b3
    obtain ⟨μ', k1, k2⟩ := ih (k + 1) n μ1 (vy_h (rk r) (rv r) cl wk mv gr 1 h) (Y + 1) (x4 * vr_i2l (vy_ten (rk r) (rv r) cl wk mv dr h)) (x6 * 10) (by omega) (by omega) (hr.x g2) ⟨g3, vy_h_wf b2 b3.1.1 b3.2.2.2.1 b3.2.2.2.2.1, b3.x g2⟩ hm
    refine ⟨μ', ?_, g2.tr k2⟩
    have hgo := vh_go_in (wk := wk) (s := vy_s (rk r) (rv r) cl wk mv h) (v := vy_to (rk r) (rv r) cl wk mv h) b2 b3.1.1
    have hco : 0 ≤ vh_co mv (vy_to (rk r) (rv r) cl wk mv h) h ∧ vh_co mv (vy_to (rk r) (rv r) cl wk mv h) h ≤ 99 := by
      have := b3.2.2.2.1
      unfold vh_co
      split <;> omega
    have hha : vh_ha cl wk mv (vy_s (rk r) (rv r) cl wk mv h) (vy_to (rk r) (rv r) cl wk mv h) h = vh_go h cl wk (vy_s (rk r) (rv r) cl wk mv h) (vy_to (rk r) (rv r) cl wk mv h) - vh_co mv (vy_to (rk r) (rv r) cl wk mv h) h := rfl
    have hdw : vy_dwe (rk r) (rv r) cl wk mv h = if vh_go h cl wk (vy_s (rk r) (rv r) cl wk mv h) (vy_to (rk r) (rv r) cl wk mv h) / 2 - vh_co mv (vy_to (rk r) (rv r) cl wk mv h) h < h 5 2 then 0 else 1 := rfl
    have hx : vh_go h cl wk (vy_s (rk r) (rv r) cl wk mv h) (vy_to (rk r) (rv r) cl wk mv h) - vh_ha cl wk mv (vy_s (rk r) (rv r) cl wk mv h) (vy_to (rk r) (rv r) cl wk mv h) h = vh_co mv (vy_to (rk r) (rv r) cl wk mv h) h := by omega
    have hvs : vy_saf (rk r) (rv r) cl wk mv gr dr (d + 1) h x4 = vy_saf (rk r) (rv r) cl wk mv gr dr d (vy_h (rk r) (rv r) cl wk mv gr 1 h) (x4 * vr_i2l (vy_ten (rk r) (rv r) cl wk mv dr h)) := rfl
    have hx10 : vp_x10 (d + 1) x6 = vp_x10 d (x6 * 10) := rfl
    have hten : vy_ten (rk r) (rv r) cl wk mv dr h = (if vy_we (rk r) (rv r) cl wk mv h = 0 then 0 else 10 - dr) + (if vy_dwe (rk r) (rv r) cl wk mv h = 0 then 0 else dr) := rfl
    have B114 : ∀ y1 : Int, fX10_safe_B114 (fX10_safe_L54 (n + d)) (r : Int) m w x6 dr (k : Int) (vh_co mv (vy_to (rk r) (rv r) cl wk mv h) h) x4 y1 μ1 = fX10_safe_L54 (n + d) (r : Int) m w (x4 * vr_i2l (y1 + (if vy_dwe (rk r) (rv r) cl wk mv h = 0 then 0 else dr))) (x6 * 10) dr ((k + 1 : Nat) : Int) μ1 := by
      intro y1
      unfold fX10_safe_B114 fX10_safe_B136
      simp only [g6, g7]
      rw [Int.tdiv_eq_ediv_of_nonneg hgo.1, vp_gdT (by omega), vp_gdT (by omega), vp_gdT (by omega), vp_gdT (by omega), vp_gdT (by omega), e3, hdw]
      by_cases c : vh_go h cl wk (vy_s (rk r) (rv r) cl wk mv h) (vy_to (rk r) (rv r) cl wk mv h) / 2 - vh_co mv (vy_to (rk r) (rv r) cl wk mv h) h < h 5 2
      · rw [if_neg (by omega), if_pos c, if_pos rfl]
      · rw [if_pos (by omega), if_neg c, if_neg (by decide)]
    rw [show n + (d + 1) = (n + d) + 1 by omega, fX10_safe_L54.eq_2, if_neg (by omega), vp_gdT q5, vp_gdT q6]
    simp only [q1, q2]
    rw [vp_gdT (by omega), vp_gdT (by omega), g1, vp_bind]
    simp only [g4, g6, hx]
    rw [hvs, hx10, ← k1, hten]
    by_cases c : vy_we (rk r) (rv r) cl wk mv h = 0
    · simp only [c, if_true]
      rw [vp_gdT (by decide), if_neg (by decide), vp_gdT (by omega), B114]
    · simp only [c, if_false]
      rw [vp_gdT (by decide), if_pos trivial, vp_gdT (by omega), vp_gdT (by omega), B114]
theorem vm_safe {μ : vr_M} {h : vh_H} {cl : vl_C} {wk mv gr dr Y : Int} {n : Nat} {rk rv : Nat → Int} (hY : Y ≤ 99000) (hb : vm_B μ h cl wk mv gr dr Y) (hr : vm_ru (μ 69) n rk rv) {i : Nat} (hi : i < n) {m w : Int} (hm : 1 ≤ m ∧ m ≤ 6) (hw : 0 ≤ w ∧ w ≤ 1) :
    ∃ μ', fX10_safe (i : Int) m w μ = fX10_safe_B170 (vy_saf (rk i) (rv i) cl wk mv gr dr m.toNat h 1) (vp_x10 m.toNat 1) (if w = 0 then vy_saf (rk i) (rv i) cl wk mv gr dr m.toNat h 1 else vp_x10 m.toNat 1) μ' ∧ vm_Y μ μ' ∧ μ' 69 = μ 69 := by
  obtain ⟨μ1, a1, a2, a3, a4⟩ := vm_keep μ
  obtain ⟨μ2, k1, k2⟩ := vm_safeL (m := m) (w := w) hi m.toNat 0 (9000 - m.toNat) μ1 h Y 1 1 (by omega) (by omega) (by rw [a3]; exact hr) (hb.fr a3) (by omega)
  rw [show 9000 - m.toNat + m.toNat = 9000 by omega] at k1
  obtain ⟨μ', g1, g2, g3, g4⟩ := vm_unk (a4.x k2)
  refine ⟨μ', ?_, ((vm_Y.k a2).tr k2.y).tr (vm_Y.s g2), g3⟩
  have k1' : fX10_safe_L54 9000 (i : Int) m w 1 1 dr 0 μ1 = _ := k1
  rw [fX10_safe, vm_rule hr rfl, vp_bind, if_pos (show 0 ≤ (i : Int) ∧ (i : Int) < (n : Int) by omega), if_neg (show ¬ (1 : Int) = 0 by decide), vm_inT hm, vp_bind, if_neg (show ¬ (1 : Int) = 0 by decide), vm_inT hw, vp_bind, if_pos (show ¬ (1 : Int) = 0 by decide)]
  dsimp only
  rw [(vm_tells hb.2.2).2.2.2, vp_bind, a1, vp_bind, k1']
  obtain ⟨q, hq⟩ : ∃ q, 9000 - m.toNat = q + 1 := ⟨8999 - m.toNat, by omega⟩
  rw [hq, fX10_safe_L54.eq_2, if_pos (by omega), g1, vp_bind]
  by_cases c : w = 0
  · rw [if_neg (fun z => z c), if_pos c]
  · rw [if_pos c, if_neg c]
theorem vm_twoL {h : vh_H} {cl : vl_C} {wk mv gr dr Y : Int} (hY : Y ≤ 99000) {v1 half : Int} (hv1 : 0 ≤ v1 ∧ v1 ≤ 40) {N : Nat} (hN : h 5 0 = (N : Int)) :
    ∀ (d i n : Nat) (c : Int) (μ : vr_M), i + d = 2 ^ N → d < n → (0 ≤ c ∧ c ≤ i) → vm_B μ h cl wk mv gr dr Y →
      ∃ μ', fX10_two_L42 n v1 half (2 ^ N - 1) c (i : Int) μ = some (vy_two h cl wk v1 half N d i c, μ') ∧ vm_Z μ μ' := by
  intro d
  induction d with
  | zero =>
    intro i n c μ hd hn hc hb
    obtain ⟨n, rfl⟩ : ∃ m, n = m + 1 := ⟨n - 1, by omega⟩
    have eP : ((2 ^ N : Nat) : Int) = (2 : Int) ^ N := by simp
    exact ⟨μ, by rw [fX10_two_L42.eq_2, if_pos (by omega)]; rfl, vm_Z.rf⟩
  | succ d ih =>
    intro i n c μ hd hn hc hb
    obtain ⟨n, rfl⟩ : ∃ m, n = m + 1 := ⟨n - 1, by omega⟩
    obtain ⟨b1, b2, b3⟩ := hb
    have w0 := b2.1
    have w1 := b2.2.1
    have hN8 : N ≤ 8 := by omega
    have h256 : 2 ^ N ≤ 2 ^ 8 := Nat.pow_le_pow_right (by decide) hN8
    have eP : ((2 ^ N : Nat) : Int) = (2 : Int) ^ N := by simp
    have m7 : μ 69 7 = h 5 1 := by rw [← b1]; rfl
    have e3 : (i : Int) + 1 = ((i + 1 : Nat) : Int) := by omega
    have hnot := vp_not (s := i) hN8 (by omega)
    obtain ⟨μ1, g1, g2, g3⟩ := vm_sum (by omega) b2 (s := (i : Int)) (by omega) w1 b1 b3
    have z1 := vm_Z.of g2 g3
    have hh1 : vm_h μ1 = h := (vm_h_fr z1.s).trans b1
    have L1 := b3.z z1
    obtain ⟨μ2, f1, f2, f3⟩ := vm_sum (by omega) b2 (s := 2 ^ N - 1 - (i : Int)) (by omega) hv1 hh1 L1
    have z2 := z1.tr (vm_Z.of f2 f3)
    have hh2 : vm_h μ2 = h := (vm_h_fr z2.s).trans b1
    have hB : ∀ (c' y : Int) (μ0 : vr_M), vm_Z μ μ0 → c' = c + y → 0 ≤ y ∧ y ≤ 1 → ∃ μ', fX10_two_B87 (fX10_two_L42 n) v1 half (2 ^ N - 1) (i : Int) c y μ0 = some (vy_two h cl wk v1 half N d (i + 1) c', μ') ∧ vm_Z μ μ' := by
      intro c' y μ0 z e hy
      obtain ⟨μ', k1, k2⟩ := ih (i + 1) n c' μ0 (by omega) (by omega) (by omega) ⟨(vm_h_fr z.s).trans b1, b2, b3.z z⟩
      refine ⟨μ', ?_, z.tr k2⟩
      rw [fX10_two_B87, vp_gdT (by omega), vp_gdT (by omega), e3, ← e, k1]
    rw [fX10_two_L42.eq_2, if_neg (by omega), m7, vp_gdT (by omega), g1, vp_bind, vy_two]
    unfold fX10_two_B86
    dsimp only
    by_cases c1 : vh_go h cl wk (i : Int) (h 5 1) < half
    · rw [if_pos c1, if_neg (by omega)]
      exact hB c 0 μ1 z1 (by omega) (by omega)
    · rw [if_neg c1, hnot, f1, vp_bind]
      by_cases c2 : vh_go h cl wk (2 ^ N - 1 - (i : Int)) v1 < half
      · rw [if_pos c2, if_neg (by omega)]
        exact hB c 0 μ2 z2 (by omega) (by omega)
      · rw [if_neg c2, if_pos (by omega)]
        exact hB (c + 1) 1 μ2 z2 (by omega) (by omega)
theorem vm_two {μ : vr_M} {h : vh_H} {cl : vl_C} {wk mv gr dr Y : Int} (hY : Y ≤ 99000) (hb : vm_B μ h cl wk mv gr dr Y) {v1 : Int} {N : Nat} (hN : h 5 0 = (N : Int)) :
    ∃ μ', fX10_two v1 μ = some (if 0 ≤ v1 ∧ v1 ≤ 40 then vy_two h cl wk v1 ((h 5 2 + 1) / 2) N (2 ^ N) 0 0 else -2, μ') ∧ vm_Z μ μ' := by
  rw [fX10_two]
  by_cases c : 0 ≤ v1 ∧ v1 ≤ 40
  · have w0 := hb.2.1.1
    have w2 := hb.2.1.2.2.1
    have hN8 : N ≤ 8 := by omega
    have h256 : 2 ^ N ≤ 2 ^ 8 := Nat.pow_le_pow_right (by decide) hN8
    have eP : ((2 ^ N : Nat) : Int) = (2 : Int) ^ N := by simp
    have m0 : μ 69 0 = (N : Int) := by rw [← hN, ← hb.1]; rfl
    have m8 : μ 69 8 = h 5 2 := by rw [← hb.1]; rfl
    have hsh : vr_shl 1 (N : Int) = 2 ^ N := vp_shl (by omega)
    obtain ⟨μ', k1, k2⟩ := vm_twoL (half := (h 5 2 + 1) / 2) hY c hN (2 ^ N) 0 9000 0 μ (by omega) (by omega) (by omega) hb
    refine ⟨μ', ?_, k2⟩
    rw [vm_inT c, vp_bind, if_pos (show ¬ (1 : Int) = 0 by decide)]
    simp only [m0, m8, hsh]
    have h8 := vp_p8 hN8
    have hp := vp_pow_nn N
    rw [Int.tdiv_eq_ediv_of_nonneg (by omega), vp_gdT (by omega), vp_gdT (by omega), vp_gdT (by omega), if_pos c]
    exact k1
  · refine ⟨μ, ?_, vm_Z.rf⟩
    rw [vm_inF c, vp_bind, if_neg c]
    rfl
theorem vm_wayL {h : vh_H} {cl : vl_C} {wk mv gr dr Y : Int} (hY : Y ≤ 99000) {x : Int} (hx : 0 ≤ x ∧ x ≤ 40) {N : Nat} (hN : h 5 0 = (N : Int)) :
    ∀ (d i n : Nat) (c : Int) (μ : vr_M), i + d = N → d < n → (-1000 * (i : Int) ≤ c ∧ c ≤ 1000 * (i : Int)) → vm_B μ h cl wk mv gr dr Y →
      ∃ μ', fX10_way_L17 n x c (i : Int) μ = some (vy_way h cl wk x N d i c, μ') ∧ vm_Z μ μ' := by
  intro d
  induction d with
  | zero =>
    intro i n c μ hd hn hc hb
    obtain ⟨n, rfl⟩ : ∃ m, n = m + 1 := ⟨n - 1, by omega⟩
    have w0 := hb.2.1.1
    have m0 : μ 69 0 = (N : Int) := by rw [← hN, ← hb.1]; rfl
    exact ⟨μ, by rw [fX10_way_L17.eq_2, vp_gdT (by omega), if_pos (by omega)]; rfl, vm_Z.rf⟩
  | succ d ih =>
    intro i n c μ hd hn hc hb
    obtain ⟨n, rfl⟩ : ∃ m, n = m + 1 := ⟨n - 1, by omega⟩
    obtain ⟨b1, b2, b3⟩ := hb
    have w0 := b2.1
    have w1 := b2.2.1
    have hwk := b3.2.2.1
    have m0 : μ 69 0 = (N : Int) := by rw [← hN, ← b1]; rfl
    have m7 : μ 69 7 = h 5 1 := by rw [← b1]; rfl
    have e3 : (i : Int) + 1 = ((i + 1 : Nat) : Int) := by omega
    have g1 := vh_gi_in (v := h 5 1) (wk := wk + x) (p := i) b2 b3.1.1 (by omega)
    have g2 := vh_gi_in (v := h 5 1) (wk := wk) (p := i) b2 b3.1.1 (by omega)
    obtain ⟨μ1, k1, k2, k3⟩ := vm_gives (wk := wk + x) (v := h 5 1) (p := i) (by omega) b1 b2 b3.1 (by omega) w1
    have z1 := vm_Z.of k2 k3
    have hh1 : vm_h μ1 = h := (vm_h_fr z1.s).trans b1
    have L1 := b3.z z1
    have n7 : μ1 69 7 = h 5 1 := by rw [← hh1]; rfl
    obtain ⟨μ2, f1, f2, f3⟩ := vm_gives (wk := wk) (v := h 5 1) (p := i) (by omega) hh1 b2 L1.1 (by omega) w1
    have z2 := z1.tr (vm_Z.of f2 f3)
    obtain ⟨μ', j1, j2⟩ := ih (i + 1) n (c + vh_gi h cl i (h 5 1) (wk + x) - vh_gi h cl i (h 5 1) wk) μ2 (by omega) (by omega) (by omega) ⟨(vm_h_fr z2.s).trans b1, b2, b3.z z2⟩
    refine ⟨μ', ?_, z2.tr j2⟩
    rw [fX10_way_L17.eq_2, vp_gdT (by omega), if_neg (by omega), (vm_tells b3).1, vp_bind, m7, vp_gdT (by omega)]
    dsimp only
    rw [vp_gdT (by omega), k1, vp_bind]
    dsimp only
    rw [(vm_tells L1).1, vp_bind]
    simp only [n7]
    rw [vp_gdT (by omega), f1, vp_bind]
    dsimp only
    rw [vp_gdT (by omega), vp_gdT (by omega), e3, show c + (vh_gi h cl i (h 5 1) (wk + x) - vh_gi h cl i (h 5 1) wk) = c + vh_gi h cl i (h 5 1) (wk + x) - vh_gi h cl i (h 5 1) wk by omega, j1]
    rfl
theorem vm_way {μ : vr_M} {h : vh_H} {cl : vl_C} {wk mv gr dr Y : Int} (hY : Y ≤ 99000) (hb : vm_B μ h cl wk mv gr dr Y) {x : Int} {N : Nat} (hN : h 5 0 = (N : Int)) :
    ∃ μ', fX10_way x μ = some (if 0 ≤ x ∧ x ≤ 40 then vy_way h cl wk x N N 0 0 else -2, μ') ∧ vm_Z μ μ' := by
  rw [fX10_way]
  by_cases c : 0 ≤ x ∧ x ≤ 40
  · have w0 := hb.2.1.1
    obtain ⟨μ', k1, k2⟩ := vm_wayL hY c hN N 0 9000 0 μ (by omega) (by omega) (by omega) hb
    refine ⟨μ', ?_, k2⟩
    rw [vm_inT c, vp_bind, if_pos (show ¬ (1 : Int) = 0 by decide), if_pos c]
    exact k1
  · refine ⟨μ, ?_, vm_Z.rf⟩
    rw [vm_inF c, vp_bind, if_neg c]
    rfl

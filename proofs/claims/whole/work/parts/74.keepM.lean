/-- rules, row and ages in the reference -/
def vm_ru (s : Nat → Int) (n : Nat) (rk rv : Nat → Int) : Prop := s 1 = (n : Int) ∧ n ≤ 8 ∧ ∀ i, i < n → (s (170 + i) = rk i ∧ s (178 + i) = rv i) ∧ (0 ≤ rk i ∧ rk i ≤ 6) ∧ 1 ≤ rv i ∧ rv i ≤ 30
def vm_ro (s : Nat → Int) (c : Nat) (row : Nat → Int) : Prop := s 5 = (c : Int) ∧ c ≤ 12 ∧ ∀ i, i < c → s (186 + i) = row i ∧ 0 ≤ row i ∧ row i ≤ 255
theorem vm_ru.x {μ μ' : vr_M} {n : Nat} {rk rv : Nat → Int} (h : vm_ru (μ 69) n rk rv) (e : vm_X μ μ') : vm_ru (μ' 69) n rk rv := by
  obtain ⟨h1, h2, h3⟩ := h
  refine ⟨by rw [e.2.2 1 (by unfold vm_hi; omega)]; exact h1, h2, fun i hi => ?_⟩
  rw [e.2.2 _ (by unfold vm_hi; omega), e.2.2 _ (by unfold vm_hi; omega)]
  exact h3 i hi
/-- what was kept -/
def vm_kp (s0 : Nat → Int) (μ : vr_M) : Prop := (∀ j, j < 933 → μ 71 j = s0 j) ∧ ∀ j, ¬ vm_hi j → μ 69 j = s0 j
theorem vm_kp.x {s0 : Nat → Int} {μ μ' : vr_M} (h : vm_kp s0 μ) (e : vm_X μ μ') : vm_kp s0 μ' :=
  ⟨fun j hj => by rw [e.1 71 (by decide)]; exact h.1 j hj, fun j hj => (e.2.2 j hj).trans (h.2 j hj)⟩
theorem vm_hi_lt {j : Nat} (h : 933 ≤ j) : ¬ vm_hi j := by unfold vm_hi; omega
theorem vm_unk {s0 : Nat → Int} {μ : vr_M} (h : vm_kp s0 μ) : ∃ μ', fX10_putsBack μ = some (0, μ') ∧ vp_fr [69] μ μ' ∧ μ' 69 = s0 ∧ vm_kp s0 μ' := by
  obtain ⟨μ', g1, g2, g3, g4⟩ := vm_back μ
  have e : μ' 69 = s0 := by
    funext j
    by_cases c : j < 933
    · rw [g3 j c, h.1 j c]
    · rw [g4 j (by omega), h.2 j (vm_hi_lt (by omega))]
  exact ⟨μ', g1, g2, e, fun j hj => by rw [g2 71 (by decide)]; exact h.1 j hj, fun j _ => by rw [e]⟩
theorem vm_keep (μ : vr_M) : ∃ μ', fX10_keeps μ = some (0, μ') ∧ vp_fr [71] μ μ' ∧ μ' 69 = μ 69 ∧ vm_kp (μ 69) μ' := by
  obtain ⟨μ', g1, g2, g3⟩ := vm_keeps μ
  have e : μ' 69 = μ 69 := g2 69 (by decide)
  exact ⟨μ', g1, g2, e, g3, fun j _ => by rw [e]⟩
/-- what a question leaves as it was in the reference -/
def vm_Y (μ μ' : vr_M) : Prop := vp_fr [68, 69, 71, 72, 73, 74, 75, 76] μ μ' ∧ ∀ j, j < 12 ∨ 18 < j → μ' 68 j = μ 68 j
theorem vm_Y.rf {μ : vr_M} : vm_Y μ μ := ⟨vp_fr.rf, fun _ _ => rfl⟩
theorem vm_Y.tr {μ μ1 μ' : vr_M} (h : vm_Y μ μ1) (g : vm_Y μ1 μ') : vm_Y μ μ' := ⟨h.1.tr g.1, fun j hj => (g.2 j hj).trans (h.2 j hj)⟩
theorem vm_X.y {μ μ' : vr_M} (h : vm_X μ μ') : vm_Y μ μ' := ⟨h.1.mono (by decide), h.2.1⟩
theorem vm_Y.k {μ μ' : vr_M} (h : vp_fr [71] μ μ') : vm_Y μ μ' := ⟨h.mono (by decide), fun j _ => by rw [h 68 (by decide)]⟩
theorem vm_Y.s {μ μ' : vr_M} (h : vp_fr [69] μ μ') : vm_Y μ μ' := ⟨h.mono (by decide), fun j _ => by rw [h 68 (by decide)]⟩
theorem vm_h_s {μ μ' : vr_M} (h : μ' 69 = μ 69) : vm_h μ' = vm_h μ := vm_h_fr h
/-- the base: the hill, the land that holds -/
def vm_B (μ : vr_M) (h : vh_H) (cl : vl_C) (wk mv gr dr Y : Int) : Prop := vm_h μ = h ∧ vh_wf Y h ∧ vm_L μ cl wk mv gr dr
theorem vm_B.fr {μ μ' : vr_M} {h : vh_H} {cl : vl_C} {wk mv gr dr Y : Int} (hb : vm_B μ h cl wk mv gr dr Y) (e : μ' 69 = μ 69) : vm_B μ' h cl wk mv gr dr Y := ⟨(vm_h_fr e).trans hb.1, hb.2.1, hb.2.2.fr e⟩
theorem vh_sp_50 {cl : vl_C} {gr gw s to : Int} {h : vh_H} : vh_sp cl gr gw s to h 5 0 = h 5 0 := by
  unfold vh_sp
  split <;> simp [vh_up, vh_pp5]
theorem vh_sp_51 {cl : vl_C} {gr gw s to : Int} {h : vh_H} : vh_sp cl gr gw s to h 5 1 = to := by
  unfold vh_sp
  split <;> simp [vh_up, vh_pp5]
theorem vm_judgeL {s0 : Nat → Int} {cl : vl_C} {wk mv gr dr v0 : Int} {N c : Nat} {row : Nat → Int} (hr : vm_ro s0 c row) (hv0 : 0 ≤ v0 ∧ v0 ≤ 40) :
    ∀ (d i n : Nat) (μ : vr_M) (h : vh_H) (Y : Int) (T : Nat → Int), i + d = c → d < n → Y + d ≤ 99998 → vm_kp s0 μ → vm_B μ h cl wk mv gr dr Y → h 5 0 = (N : Int) → h 5 1 = v0 → T 4 = (i : Int) → (T 5 = 0 ↔ T 6 = -5) → 0 ≤ T 5 → (-5 ≤ T 6 ∧ T 6 ≤ 5000) →
      ∃ μ', fX10_judged_L9 n (T 6) (i : Int) μ = some ((vj_it cl wk mv gr v0 N row d i (h, T)).2 6, μ') ∧ vm_Y μ μ' ∧ μ' 69 = s0 := by
  obtain ⟨r1, r2, r3⟩ := hr
  intro d
  induction d with
  | zero =>
    intro i n μ h Y T hd hn hY hk hb hN h1 t4 t56 t5 t6
    obtain ⟨n, rfl⟩ : ∃ m, n = m + 1 := ⟨n - 1, by omega⟩
    obtain ⟨μ', g1, g2, g3, g4⟩ := vm_unk hk
    have m5 : μ 71 5 = (c : Int) := by rw [hk.1 5 (by decide), r1]
    refine ⟨μ', ?_, vm_Y.s g2, g3⟩
    rw [fX10_judged_L9.eq_2, m5, vp_gdT (by omega), if_pos (by omega), g1, vp_bind]
    rfl
  | succ d ih =>
    intro i n μ h Y T hd hn hY hk hb hN h1 t4 t56 t5 t6
    obtain ⟨n, rfl⟩ : ∃ m, n = m + 1 := ⟨n - 1, by omega⟩
    obtain ⟨b1, b2, b3⟩ := hb
    have w0 := b2.1
    have w2 := b2.2.2.1
    have hN8 : N ≤ 8 := by omega
    obtain ⟨q1, q2, q3⟩ := r3 i (by omega)
    have m5 : μ 71 5 = (c : Int) := by rw [hk.1 5 (by decide), r1]
    have mr : μ 69 (186 + i) = row i := by rw [hk.2 _ (by unfold vm_hi; omega), q1]
    have m7 : μ 69 7 = v0 := by rw [← h1, ← b1]; rfl
    have m0 : μ 69 0 = (N : Int) := by rw [← hN, ← b1]; rfl
    have m8 : μ 69 8 = h 5 2 := by rw [← b1]; rfl
    have e186 : (186 + (i : Int)).toNat = 186 + i := by omega
    have e3 : (i : Int) + 1 = ((i + 1 : Nat) : Int) := by omega
    have hs := vp_modA (s := row i) hN8
    obtain ⟨μ1, g1, g2, g3, g4⟩ := vm_goes (gw := 1) (by omega) b2 hs hv0 b1 b3
    have hR := vh_ha_in (wk := wk) (mv := mv) (s := row i % 2 ^ N) (to := v0) b2 b3.1.1 b3.2.2.2.1
    have hw : vh_we cl wk mv (row i % 2 ^ N) v0 h = if vh_ha cl wk mv (row i % 2 ^ N) v0 h < h 5 2 then 0 else 1 := rfl
    generalize hT : vt_T T (vh_ha cl wk mv (row i % 2 ^ N) v0 h) (vh_we cl wk mv (row i % 2 ^ N) v0 h) (vh_dw cl wk mv (row i % 2 ^ N) v0 h) (vh_mo v0 h) = T'
    have t4' : T' 4 = T 4 + 1 := by rw [← hT]; rfl
    have t5' : T' 5 = T 5 + (if vh_we cl wk mv (row i % 2 ^ N) v0 h = 0 then 1 else 0) := by rw [← hT]; rfl
    have t6' : T' 6 = if vh_we cl wk mv (row i % 2 ^ N) v0 h = 0 ∧ T 5 = 0 then T 4 else T 6 := by rw [← hT]; rfl
    rw [hw] at t5' t6'
    obtain ⟨μ', k1, k2, k3⟩ := ih (i + 1) n μ1 (vh_sp cl gr 1 (row i % 2 ^ N) v0 h) (Y + 1) T' (by omega) (by omega) (by omega) (hk.x g2) ⟨g4, vh_sp_wf b2 hv0 b3.2.2.2.2.1, b3.x g2⟩ (by rw [vh_sp_50]; exact hN) vh_sp_51 (by omega) (by
      by_cases c : vh_ha cl wk mv (row i % 2 ^ N) v0 h < h 5 2
      · simp only [c, if_true, true_and] at t5' t6'
        by_cases z : T 5 = 0
        · rw [if_pos z] at t6'; omega
        · rw [if_neg z] at t6'; omega
      · simp only [c, if_false, Int.reduceEq, false_and] at t5' t6'
        omega) (by split at t5' <;> omega) (by split at t6' <;> omega)
    refine ⟨μ', ?_, g2.y.tr k2, k3⟩
    have hj : vj_it cl wk mv gr v0 N row (d + 1) i (h, T) = vj_it cl wk mv gr v0 N row d (i + 1) (vh_sp cl gr 1 (row i % 2 ^ N) v0 h, T') := by rw [← hT]; rfl
    rw [hj, fX10_judged_L9.eq_2, m5, vp_gdT (by omega), if_neg (by omega), vp_gdT (by omega), e186, mr]
    have hsh : vr_shl 1 (μ 69 0) - 1 = 2 ^ N - 1 := by rw [m0, vp_shl (by omega)]
    rw [hsh, vp_andA (by omega) hN8]
    simp only [m7, m8]
    rw [vp_gdT (by omega), g1, vp_bind]
    unfold fX10_judged_B78 fX10_judged_B79
    dsimp only
    rw [e3]
    by_cases z : T 6 = -5
    · have z5 := t56.mpr z
      rw [if_neg (fun q => q z), vp_gdT (by omega)]
      by_cases c : vh_ha cl wk mv (row i % 2 ^ N) v0 h < h 5 2
      · simp only [c, z5, if_true, and_self] at t6'
        rw [if_neg (by omega), vp_gdT (by omega), ← k1, t6', t4]
      · simp only [c, if_false, Int.reduceEq, false_and] at t6'
        rw [if_pos (by omega), vp_gdT (by omega), ← k1, t6']
    · have z5 : ¬ T 5 = 0 := fun q => z (t56.mp q)
      simp only [z5, and_false, if_false] at t6'
      rw [if_pos z, vp_gdT (by omega), ← k1, t6']
theorem vm_judged {μ : vr_M} {h : vh_H} {cl : vl_C} {wk mv gr dr Y : Int} {N c : Nat} {row : Nat → Int} (hY : Y ≤ 99000) (hb : vm_B μ h cl wk mv gr dr Y) (hN : h 5 0 = (N : Int)) (hr : vm_ro (μ 69) c row) :
    ∃ μ', fX10_judged μ = some ((vj_it cl wk mv gr (h 5 1) N row c 0 (h, vt_T0)).2 6, μ') ∧ vm_Y μ μ' ∧ μ' 69 = μ 69 := by
  obtain ⟨μ1, a1, a2, a3, a4⟩ := vm_keep μ
  have r2 := hr.2.1
  obtain ⟨μ', k1, k2, k3⟩ := vm_judgeL (cl := cl) (wk := wk) (mv := mv) (gr := gr) (dr := dr) (N := N) hr hb.2.1.2.1 c 0 9000 μ1 h Y vt_T0 (by omega) (by omega) (by omega) a4 (hb.fr a3) hN rfl rfl (by decide) (by decide) (by decide)
  refine ⟨μ', ?_, (vm_Y.k a2).tr k2, k3⟩
  rw [fX10_judged, a1, vp_bind]
  exact k1

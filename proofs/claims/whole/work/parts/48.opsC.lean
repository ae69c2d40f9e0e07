theorem vk_gl_in {kind v : Int} {h : vh_H} {cl : vl_C} {wk mv Y : Int} (hh : vh_wf Y h) (hw : vl_wf cl) (hm : 0 ≤ mv ∧ mv ≤ 99) : 0 ≤ vk_gl kind v h cl wk mv ∧ vk_gl kind v h cl wk mv ≤ 40 := by
  have h8 := hh.1
  unfold vk_gl
  split
  · exact hh.2.1
  · exact (vk_gp_in hh hw hm (h 5 0).toNat (by omega)).2
theorem vy_h_wf {kind v : Int} {h : vh_H} {cl : vl_C} {wk mv gr gw Y : Int} (hh : vh_wf Y h) (hw : vl_wf cl) (hm : 0 ≤ mv ∧ mv ≤ 99) (hg : 0 ≤ gr ∧ gr ≤ 99) : vh_wf (Y + 1) (vy_h kind v cl wk mv gr gw h) :=
  vh_sp_wf hh (vk_gl_in hh hw hm) hg
theorem vc_H_wf {kind v : Int} {h : vh_H} {cl : vl_C} {wk mv gr Y : Int} (hh : vh_wf Y h) (hw : vl_wf cl) (hm : 0 ≤ mv ∧ mv ≤ 99) (hg : 0 ≤ gr ∧ gr ≤ 99) : ∀ i : Nat, vh_wf (Y + i) (vc_H kind v cl wk mv gr h i)
  | 0 => by rw [show Y + ((0 : Nat) : Int) = Y by omega]; exact hh
  | i + 1 => by
    rw [show Y + ((i + 1 : Nat) : Int) = Y + (i : Int) + 1 by omega]
    exact vy_h_wf (vc_H_wf hh hw hm hg i) hw hm hg
theorem vh_ha_in {h : vh_H} {cl : vl_C} {wk mv s to Y : Int} (hh : vh_wf Y h) (hw : vl_wf cl) (hm : 0 ≤ mv ∧ mv ≤ 99) : -99 ≤ vh_ha cl wk mv s to h ∧ vh_ha cl wk mv s to h ≤ 7920 := by
  have := vh_go_in (wk := wk) (s := s) (v := to) hh hw
  unfold vh_ha vh_co
  split <;> omega
def vn_ru (μ : vr_M) (n : Nat) (rk rv : Nat → Int) : Prop := (μ 19 1 = (n : Int) ∧ μ 21 1 = (n : Int) ∧ n ≤ 8) ∧ ∀ i, i < n → (μ 20 i = rk i ∧ μ 22 i = rv i) ∧ (0 ≤ rk i ∧ rk i ≤ 6) ∧ 1 ≤ rv i ∧ rv i ≤ 30
theorem vn_ru.fr {S : List Nat} {μ μ' : vr_M} {n : Nat} {rk rv : Nat → Int} (h : vn_ru μ n rk rv) (f : vp_fr S μ μ') (hS : ∀ i, i < 4 → 19 + i ∉ S) : vn_ru μ' n rk rv := by
  unfold vn_ru at h ⊢
  rw [f 19 (hS 0 (by omega)), f 20 (hS 1 (by omega)), f 21 (hS 2 (by omega)), f 22 (hS 3 (by omega))]
  exact h
theorem vx_has {μ : vr_M} {n : Nat} {rk rv : Nat → Int} (h : vn_ru μ n rk rv) {a : Int} : fX8_hasRule 1 a μ = some (if 0 ≤ a ∧ a < (n : Int) then 1 else 0, μ) := by
  have h1 := h.1.1
  have h2 := h.1.2.2
  unfold fX8_hasRule fX8_hasRule_B19 fX8_hasRule_B20
  simp only [show 1 + 18 = 19 from rfl, h1]
  by_cases c : a < 0
  · rw [if_pos c, if_neg (by omega), vp_gdT (by decide)]
  · rw [if_neg c, vp_gdT (by omega)]
    by_cases c2 : (n : Int) ≤ a
    · rw [if_pos c2, if_neg (by omega), vp_gdT (by decide)]
    · rw [if_neg c2, if_pos (by omega), vp_gdT (by decide)]
theorem vx_hasT {μ : vr_M} {n : Nat} {rk rv : Nat → Int} (h : vn_ru μ n rk rv) {i : Nat} (hi : i < n) : fX8_hasRule 1 (i : Int) μ = some (1, μ) := by rw [vx_has h, if_pos (by omega)]
theorem vx_hasF {μ : vr_M} {n : Nat} {rk rv : Nat → Int} (h : vn_ru μ n rk rv) {a : Int} (ha : ¬ (0 ≤ a ∧ a < (n : Int))) : fX8_hasRule 1 a μ = some (0, μ) := by rw [vx_has h, if_neg ha]
theorem vo_follow {μ : vr_M} {n : Nat} {rk rv : Nat → Int} (h : vn_ru μ n rk rv) {i : Nat} (hi : i < n) :
    fX4_at 19 (i : Int) μ = some (rk i, μ) ∧ fX4_at 21 (i : Int) μ = some (rv i, μ) ∧ fX0_follow (rk i) (rv i) μ = some (0, vr_u (vr_u μ 58 2 (rk i)) 58 3 (rv i)) ∧ vt_K (vr_u (vr_u μ 58 2 (rk i)) 58 3 (rv i)) (rk i) (rv i) ∧ vp_fr [58] μ (vr_u (vr_u μ 58 2 (rk i)) 58 3 (rv i)) := by
  obtain ⟨⟨h1, h2, h3⟩, h4⟩ := h
  obtain ⟨⟨q1, q2⟩, q3, q4⟩ := h4 i hi
  have a1 := vn_get (k := 19) (i := i) (μ := μ) (by omega) (by omega) (by show i < 8; omega) (by rw [show 19 + 1 = 20 from rfl, q1]; omega)
  have a2 := vn_get (k := 21) (i := i) (μ := μ) (by omega) (by omega) (by show i < 8; omega) (by rw [show 21 + 1 = 22 from rfl, q2]; omega)
  rw [show 19 + 1 = 20 from rfl, q1] at a1
  rw [show 21 + 1 = 22 from rfl, q2] at a2
  exact ⟨a1, a2, rfl, ⟨by rw [vp_uj (by decide), vp_us], vp_us, q3, q4⟩, (vp_fr.u (by decide)).tr (vp_fr.u (by decide))⟩
theorem vo_begin {μ : vr_M} {h : vh_H} {cl : vl_C} {wk mv gr dr Y : Int} {n : Nat} {rk rv : Nat → Int} (hY : Y ≤ 99990) (hb : vt_B μ h cl wk mv gr dr Y) (hr : vn_ru μ n rk rv) {i : Nat} (hi : i < n) :
    ∃ μ', fX9_beginRule (i : Int) μ = some (0, μ') ∧ vp_fr vt_TR μ μ' ∧ vt_H μ' h cl Y ∧ vt_L μ' cl wk mv gr dr ∧ vt_K μ' (rk i) (rv i) ∧ vt_E (μ' 51) vt_T0 ∧ vt_R (μ' 51) 0 ∧ vt_B μ' h cl wk mv gr dr Y := by
  obtain ⟨a1, a2, a3, a4, a5⟩ := vo_follow hr hi
  have f1 : vp_fr vt_TR μ _ := a5.mono (T := vt_TR) (by decide)
  have hb1 := hb.fr f1 (by rw [a5 62 (by decide)]; exact hb.2.2.2)
  obtain ⟨μ', g1, g2, g3⟩ := vt_beg hY hb1 a4
  refine ⟨μ', ?_, f1.tr g2, g3⟩
  rw [fX9_beginRule, a1, vp_bind, a2, vp_bind, a3, vp_bind, g1, vp_bind]
/-- burns, moves: what a rule would choose now -/
theorem vo_burns {μ : vr_M} {h : vh_H} {cl : vl_C} {wk mv gr dr Y : Int} {n : Nat} {rk rv : Nat → Int} (hY : Y ≤ 99990) (hb : vt_B μ h cl wk mv gr dr Y) (hr : vn_ru μ n rk rv) {i : Nat} (hi : i < n) :
    ∃ μ', fX9_burns (i : Int) μ = some (vk_pk (rk i) (rv i) h cl wk (h 5 1), μ') ∧ vp_fr vt_TR μ μ' ∧ μ' 62 0 = 0 := by
  obtain ⟨μ1, g1, g2, g3, g4, g5, g6, g7, g8⟩ := vo_begin hY hb hr hi
  have m26 : μ1 2 6 = h 5 1 := by rw [← g8.2.1]; rfl
  have w1 := hb.2.2.1.2.1
  obtain ⟨μ', k1, k2, k3, -⟩ := vk_picks (by omega) w1 g4 g5 g3
  refine ⟨μ', ?_, g2.tr (k2.mono (by decide)), k3⟩
  rw [fX9_burns, vx_hasT hr hi, vp_bind, if_pos (show ¬ (1 : Int) = 0 by decide), g1, vp_bind]
  simp only [m26]
  rw [vp_gdT (by omega), k1, vp_bind]
theorem vo_moves {μ : vr_M} {h : vh_H} {cl : vl_C} {wk mv gr dr Y : Int} {n : Nat} {rk rv : Nat → Int} (hY : Y ≤ 99990) (hb : vt_B μ h cl wk mv gr dr Y) (hr : vn_ru μ n rk rv) {i : Nat} (hi : i < n) :
    ∃ μ', fX9_moves (i : Int) μ = some (vk_gl (rk i) (rv i) h cl wk mv, μ') ∧ vp_fr vt_TR μ μ' ∧ μ' 62 0 = 0 := by
  obtain ⟨μ1, g1, g2, g3, g4, g5, g6, g7, g8⟩ := vo_begin hY hb hr hi
  obtain ⟨μ', k1, k2, k3, -⟩ := vk_goal (by omega) g4 g5 g3
  refine ⟨μ', ?_, g2.tr (k2.mono (by decide)), k3⟩
  rw [fX9_moves, vx_hasT hr hi, vp_bind, if_pos (show ¬ (1 : Int) = 0 by decide), g1, vp_bind, k1, vp_bind]
theorem vo_go {μ : vr_M} {h : vh_H} {cl : vl_C} {wk mv gr dr Y : Int} {n : Nat} {rk rv : Nat → Int} (hY : Y ≤ 99000) (hb : vt_B μ h cl wk mv gr dr Y) (hr : vn_ru μ n rk rv) {i : Nat} (hi : i < n) {m : Int} (hm : 1 ≤ m ∧ m ≤ 30) :
    ∃ μ', fX9_go (i : Int) m μ = some ((vy_it (rk i) (rv i) cl wk mv gr 1 m.toNat (h, vt_T0)).2 5, μ') ∧ vp_fr ([2, 3, 4, 5, 6, 7] ++ vt_TR) μ μ' ∧ vt_B μ' (vy_hs (rk i) (rv i) cl wk mv gr 1 m.toNat h) cl wk mv gr dr (Y + m) := by
  obtain ⟨μ1, g1, g2, g3, g4, g5, g6, g7, g8⟩ := vo_begin (by omega) hb hr hi
  obtain ⟨μ2, k1, k2, k3, k4, k5, k6, k7⟩ := vt_yearsL (gr := gr) (x1 := m) (gw := 1) (by omega) m.toNat 0 9000 μ1 h Y 0 (by omega) (by omega) (by omega) (by omega) g4 g5 g3 g7
  have k1' : fX7_spendYears m 1 μ1 = some (0, μ2) := k1
  obtain ⟨μ3, j1, j2, j3⟩ := vh_become (k := 2) (k0 := 52) (fun i j hi hj => by omega) μ2
  have em : ((m.toNat : Nat) : Int) = m := by omega
  have e5 : μ3 51 5 = (vy_it (rk i) (rv i) cl wk mv gr 1 m.toNat (h, vt_T0)).2 5 := by
    rw [j2 51 (by decide), k4]
    exact (vy_it_E m.toNat h _ _ g6).2.2.1
  have hR5 : vr_R (μ3 51 5) := by
    rw [j2 51 (by decide)]
    have := k5.2.1
    omega
  refine ⟨μ3, ?_, ?_, ?_, ?_, ?_, ?_⟩
  · rw [fX9_go, vx_hasT hr hi, vp_bind, if_pos (show ¬ (1 : Int) = 0 by decide), vx_inT hm, vp_bind, if_pos (show ¬ (1 : Int) = 0 by decide), g1, vp_bind, k1', vp_bind, j1, vp_bind, vp_gdT hR5]
    simp only [e5]
  · exact ((g2.mono (T := [2, 3, 4, 5, 6, 7] ++ vt_TR) (by decide)).tr (k2.mono (by decide))).tr (j2.mono (by decide))
  · exact k6.fr j2 (by intro i hi; simp; omega)
  · rw [j3, k3.1, vy_it_hs]
  · rw [← vy_it_hs (T := μ1 51), ← em]
    exact k3.2.1
  · rw [j2 62 (by decide)]
    exact k3.2.2.2

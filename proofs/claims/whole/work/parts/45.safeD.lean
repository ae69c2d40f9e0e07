def vy_dwe (kind v : Int) (cl : vl_C) (wk mv : Int) (h : vh_H) : Int := vh_dw cl wk mv (vy_s kind v cl wk mv h) (vy_to kind v cl wk mv h) h
/-- of ten springs, those that feed -/
def vy_ten (kind v : Int) (cl : vl_C) (wk mv dr : Int) (h : vh_H) : Int := (if vy_we kind v cl wk mv h = 0 then 0 else 10 - dr) + (if vy_dwe kind v cl wk mv h = 0 then 0 else dr)
theorem vt_ten {μ : vr_M} {kind v : Int} {cl : vl_C} {wk mv dr : Int} {h : vh_H} {T : Nat → Int} (h51 : μ 51 = vy_T kind v cl wk mv h T) (hd : μ 8 8 = dr ∧ 0 ≤ dr ∧ dr ≤ 10) : fX7_fedOfTen μ = some (vy_ten kind v cl wk mv dr h, μ) := by
  have e9 : μ 51 9 = vy_we kind v cl wk mv h := by rw [h51]; rfl
  have e10 : μ 51 10 = vy_dwe kind v cl wk mv h := by rw [h51]; rfl
  have hw : vy_we kind v cl wk mv h = 0 ∨ vy_we kind v cl wk mv h = 1 := by unfold vy_we vh_we; split <;> simp
  have hm : vy_dwe kind v cl wk mv h = 0 ∨ vy_dwe kind v cl wk mv h = 1 := by unfold vy_dwe vh_dw; split <;> simp
  obtain ⟨d1, d2, d3⟩ := hd
  unfold fX7_fedOfTen fX7_fedOfTen_B21 fX7_fedOfTen_B39 vy_ten
  simp only [e9, e10, d1]
  rcases hw with w | w <;> rcases hm with m | m <;> simp only [w, m]
  · rw [vp_gdT (by decide), if_pos trivial, vp_gdT (by decide), if_pos trivial, vp_gdT (by decide)]; rfl
  · rw [vp_gdT (by decide), if_pos trivial, vp_gdT (by decide), if_neg (by decide), vp_gdT (by omega), vp_gdT (by omega)]; rfl
  · rw [vp_gdT (by decide), if_neg (by decide), vp_gdT (by omega), vp_gdT (by decide), if_pos trivial, vp_gdT (by omega)]; rfl
  · rw [vp_gdT (by decide), if_neg (by decide), vp_gdT (by omega), vp_gdT (by decide), if_neg (by decide), vp_gdT (by omega), vp_gdT (by omega)]; rfl
def vy_saf (kind v : Int) (cl : vl_C) (wk mv gr dr : Int) : Nat → vh_H → Int64 → Int64
  | 0, _, x => x
  | d + 1, h, x => vy_saf kind v cl wk mv gr dr d (vy_h kind v cl wk mv gr 1 h) (x * vr_i2l (vy_ten kind v cl wk mv dr h))
def vp_x10 : Nat → Int64 → Int64
  | 0, x => x
  | d + 1, x => vp_x10 d (x * 10)
theorem vt_safeL {cl : vl_C} {wk mv gr dr kind v : Int} {x2 x3 : Int} (hx2 : 0 ≤ x2 ∧ x2 ≤ 300) :
    ∀ (d i n : Nat) (μ : vr_M) (h : vh_H) (Y B : Int) (x4 x6 : Int64), x2 - (i : Int) = (d : Int) → Y + d ≤ 99990 → B + d ≤ 4990 → vt_L μ cl wk mv gr dr → vt_K μ kind v → vt_H μ h cl Y → vt_R (μ 51) B →
      ∃ μ', fX9_safe_L48 (n + d) x2 x3 x4 x6 (i : Int) μ = fX9_safe_L48 n x2 x3 (vy_saf kind v cl wk mv gr dr d h x4) (vp_x10 d x6) x2 μ' ∧ vp_fr vt_TR μ μ' ∧ μ' 62 0 = 0 := by
  intro d
  induction d with
  | zero =>
    intro i n μ h Y B x4 x6 hd hY hB hL hK hH hT
    exact ⟨μ, by rw [show (i : Int) = x2 by omega]; rfl, vp_fr.rf, hH.2.2.2⟩
  | succ d ih =>
    intro i n μ h Y B x4 x6 hd hY hB hL hK hH hT
    have e3 : (i : Int) + 1 = ((i + 1 : Nat) : Int) := by omega
    obtain ⟨μ1, k1, k2, k3, k4, k5, k6, k7⟩ := vt_yearsL (gr := gr) (x1 := 1) (gw := 1) (by omega) 1 0 9000 μ h Y B (by omega) (by omega) (by omega) (by omega) hL hK hH hT
    have k1' : fX7_spendYears 1 1 μ = some (0, μ1) := k1
    have k4' : μ1 51 = vy_T kind v cl wk mv h (μ 51) := k4
    have k3' : vt_H μ1 (vy_h kind v cl wk mv gr 1 h) cl (Y + 1) := k3
    have t := vt_ten k4' k6.2.2.2.2.2
    obtain ⟨μ', g1, g2, g3⟩ := ih (i + 1) n μ1 (vy_h kind v cl wk mv gr 1 h) (Y + 1) (B + 1) (x4 * vr_i2l (vy_ten kind v cl wk mv dr h)) (x6 * 10) (by omega) (by omega) (by omega) k6 k7 k3' k5
    have f1 : vp_fr vt_TR μ μ1 := k2.mono (by decide)
    refine ⟨μ', ?_, f1.tr g2, g3⟩
    rw [show n + (d + 1) = (n + d) + 1 by omega, fX9_safe_L48.eq_2, if_neg (by omega), k1']
    simp only [vp_bind]
    rw [t]
    simp only [vp_bind]
    rw [vp_gdT (by omega), e3, g1]
    rfl

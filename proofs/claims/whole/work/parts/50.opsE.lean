theorem vo_less {μ : vr_M} {h : vh_H} {cl : vl_C} {wk mv gr dr Y : Int} (hY : Y ≤ 99000) (hb : vt_B μ h cl wk mv gr dr Y) {m : Int} :
    ∃ μ', fX9_less m μ = some (if 1 ≤ m ∧ m ≤ 30 then vy_less cl wk mv gr m.toNat h 30 1 else -2, μ') ∧ vp_fr vt_TR μ μ' ∧ μ' 62 0 = 0 := by
  rw [fX9_less]
  by_cases c : 1 ≤ m ∧ m ≤ 30
  · obtain ⟨μ', k1, k2, k3⟩ := vt_lessL hY (by omega : 0 ≤ m ∧ m ≤ 300) 30 1 9000 μ (by omega) (by omega) (by omega) hb
    have k1' : fX9_less_L15 9000 m 1 μ = some (vy_less cl wk mv gr m.toNat h 30 1, μ') := k1
    refine ⟨μ', ?_, k2, k3⟩
    rw [vx_inT c, vp_bind, if_pos (show ¬ (1 : Int) = 0 by decide), k1', if_pos c]
  · refine ⟨μ, ?_, vp_fr.rf, hb.2.2.2⟩
    rw [vx_inF c, vp_bind, if_neg c]
    rfl
theorem vy_ten_in {kind v : Int} {cl : vl_C} {wk mv dr : Int} {h : vh_H} (hd : 0 ≤ dr ∧ dr ≤ 10) : 0 ≤ vy_ten kind v cl wk mv dr h ∧ vy_ten kind v cl wk mv dr h ≤ 10 := by
  unfold vy_ten
  split <;> split <;> omega
theorem vp_i2l {t : Int} (h : 0 ≤ t ∧ t ≤ 10) : (vr_i2l t).toInt = t := by
  rcases (show t = 0 ∨ t = 1 ∨ t = 2 ∨ t = 3 ∨ t = 4 ∨ t = 5 ∨ t = 6 ∨ t = 7 ∨ t = 8 ∨ t = 9 ∨ t = 10 by omega) with rfl | rfl | rfl | rfl | rfl | rfl | rfl | rfl | rfl | rfl | rfl <;> rfl
theorem vp_lmul {x y : Int64} (hx : 0 ≤ x.toInt ∧ x.toInt ≤ 1000000) (hy : 0 ≤ y.toInt ∧ y.toInt ≤ 10) : (x * y).toInt = x.toInt * y.toInt := by
  have h1 : 0 ≤ x.toInt * y.toInt := Int.mul_nonneg hx.1 hy.1
  have h2 : x.toInt * y.toInt ≤ 1000000 * 10 := Int.mul_le_mul hx.2 hy.2 hy.1 (by decide)
  rw [Int64.toInt_mul, Int.bmod_eq_of_le (by omega) (by omega)]
theorem vp_x10_in : ∀ (d : Nat) (x : Int64), 0 < x.toInt ∧ x.toInt * 10 ^ d ≤ 1000000 → 0 < (vp_x10 d x).toInt ∧ (vp_x10 d x).toInt ≤ 1000000
  | 0, x, h => by simp only [vp_x10]; omega
  | d + 1, x, h => by
    have e : x.toInt * 10 ^ (d + 1) = (x.toInt * 10) * 10 ^ d := by rw [Int.pow_succ, Int.mul_comm (10 ^ d) 10, Int.mul_assoc]
    have p1 : (1 : Int) ≤ 10 ^ d := by have : (0 : Int) < 10 ^ d := Int.pow_pos (by decide); omega
    have p2 : x.toInt * 1 ≤ x.toInt * 10 ^ (d + 1) := Int.mul_le_mul_of_nonneg_left (by have : (0 : Int) < 10 ^ (d + 1) := Int.pow_pos (by decide); omega) (by omega)
    have m := vp_lmul (x := x) (y := 10) (by omega) (by decide)
    have t10 : (10 : Int64).toInt = 10 := rfl
    rw [vp_x10]
    refine vp_x10_in d (x * 10) ?_
    rw [m, t10]
    omega
theorem vy_saf_in {kind v : Int} {cl : vl_C} {wk mv gr dr : Int} (hd : 0 ≤ dr ∧ dr ≤ 10) : ∀ (d : Nat) (h : vh_H) (x : Int64), 0 ≤ x.toInt ∧ x.toInt * 10 ^ d ≤ 1000000 → 0 ≤ (vy_saf kind v cl wk mv gr dr d h x).toInt
  | 0, _, x, h => by simp only [vy_saf]; omega
  | d + 1, h, x, hx => by
    have e : x.toInt * 10 ^ (d + 1) = (x.toInt * 10) * 10 ^ d := by rw [Int.pow_succ, Int.mul_comm (10 ^ d) 10, Int.mul_assoc]
    have p2 : x.toInt * 1 ≤ x.toInt * 10 ^ (d + 1) := Int.mul_le_mul_of_nonneg_left (by have : (0 : Int) < 10 ^ (d + 1) := Int.pow_pos (by decide); omega) (by omega)
    have t := vy_ten_in (kind := kind) (v := v) (cl := cl) (wk := wk) (mv := mv) (h := h) hd
    have i := vp_i2l t
    have m := vp_lmul (x := x) (y := vr_i2l (vy_ten kind v cl wk mv dr h)) (by omega) (by omega)
    rw [i] at m
    rw [vy_saf]
    refine vy_saf_in hd d _ _ ?_
    rw [m]
    have h1 : 0 ≤ x.toInt * vy_ten kind v cl wk mv dr h := Int.mul_nonneg hx.1 t.1
    have h2 : x.toInt * vy_ten kind v cl wk mv dr h ≤ x.toInt * 10 := Int.mul_le_mul_of_nonneg_left t.2 hx.1
    have h3 : x.toInt * vy_ten kind v cl wk mv dr h * 10 ^ d ≤ x.toInt * 10 * 10 ^ d := Int.mul_le_mul_of_nonneg_right h2 (Int.le_of_lt (Int.pow_pos (by decide)))
    omega
theorem vo_safe {μ : vr_M} {h : vh_H} {cl : vl_C} {wk mv gr dr Y : Int} {n : Nat} {rk rv : Nat → Int} (hY : Y ≤ 99000) (hb : vt_B μ h cl wk mv gr dr Y) (hr : vn_ru μ n rk rv) {i : Nat} (hi : i < n) {m w : Int} (hm : 1 ≤ m ∧ m ≤ 6) (hw : 0 ≤ w ∧ w ≤ 1) :
    ∃ μ' N, fX9_safe (i : Int) m w μ = fX9_safe_L48 (N + 1) m w (vy_saf (rk i) (rv i) cl wk mv gr dr m.toNat h 1) (vp_x10 m.toNat 1) m μ' ∧ vp_fr vt_TR μ μ' ∧ μ' 62 0 = 0 := by
  obtain ⟨μ1, g1, g2, g3, g4, g5, g6, g7, g8⟩ := vo_begin (by omega) hb hr hi
  obtain ⟨μ', k1, k2, k3⟩ := vt_safeL (gr := gr) (x2 := m) (x3 := w) (by omega) m.toNat 0 (9000 - m.toNat) μ1 h Y 0 1 1 (by omega) (by omega) (by omega) g4 g5 g3 g7
  refine ⟨μ', 8999 - m.toNat, ?_, g2.tr k2, k3⟩
  rw [show 9000 - m.toNat + m.toNat = 9000 by omega] at k1
  rw [fX9_safe, vx_hasT hr hi, vp_bind, if_neg (show ¬ (1 : Int) = 0 by decide), vx_inT hm, vp_bind, if_neg (show ¬ (1 : Int) = 0 by decide), vx_inT hw, vp_bind, if_pos (show ¬ (1 : Int) = 0 by decide), g1, vp_bind, show 8999 - m.toNat + 1 = 9000 - m.toNat by omega]
  exact k1
theorem vo_gives {μ : vr_M} {h : vh_H} {cl : vl_C} {wk mv gr dr Y : Int} (hY : Y ≤ 99000) (hb : vt_B μ h cl wk mv gr dr Y) {a : Int} :
    ∃ μ', fX9_gives a μ = some (if 0 ≤ a ∧ a < h 5 0 then vh_gi h cl a.toNat (h 5 1) wk else -1, μ') ∧ vp_fr vt_TR μ μ' ∧ μ' 62 0 = 0 := by
  have w0 := hb.2.2.1.1
  have w1 := hb.2.2.1.2.1
  have m25 : μ 2 5 = h 5 0 := by rw [← hb.2.1]; rfl
  by_cases c : 0 ≤ a ∧ a < h 5 0
  · obtain ⟨p, rfl⟩ : ∃ p : Nat, a = (p : Int) := ⟨a.toNat, by omega⟩
    have hh : fX2_has 2 (p : Int) μ = some (1, μ) := by rw [vp_has (by rw [m25]; omega), if_pos (by rw [m25]; omega)]
    obtain ⟨μ1, g1, g2, g3, g4, g5, g6, g7⟩ := vt_beg0 (by omega) hb
    have m26 : μ1 2 6 = h 5 1 := by rw [← g7.2.1]; rfl
    have m52 : μ1 52 5 = h 5 0 := by rw [← g3.1]; rfl
    have hwk := g4.2.2.1
    have hg := vh_gift (cl := cl) (Y := Y) (μ := μ1) (by omega) g4.1 (by rw [g3.1]; exact g3.2.1) g3.2.2.1 (p := p) (v := h 5 1) (wk := wk) (by omega) (by omega) (by omega)
    rw [m52, if_pos c.2, g3.1] at hg
    refine ⟨μ1, ?_, g2.mono (by decide), g3.2.2.2⟩
    rw [fX9_gives, hh, vp_bind, if_pos (show ¬ (1 : Int) = 0 by decide), g1, vp_bind]
    simp only [m26, hwk.1]
    rw [vp_gdT (by omega), vp_gdT (by omega), hg, vp_bind, if_pos c]
    rfl
  · have hh : fX2_has 2 a μ = some (0, μ) := by rw [vp_has (by rw [m25]; omega), if_neg (by rw [m25]; omega)]
    refine ⟨μ, ?_, vp_fr.rf, hb.2.2.2⟩
    rw [fX9_gives, hh, vp_bind, if_neg c]
    rfl

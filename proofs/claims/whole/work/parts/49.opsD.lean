theorem vo_proof {μ : vr_M} {h : vh_H} {cl : vl_C} {wk mv gr dr Y : Int} {n : Nat} {rk rv : Nat → Int} (hY : Y ≤ 99000) (hb : vt_B μ h cl wk mv gr dr Y) (hr : vn_ru μ n rk rv) {i : Nat} (hi : i < n) {m w : Int} (hm : 1 ≤ m ∧ m ≤ 30) (hw : 0 ≤ w ∧ w ≤ 2) :
    ∃ μ', fX9_proof (i : Int) m w μ = some (if w = 2 then vy_most (rk i) (rv i) cl wk mv gr m.toNat h 99 else if w = 0 then (vy_it (rk i) (rv i) cl wk mv gr 1 m.toNat (h, vt_T0)).2 6 else (vy_it (rk i) (rv i) cl wk mv gr 1 m.toNat (h, vt_T0)).2 7, μ') ∧ vp_fr vt_TR μ μ' ∧ μ' 62 0 = 0 := by
  obtain ⟨a1, a2, a3, a4, a5⟩ := vo_follow hr hi
  have f1 : vp_fr vt_TR μ (vr_u (vr_u μ 58 2 (rk i)) 58 3 (rv i)) := a5.mono (T := vt_TR) (by decide)
  have hb1 := hb.fr f1 (by rw [a5 62 (by decide)]; exact hb.2.2.2)
  have e0 : fX9_proof (i : Int) m w μ = (if ¬ w = 2 then (fX7_begin (vr_u (vr_u μ 58 2 (rk i)) 58 3 (rv i))).bind (fun r7 => (fX7_spendYears m 1 r7.2).bind (fun r8 => if ¬ w = 0 then vr_gd (vr_R (r8.2 51 7)) (fX9_proof_B115 (r8.2 51 7) r8.2) else vr_gd (vr_R (r8.2 51 6)) (fX9_proof_B115 (r8.2 51 6) r8.2))) else (fX9_mostMouths m (vr_u (vr_u μ 58 2 (rk i)) 58 3 (rv i))).bind (fun r11 => some (r11.1, r11.2))) := by
    rw [fX9_proof, vx_hasT hr hi, vp_bind, if_neg (show ¬ (1 : Int) = 0 by decide), vx_inT hw, vp_bind, if_pos (show ¬ (1 : Int) = 0 by decide), vx_inT hm, vp_bind, if_pos (show ¬ (1 : Int) = 0 by decide), a1, vp_bind, a2, vp_bind, a3, vp_bind]
  rw [e0]
  by_cases c2 : w = 2
  · obtain ⟨μ', k1, k2, k3⟩ := vt_most hY (by omega : 0 ≤ m ∧ m ≤ 300) hb1 a4
    refine ⟨μ', ?_, f1.tr k2, k3⟩
    rw [if_neg (by omega), k1, vp_bind, if_pos c2]
  · obtain ⟨μ1, μ', k1, k2, k3, k4, k5, k6, k7, -⟩ := vt_run (gw := 1) hY hb1 a4 (by omega : 0 ≤ m ∧ m ≤ 300)
    refine ⟨μ', ?_, f1.tr k3, k7.2.2.2⟩
    rw [if_pos c2, k1, vp_bind, k2, vp_bind, if_neg c2]
    by_cases c0 : w = 0
    · rw [if_neg (by omega), if_pos c0, fX9_proof_B115]
      simp only [k5.2.2.1]
      sorry
    · rw [if_pos c0, if_neg c0, fX9_proof_B115]
      simp only [k5.2.2.2]
      sorry

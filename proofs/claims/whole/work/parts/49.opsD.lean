theorem vy_it_6 {kind v : Int} {cl : vl_C} {wk mv gr gw : Int} : ∀ (m : Nat) (h : vh_H) (T : Nat → Int) (B : Int), 0 ≤ T 4 ∧ T 4 ≤ B → -5 ≤ T 6 ∧ T 6 ≤ B → -5 ≤ (vy_it kind v cl wk mv gr gw m (h, T)).2 6 ∧ (vy_it kind v cl wk mv gr gw m (h, T)).2 6 ≤ B + m
  | 0, _, _, _, _, h6 => by simp only [vy_it]; omega
  | m + 1, h, T, B, h4, h6 => by
    rw [vy_it]
    have e4 : vy_T kind v cl wk mv h T 4 = T 4 + 1 := rfl
    have e6 : vy_T kind v cl wk mv h T 6 = if vh_we cl wk mv (vy_s kind v cl wk mv h) (vy_to kind v cl wk mv h) h = 0 ∧ T 5 = 0 then T 4 else T 6 := rfl
    have h6' : -5 ≤ vy_T kind v cl wk mv h T 6 ∧ vy_T kind v cl wk mv h T 6 ≤ B + 1 := by
      rw [e6]
      split <;> omega
    have := vy_it_6 (kind := kind) (v := v) (cl := cl) (wk := wk) (mv := mv) (gr := gr) (gw := gw) m (vy_h kind v cl wk mv gr gw h) (vy_T kind v cl wk mv h T) (B + 1) (by rw [e4]; omega) h6'
    refine ⟨this.1, ?_⟩
    rw [show B + ((m + 1 : Nat) : Int) = B + 1 + (m : Int) by omega]
    exact this.2
theorem vo_proof {μ : vr_M} {h : vh_H} {cl : vl_C} {wk mv gr dr Y : Int} {n : Nat} {rk rv : Nat → Int} (hY : Y ≤ 99000) (hb : vt_B μ h cl wk mv gr dr Y) (hr : vn_ru μ n rk rv) {i : Nat} (hi : i < n) {m w : Int} (hm : 1 ≤ m ∧ m ≤ 30) (hw : 0 ≤ w ∧ w ≤ 2) :
    ∃ μ', fX9_proof (i : Int) m w μ = some (if w = 2 then vy_most (rk i) (rv i) cl wk mv gr m.toNat h 99 else if w = 0 then (vy_it (rk i) (rv i) cl wk mv gr 1 m.toNat (h, vt_T0)).2 6 else (vy_it (rk i) (rv i) cl wk mv gr 1 m.toNat (h, vt_T0)).2 7, μ') ∧ vp_fr vt_TR μ μ' ∧ μ' 62 0 = 0 := by
  obtain ⟨a1, a2, a3, a4, a5⟩ := vo_follow hr hi
  have f1 : vp_fr vt_TR μ (vr_u (vr_u μ 58 2 (rk i)) 58 3 (rv i)) := a5.mono (T := vt_TR) (by decide)
  have hb1 := hb.fr f1 (by rw [a5 62 (by decide)]; exact hb.2.2.2)
  have e0 : fX9_proof (i : Int) m w μ = (if ¬ w = 2 then (fX7_begin (vr_u (vr_u μ 58 2 (rk i)) 58 3 (rv i))).bind (fun r7 => (fX7_spendYears m 1 r7.2).bind (fun r8 => if ¬ w = 0 then vr_gd (vr_R (r8.2 51 7)) (fX9_proof_B115 (r8.2 51 7) r8.2) else vr_gd (vr_R (r8.2 51 6)) (fX9_proof_B115 (r8.2 51 6) r8.2))) else (fX9_mostMouths m (vr_u (vr_u μ 58 2 (rk i)) 58 3 (rv i))).bind (fun r11 => some (r11.1, r11.2))) := by
    rw [fX9_proof, vx_hasT hr hi, vp_bind, if_neg (show ¬ (1 : Int) = 0 by decide), vx_inT hw, vp_bind, if_pos (show ¬ (1 : Int) = 0 by decide), vx_inT hm, vp_bind, if_pos (show ¬ (1 : Int) = 0 by decide), a1, vp_bind, a2, vp_bind, a3, vp_bind]
  rw [e0]
  by_cases c2 : w = 2
  · obtain ⟨μ', k1, k2, k3⟩ := vt_most hY (by omega : 0 ≤ m ∧ m ≤ 300) hb1 a4
    refine ⟨μ', ?_, f1.tr k2, k3⟩
    rw [if_neg (by omega), k1, vp_bind, if_pos c2]
  · obtain ⟨μ1, μ', k1, k2, k3, k4, k5, k6, k7, -⟩ := vt_run (gw := 1) hY hb1 a4 (by omega : 0 ≤ m ∧ m ≤ 300)
    refine ⟨μ', ?_, f1.tr k3, k7.2.2.2⟩
    rw [if_pos c2, k1, vp_bind, k2, vp_bind, if_neg c2]
    by_cases c0 : w = 0
    · rw [if_neg (by omega), if_pos c0, fX9_proof_B115]
      have r := vy_it_6 (kind := rk i) (v := rv i) (cl := cl) (wk := wk) (mv := mv) (gr := gr) (gw := 1) m.toNat h vt_T0 0 (by decide) (by decide)
      simp only [k5.2.2.1]
      rw [vp_gdT (by omega)]
    · rw [if_pos c0, if_neg c0, fX9_proof_B115]
      have r := k6.2.2
      have e := k5.2.2.2
      rw [e] at r
      simp only [e]
      rw [vp_gdT (by omega)]
theorem vo_ever {μ : vr_M} {h : vh_H} {cl : vl_C} {wk mv gr dr Y : Int} {n : Nat} {rk rv : Nat → Int} (hY : Y ≤ 98000) (hb : vt_B μ h cl wk mv gr dr Y) (hr : vn_ru μ n rk rv) {i : Nat} (hi : i < n) {w : Int} (hw : 0 ≤ w ∧ w ≤ 2) :
    ∃ μ', fX9_ever (i : Int) w μ = some ((match vc_cl (vc_K (rk i) (rv i) cl wk mv gr h) 201 0 with
      | none => (-9 : Int)
      | some (s, e) => if w = 0 then (e : Int) else if w = 1 then (e : Int) - (s : Int) else vc_lh (vc_hv (rk i) (rv i) cl wk mv gr h) (e - s) s 2147483647), μ') ∧ vp_fr (63 :: 64 :: 65 :: vt_TR) μ μ' ∧ μ' 62 0 = 0 := by
  obtain ⟨μ1, g1, g2, g3, g4, g5, g6, g7, g8⟩ := vo_begin (by omega) hb hr hi
  have hmv := hb.1.2.2.2.1.2
  have hgr := hb.1.2.2.2.2.1.2
  have hwf := vc_H_wf (kind := rk i) (v := rv i) (wk := wk) (mv := mv) (gr := gr) hb.2.2.1 hb.1.1 hmv hgr
  obtain ⟨μ2, k1, k2, k3⟩ := vc_closeL (kind := rk i) (v := rv i) (gr := gr) (h0 := h) (Y := Y) (by omega) (fun i _ => hwf i) 201 0 9000 μ1 (by omega) (by omega) g4 g5 (by rw [show Y + ((0 : Nat) : Int) = Y by omega]; exact g3) g7 (fun a t ha => by omega) (fun a ha => by omega)
  have f2 : vp_fr (63 :: 64 :: 65 :: vt_TR) μ μ2 := (g2.mono (by decide)).tr k1
  refine ⟨μ2, ?_, f2, k2⟩
  rw [fX9_ever, vx_hasT hr hi, vp_bind, if_neg (show ¬ (1 : Int) = 0 by decide), vx_inT hw, vp_bind, if_pos (show ¬ (1 : Int) = 0 by decide), g1, vp_bind]
  rcases k3 with ⟨q1, q2⟩ | ⟨s, e, q1, q2, q3, q4, q5, q6, q7⟩
  · have q2' : fX1_closes μ1 = some (0, μ2) := q2
    rw [q2', vp_bind, if_neg (show ¬ ¬ (0 : Int) = 0 by decide), q1]
  · have q4' : fX1_closes μ1 = some (1, μ2) := q4
    rw [q4', vp_bind, if_pos (show ¬ (1 : Int) = 0 by decide), q1]
    dsimp only
    by_cases c0 : w = 0
    · rw [if_neg (by omega), if_pos c0, fX9_ever_B84]
      simp only [q6]
      rw [vp_gdT (by omega)]
    · rw [if_pos c0, if_neg c0]
      by_cases c1 : w = 1
      · rw [if_neg (by omega), if_pos c1, fX9_ever_B84]
        simp only [q5, q6]
        rw [vp_gdT (by omega)]
      · rw [if_pos c1, if_neg c1]
        have hR : ∀ a, a < e → vr_R (vc_hv (rk i) (rv i) cl wk mv gr h a) := fun a ha => by
          have := vh_ha_in (wk := wk) (mv := mv) (s := vy_s (rk i) (rv i) cl wk mv (vc_H (rk i) (rv i) cl wk mv gr h a)) (to := vy_to (rk i) (rv i) cl wk mv (vc_H (rk i) (rv i) cl wk mv gr h a)) (hwf a) hb.1.1 hmv
          unfold vc_hv
          omega
        have l' := vc_least (μ := μ2) q2 q3 q5 q6 q7 hR
        rw [l', vp_bind, fX9_ever_B84]

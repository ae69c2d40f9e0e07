theorem vm_worn {μ : vr_M} {h : vh_H} {cl : vl_C} {Y : Int} {p : Nat} (hY : Y ≤ 100000) (hh : vm_h μ = h) (hw : vh_wf Y h) (ha : vm_at μ cl) (hp : p < 8) :
    ∃ μ', fX10_wornThen (p : Int) μ = some (vh_wt h cl p, μ') ∧ vp_fr [68, 72, 73] μ μ' ∧ ∀ j, j ≠ 12 → j ≠ 13 → μ' 68 j = μ 68 j := by
  have p2 := vm_hf hh (f := 2) (by decide) hp
  have p4 := vm_hf hh (f := 4) (by decide) hp
  have wp := hw.2.2.2.2 p hp
  have e146 : (146 + (p : Int)).toNat = 130 + 8 * 2 + p := by omega
  have e162 : (162 + (p : Int)).toNat = 130 + 8 * 4 + p := by omega
  unfold fX10_wornThen
  rw [vp_gdT (by omega)]
  simp only [e146, e162, p2, p4]
  rw [vp_gdT (by omega)]
  unfold vh_wt
  by_cases c : h 2 p ≤ 0
  · obtain ⟨μ', g1, g2, g3, g4, g5⟩ := vm_looks (c := 1) (w := h 4 p) hY hh hw ha hp (by decide) (by omega)
    have q4 : μ' 69 (130 + 8 * 4 + p) = h 4 p := by rw [g2 69 (by decide)]; exact p4
    refine ⟨μ', ?_, g2, g5⟩
    rw [if_pos c, vp_gdT (by omega), vp_gdT (by omega), g1, vp_bind, if_neg (show ¬ 0 < h 2 p by omega)]
    unfold fX10_wornThen_B77 fX10_wornThen_B87
    simp only [e162, q4, g4]
    by_cases d : vl_wr (vh_sn h p 1 (h 4 p)) cl = true
    · simp only [d, if_true]
      rw [vp_gdT (by decide), if_neg (by decide), vp_gdT (by omega)]
      by_cases m : 9 ≤ h 4 p
      · rw [if_pos m, vp_gdT (by omega), vp_gdT (by omega), show min (h 4 p + 1) 9 = h 4 p by omega]
      · rw [if_neg m, vp_gdT (by omega), show min (h 4 p + 1) 9 = h 4 p + 1 by omega]
    · simp only [d, if_false]
      rw [vp_gdT (by decide), if_pos (by simp), vp_gdT (by omega), vp_gdT (by omega)]
      simp
  · refine ⟨μ, ?_, vp_fr.rf, fun _ _ _ => rfl⟩
    rw [if_neg c, vp_gdT (by omega), vp_gdT (by omega), if_pos (by omega)]
theorem vm_gives {μ : vr_M} {h : vh_H} {cl : vl_C} {Y v wk : Int} {p : Nat} (hY : Y ≤ 100000) (hh : vm_h μ = h) (hw : vh_wf Y h) (ha : vm_at μ cl) (hp : p < 8) (hv : 0 ≤ v ∧ v ≤ 40) :
    ∃ μ', fX10_givesOf (p : Int) v wk μ = some (vh_gi h cl p v wk, μ') ∧ vp_fr [68, 72, 73] μ μ' ∧ ∀ j, j ≠ 12 → j ≠ 13 → μ' 68 j = μ 68 j := by
  have p1 := vm_hf hh (f := 1) (by decide) hp
  have wp := hw.2.2.2.2 p hp
  have e138 : (138 + (p : Int)).toNat = 130 + 8 * 1 + p := by omega
  have e146 : (146 + (p : Int)).toNat = 130 + 8 * 2 + p := by omega
  have es : fX10_size (h 1 p - v) μ = some (vp_ab (h 1 p - v), μ) := by
    unfold fX10_size fX10_size_B10 vp_ab
    by_cases c : 0 ≤ h 1 p - v
    · rw [if_pos c, if_pos c]
    · rw [if_neg c, if_neg c, vp_gdT (by omega)]
  unfold fX10_givesOf
  rw [vp_gdT (by omega)]
  simp only [e138, e146, p1]
  rw [vp_gdT (by omega), es, vp_bind]
  unfold vh_gi
  by_cases c : vp_ab (h 1 p - v) ≤ wk
  · obtain ⟨μ1, a1, a2, a3⟩ := vm_worn hY hh hw ha hp
    have hh1 : vm_h μ1 = h := (vm_h_fr (a2 69 (by decide))).trans hh
    have ha1 := ha.fr (a2 69 (by decide))
    have q2 := vm_hf hh1 (f := 2) (by decide) hp
    have wt := vh_wt_in (cl := cl) hw hp
    obtain ⟨μ', g1, g2, g3, g4, g5⟩ := vm_looks (c := h 2 p + 1) (w := vh_wt h cl p) hY hh1 hw ha1 hp (by omega) (by omega)
    have gv := vl_gv_in (vh_sn h p (h 2 p + 1) (vh_wt h cl p)) (cl := cl) (fun q hq => (ha.1.2.2 q hq).1)
    have l10 := ha.1.1
    refine ⟨μ', ?_, a2.tr g2, fun j j1 j2 => (g5 j j1 j2).trans (a3 j j1 j2)⟩
    rw [if_pos c, if_pos c, a1, vp_bind, vp_gdT (by omega)]
    simp only [q2]
    rw [vp_gdT (by omega), g1, vp_bind]
    unfold fX10_givesOf_B67
    simp only [g3]
    rw [vp_gdT (by omega)]
    unfold vh_ri
    by_cases d : vh_wt h cl p ≤ vl_gv (vh_sn h p (h 2 p + 1) (vh_wt h cl p)) cl
    · rw [if_pos d, vp_gdT (by omega), show max (vl_gv (vh_sn h p (h 2 p + 1) (vh_wt h cl p)) cl - vh_wt h cl p) 0 = vl_gv (vh_sn h p (h 2 p + 1) (vh_wt h cl p)) cl - vh_wt h cl p by omega]
    · rw [if_neg d, show max (vl_gv (vh_sn h p (h 2 p + 1) (vh_wt h cl p)) cl - vh_wt h cl p) 0 = 0 by omega]
  · refine ⟨μ, ?_, vp_fr.rf, fun _ _ _ => rfl⟩
    rw [if_neg c, if_neg c]

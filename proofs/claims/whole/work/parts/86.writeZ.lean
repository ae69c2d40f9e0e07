theorem vm_h_ag {s s' : Nat → Int} (e : ∀ j, (j = 0 ∨ vm_hi j) → s' j = s j) : vm_h (fun _ => s') = vm_h (fun _ => s) := by
  funext f p
  unfold vm_h
  by_cases hf : f < 5
  · rw [if_pos hf, if_pos hf]
    by_cases hp : p < 8
    · rw [if_pos hp, if_pos hp]; exact e _ (by unfold vm_hi; omega)
    · rw [if_neg hp, if_neg hp]
  · rw [if_neg hf, if_neg hf]
    dsimp only
    rw [e 0 (by omega), e 7 (by unfold vm_hi; omega), e 8 (by unfold vm_hi; omega), e 3 (by unfold vm_hi; omega)]
theorem vm_L_ag {s s' : Nat → Int} {cl : vl_C} {wk mv gr dr : Int} (h : vm_L (fun _ => s) cl wk mv gr dr) (e : ∀ j, j < 933 → (j = 9 ∨ 208 ≤ j) → s' j = s j) : vm_L (fun _ => s') cl wk mv gr dr := by
  obtain ⟨⟨h1, h2, h3⟩, h4, h5⟩ := h
  have e9 := e 9 (by decide) (Or.inl rfl)
  refine ⟨⟨h1, h2, ?_⟩, ?_, h5⟩
  · rcases h3 with ⟨h3, h6⟩ | ⟨A, a1, a2, a3, a4⟩
    · exact Or.inl ⟨e9.trans h3, h6⟩
    · exact Or.inr ⟨A, e9.trans a1, a2, (e _ (by omega) (by omega)).trans a3, fun i hi => (e _ (by omega) (by omega)).trans (a4 i hi)⟩
  · rcases h4 with ⟨h4, h6⟩ | ⟨A, a1, a2, a3, a4, a5, a6⟩
    · exact Or.inl ⟨e9.trans h4, h6⟩
    · exact Or.inr ⟨A, e9.trans a1, a2, (e _ (by omega) (by omega)).trans a3, (e _ (by omega) (by omega)).trans a4, (e _ (by omega) (by omega)).trans a5, (e _ (by omega) (by omega)).trans a6⟩
theorem vm_li_ag {c0 b cap : Nat} {lo hi : Int} {s s' : Nat → Int} {n : Nat} {f : Nat → Int} (h : vm_li c0 b cap lo hi s n f) (e0 : s' c0 = s c0) (e : ∀ i, i < cap → s' (b + i) = s (b + i)) : vm_li c0 b cap lo hi s' n f := by
  obtain ⟨h1, h2, h3⟩ := h
  exact ⟨e0.trans h1, h2, fun i hi => by rw [e i (by omega)]; exact h3 i hi⟩
theorem vm_ru_ag {s s' : Nat → Int} {n : Nat} {rk rv : Nat → Int} (h : vm_ru s n rk rv) (e0 : s' 1 = s 1) (e : ∀ i, i < 16 → s' (170 + i) = s (170 + i)) : vm_ru s' n rk rv := by
  obtain ⟨h1, h2, h3⟩ := h
  refine ⟨e0.trans h1, h2, fun i hi => ?_⟩
  rw [e i (by omega), show 178 + i = 170 + (8 + i) by omega, e (8 + i) (by omega), show 170 + (8 + i) = 178 + i by omega]
  exact h3 i hi
/-- a new hill -/
theorem vm_wd.hill {s s' : Nat → Int} {h h' : vh_H} {cl : vl_C} {wk mv gr dr : Int} {tn : Nat} {tp : Nat → Int} {rn : Nat} {row : Nat → Int} {an : Nat} {ag : Nat → Int} {n : Nat} {rk rv : Nat → Int} {ld : Int} (w : vm_wd s h cl wk mv gr dr tn tp rn row an ag n rk rv ld) (hh : vm_h (fun _ => s') = h') (e : ∀ j, ¬ vm_hi j → j ≠ 0 → s' j = s j) :
    vm_wd s' h' cl wk mv gr dr tn tp rn row an ag n rk rv ld := by
  obtain ⟨a1, a2, a3, a4, a5, a6, a7, a8⟩ := w
  have E : ∀ j, (j < 3 ∨ 3 < j ∧ j < 7 ∨ 8 < j ∧ j < 130 ∨ 170 ≤ j) → j ≠ 0 → s' j = s j := fun j h1 h2 => e j (by unfold vm_hi; omega) h2
  exact ⟨hh, vm_L_ag a2 (fun j _ hj => E j (by omega) (by omega)), vm_li_ag a3 (E 4 (by omega) (by omega)) (fun i hi => E _ (by omega) (by omega)), vm_li_ag a4 (E 5 (by omega) (by omega)) (fun i hi => E _ (by omega) (by omega)), vm_li_ag a5 (E 6 (by omega) (by omega)) (fun i hi => E _ (by omega) (by omega)), vm_ru_ag a6 (E 1 (by omega) (by omega)) (fun i hi => E _ (by omega) (by omega)), (E 2 (by omega) (by omega)).trans a7, (E 9 (by omega) (by omega)).trans a8⟩
theorem vw_at.hill {k : Nat} {μ μ' : vr_M} {h h' : vh_H} {cl : vl_C} {wk mv gr dr : Int} {tn : Nat} {tp : Nat → Int} {rn : Nat} {row : Nat → Int} {an : Nat} {ag : Nat → Int} {n : Nat} {rk rv : Nat → Int} {ld Y Y' : Int} (hw : vw_at k μ h cl wk mv gr dr tn tp rn row an ag n rk rv ld Y) (hc : vh_c μ' (k + 1) = h') (hwf : vh_wf Y' h') (e : ∀ j, j < 22 → j ≠ 11 → (j = 0 ∨ 7 ≤ j) → μ' (k + j) = μ (k + j)) :
    vw_at k μ' h' cl wk mv gr dr tn tp rn row an ag n rk rv ld Y' := by
  obtain ⟨⟨w1, w2⟩, ⟨w3, w4, w5⟩, w6, w7, w8, w9, w10, w11, w12⟩ := hw
  have e0 : μ' k = μ k := e 0 (by decide) (by decide) (by decide)
  refine ⟨⟨hc, hwf⟩, ⟨w3, ?_, ?_⟩, ?_, ?_, ?_, ?_, ?_, ?_, w12⟩
  · exact vl_at_fr w4 (e 7 (by decide) (by decide) (by decide)) (e 8 (by decide) (by decide) (by decide)) (e 9 (by decide) (by decide) (by decide)) (e 10 (by decide) (by decide) (by decide))
  · rw [e 7 (by decide) (by decide) (by decide)]; exact w5
  · exact w6.e (e 12 (by decide) (by decide) (by decide)) (e 13 (by decide) (by decide) (by decide))
  · exact w7.e (e 14 (by decide) (by decide) (by decide)) (e 15 (by decide) (by decide) (by decide))
  · exact w8.e (e 16 (by decide) (by decide) (by decide)) (e 17 (by decide) (by decide) (by decide))
  · exact w9.e (e 18 (by decide) (by decide) (by decide)) (e 19 (by decide) (by decide) (by decide))
  · exact w10.e (e 20 (by decide) (by decide) (by decide)) (e 21 (by decide) (by decide) (by decide))
  · rw [e0]; exact w11
/-- the hill is another one on both sides -/
theorem vz_hill {Y Y' : Int} {μ μ1 μ2 : vr_M} {h h' : vh_H} {cl : vl_C} {wk mv gr dr : Int} {tn : Nat} {tp : Nat → Int} {rn : Nat} {row : Nat → Int} {an : Nat} {ag : Nat → Int} {n : Nat} {rk rv : Nat → Int} {ld : Int} (hR : vz_R Y μ) (w : vw_at 1 μ h cl wk mv gr dr tn tp rn row an ag n rk rv ld Y) (d : vm_wd (μ 69) h cl wk mv gr dr tn tp rn row an ag n rk rv ld)
    (f : vp_fr ([2, 3, 4, 5, 6, 7] ++ (63 :: 64 :: 65 :: vt_TR)) μ μ1) (h62 : μ1 62 0 = 0) (hc : vh_c μ1 2 = h') (hwf : vh_wf Y' h') (hY : Y ≤ Y')
    (g : vm_Y μ1 μ2) (hm : vm_h μ2 = h') (e : ∀ j, ¬ vm_hi j → j ≠ 0 → μ2 69 j = μ1 69 j) : vz_R Y' μ2 := by
  have c : ∀ c, c ∉ [2, 3, 4, 5, 6, 7, 12, 51, 52, 53, 54, 55, 56, 57, 58, 59, 60, 61, 62, 63, 64, 65, 68, 69, 71, 72, 73, 74, 75, 76] → μ2 c = μ c := fun c hc => by
    simp at hc
    rw [g.1 c (by simp; omega), f c (by simp [vt_TR]; omega)]
  have s : ∀ j, j < 12 ∨ 18 < j → μ2 68 j = μ 68 j := fun j hj => by rw [g.2 j hj, f 68 (by simp [vt_TR])]
  refine vz_R.mk ?_ ((vz_R.mono hR hY).k.fr (c 0 (by decide)) (fun j hj hj2 => c _ (by simp; omega)) (c 66 (by decide)) (c 67 (by decide)) (c 70 (by decide)) (c 77 (by decide)) (s 4 (by decide)) (s 22 (by decide))) ?_
  · refine ⟨h', cl, wk, mv, gr, dr, tn, tp, rn, row, an, ag, n, rk, rv, ld, w.hill ?_ hwf (fun j hj hj2 hj3 => c _ (by simp; omega)), d.hill hm (fun j j1 j2 => ?_)⟩
    · rw [← hc]
      exact vh_c_fr (fun i hi => g.1 _ (by simp; omega))
    · rw [e j j1 j2, f 69 (by simp [vt_TR])]
  · rw [g.1 62 (by decide)]
    exact h62
theorem vz_set (w n : Int) : vz_S (fX9_set w n) (fX10_set w n) := by
  intro Y μ hY hR
  obtain ⟨h, cl, wk, mv, gr, dr, tn, tp, rn, row, an, ag, nr, rk, rv, ld, ww, d, b, r1, r2, bm⟩ := vz_open hR
  have B := bm μ rfl
  obtain ⟨w0, w1, w2, w3, w4⟩ := b.2.2.1
  have a6 : μ 2 6 = h 5 1 := by rw [← b.2.1]; rfl
  have a7 : μ 2 7 = h 5 2 := by rw [← b.2.1]; rfl
  have c7 : μ 69 7 = h 5 1 := by rw [← B.1]; rfl
  have c8 : μ 69 8 = h 5 2 := by rw [← B.1]; rfl
  unfold fX9_set fX10_set fX9_set_B41 fX9_set_B68 fX9_set_B98 fX9_set_B38 fX10_set_B41 fX10_set_B38
  by_cases c0 : 0 ≤ w ∧ w ≤ 1
  · rw [vx_inT c0, vp_bind, if_pos vz_T1]
    rcases (show w = 0 ∨ w = 1 by omega) with rfl | rfl
    · rw [if_neg (fun q => q rfl)]
      by_cases cn : 0 ≤ n ∧ n ≤ 40
      · refine ⟨h 5 1, vr_u μ 2 6 n, vr_u (vr_u μ 2 6 n) 69 7 n, ?_, ?_, vz_hill hR ww d (vp_fr.u (by decide)) (by rw [vp_un (by decide)]; exact hR.2.2.2) (by rw [show (6 : Nat) = 5 + 1 from rfl, vh_c_u5 (by decide), b.2.1]) ((vh_up1_wf b.2.2.1 cn).mono (by omega)) (by omega) ⟨vp_fr.u (by decide), fun j _ => by rw [vp_un (by decide)]⟩ (by rw [vm_h7, vm_h_fr (vp_uc (show 69 ≠ 2 by decide)), B.1]) (fun j hj _ => by rw [vp_uj (by unfold vm_hi at hj; omega)])⟩
        · rw [vx_inT cn, vp_bind, if_pos vz_T1, if_neg (fun q => q rfl)]
          simp only [a6]
          rw [vp_gdT (by omega), if_neg (fun q => q trivial)]
        · rw [vm_inT c0, vp_bind, if_pos vz_T1, if_neg (fun q => q rfl), vm_inT cn, vp_bind, if_pos vz_T1]
          have e7 : vr_u μ 2 6 n 69 7 = h 5 1 := by rw [vp_un (by decide), c7]
          simp only [show ((7 : Int) + 0).toNat = 7 from rfl, e7]
          rw [vp_gdT (by decide), vp_gdT (by omega)]
      · refine ⟨-2, μ, μ, ?_, ?_, hR.mono (by omega)⟩
        · rw [vx_inF cn, vp_bind, if_neg vz_F0]
        · rw [vm_inT c0, vp_bind, if_pos vz_T1, if_neg (fun q => q rfl), vm_inF cn, vp_bind, if_neg vz_F0]
    · rw [if_pos (by decide)]
      by_cases cn : 1 ≤ n ∧ n ≤ 99
      · have wf1 : vh_wf (Y + 40) (vh_up h 5 2 n) := by
          obtain ⟨w1, w2, w3, w4, w5⟩ := b.2.2.1.mono (show Y ≤ Y + 40 by omega)
          exact ⟨w1, w2, cn, w4, w5⟩
        refine ⟨h 5 2, vr_u μ 2 7 n, vr_u (vr_u μ 2 7 n) 69 8 n, ?_, ?_, vz_hill hR ww d (vp_fr.u (by decide)) (by rw [vp_un (by decide)]; exact hR.2.2.2) (by rw [show (7 : Nat) = 5 + 2 from rfl, vh_c_u5 (by decide), b.2.1]) wf1 (by omega) ⟨vp_fr.u (by decide), fun j _ => by rw [vp_un (by decide)]⟩ (by rw [vm_h8, vm_h_fr (vp_uc (show 69 ≠ 2 by decide)), B.1]) (fun j hj _ => by rw [vp_uj (by unfold vm_hi at hj; omega)])⟩
        · rw [vx_inT cn, vp_bind, if_pos vz_T1, if_pos (by decide)]
          simp only [a7]
          rw [vp_gdT (by omega), if_pos (by decide)]
        · rw [vm_inT c0, vp_bind, if_pos vz_T1, if_pos (by decide), vm_inT cn, vp_bind, if_pos vz_T1]
          have e7 : vr_u μ 2 7 n 69 8 = h 5 2 := by rw [vp_un (by decide), c8]
          simp only [show ((7 : Int) + 1).toNat = 8 from rfl, e7]
          rw [vp_gdT (by decide), vp_gdT (by omega)]
      · refine ⟨-2, μ, μ, ?_, ?_, hR.mono (by omega)⟩
        · rw [vx_inF cn, vp_bind, if_neg vz_F0]
        · rw [vm_inT c0, vp_bind, if_pos vz_T1, if_pos (by decide), vm_inF cn, vp_bind, if_neg vz_F0]
  · refine ⟨-1, μ, μ, ?_, ?_, hR.mono (by omega)⟩
    · rw [vx_inF c0, vp_bind, if_neg vz_F0]
    · rw [vm_inF c0, vp_bind, if_neg vz_F0]
theorem vz_lies (p y : Int) : vz_S (fX9_lies p y) (fX10_lies p y) := by
  intro Y μ hY hR
  obtain ⟨h, cl, wk, mv, gr, dr, tn, tp, rn, row, an, ag, nr, rk, rv, ld, ww, d, b, r1, r2, bm⟩ := vz_open hR
  have B := bm μ rfl
  have w0 := b.2.2.1.1
  have m25 : μ 2 5 = h 5 0 := by rw [← b.2.1]; rfl
  have m0 : μ 69 0 = h 5 0 := by rw [← B.1]; rfl
  by_cases c : 0 ≤ p ∧ p < h 5 0
  · obtain ⟨q, rfl⟩ : ∃ q : Nat, p = (q : Int) := ⟨p.toNat, by omega⟩
    have q8 : q < 8 := by omega
    have hh : fX2_has 2 (q : Int) μ = some (1, μ) := by rw [vp_has (by rw [m25]; omega), if_pos (by rw [m25]; omega)]
    obtain ⟨b0, b1, b2, b3, b4⟩ := b.2.2.1.2.2.2.2 q q8
    have c3 : μ 6 q = h 3 q := by rw [← b.2.1]; unfold vh_c; rw [if_pos (by decide), if_pos q8]
    have m3 := vm_hf B.1 (f := 3) (by decide) q8
    have e1 : ((q : Int)).toNat = q := rfl
    have e154 : (154 + (q : Int)).toNat = 130 + 8 * 3 + q := by omega
    have e146 : (146 + (q : Int)).toNat = 130 + 8 * 2 + q := by omega
    by_cases cy : 0 ≤ y ∧ y ≤ 30
    · have wf1 : vh_wf (Y + 40) (vh_up (vh_up h 3 q y) 2 q 0) := by
        obtain ⟨w1, w2, w3, w4, w5⟩ := b.2.2.1.mono (show Y ≤ Y + 40 by omega)
        refine ⟨w1, w2, w3, w4, fun a ha => ?_⟩
        have := w5 a ha
        by_cases e : a = q
        · subst e
          simp [vh_up]
          omega
        · simp [vh_up, e]
          omega
      generalize hM : vr_u (vr_u μ 6 q y) 5 q 0 = M
      have fM : vp_fr [5, 6] μ M := by rw [← hM]; exact (vp_fr.u (by decide)).tr (vp_fr.u (by decide))
      have cM : vh_c M 2 = vh_up (vh_up h 3 q y) 2 q 0 := by
        rw [← hM, show (5 : Nat) = 2 + 1 + 2 from rfl, vh_c_uf (by decide) q8, show (6 : Nat) = 2 + 1 + 3 from rfl, vh_c_uf (by decide) q8, b.2.1]
      have hM9 : vm_h M = h := (vm_h_fr (fM 69 (by decide))).trans B.1
      refine ⟨h 3 q, M, vr_u (vr_u M 69 (130 + 8 * 3 + q) y) 69 (130 + 8 * 2 + q) 0, ?_, ?_, vz_hill hR ww d (fM.mono (by decide)) (by rw [fM 62 (by decide)]; exact hR.2.2.2) cM wf1 (by omega) ⟨(vp_fr.u (by decide)).tr (vp_fr.u (by decide)), fun j _ => by rw [vp_un (by decide), vp_un (by decide)]⟩ (by rw [vm_hu (by decide) q8, vm_hu (by decide) q8, hM9]) (fun j hj _ => by rw [vp_uj (by unfold vm_hi at hj; omega), vp_uj (by unfold vm_hi at hj; omega)])⟩
      · rw [fX9_lies, hh, vp_bind, if_pos vz_T1, vx_inT cy, vp_bind, if_pos vz_T1, vp_gdT (by omega)]
        simp only [e1, c3, hM]
        rw [vp_gdT (by omega)]
      · rw [fX10_lies, vm_plotT (by rw [fM 69 (by decide)]; omega) (by rw [fM 69 (by decide)]; omega), vp_bind, if_pos vz_T1, vm_inT cy, vp_bind, if_pos vz_T1, vp_gdT (by omega), vp_gdT (by omega)]
        have n3 : M 69 (130 + 8 * 3 + q) = h 3 q := by rw [fM 69 (by decide), m3]
        simp only [e154, e146, n3]
        rw [vp_gdT (by omega)]
    · refine ⟨-2, μ, μ, ?_, ?_, hR.mono (by omega)⟩
      · rw [fX9_lies, hh, vp_bind, if_pos vz_T1, vx_inF cy, vp_bind, if_neg vz_F0]
      · rw [fX10_lies, vm_plotT (by omega) (by omega), vp_bind, if_pos vz_T1, vm_inF cy, vp_bind, if_neg vz_F0]
  · have hh : fX2_has 2 p μ = some (0, μ) := by rw [vp_has (by rw [m25]; omega), if_neg (by rw [m25]; omega)]
    refine ⟨-1, μ, μ, ?_, ?_, hR.mono (by omega)⟩
    · rw [fX9_lies, hh, vp_bind, if_neg vz_F0]
    · rw [fX10_lies, vm_plotF (by omega) (by omega), vp_bind, if_neg vz_F0]

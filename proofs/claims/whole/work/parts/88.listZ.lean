theorem vw_at.li {k : Nat} {μ μ' : vr_M} {h : vh_H} {cl : vl_C} {wk mv gr dr : Int} {tn : Nat} {tp : Nat → Int} {rn : Nat} {row : Nat → Int} {an : Nat} {ag : Nat → Int} {n : Nat} {rk rv : Nat → Int} {ld Y : Int} {tn' : Nat} {tp' : Nat → Int} {rn' : Nat} {row' : Nat → Int} {an' : Nat} {ag' : Nat → Int} {n' : Nat} {rk' rv' : Nat → Int} (hw : vw_at k μ h cl wk mv gr dr tn tp rn row an ag n rk rv ld Y) (e : ∀ j, j < 11 → μ' (k + j) = μ (k + j))
    (l1 : vn_li (k + 12) 120 0 255 μ' tn' tp') (l2 : vn_li (k + 14) 12 0 255 μ' rn' row') (l3 : vn_li (k + 16) 10 0 99 μ' an' ag') (l4 : vn_li (k + 18) 8 0 6 μ' n' rk') (l5 : vn_li (k + 20) 8 1 30 μ' n' rv') : vw_at k μ' h cl wk mv gr dr tn' tp' rn' row' an' ag' n' rk' rv' ld Y := by
  obtain ⟨⟨w1, w2⟩, ⟨w3, w4, w5⟩, w6, w7, w8, w9, w10, w11, w12⟩ := hw
  have e0 : μ' k = μ k := e 0 (by decide)
  refine ⟨⟨?_, w2⟩, ⟨w3, ?_, ?_⟩, l1, l2, l3, l4, l5, ?_, w12⟩
  · rw [← w1]
    exact vh_c_fr (fun i hi => by rw [Nat.add_assoc]; exact e (1 + i) (by omega))
  · exact vl_at_fr w4 (e 7 (by decide)) (e 8 (by decide)) (e 9 (by decide)) (e 10 (by decide))
  · rw [e 7 (by decide)]; exact w5
  · rw [e0]; exact w11
theorem vm_wd.li {s s' : Nat → Int} {h : vh_H} {cl : vl_C} {wk mv gr dr : Int} {tn : Nat} {tp : Nat → Int} {rn : Nat} {row : Nat → Int} {an : Nat} {ag : Nat → Int} {n : Nat} {rk rv : Nat → Int} {ld : Int} {tn' : Nat} {tp' : Nat → Int} {rn' : Nat} {row' : Nat → Int} {an' : Nat} {ag' : Nat → Int} {n' : Nat} {rk' rv' : Nat → Int} (w : vm_wd s h cl wk mv gr dr tn tp rn row an ag n rk rv ld) (e : ∀ j, j < 933 → (j = 0 ∨ j = 2 ∨ j = 3 ∨ j = 7 ∨ j = 8 ∨ j = 9 ∨ (130 ≤ j ∧ j < 170) ∨ 208 ≤ j) → s' j = s j)
    (l1 : vm_li 4 10 120 0 255 s' tn' tp') (l2 : vm_li 5 186 12 0 255 s' rn' row') (l3 : vm_li 6 198 10 0 99 s' an' ag') (l4 : vm_ru s' n' rk' rv') : vm_wd s' h cl wk mv gr dr tn' tp' rn' row' an' ag' n' rk' rv' ld := by
  obtain ⟨a1, a2, a3, a4, a5, a6, a7, a8⟩ := w
  exact ⟨(vm_h_ag (fun j hj => e j (by unfold vm_hi at hj; omega) (by unfold vm_hi at hj; omega))).trans a1, vm_L_ag a2 (fun j h1 h2 => e j h1 (by omega)), l1, l2, l3, l4, (e 2 (by decide) (by decide)).trans a7, (e 9 (by decide) (by decide)).trans a8⟩
theorem vz_list {Y Y' : Int} {μ μ1 μ2 : vr_M} {h : vh_H} {cl : vl_C} {wk mv gr dr : Int} {tn : Nat} {tp : Nat → Int} {rn : Nat} {row : Nat → Int} {an : Nat} {ag : Nat → Int} {n : Nat} {rk rv : Nat → Int} {ld : Int} (hR : vz_R Y μ) (hY : Y ≤ Y') (f : vp_fr [13, 14, 15, 16, 17, 18, 19, 20, 21, 22] μ μ1) (g : vp_fr [69] μ1 μ2) (w : vw_at 1 μ1 h cl wk mv gr dr tn tp rn row an ag n rk rv ld Y) (d : vm_wd (μ2 69) h cl wk mv gr dr tn tp rn row an ag n rk rv ld) : vz_R Y' μ2 := by
  have c : ∀ c, c ∉ [13, 14, 15, 16, 17, 18, 19, 20, 21, 22, 69] → μ2 c = μ c := fun c hc => by
    simp at hc
    rw [g c (by simp; omega), f c (by simp; omega)]
  have e68 := c 68 (by decide)
  refine vz_R.mk (vz_w.mono ⟨h, cl, wk, mv, gr, dr, tn, tp, rn, row, an, ag, n, rk, rv, ld, w.fr (fun j hj hj2 => g _ (by simp; omega)), d⟩ hY) ((vz_R.mono hR hY).k.fr (c 0 (by decide)) (fun j hj hj2 => c _ (by simp; omega)) (c 66 (by decide)) (c 67 (by decide)) (c 70 (by decide)) (c 77 (by decide)) (by rw [e68]) (by rw [e68])) ?_
  rw [c 62 (by decide)]
  exact hR.2.2.2
theorem vn_li.put {k cap : Nat} {lo hi v : Int} {μ : vr_M} {c : Nat} {f : Nat → Int} (h : vn_li k cap lo hi μ c f) (hv : lo ≤ v ∧ v ≤ hi) (hc : c < cap) : vn_li k cap lo hi (vr_u (vr_u μ (k + 1) c v) k 1 ((c + 1 : Nat) : Int)) (c + 1) (fun i => if i = c then v else f i) := by
  obtain ⟨h1, h2, h3⟩ := h
  refine ⟨vp_us, by omega, fun i hi => ?_⟩
  rw [vp_un (by omega)]
  by_cases e : i = c
  · subst e
    dsimp only
    rw [vp_us, if_pos rfl]
    exact ⟨rfl, hv⟩
  · dsimp only
    rw [vp_uj e, if_neg e]
    exact h3 i (by omega)
theorem vm_li.put {c0 b cap : Nat} {lo hi v : Int} {s s' : Nat → Int} {c : Nat} {f : Nat → Int} (h : vm_li c0 b cap lo hi s c f) (hv : lo ≤ v ∧ v ≤ hi) (hc : c < cap) (e0 : s' c0 = ((c + 1 : Nat) : Int)) (e1 : s' (b + c) = v) (e : ∀ i, i < c → s' (b + i) = s (b + i)) : vm_li c0 b cap lo hi s' (c + 1) (fun i => if i = c then v else f i) := by
  obtain ⟨h1, h2, h3⟩ := h
  refine ⟨e0, by omega, fun i hi => ?_⟩
  by_cases z : i = c
  · subst z
    dsimp only
    rw [e1, if_pos rfl]
    exact ⟨rfl, hv⟩
  · dsimp only
    rw [e i (by omega), if_neg z]
    exact h3 i (by omega)
theorem vz_row (p : Int) : vz_S (fX9_row p) (fX10_row p) := by
  intro Y μ hY hR
  obtain ⟨h, cl, wk, mv, gr, dr, tn, tp, rn, row, an, ag, n, rk, rv, ld, ww, d, b, r1, r2, bm⟩ := vz_open hR
  obtain ⟨-, -, x1, x2, x3, x4, x5, -⟩ := id ww
  obtain ⟨-, -, y1, y2, y3, y4, -⟩ := id d
  have xn := x2.2.1
  have xc : μ 15 1 = (rn : Int) := x2.1
  have yc : μ 69 5 = (rn : Int) := y2.1
  by_cases c1 : p = -1
  · have E : ∀ j, j ≠ 5 → vr_u (vr_u μ 15 1 0) 69 5 0 69 j = μ 69 j := fun j hj => by rw [vp_uj hj, vp_un (by decide)]
    refine ⟨0, vr_u μ 15 1 0, vr_u (vr_u μ 15 1 0) 69 5 0, ?_, ?_, vz_list (rn := 0) (row := row) hR (by omega) (vp_fr.u (by decide)) (vp_fr.u (by decide)) (ww.li (fun j hj => vp_uc (by omega)) (x1.e (vp_uc (by decide)) (vp_uc (by decide))) ⟨vp_us, by decide, fun i hi => by omega⟩ (x3.e (vp_uc (by decide)) (vp_uc (by decide))) (x4.e (vp_uc (by decide)) (vp_uc (by decide))) (x5.e (vp_uc (by decide)) (vp_uc (by decide)))) (d.li (fun j _ hj => E j (by omega)) (vm_li_ag y1 (E 4 (by decide)) (fun i hi => E _ (by omega))) ⟨vp_us, by decide, fun i hi => by omega⟩ (vm_li_ag y3 (E 6 (by decide)) (fun i hi => E _ (by omega))) (vm_ru_ag y4 (E 1 (by decide)) (fun i hi => E _ (by omega))))⟩
    · rw [fX9_row, if_neg (fun q => q c1)]
    · rw [fX10_row, if_neg (fun q => q c1)]
  · by_cases cv : 0 ≤ p ∧ p ≤ 255
    · by_cases c8 : (rn : Int) < 12
      · have P := vn_put (k := 15) (v := p) (μ := μ) (c := rn) xc (by show rn < 12; omega) (by omega)
        generalize hM : vr_u (vr_u μ (15 + 1) rn p) 15 1 ((rn + 1 : Nat) : Int) = M at P
        have M9 : M 69 = μ 69 := by rw [← hM, vp_uc (by decide), vp_uc (by decide)]
        have ei : (186 + (rn : Int)).toNat = 186 + rn := by omega
        have E : ∀ j, j ≠ 5 → j ≠ 186 + rn → vr_u (vr_u M 69 (186 + rn) p) 69 5 ((rn + 1 : Nat) : Int) 69 j = μ 69 j := fun j hj hj2 => by rw [vp_uj hj, vp_uj hj2, M9]
        refine ⟨((rn + 1 : Nat) : Int), M, vr_u (vr_u M 69 (186 + rn) p) 69 5 ((rn + 1 : Nat) : Int), ?_, ?_, vz_list hR (by omega) (by rw [← hM]; exact (vp_fr.u (by decide)).tr (vp_fr.u (by decide))) ((vp_fr.u (by decide)).tr (vp_fr.u (by decide))) (by
          rw [← hM]
          exact ww.li (fun j hj => by rw [vp_uc (by omega), vp_uc (by omega)]) (x1.e (by rw [vp_uc (by decide), vp_uc (by decide)]) (by rw [vp_uc (by decide), vp_uc (by decide)])) (x2.put cv (by omega)) (x3.e (by rw [vp_uc (by decide), vp_uc (by decide)]) (by rw [vp_uc (by decide), vp_uc (by decide)])) (x4.e (by rw [vp_uc (by decide), vp_uc (by decide)]) (by rw [vp_uc (by decide), vp_uc (by decide)])) (x5.e (by rw [vp_uc (by decide), vp_uc (by decide)]) (by rw [vp_uc (by decide), vp_uc (by decide)]))) (d.li (fun j _ hj => E j (by omega) (by omega)) (vm_li_ag y1 (E 4 (by omega) (by omega)) (fun i hi => E _ (by omega) (by omega))) (y2.put cv (by omega) vp_us (by rw [vp_uj (by omega), vp_us]) (fun i hi => E _ (by omega) (by omega))) (vm_li_ag y3 (E 6 (by omega) (by omega)) (fun i hi => E _ (by omega) (by omega))) (vm_ru_ag y4 (E 1 (by omega) (by omega)) (fun i hi => E _ (by omega) (by omega))))⟩
        · rw [fX9_row, if_pos c1, vx_inT cv, vp_bind, if_pos vz_T1]
          simp only [xc]
          rw [vp_gdT (by omega), if_pos c8, P, vp_bind, fX9_row_B63]
        · rw [fX10_row, if_pos c1, vm_inT cv, vp_bind, if_pos vz_T1]
          have n5 : M 69 5 = (rn : Int) := by rw [M9, yc]
          have n6 : vr_u M 69 (186 + rn) p 69 5 = (rn : Int) := by rw [vp_uj (by omega), n5]
          simp only [n5, ei]
          rw [vp_gdT (by omega), if_pos (by omega), vp_gdT (by omega), vp_let, n6, vp_let, vp_us, show (rn : Int) + 1 = ((rn + 1 : Nat) : Int) by omega, vp_gdT (by omega)]
      · refine ⟨-4, μ, μ, ?_, ?_, hR.mono (by omega)⟩
        · rw [fX9_row, if_pos c1, vx_inT cv, vp_bind, if_pos vz_T1]
          simp only [xc]
          rw [vp_gdT (by omega), if_neg c8, fX9_row_B63]
        · rw [fX10_row, if_pos c1, vm_inT cv, vp_bind, if_pos vz_T1]
          simp only [yc]
          rw [vp_gdT (by omega), if_neg (by omega)]
    · refine ⟨-2, μ, μ, ?_, ?_, hR.mono (by omega)⟩
      · rw [fX9_row, if_pos c1, vx_inF cv, vp_bind, if_neg vz_F0]
      · rw [fX10_row, if_pos c1, vm_inF cv, vp_bind, if_neg vz_F0]
theorem vz_age (p : Int) : vz_S (fX9_age p) (fX10_age p) := by
  intro Y μ hY hR
  obtain ⟨h, cl, wk, mv, gr, dr, tn, tp, rn, row, an, ag, n, rk, rv, ld, ww, d, b, r1, r2, bm⟩ := vz_open hR
  obtain ⟨-, -, x1, x2, x3, x4, x5, -⟩ := id ww
  obtain ⟨-, -, y1, y2, y3, y4, -⟩ := id d
  have xn := x3.2.1
  have xc : μ 17 1 = (an : Int) := x3.1
  have yc : μ 69 6 = (an : Int) := y3.1
  by_cases c1 : p = -1
  · have E : ∀ j, j ≠ 6 → vr_u (vr_u μ 17 1 0) 69 6 0 69 j = μ 69 j := fun j hj => by rw [vp_uj hj, vp_un (by decide)]
    refine ⟨0, vr_u μ 17 1 0, vr_u (vr_u μ 17 1 0) 69 6 0, ?_, ?_, vz_list (an := 0) (ag := ag) hR (by omega) (vp_fr.u (by decide)) (vp_fr.u (by decide)) (ww.li (fun j hj => vp_uc (by omega)) (x1.e (vp_uc (by decide)) (vp_uc (by decide))) (x2.e (vp_uc (by decide)) (vp_uc (by decide))) ⟨vp_us, by decide, fun i hi => by omega⟩ (x4.e (vp_uc (by decide)) (vp_uc (by decide))) (x5.e (vp_uc (by decide)) (vp_uc (by decide)))) (d.li (fun j _ hj => E j (by omega)) (vm_li_ag y1 (E 4 (by decide)) (fun i hi => E _ (by omega))) (vm_li_ag y2 (E 5 (by decide)) (fun i hi => E _ (by omega))) ⟨vp_us, by decide, fun i hi => by omega⟩ (vm_ru_ag y4 (E 1 (by decide)) (fun i hi => E _ (by omega))))⟩
    · rw [fX9_age, if_neg (fun q => q c1)]
    · rw [fX10_age, if_neg (fun q => q c1)]
  · by_cases cv : 0 ≤ p ∧ p ≤ 99
    · by_cases c8 : (an : Int) < 10
      · have P := vn_put (k := 17) (v := p) (μ := μ) (c := an) xc (by show an < 10; omega) (by omega)
        generalize hM : vr_u (vr_u μ (17 + 1) an p) 17 1 ((an + 1 : Nat) : Int) = M at P
        have M9 : M 69 = μ 69 := by rw [← hM, vp_uc (by decide), vp_uc (by decide)]
        have ei : (198 + (an : Int)).toNat = 198 + an := by omega
        have E : ∀ j, j ≠ 6 → j ≠ 198 + an → vr_u (vr_u M 69 (198 + an) p) 69 6 ((an + 1 : Nat) : Int) 69 j = μ 69 j := fun j hj hj2 => by rw [vp_uj hj, vp_uj hj2, M9]
        refine ⟨((an + 1 : Nat) : Int), M, vr_u (vr_u M 69 (198 + an) p) 69 6 ((an + 1 : Nat) : Int), ?_, ?_, vz_list hR (by omega) (by rw [← hM]; exact (vp_fr.u (by decide)).tr (vp_fr.u (by decide))) ((vp_fr.u (by decide)).tr (vp_fr.u (by decide))) (by
          rw [← hM]
          exact ww.li (fun j hj => by rw [vp_uc (by omega), vp_uc (by omega)]) (x1.e (by rw [vp_uc (by decide), vp_uc (by decide)]) (by rw [vp_uc (by decide), vp_uc (by decide)])) (x2.e (by rw [vp_uc (by decide), vp_uc (by decide)]) (by rw [vp_uc (by decide), vp_uc (by decide)])) (x3.put cv (by omega)) (x4.e (by rw [vp_uc (by decide), vp_uc (by decide)]) (by rw [vp_uc (by decide), vp_uc (by decide)])) (x5.e (by rw [vp_uc (by decide), vp_uc (by decide)]) (by rw [vp_uc (by decide), vp_uc (by decide)]))) (d.li (fun j _ hj => E j (by omega) (by omega)) (vm_li_ag y1 (E 4 (by omega) (by omega)) (fun i hi => E _ (by omega) (by omega))) (vm_li_ag y2 (E 5 (by omega) (by omega)) (fun i hi => E _ (by omega) (by omega))) (y3.put cv (by omega) vp_us (by rw [vp_uj (by omega), vp_us]) (fun i hi => E _ (by omega) (by omega))) (vm_ru_ag y4 (E 1 (by omega) (by omega)) (fun i hi => E _ (by omega) (by omega))))⟩
        · rw [fX9_age, if_pos c1, vx_inT cv, vp_bind, if_pos vz_T1]
          simp only [xc]
          rw [vp_gdT (by omega), if_pos c8, P, vp_bind, fX9_age_B62]
        · rw [fX10_age, if_pos c1, vm_inT cv, vp_bind, if_pos vz_T1]
          have n5 : M 69 6 = (an : Int) := by rw [M9, yc]
          have n6 : vr_u M 69 (198 + an) p 69 6 = (an : Int) := by rw [vp_uj (by omega), n5]
          simp only [n5, ei]
          rw [vp_gdT (by omega), if_pos (by omega), vp_gdT (by omega), vp_let, n6, vp_let, vp_us, show (an : Int) + 1 = ((an + 1 : Nat) : Int) by omega, vp_gdT (by omega)]
      · refine ⟨-4, μ, μ, ?_, ?_, hR.mono (by omega)⟩
        · rw [fX9_age, if_pos c1, vx_inT cv, vp_bind, if_pos vz_T1]
          simp only [xc]
          rw [vp_gdT (by omega), if_neg c8, fX9_age_B62]
        · rw [fX10_age, if_pos c1, vm_inT cv, vp_bind, if_pos vz_T1]
          simp only [yc]
          rw [vp_gdT (by omega), if_neg (by omega)]
    · refine ⟨-2, μ, μ, ?_, ?_, hR.mono (by omega)⟩
      · rw [fX9_age, if_pos c1, vx_inF cv, vp_bind, if_neg vz_F0]
      · rw [fX10_age, if_pos c1, vm_inF cv, vp_bind, if_neg vz_F0]

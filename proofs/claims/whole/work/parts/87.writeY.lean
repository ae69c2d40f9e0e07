theorem vz_plot (so pl : Int) : vz_S (fX9_plot so pl) (fX10_plot so pl) := by
  intro Y μ hY hR
  obtain ⟨h, cl, wk, mv, gr, dr, tn, tp, rn, row, an, ag, nr, rk, rv, ld, ww, d, b, r1, r2, bm⟩ := vz_open hR
  have B := bm μ rfl
  have w0 := b.2.2.1.1
  obtain ⟨N, hN⟩ : ∃ N : Nat, h 5 0 = (N : Int) := ⟨(h 5 0).toNat, by omega⟩
  have m25 : μ 2 5 = (N : Int) := by rw [← hN, ← b.2.1]; rfl
  have m0 : μ 69 0 = (N : Int) := by rw [← hN, ← B.1]; rfl
  unfold fX9_plot fX10_plot fX9_plot_B19 fX9_plot_B54 fX10_plot_B19
  by_cases cs : 0 ≤ so ∧ so ≤ 3
  · by_cases cp : 0 ≤ pl ∧ pl ≤ 40
    · rw [vx_inT cs, vp_bind, if_neg vz_T1, vx_inT cp, vp_bind, if_pos vz_T1]
      simp only [m25]
      rw [vp_gdT (by omega)]
      by_cases c8 : (N : Int) < 8
      · have N8 : N < 8 := by omega
        have e1 : ((N : Int)).toNat = N := rfl
        generalize hM : vr_u (vr_u (vr_u (vr_u (vr_u (vr_u μ 3 N so) 4 N pl) 5 N 0) 6 N 30) 7 N 0) 2 5 ((N : Int) + 1) = M
        have fM : vp_fr [2, 3, 4, 5, 6, 7] μ M := by
          rw [← hM]
          exact (((((vp_fr.u (by decide)).tr (vp_fr.u (by decide))).tr (vp_fr.u (by decide))).tr (vp_fr.u (by decide))).tr (vp_fr.u (by decide))).tr (vp_fr.u (by decide))
        have cM : vh_c M 2 = vh_up (vh_up (vh_up (vh_up (vh_up (vh_up h 0 N so) 1 N pl) 2 N 0) 3 N 30) 4 N 0) 5 0 ((N : Int) + 1) := by
          rw [← hM, show vr_u (vr_u (vr_u (vr_u (vr_u (vr_u μ 3 N so) 4 N pl) 5 N 0) 6 N 30) 7 N 0) 2 5 ((N : Int) + 1) = vr_u (vr_u (vr_u (vr_u (vr_u (vr_u μ (2 + 1 + 0) N so) (2 + 1 + 1) N pl) (2 + 1 + 2) N 0) (2 + 1 + 3) N 30) (2 + 1 + 4) N 0) 2 (5 + 0) ((N : Int) + 1) from rfl]
          rw [vh_c_u5 (by decide), vh_c_uf (by decide) N8, vh_c_uf (by decide) N8, vh_c_uf (by decide) N8, vh_c_uf (by decide) N8, vh_c_uf (by decide) N8, b.2.1]
        have hM9 : vm_h M = h := (vm_h_fr (fM 69 (by decide))).trans B.1
        have n0 : M 69 0 = (N : Int) := by rw [fM 69 (by decide), m0]
        have wf1 : vh_wf (Y + 40) (vh_up (vh_up (vh_up (vh_up (vh_up (vh_up h 0 N so) 1 N pl) 2 N 0) 3 N 30) 4 N 0) 5 0 ((N : Int) + 1)) := by
          obtain ⟨w1, w2, w3, w4, w5⟩ := b.2.2.1.mono (show Y ≤ Y + 40 by omega)
          refine ⟨⟨?_, ?_⟩, w2, w3, w4, fun a ha => ?_⟩
          · show (0 : Int) ≤ (N : Int) + 1; omega
          · show (N : Int) + 1 ≤ 8; omega
          · have := w5 a ha
            by_cases e : a = N
            · subst e
              simp [vh_up]
              omega
            · simp [vh_up, e]
              omega
        have k0 : ∀ k : Nat, (((k : Int) + (N : Int))).toNat = k + N := fun k => by omega
        have i0 : (130 + (N : Int)).toNat = 130 + 8 * 0 + N := by omega
        have i1 : (138 + (N : Int)).toNat = 130 + 8 * 1 + N := by omega
        have i2 : (146 + (N : Int)).toNat = 130 + 8 * 2 + N := by omega
        have i3 : (154 + (N : Int)).toNat = 130 + 8 * 3 + N := by omega
        have i4 : (162 + (N : Int)).toNat = 130 + 8 * 4 + N := by omega
        generalize hK : vr_u (vr_u (vr_u (vr_u (vr_u M 69 (130 + 8 * 0 + N) so) 69 (130 + 8 * 1 + N) pl) 69 (130 + 8 * 2 + N) 0) 69 (130 + 8 * 3 + N) 30) 69 (130 + 8 * 4 + N) 0 = K
        have fK : vp_fr [69] M K := by
          rw [← hK]
          exact ((((vp_fr.u (by decide)).tr (vp_fr.u (by decide))).tr (vp_fr.u (by decide))).tr (vp_fr.u (by decide))).tr (vp_fr.u (by decide))
        have K0 : K 69 0 = (N : Int) := by rw [← hK, vp_uj (by omega), vp_uj (by omega), vp_uj (by omega), vp_uj (by omega), vp_uj (by omega), n0]
        have hm : vm_h (vr_u K 69 0 ((N : Int) + 1)) = vh_up (vh_up (vh_up (vh_up (vh_up (vh_up h 0 N so) 1 N pl) 2 N 0) 3 N 30) 4 N 0) 5 0 ((N : Int) + 1) := by
          rw [show vr_u K 69 0 ((N : Int) + 1) = vr_u K 69 (vm_sl 0) ((N : Int) + 1) from rfl, vm_hs (by decide), ← hK, vm_hu (by decide) N8, vm_hu (by decide) N8, vm_hu (by decide) N8, vm_hu (by decide) N8, vm_hu (by decide) N8, hM9]
        refine ⟨(N : Int), M, vr_u K 69 0 ((N : Int) + 1), ?_, ?_, vz_hill hR ww d (fM.mono (by decide)) (by rw [fM 62 (by decide)]; exact hR.2.2.2) cM wf1 (by omega) ⟨(fK.mono (by decide)).tr (vp_fr.u (by decide)), fun j _ => by rw [vp_un (by decide), fK 68 (by decide)]⟩ hm (fun j hj hj0 => by
          rw [vp_uj hj0, ← hK]
          unfold vm_hi at hj
          rw [vp_uj (by omega), vp_uj (by omega), vp_uj (by omega), vp_uj (by omega), vp_uj (by omega)])⟩
        · rw [if_pos c8, fX2_add]
          unfold fX2_add_B61
          simp only [m25, e1]
          rw [vp_gdT (by omega), if_neg (by omega), if_neg (by omega), vp_gdT (by omega), vp_let]
          have e5 : vr_u (vr_u (vr_u (vr_u (vr_u μ (2 + 1) N so) (2 + 2) N pl) (2 + 3) N 0) (2 + 4) N 30) (2 + 5) N 0 2 5 = (N : Int) := by
            rw [vp_un (by decide), vp_un (by decide), vp_un (by decide), vp_un (by decide), vp_un (by decide), m25]
          rw [e5, vp_bind, ← hM]
        · rw [vm_inT cs, vp_bind, if_neg vz_T1, vm_inT cp, vp_bind, if_pos vz_T1]
          simp only [n0, i0, i1, i2, i3, i4]
          rw [vp_gdT (by omega), if_pos (by omega), vp_gdT (by omega), vp_gdT (by omega), vp_gdT (by omega), vp_gdT (by omega), vp_gdT (by omega), vp_let, hK, K0]
      · refine ⟨-4, μ, μ, ?_, ?_, hR.mono (by omega)⟩
        · rw [if_neg c8]
        · rw [vm_inT cs, vp_bind, if_neg vz_T1, vm_inT cp, vp_bind, if_pos vz_T1]
          simp only [m0]
          rw [vp_gdT (by omega), if_neg (by omega)]
    · refine ⟨-2, μ, μ, ?_, ?_, hR.mono (by omega)⟩
      · rw [vx_inT cs, vp_bind, if_neg vz_T1, vx_inF cp, vp_bind, if_neg vz_F0]
      · rw [vm_inT cs, vp_bind, if_neg vz_T1, vm_inF cp, vp_bind, if_neg vz_F0]
  · refine ⟨-2, μ, μ, ?_, ?_, hR.mono (by omega)⟩
    · rw [vx_inF cs, vp_bind, if_pos rfl]
    · rw [vm_inF cs, vp_bind, if_pos rfl]
theorem vz_year (s to : Int) : vz_S (fX9_year s to) (fX10_year s to) := by
  intro Y μ hY hR
  obtain ⟨h, cl, wk, mv, gr, dr, tn, tp, rn, row, an, ag, nr, rk, rv, ld, ww, d, b, r1, r2, bm⟩ := vz_open hR
  have w0 := b.2.2.1.1
  obtain ⟨N, hN⟩ : ∃ N : Nat, h 5 0 = (N : Int) := ⟨(h 5 0).toNat, by omega⟩
  have hN8 : N ≤ 8 := by omega
  have h8 := vp_p8 hN8
  have hp := vp_pow_nn N
  have hsh : vr_shl 1 (N : Int) = 2 ^ N := vp_shl (by omega)
  by_cases c : (0 ≤ s ∧ s ≤ 2 ^ N - 1) ∧ (0 ≤ to ∧ to ≤ 40)
  · obtain ⟨μ1, c1, c2, c3⟩ := vo_year (by omega) b hN c.1 c.2
    have e : μ1 69 = μ 69 := c2 69 (by decide)
    have B := bm μ1 e
    have m0 : μ1 69 0 = (N : Int) := by rw [← hN, ← B.1]; rfl
    obtain ⟨μ2, g1, g2, g3, g4⟩ := vm_goes (gw := 1) (by omega) B.2.1 (s := s) (by omega) c.2 B.1 B.2.2
    refine ⟨_, μ1, μ2, c1, ?_, vz_hill hR ww d (c2.mono (by decide)) c3.2.2.2 c3.2.1 (c3.2.2.1.mono (show Y + 1 ≤ Y + 40 by omega)) (by omega) g2.y g4 (fun j hj _ => g2.2.2 j hj)⟩
    rw [fX10_year, m0, hsh, vp_gdT (by omega), vm_inT c.1, vp_bind, if_neg vz_T1, vm_inT c.2, vp_bind, if_pos vz_T1, g1, vp_bind]
  · have B := bm μ rfl
    have m0 : μ 69 0 = (N : Int) := by rw [← hN, ← B.1]; rfl
    refine ⟨-1002, μ, μ, vo_yearF b hN c, ?_, hR.mono (by omega)⟩
    rw [fX10_year, m0, hsh, vp_gdT (by omega)]
    by_cases cs : 0 ≤ s ∧ s ≤ 2 ^ N - 1
    · rw [vm_inT cs, vp_bind, if_neg vz_T1, vm_inF (fun q => c ⟨cs, q⟩), vp_bind, if_neg vz_F0]
      rfl
    · rw [vm_inF cs, vp_bind]
      rfl
theorem vz_go (r m : Int) : vz_S (fX9_go r m) (fX10_go r m) := by
  intro Y μ hY hR
  obtain ⟨h, cl, wk, mv, gr, dr, tn, tp, rn, row, an, ag, n, rk, rv, ld, ww, d, b, r1, r2, bm⟩ := vz_open hR
  by_cases q : 0 ≤ r ∧ r < (n : Int)
  · obtain ⟨i, rfl⟩ : ∃ i : Nat, r = (i : Int) := ⟨r.toNat, by omega⟩
    by_cases qm : 1 ≤ m ∧ m ≤ 30
    · obtain ⟨μ1, c1, c2, c3⟩ := vo_go (by omega) b r1 (i := i) (by omega) qm
      have e : μ1 69 = μ 69 := c2 69 (by decide)
      obtain ⟨μ2, g1, g2, g3⟩ := vm_go (by omega) (bm μ1 e) (by rw [e]; exact r2) (i := i) (by omega) qm
      exact ⟨_, μ1, μ2, c1, g1, vz_hill hR ww d (c2.mono (by decide)) c3.2.2.2 c3.2.1 (c3.2.2.1.mono (show Y + m ≤ Y + 40 by omega)) (by omega) g2.y g3 (fun j hj _ => g2.2.2 j hj)⟩
    · refine ⟨-2, μ, μ, ?_, ?_, hR.mono (by omega)⟩
      · rw [fX9_go, vx_hasT r1 (i := i) (by omega), vp_bind, if_pos vz_T1, vx_inF qm, vp_bind, if_neg vz_F0]
      · rw [fX10_go, vm_rule r2 rfl, if_pos q, vp_bind, if_pos vz_T1, vm_inF qm, vp_bind, if_neg vz_F0]
  · refine ⟨-1, μ, μ, ?_, ?_, hR.mono (by omega)⟩
    · rw [fX9_go, vx_hasF r1 q, vp_bind, if_neg vz_F0]
    · rw [fX10_go, vm_rule r2 rfl, if_neg q, vp_bind, if_neg vz_F0]
theorem vq_lg_in {T : List Int} (h : ∀ t ∈ T, 0 ≤ t ∧ t ≤ 61) : ∀ j, j < T.length → 0 ≤ T.getD j 0 ∧ T.getD j 0 ≤ 61 := fun j hj => by
  rw [List.getD_eq_getElem?_getD, List.getElem?_eq_getElem hj]
  exact h _ (List.getElem_mem hj)
theorem vz_act (r a x : Int) : vz_S (fX9_actw r a x) (fX10_actw r a x) := by
  intro Y μ hY hR
  obtain ⟨h, cl, wk, mv, gr, dr, tn, tp, rn, row, an, ag, n, rk, rv, ld, ww, d, b, r1, r2, bm⟩ := vz_open hR
  obtain ⟨μ1, c1, c2, c3⟩ := vq_actC r1 r a x
  have e : μ1 69 = μ 69 := c2 69 (by decide)
  obtain ⟨μ2, g1, g2, g3, g4⟩ := vq_actM (μ := μ1) (by rw [e]; exact r2) r a x
  have c : ∀ c, c ∉ [66, 67, 68, 77] → μ2 c = μ c := fun c hc => by
    simp at hc
    rw [g2 c (by simp; omega), c2 c (by simp; omega)]
  have hT : (if (0 ≤ r ∧ r < (n : Int)) ∧ (0 ≤ a ∧ a ≤ 2) then vq_tr a (rk r.toNat) else []).length ≤ 10 := by
    split
    · exact vq_tr_len a _
    · decide
  have hI : ∀ t ∈ (if (0 ≤ r ∧ r < (n : Int)) ∧ (0 ≤ a ∧ a ≤ 2) then vq_tr a (rk r.toNat) else []), 0 ≤ t ∧ t ≤ 61 := by
    split
    · exact vq_tr_in a _
    · intro t ht
      simp at ht
  refine ⟨_, μ1, μ2, c1, g1, vz_R.mk ?_ ⟨?_, _, c3.fr (by rw [g2 66 (by decide)]) (g2 67 (by decide)), g4, hT, hI⟩ ?_⟩
  · rw [c 69 (by decide)]
    exact (hR.1.mono (show Y ≤ Y + 40 by omega)).fr (fun j hj _ => c _ (by simp; omega)) rfl
  · have s4 : μ2 68 4 = μ 68 4 := by rw [g3 4 (by decide), c2 68 (by decide)]
    rw [c 0 (by decide), s4]
    rcases hR.2.1 with q | ⟨q1, q2, q3⟩
    · exact Or.inl q
    · exact Or.inr ⟨q1, q2, (q3.mono (show Y ≤ Y + 40 by omega)).fr (fun j hj _ => c _ (by simp; omega)) (c 70 (by decide))⟩
  · rw [c 62 (by decide)]
    exact hR.2.2.2

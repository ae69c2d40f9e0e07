theorem vp_andA_k : vp_fin 9 (fun n => vp_fin 256 (fun s => decide (vr_and (s : Int) (2 ^ n - 1) = (s : Int) % 2 ^ n))) = true := by decide +kernel
theorem vp_andA {s : Int} {n : Nat} (h : 0 ≤ s ∧ s < 256) (hn : n ≤ 8) : vr_and s (2 ^ n - 1) = s % 2 ^ n := by
  obtain ⟨k, rfl⟩ : ∃ k : Nat, s = (k : Int) := ⟨s.toNat, by omega⟩
  exact of_decide_eq_true (vp_fin_at (vp_fin_at vp_andA_k (show n < 9 by omega)) (show k < 256 by omega))
theorem vp_modA {s : Int} {n : Nat} (hn : n ≤ 8) : 0 ≤ s % 2 ^ n ∧ s % 2 ^ n < 256 := by
  rcases (show n = 0 ∨ n = 1 ∨ n = 2 ∨ n = 3 ∨ n = 4 ∨ n = 5 ∨ n = 6 ∨ n = 7 ∨ n = 8 by omega) with rfl | rfl | rfl | rfl | rfl | rfl | rfl | rfl | rfl <;> omega
theorem vn_get {k i : Nat} {μ : vr_M} (hi : (i : Int) < μ k 1) (h1 : vr_R (μ k 1)) (hl : i < vr_ln (k + 1)) (hr : vr_R (μ (k + 1) i)) : fX4_at k (i : Int) μ = some (μ (k + 1) i, μ) := by
  unfold fX4_at fX4_at_B31
  have e1 : ((i : Int)).toNat = i := rfl
  rw [if_neg (by omega), vp_gdT h1, if_neg (by omega), if_neg (by omega), vp_gdT (by omega), e1, vp_gdT hr]
/-- the row of sets, n of them from i on, judged at the village v0 -/
def vj_it (cl : vl_C) (wk mv gr v0 : Int) (N : Nat) (row : Nat → Int) : Nat → Nat → vh_H × (Nat → Int) → vh_H × (Nat → Int)
  | 0, _, st => st
  | d + 1, i, st => vj_it cl wk mv gr v0 N row d (i + 1) (vh_sp cl gr 1 (row i % 2 ^ N) v0 st.1, vt_T st.2 (vh_ha cl wk mv (row i % 2 ^ N) v0 st.1) (vh_we cl wk mv (row i % 2 ^ N) v0 st.1) (vh_dw cl wk mv (row i % 2 ^ N) v0 st.1) (vh_mo v0 st.1))
theorem vj_it_E {cl : vl_C} {wk mv gr v0 : Int} {N : Nat} {row : Nat → Int} : ∀ (d i : Nat) (h : vh_H) (T T' : Nat → Int), vt_E T T' → vt_E (vj_it cl wk mv gr v0 N row d i (h, T)).2 (vj_it cl wk mv gr v0 N row d i (h, T')).2
  | 0, _, _, _, _, e => e
  | d + 1, i, h, T, T', e => by
    rw [vj_it, vj_it]
    refine vj_it_E d (i + 1) _ _ _ ?_
    obtain ⟨e4, e5, e6, e7⟩ := e
    refine ⟨?_, ?_, ?_, ?_⟩
    · simp only [vt_T]; simp [e4]
    · simp only [vt_T]; simp [e5]
    · simp only [vt_T]; simp [e4, e5, e6]
    · simp only [vt_T]; simp [e7]
def vj_row (μ : vr_M) (n : Nat) (row : Nat → Int) : Prop := μ 15 1 = (n : Int) ∧ n ≤ 12 ∧ ∀ i, i < n → μ 16 i = row i ∧ 0 ≤ row i ∧ row i < 256
theorem vt_judgeL {cl : vl_C} {wk mv gr dr v0 : Int} {N c : Nat} {row : Nat → Int} {h0 : vh_H} {Y0 : Int} (hN : h0 5 0 = (N : Int)) (hv0 : h0 5 1 = v0) :
    ∀ (d i n : Nat) (μ : vr_M) (h : vh_H) (Y B : Int), i + d = c → d < n → Y + d ≤ 99998 → B + d ≤ 4999 → vt_B μ h0 cl wk mv gr dr Y0 → vj_row μ c row → vt_H μ h cl Y → vt_R (μ 51) B → vr_R (μ 51 6) → i ≤ c →
      (∃ μ', fX9_judged_L9 n (i : Int) μ = some ((vj_it cl wk mv gr v0 N row d i (h, μ 51)).2 6, μ') ∧ vp_fr vt_TR μ μ' ∧ μ' 62 0 = 0) := by
  intro d
  induction d with
  | zero =>
    intro i n μ h Y B hd hn hY hB hb hr hH hT h6 hi
    obtain ⟨n, rfl⟩ : ∃ m, n = m + 1 := ⟨n - 1, by omega⟩
    have r1 := hr.1
    have r2 := hr.2.1
    refine ⟨μ, ?_, vp_fr.rf, hH.2.2.2⟩
    rw [fX9_judged_L9.eq_2, vp_gdT (by rw [r1]; omega), if_pos (by rw [r1]; omega), vp_gdT h6]
    rfl
  | succ d ih =>
    intro i n μ h Y B hd hn hY hB hb hr hH hT h6 hi
    obtain ⟨n, rfl⟩ : ∃ m, n = m + 1 := ⟨n - 1, by omega⟩
    have r1 := hr.1
    have r2 := hr.2.1
    obtain ⟨q1, q2, q3⟩ := hr.2.2 i (by omega)
    have w0 := hb.2.2.1.1
    have w1 := hb.2.2.1.2.1
    have hN8 : N ≤ 8 := by omega
    have m25 : μ 2 5 = (N : Int) := by rw [← hN, ← hb.2.1]; rfl
    have m26 : μ 2 6 = v0 := by rw [← hv0, ← hb.2.1]; rfl
    have hs := vp_modA (s := row i) hN8
    obtain ⟨t4, t5, t7⟩ := hT
    have hS : vt_S μ h cl wk mv gr dr Y := ⟨hb.1, hH.1, hH.2.1, by omega, by omega, by omega⟩
    obtain ⟨μ1, c1, c2, c3, c4, c5⟩ := vt_spend (by omega) hS hH.2.2.1 (gw := 1) hs (by omega : 0 ≤ v0 ∧ v0 ≤ 40) (by omega)
    have f1 : vp_fr vt_TR μ μ1 := c2.mono (by decide)
    have h62 : μ1 62 0 = 0 := by rw [c2 62 (by decide)]; exact hH.2.2.2
    have hb1 := hb.fr f1 h62
    have hr1 : vj_row μ1 c row := by
      unfold vj_row
      rw [c2 15 (by decide), c2 16 (by decide)]
      exact hr
    have hw : vh_we cl wk mv (row i % 2 ^ N) v0 h = 0 ∨ vh_we cl wk mv (row i % 2 ^ N) v0 h = 1 := by unfold vh_we; split <;> simp
    have hm : vh_mo v0 h = 0 ∨ vh_mo v0 h = 1 := by unfold vh_mo; split <;> simp
    have e3 : (i : Int) + 1 = ((i + 1 : Nat) : Int) := by omega
    obtain ⟨μ', g1, g2, g3⟩ := ih (i + 1) n μ1 (vh_sp cl gr 1 (row i % 2 ^ N) v0 h) (Y + 1) (B + 1) (by omega) (by omega) (by omega) (by omega) hb1 hr1 ⟨c3, vh_sp_wf hH.2.1 (by omega) hb.1.2.2.2.2.1.2, c4, h62⟩ (by
        rw [c5]
        generalize vh_we cl wk mv (row i % 2 ^ N) v0 h = w at *
        generalize vh_mo v0 h = mm at *
        refine ⟨?_, ?_, ?_⟩
        · simp [vt_T]; omega
        · simp [vt_T]; split <;> omega
        · simp [vt_T]; omega) (by
        rw [c5]
        generalize vh_we cl wk mv (row i % 2 ^ N) v0 h = w at *
        generalize vh_mo v0 h = mm at *
        show vr_R (if w = 0 ∧ μ 51 5 = 0 then μ 51 4 else μ 51 6)
        split
        · omega
        · exact h6) (by omega)
    refine ⟨μ', ?_, f1.tr g2, g3⟩
    rw [fX9_judged_L9.eq_2, vp_gdT (by rw [r1]; omega), if_neg (by rw [r1]; omega), vn_get (by rw [r1]; omega) (by rw [r1]; omega) (by show i < 12; omega) (by rw [show 15 + 1 = 16 from rfl, q1]; omega)]
    simp only [vp_bind]
    rw [vk_all hN8 m25]
    simp only [vp_bind]
    simp only [m26]
    rw [vp_gdT (by omega), show 15 + 1 = 16 from rfl, q1, vp_andA (by omega) hN8, c1]
    simp only [vp_bind]
    rw [vp_gdT (by omega), e3, g1, c5]
    rfl
theorem vt_judged {μ : vr_M} {h : vh_H} {cl : vl_C} {wk mv gr dr Y : Int} {N c : Nat} {row : Nat → Int} (hY : Y ≤ 99000) (hb : vt_B μ h cl wk mv gr dr Y) (hN : h 5 0 = (N : Int)) (hr : vj_row μ c row) :
    ∃ μ', fX9_judged μ = some ((vj_it cl wk mv gr (h 5 1) N row c 0 (h, vt_T0)).2 6, μ') ∧ vp_fr vt_TR μ μ' ∧ μ' 62 0 = 0 := by
  obtain ⟨μ1, g1, g2', g3, g4, g6, g7, g8⟩ := vt_beg0 (by omega) hb
  have g2 : vp_fr vt_TR μ μ1 := g2'.mono (by decide)
  have r2 := hr.2.1
  have hr1 : vj_row μ1 c row := by
    unfold vj_row
    rw [g2 15 (by decide), g2 16 (by decide)]
    exact hr
  obtain ⟨μ', k1, k2, k3⟩ := vt_judgeL (c := c) (row := row) hN rfl c 0 9000 μ1 h Y 0 (by omega) (by omega) (by omega) (by omega) g8 hr1 g3 g7 (by rw [g6.2.2.1]; decide) (by omega)
  refine ⟨μ', ?_, g2.tr k2, k3⟩
  rw [fX9_judged, g1]
  simp only [vp_bind]
  rw [show (0 : Int) = ((0 : Nat) : Int) from rfl, k1, (vj_it_E c 0 h _ _ g6).2.2.1]

theorem vo_year {μ : vr_M} {h : vh_H} {cl : vl_C} {wk mv gr dr Y : Int} (hY : Y ≤ 99000) (hb : vt_B μ h cl wk mv gr dr Y) {N : Nat} (hN : h 5 0 = (N : Int)) {s to : Int} (hs : 0 ≤ s ∧ s ≤ 2 ^ N - 1) (ht : 0 ≤ to ∧ to ≤ 40) :
    ∃ μ', fX9_year s to μ = some (vh_ha cl wk mv s to h, μ') ∧ vp_fr ([2, 3, 4, 5, 6, 7] ++ vt_TR) μ μ' ∧ vt_B μ' (vh_sp cl gr 1 s to h) cl wk mv gr dr (Y + 1) := by
  have w0 := hb.2.2.1.1
  have hN8 : N ≤ 8 := by omega
  have m25 : μ 2 5 = (N : Int) := by rw [← hN, ← hb.2.1]; rfl
  have h256 : 2 ^ N ≤ 2 ^ 8 := Nat.pow_le_pow_right (by decide) hN8
  have eP : ((2 ^ N : Nat) : Int) = (2 : Int) ^ N := by simp
  obtain ⟨μ1, g1, g2, g3, g4, g5, g6, g7⟩ := vt_beg0 (by omega) hb
  obtain ⟨t4, t5, t7⟩ := g6
  have hS : vt_S μ1 h cl wk mv gr dr Y := ⟨g4, g3.1, g3.2.1, by omega, by omega, by omega⟩
  obtain ⟨μ2, c1, c2, c3, c4, c5⟩ := vt_spend (by omega) hS g3.2.2.1 (gw := 1) (s := s) (to := to) (by omega) ht (by omega)
  obtain ⟨μ3, j1, j2, j3⟩ := vh_become (k := 2) (k0 := 52) (fun i j hi hj => by omega) μ2
  have e8 : μ3 51 8 = vh_ha cl wk mv s to h := by rw [j2 51 (by decide), c5]; rfl
  have hR := vh_ha_in (wk := wk) (mv := mv) (s := s) (to := to) hb.2.2.1 hb.1.1 hb.1.2.2.2.1.2
  refine ⟨μ3, ?_, ?_, ?_, ?_, ?_, ?_⟩
  · rw [fX9_year, vk_all hN8 m25, vp_bind, vx_inT hs, vp_bind, if_neg (show ¬ (1 : Int) = 0 by decide), vx_inT ht, vp_bind, if_pos (show ¬ (1 : Int) = 0 by decide), g1, vp_bind, c1, vp_bind, j1, vp_bind]
    simp only [e8]
    rw [vp_gdT (by omega)]
  · exact ((g2.mono (T := [2, 3, 4, 5, 6, 7] ++ vt_TR) (by decide)).tr (c2.mono (by decide))).tr (j2.mono (by decide))
  · exact (g4.fr c2 (by intro i hi; simp; omega)).fr j2 (by intro i hi; simp; omega)
  · rw [j3, c3]
  · exact vh_sp_wf hb.2.2.1 ht hb.1.2.2.2.2.1.2
  · rw [j2 62 (by decide), c2 62 (by decide)]
    exact g3.2.2.2
theorem vo_yearF {μ : vr_M} {h : vh_H} {cl : vl_C} {wk mv gr dr Y : Int} (hb : vt_B μ h cl wk mv gr dr Y) {N : Nat} (hN : h 5 0 = (N : Int)) {s to : Int} (hs : ¬ ((0 ≤ s ∧ s ≤ 2 ^ N - 1) ∧ (0 ≤ to ∧ to ≤ 40))) :
    fX9_year s to μ = some (-1002, μ) := by
  have w0 := hb.2.2.1.1
  have hN8 : N ≤ 8 := by omega
  have m25 : μ 2 5 = (N : Int) := by rw [← hN, ← hb.2.1]; rfl
  rw [fX9_year, vk_all hN8 m25, vp_bind]
  by_cases c : 0 ≤ s ∧ s ≤ 2 ^ N - 1
  · rw [vx_inT c, vp_bind, if_neg (show ¬ (1 : Int) = 0 by decide), vx_inF (fun q => hs ⟨c, q⟩), vp_bind]
    rfl
  · rw [vx_inF c, vp_bind]
    rfl
/-- a list of numbers becomes another one -/
theorem vn_put {k : Nat} {μ : vr_M} {c : Nat} {v : Int} (hc : μ k 1 = (c : Int)) (hl : c < vr_ln (k + 1)) (hb : c < 1000000) : fX4_put k v μ = some (((c + 1 : Nat) : Int), vr_u (vr_u μ (k + 1) c v) k 1 ((c + 1 : Nat) : Int)) := by
  have e3 : (c : Int) + 1 = ((c + 1 : Nat) : Int) := by omega
  have e1 : ((c : Int)).toNat = c := rfl
  have m4 : vr_u μ (k + 1) c v k 1 = (c : Int) := by rw [vp_un (by omega), hc]
  unfold fX4_put fX4_put_B39
  rw [hc, vp_gdT (by omega), if_neg (by omega), if_neg (by omega), vp_gdT (by omega), vp_let, e1, m4, e3, vp_us, vp_gdT (by omega)]
theorem vn_becomeL {k k0 : Nat} (hd : k ≠ k0 ∧ k + 1 ≠ k0 ∧ k ≠ k0 + 1) {c : Nat} (hl : c ≤ vr_ln (k + 1)) (hl0 : c ≤ vr_ln (k0 + 1)) (hc9 : c ≤ 8000) :
    ∀ (d i n : Nat) (μ : vr_M), i + d = c → d < n → μ k0 1 = (c : Int) → μ k 1 = (i : Int) → (∀ j, j < c → vr_R (μ (k0 + 1) j)) → (∀ j, j < i → μ (k + 1) j = μ (k0 + 1) j) →
      ∃ μ', fX4_become_L7 k k0 n (i : Int) μ = some (0, μ') ∧ vp_fr [k, k + 1] μ μ' ∧ μ' k 1 = (c : Int) ∧ ∀ j, j < c → μ' (k + 1) j = μ (k0 + 1) j := by
  intro d
  induction d with
  | zero =>
    intro i n μ hdd hn h0 h1 hR hj
    obtain ⟨n, rfl⟩ : ∃ q, n = q + 1 := ⟨n - 1, by omega⟩
    refine ⟨μ, ?_, vp_fr.rf, by omega, fun j hjc => hj j (by omega)⟩
    rw [fX4_become_L7.eq_2, vp_gdT (by omega), if_pos (by omega)]
  | succ d ih =>
    intro i n μ hdd hn h0 h1 hR hj
    obtain ⟨n, rfl⟩ : ∃ q, n = q + 1 := ⟨n - 1, by omega⟩
    have e3 : (i : Int) + 1 = ((i + 1 : Nat) : Int) := by omega
    have a := vn_get (k := k0) (i := i) (μ := μ) (by omega) (by omega) (by omega) (hR i (by omega))
    have p := vn_put (v := μ (k0 + 1) i) h1 (by omega) (by omega)
    have fu : vp_fr [k, k + 1] μ (vr_u (vr_u μ (k + 1) i (μ (k0 + 1) i)) k 1 ((i + 1 : Nat) : Int)) := (vp_fr.u (by simp)).tr (vp_fr.u (by simp))
    have e0 : (vr_u (vr_u μ (k + 1) i (μ (k0 + 1) i)) k 1 ((i + 1 : Nat) : Int)) k0 = μ k0 := fu k0 (by simp; omega)
    have e1 : (vr_u (vr_u μ (k + 1) i (μ (k0 + 1) i)) k 1 ((i + 1 : Nat) : Int)) (k0 + 1) = μ (k0 + 1) := fu (k0 + 1) (by simp; omega)
    obtain ⟨μ', g1, g2, g3, g4⟩ := ih (i + 1) n (vr_u (vr_u μ (k + 1) i (μ (k0 + 1) i)) k 1 ((i + 1 : Nat) : Int)) (by omega) (by omega) (by rw [e0]; exact h0) vp_us (by rw [e1]; exact hR) (fun j hji => by
      rw [e1, vp_un (by omega)]
      by_cases e : j = i
      · subst e; exact vp_us
      · rw [vp_uj e]; exact hj j (by omega))
    rw [e1] at g4
    refine ⟨μ', ?_, fu.tr g2, g3, g4⟩
    rw [fX4_become_L7.eq_2, vp_gdT (by omega), if_neg (by omega), a, vp_bind, p, vp_bind, vp_gdT (by omega), e3, g1]
theorem vn_become {k k0 : Nat} (hd : k ≠ k0 ∧ k + 1 ≠ k0 ∧ k ≠ k0 + 1) {c : Nat} (hl : c ≤ vr_ln (k + 1)) (hl0 : c ≤ vr_ln (k0 + 1)) (hc9 : c ≤ 8000) {μ : vr_M} (h0 : μ k0 1 = (c : Int)) (hR : ∀ j, j < c → vr_R (μ (k0 + 1) j)) :
    ∃ μ', fX4_become k k0 μ = some (0, μ') ∧ vp_fr [k, k + 1] μ μ' ∧ μ' k 1 = (c : Int) ∧ ∀ j, j < c → μ' (k + 1) j = μ (k0 + 1) j := by
  have fu : vp_fr [k, k + 1] μ (vr_u μ k 1 0) := vp_fr.u (by simp)
  have e0 : (vr_u μ k 1 0) k0 = μ k0 := fu k0 (by simp; omega)
  have e1 : (vr_u μ k 1 0) (k0 + 1) = μ (k0 + 1) := fu (k0 + 1) (by simp; omega)
  obtain ⟨μ', g1, g2, g3, g4⟩ := vn_becomeL hd hl hl0 hc9 c 0 9000 (vr_u μ k 1 0) (by omega) (by omega) (by rw [e0]; exact h0) vp_us (by rw [e1]; exact hR) (fun j hj => by omega)
  rw [e1] at g4
  exact ⟨μ', g1, fu.tr g2, g3, g4⟩

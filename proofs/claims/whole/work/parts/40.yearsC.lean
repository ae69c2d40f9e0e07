/-- a hill becomes another one -/
theorem vh_becomeL {k k0 : Nat} (hd : ∀ i j, i < 6 → j < 6 → k + i ≠ k0 + j) : ∀ (d i n : Nat) (μ : vr_M), 8 - i = d → i ≤ 8 → 8 < i + n → (∀ f p, f < 5 → p < i → μ (k + 1 + f) p = μ (k0 + 1 + f) p) →
    ∃ μ', fX2_become_L2 k k0 n (i : Int) μ = some (0, μ') ∧ (∀ c, (∀ j, j < 6 → c ≠ k + j) → μ' c = μ c) ∧ vh_c μ' k = vh_c μ k0 := by
  intro d
  induction d with
  | zero =>
    intro i n μ hdd hi hn hc
    obtain ⟨n, rfl⟩ : ∃ m, n = m + 1 := ⟨n - 1, by omega⟩
    have : i = 8 := by omega
    subst this
    have hk : k0 ≠ k := fun q => hd 0 0 (by decide) (by decide) (by omega)
    rw [fX2_become_L2.eq_2, if_pos (by decide)]
    refine ⟨vr_u (vr_u (vr_u (vr_u μ k 5 (μ k0 5)) k 6 (μ k0 6)) k 7 (μ k0 7)) k 8 (μ k0 8), ?_, fun c hcc => ?_, ?_⟩
    · simp only [vp_let, vp_un hk]
    · have := hcc 0 (by decide)
      simp only [Nat.add_zero] at this
      simp only [vp_uc this]
    · rw [show (8 : Nat) = 5 + 3 from rfl, vh_c_u5 (by decide), show (7 : Nat) = 5 + 2 from rfl, vh_c_u5 (by decide), show (6 : Nat) = 5 + 1 from rfl, vh_c_u5 (by decide), show (5 : Nat) = 5 + 0 from rfl, vh_c_u5 (by decide)]
      funext f p
      unfold vh_up vh_c
      by_cases hf : f < 5
      · have h5 : ¬ f = 5 := by omega
        by_cases hp : p < 8
        · simp only [h5, false_and, if_false, hf, if_true, hp]
          exact hc f p hf hp
        · simp only [h5, false_and, if_false, hf, if_true, hp]
      · by_cases h5 : f = 5
        · subst h5
          by_cases hp : p < 4
          · rcases (show p = 0 ∨ p = 1 ∨ p = 2 ∨ p = 3 by omega) with rfl | rfl | rfl | rfl <;> simp
          · have : ¬ p = 0 ∧ ¬ p = 1 ∧ ¬ p = 2 ∧ ¬ p = 3 := by omega
            simp [hp, this]
        · simp [hf, h5]
  | succ d ih =>
    intro i n μ hdd hi hn hc
    obtain ⟨n, rfl⟩ : ∃ m, n = m + 1 := ⟨n - 1, by omega⟩
    have e1 : ((i : Int)).toNat = i := rfl
    have e3 : (i : Int) + 1 = ((i + 1 : Nat) : Int) := by omega
    have ne : ∀ a b, a < 5 → b < 5 → k0 + 1 + a ≠ k + 1 + b := fun a b ha hb q => hd (1 + b) (1 + a) (by omega) (by omega) (by omega)
    have hk1 : k0 + 1 ≠ k + 1 ∧ k0 + 2 ≠ k + 1 ∧ k0 + 2 ≠ k + 2 ∧ k0 + 3 ≠ k + 1 ∧ k0 + 3 ≠ k + 2 ∧ k0 + 3 ≠ k + 3 ∧ k0 + 4 ≠ k + 1 ∧ k0 + 4 ≠ k + 2 ∧ k0 + 4 ≠ k + 3 ∧ k0 + 4 ≠ k + 4 ∧ k0 + 5 ≠ k + 1 ∧ k0 + 5 ≠ k + 2 ∧ k0 + 5 ≠ k + 3 ∧ k0 + 5 ≠ k + 4 := by
      have := ne 0 0; have := ne 1 0; have := ne 1 1; have := ne 2 0; have := ne 2 1; have := ne 2 2; have := ne 3 0; have := ne 3 1; have := ne 3 2; have := ne 3 3; have := ne 4 0; have := ne 4 1; have := ne 4 2; have := ne 4 3
      omega
    obtain ⟨n1, n2, n3, n4, n5, n6, n7, n8, n9, n10, n11, n12, n13, n14⟩ := hk1
    generalize hM : vr_u (vr_u (vr_u (vr_u (vr_u μ (k + 1) i (μ (k0 + 1) i)) (k + 2) i (μ (k0 + 2) i)) (k + 3) i (μ (k0 + 3) i)) (k + 4) i (μ (k0 + 4) i)) (k + 5) i (μ (k0 + 5) i) = M
    have fM : ∀ c, (∀ j, j < 6 → c ≠ k + j) → M c = μ c := by
      intro c hcc
      rw [← hM, vp_uc (hcc 5 (by decide)), vp_uc (hcc 4 (by decide)), vp_uc (hcc 3 (by decide)), vp_uc (hcc 2 (by decide)), vp_uc (hcc 1 (by decide))]
    have M0 : ∀ f, f < 5 → M (k0 + 1 + f) = μ (k0 + 1 + f) := fun f hf => fM _ (fun j hj q => by rcases Nat.eq_zero_or_pos j with rfl | hj0; exact hd 0 (1 + f) (by decide) (by omega) (by omega); exact ne f (j - 1) hf (by omega) (by omega))
    obtain ⟨μ', g1, g2, g3⟩ := ih (i + 1) n M (by omega) (by omega) (by omega) (fun f p hf hp => by
      rw [M0 f hf]
      by_cases e : p = i
      · subst e
        rw [← hM]
        rcases (show f = 0 ∨ f = 1 ∨ f = 2 ∨ f = 3 ∨ f = 4 by omega) with rfl | rfl | rfl | rfl | rfl <;> simp [vr_u]
      · have : M (k + 1 + f) p = μ (k + 1 + f) p := by
          rw [← hM, vp_uj e, vp_uj e, vp_uj e, vp_uj e, vp_uj e]
        rw [this]
        exact hc f p hf (by omega))
    have hcM : vh_c M k0 = vh_c μ k0 := vh_c_fr (fun j hj => fM _ (fun a ha q => hd a j ha hj q.symm))
    refine ⟨μ', ?_, fun c hcc => (g2 c hcc).trans (fM c hcc), by rw [g3, hcM]⟩
    rw [fX2_become_L2.eq_2, if_neg (by omega), vp_gdT (by omega), e1]
    simp only [vp_let, vp_un n1, vp_un n2, vp_un n3, vp_un n4, vp_un n5, vp_un n6, vp_un n7, vp_un n8, vp_un n9, vp_un n10, vp_un n11, vp_un n12, vp_un n13, vp_un n14, hM]
    rw [vp_gdT (by omega), e3, g1]
theorem vh_become {k k0 : Nat} (hd : ∀ i j, i < 6 → j < 6 → k + i ≠ k0 + j) (μ : vr_M) : ∃ μ', fX2_become k k0 μ = some (0, μ') ∧ vp_fr [k, k + 1, k + 2, k + 3, k + 4, k + 5] μ μ' ∧ vh_c μ' k = vh_c μ k0 := by
  obtain ⟨μ', g1, g2, g3⟩ := vh_becomeL hd 8 0 9000 μ rfl (by omega) (by omega) (fun f p hf hp => by omega)
  refine ⟨μ', g1, fun c hc => g2 c (fun j hj q => hc ?_), g3⟩
  subst q
  rcases (show j = 0 ∨ j = 1 ∨ j = 2 ∨ j = 3 ∨ j = 4 ∨ j = 5 by omega) with rfl | rfl | rfl | rfl | rfl | rfl <;> simp
theorem vt_begin {μ : vr_M} {h : vh_H} {cl : vl_C} {wk mv gr dr Y : Int} (hY : Y ≤ 100000) (hL : vt_L μ cl wk mv gr dr) (hc : vh_c μ 2 = h) (hh : vh_wf Y h) :
    ∃ μ', fX7_begin μ = some (0, μ') ∧ vp_fr [12, 51, 52, 53, 54, 55, 56, 57, 59] μ μ' ∧ vh_c μ' 52 = h ∧ vh_ripe μ' cl ∧ μ' 51 4 = 0 ∧ μ' 51 5 = 0 ∧ μ' 51 6 = -5 ∧ μ' 51 7 = 0 := by
  obtain ⟨μ1, k1, k2, k3⟩ := vh_become (k := 52) (k0 := 2) (fun i j hi hj => by omega) μ
  have hL1 := hL.fr k2 (by intro i hi; simp; omega)
  have hc1 : vh_c μ1 52 = h := k3.trans hc
  obtain ⟨μ2, g1, g2, g3⟩ := vh_lookC (cl := cl) (Y := Y) (μ := μ1) hY hL1.1 hL1.2.1 (by rw [hc1]; exact hh)
  have f2 : vp_fr [51] μ2 (vr_u (vr_u (vr_u (vr_u μ2 51 4 0) 51 5 0) 51 6 (-5)) 51 7 0) := (((vp_fr.u (by decide)).tr (vp_fr.u (by decide))).tr (vp_fr.u (by decide))).tr (vp_fr.u (by decide))
  have c2 : vh_c μ2 52 = h := (vh_c_fr (fun j hj => g2 _ (by simp; omega))).trans hc1
  have c3 : vh_c (vr_u (vr_u (vr_u (vr_u μ2 51 4 0) 51 5 0) 51 6 (-5)) 51 7 0) 52 = h := (vh_c_fr (fun j hj => f2 _ (by simp; omega))).trans c2
  refine ⟨vr_u (vr_u (vr_u (vr_u μ2 51 4 0) 51 5 0) 51 6 (-5)) 51 7 0, ?_, ((k2.mono (by decide)).tr (g2.mono (by decide))).tr (f2.mono (by decide)), c3, fun p hp => ?_, ?_, ?_, ?_, ?_⟩
  · unfold fX7_begin
    rw [k1]
    simp only [vp_bind]
    rw [g1]
    simp only [vp_bind]
  · rw [f2 59 (by decide), f2 52 (by decide), c3, g3 p hp, c2]
  · rw [vp_uj (by decide), vp_uj (by decide), vp_uj (by decide), vp_us]
  · rw [vp_uj (by decide), vp_uj (by decide), vp_us]
  · rw [vp_uj (by decide), vp_us]
  · rw [vp_us]
/-- a year by a rule: the hill, the trial's numbers -/
def vy_to (kind v : Int) (cl : vl_C) (wk mv : Int) (h : vh_H) : Int := vk_gl kind v h cl wk mv
def vy_s (kind v : Int) (cl : vl_C) (wk mv : Int) (h : vh_H) : Int := vk_pk kind v h cl wk (vy_to kind v cl wk mv h)
def vy_h (kind v : Int) (cl : vl_C) (wk mv gr gw : Int) (h : vh_H) : vh_H := vh_sp cl gr gw (vy_s kind v cl wk mv h) (vy_to kind v cl wk mv h) h
def vy_T (kind v : Int) (cl : vl_C) (wk mv : Int) (h : vh_H) (T : Nat → Int) : Nat → Int :=
  vt_T T (vh_ha cl wk mv (vy_s kind v cl wk mv h) (vy_to kind v cl wk mv h) h) (vh_we cl wk mv (vy_s kind v cl wk mv h) (vy_to kind v cl wk mv h) h) (vh_dw cl wk mv (vy_s kind v cl wk mv h) (vy_to kind v cl wk mv h) h) (vh_mo (vy_to kind v cl wk mv h) h)
def vt_R (T : Nat → Int) (B : Int) : Prop := (0 ≤ T 4 ∧ T 4 ≤ B) ∧ (0 ≤ T 5 ∧ T 5 ≤ B) ∧ (0 ≤ T 7 ∧ T 7 ≤ B)
theorem vt_year {μ : vr_M} {h : vh_H} {cl : vl_C} {wk mv gr dr kind v Y : Int} (hY : Y ≤ 99998) (hL : vt_L μ cl wk mv gr dr) (hK : vt_K μ kind v) (hH : vt_H μ h cl Y) {B : Int} (hB : B ≤ 4999) (hT : vt_R (μ 51) B) {gw : Int} :
    ∃ μ1 μ2 μ', fX0_goal μ = some (vy_to kind v cl wk mv h, μ1) ∧ fX0_picks (vy_to kind v cl wk mv h) μ1 = some (vy_s kind v cl wk mv h, μ2) ∧ fX7_spend (vy_s kind v cl wk mv h) (vy_to kind v cl wk mv h) gw μ2 = some (0, μ') ∧ vp_fr [12, 51, 52, 55, 56, 57, 59, 60, 61, 62] μ μ' ∧ vt_H μ' (vy_h kind v cl wk mv gr gw h) cl (Y + 1) ∧ μ' 51 = vy_T kind v cl wk mv h (μ 51) ∧ vt_R (μ' 51) (B + 1) ∧ vt_L μ' cl wk mv gr dr ∧ vt_K μ' kind v := by
  obtain ⟨μ1, a1, a2, a3, a4⟩ := vk_goal (kind := kind) (v := v) (by omega) hL hK hH
  have hL1 := hL.fr a2 (by intro i hi; simp; omega)
  have hK1 := hK.fr a2 (by decide)
  have hH1 := hH.fr a2 (by intro i hi; simp; omega) (by decide) a3
  obtain ⟨μ2, b1, b2, b3, b4⟩ := vk_picks (by omega) a4 hL1 hK1 hH1
  have hL2 := hL1.fr b2 (by intro i hi; simp; omega)
  have hK2 := hK1.fr b2 (by decide)
  have hH2 := hH1.fr b2 (by intro i hi; simp; omega) (by decide) b3
  have f2 := a2.tr b2
  have r2 : μ2 51 = μ 51 := f2 51 (by decide)
  obtain ⟨t4, t5, t7⟩ := hT
  have hS : vt_S μ2 h cl wk mv gr dr Y := ⟨hL2, hH2.1, hH2.2.1, by rw [r2]; omega, by rw [r2]; omega, by rw [r2]; omega⟩
  obtain ⟨μ', c1, c2, c3, c4, c5⟩ := vt_spend hY hS hH2.2.2.1 (gw := gw) b4 a4 (by rw [r2]; omega)
  have f' : vp_fr [12, 51, 52, 55, 56, 57, 59, 60, 61, 62] μ μ' := (f2.mono (by decide)).tr (c2.mono (by decide))
  rw [r2] at c5
  refine ⟨μ1, μ2, μ', a1, b1, c1, f', ⟨c3, vh_sp_wf hH.2.1 a4 hL.2.2.2.2.1.2, c4, by rw [c2 62 (by decide), b3]⟩, c5, ?_, hL2.fr c2 (by intro i hi; simp; omega), hK2.fr c2 (by decide)⟩
  rw [c5]
  have hw : vh_we cl wk mv (vk_pk kind v h cl wk (vk_gl kind v h cl wk mv)) (vk_gl kind v h cl wk mv) h = 0 ∨ vh_we cl wk mv (vk_pk kind v h cl wk (vk_gl kind v h cl wk mv)) (vk_gl kind v h cl wk mv) h = 1 := by unfold vh_we; split <;> simp
  have hm : vh_mo (vk_gl kind v h cl wk mv) h = 0 ∨ vh_mo (vk_gl kind v h cl wk mv) h = 1 := by unfold vh_mo; split <;> simp
  generalize vh_we cl wk mv (vk_pk kind v h cl wk (vk_gl kind v h cl wk mv)) (vk_gl kind v h cl wk mv) h = w at *
  generalize vh_mo (vk_gl kind v h cl wk mv) h = mm at *
  refine ⟨?_, ?_, ?_⟩
  · simp [vt_T]; omega
  · simp [vt_T]; split <;> omega
  · simp [vt_T]; omega
def vy_it (kind v : Int) (cl : vl_C) (wk mv gr gw : Int) : Nat → vh_H × (Nat → Int) → vh_H × (Nat → Int)
  | 0, st => st
  | m + 1, st => vy_it kind v cl wk mv gr gw m (vy_h kind v cl wk mv gr gw st.1, vy_T kind v cl wk mv st.1 st.2)
theorem vt_yearsL {cl : vl_C} {wk mv gr dr kind v : Int} {x1 gw : Int} (hx1 : 0 ≤ x1 ∧ x1 ≤ 4000) :
    ∀ (d i n : Nat) (μ : vr_M) (h : vh_H) (Y B : Int), x1 - (i : Int) = (d : Int) → d < n → Y + d ≤ 99998 → B + d ≤ 4999 → vt_L μ cl wk mv gr dr → vt_K μ kind v → vt_H μ h cl Y → vt_R (μ 51) B →
      ∃ μ', fX7_spendYears_L2 n x1 gw (i : Int) μ = some (0, μ') ∧ vp_fr [12, 51, 52, 55, 56, 57, 59, 60, 61, 62] μ μ' ∧ vt_H μ' (vy_it kind v cl wk mv gr gw d (h, μ 51)).1 cl (Y + d) ∧ μ' 51 = (vy_it kind v cl wk mv gr gw d (h, μ 51)).2 ∧ vt_R (μ' 51) (B + d) ∧ vt_L μ' cl wk mv gr dr ∧ vt_K μ' kind v := by
  intro d
  induction d with
  | zero =>
    intro i n μ h Y B hd hn hY hB hL hK hH hT
    obtain ⟨n, rfl⟩ : ∃ m, n = m + 1 := ⟨n - 1, by omega⟩
    refine ⟨μ, ?_, vp_fr.rf, ?_, rfl, ?_, hL, hK⟩
    · rw [fX7_spendYears_L2.eq_2, if_pos (by omega)]
    · rw [show Y + ((0 : Nat) : Int) = Y by omega]; exact hH
    · rw [show B + ((0 : Nat) : Int) = B by omega]; exact hT
  | succ d ih =>
    intro i n μ h Y B hd hn hY hB hL hK hH hT
    obtain ⟨n, rfl⟩ : ∃ m, n = m + 1 := ⟨n - 1, by omega⟩
    obtain ⟨μ1, μ2, μ3, a1, a2, a3, a4, a5, a6, a7, a8, a9⟩ := vt_year (gw := gw) (B := B) (by omega : Y ≤ 99998) hL hK hH (by omega) hT
    obtain ⟨μ', g1, g2, g3, g4, g5, g6, g7⟩ := ih (i + 1) n μ3 (vy_h kind v cl wk mv gr gw h) (Y + 1) (B + 1) (by omega) (by omega) (by omega) (by omega) a8 a9 a5 a7
    have e3 : (i : Int) + 1 = ((i + 1 : Nat) : Int) := by omega
    rw [a6] at g3 g4
    refine ⟨μ', ?_, a4.tr g2, ?_, g4, ?_, g6, g7⟩
    · rw [fX7_spendYears_L2.eq_2, if_neg (by omega), a1]
      simp only [vp_bind]
      rw [a2]
      simp only [vp_bind]
      rw [a3]
      simp only [vp_bind]
      rw [vp_gdT (by omega), e3, g1]
    · rw [show Y + ((d + 1 : Nat) : Int) = Y + 1 + (d : Int) by omega]; exact g3
    · rw [show B + ((d + 1 : Nat) : Int) = B + 1 + (d : Int) by omega]; exact g5

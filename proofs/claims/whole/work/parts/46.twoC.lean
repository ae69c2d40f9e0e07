theorem vx_in {a lo hi : Int} {μ : vr_M} : fX9_within a lo hi μ = some (if lo ≤ a ∧ a ≤ hi then 1 else 0, μ) := by
  unfold fX9_within fX9_within_B14 fX9_within_B15
  by_cases h1 : a < lo
  · rw [if_pos h1, if_neg (by omega), vp_gdT (by decide)]
  · rw [if_neg h1]
    by_cases h2 : hi < a
    · rw [if_pos h2, if_neg (by omega), vp_gdT (by decide)]
    · rw [if_neg h2, if_pos (by omega), vp_gdT (by decide)]
theorem vx_inT {a lo hi : Int} {μ : vr_M} (h : lo ≤ a ∧ a ≤ hi) : fX9_within a lo hi μ = some (1, μ) := by rw [vx_in, if_pos h]
theorem vx_inF {a lo hi : Int} {μ : vr_M} (h : ¬ (lo ≤ a ∧ a ≤ hi)) : fX9_within a lo hi μ = some (0, μ) := by rw [vx_in, if_neg h]
theorem vp_not_k : vp_fin 9 (fun n => vp_fin 256 (fun s => decide (2 ^ n ≤ s) || decide (vr_and (2 ^ n - 1) (vr_xor (s : Int) (-1)) = 2 ^ n - 1 - (s : Int)))) = true := by decide +kernel
theorem vp_not {s n : Nat} (hn : n ≤ 8) (hs : s < 2 ^ n) : vr_and (2 ^ n - 1) (vr_xor (s : Int) (-1)) = 2 ^ n - 1 - (s : Int) := by
  have h256 : 2 ^ n ≤ 2 ^ 8 := Nat.pow_le_pow_right (by decide) hn
  have h := vp_fin_at (vp_fin_at vp_not_k (show n < 9 by omega)) (show s < 256 by omega)
  rw [Bool.or_eq_true] at h
  rcases h with h | h
  · exact absurd (of_decide_eq_true h) (by omega)
  · exact of_decide_eq_true h
/-- parts of the hill that feed both halves -/
def vy_two (h : vh_H) (cl : vl_C) (wk v1 half : Int) (N : Nat) : Nat → Nat → Int → Int
  | 0, _, c => c
  | d + 1, i, c => vy_two h cl wk v1 half N d (i + 1) (if half ≤ vh_go h cl wk (i : Int) (h 5 1) ∧ half ≤ vh_go h cl wk (2 ^ N - 1 - (i : Int)) v1 then c + 1 else c)
theorem vt_twoL {μ : vr_M} {h : vh_H} {cl : vl_C} {wk mv gr dr Y : Int} (hY : Y ≤ 99000) (hb : vt_B μ h cl wk mv gr dr Y) (hH : vt_H μ h cl Y) {v1 half : Int} (hv1 : 0 ≤ v1 ∧ v1 ≤ 40) {N : Nat} (hN : h 5 0 = (N : Int)) :
    ∀ (d i n : Nat) (c : Int), i + d = 2 ^ N → d < n → 0 ≤ c ∧ c ≤ i → fX9_two_L40 n v1 half c (i : Int) μ = some (vy_two h cl wk v1 half N d i c, μ) := by
  have w := hb.2.2.1
  have w0 := w.1
  have w1 := w.2.1
  have hN8 : N ≤ 8 := by omega
  have h256 : 2 ^ N ≤ 2 ^ 8 := Nat.pow_le_pow_right (by decide) hN8
  have eP : ((2 ^ N : Nat) : Int) = (2 : Int) ^ N := by simp
  have m25 : μ 2 5 = (N : Int) := by rw [← hN, ← hb.2.1]; rfl
  have m26 : μ 2 6 = h 5 1 := by rw [← hb.2.1]; rfl
  have hwk := hb.1.2.2.1
  have hg : ∀ s v : Int, 0 ≤ s ∧ s < 256 → 0 ≤ v ∧ v ≤ 40 → fX0_giftOf s v μ = some (vh_go h cl wk s v, μ) := fun s v hs hv => by
    have := vh_giftOf (cl := cl) (Y := Y) (μ := μ) (by omega) hb.1.1 (by rw [hH.1]; exact hH.2.1) hH.2.2.1 hs hv (by rw [hwk.1]; omega)
    rw [this, hH.1, hwk.1]
  have hall := vk_all (k := 2) hN8 m25
  intro d
  induction d with
  | zero =>
    intro i n c hd hn hc
    obtain ⟨n, rfl⟩ : ∃ m, n = m + 1 := ⟨n - 1, by omega⟩
    rw [fX9_two_L40.eq_2, hall, vp_bind, if_pos (by omega)]
    rfl
  | succ d ih =>
    intro i n c hd hn hc
    obtain ⟨n, rfl⟩ : ∃ m, n = m + 1 := ⟨n - 1, by omega⟩
    have e3 : (i : Int) + 1 = ((i + 1 : Nat) : Int) := by omega
    have g1 := hg (i : Int) (h 5 1) (by omega) (by omega)
    have hnot := vp_not (s := i) hN8 (by omega)
    have g2 := hg (2 ^ N - 1 - (i : Int)) v1 (by omega) hv1
    have hB : ∀ c', 0 ≤ c' ∧ c' ≤ (i : Int) + 1 → fX9_two_B126 (fX9_two_L40 n) v1 half c' (i : Int) μ = some (vy_two h cl wk v1 half N d (i + 1) c', μ) := fun c' hc' => by
      rw [fX9_two_B126, vp_gdT (by omega), e3, ih (i + 1) n c' (by omega) (by omega) (by omega)]
    rw [fX9_two_L40.eq_2, hall, vp_bind, if_neg (by omega)]
    simp only [m26]
    rw [vp_gdT (by omega), g1, vp_bind, vy_two]
    by_cases c1 : vh_go h cl wk (i : Int) (h 5 1) < half
    · rw [if_pos c1, fX9_two_B86, if_pos rfl, hB c (by omega), if_neg (by omega)]
    · rw [if_neg c1, fX9_two_B86, if_neg (by decide), hall, vp_bind, hnot, g2, vp_bind]
      by_cases c2 : vh_go h cl wk (2 ^ N - 1 - (i : Int)) v1 < half
      · rw [if_pos c2, hB c (by omega), if_neg (by omega)]
      · rw [if_neg c2, vp_gdT (by omega), hB (c + 1) (by omega), if_pos (by omega)]
theorem vt_two {μ : vr_M} {h : vh_H} {cl : vl_C} {wk mv gr dr Y : Int} (hY : Y ≤ 99000) (hb : vt_B μ h cl wk mv gr dr Y) {v1 : Int} {N : Nat} (hN : h 5 0 = (N : Int)) :
    ∃ μ', fX9_two v1 μ = some (if 0 ≤ v1 ∧ v1 ≤ 40 then vy_two h cl wk v1 ((h 5 2 + 1) / 2) N (2 ^ N) 0 0 else -2, μ') ∧ vp_fr vt_TR μ μ' ∧ μ' 62 0 = 0 := by
  rw [fX9_two]
  by_cases c : 0 ≤ v1 ∧ v1 ≤ 40
  · obtain ⟨μ1, g1, g2, g3, g4, g5, g6, g7⟩ := vt_beg0 (by omega) hb
    have w := hb.2.2.1
    have w0 := w.1
    have w2 := w.2.2.1
    have hN8 : N ≤ 8 := by omega
    have h256 : 2 ^ N ≤ 2 ^ 8 := Nat.pow_le_pow_right (by decide) hN8
    have m27 : μ1 2 7 = h 5 2 := by rw [← g7.2.1]; rfl
    have k := vt_twoL hY g7 g3 c hN (half := (h 5 2 + 1) / 2) (2 ^ N) 0 9000 0 (by omega) (by omega) (by omega)
    have k' : fX9_two_L40 9000 v1 ((h 5 2 + 1) / 2) 0 0 μ1 = some (vy_two h cl wk v1 ((h 5 2 + 1) / 2) N (2 ^ N) 0 0, μ1) := k
    refine ⟨μ1, ?_, g2.mono (by decide), g3.2.2.2⟩
    rw [vx_inT c, vp_bind, if_pos (by decide : ¬ (1 : Int) = 0), g1, vp_bind]
    simp only [m27]
    rw [Int.tdiv_eq_ediv_of_nonneg (by omega), vp_gdT (by omega), vp_gdT (by omega), k', if_pos c]
  · refine ⟨μ, ?_, vp_fr.rf, hb.2.2.2⟩
    rw [vx_inF c, vp_bind, if_neg c]
    rfl
/-- what is won when the walk is x longer -/
def vy_way (h : vh_H) (cl : vl_C) (wk x : Int) (N : Nat) : Nat → Nat → Int → Int
  | 0, _, c => c
  | d + 1, i, c => vy_way h cl wk x N d (i + 1) (c + vh_gi h cl i (h 5 1) (wk + x) - vh_gi h cl i (h 5 1) wk)
theorem vh_gi_in {Y : Int} {h : vh_H} {cl : vl_C} {p : Nat} {v wk : Int} (hh : vh_wf Y h) (hw : vl_wf cl) (hp : p < 8) : 0 ≤ vh_gi h cl p v wk ∧ vh_gi h cl p v wk ≤ 990 := by
  unfold vh_gi
  split
  · exact vh_ri_in hh hw hp
  · omega
theorem vt_wayL {μ : vr_M} {h : vh_H} {cl : vl_C} {wk mv gr dr Y : Int} (hY : Y ≤ 99000) (hb : vt_B μ h cl wk mv gr dr Y) (hH : vt_H μ h cl Y) {x : Int} (hx : 0 ≤ x ∧ x ≤ 40) {N : Nat} (hN : h 5 0 = (N : Int)) :
    ∀ (d i n : Nat) (c : Int), i + d = N → d < n → -1000 * (i : Int) ≤ c ∧ c ≤ 1000 * (i : Int) → fX9_way_L24 n x c (i : Int) μ = some (vy_way h cl wk x N d i c, μ) := by
  have w := hb.2.2.1
  have w0 := w.1
  have w1 := w.2.1
  have hN8 : N ≤ 8 := by omega
  have m25 : μ 2 5 = (N : Int) := by rw [← hN, ← hb.2.1]; rfl
  have m26 : μ 2 6 = h 5 1 := by rw [← hb.2.1]; rfl
  have m52 : μ 52 5 = (N : Int) := by rw [← hN, ← hH.1]; rfl
  have hwk := hb.1.2.2.1
  have hg : ∀ (i : Nat) (k : Int), i < N → vr_R k → fX0_gift (i : Int) (h 5 1) k μ = some (vh_gi h cl i (h 5 1) k, μ) := fun i k hi hk => by
    have := vh_gift (cl := cl) (Y := Y) (μ := μ) (by omega) hb.1.1 (by rw [hH.1]; exact hH.2.1) hH.2.2.1 (p := i) (v := h 5 1) (wk := k) (by omega) (by omega) hk
    rw [this, if_pos (by omega), hH.1]
  intro d
  induction d with
  | zero =>
    intro i n c hd hn hc
    obtain ⟨n, rfl⟩ : ∃ m, n = m + 1 := ⟨n - 1, by omega⟩
    rw [fX9_way_L24.eq_2, vp_gdT (by omega), if_pos (by omega)]
    rfl
  | succ d ih =>
    intro i n c hd hn hc
    obtain ⟨n, rfl⟩ : ∃ m, n = m + 1 := ⟨n - 1, by omega⟩
    have e3 : (i : Int) + 1 = ((i + 1 : Nat) : Int) := by omega
    have b1 := vh_gi_in (v := h 5 1) (wk := wk + x) (p := i) w hb.1.1 (by omega)
    have b2 := vh_gi_in (v := h 5 1) (wk := wk) (p := i) w hb.1.1 (by omega)
    have g1 := hg i (wk + x) (by omega) (by omega)
    have g2 := hg i wk (by omega) (by omega)
    rw [fX9_way_L24.eq_2, vp_gdT (by omega), if_neg (by omega)]
    simp only [m26, hwk.1]
    rw [vp_gdT (by omega), vp_gdT (by omega), g1, vp_bind]
    simp only [m26, hwk.1]
    rw [vp_gdT (by omega), vp_gdT (by omega), g2, vp_bind, vp_gdT (by omega), vp_gdT (by omega), e3, ih (i + 1) n _ (by omega) (by omega) (by omega)]
    rfl
theorem vt_way {μ : vr_M} {h : vh_H} {cl : vl_C} {wk mv gr dr Y : Int} (hY : Y ≤ 99000) (hb : vt_B μ h cl wk mv gr dr Y) {x : Int} {N : Nat} (hN : h 5 0 = (N : Int)) :
    ∃ μ', fX9_way x μ = some (if 0 ≤ x ∧ x ≤ 40 then vy_way h cl wk x N N 0 0 else -2, μ') ∧ vp_fr vt_TR μ μ' ∧ μ' 62 0 = 0 := by
  rw [fX9_way]
  by_cases c : 0 ≤ x ∧ x ≤ 40
  · obtain ⟨μ1, g1, g2, g3, g4, g5, g6, g7⟩ := vt_beg0 (by omega) hb
    have w0 := hb.2.2.1.1
    have k := vt_wayL hY g7 g3 c hN N 0 9000 0 (by omega) (by omega) (by omega)
    have k' : fX9_way_L24 9000 x 0 0 μ1 = some (vy_way h cl wk x N N 0 0, μ1) := k
    refine ⟨μ1, ?_, g2.mono (by decide), g3.2.2.2⟩
    rw [vx_inT c, vp_bind, if_pos (by decide : ¬ (1 : Int) = 0), g1, vp_bind, k', if_pos c]
  · refine ⟨μ, ?_, vp_fr.rf, hb.2.2.2⟩
    rw [vx_inF c, vp_bind, if_neg c]
    rfl

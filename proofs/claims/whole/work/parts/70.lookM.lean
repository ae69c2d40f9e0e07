theorem vp_so {P Q : Prop} [Decidable P] [Decidable Q] {a b : Int} {μ : vr_M} (h : P ↔ Q) : some ((if P then a else b), μ) = some ((if Q then a else b), μ) := by rw [vp_cs h]
def vm_gn (μ : vr_M) (G : Nat → Int) (N : Nat) : Prop := ∀ p, p < N → μ 74 p = G p
theorem vm_lookL {h : vh_H} {cl : vl_C} {wk mv gr dr Y v : Int} (hY : Y ≤ 100000) (hw : vh_wf Y h) (hv : 0 ≤ v ∧ v ≤ 40) {N : Nat} (hN : h 5 0 = (N : Int)) :
    ∀ (d p n : Nat) (μ : vr_M), p + d = N → d < n → vm_h μ = h → vm_L μ cl wk mv gr dr → vm_gn μ (vh_G h cl v wk) p →
      ∃ μ', fX10_looksAt_L2 n v (p : Int) μ = some (0, μ') ∧ vm_Z μ μ' ∧ vm_gn μ' (vh_G h cl v wk) N := by
  have w0 := hw.1
  intro d
  induction d with
  | zero =>
    intro p n μ hd hn hh hL hg
    obtain ⟨n, rfl⟩ : ∃ m, n = m + 1 := ⟨n - 1, by omega⟩
    have m0 : μ 69 0 = (N : Int) := by rw [← hN, ← hh]; rfl
    have hp : p = N := by omega
    subst hp
    exact ⟨μ, by rw [fX10_looksAt_L2.eq_2, vp_gdT (by omega), if_pos (by omega)], vm_Z.rf, hg⟩
  | succ d ih =>
    intro p n μ hd hn hh hL hg
    obtain ⟨n, rfl⟩ : ∃ m, n = m + 1 := ⟨n - 1, by omega⟩
    have m0 : μ 69 0 = (N : Int) := by rw [← hN, ← hh]; rfl
    have hp8 : p < 8 := by omega
    have e3 : (p : Int) + 1 = ((p + 1 : Nat) : Int) := by omega
    have hG : vh_G h cl v wk p = vh_gi h cl p v wk := by unfold vh_G; rw [if_pos (by omega)]
    obtain ⟨μ1, g1, g2, g3⟩ := vm_gives (wk := wk) (v := v) hY hh hw hL.1 hp8 hv
    have z1 := vm_Z.of g2 g3
    have z2 : vm_Z μ (vr_u μ1 74 p (vh_gi h cl p v wk)) := z1.tr ⟨vp_fr.u (by decide), fun j _ => by rw [vp_un (by decide)]⟩
    obtain ⟨μ', k1, k2, k3⟩ := ih (p + 1) n _ (by omega) (by omega) ((vm_h_fr z2.s).trans hh) (hL.z z2) (fun q hq => by
      by_cases e : q = p
      · subst e; rw [vp_us, hG]
      · rw [vp_uj e, g2 74 (by decide)]; exact hg q (by omega))
    refine ⟨μ', ?_, z2.tr k2, k3⟩
    rw [fX10_looksAt_L2.eq_2, vp_gdT (by omega), if_neg (by omega), (vm_tells hL).1, vp_bind, g1, vp_bind, vp_gdT (by omega), vp_gdT (by omega), e3, show ((p : Int)).toNat = p from rfl, k1]
theorem vm_look {μ : vr_M} {h : vh_H} {cl : vl_C} {wk mv gr dr Y v : Int} (hY : Y ≤ 100000) (hw : vh_wf Y h) (hv : 0 ≤ v ∧ v ≤ 40) {N : Nat} (hN : h 5 0 = (N : Int)) (hh : vm_h μ = h) (hL : vm_L μ cl wk mv gr dr) :
    ∃ μ', fX10_looksAt v μ = some (0, μ') ∧ vm_Z μ μ' ∧ vm_gn μ' (vh_G h cl v wk) N := by
  have w0 := hw.1
  exact vm_lookL hY hw hv hN N 0 9000 μ (by omega) (by omega) hh hL (fun q hq => by omega)
theorem vp_or0_k : vp_fin 256 (fun s => decide (vr_or (s : Int) 0 = (s : Int))) = true := by decide +kernel
theorem vp_or0 {s : Int} (h : 0 ≤ s ∧ s < 256) : vr_or s 0 = s := by
  have h1 := of_decide_eq_true (vp_fin_at vp_or0_k (k := s.toNat) (by omega))
  rw [Int.toNat_of_nonneg h.1] at h1
  exact h1
theorem vm_turnL {v y : Int} {μ : vr_M} (hvr : 1 ≤ v ∧ v ≤ 30) {N : Nat} (hN : μ 69 0 = (N : Int)) (hN8 : N ≤ 8) (hy : μ 69 3 = y) (hy2 : 0 ≤ y ∧ y ≤ 100000) :
    ∀ (d p n : Nat), p + d = N → d < n → fX10_burntBy_L16 n v (vk_tn v y p) (p : Int) μ = some (vk_tn v y N, μ) := by
  intro d
  induction d with
  | zero =>
    intro p n hd hn
    obtain ⟨n, rfl⟩ : ∃ m, n = m + 1 := ⟨n - 1, by omega⟩
    have : p = N := by omega
    subst this
    rw [fX10_burntBy_L16.eq_2, hN, vp_gdT (by omega), if_pos (by omega)]
  | succ d ih =>
    intro p n hd hn
    obtain ⟨n, rfl⟩ : ∃ m, n = m + 1 := ⟨n - 1, by omega⟩
    have h9 := ih (p + 1) n (by omega) (by omega)
    have hb := vk_tn_in v y p
    have h256 := vp_p8 (p := p) (by omega)
    have e3 : (p : Int) + 1 = ((p + 1 : Nat) : Int) := by omega
    have m1 : (p : Int).tmod v = (p : Int) % v := Int.tmod_eq_emod_of_nonneg (by omega)
    have m2 : y.tmod v = y % v := Int.tmod_eq_emod_of_nonneg (by omega)
    have m3 := Int.emod_nonneg (p : Int) (by omega : v ≠ 0)
    have m4 := Int.emod_lt_of_pos (p : Int) (by omega : 0 < v)
    have m5 := Int.emod_nonneg y (by omega : v ≠ 0)
    have m6 := Int.emod_lt_of_pos y (by omega : 0 < v)
    have hor : vr_or (vk_tn v y p) (vr_shl 1 (p : Int)) = vk_tn v y p + 2 ^ p := by rw [vp_or (by omega) (by omega), vp_bit_hi hb.1 hb.2]; rfl
    have ho0 : vr_or (vk_tn v y p) 0 = vk_tn v y p := vp_or0 (by omega)
    rw [show vk_tn v y (p + 1) = vk_tn v y p + if (p : Int) % v = y % v then 2 ^ p else 0 from rfl] at h9
    rw [fX10_burntBy_L16.eq_2, hN, hy, m1, m2]
    unfold fX10_burntBy_B52
    rw [vp_gdT (by omega), if_neg (by omega), vp_gdT (by omega), vp_gdT (by omega), vp_gdT (by omega), vp_gdT (by omega), hor, ho0, e3]
    by_cases c : (p : Int) % v = y % v
    · rw [if_pos c] at h9
      rw [if_neg (by omega), vp_gdT (by omega), h9]
    · rw [if_neg c, Int.add_zero] at h9
      rw [if_pos c, vp_gdT (by omega), h9]
theorem vm_size {x : Int} {μ : vr_M} (h : -1000 ≤ x ∧ x ≤ 1000) : fX10_size x μ = some (vp_ab x, μ) := by
  unfold fX10_size fX10_size_B10 vp_ab
  by_cases c : 0 ≤ x
  · rw [if_pos c, if_pos c]
  · rw [if_neg c, if_neg c, vp_gdT (by omega)]
theorem vm_rest {k : Int} {μ : vr_M} : fX10_isResting k μ = some (if k = 2 ∨ k = 5 ∨ k = 6 then 1 else 0, μ) := by
  unfold fX10_isResting fX10_isResting_B16 fX10_isResting_B21
  by_cases c2 : k = 2
  · rw [if_pos c2, if_pos (Or.inl c2), vp_gdT (by decide)]
  · rw [if_neg c2]
    by_cases c5 : k = 5
    · rw [if_pos c5, if_pos (Or.inr (Or.inl c5)), vp_gdT (by decide)]
    · rw [if_neg c5]
      by_cases c6 : k = 6
      · rw [if_neg (fun q => q c6), if_pos (Or.inr (Or.inr c6)), vp_gdT (by decide)]
      · rw [if_pos c6, if_neg (by omega), vp_gdT (by decide)]
theorem vm_left {μ : vr_M} {h : vh_H} {G : Nat → Int} {kind v vi Y : Int} (hY : Y ≤ 100000) (hw : vh_wf Y h) (hh : vm_h μ = h) (hk : kind = 0 ∨ kind = 2 ∨ kind = 3 ∨ kind = 5 ∨ kind = 6) (hvr : 1 ≤ v ∧ v ≤ 30) {N : Nat} (hN : h 5 0 = (N : Int)) (hg : vm_gn μ G N) (hG : ∀ p, p < 8 → 0 ≤ G p ∧ G p ≤ 990) {p : Nat} (hp : p < N) (hvi : 0 ≤ vi ∧ vi ≤ 40) :
    fX10_isLeftOut kind v (p : Int) vi μ = some (if vk_rk kind v h G vi p = 0 then 1 else 0, μ) := by
  have w0 := hw.1
  have hp8 : p < 8 := by omega
  obtain ⟨b0, b1, b2, b3, b4⟩ := hw.2.2.2.2 p hp8
  have p1 := vm_hf hh (f := 1) (by decide) hp8
  have p2 := vm_hf hh (f := 2) (by decide) hp8
  have p3 := vm_hf hh (f := 3) (by decide) hp8
  have e138 : (138 + (p : Int)).toNat = 130 + 8 * 1 + p := by omega
  have e146 : (146 + (p : Int)).toNat = 130 + 8 * 2 + p := by omega
  have e154 : (154 + (p : Int)).toNat = 130 + 8 * 3 + p := by omega
  have e1 : ((p : Int)).toNat = p := rfl
  have g1 := hg p hp
  have g2 := hG p hp8
  have hb2 : 0 ≤ vp_ab (h 1 p - vi) ∧ vp_ab (h 1 p - vi) ≤ 40 := by unfold vp_ab; split <;> omega
  have es : fX10_size (h 1 p - vi) μ = some (vp_ab (h 1 p - vi), μ) := vm_size (by omega)
  have B80 : fX10_isLeftOut_B80 kind v (p : Int) μ = some (if kind = 6 ∧ v ≤ h 2 p then 1 else 0, μ) := by
    unfold fX10_isLeftOut_B80 fX10_isLeftOut_B104 fX10_isLeftOut_B100 fX10_isLeftOut_B105
    by_cases c : kind = 6
    · rw [if_neg (fun q => q c), vp_gdT (by omega), e146, p2, vp_gdT (by omega)]
      by_cases d : h 2 p < v
      · rw [if_pos d, if_neg (by omega), vp_gdT (by decide)]
      · rw [if_neg d, if_pos (by omega), vp_gdT (by decide)]
    · rw [if_pos c, if_neg (fun q => c q.1), vp_gdT (by decide)]
  have B39 : ∀ y : Int, fX10_isLeftOut_B39 kind v (p : Int) vi y μ = some (if G p = 0 ∨ ¬ y = 0 ∨ (kind = 3 ∧ v < vp_ab (h 1 p - vi)) ∨ (kind = 6 ∧ v ≤ h 2 p) then 1 else 0, μ) := by
    intro y
    unfold fX10_isLeftOut_B39 fX10_isLeftOut_B100 fX10_isLeftOut_B105
    rw [vp_gdT (by omega), e1, g1, vp_gdT (by omega)]
    by_cases c : G p = 0
    · rw [if_pos c, if_pos (Or.inl c), vp_gdT (by decide)]
    · rw [if_neg c]
      by_cases d : y = 0
      · rw [if_neg (fun q => q d)]
        by_cases e : kind = 3
        · rw [if_neg (fun q => q e), vp_gdT (by omega), e138, p1, vp_gdT (by omega), es, vp_bind]
          by_cases f : v < vp_ab (h 1 p - vi)
          · rw [if_pos f, if_pos (Or.inr (Or.inr (Or.inl ⟨e, f⟩))), vp_gdT (by decide)]
          · rw [if_neg f, B80, if_neg (by omega), if_neg (by omega)]
        · rw [if_pos e, B80]
          by_cases f : kind = 6 ∧ v ≤ h 2 p
          · rw [if_pos f, if_pos (Or.inr (Or.inr (Or.inr f)))]
          · rw [if_neg f, if_neg (by omega)]
      · rw [if_pos d, if_pos (Or.inr (Or.inl d)), vp_gdT (by decide)]
  have key : fX10_isLeftOut kind v (p : Int) vi μ = some (if G p = 0 ∨ ((kind = 2 ∨ kind = 5 ∨ kind = 6) ∧ h 2 p = 0 ∧ h 3 p < v) ∨ (kind = 3 ∧ v < vp_ab (h 1 p - vi)) ∨ (kind = 6 ∧ v ≤ h 2 p) then 1 else 0, μ) := by
    unfold fX10_isLeftOut fX10_isLeftOut_B38
    rw [vm_rest, vp_bind]
    dsimp only
    rw [B39, B39]
    by_cases c : kind = 2 ∨ kind = 5 ∨ kind = 6
    · rw [if_pos c, if_neg (show ¬ (1 : Int) = 0 by decide), vp_gdT (by omega)]
      simp only [e146, p2, not_true_eq_false, false_or]
      rw [vp_gdT (by omega)]
      by_cases d : h 2 p = 0
      · rw [if_neg (fun q => q d), vp_gdT (by omega)]
        simp only [e154, p3, not_true_eq_false, false_or]
        rw [vp_gdT (by omega)]
        by_cases e : v ≤ h 3 p
        · rw [if_pos e]
          exact vp_so (by omega)
        · rw [if_neg e]
          exact vp_so (by omega)
      · rw [if_pos d]
        exact vp_so (by omega)
    · rw [if_neg c, if_pos rfl]
      exact vp_so (by omega)
  rw [key]
  have hi : (G p = 0 ∨ ((kind = 2 ∨ kind = 5 ∨ kind = 6) ∧ h 2 p = 0 ∧ h 3 p < v) ∨ (kind = 3 ∧ v < vp_ab (h 1 p - vi)) ∨ (kind = 6 ∧ v ≤ h 2 p)) ↔ vk_rk kind v h G vi p = 0 := by
    unfold vk_rk
    rcases hk with rfl | rfl | rfl | rfl | rfl <;> simp only [Int.reduceEq, if_true, if_false, true_or, or_true, false_or, or_false, true_and, and_true, false_and, and_false] <;> (repeat' split) <;> omega
  rw [vp_cs hi]
theorem vm_ahead {μ : vr_M} {h : vh_H} {G : Nat → Int} {kind v vi Y : Int} (hY : Y ≤ 100000) (hw : vh_wf Y h) (hh : vm_h μ = h) (hk : kind = 0 ∨ kind = 2 ∨ kind = 3 ∨ kind = 5 ∨ kind = 6) (hvr : 1 ≤ v ∧ v ≤ 30) {N : Nat} (hN : h 5 0 = (N : Int)) (hg : vm_gn μ G N) (hG : ∀ p, p < 8 → 0 ≤ G p ∧ G p ≤ 990) {p q : Nat} (hp : p < N) (hq : q < N) (hvi : 0 ≤ vi ∧ vi ≤ 40) (hr : ¬ vk_rk kind v h G vi p = 0) (hs : ¬ vk_rk kind v h G vi q = 0) :
    fX10_isAhead kind (p : Int) (q : Int) vi μ = some (if vk_rk kind v h G vi q < vk_rk kind v h G vi p then 1 else 0, μ) := by
  have w0 := hw.1
  have hp8 : p < 8 := by omega
  have hq8 : q < 8 := by omega
  obtain ⟨b0, b1, b2, b3, b4⟩ := hw.2.2.2.2 p hp8
  obtain ⟨c0, c1, c2, c3, c4⟩ := hw.2.2.2.2 q hq8
  have p1 := vm_hf hh (f := 1) (by decide) hp8
  have p2 := vm_hf hh (f := 2) (by decide) hp8
  have q1 := vm_hf hh (f := 1) (by decide) hq8
  have q2 := vm_hf hh (f := 2) (by decide) hq8
  have e138 : (138 + (p : Int)).toNat = 130 + 8 * 1 + p := by omega
  have e146 : (146 + (p : Int)).toNat = 130 + 8 * 2 + p := by omega
  have i138 : (138 + (q : Int)).toNat = 130 + 8 * 1 + q := by omega
  have i146 : (146 + (q : Int)).toNat = 130 + 8 * 2 + q := by omega
  have e1 : ((p : Int)).toNat = p := rfl
  have i1 : ((q : Int)).toNat = q := rfl
  have g1 := hg p hp
  have g2 := hG p hp8
  have j1 := hg q hq
  have j2 := hG q hq8
  have hb2 : 0 ≤ vp_ab (h 1 p - vi) ∧ vp_ab (h 1 p - vi) ≤ 40 := by unfold vp_ab; split <;> omega
  have hc2 : 0 ≤ vp_ab (h 1 q - vi) ∧ vp_ab (h 1 q - vi) ≤ 40 := by unfold vp_ab; split <;> omega
  have es : fX10_size (h 1 p - vi) μ = some (vp_ab (h 1 p - vi), μ) := vm_size (by omega)
  have is : fX10_size (h 1 q - vi) μ = some (vp_ab (h 1 q - vi), μ) := vm_size (by omega)
  have B111 : fX10_isAhead_B111 (p : Int) (q : Int) μ = some (if G q < G p then 1 else 0, μ) := by
    unfold fX10_isAhead_B111 fX10_isAhead_B131
    rw [vp_gdT (by omega), vp_gdT (by omega), e1, i1, g1, j1, vp_gdT (by omega), vp_gdT (by omega)]
    by_cases c : G p ≤ G q
    · rw [if_pos c, if_neg (by omega), vp_gdT (by decide)]
    · rw [if_neg c, if_pos (by omega), vp_gdT (by decide)]
  have B55 : fX10_isAhead_B55 kind (p : Int) (q : Int) vi μ = some (if (kind = 3 ∧ vp_ab (h 1 p - vi) < vp_ab (h 1 q - vi)) ∨ (¬ (kind = 3 ∧ ¬ vp_ab (h 1 p - vi) = vp_ab (h 1 q - vi)) ∧ G q < G p) then 1 else 0, μ) := by
    unfold fX10_isAhead_B55 fX10_isAhead_B110
    rw [vp_gdT (by omega), e138, p1, vp_gdT (by omega), es, vp_bind, vp_gdT (by omega)]
    simp only [i138, q1]
    rw [vp_gdT (by omega), is, vp_bind, B111]
    by_cases c : kind = 3
    · rw [if_neg (fun q => q c), vp_gdT (by omega)]
      by_cases d : vp_ab (h 1 p - vi) - vp_ab (h 1 q - vi) = 0
      · rw [if_pos d]
        exact vp_so (by omega)
      · rw [if_neg d]
        by_cases e : 0 ≤ vp_ab (h 1 p - vi) - vp_ab (h 1 q - vi)
        · rw [if_pos e, vp_gdT (by decide), if_neg (by omega)]
        · rw [if_neg e, vp_gdT (by decide), if_pos (by omega)]
    · rw [if_pos c]
      exact vp_so (by omega)
  have B38 : ∀ x y : Int, (x = 0 ∨ x = 1) → (y = 0 ∨ y = 1) → fX10_isAhead_B38 kind (p : Int) (q : Int) vi x y μ = some (if (kind = 5 ∧ y < x) ∨ (¬ (kind = 5 ∧ ¬ x = y) ∧ ((kind = 3 ∧ vp_ab (h 1 p - vi) < vp_ab (h 1 q - vi)) ∨ (¬ (kind = 3 ∧ ¬ vp_ab (h 1 p - vi) = vp_ab (h 1 q - vi)) ∧ G q < G p))) then 1 else 0, μ) := by
    intro x y hx hy
    unfold fX10_isAhead_B38
    rw [B55]
    by_cases c : kind = 5
    · rw [if_neg (fun q => q c)]
      by_cases d : x = y
      · rw [if_pos d]
        exact vp_so (by omega)
      · rw [if_neg d, vp_gdT hx]
        rcases hx with rfl | rfl
        · rw [if_neg (by omega)]
        · rw [if_pos (by omega)]
    · rw [if_pos c]
      exact vp_so (by omega)
  have key : fX10_isAhead kind (p : Int) (q : Int) vi μ = some (if (kind = 5 ∧ h 2 q = 0 ∧ 0 < h 2 p) ∨ (¬ (kind = 5 ∧ ¬ (0 < h 2 p ↔ 0 < h 2 q)) ∧ ((kind = 3 ∧ vp_ab (h 1 p - vi) < vp_ab (h 1 q - vi)) ∨ (¬ (kind = 3 ∧ ¬ vp_ab (h 1 p - vi) = vp_ab (h 1 q - vi)) ∧ G q < G p))) then 1 else 0, μ) := by
    unfold fX10_isAhead fX10_isAhead_B18
    rw [vp_gdT (by omega), e146, p2, vp_gdT (by omega), vp_gdT (by omega), i146, q2, vp_gdT (by omega)]
    rw [B38 0 0 (by omega) (by omega), B38 0 1 (by omega) (by omega), vp_gdT (by omega), vp_gdT (by omega), B38 1 0 (by omega) (by omega), B38 1 1 (by omega) (by omega)]
    by_cases c : h 2 p ≤ 0
    · rw [if_pos c]
      by_cases d : h 2 q ≤ 0
      · rw [if_pos d]
        exact vp_so (by omega)
      · rw [if_neg d]
        exact vp_so (by omega)
    · rw [if_neg c]
      by_cases d : h 2 q ≤ 0
      · rw [if_pos d]
        exact vp_so (by omega)
      · rw [if_neg d]
        exact vp_so (by omega)
  rw [key]
  have hi : ((kind = 5 ∧ h 2 q = 0 ∧ 0 < h 2 p) ∨ (¬ (kind = 5 ∧ ¬ (0 < h 2 p ↔ 0 < h 2 q)) ∧ ((kind = 3 ∧ vp_ab (h 1 p - vi) < vp_ab (h 1 q - vi)) ∨ (¬ (kind = 3 ∧ ¬ vp_ab (h 1 p - vi) = vp_ab (h 1 q - vi)) ∧ G q < G p)))) ↔ vk_rk kind v h G vi q < vk_rk kind v h G vi p := by
    have hpn : (p : Int) < h 5 0 := by omega
    have hqn : (q : Int) < h 5 0 := by omega
    unfold vk_rk at hr hs ⊢
    generalize vp_ab (h 1 p - vi) = fp at *
    generalize vp_ab (h 1 q - vi) = fq at *
    rcases hk with rfl | rfl | rfl | rfl | rfl <;> simp only [Int.reduceEq, if_true, if_false, hpn, hqn, not_true_eq_false, not_false_eq_true, true_or, or_true, false_or, or_false, true_and, and_true, false_and, and_false] at hr hs ⊢ <;> (repeat' split at hr) <;> (repeat' split at hs) <;> (repeat' split) <;> omega
  rw [vp_cs hi]

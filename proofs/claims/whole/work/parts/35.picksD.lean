theorem vk_byRankL {kind v : Int} {G : Nat → Int} {Y : Int} (hY : Y ≤ 100000) (hk : kind = 0 ∨ kind = 2 ∨ kind = 3 ∨ kind = 5 ∨ kind = 6) (hvr : 1 ≤ v ∧ v ≤ 30) (hG : ∀ p, p < 8 → 0 ≤ G p ∧ G p ≤ 990) {vi : Int} (hvi : 0 ≤ vi ∧ vi ≤ 40) {h : vh_H} (hh : vh_wf Y h) :
    ∀ (d i n : Nat) (μ : vr_M), 8 - i = d → i ≤ 8 → 8 < i + n → vh_c μ 52 = h → μ 58 2 = kind → μ 58 3 = v → vk_gn μ G → (∀ p, p < i → μ 61 p = vk_rk kind v h G vi p) →
      ∃ μ', fX0_picksByRank_L2 n vi (i : Int) μ = some (vk_gr G (h 5 2) 8 (vk_rk kind v h G vi) 0 0, μ') ∧ vp_fr [61] μ μ' ∧ 0 ≤ vk_gr G (h 5 2) 8 (vk_rk kind v h G vi) 0 0 ∧ vk_gr G (h 5 2) 8 (vk_rk kind v h G vi) 0 0 < 256 := by
  intro d
  induction d with
  | zero =>
    intro i n μ hd hi hn hc hkd hv0 hg hr
    obtain ⟨n, rfl⟩ : ∃ m, n = m + 1 := ⟨n - 1, by omega⟩
    have : i = 8 := by omega
    subst this
    rw [fX0_picksByRank_L2.eq_2, if_pos (by decide)]
    have h7 : μ 52 7 = h 5 2 := by rw [← hc]; rfl
    exact vk_grL hG ⟨by have := hh.2.2.1; omega, by have := hh.2.2.1; omega⟩ 8 0 9000 0 0 (vk_rk kind v h G vi) μ rfl (by omega) (by omega) hg h7
      (fun p hp => ⟨hr p hp, vk_rk_in (hh.2.2.2.2 p hp).2.1 hvi (hG p hp)⟩) (by omega) (by omega) (fun p hp q => by
        exfalso
        unfold vp_bit at q
        simp at q)
  | succ d ih =>
    intro i n μ hd hi hn hc hkd hv0 hg hr
    obtain ⟨n, rfl⟩ : ∃ m, n = m + 1 := ⟨n - 1, by omega⟩
    have hr1 := vk_rank hY (by rw [hc]; exact hh) hkd hk hv0 hvr hg hG (p := i) (by omega) hvi
    rw [hc] at hr1
    have e1 : ((i : Int)).toNat = i := rfl
    have e3 : (i : Int) + 1 = ((i + 1 : Nat) : Int) := by omega
    have f1 : vp_fr [61] μ (vr_u μ 61 i (vk_rk kind v h G vi i)) := vp_fr.u (by decide)
    obtain ⟨μ', k1, k2, k3⟩ := ih (i + 1) n (vr_u μ 61 i (vk_rk kind v h G vi i)) (by omega) (by omega) (by omega)
      ((vh_c_fr (fun j hj => f1 _ (by simp; omega))).trans hc) (by rw [f1 58 (by decide)]; exact hkd) (by rw [f1 58 (by decide)]; exact hv0)
      (fun p hp => by rw [f1 60 (by decide)]; exact hg p hp)
      (fun p hp => by
        by_cases e : p = i
        · subst e; rw [vp_us]
        · rw [vp_uj e]; exact hr p (by omega))
    refine ⟨μ', ?_, f1.tr k2, k3⟩
    rw [fX0_picksByRank_L2.eq_2]
    simp (disch := omega) only [vp_gdT, vp_gdTT, vp_let, vr_R, if_pos, if_neg, ite_true, ite_false, vp_bind, if_true, if_false, not_true_eq_false, not_false_eq_true, decide_eq_true_eq, true_or, or_true, true_and, and_true, false_or, or_false, false_and, and_false, hr1, e1, e3, k1]
/-- rounds -/
theorem vp_bit_hi {s : Int} {p : Nat} (h0 : 0 ≤ s) (h : s < 2 ^ p) : vp_bit s p = false := by
  unfold vp_bit
  rw [Int.ediv_eq_zero_of_lt h0 h]
  rfl
theorem vk_tn_in (v y : Int) : ∀ p : Nat, 0 ≤ vk_tn v y p ∧ vk_tn v y p < 2 ^ p
  | 0 => by simp [vk_tn]
  | p + 1 => by
    have ih := vk_tn_in v y p
    unfold vk_tn
    rw [Int.pow_succ]
    split <;> omega
theorem vp_p8 {p : Nat} (h : p ≤ 8) : (2 : Int) ^ p ≤ 256 := by
  have : ∀ p, p < 9 → (2 : Int) ^ p ≤ 256 := by decide
  exact this p (by omega)
theorem vk_turnL {v : Int} {μ : vr_M} (hv0 : μ 58 3 = v) (hvr : 1 ≤ v ∧ v ≤ 30) {N : Nat} (hN : μ 52 5 = (N : Int)) (hN8 : N ≤ 8) {y : Int} (hy : μ 52 8 = y) (hy2 : 0 ≤ y ∧ y ≤ 100000) :
    ∀ (d p n : Nat), N - p = d → p ≤ N → N < p + n → fX0_picksInTurn_L4 n (vk_tn v y p) (p : Int) μ = some (vk_tn v y N, μ) := by
  intro d
  induction d with
  | zero =>
    intro p n hd hp hn
    obtain ⟨n, rfl⟩ : ∃ m, n = m + 1 := ⟨n - 1, by omega⟩
    have : p = N := by omega
    subst this
    rw [fX0_picksInTurn_L4.eq_2, hN]
    unfold fX0_picksInTurn_B55
    rw [vp_gdT (by omega), if_pos (by omega)]
  | succ d ih =>
    intro p n hd hp hn
    obtain ⟨n, rfl⟩ : ∃ m, n = m + 1 := ⟨n - 1, by omega⟩
    have h9 := ih (p + 1) n (by omega) (by omega) (by omega)
    have hb := vk_tn_in v y p
    have h256 := vp_p8 (p := p) (by omega)
    have e3 : (p : Int) + 1 = ((p + 1 : Nat) : Int) := by omega
    have m1 : (p : Int).tmod v = (p : Int) % v := Int.tmod_eq_emod_of_nonneg (by omega)
    have m2 : y.tmod v = y % v := Int.tmod_eq_emod_of_nonneg (by omega)
    have m3 := Int.emod_nonneg (p : Int) (by omega : v ≠ 0)
    have m4 := Int.emod_lt_of_pos (p : Int) (by omega : 0 < v)
    have m5 := Int.emod_nonneg y (by omega : v ≠ 0)
    have m6 := Int.emod_lt_of_pos y (by omega : 0 < v)
    have hor : vr_or (vk_tn v y p) (vr_shl 1 (p : Int)) = vk_tn v y p + 2 ^ p := by rw [vp_or (by omega) (by omega), vp_bit_hi hb.1 hb.2]; rfl
    rw [show vk_tn v y (p + 1) = vk_tn v y p + if (p : Int) % v = y % v then 2 ^ p else 0 from rfl] at h9
    rw [fX0_picksInTurn_L4.eq_2, hN, hv0, hy, m1, m2, hor]
    unfold fX0_picksInTurn_B49
    rw [vp_gdT (by omega), if_neg (by omega), vp_gdT (by omega), if_neg (by omega), vp_gdT (by omega), vp_gdT (by omega), vp_gdT (by omega), vp_gdT (by omega), e3]
    by_cases c : (p : Int) % v = y % v
    · rw [if_pos c] at h9
      rw [if_neg (by omega), vp_gdT (by omega), h9]
    · rw [if_neg c, Int.add_zero] at h9
      rw [if_pos c, vp_gdT (by omega), h9]
/-- bit tables -/
theorem vp_ct_map (a : Int) (μ : vr_M) : fJ6_bitCount_0f7a4 a μ = (fJ6_bitCount_0f7a4 a (fun _ _ => 0)).map (fun r => (r.1, μ)) := rfl
theorem vp_ct_k : vp_fin 256 (fun s => decide ((fJ6_bitCount_0f7a4 (s : Int) (fun _ _ => 0)).map (fun r => r.1) = some (vk_ct (s : Int) 8))) = true := by decide +kernel
theorem vp_ct {s : Int} (h : 0 ≤ s ∧ s < 256) (μ : vr_M) : fJ6_bitCount_0f7a4 s μ = some (vk_ct s 8, μ) := by
  have h1 := of_decide_eq_true (vp_fin_at vp_ct_k (k := s.toNat) (by omega))
  rw [Int.toNat_of_nonneg h.1] at h1
  rw [vp_ct_map]
  rcases e : fJ6_bitCount_0f7a4 s (fun _ _ => 0) with _ | r
  · rw [e] at h1; cases h1
  · rw [e] at h1
    simp only [Option.map_some, Option.some.injEq] at h1 ⊢
    rw [h1]
def vk_tz (s : Int) : Nat := ((List.range 8).find? (fun p => vp_bit s p)).getD 0
theorem vp_map_ite {α β : Type} {q : Prop} [Decidable q] {a b : Option α} {f : α → β} : (if q then a else b).map f = if q then a.map f else b.map f := by split <;> rfl
theorem vp_tz_map (a : Int) (μ : vr_M) : fJ6_numberOfTrailingZeros_0f7a4 a μ = (fJ6_numberOfTrailingZeros_0f7a4 a (fun _ _ => 0)).map (fun r => (r.1, μ)) := by
  unfold fJ6_numberOfTrailingZeros_0f7a4 fJ6_numberOfTrailingZeros_0f7a4_B34 fJ6_numberOfTrailingZeros_0f7a4_B49 fJ6_numberOfTrailingZeros_0f7a4_B62 fJ6_numberOfTrailingZeros_0f7a4_B74 vr_gd
  simp only [vp_map_ite, Option.map_some, Option.map_none]
theorem vp_tz_k : vp_fin 256 (fun s => s == 0 || (decide ((fJ6_numberOfTrailingZeros_0f7a4 (s : Int) (fun _ _ => 0)).map (fun r => r.1) = some ((vk_tz (s : Int) : Nat) : Int)) && decide (vk_tz (s : Int) < 8) && vp_bit (s : Int) (vk_tz (s : Int)) && decide (0 ≤ vr_and (s : Int) ((s : Int) - 1)) && decide (vr_and (s : Int) ((s : Int) - 1) < (s : Int)) && vp_fin 8 (fun p => vp_bit (vr_and (s : Int) ((s : Int) - 1)) p == (vp_bit (s : Int) p && decide (p ≠ vk_tz (s : Int)))))) = true := by decide +kernel
theorem vp_tz {s : Int} (h : 1 ≤ s ∧ s < 256) (μ : vr_M) : fJ6_numberOfTrailingZeros_0f7a4 s μ = some (((vk_tz s : Nat) : Int), μ) ∧ vk_tz s < 8 ∧ vp_bit s (vk_tz s) = true ∧ 0 ≤ vr_and s (s - 1) ∧ vr_and s (s - 1) < s ∧ ∀ p, p < 8 → vp_bit (vr_and s (s - 1)) p = (vp_bit s p && decide (p ≠ vk_tz s)) := by
  have h1 := vp_fin_at vp_tz_k (k := s.toNat) (by omega)
  have h0 : (s.toNat == 0) = false := by simp; omega
  simp only [Int.toNat_of_nonneg (show 0 ≤ s by omega), h0, Bool.false_or, Bool.and_eq_true, decide_eq_true_eq] at h1
  obtain ⟨⟨⟨⟨⟨h1, h2⟩, h3⟩, h4⟩, h5⟩, h6⟩ := h1
  refine ⟨?_, h2, h3, h4, h5, fun p hp => ?_⟩
  · rw [vp_tz_map]
    rcases e : fJ6_numberOfTrailingZeros_0f7a4 s (fun _ _ => 0) with _ | r
    · rw [e] at h1; cases h1
    · rw [e] at h1
      simp only [Option.map_some, Option.some.injEq] at h1 ⊢
      rw [h1]
  · have := vp_fin_at h6 hp
    simpa using this
theorem vh_su_less {G : Nat → Int} {s s' : Int} {t : Nat} (hb : ∀ p, p < 8 → vp_bit s' p = (vp_bit s p && decide (p ≠ t))) (ht : vp_bit s t = true) : ∀ n : Nat, n ≤ 8 → vh_su G s n = vh_su G s' n + if t < n then G t else 0
  | 0, _ => by simp [vh_su]
  | n + 1, h => by
    have ih := vh_su_less (G := G) hb ht n (by omega)
    unfold vh_su
    rw [ih, hb n (by omega)]
    by_cases e : n = t
    · subst e
      rw [ht]
      simp
    · have e2 : (t < n + 1) = (t < n) := by simp; omega
      simp only [e2, e, ne_eq, not_false_eq_true, decide_true, Bool.and_true]
      omega

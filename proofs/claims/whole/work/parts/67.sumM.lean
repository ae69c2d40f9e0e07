/-- what holds in the reference: the land and its four numbers -/
def vm_L (μ : vr_M) (cl : vl_C) (wk mv gr dr : Int) : Prop := vm_at μ cl ∧ ((μ 69 9 = -1 ∧ wk = 99 ∧ mv = 0 ∧ gr = 0 ∧ dr = 0) ∨ (∃ A : Nat, μ 69 9 = (A : Int) ∧ A ≤ 4 ∧ μ 69 (208 + A) = wk ∧ μ 69 (213 + A) = mv ∧ μ 69 (218 + A) = gr ∧ μ 69 (223 + A) = dr)) ∧ (0 ≤ wk ∧ wk ≤ 99) ∧ (0 ≤ mv ∧ mv ≤ 99) ∧ (0 ≤ gr ∧ gr ≤ 99) ∧ (0 ≤ dr ∧ dr ≤ 10)
theorem vm_L.fr {μ μ' : vr_M} {cl : vl_C} {wk mv gr dr : Int} (h : vm_L μ cl wk mv gr dr) (e : μ' 69 = μ 69) : vm_L μ' cl wk mv gr dr := by
  unfold vm_L at h ⊢
  rw [e]
  exact ⟨h.1.fr e, h.2⟩
theorem vm_tell {μ : vr_M} {b : Nat} {d x : Int} (hb : b ≤ 300) (h : (μ 69 9 = -1 ∧ x = d) ∨ (∃ A : Nat, μ 69 9 = (A : Int) ∧ A ≤ 4 ∧ μ 69 (b + A) = x)) (hx : vr_R x) : fX10_tellsOf (b : Int) d μ = some (x, μ) := by
  unfold fX10_tellsOf fX10_tellsOf_B29
  rcases h with ⟨h9, rfl⟩ | ⟨A, h9, hA, hm⟩
  · simp only [h9]
    rw [vp_gdT (by decide), if_neg (by decide)]
  · have eA : ((b : Int) + (A : Int)).toNat = b + A := by omega
    simp only [h9, eA, hm]
    rw [vp_gdT (by omega), if_pos (by omega), vp_gdT (by omega), vp_gdT hx]
theorem vm_tells {μ : vr_M} {cl : vl_C} {wk mv gr dr : Int} (h : vm_L μ cl wk mv gr dr) : fX10_walk μ = some (wk, μ) ∧ fX10_tellsOf 213 0 μ = some (mv, μ) ∧ fX10_tellsOf 218 0 μ = some (gr, μ) ∧ fX10_tellsOf 223 0 μ = some (dr, μ) := by
  obtain ⟨h1, h2, h3, h4, h5, h6⟩ := h
  have w : fX10_tellsOf 208 99 μ = some (wk, μ) := vm_tell (b := 208) (by decide) (h2.imp (fun q => ⟨q.1, q.2.1⟩) (fun ⟨A, q1, q2, q3, _⟩ => ⟨A, q1, q2, q3⟩)) (by omega)
  refine ⟨by rw [fX10_walk, w, vp_bind], ?_, ?_, ?_⟩
  · exact vm_tell (b := 213) (by decide) (h2.imp (fun q => ⟨q.1, q.2.2.1⟩) (fun ⟨A, q1, q2, q3, q4, _⟩ => ⟨A, q1, q2, q4⟩)) (by omega)
  · exact vm_tell (b := 218) (by decide) (h2.imp (fun q => ⟨q.1, q.2.2.2.1⟩) (fun ⟨A, q1, q2, q3, q4, q5, _⟩ => ⟨A, q1, q2, q5⟩)) (by omega)
  · exact vm_tell (b := 223) (by decide) (h2.imp (fun q => ⟨q.1, q.2.2.2.2⟩) (fun ⟨A, q1, q2, q3, q4, q5, q6⟩ => ⟨A, q1, q2, q6⟩)) (by omega)
theorem vh_su_tail {G : Nat → Int} {s : Int} {N : Nat} (hG : ∀ p, N ≤ p → G p = 0) : ∀ d : Nat, vh_su G s (N + d) = vh_su G s N
  | 0 => rfl
  | d + 1 => by
    rw [show N + (d + 1) = (N + d) + 1 from rfl, vh_su, vh_su_tail hG d, hG (N + d) (by omega)]
    simp
theorem vm_sumL {h : vh_H} {cl : vl_C} {wk mv gr dr Y s v : Int} (hY : Y ≤ 100000) (hw : vh_wf Y h) (hs : 0 ≤ s ∧ s < 256) (hv : 0 ≤ v ∧ v ≤ 40) {N : Nat} (hN : h 5 0 = (N : Int)) :
    ∀ (d p n : Nat) (μ : vr_M), p + d = N → d < n → vm_h μ = h → vm_L μ cl wk mv gr dr →
      ∃ μ', fX10_sumOf_L5 n s v (vh_su (vh_G h cl v wk) s p) (p : Int) μ = some (vh_su (vh_G h cl v wk) s N, μ') ∧ vp_fr [68, 72, 73] μ μ' ∧ ∀ j, j ≠ 12 → j ≠ 13 → μ' 68 j = μ 68 j := by
  have w0 := hw.1
  intro d
  induction d with
  | zero =>
    intro p n μ hd hn hh hL
    obtain ⟨n, rfl⟩ : ∃ m, n = m + 1 := ⟨n - 1, by omega⟩
    have m0 : μ 69 0 = (N : Int) := by rw [← hN, ← hh]; rfl
    refine ⟨μ, ?_, vp_fr.rf, fun _ _ _ => rfl⟩
    rw [fX10_sumOf_L5.eq_2, vp_gdT (by omega), if_pos (by omega), show p = N by omega]
  | succ d ih =>
    intro p n μ hd hn hh hL
    obtain ⟨n, rfl⟩ : ∃ m, n = m + 1 := ⟨n - 1, by omega⟩
    have m0 : μ 69 0 = (N : Int) := by rw [← hN, ← hh]; rfl
    have e3 : (p : Int) + 1 = ((p + 1 : Nat) : Int) := by omega
    have hb := vh_su_in (G := vh_G h cl v wk) (s := s) (B := 990) (by omega) (fun q hq => vh_G_in hw hL.1.1 hq) p (by omega)
    have hg2 := vh_G_in (v := v) (wk := wk) (cl := cl) hw hL.1.1 (p := p) (by omega)
    have hG : vh_G h cl v wk p = vh_gi h cl p v wk := by unfold vh_G; rw [if_pos (by omega)]
    have hsu : vh_su (vh_G h cl v wk) s (p + 1) = vh_su (vh_G h cl v wk) s p + (if vp_bit s p = true then vh_G h cl v wk p else 0) := rfl
    rw [fX10_sumOf_L5.eq_2, vp_gdT (by omega), if_neg (by omega), vp_and_bit hs (by omega)]
    unfold fX10_sumOf_B42
    by_cases c : vp_bit s p = true
    · obtain ⟨μ1, g1, g2, g3⟩ := vm_gives (wk := wk) (v := v) hY hh hw hL.1 (show p < 8 by omega) hv
      obtain ⟨μ', k1, k2, k3⟩ := ih (p + 1) n μ1 (by omega) (by omega) ((vm_h_fr (g2 69 (by decide))).trans hh) (hL.fr (g2 69 (by decide)))
      refine ⟨μ', ?_, g2.tr k2, fun j j1 j2 => (k3 j j1 j2).trans (g3 j j1 j2)⟩
      rw [hsu, if_pos c, hG] at k1
      rw [if_pos c, if_neg (by decide), (vm_tells hL).1, vp_bind, g1, vp_bind, vp_gdT (by omega), vp_gdT (by omega), e3, k1]
    · obtain ⟨μ', k1, k2, k3⟩ := ih (p + 1) n μ (by omega) (by omega) hh hL
      refine ⟨μ', ?_, k2, k3⟩
      rw [hsu, if_neg c] at k1
      rw [if_neg c, if_pos (by decide), vp_gdT (by omega), vp_gdT (by omega), e3, k1]
theorem vm_sum {μ : vr_M} {h : vh_H} {cl : vl_C} {wk mv gr dr Y s v : Int} (hY : Y ≤ 100000) (hw : vh_wf Y h) (hs : 0 ≤ s ∧ s < 256) (hv : 0 ≤ v ∧ v ≤ 40) (hh : vm_h μ = h) (hL : vm_L μ cl wk mv gr dr) :
    ∃ μ', fX10_sumOf s v μ = some (vh_go h cl wk s v, μ') ∧ vp_fr [68, 72, 73] μ μ' ∧ ∀ j, j ≠ 12 → j ≠ 13 → μ' 68 j = μ 68 j := by
  have w0 := hw.1
  obtain ⟨N, hN⟩ : ∃ N : Nat, h 5 0 = (N : Int) := ⟨(h 5 0).toNat, by omega⟩
  obtain ⟨μ', g1, g2⟩ := vm_sumL hY hw hs hv hN N 0 9000 μ (by omega) (by omega) hh hL
  have t := vh_su_tail (G := vh_G h cl v wk) (s := s) (N := N) (fun p hp => by unfold vh_G; rw [if_neg (by omega)]) (8 - N)
  rw [show N + (8 - N) = 8 by omega] at t
  refine ⟨μ', ?_, g2⟩
  unfold vh_go
  rw [t]
  exact g1

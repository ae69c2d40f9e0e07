/-- the hill of the reference -/
def vm_h (μ : vr_M) : vh_H := fun f p => if f < 5 then (if p < 8 then μ 69 (130 + 8 * f + p) else 0) else if f = 5 then (if p = 0 then μ 69 0 else if p = 1 then μ 69 7 else if p = 2 then μ 69 8 else if p = 3 then μ 69 3 else 0) else 0
theorem vm_h_fr {μ μ' : vr_M} (h : μ' 69 = μ 69) : vm_h μ' = vm_h μ := by
  funext f p
  unfold vm_h
  rw [h]
theorem vm_in {a lo hi : Int} {μ : vr_M} : fX10_in a lo hi μ = some (if lo ≤ a ∧ a ≤ hi then 1 else 0, μ) := by
  unfold fX10_in fX10_in_B14 fX10_in_B15
  by_cases h1 : a < lo
  · rw [if_pos h1, if_neg (by omega), vp_gdT (by decide)]
  · rw [if_neg h1]
    by_cases h2 : hi < a
    · rw [if_pos h2, if_neg (by omega), vp_gdT (by decide)]
    · rw [if_neg h2, if_pos (by omega), vp_gdT (by decide)]
theorem vm_inT {a lo hi : Int} {μ : vr_M} (h : lo ≤ a ∧ a ≤ hi) : fX10_in a lo hi μ = some (1, μ) := by rw [vm_in, if_pos h]
theorem vm_inF {a lo hi : Int} {μ : vr_M} (h : ¬ (lo ≤ a ∧ a ≤ hi)) : fX10_in a lo hi μ = some (0, μ) := by rw [vm_in, if_neg h]
theorem vm_plotT {a : Int} {μ : vr_M} (h0 : 0 ≤ μ 69 0 ∧ μ 69 0 ≤ 8) (h : 0 ≤ a ∧ a < μ 69 0) : fX10_isPlot a μ = some (1, μ) := by
  rw [fX10_isPlot, vp_gdT (by omega), vm_inT (by omega), vp_bind, vp_gdT (show (1 : Int) = 0 ∨ (1 : Int) = 1 by decide)]
theorem vm_plotF {a : Int} {μ : vr_M} (h0 : 0 ≤ μ 69 0 ∧ μ 69 0 ≤ 8) (h : ¬ (0 ≤ a ∧ a < μ 69 0)) : fX10_isPlot a μ = some (0, μ) := by
  rw [fX10_isPlot, vp_gdT (by omega), vm_inF (by omega), vp_bind, vp_gdT (show (0 : Int) = 0 ∨ (0 : Int) = 1 by decide)]
theorem vm_ruleT {a : Int} {μ : vr_M} (h0 : 0 ≤ μ 69 1 ∧ μ 69 1 ≤ 8) (h : 0 ≤ a ∧ a < μ 69 1) : fX10_isRule a μ = some (1, μ) := by
  rw [fX10_isRule, vp_gdT (by omega), vm_inT (by omega), vp_bind, vp_gdT (show (1 : Int) = 0 ∨ (1 : Int) = 1 by decide)]
theorem vm_ruleF {a : Int} {μ : vr_M} (h0 : 0 ≤ μ 69 1 ∧ μ 69 1 ≤ 8) (h : ¬ (0 ≤ a ∧ a < μ 69 1)) : fX10_isRule a μ = some (0, μ) := by
  rw [fX10_isRule, vp_gdT (by omega), vm_inF (by omega), vp_bind, vp_gdT (show (0 : Int) = 0 ∨ (0 : Int) = 1 by decide)]
theorem vm_keepsL : ∀ (d i n : Nat) (μ : vr_M), i + d = 933 → d < n → (∀ j, j < i → μ 71 j = μ 69 j) →
    ∃ μ', fX10_keeps_L2 n (i : Int) μ = some (0, μ') ∧ vp_fr [71] μ μ' ∧ ∀ j, j < 933 → μ' 71 j = μ 69 j := by
  intro d
  induction d with
  | zero =>
    intro i n μ hd hn hj
    obtain ⟨n, rfl⟩ : ∃ q, n = q + 1 := ⟨n - 1, by omega⟩
    exact ⟨μ, by rw [fX10_keeps_L2.eq_2, if_pos (by omega)], vp_fr.rf, fun j h => hj j (by omega)⟩
  | succ d ih =>
    intro i n μ hd hn hj
    obtain ⟨n, rfl⟩ : ∃ q, n = q + 1 := ⟨n - 1, by omega⟩
    have e3 : (i : Int) + 1 = ((i + 1 : Nat) : Int) := by omega
    have e1 : ((i : Int)).toNat = i := rfl
    have fu : vp_fr [71] μ (vr_u μ 71 i (μ 69 i)) := vp_fr.u (by decide)
    have a : (vr_u μ 71 i (μ 69 i)) 69 = μ 69 := fu 69 (by decide)
    obtain ⟨μ', g1, g2, g3⟩ := ih (i + 1) n (vr_u μ 71 i (μ 69 i)) (by omega) (by omega) (fun j hji => by
      rw [a]
      by_cases e : j = i
      · subst e; exact vp_us
      · rw [vp_uj e]; exact hj j (by omega))
    rw [a] at g3
    refine ⟨μ', ?_, fu.tr g2, g3⟩
    rw [fX10_keeps_L2.eq_2, if_neg (by omega), vp_gdT (by omega), vp_gdT (by omega), e1, e3, g1]
theorem vm_keeps (μ : vr_M) : ∃ μ', fX10_keeps μ = some (0, μ') ∧ vp_fr [71] μ μ' ∧ ∀ j, j < 933 → μ' 71 j = μ 69 j :=
  vm_keepsL 933 0 9000 μ (by omega) (by omega) (fun j hj => by omega)
theorem vm_backL : ∀ (d i n : Nat) (μ : vr_M), i + d = 933 → d < n → (∀ j, j < i → μ 69 j = μ 71 j) →
    ∃ μ', fX10_putsBack_L2 n (i : Int) μ = some (0, μ') ∧ vp_fr [69] μ μ' ∧ (∀ j, j < 933 → μ' 69 j = μ 71 j) ∧ ∀ j, 933 ≤ j → μ' 69 j = μ 69 j := by
  intro d
  induction d with
  | zero =>
    intro i n μ hd hn hj
    obtain ⟨n, rfl⟩ : ∃ q, n = q + 1 := ⟨n - 1, by omega⟩
    exact ⟨μ, by rw [fX10_putsBack_L2.eq_2, if_pos (by omega)], vp_fr.rf, fun j h => hj j (by omega), fun _ _ => rfl⟩
  | succ d ih =>
    intro i n μ hd hn hj
    obtain ⟨n, rfl⟩ : ∃ q, n = q + 1 := ⟨n - 1, by omega⟩
    have e3 : (i : Int) + 1 = ((i + 1 : Nat) : Int) := by omega
    have e1 : ((i : Int)).toNat = i := rfl
    have fu : vp_fr [69] μ (vr_u μ 69 i (μ 71 i)) := vp_fr.u (by decide)
    have a : (vr_u μ 69 i (μ 71 i)) 71 = μ 71 := fu 71 (by decide)
    obtain ⟨μ', g1, g2, g3, g4⟩ := ih (i + 1) n (vr_u μ 69 i (μ 71 i)) (by omega) (by omega) (fun j hji => by
      rw [a]
      by_cases e : j = i
      · subst e; exact vp_us
      · rw [vp_uj e]; exact hj j (by omega))
    rw [a] at g3
    refine ⟨μ', ?_, fu.tr g2, g3, fun j hj9 => by rw [g4 j hj9, vp_uj (by omega)]⟩
    rw [fX10_putsBack_L2.eq_2, if_neg (by omega), vp_gdT (by omega), vp_gdT (by omega), e1, e3, g1]
theorem vm_back (μ : vr_M) : ∃ μ', fX10_putsBack μ = some (0, μ') ∧ vp_fr [69] μ μ' ∧ (∀ j, j < 933 → μ' 69 j = μ 71 j) ∧ ∀ j, 933 ≤ j → μ' 69 j = μ 69 j :=
  vm_backL 933 0 9000 μ (by omega) (by omega) (fun j hj => by omega)

/-- the land that holds, in the reference -/
def vm_at (μ : vr_M) (cl : vl_C) : Prop := vl_wf cl ∧ (vm_fl cl).length ≤ 140 ∧ ((μ 69 9 = -1 ∧ cl = []) ∨ (∃ A : Nat, μ 69 9 = (A : Int) ∧ A ≤ 4 ∧ μ 69 (228 + A) = ((vm_fl cl).length : Int) ∧ ∀ i, i < (vm_fl cl).length → μ 69 (233 + 140 * A + i) = (vm_fl cl).getD i 0))
theorem vm_at.fr {μ μ' : vr_M} {cl : vl_C} (h : vm_at μ cl) (e : μ' 69 = μ 69) : vm_at μ' cl := by
  unfold vm_at at h ⊢
  rw [e]
  exact h
theorem vm_hf {μ : vr_M} {h : vh_H} (hh : vm_h μ = h) {f p : Nat} (hf : f < 5) (hp : p < 8) : μ 69 (130 + 8 * f + p) = h f p := by
  rw [← hh]
  unfold vm_h
  rw [if_pos hf, if_pos hp]
theorem vm_looks {μ : vr_M} {h : vh_H} {cl : vl_C} {Y c w : Int} {p : Nat} (hY : Y ≤ 100000) (hh : vm_h μ = h) (hw : vh_wf Y h) (ha : vm_at μ cl) (hp : p < 8) (hc : vr_R c) (hww : vr_R w) :
    ∃ μ', fX10_looks (p : Int) c w μ = some (0, μ') ∧ vp_fr [68, 72, 73] μ μ' ∧ μ' 68 12 = vl_gv (vh_sn h p c w) cl ∧ μ' 68 13 = (if vl_wr (vh_sn h p c w) cl = true then 1 else 0) ∧ ∀ j, j ≠ 12 → j ≠ 13 → μ' 68 j = μ 68 j := by
  have p3 := vm_hf hh (f := 3) (by decide) hp
  have p0 := vm_hf hh (f := 0) (by decide) hp
  have p1 := vm_hf hh (f := 1) (by decide) hp
  have wp := hw.2.2.2.2 p hp
  have e154 : (154 + (p : Int)).toNat = 130 + 8 * 3 + p := by omega
  have e130 : (130 + (p : Int)).toNat = 130 + 8 * 0 + p := by omega
  have e138 : (138 + (p : Int)).toNat = 130 + 8 * 1 + p := by omega
  generalize hM : vr_u (vr_u (vr_u (vr_u (vr_u (vr_u (vr_u μ 68 12 0) 68 13 0) 72 0 c) 72 1 (h 3 p)) 72 2 (h 0 p)) 72 3 w) 72 4 (h 1 p) = M
  have fM : vp_fr [68, 72] μ M := by
    rw [← hM]
    exact ((((((vp_fr.u (by decide)).tr (vp_fr.u (by decide))).tr (vp_fr.u (by decide))).tr (vp_fr.u (by decide))).tr (vp_fr.u (by decide))).tr (vp_fr.u (by decide))).tr (vp_fr.u (by decide))
  have M69 : M 69 = μ 69 := fM 69 (by decide)
  have M72 : ∀ j, j < 5 → M 72 j = vh_sn h p c w j := by
    intro j hj
    rw [← hM]
    rcases (show j = 0 ∨ j = 1 ∨ j = 2 ∨ j = 3 ∨ j = 4 by omega) with rfl | rfl | rfl | rfl | rfl <;> simp [vr_u, vh_sn]
  have M12 : M 68 12 = 0 := by rw [← hM]; simp [vr_u]
  have M13 : M 68 13 = 0 := by rw [← hM]; simp [vr_u]
  have Mo : ∀ j, j ≠ 12 → j ≠ 13 → M 68 j = μ 68 j := fun j j1 j2 => by rw [← hM]; simp [vr_u, j1, j2]
  have hsn : ∀ j, j < 5 → vr_R (vh_sn h p c w j) := by
    intro j hj
    rcases (show j = 0 ∨ j = 1 ∨ j = 2 ∨ j = 3 ∨ j = 4 by omega) with rfl | rfl | rfl | rfl | rfl
    · exact hc
    · show vr_R (h 3 p); omega
    · show vr_R (h 0 p); omega
    · exact hww
    · show vr_R (h 1 p); omega
  have e0 : fX10_looks (p : Int) c w μ = (fX10_tellsOf 228 0 M).bind (fun r60 => vr_gd (vr_R (233 + (140 * (r60.2 69 9)))) (fX10_looks_L106 9000 r60.1 (233 + (140 * (r60.2 69 9))) 0 (233 + (140 * (r60.2 69 9))) r60.2)) := by
    unfold fX10_looks
    rw [vp_gdT (by omega), vp_let, vp_gdT (by omega), vp_let, vp_gdT (by omega), vp_let]
    simp only [e154, e130, e138, vp_un (show 69 ≠ 72 by decide), vp_un (show 69 ≠ 68 by decide), p3, p0, p1, hM]
  have hl10 := ha.1.1
  rcases ha.2.2 with ⟨h9, rfl⟩ | ⟨A, h9, hA, hn, hs⟩
  · refine ⟨M, ?_, fM.mono (by decide), by rw [M12]; rfl, by rw [M13]; rfl, Mo⟩
    rw [e0, fX10_tellsOf, fX10_tellsOf_B29]
    simp only [M69, h9]
    rw [vp_gdT (by decide), if_neg (by decide), fX10_tellsOf_B29, vp_bind]
    simp only [M69, h9]
    rw [vp_gdT (by decide), fX10_looks_L106.eq_2, vp_gdT (by decide), if_pos (by decide)]
  · have eA : (228 + (A : Int)).toNat = 228 + A := by omega
    have hl := ha.2.1
    obtain ⟨μ', g1, g2, g3, g4, g5⟩ := vm_looksL (sn := vh_sn h p c w) (x4 := ((vm_fl cl).length : Int)) (x5 := ((233 + 140 * A : Nat) : Int)) (n := 9000 - (vm_fl cl).length) hsn (by omega) cl (233 + 140 * A) M 0 0 ha.1.2.2 (by omega) (fun i hi => by rw [M69]; exact hs i hi) M72 ⟨M12, by decide, by omega⟩ ⟨M13, Or.inl rfl⟩
    refine ⟨μ', ?_, (fM.mono (by decide)).tr (g2.mono (by decide)), by rw [g3, Int.zero_add], g4, fun j j1 j2 => (g5 j j1 j2).trans (Mo j j1 j2)⟩
    rw [e0, fX10_tellsOf, fX10_tellsOf_B29]
    simp only [M69, h9, eA, hn]
    rw [vp_gdT (by omega), if_pos (by omega), vp_gdT (by omega), vp_gdT (by omega), vp_bind]
    simp only [M69, h9]
    rw [show (233 : Int) + 140 * (A : Int) = ((233 + 140 * A : Nat) : Int) by omega]
    rw [show 9000 - (vm_fl cl).length + (vm_fl cl).length = 9000 by omega] at g1
    obtain ⟨N, hN⟩ : ∃ N, 9000 - (vm_fl cl).length = N + 1 := ⟨8999 - (vm_fl cl).length, by omega⟩
    rw [vp_gdT (by omega), g1, hN, fX10_looks_L106.eq_2, vp_gdT (by omega), if_pos (by omega)]

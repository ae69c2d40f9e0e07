theorem vl_become2 {k k0 : Nat} (hd : k + 8 < k0 ∨ k0 + 8 < k) : ∀ (d i n : Nat) (μ : vr_M), i + d = 120 → d < n → (∀ j, j < i → μ (k + 3) j = μ (k0 + 3) j) →
    ∃ μ', fX3_become_L40 k k0 n (i : Int) μ = some (0, μ') ∧ vp_fr [k, k + 3] μ μ' ∧ (∀ j, 3 ≤ j → j < 9 → μ' k j = μ k0 j) ∧ ∀ j, j < 120 → μ' (k + 3) j = μ (k0 + 3) j := by
  intro d
  induction d with
  | zero =>
    intro i n μ hdd hn hj
    obtain ⟨n, rfl⟩ : ∃ q, n = q + 1 := ⟨n - 1, by omega⟩
    have hk : k0 ≠ k := by omega
    have f : vp_fr [k, k + 3] μ (vr_u (vr_u (vr_u (vr_u (vr_u (vr_u μ k 3 (μ k0 3)) k 4 (μ k0 4)) k 5 (μ k0 5)) k 6 (μ k0 6)) k 7 (μ k0 7)) k 8 (μ k0 8)) :=
      (((((vp_fr.u (by simp)).tr (vp_fr.u (by simp))).tr (vp_fr.u (by simp))).tr (vp_fr.u (by simp))).tr (vp_fr.u (by simp))).tr (vp_fr.u (by simp))
    refine ⟨vr_u (vr_u (vr_u (vr_u (vr_u (vr_u μ k 3 (μ k0 3)) k 4 (μ k0 4)) k 5 (μ k0 5)) k 6 (μ k0 6)) k 7 (μ k0 7)) k 8 (μ k0 8), ?_, f, fun j h3 h9 => ?_, fun j hj120 => ?_⟩
    · rw [fX3_become_L40.eq_2, if_pos (by omega)]
      simp only [vp_let, vp_un hk]
    · rcases (show j = 3 ∨ j = 4 ∨ j = 5 ∨ j = 6 ∨ j = 7 ∨ j = 8 by omega) with rfl | rfl | rfl | rfl | rfl | rfl <;> simp [vr_u]
    · rw [vp_un (by omega), vp_un (by omega), vp_un (by omega), vp_un (by omega), vp_un (by omega), vp_un (by omega)]
      exact hj j (by omega)
  | succ d ih =>
    intro i n μ hdd hn hj
    obtain ⟨n, rfl⟩ : ∃ q, n = q + 1 := ⟨n - 1, by omega⟩
    have e3 : (i : Int) + 1 = ((i + 1 : Nat) : Int) := by omega
    have e1 : ((i : Int)).toNat = i := rfl
    have fu : vp_fr [k, k + 3] μ (vr_u μ (k + 3) i (μ (k0 + 3) i)) := vp_fr.u (by simp)
    have a0 : (vr_u μ (k + 3) i (μ (k0 + 3) i)) k0 = μ k0 := fu k0 (by simp; omega)
    have a3 : (vr_u μ (k + 3) i (μ (k0 + 3) i)) (k0 + 3) = μ (k0 + 3) := fu (k0 + 3) (by simp; omega)
    obtain ⟨μ', g1, g2, g3, g4⟩ := ih (i + 1) n (vr_u μ (k + 3) i (μ (k0 + 3) i)) (by omega) (by omega) (fun j hji => by
      rw [a3]
      by_cases e : j = i
      · subst e; exact vp_us
      · rw [vp_uj e]; exact hj j (by omega))
    rw [a0] at g3
    rw [a3] at g4
    refine ⟨μ', ?_, fu.tr g2, g3, g4⟩
    rw [fX3_become_L40.eq_2, if_neg (by omega), vp_gdT (by omega), vp_gdT (by omega), e1, e3, g1]
theorem vl_become1 {k k0 : Nat} (hd : k + 8 < k0 ∨ k0 + 8 < k) : ∀ (d i n : Nat) (μ : vr_M), i + d = 10 → d < n → (∀ j, j < i → μ (k + 1) j = μ (k0 + 1) j ∧ μ (k + 2) j = μ (k0 + 2) j) →
    ∃ μ', fX3_become_L2 k k0 n (i : Int) μ = some (0, μ') ∧ vp_fr [k, k + 1, k + 2, k + 3] μ μ' ∧ (∀ j, 3 ≤ j → j < 9 → μ' k j = μ k0 j) ∧ (∀ j, j < 10 → μ' (k + 1) j = μ (k0 + 1) j ∧ μ' (k + 2) j = μ (k0 + 2) j) ∧ ∀ j, j < 120 → μ' (k + 3) j = μ (k0 + 3) j := by
  intro d
  induction d with
  | zero =>
    intro i n μ hdd hn hj
    obtain ⟨n, rfl⟩ : ∃ q, n = q + 1 := ⟨n - 1, by omega⟩
    obtain ⟨μ', g1, g2, g3, g4⟩ := vl_become2 hd 120 0 9000 μ (by omega) (by omega) (fun j hj => by omega)
    refine ⟨μ', ?_, g2.mono (by simp), g3, fun j hj10 => ?_, g4⟩
    · rw [fX3_become_L2.eq_2, if_pos (by omega)]
      exact g1
    · rw [g2 (k + 1) (by simp), g2 (k + 2) (by simp)]
      exact hj j (by omega)
  | succ d ih =>
    intro i n μ hdd hn hj
    obtain ⟨n, rfl⟩ : ∃ q, n = q + 1 := ⟨n - 1, by omega⟩
    have e3 : (i : Int) + 1 = ((i + 1 : Nat) : Int) := by omega
    have e1 : ((i : Int)).toNat = i := rfl
    have nk : k0 + 2 ≠ k + 1 := by omega
    have fu : vp_fr [k, k + 1, k + 2, k + 3] μ (vr_u (vr_u μ (k + 1) i (μ (k0 + 1) i)) (k + 2) i (μ (k0 + 2) i)) := (vp_fr.u (by simp)).tr (vp_fr.u (by simp))
    have a : ∀ c, c < 4 → (vr_u (vr_u μ (k + 1) i (μ (k0 + 1) i)) (k + 2) i (μ (k0 + 2) i)) (k0 + c) = μ (k0 + c) := fun c hc => fu (k0 + c) (by simp; omega)
    obtain ⟨μ', g1, g2, g3, g4, g5⟩ := ih (i + 1) n (vr_u (vr_u μ (k + 1) i (μ (k0 + 1) i)) (k + 2) i (μ (k0 + 2) i)) (by omega) (by omega) (fun j hji => by
      rw [a 1 (by decide), a 2 (by decide)]
      by_cases e : j = i
      · subst e
        exact ⟨by rw [vp_un (by omega), vp_us], vp_us⟩
      · rw [vp_uj e, vp_uj e, vp_uj e, vp_uj e]
        exact hj j (by omega))
    have a00 : (vr_u (vr_u μ (k + 1) i (μ (k0 + 1) i)) (k + 2) i (μ (k0 + 2) i)) k0 = μ k0 := a 0 (by decide)
    rw [a00] at g3
    rw [a 1 (by decide), a 2 (by decide)] at g4
    rw [a 3 (by decide)] at g5
    refine ⟨μ', ?_, fu.tr g2, g3, g4, g5⟩
    rw [fX3_become_L2.eq_2, if_neg (by omega), vp_gdT (by omega), e1]
    simp only [vp_let, vp_un nk]
    rw [vp_gdT (by omega), e3, g1]
theorem vl_become {k k0 : Nat} (hd : k + 8 < k0 ∨ k0 + 8 < k) (μ : vr_M) :
    ∃ μ', fX3_become k k0 μ = some (0, μ') ∧ vp_fr [k, k + 1, k + 2, k + 3] μ μ' ∧ (∀ j, 3 ≤ j → j < 9 → μ' k j = μ k0 j) ∧ (∀ j, j < 10 → μ' (k + 1) j = μ (k0 + 1) j ∧ μ' (k + 2) j = μ (k0 + 2) j) ∧ ∀ j, j < 120 → μ' (k + 3) j = μ (k0 + 3) j :=
  vl_become1 hd 10 0 9000 μ (by omega) (by omega) (fun j hj => by omega)
theorem vl_at_cp {k k0 : Nat} {μ μ' : vr_M} {cl : vl_C} (hw : vl_wf cl) (h : vl_at k0 μ cl) (h0 : ∀ j, 3 ≤ j → j < 9 → μ' k j = μ k0 j) (h1 : ∀ j, j < 10 → μ' (k + 1) j = μ (k0 + 1) j ∧ μ' (k + 2) j = μ (k0 + 2) j) (h2 : ∀ j, j < 120 → μ' (k + 3) j = μ (k0 + 3) j) : vl_at k μ' cl := by
  obtain ⟨q1, q2⟩ := h
  refine ⟨by rw [h0 3 (by decide) (by decide)]; exact q1, fun j hj => ?_⟩
  obtain ⟨p1, p2, p3⟩ := q2 j hj
  have hl := hw.1
  have he := hw.2.1
  obtain ⟨e1, e2⟩ := h1 j (by omega)
  refine ⟨by rw [e1]; exact p1, by rw [e2]; exact p2, fun i hi => ?_⟩
  have s := vl_end_succ hj
  have m := vl_end_le hw (show j + 1 ≤ cl.length by omega)
  rw [h2 _ (by omega)]
  exact p3 i hi

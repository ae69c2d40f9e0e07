theorem vgm_someFF {d : Nat} {μ : vr_M} (h : μ 68 8 = 1) : fX10_some (fX10_factor (d + 1)) μ = some (0, μ) := by
  rw [fX10_some, fX10_every, vgm_rcF h, vp_bind, show 9000 = 8999 + 1 from rfl, vgm_everyF h, vp_bind, vgm_someF h]
/-- an open one closes -/
theorem vgm_cl {t : Nat → Int} {e A u : Nat} {a : List Int} {μ μ1 : vr_M} {rc : vr_M → Option (Int × vr_M)} {X : vg_P} {o : Int} (h : vgm_R t e A u a μ μ1 X) (ho : μ1 68 9 = o + 1) (hμ : μ 68 9 = o + 1) {μ0 : vr_M} (k0 : vgm_K A μ0 μ) (o0 : μ0 68 9 = o) (j0 : μ 69 = μ0 69) :
    ∃ μ', fX10_factor_B101 rc μ1 = some (0, μ') ∧ vgm_R t e A u a μ0 μ' X := by
  refine ⟨vr_u μ1 68 9 ((μ1 68 9) - 1), rfl, ?_⟩
  have e9 : vr_u μ1 68 9 ((μ1 68 9) - 1) 68 9 = μ0 68 9 := by rw [vp_us, ho, o0]; omega
  have k1 : vgm_K A μ1 (vr_u μ1 68 9 ((μ1 68 9) - 1)) := vgm_K.u (by decide)
  match X with
  | (q, none) =>
    obtain ⟨⟨x1, x2, x3⟩, x4, x5⟩ := h
    exact ⟨⟨by rw [vp_uj (by decide)]; exact x1, by rw [vp_uj (by decide)]; exact x2, x3⟩, (k0.tr x4).tr k1, e9⟩
  | (q, some ts) =>
    obtain ⟨x1, x2, x3, x4⟩ := h
    exact ⟨vgm_st x1 (vp_uc (by decide)) (by rw [vp_uj (by decide)]; exact x1.1.1) (vp_uj (by decide)) (by rw [vp_uj (by decide)]; exact x1.1.2.2.1) (vp_uj (by decide)) x1.2.2.2.2.1, (k0.tr x2).tr k1, e9, fun j j1 j2 => by rw [vp_un (by decide), x4 j j1 j2, j0]⟩
theorem vgm_P0 {t : Nat → Int} {e A : Nat} : vgm_P t e A 0 := by
  intro d hd p u a μ h hu ho
  obtain ⟨d, rfl⟩ : ∃ m, d = m + 1 + 1 := ⟨d - 2, by omega⟩
  have h8 := h.1.2.2.1
  have h6 := h.1.1
  have he := h.2.2.2.2
  have hh := vgm_here h
  have ho5 : μ 68 9 = 5 := by rw [ho]; rfl
  have B25 : ∀ x1 : Int, ∃ μ', fX10_factor_B25 (fX10_factor (d + 1)) x1 μ = some (0, μ') ∧ vgm_R t e A u a μ μ' (p, none) := by
    intro x1
    unfold fX10_factor_B25 fX10_factor_B39
    rw [ho5, vp_gdT (by decide), if_neg (fun q => q rfl), vp_gdT (by decide), vp_let]
    have n9 : vr_u μ 68 8 1 68 9 = 5 := by rw [vp_uj (by decide), ho5]
    rw [n9, vp_let]
    generalize hM : vr_u (vr_u μ 68 8 1) 68 9 (5 + 1) = M
    have kM : vgm_K A μ M := by rw [← hM]; exact (vgm_K.u (by decide)).tr (vgm_K.u (by decide))
    have M8 : M 68 8 = 1 := by rw [← hM, vp_uj (by decide), vp_us]
    have M6 : M 68 6 = (p : Int) := by rw [← hM, vp_uj (by decide), vp_uj (by decide), h6]
    have M9 : M 68 9 = 6 := by rw [← hM, vp_us]; rfl
    have M69 : M 69 = μ 69 := by rw [← hM, vp_uc (by decide), vp_uc (by decide)]
    simp only [M8, M6]
    rw [vp_gdT (by decide), if_neg (by decide), vp_gdT (by omega)]
    unfold fX10_factor_B69
    generalize hN : vr_u M 68 6 ((p : Int) + 0) = N
    have kN : vgm_K A M N := by rw [← hN]; exact vgm_K.u (by decide)
    have N8 : N 68 8 = 1 := by rw [← hN, vp_uj (by decide), M8]
    have N9 : N 68 9 = 6 := by rw [← hN, vp_uj (by decide), M9]
    have N69 : N 69 = μ 69 := by rw [← hN, vp_uc (by decide), M69]
    have FN : vgm_F e N p := ⟨N8, by rw [← hN, vp_us]; omega, he.1⟩
    by_cases c : x1 = 33
    · rw [if_neg (fun q => q c), vgm_rcF N8, vp_bind]
      dsimp only
      rw [vgm_emitF N8, vp_bind]
      exact vgm_cl (o := 5) (X := (p, none)) (μ := N) ⟨FN, vgm_K.rf, rfl⟩ N9 N9 (kM.tr kN) ho5 N69
    · obtain ⟨μ2, m1, m2, m3, m4⟩ := vgm_mustF (ch := 41) (A := A) FN (by omega)
      rw [if_pos c, vgm_someFF N8, vp_bind]
      dsimp only
      rw [m1, vp_bind]
      exact vgm_cl (o := 5) (X := (p, none)) (μ := N) ⟨m2, m3, m4⟩ (by rw [m4, N9]; rfl) N9 (kM.tr kN) ho5 N69
  rw [fX10_factor, fX10_factor_1, h8, vp_gdT (by decide), if_pos rfl, hh, vp_bind, vg_one]
  dsimp only
  by_cases c1 : vg_C t e p = 33
  · rw [if_pos c1, if_pos (Or.inl c1)]
    exact B25 _
  · rw [if_neg c1]
    by_cases c2 : vg_C t e p = 40
    · rw [if_neg (fun q => q c2), if_pos (Or.inr c2)]
      exact B25 _
    · rw [if_pos c2, if_neg (fun q => q.elim c1 c2)]
      exact vgm_test h hu
theorem vgm_PS {t : Nat → Int} {e A k : Nat} (hP : vgm_P t e A k) (hk : k + 1 ≤ 5) : vgm_P t e A (k + 1) := by
  intro d hd p u a μ h hu ho
  obtain ⟨d, rfl⟩ : ∃ m, d = m + 1 := ⟨d - 1, by omega⟩
  have hE := vg_CE t e
  have h8 := h.1.2.2.1
  have h6 := h.1.1
  have he := h.2.2.2.2
  have hh := vgm_here h
  have e5 : 5 - ((k + 1 : Nat) : Int) + 1 = 5 - (k : Int) := by omega
  have pre : ∀ x1 : Int, p + 1 ≤ e → ∃ N, fX10_factor_B25 (fX10_factor d) x1 μ = (if ¬ x1 = 33 then (fX10_some (fX10_factor d) N).bind (fun r1 => (fX10_must 41 r1.2).bind (fun r2 => fX10_factor_B101 (fX10_factor d) r2.2)) else (fX10_factor d N).bind (fun r3 => (fX10_emits (-1) r3.2).bind (fun r4 => fX10_factor_B101 (fX10_factor d) r4.2))) ∧ vgm_S t e A N (p + 1) u a ∧ vgm_K A μ N ∧ N 68 9 = 5 - (k : Int) ∧ N 69 = μ 69 := by
    intro x1 pe
    unfold fX10_factor_B25 fX10_factor_B39
    rw [ho, vp_gdT (by omega), if_pos (by omega), vp_gdT (by decide), vp_let]
    have n9 : vr_u μ 68 8 0 68 9 = 5 - ((k + 1 : Nat) : Int) := by rw [vp_uj (by decide), ho]
    rw [n9, vp_let, e5]
    generalize hM : vr_u (vr_u μ 68 8 0) 68 9 (5 - (k : Int)) = M
    have kM : vgm_K A μ M := by rw [← hM]; exact (vgm_K.u (by decide)).tr (vgm_K.u (by decide))
    have M8 : M 68 8 = 0 := by rw [← hM, vp_uj (by decide), vp_us]
    have M6 : M 68 6 = (p : Int) := by rw [← hM, vp_uj (by decide), vp_uj (by decide), h6]
    have M9 : M 68 9 = 5 - (k : Int) := by rw [← hM, vp_us]
    have M69 : M 69 = μ 69 := by rw [← hM, vp_uc (by decide), vp_uc (by decide)]
    simp only [M8, M6]
    rw [vp_gdT (by decide), if_pos trivial, vp_gdT (by omega)]
    unfold fX10_factor_B69
    rw [show (p : Int) + 1 = ((p + 1 : Nat) : Int) by omega]
    refine ⟨vr_u M 68 6 ((p + 1 : Nat) : Int), rfl, ?_, kM.tr (vgm_K.u (by decide)), by rw [vp_uj (by decide), M9], by rw [vp_uc (by decide), M69]⟩
    exact vgm_st h (by rw [vp_uc (by decide), M69]) vp_us (by rw [vp_uj (by decide)]; exact kM.2.1 7 (by decide) (by decide) (by decide)) (by rw [vp_uj (by decide), M8]) (by rw [vp_uj (by decide)]; exact kM.2.1 5 (by decide) (by decide) (by decide)) pe
  rw [fX10_factor, fX10_factor_1, h8, vp_gdT (by decide), if_pos rfl, hh, vp_bind, vg_one]
  dsimp only
  by_cases c1 : vg_C t e p = 33
  · have p1 : p < e := hE.lt (fun q => by rw [q] at c1; omega)
    obtain ⟨N, n1, n2, n3, n4, n5⟩ := pre (vg_C t e p) (by omega)
    have gG := vg_one_G hE k (p + 1) (by omega)
    obtain ⟨μ1, y1, y2⟩ := hP d (by omega) (p + 1) u a N n2 (by omega) n4
    rw [if_pos c1, if_pos c1, n1, if_neg (fun q => q c1), y1, vp_bind]
    match hm : vg_one (vg_C t e) k (p + 1) with
    | (q, none) =>
      rw [hm] at y2
      have x1 := y2.1.1
      rw [vgm_emitF x1, vp_bind]
      exact vgm_cl (o := 5 - ((k + 1 : Nat) : Int)) (X := (q, none)) y2 (by rw [y2.2.2, n4, e5]) (by rw [n4, e5]) n3 ho n5
    | (q, some ts) =>
      rw [hm] at y2 gG
      obtain ⟨x1, x2, x3, x4⟩ := y2
      obtain ⟨g1, g2, g3⟩ := gG
      obtain ⟨μ3, z1, z2, z3, z4, z5⟩ := vgm_emit (x := -1) (y := -1) x1 (by simp; omega) rfl
      rw [z1, vp_bind]
      refine vgm_cl (o := 5 - ((k + 1 : Nat) : Int)) (X := (q, some (ts ++ [-1]))) (μ := N) ⟨by rw [← List.append_assoc]; exact z2, x2.tr z3, z4.trans x3, fun j j1 j2 => (z5 j j1 j2).trans (x4 j j1 j2)⟩ (by rw [z4, x3, n4, e5]) (by rw [n4, e5]) n3 ho n5
  · rw [if_neg c1, if_neg c1]
    by_cases c2 : vg_C t e p = 40
    · have p1 : p < e := hE.lt (fun q => by rw [q] at c2; omega)
      obtain ⟨N, n1, n2, n3, n4, n5⟩ := pre (vg_C t e p) (by omega)
      have gG := vg_any_G hE (vg_one_G hE k) (show p + 1 ≤ e by omega)
      obtain ⟨μ1, y1, y2⟩ := vgm_A hP (show k + 2 ≤ d by omega) n2 (by omega) n4
      rw [if_neg (fun q => q c2), if_pos c2, n1, if_pos c1, y1, vp_bind]
      match hm : vg_any (vg_C t e) (vg_one (vg_C t e) k) (p + 1) with
      | (q, none) =>
        rw [hm] at y2
        obtain ⟨x1, x2, x3⟩ := y2
        obtain ⟨μ2, m1, m2, m3, m4⟩ := vgm_mustF (ch := 41) (A := A) x1 (by omega)
        rw [m1, vp_bind]
        exact vgm_cl (o := 5 - ((k + 1 : Nat) : Int)) (X := (q, none)) (μ := N) ⟨m2, x2.tr m3, m4.trans x3⟩ (by rw [m4, x3, n4, e5]) (by rw [n4, e5]) n3 ho n5
      | (q, some ts) =>
        rw [hm] at y2
        obtain ⟨x1, x2, x3, x4⟩ := y2
        obtain ⟨μ2, m1, m2, m3, m4, m5⟩ := vgm_must (ch := 41) x1 (by decide)
        rw [m1, vp_bind]
        show ∃ μ', _ ∧ vgm_R t e A u a μ μ' (if vg_C t e q = 41 then (q + 1, some ts) else (q, none))
        by_cases c3 : vg_C t e q = 41
        · rw [if_pos c3] at m5
          rw [if_pos c3]
          exact vgm_cl (o := 5 - ((k + 1 : Nat) : Int)) (X := (q + 1, some ts)) (μ := N) ⟨m5, x2.tr m2, m3.trans x3, fun j j1 j2 => by rw [m4]; exact x4 j j1 j2⟩ (by rw [m3, x3, n4, e5]) (by rw [n4, e5]) n3 ho n5
        · rw [if_neg c3] at m5
          rw [if_neg c3]
          exact vgm_cl (o := 5 - ((k + 1 : Nat) : Int)) (X := (q, none)) (μ := N) ⟨m5, x2.tr m2, m3.trans x3⟩ (by rw [m3, x3, n4, e5]) (by rw [n4, e5]) n3 ho n5
    · rw [if_pos c2, if_neg c2]
      exact vgm_test h hu
theorem vgm_Pk {t : Nat → Int} {e A : Nat} : ∀ k, k ≤ 5 → vgm_P t e A k
  | 0, _ => vgm_P0
  | k + 1, h => vgm_PS (vgm_Pk k (by omega)) h
theorem vgm_cond {t : Nat → Int} {e A p u : Nat} {a : List Int} {μ : vr_M} (h : vgm_S t e A μ p u a) (hu : u + a.length ≤ p) (ho : μ 68 9 = 0) :
    ∃ μ', fX10_some (fX10_factor 8) μ = some (0, μ') ∧ vgm_R t e A u a μ μ' (vg_E0 (vg_C t e) p) :=
  vgm_A (vgm_Pk 5 (by decide)) (d := 8) (by decide) h hu (by rw [ho]; rfl)

theorem vz_T1 : ¬ (1 : Int) = 0 := by decide
theorem vz_F0 : ¬ ¬ (0 : Int) = 0 := by decide
theorem vz_63 {μ μ' : vr_M} (f : vp_fr vt_TR μ μ') : vp_fr (63 :: 64 :: 65 :: vt_TR) μ μ' := f.mono vt_TR_63
theorem vz_gives (a : Int) : vz_S (fX9_gives a) (fX10_gives a) := by
  intro Y μ hY hR
  obtain ⟨h, cl, wk, mv, gr, dr, tn, tp, rn, row, an, ag, n, rk, rv, ld, w, d, b, r1, r2, bm⟩ := vz_open hR
  obtain ⟨μ1, c1, c2, c3⟩ := vo_gives (by omega) b (a := a)
  have e : μ1 69 = μ 69 := c2 69 (by decide)
  have B := bm μ1 e
  have w0 := b.2.2.1.1
  have w1 := b.2.2.1.2.1
  have m0 : μ1 69 0 = h 5 0 := by rw [← B.1]; rfl
  have m7 : μ1 69 7 = h 5 1 := by rw [← B.1]; rfl
  by_cases c : 0 ≤ a ∧ a < h 5 0
  · obtain ⟨p, rfl⟩ : ∃ p : Nat, a = (p : Int) := ⟨a.toNat, by omega⟩
    obtain ⟨μ2, g1, g2, g3⟩ := vm_gives (wk := wk) (v := h 5 1) (p := p) (by omega) B.1 B.2.1 B.2.2.1 (by omega) w1
    rw [if_pos c] at c1
    refine ⟨_, μ1, μ2, c1, ?_, (vz_quiet hR (vz_63 c2) c3 (vm_Z.of g2 g3).y (g2 69 (by decide))).mono (by omega)⟩
    rw [fX10_gives, vm_plotT (by omega) (by omega), vp_bind, if_neg vz_T1]
    dsimp only
    rw [(vm_tells B.2.2).1, vp_bind]
    simp only [m7]
    rw [vp_gdT (by omega), g1, vp_bind]
    rfl
  · rw [if_neg c] at c1
    refine ⟨_, μ1, μ1, c1, ?_, (vz_quiet hR (vz_63 c2) c3 vm_Y.rf rfl).mono (by omega)⟩
    rw [fX10_gives, vm_plotF (by omega) (by omega), vp_bind]
    rfl
theorem vz_burns (r : Int) : vz_S (fX9_burns r) (fX10_burns r) := by
  intro Y μ hY hR
  obtain ⟨h, cl, wk, mv, gr, dr, tn, tp, rn, row, an, ag, n, rk, rv, ld, w, d, b, r1, r2, bm⟩ := vz_open hR
  have w1 := b.2.2.1.2.1
  by_cases q : 0 ≤ r ∧ r < (n : Int)
  · obtain ⟨i, rfl⟩ : ∃ i : Nat, r = (i : Int) := ⟨r.toNat, by omega⟩
    obtain ⟨μ1, c1, c2, c3⟩ := vo_burns (by omega) b r1 (i := i) (by omega)
    have e : μ1 69 = μ 69 := c2 69 (by decide)
    have B := bm μ1 e
    have r2' : vm_ru (μ1 69) n rk rv := by rw [e]; exact r2
    obtain ⟨q1, q2, q3, q4, q5, q6⟩ := vm_rk (s := μ1 69) r2' (i := i) (by omega)
    obtain ⟨μ2, g1, g2⟩ := vm_burnt (by omega) B.2.1 q3 q4 w1 B.1 B.2.2
    have m7 : μ1 69 7 = h 5 1 := by rw [← B.1]; rfl
    refine ⟨_, μ1, μ2, c1, ?_, (vz_quiet hR (vz_63 c2) c3 g2.y g2.s).mono (by omega)⟩
    rw [fX10_burns, vm_rule r2' rfl, if_pos q, vp_bind, if_neg vz_T1, vp_gdT q5, vp_gdT q6]
    simp only [q1, q2, m7]
    rw [vp_gdT (by omega), vp_gdT (by omega), vp_gdT (by omega), g1, vp_bind]
    rfl
  · refine ⟨-1, μ, μ, ?_, ?_, hR.mono (by omega)⟩
    · rw [fX9_burns, vx_hasF r1 q, vp_bind, if_neg vz_F0]
    · rw [fX10_burns, vm_rule r2 rfl, if_neg q, vp_bind]
      rfl
theorem vz_moves (r : Int) : vz_S (fX9_moves r) (fX10_moves r) := by
  intro Y μ hY hR
  obtain ⟨h, cl, wk, mv, gr, dr, tn, tp, rn, row, an, ag, n, rk, rv, ld, w, d, b, r1, r2, bm⟩ := vz_open hR
  by_cases q : 0 ≤ r ∧ r < (n : Int)
  · obtain ⟨i, rfl⟩ : ∃ i : Nat, r = (i : Int) := ⟨r.toNat, by omega⟩
    obtain ⟨μ1, c1, c2, c3⟩ := vo_moves (by omega) b r1 (i := i) (by omega)
    have e : μ1 69 = μ 69 := c2 69 (by decide)
    have B := bm μ1 e
    have r2' : vm_ru (μ1 69) n rk rv := by rw [e]; exact r2
    obtain ⟨q1, q2, q3, q4, q5, q6⟩ := vm_rk (s := μ1 69) r2' (i := i) (by omega)
    obtain ⟨μ2, g1, g2⟩ := vm_moves (by omega) B.2.1 q3 q4 B.1 B.2.2
    refine ⟨_, μ1, μ2, c1, ?_, (vz_quiet hR (vz_63 c2) c3 g2.y g2.s).mono (by omega)⟩
    rw [fX10_moves, vm_rule r2' rfl, if_pos q, vp_bind, if_neg vz_T1, vp_gdT q5, vp_gdT q6]
    simp only [q1, q2]
    rw [vp_gdT (by omega), vp_gdT (by omega), g1, vp_bind]
    rfl
  · refine ⟨-1, μ, μ, ?_, ?_, hR.mono (by omega)⟩
    · rw [fX9_moves, vx_hasF r1 q, vp_bind, if_neg vz_F0]
    · rw [fX10_moves, vm_rule r2 rfl, if_neg q, vp_bind]
      rfl
theorem vz_judged : vz_S fX9_judged fX10_judged := by
  intro Y μ hY hR
  obtain ⟨h, cl, wk, mv, gr, dr, tn, tp, rn, row, an, ag, n, rk, rv, ld, w, d, b, r1, r2, bm⟩ := vz_open hR
  have w0 := b.2.2.1.1
  obtain ⟨N, hN⟩ : ∃ N : Nat, h 5 0 = (N : Int) := ⟨(h 5 0).toNat, by omega⟩
  have hrow : vj_row μ rn row := by
    obtain ⟨-, -, -, ⟨x1, x2, x3⟩, -⟩ := w
    exact ⟨x1, x2, fun i hi => by have := x3 i hi; exact ⟨this.1, by omega, by omega⟩⟩
  obtain ⟨μ1, c1, c2, c3⟩ := vt_judged (by omega) b hN hrow
  have e : μ1 69 = μ 69 := c2 69 (by decide)
  obtain ⟨μ2, g1, g2, g3⟩ := vm_judged (by omega) (bm μ1 e) hN (by rw [e]; exact d.2.2.2.1)
  exact ⟨_, μ1, μ2, c1, g1, (vz_quiet hR (vz_63 c2) c3 g2 g3).mono (by omega)⟩
theorem vz_proof (r m x : Int) : vz_S (fX9_proof r m x) (fX10_proof r m x) := by
  intro Y μ hY hR
  obtain ⟨h, cl, wk, mv, gr, dr, tn, tp, rn, row, an, ag, n, rk, rv, ld, w, d, b, r1, r2, bm⟩ := vz_open hR
  by_cases q : 0 ≤ r ∧ r < (n : Int)
  · obtain ⟨i, rfl⟩ : ∃ i : Nat, r = (i : Int) := ⟨r.toNat, by omega⟩
    by_cases qx : 0 ≤ x ∧ x ≤ 2
    · by_cases qm : 1 ≤ m ∧ m ≤ 30
      · obtain ⟨μ1, c1, c2, c3⟩ := vo_proof (by omega) b r1 (i := i) (by omega) qm qx
        have e : μ1 69 = μ 69 := c2 69 (by decide)
        obtain ⟨μ2, g1, g2, g3⟩ := vm_proof (by omega) (bm μ1 e) (by rw [e]; exact r2) (i := i) (by omega) qm qx
        exact ⟨_, μ1, μ2, c1, g1, (vz_quiet hR (vz_63 c2) c3 g2 g3).mono (by omega)⟩
      · refine ⟨-2, μ, μ, ?_, ?_, hR.mono (by omega)⟩
        · rw [fX9_proof, vx_hasT r1 (i := i) (by omega), vp_bind, if_neg vz_T1, vx_inT qx, vp_bind, if_pos vz_T1, vx_inF qm, vp_bind, if_neg vz_F0]
        · rw [fX10_proof, vm_rule r2 rfl, if_pos q, vp_bind, if_neg vz_T1, vm_inT qx, vp_bind, if_pos vz_T1, vm_inF qm, vp_bind, if_neg vz_F0]
    · refine ⟨-1, μ, μ, ?_, ?_, hR.mono (by omega)⟩
      · rw [fX9_proof, vx_hasT r1 (i := i) (by omega), vp_bind, if_neg vz_T1, vx_inF qx, vp_bind, if_neg vz_F0]
        rfl
      · rw [fX10_proof, vm_rule r2 rfl, if_pos q, vp_bind, if_neg vz_T1, vm_inF qx, vp_bind, if_neg vz_F0]
        rfl
  · refine ⟨-1, μ, μ, ?_, ?_, hR.mono (by omega)⟩
    · rw [fX9_proof, vx_hasF r1 q, vp_bind]
      rfl
    · rw [fX10_proof, vm_rule r2 rfl, if_neg q, vp_bind]
      rfl
theorem vz_ever (r x : Int) : vz_S (fX9_ever r x) (fX10_ever r x) := by
  intro Y μ hY hR
  obtain ⟨h, cl, wk, mv, gr, dr, tn, tp, rn, row, an, ag, n, rk, rv, ld, w, d, b, r1, r2, bm⟩ := vz_open hR
  by_cases q : 0 ≤ r ∧ r < (n : Int)
  · obtain ⟨i, rfl⟩ : ∃ i : Nat, r = (i : Int) := ⟨r.toNat, by omega⟩
    by_cases qx : 0 ≤ x ∧ x ≤ 2
    · obtain ⟨μ1, c1, c2, c3⟩ := vo_ever (by omega) b r1 (i := i) (by omega) qx
      have e : μ1 69 = μ 69 := c2 69 (by decide)
      obtain ⟨μ2, g1, g2, g3⟩ := vm_ever (by omega) (bm μ1 e) (by rw [e]; exact r2) (i := i) (by omega) qx
      exact ⟨_, μ1, μ2, c1, g1, (vz_quiet hR c2 c3 g2 g3).mono (by omega)⟩
    · refine ⟨-1, μ, μ, ?_, ?_, hR.mono (by omega)⟩
      · rw [fX9_ever, vx_hasT r1 (i := i) (by omega), vp_bind, if_neg vz_T1, vx_inF qx, vp_bind, if_neg vz_F0]
        rfl
      · rw [fX10_ever, vm_rule r2 rfl, if_pos q, vp_bind, if_neg vz_T1, vm_inF qx, vp_bind, if_neg vz_F0]
        rfl
  · refine ⟨-1, μ, μ, ?_, ?_, hR.mono (by omega)⟩
    · rw [fX9_ever, vx_hasF r1 q, vp_bind]
      rfl
    · rw [fX10_ever, vm_rule r2 rfl, if_neg q, vp_bind]
      rfl
theorem vz_less (m : Int) : vz_S (fX9_less m) (fX10_less m) := by
  intro Y μ hY hR
  obtain ⟨h, cl, wk, mv, gr, dr, tn, tp, rn, row, an, ag, n, rk, rv, ld, w, d, b, r1, r2, bm⟩ := vz_open hR
  obtain ⟨μ1, c1, c2, c3⟩ := vo_less (by omega) b (m := m)
  have e : μ1 69 = μ 69 := c2 69 (by decide)
  obtain ⟨μ2, g1, g2, g3⟩ := vm_less (by omega) (bm μ1 e) (m := m)
  exact ⟨_, μ1, μ2, c1, g1, (vz_quiet hR (vz_63 c2) c3 g2 g3).mono (by omega)⟩
theorem vz_two (x : Int) : vz_S (fX9_two x) (fX10_two x) := by
  intro Y μ hY hR
  obtain ⟨h, cl, wk, mv, gr, dr, tn, tp, rn, row, an, ag, n, rk, rv, ld, w, d, b, r1, r2, bm⟩ := vz_open hR
  have w0 := b.2.2.1.1
  obtain ⟨N, hN⟩ : ∃ N : Nat, h 5 0 = (N : Int) := ⟨(h 5 0).toNat, by omega⟩
  obtain ⟨μ1, c1, c2, c3⟩ := vt_two (by omega) b (v1 := x) hN
  have e : μ1 69 = μ 69 := c2 69 (by decide)
  obtain ⟨μ2, g1, g2⟩ := vm_two (by omega) (bm μ1 e) (v1 := x) hN
  exact ⟨_, μ1, μ2, c1, g1, (vz_quiet hR (vz_63 c2) c3 g2.y g2.s).mono (by omega)⟩
theorem vz_way (x : Int) : vz_S (fX9_way x) (fX10_way x) := by
  intro Y μ hY hR
  obtain ⟨h, cl, wk, mv, gr, dr, tn, tp, rn, row, an, ag, n, rk, rv, ld, w, d, b, r1, r2, bm⟩ := vz_open hR
  have w0 := b.2.2.1.1
  obtain ⟨N, hN⟩ : ∃ N : Nat, h 5 0 = (N : Int) := ⟨(h 5 0).toNat, by omega⟩
  obtain ⟨μ1, c1, c2, c3⟩ := vt_way (by omega) b (x := x) hN
  have e : μ1 69 = μ 69 := c2 69 (by decide)
  obtain ⟨μ2, g1, g2⟩ := vm_way (by omega) (bm μ1 e) (x := x) hN
  exact ⟨_, μ1, μ2, c1, g1, (vz_quiet hR (vz_63 c2) c3 g2.y g2.s).mono (by omega)⟩
/-- safe answers a long -/
def vz_SL (c m : vr_M → Option (Int64 × vr_M)) : Prop := ∀ (Y : Int) (μ : vr_M), Y ≤ 90000 → vz_R Y μ → ∃ r μ1 μ2, c μ = some (r, μ1) ∧ m μ1 = some (r, μ2) ∧ vz_R (Y + 40) μ2
theorem vz_safe (r m x : Int) : vz_SL (fX9_safe r m x) (fX10_safe r m x) := by
  intro Y μ hY hR
  obtain ⟨h, cl, wk, mv, gr, dr, tn, tp, rn, row, an, ag, n, rk, rv, ld, w, d, b, r1, r2, bm⟩ := vz_open hR
  have hdr := b.1.2.2.2.2.2
  by_cases q : 0 ≤ r ∧ r < (n : Int)
  · obtain ⟨i, rfl⟩ : ∃ i : Nat, r = (i : Int) := ⟨r.toNat, by omega⟩
    by_cases qm : 1 ≤ m ∧ m ≤ 6
    · by_cases qx : 0 ≤ x ∧ x ≤ 1
      · obtain ⟨μ1, K, c1, c2, c3⟩ := vo_safe (by omega) b r1 (i := i) (by omega) qm qx
        have e : μ1 69 = μ 69 := c2 69 (by decide)
        obtain ⟨μ2, g1, g2, g3⟩ := vm_safe (by omega) (bm μ1 e) (by rw [e]; exact r2) (i := i) (by omega) qm qx
        have p10 : (10 : Int) ^ m.toNat ≤ 1000000 := by
          have : ∀ k : Nat, k ≤ 6 → (10 : Int) ^ k ≤ 1000000 := by decide
          exact this _ (by omega)
        have one : (1 : Int64).toInt = 1 := rfl
        have b0 := vy_saf_in (kind := rk i) (v := rv i) (cl := cl) (wk := wk) (mv := mv) (gr := gr) (dr := dr) (by omega) m.toNat h 1 (by rw [one]; omega)
        have b1 := vp_x10_in m.toNat 1 (by rw [one]; omega)
        obtain ⟨g, f1, f2, f3⟩ := vp_gcd (μ := μ1) (μ' := μ2) 40 9000 9000 (vy_saf (rk i) (rv i) cl wk mv gr dr m.toNat h 1) (vp_x10 m.toNat 1) 0 b0 (by omega) (by
          have : (1000000 : Int) < 2 ^ 40 := by decide
          omega) (by omega) (by decide) (by decide) (by decide) (by decide)
        have f1' : fX9_commonDivisor (vy_saf (rk i) (rv i) cl wk mv gr dr m.toNat h 1) (vp_x10 m.toNat 1) μ1 = some (g, μ1) := f1
        have f2' : fX10_divisor (vy_saf (rk i) (rv i) cl wk mv gr dr m.toNat h 1) (vp_x10 m.toNat 1) μ2 = some (g, μ2) := f2
        have gne : ¬ g = 0 := fun z => by rw [z] at f3; exact absurd f3 (by decide)
        have gl : (0 : Int) < vr_lcmp g 0 := by rw [vp_lcmp0, if_pos f3]; decide
        refine ⟨(if x = 0 then vy_saf (rk i) (rv i) cl wk mv gr dr m.toNat h 1 else vp_x10 m.toNat 1) / g, μ1, μ2, ?_, ?_, (vz_quiet hR (vz_63 c2) c3 g2 g3).mono (by omega)⟩
        · rw [c1, fX9_safe_L48.eq_2, if_pos (by omega), f1', vp_bind]
          dsimp only
          rw [if_pos gl]
          by_cases z : x = 0
          · rw [if_neg (fun q => q z), fX9_safe_B121, vp_gdT gne, if_pos z]
          · rw [if_pos z, fX9_safe_B121, vp_gdT gne, if_neg z]
        · rw [g1, fX10_safe_B170, f2', vp_bind]
          dsimp only
          rw [vp_gdT gne]
      · refine ⟨-9223372036854775808, μ, μ, ?_, ?_, hR.mono (by omega)⟩
        · rw [fX9_safe, vx_hasT r1 (i := i) (by omega), vp_bind, if_neg vz_T1, vx_inT qm, vp_bind, if_neg vz_T1, vx_inF qx, vp_bind, if_neg vz_F0]
          rfl
        · rw [fX10_safe, vm_rule r2 rfl, if_pos q, vp_bind, if_neg vz_T1, vm_inT qm, vp_bind, if_neg vz_T1, vm_inF qx, vp_bind, if_neg vz_F0]
          rfl
    · refine ⟨-9223372036854775808, μ, μ, ?_, ?_, hR.mono (by omega)⟩
      · rw [fX9_safe, vx_hasT r1 (i := i) (by omega), vp_bind, if_neg vz_T1, vx_inF qm, vp_bind]
        rfl
      · rw [fX10_safe, vm_rule r2 rfl, if_pos q, vp_bind, if_neg vz_T1, vm_inF qm, vp_bind]
        rfl
  · refine ⟨-9223372036854775808, μ, μ, ?_, ?_, hR.mono (by omega)⟩
    · rw [fX9_safe, vx_hasF r1 q, vp_bind]
      rfl
    · rw [fX10_safe, vm_rule r2 rfl, if_neg q, vp_bind]
      rfl

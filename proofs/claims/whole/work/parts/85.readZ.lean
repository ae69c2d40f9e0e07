theorem vz_ctrl {cc : Prop} [Decidable cc] {a b : Int} (h : cc) : (if cc then a else b) = a := if_pos h
theorem vz_of (p w : Int) : vz_S (fX9_of p w) (fX10_of p w) := by
  intro Y μ hY hR
  obtain ⟨h, cl, wk, mv, gr, dr, tn, tp, rn, row, an, ag, n, rk, rv, ld, ww, d, b, r1, r2, bm⟩ := vz_open hR
  have B := bm μ rfl
  have w0 := b.2.2.1.1
  have m25 : μ 2 5 = h 5 0 := by rw [← b.2.1]; rfl
  have m0 : μ 69 0 = h 5 0 := by rw [← B.1]; rfl
  by_cases c : 0 ≤ p ∧ p < h 5 0
  · obtain ⟨q, rfl⟩ : ∃ q : Nat, p = (q : Int) := ⟨p.toNat, by omega⟩
    have q8 : q < 8 := by omega
    have hh : fX2_has 2 (q : Int) μ = some (1, μ) := by rw [vp_has (by rw [m25]; omega), if_pos (by rw [m25]; omega)]
    obtain ⟨b0, b1, b2, b3, b4⟩ := b.2.2.1.2.2.2.2 q q8
    have cf : ∀ f, f < 5 → μ (3 + f) q = h f q := fun f hf => by rw [← b.2.1]; unfold vh_c; rw [if_pos hf, if_pos q8]
    have e1 : ((q : Int)).toNat = q := rfl
    by_cases dw : 0 ≤ w ∧ w ≤ 4
    · obtain ⟨f, rfl⟩ : ∃ f : Nat, w = (f : Int) := ⟨w.toNat, by omega⟩
      have f5 : f < 5 := by omega
      have mf := vm_hf B.1 (f := f) f5 q8
      have ei : (130 + 8 * (f : Int) + (q : Int)).toNat = 130 + 8 * f + q := by omega
      have hR2 : vr_R (h f q) := by
        rcases (show f = 0 ∨ f = 1 ∨ f = 2 ∨ f = 3 ∨ f = 4 by omega) with rfl | rfl | rfl | rfl | rfl <;> omega
      refine ⟨h f q, μ, μ, ?_, ?_, hR.mono (by omega)⟩
      · rw [fX9_of, hh, vp_bind, if_pos vz_T1]
        dsimp only
        have c0 := cf 0 (by decide)
        have c1 := cf 1 (by decide)
        have c2 := cf 2 (by decide)
        have c3 := cf 3 (by decide)
        have c4 := cf 4 (by decide)
        simp only [e1, Nat.reduceAdd] at c0 c1 c2 c3 c4 ⊢
        rcases (show f = 0 ∨ f = 1 ∨ f = 2 ∨ f = 3 ∨ f = 4 by omega) with rfl | rfl | rfl | rfl | rfl
        · show vr_gd _ _ = _
          rw [vp_gdT (by omega), c0, vp_gdT hR2]
        · show vr_gd _ _ = _
          rw [vp_gdT (by omega), c1, vp_gdT hR2]
        · show vr_gd _ _ = _
          rw [vp_gdT (by omega), c2, vp_gdT hR2]
        · show vr_gd _ _ = _
          rw [vp_gdT (by omega), c3, vp_gdT hR2]
        · show vr_gd _ _ = _
          rw [vp_gdT (by omega), c4, vp_gdT hR2]
      · rw [fX10_of, vm_plotT (by omega) (by omega), vp_bind, if_neg vz_T1, vm_inT dw, vp_bind, if_neg vz_T1, vp_gdT (by omega)]
        simp only [ei, mf]
        rw [vp_gdT hR2]
        rfl
    · refine ⟨-1, μ, μ, ?_, ?_, hR.mono (by omega)⟩
      · rw [fX9_of, hh, vp_bind, if_pos vz_T1]
        unfold vr_sw
        by_cases z : 0 ≤ w
        · rw [if_pos z]
          obtain ⟨k, hk⟩ : ∃ k : Nat, (w - 0).toNat = k + 5 := ⟨(w - 0).toNat - 5, by omega⟩
          rw [hk]
          rfl
        · rw [if_neg z]
      · rw [fX10_of, vm_plotT (by omega) (by omega), vp_bind, if_neg vz_T1, vm_inF dw, vp_bind]
        rfl
  · have hh : fX2_has 2 p μ = some (0, μ) := by rw [vp_has (by rw [m25]; omega), if_neg (by rw [m25]; omega)]
    refine ⟨-1, μ, μ, ?_, ?_, hR.mono (by omega)⟩
    · rw [fX9_of, hh, vp_bind, if_neg vz_F0]
    · rw [fX10_of, vm_plotF (by omega) (by omega), vp_bind]
      rfl
theorem vz_count (w : Int) : vz_S (fX9_count w) (fX10_count w) := by
  intro Y μ hY hR
  obtain ⟨T, t1, t2, t3, t4⟩ := hR.2.2.1
  obtain ⟨h, cl, wk, mv, gr, dr, tn, tp, rn, row, an, ag, n, rk, rv, ld, ww, d, b, r1, r2, bm⟩ := vz_open hR
  have B := bm μ rfl
  obtain ⟨w0, w1, w2, w3, w4⟩ := b.2.2.1
  obtain ⟨-, -, x1, x2, x3, x4, x5, x6, x7, x8⟩ := ww
  obtain ⟨-, -, y1, y2, y3, y4, y5, y6⟩ := d
  have a0 : μ 2 5 = h 5 0 := by rw [← b.2.1]; rfl
  have c0 : μ 69 0 = h 5 0 := by rw [← B.1]; rfl
  have a1 : μ 19 1 = (n : Int) := x4.1
  have c1 : μ 69 1 = (n : Int) := y4.1
  have a2 : μ 1 7 = ld := x6
  have c2 : μ 69 2 = ld := y5
  have a3 : μ 2 8 = h 5 3 := by rw [← b.2.1]; rfl
  have c3 : μ 69 3 = h 5 3 := by rw [← B.1]; rfl
  have a4 : μ 13 1 = (tn : Int) := x1.1
  have c4 : μ 69 4 = (tn : Int) := y1.1
  have a5 : μ 15 1 = (rn : Int) := x2.1
  have c5 : μ 69 5 = (rn : Int) := y2.1
  have a6 : μ 17 1 = (an : Int) := x3.1
  have c6 : μ 69 6 = (an : Int) := y3.1
  have a7 : μ 66 1 = (T.length : Int) := t1.1
  have c7 : μ 68 22 = (T.length : Int) := t2.1
  have n1 := x1.2.1
  have n2 := x2.2.1
  have n3 := x3.2.1
  have n4 := x4.2.1
  have key : ∀ v : Int, fX9_count w μ = some (v, μ) → fX10_count w μ = some (v, μ) → ∃ r μ1 μ2, fX9_count w μ = some (r, μ1) ∧ fX10_count w μ1 = some (r, μ2) ∧ vz_R (Y + 40) μ2 := fun v p q => ⟨v, μ, μ, p, q, hR.mono (by omega)⟩
  by_cases dw : 0 ≤ w ∧ w ≤ 7
  · rcases (show w = 0 ∨ w = 1 ∨ w = 2 ∨ w = 3 ∨ w = 4 ∨ w = 5 ∨ w = 6 ∨ w = 7 by omega) with rfl | rfl | rfl | rfl | rfl | rfl | rfl | rfl
    · exact key (h 5 0) (by show vr_gd (vr_R (μ 2 5)) (some (μ 2 5, μ)) = _; simp only [a0]; rw [vp_gdT (by omega)]) (by show vr_gd (vr_R (μ 69 0)) (some (μ 69 0, μ)) = _; simp only [c0]; rw [vp_gdT (by omega)])
    · exact key n (by show vr_gd (vr_R (μ 19 1)) (some (μ 19 1, μ)) = _; simp only [a1]; rw [vp_gdT (by omega)]) (by show vr_gd (vr_R (μ 69 1)) (some (μ 69 1, μ)) = _; simp only [c1]; rw [vp_gdT (by omega)])
    · exact key ld (by show vr_gd (vr_R (μ 1 7)) (some (μ 1 7, μ)) = _; simp only [a2]; rw [vp_gdT (by omega)]) (by show vr_gd (vr_R (μ 69 2)) (some (μ 69 2, μ)) = _; simp only [c2]; rw [vp_gdT (by omega)])
    · exact key (h 5 3) (by show vr_gd (vr_R (μ 2 8)) (some (μ 2 8, μ)) = _; simp only [a3]; rw [vp_gdT (by omega)]) (by show vr_gd (vr_R (μ 69 3)) (some (μ 69 3, μ)) = _; simp only [c3]; rw [vp_gdT (by omega)])
    · exact key tn (by show vr_gd (vr_R (μ 13 1)) (some (μ 13 1, μ)) = _; simp only [a4]; rw [vp_gdT (by omega)]) (by show vr_gd (vr_R (μ 69 4)) (some (μ 69 4, μ)) = _; simp only [c4]; rw [vp_gdT (by omega)])
    · exact key rn (by show vr_gd (vr_R (μ 15 1)) (some (μ 15 1, μ)) = _; simp only [a5]; rw [vp_gdT (by omega)]) (by show vr_gd (vr_R (μ 69 5)) (some (μ 69 5, μ)) = _; simp only [c5]; rw [vp_gdT (by omega)])
    · exact key an (by show vr_gd (vr_R (μ 17 1)) (some (μ 17 1, μ)) = _; simp only [a6]; rw [vp_gdT (by omega)]) (by show vr_gd (vr_R (μ 69 6)) (some (μ 69 6, μ)) = _; simp only [c6]; rw [vp_gdT (by omega)])
    · exact key T.length (by show vr_gd (vr_R (μ 66 1)) (some (μ 66 1, μ)) = _; simp only [a7]; rw [vp_gdT (by omega)]) (by show vr_gd (vr_R (μ 68 22)) (some (μ 68 22, μ)) = _; simp only [c7]; rw [vp_gdT (by omega)])
  · have fin : ∀ a0 a1 a2 a3 a4 a5 a6 a7 e : Option (Int × vr_M), vr_sw w 0 [a0, a1, a2, a3, a4, a5, a6, a7] e = e := by
      intros
      unfold vr_sw
      by_cases z : 0 ≤ w
      · rw [if_pos z]
        obtain ⟨k, hk⟩ : ∃ k : Nat, (w - 0).toNat = k + 8 := ⟨(w - 0).toNat - 8, by omega⟩
        rw [hk]
        rfl
      · rw [if_neg z]
    exact key (-1) (by rw [fX9_count, fin]) (by rw [fX10_count, fin])
theorem vz_trace (i : Int) : vz_S (fX9_trace i) (fX10_trace i) := by
  intro Y μ hY hR
  obtain ⟨T, ⟨t1, t5⟩, ⟨t2, t6⟩, t3, t4⟩ := hR.2.2.1
  by_cases c : 0 ≤ i ∧ i < (T.length : Int)
  · obtain ⟨j, rfl⟩ : ∃ j : Nat, i = (j : Int) := ⟨i.toNat, by omega⟩
    have hj : j < T.length := by omega
    have q1 := t5 j (by omega) hj
    have q2 := t6 j (by omega) hj
    have q3 := t4 (T.getD j 0) (by
      rw [List.getD_eq_getElem?_getD, List.getElem?_eq_getElem hj]
      exact List.getElem_mem hj)
    refine ⟨T.getD j 0, μ, μ, ?_, ?_, hR.mono (by omega)⟩
    · rw [fX9_trace, t1, vp_gdT (by omega), vp_gdT (by omega), show min (T.length : Int) 20 - 1 = (T.length : Int) - 1 by omega, vx_inT (by omega), vp_bind, if_neg vz_T1, vp_gdT (by omega)]
      simp only [show ((j : Int)).toNat = j from rfl, q1]
      rw [vp_gdT (by omega)]
      rfl
    · rw [fX10_trace, t2, vp_gdT (by omega), if_neg (by omega), fX10_trace_B20, vp_gdT (by omega), vm_inT (by omega), vp_bind, if_neg vz_T1, vp_gdT (by omega)]
      simp only [show ((j : Int)).toNat = j from rfl, q2]
      rw [vp_gdT (by omega)]
      rfl
  · refine ⟨-1, μ, μ, ?_, ?_, hR.mono (by omega)⟩
    · rw [fX9_trace, t1, vp_gdT (by omega), vp_gdT (by omega), show min (T.length : Int) 20 - 1 = (T.length : Int) - 1 by omega, vx_inF (by omega), vp_bind]
      rfl
    · rw [fX10_trace, t2, vp_gdT (by omega), if_neg (by omega), fX10_trace_B20, vp_gdT (by omega), vm_inF (by omega), vp_bind]
      rfl
theorem vz_asL {μ : vr_M} {n : Nat} {rk rv : Nat → Int} (r1 : vn_ru μ n rk rv) {i : Nat} (hi : i < n) {k : Int} (hk : 0 ≤ k ∧ k ≤ 6) : ∀ (kind : Int), 0 ≤ kind ∧ kind ≤ 6 →
    fX9_as_L38 9000 (i : Int) k kind 0 μ = some (if k = 0 ∨ k = kind ∨ (k = 2 ∧ (kind = 5 ∨ kind = 6)) ∨ (k = 3 ∧ kind = 4) then rv i else -6, μ) := by
  intro kind hkd
  obtain ⟨-, a2, -⟩ := vo_follow r1 hi
  have stop : ∀ (m : Nat) (x x4 : Int), x4 < 7 → 0 ≤ x ∧ x ≤ 6 → x = k → fX9_as_L38 (m + 1) (i : Int) k x x4 μ = some (rv i, μ) := by
    intro m x x4 h4 hx e
    rw [fX9_as_L38.eq_2, if_neg (by omega), vx_inT hx, vp_bind, if_neg vz_T1, if_neg (fun q => q e), a2, vp_bind]
  have step : ∀ (m : Nat) (x x4 : Int), 0 ≤ x4 ∧ x4 < 7 → 0 ≤ x ∧ x ≤ 6 → ¬ x = k → fX9_as_L38 (m + 1) (i : Int) k x x4 μ = fX9_as_L38 m (i : Int) k (vr_ABOVE.getD x.toNat 0) (x4 + 1) μ := by
    intro m x x4 h4 hx e
    rw [fX9_as_L38.eq_2, if_neg (by omega), vx_inT hx, vp_bind, if_neg vz_T1, if_pos e, vp_gdT (by omega), vp_gdT (by omega)]
  have out : ∀ (m : Nat) (x x4 : Int), x4 < 7 → ¬ (0 ≤ x ∧ x ≤ 6) → fX9_as_L38 (m + 1) (i : Int) k x x4 μ = some (-6, μ) := by
    intro m x x4 h4 hx
    rw [fX9_as_L38.eq_2, if_neg (by omega), vx_inF hx, vp_bind]
    rfl
  rw [show 9000 = 8996 + 1 + 1 + 1 + 1 from rfl]
  rcases (show kind = 0 ∨ kind = 1 ∨ kind = 2 ∨ kind = 3 ∨ kind = 4 ∨ kind = 5 ∨ kind = 6 by omega) with rfl | rfl | rfl | rfl | rfl | rfl | rfl <;>
  rcases (show k = 0 ∨ k = 1 ∨ k = 2 ∨ k = 3 ∨ k = 4 ∨ k = 5 ∨ k = 6 by omega) with rfl | rfl | rfl | rfl | rfl | rfl | rfl <;>
    first
    | exact stop _ _ _ (by decide) (by decide) rfl
    | (rw [step _ _ _ (by decide) (by decide) (by decide)]; first
      | exact stop _ _ _ (by decide) (by decide) rfl
      | exact out _ _ _ (by decide) (by decide)
      | (rw [step _ _ _ (by decide) (by decide) (by decide)]; first
        | exact stop _ _ _ (by decide) (by decide) rfl
        | exact out _ _ _ (by decide) (by decide)
        | (rw [step _ _ _ (by decide) (by decide) (by decide)]; first
          | exact stop _ _ _ (by decide) (by decide) rfl
          | exact out _ _ _ (by decide) (by decide))))
theorem vz_as (r k : Int) : vz_S (fX9_as r k) (fX10_as r k) := by
  intro Y μ hY hR
  obtain ⟨h, cl, wk, mv, gr, dr, tn, tp, rn, row, an, ag, n, rk, rv, ld, w, d, b, r1, r2, bm⟩ := vz_open hR
  by_cases q : 0 ≤ r ∧ r < (n : Int)
  · obtain ⟨i, rfl⟩ : ∃ i : Nat, r = (i : Int) := ⟨r.toNat, by omega⟩
    have hi : i < n := by omega
    by_cases qk : 0 ≤ k ∧ k ≤ 6
    · obtain ⟨a1, a2, -⟩ := vo_follow r1 hi
      obtain ⟨q1, q2, q3, q4, q5, q6⟩ := vm_rk (s := μ 69) r2 hi
      refine ⟨if k = 0 ∨ k = rk i ∨ (k = 2 ∧ (rk i = 5 ∨ rk i = 6)) ∨ (k = 3 ∧ rk i = 4) then rv i else -6, μ, μ, ?_, ?_, hR.mono (by omega)⟩
      · rw [fX9_as, vx_hasT r1 hi, vp_bind, if_neg vz_T1, vx_inT qk, vp_bind, if_pos vz_T1, a1, vp_bind]
        exact vz_asL r1 hi qk (rk i) q3
      · rw [fX10_as, vm_rule r2 rfl, if_pos q, vp_bind, if_neg vz_T1, vm_inT qk, vp_bind, if_pos vz_T1, vp_gdT q5]
        simp only [q1]
        rw [vp_gdT (by omega), vq_under, vp_bind]
        by_cases z : k = 0 ∨ k = rk i ∨ (k = 2 ∧ (rk i = 5 ∨ rk i = 6)) ∨ (k = 3 ∧ rk i = 4)
        · rw [if_pos z, if_neg vz_T1, vp_gdT q6]
          simp only [q2]
          rw [vp_gdT (by omega), if_pos z]
          rfl
        · rw [if_neg z, if_neg z]
          rfl
    · refine ⟨-1, μ, μ, ?_, ?_, hR.mono (by omega)⟩
      · rw [fX9_as, vx_hasT r1 hi, vp_bind, if_neg vz_T1, vx_inF qk, vp_bind, if_neg vz_F0]
        rfl
      · rw [fX10_as, vm_rule r2 rfl, if_pos q, vp_bind, if_neg vz_T1, vm_inF qk, vp_bind, if_neg vz_F0]
        rfl
  · refine ⟨-1, μ, μ, ?_, ?_, hR.mono (by omega)⟩
    · rw [fX9_as, vx_hasF r1 q, vp_bind]
      rfl
    · rw [fX10_as, vm_rule r2 rfl, if_neg q, vp_bind]
      rfl

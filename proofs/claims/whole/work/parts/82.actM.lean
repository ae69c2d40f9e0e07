def vq_M (μ : vr_M) (kind v num : Int) (tr : List Int) : Prop := vq_lg μ 68 22 77 tr ∧ (μ 68 23 = kind ∧ vr_R kind) ∧ μ 68 25 = v ∧ μ 68 24 = num
def vq_F (μ μ' : vr_M) : Prop := vp_fr [68, 77] μ μ' ∧ ∀ j, j ≠ 22 → μ' 68 j = μ 68 j
theorem vq_F.tr {μ μ1 μ' : vr_M} (h : vq_F μ μ1) (g : vq_F μ1 μ') : vq_F μ μ' := ⟨h.1.tr g.1, fun j hj => (g.2 j hj).trans (h.2 j hj)⟩
def vq_E (f : Int → vr_M → Option (Int × vr_M)) (kind v num : Int) (T : List Int) (g : Int → Int) : Prop :=
  ∀ (x : Int) (μ : vr_M) (tr : List Int), vq_M μ kind v num tr → tr.length + T.length ≤ 900 →
    ∃ μ', f x μ = some (g x, μ') ∧ vq_F μ μ' ∧ vq_M μ' kind v num (tr ++ T)
theorem vq_runs {kind v num : Int} (b : Int) {μ : vr_M} {tr : List Int} (h : vq_M μ kind v num tr) (hl : tr.length ≤ 1000) :
    ∃ μ', fX10_runs b μ = some (0, μ') ∧ vq_F μ μ' ∧ vq_M μ' kind v num (tr ++ [b]) := by
  obtain ⟨⟨h1, h2⟩, h3, h4, h5⟩ := h
  have el : ((tr ++ [b]).length : Int) = (tr.length : Int) + 1 := by simp
  have fin : ∀ M : vr_M, M 68 = μ 68 → vp_fr [68, 77] μ M → (∀ j, j < 20 → j < tr.length → M 77 j = tr.getD j 0) → (tr.length < 20 → M 77 tr.length = b) → ∃ μ', fX10_runs_B19 M = some (0, μ') ∧ vq_F μ μ' ∧ vq_M μ' kind v num (tr ++ [b]) := by
    intro M m1 m0 m2 m3
    refine ⟨vr_u M 68 22 ((tr.length : Int) + 1), ?_, ⟨m0.tr (vp_fr.u (by decide)), fun j hj => by rw [vp_uj hj, m1]⟩, ⟨⟨?_, fun j j20 jl => ?_⟩, ⟨?_, h3.2⟩, ?_, ?_⟩⟩
    · rw [fX10_runs_B19, m1, h1]
    · rw [vp_us, el]
    · rw [vp_un (by decide)]
      by_cases e : j = tr.length
      · subst e
        rw [m3 j20]
        simp [List.getD, List.getElem?_append]
      · have hj : j < tr.length := by simp at jl; omega
        rw [m2 j j20 hj]
        simp [List.getD, List.getElem?_append, hj]
    · rw [vp_uj (by decide), m1]; exact h3.1
    · rw [vp_uj (by decide), m1]; exact h4
    · rw [vp_uj (by decide), m1]; exact h5
  rw [fX10_runs]
  simp only [h1]
  rw [vp_gdT (by omega)]
  by_cases c : 20 ≤ (tr.length : Int)
  · rw [if_pos c]
    exact fin μ rfl vp_fr.rf h2 (fun q => by omega)
  · rw [if_neg c, vp_gdT (by omega), show ((tr.length : Int)).toNat = tr.length from rfl]
    refine fin _ (vp_uc (by decide)) (vp_fr.u (by decide)) (fun j j20 hj => ?_) (fun _ => vp_us)
    rw [vp_uj (by omega)]
    exact h2 j j20 hj
theorem vq_mb1 {kind v num : Int} : vq_E fX10_plainBurnsw kind v num [1] (fun x => vr_w (x + num)) := by
  intro x μ tr h hl
  obtain ⟨μ', a1, a2, a3⟩ := vq_runs 1 h (by omega)
  refine ⟨μ', ?_, a2, a3⟩
  rw [fX10_plainBurnsw, a1, vp_bind]
  dsimp only
  rw [a3.2.2.2]
theorem vq_mb {kind v num : Int} : vq_E fX10_burnsActsw kind v num (vq_bt kind) (vq_b kind num) := by
  intro x μ tr h hl
  rw [fX10_burnsActsw]
  simp only [h.2.1.1]
  rw [vp_gdT h.2.1.2]
  unfold vq_bt at *
  unfold vq_b
  by_cases c1 : kind = 1
  · rw [if_pos c1] at hl
    obtain ⟨μ1, a1, a2, a3⟩ := vq_runs 11 h (by omega)
    obtain ⟨μ', b1, b2, b3⟩ := vq_mb1 (vr_w (x * 3)) μ1 _ a3 (by simp at hl ⊢; omega)
    refine ⟨μ', ?_, a2.tr b2, by rw [if_pos c1, ← vq_app]; exact b3⟩
    rw [if_neg (fun q => q c1), a1, vp_bind, b1, vp_bind, if_pos c1]
  · rw [if_neg c1] at hl
    by_cases c5 : kind = 5
    · rw [if_pos c5] at hl
      obtain ⟨μ1, a1, a2, a3⟩ := vq_runs 51 h (by omega)
      obtain ⟨μ', b1, b2, b3⟩ := vq_mb1 x μ1 _ a3 (by simp at hl ⊢; omega)
      refine ⟨μ', ?_, a2.tr b2, by rw [if_neg c1, if_pos c5, ← vq_app]; exact b3⟩
      rw [if_pos c1, if_neg (fun q => q c5), a1, vp_bind]
      dsimp only
      rw [b1, vp_bind, if_neg c1, if_pos c5]
      dsimp only
      rw [b3.2.2.2]
    · rw [if_neg c5] at hl
      obtain ⟨μ', b1, b2, b3⟩ := vq_mb1 x μ _ h hl
      refine ⟨μ', ?_, b2, by rw [if_neg c1, if_neg c5]; exact b3⟩
      rw [if_pos c1, if_pos c5, b1, vp_bind, if_neg c1, if_neg c5]
theorem vq_mp {kind v num : Int} : vq_E fX10_plainRestsw kind v num (2 :: vq_bt kind) (vq_p kind v num) := by
  intro x μ tr h hl
  obtain ⟨μ1, a1, a2, a3⟩ := vq_runs 2 h (by omega)
  obtain ⟨μ', b1, b2, b3⟩ := vq_mb x μ1 _ a3 (by simp at hl ⊢; omega)
  refine ⟨μ', ?_, a2.tr b2, by rw [← vq_app]; exact b3⟩
  rw [fX10_plainRestsw, a1, vp_bind]
  dsimp only
  rw [b1, vp_bind]
  dsimp only
  rw [b3.2.2.1]
  rfl
theorem vq_mr {kind v num : Int} : vq_E fX10_restRestsw kind v num (21 :: 2 :: vq_bt kind) (vq_r kind v num) := by
  intro x μ tr h hl
  obtain ⟨μ1, a1, a2, a3⟩ := vq_runs 21 h (by omega)
  obtain ⟨μ', b1, b2, b3⟩ := vq_mp x μ1 _ a3 (by simp at hl ⊢; omega)
  refine ⟨μ', ?_, a2.tr b2, by rw [← vq_app]; exact b3⟩
  rw [fX10_restRestsw, a1, vp_bind]
  dsimp only
  rw [b1, vp_bind]
  rfl
theorem vq_under {kind k : Int} {μ : vr_M} : fX10_isUnder kind k μ = some (if k = 0 ∨ k = kind ∨ (k = 2 ∧ (kind = 5 ∨ kind = 6)) ∨ (k = 3 ∧ kind = 4) then 1 else 0, μ) := by
  unfold fX10_isUnder fX10_isUnder_B25 fX10_isUnder_B35 fX10_isUnder_B39 fX10_isUnder_B40
  rw [vp_gdT (by decide), vp_gdT (by decide)]
  by_cases c0 : k = 0
  · rw [if_pos c0, if_pos (Or.inl c0)]
  · rw [if_neg c0]
    by_cases c1 : k = kind
    · rw [if_pos c1, if_pos (Or.inr (Or.inl c1))]
    · rw [if_neg c1]
      by_cases c2 : k = 2
      · rw [if_neg (fun q => q c2)]
        by_cases c5 : kind = 5
        · rw [if_pos c5, if_pos (by omega)]
        · rw [if_neg c5]
          by_cases c6 : kind = 6
          · rw [if_pos c6, if_pos (by omega)]
          · rw [if_neg c6, if_pos (by omega), if_neg (by omega)]
      · rw [if_pos c2]
        by_cases c3 : k = 3
        · rw [if_neg (fun q => q c3)]
          by_cases c4 : kind = 4
          · rw [if_neg (fun q => q c4), if_pos (by omega)]
          · rw [if_pos c4, if_neg (by omega)]
        · rw [if_pos c3, if_neg (by omega)]
theorem vq_mre {kind v num : Int} : vq_E fX10_restsActsw kind v num (vq_rt kind) (vq_re kind v num) := by
  intro x μ tr h hl
  rw [fX10_restsActsw]
  simp only [h.2.1.1]
  rw [vp_gdT h.2.1.2]
  unfold fX10_restsActsw_B50
  unfold vq_rt at *
  unfold vq_re
  by_cases c6 : kind = 6
  · rw [if_pos c6] at hl
    obtain ⟨μ1, a1, a2, a3⟩ := vq_runs 61 h (by omega)
    obtain ⟨μ', b1, b2, b3⟩ := vq_mr x μ1 _ a3 (by simp at hl ⊢; omega)
    refine ⟨μ', ?_, a2.tr b2, by rw [if_pos c6, ← vq_app]; exact b3⟩
    rw [if_neg (fun q => q c6), a1, vp_bind]
    dsimp only
    rw [b1, vp_bind, if_pos c6]
    dsimp only
    rw [b3.2.2.1]
  · rw [if_neg c6] at hl
    rw [if_pos c6, vq_under, vp_bind]
    by_cases c2 : kind = 2 ∨ kind = 5
    · rw [if_pos c2] at hl
      obtain ⟨μ', b1, b2, b3⟩ := vq_mr x μ _ h hl
      refine ⟨μ', ?_, b2, by rw [if_neg c6, if_pos c2]; exact b3⟩
      rw [if_pos (show (2 : Int) = 0 ∨ 2 = kind ∨ ((2 : Int) = 2 ∧ (kind = 5 ∨ kind = 6)) ∨ ((2 : Int) = 3 ∧ kind = 4) by omega), if_neg (show ¬ (1 : Int) = 0 by decide)]
      dsimp only
      rw [b1, vp_bind, if_neg c6, if_pos c2]
    · rw [if_neg c2] at hl
      obtain ⟨μ', b1, b2, b3⟩ := vq_mp x μ _ h hl
      refine ⟨μ', ?_, b2, by rw [if_neg c6, if_neg c2]; exact b3⟩
      rw [if_neg (show ¬ ((2 : Int) = 0 ∨ 2 = kind ∨ ((2 : Int) = 2 ∧ (kind = 5 ∨ kind = 6)) ∨ ((2 : Int) = 3 ∧ kind = 4)) by omega), if_pos rfl]
      dsimp only
      rw [b1, vp_bind, if_neg c6, if_neg c2]
theorem vq_mt3 {kind v num : Int} : vq_E fX10_plainTellsw kind v num (3 :: vq_rt kind) (vq_pt kind v num) := by
  intro x μ tr h hl
  obtain ⟨μ1, a1, a2, a3⟩ := vq_runs 3 h (by omega)
  obtain ⟨μ', b1, b2, b3⟩ := vq_mre x μ1 _ a3 (by simp at hl ⊢; omega)
  refine ⟨μ', ?_, a2.tr b2, by rw [← vq_app]; exact b3⟩
  rw [fX10_plainTellsw, a1, vp_bind]
  dsimp only
  rw [b1, vp_bind]
  rfl
theorem vq_mn {kind v num : Int} : vq_E fX10_nearTellsw kind v num (31 :: 3 :: vq_rt kind) (vq_n kind v num) := by
  intro x μ tr h hl
  obtain ⟨μ1, a1, a2, a3⟩ := vq_runs 31 h (by omega)
  obtain ⟨μ', b1, b2, b3⟩ := vq_mt3 x μ1 _ a3 (by simp at hl ⊢; omega)
  refine ⟨μ', ?_, a2.tr b2, by rw [← vq_app]; exact b3⟩
  rw [fX10_nearTellsw, a1, vp_bind]
  dsimp only
  rw [b1, vp_bind]
  rfl
theorem vq_mt {kind v num : Int} : vq_E fX10_tellsActsw kind v num (vq_tt kind) (vq_t kind v num) := by
  intro x μ tr h hl
  rw [fX10_tellsActsw]
  simp only [h.2.1.1]
  rw [vp_gdT h.2.1.2]
  unfold fX10_tellsActsw_B51
  unfold vq_tt at *
  unfold vq_t
  by_cases c4 : kind = 4
  · rw [if_pos c4] at hl
    obtain ⟨μ1, a1, a2, a3⟩ := vq_runs 41 h (by omega)
    obtain ⟨μ2, b1, b2, b3⟩ := vq_mn (vr_w (x - 1)) μ1 _ a3 (by simp at hl ⊢; omega)
    obtain ⟨μ', d1, d2, d3⟩ := vq_mb 2 μ2 _ b3 (by simp at hl ⊢; omega)
    refine ⟨μ', ?_, (a2.tr b2).tr d2, by
      rw [if_pos c4]
      have e : tr ++ ((41 :: 31 :: 3 :: vq_rt kind) ++ vq_bt kind) = tr ++ [41] ++ (31 :: 3 :: vq_rt kind) ++ vq_bt kind := by simp
      rw [e]; exact d3⟩
    rw [if_neg (fun q => q c4), a1, vp_bind]
    dsimp only
    rw [b1, vp_bind]
    dsimp only
    rw [d1, vp_bind, if_pos c4]
  · rw [if_neg c4] at hl
    by_cases c3 : kind = 3
    · rw [if_pos c3] at hl
      obtain ⟨μ', b1, b2, b3⟩ := vq_mn x μ _ h hl
      refine ⟨μ', ?_, b2, by rw [if_neg c4, if_pos c3]; exact b3⟩
      rw [if_pos c4, if_neg (fun q => q c3), b1, vp_bind, if_neg c4, if_pos c3]
    · rw [if_neg c3] at hl
      obtain ⟨μ', b1, b2, b3⟩ := vq_mt3 x μ _ h hl
      refine ⟨μ', ?_, b2, by rw [if_neg c4, if_neg c3]; exact b3⟩
      rw [if_pos c4, if_pos c3, b1, vp_bind, if_neg c4, if_neg c3]
theorem vq_tr_len (a kind : Int) : (vq_tr a kind).length ≤ 10 := by
  unfold vq_tr vq_tt vq_rt vq_bt
  (repeat' split) <;> simp
theorem vq_tr_in (a kind : Int) : ∀ t ∈ vq_tr a kind, 0 ≤ t ∧ t ≤ 61 := by
  unfold vq_tr vq_tt vq_rt vq_bt
  (repeat' split) <;> decide
/-- act, both sides: the answer, the log -/
theorem vq_actC {μ : vr_M} {n : Nat} {rk rv : Nat → Int} (hr : vn_ru μ n rk rv) (r a x : Int) :
    ∃ μ', fX9_actw r a x μ = some (if (0 ≤ r ∧ r < (n : Int)) ∧ (0 ≤ a ∧ a ≤ 2) then vq_val a (rk r.toNat) (rv r.toNat) r x else 0, μ') ∧ vp_fr [66, 67] μ μ' ∧ vq_lg μ' 66 1 67 (if (0 ≤ r ∧ r < (n : Int)) ∧ (0 ≤ a ∧ a ≤ 2) then vq_tr a (rk r.toNat) else []) := by
  have f1 : vp_fr [66] μ (vr_u μ 66 1 0) := vp_fr.u (by decide)
  have hr1 := hr.fr f1 (by intro i hi; simp; omega)
  have l0 : vq_lg (vr_u μ 66 1 0) 66 1 67 [] := ⟨vp_us, fun j _ hj => by simp at hj⟩
  unfold fX9_actw fX9_actw_B28
  by_cases c : 0 ≤ r ∧ r < (n : Int)
  · obtain ⟨i, rfl⟩ : ∃ i : Nat, r = (i : Int) := ⟨r.toNat, by omega⟩
    have hi : i < n := by omega
    rw [vx_hasT hr1 hi, vp_bind, if_neg (show ¬ (1 : Int) = 0 by decide)]
    by_cases d : 0 ≤ a ∧ a ≤ 2
    · obtain ⟨a1, a2, -⟩ := vo_follow hr1 hi
      obtain ⟨μ', b1, b2, b3⟩ := vq_perf (kind := rk i) (v := rv i) (num := (i : Int)) (x := x) (μ := vr_u μ 66 1 0) vp_us (hr.2 i hi).2.1 d
      refine ⟨μ', ?_, (f1.mono (by decide)).tr b2, by rw [if_pos ⟨c, d⟩]; exact b3⟩
      rw [vx_inT d, vp_bind, if_pos (show ¬ (1 : Int) = 0 by decide), a1, vp_bind, a2, vp_bind]
      dsimp only
      rw [b1, vp_bind, if_pos ⟨c, d⟩]
      rfl
    · refine ⟨_, ?_, f1.mono (by decide), by rw [if_neg (fun q => d q.2)]; exact l0⟩
      rw [vx_inF d, vp_bind, if_neg (show ¬ ¬ (0 : Int) = 0 by decide), if_neg (show ¬ ((0 ≤ (i : Int) ∧ (i : Int) < (n : Int)) ∧ (0 ≤ a ∧ a ≤ 2)) from fun q => d q.2)] <;> rfl
  · refine ⟨_, ?_, f1.mono (by decide), by rw [if_neg (fun q => c q.1)]; exact l0⟩
    rw [vx_hasF hr1 c, vp_bind, if_pos (show (0 : Int) = 0 from rfl), if_neg (show ¬ ((0 ≤ r ∧ r < (n : Int)) ∧ (0 ≤ a ∧ a ≤ 2)) from fun q => c q.1)] <;> rfl
theorem vq_actM {μ : vr_M} {n : Nat} {rk rv : Nat → Int} (hr : vm_ru (μ 69) n rk rv) (r a x : Int) :
    ∃ μ', fX10_actw r a x μ = some (if (0 ≤ r ∧ r < (n : Int)) ∧ (0 ≤ a ∧ a ≤ 2) then vq_val a (rk r.toNat) (rv r.toNat) r x else 0, μ') ∧ vp_fr [68, 77] μ μ' ∧ (∀ j, j < 22 → μ' 68 j = μ 68 j) ∧ vq_lg μ' 68 22 77 (if (0 ≤ r ∧ r < (n : Int)) ∧ (0 ≤ a ∧ a ≤ 2) then vq_tr a (rk r.toNat) else []) := by
  have f1 : vp_fr [68] μ (vr_u μ 68 22 0) := vp_fr.u (by decide)
  have l0 : vq_lg (vr_u μ 68 22 0) 68 22 77 [] := ⟨vp_us, fun j _ hj => by simp at hj⟩
  have e69 : (vr_u μ 68 22 0) 69 = μ 69 := f1 69 (by decide)
  have h2 := hr.2.1
  unfold fX10_actw fX10_actw_B22 fX10_actw_B87
  rw [vm_rule hr e69, vp_bind]
  by_cases c : 0 ≤ r ∧ r < (n : Int)
  · obtain ⟨i, rfl⟩ : ∃ i : Nat, r = (i : Int) := ⟨r.toNat, by omega⟩
    have hi : i < n := by omega
    rw [if_pos c, if_neg (show ¬ (1 : Int) = 0 by decide)]
    by_cases d : 0 ≤ a ∧ a ≤ 2
    · obtain ⟨q1, q2, q3, q4, q5, q6⟩ := vm_rk (μ := vr_u μ 68 22 0) (s := μ 69) (by rw [e69]; exact hr) hi
      have w1 : vr_w (170 + (i : Int)) = 170 + (i : Int) := vr_wR (by omega)
      have w2 : vr_w (178 + (i : Int)) = 178 + (i : Int) := vr_wR (by omega)
      generalize hM : vr_u (vr_u (vr_u (vr_u μ 68 22 0) 68 23 (rk i)) 68 24 (i : Int)) 68 25 (rv i) = M
      have hC : vq_M M (rk i) (rv i) (i : Int) [] := by
        rw [← hM]
        refine ⟨⟨?_, fun j _ hj => by simp at hj⟩, ⟨?_, by omega⟩, ?_, ?_⟩ <;> simp [vr_u]
      have fM : vp_fr [68, 77] μ M := by
        rw [← hM]
        exact (((vp_fr.u (by decide)).tr (vp_fr.u (by decide))).tr (vp_fr.u (by decide))).tr (vp_fr.u (by decide))
      have sM : ∀ j, j < 22 → M 68 j = μ 68 j := fun j hj => by
        rw [← hM, vp_uj (by omega), vp_uj (by omega), vp_uj (by omega), vp_uj (by omega)]
      have e0 : ∀ K : Option (Int × vr_M), (if ¬ a = 0 then if ¬ a = 1 then (fX10_tellsActsw x M).bind (fun r6 => some (r6.1, r6.2)) else (fX10_restsActsw x M).bind (fun r7 => some (r7.1, r7.2)) else (fX10_burnsActsw x M).bind (fun r8 => some (r8.1, r8.2))) = K → ((fX10_in a 0 2 (vr_u μ 68 22 0)).bind (fun r2 => if ¬ r2.1 = 0 then vr_gd (0 ≤ (vr_w (170 + (i : Int))) ∧ (vr_w (170 + (i : Int))) < 933) (vr_gd (0 ≤ (vr_w (178 + (i : Int))) ∧ (vr_w (178 + (i : Int))) < 933) (vr_let (vr_u (vr_u r2.2 68 23 (r2.2 69 (vr_w (170 + (i : Int))).toNat)) 68 24 (i : Int)) (fun μ5 => if ¬ a = 0 then if ¬ a = 1 then (fX10_tellsActsw x (vr_u μ5 68 25 (μ5 69 (vr_w (178 + (i : Int))).toNat))).bind (fun r6 => some (r6.1, r6.2)) else (fX10_restsActsw x (vr_u μ5 68 25 (μ5 69 (vr_w (178 + (i : Int))).toNat))).bind (fun r7 => some (r7.1, r7.2)) else (fX10_burnsActsw x (vr_u μ5 68 25 (μ5 69 (vr_w (178 + (i : Int))).toNat))).bind (fun r8 => some (r8.1, r8.2))))) else some (0, r2.2))) = K := by
        intro K hK
        rw [vm_inT d, vp_bind, if_pos (show ¬ (1 : Int) = 0 by decide), w1, w2, vp_gdT q5, vp_gdT q6, vp_let]
        have e9 : vr_u (vr_u (vr_u μ 68 22 0) 68 23 (rk i)) 68 24 (i : Int) 69 (178 + (i : Int)).toNat = rv i := by rw [vp_un (by decide), vp_un (by decide), q2]
        simp only [q1, e9, hM]
        exact hK
      have lt := vq_tr_len a (rk i)
      have fin : ∀ (f : Int → vr_M → Option (Int × vr_M)), vq_E f (rk i) (rv i) (i : Int) (vq_tr a (rk i)) (vq_val a (rk i) (rv i) (i : Int)) → ∃ μ', (f x M).bind (fun r8 => some (r8.1, r8.2)) = some (vq_val a (rk i) (rv i) (i : Int) x, μ') ∧ vp_fr [68, 77] μ μ' ∧ (∀ j, j < 22 → μ' 68 j = μ 68 j) ∧ vq_lg μ' 68 22 77 (vq_tr a (rk i)) := by
        intro f hf
        obtain ⟨μ', b1, b2, b3⟩ := hf x M [] hC (by simp; omega)
        exact ⟨μ', by rw [b1, vp_bind], fM.tr b2.1, fun j hj => (b2.2 j (by omega)).trans (sM j hj), by simpa using b3.1⟩
      rcases (show a = 0 ∨ a = 1 ∨ a = 2 by omega) with rfl | rfl | rfl
      · obtain ⟨μ', b1, b2⟩ := fin _ vq_mb
        refine ⟨μ', e0 _ ?_, by rw [if_pos ⟨c, d⟩]; exact b2⟩
        rw [if_neg (fun q => q rfl), b1, if_pos ⟨c, d⟩]
        rfl
      · obtain ⟨μ', b1, b2⟩ := fin _ vq_mre
        refine ⟨μ', e0 _ ?_, by rw [if_pos ⟨c, d⟩]; exact b2⟩
        rw [if_pos (by decide), if_neg (fun q => q rfl), b1, if_pos ⟨c, d⟩]
        rfl
      · obtain ⟨μ', b1, b2⟩ := fin _ vq_mt
        refine ⟨μ', e0 _ ?_, by rw [if_pos ⟨c, d⟩]; exact b2⟩
        rw [if_pos (by decide), if_pos (by decide), b1, if_pos ⟨c, d⟩]
        rfl
    · refine ⟨_, ?_, f1.mono (by decide), fun j hj => by rw [vp_uj (by omega)], by rw [if_neg (fun q => d q.2)]; exact l0⟩
      rw [vm_inF d, vp_bind, if_neg (show ¬ ¬ (0 : Int) = 0 by decide), if_neg (show ¬ ((0 ≤ (i : Int) ∧ (i : Int) < (n : Int)) ∧ (0 ≤ a ∧ a ≤ 2)) from fun q => d q.2)] <;> rfl
  · refine ⟨_, ?_, f1.mono (by decide), fun j hj => by rw [vp_uj (by omega)], by rw [if_neg (fun q => c q.1)]; exact l0⟩
    rw [if_neg c, if_pos (show (0 : Int) = 0 from rfl), if_neg (show ¬ ((0 ≤ r ∧ r < (n : Int)) ∧ (0 ≤ a ∧ a ≤ 2)) from fun q => c q.1)] <;> rfl

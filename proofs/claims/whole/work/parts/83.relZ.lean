/-! the relation between class and reference -/
def vm_li (c0 b cap : Nat) (lo hi : Int) (s : Nat → Int) (n : Nat) (f : Nat → Int) : Prop := s c0 = (n : Int) ∧ n ≤ cap ∧ ∀ i, i < n → s (b + i) = f i ∧ lo ≤ f i ∧ f i ≤ hi
/-- the reference's row of numbers, as a world -/
def vm_wd (s : Nat → Int) (h : vh_H) (cl : vl_C) (wk mv gr dr : Int) (tn : Nat) (tp : Nat → Int) (rn : Nat) (row : Nat → Int) (an : Nat) (ag : Nat → Int) (n : Nat) (rk rv : Nat → Int) (ld : Int) : Prop :=
  vm_h (fun _ => s) = h ∧ vm_L (fun _ => s) cl wk mv gr dr ∧ vm_li 4 10 120 0 255 s tn tp ∧ vm_li 5 186 12 0 255 s rn row ∧ vm_li 6 198 10 0 99 s an ag ∧ vm_ru s n rk rv ∧ s 2 = ld ∧ s 9 = ld - 1
def vz_w (k : Nat) (μ : vr_M) (s : Nat → Int) (Y : Int) : Prop :=
  ∃ h cl wk mv gr dr tn tp rn row an ag n rk rv ld, vw_at k μ h cl wk mv gr dr tn tp rn row an ag n rk rv ld Y ∧ vm_wd s h cl wk mv gr dr tn tp rn row an ag n rk rv ld
def vz_R (Y : Int) (μ : vr_M) : Prop :=
  vz_w 1 μ (μ 69) Y ∧ ((μ 0 2 = 0 ∧ μ 68 4 = 0) ∨ (μ 0 2 = 1 ∧ μ 68 4 = 1 ∧ vz_w 23 μ (μ 70) Y)) ∧ (∃ T : List Int, vq_lg μ 66 1 67 T ∧ vq_lg μ 68 22 77 T ∧ T.length ≤ 10 ∧ ∀ t ∈ T, 0 ≤ t ∧ t ≤ 61) ∧ μ 62 0 = 0
theorem vh_wf.mono {Y Y' : Int} {h : vh_H} (w : vh_wf Y h) (hY : Y ≤ Y') : vh_wf Y' h := by
  obtain ⟨a, b, c, d, e⟩ := w
  refine ⟨a, b, c, by omega, fun p hp => ?_⟩
  obtain ⟨e0, e1, e2, e3, e4⟩ := e p hp
  exact ⟨e0, e1, by omega, e3, e4⟩
theorem vz_w.mono {k : Nat} {μ : vr_M} {s : Nat → Int} {Y Y' : Int} (h : vz_w k μ s Y) (hY : Y ≤ Y') : vz_w k μ s Y' := by
  obtain ⟨h, cl, wk, mv, gr, dr, tn, tp, rn, row, an, ag, n, rk, rv, ld, ⟨⟨a1, a2⟩, a3⟩, b⟩ := h
  exact ⟨h, cl, wk, mv, gr, dr, tn, tp, rn, row, an, ag, n, rk, rv, ld, ⟨⟨a1, a2.mono hY⟩, a3⟩, b⟩
theorem vz_R.mono {μ : vr_M} {Y Y' : Int} (h : vz_R Y μ) (hY : Y ≤ Y') : vz_R Y' μ := by
  obtain ⟨h1, h2, h3, h4⟩ := h
  refine ⟨h1.mono hY, ?_, h3, h4⟩
  rcases h2 with h2 | ⟨h2, h5, h6⟩
  · exact Or.inl h2
  · exact Or.inr ⟨h2, h5, h6.mono hY⟩
theorem vn_li.e {k cap : Nat} {lo hi : Int} {μ μ' : vr_M} {n : Nat} {f : Nat → Int} (h : vn_li k cap lo hi μ n f) (h0 : μ' k = μ k) (h1 : μ' (k + 1) = μ (k + 1)) : vn_li k cap lo hi μ' n f := by
  unfold vn_li at h ⊢
  rw [h0, h1]
  exact h
theorem vw_at.fr {k : Nat} {μ μ' : vr_M} {h : vh_H} {cl : vl_C} {wk mv gr dr : Int} {tn : Nat} {tp : Nat → Int} {rn : Nat} {row : Nat → Int} {an : Nat} {ag : Nat → Int} {n : Nat} {rk rv : Nat → Int} {ld Y : Int} (hw : vw_at k μ h cl wk mv gr dr tn tp rn row an ag n rk rv ld Y) (e : ∀ j, j < 22 → j ≠ 11 → μ' (k + j) = μ (k + j)) :
    vw_at k μ' h cl wk mv gr dr tn tp rn row an ag n rk rv ld Y := by
  obtain ⟨⟨w1, w2⟩, ⟨w3, w4, w5⟩, w6, w7, w8, w9, w10, w11, w12⟩ := hw
  have e0 : μ' k = μ k := e 0 (by decide) (by decide)
  refine ⟨⟨?_, w2⟩, ⟨w3, ?_, ?_⟩, ?_, ?_, ?_, ?_, ?_, ?_, w12⟩
  · rw [← w1]
    exact vh_c_fr (fun i hi => by rw [Nat.add_assoc]; exact e (1 + i) (by omega) (by omega))
  · exact vl_at_fr w4 (e 7 (by decide) (by decide)) (e 8 (by decide) (by decide)) (e 9 (by decide) (by decide)) (e 10 (by decide) (by decide))
  · rw [e 7 (by decide) (by decide)]; exact w5
  · exact w6.e (e 12 (by decide) (by decide)) (e 13 (by decide) (by decide))
  · exact w7.e (e 14 (by decide) (by decide)) (e 15 (by decide) (by decide))
  · exact w8.e (e 16 (by decide) (by decide)) (e 17 (by decide) (by decide))
  · exact w9.e (e 18 (by decide) (by decide)) (e 19 (by decide) (by decide))
  · exact w10.e (e 20 (by decide) (by decide)) (e 21 (by decide) (by decide))
  · rw [e0]; exact w11
theorem vz_w.fr {k : Nat} {μ μ' : vr_M} {s s' : Nat → Int} {Y : Int} (h : vz_w k μ s Y) (e : ∀ j, j < 22 → j ≠ 11 → μ' (k + j) = μ (k + j)) (hs : s' = s) : vz_w k μ' s' Y := by
  subst hs
  obtain ⟨h, cl, wk, mv, gr, dr, tn, tp, rn, row, an, ag, n, rk, rv, ld, a, b⟩ := h
  exact ⟨h, cl, wk, mv, gr, dr, tn, tp, rn, row, an, ag, n, rk, rv, ld, a.fr e, b⟩
theorem vq_lg.fr {μ μ' : vr_M} {cr sr ct : Nat} {T : List Int} (h : vq_lg μ cr sr ct T) (e0 : μ' cr sr = μ cr sr) (e1 : μ' ct = μ ct) : vq_lg μ' cr sr ct T := by
  unfold vq_lg at h ⊢
  rw [e0, e1]
  exact h
/-- the parts that do not change with what holds now -/
def vz_K (Y : Int) (μ : vr_M) : Prop := ((μ 0 2 = 0 ∧ μ 68 4 = 0) ∨ (μ 0 2 = 1 ∧ μ 68 4 = 1 ∧ vz_w 23 μ (μ 70) Y)) ∧ (∃ T : List Int, vq_lg μ 66 1 67 T ∧ vq_lg μ 68 22 77 T ∧ T.length ≤ 10 ∧ ∀ t ∈ T, 0 ≤ t ∧ t ≤ 61)
theorem vz_K.fr {Y : Int} {μ μ' : vr_M} (h : vz_K Y μ) (e0 : μ' 0 = μ 0) (e : ∀ j, j < 22 → j ≠ 11 → μ' (23 + j) = μ (23 + j)) (e66 : μ' 66 = μ 66) (e67 : μ' 67 = μ 67) (e70 : μ' 70 = μ 70) (e77 : μ' 77 = μ 77) (s4 : μ' 68 4 = μ 68 4) (s22 : μ' 68 22 = μ 68 22) : vz_K Y μ' := by
  obtain ⟨h1, T, t1, t2, t3⟩ := h
  refine ⟨?_, T, t1.fr (by rw [e66]) e67, t2.fr s22 e77, t3⟩
  rw [e0, s4]
  rcases h1 with h1 | ⟨h1, h2, h3⟩
  · exact Or.inl h1
  · exact Or.inr ⟨h1, h2, h3.fr e e70⟩
theorem vz_R.k {Y : Int} {μ : vr_M} (h : vz_R Y μ) : vz_K Y μ := ⟨h.2.1, h.2.2.1⟩
theorem vz_R.mk {Y : Int} {μ : vr_M} (h : vz_w 1 μ (μ 69) Y) (k : vz_K Y μ) (h62 : μ 62 0 = 0) : vz_R Y μ := ⟨h, k.1, k.2, h62⟩
theorem vz_quiet {Y : Int} {μ μ1 μ2 : vr_M} (h : vz_R Y μ) (f : vp_fr (63 :: 64 :: 65 :: vt_TR) μ μ1) (h62 : μ1 62 0 = 0) (g : vm_Y μ1 μ2) (e : μ2 69 = μ1 69) : vz_R Y μ2 := by
  have c : ∀ c, c ∉ [12, 51, 52, 53, 54, 55, 56, 57, 58, 59, 60, 61, 62, 63, 64, 65, 68, 69, 71, 72, 73, 74, 75, 76] → μ2 c = μ c := fun c hc => by
    simp at hc
    rw [g.1 c (by simp; omega), f c (by simp [vt_TR]; omega)]
  have s : ∀ j, j < 12 ∨ 18 < j → μ2 68 j = μ 68 j := fun j hj => by rw [g.2 j hj, f 68 (by simp [vt_TR])]
  refine vz_R.mk ?_ (h.k.fr (c 0 (by decide)) (fun j hj hj2 => c _ (by simp; omega)) (c 66 (by decide)) (c 67 (by decide)) (c 70 (by decide)) (c 77 (by decide)) (s 4 (by decide)) (s 22 (by decide))) ?_
  · rw [e, f 69 (by simp [vt_TR])]
    exact h.1.fr (fun j hj hj2 => c _ (by simp; omega)) rfl
  · rw [g.1 62 (by decide)]
    exact h62
/-- a call on both sides -/
def vz_S (c m : vr_M → Option (Int × vr_M)) : Prop := ∀ (Y : Int) (μ : vr_M), Y ≤ 90000 → vz_R Y μ → ∃ r μ1 μ2, c μ = some (r, μ1) ∧ m μ1 = some (r, μ2) ∧ vz_R (Y + 40) μ2
/-- what a call finds -/
theorem vz_open {Y : Int} {μ : vr_M} (h : vz_R Y μ) : ∃ h cl wk mv gr dr tn tp rn row an ag n rk rv ld, vw_at 1 μ h cl wk mv gr dr tn tp rn row an ag n rk rv ld Y ∧ vm_wd (μ 69) h cl wk mv gr dr tn tp rn row an ag n rk rv ld ∧ vt_B μ h cl wk mv gr dr Y ∧ vn_ru μ n rk rv ∧ vm_ru (μ 69) n rk rv ∧ (∀ μ', μ' 69 = μ 69 → vm_B μ' h cl wk mv gr dr Y) := by
  obtain ⟨⟨h, cl, wk, mv, gr, dr, tn, tp, rn, row, an, ag, n, rk, rv, ld, a, b⟩, -, -, h62⟩ := h
  refine ⟨h, cl, wk, mv, gr, dr, tn, tp, rn, row, an, ag, n, rk, rv, ld, a, b, ?_, ?_, b.2.2.2.2.2.1, fun μ' e => ?_⟩
  · exact ⟨a.2.1, a.1.1, a.1.2, h62⟩
  · obtain ⟨-, -, -, -, -, ⟨r1, r2, r3⟩, ⟨r4, r5, r6⟩, -⟩ := a
    refine ⟨⟨r1, r4, r2⟩, fun i hi => ?_⟩
    have q1 := r3 i hi
    have q2 := r6 i hi
    exact ⟨⟨q1.1, q2.1⟩, q1.2, q2.2⟩
  · refine ⟨?_, a.1.2, ?_⟩
    · rw [← b.1]; exact vm_h_fr e
    · exact b.2.1.fr e
theorem vt_TR_63 : ∀ c ∈ vt_TR, c ∈ (63 :: 64 :: 65 :: vt_TR) := by decide
theorem vm_Z.y {μ μ' : vr_M} (h : vm_Z μ μ') : vm_Y μ μ' := h.x.y
theorem vm_Z.of3 {μ μ' : vr_M} (h : vp_fr [68, 72, 73] μ μ') (g : ∀ j, j ≠ 12 → j ≠ 13 → μ' 68 j = μ 68 j) : vm_Z μ μ' := vm_Z.of h g
/-- a call that asks about a rule -/
theorem vz_rule {Y : Int} {μ : vr_M} {r : Int} {c m : vr_M → Option (Int × vr_M)} (hY : Y ≤ 90000) (h : vz_R Y μ) (C0 : (∀ n rk rv, vn_ru μ n rk rv → ¬ (0 ≤ r ∧ r < (n : Int)) → c μ = some (-1, μ))) (M0 : ∀ n rk rv, vm_ru (μ 69) n rk rv → ¬ (0 ≤ r ∧ r < (n : Int)) → m μ = some (-1, μ))
    (T : ∀ n rk rv, vn_ru μ n rk rv → vm_ru (μ 69) n rk rv → ∀ i : Nat, i < n → r = (i : Int) → ∃ a μ1 μ2, c μ = some (a, μ1) ∧ m μ1 = some (a, μ2) ∧ vz_R (Y + 40) μ2) :
    ∃ a μ1 μ2, c μ = some (a, μ1) ∧ m μ1 = some (a, μ2) ∧ vz_R (Y + 40) μ2 := by
  obtain ⟨h', cl, wk, mv, gr, dr, tn, tp, rn, row, an, ag, n, rk, rv, ld, a, b, c1, c2, c3, c4⟩ := vz_open h
  by_cases q : 0 ≤ r ∧ r < (n : Int)
  · exact T n rk rv c2 c3 r.toNat (by omega) (by omega)
  · exact ⟨-1, μ, μ, C0 n rk rv c2 q, M0 n rk rv c3 q, h.mono (by omega)⟩

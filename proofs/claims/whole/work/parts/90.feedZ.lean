/-! bytes of a long -/
theorem vf_255 : ∀ i, i < 64 → ((255 : Int64)).toBitVec.getLsbD i = decide (i < 8) := by decide
theorem vf_255' : ∀ i, i < 32 → ((255 : Int32)).toBitVec.getLsbD i = decide (i < 8) := by decide
theorem vf_bits (x : Int64) (k : Nat) (hk : k < 8) : (vr_I (vr_l2i (vr_lushr x (8 * (k : Int)))) &&& vr_I 255) = vr_I (vr_l2i ((vr_lshr x (8 * (k : Int))) &&& (255 : Int64))) := by
  have e1 : ∀ y : Int64, vr_I (vr_l2i y) = y.toInt32 := fun y => vr_IT _
  have hU : (vr_lushr x (8 * (k : Int))).toBitVec = x.toBitVec >>> (8 * k) := by
    rcases (show k = 0 ∨ k = 1 ∨ k = 2 ∨ k = 3 ∨ k = 4 ∨ k = 5 ∨ k = 6 ∨ k = 7 by omega) with rfl | rfl | rfl | rfl | rfl | rfl | rfl | rfl <;> rfl
  have hS : (vr_lshr x (8 * (k : Int))).toBitVec = x.toBitVec.sshiftRight (8 * k) := by
    rcases (show k = 0 ∨ k = 1 ∨ k = 2 ∨ k = 3 ∨ k = 4 ∨ k = 5 ∨ k = 6 ∨ k = 7 by omega) with rfl | rfl | rfl | rfl | rfl | rfl | rfl | rfl <;> rfl
  rw [e1, e1, show vr_I 255 = (255 : Int32) from rfl]
  apply Int32.toBitVec_inj.mp
  apply BitVec.eq_of_getLsbD_eq
  intro i hi
  rw [Int32.toBitVec_and, BitVec.getLsbD_and, vf_255' i hi, Int64.toBitVec_toInt32, BitVec.getLsbD_signExtend, Int64.toBitVec_toInt32, BitVec.getLsbD_signExtend, Int64.toBitVec_and, BitVec.getLsbD_and, vf_255 i (by omega), hU, hS, BitVec.getLsbD_ushiftRight, BitVec.getLsbD_sshiftRight]
  by_cases c : i < 8
  · have h1 : 8 * k + i < 64 := by omega
    have h2 : i < 64 := by omega
    have h3 : ¬ 64 ≤ i := by omega
    simp [c, h1, h2, h3]
  · have h2 : i < 64 := by omega
    simp [c, h2]
def vf_by (x : Int64) (k : Nat) : Int := vr_l2i ((vr_lshr x (8 * (k : Int))) &&& (255 : Int64))
theorem vf_by_c (x : Int64) (k : Nat) (hk : k < 8) : vr_and (vr_l2i (vr_lushr x (8 * (k : Int)))) 255 = vf_by x k := by
  unfold vr_and
  rw [vf_bits x k hk]
  unfold vf_by vr_l2i
  rw [vr_IT]
theorem vf_by_in (x : Int64) (k : Nat) (hk : k < 8) : 0 ≤ vf_by x k ∧ vf_by x k ≤ 255 := by
  rw [← vf_by_c x k hk]
  unfold vr_and
  rw [show vr_I 255 = (255 : Int32) from rfl]
  generalize vr_I (vr_l2i (vr_lushr x (8 * (k : Int)))) = y
  have hb : (y &&& (255 : Int32)).toBitVec.toNat ≤ 255 := by
    rw [Int32.toBitVec_and, BitVec.toNat_and]
    exact Nat.and_le_right
  have hi : (y &&& (255 : Int32)).toInt = ((y &&& (255 : Int32)).toBitVec.toNat : Int) := BitVec.toInt_eq_toNat_of_lt (by omega)
  omega
def vf_tp (x : Int64) : Nat → Nat → (Nat → Int) → (Nat → Int)
  | 0, _, f => f
  | d + 1, c, f => vf_tp x d (c + 1) (fun i => if i = c then vf_by x d else f i)
theorem vf_feedC {x : Int64} : ∀ (d n c : Nat) (f : Nat → Int) (μ : vr_M), d ≤ 8 → d < n → c + d ≤ 120 → vn_li 13 120 0 255 μ c f →
    ∃ μ', fX9_feed_L38 n x ((d : Int) - 1) μ = some (((c + d : Nat) : Int), μ') ∧ vp_fr [13, 14] μ μ' ∧ vn_li 13 120 0 255 μ' (c + d) (vf_tp x d c f) := by
  intro d
  induction d with
  | zero =>
    intro n c f μ h8 hn hc l
    obtain ⟨n, rfl⟩ : ∃ m, n = m + 1 := ⟨n - 1, by omega⟩
    refine ⟨μ, ?_, vp_fr.rf, l⟩
    rw [fX9_feed_L38.eq_2, if_pos (by omega), l.1, vp_gdT (by omega)]
    rfl
  | succ d ih =>
    intro n c f μ h8 hn hc l
    obtain ⟨n, rfl⟩ : ∃ m, n = m + 1 := ⟨n - 1, by omega⟩
    have P := vn_put (k := 13) (v := vf_by x d) (μ := μ) (c := c) l.1 (by show c < 120; omega) (by omega)
    have l2 := l.put (vf_by_in x d (by omega)) (show c < 120 by omega)
    generalize hM : vr_u (vr_u μ (13 + 1) c (vf_by x d)) 13 1 ((c + 1 : Nat) : Int) = M at P l2
    obtain ⟨μ', g1, g2, g3⟩ := ih n (c + 1) _ M (by omega) (by omega) (by omega) l2
    refine ⟨μ', ?_, vp_fr.tr (by rw [← hM]; exact (vp_fr.u (by decide)).tr (vp_fr.u (by decide))) g2, by rw [show c + (d + 1) = c + 1 + d by omega]; exact g3⟩
    rw [fX9_feed_L38.eq_2, if_neg (by omega), show ((d + 1 : Nat) : Int) - 1 = (d : Int) by omega, vf_by_c x d (by omega), P, vp_bind]
    dsimp only
    rw [show (d : Int) + (-1) = (d : Int) - 1 by omega, vp_gdT (by omega), g1, show c + 1 + d = c + (d + 1) by omega]
theorem vf_feedM {x : Int64} : ∀ (d n c : Nat) (f : Nat → Int) (μ : vr_M), d ≤ 8 → d < n → c + d ≤ 120 → vm_li 4 10 120 0 255 (μ 69) c f →
    ∃ μ', fX10_feed_L34 n x ((d : Int) - 1) μ = some (((c + d : Nat) : Int), μ') ∧ vp_fr [69] μ μ' ∧ vm_li 4 10 120 0 255 (μ' 69) (c + d) (vf_tp x d c f) ∧ ∀ j, j ≠ 4 → (j < 10 ∨ 130 ≤ j) → μ' 69 j = μ 69 j := by
  intro d
  induction d with
  | zero =>
    intro n c f μ h8 hn hc l
    obtain ⟨n, rfl⟩ : ∃ m, n = m + 1 := ⟨n - 1, by omega⟩
    refine ⟨μ, ?_, vp_fr.rf, l, fun _ _ _ => rfl⟩
    rw [fX10_feed_L34.eq_2, if_pos (by omega), l.1, vp_gdT (by omega)]
    rfl
  | succ d ih =>
    intro n c f μ h8 hn hc l
    obtain ⟨n, rfl⟩ : ∃ m, n = m + 1 := ⟨n - 1, by omega⟩
    have l1 := l.1
    generalize hM : vr_u (vr_u μ 69 (10 + c) (vf_by x d)) 69 4 ((c + 1 : Nat) : Int) = M
    have fM : vp_fr [69] μ M := by rw [← hM]; exact (vp_fr.u (by decide)).tr (vp_fr.u (by decide))
    have E : ∀ j, j ≠ 4 → j ≠ 10 + c → M 69 j = μ 69 j := fun j h1 h2 => by rw [← hM, vp_uj h1, vp_uj h2]
    have l2 : vm_li 4 10 120 0 255 (M 69) (c + 1) (fun i => if i = c then vf_by x d else f i) := l.put (vf_by_in x d (by omega)) (by omega) (by rw [← hM, vp_us]) (by rw [← hM, vp_uj (by omega), vp_us]) (fun i hi => E _ (by omega) (by omega))
    obtain ⟨μ', g1, g2, g3, g4⟩ := ih n (c + 1) _ M (by omega) (by omega) (by omega) l2
    refine ⟨μ', ?_, fM.tr g2, by rw [show c + (d + 1) = c + 1 + d by omega]; exact g3, fun j h1 h2 => (g4 j h1 h2).trans (E j h1 (by omega))⟩
    have n4 : vr_u μ 69 (10 + c) (vf_by x d) 69 4 = (c : Int) := by rw [vp_uj (by omega), l1]
    rw [fX10_feed_L34.eq_2, if_neg (by omega), show ((d + 1 : Nat) : Int) - 1 = (d : Int) by omega]
    simp only [l1]
    have hb : vr_l2i ((vr_lshr x (8 * (d : Int))) &&& (255 : Int64)) = vf_by x d := rfl
    rw [vp_gdT (by omega), hb, show (10 + (c : Int)).toNat = 10 + c by omega, vp_let, n4, show (c : Int) + 1 = ((c + 1 : Nat) : Int) by omega, hM, show (d : Int) + (-1) = (d : Int) - 1 by omega, vp_gdT (by omega), g1, show c + 1 + d = c + (d + 1) by omega]
theorem vz_feed (x : Int64) (n : Int) : vz_S (fX9_feed x n) (fX10_feed x n) := by
  intro Y μ hY hR
  obtain ⟨h, cl, wk, mv, gr, dr, tn, tp, rn, row, an, ag, nr, rk, rv, ld, ww, d, b, r1, r2, bm⟩ := vz_open hR
  obtain ⟨-, -, x1, x2, x3, x4, x5, -⟩ := id ww
  obtain ⟨-, -, y1, y2, y3, y4, -⟩ := id d
  have xn := x1.2.1
  have xc : μ 13 1 = (tn : Int) := x1.1
  have yc : μ 69 4 = (tn : Int) := y1.1
  by_cases cn : 1 ≤ n ∧ n ≤ 8
  · by_cases c8 : (tn : Int) + n ≤ 120
    · obtain ⟨k, rfl⟩ : ∃ k : Nat, n = (k : Int) := ⟨n.toNat, by omega⟩
      obtain ⟨μ1, a1, a2, a3⟩ := vf_feedC (x := x) k 9000 tn tp μ (by omega) (by omega) (by omega) x1
      have e9 : μ1 69 = μ 69 := a2 69 (by decide)
      obtain ⟨μ2, b1, b2, b3, b4⟩ := vf_feedM (x := x) k 9000 tn tp μ1 (by omega) (by omega) (by omega) (by rw [e9]; exact y1)
      have A : ∀ c, c ≠ 13 → c ≠ 14 → μ1 c = μ c := fun c h1 h2 => a2 c (by simp; omega)
      have E : ∀ j, j ≠ 4 → (j < 10 ∨ 130 ≤ j) → μ2 69 j = μ 69 j := fun j h1 h2 => by rw [b4 j h1 h2, e9]
      refine ⟨((tn + k : Nat) : Int), μ1, μ2, ?_, ?_, vz_list hR (by omega) (a2.mono (by decide)) b2 (ww.li (fun j hj => A _ (by omega) (by omega)) a3 (x2.e (A _ (by decide) (by decide)) (A _ (by decide) (by decide))) (x3.e (A _ (by decide) (by decide)) (A _ (by decide) (by decide))) (x4.e (A _ (by decide) (by decide)) (A _ (by decide) (by decide))) (x5.e (A _ (by decide) (by decide)) (A _ (by decide) (by decide)))) (d.li (fun j _ hj => E j (by omega) (by omega)) b3 (vm_li_ag y2 (E 5 (by decide) (by decide)) (fun i hi => E _ (by omega) (by omega))) (vm_li_ag y3 (E 6 (by decide) (by decide)) (fun i hi => E _ (by omega) (by omega))) (vm_ru_ag y4 (E 1 (by decide) (by decide)) (fun i hi => E _ (by omega) (by omega))))⟩
      · rw [fX9_feed, vx_inT cn, vp_bind, if_pos vz_T1]
        simp only [xc]
        rw [vp_gdT (by omega), if_pos c8, vp_gdT (by omega)]
        exact a1
      · have n4 : μ1 69 4 = (tn : Int) := by rw [e9, yc]
        rw [fX10_feed, vm_inT cn, vp_bind, if_pos vz_T1]
        simp only [n4]
        rw [vp_gdT (by omega), if_pos c8, vp_gdT (by omega)]
        exact b1
    · refine ⟨-4, μ, μ, ?_, ?_, hR.mono (by omega)⟩
      · rw [fX9_feed, vx_inT cn, vp_bind, if_pos vz_T1]
        simp only [xc]
        rw [vp_gdT (by omega), if_neg c8]
      · rw [fX10_feed, vm_inT cn, vp_bind, if_pos vz_T1]
        simp only [yc]
        rw [vp_gdT (by omega), if_neg c8]
  · refine ⟨-2, μ, μ, ?_, ?_, hR.mono (by omega)⟩
    · rw [fX9_feed, vx_inF cn, vp_bind, if_neg vz_F0]
    · rw [fX10_feed, vm_inF cn, vp_bind, if_neg vz_F0]
/-! the image -/
theorem vz_imgL : ∀ (d i n : Nat) (μ : vr_M), i + d = 933 → d < n → (∀ j, j < i → μ 70 j = μ 69 j) → vr_R (μ 69 0) →
    ∃ μ', fX10_image_L2 n (i : Int) μ = some (μ 69 0, μ') ∧ vp_fr [68, 70] μ μ' ∧ (∀ j, j ≠ 4 → μ' 68 j = μ 68 j) ∧ μ' 68 4 = 1 ∧ ∀ j, j < 933 → μ' 70 j = μ 69 j := by
  intro d
  induction d with
  | zero =>
    intro i n μ hd hn hj h0
    obtain ⟨n, rfl⟩ : ∃ q, n = q + 1 := ⟨n - 1, by omega⟩
    refine ⟨vr_u μ 68 4 1, ?_, vp_fr.u (by decide), fun j hj4 => vp_uj hj4, vp_us, fun j h => by rw [vp_un (by decide)]; exact hj j (by omega)⟩
    rw [fX10_image_L2.eq_2, if_pos (by omega), vp_let, vp_un (by decide), vp_gdT h0]
  | succ d ih =>
    intro i n μ hd hn hj h0
    obtain ⟨n, rfl⟩ : ∃ q, n = q + 1 := ⟨n - 1, by omega⟩
    have e3 : (i : Int) + 1 = ((i + 1 : Nat) : Int) := by omega
    have e1 : ((i : Int)).toNat = i := rfl
    have fu : vp_fr [70] μ (vr_u μ 70 i (μ 69 i)) := vp_fr.u (by decide)
    have a : (vr_u μ 70 i (μ 69 i)) 69 = μ 69 := fu 69 (by decide)
    have a8 : (vr_u μ 70 i (μ 69 i)) 68 = μ 68 := fu 68 (by decide)
    obtain ⟨μ', g1, g2, g3, g4, g5⟩ := ih (i + 1) n (vr_u μ 70 i (μ 69 i)) (by omega) (by omega) (fun j hji => by
      rw [a]
      by_cases e : j = i
      · subst e; exact vp_us
      · rw [vp_uj e]; exact hj j (by omega)) (by rw [a]; exact h0)
    rw [a] at g1 g5
    rw [a8] at g3
    refine ⟨μ', ?_, (fu.mono (by decide)).tr g2, g3, g4, g5⟩
    rw [fX10_image_L2.eq_2, if_neg (by omega), vp_gdT (by omega), vp_gdT (by omega), e1, e3, g1]
theorem vm_wd_ag {s s' : Nat → Int} {h : vh_H} {cl : vl_C} {wk mv gr dr : Int} {tn : Nat} {tp : Nat → Int} {rn : Nat} {row : Nat → Int} {an : Nat} {ag : Nat → Int} {n : Nat} {rk rv : Nat → Int} {ld : Int} (w : vm_wd s h cl wk mv gr dr tn tp rn row an ag n rk rv ld) (e : ∀ j, j < 933 → s' j = s j) : vm_wd s' h cl wk mv gr dr tn tp rn row an ag n rk rv ld := by
  obtain ⟨-, -, y1, y2, y3, y4, -⟩ := id w
  exact w.li (fun j hj _ => e j hj) (vm_li_ag y1 (e _ (by decide)) (fun i hi => e _ (by omega))) (vm_li_ag y2 (e _ (by decide)) (fun i hi => e _ (by omega))) (vm_li_ag y3 (e _ (by decide)) (fun i hi => e _ (by omega))) (vm_ru_ag y4 (e _ (by decide)) (fun i hi => e _ (by omega)))
theorem vz_image : vz_S fX9_image fX10_image := by
  intro Y μ hY hR
  obtain ⟨h, cl, wk, mv, gr, dr, tn, tp, rn, row, an, ag, nr, rk, rv, ld, ww, d, b, r1, r2, bm⟩ := vz_open hR
  have w0 := b.2.2.1.1
  obtain ⟨μ0, a1, a2, a3⟩ := vw_become (k := 23) (k0 := 1) (by decide) (by decide) (by decide) ww
  have s0 : ∀ c, c < 23 ∨ 45 ≤ c → μ0 c = μ c := fun c hc => a2 c (fun q => by have := vw_S_in.mp q; omega)
  generalize hM : vr_u μ0 0 2 1 = M
  have M0 : ∀ c, c ≠ 0 → M c = μ0 c := fun c hc => by rw [← hM, vp_uc hc]
  have MM : ∀ c, c ≠ 0 → c < 23 ∨ 45 ≤ c → M c = μ c := fun c h1 h2 => (M0 c h1).trans (s0 c h2)
  have M9 : M 69 = μ 69 := MM 69 (by decide) (by decide)
  have B := bm M M9
  have m0 : M 69 0 = h 5 0 := by rw [← B.1]; rfl
  have m25 : M 2 5 = h 5 0 := by rw [MM 2 (by decide) (by decide), ← b.2.1]; rfl
  obtain ⟨μ2, g1, g2, g3, g4, g5⟩ := vz_imgL 933 0 9000 M (by decide) (by decide) (fun j hj => by omega) (by omega)
  have c : ∀ c, c ≠ 0 → (c < 23 ∨ 45 ≤ c ∧ c < 68 ∨ c = 69 ∨ 71 ≤ c) → μ2 c = μ c := fun c h1 h2 => by rw [g2 c (by simp; omega), MM c h1 (by omega)]
  obtain ⟨T, t1, t2, t3⟩ := hR.2.2.1
  refine ⟨h 5 0, M, μ2, ?_, ?_, vz_R.mk ?_ ⟨Or.inr ⟨?_, g4, vz_w.mono ⟨h, cl, wk, mv, gr, dr, tn, tp, rn, row, an, ag, nr, rk, rv, ld, a3.fr (fun j hj _ => by rw [g2 _ (by simp; omega), M0 _ (by omega)]), vm_wd_ag d (fun j hj => by rw [g5 j hj, M9])⟩ (show Y ≤ Y + 40 by omega)⟩, T, t1.fr (by rw [c 66 (by decide) (by decide)]) (c 67 (by decide) (by decide)), t2.fr (by rw [g3 22 (by decide), MM 68 (by decide) (by decide)]) (c 77 (by decide) (by decide)), t3⟩ ?_⟩
  · rw [fX9_image, a1, vp_bind]
    dsimp only
    rw [hM, vp_let]
    simp only [m25]
    rw [vp_gdT (by omega)]
  · rw [← m0]
    exact g1
  · rw [c 69 (by decide) (by decide)]
    exact (hR.1.mono (show Y ≤ Y + 40 by omega)).fr (fun j hj _ => c _ (by omega) (by omega)) rfl
  · rw [g2 0 (by decide), ← hM, vp_us]
  · rw [c 62 (by decide) (by decide)]
    exact hR.2.2.2
theorem vz_undL : ∀ (d i n : Nat) (μ : vr_M), i + d = 933 → d < n → (∀ j, j < i → μ 69 j = μ 70 j) → vr_R (μ 70 0) →
    ∃ μ', fX10_undo_L12 n (i : Int) μ = some (μ 70 0, μ') ∧ vp_fr [69] μ μ' ∧ ∀ j, j < 933 → μ' 69 j = μ 70 j := by
  intro d
  induction d with
  | zero =>
    intro i n μ hd hn hj h0
    obtain ⟨n, rfl⟩ : ∃ q, n = q + 1 := ⟨n - 1, by omega⟩
    have e0 := hj 0 (by omega)
    refine ⟨μ, ?_, vp_fr.rf, fun j h => hj j (by omega)⟩
    rw [fX10_undo_L12.eq_2, if_pos (by omega), e0, vp_gdT h0]
  | succ d ih =>
    intro i n μ hd hn hj h0
    obtain ⟨n, rfl⟩ : ∃ q, n = q + 1 := ⟨n - 1, by omega⟩
    have e3 : (i : Int) + 1 = ((i + 1 : Nat) : Int) := by omega
    have e1 : ((i : Int)).toNat = i := rfl
    have fu : vp_fr [69] μ (vr_u μ 69 i (μ 70 i)) := vp_fr.u (by decide)
    have a : (vr_u μ 69 i (μ 70 i)) 70 = μ 70 := fu 70 (by decide)
    obtain ⟨μ', g1, g2, g3⟩ := ih (i + 1) n (vr_u μ 69 i (μ 70 i)) (by omega) (by omega) (fun j hji => by
      rw [a]
      by_cases e : j = i
      · subst e; exact vp_us
      · rw [vp_uj e]; exact hj j (by omega)) (by rw [a]; exact h0)
    rw [a] at g1 g3
    refine ⟨μ', ?_, fu.tr g2, g3⟩
    rw [fX10_undo_L12.eq_2, if_neg (by omega), vp_gdT (by omega), vp_gdT (by omega), e1, e3, g1]
theorem vz_undo : vz_S fX9_undo fX10_undo := by
  intro Y μ hY hR
  rcases hR.2.1 with ⟨q1, q2⟩ | ⟨q1, q2, q3⟩
  · refine ⟨-3, μ, μ, ?_, ?_, hR.mono (by omega)⟩
    · rw [fX9_undo, q1, vp_gdT (by decide), if_neg vz_F0]
    · rw [fX10_undo, q2, vp_gdT (by decide), if_neg vz_F0]
  · obtain ⟨h, cl, wk, mv, gr, dr, tn, tp, rn, row, an, ag, nr, rk, rv, ld, ww, d⟩ := q3
    have w0 := ww.1.2.1
    obtain ⟨μ0, a1, a2, a3⟩ := vw_become (k := 1) (k0 := 23) (by decide) (by decide) (by decide) ww
    have s0 : ∀ c, c < 1 ∨ 23 ≤ c → μ0 c = μ c := fun c hc => a2 c (fun q => by have := vw_S_in.mp q; omega)
    have m25 : μ0 2 5 = h 5 0 := by rw [← a3.1.1]; rfl
    have e70 : μ0 70 = μ 70 := s0 70 (by decide)
    have m0 : μ0 70 0 = h 5 0 := by rw [e70, ← d.1]; rfl
    obtain ⟨μ2, g1, g2, g3⟩ := vz_undL 933 0 9000 μ0 (by decide) (by decide) (fun j hj => by omega) (by omega)
    have c : ∀ c, (c < 1 ∨ 23 ≤ c) → c ≠ 69 → μ2 c = μ c := fun c h1 h2 => by rw [g2 c (by simp; omega), s0 c h1]
    refine ⟨h 5 0, μ0, μ2, ?_, ?_, vz_R.mk (vz_w.mono ⟨h, cl, wk, mv, gr, dr, tn, tp, rn, row, an, ag, nr, rk, rv, ld, a3.fr (fun j hj _ => g2 _ (by simp; omega)), vm_wd_ag d (fun j hj => by rw [g3 j hj, e70])⟩ (show Y ≤ Y + 40 by omega)) ((vz_R.mono hR (show Y ≤ Y + 40 by omega)).k.fr (c 0 (by decide) (by decide)) (fun j hj _ => c _ (by omega) (by omega)) (c 66 (by decide) (by decide)) (c 67 (by decide) (by decide)) (c 70 (by decide) (by decide)) (c 77 (by decide) (by decide)) (by rw [c 68 (by decide) (by decide)]) (by rw [c 68 (by decide) (by decide)])) ?_⟩
    · rw [fX9_undo, q1, vp_gdT (by decide), if_pos vz_T1, a1, vp_bind]
      simp only [m25]
      rw [vp_gdT (by omega)]
    · rw [fX10_undo, s0 68 (by decide), q2, vp_gdT (by decide), if_pos vz_T1, ← m0]
      exact g1
    · rw [c 62 (by decide) (by decide)]
      exact hR.2.2.2

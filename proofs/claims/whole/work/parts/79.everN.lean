theorem vm_ky_R {rd Y : Int} {h : vh_H} {t : Nat} (hY : Y ≤ 100000) (hw : vh_wf Y h) (hrd : 1 ≤ rd ∧ rd ≤ 30) (ht : t < 26) : vr_R (vm_ky rd h t) := by
  have w1 := hw.2.1
  have m1 := Int.emod_nonneg (h 5 3) (show rd ≠ 0 by omega)
  have m2 := Int.emod_lt_of_pos (h 5 3) (show 0 < rd by omega)
  unfold vm_ky
  split
  · omega
  · split
    · omega
    · split
      · obtain ⟨x0, x1, x2, x3, x4⟩ := hw.2.2.2.2 (t / 3) (by omega)
        rcases (show t % 3 = 0 ∨ t % 3 = 1 ∨ t % 3 = 2 by omega) with e | e | e <;> rw [e]
        · show vr_R (h 2 (t / 3)); omega
        · show vr_R (h 3 (t / 3)); omega
        · show vr_R (h 4 (t / 3)); omega
      · omega
theorem vc_H_50 {kind v : Int} {cl : vl_C} {wk mv gr : Int} {h : vh_H} : ∀ i : Nat, vc_H kind v cl wk mv gr h i 5 0 = h 5 0
  | 0 => rfl
  | i + 1 => by
    have e : vc_H kind v cl wk mv gr h (i + 1) = vy_h kind v cl wk mv gr 0 (vc_H kind v cl wk mv gr h i) := rfl
    rw [e, vy_h, vh_sp_50, vc_H_50 i]
theorem vm_kp.fr {s0 : Nat → Int} {μ μ' : vr_M} (h : vm_kp s0 μ) (e : μ' 69 = μ 69) (g : μ' 71 = μ 71) : vm_kp s0 μ' := by
  unfold vm_kp at h ⊢
  rw [e, g]
  exact h
theorem vm_everL {s0 : Nat → Int} {h0 : vh_H} {cl : vl_C} {wk mv gr dr kind v Y w rd : Int} (hY : Y ≤ 99000) (hkd : 0 ≤ kind ∧ kind ≤ 6) (hvr : 1 ≤ v ∧ v ≤ 30) (hrd : rd = if kind = 1 then v else 1) (hwf : ∀ i : Nat, vh_wf (Y + i) (vc_H kind v cl wk mv gr h0 i)) :
    ∀ (d q n : Nat) (μ : vr_M) (x7 : Int), q + 1 + d = 201 → d + 1 < n → vm_kp s0 μ → vm_h μ = vc_H kind v cl wk mv gr h0 q → vm_L μ cl wk mv gr dr → vr_R x7 →
      (∀ a t, a ≤ q → t < 26 → μ 75 (26 * a + t) = vm_ky rd (vc_H kind v cl wk mv gr h0 a) t) → (∀ a, a < q → μ 76 a = vc_hv kind v cl wk mv gr h0 a) →
      ∃ μ', vm_Y μ μ' ∧ vm_kp s0 μ' ∧
        ((vc_cl (vc_K kind v cl wk mv gr h0) d (q + 1) = none ∧ ∃ x, fX10_ever_L76 n w kind v rd (-9) x7 ((q + 1 : Nat) : Int) μ = fX10_ever_B145 w (-9) x μ') ∨
         (∃ s e : Nat, vc_cl (vc_K kind v cl wk mv gr h0) d (q + 1) = some (s, e) ∧ s < e ∧ e ≤ 200 ∧ fX10_ever_L76 n w kind v rd (-9) x7 ((q + 1 : Nat) : Int) μ = fX10_ever_B145 w (e : Int) (s : Int) μ' ∧ ∀ a, a < e → μ' 76 a = vc_hv kind v cl wk mv gr h0 a)) := by
  have hrd2 : 1 ≤ rd ∧ rd ≤ 30 := by rw [hrd]; split <;> omega
  intro d
  induction d with
  | zero =>
    intro q n μ x7 hd hn hk hh hL hx7 hst hhv
    obtain ⟨n, rfl⟩ : ∃ m, n = m + 1 := ⟨n - 1, by omega⟩
    exact ⟨μ, vm_Y.rf, hk, Or.inl ⟨rfl, x7, by rw [fX10_ever_L76.eq_2, if_pos (by omega)]⟩⟩
  | succ d ih =>
    intro q n μ x7 hd hn hk hh hL hx7 hst hhv
    obtain ⟨n, rfl⟩ : ∃ m, n = m + 1 := ⟨n - 1, by omega⟩
    have wq := hwf q
    have wq1 := hwf (q + 1)
    obtain ⟨μ1, a1, a2, a3, -⟩ := vm_year (gw := 0) (by omega) wq hkd hvr hh hL
    have f1 : vp_fr [76] μ1 (vr_u μ1 76 q (vc_hv kind v cl wk mv gr h0 q)) := vp_fr.u (by decide)
    generalize hM : vr_u μ1 76 q (vc_hv kind v cl wk mv gr h0 q) = M at f1
    have hhM : vm_h M = vc_H kind v cl wk mv gr h0 (q + 1) := (vm_h_fr (f1 69 (by decide))).trans a3
    obtain ⟨μ2, b1, b2, b3, b4⟩ := vm_note (rd := rd) (k := q + 1) (by omega) wq1 hrd2 (by omega) hhM
    have f2 : vp_fr [75, 76] μ1 μ2 := (f1.mono (by decide)).tr (b2.mono (by decide))
    have hh2 : vm_h μ2 = vc_H kind v cl wk mv gr h0 (q + 1) := (vm_h_fr (b2 69 (by decide))).trans hhM
    have y2 : vm_Y μ μ2 := a2.y.tr ⟨f2.mono (by decide), fun j _ => by rw [f2 68 (by decide)]⟩
    have hk2 : vm_kp s0 μ2 := (hk.x a2).fr (f2 69 (by decide)) (f2 71 (by decide))
    have hL2 : vm_L μ2 cl wk mv gr dr := (hL.x a2).fr (f2 69 (by decide))
    have hst2 : ∀ a t, a ≤ q + 1 → t < 26 → μ2 75 (26 * a + t) = vm_ky rd (vc_H kind v cl wk mv gr h0 a) t := by
      intro a t ha ht
      by_cases e : a = q + 1
      · subst e; exact b3 t ht
      · rw [b4 _ (by omega), f1 75 (by decide), a2.1 75 (by decide)]
        exact hst a t (by omega) ht
    have hhv2 : ∀ a, a < q + 1 → μ2 76 a = vc_hv kind v cl wk mv gr h0 a := by
      intro a ha
      rw [b2 76 (by decide), ← hM]
      by_cases e : a = q
      · subst e; rw [vp_us]
      · rw [vp_uj e, a2.1 76 (by decide)]
        exact hhv a (by omega)
    have F := vm_formerL (Q := fun a t => vm_ky rd (vc_H kind v cl wk mv gr h0 a) t) (μ := μ2) (k := q + 1) (by omega) (fun a t ha ht => vm_ky_R (by have := hwf a; omega) (hwf a) hrd2 ht) hst2 (q + 1) 0 9000 (by omega) (by omega)
    rw [vm_fm_fl (K := vc_K kind v cl wk mv gr h0) (fun a ha => by
      rw [vm_s26_iff, vc_sm_iff]
      rw [hrd]
      exact vm_ky_key hvr (hwf a) wq1 (by rw [vc_H_50, vc_H_50])) (q + 1) 0 (by omega)] at F
    have F' : fX10_formerOf ((q + 1 : Nat) : Int) μ2 = _ := F
    have hcl : vc_cl (vc_K kind v cl wk mv gr h0) (d + 1) (q + 1) = if vc_fl (vc_K kind v cl wk mv gr h0) (q + 1) (q + 1) 0 < q + 1 then some (vc_fl (vc_K kind v cl wk mv gr h0) (q + 1) (q + 1) 0, q + 1) else vc_cl (vc_K kind v cl wk mv gr h0) d (q + 1 + 1) := rfl
    have e0 : fX10_ever_L76 (n + 1) w kind v rd (-9) x7 ((q + 1 : Nat) : Int) μ = (if ¬ (if vc_fl (vc_K kind v cl wk mv gr h0) (q + 1) (q + 1) 0 < q + 1 then ((vc_fl (vc_K kind v cl wk mv gr h0) (q + 1) (q + 1) 0 : Nat) : Int) else -1) = -1 then fX10_ever_L76 n w kind v rd ((q + 1 : Nat) : Int) (if vc_fl (vc_K kind v cl wk mv gr h0) (q + 1) (q + 1) 0 < q + 1 then ((vc_fl (vc_K kind v cl wk mv gr h0) (q + 1) (q + 1) 0 : Nat) : Int) else -1) ((q + 1 + 1 : Nat) : Int) μ2 else fX10_ever_L76 n w kind v rd (-9) (if vc_fl (vc_K kind v cl wk mv gr h0) (q + 1) (q + 1) 0 < q + 1 then ((vc_fl (vc_K kind v cl wk mv gr h0) (q + 1) (q + 1) 0 : Nat) : Int) else -1) ((q + 1 + 1 : Nat) : Int) μ2) := by
      rw [fX10_ever_L76.eq_2, if_neg (by omega), if_neg (fun z => z rfl), a1, vp_bind, vp_gdT (by omega)]
      dsimp only
      rw [show (((q + 1 : Nat) : Int) - 1).toNat = q by omega]
      have hM' : vr_u μ1 76 q (vh_ha cl wk mv (vy_s kind v cl wk mv (vc_H kind v cl wk mv gr h0 q)) (vy_to kind v cl wk mv (vc_H kind v cl wk mv gr h0 q)) (vc_H kind v cl wk mv gr h0 q)) = M := hM
      rw [hM', b1, vp_bind]
      dsimp only
      rw [F', vp_bind]
      unfold fX10_ever_B137
      dsimp only
      rw [show ((q + 1 : Nat) : Int) + 1 = ((q + 1 + 1 : Nat) : Int) by omega, vp_gdT (by omega), vp_gdT (by omega)]
    rw [e0, hcl]
    by_cases c : vc_fl (vc_K kind v cl wk mv gr h0) (q + 1) (q + 1) 0 < q + 1
    · refine ⟨μ2, y2, hk2, Or.inr ⟨_, _, by rw [if_pos c], c, by omega, ?_, hhv2⟩⟩
      obtain ⟨n, rfl⟩ : ∃ m, n = m + 1 := ⟨n - 1, by omega⟩
      rw [if_pos c, if_pos (by omega), fX10_ever_L76.eq_2]
      by_cases z : (200 : Int) < ((q + 1 + 1 : Nat) : Int)
      · rw [if_pos z]
      · rw [if_neg z, if_pos (by omega)]
    · obtain ⟨μ', g1, g2, g3⟩ := ih (q + 1) n μ2 (-1) (by omega) (by omega) hk2 hh2 hL2 (by decide) hst2 hhv2
      refine ⟨μ', y2.tr g1, g2, ?_⟩
      rw [if_neg c, if_neg c, if_neg (fun z => z rfl)]
      exact g3
theorem vm_leastL {μ : vr_M} {hv : Nat → Int} {s e : Nat} {w : Int} (he : e ≤ 200) (hs : s < e) (hh : ∀ a, a < e → μ 76 a = hv a) (hR : ∀ a, a < e → vr_R (hv a)) :
    ∀ (d i n : Nat) (m : Int), i + d = e → d < n → vr_R m → fX10_ever_L176 n w (e : Int) (s : Int) m (i : Int) μ = some (if w = 1 then (e : Int) - (s : Int) else vc_lh hv d i m, μ) := by
  intro d
  induction d with
  | zero =>
    intro i n m hd hn hm
    obtain ⟨n, rfl⟩ : ∃ q, n = q + 1 := ⟨n - 1, by omega⟩
    rw [fX10_ever_L176.eq_2, if_pos (by omega)]
    unfold fX10_ever_B230
    by_cases c : w = 1
    · rw [if_neg (fun z => z c), vp_gdT (by omega), if_pos c]
    · rw [if_pos c, if_neg c]
      rfl
  | succ d ih =>
    intro i n m hd hn hm
    obtain ⟨n, rfl⟩ : ∃ q, n = q + 1 := ⟨n - 1, by omega⟩
    have e3 : (i : Int) + 1 = ((i + 1 : Nat) : Int) := by omega
    have h1 := hh i (by omega)
    have h2 := hR i (by omega)
    have h3 : vr_R (min m (hv i)) := by omega
    have hl : vc_lh hv (d + 1) i m = vc_lh hv d (i + 1) (min m (hv i)) := rfl
    rw [fX10_ever_L176.eq_2, if_neg (by omega), vp_gdT (by omega)]
    unfold fX10_ever_B207
    simp only [show ((i : Int)).toNat = i from rfl, h1]
    rw [vp_gdT h2, vp_gdT (by omega), vp_gdT (by omega), e3, hl]
    by_cases c : m ≤ hv i
    · rw [if_pos c, ih (i + 1) n m (by omega) (by omega) hm, show min m (hv i) = m by omega]
    · rw [if_neg c, ih (i + 1) n (hv i) (by omega) (by omega) h2, show min m (hv i) = hv i by omega]
theorem vm_ever {μ : vr_M} {h : vh_H} {cl : vl_C} {wk mv gr dr Y : Int} {n : Nat} {rk rv : Nat → Int} (hY : Y ≤ 98000) (hb : vm_B μ h cl wk mv gr dr Y) (hr : vm_ru (μ 69) n rk rv) {i : Nat} (hi : i < n) {w : Int} (hw : 0 ≤ w ∧ w ≤ 2) :
    ∃ μ', fX10_ever (i : Int) w μ = some ((match vc_cl (vc_K (rk i) (rv i) cl wk mv gr h) 201 0 with
      | none => (-9 : Int)
      | some (s, e) => if w = 0 then (e : Int) else if w = 1 then (e : Int) - (s : Int) else vc_lh (vc_hv (rk i) (rv i) cl wk mv gr h) (e - s) s 2147483647), μ') ∧ vm_Y μ μ' ∧ μ' 69 = μ 69 := by
  obtain ⟨q1, q2, q3, q4, q5, q6⟩ := vm_rk (s := μ 69) hr hi
  obtain ⟨μ1, a1, a2, a3, a4⟩ := vm_keep μ
  have hb1 := hb.fr a3
  have hmv := hb.2.2.2.2.2.1
  have hgr := hb.2.2.2.2.2.2.1
  have hwf := vc_H_wf (kind := rk i) (v := rv i) (wk := wk) (mv := mv) (gr := gr) hb.2.1 hb.2.2.1.1 hmv hgr
  generalize hrd : (if rk i = 1 then rv i else 1) = rd
  have hrd2 : 1 ≤ rd ∧ rd ≤ 30 := by rw [← hrd]; split <;> omega
  obtain ⟨μ2, b1, b2, b3, b4⟩ := vm_note (rd := rd) (k := 0) (by omega : Y ≤ 100000) hb.2.1 hrd2 (by decide) hb1.1
  have b1' : fX10_notes 0 rd μ1 = some (0, μ2) := b1
  have y2 : vm_Y μ μ2 := (vm_Y.k a2).tr ⟨b2.mono (by decide), fun j _ => by rw [b2 68 (by decide)]⟩
  have k2 : vm_kp (μ 69) μ2 := a4.fr (b2 69 (by decide)) (b2 71 (by decide))
  have hb2 := hb1.fr (b2 69 (by decide))
  obtain ⟨μ3, c1, c2, c3⟩ := vm_everL (w := w) (rd := rd) (h0 := h) (by omega) q3 q4 hrd.symm hwf 200 0 9000 μ2 (-1) (by decide) (by decide) k2 hb2.1 hb2.2.2 (by decide) (fun a t ha ht => by
    have : a = 0 := by omega
    subst this
    exact b3 t ht) (fun a ha => by omega)
  obtain ⟨μ', g1, g2, g3, g4⟩ := vm_unk c2
  have y3 : vm_Y μ μ' := (y2.tr c1).tr (vm_Y.s g2)
  have hcl : vc_cl (vc_K (rk i) (rv i) cl wk mv gr h) 201 0 = vc_cl (vc_K (rk i) (rv i) cl wk mv gr h) 200 1 := by
    have e : vc_cl (vc_K (rk i) (rv i) cl wk mv gr h) (200 + 1) 0 = if vc_fl (vc_K (rk i) (rv i) cl wk mv gr h) 0 0 0 < 0 then some (vc_fl (vc_K (rk i) (rv i) cl wk mv gr h) 0 0 0, 0) else vc_cl (vc_K (rk i) (rv i) cl wk mv gr h) 200 (0 + 1) := rfl
    rw [if_neg (by omega)] at e
    exact e
  have e0 : fX10_ever (i : Int) w μ = fX10_ever_L76 9000 w (rk i) (rv i) rd (-9) (-1) 1 μ2 := by
    rw [fX10_ever, vm_rule hr rfl, vp_bind, if_pos (show 0 ≤ (i : Int) ∧ (i : Int) < (n : Int) by omega), if_neg (show ¬ (1 : Int) = 0 by decide), vm_inT hw, vp_bind, if_pos (show ¬ (1 : Int) = 0 by decide), vp_gdT q5, vp_gdT q6]
    dsimp only
    simp only [q1, q2]
    unfold fX10_ever_B53
    rw [vp_gdT (by omega), a1]
    by_cases z : rk i = 1
    · rw [if_pos z] at hrd
      subst hrd
      rw [if_neg (fun q => q z), vp_gdT (by omega), vp_bind]
      dsimp only
      rw [b1', vp_bind]
    · rw [if_neg z] at hrd
      subst hrd
      rw [if_pos z, vp_gdT (by omega), vp_bind]
      dsimp only
      rw [b1', vp_bind]
  refine ⟨μ', ?_, y3, g3⟩
  rw [e0, hcl]
  rcases c3 with ⟨d1, x, d2⟩ | ⟨s, e, d1, d2, d3, d4, d5⟩
  · have d2' : fX10_ever_L76 9000 w (rk i) (rv i) rd (-9) (-1) 1 μ2 = fX10_ever_B145 w (-9) x μ3 := d2
    have d1' : vc_cl (vc_K (rk i) (rv i) cl wk mv gr h) 200 1 = none := d1
    rw [d2', d1', fX10_ever_B145, g1, vp_bind, if_pos rfl, fX10_ever_B160]
  · have d4' : fX10_ever_L76 9000 w (rk i) (rv i) rd (-9) (-1) 1 μ2 = fX10_ever_B145 w (e : Int) (s : Int) μ3 := d4
    have d1' : vc_cl (vc_K (rk i) (rv i) cl wk mv gr h) 200 1 = some (s, e) := d1
    have hR : ∀ a, a < e → vr_R (vc_hv (rk i) (rv i) cl wk mv gr h a) := fun a ha => by
      have := vh_ha_in (wk := wk) (mv := mv) (s := vy_s (rk i) (rv i) cl wk mv (vc_H (rk i) (rv i) cl wk mv gr h a)) (to := vy_to (rk i) (rv i) cl wk mv (vc_H (rk i) (rv i) cl wk mv gr h a)) (hwf a) hb.2.2.1.1 hmv
      unfold vc_hv
      omega
    have hR0 := hR s d2
    rw [d4', d1', fX10_ever_B145, g1, vp_bind, if_neg (by omega)]
    dsimp only
    by_cases c0 : w = 0
    · rw [if_neg (fun z => z c0), if_pos c0, fX10_ever_B160]
    · have e76 : ∀ a, a < e → μ' 76 a = vc_hv (rk i) (rv i) cl wk mv gr h a := fun a ha => by rw [g2 76 (by decide)]; exact d5 a ha
      have L := vm_leastL (μ := μ') (w := w) d3 d2 e76 hR (e - s) s 9000 (vc_hv (rk i) (rv i) cl wk mv gr h s) (by omega) (by omega) hR0
      rw [if_pos c0, if_neg c0, vp_gdT (by omega), show ((s : Int)).toNat = s from rfl]
      simp only [e76 s d2]
      rw [vp_gdT hR0, L]
      by_cases c1 : w = 1
      · rw [if_pos c1, if_pos c1]
      · rw [if_neg c1, if_neg c1]
        obtain ⟨d, hd⟩ : ∃ d, e - s = d + 1 := ⟨e - s - 1, by omega⟩
        rw [hd, vc_lh, vc_lh, show min (vc_hv (rk i) (rv i) cl wk mv gr h s) (vc_hv (rk i) (rv i) cl wk mv gr h s) = vc_hv (rk i) (rv i) cl wk mv gr h s by omega, show min (2147483647 : Int) (vc_hv (rk i) (rv i) cl wk mv gr h s) = vc_hv (rk i) (rv i) cl wk mv gr h s by omega]

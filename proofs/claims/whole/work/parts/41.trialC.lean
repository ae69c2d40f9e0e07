def vt_B (μ : vr_M) (h : vh_H) (cl : vl_C) (wk mv gr dr Y : Int) : Prop := vt_L μ cl wk mv gr dr ∧ vh_c μ 2 = h ∧ vh_wf Y h ∧ μ 62 0 = 0
def vt_TR : List Nat := [12, 51, 52, 53, 54, 55, 56, 57, 58, 59, 60, 61, 62]
theorem vt_B.fr {μ μ' : vr_M} {h : vh_H} {cl : vl_C} {wk mv gr dr Y : Int} (hb : vt_B μ h cl wk mv gr dr Y) (f : vp_fr vt_TR μ μ') (h62 : μ' 62 0 = 0) : vt_B μ' h cl wk mv gr dr Y :=
  ⟨hb.1.fr f (by intro i hi; simp [vt_TR]; omega), (vh_c_fr (fun j hj => f _ (by simp [vt_TR]; omega))).trans hb.2.1, hb.2.2.1, h62⟩
def vt_E (T T' : Nat → Int) : Prop := T 4 = T' 4 ∧ T 5 = T' 5 ∧ T 6 = T' 6 ∧ T 7 = T' 7
def vt_T0 : Nat → Int := fun j => if j = 6 then -5 else 0
theorem vy_T_E {kind v : Int} {cl : vl_C} {wk mv : Int} {h : vh_H} {T T' : Nat → Int} (e : vt_E T T') : vt_E (vy_T kind v cl wk mv h T) (vy_T kind v cl wk mv h T') := by
  obtain ⟨e4, e5, e6, e7⟩ := e
  refine ⟨?_, ?_, ?_, ?_⟩
  · simp only [vy_T, vt_T]; simp [e4]
  · simp only [vy_T, vt_T]; simp [e5]
  · simp only [vy_T, vt_T]; simp [e4, e5, e6]
  · simp only [vy_T, vt_T]; simp [e7]
theorem vy_it_E {kind v : Int} {cl : vl_C} {wk mv gr gw : Int} : ∀ (m : Nat) (h : vh_H) (T T' : Nat → Int), vt_E T T' → (vy_it kind v cl wk mv gr gw m (h, T)).1 = (vy_it kind v cl wk mv gr gw m (h, T')).1 ∧ vt_E (vy_it kind v cl wk mv gr gw m (h, T)).2 (vy_it kind v cl wk mv gr gw m (h, T')).2
  | 0, _, _, _, e => ⟨rfl, e⟩
  | m + 1, h, T, T', e => by
    rw [vy_it, vy_it]
    exact vy_it_E m _ _ _ (vy_T_E e)
theorem vt_beg0 {μ : vr_M} {h : vh_H} {cl : vl_C} {wk mv gr dr Y : Int} (hY : Y ≤ 99990) (hb : vt_B μ h cl wk mv gr dr Y) :
    ∃ μ', fX7_begin μ = some (0, μ') ∧ vp_fr [12, 51, 52, 53, 54, 55, 56, 57, 59] μ μ' ∧ vt_H μ' h cl Y ∧ vt_L μ' cl wk mv gr dr ∧ vt_E (μ' 51) vt_T0 ∧ vt_R (μ' 51) 0 ∧ vt_B μ' h cl wk mv gr dr Y := by
  obtain ⟨μ', g1, g2, g3, g4, g5, g6, g7, g8⟩ := vt_begin (by omega) hb.1 hb.2.1 hb.2.2.1
  have f : vp_fr vt_TR μ μ' := g2.mono (by decide)
  have h62 : μ' 62 0 = 0 := by rw [g2 62 (by decide)]; exact hb.2.2.2
  have hB := hb.fr f h62
  refine ⟨μ', g1, g2, ⟨g3, hb.2.2.1, g4, h62⟩, hB.1, ⟨?_, ?_, ?_, ?_⟩, ?_, hB⟩
  · rw [g5]; rfl
  · rw [g6]; rfl
  · rw [g7]; rfl
  · rw [g8]; rfl
  · unfold vt_R
    rw [g5, g6, g8]
    omega
theorem vt_beg {μ : vr_M} {h : vh_H} {cl : vl_C} {wk mv gr dr kind v Y : Int} (hY : Y ≤ 99990) (hb : vt_B μ h cl wk mv gr dr Y) (hK : vt_K μ kind v) :
    ∃ μ', fX7_begin μ = some (0, μ') ∧ vp_fr vt_TR μ μ' ∧ vt_H μ' h cl Y ∧ vt_L μ' cl wk mv gr dr ∧ vt_K μ' kind v ∧ vt_E (μ' 51) vt_T0 ∧ vt_R (μ' 51) 0 ∧ vt_B μ' h cl wk mv gr dr Y := by
  obtain ⟨μ', g1, g2, g3, g4, g5, g6, g7⟩ := vt_beg0 hY hb
  exact ⟨μ', g1, g2.mono (by decide), g3, g4, hK.fr g2 (by decide), g5, g6, g7⟩
theorem vt_run {μ : vr_M} {h : vh_H} {cl : vl_C} {wk mv gr dr kind v Y : Int} (hY : Y ≤ 99000) (hb : vt_B μ h cl wk mv gr dr Y) (hK : vt_K μ kind v) {m gw : Int} (hm : 0 ≤ m ∧ m ≤ 300) :
    ∃ μ1 μ', fX7_begin μ = some (0, μ1) ∧ fX7_spendYears m gw μ1 = some (0, μ') ∧ vp_fr vt_TR μ μ' ∧ vt_H μ' (vy_it kind v cl wk mv gr gw m.toNat (h, vt_T0)).1 cl (Y + m) ∧ vt_E (μ' 51) (vy_it kind v cl wk mv gr gw m.toNat (h, vt_T0)).2 ∧ vt_R (μ' 51) m ∧ vt_B μ' h cl wk mv gr dr Y ∧ vt_K μ' kind v := by
  obtain ⟨μ1, g1, g2, g3, g4, g5, g6, g7, g8⟩ := vt_beg (by omega) hb hK
  obtain ⟨μ', k1, k2, k3, k4, k5, k6, k7⟩ := vt_yearsL (gr := gr) (x1 := m) (gw := gw) (by omega) m.toNat 0 9000 μ1 h Y 0 (by omega) (by omega) (by omega) (by omega) g4 g5 g3 g7
  have f : vp_fr vt_TR μ1 μ' := k2.mono (by decide)
  have e := vy_it_E (kind := kind) (v := v) (cl := cl) (wk := wk) (mv := mv) (gr := gr) (gw := gw) m.toNat h (μ1 51) vt_T0 g6
  have em : ((m.toNat : Nat) : Int) = m := by omega
  rw [em] at k3 k5
  refine ⟨μ1, μ', g1, k1, g2.tr f, by rw [← e.1]; exact k3, by rw [k4]; exact e.2, by rw [show (0 : Int) + m = m by omega] at k5; exact k5, g8.fr f k3.2.2.2, k7⟩
/-- is the village fed in this year, and in all of these years -/
def vy_we (kind v : Int) (cl : vl_C) (wk mv : Int) (h : vh_H) : Int := vh_we cl wk mv (vy_s kind v cl wk mv h) (vy_to kind v cl wk mv h) h
def vy_fed (kind v : Int) (cl : vl_C) (wk mv gr gw : Int) : Nat → vh_H → Bool
  | 0, _ => true
  | m + 1, h => if vy_we kind v cl wk mv h = 0 then false else vy_fed kind v cl wk mv gr gw m (vy_h kind v cl wk mv gr gw h)
def vy_hs (kind v : Int) (cl : vl_C) (wk mv gr gw : Int) : Nat → vh_H → vh_H
  | 0, h => h
  | m + 1, h => vy_hs kind v cl wk mv gr gw m (vy_h kind v cl wk mv gr gw h)
theorem vy_it_hs {kind v : Int} {cl : vl_C} {wk mv gr gw : Int} : ∀ (m : Nat) (h : vh_H) (T : Nat → Int), (vy_it kind v cl wk mv gr gw m (h, T)).1 = vy_hs kind v cl wk mv gr gw m h
  | 0, _, _ => rfl
  | m + 1, h, T => by
    rw [vy_it, vy_hs]
    exact vy_it_hs m _ _
theorem vt_fedL {cl : vl_C} {wk mv gr dr kind v : Int} {x1 gw : Int} (hx1 : 0 ≤ x1 ∧ x1 ≤ 300) :
    ∀ (d i n : Nat) (μ : vr_M) (h : vh_H) (Y B : Int), x1 - (i : Int) = (d : Int) → d + 1 < n → Y + d ≤ 99998 → B + d ≤ 4999 → vt_L μ cl wk mv gr dr → vt_K μ kind v → vt_H μ h cl Y → vt_R (μ 51) B → μ 51 5 = 0 →
      ∃ μ', fX7_staysFed_L2 n x1 gw (i : Int) μ = some (if vy_fed kind v cl wk mv gr gw d h = true then 1 else 0, μ') ∧ vp_fr vt_TR μ μ' ∧ μ' 62 0 = 0 ∧ vt_K μ' kind v ∧ (vy_fed kind v cl wk mv gr gw d h = true → vh_c μ' 52 = vy_hs kind v cl wk mv gr gw d h ∧ vh_wf (Y + d) (vy_hs kind v cl wk mv gr gw d h)) := by
  intro d
  induction d with
  | zero =>
    intro i n μ h Y B hd hn hY hB hL hK hH hT h5
    obtain ⟨n, rfl⟩ : ∃ m, n = m + 1 := ⟨n - 1, by omega⟩
    refine ⟨μ, ?_, vp_fr.rf, hH.2.2.2, hK, fun _ => ⟨hH.1, by rw [show Y + ((0 : Nat) : Int) = Y by omega]; exact hH.2.1⟩⟩
    rw [fX7_staysFed_L2.eq_2, if_pos (by omega), fX7_staysFed_B45, vp_gdT (by rw [h5]; decide), if_neg (by rw [h5]; decide), fX7_staysFed_B57, vp_gdT (by decide)]
    rfl
  | succ d ih =>
    intro i n μ h Y B hd hn hY hB hL hK hH hT h5
    obtain ⟨n, rfl⟩ : ∃ m, n = m + 1 := ⟨n - 1, by omega⟩
    obtain ⟨μ1, μ2, μ3, a1, a2, a3, a4, a5, a6, a7, a8, a9⟩ := vt_year (gw := gw) (B := B) (by omega : Y ≤ 99998) hL hK hH (by omega) hT
    have e3 : (i : Int) + 1 = ((i + 1 : Nat) : Int) := by omega
    have f3 : vp_fr vt_TR μ μ3 := a4.mono (by decide)
    have h53 : μ3 51 5 = if vy_we kind v cl wk mv h = 0 then 1 else 0 := by
      rw [a6]
      show (μ 51) 5 + (if vy_we kind v cl wk mv h = 0 then 1 else 0) = _
      rw [h5, Int.zero_add]
    have eq0 : fX7_staysFed_L2 (n + 1) x1 gw (i : Int) μ = fX7_staysFed_L2 n x1 gw ((i + 1 : Nat) : Int) μ3 := by
      rw [fX7_staysFed_L2.eq_2, if_neg (by omega), vp_gdT (by rw [h5]; decide), if_neg (by rw [h5]; decide), a1]
      simp only [vp_bind]
      rw [a2]
      simp only [vp_bind]
      rw [a3]
      simp only [vp_bind]
      rw [vp_gdT (by omega), e3]
    by_cases hw : vy_we kind v cl wk mv h = 0
    · rw [if_pos hw] at h53
      refine ⟨μ3, ?_, f3, a5.2.2.2, a9, fun q => absurd q (by rw [vy_fed, if_pos hw]; simp)⟩
      rw [eq0]
      obtain ⟨n, rfl⟩ : ∃ m, n = m + 1 := ⟨n - 1, by omega⟩
      have e0 : fX7_staysFed_B45 μ3 = some (0, μ3) := by
        rw [fX7_staysFed_B45, vp_gdT (by rw [h53]; decide), if_pos (by rw [h53]; decide), fX7_staysFed_B57, vp_gdT (by decide)]
      rw [vy_fed, if_pos hw, fX7_staysFed_L2.eq_2]
      by_cases hx : x1 ≤ ((i + 1 : Nat) : Int)
      · rw [if_pos hx, e0]
        rfl
      · rw [if_neg hx, vp_gdT (by rw [h53]; decide), if_pos (by rw [h53]; decide), e0]
        rfl
    · rw [if_neg hw] at h53
      obtain ⟨μ', g1, g2, g3, g4, g5⟩ := ih (i + 1) n μ3 (vy_h kind v cl wk mv gr gw h) (Y + 1) (B + 1) (by omega) (by omega) (by omega) (by omega) a8 a9 a5 a7 h53
      refine ⟨μ', ?_, f3.tr g2, g3, g4, fun q => by
        rw [vy_fed, if_neg hw] at q
        obtain ⟨q1, q2⟩ := g5 q
        exact ⟨q1, by rw [show Y + ((d + 1 : Nat) : Int) = Y + 1 + (d : Int) by omega]; exact q2⟩⟩
      rw [eq0, g1, vy_fed, if_neg hw]
theorem vt_ripe_up {h : vh_H} {cl : vl_C} {p j : Nat} {v : Int} : vh_ri (vh_up h 5 j v) cl p = vh_ri h cl p := by
  have : ∀ (f q : Nat), f < 5 → vh_up h 5 j v f q = h f q := by
    intro f q hf
    unfold vh_up
    rw [if_neg (by omega)]
  have hs : ∀ c w, vh_sn (vh_up h 5 j v) p c w = vh_sn h p c w := by
    intro c w
    unfold vh_sn
    rw [this 3 p (by decide), this 0 p (by decide), this 1 p (by decide)]
  have hw : vh_wt (vh_up h 5 j v) cl p = vh_wt h cl p := by
    unfold vh_wt
    rw [hs, this 2 p (by decide), this 4 p (by decide)]
  unfold vh_ri
  rw [hs, hw, this 2 p (by decide)]
/-- the most mouths that stay fed, from m down -/
def vy_most (kind v : Int) (cl : vl_C) (wk mv gr : Int) (ys : Nat) (h : vh_H) : Nat → Int
  | 0 => 0
  | m + 1 => if vy_fed kind v cl wk mv gr 0 ys (vh_up h 5 2 ((m + 1 : Nat) : Int)) = true then ((m + 1 : Nat) : Int) else vy_most kind v cl wk mv gr ys h m
theorem vt_mostL {h : vh_H} {cl : vl_C} {wk mv gr dr kind v Y : Int} (hY : Y ≤ 99000) {x1 : Int} (hx1 : 0 ≤ x1 ∧ x1 ≤ 300) :
    ∀ (m n : Nat) (μ : vr_M), m ≤ 99 → m < n → vt_B μ h cl wk mv gr dr Y → vt_K μ kind v →
      ∃ μ', fX9_mostMouths_L3 n x1 (m : Int) μ = some (vy_most kind v cl wk mv gr x1.toNat h m, μ') ∧ vp_fr vt_TR μ μ' ∧ μ' 62 0 = 0 := by
  intro m
  induction m with
  | zero =>
    intro n μ hm hn hb hK
    obtain ⟨n, rfl⟩ : ∃ m, n = m + 1 := ⟨n - 1, by omega⟩
    refine ⟨μ, ?_, vp_fr.rf, hb.2.2.2⟩
    rw [fX9_mostMouths_L3.eq_2, if_pos (by omega)]
    rfl
  | succ m ih =>
    intro n μ hm hn hb hK
    obtain ⟨n, rfl⟩ : ∃ m, n = m + 1 := ⟨n - 1, by omega⟩
    obtain ⟨μ1, g1, g2, g3, g4, g5, g6, g7, g8⟩ := vt_beg (by omega) hb hK
    have hc : vh_c (vr_u μ1 52 7 ((m + 1 : Nat) : Int)) 52 = vh_up h 5 2 ((m + 1 : Nat) : Int) := by
      rw [show (7 : Nat) = 5 + 2 from rfl, vh_c_u5 (by decide), g3.1]
    have fu : vp_fr [52] μ1 (vr_u μ1 52 7 ((m + 1 : Nat) : Int)) := vp_fr.u (by decide)
    have hH : vt_H (vr_u μ1 52 7 ((m + 1 : Nat) : Int)) (vh_up h 5 2 ((m + 1 : Nat) : Int)) cl Y := by
      refine ⟨hc, ?_, fun p hp => ?_, by rw [fu 62 (by decide)]; exact g3.2.2.2⟩
      · obtain ⟨w1, w2, w3, w4, w5⟩ := g3.2.1
        refine ⟨w1, w2, ⟨?_, ?_⟩, w4, w5⟩
        · show 1 ≤ ((m + 1 : Nat) : Int); omega
        · show ((m + 1 : Nat) : Int) ≤ 99; omega
      · rw [hc, vt_ripe_up, fu 59 (by decide), vp_uj (by decide), g3.2.2.1 p hp, g3.1]
    have e51 : (vr_u μ1 52 7 ((m + 1 : Nat) : Int)) 51 = μ1 51 := fu 51 (by decide)
    obtain ⟨μ2, k1, k2, k3, k4, -⟩ := vt_fedL (x1 := x1) (gw := 0) hx1 x1.toNat 0 9000 _ _ Y 0 (by omega) (by omega) (by omega) (by omega) (g4.fr fu (by intro i hi; simp; omega)) (g5.fr fu (by decide)) hH (by rw [e51]; exact g7) (by rw [e51]; exact g6.2.1)
    have f2 : vp_fr vt_TR μ μ2 := (g2.tr (fu.mono (by decide))).tr k2
    have e0 : fX9_mostMouths_L3 (n + 1) x1 ((m + 1 : Nat) : Int) μ = (some ((if vy_fed kind v cl wk mv gr 0 x1.toNat (vh_up h 5 2 ((m + 1 : Nat) : Int)) = true then (1 : Int) else 0), μ2)).bind (fun r2 => if r2.1 = 0 then vr_gd (vr_R (((m + 1 : Nat) : Int) + (-1))) ((fX9_mostMouths_L3 n) x1 (((m + 1 : Nat) : Int) + (-1)) r2.2) else some (((m + 1 : Nat) : Int), r2.2)) := by
      rw [fX9_mostMouths_L3.eq_2, if_neg (by omega), g1]
      simp only [vp_bind]
      have k1' : fX7_staysFed x1 0 (vr_u μ1 52 7 ((m + 1 : Nat) : Int)) = some ((if vy_fed kind v cl wk mv gr 0 x1.toNat (vh_up h 5 2 ((m + 1 : Nat) : Int)) = true then (1 : Int) else 0), μ2) := k1
      rw [k1']
      exact vp_bind
    rw [e0, vp_bind, vy_most]
    by_cases hf : vy_fed kind v cl wk mv gr 0 x1.toNat (vh_up h 5 2 ((m + 1 : Nat) : Int)) = true
    · refine ⟨μ2, ?_, f2, k3⟩
      simp only [hf, if_true]
      rw [if_neg (by decide)]
    · obtain ⟨μ', j1, j2, j3⟩ := ih n μ2 (by omega) (by omega) (hb.fr f2 k3) k4
      refine ⟨μ', ?_, f2.tr j2, j3⟩
      simp only [hf, if_false, if_true]
      rw [vp_gdT (by omega), show ((m + 1 : Nat) : Int) + (-1) = (m : Int) by omega, j1]
      simp
theorem vt_most {μ : vr_M} {h : vh_H} {cl : vl_C} {wk mv gr dr kind v Y : Int} (hY : Y ≤ 99000) {x1 : Int} (hx1 : 0 ≤ x1 ∧ x1 ≤ 300) (hb : vt_B μ h cl wk mv gr dr Y) (hK : vt_K μ kind v) :
    ∃ μ', fX9_mostMouths x1 μ = some (vy_most kind v cl wk mv gr x1.toNat h 99, μ') ∧ vp_fr vt_TR μ μ' ∧ μ' 62 0 = 0 := by
  rw [fX9_mostMouths]
  exact vt_mostL hY hx1 99 9000 μ (by decide) (by decide) hb hK

def vh_mw (h h0 : vh_H) : Bool := (List.range 8).any (fun p => decide ((p : Int) < h 5 0 ∧ h0 4 p < h 4 p))
theorem vh_mw_iff {h h0 : vh_H} : vh_mw h h0 = true ↔ ∃ p : Nat, p < 8 ∧ (p : Int) < h 5 0 ∧ h0 4 p < h 4 p := by
  unfold vh_mw
  rw [List.any_eq_true]
  constructor
  · rintro ⟨p, hp, q⟩
    exact ⟨p, List.mem_range.mp hp, of_decide_eq_true q⟩
  · rintro ⟨p, hp, q⟩
    exact ⟨p, List.mem_range.mpr hp, decide_eq_true q⟩
theorem vt_mwL {μ : vr_M} {h h0 : vh_H} {Y Y' : Int} (hc : vh_c μ 52 = h) (hc0 : vh_c μ 2 = h0) (hw : vh_wf Y h) (hw0 : vh_wf Y' h0) :
    ∀ (d i n : Nat), i + d = 8 → d < n → (∀ p : Nat, p < i → ¬((p : Int) < h 5 0 ∧ h0 4 p < h 4 p)) → fX2_isMoreWornThan_L2 52 2 n (i : Int) μ = some (if vh_mw h h0 = true then 1 else 0, μ) := by
  have e5 : μ 52 5 = h 5 0 := by rw [← hc]; rfl
  have e4 : ∀ p, p < 8 → μ 57 p = h 4 p := fun p hp => by rw [← hc]; unfold vh_c; rw [if_pos (by decide), if_pos hp]
  have e4' : ∀ p, p < 8 → μ 7 p = h0 4 p := fun p hp => by rw [← hc0]; unfold vh_c; rw [if_pos (by decide), if_pos hp]
  intro d
  induction d with
  | zero =>
    intro i n hd hn hp
    obtain ⟨n, rfl⟩ : ∃ m, n = m + 1 := ⟨n - 1, by omega⟩
    have : ¬ vh_mw h h0 = true := fun q => by
      obtain ⟨p, q1, q2⟩ := vh_mw_iff.mp q
      exact hp p (by omega) q2
    rw [fX2_isMoreWornThan_L2.eq_2, if_pos (by omega), if_neg this]
  | succ d ih =>
    intro i n hd hn hp
    obtain ⟨n, rfl⟩ : ∃ m, n = m + 1 := ⟨n - 1, by omega⟩
    have e3 : (i : Int) + 1 = ((i + 1 : Nat) : Int) := by omega
    have w1 := hw.1
    have w4 := (hw.2.2.2.2 i (by omega)).2.2.2.2
    have w4' := (hw0.2.2.2.2 i (by omega)).2.2.2.2
    have a1 := e4 i (by omega)
    have a2 := e4' i (by omega)
    have hB : fX2_isMoreWornThan_B33 52 2 (fX2_isMoreWornThan_L2 52 2 n) (i : Int) μ = fX2_isMoreWornThan_L2 52 2 n ((i + 1 : Nat) : Int) μ := by
      rw [fX2_isMoreWornThan_B33, vp_gdT (by omega), e3]
    rw [fX2_isMoreWornThan_L2.eq_2, if_neg (by omega), vp_gdT (by omega), hB]
    by_cases c1 : μ 52 5 ≤ (i : Int)
    · rw [if_pos c1]
      exact ih (i + 1) n (by omega) (by omega) (fun p hpi => by
        by_cases e : p = i
        · subst e; omega
        · exact hp p (by omega))
    · rw [if_neg c1, vp_gdT (by omega), show ((i : Int)).toNat = i from rfl, show 52 + 5 = 57 from rfl, show 2 + 5 = 7 from rfl, vp_gdT (by omega), vp_gdT (by omega), a1, a2]
      by_cases c2 : h 4 i ≤ h0 4 i
      · rw [if_pos c2]
        exact ih (i + 1) n (by omega) (by omega) (fun p hpi => by
          by_cases e : p = i
          · subst e; omega
          · exact hp p (by omega))
      · rw [if_neg c2, if_pos (vh_mw_iff.mpr ⟨i, by omega, by omega, by omega⟩)]
/-- the least number of plots that keeps the village fed for m years and no plot more worn -/
def vy_less (cl : vl_C) (wk mv gr : Int) (m : Nat) (h : vh_H) : Nat → Nat → Int
  | 0, _ => -5
  | d + 1, i => if vy_fed 2 (i : Int) cl wk mv gr 1 m h = true ∧ vh_mw (vy_hs 2 (i : Int) cl wk mv gr 1 m h) h = false then (i : Int) else vy_less cl wk mv gr m h d (i + 1)
theorem vt_lessL {h : vh_H} {cl : vl_C} {wk mv gr dr Y : Int} (hY : Y ≤ 99000) {x1 : Int} (hx1 : 0 ≤ x1 ∧ x1 ≤ 300) :
    ∀ (d i n : Nat) (μ : vr_M), i + d = 31 → 1 ≤ i → d < n → vt_B μ h cl wk mv gr dr Y →
      ∃ μ', fX9_less_L15 n x1 (i : Int) μ = some (vy_less cl wk mv gr x1.toNat h d i, μ') ∧ vp_fr vt_TR μ μ' ∧ μ' 62 0 = 0 := by
  intro d
  induction d with
  | zero =>
    intro i n μ hd hi hn hb
    obtain ⟨n, rfl⟩ : ∃ m, n = m + 1 := ⟨n - 1, by omega⟩
    refine ⟨μ, ?_, vp_fr.rf, hb.2.2.2⟩
    rw [fX9_less_L15.eq_2, if_pos (by omega)]
    rfl
  | succ d ih =>
    intro i n μ hd hi hn hb
    obtain ⟨n, rfl⟩ : ∃ m, n = m + 1 := ⟨n - 1, by omega⟩
    have e3 : (i : Int) + 1 = ((i + 1 : Nat) : Int) := by omega
    have fk : vp_fr vt_TR μ (vr_u (vr_u μ 58 2 2) 58 3 (i : Int)) := (vp_fr.u (by decide)).tr (vp_fr.u (by decide))
    have hb0 := hb.fr fk (by rw [vp_un (by decide), vp_un (by decide)]; exact hb.2.2.2)
    have hK0 : vt_K (vr_u (vr_u μ 58 2 2) 58 3 (i : Int)) 2 (i : Int) := ⟨by rw [vp_uj (by decide), vp_us], vp_us, by omega, by omega, by omega⟩
    obtain ⟨μ1, g1, g2, g3, g4, g5, g6, g7, g8⟩ := vt_beg (by omega) hb0 hK0
    obtain ⟨μ2, k1, k2, k3, k4, k5⟩ := vt_fedL (x1 := x1) (gw := 1) hx1 x1.toNat 0 9000 μ1 h Y 0 (by omega) (by omega) (by omega) (by omega) g4 g5 g3 g7 g6.2.1
    have f2 : vp_fr vt_TR μ μ2 := (fk.tr g2).tr k2
    have hb2 := hb.fr f2 k3
    have k1' : fX7_staysFed x1 1 μ1 = some (if vy_fed 2 (i : Int) cl wk mv gr 1 x1.toNat h = true then 1 else 0, μ2) := k1
    have hB : fX9_less_B74 (fX9_less_L15 n) x1 (i : Int) μ2 = fX9_less_L15 n x1 ((i + 1 : Nat) : Int) μ2 := by
      rw [fX9_less_B74, vp_gdT (by omega), e3]
    obtain ⟨μ', j1, j2, j3⟩ := ih (i + 1) n μ2 (by omega) (by omega) (by omega) hb2
    have e0 : fX9_less_L15 (n + 1) x1 (i : Int) μ = (if (if vy_fed 2 (i : Int) cl wk mv gr 1 x1.toNat h = true then (1 : Int) else 0) = 0 then fX9_less_B74 (fX9_less_L15 n) x1 (i : Int) μ2 else (fX2_isMoreWornThan 52 2 μ2).bind (fun r5 => if ¬ r5.1 = 0 then fX9_less_B74 (fX9_less_L15 n) x1 (i : Int) r5.2 else some ((i : Int), r5.2))) := by
      rw [fX9_less_L15.eq_2, if_neg (by omega), fX0_follow]
      simp only [vp_bind]
      rw [g1]
      simp only [vp_bind]
      rw [k1']
      exact vp_bind
    rw [e0, hB, vy_less]
    by_cases hf : vy_fed 2 (i : Int) cl wk mv gr 1 x1.toNat h = true
    · obtain ⟨q1, q2⟩ := k5 hf
      have hm := vt_mwL q1 hb2.2.1 q2 hb2.2.2.1 8 0 9000 (by omega) (by omega) (fun p hp => by omega)
      have hm' : fX2_isMoreWornThan 52 2 μ2 = some (if vh_mw (vy_hs 2 (i : Int) cl wk mv gr 1 x1.toNat h) h = true then 1 else 0, μ2) := hm
      rw [if_neg (by rw [if_pos hf]; decide), hm', vp_bind]
      by_cases hw : vh_mw (vy_hs 2 (i : Int) cl wk mv gr 1 x1.toNat h) h = true
      · refine ⟨μ', ?_, f2.tr j2, j3⟩
        simp only [hw, if_true]
        rw [if_pos (by decide), hB, j1]
        simp
      · refine ⟨μ2, ?_, f2, k3⟩
        simp only [hw, if_false]
        rw [if_neg (by decide), if_pos ⟨hf, by simpa using hw⟩]
    · refine ⟨μ', ?_, f2.tr j2, j3⟩
      rw [if_pos (by rw [if_neg hf]), j1, if_neg (fun q => hf q.1)]

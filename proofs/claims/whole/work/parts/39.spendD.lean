def vh_sp (cl : vl_C) (gr gw s to : Int) (h : vh_H) : vh_H :=
  if gw = 0 then vh_up (vh_pp cl s (vh_up h 5 1 to) (h 5 0).toNat) 5 3 (h 5 3 + 1)
  else vh_up (vh_up (vh_pp cl s (vh_up h 5 1 to) (h 5 0).toNat) 5 3 (h 5 3 + 1)) 5 2 (min (h 5 2 + (h 5 2 * gr + 99) / 100) 99)
theorem vh_up1_wf {h : vh_H} {Y to : Int} (hh : vh_wf Y h) (ht : 0 ≤ to ∧ to ≤ 40) : vh_wf Y (vh_up h 5 1 to) := by
  obtain ⟨a, b, c, d, e⟩ := hh
  refine ⟨a, ht, c, d, fun p hp => ?_⟩
  have := e p hp
  simpa [vh_up] using this
theorem vh_mo_in {m gr : Int} (hm : 1 ≤ m ∧ m ≤ 99) (hg : 0 ≤ gr ∧ gr ≤ 99) : 0 ≤ m * gr ∧ m * gr ≤ 9801 := by
  constructor
  · exact Int.mul_nonneg (by omega) hg.1
  · have h1 : m * gr ≤ 99 * gr := Int.mul_le_mul_of_nonneg_right hm.2 hg.1
    omega
theorem vh_sp_wf {cl : vl_C} {gr gw s to Y : Int} {h : vh_H} (hh : vh_wf Y h) (ht : 0 ≤ to ∧ to ≤ 40) (hg : 0 ≤ gr ∧ gr ≤ 99) : vh_wf (Y + 1) (vh_sp cl gr gw s to h) := by
  have h1 := vh_pp_wf (cl := cl) (s := s) (vh_up1_wf hh ht) (p := (h 5 0).toNat) (by have := hh.1; omega)
  have hm := vh_mo_in hh.2.2.1 hg
  have hmo := hh.2.2.1
  have hy := hh.2.2.2.1
  obtain ⟨a, b, c, d, e⟩ := h1
  have h2 : vh_wf (Y + 1) (vh_up (vh_pp cl s (vh_up h 5 1 to) (h 5 0).toNat) 5 3 (h 5 3 + 1)) := by
    refine ⟨a, b, c, ⟨by simp [vh_up]; omega, by simp [vh_up]; omega⟩, fun p hp => ?_⟩
    have := e p hp
    simpa [vh_up] using this
  unfold vh_sp
  split
  · exact h2
  · obtain ⟨a, b, c, d, e⟩ := h2
    refine ⟨a, b, ⟨by simp [vh_up]; omega, by simp [vh_up]; omega⟩, d, fun p hp => ?_⟩
    have := e p hp
    simpa [vh_up] using this
theorem vt_row {μ : vr_M} {k j : Nat} {v : Int} : vr_u μ k j v k = fun b => if b = j then v else μ k b := by
  funext b; simp [vr_u]
/-- what stands ahead of a year's spending -/
def vt_S (μ : vr_M) (h : vh_H) (cl : vl_C) (wk mv gr dr Y : Int) : Prop := vt_L μ cl wk mv gr dr ∧ vh_c μ 52 = h ∧ vh_wf Y h ∧ (0 ≤ μ 51 4 ∧ μ 51 4 ≤ 5000) ∧ (0 ≤ μ 51 5 ∧ μ 51 5 ≤ 5000) ∧ (0 ≤ μ 51 7 ∧ μ 51 7 ≤ 5000)
theorem vt_163 {μ : vr_M} {h : vh_H} {cl : vl_C} {wk mv gr dr Y : Int} (hY : Y ≤ 99998) (hS : vt_S μ h cl wk mv gr dr Y) {s to gw y1 y2 : Int} (hs : 0 ≤ s ∧ s < 256) (ht : 0 ≤ to ∧ to ≤ 40) :
    ∃ μ', fX7_spend_B163 s to gw y1 y2 μ = some (0, μ') ∧ vp_fr [12, 51, 52, 55, 56, 57, 59] μ μ' ∧ vh_c μ' 52 = vh_sp cl gr gw s to h ∧ vh_ripe μ' cl ∧ μ' 51 = fun j => if j = 4 then μ 51 4 + 1 else if j = 7 then y1 + y2 else μ 51 j := by
  obtain ⟨hL, hc, hh, h4, h5, h7⟩ := hS
  have hgr := hL.2.2.2.2.1
  obtain ⟨N, hN⟩ : ∃ N : Nat, h 5 0 = (N : Int) := ⟨(h 5 0).toNat, by have := hh.1; omega⟩
  have hn8 := hh.1
  have hNt : (h 5 0).toNat = N := by omega
  have e4 : vr_u μ 51 7 (y1 + y2) 51 4 = μ 51 4 := vp_uj (by decide)
  generalize hM : vr_u (vr_u μ 51 7 (y1 + y2)) 51 4 (μ 51 4 + 1) = M
  have fM : vp_fr [51] μ M := by rw [← hM]; exact (vp_fr.u (by decide)).tr (vp_fr.u (by decide))
  have rM : M 51 = fun j => if j = 4 then μ 51 4 + 1 else if j = 7 then y1 + y2 else μ 51 j := by
    rw [← hM, vt_row, vt_row]
  have hcM : vh_c M 52 = h := (vh_c_fr (fun j hj => fM _ (by simp; omega))).trans hc
  have hLM := hL.fr fM (by intro i hi; simp; omega)
  have fM2 : vp_fr [51, 52] μ (vr_u M 52 6 to) := (fM.mono (by decide)).tr (vp_fr.u (by decide))
  have hc2 : vh_c (vr_u M 52 6 to) 52 = vh_pp cl s (vh_up h 5 1 to) 0 := by
    rw [show (6 : Nat) = 5 + 1 from rfl, vh_c_u5 (by decide), hcM]; rfl
  obtain ⟨μ1, k1, k2, k3⟩ := vh_passL (cl := cl) (s := s) (Y := Y) (by omega) hL.1 hs (vh_up1_wf hh ht) (N := N) hN N 0 9000 (vr_u M 52 6 to) (by omega) (by omega) (by omega) (hL.fr fM2 (by intro i hi; simp; omega)).2.1 hc2
  have f1 : vp_fr [12, 51, 52, 55, 56, 57] μ μ1 := (fM2.mono (by decide)).tr (k2.mono (by decide))
  have r1 : μ1 51 = M 51 := by rw [k2 51 (by decide), vp_uc (by decide)]
  have hL1 := hL.fr f1 (by intro i hi; simp; omega)
  have hwf := fun g => vh_sp_wf (cl := cl) (gr := gr) (gw := g) (s := s) hh ht hgr.2
  have ff : fX2_pass 52 s to 8 M = some (0, μ1) := by
    unfold fX2_pass
    rw [show ((0 : Nat) : Int) = 0 from rfl] at k1
    exact k1
  rw [show vh_up h 5 1 to 5 3 = h 5 3 from rfl] at k3
  unfold fX7_spend_B163
  rw [vp_let, e4, hM, ff]
  simp only [vp_bind]
  by_cases cg : gw = 0
  · rw [if_pos cg]
    have hc1 : vh_c μ1 52 = vh_sp cl gr gw s to h := by rw [k3]; unfold vh_sp; rw [if_pos cg, hNt]
    obtain ⟨μ', g1, g2, g3⟩ := vh_lookC (cl := cl) (Y := Y + 1) (μ := μ1) (by omega) hL1.1 hL1.2.1 (by rw [hc1]; exact hwf gw)
    refine ⟨μ', ?_, (f1.mono (by decide)).tr (g2.mono (by decide)), (vh_c_fr (fun j hj => g2 _ (by simp; omega))).trans hc1, g3, by rw [g2 51 (by decide), r1, rM]⟩
    unfold fX7_spend_B208
    rw [g1]
    simp only [vp_bind]
  · rw [if_neg cg]
    have hgr1 := hL1.2.2.2.2.1
    have m1 : μ1 52 7 = h 5 2 := by
      have := congrFun (congrFun k3 5) 2
      have e : vh_c μ1 52 5 2 = μ1 52 7 := rfl
      rw [e] at this
      rw [this]
      simp [vh_up, vh_pp5]
    have hmo := vh_mo_in hh.2.2.1 hgr.2
    have hmm := hh.2.2.1
    have td : (h 5 2 * gr + 99).tdiv 100 = (h 5 2 * gr + 99) / 100 := Int.tdiv_eq_ediv_of_nonneg (by omega)
    have gm : fX2_growMouths 52 gr μ1 = some (0, vr_u μ1 52 7 (min (h 5 2 + (h 5 2 * gr + 99) / 100) 99)) := by
      unfold fX2_growMouths
      rw [m1, td, vp_gdT (by omega), vp_gdT (by omega)]
    have f2 : vp_fr [12, 51, 52, 55, 56, 57] μ (vr_u μ1 52 7 (min (h 5 2 + (h 5 2 * gr + 99) / 100) 99)) := f1.tr (vp_fr.u (by decide))
    have hc1 : vh_c (vr_u μ1 52 7 (min (h 5 2 + (h 5 2 * gr + 99) / 100) 99)) 52 = vh_sp cl gr gw s to h := by
      rw [show (7 : Nat) = 5 + 2 from rfl, vh_c_u5 (by decide), k3]; unfold vh_sp; rw [if_neg cg, hNt]
    have hL2 := hL.fr f2 (by intro i hi; simp; omega)
    obtain ⟨μ', g1, g2, g3⟩ := vh_lookC (cl := cl) (Y := Y + 1) (μ := vr_u μ1 52 7 (min (h 5 2 + (h 5 2 * gr + 99) / 100) 99)) (by omega) hL2.1 hL2.2.1 (by rw [hc1]; exact hwf gw)
    refine ⟨μ', ?_, (f2.mono (by decide)).tr (g2.mono (by decide)), (vh_c_fr (fun j hj => g2 _ (by simp; omega))).trans hc1, g3, by rw [g2 51 (by decide), vp_uc (by decide), r1, rM]⟩
    simp only [hgr1.1]
    rw [vp_gdT (by omega), gm]
    simp only [vp_bind]
    unfold fX7_spend_B208
    rw [g1]
    simp only [vp_bind]
theorem vt_S.put {μ : vr_M} {h : vh_H} {cl : vl_C} {wk mv gr dr Y : Int} (hS : vt_S μ h cl wk mv gr dr Y) {j : Nat} {v : Int} (hj : j ≠ 4) (hj7 : j ≠ 7) (hv : j = 5 → 0 ≤ v ∧ v ≤ 5000) : vt_S (vr_u μ 51 j v) h cl wk mv gr dr Y := by
  obtain ⟨hL, hc, hh, h4, h5, h7⟩ := hS
  have f : vp_fr [51] μ (vr_u μ 51 j v) := vp_fr.u (by decide)
  refine ⟨hL.fr f (by intro i hi; simp; omega), (vh_c_fr (fun j hj => f _ (by simp; omega))).trans hc, hh, ?_, ?_, ?_⟩
  · rw [vp_uj (fun q => hj q.symm)]; exact h4
  · by_cases e : j = 5
    · subst e; rw [vp_us]; exact hv rfl
    · rw [vp_uj (fun q => e q.symm)]; exact h5
  · rw [vp_uj (fun q => hj7 q.symm)]; exact h7
theorem vt_144 {μ : vr_M} {h : vh_H} {cl : vl_C} {wk mv gr dr Y : Int} (hY : Y ≤ 99998) (hS : vt_S μ h cl wk mv gr dr Y) {s to gw x4 y1 y2 : Int} (hs : 0 ≤ s ∧ s < 256) (ht : 0 ≤ to ∧ to ≤ 40) (hx : x4 = 0 ∨ x4 = 1) (hy : 0 ≤ y1 + y2 ∧ y1 + y2 ≤ 5000) :
    ∃ μ', fX7_spend_B144 s to gw x4 y1 y2 μ = some (0, μ') ∧ vp_fr [12, 51, 52, 55, 56, 57, 59] μ μ' ∧ vh_c μ' 52 = vh_sp cl gr gw s to h ∧ vh_ripe μ' cl ∧ μ' 51 = fun j => if j = 4 then μ 51 4 + 1 else if j = 7 then μ 51 7 + x4 else if j = 5 then y1 + y2 else μ 51 j := by
  have hS2 := hS.put (j := 5) (v := y1 + y2) (by decide) (by decide) (fun _ => hy)
  have h7 := hS.2.2.2.2.2
  have e7 : vr_u μ 51 5 (y1 + y2) 51 7 = μ 51 7 := vp_uj (by decide)
  have e4 : vr_u μ 51 5 (y1 + y2) 51 4 = μ 51 4 := vp_uj (by decide)
  unfold fX7_spend_B144
  rw [vp_let, e7]
  have fin := fun y => vt_163 hY hS2 (s := s) (to := to) (gw := gw) (y1 := μ 51 7) (y2 := y) hs ht
  rcases hx with rfl | rfl
  · obtain ⟨μ', g1, g2, g3, g4, g5⟩ := fin 0
    refine ⟨μ', ?_, (vp_fr.u (by decide)).tr g2, g3, g4, ?_⟩
    · rw [if_pos rfl, vp_gdT (by omega), g1]
    · rw [g5, e4, vt_row]
  · obtain ⟨μ', g1, g2, g3, g4, g5⟩ := fin 1
    refine ⟨μ', ?_, (vp_fr.u (by decide)).tr g2, g3, g4, ?_⟩
    · rw [if_neg (by decide), vp_gdT (by omega), g1]
    · rw [g5, e4, vt_row]
theorem vt_127 {μ : vr_M} {h : vh_H} {cl : vl_C} {wk mv gr dr Y : Int} (hY : Y ≤ 99998) (hS : vt_S μ h cl wk mv gr dr Y) {s to gw x4 : Int} (hs : 0 ≤ s ∧ s < 256) (ht : 0 ≤ to ∧ to ≤ 40) (hx : x4 = 0 ∨ x4 = 1) (h9 : μ 51 9 = 0 ∨ μ 51 9 = 1) (h54 : μ 51 5 ≤ 4999) :
    ∃ μ', fX7_spend_B127 s to gw x4 μ = some (0, μ') ∧ vp_fr [12, 51, 52, 55, 56, 57, 59] μ μ' ∧ vh_c μ' 52 = vh_sp cl gr gw s to h ∧ vh_ripe μ' cl ∧ μ' 51 = fun j => if j = 4 then μ 51 4 + 1 else if j = 7 then μ 51 7 + x4 else if j = 5 then μ 51 5 + (if μ 51 9 = 0 then 1 else 0) else μ 51 j := by
  have h5 := hS.2.2.2.2.1
  unfold fX7_spend_B127
  by_cases c : μ 51 9 = 0
  · obtain ⟨μ', g1, g⟩ := vt_144 hY hS (gw := gw) (y1 := μ 51 5) (y2 := 1) hs ht hx (by omega)
    refine ⟨μ', ?_, ?_⟩
    · rw [vp_gdT (by omega), if_pos c, vp_gdT (by omega), g1]
    · rw [if_pos c]; exact g
  · obtain ⟨μ', g1, g⟩ := vt_144 hY hS (gw := gw) (y1 := μ 51 5) (y2 := 0) hs ht hx (by omega)
    refine ⟨μ', ?_, ?_⟩
    · rw [vp_gdT (by omega), if_neg c, vp_gdT (by omega), g1]
    · rw [if_neg c]; exact g
def vt_T (T : Nat → Int) (hv wet dry mvd : Int) : Nat → Int := fun j => if j = 4 then T 4 + 1 else if j = 7 then T 7 + mvd else if j = 5 then T 5 + (if wet = 0 then 1 else 0) else if j = 6 then (if wet = 0 ∧ T 5 = 0 then T 4 else T 6) else if j = 10 then dry else if j = 9 then wet else if j = 8 then hv else T j
theorem vt_102 {μ : vr_M} {h : vh_H} {cl : vl_C} {wk mv gr dr Y : Int} (hY : Y ≤ 99998) (hS : vt_S μ h cl wk mv gr dr Y) {s to gw x4 y1 : Int} (hs : 0 ≤ s ∧ s < 256) (ht : 0 ≤ to ∧ to ≤ 40) (hx : x4 = 0 ∨ x4 = 1) (hy : y1 = 0 ∨ y1 = 1) (h9 : μ 51 9 = 0 ∨ μ 51 9 = 1) (h54 : μ 51 5 ≤ 4999) :
    ∃ μ', fX7_spend_B102 s to gw x4 y1 μ = some (0, μ') ∧ vp_fr [12, 51, 52, 55, 56, 57, 59] μ μ' ∧ vh_c μ' 52 = vh_sp cl gr gw s to h ∧ vh_ripe μ' cl ∧ μ' 51 = vt_T (μ 51) (μ 51 8) (μ 51 9) y1 x4 := by
  have hS2 := hS.put (j := 10) (v := y1) (by decide) (by decide) (fun q => by omega)
  have h5 := hS.2.2.2.2.1
  have e9 : vr_u μ 51 10 y1 51 9 = μ 51 9 := vp_uj (by decide)
  have e5 : vr_u μ 51 10 y1 51 5 = μ 51 5 := vp_uj (by decide)
  have e4 : vr_u μ 51 10 y1 51 4 = μ 51 4 := vp_uj (by decide)
  have a9 : vr_u (vr_u μ 51 10 y1) 51 6 (μ 51 4) 51 9 = μ 51 9 := by rw [vp_uj (by decide), e9]
  have a5 : vr_u (vr_u μ 51 10 y1) 51 6 (μ 51 4) 51 5 = μ 51 5 := by rw [vp_uj (by decide), e5]
  unfold fX7_spend_B102
  rw [vp_gdT hy, vp_let, e9, e5, e4]
  have fin1 := vt_127 hY hS2 (gw := gw) hs ht hx (by rw [e9]; exact h9) (by rw [e5]; exact h54)
  have fin2 := vt_127 hY (hS2.put (j := 6) (v := μ 51 4) (by decide) (by decide) (fun q => by omega)) (gw := gw) hs ht hx (by rw [a9]; exact h9) (by rw [a5]; exact h54)
  by_cases c : μ 51 9 = 0
  · by_cases d : μ 51 5 = 0
    · obtain ⟨μ', g1, g2, g3, g4, g5⟩ := fin2
      refine ⟨μ', ?_, ((vp_fr.u (by decide)).tr (vp_fr.u (by decide))).tr g2, g3, g4, ?_⟩
      · rw [vp_gdT (by omega), if_neg (by omega), vp_gdT (by omega), if_neg (by omega), g1]
      · rw [g5, a9, a5]
        funext j
        unfold vt_T
        rw [vt_row, vt_row]
        simp only [c, d]
        (repeat' split) <;> simp_all
    · obtain ⟨μ', g1, g2, g3, g4, g5⟩ := fin1
      refine ⟨μ', ?_, (vp_fr.u (by decide)).tr g2, g3, g4, ?_⟩
      · rw [vp_gdT (by omega), if_neg (by omega), vp_gdT (by omega), if_pos d, g1]
      · rw [g5, e9, e5]
        funext j
        unfold vt_T
        rw [vt_row]
        simp only [c, d]
        (repeat' split) <;> simp_all
  · obtain ⟨μ', g1, g2, g3, g4, g5⟩ := fin1
    refine ⟨μ', ?_, (vp_fr.u (by decide)).tr g2, g3, g4, ?_⟩
    · rw [vp_gdT (by omega), if_pos c, g1]
    · rw [g5, e9, e5]
      funext j
      unfold vt_T
      rw [vt_row]
      simp only [c]
      (repeat' split) <;> simp_all

/-- a year by a set, the village going to a place -/
def vh_co (mv to : Int) (h : vh_H) : Int := if to = h 5 1 then 0 else mv
def vh_ha (cl : vl_C) (wk mv s to : Int) (h : vh_H) : Int := vh_go h cl wk s to - vh_co mv to h
def vh_we (cl : vl_C) (wk mv s to : Int) (h : vh_H) : Int := if vh_ha cl wk mv s to h < h 5 2 then 0 else 1
def vh_dw (cl : vl_C) (wk mv s to : Int) (h : vh_H) : Int := if vh_go h cl wk s to / 2 - vh_co mv to h < h 5 2 then 0 else 1
def vh_mo (to : Int) (h : vh_H) : Int := if to = h 5 1 then 0 else 1
theorem vt_spend {μ : vr_M} {h : vh_H} {cl : vl_C} {wk mv gr dr Y : Int} (hY : Y ≤ 99998) (hS : vt_S μ h cl wk mv gr dr Y) (hr : vh_ripe μ cl) {s to gw : Int} (hs : 0 ≤ s ∧ s < 256) (ht : 0 ≤ to ∧ to ≤ 40) (h54 : μ 51 5 ≤ 4999) :
    ∃ μ', fX7_spend s to gw μ = some (0, μ') ∧ vp_fr [12, 51, 52, 55, 56, 57, 59] μ μ' ∧ vh_c μ' 52 = vh_sp cl gr gw s to h ∧ vh_ripe μ' cl ∧ μ' 51 = vt_T (μ 51) (vh_ha cl wk mv s to h) (vh_we cl wk mv s to h) (vh_dw cl wk mv s to h) (vh_mo to h) := by
  have hL := hS.1
  have hh := hS.2.2.1
  have v0 : μ 52 6 = h 5 1 := by rw [← hS.2.1]; rfl
  have m0 : μ 52 7 = h 5 2 := by rw [← hS.2.1]; rfl
  have hvi := hh.2.1
  have hmo := hh.2.2.1
  have hmv := hL.2.2.2.1
  have hgi := vh_go_in (wk := wk) (s := s) (v := to) hh hL.1
  have hgo := vh_giftOf (μ := μ) (Y := Y) (by omega) hL.1 (by rw [hS.2.1]; exact hh) hr hs ht (by have := hL.2.2.1; omega)
  rw [hS.2.1, hL.2.2.1.1] at hgo
  have hco : 0 ≤ vh_co mv to h ∧ vh_co mv to h ≤ 99 := by unfold vh_co; split <;> omega
  have td : (vh_go h cl wk s to).tdiv 2 = vh_go h cl wk s to / 2 := Int.tdiv_eq_ediv_of_nonneg hgi.1
  have mh : μ 52 7 = h 5 2 := m0
  -- from B34 on
  have b34 : ∀ x4 : Int, x4 = 0 ∨ x4 = 1 → ∃ μ', fX7_spend_B34 s to gw x4 (vh_co mv to h) μ = some (0, μ') ∧ vp_fr [12, 51, 52, 55, 56, 57, 59] μ μ' ∧ vh_c μ' 52 = vh_sp cl gr gw s to h ∧ vh_ripe μ' cl ∧ μ' 51 = vt_T (μ 51) (vh_ha cl wk mv s to h) (vh_we cl wk mv s to h) (vh_dw cl wk mv s to h) x4 := by
    intro x4 hx
    have hS8 := hS.put (j := 8) (v := vh_ha cl wk mv s to h) (by decide) (by decide) (fun q => by omega)
    have e8 : vr_u μ 51 8 (vh_ha cl wk mv s to h) 51 8 = vh_ha cl wk mv s to h := vp_us
    have e7 : vr_u μ 51 8 (vh_ha cl wk mv s to h) 52 7 = h 5 2 := by rw [vp_un (by decide), m0]
    have hha : vh_go h cl wk s to - vh_co mv to h = vh_ha cl wk mv s to h := rfl
    have hhb : -99 ≤ vh_ha cl wk mv s to h ∧ vh_ha cl wk mv s to h ≤ 7920 := by rw [← hha]; omega
    have fin : ∀ w y : Int, w = 0 ∨ w = 1 → y = 0 ∨ y = 1 → ∃ μ', fX7_spend_B102 s to gw x4 y (vr_u (vr_u μ 51 8 (vh_ha cl wk mv s to h)) 51 9 w) = some (0, μ') ∧ vp_fr [12, 51, 52, 55, 56, 57, 59] μ μ' ∧ vh_c μ' 52 = vh_sp cl gr gw s to h ∧ vh_ripe μ' cl ∧ μ' 51 = vt_T (μ 51) (vh_ha cl wk mv s to h) w y x4 := by
      intro w y hw hy
      obtain ⟨μ', g1, g2, g3, g4, g5⟩ := vt_102 hY (hS8.put (j := 9) (v := w) (by decide) (by decide) (fun q => by omega)) (gw := gw) hs ht hx hy (by rw [vp_us]; exact hw) (by rw [vp_uj (by decide), vp_uj (by decide)]; exact h54)
      refine ⟨μ', g1, ((vp_fr.u (by decide)).tr (vp_fr.u (by decide))).tr g2, g3, g4, ?_⟩
      rw [g5, vp_us, vp_uj (by decide), vp_us, vt_row, vt_row]
      funext j
      unfold vt_T
      simp only
      (repeat' split) <;> simp_all
    unfold fX7_spend_B34
    rw [hgo]
    simp only [vp_bind, vp_let, hha, e8, e7]
    rw [vp_gdT (by omega), vp_gdT (by omega)]
    have b76 : ∀ w : Int, w = 0 ∨ w = 1 → ∃ μ', fX7_spend_B76 s to gw x4 (vh_co mv to h) (vh_go h cl wk s to) w (vr_u μ 51 8 (vh_ha cl wk mv s to h)) = some (0, μ') ∧ vp_fr [12, 51, 52, 55, 56, 57, 59] μ μ' ∧ vh_c μ' 52 = vh_sp cl gr gw s to h ∧ vh_ripe μ' cl ∧ μ' 51 = vt_T (μ 51) (vh_ha cl wk mv s to h) w (vh_dw cl wk mv s to h) x4 := by
      intro w hw
      have e77 : vr_u (vr_u μ 51 8 (vh_ha cl wk mv s to h)) 51 9 w 52 7 = h 5 2 := by rw [vp_un (by decide), e7]
      unfold fX7_spend_B76
      rw [vp_gdT hw, vp_let, td, e77, vp_gdT (by omega), vp_gdT (by omega)]
      unfold vh_dw
      by_cases c : vh_go h cl wk s to / 2 - vh_co mv to h < h 5 2
      · rw [if_pos c, if_pos c]; exact fin w 0 hw (Or.inl rfl)
      · rw [if_neg c, if_neg c]; exact fin w 1 hw (Or.inr rfl)
    unfold vh_we
    by_cases c : vh_ha cl wk mv s to h < h 5 2
    · rw [if_pos c, if_pos c]; exact b76 0 (Or.inl rfl)
    · rw [if_neg c, if_neg c]; exact b76 1 (Or.inr rfl)
  unfold fX7_spend fX7_spend_B16
  rw [v0, vp_gdT (by omega)]
  by_cases c : to = h 5 1
  · have := b34 0 (Or.inl rfl)
    have e1 : vh_co mv to h = 0 := by unfold vh_co; rw [if_pos c]
    have e2 : vh_mo to h = 0 := by unfold vh_mo; rw [if_pos c]
    rw [e1] at this
    rw [e2, if_pos c, if_pos rfl]
    exact this
  · have := b34 1 (Or.inr rfl)
    have e1 : vh_co mv to h = mv := by unfold vh_co; rw [if_neg c]
    have e2 : vh_mo to h = 1 := by unfold vh_mo; rw [if_neg c]
    rw [e1] at this
    rw [e2, if_neg c, if_neg (by decide), hmv.1, vp_gdT (by omega)]
    exact this

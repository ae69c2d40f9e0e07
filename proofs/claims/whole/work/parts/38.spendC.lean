def vh_up (h : vh_H) (f p : Nat) (v : Int) : vh_H := fun a b => if a = f ∧ b = p then v else h a b
theorem vh_c_uf {μ : vr_M} {k f p : Nat} {v : Int} (hf : f < 5) (hp : p < 8) : vh_c (vr_u μ (k + 1 + f) p v) k = vh_up (vh_c μ k) f p v := by
  funext a b
  unfold vh_c vh_up vr_u
  by_cases ha : a < 5
  · by_cases hb : b < 8
    · by_cases e : a = f ∧ b = p
      · obtain ⟨rfl, rfl⟩ := e
        simp [hf, hp]
      · have : ¬ (k + 1 + a = k + 1 + f ∧ b = p) := by omega
        simp only [ha, hb, if_true, e, this, if_false]
    · have : ¬ (a = f ∧ b = p) := by omega
      simp only [ha, hb, if_true, if_false, this]
  · have h1 : ¬ (a = f ∧ b = p) := by omega
    have h2 : ¬ (k = k + 1 + f ∧ 5 + b = p) := by omega
    simp only [ha, if_false, h1, h2]
theorem vh_c_u5 {μ : vr_M} {k j : Nat} {v : Int} (hj : j < 4) : vh_c (vr_u μ k (5 + j) v) k = vh_up (vh_c μ k) 5 j v := by
  funext a b
  unfold vh_c vh_up vr_u
  by_cases ha : a < 5
  · have h1 : ¬ (a = 5 ∧ b = j) := by omega
    have h2 : ¬ (k + 1 + a = k ∧ b = j) := by omega
    have h3 : ¬ (k + 1 + a = k ∧ b = 5 + j) := by omega
    simp only [ha, if_true, h1, h3, if_false]
  · by_cases e : a = 5 ∧ b = j
    · obtain ⟨rfl, rfl⟩ := e
      simp [hj]
    · have : ¬ (5 + b = 5 + j ∧ a = 5) := by omega
      by_cases h5 : a = 5 ∧ b < 4
      · obtain ⟨rfl, hb⟩ := h5
        have h6 : ¬ b = j := fun q => e ⟨rfl, q⟩
        simp [hb, h6]
      · simp only [ha, if_false, h5, e]
/-- the plots of a year, one behind the other -/
def vh_pp (cl : vl_C) (s : Int) (h : vh_H) : Nat → vh_H
  | 0 => h
  | p + 1 => if vp_bit s p then vh_up (vh_up (vh_pp cl s h p) 4 p (vh_wt (vh_pp cl s h p) cl p)) 2 p (vh_pp cl s h p 2 p + 1)
      else if 0 < vh_pp cl s h p 2 p then vh_up (vh_up (vh_pp cl s h p) 2 p 0) 3 p 0
      else vh_up (vh_pp cl s h p) 3 p (min (vh_pp cl s h p 3 p + 1) 30)
theorem vh_pp_s {cl : vl_C} {s : Int} {h : vh_H} {p : Nat} : vh_pp cl s h (p + 1) = (if vp_bit s p then vh_up (vh_up (vh_pp cl s h p) 4 p (vh_wt (vh_pp cl s h p) cl p)) 2 p (vh_pp cl s h p 2 p + 1) else if 0 < vh_pp cl s h p 2 p then vh_up (vh_up (vh_pp cl s h p) 2 p 0) 3 p 0 else vh_up (vh_pp cl s h p) 3 p (min (vh_pp cl s h p 3 p + 1) 30)) := rfl
theorem vh_pp5 {cl : vl_C} {s : Int} {h : vh_H} {j : Nat} : ∀ p : Nat, vh_pp cl s h p 5 j = h 5 j
  | 0 => rfl
  | p + 1 => by
    have ih := vh_pp5 (cl := cl) (s := s) (h := h) (j := j) p
    unfold vh_pp
    (repeat' split) <;> simp [vh_up, ih]
theorem vh_wt_in2 {h : vh_H} {cl : vl_C} {p : Nat} (hh : 0 ≤ h 4 p ∧ h 4 p ≤ 9) : 0 ≤ vh_wt h cl p ∧ vh_wt h cl p ≤ 9 := by
  unfold vh_wt
  (repeat' split) <;> omega
theorem vh_pp_in {cl : vl_C} {s : Int} {h : vh_H} {Y : Int} (hh : vh_wf Y h) : ∀ p : Nat, p ≤ 8 → ∀ q, q < 8 → (0 ≤ vh_pp cl s h p 0 q ∧ vh_pp cl s h p 0 q ≤ 3) ∧ (0 ≤ vh_pp cl s h p 1 q ∧ vh_pp cl s h p 1 q ≤ 40) ∧ (0 ≤ vh_pp cl s h p 2 q ∧ vh_pp cl s h p 2 q ≤ Y + 1 ∧ (p ≤ q → vh_pp cl s h p 2 q ≤ Y)) ∧ (0 ≤ vh_pp cl s h p 3 q ∧ vh_pp cl s h p 3 q ≤ 30) ∧ (0 ≤ vh_pp cl s h p 4 q ∧ vh_pp cl s h p 4 q ≤ 9)
  | 0, _, q, hq => by
    obtain ⟨a, b, c, d, e⟩ := hh.2.2.2.2 q hq
    exact ⟨a, b, ⟨c.1, by show h 2 q ≤ Y + 1; omega, fun _ => c.2⟩, d, e⟩
  | p + 1, hp, q, hq => by
    obtain ⟨a, b, c, d, e⟩ := vh_pp_in (cl := cl) (s := s) hh p (by omega) q hq
    obtain ⟨a', b', c', d', e'⟩ := vh_pp_in (cl := cl) (s := s) hh p (by omega) p (by omega)
    have hw := vh_wt_in2 (cl := cl) e'
    have hY0 : 0 ≤ Y := by have := hh.2.2.2.1; omega
    have hc' := c'.2.2 (Nat.le_refl p)
    unfold vh_pp
    by_cases e1 : q = p
    · subst e1
      (repeat' split) <;> simp [vh_up] <;> omega
    · (repeat' split) <;> simp [vh_up, e1] <;> omega
theorem vh_pp_wf {cl : vl_C} {s : Int} {h : vh_H} {Y : Int} (hh : vh_wf Y h) {p : Nat} (hp : p ≤ 8) : vh_wf (Y + 1) (vh_pp cl s h p) := by
  have h3 := hh.2.2.2.1
  refine ⟨by rw [vh_pp5]; exact hh.1, by rw [vh_pp5]; exact hh.2.1, by rw [vh_pp5]; exact hh.2.2.1, by rw [vh_pp5]; omega, fun q hq => ?_⟩
  obtain ⟨a, b, c, d, e⟩ := vh_pp_in (cl := cl) (s := s) hh p hp q hq
  exact ⟨a, b, ⟨c.1, c.2.1⟩, d, e⟩
theorem vp_wornC2 {p : Nat} {μ : vr_M} {cl : vl_C} {Y : Int} (hY : Y ≤ 100000) (hw : vl_wf cl) (ha : vl_at 8 μ cl) {h : vh_H} (hc : vh_c μ 52 = h) (hh : vh_wf Y h) (hp : (p : Int) < h 5 0) :
    ∃ μ', fX3_wornWhenBurnt 8 52 (p : Int) μ = some (vh_wt h cl p, μ') ∧ vp_fr [12] μ μ' := by
  subst hc
  exact vh_wornC hY hw ha hh hp
theorem vh_passL {cl : vl_C} {s : Int} {Y : Int} (hY : Y ≤ 99999) (hw : vl_wf cl) (hs : 0 ≤ s ∧ s < 256) {h : vh_H} (hh : vh_wf Y h) {N : Nat} (hN : h 5 0 = (N : Int)) :
    ∀ (d p n : Nat) (μ : vr_M), N - p = d → p ≤ N → N < p + n → vl_at 8 μ cl → vh_c μ 52 = vh_pp cl s h p →
      ∃ μ', fX2_pass_L8 52 8 n s (p : Int) μ = some (0, μ') ∧ vp_fr [12, 52, 55, 56, 57] μ μ' ∧ vh_c μ' 52 = vh_up (vh_pp cl s h N) 5 3 (h 5 3 + 1) := by
  intro d
  induction d with
  | zero =>
    intro p n μ hd hp hn ha hc
    obtain ⟨n, rfl⟩ : ∃ m, n = m + 1 := ⟨n - 1, by omega⟩
    have : p = N := by omega
    subst this
    have n0 : μ 52 5 = h 5 0 := by rw [← vh_pp5 (cl := cl) (s := s) (h := h) p, ← hc]; rfl
    have y0 : μ 52 8 = h 5 3 := by rw [← vh_pp5 (cl := cl) (s := s) (h := h) p, ← hc]; rfl
    have hn8 := hh.1
    refine ⟨vr_u μ 52 8 (h 5 3 + 1), ?_, vp_fr.u (by decide), by rw [show (8 : Nat) = 5 + 3 from rfl, vh_c_u5 (by decide), hc]⟩
    rw [fX2_pass_L8.eq_2, n0, hN]
    unfold fX2_pass_B117
    rw [y0]
    by_cases c : 8 ≤ (p : Int)
    · rw [if_pos c]
    · rw [if_neg c, vp_gdT (by omega), if_pos (by omega)]
  | succ d ih =>
    intro p n μ hd hp hn ha hc
    obtain ⟨n, rfl⟩ : ∃ m, n = m + 1 := ⟨n - 1, by omega⟩
    have n0 : μ 52 5 = h 5 0 := by rw [← vh_pp5 (cl := cl) (s := s) (h := h) p, ← hc]; rfl
    have hn8 := hh.1
    have hp8 : p < 8 := by omega
    have hpw := vh_pp_wf (cl := cl) (s := s) hh (p := p) (by omega)
    obtain ⟨b0, b1, b2, b3, b4⟩ := vh_pp_in (cl := cl) (s := s) hh p (by omega) p hp8
    have b22 := b2.2.2 (Nat.le_refl p)
    have e1 : ((p : Int)).toNat = p := rfl
    have e3 : (p : Int) + 1 = ((p + 1 : Nat) : Int) := by omega
    have c2 : μ 55 p = vh_pp cl s h p 2 p := by rw [← hc]; simp [vh_c, hp8]
    have c3 : μ 56 p = vh_pp cl s h p 3 p := by rw [← hc]; simp [vh_c, hp8]
    have step : ∃ μ1, fX2_pass_L8 52 8 (n + 1) s (p : Int) μ = fX2_pass_L8 52 8 n s ((p + 1 : Nat) : Int) μ1 ∧ vp_fr [12, 52, 55, 56, 57] μ μ1 ∧ vh_c μ1 52 = vh_pp cl s h (p + 1) := by
      by_cases c : vp_bit s p = true
      · obtain ⟨μ1, k1, k2⟩ := vp_wornC2 (p := p) (by omega : Y + 1 ≤ 100000) hw ha hc hpw (by rw [vh_pp5]; omega)
        have hc1 : vh_c μ1 52 = vh_pp cl s h p := (vh_c_fr (fun j hj => k2 _ (by simp; omega))).trans hc
        refine ⟨vr_u (vr_u μ1 57 p (vh_wt (vh_pp cl s h p) cl p)) 55 p (vh_pp cl s h p 2 p + 1), ?_, (k2.mono (by decide)).tr ((vp_fr.u (by decide)).tr (vp_fr.u (by decide))), ?_⟩
        · rw [fX2_pass_L8.eq_2, n0, hN, vp_and_bit hs hp8, c]
          rw [if_neg (by omega), vp_gdT (by omega), if_neg (by omega), if_neg (by decide), k1]
          simp only [vp_bind, vp_let, e1]
          unfold fX2_pass_B111
          rw [vp_gdT (by omega), vp_gdT (by omega), e3]
          have : vr_u μ1 57 p (vh_wt (vh_pp cl s h p) cl p) (52 + 3) p = vh_pp cl s h p 2 p := by
            show vr_u μ1 57 p _ 55 p = _
            rw [vp_un (by decide), k2 55 (by decide), c2]
          rw [this]
        · rw [show (55 : Nat) = 52 + 1 + 2 from rfl, vh_c_uf (by decide) hp8, show (57 : Nat) = 52 + 1 + 4 from rfl, vh_c_uf (by decide) hp8, hc1]
          rw [vh_pp_s, if_pos c]
      · have cf : vp_bit s p = false := by simpa using c
        by_cases d0 : 0 < vh_pp cl s h p 2 p
        · refine ⟨vr_u (vr_u μ 55 p 0) 56 p 0, ?_, (vp_fr.u (by decide)).tr (vp_fr.u (by decide)), ?_⟩
          · rw [fX2_pass_L8.eq_2, n0, hN, vp_and_bit hs hp8, cf]
            rw [if_neg (by omega), vp_gdT (by omega), if_neg (by omega), if_pos (by decide), vp_gdT (by omega), e1]
            simp only [Nat.reduceAdd, c2]
            rw [vp_gdT (by omega), if_neg (by omega)]
            unfold fX2_pass_B111
            rw [vp_gdT (by omega), e3]
          · rw [show (56 : Nat) = 52 + 1 + 3 from rfl, vh_c_uf (by decide) hp8, show (55 : Nat) = 52 + 1 + 2 from rfl, vh_c_uf (by decide) hp8, hc]
            rw [vh_pp_s, if_neg c, if_pos d0]
        · refine ⟨vr_u μ 56 p (min (vh_pp cl s h p 3 p + 1) 30), ?_, vp_fr.u (by decide), ?_⟩
          · rw [fX2_pass_L8.eq_2, n0, hN, vp_and_bit hs hp8, cf]
            rw [if_neg (by omega), vp_gdT (by omega), if_neg (by omega), if_pos (by decide), vp_gdT (by omega), e1]
            simp only [Nat.reduceAdd, c2, c3]
            rw [vp_gdT (by omega), if_pos (by omega), vp_gdT (by omega)]
            unfold fX2_pass_B111
            rw [vp_gdT (by omega), e3]
          · rw [show (56 : Nat) = 52 + 1 + 3 from rfl, vh_c_uf (by decide) hp8, hc]
            rw [vh_pp_s, if_neg c, if_neg d0]
    obtain ⟨μ1, k1, k2, k3⟩ := step
    obtain ⟨μ', g1, g2, g3⟩ := ih (p + 1) n μ1 (by omega) (by omega) (by omega) (vl_at_fr ha (k2 8 (by decide)) (k2 9 (by decide)) (k2 10 (by decide)) (k2 11 (by decide))) k3
    exact ⟨μ', by rw [k1]; exact g1, k2.tr g2, g3⟩

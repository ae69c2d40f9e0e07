theorem vm_hu {μ : vr_M} {f p : Nat} {v : Int} (hf : f < 5) (hp : p < 8) : vm_h (vr_u μ 69 (130 + 8 * f + p) v) = vh_up (vm_h μ) f p v := by
  funext a b
  simp only [vm_h, vh_up]
  by_cases ha : a < 5
  · by_cases hb : b < 8
    · rw [if_pos ha, if_pos hb, if_pos ha, if_pos hb, vp_u]
      by_cases e : a = f ∧ b = p
      · rw [if_pos e, if_pos (by omega)]
      · rw [if_neg e, if_neg (by omega)]
    · rw [if_pos ha, if_neg hb, if_pos ha, if_neg hb, if_neg (by omega)]
  · rw [if_neg ha, if_neg ha, if_neg (show ¬ (a = f ∧ b = p) by omega), vp_uj (by omega), vp_uj (by omega), vp_uj (by omega), vp_uj (by omega)]
def vm_sl (j : Nat) : Nat := if j = 0 then 0 else if j = 1 then 7 else if j = 2 then 8 else 3
theorem vm_hs {μ : vr_M} {j : Nat} {v : Int} (hj : j < 4) : vm_h (vr_u μ 69 (vm_sl j) v) = vh_up (vm_h μ) 5 j v := by
  have hs : vm_sl j < 9 := by unfold vm_sl; split; omega; split; omega; split <;> omega
  funext a b
  by_cases ha : a < 5
  · simp only [vm_h, vh_up]
    rw [if_pos ha, if_pos ha, if_neg (show ¬ (a = 5 ∧ b = j) by omega), vp_uj (by omega)]
  · by_cases h5 : a = 5
    · subst h5
      rcases (show j = 0 ∨ j = 1 ∨ j = 2 ∨ j = 3 by omega) with rfl | rfl | rfl | rfl <;>
        (unfold vm_h vh_up vm_sl vr_u
         by_cases b0 : b = 0
         · subst b0; simp
         · by_cases b1 : b = 1
           · subst b1; simp
           · by_cases b2 : b = 2
             · subst b2; simp
             · by_cases b3 : b = 3
               · subst b3; simp
               · simp [b0, b1, b2, b3])
    · simp only [vm_h, vh_up]
      rw [if_neg ha, if_neg h5, if_neg ha, if_neg h5, if_neg (show ¬ (a = 5 ∧ b = j) by omega)]
theorem vh_wt_up {h : vh_H} {cl : vl_C} {p j : Nat} {v : Int} : vh_wt (vh_up h 5 j v) cl p = vh_wt h cl p := by
  have e : ∀ (f q : Nat), f < 5 → vh_up h 5 j v f q = h f q := by
    intro f q hf
    unfold vh_up
    rw [if_neg (by omega)]
  have hs : ∀ c w, vh_sn (vh_up h 5 j v) p c w = vh_sn h p c w := by
    intro c w
    unfold vh_sn
    rw [e 3 p (by decide), e 0 p (by decide), e 1 p (by decide)]
  unfold vh_wt
  rw [hs, e 2 p (by decide), e 4 p (by decide)]
theorem vh_up_cm {h : vh_H} {f p j : Nat} {v u : Int} (hf : f < 5) : vh_up (vh_up h 5 j v) f p u = vh_up (vh_up h f p u) 5 j v := by
  funext a b
  unfold vh_up
  by_cases e1 : a = f ∧ b = p
  · rw [if_pos e1, if_neg (by omega), if_pos e1]
  · rw [if_neg e1]
    by_cases e2 : a = 5 ∧ b = j
    · rw [if_pos e2, if_pos e2]
    · rw [if_neg e2, if_neg e2, if_neg e1]
/-- the village may be set before the pass or after it -/
theorem vh_pp_up {h : vh_H} {cl : vl_C} {s : Int} {j : Nat} {v : Int} : ∀ p : Nat, vh_pp cl s (vh_up h 5 j v) p = vh_up (vh_pp cl s h p) 5 j v
  | 0 => rfl
  | p + 1 => by
    have ih := vh_pp_up (h := h) (cl := cl) (s := s) (j := j) (v := v) p
    have e : ∀ (f q : Nat), f < 5 → vh_up (vh_pp cl s h p) 5 j v f q = vh_pp cl s h p f q := by
      intro f q hf
      unfold vh_up
      rw [if_neg (by omega)]
    rw [vh_pp_s, vh_pp_s, ih, vh_wt_up, e 2 p (by decide), e 3 p (by decide)]
    split
    · rw [vh_up_cm (by decide), vh_up_cm (by decide)]
    · split
      · rw [vh_up_cm (by decide), vh_up_cm (by decide)]
      · rw [vh_up_cm (by decide)]
/-- what a year touches in the reference's row of numbers -/
def vm_hi (j : Nat) : Prop := j = 3 ∨ j = 7 ∨ j = 8 ∨ 130 ≤ j ∧ j < 170
/-- what the reference's questions leave as it was -/
def vm_Z (μ μ' : vr_M) : Prop := vp_fr [68, 72, 73, 74] μ μ' ∧ ∀ j, j < 12 ∨ 18 < j → μ' 68 j = μ 68 j
def vm_X (μ μ' : vr_M) : Prop := vp_fr [68, 69, 72, 73, 74] μ μ' ∧ (∀ j, j < 12 ∨ 18 < j → μ' 68 j = μ 68 j) ∧ ∀ j, ¬ vm_hi j → μ' 69 j = μ 69 j
theorem vm_Z.rf {μ : vr_M} : vm_Z μ μ := ⟨vp_fr.rf, fun _ _ => rfl⟩
theorem vm_X.rf {μ : vr_M} : vm_X μ μ := ⟨vp_fr.rf, fun _ _ => rfl, fun _ _ => rfl⟩
theorem vm_Z.tr {μ μ1 μ' : vr_M} (h : vm_Z μ μ1) (g : vm_Z μ1 μ') : vm_Z μ μ' := ⟨h.1.tr g.1, fun j hj => (g.2 j hj).trans (h.2 j hj)⟩
theorem vm_X.tr {μ μ1 μ' : vr_M} (h : vm_X μ μ1) (g : vm_X μ1 μ') : vm_X μ μ' := ⟨h.1.tr g.1, fun j hj => (g.2.1 j hj).trans (h.2.1 j hj), fun j hj => (g.2.2 j hj).trans (h.2.2 j hj)⟩
theorem vm_Z.s {μ μ' : vr_M} (h : vm_Z μ μ') : μ' 69 = μ 69 := h.1 69 (by decide)
theorem vm_Z.x {μ μ' : vr_M} (h : vm_Z μ μ') : vm_X μ μ' := ⟨h.1.mono (by decide), h.2, fun j _ => by rw [h.s]⟩
theorem vm_Z.of {μ μ' : vr_M} (h : vp_fr [68, 72, 73] μ μ') (g : ∀ j, j ≠ 12 → j ≠ 13 → μ' 68 j = μ 68 j) : vm_Z μ μ' := ⟨h.mono (by decide), fun j hj => g j (by omega) (by omega)⟩
theorem vm_X.h {μ : vr_M} {f p : Nat} {v : Int} (hf : f < 5) (hp : p < 8) : vm_X μ (vr_u μ 69 (130 + 8 * f + p) v) := by
  refine ⟨vp_fr.u (by decide), fun j _ => ?_, fun j hj => ?_⟩
  · rw [vp_un (by decide)]
  · unfold vm_hi at hj
    rw [vp_uj (by omega)]
theorem vm_X.sl {μ : vr_M} {j : Nat} {v : Int} (hj0 : j ≠ 0) : vm_X μ (vr_u μ 69 (vm_sl j) v) := by
  have : vm_sl j = 3 ∨ vm_sl j = 7 ∨ vm_sl j = 8 := by unfold vm_sl; split; omega; split; omega; split <;> omega
  refine ⟨vp_fr.u (by decide), fun j _ => ?_, fun j hj => ?_⟩
  · rw [vp_un (by decide)]
  · unfold vm_hi at hj
    rw [vp_uj (by omega)]
theorem vm_Z.u {μ : vr_M} {j : Nat} {v : Int} (hj : 12 ≤ j ∧ j ≤ 18) : vm_Z μ (vr_u μ 68 j v) := ⟨vp_fr.u (by decide), fun i hi => by rw [vp_uj (by omega)]⟩
theorem vm_at.x {μ μ' : vr_M} {cl : vl_C} (h : vm_at μ cl) (e : ∀ j, ¬ vm_hi j → μ' 69 j = μ 69 j) : vm_at μ' cl := by
  obtain ⟨h1, h2, h3⟩ := h
  refine ⟨h1, h2, ?_⟩
  rw [e 9 (by unfold vm_hi; omega)]
  rcases h3 with h3 | ⟨A, a1, a2, a3, a4⟩
  · exact Or.inl h3
  · refine Or.inr ⟨A, a1, a2, ?_, fun i hi => ?_⟩
    · rw [e _ (by unfold vm_hi; omega)]; exact a3
    · rw [e _ (by unfold vm_hi; omega)]; exact a4 i hi
theorem vm_L.x {μ μ' : vr_M} {cl : vl_C} {wk mv gr dr : Int} (h : vm_L μ cl wk mv gr dr) (e : vm_X μ μ') : vm_L μ' cl wk mv gr dr := by
  obtain ⟨h1, h2, h3⟩ := h
  have e := e.2.2
  refine ⟨h1.x e, ?_, h3⟩
  rw [e 9 (by unfold vm_hi; omega)]
  rcases h2 with h2 | ⟨A, a1, a2, a3, a4, a5, a6⟩
  · exact Or.inl h2
  · refine Or.inr ⟨A, a1, a2, ?_, ?_, ?_, ?_⟩
    · rw [e _ (by unfold vm_hi; omega)]; exact a3
    · rw [e _ (by unfold vm_hi; omega)]; exact a4
    · rw [e _ (by unfold vm_hi; omega)]; exact a5
    · rw [e _ (by unfold vm_hi; omega)]; exact a6
theorem vm_L.z {μ μ' : vr_M} {cl : vl_C} {wk mv gr dr : Int} (h : vm_L μ cl wk mv gr dr) (e : vm_Z μ μ') : vm_L μ' cl wk mv gr dr := h.x e.x

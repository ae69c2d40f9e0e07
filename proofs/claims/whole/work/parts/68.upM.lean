theorem vm_hu {μ : vr_M} {f p : Nat} {v : Int} (hf : f < 5) (hp : p < 8) : vm_h (vr_u μ 69 (130 + 8 * f + p) v) = vh_up (vm_h μ) f p v := by
  funext a b
  unfold vm_h vh_up
  by_cases ha : a < 5
  · by_cases hb : b < 8
    · rw [if_pos ha, if_pos hb, if_pos ha, if_pos hb, vp_u]
      by_cases e : a = f ∧ b = p
      · rw [if_pos e, if_pos (by omega)]
      · rw [if_neg e, if_neg (by omega)]
    · rw [if_pos ha, if_neg hb, if_pos ha, if_neg hb, if_neg (by omega)]
  · rw [if_neg ha, if_neg ha, if_neg (show ¬ (a = f ∧ b = p) by omega), vp_uj (by omega), vp_uj (by omega), vp_uj (by omega), vp_uj (by omega)]
def vm_sl (j : Nat) : Nat := if j = 0 then 0 else if j = 1 then 7 else if j = 2 then 8 else 3
theorem vm_hs {μ : vr_M} {j : Nat} {v : Int} (hj : j < 4) : vm_h (vr_u μ 69 (vm_sl j) v) = vh_up (vm_h μ) 5 j v := by
  have hs : vm_sl j < 9 := by unfold vm_sl; split; omega; split; omega; split <;> omega
  funext a b
  by_cases ha : a < 5
  · unfold vm_h vh_up
    rw [if_pos ha, if_pos ha, if_neg (by omega), vp_uj (by omega)]
  · by_cases h5 : a = 5
    · subst h5
      rcases (show j = 0 ∨ j = 1 ∨ j = 2 ∨ j = 3 by omega) with rfl | rfl | rfl | rfl <;>
        (unfold vm_h vh_up vm_sl vr_u
         by_cases b0 : b = 0
         · subst b0; simp
         · by_cases b1 : b = 1
           · subst b1; simp
           · by_cases b2 : b = 2
             · subst b2; simp
             · by_cases b3 : b = 3
               · subst b3; simp
               · simp [b0, b1, b2, b3])
    · unfold vm_h vh_up
      rw [if_neg ha, if_neg h5, if_neg ha, if_neg h5, if_neg (by omega)]
theorem vh_wt_up {h : vh_H} {cl : vl_C} {p j : Nat} {v : Int} : vh_wt (vh_up h 5 j v) cl p = vh_wt h cl p := by
  have e : ∀ (f q : Nat), f < 5 → vh_up h 5 j v f q = h f q := by
    intro f q hf
    unfold vh_up
    rw [if_neg (by omega)]
  have hs : ∀ c w, vh_sn (vh_up h 5 j v) p c w = vh_sn h p c w := by
    intro c w
    unfold vh_sn
    rw [e 3 p (by decide), e 0 p (by decide), e 1 p (by decide)]
  unfold vh_wt
  rw [hs, e 2 p (by decide), e 4 p (by decide)]
theorem vh_up_cm {h : vh_H} {f p j : Nat} {v u : Int} (hf : f < 5) : vh_up (vh_up h 5 j v) f p u = vh_up (vh_up h f p u) 5 j v := by
  funext a b
  unfold vh_up
  by_cases e1 : a = f ∧ b = p
  · rw [if_pos e1, if_neg (by omega), if_pos e1]
  · rw [if_neg e1]
    by_cases e2 : a = 5 ∧ b = j
    · rw [if_pos e2, if_pos e2]
    · rw [if_neg e2, if_neg e2, if_neg e1]
/-- the village may be set before the pass or after it -/
theorem vh_pp_up {h : vh_H} {cl : vl_C} {s : Int} {j : Nat} {v : Int} : ∀ p : Nat, vh_pp cl s (vh_up h 5 j v) p = vh_up (vh_pp cl s h p) 5 j v
  | 0 => rfl
  | p + 1 => by
    have ih := vh_pp_up (h := h) (cl := cl) (s := s) (j := j) (v := v) p
    have e : ∀ (f q : Nat), f < 5 → vh_up (vh_pp cl s h p) 5 j v f q = vh_pp cl s h p f q := by
      intro f q hf
      unfold vh_up
      rw [if_neg (by omega)]
    rw [vh_pp_s, vh_pp_s, ih, vh_wt_up, e 2 p (by decide), e 3 p (by decide)]
    split
    · rw [vh_up_cm (by decide), vh_up_cm (by decide)]
    · split
      · rw [vh_up_cm (by decide), vh_up_cm (by decide)]
      · rw [vh_up_cm (by decide)]

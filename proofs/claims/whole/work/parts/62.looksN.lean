def vm_b (b : Bool) : Int := if b = true then 1 else 0
theorem vm_not {μ : vr_M} {x4 x5 : Int} {x7 : Nat} {n : Nat} {a : Bool} {r : List Bool} (hm : μ 69 x7 = -1) (hx : (x7 : Int) < x5 + x4 ∧ x5 + x4 ≤ 933) (hst : r.length < 60) (hs : vm_stk μ (a :: r)) :
    ∃ μ', fX10_looks_L106 (n + 1) x4 x5 ((a :: r).length : Int) (x7 : Int) μ = fX10_looks_L106 n x4 x5 (((!a) :: r).length : Int) ((x7 + 1 : Nat) : Int) μ' ∧ vp_fr [73] μ μ' ∧ vm_stk μ' ((!a) :: r) := by
  obtain ⟨t1, t2⟩ := vm_stk_top hs
  have e3 : (x7 : Int) + 1 = ((x7 + 1 : Nat) : Int) := by omega
  have e1 : ((x7 : Int)).toNat = x7 := rfl
  have el : ((a :: r).length : Int) - 1 = (r.length : Int) := by simp
  have el2 : (((!a) :: r).length : Int) = ((a :: r).length : Int) := by simp
  have es : ((r.length : Int)).toNat = r.length := rfl
  have l2 : (r.length : Int) + 1 = ((a :: r).length : Int) := by simp
  refine ⟨vr_u μ 73 r.length (if (!a) = true then 1 else 0), ?_, vp_fr.u (by decide), vm_stk_push t2⟩
  rw [fX10_looks_L106.eq_2, vp_gdT (by omega), if_neg (by omega), vp_gdT (by omega), e1]
  simp only [hm]
  rw [vp_gdT (by decide), if_pos (by decide), if_neg (by decide)]
  simp only [el, es, t1]
  rw [vp_gdT (by omega), vp_gdT (by cases a <;> decide), el2]
  unfold fX10_looks_B255 fX10_looks_B416
  cases a
  · rw [if_neg (by decide), vp_gdT (by omega), vp_gdT (by omega), vp_gdT (by decide), vp_gdT (by omega), e3, es]
    rfl
  · rw [if_pos (by decide), vp_gdT (by omega), vp_gdT (by omega), vp_gdT (by decide), vp_gdT (by omega), e3, es]
    rfl
theorem vm_andor {μ : vr_M} {x4 x5 v : Int} {x7 : Nat} {n : Nat} {a b : Bool} {r : List Bool} (hv : v = -2 ∨ v = -3) (hm : μ 69 x7 = v) (hx : (x7 : Int) < x5 + x4 ∧ x5 + x4 ≤ 933) (hst : r.length < 60) (hs : vm_stk μ (a :: b :: r)) :
    ∃ μ', fX10_looks_L106 (n + 1) x4 x5 ((a :: b :: r).length : Int) (x7 : Int) μ = fX10_looks_L106 n x4 x5 (((if v = -2 then b && a else b || a) :: r).length : Int) ((x7 + 1 : Nat) : Int) μ' ∧ vp_fr [73] μ μ' ∧ vm_stk μ' ((if v = -2 then b && a else b || a) :: r) := by
  obtain ⟨t1, t2⟩ := vm_stk_top hs
  obtain ⟨t3, t4⟩ := vm_stk_top t2
  have e3 : (x7 : Int) + 1 = ((x7 + 1 : Nat) : Int) := by omega
  have e1 : ((x7 : Int)).toNat = x7 := rfl
  have el : ((a :: b :: r).length : Int) + (-1) = ((r.length + 1 : Nat) : Int) := by simp; omega
  have el2 : ((r.length + 1 : Nat) : Int) - 1 = (r.length : Int) := by omega
  have es : ((r.length : Int)).toNat = r.length := rfl
  have es1 : (((r.length + 1 : Nat) : Int)).toNat = r.length + 1 := rfl
  have t1' : μ 73 (r.length + 1) = if a = true then 1 else 0 := t1
  refine ⟨vr_u μ 73 r.length (if (if v = -2 then b && a else b || a) = true then 1 else 0), ?_, vp_fr.u (by decide), vm_stk_push t4⟩
  have e5 : (((if v = -2 then b && a else b || a) :: r).length : Int) = ((r.length + 1 : Nat) : Int) := by simp
  rw [e5, fX10_looks_L106.eq_2, vp_gdT (by omega), if_neg (by omega), vp_gdT (by omega), e1]
  simp only [hm, el, el2, es, es1, t1', t3]
  rw [vp_gdT (by omega), if_pos (by omega), if_pos (by omega), if_neg (by omega)]
  unfold fX10_looks_B310 fX10_looks_B336 fX10_looks_B341 fX10_looks_B416
  rcases hv with rfl | rfl
  · rw [if_neg (by decide), vp_gdT (by omega), vp_gdT (by cases b <;> decide)]
    cases b
    · rw [if_pos (by decide), vp_gdT (by omega), vp_gdT (by omega), vp_gdT (by omega), vp_gdT (by decide), vp_gdT (by omega), e3, es]
      rfl
    · rw [if_neg (by decide), vp_gdT (by omega), vp_gdT (by cases a <;> decide)]
      cases a
      · rw [if_pos (by decide), vp_gdT (by omega), vp_gdT (by omega), vp_gdT (by omega), vp_gdT (by decide), vp_gdT (by omega), e3, es]
        rfl
      · rw [if_neg (by decide), vp_gdT (by omega), vp_gdT (by omega), vp_gdT (by omega), vp_gdT (by decide), vp_gdT (by omega), e3, es]
        rfl
  · rw [if_pos (by decide), vp_gdT (by omega), vp_gdT (by cases b <;> decide)]
    cases b
    · rw [if_neg (by decide), vp_gdT (by omega), vp_gdT (by cases a <;> decide)]
      cases a
      · rw [if_pos (by decide), vp_gdT (by omega), vp_gdT (by omega), vp_gdT (by omega), vp_gdT (by decide), vp_gdT (by omega), e3, es]
        rfl
      · rw [if_neg (by decide), vp_gdT (by omega), vp_gdT (by omega), vp_gdT (by omega), vp_gdT (by decide), vp_gdT (by omega), e3, es]
        rfl
    · rw [if_pos (by decide), vp_gdT (by omega), vp_gdT (by omega), vp_gdT (by omega), vp_gdT (by decide), vp_gdT (by omega), e3, es]
      rfl

/-- a test's code in the reference -/
def vm_e (t : Int) : Int := if t < 0 then t else t / 300 + 8 * (t / 100 % 3) + 32 * (t % 100)
theorem vm_e_dec {t : Int} (h : 0 ≤ t ∧ t < 1500) : 0 ≤ vm_e t ∧ vm_e t < 10000 ∧ (vm_e t).tmod 8 = t / 300 ∧ (vm_e t).tdiv 8 = t / 100 % 3 + 4 * (t % 100) ∧ ((vm_e t).tdiv 8).tmod 4 = t / 100 % 3 ∧ (vm_e t).tdiv 32 = t % 100 := by
  have e : vm_e t = t / 300 + 8 * (t / 100 % 3) + 32 * (t % 100) := by unfold vm_e; rw [if_neg (by omega)]
  have h0 : 0 ≤ vm_e t := by omega
  have h8 : (vm_e t).tdiv 8 = t / 100 % 3 + 4 * (t % 100) := by rw [Int.tdiv_eq_ediv_of_nonneg h0]; omega
  refine ⟨h0, by omega, ?_, h8, ?_, ?_⟩
  · rw [Int.tmod_eq_emod_of_nonneg h0]; omega
  · rw [h8, Int.tmod_eq_emod_of_nonneg (by omega)]; omega
  · rw [Int.tdiv_eq_ediv_of_nonneg h0]; omega
def vm_stk (μ : vr_M) (st : List Bool) : Prop := ∀ j, j < st.length → μ 73 j = if st.reverse.getD j false = true then 1 else 0
theorem vm_stk_push {μ : vr_M} {st : List Bool} {b : Bool} (h : vm_stk μ st) : vm_stk (vr_u μ 73 st.length (if b = true then 1 else 0)) (b :: st) := by
  intro j hj
  rw [List.reverse_cons]
  by_cases e : j = st.length
  · subst e
    rw [vp_us]
    simp [List.getD, List.getElem?_append]
  · have hl : j < st.length := by simp at hj; omega
    rw [vp_uj e, h j hl]
    simp [List.getD, List.getElem?_append, hl]
theorem vm_stk_top {μ : vr_M} {st : List Bool} {b : Bool} (h : vm_stk μ (b :: st)) : μ 73 st.length = (if b = true then 1 else 0) ∧ vm_stk μ st := by
  refine ⟨?_, fun j hj => ?_⟩
  · rw [h st.length (by simp), List.reverse_cons]
    simp [List.getD, List.getElem?_append]
  · rw [h j (by simp; omega), List.reverse_cons]
    simp [List.getD, List.getElem?_append, hj]
theorem vm_test {μ : vr_M} {sn : Nat → Int} {t x4 x5 : Int} {x7 : Nat} {n : Nat} {st : List Bool} (ht : 0 ≤ t ∧ t < 1500) (hm : μ 69 x7 = vm_e t) (hx : (x7 : Int) < x5 + x4 ∧ x5 + x4 ≤ 933) (hst : st.length < 60) (hsn : ∀ j, j < 5 → μ 72 j = sn j ∧ vr_R (sn j)) (hs : vm_stk μ st) :
    ∃ μ', fX10_looks_L106 (n + 1) x4 x5 (st.length : Int) (x7 : Int) μ = fX10_looks_L106 n x4 x5 ((vl_t sn t :: st).length : Int) ((x7 + 1 : Nat) : Int) μ' ∧ vp_fr [73] μ μ' ∧ vm_stk μ' (vl_t sn t :: st) := by
  obtain ⟨d0, d1, d2, d3, d4, d5⟩ := vm_e_dec ht
  obtain ⟨j, hj⟩ : ∃ j : Nat, t / 300 = (j : Int) := ⟨(t / 300).toNat, by omega⟩
  have hj5 : j < 5 := by omega
  obtain ⟨s1, s2⟩ := hsn j hj5
  have e3 : (x7 : Int) + 1 = ((x7 + 1 : Nat) : Int) := by omega
  have e1 : ((x7 : Int)).toNat = x7 := rfl
  have ej : ((j : Int)).toNat = j := rfl
  have es : ((st.length : Int)).toNat = st.length := rfl
  have el : (st.length : Int) + 1 = ((vl_t sn t :: st).length : Int) := by simp
  have push : ∀ b : Bool, fX10_looks_B217 (fX10_looks_L106 n) x4 x5 (st.length : Int) (x7 : Int) (st.length : Int) (if b = true then 1 else 0) μ = fX10_looks_L106 n x4 x5 ((st.length : Int) + 1) ((x7 + 1 : Nat) : Int) (vr_u μ 73 st.length (if b = true then 1 else 0)) := by
    intro b
    rw [fX10_looks_B217, vp_gdT (by omega), vp_gdT (by cases b <;> decide), vp_gdT (by omega), fX10_looks_B416, vp_gdT (by omega), e3, es]
  have vt : vl_t sn t = decide ((if sn j < t % 100 then (0 : Int) else if sn j = t % 100 then 1 else 2) = t / 100 % 3) := by
    unfold vl_t
    rw [hj, ej]
  refine ⟨vr_u μ 73 st.length (if vl_t sn t = true then 1 else 0), ?_, vp_fr.u (by decide), vm_stk_push hs⟩
  rw [← el, ← push]
  rw [fX10_looks_L106.eq_2, vp_gdT (by omega), if_neg (by omega), vp_gdT (by omega), e1]
  simp only [hm]
  rw [vp_gdT (by omega), if_neg (by omega)]
  have d4' : (t / 100 % 3 + 4 * (t % 100)).tmod 4 = t / 100 % 3 := by rw [← d3]; exact d4
  simp only [d2, d3, d4', d5, hj, ej, s1]
  rw [vp_gdT (by omega), vp_gdT (by omega), vp_gdT (by omega)]
  rcases (show t / 100 % 3 = 0 ∨ t / 100 % 3 = 1 ∨ t / 100 % 3 = 2 by omega) with c | c | c
  · rw [if_neg (by omega), vp_gdT s2, vp_gdT (by omega)]
    by_cases q : t % 100 ≤ sn j
    · rw [if_pos q, vt, c, if_neg (show ¬ sn j < t % 100 by omega)]
      by_cases q2 : sn j = t % 100 <;> simp [q2]
    · rw [if_neg q, vt, c, if_pos (show sn j < t % 100 by omega)]
      rfl
  · rw [if_pos (by omega), if_neg (by omega), vp_gdT s2, vp_gdT (by omega), vt, c]
    by_cases q : sn j = t % 100
    · rw [if_neg (by omega), if_neg (show ¬ sn j < t % 100 by omega), if_pos q]
      rfl
    · rw [if_pos q, if_neg q]
      by_cases q2 : sn j < t % 100 <;> simp [q2]
  · rw [if_pos (by omega), if_pos (by omega), vp_gdT s2, vp_gdT (by omega), vt, c]
    by_cases q : sn j ≤ t % 100
    · rw [if_pos q]
      by_cases q2 : sn j < t % 100
      · simp [q2]
      · have q3 : sn j = t % 100 := by omega
        simp [q3]
    · rw [if_neg q, if_neg (show ¬ sn j < t % 100 by omega), if_neg (show ¬ sn j = t % 100 by omega)]
      rfl

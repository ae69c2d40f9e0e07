theorem vl_st_len {sn : Nat → Int} : ∀ (ts : List Int) (st : List Bool), vl_ok ts st.length → (vl_st sn ts st).length = 1
  | [], _, h => h
  | t :: ts, st, h => by
    rw [vl_st]
    refine vl_st_len ts _ ?_
    rcases h with ⟨rfl, h1, hok⟩ | ⟨hta, h1, hok⟩ | ⟨h1, h2, h3, hok⟩
    · cases st with
      | nil => simp at h1
      | cons a r => exact hok
    · cases st with
      | nil => simp at h1
      | cons a r =>
        cases r with
        | nil => simp at h1
        | cons b r => rcases hta with rfl | rfl <;> exact hok
    · have e : vl_step sn t st = vl_t sn t :: st := by unfold vl_step; rw [if_neg (by omega), if_neg (by omega), if_neg (by omega)]
      rw [e]
      exact hok
def vm_fl (cl : vl_C) : List Int := cl.flatMap (fun q => q.2.map vm_e ++ [vm_m q.1])
theorem vm_looksL {sn : Nat → Int} {x4 x5 : Int} {n : Nat} (hsn : ∀ j, j < 5 → vr_R (sn j)) (hx9 : x5 + x4 ≤ 933) : ∀ (cl : vl_C) (x7 : Nat) (μ : vr_M) (g w : Int), (∀ q ∈ cl, (q.1 = -1 ∨ 0 ≤ q.1 ∧ q.1 ≤ 99) ∧ vl_ok q.2 0) → (x7 : Int) + (vm_fl cl).length ≤ x5 + x4 → (∀ i, i < (vm_fl cl).length → μ 69 (x7 + i) = (vm_fl cl).getD i 0) → (∀ j, j < 5 → μ 72 j = sn j) → (μ 68 12 = g ∧ 0 ≤ g ∧ g + 99 * cl.length ≤ 100000) → (μ 68 13 = w ∧ (w = 0 ∨ w = 1)) →
    ∃ μ', fX10_looks_L106 (n + (vm_fl cl).length) x4 x5 0 (x7 : Int) μ = fX10_looks_L106 n x4 x5 0 ((x7 + (vm_fl cl).length : Nat) : Int) μ' ∧ vp_fr [68, 73] μ μ' ∧ μ' 68 12 = g + vl_gv sn cl ∧ μ' 68 13 = (if vl_wr sn cl = true then 1 else w) ∧ ∀ j, j ≠ 12 → j ≠ 13 → μ' 68 j = μ 68 j := by
  intro cl
  induction cl with
  | nil =>
    intro x7 μ g w hcl hx hm h72 hg hw
    exact ⟨μ, rfl, vp_fr.rf, by rw [hg.1]; simp [vl_gv], by rw [hw.1]; simp [vl_wr], fun _ _ _ => rfl⟩
  | cons q cl ih =>
    intro x7 μ g w hcl hx hm h72 hg hw
    obtain ⟨hq, hok⟩ := hcl q (by simp)
    have ef : vm_fl (q :: cl) = (q.2.map vm_e ++ [vm_m q.1]) ++ vm_fl cl := by unfold vm_fl; rw [List.flatMap_cons]
    have elen : (vm_fl (q :: cl)).length = q.2.length + 1 + (vm_fl cl).length := by rw [ef]; simp; omega
    obtain ⟨μ1, a1, a2, a3⟩ := vm_toks (sn := sn) (x4 := x4) (x5 := x5) (n := n + (vm_fl cl).length + 1) hsn q.2 [] x7 μ hok (by simp) (by omega) hx9 (fun i hi => by
      rw [hm i (by omega), ef]
      simp [List.getD, List.getElem?_append, hi]) h72 (fun j hj => by simp at hj)
    have l1 := vl_st_len (sn := sn) q.2 [] hok
    obtain ⟨b, hb⟩ : ∃ b, vl_st sn q.2 [] = [b] := by
      match h : vl_st sn q.2 [] with
      | [] => rw [h] at l1; simp at l1
      | [b] => exact ⟨b, rfl⟩
      | a :: b :: r => rw [h] at l1; simp at l1
    have hh : vl_h sn q.2 = b := by unfold vl_h; rw [hb]; rfl
    rw [hb] at a1 a3
    obtain ⟨μ2, b1, b2, b3, b4, b5⟩ := vm_mark (x4 := x4) (x5 := x5) (x6 := (([b] : List Bool).length : Int)) (n := n + (vm_fl cl).length) (b := b) (μ := μ1) (x7 := x7 + q.2.length) (g := g) (w := w) hq (by
      rw [a2 69 (by decide), hm q.2.length (by omega), ef]
      simp [List.getD, List.getElem?_append]) (by omega) a3 (by rw [a2 68 (by decide)]; have := hg.2.2; simp at this; omega) (by rw [a2 68 (by decide)]; exact hw)
    have f12 : vp_fr [68, 73] μ μ2 := (a2.mono (by decide)).tr (b2.mono (by decide))
    have hw' : (if q.1 = -1 ∧ b = true then (1 : Int) else w) = 0 ∨ (if q.1 = -1 ∧ b = true then (1 : Int) else w) = 1 := by
      split
      · exact Or.inr rfl
      · exact hw.2
    have hgl : (0 : Int) ≤ g + (if q.1 ≠ -1 ∧ b = true then q.1 else 0) ∧ g + (if q.1 ≠ -1 ∧ b = true then q.1 else 0) + 99 * cl.length ≤ 100000 := by
      have := hg.2
      simp at this
      split <;> omega
    obtain ⟨μ3, c1, c2, c3, c4, c5⟩ := ih (x7 + q.2.length + 1) μ2 (g + (if q.1 ≠ -1 ∧ b = true then q.1 else 0)) (if q.1 = -1 ∧ b = true then 1 else w) (fun p hp => hcl p (by simp [hp])) (by omega) (fun i hi => by
      rw [f12 69 (by decide), show x7 + q.2.length + 1 + i = x7 + (q.2.length + 1 + i) by omega, hm (q.2.length + 1 + i) (by omega), ef]
      have e : (q.2.map vm_e ++ [vm_m q.1]).length = q.2.length + 1 := by simp
      simp only [List.getD]
      rw [List.getElem?_append_right (by rw [e]; omega), e, show q.2.length + 1 + i - (q.2.length + 1) = i by omega]) (fun j hj => by rw [f12 72 (by decide)]; exact h72 j hj) ⟨b3, hgl⟩ ⟨b4, hw'⟩
    refine ⟨μ3, ?_, f12.tr c2, ?_, ?_, fun j j1 j2 => ?_⟩
    · rw [show n + (vm_fl (q :: cl)).length = n + (vm_fl cl).length + 1 + q.2.length by omega]
      have a1' : fX10_looks_L106 (n + (vm_fl cl).length + 1 + q.2.length) x4 x5 0 (x7 : Int) μ = fX10_looks_L106 (n + (vm_fl cl).length + 1) x4 x5 (([b] : List Bool).length : Int) ((x7 + q.2.length : Nat) : Int) μ1 := a1
      rw [a1', b1, c1, show x7 + q.2.length + 1 + (vm_fl cl).length = x7 + (vm_fl (q :: cl)).length by omega]
    · rw [c3, vl_gv, hh]
      omega
    · rw [c4]
      by_cases d : q.1 = -1 ∧ b = true
      · have : vl_wr sn (q :: cl) = true := by unfold vl_wr; simp [hh, d.1, d.2]
        simp only [d, this, and_self, if_true, ite_self]
      · rw [if_neg d]
        have : vl_wr sn (q :: cl) = vl_wr sn cl := by
          unfold vl_wr
          rw [List.any_cons, hh]
          have : (decide (q.1 = -1) && b) = false := by
            cases h1 : decide (q.1 = -1)
            · rfl
            · cases b
              · rfl
              · exact absurd ⟨of_decide_eq_true h1, rfl⟩ d
          rw [this, Bool.false_or]
        rw [this]
    · rw [c5 j j1 j2, b5 j j1 j2, a2 68 (by decide)]

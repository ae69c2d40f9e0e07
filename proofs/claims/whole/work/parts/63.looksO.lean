theorem vm_toks {sn : Nat → Int} {x4 x5 : Int} {n : Nat} (hsn : ∀ j, j < 5 → vr_R (sn j)) : ∀ (ts : List Int) (st : List Bool) (x7 : Nat) (μ : vr_M), vl_ok ts st.length → st.length ≤ 60 → (x7 : Int) + ts.length ≤ x5 + x4 → x5 + x4 ≤ 933 → (∀ i, i < ts.length → μ 69 (x7 + i) = vm_e (ts.getD i 0)) → (∀ j, j < 5 → μ 72 j = sn j) → vm_stk μ st →
    ∃ μ', fX10_looks_L106 (n + ts.length) x4 x5 (st.length : Int) (x7 : Int) μ = fX10_looks_L106 n x4 x5 ((vl_st sn ts st).length : Int) ((x7 + ts.length : Nat) : Int) μ' ∧ vp_fr [73] μ μ' ∧ vm_stk μ' (vl_st sn ts st) := by
  intro ts
  induction ts with
  | nil =>
    intro st x7 μ hok hst hx hx9 hm h72 hs
    exact ⟨μ, rfl, vp_fr.rf, hs⟩
  | cons t ts ih =>
    intro st x7 μ hok hst hx hx9 hm h72 hs
    have hx' : (x7 : Int) + (ts.length + 1 : Nat) ≤ x5 + x4 := hx
    have hm0 : μ 69 x7 = vm_e t := hm 0 (by simp)
    have go : ∀ (st' : List Bool) (μ1 : vr_M), fX10_looks_L106 (n + ts.length + 1) x4 x5 (st.length : Int) (x7 : Int) μ = fX10_looks_L106 (n + ts.length) x4 x5 (st'.length : Int) ((x7 + 1 : Nat) : Int) μ1 → vp_fr [73] μ μ1 → vm_stk μ1 st' → vl_step sn t st = st' → vl_ok ts st'.length → st'.length ≤ 60 →
        ∃ μ', fX10_looks_L106 (n + (t :: ts).length) x4 x5 (st.length : Int) (x7 : Int) μ = fX10_looks_L106 n x4 x5 ((vl_st sn (t :: ts) st).length : Int) ((x7 + (t :: ts).length : Nat) : Int) μ' ∧ vp_fr [73] μ μ' ∧ vm_stk μ' (vl_st sn (t :: ts) st) := by
      intro st' μ1 g1 g2 g3 g4 g5 g6
      obtain ⟨μ', k1, k2, k3⟩ := ih st' (x7 + 1) μ1 g5 g6 (by omega) hx9 (fun i hi => by
        rw [g2 69 (by decide), show x7 + 1 + i = x7 + (i + 1) by omega]
        exact hm (i + 1) (by simp; omega)) (fun j hj => by rw [g2 72 (by decide)]; exact h72 j hj) g3
      refine ⟨μ', ?_, g2.tr k2, by rw [vl_st, g4]; exact k3⟩
      rw [vl_st, g4, show n + (t :: ts).length = n + ts.length + 1 by simp; omega, g1, k1, show x7 + 1 + ts.length = x7 + (t :: ts).length by simp; omega]
    rcases hok with ⟨rfl, h1, hok⟩ | ⟨hta, h1, hok⟩ | ⟨h1, h2, h3, hok⟩
    · cases st with
      | nil => simp at h1
      | cons a r =>
        have hl : (a :: r).length = r.length + 1 := rfl
        obtain ⟨μ1, g1, g2, g3⟩ := vm_not (n := n + ts.length) (x4 := x4) (x5 := x5) hm0 (by omega) (by omega) hs
        exact go ((!a) :: r) μ1 g1 g2 g3 rfl (by simpa using hok) (by simpa using hst)
    · cases st with
      | nil => simp at h1
      | cons a r =>
        cases r with
        | nil => simp at h1
        | cons b r =>
          have hl : (a :: b :: r).length = r.length + 2 := rfl
          have hm1 : μ 69 x7 = t := by rw [hm0]; unfold vm_e; rw [if_pos (by omega)]
          obtain ⟨μ1, g1, g2, g3⟩ := vm_andor (n := n + ts.length) (x4 := x4) (x5 := x5) hta hm1 (by omega) (by omega) hs
          refine go _ μ1 g1 g2 g3 ?_ (by simpa using hok) (by simp at hst ⊢; omega)
          rcases hta with rfl | rfl <;> rfl
    · obtain ⟨μ1, g1, g2, g3⟩ := vm_test (n := n + ts.length) (x4 := x4) (x5 := x5) (sn := sn) ⟨h1, h2⟩ hm0 (by omega) h3 (fun j hj => ⟨h72 j hj, hsn j hj⟩) hs
      refine go _ μ1 g1 g2 g3 ?_ (by simpa using hok) (by simp; omega)
      unfold vl_step
      rw [if_neg (by omega), if_neg (by omega), if_neg (by omega)]
/-- a clause's end in the reference -/
def vm_m (q : Int) : Int := if q = -1 then -200 else -10 - q
theorem vm_mark {μ : vr_M} {x4 x5 x6 g w q : Int} {x7 : Nat} {n : Nat} {b : Bool} (hq : q = -1 ∨ 0 ≤ q ∧ q ≤ 99) (hm : μ 69 x7 = vm_m q) (hx : (x7 : Int) < x5 + x4 ∧ x5 + x4 ≤ 933) (hs : vm_stk μ [b]) (hg : μ 68 12 = g ∧ 0 ≤ g ∧ g ≤ 100000) (hw : μ 68 13 = w ∧ (w = 0 ∨ w = 1)) :
    ∃ μ', fX10_looks_L106 (n + 1) x4 x5 x6 (x7 : Int) μ = fX10_looks_L106 n x4 x5 0 ((x7 + 1 : Nat) : Int) μ' ∧ vp_fr [68] μ μ' ∧ μ' 68 12 = g + (if q ≠ -1 ∧ b = true then q else 0) ∧ μ' 68 13 = (if q = -1 ∧ b = true then 1 else w) ∧ ∀ j, j ≠ 12 → j ≠ 13 → μ' 68 j = μ 68 j := by
  have t1 : μ 73 0 = if b = true then 1 else 0 := (vm_stk_top hs).1
  have e3 : (x7 : Int) + 1 = ((x7 + 1 : Nat) : Int) := by omega
  have e1 : ((x7 : Int)).toNat = x7 := rfl
  obtain ⟨g1, g2⟩ := hg
  obtain ⟨w1, w2⟩ := hw
  have B : ∀ w' : Int, w' = 0 ∨ w' = 1 → fX10_looks_B378 (fX10_looks_L106 n) x4 x5 0 (x7 : Int) (vm_m q) w' μ = fX10_looks_L106 n x4 x5 0 ((x7 + 1 : Nat) : Int) (vr_u (vr_u μ 68 13 w') 68 12 (g + (if q ≠ -1 ∧ b = true then q else 0))) := by
    intro w' hw'
    have m12 : vr_u μ 68 13 w' 68 12 = g := by rw [vp_uj (by decide), g1]
    have m73 : vr_u μ 68 13 w' 73 0 = if b = true then 1 else 0 := by rw [vp_un (by decide), t1]
    unfold fX10_looks_B378 fX10_looks_B411 fX10_looks_B412 fX10_looks_B416
    rw [vp_gdT hw', vp_let]
    simp only [m12, m73]
    rcases hq with rfl | hq
    · rw [if_pos (by decide), vp_gdT (by omega), vp_gdT (by omega), e3, if_neg (fun q => q.1 rfl)]
    · have hv : vm_m q = -10 - q := by unfold vm_m; rw [if_neg (by omega)]
      rw [hv, if_neg (by omega), vp_gdT (by cases b <;> decide)]
      cases b
      · rw [if_pos (by decide), vp_gdT (by omega), vp_gdT (by omega), e3, if_neg (fun q => absurd q.2 (by decide))]
      · rw [if_neg (by decide), vp_gdT (by omega), vp_gdT (by omega), vp_gdT (by omega), e3, if_pos ⟨by omega, rfl⟩, show -10 - (-10 - q) = q by omega]
  have hv : vm_m q < 0 ∧ ¬ vm_m q = -1 ∧ vm_m q ≤ -10 ∧ vr_R (vm_m q) ∧ (vm_m q = -200 ↔ q = -1) := by
    unfold vm_m
    split <;> omega
  obtain ⟨v1, v2, v3, v4, v5⟩ := hv
  have fin : ∀ w' : Int, (w' = 0 ∨ w' = 1) → w' = (if q = -1 ∧ b = true then 1 else w) → fX10_looks_L106 (n + 1) x4 x5 x6 (x7 : Int) μ = fX10_looks_B378 (fX10_looks_L106 n) x4 x5 0 (x7 : Int) (vm_m q) w' μ →
      ∃ μ', fX10_looks_L106 (n + 1) x4 x5 x6 (x7 : Int) μ = fX10_looks_L106 n x4 x5 0 ((x7 + 1 : Nat) : Int) μ' ∧ vp_fr [68] μ μ' ∧ μ' 68 12 = g + (if q ≠ -1 ∧ b = true then q else 0) ∧ μ' 68 13 = (if q = -1 ∧ b = true then 1 else w) ∧ ∀ j, j ≠ 12 → j ≠ 13 → μ' 68 j = μ 68 j := by
    intro w' h1 h2 h3
    refine ⟨vr_u (vr_u μ 68 13 w') 68 12 (g + (if q ≠ -1 ∧ b = true then q else 0)), h3.trans (B w' h1), (vp_fr.u (by decide)).tr (vp_fr.u (by decide)), vp_us, ?_, fun j j1 j2 => ?_⟩
    · rw [vp_uj (by decide), vp_us, h2]
    · rw [vp_uj j1, vp_uj j2]
  have e0 : fX10_looks_L106 (n + 1) x4 x5 x6 (x7 : Int) μ = (if ¬ w = 0 then fX10_looks_B373 (fX10_looks_L106 n) x4 x5 0 (x7 : Int) (vm_m q) μ else if ¬ vm_m q = -200 then fX10_looks_B377 (fX10_looks_L106 n) x4 x5 0 (x7 : Int) (vm_m q) μ else vr_gd (vr_R (if b = true then 1 else 0)) (if (if b = true then (1 : Int) else 0) = 0 then fX10_looks_B377 (fX10_looks_L106 n) x4 x5 0 (x7 : Int) (vm_m q) μ else fX10_looks_B373 (fX10_looks_L106 n) x4 x5 0 (x7 : Int) (vm_m q) μ)) := by
    rw [fX10_looks_L106.eq_2, vp_gdT (by omega), if_neg (by omega), vp_gdT (by omega), e1]
    simp only [hm, w1, t1]
    rw [vp_gdT v4, if_pos v1, if_pos v2, if_pos v3, vp_gdT (by omega)]
  rcases w2 with rfl | rfl
  · by_cases c : q = -1
    · cases b
      · refine fin 0 (by decide) (by simp) ?_
        rw [e0, if_neg (by decide), if_neg (fun h => h (v5.mpr c)), vp_gdT (by decide), if_pos (by decide)]
        rfl
      · refine fin 1 (by decide) (by simp [c]) ?_
        rw [e0, if_neg (by decide), if_neg (fun h => h (v5.mpr c)), vp_gdT (by decide), if_neg (by decide)]
        rfl
    · refine fin 0 (by decide) (by simp [c]) ?_
      rw [e0, if_neg (by decide), if_pos (fun h => c (v5.mp h))]
      rfl
  · refine fin 1 (by decide) (by simp) ?_
    rw [e0, if_pos (by decide)]
    rfl

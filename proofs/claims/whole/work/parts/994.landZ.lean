/-! the row of clauses -/
def vg_af (C : Nat → Int) (e : Nat) : Nat → Nat → vg_ST → Nat × Option vg_ST
  | 0, q, st => if q < e then (q, none) else (q, some st)
  | k + 1, q, st => if q < e then (if C q = 59 then (match vg_cl C (q + 1) with
      | (q', none) => (q', none)
      | (q', some x) => vg_af C e k q' (vg_ap x st)) else (q, none)) else (q, some st)
def vg_nx (C : Nat → Int) (e k p : Nat) (st : vg_ST) : Nat × Option vg_ST := match vg_cl C p with
  | (q, none) => (q, none)
  | (q, some x) => vg_af C e k q (vg_ap x st)
def vg_okN (n : Nat) (st : vg_ST) : Prop := st.1.length ≤ n ∧ (∀ q ∈ st.1, (q.1 = -1 ∨ 0 ≤ q.1 ∧ q.1 ≤ 99) ∧ vl_ok q.2 0) ∧ (0 ≤ st.2.1 ∧ st.2.1 ≤ 99) ∧ (0 ≤ st.2.2.1 ∧ st.2.2.1 ≤ 99) ∧ (0 ≤ st.2.2.2.1 ∧ st.2.2.2.1 ≤ 99) ∧ (0 ≤ st.2.2.2.2 ∧ st.2.2.2.2 ≤ 10)
def vg_okX (x : vg_X3) : Prop := (x.1 = 0 ∧ (0 ≤ x.2.1 ∧ x.2.1 ≤ 99) ∧ vl_ok x.2.2 0) ∨ (x.1 = 1 ∧ x.2.1 = -1 ∧ vl_ok x.2.2 0) ∨ (2 ≤ x.1 ∧ 0 ≤ x.2.1 ∧ x.2.1 ≤ 99)
theorem vg_V0 {ts : List Int} (h : vg_V 13 ts) : vl_ok ts 0 := by
  have g := h [] 0 (by decide) rfl
  rw [List.append_nil] at g
  exact g
theorem vg_tl_V {C : Nat → Int} {p q : Nat} {w n : Int} {x : vg_X3} (h : vg_tl C p w n = (q, some x)) : x.1 = w ∧ x.2.1 = n ∧ vl_ok x.2.2 0 := by
  unfold vg_tl at h
  match hm : vg_E0 C p with
  | (q', none) =>
    rw [hm] at h
    simp at h
  | (q', some ts) =>
    rw [hm] at h
    simp only [Prod.mk.injEq, Option.some.injEq] at h
    obtain ⟨-, rfl⟩ := h
    exact ⟨rfl, rfl, vg_V0 (vg_E0_V hm)⟩
theorem vg_cl_V {C : Nat → Int} {p q : Nat} {x : vg_X3} (h : vg_cl C p = (q, some x)) : vg_okX x := by
  have e : vg_cl C p = if (vg_w C p).2 < 0 then ((vg_w C p).1, none)
    else if (vg_w C p).2 = 1 then vg_tl C (vg_w C p).1 1 (-1)
    else if vg_nv C (vg_w C p).1 < 0 then ((vg_w C p).1, none)
    else if (vg_w C p).2 = 0 then (if C (vg_np C (vg_w C p).1) = 32 then vg_tl C (vg_np C (vg_w C p).1 + 1) 0 (vg_nv C (vg_w C p).1)
      else (vg_np C (vg_w C p).1, none))
    else (vg_np C (vg_w C p).1, some ((vg_w C p).2, vg_nv C (vg_w C p).1, [])) := rfl
  have nv := vg_nv_in C (vg_w C p).1
  rw [e] at h
  by_cases c1 : (vg_w C p).2 < 0
  · rw [if_pos c1] at h; simp at h
  rw [if_neg c1] at h
  by_cases c2 : (vg_w C p).2 = 1
  · rw [if_pos c2] at h
    obtain ⟨a, b, c⟩ := vg_tl_V h
    exact Or.inr (Or.inl ⟨a, b, c⟩)
  rw [if_neg c2] at h
  by_cases c3 : vg_nv C (vg_w C p).1 < 0
  · rw [if_pos c3] at h; simp at h
  rw [if_neg c3] at h
  by_cases c4 : (vg_w C p).2 = 0
  · rw [if_pos c4] at h
    by_cases c5 : C (vg_np C (vg_w C p).1) = 32
    · rw [if_pos c5] at h
      obtain ⟨a, b, c⟩ := vg_tl_V h
      exact Or.inl ⟨a, by omega, c⟩
    · rw [if_neg c5] at h; simp at h
  · rw [if_neg c4] at h
    simp only [Prod.mk.injEq, Option.some.injEq] at h
    obtain ⟨-, rfl⟩ := h
    exact Or.inr (Or.inr ⟨by dsimp only; omega, by dsimp only; omega, by dsimp only; omega⟩)
theorem vg_ap_ok {n : Nat} {x : vg_X3} {st : vg_ST} (h : vg_okN n st) (hx : vg_okX x) : vg_okN (n + 1) (vg_ap x st) := by
  obtain ⟨h1, h2, h3, h4, h5, h6⟩ := h
  unfold vg_ap
  by_cases c : x.1 = 0 ∨ x.1 = 1
  · rw [if_pos c]
    refine ⟨by simp; omega, fun q hq => ?_, h3, h4, h5, h6⟩
    simp only [List.mem_append, List.mem_cons, List.not_mem_nil, or_false] at hq
    rcases hq with hq | rfl
    · exact h2 q hq
    · rcases hx with ⟨a, b, d⟩ | ⟨a, b, d⟩ | ⟨a, b⟩
      · exact ⟨Or.inr b, d⟩
      · exact ⟨Or.inl b, d⟩
      · omega
  · have b : 0 ≤ x.2.1 ∧ x.2.1 ≤ 99 := by
      rcases hx with ⟨a, b, d⟩ | ⟨a, b, d⟩ | ⟨a, b⟩
      · omega
      · omega
      · exact b
    rw [if_neg c]
    by_cases c2 : x.1 = 2
    · rw [if_pos c2]; exact ⟨by dsimp only; omega, h2, b, h4, h5, h6⟩
    rw [if_neg c2]
    by_cases c3 : x.1 = 3
    · rw [if_pos c3]; exact ⟨by dsimp only; omega, h2, h3, b, h5, h6⟩
    rw [if_neg c3]
    by_cases c4 : x.1 = 4
    · rw [if_pos c4]; exact ⟨by dsimp only; omega, h2, h3, h4, b, h6⟩
    rw [if_neg c4]
    exact ⟨by dsimp only; omega, h2, h3, h4, h5, by dsimp only; omega⟩
theorem vg_af_ok {C : Nat → Int} {e : Nat} : ∀ (k n q q' : Nat) (st st' : vg_ST), vg_okN n st → vg_af C e k q st = (q', some st') → vg_okN (n + k) st' := by
  intro k
  induction k with
  | zero =>
    intro n q q' st st' h hh
    unfold vg_af at hh
    by_cases c : q < e
    · rw [if_pos c] at hh; simp at hh
    · rw [if_neg c] at hh
      simp only [Prod.mk.injEq, Option.some.injEq] at hh
      obtain ⟨-, rfl⟩ := hh
      exact h
  | succ k ih =>
    intro n q q' st st' h hh
    unfold vg_af at hh
    by_cases c : q < e
    · rw [if_pos c] at hh
      by_cases c2 : C q = 59
      · rw [if_pos c2] at hh
        match hm : vg_cl C (q + 1) with
        | (q1, none) =>
          rw [hm] at hh
          simp at hh
        | (q1, some x) =>
          rw [hm] at hh
          have g := ih (n + 1) q1 q' (vg_ap x st) st' (vg_ap_ok h (vg_cl_V hm)) hh
          rw [show n + (k + 1) = n + 1 + k by omega]
          exact g
      · rw [if_neg c2] at hh; simp at hh
    · rw [if_neg c] at hh
      simp only [Prod.mk.injEq, Option.some.injEq] at hh
      obtain ⟨-, rfl⟩ := hh
      exact ⟨by have := h.1; omega, h.2⟩
theorem vg_nx_ok {C : Nat → Int} {e k p q' : Nat} {st st' : vg_ST} {n : Nat} (h : vg_okN n st) (hh : vg_nx C e k p st = (q', some st')) : vg_okN (n + 1 + k) st' := by
  unfold vg_nx at hh
  match hm : vg_cl C p with
  | (q1, none) =>
    rw [hm] at hh
    simp at hh
  | (q1, some x) =>
    rw [hm] at hh
    exact vg_af_ok k (n + 1) q1 q' _ st' (vg_ap_ok h (vg_cl_V hm)) hh
/-- the class reads them -/
def vgc_Z (t : Nat → Int) (e : Nat) (μ : vr_M) (r : Int) (μ' : vr_M) : Nat × Option vg_ST → Prop
  | (q, none) => r = (q : Int) ∧ q ≤ e ∧ vp_fr [45, 46, 47, 48, 50] μ μ'
  | (q, some st) => r = -1 ∧ vgc_D t e μ' q st ∧ vp_fr [45, 46, 47, 48, 50] μ μ'
theorem vgc_Z_tr {t : Nat → Int} {e : Nat} {μ μ1 μ' : vr_M} {r : Int} {x : Nat × Option vg_ST} (f : vp_fr [45, 46, 47, 48, 50] μ μ1) (h : vgc_Z t e μ1 r μ' x) : vgc_Z t e μ r μ' x := by
  match x with
  | (q, none) => exact ⟨h.1, h.2.1, f.tr h.2.2⟩
  | (q, some st) => exact ⟨h.1, h.2.1, f.tr h.2.2⟩
theorem vg_ap_len {x : vg_X3} {st : vg_ST} : (vg_ap x st).1.length ≤ st.1.length + 1 := by
  unfold vg_ap
  split
  · simp
  split
  · simp
  split
  · simp
  split <;> simp
theorem vgc_loop {t : Nat → Int} {e : Nat} : ∀ (k n p : Nat) (st : vg_ST) (μ : vr_M), vgc_D t e μ p st → st.1.length + k ≤ 9 → ∃ r μ', fX6_fault_L14 (n + k + 1) (10 - (k : Int)) μ = some (r, μ') ∧ vgc_Z t e μ r μ' (vg_nx (vg_C t e) e k p st) := by
  intro k
  induction k with
  | zero =>
    intro n p st μ h hk
    obtain ⟨r, μ1, y1, y2⟩ := vgc_clause h (by omega)
    have e120 := h.1.1.2.1
    unfold vg_nx
    rw [fX6_fault_L14.eq_2, if_neg (by omega), y1, vp_bind]
    dsimp only
    match hm : vg_cl (vg_C t e) p with
    | (q, none) =>
      rw [hm] at y2
      obtain ⟨rfl, x1, x2, x3⟩ := y2
      rw [if_neg (fun z => z rfl)]
      simp only [x1]
      rw [vp_gdT (by omega)]
      exact ⟨_, _, rfl, rfl, x2, x3⟩
    | (q, some x) =>
      rw [hm] at y2
      obtain ⟨rfl, x1, x3⟩ := y2
      have a := x1.1.2.1
      have b := x1.1.1.1
      have c := x1.1.2.2.2.2
      rw [if_pos (by decide)]
      simp only [a, b]
      rw [vp_gdT (by omega), vp_gdT (by omega)]
      unfold vg_af fX6_fault_B63
      simp only [a]
      by_cases d : q < e
      · rw [if_pos (by omega), if_pos (by omega), if_pos d, vp_gdT (by omega)]
        exact ⟨_, _, rfl, rfl, c, x3⟩
      · rw [if_neg (by omega), if_neg d]
        exact ⟨_, _, rfl, rfl, x1, x3⟩
  | succ k ih =>
    intro n p st μ h hk
    obtain ⟨r, μ1, y1, y2⟩ := vgc_clause h (by omega)
    have e120 := h.1.1.2.1
    unfold vg_nx
    rw [fX6_fault_L14.eq_2, if_neg (by omega), y1, vp_bind]
    dsimp only
    match hm : vg_cl (vg_C t e) p with
    | (q, none) =>
      rw [hm] at y2
      obtain ⟨rfl, x1, x2, x3⟩ := y2
      rw [if_neg (fun z => z rfl)]
      simp only [x1]
      rw [vp_gdT (by omega)]
      exact ⟨_, _, rfl, rfl, x2, x3⟩
    | (q, some x) =>
      rw [hm] at y2
      obtain ⟨rfl, x1, x3⟩ := y2
      have a := x1.1.2.1
      have b := x1.1.1.1
      have c := x1.1.2.2.2.2
      have t59 := vgc_take (ch := 59) x1.1.1 x1.1.2.1 (by omega) (by decide)
      rw [if_pos (by decide)]
      simp only [a, b]
      rw [vp_gdT (by omega), vp_gdT (by omega)]
      unfold vg_af fX6_fault_B63
      by_cases d : q < e
      · rw [if_pos (by omega), if_neg (by omega), if_pos d, t59]
        by_cases c5 : vg_C t e q = 59
        · rw [if_pos c5, if_pos c5, vp_bind]
          have f3 : vp_fr [50] μ1 (vr_u μ1 50 2 ((q + 1 : Nat) : Int)) := vp_fr.u (by decide)
          have D3 : vgc_D t e (vr_u μ1 50 2 ((q + 1 : Nat) : Int)) (q + 1) (vg_ap x st) := vgc_setn x1 (f3.mono (by decide)) vp_us (by omega) (by omega) (by rw [vp_un (by decide)]) (by rw [vp_un (by decide)]) rfl (by rw [vp_un (by decide)]; exact x1.2.2.2.1) (by rw [vp_un (by decide)]; exact x1.2.2.2.2.1) (by rw [vp_un (by decide)]; exact x1.2.2.2.2.2.1) (by rw [vp_un (by decide)]; exact x1.2.2.2.2.2.2)
          obtain ⟨r, μ', g1, g2⟩ := ih n (q + 1) (vg_ap x st) _ D3 (by have := vg_ap_len (x := x) (st := st); omega)
          rw [if_pos vz_T1, vp_gdT (by omega), show 10 - ((k + 1 : Nat) : Int) + 1 = 10 - (k : Int) by omega]
          exact ⟨r, μ', g1, vgc_Z_tr (x3.tr (f3.mono (by decide))) g2⟩
        · rw [if_neg c5, if_neg c5, vp_bind, if_neg vz_F0]
          simp only [a]
          rw [vp_gdT (by omega)]
          exact ⟨_, _, rfl, rfl, c, x3⟩
      · rw [if_neg (by omega), if_neg d]
        exact ⟨_, _, rfl, rfl, x1, x3⟩
/-- the reference reads them -/
def vgm_Z (t : Nat → Int) (e A : Nat) (μ : vr_M) (r : Int) (μ' : vr_M) : Nat × Option vg_ST → Prop
  | (q, none) => r = -10 - (q : Int) ∧ q ≤ e ∧ vgm_J A μ μ'
  | (q, some st) => ∃ μ1, vgm_D t e A μ1 q st ∧ vgm_J A μ μ1 ∧ r = (A : Int) ∧ μ' = vr_u (vr_u μ1 69 2 (μ1 69 2 + 1)) 69 9 (A : Int)
theorem vgm_Z_J {t : Nat → Int} {e A : Nat} {μ μ1 μ' : vr_M} {r : Int} {x : Nat × Option vg_ST} (f : vgm_J A μ μ1) (h : vgm_Z t e A μ1 r μ' x) : vgm_Z t e A μ r μ' x := by
  match x with
  | (q, none) => exact ⟨h.1, h.2.1, f.tr h.2.2⟩
  | (q, some st) =>
    obtain ⟨m, h1, h2, h3, h4⟩ := h
    exact ⟨m, h1, f.tr h2, h3, h4⟩
theorem vgm_badE {e q : Nat} {μ : vr_M} (h : vgm_F e μ q) (he : e ≤ 120) : fX10_land_B174 μ = some (-10 - (q : Int), μ) := by
  have := h.2.2
  unfold fX10_land_B174 fX10_land_B192
  simp only [h.1, h.2.1]
  rw [vp_gdT (by decide), if_pos (by decide), vp_gdT (by omega)]
theorem vgm_end {t : Nat → Int} {e A q : Nat} {st : vg_ST} {μ : vr_M} (h : vgm_D t e A μ q st) : ∃ r μ', fX10_land_B174 μ = some (r, μ') ∧ vgm_Z t e A μ r μ' (if q < e then (q, none) else (q, some st)) := by
  obtain ⟨⟨h6, h7, h8, h5⟩, -, -, -, he, h120, hA⟩ := h.1
  unfold fX10_land_B174 fX10_land_B192
  simp only [h6, h7, h8]
  rw [vp_gdT (by decide), if_neg (fun z => z trivial), vp_gdT (by omega), vp_gdT (by omega)]
  by_cases d : q < e
  · rw [if_neg (by omega), vp_gdT (by omega), if_pos d]
    exact ⟨_, _, rfl, rfl, he, vgm_K.rf.j⟩
  · have n5 : vr_u μ 69 2 (μ 69 2 + 1) 68 5 = (A : Int) := by rw [vp_un (by decide), h5]
    have n6 : vr_u (vr_u μ 69 2 (μ 69 2 + 1)) 69 9 (A : Int) 68 5 = (A : Int) := by rw [vp_un (by decide), n5]
    rw [if_pos (by omega), if_neg d, vp_let, vp_let]
    simp only [n5, n6]
    rw [vp_gdT (by omega)]
    exact ⟨_, _, rfl, μ, h, vgm_K.rf.j, rfl, rfl⟩
theorem vgm_loop {t : Nat → Int} {e A : Nat} : ∀ (k n q : Nat) (st : vg_ST) (μ : vr_M), vgm_D t e A μ q st → k ≤ 9 → ∃ r μ', fX10_land_L132 (n + k + 1) (10 - (k : Int)) μ = some (r, μ') ∧ vgm_Z t e A μ r μ' (vg_af (vg_C t e) e k q st) := by
  intro k
  induction k with
  | zero =>
    intro n q st μ h hk
    have E := vgm_end h
    unfold vg_af
    rw [fX10_land_L132.eq_2]
    simp only [h.1.1.2.2.1]
    rw [vp_gdT (by decide), if_neg (fun z => z trivial), if_pos (by omega)]
    exact E
  | succ k ih =>
    intro n q st μ h hk
    have E := vgm_end h
    obtain ⟨⟨h6, h7, h8, h5⟩, -, -, -, he, h120, hA⟩ := h.1
    unfold vg_af
    rw [fX10_land_L132.eq_2]
    simp only [h8]
    rw [vp_gdT (by decide), if_neg (fun z => z trivial), if_neg (by omega), vgm_here h.1, vp_bind]
    dsimp only
    by_cases d : q < e
    · rw [if_pos d] at E ⊢
      by_cases c5 : vg_C t e q = 59
      · rw [if_neg (fun z => z c5), if_pos c5]
        have kk : vgm_K A μ (vr_u μ 68 6 ((q + 1 : Nat) : Int)) := vgm_K.u (by decide)
        have D3 : vgm_D t e A (vr_u μ 68 6 ((q + 1 : Nat) : Int)) (q + 1) st := vgm_D_K h kk (vgm_st h.1 (vp_uc (by decide)) vp_us (vp_uj (by decide)) (by rw [vp_uj (by decide)]; exact h8) (vp_uj (by decide)) (by omega)) (by have := h.2.1; omega) (vp_uj (by decide)) rfl
        obtain ⟨μ1, y1, y2⟩ := vgm_clause D3
        simp only [h6]
        rw [show (q : Int) + 1 = ((q + 1 : Nat) : Int) by omega, y1, vp_bind, vp_gdT (by omega), show 10 - ((k + 1 : Nat) : Int) + 1 = 10 - (k : Int) by omega]
        match hm : vg_cl (vg_C t e) (q + 1) with
        | (q', none) =>
          rw [hm] at y2
          obtain ⟨x1, x2⟩ := y2
          refine ⟨-10 - (q' : Int), μ1, ?_, rfl, x1.2.2, kk.j.tr x2⟩
          rw [show n + (k + 1) = (n + k) + 1 by omega, fX10_land_L132.eq_2]
          simp only [x1.1]
          rw [vp_gdT (by decide), if_pos (by decide), vgm_badE x1 h120]
        | (q', some x) =>
          rw [hm] at y2
          obtain ⟨x1, x2⟩ := y2
          obtain ⟨r, μ', g1, g2⟩ := ih n q' (vg_ap x st) μ1 x1 (by omega)
          exact ⟨r, μ', g1, vgm_Z_J (kk.j.tr x2) g2⟩
      · rw [if_pos c5, if_neg c5]
        exact E
    · rw [if_neg d] at E ⊢
      have c5 : ¬ vg_C t e q = 59 := by
        unfold vg_C
        rw [if_neg d]
        decide
      rw [if_pos c5]
      exact E

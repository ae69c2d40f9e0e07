theorem vg_cl_n {C : Nat → Int} {p q : Nat} {L : List Int} {w : Int} (hw : vg_w C p = vg_wq C L q w) (h : w = 2 ∨ w = 3 ∨ w = 4 ∨ w = 5) : vg_cl C p = if vg_m C L q = L.length then (if vg_nv C (q + L.length) < 0 then (q + L.length, none) else (vg_np C (q + L.length), some (w, vg_nv C (q + L.length), []))) else (q + vg_m C L q, none) := by
  unfold vg_cl
  rw [hw]
  unfold vg_wq
  dsimp only
  by_cases c : vg_m C L q = L.length
  · rw [if_pos c, if_pos c, if_neg (by omega), if_neg (by omega), if_neg (show ¬ w = 0 by omega), c]
  · rw [if_neg c, if_neg c, if_pos (by decide)]
def vg_tl (C : Nat → Int) (p : Nat) (w n : Int) : Nat × Option vg_X3 := match vg_E0 C p with
  | (q, none) => (q, none)
  | (q, some ts) => (q, some (w, n, ts))
theorem vg_cl_w {C : Nat → Int} {p q : Nat} {L : List Int} (hw : vg_w C p = vg_wq C L q 1) : vg_cl C p = if vg_m C L q = L.length then vg_tl C (q + L.length) 1 (-1) else (q + vg_m C L q, none) := by
  unfold vg_cl
  rw [hw]
  unfold vg_wq
  dsimp only
  by_cases c : vg_m C L q = L.length
  · rw [if_pos c, if_pos c, if_neg (by omega), if_pos rfl, c]; rfl
  · rw [if_neg c, if_neg c, if_pos (by decide)]
theorem vg_cl_g {C : Nat → Int} {p q : Nat} {L : List Int} (hw : vg_w C p = vg_wq C L q 0) : vg_cl C p = if vg_m C L q = L.length then (if vg_nv C (q + L.length) < 0 then (q + L.length, none) else if C (vg_np C (q + L.length)) = 32 then vg_tl C (vg_np C (q + L.length) + 1) 0 (vg_nv C (q + L.length)) else (vg_np C (q + L.length), none)) else (q + vg_m C L q, none) := by
  unfold vg_cl
  rw [hw]
  unfold vg_wq
  dsimp only
  by_cases c : vg_m C L q = L.length
  · rw [if_pos c, if_pos c, if_neg (by omega), if_neg (by omega), if_pos rfl, c]; rfl
  · rw [if_neg c, if_neg c, if_pos (by decide)]
theorem vg_cl_0 {C : Nat → Int} {p : Nat} (hw : vg_w C p = (p, -1)) : vg_cl C p = (p, none) := by
  unfold vg_cl
  rw [hw]
  rfl
theorem vgm_D_K {t : Nat → Int} {e A p q : Nat} {st st' : vg_ST} {μ μ' : vr_M} (h : vgm_D t e A μ p st) (k : vgm_K A μ μ') (s : vgm_S t e A μ' q 0 (vg_raw st'.1)) (hl : (vg_raw st'.1).length ≤ q) (o : μ' 68 9 = μ 68 9) (hc : st'.2 = st.2) : vgm_D t e A μ' q st' := by
  have hA := h.1.2.2.2.2.2.2
  obtain ⟨-, -, ho, d1, d2, d3, d4⟩ := h
  refine ⟨s, hl, o.trans ho, ?_, ?_, ?_, ?_⟩
  · rw [k.2.2 _ (by omega) (by omega), hc]; exact d1
  · rw [k.2.2 _ (by omega) (by omega), hc]; exact d2
  · rw [k.2.2 _ (by omega) (by omega), hc]; exact d3
  · rw [k.2.2 _ (by omega) (by omega), hc]; exact d4
theorem vgm_Q_J {t : Nat → Int} {e A : Nat} {st : vg_ST} {μ μ1 μ' : vr_M} {x : Nat × Option vg_X3} (j : vgm_J A μ μ1) (h : vgm_Q t e A st μ1 μ' x) : vgm_Q t e A st μ μ' x := by
  match x with
  | (q, none) => exact ⟨h.1, j.tr h.2⟩
  | (q, some y) => exact ⟨h.1, j.tr h.2⟩
theorem vgm_tailF {y : Int} {μ : vr_M} (h : μ 68 8 = 1) : (fX10_some (fX10_factor 8) μ).bind (fun r => (fX10_emits y r.2).bind (fun r2 => fX10_clauseHere_B191 r2.2)) = some (0, μ) := by
  rw [vgm_someFF h, vp_bind]
  dsimp only
  rw [vgm_emitF h, vp_bind]
  rfl
theorem vgm_tail {t : Nat → Int} {e A p : Nat} {st : vg_ST} {μ : vr_M} {y w n : Int} (h : vgm_D t e A μ p st) (hl : (vg_raw st.1).length + 1 ≤ p) (hy : y = vm_e (vm_m n)) (hw : w = 0 ∨ w = 1) :
    ∃ μ', (fX10_some (fX10_factor 8) μ).bind (fun r => (fX10_emits y r.2).bind (fun r2 => fX10_clauseHere_B191 r2.2)) = some (0, μ') ∧ vgm_Q t e A st μ μ' (vg_tl (vg_C t e) p w n) := by
  have hE := vg_CE t e
  have he := h.1.2.2.2.2
  obtain ⟨μ1, m1, m2⟩ := vgm_cond h.1 (by omega) h.2.2.1
  have gG := vg_E0_G hE he.1
  unfold vg_tl
  rw [m1, vp_bind]
  dsimp only
  match hm : vg_E0 (vg_C t e) p with
  | (q, none) =>
    rw [hm] at m2
    obtain ⟨x1, x2, x3⟩ := m2
    refine ⟨μ1, ?_, x1, x2.j⟩
    rw [vgm_emitF x1.1, vp_bind]
    rfl
  | (q, some ts) =>
    rw [hm] at m2 gG
    obtain ⟨x1, x2, x3, x4⟩ := m2
    obtain ⟨g1, g2, g3⟩ := gG
    obtain ⟨μ2, e1, e2, e3, e4, e5⟩ := vgm_emit x1 (by simp; omega) hy
    refine ⟨μ2, ?_, vgm_D_K h (x2.tr e3) ?_ ?_ (e4.trans x3) ?_, (x2.tr e3).j⟩
    · rw [e1, vp_bind]
      rfl
    · unfold vg_ap
      rw [if_pos hw, vg_raw_app]
      exact e2
    · unfold vg_ap
      rw [if_pos hw, vg_raw_app]
      simp
      omega
    · unfold vg_ap
      rw [if_pos hw]
theorem vgm_wear {t : Nat → Int} {e A p : Nat} {st : vg_ST} {μ : vr_M} (h : vgm_D t e A μ p st) :
    ∃ μ', (fX10_spells 14 μ).bind (fun r15 => (fX10_some (fX10_factor 8) r15.2).bind (fun r16 => (fX10_emits (-200) r16.2).bind (fun r17 => fX10_clauseHere_B191 r17.2))) = some (0, μ') ∧ vgm_Q t e A st μ μ' (if vg_m (vg_C t e) (vg_L 14) p = (vg_L 14).length then vg_tl (vg_C t e) (p + (vg_L 14).length) 1 (-1) else (p + vg_m (vg_C t e) (vg_L 14) p, none)) := by
  obtain ⟨μ1, m1, m2, m3, m4, m5⟩ := vgm_spells (s := 14) (by decide) (by decide) h.1
  have hl : (vg_L 14).length = 4 := by decide
  rw [m1, vp_bind]
  dsimp only
  by_cases c : vg_m (vg_C t e) (vg_L 14) p = (vg_L 14).length
  · rw [if_pos c] at m5
    rw [if_pos c]
    have := h.2.1
    obtain ⟨μ2, g1, g2⟩ := vgm_tail (y := -200) (w := 1) (n := -1) (vgm_D_K h m2 m5 (by omega) m3 rfl) (by omega) rfl (Or.inr rfl)
    exact ⟨μ2, g1, vgm_Q_J m2.j g2⟩
  · rw [if_neg c] at m5
    rw [if_neg c, vgm_tailF m5.1]
    exact ⟨μ1, rfl, m5, m2.j⟩
theorem vgm_give {t : Nat → Int} {e A p : Nat} {st : vg_ST} {μ : vr_M} (h : vgm_D t e A μ p st) :
    ∃ μ', (fX10_spells 10 μ).bind (fun r5 => (fX10_figures  r5.2).bind (fun r6 => (fX10_must 32 r6.2).bind (fun r7 => (fX10_some (fX10_factor 8) r7.2).bind (fun r8 => vr_gd (vr_R ((-10) - r6.1)) ((fX10_emits ((-10) - r6.1) r8.2).bind (fun r10 => fX10_clauseHere_B191 r10.2)))))) = some (0, μ') ∧ vgm_Q t e A st μ μ' (if vg_m (vg_C t e) (vg_L 10) p = (vg_L 10).length then (if vg_nv (vg_C t e) (p + (vg_L 10).length) < 0 then (p + (vg_L 10).length, none) else if (vg_C t e) (vg_np (vg_C t e) (p + (vg_L 10).length)) = 32 then vg_tl (vg_C t e) (vg_np (vg_C t e) (p + (vg_L 10).length) + 1) 0 (vg_nv (vg_C t e) (p + (vg_L 10).length)) else (vg_np (vg_C t e) (p + (vg_L 10).length), none)) else (p + vg_m (vg_C t e) (vg_L 10) p, none)) := by
  have hE := vg_CE t e
  obtain ⟨μ1, m1, m2, m3, m4, m5⟩ := vgm_spells (s := 10) (by decide) (by decide) h.1
  have hl : (vg_L 10).length = 4 := by decide
  have he := h.1.2.2.2.2
  rw [m1, vp_bind]
  dsimp only
  by_cases c : vg_m (vg_C t e) (vg_L 10) p = (vg_L 10).length
  · rw [if_pos c] at m5
    rw [if_pos c]
    have hp := h.2.1
    have D1 : vgm_D t e A μ1 (p + (vg_L 10).length) st := vgm_D_K h m2 m5 (by omega) m3 rfl
    generalize hq0 : p + (vg_L 10).length = q at *
    have hq := m5.2.2.2.2.1
    obtain ⟨μ2, f1, f2, f3, f4, f5⟩ := vgm_fig m5.1.1 m5.1.2.1 m5.1.2.2.1 m5.2.1 (by omega) (show q ≤ 900 by omega)
    have np := vg_np_G hE hq
    have nv := vg_nv_in (vg_C t e) q
    have k2 : vgm_K A μ1 μ2 := ⟨f2.mono (by decide), fun j j1 j2 _ => f3 j j1 j2, fun j _ _ => by rw [f2 69 (by decide)]⟩
    rw [f1, vp_bind]
    dsimp only
    by_cases c2 : vg_nv (vg_C t e) q < 0
    · rw [if_pos c2] at f5
      rw [if_pos c2, if_pos c2]
      have F2 : vgm_F e μ2 q := ⟨f5, by rw [f4, np.1 c2], hq⟩
      obtain ⟨μ3, x1, x2, x3, x4⟩ := vgm_mustF (A := A) (ch := 32) F2 (by omega)
      rw [x1, vp_bind]
      simp only [vp_gdT (show vr_R ((-10) - 0) by decide)]
      rw [vgm_tailF x2.1]
      exact ⟨μ3, rfl, x2, ((m2.tr k2).tr x3).j⟩
    · rw [if_neg c2] at f5
      have np2 := np.2 (by omega)
      rw [if_neg c2, if_neg c2]
      have S2 : vgm_S t e A μ2 (vg_np (vg_C t e) q) 0 (vg_raw st.1) := vgm_st m5 (f2 69 (by decide)) f4 (f3 7 (by decide) (by decide)) f5 (f3 5 (by decide) (by decide)) np2.2
      have o2 : μ2 68 9 = μ1 68 9 := f3 9 (by decide) (by decide)
      obtain ⟨μ3, x1, x2, x3, x4, x5⟩ := vgm_must (ch := 32) S2 (by decide)
      rw [x1, vp_bind]
      simp only [vp_gdT (show vr_R ((-10) - vg_nv (vg_C t e) q) by omega)]
      by_cases c3 : vg_C t e (vg_np (vg_C t e) q) = 32
      · rw [if_pos c3] at x5
        rw [if_pos c3]
        obtain ⟨μ4, g1, g2⟩ := vgm_tail (y := -10 - vg_nv (vg_C t e) q) (w := 0) (n := vg_nv (vg_C t e) q) (vgm_D_K D1 (k2.tr x2) x5 (by omega) (x3.trans o2) rfl) (by omega) (by
          rw [vm_m_neg (Or.inr (by omega))]
          unfold vm_m
          rw [if_neg (by omega)]) (Or.inl rfl)
        exact ⟨μ4, g1, vgm_Q_J ((m2.tr k2).tr x2).j g2⟩
      · rw [if_neg c3] at x5
        rw [if_neg c3, vgm_tailF x5.1]
        exact ⟨μ3, rfl, x5, ((m2.tr k2).tr x2).j⟩
  · rw [if_neg c] at m5
    rw [if_neg c, vgm_figF m5.1, vp_bind]
    dsimp only
    have F2 : vgm_F e (vr_u μ1 68 8 1) (p + vg_m (vg_C t e) (vg_L 10) p) := ⟨vp_us, by rw [vp_uj (by decide)]; exact m5.2.1, m5.2.2⟩
    obtain ⟨μ3, x1, x2, x3, x4⟩ := vgm_mustF (A := A) (ch := 32) F2 (by omega)
    rw [x1, vp_bind]
    simp only [vp_gdT (show vr_R ((-10) - 0) by decide)]
    rw [vgm_tailF x2.1]
    exact ⟨μ3, rfl, x2, ((m2.tr (vgm_K.u (by decide))).tr x3).j⟩
/-- a clause -/
theorem vgm_clause {t : Nat → Int} {e A p : Nat} {st : vg_ST} {μ : vr_M} (h : vgm_D t e A μ p st) : ∃ μ', fX10_clauseHere μ = some (0, μ') ∧ vgm_Q t e A st μ μ' (vg_cl (vg_C t e) p) := by
  have hE := vg_CE t e
  have hh := vgm_here h.1
  obtain ⟨L9, L10, L13, L14, L15, L16⟩ := vg_L9
  have B : ∀ (x : Option (Int × vr_M)) (f : Int × vr_M → Option (Int × vr_M)) (hf : ∀ r, f r = some (0, r.2)) (Q : vr_M → Prop), (∃ μ', x = some (0, μ') ∧ Q μ') → ∃ μ', x.bind f = some (0, μ') ∧ Q μ' := fun x f hf Q ⟨μ', q1, q2⟩ => ⟨μ', by rw [q1, vp_bind, hf], q2⟩
  unfold fX10_clauseHere
  rw [hh, vp_bind]
  dsimp only
  generalize hc : vg_C t e p = c
  by_cases c1 : c = 100
  · subst c1
    have hw : vg_w (vg_C t e) p = vg_wq (vg_C t e) (vg_L 16) p 5 := by
      unfold vg_w
      rw [hc, L16, if_neg (by decide), if_neg (by decide), if_neg (by decide), if_pos rfl]
    rw [vg_cl_n hw (by decide)]
    simp only [vr_ls, if_true]
    exact B _ _ (fun _ => rfl) _ (vgm_tellsH (b := 223) (by decide) (by decide) h (by decide))
  by_cases c2 : c = 103
  · subst c2
    simp only [vr_ls, Int.reduceEq, if_true, if_false]
    obtain ⟨μ1, x1, x2, x3, x4, x5⟩ := vgm_must (ch := 103) h.1 (by decide)
    rw [if_pos hc] at x5
    have D1 : vgm_D t e A μ1 (p + 1) st := vgm_D_K h x2 x5 (by have := h.2.1; omega) x3 rfl
    rw [x1, vp_bind]
    dsimp only
    rw [vgm_here D1.1, vp_bind]
    dsimp only
    by_cases d : vg_C t e (p + 1) = 114
    · have hw : vg_w (vg_C t e) p = vg_wq (vg_C t e) (vg_L 9) (p + 1) 4 := by
        unfold vg_w
        rw [hc, L9, if_pos rfl, if_pos d]
      rw [vg_cl_n hw (by decide), if_neg (fun q => q d)]
      obtain ⟨μ2, g1, g2⟩ := B _ (fun r => fX10_clauseHere_B191 r.2) (fun _ => rfl) _ (vgm_tellsH (b := 218) (s := 9) (w := 4) (most := 99) (by decide) (by decide) D1 (by decide))
      exact ⟨μ2, g1, vgm_Q_J x2.j g2⟩
    · have hw : vg_w (vg_C t e) p = vg_wq (vg_C t e) (vg_L 10) (p + 1) 0 := by
        unfold vg_w
        rw [hc, L10, if_pos rfl, if_neg d]
      rw [vg_cl_g hw, if_pos d]
      obtain ⟨μ2, g1, g2⟩ := vgm_give D1
      exact ⟨μ2, g1, vgm_Q_J x2.j g2⟩
  by_cases c3 : c = 109
  · subst c3
    have hw : vg_w (vg_C t e) p = vg_wq (vg_C t e) (vg_L 15) p 3 := by
      unfold vg_w
      rw [hc, L15, if_neg (by decide), if_neg (by decide), if_pos rfl]
    rw [vg_cl_n hw (by decide)]
    simp only [vr_ls, Int.reduceEq, if_true, if_false]
    exact B _ _ (fun _ => rfl) _ (vgm_tellsH (b := 213) (by decide) (by decide) h (by decide))
  by_cases c4 : c = 119
  · subst c4
    simp only [vr_ls, Int.reduceEq, if_true, if_false]
    obtain ⟨μ1, x1, x2, x3, x4, x5⟩ := vgm_must (ch := 119) h.1 (by decide)
    rw [if_pos hc] at x5
    have D1 : vgm_D t e A μ1 (p + 1) st := vgm_D_K h x2 x5 (by have := h.2.1; omega) x3 rfl
    rw [x1, vp_bind]
    dsimp only
    rw [vgm_here D1.1, vp_bind]
    dsimp only
    by_cases d : vg_C t e (p + 1) = 97
    · have hw : vg_w (vg_C t e) p = vg_wq (vg_C t e) (vg_L 13) (p + 1) 2 := by
        unfold vg_w
        rw [hc, L13, if_neg (by decide), if_pos rfl, if_pos d]
      rw [vg_cl_n hw (by decide), if_neg (fun q => q d)]
      obtain ⟨μ2, g1, g2⟩ := B _ (fun r => fX10_clauseHere_B191 r.2) (fun _ => rfl) _ (vgm_tellsH (b := 208) (s := 13) (w := 2) (most := 99) (by decide) (by decide) D1 (by decide))
      exact ⟨μ2, g1, vgm_Q_J x2.j g2⟩
    · have hw : vg_w (vg_C t e) p = vg_wq (vg_C t e) (vg_L 14) (p + 1) 1 := by
        unfold vg_w
        rw [hc, L14, if_neg (by decide), if_pos rfl, if_neg d]
      rw [vg_cl_w hw, if_pos d]
      obtain ⟨μ2, g1, g2⟩ := vgm_wear D1
      exact ⟨μ2, g1, vgm_Q_J x2.j g2⟩
  have hw : vg_w (vg_C t e) p = (p, -1) := by
    unfold vg_w
    rw [hc, if_neg c2, if_neg c4, if_neg c3, if_neg c1]
  rw [vg_cl_0 hw]
  simp only [vr_ls]
  rw [if_neg c1, if_neg c2, if_neg c3, if_neg c4]
  exact ⟨_, rfl, ⟨vp_us, by rw [vp_uj (by decide)]; exact h.1.1.1, h.1.2.2.2.2.1⟩, (vgm_K.u (by decide)).j⟩

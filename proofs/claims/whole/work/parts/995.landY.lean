/-! a land on both sides -/
theorem vl_toks_at : ∀ (cl : vl_C) (j : Nat) (h : j < cl.length) (i : Nat), i < (cl[j]).2.length → vl_end cl j + i < (vl_toks cl).length ∧ (vl_toks cl).getD (vl_end cl j + i) 0 = (cl[j]).2.getD i 0
  | [], j, h, i, hi => by simp at h
  | q :: cl, 0, h, i, hi => by
    have e0 : vl_end (q :: cl) 0 = 0 := rfl
    have e1 : vl_toks (q :: cl) = q.2 ++ vl_toks cl := by unfold vl_toks; rw [List.flatMap_cons]
    simp only [List.getElem_cons_zero] at hi ⊢
    rw [e0, e1, Nat.zero_add]
    refine ⟨by simp; omega, ?_⟩
    simp [List.getD, List.getElem?_append, hi]
  | q :: cl, j + 1, h, i, hi => by
    have e0 : vl_end (q :: cl) (j + 1) = q.2.length + vl_end cl j := by
      unfold vl_end
      rw [List.take_succ_cons, List.map_cons, List.sum_cons]
    have e1 : vl_toks (q :: cl) = q.2 ++ vl_toks cl := by unfold vl_toks; rw [List.flatMap_cons]
    simp only [List.length_cons] at h
    simp only [List.getElem_cons_succ] at hi ⊢
    obtain ⟨g1, g2⟩ := vl_toks_at cl j (by omega) i hi
    rw [e0, e1]
    refine ⟨by simp; omega, ?_⟩
    rw [← g2]
    simp only [List.getD]
    rw [List.getElem?_append_right (by omega), show q.2.length + vl_end cl j + i - q.2.length = vl_end cl j + i by omega]
theorem vg_raw_fl : ∀ (cl : vl_C), (∀ q ∈ cl, (q.1 = -1 ∨ 0 ≤ q.1 ∧ q.1 ≤ 99) ∧ vl_ok q.2 0) → (vg_raw cl).map vm_e = vm_fl cl
  | [], _ => rfl
  | q :: cl, h => by
    have ih := vg_raw_fl cl (fun p hp => h p (by simp [hp]))
    have e1 : vg_raw (q :: cl) = (q.2 ++ [vm_m q.1]) ++ vg_raw cl := by unfold vg_raw; rw [List.flatMap_cons]
    have e2 : vm_fl (q :: cl) = (q.2.map vm_e ++ [vm_m q.1]) ++ vm_fl cl := by unfold vm_fl; rw [List.flatMap_cons]
    have e3 : vm_e (vm_m q.1) = vm_m q.1 := vm_m_neg ((h q (by simp)).1.imp id (fun z => z.1))
    rw [e1, e2, List.map_append, List.map_append, ih, List.map_cons, List.map_nil, e3]
theorem vgc_at {t : Nat → Int} {e p : Nat} {st : vg_ST} {μ : vr_M} (h : vgc_D t e μ p st) (ok : vg_okN 10 st) : vl_wf st.1 ∧ vl_at 45 μ st.1 := by
  obtain ⟨⟨h1, h2, h3, h4, h5⟩, h6, ⟨h7, h8⟩, -⟩ := h
  have e120 := h1.2.1
  refine ⟨⟨ok.1, by rw [vl_end_toks]; omega, ok.2.1⟩, h7, fun j hj => ⟨(h8 j hj).1, (h8 j hj).2, fun i hi => ?_⟩⟩
  obtain ⟨g1, g2⟩ := vl_toks_at st.1 j hj i hi
  have := h4 _ g1
  rw [Nat.zero_add, g2] at this
  exact this
theorem vm_L_lo {s s' : Nat → Int} {cl : vl_C} {wk mv gr dr : Int} (h : vm_L (fun _ => s) cl wk mv gr dr) (e9 : s' 9 = s 9) (e : ∀ B : Nat, s 9 = (B : Int) → B ≤ 4 → ∀ j, (j = 208 + B ∨ j = 213 + B ∨ j = 218 + B ∨ j = 223 + B ∨ j = 228 + B ∨ (233 + 140 * B ≤ j ∧ j < 373 + 140 * B)) → s' j = s j) : vm_L (fun _ => s') cl wk mv gr dr := by
  obtain ⟨⟨h1, h2, h3⟩, h4, h5⟩ := h
  refine ⟨⟨h1, h2, ?_⟩, ?_, h5⟩
  · rcases h3 with ⟨h3, h6⟩ | ⟨A, a1, a2, a3, a4⟩
    · exact Or.inl ⟨e9.trans h3, h6⟩
    · exact Or.inr ⟨A, e9.trans a1, a2, (e A a1 a2 _ (by omega)).trans a3, fun i hi => (e A a1 a2 _ (by omega)).trans (a4 i hi)⟩
  · rcases h4 with ⟨h4, h6⟩ | ⟨A, a1, a2, a3, a4, a5, a6⟩
    · exact Or.inl ⟨e9.trans h4, h6⟩
    · exact Or.inr ⟨A, e9.trans a1, a2, (e A a1 a2 _ (by omega)).trans a3, (e A a1 a2 _ (by omega)).trans a4, (e A a1 a2 _ (by omega)).trans a5, (e A a1 a2 _ (by omega)).trans a6⟩
def vg_st0 : vg_ST := ([], 99, 0, 0, 0)
theorem vg_ok0 : vg_okN 0 vg_st0 := ⟨Nat.le_refl _, fun q hq => by simp [vg_st0] at hq, by decide, by decide, by decide, by decide⟩
def vg_la (C : Nat → Int) (e : Nat) : Nat × Option vg_ST := vg_nx C e 9 0 vg_st0
/-- the class's side -/
theorem vgc_fault {tn : Nat} {tp : Nat → Int} {μ : vr_M} (h : vn_li 13 120 0 255 μ tn tp) : ∃ r μ', fX6_fault μ = some (r, μ') ∧ vgc_Z tp tn μ r μ' (vg_la (vg_C tp tn) tn) := by
  generalize hM : vr_u (vr_u (vr_u (vr_u (vr_u (vr_u (vr_u μ 45 3 0) 45 4 0) 45 5 99) 45 6 0) 45 7 0) 45 8 0) 50 2 0 = M
  have f : vp_fr [45, 50] μ M := by
    rw [← hM]
    exact ((((((vp_fr.u (by decide)).tr (vp_fr.u (by decide))).tr (vp_fr.u (by decide))).tr (vp_fr.u (by decide))).tr (vp_fr.u (by decide))).tr (vp_fr.u (by decide))).tr (vp_fr.u (by decide))
  have D : vgc_D tp tn M 0 vg_st0 := by
    refine ⟨⟨h.fr f (by decide) (by decide), by rw [← hM]; exact vp_us, ?_, fun i hi => by simp [vg_st0, vl_toks] at hi, Nat.zero_le _⟩, Nat.le_refl _, ⟨?_, fun j hj => by simp [vg_st0] at hj⟩, ?_, ?_, ?_, ?_⟩ <;> (rw [← hM]; simp [vr_u, vg_st0, vl_toks])
  obtain ⟨r, μ', g1, g2⟩ := vgc_loop 9 8990 0 vg_st0 M D (by decide)
  refine ⟨r, μ', ?_, vgc_Z_tr (f.mono (by decide)) g2⟩
  rw [fX6_fault, fX3_clear, vp_bind]
  dsimp only
  rw [hM]
  exact g1
/-- the reference's side -/
theorem vgm_land {tn A : Nat} {tp : Nat → Int} {μ : vr_M} (h : vm_li 4 10 120 0 255 (μ 69) tn tp) (h2 : μ 69 2 = (A : Int)) (hA : A ≤ 4) : ∃ r μ' N, fX10_land μ = some (r, μ') ∧ vp_fr [68, 69] μ N ∧ (∀ j, j < 5 ∨ 9 < j → N 68 j = μ 68 j) ∧ N 69 4 = 0 ∧ (∀ j, j ≠ 4 → j ≠ 208 + A → j ≠ 213 + A → j ≠ 218 + A → j ≠ 223 + A → j ≠ 228 + A → N 69 j = μ 69 j) ∧ vgm_Z tp tn A N r μ' (vg_la (vg_C tp tn) tn) := by
  obtain ⟨h3, h4, h5⟩ := h
  have eA : ∀ b : Nat, ((b : Int) + (A : Int)).toNat = b + A := fun b => by omega
  have e208 : ((208 : Int) + (A : Int)).toNat = 208 + A := by omega
  have e213 : ((213 : Int) + (A : Int)).toNat = 213 + A := by omega
  have e218 : ((218 : Int) + (A : Int)).toNat = 218 + A := by omega
  have e223 : ((223 : Int) + (A : Int)).toNat = 223 + A := by omega
  have e228 : ((228 : Int) + (A : Int)).toNat = 228 + A := by omega
  generalize m1 : vr_u (vr_u (vr_u μ 68 5 (A : Int)) 68 7 (tn : Int)) 69 4 0 = M1
  generalize m2 : vr_u M1 69 (208 + A) 99 = M2
  generalize m3 : vr_u M2 69 (213 + A) 0 = M3
  generalize m4 : vr_u M3 69 (218 + A) 0 = M4
  generalize m5 : vr_u M4 69 (223 + A) 0 = M5
  generalize m6 : vr_u (vr_u (vr_u (vr_u M5 69 (228 + A) 0) 68 6 0) 68 8 0) 68 9 0 = N
  have t1 : vr_u μ 68 5 (A : Int) 69 4 = (tn : Int) := by rw [vp_un (by decide), h3]
  have s1 : M1 68 5 = (A : Int) := by rw [← m1, vp_un (by decide), vp_uj (by decide), vp_us]
  have s2 : M2 68 5 = (A : Int) := by rw [← m2, vp_un (by decide), s1]
  have s3 : M3 68 5 = (A : Int) := by rw [← m3, vp_un (by decide), s2]
  have s4 : M4 68 5 = (A : Int) := by rw [← m4, vp_un (by decide), s3]
  have s5 : M5 68 5 = (A : Int) := by rw [← m5, vp_un (by decide), s4]
  have run : fX10_land μ = (fX10_clauseHere N).bind (fun r24 => fX10_land_L132 9000 1 r24.2) := by
    unfold fX10_land
    simp only [h2]
    rw [vp_gdT (by omega), if_pos (by omega), vp_let]
    simp only [t1]
    rw [vp_let, m1]
    simp only [s1, e208]
    rw [vp_gdT (by omega), vp_let, m2]
    simp only [s2, e213]
    rw [vp_gdT (by omega), vp_let, m3]
    simp only [s3, e218]
    rw [vp_gdT (by omega), vp_let, m4]
    simp only [s4, e223]
    rw [vp_gdT (by omega), vp_let, m5]
    simp only [s5, e228]
    rw [vp_gdT (by omega), m6]
  have k1 : vp_fr [68, 69] μ M1 := by rw [← m1]; exact ((vp_fr.u (by decide)).tr (vp_fr.u (by decide))).tr (vp_fr.u (by decide))
  have k5 : vp_fr [68, 69] M1 M5 := by
    rw [← m5, ← m4, ← m3, ← m2]
    exact (((vp_fr.u (by decide)).tr (vp_fr.u (by decide))).tr (vp_fr.u (by decide))).tr (vp_fr.u (by decide))
  have k6 : vp_fr [68, 69] M5 N := by
    rw [← m6]
    exact (((vp_fr.u (by decide)).tr (vp_fr.u (by decide))).tr (vp_fr.u (by decide))).tr (vp_fr.u (by decide))
  have k := (k1.tr k5).tr k6
  have c69 : N 69 = vr_u M5 69 (228 + A) 0 69 := by rw [← m6, vp_uc (by decide), vp_uc (by decide), vp_uc (by decide)]
  have q68 : ∀ j, M5 68 j = M1 68 j := fun j => by rw [← m5, vp_un (by decide), ← m4, vp_un (by decide), ← m3, vp_un (by decide), ← m2, vp_un (by decide)]
  have p68 : ∀ j, j < 5 ∨ 9 < j → N 68 j = μ 68 j := fun j hj => by
    rw [← m6, vp_uj (by omega), vp_uj (by omega), vp_uj (by omega), vp_un (by decide), q68, ← m1, vp_un (by decide), vp_uj (by omega), vp_uj (by omega)]
  have E : ∀ j, j ≠ 4 → j ≠ 208 + A → j ≠ 213 + A → j ≠ 218 + A → j ≠ 223 + A → j ≠ 228 + A → N 69 j = μ 69 j := fun j j0 j1 j2 j3 j4 j5 => by
    rw [c69, vp_uj j5, ← m5, vp_uj j4, ← m4, vp_uj j3, ← m3, vp_uj j2, ← m2, vp_uj j1, ← m1, vp_uj j0, vp_un (by decide), vp_un (by decide)]
  have E4 : N 69 4 = 0 := by
    rw [c69, vp_uj (by omega), ← m5, vp_uj (by omega), ← m4, vp_uj (by omega), ← m3, vp_uj (by omega), ← m2, vp_uj (by omega), ← m1, vp_us]
  have D : vgm_D tp tn A N 0 vg_st0 := by
    refine ⟨⟨⟨?_, ?_, ?_, ?_⟩, fun i hi => ?_, ?_, fun i hi => by simp [vg_st0, vg_raw] at hi, Nat.zero_le _, h4, hA⟩, Nat.le_refl _, ?_, ?_, ?_, ?_, ?_⟩
    · rw [← m6, vp_uj (by decide), vp_uj (by decide), vp_us]; rfl
    · rw [← m6, vp_uj (by decide), vp_uj (by decide), vp_uj (by decide), vp_un (by decide), q68, ← m1, vp_un (by decide), vp_us]
    · rw [← m6, vp_uj (by decide), vp_us]
    · rw [← m6, vp_uj (by decide), vp_uj (by decide), vp_uj (by decide), vp_un (by decide), q68, s1]
    · rw [E _ (by omega) (by omega) (by omega) (by omega) (by omega) (by omega)]
      exact h5 i hi
    · rw [c69, vp_us]; rfl
    · rw [← m6, vp_us]
    · rw [c69, vp_uj (by omega), ← m5, vp_uj (by omega), ← m4, vp_uj (by omega), ← m3, vp_uj (by omega), ← m2, vp_us]; rfl
    · rw [c69, vp_uj (by omega), ← m5, vp_uj (by omega), ← m4, vp_uj (by omega), ← m3, vp_us]; rfl
    · rw [c69, vp_uj (by omega), ← m5, vp_uj (by omega), ← m4, vp_us]; rfl
    · rw [c69, vp_uj (by omega), ← m5, vp_us]; rfl
  obtain ⟨μ1, y1, y2⟩ := vgm_clause D
  rw [run, y1, vp_bind]
  dsimp only
  unfold vg_la vg_nx
  match hm : vg_cl (vg_C tp tn) 0 with
  | (q', none) =>
    rw [hm] at y2
    obtain ⟨x1, x2⟩ := y2
    refine ⟨-10 - (q' : Int), μ1, N, ?_, k, p68, E4, E, rfl, x1.2.2, x2⟩
    rw [show (9000 : Nat) = 8999 + 1 from rfl, fX10_land_L132.eq_2]
    simp only [x1.1]
    rw [vp_gdT (by decide), if_pos (by decide), vgm_badE x1 h4]
  | (q', some x) =>
    rw [hm] at y2
    obtain ⟨x1, x2⟩ := y2
    obtain ⟨r, μ', g1, g2⟩ := vgm_loop 9 8990 q' (vg_ap x vg_st0) μ1 x1 (by decide)
    exact ⟨r, μ', N, g1, k, p68, E4, E, vgm_Z_J x2 g2⟩
theorem vz_land : vz_S fX9_land fX10_land := by
  intro Y μ hY hR
  obtain ⟨h, cl, wk, mv, gr, dr, tn, tp, rn, row, an, ag, n, rk, rv, ld, ww, d, b, r1, r2, bm⟩ := vz_open hR
  obtain ⟨⟨w1, w2⟩, ⟨w3, w4, w5⟩, x1, x2, x3, x4, x5, w11, w12⟩ := id ww
  obtain ⟨d1, d2, y1, y2, y3, y4, d7, d9⟩ := id d
  rw [fX9_land]
  simp only [w11]
  rw [vp_gdT (by omega)]
  by_cases c : ld < 5
  · rw [if_pos c]
    obtain ⟨A, hA⟩ : ∃ A : Nat, ld = (A : Int) := ⟨ld.toNat, by omega⟩
    obtain ⟨r, μ1, g1, g2⟩ := vgc_fault (μ := μ) x1
    rw [g1, vp_bind]
    dsimp only
    match hm : vg_la (vg_C tp tn) tn with
    | (q, none) =>
      rw [hm] at g2
      obtain ⟨rfl, g3, g4⟩ := g2
      have g120 := x1.2.1
      rw [if_neg (by omega), vp_gdT (by omega)]
      generalize hM : vr_u μ1 13 1 0 = M
      have f : vp_fr [13, 45, 46, 47, 48, 50] μ M := by rw [← hM]; exact (g4.mono (by decide)).tr (vp_fr.u (by decide))
      have f69 : M 69 = μ 69 := f 69 (by decide)
      obtain ⟨r', μ2, N, l1, l2, l3, l4, l5, l6⟩ := vgm_land (μ := M) (A := A) (tn := tn) (tp := tp) (by rw [f69]; exact y1) (by rw [f69, d7, hA]) (by omega)
      rw [hm] at l6
      obtain ⟨rfl, z1, z2⟩ := l6
      refine ⟨_, M, μ2, rfl, l1, ?_⟩
      have F := l2.tr z2.1
      have Ec : ∀ c, c ∉ [13, 45, 46, 47, 48, 50, 68, 69] → μ2 c = μ c := fun c hc => by
        simp at hc
        rw [F c (by simp; omega), f c (by simp; omega)]
      have E : ∀ j, j ≠ 4 → j ≠ 208 + A → j ≠ 213 + A → j ≠ 218 + A → j ≠ 223 + A → j ≠ 228 + A → ¬ (233 + 140 * A ≤ j ∧ j < 373 + 140 * A) → μ2 69 j = μ 69 j := fun j j0 j1 j2 j3 j4 j5 j6 => by
        rw [z2.2.2 j j1 j2 j3 j4 j5 j6, l5 j j0 j1 j2 j3 j4 j5, f69]
      have E8 : ∀ j, j < 5 ∨ 9 < j → μ2 68 j = μ 68 j := fun j hj => by
        rw [z2.2.1 j (by omega) (by omega) (by omega), l3 j hj, f 68 (by decide)]
      refine vz_R.mk (vz_w.mono (Y := Y) ⟨h, cl, wk, mv, gr, dr, 0, tp, rn, row, an, ag, n, rk, rv, ld, ww.li (fun j hj => Ec _ (by simp; omega)) ⟨?_, by decide, fun i hi => by omega⟩ (x2.e (Ec _ (by decide)) (Ec _ (by decide))) (x3.e (Ec _ (by decide)) (Ec _ (by decide))) (x4.e (Ec _ (by decide)) (Ec _ (by decide))) (x5.e (Ec _ (by decide)) (Ec _ (by decide))), ?_, ?_, ⟨?_, by decide, fun i hi => by omega⟩, ?_, ?_, ?_, ?_, ?_⟩ (by omega)) ((vz_R.mono hR (show Y ≤ Y + 40 by omega)).k.fr (Ec 0 (by decide)) (fun j hj hj2 => Ec _ (by simp; omega)) (Ec 66 (by decide)) (Ec 67 (by decide)) (Ec 70 (by decide)) (Ec 77 (by decide)) (E8 4 (by decide)) (E8 22 (by decide))) ?_
      · rw [F 13 (by decide), ← hM]; exact vp_us
      · rw [← d1]
        exact vm_h_ag (fun j hj => E j (by unfold vm_hi at hj; omega) (by unfold vm_hi at hj; omega) (by unfold vm_hi at hj; omega) (by unfold vm_hi at hj; omega) (by unfold vm_hi at hj; omega) (by unfold vm_hi at hj; omega) (by unfold vm_hi at hj; omega))
      · refine vm_L_lo d2 (E 9 (by omega) (by omega) (by omega) (by omega) (by omega) (by omega) (by omega)) (fun B hB hB4 j hj => ?_)
        have : B + 1 = A := by omega
        exact E j (by omega) (by omega) (by omega) (by omega) (by omega) (by omega) (by omega)
      · rw [z2.2.2 4 (by omega) (by omega) (by omega) (by omega) (by omega) (by omega), l4]; rfl
      · exact vm_li_ag y2 (E _ (by omega) (by omega) (by omega) (by omega) (by omega) (by omega) (by omega)) (fun i hi => E _ (by omega) (by omega) (by omega) (by omega) (by omega) (by omega) (by omega))
      · exact vm_li_ag y3 (E _ (by omega) (by omega) (by omega) (by omega) (by omega) (by omega) (by omega)) (fun i hi => E _ (by omega) (by omega) (by omega) (by omega) (by omega) (by omega) (by omega))
      · exact vm_ru_ag y4 (E _ (by omega) (by omega) (by omega) (by omega) (by omega) (by omega) (by omega)) (fun i hi => E _ (by omega) (by omega) (by omega) (by omega) (by omega) (by omega) (by omega))
      · exact (E _ (by omega) (by omega) (by omega) (by omega) (by omega) (by omega) (by omega)).trans d7
      · exact (E _ (by omega) (by omega) (by omega) (by omega) (by omega) (by omega) (by omega)).trans d9
      · rw [Ec 62 (by decide)]
        exact hR.2.2.2
    | (q, some st) =>
      rw [hm] at g2
      obtain ⟨rfl, g3, g4⟩ := g2
      have ok : vg_okN 10 st := vg_nx_ok vg_ok0 hm
      obtain ⟨k1, k2⟩ := vgc_at g3 ok
      rw [if_pos (by decide)]
      obtain ⟨μ3, b1, b2, b3, b4, b5⟩ := vl_become (k := 8) (k0 := 45) (by decide) (vr_u μ1 13 1 0)
      rw [b1, vp_bind, vp_let]
      dsimp only
      have f3 : vp_fr [8, 9, 10, 11, 13, 45, 46, 47, 48, 50] μ μ3 := ((g4.mono (by decide)).tr (vp_fr.u (by decide))).tr (b2.mono (by decide))
      have n7 : μ3 1 7 = (A : Int) := by rw [f3 1 (by decide), w11, hA]
      simp only [n7, vp_us]
      rw [vp_gdT (by omega), show (A : Int) + 1 - 1 = (A : Int) by omega]
      have at8 : vl_at 8 μ3 st.1 := vl_at_cp k1 (vl_at_fr k2 (vp_uc (by decide)) (vp_uc (by decide)) (vp_uc (by decide)) (vp_uc (by decide))) b3 b4 b5
      generalize hM : vr_u μ3 1 7 ((A : Int) + 1) = M
      have fM : vp_fr [1] μ3 M := by rw [← hM]; exact vp_fr.u (by decide)
      have f : vp_fr [1, 8, 9, 10, 11, 13, 45, 46, 47, 48, 50] μ M := (f3.mono (by decide)).tr (fM.mono (by decide))
      have f69 : M 69 = μ 69 := f 69 (by decide)
      obtain ⟨r', μ2, N, l1, l2, l3, l4, l5, l6⟩ := vgm_land (μ := M) (A := A) (tn := tn) (tp := tp) (by rw [f69]; exact y1) (by rw [f69, d7, hA]) (by omega)
      rw [hm] at l6
      obtain ⟨μ5, z1, z2, rfl, z3⟩ := l6
      refine ⟨_, M, μ2, rfl, l1, ?_⟩
      have fz : vp_fr [69] μ5 μ2 := by rw [z3]; exact (vp_fr.u (by decide)).tr (vp_fr.u (by decide))
      have F : vp_fr [68, 69] M μ2 := (l2.tr z2.1).tr (fz.mono (by decide))
      have Ec : ∀ c, c ∉ [1, 8, 9, 10, 11, 13, 45, 46, 47, 48, 50, 68, 69] → μ2 c = μ c := fun c hc => by
        simp at hc
        rw [F c (by simp; omega), f c (by simp; omega)]
      have N2 : N 69 2 = (A : Int) := by rw [l5 2 (by omega) (by omega) (by omega) (by omega) (by omega) (by omega), f69, d7, hA]
      have z2' : μ5 69 2 = (A : Int) := by rw [z2.2.2 2 (by omega) (by omega) (by omega) (by omega) (by omega) (by omega), N2]
      have E5 : ∀ j, j ≠ 2 → j ≠ 9 → μ2 69 j = μ5 69 j := fun j j1 j2 => by rw [z3, vp_uj j2, vp_uj j1]
      have E : ∀ j, j ≠ 2 → j ≠ 9 → j ≠ 4 → j ≠ 208 + A → j ≠ 213 + A → j ≠ 218 + A → j ≠ 223 + A → j ≠ 228 + A → ¬ (233 + 140 * A ≤ j ∧ j < 373 + 140 * A) → μ2 69 j = μ 69 j := fun j j7 j8 j0 j1 j2 j3 j4 j5 j6 => by
        rw [E5 j j7 j8, z2.2.2 j j1 j2 j3 j4 j5 j6, l5 j j0 j1 j2 j3 j4 j5, f69]
      have E8 : ∀ j, j < 5 ∨ 9 < j → μ2 68 j = μ 68 j := fun j hj => by
        rw [fz 68 (by decide), z2.2.1 j (by omega) (by omega) (by omega), l3 j hj, f 68 (by decide)]
      have e9 : μ2 69 9 = (A : Int) := by rw [z3, vp_us]
      have e2 : μ2 69 2 = (A : Int) + 1 := by rw [z3, vp_uj (by decide), vp_us, z2']
      have M2 : ∀ c, c ≠ 68 → c ≠ 69 → c ≠ 1 → μ2 c = μ3 c := fun c c1 c2 c3 => by
        rw [F c (by simp; omega), fM c (by simp; omega)]
      have G1 : ∀ j, 3 ≤ j → j < 9 → μ2 8 j = μ1 45 j := fun j j1 j2 => by
        rw [M2 8 (by decide) (by decide) (by decide), b3 j j1 j2, vp_un (by decide)]
      have fl := vg_raw_fl st.1 ok.2.1
      have fll : (vm_fl st.1).length = (vg_raw st.1).length := by rw [← fl, List.length_map]
      have he := z1.1.2.2.2.2
      have hl := z1.2.1
      refine vz_R.mk (vz_w.mono (Y := Y) ⟨h, st.1, st.2.1, st.2.2.1, st.2.2.2.1, st.2.2.2.2, 0, tp, rn, row, an, ag, n, rk, rv, ld + 1, ⟨⟨?_, w2⟩, ⟨k1, ?_, ⟨?_, ok.2.2.1⟩, ⟨?_, ok.2.2.2.1⟩, ⟨?_, ok.2.2.2.2.1⟩, ⟨?_, ok.2.2.2.2.2⟩⟩, ⟨?_, by decide, fun i hi => by omega⟩, x2.e (Ec _ (by decide)) (Ec _ (by decide)), x3.e (Ec _ (by decide)) (Ec _ (by decide)), x4.e (Ec _ (by decide)) (Ec _ (by decide)), x5.e (Ec _ (by decide)) (Ec _ (by decide)), ?_, by omega, by omega⟩, ?_, ⟨⟨k1, by omega, Or.inr ⟨A, e9, by omega, ?_, fun i hi => ?_⟩⟩, Or.inr ⟨A, e9, by omega, ?_, ?_, ?_, ?_⟩, ok.2.2⟩, ⟨?_, by decide, fun i hi => by omega⟩, ?_, ?_, ?_, ?_, ?_⟩ (by omega)) ((vz_R.mono hR (show Y ≤ Y + 40 by omega)).k.fr (Ec 0 (by decide)) (fun j hj hj2 => Ec _ (by simp; omega)) (Ec 66 (by decide)) (Ec 67 (by decide)) (Ec 70 (by decide)) (Ec 77 (by decide)) (E8 4 (by decide)) (E8 22 (by decide))) ?_
      · rw [← w1]
        exact vh_c_fr (fun i hi => Ec _ (by simp; omega))
      · exact vl_at_fr at8 (M2 _ (by decide) (by decide) (by decide)) (M2 _ (by decide) (by decide) (by decide)) (M2 _ (by decide) (by decide) (by decide)) (M2 _ (by decide) (by decide) (by decide))
      · rw [G1 5 (by decide) (by decide)]; exact g3.2.2.2.1
      · rw [G1 6 (by decide) (by decide)]; exact g3.2.2.2.2.1
      · rw [G1 7 (by decide) (by decide)]; exact g3.2.2.2.2.2.1
      · rw [G1 8 (by decide) (by decide)]; exact g3.2.2.2.2.2.2
      · rw [M2 13 (by decide) (by decide) (by decide), b2 13 (by decide)]; exact vp_us
      · rw [F 1 (by decide), ← hM, vp_us, hA]
      · rw [← d1]
        exact vm_h_ag (fun j hj => E j (by unfold vm_hi at hj; omega) (by unfold vm_hi at hj; omega) (by unfold vm_hi at hj; omega) (by unfold vm_hi at hj; omega) (by unfold vm_hi at hj; omega) (by unfold vm_hi at hj; omega) (by unfold vm_hi at hj; omega) (by unfold vm_hi at hj; omega) (by unfold vm_hi at hj; omega))
      · show μ2 69 (228 + A) = _
        rw [E5 _ (by omega) (by omega), z1.1.2.2.1, fll, Nat.zero_add]
      · have hi2 : i < (vg_raw st.1).length := by omega
        have := z1.1.2.2.2.1 i hi2
        show μ2 69 (233 + 140 * A + i) = _
        rw [E5 _ (by omega) (by omega)]
        rw [Nat.add_zero] at this
        rw [this, ← fl]
        simp [List.getD, hi2]
      · show μ2 69 (208 + A) = _
        rw [E5 _ (by omega) (by omega)]; exact z1.2.2.2.1
      · show μ2 69 (213 + A) = _
        rw [E5 _ (by omega) (by omega)]; exact z1.2.2.2.2.1
      · show μ2 69 (218 + A) = _
        rw [E5 _ (by omega) (by omega)]; exact z1.2.2.2.2.2.1
      · show μ2 69 (223 + A) = _
        rw [E5 _ (by omega) (by omega)]; exact z1.2.2.2.2.2.2
      · rw [E5 4 (by omega) (by omega), z2.2.2 4 (by omega) (by omega) (by omega) (by omega) (by omega) (by omega), l4]; rfl
      · exact vm_li_ag y2 (E _ (by omega) (by omega) (by omega) (by omega) (by omega) (by omega) (by omega) (by omega) (by omega)) (fun i hi => E _ (by omega) (by omega) (by omega) (by omega) (by omega) (by omega) (by omega) (by omega) (by omega))
      · exact vm_li_ag y3 (E _ (by omega) (by omega) (by omega) (by omega) (by omega) (by omega) (by omega) (by omega) (by omega)) (fun i hi => E _ (by omega) (by omega) (by omega) (by omega) (by omega) (by omega) (by omega) (by omega) (by omega))
      · exact vm_ru_ag y4 (E _ (by omega) (by omega) (by omega) (by omega) (by omega) (by omega) (by omega) (by omega) (by omega)) (fun i hi => E _ (by omega) (by omega) (by omega) (by omega) (by omega) (by omega) (by omega) (by omega) (by omega))
      · rw [e2, hA]
      · rw [e9, hA]; omega
      · rw [Ec 62 (by decide)]
        exact hR.2.2.2
  · rw [if_neg c]
    refine ⟨-4, μ, μ, rfl, ?_, hR.mono (by omega)⟩
    unfold fX10_land
    simp only [d7]
    rw [vp_gdT (by omega), if_neg (fun q => q (by omega))]

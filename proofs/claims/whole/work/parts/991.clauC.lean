/-! clauses -/
abbrev vg_X3 : Type := Int × Int × List Int
abbrev vg_ST : Type := vl_C × Int × Int × Int × Int
def vg_cl (C : Nat → Int) (p : Nat) : Nat × Option vg_X3 :=
  if (vg_w C p).2 < 0 then ((vg_w C p).1, none)
  else if (vg_w C p).2 = 1 then (match vg_E0 C (vg_w C p).1 with
    | (q, none) => (q, none)
    | (q, some ts) => (q, some (1, -1, ts)))
  else if vg_nv C (vg_w C p).1 < 0 then ((vg_w C p).1, none)
  else if (vg_w C p).2 = 0 then (if C (vg_np C (vg_w C p).1) = 32 then (match vg_E0 C (vg_np C (vg_w C p).1 + 1) with
      | (q, none) => (q, none)
      | (q, some ts) => (q, some (0, vg_nv C (vg_w C p).1, ts)))
    else (vg_np C (vg_w C p).1, none))
  else (vg_np C (vg_w C p).1, some ((vg_w C p).2, vg_nv C (vg_w C p).1, []))
def vg_ap (x : vg_X3) (st : vg_ST) : vg_ST :=
  if x.1 = 0 ∨ x.1 = 1 then (st.1 ++ [(x.2.1, x.2.2)], st.2)
  else if x.1 = 2 then (st.1, x.2.1, st.2.2)
  else if x.1 = 3 then (st.1, st.2.1, x.2.1, st.2.2.2)
  else if x.1 = 4 then (st.1, st.2.1, st.2.2.1, x.2.1, st.2.2.2.2)
  else (st.1, st.2.1, st.2.2.1, st.2.2.2.1, min x.2.1 10)
theorem vl_toks_app {cl : vl_C} {n : Int} {ts : List Int} : vl_toks (cl ++ [(n, ts)]) = vl_toks cl ++ ts := by
  unfold vl_toks
  simp
theorem vl_end_toks (cl : vl_C) : vl_end cl cl.length = (vl_toks cl).length := by
  unfold vl_end vl_toks
  rw [List.take_length, List.length_flatMap]
theorem vl_end_app {cl : vl_C} {x : Int × List Int} {j : Nat} (h : j ≤ cl.length) : vl_end (cl ++ [x]) j = vl_end cl j := by
  unfold vl_end
  rw [List.take_append_of_le_length h]
theorem vl_end_app1 {cl : vl_C} {x : Int × List Int} : vl_end (cl ++ [x]) (cl.length + 1) = vl_end cl cl.length + x.2.length := by
  have h := vl_end_succ (cl := cl ++ [x]) (j := cl.length) (by simp)
  rw [h, vl_end_app (Nat.le_refl _)]
  simp
def vgc_D (t : Nat → Int) (e : Nat) (μ : vr_M) (p : Nat) (st : vg_ST) : Prop := vgc_S t e μ p 0 (vl_toks st.1) ∧ (vl_toks st.1).length ≤ p ∧ (μ 45 3 = (st.1.length : Int) ∧ ∀ j (h : j < st.1.length), μ 46 j = (st.1[j]).1 ∧ μ 47 j = (vl_end st.1 (j + 1) : Int)) ∧ μ 45 5 = st.2.1 ∧ μ 45 6 = st.2.2.1 ∧ μ 45 7 = st.2.2.2.1 ∧ μ 45 8 = st.2.2.2.2
theorem vgc_give {c : Nat} {n : Int} {μ : vr_M} (h : μ 45 3 = (c : Int)) (hc : c < 10) : fX3_putGive 45 n μ = some (0, vr_u (vr_u (vr_u μ 46 c n) 47 c (μ 45 4)) 45 3 ((c + 1 : Nat) : Int)) := by
  have n3 : vr_u μ 46 c n 45 3 = (c : Int) := by rw [vp_un (by decide), h]
  have n4 : vr_u μ 46 c n 45 4 = μ 45 4 := by rw [vp_un (by decide)]
  have n5 : vr_u (vr_u μ 46 c n) 47 c (μ 45 4) 45 3 = (c : Int) := by rw [vp_un (by decide), n3]
  unfold fX3_putGive fX3_putGive_B49
  simp only [h]
  rw [vp_gdT (by omega), if_neg (by omega), if_neg (by omega), vp_gdT (by omega), vp_let, show ((c : Int)).toNat = c from rfl, show 45 + 1 = 46 from rfl, show 45 + 2 = 47 from rfl]
  simp only [n3, n4]
  rw [vp_gdT (by omega), vp_let, show ((c : Int)).toNat = c from rfl, n5, show (c : Int) + 1 = ((c + 1 : Nat) : Int) by omega]
/-- a clause with a condition is put -/
theorem vgc_add {t : Nat → Int} {e p q : Nat} {st : vg_ST} {μ μ1 : vr_M} {n : Int} {ts : List Int} (h : vgc_D t e μ p st) (hc : st.1.length < 10) (s : vgc_S t e μ1 q 0 (vl_toks st.1 ++ ts)) (k : vgc_K μ μ1) (hl : (vl_toks st.1 ++ ts).length ≤ q) : ∃ μ', fX3_putGive 45 n μ1 = some (0, μ') ∧ vp_fr [45, 46, 47] μ1 μ' ∧ vgc_D t e μ' q (st.1 ++ [(n, ts)], st.2) := by
  obtain ⟨h1, h2, ⟨h3, h4⟩, h5, h6, h7, h8⟩ := h
  have s3 : μ1 45 3 = (st.1.length : Int) := by rw [k.2 3 (by decide), h3]
  generalize hM : vr_u (vr_u (vr_u μ1 46 st.1.length n) 47 st.1.length (μ1 45 4)) 45 3 ((st.1.length + 1 : Nat) : Int) = M
  have f : vp_fr [45, 46, 47] μ1 M := by rw [← hM]; exact ((vp_fr.u (by decide)).tr (vp_fr.u (by decide))).tr (vp_fr.u (by decide))
  have M45 : ∀ j, j ≠ 3 → M 45 j = μ1 45 j := fun j hj => by rw [← hM, vp_uj hj, vp_un (by decide), vp_un (by decide)]
  obtain ⟨s1, s2, s4, s5, s6⟩ := s
  refine ⟨M, by rw [vgc_give s3 hc, hM], f, ⟨s1.fr f (by decide) (by decide), by rw [f 50 (by decide)]; exact s2, ?_, fun i hi => ?_, s6⟩, by rw [vl_toks_app]; exact hl, ⟨?_, fun j hj => ?_⟩, ?_, ?_, ?_, ?_⟩
  · rw [M45 4 (by decide), vl_toks_app]; exact s4
  · rw [f 48 (by decide)]
    rw [vl_toks_app] at hi ⊢
    exact s5 i hi
  · rw [← hM, vp_us]; simp
  · simp only [List.length_append, List.length_cons, List.length_nil] at hj
    by_cases z : j = st.1.length
    · subst z
      refine ⟨?_, ?_⟩
      · rw [← hM, vp_un (by decide), vp_un (by decide), vp_us]; simp
      · rw [← hM, vp_un (by decide), vp_us, s4, vl_end_app1, vl_end_toks]
        simp
    · have hj2 : j < st.1.length := by omega
      have q := h4 j hj2
      refine ⟨?_, ?_⟩
      · rw [← hM, vp_un (by decide), vp_un (by decide), vp_uj z, k.1 46 (by decide), q.1]
        simp only
        rw [List.getElem_append_left hj2]
      · rw [← hM, vp_un (by decide), vp_uj z, vp_un (by decide), k.1 47 (by decide), q.2, vl_end_app (by omega)]
  · rw [M45 5 (by decide), k.2 5 (by decide)]; exact h5
  · rw [M45 6 (by decide), k.2 6 (by decide)]; exact h6
  · rw [M45 7 (by decide), k.2 7 (by decide)]; exact h7
  · rw [M45 8 (by decide), k.2 8 (by decide)]; exact h8
theorem vgc_setn {t : Nat → Int} {e p q : Nat} {st st' : vg_ST} {μ μ' : vr_M} (h : vgc_D t e μ p st) (f : vp_fr [45, 50] μ μ') (h50 : μ' 50 2 = (q : Int)) (hp : p ≤ q) (hq : q ≤ e) (s3 : μ' 45 3 = μ 45 3) (s4 : μ' 45 4 = μ 45 4) (hc : st'.1 = st.1) (n5 : μ' 45 5 = st'.2.1) (n6 : μ' 45 6 = st'.2.2.1) (n7 : μ' 45 7 = st'.2.2.2.1) (n8 : μ' 45 8 = st'.2.2.2.2) : vgc_D t e μ' q st' := by
  obtain ⟨⟨h1, h2, h3, h4, h5⟩, h6, ⟨h7, h8⟩, -⟩ := h
  unfold vgc_D
  rw [hc]
  exact ⟨⟨h1.fr f (by decide) (by decide), h50, s4.trans h3, fun i hi => by rw [f 48 (by decide)]; exact h4 i hi, hq⟩, by omega, ⟨s3.trans h7, fun j hj => by rw [f 46 (by decide), f 47 (by decide)]; exact h8 j hj⟩, n5, n6, n7, n8⟩
def vgc_Q (t : Nat → Int) (e : Nat) (st : vg_ST) (μ : vr_M) (r : Int) (μ' : vr_M) : Nat × Option vg_X3 → Prop
  | (q, none) => r = 0 ∧ μ' 50 2 = (q : Int) ∧ q ≤ e ∧ vp_fr [45, 46, 47, 48, 50] μ μ'
  | (q, some x) => r = 1 ∧ vgc_D t e μ' q (vg_ap x st) ∧ vp_fr [45, 46, 47, 48, 50] μ μ'
theorem vgc_clause {t : Nat → Int} {e p : Nat} {st : vg_ST} {μ : vr_M} (h : vgc_D t e μ p st) (hc : st.1.length < 10) : ∃ r μ', fX6_readClause μ = some (r, μ') ∧ vgc_Q t e st μ r μ' (vg_cl (vg_C t e) p) := by
  have hE := vg_CE t e
  obtain ⟨⟨h1, h2, h3, h4, h5⟩, h6, ⟨h7, h8⟩, h9⟩ := id h
  have e120 := h1.2.1
  have w := vg_w_in hE h5
  have W := vgc_word h1 h2 (by omega)
  have hb10 : 0 ≤ st.1.length := Nat.zero_le _
  rw [fX6_readClause, W, vp_bind]
  unfold vg_cl
  dsimp only
  generalize hq1 : (vg_w (vg_C t e) p).1 = q1 at *
  generalize hw1 : (vg_w (vg_C t e) p).2 = w1 at *
  have f1 : vp_fr [50] μ (vr_u μ 50 2 ((q1 : Nat) : Int)) := vp_fr.u (by decide)
  by_cases c1 : w1 < 0
  · rw [if_pos c1, if_neg (by omega)]
    exact ⟨0, _, rfl, rfl, vp_us, by omega, f1.mono (by decide)⟩
  · rw [if_neg c1, if_pos (by omega)]
    have D1 : vgc_D t e (vr_u μ 50 2 ((q1 : Nat) : Int)) q1 st := vgc_setn h (f1.mono (by decide)) vp_us (by omega) (by omega) (by rw [vp_un (by decide)]) (by rw [vp_un (by decide)]) rfl (by rw [vp_un (by decide)]; exact h9.1) (by rw [vp_un (by decide)]; exact h9.2.1) (by rw [vp_un (by decide)]; exact h9.2.2.1) (by rw [vp_un (by decide)]; exact h9.2.2.2)
    generalize hM : vr_u μ 50 2 ((q1 : Nat) : Int) = M at D1 f1
    by_cases c2 : w1 = 1
    · obtain ⟨r, μ2, y1, y2⟩ := vgc_cond D1.1 (by have := D1.2.1; omega)
      have gG := vg_E0_G hE (show q1 ≤ e by omega)
      rw [if_neg (fun q => q c2), y1, vp_bind, if_pos c2]
      unfold fX3_putWear
      match hm : vg_E0 (vg_C t e) q1 with
      | (q, none) =>
        rw [hm] at y2
        obtain ⟨x1, x2, x3⟩ := y2
        have s3 : μ2 45 3 = (st.1.length : Int) := by rw [x3.2 3 (by decide)]; exact D1.2.2.1.1
        have G := vgc_give (n := -1) s3 hc
        refine ⟨0, vr_u (vr_u (vr_u μ2 46 st.1.length (-1)) 47 st.1.length (μ2 45 4)) 45 3 ((st.1.length + 1 : Nat) : Int), ?_, rfl, ?_, x2.2.1, ?_⟩
        · rw [x1]
          dsimp only
          rw [G, vp_bind, vp_bind, vp_gdT (by decide)]
        · rw [vp_un (by decide), vp_un (by decide), vp_un (by decide)]; exact x2.1
        · exact ((f1.mono (by decide)).tr (x3.1.mono (by decide))).tr (((vp_fr.u (by decide)).tr (vp_fr.u (by decide))).tr (vp_fr.u (by decide)))
      | (q, some ts) =>
        rw [hm] at y2 gG
        obtain ⟨x1, x2, x3, x4⟩ := y2
        obtain ⟨g1, g2, g3⟩ := gG
        obtain ⟨μ3, G, G2, G3⟩ := vgc_add (n := -1) D1 hc x2 x3 (by have := D1.2.1; simp; omega)
        refine ⟨1, μ3, ?_, rfl, ?_, ((f1.mono (by decide)).tr (x3.1.mono (by decide))).tr (G2.mono (by decide))⟩
        · rw [x1]
          dsimp only
          rw [G, vp_bind, vp_bind, vp_gdT (by decide)]
        · unfold vg_ap
          rw [if_pos (Or.inr rfl)]
          exact G3
    · rw [if_pos c2, if_neg c2]
      obtain ⟨μ2, n1, n2, n3⟩ := vgc_num D1.1.1 D1.1.2.1 (by omega)
      have np := vg_np_G hE (show q1 ≤ e by omega)
      have nv := vg_nv_in (vg_C t e) q1
      rw [n1, vp_bind]
      dsimp only
      by_cases c3 : vg_nv (vg_C t e) q1 < 0
      · rw [if_pos c3, if_neg (by omega)]
        exact ⟨0, μ2, rfl, rfl, by rw [n3, np.1 c3], by omega, (f1.tr n2).mono (by decide)⟩
      · have np2 := np.2 (by omega)
        rw [if_neg c3, if_pos (by omega)]
        generalize hq2 : vg_np (vg_C t e) q1 = q2 at *
        have D2 : vgc_D t e μ2 q2 st := vgc_setn D1 (n2.mono (by decide)) n3 (by omega) np2.2 (by rw [n2 45 (by decide)]) (by rw [n2 45 (by decide)]) rfl (by rw [n2 45 (by decide)]; exact D1.2.2.2.1) (by rw [n2 45 (by decide)]; exact D1.2.2.2.2.1) (by rw [n2 45 (by decide)]; exact D1.2.2.2.2.2.1) (by rw [n2 45 (by decide)]; exact D1.2.2.2.2.2.2)
        have f2 : vp_fr [45, 46, 47, 48, 50] μ μ2 := (f1.tr n2).mono (by decide)
        by_cases c4 : w1 = 0
        · have t32 := vgc_take (ch := 32) D2.1.1 D2.1.2.1 (by omega) (by decide)
          rw [if_pos c4, if_pos c4, t32]
          unfold fX6_readClause_B78 fX6_readClause_B79
          by_cases c5 : vg_C t e q2 = 32
          · have q3 : q2 < e := hE.lt (fun z => by rw [z] at c5; omega)
            have f3 : vp_fr [50] μ2 (vr_u μ2 50 2 ((q2 + 1 : Nat) : Int)) := vp_fr.u (by decide)
            have D3 : vgc_D t e (vr_u μ2 50 2 ((q2 + 1 : Nat) : Int)) (q2 + 1) st := vgc_setn D2 (f3.mono (by decide)) vp_us (by omega) (by omega) (by rw [vp_un (by decide)]) (by rw [vp_un (by decide)]) rfl (by rw [vp_un (by decide)]; exact D2.2.2.2.1) (by rw [vp_un (by decide)]; exact D2.2.2.2.2.1) (by rw [vp_un (by decide)]; exact D2.2.2.2.2.2.1) (by rw [vp_un (by decide)]; exact D2.2.2.2.2.2.2)
            obtain ⟨r, μ4, y1, y2⟩ := vgc_cond D3.1 (by have := D3.2.1; omega)
            have gG := vg_E0_G hE (show q2 + 1 ≤ e by omega)
            rw [if_pos c5, vp_bind, if_neg vz_T1, if_pos c5]
            dsimp only
            rw [y1, vp_bind]
            match hm : vg_E0 (vg_C t e) (q2 + 1) with
            | (q, none) =>
              rw [hm] at y2
              obtain ⟨x1, x2, x3⟩ := y2
              have s3 : μ4 45 3 = (st.1.length : Int) := by rw [x3.2 3 (by decide)]; exact D3.2.2.1.1
              have G := vgc_give (n := vg_nv (vg_C t e) q1) s3 hc
              refine ⟨0, vr_u (vr_u (vr_u μ4 46 st.1.length (vg_nv (vg_C t e) q1)) 47 st.1.length (μ4 45 4)) 45 3 ((st.1.length + 1 : Nat) : Int), ?_, rfl, ?_, x2.2.1, ?_⟩
              · rw [if_pos x1, G, vp_bind, vp_gdT (by decide)]
              · rw [vp_un (by decide), vp_un (by decide), vp_un (by decide)]; exact x2.1
              · exact ((f2.tr (f3.mono (by decide))).tr (x3.1.mono (by decide))).tr (((vp_fr.u (by decide)).tr (vp_fr.u (by decide))).tr (vp_fr.u (by decide)))
            | (q, some ts) =>
              rw [hm] at y2 gG
              obtain ⟨x1, x2, x3, x4⟩ := y2
              obtain ⟨g1, g2, g3⟩ := gG
              obtain ⟨μ5, G, G2, G3⟩ := vgc_add (n := vg_nv (vg_C t e) q1) D3 hc x2 x3 (by have := D3.2.1; simp; omega)
              refine ⟨1, μ5, ?_, rfl, ?_, ((f2.tr (f3.mono (by decide))).tr (x3.1.mono (by decide))).tr (G2.mono (by decide))⟩
              · rw [if_neg (by omega), G, vp_bind, vp_gdT (by decide)]
              · unfold vg_ap
                rw [if_pos (Or.inl rfl)]
                exact G3
          · have G := vgc_give (n := vg_nv (vg_C t e) q1) D2.2.2.1.1 hc
            rw [if_neg c5, vp_bind, if_pos rfl, if_neg c5]
            refine ⟨0, vr_u (vr_u (vr_u μ2 46 st.1.length (vg_nv (vg_C t e) q1)) 47 st.1.length (μ2 45 4)) 45 3 ((st.1.length + 1 : Nat) : Int), ?_, rfl, ?_, by omega, ?_⟩
            · dsimp only
              rw [G, vp_bind, vp_gdT (by decide)]
            · rw [vp_un (by decide), vp_un (by decide), vp_un (by decide)]; exact D2.1.2.1
            · exact f2.tr (((vp_fr.u (by decide)).tr (vp_fr.u (by decide))).tr (vp_fr.u (by decide)))
        · rw [if_neg c4, if_neg c4]
          obtain ⟨d5, d6, d7, d8⟩ := D2.2.2.2
          have fin : ∀ (j : Nat) (v : Int) (st' : vg_ST), j = 5 ∨ j = 6 ∨ j = 7 ∨ j = 8 → fX3_putNumber 45 w1 (vg_nv (vg_C t e) q1) μ2 = some (0, vr_u μ2 45 j v) → vg_ap (w1, vg_nv (vg_C t e) q1, []) st = st' → st'.1 = st.1 → (if j = 5 then v else st.2.1) = st'.2.1 → (if j = 6 then v else st.2.2.1) = st'.2.2.1 → (if j = 7 then v else st.2.2.2.1) = st'.2.2.2.1 → (if j = 8 then v else st.2.2.2.2) = st'.2.2.2.2 → ∃ r μ', (fX3_putNumber 45 w1 (vg_nv (vg_C t e) q1) μ2).bind (fun r7 => some (1, r7.2)) = some (r, μ') ∧ vgc_Q t e st μ r μ' (q2, some (w1, vg_nv (vg_C t e) q1, [])) := by
            intro j v st' hj a1 a2 a3 a5 a6 a7 a8
            have g : ∀ i, (vr_u μ2 45 j v) 45 i = if i = j then v else μ2 45 i := fun i => by
              by_cases z : i = j
              · subst z; rw [vp_us, if_pos rfl]
              · rw [vp_uj z, if_neg z]
            refine ⟨1, vr_u μ2 45 j v, by rw [a1, vp_bind], rfl, ?_, f2.tr (vp_fr.u (by decide))⟩
            rw [a2]
            refine vgc_setn D2 (vp_fr.u (by decide)) (by rw [vp_un (by decide)]; exact D2.1.2.1) (Nat.le_refl _) np2.2 (by rw [g, if_neg (by omega)]) (by rw [g, if_neg (by omega)]) a3 ?_ ?_ ?_ ?_
            · rw [g, ← a5, d5]
              by_cases z : j = 5
              · rw [if_pos z.symm, if_pos z]
              · rw [if_neg (fun q => z q.symm), if_neg z]
            · rw [g, ← a6, d6]
              by_cases z : j = 6
              · rw [if_pos z.symm, if_pos z]
              · rw [if_neg (fun q => z q.symm), if_neg z]
            · rw [g, ← a7, d7]
              by_cases z : j = 7
              · rw [if_pos z.symm, if_pos z]
              · rw [if_neg (fun q => z q.symm), if_neg z]
            · rw [g, ← a8, d8]
              by_cases z : j = 8
              · rw [if_pos z.symm, if_pos z]
              · rw [if_neg (fun q => z q.symm), if_neg z]
          rcases (show w1 = 2 ∨ w1 = 3 ∨ w1 = 4 ∨ w1 = 5 by omega) with rfl | rfl | rfl | rfl
          · exact fin 5 _ _ (by decide) rfl rfl rfl rfl rfl rfl rfl
          · exact fin 6 _ _ (by decide) rfl rfl rfl rfl rfl rfl rfl
          · exact fin 7 _ _ (by decide) rfl rfl rfl rfl rfl rfl rfl
          · exact fin 8 _ _ (by decide) rfl rfl rfl rfl rfl rfl rfl

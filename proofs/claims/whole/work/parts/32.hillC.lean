/-! hills: 0 soil, 1 place, 2 crop, 3 lain, 4 worn of each plot; 5: plots, village, mouths, year -/
abbrev vh_H : Type := Nat → Nat → Int
def vh_c (μ : vr_M) (k : Nat) : vh_H := fun f p => if f < 5 then (if p < 8 then μ (k + 1 + f) p else 0) else if f = 5 ∧ p < 4 then μ k (5 + p) else 0
def vh_wf (Y : Int) (h : vh_H) : Prop := (0 ≤ h 5 0 ∧ h 5 0 ≤ 8) ∧ (0 ≤ h 5 1 ∧ h 5 1 ≤ 40) ∧ (1 ≤ h 5 2 ∧ h 5 2 ≤ 99) ∧ (0 ≤ h 5 3 ∧ h 5 3 ≤ Y) ∧ ∀ p, p < 8 → (0 ≤ h 0 p ∧ h 0 p ≤ 3) ∧ (0 ≤ h 1 p ∧ h 1 p ≤ 40) ∧ (0 ≤ h 2 p ∧ h 2 p ≤ Y) ∧ (0 ≤ h 3 p ∧ h 3 p ≤ 30) ∧ (0 ≤ h 4 p ∧ h 4 p ≤ 9)
def vh_sn (h : vh_H) (p : Nat) (c w : Int) : Nat → Int := fun j => if j = 0 then c else if j = 1 then h 3 p else if j = 2 then h 0 p else if j = 3 then w else h 1 p
def vl_wr (sn : Nat → Int) (cl : vl_C) : Bool := cl.any (fun q => decide (q.1 = -1) && vl_h sn q.2)
def vl_gv (sn : Nat → Int) : vl_C → Int
  | [] => 0
  | q :: cl => (if q.1 ≠ -1 ∧ vl_h sn q.2 = true then q.1 else 0) + vl_gv sn cl
def vh_wt (h : vh_H) (cl : vl_C) (p : Nat) : Int := if 0 < h 2 p then h 4 p else if vl_wr (vh_sn h p 1 (h 4 p)) cl = true then min (h 4 p + 1) 9 else h 4 p
def vh_ri (h : vh_H) (cl : vl_C) (p : Nat) : Int := max (vl_gv (vh_sn h p (h 2 p + 1) (vh_wt h cl p)) cl - vh_wt h cl p) 0
def vh_gi (h : vh_H) (cl : vl_C) (p : Nat) (v wk : Int) : Int := if vp_ab (h 1 p - v) ≤ wk then vh_ri h cl p else 0
/-- memory is the same but for some cells -/
def vp_fr (S : List Nat) (μ μ' : vr_M) : Prop := ∀ c, c ∉ S → μ' c = μ c
theorem vp_fr.rf {S : List Nat} {μ : vr_M} : vp_fr S μ μ := fun _ _ => rfl
theorem vp_fr.tr {S : List Nat} {μ μ' μ'' : vr_M} (h : vp_fr S μ μ') (g : vp_fr S μ' μ'') : vp_fr S μ μ'' := fun c hc => (g c hc).trans (h c hc)
theorem vp_fr.mono {S T : List Nat} {μ μ' : vr_M} (h : vp_fr S μ μ') (hs : ∀ c ∈ S, c ∈ T) : vp_fr T μ μ' := fun c hc => h c (fun q => hc (hs c q))
theorem vp_fr.u {S : List Nat} {μ : vr_M} {k j : Nat} {v : Int} (h : k ∈ S) : vp_fr S μ (vr_u μ k j v) := fun c hc => vr_u_other (fun e => hc (e ▸ h))
theorem vl_st_congr {sn sn' : Nat → Int} (hs : ∀ j, j < 5 → sn j = sn' j) : ∀ (ts : List Int) (d : Nat) (st : List Bool), vl_ok ts d → vl_st sn ts st = vl_st sn' ts st
  | [], _, _, _ => rfl
  | t :: ts, d, st, h => by
    have e : vl_step sn t st = vl_step sn' t st := by
      unfold vl_step
      unfold vl_ok at h
      rcases h with ⟨rfl, _⟩ | ⟨h, _⟩ | ⟨h1, h2, _⟩
      · rfl
      · rcases h with rfl | rfl <;> rfl
      · have : vl_t sn t = vl_t sn' t := by unfold vl_t; rw [hs (t / 300).toNat (by omega)]
        rw [this]
    unfold vl_ok at h
    unfold vl_st
    rw [e]
    rcases h with ⟨_, _, h⟩ | ⟨_, _, h⟩ | ⟨_, _, _, h⟩
    · exact vl_st_congr hs ts _ _ h
    · exact vl_st_congr hs ts _ _ h
    · exact vl_st_congr hs ts _ _ h
theorem vl_h_congr {sn sn' : Nat → Int} (hs : ∀ j, j < 5 → sn j = sn' j) {ts : List Int} (h : vl_ok ts 0) : vl_h sn ts = vl_h sn' ts := by
  unfold vl_h; rw [vl_st_congr hs ts 0 [] h]
theorem vl_wr_congr {sn sn' : Nat → Int} (hs : ∀ j, j < 5 → sn j = sn' j) : ∀ {cl : vl_C}, (∀ q ∈ cl, vl_ok q.2 0) → vl_wr sn cl = vl_wr sn' cl
  | [], _ => rfl
  | q :: cl, h => by
    have ih := vl_wr_congr hs (cl := cl) (fun q hq => h q (List.mem_cons_of_mem _ hq))
    unfold vl_wr at ih ⊢
    simp only [List.any_cons]
    rw [ih, vl_h_congr hs (h q List.mem_cons_self)]
theorem vl_gv_congr {sn sn' : Nat → Int} (hs : ∀ j, j < 5 → sn j = sn' j) : ∀ {cl : vl_C}, (∀ q ∈ cl, vl_ok q.2 0) → vl_gv sn cl = vl_gv sn' cl
  | [], _ => rfl
  | q :: cl, h => by
    unfold vl_gv
    rw [vl_gv_congr hs (cl := cl) (fun q hq => h q (List.mem_cons_of_mem _ hq)), vl_h_congr hs (h q List.mem_cons_self)]
theorem vl_gv_in (sn : Nat → Int) : ∀ {cl : vl_C}, (∀ q ∈ cl, q.1 = -1 ∨ 0 ≤ q.1 ∧ q.1 ≤ 99) → 0 ≤ vl_gv sn cl ∧ vl_gv sn cl ≤ 99 * cl.length
  | [], _ => by simp [vl_gv]
  | q :: cl, h => by
    have ih := vl_gv_in sn (cl := cl) (fun q hq => h q (List.mem_cons_of_mem _ hq))
    have h1 := h q List.mem_cons_self
    unfold vl_gv
    simp only [List.length_cons]
    split <;> omega
/-- look -/
theorem vh_look {p : Nat} {w : Int} {μ : vr_M} {Y : Int} (hY : Y ≤ 100000) (hh : vh_wf Y (vh_c μ 52)) (hp : (p : Int) < μ 52 5) :
    ∃ μ', fX3_look 8 52 (p : Int) w μ = some (0, μ') ∧ vp_fr [12] μ μ' ∧ ∀ j, j < 5 → μ' 12 j = vh_sn (vh_c μ 52) p (vh_c μ 52 2 p + 1) w j := by
  have hn : 0 ≤ μ 52 5 ∧ μ 52 5 ≤ 8 := hh.1
  have hp8 : p < 8 := by omega
  unfold fX3_look fX3_look_B65
  have e1 : ((p : Int)).toNat = p := rfl
  have hv : vr_R (μ 52 5) := ⟨by omega, by omega⟩
  rw [vp_has hv]
  simp (disch := omega) only [vp_gdT, vp_gdTT, vp_let, vr_R, if_pos, if_neg, ite_true, ite_false, vp_bind, if_true, if_false, not_true_eq_false, not_false_eq_true, decide_eq_true_eq, true_or, or_true, true_and, and_true, false_or, or_false, false_and, and_false, e1, Option.some.injEq, Prod.mk.injEq, exists_eq_left']
  refine ⟨fun c hc => ?_, fun j hj => ?_⟩
  · have hc' : c ≠ 12 := by simpa using hc
    simp only [vp_uc hc', Nat.reduceAdd]
  · simp only [vh_sn, vh_c]
    rcases (show j = 0 ∨ j = 1 ∨ j = 2 ∨ j = 3 ∨ j = 4 by omega) with rfl | rfl | rfl | rfl | rfl <;> simp [vr_u, hp8]
/-- how worn a plot is when it is burnt -/
theorem vh_wornL {p : Nat} {μ : vr_M} {cl : vl_C} (hw : vl_wf cl) (ha : vl_at 8 μ cl) (hs : ∀ i, i < 5 → vr_R (μ 12 i)) {w : Int} (hw0 : 0 ≤ w ∧ w ≤ 9) :
    ∀ (d j n : Nat), cl.length - j = d → j ≤ cl.length → cl.length < j + n → fX3_wornWhenBurnt_L38 8 52 n w (j : Int) μ = some (if vl_wr (μ 12) (cl.drop j) = true then min (w + 1) 9 else w, μ) := by
  intro d
  induction d with
  | zero =>
    intro j n hd hj hn
    obtain ⟨n, rfl⟩ : ∃ m, n = m + 1 := ⟨n - 1, by omega⟩
    have h1 := ha.1
    have h10 := hw.1
    rw [fX3_wornWhenBurnt_L38.eq_2, h1, List.drop_of_length_le (by omega)]
    simp (disch := omega) only [vp_gdT, vp_gdTT, vp_let, vr_R, if_pos, if_neg, ite_true, ite_false, vp_bind, if_true, if_false, not_true_eq_false, not_false_eq_true, decide_eq_true_eq, true_or, or_true, true_and, and_true, false_or, or_false, false_and, and_false]
    simp [vl_wr]
  | succ d ih =>
    intro j n hd hj hn
    obtain ⟨n, rfl⟩ : ∃ m, n = m + 1 := ⟨n - 1, by omega⟩
    have h1 := ha.1
    have h10 := hw.1
    have hj2 : j < cl.length := by omega
    obtain ⟨h2, h3, -⟩ := ha.2 j hj2
    have h4 := (hw.2.2 _ (List.getElem_mem hj2)).1
    have hh := vl_holds hw ha hj2 hs
    have h9 := ih (j + 1) n (by omega) (by omega) (by omega)
    have hj1 : (j : Int) + 1 = ((j + 1 : Nat) : Int) := by omega
    have e1 : ((j : Int)).toNat = j := rfl
    rw [fX3_wornWhenBurnt_L38.eq_2, h1, e1]
    unfold fX3_wornWhenBurnt_B83
    rw [List.drop_eq_getElem_cons hj2]
    have hu : vl_wr (μ 12) (cl[j] :: cl.drop (j + 1)) = (decide ((cl[j]).1 = -1) && vl_h (μ 12) (cl[j]).2 || vl_wr (μ 12) (cl.drop (j + 1))) := by unfold vl_wr; simp only [List.any_cons]
    rw [hu]
    rcases Bool.eq_false_or_eq_true (vl_h (μ 12) (cl[j]).2) with q | q
    · rw [q] at hh ⊢
      by_cases c1 : (cl[j]).1 = -1
      · rw [h2, c1]
        simp (disch := omega) only [vp_gdT, vp_gdTT, vp_let, vr_R, if_pos, if_neg, ite_true, ite_false, vp_bind, if_true, if_false, not_true_eq_false, not_false_eq_true, decide_eq_true_eq, true_or, or_true, true_and, and_true, false_or, or_false, false_and, and_false, hh]
        simp
      · rw [h2]
        simp (disch := omega) only [vp_gdT, vp_gdTT, vp_let, vr_R, if_pos, if_neg, ite_true, ite_false, vp_bind, if_true, if_false, not_true_eq_false, not_false_eq_true, decide_eq_true_eq, true_or, or_true, true_and, and_true, false_or, or_false, false_and, and_false, hj1, h9]
        simp [c1]
    · rw [q] at hh ⊢
      by_cases c1 : (cl[j]).1 = -1
      · rw [h2, c1]
        simp (disch := omega) only [vp_gdT, vp_gdTT, vp_let, vr_R, if_pos, if_neg, ite_true, ite_false, vp_bind, if_true, if_false, not_true_eq_false, not_false_eq_true, decide_eq_true_eq, true_or, or_true, true_and, and_true, false_or, or_false, false_and, and_false, hh, hj1, h9, Bool.false_eq_true]
        simp
      · rw [h2]
        simp (disch := omega) only [vp_gdT, vp_gdTT, vp_let, vr_R, if_pos, if_neg, ite_true, ite_false, vp_bind, if_true, if_false, not_true_eq_false, not_false_eq_true, decide_eq_true_eq, true_or, or_true, true_and, and_true, false_or, or_false, false_and, and_false, hj1, h9]
        simp
theorem vl_at_fr {k : Nat} {μ μ' : vr_M} {cl : vl_C} (h : vl_at k μ cl) (h0 : μ' k = μ k) (h1 : μ' (k + 1) = μ (k + 1)) (h2 : μ' (k + 2) = μ (k + 2)) (h3 : μ' (k + 3) = μ (k + 3)) : vl_at k μ' cl := by
  unfold vl_at at h ⊢
  rw [h0, h1, h2, h3]
  exact h
theorem vh_c_fr {k : Nat} {μ μ' : vr_M} (h : ∀ i, i < 6 → μ' (k + i) = μ (k + i)) : vh_c μ' k = vh_c μ k := by
  funext f p
  unfold vh_c
  have h0 := h 0 (by omega)
  simp only [Nat.add_zero] at h0
  by_cases hf : f < 5
  · have := h (1 + f) (by omega)
    rw [← Nat.add_assoc] at this
    simp only [hf, if_true, this]
  · simp only [hf, if_false, h0]
theorem vh_wornC {p : Nat} {μ : vr_M} {cl : vl_C} {Y : Int} (hY : Y ≤ 100000) (hw : vl_wf cl) (ha : vl_at 8 μ cl) (hh : vh_wf Y (vh_c μ 52)) (hp : (p : Int) < μ 52 5) :
    ∃ μ', fX3_wornWhenBurnt 8 52 (p : Int) μ = some (vh_wt (vh_c μ 52) cl p, μ') ∧ vp_fr [12] μ μ' := by
  have hn : 0 ≤ μ 52 5 ∧ μ 52 5 ≤ 8 := hh.1
  have hp8 : p < 8 := by omega
  obtain ⟨b0, b1, b2, b3, b4⟩ := hh.2.2.2.2 p hp8
  have r2 : vh_c μ 52 2 p = μ 55 p := by simp [vh_c, hp8]
  have r3 : vh_c μ 52 3 p = μ 56 p := by simp [vh_c, hp8]
  have r0 : vh_c μ 52 0 p = μ 53 p := by simp [vh_c, hp8]
  have r1 : vh_c μ 52 1 p = μ 54 p := by simp [vh_c, hp8]
  have r4 : vh_c μ 52 4 p = μ 57 p := by simp [vh_c, hp8]
  have hv : vr_R (μ 52 5) := ⟨by omega, by omega⟩
  have e1 : ((p : Int)).toNat = p := rfl
  unfold fX3_wornWhenBurnt
  rw [vp_has hv]
  by_cases c : 0 < μ 55 p
  · have g : vh_wt (vh_c μ 52) cl p = μ 57 p := by unfold vh_wt; rw [r2, if_pos c, r4]
    refine ⟨μ, ?_, vp_fr.rf⟩
    rw [g]
    simp (disch := omega) only [vp_gdT, vp_gdTT, vp_let, vr_R, if_pos, if_neg, ite_true, ite_false, vp_bind, if_true, if_false, not_true_eq_false, not_false_eq_true, decide_eq_true_eq, true_or, or_true, true_and, and_true, false_or, or_false, false_and, and_false, e1, Nat.reduceAdd]
  · obtain ⟨μ', k1, k2, k3⟩ := vh_look (p := p) (w := μ 57 p) hY hh hp
    have hs : ∀ j, j < 5 → μ' 12 j = vh_sn (vh_c μ 52) p 1 (μ 57 p) j := by
      intro j hj
      rw [k3 j hj]
      unfold vh_sn
      rw [r2, show μ 55 p + 1 = 1 by omega]
    have hr : ∀ j, j < 5 → vr_R (μ' 12 j) := by
      intro j hj
      rw [hs j hj]
      unfold vh_sn
      constructor <;> (repeat' split) <;> omega
    have ha' : vl_at 8 μ' cl := vl_at_fr ha (k2 8 (by decide)) (k2 9 (by decide)) (k2 10 (by decide)) (k2 11 (by decide))
    have key := vh_wornL (p := p) hw ha' hr (w := μ 57 p) (by omega) cl.length 0 9000 (by omega) (by omega) (by have := hw.1; omega)
    rw [List.drop_zero, vl_wr_congr hs (fun q hq => (hw.2.2 q hq).2)] at key
    have g : vh_wt (vh_c μ 52) cl p = if vl_wr (vh_sn (vh_c μ 52) p 1 (μ 57 p)) cl = true then min (μ 57 p + 1) 9 else μ 57 p := by unfold vh_wt; rw [r2, if_neg c, r4]
    rw [g]
    refine ⟨μ', ?_, k2⟩
    rw [show ((0 : Nat) : Int) = 0 from rfl] at key
    simp (disch := omega) only [vp_gdT, vp_gdTT, vp_let, vr_R, if_pos, if_neg, ite_true, ite_false, vp_bind, if_true, if_false, not_true_eq_false, not_false_eq_true, decide_eq_true_eq, true_or, or_true, true_and, and_true, false_or, or_false, false_and, and_false, e1, Nat.reduceAdd, k1, key]

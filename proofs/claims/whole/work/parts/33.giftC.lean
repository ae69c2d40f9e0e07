theorem vh_yieldL {p : Nat} {μ : vr_M} {cl : vl_C} (hw : vl_wf cl) (ha : vl_at 8 μ cl) (hs : ∀ i, i < 5 → vr_R (μ 12 i)) {w : Int} (hw0 : 0 ≤ w ∧ w ≤ 9) :
    ∀ (d j n : Nat) (x : Int), cl.length - j = d → j ≤ cl.length → cl.length < j + n → 0 ≤ x ∧ x ≤ 99 * j → fX3_yields_L13 8 52 n w x (j : Int) μ = some (max (x + vl_gv (μ 12) (cl.drop j) - w) 0, μ) := by
  intro d
  induction d with
  | zero =>
    intro j n x hd hj hn hx
    obtain ⟨n, rfl⟩ : ∃ m, n = m + 1 := ⟨n - 1, by omega⟩
    have h1 := ha.1
    have h10 := hw.1
    rw [fX3_yields_L13.eq_2, h1, List.drop_of_length_le (by omega)]
    unfold vl_gv
    rw [Int.add_zero]
    simp (disch := omega) only [vp_gdT, vp_gdTT, vp_let, vr_R, if_pos, if_neg, ite_true, ite_false, vp_bind, if_true, if_false, not_true_eq_false, not_false_eq_true, decide_eq_true_eq, true_or, or_true, true_and, and_true, false_or, or_false, false_and, and_false]
  | succ d ih =>
    intro j n x hd hj hn hx
    obtain ⟨n, rfl⟩ : ∃ m, n = m + 1 := ⟨n - 1, by omega⟩
    have h1 := ha.1
    have h10 := hw.1
    have hj2 : j < cl.length := by omega
    obtain ⟨h2, h3, -⟩ := ha.2 j hj2
    have h4 := (hw.2.2 _ (List.getElem_mem hj2)).1
    have hh := vl_holds hw ha hj2 hs
    have hj1 : (j : Int) + 1 = ((j + 1 : Nat) : Int) := by omega
    have e1 : ((j : Int)).toNat = j := rfl
    rw [fX3_yields_L13.eq_2, h1, e1]
    unfold fX3_yields_B61
    rw [List.drop_eq_getElem_cons hj2]
    have hu : vl_gv (μ 12) (cl[j] :: cl.drop (j + 1)) = (if (cl[j]).1 ≠ -1 ∧ vl_h (μ 12) (cl[j]).2 = true then (cl[j]).1 else 0) + vl_gv (μ 12) (cl.drop (j + 1)) := rfl
    rw [hu, h2]
    by_cases c1 : (cl[j]).1 = -1
    · have h9 := ih (j + 1) n x (by omega) (by omega) (by omega) (by omega)
      simp (disch := omega) only [vp_gdT, vp_gdTT, vp_let, vr_R, if_pos, if_neg, ite_true, ite_false, vp_bind, if_true, if_false, not_true_eq_false, not_false_eq_true, decide_eq_true_eq, true_or, or_true, true_and, and_true, false_or, or_false, false_and, and_false, hj1, h9, c1, ne_eq]
      simp
    · rcases Bool.eq_false_or_eq_true (vl_h (μ 12) (cl[j]).2) with q | q
      · have h9 := ih (j + 1) n (x + (cl[j]).1) (by omega) (by omega) (by omega) (by omega)
        rw [q] at hh ⊢
        simp (disch := omega) only [vp_gdT, vp_gdTT, vp_let, vr_R, if_pos, if_neg, ite_true, ite_false, vp_bind, if_true, if_false, not_true_eq_false, not_false_eq_true, decide_eq_true_eq, true_or, or_true, true_and, and_true, false_or, or_false, false_and, and_false, hh, hj1, h2, h9, ne_eq]
        rw [Int.add_assoc]
      · have h9 := ih (j + 1) n x (by omega) (by omega) (by omega) (by omega)
        rw [q] at hh ⊢
        simp (disch := omega) only [vp_gdT, vp_gdTT, vp_let, vr_R, if_pos, if_neg, ite_true, ite_false, vp_bind, if_true, if_false, not_true_eq_false, not_false_eq_true, decide_eq_true_eq, true_or, or_true, true_and, and_true, false_or, or_false, false_and, and_false, hh, hj1, h9, ne_eq, Bool.false_eq_true]
        simp
theorem vh_wt_in {Y : Int} {h : vh_H} {cl : vl_C} {p : Nat} (hh : vh_wf Y h) (hp : p < 8) : 0 ≤ vh_wt h cl p ∧ vh_wt h cl p ≤ 9 := by
  obtain ⟨-, -, -, -, b4⟩ := hh.2.2.2.2 p hp
  unfold vh_wt
  (repeat' split) <;> omega
theorem vh_yieldC {p : Nat} {μ : vr_M} {cl : vl_C} {Y : Int} (hY : Y ≤ 100000) (hw : vl_wf cl) (ha : vl_at 8 μ cl) (hh : vh_wf Y (vh_c μ 52)) (hp : (p : Int) < μ 52 5) :
    ∃ μ', fX3_yields 8 52 (p : Int) (vh_wt (vh_c μ 52) cl p) μ = some (vh_ri (vh_c μ 52) cl p, μ') ∧ vp_fr [12] μ μ' := by
  have hn : 0 ≤ μ 52 5 ∧ μ 52 5 ≤ 8 := hh.1
  have hp8 : p < 8 := by omega
  obtain ⟨b0, b1, b2, b3, b4⟩ := hh.2.2.2.2 p hp8
  have hwt := vh_wt_in (cl := cl) hh hp8
  obtain ⟨μ', k1, k2, k3⟩ := vh_look (p := p) (w := vh_wt (vh_c μ 52) cl p) hY hh hp
  have hr : ∀ j, j < 5 → vr_R (μ' 12 j) := by
    intro j hj
    rw [k3 j hj]
    unfold vh_sn
    constructor <;> (repeat' split) <;> omega
  have ha' : vl_at 8 μ' cl := vl_at_fr ha (k2 8 (by decide)) (k2 9 (by decide)) (k2 10 (by decide)) (k2 11 (by decide))
  have key := vh_yieldL (p := p) hw ha' hr (w := vh_wt (vh_c μ 52) cl p) hwt cl.length 0 9000 0 (by omega) (by omega) (by have := hw.1; omega) (by omega)
  rw [List.drop_zero, vl_gv_congr k3 (fun q hq => (hw.2.2 q hq).2), Int.zero_add, show ((0 : Nat) : Int) = 0 from rfl] at key
  refine ⟨μ', ?_, k2⟩
  unfold fX3_yields
  simp (disch := omega) only [vp_gdT, vp_gdTT, vp_let, vr_R, if_pos, if_neg, ite_true, ite_false, vp_bind, if_true, if_false, not_true_eq_false, not_false_eq_true, decide_eq_true_eq, true_or, or_true, true_and, and_true, false_or, or_false, false_and, and_false, k1, key]
  rfl
/-- what each plot gives, looked at ahead of the year -/
def vh_ripe (μ : vr_M) (cl : vl_C) : Prop := ∀ p, p < 8 → μ 59 p = if (p : Int) < μ 52 5 then vh_ri (vh_c μ 52) cl p else 0
theorem vh_ri_in {Y : Int} {h : vh_H} {cl : vl_C} {p : Nat} (hh : vh_wf Y h) (hw : vl_wf cl) (hp : p < 8) : 0 ≤ vh_ri h cl p ∧ vh_ri h cl p ≤ 990 := by
  have h1 := vh_wt_in (cl := cl) hh hp
  have h2 := vl_gv_in (vh_sn h p (h 2 p + 1) (vh_wt h cl p)) (cl := cl) (fun q hq => (hw.2.2 q hq).1)
  have h3 := hw.1
  unfold vh_ri
  omega
theorem vh_lookL {cl : vl_C} {Y : Int} (hY : Y ≤ 100000) (hw : vl_wf cl) :
    ∀ (d i n : Nat) (μ : vr_M), vl_at 8 μ cl → vh_wf Y (vh_c μ 52) → 8 - i = d → i ≤ 8 → 8 < i + n →
      ∃ μ', fX0_lookRound_L2 n (i : Int) μ = some (0, μ') ∧ vp_fr [12, 59] μ μ' ∧ (∀ p, p < i → μ' 59 p = μ 59 p) ∧ ∀ p, i ≤ p → p < 8 → μ' 59 p = if (p : Int) < μ 52 5 then vh_ri (vh_c μ 52) cl p else 0 := by
  intro d
  induction d with
  | zero =>
    intro i n μ ha hh hd hi hn
    obtain ⟨n, rfl⟩ : ∃ m, n = m + 1 := ⟨n - 1, by omega⟩
    refine ⟨μ, ?_, vp_fr.rf, fun _ _ => rfl, fun p h1 h2 => by omega⟩
    rw [fX0_lookRound_L2.eq_2]
    simp (disch := omega) only [vp_gdT, vp_gdTT, vp_let, vr_R, if_pos, if_neg, ite_true, ite_false, vp_bind, if_true, if_false, not_true_eq_false, not_false_eq_true, decide_eq_true_eq, true_or, or_true, true_and, and_true, false_or, or_false, false_and, and_false]
  | succ d ih =>
    intro i n μ ha hh hd hi hn
    obtain ⟨n, rfl⟩ : ∃ m, n = m + 1 := ⟨n - 1, by omega⟩
    have hn8 : 0 ≤ μ 52 5 ∧ μ 52 5 ≤ 8 := hh.1
    have hv : vr_R (μ 52 5) := ⟨by omega, by omega⟩
    have hi1 : (i : Int) + 1 = ((i + 1 : Nat) : Int) := by omega
    have e1 : ((i : Int)).toNat = i := rfl
    have step : ∃ μ1 y, vp_fr [12] μ μ1 ∧ y = (if (i : Int) < μ 52 5 then vh_ri (vh_c μ 52) cl i else 0) ∧ fX0_lookRound_L2 (n + 1) (i : Int) μ = fX0_lookRound_L2 n ((i + 1 : Nat) : Int) (vr_u μ1 59 i y) := by
      by_cases c : (i : Int) < μ 52 5
      · obtain ⟨μ1, k1, k2⟩ := vh_wornC (p := i) hY hw ha hh c
        have c1 : vh_c μ1 52 = vh_c μ 52 := vh_c_fr (fun j hj => k2 _ (by simp; omega))
        have ha1 : vl_at 8 μ1 cl := vl_at_fr ha (k2 8 (by decide)) (k2 9 (by decide)) (k2 10 (by decide)) (k2 11 (by decide))
        have n1 : μ1 52 5 = μ 52 5 := by rw [k2 52 (by decide)]
        obtain ⟨μ2, k3, k4⟩ := vh_yieldC (p := i) (μ := μ1) hY hw ha1 (by rw [c1]; exact hh) (by rw [n1]; exact c)
        rw [c1] at k3
        refine ⟨μ2, vh_ri (vh_c μ 52) cl i, k2.tr k4, by rw [if_pos c], ?_⟩
        rw [fX0_lookRound_L2.eq_2, vp_has hv]
        unfold fX0_lookRound_B52
        simp (disch := omega) only [vp_gdT, vp_gdTT, vp_let, vr_R, if_pos, if_neg, ite_true, ite_false, vp_bind, if_true, if_false, not_true_eq_false, not_false_eq_true, decide_eq_true_eq, true_or, or_true, true_and, and_true, false_or, or_false, false_and, and_false, k1, k3, e1, hi1]
      · refine ⟨μ, 0, vp_fr.rf, by rw [if_neg c], ?_⟩
        rw [fX0_lookRound_L2.eq_2, vp_has hv]
        unfold fX0_lookRound_B52
        simp (disch := omega) only [vp_gdT, vp_gdTT, vp_let, vr_R, if_pos, if_neg, ite_true, ite_false, vp_bind, if_true, if_false, not_true_eq_false, not_false_eq_true, decide_eq_true_eq, true_or, or_true, true_and, and_true, false_or, or_false, false_and, and_false, e1, hi1]
    obtain ⟨μ1, y, k1, hy, k2⟩ := step
    have f1 : vp_fr [12, 59] μ (vr_u μ1 59 i y) := (k1.mono (by decide)).tr (vp_fr.u (by decide))
    have c1 : vh_c (vr_u μ1 59 i y) 52 = vh_c μ 52 := vh_c_fr (fun j hj => f1 _ (by simp; omega))
    have ha1 : vl_at 8 (vr_u μ1 59 i y) cl := vl_at_fr ha (f1 8 (by decide)) (f1 9 (by decide)) (f1 10 (by decide)) (f1 11 (by decide))
    obtain ⟨μ', g1, g2, g3, g4⟩ := ih (i + 1) n (vr_u μ1 59 i y) ha1 (by rw [c1]; exact hh) (by omega) (by omega) (by omega)
    have n1 : vr_u μ1 59 i y 52 5 = μ 52 5 := by rw [f1 52 (by decide)]
    refine ⟨μ', by rw [k2]; exact g1, f1.tr g2, fun p hp => ?_, fun p h1 h2 => ?_⟩
    · rw [g3 p (by omega), vp_uj (by omega), k1 59 (by decide)]
    · by_cases e : p = i
      · subst e
        rw [g3 p (by omega), vp_us, hy]
      · rw [g4 p (by omega) h2, n1, c1]
theorem vh_lookC {cl : vl_C} {Y : Int} {μ : vr_M} (hY : Y ≤ 100000) (hw : vl_wf cl) (ha : vl_at 8 μ cl) (hh : vh_wf Y (vh_c μ 52)) :
    ∃ μ', fX0_lookRound μ = some (0, μ') ∧ vp_fr [12, 59] μ μ' ∧ vh_ripe μ' cl := by
  obtain ⟨μ', g1, g2, g3, g4⟩ := vh_lookL hY hw 8 0 9000 μ ha hh (by omega) (by omega) (by omega)
  refine ⟨μ', g1, g2, fun p hp => ?_⟩
  rw [g4 p (by omega) hp, g2 52 (by decide), vh_c_fr (fun j hj => g2 _ (by simp; omega))]
/-- gift -/
theorem vh_gift {cl : vl_C} {Y : Int} {μ : vr_M} (hY : Y ≤ 100000) (hw : vl_wf cl) (hh : vh_wf Y (vh_c μ 52)) (hr : vh_ripe μ cl) {p : Nat} {v wk : Int} (hp : p < 8) (hv : 0 ≤ v ∧ v ≤ 40) (hk : vr_R wk) :
    fX0_gift (p : Int) v wk μ = some (if (p : Int) < μ 52 5 then vh_gi (vh_c μ 52) cl p v wk else 0, μ) := by
  have hn8 : 0 ≤ μ 52 5 ∧ μ 52 5 ≤ 8 := hh.1
  have hn : vr_R (μ 52 5) := ⟨by omega, by omega⟩
  have e1 : ((p : Int)).toNat = p := rfl
  obtain ⟨b0, b1, b2, b3, b4⟩ := hh.2.2.2.2 p hp
  have r1 : vh_c μ 52 1 p = μ 54 p := by simp [vh_c, hp]
  have h59 := hr p hp
  have hri := vh_ri_in (cl := cl) hh hw hp
  unfold fX0_gift fX0_gift_B38 fX0_gift_B39
  rw [vp_has hn]
  by_cases c : (p : Int) < μ 52 5
  · rw [if_pos c] at h59
    have hab : (if 0 ≤ μ 54 p - v then μ 54 p - v else -(μ 54 p - v)) = vp_ab (vh_c μ 52 1 p - v) := by unfold vp_ab; rw [r1]
    have hb2 : 0 ≤ vp_ab (vh_c μ 52 1 p - v) ∧ vp_ab (vh_c μ 52 1 p - v) ≤ 40 := by unfold vp_ab; split <;> omega
    unfold vh_gi
    by_cases c2 : vp_ab (vh_c μ 52 1 p - v) ≤ wk
    · simp (disch := omega) only [vp_gdT, vp_gdTT, vp_let, vr_R, if_pos, if_neg, ite_true, ite_false, vp_bind, if_true, if_false, not_true_eq_false, not_false_eq_true, decide_eq_true_eq, true_or, or_true, true_and, and_true, false_or, or_false, false_and, and_false, e1, hab, h59]
    · simp (disch := omega) only [vp_gdT, vp_gdTT, vp_let, vr_R, if_pos, if_neg, ite_true, ite_false, vp_bind, if_true, if_false, not_true_eq_false, not_false_eq_true, decide_eq_true_eq, true_or, or_true, true_and, and_true, false_or, or_false, false_and, and_false, e1, hab, h59]
  · simp (disch := omega) only [vp_gdT, vp_gdTT, vp_let, vr_R, if_pos, if_neg, ite_true, ite_false, vp_bind, if_true, if_false, not_true_eq_false, not_false_eq_true, decide_eq_true_eq, true_or, or_true, true_and, and_true, false_or, or_false, false_and, and_false]
/-- sums over sets -/
def vh_su (G : Nat → Int) (s : Int) : Nat → Int
  | 0 => 0
  | p + 1 => vh_su G s p + if vp_bit s p then G p else 0
theorem vh_su_in {G : Nat → Int} {s B : Int} (hB : 0 ≤ B) (hG : ∀ p, p < 8 → 0 ≤ G p ∧ G p ≤ B) : ∀ n : Nat, n ≤ 8 → 0 ≤ vh_su G s n ∧ vh_su G s n ≤ B * n
  | 0, _ => by simp [vh_su]
  | n + 1, h => by
    have ih := vh_su_in (s := s) hB hG n (by omega)
    have h1 := hG n (by omega)
    unfold vh_su
    have e : B * ((n + 1 : Nat) : Int) = B * (n : Int) + B := by rw [Int.natCast_add, Int.mul_add]; simp
    rw [e]
    split <;> omega
theorem vp_and_bit {s : Int} {p : Nat} (h : 0 ≤ s ∧ s < 256) (hp : p < 8) : vr_and (vr_shr s (p : Int)) 1 = if vp_bit s p then 1 else 0 := by
  rw [vp_shr h hp]
  unfold vp_bit
  have h1 : s / 2 ^ p % 2 = 0 ∨ s / 2 ^ p % 2 = 1 := by omega
  rcases h1 with h1 | h1 <;> simp [h1]
def vh_G (h : vh_H) (cl : vl_C) (v wk : Int) : Nat → Int := fun p => if (p : Int) < h 5 0 then vh_gi h cl p v wk else 0
theorem vh_G_in {Y : Int} {h : vh_H} {cl : vl_C} {v wk : Int} (hh : vh_wf Y h) (hw : vl_wf cl) {p : Nat} (hp : p < 8) : 0 ≤ vh_G h cl v wk p ∧ vh_G h cl v wk p ≤ 990 := by
  have h1 := vh_ri_in (cl := cl) hh hw hp
  unfold vh_G vh_gi
  (repeat' split) <;> omega
/-- what a set gives together, the village at v -/
def vh_go (h : vh_H) (cl : vl_C) (wk s v : Int) : Int := vh_su (vh_G h cl v wk) s 8
theorem vh_giftOfL {cl : vl_C} {Y : Int} {μ : vr_M} (hY : Y ≤ 100000) (hw : vl_wf cl) (hh : vh_wf Y (vh_c μ 52)) (hr : vh_ripe μ cl) {s v : Int} (hs : 0 ≤ s ∧ s < 256) (hv : 0 ≤ v ∧ v ≤ 40) (hk : 0 ≤ μ 8 5 ∧ μ 8 5 ≤ 99) :
    ∀ (d p n : Nat), 8 - p = d → p ≤ 8 → 8 < p + n → fX0_giftOf_L5 n s v (vh_su (vh_G (vh_c μ 52) cl v (μ 8 5)) s p) (p : Int) μ = some (vh_go (vh_c μ 52) cl (μ 8 5) s v, μ) := by
  intro d
  induction d with
  | zero =>
    intro p n hd hp hn
    obtain ⟨n, rfl⟩ : ∃ m, n = m + 1 := ⟨n - 1, by omega⟩
    have : p = 8 := by omega
    subst this
    rw [fX0_giftOf_L5.eq_2]
    simp (disch := omega) only [vp_gdT, vp_gdTT, vp_let, vr_R, if_pos, if_neg, ite_true, ite_false, vp_bind, if_true, if_false, not_true_eq_false, not_false_eq_true, decide_eq_true_eq, true_or, or_true, true_and, and_true, false_or, or_false, false_and, and_false]
    rfl
  | succ d ih =>
    intro p n hd hp hn
    obtain ⟨n, rfl⟩ : ∃ m, n = m + 1 := ⟨n - 1, by omega⟩
    have h9 := ih (p + 1) n (by omega) (by omega) (by omega)
    have hp1 : (p : Int) + 1 = ((p + 1 : Nat) : Int) := by omega
    have hg := vh_gift hY hw hh hr (p := p) (v := v) (wk := μ 8 5) (by omega) hv ⟨by omega, by omega⟩
    have hb := vh_su_in (G := vh_G (vh_c μ 52) cl v (μ 8 5)) (s := s) (B := 990) (by omega) (fun q hq => vh_G_in hh hw hq) p (by omega)
    have hg2 := vh_G_in (v := v) (wk := μ 8 5) hh hw (p := p) (by omega)
    rw [fX0_giftOf_L5.eq_2, vp_and_bit hs (by omega)]
    unfold fX0_giftOf_B38
    unfold vh_su at h9
    have hge : (if (p : Int) < μ 52 5 then vh_gi (vh_c μ 52) cl p v (μ 8 5) else 0) = vh_G (vh_c μ 52) cl v (μ 8 5) p := rfl
    rw [hge] at hg
    by_cases c : vp_bit s p = true
    · rw [if_pos c] at h9
      simp (disch := omega) only [vp_gdT, vp_gdTT, vp_let, vr_R, if_pos, if_neg, ite_true, ite_false, vp_bind, if_true, if_false, not_true_eq_false, not_false_eq_true, decide_eq_true_eq, true_or, or_true, true_and, and_true, false_or, or_false, false_and, and_false, c, hg, hp1, h9]
    · rw [if_neg c, Int.add_zero] at h9
      simp (disch := omega) only [vp_gdT, vp_gdTT, vp_let, vr_R, if_pos, if_neg, ite_true, ite_false, vp_bind, if_true, if_false, not_true_eq_false, not_false_eq_true, decide_eq_true_eq, true_or, or_true, true_and, and_true, false_or, or_false, false_and, and_false, c, hp1, h9, Bool.false_eq_true]
theorem vh_giftOf {cl : vl_C} {Y : Int} {μ : vr_M} (hY : Y ≤ 100000) (hw : vl_wf cl) (hh : vh_wf Y (vh_c μ 52)) (hr : vh_ripe μ cl) {s v : Int} (hs : 0 ≤ s ∧ s < 256) (hv : 0 ≤ v ∧ v ≤ 40) (hk : 0 ≤ μ 8 5 ∧ μ 8 5 ≤ 99) :
    fX0_giftOf s v μ = some (vh_go (vh_c μ 52) cl (μ 8 5) s v, μ) := vh_giftOfL hY hw hh hr hs hv hk 8 0 9000 rfl (by omega) (by omega)
theorem vh_go_in {Y : Int} {h : vh_H} {cl : vl_C} {wk s v : Int} (hh : vh_wf Y h) (hw : vl_wf cl) : 0 ≤ vh_go h cl wk s v ∧ vh_go h cl wk s v ≤ 7920 := by
  have := vh_su_in (G := vh_G h cl v wk) (s := s) (B := 990) (by omega) (fun q hq => vh_G_in hh hw hq) 8 (by omega)
  unfold vh_go
  omega

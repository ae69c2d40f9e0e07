/-! what a rule has burnt -/
def vk_am (r : Nat → Int) : Nat → Nat
  | 0 => 0
  | m + 1 => if r (vk_am r m) < r (m + 1) then m + 1 else vk_am r m
def vk_gr (G : Nat → Int) (mo : Int) : Nat → (Nat → Int) → Int → Int → Int
  | 0, _, s, _ => s
  | f + 1, r, s, x => if mo ≤ x then s else if r (vk_am r 7) = 0 then s else vk_gr G mo f (fun p => if p = vk_am r 7 then 0 else r p) (s + 2 ^ vk_am r 7) (x + G (vk_am r 7))
def vk_rk (kind v : Int) (h : vh_H) (G : Nat → Int) (vi : Int) (p : Nat) : Int :=
  if ¬ (p : Int) < h 5 0 ∨ G p = 0 then 0
  else if kind = 2 then (if h 2 p = 0 ∧ h 3 p < v then 0 else G p)
  else if kind = 5 then (if h 2 p = 0 ∧ h 3 p < v then 0 else if h 2 p = 0 then G p else G p + 1000)
  else if kind = 6 then (if h 2 p = 0 ∧ h 3 p < v ∨ v ≤ h 2 p then 0 else G p)
  else if kind = 3 then (if v < vp_ab (h 1 p - vi) then 0 else (40 - vp_ab (h 1 p - vi)) * 1000 + G p)
  else G p
def vk_tn (v y : Int) : Nat → Int
  | 0 => 0
  | p + 1 => vk_tn v y p + if (p : Int) % v = y % v then 2 ^ p else 0
def vk_ct (s : Int) : Nat → Int
  | 0 => 0
  | p + 1 => vk_ct s p + if vp_bit s p then 1 else 0
def vk_bs (G : Nat → Int) (mo : Int) : Nat → Int
  | 0 => 0
  | s + 1 => if mo ≤ vh_su G ((s + 1 : Nat) : Int) 8 ∧ (vk_bs G mo s = 0 ∨ vk_ct ((s + 1 : Nat) : Int) 8 < vk_ct (vk_bs G mo s) 8 ∨ vk_ct ((s + 1 : Nat) : Int) 8 = vk_ct (vk_bs G mo s) 8 ∧ vh_su G ((s + 1 : Nat) : Int) 8 < vh_su G (vk_bs G mo s) 8) then ((s + 1 : Nat) : Int) else vk_bs G mo s
def vk_gv (G : Nat → Int) : Nat → Int
  | 0 => 0
  | p + 1 => vk_gv G p + if 0 < G p then 2 ^ p else 0
def vk_pk (kind v : Int) (h : vh_H) (cl : vl_C) (wk vi : Int) : Int :=
  if kind = 1 then vk_tn v (h 5 3) (h 5 0).toNat
  else if kind = 4 then (if vk_bs (vh_G h cl vi wk) (h 5 2) (2 ^ (h 5 0).toNat - 1 : Nat) = 0 then vk_gv (vh_G h cl vi wk) 8 else vk_bs (vh_G h cl vi wk) (h 5 2) (2 ^ (h 5 0).toNat - 1 : Nat))
  else vk_gr (vh_G h cl vi wk) (h 5 2) 8 (vk_rk kind v h (vh_G h cl vi wk) vi) 0 0
theorem vk_am_le (r : Nat → Int) : ∀ m, vk_am r m ≤ m
  | 0 => Nat.le_refl _
  | m + 1 => by
    have := vk_am_le r m
    unfold vk_am
    split <;> omega
theorem vk_am_congr {r r' : Nat → Int} : ∀ m, (∀ p, p ≤ m → r p = r' p) → vk_am r m = vk_am r' m
  | 0, _ => rfl
  | m + 1, h => by
    have ih := vk_am_congr m (fun p hp => h p (by omega))
    unfold vk_am
    rw [ih, h (m + 1) (by omega), h (vk_am r' m) (by have := vk_am_le r' m; omega)]
theorem vk_gr_congr {G : Nat → Int} {mo : Int} : ∀ (f : Nat) {r r' : Nat → Int} (s x : Int), (∀ p, p < 8 → r p = r' p) → vk_gr G mo f r s x = vk_gr G mo f r' s x
  | 0, _, _, _, _, _ => rfl
  | f + 1, r, r', s, x, h => by
    have e := vk_am_congr (r := r) (r' := r') 7 (fun p hp => h p (by omega))
    have h7 := vk_am_le r' 7
    unfold vk_gr
    rw [e, h (vk_am r' 7) (by omega)]
    rw [vk_gr_congr f (r := fun p => if p = vk_am r' 7 then 0 else r p) (r' := fun p => if p = vk_am r' 7 then 0 else r' p) _ _ (fun p hp => by show (if p = _ then (0 : Int) else r p) = (if p = _ then 0 else r' p); rw [h p hp])]
/-- given: what each gives, the village at vi -/
def vk_gn (μ : vr_M) (G : Nat → Int) : Prop := ∀ p, p < 8 → μ 60 p = G p
theorem vk_first (μ : vr_M) (hr : ∀ p, p < 8 → 0 ≤ μ 61 p ∧ μ 61 p ≤ 100000) : ∀ (d i n : Nat), 8 - i = d → 1 ≤ i → i ≤ 8 → 8 < i + n → fX0_firstInRank_L4 n ((vk_am (μ 61) (i - 1) : Nat) : Int) (i : Int) μ = some (((vk_am (μ 61) 7 : Nat) : Int), μ) := by
  intro d
  induction d with
  | zero =>
    intro i n hd h1 hi hn
    obtain ⟨n, rfl⟩ : ∃ m, n = m + 1 := ⟨n - 1, by omega⟩
    have : i = 8 := by omega
    subst this
    rw [fX0_firstInRank_L4.eq_2]
    simp (disch := omega) only [vp_gdT, vp_gdTT, vp_let, vr_R, if_pos, if_neg, ite_true, ite_false, vp_bind, if_true, if_false, not_true_eq_false, not_false_eq_true, decide_eq_true_eq, true_or, or_true, true_and, and_true, false_or, or_false, false_and, and_false]
  | succ d ih =>
    intro i n hd h1 hi hn
    obtain ⟨n, rfl⟩ : ∃ m, n = m + 1 := ⟨n - 1, by omega⟩
    obtain ⟨j, rfl⟩ : ∃ j, i = j + 1 := ⟨i - 1, by omega⟩
    have h9 := ih (j + 1 + 1) n (by omega) (by omega) (by omega) (by omega)
    have hj := vk_am_le (μ 61) j
    have r1 := hr (j + 1) (by omega)
    have r2 := hr (vk_am (μ 61) j) (by omega)
    have e1 : (((j + 1 : Nat) : Int)).toNat = j + 1 := rfl
    have e2 : (((vk_am (μ 61) j : Nat) : Int)).toNat = vk_am (μ 61) j := rfl
    have e3 : ((j + 1 : Nat) : Int) + 1 = ((j + 1 + 1 : Nat) : Int) := by omega
    rw [show j + 1 + 1 - 1 = j + 1 from rfl] at h9
    rw [show j + 1 - 1 = j from rfl, fX0_firstInRank_L4.eq_2, e1, e2]
    unfold fX0_firstInRank_B27
    rw [e3]
    rw [show vk_am (μ 61) (j + 1) = if μ 61 (vk_am (μ 61) j) < μ 61 (j + 1) then j + 1 else vk_am (μ 61) j from rfl] at h9
    by_cases c : μ 61 (vk_am (μ 61) j) < μ 61 (j + 1)
    · rw [if_pos c] at h9
      simp (disch := omega) only [vp_gdT, vp_gdTT, vp_let, vr_R, if_pos, if_neg, ite_true, ite_false, vp_bind, if_true, if_false, not_true_eq_false, not_false_eq_true, decide_eq_true_eq, true_or, or_true, true_and, and_true, false_or, or_false, false_and, and_false, h9]
    · rw [if_neg c] at h9
      simp (disch := omega) only [vp_gdT, vp_gdTT, vp_let, vr_R, if_pos, if_neg, ite_true, ite_false, vp_bind, if_true, if_false, not_true_eq_false, not_false_eq_true, decide_eq_true_eq, true_or, or_true, true_and, and_true, false_or, or_false, false_and, and_false, h9]
theorem vp_add_k : vp_fin 256 (fun s => vp_fin 8 (fun b => vp_bit (s : Int) b || (decide ((s : Int) + 2 ^ b < 256) && vp_fin 8 (fun p => vp_bit ((s : Int) + 2 ^ b) p == (decide (p = b) || vp_bit (s : Int) p))))) = true := by decide +kernel
theorem vp_add {s : Int} {b : Nat} (h : 0 ≤ s ∧ s < 256) (hb : b < 8) (hn : vp_bit s b = false) : s + 2 ^ b < 256 ∧ ∀ p, p < 8 → vp_bit (s + 2 ^ b) p = (decide (p = b) || vp_bit s p) := by
  have h1 := vp_fin_at (vp_fin_at vp_add_k (k := s.toNat) (by omega)) hb
  simp only [Int.toNat_of_nonneg h.1, hn, Bool.false_or, Bool.and_eq_true, decide_eq_true_eq] at h1
  refine ⟨h1.1, fun p hp => ?_⟩
  have := vp_fin_at h1.2 hp
  simpa using this
theorem vp_pow_nn (b : Nat) : (0 : Int) ≤ 2 ^ b := Int.le_of_lt (Int.pow_pos (by decide))
theorem vk_grL {G : Nat → Int} {mo : Int} (hG : ∀ p, p < 8 → 0 ≤ G p ∧ G p ≤ 990) (hmo : 1 ≤ mo ∧ mo ≤ 99) :
    ∀ (f i n : Nat) (s x : Int) (r : Nat → Int) (μ : vr_M), 8 - i = f → i ≤ 8 → 8 < i + n → vk_gn μ G → μ 52 7 = mo → (∀ p, p < 8 → μ 61 p = r p ∧ 0 ≤ r p ∧ r p ≤ 100000) → 0 ≤ s ∧ s < 256 → 0 ≤ x ∧ x ≤ 990 * i → (∀ p, p < 8 → vp_bit s p = true → r p = 0) →
      ∃ μ', fX0_picksByRank_L33 n s x (i : Int) μ = some (vk_gr G mo f r s x, μ') ∧ vp_fr [61] μ μ' ∧ 0 ≤ vk_gr G mo f r s x ∧ vk_gr G mo f r s x < 256 := by
  intro f
  induction f with
  | zero =>
    intro i n s x r μ hf hi hn hg hm hr hs hx hb
    obtain ⟨n, rfl⟩ : ∃ m, n = m + 1 := ⟨n - 1, by omega⟩
    refine ⟨μ, ?_, vp_fr.rf, hs⟩
    rw [fX0_picksByRank_L33.eq_2]
    simp (disch := omega) only [vp_gdT, vp_gdTT, vp_let, vr_R, if_pos, if_neg, ite_true, ite_false, vp_bind, if_true, if_false, not_true_eq_false, not_false_eq_true, decide_eq_true_eq, true_or, or_true, true_and, and_true, false_or, or_false, false_and, and_false, fX0_picksByRank_B100, vk_gr]
  | succ f ih =>
    intro i n s x r μ hf hi hn hg hm hr hs hx hb
    obtain ⟨n, rfl⟩ : ∃ m, n = m + 1 := ⟨n - 1, by omega⟩
    have hfirst := vk_first μ (fun p hp => by have := hr p hp; omega) 7 1 9000 rfl (by omega) (by omega) (by omega)
    have hff : fX0_firstInRank μ = some (((vk_am (μ 61) 7 : Nat) : Int), μ) := hfirst
    have ham : vk_am (μ 61) 7 = vk_am r 7 := vk_am_congr 7 (fun p hp => (hr p (by omega)).1)
    rw [ham] at hff
    have h7 := vk_am_le r 7
    have e1 : (((vk_am r 7 : Nat) : Int)).toNat = vk_am r 7 := rfl
    have e3 : (i : Int) + 1 = ((i + 1 : Nat) : Int) := by omega
    generalize hb0 : vk_am r 7 = b at *
    have r1 := hr b (by omega)
    have g1 := hG b (by omega)
    have g2 := hg b (by omega)
    rw [fX0_picksByRank_L33.eq_2, hm]
    by_cases c1 : mo ≤ x
    · refine ⟨μ, ?_, vp_fr.rf, ?_⟩
      · unfold vk_gr
        simp (disch := omega) only [vp_gdT, vp_gdTT, vp_let, vr_R, if_pos, if_neg, ite_true, ite_false, vp_bind, if_true, if_false, not_true_eq_false, not_false_eq_true, decide_eq_true_eq, true_or, or_true, true_and, and_true, false_or, or_false, false_and, and_false, fX0_picksByRank_B100]
      · unfold vk_gr; rw [if_pos c1]; exact hs
    · by_cases c2 : r b = 0
      · refine ⟨μ, ?_, vp_fr.rf, ?_⟩
        · unfold vk_gr
          simp (disch := omega) only [vp_gdT, vp_gdTT, vp_let, vr_R, if_pos, if_neg, ite_true, ite_false, vp_bind, if_true, if_false, not_true_eq_false, not_false_eq_true, decide_eq_true_eq, true_or, or_true, true_and, and_true, false_or, or_false, false_and, and_false, hff, e1, r1.1, hb0, c2]
        · unfold vk_gr; rw [if_neg c1, hb0, if_pos c2]; exact hs
      · have hnb : vp_bit s b = false := by
          cases q : vp_bit s b with
          | false => rfl
          | true => exact absurd (hb b (by omega) q) c2
        obtain ⟨a1, a2⟩ := vp_add hs (by omega) hnb
        have hor : vr_or s (vr_shl 1 (b : Int)) = s + 2 ^ b := by rw [vp_or hs (by omega), hnb]; rfl
        have e2 : vr_u μ 61 b 0 60 b = G b := by rw [vp_un (by decide), g2]
        obtain ⟨μ', k1, k2, k3⟩ := ih (i + 1) n (s + 2 ^ b) (x + G b) (fun p => if p = b then 0 else r p) (vr_u μ 61 b 0) (by omega) (by omega) (by omega)
          (fun p hp => by rw [vp_un (by decide)]; exact hg p hp) (by rw [vp_un (by decide)]; exact hm)
          (fun p hp => by
            have := hr p hp
            by_cases e : p = b
            · subst e; simp [vp_us]
            · simp only [e, if_false]; rw [vp_uj e]; exact this)
          ⟨by have := vp_pow_nn b; omega, a1⟩ ⟨by omega, by omega⟩
          (fun p hp q => by
            rw [a2 p hp] at q
            by_cases e : p = b
            · simp [e]
            · simp only [e, if_false, decide_false, Bool.false_or] at q ⊢
              exact hb p hp q)
        refine ⟨μ', ?_, (vp_fr.u (by decide)).tr k2, ?_⟩
        · unfold vk_gr
          simp (disch := omega) only [vp_gdT, vp_gdTT, vp_let, vr_R, if_pos, if_neg, ite_true, ite_false, vp_bind, if_true, if_false, not_true_eq_false, not_false_eq_true, decide_eq_true_eq, true_or, or_true, true_and, and_true, false_or, or_false, false_and, and_false, hff, e1, r1.1, hb0, hor, e2, e3, k1]
        · unfold vk_gr
          rw [if_neg c1, hb0, if_neg c2]
          exact k3

theorem vk_rk_in {kind v : Int} {h : vh_H} {G : Nat → Int} {vi : Int} {p : Nat} (hp1 : 0 ≤ h 1 p ∧ h 1 p ≤ 40) (hv : 0 ≤ vi ∧ vi ≤ 40) (hG : 0 ≤ G p ∧ G p ≤ 990) : 0 ≤ vk_rk kind v h G vi p ∧ vk_rk kind v h G vi p ≤ 100000 := by
  have hb2 : 0 ≤ vp_ab (h 1 p - vi) ∧ vp_ab (h 1 p - vi) ≤ 40 := by unfold vp_ab; split <;> omega
  unfold vk_rk
  (repeat' split) <;> omega
theorem vp_s {α : Type} {a b c d e f : Option α} : vr_sw 0 2 [a, b, c, d, e] f = f ∧ vr_sw 2 2 [a, b, c, d, e] f = a ∧ vr_sw 3 2 [a, b, c, d, e] f = b ∧ vr_sw 5 2 [a, b, c, d, e] f = d ∧ vr_sw 6 2 [a, b, c, d, e] f = e := ⟨rfl, rfl, rfl, rfl, rfl⟩
theorem vk_rank65 {μ : vr_M} {kind v far cr g : Int} (hk : kind = 0 ∨ kind = 2 ∨ kind = 3 ∨ kind = 5 ∨ kind = 6) (hkd : μ 58 2 = kind) (hv0 : μ 58 3 = v) (hvr : 1 ≤ v ∧ v ≤ 30) {p : Nat} (hp : p < 8) {vi : Int} (hvi : 0 ≤ vi ∧ vi ≤ 40) (h54 : 0 ≤ μ 54 p ∧ μ 54 p ≤ 40) (hcr : μ 55 p = cr) (hcr2 : 0 ≤ cr ∧ cr ≤ 100000) (hfar : vp_ab (μ 54 p - vi) = far) (hg : μ 60 p = g) (hg2 : 0 ≤ g ∧ g ≤ 990) {y li : Int} (hy : y = 0 ∨ y = 1) :
    fX0_rankOf_B65 (p : Int) vi li y μ = some (if kind = 2 then (if y = 0 then g else 0) else if kind = 5 then (if y = 0 then (if li = 0 then g + 1000 else g) else 0) else if kind = 6 then (if y = 0 ∧ cr < v then g else 0) else if kind = 3 then (if v < far then 0 else (40 - far) * 1000 + g) else g, μ) := by
  have e1 : ((p : Int)).toNat = p := rfl
  have hb2 : 0 ≤ far ∧ far ≤ 40 := by rw [← hfar]; unfold vp_ab; split <;> omega
  have hab : (if 0 ≤ μ 54 p - vi then μ 54 p - vi else -(μ 54 p - vi)) = far := by rw [← hfar]; unfold vp_ab; rfl
  unfold fX0_rankOf_B65
  rw [vp_gdT (by omega), e1, vp_gdT (by omega), vp_gdT (by omega), hkd, hab, hv0, hcr, hg]
  clear hkd hv0 hcr hfar hab e1 h54 hvi
  rcases hk with rfl | rfl | rfl | rfl | rfl
  · rw [vp_s.1]
    unfold fX0_rankOf_B231
    rw [vp_gdT (by omega), show ((p : Int)).toNat = p from rfl, hg, vp_gdT (by omega)]
    simp only [Int.reduceEq, if_false]
  · rw [vp_s.2.1]
    unfold fX0_rankOf_B135
    by_cases c : y = 0 <;> simp (disch := omega) only [c, vp_gdT, if_true, if_false]
  · rw [vp_s.2.2.1]
    unfold fX0_rankOf_B230
    simp only [Int.reduceEq, if_false, if_true]
    by_cases c : far ≤ v
    · rw [vp_gdT (by omega), vp_gdT (by omega), if_pos c, vp_gdT (by omega), if_neg (by omega)]
    · rw [vp_gdT (by omega), vp_gdT (by omega), if_neg c, if_pos (by omega)]
  · rw [vp_s.2.2.2.1]
    unfold fX0_rankOf_B168
    simp only [Int.reduceEq, if_false, if_true]
    by_cases c : y = 0
    · rw [if_pos c, if_pos c]
      by_cases c2 : li = 0
      · rw [if_pos c2, if_pos c2, vp_gdT (by omega)]
      · rw [if_neg c2, if_neg c2, vp_gdT (by omega)]
    · rw [if_neg c, if_neg c]
  · rw [vp_s.2.2.2.2]
    unfold fX0_rankOf_B190 fX0_rankOf_B200
    simp only [Int.reduceEq, if_false, if_true]
    by_cases c : y = 0
    · rw [if_neg (by omega), vp_gdT (by omega), vp_gdT (by omega)]
      by_cases c2 : cr < v
      · rw [if_pos c2, if_pos ⟨c, c2⟩, vp_gdT (by omega)]
      · rw [if_neg c2, if_neg (fun q => c2 q.2)]
    · rw [if_pos c, if_neg (fun q => c q.1)]
theorem vk_rank {μ : vr_M} {kind v : Int} {G : Nat → Int} {Y : Int} (hY : Y ≤ 100000) (hh : vh_wf Y (vh_c μ 52)) (hkd : μ 58 2 = kind) (hk : kind = 0 ∨ kind = 2 ∨ kind = 3 ∨ kind = 5 ∨ kind = 6) (hv0 : μ 58 3 = v) (hvr : 1 ≤ v ∧ v ≤ 30) (hg : vk_gn μ G) (hG : ∀ p, p < 8 → 0 ≤ G p ∧ G p ≤ 990) {p : Nat} (hp : p < 8) {vi : Int} (hvi : 0 ≤ vi ∧ vi ≤ 40) :
    fX0_rankOf (p : Int) vi μ = some (vk_rk kind v (vh_c μ 52) G vi p, μ) := by
  have hn8 : 0 ≤ μ 52 5 ∧ μ 52 5 ≤ 8 := hh.1
  have hn : vr_R (μ 52 5) := ⟨by omega, by omega⟩
  have e1 : ((p : Int)).toNat = p := rfl
  obtain ⟨b0, b1, b2, b3, b4⟩ := hh.2.2.2.2 p hp
  have r1 : vh_c μ 52 1 p = μ 54 p := by simp [vh_c, hp]
  have r2 : vh_c μ 52 2 p = μ 55 p := by simp [vh_c, hp]
  have r3 : vh_c μ 52 3 p = μ 56 p := by simp [vh_c, hp]
  have r5 : vh_c μ 52 5 0 = μ 52 5 := rfl
  have g1 := hg p hp
  have g2 := hG p hp
  rw [r1] at b1
  rw [r2] at b2
  rw [r3] at b3
  have key := fun (li y : Int) (hy : y = 0 ∨ y = 1) => vk_rank65 (li := li) hk hkd hv0 hvr hp hvi b1 rfl (by omega) rfl g1 g2 hy
  unfold fX0_rankOf vk_rk
  rw [vp_has hn, r1, r2, r3, r5]
  show (if (if 0 ≤ (p : Int) ∧ (p : Int) < μ 52 5 ∧ (p : Int) < 8 then (1 : Int) else 0) = 0 then _ else _) = _
  by_cases c1 : (p : Int) < μ 52 5
  · rw [if_pos (by omega : 0 ≤ (p : Int) ∧ (p : Int) < μ 52 5 ∧ (p : Int) < 8), if_neg (by omega)]
    dsimp only
    rw [vp_gdT (by omega)]
    simp only [e1, g1]
    rw [vp_gdT (by omega)]
    by_cases c2 : G p = 0
    · rw [if_neg (by omega), if_pos (Or.inr c2)]
      unfold fX0_rankOf_B20
      rfl
    · rw [if_pos c2, if_neg (by omega : ¬(¬(p : Int) < μ 52 5 ∨ G p = 0)), vp_gdT (by show vr_R (μ 55 p); exact ⟨by omega, by omega⟩)]
      show (if ¬ μ 55 p = 0 then _ else _) = _
      by_cases c3 : μ 55 p = 0
      · rw [if_neg (by omega)]
        unfold fX0_rankOf_B39
        rw [if_neg (by decide), vp_gdT (by omega), e1, vp_gdT (by show vr_R (μ 56 p); exact ⟨by omega, by omega⟩), hv0, vp_gdT (by exact ⟨by omega, by omega⟩)]
        by_cases c4 : v ≤ μ 56 p
        · rw [if_pos (by show v ≤ μ 56 p; exact c4)]
          unfold fX0_rankOf_B64
          rw [key 1 0 (Or.inl rfl)]
          rw [c3]
          have e5 : ¬ (μ 56 p < v) := by omega
          have e6 : ¬ (v ≤ 0) := by omega
          have e7 : 0 < v := by omega
          simp only [e5, e6, e7, true_and, and_true, false_and, and_false, true_or, or_true, false_or, or_false, if_true, if_false, and_self, Int.reduceEq]
        · rw [if_neg (by show ¬ v ≤ μ 56 p; exact c4)]
          rw [key 1 1 (Or.inr rfl)]
          rw [c3]
          have e5 : μ 56 p < v := by omega
          simp only [e5, true_and, and_true, false_and, and_false, true_or, or_true, false_or, or_false, if_true, if_false, and_self, Int.reduceEq]
      · rw [if_pos c3]
        unfold fX0_rankOf_B39
        rw [if_pos rfl]
        unfold fX0_rankOf_B64
        rw [key 0 0 (Or.inl rfl)]
        by_cases c6 : v ≤ μ 55 p
        · have e5 : ¬ μ 55 p < v := by omega
          simp only [c3, c6, e5, true_and, and_true, false_and, and_false, true_or, or_true, false_or, or_false, if_true, if_false, and_self, Int.reduceEq]
        · have e5 : μ 55 p < v := by omega
          simp only [c3, c6, e5, true_and, and_true, false_and, and_false, true_or, or_true, false_or, or_false, if_true, if_false, and_self, Int.reduceEq]
  · rw [if_neg (by omega : ¬ (0 ≤ (p : Int) ∧ (p : Int) < μ 52 5 ∧ (p : Int) < 8)), if_pos rfl, if_pos (Or.inl c1)]
    unfold fX0_rankOf_B20
    rfl

/-! lands: tokens (tests as the class codes them; -1 not, -2 and, -3 or), what a row of tokens says -/
def vl_t (sn : Nat → Int) (t : Int) : Bool := decide ((if sn (t / 300).toNat < t % 100 then (0 : Int) else if sn (t / 300).toNat = t % 100 then 1 else 2) = t / 100 % 3)
def vl_step (sn : Nat → Int) (t : Int) (st : List Bool) : List Bool :=
  if t = -1 then (match st with | a :: r => (!a) :: r | [] => [])
  else if t = -2 then (match st with | a :: b :: r => (b && a) :: r | r => r)
  else if t = -3 then (match st with | a :: b :: r => (b || a) :: r | r => r)
  else vl_t sn t :: st
def vl_st (sn : Nat → Int) : List Int → List Bool → List Bool
  | [], st => st
  | t :: ts, st => vl_st sn ts (vl_step sn t st)
def vl_ok : List Int → Nat → Prop
  | [], d => d = 1
  | t :: ts, d => (t = -1 ∧ 1 ≤ d ∧ vl_ok ts d) ∨ ((t = -2 ∨ t = -3) ∧ 2 ≤ d ∧ vl_ok ts (d - 1)) ∨ (0 ≤ t ∧ t < 1500 ∧ d < 60 ∧ vl_ok ts (d + 1))
def vl_h (sn : Nat → Int) (ts : List Int) : Bool := (vl_st sn ts []).headD false
def vl_v : List Bool → Nat
  | [] => 0
  | b :: r => b.toNat + 2 * vl_v r
theorem vl_v_bit : ∀ (st : List Bool) (i : Nat), (vl_v st).testBit i = st.getD i false
  | [], i => by simp [vl_v]
  | b :: r, 0 => by
    cases b <;> simp [vl_v, Nat.testBit_zero] <;> omega
  | b :: r, i + 1 => by
    have h : (b.toNat + 2 * vl_v r) / 2 = vl_v r := by cases b <;> simp <;> omega
    rw [show vl_v (b :: r) = b.toNat + 2 * vl_v r from rfl, Nat.testBit_succ, h, vl_v_bit r i]
    simp
theorem vl_v_lt : ∀ (st : List Bool), vl_v st < 2 ^ st.length
  | [] => by simp [vl_v]
  | b :: r => by
    have h := vl_v_lt r
    have h2 : 2 ^ (b :: r).length = 2 * 2 ^ r.length := by simp [Nat.pow_succ, Nat.mul_comm]
    rw [h2]
    cases b <;> simp [vl_v] <;> omega
def vl_w (st : List Bool) : Int64 := Int64.ofNat (vl_v st)
theorem vl_w_bit (st : List Bool) (i : Nat) (hi : i < 64) : (vl_w st).toBitVec.getLsbD i = st.getD i false := by
  rw [← vl_v_bit]
  show (BitVec.ofNat 64 (vl_v st)).getLsbD i = _
  rw [BitVec.getLsbD_ofNat]
  simp [hi]
theorem vl_w_eq {x : Int64} {st : List Bool} (h : ∀ i, i < 64 → x.toBitVec.getLsbD i = st.getD i false) : x = vl_w st := by
  apply Int64.toBitVec_inj.mp
  apply BitVec.eq_of_getLsbD_eq
  intro i hi
  rw [h i hi, vl_w_bit st i hi]
theorem vl_w_not {a : Bool} {r : List Bool} : vl_w (a :: r) ^^^ (1 : Int64) = vl_w ((!a) :: r) := by
  apply vl_w_eq
  intro i hi
  rw [Int64.toBitVec_xor, BitVec.getLsbD_xor, vl_w_bit _ i hi]
  cases i with
  | zero => simp
  | succ i => simp
theorem vl_ushr1 (x : Int64) (i : Nat) (hi : i < 64) : (vr_lushr x 1).toBitVec.getLsbD i = x.toBitVec.getLsbD (i + 1) := by
  have e : vr_lushr x 1 = (x.toUInt64 >>> 1).toInt64 := rfl
  rw [e]
  simp [Nat.add_comm]
theorem vl_m2 : ∀ i, i < 64 → ((-2 : Int64)).toBitVec.getLsbD i = decide (1 ≤ i) := by decide
theorem vl_i01 : vr_i2l 0 = 0 ∧ vr_i2l 1 = 1 := by decide
theorem vl_far {r : List Bool} {i : Nat} (h : r.length < 60) (hi : ¬ i + 1 < 64) : r.getD i false = false := by
  rw [List.getD_eq_getElem?_getD, List.getElem?_eq_none (by omega)]; rfl
theorem vl_far2 (x : Int64) {i : Nat} (hi : ¬ i + 1 < 64) : x.toBitVec.getLsbD (i + 1) = false := BitVec.getLsbD_of_ge _ _ (by omega)
theorem vl_w_or {a b : Bool} {r : List Bool} (hr : r.length < 60) : vr_lushr (vl_w (a :: b :: r)) 1 ||| (vl_w (a :: b :: r) &&& (1 : Int64)) = vl_w ((b || a) :: r) := by
  apply vl_w_eq
  intro i hi
  rw [Int64.toBitVec_or, BitVec.getLsbD_or, vl_ushr1 _ i hi, Int64.toBitVec_and, BitVec.getLsbD_and, vl_w_bit _ i hi]
  by_cases h63 : i + 1 < 64
  · rw [vl_w_bit _ _ h63]
    cases i with
    | zero => simp
    | succ i => simp
  · obtain ⟨i, rfl⟩ : ∃ j, i = j + 1 := ⟨i - 1, by omega⟩
    rw [vl_far2 _ h63]
    have h1 : r.getD i false = false := by
      rw [List.getD_eq_getElem?_getD, List.getElem?_eq_none (by omega)]; rfl
    simp
    simp at h1
    exact h1
theorem vl_w_and {a b : Bool} {r : List Bool} (hr : r.length < 60) : vr_lushr (vl_w (a :: b :: r)) 1 &&& (vl_w (a :: b :: r) ||| ((-2) : Int64)) = vl_w ((b && a) :: r) := by
  apply vl_w_eq
  intro i hi
  rw [Int64.toBitVec_and, BitVec.getLsbD_and, vl_ushr1 _ i hi, Int64.toBitVec_or, BitVec.getLsbD_or, vl_w_bit _ i hi, vl_m2 i hi]
  by_cases h63 : i + 1 < 64
  · rw [vl_w_bit _ _ h63]
    cases i with
    | zero => simp
    | succ i => simp
  · obtain ⟨i, rfl⟩ : ∃ j, i = j + 1 := ⟨i - 1, by omega⟩
    rw [vl_far2 _ h63]
    have h1 : r.getD i false = false := by
      rw [List.getD_eq_getElem?_getD, List.getElem?_eq_none (by omega)]; rfl
    simp
    simp at h1
    exact h1
theorem vl_w_push {st : List Bool} {b : Bool} : vr_lshl (vl_w st) 1 ||| (vr_i2l (if b then 1 else 0)) = vl_w (b :: st) := by
  apply vl_w_eq
  intro i hi
  have e : vr_lshl (vl_w st) 1 = vl_w st <<< (1 : Int64) := rfl
  rw [e]
  have h0 := vl_i01.1
  have h1 := vl_i01.2
  cases i with
  | zero => cases b <;> simp [h0, h1]
  | succ i =>
    have h2 := vl_w_bit st i (by omega)
    have h3 : i < 63 := by omega
    cases b <;> simp [h0, h1, h2, h3] <;> (intro _; omega)
theorem vl_w_0 : (0 : Int64) = vl_w [] := rfl
theorem vl_w_end {b : Bool} {r : List Bool} : ((vr_lcmp (vl_w (b :: r) &&& (1 : Int64)) (0 : Int64)) = 0) ↔ b = false := by
  have h : vl_w (b :: r) &&& (1 : Int64) = vl_w [b] := by
    apply vl_w_eq
    intro i hi
    rw [Int64.toBitVec_and, BitVec.getLsbD_and, vl_w_bit _ i hi]
    cases i with
    | zero => simp
    | succ i => simp
  rw [h]
  cases b <;> decide +kernel
theorem vp_sw3 {α : Type} {x : Int} {a b c d : Option α} (h : 0 ≤ x) : vr_sw x (-3) [a, b, c] d = d := by
  unfold vr_sw
  rw [if_pos (by omega)]
  obtain ⟨n, hn⟩ : ∃ n : Nat, (x - -3).toNat = n + 3 := ⟨(x - -3).toNat - 3, by omega⟩
  rw [hn]
  rfl

theorem vp_swm {α : Type} {a b c d : Option α} : vr_sw (-3) (-3) [a, b, c] d = a ∧ vr_sw (-2) (-3) [a, b, c] d = b ∧ vr_sw (-1) (-3) [a, b, c] d = c := ⟨rfl, rfl, rfl⟩
/-! the class's reading of a row of tokens -/
theorem vl_passes {k : Nat} {t : Int} {μ : vr_M} (h0 : 0 ≤ t) (h1 : t < 1500) (hs : ∀ i, i < 5 → vr_R (μ (k + 4) i)) : fX3_passes k t μ = some (if vl_t (μ (k + 4)) t then 1 else 0, μ) := by
  unfold fX3_passes fX3_passes_B55 fX3_passes_B19 fX3_passes_B73
  have e1 : t.tdiv 300 = t / 300 := Int.tdiv_eq_ediv_of_nonneg h0
  have e2 : t.tmod 100 = t % 100 := Int.tmod_eq_emod_of_nonneg h0
  have e3 : t.tdiv 100 = t / 100 := Int.tdiv_eq_ediv_of_nonneg h0
  have e4 : (t / 100).tmod 3 = t / 100 % 3 := Int.tmod_eq_emod_of_nonneg (by omega)
  have h5 := hs (t / 300).toNat (by omega)
  obtain ⟨h6, h7⟩ := h5
  rw [e1, e2, e3, e4]
  generalize hx : μ (k + 4) (t / 300).toNat = x at h6 h7 ⊢
  unfold vl_t
  rw [hx]
  by_cases c1 : t % 100 ≤ x
  · by_cases c2 : x = t % 100
    · by_cases c3 : t / 100 % 3 = 1
      · simp (disch := omega) only [vp_gdT, vp_gdTT, vp_let, vr_R, if_pos, if_neg, ite_true, ite_false, vp_bind, if_true, if_false, not_true_eq_false, not_false_eq_true, decide_eq_true_eq, true_or, or_true, true_and, and_true, false_or, or_false, false_and, and_false, c2, c3]
      · simp (disch := omega) only [vp_gdT, vp_gdTT, vp_let, vr_R, if_pos, if_neg, ite_true, ite_false, vp_bind, if_true, if_false, not_true_eq_false, not_false_eq_true, decide_eq_true_eq, true_or, or_true, true_and, and_true, false_or, or_false, false_and, and_false, c2, c3]
    · by_cases c3 : t / 100 % 3 = 2
      · simp (disch := omega) only [vp_gdT, vp_gdTT, vp_let, vr_R, if_pos, if_neg, ite_true, ite_false, vp_bind, if_true, if_false, not_true_eq_false, not_false_eq_true, decide_eq_true_eq, true_or, or_true, true_and, and_true, false_or, or_false, false_and, and_false, c2, c3]
      · simp (disch := omega) only [vp_gdT, vp_gdTT, vp_let, vr_R, if_pos, if_neg, ite_true, ite_false, vp_bind, if_true, if_false, not_true_eq_false, not_false_eq_true, decide_eq_true_eq, true_or, or_true, true_and, and_true, false_or, or_false, false_and, and_false, c2, c3]
  · by_cases c3 : t / 100 % 3 = 0
    · simp (disch := omega) only [vp_gdT, vp_gdTT, vp_let, vr_R, if_pos, if_neg, ite_true, ite_false, vp_bind, if_true, if_false, not_true_eq_false, not_false_eq_true, decide_eq_true_eq, true_or, or_true, true_and, and_true, false_or, or_false, false_and, and_false, c1, c3]
    · simp (disch := omega) only [vp_gdT, vp_gdTT, vp_let, vr_R, if_pos, if_neg, ite_true, ite_false, vp_bind, if_true, if_false, not_true_eq_false, not_false_eq_true, decide_eq_true_eq, true_or, or_true, true_and, and_true, false_or, or_false, false_and, and_false, c1, c3]

theorem vl_holdsL {k : Nat} {μ : vr_M} {j e : Nat} (hj : j < 10) (he : μ (k + 2) j = (e : Int)) (he2 : e ≤ 120) (hs : ∀ i, i < 5 → vr_R (μ (k + 4) i)) :
    ∀ (ts : List Int) (i n : Nat) (st : List Bool), e < i + n → i + ts.length = e → (∀ q, q < ts.length → μ (k + 3) (i + q) = ts.getD q 0) → vl_ok ts st.length → st.length < 61 →
      fX3_holds_L40 k n (j : Int) (vl_w st) (i : Int) μ = some (if (vl_st (μ (k + 4)) ts st).headD false then 1 else 0, μ) := by
  intro ts
  induction ts with
  | nil =>
    intro i n st hn hi ht hok hst
    obtain ⟨n, rfl⟩ : ∃ m, n = m + 1 := ⟨n - 1, by omega⟩
    simp only [List.length_nil] at hi
    unfold vl_ok at hok
    obtain ⟨b, rfl⟩ : ∃ b, st = [b] := by
      cases st with
      | nil => simp at hok
      | cons b r => simp at hok; subst hok; exact ⟨b, rfl⟩
    rw [fX3_holds_L40.eq_2]
    rw [show ((j : Int)).toNat = j from rfl, he]
    unfold fX3_holds_B146 fX3_holds_B159
    have h9 := @vl_w_end b []
    cases b
    · simp (disch := omega) only [vp_gdT, vp_gdTT, vp_let, vr_R, if_pos, if_neg, ite_true, ite_false, vp_bind, if_true, if_false, not_true_eq_false, not_false_eq_true, decide_eq_true_eq, true_or, or_true, true_and, and_true, false_or, or_false, false_and, and_false, h9, vl_st, List.headD, Bool.false_eq_true]
    · simp (disch := omega) only [vp_gdT, vp_gdTT, vp_let, vr_R, if_pos, if_neg, ite_true, ite_false, vp_bind, if_true, if_false, not_true_eq_false, not_false_eq_true, decide_eq_true_eq, true_or, or_true, true_and, and_true, false_or, or_false, false_and, and_false, h9, vl_st, List.headD, Bool.true_eq_false]
  | cons t ts ih =>
    intro i n st hn hi ht hok hst
    obtain ⟨n, rfl⟩ : ∃ m, n = m + 1 := ⟨n - 1, by omega⟩
    simp only [List.length_cons] at hi
    have ht0 : μ (k + 3) i = t := by have := ht 0 (by simp); simpa using this
    have hts : ∀ q, q < ts.length → μ (k + 3) (i + 1 + q) = ts.getD q 0 := by
      intro q hq
      have := ht (q + 1) (by simp; omega)
      rw [show i + 1 + q = i + (q + 1) by omega, this]
      simp
    rw [fX3_holds_L40.eq_2]
    rw [show ((j : Int)).toNat = j from rfl, he, show ((i : Int)).toNat = i from rfl, ht0]
    unfold fX3_holds_B140
    have hi1 : (i : Int) + 1 = ((i + 1 : Nat) : Int) := by omega
    unfold vl_ok at hok
    rcases hok with ⟨rfl, h1, hok⟩ | ⟨hta, h1, hok⟩ | ⟨h1, h2, h3, hok⟩
    · cases st with
      | nil => simp at h1
      | cons a r =>
        have h9 := ih (i + 1) n ((!a) :: r) (by omega) (by omega) hts (by simpa using hok) (by simpa using hst)
        simp (disch := omega) only [vp_gdT, vp_gdTT, vp_let, vr_R, if_pos, if_neg, ite_true, ite_false, vp_bind, if_true, if_false, not_true_eq_false, not_false_eq_true, decide_eq_true_eq, true_or, or_true, true_and, and_true, false_or, or_false, false_and, and_false, vp_swm, vl_w_not, hi1, h9, vl_st, vl_step]
    · cases st with
      | nil => simp at h1
      | cons a r =>
        cases r with
        | nil => simp at h1
        | cons b r =>
          have hr : r.length < 60 := by simp at hst; omega
          rcases hta with rfl | rfl
          · have h9 := ih (i + 1) n ((b && a) :: r) (by omega) (by omega) hts (by simpa using hok) (by simp at hst ⊢; omega)
            simp (disch := omega) only [vp_gdT, vp_gdTT, vp_let, vr_R, if_pos, if_neg, ite_true, ite_false, vp_bind, if_true, if_false, not_true_eq_false, not_false_eq_true, decide_eq_true_eq, true_or, or_true, true_and, and_true, false_or, or_false, false_and, and_false, vp_swm, hi1, vl_st, vl_step, vl_w_and hr, h9]
          · have h9 := ih (i + 1) n ((b || a) :: r) (by omega) (by omega) hts (by simpa using hok) (by simp at hst ⊢; omega)
            simp (disch := omega) only [vp_gdT, vp_gdTT, vp_let, vr_R, if_pos, if_neg, ite_true, ite_false, vp_bind, if_true, if_false, not_true_eq_false, not_false_eq_true, decide_eq_true_eq, true_or, or_true, true_and, and_true, false_or, or_false, false_and, and_false, vp_swm, hi1, vl_st, vl_step, vl_w_or hr, h9]
    · have h9 := ih (i + 1) n (vl_t (μ (k + 4)) t :: st) (by omega) (by omega) hts (by simpa using hok) (by simp; omega)
      have hp := vl_passes (k := k) (μ := μ) h1 h2 hs
      have hst2 : vl_step (μ (k + 4)) t st = vl_t (μ (k + 4)) t :: st := by unfold vl_step; rw [if_neg (by omega), if_neg (by omega), if_neg (by omega)]
      simp (disch := omega) only [vp_gdT, vp_gdTT, vp_let, vr_R, if_pos, if_neg, ite_true, ite_false, vp_bind, if_true, if_false, not_true_eq_false, not_false_eq_true, decide_eq_true_eq, true_or, or_true, true_and, and_true, false_or, or_false, false_and, and_false, vp_sw3 h1, hp, hi1, vl_st, hst2, vl_w_push, h9]

/-! a land of the class, at cell k: its clauses (what is given, -1 for wear; tokens) -/
abbrev vl_C : Type := List (Int × List Int)
def vl_end (cl : vl_C) (j : Nat) : Nat := ((cl.take j).map (fun q => q.2.length)).sum
def vl_toks (cl : vl_C) : List Int := cl.flatMap (fun q => q.2)
/-- clauses that can be read: as many as there may be, tokens in order -/
def vl_wf (cl : vl_C) : Prop := cl.length ≤ 10 ∧ vl_end cl cl.length ≤ 120 ∧ ∀ q ∈ cl, (q.1 = -1 ∨ 0 ≤ q.1 ∧ q.1 ≤ 99) ∧ vl_ok q.2 0
/-- the class holds them at cell k -/
def vl_at (k : Nat) (μ : vr_M) (cl : vl_C) : Prop :=
  μ k 3 = (cl.length : Int) ∧ (∀ j (h : j < cl.length), μ (k + 1) j = (cl[j]).1 ∧ μ (k + 2) j = (vl_end cl (j + 1) : Int) ∧ ∀ i, i < (cl[j]).2.length → μ (k + 3) (vl_end cl j + i) = (cl[j]).2.getD i 0)
theorem vl_end_succ {cl : vl_C} {j : Nat} (h : j < cl.length) : vl_end cl (j + 1) = vl_end cl j + (cl[j]).2.length := by
  unfold vl_end
  rw [List.take_succ_eq_append_getElem h, List.map_append, List.sum_append]
  simp only [List.map_cons, List.map_nil, List.sum_cons, List.sum_nil, Nat.add_zero]
theorem vl_end_mono {cl : vl_C} : ∀ (d : Nat) {j : Nat}, vl_end cl j ≤ vl_end cl (j + d)
  | 0, _ => Nat.le_refl _
  | d + 1, j => by
    have h := vl_end_mono (cl := cl) d (j := j)
    rcases Nat.lt_or_ge (j + d) cl.length with q | q
    · rw [show j + (d + 1) = j + d + 1 by omega, vl_end_succ q]; omega
    · have e : vl_end cl (j + (d + 1)) = vl_end cl (j + d) := by
        unfold vl_end; rw [List.take_of_length_le (by omega), List.take_of_length_le (by omega)]
      omega
theorem vl_end_le {cl : vl_C} (hw : vl_wf cl) {j : Nat} (h : j ≤ cl.length) : vl_end cl j ≤ 120 := by
  have h1 := vl_end_mono (cl := cl) (cl.length - j) (j := j)
  rw [show j + (cl.length - j) = cl.length by omega] at h1
  have := hw.2.1
  omega
theorem vl_holds {k : Nat} {μ : vr_M} {cl : vl_C} {j : Nat} (hw : vl_wf cl) (ha : vl_at k μ cl) (hj : j < cl.length) (hs : ∀ i, i < 5 → vr_R (μ (k + 4) i)) : fX3_holds k (j : Int) μ = some (if vl_h (μ (k + 4)) (cl[j]).2 then 1 else 0, μ) := by
  have h10 := hw.1
  obtain ⟨h1, h2, h3⟩ := ha.2 j hj
  have hok := (hw.2.2 _ (List.getElem_mem hj)).2
  have he := vl_end_le hw (j := j + 1) (by omega)
  have he2 := vl_end_succ hj
  unfold fX3_holds fX3_holds_B30
  have key := vl_holdsL (k := k) (μ := μ) (j := j) (e := vl_end cl (j + 1)) (by omega) h2 he hs (cl[j]).2 (vl_end cl j) 9000 [] (by omega) (by omega) h3 hok (by simp)
  rw [← vl_w_0] at key
  by_cases hj0 : j = 0
  · subst hj0
    have e0 : vl_end cl 0 = 0 := by simp [vl_end]
    rw [e0] at key
    have e1 : max (0 : Int) 0 = 0 := by omega
    rw [show ((0 : Nat) : Int) = 0 from rfl] at key ⊢
    simp (disch := omega) only [vp_gdT, vp_gdTT, vp_let, vr_R, if_pos, if_neg, ite_true, ite_false, vp_bind, if_true, if_false, not_true_eq_false, not_false_eq_true, decide_eq_true_eq, true_or, or_true, true_and, and_true, false_or, or_false, false_and, and_false, e1, key]
    unfold vl_h
    rfl
  · obtain ⟨i, rfl⟩ : ∃ i, j = i + 1 := ⟨j - 1, by omega⟩
    have h4 := (ha.2 i (by omega)).2.1
    have e1 : (((i + 1 : Nat) : Int) - 1).toNat = i := by omega
    have he3 := vl_end_le hw (j := i + 1) (by omega)
    have e2 : max ((vl_end cl (i + 1) : Nat) : Int) 0 = ((vl_end cl (i + 1) : Nat) : Int) := by omega
    simp (disch := omega) only [vp_gdT, vp_gdTT, vp_let, vr_R, if_pos, if_neg, ite_true, ite_false, vp_bind, if_true, if_false, not_true_eq_false, not_false_eq_true, decide_eq_true_eq, true_or, or_true, true_and, and_true, false_or, or_false, false_and, and_false, e1, h4, e2, key]
    unfold vl_h
    rfl

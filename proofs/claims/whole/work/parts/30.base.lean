/-! numbers and memory -/
theorem vp_gdT {α : Type} {q : Prop} [Decidable q] {P : Option α} (h : q) : vr_gd q P = P := if_pos h
theorem vp_gdTT {α : Type} {P : Option α} {i : Decidable True} : @vr_gd α True i P = P := if_pos trivial
theorem vp_bind {α β : Type} {a : α} {f : α → Option β} : (some a).bind f = f a := by rw [Option.bind_some]
theorem vp_let {α : Type} {X : vr_M} {K : vr_M → Option α} : vr_let X K = K X := by rw [vr_let]
theorem vp_u {μ : vr_M} {k j a b : Nat} {v : Int} : vr_u μ k j v a b = if a = k ∧ b = j then v else μ a b := rfl
theorem vp_us {μ : vr_M} {k j : Nat} {v : Int} : vr_u μ k j v k j = v := by simp [vr_u]
theorem vp_un {μ : vr_M} {k j a b : Nat} {v : Int} (h : a ≠ k) : vr_u μ k j v a b = μ a b := by simp [vr_u, h]
theorem vp_uj {μ : vr_M} {k j a b : Nat} {v : Int} (h : b ≠ j) : vr_u μ k j v a b = μ a b := by simp [vr_u, h]
theorem vp_uc {μ : vr_M} {k j a : Nat} {v : Int} (h : a ≠ k) : vr_u μ k j v a = μ a := vr_u_other h
def vp_ab (x : Int) : Int := if 0 ≤ x then x else -x
theorem vp_ab_nn (x : Int) : 0 ≤ vp_ab x := by unfold vp_ab; split <;> omega
theorem vp_cs {P Q : Prop} {α : Type} [Decidable P] [Decidable Q] {a b : α} (h : P ↔ Q) : (if P then a else b) = (if Q then a else b) := by
  by_cases q : Q
  · rw [if_pos (h.mpr q), if_pos q]
  · rw [if_neg (fun z => q (h.mp z)), if_neg q]
/-- has -/
theorem vp_has {k : Nat} {i : Int} {μ : vr_M} (h : vr_R (μ k 5)) : fX2_has k i μ = some (if 0 ≤ i ∧ i < μ k 5 ∧ i < 8 then 1 else 0, μ) := by
  unfold fX2_has fX2_has_B22 fX2_has_B23
  by_cases h1 : i < 0
  · simp (disch := omega) only [vp_gdT, vp_gdTT, vp_let, vr_R, if_pos, if_neg, ite_true, ite_false, vp_bind, if_true, if_false, not_true_eq_false, not_false_eq_true, decide_eq_true_eq, true_or, or_true, true_and, and_true, false_or, or_false, false_and, and_false, h1]
  · by_cases h2 : μ k 5 ≤ i
    · simp (disch := omega) only [vp_gdT, vp_gdTT, vp_let, vr_R, if_pos, if_neg, ite_true, ite_false, vp_bind, if_true, if_false, not_true_eq_false, not_false_eq_true, decide_eq_true_eq, true_or, or_true, true_and, and_true, false_or, or_false, false_and, and_false]
    · by_cases h3 : 8 ≤ i
      · simp (disch := omega) only [vp_gdT, vp_gdTT, vp_let, vr_R, if_pos, if_neg, ite_true, ite_false, vp_bind, if_true, if_false, not_true_eq_false, not_false_eq_true, decide_eq_true_eq, true_or, or_true, true_and, and_true, false_or, or_false, false_and, and_false]
      · simp (disch := omega) only [vp_gdT, vp_gdTT, vp_let, vr_R, if_pos, if_neg, ite_true, ite_false, vp_bind, if_true, if_false, not_true_eq_false, not_false_eq_true, decide_eq_true_eq, true_or, or_true, true_and, and_true, false_or, or_false, false_and, and_false]
/-! sets as numbers: bits -/
def vp_bit (s : Int) (p : Nat) : Bool := s / 2 ^ p % 2 = 1
def vp_fin (n : Nat) (f : Nat → Bool) : Bool := (List.range n).all f
theorem vp_fin_at {n : Nat} {f : Nat → Bool} (h : vp_fin n f = true) {k : Nat} (hk : k < n) : f k = true := List.all_eq_true.mp h k (List.mem_range.mpr hk)
theorem vp_shr_k : vp_fin 256 (fun s => vp_fin 8 (fun p => decide (vr_and (vr_shr (s : Int) (p : Int)) 1 = (s : Int) / 2 ^ p % 2))) = true := by decide +kernel
theorem vp_or_k : vp_fin 256 (fun s => vp_fin 8 (fun p => decide (vr_or (s : Int) (vr_shl 1 (p : Int)) = (if vp_bit s p then (s : Int) else s + 2 ^ p)))) = true := by decide +kernel
theorem vp_shl_k : vp_fin 9 (fun p => decide (vr_shl 1 (p : Int) = 2 ^ p)) = true := by decide +kernel
theorem vp_shr {s : Int} {p : Nat} (h : 0 ≤ s ∧ s < 256) (hp : p < 8) : vr_and (vr_shr s (p : Int)) 1 = s / 2 ^ p % 2 := by
  have h1 := of_decide_eq_true (vp_fin_at (vp_fin_at vp_shr_k (k := s.toNat) (by omega)) hp)
  rw [Int.toNat_of_nonneg h.1] at h1
  exact h1
theorem vp_or {s : Int} {p : Nat} (h : 0 ≤ s ∧ s < 256) (hp : p < 8) : vr_or s (vr_shl 1 (p : Int)) = if vp_bit s p then s else s + 2 ^ p := by
  have h1 := of_decide_eq_true (vp_fin_at (vp_fin_at vp_or_k (k := s.toNat) (by omega)) hp)
  rw [Int.toNat_of_nonneg h.1] at h1
  exact h1
theorem vp_shl {p : Nat} (hp : p < 9) : vr_shl 1 (p : Int) = 2 ^ p := of_decide_eq_true (vp_fin_at vp_shl_k hp)

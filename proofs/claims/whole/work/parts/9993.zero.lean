/-! the start: all zero but a few -/
def vk_w9 (D : vbx_D) (h0 : Nat) (f : Nat → Nat) : va_W := [(h0, .inr (9, [.ref (f 0), .ref (f 22), .int (vr_I 0), .ref (f 44), .ref (f 49), .ref (f 50), .ref (f 62), .ref (f 65)])), ((f 0), .inr (8, [.ref (f 1), .ref (f 7), .ref (f 12), .ref (f 14), .ref (f 16), .ref (f 18), .ref (f 20), .int (vr_I 0)])), ((f 1), .inr (2, [.ref (f 2), .ref (f 3), .ref (f 4), .ref (f 5), .ref (f 6), .int (vr_I 0), .int (vr_I 0), .int (vr_I 10), .int (vr_I 0)])), ((f 2), .inl (D.2.1, 8, .inl (fun _ => vr_I 0))), ((f 3), .inl (D.2.1, 8, .inl (fun _ => vr_I 0))), ((f 4), .inl (D.2.1, 8, .inl (fun _ => vr_I 0))), ((f 5), .inl (D.2.1, 8, .inl (fun _ => vr_I 0))), ((f 6), .inl (D.2.1, 8, .inl (fun _ => vr_I 0))), ((f 7), .inr (3, [.ref (f 8), .ref (f 9), .ref (f 10), .int (vr_I 0), .int (vr_I 0), .int (vr_I 99), .int (vr_I 0), .int (vr_I 0), .int (vr_I 0), .ref (f 11)])), ((f 8), .inl (D.2.1, 10, .inl (fun _ => vr_I 0))), ((f 9), .inl (D.2.1, 10, .inl (fun _ => vr_I 0))), ((f 10), .inl (D.2.1, 120, .inl (fun _ => vr_I 0))), ((f 11), .inl (D.2.1, 5, .inl (fun _ => vr_I 0))), ((f 12), .inr (4, [.ref (f 13), .int (vr_I 0)])), ((f 13), .inl (D.2.1, 120, .inl (fun _ => vr_I 0))), ((f 14), .inr (4, [.ref (f 15), .int (vr_I 0)])), ((f 15), .inl (D.2.1, 12, .inl (fun _ => vr_I 0))), ((f 16), .inr (4, [.ref (f 17), .int (vr_I 0)])), ((f 17), .inl (D.2.1, 10, .inl (fun _ => vr_I 0))), ((f 18), .inr (4, [.ref (f 19), .int (vr_I 0)])), ((f 19), .inl (D.2.1, 8, .inl (fun _ => vr_I 0))), ((f 20), .inr (4, [.ref (f 21), .int (vr_I 0)])), ((f 21), .inl (D.2.1, 8, .inl (fun _ => vr_I 0))), ((f 22), .inr (8, [.ref (f 23), .ref (f 29), .ref (f 34), .ref (f 36), .ref (f 38), .ref (f 40), .ref (f 42), .int (vr_I 0)])), ((f 23), .inr (2, [.ref (f 24), .ref (f 25), .ref (f 26), .ref (f 27), .ref (f 28), .int (vr_I 0), .int (vr_I 0), .int (vr_I 10), .int (vr_I 0)])), ((f 24), .inl (D.2.1, 8, .inl (fun _ => vr_I 0))), ((f 25), .inl (D.2.1, 8, .inl (fun _ => vr_I 0))), ((f 26), .inl (D.2.1, 8, .inl (fun _ => vr_I 0))), ((f 27), .inl (D.2.1, 8, .inl (fun _ => vr_I 0))), ((f 28), .inl (D.2.1, 8, .inl (fun _ => vr_I 0))), ((f 29), .inr (3, [.ref (f 30), .ref (f 31), .ref (f 32), .int (vr_I 0), .int (vr_I 0), .int (vr_I 99), .int (vr_I 0), .int (vr_I 0), .int (vr_I 0), .ref (f 33)])), ((f 30), .inl (D.2.1, 10, .inl (fun _ => vr_I 0))), ((f 31), .inl (D.2.1, 10, .inl (fun _ => vr_I 0))), ((f 32), .inl (D.2.1, 120, .inl (fun _ => vr_I 0))), ((f 33), .inl (D.2.1, 5, .inl (fun _ => vr_I 0))), ((f 34), .inr (4, [.ref (f 35), .int (vr_I 0)])), ((f 35), .inl (D.2.1, 120, .inl (fun _ => vr_I 0))), ((f 36), .inr (4, [.ref (f 37), .int (vr_I 0)])), ((f 37), .inl (D.2.1, 12, .inl (fun _ => vr_I 0))), ((f 38), .inr (4, [.ref (f 39), .int (vr_I 0)])), ((f 39), .inl (D.2.1, 10, .inl (fun _ => vr_I 0))), ((f 40), .inr (4, [.ref (f 41), .int (vr_I 0)])), ((f 41), .inl (D.2.1, 8, .inl (fun _ => vr_I 0))), ((f 42), .inr (4, [.ref (f 43), .int (vr_I 0)])), ((f 43), .inl (D.2.1, 8, .inl (fun _ => vr_I 0))), ((f 44), .inr (3, [.ref (f 45), .ref (f 46), .ref (f 47), .int (vr_I 0), .int (vr_I 0), .int (vr_I 99), .int (vr_I 0), .int (vr_I 0), .int (vr_I 0), .ref (f 48)])), ((f 45), .inl (D.2.1, 10, .inl (fun _ => vr_I 0))), ((f 46), .inl (D.2.1, 10, .inl (fun _ => vr_I 0))), ((f 47), .inl (D.2.1, 120, .inl (fun _ => vr_I 0))), ((f 48), .inl (D.2.1, 5, .inl (fun _ => vr_I 0))), ((f 49), .inr (6, [.ref (f 12), .ref (f 44), .int (vr_I 0)])), ((f 50), .inr (7, [.ref (f 1), .ref (f 7), .ref (f 51), .ref (f 57), .int (vr_I 0), .int (vr_I 0), .int (vr_I 0), .int (vr_I 0), .int (vr_I 0), .int (vr_I 0), .int (vr_I 0)])), ((f 51), .inr (2, [.ref (f 52), .ref (f 53), .ref (f 54), .ref (f 55), .ref (f 56), .int (vr_I 0), .int (vr_I 0), .int (vr_I 10), .int (vr_I 0)])), ((f 52), .inl (D.2.1, 8, .inl (fun _ => vr_I 0))), ((f 53), .inl (D.2.1, 8, .inl (fun _ => vr_I 0))), ((f 54), .inl (D.2.1, 8, .inl (fun _ => vr_I 0))), ((f 55), .inl (D.2.1, 8, .inl (fun _ => vr_I 0))), ((f 56), .inl (D.2.1, 8, .inl (fun _ => vr_I 0))), ((f 57), .inr (0, [.ref (f 51), .ref (f 7), .int (vr_I 0), .int (vr_I 1), .ref (f 58), .ref (f 59), .ref (f 60), .ref (f 61)])), ((f 58), .inl (D.2.1, 8, .inl (fun _ => vr_I 0))), ((f 59), .inl (D.2.1, 8, .inl (fun _ => vr_I 0))), ((f 60), .inl (D.2.1, 8, .inl (fun _ => vr_I 0))), ((f 61), .inl (D.2.1, 256, .inl (fun _ => vr_I 0))), ((f 62), .inr (1, [.ref (f 50), .ref (f 63), .ref (f 64), .int (vr_I 0), .int (vr_I 0)])), ((f 63), .inl (D.2.1, 1809, .inl (fun _ => vr_I 0))), ((f 64), .inl (D.2.1, 200, .inl (fun _ => vr_I 0))), ((f 65), .inr (5, [.ref (f 66), .int (vr_I 0), .int (vr_I 0), .int (vr_I 0), .int (vr_I 0)])), ((f 66), .inl (D.2.1, 20, .inl (fun _ => vr_I 0)))]
def vk_w10 (D : vbx_D) (h0 : Nat) (f : Nat → Nat) : va_W := [(h0, .inr (10, [.int (vr_I 0), .ref (f 0), .ref (f 1), .ref (f 2), .int (vr_I 0), .int (vr_I 0), .int (vr_I 0), .int (vr_I 0), .int (vr_I 0), .int (vr_I 0), .ref (f 3), .ref (f 4), .int (vr_I 0), .int (vr_I 0), .ref (f 5), .int (vr_I 0), .int (vr_I 0), .int (vr_I 0), .int (vr_I 0), .ref (f 6), .ref (f 7), .ref (f 8), .int (vr_I 0), .int (vr_I 0), .int (vr_I 0), .int (vr_I 0)])), ((f 0), .inl (D.2.1, 933, .inl (upd (upd (fun _ => vr_I 0) 8 (vr_I 10)) 9 (vr_I (-1))))), ((f 1), .inl (D.2.1, 933, .inl (fun _ => vr_I 0))), ((f 2), .inl (D.2.1, 933, .inl (fun _ => vr_I 0))), ((f 3), .inl (D.2.1, 5, .inl (fun _ => vr_I 0))), ((f 4), .inl (D.2.2, 64, .inl (fun _ => vr_I 0))), ((f 5), .inl (D.2.1, 8, .inl (fun _ => vr_I 0))), ((f 6), .inl (D.2.1, 5226, .inl (fun _ => vr_I 0))), ((f 7), .inl (D.2.1, 201, .inl (fun _ => vr_I 0))), ((f 8), .inl (D.2.1, 20, .inl (fun _ => vr_I 0)))]
def vk_ad (h9 h10 : Nat) (f g : Nat → Nat) : Nat → Nat := fun k => if k = 0 then h9 else if k < 68 then f (k - 1) else if k = 68 then h10 else g (k - 69)
def vk_M0 : vr_M := fun a b => if (a = 2 ∨ a = 24 ∨ a = 52) ∧ b = 7 then 10 else if (a = 8 ∨ a = 30 ∨ a = 45) ∧ b = 5 then 99 else if a = 58 ∧ b = 3 then 1 else if a = 69 ∧ b = 8 then 10 else if a = 69 ∧ b = 9 then -1 else 0
theorem vk_z {a b : Nat} (h : ¬ ((a = 2 ∨ a = 24 ∨ a = 52) ∧ b = 7) ∧ ¬ ((a = 8 ∨ a = 30 ∨ a = 45) ∧ b = 5) ∧ ¬ (a = 58 ∧ b = 3) ∧ ¬ (a = 69 ∧ (b = 8 ∨ b = 9))) : vk_M0 a b = 0 := by
  unfold vk_M0
  rw [if_neg (by omega), if_neg (by omega), if_neg (by omega), if_neg (by omega), if_neg (by omega)]
theorem vk_R0 : vz_R 0 vk_M0 := by
  have hh : vm_h (fun _ => vk_M0 69) = vh_c vk_M0 2 := by
    funext f p
    unfold vm_h vh_c
    by_cases hf : f < 5
    · rw [if_pos hf, if_pos hf]
      by_cases hp : p < 8
      · rw [if_pos hp, if_pos hp]
        show vk_M0 69 (130 + 8 * f + p) = vk_M0 (2 + 1 + f) p
        rw [vk_z (by omega), vk_z (by omega)]
      · rw [if_neg hp, if_neg hp]
    · rw [if_neg hf, if_neg hf]
      by_cases h5 : f = 5
      · subst h5
        rcases (show p = 0 ∨ p = 1 ∨ p = 2 ∨ p = 3 ∨ 4 ≤ p by omega) with rfl | rfl | rfl | rfl | hp
        · rfl
        · rfl
        · rfl
        · rfl
        · rw [if_pos rfl, if_neg (by omega), if_neg (by omega), if_neg (by omega), if_neg (by omega), if_neg (by omega)]
      · rw [if_neg h5, if_neg (by omega)]
  have wf : vh_wf 0 (vh_c vk_M0 2) := by
    refine ⟨by decide, by decide, by decide, by decide, ?_⟩
    decide
  have lwf : vl_wf [] := ⟨by decide, by decide, fun q h => by simp at h⟩
  have z : ∀ (P : Nat → Prop), ∀ i, i < 0 → P i := fun P i h => by omega
  refine ⟨⟨vh_c vk_M0 2, [], 99, 0, 0, 0, 0, fun _ => 0, 0, fun _ => 0, 0, fun _ => 0, 0, fun _ => 0, fun _ => 0, 0, ⟨⟨rfl, wf⟩, ⟨lwf, ⟨rfl, fun j h => by simp at h⟩, ⟨rfl, by decide⟩, ⟨rfl, by decide⟩, ⟨rfl, by decide⟩, ⟨rfl, by decide⟩⟩, ⟨rfl, by decide, z _⟩, ⟨rfl, by decide, z _⟩, ⟨rfl, by decide, z _⟩, ⟨rfl, by decide, z _⟩, ⟨rfl, by decide, z _⟩, rfl, by decide, by decide⟩, ⟨hh, ⟨⟨lwf, by decide, Or.inl ⟨rfl, rfl⟩⟩, Or.inl ⟨rfl, rfl, rfl, rfl, rfl⟩, by decide, by decide, by decide, by decide⟩, ⟨rfl, by decide, z _⟩, ⟨rfl, by decide, z _⟩, ⟨rfl, by decide, z _⟩, ⟨rfl, by decide, z _⟩, rfl, rfl⟩⟩, Or.inl ⟨rfl, rfl⟩, ⟨[], ⟨rfl, fun j _ h => by simp at h⟩, ⟨rfl, fun j _ h => by simp at h⟩, by decide, fun t h => by simp at h⟩, rfl⟩
theorem vk_cons {α : Type} {a b : α} {x y : List α} (h : a = b) (t : x = y) : a :: x = b :: y := by rw [h, t]
theorem vk_s0 {G : vr_G} : (upd (upd (fun _ => vr_I 0) 8 (vr_I 10)) 9 (vr_I (-1)) : Nat → Int32) = (fun j => vr_I (vk_M0 69 j)) := by
  funext j
  unfold upd
  by_cases h9 : j = 9
  · subst h9; rfl
  · by_cases h8 : j = 8
    · subst h8; rfl
    · simp only [h9, h8, if_false]
      rw [vk_z (by omega)]
theorem vk_list (G : vr_G) (μ : vr_M) : vr_ws G μ = [(vr_ad G 0, vr_cell G μ 0), (vr_ad G 1, vr_cell G μ 1), (vr_ad G 2, vr_cell G μ 2), (vr_ad G 3, vr_cell G μ 3), (vr_ad G 4, vr_cell G μ 4), (vr_ad G 5, vr_cell G μ 5), (vr_ad G 6, vr_cell G μ 6), (vr_ad G 7, vr_cell G μ 7), (vr_ad G 8, vr_cell G μ 8), (vr_ad G 9, vr_cell G μ 9), (vr_ad G 10, vr_cell G μ 10), (vr_ad G 11, vr_cell G μ 11), (vr_ad G 12, vr_cell G μ 12), (vr_ad G 13, vr_cell G μ 13), (vr_ad G 14, vr_cell G μ 14), (vr_ad G 15, vr_cell G μ 15), (vr_ad G 16, vr_cell G μ 16), (vr_ad G 17, vr_cell G μ 17), (vr_ad G 18, vr_cell G μ 18), (vr_ad G 19, vr_cell G μ 19), (vr_ad G 20, vr_cell G μ 20), (vr_ad G 21, vr_cell G μ 21), (vr_ad G 22, vr_cell G μ 22), (vr_ad G 23, vr_cell G μ 23), (vr_ad G 24, vr_cell G μ 24), (vr_ad G 25, vr_cell G μ 25), (vr_ad G 26, vr_cell G μ 26), (vr_ad G 27, vr_cell G μ 27), (vr_ad G 28, vr_cell G μ 28), (vr_ad G 29, vr_cell G μ 29), (vr_ad G 30, vr_cell G μ 30), (vr_ad G 31, vr_cell G μ 31), (vr_ad G 32, vr_cell G μ 32), (vr_ad G 33, vr_cell G μ 33), (vr_ad G 34, vr_cell G μ 34), (vr_ad G 35, vr_cell G μ 35), (vr_ad G 36, vr_cell G μ 36), (vr_ad G 37, vr_cell G μ 37), (vr_ad G 38, vr_cell G μ 38), (vr_ad G 39, vr_cell G μ 39), (vr_ad G 40, vr_cell G μ 40), (vr_ad G 41, vr_cell G μ 41), (vr_ad G 42, vr_cell G μ 42), (vr_ad G 43, vr_cell G μ 43), (vr_ad G 44, vr_cell G μ 44), (vr_ad G 45, vr_cell G μ 45), (vr_ad G 46, vr_cell G μ 46), (vr_ad G 47, vr_cell G μ 47), (vr_ad G 48, vr_cell G μ 48), (vr_ad G 49, vr_cell G μ 49), (vr_ad G 50, vr_cell G μ 50), (vr_ad G 51, vr_cell G μ 51), (vr_ad G 52, vr_cell G μ 52), (vr_ad G 53, vr_cell G μ 53), (vr_ad G 54, vr_cell G μ 54), (vr_ad G 55, vr_cell G μ 55), (vr_ad G 56, vr_cell G μ 56), (vr_ad G 57, vr_cell G μ 57), (vr_ad G 58, vr_cell G μ 58), (vr_ad G 59, vr_cell G μ 59), (vr_ad G 60, vr_cell G μ 60), (vr_ad G 61, vr_cell G μ 61), (vr_ad G 62, vr_cell G μ 62), (vr_ad G 63, vr_cell G μ 63), (vr_ad G 64, vr_cell G μ 64), (vr_ad G 65, vr_cell G μ 65), (vr_ad G 66, vr_cell G μ 66), (vr_ad G 67, vr_cell G μ 67), (vr_ad G 68, vr_cell G μ 68), (vr_ad G 69, vr_cell G μ 69), (vr_ad G 70, vr_cell G μ 70), (vr_ad G 71, vr_cell G μ 71), (vr_ad G 72, vr_cell G μ 72), (vr_ad G 73, vr_cell G μ 73), (vr_ad G 74, vr_cell G μ 74), (vr_ad G 75, vr_cell G μ 75), (vr_ad G 76, vr_cell G μ 76), (vr_ad G 77, vr_cell G μ 77)] := rfl
theorem vk_W0 (D : vbx_D) (sa ak av : Nat → Nat) (x0 h9 h10 : Nat) (f g : Nat → Nat) : vk_w9 D h9 f ++ vk_w10 D h10 g = vr_ws (vk_ad h9 h10 f g, D.1, D.2, sa, (ak, av), x0) vk_M0 := by
  rw [vk_list]
  refine vk_cons rfl ?_
  refine vk_cons rfl ?_
  refine vk_cons rfl ?_
  refine vk_cons rfl ?_
  refine vk_cons rfl ?_
  refine vk_cons rfl ?_
  refine vk_cons rfl ?_
  refine vk_cons rfl ?_
  refine vk_cons rfl ?_
  refine vk_cons rfl ?_
  refine vk_cons rfl ?_
  refine vk_cons rfl ?_
  refine vk_cons rfl ?_
  refine vk_cons rfl ?_
  refine vk_cons rfl ?_
  refine vk_cons rfl ?_
  refine vk_cons rfl ?_
  refine vk_cons rfl ?_
  refine vk_cons rfl ?_
  refine vk_cons rfl ?_
  refine vk_cons rfl ?_
  refine vk_cons rfl ?_
  refine vk_cons rfl ?_
  refine vk_cons rfl ?_
  refine vk_cons rfl ?_
  refine vk_cons rfl ?_
  refine vk_cons rfl ?_
  refine vk_cons rfl ?_
  refine vk_cons rfl ?_
  refine vk_cons rfl ?_
  refine vk_cons rfl ?_
  refine vk_cons rfl ?_
  refine vk_cons rfl ?_
  refine vk_cons rfl ?_
  refine vk_cons rfl ?_
  refine vk_cons rfl ?_
  refine vk_cons rfl ?_
  refine vk_cons rfl ?_
  refine vk_cons rfl ?_
  refine vk_cons rfl ?_
  refine vk_cons rfl ?_
  refine vk_cons rfl ?_
  refine vk_cons rfl ?_
  refine vk_cons rfl ?_
  refine vk_cons rfl ?_
  refine vk_cons rfl ?_
  refine vk_cons rfl ?_
  refine vk_cons rfl ?_
  refine vk_cons rfl ?_
  refine vk_cons rfl ?_
  refine vk_cons rfl ?_
  refine vk_cons rfl ?_
  refine vk_cons rfl ?_
  refine vk_cons rfl ?_
  refine vk_cons rfl ?_
  refine vk_cons rfl ?_
  refine vk_cons rfl ?_
  refine vk_cons rfl ?_
  refine vk_cons rfl ?_
  refine vk_cons rfl ?_
  refine vk_cons rfl ?_
  refine vk_cons rfl ?_
  refine vk_cons rfl ?_
  refine vk_cons rfl ?_
  refine vk_cons rfl ?_
  refine vk_cons rfl ?_
  refine vk_cons rfl ?_
  refine vk_cons rfl ?_
  refine vk_cons rfl ?_
  refine vk_cons (by rw [vk_s0 (G := (vk_ad h9 h10 f g, D.1, D.2, sa, (ak, av), x0))]; rfl) ?_
  refine vk_cons rfl ?_
  refine vk_cons rfl ?_
  refine vk_cons rfl ?_
  refine vk_cons rfl ?_
  refine vk_cons rfl ?_
  refine vk_cons rfl ?_
  refine vk_cons rfl ?_
  refine vk_cons rfl ?_
  rfl

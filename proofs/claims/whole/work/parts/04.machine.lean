abbrev vr_M : Type := Nat → Nat → Int
def vr_I (e : Int) : Int32 := Int32.ofInt e
abbrev vr_R (e : Int) : Prop := -2147483648 ≤ e ∧ e < 2147483648
def vr_gd {α : Type} (c : Prop) [Decidable c] (P : Option α) : Option α := if c then P else none
def vr_u (μ : vr_M) (k j : Nat) (v : Int) : vr_M := fun a b => if a = k ∧ b = j then v else μ a b
/-- the cells: kind (0..10: the class's place in vwCl; 11: ints; 12: booleans), length -/
def vr_lay : List (Nat × Nat) := [(9,0),
  (8,0),(2,0),(11,8),(11,8),(11,8),(11,8),(11,8),(3,0),(11,10),(11,10),(11,120),(11,5),(4,0),(11,120),(4,0),(11,12),(4,0),(11,10),(4,0),(11,8),(4,0),(11,8),
  (8,0),(2,0),(11,8),(11,8),(11,8),(11,8),(11,8),(3,0),(11,10),(11,10),(11,120),(11,5),(4,0),(11,120),(4,0),(11,12),(4,0),(11,10),(4,0),(11,8),(4,0),(11,8),
  (3,0),(11,10),(11,10),(11,120),(11,5),
  (6,0),
  (7,0),(2,0),(11,8),(11,8),(11,8),(11,8),(11,8),(0,0),(11,8),(11,8),(11,8),(11,256),
  (1,0),(11,1809),(11,200),
  (5,0),(11,20),
  (10,0),(11,933),(11,933),(11,933),(11,5),(12,64),(11,8),(11,5226),(11,201),(11,20)]
def vr_kd (k : Nat) : Nat := (vr_lay.getD k (99, 0)).1
def vr_ln (k : Nat) : Nat := (vr_lay.getD k (99, 0)).2
def vr_fl (kd k : Nat) : List (Option Nat) := match kd with
  | 0 => [some 52, some 8, none, none, some 59, some 60, some 61, some 62]
  | 1 => [some 51, some 64, some 65, none, none]
  | 2 => [some (k+1), some (k+2), some (k+3), some (k+4), some (k+5), none, none, none, none]
  | 3 => [some (k+1), some (k+2), some (k+3), none, none, none, none, none, none, some (k+4)]
  | 4 => [some (k+1), none]
  | 5 => [some 67, none, none, none, none]
  | 6 => [some 13, some 45, none]
  | 7 => [some 2, some 8, some 52, some 58, none, none, none, none, none, none, none]
  | 8 => [some (k+1), some (k+7), some (k+12), some (k+14), some (k+16), some (k+18), some (k+20), none]
  | 9 => [some 1, some 23, none, some 45, some 50, some 51, some 63, some 66]
  | _ => [none, some 69, some 70, some 71, none, none, none, none, none, none, some 72, some 73, none, none, some 74, none, none, none, none, some 75, some 76, some 77, none, none, none, none]
/-- ad, D, the classes of int[] and boolean[], the static rows' addresses, Strings' and their bytes' addresses, where the new cells begin -/
abbrev vr_G : Type := (Nat → Nat) × va_G × (ClassId × ClassId) × (Nat → Nat) × ((Nat → Nat) × (Nat → Nat)) × Nat
abbrev vr_ad (G : vr_G) : Nat → Nat := G.1
abbrev vr_DD (G : vr_G) : va_G := G.2.1
abbrev vr_cI (G : vr_G) : ClassId := G.2.2.1.1
abbrev vr_cZ (G : vr_G) : ClassId := G.2.2.1.2
abbrev vr_sa (G : vr_G) : Nat → Nat := G.2.2.2.1
abbrev vr_ak (G : vr_G) : Nat → Nat := G.2.2.2.2.1.1
abbrev vr_av (G : vr_G) : Nat → Nat := G.2.2.2.2.1.2
abbrev vr_x0 (G : vr_G) : Nat := G.2.2.2.2.2
def vr_A (G : vr_G) : Nat → Prop := fun q => vr_x0 G ≤ q
def vr_vs (ad : Nat → Nat) (f : Nat → Int) : List (Option Nat) → Nat → List Value
  | [], _ => []
  | some j :: t, i => .ref (ad j) :: vr_vs ad f t (i + 1)
  | none :: t, i => .int (vr_I (f i)) :: vr_vs ad f t (i + 1)
def vr_cell (G : vr_G) (μ : vr_M) (k : Nat) : va_E :=
  if vr_kd k = 11 then .inl (vr_cI G, vr_ln k, .inl (fun j => vr_I (μ k j)))
  else if vr_kd k = 12 then .inl (vr_cZ G, vr_ln k, .inl (fun j => vr_I (μ k j)))
  else .inr (vr_kd k, vr_vs (vr_ad G) (μ k) (vr_fl (vr_kd k) k) 0)
def vr_ws (G : vr_G) (μ : vr_M) : va_W := (List.range 78).map (fun k => (vr_ad G k, vr_cell G μ k))
theorem vr_ws_at {G : vr_G} {μ : vr_M} {k : Nat} (h : k < 78) : (vr_ws G μ)[k]? = some (vr_ad G k, vr_cell G μ k) := by
  simp [vr_ws, List.getElem?_map, List.getElem?_range h]
theorem vr_vs_len (ad : Nat → Nat) (f : Nat → Int) : ∀ (l : List (Option Nat)) (i : Nat), (vr_vs ad f l i).length = l.length
  | [], _ => rfl
  | some j :: t, i => by simp [vr_vs, vr_vs_len ad f t]
  | none :: t, i => by simp [vr_vs, vr_vs_len ad f t]
theorem vr_vs_get (ad : Nat → Nat) (f : Nat → Int) : ∀ (l : List (Option Nat)) (o i : Nat) (x : Option Nat), l[i]? = some x → (vr_vs ad f l o)[i]? = some (match x with | some j => Value.ref (ad j) | none => Value.int (vr_I (f (o + i))))
  | [], _, _, _, h => by simp at h
  | y :: t, o, 0, x, h => by
    simp at h; subst h
    cases y <;> simp [vr_vs]
  | y :: t, o, i + 1, x, h => by
    have h' : t[i]? = some x := by simpa using h
    have e : o + (i + 1) = o + 1 + i := by omega
    cases y <;> simp [vr_vs, vr_vs_get ad f t (o + 1) i x h', e]
theorem vr_vs_set (ad : Nat → Nat) (f : Nat → Int) (v : Int) : ∀ (l : List (Option Nat)) (o i : Nat), l[i]? = some none → vr_vs ad (fun b => if b = o + i then v else f b) l o = (vr_vs ad f l o).set i (.int (vr_I v))
  | [], _, _, h => by simp at h
  | y :: t, o, 0, h => by
    simp at h; subst h
    have : ∀ (t : List (Option Nat)) (q : Nat), o < q → vr_vs ad (fun b => if b = o + 0 then v else f b) t q = vr_vs ad f t q := by
      intro t
      induction t with
      | nil => intro q _; rfl
      | cons z t ih =>
        intro q hq
        have h1 : ¬ q = o := by omega
        cases z <;> simp [vr_vs, h1] <;> exact ih _ (by omega)
    simp [vr_vs]
    exact this t (o + 1) (by omega)
  | y :: t, o, i + 1, h => by
    have h' : t[i]? = some none := by simpa using h
    have e : o + (i + 1) = o + 1 + i := by omega
    have h1 : ¬ o = o + 1 + i := by omega
    cases y <;> simp [vr_vs, e, h1, vr_vs_set ad f v t (o + 1) i h']
theorem vr_u_other {μ : vr_M} {k j a : Nat} {v : Int} (h : a ≠ k) : vr_u μ k j v a = μ a := by
  funext b; simp [vr_u, h]
theorem vr_cell_other {G : vr_G} {μ : vr_M} {k j a : Nat} {v : Int} (h : a ≠ k) : vr_cell G (vr_u μ k j v) a = vr_cell G μ a := by
  unfold vr_cell; rw [vr_u_other h]
theorem vr_ws_set {G : vr_G} {μ : vr_M} {k j : Nat} {v : Int} (h : k < 78) : (vr_ws G μ).set k (vr_ad G k, vr_cell G (vr_u μ k j v) k) = vr_ws G (vr_u μ k j v) := by
  apply List.ext_getElem?
  intro i
  by_cases hi : i < 78
  · rw [vr_ws_at hi, List.getElem?_set]
    by_cases e : k = i
    · subst e
      have : k < (vr_ws G μ).length := by simp [vr_ws]; exact h
      simp [this]
    · simp only [e, if_false]
      rw [vr_ws_at hi, vr_cell_other (fun q => e q.symm)]
  · have h1 : (vr_ws G (vr_u μ k j v)).length = 78 := by simp [vr_ws]
    have h2 : ((vr_ws G μ).set k (vr_ad G k, vr_cell G (vr_u μ k j v) k)).length = 78 := by simp [vr_ws]
    rw [List.getElem?_eq_none (by omega), List.getElem?_eq_none (by omega)]
theorem vr_cell_obj {G : vr_G} {μ : vr_M} {k ci : Nat} (h : vr_kd k = ci) (hc : ci < 11) : vr_cell G μ k = .inr (ci, vr_vs (vr_ad G) (μ k) (vr_fl ci k) 0) := by
  unfold vr_cell; rw [h, if_neg (by omega), if_neg (by omega)]
theorem vr_cell_arr {G : vr_G} {μ : vr_M} {k n : Nat} (h : vr_kd k = 11) (hn : vr_ln k = n) : vr_cell G μ k = .inl (vr_cI G, n, .inl (fun j => vr_I (μ k j))) := by
  unfold vr_cell; rw [if_pos h, hn]
theorem vr_cell_arz {G : vr_G} {μ : vr_M} {k n : Nat} (h : vr_kd k = 12) (hn : vr_ln k = n) : vr_cell G μ k = .inl (vr_cZ G, n, .inl (fun j => vr_I (μ k j))) := by
  unfold vr_cell; rw [if_neg (by omega), if_pos h, hn]
/-! numbers -/
theorem vr_toInt {e : Int} (h : vr_R e) : (vr_I e).toInt = e := Int32.toInt_ofInt_of_le h.1 h.2
theorem vr_lt {a b : Int} (ha : vr_R a) (hb : vr_R b) : vr_I a < vr_I b ↔ a < b := by rw [Int32.lt_iff_toInt_lt, vr_toInt ha, vr_toInt hb]
theorem vr_le {a b : Int} (ha : vr_R a) (hb : vr_R b) : vr_I a ≤ vr_I b ↔ a ≤ b := by rw [Int32.le_iff_toInt_le, vr_toInt ha, vr_toInt hb]
theorem vr_eq {a b : Int} (ha : vr_R a) (hb : vr_R b) : vr_I a = vr_I b ↔ a = b := by rw [← Int32.toInt_inj, vr_toInt ha, vr_toInt hb]
theorem vr_cl {e : Int} (h0 : 0 ≤ e) (h : e < 2147483648) : (vr_I e).toNatClampNeg = e.toNat := Int32.toNatClampNeg_ofInt_of_le (by omega) h
theorem vr_in' {e : Int} {n : Nat} (h : 0 ≤ e ∧ e < n) (hn : n < 2147483648) : vp_in (vr_I e) n := by
  have hR : vr_R e := ⟨by omega, by omega⟩
  unfold vp_in
  rw [vr_cl h.1 (by omega), show (0 : Int32) = vr_I 0 from rfl, vr_lt hR ⟨by decide, by decide⟩]
  omega
theorem vr_ln_lt (k : Nat) : vr_ln k < 2147483648 := by
  have h : ∀ q ∈ vr_lay, q.2 < 2147483648 := by decide +kernel
  unfold vr_ln
  rw [List.getD_eq_getElem?_getD]
  rcases e : vr_lay[k]? with _ | q
  · decide
  · exact h q (List.mem_of_getElem? e)
theorem vr_add (a b : Int) : vr_I a + vr_I b = vr_I (a + b) := (Int32.ofInt_add a b).symm
theorem vr_sub (a b : Int) : vr_I a - vr_I b = vr_I (a - b) := (Int32.ofInt_sub a b).symm
theorem vr_mul (a b : Int) : vr_I a * vr_I b = vr_I (a * b) := (Int32.ofInt_mul a b).symm
theorem vr_neg (a : Int) : - vr_I a = vr_I (-a) := Int32.neg_ofInt
theorem vr_div {a b : Int} (ha : vr_R a) (hb : vr_R b) : vr_I a / vr_I b = vr_I (a.tdiv b) := by
  apply Int32.toInt_inj.mp
  rw [Int32.toInt_div, vr_toInt ha, vr_toInt hb]
  show _ = (Int32.ofInt (a.tdiv b)).toInt
  rw [Int32.toInt_ofInt]
theorem vr_rem {a b : Int} (ha : vr_R a) (hb : vr_R b) : vr_I a - vr_I a / vr_I b * vr_I b = vr_I (a.tmod b) := by
  rw [vr_div ha hb, vr_mul, vr_sub]
  congr 1
  have h1 := Int.tmod_def a b
  have h2 := Int.mul_comm b (a.tdiv b)
  omega

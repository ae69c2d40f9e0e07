/-! what a tape says -/
abbrev vg_P : Type := Nat × Option (List Int)
def vg_d (x : Int) : Int := if 48 ≤ x ∧ x ≤ 57 then x - 48 else -1
def vg_nv (C : Nat → Int) (p : Nat) : Int := if vg_d (C p) < 0 then -1 else if vg_d (C p) = 0 then 0 else if vg_d (C (p + 1)) < 0 then vg_d (C p) else vg_d (C p) * 10 + vg_d (C (p + 1))
def vg_np (C : Nat → Int) (p : Nat) : Nat := if vg_d (C p) < 0 then p else if vg_d (C p) = 0 then p + 1 else if vg_d (C (p + 1)) < 0 then p + 1 else p + 2
def vg_lt (x : Int) : Int := vg_ix [99, 121, 115, 119, 112] x 0
def vg_sg (x : Int) : Int := vg_ix [60, 61, 62] x 0
def vg_test (C : Nat → Int) (p : Nat) : vg_P :=
  if vg_lt (C p) < 0 then (p, none) else if vg_sg (C (p + 1)) < 0 then (p + 1, none) else if vg_nv C (p + 2) < 0 then (p + 2, none)
  else (vg_np C (p + 2), some [(vg_lt (C p) * 3 + vg_sg (C (p + 1))) * 100 + vg_nv C (p + 2)])
def vg_or (b : Bool) (a : List Int) : List Int := if b = true then a ++ [-3] else a
def vg_lp (C : Nat → Int) (one : Nat → vg_P) : Nat → Bool → Nat → List Int → vg_P
  | 0, b, p, a => (p, some (vg_or b a))
  | f + 1, b, p, a =>
    if C p = 38 then (match one (p + 1) with
      | (q, none) => (q, none)
      | (q, some ts) => vg_lp C one f b q (a ++ ts ++ [-2]))
    else if C p = 124 then (match one (p + 1) with
      | (q, none) => (q, none)
      | (q, some ts) => vg_lp C one f true q (vg_or b a ++ ts))
    else (p, some (vg_or b a))
def vg_any (C : Nat → Int) (one : Nat → vg_P) (p : Nat) : vg_P :=
  match one p with
  | (q, none) => (q, none)
  | (q, some ts) => vg_lp C one 121 false q ts
def vg_one (C : Nat → Int) : Nat → Nat → vg_P
  | 0, p => if C p = 33 ∨ C p = 40 then (p, none) else vg_test C p
  | k + 1, p => if C p = 33 then (match vg_one C k (p + 1) with
      | (q, none) => (q, none)
      | (q, some ts) => (q, some (ts ++ [-1])))
    else if C p = 40 then (match vg_any C (vg_one C k) (p + 1) with
      | (q, none) => (q, none)
      | (q, some ts) => if C q = 41 then (q + 1, some ts) else (q, none))
    else vg_test C p
theorem vg_nv_in (C : Nat → Int) (p : Nat) : -1 ≤ vg_nv C p ∧ vg_nv C p ≤ 99 := by
  have h : ∀ x, -1 ≤ vg_d x ∧ vg_d x ≤ 9 := fun x => by unfold vg_d; split <;> omega
  have h1 := h (C p)
  have h2 := h (C (p + 1))
  unfold vg_nv
  (repeat' split) <;> omega
theorem vg_lt_in (x : Int) : -1 ≤ vg_lt x ∧ vg_lt x < 5 := by
  have h : -1 ≤ vg_ix [99, 121, 115, 119, 112] x 0 ∧ vg_ix [99, 121, 115, 119, 112] x 0 < 5 := by
    rcases vg_ix_in [99, 121, 115, 119, 112] x 0 with h | ⟨h1, h2⟩
    · omega
    · simp only [List.length_cons, List.length_nil] at h2
      omega
  exact h
theorem vg_sg_in (x : Int) : -1 ≤ vg_sg x ∧ vg_sg x < 3 := by
  have h : -1 ≤ vg_ix [60, 61, 62] x 0 ∧ vg_ix [60, 61, 62] x 0 < 3 := by
    rcases vg_ix_in [60, 61, 62] x 0 with h | ⟨h1, h2⟩
    · omega
    · simp only [List.length_cons, List.length_nil] at h2
      omega
  exact h
/-- the tape has an end -/
def vg_E (C : Nat → Int) (e : Nat) : Prop := ∀ i, e ≤ i → C i = -1
theorem vg_E.lt {C : Nat → Int} {e i : Nat} (h : vg_E C e) (hc : ¬ C i = -1) : i < e := by
  rcases Nat.lt_or_ge i e with q | q
  · exact q
  · exact absurd (h i q) hc
theorem vg_lt_0 : vg_lt (-1) = -1 ∧ vg_sg (-1) = -1 ∧ vg_d (-1) = -1 := by decide
/-- where it ends, how much it puts -/
def vg_G (e p : Nat) : vg_P → Prop
  | (q, none) => p ≤ q ∧ q ≤ e
  | (q, some ts) => p + 1 ≤ q ∧ q ≤ e ∧ ts.length + p ≤ q
theorem vg_np_G {C : Nat → Int} {e p : Nat} (hE : vg_E C e) (hp : p ≤ e) : (vg_nv C p < 0 → vg_np C p = p) ∧ (0 ≤ vg_nv C p → p + 1 ≤ vg_np C p ∧ vg_np C p ≤ e) := by
  have h : ∀ x, -1 ≤ vg_d x ∧ vg_d x ≤ 9 := fun x => by unfold vg_d; split <;> omega
  have g : ∀ i, 0 ≤ vg_d (C i) → i < e := fun i hi => hE.lt (fun q => by rw [q, vg_lt_0.2.2] at hi; omega)
  have h1 := h (C p)
  have h2 := h (C (p + 1))
  unfold vg_nv vg_np
  by_cases c1 : vg_d (C p) < 0
  · rw [if_pos c1, if_pos c1]
    exact ⟨fun _ => rfl, fun q => by omega⟩
  · have := g p (by omega)
    rw [if_neg c1, if_neg c1]
    by_cases c2 : vg_d (C p) = 0
    · rw [if_pos c2, if_pos c2]
      exact ⟨fun q => by omega, fun _ => by omega⟩
    · rw [if_neg c2, if_neg c2]
      by_cases c3 : vg_d (C (p + 1)) < 0
      · rw [if_pos c3, if_pos c3]
        exact ⟨fun q => by omega, fun _ => by omega⟩
      · have := g (p + 1) (by omega)
        rw [if_neg c3, if_neg c3]
        exact ⟨fun q => by omega, fun _ => by omega⟩
theorem vg_test_G {C : Nat → Int} {e p : Nat} (hE : vg_E C e) (hp : p ≤ e) : vg_G e p (vg_test C p) := by
  unfold vg_test
  by_cases c1 : vg_lt (C p) < 0
  · rw [if_pos c1]; exact ⟨Nat.le_refl _, hp⟩
  · have p1 : p < e := hE.lt (fun q => by rw [q, vg_lt_0.1] at c1; exact c1 (by decide))
    rw [if_neg c1]
    by_cases c2 : vg_sg (C (p + 1)) < 0
    · rw [if_pos c2]; exact ⟨by omega, by omega⟩
    · have p2 : p + 1 < e := hE.lt (fun q => by rw [q, vg_lt_0.2.1] at c2; exact c2 (by decide))
      have n := vg_np_G hE (show p + 2 ≤ e by omega)
      rw [if_neg c2]
      by_cases c3 : vg_nv C (p + 2) < 0
      · rw [if_pos c3]; exact ⟨by omega, by omega⟩
      · rw [if_neg c3]
        have := n.2 (by omega)
        exact ⟨by omega, by omega, by simp; omega⟩
theorem vg_or_len (b : Bool) (a : List Int) : (vg_or b a).length ≤ a.length + 1 ∧ a.length ≤ (vg_or b a).length ∧ (b = false → (vg_or b a).length = a.length) := by
  unfold vg_or
  cases b <;> simp
/-- a loop that began at p0: an | that waits was a byte, too -/
theorem vg_lp_G {C : Nat → Int} {e : Nat} (hE : vg_E C e) {one : Nat → vg_P} (h1 : ∀ p, p ≤ e → vg_G e p (one p)) {p0 : Nat} : ∀ (f : Nat) (b : Bool) (p : Nat) (a : List Int), p0 + 1 ≤ p → p ≤ e → a.length + b.toNat + p0 ≤ p → vg_G e p0 (vg_lp C one f b p a)
  | 0, b, p, a, hp, he, ha => by
    have := vg_or_len b a
    refine ⟨by omega, he, ?_⟩
    cases b
    · have := this.2.2 rfl
      simp at ha
      omega
    · simp at ha
      omega
  | f + 1, b, p, a, hp, he, ha => by
    have ol := vg_or_len b a
    rw [vg_lp]
    by_cases c1 : C p = 38
    · rw [if_pos c1]
      have pe : p < e := hE.lt (fun q => by rw [q] at c1; omega)
      have g := h1 (p + 1) (by omega)
      match hm : one (p + 1) with
      | (q, none) =>
        rw [hm] at g
        exact ⟨by have := g.1; omega, g.2⟩
      | (q, some ts) =>
        rw [hm] at g
        obtain ⟨g1, g2, g3⟩ := g
        exact vg_lp_G hE h1 f b q _ (by omega) g2 (by simp; omega)
    · rw [if_neg c1]
      by_cases c2 : C p = 124
      · rw [if_pos c2]
        have pe : p < e := hE.lt (fun q => by rw [q] at c2; omega)
        have g := h1 (p + 1) (by omega)
        match hm : one (p + 1) with
        | (q, none) =>
          rw [hm] at g
          exact ⟨by have := g.1; omega, g.2⟩
        | (q, some ts) =>
          rw [hm] at g
          obtain ⟨g1, g2, g3⟩ := g
          refine vg_lp_G hE h1 f true q _ (by omega) g2 ?_
          have : (vg_or b a).length ≤ a.length + b.toNat := by unfold vg_or; cases b <;> simp
          simp
          omega
      · rw [if_neg c2]
        refine ⟨by omega, he, ?_⟩
        have : (vg_or b a).length ≤ a.length + b.toNat := by unfold vg_or; cases b <;> simp
        omega
theorem vg_any_G {C : Nat → Int} {e : Nat} (hE : vg_E C e) {one : Nat → vg_P} (h1 : ∀ p, p ≤ e → vg_G e p (one p)) {p : Nat} (hp : p ≤ e) : vg_G e p (vg_any C one p) := by
  have g := h1 p hp
  unfold vg_any
  match hm : one p with
  | (q, none) => rw [hm] at g; exact g
  | (q, some ts) =>
    rw [hm] at g
    obtain ⟨g1, g2, g3⟩ := g
    exact vg_lp_G hE h1 121 false q ts g1 g2 (by simp; omega)
theorem vg_one_G {C : Nat → Int} {e : Nat} (hE : vg_E C e) : ∀ (k p : Nat), p ≤ e → vg_G e p (vg_one C k p)
  | 0, p, hp => by
    rw [vg_one]
    split
    · exact ⟨Nat.le_refl _, hp⟩
    · exact vg_test_G hE hp
  | k + 1, p, hp => by
    have ih := vg_one_G hE k
    rw [vg_one]
    by_cases c1 : C p = 33
    · rw [if_pos c1]
      have pe : p < e := hE.lt (fun q => by rw [q] at c1; omega)
      have g := ih (p + 1) (by omega)
      match hm : vg_one C k (p + 1) with
      | (q, none) => rw [hm] at g; exact ⟨by have := g.1; omega, g.2⟩
      | (q, some ts) =>
        rw [hm] at g
        obtain ⟨g1, g2, g3⟩ := g
        exact ⟨by omega, g2, by simp; omega⟩
    · rw [if_neg c1]
      by_cases c2 : C p = 40
      · rw [if_pos c2]
        have pe : p < e := hE.lt (fun q => by rw [q] at c2; omega)
        have g := vg_any_G hE ih (show p + 1 ≤ e by omega)
        match hm : vg_any C (vg_one C k) (p + 1) with
        | (q, none) => rw [hm] at g; exact ⟨by have := g.1; omega, g.2⟩
        | (q, some ts) =>
          rw [hm] at g
          obtain ⟨g1, g2, g3⟩ := g
          show vg_G e p (if C q = 41 then (q + 1, some ts) else (q, none))
          by_cases c3 : C q = 41
          · rw [if_pos c3]
            have qe : q < e := hE.lt (fun z => by rw [z] at c3; omega)
            exact ⟨by omega, by omega, by omega⟩
          · rw [if_neg c3]
            exact ⟨by omega, g2⟩
      · rw [if_neg c2]
        exact vg_test_G hE hp
/-- what is put can be read: one value more, at most m deep -/
def vg_V (m : Nat) (ts : List Int) : Prop := ∀ (us : List Int) (d : Nat), d + m ≤ 60 → vl_ok us (d + 1) → vl_ok (ts ++ us) d
theorem vg_test_V {C : Nat → Int} {p q : Nat} {ts : List Int} (h : vg_test C p = (q, some ts)) : vg_V 1 ts := by
  have a := vg_lt_in (C p)
  have b := vg_sg_in (C (p + 1))
  have c := vg_nv_in C (p + 2)
  unfold vg_test at h
  split at h
  · cases h
  · split at h
    · cases h
    · split at h
      · cases h
      · simp only [Prod.mk.injEq, Option.some.injEq] at h
        obtain ⟨-, h⟩ := h
        subst h
        intro us d hd hu
        exact Or.inr (Or.inr ⟨by omega, by omega, by omega, hu⟩)
theorem vg_V.mono {m m' : Nat} {ts : List Int} (h : vg_V m ts) (hm : m ≤ m') : vg_V m' ts := fun us d hd hu => h us d (by omega) hu
theorem vg_V_bin {m : Nat} {a ts : List Int} {op : Int} (ho : op = -2 ∨ op = -3) (ha : vg_V m a) (ht : vg_V m ts) : vg_V (m + 1) (a ++ ts ++ [op]) := by
  intro us d hd hu
  rw [List.append_assoc, List.append_assoc]
  refine ha _ d (by omega) (ht _ (d + 1) (by omega) ?_)
  exact Or.inr (Or.inl ⟨ho, by omega, by simpa using hu⟩)
/-- the loop: what is put so far is one value (or an | waits for the second of two, when one is deeper) -/
def vg_W (m : Nat) (b : Bool) (a : List Int) : Prop := if b = true then (∀ (us : List Int) (d : Nat), d + m ≤ 60 → vl_ok us (d + 2) → vl_ok (a ++ us) d) else (∀ (us : List Int) (d : Nat), d + m ≤ 60 → vl_ok us (d + 1) → vl_ok (a ++ us) d)
theorem vg_W_or {m : Nat} {b : Bool} {a : List Int} (h : vg_W m b a) : vg_V m (vg_or b a) := by
  unfold vg_W at h
  unfold vg_or
  cases b
  · exact h
  · intro us d hd hu
    rw [if_pos rfl] at h
    show vl_ok (a ++ [-3] ++ us) d
    rw [List.append_assoc]
    refine h _ d hd (Or.inr (Or.inl ⟨Or.inr rfl, by omega, by simpa using hu⟩))
theorem vg_lp_V {C : Nat → Int} {one : Nat → vg_P} {m : Nat} (h1 : ∀ p q ts, one p = (q, some ts) → vg_V m ts) : ∀ (f : Nat) (b : Bool) (p : Nat) (a : List Int) (q : Nat) (ts : List Int), vg_W (m + 2) b a → vg_lp C one f b p a = (q, some ts) → vg_V (m + 2) ts
  | 0, b, p, a, q, ts, ha, h => by
    simp only [vg_lp, Prod.mk.injEq, Option.some.injEq] at h
    obtain ⟨-, h⟩ := h
    subst h
    exact vg_W_or ha
  | f + 1, b, p, a, q, ts, ha, h => by
    rw [vg_lp] at h
    split at h
    · match hm : one (p + 1) with
      | (q1, none) => rw [hm] at h; cases h
      | (q1, some us1) =>
        rw [hm] at h
        have t := h1 _ _ _ hm
        refine vg_lp_V h1 f b q1 _ q ts ?_ h
        unfold vg_W at ha ⊢
        cases b
        · intro us d hd hu
          rw [List.append_assoc, List.append_assoc]
          exact ha _ d hd (t _ (d + 1) (by omega) (Or.inr (Or.inl ⟨Or.inl rfl, by omega, by simpa using hu⟩)))
        · rw [if_pos rfl] at ha ⊢
          intro us d hd hu
          rw [List.append_assoc, List.append_assoc]
          exact ha _ d hd (t _ (d + 2) (by omega) (Or.inr (Or.inl ⟨Or.inl rfl, by omega, by simpa using hu⟩)))
    · split at h
      · match hm : one (p + 1) with
        | (q1, none) => rw [hm] at h; cases h
        | (q1, some us1) =>
          rw [hm] at h
          have t := h1 _ _ _ hm
          refine vg_lp_V h1 f true q1 _ q ts ?_ h
          have v := vg_W_or ha
          unfold vg_W
          rw [if_pos rfl]
          intro us d hd hu
          rw [List.append_assoc]
          exact v _ d (by omega) (t _ (d + 1) (by omega) hu)
      · simp only [Prod.mk.injEq, Option.some.injEq] at h
        obtain ⟨-, h⟩ := h
        subst h
        exact vg_W_or ha
theorem vg_any_V {C : Nat → Int} {one : Nat → vg_P} {m : Nat} (h1 : ∀ p q ts, one p = (q, some ts) → vg_V m ts) {p q : Nat} {ts : List Int} (h : vg_any C one p = (q, some ts)) : vg_V (m + 2) ts := by
  unfold vg_any at h
  match hm : one p with
  | (q1, none) => rw [hm] at h; cases h
  | (q1, some us) =>
    rw [hm] at h
    refine vg_lp_V h1 121 false q1 us q ts ?_ h
    intro vs d hd hv
    exact h1 _ _ _ hm vs d (by omega) hv
theorem vg_one_V {C : Nat → Int} : ∀ (k p q : Nat) (ts : List Int), vg_one C k p = (q, some ts) → vg_V (2 * k + 1) ts
  | 0, p, q, ts, h => by
    rw [vg_one] at h
    split at h
    · cases h
    · exact vg_test_V h
  | k + 1, p, q, ts, h => by
    have ih := vg_one_V (C := C) k
    rw [vg_one] at h
    split at h
    · match hm : vg_one C k (p + 1) with
      | (q1, none) => rw [hm] at h; cases h
      | (q1, some us) =>
        rw [hm] at h
        simp only [Prod.mk.injEq, Option.some.injEq] at h
        obtain ⟨-, h⟩ := h
        subst h
        intro vs d hd hv
        rw [List.append_assoc]
        exact ih _ _ _ hm _ d (by omega) (Or.inl ⟨rfl, by omega, hv⟩)
    · split at h
      · match hm : vg_any C (vg_one C k) (p + 1) with
        | (q1, none) => rw [hm] at h; cases h
        | (q1, some us) =>
          rw [hm] at h
          have v := vg_any_V (fun p q ts h => ih p q ts h) hm
          have h' : (if C q1 = 41 then ((q1 + 1, some us) : vg_P) else (q1, none)) = (q, some ts) := h
          split at h'
          · simp only [Prod.mk.injEq, Option.some.injEq] at h'
            obtain ⟨-, h'⟩ := h'
            subst h'
            exact v.mono (by omega)
          · cases h'
      · exact (vg_test_V h).mono (by omega)

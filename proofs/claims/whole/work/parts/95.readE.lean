theorem vgc_A {t : Nat → Int} {e k d : Nat} (hP : vgc_P t e k) (hd : k ≤ d) (hk : k ≤ 5) {p u : Nat} {a : List Int} {μ : vr_M} (h : vgc_S t e μ p u a) (hu : u + a.length ≤ p) :
    ∃ r μ', fX6_readAny (fX6_readOpen d) (5 - (k : Int)) μ = some (r, μ') ∧ vgc_R t e u a μ r μ' (vg_any (vg_C t e) (vg_one (vg_C t e) k) p) := by
  have hE := vg_CE t e
  have e120 := h.1.2.1
  have pe := h.2.2.2.2
  have gG := vg_one_G hE k p pe
  obtain ⟨r1, μ1, y1, y2⟩ := hP d hd p u a μ h hu
  rw [fX6_readAny, y1, vp_bind]
  unfold vg_any
  match hm : vg_one (vg_C t e) k p with
  | (q, none) =>
    rw [hm] at y2
    obtain ⟨x1, x2, x3⟩ := y2
    subst x1
    obtain ⟨μ', z1, z2, z3⟩ := vgc_endF (rc := fX6_readOpen d) (b := 0) x2
    refine ⟨0, μ', ?_, rfl, z2, x3.tr z3⟩
    rw [show 9000 = 8999 + 1 from rfl, fX6_readAny_L11.eq_2, if_neg (by decide), if_pos rfl]
    exact z1
  | (q, some ts) =>
    rw [hm] at y2 gG
    obtain ⟨x1, x2, x3, x4⟩ := y2
    obtain ⟨g1, g2, g3⟩ := gG
    subst x1
    obtain ⟨r, μ', z1, z2⟩ := vgc_anyL hP hd hk (a0 := a) 121 9000 false q ts 0 μ1 (by omega) (by decide) x2 (by simp; omega) (by omega)
    exact ⟨r, μ', z1, vgc_RK x3 x4 z2⟩
theorem vgc_P0 {t : Nat → Int} {e : Nat} : vgc_P t e 0 := by
  intro d hd p u a μ h hu
  have e120 := h.1.2.1
  have pe := h.2.2.2.2
  have s33 := vgc_sees (ch := 33) h.1 h.2.1 (by omega) (by decide)
  have s40 := vgc_sees (ch := 40) h.1 h.2.1 (by omega) (by decide)
  have B18 : fX6_readOne_B18 (fX6_readOpen d) (5 - ((0 : Nat) : Int)) μ = some (0, μ) := by
    unfold fX6_readOne_B18 fX6_readOne_B37 fX6_readOne_B38
    rw [if_pos (by decide), vp_gdT (by decide)]
  rw [fX6_readOne, s33, vp_bind, vg_one]
  dsimp only
  by_cases c1 : vg_C t e p = 33
  · rw [if_pos c1, if_pos vz_T1, B18, if_pos (Or.inl c1)]
    exact ⟨0, μ, rfl, rfl, vgc_SF h hu, vgc_K.rf⟩
  · rw [if_neg c1, if_neg vz_F0, s40, vp_bind]
    dsimp only
    by_cases c2 : vg_C t e p = 40
    · rw [if_pos c2, if_neg vz_T1, B18, if_pos (Or.inr c2)]
      exact ⟨0, μ, rfl, rfl, vgc_SF h hu, vgc_K.rf⟩
    · rw [if_neg c2, if_pos rfl, if_neg (fun q => q.elim c1 c2)]
      exact vgc_test h hu
theorem vgc_PS {t : Nat → Int} {e k : Nat} (hP : vgc_P t e k) (hk : k + 1 ≤ 5) : vgc_P t e (k + 1) := by
  intro d hd p u a μ h hu
  obtain ⟨d, rfl⟩ : ∃ m, d = m + 1 := ⟨d - 1, by omega⟩
  have hE := vg_CE t e
  have e120 := h.1.2.1
  have pe := h.2.2.2.2
  have s33 := vgc_sees (ch := 33) h.1 h.2.1 (by omega) (by decide)
  have s40 := vgc_sees (ch := 40) h.1 h.2.1 (by omega) (by decide)
  have t40 := vgc_take (ch := 40) h.1 h.2.1 (by omega) (by decide)
  have hp2 : μ 50 2 = (p : Int) := h.2.1
  have ek : 5 - ((k + 1 : Nat) : Int) + 1 = 5 - (k : Int) := by omega
  have B18 : ∀ (r : Int) (μ' : vr_M), (r = 0 ∨ r = 1) → fX6_readOpen (d + 1) (5 - (k : Int)) μ = some (r, μ') → fX6_readOne_B18 (fX6_readOpen (d + 1)) (5 - ((k + 1 : Nat) : Int)) μ = some (r, μ') := by
    intro r μ' hr q
    unfold fX6_readOne_B18 fX6_readOne_B37 fX6_readOne_B38
    rw [if_neg (by omega), vp_gdT (by omega), ek, q, vp_bind, vp_gdT (by decide), vp_gdT (by decide)]
    rcases hr with rfl | rfl
    · rw [if_pos rfl]
    · rw [if_neg vz_T1]
  have rR : ∀ {r : Int} {μ1 μ' : vr_M} {X : vg_P}, vgc_R t e u a μ1 r μ' X → r = 0 ∨ r = 1 := by
    intro r μ1 μ' X hX
    match X with
    | (q, none) => exact Or.inl hX.1
    | (q, some ts) => exact Or.inr hX.1
  rw [fX6_readOne, s33, vp_bind, vg_one]
  dsimp only
  by_cases c1 : vg_C t e p = 33
  · have p1 : p < e := hE.lt (fun q => by rw [q] at c1; omega)
    have h1 := vgc_go h (show p + 1 ≤ e by omega)
    have gG := vg_one_G hE k (p + 1) (by omega)
    obtain ⟨r1, μ1, y1, y2⟩ := hP d (by omega) (p + 1) u a _ h1 (by omega)
    rw [if_pos c1, if_pos vz_T1, if_pos c1]
    have fin : ∃ μ', fX6_readOpen (d + 1) (5 - (k : Int)) μ = some (r1, μ') ∧ vgc_R t e u a μ r1 μ' (match vg_one (vg_C t e) k (p + 1) with | (q, none) => (q, none) | (q, some ts) => (q, some (ts ++ [-1]))) := by
      have e0 : fX6_readOpen (d + 1) (5 - (k : Int)) μ = (fX3_putStep 45 (-1) μ1).bind (fun r4 => vr_gd (r1 = 0 ∨ r1 = 1) (some (r1, r4.2))) := by
        rw [fX6_readOpen, fX6_readOpen_1, t40, if_neg (by omega), vp_bind, if_pos rfl]
        dsimp only
        rw [hp2, show (p : Int) + 1 = ((p + 1 : Nat) : Int) by omega, y1, vp_bind]
      rw [e0]
      match hm : vg_one (vg_C t e) k (p + 1) with
      | (q, none) =>
        rw [hm] at y2
        obtain ⟨x1, x2, x3⟩ := y2
        obtain ⟨μ', z1, z2, z3⟩ := vgc_stepF (x := -1) x2
        exact ⟨μ', by rw [z1, vp_bind, vp_gdT (by omega)], x1, z2, (vgc_K.p.tr x3).tr z3⟩
      | (q, some ts) =>
        rw [hm] at y2 gG
        obtain ⟨x1, x2, x3, x4⟩ := y2
        obtain ⟨g1, g2, g3⟩ := gG
        obtain ⟨μ', z1, z2, z3, z4⟩ := vgc_put (x := -1) x2 (by simp; omega)
        exact ⟨μ', by rw [z1, vp_bind, vp_gdT (by omega)], x1, by rw [← List.append_assoc]; exact z2, (vgc_K.p.tr x3).tr z3, fun j hj => by rw [z4 j hj, x4 j hj, vp_un (by decide)]⟩
    obtain ⟨μ', z1, z2⟩ := fin
    exact ⟨r1, μ', B18 r1 μ' (rR z2) z1, z2⟩
  · rw [if_neg c1, if_neg vz_F0, s40, vp_bind, if_neg c1]
    dsimp only
    by_cases c2 : vg_C t e p = 40
    · have p1 : p < e := hE.lt (fun q => by rw [q] at c2; omega)
      have h1 := vgc_go h (show p + 1 ≤ e by omega)
      obtain ⟨r1, μ1, y1, y2⟩ := vgc_A hP (show k ≤ d by omega) (by omega) h1 (by omega)
      rw [if_pos c2, if_neg vz_T1, if_pos c2]
      have fin : ∃ r μ', fX6_readOpen (d + 1) (5 - (k : Int)) μ = some (r, μ') ∧ vgc_R t e u a μ r μ' (match vg_any (vg_C t e) (vg_one (vg_C t e) k) (p + 1) with | (q, none) => (q, none) | (q, some ts) => if vg_C t e q = 41 then (q + 1, some ts) else (q, none)) := by
        have e0 : fX6_readOpen (d + 1) (5 - (k : Int)) μ = if r1 = 0 then fX6_readOpen_B30 (fX6_readOpen d) μ1 else (fX6_take 41 μ1).bind (fun r7 => if r7.1 = 0 then fX6_readOpen_B30 (fX6_readOpen d) r7.2 else fX6_readOpen_B31 (fX6_readOpen d) 1 r7.2) := by
          rw [fX6_readOpen, fX6_readOpen_1, t40, if_pos c2, vp_bind, if_neg vz_T1]
          dsimp only
          rw [y1, vp_bind]
        rw [e0]
        unfold fX6_readOpen_B30 fX6_readOpen_B31
        match hm : vg_any (vg_C t e) (vg_one (vg_C t e) k) (p + 1) with
        | (q, none) =>
          rw [hm] at y2
          obtain ⟨x1, x2, x3⟩ := y2
          exact ⟨0, μ1, by rw [if_pos x1, vp_gdT (by decide)], rfl, x2, vgc_K.p.tr x3⟩
        | (q, some ts) =>
          rw [hm] at y2
          obtain ⟨x1, x2, x3, x4⟩ := y2
          have gG := vg_any_G hE (vg_one_G hE k) (show p + 1 ≤ e by omega)
          rw [hm] at gG
          obtain ⟨g1, g2, g3⟩ := gG
          have t41 := vgc_take (ch := 41) x2.1 x2.2.1 (by omega) (by decide)
          rw [if_neg (by omega), t41]
          show ∃ r μ', _ ∧ vgc_R t e u a μ r μ' (if vg_C t e q = 41 then (q + 1, some ts) else (q, none))
          by_cases c3 : vg_C t e q = 41
          · have q1 : q < e := hE.lt (fun z => by rw [z] at c3; omega)
            rw [if_pos c3, vp_bind, if_neg vz_T1, if_pos c3]
            exact ⟨1, _, by rw [vp_gdT (by decide)], rfl, vgc_go x2 (by omega), (vgc_K.p.tr x3).tr vgc_K.p, fun j hj => by rw [vp_un (by decide), x4 j hj, vp_un (by decide)]⟩
          · rw [if_neg c3, vp_bind, if_pos rfl, if_neg c3]
            exact ⟨0, μ1, by rw [vp_gdT (by decide)], rfl, vgc_SF x2 (by simp; omega), vgc_K.p.tr x3⟩
      obtain ⟨r, μ', z1, z2⟩ := fin
      exact ⟨r, μ', B18 r μ' (rR z2) z1, z2⟩
    · rw [if_neg c2, if_pos rfl, if_neg c2]
      exact vgc_test h hu
theorem vgc_Pk {t : Nat → Int} {e : Nat} : ∀ k, k ≤ 5 → vgc_P t e k
  | 0, _ => vgc_P0
  | k + 1, h => vgc_PS (vgc_Pk k (by omega)) h
/-- a whole condition -/
def vg_E0 (C : Nat → Int) (p : Nat) : vg_P := vg_any C (vg_one C 5) p
theorem vgc_cond {t : Nat → Int} {e p u : Nat} {a : List Int} {μ : vr_M} (h : vgc_S t e μ p u a) (hu : u + a.length ≤ p) :
    ∃ r μ', fX6_readAny (fX6_readOpen 6) 0 μ = some (r, μ') ∧ vgc_R t e u a μ r μ' (vg_E0 (vg_C t e) p) :=
  vgc_A (vgc_Pk 5 (by decide)) (d := 6) (by decide) (by decide) h hu
theorem vg_E0_G {C : Nat → Int} {e p : Nat} (hE : vg_E C e) (hp : p ≤ e) : vg_G e p (vg_E0 C p) := vg_any_G hE (vg_one_G hE 5) hp
theorem vg_E0_V {C : Nat → Int} {p q : Nat} {ts : List Int} (h : vg_E0 C p = (q, some ts)) : vg_V 13 ts := (vg_any_V (fun p q ts h => vg_one_V 5 p q ts h) h).mono (by decide)

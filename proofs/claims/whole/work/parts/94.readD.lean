/-- one factor with k more open -/
def vgc_P (t : Nat → Int) (e k : Nat) : Prop := ∀ (d : Nat), k ≤ d → ∀ (p u : Nat) (a : List Int) (μ : vr_M), vgc_S t e μ p u a → u + a.length ≤ p →
  ∃ r μ', fX6_readOne (fX6_readOpen d) (5 - (k : Int)) μ = some (r, μ') ∧ vgc_R t e u a μ r μ' (vg_one (vg_C t e) k p)
theorem vgc_RK {t : Nat → Int} {e u : Nat} {a : List Int} {μ0 μ : vr_M} {r : Int} {μ' : vr_M} {x : vg_P} (k : vgc_K μ0 μ) (q : ∀ j, j < u → μ 48 j = μ0 48 j) (h : vgc_R t e u a μ r μ' x) : vgc_R t e u a μ0 r μ' x := by
  match x with
  | (q', none) => exact ⟨h.1, h.2.1, k.tr h.2.2⟩
  | (q', some ts) => exact ⟨h.1, h.2.1, k.tr h.2.2.1, fun j hj => (h.2.2.2 j hj).trans (q j hj)⟩
theorem vgc_endL {t : Nat → Int} {e p u : Nat} {a : List Int} {b : Bool} {μ : vr_M} {rc : Int → vr_M → Option (Int × vr_M)} {a0 : List Int} (h : vgc_S t e μ p u (a0 ++ a)) (hl : u + (a0 ++ a).length + b.toNat ≤ p) :
    ∃ μ', fX6_readAny_B104 rc (if b = true then 1 else 0) 1 μ = some (1, μ') ∧ vgc_R t e u a0 μ 1 μ' (p, some (vg_or b a)) := by
  have e120 := h.1.2.1
  have pe := h.2.2.2.2
  unfold fX6_readAny_B104 fX6_readAny_B117
  cases b
  · refine ⟨μ, ?_, rfl, h, vgc_K.rf, fun _ _ => rfl⟩
    rw [if_pos (by decide), vp_gdT (by decide)]
  · simp only [Bool.toNat_true] at hl
    obtain ⟨μ', q1, q2, q3, q4⟩ := vgc_put (x := -3) h (by omega)
    refine ⟨μ', ?_, rfl, by rw [show vg_or true a = a ++ [-3] from rfl, ← List.append_assoc]; exact q2, q3, q4⟩
    rw [if_neg (by decide), q1, vp_bind, vp_gdT (by decide)]
theorem vgc_endF {e q : Nat} {b : Int} {μ : vr_M} {rc : Int → vr_M → Option (Int × vr_M)} (h : vgc_F e μ q) : ∃ μ', fX6_readAny_B104 rc b 0 μ = some (0, μ') ∧ vgc_F e μ' q ∧ vgc_K μ μ' := by
  unfold fX6_readAny_B104 fX6_readAny_B117
  by_cases c : b = 0
  · exact ⟨μ, by rw [if_pos c, vp_gdT (by decide)], h, vgc_K.rf⟩
  · obtain ⟨μ', q1, q2, q3⟩ := vgc_stepF (x := -3) h
    exact ⟨μ', by rw [if_neg c, q1, vp_bind, vp_gdT (by decide)], q2, q3⟩
theorem vgc_anyL {t : Nat → Int} {e k d : Nat} (hP : vgc_P t e k) (hd : k ≤ d) (hk : k ≤ 5) {u : Nat} {a0 : List Int} :
    ∀ (f n : Nat) (b : Bool) (p : Nat) (a : List Int) (x4 : Int) (μ : vr_M), e - p < f → f < n → vgc_S t e μ p u (a0 ++ a) → u + (a0 ++ a).length + b.toNat ≤ p → 0 ≤ x4 ∧ x4 + 1 ≤ p →
      ∃ r μ', fX6_readAny_L11 (fX6_readOpen d) n (5 - (k : Int)) (if b = true then 1 else 0) 1 x4 μ = some (r, μ') ∧ vgc_R t e u a0 μ r μ' (vg_lp (vg_C t e) (vg_one (vg_C t e) k) f b p a) := by
  have hE := vg_CE t e
  intro f
  induction f with
  | zero => intro n b p a x4 μ hf; omega
  | succ f ih =>
    intro n b p a x4 μ hf hn h hl hx
    obtain ⟨n, rfl⟩ : ∃ m, n = m + 1 := ⟨n - 1, by omega⟩
    have e120 := h.1.2.1
    have pe := h.2.2.2.2
    have s38 := vgc_sees (ch := 38) h.1 h.2.1 (by omega) (by decide)
    have s124 := vgc_sees (ch := 124) h.1 h.2.1 (by omega) (by decide)
    have t38 := vgc_take (ch := 38) h.1 h.2.1 (by omega) (by decide)
    have hb : (if b = true then (1 : Int) else 0) = 0 ∨ (if b = true then (1 : Int) else 0) = 1 := by cases b <;> simp
    -- behind a factor
    have nxt : ∀ (b' : Bool) (a' : List Int) (μ1 : vr_M) (op : Bool) (r1 : Int) (μ2 : vr_M) (X : vg_P), vgc_K μ μ1 → (∀ j, j < u → μ1 48 j = μ 48 j) → p + 1 ≤ e → vgc_R t e u (a0 ++ a') μ1 r1 μ2 X → vg_G e (p + 1) X → u + (a0 ++ a').length + b'.toNat ≤ p + 1 → (op = false → u + (a0 ++ a').length + b'.toNat ≤ p + 1) → (op = true → u + (a0 ++ a').length + b'.toNat ≤ p) →
        ∃ r μ', (if (if op = true then (1 : Int) else 0) = 0 then fX6_readAny_B98 (fX6_readOpen d) (fX6_readAny_L11 (fX6_readOpen d) n) (5 - (k : Int)) (if b' = true then 1 else 0) r1 x4 μ2 else (fX3_putStep 45 (-2) μ2).bind (fun r5 => fX6_readAny_B98 (fX6_readOpen d) (fX6_readAny_L11 (fX6_readOpen d) n) (5 - (k : Int)) (if b' = true then 1 else 0) r1 x4 r5.2)) = some (r, μ') ∧ vgc_R t e u a0 μ r μ' (match X with | (q, none) => (q, none) | (q, some ts) => vg_lp (vg_C t e) (vg_one (vg_C t e) k) f b' q (a' ++ ts ++ (if op = true then [-2] else []))) := by
      intro b' a' μ1 op r1 μ2 X k1 j1 pe1 hX gX hl1 hl2 hl3
      unfold fX6_readAny_B98
      match X with
      | (q, none) =>
        obtain ⟨x1, x2, x3⟩ := hX
        subst x1
        have fin : ∀ μ3, vgc_F e μ3 q → vgc_K μ μ3 → ∃ r μ', vr_gd (vr_R (x4 + 1)) (fX6_readAny_L11 (fX6_readOpen d) n (5 - (k : Int)) (if b' = true then 1 else 0) 0 (x4 + 1) μ3) = some (r, μ') ∧ vgc_R t e u a0 μ r μ' (q, none) := by
          intro μ3 f3 k3
          obtain ⟨m, rfl⟩ : ∃ m, n = m + 1 := ⟨n - 1, by omega⟩
          obtain ⟨μ4, z1, z2, z3⟩ := vgc_endF (rc := fX6_readOpen d) (b := if b' = true then 1 else 0) f3
          refine ⟨0, μ4, ?_, rfl, z2, k3.tr z3⟩
          rw [vp_gdT (by omega), fX6_readAny_L11.eq_2]
          by_cases z : 120 ≤ x4 + 1
          · rw [if_pos z, z1]
          · rw [if_neg z, if_pos rfl, z1]
        cases op
        · rw [if_pos (by decide)]
          exact fin μ2 x2 (k1.tr x3)
        · obtain ⟨μ3, z1, z2, z3⟩ := vgc_stepF (x := -2) x2
          rw [if_neg (by decide), z1, vp_bind]
          exact fin μ3 z2 ((k1.tr x3).tr z3)
      | (q, some ts) =>
        obtain ⟨x1, x2, x3, x5⟩ := hX
        obtain ⟨g1, g2, g3⟩ := gX
        subst x1
        have fin : ∀ (μ3 : vr_M) (ws : List Int), vgc_S t e μ3 q u (a0 ++ ws) → u + (a0 ++ ws).length + b'.toNat ≤ q → vgc_K μ μ3 → (∀ j, j < u → μ3 48 j = μ 48 j) → ∃ r μ', vr_gd (vr_R (x4 + 1)) (fX6_readAny_L11 (fX6_readOpen d) n (5 - (k : Int)) (if b' = true then 1 else 0) 1 (x4 + 1) μ3) = some (r, μ') ∧ vgc_R t e u a0 μ r μ' (vg_lp (vg_C t e) (vg_one (vg_C t e) k) f b' q ws) := by
          intro μ3 ws s3 l3 k3 j3
          obtain ⟨r, μ', z1, z2⟩ := ih n b' q ws (x4 + 1) μ3 (by omega) (by omega) s3 l3 (by omega)
          exact ⟨r, μ', by rw [vp_gdT (by omega)]; exact z1, vgc_RK k3 j3 z2⟩
        have s2 : vgc_S t e μ2 q u (a0 ++ (a' ++ ts)) := by rw [← List.append_assoc]; exact x2
        cases op
        · have eN : (a' ++ ts ++ (if false = true then [-2] else [])) = a' ++ ts := by simp
          show ∃ r μ', _ ∧ vgc_R t e u a0 μ r μ' (vg_lp (vg_C t e) (vg_one (vg_C t e) k) f b' q (a' ++ ts ++ (if false = true then [-2] else [])))
          rw [if_pos (by decide), eN]
          refine fin μ2 _ s2 ?_ (k1.tr x3) (fun j hj => (x5 j hj).trans (j1 j hj))
          have := hl2 rfl
          simp at this ⊢
          omega
        · have := hl3 rfl
          simp at this
          obtain ⟨μ3, z1, z2, z3, z4⟩ := vgc_put (x := -2) s2 (by simp; omega)
          have eN : (a' ++ ts ++ (if true = true then [-2] else [])) = a' ++ ts ++ [-2] := by simp
          show ∃ r μ', _ ∧ vgc_R t e u a0 μ r μ' (vg_lp (vg_C t e) (vg_one (vg_C t e) k) f b' q (a' ++ ts ++ (if true = true then [-2] else [])))
          rw [if_neg (by decide), z1, vp_bind, eN]
          refine fin μ3 _ (by rw [← List.append_assoc]; exact z2) ?_ ((k1.tr x3).tr z3) (fun j hj => ((z4 j hj).trans (x5 j hj)).trans (j1 j hj))
          simp
          omega
    rw [fX6_readAny_L11.eq_2, if_neg (by omega), if_neg (by decide), s38, vp_bind, vg_lp]
    dsimp only
    unfold fX6_readAny_B40 fX6_readAny_B76 fX6_readAny_B78
    by_cases c1 : vg_C t e p = 38
    · have p1 : p < e := hE.lt (fun q => by rw [q] at c1; omega)
      have h1 := vgc_go h (show p + 1 ≤ e by omega)
      have gG := vg_one_G hE k (p + 1) (by omega)
      obtain ⟨r1, μ2, y1, y2⟩ := hP d hd (p + 1) u (a0 ++ a) _ h1 (by omega)
      rw [if_pos c1, if_pos vz_T1, t38, if_pos c1, vp_bind, if_pos vz_T1, if_pos c1]
      dsimp only
      rw [y1, vp_bind]
      obtain ⟨r, μ', z1, z2⟩ := nxt b a _ true r1 μ2 _ vgc_K.p (fun j _ => by rw [vp_un (by decide)]) (by omega) y2 gG (by omega) (fun _ => by omega) (fun _ => hl)
      refine ⟨r, μ', z1, ?_⟩
      match hm : vg_one (vg_C t e) k (p + 1) with
      | (q, none) => rw [hm] at z2; exact z2
      | (q, some ts) => rw [hm] at z2; exact z2
    · rw [if_neg c1, if_neg vz_F0, s124, vp_bind, if_neg c1]
      dsimp only
      by_cases c2 : vg_C t e p = 124
      · have p1 : p < e := hE.lt (fun q => by rw [q] at c2; omega)
        have h1 := vgc_go h (show p + 1 ≤ e by omega)
        have gG := vg_one_G hE k (p + 1) (by omega)
        have hp2 : μ 50 2 = (p : Int) := h.2.1
        rw [if_pos c2, if_neg vz_T1, t38, if_neg c1, vp_bind, if_neg vz_F0, if_pos c2]
        dsimp only
        rw [hp2, show (p : Int) + 1 = ((p + 1 : Nat) : Int) by omega]
        have fin : ∀ (μ1 : vr_M), vgc_S t e μ1 (p + 1) u (a0 ++ vg_or b a) → vgc_K μ μ1 → (∀ j, j < u → μ1 48 j = μ 48 j) → ∃ r μ', (fX6_readOne (fX6_readOpen d) (5 - (k : Int)) μ1).bind (fun r4 => if (0 : Int) = 0 then fX6_readAny_B98 (fX6_readOpen d) (fX6_readAny_L11 (fX6_readOpen d) n) (5 - (k : Int)) 1 r4.1 x4 r4.2 else (fX3_putStep 45 (-2) r4.2).bind (fun r5 => fX6_readAny_B98 (fX6_readOpen d) (fX6_readAny_L11 (fX6_readOpen d) n) (5 - (k : Int)) 1 r4.1 x4 r5.2)) = some (r, μ') ∧ vgc_R t e u a0 μ r μ' (match vg_one (vg_C t e) k (p + 1) with | (q, none) => (q, none) | (q, some ts) => vg_lp (vg_C t e) (vg_one (vg_C t e) k) f true q (vg_or b a ++ ts)) := by
          intro μ1 s1 k1 j1
          have lo : (vg_or b a).length ≤ a.length + b.toNat := by unfold vg_or; cases b <;> simp
          have hl' : u + (a0 ++ vg_or b a).length ≤ p := by simp at hl ⊢; omega
          obtain ⟨r1, μ2, y1, y2⟩ := hP d hd (p + 1) u (a0 ++ vg_or b a) μ1 s1 (by omega)
          rw [y1, vp_bind]
          obtain ⟨r, μ', z1, z2⟩ := nxt true (vg_or b a) μ1 false r1 μ2 _ k1 j1 (by omega) y2 gG (by simp at hl' ⊢; omega) (fun _ => by simp at hl' ⊢; omega) (fun q => by cases q)
          refine ⟨r, μ', z1, ?_⟩
          match hm : vg_one (vg_C t e) k (p + 1) with
          | (q, none) => rw [hm] at z2; exact z2
          | (q, some ts) =>
            rw [hm] at z2
            have z3 : vgc_R t e u a0 μ r μ' (vg_lp (vg_C t e) (vg_one (vg_C t e) k) f true q (vg_or b a ++ ts ++ [])) := z2
            rw [List.append_nil] at z3
            exact z3
        cases b
        · rw [if_pos (by decide)]
          exact fin _ h1 vgc_K.p (fun j _ => by rw [vp_un (by decide)])
        · simp only [Bool.toNat_true] at hl
          obtain ⟨μ3, w1, w2, w3, w4⟩ := vgc_put (x := -3) h1 (by omega)
          rw [if_neg (by decide), w1, vp_bind]
          exact fin μ3 (by rw [show vg_or true a = a ++ [-3] from rfl, ← List.append_assoc]; exact w2) (vgc_K.p.tr w3) (fun j hj => by rw [w4 j hj, vp_un (by decide)])
      · rw [if_neg c2, if_pos rfl, if_neg c2]
        obtain ⟨μ', z1, z2⟩ := vgc_endL (rc := fX6_readOpen d) (b := b) h hl
        exact ⟨1, μ', z1, z2⟩

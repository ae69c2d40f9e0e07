theorem vr_sw_same {α : Type} {x lo : Int} {Pd : Option α} : ∀ {Ps : List (Option α)}, (∀ q ∈ Ps, q = Pd) → vr_sw x lo Ps Pd = Pd := by
  intro Ps h
  unfold vr_sw
  split
  · rw [List.getD_eq_getElem?_getD]
    rcases hq : Ps[(x - lo).toNat]? with _ | q
    · rfl
    · exact h q (List.mem_of_getElem? hq)
  · rfl
theorem vk_end {p : Program} {l : Launch} {e : Env} {s : State} {m : MethodId} {below : List Frame} {meth : Method} {c : Code} {G : vr_G} {b L : Nat} {xs : Nat → Int32} (C0 : vr_Cx room_1 600000 7302250 p s m #[Value.ref b] meth c RL code 4 ret G) (hX : va_X b L xs s s.heap) (hbl : b < s.heap.size) (hG : vr_x0 G = s.heap.size) (hL : L ≤ 2048) (μ : vr_M) (lv : List (Nat × Value)) : vr_J p l e room_1 s m #[Value.ref b] below meth c 4 600000 7302250 G (fun _ : Unit => lw_Z below #[Value.ref b] s) 961 lv [] μ (some ()) := by
  refine jr_iconst C0 (n := 1) (by decide +kernel) ?_
  intro r hr H locs ls hP hS hl
  refine va_forget (fun q hq => by have := hS.2.2 q hq; unfold vr_A at this; rw [hG] at this; exact this) ?_
  exact lw_ret C0.1 C0.2.1 C0.2.2.2.2.2.2.1 C0.2.2.2.2.2.2.2.1 (pc := 961 + 1) (by decide +kernel)
theorem vk_loop {p : Program} {l : Launch} {e : Env} {s : State} {m : MethodId} {below : List Frame} {meth : Method} {c : Code} {G : vr_G} {b L : Nat} {xs : Nat → Int32} (C0 : vr_Cx room_1 600000 7302250 p s m #[Value.ref b] meth c RL code 4 ret G) (hX : va_X b L xs s s.heap) (hbl : b < s.heap.size) (hG : vr_x0 G = s.heap.size) (hL : L ≤ 2048) : ∀ (d k : Nat) (μ : vr_M), k + d = 514 → 4 * k ≤ L + 4 → vz_R (40 * (k : Int)) μ → vr_J p l e room_1 s m #[Value.ref b] below meth c 4 600000 7302250 G (fun _ : Unit => lw_Z below #[Value.ref b] s) 18 (vk_L G b (4 * (k : Int))) [] μ (some ()) := by
  have hbA : ¬ vr_A G b := by
    unfold vr_A
    rw [hG]
    omega
  intro d
  induction d with
  | zero => intro k μ hd hk hR; omega
  | succ d ih =>
    intro k μ hd hk hR
    refine jr_iload_n C0 (k := 3) 3 (by decide +kernel) rfl rfl ?_
    refine jr_aload_n C0 (k := 0) 0 (by decide +kernel) rfl rfl ?_
    refine jl_slen C0 hX hbl hbA (by decide +kernel) ?_
    refine jr_iconst C0 (n := 4) (by decide +kernel) ?_
    refine jr_isub C0 (by decide +kernel) ?_
    by_cases hc : (L : Int) - 4 < 4 * (k : Int)
    · have h := jr_icmp_gt (P1 := some ()) (P2 := none) (Z := fun _ : Unit => lw_Z below #[Value.ref b] s) (l := l) (e := e) (below := below) (pc := 23) (off := 938) (tgt := 961) (lv := vk_L G b (4 * (k : Int))) (st := []) (μ := μ) (x := 4 * (k : Int)) (y := (L : Int) - 4) C0 ⟨by omega, by omega⟩ ⟨by omega, by omega⟩ (by decide +kernel) (by decide) (vk_end C0 hX hbl hG hL _ _) jr_none
      rw [if_pos hc] at h
      exact h
    have h := jr_icmp_gt (P1 := none) (P2 := some ()) (Z := fun _ : Unit => lw_Z below #[Value.ref b] s) (l := l) (e := e) (below := below) (pc := 23) (off := 938) (tgt := 961) (lv := vk_L G b (4 * (k : Int))) (st := []) (μ := μ) (x := 4 * (k : Int)) (y := (L : Int) - 4) C0 ⟨by omega, by omega⟩ ⟨by omega, by omega⟩ (by decide +kernel) (by decide) jr_none ?_
    · rw [if_neg hc] at h
      exact h
    have hx : 0 ≤ 4 * (k : Int) ∧ 4 * (k : Int) + 3 < (L : Int) := by omega
    have hY : 40 * (k : Int) ≤ 90000 := by omega
    have K : ∀ μ2, vz_R (40 * (k : Int) + 40) μ2 → vr_J p l e room_1 s m #[Value.ref b] below meth c 4 600000 7302250 G (fun _ : Unit => lw_Z below #[Value.ref b] s) 955 (vk_L G b (4 * (k : Int))) [] μ2 (some ()) := by
      intro μ2 hR2
      refine jr_iinc C0 (i := 3) (q := 3) (n := 4) (x := 4 * (k : Int)) (lv' := [(3, .int (vr_I (4 * (k : Int) + 4))), (0, .ref b), (1, .ref (vr_ad G 0)), (2, .ref (vr_ad G 68))]) (by decide +kernel) rfl (by decide) rfl ?_
      refine jr_sub (lv' := vk_L G b (4 * (k : Int) + 4)) [1, 2, 3, 0] rfl ?_
      refine jr_goto C0 (off := -940) (tgt := 18) (by decide +kernel) (by decide) ?_
      have g := ih (k + 1) μ2 (by omega) (by omega) (by rw [show 40 * ((k + 1 : Nat) : Int) = 40 * (k : Int) + 40 by omega]; exact hR2)
      rw [show 4 * ((k + 1 : Nat) : Int) = 4 * (k : Int) + 4 by omega] at g
      exact g
    show vr_J p l e room_1 s m #[Value.ref b] below meth c 4 600000 7302250 G (fun _ : Unit => lw_Z below #[Value.ref b] s) 26 (vk_L G b (4 * (k : Int))) [] μ (some ())
    refine jr_aload_n C0 (k := 0) 0 (by decide +kernel) rfl rfl ?_
    refine jr_iload_n C0 (k := 3) 3 (by decide +kernel) rfl rfl ?_
    refine jl_sld C0 hX hbl hbA hL (by omega) (by decide +kernel) ?_
    refine jr_bipush C0 (n := 31) (by decide +kernel) rfl ?_
    refine jr_iand C0 (by decide +kernel) ?_
    have e1 : (some () : Option Unit) = vr_sw (vr_and (vk_v xs (4 * (k : Int))) 31) 0 [some (), some (), some (), some (), some (), some (), some (), some (), some (), some (), some (), some (), some (), some (), some (), some (), some (), some (), some (), some (), some (), some (), some (), some (), some (), some (), some (), some ()] (some ()) := (vr_sw_same (by simp)).symm
    rw [e1]
    refine jr_tsw C0 (vr_RT _) (dflt := 923) (lo := 0) (hi := 27) (offs := #[128, 161, 194, 227, 290, 303, 336, 359, 392, 425, 448, 471, 504, 527, 540, 583, 616, 639, 683, 706, 729, 752, 775, 818, 841, 874, 887, 900]) (len := 128) (td := 955) (by decide +kernel) (by decide) (by decide) ?_ ?_
    · show vr_TS _ _ [128, 161, 194, 227, 290, 303, 336, 359, 392, 425, 448, 471, 504, 527, 540, 583, 616, 639, 683, 706, 729, 752, 775, 818, 841, 874, 887, 900] _
      refine vr_TS_cons (tgt := 160) (by decide) (vk_c160 C0 hX hbl hbA hL hx hY hR K) ?_
      refine vr_TS_cons (tgt := 193) (by decide) (vk_c193 C0 hX hbl hbA hL hx hY hR K) ?_
      refine vr_TS_cons (tgt := 226) (by decide) (vk_c226 C0 hX hbl hbA hL hx hY hR K) ?_
      refine vr_TS_cons (tgt := 259) (by decide) (vk_c259 C0 hX hbl hbA hL hx hY hR K) ?_
      refine vr_TS_cons (tgt := 322) (by decide) (vk_c322 C0 hX hbl hbA hL hx hY hR K) ?_
      refine vr_TS_cons (tgt := 335) (by decide) (vk_c335 C0 hX hbl hbA hL hx hY hR K) ?_
      refine vr_TS_cons (tgt := 368) (by decide) (vk_c368 C0 hX hbl hbA hL hx hY hR K) ?_
      refine vr_TS_cons (tgt := 391) (by decide) (vk_c391 C0 hX hbl hbA hL hx hY hR K) ?_
      refine vr_TS_cons (tgt := 424) (by decide) (vk_c424 C0 hX hbl hbA hL hx hY hR K) ?_
      refine vr_TS_cons (tgt := 457) (by decide) (vk_c457 C0 hX hbl hbA hL hx hY hR K) ?_
      refine vr_TS_cons (tgt := 480) (by decide) (vk_c480 C0 hX hbl hbA hL hx hY hR K) ?_
      refine vr_TS_cons (tgt := 503) (by decide) (vk_c503 C0 hX hbl hbA hL hx hY hR K) ?_
      refine vr_TS_cons (tgt := 536) (by decide) (vk_c536 C0 hX hbl hbA hL hx hY hR K) ?_
      refine vr_TS_cons (tgt := 559) (by decide) (vk_c559 C0 hX hbl hbA hL hx hY hR K) ?_
      refine vr_TS_cons (tgt := 572) (by decide) (vk_c572 C0 hX hbl hbA hL hx hY hR K) ?_
      refine vr_TS_cons (tgt := 615) (by decide) (vk_c615 C0 hX hbl hbA hL hx hY hR K) ?_
      refine vr_TS_cons (tgt := 648) (by decide) (vk_c648 C0 hX hbl hbA hL hx hY hR K) ?_
      refine vr_TS_cons (tgt := 671) (by decide) (vk_c671 C0 hX hbl hbA hL hx hY hR K) ?_
      refine vr_TS_cons (tgt := 715) (by decide) (vk_c715 C0 hX hbl hbA hL hx hY hR K) ?_
      refine vr_TS_cons (tgt := 738) (by decide) (vk_c738 C0 hX hbl hbA hL hx hY hR K) ?_
      refine vr_TS_cons (tgt := 761) (by decide) (vk_c761 C0 hX hbl hbA hL hx hY hR K) ?_
      refine vr_TS_cons (tgt := 784) (by decide) (vk_c784 C0 hX hbl hbA hL hx hY hR K) ?_
      refine vr_TS_cons (tgt := 807) (by decide) (vk_c807 C0 hX hbl hbA hL hx hY hR K) ?_
      refine vr_TS_cons (tgt := 850) (by decide) (vk_c850 C0 hX hbl hbA hL hx hY hR K) ?_
      refine vr_TS_cons (tgt := 873) (by decide) (vk_c873 C0 hX hbl hbA hL hx hY hR K) ?_
      refine vr_TS_cons (tgt := 906) (by decide) (vk_c906 C0 hX hbl hbA hL hx hY hR K) ?_
      refine vr_TS_cons (tgt := 919) (by decide) (vk_c919 C0 hX hbl hbA hL hx hY hR K) ?_
      refine vr_TS_cons (tgt := 932) (by decide) (vk_c932 C0 hX hbl hbA hL hx hY hR K) ?_
      exact vr_TS_nil
    · exact K μ (hR.mono (by omega))

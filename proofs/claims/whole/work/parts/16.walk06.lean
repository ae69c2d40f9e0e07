theorem dX10_here_0 : decode cX10_here 0 = .ok (.aload_n 0, 1) := by decide +kernel
theorem dX10_here_1 : decode cX10_here 1 = .ok (.getfield 54, 3) := by decide +kernel
theorem dX10_here_4 : decode cX10_here 4 = .ok (.aload_n 0, 1) := by decide +kernel
theorem dX10_here_5 : decode cX10_here 5 = .ok (.getfield 57, 3) := by decide +kernel
theorem dX10_here_8 : decode cX10_here 8 = .ok (.if_icmp .ge 18, 3) := by decide +kernel
theorem dX10_here_11 : decode cX10_here 11 = .ok (.aload_n 0, 1) := by decide +kernel
theorem dX10_here_12 : decode cX10_here 12 = .ok (.getfield 9, 3) := by decide +kernel
theorem dX10_here_15 : decode cX10_here 15 = .ok (.bipush 10, 2) := by decide +kernel
theorem dX10_here_17 : decode cX10_here 17 = .ok (.aload_n 0, 1) := by decide +kernel
theorem dX10_here_18 : decode cX10_here 18 = .ok (.getfield 54, 3) := by decide +kernel
theorem dX10_here_21 : decode cX10_here 21 = .ok (.iadd, 1) := by decide +kernel
theorem dX10_here_22 : decode cX10_here 22 = .ok (.iaload, 1) := by decide +kernel
theorem dX10_here_23 : decode cX10_here 23 = .ok (.goto 4, 3) := by decide +kernel
theorem dX10_here_26 : decode cX10_here 26 = .ok (.iconst (-1), 1) := by decide +kernel
theorem dX10_here_27 : decode cX10_here 27 = .ok (.ireturn, 1) := by decide +kernel
def fX10_here_B27 (y0 : Int) (μ : vr_M) : Option (Int × vr_M) :=
  some (y0, μ)
def fX10_here (μ : vr_M) : Option (Int × vr_M) :=
  vr_gd (vr_R (μ 68 6)) (vr_gd (vr_R (μ 68 7)) (if (μ 68 7) ≤ (μ 68 6) then fX10_here_B27 (-1) μ else vr_gd (0 ≤ (10 + (μ 68 6)) ∧ (10 + (μ 68 6)) < 933) (vr_gd (vr_R (μ 69 (10 + (μ 68 6)).toNat)) (fX10_here_B27 (μ 69 (10 + (μ 68 6)).toNat) μ))))
set_option maxRecDepth 100000 in
set_option maxHeartbeats 4000000 in
theorem ct_X10_here (l : Launch) (G : vr_G) (μ : vr_M) : vr_CI l yX10_here cX10_here 1 (some .int) ({ frames := 0, cells := 0, slots := 0, locals := 0 } : Room) G [.ref (vr_ad G 68)] μ (fX10_here μ) := by
  refine vr_start (own := RX10) (by decide) rfl (Nat.le_of_ble_eq_true rfl) (fun p e s m args below meth c C0 => ?_)
  show vr_J p l e _ s m args below meth c 1 0 0 G (vr_Z (vr_QI G) G args s below) 0 [(0, .ref (vr_ad G 68))] [] μ _
  have B27 : ∀ (y0 : Int) (h_y0 : vr_R y0) (μ : vr_M), vr_J p l e ({ frames := 0, cells := 0, slots := 0, locals := 0 } : Room) s m args below meth c 1 0 0 G (vr_Z (vr_QI G) G args s below) 27 [] [.int (vr_I y0)] μ (fX10_here_B27 y0 μ) := by
    intro y0 h_y0 μ
    unfold fX10_here_B27
    exact jr_iret C0 h_y0 dX10_here_27
  unfold fX10_here
  refine jr_aload_n C0 0 dX10_here_0 rfl rfl ?_
  refine jr_geti C0 (by decide) kd_68 (by decide) rfl wx_X10 (i := 6) (by decide) wf_X10_54 rfl dX10_here_1 ?_
  refine jr_aload_n C0 0 dX10_here_4 rfl rfl ?_
  refine jr_geti C0 (by decide) kd_68 (by decide) rfl wx_X10 (i := 7) (by decide) wf_X10_57 rfl dX10_here_5 ?_
  refine jr_gd (fun g1 => ?_)
  refine jr_gd (fun g2 => ?_)
  refine jr_icmp_ge C0 g1 g2 dX10_here_8 (tgt := 26) (by decide) ?_ ?_
  · refine jr_iconst C0 dX10_here_26 ?_
    refine jr_sub [] rfl ?_
    exact B27 (-1) (⟨by decide, by decide⟩) _
  refine jr_aload_n C0 0 dX10_here_11 rfl rfl ?_
  refine jr_getr C0 (by decide) kd_68 (by decide) rfl wx_X10 (i := 1) (by decide) wf_X10_9 (j := 69) rfl dX10_here_12 ?_
  refine jr_bipush C0 dX10_here_15 rfl ?_
  refine jr_aload_n C0 0 dX10_here_17 rfl rfl ?_
  refine jr_geti C0 (by decide) kd_68 (by decide) rfl wx_X10 (i := 6) (by decide) wf_X10_54 rfl dX10_here_18 ?_
  refine jr_iadd C0 dX10_here_21 ?_
  refine jr_gd (fun g3 => ?_)
  refine jr_iald C0 (by decide) kd_69 kl_69 g3 (j := (10 + (μ 68 6)).toNat) rfl dX10_here_22 ?_
  refine jr_goto C0 dX10_here_23 (tgt := 27) (by decide) ?_
  refine jr_gd (fun g4 => ?_)
  refine jr_sub [] rfl ?_
  exact B27 (μ 69 (10 + (μ 68 6)).toNat) g4 _
theorem dX10_must_0 : decode cX10_must 0 = .ok (.aload_n 0, 1) := by decide +kernel
theorem dX10_must_1 : decode cX10_must 1 = .ok (.aload_n 0, 1) := by decide +kernel
theorem dX10_must_2 : decode cX10_must 2 = .ok (.getfield 60, 3) := by decide +kernel
theorem dX10_must_5 : decode cX10_must 5 = .ok (.ifCond .ne 11, 3) := by decide +kernel
theorem dX10_must_8 : decode cX10_must 8 = .ok (.aload_n 0, 1) := by decide +kernel
theorem dX10_must_9 : decode cX10_must 9 = .ok (.invokevirtual 64, 3) := by decide +kernel
theorem dX10_must_12 : decode cX10_must 12 = .ok (.iload_n 1, 1) := by decide +kernel
theorem dX10_must_13 : decode cX10_must 13 = .ok (.if_icmp .eq 7, 3) := by decide +kernel
theorem dX10_must_16 : decode cX10_must 16 = .ok (.iconst 1, 1) := by decide +kernel
theorem dX10_must_17 : decode cX10_must 17 = .ok (.goto 4, 3) := by decide +kernel
theorem dX10_must_20 : decode cX10_must 20 = .ok (.iconst 0, 1) := by decide +kernel
theorem dX10_must_21 : decode cX10_must 21 = .ok (.putfield 60, 3) := by decide +kernel
theorem dX10_must_24 : decode cX10_must 24 = .ok (.aload_n 0, 1) := by decide +kernel
theorem dX10_must_25 : decode cX10_must 25 = .ok (.dup, 1) := by decide +kernel
theorem dX10_must_26 : decode cX10_must 26 = .ok (.getfield 54, 3) := by decide +kernel
theorem dX10_must_29 : decode cX10_must 29 = .ok (.aload_n 0, 1) := by decide +kernel
theorem dX10_must_30 : decode cX10_must 30 = .ok (.getfield 60, 3) := by decide +kernel
theorem dX10_must_33 : decode cX10_must 33 = .ok (.ifCond .eq 7, 3) := by decide +kernel
theorem dX10_must_36 : decode cX10_must 36 = .ok (.iconst 0, 1) := by decide +kernel
theorem dX10_must_37 : decode cX10_must 37 = .ok (.goto 4, 3) := by decide +kernel
theorem dX10_must_40 : decode cX10_must 40 = .ok (.iconst 1, 1) := by decide +kernel
theorem dX10_must_41 : decode cX10_must 41 = .ok (.iadd, 1) := by decide +kernel
theorem dX10_must_42 : decode cX10_must 42 = .ok (.putfield 54, 3) := by decide +kernel
theorem dX10_must_45 : decode cX10_must 45 = .ok (.return_, 1) := by decide +kernel
def fX10_must_B41 (y1 : Int) (y2 : Int) (μ : vr_M) : Option (Int × vr_M) :=
  some (0, vr_u μ 68 6 (y1 + y2))
def fX10_must_B21 (y1 : Int) (μ : vr_M) : Option (Int × vr_M) :=
  vr_gd (y1 = 0 ∨ y1 = 1) (vr_let (vr_u μ 68 8 y1) (fun μ2 => vr_gd (vr_R (μ2 68 8)) (if (μ2 68 8) = 0 then vr_gd (vr_R (μ2 68 6)) (fX10_must_B41 (μ2 68 6) 1 μ2) else vr_gd (vr_R (μ2 68 6)) (fX10_must_B41 (μ2 68 6) 0 μ2))))
def fX10_must_B16 (μ : vr_M) : Option (Int × vr_M) :=
  fX10_must_B21 1 μ
def fX10_must (a0 : Int) (μ : vr_M) : Option (Int × vr_M) :=
  vr_gd (vr_R (μ 68 8)) (if ¬ (μ 68 8) = 0 then fX10_must_B16 μ else (fX10_here  μ).bind (fun r7 => if r7.1 = a0 then fX10_must_B21 0 r7.2 else fX10_must_B16 r7.2))
set_option maxRecDepth 100000 in
set_option maxHeartbeats 4000000 in
theorem ct_X10_must (l : Launch) (G : vr_G) (a0 : Int) (h_a0 : vr_R a0) (μ : vr_M) : vr_CV l yX10_must cX10_must 2 none ({ frames := 1, cells := 0, slots := 0, locals := 20 } : Room) G [.ref (vr_ad G 68), .int (vr_I a0)] μ (fX10_must a0 μ) := by
  refine vr_start (own := RX10) (by decide) rfl (Nat.le_of_ble_eq_true rfl) (fun p e s m args below meth c C0 => ?_)
  show vr_J p l e _ s m args below meth c 2 0 0 G (vr_Z (vr_QV G) G args s below) 0 [(0, .ref (vr_ad G 68)), (1, .int (vr_I a0))] [] μ _
  have B41 : ∀ (y1 : Int) (h_y1 : vr_R y1) (y2 : Int) (h_y2 : vr_R y2) (μ : vr_M), vr_J p l e ({ frames := 1, cells := 0, slots := 0, locals := 20 } : Room) s m args below meth c 2 0 0 G (vr_Z (vr_QV G) G args s below) 41 [] [.int (vr_I y2), .int (vr_I y1), .ref (vr_ad G 68)] μ (fX10_must_B41 y1 y2 μ) := by
    intro y1 h_y1 y2 h_y2 μ
    unfold fX10_must_B41
    refine jr_iadd C0 dX10_must_41 ?_
    refine jr_puti C0 (by decide) kd_68 (by decide) rfl wx_X10 (i := 6) (by decide) wf_X10_54 rfl tyX10_ok nmX10 rfl rfl rfl dX10_must_42 ?_
    exact jr_vret C0 dX10_must_45
  have B21 : ∀ (y1 : Int) (h_y1 : vr_R y1) (μ : vr_M), vr_J p l e ({ frames := 1, cells := 0, slots := 0, locals := 20 } : Room) s m args below meth c 2 0 0 G (vr_Z (vr_QV G) G args s below) 21 [(0, .ref (vr_ad G 68))] [.int (vr_I y1), .ref (vr_ad G 68)] μ (fX10_must_B21 y1 μ) := by
    intro y1 h_y1 μ
    unfold fX10_must_B21
    refine jr_gd (fun g1 => ?_)
    refine jr_puti C0 (by decide) kd_68 (by decide) rfl wx_X10 (i := 8) (by decide) wf_X10_60 rfl tyX10_ok nmX10 rfl (vr_nz g1) ((vr_fz .boolean (Or.inr rfl) (fun _ => g1)).2) dX10_must_21 ?_
    refine jr_aload_n C0 0 dX10_must_24 rfl rfl ?_
    refine jr_dup C0 rfl dX10_must_25 ?_
    refine jr_let (fun μ2 => ?_)
    refine jr_geti C0 (by decide) kd_68 (by decide) rfl wx_X10 (i := 6) (by decide) wf_X10_54 rfl dX10_must_26 ?_
    refine jr_aload_n C0 0 dX10_must_29 rfl rfl ?_
    refine jr_geti C0 (by decide) kd_68 (by decide) rfl wx_X10 (i := 8) (by decide) wf_X10_60 rfl dX10_must_30 ?_
    refine jr_gd (fun g3 => ?_)
    refine jr_if_eq C0 g3 dX10_must_33 (tgt := 40) (by decide) ?_ ?_
    · refine jr_iconst C0 dX10_must_40 ?_
      refine jr_gd (fun g4 => ?_)
      refine jr_sub [] rfl ?_
      exact B41 (μ2 68 6) g4 1 (⟨by decide, by decide⟩) _
    refine jr_iconst C0 dX10_must_36 ?_
    refine jr_goto C0 dX10_must_37 (tgt := 41) (by decide) ?_
    refine jr_gd (fun g5 => ?_)
    refine jr_sub [] rfl ?_
    exact B41 (μ2 68 6) g5 0 (⟨by decide, by decide⟩) _
  have B16 : ∀ (μ : vr_M), vr_J p l e ({ frames := 1, cells := 0, slots := 0, locals := 20 } : Room) s m args below meth c 2 0 0 G (vr_Z (vr_QV G) G args s below) 16 [(0, .ref (vr_ad G 68))] [.ref (vr_ad G 68)] μ (fX10_must_B16 μ) := by
    intro μ
    unfold fX10_must_B16
    refine jr_iconst C0 dX10_must_16 ?_
    refine jr_goto C0 dX10_must_17 (tgt := 21) (by decide) ?_
    exact B21 1 (⟨by decide, by decide⟩) _
  unfold fX10_must
  refine jr_aload_n C0 0 dX10_must_0 rfl rfl ?_
  refine jr_aload_n C0 0 dX10_must_1 rfl rfl ?_
  refine jr_geti C0 (by decide) kd_68 (by decide) rfl wx_X10 (i := 8) (by decide) wf_X10_60 rfl dX10_must_2 ?_
  refine jr_gd (fun g6 => ?_)
  refine jr_if_ne C0 g6 dX10_must_5 (tgt := 16) (by decide) ?_ ?_
  · refine jr_sub [0] rfl ?_
    exact B16 _
  refine jr_aload_n C0 0 dX10_must_8 rfl rfl ?_
  refine jr_vI C0 (by decide) kd_68 (by decide) rfl (ct_X10_here l G  _) mi_X10_here wm_X10_64 ⟨Nat.le_of_ble_eq_true rfl, Nat.le_of_ble_eq_true rfl⟩ ⟨rfl, rfl⟩ (As := []) rfl (st := [.ref (vr_ad G 68)]) rfl (Nat.le_of_ble_eq_true rfl) dX10_must_9 (fun r7 hr7 => ?_)
  refine jr_iload_n C0 1 dX10_must_12 rfl rfl ?_
  refine jr_icmp_eq C0 hr7 h_a0 dX10_must_13 (tgt := 20) (by decide) ?_ ?_
  · refine jr_iconst C0 dX10_must_20 ?_
    refine jr_sub [0] rfl ?_
    exact B21 0 (⟨by decide, by decide⟩) _
  refine jr_sub [0] rfl ?_
  exact B16 _
theorem dX10_spells_0 : decode cX10_spells 0 = .ok (.iconst 0, 1) := by decide +kernel
theorem dX10_spells_1 : decode cX10_spells 1 = .ok (.istore_n 2, 1) := by decide +kernel
theorem dX10_spells_2 : decode cX10_spells 2 = .ok (.iload_n 2, 1) := by decide +kernel
theorem dX10_spells_3 : decode cX10_spells 3 = .ok (.aload_n 1, 1) := by decide +kernel
theorem dX10_spells_4 : decode cX10_spells 4 = .ok (.invokevirtual 68, 3) := by decide +kernel
theorem dX10_spells_7 : decode cX10_spells 7 = .ok (.if_icmp .ge 18, 3) := by decide +kernel
theorem dX10_spells_10 : decode cX10_spells 10 = .ok (.aload_n 0, 1) := by decide +kernel
theorem dX10_spells_11 : decode cX10_spells 11 = .ok (.aload_n 1, 1) := by decide +kernel
theorem dX10_spells_12 : decode cX10_spells 12 = .ok (.iload_n 2, 1) := by decide +kernel
theorem dX10_spells_13 : decode cX10_spells 13 = .ok (.invokevirtual 73, 3) := by decide +kernel
theorem dX10_spells_16 : decode cX10_spells 16 = .ok (.invokevirtual 77, 3) := by decide +kernel
theorem dX10_spells_19 : decode cX10_spells 19 = .ok (.iinc 2 1, 3) := by decide +kernel
theorem dX10_spells_22 : decode cX10_spells 22 = .ok (.goto (-20), 3) := by decide +kernel
theorem dX10_spells_25 : decode cX10_spells 25 = .ok (.return_, 1) := by decide +kernel
def fX10_spells_L2 (s1 : Nat) : Nat → Int → vr_M → Option (Int × vr_M)
  | 0, _, _ => none
  | n + 1, x2, μ => (fJ0_length_8abf5 s1 μ).bind (fun r1 => if r1.1 ≤ x2 then some (0, r1.2) else (fJ0_charAt_5068e s1 x2 r1.2).bind (fun r2 => (fX10_must r2.1 r2.2).bind (fun r3 => vr_gd (vr_R (x2 + 1)) ((fX10_spells_L2 s1 n) (x2 + 1) r3.2))))
def fX10_spells (s1 : Nat) (μ : vr_M) : Option (Int × vr_M) :=
  fX10_spells_L2 s1 9000 0 μ
set_option maxRecDepth 100000 in
set_option maxHeartbeats 4000000 in
theorem ct_X10_spells (l : Launch) (G : vr_G) {s1 : Nat} (hi_s1 : s1 < 17) (μ : vr_M) : vr_CV l yX10_spells cX10_spells 3 none ({ frames := 4, cells := 0, slots := 0, locals := 85 } : Room) G [.ref (vr_ad G 68), .ref (vr_ak G s1)] μ (fX10_spells s1 μ) := by
  refine vr_start (own := RX10) (by decide) rfl (Nat.le_of_ble_eq_true rfl) (fun p e s m args below meth c C0 => ?_)
  show vr_J p l e _ s m args below meth c 3 0 0 G (vr_Z (vr_QV G) G args s below) 0 [(0, .ref (vr_ad G 68)), (1, .ref (vr_ak G s1))] [] μ _
  have L2 : ∀ (n : Nat) (x2 : Int) (h_x2 : vr_R x2) (μ : vr_M), vr_J p l e ({ frames := 4, cells := 0, slots := 0, locals := 85 } : Room) s m args below meth c 3 0 0 G (vr_Z (vr_QV G) G args s below) 2 [(0, .ref (vr_ad G 68)), (1, .ref (vr_ak G s1)), (2, .int (vr_I x2))] [] μ (fX10_spells_L2 s1 n x2 μ) := by
    intro n2
    induction n2 with
    | zero => intros; exact jr_none
    | succ n2 ih2 =>
      intro x2 h_x2 μ
      rw [fX10_spells_L2.eq_2]
      refine jr_iload_n C0 2 dX10_spells_2 rfl rfl ?_
      refine jr_aload_n C0 1 dX10_spells_3 rfl rfl ?_
      refine jr_strI C0 hi_s1 (ct_J0_length_8abf5 l G hi_s1 _) mi_J0_length_8abf5 wm_X10_68 ⟨Nat.le_of_ble_eq_true rfl, Nat.le_of_ble_eq_true rfl⟩ ⟨rfl, rfl⟩ (As := []) rfl (st := [.int (vr_I x2)]) rfl (Nat.le_of_ble_eq_true rfl) dX10_spells_4 (fun r1 hr1 => ?_)
      refine jr_icmp_ge C0 h_x2 hr1 dX10_spells_7 (tgt := 25) (by decide) ?_ ?_
      · exact jr_vret C0 dX10_spells_25
      refine jr_aload_n C0 0 dX10_spells_10 rfl rfl ?_
      refine jr_aload_n C0 1 dX10_spells_11 rfl rfl ?_
      refine jr_iload_n C0 2 dX10_spells_12 rfl rfl ?_
      refine jr_strI C0 hi_s1 (ct_J0_charAt_5068e l G hi_s1 x2 h_x2 _) mi_J0_charAt_5068e wm_X10_73 ⟨Nat.le_of_ble_eq_true rfl, Nat.le_of_ble_eq_true rfl⟩ ⟨rfl, rfl⟩ (As := [.int (vr_I x2)]) rfl (st := [.ref (vr_ad G 68)]) rfl (Nat.le_of_ble_eq_true rfl) dX10_spells_13 (fun r2 hr2 => ?_)
      refine jr_vV0 C0 (by decide) kd_68 (by decide) rfl (ct_X10_must l G r2.1 hr2 _) mi_X10_must wm_X10_77 ⟨Nat.le_of_ble_eq_true rfl, Nat.le_of_ble_eq_true rfl⟩ ⟨rfl, rfl⟩ (As := [.int (vr_I r2.1)]) rfl (st := []) rfl (Nat.le_of_ble_eq_true rfl) dX10_spells_16 (fun r3 => ?_)
      refine jr_iinc C0 (q := 2) dX10_spells_19 rfl (by decide) (lv' := [(2, .int (vr_I (x2 + 1))), (0, .ref (vr_ad G 68)), (1, .ref (vr_ak G s1))]) rfl ?_
      refine jr_goto C0 dX10_spells_22 (tgt := 2) (by decide) ?_
      refine jr_gd (fun g4 => ?_)
      refine jr_sub [1, 2, 0] rfl ?_
      exact ih2 (x2 + 1) g4 _
  unfold fX10_spells
  refine jr_iconst C0 dX10_spells_0 ?_
  refine jr_istore_n C0 dX10_spells_1 rfl (by decide) (lv' := [(2, .int (vr_I 0)), (0, .ref (vr_ad G 68)), (1, .ref (vr_ak G s1))]) rfl ?_
  refine jr_sub [1, 2, 0] rfl ?_
  exact L2 9000 0 (⟨by decide, by decide⟩) _
theorem dX10_figures_0 : decode cX10_figures 0 = .ok (.aload_n 0, 1) := by decide +kernel
theorem dX10_figures_1 : decode cX10_figures 1 = .ok (.aload_n 0, 1) := by decide +kernel
theorem dX10_figures_2 : decode cX10_figures 2 = .ok (.getfield 60, 3) := by decide +kernel
theorem dX10_figures_5 : decode cX10_figures 5 = .ok (.ifCond .ne 17, 3) := by decide +kernel
theorem dX10_figures_8 : decode cX10_figures 8 = .ok (.aload_n 0, 1) := by decide +kernel
theorem dX10_figures_9 : decode cX10_figures 9 = .ok (.invokevirtual 64, 3) := by decide +kernel
theorem dX10_figures_12 : decode cX10_figures 12 = .ok (.bipush 48, 2) := by decide +kernel
theorem dX10_figures_14 : decode cX10_figures 14 = .ok (.bipush 57, 2) := by decide +kernel
theorem dX10_figures_16 : decode cX10_figures 16 = .ok (.invokestatic 44, 3) := by decide +kernel
theorem dX10_figures_19 : decode cX10_figures 19 = .ok (.ifCond .ne 7, 3) := by decide +kernel
theorem dX10_figures_22 : decode cX10_figures 22 = .ok (.iconst 1, 1) := by decide +kernel
theorem dX10_figures_23 : decode cX10_figures 23 = .ok (.goto 4, 3) := by decide +kernel
theorem dX10_figures_26 : decode cX10_figures 26 = .ok (.iconst 0, 1) := by decide +kernel
theorem dX10_figures_27 : decode cX10_figures 27 = .ok (.putfield 60, 3) := by decide +kernel
theorem dX10_figures_30 : decode cX10_figures 30 = .ok (.iconst 0, 1) := by decide +kernel
theorem dX10_figures_31 : decode cX10_figures 31 = .ok (.istore_n 1, 1) := by decide +kernel
theorem dX10_figures_32 : decode cX10_figures 32 = .ok (.iconst 0, 1) := by decide +kernel
theorem dX10_figures_33 : decode cX10_figures 33 = .ok (.istore_n 2, 1) := by decide +kernel
theorem dX10_figures_34 : decode cX10_figures 34 = .ok (.iload_n 2, 1) := by decide +kernel
theorem dX10_figures_35 : decode cX10_figures 35 = .ok (.iconst 2, 1) := by decide +kernel
theorem dX10_figures_36 : decode cX10_figures 36 = .ok (.if_icmp .ge 61, 3) := by decide +kernel
theorem dX10_figures_39 : decode cX10_figures 39 = .ok (.aload_n 0, 1) := by decide +kernel
theorem dX10_figures_40 : decode cX10_figures 40 = .ok (.getfield 60, 3) := by decide +kernel
theorem dX10_figures_43 : decode cX10_figures 43 = .ok (.ifCond .ne 54, 3) := by decide +kernel
theorem dX10_figures_46 : decode cX10_figures 46 = .ok (.aload_n 0, 1) := by decide +kernel
theorem dX10_figures_47 : decode cX10_figures 47 = .ok (.invokevirtual 64, 3) := by decide +kernel
theorem dX10_figures_50 : decode cX10_figures 50 = .ok (.bipush 48, 2) := by decide +kernel
theorem dX10_figures_52 : decode cX10_figures 52 = .ok (.bipush 57, 2) := by decide +kernel
theorem dX10_figures_54 : decode cX10_figures 54 = .ok (.invokestatic 44, 3) := by decide +kernel
theorem dX10_figures_57 : decode cX10_figures 57 = .ok (.ifCond .eq 40, 3) := by decide +kernel
theorem dX10_figures_60 : decode cX10_figures 60 = .ok (.iload_n 2, 1) := by decide +kernel
theorem dX10_figures_61 : decode cX10_figures 61 = .ok (.ifCond .eq 7, 3) := by decide +kernel
theorem dX10_figures_64 : decode cX10_figures 64 = .ok (.iload_n 1, 1) := by decide +kernel
theorem dX10_figures_65 : decode cX10_figures 65 = .ok (.ifCond .le 32, 3) := by decide +kernel
theorem dX10_figures_68 : decode cX10_figures 68 = .ok (.bipush 10, 2) := by decide +kernel
theorem dX10_figures_70 : decode cX10_figures 70 = .ok (.iload_n 1, 1) := by decide +kernel
theorem dX10_figures_71 : decode cX10_figures 71 = .ok (.imul, 1) := by decide +kernel
theorem dX10_figures_72 : decode cX10_figures 72 = .ok (.aload_n 0, 1) := by decide +kernel
theorem dX10_figures_73 : decode cX10_figures 73 = .ok (.invokevirtual 64, 3) := by decide +kernel
theorem dX10_figures_76 : decode cX10_figures 76 = .ok (.iadd, 1) := by decide +kernel
theorem dX10_figures_77 : decode cX10_figures 77 = .ok (.bipush 48, 2) := by decide +kernel
theorem dX10_figures_79 : decode cX10_figures 79 = .ok (.isub, 1) := by decide +kernel
theorem dX10_figures_80 : decode cX10_figures 80 = .ok (.istore_n 1, 1) := by decide +kernel
theorem dX10_figures_81 : decode cX10_figures 81 = .ok (.aload_n 0, 1) := by decide +kernel
theorem dX10_figures_82 : decode cX10_figures 82 = .ok (.dup, 1) := by decide +kernel
theorem dX10_figures_83 : decode cX10_figures 83 = .ok (.getfield 54, 3) := by decide +kernel
theorem dX10_figures_86 : decode cX10_figures 86 = .ok (.iconst 1, 1) := by decide +kernel
theorem dX10_figures_87 : decode cX10_figures 87 = .ok (.iadd, 1) := by decide +kernel
theorem dX10_figures_88 : decode cX10_figures 88 = .ok (.putfield 54, 3) := by decide +kernel
theorem dX10_figures_91 : decode cX10_figures 91 = .ok (.iinc 2 1, 3) := by decide +kernel
theorem dX10_figures_94 : decode cX10_figures 94 = .ok (.goto (-60), 3) := by decide +kernel
theorem dX10_figures_97 : decode cX10_figures 97 = .ok (.iload_n 1, 1) := by decide +kernel
theorem dX10_figures_98 : decode cX10_figures 98 = .ok (.ireturn, 1) := by decide +kernel
def fX10_figures_B97 (x1 : Int) (μ : vr_M) : Option (Int × vr_M) :=
  some (x1, μ)
def fX10_figures_B68 (rc34 : Int → Int → vr_M → Option (Int × vr_M)) (x1 : Int) (x2 : Int) (μ : vr_M) : Option (Int × vr_M) :=
  (fX10_here  μ).bind (fun r1 => vr_gd (vr_R (((10 * x1) + r1.1) - 48)) (vr_gd (vr_R (x2 + 1)) (rc34 (((10 * x1) + r1.1) - 48) (x2 + 1) (vr_u r1.2 68 6 ((r1.2 68 6) + 1)))))
def fX10_figures_L34 : Nat → Int → Int → vr_M → Option (Int × vr_M)
  | 0, _, _, _ => none
  | n + 1, x1, x2, μ => if 2 ≤ x2 then fX10_figures_B97 x1 μ else vr_gd (vr_R (μ 68 8)) (if ¬ (μ 68 8) = 0 then fX10_figures_B97 x1 μ else (fX10_here  μ).bind (fun r5 => (fX10_in r5.1 48 57 r5.2).bind (fun r6 => if r6.1 = 0 then fX10_figures_B97 x1 r6.2 else if x2 = 0 then fX10_figures_B68 (fX10_figures_L34 n) x1 x2 r6.2 else if x1 ≤ 0 then fX10_figures_B97 x1 r6.2 else fX10_figures_B68 (fX10_figures_L34 n) x1 x2 r6.2)))
def fX10_figures_B27 (y1 : Int) (μ : vr_M) : Option (Int × vr_M) :=
  vr_gd (y1 = 0 ∨ y1 = 1) (fX10_figures_L34 9000 0 0 (vr_u μ 68 8 y1))
def fX10_figures_B22 (μ : vr_M) : Option (Int × vr_M) :=
  fX10_figures_B27 1 μ
def fX10_figures (μ : vr_M) : Option (Int × vr_M) :=
  vr_gd (vr_R (μ 68 8)) (if ¬ (μ 68 8) = 0 then fX10_figures_B22 μ else (fX10_here  μ).bind (fun r9 => (fX10_in r9.1 48 57 r9.2).bind (fun r10 => if ¬ r10.1 = 0 then fX10_figures_B27 0 r10.2 else fX10_figures_B22 r10.2)))
set_option maxRecDepth 100000 in
set_option maxHeartbeats 4000000 in
theorem ct_X10_figures (l : Launch) (G : vr_G) (μ : vr_M) : vr_CI l yX10_figures cX10_figures 3 (some .int) ({ frames := 1, cells := 0, slots := 0, locals := 22 } : Room) G [.ref (vr_ad G 68)] μ (fX10_figures μ) := by
  refine vr_start (own := RX10) (by decide) rfl (Nat.le_of_ble_eq_true rfl) (fun p e s m args below meth c C0 => ?_)
  show vr_J p l e _ s m args below meth c 3 0 0 G (vr_Z (vr_QI G) G args s below) 0 [(0, .ref (vr_ad G 68))] [] μ _
  have B97 : ∀ (x1 : Int) (h_x1 : vr_R x1) (μ : vr_M), vr_J p l e ({ frames := 1, cells := 0, slots := 0, locals := 22 } : Room) s m args below meth c 3 0 0 G (vr_Z (vr_QI G) G args s below) 97 [(1, .int (vr_I x1))] [] μ (fX10_figures_B97 x1 μ) := by
    intro x1 h_x1 μ
    unfold fX10_figures_B97
    refine jr_iload_n C0 0 dX10_figures_97 rfl rfl ?_
    exact jr_iret C0 h_x1 dX10_figures_98
  have L34 : ∀ (n : Nat) (x1 : Int) (h_x1 : vr_R x1) (x2 : Int) (h_x2 : vr_R x2) (μ : vr_M), vr_J p l e ({ frames := 1, cells := 0, slots := 0, locals := 22 } : Room) s m args below meth c 3 0 0 G (vr_Z (vr_QI G) G args s below) 34 [(0, .ref (vr_ad G 68)), (1, .int (vr_I x1)), (2, .int (vr_I x2))] [] μ (fX10_figures_L34 n x1 x2 μ) := by
    intro n34
    induction n34 with
    | zero => intros; exact jr_none
    | succ n34 ih34 =>
      have B68 : ∀ (x1 : Int) (h_x1 : vr_R x1) (x2 : Int) (h_x2 : vr_R x2) (μ : vr_M), vr_J p l e ({ frames := 1, cells := 0, slots := 0, locals := 22 } : Room) s m args below meth c 3 0 0 G (vr_Z (vr_QI G) G args s below) 68 [(0, .ref (vr_ad G 68)), (1, .int (vr_I x1)), (2, .int (vr_I x2))] [] μ (fX10_figures_B68 (fX10_figures_L34 n34) x1 x2 μ) := by
        intro x1 h_x1 x2 h_x2 μ
        unfold fX10_figures_B68
        refine jr_bipush C0 dX10_figures_68 rfl ?_
        refine jr_iload_n C0 1 dX10_figures_70 rfl rfl ?_
        refine jr_imul C0 dX10_figures_71 ?_
        refine jr_aload_n C0 0 dX10_figures_72 rfl rfl ?_
        refine jr_vI C0 (by decide) kd_68 (by decide) rfl (ct_X10_here l G  _) mi_X10_here wm_X10_64 ⟨Nat.le_of_ble_eq_true rfl, Nat.le_of_ble_eq_true rfl⟩ ⟨rfl, rfl⟩ (As := []) rfl (st := [.int (vr_I (10 * x1))]) rfl (Nat.le_of_ble_eq_true rfl) dX10_figures_73 (fun r1 hr1 => ?_)
        refine jr_iadd C0 dX10_figures_76 ?_
        refine jr_bipush C0 dX10_figures_77 rfl ?_
        refine jr_isub C0 dX10_figures_79 ?_
        refine jr_istore_n C0 dX10_figures_80 rfl (by decide) (lv' := [(1, .int (vr_I (((10 * x1) + r1.1) - 48))), (0, .ref (vr_ad G 68)), (2, .int (vr_I x2))]) rfl ?_
        refine jr_aload_n C0 1 dX10_figures_81 rfl rfl ?_
        refine jr_dup C0 rfl dX10_figures_82 ?_
        refine jr_geti C0 (by decide) kd_68 (by decide) rfl wx_X10 (i := 6) (by decide) wf_X10_54 rfl dX10_figures_83 ?_
        refine jr_iconst C0 dX10_figures_86 ?_
        refine jr_iadd C0 dX10_figures_87 ?_
        refine jr_puti C0 (by decide) kd_68 (by decide) rfl wx_X10 (i := 6) (by decide) wf_X10_54 rfl tyX10_ok nmX10 rfl rfl rfl dX10_figures_88 ?_
        refine jr_iinc C0 (q := 2) dX10_figures_91 rfl (by decide) (lv' := [(2, .int (vr_I (x2 + 1))), (1, .int (vr_I (((10 * x1) + r1.1) - 48))), (0, .ref (vr_ad G 68))]) rfl ?_
        refine jr_goto C0 dX10_figures_94 (tgt := 34) (by decide) ?_
        refine jr_gd (fun g2 => ?_)
        refine jr_gd (fun g3 => ?_)
        refine jr_sub [2, 1, 0] rfl ?_
        exact ih34 (((10 * x1) + r1.1) - 48) g2 (x2 + 1) g3 _
      intro x1 h_x1 x2 h_x2 μ
      rw [fX10_figures_L34.eq_2]
      refine jr_iload_n C0 2 dX10_figures_34 rfl rfl ?_
      refine jr_iconst C0 dX10_figures_35 ?_
      refine jr_icmp_ge C0 h_x2 (⟨by decide, by decide⟩) dX10_figures_36 (tgt := 97) (by decide) ?_ ?_
      · refine jr_sub [1] rfl ?_
        exact B97 x1 h_x1 _
      refine jr_aload_n C0 0 dX10_figures_39 rfl rfl ?_
      refine jr_geti C0 (by decide) kd_68 (by decide) rfl wx_X10 (i := 8) (by decide) wf_X10_60 rfl dX10_figures_40 ?_
      refine jr_gd (fun g4 => ?_)
      refine jr_if_ne C0 g4 dX10_figures_43 (tgt := 97) (by decide) ?_ ?_
      · refine jr_sub [1] rfl ?_
        exact B97 x1 h_x1 _
      refine jr_aload_n C0 0 dX10_figures_46 rfl rfl ?_
      refine jr_vI C0 (by decide) kd_68 (by decide) rfl (ct_X10_here l G  _) mi_X10_here wm_X10_64 ⟨Nat.le_of_ble_eq_true rfl, Nat.le_of_ble_eq_true rfl⟩ ⟨rfl, rfl⟩ (As := []) rfl (st := []) rfl (Nat.le_of_ble_eq_true rfl) dX10_figures_47 (fun r5 hr5 => ?_)
      refine jr_bipush C0 dX10_figures_50 rfl ?_
      refine jr_bipush C0 dX10_figures_52 rfl ?_
      refine jr_sI C0 (ct_X10_in l G r5.1 hr5 48 (⟨by decide, by decide⟩) 57 (⟨by decide, by decide⟩) _) mi_X10_in wm_X10_44 ⟨Nat.le_of_ble_eq_true rfl, Nat.le_of_ble_eq_true rfl⟩ ⟨rfl, rfl⟩ (As := [.int (vr_I r5.1), .int (vr_I 48), .int (vr_I 57)]) rfl (st := []) rfl (Nat.le_of_ble_eq_true rfl) dX10_figures_54 (fun r6 hr6 => ?_)
      refine jr_if_eq C0 hr6 dX10_figures_57 (tgt := 97) (by decide) ?_ ?_
      · refine jr_sub [1] rfl ?_
        exact B97 x1 h_x1 _
      refine jr_iload_n C0 2 dX10_figures_60 rfl rfl ?_
      refine jr_if_eq C0 h_x2 dX10_figures_61 (tgt := 68) (by decide) ?_ ?_
      · exact B68 x1 h_x1 x2 h_x2 _
      refine jr_iload_n C0 1 dX10_figures_64 rfl rfl ?_
      refine jr_if_le C0 h_x1 dX10_figures_65 (tgt := 97) (by decide) ?_ ?_
      · refine jr_sub [1] rfl ?_
        exact B97 x1 h_x1 _
      exact B68 x1 h_x1 x2 h_x2 _
  have B27 : ∀ (y1 : Int) (h_y1 : vr_R y1) (μ : vr_M), vr_J p l e ({ frames := 1, cells := 0, slots := 0, locals := 22 } : Room) s m args below meth c 3 0 0 G (vr_Z (vr_QI G) G args s below) 27 [(0, .ref (vr_ad G 68))] [.int (vr_I y1), .ref (vr_ad G 68)] μ (fX10_figures_B27 y1 μ) := by
    intro y1 h_y1 μ
    unfold fX10_figures_B27
    refine jr_gd (fun g7 => ?_)
    refine jr_puti C0 (by decide) kd_68 (by decide) rfl wx_X10 (i := 8) (by decide) wf_X10_60 rfl tyX10_ok nmX10 rfl (vr_nz g7) ((vr_fz .boolean (Or.inr rfl) (fun _ => g7)).2) dX10_figures_27 ?_
    refine jr_iconst C0 dX10_figures_30 ?_
    refine jr_istore_n C0 dX10_figures_31 rfl (by decide) (lv' := [(1, .int (vr_I 0)), (0, .ref (vr_ad G 68))]) rfl ?_
    refine jr_iconst C0 dX10_figures_32 ?_
    refine jr_istore_n C0 dX10_figures_33 rfl (by decide) (lv' := [(2, .int (vr_I 0)), (1, .int (vr_I 0)), (0, .ref (vr_ad G 68))]) rfl ?_
    refine jr_sub [2, 1, 0] rfl ?_
    exact L34 9000 0 (⟨by decide, by decide⟩) 0 (⟨by decide, by decide⟩) _
  have B22 : ∀ (μ : vr_M), vr_J p l e ({ frames := 1, cells := 0, slots := 0, locals := 22 } : Room) s m args below meth c 3 0 0 G (vr_Z (vr_QI G) G args s below) 22 [(0, .ref (vr_ad G 68))] [.ref (vr_ad G 68)] μ (fX10_figures_B22 μ) := by
    intro μ
    unfold fX10_figures_B22
    refine jr_iconst C0 dX10_figures_22 ?_
    refine jr_goto C0 dX10_figures_23 (tgt := 27) (by decide) ?_
    exact B27 1 (⟨by decide, by decide⟩) _
  unfold fX10_figures
  refine jr_aload_n C0 0 dX10_figures_0 rfl rfl ?_
  refine jr_aload_n C0 0 dX10_figures_1 rfl rfl ?_
  refine jr_geti C0 (by decide) kd_68 (by decide) rfl wx_X10 (i := 8) (by decide) wf_X10_60 rfl dX10_figures_2 ?_
  refine jr_gd (fun g8 => ?_)
  refine jr_if_ne C0 g8 dX10_figures_5 (tgt := 22) (by decide) ?_ ?_
  · exact B22 _
  refine jr_aload_n C0 0 dX10_figures_8 rfl rfl ?_
  refine jr_vI C0 (by decide) kd_68 (by decide) rfl (ct_X10_here l G  _) mi_X10_here wm_X10_64 ⟨Nat.le_of_ble_eq_true rfl, Nat.le_of_ble_eq_true rfl⟩ ⟨rfl, rfl⟩ (As := []) rfl (st := [.ref (vr_ad G 68)]) rfl (Nat.le_of_ble_eq_true rfl) dX10_figures_9 (fun r9 hr9 => ?_)
  refine jr_bipush C0 dX10_figures_12 rfl ?_
  refine jr_bipush C0 dX10_figures_14 rfl ?_
  refine jr_sI C0 (ct_X10_in l G r9.1 hr9 48 (⟨by decide, by decide⟩) 57 (⟨by decide, by decide⟩) _) mi_X10_in wm_X10_44 ⟨Nat.le_of_ble_eq_true rfl, Nat.le_of_ble_eq_true rfl⟩ ⟨rfl, rfl⟩ (As := [.int (vr_I r9.1), .int (vr_I 48), .int (vr_I 57)]) rfl (st := [.ref (vr_ad G 68)]) rfl (Nat.le_of_ble_eq_true rfl) dX10_figures_16 (fun r10 hr10 => ?_)
  refine jr_if_ne C0 hr10 dX10_figures_19 (tgt := 26) (by decide) ?_ ?_
  · refine jr_iconst C0 dX10_figures_26 ?_
    exact B27 0 (⟨by decide, by decide⟩) _
  exact B22 _
theorem dX10_among_0 : decode cX10_among 0 = .ok (.iconst 0, 1) := by decide +kernel
theorem dX10_among_1 : decode cX10_among 1 = .ok (.istore_n 2, 1) := by decide +kernel
theorem dX10_among_2 : decode cX10_among 2 = .ok (.iload_n 2, 1) := by decide +kernel
theorem dX10_among_3 : decode cX10_among 3 = .ok (.aload_n 1, 1) := by decide +kernel
theorem dX10_among_4 : decode cX10_among 4 = .ok (.invokevirtual 68, 3) := by decide +kernel
theorem dX10_among_7 : decode cX10_among 7 = .ok (.if_icmp .ge 33, 3) := by decide +kernel
theorem dX10_among_10 : decode cX10_among 10 = .ok (.aload_n 0, 1) := by decide +kernel
theorem dX10_among_11 : decode cX10_among 11 = .ok (.invokevirtual 64, 3) := by decide +kernel
theorem dX10_among_14 : decode cX10_among 14 = .ok (.aload_n 1, 1) := by decide +kernel
theorem dX10_among_15 : decode cX10_among 15 = .ok (.iload_n 2, 1) := by decide +kernel
theorem dX10_among_16 : decode cX10_among 16 = .ok (.invokevirtual 73, 3) := by decide +kernel
theorem dX10_among_19 : decode cX10_among 19 = .ok (.if_icmp .ne 15, 3) := by decide +kernel
theorem dX10_among_22 : decode cX10_among 22 = .ok (.aload_n 0, 1) := by decide +kernel
theorem dX10_among_23 : decode cX10_among 23 = .ok (.dup, 1) := by decide +kernel
theorem dX10_among_24 : decode cX10_among 24 = .ok (.getfield 54, 3) := by decide +kernel
theorem dX10_among_27 : decode cX10_among 27 = .ok (.iconst 1, 1) := by decide +kernel
theorem dX10_among_28 : decode cX10_among 28 = .ok (.iadd, 1) := by decide +kernel
theorem dX10_among_29 : decode cX10_among 29 = .ok (.putfield 54, 3) := by decide +kernel
theorem dX10_among_32 : decode cX10_among 32 = .ok (.iload_n 2, 1) := by decide +kernel
theorem dX10_among_33 : decode cX10_among 33 = .ok (.ireturn, 1) := by decide +kernel
theorem dX10_among_34 : decode cX10_among 34 = .ok (.iinc 2 1, 3) := by decide +kernel
theorem dX10_among_37 : decode cX10_among 37 = .ok (.goto (-35), 3) := by decide +kernel
theorem dX10_among_40 : decode cX10_among 40 = .ok (.iconst (-1), 1) := by decide +kernel
theorem dX10_among_41 : decode cX10_among 41 = .ok (.ireturn, 1) := by decide +kernel
def fX10_among_L2 (s1 : Nat) : Nat → Int → vr_M → Option (Int × vr_M)
  | 0, _, _ => none
  | n + 1, x2, μ => (fJ0_length_8abf5 s1 μ).bind (fun r1 => if r1.1 ≤ x2 then some ((-1), r1.2) else (fX10_here  r1.2).bind (fun r2 => (fJ0_charAt_5068e s1 x2 r2.2).bind (fun r3 => if ¬ r2.1 = r3.1 then vr_gd (vr_R (x2 + 1)) ((fX10_among_L2 s1 n) (x2 + 1) r3.2) else some (x2, vr_u r3.2 68 6 ((r3.2 68 6) + 1)))))
def fX10_among (s1 : Nat) (μ : vr_M) : Option (Int × vr_M) :=
  fX10_among_L2 s1 9000 0 μ
set_option maxRecDepth 100000 in
set_option maxHeartbeats 4000000 in
theorem ct_X10_among (l : Launch) (G : vr_G) {s1 : Nat} (hi_s1 : s1 < 17) (μ : vr_M) : vr_CI l yX10_among cX10_among 3 (some .int) ({ frames := 4, cells := 0, slots := 0, locals := 85 } : Room) G [.ref (vr_ad G 68), .ref (vr_ak G s1)] μ (fX10_among s1 μ) := by
  refine vr_start (own := RX10) (by decide) rfl (Nat.le_of_ble_eq_true rfl) (fun p e s m args below meth c C0 => ?_)
  show vr_J p l e _ s m args below meth c 3 0 0 G (vr_Z (vr_QI G) G args s below) 0 [(0, .ref (vr_ad G 68)), (1, .ref (vr_ak G s1))] [] μ _
  have L2 : ∀ (n : Nat) (x2 : Int) (h_x2 : vr_R x2) (μ : vr_M), vr_J p l e ({ frames := 4, cells := 0, slots := 0, locals := 85 } : Room) s m args below meth c 3 0 0 G (vr_Z (vr_QI G) G args s below) 2 [(0, .ref (vr_ad G 68)), (1, .ref (vr_ak G s1)), (2, .int (vr_I x2))] [] μ (fX10_among_L2 s1 n x2 μ) := by
    intro n2
    induction n2 with
    | zero => intros; exact jr_none
    | succ n2 ih2 =>
      intro x2 h_x2 μ
      rw [fX10_among_L2.eq_2]
      refine jr_iload_n C0 2 dX10_among_2 rfl rfl ?_
      refine jr_aload_n C0 1 dX10_among_3 rfl rfl ?_
      refine jr_strI C0 hi_s1 (ct_J0_length_8abf5 l G hi_s1 _) mi_J0_length_8abf5 wm_X10_68 ⟨Nat.le_of_ble_eq_true rfl, Nat.le_of_ble_eq_true rfl⟩ ⟨rfl, rfl⟩ (As := []) rfl (st := [.int (vr_I x2)]) rfl (Nat.le_of_ble_eq_true rfl) dX10_among_4 (fun r1 hr1 => ?_)
      refine jr_icmp_ge C0 h_x2 hr1 dX10_among_7 (tgt := 40) (by decide) ?_ ?_
      · refine jr_iconst C0 dX10_among_40 ?_
        exact jr_iret C0 (⟨by decide, by decide⟩) dX10_among_41
      refine jr_aload_n C0 0 dX10_among_10 rfl rfl ?_
      refine jr_vI C0 (by decide) kd_68 (by decide) rfl (ct_X10_here l G  _) mi_X10_here wm_X10_64 ⟨Nat.le_of_ble_eq_true rfl, Nat.le_of_ble_eq_true rfl⟩ ⟨rfl, rfl⟩ (As := []) rfl (st := []) rfl (Nat.le_of_ble_eq_true rfl) dX10_among_11 (fun r2 hr2 => ?_)
      refine jr_aload_n C0 1 dX10_among_14 rfl rfl ?_
      refine jr_iload_n C0 2 dX10_among_15 rfl rfl ?_
      refine jr_strI C0 hi_s1 (ct_J0_charAt_5068e l G hi_s1 x2 h_x2 _) mi_J0_charAt_5068e wm_X10_73 ⟨Nat.le_of_ble_eq_true rfl, Nat.le_of_ble_eq_true rfl⟩ ⟨rfl, rfl⟩ (As := [.int (vr_I x2)]) rfl (st := [.int (vr_I r2.1)]) rfl (Nat.le_of_ble_eq_true rfl) dX10_among_16 (fun r3 hr3 => ?_)
      refine jr_icmp_ne C0 hr2 hr3 dX10_among_19 (tgt := 34) (by decide) ?_ ?_
      · refine jr_iinc C0 (q := 2) dX10_among_34 rfl (by decide) (lv' := [(2, .int (vr_I (x2 + 1))), (0, .ref (vr_ad G 68)), (1, .ref (vr_ak G s1))]) rfl ?_
        refine jr_goto C0 dX10_among_37 (tgt := 2) (by decide) ?_
        refine jr_gd (fun g4 => ?_)
        refine jr_sub [1, 2, 0] rfl ?_
        exact ih2 (x2 + 1) g4 _
      refine jr_aload_n C0 0 dX10_among_22 rfl rfl ?_
      refine jr_dup C0 rfl dX10_among_23 ?_
      refine jr_geti C0 (by decide) kd_68 (by decide) rfl wx_X10 (i := 6) (by decide) wf_X10_54 rfl dX10_among_24 ?_
      refine jr_iconst C0 dX10_among_27 ?_
      refine jr_iadd C0 dX10_among_28 ?_
      refine jr_puti C0 (by decide) kd_68 (by decide) rfl wx_X10 (i := 6) (by decide) wf_X10_54 rfl tyX10_ok nmX10 rfl rfl rfl dX10_among_29 ?_
      refine jr_iload_n C0 2 dX10_among_32 rfl rfl ?_
      exact jr_iret C0 h_x2 dX10_among_33
  unfold fX10_among
  refine jr_iconst C0 dX10_among_0 ?_
  refine jr_istore_n C0 dX10_among_1 rfl (by decide) (lv' := [(2, .int (vr_I 0)), (0, .ref (vr_ad G 68)), (1, .ref (vr_ak G s1))]) rfl ?_
  refine jr_sub [1, 2, 0] rfl ?_
  exact L2 9000 0 (⟨by decide, by decide⟩) _
theorem dX10_emits_0 : decode cX10_emits 0 = .ok (.aload_n 0, 1) := by decide +kernel
theorem dX10_emits_1 : decode cX10_emits 1 = .ok (.getfield 60, 3) := by decide +kernel
theorem dX10_emits_4 : decode cX10_emits 4 = .ok (.ifCond .ne 52, 3) := by decide +kernel
theorem dX10_emits_7 : decode cX10_emits 7 = .ok (.aload_n 0, 1) := by decide +kernel
theorem dX10_emits_8 : decode cX10_emits 8 = .ok (.getfield 9, 3) := by decide +kernel
theorem dX10_emits_11 : decode cX10_emits 11 = .ok (.sipush 233, 3) := by decide +kernel
theorem dX10_emits_14 : decode cX10_emits 14 = .ok (.sipush 140, 3) := by decide +kernel
theorem dX10_emits_17 : decode cX10_emits 17 = .ok (.aload_n 0, 1) := by decide +kernel
theorem dX10_emits_18 : decode cX10_emits 18 = .ok (.getfield 81, 3) := by decide +kernel
theorem dX10_emits_21 : decode cX10_emits 21 = .ok (.imul, 1) := by decide +kernel
theorem dX10_emits_22 : decode cX10_emits 22 = .ok (.iadd, 1) := by decide +kernel
theorem dX10_emits_23 : decode cX10_emits 23 = .ok (.aload_n 0, 1) := by decide +kernel
theorem dX10_emits_24 : decode cX10_emits 24 = .ok (.getfield 9, 3) := by decide +kernel
theorem dX10_emits_27 : decode cX10_emits 27 = .ok (.sipush 228, 3) := by decide +kernel
theorem dX10_emits_30 : decode cX10_emits 30 = .ok (.aload_n 0, 1) := by decide +kernel
theorem dX10_emits_31 : decode cX10_emits 31 = .ok (.getfield 81, 3) := by decide +kernel
theorem dX10_emits_34 : decode cX10_emits 34 = .ok (.iadd, 1) := by decide +kernel
theorem dX10_emits_35 : decode cX10_emits 35 = .ok (.iaload, 1) := by decide +kernel
theorem dX10_emits_36 : decode cX10_emits 36 = .ok (.iadd, 1) := by decide +kernel
theorem dX10_emits_37 : decode cX10_emits 37 = .ok (.iload_n 1, 1) := by decide +kernel
theorem dX10_emits_38 : decode cX10_emits 38 = .ok (.iastore, 1) := by decide +kernel
theorem dX10_emits_39 : decode cX10_emits 39 = .ok (.aload_n 0, 1) := by decide +kernel
theorem dX10_emits_40 : decode cX10_emits 40 = .ok (.getfield 9, 3) := by decide +kernel
theorem dX10_emits_43 : decode cX10_emits 43 = .ok (.sipush 228, 3) := by decide +kernel
theorem dX10_emits_46 : decode cX10_emits 46 = .ok (.aload_n 0, 1) := by decide +kernel
theorem dX10_emits_47 : decode cX10_emits 47 = .ok (.getfield 81, 3) := by decide +kernel
theorem dX10_emits_50 : decode cX10_emits 50 = .ok (.iadd, 1) := by decide +kernel
theorem dX10_emits_51 : decode cX10_emits 51 = .ok (.dup2, 1) := by decide +kernel
theorem dX10_emits_52 : decode cX10_emits 52 = .ok (.iaload, 1) := by decide +kernel
theorem dX10_emits_53 : decode cX10_emits 53 = .ok (.iconst 1, 1) := by decide +kernel
theorem dX10_emits_54 : decode cX10_emits 54 = .ok (.iadd, 1) := by decide +kernel
theorem dX10_emits_55 : decode cX10_emits 55 = .ok (.iastore, 1) := by decide +kernel
theorem dX10_emits_56 : decode cX10_emits 56 = .ok (.return_, 1) := by decide +kernel
def fX10_emits_B56 (μ : vr_M) : Option (Int × vr_M) :=
  some (0, μ)
def fX10_emits (a0 : Int) (μ : vr_M) : Option (Int × vr_M) :=
  vr_gd (vr_R (μ 68 8)) (if ¬ (μ 68 8) = 0 then fX10_emits_B56 μ else vr_gd (0 ≤ (228 + (μ 68 5)) ∧ (228 + (μ 68 5)) < 933) (vr_gd (0 ≤ ((233 + (140 * (μ 68 5))) + (μ 69 (228 + (μ 68 5)).toNat)) ∧ ((233 + (140 * (μ 68 5))) + (μ 69 (228 + (μ 68 5)).toNat)) < 933) (vr_let (vr_u μ 69 ((233 + (140 * (μ 68 5))) + (μ 69 (228 + (μ 68 5)).toNat)).toNat a0) (fun μ4 => vr_gd (0 ≤ (228 + (μ4 68 5)) ∧ (228 + (μ4 68 5)) < 933) (fX10_emits_B56 (vr_u μ4 69 (228 + (μ4 68 5)).toNat ((μ4 69 (228 + (μ4 68 5)).toNat) + 1)))))))
set_option maxRecDepth 100000 in
set_option maxHeartbeats 4000000 in
theorem ct_X10_emits (l : Launch) (G : vr_G) (a0 : Int) (h_a0 : vr_R a0) (μ : vr_M) : vr_CV l yX10_emits cX10_emits 2 none ({ frames := 0, cells := 0, slots := 0, locals := 0 } : Room) G [.ref (vr_ad G 68), .int (vr_I a0)] μ (fX10_emits a0 μ) := by
  refine vr_start (own := RX10) (by decide) rfl (Nat.le_of_ble_eq_true rfl) (fun p e s m args below meth c C0 => ?_)
  show vr_J p l e _ s m args below meth c 2 0 0 G (vr_Z (vr_QV G) G args s below) 0 [(0, .ref (vr_ad G 68)), (1, .int (vr_I a0))] [] μ _
  have B56 : ∀ (μ : vr_M), vr_J p l e ({ frames := 0, cells := 0, slots := 0, locals := 0 } : Room) s m args below meth c 2 0 0 G (vr_Z (vr_QV G) G args s below) 56 [] [] μ (fX10_emits_B56 μ) := by
    intro μ
    unfold fX10_emits_B56
    exact jr_vret C0 dX10_emits_56
  unfold fX10_emits
  refine jr_aload_n C0 0 dX10_emits_0 rfl rfl ?_
  refine jr_geti C0 (by decide) kd_68 (by decide) rfl wx_X10 (i := 8) (by decide) wf_X10_60 rfl dX10_emits_1 ?_
  refine jr_gd (fun g1 => ?_)
  refine jr_if_ne C0 g1 dX10_emits_4 (tgt := 56) (by decide) ?_ ?_
  · refine jr_sub [] rfl ?_
    exact B56 _
  refine jr_aload_n C0 0 dX10_emits_7 rfl rfl ?_
  refine jr_getr C0 (by decide) kd_68 (by decide) rfl wx_X10 (i := 1) (by decide) wf_X10_9 (j := 69) rfl dX10_emits_8 ?_
  refine jr_sipush C0 dX10_emits_11 rfl ?_
  refine jr_sipush C0 dX10_emits_14 rfl ?_
  refine jr_aload_n C0 0 dX10_emits_17 rfl rfl ?_
  refine jr_geti C0 (by decide) kd_68 (by decide) rfl wx_X10 (i := 5) (by decide) wf_X10_81 rfl dX10_emits_18 ?_
  refine jr_imul C0 dX10_emits_21 ?_
  refine jr_iadd C0 dX10_emits_22 ?_
  refine jr_aload_n C0 0 dX10_emits_23 rfl rfl ?_
  refine jr_getr C0 (by decide) kd_68 (by decide) rfl wx_X10 (i := 1) (by decide) wf_X10_9 (j := 69) rfl dX10_emits_24 ?_
  refine jr_sipush C0 dX10_emits_27 rfl ?_
  refine jr_aload_n C0 0 dX10_emits_30 rfl rfl ?_
  refine jr_geti C0 (by decide) kd_68 (by decide) rfl wx_X10 (i := 5) (by decide) wf_X10_81 rfl dX10_emits_31 ?_
  refine jr_iadd C0 dX10_emits_34 ?_
  refine jr_gd (fun g2 => ?_)
  refine jr_iald C0 (by decide) kd_69 kl_69 g2 (j := (228 + (μ 68 5)).toNat) rfl dX10_emits_35 ?_
  refine jr_iadd C0 dX10_emits_36 ?_
  refine jr_iload_n C0 1 dX10_emits_37 rfl rfl ?_
  refine jr_gd (fun g3 => ?_)
  refine jr_iast C0 (by decide) kd_69 kl_69 g3 (j := ((233 + (140 * (μ 68 5))) + (μ 69 (228 + (μ 68 5)).toNat)).toNat) rfl dX10_emits_38 ?_
  refine jr_aload_n C0 0 dX10_emits_39 rfl rfl ?_
  refine jr_getr C0 (by decide) kd_68 (by decide) rfl wx_X10 (i := 1) (by decide) wf_X10_9 (j := 69) rfl dX10_emits_40 ?_
  refine jr_sipush C0 dX10_emits_43 rfl ?_
  refine jr_aload_n C0 0 dX10_emits_46 rfl rfl ?_
  refine jr_let (fun μ4 => ?_)
  refine jr_geti C0 (by decide) kd_68 (by decide) rfl wx_X10 (i := 5) (by decide) wf_X10_81 rfl dX10_emits_47 ?_
  refine jr_iadd C0 dX10_emits_50 ?_
  refine jr_dup2 C0 rfl rfl dX10_emits_51 ?_
  refine jr_gd (fun g5 => ?_)
  refine jr_iald C0 (by decide) kd_69 kl_69 g5 (j := (228 + (μ4 68 5)).toNat) rfl dX10_emits_52 ?_
  refine jr_iconst C0 dX10_emits_53 ?_
  refine jr_iadd C0 dX10_emits_54 ?_
  refine jr_iast C0 (by decide) kd_69 kl_69 g5 (j := (228 + (μ4 68 5)).toNat) rfl dX10_emits_55 ?_
  refine jr_sub [] rfl ?_
  exact B56 _
theorem dX10_every_0 : decode cX10_every 0 = .ok (.aload_n 0, 1) := by decide +kernel
theorem dX10_every_1 : decode cX10_every 1 = .ok (.invokevirtual 87, 3) := by decide +kernel
theorem dX10_every_4 : decode cX10_every 4 = .ok (.aload_n 0, 1) := by decide +kernel
theorem dX10_every_5 : decode cX10_every 5 = .ok (.getfield 60, 3) := by decide +kernel
theorem dX10_every_8 : decode cX10_every 8 = .ok (.ifCond .ne 35, 3) := by decide +kernel
theorem dX10_every_11 : decode cX10_every 11 = .ok (.aload_n 0, 1) := by decide +kernel
theorem dX10_every_12 : decode cX10_every 12 = .ok (.invokevirtual 64, 3) := by decide +kernel
theorem dX10_every_15 : decode cX10_every 15 = .ok (.bipush 38, 2) := by decide +kernel
theorem dX10_every_17 : decode cX10_every 17 = .ok (.if_icmp .ne 26, 3) := by decide +kernel
theorem dX10_every_20 : decode cX10_every 20 = .ok (.aload_n 0, 1) := by decide +kernel
theorem dX10_every_21 : decode cX10_every 21 = .ok (.dup, 1) := by decide +kernel
theorem dX10_every_22 : decode cX10_every 22 = .ok (.getfield 54, 3) := by decide +kernel
theorem dX10_every_25 : decode cX10_every 25 = .ok (.iconst 1, 1) := by decide +kernel
theorem dX10_every_26 : decode cX10_every 26 = .ok (.iadd, 1) := by decide +kernel
theorem dX10_every_27 : decode cX10_every 27 = .ok (.putfield 54, 3) := by decide +kernel
theorem dX10_every_30 : decode cX10_every 30 = .ok (.aload_n 0, 1) := by decide +kernel
theorem dX10_every_31 : decode cX10_every 31 = .ok (.invokevirtual 87, 3) := by decide +kernel
theorem dX10_every_34 : decode cX10_every 34 = .ok (.aload_n 0, 1) := by decide +kernel
theorem dX10_every_35 : decode cX10_every 35 = .ok (.bipush (-2), 2) := by decide +kernel
theorem dX10_every_37 : decode cX10_every 37 = .ok (.invokevirtual 90, 3) := by decide +kernel
theorem dX10_every_40 : decode cX10_every 40 = .ok (.goto (-36), 3) := by decide +kernel
theorem dX10_every_43 : decode cX10_every 43 = .ok (.return_, 1) := by decide +kernel
def fX10_every_B43 (rc : vr_M → Option (Int × vr_M)) (μ : vr_M) : Option (Int × vr_M) :=
  some (0, μ)
def fX10_every_L4 (rc : vr_M → Option (Int × vr_M)) : Nat → vr_M → Option (Int × vr_M)
  | 0, _ => none
  | n + 1, μ => vr_gd (vr_R (μ 68 8)) (if ¬ (μ 68 8) = 0 then fX10_every_B43 rc μ else (fX10_here  μ).bind (fun r2 => if ¬ r2.1 = 38 then fX10_every_B43 rc r2.2 else (rc  (vr_u r2.2 68 6 ((r2.2 68 6) + 1))).bind (fun r3 => (fX10_emits (-2) r3.2).bind (fun r4 => (fX10_every_L4 rc n) r4.2))))
def fX10_every (rc : vr_M → Option (Int × vr_M)) (μ : vr_M) : Option (Int × vr_M) :=
  (rc  μ).bind (fun r5 => fX10_every_L4 rc 9000 r5.2)
set_option maxRecDepth 100000 in
set_option maxHeartbeats 4000000 in
theorem ct_X10_every (l : Launch) (G : vr_G) {d : Nat} {rc : vr_M → Option (Int × vr_M)} (hrc : ∀ (μ : vr_M), vr_CV l yX10_factor cX10_factor 5 none ({ frames := 4 * d + 12, cells := 0, slots := 0, locals := 140 * d + 400 } : Room) G [.ref (vr_ad G 68)] μ (rc μ)) (μ : vr_M) : vr_CV l yX10_every cX10_every 1 none ({ frames := 4 * d + 13, cells := 0, slots := 0, locals := 140 * d + 430 } : Room) G [.ref (vr_ad G 68)] μ (fX10_every rc μ) := by
  refine vr_start (own := RX10) (by decide) rfl (Nat.le_of_ble_eq_true rfl) (fun p e s m args below meth c C0 => ?_)
  show vr_J p l e _ s m args below meth c 1 0 0 G (vr_Z (vr_QV G) G args s below) 0 [(0, .ref (vr_ad G 68))] [] μ _
  have B43 : ∀ (μ : vr_M), vr_J p l e ({ frames := 4 * d + 13, cells := 0, slots := 0, locals := 140 * d + 430 } : Room) s m args below meth c 1 0 0 G (vr_Z (vr_QV G) G args s below) 43 [] [] μ (fX10_every_B43 rc μ) := by
    intro μ
    unfold fX10_every_B43
    exact jr_vret C0 dX10_every_43
  have L4 : ∀ (n : Nat) (μ : vr_M), vr_J p l e ({ frames := 4 * d + 13, cells := 0, slots := 0, locals := 140 * d + 430 } : Room) s m args below meth c 1 0 0 G (vr_Z (vr_QV G) G args s below) 4 [(0, .ref (vr_ad G 68))] [] μ (fX10_every_L4 rc n μ) := by
    intro n4
    induction n4 with
    | zero => intros; exact jr_none
    | succ n4 ih4 =>
      intro μ
      rw [fX10_every_L4.eq_2]
      refine jr_aload_n C0 0 dX10_every_4 rfl rfl ?_
      refine jr_geti C0 (by decide) kd_68 (by decide) rfl wx_X10 (i := 8) (by decide) wf_X10_60 rfl dX10_every_5 ?_
      refine jr_gd (fun g1 => ?_)
      refine jr_if_ne C0 g1 dX10_every_8 (tgt := 43) (by decide) ?_ ?_
      · refine jr_sub [] rfl ?_
        exact B43 _
      refine jr_aload_n C0 0 dX10_every_11 rfl rfl ?_
      refine jr_vI C0 (by decide) kd_68 (by decide) rfl (ct_X10_here l G  _) mi_X10_here wm_X10_64 ⟨by dsimp only; omega, by dsimp only; omega⟩ ⟨rfl, rfl⟩ (As := []) rfl (st := []) rfl (Nat.le_of_ble_eq_true rfl) dX10_every_12 (fun r2 hr2 => ?_)
      refine jr_bipush C0 dX10_every_15 rfl ?_
      refine jr_icmp_ne C0 hr2 (⟨by decide, by decide⟩) dX10_every_17 (tgt := 43) (by decide) ?_ ?_
      · refine jr_sub [] rfl ?_
        exact B43 _
      refine jr_aload_n C0 0 dX10_every_20 rfl rfl ?_
      refine jr_dup C0 rfl dX10_every_21 ?_
      refine jr_geti C0 (by decide) kd_68 (by decide) rfl wx_X10 (i := 6) (by decide) wf_X10_54 rfl dX10_every_22 ?_
      refine jr_iconst C0 dX10_every_25 ?_
      refine jr_iadd C0 dX10_every_26 ?_
      refine jr_puti C0 (by decide) kd_68 (by decide) rfl wx_X10 (i := 6) (by decide) wf_X10_54 rfl tyX10_ok nmX10 rfl rfl rfl dX10_every_27 ?_
      refine jr_aload_n C0 0 dX10_every_30 rfl rfl ?_
      refine jr_vV0 C0 (by decide) kd_68 (by decide) rfl (hrc  _) mi_X10_factor wm_X10_87 ⟨by dsimp only; omega, by dsimp only; omega⟩ ⟨rfl, rfl⟩ (As := []) rfl (st := []) rfl (Nat.le_of_ble_eq_true rfl) dX10_every_31 (fun r3 => ?_)
      refine jr_aload_n C0 0 dX10_every_34 rfl rfl ?_
      refine jr_bipush C0 dX10_every_35 rfl ?_
      refine jr_vV0 C0 (by decide) kd_68 (by decide) rfl (ct_X10_emits l G (-2) (⟨by decide, by decide⟩) _) mi_X10_emits wm_X10_90 ⟨by dsimp only; omega, by dsimp only; omega⟩ ⟨rfl, rfl⟩ (As := [.int (vr_I (-2))]) rfl (st := []) rfl (Nat.le_of_ble_eq_true rfl) dX10_every_37 (fun r4 => ?_)
      refine jr_goto C0 dX10_every_40 (tgt := 4) (by decide) ?_
      exact ih4 _
  unfold fX10_every
  refine jr_aload_n C0 0 dX10_every_0 rfl rfl ?_
  refine jr_vV0 C0 (by decide) kd_68 (by decide) rfl (hrc  _) mi_X10_factor wm_X10_87 ⟨by dsimp only; omega, by dsimp only; omega⟩ ⟨rfl, rfl⟩ (As := []) rfl (st := []) rfl (Nat.le_of_ble_eq_true rfl) dX10_every_1 (fun r5 => ?_)
  exact L4 9000 _
theorem dX10_some_0 : decode cX10_some 0 = .ok (.aload_n 0, 1) := by decide +kernel
theorem dX10_some_1 : decode cX10_some 1 = .ok (.invokevirtual 107, 3) := by decide +kernel
theorem dX10_some_4 : decode cX10_some 4 = .ok (.aload_n 0, 1) := by decide +kernel
theorem dX10_some_5 : decode cX10_some 5 = .ok (.getfield 60, 3) := by decide +kernel
theorem dX10_some_8 : decode cX10_some 8 = .ok (.ifCond .ne 35, 3) := by decide +kernel
theorem dX10_some_11 : decode cX10_some 11 = .ok (.aload_n 0, 1) := by decide +kernel
theorem dX10_some_12 : decode cX10_some 12 = .ok (.invokevirtual 64, 3) := by decide +kernel
theorem dX10_some_15 : decode cX10_some 15 = .ok (.bipush 124, 2) := by decide +kernel
theorem dX10_some_17 : decode cX10_some 17 = .ok (.if_icmp .ne 26, 3) := by decide +kernel
theorem dX10_some_20 : decode cX10_some 20 = .ok (.aload_n 0, 1) := by decide +kernel
theorem dX10_some_21 : decode cX10_some 21 = .ok (.dup, 1) := by decide +kernel
theorem dX10_some_22 : decode cX10_some 22 = .ok (.getfield 54, 3) := by decide +kernel
theorem dX10_some_25 : decode cX10_some 25 = .ok (.iconst 1, 1) := by decide +kernel
theorem dX10_some_26 : decode cX10_some 26 = .ok (.iadd, 1) := by decide +kernel
theorem dX10_some_27 : decode cX10_some 27 = .ok (.putfield 54, 3) := by decide +kernel
theorem dX10_some_30 : decode cX10_some 30 = .ok (.aload_n 0, 1) := by decide +kernel
theorem dX10_some_31 : decode cX10_some 31 = .ok (.invokevirtual 107, 3) := by decide +kernel
theorem dX10_some_34 : decode cX10_some 34 = .ok (.aload_n 0, 1) := by decide +kernel
theorem dX10_some_35 : decode cX10_some 35 = .ok (.bipush (-3), 2) := by decide +kernel
theorem dX10_some_37 : decode cX10_some 37 = .ok (.invokevirtual 90, 3) := by decide +kernel
theorem dX10_some_40 : decode cX10_some 40 = .ok (.goto (-36), 3) := by decide +kernel
theorem dX10_some_43 : decode cX10_some 43 = .ok (.return_, 1) := by decide +kernel
def fX10_some_B43 (rc : vr_M → Option (Int × vr_M)) (μ : vr_M) : Option (Int × vr_M) :=
  some (0, μ)
def fX10_some_L4 (rc : vr_M → Option (Int × vr_M)) : Nat → vr_M → Option (Int × vr_M)
  | 0, _ => none
  | n + 1, μ => vr_gd (vr_R (μ 68 8)) (if ¬ (μ 68 8) = 0 then fX10_some_B43 rc μ else (fX10_here  μ).bind (fun r2 => if ¬ r2.1 = 124 then fX10_some_B43 rc r2.2 else (fX10_every rc (vr_u r2.2 68 6 ((r2.2 68 6) + 1))).bind (fun r3 => (fX10_emits (-3) r3.2).bind (fun r4 => (fX10_some_L4 rc n) r4.2))))
def fX10_some (rc : vr_M → Option (Int × vr_M)) (μ : vr_M) : Option (Int × vr_M) :=
  (fX10_every rc μ).bind (fun r5 => fX10_some_L4 rc 9000 r5.2)
set_option maxRecDepth 100000 in
set_option maxHeartbeats 4000000 in
theorem ct_X10_some (l : Launch) (G : vr_G) {d : Nat} {rc : vr_M → Option (Int × vr_M)} (hrc : ∀ (μ : vr_M), vr_CV l yX10_factor cX10_factor 5 none ({ frames := 4 * d + 12, cells := 0, slots := 0, locals := 140 * d + 400 } : Room) G [.ref (vr_ad G 68)] μ (rc μ)) (μ : vr_M) : vr_CV l yX10_some cX10_some 1 none ({ frames := 4 * d + 14, cells := 0, slots := 0, locals := 140 * d + 460 } : Room) G [.ref (vr_ad G 68)] μ (fX10_some rc μ) := by
  refine vr_start (own := RX10) (by decide) rfl (Nat.le_of_ble_eq_true rfl) (fun p e s m args below meth c C0 => ?_)
  show vr_J p l e _ s m args below meth c 1 0 0 G (vr_Z (vr_QV G) G args s below) 0 [(0, .ref (vr_ad G 68))] [] μ _
  have B43 : ∀ (μ : vr_M), vr_J p l e ({ frames := 4 * d + 14, cells := 0, slots := 0, locals := 140 * d + 460 } : Room) s m args below meth c 1 0 0 G (vr_Z (vr_QV G) G args s below) 43 [] [] μ (fX10_some_B43 rc μ) := by
    intro μ
    unfold fX10_some_B43
    exact jr_vret C0 dX10_some_43
  have L4 : ∀ (n : Nat) (μ : vr_M), vr_J p l e ({ frames := 4 * d + 14, cells := 0, slots := 0, locals := 140 * d + 460 } : Room) s m args below meth c 1 0 0 G (vr_Z (vr_QV G) G args s below) 4 [(0, .ref (vr_ad G 68))] [] μ (fX10_some_L4 rc n μ) := by
    intro n4
    induction n4 with
    | zero => intros; exact jr_none
    | succ n4 ih4 =>
      intro μ
      rw [fX10_some_L4.eq_2]
      refine jr_aload_n C0 0 dX10_some_4 rfl rfl ?_
      refine jr_geti C0 (by decide) kd_68 (by decide) rfl wx_X10 (i := 8) (by decide) wf_X10_60 rfl dX10_some_5 ?_
      refine jr_gd (fun g1 => ?_)
      refine jr_if_ne C0 g1 dX10_some_8 (tgt := 43) (by decide) ?_ ?_
      · refine jr_sub [] rfl ?_
        exact B43 _
      refine jr_aload_n C0 0 dX10_some_11 rfl rfl ?_
      refine jr_vI C0 (by decide) kd_68 (by decide) rfl (ct_X10_here l G  _) mi_X10_here wm_X10_64 ⟨by dsimp only; omega, by dsimp only; omega⟩ ⟨rfl, rfl⟩ (As := []) rfl (st := []) rfl (Nat.le_of_ble_eq_true rfl) dX10_some_12 (fun r2 hr2 => ?_)
      refine jr_bipush C0 dX10_some_15 rfl ?_
      refine jr_icmp_ne C0 hr2 (⟨by decide, by decide⟩) dX10_some_17 (tgt := 43) (by decide) ?_ ?_
      · refine jr_sub [] rfl ?_
        exact B43 _
      refine jr_aload_n C0 0 dX10_some_20 rfl rfl ?_
      refine jr_dup C0 rfl dX10_some_21 ?_
      refine jr_geti C0 (by decide) kd_68 (by decide) rfl wx_X10 (i := 6) (by decide) wf_X10_54 rfl dX10_some_22 ?_
      refine jr_iconst C0 dX10_some_25 ?_
      refine jr_iadd C0 dX10_some_26 ?_
      refine jr_puti C0 (by decide) kd_68 (by decide) rfl wx_X10 (i := 6) (by decide) wf_X10_54 rfl tyX10_ok nmX10 rfl rfl rfl dX10_some_27 ?_
      refine jr_aload_n C0 0 dX10_some_30 rfl rfl ?_
      refine jr_vV0 C0 (by decide) kd_68 (by decide) rfl (ct_X10_every l G hrc _) mi_X10_every wm_X10_107 ⟨by dsimp only; omega, by dsimp only; omega⟩ ⟨rfl, rfl⟩ (As := []) rfl (st := []) rfl (Nat.le_of_ble_eq_true rfl) dX10_some_31 (fun r3 => ?_)
      refine jr_aload_n C0 0 dX10_some_34 rfl rfl ?_
      refine jr_bipush C0 dX10_some_35 rfl ?_
      refine jr_vV0 C0 (by decide) kd_68 (by decide) rfl (ct_X10_emits l G (-3) (⟨by decide, by decide⟩) _) mi_X10_emits wm_X10_90 ⟨by dsimp only; omega, by dsimp only; omega⟩ ⟨rfl, rfl⟩ (As := [.int (vr_I (-3))]) rfl (st := []) rfl (Nat.le_of_ble_eq_true rfl) dX10_some_37 (fun r4 => ?_)
      refine jr_goto C0 dX10_some_40 (tgt := 4) (by decide) ?_
      exact ih4 _
  unfold fX10_some
  refine jr_aload_n C0 0 dX10_some_0 rfl rfl ?_
  refine jr_vV0 C0 (by decide) kd_68 (by decide) rfl (ct_X10_every l G hrc _) mi_X10_every wm_X10_107 ⟨by dsimp only; omega, by dsimp only; omega⟩ ⟨rfl, rfl⟩ (As := []) rfl (st := []) rfl (Nat.le_of_ble_eq_true rfl) dX10_some_1 (fun r5 => ?_)
  exact L4 9000 _
theorem dX10_factor_0 : decode cX10_factor 0 = .ok (.aload_n 0, 1) := by decide +kernel
theorem dX10_factor_1 : decode cX10_factor 1 = .ok (.getfield 60, 3) := by decide +kernel
theorem dX10_factor_4 : decode cX10_factor 4 = .ok (.ifCond .eq 4, 3) := by decide +kernel
theorem dX10_factor_7 : decode cX10_factor 7 = .ok (.return_, 1) := by decide +kernel
theorem dX10_factor_8 : decode cX10_factor 8 = .ok (.aload_n 0, 1) := by decide +kernel
theorem dX10_factor_9 : decode cX10_factor 9 = .ok (.invokevirtual 64, 3) := by decide +kernel
theorem dX10_factor_12 : decode cX10_factor 12 = .ok (.istore_n 1, 1) := by decide +kernel
theorem dX10_factor_13 : decode cX10_factor 13 = .ok (.iload_n 1, 1) := by decide +kernel
theorem dX10_factor_14 : decode cX10_factor 14 = .ok (.bipush 33, 2) := by decide +kernel
theorem dX10_factor_16 : decode cX10_factor 16 = .ok (.if_icmp .eq 9, 3) := by decide +kernel
theorem dX10_factor_19 : decode cX10_factor 19 = .ok (.iload_n 1, 1) := by decide +kernel
theorem dX10_factor_20 : decode cX10_factor 20 = .ok (.bipush 40, 2) := by decide +kernel
theorem dX10_factor_22 : decode cX10_factor 22 = .ok (.if_icmp .ne 90, 3) := by decide +kernel
theorem dX10_factor_25 : decode cX10_factor 25 = .ok (.aload_n 0, 1) := by decide +kernel
theorem dX10_factor_26 : decode cX10_factor 26 = .ok (.aload_n 0, 1) := by decide +kernel
theorem dX10_factor_27 : decode cX10_factor 27 = .ok (.getfield 84, 3) := by decide +kernel
theorem dX10_factor_30 : decode cX10_factor 30 = .ok (.iconst 5, 1) := by decide +kernel
theorem dX10_factor_31 : decode cX10_factor 31 = .ok (.if_icmp .ne 7, 3) := by decide +kernel
theorem dX10_factor_34 : decode cX10_factor 34 = .ok (.iconst 1, 1) := by decide +kernel
theorem dX10_factor_35 : decode cX10_factor 35 = .ok (.goto 4, 3) := by decide +kernel
theorem dX10_factor_38 : decode cX10_factor 38 = .ok (.iconst 0, 1) := by decide +kernel
theorem dX10_factor_39 : decode cX10_factor 39 = .ok (.putfield 60, 3) := by decide +kernel
theorem dX10_factor_42 : decode cX10_factor 42 = .ok (.aload_n 0, 1) := by decide +kernel
theorem dX10_factor_43 : decode cX10_factor 43 = .ok (.dup, 1) := by decide +kernel
theorem dX10_factor_44 : decode cX10_factor 44 = .ok (.getfield 84, 3) := by decide +kernel
theorem dX10_factor_47 : decode cX10_factor 47 = .ok (.iconst 1, 1) := by decide +kernel
theorem dX10_factor_48 : decode cX10_factor 48 = .ok (.iadd, 1) := by decide +kernel
theorem dX10_factor_49 : decode cX10_factor 49 = .ok (.putfield 84, 3) := by decide +kernel
theorem dX10_factor_52 : decode cX10_factor 52 = .ok (.aload_n 0, 1) := by decide +kernel
theorem dX10_factor_53 : decode cX10_factor 53 = .ok (.dup, 1) := by decide +kernel
theorem dX10_factor_54 : decode cX10_factor 54 = .ok (.getfield 54, 3) := by decide +kernel
theorem dX10_factor_57 : decode cX10_factor 57 = .ok (.aload_n 0, 1) := by decide +kernel
theorem dX10_factor_58 : decode cX10_factor 58 = .ok (.getfield 60, 3) := by decide +kernel
theorem dX10_factor_61 : decode cX10_factor 61 = .ok (.ifCond .eq 7, 3) := by decide +kernel
theorem dX10_factor_64 : decode cX10_factor 64 = .ok (.iconst 0, 1) := by decide +kernel
theorem dX10_factor_65 : decode cX10_factor 65 = .ok (.goto 4, 3) := by decide +kernel
theorem dX10_factor_68 : decode cX10_factor 68 = .ok (.iconst 1, 1) := by decide +kernel
theorem dX10_factor_69 : decode cX10_factor 69 = .ok (.iadd, 1) := by decide +kernel
theorem dX10_factor_70 : decode cX10_factor 70 = .ok (.putfield 54, 3) := by decide +kernel
theorem dX10_factor_73 : decode cX10_factor 73 = .ok (.iload_n 1, 1) := by decide +kernel
theorem dX10_factor_74 : decode cX10_factor 74 = .ok (.bipush 33, 2) := by decide +kernel
theorem dX10_factor_76 : decode cX10_factor 76 = .ok (.if_icmp .ne 15, 3) := by decide +kernel
theorem dX10_factor_79 : decode cX10_factor 79 = .ok (.aload_n 0, 1) := by decide +kernel
theorem dX10_factor_80 : decode cX10_factor 80 = .ok (.invokevirtual 87, 3) := by decide +kernel
theorem dX10_factor_83 : decode cX10_factor 83 = .ok (.aload_n 0, 1) := by decide +kernel
theorem dX10_factor_84 : decode cX10_factor 84 = .ok (.iconst (-1), 1) := by decide +kernel
theorem dX10_factor_85 : decode cX10_factor 85 = .ok (.invokevirtual 90, 3) := by decide +kernel
theorem dX10_factor_88 : decode cX10_factor 88 = .ok (.goto 13, 3) := by decide +kernel
theorem dX10_factor_91 : decode cX10_factor 91 = .ok (.aload_n 0, 1) := by decide +kernel
theorem dX10_factor_92 : decode cX10_factor 92 = .ok (.invokevirtual 93, 3) := by decide +kernel
theorem dX10_factor_95 : decode cX10_factor 95 = .ok (.aload_n 0, 1) := by decide +kernel
theorem dX10_factor_96 : decode cX10_factor 96 = .ok (.bipush 41, 2) := by decide +kernel
theorem dX10_factor_98 : decode cX10_factor 98 = .ok (.invokevirtual 77, 3) := by decide +kernel
theorem dX10_factor_101 : decode cX10_factor 101 = .ok (.aload_n 0, 1) := by decide +kernel
theorem dX10_factor_102 : decode cX10_factor 102 = .ok (.dup, 1) := by decide +kernel
theorem dX10_factor_103 : decode cX10_factor 103 = .ok (.getfield 84, 3) := by decide +kernel
theorem dX10_factor_106 : decode cX10_factor 106 = .ok (.iconst 1, 1) := by decide +kernel
theorem dX10_factor_107 : decode cX10_factor 107 = .ok (.isub, 1) := by decide +kernel
theorem dX10_factor_108 : decode cX10_factor 108 = .ok (.putfield 84, 3) := by decide +kernel
theorem dX10_factor_111 : decode cX10_factor 111 = .ok (.return_, 1) := by decide +kernel
theorem dX10_factor_112 : decode cX10_factor 112 = .ok (.aload_n 0, 1) := by decide +kernel
theorem dX10_factor_113 : decode cX10_factor 113 = .ok (.ldc 96, 2) := by decide +kernel
theorem dX10_factor_115 : decode cX10_factor 115 = .ok (.invokevirtual 98, 3) := by decide +kernel
theorem dX10_factor_118 : decode cX10_factor 118 = .ok (.istore_n 2, 1) := by decide +kernel
theorem dX10_factor_119 : decode cX10_factor 119 = .ok (.aload_n 0, 1) := by decide +kernel
theorem dX10_factor_120 : decode cX10_factor 120 = .ok (.iload_n 2, 1) := by decide +kernel
theorem dX10_factor_121 : decode cX10_factor 121 = .ok (.iconst (-1), 1) := by decide +kernel
theorem dX10_factor_122 : decode cX10_factor 122 = .ok (.if_icmp .ne 7, 3) := by decide +kernel
theorem dX10_factor_125 : decode cX10_factor 125 = .ok (.iconst 1, 1) := by decide +kernel
theorem dX10_factor_126 : decode cX10_factor 126 = .ok (.goto 4, 3) := by decide +kernel
theorem dX10_factor_129 : decode cX10_factor 129 = .ok (.iconst 0, 1) := by decide +kernel
theorem dX10_factor_130 : decode cX10_factor 130 = .ok (.putfield 60, 3) := by decide +kernel
theorem dX10_factor_133 : decode cX10_factor 133 = .ok (.aload_n 0, 1) := by decide +kernel
theorem dX10_factor_134 : decode cX10_factor 134 = .ok (.getfield 60, 3) := by decide +kernel
theorem dX10_factor_137 : decode cX10_factor 137 = .ok (.ifCond .eq 7, 3) := by decide +kernel
theorem dX10_factor_140 : decode cX10_factor 140 = .ok (.iconst 0, 1) := by decide +kernel
theorem dX10_factor_141 : decode cX10_factor 141 = .ok (.goto 9, 3) := by decide +kernel
theorem dX10_factor_144 : decode cX10_factor 144 = .ok (.aload_n 0, 1) := by decide +kernel
theorem dX10_factor_145 : decode cX10_factor 145 = .ok (.ldc 102, 2) := by decide +kernel
theorem dX10_factor_147 : decode cX10_factor 147 = .ok (.invokevirtual 98, 3) := by decide +kernel
theorem dX10_factor_150 : decode cX10_factor 150 = .ok (.istore_n 3, 1) := by decide +kernel
theorem dX10_factor_151 : decode cX10_factor 151 = .ok (.aload_n 0, 1) := by decide +kernel
theorem dX10_factor_152 : decode cX10_factor 152 = .ok (.aload_n 0, 1) := by decide +kernel
theorem dX10_factor_153 : decode cX10_factor 153 = .ok (.getfield 60, 3) := by decide +kernel
theorem dX10_factor_156 : decode cX10_factor 156 = .ok (.ifCond .ne 8, 3) := by decide +kernel
theorem dX10_factor_159 : decode cX10_factor 159 = .ok (.iload_n 3, 1) := by decide +kernel
theorem dX10_factor_160 : decode cX10_factor 160 = .ok (.iconst (-1), 1) := by decide +kernel
theorem dX10_factor_161 : decode cX10_factor 161 = .ok (.if_icmp .ne 7, 3) := by decide +kernel
theorem dX10_factor_164 : decode cX10_factor 164 = .ok (.iconst 1, 1) := by decide +kernel
theorem dX10_factor_165 : decode cX10_factor 165 = .ok (.goto 4, 3) := by decide +kernel
theorem dX10_factor_168 : decode cX10_factor 168 = .ok (.iconst 0, 1) := by decide +kernel
theorem dX10_factor_169 : decode cX10_factor 169 = .ok (.putfield 60, 3) := by decide +kernel
theorem dX10_factor_172 : decode cX10_factor 172 = .ok (.aload_n 0, 1) := by decide +kernel
theorem dX10_factor_173 : decode cX10_factor 173 = .ok (.invokevirtual 104, 3) := by decide +kernel
theorem dX10_factor_176 : decode cX10_factor 176 = .ok (.istore 4, 2) := by decide +kernel
theorem dX10_factor_178 : decode cX10_factor 178 = .ok (.aload_n 0, 1) := by decide +kernel
theorem dX10_factor_179 : decode cX10_factor 179 = .ok (.iload_n 2, 1) := by decide +kernel
theorem dX10_factor_180 : decode cX10_factor 180 = .ok (.bipush 8, 2) := by decide +kernel
theorem dX10_factor_182 : decode cX10_factor 182 = .ok (.iload_n 3, 1) := by decide +kernel
theorem dX10_factor_183 : decode cX10_factor 183 = .ok (.imul, 1) := by decide +kernel
theorem dX10_factor_184 : decode cX10_factor 184 = .ok (.iadd, 1) := by decide +kernel
theorem dX10_factor_185 : decode cX10_factor 185 = .ok (.bipush 32, 2) := by decide +kernel
theorem dX10_factor_187 : decode cX10_factor 187 = .ok (.iload 4, 2) := by decide +kernel
theorem dX10_factor_189 : decode cX10_factor 189 = .ok (.imul, 1) := by decide +kernel
theorem dX10_factor_190 : decode cX10_factor 190 = .ok (.iadd, 1) := by decide +kernel
theorem dX10_factor_191 : decode cX10_factor 191 = .ok (.invokevirtual 90, 3) := by decide +kernel
theorem dX10_factor_194 : decode cX10_factor 194 = .ok (.return_, 1) := by decide +kernel
def fX10_factor_B101 (rc : vr_M → Option (Int × vr_M)) (μ : vr_M) : Option (Int × vr_M) :=
  some (0, vr_u μ 68 9 ((μ 68 9) - 1))
def fX10_factor_B69 (rc : vr_M → Option (Int × vr_M)) (x1 : Int) (y1 : Int) (y2 : Int) (μ : vr_M) : Option (Int × vr_M) :=
  if ¬ x1 = 33 then (fX10_some rc (vr_u μ 68 6 (y1 + y2))).bind (fun r1 => (fX10_must 41 r1.2).bind (fun r2 => fX10_factor_B101 rc r2.2)) else (rc  (vr_u μ 68 6 (y1 + y2))).bind (fun r3 => (fX10_emits (-1) r3.2).bind (fun r4 => fX10_factor_B101 rc r4.2))
def fX10_factor_B39 (rc : vr_M → Option (Int × vr_M)) (x1 : Int) (y1 : Int) (μ : vr_M) : Option (Int × vr_M) :=
  vr_gd (y1 = 0 ∨ y1 = 1) (vr_let (vr_u μ 68 8 y1) (fun μ6 => vr_let (vr_u μ6 68 9 ((μ6 68 9) + 1)) (fun μ7 => vr_gd (vr_R (μ7 68 8)) (if (μ7 68 8) = 0 then vr_gd (vr_R (μ7 68 6)) (fX10_factor_B69 rc x1 (μ7 68 6) 1 μ7) else vr_gd (vr_R (μ7 68 6)) (fX10_factor_B69 rc x1 (μ7 68 6) 0 μ7)))))
def fX10_factor_B25 (rc : vr_M → Option (Int × vr_M)) (x1 : Int) (μ : vr_M) : Option (Int × vr_M) :=
  vr_gd (vr_R (μ 68 9)) (if ¬ (μ 68 9) = 5 then fX10_factor_B39 rc x1 0 μ else fX10_factor_B39 rc x1 1 μ)
def fX10_factor_B169 (rc : vr_M → Option (Int × vr_M)) (x2 : Int) (x3 : Int) (y1 : Int) (μ : vr_M) : Option (Int × vr_M) :=
  vr_gd (y1 = 0 ∨ y1 = 1) ((fX10_figures  (vr_u μ 68 8 y1)).bind (fun r13 => vr_gd (vr_R ((x2 + (8 * x3)) + (32 * r13.1))) ((fX10_emits ((x2 + (8 * x3)) + (32 * r13.1)) r13.2).bind (fun r15 => some (0, r15.2)))))
def fX10_factor_B164 (rc : vr_M → Option (Int × vr_M)) (x2 : Int) (x3 : Int) (μ : vr_M) : Option (Int × vr_M) :=
  fX10_factor_B169 rc x2 x3 1 μ
def fX10_factor_B150 (rc : vr_M → Option (Int × vr_M)) (x2 : Int) (y0 : Int) (μ : vr_M) : Option (Int × vr_M) :=
  vr_gd (vr_R (μ 68 8)) (if ¬ (μ 68 8) = 0 then fX10_factor_B164 rc x2 y0 μ else if ¬ y0 = (-1) then fX10_factor_B169 rc x2 y0 0 μ else fX10_factor_B164 rc x2 y0 μ)
def fX10_factor_B130 (rc : vr_M → Option (Int × vr_M)) (x2 : Int) (y1 : Int) (μ : vr_M) : Option (Int × vr_M) :=
  vr_gd (y1 = 0 ∨ y1 = 1) (vr_let (vr_u μ 68 8 y1) (fun μ18 => vr_gd (vr_R (μ18 68 8)) (if (μ18 68 8) = 0 then (fX10_among 12 μ18).bind (fun r20 => fX10_factor_B150 rc x2 r20.1 r20.2) else fX10_factor_B150 rc x2 0 μ18)))
def fX10_factor_1 (rc : vr_M → Option (Int × vr_M)) (μ : vr_M) : Option (Int × vr_M) :=
  vr_gd (vr_R (μ 68 8)) (if (μ 68 8) = 0 then (fX10_here  μ).bind (fun r22 => if r22.1 = 33 then fX10_factor_B25 rc r22.1 r22.2 else if ¬ r22.1 = 40 then (fX10_among 11 r22.2).bind (fun r23 => if ¬ r23.1 = (-1) then fX10_factor_B130 rc r23.1 0 r23.2 else fX10_factor_B130 rc r23.1 1 r23.2) else fX10_factor_B25 rc r22.1 r22.2) else some (0, μ))
def fX10_factor : Nat →  vr_M → Option (Int × vr_M)
  | 0, _ => none
  | d + 1, μ => fX10_factor_1 (fX10_factor d) μ
set_option maxRecDepth 100000 in
set_option maxHeartbeats 4000000 in
theorem ct_X10_factor_1 (l : Launch) (G : vr_G) {d : Nat} {rc : vr_M → Option (Int × vr_M)} (hrc : ∀ (μ : vr_M), vr_CV l yX10_factor cX10_factor 5 none ({ frames := 4 * d + 12, cells := 0, slots := 0, locals := 140 * d + 400 } : Room) G [.ref (vr_ad G 68)] μ (rc μ)) (μ : vr_M) : vr_CV l yX10_factor cX10_factor 5 none ({ frames := 4 * (d + 1) + 12, cells := 0, slots := 0, locals := 140 * (d + 1) + 400 } : Room) G [.ref (vr_ad G 68)] μ (fX10_factor_1 rc μ) := by
  refine vr_start (own := RX10) (by decide) rfl (Nat.le_of_ble_eq_true rfl) (fun p e s m args below meth c C0 => ?_)
  show vr_J p l e _ s m args below meth c 5 0 0 G (vr_Z (vr_QV G) G args s below) 0 [(0, .ref (vr_ad G 68))] [] μ _
  have B101 : ∀ (μ : vr_M), vr_J p l e ({ frames := 4 * (d + 1) + 12, cells := 0, slots := 0, locals := 140 * (d + 1) + 400 } : Room) s m args below meth c 5 0 0 G (vr_Z (vr_QV G) G args s below) 101 [(0, .ref (vr_ad G 68))] [] μ (fX10_factor_B101 rc μ) := by
    intro μ
    unfold fX10_factor_B101
    refine jr_aload_n C0 0 dX10_factor_101 rfl rfl ?_
    refine jr_dup C0 rfl dX10_factor_102 ?_
    refine jr_geti C0 (by decide) kd_68 (by decide) rfl wx_X10 (i := 9) (by decide) wf_X10_84 rfl dX10_factor_103 ?_
    refine jr_iconst C0 dX10_factor_106 ?_
    refine jr_isub C0 dX10_factor_107 ?_
    refine jr_puti C0 (by decide) kd_68 (by decide) rfl wx_X10 (i := 9) (by decide) wf_X10_84 rfl tyX10_ok nmX10 rfl rfl rfl dX10_factor_108 ?_
    exact jr_vret C0 dX10_factor_111
  have B69 : ∀ (x1 : Int) (h_x1 : vr_R x1) (y1 : Int) (h_y1 : vr_R y1) (y2 : Int) (h_y2 : vr_R y2) (μ : vr_M), vr_J p l e ({ frames := 4 * (d + 1) + 12, cells := 0, slots := 0, locals := 140 * (d + 1) + 400 } : Room) s m args below meth c 5 0 0 G (vr_Z (vr_QV G) G args s below) 69 [(0, .ref (vr_ad G 68)), (1, .int (vr_I x1))] [.int (vr_I y2), .int (vr_I y1), .ref (vr_ad G 68)] μ (fX10_factor_B69 rc x1 y1 y2 μ) := by
    intro x1 h_x1 y1 h_y1 y2 h_y2 μ
    unfold fX10_factor_B69
    refine jr_iadd C0 dX10_factor_69 ?_
    refine jr_puti C0 (by decide) kd_68 (by decide) rfl wx_X10 (i := 6) (by decide) wf_X10_54 rfl tyX10_ok nmX10 rfl rfl rfl dX10_factor_70 ?_
    refine jr_iload_n C0 1 dX10_factor_73 rfl rfl ?_
    refine jr_bipush C0 dX10_factor_74 rfl ?_
    refine jr_icmp_ne C0 h_x1 (⟨by decide, by decide⟩) dX10_factor_76 (tgt := 91) (by decide) ?_ ?_
    · refine jr_aload_n C0 0 dX10_factor_91 rfl rfl ?_
      refine jr_vV0 C0 (by decide) kd_68 (by decide) rfl (ct_X10_some l G hrc _) mi_X10_some wm_X10_93 ⟨by dsimp only; omega, by dsimp only; omega⟩ ⟨rfl, rfl⟩ (As := []) rfl (st := []) rfl (Nat.le_of_ble_eq_true rfl) dX10_factor_92 (fun r1 => ?_)
      refine jr_aload_n C0 0 dX10_factor_95 rfl rfl ?_
      refine jr_bipush C0 dX10_factor_96 rfl ?_
      refine jr_vV0 C0 (by decide) kd_68 (by decide) rfl (ct_X10_must l G 41 (⟨by decide, by decide⟩) _) mi_X10_must wm_X10_77 ⟨by dsimp only; omega, by dsimp only; omega⟩ ⟨rfl, rfl⟩ (As := [.int (vr_I 41)]) rfl (st := []) rfl (Nat.le_of_ble_eq_true rfl) dX10_factor_98 (fun r2 => ?_)
      refine jr_sub [0] rfl ?_
      exact B101 _
    refine jr_aload_n C0 0 dX10_factor_79 rfl rfl ?_
    refine jr_vV0 C0 (by decide) kd_68 (by decide) rfl (hrc  _) mi_X10_factor wm_X10_87 ⟨by dsimp only; omega, by dsimp only; omega⟩ ⟨rfl, rfl⟩ (As := []) rfl (st := []) rfl (Nat.le_of_ble_eq_true rfl) dX10_factor_80 (fun r3 => ?_)
    refine jr_aload_n C0 0 dX10_factor_83 rfl rfl ?_
    refine jr_iconst C0 dX10_factor_84 ?_
    refine jr_vV0 C0 (by decide) kd_68 (by decide) rfl (ct_X10_emits l G (-1) (⟨by decide, by decide⟩) _) mi_X10_emits wm_X10_90 ⟨by dsimp only; omega, by dsimp only; omega⟩ ⟨rfl, rfl⟩ (As := [.int (vr_I (-1))]) rfl (st := []) rfl (Nat.le_of_ble_eq_true rfl) dX10_factor_85 (fun r4 => ?_)
    refine jr_goto C0 dX10_factor_88 (tgt := 101) (by decide) ?_
    refine jr_sub [0] rfl ?_
    exact B101 _
  have B39 : ∀ (x1 : Int) (h_x1 : vr_R x1) (y1 : Int) (h_y1 : vr_R y1) (μ : vr_M), vr_J p l e ({ frames := 4 * (d + 1) + 12, cells := 0, slots := 0, locals := 140 * (d + 1) + 400 } : Room) s m args below meth c 5 0 0 G (vr_Z (vr_QV G) G args s below) 39 [(0, .ref (vr_ad G 68)), (1, .int (vr_I x1))] [.int (vr_I y1), .ref (vr_ad G 68)] μ (fX10_factor_B39 rc x1 y1 μ) := by
    intro x1 h_x1 y1 h_y1 μ
    unfold fX10_factor_B39
    refine jr_gd (fun g5 => ?_)
    refine jr_puti C0 (by decide) kd_68 (by decide) rfl wx_X10 (i := 8) (by decide) wf_X10_60 rfl tyX10_ok nmX10 rfl (vr_nz g5) ((vr_fz .boolean (Or.inr rfl) (fun _ => g5)).2) dX10_factor_39 ?_
    refine jr_aload_n C0 0 dX10_factor_42 rfl rfl ?_
    refine jr_dup C0 rfl dX10_factor_43 ?_
    refine jr_let (fun μ6 => ?_)
    refine jr_geti C0 (by decide) kd_68 (by decide) rfl wx_X10 (i := 9) (by decide) wf_X10_84 rfl dX10_factor_44 ?_
    refine jr_iconst C0 dX10_factor_47 ?_
    refine jr_iadd C0 dX10_factor_48 ?_
    refine jr_puti C0 (by decide) kd_68 (by decide) rfl wx_X10 (i := 9) (by decide) wf_X10_84 rfl tyX10_ok nmX10 rfl rfl rfl dX10_factor_49 ?_
    refine jr_aload_n C0 0 dX10_factor_52 rfl rfl ?_
    refine jr_dup C0 rfl dX10_factor_53 ?_
    refine jr_let (fun μ7 => ?_)
    refine jr_geti C0 (by decide) kd_68 (by decide) rfl wx_X10 (i := 6) (by decide) wf_X10_54 rfl dX10_factor_54 ?_
    refine jr_aload_n C0 0 dX10_factor_57 rfl rfl ?_
    refine jr_geti C0 (by decide) kd_68 (by decide) rfl wx_X10 (i := 8) (by decide) wf_X10_60 rfl dX10_factor_58 ?_
    refine jr_gd (fun g8 => ?_)
    refine jr_if_eq C0 g8 dX10_factor_61 (tgt := 68) (by decide) ?_ ?_
    · refine jr_iconst C0 dX10_factor_68 ?_
      refine jr_gd (fun g9 => ?_)
      exact B69 x1 h_x1 (μ7 68 6) g9 1 (⟨by decide, by decide⟩) _
    refine jr_iconst C0 dX10_factor_64 ?_
    refine jr_goto C0 dX10_factor_65 (tgt := 69) (by decide) ?_
    refine jr_gd (fun g10 => ?_)
    exact B69 x1 h_x1 (μ7 68 6) g10 0 (⟨by decide, by decide⟩) _
  have B25 : ∀ (x1 : Int) (h_x1 : vr_R x1) (μ : vr_M), vr_J p l e ({ frames := 4 * (d + 1) + 12, cells := 0, slots := 0, locals := 140 * (d + 1) + 400 } : Room) s m args below meth c 5 0 0 G (vr_Z (vr_QV G) G args s below) 25 [(0, .ref (vr_ad G 68)), (1, .int (vr_I x1))] [] μ (fX10_factor_B25 rc x1 μ) := by
    intro x1 h_x1 μ
    unfold fX10_factor_B25
    refine jr_aload_n C0 0 dX10_factor_25 rfl rfl ?_
    refine jr_aload_n C0 0 dX10_factor_26 rfl rfl ?_
    refine jr_geti C0 (by decide) kd_68 (by decide) rfl wx_X10 (i := 9) (by decide) wf_X10_84 rfl dX10_factor_27 ?_
    refine jr_iconst C0 dX10_factor_30 ?_
    refine jr_gd (fun g11 => ?_)
    refine jr_icmp_ne C0 g11 (⟨by decide, by decide⟩) dX10_factor_31 (tgt := 38) (by decide) ?_ ?_
    · refine jr_iconst C0 dX10_factor_38 ?_
      exact B39 x1 h_x1 0 (⟨by decide, by decide⟩) _
    refine jr_iconst C0 dX10_factor_34 ?_
    refine jr_goto C0 dX10_factor_35 (tgt := 39) (by decide) ?_
    exact B39 x1 h_x1 1 (⟨by decide, by decide⟩) _
  have B169 : ∀ (x2 : Int) (h_x2 : vr_R x2) (x3 : Int) (h_x3 : vr_R x3) (y1 : Int) (h_y1 : vr_R y1) (μ : vr_M), vr_J p l e ({ frames := 4 * (d + 1) + 12, cells := 0, slots := 0, locals := 140 * (d + 1) + 400 } : Room) s m args below meth c 5 0 0 G (vr_Z (vr_QV G) G args s below) 169 [(0, .ref (vr_ad G 68)), (2, .int (vr_I x2)), (3, .int (vr_I x3))] [.int (vr_I y1), .ref (vr_ad G 68)] μ (fX10_factor_B169 rc x2 x3 y1 μ) := by
    intro x2 h_x2 x3 h_x3 y1 h_y1 μ
    unfold fX10_factor_B169
    refine jr_gd (fun g12 => ?_)
    refine jr_puti C0 (by decide) kd_68 (by decide) rfl wx_X10 (i := 8) (by decide) wf_X10_60 rfl tyX10_ok nmX10 rfl (vr_nz g12) ((vr_fz .boolean (Or.inr rfl) (fun _ => g12)).2) dX10_factor_169 ?_
    refine jr_aload_n C0 0 dX10_factor_172 rfl rfl ?_
    refine jr_vI C0 (by decide) kd_68 (by decide) rfl (ct_X10_figures l G  _) mi_X10_figures wm_X10_104 ⟨by dsimp only; omega, by dsimp only; omega⟩ ⟨rfl, rfl⟩ (As := []) rfl (st := []) rfl (Nat.le_of_ble_eq_true rfl) dX10_factor_173 (fun r13 hr13 => ?_)
    refine jr_istore C0 dX10_factor_176 (by decide) (lv' := [(4, .int (vr_I r13.1)), (0, .ref (vr_ad G 68)), (2, .int (vr_I x2)), (3, .int (vr_I x3))]) rfl ?_
    refine jr_aload_n C0 1 dX10_factor_178 rfl rfl ?_
    refine jr_iload_n C0 2 dX10_factor_179 rfl rfl ?_
    refine jr_bipush C0 dX10_factor_180 rfl ?_
    refine jr_iload_n C0 3 dX10_factor_182 rfl rfl ?_
    refine jr_imul C0 dX10_factor_183 ?_
    refine jr_iadd C0 dX10_factor_184 ?_
    refine jr_bipush C0 dX10_factor_185 rfl ?_
    refine jr_iload C0 0 dX10_factor_187 rfl ?_
    refine jr_imul C0 dX10_factor_189 ?_
    refine jr_iadd C0 dX10_factor_190 ?_
    refine jr_gd (fun g14 => ?_)
    refine jr_vV0 C0 (by decide) kd_68 (by decide) rfl (ct_X10_emits l G ((x2 + (8 * x3)) + (32 * r13.1)) g14 _) mi_X10_emits wm_X10_90 ⟨by dsimp only; omega, by dsimp only; omega⟩ ⟨rfl, rfl⟩ (As := [.int (vr_I ((x2 + (8 * x3)) + (32 * r13.1)))]) rfl (st := []) rfl (Nat.le_of_ble_eq_true rfl) dX10_factor_191 (fun r15 => ?_)
    exact jr_vret C0 dX10_factor_194
  have B164 : ∀ (x2 : Int) (h_x2 : vr_R x2) (x3 : Int) (h_x3 : vr_R x3) (μ : vr_M), vr_J p l e ({ frames := 4 * (d + 1) + 12, cells := 0, slots := 0, locals := 140 * (d + 1) + 400 } : Room) s m args below meth c 5 0 0 G (vr_Z (vr_QV G) G args s below) 164 [(0, .ref (vr_ad G 68)), (2, .int (vr_I x2)), (3, .int (vr_I x3))] [.ref (vr_ad G 68)] μ (fX10_factor_B164 rc x2 x3 μ) := by
    intro x2 h_x2 x3 h_x3 μ
    unfold fX10_factor_B164
    refine jr_iconst C0 dX10_factor_164 ?_
    refine jr_goto C0 dX10_factor_165 (tgt := 169) (by decide) ?_
    exact B169 x2 h_x2 x3 h_x3 1 (⟨by decide, by decide⟩) _
  have B150 : ∀ (x2 : Int) (h_x2 : vr_R x2) (y0 : Int) (h_y0 : vr_R y0) (μ : vr_M), vr_J p l e ({ frames := 4 * (d + 1) + 12, cells := 0, slots := 0, locals := 140 * (d + 1) + 400 } : Room) s m args below meth c 5 0 0 G (vr_Z (vr_QV G) G args s below) 150 [(0, .ref (vr_ad G 68)), (2, .int (vr_I x2))] [.int (vr_I y0)] μ (fX10_factor_B150 rc x2 y0 μ) := by
    intro x2 h_x2 y0 h_y0 μ
    unfold fX10_factor_B150
    refine jr_istore_n C0 dX10_factor_150 rfl (by decide) (lv' := [(3, .int (vr_I y0)), (0, .ref (vr_ad G 68)), (2, .int (vr_I x2))]) rfl ?_
    refine jr_aload_n C0 1 dX10_factor_151 rfl rfl ?_
    refine jr_aload_n C0 1 dX10_factor_152 rfl rfl ?_
    refine jr_geti C0 (by decide) kd_68 (by decide) rfl wx_X10 (i := 8) (by decide) wf_X10_60 rfl dX10_factor_153 ?_
    refine jr_gd (fun g16 => ?_)
    refine jr_if_ne C0 g16 dX10_factor_156 (tgt := 164) (by decide) ?_ ?_
    · refine jr_sub [1, 2, 0] rfl ?_
      exact B164 x2 h_x2 y0 h_y0 _
    refine jr_iload_n C0 0 dX10_factor_159 rfl rfl ?_
    refine jr_iconst C0 dX10_factor_160 ?_
    refine jr_icmp_ne C0 h_y0 (⟨by decide, by decide⟩) dX10_factor_161 (tgt := 168) (by decide) ?_ ?_
    · refine jr_iconst C0 dX10_factor_168 ?_
      refine jr_sub [1, 2, 0] rfl ?_
      exact B169 x2 h_x2 y0 h_y0 0 (⟨by decide, by decide⟩) _
    refine jr_sub [1, 2, 0] rfl ?_
    exact B164 x2 h_x2 y0 h_y0 _
  have B130 : ∀ (x2 : Int) (h_x2 : vr_R x2) (y1 : Int) (h_y1 : vr_R y1) (μ : vr_M), vr_J p l e ({ frames := 4 * (d + 1) + 12, cells := 0, slots := 0, locals := 140 * (d + 1) + 400 } : Room) s m args below meth c 5 0 0 G (vr_Z (vr_QV G) G args s below) 130 [(0, .ref (vr_ad G 68)), (2, .int (vr_I x2))] [.int (vr_I y1), .ref (vr_ad G 68)] μ (fX10_factor_B130 rc x2 y1 μ) := by
    intro x2 h_x2 y1 h_y1 μ
    unfold fX10_factor_B130
    refine jr_gd (fun g17 => ?_)
    refine jr_puti C0 (by decide) kd_68 (by decide) rfl wx_X10 (i := 8) (by decide) wf_X10_60 rfl tyX10_ok nmX10 rfl (vr_nz g17) ((vr_fz .boolean (Or.inr rfl) (fun _ => g17)).2) dX10_factor_130 ?_
    refine jr_aload_n C0 0 dX10_factor_133 rfl rfl ?_
    refine jr_let (fun μ18 => ?_)
    refine jr_geti C0 (by decide) kd_68 (by decide) rfl wx_X10 (i := 8) (by decide) wf_X10_60 rfl dX10_factor_134 ?_
    refine jr_gd (fun g19 => ?_)
    refine jr_if_eq C0 g19 dX10_factor_137 (tgt := 144) (by decide) ?_ ?_
    · refine jr_aload_n C0 0 dX10_factor_144 rfl rfl ?_
      refine jr_ldcS C0 (i := 12) (by decide) rfl rfl dX10_factor_145 ?_
      refine jr_vI C0 (by decide) kd_68 (by decide) rfl (ct_X10_among l G (by decide) _) mi_X10_among wm_X10_98 ⟨by dsimp only; omega, by dsimp only; omega⟩ ⟨rfl, rfl⟩ (As := [.ref (vr_ak G 12)]) rfl (st := []) rfl (Nat.le_of_ble_eq_true rfl) dX10_factor_147 (fun r20 hr20 => ?_)
      exact B150 x2 h_x2 r20.1 hr20 _
    refine jr_iconst C0 dX10_factor_140 ?_
    refine jr_goto C0 dX10_factor_141 (tgt := 150) (by decide) ?_
    exact B150 x2 h_x2 0 (⟨by decide, by decide⟩) _
  unfold fX10_factor_1
  refine jr_aload_n C0 0 dX10_factor_0 rfl rfl ?_
  refine jr_geti C0 (by decide) kd_68 (by decide) rfl wx_X10 (i := 8) (by decide) wf_X10_60 rfl dX10_factor_1 ?_
  refine jr_gd (fun g21 => ?_)
  refine jr_if_eq C0 g21 dX10_factor_4 (tgt := 8) (by decide) ?_ ?_
  · refine jr_aload_n C0 0 dX10_factor_8 rfl rfl ?_
    refine jr_vI C0 (by decide) kd_68 (by decide) rfl (ct_X10_here l G  _) mi_X10_here wm_X10_64 ⟨by dsimp only; omega, by dsimp only; omega⟩ ⟨rfl, rfl⟩ (As := []) rfl (st := []) rfl (Nat.le_of_ble_eq_true rfl) dX10_factor_9 (fun r22 hr22 => ?_)
    refine jr_istore_n C0 dX10_factor_12 rfl (by decide) (lv' := [(1, .int (vr_I r22.1)), (0, .ref (vr_ad G 68))]) rfl ?_
    refine jr_iload_n C0 0 dX10_factor_13 rfl rfl ?_
    refine jr_bipush C0 dX10_factor_14 rfl ?_
    refine jr_icmp_eq C0 hr22 (⟨by decide, by decide⟩) dX10_factor_16 (tgt := 25) (by decide) ?_ ?_
    · refine jr_sub [1, 0] rfl ?_
      exact B25 r22.1 hr22 _
    refine jr_iload_n C0 0 dX10_factor_19 rfl rfl ?_
    refine jr_bipush C0 dX10_factor_20 rfl ?_
    refine jr_icmp_ne C0 hr22 (⟨by decide, by decide⟩) dX10_factor_22 (tgt := 112) (by decide) ?_ ?_
    · refine jr_aload_n C0 1 dX10_factor_112 rfl rfl ?_
      refine jr_ldcS C0 (i := 11) (by decide) rfl rfl dX10_factor_113 ?_
      refine jr_vI C0 (by decide) kd_68 (by decide) rfl (ct_X10_among l G (by decide) _) mi_X10_among wm_X10_98 ⟨by dsimp only; omega, by dsimp only; omega⟩ ⟨rfl, rfl⟩ (As := [.ref (vr_ak G 11)]) rfl (st := []) rfl (Nat.le_of_ble_eq_true rfl) dX10_factor_115 (fun r23 hr23 => ?_)
      refine jr_istore_n C0 dX10_factor_118 rfl (by decide) (lv' := [(2, .int (vr_I r23.1)), (1, .int (vr_I r22.1)), (0, .ref (vr_ad G 68))]) rfl ?_
      refine jr_aload_n C0 2 dX10_factor_119 rfl rfl ?_
      refine jr_iload_n C0 0 dX10_factor_120 rfl rfl ?_
      refine jr_iconst C0 dX10_factor_121 ?_
      refine jr_icmp_ne C0 hr23 (⟨by decide, by decide⟩) dX10_factor_122 (tgt := 129) (by decide) ?_ ?_
      · refine jr_iconst C0 dX10_factor_129 ?_
        refine jr_sub [2, 0] rfl ?_
        exact B130 r23.1 hr23 0 (⟨by decide, by decide⟩) _
      refine jr_iconst C0 dX10_factor_125 ?_
      refine jr_goto C0 dX10_factor_126 (tgt := 130) (by decide) ?_
      refine jr_sub [2, 0] rfl ?_
      exact B130 r23.1 hr23 1 (⟨by decide, by decide⟩) _
    refine jr_sub [1, 0] rfl ?_
    exact B25 r22.1 hr22 _
  exact jr_vret C0 dX10_factor_7
theorem ct_X10_factor (l : Launch) (G : vr_G) : ∀ (d : Nat), ∀ (μ : vr_M), vr_CV l yX10_factor cX10_factor 5 none ({ frames := 4 * d + 12, cells := 0, slots := 0, locals := 140 * d + 400 } : Room) G [.ref (vr_ad G 68)] μ (fX10_factor d μ) := by
  intro d
  induction d with
  | zero => intros; intro r hr; cases hr
  | succ d ih => intro μ; exact ct_X10_factor_1 l G ih μ
theorem hrc_X10_factor (l : Launch) (G : vr_G) : ∀ (μ : vr_M), vr_CV l yX10_factor cX10_factor 5 none ({ frames := 4 * 8 + 12, cells := 0, slots := 0, locals := 140 * 8 + 400 } : Room) G [.ref (vr_ad G 68)] μ (fX10_factor 8 μ) := ct_X10_factor l G 8
theorem dX10_tellsHere_0 : decode cX10_tellsHere 0 = .ok (.aload_n 0, 1) := by decide +kernel
theorem dX10_tellsHere_1 : decode cX10_tellsHere 1 = .ok (.aload_n 2, 1) := by decide +kernel
theorem dX10_tellsHere_2 : decode cX10_tellsHere 2 = .ok (.invokevirtual 110, 3) := by decide +kernel
theorem dX10_tellsHere_5 : decode cX10_tellsHere 5 = .ok (.aload_n 0, 1) := by decide +kernel
theorem dX10_tellsHere_6 : decode cX10_tellsHere 6 = .ok (.invokevirtual 104, 3) := by decide +kernel
theorem dX10_tellsHere_9 : decode cX10_tellsHere 9 = .ok (.istore 4, 2) := by decide +kernel
theorem dX10_tellsHere_11 : decode cX10_tellsHere 11 = .ok (.aload_n 0, 1) := by decide +kernel
theorem dX10_tellsHere_12 : decode cX10_tellsHere 12 = .ok (.getfield 60, 3) := by decide +kernel
theorem dX10_tellsHere_15 : decode cX10_tellsHere 15 = .ok (.ifCond .ne 26, 3) := by decide +kernel
theorem dX10_tellsHere_18 : decode cX10_tellsHere 18 = .ok (.aload_n 0, 1) := by decide +kernel
theorem dX10_tellsHere_19 : decode cX10_tellsHere 19 = .ok (.getfield 9, 3) := by decide +kernel
theorem dX10_tellsHere_22 : decode cX10_tellsHere 22 = .ok (.iload_n 1, 1) := by decide +kernel
theorem dX10_tellsHere_23 : decode cX10_tellsHere 23 = .ok (.aload_n 0, 1) := by decide +kernel
theorem dX10_tellsHere_24 : decode cX10_tellsHere 24 = .ok (.getfield 81, 3) := by decide +kernel
theorem dX10_tellsHere_27 : decode cX10_tellsHere 27 = .ok (.iadd, 1) := by decide +kernel
theorem dX10_tellsHere_28 : decode cX10_tellsHere 28 = .ok (.iload 4, 2) := by decide +kernel
theorem dX10_tellsHere_30 : decode cX10_tellsHere 30 = .ok (.iload_n 3, 1) := by decide +kernel
theorem dX10_tellsHere_31 : decode cX10_tellsHere 31 = .ok (.if_icmp .le 7, 3) := by decide +kernel
theorem dX10_tellsHere_34 : decode cX10_tellsHere 34 = .ok (.iload_n 3, 1) := by decide +kernel
theorem dX10_tellsHere_35 : decode cX10_tellsHere 35 = .ok (.goto 5, 3) := by decide +kernel
theorem dX10_tellsHere_38 : decode cX10_tellsHere 38 = .ok (.iload 4, 2) := by decide +kernel
theorem dX10_tellsHere_40 : decode cX10_tellsHere 40 = .ok (.iastore, 1) := by decide +kernel
theorem dX10_tellsHere_41 : decode cX10_tellsHere 41 = .ok (.return_, 1) := by decide +kernel
def fX10_tellsHere_B41 (s2 : Nat) (μ : vr_M) : Option (Int × vr_M) :=
  some (0, μ)
def fX10_tellsHere_B40 (s2 : Nat) (y1 : Int) (y2 : Int) (μ : vr_M) : Option (Int × vr_M) :=
  vr_gd (0 ≤ y1 ∧ y1 < 933) (fX10_tellsHere_B41 s2 (vr_u μ 69 y1.toNat y2))
def fX10_tellsHere (a0 : Int) (s2 : Nat) (a2 : Int) (μ : vr_M) : Option (Int × vr_M) :=
  (fX10_spells s2 μ).bind (fun r2 => (fX10_figures  r2.2).bind (fun r3 => vr_gd (vr_R (r3.2 68 8)) (if ¬ (r3.2 68 8) = 0 then fX10_tellsHere_B41 s2 r3.2 else if r3.1 ≤ a2 then vr_gd (vr_R (a0 + (r3.2 68 5))) (fX10_tellsHere_B40 s2 (a0 + (r3.2 68 5)) r3.1 r3.2) else vr_gd (vr_R (a0 + (r3.2 68 5))) (fX10_tellsHere_B40 s2 (a0 + (r3.2 68 5)) a2 r3.2))))
set_option maxRecDepth 100000 in
set_option maxHeartbeats 4000000 in
theorem ct_X10_tellsHere (l : Launch) (G : vr_G) (a0 : Int) (h_a0 : vr_R a0) {s2 : Nat} (hi_s2 : s2 < 17) (a2 : Int) (h_a2 : vr_R a2) (μ : vr_M) : vr_CV l yX10_tellsHere cX10_tellsHere 5 none ({ frames := 5, cells := 0, slots := 0, locals := 107 } : Room) G [.ref (vr_ad G 68), .int (vr_I a0), .ref (vr_ak G s2), .int (vr_I a2)] μ (fX10_tellsHere a0 s2 a2 μ) := by
  refine vr_start (own := RX10) (by decide) rfl (Nat.le_of_ble_eq_true rfl) (fun p e s m args below meth c C0 => ?_)
  show vr_J p l e _ s m args below meth c 5 0 0 G (vr_Z (vr_QV G) G args s below) 0 [(0, .ref (vr_ad G 68)), (1, .int (vr_I a0)), (2, .ref (vr_ak G s2)), (3, .int (vr_I a2))] [] μ _
  have B41 : ∀ (μ : vr_M), vr_J p l e ({ frames := 5, cells := 0, slots := 0, locals := 107 } : Room) s m args below meth c 5 0 0 G (vr_Z (vr_QV G) G args s below) 41 [] [] μ (fX10_tellsHere_B41 s2 μ) := by
    intro μ
    unfold fX10_tellsHere_B41
    exact jr_vret C0 dX10_tellsHere_41
  have B40 : ∀ (y1 : Int) (h_y1 : vr_R y1) (y2 : Int) (h_y2 : vr_R y2) (μ : vr_M), vr_J p l e ({ frames := 5, cells := 0, slots := 0, locals := 107 } : Room) s m args below meth c 5 0 0 G (vr_Z (vr_QV G) G args s below) 40 [] [.int (vr_I y2), .int (vr_I y1), .ref (vr_ad G 69)] μ (fX10_tellsHere_B40 s2 y1 y2 μ) := by
    intro y1 h_y1 y2 h_y2 μ
    unfold fX10_tellsHere_B40
    refine jr_gd (fun g1 => ?_)
    refine jr_iast C0 (by decide) kd_69 kl_69 g1 (j := y1.toNat) rfl dX10_tellsHere_40 ?_
    exact B41 _
  unfold fX10_tellsHere
  refine jr_aload_n C0 0 dX10_tellsHere_0 rfl rfl ?_
  refine jr_aload_n C0 2 dX10_tellsHere_1 rfl rfl ?_
  refine jr_vV0 C0 (by decide) kd_68 (by decide) rfl (ct_X10_spells l G hi_s2 _) mi_X10_spells wm_X10_110 ⟨Nat.le_of_ble_eq_true rfl, Nat.le_of_ble_eq_true rfl⟩ ⟨rfl, rfl⟩ (As := [.ref (vr_ak G s2)]) rfl (st := []) rfl (Nat.le_of_ble_eq_true rfl) dX10_tellsHere_2 (fun r2 => ?_)
  refine jr_aload_n C0 0 dX10_tellsHere_5 rfl rfl ?_
  refine jr_vI C0 (by decide) kd_68 (by decide) rfl (ct_X10_figures l G  _) mi_X10_figures wm_X10_104 ⟨Nat.le_of_ble_eq_true rfl, Nat.le_of_ble_eq_true rfl⟩ ⟨rfl, rfl⟩ (As := []) rfl (st := []) rfl (Nat.le_of_ble_eq_true rfl) dX10_tellsHere_6 (fun r3 hr3 => ?_)
  refine jr_istore C0 dX10_tellsHere_9 (by decide) (lv' := [(4, .int (vr_I r3.1)), (0, .ref (vr_ad G 68)), (1, .int (vr_I a0)), (2, .ref (vr_ak G s2)), (3, .int (vr_I a2))]) rfl ?_
  refine jr_aload_n C0 1 dX10_tellsHere_11 rfl rfl ?_
  refine jr_geti C0 (by decide) kd_68 (by decide) rfl wx_X10 (i := 8) (by decide) wf_X10_60 rfl dX10_tellsHere_12 ?_
  refine jr_gd (fun g4 => ?_)
  refine jr_if_ne C0 g4 dX10_tellsHere_15 (tgt := 41) (by decide) ?_ ?_
  · refine jr_sub [] rfl ?_
    exact B41 _
  refine jr_aload_n C0 1 dX10_tellsHere_18 rfl rfl ?_
  refine jr_getr C0 (by decide) kd_68 (by decide) rfl wx_X10 (i := 1) (by decide) wf_X10_9 (j := 69) rfl dX10_tellsHere_19 ?_
  refine jr_iload_n C0 2 dX10_tellsHere_22 rfl rfl ?_
  refine jr_aload_n C0 1 dX10_tellsHere_23 rfl rfl ?_
  refine jr_geti C0 (by decide) kd_68 (by decide) rfl wx_X10 (i := 5) (by decide) wf_X10_81 rfl dX10_tellsHere_24 ?_
  refine jr_iadd C0 dX10_tellsHere_27 ?_
  refine jr_iload C0 0 dX10_tellsHere_28 rfl ?_
  refine jr_iload_n C0 4 dX10_tellsHere_30 rfl rfl ?_
  refine jr_icmp_le C0 hr3 h_a2 dX10_tellsHere_31 (tgt := 38) (by decide) ?_ ?_
  · refine jr_iload C0 0 dX10_tellsHere_38 rfl ?_
    refine jr_gd (fun g5 => ?_)
    refine jr_sub [] rfl ?_
    exact B40 (a0 + (r3.2 68 5)) g5 r3.1 hr3 _
  refine jr_iload_n C0 4 dX10_tellsHere_34 rfl rfl ?_
  refine jr_goto C0 dX10_tellsHere_35 (tgt := 40) (by decide) ?_
  refine jr_gd (fun g6 => ?_)
  refine jr_sub [] rfl ?_
  exact B40 (a0 + (r3.2 68 5)) g6 a2 h_a2 _
theorem dX10_clauseHere_0 : decode cX10_clauseHere 0 = .ok (.aload_n 0, 1) := by decide +kernel
theorem dX10_clauseHere_1 : decode cX10_clauseHere 1 = .ok (.invokevirtual 64, 3) := by decide +kernel
theorem dX10_clauseHere_4 : decode cX10_clauseHere 4 = .ok (.lookupswitch 182 #[(100, 168), (103, 44), (109, 154), (119, 105)], 44) := by decide +kernel
theorem dX10_clauseHere_48 : decode cX10_clauseHere 48 = .ok (.aload_n 0, 1) := by decide +kernel
theorem dX10_clauseHere_49 : decode cX10_clauseHere 49 = .ok (.bipush 103, 2) := by decide +kernel
theorem dX10_clauseHere_51 : decode cX10_clauseHere 51 = .ok (.invokevirtual 77, 3) := by decide +kernel
theorem dX10_clauseHere_54 : decode cX10_clauseHere 54 = .ok (.aload_n 0, 1) := by decide +kernel
theorem dX10_clauseHere_55 : decode cX10_clauseHere 55 = .ok (.invokevirtual 64, 3) := by decide +kernel
theorem dX10_clauseHere_58 : decode cX10_clauseHere 58 = .ok (.bipush 114, 2) := by decide +kernel
theorem dX10_clauseHere_60 : decode cX10_clauseHere 60 = .ok (.if_icmp .ne 17, 3) := by decide +kernel
theorem dX10_clauseHere_63 : decode cX10_clauseHere 63 = .ok (.aload_n 0, 1) := by decide +kernel
theorem dX10_clauseHere_64 : decode cX10_clauseHere 64 = .ok (.sipush 218, 3) := by decide +kernel
theorem dX10_clauseHere_67 : decode cX10_clauseHere 67 = .ok (.ldc 114, 2) := by decide +kernel
theorem dX10_clauseHere_69 : decode cX10_clauseHere 69 = .ok (.bipush 99, 2) := by decide +kernel
theorem dX10_clauseHere_71 : decode cX10_clauseHere 71 = .ok (.invokevirtual 116, 3) := by decide +kernel
theorem dX10_clauseHere_74 : decode cX10_clauseHere 74 = .ok (.goto 117, 3) := by decide +kernel
theorem dX10_clauseHere_77 : decode cX10_clauseHere 77 = .ok (.aload_n 0, 1) := by decide +kernel
theorem dX10_clauseHere_78 : decode cX10_clauseHere 78 = .ok (.ldc 120, 2) := by decide +kernel
theorem dX10_clauseHere_80 : decode cX10_clauseHere 80 = .ok (.invokevirtual 110, 3) := by decide +kernel
theorem dX10_clauseHere_83 : decode cX10_clauseHere 83 = .ok (.aload_n 0, 1) := by decide +kernel
theorem dX10_clauseHere_84 : decode cX10_clauseHere 84 = .ok (.invokevirtual 104, 3) := by decide +kernel
theorem dX10_clauseHere_87 : decode cX10_clauseHere 87 = .ok (.istore_n 1, 1) := by decide +kernel
theorem dX10_clauseHere_88 : decode cX10_clauseHere 88 = .ok (.aload_n 0, 1) := by decide +kernel
theorem dX10_clauseHere_89 : decode cX10_clauseHere 89 = .ok (.bipush 32, 2) := by decide +kernel
theorem dX10_clauseHere_91 : decode cX10_clauseHere 91 = .ok (.invokevirtual 77, 3) := by decide +kernel
theorem dX10_clauseHere_94 : decode cX10_clauseHere 94 = .ok (.aload_n 0, 1) := by decide +kernel
theorem dX10_clauseHere_95 : decode cX10_clauseHere 95 = .ok (.invokevirtual 93, 3) := by decide +kernel
theorem dX10_clauseHere_98 : decode cX10_clauseHere 98 = .ok (.aload_n 0, 1) := by decide +kernel
theorem dX10_clauseHere_99 : decode cX10_clauseHere 99 = .ok (.bipush (-10), 2) := by decide +kernel
theorem dX10_clauseHere_101 : decode cX10_clauseHere 101 = .ok (.iload_n 1, 1) := by decide +kernel
theorem dX10_clauseHere_102 : decode cX10_clauseHere 102 = .ok (.isub, 1) := by decide +kernel
theorem dX10_clauseHere_103 : decode cX10_clauseHere 103 = .ok (.invokevirtual 90, 3) := by decide +kernel
theorem dX10_clauseHere_106 : decode cX10_clauseHere 106 = .ok (.goto 85, 3) := by decide +kernel
theorem dX10_clauseHere_109 : decode cX10_clauseHere 109 = .ok (.aload_n 0, 1) := by decide +kernel
theorem dX10_clauseHere_110 : decode cX10_clauseHere 110 = .ok (.bipush 119, 2) := by decide +kernel
theorem dX10_clauseHere_112 : decode cX10_clauseHere 112 = .ok (.invokevirtual 77, 3) := by decide +kernel
theorem dX10_clauseHere_115 : decode cX10_clauseHere 115 = .ok (.aload_n 0, 1) := by decide +kernel
theorem dX10_clauseHere_116 : decode cX10_clauseHere 116 = .ok (.invokevirtual 64, 3) := by decide +kernel
theorem dX10_clauseHere_119 : decode cX10_clauseHere 119 = .ok (.bipush 97, 2) := by decide +kernel
theorem dX10_clauseHere_121 : decode cX10_clauseHere 121 = .ok (.if_icmp .ne 17, 3) := by decide +kernel
theorem dX10_clauseHere_124 : decode cX10_clauseHere 124 = .ok (.aload_n 0, 1) := by decide +kernel
theorem dX10_clauseHere_125 : decode cX10_clauseHere 125 = .ok (.sipush 208, 3) := by decide +kernel
theorem dX10_clauseHere_128 : decode cX10_clauseHere 128 = .ok (.ldc 122, 2) := by decide +kernel
theorem dX10_clauseHere_130 : decode cX10_clauseHere 130 = .ok (.bipush 99, 2) := by decide +kernel
theorem dX10_clauseHere_132 : decode cX10_clauseHere 132 = .ok (.invokevirtual 116, 3) := by decide +kernel
theorem dX10_clauseHere_135 : decode cX10_clauseHere 135 = .ok (.goto 56, 3) := by decide +kernel
theorem dX10_clauseHere_138 : decode cX10_clauseHere 138 = .ok (.aload_n 0, 1) := by decide +kernel
theorem dX10_clauseHere_139 : decode cX10_clauseHere 139 = .ok (.ldc 124, 2) := by decide +kernel
theorem dX10_clauseHere_141 : decode cX10_clauseHere 141 = .ok (.invokevirtual 110, 3) := by decide +kernel
theorem dX10_clauseHere_144 : decode cX10_clauseHere 144 = .ok (.aload_n 0, 1) := by decide +kernel
theorem dX10_clauseHere_145 : decode cX10_clauseHere 145 = .ok (.invokevirtual 93, 3) := by decide +kernel
theorem dX10_clauseHere_148 : decode cX10_clauseHere 148 = .ok (.aload_n 0, 1) := by decide +kernel
theorem dX10_clauseHere_149 : decode cX10_clauseHere 149 = .ok (.sipush (-200), 3) := by decide +kernel
theorem dX10_clauseHere_152 : decode cX10_clauseHere 152 = .ok (.invokevirtual 90, 3) := by decide +kernel
theorem dX10_clauseHere_155 : decode cX10_clauseHere 155 = .ok (.goto 36, 3) := by decide +kernel
theorem dX10_clauseHere_158 : decode cX10_clauseHere 158 = .ok (.aload_n 0, 1) := by decide +kernel
theorem dX10_clauseHere_159 : decode cX10_clauseHere 159 = .ok (.sipush 213, 3) := by decide +kernel
theorem dX10_clauseHere_162 : decode cX10_clauseHere 162 = .ok (.ldc 126, 2) := by decide +kernel
theorem dX10_clauseHere_164 : decode cX10_clauseHere 164 = .ok (.bipush 99, 2) := by decide +kernel
theorem dX10_clauseHere_166 : decode cX10_clauseHere 166 = .ok (.invokevirtual 116, 3) := by decide +kernel
theorem dX10_clauseHere_169 : decode cX10_clauseHere 169 = .ok (.goto 22, 3) := by decide +kernel
theorem dX10_clauseHere_172 : decode cX10_clauseHere 172 = .ok (.aload_n 0, 1) := by decide +kernel
theorem dX10_clauseHere_173 : decode cX10_clauseHere 173 = .ok (.sipush 223, 3) := by decide +kernel
theorem dX10_clauseHere_176 : decode cX10_clauseHere 176 = .ok (.ldc 128, 2) := by decide +kernel
theorem dX10_clauseHere_178 : decode cX10_clauseHere 178 = .ok (.bipush 10, 2) := by decide +kernel
theorem dX10_clauseHere_180 : decode cX10_clauseHere 180 = .ok (.invokevirtual 116, 3) := by decide +kernel
theorem dX10_clauseHere_183 : decode cX10_clauseHere 183 = .ok (.goto 8, 3) := by decide +kernel
theorem dX10_clauseHere_186 : decode cX10_clauseHere 186 = .ok (.aload_n 0, 1) := by decide +kernel
theorem dX10_clauseHere_187 : decode cX10_clauseHere 187 = .ok (.iconst 1, 1) := by decide +kernel
theorem dX10_clauseHere_188 : decode cX10_clauseHere 188 = .ok (.putfield 60, 3) := by decide +kernel
theorem dX10_clauseHere_191 : decode cX10_clauseHere 191 = .ok (.return_, 1) := by decide +kernel
def fX10_clauseHere_B191 (μ : vr_M) : Option (Int × vr_M) :=
  some (0, μ)
def fX10_clauseHere (μ : vr_M) : Option (Int × vr_M) :=
  (fX10_here  μ).bind (fun r1 => vr_ls r1.1 [(100, (fX10_tellsHere 223 16 10 r1.2).bind (fun r2 => fX10_clauseHere_B191 r2.2)), (103, (fX10_must 103 r1.2).bind (fun r3 => (fX10_here  r3.2).bind (fun r4 => if ¬ r4.1 = 114 then (fX10_spells 10 r4.2).bind (fun r5 => (fX10_figures  r5.2).bind (fun r6 => (fX10_must 32 r6.2).bind (fun r7 => (fX10_some (fX10_factor 8) r7.2).bind (fun r8 => vr_gd (vr_R ((-10) - r6.1)) ((fX10_emits ((-10) - r6.1) r8.2).bind (fun r10 => fX10_clauseHere_B191 r10.2)))))) else (fX10_tellsHere 218 9 99 r4.2).bind (fun r11 => fX10_clauseHere_B191 r11.2)))), (109, (fX10_tellsHere 213 15 99 r1.2).bind (fun r12 => fX10_clauseHere_B191 r12.2)), (119, (fX10_must 119 r1.2).bind (fun r13 => (fX10_here  r13.2).bind (fun r14 => if ¬ r14.1 = 97 then (fX10_spells 14 r14.2).bind (fun r15 => (fX10_some (fX10_factor 8) r15.2).bind (fun r16 => (fX10_emits (-200) r16.2).bind (fun r17 => fX10_clauseHere_B191 r17.2))) else (fX10_tellsHere 208 13 99 r14.2).bind (fun r18 => fX10_clauseHere_B191 r18.2))))] (fX10_clauseHere_B191 (vr_u r1.2 68 8 1)))
set_option maxRecDepth 100000 in
set_option maxHeartbeats 4000000 in
theorem ct_X10_clauseHere (l : Launch) (G : vr_G) (μ : vr_M) : vr_CV l yX10_clauseHere cX10_clauseHere 2 none ({ frames := 47, cells := 0, slots := 0, locals := 1600 } : Room) G [.ref (vr_ad G 68)] μ (fX10_clauseHere μ) := by
  refine vr_start (own := RX10) (by decide) rfl (Nat.le_of_ble_eq_true rfl) (fun p e s m args below meth c C0 => ?_)
  show vr_J p l e _ s m args below meth c 2 0 0 G (vr_Z (vr_QV G) G args s below) 0 [(0, .ref (vr_ad G 68))] [] μ _
  have B191 : ∀ (μ : vr_M), vr_J p l e ({ frames := 47, cells := 0, slots := 0, locals := 1600 } : Room) s m args below meth c 2 0 0 G (vr_Z (vr_QV G) G args s below) 191 [] [] μ (fX10_clauseHere_B191 μ) := by
    intro μ
    unfold fX10_clauseHere_B191
    exact jr_vret C0 dX10_clauseHere_191
  unfold fX10_clauseHere
  refine jr_aload_n C0 0 dX10_clauseHere_0 rfl rfl ?_
  refine jr_vI C0 (by decide) kd_68 (by decide) rfl (ct_X10_here l G  _) mi_X10_here wm_X10_64 ⟨Nat.le_of_ble_eq_true rfl, Nat.le_of_ble_eq_true rfl⟩ ⟨rfl, rfl⟩ (As := []) rfl (st := []) rfl (Nat.le_of_ble_eq_true rfl) dX10_clauseHere_1 (fun r1 hr1 => ?_)
  refine jr_lsw C0 hr1 dX10_clauseHere_4 (by decide) (td := 186) (by decide) (vr_LS_cons (tgt := 172) (by decide) ?_ (vr_LS_cons (tgt := 48) (by decide) ?_ (vr_LS_cons (tgt := 158) (by decide) ?_ (vr_LS_cons (tgt := 109) (by decide) ?_ vr_LS_nil)))) ?_
  · show vr_J p l e _ s m args below meth c _ _ _ G _ 172 _ _ _ _
    refine jr_aload_n C0 0 dX10_clauseHere_172 rfl rfl ?_
    refine jr_sipush C0 dX10_clauseHere_173 rfl ?_
    refine jr_ldcS C0 (i := 16) (by decide) rfl rfl dX10_clauseHere_176 ?_
    refine jr_bipush C0 dX10_clauseHere_178 rfl ?_
    refine jr_vV0 C0 (by decide) kd_68 (by decide) rfl (ct_X10_tellsHere l G 223 (⟨by decide, by decide⟩) (by decide) 10 (⟨by decide, by decide⟩) _) mi_X10_tellsHere wm_X10_116 ⟨Nat.le_of_ble_eq_true rfl, Nat.le_of_ble_eq_true rfl⟩ ⟨rfl, rfl⟩ (As := [.int (vr_I 223), .ref (vr_ak G 16), .int (vr_I 10)]) rfl (st := []) rfl (Nat.le_of_ble_eq_true rfl) dX10_clauseHere_180 (fun r2 => ?_)
    refine jr_goto C0 dX10_clauseHere_183 (tgt := 191) (by decide) ?_
    refine jr_sub [] rfl ?_
    exact B191 _
  · show vr_J p l e _ s m args below meth c _ _ _ G _ 48 _ _ _ _
    refine jr_aload_n C0 0 dX10_clauseHere_48 rfl rfl ?_
    refine jr_bipush C0 dX10_clauseHere_49 rfl ?_
    refine jr_vV0 C0 (by decide) kd_68 (by decide) rfl (ct_X10_must l G 103 (⟨by decide, by decide⟩) _) mi_X10_must wm_X10_77 ⟨Nat.le_of_ble_eq_true rfl, Nat.le_of_ble_eq_true rfl⟩ ⟨rfl, rfl⟩ (As := [.int (vr_I 103)]) rfl (st := []) rfl (Nat.le_of_ble_eq_true rfl) dX10_clauseHere_51 (fun r3 => ?_)
    refine jr_aload_n C0 0 dX10_clauseHere_54 rfl rfl ?_
    refine jr_vI C0 (by decide) kd_68 (by decide) rfl (ct_X10_here l G  _) mi_X10_here wm_X10_64 ⟨Nat.le_of_ble_eq_true rfl, Nat.le_of_ble_eq_true rfl⟩ ⟨rfl, rfl⟩ (As := []) rfl (st := []) rfl (Nat.le_of_ble_eq_true rfl) dX10_clauseHere_55 (fun r4 hr4 => ?_)
    refine jr_bipush C0 dX10_clauseHere_58 rfl ?_
    refine jr_icmp_ne C0 hr4 (⟨by decide, by decide⟩) dX10_clauseHere_60 (tgt := 77) (by decide) ?_ ?_
    · refine jr_aload_n C0 0 dX10_clauseHere_77 rfl rfl ?_
      refine jr_ldcS C0 (i := 10) (by decide) rfl rfl dX10_clauseHere_78 ?_
      refine jr_vV0 C0 (by decide) kd_68 (by decide) rfl (ct_X10_spells l G (by decide) _) mi_X10_spells wm_X10_110 ⟨Nat.le_of_ble_eq_true rfl, Nat.le_of_ble_eq_true rfl⟩ ⟨rfl, rfl⟩ (As := [.ref (vr_ak G 10)]) rfl (st := []) rfl (Nat.le_of_ble_eq_true rfl) dX10_clauseHere_80 (fun r5 => ?_)
      refine jr_aload_n C0 0 dX10_clauseHere_83 rfl rfl ?_
      refine jr_vI C0 (by decide) kd_68 (by decide) rfl (ct_X10_figures l G  _) mi_X10_figures wm_X10_104 ⟨Nat.le_of_ble_eq_true rfl, Nat.le_of_ble_eq_true rfl⟩ ⟨rfl, rfl⟩ (As := []) rfl (st := []) rfl (Nat.le_of_ble_eq_true rfl) dX10_clauseHere_84 (fun r6 hr6 => ?_)
      refine jr_istore_n C0 dX10_clauseHere_87 rfl (by decide) (lv' := [(1, .int (vr_I r6.1)), (0, .ref (vr_ad G 68))]) rfl ?_
      refine jr_aload_n C0 1 dX10_clauseHere_88 rfl rfl ?_
      refine jr_bipush C0 dX10_clauseHere_89 rfl ?_
      refine jr_vV0 C0 (by decide) kd_68 (by decide) rfl (ct_X10_must l G 32 (⟨by decide, by decide⟩) _) mi_X10_must wm_X10_77 ⟨Nat.le_of_ble_eq_true rfl, Nat.le_of_ble_eq_true rfl⟩ ⟨rfl, rfl⟩ (As := [.int (vr_I 32)]) rfl (st := []) rfl (Nat.le_of_ble_eq_true rfl) dX10_clauseHere_91 (fun r7 => ?_)
      refine jr_aload_n C0 1 dX10_clauseHere_94 rfl rfl ?_
      refine jr_vV0 C0 (by decide) kd_68 (by decide) rfl (ct_X10_some l G (hrc_X10_factor l G) _) mi_X10_some wm_X10_93 ⟨Nat.le_of_ble_eq_true rfl, Nat.le_of_ble_eq_true rfl⟩ ⟨rfl, rfl⟩ (As := []) rfl (st := []) rfl (Nat.le_of_ble_eq_true rfl) dX10_clauseHere_95 (fun r8 => ?_)
      refine jr_aload_n C0 1 dX10_clauseHere_98 rfl rfl ?_
      refine jr_bipush C0 dX10_clauseHere_99 rfl ?_
      refine jr_iload_n C0 0 dX10_clauseHere_101 rfl rfl ?_
      refine jr_isub C0 dX10_clauseHere_102 ?_
      refine jr_gd (fun g9 => ?_)
      refine jr_vV0 C0 (by decide) kd_68 (by decide) rfl (ct_X10_emits l G ((-10) - r6.1) g9 _) mi_X10_emits wm_X10_90 ⟨Nat.le_of_ble_eq_true rfl, Nat.le_of_ble_eq_true rfl⟩ ⟨rfl, rfl⟩ (As := [.int (vr_I ((-10) - r6.1))]) rfl (st := []) rfl (Nat.le_of_ble_eq_true rfl) dX10_clauseHere_103 (fun r10 => ?_)
      refine jr_goto C0 dX10_clauseHere_106 (tgt := 191) (by decide) ?_
      refine jr_sub [] rfl ?_
      exact B191 _
    refine jr_aload_n C0 0 dX10_clauseHere_63 rfl rfl ?_
    refine jr_sipush C0 dX10_clauseHere_64 rfl ?_
    refine jr_ldcS C0 (i := 9) (by decide) rfl rfl dX10_clauseHere_67 ?_
    refine jr_bipush C0 dX10_clauseHere_69 rfl ?_
    refine jr_vV0 C0 (by decide) kd_68 (by decide) rfl (ct_X10_tellsHere l G 218 (⟨by decide, by decide⟩) (by decide) 99 (⟨by decide, by decide⟩) _) mi_X10_tellsHere wm_X10_116 ⟨Nat.le_of_ble_eq_true rfl, Nat.le_of_ble_eq_true rfl⟩ ⟨rfl, rfl⟩ (As := [.int (vr_I 218), .ref (vr_ak G 9), .int (vr_I 99)]) rfl (st := []) rfl (Nat.le_of_ble_eq_true rfl) dX10_clauseHere_71 (fun r11 => ?_)
    refine jr_goto C0 dX10_clauseHere_74 (tgt := 191) (by decide) ?_
    refine jr_sub [] rfl ?_
    exact B191 _
  · show vr_J p l e _ s m args below meth c _ _ _ G _ 158 _ _ _ _
    refine jr_aload_n C0 0 dX10_clauseHere_158 rfl rfl ?_
    refine jr_sipush C0 dX10_clauseHere_159 rfl ?_
    refine jr_ldcS C0 (i := 15) (by decide) rfl rfl dX10_clauseHere_162 ?_
    refine jr_bipush C0 dX10_clauseHere_164 rfl ?_
    refine jr_vV0 C0 (by decide) kd_68 (by decide) rfl (ct_X10_tellsHere l G 213 (⟨by decide, by decide⟩) (by decide) 99 (⟨by decide, by decide⟩) _) mi_X10_tellsHere wm_X10_116 ⟨Nat.le_of_ble_eq_true rfl, Nat.le_of_ble_eq_true rfl⟩ ⟨rfl, rfl⟩ (As := [.int (vr_I 213), .ref (vr_ak G 15), .int (vr_I 99)]) rfl (st := []) rfl (Nat.le_of_ble_eq_true rfl) dX10_clauseHere_166 (fun r12 => ?_)
    refine jr_goto C0 dX10_clauseHere_169 (tgt := 191) (by decide) ?_
    refine jr_sub [] rfl ?_
    exact B191 _
  · show vr_J p l e _ s m args below meth c _ _ _ G _ 109 _ _ _ _
    refine jr_aload_n C0 0 dX10_clauseHere_109 rfl rfl ?_
    refine jr_bipush C0 dX10_clauseHere_110 rfl ?_
    refine jr_vV0 C0 (by decide) kd_68 (by decide) rfl (ct_X10_must l G 119 (⟨by decide, by decide⟩) _) mi_X10_must wm_X10_77 ⟨Nat.le_of_ble_eq_true rfl, Nat.le_of_ble_eq_true rfl⟩ ⟨rfl, rfl⟩ (As := [.int (vr_I 119)]) rfl (st := []) rfl (Nat.le_of_ble_eq_true rfl) dX10_clauseHere_112 (fun r13 => ?_)
    refine jr_aload_n C0 0 dX10_clauseHere_115 rfl rfl ?_
    refine jr_vI C0 (by decide) kd_68 (by decide) rfl (ct_X10_here l G  _) mi_X10_here wm_X10_64 ⟨Nat.le_of_ble_eq_true rfl, Nat.le_of_ble_eq_true rfl⟩ ⟨rfl, rfl⟩ (As := []) rfl (st := []) rfl (Nat.le_of_ble_eq_true rfl) dX10_clauseHere_116 (fun r14 hr14 => ?_)
    refine jr_bipush C0 dX10_clauseHere_119 rfl ?_
    refine jr_icmp_ne C0 hr14 (⟨by decide, by decide⟩) dX10_clauseHere_121 (tgt := 138) (by decide) ?_ ?_
    · refine jr_aload_n C0 0 dX10_clauseHere_138 rfl rfl ?_
      refine jr_ldcS C0 (i := 14) (by decide) rfl rfl dX10_clauseHere_139 ?_
      refine jr_vV0 C0 (by decide) kd_68 (by decide) rfl (ct_X10_spells l G (by decide) _) mi_X10_spells wm_X10_110 ⟨Nat.le_of_ble_eq_true rfl, Nat.le_of_ble_eq_true rfl⟩ ⟨rfl, rfl⟩ (As := [.ref (vr_ak G 14)]) rfl (st := []) rfl (Nat.le_of_ble_eq_true rfl) dX10_clauseHere_141 (fun r15 => ?_)
      refine jr_aload_n C0 0 dX10_clauseHere_144 rfl rfl ?_
      refine jr_vV0 C0 (by decide) kd_68 (by decide) rfl (ct_X10_some l G (hrc_X10_factor l G) _) mi_X10_some wm_X10_93 ⟨Nat.le_of_ble_eq_true rfl, Nat.le_of_ble_eq_true rfl⟩ ⟨rfl, rfl⟩ (As := []) rfl (st := []) rfl (Nat.le_of_ble_eq_true rfl) dX10_clauseHere_145 (fun r16 => ?_)
      refine jr_aload_n C0 0 dX10_clauseHere_148 rfl rfl ?_
      refine jr_sipush C0 dX10_clauseHere_149 rfl ?_
      refine jr_vV0 C0 (by decide) kd_68 (by decide) rfl (ct_X10_emits l G (-200) (⟨by decide, by decide⟩) _) mi_X10_emits wm_X10_90 ⟨Nat.le_of_ble_eq_true rfl, Nat.le_of_ble_eq_true rfl⟩ ⟨rfl, rfl⟩ (As := [.int (vr_I (-200))]) rfl (st := []) rfl (Nat.le_of_ble_eq_true rfl) dX10_clauseHere_152 (fun r17 => ?_)
      refine jr_goto C0 dX10_clauseHere_155 (tgt := 191) (by decide) ?_
      refine jr_sub [] rfl ?_
      exact B191 _
    refine jr_aload_n C0 0 dX10_clauseHere_124 rfl rfl ?_
    refine jr_sipush C0 dX10_clauseHere_125 rfl ?_
    refine jr_ldcS C0 (i := 13) (by decide) rfl rfl dX10_clauseHere_128 ?_
    refine jr_bipush C0 dX10_clauseHere_130 rfl ?_
    refine jr_vV0 C0 (by decide) kd_68 (by decide) rfl (ct_X10_tellsHere l G 208 (⟨by decide, by decide⟩) (by decide) 99 (⟨by decide, by decide⟩) _) mi_X10_tellsHere wm_X10_116 ⟨Nat.le_of_ble_eq_true rfl, Nat.le_of_ble_eq_true rfl⟩ ⟨rfl, rfl⟩ (As := [.int (vr_I 208), .ref (vr_ak G 13), .int (vr_I 99)]) rfl (st := []) rfl (Nat.le_of_ble_eq_true rfl) dX10_clauseHere_132 (fun r18 => ?_)
    refine jr_goto C0 dX10_clauseHere_135 (tgt := 191) (by decide) ?_
    refine jr_sub [] rfl ?_
    exact B191 _
  refine jr_aload_n C0 0 dX10_clauseHere_186 rfl rfl ?_
  refine jr_iconst C0 dX10_clauseHere_187 ?_
  refine jr_puti C0 (by decide) kd_68 (by decide) rfl wx_X10 (i := 8) (by decide) wf_X10_60 rfl tyX10_ok nmX10 rfl (vr_nz (Or.inr rfl)) ((vr_fz .boolean (Or.inr rfl) (fun _ => (Or.inr rfl))).2) dX10_clauseHere_188 ?_
  refine jr_sub [] rfl ?_
  exact B191 _
theorem dX10_land_0 : decode cX10_land 0 = .ok (.aload_n 0, 1) := by decide +kernel
theorem dX10_land_1 : decode cX10_land 1 = .ok (.getfield 9, 3) := by decide +kernel
theorem dX10_land_4 : decode cX10_land 4 = .ok (.iconst 2, 1) := by decide +kernel
theorem dX10_land_5 : decode cX10_land 5 = .ok (.iaload, 1) := by decide +kernel
theorem dX10_land_6 : decode cX10_land 6 = .ok (.iconst 5, 1) := by decide +kernel
theorem dX10_land_7 : decode cX10_land 7 = .ok (.if_icmp .ne 6, 3) := by decide +kernel
theorem dX10_land_10 : decode cX10_land 10 = .ok (.bipush (-4), 2) := by decide +kernel
theorem dX10_land_12 : decode cX10_land 12 = .ok (.ireturn, 1) := by decide +kernel
theorem dX10_land_13 : decode cX10_land 13 = .ok (.aload_n 0, 1) := by decide +kernel
theorem dX10_land_14 : decode cX10_land 14 = .ok (.aload_n 0, 1) := by decide +kernel
theorem dX10_land_15 : decode cX10_land 15 = .ok (.getfield 9, 3) := by decide +kernel
theorem dX10_land_18 : decode cX10_land 18 = .ok (.iconst 2, 1) := by decide +kernel
theorem dX10_land_19 : decode cX10_land 19 = .ok (.iaload, 1) := by decide +kernel
theorem dX10_land_20 : decode cX10_land 20 = .ok (.putfield 81, 3) := by decide +kernel
theorem dX10_land_23 : decode cX10_land 23 = .ok (.aload_n 0, 1) := by decide +kernel
theorem dX10_land_24 : decode cX10_land 24 = .ok (.aload_n 0, 1) := by decide +kernel
theorem dX10_land_25 : decode cX10_land 25 = .ok (.getfield 9, 3) := by decide +kernel
theorem dX10_land_28 : decode cX10_land 28 = .ok (.iconst 4, 1) := by decide +kernel
theorem dX10_land_29 : decode cX10_land 29 = .ok (.iaload, 1) := by decide +kernel
theorem dX10_land_30 : decode cX10_land 30 = .ok (.putfield 57, 3) := by decide +kernel
theorem dX10_land_33 : decode cX10_land 33 = .ok (.aload_n 0, 1) := by decide +kernel
theorem dX10_land_34 : decode cX10_land 34 = .ok (.getfield 9, 3) := by decide +kernel
theorem dX10_land_37 : decode cX10_land 37 = .ok (.iconst 4, 1) := by decide +kernel
theorem dX10_land_38 : decode cX10_land 38 = .ok (.iconst 0, 1) := by decide +kernel
theorem dX10_land_39 : decode cX10_land 39 = .ok (.iastore, 1) := by decide +kernel
theorem dX10_land_40 : decode cX10_land 40 = .ok (.aload_n 0, 1) := by decide +kernel
theorem dX10_land_41 : decode cX10_land 41 = .ok (.getfield 9, 3) := by decide +kernel
theorem dX10_land_44 : decode cX10_land 44 = .ok (.sipush 208, 3) := by decide +kernel
theorem dX10_land_47 : decode cX10_land 47 = .ok (.aload_n 0, 1) := by decide +kernel
theorem dX10_land_48 : decode cX10_land 48 = .ok (.getfield 81, 3) := by decide +kernel
theorem dX10_land_51 : decode cX10_land 51 = .ok (.iadd, 1) := by decide +kernel
theorem dX10_land_52 : decode cX10_land 52 = .ok (.bipush 99, 2) := by decide +kernel
theorem dX10_land_54 : decode cX10_land 54 = .ok (.iastore, 1) := by decide +kernel
theorem dX10_land_55 : decode cX10_land 55 = .ok (.aload_n 0, 1) := by decide +kernel
theorem dX10_land_56 : decode cX10_land 56 = .ok (.getfield 9, 3) := by decide +kernel
theorem dX10_land_59 : decode cX10_land 59 = .ok (.sipush 213, 3) := by decide +kernel
theorem dX10_land_62 : decode cX10_land 62 = .ok (.aload_n 0, 1) := by decide +kernel
theorem dX10_land_63 : decode cX10_land 63 = .ok (.getfield 81, 3) := by decide +kernel
theorem dX10_land_66 : decode cX10_land 66 = .ok (.iadd, 1) := by decide +kernel
theorem dX10_land_67 : decode cX10_land 67 = .ok (.iconst 0, 1) := by decide +kernel
theorem dX10_land_68 : decode cX10_land 68 = .ok (.iastore, 1) := by decide +kernel
theorem dX10_land_69 : decode cX10_land 69 = .ok (.aload_n 0, 1) := by decide +kernel
theorem dX10_land_70 : decode cX10_land 70 = .ok (.getfield 9, 3) := by decide +kernel
theorem dX10_land_73 : decode cX10_land 73 = .ok (.sipush 218, 3) := by decide +kernel
theorem dX10_land_76 : decode cX10_land 76 = .ok (.aload_n 0, 1) := by decide +kernel
theorem dX10_land_77 : decode cX10_land 77 = .ok (.getfield 81, 3) := by decide +kernel
theorem dX10_land_80 : decode cX10_land 80 = .ok (.iadd, 1) := by decide +kernel
theorem dX10_land_81 : decode cX10_land 81 = .ok (.iconst 0, 1) := by decide +kernel
theorem dX10_land_82 : decode cX10_land 82 = .ok (.iastore, 1) := by decide +kernel
theorem dX10_land_83 : decode cX10_land 83 = .ok (.aload_n 0, 1) := by decide +kernel
theorem dX10_land_84 : decode cX10_land 84 = .ok (.getfield 9, 3) := by decide +kernel
theorem dX10_land_87 : decode cX10_land 87 = .ok (.sipush 223, 3) := by decide +kernel
theorem dX10_land_90 : decode cX10_land 90 = .ok (.aload_n 0, 1) := by decide +kernel
theorem dX10_land_91 : decode cX10_land 91 = .ok (.getfield 81, 3) := by decide +kernel
theorem dX10_land_94 : decode cX10_land 94 = .ok (.iadd, 1) := by decide +kernel
theorem dX10_land_95 : decode cX10_land 95 = .ok (.iconst 0, 1) := by decide +kernel
theorem dX10_land_96 : decode cX10_land 96 = .ok (.iastore, 1) := by decide +kernel
theorem dX10_land_97 : decode cX10_land 97 = .ok (.aload_n 0, 1) := by decide +kernel
theorem dX10_land_98 : decode cX10_land 98 = .ok (.getfield 9, 3) := by decide +kernel
theorem dX10_land_101 : decode cX10_land 101 = .ok (.sipush 228, 3) := by decide +kernel
theorem dX10_land_104 : decode cX10_land 104 = .ok (.aload_n 0, 1) := by decide +kernel
theorem dX10_land_105 : decode cX10_land 105 = .ok (.getfield 81, 3) := by decide +kernel
theorem dX10_land_108 : decode cX10_land 108 = .ok (.iadd, 1) := by decide +kernel
theorem dX10_land_109 : decode cX10_land 109 = .ok (.iconst 0, 1) := by decide +kernel
theorem dX10_land_110 : decode cX10_land 110 = .ok (.iastore, 1) := by decide +kernel
theorem dX10_land_111 : decode cX10_land 111 = .ok (.aload_n 0, 1) := by decide +kernel
theorem dX10_land_112 : decode cX10_land 112 = .ok (.iconst 0, 1) := by decide +kernel
theorem dX10_land_113 : decode cX10_land 113 = .ok (.putfield 54, 3) := by decide +kernel
theorem dX10_land_116 : decode cX10_land 116 = .ok (.aload_n 0, 1) := by decide +kernel
theorem dX10_land_117 : decode cX10_land 117 = .ok (.iconst 0, 1) := by decide +kernel
theorem dX10_land_118 : decode cX10_land 118 = .ok (.putfield 60, 3) := by decide +kernel
theorem dX10_land_121 : decode cX10_land 121 = .ok (.aload_n 0, 1) := by decide +kernel
theorem dX10_land_122 : decode cX10_land 122 = .ok (.iconst 0, 1) := by decide +kernel
theorem dX10_land_123 : decode cX10_land 123 = .ok (.putfield 84, 3) := by decide +kernel
theorem dX10_land_126 : decode cX10_land 126 = .ok (.iconst 1, 1) := by decide +kernel
theorem dX10_land_127 : decode cX10_land 127 = .ok (.istore_n 1, 1) := by decide +kernel
theorem dX10_land_128 : decode cX10_land 128 = .ok (.aload_n 0, 1) := by decide +kernel
theorem dX10_land_129 : decode cX10_land 129 = .ok (.invokevirtual 130, 3) := by decide +kernel
theorem dX10_land_132 : decode cX10_land 132 = .ok (.aload_n 0, 1) := by decide +kernel
theorem dX10_land_133 : decode cX10_land 133 = .ok (.getfield 60, 3) := by decide +kernel
theorem dX10_land_136 : decode cX10_land 136 = .ok (.ifCond .ne 38, 3) := by decide +kernel
theorem dX10_land_139 : decode cX10_land 139 = .ok (.iload_n 1, 1) := by decide +kernel
theorem dX10_land_140 : decode cX10_land 140 = .ok (.bipush 10, 2) := by decide +kernel
theorem dX10_land_142 : decode cX10_land 142 = .ok (.if_icmp .ge 32, 3) := by decide +kernel
theorem dX10_land_145 : decode cX10_land 145 = .ok (.aload_n 0, 1) := by decide +kernel
theorem dX10_land_146 : decode cX10_land 146 = .ok (.invokevirtual 64, 3) := by decide +kernel
theorem dX10_land_149 : decode cX10_land 149 = .ok (.bipush 59, 2) := by decide +kernel
theorem dX10_land_151 : decode cX10_land 151 = .ok (.if_icmp .ne 23, 3) := by decide +kernel
theorem dX10_land_154 : decode cX10_land 154 = .ok (.aload_n 0, 1) := by decide +kernel
theorem dX10_land_155 : decode cX10_land 155 = .ok (.dup, 1) := by decide +kernel
theorem dX10_land_156 : decode cX10_land 156 = .ok (.getfield 54, 3) := by decide +kernel
theorem dX10_land_159 : decode cX10_land 159 = .ok (.iconst 1, 1) := by decide +kernel
theorem dX10_land_160 : decode cX10_land 160 = .ok (.iadd, 1) := by decide +kernel
theorem dX10_land_161 : decode cX10_land 161 = .ok (.putfield 54, 3) := by decide +kernel
theorem dX10_land_164 : decode cX10_land 164 = .ok (.aload_n 0, 1) := by decide +kernel
theorem dX10_land_165 : decode cX10_land 165 = .ok (.invokevirtual 130, 3) := by decide +kernel
theorem dX10_land_168 : decode cX10_land 168 = .ok (.iinc 1 1, 3) := by decide +kernel
theorem dX10_land_171 : decode cX10_land 171 = .ok (.goto (-39), 3) := by decide +kernel
theorem dX10_land_174 : decode cX10_land 174 = .ok (.aload_n 0, 1) := by decide +kernel
theorem dX10_land_175 : decode cX10_land 175 = .ok (.getfield 60, 3) := by decide +kernel
theorem dX10_land_178 : decode cX10_land 178 = .ok (.ifCond .ne 14, 3) := by decide +kernel
theorem dX10_land_181 : decode cX10_land 181 = .ok (.aload_n 0, 1) := by decide +kernel
theorem dX10_land_182 : decode cX10_land 182 = .ok (.getfield 54, 3) := by decide +kernel
theorem dX10_land_185 : decode cX10_land 185 = .ok (.aload_n 0, 1) := by decide +kernel
theorem dX10_land_186 : decode cX10_land 186 = .ok (.getfield 57, 3) := by decide +kernel
theorem dX10_land_189 : decode cX10_land 189 = .ok (.if_icmp .eq 11, 3) := by decide +kernel
theorem dX10_land_192 : decode cX10_land 192 = .ok (.bipush (-10), 2) := by decide +kernel
theorem dX10_land_194 : decode cX10_land 194 = .ok (.aload_n 0, 1) := by decide +kernel
theorem dX10_land_195 : decode cX10_land 195 = .ok (.getfield 54, 3) := by decide +kernel
theorem dX10_land_198 : decode cX10_land 198 = .ok (.isub, 1) := by decide +kernel
theorem dX10_land_199 : decode cX10_land 199 = .ok (.ireturn, 1) := by decide +kernel
theorem dX10_land_200 : decode cX10_land 200 = .ok (.aload_n 0, 1) := by decide +kernel
theorem dX10_land_201 : decode cX10_land 201 = .ok (.getfield 9, 3) := by decide +kernel
theorem dX10_land_204 : decode cX10_land 204 = .ok (.iconst 2, 1) := by decide +kernel
theorem dX10_land_205 : decode cX10_land 205 = .ok (.dup2, 1) := by decide +kernel
theorem dX10_land_206 : decode cX10_land 206 = .ok (.iaload, 1) := by decide +kernel
theorem dX10_land_207 : decode cX10_land 207 = .ok (.iconst 1, 1) := by decide +kernel
theorem dX10_land_208 : decode cX10_land 208 = .ok (.iadd, 1) := by decide +kernel
theorem dX10_land_209 : decode cX10_land 209 = .ok (.iastore, 1) := by decide +kernel
theorem dX10_land_210 : decode cX10_land 210 = .ok (.aload_n 0, 1) := by decide +kernel
theorem dX10_land_211 : decode cX10_land 211 = .ok (.getfield 9, 3) := by decide +kernel
theorem dX10_land_214 : decode cX10_land 214 = .ok (.bipush 9, 2) := by decide +kernel
theorem dX10_land_216 : decode cX10_land 216 = .ok (.aload_n 0, 1) := by decide +kernel
theorem dX10_land_217 : decode cX10_land 217 = .ok (.getfield 81, 3) := by decide +kernel
theorem dX10_land_220 : decode cX10_land 220 = .ok (.iastore, 1) := by decide +kernel
theorem dX10_land_221 : decode cX10_land 221 = .ok (.aload_n 0, 1) := by decide +kernel
theorem dX10_land_222 : decode cX10_land 222 = .ok (.getfield 81, 3) := by decide +kernel
theorem dX10_land_225 : decode cX10_land 225 = .ok (.ireturn, 1) := by decide +kernel
def fX10_land_B192 (μ : vr_M) : Option (Int × vr_M) :=
  vr_gd (vr_R ((-10) - (μ 68 6))) (some ((-10) - (μ 68 6), μ))
def fX10_land_B174 (μ : vr_M) : Option (Int × vr_M) :=
  vr_gd (vr_R (μ 68 8)) (if ¬ (μ 68 8) = 0 then fX10_land_B192 μ else vr_gd (vr_R (μ 68 6)) (vr_gd (vr_R (μ 68 7)) (if (μ 68 6) = (μ 68 7) then vr_let (vr_u μ 69 2 ((μ 69 2) + 1)) (fun μ5 => vr_let (vr_u μ5 69 9 (μ5 68 5)) (fun μ6 => vr_gd (vr_R (μ6 68 5)) (some (μ6 68 5, μ6)))) else fX10_land_B192 μ)))
def fX10_land_L132 : Nat → Int → vr_M → Option (Int × vr_M)
  | 0, _, _ => none
  | n + 1, x1, μ => vr_gd (vr_R (μ 68 8)) (if ¬ (μ 68 8) = 0 then fX10_land_B174 μ else if 10 ≤ x1 then fX10_land_B174 μ else (fX10_here  μ).bind (fun r9 => if ¬ r9.1 = 59 then fX10_land_B174 r9.2 else (fX10_clauseHere  (vr_u r9.2 68 6 ((r9.2 68 6) + 1))).bind (fun r10 => vr_gd (vr_R (x1 + 1)) ((fX10_land_L132 n) (x1 + 1) r10.2))))
def fX10_land (μ : vr_M) : Option (Int × vr_M) :=
  vr_gd (vr_R (μ 69 2)) (if ¬ (μ 69 2) = 5 then vr_let (vr_u μ 68 5 (μ 69 2)) (fun μ13 => vr_let (vr_u (vr_u μ13 68 7 (μ13 69 4)) 69 4 0) (fun μ14 => vr_gd (0 ≤ (208 + (μ14 68 5)) ∧ (208 + (μ14 68 5)) < 933) (vr_let (vr_u μ14 69 (208 + (μ14 68 5)).toNat 99) (fun μ16 => vr_gd (0 ≤ (213 + (μ16 68 5)) ∧ (213 + (μ16 68 5)) < 933) (vr_let (vr_u μ16 69 (213 + (μ16 68 5)).toNat 0) (fun μ18 => vr_gd (0 ≤ (218 + (μ18 68 5)) ∧ (218 + (μ18 68 5)) < 933) (vr_let (vr_u μ18 69 (218 + (μ18 68 5)).toNat 0) (fun μ20 => vr_gd (0 ≤ (223 + (μ20 68 5)) ∧ (223 + (μ20 68 5)) < 933) (vr_let (vr_u μ20 69 (223 + (μ20 68 5)).toNat 0) (fun μ22 => vr_gd (0 ≤ (228 + (μ22 68 5)) ∧ (228 + (μ22 68 5)) < 933) ((fX10_clauseHere  (vr_u (vr_u (vr_u (vr_u μ22 69 (228 + (μ22 68 5)).toNat 0) 68 6 0) 68 8 0) 68 9 0)).bind (fun r24 => fX10_land_L132 9000 1 r24.2)))))))))))) else some ((-4), μ))
set_option maxRecDepth 100000 in
set_option maxHeartbeats 4000000 in
theorem ct_X10_land (l : Launch) (G : vr_G) (μ : vr_M) : vr_CI l yX10_land cX10_land 2 (some .int) ({ frames := 48, cells := 0, slots := 0, locals := 1621 } : Room) G [.ref (vr_ad G 68)] μ (fX10_land μ) := by
  refine vr_start (own := RX10) (by decide) rfl (Nat.le_of_ble_eq_true rfl) (fun p e s m args below meth c C0 => ?_)
  show vr_J p l e _ s m args below meth c 2 0 0 G (vr_Z (vr_QI G) G args s below) 0 [(0, .ref (vr_ad G 68))] [] μ _
  have B192 : ∀ (μ : vr_M), vr_J p l e ({ frames := 48, cells := 0, slots := 0, locals := 1621 } : Room) s m args below meth c 2 0 0 G (vr_Z (vr_QI G) G args s below) 192 [(0, .ref (vr_ad G 68))] [] μ (fX10_land_B192 μ) := by
    intro μ
    unfold fX10_land_B192
    refine jr_bipush C0 dX10_land_192 rfl ?_
    refine jr_aload_n C0 0 dX10_land_194 rfl rfl ?_
    refine jr_geti C0 (by decide) kd_68 (by decide) rfl wx_X10 (i := 6) (by decide) wf_X10_54 rfl dX10_land_195 ?_
    refine jr_isub C0 dX10_land_198 ?_
    refine jr_gd (fun g1 => ?_)
    exact jr_iret C0 g1 dX10_land_199
  have B174 : ∀ (μ : vr_M), vr_J p l e ({ frames := 48, cells := 0, slots := 0, locals := 1621 } : Room) s m args below meth c 2 0 0 G (vr_Z (vr_QI G) G args s below) 174 [(0, .ref (vr_ad G 68))] [] μ (fX10_land_B174 μ) := by
    intro μ
    unfold fX10_land_B174
    refine jr_aload_n C0 0 dX10_land_174 rfl rfl ?_
    refine jr_geti C0 (by decide) kd_68 (by decide) rfl wx_X10 (i := 8) (by decide) wf_X10_60 rfl dX10_land_175 ?_
    refine jr_gd (fun g2 => ?_)
    refine jr_if_ne C0 g2 dX10_land_178 (tgt := 192) (by decide) ?_ ?_
    · exact B192 _
    refine jr_aload_n C0 0 dX10_land_181 rfl rfl ?_
    refine jr_geti C0 (by decide) kd_68 (by decide) rfl wx_X10 (i := 6) (by decide) wf_X10_54 rfl dX10_land_182 ?_
    refine jr_aload_n C0 0 dX10_land_185 rfl rfl ?_
    refine jr_geti C0 (by decide) kd_68 (by decide) rfl wx_X10 (i := 7) (by decide) wf_X10_57 rfl dX10_land_186 ?_
    refine jr_gd (fun g3 => ?_)
    refine jr_gd (fun g4 => ?_)
    refine jr_icmp_eq C0 g3 g4 dX10_land_189 (tgt := 200) (by decide) ?_ ?_
    · refine jr_aload_n C0 0 dX10_land_200 rfl rfl ?_
      refine jr_getr C0 (by decide) kd_68 (by decide) rfl wx_X10 (i := 1) (by decide) wf_X10_9 (j := 69) rfl dX10_land_201 ?_
      refine jr_iconst C0 dX10_land_204 ?_
      refine jr_dup2 C0 rfl rfl dX10_land_205 ?_
      refine jr_iald C0 (by decide) kd_69 kl_69 (by decide) (j := 2) rfl dX10_land_206 ?_
      refine jr_iconst C0 dX10_land_207 ?_
      refine jr_iadd C0 dX10_land_208 ?_
      refine jr_iast C0 (by decide) kd_69 kl_69 (by decide) (j := 2) rfl dX10_land_209 ?_
      refine jr_aload_n C0 0 dX10_land_210 rfl rfl ?_
      refine jr_getr C0 (by decide) kd_68 (by decide) rfl wx_X10 (i := 1) (by decide) wf_X10_9 (j := 69) rfl dX10_land_211 ?_
      refine jr_bipush C0 dX10_land_214 rfl ?_
      refine jr_aload_n C0 0 dX10_land_216 rfl rfl ?_
      refine jr_let (fun μ5 => ?_)
      refine jr_geti C0 (by decide) kd_68 (by decide) rfl wx_X10 (i := 5) (by decide) wf_X10_81 rfl dX10_land_217 ?_
      refine jr_iast C0 (by decide) kd_69 kl_69 (by decide) (j := 9) rfl dX10_land_220 ?_
      refine jr_aload_n C0 0 dX10_land_221 rfl rfl ?_
      refine jr_let (fun μ6 => ?_)
      refine jr_geti C0 (by decide) kd_68 (by decide) rfl wx_X10 (i := 5) (by decide) wf_X10_81 rfl dX10_land_222 ?_
      refine jr_gd (fun g7 => ?_)
      exact jr_iret C0 g7 dX10_land_225
    exact B192 _
  have L132 : ∀ (n : Nat) (x1 : Int) (h_x1 : vr_R x1) (μ : vr_M), vr_J p l e ({ frames := 48, cells := 0, slots := 0, locals := 1621 } : Room) s m args below meth c 2 0 0 G (vr_Z (vr_QI G) G args s below) 132 [(0, .ref (vr_ad G 68)), (1, .int (vr_I x1))] [] μ (fX10_land_L132 n x1 μ) := by
    intro n132
    induction n132 with
    | zero => intros; exact jr_none
    | succ n132 ih132 =>
      intro x1 h_x1 μ
      rw [fX10_land_L132.eq_2]
      refine jr_aload_n C0 0 dX10_land_132 rfl rfl ?_
      refine jr_geti C0 (by decide) kd_68 (by decide) rfl wx_X10 (i := 8) (by decide) wf_X10_60 rfl dX10_land_133 ?_
      refine jr_gd (fun g8 => ?_)
      refine jr_if_ne C0 g8 dX10_land_136 (tgt := 174) (by decide) ?_ ?_
      · refine jr_sub [0] rfl ?_
        exact B174 _
      refine jr_iload_n C0 1 dX10_land_139 rfl rfl ?_
      refine jr_bipush C0 dX10_land_140 rfl ?_
      refine jr_icmp_ge C0 h_x1 (⟨by decide, by decide⟩) dX10_land_142 (tgt := 174) (by decide) ?_ ?_
      · refine jr_sub [0] rfl ?_
        exact B174 _
      refine jr_aload_n C0 0 dX10_land_145 rfl rfl ?_
      refine jr_vI C0 (by decide) kd_68 (by decide) rfl (ct_X10_here l G  _) mi_X10_here wm_X10_64 ⟨Nat.le_of_ble_eq_true rfl, Nat.le_of_ble_eq_true rfl⟩ ⟨rfl, rfl⟩ (As := []) rfl (st := []) rfl (Nat.le_of_ble_eq_true rfl) dX10_land_146 (fun r9 hr9 => ?_)
      refine jr_bipush C0 dX10_land_149 rfl ?_
      refine jr_icmp_ne C0 hr9 (⟨by decide, by decide⟩) dX10_land_151 (tgt := 174) (by decide) ?_ ?_
      · refine jr_sub [0] rfl ?_
        exact B174 _
      refine jr_aload_n C0 0 dX10_land_154 rfl rfl ?_
      refine jr_dup C0 rfl dX10_land_155 ?_
      refine jr_geti C0 (by decide) kd_68 (by decide) rfl wx_X10 (i := 6) (by decide) wf_X10_54 rfl dX10_land_156 ?_
      refine jr_iconst C0 dX10_land_159 ?_
      refine jr_iadd C0 dX10_land_160 ?_
      refine jr_puti C0 (by decide) kd_68 (by decide) rfl wx_X10 (i := 6) (by decide) wf_X10_54 rfl tyX10_ok nmX10 rfl rfl rfl dX10_land_161 ?_
      refine jr_aload_n C0 0 dX10_land_164 rfl rfl ?_
      refine jr_vV0 C0 (by decide) kd_68 (by decide) rfl (ct_X10_clauseHere l G  _) mi_X10_clauseHere wm_X10_130 ⟨Nat.le_of_ble_eq_true rfl, Nat.le_of_ble_eq_true rfl⟩ ⟨rfl, rfl⟩ (As := []) rfl (st := []) rfl (Nat.le_of_ble_eq_true rfl) dX10_land_165 (fun r10 => ?_)
      refine jr_iinc C0 (q := 1) dX10_land_168 rfl (by decide) (lv' := [(1, .int (vr_I (x1 + 1))), (0, .ref (vr_ad G 68))]) rfl ?_
      refine jr_goto C0 dX10_land_171 (tgt := 132) (by decide) ?_
      refine jr_gd (fun g11 => ?_)
      refine jr_sub [1, 0] rfl ?_
      exact ih132 (x1 + 1) g11 _
  unfold fX10_land
  refine jr_aload_n C0 0 dX10_land_0 rfl rfl ?_
  refine jr_getr C0 (by decide) kd_68 (by decide) rfl wx_X10 (i := 1) (by decide) wf_X10_9 (j := 69) rfl dX10_land_1 ?_
  refine jr_iconst C0 dX10_land_4 ?_
  refine jr_iald C0 (by decide) kd_69 kl_69 (by decide) (j := 2) rfl dX10_land_5 ?_
  refine jr_iconst C0 dX10_land_6 ?_
  refine jr_gd (fun g12 => ?_)
  refine jr_icmp_ne C0 g12 (⟨by decide, by decide⟩) dX10_land_7 (tgt := 13) (by decide) ?_ ?_
  · refine jr_aload_n C0 0 dX10_land_13 rfl rfl ?_
    refine jr_aload_n C0 0 dX10_land_14 rfl rfl ?_
    refine jr_getr C0 (by decide) kd_68 (by decide) rfl wx_X10 (i := 1) (by decide) wf_X10_9 (j := 69) rfl dX10_land_15 ?_
    refine jr_iconst C0 dX10_land_18 ?_
    refine jr_iald C0 (by decide) kd_69 kl_69 (by decide) (j := 2) rfl dX10_land_19 ?_
    refine jr_puti C0 (by decide) kd_68 (by decide) rfl wx_X10 (i := 5) (by decide) wf_X10_81 rfl tyX10_ok nmX10 rfl rfl rfl dX10_land_20 ?_
    refine jr_aload_n C0 0 dX10_land_23 rfl rfl ?_
    refine jr_aload_n C0 0 dX10_land_24 rfl rfl ?_
    refine jr_getr C0 (by decide) kd_68 (by decide) rfl wx_X10 (i := 1) (by decide) wf_X10_9 (j := 69) rfl dX10_land_25 ?_
    refine jr_iconst C0 dX10_land_28 ?_
    refine jr_let (fun μ13 => ?_)
    refine jr_iald C0 (by decide) kd_69 kl_69 (by decide) (j := 4) rfl dX10_land_29 ?_
    refine jr_puti C0 (by decide) kd_68 (by decide) rfl wx_X10 (i := 7) (by decide) wf_X10_57 rfl tyX10_ok nmX10 rfl rfl rfl dX10_land_30 ?_
    refine jr_aload_n C0 0 dX10_land_33 rfl rfl ?_
    refine jr_getr C0 (by decide) kd_68 (by decide) rfl wx_X10 (i := 1) (by decide) wf_X10_9 (j := 69) rfl dX10_land_34 ?_
    refine jr_iconst C0 dX10_land_37 ?_
    refine jr_iconst C0 dX10_land_38 ?_
    refine jr_iast C0 (by decide) kd_69 kl_69 (by decide) (j := 4) rfl dX10_land_39 ?_
    refine jr_aload_n C0 0 dX10_land_40 rfl rfl ?_
    refine jr_getr C0 (by decide) kd_68 (by decide) rfl wx_X10 (i := 1) (by decide) wf_X10_9 (j := 69) rfl dX10_land_41 ?_
    refine jr_sipush C0 dX10_land_44 rfl ?_
    refine jr_aload_n C0 0 dX10_land_47 rfl rfl ?_
    refine jr_let (fun μ14 => ?_)
    refine jr_geti C0 (by decide) kd_68 (by decide) rfl wx_X10 (i := 5) (by decide) wf_X10_81 rfl dX10_land_48 ?_
    refine jr_iadd C0 dX10_land_51 ?_
    refine jr_bipush C0 dX10_land_52 rfl ?_
    refine jr_gd (fun g15 => ?_)
    refine jr_iast C0 (by decide) kd_69 kl_69 g15 (j := (208 + (μ14 68 5)).toNat) rfl dX10_land_54 ?_
    refine jr_aload_n C0 0 dX10_land_55 rfl rfl ?_
    refine jr_getr C0 (by decide) kd_68 (by decide) rfl wx_X10 (i := 1) (by decide) wf_X10_9 (j := 69) rfl dX10_land_56 ?_
    refine jr_sipush C0 dX10_land_59 rfl ?_
    refine jr_aload_n C0 0 dX10_land_62 rfl rfl ?_
    refine jr_let (fun μ16 => ?_)
    refine jr_geti C0 (by decide) kd_68 (by decide) rfl wx_X10 (i := 5) (by decide) wf_X10_81 rfl dX10_land_63 ?_
    refine jr_iadd C0 dX10_land_66 ?_
    refine jr_iconst C0 dX10_land_67 ?_
    refine jr_gd (fun g17 => ?_)
    refine jr_iast C0 (by decide) kd_69 kl_69 g17 (j := (213 + (μ16 68 5)).toNat) rfl dX10_land_68 ?_
    refine jr_aload_n C0 0 dX10_land_69 rfl rfl ?_
    refine jr_getr C0 (by decide) kd_68 (by decide) rfl wx_X10 (i := 1) (by decide) wf_X10_9 (j := 69) rfl dX10_land_70 ?_
    refine jr_sipush C0 dX10_land_73 rfl ?_
    refine jr_aload_n C0 0 dX10_land_76 rfl rfl ?_
    refine jr_let (fun μ18 => ?_)
    refine jr_geti C0 (by decide) kd_68 (by decide) rfl wx_X10 (i := 5) (by decide) wf_X10_81 rfl dX10_land_77 ?_
    refine jr_iadd C0 dX10_land_80 ?_
    refine jr_iconst C0 dX10_land_81 ?_
    refine jr_gd (fun g19 => ?_)
    refine jr_iast C0 (by decide) kd_69 kl_69 g19 (j := (218 + (μ18 68 5)).toNat) rfl dX10_land_82 ?_
    refine jr_aload_n C0 0 dX10_land_83 rfl rfl ?_
    refine jr_getr C0 (by decide) kd_68 (by decide) rfl wx_X10 (i := 1) (by decide) wf_X10_9 (j := 69) rfl dX10_land_84 ?_
    refine jr_sipush C0 dX10_land_87 rfl ?_
    refine jr_aload_n C0 0 dX10_land_90 rfl rfl ?_
    refine jr_let (fun μ20 => ?_)
    refine jr_geti C0 (by decide) kd_68 (by decide) rfl wx_X10 (i := 5) (by decide) wf_X10_81 rfl dX10_land_91 ?_
    refine jr_iadd C0 dX10_land_94 ?_
    refine jr_iconst C0 dX10_land_95 ?_
    refine jr_gd (fun g21 => ?_)
    refine jr_iast C0 (by decide) kd_69 kl_69 g21 (j := (223 + (μ20 68 5)).toNat) rfl dX10_land_96 ?_
    refine jr_aload_n C0 0 dX10_land_97 rfl rfl ?_
    refine jr_getr C0 (by decide) kd_68 (by decide) rfl wx_X10 (i := 1) (by decide) wf_X10_9 (j := 69) rfl dX10_land_98 ?_
    refine jr_sipush C0 dX10_land_101 rfl ?_
    refine jr_aload_n C0 0 dX10_land_104 rfl rfl ?_
    refine jr_let (fun μ22 => ?_)
    refine jr_geti C0 (by decide) kd_68 (by decide) rfl wx_X10 (i := 5) (by decide) wf_X10_81 rfl dX10_land_105 ?_
    refine jr_iadd C0 dX10_land_108 ?_
    refine jr_iconst C0 dX10_land_109 ?_
    refine jr_gd (fun g23 => ?_)
    refine jr_iast C0 (by decide) kd_69 kl_69 g23 (j := (228 + (μ22 68 5)).toNat) rfl dX10_land_110 ?_
    refine jr_aload_n C0 0 dX10_land_111 rfl rfl ?_
    refine jr_iconst C0 dX10_land_112 ?_
    refine jr_puti C0 (by decide) kd_68 (by decide) rfl wx_X10 (i := 6) (by decide) wf_X10_54 rfl tyX10_ok nmX10 rfl rfl rfl dX10_land_113 ?_
    refine jr_aload_n C0 0 dX10_land_116 rfl rfl ?_
    refine jr_iconst C0 dX10_land_117 ?_
    refine jr_puti C0 (by decide) kd_68 (by decide) rfl wx_X10 (i := 8) (by decide) wf_X10_60 rfl tyX10_ok nmX10 rfl (vr_nz (Or.inl rfl)) ((vr_fz .boolean (Or.inr rfl) (fun _ => (Or.inl rfl))).2) dX10_land_118 ?_
    refine jr_aload_n C0 0 dX10_land_121 rfl rfl ?_
    refine jr_iconst C0 dX10_land_122 ?_
    refine jr_puti C0 (by decide) kd_68 (by decide) rfl wx_X10 (i := 9) (by decide) wf_X10_84 rfl tyX10_ok nmX10 rfl rfl rfl dX10_land_123 ?_
    refine jr_iconst C0 dX10_land_126 ?_
    refine jr_istore_n C0 dX10_land_127 rfl (by decide) (lv' := [(1, .int (vr_I 1)), (0, .ref (vr_ad G 68))]) rfl ?_
    refine jr_aload_n C0 1 dX10_land_128 rfl rfl ?_
    refine jr_vV0 C0 (by decide) kd_68 (by decide) rfl (ct_X10_clauseHere l G  _) mi_X10_clauseHere wm_X10_130 ⟨Nat.le_of_ble_eq_true rfl, Nat.le_of_ble_eq_true rfl⟩ ⟨rfl, rfl⟩ (As := []) rfl (st := []) rfl (Nat.le_of_ble_eq_true rfl) dX10_land_129 (fun r24 => ?_)
    refine jr_sub [1, 0] rfl ?_
    exact L132 9000 1 (⟨by decide, by decide⟩) _
  refine jr_bipush C0 dX10_land_10 rfl ?_
  exact jr_iret C0 (⟨by decide, by decide⟩) dX10_land_12
theorem dX10_tellsOf_0 : decode cX10_tellsOf 0 = .ok (.aload_n 0, 1) := by decide +kernel
theorem dX10_tellsOf_1 : decode cX10_tellsOf 1 = .ok (.getfield 9, 3) := by decide +kernel
theorem dX10_tellsOf_4 : decode cX10_tellsOf 4 = .ok (.bipush 9, 2) := by decide +kernel
theorem dX10_tellsOf_6 : decode cX10_tellsOf 6 = .ok (.iaload, 1) := by decide +kernel
theorem dX10_tellsOf_7 : decode cX10_tellsOf 7 = .ok (.iconst (-1), 1) := by decide +kernel
theorem dX10_tellsOf_8 : decode cX10_tellsOf 8 = .ok (.if_icmp .ne 7, 3) := by decide +kernel
theorem dX10_tellsOf_11 : decode cX10_tellsOf 11 = .ok (.iload_n 2, 1) := by decide +kernel
theorem dX10_tellsOf_12 : decode cX10_tellsOf 12 = .ok (.goto 17, 3) := by decide +kernel
theorem dX10_tellsOf_15 : decode cX10_tellsOf 15 = .ok (.aload_n 0, 1) := by decide +kernel
theorem dX10_tellsOf_16 : decode cX10_tellsOf 16 = .ok (.getfield 9, 3) := by decide +kernel
theorem dX10_tellsOf_19 : decode cX10_tellsOf 19 = .ok (.iload_n 1, 1) := by decide +kernel
theorem dX10_tellsOf_20 : decode cX10_tellsOf 20 = .ok (.aload_n 0, 1) := by decide +kernel
theorem dX10_tellsOf_21 : decode cX10_tellsOf 21 = .ok (.getfield 9, 3) := by decide +kernel
theorem dX10_tellsOf_24 : decode cX10_tellsOf 24 = .ok (.bipush 9, 2) := by decide +kernel
theorem dX10_tellsOf_26 : decode cX10_tellsOf 26 = .ok (.iaload, 1) := by decide +kernel
theorem dX10_tellsOf_27 : decode cX10_tellsOf 27 = .ok (.iadd, 1) := by decide +kernel
theorem dX10_tellsOf_28 : decode cX10_tellsOf 28 = .ok (.iaload, 1) := by decide +kernel
theorem dX10_tellsOf_29 : decode cX10_tellsOf 29 = .ok (.ireturn, 1) := by decide +kernel
def fX10_tellsOf_B29 (y0 : Int) (μ : vr_M) : Option (Int × vr_M) :=
  some (y0, μ)
def fX10_tellsOf (a0 : Int) (a1 : Int) (μ : vr_M) : Option (Int × vr_M) :=
  vr_gd (vr_R (μ 69 9)) (if ¬ (μ 69 9) = (-1) then vr_gd (0 ≤ (a0 + (μ 69 9)) ∧ (a0 + (μ 69 9)) < 933) (vr_gd (vr_R (μ 69 (a0 + (μ 69 9)).toNat)) (fX10_tellsOf_B29 (μ 69 (a0 + (μ 69 9)).toNat) μ)) else fX10_tellsOf_B29 a1 μ)
set_option maxRecDepth 100000 in
set_option maxHeartbeats 4000000 in
theorem ct_X10_tellsOf (l : Launch) (G : vr_G) (a0 : Int) (h_a0 : vr_R a0) (a1 : Int) (h_a1 : vr_R a1) (μ : vr_M) : vr_CI l yX10_tellsOf cX10_tellsOf 3 (some .int) ({ frames := 0, cells := 0, slots := 0, locals := 0 } : Room) G [.ref (vr_ad G 68), .int (vr_I a0), .int (vr_I a1)] μ (fX10_tellsOf a0 a1 μ) := by
  refine vr_start (own := RX10) (by decide) rfl (Nat.le_of_ble_eq_true rfl) (fun p e s m args below meth c C0 => ?_)
  show vr_J p l e _ s m args below meth c 3 0 0 G (vr_Z (vr_QI G) G args s below) 0 [(0, .ref (vr_ad G 68)), (1, .int (vr_I a0)), (2, .int (vr_I a1))] [] μ _
  have B29 : ∀ (y0 : Int) (h_y0 : vr_R y0) (μ : vr_M), vr_J p l e ({ frames := 0, cells := 0, slots := 0, locals := 0 } : Room) s m args below meth c 3 0 0 G (vr_Z (vr_QI G) G args s below) 29 [] [.int (vr_I y0)] μ (fX10_tellsOf_B29 y0 μ) := by
    intro y0 h_y0 μ
    unfold fX10_tellsOf_B29
    exact jr_iret C0 h_y0 dX10_tellsOf_29
  unfold fX10_tellsOf
  refine jr_aload_n C0 0 dX10_tellsOf_0 rfl rfl ?_
  refine jr_getr C0 (by decide) kd_68 (by decide) rfl wx_X10 (i := 1) (by decide) wf_X10_9 (j := 69) rfl dX10_tellsOf_1 ?_
  refine jr_bipush C0 dX10_tellsOf_4 rfl ?_
  refine jr_iald C0 (by decide) kd_69 kl_69 (by decide) (j := 9) rfl dX10_tellsOf_6 ?_
  refine jr_iconst C0 dX10_tellsOf_7 ?_
  refine jr_gd (fun g1 => ?_)
  refine jr_icmp_ne C0 g1 (⟨by decide, by decide⟩) dX10_tellsOf_8 (tgt := 15) (by decide) ?_ ?_
  · refine jr_aload_n C0 0 dX10_tellsOf_15 rfl rfl ?_
    refine jr_getr C0 (by decide) kd_68 (by decide) rfl wx_X10 (i := 1) (by decide) wf_X10_9 (j := 69) rfl dX10_tellsOf_16 ?_
    refine jr_iload_n C0 1 dX10_tellsOf_19 rfl rfl ?_
    refine jr_aload_n C0 0 dX10_tellsOf_20 rfl rfl ?_
    refine jr_getr C0 (by decide) kd_68 (by decide) rfl wx_X10 (i := 1) (by decide) wf_X10_9 (j := 69) rfl dX10_tellsOf_21 ?_
    refine jr_bipush C0 dX10_tellsOf_24 rfl ?_
    refine jr_iald C0 (by decide) kd_69 kl_69 (by decide) (j := 9) rfl dX10_tellsOf_26 ?_
    refine jr_iadd C0 dX10_tellsOf_27 ?_
    refine jr_gd (fun g2 => ?_)
    refine jr_iald C0 (by decide) kd_69 kl_69 g2 (j := (a0 + (μ 69 9)).toNat) rfl dX10_tellsOf_28 ?_
    refine jr_gd (fun g3 => ?_)
    refine jr_sub [] rfl ?_
    exact B29 (μ 69 (a0 + (μ 69 9)).toNat) g3 _
  refine jr_iload_n C0 2 dX10_tellsOf_11 rfl rfl ?_
  refine jr_goto C0 dX10_tellsOf_12 (tgt := 29) (by decide) ?_
  refine jr_sub [] rfl ?_
  exact B29 a1 h_a1 _

theorem dX0_follow_0 : decode cX0_follow 0 = .ok (.aload_n 0, 1) := by decide +kernel
theorem dX0_follow_1 : decode cX0_follow 1 = .ok (.iload_n 1, 1) := by decide +kernel
theorem dX0_follow_2 : decode cX0_follow 2 = .ok (.putfield 36, 3) := by decide +kernel
theorem dX0_follow_5 : decode cX0_follow 5 = .ok (.aload_n 0, 1) := by decide +kernel
theorem dX0_follow_6 : decode cX0_follow 6 = .ok (.iload_n 2, 1) := by decide +kernel
theorem dX0_follow_7 : decode cX0_follow 7 = .ok (.putfield 9, 3) := by decide +kernel
theorem dX0_follow_10 : decode cX0_follow 10 = .ok (.return_, 1) := by decide +kernel
def fX0_follow (a0 : Int) (a1 : Int) (μ : vr_M) : Option (Int × vr_M) :=
  some (0, vr_u (vr_u μ 58 2 a0) 58 3 a1)
set_option maxRecDepth 100000 in
set_option maxHeartbeats 4000000 in
theorem ct_X0_follow (l : Launch) (G : vr_G) (a0 : Int) (h_a0 : vr_R a0) (a1 : Int) (h_a1 : vr_R a1) (μ : vr_M) : vr_CV l yX0_follow cX0_follow 3 none ({ frames := 0, cells := 0, slots := 0, locals := 0 } : Room) G [.ref (vr_ad G 58), .int (vr_I a0), .int (vr_I a1)] μ (fX0_follow a0 a1 μ) := by
  refine vr_start (own := RX0) (by decide) rfl (Nat.le_of_ble_eq_true rfl) (fun p e s m args below meth c C0 => ?_)
  show vr_J p l e _ s m args below meth c 3 0 0 G (vr_Z (vr_QV G) G args s below) 0 [(0, .ref (vr_ad G 58)), (1, .int (vr_I a0)), (2, .int (vr_I a1))] [] μ _
  unfold fX0_follow
  refine jr_aload_n C0 0 dX0_follow_0 rfl rfl ?_
  refine jr_iload_n C0 1 dX0_follow_1 rfl rfl ?_
  refine jr_puti C0 (by decide) kd_58 (by decide) rfl wx_X0 (i := 2) (by decide) wf_X0_36 rfl tyX0_ok nmX0 rfl rfl rfl dX0_follow_2 ?_
  refine jr_aload_n C0 0 dX0_follow_5 rfl rfl ?_
  refine jr_iload_n C0 2 dX0_follow_6 rfl rfl ?_
  refine jr_puti C0 (by decide) kd_58 (by decide) rfl wx_X0 (i := 3) (by decide) wf_X0_9 rfl tyX0_ok nmX0 rfl rfl rfl dX0_follow_7 ?_
  exact jr_vret C0 dX0_follow_10
theorem dX0_turn_0 : decode cX0_turn 0 = .ok (.aload_n 0, 1) := by decide +kernel
theorem dX0_turn_1 : decode cX0_turn 1 = .ok (.getfield 36, 3) := by decide +kernel
theorem dX0_turn_4 : decode cX0_turn 4 = .ok (.iconst 1, 1) := by decide +kernel
theorem dX0_turn_5 : decode cX0_turn 5 = .ok (.if_icmp .ne 25, 3) := by decide +kernel
theorem dX0_turn_8 : decode cX0_turn 8 = .ok (.aload_n 0, 1) := by decide +kernel
theorem dX0_turn_9 : decode cX0_turn 9 = .ok (.getfield 9, 3) := by decide +kernel
theorem dX0_turn_12 : decode cX0_turn 12 = .ok (.ifCond .le 18, 3) := by decide +kernel
theorem dX0_turn_15 : decode cX0_turn 15 = .ok (.aload_n 0, 1) := by decide +kernel
theorem dX0_turn_16 : decode cX0_turn 16 = .ok (.getfield 28, 3) := by decide +kernel
theorem dX0_turn_19 : decode cX0_turn 19 = .ok (.getfield 39, 3) := by decide +kernel
theorem dX0_turn_22 : decode cX0_turn 22 = .ok (.aload_n 0, 1) := by decide +kernel
theorem dX0_turn_23 : decode cX0_turn 23 = .ok (.getfield 9, 3) := by decide +kernel
theorem dX0_turn_26 : decode cX0_turn 26 = .ok (.irem, 1) := by decide +kernel
theorem dX0_turn_27 : decode cX0_turn 27 = .ok (.goto 4, 3) := by decide +kernel
theorem dX0_turn_30 : decode cX0_turn 30 = .ok (.iconst 0, 1) := by decide +kernel
theorem dX0_turn_31 : decode cX0_turn 31 = .ok (.ireturn, 1) := by decide +kernel
def fX0_turn_B31 (y0 : Int) (μ : vr_M) : Option (Int × vr_M) :=
  some (y0, μ)
def fX0_turn_B30 (μ : vr_M) : Option (Int × vr_M) :=
  fX0_turn_B31 0 μ
def fX0_turn (μ : vr_M) : Option (Int × vr_M) :=
  vr_gd (vr_R (μ 58 2)) (if ¬ (μ 58 2) = 1 then fX0_turn_B30 μ else vr_gd (vr_R (μ 58 3)) (if (μ 58 3) ≤ 0 then fX0_turn_B30 μ else vr_gd (vr_R (μ 52 8)) (vr_gd (¬ (μ 58 3) = 0) (vr_gd (vr_R ((μ 52 8).tmod (μ 58 3))) (fX0_turn_B31 ((μ 52 8).tmod (μ 58 3)) μ)))))
set_option maxRecDepth 100000 in
set_option maxHeartbeats 4000000 in
theorem ct_X0_turn (l : Launch) (G : vr_G) (μ : vr_M) : vr_CI l yX0_turn cX0_turn 1 (some .int) ({ frames := 0, cells := 0, slots := 0, locals := 0 } : Room) G [.ref (vr_ad G 58)] μ (fX0_turn μ) := by
  refine vr_start (own := RX0) (by decide) rfl (Nat.le_of_ble_eq_true rfl) (fun p e s m args below meth c C0 => ?_)
  show vr_J p l e _ s m args below meth c 1 0 0 G (vr_Z (vr_QI G) G args s below) 0 [(0, .ref (vr_ad G 58))] [] μ _
  have B31 : ∀ (y0 : Int) (h_y0 : vr_R y0) (μ : vr_M), vr_J p l e ({ frames := 0, cells := 0, slots := 0, locals := 0 } : Room) s m args below meth c 1 0 0 G (vr_Z (vr_QI G) G args s below) 31 [] [.int (vr_I y0)] μ (fX0_turn_B31 y0 μ) := by
    intro y0 h_y0 μ
    unfold fX0_turn_B31
    exact jr_iret C0 h_y0 dX0_turn_31
  have B30 : ∀ (μ : vr_M), vr_J p l e ({ frames := 0, cells := 0, slots := 0, locals := 0 } : Room) s m args below meth c 1 0 0 G (vr_Z (vr_QI G) G args s below) 30 [] [] μ (fX0_turn_B30 μ) := by
    intro μ
    unfold fX0_turn_B30
    refine jr_iconst C0 dX0_turn_30 ?_
    exact B31 0 (⟨by decide, by decide⟩) _
  unfold fX0_turn
  refine jr_aload_n C0 0 dX0_turn_0 rfl rfl ?_
  refine jr_geti C0 (by decide) kd_58 (by decide) rfl wx_X0 (i := 2) (by decide) wf_X0_36 rfl dX0_turn_1 ?_
  refine jr_iconst C0 dX0_turn_4 ?_
  refine jr_gd (fun g1 => ?_)
  refine jr_icmp_ne C0 g1 (⟨by decide, by decide⟩) dX0_turn_5 (tgt := 30) (by decide) ?_ ?_
  · refine jr_sub [] rfl ?_
    exact B30 _
  refine jr_aload_n C0 0 dX0_turn_8 rfl rfl ?_
  refine jr_geti C0 (by decide) kd_58 (by decide) rfl wx_X0 (i := 3) (by decide) wf_X0_9 rfl dX0_turn_9 ?_
  refine jr_gd (fun g2 => ?_)
  refine jr_if_le C0 g2 dX0_turn_12 (tgt := 30) (by decide) ?_ ?_
  · refine jr_sub [] rfl ?_
    exact B30 _
  refine jr_aload_n C0 0 dX0_turn_15 rfl rfl ?_
  refine jr_getr C0 (by decide) kd_58 (by decide) rfl wx_X0 (i := 0) (by decide) wf_X0_28 (j := 52) rfl dX0_turn_16 ?_
  refine jr_geti C0 (by decide) kd_52 (by decide) rfl wx_X2 (i := 8) (by decide) wf_X0_39 rfl dX0_turn_19 ?_
  refine jr_aload_n C0 0 dX0_turn_22 rfl rfl ?_
  refine jr_geti C0 (by decide) kd_58 (by decide) rfl wx_X0 (i := 3) (by decide) wf_X0_9 rfl dX0_turn_23 ?_
  refine jr_gd (fun g3 => ?_)
  refine jr_gd (fun g4 => ?_)
  refine jr_irem C0 g3 g2 g4 dX0_turn_26 ?_
  refine jr_goto C0 dX0_turn_27 (tgt := 31) (by decide) ?_
  refine jr_gd (fun g5 => ?_)
  refine jr_sub [] rfl ?_
  exact B31 ((μ 52 8).tmod (μ 58 3)) g5 _
theorem dX2_has_0 : decode cX2_has 0 = .ok (.iload_n 1, 1) := by decide +kernel
theorem dX2_has_1 : decode cX2_has 1 = .ok (.ifCond .lt 21, 3) := by decide +kernel
theorem dX2_has_4 : decode cX2_has 4 = .ok (.iload_n 1, 1) := by decide +kernel
theorem dX2_has_5 : decode cX2_has 5 = .ok (.aload_n 0, 1) := by decide +kernel
theorem dX2_has_6 : decode cX2_has 6 = .ok (.getfield 31, 3) := by decide +kernel
theorem dX2_has_9 : decode cX2_has 9 = .ok (.if_icmp .ge 13, 3) := by decide +kernel
theorem dX2_has_12 : decode cX2_has 12 = .ok (.iload_n 1, 1) := by decide +kernel
theorem dX2_has_13 : decode cX2_has 13 = .ok (.bipush 8, 2) := by decide +kernel
theorem dX2_has_15 : decode cX2_has 15 = .ok (.if_icmp .ge 7, 3) := by decide +kernel
theorem dX2_has_18 : decode cX2_has 18 = .ok (.iconst 1, 1) := by decide +kernel
theorem dX2_has_19 : decode cX2_has 19 = .ok (.goto 4, 3) := by decide +kernel
theorem dX2_has_22 : decode cX2_has 22 = .ok (.iconst 0, 1) := by decide +kernel
theorem dX2_has_23 : decode cX2_has 23 = .ok (.ireturn, 1) := by decide +kernel
def fX2_has_B23 (k : Nat) (y0 : Int) (μ : vr_M) : Option (Int × vr_M) :=
  vr_gd (y0 = 0 ∨ y0 = 1) (some (y0, μ))
def fX2_has_B22 (k : Nat) (μ : vr_M) : Option (Int × vr_M) :=
  fX2_has_B23 k 0 μ
def fX2_has (k : Nat) (a0 : Int) (μ : vr_M) : Option (Int × vr_M) :=
  if a0 < 0 then fX2_has_B22 k μ else vr_gd (vr_R (μ k 5)) (if (μ k 5) ≤ a0 then fX2_has_B22 k μ else if 8 ≤ a0 then fX2_has_B22 k μ else fX2_has_B23 k 1 μ)
set_option maxRecDepth 100000 in
set_option maxHeartbeats 4000000 in
theorem ct_X2_has (l : Launch) (G : vr_G) {k : Nat} (hk_k : k < 78) (hd_k : vr_kd k = 2) (a0 : Int) (h_a0 : vr_R a0) (μ : vr_M) : vr_CI l yX2_has cX2_has 2 (some .boolean) ({ frames := 0, cells := 0, slots := 0, locals := 0 } : Room) G [.ref (vr_ad G k), .int (vr_I a0)] μ (fX2_has k a0 μ) := by
  refine vr_start (own := RX2) (by decide) rfl (Nat.le_of_ble_eq_true rfl) (fun p e s m args below meth c C0 => ?_)
  obtain ⟨q_k, ⟨d_k_1, d_k_2, d_k_3, d_k_4, d_k_5⟩, n_k_1, n_k_2, n_k_3, n_k_4, n_k_5⟩ := vr_hill hk_k hd_k
  show vr_J p l e _ s m args below meth c 2 0 0 G (vr_Z (vr_QI G) G args s below) 0 [(0, .ref (vr_ad G k)), (1, .int (vr_I a0))] [] μ _
  have B23 : ∀ (y0 : Int) (h_y0 : vr_R y0) (μ : vr_M), vr_J p l e ({ frames := 0, cells := 0, slots := 0, locals := 0 } : Room) s m args below meth c 2 0 0 G (vr_Z (vr_QI G) G args s below) 23 [] [.int (vr_I y0)] μ (fX2_has_B23 k y0 μ) := by
    intro y0 h_y0 μ
    unfold fX2_has_B23
    refine jr_gd (fun g1 => ?_)
    exact jr_zret C0 h_y0 (vr_nz g1) dX2_has_23
  have B22 : ∀ (μ : vr_M), vr_J p l e ({ frames := 0, cells := 0, slots := 0, locals := 0 } : Room) s m args below meth c 2 0 0 G (vr_Z (vr_QI G) G args s below) 22 [] [] μ (fX2_has_B22 k μ) := by
    intro μ
    unfold fX2_has_B22
    refine jr_iconst C0 dX2_has_22 ?_
    exact B23 0 (⟨by decide, by decide⟩) _
  unfold fX2_has
  refine jr_iload_n C0 1 dX2_has_0 rfl rfl ?_
  refine jr_if_lt C0 h_a0 dX2_has_1 (tgt := 22) (by decide) ?_ ?_
  · refine jr_sub [] rfl ?_
    exact B22 _
  refine jr_iload_n C0 1 dX2_has_4 rfl rfl ?_
  refine jr_aload_n C0 0 dX2_has_5 rfl rfl ?_
  refine jr_geti C0 hk_k hd_k (by decide) rfl wx_X2 (i := 5) (by decide) wf_X2_31 rfl dX2_has_6 ?_
  refine jr_gd (fun g2 => ?_)
  refine jr_icmp_ge C0 h_a0 g2 dX2_has_9 (tgt := 22) (by decide) ?_ ?_
  · refine jr_sub [] rfl ?_
    exact B22 _
  refine jr_iload_n C0 1 dX2_has_12 rfl rfl ?_
  refine jr_bipush C0 dX2_has_13 rfl ?_
  refine jr_icmp_ge C0 h_a0 (⟨by decide, by decide⟩) dX2_has_15 (tgt := 22) (by decide) ?_ ?_
  · refine jr_sub [] rfl ?_
    exact B22 _
  refine jr_iconst C0 dX2_has_18 ?_
  refine jr_goto C0 dX2_has_19 (tgt := 23) (by decide) ?_
  refine jr_sub [] rfl ?_
  exact B23 1 (⟨by decide, by decide⟩) _
theorem dX3_look_0 : decode cX3_look 0 = .ok (.aload_n 1, 1) := by decide +kernel
theorem dX3_look_1 : decode cX3_look 1 = .ok (.iload_n 2, 1) := by decide +kernel
theorem dX3_look_2 : decode cX3_look 2 = .ok (.invokevirtual 56, 3) := by decide +kernel
theorem dX3_look_5 : decode cX3_look 5 = .ok (.ifCond .eq 60, 3) := by decide +kernel
theorem dX3_look_8 : decode cX3_look 8 = .ok (.aload_n 0, 1) := by decide +kernel
theorem dX3_look_9 : decode cX3_look 9 = .ok (.getfield 21, 3) := by decide +kernel
theorem dX3_look_12 : decode cX3_look 12 = .ok (.iconst 0, 1) := by decide +kernel
theorem dX3_look_13 : decode cX3_look 13 = .ok (.aload_n 1, 1) := by decide +kernel
theorem dX3_look_14 : decode cX3_look 14 = .ok (.getfield 65, 3) := by decide +kernel
theorem dX3_look_17 : decode cX3_look 17 = .ok (.iload_n 2, 1) := by decide +kernel
theorem dX3_look_18 : decode cX3_look 18 = .ok (.iaload, 1) := by decide +kernel
theorem dX3_look_19 : decode cX3_look 19 = .ok (.iconst 1, 1) := by decide +kernel
theorem dX3_look_20 : decode cX3_look 20 = .ok (.iadd, 1) := by decide +kernel
theorem dX3_look_21 : decode cX3_look 21 = .ok (.iastore, 1) := by decide +kernel
theorem dX3_look_22 : decode cX3_look 22 = .ok (.aload_n 0, 1) := by decide +kernel
theorem dX3_look_23 : decode cX3_look 23 = .ok (.getfield 21, 3) := by decide +kernel
theorem dX3_look_26 : decode cX3_look 26 = .ok (.iconst 1, 1) := by decide +kernel
theorem dX3_look_27 : decode cX3_look 27 = .ok (.aload_n 1, 1) := by decide +kernel
theorem dX3_look_28 : decode cX3_look 28 = .ok (.getfield 78, 3) := by decide +kernel
theorem dX3_look_31 : decode cX3_look 31 = .ok (.iload_n 2, 1) := by decide +kernel
theorem dX3_look_32 : decode cX3_look 32 = .ok (.iaload, 1) := by decide +kernel
theorem dX3_look_33 : decode cX3_look 33 = .ok (.iastore, 1) := by decide +kernel
theorem dX3_look_34 : decode cX3_look 34 = .ok (.aload_n 0, 1) := by decide +kernel
theorem dX3_look_35 : decode cX3_look 35 = .ok (.getfield 21, 3) := by decide +kernel
theorem dX3_look_38 : decode cX3_look 38 = .ok (.iconst 2, 1) := by decide +kernel
theorem dX3_look_39 : decode cX3_look 39 = .ok (.aload_n 1, 1) := by decide +kernel
theorem dX3_look_40 : decode cX3_look 40 = .ok (.getfield 81, 3) := by decide +kernel
theorem dX3_look_43 : decode cX3_look 43 = .ok (.iload_n 2, 1) := by decide +kernel
theorem dX3_look_44 : decode cX3_look 44 = .ok (.iaload, 1) := by decide +kernel
theorem dX3_look_45 : decode cX3_look 45 = .ok (.iastore, 1) := by decide +kernel
theorem dX3_look_46 : decode cX3_look 46 = .ok (.aload_n 0, 1) := by decide +kernel
theorem dX3_look_47 : decode cX3_look 47 = .ok (.getfield 21, 3) := by decide +kernel
theorem dX3_look_50 : decode cX3_look 50 = .ok (.iconst 3, 1) := by decide +kernel
theorem dX3_look_51 : decode cX3_look 51 = .ok (.iload_n 3, 1) := by decide +kernel
theorem dX3_look_52 : decode cX3_look 52 = .ok (.iastore, 1) := by decide +kernel
theorem dX3_look_53 : decode cX3_look 53 = .ok (.aload_n 0, 1) := by decide +kernel
theorem dX3_look_54 : decode cX3_look 54 = .ok (.getfield 21, 3) := by decide +kernel
theorem dX3_look_57 : decode cX3_look 57 = .ok (.iconst 4, 1) := by decide +kernel
theorem dX3_look_58 : decode cX3_look 58 = .ok (.aload_n 1, 1) := by decide +kernel
theorem dX3_look_59 : decode cX3_look 59 = .ok (.getfield 84, 3) := by decide +kernel
theorem dX3_look_62 : decode cX3_look 62 = .ok (.iload_n 2, 1) := by decide +kernel
theorem dX3_look_63 : decode cX3_look 63 = .ok (.iaload, 1) := by decide +kernel
theorem dX3_look_64 : decode cX3_look 64 = .ok (.iastore, 1) := by decide +kernel
theorem dX3_look_65 : decode cX3_look 65 = .ok (.return_, 1) := by decide +kernel
def fX3_look_B65 (k : Nat) (k0 : Nat) (μ : vr_M) : Option (Int × vr_M) :=
  some (0, μ)
def fX3_look (k : Nat) (k0 : Nat) (a1 : Int) (a2 : Int) (μ : vr_M) : Option (Int × vr_M) :=
  (fX2_has k0 a1 μ).bind (fun r1 => if r1.1 = 0 then fX3_look_B65 k k0 r1.2 else vr_gd (0 ≤ a1 ∧ a1 < 8) (vr_let (vr_u r1.2 (k + 4) 0 ((r1.2 (k0 + 3) a1.toNat) + 1)) (fun μ3 => vr_let (vr_u μ3 (k + 4) 1 (μ3 (k0 + 4) a1.toNat)) (fun μ4 => vr_let (vr_u (vr_u μ4 (k + 4) 2 (μ4 (k0 + 1) a1.toNat)) (k + 4) 3 a2) (fun μ5 => fX3_look_B65 k k0 (vr_u μ5 (k + 4) 4 (μ5 (k0 + 2) a1.toNat)))))))
set_option maxRecDepth 100000 in
set_option maxHeartbeats 4000000 in
theorem ct_X3_look (l : Launch) (G : vr_G) {k : Nat} (hk_k : k < 78) (hd_k : vr_kd k = 3) {k0 : Nat} (hk_k0 : k0 < 78) (hd_k0 : vr_kd k0 = 2) (a1 : Int) (h_a1 : vr_R a1) (a2 : Int) (h_a2 : vr_R a2) (μ : vr_M) : vr_CV l yX3_look cX3_look 4 none ({ frames := 1, cells := 0, slots := 0, locals := 21 } : Room) G [.ref (vr_ad G k), .ref (vr_ad G k0), .int (vr_I a1), .int (vr_I a2)] μ (fX3_look k k0 a1 a2 μ) := by
  refine vr_start (own := RX3) (by decide) rfl (Nat.le_of_ble_eq_true rfl) (fun p e s m args below meth c C0 => ?_)
  obtain ⟨q_k, ⟨d_k_1, d_k_2, d_k_3, d_k_4⟩, n_k_1, n_k_2, n_k_3, n_k_4⟩ := vr_land hk_k hd_k
  obtain ⟨q_k0, ⟨d_k0_1, d_k0_2, d_k0_3, d_k0_4, d_k0_5⟩, n_k0_1, n_k0_2, n_k0_3, n_k0_4, n_k0_5⟩ := vr_hill hk_k0 hd_k0
  show vr_J p l e _ s m args below meth c 4 0 0 G (vr_Z (vr_QV G) G args s below) 0 [(0, .ref (vr_ad G k)), (1, .ref (vr_ad G k0)), (2, .int (vr_I a1)), (3, .int (vr_I a2))] [] μ _
  have B65 : ∀ (μ : vr_M), vr_J p l e ({ frames := 1, cells := 0, slots := 0, locals := 21 } : Room) s m args below meth c 4 0 0 G (vr_Z (vr_QV G) G args s below) 65 [] [] μ (fX3_look_B65 k k0 μ) := by
    intro μ
    unfold fX3_look_B65
    exact jr_vret C0 dX3_look_65
  unfold fX3_look
  refine jr_aload_n C0 1 dX3_look_0 rfl rfl ?_
  refine jr_iload_n C0 2 dX3_look_1 rfl rfl ?_
  refine jr_vI C0 hk_k0 hd_k0 (by decide) rfl (ct_X2_has l G hk_k0 hd_k0 a1 h_a1 _) mi_X2_has wm_X3_56 ⟨Nat.le_of_ble_eq_true rfl, Nat.le_of_ble_eq_true rfl⟩ ⟨rfl, rfl⟩ (As := [.int (vr_I a1)]) rfl (st := []) rfl (Nat.le_of_ble_eq_true rfl) dX3_look_2 (fun r1 hr1 => ?_)
  refine jr_if_eq C0 hr1 dX3_look_5 (tgt := 65) (by decide) ?_ ?_
  · refine jr_sub [] rfl ?_
    exact B65 _
  refine jr_aload_n C0 0 dX3_look_8 rfl rfl ?_
  refine jr_getr C0 hk_k hd_k (by decide) rfl wx_X3 (i := 9) (by decide) wf_X3_21 (j := (k + 4)) rfl dX3_look_9 ?_
  refine jr_iconst C0 dX3_look_12 ?_
  refine jr_aload_n C0 1 dX3_look_13 rfl rfl ?_
  refine jr_getr C0 hk_k0 hd_k0 (by decide) rfl wx_X2 (i := 2) (by decide) wf_X3_65 (j := (k0 + 3)) rfl dX3_look_14 ?_
  refine jr_iload_n C0 2 dX3_look_17 rfl rfl ?_
  refine jr_gd (fun g2 => ?_)
  refine jr_iald C0 (by omega) d_k0_3 n_k0_3 g2 (j := a1.toNat) rfl dX3_look_18 ?_
  refine jr_iconst C0 dX3_look_19 ?_
  refine jr_iadd C0 dX3_look_20 ?_
  refine jr_iast C0 (by omega) d_k_4 n_k_4 (by decide) (j := 0) rfl dX3_look_21 ?_
  refine jr_aload_n C0 0 dX3_look_22 rfl rfl ?_
  refine jr_getr C0 hk_k hd_k (by decide) rfl wx_X3 (i := 9) (by decide) wf_X3_21 (j := (k + 4)) rfl dX3_look_23 ?_
  refine jr_iconst C0 dX3_look_26 ?_
  refine jr_aload_n C0 1 dX3_look_27 rfl rfl ?_
  refine jr_getr C0 hk_k0 hd_k0 (by decide) rfl wx_X2 (i := 3) (by decide) wf_X3_78 (j := (k0 + 4)) rfl dX3_look_28 ?_
  refine jr_iload_n C0 2 dX3_look_31 rfl rfl ?_
  refine jr_let (fun μ3 => ?_)
  refine jr_iald C0 (by omega) d_k0_4 n_k0_4 g2 (j := a1.toNat) rfl dX3_look_32 ?_
  refine jr_iast C0 (by omega) d_k_4 n_k_4 (by decide) (j := 1) rfl dX3_look_33 ?_
  refine jr_aload_n C0 0 dX3_look_34 rfl rfl ?_
  refine jr_getr C0 hk_k hd_k (by decide) rfl wx_X3 (i := 9) (by decide) wf_X3_21 (j := (k + 4)) rfl dX3_look_35 ?_
  refine jr_iconst C0 dX3_look_38 ?_
  refine jr_aload_n C0 1 dX3_look_39 rfl rfl ?_
  refine jr_getr C0 hk_k0 hd_k0 (by decide) rfl wx_X2 (i := 0) (by decide) wf_X3_81 (j := (k0 + 1)) rfl dX3_look_40 ?_
  refine jr_iload_n C0 2 dX3_look_43 rfl rfl ?_
  refine jr_let (fun μ4 => ?_)
  refine jr_iald C0 (by omega) d_k0_1 n_k0_1 g2 (j := a1.toNat) rfl dX3_look_44 ?_
  refine jr_iast C0 (by omega) d_k_4 n_k_4 (by decide) (j := 2) rfl dX3_look_45 ?_
  refine jr_aload_n C0 0 dX3_look_46 rfl rfl ?_
  refine jr_getr C0 hk_k hd_k (by decide) rfl wx_X3 (i := 9) (by decide) wf_X3_21 (j := (k + 4)) rfl dX3_look_47 ?_
  refine jr_iconst C0 dX3_look_50 ?_
  refine jr_iload_n C0 3 dX3_look_51 rfl rfl ?_
  refine jr_iast C0 (by omega) d_k_4 n_k_4 (by decide) (j := 3) rfl dX3_look_52 ?_
  refine jr_aload_n C0 0 dX3_look_53 rfl rfl ?_
  refine jr_getr C0 hk_k hd_k (by decide) rfl wx_X3 (i := 9) (by decide) wf_X3_21 (j := (k + 4)) rfl dX3_look_54 ?_
  refine jr_iconst C0 dX3_look_57 ?_
  refine jr_aload_n C0 1 dX3_look_58 rfl rfl ?_
  refine jr_getr C0 hk_k0 hd_k0 (by decide) rfl wx_X2 (i := 1) (by decide) wf_X3_84 (j := (k0 + 2)) rfl dX3_look_59 ?_
  refine jr_iload_n C0 2 dX3_look_62 rfl rfl ?_
  refine jr_let (fun μ5 => ?_)
  refine jr_iald C0 (by omega) d_k0_2 n_k0_2 g2 (j := a1.toNat) rfl dX3_look_63 ?_
  refine jr_iast C0 (by omega) d_k_4 n_k_4 (by decide) (j := 4) rfl dX3_look_64 ?_
  refine jr_sub [] rfl ?_
  exact B65 _
theorem dX3_passes_0 : decode cX3_passes 0 = .ok (.iload_n 1, 1) := by decide +kernel
theorem dX3_passes_1 : decode cX3_passes 1 = .ok (.sipush 300, 3) := by decide +kernel
theorem dX3_passes_4 : decode cX3_passes 4 = .ok (.idiv, 1) := by decide +kernel
theorem dX3_passes_5 : decode cX3_passes 5 = .ok (.istore_n 2, 1) := by decide +kernel
theorem dX3_passes_6 : decode cX3_passes 6 = .ok (.iload_n 2, 1) := by decide +kernel
theorem dX3_passes_7 : decode cX3_passes 7 = .ok (.ifCond .lt 12, 3) := by decide +kernel
theorem dX3_passes_10 : decode cX3_passes 10 = .ok (.iload_n 2, 1) := by decide +kernel
theorem dX3_passes_11 : decode cX3_passes 11 = .ok (.aload_n 0, 1) := by decide +kernel
theorem dX3_passes_12 : decode cX3_passes 12 = .ok (.getfield 21, 3) := by decide +kernel
theorem dX3_passes_15 : decode cX3_passes 15 = .ok (.arraylength, 1) := by decide +kernel
theorem dX3_passes_16 : decode cX3_passes 16 = .ok (.if_icmp .lt 5, 3) := by decide +kernel
theorem dX3_passes_19 : decode cX3_passes 19 = .ok (.iconst 0, 1) := by decide +kernel
theorem dX3_passes_20 : decode cX3_passes 20 = .ok (.ireturn, 1) := by decide +kernel
theorem dX3_passes_21 : decode cX3_passes 21 = .ok (.iload_n 1, 1) := by decide +kernel
theorem dX3_passes_22 : decode cX3_passes 22 = .ok (.bipush 100, 2) := by decide +kernel
theorem dX3_passes_24 : decode cX3_passes 24 = .ok (.irem, 1) := by decide +kernel
theorem dX3_passes_25 : decode cX3_passes 25 = .ok (.istore_n 3, 1) := by decide +kernel
theorem dX3_passes_26 : decode cX3_passes 26 = .ok (.aload_n 0, 1) := by decide +kernel
theorem dX3_passes_27 : decode cX3_passes 27 = .ok (.getfield 21, 3) := by decide +kernel
theorem dX3_passes_30 : decode cX3_passes 30 = .ok (.iload_n 2, 1) := by decide +kernel
theorem dX3_passes_31 : decode cX3_passes 31 = .ok (.iaload, 1) := by decide +kernel
theorem dX3_passes_32 : decode cX3_passes 32 = .ok (.iload_n 3, 1) := by decide +kernel
theorem dX3_passes_33 : decode cX3_passes 33 = .ok (.if_icmp .ge 7, 3) := by decide +kernel
theorem dX3_passes_36 : decode cX3_passes 36 = .ok (.iconst 0, 1) := by decide +kernel
theorem dX3_passes_37 : decode cX3_passes 37 = .ok (.goto 18, 3) := by decide +kernel
theorem dX3_passes_40 : decode cX3_passes 40 = .ok (.aload_n 0, 1) := by decide +kernel
theorem dX3_passes_41 : decode cX3_passes 41 = .ok (.getfield 21, 3) := by decide +kernel
theorem dX3_passes_44 : decode cX3_passes 44 = .ok (.iload_n 2, 1) := by decide +kernel
theorem dX3_passes_45 : decode cX3_passes 45 = .ok (.iaload, 1) := by decide +kernel
theorem dX3_passes_46 : decode cX3_passes 46 = .ok (.iload_n 3, 1) := by decide +kernel
theorem dX3_passes_47 : decode cX3_passes 47 = .ok (.if_icmp .ne 7, 3) := by decide +kernel
theorem dX3_passes_50 : decode cX3_passes 50 = .ok (.iconst 1, 1) := by decide +kernel
theorem dX3_passes_51 : decode cX3_passes 51 = .ok (.goto 4, 3) := by decide +kernel
theorem dX3_passes_54 : decode cX3_passes 54 = .ok (.iconst 2, 1) := by decide +kernel
theorem dX3_passes_55 : decode cX3_passes 55 = .ok (.istore 4, 2) := by decide +kernel
theorem dX3_passes_57 : decode cX3_passes 57 = .ok (.iload 4, 2) := by decide +kernel
theorem dX3_passes_59 : decode cX3_passes 59 = .ok (.iload_n 1, 1) := by decide +kernel
theorem dX3_passes_60 : decode cX3_passes 60 = .ok (.bipush 100, 2) := by decide +kernel
theorem dX3_passes_62 : decode cX3_passes 62 = .ok (.idiv, 1) := by decide +kernel
theorem dX3_passes_63 : decode cX3_passes 63 = .ok (.iconst 3, 1) := by decide +kernel
theorem dX3_passes_64 : decode cX3_passes 64 = .ok (.irem, 1) := by decide +kernel
theorem dX3_passes_65 : decode cX3_passes 65 = .ok (.if_icmp .ne 7, 3) := by decide +kernel
theorem dX3_passes_68 : decode cX3_passes 68 = .ok (.iconst 1, 1) := by decide +kernel
theorem dX3_passes_69 : decode cX3_passes 69 = .ok (.goto 4, 3) := by decide +kernel
theorem dX3_passes_72 : decode cX3_passes 72 = .ok (.iconst 0, 1) := by decide +kernel
theorem dX3_passes_73 : decode cX3_passes 73 = .ok (.ireturn, 1) := by decide +kernel
def fX3_passes_B19 (k : Nat) (μ : vr_M) : Option (Int × vr_M) :=
  some (0, μ)
def fX3_passes_B73 (k : Nat) (y0 : Int) (μ : vr_M) : Option (Int × vr_M) :=
  some (y0, μ)
def fX3_passes_B55 (k : Nat) (x1 : Int) (y0 : Int) (μ : vr_M) : Option (Int × vr_M) :=
  vr_gd (vr_R (x1.tdiv 100)) (vr_gd (vr_R ((x1.tdiv 100).tmod 3)) (if ¬ y0 = ((x1.tdiv 100).tmod 3) then fX3_passes_B73 k 0 μ else fX3_passes_B73 k 1 μ))
def fX3_passes (k : Nat) (a0 : Int) (μ : vr_M) : Option (Int × vr_M) :=
  vr_gd (vr_R (a0.tdiv 300)) (if (a0.tdiv 300) < 0 then fX3_passes_B19 k μ else if (a0.tdiv 300) < 5 then vr_gd (0 ≤ (a0.tdiv 300) ∧ (a0.tdiv 300) < 5) (vr_gd (vr_R (μ (k + 4) (a0.tdiv 300).toNat)) (vr_gd (vr_R (a0.tmod 100)) (if (a0.tmod 100) ≤ (μ (k + 4) (a0.tdiv 300).toNat) then if ¬ (μ (k + 4) (a0.tdiv 300).toNat) = (a0.tmod 100) then fX3_passes_B55 k a0 2 μ else fX3_passes_B55 k a0 1 μ else fX3_passes_B55 k a0 0 μ))) else fX3_passes_B19 k μ)
set_option maxRecDepth 100000 in
set_option maxHeartbeats 4000000 in
theorem ct_X3_passes (l : Launch) (G : vr_G) {k : Nat} (hk_k : k < 78) (hd_k : vr_kd k = 3) (a0 : Int) (h_a0 : vr_R a0) (μ : vr_M) : vr_CI l yX3_passes cX3_passes 5 (some .int) ({ frames := 0, cells := 0, slots := 0, locals := 0 } : Room) G [.ref (vr_ad G k), .int (vr_I a0)] μ (fX3_passes k a0 μ) := by
  refine vr_start (own := RX3) (by decide) rfl (Nat.le_of_ble_eq_true rfl) (fun p e s m args below meth c C0 => ?_)
  obtain ⟨q_k, ⟨d_k_1, d_k_2, d_k_3, d_k_4⟩, n_k_1, n_k_2, n_k_3, n_k_4⟩ := vr_land hk_k hd_k
  show vr_J p l e _ s m args below meth c 5 0 0 G (vr_Z (vr_QI G) G args s below) 0 [(0, .ref (vr_ad G k)), (1, .int (vr_I a0))] [] μ _
  have B19 : ∀ (μ : vr_M), vr_J p l e ({ frames := 0, cells := 0, slots := 0, locals := 0 } : Room) s m args below meth c 5 0 0 G (vr_Z (vr_QI G) G args s below) 19 [] [] μ (fX3_passes_B19 k μ) := by
    intro μ
    unfold fX3_passes_B19
    refine jr_iconst C0 dX3_passes_19 ?_
    exact jr_iret C0 (⟨by decide, by decide⟩) dX3_passes_20
  have B73 : ∀ (y0 : Int) (h_y0 : vr_R y0) (μ : vr_M), vr_J p l e ({ frames := 0, cells := 0, slots := 0, locals := 0 } : Room) s m args below meth c 5 0 0 G (vr_Z (vr_QI G) G args s below) 73 [] [.int (vr_I y0)] μ (fX3_passes_B73 k y0 μ) := by
    intro y0 h_y0 μ
    unfold fX3_passes_B73
    exact jr_iret C0 h_y0 dX3_passes_73
  have B55 : ∀ (x1 : Int) (h_x1 : vr_R x1) (y0 : Int) (h_y0 : vr_R y0) (μ : vr_M), vr_J p l e ({ frames := 0, cells := 0, slots := 0, locals := 0 } : Room) s m args below meth c 5 0 0 G (vr_Z (vr_QI G) G args s below) 55 [(1, .int (vr_I x1))] [.int (vr_I y0)] μ (fX3_passes_B55 k x1 y0 μ) := by
    intro x1 h_x1 y0 h_y0 μ
    unfold fX3_passes_B55
    refine jr_istore C0 dX3_passes_55 (by decide) (lv' := [(4, .int (vr_I y0)), (1, .int (vr_I x1))]) rfl ?_
    refine jr_iload C0 0 dX3_passes_57 rfl ?_
    refine jr_iload_n C0 1 dX3_passes_59 rfl rfl ?_
    refine jr_bipush C0 dX3_passes_60 rfl ?_
    refine jr_idiv C0 h_x1 (⟨by decide, by decide⟩) (by decide) dX3_passes_62 ?_
    refine jr_iconst C0 dX3_passes_63 ?_
    refine jr_gd (fun g1 => ?_)
    refine jr_irem C0 g1 (⟨by decide, by decide⟩) (by decide) dX3_passes_64 ?_
    refine jr_gd (fun g2 => ?_)
    refine jr_icmp_ne C0 h_y0 g2 dX3_passes_65 (tgt := 72) (by decide) ?_ ?_
    · refine jr_iconst C0 dX3_passes_72 ?_
      refine jr_sub [] rfl ?_
      exact B73 0 (⟨by decide, by decide⟩) _
    refine jr_iconst C0 dX3_passes_68 ?_
    refine jr_goto C0 dX3_passes_69 (tgt := 73) (by decide) ?_
    refine jr_sub [] rfl ?_
    exact B73 1 (⟨by decide, by decide⟩) _
  unfold fX3_passes
  refine jr_iload_n C0 1 dX3_passes_0 rfl rfl ?_
  refine jr_sipush C0 dX3_passes_1 rfl ?_
  refine jr_idiv C0 h_a0 (⟨by decide, by decide⟩) (by decide) dX3_passes_4 ?_
  refine jr_istore_n C0 dX3_passes_5 rfl (by decide) (lv' := [(2, .int (vr_I (a0.tdiv 300))), (0, .ref (vr_ad G k)), (1, .int (vr_I a0))]) rfl ?_
  refine jr_iload_n C0 0 dX3_passes_6 rfl rfl ?_
  refine jr_gd (fun g3 => ?_)
  refine jr_if_lt C0 g3 dX3_passes_7 (tgt := 19) (by decide) ?_ ?_
  · refine jr_sub [] rfl ?_
    exact B19 _
  refine jr_iload_n C0 0 dX3_passes_10 rfl rfl ?_
  refine jr_aload_n C0 1 dX3_passes_11 rfl rfl ?_
  refine jr_getr C0 hk_k hd_k (by decide) rfl wx_X3 (i := 9) (by decide) wf_X3_21 (j := (k + 4)) rfl dX3_passes_12 ?_
  refine jr_alen C0 (by omega) d_k_4 n_k_4 dX3_passes_15 ?_
  refine jr_icmp_lt C0 g3 (⟨by decide, by decide⟩) dX3_passes_16 (tgt := 21) (by decide) ?_ ?_
  · refine jr_iload_n C0 2 dX3_passes_21 rfl rfl ?_
    refine jr_bipush C0 dX3_passes_22 rfl ?_
    refine jr_irem C0 h_a0 (⟨by decide, by decide⟩) (by decide) dX3_passes_24 ?_
    refine jr_istore_n C0 dX3_passes_25 rfl (by decide) (lv' := [(3, .int (vr_I (a0.tmod 100))), (2, .int (vr_I (a0.tdiv 300))), (0, .ref (vr_ad G k)), (1, .int (vr_I a0))]) rfl ?_
    refine jr_aload_n C0 2 dX3_passes_26 rfl rfl ?_
    refine jr_getr C0 hk_k hd_k (by decide) rfl wx_X3 (i := 9) (by decide) wf_X3_21 (j := (k + 4)) rfl dX3_passes_27 ?_
    refine jr_iload_n C0 1 dX3_passes_30 rfl rfl ?_
    refine jr_gd (fun g4 => ?_)
    refine jr_iald C0 (by omega) d_k_4 n_k_4 g4 (j := (a0.tdiv 300).toNat) rfl dX3_passes_31 ?_
    refine jr_iload_n C0 0 dX3_passes_32 rfl rfl ?_
    refine jr_gd (fun g5 => ?_)
    refine jr_gd (fun g6 => ?_)
    refine jr_icmp_ge C0 g5 g6 dX3_passes_33 (tgt := 40) (by decide) ?_ ?_
    · refine jr_aload_n C0 2 dX3_passes_40 rfl rfl ?_
      refine jr_getr C0 hk_k hd_k (by decide) rfl wx_X3 (i := 9) (by decide) wf_X3_21 (j := (k + 4)) rfl dX3_passes_41 ?_
      refine jr_iload_n C0 1 dX3_passes_44 rfl rfl ?_
      refine jr_iald C0 (by omega) d_k_4 n_k_4 g4 (j := (a0.tdiv 300).toNat) rfl dX3_passes_45 ?_
      refine jr_iload_n C0 0 dX3_passes_46 rfl rfl ?_
      refine jr_icmp_ne C0 g5 g6 dX3_passes_47 (tgt := 54) (by decide) ?_ ?_
      · refine jr_iconst C0 dX3_passes_54 ?_
        refine jr_sub [3] rfl ?_
        exact B55 a0 h_a0 2 (⟨by decide, by decide⟩) _
      refine jr_iconst C0 dX3_passes_50 ?_
      refine jr_goto C0 dX3_passes_51 (tgt := 55) (by decide) ?_
      refine jr_sub [3] rfl ?_
      exact B55 a0 h_a0 1 (⟨by decide, by decide⟩) _
    refine jr_iconst C0 dX3_passes_36 ?_
    refine jr_goto C0 dX3_passes_37 (tgt := 55) (by decide) ?_
    refine jr_sub [3] rfl ?_
    exact B55 a0 h_a0 0 (⟨by decide, by decide⟩) _
  refine jr_sub [] rfl ?_
  exact B19 _
theorem dX3_holds_0 : decode cX3_holds 0 = .ok (.iload_n 1, 1) := by decide +kernel
theorem dX3_holds_1 : decode cX3_holds 1 = .ok (.ifCond .lt 9, 3) := by decide +kernel
theorem dX3_holds_4 : decode cX3_holds 4 = .ok (.iload_n 1, 1) := by decide +kernel
theorem dX3_holds_5 : decode cX3_holds 5 = .ok (.bipush 10, 2) := by decide +kernel
theorem dX3_holds_7 : decode cX3_holds 7 = .ok (.if_icmp .lt 5, 3) := by decide +kernel
theorem dX3_holds_10 : decode cX3_holds 10 = .ok (.iconst 0, 1) := by decide +kernel
theorem dX3_holds_11 : decode cX3_holds 11 = .ok (.ireturn, 1) := by decide +kernel
theorem dX3_holds_12 : decode cX3_holds 12 = .ok (.lconst 0, 1) := by decide +kernel
theorem dX3_holds_13 : decode cX3_holds 13 = .ok (.lstore_n 2, 1) := by decide +kernel
theorem dX3_holds_14 : decode cX3_holds 14 = .ok (.iload_n 1, 1) := by decide +kernel
theorem dX3_holds_15 : decode cX3_holds 15 = .ok (.ifCond .ne 7, 3) := by decide +kernel
theorem dX3_holds_18 : decode cX3_holds 18 = .ok (.iconst 0, 1) := by decide +kernel
theorem dX3_holds_19 : decode cX3_holds 19 = .ok (.goto 11, 3) := by decide +kernel
theorem dX3_holds_22 : decode cX3_holds 22 = .ok (.aload_n 0, 1) := by decide +kernel
theorem dX3_holds_23 : decode cX3_holds 23 = .ok (.getfield 15, 3) := by decide +kernel
theorem dX3_holds_26 : decode cX3_holds 26 = .ok (.iload_n 1, 1) := by decide +kernel
theorem dX3_holds_27 : decode cX3_holds 27 = .ok (.iconst 1, 1) := by decide +kernel
theorem dX3_holds_28 : decode cX3_holds 28 = .ok (.isub, 1) := by decide +kernel
theorem dX3_holds_29 : decode cX3_holds 29 = .ok (.iaload, 1) := by decide +kernel
theorem dX3_holds_30 : decode cX3_holds 30 = .ok (.istore 4, 2) := by decide +kernel
theorem dX3_holds_32 : decode cX3_holds 32 = .ok (.iload 4, 2) := by decide +kernel
theorem dX3_holds_34 : decode cX3_holds 34 = .ok (.iconst 0, 1) := by decide +kernel
theorem dX3_holds_35 : decode cX3_holds 35 = .ok (.invokestatic 75, 3) := by decide +kernel
theorem dX3_holds_38 : decode cX3_holds 38 = .ok (.istore 5, 2) := by decide +kernel
theorem dX3_holds_40 : decode cX3_holds 40 = .ok (.iload 5, 2) := by decide +kernel
theorem dX3_holds_42 : decode cX3_holds 42 = .ok (.aload_n 0, 1) := by decide +kernel
theorem dX3_holds_43 : decode cX3_holds 43 = .ok (.getfield 15, 3) := by decide +kernel
theorem dX3_holds_46 : decode cX3_holds 46 = .ok (.iload_n 1, 1) := by decide +kernel
theorem dX3_holds_47 : decode cX3_holds 47 = .ok (.iaload, 1) := by decide +kernel
theorem dX3_holds_48 : decode cX3_holds 48 = .ok (.if_icmp .ge 98, 3) := by decide +kernel
theorem dX3_holds_51 : decode cX3_holds 51 = .ok (.iload 5, 2) := by decide +kernel
theorem dX3_holds_53 : decode cX3_holds 53 = .ok (.bipush 120, 2) := by decide +kernel
theorem dX3_holds_55 : decode cX3_holds 55 = .ok (.if_icmp .ge 91, 3) := by decide +kernel
theorem dX3_holds_58 : decode cX3_holds 58 = .ok (.aload_n 0, 1) := by decide +kernel
theorem dX3_holds_59 : decode cX3_holds 59 = .ok (.getfield 18, 3) := by decide +kernel
theorem dX3_holds_62 : decode cX3_holds 62 = .ok (.iload 5, 2) := by decide +kernel
theorem dX3_holds_64 : decode cX3_holds 64 = .ok (.iaload, 1) := by decide +kernel
theorem dX3_holds_65 : decode cX3_holds 65 = .ok (.tableswitch 58 (-3) (-1) #[47, 34, 27], 27) := by decide +kernel
theorem dX3_holds_92 : decode cX3_holds 92 = .ok (.lload_n 2, 1) := by decide +kernel
theorem dX3_holds_93 : decode cX3_holds 93 = .ok (.lconst 1, 1) := by decide +kernel
theorem dX3_holds_94 : decode cX3_holds 94 = .ok (.lxor, 1) := by decide +kernel
theorem dX3_holds_95 : decode cX3_holds 95 = .ok (.lstore_n 2, 1) := by decide +kernel
theorem dX3_holds_96 : decode cX3_holds 96 = .ok (.goto 44, 3) := by decide +kernel
theorem dX3_holds_99 : decode cX3_holds 99 = .ok (.lload_n 2, 1) := by decide +kernel
theorem dX3_holds_100 : decode cX3_holds 100 = .ok (.iconst 1, 1) := by decide +kernel
theorem dX3_holds_101 : decode cX3_holds 101 = .ok (.lushr, 1) := by decide +kernel
theorem dX3_holds_102 : decode cX3_holds 102 = .ok (.lload_n 2, 1) := by decide +kernel
theorem dX3_holds_103 : decode cX3_holds 103 = .ok (.ldc2_w 87, 3) := by decide +kernel
theorem dX3_holds_106 : decode cX3_holds 106 = .ok (.lor, 1) := by decide +kernel
theorem dX3_holds_107 : decode cX3_holds 107 = .ok (.land, 1) := by decide +kernel
theorem dX3_holds_108 : decode cX3_holds 108 = .ok (.lstore_n 2, 1) := by decide +kernel
theorem dX3_holds_109 : decode cX3_holds 109 = .ok (.goto 31, 3) := by decide +kernel
theorem dX3_holds_112 : decode cX3_holds 112 = .ok (.lload_n 2, 1) := by decide +kernel
theorem dX3_holds_113 : decode cX3_holds 113 = .ok (.iconst 1, 1) := by decide +kernel
theorem dX3_holds_114 : decode cX3_holds 114 = .ok (.lushr, 1) := by decide +kernel
theorem dX3_holds_115 : decode cX3_holds 115 = .ok (.lload_n 2, 1) := by decide +kernel
theorem dX3_holds_116 : decode cX3_holds 116 = .ok (.lconst 1, 1) := by decide +kernel
theorem dX3_holds_117 : decode cX3_holds 117 = .ok (.land, 1) := by decide +kernel
theorem dX3_holds_118 : decode cX3_holds 118 = .ok (.lor, 1) := by decide +kernel
theorem dX3_holds_119 : decode cX3_holds 119 = .ok (.lstore_n 2, 1) := by decide +kernel
theorem dX3_holds_120 : decode cX3_holds 120 = .ok (.goto 20, 3) := by decide +kernel
theorem dX3_holds_123 : decode cX3_holds 123 = .ok (.lload_n 2, 1) := by decide +kernel
theorem dX3_holds_124 : decode cX3_holds 124 = .ok (.iconst 1, 1) := by decide +kernel
theorem dX3_holds_125 : decode cX3_holds 125 = .ok (.lshl, 1) := by decide +kernel
theorem dX3_holds_126 : decode cX3_holds 126 = .ok (.aload_n 0, 1) := by decide +kernel
theorem dX3_holds_127 : decode cX3_holds 127 = .ok (.aload_n 0, 1) := by decide +kernel
theorem dX3_holds_128 : decode cX3_holds 128 = .ok (.getfield 18, 3) := by decide +kernel
theorem dX3_holds_131 : decode cX3_holds 131 = .ok (.iload 5, 2) := by decide +kernel
theorem dX3_holds_133 : decode cX3_holds 133 = .ok (.iaload, 1) := by decide +kernel
theorem dX3_holds_134 : decode cX3_holds 134 = .ok (.invokevirtual 89, 3) := by decide +kernel
theorem dX3_holds_137 : decode cX3_holds 137 = .ok (.i2l, 1) := by decide +kernel
theorem dX3_holds_138 : decode cX3_holds 138 = .ok (.lor, 1) := by decide +kernel
theorem dX3_holds_139 : decode cX3_holds 139 = .ok (.lstore_n 2, 1) := by decide +kernel
theorem dX3_holds_140 : decode cX3_holds 140 = .ok (.iinc 5 1, 3) := by decide +kernel
theorem dX3_holds_143 : decode cX3_holds 143 = .ok (.goto (-103), 3) := by decide +kernel
theorem dX3_holds_146 : decode cX3_holds 146 = .ok (.lload_n 2, 1) := by decide +kernel
theorem dX3_holds_147 : decode cX3_holds 147 = .ok (.lconst 1, 1) := by decide +kernel
theorem dX3_holds_148 : decode cX3_holds 148 = .ok (.land, 1) := by decide +kernel
theorem dX3_holds_149 : decode cX3_holds 149 = .ok (.lconst 0, 1) := by decide +kernel
theorem dX3_holds_150 : decode cX3_holds 150 = .ok (.lcmp, 1) := by decide +kernel
theorem dX3_holds_151 : decode cX3_holds 151 = .ok (.ifCond .eq 7, 3) := by decide +kernel
theorem dX3_holds_154 : decode cX3_holds 154 = .ok (.iconst 1, 1) := by decide +kernel
theorem dX3_holds_155 : decode cX3_holds 155 = .ok (.goto 4, 3) := by decide +kernel
theorem dX3_holds_158 : decode cX3_holds 158 = .ok (.iconst 0, 1) := by decide +kernel
theorem dX3_holds_159 : decode cX3_holds 159 = .ok (.ireturn, 1) := by decide +kernel
def fX3_holds_B10 (k : Nat) (μ : vr_M) : Option (Int × vr_M) :=
  some (0, μ)
def fX3_holds_B159 (k : Nat) (y0 : Int) (μ : vr_M) : Option (Int × vr_M) :=
  vr_gd (y0 = 0 ∨ y0 = 1) (some (y0, μ))
def fX3_holds_B146 (k : Nat) (x2 : Int64) (μ : vr_M) : Option (Int × vr_M) :=
  if (vr_lcmp (x2 &&& (1 : Int64)) (0 : Int64)) = 0 then fX3_holds_B159 k 0 μ else fX3_holds_B159 k 1 μ
def fX3_holds_B140 (k : Nat) (rc40 : Int → Int64 → Int → vr_M → Option (Int × vr_M)) (x1 : Int) (x2 : Int64) (x5 : Int) (μ : vr_M) : Option (Int × vr_M) :=
  vr_gd (vr_R (x5 + 1)) (rc40 x1 x2 (x5 + 1) μ)
def fX3_holds_L40 (k : Nat) : Nat → Int → Int64 → Int → vr_M → Option (Int × vr_M)
  | 0, _, _, _, _ => none
  | n + 1, x1, x2, x5, μ => vr_gd (0 ≤ x1 ∧ x1 < 10) (vr_gd (vr_R (μ (k + 2) x1.toNat)) (if (μ (k + 2) x1.toNat) ≤ x5 then fX3_holds_B146 k x2 μ else if 120 ≤ x5 then fX3_holds_B146 k x2 μ else vr_gd (0 ≤ x5 ∧ x5 < 120) (vr_gd (vr_R (μ (k + 3) x5.toNat)) (vr_sw (μ (k + 3) x5.toNat) (-3) [fX3_holds_B140 k (fX3_holds_L40 k n) x1 ((vr_lushr x2 1) ||| (x2 &&& (1 : Int64))) x5 μ, fX3_holds_B140 k (fX3_holds_L40 k n) x1 ((vr_lushr x2 1) &&& (x2 ||| ((-2) : Int64))) x5 μ, fX3_holds_B140 k (fX3_holds_L40 k n) x1 (x2 ^^^ (1 : Int64)) x5 μ] ((fX3_passes k (μ (k + 3) x5.toNat) μ).bind (fun r7 => fX3_holds_B140 k (fX3_holds_L40 k n) x1 ((vr_lshl x2 1) ||| (vr_i2l r7.1)) x5 r7.2))))))
def fX3_holds_B30 (k : Nat) (x1 : Int) (x2 : Int64) (y0 : Int) (μ : vr_M) : Option (Int × vr_M) :=
  vr_gd (vr_R (max y0 0)) (fX3_holds_L40 k 9000 x1 x2 (max y0 0) μ)
def fX3_holds (k : Nat) (a0 : Int) (μ : vr_M) : Option (Int × vr_M) :=
  if a0 < 0 then fX3_holds_B10 k μ else if a0 < 10 then if ¬ a0 = 0 then vr_gd (0 ≤ (a0 - 1) ∧ (a0 - 1) < 10) (vr_gd (vr_R (μ (k + 2) (a0 - 1).toNat)) (fX3_holds_B30 k a0 (0 : Int64) (μ (k + 2) (a0 - 1).toNat) μ)) else fX3_holds_B30 k a0 (0 : Int64) 0 μ else fX3_holds_B10 k μ
set_option maxRecDepth 100000 in
set_option maxHeartbeats 4000000 in
theorem ct_X3_holds (l : Launch) (G : vr_G) {k : Nat} (hk_k : k < 78) (hd_k : vr_kd k = 3) (a0 : Int) (h_a0 : vr_R a0) (μ : vr_M) : vr_CI l yX3_holds cX3_holds 6 (some .boolean) ({ frames := 1, cells := 0, slots := 0, locals := 24 } : Room) G [.ref (vr_ad G k), .int (vr_I a0)] μ (fX3_holds k a0 μ) := by
  refine vr_start (own := RX3) (by decide) rfl (Nat.le_of_ble_eq_true rfl) (fun p e s m args below meth c C0 => ?_)
  obtain ⟨q_k, ⟨d_k_1, d_k_2, d_k_3, d_k_4⟩, n_k_1, n_k_2, n_k_3, n_k_4⟩ := vr_land hk_k hd_k
  show vr_J p l e _ s m args below meth c 6 0 0 G (vr_Z (vr_QI G) G args s below) 0 [(0, .ref (vr_ad G k)), (1, .int (vr_I a0))] [] μ _
  have B10 : ∀ (μ : vr_M), vr_J p l e ({ frames := 1, cells := 0, slots := 0, locals := 24 } : Room) s m args below meth c 6 0 0 G (vr_Z (vr_QI G) G args s below) 10 [] [] μ (fX3_holds_B10 k μ) := by
    intro μ
    unfold fX3_holds_B10
    refine jr_iconst C0 dX3_holds_10 ?_
    exact jr_zret C0 (⟨by decide, by decide⟩) (vr_nz (Or.inl rfl)) dX3_holds_11
  have B159 : ∀ (y0 : Int) (h_y0 : vr_R y0) (μ : vr_M), vr_J p l e ({ frames := 1, cells := 0, slots := 0, locals := 24 } : Room) s m args below meth c 6 0 0 G (vr_Z (vr_QI G) G args s below) 159 [] [.int (vr_I y0)] μ (fX3_holds_B159 k y0 μ) := by
    intro y0 h_y0 μ
    unfold fX3_holds_B159
    refine jr_gd (fun g1 => ?_)
    exact jr_zret C0 h_y0 (vr_nz g1) dX3_holds_159
  have B146 : ∀ (x2 : Int64) (μ : vr_M), vr_J p l e ({ frames := 1, cells := 0, slots := 0, locals := 24 } : Room) s m args below meth c 6 0 0 G (vr_Z (vr_QI G) G args s below) 146 [(2, .long x2)] [] μ (fX3_holds_B146 k x2 μ) := by
    intro x2 μ
    unfold fX3_holds_B146
    refine jr_lload_n C0 0 dX3_holds_146 rfl rfl ?_
    refine jr_lconst C0 dX3_holds_147 (v := 1) rfl ?_
    refine jr_land C0 dX3_holds_148 ?_
    refine jr_lconst C0 dX3_holds_149 (v := 0) rfl ?_
    refine jr_lcmp C0 dX3_holds_150 ?_
    refine jr_if_eq C0 (vr_RT _) dX3_holds_151 (tgt := 158) (by decide) ?_ ?_
    · refine jr_iconst C0 dX3_holds_158 ?_
      refine jr_sub [] rfl ?_
      exact B159 0 (⟨by decide, by decide⟩) _
    refine jr_iconst C0 dX3_holds_154 ?_
    refine jr_goto C0 dX3_holds_155 (tgt := 159) (by decide) ?_
    refine jr_sub [] rfl ?_
    exact B159 1 (⟨by decide, by decide⟩) _
  have L40 : ∀ (n : Nat) (x1 : Int) (h_x1 : vr_R x1) (x2 : Int64) (x5 : Int) (h_x5 : vr_R x5) (μ : vr_M), vr_J p l e ({ frames := 1, cells := 0, slots := 0, locals := 24 } : Room) s m args below meth c 6 0 0 G (vr_Z (vr_QI G) G args s below) 40 [(0, .ref (vr_ad G k)), (1, .int (vr_I x1)), (2, .long x2), (5, .int (vr_I x5))] [] μ (fX3_holds_L40 k n x1 x2 x5 μ) := by
    intro n40
    induction n40 with
    | zero => intros; exact jr_none
    | succ n40 ih40 =>
      have B140 : ∀ (x1 : Int) (h_x1 : vr_R x1) (x2 : Int64) (x5 : Int) (h_x5 : vr_R x5) (μ : vr_M), vr_J p l e ({ frames := 1, cells := 0, slots := 0, locals := 24 } : Room) s m args below meth c 6 0 0 G (vr_Z (vr_QI G) G args s below) 140 [(0, .ref (vr_ad G k)), (1, .int (vr_I x1)), (2, .long x2), (5, .int (vr_I x5))] [] μ (fX3_holds_B140 k (fX3_holds_L40 k n40) x1 x2 x5 μ) := by
        intro x1 h_x1 x2 x5 h_x5 μ
        unfold fX3_holds_B140
        refine jr_iinc C0 (q := 3) dX3_holds_140 rfl (by decide) (lv' := [(5, .int (vr_I (x5 + 1))), (0, .ref (vr_ad G k)), (1, .int (vr_I x1)), (2, .long x2)]) rfl ?_
        refine jr_goto C0 dX3_holds_143 (tgt := 40) (by decide) ?_
        refine jr_gd (fun g2 => ?_)
        refine jr_sub [1, 2, 3, 0] rfl ?_
        exact ih40 x1 h_x1 x2 (x5 + 1) g2 _
      intro x1 h_x1 x2 x5 h_x5 μ
      rw [fX3_holds_L40.eq_2]
      refine jr_iload C0 3 dX3_holds_40 rfl ?_
      refine jr_aload_n C0 0 dX3_holds_42 rfl rfl ?_
      refine jr_getr C0 hk_k hd_k (by decide) rfl wx_X3 (i := 1) (by decide) wf_X3_15 (j := (k + 2)) rfl dX3_holds_43 ?_
      refine jr_iload_n C0 1 dX3_holds_46 rfl rfl ?_
      refine jr_gd (fun g3 => ?_)
      refine jr_iald C0 (by omega) d_k_2 n_k_2 g3 (j := x1.toNat) rfl dX3_holds_47 ?_
      refine jr_gd (fun g4 => ?_)
      refine jr_icmp_ge C0 h_x5 g4 dX3_holds_48 (tgt := 146) (by decide) ?_ ?_
      · refine jr_sub [2] rfl ?_
        exact B146 x2 _
      refine jr_iload C0 3 dX3_holds_51 rfl ?_
      refine jr_bipush C0 dX3_holds_53 rfl ?_
      refine jr_icmp_ge C0 h_x5 (⟨by decide, by decide⟩) dX3_holds_55 (tgt := 146) (by decide) ?_ ?_
      · refine jr_sub [2] rfl ?_
        exact B146 x2 _
      refine jr_aload_n C0 0 dX3_holds_58 rfl rfl ?_
      refine jr_getr C0 hk_k hd_k (by decide) rfl wx_X3 (i := 2) (by decide) wf_X3_18 (j := (k + 3)) rfl dX3_holds_59 ?_
      refine jr_iload C0 3 dX3_holds_62 rfl ?_
      refine jr_gd (fun g5 => ?_)
      refine jr_iald C0 (by omega) d_k_3 n_k_3 g5 (j := x5.toNat) rfl dX3_holds_64 ?_
      refine jr_gd (fun g6 => ?_)
      refine jr_tsw C0 g6 dX3_holds_65 (by decide) (td := 123) (by decide) (vr_TS_cons (tgt := 112) (by decide) ?_ (vr_TS_cons (tgt := 99) (by decide) ?_ (vr_TS_cons (tgt := 92) (by decide) ?_ vr_TS_nil))) ?_
      · show vr_J p l e _ s m args below meth c _ _ _ G _ 112 _ _ _ _
        refine jr_lload_n C0 2 dX3_holds_112 rfl rfl ?_
        refine jr_iconst C0 dX3_holds_113 ?_
        refine jr_lushr C0 dX3_holds_114 ?_
        refine jr_lload_n C0 2 dX3_holds_115 rfl rfl ?_
        refine jr_lconst C0 dX3_holds_116 (v := 1) rfl ?_
        refine jr_land C0 dX3_holds_117 ?_
        refine jr_lor C0 dX3_holds_118 ?_
        refine jr_lstore_n C0 dX3_holds_119 rfl (by decide) (lv' := [(2, .long ((vr_lushr x2 1) ||| (x2 &&& (1 : Int64)))), (0, .ref (vr_ad G k)), (1, .int (vr_I x1)), (5, .int (vr_I x5))]) rfl ?_
        refine jr_goto C0 dX3_holds_120 (tgt := 140) (by decide) ?_
        refine jr_sub [1, 2, 0, 3] rfl ?_
        exact B140 x1 h_x1 ((vr_lushr x2 1) ||| (x2 &&& (1 : Int64))) x5 h_x5 _
      · show vr_J p l e _ s m args below meth c _ _ _ G _ 99 _ _ _ _
        refine jr_lload_n C0 2 dX3_holds_99 rfl rfl ?_
        refine jr_iconst C0 dX3_holds_100 ?_
        refine jr_lushr C0 dX3_holds_101 ?_
        refine jr_lload_n C0 2 dX3_holds_102 rfl rfl ?_
        refine jr_ldc2 C0 wk_X3_87 dX3_holds_103 ?_
        refine jr_lor C0 dX3_holds_106 ?_
        refine jr_land C0 dX3_holds_107 ?_
        refine jr_lstore_n C0 dX3_holds_108 rfl (by decide) (lv' := [(2, .long ((vr_lushr x2 1) &&& (x2 ||| ((-2) : Int64)))), (0, .ref (vr_ad G k)), (1, .int (vr_I x1)), (5, .int (vr_I x5))]) rfl ?_
        refine jr_goto C0 dX3_holds_109 (tgt := 140) (by decide) ?_
        refine jr_sub [1, 2, 0, 3] rfl ?_
        exact B140 x1 h_x1 ((vr_lushr x2 1) &&& (x2 ||| ((-2) : Int64))) x5 h_x5 _
      · show vr_J p l e _ s m args below meth c _ _ _ G _ 92 _ _ _ _
        refine jr_lload_n C0 2 dX3_holds_92 rfl rfl ?_
        refine jr_lconst C0 dX3_holds_93 (v := 1) rfl ?_
        refine jr_lxor C0 dX3_holds_94 ?_
        refine jr_lstore_n C0 dX3_holds_95 rfl (by decide) (lv' := [(2, .long (x2 ^^^ (1 : Int64))), (0, .ref (vr_ad G k)), (1, .int (vr_I x1)), (5, .int (vr_I x5))]) rfl ?_
        refine jr_goto C0 dX3_holds_96 (tgt := 140) (by decide) ?_
        refine jr_sub [1, 2, 0, 3] rfl ?_
        exact B140 x1 h_x1 (x2 ^^^ (1 : Int64)) x5 h_x5 _
      refine jr_lload_n C0 2 dX3_holds_123 rfl rfl ?_
      refine jr_iconst C0 dX3_holds_124 ?_
      refine jr_lshl C0 dX3_holds_125 ?_
      refine jr_aload_n C0 0 dX3_holds_126 rfl rfl ?_
      refine jr_aload_n C0 0 dX3_holds_127 rfl rfl ?_
      refine jr_getr C0 hk_k hd_k (by decide) rfl wx_X3 (i := 2) (by decide) wf_X3_18 (j := (k + 3)) rfl dX3_holds_128 ?_
      refine jr_iload C0 3 dX3_holds_131 rfl ?_
      refine jr_iald C0 (by omega) d_k_3 n_k_3 g5 (j := x5.toNat) rfl dX3_holds_133 ?_
      refine jr_vI C0 hk_k hd_k (by decide) rfl (ct_X3_passes l G hk_k hd_k (μ (k + 3) x5.toNat) g6 _) mi_X3_passes wm_X3_89 ⟨Nat.le_of_ble_eq_true rfl, Nat.le_of_ble_eq_true rfl⟩ ⟨rfl, rfl⟩ (As := [.int (vr_I (μ (k + 3) x5.toNat))]) rfl (st := [.long (vr_lshl x2 1)]) rfl (Nat.le_of_ble_eq_true rfl) dX3_holds_134 (fun r7 hr7 => ?_)
      refine jr_i2l C0 dX3_holds_137 ?_
      refine jr_lor C0 dX3_holds_138 ?_
      refine jr_lstore_n C0 dX3_holds_139 rfl (by decide) (lv' := [(2, .long ((vr_lshl x2 1) ||| (vr_i2l r7.1))), (0, .ref (vr_ad G k)), (1, .int (vr_I x1)), (5, .int (vr_I x5))]) rfl ?_
      refine jr_sub [1, 2, 0, 3] rfl ?_
      exact B140 x1 h_x1 ((vr_lshl x2 1) ||| (vr_i2l r7.1)) x5 h_x5 _
  have B30 : ∀ (x1 : Int) (h_x1 : vr_R x1) (x2 : Int64) (y0 : Int) (h_y0 : vr_R y0) (μ : vr_M), vr_J p l e ({ frames := 1, cells := 0, slots := 0, locals := 24 } : Room) s m args below meth c 6 0 0 G (vr_Z (vr_QI G) G args s below) 30 [(0, .ref (vr_ad G k)), (1, .int (vr_I x1)), (2, .long x2)] [.int (vr_I y0)] μ (fX3_holds_B30 k x1 x2 y0 μ) := by
    intro x1 h_x1 x2 y0 h_y0 μ
    unfold fX3_holds_B30
    refine jr_istore C0 dX3_holds_30 (by decide) (lv' := [(4, .int (vr_I y0)), (0, .ref (vr_ad G k)), (1, .int (vr_I x1)), (2, .long x2)]) rfl ?_
    refine jr_iload C0 0 dX3_holds_32 rfl ?_
    refine jr_iconst C0 dX3_holds_34 ?_
    refine jr_max C0 h_y0 (⟨by decide, by decide⟩) wm_X3_75 wt_yJ9_max_7cf53 wz_J9 wc_yJ9_max_7cf53 (Nat.le_of_ble_eq_true rfl) (Nat.le_of_ble_eq_true rfl) dX3_holds_35 ?_
    refine jr_istore C0 dX3_holds_38 (by decide) (lv' := [(5, .int (vr_I (max y0 0))), (4, .int (vr_I y0)), (0, .ref (vr_ad G k)), (1, .int (vr_I x1)), (2, .long x2)]) rfl ?_
    refine jr_gd (fun g8 => ?_)
    refine jr_sub [2, 3, 4, 0] rfl ?_
    exact L40 9000 x1 h_x1 x2 (max y0 0) g8 _
  unfold fX3_holds
  refine jr_iload_n C0 1 dX3_holds_0 rfl rfl ?_
  refine jr_if_lt C0 h_a0 dX3_holds_1 (tgt := 10) (by decide) ?_ ?_
  · refine jr_sub [] rfl ?_
    exact B10 _
  refine jr_iload_n C0 1 dX3_holds_4 rfl rfl ?_
  refine jr_bipush C0 dX3_holds_5 rfl ?_
  refine jr_icmp_lt C0 h_a0 (⟨by decide, by decide⟩) dX3_holds_7 (tgt := 12) (by decide) ?_ ?_
  · refine jr_lconst C0 dX3_holds_12 (v := 0) rfl ?_
    refine jr_lstore_n C0 dX3_holds_13 rfl (by decide) (lv' := [(2, .long (0 : Int64)), (0, .ref (vr_ad G k)), (1, .int (vr_I a0))]) rfl ?_
    refine jr_iload_n C0 2 dX3_holds_14 rfl rfl ?_
    refine jr_if_ne C0 h_a0 dX3_holds_15 (tgt := 22) (by decide) ?_ ?_
    · refine jr_aload_n C0 1 dX3_holds_22 rfl rfl ?_
      refine jr_getr C0 hk_k hd_k (by decide) rfl wx_X3 (i := 1) (by decide) wf_X3_15 (j := (k + 2)) rfl dX3_holds_23 ?_
      refine jr_iload_n C0 2 dX3_holds_26 rfl rfl ?_
      refine jr_iconst C0 dX3_holds_27 ?_
      refine jr_isub C0 dX3_holds_28 ?_
      refine jr_gd (fun g9 => ?_)
      refine jr_iald C0 (by omega) d_k_2 n_k_2 g9 (j := (a0 - 1).toNat) rfl dX3_holds_29 ?_
      refine jr_gd (fun g10 => ?_)
      refine jr_sub [1, 2, 0] rfl ?_
      exact B30 a0 h_a0 (0 : Int64) (μ (k + 2) (a0 - 1).toNat) g10 _
    refine jr_iconst C0 dX3_holds_18 ?_
    refine jr_goto C0 dX3_holds_19 (tgt := 30) (by decide) ?_
    refine jr_sub [1, 2, 0] rfl ?_
    exact B30 a0 h_a0 (0 : Int64) 0 (⟨by decide, by decide⟩) _
  refine jr_sub [] rfl ?_
  exact B10 _
theorem dX3_wornWhenBurnt_0 : decode cX3_wornWhenBurnt 0 = .ok (.aload_n 1, 1) := by decide +kernel
theorem dX3_wornWhenBurnt_1 : decode cX3_wornWhenBurnt 1 = .ok (.iload_n 2, 1) := by decide +kernel
theorem dX3_wornWhenBurnt_2 : decode cX3_wornWhenBurnt 2 = .ok (.invokevirtual 56, 3) := by decide +kernel
theorem dX3_wornWhenBurnt_5 : decode cX3_wornWhenBurnt 5 = .ok (.ifCond .ne 5, 3) := by decide +kernel
theorem dX3_wornWhenBurnt_8 : decode cX3_wornWhenBurnt 8 = .ok (.iconst 0, 1) := by decide +kernel
theorem dX3_wornWhenBurnt_9 : decode cX3_wornWhenBurnt 9 = .ok (.ireturn, 1) := by decide +kernel
theorem dX3_wornWhenBurnt_10 : decode cX3_wornWhenBurnt 10 = .ok (.aload_n 1, 1) := by decide +kernel
theorem dX3_wornWhenBurnt_11 : decode cX3_wornWhenBurnt 11 = .ok (.getfield 62, 3) := by decide +kernel
theorem dX3_wornWhenBurnt_14 : decode cX3_wornWhenBurnt 14 = .ok (.iload_n 2, 1) := by decide +kernel
theorem dX3_wornWhenBurnt_15 : decode cX3_wornWhenBurnt 15 = .ok (.iaload, 1) := by decide +kernel
theorem dX3_wornWhenBurnt_16 : decode cX3_wornWhenBurnt 16 = .ok (.istore_n 3, 1) := by decide +kernel
theorem dX3_wornWhenBurnt_17 : decode cX3_wornWhenBurnt 17 = .ok (.aload_n 1, 1) := by decide +kernel
theorem dX3_wornWhenBurnt_18 : decode cX3_wornWhenBurnt 18 = .ok (.getfield 65, 3) := by decide +kernel
theorem dX3_wornWhenBurnt_21 : decode cX3_wornWhenBurnt 21 = .ok (.iload_n 2, 1) := by decide +kernel
theorem dX3_wornWhenBurnt_22 : decode cX3_wornWhenBurnt 22 = .ok (.iaload, 1) := by decide +kernel
theorem dX3_wornWhenBurnt_23 : decode cX3_wornWhenBurnt 23 = .ok (.ifCond .le 5, 3) := by decide +kernel
theorem dX3_wornWhenBurnt_26 : decode cX3_wornWhenBurnt 26 = .ok (.iload_n 3, 1) := by decide +kernel
theorem dX3_wornWhenBurnt_27 : decode cX3_wornWhenBurnt 27 = .ok (.ireturn, 1) := by decide +kernel
theorem dX3_wornWhenBurnt_28 : decode cX3_wornWhenBurnt 28 = .ok (.aload_n 0, 1) := by decide +kernel
theorem dX3_wornWhenBurnt_29 : decode cX3_wornWhenBurnt 29 = .ok (.aload_n 1, 1) := by decide +kernel
theorem dX3_wornWhenBurnt_30 : decode cX3_wornWhenBurnt 30 = .ok (.iload_n 2, 1) := by decide +kernel
theorem dX3_wornWhenBurnt_31 : decode cX3_wornWhenBurnt 31 = .ok (.iload_n 3, 1) := by decide +kernel
theorem dX3_wornWhenBurnt_32 : decode cX3_wornWhenBurnt 32 = .ok (.invokevirtual 68, 3) := by decide +kernel
theorem dX3_wornWhenBurnt_35 : decode cX3_wornWhenBurnt 35 = .ok (.iconst 0, 1) := by decide +kernel
theorem dX3_wornWhenBurnt_36 : decode cX3_wornWhenBurnt 36 = .ok (.istore 4, 2) := by decide +kernel
theorem dX3_wornWhenBurnt_38 : decode cX3_wornWhenBurnt 38 = .ok (.iload 4, 2) := by decide +kernel
theorem dX3_wornWhenBurnt_40 : decode cX3_wornWhenBurnt 40 = .ok (.aload_n 0, 1) := by decide +kernel
theorem dX3_wornWhenBurnt_41 : decode cX3_wornWhenBurnt 41 = .ok (.getfield 27, 3) := by decide +kernel
theorem dX3_wornWhenBurnt_44 : decode cX3_wornWhenBurnt 44 = .ok (.if_icmp .ge 45, 3) := by decide +kernel
theorem dX3_wornWhenBurnt_47 : decode cX3_wornWhenBurnt 47 = .ok (.iload 4, 2) := by decide +kernel
theorem dX3_wornWhenBurnt_49 : decode cX3_wornWhenBurnt 49 = .ok (.bipush 10, 2) := by decide +kernel
theorem dX3_wornWhenBurnt_51 : decode cX3_wornWhenBurnt 51 = .ok (.if_icmp .ge 32, 3) := by decide +kernel
theorem dX3_wornWhenBurnt_54 : decode cX3_wornWhenBurnt 54 = .ok (.aload_n 0, 1) := by decide +kernel
theorem dX3_wornWhenBurnt_55 : decode cX3_wornWhenBurnt 55 = .ok (.getfield 9, 3) := by decide +kernel
theorem dX3_wornWhenBurnt_58 : decode cX3_wornWhenBurnt 58 = .ok (.iload 4, 2) := by decide +kernel
theorem dX3_wornWhenBurnt_60 : decode cX3_wornWhenBurnt 60 = .ok (.iaload, 1) := by decide +kernel
theorem dX3_wornWhenBurnt_61 : decode cX3_wornWhenBurnt 61 = .ok (.iconst (-1), 1) := by decide +kernel
theorem dX3_wornWhenBurnt_62 : decode cX3_wornWhenBurnt 62 = .ok (.if_icmp .ne 21, 3) := by decide +kernel
theorem dX3_wornWhenBurnt_65 : decode cX3_wornWhenBurnt 65 = .ok (.aload_n 0, 1) := by decide +kernel
theorem dX3_wornWhenBurnt_66 : decode cX3_wornWhenBurnt 66 = .ok (.iload 4, 2) := by decide +kernel
theorem dX3_wornWhenBurnt_68 : decode cX3_wornWhenBurnt 68 = .ok (.invokevirtual 72, 3) := by decide +kernel
theorem dX3_wornWhenBurnt_71 : decode cX3_wornWhenBurnt 71 = .ok (.ifCond .eq 12, 3) := by decide +kernel
theorem dX3_wornWhenBurnt_74 : decode cX3_wornWhenBurnt 74 = .ok (.iload_n 3, 1) := by decide +kernel
theorem dX3_wornWhenBurnt_75 : decode cX3_wornWhenBurnt 75 = .ok (.iconst 1, 1) := by decide +kernel
theorem dX3_wornWhenBurnt_76 : decode cX3_wornWhenBurnt 76 = .ok (.iadd, 1) := by decide +kernel
theorem dX3_wornWhenBurnt_77 : decode cX3_wornWhenBurnt 77 = .ok (.bipush 9, 2) := by decide +kernel
theorem dX3_wornWhenBurnt_79 : decode cX3_wornWhenBurnt 79 = .ok (.invokestatic 50, 3) := by decide +kernel
theorem dX3_wornWhenBurnt_82 : decode cX3_wornWhenBurnt 82 = .ok (.ireturn, 1) := by decide +kernel
theorem dX3_wornWhenBurnt_83 : decode cX3_wornWhenBurnt 83 = .ok (.iinc 4 1, 3) := by decide +kernel
theorem dX3_wornWhenBurnt_86 : decode cX3_wornWhenBurnt 86 = .ok (.goto (-48), 3) := by decide +kernel
theorem dX3_wornWhenBurnt_89 : decode cX3_wornWhenBurnt 89 = .ok (.iload_n 3, 1) := by decide +kernel
theorem dX3_wornWhenBurnt_90 : decode cX3_wornWhenBurnt 90 = .ok (.ireturn, 1) := by decide +kernel
def fX3_wornWhenBurnt_B83 (k : Nat) (k0 : Nat) (rc38 : Int → Int → vr_M → Option (Int × vr_M)) (x3 : Int) (x4 : Int) (μ : vr_M) : Option (Int × vr_M) :=
  vr_gd (vr_R (x4 + 1)) (rc38 x3 (x4 + 1) μ)
def fX3_wornWhenBurnt_L38 (k : Nat) (k0 : Nat) : Nat → Int → Int → vr_M → Option (Int × vr_M)
  | 0, _, _, _ => none
  | n + 1, x3, x4, μ => vr_gd (vr_R (μ k 3)) (if (μ k 3) ≤ x4 then some (x3, μ) else if 10 ≤ x4 then fX3_wornWhenBurnt_B83 k k0 (fX3_wornWhenBurnt_L38 k k0 n) x3 x4 μ else vr_gd (0 ≤ x4 ∧ x4 < 10) (vr_gd (vr_R (μ (k + 1) x4.toNat)) (if ¬ (μ (k + 1) x4.toNat) = (-1) then fX3_wornWhenBurnt_B83 k k0 (fX3_wornWhenBurnt_L38 k k0 n) x3 x4 μ else (fX3_holds k x4 μ).bind (fun r5 => if r5.1 = 0 then fX3_wornWhenBurnt_B83 k k0 (fX3_wornWhenBurnt_L38 k k0 n) x3 x4 r5.2 else vr_gd (vr_R (x3 + 1)) (vr_gd (vr_R (min (x3 + 1) 9)) (some (min (x3 + 1) 9, r5.2)))))))
def fX3_wornWhenBurnt (k : Nat) (k0 : Nat) (a1 : Int) (μ : vr_M) : Option (Int × vr_M) :=
  (fX2_has k0 a1 μ).bind (fun r8 => if ¬ r8.1 = 0 then vr_gd (0 ≤ a1 ∧ a1 < 8) (vr_gd (vr_R (r8.2 (k0 + 3) a1.toNat)) (if (r8.2 (k0 + 3) a1.toNat) ≤ 0 then vr_gd (vr_R (r8.2 (k0 + 5) a1.toNat)) ((fX3_look k k0 a1 (r8.2 (k0 + 5) a1.toNat) r8.2).bind (fun r12 => fX3_wornWhenBurnt_L38 k k0 9000 (r8.2 (k0 + 5) a1.toNat) 0 r12.2)) else vr_gd (vr_R (r8.2 (k0 + 5) a1.toNat)) (some (r8.2 (k0 + 5) a1.toNat, r8.2)))) else some (0, r8.2))
set_option maxRecDepth 100000 in
set_option maxHeartbeats 4000000 in
theorem ct_X3_wornWhenBurnt (l : Launch) (G : vr_G) {k : Nat} (hk_k : k < 78) (hd_k : vr_kd k = 3) {k0 : Nat} (hk_k0 : k0 < 78) (hd_k0 : vr_kd k0 = 2) (a1 : Int) (h_a1 : vr_R a1) (μ : vr_M) : vr_CI l yX3_wornWhenBurnt cX3_wornWhenBurnt 5 (some .int) ({ frames := 2, cells := 0, slots := 0, locals := 49 } : Room) G [.ref (vr_ad G k), .ref (vr_ad G k0), .int (vr_I a1)] μ (fX3_wornWhenBurnt k k0 a1 μ) := by
  refine vr_start (own := RX3) (by decide) rfl (Nat.le_of_ble_eq_true rfl) (fun p e s m args below meth c C0 => ?_)
  obtain ⟨q_k, ⟨d_k_1, d_k_2, d_k_3, d_k_4⟩, n_k_1, n_k_2, n_k_3, n_k_4⟩ := vr_land hk_k hd_k
  obtain ⟨q_k0, ⟨d_k0_1, d_k0_2, d_k0_3, d_k0_4, d_k0_5⟩, n_k0_1, n_k0_2, n_k0_3, n_k0_4, n_k0_5⟩ := vr_hill hk_k0 hd_k0
  show vr_J p l e _ s m args below meth c 5 0 0 G (vr_Z (vr_QI G) G args s below) 0 [(0, .ref (vr_ad G k)), (1, .ref (vr_ad G k0)), (2, .int (vr_I a1))] [] μ _
  have L38 : ∀ (n : Nat) (x3 : Int) (h_x3 : vr_R x3) (x4 : Int) (h_x4 : vr_R x4) (μ : vr_M), vr_J p l e ({ frames := 2, cells := 0, slots := 0, locals := 49 } : Room) s m args below meth c 5 0 0 G (vr_Z (vr_QI G) G args s below) 38 [(0, .ref (vr_ad G k)), (3, .int (vr_I x3)), (4, .int (vr_I x4))] [] μ (fX3_wornWhenBurnt_L38 k k0 n x3 x4 μ) := by
    intro n38
    induction n38 with
    | zero => intros; exact jr_none
    | succ n38 ih38 =>
      have B83 : ∀ (x3 : Int) (h_x3 : vr_R x3) (x4 : Int) (h_x4 : vr_R x4) (μ : vr_M), vr_J p l e ({ frames := 2, cells := 0, slots := 0, locals := 49 } : Room) s m args below meth c 5 0 0 G (vr_Z (vr_QI G) G args s below) 83 [(0, .ref (vr_ad G k)), (3, .int (vr_I x3)), (4, .int (vr_I x4))] [] μ (fX3_wornWhenBurnt_B83 k k0 (fX3_wornWhenBurnt_L38 k k0 n38) x3 x4 μ) := by
        intro x3 h_x3 x4 h_x4 μ
        unfold fX3_wornWhenBurnt_B83
        refine jr_iinc C0 (q := 2) dX3_wornWhenBurnt_83 rfl (by decide) (lv' := [(4, .int (vr_I (x4 + 1))), (0, .ref (vr_ad G k)), (3, .int (vr_I x3))]) rfl ?_
        refine jr_goto C0 dX3_wornWhenBurnt_86 (tgt := 38) (by decide) ?_
        refine jr_gd (fun g1 => ?_)
        refine jr_sub [1, 2, 0] rfl ?_
        exact ih38 x3 h_x3 (x4 + 1) g1 _
      intro x3 h_x3 x4 h_x4 μ
      rw [fX3_wornWhenBurnt_L38.eq_2]
      refine jr_iload C0 2 dX3_wornWhenBurnt_38 rfl ?_
      refine jr_aload_n C0 0 dX3_wornWhenBurnt_40 rfl rfl ?_
      refine jr_geti C0 hk_k hd_k (by decide) rfl wx_X3 (i := 3) (by decide) wf_X3_27 rfl dX3_wornWhenBurnt_41 ?_
      refine jr_gd (fun g2 => ?_)
      refine jr_icmp_ge C0 h_x4 g2 dX3_wornWhenBurnt_44 (tgt := 89) (by decide) ?_ ?_
      · refine jr_iload_n C0 1 dX3_wornWhenBurnt_89 rfl rfl ?_
        exact jr_iret C0 h_x3 dX3_wornWhenBurnt_90
      refine jr_iload C0 2 dX3_wornWhenBurnt_47 rfl ?_
      refine jr_bipush C0 dX3_wornWhenBurnt_49 rfl ?_
      refine jr_icmp_ge C0 h_x4 (⟨by decide, by decide⟩) dX3_wornWhenBurnt_51 (tgt := 83) (by decide) ?_ ?_
      · exact B83 x3 h_x3 x4 h_x4 _
      refine jr_aload_n C0 0 dX3_wornWhenBurnt_54 rfl rfl ?_
      refine jr_getr C0 hk_k hd_k (by decide) rfl wx_X3 (i := 0) (by decide) wf_X3_9 (j := (k + 1)) rfl dX3_wornWhenBurnt_55 ?_
      refine jr_iload C0 2 dX3_wornWhenBurnt_58 rfl ?_
      refine jr_gd (fun g3 => ?_)
      refine jr_iald C0 (by omega) d_k_1 n_k_1 g3 (j := x4.toNat) rfl dX3_wornWhenBurnt_60 ?_
      refine jr_iconst C0 dX3_wornWhenBurnt_61 ?_
      refine jr_gd (fun g4 => ?_)
      refine jr_icmp_ne C0 g4 (⟨by decide, by decide⟩) dX3_wornWhenBurnt_62 (tgt := 83) (by decide) ?_ ?_
      · exact B83 x3 h_x3 x4 h_x4 _
      refine jr_aload_n C0 0 dX3_wornWhenBurnt_65 rfl rfl ?_
      refine jr_iload C0 2 dX3_wornWhenBurnt_66 rfl ?_
      refine jr_vI C0 hk_k hd_k (by decide) rfl (ct_X3_holds l G hk_k hd_k x4 h_x4 _) mi_X3_holds wm_X3_72 ⟨Nat.le_of_ble_eq_true rfl, Nat.le_of_ble_eq_true rfl⟩ ⟨rfl, rfl⟩ (As := [.int (vr_I x4)]) rfl (st := []) rfl (Nat.le_of_ble_eq_true rfl) dX3_wornWhenBurnt_68 (fun r5 hr5 => ?_)
      refine jr_if_eq C0 hr5 dX3_wornWhenBurnt_71 (tgt := 83) (by decide) ?_ ?_
      · exact B83 x3 h_x3 x4 h_x4 _
      refine jr_iload_n C0 1 dX3_wornWhenBurnt_74 rfl rfl ?_
      refine jr_iconst C0 dX3_wornWhenBurnt_75 ?_
      refine jr_iadd C0 dX3_wornWhenBurnt_76 ?_
      refine jr_bipush C0 dX3_wornWhenBurnt_77 rfl ?_
      refine jr_gd (fun g6 => ?_)
      refine jr_min C0 g6 (⟨by decide, by decide⟩) wm_X3_50 wt_yJ9_min_7cf53 wz_J9 wc_yJ9_min_7cf53 (Nat.le_of_ble_eq_true rfl) (Nat.le_of_ble_eq_true rfl) dX3_wornWhenBurnt_79 ?_
      refine jr_gd (fun g7 => ?_)
      exact jr_iret C0 g7 dX3_wornWhenBurnt_82
  unfold fX3_wornWhenBurnt
  refine jr_aload_n C0 1 dX3_wornWhenBurnt_0 rfl rfl ?_
  refine jr_iload_n C0 2 dX3_wornWhenBurnt_1 rfl rfl ?_
  refine jr_vI C0 hk_k0 hd_k0 (by decide) rfl (ct_X2_has l G hk_k0 hd_k0 a1 h_a1 _) mi_X2_has wm_X3_56 ⟨Nat.le_of_ble_eq_true rfl, Nat.le_of_ble_eq_true rfl⟩ ⟨rfl, rfl⟩ (As := [.int (vr_I a1)]) rfl (st := []) rfl (Nat.le_of_ble_eq_true rfl) dX3_wornWhenBurnt_2 (fun r8 hr8 => ?_)
  refine jr_if_ne C0 hr8 dX3_wornWhenBurnt_5 (tgt := 10) (by decide) ?_ ?_
  · refine jr_aload_n C0 1 dX3_wornWhenBurnt_10 rfl rfl ?_
    refine jr_getr C0 hk_k0 hd_k0 (by decide) rfl wx_X2 (i := 4) (by decide) wf_X3_62 (j := (k0 + 5)) rfl dX3_wornWhenBurnt_11 ?_
    refine jr_iload_n C0 2 dX3_wornWhenBurnt_14 rfl rfl ?_
    refine jr_gd (fun g9 => ?_)
    refine jr_iald C0 (by omega) d_k0_5 n_k0_5 g9 (j := a1.toNat) rfl dX3_wornWhenBurnt_15 ?_
    refine jr_istore_n C0 dX3_wornWhenBurnt_16 rfl (by decide) (lv' := [(3, .int (vr_I (r8.2 (k0 + 5) a1.toNat))), (0, .ref (vr_ad G k)), (1, .ref (vr_ad G k0)), (2, .int (vr_I a1))]) rfl ?_
    refine jr_aload_n C0 2 dX3_wornWhenBurnt_17 rfl rfl ?_
    refine jr_getr C0 hk_k0 hd_k0 (by decide) rfl wx_X2 (i := 2) (by decide) wf_X3_65 (j := (k0 + 3)) rfl dX3_wornWhenBurnt_18 ?_
    refine jr_iload_n C0 3 dX3_wornWhenBurnt_21 rfl rfl ?_
    refine jr_iald C0 (by omega) d_k0_3 n_k0_3 g9 (j := a1.toNat) rfl dX3_wornWhenBurnt_22 ?_
    refine jr_gd (fun g10 => ?_)
    refine jr_if_le C0 g10 dX3_wornWhenBurnt_23 (tgt := 28) (by decide) ?_ ?_
    · refine jr_aload_n C0 1 dX3_wornWhenBurnt_28 rfl rfl ?_
      refine jr_aload_n C0 2 dX3_wornWhenBurnt_29 rfl rfl ?_
      refine jr_iload_n C0 3 dX3_wornWhenBurnt_30 rfl rfl ?_
      refine jr_iload_n C0 0 dX3_wornWhenBurnt_31 rfl rfl ?_
      refine jr_gd (fun g11 => ?_)
      refine jr_vV0 C0 hk_k hd_k (by decide) rfl (ct_X3_look l G hk_k hd_k hk_k0 hd_k0 a1 h_a1 (r8.2 (k0 + 5) a1.toNat) g11 _) mi_X3_look wm_X3_68 ⟨Nat.le_of_ble_eq_true rfl, Nat.le_of_ble_eq_true rfl⟩ ⟨rfl, rfl⟩ (As := [.ref (vr_ad G k0), .int (vr_I a1), .int (vr_I (r8.2 (k0 + 5) a1.toNat))]) rfl (st := []) rfl (Nat.le_of_ble_eq_true rfl) dX3_wornWhenBurnt_32 (fun r12 => ?_)
      refine jr_iconst C0 dX3_wornWhenBurnt_35 ?_
      refine jr_istore C0 dX3_wornWhenBurnt_36 (by decide) (lv' := [(4, .int (vr_I 0)), (3, .int (vr_I (r8.2 (k0 + 5) a1.toNat))), (0, .ref (vr_ad G k)), (1, .ref (vr_ad G k0)), (2, .int (vr_I a1))]) rfl ?_
      refine jr_sub [2, 1, 0] rfl ?_
      exact L38 9000 (r8.2 (k0 + 5) a1.toNat) g11 0 (⟨by decide, by decide⟩) _
    refine jr_iload_n C0 0 dX3_wornWhenBurnt_26 rfl rfl ?_
    refine jr_gd (fun g13 => ?_)
    exact jr_iret C0 g13 dX3_wornWhenBurnt_27
  refine jr_iconst C0 dX3_wornWhenBurnt_8 ?_
  exact jr_iret C0 (⟨by decide, by decide⟩) dX3_wornWhenBurnt_9
theorem dX3_yields_0 : decode cX3_yields 0 = .ok (.aload_n 0, 1) := by decide +kernel
theorem dX3_yields_1 : decode cX3_yields 1 = .ok (.aload_n 1, 1) := by decide +kernel
theorem dX3_yields_2 : decode cX3_yields 2 = .ok (.iload_n 2, 1) := by decide +kernel
theorem dX3_yields_3 : decode cX3_yields 3 = .ok (.iload_n 3, 1) := by decide +kernel
theorem dX3_yields_4 : decode cX3_yields 4 = .ok (.invokevirtual 68, 3) := by decide +kernel
theorem dX3_yields_7 : decode cX3_yields 7 = .ok (.iconst 0, 1) := by decide +kernel
theorem dX3_yields_8 : decode cX3_yields 8 = .ok (.istore 4, 2) := by decide +kernel
theorem dX3_yields_10 : decode cX3_yields 10 = .ok (.iconst 0, 1) := by decide +kernel
theorem dX3_yields_11 : decode cX3_yields 11 = .ok (.istore 5, 2) := by decide +kernel
theorem dX3_yields_13 : decode cX3_yields 13 = .ok (.iload 5, 2) := by decide +kernel
theorem dX3_yields_15 : decode cX3_yields 15 = .ok (.aload_n 0, 1) := by decide +kernel
theorem dX3_yields_16 : decode cX3_yields 16 = .ok (.getfield 27, 3) := by decide +kernel
theorem dX3_yields_19 : decode cX3_yields 19 = .ok (.if_icmp .ge 48, 3) := by decide +kernel
theorem dX3_yields_22 : decode cX3_yields 22 = .ok (.iload 5, 2) := by decide +kernel
theorem dX3_yields_24 : decode cX3_yields 24 = .ok (.bipush 10, 2) := by decide +kernel
theorem dX3_yields_26 : decode cX3_yields 26 = .ok (.if_icmp .ge 35, 3) := by decide +kernel
theorem dX3_yields_29 : decode cX3_yields 29 = .ok (.aload_n 0, 1) := by decide +kernel
theorem dX3_yields_30 : decode cX3_yields 30 = .ok (.getfield 9, 3) := by decide +kernel
theorem dX3_yields_33 : decode cX3_yields 33 = .ok (.iload 5, 2) := by decide +kernel
theorem dX3_yields_35 : decode cX3_yields 35 = .ok (.iaload, 1) := by decide +kernel
theorem dX3_yields_36 : decode cX3_yields 36 = .ok (.iconst (-1), 1) := by decide +kernel
theorem dX3_yields_37 : decode cX3_yields 37 = .ok (.if_icmp .eq 24, 3) := by decide +kernel
theorem dX3_yields_40 : decode cX3_yields 40 = .ok (.aload_n 0, 1) := by decide +kernel
theorem dX3_yields_41 : decode cX3_yields 41 = .ok (.iload 5, 2) := by decide +kernel
theorem dX3_yields_43 : decode cX3_yields 43 = .ok (.invokevirtual 72, 3) := by decide +kernel
theorem dX3_yields_46 : decode cX3_yields 46 = .ok (.ifCond .eq 15, 3) := by decide +kernel
theorem dX3_yields_49 : decode cX3_yields 49 = .ok (.iload 4, 2) := by decide +kernel
theorem dX3_yields_51 : decode cX3_yields 51 = .ok (.aload_n 0, 1) := by decide +kernel
theorem dX3_yields_52 : decode cX3_yields 52 = .ok (.getfield 9, 3) := by decide +kernel
theorem dX3_yields_55 : decode cX3_yields 55 = .ok (.iload 5, 2) := by decide +kernel
theorem dX3_yields_57 : decode cX3_yields 57 = .ok (.iaload, 1) := by decide +kernel
theorem dX3_yields_58 : decode cX3_yields 58 = .ok (.iadd, 1) := by decide +kernel
theorem dX3_yields_59 : decode cX3_yields 59 = .ok (.istore 4, 2) := by decide +kernel
theorem dX3_yields_61 : decode cX3_yields 61 = .ok (.iinc 5 1, 3) := by decide +kernel
theorem dX3_yields_64 : decode cX3_yields 64 = .ok (.goto (-51), 3) := by decide +kernel
theorem dX3_yields_67 : decode cX3_yields 67 = .ok (.iload 4, 2) := by decide +kernel
theorem dX3_yields_69 : decode cX3_yields 69 = .ok (.iload_n 3, 1) := by decide +kernel
theorem dX3_yields_70 : decode cX3_yields 70 = .ok (.isub, 1) := by decide +kernel
theorem dX3_yields_71 : decode cX3_yields 71 = .ok (.iconst 0, 1) := by decide +kernel
theorem dX3_yields_72 : decode cX3_yields 72 = .ok (.invokestatic 75, 3) := by decide +kernel
theorem dX3_yields_75 : decode cX3_yields 75 = .ok (.ireturn, 1) := by decide +kernel
def fX3_yields_B61 (k : Nat) (k0 : Nat) (rc13 : Int → Int → Int → vr_M → Option (Int × vr_M)) (x3 : Int) (x4 : Int) (x5 : Int) (μ : vr_M) : Option (Int × vr_M) :=
  vr_gd (vr_R (x5 + 1)) (rc13 x3 x4 (x5 + 1) μ)
def fX3_yields_L13 (k : Nat) (k0 : Nat) : Nat → Int → Int → Int → vr_M → Option (Int × vr_M)
  | 0, _, _, _, _ => none
  | n + 1, x3, x4, x5, μ => vr_gd (vr_R (μ k 3)) (if (μ k 3) ≤ x5 then vr_gd (vr_R (x4 - x3)) (vr_gd (vr_R (max (x4 - x3) 0)) (some (max (x4 - x3) 0, μ))) else if 10 ≤ x5 then fX3_yields_B61 k k0 (fX3_yields_L13 k k0 n) x3 x4 x5 μ else vr_gd (0 ≤ x5 ∧ x5 < 10) (vr_gd (vr_R (μ (k + 1) x5.toNat)) (if (μ (k + 1) x5.toNat) = (-1) then fX3_yields_B61 k k0 (fX3_yields_L13 k k0 n) x3 x4 x5 μ else (fX3_holds k x5 μ).bind (fun r7 => if r7.1 = 0 then fX3_yields_B61 k k0 (fX3_yields_L13 k k0 n) x3 x4 x5 r7.2 else vr_gd (vr_R (x4 + (r7.2 (k + 1) x5.toNat))) (fX3_yields_B61 k k0 (fX3_yields_L13 k k0 n) x3 (x4 + (r7.2 (k + 1) x5.toNat)) x5 r7.2)))))
def fX3_yields (k : Nat) (k0 : Nat) (a1 : Int) (a2 : Int) (μ : vr_M) : Option (Int × vr_M) :=
  (fX3_look k k0 a1 a2 μ).bind (fun r9 => fX3_yields_L13 k k0 9000 a2 0 0 r9.2)
set_option maxRecDepth 100000 in
set_option maxHeartbeats 4000000 in
theorem ct_X3_yields (l : Launch) (G : vr_G) {k : Nat} (hk_k : k < 78) (hd_k : vr_kd k = 3) {k0 : Nat} (hk_k0 : k0 < 78) (hd_k0 : vr_kd k0 = 2) (a1 : Int) (h_a1 : vr_R a1) (a2 : Int) (h_a2 : vr_R a2) (μ : vr_M) : vr_CI l yX3_yields cX3_yields 6 (some .int) ({ frames := 2, cells := 0, slots := 0, locals := 49 } : Room) G [.ref (vr_ad G k), .ref (vr_ad G k0), .int (vr_I a1), .int (vr_I a2)] μ (fX3_yields k k0 a1 a2 μ) := by
  refine vr_start (own := RX3) (by decide) rfl (Nat.le_of_ble_eq_true rfl) (fun p e s m args below meth c C0 => ?_)
  obtain ⟨q_k, ⟨d_k_1, d_k_2, d_k_3, d_k_4⟩, n_k_1, n_k_2, n_k_3, n_k_4⟩ := vr_land hk_k hd_k
  obtain ⟨q_k0, ⟨d_k0_1, d_k0_2, d_k0_3, d_k0_4, d_k0_5⟩, n_k0_1, n_k0_2, n_k0_3, n_k0_4, n_k0_5⟩ := vr_hill hk_k0 hd_k0
  show vr_J p l e _ s m args below meth c 6 0 0 G (vr_Z (vr_QI G) G args s below) 0 [(0, .ref (vr_ad G k)), (1, .ref (vr_ad G k0)), (2, .int (vr_I a1)), (3, .int (vr_I a2))] [] μ _
  have L13 : ∀ (n : Nat) (x3 : Int) (h_x3 : vr_R x3) (x4 : Int) (h_x4 : vr_R x4) (x5 : Int) (h_x5 : vr_R x5) (μ : vr_M), vr_J p l e ({ frames := 2, cells := 0, slots := 0, locals := 49 } : Room) s m args below meth c 6 0 0 G (vr_Z (vr_QI G) G args s below) 13 [(0, .ref (vr_ad G k)), (3, .int (vr_I x3)), (4, .int (vr_I x4)), (5, .int (vr_I x5))] [] μ (fX3_yields_L13 k k0 n x3 x4 x5 μ) := by
    intro n13
    induction n13 with
    | zero => intros; exact jr_none
    | succ n13 ih13 =>
      have B61 : ∀ (x3 : Int) (h_x3 : vr_R x3) (x4 : Int) (h_x4 : vr_R x4) (x5 : Int) (h_x5 : vr_R x5) (μ : vr_M), vr_J p l e ({ frames := 2, cells := 0, slots := 0, locals := 49 } : Room) s m args below meth c 6 0 0 G (vr_Z (vr_QI G) G args s below) 61 [(0, .ref (vr_ad G k)), (3, .int (vr_I x3)), (4, .int (vr_I x4)), (5, .int (vr_I x5))] [] μ (fX3_yields_B61 k k0 (fX3_yields_L13 k k0 n13) x3 x4 x5 μ) := by
        intro x3 h_x3 x4 h_x4 x5 h_x5 μ
        unfold fX3_yields_B61
        refine jr_iinc C0 (q := 3) dX3_yields_61 rfl (by decide) (lv' := [(5, .int (vr_I (x5 + 1))), (0, .ref (vr_ad G k)), (3, .int (vr_I x3)), (4, .int (vr_I x4))]) rfl ?_
        refine jr_goto C0 dX3_yields_64 (tgt := 13) (by decide) ?_
        refine jr_gd (fun g1 => ?_)
        refine jr_sub [1, 2, 3, 0] rfl ?_
        exact ih13 x3 h_x3 x4 h_x4 (x5 + 1) g1 _
      intro x3 h_x3 x4 h_x4 x5 h_x5 μ
      rw [fX3_yields_L13.eq_2]
      refine jr_iload C0 3 dX3_yields_13 rfl ?_
      refine jr_aload_n C0 0 dX3_yields_15 rfl rfl ?_
      refine jr_geti C0 hk_k hd_k (by decide) rfl wx_X3 (i := 3) (by decide) wf_X3_27 rfl dX3_yields_16 ?_
      refine jr_gd (fun g2 => ?_)
      refine jr_icmp_ge C0 h_x5 g2 dX3_yields_19 (tgt := 67) (by decide) ?_ ?_
      · refine jr_iload C0 2 dX3_yields_67 rfl ?_
        refine jr_iload_n C0 1 dX3_yields_69 rfl rfl ?_
        refine jr_isub C0 dX3_yields_70 ?_
        refine jr_iconst C0 dX3_yields_71 ?_
        refine jr_gd (fun g3 => ?_)
        refine jr_max C0 g3 (⟨by decide, by decide⟩) wm_X3_75 wt_yJ9_max_7cf53 wz_J9 wc_yJ9_max_7cf53 (Nat.le_of_ble_eq_true rfl) (Nat.le_of_ble_eq_true rfl) dX3_yields_72 ?_
        refine jr_gd (fun g4 => ?_)
        exact jr_iret C0 g4 dX3_yields_75
      refine jr_iload C0 3 dX3_yields_22 rfl ?_
      refine jr_bipush C0 dX3_yields_24 rfl ?_
      refine jr_icmp_ge C0 h_x5 (⟨by decide, by decide⟩) dX3_yields_26 (tgt := 61) (by decide) ?_ ?_
      · exact B61 x3 h_x3 x4 h_x4 x5 h_x5 _
      refine jr_aload_n C0 0 dX3_yields_29 rfl rfl ?_
      refine jr_getr C0 hk_k hd_k (by decide) rfl wx_X3 (i := 0) (by decide) wf_X3_9 (j := (k + 1)) rfl dX3_yields_30 ?_
      refine jr_iload C0 3 dX3_yields_33 rfl ?_
      refine jr_gd (fun g5 => ?_)
      refine jr_iald C0 (by omega) d_k_1 n_k_1 g5 (j := x5.toNat) rfl dX3_yields_35 ?_
      refine jr_iconst C0 dX3_yields_36 ?_
      refine jr_gd (fun g6 => ?_)
      refine jr_icmp_eq C0 g6 (⟨by decide, by decide⟩) dX3_yields_37 (tgt := 61) (by decide) ?_ ?_
      · exact B61 x3 h_x3 x4 h_x4 x5 h_x5 _
      refine jr_aload_n C0 0 dX3_yields_40 rfl rfl ?_
      refine jr_iload C0 3 dX3_yields_41 rfl ?_
      refine jr_vI C0 hk_k hd_k (by decide) rfl (ct_X3_holds l G hk_k hd_k x5 h_x5 _) mi_X3_holds wm_X3_72 ⟨Nat.le_of_ble_eq_true rfl, Nat.le_of_ble_eq_true rfl⟩ ⟨rfl, rfl⟩ (As := [.int (vr_I x5)]) rfl (st := []) rfl (Nat.le_of_ble_eq_true rfl) dX3_yields_43 (fun r7 hr7 => ?_)
      refine jr_if_eq C0 hr7 dX3_yields_46 (tgt := 61) (by decide) ?_ ?_
      · exact B61 x3 h_x3 x4 h_x4 x5 h_x5 _
      refine jr_iload C0 2 dX3_yields_49 rfl ?_
      refine jr_aload_n C0 0 dX3_yields_51 rfl rfl ?_
      refine jr_getr C0 hk_k hd_k (by decide) rfl wx_X3 (i := 0) (by decide) wf_X3_9 (j := (k + 1)) rfl dX3_yields_52 ?_
      refine jr_iload C0 3 dX3_yields_55 rfl ?_
      refine jr_iald C0 (by omega) d_k_1 n_k_1 g5 (j := x5.toNat) rfl dX3_yields_57 ?_
      refine jr_iadd C0 dX3_yields_58 ?_
      refine jr_istore C0 dX3_yields_59 (by decide) (lv' := [(4, .int (vr_I (x4 + (r7.2 (k + 1) x5.toNat)))), (0, .ref (vr_ad G k)), (3, .int (vr_I x3)), (5, .int (vr_I x5))]) rfl ?_
      refine jr_gd (fun g8 => ?_)
      refine jr_sub [1, 2, 0, 3] rfl ?_
      exact B61 x3 h_x3 (x4 + (r7.2 (k + 1) x5.toNat)) g8 x5 h_x5 _
  unfold fX3_yields
  refine jr_aload_n C0 0 dX3_yields_0 rfl rfl ?_
  refine jr_aload_n C0 1 dX3_yields_1 rfl rfl ?_
  refine jr_iload_n C0 2 dX3_yields_2 rfl rfl ?_
  refine jr_iload_n C0 3 dX3_yields_3 rfl rfl ?_
  refine jr_vV0 C0 hk_k hd_k (by decide) rfl (ct_X3_look l G hk_k hd_k hk_k0 hd_k0 a1 h_a1 a2 h_a2 _) mi_X3_look wm_X3_68 ⟨Nat.le_of_ble_eq_true rfl, Nat.le_of_ble_eq_true rfl⟩ ⟨rfl, rfl⟩ (As := [.ref (vr_ad G k0), .int (vr_I a1), .int (vr_I a2)]) rfl (st := []) rfl (Nat.le_of_ble_eq_true rfl) dX3_yields_4 (fun r9 => ?_)
  refine jr_iconst C0 dX3_yields_7 ?_
  refine jr_istore C0 dX3_yields_8 (by decide) (lv' := [(4, .int (vr_I 0)), (0, .ref (vr_ad G k)), (1, .ref (vr_ad G k0)), (2, .int (vr_I a1)), (3, .int (vr_I a2))]) rfl ?_
  refine jr_iconst C0 dX3_yields_10 ?_
  refine jr_istore C0 dX3_yields_11 (by decide) (lv' := [(5, .int (vr_I 0)), (4, .int (vr_I 0)), (0, .ref (vr_ad G k)), (1, .ref (vr_ad G k0)), (2, .int (vr_I a1)), (3, .int (vr_I a2))]) rfl ?_
  refine jr_sub [2, 5, 1, 0] rfl ?_
  exact L13 9000 a2 h_a2 0 (⟨by decide, by decide⟩) 0 (⟨by decide, by decide⟩) _
theorem dX0_lookRound_0 : decode cX0_lookRound 0 = .ok (.iconst 0, 1) := by decide +kernel
theorem dX0_lookRound_1 : decode cX0_lookRound 1 = .ok (.istore_n 1, 1) := by decide +kernel
theorem dX0_lookRound_2 : decode cX0_lookRound 2 = .ok (.iload_n 1, 1) := by decide +kernel
theorem dX0_lookRound_3 : decode cX0_lookRound 3 = .ok (.bipush 8, 2) := by decide +kernel
theorem dX0_lookRound_5 : decode cX0_lookRound 5 = .ok (.if_icmp .ge 54, 3) := by decide +kernel
theorem dX0_lookRound_8 : decode cX0_lookRound 8 = .ok (.aload_n 0, 1) := by decide +kernel
theorem dX0_lookRound_9 : decode cX0_lookRound 9 = .ok (.getfield 15, 3) := by decide +kernel
theorem dX0_lookRound_12 : decode cX0_lookRound 12 = .ok (.iload_n 1, 1) := by decide +kernel
theorem dX0_lookRound_13 : decode cX0_lookRound 13 = .ok (.aload_n 0, 1) := by decide +kernel
theorem dX0_lookRound_14 : decode cX0_lookRound 14 = .ok (.getfield 28, 3) := by decide +kernel
theorem dX0_lookRound_17 : decode cX0_lookRound 17 = .ok (.iload_n 1, 1) := by decide +kernel
theorem dX0_lookRound_18 : decode cX0_lookRound 18 = .ok (.invokevirtual 44, 3) := by decide +kernel
theorem dX0_lookRound_21 : decode cX0_lookRound 21 = .ok (.ifCond .eq 30, 3) := by decide +kernel
theorem dX0_lookRound_24 : decode cX0_lookRound 24 = .ok (.aload_n 0, 1) := by decide +kernel
theorem dX0_lookRound_25 : decode cX0_lookRound 25 = .ok (.getfield 32, 3) := by decide +kernel
theorem dX0_lookRound_28 : decode cX0_lookRound 28 = .ok (.aload_n 0, 1) := by decide +kernel
theorem dX0_lookRound_29 : decode cX0_lookRound 29 = .ok (.getfield 28, 3) := by decide +kernel
theorem dX0_lookRound_32 : decode cX0_lookRound 32 = .ok (.iload_n 1, 1) := by decide +kernel
theorem dX0_lookRound_33 : decode cX0_lookRound 33 = .ok (.aload_n 0, 1) := by decide +kernel
theorem dX0_lookRound_34 : decode cX0_lookRound 34 = .ok (.getfield 32, 3) := by decide +kernel
theorem dX0_lookRound_37 : decode cX0_lookRound 37 = .ok (.aload_n 0, 1) := by decide +kernel
theorem dX0_lookRound_38 : decode cX0_lookRound 38 = .ok (.getfield 28, 3) := by decide +kernel
theorem dX0_lookRound_41 : decode cX0_lookRound 41 = .ok (.iload_n 1, 1) := by decide +kernel
theorem dX0_lookRound_42 : decode cX0_lookRound 42 = .ok (.invokevirtual 48, 3) := by decide +kernel
theorem dX0_lookRound_45 : decode cX0_lookRound 45 = .ok (.invokevirtual 54, 3) := by decide +kernel
theorem dX0_lookRound_48 : decode cX0_lookRound 48 = .ok (.goto 4, 3) := by decide +kernel
theorem dX0_lookRound_51 : decode cX0_lookRound 51 = .ok (.iconst 0, 1) := by decide +kernel
theorem dX0_lookRound_52 : decode cX0_lookRound 52 = .ok (.iastore, 1) := by decide +kernel
theorem dX0_lookRound_53 : decode cX0_lookRound 53 = .ok (.iinc 1 1, 3) := by decide +kernel
theorem dX0_lookRound_56 : decode cX0_lookRound 56 = .ok (.goto (-54), 3) := by decide +kernel
theorem dX0_lookRound_59 : decode cX0_lookRound 59 = .ok (.return_, 1) := by decide +kernel
def fX0_lookRound_B52 (rc2 : Int → vr_M → Option (Int × vr_M)) (x1 : Int) (y1 : Int) (y2 : Int) (μ : vr_M) : Option (Int × vr_M) :=
  vr_gd (0 ≤ y1 ∧ y1 < 8) (vr_gd (vr_R (x1 + 1)) (rc2 (x1 + 1) (vr_u μ 59 y1.toNat y2)))
def fX0_lookRound_L2 : Nat → Int → vr_M → Option (Int × vr_M)
  | 0, _, _ => none
  | n + 1, x1, μ => if 8 ≤ x1 then some (0, μ) else (fX2_has 52 x1 μ).bind (fun r3 => if r3.1 = 0 then fX0_lookRound_B52 (fX0_lookRound_L2 n) x1 x1 0 r3.2 else (fX3_wornWhenBurnt 8 52 x1 r3.2).bind (fun r4 => (fX3_yields 8 52 x1 r4.1 r4.2).bind (fun r5 => fX0_lookRound_B52 (fX0_lookRound_L2 n) x1 x1 r5.1 r5.2)))
def fX0_lookRound (μ : vr_M) : Option (Int × vr_M) :=
  fX0_lookRound_L2 9000 0 μ
set_option maxRecDepth 100000 in
set_option maxHeartbeats 4000000 in
theorem ct_X0_lookRound (l : Launch) (G : vr_G) (μ : vr_M) : vr_CV l yX0_lookRound cX0_lookRound 2 none ({ frames := 3, cells := 0, slots := 0, locals := 74 } : Room) G [.ref (vr_ad G 58)] μ (fX0_lookRound μ) := by
  refine vr_start (own := RX0) (by decide) rfl (Nat.le_of_ble_eq_true rfl) (fun p e s m args below meth c C0 => ?_)
  show vr_J p l e _ s m args below meth c 2 0 0 G (vr_Z (vr_QV G) G args s below) 0 [(0, .ref (vr_ad G 58))] [] μ _
  have L2 : ∀ (n : Nat) (x1 : Int) (h_x1 : vr_R x1) (μ : vr_M), vr_J p l e ({ frames := 3, cells := 0, slots := 0, locals := 74 } : Room) s m args below meth c 2 0 0 G (vr_Z (vr_QV G) G args s below) 2 [(0, .ref (vr_ad G 58)), (1, .int (vr_I x1))] [] μ (fX0_lookRound_L2 n x1 μ) := by
    intro n2
    induction n2 with
    | zero => intros; exact jr_none
    | succ n2 ih2 =>
      have B52 : ∀ (x1 : Int) (h_x1 : vr_R x1) (y1 : Int) (h_y1 : vr_R y1) (y2 : Int) (h_y2 : vr_R y2) (μ : vr_M), vr_J p l e ({ frames := 3, cells := 0, slots := 0, locals := 74 } : Room) s m args below meth c 2 0 0 G (vr_Z (vr_QV G) G args s below) 52 [(0, .ref (vr_ad G 58)), (1, .int (vr_I x1))] [.int (vr_I y2), .int (vr_I y1), .ref (vr_ad G 59)] μ (fX0_lookRound_B52 (fX0_lookRound_L2 n2) x1 y1 y2 μ) := by
        intro x1 h_x1 y1 h_y1 y2 h_y2 μ
        unfold fX0_lookRound_B52
        refine jr_gd (fun g1 => ?_)
        refine jr_iast C0 (by decide) kd_59 kl_59 g1 (j := y1.toNat) rfl dX0_lookRound_52 ?_
        refine jr_iinc C0 (q := 1) dX0_lookRound_53 rfl (by decide) (lv' := [(1, .int (vr_I (x1 + 1))), (0, .ref (vr_ad G 58))]) rfl ?_
        refine jr_goto C0 dX0_lookRound_56 (tgt := 2) (by decide) ?_
        refine jr_gd (fun g2 => ?_)
        refine jr_sub [1, 0] rfl ?_
        exact ih2 (x1 + 1) g2 _
      intro x1 h_x1 μ
      rw [fX0_lookRound_L2.eq_2]
      refine jr_iload_n C0 1 dX0_lookRound_2 rfl rfl ?_
      refine jr_bipush C0 dX0_lookRound_3 rfl ?_
      refine jr_icmp_ge C0 h_x1 (⟨by decide, by decide⟩) dX0_lookRound_5 (tgt := 59) (by decide) ?_ ?_
      · exact jr_vret C0 dX0_lookRound_59
      refine jr_aload_n C0 0 dX0_lookRound_8 rfl rfl ?_
      refine jr_getr C0 (by decide) kd_58 (by decide) rfl wx_X0 (i := 4) (by decide) wf_X0_15 (j := 59) rfl dX0_lookRound_9 ?_
      refine jr_iload_n C0 1 dX0_lookRound_12 rfl rfl ?_
      refine jr_aload_n C0 0 dX0_lookRound_13 rfl rfl ?_
      refine jr_getr C0 (by decide) kd_58 (by decide) rfl wx_X0 (i := 0) (by decide) wf_X0_28 (j := 52) rfl dX0_lookRound_14 ?_
      refine jr_iload_n C0 1 dX0_lookRound_17 rfl rfl ?_
      refine jr_vI C0 (by decide) kd_52 (by decide) rfl (ct_X2_has l G (by decide) kd_52 x1 h_x1 _) mi_X2_has wm_X0_44 ⟨Nat.le_of_ble_eq_true rfl, Nat.le_of_ble_eq_true rfl⟩ ⟨rfl, rfl⟩ (As := [.int (vr_I x1)]) rfl (st := [.int (vr_I x1), .ref (vr_ad G 59)]) rfl (Nat.le_of_ble_eq_true rfl) dX0_lookRound_18 (fun r3 hr3 => ?_)
      refine jr_if_eq C0 hr3 dX0_lookRound_21 (tgt := 51) (by decide) ?_ ?_
      · refine jr_iconst C0 dX0_lookRound_51 ?_
        exact B52 x1 h_x1 x1 h_x1 0 (⟨by decide, by decide⟩) _
      refine jr_aload_n C0 0 dX0_lookRound_24 rfl rfl ?_
      refine jr_getr C0 (by decide) kd_58 (by decide) rfl wx_X0 (i := 1) (by decide) wf_X0_32 (j := 8) rfl dX0_lookRound_25 ?_
      refine jr_aload_n C0 0 dX0_lookRound_28 rfl rfl ?_
      refine jr_getr C0 (by decide) kd_58 (by decide) rfl wx_X0 (i := 0) (by decide) wf_X0_28 (j := 52) rfl dX0_lookRound_29 ?_
      refine jr_iload_n C0 1 dX0_lookRound_32 rfl rfl ?_
      refine jr_aload_n C0 0 dX0_lookRound_33 rfl rfl ?_
      refine jr_getr C0 (by decide) kd_58 (by decide) rfl wx_X0 (i := 1) (by decide) wf_X0_32 (j := 8) rfl dX0_lookRound_34 ?_
      refine jr_aload_n C0 0 dX0_lookRound_37 rfl rfl ?_
      refine jr_getr C0 (by decide) kd_58 (by decide) rfl wx_X0 (i := 0) (by decide) wf_X0_28 (j := 52) rfl dX0_lookRound_38 ?_
      refine jr_iload_n C0 1 dX0_lookRound_41 rfl rfl ?_
      refine jr_vI C0 (by decide) kd_8 (by decide) rfl (ct_X3_wornWhenBurnt l G (by decide) kd_8 (by decide) kd_52 x1 h_x1 _) mi_X3_wornWhenBurnt wm_X0_48 ⟨Nat.le_of_ble_eq_true rfl, Nat.le_of_ble_eq_true rfl⟩ ⟨rfl, rfl⟩ (As := [.ref (vr_ad G 52), .int (vr_I x1)]) rfl (st := [.int (vr_I x1), .ref (vr_ad G 52), .ref (vr_ad G 8), .int (vr_I x1), .ref (vr_ad G 59)]) rfl (Nat.le_of_ble_eq_true rfl) dX0_lookRound_42 (fun r4 hr4 => ?_)
      refine jr_vI C0 (by decide) kd_8 (by decide) rfl (ct_X3_yields l G (by decide) kd_8 (by decide) kd_52 x1 h_x1 r4.1 hr4 _) mi_X3_yields wm_X0_54 ⟨Nat.le_of_ble_eq_true rfl, Nat.le_of_ble_eq_true rfl⟩ ⟨rfl, rfl⟩ (As := [.ref (vr_ad G 52), .int (vr_I x1), .int (vr_I r4.1)]) rfl (st := [.int (vr_I x1), .ref (vr_ad G 59)]) rfl (Nat.le_of_ble_eq_true rfl) dX0_lookRound_45 (fun r5 hr5 => ?_)
      refine jr_goto C0 dX0_lookRound_48 (tgt := 52) (by decide) ?_
      exact B52 x1 h_x1 x1 h_x1 r5.1 hr5 _
  unfold fX0_lookRound
  refine jr_iconst C0 dX0_lookRound_0 ?_
  refine jr_istore_n C0 dX0_lookRound_1 rfl (by decide) (lv' := [(1, .int (vr_I 0)), (0, .ref (vr_ad G 58))]) rfl ?_
  refine jr_sub [1, 0] rfl ?_
  exact L2 9000 0 (⟨by decide, by decide⟩) _
theorem dX0_gift_0 : decode cX0_gift 0 = .ok (.aload_n 0, 1) := by decide +kernel
theorem dX0_gift_1 : decode cX0_gift 1 = .ok (.getfield 28, 3) := by decide +kernel
theorem dX0_gift_4 : decode cX0_gift 4 = .ok (.iload_n 1, 1) := by decide +kernel
theorem dX0_gift_5 : decode cX0_gift 5 = .ok (.invokevirtual 44, 3) := by decide +kernel
theorem dX0_gift_8 : decode cX0_gift 8 = .ok (.ifCond .eq 30, 3) := by decide +kernel
theorem dX0_gift_11 : decode cX0_gift 11 = .ok (.aload_n 0, 1) := by decide +kernel
theorem dX0_gift_12 : decode cX0_gift 12 = .ok (.getfield 28, 3) := by decide +kernel
theorem dX0_gift_15 : decode cX0_gift 15 = .ok (.getfield 58, 3) := by decide +kernel
theorem dX0_gift_18 : decode cX0_gift 18 = .ok (.iload_n 1, 1) := by decide +kernel
theorem dX0_gift_19 : decode cX0_gift 19 = .ok (.iaload, 1) := by decide +kernel
theorem dX0_gift_20 : decode cX0_gift 20 = .ok (.iload_n 2, 1) := by decide +kernel
theorem dX0_gift_21 : decode cX0_gift 21 = .ok (.isub, 1) := by decide +kernel
theorem dX0_gift_22 : decode cX0_gift 22 = .ok (.invokestatic 61, 3) := by decide +kernel
theorem dX0_gift_25 : decode cX0_gift 25 = .ok (.iload_n 3, 1) := by decide +kernel
theorem dX0_gift_26 : decode cX0_gift 26 = .ok (.if_icmp .gt 12, 3) := by decide +kernel
theorem dX0_gift_29 : decode cX0_gift 29 = .ok (.aload_n 0, 1) := by decide +kernel
theorem dX0_gift_30 : decode cX0_gift 30 = .ok (.getfield 15, 3) := by decide +kernel
theorem dX0_gift_33 : decode cX0_gift 33 = .ok (.iload_n 1, 1) := by decide +kernel
theorem dX0_gift_34 : decode cX0_gift 34 = .ok (.iaload, 1) := by decide +kernel
theorem dX0_gift_35 : decode cX0_gift 35 = .ok (.goto 4, 3) := by decide +kernel
theorem dX0_gift_38 : decode cX0_gift 38 = .ok (.iconst 0, 1) := by decide +kernel
theorem dX0_gift_39 : decode cX0_gift 39 = .ok (.ireturn, 1) := by decide +kernel
def fX0_gift_B39 (y0 : Int) (μ : vr_M) : Option (Int × vr_M) :=
  some (y0, μ)
def fX0_gift_B38 (μ : vr_M) : Option (Int × vr_M) :=
  fX0_gift_B39 0 μ
def fX0_gift (a0 : Int) (a1 : Int) (a2 : Int) (μ : vr_M) : Option (Int × vr_M) :=
  (fX2_has 52 a0 μ).bind (fun r1 => if r1.1 = 0 then fX0_gift_B38 r1.2 else vr_gd (0 ≤ a0 ∧ a0 < 8) (vr_gd (vr_R ((r1.2 54 a0.toNat) - a1)) (vr_gd (vr_R (if 0 ≤ ((r1.2 54 a0.toNat) - a1) then ((r1.2 54 a0.toNat) - a1) else -((r1.2 54 a0.toNat) - a1))) (if a2 < (if 0 ≤ ((r1.2 54 a0.toNat) - a1) then ((r1.2 54 a0.toNat) - a1) else -((r1.2 54 a0.toNat) - a1)) then fX0_gift_B38 r1.2 else vr_gd (vr_R (r1.2 59 a0.toNat)) (fX0_gift_B39 (r1.2 59 a0.toNat) r1.2)))))
set_option maxRecDepth 100000 in
set_option maxHeartbeats 4000000 in
theorem ct_X0_gift (l : Launch) (G : vr_G) (a0 : Int) (h_a0 : vr_R a0) (a1 : Int) (h_a1 : vr_R a1) (a2 : Int) (h_a2 : vr_R a2) (μ : vr_M) : vr_CI l yX0_gift cX0_gift 4 (some .int) ({ frames := 1, cells := 0, slots := 0, locals := 21 } : Room) G [.ref (vr_ad G 58), .int (vr_I a0), .int (vr_I a1), .int (vr_I a2)] μ (fX0_gift a0 a1 a2 μ) := by
  refine vr_start (own := RX0) (by decide) rfl (Nat.le_of_ble_eq_true rfl) (fun p e s m args below meth c C0 => ?_)
  show vr_J p l e _ s m args below meth c 4 0 0 G (vr_Z (vr_QI G) G args s below) 0 [(0, .ref (vr_ad G 58)), (1, .int (vr_I a0)), (2, .int (vr_I a1)), (3, .int (vr_I a2))] [] μ _
  have B39 : ∀ (y0 : Int) (h_y0 : vr_R y0) (μ : vr_M), vr_J p l e ({ frames := 1, cells := 0, slots := 0, locals := 21 } : Room) s m args below meth c 4 0 0 G (vr_Z (vr_QI G) G args s below) 39 [] [.int (vr_I y0)] μ (fX0_gift_B39 y0 μ) := by
    intro y0 h_y0 μ
    unfold fX0_gift_B39
    exact jr_iret C0 h_y0 dX0_gift_39
  have B38 : ∀ (μ : vr_M), vr_J p l e ({ frames := 1, cells := 0, slots := 0, locals := 21 } : Room) s m args below meth c 4 0 0 G (vr_Z (vr_QI G) G args s below) 38 [] [] μ (fX0_gift_B38 μ) := by
    intro μ
    unfold fX0_gift_B38
    refine jr_iconst C0 dX0_gift_38 ?_
    exact B39 0 (⟨by decide, by decide⟩) _
  unfold fX0_gift
  refine jr_aload_n C0 0 dX0_gift_0 rfl rfl ?_
  refine jr_getr C0 (by decide) kd_58 (by decide) rfl wx_X0 (i := 0) (by decide) wf_X0_28 (j := 52) rfl dX0_gift_1 ?_
  refine jr_iload_n C0 1 dX0_gift_4 rfl rfl ?_
  refine jr_vI C0 (by decide) kd_52 (by decide) rfl (ct_X2_has l G (by decide) kd_52 a0 h_a0 _) mi_X2_has wm_X0_44 ⟨Nat.le_of_ble_eq_true rfl, Nat.le_of_ble_eq_true rfl⟩ ⟨rfl, rfl⟩ (As := [.int (vr_I a0)]) rfl (st := []) rfl (Nat.le_of_ble_eq_true rfl) dX0_gift_5 (fun r1 hr1 => ?_)
  refine jr_if_eq C0 hr1 dX0_gift_8 (tgt := 38) (by decide) ?_ ?_
  · refine jr_sub [] rfl ?_
    exact B38 _
  refine jr_aload_n C0 0 dX0_gift_11 rfl rfl ?_
  refine jr_getr C0 (by decide) kd_58 (by decide) rfl wx_X0 (i := 0) (by decide) wf_X0_28 (j := 52) rfl dX0_gift_12 ?_
  refine jr_getr C0 (by decide) kd_52 (by decide) rfl wx_X2 (i := 1) (by decide) wf_X0_58 (j := 54) rfl dX0_gift_15 ?_
  refine jr_iload_n C0 1 dX0_gift_18 rfl rfl ?_
  refine jr_gd (fun g2 => ?_)
  refine jr_iald C0 (by decide) kd_54 kl_54 g2 (j := a0.toNat) rfl dX0_gift_19 ?_
  refine jr_iload_n C0 2 dX0_gift_20 rfl rfl ?_
  refine jr_isub C0 dX0_gift_21 ?_
  refine jr_gd (fun g3 => ?_)
  refine jr_abs C0 g3 wm_X0_61 wt_yJ9_abs_0f7a4 wz_J9 wc_yJ9_abs_0f7a4 (Nat.le_of_ble_eq_true rfl) (Nat.le_of_ble_eq_true rfl) dX0_gift_22 ?_
  refine jr_iload_n C0 3 dX0_gift_25 rfl rfl ?_
  refine jr_gd (fun g4 => ?_)
  refine jr_icmp_gt C0 g4 h_a2 dX0_gift_26 (tgt := 38) (by decide) ?_ ?_
  · refine jr_sub [] rfl ?_
    exact B38 _
  refine jr_aload_n C0 0 dX0_gift_29 rfl rfl ?_
  refine jr_getr C0 (by decide) kd_58 (by decide) rfl wx_X0 (i := 4) (by decide) wf_X0_15 (j := 59) rfl dX0_gift_30 ?_
  refine jr_iload_n C0 1 dX0_gift_33 rfl rfl ?_
  refine jr_iald C0 (by decide) kd_59 kl_59 g2 (j := a0.toNat) rfl dX0_gift_34 ?_
  refine jr_goto C0 dX0_gift_35 (tgt := 39) (by decide) ?_
  refine jr_gd (fun g5 => ?_)
  refine jr_sub [] rfl ?_
  exact B39 (r1.2 59 a0.toNat) g5 _
theorem dX0_giftOf_0 : decode cX0_giftOf 0 = .ok (.iconst 0, 1) := by decide +kernel
theorem dX0_giftOf_1 : decode cX0_giftOf 1 = .ok (.istore_n 3, 1) := by decide +kernel
theorem dX0_giftOf_2 : decode cX0_giftOf 2 = .ok (.iconst 0, 1) := by decide +kernel
theorem dX0_giftOf_3 : decode cX0_giftOf 3 = .ok (.istore 4, 2) := by decide +kernel
theorem dX0_giftOf_5 : decode cX0_giftOf 5 = .ok (.iload 4, 2) := by decide +kernel
theorem dX0_giftOf_7 : decode cX0_giftOf 7 = .ok (.bipush 8, 2) := by decide +kernel
theorem dX0_giftOf_9 : decode cX0_giftOf 9 = .ok (.if_icmp .ge 35, 3) := by decide +kernel
theorem dX0_giftOf_12 : decode cX0_giftOf 12 = .ok (.iload_n 1, 1) := by decide +kernel
theorem dX0_giftOf_13 : decode cX0_giftOf 13 = .ok (.iload 4, 2) := by decide +kernel
theorem dX0_giftOf_15 : decode cX0_giftOf 15 = .ok (.ishr, 1) := by decide +kernel
theorem dX0_giftOf_16 : decode cX0_giftOf 16 = .ok (.iconst 1, 1) := by decide +kernel
theorem dX0_giftOf_17 : decode cX0_giftOf 17 = .ok (.iand, 1) := by decide +kernel
theorem dX0_giftOf_18 : decode cX0_giftOf 18 = .ok (.ifCond .eq 20, 3) := by decide +kernel
theorem dX0_giftOf_21 : decode cX0_giftOf 21 = .ok (.iload_n 3, 1) := by decide +kernel
theorem dX0_giftOf_22 : decode cX0_giftOf 22 = .ok (.aload_n 0, 1) := by decide +kernel
theorem dX0_giftOf_23 : decode cX0_giftOf 23 = .ok (.iload 4, 2) := by decide +kernel
theorem dX0_giftOf_25 : decode cX0_giftOf 25 = .ok (.iload_n 2, 1) := by decide +kernel
theorem dX0_giftOf_26 : decode cX0_giftOf 26 = .ok (.aload_n 0, 1) := by decide +kernel
theorem dX0_giftOf_27 : decode cX0_giftOf 27 = .ok (.getfield 32, 3) := by decide +kernel
theorem dX0_giftOf_30 : decode cX0_giftOf 30 = .ok (.getfield 67, 3) := by decide +kernel
theorem dX0_giftOf_33 : decode cX0_giftOf 33 = .ok (.invokevirtual 70, 3) := by decide +kernel
theorem dX0_giftOf_36 : decode cX0_giftOf 36 = .ok (.iadd, 1) := by decide +kernel
theorem dX0_giftOf_37 : decode cX0_giftOf 37 = .ok (.istore_n 3, 1) := by decide +kernel
theorem dX0_giftOf_38 : decode cX0_giftOf 38 = .ok (.iinc 4 1, 3) := by decide +kernel
theorem dX0_giftOf_41 : decode cX0_giftOf 41 = .ok (.goto (-36), 3) := by decide +kernel
theorem dX0_giftOf_44 : decode cX0_giftOf 44 = .ok (.iload_n 3, 1) := by decide +kernel
theorem dX0_giftOf_45 : decode cX0_giftOf 45 = .ok (.ireturn, 1) := by decide +kernel
def fX0_giftOf_B38 (rc5 : Int → Int → Int → Int → vr_M → Option (Int × vr_M)) (x1 : Int) (x2 : Int) (x3 : Int) (x4 : Int) (μ : vr_M) : Option (Int × vr_M) :=
  vr_gd (vr_R (x4 + 1)) (rc5 x1 x2 x3 (x4 + 1) μ)
def fX0_giftOf_L5 : Nat → Int → Int → Int → Int → vr_M → Option (Int × vr_M)
  | 0, _, _, _, _, _ => none
  | n + 1, x1, x2, x3, x4, μ => if 8 ≤ x4 then some (x3, μ) else if (vr_and (vr_shr x1 x4) 1) = 0 then fX0_giftOf_B38 (fX0_giftOf_L5 n) x1 x2 x3 x4 μ else vr_gd (vr_R (μ 8 5)) ((fX0_gift x4 x2 (μ 8 5) μ).bind (fun r3 => vr_gd (vr_R (x3 + r3.1)) (fX0_giftOf_B38 (fX0_giftOf_L5 n) x1 x2 (x3 + r3.1) x4 r3.2)))
def fX0_giftOf (a0 : Int) (a1 : Int) (μ : vr_M) : Option (Int × vr_M) :=
  fX0_giftOf_L5 9000 a0 a1 0 0 μ
set_option maxRecDepth 100000 in
set_option maxHeartbeats 4000000 in
theorem ct_X0_giftOf (l : Launch) (G : vr_G) (a0 : Int) (h_a0 : vr_R a0) (a1 : Int) (h_a1 : vr_R a1) (μ : vr_M) : vr_CI l yX0_giftOf cX0_giftOf 5 (some .int) ({ frames := 2, cells := 0, slots := 0, locals := 44 } : Room) G [.ref (vr_ad G 58), .int (vr_I a0), .int (vr_I a1)] μ (fX0_giftOf a0 a1 μ) := by
  refine vr_start (own := RX0) (by decide) rfl (Nat.le_of_ble_eq_true rfl) (fun p e s m args below meth c C0 => ?_)
  show vr_J p l e _ s m args below meth c 5 0 0 G (vr_Z (vr_QI G) G args s below) 0 [(0, .ref (vr_ad G 58)), (1, .int (vr_I a0)), (2, .int (vr_I a1))] [] μ _
  have L5 : ∀ (n : Nat) (x1 : Int) (h_x1 : vr_R x1) (x2 : Int) (h_x2 : vr_R x2) (x3 : Int) (h_x3 : vr_R x3) (x4 : Int) (h_x4 : vr_R x4) (μ : vr_M), vr_J p l e ({ frames := 2, cells := 0, slots := 0, locals := 44 } : Room) s m args below meth c 5 0 0 G (vr_Z (vr_QI G) G args s below) 5 [(0, .ref (vr_ad G 58)), (1, .int (vr_I x1)), (2, .int (vr_I x2)), (3, .int (vr_I x3)), (4, .int (vr_I x4))] [] μ (fX0_giftOf_L5 n x1 x2 x3 x4 μ) := by
    intro n5
    induction n5 with
    | zero => intros; exact jr_none
    | succ n5 ih5 =>
      have B38 : ∀ (x1 : Int) (h_x1 : vr_R x1) (x2 : Int) (h_x2 : vr_R x2) (x3 : Int) (h_x3 : vr_R x3) (x4 : Int) (h_x4 : vr_R x4) (μ : vr_M), vr_J p l e ({ frames := 2, cells := 0, slots := 0, locals := 44 } : Room) s m args below meth c 5 0 0 G (vr_Z (vr_QI G) G args s below) 38 [(0, .ref (vr_ad G 58)), (1, .int (vr_I x1)), (2, .int (vr_I x2)), (3, .int (vr_I x3)), (4, .int (vr_I x4))] [] μ (fX0_giftOf_B38 (fX0_giftOf_L5 n5) x1 x2 x3 x4 μ) := by
        intro x1 h_x1 x2 h_x2 x3 h_x3 x4 h_x4 μ
        unfold fX0_giftOf_B38
        refine jr_iinc C0 (q := 4) dX0_giftOf_38 rfl (by decide) (lv' := [(4, .int (vr_I (x4 + 1))), (0, .ref (vr_ad G 58)), (1, .int (vr_I x1)), (2, .int (vr_I x2)), (3, .int (vr_I x3))]) rfl ?_
        refine jr_goto C0 dX0_giftOf_41 (tgt := 5) (by decide) ?_
        refine jr_gd (fun g1 => ?_)
        refine jr_sub [1, 2, 3, 4, 0] rfl ?_
        exact ih5 x1 h_x1 x2 h_x2 x3 h_x3 (x4 + 1) g1 _
      intro x1 h_x1 x2 h_x2 x3 h_x3 x4 h_x4 μ
      rw [fX0_giftOf_L5.eq_2]
      refine jr_iload C0 4 dX0_giftOf_5 rfl ?_
      refine jr_bipush C0 dX0_giftOf_7 rfl ?_
      refine jr_icmp_ge C0 h_x4 (⟨by decide, by decide⟩) dX0_giftOf_9 (tgt := 44) (by decide) ?_ ?_
      · refine jr_iload_n C0 3 dX0_giftOf_44 rfl rfl ?_
        exact jr_iret C0 h_x3 dX0_giftOf_45
      refine jr_iload_n C0 1 dX0_giftOf_12 rfl rfl ?_
      refine jr_iload C0 4 dX0_giftOf_13 rfl ?_
      refine jr_ishr C0 dX0_giftOf_15 ?_
      refine jr_iconst C0 dX0_giftOf_16 ?_
      refine jr_iand C0 dX0_giftOf_17 ?_
      refine jr_if_eq C0 (vr_RT _) dX0_giftOf_18 (tgt := 38) (by decide) ?_ ?_
      · exact B38 x1 h_x1 x2 h_x2 x3 h_x3 x4 h_x4 _
      refine jr_iload_n C0 3 dX0_giftOf_21 rfl rfl ?_
      refine jr_aload_n C0 0 dX0_giftOf_22 rfl rfl ?_
      refine jr_iload C0 4 dX0_giftOf_23 rfl ?_
      refine jr_iload_n C0 2 dX0_giftOf_25 rfl rfl ?_
      refine jr_aload_n C0 0 dX0_giftOf_26 rfl rfl ?_
      refine jr_getr C0 (by decide) kd_58 (by decide) rfl wx_X0 (i := 1) (by decide) wf_X0_32 (j := 8) rfl dX0_giftOf_27 ?_
      refine jr_geti C0 (by decide) kd_8 (by decide) rfl wx_X3 (i := 5) (by decide) wf_X0_67 rfl dX0_giftOf_30 ?_
      refine jr_gd (fun g2 => ?_)
      refine jr_vI C0 (by decide) kd_58 (by decide) rfl (ct_X0_gift l G x4 h_x4 x2 h_x2 (μ 8 5) g2 _) mi_X0_gift wm_X0_70 ⟨Nat.le_of_ble_eq_true rfl, Nat.le_of_ble_eq_true rfl⟩ ⟨rfl, rfl⟩ (As := [.int (vr_I x4), .int (vr_I x2), .int (vr_I (μ 8 5))]) rfl (st := [.int (vr_I x3)]) rfl (Nat.le_of_ble_eq_true rfl) dX0_giftOf_33 (fun r3 hr3 => ?_)
      refine jr_iadd C0 dX0_giftOf_36 ?_
      refine jr_istore_n C0 dX0_giftOf_37 rfl (by decide) (lv' := [(3, .int (vr_I (x3 + r3.1))), (0, .ref (vr_ad G 58)), (1, .int (vr_I x1)), (2, .int (vr_I x2)), (4, .int (vr_I x4))]) rfl ?_
      refine jr_gd (fun g4 => ?_)
      refine jr_sub [1, 2, 3, 0, 4] rfl ?_
      exact B38 x1 h_x1 x2 h_x2 (x3 + r3.1) g4 x4 h_x4 _
  unfold fX0_giftOf
  refine jr_iconst C0 dX0_giftOf_0 ?_
  refine jr_istore_n C0 dX0_giftOf_1 rfl (by decide) (lv' := [(3, .int (vr_I 0)), (0, .ref (vr_ad G 58)), (1, .int (vr_I a0)), (2, .int (vr_I a1))]) rfl ?_
  refine jr_iconst C0 dX0_giftOf_2 ?_
  refine jr_istore C0 dX0_giftOf_3 (by decide) (lv' := [(4, .int (vr_I 0)), (3, .int (vr_I 0)), (0, .ref (vr_ad G 58)), (1, .int (vr_I a0)), (2, .int (vr_I a1))]) rfl ?_
  refine jr_sub [2, 3, 4, 1, 0] rfl ?_
  exact L5 9000 a0 h_a0 a1 h_a1 0 (⟨by decide, by decide⟩) 0 (⟨by decide, by decide⟩) _
theorem dX0_picksInTurn_0 : decode cX0_picksInTurn 0 = .ok (.iconst 0, 1) := by decide +kernel
theorem dX0_picksInTurn_1 : decode cX0_picksInTurn 1 = .ok (.istore_n 1, 1) := by decide +kernel
theorem dX0_picksInTurn_2 : decode cX0_picksInTurn 2 = .ok (.iconst 0, 1) := by decide +kernel
theorem dX0_picksInTurn_3 : decode cX0_picksInTurn 3 = .ok (.istore_n 2, 1) := by decide +kernel
theorem dX0_picksInTurn_4 : decode cX0_picksInTurn 4 = .ok (.iload_n 2, 1) := by decide +kernel
theorem dX0_picksInTurn_5 : decode cX0_picksInTurn 5 = .ok (.aload_n 0, 1) := by decide +kernel
theorem dX0_picksInTurn_6 : decode cX0_picksInTurn 6 = .ok (.getfield 28, 3) := by decide +kernel
theorem dX0_picksInTurn_9 : decode cX0_picksInTurn 9 = .ok (.getfield 87, 3) := by decide +kernel
theorem dX0_picksInTurn_12 : decode cX0_picksInTurn 12 = .ok (.if_icmp .ge 43, 3) := by decide +kernel
theorem dX0_picksInTurn_15 : decode cX0_picksInTurn 15 = .ok (.aload_n 0, 1) := by decide +kernel
theorem dX0_picksInTurn_16 : decode cX0_picksInTurn 16 = .ok (.getfield 9, 3) := by decide +kernel
theorem dX0_picksInTurn_19 : decode cX0_picksInTurn 19 = .ok (.ifCond .le 36, 3) := by decide +kernel
theorem dX0_picksInTurn_22 : decode cX0_picksInTurn 22 = .ok (.iload_n 2, 1) := by decide +kernel
theorem dX0_picksInTurn_23 : decode cX0_picksInTurn 23 = .ok (.aload_n 0, 1) := by decide +kernel
theorem dX0_picksInTurn_24 : decode cX0_picksInTurn 24 = .ok (.getfield 9, 3) := by decide +kernel
theorem dX0_picksInTurn_27 : decode cX0_picksInTurn 27 = .ok (.irem, 1) := by decide +kernel
theorem dX0_picksInTurn_28 : decode cX0_picksInTurn 28 = .ok (.aload_n 0, 1) := by decide +kernel
theorem dX0_picksInTurn_29 : decode cX0_picksInTurn 29 = .ok (.getfield 28, 3) := by decide +kernel
theorem dX0_picksInTurn_32 : decode cX0_picksInTurn 32 = .ok (.getfield 39, 3) := by decide +kernel
theorem dX0_picksInTurn_35 : decode cX0_picksInTurn 35 = .ok (.aload_n 0, 1) := by decide +kernel
theorem dX0_picksInTurn_36 : decode cX0_picksInTurn 36 = .ok (.getfield 9, 3) := by decide +kernel
theorem dX0_picksInTurn_39 : decode cX0_picksInTurn 39 = .ok (.irem, 1) := by decide +kernel
theorem dX0_picksInTurn_40 : decode cX0_picksInTurn 40 = .ok (.if_icmp .ne 9, 3) := by decide +kernel
theorem dX0_picksInTurn_43 : decode cX0_picksInTurn 43 = .ok (.iload_n 1, 1) := by decide +kernel
theorem dX0_picksInTurn_44 : decode cX0_picksInTurn 44 = .ok (.iconst 1, 1) := by decide +kernel
theorem dX0_picksInTurn_45 : decode cX0_picksInTurn 45 = .ok (.iload_n 2, 1) := by decide +kernel
theorem dX0_picksInTurn_46 : decode cX0_picksInTurn 46 = .ok (.ishl, 1) := by decide +kernel
theorem dX0_picksInTurn_47 : decode cX0_picksInTurn 47 = .ok (.ior, 1) := by decide +kernel
theorem dX0_picksInTurn_48 : decode cX0_picksInTurn 48 = .ok (.istore_n 1, 1) := by decide +kernel
theorem dX0_picksInTurn_49 : decode cX0_picksInTurn 49 = .ok (.iinc 2 1, 3) := by decide +kernel
theorem dX0_picksInTurn_52 : decode cX0_picksInTurn 52 = .ok (.goto (-48), 3) := by decide +kernel
theorem dX0_picksInTurn_55 : decode cX0_picksInTurn 55 = .ok (.iload_n 1, 1) := by decide +kernel
theorem dX0_picksInTurn_56 : decode cX0_picksInTurn 56 = .ok (.ireturn, 1) := by decide +kernel
def fX0_picksInTurn_B55 (x1 : Int) (μ : vr_M) : Option (Int × vr_M) :=
  some (x1, μ)
def fX0_picksInTurn_B49 (rc4 : Int → Int → vr_M → Option (Int × vr_M)) (x1 : Int) (x2 : Int) (μ : vr_M) : Option (Int × vr_M) :=
  vr_gd (vr_R (x2 + 1)) (rc4 x1 (x2 + 1) μ)
def fX0_picksInTurn_L4 : Nat → Int → Int → vr_M → Option (Int × vr_M)
  | 0, _, _, _ => none
  | n + 1, x1, x2, μ => vr_gd (vr_R (μ 52 5)) (if (μ 52 5) ≤ x2 then fX0_picksInTurn_B55 x1 μ else vr_gd (vr_R (μ 58 3)) (if (μ 58 3) ≤ 0 then fX0_picksInTurn_B55 x1 μ else vr_gd (¬ (μ 58 3) = 0) (vr_gd (vr_R (μ 52 8)) (vr_gd (vr_R (x2.tmod (μ 58 3))) (vr_gd (vr_R ((μ 52 8).tmod (μ 58 3))) (if ¬ (x2.tmod (μ 58 3)) = ((μ 52 8).tmod (μ 58 3)) then fX0_picksInTurn_B49 (fX0_picksInTurn_L4 n) x1 x2 μ else fX0_picksInTurn_B49 (fX0_picksInTurn_L4 n) (vr_or x1 (vr_shl 1 x2)) x2 μ))))))
def fX0_picksInTurn (μ : vr_M) : Option (Int × vr_M) :=
  fX0_picksInTurn_L4 9000 0 0 μ
set_option maxRecDepth 100000 in
set_option maxHeartbeats 4000000 in
theorem ct_X0_picksInTurn (l : Launch) (G : vr_G) (μ : vr_M) : vr_CI l yX0_picksInTurn cX0_picksInTurn 3 (some .int) ({ frames := 0, cells := 0, slots := 0, locals := 0 } : Room) G [.ref (vr_ad G 58)] μ (fX0_picksInTurn μ) := by
  refine vr_start (own := RX0) (by decide) rfl (Nat.le_of_ble_eq_true rfl) (fun p e s m args below meth c C0 => ?_)
  show vr_J p l e _ s m args below meth c 3 0 0 G (vr_Z (vr_QI G) G args s below) 0 [(0, .ref (vr_ad G 58))] [] μ _
  have B55 : ∀ (x1 : Int) (h_x1 : vr_R x1) (μ : vr_M), vr_J p l e ({ frames := 0, cells := 0, slots := 0, locals := 0 } : Room) s m args below meth c 3 0 0 G (vr_Z (vr_QI G) G args s below) 55 [(1, .int (vr_I x1))] [] μ (fX0_picksInTurn_B55 x1 μ) := by
    intro x1 h_x1 μ
    unfold fX0_picksInTurn_B55
    refine jr_iload_n C0 0 dX0_picksInTurn_55 rfl rfl ?_
    exact jr_iret C0 h_x1 dX0_picksInTurn_56
  have L4 : ∀ (n : Nat) (x1 : Int) (h_x1 : vr_R x1) (x2 : Int) (h_x2 : vr_R x2) (μ : vr_M), vr_J p l e ({ frames := 0, cells := 0, slots := 0, locals := 0 } : Room) s m args below meth c 3 0 0 G (vr_Z (vr_QI G) G args s below) 4 [(0, .ref (vr_ad G 58)), (1, .int (vr_I x1)), (2, .int (vr_I x2))] [] μ (fX0_picksInTurn_L4 n x1 x2 μ) := by
    intro n4
    induction n4 with
    | zero => intros; exact jr_none
    | succ n4 ih4 =>
      have B49 : ∀ (x1 : Int) (h_x1 : vr_R x1) (x2 : Int) (h_x2 : vr_R x2) (μ : vr_M), vr_J p l e ({ frames := 0, cells := 0, slots := 0, locals := 0 } : Room) s m args below meth c 3 0 0 G (vr_Z (vr_QI G) G args s below) 49 [(0, .ref (vr_ad G 58)), (1, .int (vr_I x1)), (2, .int (vr_I x2))] [] μ (fX0_picksInTurn_B49 (fX0_picksInTurn_L4 n4) x1 x2 μ) := by
        intro x1 h_x1 x2 h_x2 μ
        unfold fX0_picksInTurn_B49
        refine jr_iinc C0 (q := 2) dX0_picksInTurn_49 rfl (by decide) (lv' := [(2, .int (vr_I (x2 + 1))), (0, .ref (vr_ad G 58)), (1, .int (vr_I x1))]) rfl ?_
        refine jr_goto C0 dX0_picksInTurn_52 (tgt := 4) (by decide) ?_
        refine jr_gd (fun g1 => ?_)
        refine jr_sub [1, 2, 0] rfl ?_
        exact ih4 x1 h_x1 (x2 + 1) g1 _
      intro x1 h_x1 x2 h_x2 μ
      rw [fX0_picksInTurn_L4.eq_2]
      refine jr_iload_n C0 2 dX0_picksInTurn_4 rfl rfl ?_
      refine jr_aload_n C0 0 dX0_picksInTurn_5 rfl rfl ?_
      refine jr_getr C0 (by decide) kd_58 (by decide) rfl wx_X0 (i := 0) (by decide) wf_X0_28 (j := 52) rfl dX0_picksInTurn_6 ?_
      refine jr_geti C0 (by decide) kd_52 (by decide) rfl wx_X2 (i := 5) (by decide) wf_X0_87 rfl dX0_picksInTurn_9 ?_
      refine jr_gd (fun g2 => ?_)
      refine jr_icmp_ge C0 h_x2 g2 dX0_picksInTurn_12 (tgt := 55) (by decide) ?_ ?_
      · refine jr_sub [1] rfl ?_
        exact B55 x1 h_x1 _
      refine jr_aload_n C0 0 dX0_picksInTurn_15 rfl rfl ?_
      refine jr_geti C0 (by decide) kd_58 (by decide) rfl wx_X0 (i := 3) (by decide) wf_X0_9 rfl dX0_picksInTurn_16 ?_
      refine jr_gd (fun g3 => ?_)
      refine jr_if_le C0 g3 dX0_picksInTurn_19 (tgt := 55) (by decide) ?_ ?_
      · refine jr_sub [1] rfl ?_
        exact B55 x1 h_x1 _
      refine jr_iload_n C0 2 dX0_picksInTurn_22 rfl rfl ?_
      refine jr_aload_n C0 0 dX0_picksInTurn_23 rfl rfl ?_
      refine jr_geti C0 (by decide) kd_58 (by decide) rfl wx_X0 (i := 3) (by decide) wf_X0_9 rfl dX0_picksInTurn_24 ?_
      refine jr_gd (fun g4 => ?_)
      refine jr_irem C0 h_x2 g3 g4 dX0_picksInTurn_27 ?_
      refine jr_aload_n C0 0 dX0_picksInTurn_28 rfl rfl ?_
      refine jr_getr C0 (by decide) kd_58 (by decide) rfl wx_X0 (i := 0) (by decide) wf_X0_28 (j := 52) rfl dX0_picksInTurn_29 ?_
      refine jr_geti C0 (by decide) kd_52 (by decide) rfl wx_X2 (i := 8) (by decide) wf_X0_39 rfl dX0_picksInTurn_32 ?_
      refine jr_aload_n C0 0 dX0_picksInTurn_35 rfl rfl ?_
      refine jr_geti C0 (by decide) kd_58 (by decide) rfl wx_X0 (i := 3) (by decide) wf_X0_9 rfl dX0_picksInTurn_36 ?_
      refine jr_gd (fun g5 => ?_)
      refine jr_irem C0 g5 g3 g4 dX0_picksInTurn_39 ?_
      refine jr_gd (fun g6 => ?_)
      refine jr_gd (fun g7 => ?_)
      refine jr_icmp_ne C0 g6 g7 dX0_picksInTurn_40 (tgt := 49) (by decide) ?_ ?_
      · exact B49 x1 h_x1 x2 h_x2 _
      refine jr_iload_n C0 1 dX0_picksInTurn_43 rfl rfl ?_
      refine jr_iconst C0 dX0_picksInTurn_44 ?_
      refine jr_iload_n C0 2 dX0_picksInTurn_45 rfl rfl ?_
      refine jr_ishl C0 dX0_picksInTurn_46 ?_
      refine jr_ior C0 dX0_picksInTurn_47 ?_
      refine jr_istore_n C0 dX0_picksInTurn_48 rfl (by decide) (lv' := [(1, .int (vr_I (vr_or x1 (vr_shl 1 x2)))), (0, .ref (vr_ad G 58)), (2, .int (vr_I x2))]) rfl ?_
      refine jr_sub [1, 0, 2] rfl ?_
      exact B49 (vr_or x1 (vr_shl 1 x2)) (vr_RT _) x2 h_x2 _
  unfold fX0_picksInTurn
  refine jr_iconst C0 dX0_picksInTurn_0 ?_
  refine jr_istore_n C0 dX0_picksInTurn_1 rfl (by decide) (lv' := [(1, .int (vr_I 0)), (0, .ref (vr_ad G 58))]) rfl ?_
  refine jr_iconst C0 dX0_picksInTurn_2 ?_
  refine jr_istore_n C0 dX0_picksInTurn_3 rfl (by decide) (lv' := [(2, .int (vr_I 0)), (1, .int (vr_I 0)), (0, .ref (vr_ad G 58))]) rfl ?_
  refine jr_sub [2, 1, 0] rfl ?_
  exact L4 9000 0 (⟨by decide, by decide⟩) 0 (⟨by decide, by decide⟩) _
theorem dX0_picksAllThatGive_0 : decode cX0_picksAllThatGive 0 = .ok (.iconst 0, 1) := by decide +kernel
theorem dX0_picksAllThatGive_1 : decode cX0_picksAllThatGive 1 = .ok (.istore_n 1, 1) := by decide +kernel
theorem dX0_picksAllThatGive_2 : decode cX0_picksAllThatGive 2 = .ok (.iconst 0, 1) := by decide +kernel
theorem dX0_picksAllThatGive_3 : decode cX0_picksAllThatGive 3 = .ok (.istore_n 2, 1) := by decide +kernel
theorem dX0_picksAllThatGive_4 : decode cX0_picksAllThatGive 4 = .ok (.iload_n 2, 1) := by decide +kernel
theorem dX0_picksAllThatGive_5 : decode cX0_picksAllThatGive 5 = .ok (.bipush 8, 2) := by decide +kernel
theorem dX0_picksAllThatGive_7 : decode cX0_picksAllThatGive 7 = .ok (.if_icmp .ge 24, 3) := by decide +kernel
theorem dX0_picksAllThatGive_10 : decode cX0_picksAllThatGive 10 = .ok (.aload_n 0, 1) := by decide +kernel
theorem dX0_picksAllThatGive_11 : decode cX0_picksAllThatGive 11 = .ok (.getfield 19, 3) := by decide +kernel
theorem dX0_picksAllThatGive_14 : decode cX0_picksAllThatGive 14 = .ok (.iload_n 2, 1) := by decide +kernel
theorem dX0_picksAllThatGive_15 : decode cX0_picksAllThatGive 15 = .ok (.iaload, 1) := by decide +kernel
theorem dX0_picksAllThatGive_16 : decode cX0_picksAllThatGive 16 = .ok (.ifCond .le 9, 3) := by decide +kernel
theorem dX0_picksAllThatGive_19 : decode cX0_picksAllThatGive 19 = .ok (.iload_n 1, 1) := by decide +kernel
theorem dX0_picksAllThatGive_20 : decode cX0_picksAllThatGive 20 = .ok (.iconst 1, 1) := by decide +kernel
theorem dX0_picksAllThatGive_21 : decode cX0_picksAllThatGive 21 = .ok (.iload_n 2, 1) := by decide +kernel
theorem dX0_picksAllThatGive_22 : decode cX0_picksAllThatGive 22 = .ok (.ishl, 1) := by decide +kernel
theorem dX0_picksAllThatGive_23 : decode cX0_picksAllThatGive 23 = .ok (.ior, 1) := by decide +kernel
theorem dX0_picksAllThatGive_24 : decode cX0_picksAllThatGive 24 = .ok (.istore_n 1, 1) := by decide +kernel
theorem dX0_picksAllThatGive_25 : decode cX0_picksAllThatGive 25 = .ok (.iinc 2 1, 3) := by decide +kernel
theorem dX0_picksAllThatGive_28 : decode cX0_picksAllThatGive 28 = .ok (.goto (-24), 3) := by decide +kernel
theorem dX0_picksAllThatGive_31 : decode cX0_picksAllThatGive 31 = .ok (.iload_n 1, 1) := by decide +kernel
theorem dX0_picksAllThatGive_32 : decode cX0_picksAllThatGive 32 = .ok (.ireturn, 1) := by decide +kernel
def fX0_picksAllThatGive_B25 (rc4 : Int → Int → vr_M → Option (Int × vr_M)) (x1 : Int) (x2 : Int) (μ : vr_M) : Option (Int × vr_M) :=
  vr_gd (vr_R (x2 + 1)) (rc4 x1 (x2 + 1) μ)
def fX0_picksAllThatGive_L4 : Nat → Int → Int → vr_M → Option (Int × vr_M)
  | 0, _, _, _ => none
  | n + 1, x1, x2, μ => if 8 ≤ x2 then some (x1, μ) else vr_gd (0 ≤ x2 ∧ x2 < 8) (vr_gd (vr_R (μ 60 x2.toNat)) (if (μ 60 x2.toNat) ≤ 0 then fX0_picksAllThatGive_B25 (fX0_picksAllThatGive_L4 n) x1 x2 μ else fX0_picksAllThatGive_B25 (fX0_picksAllThatGive_L4 n) (vr_or x1 (vr_shl 1 x2)) x2 μ))
def fX0_picksAllThatGive (μ : vr_M) : Option (Int × vr_M) :=
  fX0_picksAllThatGive_L4 9000 0 0 μ
set_option maxRecDepth 100000 in
set_option maxHeartbeats 4000000 in
theorem ct_X0_picksAllThatGive (l : Launch) (G : vr_G) (μ : vr_M) : vr_CI l yX0_picksAllThatGive cX0_picksAllThatGive 3 (some .int) ({ frames := 0, cells := 0, slots := 0, locals := 0 } : Room) G [.ref (vr_ad G 58)] μ (fX0_picksAllThatGive μ) := by
  refine vr_start (own := RX0) (by decide) rfl (Nat.le_of_ble_eq_true rfl) (fun p e s m args below meth c C0 => ?_)
  show vr_J p l e _ s m args below meth c 3 0 0 G (vr_Z (vr_QI G) G args s below) 0 [(0, .ref (vr_ad G 58))] [] μ _
  have L4 : ∀ (n : Nat) (x1 : Int) (h_x1 : vr_R x1) (x2 : Int) (h_x2 : vr_R x2) (μ : vr_M), vr_J p l e ({ frames := 0, cells := 0, slots := 0, locals := 0 } : Room) s m args below meth c 3 0 0 G (vr_Z (vr_QI G) G args s below) 4 [(0, .ref (vr_ad G 58)), (1, .int (vr_I x1)), (2, .int (vr_I x2))] [] μ (fX0_picksAllThatGive_L4 n x1 x2 μ) := by
    intro n4
    induction n4 with
    | zero => intros; exact jr_none
    | succ n4 ih4 =>
      have B25 : ∀ (x1 : Int) (h_x1 : vr_R x1) (x2 : Int) (h_x2 : vr_R x2) (μ : vr_M), vr_J p l e ({ frames := 0, cells := 0, slots := 0, locals := 0 } : Room) s m args below meth c 3 0 0 G (vr_Z (vr_QI G) G args s below) 25 [(0, .ref (vr_ad G 58)), (1, .int (vr_I x1)), (2, .int (vr_I x2))] [] μ (fX0_picksAllThatGive_B25 (fX0_picksAllThatGive_L4 n4) x1 x2 μ) := by
        intro x1 h_x1 x2 h_x2 μ
        unfold fX0_picksAllThatGive_B25
        refine jr_iinc C0 (q := 2) dX0_picksAllThatGive_25 rfl (by decide) (lv' := [(2, .int (vr_I (x2 + 1))), (0, .ref (vr_ad G 58)), (1, .int (vr_I x1))]) rfl ?_
        refine jr_goto C0 dX0_picksAllThatGive_28 (tgt := 4) (by decide) ?_
        refine jr_gd (fun g1 => ?_)
        refine jr_sub [1, 2, 0] rfl ?_
        exact ih4 x1 h_x1 (x2 + 1) g1 _
      intro x1 h_x1 x2 h_x2 μ
      rw [fX0_picksAllThatGive_L4.eq_2]
      refine jr_iload_n C0 2 dX0_picksAllThatGive_4 rfl rfl ?_
      refine jr_bipush C0 dX0_picksAllThatGive_5 rfl ?_
      refine jr_icmp_ge C0 h_x2 (⟨by decide, by decide⟩) dX0_picksAllThatGive_7 (tgt := 31) (by decide) ?_ ?_
      · refine jr_iload_n C0 1 dX0_picksAllThatGive_31 rfl rfl ?_
        exact jr_iret C0 h_x1 dX0_picksAllThatGive_32
      refine jr_aload_n C0 0 dX0_picksAllThatGive_10 rfl rfl ?_
      refine jr_getr C0 (by decide) kd_58 (by decide) rfl wx_X0 (i := 5) (by decide) wf_X0_19 (j := 60) rfl dX0_picksAllThatGive_11 ?_
      refine jr_iload_n C0 2 dX0_picksAllThatGive_14 rfl rfl ?_
      refine jr_gd (fun g2 => ?_)
      refine jr_iald C0 (by decide) kd_60 kl_60 g2 (j := x2.toNat) rfl dX0_picksAllThatGive_15 ?_
      refine jr_gd (fun g3 => ?_)
      refine jr_if_le C0 g3 dX0_picksAllThatGive_16 (tgt := 25) (by decide) ?_ ?_
      · exact B25 x1 h_x1 x2 h_x2 _
      refine jr_iload_n C0 1 dX0_picksAllThatGive_19 rfl rfl ?_
      refine jr_iconst C0 dX0_picksAllThatGive_20 ?_
      refine jr_iload_n C0 2 dX0_picksAllThatGive_21 rfl rfl ?_
      refine jr_ishl C0 dX0_picksAllThatGive_22 ?_
      refine jr_ior C0 dX0_picksAllThatGive_23 ?_
      refine jr_istore_n C0 dX0_picksAllThatGive_24 rfl (by decide) (lv' := [(1, .int (vr_I (vr_or x1 (vr_shl 1 x2)))), (0, .ref (vr_ad G 58)), (2, .int (vr_I x2))]) rfl ?_
      refine jr_sub [1, 0, 2] rfl ?_
      exact B25 (vr_or x1 (vr_shl 1 x2)) (vr_RT _) x2 h_x2 _
  unfold fX0_picksAllThatGive
  refine jr_iconst C0 dX0_picksAllThatGive_0 ?_
  refine jr_istore_n C0 dX0_picksAllThatGive_1 rfl (by decide) (lv' := [(1, .int (vr_I 0)), (0, .ref (vr_ad G 58))]) rfl ?_
  refine jr_iconst C0 dX0_picksAllThatGive_2 ?_
  refine jr_istore_n C0 dX0_picksAllThatGive_3 rfl (by decide) (lv' := [(2, .int (vr_I 0)), (1, .int (vr_I 0)), (0, .ref (vr_ad G 58))]) rfl ?_
  refine jr_sub [2, 1, 0] rfl ?_
  exact L4 9000 0 (⟨by decide, by decide⟩) 0 (⟨by decide, by decide⟩) _
theorem dX2_all_0 : decode cX2_all 0 = .ok (.iconst 1, 1) := by decide +kernel
theorem dX2_all_1 : decode cX2_all 1 = .ok (.aload_n 0, 1) := by decide +kernel
theorem dX2_all_2 : decode cX2_all 2 = .ok (.getfield 31, 3) := by decide +kernel
theorem dX2_all_5 : decode cX2_all 5 = .ok (.ishl, 1) := by decide +kernel
theorem dX2_all_6 : decode cX2_all 6 = .ok (.iconst 1, 1) := by decide +kernel
theorem dX2_all_7 : decode cX2_all 7 = .ok (.isub, 1) := by decide +kernel
theorem dX2_all_8 : decode cX2_all 8 = .ok (.ireturn, 1) := by decide +kernel
def fX2_all (k : Nat) (μ : vr_M) : Option (Int × vr_M) :=
  vr_gd (vr_R ((vr_shl 1 (μ k 5)) - 1)) (some ((vr_shl 1 (μ k 5)) - 1, μ))
set_option maxRecDepth 100000 in
set_option maxHeartbeats 4000000 in
theorem ct_X2_all (l : Launch) (G : vr_G) {k : Nat} (hk_k : k < 78) (hd_k : vr_kd k = 2) (μ : vr_M) : vr_CI l yX2_all cX2_all 1 (some .int) ({ frames := 0, cells := 0, slots := 0, locals := 0 } : Room) G [.ref (vr_ad G k)] μ (fX2_all k μ) := by
  refine vr_start (own := RX2) (by decide) rfl (Nat.le_of_ble_eq_true rfl) (fun p e s m args below meth c C0 => ?_)
  obtain ⟨q_k, ⟨d_k_1, d_k_2, d_k_3, d_k_4, d_k_5⟩, n_k_1, n_k_2, n_k_3, n_k_4, n_k_5⟩ := vr_hill hk_k hd_k
  show vr_J p l e _ s m args below meth c 1 0 0 G (vr_Z (vr_QI G) G args s below) 0 [(0, .ref (vr_ad G k))] [] μ _
  unfold fX2_all
  refine jr_iconst C0 dX2_all_0 ?_
  refine jr_aload_n C0 0 dX2_all_1 rfl rfl ?_
  refine jr_geti C0 hk_k hd_k (by decide) rfl wx_X2 (i := 5) (by decide) wf_X2_31 rfl dX2_all_2 ?_
  refine jr_ishl C0 dX2_all_5 ?_
  refine jr_iconst C0 dX2_all_6 ?_
  refine jr_isub C0 dX2_all_7 ?_
  refine jr_gd (fun g1 => ?_)
  exact jr_iret C0 g1 dX2_all_8
theorem dJ6_numberOfTrailingZeros_0f7a4_0 : decode cJ6_numberOfTrailingZeros_0f7a4 0 = .ok (.iload_n 0, 1) := by decide +kernel
theorem dJ6_numberOfTrailingZeros_0f7a4_1 : decode cJ6_numberOfTrailingZeros_0f7a4 1 = .ok (.iconst (-1), 1) := by decide +kernel
theorem dJ6_numberOfTrailingZeros_0f7a4_2 : decode cJ6_numberOfTrailingZeros_0f7a4 2 = .ok (.ixor, 1) := by decide +kernel
theorem dJ6_numberOfTrailingZeros_0f7a4_3 : decode cJ6_numberOfTrailingZeros_0f7a4 3 = .ok (.iload_n 0, 1) := by decide +kernel
theorem dJ6_numberOfTrailingZeros_0f7a4_4 : decode cJ6_numberOfTrailingZeros_0f7a4 4 = .ok (.iconst 1, 1) := by decide +kernel
theorem dJ6_numberOfTrailingZeros_0f7a4_5 : decode cJ6_numberOfTrailingZeros_0f7a4 5 = .ok (.isub, 1) := by decide +kernel
theorem dJ6_numberOfTrailingZeros_0f7a4_6 : decode cJ6_numberOfTrailingZeros_0f7a4 6 = .ok (.iand, 1) := by decide +kernel
theorem dJ6_numberOfTrailingZeros_0f7a4_7 : decode cJ6_numberOfTrailingZeros_0f7a4 7 = .ok (.istore_n 0, 1) := by decide +kernel
theorem dJ6_numberOfTrailingZeros_0f7a4_8 : decode cJ6_numberOfTrailingZeros_0f7a4 8 = .ok (.iload_n 0, 1) := by decide +kernel
theorem dJ6_numberOfTrailingZeros_0f7a4_9 : decode cJ6_numberOfTrailingZeros_0f7a4 9 = .ok (.ifCond .gt 8, 3) := by decide +kernel
theorem dJ6_numberOfTrailingZeros_0f7a4_12 : decode cJ6_numberOfTrailingZeros_0f7a4 12 = .ok (.iload_n 0, 1) := by decide +kernel
theorem dJ6_numberOfTrailingZeros_0f7a4_13 : decode cJ6_numberOfTrailingZeros_0f7a4 13 = .ok (.bipush 32, 2) := by decide +kernel
theorem dJ6_numberOfTrailingZeros_0f7a4_15 : decode cJ6_numberOfTrailingZeros_0f7a4 15 = .ok (.iand, 1) := by decide +kernel
theorem dJ6_numberOfTrailingZeros_0f7a4_16 : decode cJ6_numberOfTrailingZeros_0f7a4 16 = .ok (.ireturn, 1) := by decide +kernel
theorem dJ6_numberOfTrailingZeros_0f7a4_17 : decode cJ6_numberOfTrailingZeros_0f7a4 17 = .ok (.iconst 1, 1) := by decide +kernel
theorem dJ6_numberOfTrailingZeros_0f7a4_18 : decode cJ6_numberOfTrailingZeros_0f7a4 18 = .ok (.istore_n 1, 1) := by decide +kernel
theorem dJ6_numberOfTrailingZeros_0f7a4_19 : decode cJ6_numberOfTrailingZeros_0f7a4 19 = .ok (.iload_n 0, 1) := by decide +kernel
theorem dJ6_numberOfTrailingZeros_0f7a4_20 : decode cJ6_numberOfTrailingZeros_0f7a4 20 = .ok (.ldc_w 264, 3) := by decide +kernel
theorem dJ6_numberOfTrailingZeros_0f7a4_23 : decode cJ6_numberOfTrailingZeros_0f7a4 23 = .ok (.if_icmp .le 11, 3) := by decide +kernel
theorem dJ6_numberOfTrailingZeros_0f7a4_26 : decode cJ6_numberOfTrailingZeros_0f7a4 26 = .ok (.iinc 1 16, 3) := by decide +kernel
theorem dJ6_numberOfTrailingZeros_0f7a4_29 : decode cJ6_numberOfTrailingZeros_0f7a4 29 = .ok (.iload_n 0, 1) := by decide +kernel
theorem dJ6_numberOfTrailingZeros_0f7a4_30 : decode cJ6_numberOfTrailingZeros_0f7a4 30 = .ok (.bipush 16, 2) := by decide +kernel
theorem dJ6_numberOfTrailingZeros_0f7a4_32 : decode cJ6_numberOfTrailingZeros_0f7a4 32 = .ok (.iushr, 1) := by decide +kernel
theorem dJ6_numberOfTrailingZeros_0f7a4_33 : decode cJ6_numberOfTrailingZeros_0f7a4 33 = .ok (.istore_n 0, 1) := by decide +kernel
theorem dJ6_numberOfTrailingZeros_0f7a4_34 : decode cJ6_numberOfTrailingZeros_0f7a4 34 = .ok (.iload_n 0, 1) := by decide +kernel
theorem dJ6_numberOfTrailingZeros_0f7a4_35 : decode cJ6_numberOfTrailingZeros_0f7a4 35 = .ok (.sipush 256, 3) := by decide +kernel
theorem dJ6_numberOfTrailingZeros_0f7a4_38 : decode cJ6_numberOfTrailingZeros_0f7a4 38 = .ok (.if_icmp .le 11, 3) := by decide +kernel
theorem dJ6_numberOfTrailingZeros_0f7a4_41 : decode cJ6_numberOfTrailingZeros_0f7a4 41 = .ok (.iinc 1 8, 3) := by decide +kernel
theorem dJ6_numberOfTrailingZeros_0f7a4_44 : decode cJ6_numberOfTrailingZeros_0f7a4 44 = .ok (.iload_n 0, 1) := by decide +kernel
theorem dJ6_numberOfTrailingZeros_0f7a4_45 : decode cJ6_numberOfTrailingZeros_0f7a4 45 = .ok (.bipush 8, 2) := by decide +kernel
theorem dJ6_numberOfTrailingZeros_0f7a4_47 : decode cJ6_numberOfTrailingZeros_0f7a4 47 = .ok (.iushr, 1) := by decide +kernel
theorem dJ6_numberOfTrailingZeros_0f7a4_48 : decode cJ6_numberOfTrailingZeros_0f7a4 48 = .ok (.istore_n 0, 1) := by decide +kernel
theorem dJ6_numberOfTrailingZeros_0f7a4_49 : decode cJ6_numberOfTrailingZeros_0f7a4 49 = .ok (.iload_n 0, 1) := by decide +kernel
theorem dJ6_numberOfTrailingZeros_0f7a4_50 : decode cJ6_numberOfTrailingZeros_0f7a4 50 = .ok (.bipush 16, 2) := by decide +kernel
theorem dJ6_numberOfTrailingZeros_0f7a4_52 : decode cJ6_numberOfTrailingZeros_0f7a4 52 = .ok (.if_icmp .le 10, 3) := by decide +kernel
theorem dJ6_numberOfTrailingZeros_0f7a4_55 : decode cJ6_numberOfTrailingZeros_0f7a4 55 = .ok (.iinc 1 4, 3) := by decide +kernel
theorem dJ6_numberOfTrailingZeros_0f7a4_58 : decode cJ6_numberOfTrailingZeros_0f7a4 58 = .ok (.iload_n 0, 1) := by decide +kernel
theorem dJ6_numberOfTrailingZeros_0f7a4_59 : decode cJ6_numberOfTrailingZeros_0f7a4 59 = .ok (.iconst 4, 1) := by decide +kernel
theorem dJ6_numberOfTrailingZeros_0f7a4_60 : decode cJ6_numberOfTrailingZeros_0f7a4 60 = .ok (.iushr, 1) := by decide +kernel
theorem dJ6_numberOfTrailingZeros_0f7a4_61 : decode cJ6_numberOfTrailingZeros_0f7a4 61 = .ok (.istore_n 0, 1) := by decide +kernel
theorem dJ6_numberOfTrailingZeros_0f7a4_62 : decode cJ6_numberOfTrailingZeros_0f7a4 62 = .ok (.iload_n 0, 1) := by decide +kernel
theorem dJ6_numberOfTrailingZeros_0f7a4_63 : decode cJ6_numberOfTrailingZeros_0f7a4 63 = .ok (.iconst 4, 1) := by decide +kernel
theorem dJ6_numberOfTrailingZeros_0f7a4_64 : decode cJ6_numberOfTrailingZeros_0f7a4 64 = .ok (.if_icmp .le 10, 3) := by decide +kernel
theorem dJ6_numberOfTrailingZeros_0f7a4_67 : decode cJ6_numberOfTrailingZeros_0f7a4 67 = .ok (.iinc 1 2, 3) := by decide +kernel
theorem dJ6_numberOfTrailingZeros_0f7a4_70 : decode cJ6_numberOfTrailingZeros_0f7a4 70 = .ok (.iload_n 0, 1) := by decide +kernel
theorem dJ6_numberOfTrailingZeros_0f7a4_71 : decode cJ6_numberOfTrailingZeros_0f7a4 71 = .ok (.iconst 2, 1) := by decide +kernel
theorem dJ6_numberOfTrailingZeros_0f7a4_72 : decode cJ6_numberOfTrailingZeros_0f7a4 72 = .ok (.iushr, 1) := by decide +kernel
theorem dJ6_numberOfTrailingZeros_0f7a4_73 : decode cJ6_numberOfTrailingZeros_0f7a4 73 = .ok (.istore_n 0, 1) := by decide +kernel
theorem dJ6_numberOfTrailingZeros_0f7a4_74 : decode cJ6_numberOfTrailingZeros_0f7a4 74 = .ok (.iload_n 1, 1) := by decide +kernel
theorem dJ6_numberOfTrailingZeros_0f7a4_75 : decode cJ6_numberOfTrailingZeros_0f7a4 75 = .ok (.iload_n 0, 1) := by decide +kernel
theorem dJ6_numberOfTrailingZeros_0f7a4_76 : decode cJ6_numberOfTrailingZeros_0f7a4 76 = .ok (.iconst 1, 1) := by decide +kernel
theorem dJ6_numberOfTrailingZeros_0f7a4_77 : decode cJ6_numberOfTrailingZeros_0f7a4 77 = .ok (.iushr, 1) := by decide +kernel
theorem dJ6_numberOfTrailingZeros_0f7a4_78 : decode cJ6_numberOfTrailingZeros_0f7a4 78 = .ok (.iadd, 1) := by decide +kernel
theorem dJ6_numberOfTrailingZeros_0f7a4_79 : decode cJ6_numberOfTrailingZeros_0f7a4 79 = .ok (.ireturn, 1) := by decide +kernel
def fJ6_numberOfTrailingZeros_0f7a4_B74 (x0 : Int) (x1 : Int) (μ : vr_M) : Option (Int × vr_M) :=
  vr_gd (vr_R (x1 + (vr_ushr x0 1))) (some (x1 + (vr_ushr x0 1), μ))
def fJ6_numberOfTrailingZeros_0f7a4_B62 (x0 : Int) (x1 : Int) (μ : vr_M) : Option (Int × vr_M) :=
  if x0 ≤ 4 then fJ6_numberOfTrailingZeros_0f7a4_B74 x0 x1 μ else vr_gd (vr_R (x1 + 2)) (fJ6_numberOfTrailingZeros_0f7a4_B74 (vr_ushr x0 2) (x1 + 2) μ)
def fJ6_numberOfTrailingZeros_0f7a4_B49 (x0 : Int) (x1 : Int) (μ : vr_M) : Option (Int × vr_M) :=
  if x0 ≤ 16 then fJ6_numberOfTrailingZeros_0f7a4_B62 x0 x1 μ else vr_gd (vr_R (x1 + 4)) (fJ6_numberOfTrailingZeros_0f7a4_B62 (vr_ushr x0 4) (x1 + 4) μ)
def fJ6_numberOfTrailingZeros_0f7a4_B34 (x0 : Int) (x1 : Int) (μ : vr_M) : Option (Int × vr_M) :=
  if x0 ≤ 256 then fJ6_numberOfTrailingZeros_0f7a4_B49 x0 x1 μ else vr_gd (vr_R (x1 + 8)) (fJ6_numberOfTrailingZeros_0f7a4_B49 (vr_ushr x0 8) (x1 + 8) μ)
def fJ6_numberOfTrailingZeros_0f7a4 (a0 : Int) (μ : vr_M) : Option (Int × vr_M) :=
  if 0 < (vr_and (vr_xor a0 (-1)) (a0 - 1)) then if (vr_and (vr_xor a0 (-1)) (a0 - 1)) ≤ 65536 then fJ6_numberOfTrailingZeros_0f7a4_B34 (vr_and (vr_xor a0 (-1)) (a0 - 1)) 1 μ else vr_gd (vr_R (1 + 16)) (fJ6_numberOfTrailingZeros_0f7a4_B34 (vr_ushr (vr_and (vr_xor a0 (-1)) (a0 - 1)) 16) (1 + 16) μ) else some (vr_and (vr_and (vr_xor a0 (-1)) (a0 - 1)) 32, μ)
set_option maxRecDepth 100000 in
set_option maxHeartbeats 4000000 in
theorem ct_J6_numberOfTrailingZeros_0f7a4 (l : Launch) (G : vr_G) (a0 : Int) (h_a0 : vr_R a0) (μ : vr_M) : vr_CI l yJ6_numberOfTrailingZeros_0f7a4 cJ6_numberOfTrailingZeros_0f7a4 2 (some .int) ({ frames := 0, cells := 0, slots := 0, locals := 0 } : Room) G [.int (vr_I a0)] μ (fJ6_numberOfTrailingZeros_0f7a4 a0 μ) := by
  refine vr_start (own := RJ6) (by decide) rfl (Nat.le_of_ble_eq_true rfl) (fun p e s m args below meth c C0 => ?_)
  show vr_J p l e _ s m args below meth c 2 0 0 G (vr_Z (vr_QI G) G args s below) 0 [(0, .int (vr_I a0))] [] μ _
  have B74 : ∀ (x0 : Int) (h_x0 : vr_R x0) (x1 : Int) (h_x1 : vr_R x1) (μ : vr_M), vr_J p l e ({ frames := 0, cells := 0, slots := 0, locals := 0 } : Room) s m args below meth c 2 0 0 G (vr_Z (vr_QI G) G args s below) 74 [(0, .int (vr_I x0)), (1, .int (vr_I x1))] [] μ (fJ6_numberOfTrailingZeros_0f7a4_B74 x0 x1 μ) := by
    intro x0 h_x0 x1 h_x1 μ
    unfold fJ6_numberOfTrailingZeros_0f7a4_B74
    refine jr_iload_n C0 1 dJ6_numberOfTrailingZeros_0f7a4_74 rfl rfl ?_
    refine jr_iload_n C0 0 dJ6_numberOfTrailingZeros_0f7a4_75 rfl rfl ?_
    refine jr_iconst C0 dJ6_numberOfTrailingZeros_0f7a4_76 ?_
    refine jr_iushr C0 dJ6_numberOfTrailingZeros_0f7a4_77 ?_
    refine jr_iadd C0 dJ6_numberOfTrailingZeros_0f7a4_78 ?_
    refine jr_gd (fun g1 => ?_)
    exact jr_iret C0 g1 dJ6_numberOfTrailingZeros_0f7a4_79
  have B62 : ∀ (x0 : Int) (h_x0 : vr_R x0) (x1 : Int) (h_x1 : vr_R x1) (μ : vr_M), vr_J p l e ({ frames := 0, cells := 0, slots := 0, locals := 0 } : Room) s m args below meth c 2 0 0 G (vr_Z (vr_QI G) G args s below) 62 [(0, .int (vr_I x0)), (1, .int (vr_I x1))] [] μ (fJ6_numberOfTrailingZeros_0f7a4_B62 x0 x1 μ) := by
    intro x0 h_x0 x1 h_x1 μ
    unfold fJ6_numberOfTrailingZeros_0f7a4_B62
    refine jr_iload_n C0 0 dJ6_numberOfTrailingZeros_0f7a4_62 rfl rfl ?_
    refine jr_iconst C0 dJ6_numberOfTrailingZeros_0f7a4_63 ?_
    refine jr_icmp_le C0 h_x0 (⟨by decide, by decide⟩) dJ6_numberOfTrailingZeros_0f7a4_64 (tgt := 74) (by decide) ?_ ?_
    · exact B74 x0 h_x0 x1 h_x1 _
    refine jr_iinc C0 (q := 1) dJ6_numberOfTrailingZeros_0f7a4_67 rfl (by decide) (lv' := [(1, .int (vr_I (x1 + 2))), (0, .int (vr_I x0))]) rfl ?_
    refine jr_iload_n C0 1 dJ6_numberOfTrailingZeros_0f7a4_70 rfl rfl ?_
    refine jr_iconst C0 dJ6_numberOfTrailingZeros_0f7a4_71 ?_
    refine jr_iushr C0 dJ6_numberOfTrailingZeros_0f7a4_72 ?_
    refine jr_istore_n C0 dJ6_numberOfTrailingZeros_0f7a4_73 rfl (by decide) (lv' := [(0, .int (vr_I (vr_ushr x0 2))), (1, .int (vr_I (x1 + 2)))]) rfl ?_
    refine jr_gd (fun g2 => ?_)
    exact B74 (vr_ushr x0 2) (vr_RT _) (x1 + 2) g2 _
  have B49 : ∀ (x0 : Int) (h_x0 : vr_R x0) (x1 : Int) (h_x1 : vr_R x1) (μ : vr_M), vr_J p l e ({ frames := 0, cells := 0, slots := 0, locals := 0 } : Room) s m args below meth c 2 0 0 G (vr_Z (vr_QI G) G args s below) 49 [(0, .int (vr_I x0)), (1, .int (vr_I x1))] [] μ (fJ6_numberOfTrailingZeros_0f7a4_B49 x0 x1 μ) := by
    intro x0 h_x0 x1 h_x1 μ
    unfold fJ6_numberOfTrailingZeros_0f7a4_B49
    refine jr_iload_n C0 0 dJ6_numberOfTrailingZeros_0f7a4_49 rfl rfl ?_
    refine jr_bipush C0 dJ6_numberOfTrailingZeros_0f7a4_50 rfl ?_
    refine jr_icmp_le C0 h_x0 (⟨by decide, by decide⟩) dJ6_numberOfTrailingZeros_0f7a4_52 (tgt := 62) (by decide) ?_ ?_
    · exact B62 x0 h_x0 x1 h_x1 _
    refine jr_iinc C0 (q := 1) dJ6_numberOfTrailingZeros_0f7a4_55 rfl (by decide) (lv' := [(1, .int (vr_I (x1 + 4))), (0, .int (vr_I x0))]) rfl ?_
    refine jr_iload_n C0 1 dJ6_numberOfTrailingZeros_0f7a4_58 rfl rfl ?_
    refine jr_iconst C0 dJ6_numberOfTrailingZeros_0f7a4_59 ?_
    refine jr_iushr C0 dJ6_numberOfTrailingZeros_0f7a4_60 ?_
    refine jr_istore_n C0 dJ6_numberOfTrailingZeros_0f7a4_61 rfl (by decide) (lv' := [(0, .int (vr_I (vr_ushr x0 4))), (1, .int (vr_I (x1 + 4)))]) rfl ?_
    refine jr_gd (fun g3 => ?_)
    exact B62 (vr_ushr x0 4) (vr_RT _) (x1 + 4) g3 _
  have B34 : ∀ (x0 : Int) (h_x0 : vr_R x0) (x1 : Int) (h_x1 : vr_R x1) (μ : vr_M), vr_J p l e ({ frames := 0, cells := 0, slots := 0, locals := 0 } : Room) s m args below meth c 2 0 0 G (vr_Z (vr_QI G) G args s below) 34 [(0, .int (vr_I x0)), (1, .int (vr_I x1))] [] μ (fJ6_numberOfTrailingZeros_0f7a4_B34 x0 x1 μ) := by
    intro x0 h_x0 x1 h_x1 μ
    unfold fJ6_numberOfTrailingZeros_0f7a4_B34
    refine jr_iload_n C0 0 dJ6_numberOfTrailingZeros_0f7a4_34 rfl rfl ?_
    refine jr_sipush C0 dJ6_numberOfTrailingZeros_0f7a4_35 rfl ?_
    refine jr_icmp_le C0 h_x0 (⟨by decide, by decide⟩) dJ6_numberOfTrailingZeros_0f7a4_38 (tgt := 49) (by decide) ?_ ?_
    · exact B49 x0 h_x0 x1 h_x1 _
    refine jr_iinc C0 (q := 1) dJ6_numberOfTrailingZeros_0f7a4_41 rfl (by decide) (lv' := [(1, .int (vr_I (x1 + 8))), (0, .int (vr_I x0))]) rfl ?_
    refine jr_iload_n C0 1 dJ6_numberOfTrailingZeros_0f7a4_44 rfl rfl ?_
    refine jr_bipush C0 dJ6_numberOfTrailingZeros_0f7a4_45 rfl ?_
    refine jr_iushr C0 dJ6_numberOfTrailingZeros_0f7a4_47 ?_
    refine jr_istore_n C0 dJ6_numberOfTrailingZeros_0f7a4_48 rfl (by decide) (lv' := [(0, .int (vr_I (vr_ushr x0 8))), (1, .int (vr_I (x1 + 8)))]) rfl ?_
    refine jr_gd (fun g4 => ?_)
    exact B49 (vr_ushr x0 8) (vr_RT _) (x1 + 8) g4 _
  unfold fJ6_numberOfTrailingZeros_0f7a4
  refine jr_iload_n C0 0 dJ6_numberOfTrailingZeros_0f7a4_0 rfl rfl ?_
  refine jr_iconst C0 dJ6_numberOfTrailingZeros_0f7a4_1 ?_
  refine jr_ixor C0 dJ6_numberOfTrailingZeros_0f7a4_2 ?_
  refine jr_iload_n C0 0 dJ6_numberOfTrailingZeros_0f7a4_3 rfl rfl ?_
  refine jr_iconst C0 dJ6_numberOfTrailingZeros_0f7a4_4 ?_
  refine jr_isub C0 dJ6_numberOfTrailingZeros_0f7a4_5 ?_
  refine jr_iand C0 dJ6_numberOfTrailingZeros_0f7a4_6 ?_
  refine jr_istore_n C0 dJ6_numberOfTrailingZeros_0f7a4_7 rfl (by decide) (lv' := [(0, .int (vr_I (vr_and (vr_xor a0 (-1)) (a0 - 1))))]) rfl ?_
  refine jr_iload_n C0 0 dJ6_numberOfTrailingZeros_0f7a4_8 rfl rfl ?_
  refine jr_if_gt C0 (vr_RT _) dJ6_numberOfTrailingZeros_0f7a4_9 (tgt := 17) (by decide) ?_ ?_
  · refine jr_iconst C0 dJ6_numberOfTrailingZeros_0f7a4_17 ?_
    refine jr_istore_n C0 dJ6_numberOfTrailingZeros_0f7a4_18 rfl (by decide) (lv' := [(1, .int (vr_I 1)), (0, .int (vr_I (vr_and (vr_xor a0 (-1)) (a0 - 1))))]) rfl ?_
    refine jr_iload_n C0 1 dJ6_numberOfTrailingZeros_0f7a4_19 rfl rfl ?_
    refine jr_ldcw C0 (n := 65536) wk_J6_264 rfl dJ6_numberOfTrailingZeros_0f7a4_20 ?_
    refine jr_icmp_le C0 (vr_RT _) (⟨by decide, by decide⟩) dJ6_numberOfTrailingZeros_0f7a4_23 (tgt := 34) (by decide) ?_ ?_
    · refine jr_sub [1, 0] rfl ?_
      exact B34 (vr_and (vr_xor a0 (-1)) (a0 - 1)) (vr_RT _) 1 (⟨by decide, by decide⟩) _
    refine jr_iinc C0 (q := 0) dJ6_numberOfTrailingZeros_0f7a4_26 rfl (by decide) (lv' := [(1, .int (vr_I (1 + 16))), (0, .int (vr_I (vr_and (vr_xor a0 (-1)) (a0 - 1))))]) rfl ?_
    refine jr_iload_n C0 1 dJ6_numberOfTrailingZeros_0f7a4_29 rfl rfl ?_
    refine jr_bipush C0 dJ6_numberOfTrailingZeros_0f7a4_30 rfl ?_
    refine jr_iushr C0 dJ6_numberOfTrailingZeros_0f7a4_32 ?_
    refine jr_istore_n C0 dJ6_numberOfTrailingZeros_0f7a4_33 rfl (by decide) (lv' := [(0, .int (vr_I (vr_ushr (vr_and (vr_xor a0 (-1)) (a0 - 1)) 16))), (1, .int (vr_I (1 + 16)))]) rfl ?_
    refine jr_gd (fun g5 => ?_)
    exact B34 (vr_ushr (vr_and (vr_xor a0 (-1)) (a0 - 1)) 16) (vr_RT _) (1 + 16) g5 _
  refine jr_iload_n C0 0 dJ6_numberOfTrailingZeros_0f7a4_12 rfl rfl ?_
  refine jr_bipush C0 dJ6_numberOfTrailingZeros_0f7a4_13 rfl ?_
  refine jr_iand C0 dJ6_numberOfTrailingZeros_0f7a4_15 ?_
  exact jr_iret C0 (vr_RT _) dJ6_numberOfTrailingZeros_0f7a4_16
theorem dJ6_bitCount_0f7a4_0 : decode cJ6_bitCount_0f7a4 0 = .ok (.iload_n 0, 1) := by decide +kernel
theorem dJ6_bitCount_0f7a4_1 : decode cJ6_bitCount_0f7a4 1 = .ok (.iload_n 0, 1) := by decide +kernel
theorem dJ6_bitCount_0f7a4_2 : decode cJ6_bitCount_0f7a4 2 = .ok (.iconst 1, 1) := by decide +kernel
theorem dJ6_bitCount_0f7a4_3 : decode cJ6_bitCount_0f7a4 3 = .ok (.iushr, 1) := by decide +kernel
theorem dJ6_bitCount_0f7a4_4 : decode cJ6_bitCount_0f7a4 4 = .ok (.ldc_w 265, 3) := by decide +kernel
theorem dJ6_bitCount_0f7a4_7 : decode cJ6_bitCount_0f7a4 7 = .ok (.iand, 1) := by decide +kernel
theorem dJ6_bitCount_0f7a4_8 : decode cJ6_bitCount_0f7a4 8 = .ok (.isub, 1) := by decide +kernel
theorem dJ6_bitCount_0f7a4_9 : decode cJ6_bitCount_0f7a4 9 = .ok (.istore_n 0, 1) := by decide +kernel
theorem dJ6_bitCount_0f7a4_10 : decode cJ6_bitCount_0f7a4 10 = .ok (.iload_n 0, 1) := by decide +kernel
theorem dJ6_bitCount_0f7a4_11 : decode cJ6_bitCount_0f7a4 11 = .ok (.ldc_w 266, 3) := by decide +kernel
theorem dJ6_bitCount_0f7a4_14 : decode cJ6_bitCount_0f7a4 14 = .ok (.iand, 1) := by decide +kernel
theorem dJ6_bitCount_0f7a4_15 : decode cJ6_bitCount_0f7a4 15 = .ok (.iload_n 0, 1) := by decide +kernel
theorem dJ6_bitCount_0f7a4_16 : decode cJ6_bitCount_0f7a4 16 = .ok (.iconst 2, 1) := by decide +kernel
theorem dJ6_bitCount_0f7a4_17 : decode cJ6_bitCount_0f7a4 17 = .ok (.iushr, 1) := by decide +kernel
theorem dJ6_bitCount_0f7a4_18 : decode cJ6_bitCount_0f7a4 18 = .ok (.ldc_w 266, 3) := by decide +kernel
theorem dJ6_bitCount_0f7a4_21 : decode cJ6_bitCount_0f7a4 21 = .ok (.iand, 1) := by decide +kernel
theorem dJ6_bitCount_0f7a4_22 : decode cJ6_bitCount_0f7a4 22 = .ok (.iadd, 1) := by decide +kernel
theorem dJ6_bitCount_0f7a4_23 : decode cJ6_bitCount_0f7a4 23 = .ok (.istore_n 0, 1) := by decide +kernel
theorem dJ6_bitCount_0f7a4_24 : decode cJ6_bitCount_0f7a4 24 = .ok (.iload_n 0, 1) := by decide +kernel
theorem dJ6_bitCount_0f7a4_25 : decode cJ6_bitCount_0f7a4 25 = .ok (.iload_n 0, 1) := by decide +kernel
theorem dJ6_bitCount_0f7a4_26 : decode cJ6_bitCount_0f7a4 26 = .ok (.iconst 4, 1) := by decide +kernel
theorem dJ6_bitCount_0f7a4_27 : decode cJ6_bitCount_0f7a4 27 = .ok (.iushr, 1) := by decide +kernel
theorem dJ6_bitCount_0f7a4_28 : decode cJ6_bitCount_0f7a4 28 = .ok (.iadd, 1) := by decide +kernel
theorem dJ6_bitCount_0f7a4_29 : decode cJ6_bitCount_0f7a4 29 = .ok (.ldc_w 267, 3) := by decide +kernel
theorem dJ6_bitCount_0f7a4_32 : decode cJ6_bitCount_0f7a4 32 = .ok (.iand, 1) := by decide +kernel
theorem dJ6_bitCount_0f7a4_33 : decode cJ6_bitCount_0f7a4 33 = .ok (.istore_n 0, 1) := by decide +kernel
theorem dJ6_bitCount_0f7a4_34 : decode cJ6_bitCount_0f7a4 34 = .ok (.iload_n 0, 1) := by decide +kernel
theorem dJ6_bitCount_0f7a4_35 : decode cJ6_bitCount_0f7a4 35 = .ok (.iload_n 0, 1) := by decide +kernel
theorem dJ6_bitCount_0f7a4_36 : decode cJ6_bitCount_0f7a4 36 = .ok (.bipush 8, 2) := by decide +kernel
theorem dJ6_bitCount_0f7a4_38 : decode cJ6_bitCount_0f7a4 38 = .ok (.iushr, 1) := by decide +kernel
theorem dJ6_bitCount_0f7a4_39 : decode cJ6_bitCount_0f7a4 39 = .ok (.iadd, 1) := by decide +kernel
theorem dJ6_bitCount_0f7a4_40 : decode cJ6_bitCount_0f7a4 40 = .ok (.istore_n 0, 1) := by decide +kernel
theorem dJ6_bitCount_0f7a4_41 : decode cJ6_bitCount_0f7a4 41 = .ok (.iload_n 0, 1) := by decide +kernel
theorem dJ6_bitCount_0f7a4_42 : decode cJ6_bitCount_0f7a4 42 = .ok (.iload_n 0, 1) := by decide +kernel
theorem dJ6_bitCount_0f7a4_43 : decode cJ6_bitCount_0f7a4 43 = .ok (.bipush 16, 2) := by decide +kernel
theorem dJ6_bitCount_0f7a4_45 : decode cJ6_bitCount_0f7a4 45 = .ok (.iushr, 1) := by decide +kernel
theorem dJ6_bitCount_0f7a4_46 : decode cJ6_bitCount_0f7a4 46 = .ok (.iadd, 1) := by decide +kernel
theorem dJ6_bitCount_0f7a4_47 : decode cJ6_bitCount_0f7a4 47 = .ok (.istore_n 0, 1) := by decide +kernel
theorem dJ6_bitCount_0f7a4_48 : decode cJ6_bitCount_0f7a4 48 = .ok (.iload_n 0, 1) := by decide +kernel
theorem dJ6_bitCount_0f7a4_49 : decode cJ6_bitCount_0f7a4 49 = .ok (.bipush 63, 2) := by decide +kernel
theorem dJ6_bitCount_0f7a4_51 : decode cJ6_bitCount_0f7a4 51 = .ok (.iand, 1) := by decide +kernel
theorem dJ6_bitCount_0f7a4_52 : decode cJ6_bitCount_0f7a4 52 = .ok (.ireturn, 1) := by decide +kernel
def fJ6_bitCount_0f7a4 (a0 : Int) (μ : vr_M) : Option (Int × vr_M) :=
  some (vr_and (((vr_and (((vr_and (a0 - (vr_and (vr_ushr a0 1) 1431655765)) 858993459) + (vr_and (vr_ushr (a0 - (vr_and (vr_ushr a0 1) 1431655765)) 2) 858993459)) + (vr_ushr ((vr_and (a0 - (vr_and (vr_ushr a0 1) 1431655765)) 858993459) + (vr_and (vr_ushr (a0 - (vr_and (vr_ushr a0 1) 1431655765)) 2) 858993459)) 4)) 252645135) + (vr_ushr (vr_and (((vr_and (a0 - (vr_and (vr_ushr a0 1) 1431655765)) 858993459) + (vr_and (vr_ushr (a0 - (vr_and (vr_ushr a0 1) 1431655765)) 2) 858993459)) + (vr_ushr ((vr_and (a0 - (vr_and (vr_ushr a0 1) 1431655765)) 858993459) + (vr_and (vr_ushr (a0 - (vr_and (vr_ushr a0 1) 1431655765)) 2) 858993459)) 4)) 252645135) 8)) + (vr_ushr ((vr_and (((vr_and (a0 - (vr_and (vr_ushr a0 1) 1431655765)) 858993459) + (vr_and (vr_ushr (a0 - (vr_and (vr_ushr a0 1) 1431655765)) 2) 858993459)) + (vr_ushr ((vr_and (a0 - (vr_and (vr_ushr a0 1) 1431655765)) 858993459) + (vr_and (vr_ushr (a0 - (vr_and (vr_ushr a0 1) 1431655765)) 2) 858993459)) 4)) 252645135) + (vr_ushr (vr_and (((vr_and (a0 - (vr_and (vr_ushr a0 1) 1431655765)) 858993459) + (vr_and (vr_ushr (a0 - (vr_and (vr_ushr a0 1) 1431655765)) 2) 858993459)) + (vr_ushr ((vr_and (a0 - (vr_and (vr_ushr a0 1) 1431655765)) 858993459) + (vr_and (vr_ushr (a0 - (vr_and (vr_ushr a0 1) 1431655765)) 2) 858993459)) 4)) 252645135) 8)) 16)) 63, μ)
set_option maxRecDepth 100000 in
set_option maxHeartbeats 4000000 in
theorem ct_J6_bitCount_0f7a4 (l : Launch) (G : vr_G) (a0 : Int) (h_a0 : vr_R a0) (μ : vr_M) : vr_CI l yJ6_bitCount_0f7a4 cJ6_bitCount_0f7a4 1 (some .int) ({ frames := 0, cells := 0, slots := 0, locals := 0 } : Room) G [.int (vr_I a0)] μ (fJ6_bitCount_0f7a4 a0 μ) := by
  refine vr_start (own := RJ6) (by decide) rfl (Nat.le_of_ble_eq_true rfl) (fun p e s m args below meth c C0 => ?_)
  show vr_J p l e _ s m args below meth c 1 0 0 G (vr_Z (vr_QI G) G args s below) 0 [(0, .int (vr_I a0))] [] μ _
  unfold fJ6_bitCount_0f7a4
  refine jr_iload_n C0 0 dJ6_bitCount_0f7a4_0 rfl rfl ?_
  refine jr_iload_n C0 0 dJ6_bitCount_0f7a4_1 rfl rfl ?_
  refine jr_iconst C0 dJ6_bitCount_0f7a4_2 ?_
  refine jr_iushr C0 dJ6_bitCount_0f7a4_3 ?_
  refine jr_ldcw C0 (n := 1431655765) wk_J6_265 rfl dJ6_bitCount_0f7a4_4 ?_
  refine jr_iand C0 dJ6_bitCount_0f7a4_7 ?_
  refine jr_isub C0 dJ6_bitCount_0f7a4_8 ?_
  refine jr_istore_n C0 dJ6_bitCount_0f7a4_9 rfl (by decide) (lv' := [(0, .int (vr_I (a0 - (vr_and (vr_ushr a0 1) 1431655765))))]) rfl ?_
  refine jr_iload_n C0 0 dJ6_bitCount_0f7a4_10 rfl rfl ?_
  refine jr_ldcw C0 (n := 858993459) wk_J6_266 rfl dJ6_bitCount_0f7a4_11 ?_
  refine jr_iand C0 dJ6_bitCount_0f7a4_14 ?_
  refine jr_iload_n C0 0 dJ6_bitCount_0f7a4_15 rfl rfl ?_
  refine jr_iconst C0 dJ6_bitCount_0f7a4_16 ?_
  refine jr_iushr C0 dJ6_bitCount_0f7a4_17 ?_
  refine jr_ldcw C0 (n := 858993459) wk_J6_266 rfl dJ6_bitCount_0f7a4_18 ?_
  refine jr_iand C0 dJ6_bitCount_0f7a4_21 ?_
  refine jr_iadd C0 dJ6_bitCount_0f7a4_22 ?_
  refine jr_istore_n C0 dJ6_bitCount_0f7a4_23 rfl (by decide) (lv' := [(0, .int (vr_I ((vr_and (a0 - (vr_and (vr_ushr a0 1) 1431655765)) 858993459) + (vr_and (vr_ushr (a0 - (vr_and (vr_ushr a0 1) 1431655765)) 2) 858993459))))]) rfl ?_
  refine jr_iload_n C0 0 dJ6_bitCount_0f7a4_24 rfl rfl ?_
  refine jr_iload_n C0 0 dJ6_bitCount_0f7a4_25 rfl rfl ?_
  refine jr_iconst C0 dJ6_bitCount_0f7a4_26 ?_
  refine jr_iushr C0 dJ6_bitCount_0f7a4_27 ?_
  refine jr_iadd C0 dJ6_bitCount_0f7a4_28 ?_
  refine jr_ldcw C0 (n := 252645135) wk_J6_267 rfl dJ6_bitCount_0f7a4_29 ?_
  refine jr_iand C0 dJ6_bitCount_0f7a4_32 ?_
  refine jr_istore_n C0 dJ6_bitCount_0f7a4_33 rfl (by decide) (lv' := [(0, .int (vr_I (vr_and (((vr_and (a0 - (vr_and (vr_ushr a0 1) 1431655765)) 858993459) + (vr_and (vr_ushr (a0 - (vr_and (vr_ushr a0 1) 1431655765)) 2) 858993459)) + (vr_ushr ((vr_and (a0 - (vr_and (vr_ushr a0 1) 1431655765)) 858993459) + (vr_and (vr_ushr (a0 - (vr_and (vr_ushr a0 1) 1431655765)) 2) 858993459)) 4)) 252645135)))]) rfl ?_
  refine jr_iload_n C0 0 dJ6_bitCount_0f7a4_34 rfl rfl ?_
  refine jr_iload_n C0 0 dJ6_bitCount_0f7a4_35 rfl rfl ?_
  refine jr_bipush C0 dJ6_bitCount_0f7a4_36 rfl ?_
  refine jr_iushr C0 dJ6_bitCount_0f7a4_38 ?_
  refine jr_iadd C0 dJ6_bitCount_0f7a4_39 ?_
  refine jr_istore_n C0 dJ6_bitCount_0f7a4_40 rfl (by decide) (lv' := [(0, .int (vr_I ((vr_and (((vr_and (a0 - (vr_and (vr_ushr a0 1) 1431655765)) 858993459) + (vr_and (vr_ushr (a0 - (vr_and (vr_ushr a0 1) 1431655765)) 2) 858993459)) + (vr_ushr ((vr_and (a0 - (vr_and (vr_ushr a0 1) 1431655765)) 858993459) + (vr_and (vr_ushr (a0 - (vr_and (vr_ushr a0 1) 1431655765)) 2) 858993459)) 4)) 252645135) + (vr_ushr (vr_and (((vr_and (a0 - (vr_and (vr_ushr a0 1) 1431655765)) 858993459) + (vr_and (vr_ushr (a0 - (vr_and (vr_ushr a0 1) 1431655765)) 2) 858993459)) + (vr_ushr ((vr_and (a0 - (vr_and (vr_ushr a0 1) 1431655765)) 858993459) + (vr_and (vr_ushr (a0 - (vr_and (vr_ushr a0 1) 1431655765)) 2) 858993459)) 4)) 252645135) 8))))]) rfl ?_
  refine jr_iload_n C0 0 dJ6_bitCount_0f7a4_41 rfl rfl ?_
  refine jr_iload_n C0 0 dJ6_bitCount_0f7a4_42 rfl rfl ?_
  refine jr_bipush C0 dJ6_bitCount_0f7a4_43 rfl ?_
  refine jr_iushr C0 dJ6_bitCount_0f7a4_45 ?_
  refine jr_iadd C0 dJ6_bitCount_0f7a4_46 ?_
  refine jr_istore_n C0 dJ6_bitCount_0f7a4_47 rfl (by decide) (lv' := [(0, .int (vr_I (((vr_and (((vr_and (a0 - (vr_and (vr_ushr a0 1) 1431655765)) 858993459) + (vr_and (vr_ushr (a0 - (vr_and (vr_ushr a0 1) 1431655765)) 2) 858993459)) + (vr_ushr ((vr_and (a0 - (vr_and (vr_ushr a0 1) 1431655765)) 858993459) + (vr_and (vr_ushr (a0 - (vr_and (vr_ushr a0 1) 1431655765)) 2) 858993459)) 4)) 252645135) + (vr_ushr (vr_and (((vr_and (a0 - (vr_and (vr_ushr a0 1) 1431655765)) 858993459) + (vr_and (vr_ushr (a0 - (vr_and (vr_ushr a0 1) 1431655765)) 2) 858993459)) + (vr_ushr ((vr_and (a0 - (vr_and (vr_ushr a0 1) 1431655765)) 858993459) + (vr_and (vr_ushr (a0 - (vr_and (vr_ushr a0 1) 1431655765)) 2) 858993459)) 4)) 252645135) 8)) + (vr_ushr ((vr_and (((vr_and (a0 - (vr_and (vr_ushr a0 1) 1431655765)) 858993459) + (vr_and (vr_ushr (a0 - (vr_and (vr_ushr a0 1) 1431655765)) 2) 858993459)) + (vr_ushr ((vr_and (a0 - (vr_and (vr_ushr a0 1) 1431655765)) 858993459) + (vr_and (vr_ushr (a0 - (vr_and (vr_ushr a0 1) 1431655765)) 2) 858993459)) 4)) 252645135) + (vr_ushr (vr_and (((vr_and (a0 - (vr_and (vr_ushr a0 1) 1431655765)) 858993459) + (vr_and (vr_ushr (a0 - (vr_and (vr_ushr a0 1) 1431655765)) 2) 858993459)) + (vr_ushr ((vr_and (a0 - (vr_and (vr_ushr a0 1) 1431655765)) 858993459) + (vr_and (vr_ushr (a0 - (vr_and (vr_ushr a0 1) 1431655765)) 2) 858993459)) 4)) 252645135) 8)) 16))))]) rfl ?_
  refine jr_iload_n C0 0 dJ6_bitCount_0f7a4_48 rfl rfl ?_
  refine jr_bipush C0 dJ6_bitCount_0f7a4_49 rfl ?_
  refine jr_iand C0 dJ6_bitCount_0f7a4_51 ?_
  exact jr_iret C0 (vr_RT _) dJ6_bitCount_0f7a4_52
theorem dX0_isBetter_0 : decode cX0_isBetter 0 = .ok (.iload_n 2, 1) := by decide +kernel
theorem dX0_isBetter_1 : decode cX0_isBetter 1 = .ok (.invokestatic 118, 3) := by decide +kernel
theorem dX0_isBetter_4 : decode cX0_isBetter 4 = .ok (.iload_n 1, 1) := by decide +kernel
theorem dX0_isBetter_5 : decode cX0_isBetter 5 = .ok (.invokestatic 118, 3) := by decide +kernel
theorem dX0_isBetter_8 : decode cX0_isBetter 8 = .ok (.isub, 1) := by decide +kernel
theorem dX0_isBetter_9 : decode cX0_isBetter 9 = .ok (.istore_n 3, 1) := by decide +kernel
theorem dX0_isBetter_10 : decode cX0_isBetter 10 = .ok (.iload_n 3, 1) := by decide +kernel
theorem dX0_isBetter_11 : decode cX0_isBetter 11 = .ok (.ifCond .gt 22, 3) := by decide +kernel
theorem dX0_isBetter_14 : decode cX0_isBetter 14 = .ok (.iload_n 3, 1) := by decide +kernel
theorem dX0_isBetter_15 : decode cX0_isBetter 15 = .ok (.ifCond .ne 22, 3) := by decide +kernel
theorem dX0_isBetter_18 : decode cX0_isBetter 18 = .ok (.aload_n 0, 1) := by decide +kernel
theorem dX0_isBetter_19 : decode cX0_isBetter 19 = .ok (.getfield 25, 3) := by decide +kernel
theorem dX0_isBetter_22 : decode cX0_isBetter 22 = .ok (.iload_n 1, 1) := by decide +kernel
theorem dX0_isBetter_23 : decode cX0_isBetter 23 = .ok (.iaload, 1) := by decide +kernel
theorem dX0_isBetter_24 : decode cX0_isBetter 24 = .ok (.aload_n 0, 1) := by decide +kernel
theorem dX0_isBetter_25 : decode cX0_isBetter 25 = .ok (.getfield 25, 3) := by decide +kernel
theorem dX0_isBetter_28 : decode cX0_isBetter 28 = .ok (.iload_n 2, 1) := by decide +kernel
theorem dX0_isBetter_29 : decode cX0_isBetter 29 = .ok (.iaload, 1) := by decide +kernel
theorem dX0_isBetter_30 : decode cX0_isBetter 30 = .ok (.if_icmp .ge 7, 3) := by decide +kernel
theorem dX0_isBetter_33 : decode cX0_isBetter 33 = .ok (.iconst 1, 1) := by decide +kernel
theorem dX0_isBetter_34 : decode cX0_isBetter 34 = .ok (.goto 4, 3) := by decide +kernel
theorem dX0_isBetter_37 : decode cX0_isBetter 37 = .ok (.iconst 0, 1) := by decide +kernel
theorem dX0_isBetter_38 : decode cX0_isBetter 38 = .ok (.ireturn, 1) := by decide +kernel
def fX0_isBetter_B38 (y0 : Int) (μ : vr_M) : Option (Int × vr_M) :=
  vr_gd (y0 = 0 ∨ y0 = 1) (some (y0, μ))
def fX0_isBetter_B33 (μ : vr_M) : Option (Int × vr_M) :=
  fX0_isBetter_B38 1 μ
def fX0_isBetter_B37 (μ : vr_M) : Option (Int × vr_M) :=
  fX0_isBetter_B38 0 μ
def fX0_isBetter (a0 : Int) (a1 : Int) (μ : vr_M) : Option (Int × vr_M) :=
  (fJ6_bitCount_0f7a4 a1 μ).bind (fun r2 => (fJ6_bitCount_0f7a4 a0 r2.2).bind (fun r3 => vr_gd (vr_R (r2.1 - r3.1)) (if 0 < (r2.1 - r3.1) then fX0_isBetter_B33 r3.2 else if ¬ (r2.1 - r3.1) = 0 then fX0_isBetter_B37 r3.2 else vr_gd (0 ≤ a0 ∧ a0 < 256) (vr_gd (0 ≤ a1 ∧ a1 < 256) (vr_gd (vr_R (r3.2 62 a0.toNat)) (vr_gd (vr_R (r3.2 62 a1.toNat)) (if (r3.2 62 a1.toNat) ≤ (r3.2 62 a0.toNat) then fX0_isBetter_B37 r3.2 else fX0_isBetter_B33 r3.2)))))))
set_option maxRecDepth 100000 in
set_option maxHeartbeats 4000000 in
theorem ct_X0_isBetter (l : Launch) (G : vr_G) (a0 : Int) (h_a0 : vr_R a0) (a1 : Int) (h_a1 : vr_R a1) (μ : vr_M) : vr_CI l yX0_isBetter cX0_isBetter 4 (some .boolean) ({ frames := 1, cells := 0, slots := 0, locals := 20 } : Room) G [.ref (vr_ad G 58), .int (vr_I a0), .int (vr_I a1)] μ (fX0_isBetter a0 a1 μ) := by
  refine vr_start (own := RX0) (by decide) rfl (Nat.le_of_ble_eq_true rfl) (fun p e s m args below meth c C0 => ?_)
  show vr_J p l e _ s m args below meth c 4 0 0 G (vr_Z (vr_QI G) G args s below) 0 [(0, .ref (vr_ad G 58)), (1, .int (vr_I a0)), (2, .int (vr_I a1))] [] μ _
  have B38 : ∀ (y0 : Int) (h_y0 : vr_R y0) (μ : vr_M), vr_J p l e ({ frames := 1, cells := 0, slots := 0, locals := 20 } : Room) s m args below meth c 4 0 0 G (vr_Z (vr_QI G) G args s below) 38 [] [.int (vr_I y0)] μ (fX0_isBetter_B38 y0 μ) := by
    intro y0 h_y0 μ
    unfold fX0_isBetter_B38
    refine jr_gd (fun g1 => ?_)
    exact jr_zret C0 h_y0 (vr_nz g1) dX0_isBetter_38
  have B33 : ∀ (μ : vr_M), vr_J p l e ({ frames := 1, cells := 0, slots := 0, locals := 20 } : Room) s m args below meth c 4 0 0 G (vr_Z (vr_QI G) G args s below) 33 [] [] μ (fX0_isBetter_B33 μ) := by
    intro μ
    unfold fX0_isBetter_B33
    refine jr_iconst C0 dX0_isBetter_33 ?_
    refine jr_goto C0 dX0_isBetter_34 (tgt := 38) (by decide) ?_
    exact B38 1 (⟨by decide, by decide⟩) _
  have B37 : ∀ (μ : vr_M), vr_J p l e ({ frames := 1, cells := 0, slots := 0, locals := 20 } : Room) s m args below meth c 4 0 0 G (vr_Z (vr_QI G) G args s below) 37 [] [] μ (fX0_isBetter_B37 μ) := by
    intro μ
    unfold fX0_isBetter_B37
    refine jr_iconst C0 dX0_isBetter_37 ?_
    exact B38 0 (⟨by decide, by decide⟩) _
  unfold fX0_isBetter
  refine jr_iload_n C0 2 dX0_isBetter_0 rfl rfl ?_
  refine jr_sI C0 (ct_J6_bitCount_0f7a4 l G a1 h_a1 _) mi_J6_bitCount_0f7a4 wm_X0_118 ⟨Nat.le_of_ble_eq_true rfl, Nat.le_of_ble_eq_true rfl⟩ ⟨rfl, rfl⟩ (As := [.int (vr_I a1)]) rfl (st := []) rfl (Nat.le_of_ble_eq_true rfl) dX0_isBetter_1 (fun r2 hr2 => ?_)
  refine jr_iload_n C0 1 dX0_isBetter_4 rfl rfl ?_
  refine jr_sI C0 (ct_J6_bitCount_0f7a4 l G a0 h_a0 _) mi_J6_bitCount_0f7a4 wm_X0_118 ⟨Nat.le_of_ble_eq_true rfl, Nat.le_of_ble_eq_true rfl⟩ ⟨rfl, rfl⟩ (As := [.int (vr_I a0)]) rfl (st := [.int (vr_I r2.1)]) rfl (Nat.le_of_ble_eq_true rfl) dX0_isBetter_5 (fun r3 hr3 => ?_)
  refine jr_isub C0 dX0_isBetter_8 ?_
  refine jr_istore_n C0 dX0_isBetter_9 rfl (by decide) (lv' := [(3, .int (vr_I (r2.1 - r3.1))), (0, .ref (vr_ad G 58)), (1, .int (vr_I a0)), (2, .int (vr_I a1))]) rfl ?_
  refine jr_iload_n C0 0 dX0_isBetter_10 rfl rfl ?_
  refine jr_gd (fun g4 => ?_)
  refine jr_if_gt C0 g4 dX0_isBetter_11 (tgt := 33) (by decide) ?_ ?_
  · refine jr_sub [] rfl ?_
    exact B33 _
  refine jr_iload_n C0 0 dX0_isBetter_14 rfl rfl ?_
  refine jr_if_ne C0 g4 dX0_isBetter_15 (tgt := 37) (by decide) ?_ ?_
  · refine jr_sub [] rfl ?_
    exact B37 _
  refine jr_aload_n C0 1 dX0_isBetter_18 rfl rfl ?_
  refine jr_getr C0 (by decide) kd_58 (by decide) rfl wx_X0 (i := 7) (by decide) wf_X0_25 (j := 62) rfl dX0_isBetter_19 ?_
  refine jr_iload_n C0 2 dX0_isBetter_22 rfl rfl ?_
  refine jr_gd (fun g5 => ?_)
  refine jr_iald C0 (by decide) kd_62 kl_62 g5 (j := a0.toNat) rfl dX0_isBetter_23 ?_
  refine jr_aload_n C0 1 dX0_isBetter_24 rfl rfl ?_
  refine jr_getr C0 (by decide) kd_58 (by decide) rfl wx_X0 (i := 7) (by decide) wf_X0_25 (j := 62) rfl dX0_isBetter_25 ?_
  refine jr_iload_n C0 3 dX0_isBetter_28 rfl rfl ?_
  refine jr_gd (fun g6 => ?_)
  refine jr_iald C0 (by decide) kd_62 kl_62 g6 (j := a1.toNat) rfl dX0_isBetter_29 ?_
  refine jr_gd (fun g7 => ?_)
  refine jr_gd (fun g8 => ?_)
  refine jr_icmp_ge C0 g7 g8 dX0_isBetter_30 (tgt := 37) (by decide) ?_ ?_
  · refine jr_sub [] rfl ?_
    exact B37 _
  refine jr_sub [] rfl ?_
  exact B33 _
theorem dX0_picksFewest_0 : decode cX0_picksFewest 0 = .ok (.iconst 0, 1) := by decide +kernel
theorem dX0_picksFewest_1 : decode cX0_picksFewest 1 = .ok (.istore_n 1, 1) := by decide +kernel
theorem dX0_picksFewest_2 : decode cX0_picksFewest 2 = .ok (.iconst 1, 1) := by decide +kernel
theorem dX0_picksFewest_3 : decode cX0_picksFewest 3 = .ok (.istore_n 2, 1) := by decide +kernel
theorem dX0_picksFewest_4 : decode cX0_picksFewest 4 = .ok (.iload_n 2, 1) := by decide +kernel
theorem dX0_picksFewest_5 : decode cX0_picksFewest 5 = .ok (.aload_n 0, 1) := by decide +kernel
theorem dX0_picksFewest_6 : decode cX0_picksFewest 6 = .ok (.getfield 28, 3) := by decide +kernel
theorem dX0_picksFewest_9 : decode cX0_picksFewest 9 = .ok (.invokevirtual 106, 3) := by decide +kernel
theorem dX0_picksFewest_12 : decode cX0_picksFewest 12 = .ok (.if_icmp .gt 80, 3) := by decide +kernel
theorem dX0_picksFewest_15 : decode cX0_picksFewest 15 = .ok (.iload_n 2, 1) := by decide +kernel
theorem dX0_picksFewest_16 : decode cX0_picksFewest 16 = .ok (.aload_n 0, 1) := by decide +kernel
theorem dX0_picksFewest_17 : decode cX0_picksFewest 17 = .ok (.getfield 25, 3) := by decide +kernel
theorem dX0_picksFewest_20 : decode cX0_picksFewest 20 = .ok (.arraylength, 1) := by decide +kernel
theorem dX0_picksFewest_21 : decode cX0_picksFewest 21 = .ok (.if_icmp .ge 71, 3) := by decide +kernel
theorem dX0_picksFewest_24 : decode cX0_picksFewest 24 = .ok (.iload_n 2, 1) := by decide +kernel
theorem dX0_picksFewest_25 : decode cX0_picksFewest 25 = .ok (.invokestatic 109, 3) := by decide +kernel
theorem dX0_picksFewest_28 : decode cX0_picksFewest 28 = .ok (.bipush 8, 2) := by decide +kernel
theorem dX0_picksFewest_30 : decode cX0_picksFewest 30 = .ok (.irem, 1) := by decide +kernel
theorem dX0_picksFewest_31 : decode cX0_picksFewest 31 = .ok (.istore_n 3, 1) := by decide +kernel
theorem dX0_picksFewest_32 : decode cX0_picksFewest 32 = .ok (.aload_n 0, 1) := by decide +kernel
theorem dX0_picksFewest_33 : decode cX0_picksFewest 33 = .ok (.getfield 25, 3) := by decide +kernel
theorem dX0_picksFewest_36 : decode cX0_picksFewest 36 = .ok (.iload_n 2, 1) := by decide +kernel
theorem dX0_picksFewest_37 : decode cX0_picksFewest 37 = .ok (.aload_n 0, 1) := by decide +kernel
theorem dX0_picksFewest_38 : decode cX0_picksFewest 38 = .ok (.getfield 25, 3) := by decide +kernel
theorem dX0_picksFewest_41 : decode cX0_picksFewest 41 = .ok (.iload_n 2, 1) := by decide +kernel
theorem dX0_picksFewest_42 : decode cX0_picksFewest 42 = .ok (.iload_n 2, 1) := by decide +kernel
theorem dX0_picksFewest_43 : decode cX0_picksFewest 43 = .ok (.iconst 1, 1) := by decide +kernel
theorem dX0_picksFewest_44 : decode cX0_picksFewest 44 = .ok (.isub, 1) := by decide +kernel
theorem dX0_picksFewest_45 : decode cX0_picksFewest 45 = .ok (.iand, 1) := by decide +kernel
theorem dX0_picksFewest_46 : decode cX0_picksFewest 46 = .ok (.iaload, 1) := by decide +kernel
theorem dX0_picksFewest_47 : decode cX0_picksFewest 47 = .ok (.aload_n 0, 1) := by decide +kernel
theorem dX0_picksFewest_48 : decode cX0_picksFewest 48 = .ok (.getfield 19, 3) := by decide +kernel
theorem dX0_picksFewest_51 : decode cX0_picksFewest 51 = .ok (.iload_n 3, 1) := by decide +kernel
theorem dX0_picksFewest_52 : decode cX0_picksFewest 52 = .ok (.iaload, 1) := by decide +kernel
theorem dX0_picksFewest_53 : decode cX0_picksFewest 53 = .ok (.iadd, 1) := by decide +kernel
theorem dX0_picksFewest_54 : decode cX0_picksFewest 54 = .ok (.iastore, 1) := by decide +kernel
theorem dX0_picksFewest_55 : decode cX0_picksFewest 55 = .ok (.aload_n 0, 1) := by decide +kernel
theorem dX0_picksFewest_56 : decode cX0_picksFewest 56 = .ok (.getfield 25, 3) := by decide +kernel
theorem dX0_picksFewest_59 : decode cX0_picksFewest 59 = .ok (.iload_n 2, 1) := by decide +kernel
theorem dX0_picksFewest_60 : decode cX0_picksFewest 60 = .ok (.iaload, 1) := by decide +kernel
theorem dX0_picksFewest_61 : decode cX0_picksFewest 61 = .ok (.aload_n 0, 1) := by decide +kernel
theorem dX0_picksFewest_62 : decode cX0_picksFewest 62 = .ok (.getfield 28, 3) := by decide +kernel
theorem dX0_picksFewest_65 : decode cX0_picksFewest 65 = .ok (.getfield 84, 3) := by decide +kernel
theorem dX0_picksFewest_68 : decode cX0_picksFewest 68 = .ok (.if_icmp .lt 18, 3) := by decide +kernel
theorem dX0_picksFewest_71 : decode cX0_picksFewest 71 = .ok (.iload_n 1, 1) := by decide +kernel
theorem dX0_picksFewest_72 : decode cX0_picksFewest 72 = .ok (.ifCond .eq 12, 3) := by decide +kernel
theorem dX0_picksFewest_75 : decode cX0_picksFewest 75 = .ok (.aload_n 0, 1) := by decide +kernel
theorem dX0_picksFewest_76 : decode cX0_picksFewest 76 = .ok (.iload_n 2, 1) := by decide +kernel
theorem dX0_picksFewest_77 : decode cX0_picksFewest 77 = .ok (.iload_n 1, 1) := by decide +kernel
theorem dX0_picksFewest_78 : decode cX0_picksFewest 78 = .ok (.invokevirtual 114, 3) := by decide +kernel
theorem dX0_picksFewest_81 : decode cX0_picksFewest 81 = .ok (.ifCond .eq 5, 3) := by decide +kernel
theorem dX0_picksFewest_84 : decode cX0_picksFewest 84 = .ok (.iload_n 2, 1) := by decide +kernel
theorem dX0_picksFewest_85 : decode cX0_picksFewest 85 = .ok (.istore_n 1, 1) := by decide +kernel
theorem dX0_picksFewest_86 : decode cX0_picksFewest 86 = .ok (.iinc 2 1, 3) := by decide +kernel
theorem dX0_picksFewest_89 : decode cX0_picksFewest 89 = .ok (.goto (-85), 3) := by decide +kernel
theorem dX0_picksFewest_92 : decode cX0_picksFewest 92 = .ok (.iload_n 1, 1) := by decide +kernel
theorem dX0_picksFewest_93 : decode cX0_picksFewest 93 = .ok (.ireturn, 1) := by decide +kernel
def fX0_picksFewest_B92 (x1 : Int) (μ : vr_M) : Option (Int × vr_M) :=
  some (x1, μ)
def fX0_picksFewest_B86 (rc4 : Int → Int → vr_M → Option (Int × vr_M)) (x1 : Int) (x2 : Int) (μ : vr_M) : Option (Int × vr_M) :=
  vr_gd (vr_R (x2 + 1)) (rc4 x1 (x2 + 1) μ)
def fX0_picksFewest_B84 (rc4 : Int → Int → vr_M → Option (Int × vr_M)) (x2 : Int) (μ : vr_M) : Option (Int × vr_M) :=
  fX0_picksFewest_B86 rc4 x2 x2 μ
def fX0_picksFewest_L4 : Nat → Int → Int → vr_M → Option (Int × vr_M)
  | 0, _, _, _ => none
  | n + 1, x1, x2, μ => (fX2_all 52 μ).bind (fun r2 => if r2.1 < x2 then fX0_picksFewest_B92 x1 r2.2 else if 256 ≤ x2 then fX0_picksFewest_B92 x1 r2.2 else (fJ6_numberOfTrailingZeros_0f7a4 x2 r2.2).bind (fun r3 => vr_gd (0 ≤ (vr_and x2 (x2 - 1)) ∧ (vr_and x2 (x2 - 1)) < 256) (vr_gd (0 ≤ (r3.1.tmod 8) ∧ (r3.1.tmod 8) < 8) (vr_gd (0 ≤ x2 ∧ x2 < 256) (vr_let (vr_u r3.2 62 x2.toNat ((r3.2 62 (vr_and x2 (x2 - 1)).toNat) + (r3.2 60 (r3.1.tmod 8).toNat))) (fun μ7 => vr_gd (vr_R (μ7 62 x2.toNat)) (vr_gd (vr_R (μ7 52 7)) (if (μ7 62 x2.toNat) < (μ7 52 7) then fX0_picksFewest_B86 (fX0_picksFewest_L4 n) x1 x2 μ7 else if x1 = 0 then fX0_picksFewest_B84 (fX0_picksFewest_L4 n) x2 μ7 else (fX0_isBetter x2 x1 μ7).bind (fun r10 => if r10.1 = 0 then fX0_picksFewest_B86 (fX0_picksFewest_L4 n) x1 x2 r10.2 else fX0_picksFewest_B84 (fX0_picksFewest_L4 n) x2 r10.2)))))))))
def fX0_picksFewest (μ : vr_M) : Option (Int × vr_M) :=
  fX0_picksFewest_L4 9000 0 1 μ
set_option maxRecDepth 100000 in
set_option maxHeartbeats 4000000 in
theorem ct_X0_picksFewest (l : Launch) (G : vr_G) (μ : vr_M) : vr_CI l yX0_picksFewest cX0_picksFewest 4 (some .int) ({ frames := 2, cells := 0, slots := 0, locals := 43 } : Room) G [.ref (vr_ad G 58)] μ (fX0_picksFewest μ) := by
  refine vr_start (own := RX0) (by decide) rfl (Nat.le_of_ble_eq_true rfl) (fun p e s m args below meth c C0 => ?_)
  show vr_J p l e _ s m args below meth c 4 0 0 G (vr_Z (vr_QI G) G args s below) 0 [(0, .ref (vr_ad G 58))] [] μ _
  have B92 : ∀ (x1 : Int) (h_x1 : vr_R x1) (μ : vr_M), vr_J p l e ({ frames := 2, cells := 0, slots := 0, locals := 43 } : Room) s m args below meth c 4 0 0 G (vr_Z (vr_QI G) G args s below) 92 [(1, .int (vr_I x1))] [] μ (fX0_picksFewest_B92 x1 μ) := by
    intro x1 h_x1 μ
    unfold fX0_picksFewest_B92
    refine jr_iload_n C0 0 dX0_picksFewest_92 rfl rfl ?_
    exact jr_iret C0 h_x1 dX0_picksFewest_93
  have L4 : ∀ (n : Nat) (x1 : Int) (h_x1 : vr_R x1) (x2 : Int) (h_x2 : vr_R x2) (μ : vr_M), vr_J p l e ({ frames := 2, cells := 0, slots := 0, locals := 43 } : Room) s m args below meth c 4 0 0 G (vr_Z (vr_QI G) G args s below) 4 [(0, .ref (vr_ad G 58)), (1, .int (vr_I x1)), (2, .int (vr_I x2))] [] μ (fX0_picksFewest_L4 n x1 x2 μ) := by
    intro n4
    induction n4 with
    | zero => intros; exact jr_none
    | succ n4 ih4 =>
      have B86 : ∀ (x1 : Int) (h_x1 : vr_R x1) (x2 : Int) (h_x2 : vr_R x2) (μ : vr_M), vr_J p l e ({ frames := 2, cells := 0, slots := 0, locals := 43 } : Room) s m args below meth c 4 0 0 G (vr_Z (vr_QI G) G args s below) 86 [(0, .ref (vr_ad G 58)), (1, .int (vr_I x1)), (2, .int (vr_I x2))] [] μ (fX0_picksFewest_B86 (fX0_picksFewest_L4 n4) x1 x2 μ) := by
        intro x1 h_x1 x2 h_x2 μ
        unfold fX0_picksFewest_B86
        refine jr_iinc C0 (q := 2) dX0_picksFewest_86 rfl (by decide) (lv' := [(2, .int (vr_I (x2 + 1))), (0, .ref (vr_ad G 58)), (1, .int (vr_I x1))]) rfl ?_
        refine jr_goto C0 dX0_picksFewest_89 (tgt := 4) (by decide) ?_
        refine jr_gd (fun g1 => ?_)
        refine jr_sub [1, 2, 0] rfl ?_
        exact ih4 x1 h_x1 (x2 + 1) g1 _
      have B84 : ∀ (x2 : Int) (h_x2 : vr_R x2) (μ : vr_M), vr_J p l e ({ frames := 2, cells := 0, slots := 0, locals := 43 } : Room) s m args below meth c 4 0 0 G (vr_Z (vr_QI G) G args s below) 84 [(0, .ref (vr_ad G 58)), (2, .int (vr_I x2))] [] μ (fX0_picksFewest_B84 (fX0_picksFewest_L4 n4) x2 μ) := by
        intro x2 h_x2 μ
        unfold fX0_picksFewest_B84
        refine jr_iload_n C0 1 dX0_picksFewest_84 rfl rfl ?_
        refine jr_istore_n C0 dX0_picksFewest_85 rfl (by decide) (lv' := [(1, .int (vr_I x2)), (0, .ref (vr_ad G 58)), (2, .int (vr_I x2))]) rfl ?_
        refine jr_sub [1, 0, 2] rfl ?_
        exact B86 x2 h_x2 x2 h_x2 _
      intro x1 h_x1 x2 h_x2 μ
      rw [fX0_picksFewest_L4.eq_2]
      refine jr_iload_n C0 2 dX0_picksFewest_4 rfl rfl ?_
      refine jr_aload_n C0 0 dX0_picksFewest_5 rfl rfl ?_
      refine jr_getr C0 (by decide) kd_58 (by decide) rfl wx_X0 (i := 0) (by decide) wf_X0_28 (j := 52) rfl dX0_picksFewest_6 ?_
      refine jr_vI C0 (by decide) kd_52 (by decide) rfl (ct_X2_all l G (by decide) kd_52 _) mi_X2_all wm_X0_106 ⟨Nat.le_of_ble_eq_true rfl, Nat.le_of_ble_eq_true rfl⟩ ⟨rfl, rfl⟩ (As := []) rfl (st := [.int (vr_I x2)]) rfl (Nat.le_of_ble_eq_true rfl) dX0_picksFewest_9 (fun r2 hr2 => ?_)
      refine jr_icmp_gt C0 h_x2 hr2 dX0_picksFewest_12 (tgt := 92) (by decide) ?_ ?_
      · refine jr_sub [1] rfl ?_
        exact B92 x1 h_x1 _
      refine jr_iload_n C0 2 dX0_picksFewest_15 rfl rfl ?_
      refine jr_aload_n C0 0 dX0_picksFewest_16 rfl rfl ?_
      refine jr_getr C0 (by decide) kd_58 (by decide) rfl wx_X0 (i := 7) (by decide) wf_X0_25 (j := 62) rfl dX0_picksFewest_17 ?_
      refine jr_alen C0 (by decide) kd_62 kl_62 dX0_picksFewest_20 ?_
      refine jr_icmp_ge C0 h_x2 (⟨by decide, by decide⟩) dX0_picksFewest_21 (tgt := 92) (by decide) ?_ ?_
      · refine jr_sub [1] rfl ?_
        exact B92 x1 h_x1 _
      refine jr_iload_n C0 2 dX0_picksFewest_24 rfl rfl ?_
      refine jr_sI C0 (ct_J6_numberOfTrailingZeros_0f7a4 l G x2 h_x2 _) mi_J6_numberOfTrailingZeros_0f7a4 wm_X0_109 ⟨Nat.le_of_ble_eq_true rfl, Nat.le_of_ble_eq_true rfl⟩ ⟨rfl, rfl⟩ (As := [.int (vr_I x2)]) rfl (st := []) rfl (Nat.le_of_ble_eq_true rfl) dX0_picksFewest_25 (fun r3 hr3 => ?_)
      refine jr_bipush C0 dX0_picksFewest_28 rfl ?_
      refine jr_irem C0 hr3 (⟨by decide, by decide⟩) (by decide) dX0_picksFewest_30 ?_
      refine jr_istore_n C0 dX0_picksFewest_31 rfl (by decide) (lv' := [(3, .int (vr_I (r3.1.tmod 8))), (0, .ref (vr_ad G 58)), (1, .int (vr_I x1)), (2, .int (vr_I x2))]) rfl ?_
      refine jr_aload_n C0 1 dX0_picksFewest_32 rfl rfl ?_
      refine jr_getr C0 (by decide) kd_58 (by decide) rfl wx_X0 (i := 7) (by decide) wf_X0_25 (j := 62) rfl dX0_picksFewest_33 ?_
      refine jr_iload_n C0 3 dX0_picksFewest_36 rfl rfl ?_
      refine jr_aload_n C0 1 dX0_picksFewest_37 rfl rfl ?_
      refine jr_getr C0 (by decide) kd_58 (by decide) rfl wx_X0 (i := 7) (by decide) wf_X0_25 (j := 62) rfl dX0_picksFewest_38 ?_
      refine jr_iload_n C0 3 dX0_picksFewest_41 rfl rfl ?_
      refine jr_iload_n C0 3 dX0_picksFewest_42 rfl rfl ?_
      refine jr_iconst C0 dX0_picksFewest_43 ?_
      refine jr_isub C0 dX0_picksFewest_44 ?_
      refine jr_iand C0 dX0_picksFewest_45 ?_
      refine jr_gd (fun g4 => ?_)
      refine jr_iald C0 (by decide) kd_62 kl_62 g4 (j := (vr_and x2 (x2 - 1)).toNat) rfl dX0_picksFewest_46 ?_
      refine jr_aload_n C0 1 dX0_picksFewest_47 rfl rfl ?_
      refine jr_getr C0 (by decide) kd_58 (by decide) rfl wx_X0 (i := 5) (by decide) wf_X0_19 (j := 60) rfl dX0_picksFewest_48 ?_
      refine jr_iload_n C0 0 dX0_picksFewest_51 rfl rfl ?_
      refine jr_gd (fun g5 => ?_)
      refine jr_iald C0 (by decide) kd_60 kl_60 g5 (j := (r3.1.tmod 8).toNat) rfl dX0_picksFewest_52 ?_
      refine jr_iadd C0 dX0_picksFewest_53 ?_
      refine jr_gd (fun g6 => ?_)
      refine jr_iast C0 (by decide) kd_62 kl_62 g6 (j := x2.toNat) rfl dX0_picksFewest_54 ?_
      refine jr_aload_n C0 1 dX0_picksFewest_55 rfl rfl ?_
      refine jr_getr C0 (by decide) kd_58 (by decide) rfl wx_X0 (i := 7) (by decide) wf_X0_25 (j := 62) rfl dX0_picksFewest_56 ?_
      refine jr_iload_n C0 3 dX0_picksFewest_59 rfl rfl ?_
      refine jr_let (fun μ7 => ?_)
      refine jr_iald C0 (by decide) kd_62 kl_62 g6 (j := x2.toNat) rfl dX0_picksFewest_60 ?_
      refine jr_aload_n C0 1 dX0_picksFewest_61 rfl rfl ?_
      refine jr_getr C0 (by decide) kd_58 (by decide) rfl wx_X0 (i := 0) (by decide) wf_X0_28 (j := 52) rfl dX0_picksFewest_62 ?_
      refine jr_geti C0 (by decide) kd_52 (by decide) rfl wx_X2 (i := 7) (by decide) wf_X0_84 rfl dX0_picksFewest_65 ?_
      refine jr_gd (fun g8 => ?_)
      refine jr_gd (fun g9 => ?_)
      refine jr_icmp_lt C0 g8 g9 dX0_picksFewest_68 (tgt := 86) (by decide) ?_ ?_
      · refine jr_sub [1, 2, 3] rfl ?_
        exact B86 x1 h_x1 x2 h_x2 _
      refine jr_iload_n C0 2 dX0_picksFewest_71 rfl rfl ?_
      refine jr_if_eq C0 h_x1 dX0_picksFewest_72 (tgt := 84) (by decide) ?_ ?_
      · refine jr_sub [1, 3] rfl ?_
        exact B84 x2 h_x2 _
      refine jr_aload_n C0 1 dX0_picksFewest_75 rfl rfl ?_
      refine jr_iload_n C0 3 dX0_picksFewest_76 rfl rfl ?_
      refine jr_iload_n C0 2 dX0_picksFewest_77 rfl rfl ?_
      refine jr_vI C0 (by decide) kd_58 (by decide) rfl (ct_X0_isBetter l G x2 h_x2 x1 h_x1 _) mi_X0_isBetter wm_X0_114 ⟨Nat.le_of_ble_eq_true rfl, Nat.le_of_ble_eq_true rfl⟩ ⟨rfl, rfl⟩ (As := [.int (vr_I x2), .int (vr_I x1)]) rfl (st := []) rfl (Nat.le_of_ble_eq_true rfl) dX0_picksFewest_78 (fun r10 hr10 => ?_)
      refine jr_if_eq C0 hr10 dX0_picksFewest_81 (tgt := 86) (by decide) ?_ ?_
      · refine jr_sub [1, 2, 3] rfl ?_
        exact B86 x1 h_x1 x2 h_x2 _
      refine jr_sub [1, 3] rfl ?_
      exact B84 x2 h_x2 _
  unfold fX0_picksFewest
  refine jr_iconst C0 dX0_picksFewest_0 ?_
  refine jr_istore_n C0 dX0_picksFewest_1 rfl (by decide) (lv' := [(1, .int (vr_I 0)), (0, .ref (vr_ad G 58))]) rfl ?_
  refine jr_iconst C0 dX0_picksFewest_2 ?_
  refine jr_istore_n C0 dX0_picksFewest_3 rfl (by decide) (lv' := [(2, .int (vr_I 1)), (1, .int (vr_I 0)), (0, .ref (vr_ad G 58))]) rfl ?_
  refine jr_sub [2, 1, 0] rfl ?_
  exact L4 9000 0 (⟨by decide, by decide⟩) 1 (⟨by decide, by decide⟩) _

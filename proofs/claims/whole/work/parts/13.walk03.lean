theorem dJ0_charAt_5068e_0 : decode cJ0_charAt_5068e 0 = .ok (.aload_n 0, 1) := by decide +kernel
theorem dJ0_charAt_5068e_1 : decode cJ0_charAt_5068e 1 = .ok (.invokevirtual 492, 3) := by decide +kernel
theorem dJ0_charAt_5068e_4 : decode cJ0_charAt_5068e 4 = .ok (.ifCond .eq 12, 3) := by decide +kernel
theorem dJ0_charAt_5068e_7 : decode cJ0_charAt_5068e 7 = .ok (.aload_n 0, 1) := by decide +kernel
theorem dJ0_charAt_5068e_8 : decode cJ0_charAt_5068e 8 = .ok (.getfield 9, 3) := by decide +kernel
theorem dJ0_charAt_5068e_11 : decode cJ0_charAt_5068e 11 = .ok (.iload_n 1, 1) := by decide +kernel
theorem dJ0_charAt_5068e_12 : decode cJ0_charAt_5068e 12 = .ok (.invokestatic 495, 3) := by decide +kernel
theorem dJ0_charAt_5068e_15 : decode cJ0_charAt_5068e 15 = .ok (.ireturn, 1) := by decide +kernel
theorem dJ0_charAt_5068e_16 : decode cJ0_charAt_5068e 16 = .ok (.aload_n 0, 1) := by decide +kernel
theorem dJ0_charAt_5068e_17 : decode cJ0_charAt_5068e 17 = .ok (.getfield 9, 3) := by decide +kernel
theorem dJ0_charAt_5068e_20 : decode cJ0_charAt_5068e 20 = .ok (.iload_n 1, 1) := by decide +kernel
theorem dJ0_charAt_5068e_21 : decode cJ0_charAt_5068e 21 = .ok (.invokestatic 498, 3) := by decide +kernel
theorem dJ0_charAt_5068e_24 : decode cJ0_charAt_5068e 24 = .ok (.ireturn, 1) := by decide +kernel
def fJ0_charAt_5068e (s0 : Nat) (a0 : Int) (μ : vr_M) : Option (Int × vr_M) :=
  (fJ0_isLatin1_aae02 s0 μ).bind (fun r1 => if r1.1 = 0 then none else (fJ1_charAt_3b067 s0 a0 r1.2).bind (fun r2 => vr_gd (0 ≤ r2.1 ∧ r2.1 < 65536) (some (r2.1, r2.2))))
set_option maxRecDepth 100000 in
set_option maxHeartbeats 4000000 in
theorem ct_J0_charAt_5068e (l : Launch) (G : vr_G) {s0 : Nat} (hi_s0 : s0 < 17) (a0 : Int) (h_a0 : vr_R a0) (μ : vr_M) : vr_CI l yJ0_charAt_5068e cJ0_charAt_5068e 2 (some .char) ({ frames := 3, cells := 0, slots := 0, locals := 64 } : Room) G [.ref (vr_ak G s0), .int (vr_I a0)] μ (fJ0_charAt_5068e s0 a0 μ) := by
  refine vr_start (own := RJ0) (by decide) rfl (Nat.le_of_ble_eq_true rfl) (fun p e s m args below meth c C0 => ?_)
  show vr_J p l e _ s m args below meth c 2 0 0 G (vr_Z (vr_QI G) G args s below) 0 [(0, .ref (vr_ak G s0)), (1, .int (vr_I a0))] [] μ _
  unfold fJ0_charAt_5068e
  refine jr_aload_n C0 0 dJ0_charAt_5068e_0 rfl rfl ?_
  refine jr_strI C0 hi_s0 (ct_J0_isLatin1_aae02 l G hi_s0 _) mi_J0_isLatin1_aae02 wm_J0_492 ⟨Nat.le_of_ble_eq_true rfl, Nat.le_of_ble_eq_true rfl⟩ ⟨rfl, rfl⟩ (As := []) rfl (st := []) rfl (Nat.le_of_ble_eq_true rfl) dJ0_charAt_5068e_1 (fun r1 hr1 => ?_)
  refine jr_if_eq C0 hr1 dJ0_charAt_5068e_4 (tgt := 16) (by decide) ?_ ?_
  · exact jr_none
  refine jr_aload_n C0 0 dJ0_charAt_5068e_7 rfl rfl ?_
  refine jr_sval C0 hi_s0 wf_J0_9 dJ0_charAt_5068e_8 ?_
  refine jr_iload_n C0 1 dJ0_charAt_5068e_11 rfl rfl ?_
  refine jr_sI C0 (ct_J1_charAt_3b067 l G hi_s0 a0 h_a0 _) mi_J1_charAt_3b067 wm_J0_495 ⟨Nat.le_of_ble_eq_true rfl, Nat.le_of_ble_eq_true rfl⟩ ⟨rfl, rfl⟩ (As := [.ref (vr_av G s0), .int (vr_I a0)]) rfl (st := []) rfl (Nat.le_of_ble_eq_true rfl) dJ0_charAt_5068e_12 (fun r2 hr2 => ?_)
  refine jr_gd (fun g3 => ?_)
  exact jr_zret C0 hr2 (vr_nch g3) dJ0_charAt_5068e_15
theorem dX6_sameBytes_0 : decode cX6_sameBytes 0 = .ok (.iconst 0, 1) := by decide +kernel
theorem dX6_sameBytes_1 : decode cX6_sameBytes 1 = .ok (.istore_n 2, 1) := by decide +kernel
theorem dX6_sameBytes_2 : decode cX6_sameBytes 2 = .ok (.iload_n 2, 1) := by decide +kernel
theorem dX6_sameBytes_3 : decode cX6_sameBytes 3 = .ok (.aload_n 1, 1) := by decide +kernel
theorem dX6_sameBytes_4 : decode cX6_sameBytes 4 = .ok (.invokevirtual 83, 3) := by decide +kernel
theorem dX6_sameBytes_7 : decode cX6_sameBytes 7 = .ok (.if_icmp .ge 32, 3) := by decide +kernel
theorem dX6_sameBytes_10 : decode cX6_sameBytes 10 = .ok (.aload_n 0, 1) := by decide +kernel
theorem dX6_sameBytes_11 : decode cX6_sameBytes 11 = .ok (.getfield 9, 3) := by decide +kernel
theorem dX6_sameBytes_14 : decode cX6_sameBytes 14 = .ok (.aload_n 0, 1) := by decide +kernel
theorem dX6_sameBytes_15 : decode cX6_sameBytes 15 = .ok (.getfield 24, 3) := by decide +kernel
theorem dX6_sameBytes_18 : decode cX6_sameBytes 18 = .ok (.iload_n 2, 1) := by decide +kernel
theorem dX6_sameBytes_19 : decode cX6_sameBytes 19 = .ok (.iadd, 1) := by decide +kernel
theorem dX6_sameBytes_20 : decode cX6_sameBytes 20 = .ok (.invokevirtual 94, 3) := by decide +kernel
theorem dX6_sameBytes_23 : decode cX6_sameBytes 23 = .ok (.aload_n 1, 1) := by decide +kernel
theorem dX6_sameBytes_24 : decode cX6_sameBytes 24 = .ok (.iload_n 2, 1) := by decide +kernel
theorem dX6_sameBytes_25 : decode cX6_sameBytes 25 = .ok (.invokevirtual 97, 3) := by decide +kernel
theorem dX6_sameBytes_28 : decode cX6_sameBytes 28 = .ok (.if_icmp .eq 5, 3) := by decide +kernel
theorem dX6_sameBytes_31 : decode cX6_sameBytes 31 = .ok (.iload_n 2, 1) := by decide +kernel
theorem dX6_sameBytes_32 : decode cX6_sameBytes 32 = .ok (.ireturn, 1) := by decide +kernel
theorem dX6_sameBytes_33 : decode cX6_sameBytes 33 = .ok (.iinc 2 1, 3) := by decide +kernel
theorem dX6_sameBytes_36 : decode cX6_sameBytes 36 = .ok (.goto (-34), 3) := by decide +kernel
theorem dX6_sameBytes_39 : decode cX6_sameBytes 39 = .ok (.aload_n 1, 1) := by decide +kernel
theorem dX6_sameBytes_40 : decode cX6_sameBytes 40 = .ok (.invokevirtual 83, 3) := by decide +kernel
theorem dX6_sameBytes_43 : decode cX6_sameBytes 43 = .ok (.ireturn, 1) := by decide +kernel
def fX6_sameBytes_L2 (s1 : Nat) : Nat → Int → vr_M → Option (Int × vr_M)
  | 0, _, _ => none
  | n + 1, x2, μ => (fJ0_length_8abf5 s1 μ).bind (fun r1 => if r1.1 ≤ x2 then (fJ0_length_8abf5 s1 r1.2).bind (fun r2 => some (r2.1, r2.2)) else vr_gd (vr_R ((r1.2 50 2) + x2)) ((fX4_at 13 ((r1.2 50 2) + x2) r1.2).bind (fun r4 => (fJ0_charAt_5068e s1 x2 r4.2).bind (fun r5 => if r4.1 = r5.1 then vr_gd (vr_R (x2 + 1)) ((fX6_sameBytes_L2 s1 n) (x2 + 1) r5.2) else some (x2, r5.2)))))
def fX6_sameBytes (s1 : Nat) (μ : vr_M) : Option (Int × vr_M) :=
  fX6_sameBytes_L2 s1 9000 0 μ
set_option maxRecDepth 100000 in
set_option maxHeartbeats 4000000 in
theorem ct_X6_sameBytes (l : Launch) (G : vr_G) {s1 : Nat} (hi_s1 : s1 < 17) (μ : vr_M) : vr_CI l yX6_sameBytes cX6_sameBytes 3 (some .int) ({ frames := 4, cells := 0, slots := 0, locals := 85 } : Room) G [.ref (vr_ad G 50), .ref (vr_ak G s1)] μ (fX6_sameBytes s1 μ) := by
  refine vr_start (own := RX6) (by decide) rfl (Nat.le_of_ble_eq_true rfl) (fun p e s m args below meth c C0 => ?_)
  show vr_J p l e _ s m args below meth c 3 0 0 G (vr_Z (vr_QI G) G args s below) 0 [(0, .ref (vr_ad G 50)), (1, .ref (vr_ak G s1))] [] μ _
  have L2 : ∀ (n : Nat) (x2 : Int) (h_x2 : vr_R x2) (μ : vr_M), vr_J p l e ({ frames := 4, cells := 0, slots := 0, locals := 85 } : Room) s m args below meth c 3 0 0 G (vr_Z (vr_QI G) G args s below) 2 [(0, .ref (vr_ad G 50)), (1, .ref (vr_ak G s1)), (2, .int (vr_I x2))] [] μ (fX6_sameBytes_L2 s1 n x2 μ) := by
    intro n2
    induction n2 with
    | zero => intros; exact jr_none
    | succ n2 ih2 =>
      intro x2 h_x2 μ
      rw [fX6_sameBytes_L2.eq_2]
      refine jr_iload_n C0 2 dX6_sameBytes_2 rfl rfl ?_
      refine jr_aload_n C0 1 dX6_sameBytes_3 rfl rfl ?_
      refine jr_strI C0 hi_s1 (ct_J0_length_8abf5 l G hi_s1 _) mi_J0_length_8abf5 wm_X6_83 ⟨Nat.le_of_ble_eq_true rfl, Nat.le_of_ble_eq_true rfl⟩ ⟨rfl, rfl⟩ (As := []) rfl (st := [.int (vr_I x2)]) rfl (Nat.le_of_ble_eq_true rfl) dX6_sameBytes_4 (fun r1 hr1 => ?_)
      refine jr_icmp_ge C0 h_x2 hr1 dX6_sameBytes_7 (tgt := 39) (by decide) ?_ ?_
      · refine jr_aload_n C0 1 dX6_sameBytes_39 rfl rfl ?_
        refine jr_strI C0 hi_s1 (ct_J0_length_8abf5 l G hi_s1 _) mi_J0_length_8abf5 wm_X6_83 ⟨Nat.le_of_ble_eq_true rfl, Nat.le_of_ble_eq_true rfl⟩ ⟨rfl, rfl⟩ (As := []) rfl (st := []) rfl (Nat.le_of_ble_eq_true rfl) dX6_sameBytes_40 (fun r2 hr2 => ?_)
        exact jr_iret C0 hr2 dX6_sameBytes_43
      refine jr_aload_n C0 0 dX6_sameBytes_10 rfl rfl ?_
      refine jr_getr C0 (by decide) kd_50 (by decide) rfl wx_X6 (i := 0) (by decide) wf_X6_9 (j := 13) rfl dX6_sameBytes_11 ?_
      refine jr_aload_n C0 0 dX6_sameBytes_14 rfl rfl ?_
      refine jr_geti C0 (by decide) kd_50 (by decide) rfl wx_X6 (i := 2) (by decide) wf_X6_24 rfl dX6_sameBytes_15 ?_
      refine jr_iload_n C0 2 dX6_sameBytes_18 rfl rfl ?_
      refine jr_iadd C0 dX6_sameBytes_19 ?_
      refine jr_gd (fun g3 => ?_)
      refine jr_vI C0 (by decide) kd_13 (by decide) rfl (ct_X4_at l G (by decide) kd_13 ((r1.2 50 2) + x2) g3 _) mi_X4_at wm_X6_94 ⟨Nat.le_of_ble_eq_true rfl, Nat.le_of_ble_eq_true rfl⟩ ⟨rfl, rfl⟩ (As := [.int (vr_I ((r1.2 50 2) + x2))]) rfl (st := []) rfl (Nat.le_of_ble_eq_true rfl) dX6_sameBytes_20 (fun r4 hr4 => ?_)
      refine jr_aload_n C0 1 dX6_sameBytes_23 rfl rfl ?_
      refine jr_iload_n C0 2 dX6_sameBytes_24 rfl rfl ?_
      refine jr_strI C0 hi_s1 (ct_J0_charAt_5068e l G hi_s1 x2 h_x2 _) mi_J0_charAt_5068e wm_X6_97 ⟨Nat.le_of_ble_eq_true rfl, Nat.le_of_ble_eq_true rfl⟩ ⟨rfl, rfl⟩ (As := [.int (vr_I x2)]) rfl (st := [.int (vr_I r4.1)]) rfl (Nat.le_of_ble_eq_true rfl) dX6_sameBytes_25 (fun r5 hr5 => ?_)
      refine jr_icmp_eq C0 hr4 hr5 dX6_sameBytes_28 (tgt := 33) (by decide) ?_ ?_
      · refine jr_iinc C0 (q := 2) dX6_sameBytes_33 rfl (by decide) (lv' := [(2, .int (vr_I (x2 + 1))), (0, .ref (vr_ad G 50)), (1, .ref (vr_ak G s1))]) rfl ?_
        refine jr_goto C0 dX6_sameBytes_36 (tgt := 2) (by decide) ?_
        refine jr_gd (fun g6 => ?_)
        refine jr_sub [1, 2, 0] rfl ?_
        exact ih2 (x2 + 1) g6 _
      refine jr_iload_n C0 2 dX6_sameBytes_31 rfl rfl ?_
      exact jr_iret C0 h_x2 dX6_sameBytes_32
  unfold fX6_sameBytes
  refine jr_iconst C0 dX6_sameBytes_0 ?_
  refine jr_istore_n C0 dX6_sameBytes_1 rfl (by decide) (lv' := [(2, .int (vr_I 0)), (0, .ref (vr_ad G 50)), (1, .ref (vr_ak G s1))]) rfl ?_
  refine jr_sub [1, 2, 0] rfl ?_
  exact L2 9000 0 (⟨by decide, by decide⟩) _
theorem dX6_readWord_0 : decode cX6_readWord 0 = .ok (.iconst 0, 1) := by decide +kernel
theorem dX6_readWord_1 : decode cX6_readWord 1 = .ok (.istore_n 1, 1) := by decide +kernel
theorem dX6_readWord_2 : decode cX6_readWord 2 = .ok (.iconst 0, 1) := by decide +kernel
theorem dX6_readWord_3 : decode cX6_readWord 3 = .ok (.istore_n 2, 1) := by decide +kernel
theorem dX6_readWord_4 : decode cX6_readWord 4 = .ok (.iload_n 2, 1) := by decide +kernel
theorem dX6_readWord_5 : decode cX6_readWord 5 = .ok (.bipush 6, 2) := by decide +kernel
theorem dX6_readWord_7 : decode cX6_readWord 7 = .ok (.if_icmp .ge 50, 3) := by decide +kernel
theorem dX6_readWord_10 : decode cX6_readWord 10 = .ok (.iload_n 2, 1) := by decide +kernel
theorem dX6_readWord_11 : decode cX6_readWord 11 = .ok (.invokestatic 75, 3) := by decide +kernel
theorem dX6_readWord_14 : decode cX6_readWord 14 = .ok (.astore_n 3, 1) := by decide +kernel
theorem dX6_readWord_15 : decode cX6_readWord 15 = .ok (.aload_n 0, 1) := by decide +kernel
theorem dX6_readWord_16 : decode cX6_readWord 16 = .ok (.aload_n 3, 1) := by decide +kernel
theorem dX6_readWord_17 : decode cX6_readWord 17 = .ok (.invokevirtual 79, 3) := by decide +kernel
theorem dX6_readWord_20 : decode cX6_readWord 20 = .ok (.istore 4, 2) := by decide +kernel
theorem dX6_readWord_22 : decode cX6_readWord 22 = .ok (.iload 4, 2) := by decide +kernel
theorem dX6_readWord_24 : decode cX6_readWord 24 = .ok (.aload_n 3, 1) := by decide +kernel
theorem dX6_readWord_25 : decode cX6_readWord 25 = .ok (.invokevirtual 83, 3) := by decide +kernel
theorem dX6_readWord_28 : decode cX6_readWord 28 = .ok (.if_icmp .ne 16, 3) := by decide +kernel
theorem dX6_readWord_31 : decode cX6_readWord 31 = .ok (.aload_n 0, 1) := by decide +kernel
theorem dX6_readWord_32 : decode cX6_readWord 32 = .ok (.dup, 1) := by decide +kernel
theorem dX6_readWord_33 : decode cX6_readWord 33 = .ok (.getfield 24, 3) := by decide +kernel
theorem dX6_readWord_36 : decode cX6_readWord 36 = .ok (.iload 4, 2) := by decide +kernel
theorem dX6_readWord_38 : decode cX6_readWord 38 = .ok (.iadd, 1) := by decide +kernel
theorem dX6_readWord_39 : decode cX6_readWord 39 = .ok (.putfield 24, 3) := by decide +kernel
theorem dX6_readWord_42 : decode cX6_readWord 42 = .ok (.iload_n 2, 1) := by decide +kernel
theorem dX6_readWord_43 : decode cX6_readWord 43 = .ok (.ireturn, 1) := by decide +kernel
theorem dX6_readWord_44 : decode cX6_readWord 44 = .ok (.iload_n 1, 1) := by decide +kernel
theorem dX6_readWord_45 : decode cX6_readWord 45 = .ok (.iload 4, 2) := by decide +kernel
theorem dX6_readWord_47 : decode cX6_readWord 47 = .ok (.invokestatic 88, 3) := by decide +kernel
theorem dX6_readWord_50 : decode cX6_readWord 50 = .ok (.istore_n 1, 1) := by decide +kernel
theorem dX6_readWord_51 : decode cX6_readWord 51 = .ok (.iinc 2 1, 3) := by decide +kernel
theorem dX6_readWord_54 : decode cX6_readWord 54 = .ok (.goto (-50), 3) := by decide +kernel
theorem dX6_readWord_57 : decode cX6_readWord 57 = .ok (.aload_n 0, 1) := by decide +kernel
theorem dX6_readWord_58 : decode cX6_readWord 58 = .ok (.dup, 1) := by decide +kernel
theorem dX6_readWord_59 : decode cX6_readWord 59 = .ok (.getfield 24, 3) := by decide +kernel
theorem dX6_readWord_62 : decode cX6_readWord 62 = .ok (.iload_n 1, 1) := by decide +kernel
theorem dX6_readWord_63 : decode cX6_readWord 63 = .ok (.iadd, 1) := by decide +kernel
theorem dX6_readWord_64 : decode cX6_readWord 64 = .ok (.putfield 24, 3) := by decide +kernel
theorem dX6_readWord_67 : decode cX6_readWord 67 = .ok (.iconst (-1), 1) := by decide +kernel
theorem dX6_readWord_68 : decode cX6_readWord 68 = .ok (.ireturn, 1) := by decide +kernel
def fX6_readWord_L4 : Nat → Int → Int → vr_M → Option (Int × vr_M)
  | 0, _, _, _ => none
  | n + 1, x1, x2, μ => if 6 ≤ x2 then some ((-1), vr_u μ 50 2 ((μ 50 2) + x1)) else (fX6_spelt x2 μ).bind (fun r1 => vr_gd (r1.1 < 17) ((fX6_sameBytes r1.1 r1.2).bind (fun r2 => (fJ0_length_8abf5 r1.1 r2.2).bind (fun r3 => if ¬ r2.1 = r3.1 then vr_gd (vr_R (max x1 r2.1)) (vr_gd (vr_R (x2 + 1)) ((fX6_readWord_L4 n) (max x1 r2.1) (x2 + 1) r3.2)) else some (x2, vr_u r3.2 50 2 ((r3.2 50 2) + r2.1))))))
def fX6_readWord (μ : vr_M) : Option (Int × vr_M) :=
  fX6_readWord_L4 9000 0 0 μ
set_option maxRecDepth 100000 in
set_option maxHeartbeats 4000000 in
theorem ct_X6_readWord (l : Launch) (G : vr_G) (μ : vr_M) : vr_CI l yX6_readWord cX6_readWord 5 (some .int) ({ frames := 5, cells := 0, slots := 0, locals := 107 } : Room) G [.ref (vr_ad G 50)] μ (fX6_readWord μ) := by
  refine vr_start (own := RX6) (by decide) rfl (Nat.le_of_ble_eq_true rfl) (fun p e s m args below meth c C0 => ?_)
  show vr_J p l e _ s m args below meth c 5 0 0 G (vr_Z (vr_QI G) G args s below) 0 [(0, .ref (vr_ad G 50))] [] μ _
  have L4 : ∀ (n : Nat) (x1 : Int) (h_x1 : vr_R x1) (x2 : Int) (h_x2 : vr_R x2) (μ : vr_M), vr_J p l e ({ frames := 5, cells := 0, slots := 0, locals := 107 } : Room) s m args below meth c 5 0 0 G (vr_Z (vr_QI G) G args s below) 4 [(0, .ref (vr_ad G 50)), (1, .int (vr_I x1)), (2, .int (vr_I x2))] [] μ (fX6_readWord_L4 n x1 x2 μ) := by
    intro n4
    induction n4 with
    | zero => intros; exact jr_none
    | succ n4 ih4 =>
      intro x1 h_x1 x2 h_x2 μ
      rw [fX6_readWord_L4.eq_2]
      refine jr_iload_n C0 2 dX6_readWord_4 rfl rfl ?_
      refine jr_bipush C0 dX6_readWord_5 rfl ?_
      refine jr_icmp_ge C0 h_x2 (⟨by decide, by decide⟩) dX6_readWord_7 (tgt := 57) (by decide) ?_ ?_
      · refine jr_aload_n C0 0 dX6_readWord_57 rfl rfl ?_
        refine jr_dup C0 rfl dX6_readWord_58 ?_
        refine jr_geti C0 (by decide) kd_50 (by decide) rfl wx_X6 (i := 2) (by decide) wf_X6_24 rfl dX6_readWord_59 ?_
        refine jr_iload_n C0 1 dX6_readWord_62 rfl rfl ?_
        refine jr_iadd C0 dX6_readWord_63 ?_
        refine jr_puti C0 (by decide) kd_50 (by decide) rfl wx_X6 (i := 2) (by decide) wf_X6_24 rfl tyX6_ok nmX6 rfl rfl rfl dX6_readWord_64 ?_
        refine jr_iconst C0 dX6_readWord_67 ?_
        exact jr_iret C0 (⟨by decide, by decide⟩) dX6_readWord_68
      refine jr_iload_n C0 2 dX6_readWord_10 rfl rfl ?_
      refine jr_sS C0 (ct_X6_spelt l G x2 h_x2 _) mi_X6_spelt wm_X6_75 ⟨Nat.le_of_ble_eq_true rfl, Nat.le_of_ble_eq_true rfl⟩ ⟨rfl, rfl⟩ (As := [.int (vr_I x2)]) rfl (st := []) rfl (Nat.le_of_ble_eq_true rfl) dX6_readWord_11 (fun r1 => ?_)
      refine jr_gd (fun hstr_r1 => ?_)
      refine jr_astore_n C0 dX6_readWord_14 rfl (by decide) (lv' := [(3, .ref (vr_ak G r1.1)), (0, .ref (vr_ad G 50)), (1, .int (vr_I x1)), (2, .int (vr_I x2))]) rfl ?_
      refine jr_aload_n C0 1 dX6_readWord_15 rfl rfl ?_
      refine jr_aload_n C0 0 dX6_readWord_16 rfl rfl ?_
      refine jr_vI C0 (by decide) kd_50 (by decide) rfl (ct_X6_sameBytes l G hstr_r1 _) mi_X6_sameBytes wm_X6_79 ⟨Nat.le_of_ble_eq_true rfl, Nat.le_of_ble_eq_true rfl⟩ ⟨rfl, rfl⟩ (As := [.ref (vr_ak G r1.1)]) rfl (st := []) rfl (Nat.le_of_ble_eq_true rfl) dX6_readWord_17 (fun r2 hr2 => ?_)
      refine jr_istore C0 dX6_readWord_20 (by decide) (lv' := [(4, .int (vr_I r2.1)), (3, .ref (vr_ak G r1.1)), (0, .ref (vr_ad G 50)), (1, .int (vr_I x1)), (2, .int (vr_I x2))]) rfl ?_
      refine jr_iload C0 0 dX6_readWord_22 rfl ?_
      refine jr_aload_n C0 1 dX6_readWord_24 rfl rfl ?_
      refine jr_strI C0 hstr_r1 (ct_J0_length_8abf5 l G hstr_r1 _) mi_J0_length_8abf5 wm_X6_83 ⟨Nat.le_of_ble_eq_true rfl, Nat.le_of_ble_eq_true rfl⟩ ⟨rfl, rfl⟩ (As := []) rfl (st := [.int (vr_I r2.1)]) rfl (Nat.le_of_ble_eq_true rfl) dX6_readWord_25 (fun r3 hr3 => ?_)
      refine jr_icmp_ne C0 hr2 hr3 dX6_readWord_28 (tgt := 44) (by decide) ?_ ?_
      · refine jr_iload_n C0 3 dX6_readWord_44 rfl rfl ?_
        refine jr_iload C0 0 dX6_readWord_45 rfl ?_
        refine jr_max C0 h_x1 hr2 wm_X6_88 wt_yJ9_max_7cf53 wz_J9 wc_yJ9_max_7cf53 (Nat.le_of_ble_eq_true rfl) (Nat.le_of_ble_eq_true rfl) dX6_readWord_47 ?_
        refine jr_istore_n C0 dX6_readWord_50 rfl (by decide) (lv' := [(1, .int (vr_I (max x1 r2.1))), (4, .int (vr_I r2.1)), (3, .ref (vr_ak G r1.1)), (0, .ref (vr_ad G 50)), (2, .int (vr_I x2))]) rfl ?_
        refine jr_iinc C0 (q := 4) dX6_readWord_51 rfl (by decide) (lv' := [(2, .int (vr_I (x2 + 1))), (1, .int (vr_I (max x1 r2.1))), (4, .int (vr_I r2.1)), (3, .ref (vr_ak G r1.1)), (0, .ref (vr_ad G 50))]) rfl ?_
        refine jr_goto C0 dX6_readWord_54 (tgt := 4) (by decide) ?_
        refine jr_gd (fun g4 => ?_)
        refine jr_gd (fun g5 => ?_)
        refine jr_sub [4, 1, 0] rfl ?_
        exact ih4 (max x1 r2.1) g4 (x2 + 1) g5 _
      refine jr_aload_n C0 2 dX6_readWord_31 rfl rfl ?_
      refine jr_dup C0 rfl dX6_readWord_32 ?_
      refine jr_geti C0 (by decide) kd_50 (by decide) rfl wx_X6 (i := 2) (by decide) wf_X6_24 rfl dX6_readWord_33 ?_
      refine jr_iload C0 0 dX6_readWord_36 rfl ?_
      refine jr_iadd C0 dX6_readWord_38 ?_
      refine jr_puti C0 (by decide) kd_50 (by decide) rfl wx_X6 (i := 2) (by decide) wf_X6_24 rfl tyX6_ok nmX6 rfl rfl rfl dX6_readWord_39 ?_
      refine jr_iload_n C0 4 dX6_readWord_42 rfl rfl ?_
      exact jr_iret C0 h_x2 dX6_readWord_43
  unfold fX6_readWord
  refine jr_iconst C0 dX6_readWord_0 ?_
  refine jr_istore_n C0 dX6_readWord_1 rfl (by decide) (lv' := [(1, .int (vr_I 0)), (0, .ref (vr_ad G 50))]) rfl ?_
  refine jr_iconst C0 dX6_readWord_2 ?_
  refine jr_istore_n C0 dX6_readWord_3 rfl (by decide) (lv' := [(2, .int (vr_I 0)), (1, .int (vr_I 0)), (0, .ref (vr_ad G 50))]) rfl ?_
  refine jr_sub [2, 1, 0] rfl ?_
  exact L4 9000 0 (⟨by decide, by decide⟩) 0 (⟨by decide, by decide⟩) _
theorem dX6_sees_0 : decode cX6_sees 0 = .ok (.aload_n 0, 1) := by decide +kernel
theorem dX6_sees_1 : decode cX6_sees 1 = .ok (.getfield 9, 3) := by decide +kernel
theorem dX6_sees_4 : decode cX6_sees 4 = .ok (.aload_n 0, 1) := by decide +kernel
theorem dX6_sees_5 : decode cX6_sees 5 = .ok (.getfield 24, 3) := by decide +kernel
theorem dX6_sees_8 : decode cX6_sees 8 = .ok (.invokevirtual 94, 3) := by decide +kernel
theorem dX6_sees_11 : decode cX6_sees 11 = .ok (.iload_n 1, 1) := by decide +kernel
theorem dX6_sees_12 : decode cX6_sees 12 = .ok (.if_icmp .ne 7, 3) := by decide +kernel
theorem dX6_sees_15 : decode cX6_sees 15 = .ok (.iconst 1, 1) := by decide +kernel
theorem dX6_sees_16 : decode cX6_sees 16 = .ok (.goto 4, 3) := by decide +kernel
theorem dX6_sees_19 : decode cX6_sees 19 = .ok (.iconst 0, 1) := by decide +kernel
theorem dX6_sees_20 : decode cX6_sees 20 = .ok (.ireturn, 1) := by decide +kernel
def fX6_sees_B20 (y0 : Int) (μ : vr_M) : Option (Int × vr_M) :=
  vr_gd (y0 = 0 ∨ y0 = 1) (some (y0, μ))
def fX6_sees (a0 : Int) (μ : vr_M) : Option (Int × vr_M) :=
  vr_gd (vr_R (μ 50 2)) ((fX4_at 13 (μ 50 2) μ).bind (fun r3 => if ¬ r3.1 = a0 then fX6_sees_B20 0 r3.2 else fX6_sees_B20 1 r3.2))
set_option maxRecDepth 100000 in
set_option maxHeartbeats 4000000 in
theorem ct_X6_sees (l : Launch) (G : vr_G) (a0 : Int) (h_a0 : vr_R a0) (μ : vr_M) : vr_CI l yX6_sees cX6_sees 2 (some .boolean) ({ frames := 1, cells := 0, slots := 0, locals := 21 } : Room) G [.ref (vr_ad G 50), .int (vr_I a0)] μ (fX6_sees a0 μ) := by
  refine vr_start (own := RX6) (by decide) rfl (Nat.le_of_ble_eq_true rfl) (fun p e s m args below meth c C0 => ?_)
  show vr_J p l e _ s m args below meth c 2 0 0 G (vr_Z (vr_QI G) G args s below) 0 [(0, .ref (vr_ad G 50)), (1, .int (vr_I a0))] [] μ _
  have B20 : ∀ (y0 : Int) (h_y0 : vr_R y0) (μ : vr_M), vr_J p l e ({ frames := 1, cells := 0, slots := 0, locals := 21 } : Room) s m args below meth c 2 0 0 G (vr_Z (vr_QI G) G args s below) 20 [] [.int (vr_I y0)] μ (fX6_sees_B20 y0 μ) := by
    intro y0 h_y0 μ
    unfold fX6_sees_B20
    refine jr_gd (fun g1 => ?_)
    exact jr_zret C0 h_y0 (vr_nz g1) dX6_sees_20
  unfold fX6_sees
  refine jr_aload_n C0 0 dX6_sees_0 rfl rfl ?_
  refine jr_getr C0 (by decide) kd_50 (by decide) rfl wx_X6 (i := 0) (by decide) wf_X6_9 (j := 13) rfl dX6_sees_1 ?_
  refine jr_aload_n C0 0 dX6_sees_4 rfl rfl ?_
  refine jr_geti C0 (by decide) kd_50 (by decide) rfl wx_X6 (i := 2) (by decide) wf_X6_24 rfl dX6_sees_5 ?_
  refine jr_gd (fun g2 => ?_)
  refine jr_vI C0 (by decide) kd_13 (by decide) rfl (ct_X4_at l G (by decide) kd_13 (μ 50 2) g2 _) mi_X4_at wm_X6_94 ⟨Nat.le_of_ble_eq_true rfl, Nat.le_of_ble_eq_true rfl⟩ ⟨rfl, rfl⟩ (As := [.int (vr_I (μ 50 2))]) rfl (st := []) rfl (Nat.le_of_ble_eq_true rfl) dX6_sees_8 (fun r3 hr3 => ?_)
  refine jr_iload_n C0 1 dX6_sees_11 rfl rfl ?_
  refine jr_icmp_ne C0 hr3 h_a0 dX6_sees_12 (tgt := 19) (by decide) ?_ ?_
  · refine jr_iconst C0 dX6_sees_19 ?_
    refine jr_sub [] rfl ?_
    exact B20 0 (⟨by decide, by decide⟩) _
  refine jr_iconst C0 dX6_sees_15 ?_
  refine jr_goto C0 dX6_sees_16 (tgt := 20) (by decide) ?_
  refine jr_sub [] rfl ?_
  exact B20 1 (⟨by decide, by decide⟩) _
theorem dJ1_canEncode_9a6ad_0 : decode cJ1_canEncode_9a6ad 0 = .ok (.iload_n 0, 1) := by decide +kernel
theorem dJ1_canEncode_9a6ad_1 : decode cJ1_canEncode_9a6ad 1 = .ok (.ifCond .lt 14, 3) := by decide +kernel
theorem dJ1_canEncode_9a6ad_4 : decode cJ1_canEncode_9a6ad 4 = .ok (.iload_n 0, 1) := by decide +kernel
theorem dJ1_canEncode_9a6ad_5 : decode cJ1_canEncode_9a6ad 5 = .ok (.sipush 255, 3) := by decide +kernel
theorem dJ1_canEncode_9a6ad_8 : decode cJ1_canEncode_9a6ad 8 = .ok (.if_icmp .gt 7, 3) := by decide +kernel
theorem dJ1_canEncode_9a6ad_11 : decode cJ1_canEncode_9a6ad 11 = .ok (.iconst 1, 1) := by decide +kernel
theorem dJ1_canEncode_9a6ad_12 : decode cJ1_canEncode_9a6ad 12 = .ok (.goto 4, 3) := by decide +kernel
theorem dJ1_canEncode_9a6ad_15 : decode cJ1_canEncode_9a6ad 15 = .ok (.iconst 0, 1) := by decide +kernel
theorem dJ1_canEncode_9a6ad_16 : decode cJ1_canEncode_9a6ad 16 = .ok (.ireturn, 1) := by decide +kernel
def fJ1_canEncode_9a6ad_B16 (y0 : Int) (μ : vr_M) : Option (Int × vr_M) :=
  vr_gd (y0 = 0 ∨ y0 = 1) (some (y0, μ))
def fJ1_canEncode_9a6ad_B15 (μ : vr_M) : Option (Int × vr_M) :=
  fJ1_canEncode_9a6ad_B16 0 μ
def fJ1_canEncode_9a6ad (a0 : Int) (μ : vr_M) : Option (Int × vr_M) :=
  if a0 < 0 then fJ1_canEncode_9a6ad_B15 μ else if 255 < a0 then fJ1_canEncode_9a6ad_B15 μ else fJ1_canEncode_9a6ad_B16 1 μ
set_option maxRecDepth 100000 in
set_option maxHeartbeats 4000000 in
theorem ct_J1_canEncode_9a6ad (l : Launch) (G : vr_G) (a0 : Int) (h_a0 : vr_R a0) (μ : vr_M) : vr_CI l yJ1_canEncode_9a6ad cJ1_canEncode_9a6ad 1 (some .boolean) ({ frames := 0, cells := 0, slots := 0, locals := 0 } : Room) G [.int (vr_I a0)] μ (fJ1_canEncode_9a6ad a0 μ) := by
  refine vr_start (own := RJ1) (by decide) rfl (Nat.le_of_ble_eq_true rfl) (fun p e s m args below meth c C0 => ?_)
  show vr_J p l e _ s m args below meth c 1 0 0 G (vr_Z (vr_QI G) G args s below) 0 [(0, .int (vr_I a0))] [] μ _
  have B16 : ∀ (y0 : Int) (h_y0 : vr_R y0) (μ : vr_M), vr_J p l e ({ frames := 0, cells := 0, slots := 0, locals := 0 } : Room) s m args below meth c 1 0 0 G (vr_Z (vr_QI G) G args s below) 16 [] [.int (vr_I y0)] μ (fJ1_canEncode_9a6ad_B16 y0 μ) := by
    intro y0 h_y0 μ
    unfold fJ1_canEncode_9a6ad_B16
    refine jr_gd (fun g1 => ?_)
    exact jr_zret C0 h_y0 (vr_nz g1) dJ1_canEncode_9a6ad_16
  have B15 : ∀ (μ : vr_M), vr_J p l e ({ frames := 0, cells := 0, slots := 0, locals := 0 } : Room) s m args below meth c 1 0 0 G (vr_Z (vr_QI G) G args s below) 15 [] [] μ (fJ1_canEncode_9a6ad_B15 μ) := by
    intro μ
    unfold fJ1_canEncode_9a6ad_B15
    refine jr_iconst C0 dJ1_canEncode_9a6ad_15 ?_
    exact B16 0 (⟨by decide, by decide⟩) _
  unfold fJ1_canEncode_9a6ad
  refine jr_iload_n C0 0 dJ1_canEncode_9a6ad_0 rfl rfl ?_
  refine jr_if_lt C0 h_a0 dJ1_canEncode_9a6ad_1 (tgt := 15) (by decide) ?_ ?_
  · refine jr_sub [] rfl ?_
    exact B15 _
  refine jr_iload_n C0 0 dJ1_canEncode_9a6ad_4 rfl rfl ?_
  refine jr_sipush C0 dJ1_canEncode_9a6ad_5 rfl ?_
  refine jr_icmp_gt C0 h_a0 (⟨by decide, by decide⟩) dJ1_canEncode_9a6ad_8 (tgt := 15) (by decide) ?_ ?_
  · refine jr_sub [] rfl ?_
    exact B15 _
  refine jr_iconst C0 dJ1_canEncode_9a6ad_11 ?_
  refine jr_goto C0 dJ1_canEncode_9a6ad_12 (tgt := 16) (by decide) ?_
  refine jr_sub [] rfl ?_
  exact B16 1 (⟨by decide, by decide⟩) _
theorem dJ1_indexOfChar_4cfef_0 : decode cJ1_indexOfChar_4cfef 0 = .ok (.iload_n 1, 1) := by decide +kernel
theorem dJ1_indexOfChar_4cfef_1 : decode cJ1_indexOfChar_4cfef 1 = .ok (.i2b, 1) := by decide +kernel
theorem dJ1_indexOfChar_4cfef_2 : decode cJ1_indexOfChar_4cfef 2 = .ok (.istore 4, 2) := by decide +kernel
theorem dJ1_indexOfChar_4cfef_4 : decode cJ1_indexOfChar_4cfef 4 = .ok (.iload_n 2, 1) := by decide +kernel
theorem dJ1_indexOfChar_4cfef_5 : decode cJ1_indexOfChar_4cfef 5 = .ok (.istore 5, 2) := by decide +kernel
theorem dJ1_indexOfChar_4cfef_7 : decode cJ1_indexOfChar_4cfef 7 = .ok (.iload 5, 2) := by decide +kernel
theorem dJ1_indexOfChar_4cfef_9 : decode cJ1_indexOfChar_4cfef 9 = .ok (.iload_n 3, 1) := by decide +kernel
theorem dJ1_indexOfChar_4cfef_10 : decode cJ1_indexOfChar_4cfef 10 = .ok (.if_icmp .ge 21, 3) := by decide +kernel
theorem dJ1_indexOfChar_4cfef_13 : decode cJ1_indexOfChar_4cfef 13 = .ok (.aload_n 0, 1) := by decide +kernel
theorem dJ1_indexOfChar_4cfef_14 : decode cJ1_indexOfChar_4cfef 14 = .ok (.iload 5, 2) := by decide +kernel
theorem dJ1_indexOfChar_4cfef_16 : decode cJ1_indexOfChar_4cfef 16 = .ok (.baload, 1) := by decide +kernel
theorem dJ1_indexOfChar_4cfef_17 : decode cJ1_indexOfChar_4cfef 17 = .ok (.iload 4, 2) := by decide +kernel
theorem dJ1_indexOfChar_4cfef_19 : decode cJ1_indexOfChar_4cfef 19 = .ok (.if_icmp .ne 6, 3) := by decide +kernel
theorem dJ1_indexOfChar_4cfef_22 : decode cJ1_indexOfChar_4cfef 22 = .ok (.iload 5, 2) := by decide +kernel
theorem dJ1_indexOfChar_4cfef_24 : decode cJ1_indexOfChar_4cfef 24 = .ok (.ireturn, 1) := by decide +kernel
theorem dJ1_indexOfChar_4cfef_25 : decode cJ1_indexOfChar_4cfef 25 = .ok (.iinc 5 1, 3) := by decide +kernel
theorem dJ1_indexOfChar_4cfef_28 : decode cJ1_indexOfChar_4cfef 28 = .ok (.goto (-21), 3) := by decide +kernel
theorem dJ1_indexOfChar_4cfef_31 : decode cJ1_indexOfChar_4cfef 31 = .ok (.iconst (-1), 1) := by decide +kernel
theorem dJ1_indexOfChar_4cfef_32 : decode cJ1_indexOfChar_4cfef 32 = .ok (.ireturn, 1) := by decide +kernel
def fJ1_indexOfChar_4cfef_L7 (s1 : Nat) : Nat → Int → Int → Int → vr_M → Option (Int × vr_M)
  | 0, _, _, _, _ => none
  | n + 1, x3, x4, x5, μ => if x3 ≤ x5 then some ((-1), μ) else vr_gd (0 ≤ x5 ∧ x5 < ((vr_by s1).length : Int)) (if ¬ (((vr_by s1).getD x5.toNat 0).toInt) = x4 then vr_gd (vr_R (x5 + 1)) ((fJ1_indexOfChar_4cfef_L7 s1 n) x3 x4 (x5 + 1) μ) else some (x5, μ))
def fJ1_indexOfChar_4cfef (s1 : Nat) (a1 : Int) (a2 : Int) (a3 : Int) (μ : vr_M) : Option (Int × vr_M) :=
  fJ1_indexOfChar_4cfef_L7 s1 9000 a3 (vr_i2b a1) a2 μ
set_option maxRecDepth 100000 in
set_option maxHeartbeats 4000000 in
theorem ct_J1_indexOfChar_4cfef (l : Launch) (G : vr_G) {s1 : Nat} (hi_s1 : s1 < 17) (a1 : Int) (h_a1 : vr_R a1) (a2 : Int) (h_a2 : vr_R a2) (a3 : Int) (h_a3 : vr_R a3) (μ : vr_M) : vr_CI l yJ1_indexOfChar_4cfef cJ1_indexOfChar_4cfef 6 (some .int) ({ frames := 0, cells := 0, slots := 0, locals := 0 } : Room) G [.ref (vr_av G s1), .int (vr_I a1), .int (vr_I a2), .int (vr_I a3)] μ (fJ1_indexOfChar_4cfef s1 a1 a2 a3 μ) := by
  refine vr_start (own := RJ1) (by decide) rfl (Nat.le_of_ble_eq_true rfl) (fun p e s m args below meth c C0 => ?_)
  show vr_J p l e _ s m args below meth c 6 0 0 G (vr_Z (vr_QI G) G args s below) 0 [(0, .ref (vr_av G s1)), (1, .int (vr_I a1)), (2, .int (vr_I a2)), (3, .int (vr_I a3))] [] μ _
  have L7 : ∀ (n : Nat) (x3 : Int) (h_x3 : vr_R x3) (x4 : Int) (h_x4 : vr_R x4) (x5 : Int) (h_x5 : vr_R x5) (μ : vr_M), vr_J p l e ({ frames := 0, cells := 0, slots := 0, locals := 0 } : Room) s m args below meth c 6 0 0 G (vr_Z (vr_QI G) G args s below) 7 [(0, .ref (vr_av G s1)), (3, .int (vr_I x3)), (4, .int (vr_I x4)), (5, .int (vr_I x5))] [] μ (fJ1_indexOfChar_4cfef_L7 s1 n x3 x4 x5 μ) := by
    intro n7
    induction n7 with
    | zero => intros; exact jr_none
    | succ n7 ih7 =>
      intro x3 h_x3 x4 h_x4 x5 h_x5 μ
      rw [fJ1_indexOfChar_4cfef_L7.eq_2]
      refine jr_iload C0 3 dJ1_indexOfChar_4cfef_7 rfl ?_
      refine jr_iload_n C0 1 dJ1_indexOfChar_4cfef_9 rfl rfl ?_
      refine jr_icmp_ge C0 h_x5 h_x3 dJ1_indexOfChar_4cfef_10 (tgt := 31) (by decide) ?_ ?_
      · refine jr_iconst C0 dJ1_indexOfChar_4cfef_31 ?_
        exact jr_iret C0 (⟨by decide, by decide⟩) dJ1_indexOfChar_4cfef_32
      refine jr_aload_n C0 0 dJ1_indexOfChar_4cfef_13 rfl rfl ?_
      refine jr_iload C0 3 dJ1_indexOfChar_4cfef_14 rfl ?_
      refine jr_gd (fun g1 => ?_)
      refine jr_sbal C0 hi_s1 g1 dJ1_indexOfChar_4cfef_16 ?_
      refine jr_iload C0 2 dJ1_indexOfChar_4cfef_17 rfl ?_
      refine jr_icmp_ne C0 (vr_RT _) h_x4 dJ1_indexOfChar_4cfef_19 (tgt := 25) (by decide) ?_ ?_
      · refine jr_iinc C0 (q := 3) dJ1_indexOfChar_4cfef_25 rfl (by decide) (lv' := [(5, .int (vr_I (x5 + 1))), (0, .ref (vr_av G s1)), (3, .int (vr_I x3)), (4, .int (vr_I x4))]) rfl ?_
        refine jr_goto C0 dJ1_indexOfChar_4cfef_28 (tgt := 7) (by decide) ?_
        refine jr_gd (fun g2 => ?_)
        refine jr_sub [1, 2, 3, 0] rfl ?_
        exact ih7 x3 h_x3 x4 h_x4 (x5 + 1) g2 _
      refine jr_iload C0 3 dJ1_indexOfChar_4cfef_22 rfl ?_
      exact jr_iret C0 h_x5 dJ1_indexOfChar_4cfef_24
  unfold fJ1_indexOfChar_4cfef
  refine jr_iload_n C0 1 dJ1_indexOfChar_4cfef_0 rfl rfl ?_
  refine jr_i2b C0 dJ1_indexOfChar_4cfef_1 ?_
  refine jr_istore C0 dJ1_indexOfChar_4cfef_2 (by decide) (lv' := [(4, .int (vr_I (vr_i2b a1))), (0, .ref (vr_av G s1)), (1, .int (vr_I a1)), (2, .int (vr_I a2)), (3, .int (vr_I a3))]) rfl ?_
  refine jr_iload_n C0 3 dJ1_indexOfChar_4cfef_4 rfl rfl ?_
  refine jr_istore C0 dJ1_indexOfChar_4cfef_5 (by decide) (lv' := [(5, .int (vr_I a2)), (4, .int (vr_I (vr_i2b a1))), (0, .ref (vr_av G s1)), (1, .int (vr_I a1)), (2, .int (vr_I a2)), (3, .int (vr_I a3))]) rfl ?_
  refine jr_sub [2, 5, 1, 0] rfl ?_
  exact L7 9000 a3 h_a3 (vr_i2b a1) (vr_RT _) a2 h_a2 _
theorem dJ1_indexOf_4cfef_0 : decode cJ1_indexOf_4cfef 0 = .ok (.iload_n 1, 1) := by decide +kernel
theorem dJ1_indexOf_4cfef_1 : decode cJ1_indexOf_4cfef 1 = .ok (.invokestatic 88, 3) := by decide +kernel
theorem dJ1_indexOf_4cfef_4 : decode cJ1_indexOf_4cfef 4 = .ok (.ifCond .ne 5, 3) := by decide +kernel
theorem dJ1_indexOf_4cfef_7 : decode cJ1_indexOf_4cfef 7 = .ok (.iconst (-1), 1) := by decide +kernel
theorem dJ1_indexOf_4cfef_8 : decode cJ1_indexOf_4cfef 8 = .ok (.ireturn, 1) := by decide +kernel
theorem dJ1_indexOf_4cfef_9 : decode cJ1_indexOf_4cfef 9 = .ok (.iload_n 2, 1) := by decide +kernel
theorem dJ1_indexOf_4cfef_10 : decode cJ1_indexOf_4cfef 10 = .ok (.iconst 0, 1) := by decide +kernel
theorem dJ1_indexOf_4cfef_11 : decode cJ1_indexOf_4cfef 11 = .ok (.invokestatic 92, 3) := by decide +kernel
theorem dJ1_indexOf_4cfef_14 : decode cJ1_indexOf_4cfef 14 = .ok (.istore_n 2, 1) := by decide +kernel
theorem dJ1_indexOf_4cfef_15 : decode cJ1_indexOf_4cfef 15 = .ok (.iload_n 3, 1) := by decide +kernel
theorem dJ1_indexOf_4cfef_16 : decode cJ1_indexOf_4cfef 16 = .ok (.aload_n 0, 1) := by decide +kernel
theorem dJ1_indexOf_4cfef_17 : decode cJ1_indexOf_4cfef 17 = .ok (.arraylength, 1) := by decide +kernel
theorem dJ1_indexOf_4cfef_18 : decode cJ1_indexOf_4cfef 18 = .ok (.invokestatic 38, 3) := by decide +kernel
theorem dJ1_indexOf_4cfef_21 : decode cJ1_indexOf_4cfef 21 = .ok (.istore_n 3, 1) := by decide +kernel
theorem dJ1_indexOf_4cfef_22 : decode cJ1_indexOf_4cfef 22 = .ok (.iload_n 2, 1) := by decide +kernel
theorem dJ1_indexOf_4cfef_23 : decode cJ1_indexOf_4cfef 23 = .ok (.iload_n 3, 1) := by decide +kernel
theorem dJ1_indexOf_4cfef_24 : decode cJ1_indexOf_4cfef 24 = .ok (.if_icmp .lt 5, 3) := by decide +kernel
theorem dJ1_indexOf_4cfef_27 : decode cJ1_indexOf_4cfef 27 = .ok (.iconst (-1), 1) := by decide +kernel
theorem dJ1_indexOf_4cfef_28 : decode cJ1_indexOf_4cfef 28 = .ok (.ireturn, 1) := by decide +kernel
theorem dJ1_indexOf_4cfef_29 : decode cJ1_indexOf_4cfef 29 = .ok (.aload_n 0, 1) := by decide +kernel
theorem dJ1_indexOf_4cfef_30 : decode cJ1_indexOf_4cfef 30 = .ok (.iload_n 1, 1) := by decide +kernel
theorem dJ1_indexOf_4cfef_31 : decode cJ1_indexOf_4cfef 31 = .ok (.iload_n 2, 1) := by decide +kernel
theorem dJ1_indexOf_4cfef_32 : decode cJ1_indexOf_4cfef 32 = .ok (.iload_n 3, 1) := by decide +kernel
theorem dJ1_indexOf_4cfef_33 : decode cJ1_indexOf_4cfef 33 = .ok (.invokestatic 95, 3) := by decide +kernel
theorem dJ1_indexOf_4cfef_36 : decode cJ1_indexOf_4cfef 36 = .ok (.ireturn, 1) := by decide +kernel
def fJ1_indexOf_4cfef (s1 : Nat) (a1 : Int) (a2 : Int) (a3 : Int) (μ : vr_M) : Option (Int × vr_M) :=
  (fJ1_canEncode_9a6ad a1 μ).bind (fun r1 => if ¬ r1.1 = 0 then vr_gd (vr_R (max a2 0)) (vr_gd (vr_R (min a3 ((vr_by s1).length : Int))) (if (max a2 0) < (min a3 ((vr_by s1).length : Int)) then (fJ1_indexOfChar_4cfef s1 a1 (max a2 0) (min a3 ((vr_by s1).length : Int)) r1.2).bind (fun r4 => some (r4.1, r4.2)) else some ((-1), r1.2))) else some ((-1), r1.2))
set_option maxRecDepth 100000 in
set_option maxHeartbeats 4000000 in
theorem ct_J1_indexOf_4cfef (l : Launch) (G : vr_G) {s1 : Nat} (hi_s1 : s1 < 17) (a1 : Int) (h_a1 : vr_R a1) (a2 : Int) (h_a2 : vr_R a2) (a3 : Int) (h_a3 : vr_R a3) (μ : vr_M) : vr_CI l yJ1_indexOf_4cfef cJ1_indexOf_4cfef 4 (some .int) ({ frames := 1, cells := 0, slots := 0, locals := 25 } : Room) G [.ref (vr_av G s1), .int (vr_I a1), .int (vr_I a2), .int (vr_I a3)] μ (fJ1_indexOf_4cfef s1 a1 a2 a3 μ) := by
  refine vr_start (own := RJ1) (by decide) rfl (Nat.le_of_ble_eq_true rfl) (fun p e s m args below meth c C0 => ?_)
  show vr_J p l e _ s m args below meth c 4 0 0 G (vr_Z (vr_QI G) G args s below) 0 [(0, .ref (vr_av G s1)), (1, .int (vr_I a1)), (2, .int (vr_I a2)), (3, .int (vr_I a3))] [] μ _
  unfold fJ1_indexOf_4cfef
  refine jr_iload_n C0 1 dJ1_indexOf_4cfef_0 rfl rfl ?_
  refine jr_sI C0 (ct_J1_canEncode_9a6ad l G a1 h_a1 _) mi_J1_canEncode_9a6ad wm_J1_88 ⟨Nat.le_of_ble_eq_true rfl, Nat.le_of_ble_eq_true rfl⟩ ⟨rfl, rfl⟩ (As := [.int (vr_I a1)]) rfl (st := []) rfl (Nat.le_of_ble_eq_true rfl) dJ1_indexOf_4cfef_1 (fun r1 hr1 => ?_)
  refine jr_if_ne C0 hr1 dJ1_indexOf_4cfef_4 (tgt := 9) (by decide) ?_ ?_
  · refine jr_iload_n C0 2 dJ1_indexOf_4cfef_9 rfl rfl ?_
    refine jr_iconst C0 dJ1_indexOf_4cfef_10 ?_
    refine jr_max C0 h_a2 (⟨by decide, by decide⟩) wm_J1_92 wt_yJ9_max_7cf53 wz_J9 wc_yJ9_max_7cf53 (Nat.le_of_ble_eq_true rfl) (Nat.le_of_ble_eq_true rfl) dJ1_indexOf_4cfef_11 ?_
    refine jr_istore_n C0 dJ1_indexOf_4cfef_14 rfl (by decide) (lv' := [(2, .int (vr_I (max a2 0))), (0, .ref (vr_av G s1)), (1, .int (vr_I a1)), (3, .int (vr_I a3))]) rfl ?_
    refine jr_iload_n C0 3 dJ1_indexOf_4cfef_15 rfl rfl ?_
    refine jr_aload_n C0 1 dJ1_indexOf_4cfef_16 rfl rfl ?_
    refine jr_sbln C0 hi_s1 dJ1_indexOf_4cfef_17 ?_
    refine jr_min C0 h_a3 (vr_Rby hi_s1) wm_J1_38 wt_yJ9_min_7cf53 wz_J9 wc_yJ9_min_7cf53 (Nat.le_of_ble_eq_true rfl) (Nat.le_of_ble_eq_true rfl) dJ1_indexOf_4cfef_18 ?_
    refine jr_istore_n C0 dJ1_indexOf_4cfef_21 rfl (by decide) (lv' := [(3, .int (vr_I (min a3 ((vr_by s1).length : Int)))), (2, .int (vr_I (max a2 0))), (0, .ref (vr_av G s1)), (1, .int (vr_I a1))]) rfl ?_
    refine jr_iload_n C0 1 dJ1_indexOf_4cfef_22 rfl rfl ?_
    refine jr_iload_n C0 0 dJ1_indexOf_4cfef_23 rfl rfl ?_
    refine jr_gd (fun g2 => ?_)
    refine jr_gd (fun g3 => ?_)
    refine jr_icmp_lt C0 g2 g3 dJ1_indexOf_4cfef_24 (tgt := 29) (by decide) ?_ ?_
    · refine jr_aload_n C0 2 dJ1_indexOf_4cfef_29 rfl rfl ?_
      refine jr_iload_n C0 3 dJ1_indexOf_4cfef_30 rfl rfl ?_
      refine jr_iload_n C0 1 dJ1_indexOf_4cfef_31 rfl rfl ?_
      refine jr_iload_n C0 0 dJ1_indexOf_4cfef_32 rfl rfl ?_
      refine jr_sI C0 (ct_J1_indexOfChar_4cfef l G hi_s1 a1 h_a1 (max a2 0) g2 (min a3 ((vr_by s1).length : Int)) g3 _) mi_J1_indexOfChar_4cfef wm_J1_95 ⟨Nat.le_of_ble_eq_true rfl, Nat.le_of_ble_eq_true rfl⟩ ⟨rfl, rfl⟩ (As := [.ref (vr_av G s1), .int (vr_I a1), .int (vr_I (max a2 0)), .int (vr_I (min a3 ((vr_by s1).length : Int)))]) rfl (st := []) rfl (Nat.le_of_ble_eq_true rfl) dJ1_indexOf_4cfef_33 (fun r4 hr4 => ?_)
      exact jr_iret C0 hr4 dJ1_indexOf_4cfef_36
    refine jr_iconst C0 dJ1_indexOf_4cfef_27 ?_
    exact jr_iret C0 (⟨by decide, by decide⟩) dJ1_indexOf_4cfef_28
  refine jr_iconst C0 dJ1_indexOf_4cfef_7 ?_
  exact jr_iret C0 (⟨by decide, by decide⟩) dJ1_indexOf_4cfef_8
theorem dJ0_indexOf_7cf53_0 : decode cJ0_indexOf_7cf53 0 = .ok (.aload_n 0, 1) := by decide +kernel
theorem dJ0_indexOf_7cf53_1 : decode cJ0_indexOf_7cf53 1 = .ok (.invokevirtual 492, 3) := by decide +kernel
theorem dJ0_indexOf_7cf53_4 : decode cJ0_indexOf_7cf53 4 = .ok (.ifCond .eq 19, 3) := by decide +kernel
theorem dJ0_indexOf_7cf53_7 : decode cJ0_indexOf_7cf53 7 = .ok (.aload_n 0, 1) := by decide +kernel
theorem dJ0_indexOf_7cf53_8 : decode cJ0_indexOf_7cf53 8 = .ok (.getfield 9, 3) := by decide +kernel
theorem dJ0_indexOf_7cf53_11 : decode cJ0_indexOf_7cf53 11 = .ok (.iload_n 1, 1) := by decide +kernel
theorem dJ0_indexOf_7cf53_12 : decode cJ0_indexOf_7cf53 12 = .ok (.iload_n 2, 1) := by decide +kernel
theorem dJ0_indexOf_7cf53_13 : decode cJ0_indexOf_7cf53 13 = .ok (.aload_n 0, 1) := by decide +kernel
theorem dJ0_indexOf_7cf53_14 : decode cJ0_indexOf_7cf53 14 = .ok (.invokevirtual 505, 3) := by decide +kernel
theorem dJ0_indexOf_7cf53_17 : decode cJ0_indexOf_7cf53 17 = .ok (.invokestatic 637, 3) := by decide +kernel
theorem dJ0_indexOf_7cf53_20 : decode cJ0_indexOf_7cf53 20 = .ok (.goto 16, 3) := by decide +kernel
theorem dJ0_indexOf_7cf53_23 : decode cJ0_indexOf_7cf53 23 = .ok (.aload_n 0, 1) := by decide +kernel
theorem dJ0_indexOf_7cf53_24 : decode cJ0_indexOf_7cf53 24 = .ok (.getfield 9, 3) := by decide +kernel
theorem dJ0_indexOf_7cf53_27 : decode cJ0_indexOf_7cf53 27 = .ok (.iload_n 1, 1) := by decide +kernel
theorem dJ0_indexOf_7cf53_28 : decode cJ0_indexOf_7cf53 28 = .ok (.iload_n 2, 1) := by decide +kernel
theorem dJ0_indexOf_7cf53_29 : decode cJ0_indexOf_7cf53 29 = .ok (.aload_n 0, 1) := by decide +kernel
theorem dJ0_indexOf_7cf53_30 : decode cJ0_indexOf_7cf53 30 = .ok (.invokevirtual 505, 3) := by decide +kernel
theorem dJ0_indexOf_7cf53_33 : decode cJ0_indexOf_7cf53 33 = .ok (.invokestatic 640, 3) := by decide +kernel
theorem dJ0_indexOf_7cf53_36 : decode cJ0_indexOf_7cf53 36 = .ok (.ireturn, 1) := by decide +kernel
def fJ0_indexOf_7cf53_B36 (s0 : Nat) (y0 : Int) (μ : vr_M) : Option (Int × vr_M) :=
  some (y0, μ)
def fJ0_indexOf_7cf53 (s0 : Nat) (a0 : Int) (a1 : Int) (μ : vr_M) : Option (Int × vr_M) :=
  (fJ0_isLatin1_aae02 s0 μ).bind (fun r1 => if r1.1 = 0 then none else (fJ0_length_8abf5 s0 r1.2).bind (fun r3 => (fJ1_indexOf_4cfef s0 a0 a1 r3.1 r3.2).bind (fun r4 => fJ0_indexOf_7cf53_B36 s0 r4.1 r4.2)))
set_option maxRecDepth 100000 in
set_option maxHeartbeats 4000000 in
theorem ct_J0_indexOf_7cf53 (l : Launch) (G : vr_G) {s0 : Nat} (hi_s0 : s0 < 17) (a0 : Int) (h_a0 : vr_R a0) (a1 : Int) (h_a1 : vr_R a1) (μ : vr_M) : vr_CI l yJ0_indexOf_7cf53 cJ0_indexOf_7cf53 3 (some .int) ({ frames := 2, cells := 0, slots := 0, locals := 48 } : Room) G [.ref (vr_ak G s0), .int (vr_I a0), .int (vr_I a1)] μ (fJ0_indexOf_7cf53 s0 a0 a1 μ) := by
  refine vr_start (own := RJ0) (by decide) rfl (Nat.le_of_ble_eq_true rfl) (fun p e s m args below meth c C0 => ?_)
  show vr_J p l e _ s m args below meth c 3 0 0 G (vr_Z (vr_QI G) G args s below) 0 [(0, .ref (vr_ak G s0)), (1, .int (vr_I a0)), (2, .int (vr_I a1))] [] μ _
  have B36 : ∀ (y0 : Int) (h_y0 : vr_R y0) (μ : vr_M), vr_J p l e ({ frames := 2, cells := 0, slots := 0, locals := 48 } : Room) s m args below meth c 3 0 0 G (vr_Z (vr_QI G) G args s below) 36 [] [.int (vr_I y0)] μ (fJ0_indexOf_7cf53_B36 s0 y0 μ) := by
    intro y0 h_y0 μ
    unfold fJ0_indexOf_7cf53_B36
    exact jr_iret C0 h_y0 dJ0_indexOf_7cf53_36
  unfold fJ0_indexOf_7cf53
  refine jr_aload_n C0 0 dJ0_indexOf_7cf53_0 rfl rfl ?_
  refine jr_strI C0 hi_s0 (ct_J0_isLatin1_aae02 l G hi_s0 _) mi_J0_isLatin1_aae02 wm_J0_492 ⟨Nat.le_of_ble_eq_true rfl, Nat.le_of_ble_eq_true rfl⟩ ⟨rfl, rfl⟩ (As := []) rfl (st := []) rfl (Nat.le_of_ble_eq_true rfl) dJ0_indexOf_7cf53_1 (fun r1 hr1 => ?_)
  refine jr_if_eq C0 hr1 dJ0_indexOf_7cf53_4 (tgt := 23) (by decide) ?_ ?_
  · exact jr_none
  refine jr_aload_n C0 0 dJ0_indexOf_7cf53_7 rfl rfl ?_
  refine jr_sval C0 hi_s0 wf_J0_9 dJ0_indexOf_7cf53_8 ?_
  refine jr_iload_n C0 1 dJ0_indexOf_7cf53_11 rfl rfl ?_
  refine jr_iload_n C0 2 dJ0_indexOf_7cf53_12 rfl rfl ?_
  refine jr_aload_n C0 0 dJ0_indexOf_7cf53_13 rfl rfl ?_
  refine jr_strI C0 hi_s0 (ct_J0_length_8abf5 l G hi_s0 _) mi_J0_length_8abf5 wm_J0_505 ⟨Nat.le_of_ble_eq_true rfl, Nat.le_of_ble_eq_true rfl⟩ ⟨rfl, rfl⟩ (As := []) rfl (st := [.int (vr_I a1), .int (vr_I a0), .ref (vr_av G s0)]) rfl (Nat.le_of_ble_eq_true rfl) dJ0_indexOf_7cf53_14 (fun r3 hr3 => ?_)
  refine jr_sI C0 (ct_J1_indexOf_4cfef l G hi_s0 a0 h_a0 a1 h_a1 r3.1 hr3 _) mi_J1_indexOf_4cfef wm_J0_637 ⟨Nat.le_of_ble_eq_true rfl, Nat.le_of_ble_eq_true rfl⟩ ⟨rfl, rfl⟩ (As := [.ref (vr_av G s0), .int (vr_I a0), .int (vr_I a1), .int (vr_I r3.1)]) rfl (st := []) rfl (Nat.le_of_ble_eq_true rfl) dJ0_indexOf_7cf53_17 (fun r4 hr4 => ?_)
  refine jr_goto C0 dJ0_indexOf_7cf53_20 (tgt := 36) (by decide) ?_
  refine jr_sub [] rfl ?_
  exact B36 r4.1 hr4 _
theorem dJ0_indexOf_0f7a4_0 : decode cJ0_indexOf_0f7a4 0 = .ok (.aload_n 0, 1) := by decide +kernel
theorem dJ0_indexOf_0f7a4_1 : decode cJ0_indexOf_0f7a4 1 = .ok (.iload_n 1, 1) := by decide +kernel
theorem dJ0_indexOf_0f7a4_2 : decode cJ0_indexOf_0f7a4 2 = .ok (.iconst 0, 1) := by decide +kernel
theorem dJ0_indexOf_0f7a4_3 : decode cJ0_indexOf_0f7a4 3 = .ok (.invokevirtual 633, 3) := by decide +kernel
theorem dJ0_indexOf_0f7a4_6 : decode cJ0_indexOf_0f7a4 6 = .ok (.ireturn, 1) := by decide +kernel
def fJ0_indexOf_0f7a4 (s0 : Nat) (a0 : Int) (μ : vr_M) : Option (Int × vr_M) :=
  (fJ0_indexOf_7cf53 s0 a0 0 μ).bind (fun r1 => some (r1.1, r1.2))
set_option maxRecDepth 100000 in
set_option maxHeartbeats 4000000 in
theorem ct_J0_indexOf_0f7a4 (l : Launch) (G : vr_G) {s0 : Nat} (hi_s0 : s0 < 17) (a0 : Int) (h_a0 : vr_R a0) (μ : vr_M) : vr_CI l yJ0_indexOf_0f7a4 cJ0_indexOf_0f7a4 2 (some .int) ({ frames := 3, cells := 0, slots := 0, locals := 70 } : Room) G [.ref (vr_ak G s0), .int (vr_I a0)] μ (fJ0_indexOf_0f7a4 s0 a0 μ) := by
  refine vr_start (own := RJ0) (by decide) rfl (Nat.le_of_ble_eq_true rfl) (fun p e s m args below meth c C0 => ?_)
  show vr_J p l e _ s m args below meth c 2 0 0 G (vr_Z (vr_QI G) G args s below) 0 [(0, .ref (vr_ak G s0)), (1, .int (vr_I a0))] [] μ _
  unfold fJ0_indexOf_0f7a4
  refine jr_aload_n C0 0 dJ0_indexOf_0f7a4_0 rfl rfl ?_
  refine jr_iload_n C0 1 dJ0_indexOf_0f7a4_1 rfl rfl ?_
  refine jr_iconst C0 dJ0_indexOf_0f7a4_2 ?_
  refine jr_strI C0 hi_s0 (ct_J0_indexOf_7cf53 l G hi_s0 a0 h_a0 0 (⟨by decide, by decide⟩) _) mi_J0_indexOf_7cf53 wm_J0_633 ⟨Nat.le_of_ble_eq_true rfl, Nat.le_of_ble_eq_true rfl⟩ ⟨rfl, rfl⟩ (As := [.int (vr_I a0), .int (vr_I 0)]) rfl (st := []) rfl (Nat.le_of_ble_eq_true rfl) dJ0_indexOf_0f7a4_3 (fun r1 hr1 => ?_)
  exact jr_iret C0 hr1 dJ0_indexOf_0f7a4_6
theorem dX6_takeOf_0 : decode cX6_takeOf 0 = .ok (.aload_n 1, 1) := by decide +kernel
theorem dX6_takeOf_1 : decode cX6_takeOf 1 = .ok (.aload_n 0, 1) := by decide +kernel
theorem dX6_takeOf_2 : decode cX6_takeOf 2 = .ok (.getfield 9, 3) := by decide +kernel
theorem dX6_takeOf_5 : decode cX6_takeOf 5 = .ok (.aload_n 0, 1) := by decide +kernel
theorem dX6_takeOf_6 : decode cX6_takeOf 6 = .ok (.getfield 24, 3) := by decide +kernel
theorem dX6_takeOf_9 : decode cX6_takeOf 9 = .ok (.invokevirtual 94, 3) := by decide +kernel
theorem dX6_takeOf_12 : decode cX6_takeOf 12 = .ok (.i2c, 1) := by decide +kernel
theorem dX6_takeOf_13 : decode cX6_takeOf 13 = .ok (.invokevirtual 101, 3) := by decide +kernel
theorem dX6_takeOf_16 : decode cX6_takeOf 16 = .ok (.istore_n 2, 1) := by decide +kernel
theorem dX6_takeOf_17 : decode cX6_takeOf 17 = .ok (.iload_n 2, 1) := by decide +kernel
theorem dX6_takeOf_18 : decode cX6_takeOf 18 = .ok (.ifCond .lt 13, 3) := by decide +kernel
theorem dX6_takeOf_21 : decode cX6_takeOf 21 = .ok (.aload_n 0, 1) := by decide +kernel
theorem dX6_takeOf_22 : decode cX6_takeOf 22 = .ok (.dup, 1) := by decide +kernel
theorem dX6_takeOf_23 : decode cX6_takeOf 23 = .ok (.getfield 24, 3) := by decide +kernel
theorem dX6_takeOf_26 : decode cX6_takeOf 26 = .ok (.iconst 1, 1) := by decide +kernel
theorem dX6_takeOf_27 : decode cX6_takeOf 27 = .ok (.iadd, 1) := by decide +kernel
theorem dX6_takeOf_28 : decode cX6_takeOf 28 = .ok (.putfield 24, 3) := by decide +kernel
theorem dX6_takeOf_31 : decode cX6_takeOf 31 = .ok (.iload_n 2, 1) := by decide +kernel
theorem dX6_takeOf_32 : decode cX6_takeOf 32 = .ok (.ireturn, 1) := by decide +kernel
def fX6_takeOf_B31 (s1 : Nat) (x2 : Int) (μ : vr_M) : Option (Int × vr_M) :=
  some (x2, μ)
def fX6_takeOf (s1 : Nat) (μ : vr_M) : Option (Int × vr_M) :=
  vr_gd (vr_R (μ 50 2)) ((fX4_at 13 (μ 50 2) μ).bind (fun r2 => (fJ0_indexOf_0f7a4 s1 (vr_i2c r2.1) r2.2).bind (fun r3 => if r3.1 < 0 then fX6_takeOf_B31 s1 r3.1 r3.2 else fX6_takeOf_B31 s1 r3.1 (vr_u r3.2 50 2 ((r3.2 50 2) + 1)))))
set_option maxRecDepth 100000 in
set_option maxHeartbeats 4000000 in
theorem ct_X6_takeOf (l : Launch) (G : vr_G) {s1 : Nat} (hi_s1 : s1 < 17) (μ : vr_M) : vr_CI l yX6_takeOf cX6_takeOf 3 (some .int) ({ frames := 4, cells := 0, slots := 0, locals := 91 } : Room) G [.ref (vr_ad G 50), .ref (vr_ak G s1)] μ (fX6_takeOf s1 μ) := by
  refine vr_start (own := RX6) (by decide) rfl (Nat.le_of_ble_eq_true rfl) (fun p e s m args below meth c C0 => ?_)
  show vr_J p l e _ s m args below meth c 3 0 0 G (vr_Z (vr_QI G) G args s below) 0 [(0, .ref (vr_ad G 50)), (1, .ref (vr_ak G s1))] [] μ _
  have B31 : ∀ (x2 : Int) (h_x2 : vr_R x2) (μ : vr_M), vr_J p l e ({ frames := 4, cells := 0, slots := 0, locals := 91 } : Room) s m args below meth c 3 0 0 G (vr_Z (vr_QI G) G args s below) 31 [(2, .int (vr_I x2))] [] μ (fX6_takeOf_B31 s1 x2 μ) := by
    intro x2 h_x2 μ
    unfold fX6_takeOf_B31
    refine jr_iload_n C0 0 dX6_takeOf_31 rfl rfl ?_
    exact jr_iret C0 h_x2 dX6_takeOf_32
  unfold fX6_takeOf
  refine jr_aload_n C0 1 dX6_takeOf_0 rfl rfl ?_
  refine jr_aload_n C0 0 dX6_takeOf_1 rfl rfl ?_
  refine jr_getr C0 (by decide) kd_50 (by decide) rfl wx_X6 (i := 0) (by decide) wf_X6_9 (j := 13) rfl dX6_takeOf_2 ?_
  refine jr_aload_n C0 0 dX6_takeOf_5 rfl rfl ?_
  refine jr_geti C0 (by decide) kd_50 (by decide) rfl wx_X6 (i := 2) (by decide) wf_X6_24 rfl dX6_takeOf_6 ?_
  refine jr_gd (fun g1 => ?_)
  refine jr_vI C0 (by decide) kd_13 (by decide) rfl (ct_X4_at l G (by decide) kd_13 (μ 50 2) g1 _) mi_X4_at wm_X6_94 ⟨Nat.le_of_ble_eq_true rfl, Nat.le_of_ble_eq_true rfl⟩ ⟨rfl, rfl⟩ (As := [.int (vr_I (μ 50 2))]) rfl (st := [.ref (vr_ak G s1)]) rfl (Nat.le_of_ble_eq_true rfl) dX6_takeOf_9 (fun r2 hr2 => ?_)
  refine jr_i2c C0 dX6_takeOf_12 ?_
  refine jr_strI C0 hi_s1 (ct_J0_indexOf_0f7a4 l G hi_s1 (vr_i2c r2.1) (vr_RT _) _) mi_J0_indexOf_0f7a4 wm_X6_101 ⟨Nat.le_of_ble_eq_true rfl, Nat.le_of_ble_eq_true rfl⟩ ⟨rfl, rfl⟩ (As := [.int (vr_I (vr_i2c r2.1))]) rfl (st := []) rfl (Nat.le_of_ble_eq_true rfl) dX6_takeOf_13 (fun r3 hr3 => ?_)
  refine jr_istore_n C0 dX6_takeOf_16 rfl (by decide) (lv' := [(2, .int (vr_I r3.1)), (0, .ref (vr_ad G 50)), (1, .ref (vr_ak G s1))]) rfl ?_
  refine jr_iload_n C0 0 dX6_takeOf_17 rfl rfl ?_
  refine jr_if_lt C0 hr3 dX6_takeOf_18 (tgt := 31) (by decide) ?_ ?_
  · refine jr_sub [0] rfl ?_
    exact B31 r3.1 hr3 _
  refine jr_aload_n C0 1 dX6_takeOf_21 rfl rfl ?_
  refine jr_dup C0 rfl dX6_takeOf_22 ?_
  refine jr_geti C0 (by decide) kd_50 (by decide) rfl wx_X6 (i := 2) (by decide) wf_X6_24 rfl dX6_takeOf_23 ?_
  refine jr_iconst C0 dX6_takeOf_26 ?_
  refine jr_iadd C0 dX6_takeOf_27 ?_
  refine jr_puti C0 (by decide) kd_50 (by decide) rfl wx_X6 (i := 2) (by decide) wf_X6_24 rfl tyX6_ok nmX6 rfl rfl rfl dX6_takeOf_28 ?_
  refine jr_sub [0] rfl ?_
  exact B31 r3.1 hr3 _
theorem dX6_readNumber_0 : decode cX6_readNumber 0 = .ok (.aload_n 0, 1) := by decide +kernel
theorem dX6_readNumber_1 : decode cX6_readNumber 1 = .ok (.ldc 104, 2) := by decide +kernel
theorem dX6_readNumber_3 : decode cX6_readNumber 3 = .ok (.invokevirtual 106, 3) := by decide +kernel
theorem dX6_readNumber_6 : decode cX6_readNumber 6 = .ok (.istore_n 1, 1) := by decide +kernel
theorem dX6_readNumber_7 : decode cX6_readNumber 7 = .ok (.iload_n 1, 1) := by decide +kernel
theorem dX6_readNumber_8 : decode cX6_readNumber 8 = .ok (.ifCond .gt 7, 3) := by decide +kernel
theorem dX6_readNumber_11 : decode cX6_readNumber 11 = .ok (.iconst (-1), 1) := by decide +kernel
theorem dX6_readNumber_12 : decode cX6_readNumber 12 = .ok (.goto 9, 3) := by decide +kernel
theorem dX6_readNumber_15 : decode cX6_readNumber 15 = .ok (.aload_n 0, 1) := by decide +kernel
theorem dX6_readNumber_16 : decode cX6_readNumber 16 = .ok (.ldc 104, 2) := by decide +kernel
theorem dX6_readNumber_18 : decode cX6_readNumber 18 = .ok (.invokevirtual 106, 3) := by decide +kernel
theorem dX6_readNumber_21 : decode cX6_readNumber 21 = .ok (.istore_n 2, 1) := by decide +kernel
theorem dX6_readNumber_22 : decode cX6_readNumber 22 = .ok (.iload_n 2, 1) := by decide +kernel
theorem dX6_readNumber_23 : decode cX6_readNumber 23 = .ok (.ifCond .ge 7, 3) := by decide +kernel
theorem dX6_readNumber_26 : decode cX6_readNumber 26 = .ok (.iload_n 1, 1) := by decide +kernel
theorem dX6_readNumber_27 : decode cX6_readNumber 27 = .ok (.goto 9, 3) := by decide +kernel
theorem dX6_readNumber_30 : decode cX6_readNumber 30 = .ok (.iload_n 1, 1) := by decide +kernel
theorem dX6_readNumber_31 : decode cX6_readNumber 31 = .ok (.bipush 10, 2) := by decide +kernel
theorem dX6_readNumber_33 : decode cX6_readNumber 33 = .ok (.imul, 1) := by decide +kernel
theorem dX6_readNumber_34 : decode cX6_readNumber 34 = .ok (.iload_n 2, 1) := by decide +kernel
theorem dX6_readNumber_35 : decode cX6_readNumber 35 = .ok (.iadd, 1) := by decide +kernel
theorem dX6_readNumber_36 : decode cX6_readNumber 36 = .ok (.ireturn, 1) := by decide +kernel
def fX6_readNumber_B36 (y0 : Int) (μ : vr_M) : Option (Int × vr_M) :=
  some (y0, μ)
def fX6_readNumber_B21 (x1 : Int) (y0 : Int) (μ : vr_M) : Option (Int × vr_M) :=
  if 0 ≤ y0 then vr_gd (vr_R ((x1 * 10) + y0)) (fX6_readNumber_B36 ((x1 * 10) + y0) μ) else fX6_readNumber_B36 x1 μ
def fX6_readNumber (μ : vr_M) : Option (Int × vr_M) :=
  (fX6_takeOf 8 μ).bind (fun r2 => if 0 < r2.1 then (fX6_takeOf 8 r2.2).bind (fun r3 => fX6_readNumber_B21 r2.1 r3.1 r3.2) else fX6_readNumber_B21 r2.1 (-1) r2.2)
set_option maxRecDepth 100000 in
set_option maxHeartbeats 4000000 in
theorem ct_X6_readNumber (l : Launch) (G : vr_G) (μ : vr_M) : vr_CI l yX6_readNumber cX6_readNumber 3 (some .int) ({ frames := 5, cells := 0, slots := 0, locals := 113 } : Room) G [.ref (vr_ad G 50)] μ (fX6_readNumber μ) := by
  refine vr_start (own := RX6) (by decide) rfl (Nat.le_of_ble_eq_true rfl) (fun p e s m args below meth c C0 => ?_)
  show vr_J p l e _ s m args below meth c 3 0 0 G (vr_Z (vr_QI G) G args s below) 0 [(0, .ref (vr_ad G 50))] [] μ _
  have B36 : ∀ (y0 : Int) (h_y0 : vr_R y0) (μ : vr_M), vr_J p l e ({ frames := 5, cells := 0, slots := 0, locals := 113 } : Room) s m args below meth c 3 0 0 G (vr_Z (vr_QI G) G args s below) 36 [] [.int (vr_I y0)] μ (fX6_readNumber_B36 y0 μ) := by
    intro y0 h_y0 μ
    unfold fX6_readNumber_B36
    exact jr_iret C0 h_y0 dX6_readNumber_36
  have B21 : ∀ (x1 : Int) (h_x1 : vr_R x1) (y0 : Int) (h_y0 : vr_R y0) (μ : vr_M), vr_J p l e ({ frames := 5, cells := 0, slots := 0, locals := 113 } : Room) s m args below meth c 3 0 0 G (vr_Z (vr_QI G) G args s below) 21 [(1, .int (vr_I x1))] [.int (vr_I y0)] μ (fX6_readNumber_B21 x1 y0 μ) := by
    intro x1 h_x1 y0 h_y0 μ
    unfold fX6_readNumber_B21
    refine jr_istore_n C0 dX6_readNumber_21 rfl (by decide) (lv' := [(2, .int (vr_I y0)), (1, .int (vr_I x1))]) rfl ?_
    refine jr_iload_n C0 0 dX6_readNumber_22 rfl rfl ?_
    refine jr_if_ge C0 h_y0 dX6_readNumber_23 (tgt := 30) (by decide) ?_ ?_
    · refine jr_iload_n C0 1 dX6_readNumber_30 rfl rfl ?_
      refine jr_bipush C0 dX6_readNumber_31 rfl ?_
      refine jr_imul C0 dX6_readNumber_33 ?_
      refine jr_iload_n C0 0 dX6_readNumber_34 rfl rfl ?_
      refine jr_iadd C0 dX6_readNumber_35 ?_
      refine jr_gd (fun g1 => ?_)
      refine jr_sub [] rfl ?_
      exact B36 ((x1 * 10) + y0) g1 _
    refine jr_iload_n C0 1 dX6_readNumber_26 rfl rfl ?_
    refine jr_goto C0 dX6_readNumber_27 (tgt := 36) (by decide) ?_
    refine jr_sub [] rfl ?_
    exact B36 x1 h_x1 _
  unfold fX6_readNumber
  refine jr_aload_n C0 0 dX6_readNumber_0 rfl rfl ?_
  refine jr_ldcS C0 (i := 8) (by decide) rfl rfl dX6_readNumber_1 ?_
  refine jr_vI C0 (by decide) kd_50 (by decide) rfl (ct_X6_takeOf l G (by decide) _) mi_X6_takeOf wm_X6_106 ⟨Nat.le_of_ble_eq_true rfl, Nat.le_of_ble_eq_true rfl⟩ ⟨rfl, rfl⟩ (As := [.ref (vr_ak G 8)]) rfl (st := []) rfl (Nat.le_of_ble_eq_true rfl) dX6_readNumber_3 (fun r2 hr2 => ?_)
  refine jr_istore_n C0 dX6_readNumber_6 rfl (by decide) (lv' := [(1, .int (vr_I r2.1)), (0, .ref (vr_ad G 50))]) rfl ?_
  refine jr_iload_n C0 0 dX6_readNumber_7 rfl rfl ?_
  refine jr_if_gt C0 hr2 dX6_readNumber_8 (tgt := 15) (by decide) ?_ ?_
  · refine jr_aload_n C0 1 dX6_readNumber_15 rfl rfl ?_
    refine jr_ldcS C0 (i := 8) (by decide) rfl rfl dX6_readNumber_16 ?_
    refine jr_vI C0 (by decide) kd_50 (by decide) rfl (ct_X6_takeOf l G (by decide) _) mi_X6_takeOf wm_X6_106 ⟨Nat.le_of_ble_eq_true rfl, Nat.le_of_ble_eq_true rfl⟩ ⟨rfl, rfl⟩ (As := [.ref (vr_ak G 8)]) rfl (st := []) rfl (Nat.le_of_ble_eq_true rfl) dX6_readNumber_18 (fun r3 hr3 => ?_)
    refine jr_sub [0] rfl ?_
    exact B21 r2.1 hr2 r3.1 hr3 _
  refine jr_iconst C0 dX6_readNumber_11 ?_
  refine jr_goto C0 dX6_readNumber_12 (tgt := 21) (by decide) ?_
  refine jr_sub [0] rfl ?_
  exact B21 r2.1 hr2 (-1) (⟨by decide, by decide⟩) _
theorem dX6_readOne_0 : decode cX6_readOne 0 = .ok (.aload_n 0, 1) := by decide +kernel
theorem dX6_readOne_1 : decode cX6_readOne 1 = .ok (.bipush 33, 2) := by decide +kernel
theorem dX6_readOne_3 : decode cX6_readOne 3 = .ok (.invokevirtual 112, 3) := by decide +kernel
theorem dX6_readOne_6 : decode cX6_readOne 6 = .ok (.ifCond .ne 12, 3) := by decide +kernel
theorem dX6_readOne_9 : decode cX6_readOne 9 = .ok (.aload_n 0, 1) := by decide +kernel
theorem dX6_readOne_10 : decode cX6_readOne 10 = .ok (.bipush 40, 2) := by decide +kernel
theorem dX6_readOne_12 : decode cX6_readOne 12 = .ok (.invokevirtual 112, 3) := by decide +kernel
theorem dX6_readOne_15 : decode cX6_readOne 15 = .ok (.ifCond .eq 24, 3) := by decide +kernel
theorem dX6_readOne_18 : decode cX6_readOne 18 = .ok (.iload_n 1, 1) := by decide +kernel
theorem dX6_readOne_19 : decode cX6_readOne 19 = .ok (.iconst 5, 1) := by decide +kernel
theorem dX6_readOne_20 : decode cX6_readOne 20 = .ok (.if_icmp .ge 17, 3) := by decide +kernel
theorem dX6_readOne_23 : decode cX6_readOne 23 = .ok (.aload_n 0, 1) := by decide +kernel
theorem dX6_readOne_24 : decode cX6_readOne 24 = .ok (.iload_n 1, 1) := by decide +kernel
theorem dX6_readOne_25 : decode cX6_readOne 25 = .ok (.iconst 1, 1) := by decide +kernel
theorem dX6_readOne_26 : decode cX6_readOne 26 = .ok (.iadd, 1) := by decide +kernel
theorem dX6_readOne_27 : decode cX6_readOne 27 = .ok (.invokevirtual 118, 3) := by decide +kernel
theorem dX6_readOne_30 : decode cX6_readOne 30 = .ok (.ifCond .eq 7, 3) := by decide +kernel
theorem dX6_readOne_33 : decode cX6_readOne 33 = .ok (.iconst 1, 1) := by decide +kernel
theorem dX6_readOne_34 : decode cX6_readOne 34 = .ok (.goto 4, 3) := by decide +kernel
theorem dX6_readOne_37 : decode cX6_readOne 37 = .ok (.iconst 0, 1) := by decide +kernel
theorem dX6_readOne_38 : decode cX6_readOne 38 = .ok (.ireturn, 1) := by decide +kernel
theorem dX6_readOne_39 : decode cX6_readOne 39 = .ok (.aload_n 0, 1) := by decide +kernel
theorem dX6_readOne_40 : decode cX6_readOne 40 = .ok (.ldc 121, 2) := by decide +kernel
theorem dX6_readOne_42 : decode cX6_readOne 42 = .ok (.invokevirtual 106, 3) := by decide +kernel
theorem dX6_readOne_45 : decode cX6_readOne 45 = .ok (.istore_n 2, 1) := by decide +kernel
theorem dX6_readOne_46 : decode cX6_readOne 46 = .ok (.iload_n 2, 1) := by decide +kernel
theorem dX6_readOne_47 : decode cX6_readOne 47 = .ok (.ifCond .ge 7, 3) := by decide +kernel
theorem dX6_readOne_50 : decode cX6_readOne 50 = .ok (.iconst (-1), 1) := by decide +kernel
theorem dX6_readOne_51 : decode cX6_readOne 51 = .ok (.goto 9, 3) := by decide +kernel
theorem dX6_readOne_54 : decode cX6_readOne 54 = .ok (.aload_n 0, 1) := by decide +kernel
theorem dX6_readOne_55 : decode cX6_readOne 55 = .ok (.ldc 123, 2) := by decide +kernel
theorem dX6_readOne_57 : decode cX6_readOne 57 = .ok (.invokevirtual 106, 3) := by decide +kernel
theorem dX6_readOne_60 : decode cX6_readOne 60 = .ok (.istore_n 3, 1) := by decide +kernel
theorem dX6_readOne_61 : decode cX6_readOne 61 = .ok (.iload_n 3, 1) := by decide +kernel
theorem dX6_readOne_62 : decode cX6_readOne 62 = .ok (.ifCond .ge 7, 3) := by decide +kernel
theorem dX6_readOne_65 : decode cX6_readOne 65 = .ok (.iconst (-1), 1) := by decide +kernel
theorem dX6_readOne_66 : decode cX6_readOne 66 = .ok (.goto 7, 3) := by decide +kernel
theorem dX6_readOne_69 : decode cX6_readOne 69 = .ok (.aload_n 0, 1) := by decide +kernel
theorem dX6_readOne_70 : decode cX6_readOne 70 = .ok (.invokevirtual 52, 3) := by decide +kernel
theorem dX6_readOne_73 : decode cX6_readOne 73 = .ok (.istore 4, 2) := by decide +kernel
theorem dX6_readOne_75 : decode cX6_readOne 75 = .ok (.iload 4, 2) := by decide +kernel
theorem dX6_readOne_77 : decode cX6_readOne 77 = .ok (.ifCond .ge 5, 3) := by decide +kernel
theorem dX6_readOne_80 : decode cX6_readOne 80 = .ok (.iconst 0, 1) := by decide +kernel
theorem dX6_readOne_81 : decode cX6_readOne 81 = .ok (.ireturn, 1) := by decide +kernel
theorem dX6_readOne_82 : decode cX6_readOne 82 = .ok (.aload_n 0, 1) := by decide +kernel
theorem dX6_readOne_83 : decode cX6_readOne 83 = .ok (.getfield 15, 3) := by decide +kernel
theorem dX6_readOne_86 : decode cX6_readOne 86 = .ok (.iload_n 2, 1) := by decide +kernel
theorem dX6_readOne_87 : decode cX6_readOne 87 = .ok (.iload_n 3, 1) := by decide +kernel
theorem dX6_readOne_88 : decode cX6_readOne 88 = .ok (.iload 4, 2) := by decide +kernel
theorem dX6_readOne_90 : decode cX6_readOne 90 = .ok (.invokestatic 125, 3) := by decide +kernel
theorem dX6_readOne_93 : decode cX6_readOne 93 = .ok (.invokevirtual 115, 3) := by decide +kernel
theorem dX6_readOne_96 : decode cX6_readOne 96 = .ok (.iconst 1, 1) := by decide +kernel
theorem dX6_readOne_97 : decode cX6_readOne 97 = .ok (.ireturn, 1) := by decide +kernel
def fX6_readOne_B38 (rc : Int → vr_M → Option (Int × vr_M)) (y0 : Int) (μ : vr_M) : Option (Int × vr_M) :=
  vr_gd (y0 = 0 ∨ y0 = 1) (some (y0, μ))
def fX6_readOne_B37 (rc : Int → vr_M → Option (Int × vr_M)) (μ : vr_M) : Option (Int × vr_M) :=
  fX6_readOne_B38 rc 0 μ
def fX6_readOne_B18 (rc : Int → vr_M → Option (Int × vr_M)) (x1 : Int) (μ : vr_M) : Option (Int × vr_M) :=
  if 5 ≤ x1 then fX6_readOne_B37 rc μ else vr_gd (vr_R (x1 + 1)) ((rc (x1 + 1) μ).bind (fun r3 => if r3.1 = 0 then fX6_readOne_B37 rc r3.2 else fX6_readOne_B38 rc 1 r3.2))
def fX6_readOne_B73 (rc : Int → vr_M → Option (Int × vr_M)) (x2 : Int) (x3 : Int) (y0 : Int) (μ : vr_M) : Option (Int × vr_M) :=
  if 0 ≤ y0 then (fX3_testStep x2 x3 y0 μ).bind (fun r4 => (fX3_putStep 45 r4.1 r4.2).bind (fun r5 => some (1, r5.2))) else some (0, μ)
def fX6_readOne_B60 (rc : Int → vr_M → Option (Int × vr_M)) (x2 : Int) (y0 : Int) (μ : vr_M) : Option (Int × vr_M) :=
  if 0 ≤ y0 then (fX6_readNumber  μ).bind (fun r6 => fX6_readOne_B73 rc x2 y0 r6.1 r6.2) else fX6_readOne_B73 rc x2 y0 (-1) μ
def fX6_readOne (rc : Int → vr_M → Option (Int × vr_M)) (a0 : Int) (μ : vr_M) : Option (Int × vr_M) :=
  (fX6_sees 33 μ).bind (fun r7 => if ¬ r7.1 = 0 then fX6_readOne_B18 rc a0 r7.2 else (fX6_sees 40 r7.2).bind (fun r8 => if r8.1 = 0 then (fX6_takeOf 6 r8.2).bind (fun r9 => if 0 ≤ r9.1 then (fX6_takeOf 7 r9.2).bind (fun r10 => fX6_readOne_B60 rc r9.1 r10.1 r10.2) else fX6_readOne_B60 rc r9.1 (-1) r9.2) else fX6_readOne_B18 rc a0 r8.2))
set_option maxRecDepth 100000 in
set_option maxHeartbeats 4000000 in
theorem ct_X6_readOne (l : Launch) (G : vr_G) {d : Nat} {rc : Int → vr_M → Option (Int × vr_M)} (hrc : ∀ (a0 : Int) (_ : vr_R a0) (μ : vr_M), vr_CI l yX6_readOpen cX6_readOpen 3 (some .boolean) ({ frames := 3 * d + 10, cells := 0, slots := 0, locals := 100 * d + 300 } : Room) G [.ref (vr_ad G 50), .int (vr_I a0)] μ (rc a0 μ)) (a0 : Int) (h_a0 : vr_R a0) (μ : vr_M) : vr_CI l yX6_readOne cX6_readOne 5 (some .boolean) ({ frames := 3 * d + 11, cells := 0, slots := 0, locals := 100 * d + 330 } : Room) G [.ref (vr_ad G 50), .int (vr_I a0)] μ (fX6_readOne rc a0 μ) := by
  refine vr_start (own := RX6) (by decide) rfl (Nat.le_of_ble_eq_true rfl) (fun p e s m args below meth c C0 => ?_)
  show vr_J p l e _ s m args below meth c 5 0 0 G (vr_Z (vr_QI G) G args s below) 0 [(0, .ref (vr_ad G 50)), (1, .int (vr_I a0))] [] μ _
  have B38 : ∀ (y0 : Int) (h_y0 : vr_R y0) (μ : vr_M), vr_J p l e ({ frames := 3 * d + 11, cells := 0, slots := 0, locals := 100 * d + 330 } : Room) s m args below meth c 5 0 0 G (vr_Z (vr_QI G) G args s below) 38 [] [.int (vr_I y0)] μ (fX6_readOne_B38 rc y0 μ) := by
    intro y0 h_y0 μ
    unfold fX6_readOne_B38
    refine jr_gd (fun g1 => ?_)
    exact jr_zret C0 h_y0 (vr_nz g1) dX6_readOne_38
  have B37 : ∀ (μ : vr_M), vr_J p l e ({ frames := 3 * d + 11, cells := 0, slots := 0, locals := 100 * d + 330 } : Room) s m args below meth c 5 0 0 G (vr_Z (vr_QI G) G args s below) 37 [] [] μ (fX6_readOne_B37 rc μ) := by
    intro μ
    unfold fX6_readOne_B37
    refine jr_iconst C0 dX6_readOne_37 ?_
    exact B38 0 (⟨by decide, by decide⟩) _
  have B18 : ∀ (x1 : Int) (h_x1 : vr_R x1) (μ : vr_M), vr_J p l e ({ frames := 3 * d + 11, cells := 0, slots := 0, locals := 100 * d + 330 } : Room) s m args below meth c 5 0 0 G (vr_Z (vr_QI G) G args s below) 18 [(0, .ref (vr_ad G 50)), (1, .int (vr_I x1))] [] μ (fX6_readOne_B18 rc x1 μ) := by
    intro x1 h_x1 μ
    unfold fX6_readOne_B18
    refine jr_iload_n C0 1 dX6_readOne_18 rfl rfl ?_
    refine jr_iconst C0 dX6_readOne_19 ?_
    refine jr_icmp_ge C0 h_x1 (⟨by decide, by decide⟩) dX6_readOne_20 (tgt := 37) (by decide) ?_ ?_
    · refine jr_sub [] rfl ?_
      exact B37 _
    refine jr_aload_n C0 0 dX6_readOne_23 rfl rfl ?_
    refine jr_iload_n C0 1 dX6_readOne_24 rfl rfl ?_
    refine jr_iconst C0 dX6_readOne_25 ?_
    refine jr_iadd C0 dX6_readOne_26 ?_
    refine jr_gd (fun g2 => ?_)
    refine jr_vI C0 (by decide) kd_50 (by decide) rfl (hrc (x1 + 1) g2 _) mi_X6_readOpen wm_X6_118 ⟨by dsimp only; omega, by dsimp only; omega⟩ ⟨rfl, rfl⟩ (As := [.int (vr_I (x1 + 1))]) rfl (st := []) rfl (Nat.le_of_ble_eq_true rfl) dX6_readOne_27 (fun r3 hr3 => ?_)
    refine jr_if_eq C0 hr3 dX6_readOne_30 (tgt := 37) (by decide) ?_ ?_
    · refine jr_sub [] rfl ?_
      exact B37 _
    refine jr_iconst C0 dX6_readOne_33 ?_
    refine jr_goto C0 dX6_readOne_34 (tgt := 38) (by decide) ?_
    refine jr_sub [] rfl ?_
    exact B38 1 (⟨by decide, by decide⟩) _
  have B73 : ∀ (x2 : Int) (h_x2 : vr_R x2) (x3 : Int) (h_x3 : vr_R x3) (y0 : Int) (h_y0 : vr_R y0) (μ : vr_M), vr_J p l e ({ frames := 3 * d + 11, cells := 0, slots := 0, locals := 100 * d + 330 } : Room) s m args below meth c 5 0 0 G (vr_Z (vr_QI G) G args s below) 73 [(0, .ref (vr_ad G 50)), (2, .int (vr_I x2)), (3, .int (vr_I x3))] [.int (vr_I y0)] μ (fX6_readOne_B73 rc x2 x3 y0 μ) := by
    intro x2 h_x2 x3 h_x3 y0 h_y0 μ
    unfold fX6_readOne_B73
    refine jr_istore C0 dX6_readOne_73 (by decide) (lv' := [(4, .int (vr_I y0)), (0, .ref (vr_ad G 50)), (2, .int (vr_I x2)), (3, .int (vr_I x3))]) rfl ?_
    refine jr_iload C0 0 dX6_readOne_75 rfl ?_
    refine jr_if_ge C0 h_y0 dX6_readOne_77 (tgt := 82) (by decide) ?_ ?_
    · refine jr_aload_n C0 1 dX6_readOne_82 rfl rfl ?_
      refine jr_getr C0 (by decide) kd_50 (by decide) rfl wx_X6 (i := 1) (by decide) wf_X6_15 (j := 45) rfl dX6_readOne_83 ?_
      refine jr_iload_n C0 2 dX6_readOne_86 rfl rfl ?_
      refine jr_iload_n C0 3 dX6_readOne_87 rfl rfl ?_
      refine jr_iload C0 0 dX6_readOne_88 rfl ?_
      refine jr_sI C0 (ct_X3_testStep l G x2 h_x2 x3 h_x3 y0 h_y0 _) mi_X3_testStep wm_X6_125 ⟨by dsimp only; omega, by dsimp only; omega⟩ ⟨rfl, rfl⟩ (As := [.int (vr_I x2), .int (vr_I x3), .int (vr_I y0)]) rfl (st := [.ref (vr_ad G 45)]) rfl (Nat.le_of_ble_eq_true rfl) dX6_readOne_90 (fun r4 hr4 => ?_)
      refine jr_vV0 C0 (by decide) kd_45 (by decide) rfl (ct_X3_putStep l G (by decide) kd_45 r4.1 hr4 _) mi_X3_putStep wm_X6_115 ⟨by dsimp only; omega, by dsimp only; omega⟩ ⟨rfl, rfl⟩ (As := [.int (vr_I r4.1)]) rfl (st := []) rfl (Nat.le_of_ble_eq_true rfl) dX6_readOne_93 (fun r5 => ?_)
      refine jr_iconst C0 dX6_readOne_96 ?_
      exact jr_zret C0 (⟨by decide, by decide⟩) (vr_nz (Or.inr rfl)) dX6_readOne_97
    refine jr_iconst C0 dX6_readOne_80 ?_
    exact jr_zret C0 (⟨by decide, by decide⟩) (vr_nz (Or.inl rfl)) dX6_readOne_81
  have B60 : ∀ (x2 : Int) (h_x2 : vr_R x2) (y0 : Int) (h_y0 : vr_R y0) (μ : vr_M), vr_J p l e ({ frames := 3 * d + 11, cells := 0, slots := 0, locals := 100 * d + 330 } : Room) s m args below meth c 5 0 0 G (vr_Z (vr_QI G) G args s below) 60 [(0, .ref (vr_ad G 50)), (2, .int (vr_I x2))] [.int (vr_I y0)] μ (fX6_readOne_B60 rc x2 y0 μ) := by
    intro x2 h_x2 y0 h_y0 μ
    unfold fX6_readOne_B60
    refine jr_istore_n C0 dX6_readOne_60 rfl (by decide) (lv' := [(3, .int (vr_I y0)), (0, .ref (vr_ad G 50)), (2, .int (vr_I x2))]) rfl ?_
    refine jr_iload_n C0 0 dX6_readOne_61 rfl rfl ?_
    refine jr_if_ge C0 h_y0 dX6_readOne_62 (tgt := 69) (by decide) ?_ ?_
    · refine jr_aload_n C0 1 dX6_readOne_69 rfl rfl ?_
      refine jr_vI C0 (by decide) kd_50 (by decide) rfl (ct_X6_readNumber l G  _) mi_X6_readNumber wm_X6_52 ⟨by dsimp only; omega, by dsimp only; omega⟩ ⟨rfl, rfl⟩ (As := []) rfl (st := []) rfl (Nat.le_of_ble_eq_true rfl) dX6_readOne_70 (fun r6 hr6 => ?_)
      refine jr_sub [1, 2, 0] rfl ?_
      exact B73 x2 h_x2 y0 h_y0 r6.1 hr6 _
    refine jr_iconst C0 dX6_readOne_65 ?_
    refine jr_goto C0 dX6_readOne_66 (tgt := 73) (by decide) ?_
    refine jr_sub [1, 2, 0] rfl ?_
    exact B73 x2 h_x2 y0 h_y0 (-1) (⟨by decide, by decide⟩) _
  unfold fX6_readOne
  refine jr_aload_n C0 0 dX6_readOne_0 rfl rfl ?_
  refine jr_bipush C0 dX6_readOne_1 rfl ?_
  refine jr_vI C0 (by decide) kd_50 (by decide) rfl (ct_X6_sees l G 33 (⟨by decide, by decide⟩) _) mi_X6_sees wm_X6_112 ⟨by dsimp only; omega, by dsimp only; omega⟩ ⟨rfl, rfl⟩ (As := [.int (vr_I 33)]) rfl (st := []) rfl (Nat.le_of_ble_eq_true rfl) dX6_readOne_3 (fun r7 hr7 => ?_)
  refine jr_if_ne C0 hr7 dX6_readOne_6 (tgt := 18) (by decide) ?_ ?_
  · exact B18 a0 h_a0 _
  refine jr_aload_n C0 0 dX6_readOne_9 rfl rfl ?_
  refine jr_bipush C0 dX6_readOne_10 rfl ?_
  refine jr_vI C0 (by decide) kd_50 (by decide) rfl (ct_X6_sees l G 40 (⟨by decide, by decide⟩) _) mi_X6_sees wm_X6_112 ⟨by dsimp only; omega, by dsimp only; omega⟩ ⟨rfl, rfl⟩ (As := [.int (vr_I 40)]) rfl (st := []) rfl (Nat.le_of_ble_eq_true rfl) dX6_readOne_12 (fun r8 hr8 => ?_)
  refine jr_if_eq C0 hr8 dX6_readOne_15 (tgt := 39) (by decide) ?_ ?_
  · refine jr_aload_n C0 0 dX6_readOne_39 rfl rfl ?_
    refine jr_ldcS C0 (i := 6) (by decide) rfl rfl dX6_readOne_40 ?_
    refine jr_vI C0 (by decide) kd_50 (by decide) rfl (ct_X6_takeOf l G (by decide) _) mi_X6_takeOf wm_X6_106 ⟨by dsimp only; omega, by dsimp only; omega⟩ ⟨rfl, rfl⟩ (As := [.ref (vr_ak G 6)]) rfl (st := []) rfl (Nat.le_of_ble_eq_true rfl) dX6_readOne_42 (fun r9 hr9 => ?_)
    refine jr_istore_n C0 dX6_readOne_45 rfl (by decide) (lv' := [(2, .int (vr_I r9.1)), (0, .ref (vr_ad G 50)), (1, .int (vr_I a0))]) rfl ?_
    refine jr_iload_n C0 0 dX6_readOne_46 rfl rfl ?_
    refine jr_if_ge C0 hr9 dX6_readOne_47 (tgt := 54) (by decide) ?_ ?_
    · refine jr_aload_n C0 1 dX6_readOne_54 rfl rfl ?_
      refine jr_ldcS C0 (i := 7) (by decide) rfl rfl dX6_readOne_55 ?_
      refine jr_vI C0 (by decide) kd_50 (by decide) rfl (ct_X6_takeOf l G (by decide) _) mi_X6_takeOf wm_X6_106 ⟨by dsimp only; omega, by dsimp only; omega⟩ ⟨rfl, rfl⟩ (As := [.ref (vr_ak G 7)]) rfl (st := []) rfl (Nat.le_of_ble_eq_true rfl) dX6_readOne_57 (fun r10 hr10 => ?_)
      refine jr_sub [1, 0] rfl ?_
      exact B60 r9.1 hr9 r10.1 hr10 _
    refine jr_iconst C0 dX6_readOne_50 ?_
    refine jr_goto C0 dX6_readOne_51 (tgt := 60) (by decide) ?_
    refine jr_sub [1, 0] rfl ?_
    exact B60 r9.1 hr9 (-1) (⟨by decide, by decide⟩) _
  exact B18 a0 h_a0 _
theorem dX6_take_0 : decode cX6_take 0 = .ok (.aload_n 0, 1) := by decide +kernel
theorem dX6_take_1 : decode cX6_take 1 = .ok (.getfield 9, 3) := by decide +kernel
theorem dX6_take_4 : decode cX6_take 4 = .ok (.aload_n 0, 1) := by decide +kernel
theorem dX6_take_5 : decode cX6_take 5 = .ok (.getfield 24, 3) := by decide +kernel
theorem dX6_take_8 : decode cX6_take 8 = .ok (.invokevirtual 94, 3) := by decide +kernel
theorem dX6_take_11 : decode cX6_take 11 = .ok (.iload_n 1, 1) := by decide +kernel
theorem dX6_take_12 : decode cX6_take 12 = .ok (.if_icmp .eq 5, 3) := by decide +kernel
theorem dX6_take_15 : decode cX6_take 15 = .ok (.iconst 0, 1) := by decide +kernel
theorem dX6_take_16 : decode cX6_take 16 = .ok (.ireturn, 1) := by decide +kernel
theorem dX6_take_17 : decode cX6_take 17 = .ok (.aload_n 0, 1) := by decide +kernel
theorem dX6_take_18 : decode cX6_take 18 = .ok (.dup, 1) := by decide +kernel
theorem dX6_take_19 : decode cX6_take 19 = .ok (.getfield 24, 3) := by decide +kernel
theorem dX6_take_22 : decode cX6_take 22 = .ok (.iconst 1, 1) := by decide +kernel
theorem dX6_take_23 : decode cX6_take 23 = .ok (.iadd, 1) := by decide +kernel
theorem dX6_take_24 : decode cX6_take 24 = .ok (.putfield 24, 3) := by decide +kernel
theorem dX6_take_27 : decode cX6_take 27 = .ok (.iconst 1, 1) := by decide +kernel
theorem dX6_take_28 : decode cX6_take 28 = .ok (.ireturn, 1) := by decide +kernel
def fX6_take (a0 : Int) (μ : vr_M) : Option (Int × vr_M) :=
  vr_gd (vr_R (μ 50 2)) ((fX4_at 13 (μ 50 2) μ).bind (fun r2 => if r2.1 = a0 then some (1, vr_u r2.2 50 2 ((r2.2 50 2) + 1)) else some (0, r2.2)))
set_option maxRecDepth 100000 in
set_option maxHeartbeats 4000000 in
theorem ct_X6_take (l : Launch) (G : vr_G) (a0 : Int) (h_a0 : vr_R a0) (μ : vr_M) : vr_CI l yX6_take cX6_take 2 (some .boolean) ({ frames := 1, cells := 0, slots := 0, locals := 21 } : Room) G [.ref (vr_ad G 50), .int (vr_I a0)] μ (fX6_take a0 μ) := by
  refine vr_start (own := RX6) (by decide) rfl (Nat.le_of_ble_eq_true rfl) (fun p e s m args below meth c C0 => ?_)
  show vr_J p l e _ s m args below meth c 2 0 0 G (vr_Z (vr_QI G) G args s below) 0 [(0, .ref (vr_ad G 50)), (1, .int (vr_I a0))] [] μ _
  unfold fX6_take
  refine jr_aload_n C0 0 dX6_take_0 rfl rfl ?_
  refine jr_getr C0 (by decide) kd_50 (by decide) rfl wx_X6 (i := 0) (by decide) wf_X6_9 (j := 13) rfl dX6_take_1 ?_
  refine jr_aload_n C0 0 dX6_take_4 rfl rfl ?_
  refine jr_geti C0 (by decide) kd_50 (by decide) rfl wx_X6 (i := 2) (by decide) wf_X6_24 rfl dX6_take_5 ?_
  refine jr_gd (fun g1 => ?_)
  refine jr_vI C0 (by decide) kd_13 (by decide) rfl (ct_X4_at l G (by decide) kd_13 (μ 50 2) g1 _) mi_X4_at wm_X6_94 ⟨Nat.le_of_ble_eq_true rfl, Nat.le_of_ble_eq_true rfl⟩ ⟨rfl, rfl⟩ (As := [.int (vr_I (μ 50 2))]) rfl (st := []) rfl (Nat.le_of_ble_eq_true rfl) dX6_take_8 (fun r2 hr2 => ?_)
  refine jr_iload_n C0 1 dX6_take_11 rfl rfl ?_
  refine jr_icmp_eq C0 hr2 h_a0 dX6_take_12 (tgt := 17) (by decide) ?_ ?_
  · refine jr_aload_n C0 0 dX6_take_17 rfl rfl ?_
    refine jr_dup C0 rfl dX6_take_18 ?_
    refine jr_geti C0 (by decide) kd_50 (by decide) rfl wx_X6 (i := 2) (by decide) wf_X6_24 rfl dX6_take_19 ?_
    refine jr_iconst C0 dX6_take_22 ?_
    refine jr_iadd C0 dX6_take_23 ?_
    refine jr_puti C0 (by decide) kd_50 (by decide) rfl wx_X6 (i := 2) (by decide) wf_X6_24 rfl tyX6_ok nmX6 rfl rfl rfl dX6_take_24 ?_
    refine jr_iconst C0 dX6_take_27 ?_
    exact jr_zret C0 (⟨by decide, by decide⟩) (vr_nz (Or.inr rfl)) dX6_take_28
  refine jr_iconst C0 dX6_take_15 ?_
  exact jr_zret C0 (⟨by decide, by decide⟩) (vr_nz (Or.inl rfl)) dX6_take_16
theorem dX6_readAny_0 : decode cX6_readAny 0 = .ok (.iconst 0, 1) := by decide +kernel
theorem dX6_readAny_1 : decode cX6_readAny 1 = .ok (.istore_n 2, 1) := by decide +kernel
theorem dX6_readAny_2 : decode cX6_readAny 2 = .ok (.aload_n 0, 1) := by decide +kernel
theorem dX6_readAny_3 : decode cX6_readAny 3 = .ok (.iload_n 1, 1) := by decide +kernel
theorem dX6_readAny_4 : decode cX6_readAny 4 = .ok (.invokevirtual 109, 3) := by decide +kernel
theorem dX6_readAny_7 : decode cX6_readAny 7 = .ok (.istore_n 3, 1) := by decide +kernel
theorem dX6_readAny_8 : decode cX6_readAny 8 = .ok (.iconst 0, 1) := by decide +kernel
theorem dX6_readAny_9 : decode cX6_readAny 9 = .ok (.istore 4, 2) := by decide +kernel
theorem dX6_readAny_11 : decode cX6_readAny 11 = .ok (.iload 4, 2) := by decide +kernel
theorem dX6_readAny_13 : decode cX6_readAny 13 = .ok (.bipush 120, 2) := by decide +kernel
theorem dX6_readAny_15 : decode cX6_readAny 15 = .ok (.if_icmp .ge 89, 3) := by decide +kernel
theorem dX6_readAny_18 : decode cX6_readAny 18 = .ok (.iload_n 3, 1) := by decide +kernel
theorem dX6_readAny_19 : decode cX6_readAny 19 = .ok (.ifCond .eq 85, 3) := by decide +kernel
theorem dX6_readAny_22 : decode cX6_readAny 22 = .ok (.aload_n 0, 1) := by decide +kernel
theorem dX6_readAny_23 : decode cX6_readAny 23 = .ok (.bipush 38, 2) := by decide +kernel
theorem dX6_readAny_25 : decode cX6_readAny 25 = .ok (.invokevirtual 112, 3) := by decide +kernel
theorem dX6_readAny_28 : decode cX6_readAny 28 = .ok (.ifCond .ne 12, 3) := by decide +kernel
theorem dX6_readAny_31 : decode cX6_readAny 31 = .ok (.aload_n 0, 1) := by decide +kernel
theorem dX6_readAny_32 : decode cX6_readAny 32 = .ok (.bipush 124, 2) := by decide +kernel
theorem dX6_readAny_34 : decode cX6_readAny 34 = .ok (.invokevirtual 112, 3) := by decide +kernel
theorem dX6_readAny_37 : decode cX6_readAny 37 = .ok (.ifCond .eq 67, 3) := by decide +kernel
theorem dX6_readAny_40 : decode cX6_readAny 40 = .ok (.aload_n 0, 1) := by decide +kernel
theorem dX6_readAny_41 : decode cX6_readAny 41 = .ok (.bipush 38, 2) := by decide +kernel
theorem dX6_readAny_43 : decode cX6_readAny 43 = .ok (.invokevirtual 37, 3) := by decide +kernel
theorem dX6_readAny_46 : decode cX6_readAny 46 = .ok (.istore 5, 2) := by decide +kernel
theorem dX6_readAny_48 : decode cX6_readAny 48 = .ok (.iload 5, 2) := by decide +kernel
theorem dX6_readAny_50 : decode cX6_readAny 50 = .ok (.ifCond .ne 28, 3) := by decide +kernel
theorem dX6_readAny_53 : decode cX6_readAny 53 = .ok (.aload_n 0, 1) := by decide +kernel
theorem dX6_readAny_54 : decode cX6_readAny 54 = .ok (.dup, 1) := by decide +kernel
theorem dX6_readAny_55 : decode cX6_readAny 55 = .ok (.getfield 24, 3) := by decide +kernel
theorem dX6_readAny_58 : decode cX6_readAny 58 = .ok (.iconst 1, 1) := by decide +kernel
theorem dX6_readAny_59 : decode cX6_readAny 59 = .ok (.iadd, 1) := by decide +kernel
theorem dX6_readAny_60 : decode cX6_readAny 60 = .ok (.putfield 24, 3) := by decide +kernel
theorem dX6_readAny_63 : decode cX6_readAny 63 = .ok (.iload_n 2, 1) := by decide +kernel
theorem dX6_readAny_64 : decode cX6_readAny 64 = .ok (.ifCond .eq 12, 3) := by decide +kernel
theorem dX6_readAny_67 : decode cX6_readAny 67 = .ok (.aload_n 0, 1) := by decide +kernel
theorem dX6_readAny_68 : decode cX6_readAny 68 = .ok (.getfield 15, 3) := by decide +kernel
theorem dX6_readAny_71 : decode cX6_readAny 71 = .ok (.bipush (-3), 2) := by decide +kernel
theorem dX6_readAny_73 : decode cX6_readAny 73 = .ok (.invokevirtual 115, 3) := by decide +kernel
theorem dX6_readAny_76 : decode cX6_readAny 76 = .ok (.iconst 1, 1) := by decide +kernel
theorem dX6_readAny_77 : decode cX6_readAny 77 = .ok (.istore_n 2, 1) := by decide +kernel
theorem dX6_readAny_78 : decode cX6_readAny 78 = .ok (.aload_n 0, 1) := by decide +kernel
theorem dX6_readAny_79 : decode cX6_readAny 79 = .ok (.iload_n 1, 1) := by decide +kernel
theorem dX6_readAny_80 : decode cX6_readAny 80 = .ok (.invokevirtual 109, 3) := by decide +kernel
theorem dX6_readAny_83 : decode cX6_readAny 83 = .ok (.istore_n 3, 1) := by decide +kernel
theorem dX6_readAny_84 : decode cX6_readAny 84 = .ok (.iload 5, 2) := by decide +kernel
theorem dX6_readAny_86 : decode cX6_readAny 86 = .ok (.ifCond .eq 12, 3) := by decide +kernel
theorem dX6_readAny_89 : decode cX6_readAny 89 = .ok (.aload_n 0, 1) := by decide +kernel
theorem dX6_readAny_90 : decode cX6_readAny 90 = .ok (.getfield 15, 3) := by decide +kernel
theorem dX6_readAny_93 : decode cX6_readAny 93 = .ok (.bipush (-2), 2) := by decide +kernel
theorem dX6_readAny_95 : decode cX6_readAny 95 = .ok (.invokevirtual 115, 3) := by decide +kernel
theorem dX6_readAny_98 : decode cX6_readAny 98 = .ok (.iinc 4 1, 3) := by decide +kernel
theorem dX6_readAny_101 : decode cX6_readAny 101 = .ok (.goto (-90), 3) := by decide +kernel
theorem dX6_readAny_104 : decode cX6_readAny 104 = .ok (.iload_n 2, 1) := by decide +kernel
theorem dX6_readAny_105 : decode cX6_readAny 105 = .ok (.ifCond .eq 12, 3) := by decide +kernel
theorem dX6_readAny_108 : decode cX6_readAny 108 = .ok (.aload_n 0, 1) := by decide +kernel
theorem dX6_readAny_109 : decode cX6_readAny 109 = .ok (.getfield 15, 3) := by decide +kernel
theorem dX6_readAny_112 : decode cX6_readAny 112 = .ok (.bipush (-3), 2) := by decide +kernel
theorem dX6_readAny_114 : decode cX6_readAny 114 = .ok (.invokevirtual 115, 3) := by decide +kernel
theorem dX6_readAny_117 : decode cX6_readAny 117 = .ok (.iload_n 3, 1) := by decide +kernel
theorem dX6_readAny_118 : decode cX6_readAny 118 = .ok (.ireturn, 1) := by decide +kernel
def fX6_readAny_B117 (rc : Int → vr_M → Option (Int × vr_M)) (x3 : Int) (μ : vr_M) : Option (Int × vr_M) :=
  vr_gd (x3 = 0 ∨ x3 = 1) (some (x3, μ))
def fX6_readAny_B104 (rc : Int → vr_M → Option (Int × vr_M)) (x2 : Int) (x3 : Int) (μ : vr_M) : Option (Int × vr_M) :=
  if x2 = 0 then fX6_readAny_B117 rc x3 μ else (fX3_putStep 45 (-3) μ).bind (fun r2 => fX6_readAny_B117 rc x3 r2.2)
def fX6_readAny_B98 (rc : Int → vr_M → Option (Int × vr_M)) (rc11 : Int → Int → Int → Int → vr_M → Option (Int × vr_M)) (x1 : Int) (x2 : Int) (x3 : Int) (x4 : Int) (μ : vr_M) : Option (Int × vr_M) :=
  vr_gd (vr_R (x4 + 1)) (rc11 x1 x2 x3 (x4 + 1) μ)
def fX6_readAny_B78 (rc : Int → vr_M → Option (Int × vr_M)) (rc11 : Int → Int → Int → Int → vr_M → Option (Int × vr_M)) (x1 : Int) (x2 : Int) (x4 : Int) (x5 : Int) (μ : vr_M) : Option (Int × vr_M) :=
  (fX6_readOne rc x1 μ).bind (fun r4 => if x5 = 0 then fX6_readAny_B98 rc rc11 x1 x2 r4.1 x4 r4.2 else (fX3_putStep 45 (-2) r4.2).bind (fun r5 => fX6_readAny_B98 rc rc11 x1 x2 r4.1 x4 r5.2))
def fX6_readAny_B76 (rc : Int → vr_M → Option (Int × vr_M)) (rc11 : Int → Int → Int → Int → vr_M → Option (Int × vr_M)) (x1 : Int) (x4 : Int) (x5 : Int) (μ : vr_M) : Option (Int × vr_M) :=
  fX6_readAny_B78 rc rc11 x1 1 x4 x5 μ
def fX6_readAny_B40 (rc : Int → vr_M → Option (Int × vr_M)) (rc11 : Int → Int → Int → Int → vr_M → Option (Int × vr_M)) (x1 : Int) (x2 : Int) (x4 : Int) (μ : vr_M) : Option (Int × vr_M) :=
  (fX6_take 38 μ).bind (fun r6 => if ¬ r6.1 = 0 then fX6_readAny_B78 rc rc11 x1 x2 x4 r6.1 r6.2 else if x2 = 0 then fX6_readAny_B76 rc rc11 x1 x4 r6.1 (vr_u r6.2 50 2 ((r6.2 50 2) + 1)) else (fX3_putStep 45 (-3) (vr_u r6.2 50 2 ((r6.2 50 2) + 1))).bind (fun r7 => fX6_readAny_B76 rc rc11 x1 x4 r6.1 r7.2))
def fX6_readAny_L11 (rc : Int → vr_M → Option (Int × vr_M)) : Nat → Int → Int → Int → Int → vr_M → Option (Int × vr_M)
  | 0, _, _, _, _, _ => none
  | n + 1, x1, x2, x3, x4, μ => if 120 ≤ x4 then fX6_readAny_B104 rc x2 x3 μ else if x3 = 0 then fX6_readAny_B104 rc x2 x3 μ else (fX6_sees 38 μ).bind (fun r8 => if ¬ r8.1 = 0 then fX6_readAny_B40 rc (fX6_readAny_L11 rc n) x1 x2 x4 r8.2 else (fX6_sees 124 r8.2).bind (fun r9 => if r9.1 = 0 then fX6_readAny_B104 rc x2 x3 r9.2 else fX6_readAny_B40 rc (fX6_readAny_L11 rc n) x1 x2 x4 r9.2))
def fX6_readAny (rc : Int → vr_M → Option (Int × vr_M)) (a0 : Int) (μ : vr_M) : Option (Int × vr_M) :=
  (fX6_readOne rc a0 μ).bind (fun r10 => fX6_readAny_L11 rc 9000 a0 0 r10.1 0 r10.2)
set_option maxRecDepth 100000 in
set_option maxHeartbeats 4000000 in
theorem ct_X6_readAny (l : Launch) (G : vr_G) {d : Nat} {rc : Int → vr_M → Option (Int × vr_M)} (hrc : ∀ (a0 : Int) (_ : vr_R a0) (μ : vr_M), vr_CI l yX6_readOpen cX6_readOpen 3 (some .boolean) ({ frames := 3 * d + 10, cells := 0, slots := 0, locals := 100 * d + 300 } : Room) G [.ref (vr_ad G 50), .int (vr_I a0)] μ (rc a0 μ)) (a0 : Int) (h_a0 : vr_R a0) (μ : vr_M) : vr_CI l yX6_readAny cX6_readAny 6 (some .boolean) ({ frames := 3 * d + 12, cells := 0, slots := 0, locals := 100 * d + 360 } : Room) G [.ref (vr_ad G 50), .int (vr_I a0)] μ (fX6_readAny rc a0 μ) := by
  refine vr_start (own := RX6) (by decide) rfl (Nat.le_of_ble_eq_true rfl) (fun p e s m args below meth c C0 => ?_)
  show vr_J p l e _ s m args below meth c 6 0 0 G (vr_Z (vr_QI G) G args s below) 0 [(0, .ref (vr_ad G 50)), (1, .int (vr_I a0))] [] μ _
  have B117 : ∀ (x3 : Int) (h_x3 : vr_R x3) (μ : vr_M), vr_J p l e ({ frames := 3 * d + 12, cells := 0, slots := 0, locals := 100 * d + 360 } : Room) s m args below meth c 6 0 0 G (vr_Z (vr_QI G) G args s below) 117 [(3, .int (vr_I x3))] [] μ (fX6_readAny_B117 rc x3 μ) := by
    intro x3 h_x3 μ
    unfold fX6_readAny_B117
    refine jr_iload_n C0 0 dX6_readAny_117 rfl rfl ?_
    refine jr_gd (fun g1 => ?_)
    exact jr_zret C0 h_x3 (vr_nz g1) dX6_readAny_118
  have B104 : ∀ (x2 : Int) (h_x2 : vr_R x2) (x3 : Int) (h_x3 : vr_R x3) (μ : vr_M), vr_J p l e ({ frames := 3 * d + 12, cells := 0, slots := 0, locals := 100 * d + 360 } : Room) s m args below meth c 6 0 0 G (vr_Z (vr_QI G) G args s below) 104 [(0, .ref (vr_ad G 50)), (2, .int (vr_I x2)), (3, .int (vr_I x3))] [] μ (fX6_readAny_B104 rc x2 x3 μ) := by
    intro x2 h_x2 x3 h_x3 μ
    unfold fX6_readAny_B104
    refine jr_iload_n C0 1 dX6_readAny_104 rfl rfl ?_
    refine jr_if_eq C0 h_x2 dX6_readAny_105 (tgt := 117) (by decide) ?_ ?_
    · refine jr_sub [2] rfl ?_
      exact B117 x3 h_x3 _
    refine jr_aload_n C0 0 dX6_readAny_108 rfl rfl ?_
    refine jr_getr C0 (by decide) kd_50 (by decide) rfl wx_X6 (i := 1) (by decide) wf_X6_15 (j := 45) rfl dX6_readAny_109 ?_
    refine jr_bipush C0 dX6_readAny_112 rfl ?_
    refine jr_vV0 C0 (by decide) kd_45 (by decide) rfl (ct_X3_putStep l G (by decide) kd_45 (-3) (⟨by decide, by decide⟩) _) mi_X3_putStep wm_X6_115 ⟨by dsimp only; omega, by dsimp only; omega⟩ ⟨rfl, rfl⟩ (As := [.int (vr_I (-3))]) rfl (st := []) rfl (Nat.le_of_ble_eq_true rfl) dX6_readAny_114 (fun r2 => ?_)
    refine jr_sub [2] rfl ?_
    exact B117 x3 h_x3 _
  have L11 : ∀ (n : Nat) (x1 : Int) (h_x1 : vr_R x1) (x2 : Int) (h_x2 : vr_R x2) (x3 : Int) (h_x3 : vr_R x3) (x4 : Int) (h_x4 : vr_R x4) (μ : vr_M), vr_J p l e ({ frames := 3 * d + 12, cells := 0, slots := 0, locals := 100 * d + 360 } : Room) s m args below meth c 6 0 0 G (vr_Z (vr_QI G) G args s below) 11 [(0, .ref (vr_ad G 50)), (1, .int (vr_I x1)), (2, .int (vr_I x2)), (3, .int (vr_I x3)), (4, .int (vr_I x4))] [] μ (fX6_readAny_L11 rc n x1 x2 x3 x4 μ) := by
    intro n11
    induction n11 with
    | zero => intros; exact jr_none
    | succ n11 ih11 =>
      have B98 : ∀ (x1 : Int) (h_x1 : vr_R x1) (x2 : Int) (h_x2 : vr_R x2) (x3 : Int) (h_x3 : vr_R x3) (x4 : Int) (h_x4 : vr_R x4) (μ : vr_M), vr_J p l e ({ frames := 3 * d + 12, cells := 0, slots := 0, locals := 100 * d + 360 } : Room) s m args below meth c 6 0 0 G (vr_Z (vr_QI G) G args s below) 98 [(0, .ref (vr_ad G 50)), (1, .int (vr_I x1)), (2, .int (vr_I x2)), (3, .int (vr_I x3)), (4, .int (vr_I x4))] [] μ (fX6_readAny_B98 rc (fX6_readAny_L11 rc n11) x1 x2 x3 x4 μ) := by
        intro x1 h_x1 x2 h_x2 x3 h_x3 x4 h_x4 μ
        unfold fX6_readAny_B98
        refine jr_iinc C0 (q := 4) dX6_readAny_98 rfl (by decide) (lv' := [(4, .int (vr_I (x4 + 1))), (0, .ref (vr_ad G 50)), (1, .int (vr_I x1)), (2, .int (vr_I x2)), (3, .int (vr_I x3))]) rfl ?_
        refine jr_goto C0 dX6_readAny_101 (tgt := 11) (by decide) ?_
        refine jr_gd (fun g3 => ?_)
        refine jr_sub [1, 2, 3, 4, 0] rfl ?_
        exact ih11 x1 h_x1 x2 h_x2 x3 h_x3 (x4 + 1) g3 _
      have B78 : ∀ (x1 : Int) (h_x1 : vr_R x1) (x2 : Int) (h_x2 : vr_R x2) (x4 : Int) (h_x4 : vr_R x4) (x5 : Int) (h_x5 : vr_R x5) (μ : vr_M), vr_J p l e ({ frames := 3 * d + 12, cells := 0, slots := 0, locals := 100 * d + 360 } : Room) s m args below meth c 6 0 0 G (vr_Z (vr_QI G) G args s below) 78 [(0, .ref (vr_ad G 50)), (1, .int (vr_I x1)), (2, .int (vr_I x2)), (4, .int (vr_I x4)), (5, .int (vr_I x5))] [] μ (fX6_readAny_B78 rc (fX6_readAny_L11 rc n11) x1 x2 x4 x5 μ) := by
        intro x1 h_x1 x2 h_x2 x4 h_x4 x5 h_x5 μ
        unfold fX6_readAny_B78
        refine jr_aload_n C0 0 dX6_readAny_78 rfl rfl ?_
        refine jr_iload_n C0 1 dX6_readAny_79 rfl rfl ?_
        refine jr_vI C0 (by decide) kd_50 (by decide) rfl (ct_X6_readOne l G hrc x1 h_x1 _) mi_X6_readOne wm_X6_109 ⟨by dsimp only; omega, by dsimp only; omega⟩ ⟨rfl, rfl⟩ (As := [.int (vr_I x1)]) rfl (st := []) rfl (Nat.le_of_ble_eq_true rfl) dX6_readAny_80 (fun r4 hr4 => ?_)
        refine jr_istore_n C0 dX6_readAny_83 rfl (by decide) (lv' := [(3, .int (vr_I r4.1)), (0, .ref (vr_ad G 50)), (1, .int (vr_I x1)), (2, .int (vr_I x2)), (4, .int (vr_I x4)), (5, .int (vr_I x5))]) rfl ?_
        refine jr_iload C0 5 dX6_readAny_84 rfl ?_
        refine jr_if_eq C0 h_x5 dX6_readAny_86 (tgt := 98) (by decide) ?_ ?_
        · refine jr_sub [1, 2, 3, 0, 4] rfl ?_
          exact B98 x1 h_x1 x2 h_x2 r4.1 hr4 x4 h_x4 _
        refine jr_aload_n C0 1 dX6_readAny_89 rfl rfl ?_
        refine jr_getr C0 (by decide) kd_50 (by decide) rfl wx_X6 (i := 1) (by decide) wf_X6_15 (j := 45) rfl dX6_readAny_90 ?_
        refine jr_bipush C0 dX6_readAny_93 rfl ?_
        refine jr_vV0 C0 (by decide) kd_45 (by decide) rfl (ct_X3_putStep l G (by decide) kd_45 (-2) (⟨by decide, by decide⟩) _) mi_X3_putStep wm_X6_115 ⟨by dsimp only; omega, by dsimp only; omega⟩ ⟨rfl, rfl⟩ (As := [.int (vr_I (-2))]) rfl (st := []) rfl (Nat.le_of_ble_eq_true rfl) dX6_readAny_95 (fun r5 => ?_)
        refine jr_sub [1, 2, 3, 0, 4] rfl ?_
        exact B98 x1 h_x1 x2 h_x2 r4.1 hr4 x4 h_x4 _
      have B76 : ∀ (x1 : Int) (h_x1 : vr_R x1) (x4 : Int) (h_x4 : vr_R x4) (x5 : Int) (h_x5 : vr_R x5) (μ : vr_M), vr_J p l e ({ frames := 3 * d + 12, cells := 0, slots := 0, locals := 100 * d + 360 } : Room) s m args below meth c 6 0 0 G (vr_Z (vr_QI G) G args s below) 76 [(0, .ref (vr_ad G 50)), (1, .int (vr_I x1)), (4, .int (vr_I x4)), (5, .int (vr_I x5))] [] μ (fX6_readAny_B76 rc (fX6_readAny_L11 rc n11) x1 x4 x5 μ) := by
        intro x1 h_x1 x4 h_x4 x5 h_x5 μ
        unfold fX6_readAny_B76
        refine jr_iconst C0 dX6_readAny_76 ?_
        refine jr_istore_n C0 dX6_readAny_77 rfl (by decide) (lv' := [(2, .int (vr_I 1)), (0, .ref (vr_ad G 50)), (1, .int (vr_I x1)), (4, .int (vr_I x4)), (5, .int (vr_I x5))]) rfl ?_
        refine jr_sub [1, 2, 0, 3, 4] rfl ?_
        exact B78 x1 h_x1 1 (⟨by decide, by decide⟩) x4 h_x4 x5 h_x5 _
      have B40 : ∀ (x1 : Int) (h_x1 : vr_R x1) (x2 : Int) (h_x2 : vr_R x2) (x4 : Int) (h_x4 : vr_R x4) (μ : vr_M), vr_J p l e ({ frames := 3 * d + 12, cells := 0, slots := 0, locals := 100 * d + 360 } : Room) s m args below meth c 6 0 0 G (vr_Z (vr_QI G) G args s below) 40 [(0, .ref (vr_ad G 50)), (1, .int (vr_I x1)), (2, .int (vr_I x2)), (4, .int (vr_I x4))] [] μ (fX6_readAny_B40 rc (fX6_readAny_L11 rc n11) x1 x2 x4 μ) := by
        intro x1 h_x1 x2 h_x2 x4 h_x4 μ
        unfold fX6_readAny_B40
        refine jr_aload_n C0 0 dX6_readAny_40 rfl rfl ?_
        refine jr_bipush C0 dX6_readAny_41 rfl ?_
        refine jr_vI C0 (by decide) kd_50 (by decide) rfl (ct_X6_take l G 38 (⟨by decide, by decide⟩) _) mi_X6_take wm_X6_37 ⟨by dsimp only; omega, by dsimp only; omega⟩ ⟨rfl, rfl⟩ (As := [.int (vr_I 38)]) rfl (st := []) rfl (Nat.le_of_ble_eq_true rfl) dX6_readAny_43 (fun r6 hr6 => ?_)
        refine jr_istore C0 dX6_readAny_46 (by decide) (lv' := [(5, .int (vr_I r6.1)), (0, .ref (vr_ad G 50)), (1, .int (vr_I x1)), (2, .int (vr_I x2)), (4, .int (vr_I x4))]) rfl ?_
        refine jr_iload C0 0 dX6_readAny_48 rfl ?_
        refine jr_if_ne C0 hr6 dX6_readAny_50 (tgt := 78) (by decide) ?_ ?_
        · refine jr_sub [1, 2, 3, 4, 0] rfl ?_
          exact B78 x1 h_x1 x2 h_x2 x4 h_x4 r6.1 hr6 _
        refine jr_aload_n C0 1 dX6_readAny_53 rfl rfl ?_
        refine jr_dup C0 rfl dX6_readAny_54 ?_
        refine jr_geti C0 (by decide) kd_50 (by decide) rfl wx_X6 (i := 2) (by decide) wf_X6_24 rfl dX6_readAny_55 ?_
        refine jr_iconst C0 dX6_readAny_58 ?_
        refine jr_iadd C0 dX6_readAny_59 ?_
        refine jr_puti C0 (by decide) kd_50 (by decide) rfl wx_X6 (i := 2) (by decide) wf_X6_24 rfl tyX6_ok nmX6 rfl rfl rfl dX6_readAny_60 ?_
        refine jr_iload_n C0 3 dX6_readAny_63 rfl rfl ?_
        refine jr_if_eq C0 h_x2 dX6_readAny_64 (tgt := 76) (by decide) ?_ ?_
        · refine jr_sub [1, 2, 4, 0] rfl ?_
          exact B76 x1 h_x1 x4 h_x4 r6.1 hr6 _
        refine jr_aload_n C0 1 dX6_readAny_67 rfl rfl ?_
        refine jr_getr C0 (by decide) kd_50 (by decide) rfl wx_X6 (i := 1) (by decide) wf_X6_15 (j := 45) rfl dX6_readAny_68 ?_
        refine jr_bipush C0 dX6_readAny_71 rfl ?_
        refine jr_vV0 C0 (by decide) kd_45 (by decide) rfl (ct_X3_putStep l G (by decide) kd_45 (-3) (⟨by decide, by decide⟩) _) mi_X3_putStep wm_X6_115 ⟨by dsimp only; omega, by dsimp only; omega⟩ ⟨rfl, rfl⟩ (As := [.int (vr_I (-3))]) rfl (st := []) rfl (Nat.le_of_ble_eq_true rfl) dX6_readAny_73 (fun r7 => ?_)
        refine jr_sub [1, 2, 4, 0] rfl ?_
        exact B76 x1 h_x1 x4 h_x4 r6.1 hr6 _
      intro x1 h_x1 x2 h_x2 x3 h_x3 x4 h_x4 μ
      rw [fX6_readAny_L11.eq_2]
      refine jr_iload C0 4 dX6_readAny_11 rfl ?_
      refine jr_bipush C0 dX6_readAny_13 rfl ?_
      refine jr_icmp_ge C0 h_x4 (⟨by decide, by decide⟩) dX6_readAny_15 (tgt := 104) (by decide) ?_ ?_
      · refine jr_sub [0, 2, 3] rfl ?_
        exact B104 x2 h_x2 x3 h_x3 _
      refine jr_iload_n C0 3 dX6_readAny_18 rfl rfl ?_
      refine jr_if_eq C0 h_x3 dX6_readAny_19 (tgt := 104) (by decide) ?_ ?_
      · refine jr_sub [0, 2, 3] rfl ?_
        exact B104 x2 h_x2 x3 h_x3 _
      refine jr_aload_n C0 0 dX6_readAny_22 rfl rfl ?_
      refine jr_bipush C0 dX6_readAny_23 rfl ?_
      refine jr_vI C0 (by decide) kd_50 (by decide) rfl (ct_X6_sees l G 38 (⟨by decide, by decide⟩) _) mi_X6_sees wm_X6_112 ⟨by dsimp only; omega, by dsimp only; omega⟩ ⟨rfl, rfl⟩ (As := [.int (vr_I 38)]) rfl (st := []) rfl (Nat.le_of_ble_eq_true rfl) dX6_readAny_25 (fun r8 hr8 => ?_)
      refine jr_if_ne C0 hr8 dX6_readAny_28 (tgt := 40) (by decide) ?_ ?_
      · refine jr_sub [0, 1, 2, 4] rfl ?_
        exact B40 x1 h_x1 x2 h_x2 x4 h_x4 _
      refine jr_aload_n C0 0 dX6_readAny_31 rfl rfl ?_
      refine jr_bipush C0 dX6_readAny_32 rfl ?_
      refine jr_vI C0 (by decide) kd_50 (by decide) rfl (ct_X6_sees l G 124 (⟨by decide, by decide⟩) _) mi_X6_sees wm_X6_112 ⟨by dsimp only; omega, by dsimp only; omega⟩ ⟨rfl, rfl⟩ (As := [.int (vr_I 124)]) rfl (st := []) rfl (Nat.le_of_ble_eq_true rfl) dX6_readAny_34 (fun r9 hr9 => ?_)
      refine jr_if_eq C0 hr9 dX6_readAny_37 (tgt := 104) (by decide) ?_ ?_
      · refine jr_sub [0, 2, 3] rfl ?_
        exact B104 x2 h_x2 x3 h_x3 _
      refine jr_sub [0, 1, 2, 4] rfl ?_
      exact B40 x1 h_x1 x2 h_x2 x4 h_x4 _
  unfold fX6_readAny
  refine jr_iconst C0 dX6_readAny_0 ?_
  refine jr_istore_n C0 dX6_readAny_1 rfl (by decide) (lv' := [(2, .int (vr_I 0)), (0, .ref (vr_ad G 50)), (1, .int (vr_I a0))]) rfl ?_
  refine jr_aload_n C0 1 dX6_readAny_2 rfl rfl ?_
  refine jr_iload_n C0 2 dX6_readAny_3 rfl rfl ?_
  refine jr_vI C0 (by decide) kd_50 (by decide) rfl (ct_X6_readOne l G hrc a0 h_a0 _) mi_X6_readOne wm_X6_109 ⟨by dsimp only; omega, by dsimp only; omega⟩ ⟨rfl, rfl⟩ (As := [.int (vr_I a0)]) rfl (st := []) rfl (Nat.le_of_ble_eq_true rfl) dX6_readAny_4 (fun r10 hr10 => ?_)
  refine jr_istore_n C0 dX6_readAny_7 rfl (by decide) (lv' := [(3, .int (vr_I r10.1)), (2, .int (vr_I 0)), (0, .ref (vr_ad G 50)), (1, .int (vr_I a0))]) rfl ?_
  refine jr_iconst C0 dX6_readAny_8 ?_
  refine jr_istore C0 dX6_readAny_9 (by decide) (lv' := [(4, .int (vr_I 0)), (3, .int (vr_I r10.1)), (2, .int (vr_I 0)), (0, .ref (vr_ad G 50)), (1, .int (vr_I a0))]) rfl ?_
  refine jr_sub [3, 4, 2, 1, 0] rfl ?_
  exact L11 9000 a0 h_a0 0 (⟨by decide, by decide⟩) r10.1 hr10 0 (⟨by decide, by decide⟩) _
theorem dX6_readOpen_0 : decode cX6_readOpen 0 = .ok (.aload_n 0, 1) := by decide +kernel
theorem dX6_readOpen_1 : decode cX6_readOpen 1 = .ok (.bipush 40, 2) := by decide +kernel
theorem dX6_readOpen_3 : decode cX6_readOpen 3 = .ok (.invokevirtual 37, 3) := by decide +kernel
theorem dX6_readOpen_6 : decode cX6_readOpen 6 = .ok (.ifCond .eq 26, 3) := by decide +kernel
theorem dX6_readOpen_9 : decode cX6_readOpen 9 = .ok (.aload_n 0, 1) := by decide +kernel
theorem dX6_readOpen_10 : decode cX6_readOpen 10 = .ok (.iload_n 1, 1) := by decide +kernel
theorem dX6_readOpen_11 : decode cX6_readOpen 11 = .ok (.invokevirtual 45, 3) := by decide +kernel
theorem dX6_readOpen_14 : decode cX6_readOpen 14 = .ok (.ifCond .eq 16, 3) := by decide +kernel
theorem dX6_readOpen_17 : decode cX6_readOpen 17 = .ok (.aload_n 0, 1) := by decide +kernel
theorem dX6_readOpen_18 : decode cX6_readOpen 18 = .ok (.bipush 41, 2) := by decide +kernel
theorem dX6_readOpen_20 : decode cX6_readOpen 20 = .ok (.invokevirtual 37, 3) := by decide +kernel
theorem dX6_readOpen_23 : decode cX6_readOpen 23 = .ok (.ifCond .eq 7, 3) := by decide +kernel
theorem dX6_readOpen_26 : decode cX6_readOpen 26 = .ok (.iconst 1, 1) := by decide +kernel
theorem dX6_readOpen_27 : decode cX6_readOpen 27 = .ok (.goto 4, 3) := by decide +kernel
theorem dX6_readOpen_30 : decode cX6_readOpen 30 = .ok (.iconst 0, 1) := by decide +kernel
theorem dX6_readOpen_31 : decode cX6_readOpen 31 = .ok (.ireturn, 1) := by decide +kernel
theorem dX6_readOpen_32 : decode cX6_readOpen 32 = .ok (.aload_n 0, 1) := by decide +kernel
theorem dX6_readOpen_33 : decode cX6_readOpen 33 = .ok (.dup, 1) := by decide +kernel
theorem dX6_readOpen_34 : decode cX6_readOpen 34 = .ok (.getfield 24, 3) := by decide +kernel
theorem dX6_readOpen_37 : decode cX6_readOpen 37 = .ok (.iconst 1, 1) := by decide +kernel
theorem dX6_readOpen_38 : decode cX6_readOpen 38 = .ok (.iadd, 1) := by decide +kernel
theorem dX6_readOpen_39 : decode cX6_readOpen 39 = .ok (.putfield 24, 3) := by decide +kernel
theorem dX6_readOpen_42 : decode cX6_readOpen 42 = .ok (.aload_n 0, 1) := by decide +kernel
theorem dX6_readOpen_43 : decode cX6_readOpen 43 = .ok (.iload_n 1, 1) := by decide +kernel
theorem dX6_readOpen_44 : decode cX6_readOpen 44 = .ok (.invokevirtual 109, 3) := by decide +kernel
theorem dX6_readOpen_47 : decode cX6_readOpen 47 = .ok (.istore_n 2, 1) := by decide +kernel
theorem dX6_readOpen_48 : decode cX6_readOpen 48 = .ok (.aload_n 0, 1) := by decide +kernel
theorem dX6_readOpen_49 : decode cX6_readOpen 49 = .ok (.getfield 15, 3) := by decide +kernel
theorem dX6_readOpen_52 : decode cX6_readOpen 52 = .ok (.iconst (-1), 1) := by decide +kernel
theorem dX6_readOpen_53 : decode cX6_readOpen 53 = .ok (.invokevirtual 115, 3) := by decide +kernel
theorem dX6_readOpen_56 : decode cX6_readOpen 56 = .ok (.iload_n 2, 1) := by decide +kernel
theorem dX6_readOpen_57 : decode cX6_readOpen 57 = .ok (.ireturn, 1) := by decide +kernel
def fX6_readOpen_B31 (rc : Int → vr_M → Option (Int × vr_M)) (y0 : Int) (μ : vr_M) : Option (Int × vr_M) :=
  vr_gd (y0 = 0 ∨ y0 = 1) (some (y0, μ))
def fX6_readOpen_B30 (rc : Int → vr_M → Option (Int × vr_M)) (μ : vr_M) : Option (Int × vr_M) :=
  fX6_readOpen_B31 rc 0 μ
def fX6_readOpen_1 (rc : Int → vr_M → Option (Int × vr_M)) (a0 : Int) (μ : vr_M) : Option (Int × vr_M) :=
  (fX6_take 40 μ).bind (fun r2 => if r2.1 = 0 then (fX6_readOne rc a0 (vr_u r2.2 50 2 ((r2.2 50 2) + 1))).bind (fun r3 => (fX3_putStep 45 (-1) r3.2).bind (fun r4 => vr_gd (r3.1 = 0 ∨ r3.1 = 1) (some (r3.1, r4.2)))) else (fX6_readAny rc a0 r2.2).bind (fun r6 => if r6.1 = 0 then fX6_readOpen_B30 rc r6.2 else (fX6_take 41 r6.2).bind (fun r7 => if r7.1 = 0 then fX6_readOpen_B30 rc r7.2 else fX6_readOpen_B31 rc 1 r7.2)))
def fX6_readOpen : Nat → Int → vr_M → Option (Int × vr_M)
  | 0, _, _ => none
  | d + 1, a0, μ => fX6_readOpen_1 (fX6_readOpen d) a0 μ
set_option maxRecDepth 100000 in
set_option maxHeartbeats 4000000 in
theorem ct_X6_readOpen_1 (l : Launch) (G : vr_G) {d : Nat} {rc : Int → vr_M → Option (Int × vr_M)} (hrc : ∀ (a0 : Int) (_ : vr_R a0) (μ : vr_M), vr_CI l yX6_readOpen cX6_readOpen 3 (some .boolean) ({ frames := 3 * d + 10, cells := 0, slots := 0, locals := 100 * d + 300 } : Room) G [.ref (vr_ad G 50), .int (vr_I a0)] μ (rc a0 μ)) (a0 : Int) (h_a0 : vr_R a0) (μ : vr_M) : vr_CI l yX6_readOpen cX6_readOpen 3 (some .boolean) ({ frames := 3 * (d + 1) + 10, cells := 0, slots := 0, locals := 100 * (d + 1) + 300 } : Room) G [.ref (vr_ad G 50), .int (vr_I a0)] μ (fX6_readOpen_1 rc a0 μ) := by
  refine vr_start (own := RX6) (by decide) rfl (Nat.le_of_ble_eq_true rfl) (fun p e s m args below meth c C0 => ?_)
  show vr_J p l e _ s m args below meth c 3 0 0 G (vr_Z (vr_QI G) G args s below) 0 [(0, .ref (vr_ad G 50)), (1, .int (vr_I a0))] [] μ _
  have B31 : ∀ (y0 : Int) (h_y0 : vr_R y0) (μ : vr_M), vr_J p l e ({ frames := 3 * (d + 1) + 10, cells := 0, slots := 0, locals := 100 * (d + 1) + 300 } : Room) s m args below meth c 3 0 0 G (vr_Z (vr_QI G) G args s below) 31 [] [.int (vr_I y0)] μ (fX6_readOpen_B31 rc y0 μ) := by
    intro y0 h_y0 μ
    unfold fX6_readOpen_B31
    refine jr_gd (fun g1 => ?_)
    exact jr_zret C0 h_y0 (vr_nz g1) dX6_readOpen_31
  have B30 : ∀ (μ : vr_M), vr_J p l e ({ frames := 3 * (d + 1) + 10, cells := 0, slots := 0, locals := 100 * (d + 1) + 300 } : Room) s m args below meth c 3 0 0 G (vr_Z (vr_QI G) G args s below) 30 [] [] μ (fX6_readOpen_B30 rc μ) := by
    intro μ
    unfold fX6_readOpen_B30
    refine jr_iconst C0 dX6_readOpen_30 ?_
    exact B31 0 (⟨by decide, by decide⟩) _
  unfold fX6_readOpen_1
  refine jr_aload_n C0 0 dX6_readOpen_0 rfl rfl ?_
  refine jr_bipush C0 dX6_readOpen_1 rfl ?_
  refine jr_vI C0 (by decide) kd_50 (by decide) rfl (ct_X6_take l G 40 (⟨by decide, by decide⟩) _) mi_X6_take wm_X6_37 ⟨by dsimp only; omega, by dsimp only; omega⟩ ⟨rfl, rfl⟩ (As := [.int (vr_I 40)]) rfl (st := []) rfl (Nat.le_of_ble_eq_true rfl) dX6_readOpen_3 (fun r2 hr2 => ?_)
  refine jr_if_eq C0 hr2 dX6_readOpen_6 (tgt := 32) (by decide) ?_ ?_
  · refine jr_aload_n C0 0 dX6_readOpen_32 rfl rfl ?_
    refine jr_dup C0 rfl dX6_readOpen_33 ?_
    refine jr_geti C0 (by decide) kd_50 (by decide) rfl wx_X6 (i := 2) (by decide) wf_X6_24 rfl dX6_readOpen_34 ?_
    refine jr_iconst C0 dX6_readOpen_37 ?_
    refine jr_iadd C0 dX6_readOpen_38 ?_
    refine jr_puti C0 (by decide) kd_50 (by decide) rfl wx_X6 (i := 2) (by decide) wf_X6_24 rfl tyX6_ok nmX6 rfl rfl rfl dX6_readOpen_39 ?_
    refine jr_aload_n C0 0 dX6_readOpen_42 rfl rfl ?_
    refine jr_iload_n C0 1 dX6_readOpen_43 rfl rfl ?_
    refine jr_vI C0 (by decide) kd_50 (by decide) rfl (ct_X6_readOne l G hrc a0 h_a0 _) mi_X6_readOne wm_X6_109 ⟨by dsimp only; omega, by dsimp only; omega⟩ ⟨rfl, rfl⟩ (As := [.int (vr_I a0)]) rfl (st := []) rfl (Nat.le_of_ble_eq_true rfl) dX6_readOpen_44 (fun r3 hr3 => ?_)
    refine jr_istore_n C0 dX6_readOpen_47 rfl (by decide) (lv' := [(2, .int (vr_I r3.1)), (0, .ref (vr_ad G 50)), (1, .int (vr_I a0))]) rfl ?_
    refine jr_aload_n C0 1 dX6_readOpen_48 rfl rfl ?_
    refine jr_getr C0 (by decide) kd_50 (by decide) rfl wx_X6 (i := 1) (by decide) wf_X6_15 (j := 45) rfl dX6_readOpen_49 ?_
    refine jr_iconst C0 dX6_readOpen_52 ?_
    refine jr_vV0 C0 (by decide) kd_45 (by decide) rfl (ct_X3_putStep l G (by decide) kd_45 (-1) (⟨by decide, by decide⟩) _) mi_X3_putStep wm_X6_115 ⟨by dsimp only; omega, by dsimp only; omega⟩ ⟨rfl, rfl⟩ (As := [.int (vr_I (-1))]) rfl (st := []) rfl (Nat.le_of_ble_eq_true rfl) dX6_readOpen_53 (fun r4 => ?_)
    refine jr_iload_n C0 0 dX6_readOpen_56 rfl rfl ?_
    refine jr_gd (fun g5 => ?_)
    exact jr_zret C0 hr3 (vr_nz g5) dX6_readOpen_57
  refine jr_aload_n C0 0 dX6_readOpen_9 rfl rfl ?_
  refine jr_iload_n C0 1 dX6_readOpen_10 rfl rfl ?_
  refine jr_vI C0 (by decide) kd_50 (by decide) rfl (ct_X6_readAny l G hrc a0 h_a0 _) mi_X6_readAny wm_X6_45 ⟨by dsimp only; omega, by dsimp only; omega⟩ ⟨rfl, rfl⟩ (As := [.int (vr_I a0)]) rfl (st := []) rfl (Nat.le_of_ble_eq_true rfl) dX6_readOpen_11 (fun r6 hr6 => ?_)
  refine jr_if_eq C0 hr6 dX6_readOpen_14 (tgt := 30) (by decide) ?_ ?_
  · refine jr_sub [] rfl ?_
    exact B30 _
  refine jr_aload_n C0 0 dX6_readOpen_17 rfl rfl ?_
  refine jr_bipush C0 dX6_readOpen_18 rfl ?_
  refine jr_vI C0 (by decide) kd_50 (by decide) rfl (ct_X6_take l G 41 (⟨by decide, by decide⟩) _) mi_X6_take wm_X6_37 ⟨by dsimp only; omega, by dsimp only; omega⟩ ⟨rfl, rfl⟩ (As := [.int (vr_I 41)]) rfl (st := []) rfl (Nat.le_of_ble_eq_true rfl) dX6_readOpen_20 (fun r7 hr7 => ?_)
  refine jr_if_eq C0 hr7 dX6_readOpen_23 (tgt := 30) (by decide) ?_ ?_
  · refine jr_sub [] rfl ?_
    exact B30 _
  refine jr_iconst C0 dX6_readOpen_26 ?_
  refine jr_goto C0 dX6_readOpen_27 (tgt := 31) (by decide) ?_
  refine jr_sub [] rfl ?_
  exact B31 1 (⟨by decide, by decide⟩) _
theorem ct_X6_readOpen (l : Launch) (G : vr_G) : ∀ (d : Nat), ∀ (a0 : Int) (_ : vr_R a0) (μ : vr_M), vr_CI l yX6_readOpen cX6_readOpen 3 (some .boolean) ({ frames := 3 * d + 10, cells := 0, slots := 0, locals := 100 * d + 300 } : Room) G [.ref (vr_ad G 50), .int (vr_I a0)] μ (fX6_readOpen d a0 μ) := by
  intro d
  induction d with
  | zero => intros; intro r hr; cases hr
  | succ d ih => intro a0 h_a0 μ; exact ct_X6_readOpen_1 l G ih a0 h_a0 μ
theorem hrc_X6_readOpen (l : Launch) (G : vr_G) : ∀ (a0 : Int) (_ : vr_R a0) (μ : vr_M), vr_CI l yX6_readOpen cX6_readOpen 3 (some .boolean) ({ frames := 3 * 6 + 10, cells := 0, slots := 0, locals := 100 * 6 + 300 } : Room) G [.ref (vr_ad G 50), .int (vr_I a0)] μ (fX6_readOpen 6 a0 μ) := ct_X6_readOpen l G 6
theorem dX6_readClause_0 : decode cX6_readClause 0 = .ok (.aload_n 0, 1) := by decide +kernel
theorem dX6_readClause_1 : decode cX6_readClause 1 = .ok (.invokevirtual 41, 3) := by decide +kernel
theorem dX6_readClause_4 : decode cX6_readClause 4 = .ok (.istore_n 1, 1) := by decide +kernel
theorem dX6_readClause_5 : decode cX6_readClause 5 = .ok (.iload_n 1, 1) := by decide +kernel
theorem dX6_readClause_6 : decode cX6_readClause 6 = .ok (.ifCond .ge 5, 3) := by decide +kernel
theorem dX6_readClause_9 : decode cX6_readClause 9 = .ok (.iconst 0, 1) := by decide +kernel
theorem dX6_readClause_10 : decode cX6_readClause 10 = .ok (.ireturn, 1) := by decide +kernel
theorem dX6_readClause_11 : decode cX6_readClause 11 = .ok (.iload_n 1, 1) := by decide +kernel
theorem dX6_readClause_12 : decode cX6_readClause 12 = .ok (.iconst 1, 1) := by decide +kernel
theorem dX6_readClause_13 : decode cX6_readClause 13 = .ok (.if_icmp .ne 18, 3) := by decide +kernel
theorem dX6_readClause_16 : decode cX6_readClause 16 = .ok (.aload_n 0, 1) := by decide +kernel
theorem dX6_readClause_17 : decode cX6_readClause 17 = .ok (.iconst 0, 1) := by decide +kernel
theorem dX6_readClause_18 : decode cX6_readClause 18 = .ok (.invokevirtual 45, 3) := by decide +kernel
theorem dX6_readClause_21 : decode cX6_readClause 21 = .ok (.istore_n 2, 1) := by decide +kernel
theorem dX6_readClause_22 : decode cX6_readClause 22 = .ok (.aload_n 0, 1) := by decide +kernel
theorem dX6_readClause_23 : decode cX6_readClause 23 = .ok (.getfield 15, 3) := by decide +kernel
theorem dX6_readClause_26 : decode cX6_readClause 26 = .ok (.invokevirtual 49, 3) := by decide +kernel
theorem dX6_readClause_29 : decode cX6_readClause 29 = .ok (.iload_n 2, 1) := by decide +kernel
theorem dX6_readClause_30 : decode cX6_readClause 30 = .ok (.ireturn, 1) := by decide +kernel
theorem dX6_readClause_31 : decode cX6_readClause 31 = .ok (.aload_n 0, 1) := by decide +kernel
theorem dX6_readClause_32 : decode cX6_readClause 32 = .ok (.invokevirtual 52, 3) := by decide +kernel
theorem dX6_readClause_35 : decode cX6_readClause 35 = .ok (.istore_n 2, 1) := by decide +kernel
theorem dX6_readClause_36 : decode cX6_readClause 36 = .ok (.iload_n 2, 1) := by decide +kernel
theorem dX6_readClause_37 : decode cX6_readClause 37 = .ok (.ifCond .ge 5, 3) := by decide +kernel
theorem dX6_readClause_40 : decode cX6_readClause 40 = .ok (.iconst 0, 1) := by decide +kernel
theorem dX6_readClause_41 : decode cX6_readClause 41 = .ok (.ireturn, 1) := by decide +kernel
theorem dX6_readClause_42 : decode cX6_readClause 42 = .ok (.iload_n 1, 1) := by decide +kernel
theorem dX6_readClause_43 : decode cX6_readClause 43 = .ok (.ifCond .eq 14, 3) := by decide +kernel
theorem dX6_readClause_46 : decode cX6_readClause 46 = .ok (.aload_n 0, 1) := by decide +kernel
theorem dX6_readClause_47 : decode cX6_readClause 47 = .ok (.getfield 15, 3) := by decide +kernel
theorem dX6_readClause_50 : decode cX6_readClause 50 = .ok (.iload_n 1, 1) := by decide +kernel
theorem dX6_readClause_51 : decode cX6_readClause 51 = .ok (.iload_n 2, 1) := by decide +kernel
theorem dX6_readClause_52 : decode cX6_readClause 52 = .ok (.invokevirtual 55, 3) := by decide +kernel
theorem dX6_readClause_55 : decode cX6_readClause 55 = .ok (.iconst 1, 1) := by decide +kernel
theorem dX6_readClause_56 : decode cX6_readClause 56 = .ok (.ireturn, 1) := by decide +kernel
theorem dX6_readClause_57 : decode cX6_readClause 57 = .ok (.aload_n 0, 1) := by decide +kernel
theorem dX6_readClause_58 : decode cX6_readClause 58 = .ok (.bipush 32, 2) := by decide +kernel
theorem dX6_readClause_60 : decode cX6_readClause 60 = .ok (.invokevirtual 37, 3) := by decide +kernel
theorem dX6_readClause_63 : decode cX6_readClause 63 = .ok (.ifCond .eq 15, 3) := by decide +kernel
theorem dX6_readClause_66 : decode cX6_readClause 66 = .ok (.aload_n 0, 1) := by decide +kernel
theorem dX6_readClause_67 : decode cX6_readClause 67 = .ok (.iconst 0, 1) := by decide +kernel
theorem dX6_readClause_68 : decode cX6_readClause 68 = .ok (.invokevirtual 45, 3) := by decide +kernel
theorem dX6_readClause_71 : decode cX6_readClause 71 = .ok (.ifCond .eq 7, 3) := by decide +kernel
theorem dX6_readClause_74 : decode cX6_readClause 74 = .ok (.iconst 1, 1) := by decide +kernel
theorem dX6_readClause_75 : decode cX6_readClause 75 = .ok (.goto 4, 3) := by decide +kernel
theorem dX6_readClause_78 : decode cX6_readClause 78 = .ok (.iconst 0, 1) := by decide +kernel
theorem dX6_readClause_79 : decode cX6_readClause 79 = .ok (.istore_n 3, 1) := by decide +kernel
theorem dX6_readClause_80 : decode cX6_readClause 80 = .ok (.aload_n 0, 1) := by decide +kernel
theorem dX6_readClause_81 : decode cX6_readClause 81 = .ok (.getfield 15, 3) := by decide +kernel
theorem dX6_readClause_84 : decode cX6_readClause 84 = .ok (.iload_n 2, 1) := by decide +kernel
theorem dX6_readClause_85 : decode cX6_readClause 85 = .ok (.invokevirtual 59, 3) := by decide +kernel
theorem dX6_readClause_88 : decode cX6_readClause 88 = .ok (.iload_n 3, 1) := by decide +kernel
theorem dX6_readClause_89 : decode cX6_readClause 89 = .ok (.ireturn, 1) := by decide +kernel
def fX6_readClause_B79 (x2 : Int) (y0 : Int) (μ : vr_M) : Option (Int × vr_M) :=
  (fX3_putGive 45 x2 μ).bind (fun r1 => vr_gd (y0 = 0 ∨ y0 = 1) (some (y0, r1.2)))
def fX6_readClause_B78 (x2 : Int) (μ : vr_M) : Option (Int × vr_M) :=
  fX6_readClause_B79 x2 0 μ
def fX6_readClause (μ : vr_M) : Option (Int × vr_M) :=
  (fX6_readWord  μ).bind (fun r3 => if 0 ≤ r3.1 then if ¬ r3.1 = 1 then (fX6_readNumber  r3.2).bind (fun r4 => if 0 ≤ r4.1 then if r3.1 = 0 then (fX6_take 32 r4.2).bind (fun r5 => if r5.1 = 0 then fX6_readClause_B78 r4.1 r5.2 else (fX6_readAny (fX6_readOpen 6) 0 r5.2).bind (fun r6 => if r6.1 = 0 then fX6_readClause_B78 r4.1 r6.2 else fX6_readClause_B79 r4.1 1 r6.2)) else (fX3_putNumber 45 r3.1 r4.1 r4.2).bind (fun r7 => some (1, r7.2)) else some (0, r4.2)) else (fX6_readAny (fX6_readOpen 6) 0 r3.2).bind (fun r8 => (fX3_putWear 45 r8.2).bind (fun r9 => vr_gd (r8.1 = 0 ∨ r8.1 = 1) (some (r8.1, r9.2)))) else some (0, r3.2))
set_option maxRecDepth 100000 in
set_option maxHeartbeats 4000000 in
theorem ct_X6_readClause (l : Launch) (G : vr_G) (μ : vr_M) : vr_CI l yX6_readClause cX6_readClause 4 (some .boolean) ({ frames := 31, cells := 0, slots := 0, locals := 985 } : Room) G [.ref (vr_ad G 50)] μ (fX6_readClause μ) := by
  refine vr_start (own := RX6) (by decide) rfl (Nat.le_of_ble_eq_true rfl) (fun p e s m args below meth c C0 => ?_)
  show vr_J p l e _ s m args below meth c 4 0 0 G (vr_Z (vr_QI G) G args s below) 0 [(0, .ref (vr_ad G 50))] [] μ _
  have B79 : ∀ (x2 : Int) (h_x2 : vr_R x2) (y0 : Int) (h_y0 : vr_R y0) (μ : vr_M), vr_J p l e ({ frames := 31, cells := 0, slots := 0, locals := 985 } : Room) s m args below meth c 4 0 0 G (vr_Z (vr_QI G) G args s below) 79 [(0, .ref (vr_ad G 50)), (2, .int (vr_I x2))] [.int (vr_I y0)] μ (fX6_readClause_B79 x2 y0 μ) := by
    intro x2 h_x2 y0 h_y0 μ
    unfold fX6_readClause_B79
    refine jr_istore_n C0 dX6_readClause_79 rfl (by decide) (lv' := [(3, .int (vr_I y0)), (0, .ref (vr_ad G 50)), (2, .int (vr_I x2))]) rfl ?_
    refine jr_aload_n C0 1 dX6_readClause_80 rfl rfl ?_
    refine jr_getr C0 (by decide) kd_50 (by decide) rfl wx_X6 (i := 1) (by decide) wf_X6_15 (j := 45) rfl dX6_readClause_81 ?_
    refine jr_iload_n C0 2 dX6_readClause_84 rfl rfl ?_
    refine jr_vV0 C0 (by decide) kd_45 (by decide) rfl (ct_X3_putGive l G (by decide) kd_45 x2 h_x2 _) mi_X3_putGive wm_X6_59 ⟨Nat.le_of_ble_eq_true rfl, Nat.le_of_ble_eq_true rfl⟩ ⟨rfl, rfl⟩ (As := [.int (vr_I x2)]) rfl (st := []) rfl (Nat.le_of_ble_eq_true rfl) dX6_readClause_85 (fun r1 => ?_)
    refine jr_iload_n C0 0 dX6_readClause_88 rfl rfl ?_
    refine jr_gd (fun g2 => ?_)
    exact jr_zret C0 h_y0 (vr_nz g2) dX6_readClause_89
  have B78 : ∀ (x2 : Int) (h_x2 : vr_R x2) (μ : vr_M), vr_J p l e ({ frames := 31, cells := 0, slots := 0, locals := 985 } : Room) s m args below meth c 4 0 0 G (vr_Z (vr_QI G) G args s below) 78 [(0, .ref (vr_ad G 50)), (2, .int (vr_I x2))] [] μ (fX6_readClause_B78 x2 μ) := by
    intro x2 h_x2 μ
    unfold fX6_readClause_B78
    refine jr_iconst C0 dX6_readClause_78 ?_
    exact B79 x2 h_x2 0 (⟨by decide, by decide⟩) _
  unfold fX6_readClause
  refine jr_aload_n C0 0 dX6_readClause_0 rfl rfl ?_
  refine jr_vI C0 (by decide) kd_50 (by decide) rfl (ct_X6_readWord l G  _) mi_X6_readWord wm_X6_41 ⟨Nat.le_of_ble_eq_true rfl, Nat.le_of_ble_eq_true rfl⟩ ⟨rfl, rfl⟩ (As := []) rfl (st := []) rfl (Nat.le_of_ble_eq_true rfl) dX6_readClause_1 (fun r3 hr3 => ?_)
  refine jr_istore_n C0 dX6_readClause_4 rfl (by decide) (lv' := [(1, .int (vr_I r3.1)), (0, .ref (vr_ad G 50))]) rfl ?_
  refine jr_iload_n C0 0 dX6_readClause_5 rfl rfl ?_
  refine jr_if_ge C0 hr3 dX6_readClause_6 (tgt := 11) (by decide) ?_ ?_
  · refine jr_iload_n C0 0 dX6_readClause_11 rfl rfl ?_
    refine jr_iconst C0 dX6_readClause_12 ?_
    refine jr_icmp_ne C0 hr3 (⟨by decide, by decide⟩) dX6_readClause_13 (tgt := 31) (by decide) ?_ ?_
    · refine jr_aload_n C0 1 dX6_readClause_31 rfl rfl ?_
      refine jr_vI C0 (by decide) kd_50 (by decide) rfl (ct_X6_readNumber l G  _) mi_X6_readNumber wm_X6_52 ⟨Nat.le_of_ble_eq_true rfl, Nat.le_of_ble_eq_true rfl⟩ ⟨rfl, rfl⟩ (As := []) rfl (st := []) rfl (Nat.le_of_ble_eq_true rfl) dX6_readClause_32 (fun r4 hr4 => ?_)
      refine jr_istore_n C0 dX6_readClause_35 rfl (by decide) (lv' := [(2, .int (vr_I r4.1)), (1, .int (vr_I r3.1)), (0, .ref (vr_ad G 50))]) rfl ?_
      refine jr_iload_n C0 0 dX6_readClause_36 rfl rfl ?_
      refine jr_if_ge C0 hr4 dX6_readClause_37 (tgt := 42) (by decide) ?_ ?_
      · refine jr_iload_n C0 1 dX6_readClause_42 rfl rfl ?_
        refine jr_if_eq C0 hr3 dX6_readClause_43 (tgt := 57) (by decide) ?_ ?_
        · refine jr_aload_n C0 2 dX6_readClause_57 rfl rfl ?_
          refine jr_bipush C0 dX6_readClause_58 rfl ?_
          refine jr_vI C0 (by decide) kd_50 (by decide) rfl (ct_X6_take l G 32 (⟨by decide, by decide⟩) _) mi_X6_take wm_X6_37 ⟨Nat.le_of_ble_eq_true rfl, Nat.le_of_ble_eq_true rfl⟩ ⟨rfl, rfl⟩ (As := [.int (vr_I 32)]) rfl (st := []) rfl (Nat.le_of_ble_eq_true rfl) dX6_readClause_60 (fun r5 hr5 => ?_)
          refine jr_if_eq C0 hr5 dX6_readClause_63 (tgt := 78) (by decide) ?_ ?_
          · refine jr_sub [2, 0] rfl ?_
            exact B78 r4.1 hr4 _
          refine jr_aload_n C0 2 dX6_readClause_66 rfl rfl ?_
          refine jr_iconst C0 dX6_readClause_67 ?_
          refine jr_vI C0 (by decide) kd_50 (by decide) rfl (ct_X6_readAny l G (hrc_X6_readOpen l G) 0 (⟨by decide, by decide⟩) _) mi_X6_readAny wm_X6_45 ⟨Nat.le_of_ble_eq_true rfl, Nat.le_of_ble_eq_true rfl⟩ ⟨rfl, rfl⟩ (As := [.int (vr_I 0)]) rfl (st := []) rfl (Nat.le_of_ble_eq_true rfl) dX6_readClause_68 (fun r6 hr6 => ?_)
          refine jr_if_eq C0 hr6 dX6_readClause_71 (tgt := 78) (by decide) ?_ ?_
          · refine jr_sub [2, 0] rfl ?_
            exact B78 r4.1 hr4 _
          refine jr_iconst C0 dX6_readClause_74 ?_
          refine jr_goto C0 dX6_readClause_75 (tgt := 79) (by decide) ?_
          refine jr_sub [2, 0] rfl ?_
          exact B79 r4.1 hr4 1 (⟨by decide, by decide⟩) _
        refine jr_aload_n C0 2 dX6_readClause_46 rfl rfl ?_
        refine jr_getr C0 (by decide) kd_50 (by decide) rfl wx_X6 (i := 1) (by decide) wf_X6_15 (j := 45) rfl dX6_readClause_47 ?_
        refine jr_iload_n C0 1 dX6_readClause_50 rfl rfl ?_
        refine jr_iload_n C0 0 dX6_readClause_51 rfl rfl ?_
        refine jr_vV0 C0 (by decide) kd_45 (by decide) rfl (ct_X3_putNumber l G (by decide) kd_45 r3.1 hr3 r4.1 hr4 _) mi_X3_putNumber wm_X6_55 ⟨Nat.le_of_ble_eq_true rfl, Nat.le_of_ble_eq_true rfl⟩ ⟨rfl, rfl⟩ (As := [.int (vr_I r3.1), .int (vr_I r4.1)]) rfl (st := []) rfl (Nat.le_of_ble_eq_true rfl) dX6_readClause_52 (fun r7 => ?_)
        refine jr_iconst C0 dX6_readClause_55 ?_
        exact jr_zret C0 (⟨by decide, by decide⟩) (vr_nz (Or.inr rfl)) dX6_readClause_56
      refine jr_iconst C0 dX6_readClause_40 ?_
      exact jr_zret C0 (⟨by decide, by decide⟩) (vr_nz (Or.inl rfl)) dX6_readClause_41
    refine jr_aload_n C0 1 dX6_readClause_16 rfl rfl ?_
    refine jr_iconst C0 dX6_readClause_17 ?_
    refine jr_vI C0 (by decide) kd_50 (by decide) rfl (ct_X6_readAny l G (hrc_X6_readOpen l G) 0 (⟨by decide, by decide⟩) _) mi_X6_readAny wm_X6_45 ⟨Nat.le_of_ble_eq_true rfl, Nat.le_of_ble_eq_true rfl⟩ ⟨rfl, rfl⟩ (As := [.int (vr_I 0)]) rfl (st := []) rfl (Nat.le_of_ble_eq_true rfl) dX6_readClause_18 (fun r8 hr8 => ?_)
    refine jr_istore_n C0 dX6_readClause_21 rfl (by decide) (lv' := [(2, .int (vr_I r8.1)), (1, .int (vr_I r3.1)), (0, .ref (vr_ad G 50))]) rfl ?_
    refine jr_aload_n C0 2 dX6_readClause_22 rfl rfl ?_
    refine jr_getr C0 (by decide) kd_50 (by decide) rfl wx_X6 (i := 1) (by decide) wf_X6_15 (j := 45) rfl dX6_readClause_23 ?_
    refine jr_vV0 C0 (by decide) kd_45 (by decide) rfl (ct_X3_putWear l G (by decide) kd_45 _) mi_X3_putWear wm_X6_49 ⟨Nat.le_of_ble_eq_true rfl, Nat.le_of_ble_eq_true rfl⟩ ⟨rfl, rfl⟩ (As := []) rfl (st := []) rfl (Nat.le_of_ble_eq_true rfl) dX6_readClause_26 (fun r9 => ?_)
    refine jr_iload_n C0 0 dX6_readClause_29 rfl rfl ?_
    refine jr_gd (fun g10 => ?_)
    exact jr_zret C0 hr8 (vr_nz g10) dX6_readClause_30
  refine jr_iconst C0 dX6_readClause_9 ?_
  exact jr_zret C0 (⟨by decide, by decide⟩) (vr_nz (Or.inl rfl)) dX6_readClause_10
theorem dX6_fault_0 : decode cX6_fault 0 = .ok (.aload_n 0, 1) := by decide +kernel
theorem dX6_fault_1 : decode cX6_fault 1 = .ok (.getfield 15, 3) := by decide +kernel
theorem dX6_fault_4 : decode cX6_fault 4 = .ok (.invokevirtual 19, 3) := by decide +kernel
theorem dX6_fault_7 : decode cX6_fault 7 = .ok (.aload_n 0, 1) := by decide +kernel
theorem dX6_fault_8 : decode cX6_fault 8 = .ok (.iconst 0, 1) := by decide +kernel
theorem dX6_fault_9 : decode cX6_fault 9 = .ok (.putfield 24, 3) := by decide +kernel
theorem dX6_fault_12 : decode cX6_fault 12 = .ok (.iconst 1, 1) := by decide +kernel
theorem dX6_fault_13 : decode cX6_fault 13 = .ok (.istore_n 1, 1) := by decide +kernel
theorem dX6_fault_14 : decode cX6_fault 14 = .ok (.iload_n 1, 1) := by decide +kernel
theorem dX6_fault_15 : decode cX6_fault 15 = .ok (.bipush 10, 2) := by decide +kernel
theorem dX6_fault_17 : decode cX6_fault 17 = .ok (.if_icmp .gt 57, 3) := by decide +kernel
theorem dX6_fault_20 : decode cX6_fault 20 = .ok (.aload_n 0, 1) := by decide +kernel
theorem dX6_fault_21 : decode cX6_fault 21 = .ok (.invokevirtual 28, 3) := by decide +kernel
theorem dX6_fault_24 : decode cX6_fault 24 = .ok (.ifCond .ne 8, 3) := by decide +kernel
theorem dX6_fault_27 : decode cX6_fault 27 = .ok (.aload_n 0, 1) := by decide +kernel
theorem dX6_fault_28 : decode cX6_fault 28 = .ok (.getfield 24, 3) := by decide +kernel
theorem dX6_fault_31 : decode cX6_fault 31 = .ok (.ireturn, 1) := by decide +kernel
theorem dX6_fault_32 : decode cX6_fault 32 = .ok (.aload_n 0, 1) := by decide +kernel
theorem dX6_fault_33 : decode cX6_fault 33 = .ok (.getfield 24, 3) := by decide +kernel
theorem dX6_fault_36 : decode cX6_fault 36 = .ok (.aload_n 0, 1) := by decide +kernel
theorem dX6_fault_37 : decode cX6_fault 37 = .ok (.getfield 9, 3) := by decide +kernel
theorem dX6_fault_40 : decode cX6_fault 40 = .ok (.getfield 32, 3) := by decide +kernel
theorem dX6_fault_43 : decode cX6_fault 43 = .ok (.if_icmp .lt 5, 3) := by decide +kernel
theorem dX6_fault_46 : decode cX6_fault 46 = .ok (.iconst (-1), 1) := by decide +kernel
theorem dX6_fault_47 : decode cX6_fault 47 = .ok (.ireturn, 1) := by decide +kernel
theorem dX6_fault_48 : decode cX6_fault 48 = .ok (.iload_n 1, 1) := by decide +kernel
theorem dX6_fault_49 : decode cX6_fault 49 = .ok (.bipush 10, 2) := by decide +kernel
theorem dX6_fault_51 : decode cX6_fault 51 = .ok (.if_icmp .eq 12, 3) := by decide +kernel
theorem dX6_fault_54 : decode cX6_fault 54 = .ok (.aload_n 0, 1) := by decide +kernel
theorem dX6_fault_55 : decode cX6_fault 55 = .ok (.bipush 59, 2) := by decide +kernel
theorem dX6_fault_57 : decode cX6_fault 57 = .ok (.invokevirtual 37, 3) := by decide +kernel
theorem dX6_fault_60 : decode cX6_fault 60 = .ok (.ifCond .ne 8, 3) := by decide +kernel
theorem dX6_fault_63 : decode cX6_fault 63 = .ok (.aload_n 0, 1) := by decide +kernel
theorem dX6_fault_64 : decode cX6_fault 64 = .ok (.getfield 24, 3) := by decide +kernel
theorem dX6_fault_67 : decode cX6_fault 67 = .ok (.ireturn, 1) := by decide +kernel
theorem dX6_fault_68 : decode cX6_fault 68 = .ok (.iinc 1 1, 3) := by decide +kernel
theorem dX6_fault_71 : decode cX6_fault 71 = .ok (.goto (-57), 3) := by decide +kernel
theorem dX6_fault_74 : decode cX6_fault 74 = .ok (.aload_n 0, 1) := by decide +kernel
theorem dX6_fault_75 : decode cX6_fault 75 = .ok (.getfield 24, 3) := by decide +kernel
theorem dX6_fault_78 : decode cX6_fault 78 = .ok (.ireturn, 1) := by decide +kernel
def fX6_fault_B63 (μ : vr_M) : Option (Int × vr_M) :=
  vr_gd (vr_R (μ 50 2)) (some (μ 50 2, μ))
def fX6_fault_L14 : Nat → Int → vr_M → Option (Int × vr_M)
  | 0, _, _ => none
  | n + 1, x1, μ => if 10 < x1 then vr_gd (vr_R (μ 50 2)) (some (μ 50 2, μ)) else (fX6_readClause  μ).bind (fun r3 => if ¬ r3.1 = 0 then vr_gd (vr_R (r3.2 50 2)) (vr_gd (vr_R (r3.2 13 1)) (if (r3.2 50 2) < (r3.2 13 1) then if x1 = 10 then fX6_fault_B63 r3.2 else (fX6_take 59 r3.2).bind (fun r6 => if ¬ r6.1 = 0 then vr_gd (vr_R (x1 + 1)) ((fX6_fault_L14 n) (x1 + 1) r6.2) else fX6_fault_B63 r6.2) else some ((-1), r3.2))) else vr_gd (vr_R (r3.2 50 2)) (some (r3.2 50 2, r3.2)))
def fX6_fault (μ : vr_M) : Option (Int × vr_M) :=
  (fX3_clear 45 μ).bind (fun r9 => fX6_fault_L14 9000 1 (vr_u r9.2 50 2 0))
set_option maxRecDepth 100000 in
set_option maxHeartbeats 4000000 in
theorem ct_X6_fault (l : Launch) (G : vr_G) (μ : vr_M) : vr_CI l yX6_fault cX6_fault 2 (some .int) ({ frames := 32, cells := 0, slots := 0, locals := 1008 } : Room) G [.ref (vr_ad G 50)] μ (fX6_fault μ) := by
  refine vr_start (own := RX6) (by decide) rfl (Nat.le_of_ble_eq_true rfl) (fun p e s m args below meth c C0 => ?_)
  show vr_J p l e _ s m args below meth c 2 0 0 G (vr_Z (vr_QI G) G args s below) 0 [(0, .ref (vr_ad G 50))] [] μ _
  have B63 : ∀ (μ : vr_M), vr_J p l e ({ frames := 32, cells := 0, slots := 0, locals := 1008 } : Room) s m args below meth c 2 0 0 G (vr_Z (vr_QI G) G args s below) 63 [(0, .ref (vr_ad G 50))] [] μ (fX6_fault_B63 μ) := by
    intro μ
    unfold fX6_fault_B63
    refine jr_aload_n C0 0 dX6_fault_63 rfl rfl ?_
    refine jr_geti C0 (by decide) kd_50 (by decide) rfl wx_X6 (i := 2) (by decide) wf_X6_24 rfl dX6_fault_64 ?_
    refine jr_gd (fun g1 => ?_)
    exact jr_iret C0 g1 dX6_fault_67
  have L14 : ∀ (n : Nat) (x1 : Int) (h_x1 : vr_R x1) (μ : vr_M), vr_J p l e ({ frames := 32, cells := 0, slots := 0, locals := 1008 } : Room) s m args below meth c 2 0 0 G (vr_Z (vr_QI G) G args s below) 14 [(0, .ref (vr_ad G 50)), (1, .int (vr_I x1))] [] μ (fX6_fault_L14 n x1 μ) := by
    intro n14
    induction n14 with
    | zero => intros; exact jr_none
    | succ n14 ih14 =>
      intro x1 h_x1 μ
      rw [fX6_fault_L14.eq_2]
      refine jr_iload_n C0 1 dX6_fault_14 rfl rfl ?_
      refine jr_bipush C0 dX6_fault_15 rfl ?_
      refine jr_icmp_gt C0 h_x1 (⟨by decide, by decide⟩) dX6_fault_17 (tgt := 74) (by decide) ?_ ?_
      · refine jr_aload_n C0 0 dX6_fault_74 rfl rfl ?_
        refine jr_geti C0 (by decide) kd_50 (by decide) rfl wx_X6 (i := 2) (by decide) wf_X6_24 rfl dX6_fault_75 ?_
        refine jr_gd (fun g2 => ?_)
        exact jr_iret C0 g2 dX6_fault_78
      refine jr_aload_n C0 0 dX6_fault_20 rfl rfl ?_
      refine jr_vI C0 (by decide) kd_50 (by decide) rfl (ct_X6_readClause l G  _) mi_X6_readClause wm_X6_28 ⟨Nat.le_of_ble_eq_true rfl, Nat.le_of_ble_eq_true rfl⟩ ⟨rfl, rfl⟩ (As := []) rfl (st := []) rfl (Nat.le_of_ble_eq_true rfl) dX6_fault_21 (fun r3 hr3 => ?_)
      refine jr_if_ne C0 hr3 dX6_fault_24 (tgt := 32) (by decide) ?_ ?_
      · refine jr_aload_n C0 0 dX6_fault_32 rfl rfl ?_
        refine jr_geti C0 (by decide) kd_50 (by decide) rfl wx_X6 (i := 2) (by decide) wf_X6_24 rfl dX6_fault_33 ?_
        refine jr_aload_n C0 0 dX6_fault_36 rfl rfl ?_
        refine jr_getr C0 (by decide) kd_50 (by decide) rfl wx_X6 (i := 0) (by decide) wf_X6_9 (j := 13) rfl dX6_fault_37 ?_
        refine jr_geti C0 (by decide) kd_13 (by decide) rfl wx_X4 (i := 1) (by decide) wf_X6_32 rfl dX6_fault_40 ?_
        refine jr_gd (fun g4 => ?_)
        refine jr_gd (fun g5 => ?_)
        refine jr_icmp_lt C0 g4 g5 dX6_fault_43 (tgt := 48) (by decide) ?_ ?_
        · refine jr_iload_n C0 1 dX6_fault_48 rfl rfl ?_
          refine jr_bipush C0 dX6_fault_49 rfl ?_
          refine jr_icmp_eq C0 h_x1 (⟨by decide, by decide⟩) dX6_fault_51 (tgt := 63) (by decide) ?_ ?_
          · refine jr_sub [0] rfl ?_
            exact B63 _
          refine jr_aload_n C0 0 dX6_fault_54 rfl rfl ?_
          refine jr_bipush C0 dX6_fault_55 rfl ?_
          refine jr_vI C0 (by decide) kd_50 (by decide) rfl (ct_X6_take l G 59 (⟨by decide, by decide⟩) _) mi_X6_take wm_X6_37 ⟨Nat.le_of_ble_eq_true rfl, Nat.le_of_ble_eq_true rfl⟩ ⟨rfl, rfl⟩ (As := [.int (vr_I 59)]) rfl (st := []) rfl (Nat.le_of_ble_eq_true rfl) dX6_fault_57 (fun r6 hr6 => ?_)
          refine jr_if_ne C0 hr6 dX6_fault_60 (tgt := 68) (by decide) ?_ ?_
          · refine jr_iinc C0 (q := 1) dX6_fault_68 rfl (by decide) (lv' := [(1, .int (vr_I (x1 + 1))), (0, .ref (vr_ad G 50))]) rfl ?_
            refine jr_goto C0 dX6_fault_71 (tgt := 14) (by decide) ?_
            refine jr_gd (fun g7 => ?_)
            refine jr_sub [1, 0] rfl ?_
            exact ih14 (x1 + 1) g7 _
          refine jr_sub [0] rfl ?_
          exact B63 _
        refine jr_iconst C0 dX6_fault_46 ?_
        exact jr_iret C0 (⟨by decide, by decide⟩) dX6_fault_47
      refine jr_aload_n C0 0 dX6_fault_27 rfl rfl ?_
      refine jr_geti C0 (by decide) kd_50 (by decide) rfl wx_X6 (i := 2) (by decide) wf_X6_24 rfl dX6_fault_28 ?_
      refine jr_gd (fun g8 => ?_)
      exact jr_iret C0 g8 dX6_fault_31
  unfold fX6_fault
  refine jr_aload_n C0 0 dX6_fault_0 rfl rfl ?_
  refine jr_getr C0 (by decide) kd_50 (by decide) rfl wx_X6 (i := 1) (by decide) wf_X6_15 (j := 45) rfl dX6_fault_1 ?_
  refine jr_vV0 C0 (by decide) kd_45 (by decide) rfl (ct_X3_clear l G (by decide) kd_45 _) mi_X3_clear wm_X6_19 ⟨Nat.le_of_ble_eq_true rfl, Nat.le_of_ble_eq_true rfl⟩ ⟨rfl, rfl⟩ (As := []) rfl (st := []) rfl (Nat.le_of_ble_eq_true rfl) dX6_fault_4 (fun r9 => ?_)
  refine jr_aload_n C0 0 dX6_fault_7 rfl rfl ?_
  refine jr_iconst C0 dX6_fault_8 ?_
  refine jr_puti C0 (by decide) kd_50 (by decide) rfl wx_X6 (i := 2) (by decide) wf_X6_24 rfl tyX6_ok nmX6 rfl rfl rfl dX6_fault_9 ?_
  refine jr_iconst C0 dX6_fault_12 ?_
  refine jr_istore_n C0 dX6_fault_13 rfl (by decide) (lv' := [(1, .int (vr_I 1)), (0, .ref (vr_ad G 50))]) rfl ?_
  refine jr_sub [1, 0] rfl ?_
  exact L14 9000 1 (⟨by decide, by decide⟩) _
theorem dX7_begin_0 : decode cX7_begin 0 = .ok (.aload_n 0, 1) := by decide +kernel
theorem dX7_begin_1 : decode cX7_begin 1 = .ok (.getfield 12, 3) := by decide +kernel
theorem dX7_begin_4 : decode cX7_begin 4 = .ok (.aload_n 0, 1) := by decide +kernel
theorem dX7_begin_5 : decode cX7_begin 5 = .ok (.getfield 21, 3) := by decide +kernel
theorem dX7_begin_8 : decode cX7_begin 8 = .ok (.invokevirtual 38, 3) := by decide +kernel
theorem dX7_begin_11 : decode cX7_begin 11 = .ok (.aload_n 0, 1) := by decide +kernel
theorem dX7_begin_12 : decode cX7_begin 12 = .ok (.getfield 34, 3) := by decide +kernel
theorem dX7_begin_15 : decode cX7_begin 15 = .ok (.invokevirtual 42, 3) := by decide +kernel
theorem dX7_begin_18 : decode cX7_begin 18 = .ok (.aload_n 0, 1) := by decide +kernel
theorem dX7_begin_19 : decode cX7_begin 19 = .ok (.iconst 0, 1) := by decide +kernel
theorem dX7_begin_20 : decode cX7_begin 20 = .ok (.putfield 45, 3) := by decide +kernel
theorem dX7_begin_23 : decode cX7_begin 23 = .ok (.aload_n 0, 1) := by decide +kernel
theorem dX7_begin_24 : decode cX7_begin 24 = .ok (.iconst 0, 1) := by decide +kernel
theorem dX7_begin_25 : decode cX7_begin 25 = .ok (.putfield 49, 3) := by decide +kernel
theorem dX7_begin_28 : decode cX7_begin 28 = .ok (.aload_n 0, 1) := by decide +kernel
theorem dX7_begin_29 : decode cX7_begin 29 = .ok (.bipush (-5), 2) := by decide +kernel
theorem dX7_begin_31 : decode cX7_begin 31 = .ok (.putfield 52, 3) := by decide +kernel
theorem dX7_begin_34 : decode cX7_begin 34 = .ok (.aload_n 0, 1) := by decide +kernel
theorem dX7_begin_35 : decode cX7_begin 35 = .ok (.iconst 0, 1) := by decide +kernel
theorem dX7_begin_36 : decode cX7_begin 36 = .ok (.putfield 55, 3) := by decide +kernel
theorem dX7_begin_39 : decode cX7_begin 39 = .ok (.return_, 1) := by decide +kernel
def fX7_begin (μ : vr_M) : Option (Int × vr_M) :=
  (fX2_become 52 2 μ).bind (fun r1 => (fX0_lookRound  r1.2).bind (fun r2 => some (0, vr_u (vr_u (vr_u (vr_u r2.2 51 4 0) 51 5 0) 51 6 (-5)) 51 7 0)))
set_option maxRecDepth 100000 in
set_option maxHeartbeats 4000000 in
theorem ct_X7_begin (l : Launch) (G : vr_G) (μ : vr_M) : vr_CV l yX7_begin cX7_begin 1 none ({ frames := 4, cells := 0, slots := 0, locals := 95 } : Room) G [.ref (vr_ad G 51)] μ (fX7_begin μ) := by
  refine vr_start (own := RX7) (by decide) rfl (Nat.le_of_ble_eq_true rfl) (fun p e s m args below meth c C0 => ?_)
  show vr_J p l e _ s m args below meth c 1 0 0 G (vr_Z (vr_QV G) G args s below) 0 [(0, .ref (vr_ad G 51))] [] μ _
  unfold fX7_begin
  refine jr_aload_n C0 0 dX7_begin_0 rfl rfl ?_
  refine jr_getr C0 (by decide) kd_51 (by decide) rfl wx_X7 (i := 2) (by decide) wf_X7_12 (j := 52) rfl dX7_begin_1 ?_
  refine jr_aload_n C0 0 dX7_begin_4 rfl rfl ?_
  refine jr_getr C0 (by decide) kd_51 (by decide) rfl wx_X7 (i := 0) (by decide) wf_X7_21 (j := 2) rfl dX7_begin_5 ?_
  refine jr_vV0 C0 (by decide) kd_52 (by decide) rfl (ct_X2_become l G (by decide) kd_52 (by decide) kd_2 _) mi_X2_become wm_X7_38 ⟨Nat.le_of_ble_eq_true rfl, Nat.le_of_ble_eq_true rfl⟩ ⟨rfl, rfl⟩ (As := [.ref (vr_ad G 2)]) rfl (st := []) rfl (Nat.le_of_ble_eq_true rfl) dX7_begin_8 (fun r1 => ?_)
  refine jr_aload_n C0 0 dX7_begin_11 rfl rfl ?_
  refine jr_getr C0 (by decide) kd_51 (by decide) rfl wx_X7 (i := 3) (by decide) wf_X7_34 (j := 58) rfl dX7_begin_12 ?_
  refine jr_vV0 C0 (by decide) kd_58 (by decide) rfl (ct_X0_lookRound l G  _) mi_X0_lookRound wm_X7_42 ⟨Nat.le_of_ble_eq_true rfl, Nat.le_of_ble_eq_true rfl⟩ ⟨rfl, rfl⟩ (As := []) rfl (st := []) rfl (Nat.le_of_ble_eq_true rfl) dX7_begin_15 (fun r2 => ?_)
  refine jr_aload_n C0 0 dX7_begin_18 rfl rfl ?_
  refine jr_iconst C0 dX7_begin_19 ?_
  refine jr_puti C0 (by decide) kd_51 (by decide) rfl wx_X7 (i := 4) (by decide) wf_X7_45 rfl tyX7_ok nmX7 rfl rfl rfl dX7_begin_20 ?_
  refine jr_aload_n C0 0 dX7_begin_23 rfl rfl ?_
  refine jr_iconst C0 dX7_begin_24 ?_
  refine jr_puti C0 (by decide) kd_51 (by decide) rfl wx_X7 (i := 5) (by decide) wf_X7_49 rfl tyX7_ok nmX7 rfl rfl rfl dX7_begin_25 ?_
  refine jr_aload_n C0 0 dX7_begin_28 rfl rfl ?_
  refine jr_bipush C0 dX7_begin_29 rfl ?_
  refine jr_puti C0 (by decide) kd_51 (by decide) rfl wx_X7 (i := 6) (by decide) wf_X7_52 rfl tyX7_ok nmX7 rfl rfl rfl dX7_begin_31 ?_
  refine jr_aload_n C0 0 dX7_begin_34 rfl rfl ?_
  refine jr_iconst C0 dX7_begin_35 ?_
  refine jr_puti C0 (by decide) kd_51 (by decide) rfl wx_X7 (i := 7) (by decide) wf_X7_55 rfl tyX7_ok nmX7 rfl rfl rfl dX7_begin_36 ?_
  exact jr_vret C0 dX7_begin_39
theorem dX7_staysFed_0 : decode cX7_staysFed 0 = .ok (.iconst 0, 1) := by decide +kernel
theorem dX7_staysFed_1 : decode cX7_staysFed 1 = .ok (.istore_n 3, 1) := by decide +kernel
theorem dX7_staysFed_2 : decode cX7_staysFed 2 = .ok (.iload_n 3, 1) := by decide +kernel
theorem dX7_staysFed_3 : decode cX7_staysFed 3 = .ok (.iload_n 1, 1) := by decide +kernel
theorem dX7_staysFed_4 : decode cX7_staysFed 4 = .ok (.if_icmp .ge 41, 3) := by decide +kernel
theorem dX7_staysFed_7 : decode cX7_staysFed 7 = .ok (.aload_n 0, 1) := by decide +kernel
theorem dX7_staysFed_8 : decode cX7_staysFed 8 = .ok (.getfield 49, 3) := by decide +kernel
theorem dX7_staysFed_11 : decode cX7_staysFed 11 = .ok (.ifCond .ne 34, 3) := by decide +kernel
theorem dX7_staysFed_14 : decode cX7_staysFed 14 = .ok (.aload_n 0, 1) := by decide +kernel
theorem dX7_staysFed_15 : decode cX7_staysFed 15 = .ok (.getfield 34, 3) := by decide +kernel
theorem dX7_staysFed_18 : decode cX7_staysFed 18 = .ok (.invokevirtual 94, 3) := by decide +kernel
theorem dX7_staysFed_21 : decode cX7_staysFed 21 = .ok (.istore 4, 2) := by decide +kernel
theorem dX7_staysFed_23 : decode cX7_staysFed 23 = .ok (.aload_n 0, 1) := by decide +kernel
theorem dX7_staysFed_24 : decode cX7_staysFed 24 = .ok (.aload_n 0, 1) := by decide +kernel
theorem dX7_staysFed_25 : decode cX7_staysFed 25 = .ok (.getfield 34, 3) := by decide +kernel
theorem dX7_staysFed_28 : decode cX7_staysFed 28 = .ok (.iload 4, 2) := by decide +kernel
theorem dX7_staysFed_30 : decode cX7_staysFed 30 = .ok (.invokevirtual 98, 3) := by decide +kernel
theorem dX7_staysFed_33 : decode cX7_staysFed 33 = .ok (.iload 4, 2) := by decide +kernel
theorem dX7_staysFed_35 : decode cX7_staysFed 35 = .ok (.iload_n 2, 1) := by decide +kernel
theorem dX7_staysFed_36 : decode cX7_staysFed 36 = .ok (.invokevirtual 102, 3) := by decide +kernel
theorem dX7_staysFed_39 : decode cX7_staysFed 39 = .ok (.iinc 3 1, 3) := by decide +kernel
theorem dX7_staysFed_42 : decode cX7_staysFed 42 = .ok (.goto (-40), 3) := by decide +kernel
theorem dX7_staysFed_45 : decode cX7_staysFed 45 = .ok (.aload_n 0, 1) := by decide +kernel
theorem dX7_staysFed_46 : decode cX7_staysFed 46 = .ok (.getfield 49, 3) := by decide +kernel
theorem dX7_staysFed_49 : decode cX7_staysFed 49 = .ok (.ifCond .ne 7, 3) := by decide +kernel
theorem dX7_staysFed_52 : decode cX7_staysFed 52 = .ok (.iconst 1, 1) := by decide +kernel
theorem dX7_staysFed_53 : decode cX7_staysFed 53 = .ok (.goto 4, 3) := by decide +kernel
theorem dX7_staysFed_56 : decode cX7_staysFed 56 = .ok (.iconst 0, 1) := by decide +kernel
theorem dX7_staysFed_57 : decode cX7_staysFed 57 = .ok (.ireturn, 1) := by decide +kernel
def fX7_staysFed_B57 (y0 : Int) (μ : vr_M) : Option (Int × vr_M) :=
  vr_gd (y0 = 0 ∨ y0 = 1) (some (y0, μ))
def fX7_staysFed_B45 (μ : vr_M) : Option (Int × vr_M) :=
  vr_gd (vr_R (μ 51 5)) (if ¬ (μ 51 5) = 0 then fX7_staysFed_B57 0 μ else fX7_staysFed_B57 1 μ)
def fX7_staysFed_L2 : Nat → Int → Int → Int → vr_M → Option (Int × vr_M)
  | 0, _, _, _, _ => none
  | n + 1, x1, x2, x3, μ => if x1 ≤ x3 then fX7_staysFed_B45 μ else vr_gd (vr_R (μ 51 5)) (if ¬ (μ 51 5) = 0 then fX7_staysFed_B45 μ else (fX0_goal  μ).bind (fun r4 => (fX0_picks r4.1 r4.2).bind (fun r5 => (fX7_spend r5.1 r4.1 x2 r5.2).bind (fun r6 => vr_gd (vr_R (x3 + 1)) ((fX7_staysFed_L2 n) x1 x2 (x3 + 1) r6.2)))))
def fX7_staysFed (a0 : Int) (a1 : Int) (μ : vr_M) : Option (Int × vr_M) :=
  fX7_staysFed_L2 9000 a0 a1 0 μ
set_option maxRecDepth 100000 in
set_option maxHeartbeats 4000000 in
theorem ct_X7_staysFed (l : Launch) (G : vr_G) (a0 : Int) (h_a0 : vr_R a0) (a1 : Int) (h_a1 : vr_R a1) (μ : vr_M) : vr_CI l yX7_staysFed cX7_staysFed 5 (some .boolean) ({ frames := 5, cells := 0, slots := 0, locals := 123 } : Room) G [.ref (vr_ad G 51), .int (vr_I a0), .int (vr_I a1)] μ (fX7_staysFed a0 a1 μ) := by
  refine vr_start (own := RX7) (by decide) rfl (Nat.le_of_ble_eq_true rfl) (fun p e s m args below meth c C0 => ?_)
  show vr_J p l e _ s m args below meth c 5 0 0 G (vr_Z (vr_QI G) G args s below) 0 [(0, .ref (vr_ad G 51)), (1, .int (vr_I a0)), (2, .int (vr_I a1))] [] μ _
  have B57 : ∀ (y0 : Int) (h_y0 : vr_R y0) (μ : vr_M), vr_J p l e ({ frames := 5, cells := 0, slots := 0, locals := 123 } : Room) s m args below meth c 5 0 0 G (vr_Z (vr_QI G) G args s below) 57 [] [.int (vr_I y0)] μ (fX7_staysFed_B57 y0 μ) := by
    intro y0 h_y0 μ
    unfold fX7_staysFed_B57
    refine jr_gd (fun g1 => ?_)
    exact jr_zret C0 h_y0 (vr_nz g1) dX7_staysFed_57
  have B45 : ∀ (μ : vr_M), vr_J p l e ({ frames := 5, cells := 0, slots := 0, locals := 123 } : Room) s m args below meth c 5 0 0 G (vr_Z (vr_QI G) G args s below) 45 [(0, .ref (vr_ad G 51))] [] μ (fX7_staysFed_B45 μ) := by
    intro μ
    unfold fX7_staysFed_B45
    refine jr_aload_n C0 0 dX7_staysFed_45 rfl rfl ?_
    refine jr_geti C0 (by decide) kd_51 (by decide) rfl wx_X7 (i := 5) (by decide) wf_X7_49 rfl dX7_staysFed_46 ?_
    refine jr_gd (fun g2 => ?_)
    refine jr_if_ne C0 g2 dX7_staysFed_49 (tgt := 56) (by decide) ?_ ?_
    · refine jr_iconst C0 dX7_staysFed_56 ?_
      refine jr_sub [] rfl ?_
      exact B57 0 (⟨by decide, by decide⟩) _
    refine jr_iconst C0 dX7_staysFed_52 ?_
    refine jr_goto C0 dX7_staysFed_53 (tgt := 57) (by decide) ?_
    refine jr_sub [] rfl ?_
    exact B57 1 (⟨by decide, by decide⟩) _
  have L2 : ∀ (n : Nat) (x1 : Int) (h_x1 : vr_R x1) (x2 : Int) (h_x2 : vr_R x2) (x3 : Int) (h_x3 : vr_R x3) (μ : vr_M), vr_J p l e ({ frames := 5, cells := 0, slots := 0, locals := 123 } : Room) s m args below meth c 5 0 0 G (vr_Z (vr_QI G) G args s below) 2 [(0, .ref (vr_ad G 51)), (1, .int (vr_I x1)), (2, .int (vr_I x2)), (3, .int (vr_I x3))] [] μ (fX7_staysFed_L2 n x1 x2 x3 μ) := by
    intro n2
    induction n2 with
    | zero => intros; exact jr_none
    | succ n2 ih2 =>
      intro x1 h_x1 x2 h_x2 x3 h_x3 μ
      rw [fX7_staysFed_L2.eq_2]
      refine jr_iload_n C0 3 dX7_staysFed_2 rfl rfl ?_
      refine jr_iload_n C0 1 dX7_staysFed_3 rfl rfl ?_
      refine jr_icmp_ge C0 h_x3 h_x1 dX7_staysFed_4 (tgt := 45) (by decide) ?_ ?_
      · refine jr_sub [0] rfl ?_
        exact B45 _
      refine jr_aload_n C0 0 dX7_staysFed_7 rfl rfl ?_
      refine jr_geti C0 (by decide) kd_51 (by decide) rfl wx_X7 (i := 5) (by decide) wf_X7_49 rfl dX7_staysFed_8 ?_
      refine jr_gd (fun g3 => ?_)
      refine jr_if_ne C0 g3 dX7_staysFed_11 (tgt := 45) (by decide) ?_ ?_
      · refine jr_sub [0] rfl ?_
        exact B45 _
      refine jr_aload_n C0 0 dX7_staysFed_14 rfl rfl ?_
      refine jr_getr C0 (by decide) kd_51 (by decide) rfl wx_X7 (i := 3) (by decide) wf_X7_34 (j := 58) rfl dX7_staysFed_15 ?_
      refine jr_vI C0 (by decide) kd_58 (by decide) rfl (ct_X0_goal l G  _) mi_X0_goal wm_X7_94 ⟨Nat.le_of_ble_eq_true rfl, Nat.le_of_ble_eq_true rfl⟩ ⟨rfl, rfl⟩ (As := []) rfl (st := []) rfl (Nat.le_of_ble_eq_true rfl) dX7_staysFed_18 (fun r4 hr4 => ?_)
      refine jr_istore C0 dX7_staysFed_21 (by decide) (lv' := [(4, .int (vr_I r4.1)), (0, .ref (vr_ad G 51)), (1, .int (vr_I x1)), (2, .int (vr_I x2)), (3, .int (vr_I x3))]) rfl ?_
      refine jr_aload_n C0 1 dX7_staysFed_23 rfl rfl ?_
      refine jr_aload_n C0 1 dX7_staysFed_24 rfl rfl ?_
      refine jr_getr C0 (by decide) kd_51 (by decide) rfl wx_X7 (i := 3) (by decide) wf_X7_34 (j := 58) rfl dX7_staysFed_25 ?_
      refine jr_iload C0 0 dX7_staysFed_28 rfl ?_
      refine jr_vI C0 (by decide) kd_58 (by decide) rfl (ct_X0_picks l G r4.1 hr4 _) mi_X0_picks wm_X7_98 ⟨Nat.le_of_ble_eq_true rfl, Nat.le_of_ble_eq_true rfl⟩ ⟨rfl, rfl⟩ (As := [.int (vr_I r4.1)]) rfl (st := [.ref (vr_ad G 51)]) rfl (Nat.le_of_ble_eq_true rfl) dX7_staysFed_30 (fun r5 hr5 => ?_)
      refine jr_iload C0 0 dX7_staysFed_33 rfl ?_
      refine jr_iload_n C0 3 dX7_staysFed_35 rfl rfl ?_
      refine jr_vV0 C0 (by decide) kd_51 (by decide) rfl (ct_X7_spend l G r5.1 hr5 r4.1 hr4 x2 h_x2 _) mi_X7_spend wm_X7_102 ⟨Nat.le_of_ble_eq_true rfl, Nat.le_of_ble_eq_true rfl⟩ ⟨rfl, rfl⟩ (As := [.int (vr_I r5.1), .int (vr_I r4.1), .int (vr_I x2)]) rfl (st := []) rfl (Nat.le_of_ble_eq_true rfl) dX7_staysFed_36 (fun r6 => ?_)
      refine jr_iinc C0 (q := 4) dX7_staysFed_39 rfl (by decide) (lv' := [(3, .int (vr_I (x3 + 1))), (4, .int (vr_I r4.1)), (0, .ref (vr_ad G 51)), (1, .int (vr_I x1)), (2, .int (vr_I x2))]) rfl ?_
      refine jr_goto C0 dX7_staysFed_42 (tgt := 2) (by decide) ?_
      refine jr_gd (fun g7 => ?_)
      refine jr_sub [2, 3, 4, 0] rfl ?_
      exact ih2 x1 h_x1 x2 h_x2 (x3 + 1) g7 _
  unfold fX7_staysFed
  refine jr_iconst C0 dX7_staysFed_0 ?_
  refine jr_istore_n C0 dX7_staysFed_1 rfl (by decide) (lv' := [(3, .int (vr_I 0)), (0, .ref (vr_ad G 51)), (1, .int (vr_I a0)), (2, .int (vr_I a1))]) rfl ?_
  refine jr_sub [1, 2, 3, 0] rfl ?_
  exact L2 9000 a0 h_a0 a1 h_a1 0 (⟨by decide, by decide⟩) _
theorem dX7_fedOfTen_0 : decode cX7_fedOfTen 0 = .ok (.aload_n 0, 1) := by decide +kernel
theorem dX7_fedOfTen_1 : decode cX7_fedOfTen 1 = .ok (.getfield 76, 3) := by decide +kernel
theorem dX7_fedOfTen_4 : decode cX7_fedOfTen 4 = .ok (.ifCond .eq 16, 3) := by decide +kernel
theorem dX7_fedOfTen_7 : decode cX7_fedOfTen 7 = .ok (.bipush 10, 2) := by decide +kernel
theorem dX7_fedOfTen_9 : decode cX7_fedOfTen 9 = .ok (.aload_n 0, 1) := by decide +kernel
theorem dX7_fedOfTen_10 : decode cX7_fedOfTen 10 = .ok (.getfield 28, 3) := by decide +kernel
theorem dX7_fedOfTen_13 : decode cX7_fedOfTen 13 = .ok (.getfield 106, 3) := by decide +kernel
theorem dX7_fedOfTen_16 : decode cX7_fedOfTen 16 = .ok (.isub, 1) := by decide +kernel
theorem dX7_fedOfTen_17 : decode cX7_fedOfTen 17 = .ok (.goto 4, 3) := by decide +kernel
theorem dX7_fedOfTen_20 : decode cX7_fedOfTen 20 = .ok (.iconst 0, 1) := by decide +kernel
theorem dX7_fedOfTen_21 : decode cX7_fedOfTen 21 = .ok (.aload_n 0, 1) := by decide +kernel
theorem dX7_fedOfTen_22 : decode cX7_fedOfTen 22 = .ok (.getfield 80, 3) := by decide +kernel
theorem dX7_fedOfTen_25 : decode cX7_fedOfTen 25 = .ok (.ifCond .eq 13, 3) := by decide +kernel
theorem dX7_fedOfTen_28 : decode cX7_fedOfTen 28 = .ok (.aload_n 0, 1) := by decide +kernel
theorem dX7_fedOfTen_29 : decode cX7_fedOfTen 29 = .ok (.getfield 28, 3) := by decide +kernel
theorem dX7_fedOfTen_32 : decode cX7_fedOfTen 32 = .ok (.getfield 106, 3) := by decide +kernel
theorem dX7_fedOfTen_35 : decode cX7_fedOfTen 35 = .ok (.goto 4, 3) := by decide +kernel
theorem dX7_fedOfTen_38 : decode cX7_fedOfTen 38 = .ok (.iconst 0, 1) := by decide +kernel
theorem dX7_fedOfTen_39 : decode cX7_fedOfTen 39 = .ok (.iadd, 1) := by decide +kernel
theorem dX7_fedOfTen_40 : decode cX7_fedOfTen 40 = .ok (.ireturn, 1) := by decide +kernel
def fX7_fedOfTen_B39 (y0 : Int) (y1 : Int) (μ : vr_M) : Option (Int × vr_M) :=
  vr_gd (vr_R (y0 + y1)) (some (y0 + y1, μ))
def fX7_fedOfTen_B21 (y0 : Int) (μ : vr_M) : Option (Int × vr_M) :=
  vr_gd (vr_R (μ 51 10)) (if (μ 51 10) = 0 then fX7_fedOfTen_B39 y0 0 μ else vr_gd (vr_R (μ 8 8)) (fX7_fedOfTen_B39 y0 (μ 8 8) μ))
def fX7_fedOfTen (μ : vr_M) : Option (Int × vr_M) :=
  vr_gd (vr_R (μ 51 9)) (if (μ 51 9) = 0 then fX7_fedOfTen_B21 0 μ else vr_gd (vr_R (10 - (μ 8 8))) (fX7_fedOfTen_B21 (10 - (μ 8 8)) μ))
set_option maxRecDepth 100000 in
set_option maxHeartbeats 4000000 in
theorem ct_X7_fedOfTen (l : Launch) (G : vr_G) (μ : vr_M) : vr_CI l yX7_fedOfTen cX7_fedOfTen 1 (some .int) ({ frames := 0, cells := 0, slots := 0, locals := 0 } : Room) G [.ref (vr_ad G 51)] μ (fX7_fedOfTen μ) := by
  refine vr_start (own := RX7) (by decide) rfl (Nat.le_of_ble_eq_true rfl) (fun p e s m args below meth c C0 => ?_)
  show vr_J p l e _ s m args below meth c 1 0 0 G (vr_Z (vr_QI G) G args s below) 0 [(0, .ref (vr_ad G 51))] [] μ _
  have B39 : ∀ (y0 : Int) (h_y0 : vr_R y0) (y1 : Int) (h_y1 : vr_R y1) (μ : vr_M), vr_J p l e ({ frames := 0, cells := 0, slots := 0, locals := 0 } : Room) s m args below meth c 1 0 0 G (vr_Z (vr_QI G) G args s below) 39 [] [.int (vr_I y1), .int (vr_I y0)] μ (fX7_fedOfTen_B39 y0 y1 μ) := by
    intro y0 h_y0 y1 h_y1 μ
    unfold fX7_fedOfTen_B39
    refine jr_iadd C0 dX7_fedOfTen_39 ?_
    refine jr_gd (fun g1 => ?_)
    exact jr_iret C0 g1 dX7_fedOfTen_40
  have B21 : ∀ (y0 : Int) (h_y0 : vr_R y0) (μ : vr_M), vr_J p l e ({ frames := 0, cells := 0, slots := 0, locals := 0 } : Room) s m args below meth c 1 0 0 G (vr_Z (vr_QI G) G args s below) 21 [(0, .ref (vr_ad G 51))] [.int (vr_I y0)] μ (fX7_fedOfTen_B21 y0 μ) := by
    intro y0 h_y0 μ
    unfold fX7_fedOfTen_B21
    refine jr_aload_n C0 0 dX7_fedOfTen_21 rfl rfl ?_
    refine jr_geti C0 (by decide) kd_51 (by decide) rfl wx_X7 (i := 10) (by decide) wf_X7_80 rfl dX7_fedOfTen_22 ?_
    refine jr_gd (fun g2 => ?_)
    refine jr_if_eq C0 g2 dX7_fedOfTen_25 (tgt := 38) (by decide) ?_ ?_
    · refine jr_iconst C0 dX7_fedOfTen_38 ?_
      refine jr_sub [] rfl ?_
      exact B39 y0 h_y0 0 (⟨by decide, by decide⟩) _
    refine jr_aload_n C0 0 dX7_fedOfTen_28 rfl rfl ?_
    refine jr_getr C0 (by decide) kd_51 (by decide) rfl wx_X7 (i := 1) (by decide) wf_X7_28 (j := 8) rfl dX7_fedOfTen_29 ?_
    refine jr_geti C0 (by decide) kd_8 (by decide) rfl wx_X3 (i := 8) (by decide) wf_X7_106 rfl dX7_fedOfTen_32 ?_
    refine jr_goto C0 dX7_fedOfTen_35 (tgt := 39) (by decide) ?_
    refine jr_gd (fun g3 => ?_)
    refine jr_sub [] rfl ?_
    exact B39 y0 h_y0 (μ 8 8) g3 _
  unfold fX7_fedOfTen
  refine jr_aload_n C0 0 dX7_fedOfTen_0 rfl rfl ?_
  refine jr_geti C0 (by decide) kd_51 (by decide) rfl wx_X7 (i := 9) (by decide) wf_X7_76 rfl dX7_fedOfTen_1 ?_
  refine jr_gd (fun g4 => ?_)
  refine jr_if_eq C0 g4 dX7_fedOfTen_4 (tgt := 20) (by decide) ?_ ?_
  · refine jr_iconst C0 dX7_fedOfTen_20 ?_
    exact B21 0 (⟨by decide, by decide⟩) _
  refine jr_bipush C0 dX7_fedOfTen_7 rfl ?_
  refine jr_aload_n C0 0 dX7_fedOfTen_9 rfl rfl ?_
  refine jr_getr C0 (by decide) kd_51 (by decide) rfl wx_X7 (i := 1) (by decide) wf_X7_28 (j := 8) rfl dX7_fedOfTen_10 ?_
  refine jr_geti C0 (by decide) kd_8 (by decide) rfl wx_X3 (i := 8) (by decide) wf_X7_106 rfl dX7_fedOfTen_13 ?_
  refine jr_isub C0 dX7_fedOfTen_16 ?_
  refine jr_goto C0 dX7_fedOfTen_17 (tgt := 21) (by decide) ?_
  refine jr_gd (fun g5 => ?_)
  exact B21 (10 - (μ 8 8)) g5 _
theorem dX8_hasRule_0 : decode cX8_hasRule 0 = .ok (.iload_n 1, 1) := by decide +kernel
theorem dX8_hasRule_1 : decode cX8_hasRule 1 = .ok (.ifCond .lt 18, 3) := by decide +kernel
theorem dX8_hasRule_4 : decode cX8_hasRule 4 = .ok (.iload_n 1, 1) := by decide +kernel
theorem dX8_hasRule_5 : decode cX8_hasRule 5 = .ok (.aload_n 0, 1) := by decide +kernel
theorem dX8_hasRule_6 : decode cX8_hasRule 6 = .ok (.getfield 40, 3) := by decide +kernel
theorem dX8_hasRule_9 : decode cX8_hasRule 9 = .ok (.getfield 46, 3) := by decide +kernel
theorem dX8_hasRule_12 : decode cX8_hasRule 12 = .ok (.if_icmp .ge 7, 3) := by decide +kernel
theorem dX8_hasRule_15 : decode cX8_hasRule 15 = .ok (.iconst 1, 1) := by decide +kernel
theorem dX8_hasRule_16 : decode cX8_hasRule 16 = .ok (.goto 4, 3) := by decide +kernel
theorem dX8_hasRule_19 : decode cX8_hasRule 19 = .ok (.iconst 0, 1) := by decide +kernel
theorem dX8_hasRule_20 : decode cX8_hasRule 20 = .ok (.ireturn, 1) := by decide +kernel
def fX8_hasRule_B20 (k : Nat) (y0 : Int) (μ : vr_M) : Option (Int × vr_M) :=
  vr_gd (y0 = 0 ∨ y0 = 1) (some (y0, μ))
def fX8_hasRule_B19 (k : Nat) (μ : vr_M) : Option (Int × vr_M) :=
  fX8_hasRule_B20 k 0 μ
def fX8_hasRule (k : Nat) (a0 : Int) (μ : vr_M) : Option (Int × vr_M) :=
  if a0 < 0 then fX8_hasRule_B19 k μ else vr_gd (vr_R (μ (k + 18) 1)) (if (μ (k + 18) 1) ≤ a0 then fX8_hasRule_B19 k μ else fX8_hasRule_B20 k 1 μ)
set_option maxRecDepth 100000 in
set_option maxHeartbeats 4000000 in
theorem ct_X8_hasRule (l : Launch) (G : vr_G) {k : Nat} (hk_k : k < 78) (hd_k : vr_kd k = 8) (a0 : Int) (h_a0 : vr_R a0) (μ : vr_M) : vr_CI l yX8_hasRule cX8_hasRule 2 (some .boolean) ({ frames := 0, cells := 0, slots := 0, locals := 0 } : Room) G [.ref (vr_ad G k), .int (vr_I a0)] μ (fX8_hasRule k a0 μ) := by
  refine vr_start (own := RX8) (by decide) rfl (Nat.le_of_ble_eq_true rfl) (fun p e s m args below meth c C0 => ?_)
  obtain ⟨q_k, d_k_1, d_k_7, d_k_12, d_k_14, d_k_16, d_k_18, d_k_20⟩ := vr_world hk_k hd_k
  show vr_J p l e _ s m args below meth c 2 0 0 G (vr_Z (vr_QI G) G args s below) 0 [(0, .ref (vr_ad G k)), (1, .int (vr_I a0))] [] μ _
  have B20 : ∀ (y0 : Int) (h_y0 : vr_R y0) (μ : vr_M), vr_J p l e ({ frames := 0, cells := 0, slots := 0, locals := 0 } : Room) s m args below meth c 2 0 0 G (vr_Z (vr_QI G) G args s below) 20 [] [.int (vr_I y0)] μ (fX8_hasRule_B20 k y0 μ) := by
    intro y0 h_y0 μ
    unfold fX8_hasRule_B20
    refine jr_gd (fun g1 => ?_)
    exact jr_zret C0 h_y0 (vr_nz g1) dX8_hasRule_20
  have B19 : ∀ (μ : vr_M), vr_J p l e ({ frames := 0, cells := 0, slots := 0, locals := 0 } : Room) s m args below meth c 2 0 0 G (vr_Z (vr_QI G) G args s below) 19 [] [] μ (fX8_hasRule_B19 k μ) := by
    intro μ
    unfold fX8_hasRule_B19
    refine jr_iconst C0 dX8_hasRule_19 ?_
    exact B20 0 (⟨by decide, by decide⟩) _
  unfold fX8_hasRule
  refine jr_iload_n C0 1 dX8_hasRule_0 rfl rfl ?_
  refine jr_if_lt C0 h_a0 dX8_hasRule_1 (tgt := 19) (by decide) ?_ ?_
  · refine jr_sub [] rfl ?_
    exact B19 _
  refine jr_iload_n C0 1 dX8_hasRule_4 rfl rfl ?_
  refine jr_aload_n C0 0 dX8_hasRule_5 rfl rfl ?_
  refine jr_getr C0 hk_k hd_k (by decide) rfl wx_X8 (i := 5) (by decide) wf_X8_40 (j := (k + 18)) rfl dX8_hasRule_6 ?_
  refine jr_geti C0 (by omega) d_k_18 (by decide) rfl wx_X4 (i := 1) (by decide) wf_X8_46 rfl dX8_hasRule_9 ?_
  refine jr_gd (fun g2 => ?_)
  refine jr_icmp_ge C0 h_a0 g2 dX8_hasRule_12 (tgt := 19) (by decide) ?_ ?_
  · refine jr_sub [] rfl ?_
    exact B19 _
  refine jr_iconst C0 dX8_hasRule_15 ?_
  refine jr_goto C0 dX8_hasRule_16 (tgt := 20) (by decide) ?_
  refine jr_sub [] rfl ?_
  exact B20 1 (⟨by decide, by decide⟩) _
theorem dX8_become_0 : decode cX8_become 0 = .ok (.aload_n 0, 1) := by decide +kernel
theorem dX8_become_1 : decode cX8_become 1 = .ok (.getfield 12, 3) := by decide +kernel
theorem dX8_become_4 : decode cX8_become 4 = .ok (.aload_n 1, 1) := by decide +kernel
theorem dX8_become_5 : decode cX8_become 5 = .ok (.getfield 12, 3) := by decide +kernel
theorem dX8_become_8 : decode cX8_become 8 = .ok (.invokevirtual 50, 3) := by decide +kernel
theorem dX8_become_11 : decode cX8_become 11 = .ok (.aload_n 0, 1) := by decide +kernel
theorem dX8_become_12 : decode cX8_become 12 = .ok (.getfield 21, 3) := by decide +kernel
theorem dX8_become_15 : decode cX8_become 15 = .ok (.aload_n 1, 1) := by decide +kernel
theorem dX8_become_16 : decode cX8_become 16 = .ok (.getfield 21, 3) := by decide +kernel
theorem dX8_become_19 : decode cX8_become 19 = .ok (.invokevirtual 54, 3) := by decide +kernel
theorem dX8_become_22 : decode cX8_become 22 = .ok (.aload_n 0, 1) := by decide +kernel
theorem dX8_become_23 : decode cX8_become 23 = .ok (.getfield 30, 3) := by decide +kernel
theorem dX8_become_26 : decode cX8_become 26 = .ok (.aload_n 1, 1) := by decide +kernel
theorem dX8_become_27 : decode cX8_become 27 = .ok (.getfield 30, 3) := by decide +kernel
theorem dX8_become_30 : decode cX8_become 30 = .ok (.invokevirtual 57, 3) := by decide +kernel
theorem dX8_become_33 : decode cX8_become 33 = .ok (.aload_n 0, 1) := by decide +kernel
theorem dX8_become_34 : decode cX8_become 34 = .ok (.getfield 34, 3) := by decide +kernel
theorem dX8_become_37 : decode cX8_become 37 = .ok (.aload_n 1, 1) := by decide +kernel
theorem dX8_become_38 : decode cX8_become 38 = .ok (.getfield 34, 3) := by decide +kernel
theorem dX8_become_41 : decode cX8_become 41 = .ok (.invokevirtual 57, 3) := by decide +kernel
theorem dX8_become_44 : decode cX8_become 44 = .ok (.aload_n 0, 1) := by decide +kernel
theorem dX8_become_45 : decode cX8_become 45 = .ok (.getfield 37, 3) := by decide +kernel
theorem dX8_become_48 : decode cX8_become 48 = .ok (.aload_n 1, 1) := by decide +kernel
theorem dX8_become_49 : decode cX8_become 49 = .ok (.getfield 37, 3) := by decide +kernel
theorem dX8_become_52 : decode cX8_become 52 = .ok (.invokevirtual 57, 3) := by decide +kernel
theorem dX8_become_55 : decode cX8_become 55 = .ok (.aload_n 0, 1) := by decide +kernel
theorem dX8_become_56 : decode cX8_become 56 = .ok (.getfield 40, 3) := by decide +kernel
theorem dX8_become_59 : decode cX8_become 59 = .ok (.aload_n 1, 1) := by decide +kernel
theorem dX8_become_60 : decode cX8_become 60 = .ok (.getfield 40, 3) := by decide +kernel
theorem dX8_become_63 : decode cX8_become 63 = .ok (.invokevirtual 57, 3) := by decide +kernel
theorem dX8_become_66 : decode cX8_become 66 = .ok (.aload_n 0, 1) := by decide +kernel
theorem dX8_become_67 : decode cX8_become 67 = .ok (.getfield 43, 3) := by decide +kernel
theorem dX8_become_70 : decode cX8_become 70 = .ok (.aload_n 1, 1) := by decide +kernel
theorem dX8_become_71 : decode cX8_become 71 = .ok (.getfield 43, 3) := by decide +kernel
theorem dX8_become_74 : decode cX8_become 74 = .ok (.invokevirtual 57, 3) := by decide +kernel
theorem dX8_become_77 : decode cX8_become 77 = .ok (.aload_n 0, 1) := by decide +kernel
theorem dX8_become_78 : decode cX8_become 78 = .ok (.aload_n 1, 1) := by decide +kernel
theorem dX8_become_79 : decode cX8_become 79 = .ok (.getfield 60, 3) := by decide +kernel
theorem dX8_become_82 : decode cX8_become 82 = .ok (.putfield 60, 3) := by decide +kernel
theorem dX8_become_85 : decode cX8_become 85 = .ok (.return_, 1) := by decide +kernel
def fX8_become (k : Nat) (k0 : Nat) (μ : vr_M) : Option (Int × vr_M) :=
  (fX2_become (k + 1) (k0 + 1) μ).bind (fun r1 => (fX3_become (k + 7) (k0 + 7) r1.2).bind (fun r2 => (fX4_become (k + 12) (k0 + 12) r2.2).bind (fun r3 => (fX4_become (k + 14) (k0 + 14) r3.2).bind (fun r4 => (fX4_become (k + 16) (k0 + 16) r4.2).bind (fun r5 => (fX4_become (k + 18) (k0 + 18) r5.2).bind (fun r6 => (fX4_become (k + 20) (k0 + 20) r6.2).bind (fun r7 => some (0, vr_u r7.2 k 7 (r7.2 k0 7)))))))))
set_option maxRecDepth 100000 in
set_option maxHeartbeats 4000000 in
theorem ct_X8_become (l : Launch) (G : vr_G) {k : Nat} (hk_k : k < 78) (hd_k : vr_kd k = 8) {k0 : Nat} (hk_k0 : k0 < 78) (hd_k0 : vr_kd k0 = 8) (μ : vr_M) : vr_CV l yX8_become cX8_become 2 none ({ frames := 2, cells := 0, slots := 0, locals := 43 } : Room) G [.ref (vr_ad G k), .ref (vr_ad G k0)] μ (fX8_become k k0 μ) := by
  refine vr_start (own := RX8) (by decide) rfl (Nat.le_of_ble_eq_true rfl) (fun p e s m args below meth c C0 => ?_)
  obtain ⟨q_k, d_k_1, d_k_7, d_k_12, d_k_14, d_k_16, d_k_18, d_k_20⟩ := vr_world hk_k hd_k
  obtain ⟨q_k0, d_k0_1, d_k0_7, d_k0_12, d_k0_14, d_k0_16, d_k0_18, d_k0_20⟩ := vr_world hk_k0 hd_k0
  show vr_J p l e _ s m args below meth c 2 0 0 G (vr_Z (vr_QV G) G args s below) 0 [(0, .ref (vr_ad G k)), (1, .ref (vr_ad G k0))] [] μ _
  unfold fX8_become
  refine jr_aload_n C0 0 dX8_become_0 rfl rfl ?_
  refine jr_getr C0 hk_k hd_k (by decide) rfl wx_X8 (i := 0) (by decide) wf_X8_12 (j := (k + 1)) rfl dX8_become_1 ?_
  refine jr_aload_n C0 1 dX8_become_4 rfl rfl ?_
  refine jr_getr C0 hk_k0 hd_k0 (by decide) rfl wx_X8 (i := 0) (by decide) wf_X8_12 (j := (k0 + 1)) rfl dX8_become_5 ?_
  refine jr_vV0 C0 (by omega) d_k_1 (by decide) rfl (ct_X2_become l G (by omega) d_k_1 (by omega) d_k0_1 _) mi_X2_become wm_X8_50 ⟨Nat.le_of_ble_eq_true rfl, Nat.le_of_ble_eq_true rfl⟩ ⟨rfl, rfl⟩ (As := [.ref (vr_ad G (k0 + 1))]) rfl (st := []) rfl (Nat.le_of_ble_eq_true rfl) dX8_become_8 (fun r1 => ?_)
  refine jr_aload_n C0 0 dX8_become_11 rfl rfl ?_
  refine jr_getr C0 hk_k hd_k (by decide) rfl wx_X8 (i := 1) (by decide) wf_X8_21 (j := (k + 7)) rfl dX8_become_12 ?_
  refine jr_aload_n C0 1 dX8_become_15 rfl rfl ?_
  refine jr_getr C0 hk_k0 hd_k0 (by decide) rfl wx_X8 (i := 1) (by decide) wf_X8_21 (j := (k0 + 7)) rfl dX8_become_16 ?_
  refine jr_vV0 C0 (by omega) d_k_7 (by decide) rfl (ct_X3_become l G (by omega) d_k_7 (by omega) d_k0_7 _) mi_X3_become wm_X8_54 ⟨Nat.le_of_ble_eq_true rfl, Nat.le_of_ble_eq_true rfl⟩ ⟨rfl, rfl⟩ (As := [.ref (vr_ad G (k0 + 7))]) rfl (st := []) rfl (Nat.le_of_ble_eq_true rfl) dX8_become_19 (fun r2 => ?_)
  refine jr_aload_n C0 0 dX8_become_22 rfl rfl ?_
  refine jr_getr C0 hk_k hd_k (by decide) rfl wx_X8 (i := 2) (by decide) wf_X8_30 (j := (k + 12)) rfl dX8_become_23 ?_
  refine jr_aload_n C0 1 dX8_become_26 rfl rfl ?_
  refine jr_getr C0 hk_k0 hd_k0 (by decide) rfl wx_X8 (i := 2) (by decide) wf_X8_30 (j := (k0 + 12)) rfl dX8_become_27 ?_
  refine jr_vV0 C0 (by omega) d_k_12 (by decide) rfl (ct_X4_become l G (by omega) d_k_12 (by omega) d_k0_12 _) mi_X4_become wm_X8_57 ⟨Nat.le_of_ble_eq_true rfl, Nat.le_of_ble_eq_true rfl⟩ ⟨rfl, rfl⟩ (As := [.ref (vr_ad G (k0 + 12))]) rfl (st := []) rfl (Nat.le_of_ble_eq_true rfl) dX8_become_30 (fun r3 => ?_)
  refine jr_aload_n C0 0 dX8_become_33 rfl rfl ?_
  refine jr_getr C0 hk_k hd_k (by decide) rfl wx_X8 (i := 3) (by decide) wf_X8_34 (j := (k + 14)) rfl dX8_become_34 ?_
  refine jr_aload_n C0 1 dX8_become_37 rfl rfl ?_
  refine jr_getr C0 hk_k0 hd_k0 (by decide) rfl wx_X8 (i := 3) (by decide) wf_X8_34 (j := (k0 + 14)) rfl dX8_become_38 ?_
  refine jr_vV0 C0 (by omega) d_k_14 (by decide) rfl (ct_X4_become l G (by omega) d_k_14 (by omega) d_k0_14 _) mi_X4_become wm_X8_57 ⟨Nat.le_of_ble_eq_true rfl, Nat.le_of_ble_eq_true rfl⟩ ⟨rfl, rfl⟩ (As := [.ref (vr_ad G (k0 + 14))]) rfl (st := []) rfl (Nat.le_of_ble_eq_true rfl) dX8_become_41 (fun r4 => ?_)
  refine jr_aload_n C0 0 dX8_become_44 rfl rfl ?_
  refine jr_getr C0 hk_k hd_k (by decide) rfl wx_X8 (i := 4) (by decide) wf_X8_37 (j := (k + 16)) rfl dX8_become_45 ?_
  refine jr_aload_n C0 1 dX8_become_48 rfl rfl ?_
  refine jr_getr C0 hk_k0 hd_k0 (by decide) rfl wx_X8 (i := 4) (by decide) wf_X8_37 (j := (k0 + 16)) rfl dX8_become_49 ?_
  refine jr_vV0 C0 (by omega) d_k_16 (by decide) rfl (ct_X4_become l G (by omega) d_k_16 (by omega) d_k0_16 _) mi_X4_become wm_X8_57 ⟨Nat.le_of_ble_eq_true rfl, Nat.le_of_ble_eq_true rfl⟩ ⟨rfl, rfl⟩ (As := [.ref (vr_ad G (k0 + 16))]) rfl (st := []) rfl (Nat.le_of_ble_eq_true rfl) dX8_become_52 (fun r5 => ?_)
  refine jr_aload_n C0 0 dX8_become_55 rfl rfl ?_
  refine jr_getr C0 hk_k hd_k (by decide) rfl wx_X8 (i := 5) (by decide) wf_X8_40 (j := (k + 18)) rfl dX8_become_56 ?_
  refine jr_aload_n C0 1 dX8_become_59 rfl rfl ?_
  refine jr_getr C0 hk_k0 hd_k0 (by decide) rfl wx_X8 (i := 5) (by decide) wf_X8_40 (j := (k0 + 18)) rfl dX8_become_60 ?_
  refine jr_vV0 C0 (by omega) d_k_18 (by decide) rfl (ct_X4_become l G (by omega) d_k_18 (by omega) d_k0_18 _) mi_X4_become wm_X8_57 ⟨Nat.le_of_ble_eq_true rfl, Nat.le_of_ble_eq_true rfl⟩ ⟨rfl, rfl⟩ (As := [.ref (vr_ad G (k0 + 18))]) rfl (st := []) rfl (Nat.le_of_ble_eq_true rfl) dX8_become_63 (fun r6 => ?_)
  refine jr_aload_n C0 0 dX8_become_66 rfl rfl ?_
  refine jr_getr C0 hk_k hd_k (by decide) rfl wx_X8 (i := 6) (by decide) wf_X8_43 (j := (k + 20)) rfl dX8_become_67 ?_
  refine jr_aload_n C0 1 dX8_become_70 rfl rfl ?_
  refine jr_getr C0 hk_k0 hd_k0 (by decide) rfl wx_X8 (i := 6) (by decide) wf_X8_43 (j := (k0 + 20)) rfl dX8_become_71 ?_
  refine jr_vV0 C0 (by omega) d_k_20 (by decide) rfl (ct_X4_become l G (by omega) d_k_20 (by omega) d_k0_20 _) mi_X4_become wm_X8_57 ⟨Nat.le_of_ble_eq_true rfl, Nat.le_of_ble_eq_true rfl⟩ ⟨rfl, rfl⟩ (As := [.ref (vr_ad G (k0 + 20))]) rfl (st := []) rfl (Nat.le_of_ble_eq_true rfl) dX8_become_74 (fun r7 => ?_)
  refine jr_aload_n C0 0 dX8_become_77 rfl rfl ?_
  refine jr_aload_n C0 1 dX8_become_78 rfl rfl ?_
  refine jr_geti C0 hk_k0 hd_k0 (by decide) rfl wx_X8 (i := 7) (by decide) wf_X8_60 rfl dX8_become_79 ?_
  refine jr_puti C0 hk_k hd_k (by decide) rfl wx_X8 (i := 7) (by decide) wf_X8_60 rfl tyX8_ok nmX8 rfl rfl rfl dX8_become_82 ?_
  exact jr_vret C0 dX8_become_85
theorem dX9_within_0 : decode cX9_within 0 = .ok (.iload_n 0, 1) := by decide +kernel
theorem dX9_within_1 : decode cX9_within 1 = .ok (.iload_n 1, 1) := by decide +kernel
theorem dX9_within_2 : decode cX9_within 2 = .ok (.if_icmp .lt 12, 3) := by decide +kernel
theorem dX9_within_5 : decode cX9_within 5 = .ok (.iload_n 0, 1) := by decide +kernel
theorem dX9_within_6 : decode cX9_within 6 = .ok (.iload_n 2, 1) := by decide +kernel
theorem dX9_within_7 : decode cX9_within 7 = .ok (.if_icmp .gt 7, 3) := by decide +kernel
theorem dX9_within_10 : decode cX9_within 10 = .ok (.iconst 1, 1) := by decide +kernel
theorem dX9_within_11 : decode cX9_within 11 = .ok (.goto 4, 3) := by decide +kernel
theorem dX9_within_14 : decode cX9_within 14 = .ok (.iconst 0, 1) := by decide +kernel
theorem dX9_within_15 : decode cX9_within 15 = .ok (.ireturn, 1) := by decide +kernel
def fX9_within_B15 (y0 : Int) (μ : vr_M) : Option (Int × vr_M) :=
  vr_gd (y0 = 0 ∨ y0 = 1) (some (y0, μ))
def fX9_within_B14 (μ : vr_M) : Option (Int × vr_M) :=
  fX9_within_B15 0 μ
def fX9_within (a0 : Int) (a1 : Int) (a2 : Int) (μ : vr_M) : Option (Int × vr_M) :=
  if a0 < a1 then fX9_within_B14 μ else if a2 < a0 then fX9_within_B14 μ else fX9_within_B15 1 μ
set_option maxRecDepth 100000 in
set_option maxHeartbeats 4000000 in
theorem ct_X9_within (l : Launch) (G : vr_G) (a0 : Int) (h_a0 : vr_R a0) (a1 : Int) (h_a1 : vr_R a1) (a2 : Int) (h_a2 : vr_R a2) (μ : vr_M) : vr_CI l yX9_within cX9_within 3 (some .boolean) ({ frames := 0, cells := 0, slots := 0, locals := 0 } : Room) G [.int (vr_I a0), .int (vr_I a1), .int (vr_I a2)] μ (fX9_within a0 a1 a2 μ) := by
  refine vr_start (own := RX9) (by decide) rfl (Nat.le_of_ble_eq_true rfl) (fun p e s m args below meth c C0 => ?_)
  show vr_J p l e _ s m args below meth c 3 0 0 G (vr_Z (vr_QI G) G args s below) 0 [(0, .int (vr_I a0)), (1, .int (vr_I a1)), (2, .int (vr_I a2))] [] μ _
  have B15 : ∀ (y0 : Int) (h_y0 : vr_R y0) (μ : vr_M), vr_J p l e ({ frames := 0, cells := 0, slots := 0, locals := 0 } : Room) s m args below meth c 3 0 0 G (vr_Z (vr_QI G) G args s below) 15 [] [.int (vr_I y0)] μ (fX9_within_B15 y0 μ) := by
    intro y0 h_y0 μ
    unfold fX9_within_B15
    refine jr_gd (fun g1 => ?_)
    exact jr_zret C0 h_y0 (vr_nz g1) dX9_within_15
  have B14 : ∀ (μ : vr_M), vr_J p l e ({ frames := 0, cells := 0, slots := 0, locals := 0 } : Room) s m args below meth c 3 0 0 G (vr_Z (vr_QI G) G args s below) 14 [] [] μ (fX9_within_B14 μ) := by
    intro μ
    unfold fX9_within_B14
    refine jr_iconst C0 dX9_within_14 ?_
    exact B15 0 (⟨by decide, by decide⟩) _
  unfold fX9_within
  refine jr_iload_n C0 0 dX9_within_0 rfl rfl ?_
  refine jr_iload_n C0 1 dX9_within_1 rfl rfl ?_
  refine jr_icmp_lt C0 h_a0 h_a1 dX9_within_2 (tgt := 14) (by decide) ?_ ?_
  · refine jr_sub [] rfl ?_
    exact B14 _
  refine jr_iload_n C0 0 dX9_within_5 rfl rfl ?_
  refine jr_iload_n C0 2 dX9_within_6 rfl rfl ?_
  refine jr_icmp_gt C0 h_a0 h_a2 dX9_within_7 (tgt := 14) (by decide) ?_ ?_
  · refine jr_sub [] rfl ?_
    exact B14 _
  refine jr_iconst C0 dX9_within_10 ?_
  refine jr_goto C0 dX9_within_11 (tgt := 15) (by decide) ?_
  refine jr_sub [] rfl ?_
  exact B15 1 (⟨by decide, by decide⟩) _
theorem dX9_plot_0 : decode cX9_plot 0 = .ok (.iload_n 1, 1) := by decide +kernel
theorem dX9_plot_1 : decode cX9_plot 1 = .ok (.iconst 0, 1) := by decide +kernel
theorem dX9_plot_2 : decode cX9_plot 2 = .ok (.iconst 3, 1) := by decide +kernel
theorem dX9_plot_3 : decode cX9_plot 3 = .ok (.invokestatic 66, 3) := by decide +kernel
theorem dX9_plot_6 : decode cX9_plot 6 = .ok (.ifCond .eq 13, 3) := by decide +kernel
theorem dX9_plot_9 : decode cX9_plot 9 = .ok (.iload_n 2, 1) := by decide +kernel
theorem dX9_plot_10 : decode cX9_plot 10 = .ok (.iconst 0, 1) := by decide +kernel
theorem dX9_plot_11 : decode cX9_plot 11 = .ok (.bipush 40, 2) := by decide +kernel
theorem dX9_plot_13 : decode cX9_plot 13 = .ok (.invokestatic 66, 3) := by decide +kernel
theorem dX9_plot_16 : decode cX9_plot 16 = .ok (.ifCond .ne 6, 3) := by decide +kernel
theorem dX9_plot_19 : decode cX9_plot 19 = .ok (.bipush (-2), 2) := by decide +kernel
theorem dX9_plot_21 : decode cX9_plot 21 = .ok (.ireturn, 1) := by decide +kernel
theorem dX9_plot_22 : decode cX9_plot 22 = .ok (.aload_n 0, 1) := by decide +kernel
theorem dX9_plot_23 : decode cX9_plot 23 = .ok (.getfield 12, 3) := by decide +kernel
theorem dX9_plot_26 : decode cX9_plot 26 = .ok (.getfield 70, 3) := by decide +kernel
theorem dX9_plot_29 : decode cX9_plot 29 = .ok (.getfield 74, 3) := by decide +kernel
theorem dX9_plot_32 : decode cX9_plot 32 = .ok (.bipush 8, 2) := by decide +kernel
theorem dX9_plot_34 : decode cX9_plot 34 = .ok (.if_icmp .lt 8, 3) := by decide +kernel
theorem dX9_plot_37 : decode cX9_plot 37 = .ok (.bipush (-4), 2) := by decide +kernel
theorem dX9_plot_39 : decode cX9_plot 39 = .ok (.goto 15, 3) := by decide +kernel
theorem dX9_plot_42 : decode cX9_plot 42 = .ok (.aload_n 0, 1) := by decide +kernel
theorem dX9_plot_43 : decode cX9_plot 43 = .ok (.getfield 12, 3) := by decide +kernel
theorem dX9_plot_46 : decode cX9_plot 46 = .ok (.getfield 70, 3) := by decide +kernel
theorem dX9_plot_49 : decode cX9_plot 49 = .ok (.iload_n 1, 1) := by decide +kernel
theorem dX9_plot_50 : decode cX9_plot 50 = .ok (.iload_n 2, 1) := by decide +kernel
theorem dX9_plot_51 : decode cX9_plot 51 = .ok (.invokevirtual 80, 3) := by decide +kernel
theorem dX9_plot_54 : decode cX9_plot 54 = .ok (.ireturn, 1) := by decide +kernel
def fX9_plot_B19 (μ : vr_M) : Option (Int × vr_M) :=
  some ((-2), μ)
def fX9_plot_B54 (y0 : Int) (μ : vr_M) : Option (Int × vr_M) :=
  some (y0, μ)
def fX9_plot (a0 : Int) (a1 : Int) (μ : vr_M) : Option (Int × vr_M) :=
  (fX9_within a0 0 3 μ).bind (fun r1 => if r1.1 = 0 then fX9_plot_B19 r1.2 else (fX9_within a1 0 40 r1.2).bind (fun r2 => if ¬ r2.1 = 0 then vr_gd (vr_R (r2.2 2 5)) (if (r2.2 2 5) < 8 then (fX2_add 2 a0 a1 r2.2).bind (fun r4 => fX9_plot_B54 r4.1 r4.2) else fX9_plot_B54 (-4) r2.2) else fX9_plot_B19 r2.2))
set_option maxRecDepth 100000 in
set_option maxHeartbeats 4000000 in
theorem ct_X9_plot (l : Launch) (G : vr_G) (a0 : Int) (h_a0 : vr_R a0) (a1 : Int) (h_a1 : vr_R a1) (μ : vr_M) : vr_CI l yX9_plot cX9_plot 3 (some .int) ({ frames := 1, cells := 0, slots := 0, locals := 23 } : Room) G [.ref (vr_ad G 0), .int (vr_I a0), .int (vr_I a1)] μ (fX9_plot a0 a1 μ) := by
  refine vr_start (own := RX9) (by decide) rfl (Nat.le_of_ble_eq_true rfl) (fun p e s m args below meth c C0 => ?_)
  show vr_J p l e _ s m args below meth c 3 0 0 G (vr_Z (vr_QI G) G args s below) 0 [(0, .ref (vr_ad G 0)), (1, .int (vr_I a0)), (2, .int (vr_I a1))] [] μ _
  have B19 : ∀ (μ : vr_M), vr_J p l e ({ frames := 1, cells := 0, slots := 0, locals := 23 } : Room) s m args below meth c 3 0 0 G (vr_Z (vr_QI G) G args s below) 19 [] [] μ (fX9_plot_B19 μ) := by
    intro μ
    unfold fX9_plot_B19
    refine jr_bipush C0 dX9_plot_19 rfl ?_
    exact jr_iret C0 (⟨by decide, by decide⟩) dX9_plot_21
  have B54 : ∀ (y0 : Int) (h_y0 : vr_R y0) (μ : vr_M), vr_J p l e ({ frames := 1, cells := 0, slots := 0, locals := 23 } : Room) s m args below meth c 3 0 0 G (vr_Z (vr_QI G) G args s below) 54 [] [.int (vr_I y0)] μ (fX9_plot_B54 y0 μ) := by
    intro y0 h_y0 μ
    unfold fX9_plot_B54
    exact jr_iret C0 h_y0 dX9_plot_54
  unfold fX9_plot
  refine jr_iload_n C0 1 dX9_plot_0 rfl rfl ?_
  refine jr_iconst C0 dX9_plot_1 ?_
  refine jr_iconst C0 dX9_plot_2 ?_
  refine jr_sI C0 (ct_X9_within l G a0 h_a0 0 (⟨by decide, by decide⟩) 3 (⟨by decide, by decide⟩) _) mi_X9_within wm_X9_66 ⟨Nat.le_of_ble_eq_true rfl, Nat.le_of_ble_eq_true rfl⟩ ⟨rfl, rfl⟩ (As := [.int (vr_I a0), .int (vr_I 0), .int (vr_I 3)]) rfl (st := []) rfl (Nat.le_of_ble_eq_true rfl) dX9_plot_3 (fun r1 hr1 => ?_)
  refine jr_if_eq C0 hr1 dX9_plot_6 (tgt := 19) (by decide) ?_ ?_
  · refine jr_sub [] rfl ?_
    exact B19 _
  refine jr_iload_n C0 2 dX9_plot_9 rfl rfl ?_
  refine jr_iconst C0 dX9_plot_10 ?_
  refine jr_bipush C0 dX9_plot_11 rfl ?_
  refine jr_sI C0 (ct_X9_within l G a1 h_a1 0 (⟨by decide, by decide⟩) 40 (⟨by decide, by decide⟩) _) mi_X9_within wm_X9_66 ⟨Nat.le_of_ble_eq_true rfl, Nat.le_of_ble_eq_true rfl⟩ ⟨rfl, rfl⟩ (As := [.int (vr_I a1), .int (vr_I 0), .int (vr_I 40)]) rfl (st := []) rfl (Nat.le_of_ble_eq_true rfl) dX9_plot_13 (fun r2 hr2 => ?_)
  refine jr_if_ne C0 hr2 dX9_plot_16 (tgt := 22) (by decide) ?_ ?_
  · refine jr_aload_n C0 0 dX9_plot_22 rfl rfl ?_
    refine jr_getr C0 (by decide) kd_0 (by decide) rfl wx_X9 (i := 0) (by decide) wf_X9_12 (j := 1) rfl dX9_plot_23 ?_
    refine jr_getr C0 (by decide) kd_1 (by decide) rfl wx_X8 (i := 0) (by decide) wf_X9_70 (j := 2) rfl dX9_plot_26 ?_
    refine jr_geti C0 (by decide) kd_2 (by decide) rfl wx_X2 (i := 5) (by decide) wf_X9_74 rfl dX9_plot_29 ?_
    refine jr_bipush C0 dX9_plot_32 rfl ?_
    refine jr_gd (fun g3 => ?_)
    refine jr_icmp_lt C0 g3 (⟨by decide, by decide⟩) dX9_plot_34 (tgt := 42) (by decide) ?_ ?_
    · refine jr_aload_n C0 0 dX9_plot_42 rfl rfl ?_
      refine jr_getr C0 (by decide) kd_0 (by decide) rfl wx_X9 (i := 0) (by decide) wf_X9_12 (j := 1) rfl dX9_plot_43 ?_
      refine jr_getr C0 (by decide) kd_1 (by decide) rfl wx_X8 (i := 0) (by decide) wf_X9_70 (j := 2) rfl dX9_plot_46 ?_
      refine jr_iload_n C0 1 dX9_plot_49 rfl rfl ?_
      refine jr_iload_n C0 2 dX9_plot_50 rfl rfl ?_
      refine jr_vI C0 (by decide) kd_2 (by decide) rfl (ct_X2_add l G (by decide) kd_2 a0 h_a0 a1 h_a1 _) mi_X2_add wm_X9_80 ⟨Nat.le_of_ble_eq_true rfl, Nat.le_of_ble_eq_true rfl⟩ ⟨rfl, rfl⟩ (As := [.int (vr_I a0), .int (vr_I a1)]) rfl (st := []) rfl (Nat.le_of_ble_eq_true rfl) dX9_plot_51 (fun r4 hr4 => ?_)
      refine jr_sub [] rfl ?_
      exact B54 r4.1 hr4 _
    refine jr_bipush C0 dX9_plot_37 rfl ?_
    refine jr_goto C0 dX9_plot_39 (tgt := 54) (by decide) ?_
    refine jr_sub [] rfl ?_
    exact B54 (-4) (⟨by decide, by decide⟩) _
  refine jr_sub [] rfl ?_
  exact B19 _
theorem dX9_of_0 : decode cX9_of 0 = .ok (.aload_n 0, 1) := by decide +kernel
theorem dX9_of_1 : decode cX9_of 1 = .ok (.getfield 12, 3) := by decide +kernel
theorem dX9_of_4 : decode cX9_of 4 = .ok (.getfield 70, 3) := by decide +kernel
theorem dX9_of_7 : decode cX9_of 7 = .ok (.iload_n 1, 1) := by decide +kernel
theorem dX9_of_8 : decode cX9_of 8 = .ok (.invokevirtual 84, 3) := by decide +kernel
theorem dX9_of_11 : decode cX9_of 11 = .ok (.ifCond .ne 5, 3) := by decide +kernel
theorem dX9_of_14 : decode cX9_of 14 = .ok (.iconst (-1), 1) := by decide +kernel
theorem dX9_of_15 : decode cX9_of 15 = .ok (.ireturn, 1) := by decide +kernel
theorem dX9_of_16 : decode cX9_of 16 = .ok (.iload_n 2, 1) := by decide +kernel
theorem dX9_of_17 : decode cX9_of 17 = .ok (.tableswitch 100 0 4 #[35, 48, 61, 74, 87], 35) := by decide +kernel
theorem dX9_of_52 : decode cX9_of 52 = .ok (.aload_n 0, 1) := by decide +kernel
theorem dX9_of_53 : decode cX9_of 53 = .ok (.getfield 12, 3) := by decide +kernel
theorem dX9_of_56 : decode cX9_of 56 = .ok (.getfield 70, 3) := by decide +kernel
theorem dX9_of_59 : decode cX9_of 59 = .ok (.getfield 88, 3) := by decide +kernel
theorem dX9_of_62 : decode cX9_of 62 = .ok (.iload_n 1, 1) := by decide +kernel
theorem dX9_of_63 : decode cX9_of 63 = .ok (.iaload, 1) := by decide +kernel
theorem dX9_of_64 : decode cX9_of 64 = .ok (.ireturn, 1) := by decide +kernel
theorem dX9_of_65 : decode cX9_of 65 = .ok (.aload_n 0, 1) := by decide +kernel
theorem dX9_of_66 : decode cX9_of 66 = .ok (.getfield 12, 3) := by decide +kernel
theorem dX9_of_69 : decode cX9_of 69 = .ok (.getfield 70, 3) := by decide +kernel
theorem dX9_of_72 : decode cX9_of 72 = .ok (.getfield 92, 3) := by decide +kernel
theorem dX9_of_75 : decode cX9_of 75 = .ok (.iload_n 1, 1) := by decide +kernel
theorem dX9_of_76 : decode cX9_of 76 = .ok (.iaload, 1) := by decide +kernel
theorem dX9_of_77 : decode cX9_of 77 = .ok (.ireturn, 1) := by decide +kernel
theorem dX9_of_78 : decode cX9_of 78 = .ok (.aload_n 0, 1) := by decide +kernel
theorem dX9_of_79 : decode cX9_of 79 = .ok (.getfield 12, 3) := by decide +kernel
theorem dX9_of_82 : decode cX9_of 82 = .ok (.getfield 70, 3) := by decide +kernel
theorem dX9_of_85 : decode cX9_of 85 = .ok (.getfield 95, 3) := by decide +kernel
theorem dX9_of_88 : decode cX9_of 88 = .ok (.iload_n 1, 1) := by decide +kernel
theorem dX9_of_89 : decode cX9_of 89 = .ok (.iaload, 1) := by decide +kernel
theorem dX9_of_90 : decode cX9_of 90 = .ok (.ireturn, 1) := by decide +kernel
theorem dX9_of_91 : decode cX9_of 91 = .ok (.aload_n 0, 1) := by decide +kernel
theorem dX9_of_92 : decode cX9_of 92 = .ok (.getfield 12, 3) := by decide +kernel
theorem dX9_of_95 : decode cX9_of 95 = .ok (.getfield 70, 3) := by decide +kernel
theorem dX9_of_98 : decode cX9_of 98 = .ok (.getfield 98, 3) := by decide +kernel
theorem dX9_of_101 : decode cX9_of 101 = .ok (.iload_n 1, 1) := by decide +kernel
theorem dX9_of_102 : decode cX9_of 102 = .ok (.iaload, 1) := by decide +kernel
theorem dX9_of_103 : decode cX9_of 103 = .ok (.ireturn, 1) := by decide +kernel
theorem dX9_of_104 : decode cX9_of 104 = .ok (.aload_n 0, 1) := by decide +kernel
theorem dX9_of_105 : decode cX9_of 105 = .ok (.getfield 12, 3) := by decide +kernel
theorem dX9_of_108 : decode cX9_of 108 = .ok (.getfield 70, 3) := by decide +kernel
theorem dX9_of_111 : decode cX9_of 111 = .ok (.getfield 101, 3) := by decide +kernel
theorem dX9_of_114 : decode cX9_of 114 = .ok (.iload_n 1, 1) := by decide +kernel
theorem dX9_of_115 : decode cX9_of 115 = .ok (.iaload, 1) := by decide +kernel
theorem dX9_of_116 : decode cX9_of 116 = .ok (.ireturn, 1) := by decide +kernel
theorem dX9_of_117 : decode cX9_of 117 = .ok (.iconst (-1), 1) := by decide +kernel
theorem dX9_of_118 : decode cX9_of 118 = .ok (.ireturn, 1) := by decide +kernel
def fX9_of (a0 : Int) (a1 : Int) (μ : vr_M) : Option (Int × vr_M) :=
  (fX2_has 2 a0 μ).bind (fun r1 => if ¬ r1.1 = 0 then vr_sw a1 0 [vr_gd (0 ≤ a0 ∧ a0 < 8) (vr_gd (vr_R (r1.2 3 a0.toNat)) (some (r1.2 3 a0.toNat, r1.2))), vr_gd (0 ≤ a0 ∧ a0 < 8) (vr_gd (vr_R (r1.2 4 a0.toNat)) (some (r1.2 4 a0.toNat, r1.2))), vr_gd (0 ≤ a0 ∧ a0 < 8) (vr_gd (vr_R (r1.2 5 a0.toNat)) (some (r1.2 5 a0.toNat, r1.2))), vr_gd (0 ≤ a0 ∧ a0 < 8) (vr_gd (vr_R (r1.2 6 a0.toNat)) (some (r1.2 6 a0.toNat, r1.2))), vr_gd (0 ≤ a0 ∧ a0 < 8) (vr_gd (vr_R (r1.2 7 a0.toNat)) (some (r1.2 7 a0.toNat, r1.2)))] (some ((-1), r1.2)) else some ((-1), r1.2))
set_option maxRecDepth 100000 in
set_option maxHeartbeats 4000000 in
theorem ct_X9_of (l : Launch) (G : vr_G) (a0 : Int) (h_a0 : vr_R a0) (a1 : Int) (h_a1 : vr_R a1) (μ : vr_M) : vr_CI l yX9_of cX9_of 3 (some .int) ({ frames := 1, cells := 0, slots := 0, locals := 21 } : Room) G [.ref (vr_ad G 0), .int (vr_I a0), .int (vr_I a1)] μ (fX9_of a0 a1 μ) := by
  refine vr_start (own := RX9) (by decide) rfl (Nat.le_of_ble_eq_true rfl) (fun p e s m args below meth c C0 => ?_)
  show vr_J p l e _ s m args below meth c 3 0 0 G (vr_Z (vr_QI G) G args s below) 0 [(0, .ref (vr_ad G 0)), (1, .int (vr_I a0)), (2, .int (vr_I a1))] [] μ _
  unfold fX9_of
  refine jr_aload_n C0 0 dX9_of_0 rfl rfl ?_
  refine jr_getr C0 (by decide) kd_0 (by decide) rfl wx_X9 (i := 0) (by decide) wf_X9_12 (j := 1) rfl dX9_of_1 ?_
  refine jr_getr C0 (by decide) kd_1 (by decide) rfl wx_X8 (i := 0) (by decide) wf_X9_70 (j := 2) rfl dX9_of_4 ?_
  refine jr_iload_n C0 1 dX9_of_7 rfl rfl ?_
  refine jr_vI C0 (by decide) kd_2 (by decide) rfl (ct_X2_has l G (by decide) kd_2 a0 h_a0 _) mi_X2_has wm_X9_84 ⟨Nat.le_of_ble_eq_true rfl, Nat.le_of_ble_eq_true rfl⟩ ⟨rfl, rfl⟩ (As := [.int (vr_I a0)]) rfl (st := []) rfl (Nat.le_of_ble_eq_true rfl) dX9_of_8 (fun r1 hr1 => ?_)
  refine jr_if_ne C0 hr1 dX9_of_11 (tgt := 16) (by decide) ?_ ?_
  · refine jr_iload_n C0 2 dX9_of_16 rfl rfl ?_
    refine jr_tsw C0 h_a1 dX9_of_17 (by decide) (td := 117) (by decide) (vr_TS_cons (tgt := 52) (by decide) ?_ (vr_TS_cons (tgt := 65) (by decide) ?_ (vr_TS_cons (tgt := 78) (by decide) ?_ (vr_TS_cons (tgt := 91) (by decide) ?_ (vr_TS_cons (tgt := 104) (by decide) ?_ vr_TS_nil))))) ?_
    · show vr_J p l e _ s m args below meth c _ _ _ G _ 52 _ _ _ _
      refine jr_aload_n C0 0 dX9_of_52 rfl rfl ?_
      refine jr_getr C0 (by decide) kd_0 (by decide) rfl wx_X9 (i := 0) (by decide) wf_X9_12 (j := 1) rfl dX9_of_53 ?_
      refine jr_getr C0 (by decide) kd_1 (by decide) rfl wx_X8 (i := 0) (by decide) wf_X9_70 (j := 2) rfl dX9_of_56 ?_
      refine jr_getr C0 (by decide) kd_2 (by decide) rfl wx_X2 (i := 0) (by decide) wf_X9_88 (j := 3) rfl dX9_of_59 ?_
      refine jr_iload_n C0 1 dX9_of_62 rfl rfl ?_
      refine jr_gd (fun g2 => ?_)
      refine jr_iald C0 (by decide) kd_3 kl_3 g2 (j := a0.toNat) rfl dX9_of_63 ?_
      refine jr_gd (fun g3 => ?_)
      exact jr_iret C0 g3 dX9_of_64
    · show vr_J p l e _ s m args below meth c _ _ _ G _ 65 _ _ _ _
      refine jr_aload_n C0 0 dX9_of_65 rfl rfl ?_
      refine jr_getr C0 (by decide) kd_0 (by decide) rfl wx_X9 (i := 0) (by decide) wf_X9_12 (j := 1) rfl dX9_of_66 ?_
      refine jr_getr C0 (by decide) kd_1 (by decide) rfl wx_X8 (i := 0) (by decide) wf_X9_70 (j := 2) rfl dX9_of_69 ?_
      refine jr_getr C0 (by decide) kd_2 (by decide) rfl wx_X2 (i := 1) (by decide) wf_X9_92 (j := 4) rfl dX9_of_72 ?_
      refine jr_iload_n C0 1 dX9_of_75 rfl rfl ?_
      refine jr_gd (fun g4 => ?_)
      refine jr_iald C0 (by decide) kd_4 kl_4 g4 (j := a0.toNat) rfl dX9_of_76 ?_
      refine jr_gd (fun g5 => ?_)
      exact jr_iret C0 g5 dX9_of_77
    · show vr_J p l e _ s m args below meth c _ _ _ G _ 78 _ _ _ _
      refine jr_aload_n C0 0 dX9_of_78 rfl rfl ?_
      refine jr_getr C0 (by decide) kd_0 (by decide) rfl wx_X9 (i := 0) (by decide) wf_X9_12 (j := 1) rfl dX9_of_79 ?_
      refine jr_getr C0 (by decide) kd_1 (by decide) rfl wx_X8 (i := 0) (by decide) wf_X9_70 (j := 2) rfl dX9_of_82 ?_
      refine jr_getr C0 (by decide) kd_2 (by decide) rfl wx_X2 (i := 2) (by decide) wf_X9_95 (j := 5) rfl dX9_of_85 ?_
      refine jr_iload_n C0 1 dX9_of_88 rfl rfl ?_
      refine jr_gd (fun g6 => ?_)
      refine jr_iald C0 (by decide) kd_5 kl_5 g6 (j := a0.toNat) rfl dX9_of_89 ?_
      refine jr_gd (fun g7 => ?_)
      exact jr_iret C0 g7 dX9_of_90
    · show vr_J p l e _ s m args below meth c _ _ _ G _ 91 _ _ _ _
      refine jr_aload_n C0 0 dX9_of_91 rfl rfl ?_
      refine jr_getr C0 (by decide) kd_0 (by decide) rfl wx_X9 (i := 0) (by decide) wf_X9_12 (j := 1) rfl dX9_of_92 ?_
      refine jr_getr C0 (by decide) kd_1 (by decide) rfl wx_X8 (i := 0) (by decide) wf_X9_70 (j := 2) rfl dX9_of_95 ?_
      refine jr_getr C0 (by decide) kd_2 (by decide) rfl wx_X2 (i := 3) (by decide) wf_X9_98 (j := 6) rfl dX9_of_98 ?_
      refine jr_iload_n C0 1 dX9_of_101 rfl rfl ?_
      refine jr_gd (fun g8 => ?_)
      refine jr_iald C0 (by decide) kd_6 kl_6 g8 (j := a0.toNat) rfl dX9_of_102 ?_
      refine jr_gd (fun g9 => ?_)
      exact jr_iret C0 g9 dX9_of_103
    · show vr_J p l e _ s m args below meth c _ _ _ G _ 104 _ _ _ _
      refine jr_aload_n C0 0 dX9_of_104 rfl rfl ?_
      refine jr_getr C0 (by decide) kd_0 (by decide) rfl wx_X9 (i := 0) (by decide) wf_X9_12 (j := 1) rfl dX9_of_105 ?_
      refine jr_getr C0 (by decide) kd_1 (by decide) rfl wx_X8 (i := 0) (by decide) wf_X9_70 (j := 2) rfl dX9_of_108 ?_
      refine jr_getr C0 (by decide) kd_2 (by decide) rfl wx_X2 (i := 4) (by decide) wf_X9_101 (j := 7) rfl dX9_of_111 ?_
      refine jr_iload_n C0 1 dX9_of_114 rfl rfl ?_
      refine jr_gd (fun g10 => ?_)
      refine jr_iald C0 (by decide) kd_7 kl_7 g10 (j := a0.toNat) rfl dX9_of_115 ?_
      refine jr_gd (fun g11 => ?_)
      exact jr_iret C0 g11 dX9_of_116
    refine jr_iconst C0 dX9_of_117 ?_
    exact jr_iret C0 (⟨by decide, by decide⟩) dX9_of_118
  refine jr_iconst C0 dX9_of_14 ?_
  exact jr_iret C0 (⟨by decide, by decide⟩) dX9_of_15

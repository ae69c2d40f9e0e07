theorem dX10_isAhead_0 : decode cX10_isAhead 0 = .ok (.aload_n 0, 1) := by decide +kernel
theorem dX10_isAhead_1 : decode cX10_isAhead 1 = .ok (.getfield 9, 3) := by decide +kernel
theorem dX10_isAhead_4 : decode cX10_isAhead 4 = .ok (.sipush 146, 3) := by decide +kernel
theorem dX10_isAhead_7 : decode cX10_isAhead 7 = .ok (.iload_n 2, 1) := by decide +kernel
theorem dX10_isAhead_8 : decode cX10_isAhead 8 = .ok (.iadd, 1) := by decide +kernel
theorem dX10_isAhead_9 : decode cX10_isAhead 9 = .ok (.iaload, 1) := by decide +kernel
theorem dX10_isAhead_10 : decode cX10_isAhead 10 = .ok (.ifCond .le 7, 3) := by decide +kernel
theorem dX10_isAhead_13 : decode cX10_isAhead 13 = .ok (.iconst 1, 1) := by decide +kernel
theorem dX10_isAhead_14 : decode cX10_isAhead 14 = .ok (.goto 4, 3) := by decide +kernel
theorem dX10_isAhead_17 : decode cX10_isAhead 17 = .ok (.iconst 0, 1) := by decide +kernel
theorem dX10_isAhead_18 : decode cX10_isAhead 18 = .ok (.istore 5, 2) := by decide +kernel
theorem dX10_isAhead_20 : decode cX10_isAhead 20 = .ok (.aload_n 0, 1) := by decide +kernel
theorem dX10_isAhead_21 : decode cX10_isAhead 21 = .ok (.getfield 9, 3) := by decide +kernel
theorem dX10_isAhead_24 : decode cX10_isAhead 24 = .ok (.sipush 146, 3) := by decide +kernel
theorem dX10_isAhead_27 : decode cX10_isAhead 27 = .ok (.iload_n 3, 1) := by decide +kernel
theorem dX10_isAhead_28 : decode cX10_isAhead 28 = .ok (.iadd, 1) := by decide +kernel
theorem dX10_isAhead_29 : decode cX10_isAhead 29 = .ok (.iaload, 1) := by decide +kernel
theorem dX10_isAhead_30 : decode cX10_isAhead 30 = .ok (.ifCond .le 7, 3) := by decide +kernel
theorem dX10_isAhead_33 : decode cX10_isAhead 33 = .ok (.iconst 1, 1) := by decide +kernel
theorem dX10_isAhead_34 : decode cX10_isAhead 34 = .ok (.goto 4, 3) := by decide +kernel
theorem dX10_isAhead_37 : decode cX10_isAhead 37 = .ok (.iconst 0, 1) := by decide +kernel
theorem dX10_isAhead_38 : decode cX10_isAhead 38 = .ok (.istore 6, 2) := by decide +kernel
theorem dX10_isAhead_40 : decode cX10_isAhead 40 = .ok (.iload_n 1, 1) := by decide +kernel
theorem dX10_isAhead_41 : decode cX10_isAhead 41 = .ok (.iconst 5, 1) := by decide +kernel
theorem dX10_isAhead_42 : decode cX10_isAhead 42 = .ok (.if_icmp .ne 13, 3) := by decide +kernel
theorem dX10_isAhead_45 : decode cX10_isAhead 45 = .ok (.iload 5, 2) := by decide +kernel
theorem dX10_isAhead_47 : decode cX10_isAhead 47 = .ok (.iload 6, 2) := by decide +kernel
theorem dX10_isAhead_49 : decode cX10_isAhead 49 = .ok (.if_icmp .eq 6, 3) := by decide +kernel
theorem dX10_isAhead_52 : decode cX10_isAhead 52 = .ok (.iload 5, 2) := by decide +kernel
theorem dX10_isAhead_54 : decode cX10_isAhead 54 = .ok (.ireturn, 1) := by decide +kernel
theorem dX10_isAhead_55 : decode cX10_isAhead 55 = .ok (.aload_n 0, 1) := by decide +kernel
theorem dX10_isAhead_56 : decode cX10_isAhead 56 = .ok (.getfield 9, 3) := by decide +kernel
theorem dX10_isAhead_59 : decode cX10_isAhead 59 = .ok (.sipush 138, 3) := by decide +kernel
theorem dX10_isAhead_62 : decode cX10_isAhead 62 = .ok (.iload_n 2, 1) := by decide +kernel
theorem dX10_isAhead_63 : decode cX10_isAhead 63 = .ok (.iadd, 1) := by decide +kernel
theorem dX10_isAhead_64 : decode cX10_isAhead 64 = .ok (.iaload, 1) := by decide +kernel
theorem dX10_isAhead_65 : decode cX10_isAhead 65 = .ok (.iload 4, 2) := by decide +kernel
theorem dX10_isAhead_67 : decode cX10_isAhead 67 = .ok (.isub, 1) := by decide +kernel
theorem dX10_isAhead_68 : decode cX10_isAhead 68 = .ok (.invokestatic 147, 3) := by decide +kernel
theorem dX10_isAhead_71 : decode cX10_isAhead 71 = .ok (.aload_n 0, 1) := by decide +kernel
theorem dX10_isAhead_72 : decode cX10_isAhead 72 = .ok (.getfield 9, 3) := by decide +kernel
theorem dX10_isAhead_75 : decode cX10_isAhead 75 = .ok (.sipush 138, 3) := by decide +kernel
theorem dX10_isAhead_78 : decode cX10_isAhead 78 = .ok (.iload_n 3, 1) := by decide +kernel
theorem dX10_isAhead_79 : decode cX10_isAhead 79 = .ok (.iadd, 1) := by decide +kernel
theorem dX10_isAhead_80 : decode cX10_isAhead 80 = .ok (.iaload, 1) := by decide +kernel
theorem dX10_isAhead_81 : decode cX10_isAhead 81 = .ok (.iload 4, 2) := by decide +kernel
theorem dX10_isAhead_83 : decode cX10_isAhead 83 = .ok (.isub, 1) := by decide +kernel
theorem dX10_isAhead_84 : decode cX10_isAhead 84 = .ok (.invokestatic 147, 3) := by decide +kernel
theorem dX10_isAhead_87 : decode cX10_isAhead 87 = .ok (.isub, 1) := by decide +kernel
theorem dX10_isAhead_88 : decode cX10_isAhead 88 = .ok (.istore 7, 2) := by decide +kernel
theorem dX10_isAhead_90 : decode cX10_isAhead 90 = .ok (.iload_n 1, 1) := by decide +kernel
theorem dX10_isAhead_91 : decode cX10_isAhead 91 = .ok (.iconst 3, 1) := by decide +kernel
theorem dX10_isAhead_92 : decode cX10_isAhead 92 = .ok (.if_icmp .ne 19, 3) := by decide +kernel
theorem dX10_isAhead_95 : decode cX10_isAhead 95 = .ok (.iload 7, 2) := by decide +kernel
theorem dX10_isAhead_97 : decode cX10_isAhead 97 = .ok (.ifCond .eq 14, 3) := by decide +kernel
theorem dX10_isAhead_100 : decode cX10_isAhead 100 = .ok (.iload 7, 2) := by decide +kernel
theorem dX10_isAhead_102 : decode cX10_isAhead 102 = .ok (.ifCond .ge 7, 3) := by decide +kernel
theorem dX10_isAhead_105 : decode cX10_isAhead 105 = .ok (.iconst 1, 1) := by decide +kernel
theorem dX10_isAhead_106 : decode cX10_isAhead 106 = .ok (.goto 4, 3) := by decide +kernel
theorem dX10_isAhead_109 : decode cX10_isAhead 109 = .ok (.iconst 0, 1) := by decide +kernel
theorem dX10_isAhead_110 : decode cX10_isAhead 110 = .ok (.ireturn, 1) := by decide +kernel
theorem dX10_isAhead_111 : decode cX10_isAhead 111 = .ok (.aload_n 0, 1) := by decide +kernel
theorem dX10_isAhead_112 : decode cX10_isAhead 112 = .ok (.getfield 28, 3) := by decide +kernel
theorem dX10_isAhead_115 : decode cX10_isAhead 115 = .ok (.iload_n 2, 1) := by decide +kernel
theorem dX10_isAhead_116 : decode cX10_isAhead 116 = .ok (.iaload, 1) := by decide +kernel
theorem dX10_isAhead_117 : decode cX10_isAhead 117 = .ok (.aload_n 0, 1) := by decide +kernel
theorem dX10_isAhead_118 : decode cX10_isAhead 118 = .ok (.getfield 28, 3) := by decide +kernel
theorem dX10_isAhead_121 : decode cX10_isAhead 121 = .ok (.iload_n 3, 1) := by decide +kernel
theorem dX10_isAhead_122 : decode cX10_isAhead 122 = .ok (.iaload, 1) := by decide +kernel
theorem dX10_isAhead_123 : decode cX10_isAhead 123 = .ok (.if_icmp .le 7, 3) := by decide +kernel
theorem dX10_isAhead_126 : decode cX10_isAhead 126 = .ok (.iconst 1, 1) := by decide +kernel
theorem dX10_isAhead_127 : decode cX10_isAhead 127 = .ok (.goto 4, 3) := by decide +kernel
theorem dX10_isAhead_130 : decode cX10_isAhead 130 = .ok (.iconst 0, 1) := by decide +kernel
theorem dX10_isAhead_131 : decode cX10_isAhead 131 = .ok (.ireturn, 1) := by decide +kernel
def fX10_isAhead_B110 (y0 : Int) (μ : vr_M) : Option (Int × vr_M) :=
  vr_gd (y0 = 0 ∨ y0 = 1) (some (y0, μ))
def fX10_isAhead_B131 (y0 : Int) (μ : vr_M) : Option (Int × vr_M) :=
  vr_gd (y0 = 0 ∨ y0 = 1) (some (y0, μ))
def fX10_isAhead_B111 (x2 : Int) (x3 : Int) (μ : vr_M) : Option (Int × vr_M) :=
  vr_gd (0 ≤ x2 ∧ x2 < 8) (vr_gd (0 ≤ x3 ∧ x3 < 8) (vr_gd (vr_R (μ 74 x2.toNat)) (vr_gd (vr_R (μ 74 x3.toNat)) (if (μ 74 x2.toNat) ≤ (μ 74 x3.toNat) then fX10_isAhead_B131 0 μ else fX10_isAhead_B131 1 μ))))
def fX10_isAhead_B55 (x1 : Int) (x2 : Int) (x3 : Int) (x4 : Int) (μ : vr_M) : Option (Int × vr_M) :=
  vr_gd (0 ≤ (138 + x2) ∧ (138 + x2) < 933) (vr_gd (vr_R ((μ 69 (138 + x2).toNat) - x4)) ((fX10_size ((μ 69 (138 + x2).toNat) - x4) μ).bind (fun r9 => vr_gd (0 ≤ (138 + x3) ∧ (138 + x3) < 933) (vr_gd (vr_R ((r9.2 69 (138 + x3).toNat) - x4)) ((fX10_size ((r9.2 69 (138 + x3).toNat) - x4) r9.2).bind (fun r12 => if ¬ x1 = 3 then fX10_isAhead_B111 x2 x3 r12.2 else vr_gd (vr_R (r9.1 - r12.1)) (if (r9.1 - r12.1) = 0 then fX10_isAhead_B111 x2 x3 r12.2 else if 0 ≤ (r9.1 - r12.1) then fX10_isAhead_B110 0 r12.2 else fX10_isAhead_B110 1 r12.2)))))))
def fX10_isAhead_B38 (x1 : Int) (x2 : Int) (x3 : Int) (x4 : Int) (x5 : Int) (y0 : Int) (μ : vr_M) : Option (Int × vr_M) :=
  if ¬ x1 = 5 then fX10_isAhead_B55 x1 x2 x3 x4 μ else if x5 = y0 then fX10_isAhead_B55 x1 x2 x3 x4 μ else vr_gd (x5 = 0 ∨ x5 = 1) (some (x5, μ))
def fX10_isAhead_B18 (x1 : Int) (x2 : Int) (x3 : Int) (x4 : Int) (y0 : Int) (μ : vr_M) : Option (Int × vr_M) :=
  vr_gd (0 ≤ (146 + x3) ∧ (146 + x3) < 933) (vr_gd (vr_R (μ 69 (146 + x3).toNat)) (if (μ 69 (146 + x3).toNat) ≤ 0 then fX10_isAhead_B38 x1 x2 x3 x4 y0 0 μ else fX10_isAhead_B38 x1 x2 x3 x4 y0 1 μ))
def fX10_isAhead (a0 : Int) (a1 : Int) (a2 : Int) (a3 : Int) (μ : vr_M) : Option (Int × vr_M) :=
  vr_gd (0 ≤ (146 + a1) ∧ (146 + a1) < 933) (vr_gd (vr_R (μ 69 (146 + a1).toNat)) (if (μ 69 (146 + a1).toNat) ≤ 0 then fX10_isAhead_B18 a0 a1 a2 a3 0 μ else fX10_isAhead_B18 a0 a1 a2 a3 1 μ))
set_option maxRecDepth 100000 in
set_option maxHeartbeats 4000000 in
theorem ct_X10_isAhead (l : Launch) (G : vr_G) (a0 : Int) (h_a0 : vr_R a0) (a1 : Int) (h_a1 : vr_R a1) (a2 : Int) (h_a2 : vr_R a2) (a3 : Int) (h_a3 : vr_R a3) (μ : vr_M) : vr_CI l yX10_isAhead cX10_isAhead 8 (some .boolean) ({ frames := 1, cells := 0, slots := 0, locals := 20 } : Room) G [.ref (vr_ad G 68), .int (vr_I a0), .int (vr_I a1), .int (vr_I a2), .int (vr_I a3)] μ (fX10_isAhead a0 a1 a2 a3 μ) := by
  refine vr_start (own := RX10) (by decide) rfl (Nat.le_of_ble_eq_true rfl) (fun p e s m args below meth c C0 => ?_)
  show vr_J p l e _ s m args below meth c 8 0 0 G (vr_Z (vr_QI G) G args s below) 0 [(0, .ref (vr_ad G 68)), (1, .int (vr_I a0)), (2, .int (vr_I a1)), (3, .int (vr_I a2)), (4, .int (vr_I a3))] [] μ _
  have B110 : ∀ (y0 : Int) (h_y0 : vr_R y0) (μ : vr_M), vr_J p l e ({ frames := 1, cells := 0, slots := 0, locals := 20 } : Room) s m args below meth c 8 0 0 G (vr_Z (vr_QI G) G args s below) 110 [] [.int (vr_I y0)] μ (fX10_isAhead_B110 y0 μ) := by
    intro y0 h_y0 μ
    unfold fX10_isAhead_B110
    refine jr_gd (fun g1 => ?_)
    exact jr_zret C0 h_y0 (vr_nz g1) dX10_isAhead_110
  have B131 : ∀ (y0 : Int) (h_y0 : vr_R y0) (μ : vr_M), vr_J p l e ({ frames := 1, cells := 0, slots := 0, locals := 20 } : Room) s m args below meth c 8 0 0 G (vr_Z (vr_QI G) G args s below) 131 [] [.int (vr_I y0)] μ (fX10_isAhead_B131 y0 μ) := by
    intro y0 h_y0 μ
    unfold fX10_isAhead_B131
    refine jr_gd (fun g2 => ?_)
    exact jr_zret C0 h_y0 (vr_nz g2) dX10_isAhead_131
  have B111 : ∀ (x2 : Int) (h_x2 : vr_R x2) (x3 : Int) (h_x3 : vr_R x3) (μ : vr_M), vr_J p l e ({ frames := 1, cells := 0, slots := 0, locals := 20 } : Room) s m args below meth c 8 0 0 G (vr_Z (vr_QI G) G args s below) 111 [(0, .ref (vr_ad G 68)), (2, .int (vr_I x2)), (3, .int (vr_I x3))] [] μ (fX10_isAhead_B111 x2 x3 μ) := by
    intro x2 h_x2 x3 h_x3 μ
    unfold fX10_isAhead_B111
    refine jr_aload_n C0 0 dX10_isAhead_111 rfl rfl ?_
    refine jr_getr C0 (by decide) kd_68 (by decide) rfl wx_X10 (i := 14) (by decide) wf_X10_28 (j := 74) rfl dX10_isAhead_112 ?_
    refine jr_iload_n C0 1 dX10_isAhead_115 rfl rfl ?_
    refine jr_gd (fun g3 => ?_)
    refine jr_iald C0 (by decide) kd_74 kl_74 g3 (j := x2.toNat) rfl dX10_isAhead_116 ?_
    refine jr_aload_n C0 0 dX10_isAhead_117 rfl rfl ?_
    refine jr_getr C0 (by decide) kd_68 (by decide) rfl wx_X10 (i := 14) (by decide) wf_X10_28 (j := 74) rfl dX10_isAhead_118 ?_
    refine jr_iload_n C0 2 dX10_isAhead_121 rfl rfl ?_
    refine jr_gd (fun g4 => ?_)
    refine jr_iald C0 (by decide) kd_74 kl_74 g4 (j := x3.toNat) rfl dX10_isAhead_122 ?_
    refine jr_gd (fun g5 => ?_)
    refine jr_gd (fun g6 => ?_)
    refine jr_icmp_le C0 g5 g6 dX10_isAhead_123 (tgt := 130) (by decide) ?_ ?_
    · refine jr_iconst C0 dX10_isAhead_130 ?_
      refine jr_sub [] rfl ?_
      exact B131 0 (⟨by decide, by decide⟩) _
    refine jr_iconst C0 dX10_isAhead_126 ?_
    refine jr_goto C0 dX10_isAhead_127 (tgt := 131) (by decide) ?_
    refine jr_sub [] rfl ?_
    exact B131 1 (⟨by decide, by decide⟩) _
  have B55 : ∀ (x1 : Int) (h_x1 : vr_R x1) (x2 : Int) (h_x2 : vr_R x2) (x3 : Int) (h_x3 : vr_R x3) (x4 : Int) (h_x4 : vr_R x4) (μ : vr_M), vr_J p l e ({ frames := 1, cells := 0, slots := 0, locals := 20 } : Room) s m args below meth c 8 0 0 G (vr_Z (vr_QI G) G args s below) 55 [(0, .ref (vr_ad G 68)), (1, .int (vr_I x1)), (2, .int (vr_I x2)), (3, .int (vr_I x3)), (4, .int (vr_I x4))] [] μ (fX10_isAhead_B55 x1 x2 x3 x4 μ) := by
    intro x1 h_x1 x2 h_x2 x3 h_x3 x4 h_x4 μ
    unfold fX10_isAhead_B55
    refine jr_aload_n C0 0 dX10_isAhead_55 rfl rfl ?_
    refine jr_getr C0 (by decide) kd_68 (by decide) rfl wx_X10 (i := 1) (by decide) wf_X10_9 (j := 69) rfl dX10_isAhead_56 ?_
    refine jr_sipush C0 dX10_isAhead_59 rfl ?_
    refine jr_iload_n C0 2 dX10_isAhead_62 rfl rfl ?_
    refine jr_iadd C0 dX10_isAhead_63 ?_
    refine jr_gd (fun g7 => ?_)
    refine jr_iald C0 (by decide) kd_69 kl_69 g7 (j := (138 + x2).toNat) rfl dX10_isAhead_64 ?_
    refine jr_iload C0 4 dX10_isAhead_65 rfl ?_
    refine jr_isub C0 dX10_isAhead_67 ?_
    refine jr_gd (fun g8 => ?_)
    refine jr_sI C0 (ct_X10_size l G ((μ 69 (138 + x2).toNat) - x4) g8 _) mi_X10_size wm_X10_147 ⟨Nat.le_of_ble_eq_true rfl, Nat.le_of_ble_eq_true rfl⟩ ⟨rfl, rfl⟩ (As := [.int (vr_I ((μ 69 (138 + x2).toNat) - x4))]) rfl (st := []) rfl (Nat.le_of_ble_eq_true rfl) dX10_isAhead_68 (fun r9 hr9 => ?_)
    refine jr_aload_n C0 0 dX10_isAhead_71 rfl rfl ?_
    refine jr_getr C0 (by decide) kd_68 (by decide) rfl wx_X10 (i := 1) (by decide) wf_X10_9 (j := 69) rfl dX10_isAhead_72 ?_
    refine jr_sipush C0 dX10_isAhead_75 rfl ?_
    refine jr_iload_n C0 3 dX10_isAhead_78 rfl rfl ?_
    refine jr_iadd C0 dX10_isAhead_79 ?_
    refine jr_gd (fun g10 => ?_)
    refine jr_iald C0 (by decide) kd_69 kl_69 g10 (j := (138 + x3).toNat) rfl dX10_isAhead_80 ?_
    refine jr_iload C0 4 dX10_isAhead_81 rfl ?_
    refine jr_isub C0 dX10_isAhead_83 ?_
    refine jr_gd (fun g11 => ?_)
    refine jr_sI C0 (ct_X10_size l G ((r9.2 69 (138 + x3).toNat) - x4) g11 _) mi_X10_size wm_X10_147 ⟨Nat.le_of_ble_eq_true rfl, Nat.le_of_ble_eq_true rfl⟩ ⟨rfl, rfl⟩ (As := [.int (vr_I ((r9.2 69 (138 + x3).toNat) - x4))]) rfl (st := [.int (vr_I r9.1)]) rfl (Nat.le_of_ble_eq_true rfl) dX10_isAhead_84 (fun r12 hr12 => ?_)
    refine jr_isub C0 dX10_isAhead_87 ?_
    refine jr_istore C0 dX10_isAhead_88 (by decide) (lv' := [(7, .int (vr_I (r9.1 - r12.1))), (0, .ref (vr_ad G 68)), (1, .int (vr_I x1)), (2, .int (vr_I x2)), (3, .int (vr_I x3)), (4, .int (vr_I x4))]) rfl ?_
    refine jr_iload_n C0 2 dX10_isAhead_90 rfl rfl ?_
    refine jr_iconst C0 dX10_isAhead_91 ?_
    refine jr_icmp_ne C0 h_x1 (⟨by decide, by decide⟩) dX10_isAhead_92 (tgt := 111) (by decide) ?_ ?_
    · refine jr_sub [1, 3, 4] rfl ?_
      exact B111 x2 h_x2 x3 h_x3 _
    refine jr_iload C0 0 dX10_isAhead_95 rfl ?_
    refine jr_gd (fun g13 => ?_)
    refine jr_if_eq C0 g13 dX10_isAhead_97 (tgt := 111) (by decide) ?_ ?_
    · refine jr_sub [1, 3, 4] rfl ?_
      exact B111 x2 h_x2 x3 h_x3 _
    refine jr_iload C0 0 dX10_isAhead_100 rfl ?_
    refine jr_if_ge C0 g13 dX10_isAhead_102 (tgt := 109) (by decide) ?_ ?_
    · refine jr_iconst C0 dX10_isAhead_109 ?_
      refine jr_sub [] rfl ?_
      exact B110 0 (⟨by decide, by decide⟩) _
    refine jr_iconst C0 dX10_isAhead_105 ?_
    refine jr_goto C0 dX10_isAhead_106 (tgt := 110) (by decide) ?_
    refine jr_sub [] rfl ?_
    exact B110 1 (⟨by decide, by decide⟩) _
  have B38 : ∀ (x1 : Int) (h_x1 : vr_R x1) (x2 : Int) (h_x2 : vr_R x2) (x3 : Int) (h_x3 : vr_R x3) (x4 : Int) (h_x4 : vr_R x4) (x5 : Int) (h_x5 : vr_R x5) (y0 : Int) (h_y0 : vr_R y0) (μ : vr_M), vr_J p l e ({ frames := 1, cells := 0, slots := 0, locals := 20 } : Room) s m args below meth c 8 0 0 G (vr_Z (vr_QI G) G args s below) 38 [(0, .ref (vr_ad G 68)), (1, .int (vr_I x1)), (2, .int (vr_I x2)), (3, .int (vr_I x3)), (4, .int (vr_I x4)), (5, .int (vr_I x5))] [.int (vr_I y0)] μ (fX10_isAhead_B38 x1 x2 x3 x4 x5 y0 μ) := by
    intro x1 h_x1 x2 h_x2 x3 h_x3 x4 h_x4 x5 h_x5 y0 h_y0 μ
    unfold fX10_isAhead_B38
    refine jr_istore C0 dX10_isAhead_38 (by decide) (lv' := [(6, .int (vr_I y0)), (0, .ref (vr_ad G 68)), (1, .int (vr_I x1)), (2, .int (vr_I x2)), (3, .int (vr_I x3)), (4, .int (vr_I x4)), (5, .int (vr_I x5))]) rfl ?_
    refine jr_iload_n C0 2 dX10_isAhead_40 rfl rfl ?_
    refine jr_iconst C0 dX10_isAhead_41 ?_
    refine jr_icmp_ne C0 h_x1 (⟨by decide, by decide⟩) dX10_isAhead_42 (tgt := 55) (by decide) ?_ ?_
    · refine jr_sub [1, 2, 3, 4, 5] rfl ?_
      exact B55 x1 h_x1 x2 h_x2 x3 h_x3 x4 h_x4 _
    refine jr_iload C0 6 dX10_isAhead_45 rfl ?_
    refine jr_iload C0 0 dX10_isAhead_47 rfl ?_
    refine jr_icmp_eq C0 h_x5 h_y0 dX10_isAhead_49 (tgt := 55) (by decide) ?_ ?_
    · refine jr_sub [1, 2, 3, 4, 5] rfl ?_
      exact B55 x1 h_x1 x2 h_x2 x3 h_x3 x4 h_x4 _
    refine jr_iload C0 6 dX10_isAhead_52 rfl ?_
    refine jr_gd (fun g14 => ?_)
    exact jr_zret C0 h_x5 (vr_nz g14) dX10_isAhead_54
  have B18 : ∀ (x1 : Int) (h_x1 : vr_R x1) (x2 : Int) (h_x2 : vr_R x2) (x3 : Int) (h_x3 : vr_R x3) (x4 : Int) (h_x4 : vr_R x4) (y0 : Int) (h_y0 : vr_R y0) (μ : vr_M), vr_J p l e ({ frames := 1, cells := 0, slots := 0, locals := 20 } : Room) s m args below meth c 8 0 0 G (vr_Z (vr_QI G) G args s below) 18 [(0, .ref (vr_ad G 68)), (1, .int (vr_I x1)), (2, .int (vr_I x2)), (3, .int (vr_I x3)), (4, .int (vr_I x4))] [.int (vr_I y0)] μ (fX10_isAhead_B18 x1 x2 x3 x4 y0 μ) := by
    intro x1 h_x1 x2 h_x2 x3 h_x3 x4 h_x4 y0 h_y0 μ
    unfold fX10_isAhead_B18
    refine jr_istore C0 dX10_isAhead_18 (by decide) (lv' := [(5, .int (vr_I y0)), (0, .ref (vr_ad G 68)), (1, .int (vr_I x1)), (2, .int (vr_I x2)), (3, .int (vr_I x3)), (4, .int (vr_I x4))]) rfl ?_
    refine jr_aload_n C0 1 dX10_isAhead_20 rfl rfl ?_
    refine jr_getr C0 (by decide) kd_68 (by decide) rfl wx_X10 (i := 1) (by decide) wf_X10_9 (j := 69) rfl dX10_isAhead_21 ?_
    refine jr_sipush C0 dX10_isAhead_24 rfl ?_
    refine jr_iload_n C0 4 dX10_isAhead_27 rfl rfl ?_
    refine jr_iadd C0 dX10_isAhead_28 ?_
    refine jr_gd (fun g15 => ?_)
    refine jr_iald C0 (by decide) kd_69 kl_69 g15 (j := (146 + x3).toNat) rfl dX10_isAhead_29 ?_
    refine jr_gd (fun g16 => ?_)
    refine jr_if_le C0 g16 dX10_isAhead_30 (tgt := 37) (by decide) ?_ ?_
    · refine jr_iconst C0 dX10_isAhead_37 ?_
      refine jr_sub [1, 2, 3, 4, 5, 0] rfl ?_
      exact B38 x1 h_x1 x2 h_x2 x3 h_x3 x4 h_x4 y0 h_y0 0 (⟨by decide, by decide⟩) _
    refine jr_iconst C0 dX10_isAhead_33 ?_
    refine jr_goto C0 dX10_isAhead_34 (tgt := 38) (by decide) ?_
    refine jr_sub [1, 2, 3, 4, 5, 0] rfl ?_
    exact B38 x1 h_x1 x2 h_x2 x3 h_x3 x4 h_x4 y0 h_y0 1 (⟨by decide, by decide⟩) _
  unfold fX10_isAhead
  refine jr_aload_n C0 0 dX10_isAhead_0 rfl rfl ?_
  refine jr_getr C0 (by decide) kd_68 (by decide) rfl wx_X10 (i := 1) (by decide) wf_X10_9 (j := 69) rfl dX10_isAhead_1 ?_
  refine jr_sipush C0 dX10_isAhead_4 rfl ?_
  refine jr_iload_n C0 2 dX10_isAhead_7 rfl rfl ?_
  refine jr_iadd C0 dX10_isAhead_8 ?_
  refine jr_gd (fun g17 => ?_)
  refine jr_iald C0 (by decide) kd_69 kl_69 g17 (j := (146 + a1).toNat) rfl dX10_isAhead_9 ?_
  refine jr_gd (fun g18 => ?_)
  refine jr_if_le C0 g18 dX10_isAhead_10 (tgt := 17) (by decide) ?_ ?_
  · refine jr_iconst C0 dX10_isAhead_17 ?_
    exact B18 a0 h_a0 a1 h_a1 a2 h_a2 a3 h_a3 0 (⟨by decide, by decide⟩) _
  refine jr_iconst C0 dX10_isAhead_13 ?_
  refine jr_goto C0 dX10_isAhead_14 (tgt := 18) (by decide) ?_
  exact B18 a0 h_a0 a1 h_a1 a2 h_a2 a3 h_a3 1 (⟨by decide, by decide⟩) _
theorem dX10_oneByOne_0 : decode cX10_oneByOne 0 = .ok (.iconst 0, 1) := by decide +kernel
theorem dX10_oneByOne_1 : decode cX10_oneByOne 1 = .ok (.istore 4, 2) := by decide +kernel
theorem dX10_oneByOne_3 : decode cX10_oneByOne 3 = .ok (.iconst 0, 1) := by decide +kernel
theorem dX10_oneByOne_4 : decode cX10_oneByOne 4 = .ok (.istore 5, 2) := by decide +kernel
theorem dX10_oneByOne_6 : decode cX10_oneByOne 6 = .ok (.iload 5, 2) := by decide +kernel
theorem dX10_oneByOne_8 : decode cX10_oneByOne 8 = .ok (.aload_n 0, 1) := by decide +kernel
theorem dX10_oneByOne_9 : decode cX10_oneByOne 9 = .ok (.getfield 9, 3) := by decide +kernel
theorem dX10_oneByOne_12 : decode cX10_oneByOne 12 = .ok (.bipush 8, 2) := by decide +kernel
theorem dX10_oneByOne_14 : decode cX10_oneByOne 14 = .ok (.iaload, 1) := by decide +kernel
theorem dX10_oneByOne_15 : decode cX10_oneByOne 15 = .ok (.if_icmp .ge 121, 3) := by decide +kernel
theorem dX10_oneByOne_18 : decode cX10_oneByOne 18 = .ok (.iconst (-1), 1) := by decide +kernel
theorem dX10_oneByOne_19 : decode cX10_oneByOne 19 = .ok (.istore 6, 2) := by decide +kernel
theorem dX10_oneByOne_21 : decode cX10_oneByOne 21 = .ok (.iconst 0, 1) := by decide +kernel
theorem dX10_oneByOne_22 : decode cX10_oneByOne 22 = .ok (.istore 7, 2) := by decide +kernel
theorem dX10_oneByOne_24 : decode cX10_oneByOne 24 = .ok (.iload 7, 2) := by decide +kernel
theorem dX10_oneByOne_26 : decode cX10_oneByOne 26 = .ok (.aload_n 0, 1) := by decide +kernel
theorem dX10_oneByOne_27 : decode cX10_oneByOne 27 = .ok (.getfield 9, 3) := by decide +kernel
theorem dX10_oneByOne_30 : decode cX10_oneByOne 30 = .ok (.iconst 0, 1) := by decide +kernel
theorem dX10_oneByOne_31 : decode cX10_oneByOne 31 = .ok (.iaload, 1) := by decide +kernel
theorem dX10_oneByOne_32 : decode cX10_oneByOne 32 = .ok (.if_icmp .ge 71, 3) := by decide +kernel
theorem dX10_oneByOne_35 : decode cX10_oneByOne 35 = .ok (.iload 4, 2) := by decide +kernel
theorem dX10_oneByOne_37 : decode cX10_oneByOne 37 = .ok (.iload 7, 2) := by decide +kernel
theorem dX10_oneByOne_39 : decode cX10_oneByOne 39 = .ok (.ishr, 1) := by decide +kernel
theorem dX10_oneByOne_40 : decode cX10_oneByOne 40 = .ok (.iconst 1, 1) := by decide +kernel
theorem dX10_oneByOne_41 : decode cX10_oneByOne 41 = .ok (.iand, 1) := by decide +kernel
theorem dX10_oneByOne_42 : decode cX10_oneByOne 42 = .ok (.ifCond .ne 19, 3) := by decide +kernel
theorem dX10_oneByOne_45 : decode cX10_oneByOne 45 = .ok (.aload_n 0, 1) := by decide +kernel
theorem dX10_oneByOne_46 : decode cX10_oneByOne 46 = .ok (.iload_n 1, 1) := by decide +kernel
theorem dX10_oneByOne_47 : decode cX10_oneByOne 47 = .ok (.iload_n 2, 1) := by decide +kernel
theorem dX10_oneByOne_48 : decode cX10_oneByOne 48 = .ok (.iload 7, 2) := by decide +kernel
theorem dX10_oneByOne_50 : decode cX10_oneByOne 50 = .ok (.iload_n 3, 1) := by decide +kernel
theorem dX10_oneByOne_51 : decode cX10_oneByOne 51 = .ok (.invokevirtual 171, 3) := by decide +kernel
theorem dX10_oneByOne_54 : decode cX10_oneByOne 54 = .ok (.ifCond .ne 7, 3) := by decide +kernel
theorem dX10_oneByOne_57 : decode cX10_oneByOne 57 = .ok (.iconst 1, 1) := by decide +kernel
theorem dX10_oneByOne_58 : decode cX10_oneByOne 58 = .ok (.goto 4, 3) := by decide +kernel
theorem dX10_oneByOne_61 : decode cX10_oneByOne 61 = .ok (.iconst 0, 1) := by decide +kernel
theorem dX10_oneByOne_62 : decode cX10_oneByOne 62 = .ok (.istore 8, 2) := by decide +kernel
theorem dX10_oneByOne_64 : decode cX10_oneByOne 64 = .ok (.iload 8, 2) := by decide +kernel
theorem dX10_oneByOne_66 : decode cX10_oneByOne 66 = .ok (.ifCond .eq 27, 3) := by decide +kernel
theorem dX10_oneByOne_69 : decode cX10_oneByOne 69 = .ok (.iload 6, 2) := by decide +kernel
theorem dX10_oneByOne_71 : decode cX10_oneByOne 71 = .ok (.iconst (-1), 1) := by decide +kernel
theorem dX10_oneByOne_72 : decode cX10_oneByOne 72 = .ok (.if_icmp .eq 16, 3) := by decide +kernel
theorem dX10_oneByOne_75 : decode cX10_oneByOne 75 = .ok (.aload_n 0, 1) := by decide +kernel
theorem dX10_oneByOne_76 : decode cX10_oneByOne 76 = .ok (.iload_n 1, 1) := by decide +kernel
theorem dX10_oneByOne_77 : decode cX10_oneByOne 77 = .ok (.iload 7, 2) := by decide +kernel
theorem dX10_oneByOne_79 : decode cX10_oneByOne 79 = .ok (.iload 6, 2) := by decide +kernel
theorem dX10_oneByOne_81 : decode cX10_oneByOne 81 = .ok (.iload_n 3, 1) := by decide +kernel
theorem dX10_oneByOne_82 : decode cX10_oneByOne 82 = .ok (.invokevirtual 175, 3) := by decide +kernel
theorem dX10_oneByOne_85 : decode cX10_oneByOne 85 = .ok (.ifCond .eq 8, 3) := by decide +kernel
theorem dX10_oneByOne_88 : decode cX10_oneByOne 88 = .ok (.iload 7, 2) := by decide +kernel
theorem dX10_oneByOne_90 : decode cX10_oneByOne 90 = .ok (.goto 5, 3) := by decide +kernel
theorem dX10_oneByOne_93 : decode cX10_oneByOne 93 = .ok (.iload 6, 2) := by decide +kernel
theorem dX10_oneByOne_95 : decode cX10_oneByOne 95 = .ok (.istore 6, 2) := by decide +kernel
theorem dX10_oneByOne_97 : decode cX10_oneByOne 97 = .ok (.iinc 7 1, 3) := by decide +kernel
theorem dX10_oneByOne_100 : decode cX10_oneByOne 100 = .ok (.goto (-76), 3) := by decide +kernel
theorem dX10_oneByOne_103 : decode cX10_oneByOne 103 = .ok (.iload 6, 2) := by decide +kernel
theorem dX10_oneByOne_105 : decode cX10_oneByOne 105 = .ok (.iconst (-1), 1) := by decide +kernel
theorem dX10_oneByOne_106 : decode cX10_oneByOne 106 = .ok (.if_icmp .ne 6, 3) := by decide +kernel
theorem dX10_oneByOne_109 : decode cX10_oneByOne 109 = .ok (.iload 4, 2) := by decide +kernel
theorem dX10_oneByOne_111 : decode cX10_oneByOne 111 = .ok (.ireturn, 1) := by decide +kernel
theorem dX10_oneByOne_112 : decode cX10_oneByOne 112 = .ok (.iload 4, 2) := by decide +kernel
theorem dX10_oneByOne_114 : decode cX10_oneByOne 114 = .ok (.iconst 1, 1) := by decide +kernel
theorem dX10_oneByOne_115 : decode cX10_oneByOne 115 = .ok (.iload 6, 2) := by decide +kernel
theorem dX10_oneByOne_117 : decode cX10_oneByOne 117 = .ok (.ishl, 1) := by decide +kernel
theorem dX10_oneByOne_118 : decode cX10_oneByOne 118 = .ok (.ior, 1) := by decide +kernel
theorem dX10_oneByOne_119 : decode cX10_oneByOne 119 = .ok (.istore 4, 2) := by decide +kernel
theorem dX10_oneByOne_121 : decode cX10_oneByOne 121 = .ok (.iload 5, 2) := by decide +kernel
theorem dX10_oneByOne_123 : decode cX10_oneByOne 123 = .ok (.aload_n 0, 1) := by decide +kernel
theorem dX10_oneByOne_124 : decode cX10_oneByOne 124 = .ok (.getfield 28, 3) := by decide +kernel
theorem dX10_oneByOne_127 : decode cX10_oneByOne 127 = .ok (.iload 6, 2) := by decide +kernel
theorem dX10_oneByOne_129 : decode cX10_oneByOne 129 = .ok (.iaload, 1) := by decide +kernel
theorem dX10_oneByOne_130 : decode cX10_oneByOne 130 = .ok (.iadd, 1) := by decide +kernel
theorem dX10_oneByOne_131 : decode cX10_oneByOne 131 = .ok (.istore 5, 2) := by decide +kernel
theorem dX10_oneByOne_133 : decode cX10_oneByOne 133 = .ok (.goto (-127), 3) := by decide +kernel
theorem dX10_oneByOne_136 : decode cX10_oneByOne 136 = .ok (.iload 4, 2) := by decide +kernel
theorem dX10_oneByOne_138 : decode cX10_oneByOne 138 = .ok (.ireturn, 1) := by decide +kernel
def fX10_oneByOne_B95 (rc6 : Int → Int → Int → Int → Int → vr_M → Option (Int × vr_M)) (rc24 : Int → Int → Int → Int → Int → Int → Int → vr_M → Option (Int × vr_M)) (x1 : Int) (x2 : Int) (x3 : Int) (x4 : Int) (x5 : Int) (x7 : Int) (y0 : Int) (μ : vr_M) : Option (Int × vr_M) :=
  vr_gd (vr_R (x7 + 1)) (rc24 x1 x2 x3 x4 x5 y0 (x7 + 1) μ)
def fX10_oneByOne_B88 (rc6 : Int → Int → Int → Int → Int → vr_M → Option (Int × vr_M)) (rc24 : Int → Int → Int → Int → Int → Int → Int → vr_M → Option (Int × vr_M)) (x1 : Int) (x2 : Int) (x3 : Int) (x4 : Int) (x5 : Int) (x7 : Int) (μ : vr_M) : Option (Int × vr_M) :=
  fX10_oneByOne_B95 rc6 rc24 x1 x2 x3 x4 x5 x7 x7 μ
def fX10_oneByOne_B93 (rc6 : Int → Int → Int → Int → Int → vr_M → Option (Int × vr_M)) (rc24 : Int → Int → Int → Int → Int → Int → Int → vr_M → Option (Int × vr_M)) (x1 : Int) (x2 : Int) (x3 : Int) (x4 : Int) (x5 : Int) (x6 : Int) (x7 : Int) (μ : vr_M) : Option (Int × vr_M) :=
  fX10_oneByOne_B95 rc6 rc24 x1 x2 x3 x4 x5 x7 x6 μ
def fX10_oneByOne_B62 (rc6 : Int → Int → Int → Int → Int → vr_M → Option (Int × vr_M)) (rc24 : Int → Int → Int → Int → Int → Int → Int → vr_M → Option (Int × vr_M)) (x1 : Int) (x2 : Int) (x3 : Int) (x4 : Int) (x5 : Int) (x6 : Int) (x7 : Int) (y0 : Int) (μ : vr_M) : Option (Int × vr_M) :=
  if y0 = 0 then fX10_oneByOne_B93 rc6 rc24 x1 x2 x3 x4 x5 x6 x7 μ else if x6 = (-1) then fX10_oneByOne_B88 rc6 rc24 x1 x2 x3 x4 x5 x7 μ else (fX10_isAhead x1 x7 x6 x3 μ).bind (fun r2 => if r2.1 = 0 then fX10_oneByOne_B93 rc6 rc24 x1 x2 x3 x4 x5 x6 x7 r2.2 else fX10_oneByOne_B88 rc6 rc24 x1 x2 x3 x4 x5 x7 r2.2)
def fX10_oneByOne_B61 (rc6 : Int → Int → Int → Int → Int → vr_M → Option (Int × vr_M)) (rc24 : Int → Int → Int → Int → Int → Int → Int → vr_M → Option (Int × vr_M)) (x1 : Int) (x2 : Int) (x3 : Int) (x4 : Int) (x5 : Int) (x6 : Int) (x7 : Int) (μ : vr_M) : Option (Int × vr_M) :=
  fX10_oneByOne_B62 rc6 rc24 x1 x2 x3 x4 x5 x6 x7 0 μ
def fX10_oneByOne_L24 (rc6 : Int → Int → Int → Int → Int → vr_M → Option (Int × vr_M)) : Nat → Int → Int → Int → Int → Int → Int → Int → vr_M → Option (Int × vr_M)
  | 0, _, _, _, _, _, _, _, _ => none
  | n + 1, x1, x2, x3, x4, x5, x6, x7, μ => vr_gd (vr_R (μ 69 0)) (if (μ 69 0) ≤ x7 then if ¬ x6 = (-1) then vr_gd (0 ≤ x6 ∧ x6 < 8) (vr_gd (vr_R (x5 + (μ 74 x6.toNat))) (rc6 x1 x2 x3 (vr_or x4 (vr_shl 1 x6)) (x5 + (μ 74 x6.toNat)) μ)) else some (x4, μ) else if ¬ (vr_and (vr_shr x4 x7) 1) = 0 then fX10_oneByOne_B61 rc6 (fX10_oneByOne_L24 rc6 n) x1 x2 x3 x4 x5 x6 x7 μ else (fX10_isLeftOut x1 x2 x7 x3 μ).bind (fun r6 => if ¬ r6.1 = 0 then fX10_oneByOne_B61 rc6 (fX10_oneByOne_L24 rc6 n) x1 x2 x3 x4 x5 x6 x7 r6.2 else fX10_oneByOne_B62 rc6 (fX10_oneByOne_L24 rc6 n) x1 x2 x3 x4 x5 x6 x7 1 r6.2))
def fX10_oneByOne_L6 : Nat → Int → Int → Int → Int → Int → vr_M → Option (Int × vr_M)
  | 0, _, _, _, _, _, _ => none
  | n + 1, x1, x2, x3, x4, x5, μ => vr_gd (vr_R (μ 69 8)) (if (μ 69 8) ≤ x5 then some (x4, μ) else fX10_oneByOne_L24 (fX10_oneByOne_L6 n) 9000 x1 x2 x3 x4 x5 (-1) 0 μ)
def fX10_oneByOne (a0 : Int) (a1 : Int) (a2 : Int) (μ : vr_M) : Option (Int × vr_M) :=
  fX10_oneByOne_L6 9000 a0 a1 a2 0 0 μ
set_option maxRecDepth 100000 in
set_option maxHeartbeats 4000000 in
theorem ct_X10_oneByOne (l : Launch) (G : vr_G) (a0 : Int) (h_a0 : vr_R a0) (a1 : Int) (h_a1 : vr_R a1) (a2 : Int) (h_a2 : vr_R a2) (μ : vr_M) : vr_CI l yX10_oneByOne cX10_oneByOne 9 (some .int) ({ frames := 2, cells := 0, slots := 0, locals := 47 } : Room) G [.ref (vr_ad G 68), .int (vr_I a0), .int (vr_I a1), .int (vr_I a2)] μ (fX10_oneByOne a0 a1 a2 μ) := by
  refine vr_start (own := RX10) (by decide) rfl (Nat.le_of_ble_eq_true rfl) (fun p e s m args below meth c C0 => ?_)
  show vr_J p l e _ s m args below meth c 9 0 0 G (vr_Z (vr_QI G) G args s below) 0 [(0, .ref (vr_ad G 68)), (1, .int (vr_I a0)), (2, .int (vr_I a1)), (3, .int (vr_I a2))] [] μ _
  have L6 : ∀ (n : Nat) (x1 : Int) (h_x1 : vr_R x1) (x2 : Int) (h_x2 : vr_R x2) (x3 : Int) (h_x3 : vr_R x3) (x4 : Int) (h_x4 : vr_R x4) (x5 : Int) (h_x5 : vr_R x5) (μ : vr_M), vr_J p l e ({ frames := 2, cells := 0, slots := 0, locals := 47 } : Room) s m args below meth c 9 0 0 G (vr_Z (vr_QI G) G args s below) 6 [(0, .ref (vr_ad G 68)), (1, .int (vr_I x1)), (2, .int (vr_I x2)), (3, .int (vr_I x3)), (4, .int (vr_I x4)), (5, .int (vr_I x5))] [] μ (fX10_oneByOne_L6 n x1 x2 x3 x4 x5 μ) := by
    intro n6
    induction n6 with
    | zero => intros; exact jr_none
    | succ n6 ih6 =>
      have L24 : ∀ (n : Nat) (x1 : Int) (h_x1 : vr_R x1) (x2 : Int) (h_x2 : vr_R x2) (x3 : Int) (h_x3 : vr_R x3) (x4 : Int) (h_x4 : vr_R x4) (x5 : Int) (h_x5 : vr_R x5) (x6 : Int) (h_x6 : vr_R x6) (x7 : Int) (h_x7 : vr_R x7) (μ : vr_M), vr_J p l e ({ frames := 2, cells := 0, slots := 0, locals := 47 } : Room) s m args below meth c 9 0 0 G (vr_Z (vr_QI G) G args s below) 24 [(0, .ref (vr_ad G 68)), (1, .int (vr_I x1)), (2, .int (vr_I x2)), (3, .int (vr_I x3)), (4, .int (vr_I x4)), (5, .int (vr_I x5)), (6, .int (vr_I x6)), (7, .int (vr_I x7))] [] μ (fX10_oneByOne_L24 (fX10_oneByOne_L6 n6) n x1 x2 x3 x4 x5 x6 x7 μ) := by
        intro n24
        induction n24 with
        | zero => intros; exact jr_none
        | succ n24 ih24 =>
          have B95 : ∀ (x1 : Int) (h_x1 : vr_R x1) (x2 : Int) (h_x2 : vr_R x2) (x3 : Int) (h_x3 : vr_R x3) (x4 : Int) (h_x4 : vr_R x4) (x5 : Int) (h_x5 : vr_R x5) (x7 : Int) (h_x7 : vr_R x7) (y0 : Int) (h_y0 : vr_R y0) (μ : vr_M), vr_J p l e ({ frames := 2, cells := 0, slots := 0, locals := 47 } : Room) s m args below meth c 9 0 0 G (vr_Z (vr_QI G) G args s below) 95 [(0, .ref (vr_ad G 68)), (1, .int (vr_I x1)), (2, .int (vr_I x2)), (3, .int (vr_I x3)), (4, .int (vr_I x4)), (5, .int (vr_I x5)), (7, .int (vr_I x7))] [.int (vr_I y0)] μ (fX10_oneByOne_B95 (fX10_oneByOne_L6 n6) (fX10_oneByOne_L24 (fX10_oneByOne_L6 n6) n24) x1 x2 x3 x4 x5 x7 y0 μ) := by
            intro x1 h_x1 x2 h_x2 x3 h_x3 x4 h_x4 x5 h_x5 x7 h_x7 y0 h_y0 μ
            unfold fX10_oneByOne_B95
            refine jr_istore C0 dX10_oneByOne_95 (by decide) (lv' := [(6, .int (vr_I y0)), (0, .ref (vr_ad G 68)), (1, .int (vr_I x1)), (2, .int (vr_I x2)), (3, .int (vr_I x3)), (4, .int (vr_I x4)), (5, .int (vr_I x5)), (7, .int (vr_I x7))]) rfl ?_
            refine jr_iinc C0 (q := 7) dX10_oneByOne_97 rfl (by decide) (lv' := [(7, .int (vr_I (x7 + 1))), (6, .int (vr_I y0)), (0, .ref (vr_ad G 68)), (1, .int (vr_I x1)), (2, .int (vr_I x2)), (3, .int (vr_I x3)), (4, .int (vr_I x4)), (5, .int (vr_I x5))]) rfl ?_
            refine jr_goto C0 dX10_oneByOne_100 (tgt := 24) (by decide) ?_
            refine jr_gd (fun g1 => ?_)
            refine jr_sub [2, 3, 4, 5, 6, 7, 1, 0] rfl ?_
            exact ih24 x1 h_x1 x2 h_x2 x3 h_x3 x4 h_x4 x5 h_x5 y0 h_y0 (x7 + 1) g1 _
          have B88 : ∀ (x1 : Int) (h_x1 : vr_R x1) (x2 : Int) (h_x2 : vr_R x2) (x3 : Int) (h_x3 : vr_R x3) (x4 : Int) (h_x4 : vr_R x4) (x5 : Int) (h_x5 : vr_R x5) (x7 : Int) (h_x7 : vr_R x7) (μ : vr_M), vr_J p l e ({ frames := 2, cells := 0, slots := 0, locals := 47 } : Room) s m args below meth c 9 0 0 G (vr_Z (vr_QI G) G args s below) 88 [(0, .ref (vr_ad G 68)), (1, .int (vr_I x1)), (2, .int (vr_I x2)), (3, .int (vr_I x3)), (4, .int (vr_I x4)), (5, .int (vr_I x5)), (7, .int (vr_I x7))] [] μ (fX10_oneByOne_B88 (fX10_oneByOne_L6 n6) (fX10_oneByOne_L24 (fX10_oneByOne_L6 n6) n24) x1 x2 x3 x4 x5 x7 μ) := by
            intro x1 h_x1 x2 h_x2 x3 h_x3 x4 h_x4 x5 h_x5 x7 h_x7 μ
            unfold fX10_oneByOne_B88
            refine jr_iload C0 6 dX10_oneByOne_88 rfl ?_
            refine jr_goto C0 dX10_oneByOne_90 (tgt := 95) (by decide) ?_
            exact B95 x1 h_x1 x2 h_x2 x3 h_x3 x4 h_x4 x5 h_x5 x7 h_x7 x7 h_x7 _
          have B93 : ∀ (x1 : Int) (h_x1 : vr_R x1) (x2 : Int) (h_x2 : vr_R x2) (x3 : Int) (h_x3 : vr_R x3) (x4 : Int) (h_x4 : vr_R x4) (x5 : Int) (h_x5 : vr_R x5) (x6 : Int) (h_x6 : vr_R x6) (x7 : Int) (h_x7 : vr_R x7) (μ : vr_M), vr_J p l e ({ frames := 2, cells := 0, slots := 0, locals := 47 } : Room) s m args below meth c 9 0 0 G (vr_Z (vr_QI G) G args s below) 93 [(0, .ref (vr_ad G 68)), (1, .int (vr_I x1)), (2, .int (vr_I x2)), (3, .int (vr_I x3)), (4, .int (vr_I x4)), (5, .int (vr_I x5)), (6, .int (vr_I x6)), (7, .int (vr_I x7))] [] μ (fX10_oneByOne_B93 (fX10_oneByOne_L6 n6) (fX10_oneByOne_L24 (fX10_oneByOne_L6 n6) n24) x1 x2 x3 x4 x5 x6 x7 μ) := by
            intro x1 h_x1 x2 h_x2 x3 h_x3 x4 h_x4 x5 h_x5 x6 h_x6 x7 h_x7 μ
            unfold fX10_oneByOne_B93
            refine jr_iload C0 6 dX10_oneByOne_93 rfl ?_
            refine jr_sub [0, 1, 2, 3, 4, 5, 7] rfl ?_
            exact B95 x1 h_x1 x2 h_x2 x3 h_x3 x4 h_x4 x5 h_x5 x7 h_x7 x6 h_x6 _
          have B62 : ∀ (x1 : Int) (h_x1 : vr_R x1) (x2 : Int) (h_x2 : vr_R x2) (x3 : Int) (h_x3 : vr_R x3) (x4 : Int) (h_x4 : vr_R x4) (x5 : Int) (h_x5 : vr_R x5) (x6 : Int) (h_x6 : vr_R x6) (x7 : Int) (h_x7 : vr_R x7) (y0 : Int) (h_y0 : vr_R y0) (μ : vr_M), vr_J p l e ({ frames := 2, cells := 0, slots := 0, locals := 47 } : Room) s m args below meth c 9 0 0 G (vr_Z (vr_QI G) G args s below) 62 [(0, .ref (vr_ad G 68)), (1, .int (vr_I x1)), (2, .int (vr_I x2)), (3, .int (vr_I x3)), (4, .int (vr_I x4)), (5, .int (vr_I x5)), (6, .int (vr_I x6)), (7, .int (vr_I x7))] [.int (vr_I y0)] μ (fX10_oneByOne_B62 (fX10_oneByOne_L6 n6) (fX10_oneByOne_L24 (fX10_oneByOne_L6 n6) n24) x1 x2 x3 x4 x5 x6 x7 y0 μ) := by
            intro x1 h_x1 x2 h_x2 x3 h_x3 x4 h_x4 x5 h_x5 x6 h_x6 x7 h_x7 y0 h_y0 μ
            unfold fX10_oneByOne_B62
            refine jr_istore C0 dX10_oneByOne_62 (by decide) (lv' := [(8, .int (vr_I y0)), (0, .ref (vr_ad G 68)), (1, .int (vr_I x1)), (2, .int (vr_I x2)), (3, .int (vr_I x3)), (4, .int (vr_I x4)), (5, .int (vr_I x5)), (6, .int (vr_I x6)), (7, .int (vr_I x7))]) rfl ?_
            refine jr_iload C0 0 dX10_oneByOne_64 rfl ?_
            refine jr_if_eq C0 h_y0 dX10_oneByOne_66 (tgt := 93) (by decide) ?_ ?_
            · refine jr_sub [1, 2, 3, 4, 5, 6, 7, 8] rfl ?_
              exact B93 x1 h_x1 x2 h_x2 x3 h_x3 x4 h_x4 x5 h_x5 x6 h_x6 x7 h_x7 _
            refine jr_iload C0 7 dX10_oneByOne_69 rfl ?_
            refine jr_iconst C0 dX10_oneByOne_71 ?_
            refine jr_icmp_eq C0 h_x6 (⟨by decide, by decide⟩) dX10_oneByOne_72 (tgt := 88) (by decide) ?_ ?_
            · refine jr_sub [1, 2, 3, 4, 5, 6, 8] rfl ?_
              exact B88 x1 h_x1 x2 h_x2 x3 h_x3 x4 h_x4 x5 h_x5 x7 h_x7 _
            refine jr_aload_n C0 1 dX10_oneByOne_75 rfl rfl ?_
            refine jr_iload_n C0 2 dX10_oneByOne_76 rfl rfl ?_
            refine jr_iload C0 8 dX10_oneByOne_77 rfl ?_
            refine jr_iload C0 7 dX10_oneByOne_79 rfl ?_
            refine jr_iload_n C0 4 dX10_oneByOne_81 rfl rfl ?_
            refine jr_vI C0 (by decide) kd_68 (by decide) rfl (ct_X10_isAhead l G x1 h_x1 x7 h_x7 x6 h_x6 x3 h_x3 _) mi_X10_isAhead wm_X10_175 ⟨Nat.le_of_ble_eq_true rfl, Nat.le_of_ble_eq_true rfl⟩ ⟨rfl, rfl⟩ (As := [.int (vr_I x1), .int (vr_I x7), .int (vr_I x6), .int (vr_I x3)]) rfl (st := []) rfl (Nat.le_of_ble_eq_true rfl) dX10_oneByOne_82 (fun r2 hr2 => ?_)
            refine jr_if_eq C0 hr2 dX10_oneByOne_85 (tgt := 93) (by decide) ?_ ?_
            · refine jr_sub [1, 2, 3, 4, 5, 6, 7, 8] rfl ?_
              exact B93 x1 h_x1 x2 h_x2 x3 h_x3 x4 h_x4 x5 h_x5 x6 h_x6 x7 h_x7 _
            refine jr_sub [1, 2, 3, 4, 5, 6, 8] rfl ?_
            exact B88 x1 h_x1 x2 h_x2 x3 h_x3 x4 h_x4 x5 h_x5 x7 h_x7 _
          have B61 : ∀ (x1 : Int) (h_x1 : vr_R x1) (x2 : Int) (h_x2 : vr_R x2) (x3 : Int) (h_x3 : vr_R x3) (x4 : Int) (h_x4 : vr_R x4) (x5 : Int) (h_x5 : vr_R x5) (x6 : Int) (h_x6 : vr_R x6) (x7 : Int) (h_x7 : vr_R x7) (μ : vr_M), vr_J p l e ({ frames := 2, cells := 0, slots := 0, locals := 47 } : Room) s m args below meth c 9 0 0 G (vr_Z (vr_QI G) G args s below) 61 [(0, .ref (vr_ad G 68)), (1, .int (vr_I x1)), (2, .int (vr_I x2)), (3, .int (vr_I x3)), (4, .int (vr_I x4)), (5, .int (vr_I x5)), (6, .int (vr_I x6)), (7, .int (vr_I x7))] [] μ (fX10_oneByOne_B61 (fX10_oneByOne_L6 n6) (fX10_oneByOne_L24 (fX10_oneByOne_L6 n6) n24) x1 x2 x3 x4 x5 x6 x7 μ) := by
            intro x1 h_x1 x2 h_x2 x3 h_x3 x4 h_x4 x5 h_x5 x6 h_x6 x7 h_x7 μ
            unfold fX10_oneByOne_B61
            refine jr_iconst C0 dX10_oneByOne_61 ?_
            exact B62 x1 h_x1 x2 h_x2 x3 h_x3 x4 h_x4 x5 h_x5 x6 h_x6 x7 h_x7 0 (⟨by decide, by decide⟩) _
          intro x1 h_x1 x2 h_x2 x3 h_x3 x4 h_x4 x5 h_x5 x6 h_x6 x7 h_x7 μ
          rw [fX10_oneByOne_L24.eq_2]
          refine jr_iload C0 7 dX10_oneByOne_24 rfl ?_
          refine jr_aload_n C0 0 dX10_oneByOne_26 rfl rfl ?_
          refine jr_getr C0 (by decide) kd_68 (by decide) rfl wx_X10 (i := 1) (by decide) wf_X10_9 (j := 69) rfl dX10_oneByOne_27 ?_
          refine jr_iconst C0 dX10_oneByOne_30 ?_
          refine jr_iald C0 (by decide) kd_69 kl_69 (by decide) (j := 0) rfl dX10_oneByOne_31 ?_
          refine jr_gd (fun g3 => ?_)
          refine jr_icmp_ge C0 h_x7 g3 dX10_oneByOne_32 (tgt := 103) (by decide) ?_ ?_
          · refine jr_iload C0 6 dX10_oneByOne_103 rfl ?_
            refine jr_iconst C0 dX10_oneByOne_105 ?_
            refine jr_icmp_ne C0 h_x6 (⟨by decide, by decide⟩) dX10_oneByOne_106 (tgt := 112) (by decide) ?_ ?_
            · refine jr_iload C0 4 dX10_oneByOne_112 rfl ?_
              refine jr_iconst C0 dX10_oneByOne_114 ?_
              refine jr_iload C0 6 dX10_oneByOne_115 rfl ?_
              refine jr_ishl C0 dX10_oneByOne_117 ?_
              refine jr_ior C0 dX10_oneByOne_118 ?_
              refine jr_istore C0 dX10_oneByOne_119 (by decide) (lv' := [(4, .int (vr_I (vr_or x4 (vr_shl 1 x6)))), (0, .ref (vr_ad G 68)), (1, .int (vr_I x1)), (2, .int (vr_I x2)), (3, .int (vr_I x3)), (5, .int (vr_I x5)), (6, .int (vr_I x6)), (7, .int (vr_I x7))]) rfl ?_
              refine jr_iload C0 5 dX10_oneByOne_121 rfl ?_
              refine jr_aload_n C0 1 dX10_oneByOne_123 rfl rfl ?_
              refine jr_getr C0 (by decide) kd_68 (by decide) rfl wx_X10 (i := 14) (by decide) wf_X10_28 (j := 74) rfl dX10_oneByOne_124 ?_
              refine jr_iload C0 6 dX10_oneByOne_127 rfl ?_
              refine jr_gd (fun g4 => ?_)
              refine jr_iald C0 (by decide) kd_74 kl_74 g4 (j := x6.toNat) rfl dX10_oneByOne_129 ?_
              refine jr_iadd C0 dX10_oneByOne_130 ?_
              refine jr_istore C0 dX10_oneByOne_131 (by decide) (lv' := [(5, .int (vr_I (x5 + (μ 74 x6.toNat)))), (4, .int (vr_I (vr_or x4 (vr_shl 1 x6)))), (0, .ref (vr_ad G 68)), (1, .int (vr_I x1)), (2, .int (vr_I x2)), (3, .int (vr_I x3)), (6, .int (vr_I x6)), (7, .int (vr_I x7))]) rfl ?_
              refine jr_goto C0 dX10_oneByOne_133 (tgt := 6) (by decide) ?_
              refine jr_gd (fun g5 => ?_)
              refine jr_sub [2, 3, 4, 5, 1, 0] rfl ?_
              exact ih6 x1 h_x1 x2 h_x2 x3 h_x3 (vr_or x4 (vr_shl 1 x6)) (vr_RT _) (x5 + (μ 74 x6.toNat)) g5 _
            refine jr_iload C0 4 dX10_oneByOne_109 rfl ?_
            exact jr_iret C0 h_x4 dX10_oneByOne_111
          refine jr_iload C0 4 dX10_oneByOne_35 rfl ?_
          refine jr_iload C0 7 dX10_oneByOne_37 rfl ?_
          refine jr_ishr C0 dX10_oneByOne_39 ?_
          refine jr_iconst C0 dX10_oneByOne_40 ?_
          refine jr_iand C0 dX10_oneByOne_41 ?_
          refine jr_if_ne C0 (vr_RT _) dX10_oneByOne_42 (tgt := 61) (by decide) ?_ ?_
          · exact B61 x1 h_x1 x2 h_x2 x3 h_x3 x4 h_x4 x5 h_x5 x6 h_x6 x7 h_x7 _
          refine jr_aload_n C0 0 dX10_oneByOne_45 rfl rfl ?_
          refine jr_iload_n C0 1 dX10_oneByOne_46 rfl rfl ?_
          refine jr_iload_n C0 2 dX10_oneByOne_47 rfl rfl ?_
          refine jr_iload C0 7 dX10_oneByOne_48 rfl ?_
          refine jr_iload_n C0 3 dX10_oneByOne_50 rfl rfl ?_
          refine jr_vI C0 (by decide) kd_68 (by decide) rfl (ct_X10_isLeftOut l G x1 h_x1 x2 h_x2 x7 h_x7 x3 h_x3 _) mi_X10_isLeftOut wm_X10_171 ⟨Nat.le_of_ble_eq_true rfl, Nat.le_of_ble_eq_true rfl⟩ ⟨rfl, rfl⟩ (As := [.int (vr_I x1), .int (vr_I x2), .int (vr_I x7), .int (vr_I x3)]) rfl (st := []) rfl (Nat.le_of_ble_eq_true rfl) dX10_oneByOne_51 (fun r6 hr6 => ?_)
          refine jr_if_ne C0 hr6 dX10_oneByOne_54 (tgt := 61) (by decide) ?_ ?_
          · exact B61 x1 h_x1 x2 h_x2 x3 h_x3 x4 h_x4 x5 h_x5 x6 h_x6 x7 h_x7 _
          refine jr_iconst C0 dX10_oneByOne_57 ?_
          refine jr_goto C0 dX10_oneByOne_58 (tgt := 62) (by decide) ?_
          exact B62 x1 h_x1 x2 h_x2 x3 h_x3 x4 h_x4 x5 h_x5 x6 h_x6 x7 h_x7 1 (⟨by decide, by decide⟩) _
      intro x1 h_x1 x2 h_x2 x3 h_x3 x4 h_x4 x5 h_x5 μ
      rw [fX10_oneByOne_L6.eq_2]
      refine jr_iload C0 5 dX10_oneByOne_6 rfl ?_
      refine jr_aload_n C0 0 dX10_oneByOne_8 rfl rfl ?_
      refine jr_getr C0 (by decide) kd_68 (by decide) rfl wx_X10 (i := 1) (by decide) wf_X10_9 (j := 69) rfl dX10_oneByOne_9 ?_
      refine jr_bipush C0 dX10_oneByOne_12 rfl ?_
      refine jr_iald C0 (by decide) kd_69 kl_69 (by decide) (j := 8) rfl dX10_oneByOne_14 ?_
      refine jr_gd (fun g7 => ?_)
      refine jr_icmp_ge C0 h_x5 g7 dX10_oneByOne_15 (tgt := 136) (by decide) ?_ ?_
      · refine jr_iload C0 4 dX10_oneByOne_136 rfl ?_
        exact jr_iret C0 h_x4 dX10_oneByOne_138
      refine jr_iconst C0 dX10_oneByOne_18 ?_
      refine jr_istore C0 dX10_oneByOne_19 (by decide) (lv' := [(6, .int (vr_I (-1))), (0, .ref (vr_ad G 68)), (1, .int (vr_I x1)), (2, .int (vr_I x2)), (3, .int (vr_I x3)), (4, .int (vr_I x4)), (5, .int (vr_I x5))]) rfl ?_
      refine jr_iconst C0 dX10_oneByOne_21 ?_
      refine jr_istore C0 dX10_oneByOne_22 (by decide) (lv' := [(7, .int (vr_I 0)), (6, .int (vr_I (-1))), (0, .ref (vr_ad G 68)), (1, .int (vr_I x1)), (2, .int (vr_I x2)), (3, .int (vr_I x3)), (4, .int (vr_I x4)), (5, .int (vr_I x5))]) rfl ?_
      refine jr_sub [2, 3, 4, 5, 6, 7, 1, 0] rfl ?_
      exact L24 9000 x1 h_x1 x2 h_x2 x3 h_x3 x4 h_x4 x5 h_x5 (-1) (⟨by decide, by decide⟩) 0 (⟨by decide, by decide⟩) _
  unfold fX10_oneByOne
  refine jr_iconst C0 dX10_oneByOne_0 ?_
  refine jr_istore C0 dX10_oneByOne_1 (by decide) (lv' := [(4, .int (vr_I 0)), (0, .ref (vr_ad G 68)), (1, .int (vr_I a0)), (2, .int (vr_I a1)), (3, .int (vr_I a2))]) rfl ?_
  refine jr_iconst C0 dX10_oneByOne_3 ?_
  refine jr_istore C0 dX10_oneByOne_4 (by decide) (lv' := [(5, .int (vr_I 0)), (4, .int (vr_I 0)), (0, .ref (vr_ad G 68)), (1, .int (vr_I a0)), (2, .int (vr_I a1)), (3, .int (vr_I a2))]) rfl ?_
  refine jr_sub [2, 3, 4, 5, 1, 0] rfl ?_
  exact L6 9000 a0 h_a0 a1 h_a1 a2 h_a2 0 (⟨by decide, by decide⟩) 0 (⟨by decide, by decide⟩) _
theorem dX10_bestSet_0 : decode cX10_bestSet 0 = .ok (.iconst (-1), 1) := by decide +kernel
theorem dX10_bestSet_1 : decode cX10_bestSet 1 = .ok (.istore_n 1, 1) := by decide +kernel
theorem dX10_bestSet_2 : decode cX10_bestSet 2 = .ok (.iconst 0, 1) := by decide +kernel
theorem dX10_bestSet_3 : decode cX10_bestSet 3 = .ok (.istore_n 2, 1) := by decide +kernel
theorem dX10_bestSet_4 : decode cX10_bestSet 4 = .ok (.iconst 0, 1) := by decide +kernel
theorem dX10_bestSet_5 : decode cX10_bestSet 5 = .ok (.istore_n 3, 1) := by decide +kernel
theorem dX10_bestSet_6 : decode cX10_bestSet 6 = .ok (.iconst 0, 1) := by decide +kernel
theorem dX10_bestSet_7 : decode cX10_bestSet 7 = .ok (.istore 4, 2) := by decide +kernel
theorem dX10_bestSet_9 : decode cX10_bestSet 9 = .ok (.iconst 0, 1) := by decide +kernel
theorem dX10_bestSet_10 : decode cX10_bestSet 10 = .ok (.istore 5, 2) := by decide +kernel
theorem dX10_bestSet_12 : decode cX10_bestSet 12 = .ok (.iload 5, 2) := by decide +kernel
theorem dX10_bestSet_14 : decode cX10_bestSet 14 = .ok (.aload_n 0, 1) := by decide +kernel
theorem dX10_bestSet_15 : decode cX10_bestSet 15 = .ok (.getfield 9, 3) := by decide +kernel
theorem dX10_bestSet_18 : decode cX10_bestSet 18 = .ok (.iconst 0, 1) := by decide +kernel
theorem dX10_bestSet_19 : decode cX10_bestSet 19 = .ok (.iaload, 1) := by decide +kernel
theorem dX10_bestSet_20 : decode cX10_bestSet 20 = .ok (.if_icmp .ge 42, 3) := by decide +kernel
theorem dX10_bestSet_23 : decode cX10_bestSet 23 = .ok (.iload_n 3, 1) := by decide +kernel
theorem dX10_bestSet_24 : decode cX10_bestSet 24 = .ok (.aload_n 0, 1) := by decide +kernel
theorem dX10_bestSet_25 : decode cX10_bestSet 25 = .ok (.getfield 28, 3) := by decide +kernel
theorem dX10_bestSet_28 : decode cX10_bestSet 28 = .ok (.iload 5, 2) := by decide +kernel
theorem dX10_bestSet_30 : decode cX10_bestSet 30 = .ok (.iaload, 1) := by decide +kernel
theorem dX10_bestSet_31 : decode cX10_bestSet 31 = .ok (.ifCond .le 10, 3) := by decide +kernel
theorem dX10_bestSet_34 : decode cX10_bestSet 34 = .ok (.iconst 1, 1) := by decide +kernel
theorem dX10_bestSet_35 : decode cX10_bestSet 35 = .ok (.iload 5, 2) := by decide +kernel
theorem dX10_bestSet_37 : decode cX10_bestSet 37 = .ok (.ishl, 1) := by decide +kernel
theorem dX10_bestSet_38 : decode cX10_bestSet 38 = .ok (.goto 4, 3) := by decide +kernel
theorem dX10_bestSet_41 : decode cX10_bestSet 41 = .ok (.iconst 0, 1) := by decide +kernel
theorem dX10_bestSet_42 : decode cX10_bestSet 42 = .ok (.ior, 1) := by decide +kernel
theorem dX10_bestSet_43 : decode cX10_bestSet 43 = .ok (.istore_n 3, 1) := by decide +kernel
theorem dX10_bestSet_44 : decode cX10_bestSet 44 = .ok (.iload 4, 2) := by decide +kernel
theorem dX10_bestSet_46 : decode cX10_bestSet 46 = .ok (.aload_n 0, 1) := by decide +kernel
theorem dX10_bestSet_47 : decode cX10_bestSet 47 = .ok (.getfield 28, 3) := by decide +kernel
theorem dX10_bestSet_50 : decode cX10_bestSet 50 = .ok (.iload 5, 2) := by decide +kernel
theorem dX10_bestSet_52 : decode cX10_bestSet 52 = .ok (.iaload, 1) := by decide +kernel
theorem dX10_bestSet_53 : decode cX10_bestSet 53 = .ok (.iadd, 1) := by decide +kernel
theorem dX10_bestSet_54 : decode cX10_bestSet 54 = .ok (.istore 4, 2) := by decide +kernel
theorem dX10_bestSet_56 : decode cX10_bestSet 56 = .ok (.iinc 5 1, 3) := by decide +kernel
theorem dX10_bestSet_59 : decode cX10_bestSet 59 = .ok (.goto (-47), 3) := by decide +kernel
theorem dX10_bestSet_62 : decode cX10_bestSet 62 = .ok (.iload 4, 2) := by decide +kernel
theorem dX10_bestSet_64 : decode cX10_bestSet 64 = .ok (.aload_n 0, 1) := by decide +kernel
theorem dX10_bestSet_65 : decode cX10_bestSet 65 = .ok (.getfield 9, 3) := by decide +kernel
theorem dX10_bestSet_68 : decode cX10_bestSet 68 = .ok (.bipush 8, 2) := by decide +kernel
theorem dX10_bestSet_70 : decode cX10_bestSet 70 = .ok (.iaload, 1) := by decide +kernel
theorem dX10_bestSet_71 : decode cX10_bestSet 71 = .ok (.if_icmp .ge 5, 3) := by decide +kernel
theorem dX10_bestSet_74 : decode cX10_bestSet 74 = .ok (.iload_n 3, 1) := by decide +kernel
theorem dX10_bestSet_75 : decode cX10_bestSet 75 = .ok (.ireturn, 1) := by decide +kernel
theorem dX10_bestSet_76 : decode cX10_bestSet 76 = .ok (.iconst 0, 1) := by decide +kernel
theorem dX10_bestSet_77 : decode cX10_bestSet 77 = .ok (.istore 5, 2) := by decide +kernel
theorem dX10_bestSet_79 : decode cX10_bestSet 79 = .ok (.iload 5, 2) := by decide +kernel
theorem dX10_bestSet_81 : decode cX10_bestSet 81 = .ok (.iconst 1, 1) := by decide +kernel
theorem dX10_bestSet_82 : decode cX10_bestSet 82 = .ok (.aload_n 0, 1) := by decide +kernel
theorem dX10_bestSet_83 : decode cX10_bestSet 83 = .ok (.getfield 9, 3) := by decide +kernel
theorem dX10_bestSet_86 : decode cX10_bestSet 86 = .ok (.iconst 0, 1) := by decide +kernel
theorem dX10_bestSet_87 : decode cX10_bestSet 87 = .ok (.iaload, 1) := by decide +kernel
theorem dX10_bestSet_88 : decode cX10_bestSet 88 = .ok (.ishl, 1) := by decide +kernel
theorem dX10_bestSet_89 : decode cX10_bestSet 89 = .ok (.if_icmp .ge 112, 3) := by decide +kernel
theorem dX10_bestSet_92 : decode cX10_bestSet 92 = .ok (.iconst 0, 1) := by decide +kernel
theorem dX10_bestSet_93 : decode cX10_bestSet 93 = .ok (.istore 6, 2) := by decide +kernel
theorem dX10_bestSet_95 : decode cX10_bestSet 95 = .ok (.iconst 0, 1) := by decide +kernel
theorem dX10_bestSet_96 : decode cX10_bestSet 96 = .ok (.istore 7, 2) := by decide +kernel
theorem dX10_bestSet_98 : decode cX10_bestSet 98 = .ok (.iload 7, 2) := by decide +kernel
theorem dX10_bestSet_100 : decode cX10_bestSet 100 = .ok (.aload_n 0, 1) := by decide +kernel
theorem dX10_bestSet_101 : decode cX10_bestSet 101 = .ok (.getfield 9, 3) := by decide +kernel
theorem dX10_bestSet_104 : decode cX10_bestSet 104 = .ok (.iconst 0, 1) := by decide +kernel
theorem dX10_bestSet_105 : decode cX10_bestSet 105 = .ok (.iaload, 1) := by decide +kernel
theorem dX10_bestSet_106 : decode cX10_bestSet 106 = .ok (.if_icmp .ge 36, 3) := by decide +kernel
theorem dX10_bestSet_109 : decode cX10_bestSet 109 = .ok (.iload 6, 2) := by decide +kernel
theorem dX10_bestSet_111 : decode cX10_bestSet 111 = .ok (.iload 5, 2) := by decide +kernel
theorem dX10_bestSet_113 : decode cX10_bestSet 113 = .ok (.iload 7, 2) := by decide +kernel
theorem dX10_bestSet_115 : decode cX10_bestSet 115 = .ok (.ishr, 1) := by decide +kernel
theorem dX10_bestSet_116 : decode cX10_bestSet 116 = .ok (.iconst 1, 1) := by decide +kernel
theorem dX10_bestSet_117 : decode cX10_bestSet 117 = .ok (.iand, 1) := by decide +kernel
theorem dX10_bestSet_118 : decode cX10_bestSet 118 = .ok (.iconst 1, 1) := by decide +kernel
theorem dX10_bestSet_119 : decode cX10_bestSet 119 = .ok (.if_icmp .ne 13, 3) := by decide +kernel
theorem dX10_bestSet_122 : decode cX10_bestSet 122 = .ok (.aload_n 0, 1) := by decide +kernel
theorem dX10_bestSet_123 : decode cX10_bestSet 123 = .ok (.getfield 28, 3) := by decide +kernel
theorem dX10_bestSet_126 : decode cX10_bestSet 126 = .ok (.iload 7, 2) := by decide +kernel
theorem dX10_bestSet_128 : decode cX10_bestSet 128 = .ok (.iaload, 1) := by decide +kernel
theorem dX10_bestSet_129 : decode cX10_bestSet 129 = .ok (.goto 4, 3) := by decide +kernel
theorem dX10_bestSet_132 : decode cX10_bestSet 132 = .ok (.iconst 0, 1) := by decide +kernel
theorem dX10_bestSet_133 : decode cX10_bestSet 133 = .ok (.iadd, 1) := by decide +kernel
theorem dX10_bestSet_134 : decode cX10_bestSet 134 = .ok (.istore 6, 2) := by decide +kernel
theorem dX10_bestSet_136 : decode cX10_bestSet 136 = .ok (.iinc 7 1, 3) := by decide +kernel
theorem dX10_bestSet_139 : decode cX10_bestSet 139 = .ok (.goto (-41), 3) := by decide +kernel
theorem dX10_bestSet_142 : decode cX10_bestSet 142 = .ok (.iload 6, 2) := by decide +kernel
theorem dX10_bestSet_144 : decode cX10_bestSet 144 = .ok (.aload_n 0, 1) := by decide +kernel
theorem dX10_bestSet_145 : decode cX10_bestSet 145 = .ok (.getfield 9, 3) := by decide +kernel
theorem dX10_bestSet_148 : decode cX10_bestSet 148 = .ok (.bipush 8, 2) := by decide +kernel
theorem dX10_bestSet_150 : decode cX10_bestSet 150 = .ok (.iaload, 1) := by decide +kernel
theorem dX10_bestSet_151 : decode cX10_bestSet 151 = .ok (.if_icmp .lt 44, 3) := by decide +kernel
theorem dX10_bestSet_154 : decode cX10_bestSet 154 = .ok (.iload_n 1, 1) := by decide +kernel
theorem dX10_bestSet_155 : decode cX10_bestSet 155 = .ok (.iconst (-1), 1) := by decide +kernel
theorem dX10_bestSet_156 : decode cX10_bestSet 156 = .ok (.if_icmp .eq 33, 3) := by decide +kernel
theorem dX10_bestSet_159 : decode cX10_bestSet 159 = .ok (.iload 5, 2) := by decide +kernel
theorem dX10_bestSet_161 : decode cX10_bestSet 161 = .ok (.invokestatic 178, 3) := by decide +kernel
theorem dX10_bestSet_164 : decode cX10_bestSet 164 = .ok (.iload_n 1, 1) := by decide +kernel
theorem dX10_bestSet_165 : decode cX10_bestSet 165 = .ok (.invokestatic 178, 3) := by decide +kernel
theorem dX10_bestSet_168 : decode cX10_bestSet 168 = .ok (.if_icmp .lt 21, 3) := by decide +kernel
theorem dX10_bestSet_171 : decode cX10_bestSet 171 = .ok (.iload 5, 2) := by decide +kernel
theorem dX10_bestSet_173 : decode cX10_bestSet 173 = .ok (.invokestatic 178, 3) := by decide +kernel
theorem dX10_bestSet_176 : decode cX10_bestSet 176 = .ok (.iload_n 1, 1) := by decide +kernel
theorem dX10_bestSet_177 : decode cX10_bestSet 177 = .ok (.invokestatic 178, 3) := by decide +kernel
theorem dX10_bestSet_180 : decode cX10_bestSet 180 = .ok (.if_icmp .ne 15, 3) := by decide +kernel
theorem dX10_bestSet_183 : decode cX10_bestSet 183 = .ok (.iload 6, 2) := by decide +kernel
theorem dX10_bestSet_185 : decode cX10_bestSet 185 = .ok (.iload_n 2, 1) := by decide +kernel
theorem dX10_bestSet_186 : decode cX10_bestSet 186 = .ok (.if_icmp .ge 9, 3) := by decide +kernel
theorem dX10_bestSet_189 : decode cX10_bestSet 189 = .ok (.iload 5, 2) := by decide +kernel
theorem dX10_bestSet_191 : decode cX10_bestSet 191 = .ok (.istore_n 1, 1) := by decide +kernel
theorem dX10_bestSet_192 : decode cX10_bestSet 192 = .ok (.iload 6, 2) := by decide +kernel
theorem dX10_bestSet_194 : decode cX10_bestSet 194 = .ok (.istore_n 2, 1) := by decide +kernel
theorem dX10_bestSet_195 : decode cX10_bestSet 195 = .ok (.iinc 5 1, 3) := by decide +kernel
theorem dX10_bestSet_198 : decode cX10_bestSet 198 = .ok (.goto (-119), 3) := by decide +kernel
theorem dX10_bestSet_201 : decode cX10_bestSet 201 = .ok (.iload_n 1, 1) := by decide +kernel
theorem dX10_bestSet_202 : decode cX10_bestSet 202 = .ok (.ireturn, 1) := by decide +kernel
def fX10_bestSet_B195 (rc79 : Int → Int → Int → vr_M → Option (Int × vr_M)) (x1 : Int) (x2 : Int) (x5 : Int) (μ : vr_M) : Option (Int × vr_M) :=
  vr_gd (vr_R (x5 + 1)) (rc79 x1 x2 (x5 + 1) μ)
def fX10_bestSet_B189 (rc79 : Int → Int → Int → vr_M → Option (Int × vr_M)) (x5 : Int) (x6 : Int) (μ : vr_M) : Option (Int × vr_M) :=
  fX10_bestSet_B195 rc79 x5 x6 x5 μ
def fX10_bestSet_B133 (rc79 : Int → Int → Int → vr_M → Option (Int × vr_M)) (rc98 : Int → Int → Int → Int → Int → vr_M → Option (Int × vr_M)) (x1 : Int) (x2 : Int) (x5 : Int) (x7 : Int) (y0 : Int) (y1 : Int) (μ : vr_M) : Option (Int × vr_M) :=
  vr_gd (vr_R (y0 + y1)) (vr_gd (vr_R (x7 + 1)) (rc98 x1 x2 x5 (y0 + y1) (x7 + 1) μ))
def fX10_bestSet_L98 (rc79 : Int → Int → Int → vr_M → Option (Int × vr_M)) : Nat → Int → Int → Int → Int → Int → vr_M → Option (Int × vr_M)
  | 0, _, _, _, _, _, _ => none
  | n + 1, x1, x2, x5, x6, x7, μ => vr_gd (vr_R (μ 69 0)) (if (μ 69 0) ≤ x7 then vr_gd (vr_R (μ 69 8)) (if x6 < (μ 69 8) then fX10_bestSet_B195 rc79 x1 x2 x5 μ else if x1 = (-1) then fX10_bestSet_B189 rc79 x5 x6 μ else (fX10_count1 x5 μ).bind (fun r6 => (fX10_count1 x1 r6.2).bind (fun r7 => if r6.1 < r7.1 then fX10_bestSet_B189 rc79 x5 x6 r7.2 else (fX10_count1 x5 r7.2).bind (fun r8 => (fX10_count1 x1 r8.2).bind (fun r9 => if ¬ r8.1 = r9.1 then fX10_bestSet_B195 rc79 x1 x2 x5 r9.2 else if x2 ≤ x6 then fX10_bestSet_B195 rc79 x1 x2 x5 r9.2 else fX10_bestSet_B189 rc79 x5 x6 r9.2))))) else if ¬ (vr_and (vr_shr x5 x7) 1) = 1 then fX10_bestSet_B133 rc79 (fX10_bestSet_L98 rc79 n) x1 x2 x5 x7 x6 0 μ else vr_gd (0 ≤ x7 ∧ x7 < 8) (vr_gd (vr_R (μ 74 x7.toNat)) (fX10_bestSet_B133 rc79 (fX10_bestSet_L98 rc79 n) x1 x2 x5 x7 x6 (μ 74 x7.toNat) μ)))
def fX10_bestSet_L79 : Nat → Int → Int → Int → vr_M → Option (Int × vr_M)
  | 0, _, _, _, _ => none
  | n + 1, x1, x2, x5, μ => if (vr_shl 1 (μ 69 0)) ≤ x5 then some (x1, μ) else fX10_bestSet_L98 (fX10_bestSet_L79 n) 9000 x1 x2 x5 0 0 μ
def fX10_bestSet_B42 (rc12 : Int → Int → Int → Int → Int → vr_M → Option (Int × vr_M)) (x1 : Int) (x2 : Int) (x4 : Int) (x5 : Int) (y0 : Int) (y1 : Int) (μ : vr_M) : Option (Int × vr_M) :=
  vr_gd (0 ≤ x5 ∧ x5 < 8) (vr_gd (vr_R (x4 + (μ 74 x5.toNat))) (vr_gd (vr_R (x5 + 1)) (rc12 x1 x2 (vr_or y0 y1) (x4 + (μ 74 x5.toNat)) (x5 + 1) μ)))
def fX10_bestSet_L12 : Nat → Int → Int → Int → Int → Int → vr_M → Option (Int × vr_M)
  | 0, _, _, _, _, _, _ => none
  | n + 1, x1, x2, x3, x4, x5, μ => vr_gd (vr_R (μ 69 0)) (if (μ 69 0) ≤ x5 then vr_gd (vr_R (μ 69 8)) (if (μ 69 8) ≤ x4 then fX10_bestSet_L79 9000 x1 x2 0 μ else some (x3, μ)) else vr_gd (0 ≤ x5 ∧ x5 < 8) (vr_gd (vr_R (μ 74 x5.toNat)) (if (μ 74 x5.toNat) ≤ 0 then fX10_bestSet_B42 (fX10_bestSet_L12 n) x1 x2 x4 x5 x3 0 μ else fX10_bestSet_B42 (fX10_bestSet_L12 n) x1 x2 x4 x5 x3 (vr_shl 1 x5) μ)))
def fX10_bestSet (μ : vr_M) : Option (Int × vr_M) :=
  fX10_bestSet_L12 9000 (-1) 0 0 0 0 μ
set_option maxRecDepth 100000 in
set_option maxHeartbeats 4000000 in
theorem ct_X10_bestSet (l : Launch) (G : vr_G) (μ : vr_M) : vr_CI l yX10_bestSet cX10_bestSet 8 (some .int) ({ frames := 1, cells := 0, slots := 0, locals := 22 } : Room) G [.ref (vr_ad G 68)] μ (fX10_bestSet μ) := by
  refine vr_start (own := RX10) (by decide) rfl (Nat.le_of_ble_eq_true rfl) (fun p e s m args below meth c C0 => ?_)
  show vr_J p l e _ s m args below meth c 8 0 0 G (vr_Z (vr_QI G) G args s below) 0 [(0, .ref (vr_ad G 68))] [] μ _
  have L79 : ∀ (n : Nat) (x1 : Int) (h_x1 : vr_R x1) (x2 : Int) (h_x2 : vr_R x2) (x5 : Int) (h_x5 : vr_R x5) (μ : vr_M), vr_J p l e ({ frames := 1, cells := 0, slots := 0, locals := 22 } : Room) s m args below meth c 8 0 0 G (vr_Z (vr_QI G) G args s below) 79 [(0, .ref (vr_ad G 68)), (1, .int (vr_I x1)), (2, .int (vr_I x2)), (5, .int (vr_I x5))] [] μ (fX10_bestSet_L79 n x1 x2 x5 μ) := by
    intro n79
    induction n79 with
    | zero => intros; exact jr_none
    | succ n79 ih79 =>
      have B195 : ∀ (x1 : Int) (h_x1 : vr_R x1) (x2 : Int) (h_x2 : vr_R x2) (x5 : Int) (h_x5 : vr_R x5) (μ : vr_M), vr_J p l e ({ frames := 1, cells := 0, slots := 0, locals := 22 } : Room) s m args below meth c 8 0 0 G (vr_Z (vr_QI G) G args s below) 195 [(0, .ref (vr_ad G 68)), (1, .int (vr_I x1)), (2, .int (vr_I x2)), (5, .int (vr_I x5))] [] μ (fX10_bestSet_B195 (fX10_bestSet_L79 n79) x1 x2 x5 μ) := by
        intro x1 h_x1 x2 h_x2 x5 h_x5 μ
        unfold fX10_bestSet_B195
        refine jr_iinc C0 (q := 3) dX10_bestSet_195 rfl (by decide) (lv' := [(5, .int (vr_I (x5 + 1))), (0, .ref (vr_ad G 68)), (1, .int (vr_I x1)), (2, .int (vr_I x2))]) rfl ?_
        refine jr_goto C0 dX10_bestSet_198 (tgt := 79) (by decide) ?_
        refine jr_gd (fun g1 => ?_)
        refine jr_sub [1, 2, 3, 0] rfl ?_
        exact ih79 x1 h_x1 x2 h_x2 (x5 + 1) g1 _
      have B189 : ∀ (x5 : Int) (h_x5 : vr_R x5) (x6 : Int) (h_x6 : vr_R x6) (μ : vr_M), vr_J p l e ({ frames := 1, cells := 0, slots := 0, locals := 22 } : Room) s m args below meth c 8 0 0 G (vr_Z (vr_QI G) G args s below) 189 [(0, .ref (vr_ad G 68)), (5, .int (vr_I x5)), (6, .int (vr_I x6))] [] μ (fX10_bestSet_B189 (fX10_bestSet_L79 n79) x5 x6 μ) := by
        intro x5 h_x5 x6 h_x6 μ
        unfold fX10_bestSet_B189
        refine jr_iload C0 1 dX10_bestSet_189 rfl ?_
        refine jr_istore_n C0 dX10_bestSet_191 rfl (by decide) (lv' := [(1, .int (vr_I x5)), (0, .ref (vr_ad G 68)), (5, .int (vr_I x5)), (6, .int (vr_I x6))]) rfl ?_
        refine jr_iload C0 3 dX10_bestSet_192 rfl ?_
        refine jr_istore_n C0 dX10_bestSet_194 rfl (by decide) (lv' := [(2, .int (vr_I x6)), (1, .int (vr_I x5)), (0, .ref (vr_ad G 68)), (5, .int (vr_I x5)), (6, .int (vr_I x6))]) rfl ?_
        refine jr_sub [2, 1, 0, 3] rfl ?_
        exact B195 x5 h_x5 x6 h_x6 x5 h_x5 _
      have L98 : ∀ (n : Nat) (x1 : Int) (h_x1 : vr_R x1) (x2 : Int) (h_x2 : vr_R x2) (x5 : Int) (h_x5 : vr_R x5) (x6 : Int) (h_x6 : vr_R x6) (x7 : Int) (h_x7 : vr_R x7) (μ : vr_M), vr_J p l e ({ frames := 1, cells := 0, slots := 0, locals := 22 } : Room) s m args below meth c 8 0 0 G (vr_Z (vr_QI G) G args s below) 98 [(0, .ref (vr_ad G 68)), (1, .int (vr_I x1)), (2, .int (vr_I x2)), (5, .int (vr_I x5)), (6, .int (vr_I x6)), (7, .int (vr_I x7))] [] μ (fX10_bestSet_L98 (fX10_bestSet_L79 n79) n x1 x2 x5 x6 x7 μ) := by
        intro n98
        induction n98 with
        | zero => intros; exact jr_none
        | succ n98 ih98 =>
          have B133 : ∀ (x1 : Int) (h_x1 : vr_R x1) (x2 : Int) (h_x2 : vr_R x2) (x5 : Int) (h_x5 : vr_R x5) (x7 : Int) (h_x7 : vr_R x7) (y0 : Int) (h_y0 : vr_R y0) (y1 : Int) (h_y1 : vr_R y1) (μ : vr_M), vr_J p l e ({ frames := 1, cells := 0, slots := 0, locals := 22 } : Room) s m args below meth c 8 0 0 G (vr_Z (vr_QI G) G args s below) 133 [(0, .ref (vr_ad G 68)), (1, .int (vr_I x1)), (2, .int (vr_I x2)), (5, .int (vr_I x5)), (7, .int (vr_I x7))] [.int (vr_I y1), .int (vr_I y0)] μ (fX10_bestSet_B133 (fX10_bestSet_L79 n79) (fX10_bestSet_L98 (fX10_bestSet_L79 n79) n98) x1 x2 x5 x7 y0 y1 μ) := by
            intro x1 h_x1 x2 h_x2 x5 h_x5 x7 h_x7 y0 h_y0 y1 h_y1 μ
            unfold fX10_bestSet_B133
            refine jr_iadd C0 dX10_bestSet_133 ?_
            refine jr_istore C0 dX10_bestSet_134 (by decide) (lv' := [(6, .int (vr_I (y0 + y1))), (0, .ref (vr_ad G 68)), (1, .int (vr_I x1)), (2, .int (vr_I x2)), (5, .int (vr_I x5)), (7, .int (vr_I x7))]) rfl ?_
            refine jr_iinc C0 (q := 5) dX10_bestSet_136 rfl (by decide) (lv' := [(7, .int (vr_I (x7 + 1))), (6, .int (vr_I (y0 + y1))), (0, .ref (vr_ad G 68)), (1, .int (vr_I x1)), (2, .int (vr_I x2)), (5, .int (vr_I x5))]) rfl ?_
            refine jr_goto C0 dX10_bestSet_139 (tgt := 98) (by decide) ?_
            refine jr_gd (fun g2 => ?_)
            refine jr_gd (fun g3 => ?_)
            refine jr_sub [2, 3, 4, 5, 1, 0] rfl ?_
            exact ih98 x1 h_x1 x2 h_x2 x5 h_x5 (y0 + y1) g2 (x7 + 1) g3 _
          intro x1 h_x1 x2 h_x2 x5 h_x5 x6 h_x6 x7 h_x7 μ
          rw [fX10_bestSet_L98.eq_2]
          refine jr_iload C0 5 dX10_bestSet_98 rfl ?_
          refine jr_aload_n C0 0 dX10_bestSet_100 rfl rfl ?_
          refine jr_getr C0 (by decide) kd_68 (by decide) rfl wx_X10 (i := 1) (by decide) wf_X10_9 (j := 69) rfl dX10_bestSet_101 ?_
          refine jr_iconst C0 dX10_bestSet_104 ?_
          refine jr_iald C0 (by decide) kd_69 kl_69 (by decide) (j := 0) rfl dX10_bestSet_105 ?_
          refine jr_gd (fun g4 => ?_)
          refine jr_icmp_ge C0 h_x7 g4 dX10_bestSet_106 (tgt := 142) (by decide) ?_ ?_
          · refine jr_iload C0 4 dX10_bestSet_142 rfl ?_
            refine jr_aload_n C0 0 dX10_bestSet_144 rfl rfl ?_
            refine jr_getr C0 (by decide) kd_68 (by decide) rfl wx_X10 (i := 1) (by decide) wf_X10_9 (j := 69) rfl dX10_bestSet_145 ?_
            refine jr_bipush C0 dX10_bestSet_148 rfl ?_
            refine jr_iald C0 (by decide) kd_69 kl_69 (by decide) (j := 8) rfl dX10_bestSet_150 ?_
            refine jr_gd (fun g5 => ?_)
            refine jr_icmp_lt C0 h_x6 g5 dX10_bestSet_151 (tgt := 195) (by decide) ?_ ?_
            · refine jr_sub [0, 1, 2, 3] rfl ?_
              exact B195 x1 h_x1 x2 h_x2 x5 h_x5 _
            refine jr_iload_n C0 1 dX10_bestSet_154 rfl rfl ?_
            refine jr_iconst C0 dX10_bestSet_155 ?_
            refine jr_icmp_eq C0 h_x1 (⟨by decide, by decide⟩) dX10_bestSet_156 (tgt := 189) (by decide) ?_ ?_
            · refine jr_sub [0, 3, 4] rfl ?_
              exact B189 x5 h_x5 x6 h_x6 _
            refine jr_iload C0 3 dX10_bestSet_159 rfl ?_
            refine jr_sI C0 (ct_X10_count1 l G x5 h_x5 _) mi_X10_count1 wm_X10_178 ⟨Nat.le_of_ble_eq_true rfl, Nat.le_of_ble_eq_true rfl⟩ ⟨rfl, rfl⟩ (As := [.int (vr_I x5)]) rfl (st := []) rfl (Nat.le_of_ble_eq_true rfl) dX10_bestSet_161 (fun r6 hr6 => ?_)
            refine jr_iload_n C0 1 dX10_bestSet_164 rfl rfl ?_
            refine jr_sI C0 (ct_X10_count1 l G x1 h_x1 _) mi_X10_count1 wm_X10_178 ⟨Nat.le_of_ble_eq_true rfl, Nat.le_of_ble_eq_true rfl⟩ ⟨rfl, rfl⟩ (As := [.int (vr_I x1)]) rfl (st := [.int (vr_I r6.1)]) rfl (Nat.le_of_ble_eq_true rfl) dX10_bestSet_165 (fun r7 hr7 => ?_)
            refine jr_icmp_lt C0 hr6 hr7 dX10_bestSet_168 (tgt := 189) (by decide) ?_ ?_
            · refine jr_sub [0, 3, 4] rfl ?_
              exact B189 x5 h_x5 x6 h_x6 _
            refine jr_iload C0 3 dX10_bestSet_171 rfl ?_
            refine jr_sI C0 (ct_X10_count1 l G x5 h_x5 _) mi_X10_count1 wm_X10_178 ⟨Nat.le_of_ble_eq_true rfl, Nat.le_of_ble_eq_true rfl⟩ ⟨rfl, rfl⟩ (As := [.int (vr_I x5)]) rfl (st := []) rfl (Nat.le_of_ble_eq_true rfl) dX10_bestSet_173 (fun r8 hr8 => ?_)
            refine jr_iload_n C0 1 dX10_bestSet_176 rfl rfl ?_
            refine jr_sI C0 (ct_X10_count1 l G x1 h_x1 _) mi_X10_count1 wm_X10_178 ⟨Nat.le_of_ble_eq_true rfl, Nat.le_of_ble_eq_true rfl⟩ ⟨rfl, rfl⟩ (As := [.int (vr_I x1)]) rfl (st := [.int (vr_I r8.1)]) rfl (Nat.le_of_ble_eq_true rfl) dX10_bestSet_177 (fun r9 hr9 => ?_)
            refine jr_icmp_ne C0 hr8 hr9 dX10_bestSet_180 (tgt := 195) (by decide) ?_ ?_
            · refine jr_sub [0, 1, 2, 3] rfl ?_
              exact B195 x1 h_x1 x2 h_x2 x5 h_x5 _
            refine jr_iload C0 4 dX10_bestSet_183 rfl ?_
            refine jr_iload_n C0 2 dX10_bestSet_185 rfl rfl ?_
            refine jr_icmp_ge C0 h_x6 h_x2 dX10_bestSet_186 (tgt := 195) (by decide) ?_ ?_
            · refine jr_sub [0, 1, 2, 3] rfl ?_
              exact B195 x1 h_x1 x2 h_x2 x5 h_x5 _
            refine jr_sub [0, 3, 4] rfl ?_
            exact B189 x5 h_x5 x6 h_x6 _
          refine jr_iload C0 4 dX10_bestSet_109 rfl ?_
          refine jr_iload C0 3 dX10_bestSet_111 rfl ?_
          refine jr_iload C0 5 dX10_bestSet_113 rfl ?_
          refine jr_ishr C0 dX10_bestSet_115 ?_
          refine jr_iconst C0 dX10_bestSet_116 ?_
          refine jr_iand C0 dX10_bestSet_117 ?_
          refine jr_iconst C0 dX10_bestSet_118 ?_
          refine jr_icmp_ne C0 (vr_RT _) (⟨by decide, by decide⟩) dX10_bestSet_119 (tgt := 132) (by decide) ?_ ?_
          · refine jr_iconst C0 dX10_bestSet_132 ?_
            refine jr_sub [0, 1, 2, 3, 5] rfl ?_
            exact B133 x1 h_x1 x2 h_x2 x5 h_x5 x7 h_x7 x6 h_x6 0 (⟨by decide, by decide⟩) _
          refine jr_aload_n C0 0 dX10_bestSet_122 rfl rfl ?_
          refine jr_getr C0 (by decide) kd_68 (by decide) rfl wx_X10 (i := 14) (by decide) wf_X10_28 (j := 74) rfl dX10_bestSet_123 ?_
          refine jr_iload C0 5 dX10_bestSet_126 rfl ?_
          refine jr_gd (fun g10 => ?_)
          refine jr_iald C0 (by decide) kd_74 kl_74 g10 (j := x7.toNat) rfl dX10_bestSet_128 ?_
          refine jr_goto C0 dX10_bestSet_129 (tgt := 133) (by decide) ?_
          refine jr_gd (fun g11 => ?_)
          refine jr_sub [0, 1, 2, 3, 5] rfl ?_
          exact B133 x1 h_x1 x2 h_x2 x5 h_x5 x7 h_x7 x6 h_x6 (μ 74 x7.toNat) g11 _
      intro x1 h_x1 x2 h_x2 x5 h_x5 μ
      rw [fX10_bestSet_L79.eq_2]
      refine jr_iload C0 3 dX10_bestSet_79 rfl ?_
      refine jr_iconst C0 dX10_bestSet_81 ?_
      refine jr_aload_n C0 0 dX10_bestSet_82 rfl rfl ?_
      refine jr_getr C0 (by decide) kd_68 (by decide) rfl wx_X10 (i := 1) (by decide) wf_X10_9 (j := 69) rfl dX10_bestSet_83 ?_
      refine jr_iconst C0 dX10_bestSet_86 ?_
      refine jr_iald C0 (by decide) kd_69 kl_69 (by decide) (j := 0) rfl dX10_bestSet_87 ?_
      refine jr_ishl C0 dX10_bestSet_88 ?_
      refine jr_icmp_ge C0 h_x5 (vr_RT _) dX10_bestSet_89 (tgt := 201) (by decide) ?_ ?_
      · refine jr_iload_n C0 1 dX10_bestSet_201 rfl rfl ?_
        exact jr_iret C0 h_x1 dX10_bestSet_202
      refine jr_iconst C0 dX10_bestSet_92 ?_
      refine jr_istore C0 dX10_bestSet_93 (by decide) (lv' := [(6, .int (vr_I 0)), (0, .ref (vr_ad G 68)), (1, .int (vr_I x1)), (2, .int (vr_I x2)), (5, .int (vr_I x5))]) rfl ?_
      refine jr_iconst C0 dX10_bestSet_95 ?_
      refine jr_istore C0 dX10_bestSet_96 (by decide) (lv' := [(7, .int (vr_I 0)), (6, .int (vr_I 0)), (0, .ref (vr_ad G 68)), (1, .int (vr_I x1)), (2, .int (vr_I x2)), (5, .int (vr_I x5))]) rfl ?_
      refine jr_sub [2, 3, 4, 5, 1, 0] rfl ?_
      exact L98 9000 x1 h_x1 x2 h_x2 x5 h_x5 0 (⟨by decide, by decide⟩) 0 (⟨by decide, by decide⟩) _
  have L12 : ∀ (n : Nat) (x1 : Int) (h_x1 : vr_R x1) (x2 : Int) (h_x2 : vr_R x2) (x3 : Int) (h_x3 : vr_R x3) (x4 : Int) (h_x4 : vr_R x4) (x5 : Int) (h_x5 : vr_R x5) (μ : vr_M), vr_J p l e ({ frames := 1, cells := 0, slots := 0, locals := 22 } : Room) s m args below meth c 8 0 0 G (vr_Z (vr_QI G) G args s below) 12 [(0, .ref (vr_ad G 68)), (1, .int (vr_I x1)), (2, .int (vr_I x2)), (3, .int (vr_I x3)), (4, .int (vr_I x4)), (5, .int (vr_I x5))] [] μ (fX10_bestSet_L12 n x1 x2 x3 x4 x5 μ) := by
    intro n12
    induction n12 with
    | zero => intros; exact jr_none
    | succ n12 ih12 =>
      have B42 : ∀ (x1 : Int) (h_x1 : vr_R x1) (x2 : Int) (h_x2 : vr_R x2) (x4 : Int) (h_x4 : vr_R x4) (x5 : Int) (h_x5 : vr_R x5) (y0 : Int) (h_y0 : vr_R y0) (y1 : Int) (h_y1 : vr_R y1) (μ : vr_M), vr_J p l e ({ frames := 1, cells := 0, slots := 0, locals := 22 } : Room) s m args below meth c 8 0 0 G (vr_Z (vr_QI G) G args s below) 42 [(0, .ref (vr_ad G 68)), (1, .int (vr_I x1)), (2, .int (vr_I x2)), (4, .int (vr_I x4)), (5, .int (vr_I x5))] [.int (vr_I y1), .int (vr_I y0)] μ (fX10_bestSet_B42 (fX10_bestSet_L12 n12) x1 x2 x4 x5 y0 y1 μ) := by
        intro x1 h_x1 x2 h_x2 x4 h_x4 x5 h_x5 y0 h_y0 y1 h_y1 μ
        unfold fX10_bestSet_B42
        refine jr_ior C0 dX10_bestSet_42 ?_
        refine jr_istore_n C0 dX10_bestSet_43 rfl (by decide) (lv' := [(3, .int (vr_I (vr_or y0 y1))), (0, .ref (vr_ad G 68)), (1, .int (vr_I x1)), (2, .int (vr_I x2)), (4, .int (vr_I x4)), (5, .int (vr_I x5))]) rfl ?_
        refine jr_iload C0 4 dX10_bestSet_44 rfl ?_
        refine jr_aload_n C0 1 dX10_bestSet_46 rfl rfl ?_
        refine jr_getr C0 (by decide) kd_68 (by decide) rfl wx_X10 (i := 14) (by decide) wf_X10_28 (j := 74) rfl dX10_bestSet_47 ?_
        refine jr_iload C0 5 dX10_bestSet_50 rfl ?_
        refine jr_gd (fun g12 => ?_)
        refine jr_iald C0 (by decide) kd_74 kl_74 g12 (j := x5.toNat) rfl dX10_bestSet_52 ?_
        refine jr_iadd C0 dX10_bestSet_53 ?_
        refine jr_istore C0 dX10_bestSet_54 (by decide) (lv' := [(4, .int (vr_I (x4 + (μ 74 x5.toNat)))), (3, .int (vr_I (vr_or y0 y1))), (0, .ref (vr_ad G 68)), (1, .int (vr_I x1)), (2, .int (vr_I x2)), (5, .int (vr_I x5))]) rfl ?_
        refine jr_iinc C0 (q := 5) dX10_bestSet_56 rfl (by decide) (lv' := [(5, .int (vr_I (x5 + 1))), (4, .int (vr_I (x4 + (μ 74 x5.toNat)))), (3, .int (vr_I (vr_or y0 y1))), (0, .ref (vr_ad G 68)), (1, .int (vr_I x1)), (2, .int (vr_I x2))]) rfl ?_
        refine jr_goto C0 dX10_bestSet_59 (tgt := 12) (by decide) ?_
        refine jr_gd (fun g13 => ?_)
        refine jr_gd (fun g14 => ?_)
        refine jr_sub [3, 4, 5, 2, 1, 0] rfl ?_
        exact ih12 x1 h_x1 x2 h_x2 (vr_or y0 y1) (vr_RT _) (x4 + (μ 74 x5.toNat)) g13 (x5 + 1) g14 _
      intro x1 h_x1 x2 h_x2 x3 h_x3 x4 h_x4 x5 h_x5 μ
      rw [fX10_bestSet_L12.eq_2]
      refine jr_iload C0 5 dX10_bestSet_12 rfl ?_
      refine jr_aload_n C0 0 dX10_bestSet_14 rfl rfl ?_
      refine jr_getr C0 (by decide) kd_68 (by decide) rfl wx_X10 (i := 1) (by decide) wf_X10_9 (j := 69) rfl dX10_bestSet_15 ?_
      refine jr_iconst C0 dX10_bestSet_18 ?_
      refine jr_iald C0 (by decide) kd_69 kl_69 (by decide) (j := 0) rfl dX10_bestSet_19 ?_
      refine jr_gd (fun g15 => ?_)
      refine jr_icmp_ge C0 h_x5 g15 dX10_bestSet_20 (tgt := 62) (by decide) ?_ ?_
      · refine jr_iload C0 4 dX10_bestSet_62 rfl ?_
        refine jr_aload_n C0 0 dX10_bestSet_64 rfl rfl ?_
        refine jr_getr C0 (by decide) kd_68 (by decide) rfl wx_X10 (i := 1) (by decide) wf_X10_9 (j := 69) rfl dX10_bestSet_65 ?_
        refine jr_bipush C0 dX10_bestSet_68 rfl ?_
        refine jr_iald C0 (by decide) kd_69 kl_69 (by decide) (j := 8) rfl dX10_bestSet_70 ?_
        refine jr_gd (fun g16 => ?_)
        refine jr_icmp_ge C0 h_x4 g16 dX10_bestSet_71 (tgt := 76) (by decide) ?_ ?_
        · refine jr_iconst C0 dX10_bestSet_76 ?_
          refine jr_istore C0 dX10_bestSet_77 (by decide) (lv' := [(5, .int (vr_I 0)), (0, .ref (vr_ad G 68)), (1, .int (vr_I x1)), (2, .int (vr_I x2)), (3, .int (vr_I x3)), (4, .int (vr_I x4))]) rfl ?_
          refine jr_sub [1, 2, 3, 0] rfl ?_
          exact L79 9000 x1 h_x1 x2 h_x2 0 (⟨by decide, by decide⟩) _
        refine jr_iload_n C0 3 dX10_bestSet_74 rfl rfl ?_
        exact jr_iret C0 h_x3 dX10_bestSet_75
      refine jr_iload_n C0 3 dX10_bestSet_23 rfl rfl ?_
      refine jr_aload_n C0 0 dX10_bestSet_24 rfl rfl ?_
      refine jr_getr C0 (by decide) kd_68 (by decide) rfl wx_X10 (i := 14) (by decide) wf_X10_28 (j := 74) rfl dX10_bestSet_25 ?_
      refine jr_iload C0 5 dX10_bestSet_28 rfl ?_
      refine jr_gd (fun g17 => ?_)
      refine jr_iald C0 (by decide) kd_74 kl_74 g17 (j := x5.toNat) rfl dX10_bestSet_30 ?_
      refine jr_gd (fun g18 => ?_)
      refine jr_if_le C0 g18 dX10_bestSet_31 (tgt := 41) (by decide) ?_ ?_
      · refine jr_iconst C0 dX10_bestSet_41 ?_
        refine jr_sub [0, 1, 2, 4, 5] rfl ?_
        exact B42 x1 h_x1 x2 h_x2 x4 h_x4 x5 h_x5 x3 h_x3 0 (⟨by decide, by decide⟩) _
      refine jr_iconst C0 dX10_bestSet_34 ?_
      refine jr_iload C0 5 dX10_bestSet_35 rfl ?_
      refine jr_ishl C0 dX10_bestSet_37 ?_
      refine jr_goto C0 dX10_bestSet_38 (tgt := 42) (by decide) ?_
      refine jr_sub [0, 1, 2, 4, 5] rfl ?_
      exact B42 x1 h_x1 x2 h_x2 x4 h_x4 x5 h_x5 x3 h_x3 (vr_shl 1 x5) (vr_RT _) _
  unfold fX10_bestSet
  refine jr_iconst C0 dX10_bestSet_0 ?_
  refine jr_istore_n C0 dX10_bestSet_1 rfl (by decide) (lv' := [(1, .int (vr_I (-1))), (0, .ref (vr_ad G 68))]) rfl ?_
  refine jr_iconst C0 dX10_bestSet_2 ?_
  refine jr_istore_n C0 dX10_bestSet_3 rfl (by decide) (lv' := [(2, .int (vr_I 0)), (1, .int (vr_I (-1))), (0, .ref (vr_ad G 68))]) rfl ?_
  refine jr_iconst C0 dX10_bestSet_4 ?_
  refine jr_istore_n C0 dX10_bestSet_5 rfl (by decide) (lv' := [(3, .int (vr_I 0)), (2, .int (vr_I 0)), (1, .int (vr_I (-1))), (0, .ref (vr_ad G 68))]) rfl ?_
  refine jr_iconst C0 dX10_bestSet_6 ?_
  refine jr_istore C0 dX10_bestSet_7 (by decide) (lv' := [(4, .int (vr_I 0)), (3, .int (vr_I 0)), (2, .int (vr_I 0)), (1, .int (vr_I (-1))), (0, .ref (vr_ad G 68))]) rfl ?_
  refine jr_iconst C0 dX10_bestSet_9 ?_
  refine jr_istore C0 dX10_bestSet_10 (by decide) (lv' := [(5, .int (vr_I 0)), (4, .int (vr_I 0)), (3, .int (vr_I 0)), (2, .int (vr_I 0)), (1, .int (vr_I (-1))), (0, .ref (vr_ad G 68))]) rfl ?_
  refine jr_sub [5, 4, 3, 2, 1, 0] rfl ?_
  exact L12 9000 (-1) (⟨by decide, by decide⟩) 0 (⟨by decide, by decide⟩) 0 (⟨by decide, by decide⟩) 0 (⟨by decide, by decide⟩) 0 (⟨by decide, by decide⟩) _
theorem dX10_burntBy_0 : decode cX10_burntBy 0 = .ok (.aload_n 0, 1) := by decide +kernel
theorem dX10_burntBy_1 : decode cX10_burntBy 1 = .ok (.iload_n 3, 1) := by decide +kernel
theorem dX10_burntBy_2 : decode cX10_burntBy 2 = .ok (.invokevirtual 181, 3) := by decide +kernel
theorem dX10_burntBy_5 : decode cX10_burntBy 5 = .ok (.iload_n 1, 1) := by decide +kernel
theorem dX10_burntBy_6 : decode cX10_burntBy 6 = .ok (.iconst 1, 1) := by decide +kernel
theorem dX10_burntBy_7 : decode cX10_burntBy 7 = .ok (.if_icmp .ne 57, 3) := by decide +kernel
theorem dX10_burntBy_10 : decode cX10_burntBy 10 = .ok (.iconst 0, 1) := by decide +kernel
theorem dX10_burntBy_11 : decode cX10_burntBy 11 = .ok (.istore 4, 2) := by decide +kernel
theorem dX10_burntBy_13 : decode cX10_burntBy 13 = .ok (.iconst 0, 1) := by decide +kernel
theorem dX10_burntBy_14 : decode cX10_burntBy 14 = .ok (.istore 5, 2) := by decide +kernel
theorem dX10_burntBy_16 : decode cX10_burntBy 16 = .ok (.iload 5, 2) := by decide +kernel
theorem dX10_burntBy_18 : decode cX10_burntBy 18 = .ok (.aload_n 0, 1) := by decide +kernel
theorem dX10_burntBy_19 : decode cX10_burntBy 19 = .ok (.getfield 9, 3) := by decide +kernel
theorem dX10_burntBy_22 : decode cX10_burntBy 22 = .ok (.iconst 0, 1) := by decide +kernel
theorem dX10_burntBy_23 : decode cX10_burntBy 23 = .ok (.iaload, 1) := by decide +kernel
theorem dX10_burntBy_24 : decode cX10_burntBy 24 = .ok (.if_icmp .ge 37, 3) := by decide +kernel
theorem dX10_burntBy_27 : decode cX10_burntBy 27 = .ok (.iload 4, 2) := by decide +kernel
theorem dX10_burntBy_29 : decode cX10_burntBy 29 = .ok (.iload 5, 2) := by decide +kernel
theorem dX10_burntBy_31 : decode cX10_burntBy 31 = .ok (.iload_n 2, 1) := by decide +kernel
theorem dX10_burntBy_32 : decode cX10_burntBy 32 = .ok (.irem, 1) := by decide +kernel
theorem dX10_burntBy_33 : decode cX10_burntBy 33 = .ok (.aload_n 0, 1) := by decide +kernel
theorem dX10_burntBy_34 : decode cX10_burntBy 34 = .ok (.getfield 9, 3) := by decide +kernel
theorem dX10_burntBy_37 : decode cX10_burntBy 37 = .ok (.iconst 3, 1) := by decide +kernel
theorem dX10_burntBy_38 : decode cX10_burntBy 38 = .ok (.iaload, 1) := by decide +kernel
theorem dX10_burntBy_39 : decode cX10_burntBy 39 = .ok (.iload_n 2, 1) := by decide +kernel
theorem dX10_burntBy_40 : decode cX10_burntBy 40 = .ok (.irem, 1) := by decide +kernel
theorem dX10_burntBy_41 : decode cX10_burntBy 41 = .ok (.if_icmp .ne 10, 3) := by decide +kernel
theorem dX10_burntBy_44 : decode cX10_burntBy 44 = .ok (.iconst 1, 1) := by decide +kernel
theorem dX10_burntBy_45 : decode cX10_burntBy 45 = .ok (.iload 5, 2) := by decide +kernel
theorem dX10_burntBy_47 : decode cX10_burntBy 47 = .ok (.ishl, 1) := by decide +kernel
theorem dX10_burntBy_48 : decode cX10_burntBy 48 = .ok (.goto 4, 3) := by decide +kernel
theorem dX10_burntBy_51 : decode cX10_burntBy 51 = .ok (.iconst 0, 1) := by decide +kernel
theorem dX10_burntBy_52 : decode cX10_burntBy 52 = .ok (.ior, 1) := by decide +kernel
theorem dX10_burntBy_53 : decode cX10_burntBy 53 = .ok (.istore 4, 2) := by decide +kernel
theorem dX10_burntBy_55 : decode cX10_burntBy 55 = .ok (.iinc 5 1, 3) := by decide +kernel
theorem dX10_burntBy_58 : decode cX10_burntBy 58 = .ok (.goto (-42), 3) := by decide +kernel
theorem dX10_burntBy_61 : decode cX10_burntBy 61 = .ok (.iload 4, 2) := by decide +kernel
theorem dX10_burntBy_63 : decode cX10_burntBy 63 = .ok (.ireturn, 1) := by decide +kernel
theorem dX10_burntBy_64 : decode cX10_burntBy 64 = .ok (.iload_n 1, 1) := by decide +kernel
theorem dX10_burntBy_65 : decode cX10_burntBy 65 = .ok (.iconst 4, 1) := by decide +kernel
theorem dX10_burntBy_66 : decode cX10_burntBy 66 = .ok (.if_icmp .ne 10, 3) := by decide +kernel
theorem dX10_burntBy_69 : decode cX10_burntBy 69 = .ok (.aload_n 0, 1) := by decide +kernel
theorem dX10_burntBy_70 : decode cX10_burntBy 70 = .ok (.invokevirtual 184, 3) := by decide +kernel
theorem dX10_burntBy_73 : decode cX10_burntBy 73 = .ok (.goto 10, 3) := by decide +kernel
theorem dX10_burntBy_76 : decode cX10_burntBy 76 = .ok (.aload_n 0, 1) := by decide +kernel
theorem dX10_burntBy_77 : decode cX10_burntBy 77 = .ok (.iload_n 1, 1) := by decide +kernel
theorem dX10_burntBy_78 : decode cX10_burntBy 78 = .ok (.iload_n 2, 1) := by decide +kernel
theorem dX10_burntBy_79 : decode cX10_burntBy 79 = .ok (.iload_n 3, 1) := by decide +kernel
theorem dX10_burntBy_80 : decode cX10_burntBy 80 = .ok (.invokevirtual 187, 3) := by decide +kernel
theorem dX10_burntBy_83 : decode cX10_burntBy 83 = .ok (.ireturn, 1) := by decide +kernel
def fX10_burntBy_B52 (rc16 : Int → Int → Int → vr_M → Option (Int × vr_M)) (x2 : Int) (x5 : Int) (y0 : Int) (y1 : Int) (μ : vr_M) : Option (Int × vr_M) :=
  vr_gd (vr_R (x5 + 1)) (rc16 x2 (vr_or y0 y1) (x5 + 1) μ)
def fX10_burntBy_L16 : Nat → Int → Int → Int → vr_M → Option (Int × vr_M)
  | 0, _, _, _, _ => none
  | n + 1, x2, x4, x5, μ => vr_gd (vr_R (μ 69 0)) (if (μ 69 0) ≤ x5 then some (x4, μ) else vr_gd (¬ x2 = 0) (vr_gd (vr_R (μ 69 3)) (vr_gd (vr_R (x5.tmod x2)) (vr_gd (vr_R ((μ 69 3).tmod x2)) (if ¬ (x5.tmod x2) = ((μ 69 3).tmod x2) then fX10_burntBy_B52 (fX10_burntBy_L16 n) x2 x5 x4 0 μ else fX10_burntBy_B52 (fX10_burntBy_L16 n) x2 x5 x4 (vr_shl 1 x5) μ)))))
def fX10_burntBy_B83 (y0 : Int) (μ : vr_M) : Option (Int × vr_M) :=
  some (y0, μ)
def fX10_burntBy (a0 : Int) (a1 : Int) (a2 : Int) (μ : vr_M) : Option (Int × vr_M) :=
  (fX10_looksAt a2 μ).bind (fun r7 => if ¬ a0 = 1 then if ¬ a0 = 4 then (fX10_oneByOne a0 a1 a2 r7.2).bind (fun r8 => fX10_burntBy_B83 r8.1 r8.2) else (fX10_bestSet  r7.2).bind (fun r9 => fX10_burntBy_B83 r9.1 r9.2) else fX10_burntBy_L16 9000 a1 0 0 r7.2)
set_option maxRecDepth 100000 in
set_option maxHeartbeats 4000000 in
theorem ct_X10_burntBy (l : Launch) (G : vr_G) (a0 : Int) (h_a0 : vr_R a0) (a1 : Int) (h_a1 : vr_R a1) (a2 : Int) (h_a2 : vr_R a2) (μ : vr_M) : vr_CI l yX10_burntBy cX10_burntBy 6 (some .int) ({ frames := 5, cells := 0, slots := 0, locals := 120 } : Room) G [.ref (vr_ad G 68), .int (vr_I a0), .int (vr_I a1), .int (vr_I a2)] μ (fX10_burntBy a0 a1 a2 μ) := by
  refine vr_start (own := RX10) (by decide) rfl (Nat.le_of_ble_eq_true rfl) (fun p e s m args below meth c C0 => ?_)
  show vr_J p l e _ s m args below meth c 6 0 0 G (vr_Z (vr_QI G) G args s below) 0 [(0, .ref (vr_ad G 68)), (1, .int (vr_I a0)), (2, .int (vr_I a1)), (3, .int (vr_I a2))] [] μ _
  have L16 : ∀ (n : Nat) (x2 : Int) (h_x2 : vr_R x2) (x4 : Int) (h_x4 : vr_R x4) (x5 : Int) (h_x5 : vr_R x5) (μ : vr_M), vr_J p l e ({ frames := 5, cells := 0, slots := 0, locals := 120 } : Room) s m args below meth c 6 0 0 G (vr_Z (vr_QI G) G args s below) 16 [(0, .ref (vr_ad G 68)), (2, .int (vr_I x2)), (4, .int (vr_I x4)), (5, .int (vr_I x5))] [] μ (fX10_burntBy_L16 n x2 x4 x5 μ) := by
    intro n16
    induction n16 with
    | zero => intros; exact jr_none
    | succ n16 ih16 =>
      have B52 : ∀ (x2 : Int) (h_x2 : vr_R x2) (x5 : Int) (h_x5 : vr_R x5) (y0 : Int) (h_y0 : vr_R y0) (y1 : Int) (h_y1 : vr_R y1) (μ : vr_M), vr_J p l e ({ frames := 5, cells := 0, slots := 0, locals := 120 } : Room) s m args below meth c 6 0 0 G (vr_Z (vr_QI G) G args s below) 52 [(0, .ref (vr_ad G 68)), (2, .int (vr_I x2)), (5, .int (vr_I x5))] [.int (vr_I y1), .int (vr_I y0)] μ (fX10_burntBy_B52 (fX10_burntBy_L16 n16) x2 x5 y0 y1 μ) := by
        intro x2 h_x2 x5 h_x5 y0 h_y0 y1 h_y1 μ
        unfold fX10_burntBy_B52
        refine jr_ior C0 dX10_burntBy_52 ?_
        refine jr_istore C0 dX10_burntBy_53 (by decide) (lv' := [(4, .int (vr_I (vr_or y0 y1))), (0, .ref (vr_ad G 68)), (2, .int (vr_I x2)), (5, .int (vr_I x5))]) rfl ?_
        refine jr_iinc C0 (q := 3) dX10_burntBy_55 rfl (by decide) (lv' := [(5, .int (vr_I (x5 + 1))), (4, .int (vr_I (vr_or y0 y1))), (0, .ref (vr_ad G 68)), (2, .int (vr_I x2))]) rfl ?_
        refine jr_goto C0 dX10_burntBy_58 (tgt := 16) (by decide) ?_
        refine jr_gd (fun g1 => ?_)
        refine jr_sub [2, 3, 1, 0] rfl ?_
        exact ih16 x2 h_x2 (vr_or y0 y1) (vr_RT _) (x5 + 1) g1 _
      intro x2 h_x2 x4 h_x4 x5 h_x5 μ
      rw [fX10_burntBy_L16.eq_2]
      refine jr_iload C0 3 dX10_burntBy_16 rfl ?_
      refine jr_aload_n C0 0 dX10_burntBy_18 rfl rfl ?_
      refine jr_getr C0 (by decide) kd_68 (by decide) rfl wx_X10 (i := 1) (by decide) wf_X10_9 (j := 69) rfl dX10_burntBy_19 ?_
      refine jr_iconst C0 dX10_burntBy_22 ?_
      refine jr_iald C0 (by decide) kd_69 kl_69 (by decide) (j := 0) rfl dX10_burntBy_23 ?_
      refine jr_gd (fun g2 => ?_)
      refine jr_icmp_ge C0 h_x5 g2 dX10_burntBy_24 (tgt := 61) (by decide) ?_ ?_
      · refine jr_iload C0 2 dX10_burntBy_61 rfl ?_
        exact jr_iret C0 h_x4 dX10_burntBy_63
      refine jr_iload C0 2 dX10_burntBy_27 rfl ?_
      refine jr_iload C0 3 dX10_burntBy_29 rfl ?_
      refine jr_iload_n C0 1 dX10_burntBy_31 rfl rfl ?_
      refine jr_gd (fun g3 => ?_)
      refine jr_irem C0 h_x5 h_x2 g3 dX10_burntBy_32 ?_
      refine jr_aload_n C0 0 dX10_burntBy_33 rfl rfl ?_
      refine jr_getr C0 (by decide) kd_68 (by decide) rfl wx_X10 (i := 1) (by decide) wf_X10_9 (j := 69) rfl dX10_burntBy_34 ?_
      refine jr_iconst C0 dX10_burntBy_37 ?_
      refine jr_iald C0 (by decide) kd_69 kl_69 (by decide) (j := 3) rfl dX10_burntBy_38 ?_
      refine jr_iload_n C0 1 dX10_burntBy_39 rfl rfl ?_
      refine jr_gd (fun g4 => ?_)
      refine jr_irem C0 g4 h_x2 g3 dX10_burntBy_40 ?_
      refine jr_gd (fun g5 => ?_)
      refine jr_gd (fun g6 => ?_)
      refine jr_icmp_ne C0 g5 g6 dX10_burntBy_41 (tgt := 51) (by decide) ?_ ?_
      · refine jr_iconst C0 dX10_burntBy_51 ?_
        refine jr_sub [0, 1, 3] rfl ?_
        exact B52 x2 h_x2 x5 h_x5 x4 h_x4 0 (⟨by decide, by decide⟩) _
      refine jr_iconst C0 dX10_burntBy_44 ?_
      refine jr_iload C0 3 dX10_burntBy_45 rfl ?_
      refine jr_ishl C0 dX10_burntBy_47 ?_
      refine jr_goto C0 dX10_burntBy_48 (tgt := 52) (by decide) ?_
      refine jr_sub [0, 1, 3] rfl ?_
      exact B52 x2 h_x2 x5 h_x5 x4 h_x4 (vr_shl 1 x5) (vr_RT _) _
  have B83 : ∀ (y0 : Int) (h_y0 : vr_R y0) (μ : vr_M), vr_J p l e ({ frames := 5, cells := 0, slots := 0, locals := 120 } : Room) s m args below meth c 6 0 0 G (vr_Z (vr_QI G) G args s below) 83 [] [.int (vr_I y0)] μ (fX10_burntBy_B83 y0 μ) := by
    intro y0 h_y0 μ
    unfold fX10_burntBy_B83
    exact jr_iret C0 h_y0 dX10_burntBy_83
  unfold fX10_burntBy
  refine jr_aload_n C0 0 dX10_burntBy_0 rfl rfl ?_
  refine jr_iload_n C0 3 dX10_burntBy_1 rfl rfl ?_
  refine jr_vV0 C0 (by decide) kd_68 (by decide) rfl (ct_X10_looksAt l G a2 h_a2 _) mi_X10_looksAt wm_X10_181 ⟨Nat.le_of_ble_eq_true rfl, Nat.le_of_ble_eq_true rfl⟩ ⟨rfl, rfl⟩ (As := [.int (vr_I a2)]) rfl (st := []) rfl (Nat.le_of_ble_eq_true rfl) dX10_burntBy_2 (fun r7 => ?_)
  refine jr_iload_n C0 1 dX10_burntBy_5 rfl rfl ?_
  refine jr_iconst C0 dX10_burntBy_6 ?_
  refine jr_icmp_ne C0 h_a0 (⟨by decide, by decide⟩) dX10_burntBy_7 (tgt := 64) (by decide) ?_ ?_
  · refine jr_iload_n C0 1 dX10_burntBy_64 rfl rfl ?_
    refine jr_iconst C0 dX10_burntBy_65 ?_
    refine jr_icmp_ne C0 h_a0 (⟨by decide, by decide⟩) dX10_burntBy_66 (tgt := 76) (by decide) ?_ ?_
    · refine jr_aload_n C0 0 dX10_burntBy_76 rfl rfl ?_
      refine jr_iload_n C0 1 dX10_burntBy_77 rfl rfl ?_
      refine jr_iload_n C0 2 dX10_burntBy_78 rfl rfl ?_
      refine jr_iload_n C0 3 dX10_burntBy_79 rfl rfl ?_
      refine jr_vI C0 (by decide) kd_68 (by decide) rfl (ct_X10_oneByOne l G a0 h_a0 a1 h_a1 a2 h_a2 _) mi_X10_oneByOne wm_X10_187 ⟨Nat.le_of_ble_eq_true rfl, Nat.le_of_ble_eq_true rfl⟩ ⟨rfl, rfl⟩ (As := [.int (vr_I a0), .int (vr_I a1), .int (vr_I a2)]) rfl (st := []) rfl (Nat.le_of_ble_eq_true rfl) dX10_burntBy_80 (fun r8 hr8 => ?_)
      refine jr_sub [] rfl ?_
      exact B83 r8.1 hr8 _
    refine jr_aload_n C0 0 dX10_burntBy_69 rfl rfl ?_
    refine jr_vI C0 (by decide) kd_68 (by decide) rfl (ct_X10_bestSet l G  _) mi_X10_bestSet wm_X10_184 ⟨Nat.le_of_ble_eq_true rfl, Nat.le_of_ble_eq_true rfl⟩ ⟨rfl, rfl⟩ (As := []) rfl (st := []) rfl (Nat.le_of_ble_eq_true rfl) dX10_burntBy_70 (fun r9 hr9 => ?_)
    refine jr_goto C0 dX10_burntBy_73 (tgt := 83) (by decide) ?_
    refine jr_sub [] rfl ?_
    exact B83 r9.1 hr9 _
  refine jr_iconst C0 dX10_burntBy_10 ?_
  refine jr_istore C0 dX10_burntBy_11 (by decide) (lv' := [(4, .int (vr_I 0)), (0, .ref (vr_ad G 68)), (1, .int (vr_I a0)), (2, .int (vr_I a1)), (3, .int (vr_I a2))]) rfl ?_
  refine jr_iconst C0 dX10_burntBy_13 ?_
  refine jr_istore C0 dX10_burntBy_14 (by decide) (lv' := [(5, .int (vr_I 0)), (4, .int (vr_I 0)), (0, .ref (vr_ad G 68)), (1, .int (vr_I a0)), (2, .int (vr_I a1)), (3, .int (vr_I a2))]) rfl ?_
  refine jr_sub [2, 4, 1, 0] rfl ?_
  exact L16 9000 a1 h_a1 0 (⟨by decide, by decide⟩) 0 (⟨by decide, by decide⟩) _
theorem dX10_burns_0 : decode cX10_burns 0 = .ok (.aload_n 0, 1) := by decide +kernel
theorem dX10_burns_1 : decode cX10_burns 1 = .ok (.iload_n 1, 1) := by decide +kernel
theorem dX10_burns_2 : decode cX10_burns 2 = .ok (.invokevirtual 190, 3) := by decide +kernel
theorem dX10_burns_5 : decode cX10_burns 5 = .ok (.ifCond .eq 37, 3) := by decide +kernel
theorem dX10_burns_8 : decode cX10_burns 8 = .ok (.aload_n 0, 1) := by decide +kernel
theorem dX10_burns_9 : decode cX10_burns 9 = .ok (.aload_n 0, 1) := by decide +kernel
theorem dX10_burns_10 : decode cX10_burns 10 = .ok (.getfield 9, 3) := by decide +kernel
theorem dX10_burns_13 : decode cX10_burns 13 = .ok (.sipush 170, 3) := by decide +kernel
theorem dX10_burns_16 : decode cX10_burns 16 = .ok (.iload_n 1, 1) := by decide +kernel
theorem dX10_burns_17 : decode cX10_burns 17 = .ok (.iadd, 1) := by decide +kernel
theorem dX10_burns_18 : decode cX10_burns 18 = .ok (.iaload, 1) := by decide +kernel
theorem dX10_burns_19 : decode cX10_burns 19 = .ok (.aload_n 0, 1) := by decide +kernel
theorem dX10_burns_20 : decode cX10_burns 20 = .ok (.getfield 9, 3) := by decide +kernel
theorem dX10_burns_23 : decode cX10_burns 23 = .ok (.sipush 178, 3) := by decide +kernel
theorem dX10_burns_26 : decode cX10_burns 26 = .ok (.iload_n 1, 1) := by decide +kernel
theorem dX10_burns_27 : decode cX10_burns 27 = .ok (.iadd, 1) := by decide +kernel
theorem dX10_burns_28 : decode cX10_burns 28 = .ok (.iaload, 1) := by decide +kernel
theorem dX10_burns_29 : decode cX10_burns 29 = .ok (.aload_n 0, 1) := by decide +kernel
theorem dX10_burns_30 : decode cX10_burns 30 = .ok (.getfield 9, 3) := by decide +kernel
theorem dX10_burns_33 : decode cX10_burns 33 = .ok (.bipush 7, 2) := by decide +kernel
theorem dX10_burns_35 : decode cX10_burns 35 = .ok (.iaload, 1) := by decide +kernel
theorem dX10_burns_36 : decode cX10_burns 36 = .ok (.invokevirtual 193, 3) := by decide +kernel
theorem dX10_burns_39 : decode cX10_burns 39 = .ok (.goto 4, 3) := by decide +kernel
theorem dX10_burns_42 : decode cX10_burns 42 = .ok (.iconst (-1), 1) := by decide +kernel
theorem dX10_burns_43 : decode cX10_burns 43 = .ok (.ireturn, 1) := by decide +kernel
def fX10_burns_B43 (y0 : Int) (μ : vr_M) : Option (Int × vr_M) :=
  some (y0, μ)
def fX10_burns (a0 : Int) (μ : vr_M) : Option (Int × vr_M) :=
  (fX10_isRule a0 μ).bind (fun r1 => if r1.1 = 0 then fX10_burns_B43 (-1) r1.2 else vr_gd (0 ≤ (170 + a0) ∧ (170 + a0) < 933) (vr_gd (0 ≤ (178 + a0) ∧ (178 + a0) < 933) (vr_gd (vr_R (r1.2 69 (170 + a0).toNat)) (vr_gd (vr_R (r1.2 69 (178 + a0).toNat)) (vr_gd (vr_R (r1.2 69 7)) ((fX10_burntBy (r1.2 69 (170 + a0).toNat) (r1.2 69 (178 + a0).toNat) (r1.2 69 7) r1.2).bind (fun r7 => fX10_burns_B43 r7.1 r7.2)))))))
set_option maxRecDepth 100000 in
set_option maxHeartbeats 4000000 in
theorem ct_X10_burns (l : Launch) (G : vr_G) (a0 : Int) (h_a0 : vr_R a0) (μ : vr_M) : vr_CI l yX10_burns cX10_burns 2 (some .int) ({ frames := 6, cells := 0, slots := 0, locals := 145 } : Room) G [.ref (vr_ad G 68), .int (vr_I a0)] μ (fX10_burns a0 μ) := by
  refine vr_start (own := RX10) (by decide) rfl (Nat.le_of_ble_eq_true rfl) (fun p e s m args below meth c C0 => ?_)
  show vr_J p l e _ s m args below meth c 2 0 0 G (vr_Z (vr_QI G) G args s below) 0 [(0, .ref (vr_ad G 68)), (1, .int (vr_I a0))] [] μ _
  have B43 : ∀ (y0 : Int) (h_y0 : vr_R y0) (μ : vr_M), vr_J p l e ({ frames := 6, cells := 0, slots := 0, locals := 145 } : Room) s m args below meth c 2 0 0 G (vr_Z (vr_QI G) G args s below) 43 [] [.int (vr_I y0)] μ (fX10_burns_B43 y0 μ) := by
    intro y0 h_y0 μ
    unfold fX10_burns_B43
    exact jr_iret C0 h_y0 dX10_burns_43
  unfold fX10_burns
  refine jr_aload_n C0 0 dX10_burns_0 rfl rfl ?_
  refine jr_iload_n C0 1 dX10_burns_1 rfl rfl ?_
  refine jr_vI C0 (by decide) kd_68 (by decide) rfl (ct_X10_isRule l G a0 h_a0 _) mi_X10_isRule wm_X10_190 ⟨Nat.le_of_ble_eq_true rfl, Nat.le_of_ble_eq_true rfl⟩ ⟨rfl, rfl⟩ (As := [.int (vr_I a0)]) rfl (st := []) rfl (Nat.le_of_ble_eq_true rfl) dX10_burns_2 (fun r1 hr1 => ?_)
  refine jr_if_eq C0 hr1 dX10_burns_5 (tgt := 42) (by decide) ?_ ?_
  · refine jr_iconst C0 dX10_burns_42 ?_
    refine jr_sub [] rfl ?_
    exact B43 (-1) (⟨by decide, by decide⟩) _
  refine jr_aload_n C0 0 dX10_burns_8 rfl rfl ?_
  refine jr_aload_n C0 0 dX10_burns_9 rfl rfl ?_
  refine jr_getr C0 (by decide) kd_68 (by decide) rfl wx_X10 (i := 1) (by decide) wf_X10_9 (j := 69) rfl dX10_burns_10 ?_
  refine jr_sipush C0 dX10_burns_13 rfl ?_
  refine jr_iload_n C0 1 dX10_burns_16 rfl rfl ?_
  refine jr_iadd C0 dX10_burns_17 ?_
  refine jr_gd (fun g2 => ?_)
  refine jr_iald C0 (by decide) kd_69 kl_69 g2 (j := (170 + a0).toNat) rfl dX10_burns_18 ?_
  refine jr_aload_n C0 0 dX10_burns_19 rfl rfl ?_
  refine jr_getr C0 (by decide) kd_68 (by decide) rfl wx_X10 (i := 1) (by decide) wf_X10_9 (j := 69) rfl dX10_burns_20 ?_
  refine jr_sipush C0 dX10_burns_23 rfl ?_
  refine jr_iload_n C0 1 dX10_burns_26 rfl rfl ?_
  refine jr_iadd C0 dX10_burns_27 ?_
  refine jr_gd (fun g3 => ?_)
  refine jr_iald C0 (by decide) kd_69 kl_69 g3 (j := (178 + a0).toNat) rfl dX10_burns_28 ?_
  refine jr_aload_n C0 0 dX10_burns_29 rfl rfl ?_
  refine jr_getr C0 (by decide) kd_68 (by decide) rfl wx_X10 (i := 1) (by decide) wf_X10_9 (j := 69) rfl dX10_burns_30 ?_
  refine jr_bipush C0 dX10_burns_33 rfl ?_
  refine jr_iald C0 (by decide) kd_69 kl_69 (by decide) (j := 7) rfl dX10_burns_35 ?_
  refine jr_gd (fun g4 => ?_)
  refine jr_gd (fun g5 => ?_)
  refine jr_gd (fun g6 => ?_)
  refine jr_vI C0 (by decide) kd_68 (by decide) rfl (ct_X10_burntBy l G (r1.2 69 (170 + a0).toNat) g4 (r1.2 69 (178 + a0).toNat) g5 (r1.2 69 7) g6 _) mi_X10_burntBy wm_X10_193 ⟨Nat.le_of_ble_eq_true rfl, Nat.le_of_ble_eq_true rfl⟩ ⟨rfl, rfl⟩ (As := [.int (vr_I (r1.2 69 (170 + a0).toNat)), .int (vr_I (r1.2 69 (178 + a0).toNat)), .int (vr_I (r1.2 69 7))]) rfl (st := []) rfl (Nat.le_of_ble_eq_true rfl) dX10_burns_36 (fun r7 hr7 => ?_)
  refine jr_goto C0 dX10_burns_39 (tgt := 43) (by decide) ?_
  refine jr_sub [] rfl ?_
  exact B43 r7.1 hr7 _
theorem dX10_harvestAt_0 : decode cX10_harvestAt 0 = .ok (.aload_n 0, 1) := by decide +kernel
theorem dX10_harvestAt_1 : decode cX10_harvestAt 1 = .ok (.iload_n 1, 1) := by decide +kernel
theorem dX10_harvestAt_2 : decode cX10_harvestAt 2 = .ok (.iload_n 2, 1) := by decide +kernel
theorem dX10_harvestAt_3 : decode cX10_harvestAt 3 = .ok (.iload_n 3, 1) := by decide +kernel
theorem dX10_harvestAt_4 : decode cX10_harvestAt 4 = .ok (.invokevirtual 193, 3) := by decide +kernel
theorem dX10_harvestAt_7 : decode cX10_harvestAt 7 = .ok (.istore 4, 2) := by decide +kernel
theorem dX10_harvestAt_9 : decode cX10_harvestAt 9 = .ok (.aload_n 0, 1) := by decide +kernel
theorem dX10_harvestAt_10 : decode cX10_harvestAt 10 = .ok (.iload 4, 2) := by decide +kernel
theorem dX10_harvestAt_12 : decode cX10_harvestAt 12 = .ok (.iload_n 3, 1) := by decide +kernel
theorem dX10_harvestAt_13 : decode cX10_harvestAt 13 = .ok (.invokevirtual 161, 3) := by decide +kernel
theorem dX10_harvestAt_16 : decode cX10_harvestAt 16 = .ok (.iload_n 3, 1) := by decide +kernel
theorem dX10_harvestAt_17 : decode cX10_harvestAt 17 = .ok (.aload_n 0, 1) := by decide +kernel
theorem dX10_harvestAt_18 : decode cX10_harvestAt 18 = .ok (.getfield 9, 3) := by decide +kernel
theorem dX10_harvestAt_21 : decode cX10_harvestAt 21 = .ok (.bipush 7, 2) := by decide +kernel
theorem dX10_harvestAt_23 : decode cX10_harvestAt 23 = .ok (.iaload, 1) := by decide +kernel
theorem dX10_harvestAt_24 : decode cX10_harvestAt 24 = .ok (.if_icmp .ne 7, 3) := by decide +kernel
theorem dX10_harvestAt_27 : decode cX10_harvestAt 27 = .ok (.iconst 0, 1) := by decide +kernel
theorem dX10_harvestAt_28 : decode cX10_harvestAt 28 = .ok (.goto 11, 3) := by decide +kernel
theorem dX10_harvestAt_31 : decode cX10_harvestAt 31 = .ok (.aload_n 0, 1) := by decide +kernel
theorem dX10_harvestAt_32 : decode cX10_harvestAt 32 = .ok (.sipush 213, 3) := by decide +kernel
theorem dX10_harvestAt_35 : decode cX10_harvestAt 35 = .ok (.iconst 0, 1) := by decide +kernel
theorem dX10_harvestAt_36 : decode cX10_harvestAt 36 = .ok (.invokevirtual 139, 3) := by decide +kernel
theorem dX10_harvestAt_39 : decode cX10_harvestAt 39 = .ok (.isub, 1) := by decide +kernel
theorem dX10_harvestAt_40 : decode cX10_harvestAt 40 = .ok (.ireturn, 1) := by decide +kernel
def fX10_harvestAt_B39 (y0 : Int) (y1 : Int) (μ : vr_M) : Option (Int × vr_M) :=
  vr_gd (vr_R (y0 - y1)) (some (y0 - y1, μ))
def fX10_harvestAt (a0 : Int) (a1 : Int) (a2 : Int) (μ : vr_M) : Option (Int × vr_M) :=
  (fX10_burntBy a0 a1 a2 μ).bind (fun r2 => (fX10_sumOf r2.1 a2 r2.2).bind (fun r3 => vr_gd (vr_R (r3.2 69 7)) (if ¬ a2 = (r3.2 69 7) then (fX10_tellsOf 213 0 r3.2).bind (fun r5 => fX10_harvestAt_B39 r3.1 r5.1 r5.2) else fX10_harvestAt_B39 r3.1 0 r3.2)))
set_option maxRecDepth 100000 in
set_option maxHeartbeats 4000000 in
theorem ct_X10_harvestAt (l : Launch) (G : vr_G) (a0 : Int) (h_a0 : vr_R a0) (a1 : Int) (h_a1 : vr_R a1) (a2 : Int) (h_a2 : vr_R a2) (μ : vr_M) : vr_CI l yX10_harvestAt cX10_harvestAt 5 (some .int) ({ frames := 6, cells := 0, slots := 0, locals := 145 } : Room) G [.ref (vr_ad G 68), .int (vr_I a0), .int (vr_I a1), .int (vr_I a2)] μ (fX10_harvestAt a0 a1 a2 μ) := by
  refine vr_start (own := RX10) (by decide) rfl (Nat.le_of_ble_eq_true rfl) (fun p e s m args below meth c C0 => ?_)
  show vr_J p l e _ s m args below meth c 5 0 0 G (vr_Z (vr_QI G) G args s below) 0 [(0, .ref (vr_ad G 68)), (1, .int (vr_I a0)), (2, .int (vr_I a1)), (3, .int (vr_I a2))] [] μ _
  have B39 : ∀ (y0 : Int) (h_y0 : vr_R y0) (y1 : Int) (h_y1 : vr_R y1) (μ : vr_M), vr_J p l e ({ frames := 6, cells := 0, slots := 0, locals := 145 } : Room) s m args below meth c 5 0 0 G (vr_Z (vr_QI G) G args s below) 39 [] [.int (vr_I y1), .int (vr_I y0)] μ (fX10_harvestAt_B39 y0 y1 μ) := by
    intro y0 h_y0 y1 h_y1 μ
    unfold fX10_harvestAt_B39
    refine jr_isub C0 dX10_harvestAt_39 ?_
    refine jr_gd (fun g1 => ?_)
    exact jr_iret C0 g1 dX10_harvestAt_40
  unfold fX10_harvestAt
  refine jr_aload_n C0 0 dX10_harvestAt_0 rfl rfl ?_
  refine jr_iload_n C0 1 dX10_harvestAt_1 rfl rfl ?_
  refine jr_iload_n C0 2 dX10_harvestAt_2 rfl rfl ?_
  refine jr_iload_n C0 3 dX10_harvestAt_3 rfl rfl ?_
  refine jr_vI C0 (by decide) kd_68 (by decide) rfl (ct_X10_burntBy l G a0 h_a0 a1 h_a1 a2 h_a2 _) mi_X10_burntBy wm_X10_193 ⟨Nat.le_of_ble_eq_true rfl, Nat.le_of_ble_eq_true rfl⟩ ⟨rfl, rfl⟩ (As := [.int (vr_I a0), .int (vr_I a1), .int (vr_I a2)]) rfl (st := []) rfl (Nat.le_of_ble_eq_true rfl) dX10_harvestAt_4 (fun r2 hr2 => ?_)
  refine jr_istore C0 dX10_harvestAt_7 (by decide) (lv' := [(4, .int (vr_I r2.1)), (0, .ref (vr_ad G 68)), (1, .int (vr_I a0)), (2, .int (vr_I a1)), (3, .int (vr_I a2))]) rfl ?_
  refine jr_aload_n C0 1 dX10_harvestAt_9 rfl rfl ?_
  refine jr_iload C0 0 dX10_harvestAt_10 rfl ?_
  refine jr_iload_n C0 4 dX10_harvestAt_12 rfl rfl ?_
  refine jr_vI C0 (by decide) kd_68 (by decide) rfl (ct_X10_sumOf l G r2.1 hr2 a2 h_a2 _) mi_X10_sumOf wm_X10_161 ⟨Nat.le_of_ble_eq_true rfl, Nat.le_of_ble_eq_true rfl⟩ ⟨rfl, rfl⟩ (As := [.int (vr_I r2.1), .int (vr_I a2)]) rfl (st := []) rfl (Nat.le_of_ble_eq_true rfl) dX10_harvestAt_13 (fun r3 hr3 => ?_)
  refine jr_iload_n C0 4 dX10_harvestAt_16 rfl rfl ?_
  refine jr_aload_n C0 1 dX10_harvestAt_17 rfl rfl ?_
  refine jr_getr C0 (by decide) kd_68 (by decide) rfl wx_X10 (i := 1) (by decide) wf_X10_9 (j := 69) rfl dX10_harvestAt_18 ?_
  refine jr_bipush C0 dX10_harvestAt_21 rfl ?_
  refine jr_iald C0 (by decide) kd_69 kl_69 (by decide) (j := 7) rfl dX10_harvestAt_23 ?_
  refine jr_gd (fun g4 => ?_)
  refine jr_icmp_ne C0 h_a2 g4 dX10_harvestAt_24 (tgt := 31) (by decide) ?_ ?_
  · refine jr_aload_n C0 1 dX10_harvestAt_31 rfl rfl ?_
    refine jr_sipush C0 dX10_harvestAt_32 rfl ?_
    refine jr_iconst C0 dX10_harvestAt_35 ?_
    refine jr_vI C0 (by decide) kd_68 (by decide) rfl (ct_X10_tellsOf l G 213 (⟨by decide, by decide⟩) 0 (⟨by decide, by decide⟩) _) mi_X10_tellsOf wm_X10_139 ⟨Nat.le_of_ble_eq_true rfl, Nat.le_of_ble_eq_true rfl⟩ ⟨rfl, rfl⟩ (As := [.int (vr_I 213), .int (vr_I 0)]) rfl (st := [.int (vr_I r3.1)]) rfl (Nat.le_of_ble_eq_true rfl) dX10_harvestAt_36 (fun r5 hr5 => ?_)
    refine jr_sub [] rfl ?_
    exact B39 r3.1 hr3 r5.1 hr5 _
  refine jr_iconst C0 dX10_harvestAt_27 ?_
  refine jr_goto C0 dX10_harvestAt_28 (tgt := 39) (by decide) ?_
  refine jr_sub [] rfl ?_
  exact B39 r3.1 hr3 0 (⟨by decide, by decide⟩) _
theorem dX10_movesTo_0 : decode cX10_movesTo 0 = .ok (.aload_n 0, 1) := by decide +kernel
theorem dX10_movesTo_1 : decode cX10_movesTo 1 = .ok (.iload_n 1, 1) := by decide +kernel
theorem dX10_movesTo_2 : decode cX10_movesTo 2 = .ok (.iload_n 2, 1) := by decide +kernel
theorem dX10_movesTo_3 : decode cX10_movesTo 3 = .ok (.aload_n 0, 1) := by decide +kernel
theorem dX10_movesTo_4 : decode cX10_movesTo 4 = .ok (.getfield 9, 3) := by decide +kernel
theorem dX10_movesTo_7 : decode cX10_movesTo 7 = .ok (.bipush 7, 2) := by decide +kernel
theorem dX10_movesTo_9 : decode cX10_movesTo 9 = .ok (.iaload, 1) := by decide +kernel
theorem dX10_movesTo_10 : decode cX10_movesTo 10 = .ok (.invokevirtual 196, 3) := by decide +kernel
theorem dX10_movesTo_13 : decode cX10_movesTo 13 = .ok (.istore_n 3, 1) := by decide +kernel
theorem dX10_movesTo_14 : decode cX10_movesTo 14 = .ok (.aload_n 0, 1) := by decide +kernel
theorem dX10_movesTo_15 : decode cX10_movesTo 15 = .ok (.getfield 9, 3) := by decide +kernel
theorem dX10_movesTo_18 : decode cX10_movesTo 18 = .ok (.bipush 7, 2) := by decide +kernel
theorem dX10_movesTo_20 : decode cX10_movesTo 20 = .ok (.iaload, 1) := by decide +kernel
theorem dX10_movesTo_21 : decode cX10_movesTo 21 = .ok (.istore 4, 2) := by decide +kernel
theorem dX10_movesTo_23 : decode cX10_movesTo 23 = .ok (.iload_n 3, 1) := by decide +kernel
theorem dX10_movesTo_24 : decode cX10_movesTo 24 = .ok (.istore 5, 2) := by decide +kernel
theorem dX10_movesTo_26 : decode cX10_movesTo 26 = .ok (.iconst 0, 1) := by decide +kernel
theorem dX10_movesTo_27 : decode cX10_movesTo 27 = .ok (.istore 6, 2) := by decide +kernel
theorem dX10_movesTo_29 : decode cX10_movesTo 29 = .ok (.iload 6, 2) := by decide +kernel
theorem dX10_movesTo_31 : decode cX10_movesTo 31 = .ok (.aload_n 0, 1) := by decide +kernel
theorem dX10_movesTo_32 : decode cX10_movesTo 32 = .ok (.getfield 9, 3) := by decide +kernel
theorem dX10_movesTo_35 : decode cX10_movesTo 35 = .ok (.iconst 0, 1) := by decide +kernel
theorem dX10_movesTo_36 : decode cX10_movesTo 36 = .ok (.iaload, 1) := by decide +kernel
theorem dX10_movesTo_37 : decode cX10_movesTo 37 = .ok (.if_icmp .ge 80, 3) := by decide +kernel
theorem dX10_movesTo_40 : decode cX10_movesTo 40 = .ok (.iload_n 3, 1) := by decide +kernel
theorem dX10_movesTo_41 : decode cX10_movesTo 41 = .ok (.aload_n 0, 1) := by decide +kernel
theorem dX10_movesTo_42 : decode cX10_movesTo 42 = .ok (.getfield 9, 3) := by decide +kernel
theorem dX10_movesTo_45 : decode cX10_movesTo 45 = .ok (.bipush 8, 2) := by decide +kernel
theorem dX10_movesTo_47 : decode cX10_movesTo 47 = .ok (.iaload, 1) := by decide +kernel
theorem dX10_movesTo_48 : decode cX10_movesTo 48 = .ok (.if_icmp .ge 69, 3) := by decide +kernel
theorem dX10_movesTo_51 : decode cX10_movesTo 51 = .ok (.aload_n 0, 1) := by decide +kernel
theorem dX10_movesTo_52 : decode cX10_movesTo 52 = .ok (.iload_n 1, 1) := by decide +kernel
theorem dX10_movesTo_53 : decode cX10_movesTo 53 = .ok (.iload_n 2, 1) := by decide +kernel
theorem dX10_movesTo_54 : decode cX10_movesTo 54 = .ok (.aload_n 0, 1) := by decide +kernel
theorem dX10_movesTo_55 : decode cX10_movesTo 55 = .ok (.getfield 9, 3) := by decide +kernel
theorem dX10_movesTo_58 : decode cX10_movesTo 58 = .ok (.sipush 138, 3) := by decide +kernel
theorem dX10_movesTo_61 : decode cX10_movesTo 61 = .ok (.iload 6, 2) := by decide +kernel
theorem dX10_movesTo_63 : decode cX10_movesTo 63 = .ok (.iadd, 1) := by decide +kernel
theorem dX10_movesTo_64 : decode cX10_movesTo 64 = .ok (.iaload, 1) := by decide +kernel
theorem dX10_movesTo_65 : decode cX10_movesTo 65 = .ok (.invokevirtual 196, 3) := by decide +kernel
theorem dX10_movesTo_68 : decode cX10_movesTo 68 = .ok (.istore 7, 2) := by decide +kernel
theorem dX10_movesTo_70 : decode cX10_movesTo 70 = .ok (.iload 7, 2) := by decide +kernel
theorem dX10_movesTo_72 : decode cX10_movesTo 72 = .ok (.iload 5, 2) := by decide +kernel
theorem dX10_movesTo_74 : decode cX10_movesTo 74 = .ok (.if_icmp .le 17, 3) := by decide +kernel
theorem dX10_movesTo_77 : decode cX10_movesTo 77 = .ok (.aload_n 0, 1) := by decide +kernel
theorem dX10_movesTo_78 : decode cX10_movesTo 78 = .ok (.getfield 9, 3) := by decide +kernel
theorem dX10_movesTo_81 : decode cX10_movesTo 81 = .ok (.sipush 138, 3) := by decide +kernel
theorem dX10_movesTo_84 : decode cX10_movesTo 84 = .ok (.iload 6, 2) := by decide +kernel
theorem dX10_movesTo_86 : decode cX10_movesTo 86 = .ok (.iadd, 1) := by decide +kernel
theorem dX10_movesTo_87 : decode cX10_movesTo 87 = .ok (.iaload, 1) := by decide +kernel
theorem dX10_movesTo_88 : decode cX10_movesTo 88 = .ok (.goto 5, 3) := by decide +kernel
theorem dX10_movesTo_91 : decode cX10_movesTo 91 = .ok (.iload 4, 2) := by decide +kernel
theorem dX10_movesTo_93 : decode cX10_movesTo 93 = .ok (.istore 4, 2) := by decide +kernel
theorem dX10_movesTo_95 : decode cX10_movesTo 95 = .ok (.iload 7, 2) := by decide +kernel
theorem dX10_movesTo_97 : decode cX10_movesTo 97 = .ok (.iload 5, 2) := by decide +kernel
theorem dX10_movesTo_99 : decode cX10_movesTo 99 = .ok (.if_icmp .le 8, 3) := by decide +kernel
theorem dX10_movesTo_102 : decode cX10_movesTo 102 = .ok (.iload 7, 2) := by decide +kernel
theorem dX10_movesTo_104 : decode cX10_movesTo 104 = .ok (.goto 5, 3) := by decide +kernel
theorem dX10_movesTo_107 : decode cX10_movesTo 107 = .ok (.iload 5, 2) := by decide +kernel
theorem dX10_movesTo_109 : decode cX10_movesTo 109 = .ok (.istore 5, 2) := by decide +kernel
theorem dX10_movesTo_111 : decode cX10_movesTo 111 = .ok (.iinc 6 1, 3) := by decide +kernel
theorem dX10_movesTo_114 : decode cX10_movesTo 114 = .ok (.goto (-85), 3) := by decide +kernel
theorem dX10_movesTo_117 : decode cX10_movesTo 117 = .ok (.iload 4, 2) := by decide +kernel
theorem dX10_movesTo_119 : decode cX10_movesTo 119 = .ok (.ireturn, 1) := by decide +kernel
def fX10_movesTo_B117 (x4 : Int) (μ : vr_M) : Option (Int × vr_M) :=
  some (x4, μ)
def fX10_movesTo_B109 (rc29 : Int → Int → Int → Int → Int → Int → vr_M → Option (Int × vr_M)) (x1 : Int) (x2 : Int) (x3 : Int) (x4 : Int) (x6 : Int) (y0 : Int) (μ : vr_M) : Option (Int × vr_M) :=
  vr_gd (vr_R (x6 + 1)) (rc29 x1 x2 x3 x4 y0 (x6 + 1) μ)
def fX10_movesTo_B93 (rc29 : Int → Int → Int → Int → Int → Int → vr_M → Option (Int × vr_M)) (x1 : Int) (x2 : Int) (x3 : Int) (x5 : Int) (x6 : Int) (x7 : Int) (y0 : Int) (μ : vr_M) : Option (Int × vr_M) :=
  if x7 ≤ x5 then fX10_movesTo_B109 rc29 x1 x2 x3 y0 x6 x5 μ else fX10_movesTo_B109 rc29 x1 x2 x3 y0 x6 x7 μ
def fX10_movesTo_L29 : Nat → Int → Int → Int → Int → Int → Int → vr_M → Option (Int × vr_M)
  | 0, _, _, _, _, _, _, _ => none
  | n + 1, x1, x2, x3, x4, x5, x6, μ => vr_gd (vr_R (μ 69 0)) (if (μ 69 0) ≤ x6 then fX10_movesTo_B117 x4 μ else vr_gd (vr_R (μ 69 8)) (if (μ 69 8) ≤ x3 then fX10_movesTo_B117 x4 μ else vr_gd (0 ≤ (138 + x6) ∧ (138 + x6) < 933) (vr_gd (vr_R (μ 69 (138 + x6).toNat)) ((fX10_harvestAt x1 x2 (μ 69 (138 + x6).toNat) μ).bind (fun r6 => if r6.1 ≤ x5 then fX10_movesTo_B93 (fX10_movesTo_L29 n) x1 x2 x3 x5 x6 r6.1 x4 r6.2 else vr_gd (vr_R (r6.2 69 (138 + x6).toNat)) (fX10_movesTo_B93 (fX10_movesTo_L29 n) x1 x2 x3 x5 x6 r6.1 (r6.2 69 (138 + x6).toNat) r6.2))))))
def fX10_movesTo (a0 : Int) (a1 : Int) (μ : vr_M) : Option (Int × vr_M) :=
  vr_gd (vr_R (μ 69 7)) ((fX10_harvestAt a0 a1 (μ 69 7) μ).bind (fun r9 => vr_gd (vr_R (r9.2 69 7)) (fX10_movesTo_L29 9000 a0 a1 r9.1 (r9.2 69 7) r9.1 0 r9.2)))
set_option maxRecDepth 100000 in
set_option maxHeartbeats 4000000 in
theorem ct_X10_movesTo (l : Launch) (G : vr_G) (a0 : Int) (h_a0 : vr_R a0) (a1 : Int) (h_a1 : vr_R a1) (μ : vr_M) : vr_CI l yX10_movesTo cX10_movesTo 8 (some .int) ({ frames := 7, cells := 0, slots := 0, locals := 169 } : Room) G [.ref (vr_ad G 68), .int (vr_I a0), .int (vr_I a1)] μ (fX10_movesTo a0 a1 μ) := by
  refine vr_start (own := RX10) (by decide) rfl (Nat.le_of_ble_eq_true rfl) (fun p e s m args below meth c C0 => ?_)
  show vr_J p l e _ s m args below meth c 8 0 0 G (vr_Z (vr_QI G) G args s below) 0 [(0, .ref (vr_ad G 68)), (1, .int (vr_I a0)), (2, .int (vr_I a1))] [] μ _
  have B117 : ∀ (x4 : Int) (h_x4 : vr_R x4) (μ : vr_M), vr_J p l e ({ frames := 7, cells := 0, slots := 0, locals := 169 } : Room) s m args below meth c 8 0 0 G (vr_Z (vr_QI G) G args s below) 117 [(4, .int (vr_I x4))] [] μ (fX10_movesTo_B117 x4 μ) := by
    intro x4 h_x4 μ
    unfold fX10_movesTo_B117
    refine jr_iload C0 0 dX10_movesTo_117 rfl ?_
    exact jr_iret C0 h_x4 dX10_movesTo_119
  have L29 : ∀ (n : Nat) (x1 : Int) (h_x1 : vr_R x1) (x2 : Int) (h_x2 : vr_R x2) (x3 : Int) (h_x3 : vr_R x3) (x4 : Int) (h_x4 : vr_R x4) (x5 : Int) (h_x5 : vr_R x5) (x6 : Int) (h_x6 : vr_R x6) (μ : vr_M), vr_J p l e ({ frames := 7, cells := 0, slots := 0, locals := 169 } : Room) s m args below meth c 8 0 0 G (vr_Z (vr_QI G) G args s below) 29 [(0, .ref (vr_ad G 68)), (1, .int (vr_I x1)), (2, .int (vr_I x2)), (3, .int (vr_I x3)), (4, .int (vr_I x4)), (5, .int (vr_I x5)), (6, .int (vr_I x6))] [] μ (fX10_movesTo_L29 n x1 x2 x3 x4 x5 x6 μ) := by
    intro n29
    induction n29 with
    | zero => intros; exact jr_none
    | succ n29 ih29 =>
      have B109 : ∀ (x1 : Int) (h_x1 : vr_R x1) (x2 : Int) (h_x2 : vr_R x2) (x3 : Int) (h_x3 : vr_R x3) (x4 : Int) (h_x4 : vr_R x4) (x6 : Int) (h_x6 : vr_R x6) (y0 : Int) (h_y0 : vr_R y0) (μ : vr_M), vr_J p l e ({ frames := 7, cells := 0, slots := 0, locals := 169 } : Room) s m args below meth c 8 0 0 G (vr_Z (vr_QI G) G args s below) 109 [(0, .ref (vr_ad G 68)), (1, .int (vr_I x1)), (2, .int (vr_I x2)), (3, .int (vr_I x3)), (4, .int (vr_I x4)), (6, .int (vr_I x6))] [.int (vr_I y0)] μ (fX10_movesTo_B109 (fX10_movesTo_L29 n29) x1 x2 x3 x4 x6 y0 μ) := by
        intro x1 h_x1 x2 h_x2 x3 h_x3 x4 h_x4 x6 h_x6 y0 h_y0 μ
        unfold fX10_movesTo_B109
        refine jr_istore C0 dX10_movesTo_109 (by decide) (lv' := [(5, .int (vr_I y0)), (0, .ref (vr_ad G 68)), (1, .int (vr_I x1)), (2, .int (vr_I x2)), (3, .int (vr_I x3)), (4, .int (vr_I x4)), (6, .int (vr_I x6))]) rfl ?_
        refine jr_iinc C0 (q := 6) dX10_movesTo_111 rfl (by decide) (lv' := [(6, .int (vr_I (x6 + 1))), (5, .int (vr_I y0)), (0, .ref (vr_ad G 68)), (1, .int (vr_I x1)), (2, .int (vr_I x2)), (3, .int (vr_I x3)), (4, .int (vr_I x4))]) rfl ?_
        refine jr_goto C0 dX10_movesTo_114 (tgt := 29) (by decide) ?_
        refine jr_gd (fun g1 => ?_)
        refine jr_sub [2, 3, 4, 5, 6, 1, 0] rfl ?_
        exact ih29 x1 h_x1 x2 h_x2 x3 h_x3 x4 h_x4 y0 h_y0 (x6 + 1) g1 _
      have B93 : ∀ (x1 : Int) (h_x1 : vr_R x1) (x2 : Int) (h_x2 : vr_R x2) (x3 : Int) (h_x3 : vr_R x3) (x5 : Int) (h_x5 : vr_R x5) (x6 : Int) (h_x6 : vr_R x6) (x7 : Int) (h_x7 : vr_R x7) (y0 : Int) (h_y0 : vr_R y0) (μ : vr_M), vr_J p l e ({ frames := 7, cells := 0, slots := 0, locals := 169 } : Room) s m args below meth c 8 0 0 G (vr_Z (vr_QI G) G args s below) 93 [(0, .ref (vr_ad G 68)), (1, .int (vr_I x1)), (2, .int (vr_I x2)), (3, .int (vr_I x3)), (5, .int (vr_I x5)), (6, .int (vr_I x6)), (7, .int (vr_I x7))] [.int (vr_I y0)] μ (fX10_movesTo_B93 (fX10_movesTo_L29 n29) x1 x2 x3 x5 x6 x7 y0 μ) := by
        intro x1 h_x1 x2 h_x2 x3 h_x3 x5 h_x5 x6 h_x6 x7 h_x7 y0 h_y0 μ
        unfold fX10_movesTo_B93
        refine jr_istore C0 dX10_movesTo_93 (by decide) (lv' := [(4, .int (vr_I y0)), (0, .ref (vr_ad G 68)), (1, .int (vr_I x1)), (2, .int (vr_I x2)), (3, .int (vr_I x3)), (5, .int (vr_I x5)), (6, .int (vr_I x6)), (7, .int (vr_I x7))]) rfl ?_
        refine jr_iload C0 7 dX10_movesTo_95 rfl ?_
        refine jr_iload C0 5 dX10_movesTo_97 rfl ?_
        refine jr_icmp_le C0 h_x7 h_x5 dX10_movesTo_99 (tgt := 107) (by decide) ?_ ?_
        · refine jr_iload C0 5 dX10_movesTo_107 rfl ?_
          refine jr_sub [1, 2, 3, 4, 0, 6] rfl ?_
          exact B109 x1 h_x1 x2 h_x2 x3 h_x3 y0 h_y0 x6 h_x6 x5 h_x5 _
        refine jr_iload C0 7 dX10_movesTo_102 rfl ?_
        refine jr_goto C0 dX10_movesTo_104 (tgt := 109) (by decide) ?_
        refine jr_sub [1, 2, 3, 4, 0, 6] rfl ?_
        exact B109 x1 h_x1 x2 h_x2 x3 h_x3 y0 h_y0 x6 h_x6 x7 h_x7 _
      intro x1 h_x1 x2 h_x2 x3 h_x3 x4 h_x4 x5 h_x5 x6 h_x6 μ
      rw [fX10_movesTo_L29.eq_2]
      refine jr_iload C0 6 dX10_movesTo_29 rfl ?_
      refine jr_aload_n C0 0 dX10_movesTo_31 rfl rfl ?_
      refine jr_getr C0 (by decide) kd_68 (by decide) rfl wx_X10 (i := 1) (by decide) wf_X10_9 (j := 69) rfl dX10_movesTo_32 ?_
      refine jr_iconst C0 dX10_movesTo_35 ?_
      refine jr_iald C0 (by decide) kd_69 kl_69 (by decide) (j := 0) rfl dX10_movesTo_36 ?_
      refine jr_gd (fun g2 => ?_)
      refine jr_icmp_ge C0 h_x6 g2 dX10_movesTo_37 (tgt := 117) (by decide) ?_ ?_
      · refine jr_sub [4] rfl ?_
        exact B117 x4 h_x4 _
      refine jr_iload_n C0 3 dX10_movesTo_40 rfl rfl ?_
      refine jr_aload_n C0 0 dX10_movesTo_41 rfl rfl ?_
      refine jr_getr C0 (by decide) kd_68 (by decide) rfl wx_X10 (i := 1) (by decide) wf_X10_9 (j := 69) rfl dX10_movesTo_42 ?_
      refine jr_bipush C0 dX10_movesTo_45 rfl ?_
      refine jr_iald C0 (by decide) kd_69 kl_69 (by decide) (j := 8) rfl dX10_movesTo_47 ?_
      refine jr_gd (fun g3 => ?_)
      refine jr_icmp_ge C0 h_x3 g3 dX10_movesTo_48 (tgt := 117) (by decide) ?_ ?_
      · refine jr_sub [4] rfl ?_
        exact B117 x4 h_x4 _
      refine jr_aload_n C0 0 dX10_movesTo_51 rfl rfl ?_
      refine jr_iload_n C0 1 dX10_movesTo_52 rfl rfl ?_
      refine jr_iload_n C0 2 dX10_movesTo_53 rfl rfl ?_
      refine jr_aload_n C0 0 dX10_movesTo_54 rfl rfl ?_
      refine jr_getr C0 (by decide) kd_68 (by decide) rfl wx_X10 (i := 1) (by decide) wf_X10_9 (j := 69) rfl dX10_movesTo_55 ?_
      refine jr_sipush C0 dX10_movesTo_58 rfl ?_
      refine jr_iload C0 6 dX10_movesTo_61 rfl ?_
      refine jr_iadd C0 dX10_movesTo_63 ?_
      refine jr_gd (fun g4 => ?_)
      refine jr_iald C0 (by decide) kd_69 kl_69 g4 (j := (138 + x6).toNat) rfl dX10_movesTo_64 ?_
      refine jr_gd (fun g5 => ?_)
      refine jr_vI C0 (by decide) kd_68 (by decide) rfl (ct_X10_harvestAt l G x1 h_x1 x2 h_x2 (μ 69 (138 + x6).toNat) g5 _) mi_X10_harvestAt wm_X10_196 ⟨Nat.le_of_ble_eq_true rfl, Nat.le_of_ble_eq_true rfl⟩ ⟨rfl, rfl⟩ (As := [.int (vr_I x1), .int (vr_I x2), .int (vr_I (μ 69 (138 + x6).toNat))]) rfl (st := []) rfl (Nat.le_of_ble_eq_true rfl) dX10_movesTo_65 (fun r6 hr6 => ?_)
      refine jr_istore C0 dX10_movesTo_68 (by decide) (lv' := [(7, .int (vr_I r6.1)), (0, .ref (vr_ad G 68)), (1, .int (vr_I x1)), (2, .int (vr_I x2)), (3, .int (vr_I x3)), (4, .int (vr_I x4)), (5, .int (vr_I x5)), (6, .int (vr_I x6))]) rfl ?_
      refine jr_iload C0 0 dX10_movesTo_70 rfl ?_
      refine jr_iload C0 6 dX10_movesTo_72 rfl ?_
      refine jr_icmp_le C0 hr6 h_x5 dX10_movesTo_74 (tgt := 91) (by decide) ?_ ?_
      · refine jr_iload C0 5 dX10_movesTo_91 rfl ?_
        refine jr_sub [1, 2, 3, 4, 6, 7, 0] rfl ?_
        exact B93 x1 h_x1 x2 h_x2 x3 h_x3 x5 h_x5 x6 h_x6 r6.1 hr6 x4 h_x4 _
      refine jr_aload_n C0 1 dX10_movesTo_77 rfl rfl ?_
      refine jr_getr C0 (by decide) kd_68 (by decide) rfl wx_X10 (i := 1) (by decide) wf_X10_9 (j := 69) rfl dX10_movesTo_78 ?_
      refine jr_sipush C0 dX10_movesTo_81 rfl ?_
      refine jr_iload C0 7 dX10_movesTo_84 rfl ?_
      refine jr_iadd C0 dX10_movesTo_86 ?_
      refine jr_iald C0 (by decide) kd_69 kl_69 g4 (j := (138 + x6).toNat) rfl dX10_movesTo_87 ?_
      refine jr_goto C0 dX10_movesTo_88 (tgt := 93) (by decide) ?_
      refine jr_gd (fun g7 => ?_)
      refine jr_sub [1, 2, 3, 4, 6, 7, 0] rfl ?_
      exact B93 x1 h_x1 x2 h_x2 x3 h_x3 x5 h_x5 x6 h_x6 r6.1 hr6 (r6.2 69 (138 + x6).toNat) g7 _
  unfold fX10_movesTo
  refine jr_aload_n C0 0 dX10_movesTo_0 rfl rfl ?_
  refine jr_iload_n C0 1 dX10_movesTo_1 rfl rfl ?_
  refine jr_iload_n C0 2 dX10_movesTo_2 rfl rfl ?_
  refine jr_aload_n C0 0 dX10_movesTo_3 rfl rfl ?_
  refine jr_getr C0 (by decide) kd_68 (by decide) rfl wx_X10 (i := 1) (by decide) wf_X10_9 (j := 69) rfl dX10_movesTo_4 ?_
  refine jr_bipush C0 dX10_movesTo_7 rfl ?_
  refine jr_iald C0 (by decide) kd_69 kl_69 (by decide) (j := 7) rfl dX10_movesTo_9 ?_
  refine jr_gd (fun g8 => ?_)
  refine jr_vI C0 (by decide) kd_68 (by decide) rfl (ct_X10_harvestAt l G a0 h_a0 a1 h_a1 (μ 69 7) g8 _) mi_X10_harvestAt wm_X10_196 ⟨Nat.le_of_ble_eq_true rfl, Nat.le_of_ble_eq_true rfl⟩ ⟨rfl, rfl⟩ (As := [.int (vr_I a0), .int (vr_I a1), .int (vr_I (μ 69 7))]) rfl (st := []) rfl (Nat.le_of_ble_eq_true rfl) dX10_movesTo_10 (fun r9 hr9 => ?_)
  refine jr_istore_n C0 dX10_movesTo_13 rfl (by decide) (lv' := [(3, .int (vr_I r9.1)), (0, .ref (vr_ad G 68)), (1, .int (vr_I a0)), (2, .int (vr_I a1))]) rfl ?_
  refine jr_aload_n C0 1 dX10_movesTo_14 rfl rfl ?_
  refine jr_getr C0 (by decide) kd_68 (by decide) rfl wx_X10 (i := 1) (by decide) wf_X10_9 (j := 69) rfl dX10_movesTo_15 ?_
  refine jr_bipush C0 dX10_movesTo_18 rfl ?_
  refine jr_iald C0 (by decide) kd_69 kl_69 (by decide) (j := 7) rfl dX10_movesTo_20 ?_
  refine jr_istore C0 dX10_movesTo_21 (by decide) (lv' := [(4, .int (vr_I (r9.2 69 7))), (3, .int (vr_I r9.1)), (0, .ref (vr_ad G 68)), (1, .int (vr_I a0)), (2, .int (vr_I a1))]) rfl ?_
  refine jr_iload_n C0 1 dX10_movesTo_23 rfl rfl ?_
  refine jr_istore C0 dX10_movesTo_24 (by decide) (lv' := [(5, .int (vr_I r9.1)), (4, .int (vr_I (r9.2 69 7))), (3, .int (vr_I r9.1)), (0, .ref (vr_ad G 68)), (1, .int (vr_I a0)), (2, .int (vr_I a1))]) rfl ?_
  refine jr_iconst C0 dX10_movesTo_26 ?_
  refine jr_istore C0 dX10_movesTo_27 (by decide) (lv' := [(6, .int (vr_I 0)), (5, .int (vr_I r9.1)), (4, .int (vr_I (r9.2 69 7))), (3, .int (vr_I r9.1)), (0, .ref (vr_ad G 68)), (1, .int (vr_I a0)), (2, .int (vr_I a1))]) rfl ?_
  refine jr_gd (fun g10 => ?_)
  refine jr_sub [4, 5, 6, 3, 2, 1, 0] rfl ?_
  exact L29 9000 a0 h_a0 a1 h_a1 r9.1 hr9 (r9.2 69 7) g10 r9.1 hr9 0 (⟨by decide, by decide⟩) _
theorem dX10_moves_0 : decode cX10_moves 0 = .ok (.aload_n 0, 1) := by decide +kernel
theorem dX10_moves_1 : decode cX10_moves 1 = .ok (.iload_n 1, 1) := by decide +kernel
theorem dX10_moves_2 : decode cX10_moves 2 = .ok (.invokevirtual 190, 3) := by decide +kernel
theorem dX10_moves_5 : decode cX10_moves 5 = .ok (.ifCond .eq 30, 3) := by decide +kernel
theorem dX10_moves_8 : decode cX10_moves 8 = .ok (.aload_n 0, 1) := by decide +kernel
theorem dX10_moves_9 : decode cX10_moves 9 = .ok (.aload_n 0, 1) := by decide +kernel
theorem dX10_moves_10 : decode cX10_moves 10 = .ok (.getfield 9, 3) := by decide +kernel
theorem dX10_moves_13 : decode cX10_moves 13 = .ok (.sipush 170, 3) := by decide +kernel
theorem dX10_moves_16 : decode cX10_moves 16 = .ok (.iload_n 1, 1) := by decide +kernel
theorem dX10_moves_17 : decode cX10_moves 17 = .ok (.iadd, 1) := by decide +kernel
theorem dX10_moves_18 : decode cX10_moves 18 = .ok (.iaload, 1) := by decide +kernel
theorem dX10_moves_19 : decode cX10_moves 19 = .ok (.aload_n 0, 1) := by decide +kernel
theorem dX10_moves_20 : decode cX10_moves 20 = .ok (.getfield 9, 3) := by decide +kernel
theorem dX10_moves_23 : decode cX10_moves 23 = .ok (.sipush 178, 3) := by decide +kernel
theorem dX10_moves_26 : decode cX10_moves 26 = .ok (.iload_n 1, 1) := by decide +kernel
theorem dX10_moves_27 : decode cX10_moves 27 = .ok (.iadd, 1) := by decide +kernel
theorem dX10_moves_28 : decode cX10_moves 28 = .ok (.iaload, 1) := by decide +kernel
theorem dX10_moves_29 : decode cX10_moves 29 = .ok (.invokevirtual 199, 3) := by decide +kernel
theorem dX10_moves_32 : decode cX10_moves 32 = .ok (.goto 4, 3) := by decide +kernel
theorem dX10_moves_35 : decode cX10_moves 35 = .ok (.iconst (-1), 1) := by decide +kernel
theorem dX10_moves_36 : decode cX10_moves 36 = .ok (.ireturn, 1) := by decide +kernel
def fX10_moves_B36 (y0 : Int) (μ : vr_M) : Option (Int × vr_M) :=
  some (y0, μ)
def fX10_moves (a0 : Int) (μ : vr_M) : Option (Int × vr_M) :=
  (fX10_isRule a0 μ).bind (fun r1 => if r1.1 = 0 then fX10_moves_B36 (-1) r1.2 else vr_gd (0 ≤ (170 + a0) ∧ (170 + a0) < 933) (vr_gd (0 ≤ (178 + a0) ∧ (178 + a0) < 933) (vr_gd (vr_R (r1.2 69 (170 + a0).toNat)) (vr_gd (vr_R (r1.2 69 (178 + a0).toNat)) ((fX10_movesTo (r1.2 69 (170 + a0).toNat) (r1.2 69 (178 + a0).toNat) r1.2).bind (fun r6 => fX10_moves_B36 r6.1 r6.2))))))
set_option maxRecDepth 100000 in
set_option maxHeartbeats 4000000 in
theorem ct_X10_moves (l : Launch) (G : vr_G) (a0 : Int) (h_a0 : vr_R a0) (μ : vr_M) : vr_CI l yX10_moves cX10_moves 2 (some .int) ({ frames := 8, cells := 0, slots := 0, locals := 196 } : Room) G [.ref (vr_ad G 68), .int (vr_I a0)] μ (fX10_moves a0 μ) := by
  refine vr_start (own := RX10) (by decide) rfl (Nat.le_of_ble_eq_true rfl) (fun p e s m args below meth c C0 => ?_)
  show vr_J p l e _ s m args below meth c 2 0 0 G (vr_Z (vr_QI G) G args s below) 0 [(0, .ref (vr_ad G 68)), (1, .int (vr_I a0))] [] μ _
  have B36 : ∀ (y0 : Int) (h_y0 : vr_R y0) (μ : vr_M), vr_J p l e ({ frames := 8, cells := 0, slots := 0, locals := 196 } : Room) s m args below meth c 2 0 0 G (vr_Z (vr_QI G) G args s below) 36 [] [.int (vr_I y0)] μ (fX10_moves_B36 y0 μ) := by
    intro y0 h_y0 μ
    unfold fX10_moves_B36
    exact jr_iret C0 h_y0 dX10_moves_36
  unfold fX10_moves
  refine jr_aload_n C0 0 dX10_moves_0 rfl rfl ?_
  refine jr_iload_n C0 1 dX10_moves_1 rfl rfl ?_
  refine jr_vI C0 (by decide) kd_68 (by decide) rfl (ct_X10_isRule l G a0 h_a0 _) mi_X10_isRule wm_X10_190 ⟨Nat.le_of_ble_eq_true rfl, Nat.le_of_ble_eq_true rfl⟩ ⟨rfl, rfl⟩ (As := [.int (vr_I a0)]) rfl (st := []) rfl (Nat.le_of_ble_eq_true rfl) dX10_moves_2 (fun r1 hr1 => ?_)
  refine jr_if_eq C0 hr1 dX10_moves_5 (tgt := 35) (by decide) ?_ ?_
  · refine jr_iconst C0 dX10_moves_35 ?_
    refine jr_sub [] rfl ?_
    exact B36 (-1) (⟨by decide, by decide⟩) _
  refine jr_aload_n C0 0 dX10_moves_8 rfl rfl ?_
  refine jr_aload_n C0 0 dX10_moves_9 rfl rfl ?_
  refine jr_getr C0 (by decide) kd_68 (by decide) rfl wx_X10 (i := 1) (by decide) wf_X10_9 (j := 69) rfl dX10_moves_10 ?_
  refine jr_sipush C0 dX10_moves_13 rfl ?_
  refine jr_iload_n C0 1 dX10_moves_16 rfl rfl ?_
  refine jr_iadd C0 dX10_moves_17 ?_
  refine jr_gd (fun g2 => ?_)
  refine jr_iald C0 (by decide) kd_69 kl_69 g2 (j := (170 + a0).toNat) rfl dX10_moves_18 ?_
  refine jr_aload_n C0 0 dX10_moves_19 rfl rfl ?_
  refine jr_getr C0 (by decide) kd_68 (by decide) rfl wx_X10 (i := 1) (by decide) wf_X10_9 (j := 69) rfl dX10_moves_20 ?_
  refine jr_sipush C0 dX10_moves_23 rfl ?_
  refine jr_iload_n C0 1 dX10_moves_26 rfl rfl ?_
  refine jr_iadd C0 dX10_moves_27 ?_
  refine jr_gd (fun g3 => ?_)
  refine jr_iald C0 (by decide) kd_69 kl_69 g3 (j := (178 + a0).toNat) rfl dX10_moves_28 ?_
  refine jr_gd (fun g4 => ?_)
  refine jr_gd (fun g5 => ?_)
  refine jr_vI C0 (by decide) kd_68 (by decide) rfl (ct_X10_movesTo l G (r1.2 69 (170 + a0).toNat) g4 (r1.2 69 (178 + a0).toNat) g5 _) mi_X10_movesTo wm_X10_199 ⟨Nat.le_of_ble_eq_true rfl, Nat.le_of_ble_eq_true rfl⟩ ⟨rfl, rfl⟩ (As := [.int (vr_I (r1.2 69 (170 + a0).toNat)), .int (vr_I (r1.2 69 (178 + a0).toNat))]) rfl (st := []) rfl (Nat.le_of_ble_eq_true rfl) dX10_moves_29 (fun r6 hr6 => ?_)
  refine jr_goto C0 dX10_moves_32 (tgt := 36) (by decide) ?_
  refine jr_sub [] rfl ?_
  exact B36 r6.1 hr6 _
theorem dX10_yearBy_0 : decode cX10_yearBy 0 = .ok (.aload_n 0, 1) := by decide +kernel
theorem dX10_yearBy_1 : decode cX10_yearBy 1 = .ok (.iload_n 1, 1) := by decide +kernel
theorem dX10_yearBy_2 : decode cX10_yearBy 2 = .ok (.iload_n 2, 1) := by decide +kernel
theorem dX10_yearBy_3 : decode cX10_yearBy 3 = .ok (.invokevirtual 199, 3) := by decide +kernel
theorem dX10_yearBy_6 : decode cX10_yearBy 6 = .ok (.istore 4, 2) := by decide +kernel
theorem dX10_yearBy_8 : decode cX10_yearBy 8 = .ok (.aload_n 0, 1) := by decide +kernel
theorem dX10_yearBy_9 : decode cX10_yearBy 9 = .ok (.iload_n 1, 1) := by decide +kernel
theorem dX10_yearBy_10 : decode cX10_yearBy 10 = .ok (.iload_n 2, 1) := by decide +kernel
theorem dX10_yearBy_11 : decode cX10_yearBy 11 = .ok (.iload 4, 2) := by decide +kernel
theorem dX10_yearBy_13 : decode cX10_yearBy 13 = .ok (.invokevirtual 193, 3) := by decide +kernel
theorem dX10_yearBy_16 : decode cX10_yearBy 16 = .ok (.istore 5, 2) := by decide +kernel
theorem dX10_yearBy_18 : decode cX10_yearBy 18 = .ok (.aload_n 0, 1) := by decide +kernel
theorem dX10_yearBy_19 : decode cX10_yearBy 19 = .ok (.iload 4, 2) := by decide +kernel
theorem dX10_yearBy_21 : decode cX10_yearBy 21 = .ok (.aload_n 0, 1) := by decide +kernel
theorem dX10_yearBy_22 : decode cX10_yearBy 22 = .ok (.getfield 9, 3) := by decide +kernel
theorem dX10_yearBy_25 : decode cX10_yearBy 25 = .ok (.bipush 7, 2) := by decide +kernel
theorem dX10_yearBy_27 : decode cX10_yearBy 27 = .ok (.iaload, 1) := by decide +kernel
theorem dX10_yearBy_28 : decode cX10_yearBy 28 = .ok (.if_icmp .eq 7, 3) := by decide +kernel
theorem dX10_yearBy_31 : decode cX10_yearBy 31 = .ok (.iconst 1, 1) := by decide +kernel
theorem dX10_yearBy_32 : decode cX10_yearBy 32 = .ok (.goto 4, 3) := by decide +kernel
theorem dX10_yearBy_35 : decode cX10_yearBy 35 = .ok (.iconst 0, 1) := by decide +kernel
theorem dX10_yearBy_36 : decode cX10_yearBy 36 = .ok (.putfield 202, 3) := by decide +kernel
theorem dX10_yearBy_39 : decode cX10_yearBy 39 = .ok (.aload_n 0, 1) := by decide +kernel
theorem dX10_yearBy_40 : decode cX10_yearBy 40 = .ok (.aload_n 0, 1) := by decide +kernel
theorem dX10_yearBy_41 : decode cX10_yearBy 41 = .ok (.getfield 9, 3) := by decide +kernel
theorem dX10_yearBy_44 : decode cX10_yearBy 44 = .ok (.bipush 8, 2) := by decide +kernel
theorem dX10_yearBy_46 : decode cX10_yearBy 46 = .ok (.iaload, 1) := by decide +kernel
theorem dX10_yearBy_47 : decode cX10_yearBy 47 = .ok (.putfield 205, 3) := by decide +kernel
theorem dX10_yearBy_50 : decode cX10_yearBy 50 = .ok (.aload_n 0, 1) := by decide +kernel
theorem dX10_yearBy_51 : decode cX10_yearBy 51 = .ok (.aload_n 0, 1) := by decide +kernel
theorem dX10_yearBy_52 : decode cX10_yearBy 52 = .ok (.iload 5, 2) := by decide +kernel
theorem dX10_yearBy_54 : decode cX10_yearBy 54 = .ok (.iload 4, 2) := by decide +kernel
theorem dX10_yearBy_56 : decode cX10_yearBy 56 = .ok (.invokevirtual 161, 3) := by decide +kernel
theorem dX10_yearBy_59 : decode cX10_yearBy 59 = .ok (.putfield 208, 3) := by decide +kernel
theorem dX10_yearBy_62 : decode cX10_yearBy 62 = .ok (.aload_n 0, 1) := by decide +kernel
theorem dX10_yearBy_63 : decode cX10_yearBy 63 = .ok (.iload 5, 2) := by decide +kernel
theorem dX10_yearBy_65 : decode cX10_yearBy 65 = .ok (.iload 4, 2) := by decide +kernel
theorem dX10_yearBy_67 : decode cX10_yearBy 67 = .ok (.iload_n 3, 1) := by decide +kernel
theorem dX10_yearBy_68 : decode cX10_yearBy 68 = .ok (.invokevirtual 164, 3) := by decide +kernel
theorem dX10_yearBy_71 : decode cX10_yearBy 71 = .ok (.istore 6, 2) := by decide +kernel
theorem dX10_yearBy_73 : decode cX10_yearBy 73 = .ok (.aload_n 0, 1) := by decide +kernel
theorem dX10_yearBy_74 : decode cX10_yearBy 74 = .ok (.iload 6, 2) := by decide +kernel
theorem dX10_yearBy_76 : decode cX10_yearBy 76 = .ok (.aload_n 0, 1) := by decide +kernel
theorem dX10_yearBy_77 : decode cX10_yearBy 77 = .ok (.getfield 205, 3) := by decide +kernel
theorem dX10_yearBy_80 : decode cX10_yearBy 80 = .ok (.if_icmp .ge 7, 3) := by decide +kernel
theorem dX10_yearBy_83 : decode cX10_yearBy 83 = .ok (.iconst 1, 1) := by decide +kernel
theorem dX10_yearBy_84 : decode cX10_yearBy 84 = .ok (.goto 4, 3) := by decide +kernel
theorem dX10_yearBy_87 : decode cX10_yearBy 87 = .ok (.iconst 0, 1) := by decide +kernel
theorem dX10_yearBy_88 : decode cX10_yearBy 88 = .ok (.putfield 211, 3) := by decide +kernel
theorem dX10_yearBy_91 : decode cX10_yearBy 91 = .ok (.iload 6, 2) := by decide +kernel
theorem dX10_yearBy_93 : decode cX10_yearBy 93 = .ok (.ireturn, 1) := by decide +kernel
def fX10_yearBy_B88 (x6 : Int) (y1 : Int) (μ : vr_M) : Option (Int × vr_M) :=
  vr_gd (y1 = 0 ∨ y1 = 1) (some (x6, vr_u μ 68 15 y1))
def fX10_yearBy_B36 (x3 : Int) (x4 : Int) (x5 : Int) (y1 : Int) (μ : vr_M) : Option (Int × vr_M) :=
  vr_gd (y1 = 0 ∨ y1 = 1) (vr_let (vr_u μ 68 16 y1) (fun μ3 => (fX10_sumOf x5 x4 (vr_u μ3 68 18 (μ3 69 8))).bind (fun r4 => (fX10_goesBy x5 x4 x3 (vr_u r4.2 68 17 r4.1)).bind (fun r5 => vr_gd (vr_R (r5.2 68 18)) (if (r5.2 68 18) ≤ r5.1 then fX10_yearBy_B88 r5.1 0 r5.2 else fX10_yearBy_B88 r5.1 1 r5.2)))))
def fX10_yearBy (a0 : Int) (a1 : Int) (a2 : Int) (μ : vr_M) : Option (Int × vr_M) :=
  (fX10_movesTo a0 a1 μ).bind (fun r7 => (fX10_burntBy a0 a1 r7.1 r7.2).bind (fun r8 => vr_gd (vr_R (r8.2 69 7)) (if r7.1 = (r8.2 69 7) then fX10_yearBy_B36 a2 r7.1 r8.1 0 r8.2 else fX10_yearBy_B36 a2 r7.1 r8.1 1 r8.2)))
set_option maxRecDepth 100000 in
set_option maxHeartbeats 4000000 in
theorem ct_X10_yearBy (l : Launch) (G : vr_G) (a0 : Int) (h_a0 : vr_R a0) (a1 : Int) (h_a1 : vr_R a1) (a2 : Int) (h_a2 : vr_R a2) (μ : vr_M) : vr_CI l yX10_yearBy cX10_yearBy 7 (some .int) ({ frames := 8, cells := 0, slots := 0, locals := 196 } : Room) G [.ref (vr_ad G 68), .int (vr_I a0), .int (vr_I a1), .int (vr_I a2)] μ (fX10_yearBy a0 a1 a2 μ) := by
  refine vr_start (own := RX10) (by decide) rfl (Nat.le_of_ble_eq_true rfl) (fun p e s m args below meth c C0 => ?_)
  show vr_J p l e _ s m args below meth c 7 0 0 G (vr_Z (vr_QI G) G args s below) 0 [(0, .ref (vr_ad G 68)), (1, .int (vr_I a0)), (2, .int (vr_I a1)), (3, .int (vr_I a2))] [] μ _
  have B88 : ∀ (x6 : Int) (h_x6 : vr_R x6) (y1 : Int) (h_y1 : vr_R y1) (μ : vr_M), vr_J p l e ({ frames := 8, cells := 0, slots := 0, locals := 196 } : Room) s m args below meth c 7 0 0 G (vr_Z (vr_QI G) G args s below) 88 [(6, .int (vr_I x6))] [.int (vr_I y1), .ref (vr_ad G 68)] μ (fX10_yearBy_B88 x6 y1 μ) := by
    intro x6 h_x6 y1 h_y1 μ
    unfold fX10_yearBy_B88
    refine jr_gd (fun g1 => ?_)
    refine jr_puti C0 (by decide) kd_68 (by decide) rfl wx_X10 (i := 15) (by decide) wf_X10_211 rfl tyX10_ok nmX10 rfl (vr_nz g1) ((vr_fz .boolean (Or.inr rfl) (fun _ => g1)).2) dX10_yearBy_88 ?_
    refine jr_iload C0 0 dX10_yearBy_91 rfl ?_
    exact jr_iret C0 h_x6 dX10_yearBy_93
  have B36 : ∀ (x3 : Int) (h_x3 : vr_R x3) (x4 : Int) (h_x4 : vr_R x4) (x5 : Int) (h_x5 : vr_R x5) (y1 : Int) (h_y1 : vr_R y1) (μ : vr_M), vr_J p l e ({ frames := 8, cells := 0, slots := 0, locals := 196 } : Room) s m args below meth c 7 0 0 G (vr_Z (vr_QI G) G args s below) 36 [(0, .ref (vr_ad G 68)), (3, .int (vr_I x3)), (4, .int (vr_I x4)), (5, .int (vr_I x5))] [.int (vr_I y1), .ref (vr_ad G 68)] μ (fX10_yearBy_B36 x3 x4 x5 y1 μ) := by
    intro x3 h_x3 x4 h_x4 x5 h_x5 y1 h_y1 μ
    unfold fX10_yearBy_B36
    refine jr_gd (fun g2 => ?_)
    refine jr_puti C0 (by decide) kd_68 (by decide) rfl wx_X10 (i := 16) (by decide) wf_X10_202 rfl tyX10_ok nmX10 rfl (vr_nz g2) ((vr_fz .boolean (Or.inr rfl) (fun _ => g2)).2) dX10_yearBy_36 ?_
    refine jr_aload_n C0 0 dX10_yearBy_39 rfl rfl ?_
    refine jr_aload_n C0 0 dX10_yearBy_40 rfl rfl ?_
    refine jr_getr C0 (by decide) kd_68 (by decide) rfl wx_X10 (i := 1) (by decide) wf_X10_9 (j := 69) rfl dX10_yearBy_41 ?_
    refine jr_bipush C0 dX10_yearBy_44 rfl ?_
    refine jr_let (fun μ3 => ?_)
    refine jr_iald C0 (by decide) kd_69 kl_69 (by decide) (j := 8) rfl dX10_yearBy_46 ?_
    refine jr_puti C0 (by decide) kd_68 (by decide) rfl wx_X10 (i := 18) (by decide) wf_X10_205 rfl tyX10_ok nmX10 rfl rfl rfl dX10_yearBy_47 ?_
    refine jr_aload_n C0 0 dX10_yearBy_50 rfl rfl ?_
    refine jr_aload_n C0 0 dX10_yearBy_51 rfl rfl ?_
    refine jr_iload C0 3 dX10_yearBy_52 rfl ?_
    refine jr_iload C0 2 dX10_yearBy_54 rfl ?_
    refine jr_vI C0 (by decide) kd_68 (by decide) rfl (ct_X10_sumOf l G x5 h_x5 x4 h_x4 _) mi_X10_sumOf wm_X10_161 ⟨Nat.le_of_ble_eq_true rfl, Nat.le_of_ble_eq_true rfl⟩ ⟨rfl, rfl⟩ (As := [.int (vr_I x5), .int (vr_I x4)]) rfl (st := [.ref (vr_ad G 68)]) rfl (Nat.le_of_ble_eq_true rfl) dX10_yearBy_56 (fun r4 hr4 => ?_)
    refine jr_puti C0 (by decide) kd_68 (by decide) rfl wx_X10 (i := 17) (by decide) wf_X10_208 rfl tyX10_ok nmX10 rfl rfl rfl dX10_yearBy_59 ?_
    refine jr_aload_n C0 0 dX10_yearBy_62 rfl rfl ?_
    refine jr_iload C0 3 dX10_yearBy_63 rfl ?_
    refine jr_iload C0 2 dX10_yearBy_65 rfl ?_
    refine jr_iload_n C0 1 dX10_yearBy_67 rfl rfl ?_
    refine jr_vI C0 (by decide) kd_68 (by decide) rfl (ct_X10_goesBy l G x5 h_x5 x4 h_x4 x3 h_x3 _) mi_X10_goesBy wm_X10_164 ⟨Nat.le_of_ble_eq_true rfl, Nat.le_of_ble_eq_true rfl⟩ ⟨rfl, rfl⟩ (As := [.int (vr_I x5), .int (vr_I x4), .int (vr_I x3)]) rfl (st := []) rfl (Nat.le_of_ble_eq_true rfl) dX10_yearBy_68 (fun r5 hr5 => ?_)
    refine jr_istore C0 dX10_yearBy_71 (by decide) (lv' := [(6, .int (vr_I r5.1)), (0, .ref (vr_ad G 68)), (3, .int (vr_I x3)), (4, .int (vr_I x4)), (5, .int (vr_I x5))]) rfl ?_
    refine jr_aload_n C0 1 dX10_yearBy_73 rfl rfl ?_
    refine jr_iload C0 0 dX10_yearBy_74 rfl ?_
    refine jr_aload_n C0 1 dX10_yearBy_76 rfl rfl ?_
    refine jr_geti C0 (by decide) kd_68 (by decide) rfl wx_X10 (i := 18) (by decide) wf_X10_205 rfl dX10_yearBy_77 ?_
    refine jr_gd (fun g6 => ?_)
    refine jr_icmp_ge C0 hr5 g6 dX10_yearBy_80 (tgt := 87) (by decide) ?_ ?_
    · refine jr_iconst C0 dX10_yearBy_87 ?_
      refine jr_sub [0] rfl ?_
      exact B88 r5.1 hr5 0 (⟨by decide, by decide⟩) _
    refine jr_iconst C0 dX10_yearBy_83 ?_
    refine jr_goto C0 dX10_yearBy_84 (tgt := 88) (by decide) ?_
    refine jr_sub [0] rfl ?_
    exact B88 r5.1 hr5 1 (⟨by decide, by decide⟩) _
  unfold fX10_yearBy
  refine jr_aload_n C0 0 dX10_yearBy_0 rfl rfl ?_
  refine jr_iload_n C0 1 dX10_yearBy_1 rfl rfl ?_
  refine jr_iload_n C0 2 dX10_yearBy_2 rfl rfl ?_
  refine jr_vI C0 (by decide) kd_68 (by decide) rfl (ct_X10_movesTo l G a0 h_a0 a1 h_a1 _) mi_X10_movesTo wm_X10_199 ⟨Nat.le_of_ble_eq_true rfl, Nat.le_of_ble_eq_true rfl⟩ ⟨rfl, rfl⟩ (As := [.int (vr_I a0), .int (vr_I a1)]) rfl (st := []) rfl (Nat.le_of_ble_eq_true rfl) dX10_yearBy_3 (fun r7 hr7 => ?_)
  refine jr_istore C0 dX10_yearBy_6 (by decide) (lv' := [(4, .int (vr_I r7.1)), (0, .ref (vr_ad G 68)), (1, .int (vr_I a0)), (2, .int (vr_I a1)), (3, .int (vr_I a2))]) rfl ?_
  refine jr_aload_n C0 1 dX10_yearBy_8 rfl rfl ?_
  refine jr_iload_n C0 2 dX10_yearBy_9 rfl rfl ?_
  refine jr_iload_n C0 3 dX10_yearBy_10 rfl rfl ?_
  refine jr_iload C0 0 dX10_yearBy_11 rfl ?_
  refine jr_vI C0 (by decide) kd_68 (by decide) rfl (ct_X10_burntBy l G a0 h_a0 a1 h_a1 r7.1 hr7 _) mi_X10_burntBy wm_X10_193 ⟨Nat.le_of_ble_eq_true rfl, Nat.le_of_ble_eq_true rfl⟩ ⟨rfl, rfl⟩ (As := [.int (vr_I a0), .int (vr_I a1), .int (vr_I r7.1)]) rfl (st := []) rfl (Nat.le_of_ble_eq_true rfl) dX10_yearBy_13 (fun r8 hr8 => ?_)
  refine jr_istore C0 dX10_yearBy_16 (by decide) (lv' := [(5, .int (vr_I r8.1)), (4, .int (vr_I r7.1)), (0, .ref (vr_ad G 68)), (1, .int (vr_I a0)), (2, .int (vr_I a1)), (3, .int (vr_I a2))]) rfl ?_
  refine jr_aload_n C0 2 dX10_yearBy_18 rfl rfl ?_
  refine jr_iload C0 1 dX10_yearBy_19 rfl ?_
  refine jr_aload_n C0 2 dX10_yearBy_21 rfl rfl ?_
  refine jr_getr C0 (by decide) kd_68 (by decide) rfl wx_X10 (i := 1) (by decide) wf_X10_9 (j := 69) rfl dX10_yearBy_22 ?_
  refine jr_bipush C0 dX10_yearBy_25 rfl ?_
  refine jr_iald C0 (by decide) kd_69 kl_69 (by decide) (j := 7) rfl dX10_yearBy_27 ?_
  refine jr_gd (fun g9 => ?_)
  refine jr_icmp_eq C0 hr7 g9 dX10_yearBy_28 (tgt := 35) (by decide) ?_ ?_
  · refine jr_iconst C0 dX10_yearBy_35 ?_
    refine jr_sub [2, 5, 1, 0] rfl ?_
    exact B36 a2 h_a2 r7.1 hr7 r8.1 hr8 0 (⟨by decide, by decide⟩) _
  refine jr_iconst C0 dX10_yearBy_31 ?_
  refine jr_goto C0 dX10_yearBy_32 (tgt := 36) (by decide) ?_
  refine jr_sub [2, 5, 1, 0] rfl ?_
  exact B36 a2 h_a2 r7.1 hr7 r8.1 hr8 1 (⟨by decide, by decide⟩) _
theorem dX10_go_0 : decode cX10_go 0 = .ok (.aload_n 0, 1) := by decide +kernel
theorem dX10_go_1 : decode cX10_go 1 = .ok (.iload_n 1, 1) := by decide +kernel
theorem dX10_go_2 : decode cX10_go 2 = .ok (.invokevirtual 190, 3) := by decide +kernel
theorem dX10_go_5 : decode cX10_go 5 = .ok (.ifCond .ne 5, 3) := by decide +kernel
theorem dX10_go_8 : decode cX10_go 8 = .ok (.iconst (-1), 1) := by decide +kernel
theorem dX10_go_9 : decode cX10_go 9 = .ok (.ireturn, 1) := by decide +kernel
theorem dX10_go_10 : decode cX10_go 10 = .ok (.iload_n 2, 1) := by decide +kernel
theorem dX10_go_11 : decode cX10_go 11 = .ok (.iconst 1, 1) := by decide +kernel
theorem dX10_go_12 : decode cX10_go 12 = .ok (.bipush 30, 2) := by decide +kernel
theorem dX10_go_14 : decode cX10_go 14 = .ok (.invokestatic 44, 3) := by decide +kernel
theorem dX10_go_17 : decode cX10_go 17 = .ok (.ifCond .ne 6, 3) := by decide +kernel
theorem dX10_go_20 : decode cX10_go 20 = .ok (.bipush (-2), 2) := by decide +kernel
theorem dX10_go_22 : decode cX10_go 22 = .ok (.ireturn, 1) := by decide +kernel
theorem dX10_go_23 : decode cX10_go 23 = .ok (.iconst 0, 1) := by decide +kernel
theorem dX10_go_24 : decode cX10_go 24 = .ok (.istore_n 3, 1) := by decide +kernel
theorem dX10_go_25 : decode cX10_go 25 = .ok (.iconst 0, 1) := by decide +kernel
theorem dX10_go_26 : decode cX10_go 26 = .ok (.istore 4, 2) := by decide +kernel
theorem dX10_go_28 : decode cX10_go 28 = .ok (.iload 4, 2) := by decide +kernel
theorem dX10_go_30 : decode cX10_go 30 = .ok (.iload_n 2, 1) := by decide +kernel
theorem dX10_go_31 : decode cX10_go 31 = .ok (.if_icmp .ge 51, 3) := by decide +kernel
theorem dX10_go_34 : decode cX10_go 34 = .ok (.aload_n 0, 1) := by decide +kernel
theorem dX10_go_35 : decode cX10_go 35 = .ok (.aload_n 0, 1) := by decide +kernel
theorem dX10_go_36 : decode cX10_go 36 = .ok (.getfield 9, 3) := by decide +kernel
theorem dX10_go_39 : decode cX10_go 39 = .ok (.sipush 170, 3) := by decide +kernel
theorem dX10_go_42 : decode cX10_go 42 = .ok (.iload_n 1, 1) := by decide +kernel
theorem dX10_go_43 : decode cX10_go 43 = .ok (.iadd, 1) := by decide +kernel
theorem dX10_go_44 : decode cX10_go 44 = .ok (.iaload, 1) := by decide +kernel
theorem dX10_go_45 : decode cX10_go 45 = .ok (.aload_n 0, 1) := by decide +kernel
theorem dX10_go_46 : decode cX10_go 46 = .ok (.getfield 9, 3) := by decide +kernel
theorem dX10_go_49 : decode cX10_go 49 = .ok (.sipush 178, 3) := by decide +kernel
theorem dX10_go_52 : decode cX10_go 52 = .ok (.iload_n 1, 1) := by decide +kernel
theorem dX10_go_53 : decode cX10_go 53 = .ok (.iadd, 1) := by decide +kernel
theorem dX10_go_54 : decode cX10_go 54 = .ok (.iaload, 1) := by decide +kernel
theorem dX10_go_55 : decode cX10_go 55 = .ok (.iconst 1, 1) := by decide +kernel
theorem dX10_go_56 : decode cX10_go 56 = .ok (.invokevirtual 214, 3) := by decide +kernel
theorem dX10_go_59 : decode cX10_go 59 = .ok (.istore 5, 2) := by decide +kernel
theorem dX10_go_61 : decode cX10_go 61 = .ok (.iload_n 3, 1) := by decide +kernel
theorem dX10_go_62 : decode cX10_go 62 = .ok (.aload_n 0, 1) := by decide +kernel
theorem dX10_go_63 : decode cX10_go 63 = .ok (.getfield 211, 3) := by decide +kernel
theorem dX10_go_66 : decode cX10_go 66 = .ok (.ifCond .eq 7, 3) := by decide +kernel
theorem dX10_go_69 : decode cX10_go 69 = .ok (.iconst 1, 1) := by decide +kernel
theorem dX10_go_70 : decode cX10_go 70 = .ok (.goto 4, 3) := by decide +kernel
theorem dX10_go_73 : decode cX10_go 73 = .ok (.iconst 0, 1) := by decide +kernel
theorem dX10_go_74 : decode cX10_go 74 = .ok (.iadd, 1) := by decide +kernel
theorem dX10_go_75 : decode cX10_go 75 = .ok (.istore_n 3, 1) := by decide +kernel
theorem dX10_go_76 : decode cX10_go 76 = .ok (.iinc 4 1, 3) := by decide +kernel
theorem dX10_go_79 : decode cX10_go 79 = .ok (.goto (-51), 3) := by decide +kernel
theorem dX10_go_82 : decode cX10_go 82 = .ok (.iload_n 3, 1) := by decide +kernel
theorem dX10_go_83 : decode cX10_go 83 = .ok (.ireturn, 1) := by decide +kernel
def fX10_go_B74 (rc28 : Int → Int → Int → Int → vr_M → Option (Int × vr_M)) (x1 : Int) (x2 : Int) (x4 : Int) (y0 : Int) (y1 : Int) (μ : vr_M) : Option (Int × vr_M) :=
  vr_gd (vr_R (y0 + y1)) (vr_gd (vr_R (x4 + 1)) (rc28 x1 x2 (y0 + y1) (x4 + 1) μ))
def fX10_go_L28 : Nat → Int → Int → Int → Int → vr_M → Option (Int × vr_M)
  | 0, _, _, _, _, _ => none
  | n + 1, x1, x2, x3, x4, μ => if x2 ≤ x4 then some (x3, μ) else vr_gd (0 ≤ (170 + x1) ∧ (170 + x1) < 933) (vr_gd (0 ≤ (178 + x1) ∧ (178 + x1) < 933) (vr_gd (vr_R (μ 69 (170 + x1).toNat)) (vr_gd (vr_R (μ 69 (178 + x1).toNat)) ((fX10_yearBy (μ 69 (170 + x1).toNat) (μ 69 (178 + x1).toNat) 1 μ).bind (fun r7 => vr_gd (vr_R (r7.2 68 15)) (if (r7.2 68 15) = 0 then fX10_go_B74 (fX10_go_L28 n) x1 x2 x4 x3 0 r7.2 else fX10_go_B74 (fX10_go_L28 n) x1 x2 x4 x3 1 r7.2))))))
def fX10_go (a0 : Int) (a1 : Int) (μ : vr_M) : Option (Int × vr_M) :=
  (fX10_isRule a0 μ).bind (fun r9 => if ¬ r9.1 = 0 then (fX10_in a1 1 30 r9.2).bind (fun r10 => if ¬ r10.1 = 0 then fX10_go_L28 9000 a0 a1 0 0 r10.2 else some ((-2), r10.2)) else some ((-1), r9.2))
set_option maxRecDepth 100000 in
set_option maxHeartbeats 4000000 in
theorem ct_X10_go (l : Launch) (G : vr_G) (a0 : Int) (h_a0 : vr_R a0) (a1 : Int) (h_a1 : vr_R a1) (μ : vr_M) : vr_CI l yX10_go cX10_go 6 (some .int) ({ frames := 9, cells := 0, slots := 0, locals := 222 } : Room) G [.ref (vr_ad G 68), .int (vr_I a0), .int (vr_I a1)] μ (fX10_go a0 a1 μ) := by
  refine vr_start (own := RX10) (by decide) rfl (Nat.le_of_ble_eq_true rfl) (fun p e s m args below meth c C0 => ?_)
  show vr_J p l e _ s m args below meth c 6 0 0 G (vr_Z (vr_QI G) G args s below) 0 [(0, .ref (vr_ad G 68)), (1, .int (vr_I a0)), (2, .int (vr_I a1))] [] μ _
  have L28 : ∀ (n : Nat) (x1 : Int) (h_x1 : vr_R x1) (x2 : Int) (h_x2 : vr_R x2) (x3 : Int) (h_x3 : vr_R x3) (x4 : Int) (h_x4 : vr_R x4) (μ : vr_M), vr_J p l e ({ frames := 9, cells := 0, slots := 0, locals := 222 } : Room) s m args below meth c 6 0 0 G (vr_Z (vr_QI G) G args s below) 28 [(0, .ref (vr_ad G 68)), (1, .int (vr_I x1)), (2, .int (vr_I x2)), (3, .int (vr_I x3)), (4, .int (vr_I x4))] [] μ (fX10_go_L28 n x1 x2 x3 x4 μ) := by
    intro n28
    induction n28 with
    | zero => intros; exact jr_none
    | succ n28 ih28 =>
      have B74 : ∀ (x1 : Int) (h_x1 : vr_R x1) (x2 : Int) (h_x2 : vr_R x2) (x4 : Int) (h_x4 : vr_R x4) (y0 : Int) (h_y0 : vr_R y0) (y1 : Int) (h_y1 : vr_R y1) (μ : vr_M), vr_J p l e ({ frames := 9, cells := 0, slots := 0, locals := 222 } : Room) s m args below meth c 6 0 0 G (vr_Z (vr_QI G) G args s below) 74 [(0, .ref (vr_ad G 68)), (1, .int (vr_I x1)), (2, .int (vr_I x2)), (4, .int (vr_I x4))] [.int (vr_I y1), .int (vr_I y0)] μ (fX10_go_B74 (fX10_go_L28 n28) x1 x2 x4 y0 y1 μ) := by
        intro x1 h_x1 x2 h_x2 x4 h_x4 y0 h_y0 y1 h_y1 μ
        unfold fX10_go_B74
        refine jr_iadd C0 dX10_go_74 ?_
        refine jr_istore_n C0 dX10_go_75 rfl (by decide) (lv' := [(3, .int (vr_I (y0 + y1))), (0, .ref (vr_ad G 68)), (1, .int (vr_I x1)), (2, .int (vr_I x2)), (4, .int (vr_I x4))]) rfl ?_
        refine jr_iinc C0 (q := 4) dX10_go_76 rfl (by decide) (lv' := [(4, .int (vr_I (x4 + 1))), (3, .int (vr_I (y0 + y1))), (0, .ref (vr_ad G 68)), (1, .int (vr_I x1)), (2, .int (vr_I x2))]) rfl ?_
        refine jr_goto C0 dX10_go_79 (tgt := 28) (by decide) ?_
        refine jr_gd (fun g1 => ?_)
        refine jr_gd (fun g2 => ?_)
        refine jr_sub [2, 3, 4, 1, 0] rfl ?_
        exact ih28 x1 h_x1 x2 h_x2 (y0 + y1) g1 (x4 + 1) g2 _
      intro x1 h_x1 x2 h_x2 x3 h_x3 x4 h_x4 μ
      rw [fX10_go_L28.eq_2]
      refine jr_iload C0 4 dX10_go_28 rfl ?_
      refine jr_iload_n C0 2 dX10_go_30 rfl rfl ?_
      refine jr_icmp_ge C0 h_x4 h_x2 dX10_go_31 (tgt := 82) (by decide) ?_ ?_
      · refine jr_iload_n C0 3 dX10_go_82 rfl rfl ?_
        exact jr_iret C0 h_x3 dX10_go_83
      refine jr_aload_n C0 0 dX10_go_34 rfl rfl ?_
      refine jr_aload_n C0 0 dX10_go_35 rfl rfl ?_
      refine jr_getr C0 (by decide) kd_68 (by decide) rfl wx_X10 (i := 1) (by decide) wf_X10_9 (j := 69) rfl dX10_go_36 ?_
      refine jr_sipush C0 dX10_go_39 rfl ?_
      refine jr_iload_n C0 1 dX10_go_42 rfl rfl ?_
      refine jr_iadd C0 dX10_go_43 ?_
      refine jr_gd (fun g3 => ?_)
      refine jr_iald C0 (by decide) kd_69 kl_69 g3 (j := (170 + x1).toNat) rfl dX10_go_44 ?_
      refine jr_aload_n C0 0 dX10_go_45 rfl rfl ?_
      refine jr_getr C0 (by decide) kd_68 (by decide) rfl wx_X10 (i := 1) (by decide) wf_X10_9 (j := 69) rfl dX10_go_46 ?_
      refine jr_sipush C0 dX10_go_49 rfl ?_
      refine jr_iload_n C0 1 dX10_go_52 rfl rfl ?_
      refine jr_iadd C0 dX10_go_53 ?_
      refine jr_gd (fun g4 => ?_)
      refine jr_iald C0 (by decide) kd_69 kl_69 g4 (j := (178 + x1).toNat) rfl dX10_go_54 ?_
      refine jr_iconst C0 dX10_go_55 ?_
      refine jr_gd (fun g5 => ?_)
      refine jr_gd (fun g6 => ?_)
      refine jr_vI C0 (by decide) kd_68 (by decide) rfl (ct_X10_yearBy l G (μ 69 (170 + x1).toNat) g5 (μ 69 (178 + x1).toNat) g6 1 (⟨by decide, by decide⟩) _) mi_X10_yearBy wm_X10_214 ⟨Nat.le_of_ble_eq_true rfl, Nat.le_of_ble_eq_true rfl⟩ ⟨rfl, rfl⟩ (As := [.int (vr_I (μ 69 (170 + x1).toNat)), .int (vr_I (μ 69 (178 + x1).toNat)), .int (vr_I 1)]) rfl (st := []) rfl (Nat.le_of_ble_eq_true rfl) dX10_go_56 (fun r7 hr7 => ?_)
      refine jr_istore C0 dX10_go_59 (by decide) (lv' := [(5, .int (vr_I r7.1)), (0, .ref (vr_ad G 68)), (1, .int (vr_I x1)), (2, .int (vr_I x2)), (3, .int (vr_I x3)), (4, .int (vr_I x4))]) rfl ?_
      refine jr_iload_n C0 4 dX10_go_61 rfl rfl ?_
      refine jr_aload_n C0 1 dX10_go_62 rfl rfl ?_
      refine jr_geti C0 (by decide) kd_68 (by decide) rfl wx_X10 (i := 15) (by decide) wf_X10_211 rfl dX10_go_63 ?_
      refine jr_gd (fun g8 => ?_)
      refine jr_if_eq C0 g8 dX10_go_66 (tgt := 73) (by decide) ?_ ?_
      · refine jr_iconst C0 dX10_go_73 ?_
        refine jr_sub [1, 2, 3, 5] rfl ?_
        exact B74 x1 h_x1 x2 h_x2 x4 h_x4 x3 h_x3 0 (⟨by decide, by decide⟩) _
      refine jr_iconst C0 dX10_go_69 ?_
      refine jr_goto C0 dX10_go_70 (tgt := 74) (by decide) ?_
      refine jr_sub [1, 2, 3, 5] rfl ?_
      exact B74 x1 h_x1 x2 h_x2 x4 h_x4 x3 h_x3 1 (⟨by decide, by decide⟩) _
  unfold fX10_go
  refine jr_aload_n C0 0 dX10_go_0 rfl rfl ?_
  refine jr_iload_n C0 1 dX10_go_1 rfl rfl ?_
  refine jr_vI C0 (by decide) kd_68 (by decide) rfl (ct_X10_isRule l G a0 h_a0 _) mi_X10_isRule wm_X10_190 ⟨Nat.le_of_ble_eq_true rfl, Nat.le_of_ble_eq_true rfl⟩ ⟨rfl, rfl⟩ (As := [.int (vr_I a0)]) rfl (st := []) rfl (Nat.le_of_ble_eq_true rfl) dX10_go_2 (fun r9 hr9 => ?_)
  refine jr_if_ne C0 hr9 dX10_go_5 (tgt := 10) (by decide) ?_ ?_
  · refine jr_iload_n C0 2 dX10_go_10 rfl rfl ?_
    refine jr_iconst C0 dX10_go_11 ?_
    refine jr_bipush C0 dX10_go_12 rfl ?_
    refine jr_sI C0 (ct_X10_in l G a1 h_a1 1 (⟨by decide, by decide⟩) 30 (⟨by decide, by decide⟩) _) mi_X10_in wm_X10_44 ⟨Nat.le_of_ble_eq_true rfl, Nat.le_of_ble_eq_true rfl⟩ ⟨rfl, rfl⟩ (As := [.int (vr_I a1), .int (vr_I 1), .int (vr_I 30)]) rfl (st := []) rfl (Nat.le_of_ble_eq_true rfl) dX10_go_14 (fun r10 hr10 => ?_)
    refine jr_if_ne C0 hr10 dX10_go_17 (tgt := 23) (by decide) ?_ ?_
    · refine jr_iconst C0 dX10_go_23 ?_
      refine jr_istore_n C0 dX10_go_24 rfl (by decide) (lv' := [(3, .int (vr_I 0)), (0, .ref (vr_ad G 68)), (1, .int (vr_I a0)), (2, .int (vr_I a1))]) rfl ?_
      refine jr_iconst C0 dX10_go_25 ?_
      refine jr_istore C0 dX10_go_26 (by decide) (lv' := [(4, .int (vr_I 0)), (3, .int (vr_I 0)), (0, .ref (vr_ad G 68)), (1, .int (vr_I a0)), (2, .int (vr_I a1))]) rfl ?_
      refine jr_sub [2, 3, 4, 1, 0] rfl ?_
      exact L28 9000 a0 h_a0 a1 h_a1 0 (⟨by decide, by decide⟩) 0 (⟨by decide, by decide⟩) _
    refine jr_bipush C0 dX10_go_20 rfl ?_
    exact jr_iret C0 (⟨by decide, by decide⟩) dX10_go_22
  refine jr_iconst C0 dX10_go_8 ?_
  exact jr_iret C0 (⟨by decide, by decide⟩) dX10_go_9
theorem dX10_row_0 : decode cX10_row 0 = .ok (.iload_n 1, 1) := by decide +kernel
theorem dX10_row_1 : decode cX10_row 1 = .ok (.iconst (-1), 1) := by decide +kernel
theorem dX10_row_2 : decode cX10_row 2 = .ok (.if_icmp .ne 12, 3) := by decide +kernel
theorem dX10_row_5 : decode cX10_row 5 = .ok (.aload_n 0, 1) := by decide +kernel
theorem dX10_row_6 : decode cX10_row 6 = .ok (.getfield 9, 3) := by decide +kernel
theorem dX10_row_9 : decode cX10_row 9 = .ok (.iconst 5, 1) := by decide +kernel
theorem dX10_row_10 : decode cX10_row 10 = .ok (.iconst 0, 1) := by decide +kernel
theorem dX10_row_11 : decode cX10_row 11 = .ok (.iastore, 1) := by decide +kernel
theorem dX10_row_12 : decode cX10_row 12 = .ok (.iconst 0, 1) := by decide +kernel
theorem dX10_row_13 : decode cX10_row 13 = .ok (.ireturn, 1) := by decide +kernel
theorem dX10_row_14 : decode cX10_row 14 = .ok (.iload_n 1, 1) := by decide +kernel
theorem dX10_row_15 : decode cX10_row 15 = .ok (.iconst 0, 1) := by decide +kernel
theorem dX10_row_16 : decode cX10_row 16 = .ok (.sipush 255, 3) := by decide +kernel
theorem dX10_row_19 : decode cX10_row 19 = .ok (.invokestatic 44, 3) := by decide +kernel
theorem dX10_row_22 : decode cX10_row 22 = .ok (.ifCond .ne 6, 3) := by decide +kernel
theorem dX10_row_25 : decode cX10_row 25 = .ok (.bipush (-2), 2) := by decide +kernel
theorem dX10_row_27 : decode cX10_row 27 = .ok (.ireturn, 1) := by decide +kernel
theorem dX10_row_28 : decode cX10_row 28 = .ok (.aload_n 0, 1) := by decide +kernel
theorem dX10_row_29 : decode cX10_row 29 = .ok (.getfield 9, 3) := by decide +kernel
theorem dX10_row_32 : decode cX10_row 32 = .ok (.iconst 5, 1) := by decide +kernel
theorem dX10_row_33 : decode cX10_row 33 = .ok (.iaload, 1) := by decide +kernel
theorem dX10_row_34 : decode cX10_row 34 = .ok (.bipush 12, 2) := by decide +kernel
theorem dX10_row_36 : decode cX10_row 36 = .ok (.if_icmp .ne 6, 3) := by decide +kernel
theorem dX10_row_39 : decode cX10_row 39 = .ok (.bipush (-4), 2) := by decide +kernel
theorem dX10_row_41 : decode cX10_row 41 = .ok (.ireturn, 1) := by decide +kernel
theorem dX10_row_42 : decode cX10_row 42 = .ok (.aload_n 0, 1) := by decide +kernel
theorem dX10_row_43 : decode cX10_row 43 = .ok (.getfield 9, 3) := by decide +kernel
theorem dX10_row_46 : decode cX10_row 46 = .ok (.sipush 186, 3) := by decide +kernel
theorem dX10_row_49 : decode cX10_row 49 = .ok (.aload_n 0, 1) := by decide +kernel
theorem dX10_row_50 : decode cX10_row 50 = .ok (.getfield 9, 3) := by decide +kernel
theorem dX10_row_53 : decode cX10_row 53 = .ok (.iconst 5, 1) := by decide +kernel
theorem dX10_row_54 : decode cX10_row 54 = .ok (.iaload, 1) := by decide +kernel
theorem dX10_row_55 : decode cX10_row 55 = .ok (.iadd, 1) := by decide +kernel
theorem dX10_row_56 : decode cX10_row 56 = .ok (.iload_n 1, 1) := by decide +kernel
theorem dX10_row_57 : decode cX10_row 57 = .ok (.iastore, 1) := by decide +kernel
theorem dX10_row_58 : decode cX10_row 58 = .ok (.aload_n 0, 1) := by decide +kernel
theorem dX10_row_59 : decode cX10_row 59 = .ok (.getfield 9, 3) := by decide +kernel
theorem dX10_row_62 : decode cX10_row 62 = .ok (.iconst 5, 1) := by decide +kernel
theorem dX10_row_63 : decode cX10_row 63 = .ok (.dup2, 1) := by decide +kernel
theorem dX10_row_64 : decode cX10_row 64 = .ok (.iaload, 1) := by decide +kernel
theorem dX10_row_65 : decode cX10_row 65 = .ok (.iconst 1, 1) := by decide +kernel
theorem dX10_row_66 : decode cX10_row 66 = .ok (.iadd, 1) := by decide +kernel
theorem dX10_row_67 : decode cX10_row 67 = .ok (.iastore, 1) := by decide +kernel
theorem dX10_row_68 : decode cX10_row 68 = .ok (.aload_n 0, 1) := by decide +kernel
theorem dX10_row_69 : decode cX10_row 69 = .ok (.getfield 9, 3) := by decide +kernel
theorem dX10_row_72 : decode cX10_row 72 = .ok (.iconst 5, 1) := by decide +kernel
theorem dX10_row_73 : decode cX10_row 73 = .ok (.iaload, 1) := by decide +kernel
theorem dX10_row_74 : decode cX10_row 74 = .ok (.ireturn, 1) := by decide +kernel
def fX10_row (a0 : Int) (μ : vr_M) : Option (Int × vr_M) :=
  if ¬ a0 = (-1) then (fX10_in a0 0 255 μ).bind (fun r1 => if ¬ r1.1 = 0 then vr_gd (vr_R (r1.2 69 5)) (if ¬ (r1.2 69 5) = 12 then vr_gd (0 ≤ (186 + (r1.2 69 5)) ∧ (186 + (r1.2 69 5)) < 933) (vr_let (vr_u r1.2 69 (186 + (r1.2 69 5)).toNat a0) (fun μ4 => vr_let (vr_u μ4 69 5 ((μ4 69 5) + 1)) (fun μ5 => vr_gd (vr_R (μ5 69 5)) (some (μ5 69 5, μ5))))) else some ((-4), r1.2)) else some ((-2), r1.2)) else some (0, vr_u μ 69 5 0)
set_option maxRecDepth 100000 in
set_option maxHeartbeats 4000000 in
theorem ct_X10_row (l : Launch) (G : vr_G) (a0 : Int) (h_a0 : vr_R a0) (μ : vr_M) : vr_CI l yX10_row cX10_row 2 (some .int) ({ frames := 1, cells := 0, slots := 0, locals := 22 } : Room) G [.ref (vr_ad G 68), .int (vr_I a0)] μ (fX10_row a0 μ) := by
  refine vr_start (own := RX10) (by decide) rfl (Nat.le_of_ble_eq_true rfl) (fun p e s m args below meth c C0 => ?_)
  show vr_J p l e _ s m args below meth c 2 0 0 G (vr_Z (vr_QI G) G args s below) 0 [(0, .ref (vr_ad G 68)), (1, .int (vr_I a0))] [] μ _
  unfold fX10_row
  refine jr_iload_n C0 1 dX10_row_0 rfl rfl ?_
  refine jr_iconst C0 dX10_row_1 ?_
  refine jr_icmp_ne C0 h_a0 (⟨by decide, by decide⟩) dX10_row_2 (tgt := 14) (by decide) ?_ ?_
  · refine jr_iload_n C0 1 dX10_row_14 rfl rfl ?_
    refine jr_iconst C0 dX10_row_15 ?_
    refine jr_sipush C0 dX10_row_16 rfl ?_
    refine jr_sI C0 (ct_X10_in l G a0 h_a0 0 (⟨by decide, by decide⟩) 255 (⟨by decide, by decide⟩) _) mi_X10_in wm_X10_44 ⟨Nat.le_of_ble_eq_true rfl, Nat.le_of_ble_eq_true rfl⟩ ⟨rfl, rfl⟩ (As := [.int (vr_I a0), .int (vr_I 0), .int (vr_I 255)]) rfl (st := []) rfl (Nat.le_of_ble_eq_true rfl) dX10_row_19 (fun r1 hr1 => ?_)
    refine jr_if_ne C0 hr1 dX10_row_22 (tgt := 28) (by decide) ?_ ?_
    · refine jr_aload_n C0 0 dX10_row_28 rfl rfl ?_
      refine jr_getr C0 (by decide) kd_68 (by decide) rfl wx_X10 (i := 1) (by decide) wf_X10_9 (j := 69) rfl dX10_row_29 ?_
      refine jr_iconst C0 dX10_row_32 ?_
      refine jr_iald C0 (by decide) kd_69 kl_69 (by decide) (j := 5) rfl dX10_row_33 ?_
      refine jr_bipush C0 dX10_row_34 rfl ?_
      refine jr_gd (fun g2 => ?_)
      refine jr_icmp_ne C0 g2 (⟨by decide, by decide⟩) dX10_row_36 (tgt := 42) (by decide) ?_ ?_
      · refine jr_aload_n C0 0 dX10_row_42 rfl rfl ?_
        refine jr_getr C0 (by decide) kd_68 (by decide) rfl wx_X10 (i := 1) (by decide) wf_X10_9 (j := 69) rfl dX10_row_43 ?_
        refine jr_sipush C0 dX10_row_46 rfl ?_
        refine jr_aload_n C0 0 dX10_row_49 rfl rfl ?_
        refine jr_getr C0 (by decide) kd_68 (by decide) rfl wx_X10 (i := 1) (by decide) wf_X10_9 (j := 69) rfl dX10_row_50 ?_
        refine jr_iconst C0 dX10_row_53 ?_
        refine jr_iald C0 (by decide) kd_69 kl_69 (by decide) (j := 5) rfl dX10_row_54 ?_
        refine jr_iadd C0 dX10_row_55 ?_
        refine jr_iload_n C0 1 dX10_row_56 rfl rfl ?_
        refine jr_gd (fun g3 => ?_)
        refine jr_iast C0 (by decide) kd_69 kl_69 g3 (j := (186 + (r1.2 69 5)).toNat) rfl dX10_row_57 ?_
        refine jr_aload_n C0 0 dX10_row_58 rfl rfl ?_
        refine jr_getr C0 (by decide) kd_68 (by decide) rfl wx_X10 (i := 1) (by decide) wf_X10_9 (j := 69) rfl dX10_row_59 ?_
        refine jr_iconst C0 dX10_row_62 ?_
        refine jr_dup2 C0 rfl rfl dX10_row_63 ?_
        refine jr_let (fun μ4 => ?_)
        refine jr_iald C0 (by decide) kd_69 kl_69 (by decide) (j := 5) rfl dX10_row_64 ?_
        refine jr_iconst C0 dX10_row_65 ?_
        refine jr_iadd C0 dX10_row_66 ?_
        refine jr_iast C0 (by decide) kd_69 kl_69 (by decide) (j := 5) rfl dX10_row_67 ?_
        refine jr_aload_n C0 0 dX10_row_68 rfl rfl ?_
        refine jr_getr C0 (by decide) kd_68 (by decide) rfl wx_X10 (i := 1) (by decide) wf_X10_9 (j := 69) rfl dX10_row_69 ?_
        refine jr_iconst C0 dX10_row_72 ?_
        refine jr_let (fun μ5 => ?_)
        refine jr_iald C0 (by decide) kd_69 kl_69 (by decide) (j := 5) rfl dX10_row_73 ?_
        refine jr_gd (fun g6 => ?_)
        exact jr_iret C0 g6 dX10_row_74
      refine jr_bipush C0 dX10_row_39 rfl ?_
      exact jr_iret C0 (⟨by decide, by decide⟩) dX10_row_41
    refine jr_bipush C0 dX10_row_25 rfl ?_
    exact jr_iret C0 (⟨by decide, by decide⟩) dX10_row_27
  refine jr_aload_n C0 0 dX10_row_5 rfl rfl ?_
  refine jr_getr C0 (by decide) kd_68 (by decide) rfl wx_X10 (i := 1) (by decide) wf_X10_9 (j := 69) rfl dX10_row_6 ?_
  refine jr_iconst C0 dX10_row_9 ?_
  refine jr_iconst C0 dX10_row_10 ?_
  refine jr_iast C0 (by decide) kd_69 kl_69 (by decide) (j := 5) rfl dX10_row_11 ?_
  refine jr_iconst C0 dX10_row_12 ?_
  exact jr_iret C0 (⟨by decide, by decide⟩) dX10_row_13
theorem dX10_judged_0 : decode cX10_judged 0 = .ok (.aload_n 0, 1) := by decide +kernel
theorem dX10_judged_1 : decode cX10_judged 1 = .ok (.invokevirtual 217, 3) := by decide +kernel
theorem dX10_judged_4 : decode cX10_judged 4 = .ok (.bipush (-5), 2) := by decide +kernel
theorem dX10_judged_6 : decode cX10_judged 6 = .ok (.istore_n 1, 1) := by decide +kernel
theorem dX10_judged_7 : decode cX10_judged 7 = .ok (.iconst 0, 1) := by decide +kernel
theorem dX10_judged_8 : decode cX10_judged 8 = .ok (.istore_n 2, 1) := by decide +kernel
theorem dX10_judged_9 : decode cX10_judged 9 = .ok (.iload_n 2, 1) := by decide +kernel
theorem dX10_judged_10 : decode cX10_judged 10 = .ok (.aload_n 0, 1) := by decide +kernel
theorem dX10_judged_11 : decode cX10_judged 11 = .ok (.getfield 18, 3) := by decide +kernel
theorem dX10_judged_14 : decode cX10_judged 14 = .ok (.iconst 5, 1) := by decide +kernel
theorem dX10_judged_15 : decode cX10_judged 15 = .ok (.iaload, 1) := by decide +kernel
theorem dX10_judged_16 : decode cX10_judged 16 = .ok (.if_icmp .ge 70, 3) := by decide +kernel
theorem dX10_judged_19 : decode cX10_judged 19 = .ok (.aload_n 0, 1) := by decide +kernel
theorem dX10_judged_20 : decode cX10_judged 20 = .ok (.getfield 9, 3) := by decide +kernel
theorem dX10_judged_23 : decode cX10_judged 23 = .ok (.bipush 8, 2) := by decide +kernel
theorem dX10_judged_25 : decode cX10_judged 25 = .ok (.iaload, 1) := by decide +kernel
theorem dX10_judged_26 : decode cX10_judged 26 = .ok (.istore_n 3, 1) := by decide +kernel
theorem dX10_judged_27 : decode cX10_judged 27 = .ok (.aload_n 0, 1) := by decide +kernel
theorem dX10_judged_28 : decode cX10_judged 28 = .ok (.aload_n 0, 1) := by decide +kernel
theorem dX10_judged_29 : decode cX10_judged 29 = .ok (.getfield 9, 3) := by decide +kernel
theorem dX10_judged_32 : decode cX10_judged 32 = .ok (.sipush 186, 3) := by decide +kernel
theorem dX10_judged_35 : decode cX10_judged 35 = .ok (.iload_n 2, 1) := by decide +kernel
theorem dX10_judged_36 : decode cX10_judged 36 = .ok (.iadd, 1) := by decide +kernel
theorem dX10_judged_37 : decode cX10_judged 37 = .ok (.iaload, 1) := by decide +kernel
theorem dX10_judged_38 : decode cX10_judged 38 = .ok (.iconst 1, 1) := by decide +kernel
theorem dX10_judged_39 : decode cX10_judged 39 = .ok (.aload_n 0, 1) := by decide +kernel
theorem dX10_judged_40 : decode cX10_judged 40 = .ok (.getfield 9, 3) := by decide +kernel
theorem dX10_judged_43 : decode cX10_judged 43 = .ok (.iconst 0, 1) := by decide +kernel
theorem dX10_judged_44 : decode cX10_judged 44 = .ok (.iaload, 1) := by decide +kernel
theorem dX10_judged_45 : decode cX10_judged 45 = .ok (.ishl, 1) := by decide +kernel
theorem dX10_judged_46 : decode cX10_judged 46 = .ok (.iconst 1, 1) := by decide +kernel
theorem dX10_judged_47 : decode cX10_judged 47 = .ok (.isub, 1) := by decide +kernel
theorem dX10_judged_48 : decode cX10_judged 48 = .ok (.iand, 1) := by decide +kernel
theorem dX10_judged_49 : decode cX10_judged 49 = .ok (.aload_n 0, 1) := by decide +kernel
theorem dX10_judged_50 : decode cX10_judged 50 = .ok (.getfield 9, 3) := by decide +kernel
theorem dX10_judged_53 : decode cX10_judged 53 = .ok (.bipush 7, 2) := by decide +kernel
theorem dX10_judged_55 : decode cX10_judged 55 = .ok (.iaload, 1) := by decide +kernel
theorem dX10_judged_56 : decode cX10_judged 56 = .ok (.iconst 1, 1) := by decide +kernel
theorem dX10_judged_57 : decode cX10_judged 57 = .ok (.invokevirtual 164, 3) := by decide +kernel
theorem dX10_judged_60 : decode cX10_judged 60 = .ok (.istore 4, 2) := by decide +kernel
theorem dX10_judged_62 : decode cX10_judged 62 = .ok (.iload_n 1, 1) := by decide +kernel
theorem dX10_judged_63 : decode cX10_judged 63 = .ok (.bipush (-5), 2) := by decide +kernel
theorem dX10_judged_65 : decode cX10_judged 65 = .ok (.if_icmp .ne 13, 3) := by decide +kernel
theorem dX10_judged_68 : decode cX10_judged 68 = .ok (.iload 4, 2) := by decide +kernel
theorem dX10_judged_70 : decode cX10_judged 70 = .ok (.iload_n 3, 1) := by decide +kernel
theorem dX10_judged_71 : decode cX10_judged 71 = .ok (.if_icmp .ge 7, 3) := by decide +kernel
theorem dX10_judged_74 : decode cX10_judged 74 = .ok (.iload_n 2, 1) := by decide +kernel
theorem dX10_judged_75 : decode cX10_judged 75 = .ok (.goto 4, 3) := by decide +kernel
theorem dX10_judged_78 : decode cX10_judged 78 = .ok (.iload_n 1, 1) := by decide +kernel
theorem dX10_judged_79 : decode cX10_judged 79 = .ok (.istore_n 1, 1) := by decide +kernel
theorem dX10_judged_80 : decode cX10_judged 80 = .ok (.iinc 2 1, 3) := by decide +kernel
theorem dX10_judged_83 : decode cX10_judged 83 = .ok (.goto (-74), 3) := by decide +kernel
theorem dX10_judged_86 : decode cX10_judged 86 = .ok (.aload_n 0, 1) := by decide +kernel
theorem dX10_judged_87 : decode cX10_judged 87 = .ok (.invokevirtual 220, 3) := by decide +kernel
theorem dX10_judged_90 : decode cX10_judged 90 = .ok (.iload_n 1, 1) := by decide +kernel
theorem dX10_judged_91 : decode cX10_judged 91 = .ok (.ireturn, 1) := by decide +kernel
def fX10_judged_B79 (rc9 : Int → Int → vr_M → Option (Int × vr_M)) (x2 : Int) (y0 : Int) (μ : vr_M) : Option (Int × vr_M) :=
  vr_gd (vr_R (x2 + 1)) (rc9 y0 (x2 + 1) μ)
def fX10_judged_B78 (rc9 : Int → Int → vr_M → Option (Int × vr_M)) (x1 : Int) (x2 : Int) (μ : vr_M) : Option (Int × vr_M) :=
  fX10_judged_B79 rc9 x2 x1 μ
def fX10_judged_L9 : Nat → Int → Int → vr_M → Option (Int × vr_M)
  | 0, _, _, _ => none
  | n + 1, x1, x2, μ => vr_gd (vr_R (μ 71 5)) (if (μ 71 5) ≤ x2 then (fX10_putsBack  μ).bind (fun r3 => some (x1, r3.2)) else vr_gd (0 ≤ (186 + x2) ∧ (186 + x2) < 933) (vr_gd (vr_R (μ 69 7)) ((fX10_goesBy (vr_and (μ 69 (186 + x2).toNat) ((vr_shl 1 (μ 69 0)) - 1)) (μ 69 7) 1 μ).bind (fun r6 => if ¬ x1 = (-5) then fX10_judged_B78 (fX10_judged_L9 n) x1 x2 r6.2 else vr_gd (vr_R (μ 69 8)) (if (μ 69 8) ≤ r6.1 then fX10_judged_B78 (fX10_judged_L9 n) x1 x2 r6.2 else fX10_judged_B79 (fX10_judged_L9 n) x2 x2 r6.2)))))
def fX10_judged (μ : vr_M) : Option (Int × vr_M) :=
  (fX10_keeps  μ).bind (fun r8 => fX10_judged_L9 9000 (-5) 0 r8.2)
set_option maxRecDepth 100000 in
set_option maxHeartbeats 4000000 in
theorem ct_X10_judged (l : Launch) (G : vr_G) (μ : vr_M) : vr_CI l yX10_judged cX10_judged 5 (some .int) ({ frames := 6, cells := 0, slots := 0, locals := 148 } : Room) G [.ref (vr_ad G 68)] μ (fX10_judged μ) := by
  refine vr_start (own := RX10) (by decide) rfl (Nat.le_of_ble_eq_true rfl) (fun p e s m args below meth c C0 => ?_)
  show vr_J p l e _ s m args below meth c 5 0 0 G (vr_Z (vr_QI G) G args s below) 0 [(0, .ref (vr_ad G 68))] [] μ _
  have L9 : ∀ (n : Nat) (x1 : Int) (h_x1 : vr_R x1) (x2 : Int) (h_x2 : vr_R x2) (μ : vr_M), vr_J p l e ({ frames := 6, cells := 0, slots := 0, locals := 148 } : Room) s m args below meth c 5 0 0 G (vr_Z (vr_QI G) G args s below) 9 [(0, .ref (vr_ad G 68)), (1, .int (vr_I x1)), (2, .int (vr_I x2))] [] μ (fX10_judged_L9 n x1 x2 μ) := by
    intro n9
    induction n9 with
    | zero => intros; exact jr_none
    | succ n9 ih9 =>
      have B79 : ∀ (x2 : Int) (h_x2 : vr_R x2) (y0 : Int) (h_y0 : vr_R y0) (μ : vr_M), vr_J p l e ({ frames := 6, cells := 0, slots := 0, locals := 148 } : Room) s m args below meth c 5 0 0 G (vr_Z (vr_QI G) G args s below) 79 [(0, .ref (vr_ad G 68)), (2, .int (vr_I x2))] [.int (vr_I y0)] μ (fX10_judged_B79 (fX10_judged_L9 n9) x2 y0 μ) := by
        intro x2 h_x2 y0 h_y0 μ
        unfold fX10_judged_B79
        refine jr_istore_n C0 dX10_judged_79 rfl (by decide) (lv' := [(1, .int (vr_I y0)), (0, .ref (vr_ad G 68)), (2, .int (vr_I x2))]) rfl ?_
        refine jr_iinc C0 (q := 2) dX10_judged_80 rfl (by decide) (lv' := [(2, .int (vr_I (x2 + 1))), (1, .int (vr_I y0)), (0, .ref (vr_ad G 68))]) rfl ?_
        refine jr_goto C0 dX10_judged_83 (tgt := 9) (by decide) ?_
        refine jr_gd (fun g1 => ?_)
        refine jr_sub [2, 1, 0] rfl ?_
        exact ih9 y0 h_y0 (x2 + 1) g1 _
      have B78 : ∀ (x1 : Int) (h_x1 : vr_R x1) (x2 : Int) (h_x2 : vr_R x2) (μ : vr_M), vr_J p l e ({ frames := 6, cells := 0, slots := 0, locals := 148 } : Room) s m args below meth c 5 0 0 G (vr_Z (vr_QI G) G args s below) 78 [(0, .ref (vr_ad G 68)), (1, .int (vr_I x1)), (2, .int (vr_I x2))] [] μ (fX10_judged_B78 (fX10_judged_L9 n9) x1 x2 μ) := by
        intro x1 h_x1 x2 h_x2 μ
        unfold fX10_judged_B78
        refine jr_iload_n C0 1 dX10_judged_78 rfl rfl ?_
        refine jr_sub [0, 2] rfl ?_
        exact B79 x2 h_x2 x1 h_x1 _
      intro x1 h_x1 x2 h_x2 μ
      rw [fX10_judged_L9.eq_2]
      refine jr_iload_n C0 2 dX10_judged_9 rfl rfl ?_
      refine jr_aload_n C0 0 dX10_judged_10 rfl rfl ?_
      refine jr_getr C0 (by decide) kd_68 (by decide) rfl wx_X10 (i := 3) (by decide) wf_X10_18 (j := 71) rfl dX10_judged_11 ?_
      refine jr_iconst C0 dX10_judged_14 ?_
      refine jr_iald C0 (by decide) kd_71 kl_71 (by decide) (j := 5) rfl dX10_judged_15 ?_
      refine jr_gd (fun g2 => ?_)
      refine jr_icmp_ge C0 h_x2 g2 dX10_judged_16 (tgt := 86) (by decide) ?_ ?_
      · refine jr_aload_n C0 0 dX10_judged_86 rfl rfl ?_
        refine jr_vV0 C0 (by decide) kd_68 (by decide) rfl (ct_X10_putsBack l G  _) mi_X10_putsBack wm_X10_220 ⟨Nat.le_of_ble_eq_true rfl, Nat.le_of_ble_eq_true rfl⟩ ⟨rfl, rfl⟩ (As := []) rfl (st := []) rfl (Nat.le_of_ble_eq_true rfl) dX10_judged_87 (fun r3 => ?_)
        refine jr_iload_n C0 1 dX10_judged_90 rfl rfl ?_
        exact jr_iret C0 h_x1 dX10_judged_91
      refine jr_aload_n C0 0 dX10_judged_19 rfl rfl ?_
      refine jr_getr C0 (by decide) kd_68 (by decide) rfl wx_X10 (i := 1) (by decide) wf_X10_9 (j := 69) rfl dX10_judged_20 ?_
      refine jr_bipush C0 dX10_judged_23 rfl ?_
      refine jr_iald C0 (by decide) kd_69 kl_69 (by decide) (j := 8) rfl dX10_judged_25 ?_
      refine jr_istore_n C0 dX10_judged_26 rfl (by decide) (lv' := [(3, .int (vr_I (μ 69 8))), (0, .ref (vr_ad G 68)), (1, .int (vr_I x1)), (2, .int (vr_I x2))]) rfl ?_
      refine jr_aload_n C0 1 dX10_judged_27 rfl rfl ?_
      refine jr_aload_n C0 1 dX10_judged_28 rfl rfl ?_
      refine jr_getr C0 (by decide) kd_68 (by decide) rfl wx_X10 (i := 1) (by decide) wf_X10_9 (j := 69) rfl dX10_judged_29 ?_
      refine jr_sipush C0 dX10_judged_32 rfl ?_
      refine jr_iload_n C0 3 dX10_judged_35 rfl rfl ?_
      refine jr_iadd C0 dX10_judged_36 ?_
      refine jr_gd (fun g4 => ?_)
      refine jr_iald C0 (by decide) kd_69 kl_69 g4 (j := (186 + x2).toNat) rfl dX10_judged_37 ?_
      refine jr_iconst C0 dX10_judged_38 ?_
      refine jr_aload_n C0 1 dX10_judged_39 rfl rfl ?_
      refine jr_getr C0 (by decide) kd_68 (by decide) rfl wx_X10 (i := 1) (by decide) wf_X10_9 (j := 69) rfl dX10_judged_40 ?_
      refine jr_iconst C0 dX10_judged_43 ?_
      refine jr_iald C0 (by decide) kd_69 kl_69 (by decide) (j := 0) rfl dX10_judged_44 ?_
      refine jr_ishl C0 dX10_judged_45 ?_
      refine jr_iconst C0 dX10_judged_46 ?_
      refine jr_isub C0 dX10_judged_47 ?_
      refine jr_iand C0 dX10_judged_48 ?_
      refine jr_aload_n C0 1 dX10_judged_49 rfl rfl ?_
      refine jr_getr C0 (by decide) kd_68 (by decide) rfl wx_X10 (i := 1) (by decide) wf_X10_9 (j := 69) rfl dX10_judged_50 ?_
      refine jr_bipush C0 dX10_judged_53 rfl ?_
      refine jr_iald C0 (by decide) kd_69 kl_69 (by decide) (j := 7) rfl dX10_judged_55 ?_
      refine jr_iconst C0 dX10_judged_56 ?_
      refine jr_gd (fun g5 => ?_)
      refine jr_vI C0 (by decide) kd_68 (by decide) rfl (ct_X10_goesBy l G (vr_and (μ 69 (186 + x2).toNat) ((vr_shl 1 (μ 69 0)) - 1)) (vr_RT _) (μ 69 7) g5 1 (⟨by decide, by decide⟩) _) mi_X10_goesBy wm_X10_164 ⟨Nat.le_of_ble_eq_true rfl, Nat.le_of_ble_eq_true rfl⟩ ⟨rfl, rfl⟩ (As := [.int (vr_I (vr_and (μ 69 (186 + x2).toNat) ((vr_shl 1 (μ 69 0)) - 1))), .int (vr_I (μ 69 7)), .int (vr_I 1)]) rfl (st := []) rfl (Nat.le_of_ble_eq_true rfl) dX10_judged_57 (fun r6 hr6 => ?_)
      refine jr_istore C0 dX10_judged_60 (by decide) (lv' := [(4, .int (vr_I r6.1)), (3, .int (vr_I (μ 69 8))), (0, .ref (vr_ad G 68)), (1, .int (vr_I x1)), (2, .int (vr_I x2))]) rfl ?_
      refine jr_iload_n C0 3 dX10_judged_62 rfl rfl ?_
      refine jr_bipush C0 dX10_judged_63 rfl ?_
      refine jr_icmp_ne C0 h_x1 (⟨by decide, by decide⟩) dX10_judged_65 (tgt := 78) (by decide) ?_ ?_
      · refine jr_sub [2, 3, 4] rfl ?_
        exact B78 x1 h_x1 x2 h_x2 _
      refine jr_iload C0 0 dX10_judged_68 rfl ?_
      refine jr_iload_n C0 1 dX10_judged_70 rfl rfl ?_
      refine jr_gd (fun g7 => ?_)
      refine jr_icmp_ge C0 hr6 g7 dX10_judged_71 (tgt := 78) (by decide) ?_ ?_
      · refine jr_sub [2, 3, 4] rfl ?_
        exact B78 x1 h_x1 x2 h_x2 _
      refine jr_iload_n C0 4 dX10_judged_74 rfl rfl ?_
      refine jr_goto C0 dX10_judged_75 (tgt := 79) (by decide) ?_
      refine jr_sub [2, 4] rfl ?_
      exact B79 x2 h_x2 x2 h_x2 _
  unfold fX10_judged
  refine jr_aload_n C0 0 dX10_judged_0 rfl rfl ?_
  refine jr_vV0 C0 (by decide) kd_68 (by decide) rfl (ct_X10_keeps l G  _) mi_X10_keeps wm_X10_217 ⟨Nat.le_of_ble_eq_true rfl, Nat.le_of_ble_eq_true rfl⟩ ⟨rfl, rfl⟩ (As := []) rfl (st := []) rfl (Nat.le_of_ble_eq_true rfl) dX10_judged_1 (fun r8 => ?_)
  refine jr_bipush C0 dX10_judged_4 rfl ?_
  refine jr_istore_n C0 dX10_judged_6 rfl (by decide) (lv' := [(1, .int (vr_I (-5))), (0, .ref (vr_ad G 68))]) rfl ?_
  refine jr_iconst C0 dX10_judged_7 ?_
  refine jr_istore_n C0 dX10_judged_8 rfl (by decide) (lv' := [(2, .int (vr_I 0)), (1, .int (vr_I (-5))), (0, .ref (vr_ad G 68))]) rfl ?_
  refine jr_sub [2, 1, 0] rfl ?_
  exact L9 9000 (-5) (⟨by decide, by decide⟩) 0 (⟨by decide, by decide⟩) _
theorem dX10_firstHungry_0 : decode cX10_firstHungry 0 = .ok (.iconst 0, 1) := by decide +kernel
theorem dX10_firstHungry_1 : decode cX10_firstHungry 1 = .ok (.istore 5, 2) := by decide +kernel
theorem dX10_firstHungry_3 : decode cX10_firstHungry 3 = .ok (.iload 5, 2) := by decide +kernel
theorem dX10_firstHungry_5 : decode cX10_firstHungry 5 = .ok (.iload_n 3, 1) := by decide +kernel
theorem dX10_firstHungry_6 : decode cX10_firstHungry 6 = .ok (.if_icmp .ge 29, 3) := by decide +kernel
theorem dX10_firstHungry_9 : decode cX10_firstHungry 9 = .ok (.aload_n 0, 1) := by decide +kernel
theorem dX10_firstHungry_10 : decode cX10_firstHungry 10 = .ok (.iload_n 1, 1) := by decide +kernel
theorem dX10_firstHungry_11 : decode cX10_firstHungry 11 = .ok (.iload_n 2, 1) := by decide +kernel
theorem dX10_firstHungry_12 : decode cX10_firstHungry 12 = .ok (.iload 4, 2) := by decide +kernel
theorem dX10_firstHungry_14 : decode cX10_firstHungry 14 = .ok (.invokevirtual 214, 3) := by decide +kernel
theorem dX10_firstHungry_17 : decode cX10_firstHungry 17 = .ok (.istore 6, 2) := by decide +kernel
theorem dX10_firstHungry_19 : decode cX10_firstHungry 19 = .ok (.aload_n 0, 1) := by decide +kernel
theorem dX10_firstHungry_20 : decode cX10_firstHungry 20 = .ok (.getfield 211, 3) := by decide +kernel
theorem dX10_firstHungry_23 : decode cX10_firstHungry 23 = .ok (.ifCond .eq 6, 3) := by decide +kernel
theorem dX10_firstHungry_26 : decode cX10_firstHungry 26 = .ok (.iload 5, 2) := by decide +kernel
theorem dX10_firstHungry_28 : decode cX10_firstHungry 28 = .ok (.ireturn, 1) := by decide +kernel
theorem dX10_firstHungry_29 : decode cX10_firstHungry 29 = .ok (.iinc 5 1, 3) := by decide +kernel
theorem dX10_firstHungry_32 : decode cX10_firstHungry 32 = .ok (.goto (-29), 3) := by decide +kernel
theorem dX10_firstHungry_35 : decode cX10_firstHungry 35 = .ok (.bipush (-5), 2) := by decide +kernel
theorem dX10_firstHungry_37 : decode cX10_firstHungry 37 = .ok (.ireturn, 1) := by decide +kernel
def fX10_firstHungry_L3 : Nat → Int → Int → Int → Int → Int → vr_M → Option (Int × vr_M)
  | 0, _, _, _, _, _, _ => none
  | n + 1, x1, x2, x3, x4, x5, μ => if x3 ≤ x5 then some ((-5), μ) else (fX10_yearBy x1 x2 x4 μ).bind (fun r1 => vr_gd (vr_R (r1.2 68 15)) (if (r1.2 68 15) = 0 then vr_gd (vr_R (x5 + 1)) ((fX10_firstHungry_L3 n) x1 x2 x3 x4 (x5 + 1) r1.2) else some (x5, r1.2)))
def fX10_firstHungry (a0 : Int) (a1 : Int) (a2 : Int) (a3 : Int) (μ : vr_M) : Option (Int × vr_M) :=
  fX10_firstHungry_L3 9000 a0 a1 a2 a3 0 μ
set_option maxRecDepth 100000 in
set_option maxHeartbeats 4000000 in
theorem ct_X10_firstHungry (l : Launch) (G : vr_G) (a0 : Int) (h_a0 : vr_R a0) (a1 : Int) (h_a1 : vr_R a1) (a2 : Int) (h_a2 : vr_R a2) (a3 : Int) (h_a3 : vr_R a3) (μ : vr_M) : vr_CI l yX10_firstHungry cX10_firstHungry 7 (some .int) ({ frames := 9, cells := 0, slots := 0, locals := 222 } : Room) G [.ref (vr_ad G 68), .int (vr_I a0), .int (vr_I a1), .int (vr_I a2), .int (vr_I a3)] μ (fX10_firstHungry a0 a1 a2 a3 μ) := by
  refine vr_start (own := RX10) (by decide) rfl (Nat.le_of_ble_eq_true rfl) (fun p e s m args below meth c C0 => ?_)
  show vr_J p l e _ s m args below meth c 7 0 0 G (vr_Z (vr_QI G) G args s below) 0 [(0, .ref (vr_ad G 68)), (1, .int (vr_I a0)), (2, .int (vr_I a1)), (3, .int (vr_I a2)), (4, .int (vr_I a3))] [] μ _
  have L3 : ∀ (n : Nat) (x1 : Int) (h_x1 : vr_R x1) (x2 : Int) (h_x2 : vr_R x2) (x3 : Int) (h_x3 : vr_R x3) (x4 : Int) (h_x4 : vr_R x4) (x5 : Int) (h_x5 : vr_R x5) (μ : vr_M), vr_J p l e ({ frames := 9, cells := 0, slots := 0, locals := 222 } : Room) s m args below meth c 7 0 0 G (vr_Z (vr_QI G) G args s below) 3 [(0, .ref (vr_ad G 68)), (1, .int (vr_I x1)), (2, .int (vr_I x2)), (3, .int (vr_I x3)), (4, .int (vr_I x4)), (5, .int (vr_I x5))] [] μ (fX10_firstHungry_L3 n x1 x2 x3 x4 x5 μ) := by
    intro n3
    induction n3 with
    | zero => intros; exact jr_none
    | succ n3 ih3 =>
      intro x1 h_x1 x2 h_x2 x3 h_x3 x4 h_x4 x5 h_x5 μ
      rw [fX10_firstHungry_L3.eq_2]
      refine jr_iload C0 5 dX10_firstHungry_3 rfl ?_
      refine jr_iload_n C0 3 dX10_firstHungry_5 rfl rfl ?_
      refine jr_icmp_ge C0 h_x5 h_x3 dX10_firstHungry_6 (tgt := 35) (by decide) ?_ ?_
      · refine jr_bipush C0 dX10_firstHungry_35 rfl ?_
        exact jr_iret C0 (⟨by decide, by decide⟩) dX10_firstHungry_37
      refine jr_aload_n C0 0 dX10_firstHungry_9 rfl rfl ?_
      refine jr_iload_n C0 1 dX10_firstHungry_10 rfl rfl ?_
      refine jr_iload_n C0 2 dX10_firstHungry_11 rfl rfl ?_
      refine jr_iload C0 4 dX10_firstHungry_12 rfl ?_
      refine jr_vI C0 (by decide) kd_68 (by decide) rfl (ct_X10_yearBy l G x1 h_x1 x2 h_x2 x4 h_x4 _) mi_X10_yearBy wm_X10_214 ⟨Nat.le_of_ble_eq_true rfl, Nat.le_of_ble_eq_true rfl⟩ ⟨rfl, rfl⟩ (As := [.int (vr_I x1), .int (vr_I x2), .int (vr_I x4)]) rfl (st := []) rfl (Nat.le_of_ble_eq_true rfl) dX10_firstHungry_14 (fun r1 hr1 => ?_)
      refine jr_istore C0 dX10_firstHungry_17 (by decide) (lv' := [(6, .int (vr_I r1.1)), (0, .ref (vr_ad G 68)), (1, .int (vr_I x1)), (2, .int (vr_I x2)), (3, .int (vr_I x3)), (4, .int (vr_I x4)), (5, .int (vr_I x5))]) rfl ?_
      refine jr_aload_n C0 1 dX10_firstHungry_19 rfl rfl ?_
      refine jr_geti C0 (by decide) kd_68 (by decide) rfl wx_X10 (i := 15) (by decide) wf_X10_211 rfl dX10_firstHungry_20 ?_
      refine jr_gd (fun g2 => ?_)
      refine jr_if_eq C0 g2 dX10_firstHungry_23 (tgt := 29) (by decide) ?_ ?_
      · refine jr_iinc C0 (q := 6) dX10_firstHungry_29 rfl (by decide) (lv' := [(5, .int (vr_I (x5 + 1))), (6, .int (vr_I r1.1)), (0, .ref (vr_ad G 68)), (1, .int (vr_I x1)), (2, .int (vr_I x2)), (3, .int (vr_I x3)), (4, .int (vr_I x4))]) rfl ?_
        refine jr_goto C0 dX10_firstHungry_32 (tgt := 3) (by decide) ?_
        refine jr_gd (fun g3 => ?_)
        refine jr_sub [2, 3, 4, 5, 6, 0] rfl ?_
        exact ih3 x1 h_x1 x2 h_x2 x3 h_x3 x4 h_x4 (x5 + 1) g3 _
      refine jr_iload C0 6 dX10_firstHungry_26 rfl ?_
      exact jr_iret C0 h_x5 dX10_firstHungry_28
  unfold fX10_firstHungry
  refine jr_iconst C0 dX10_firstHungry_0 ?_
  refine jr_istore C0 dX10_firstHungry_1 (by decide) (lv' := [(5, .int (vr_I 0)), (0, .ref (vr_ad G 68)), (1, .int (vr_I a0)), (2, .int (vr_I a1)), (3, .int (vr_I a2)), (4, .int (vr_I a3))]) rfl ?_
  refine jr_sub [1, 2, 3, 4, 5, 0] rfl ?_
  exact L3 9000 a0 h_a0 a1 h_a1 a2 h_a2 a3 h_a3 0 (⟨by decide, by decide⟩) _

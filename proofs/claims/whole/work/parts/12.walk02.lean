theorem dX1_closes_0 : decode cX1_closes 0 = .ok (.iconst 0, 1) := by decide +kernel
theorem dX1_closes_1 : decode cX1_closes 1 = .ok (.istore_n 1, 1) := by decide +kernel
theorem dX1_closes_2 : decode cX1_closes 2 = .ok (.iload_n 1, 1) := by decide +kernel
theorem dX1_closes_3 : decode cX1_closes 3 = .ok (.sipush 200, 3) := by decide +kernel
theorem dX1_closes_6 : decode cX1_closes 6 = .ok (.if_icmp .gt 66, 3) := by decide +kernel
theorem dX1_closes_9 : decode cX1_closes 9 = .ok (.aload_n 0, 1) := by decide +kernel
theorem dX1_closes_10 : decode cX1_closes 10 = .ok (.iload_n 1, 1) := by decide +kernel
theorem dX1_closes_11 : decode cX1_closes 11 = .ok (.invokevirtual 22, 3) := by decide +kernel
theorem dX1_closes_14 : decode cX1_closes 14 = .ok (.aload_n 0, 1) := by decide +kernel
theorem dX1_closes_15 : decode cX1_closes 15 = .ok (.iload_n 1, 1) := by decide +kernel
theorem dX1_closes_16 : decode cX1_closes 16 = .ok (.invokevirtual 26, 3) := by decide +kernel
theorem dX1_closes_19 : decode cX1_closes 19 = .ok (.istore_n 2, 1) := by decide +kernel
theorem dX1_closes_20 : decode cX1_closes 20 = .ok (.iload_n 2, 1) := by decide +kernel
theorem dX1_closes_21 : decode cX1_closes 21 = .ok (.iload_n 1, 1) := by decide +kernel
theorem dX1_closes_22 : decode cX1_closes 22 = .ok (.if_icmp .ge 15, 3) := by decide +kernel
theorem dX1_closes_25 : decode cX1_closes 25 = .ok (.aload_n 0, 1) := by decide +kernel
theorem dX1_closes_26 : decode cX1_closes 26 = .ok (.iload_n 2, 1) := by decide +kernel
theorem dX1_closes_27 : decode cX1_closes 27 = .ok (.putfield 30, 3) := by decide +kernel
theorem dX1_closes_30 : decode cX1_closes 30 = .ok (.aload_n 0, 1) := by decide +kernel
theorem dX1_closes_31 : decode cX1_closes 31 = .ok (.iload_n 1, 1) := by decide +kernel
theorem dX1_closes_32 : decode cX1_closes 32 = .ok (.putfield 34, 3) := by decide +kernel
theorem dX1_closes_35 : decode cX1_closes 35 = .ok (.iconst 1, 1) := by decide +kernel
theorem dX1_closes_36 : decode cX1_closes 36 = .ok (.ireturn, 1) := by decide +kernel
theorem dX1_closes_37 : decode cX1_closes 37 = .ok (.iload_n 1, 1) := by decide +kernel
theorem dX1_closes_38 : decode cX1_closes 38 = .ok (.sipush 200, 3) := by decide +kernel
theorem dX1_closes_41 : decode cX1_closes 41 = .ok (.if_icmp .ge 25, 3) := by decide +kernel
theorem dX1_closes_44 : decode cX1_closes 44 = .ok (.aload_n 0, 1) := by decide +kernel
theorem dX1_closes_45 : decode cX1_closes 45 = .ok (.getfield 18, 3) := by decide +kernel
theorem dX1_closes_48 : decode cX1_closes 48 = .ok (.iconst 1, 1) := by decide +kernel
theorem dX1_closes_49 : decode cX1_closes 49 = .ok (.iconst 0, 1) := by decide +kernel
theorem dX1_closes_50 : decode cX1_closes 50 = .ok (.invokevirtual 37, 3) := by decide +kernel
theorem dX1_closes_53 : decode cX1_closes 53 = .ok (.aload_n 0, 1) := by decide +kernel
theorem dX1_closes_54 : decode cX1_closes 54 = .ok (.getfield 15, 3) := by decide +kernel
theorem dX1_closes_57 : decode cX1_closes 57 = .ok (.iload_n 1, 1) := by decide +kernel
theorem dX1_closes_58 : decode cX1_closes 58 = .ok (.aload_n 0, 1) := by decide +kernel
theorem dX1_closes_59 : decode cX1_closes 59 = .ok (.getfield 18, 3) := by decide +kernel
theorem dX1_closes_62 : decode cX1_closes 62 = .ok (.getfield 43, 3) := by decide +kernel
theorem dX1_closes_65 : decode cX1_closes 65 = .ok (.iastore, 1) := by decide +kernel
theorem dX1_closes_66 : decode cX1_closes 66 = .ok (.iinc 1 1, 3) := by decide +kernel
theorem dX1_closes_69 : decode cX1_closes 69 = .ok (.goto (-67), 3) := by decide +kernel
theorem dX1_closes_72 : decode cX1_closes 72 = .ok (.iconst 0, 1) := by decide +kernel
theorem dX1_closes_73 : decode cX1_closes 73 = .ok (.ireturn, 1) := by decide +kernel
def fX1_closes_B66 (rc2 : Int → vr_M → Option (Int × vr_M)) (x1 : Int) (μ : vr_M) : Option (Int × vr_M) :=
  vr_gd (vr_R (x1 + 1)) (rc2 (x1 + 1) μ)
def fX1_closes_L2 : Nat → Int → vr_M → Option (Int × vr_M)
  | 0, _, _ => none
  | n + 1, x1, μ => if 200 < x1 then some (0, μ) else (fX1_note x1 μ).bind (fun r2 => (fX1_firstLike x1 r2.2).bind (fun r3 => if x1 ≤ r3.1 then if 200 ≤ x1 then fX1_closes_B66 (fX1_closes_L2 n) x1 r3.2 else (fX7_spendYears 1 0 r3.2).bind (fun r4 => vr_gd (0 ≤ x1 ∧ x1 < 200) (fX1_closes_B66 (fX1_closes_L2 n) x1 (vr_u r4.2 65 x1.toNat (r4.2 51 8)))) else some (1, vr_u (vr_u r3.2 63 3 r3.1) 63 4 x1)))
def fX1_closes (μ : vr_M) : Option (Int × vr_M) :=
  fX1_closes_L2 9000 0 μ
set_option maxRecDepth 100000 in
set_option maxHeartbeats 4000000 in
theorem ct_X1_closes (l : Launch) (G : vr_G) (μ : vr_M) : vr_CI l yX1_closes cX1_closes 3 (some .boolean) ({ frames := 6, cells := 0, slots := 0, locals := 147 } : Room) G [.ref (vr_ad G 63)] μ (fX1_closes μ) := by
  refine vr_start (own := RX1) (by decide) rfl (Nat.le_of_ble_eq_true rfl) (fun p e s m args below meth c C0 => ?_)
  show vr_J p l e _ s m args below meth c 3 0 0 G (vr_Z (vr_QI G) G args s below) 0 [(0, .ref (vr_ad G 63))] [] μ _
  have L2 : ∀ (n : Nat) (x1 : Int) (h_x1 : vr_R x1) (μ : vr_M), vr_J p l e ({ frames := 6, cells := 0, slots := 0, locals := 147 } : Room) s m args below meth c 3 0 0 G (vr_Z (vr_QI G) G args s below) 2 [(0, .ref (vr_ad G 63)), (1, .int (vr_I x1))] [] μ (fX1_closes_L2 n x1 μ) := by
    intro n2
    induction n2 with
    | zero => intros; exact jr_none
    | succ n2 ih2 =>
      have B66 : ∀ (x1 : Int) (h_x1 : vr_R x1) (μ : vr_M), vr_J p l e ({ frames := 6, cells := 0, slots := 0, locals := 147 } : Room) s m args below meth c 3 0 0 G (vr_Z (vr_QI G) G args s below) 66 [(0, .ref (vr_ad G 63)), (1, .int (vr_I x1))] [] μ (fX1_closes_B66 (fX1_closes_L2 n2) x1 μ) := by
        intro x1 h_x1 μ
        unfold fX1_closes_B66
        refine jr_iinc C0 (q := 1) dX1_closes_66 rfl (by decide) (lv' := [(1, .int (vr_I (x1 + 1))), (0, .ref (vr_ad G 63))]) rfl ?_
        refine jr_goto C0 dX1_closes_69 (tgt := 2) (by decide) ?_
        refine jr_gd (fun g1 => ?_)
        refine jr_sub [1, 0] rfl ?_
        exact ih2 (x1 + 1) g1 _
      intro x1 h_x1 μ
      rw [fX1_closes_L2.eq_2]
      refine jr_iload_n C0 1 dX1_closes_2 rfl rfl ?_
      refine jr_sipush C0 dX1_closes_3 rfl ?_
      refine jr_icmp_gt C0 h_x1 (⟨by decide, by decide⟩) dX1_closes_6 (tgt := 72) (by decide) ?_ ?_
      · refine jr_iconst C0 dX1_closes_72 ?_
        exact jr_zret C0 (⟨by decide, by decide⟩) (vr_nz (Or.inl rfl)) dX1_closes_73
      refine jr_aload_n C0 0 dX1_closes_9 rfl rfl ?_
      refine jr_iload_n C0 1 dX1_closes_10 rfl rfl ?_
      refine jr_vV0 C0 (by decide) kd_63 (by decide) rfl (ct_X1_note l G x1 h_x1 _) mi_X1_note wm_X1_22 ⟨Nat.le_of_ble_eq_true rfl, Nat.le_of_ble_eq_true rfl⟩ ⟨rfl, rfl⟩ (As := [.int (vr_I x1)]) rfl (st := []) rfl (Nat.le_of_ble_eq_true rfl) dX1_closes_11 (fun r2 => ?_)
      refine jr_aload_n C0 0 dX1_closes_14 rfl rfl ?_
      refine jr_iload_n C0 1 dX1_closes_15 rfl rfl ?_
      refine jr_vI C0 (by decide) kd_63 (by decide) rfl (ct_X1_firstLike l G x1 h_x1 _) mi_X1_firstLike wm_X1_26 ⟨Nat.le_of_ble_eq_true rfl, Nat.le_of_ble_eq_true rfl⟩ ⟨rfl, rfl⟩ (As := [.int (vr_I x1)]) rfl (st := []) rfl (Nat.le_of_ble_eq_true rfl) dX1_closes_16 (fun r3 hr3 => ?_)
      refine jr_istore_n C0 dX1_closes_19 rfl (by decide) (lv' := [(2, .int (vr_I r3.1)), (0, .ref (vr_ad G 63)), (1, .int (vr_I x1))]) rfl ?_
      refine jr_iload_n C0 0 dX1_closes_20 rfl rfl ?_
      refine jr_iload_n C0 2 dX1_closes_21 rfl rfl ?_
      refine jr_icmp_ge C0 hr3 h_x1 dX1_closes_22 (tgt := 37) (by decide) ?_ ?_
      · refine jr_iload_n C0 2 dX1_closes_37 rfl rfl ?_
        refine jr_sipush C0 dX1_closes_38 rfl ?_
        refine jr_icmp_ge C0 h_x1 (⟨by decide, by decide⟩) dX1_closes_41 (tgt := 66) (by decide) ?_ ?_
        · refine jr_sub [1, 2] rfl ?_
          exact B66 x1 h_x1 _
        refine jr_aload_n C0 1 dX1_closes_44 rfl rfl ?_
        refine jr_getr C0 (by decide) kd_63 (by decide) rfl wx_X1 (i := 0) (by decide) wf_X1_18 (j := 51) rfl dX1_closes_45 ?_
        refine jr_iconst C0 dX1_closes_48 ?_
        refine jr_iconst C0 dX1_closes_49 ?_
        refine jr_vV0 C0 (by decide) kd_51 (by decide) rfl (ct_X7_spendYears l G 1 (⟨by decide, by decide⟩) 0 (⟨by decide, by decide⟩) _) mi_X7_spendYears wm_X1_37 ⟨Nat.le_of_ble_eq_true rfl, Nat.le_of_ble_eq_true rfl⟩ ⟨rfl, rfl⟩ (As := [.int (vr_I 1), .int (vr_I 0)]) rfl (st := []) rfl (Nat.le_of_ble_eq_true rfl) dX1_closes_50 (fun r4 => ?_)
        refine jr_aload_n C0 1 dX1_closes_53 rfl rfl ?_
        refine jr_getr C0 (by decide) kd_63 (by decide) rfl wx_X1 (i := 2) (by decide) wf_X1_15 (j := 65) rfl dX1_closes_54 ?_
        refine jr_iload_n C0 2 dX1_closes_57 rfl rfl ?_
        refine jr_aload_n C0 1 dX1_closes_58 rfl rfl ?_
        refine jr_getr C0 (by decide) kd_63 (by decide) rfl wx_X1 (i := 0) (by decide) wf_X1_18 (j := 51) rfl dX1_closes_59 ?_
        refine jr_geti C0 (by decide) kd_51 (by decide) rfl wx_X7 (i := 8) (by decide) wf_X1_43 rfl dX1_closes_62 ?_
        refine jr_gd (fun g5 => ?_)
        refine jr_iast C0 (by decide) kd_65 kl_65 g5 (j := x1.toNat) rfl dX1_closes_65 ?_
        refine jr_sub [1, 2] rfl ?_
        exact B66 x1 h_x1 _
      refine jr_aload_n C0 1 dX1_closes_25 rfl rfl ?_
      refine jr_iload_n C0 0 dX1_closes_26 rfl rfl ?_
      refine jr_puti C0 (by decide) kd_63 (by decide) rfl wx_X1 (i := 3) (by decide) wf_X1_30 rfl tyX1_ok nmX1 rfl rfl rfl dX1_closes_27 ?_
      refine jr_aload_n C0 1 dX1_closes_30 rfl rfl ?_
      refine jr_iload_n C0 2 dX1_closes_31 rfl rfl ?_
      refine jr_puti C0 (by decide) kd_63 (by decide) rfl wx_X1 (i := 4) (by decide) wf_X1_34 rfl tyX1_ok nmX1 rfl rfl rfl dX1_closes_32 ?_
      refine jr_iconst C0 dX1_closes_35 ?_
      exact jr_zret C0 (⟨by decide, by decide⟩) (vr_nz (Or.inr rfl)) dX1_closes_36
  unfold fX1_closes
  refine jr_iconst C0 dX1_closes_0 ?_
  refine jr_istore_n C0 dX1_closes_1 rfl (by decide) (lv' := [(1, .int (vr_I 0)), (0, .ref (vr_ad G 63))]) rfl ?_
  refine jr_sub [1, 0] rfl ?_
  exact L2 9000 0 (⟨by decide, by decide⟩) _
theorem dX1_leastHarvest_0 : decode cX1_leastHarvest 0 = .ok (.aload_n 0, 1) := by decide +kernel
theorem dX1_leastHarvest_1 : decode cX1_leastHarvest 1 = .ok (.getfield 30, 3) := by decide +kernel
theorem dX1_leastHarvest_4 : decode cX1_leastHarvest 4 = .ok (.iconst 0, 1) := by decide +kernel
theorem dX1_leastHarvest_5 : decode cX1_leastHarvest 5 = .ok (.invokestatic 50, 3) := by decide +kernel
theorem dX1_leastHarvest_8 : decode cX1_leastHarvest 8 = .ok (.istore_n 1, 1) := by decide +kernel
theorem dX1_leastHarvest_9 : decode cX1_leastHarvest 9 = .ok (.iload_n 1, 1) := by decide +kernel
theorem dX1_leastHarvest_10 : decode cX1_leastHarvest 10 = .ok (.sipush 200, 3) := by decide +kernel
theorem dX1_leastHarvest_13 : decode cX1_leastHarvest 13 = .ok (.if_icmp .ge 12, 3) := by decide +kernel
theorem dX1_leastHarvest_16 : decode cX1_leastHarvest 16 = .ok (.aload_n 0, 1) := by decide +kernel
theorem dX1_leastHarvest_17 : decode cX1_leastHarvest 17 = .ok (.getfield 15, 3) := by decide +kernel
theorem dX1_leastHarvest_20 : decode cX1_leastHarvest 20 = .ok (.iload_n 1, 1) := by decide +kernel
theorem dX1_leastHarvest_21 : decode cX1_leastHarvest 21 = .ok (.iaload, 1) := by decide +kernel
theorem dX1_leastHarvest_22 : decode cX1_leastHarvest 22 = .ok (.goto 4, 3) := by decide +kernel
theorem dX1_leastHarvest_25 : decode cX1_leastHarvest 25 = .ok (.iconst 0, 1) := by decide +kernel
theorem dX1_leastHarvest_26 : decode cX1_leastHarvest 26 = .ok (.istore_n 2, 1) := by decide +kernel
theorem dX1_leastHarvest_27 : decode cX1_leastHarvest 27 = .ok (.iload_n 1, 1) := by decide +kernel
theorem dX1_leastHarvest_28 : decode cX1_leastHarvest 28 = .ok (.istore_n 3, 1) := by decide +kernel
theorem dX1_leastHarvest_29 : decode cX1_leastHarvest 29 = .ok (.iload_n 3, 1) := by decide +kernel
theorem dX1_leastHarvest_30 : decode cX1_leastHarvest 30 = .ok (.aload_n 0, 1) := by decide +kernel
theorem dX1_leastHarvest_31 : decode cX1_leastHarvest 31 = .ok (.getfield 34, 3) := by decide +kernel
theorem dX1_leastHarvest_34 : decode cX1_leastHarvest 34 = .ok (.if_icmp .ge 27, 3) := by decide +kernel
theorem dX1_leastHarvest_37 : decode cX1_leastHarvest 37 = .ok (.iload_n 3, 1) := by decide +kernel
theorem dX1_leastHarvest_38 : decode cX1_leastHarvest 38 = .ok (.sipush 200, 3) := by decide +kernel
theorem dX1_leastHarvest_41 : decode cX1_leastHarvest 41 = .ok (.if_icmp .ge 20, 3) := by decide +kernel
theorem dX1_leastHarvest_44 : decode cX1_leastHarvest 44 = .ok (.iload_n 2, 1) := by decide +kernel
theorem dX1_leastHarvest_45 : decode cX1_leastHarvest 45 = .ok (.aload_n 0, 1) := by decide +kernel
theorem dX1_leastHarvest_46 : decode cX1_leastHarvest 46 = .ok (.getfield 15, 3) := by decide +kernel
theorem dX1_leastHarvest_49 : decode cX1_leastHarvest 49 = .ok (.iload_n 3, 1) := by decide +kernel
theorem dX1_leastHarvest_50 : decode cX1_leastHarvest 50 = .ok (.iaload, 1) := by decide +kernel
theorem dX1_leastHarvest_51 : decode cX1_leastHarvest 51 = .ok (.invokestatic 56, 3) := by decide +kernel
theorem dX1_leastHarvest_54 : decode cX1_leastHarvest 54 = .ok (.istore_n 2, 1) := by decide +kernel
theorem dX1_leastHarvest_55 : decode cX1_leastHarvest 55 = .ok (.iinc 3 1, 3) := by decide +kernel
theorem dX1_leastHarvest_58 : decode cX1_leastHarvest 58 = .ok (.goto (-29), 3) := by decide +kernel
theorem dX1_leastHarvest_61 : decode cX1_leastHarvest 61 = .ok (.iload_n 2, 1) := by decide +kernel
theorem dX1_leastHarvest_62 : decode cX1_leastHarvest 62 = .ok (.ireturn, 1) := by decide +kernel
def fX1_leastHarvest_B61 (x2 : Int) (μ : vr_M) : Option (Int × vr_M) :=
  some (x2, μ)
def fX1_leastHarvest_L29 : Nat → Int → Int → vr_M → Option (Int × vr_M)
  | 0, _, _, _ => none
  | n + 1, x2, x3, μ => vr_gd (vr_R (μ 63 4)) (if (μ 63 4) ≤ x3 then fX1_leastHarvest_B61 x2 μ else if 200 ≤ x3 then fX1_leastHarvest_B61 x2 μ else vr_gd (0 ≤ x3 ∧ x3 < 200) (vr_gd (vr_R (μ 65 x3.toNat)) (vr_gd (vr_R (min x2 (μ 65 x3.toNat))) (vr_gd (vr_R (x3 + 1)) ((fX1_leastHarvest_L29 n) (min x2 (μ 65 x3.toNat)) (x3 + 1) μ)))))
def fX1_leastHarvest_B26 (x1 : Int) (y0 : Int) (μ : vr_M) : Option (Int × vr_M) :=
  fX1_leastHarvest_L29 9000 y0 x1 μ
def fX1_leastHarvest (μ : vr_M) : Option (Int × vr_M) :=
  vr_gd (vr_R (μ 63 3)) (vr_gd (vr_R (max (μ 63 3) 0)) (if 200 ≤ (max (μ 63 3) 0) then fX1_leastHarvest_B26 (max (μ 63 3) 0) 0 μ else vr_gd (0 ≤ (max (μ 63 3) 0) ∧ (max (μ 63 3) 0) < 200) (vr_gd (vr_R (μ 65 (max (μ 63 3) 0).toNat)) (fX1_leastHarvest_B26 (max (μ 63 3) 0) (μ 65 (max (μ 63 3) 0).toNat) μ))))
set_option maxRecDepth 100000 in
set_option maxHeartbeats 4000000 in
theorem ct_X1_leastHarvest (l : Launch) (G : vr_G) (μ : vr_M) : vr_CI l yX1_leastHarvest cX1_leastHarvest 4 (some .int) ({ frames := 1, cells := 0, slots := 0, locals := 13 } : Room) G [.ref (vr_ad G 63)] μ (fX1_leastHarvest μ) := by
  refine vr_start (own := RX1) (by decide) rfl (Nat.le_of_ble_eq_true rfl) (fun p e s m args below meth c C0 => ?_)
  show vr_J p l e _ s m args below meth c 4 0 0 G (vr_Z (vr_QI G) G args s below) 0 [(0, .ref (vr_ad G 63))] [] μ _
  have B61 : ∀ (x2 : Int) (h_x2 : vr_R x2) (μ : vr_M), vr_J p l e ({ frames := 1, cells := 0, slots := 0, locals := 13 } : Room) s m args below meth c 4 0 0 G (vr_Z (vr_QI G) G args s below) 61 [(2, .int (vr_I x2))] [] μ (fX1_leastHarvest_B61 x2 μ) := by
    intro x2 h_x2 μ
    unfold fX1_leastHarvest_B61
    refine jr_iload_n C0 0 dX1_leastHarvest_61 rfl rfl ?_
    exact jr_iret C0 h_x2 dX1_leastHarvest_62
  have L29 : ∀ (n : Nat) (x2 : Int) (h_x2 : vr_R x2) (x3 : Int) (h_x3 : vr_R x3) (μ : vr_M), vr_J p l e ({ frames := 1, cells := 0, slots := 0, locals := 13 } : Room) s m args below meth c 4 0 0 G (vr_Z (vr_QI G) G args s below) 29 [(0, .ref (vr_ad G 63)), (2, .int (vr_I x2)), (3, .int (vr_I x3))] [] μ (fX1_leastHarvest_L29 n x2 x3 μ) := by
    intro n29
    induction n29 with
    | zero => intros; exact jr_none
    | succ n29 ih29 =>
      intro x2 h_x2 x3 h_x3 μ
      rw [fX1_leastHarvest_L29.eq_2]
      refine jr_iload_n C0 2 dX1_leastHarvest_29 rfl rfl ?_
      refine jr_aload_n C0 0 dX1_leastHarvest_30 rfl rfl ?_
      refine jr_geti C0 (by decide) kd_63 (by decide) rfl wx_X1 (i := 4) (by decide) wf_X1_34 rfl dX1_leastHarvest_31 ?_
      refine jr_gd (fun g1 => ?_)
      refine jr_icmp_ge C0 h_x3 g1 dX1_leastHarvest_34 (tgt := 61) (by decide) ?_ ?_
      · refine jr_sub [1] rfl ?_
        exact B61 x2 h_x2 _
      refine jr_iload_n C0 2 dX1_leastHarvest_37 rfl rfl ?_
      refine jr_sipush C0 dX1_leastHarvest_38 rfl ?_
      refine jr_icmp_ge C0 h_x3 (⟨by decide, by decide⟩) dX1_leastHarvest_41 (tgt := 61) (by decide) ?_ ?_
      · refine jr_sub [1] rfl ?_
        exact B61 x2 h_x2 _
      refine jr_iload_n C0 1 dX1_leastHarvest_44 rfl rfl ?_
      refine jr_aload_n C0 0 dX1_leastHarvest_45 rfl rfl ?_
      refine jr_getr C0 (by decide) kd_63 (by decide) rfl wx_X1 (i := 2) (by decide) wf_X1_15 (j := 65) rfl dX1_leastHarvest_46 ?_
      refine jr_iload_n C0 2 dX1_leastHarvest_49 rfl rfl ?_
      refine jr_gd (fun g2 => ?_)
      refine jr_iald C0 (by decide) kd_65 kl_65 g2 (j := x3.toNat) rfl dX1_leastHarvest_50 ?_
      refine jr_gd (fun g3 => ?_)
      refine jr_min C0 h_x2 g3 wm_X1_56 wt_yJ9_min_7cf53 wz_J9 wc_yJ9_min_7cf53 (Nat.le_of_ble_eq_true rfl) (Nat.le_of_ble_eq_true rfl) dX1_leastHarvest_51 ?_
      refine jr_istore_n C0 dX1_leastHarvest_54 rfl (by decide) (lv' := [(2, .int (vr_I (min x2 (μ 65 x3.toNat)))), (0, .ref (vr_ad G 63)), (3, .int (vr_I x3))]) rfl ?_
      refine jr_iinc C0 (q := 2) dX1_leastHarvest_55 rfl (by decide) (lv' := [(3, .int (vr_I (x3 + 1))), (2, .int (vr_I (min x2 (μ 65 x3.toNat)))), (0, .ref (vr_ad G 63))]) rfl ?_
      refine jr_goto C0 dX1_leastHarvest_58 (tgt := 29) (by decide) ?_
      refine jr_gd (fun g4 => ?_)
      refine jr_gd (fun g5 => ?_)
      refine jr_sub [2, 1, 0] rfl ?_
      exact ih29 (min x2 (μ 65 x3.toNat)) g4 (x3 + 1) g5 _
  have B26 : ∀ (x1 : Int) (h_x1 : vr_R x1) (y0 : Int) (h_y0 : vr_R y0) (μ : vr_M), vr_J p l e ({ frames := 1, cells := 0, slots := 0, locals := 13 } : Room) s m args below meth c 4 0 0 G (vr_Z (vr_QI G) G args s below) 26 [(0, .ref (vr_ad G 63)), (1, .int (vr_I x1))] [.int (vr_I y0)] μ (fX1_leastHarvest_B26 x1 y0 μ) := by
    intro x1 h_x1 y0 h_y0 μ
    unfold fX1_leastHarvest_B26
    refine jr_istore_n C0 dX1_leastHarvest_26 rfl (by decide) (lv' := [(2, .int (vr_I y0)), (0, .ref (vr_ad G 63)), (1, .int (vr_I x1))]) rfl ?_
    refine jr_iload_n C0 2 dX1_leastHarvest_27 rfl rfl ?_
    refine jr_istore_n C0 dX1_leastHarvest_28 rfl (by decide) (lv' := [(3, .int (vr_I x1)), (2, .int (vr_I y0)), (0, .ref (vr_ad G 63)), (1, .int (vr_I x1))]) rfl ?_
    refine jr_sub [2, 1, 0] rfl ?_
    exact L29 9000 y0 h_y0 x1 h_x1 _
  unfold fX1_leastHarvest
  refine jr_aload_n C0 0 dX1_leastHarvest_0 rfl rfl ?_
  refine jr_geti C0 (by decide) kd_63 (by decide) rfl wx_X1 (i := 3) (by decide) wf_X1_30 rfl dX1_leastHarvest_1 ?_
  refine jr_iconst C0 dX1_leastHarvest_4 ?_
  refine jr_gd (fun g6 => ?_)
  refine jr_max C0 g6 (⟨by decide, by decide⟩) wm_X1_50 wt_yJ9_max_7cf53 wz_J9 wc_yJ9_max_7cf53 (Nat.le_of_ble_eq_true rfl) (Nat.le_of_ble_eq_true rfl) dX1_leastHarvest_5 ?_
  refine jr_istore_n C0 dX1_leastHarvest_8 rfl (by decide) (lv' := [(1, .int (vr_I (max (μ 63 3) 0))), (0, .ref (vr_ad G 63))]) rfl ?_
  refine jr_iload_n C0 0 dX1_leastHarvest_9 rfl rfl ?_
  refine jr_sipush C0 dX1_leastHarvest_10 rfl ?_
  refine jr_gd (fun g7 => ?_)
  refine jr_icmp_ge C0 g7 (⟨by decide, by decide⟩) dX1_leastHarvest_13 (tgt := 25) (by decide) ?_ ?_
  · refine jr_iconst C0 dX1_leastHarvest_25 ?_
    refine jr_sub [1, 0] rfl ?_
    exact B26 (max (μ 63 3) 0) g7 0 (⟨by decide, by decide⟩) _
  refine jr_aload_n C0 1 dX1_leastHarvest_16 rfl rfl ?_
  refine jr_getr C0 (by decide) kd_63 (by decide) rfl wx_X1 (i := 2) (by decide) wf_X1_15 (j := 65) rfl dX1_leastHarvest_17 ?_
  refine jr_iload_n C0 0 dX1_leastHarvest_20 rfl rfl ?_
  refine jr_gd (fun g8 => ?_)
  refine jr_iald C0 (by decide) kd_65 kl_65 g8 (j := (max (μ 63 3) 0).toNat) rfl dX1_leastHarvest_21 ?_
  refine jr_goto C0 dX1_leastHarvest_22 (tgt := 26) (by decide) ?_
  refine jr_gd (fun g9 => ?_)
  refine jr_sub [1, 0] rfl ?_
  exact B26 (max (μ 63 3) 0) g7 (μ 65 (max (μ 63 3) 0).toNat) g9 _
theorem dX2_add_0 : decode cX2_add 0 = .ok (.aload_n 0, 1) := by decide +kernel
theorem dX2_add_1 : decode cX2_add 1 = .ok (.getfield 31, 3) := by decide +kernel
theorem dX2_add_4 : decode cX2_add 4 = .ok (.istore_n 3, 1) := by decide +kernel
theorem dX2_add_5 : decode cX2_add 5 = .ok (.iload_n 3, 1) := by decide +kernel
theorem dX2_add_6 : decode cX2_add 6 = .ok (.ifCond .lt 55, 3) := by decide +kernel
theorem dX2_add_9 : decode cX2_add 9 = .ok (.iload_n 3, 1) := by decide +kernel
theorem dX2_add_10 : decode cX2_add 10 = .ok (.bipush 8, 2) := by decide +kernel
theorem dX2_add_12 : decode cX2_add 12 = .ok (.if_icmp .ge 49, 3) := by decide +kernel
theorem dX2_add_15 : decode cX2_add 15 = .ok (.aload_n 0, 1) := by decide +kernel
theorem dX2_add_16 : decode cX2_add 16 = .ok (.getfield 9, 3) := by decide +kernel
theorem dX2_add_19 : decode cX2_add 19 = .ok (.iload_n 3, 1) := by decide +kernel
theorem dX2_add_20 : decode cX2_add 20 = .ok (.iload_n 1, 1) := by decide +kernel
theorem dX2_add_21 : decode cX2_add 21 = .ok (.iastore, 1) := by decide +kernel
theorem dX2_add_22 : decode cX2_add 22 = .ok (.aload_n 0, 1) := by decide +kernel
theorem dX2_add_23 : decode cX2_add 23 = .ok (.getfield 15, 3) := by decide +kernel
theorem dX2_add_26 : decode cX2_add 26 = .ok (.iload_n 3, 1) := by decide +kernel
theorem dX2_add_27 : decode cX2_add 27 = .ok (.iload_n 2, 1) := by decide +kernel
theorem dX2_add_28 : decode cX2_add 28 = .ok (.iastore, 1) := by decide +kernel
theorem dX2_add_29 : decode cX2_add 29 = .ok (.aload_n 0, 1) := by decide +kernel
theorem dX2_add_30 : decode cX2_add 30 = .ok (.getfield 18, 3) := by decide +kernel
theorem dX2_add_33 : decode cX2_add 33 = .ok (.iload_n 3, 1) := by decide +kernel
theorem dX2_add_34 : decode cX2_add 34 = .ok (.iconst 0, 1) := by decide +kernel
theorem dX2_add_35 : decode cX2_add 35 = .ok (.iastore, 1) := by decide +kernel
theorem dX2_add_36 : decode cX2_add 36 = .ok (.aload_n 0, 1) := by decide +kernel
theorem dX2_add_37 : decode cX2_add 37 = .ok (.getfield 21, 3) := by decide +kernel
theorem dX2_add_40 : decode cX2_add 40 = .ok (.iload_n 3, 1) := by decide +kernel
theorem dX2_add_41 : decode cX2_add 41 = .ok (.bipush 30, 2) := by decide +kernel
theorem dX2_add_43 : decode cX2_add 43 = .ok (.iastore, 1) := by decide +kernel
theorem dX2_add_44 : decode cX2_add 44 = .ok (.aload_n 0, 1) := by decide +kernel
theorem dX2_add_45 : decode cX2_add 45 = .ok (.getfield 24, 3) := by decide +kernel
theorem dX2_add_48 : decode cX2_add 48 = .ok (.iload_n 3, 1) := by decide +kernel
theorem dX2_add_49 : decode cX2_add 49 = .ok (.iconst 0, 1) := by decide +kernel
theorem dX2_add_50 : decode cX2_add 50 = .ok (.iastore, 1) := by decide +kernel
theorem dX2_add_51 : decode cX2_add 51 = .ok (.aload_n 0, 1) := by decide +kernel
theorem dX2_add_52 : decode cX2_add 52 = .ok (.dup, 1) := by decide +kernel
theorem dX2_add_53 : decode cX2_add 53 = .ok (.getfield 31, 3) := by decide +kernel
theorem dX2_add_56 : decode cX2_add 56 = .ok (.iconst 1, 1) := by decide +kernel
theorem dX2_add_57 : decode cX2_add 57 = .ok (.iadd, 1) := by decide +kernel
theorem dX2_add_58 : decode cX2_add 58 = .ok (.putfield 31, 3) := by decide +kernel
theorem dX2_add_61 : decode cX2_add 61 = .ok (.iload_n 3, 1) := by decide +kernel
theorem dX2_add_62 : decode cX2_add 62 = .ok (.ireturn, 1) := by decide +kernel
def fX2_add_B61 (k : Nat) (x3 : Int) (μ : vr_M) : Option (Int × vr_M) :=
  some (x3, μ)
def fX2_add (k : Nat) (a0 : Int) (a1 : Int) (μ : vr_M) : Option (Int × vr_M) :=
  vr_gd (vr_R (μ k 5)) (if (μ k 5) < 0 then fX2_add_B61 k (μ k 5) μ else if 8 ≤ (μ k 5) then fX2_add_B61 k (μ k 5) μ else vr_gd (0 ≤ (μ k 5) ∧ (μ k 5) < 8) (vr_let (vr_u (vr_u (vr_u (vr_u (vr_u μ (k + 1) (μ k 5).toNat a0) (k + 2) (μ k 5).toNat a1) (k + 3) (μ k 5).toNat 0) (k + 4) (μ k 5).toNat 30) (k + 5) (μ k 5).toNat 0) (fun μ3 => fX2_add_B61 k (μ k 5) (vr_u μ3 k 5 ((μ3 k 5) + 1)))))
set_option maxRecDepth 100000 in
set_option maxHeartbeats 4000000 in
theorem ct_X2_add (l : Launch) (G : vr_G) {k : Nat} (hk_k : k < 78) (hd_k : vr_kd k = 2) (a0 : Int) (h_a0 : vr_R a0) (a1 : Int) (h_a1 : vr_R a1) (μ : vr_M) : vr_CI l yX2_add cX2_add 4 (some .int) ({ frames := 0, cells := 0, slots := 0, locals := 0 } : Room) G [.ref (vr_ad G k), .int (vr_I a0), .int (vr_I a1)] μ (fX2_add k a0 a1 μ) := by
  refine vr_start (own := RX2) (by decide) rfl (Nat.le_of_ble_eq_true rfl) (fun p e s m args below meth c C0 => ?_)
  obtain ⟨q_k, ⟨d_k_1, d_k_2, d_k_3, d_k_4, d_k_5⟩, n_k_1, n_k_2, n_k_3, n_k_4, n_k_5⟩ := vr_hill hk_k hd_k
  show vr_J p l e _ s m args below meth c 4 0 0 G (vr_Z (vr_QI G) G args s below) 0 [(0, .ref (vr_ad G k)), (1, .int (vr_I a0)), (2, .int (vr_I a1))] [] μ _
  have B61 : ∀ (x3 : Int) (h_x3 : vr_R x3) (μ : vr_M), vr_J p l e ({ frames := 0, cells := 0, slots := 0, locals := 0 } : Room) s m args below meth c 4 0 0 G (vr_Z (vr_QI G) G args s below) 61 [(3, .int (vr_I x3))] [] μ (fX2_add_B61 k x3 μ) := by
    intro x3 h_x3 μ
    unfold fX2_add_B61
    refine jr_iload_n C0 0 dX2_add_61 rfl rfl ?_
    exact jr_iret C0 h_x3 dX2_add_62
  unfold fX2_add
  refine jr_aload_n C0 0 dX2_add_0 rfl rfl ?_
  refine jr_geti C0 hk_k hd_k (by decide) rfl wx_X2 (i := 5) (by decide) wf_X2_31 rfl dX2_add_1 ?_
  refine jr_istore_n C0 dX2_add_4 rfl (by decide) (lv' := [(3, .int (vr_I (μ k 5))), (0, .ref (vr_ad G k)), (1, .int (vr_I a0)), (2, .int (vr_I a1))]) rfl ?_
  refine jr_iload_n C0 0 dX2_add_5 rfl rfl ?_
  refine jr_gd (fun g1 => ?_)
  refine jr_if_lt C0 g1 dX2_add_6 (tgt := 61) (by decide) ?_ ?_
  · refine jr_sub [0] rfl ?_
    exact B61 (μ k 5) g1 _
  refine jr_iload_n C0 0 dX2_add_9 rfl rfl ?_
  refine jr_bipush C0 dX2_add_10 rfl ?_
  refine jr_icmp_ge C0 g1 (⟨by decide, by decide⟩) dX2_add_12 (tgt := 61) (by decide) ?_ ?_
  · refine jr_sub [0] rfl ?_
    exact B61 (μ k 5) g1 _
  refine jr_aload_n C0 1 dX2_add_15 rfl rfl ?_
  refine jr_getr C0 hk_k hd_k (by decide) rfl wx_X2 (i := 0) (by decide) wf_X2_9 (j := (k + 1)) rfl dX2_add_16 ?_
  refine jr_iload_n C0 0 dX2_add_19 rfl rfl ?_
  refine jr_iload_n C0 2 dX2_add_20 rfl rfl ?_
  refine jr_gd (fun g2 => ?_)
  refine jr_iast C0 (by omega) d_k_1 n_k_1 g2 (j := (μ k 5).toNat) rfl dX2_add_21 ?_
  refine jr_aload_n C0 1 dX2_add_22 rfl rfl ?_
  refine jr_getr C0 hk_k hd_k (by decide) rfl wx_X2 (i := 1) (by decide) wf_X2_15 (j := (k + 2)) rfl dX2_add_23 ?_
  refine jr_iload_n C0 0 dX2_add_26 rfl rfl ?_
  refine jr_iload_n C0 3 dX2_add_27 rfl rfl ?_
  refine jr_iast C0 (by omega) d_k_2 n_k_2 g2 (j := (μ k 5).toNat) rfl dX2_add_28 ?_
  refine jr_aload_n C0 1 dX2_add_29 rfl rfl ?_
  refine jr_getr C0 hk_k hd_k (by decide) rfl wx_X2 (i := 2) (by decide) wf_X2_18 (j := (k + 3)) rfl dX2_add_30 ?_
  refine jr_iload_n C0 0 dX2_add_33 rfl rfl ?_
  refine jr_iconst C0 dX2_add_34 ?_
  refine jr_iast C0 (by omega) d_k_3 n_k_3 g2 (j := (μ k 5).toNat) rfl dX2_add_35 ?_
  refine jr_aload_n C0 1 dX2_add_36 rfl rfl ?_
  refine jr_getr C0 hk_k hd_k (by decide) rfl wx_X2 (i := 3) (by decide) wf_X2_21 (j := (k + 4)) rfl dX2_add_37 ?_
  refine jr_iload_n C0 0 dX2_add_40 rfl rfl ?_
  refine jr_bipush C0 dX2_add_41 rfl ?_
  refine jr_iast C0 (by omega) d_k_4 n_k_4 g2 (j := (μ k 5).toNat) rfl dX2_add_43 ?_
  refine jr_aload_n C0 1 dX2_add_44 rfl rfl ?_
  refine jr_getr C0 hk_k hd_k (by decide) rfl wx_X2 (i := 4) (by decide) wf_X2_24 (j := (k + 5)) rfl dX2_add_45 ?_
  refine jr_iload_n C0 0 dX2_add_48 rfl rfl ?_
  refine jr_iconst C0 dX2_add_49 ?_
  refine jr_iast C0 (by omega) d_k_5 n_k_5 g2 (j := (μ k 5).toNat) rfl dX2_add_50 ?_
  refine jr_aload_n C0 1 dX2_add_51 rfl rfl ?_
  refine jr_dup C0 rfl dX2_add_52 ?_
  refine jr_let (fun μ3 => ?_)
  refine jr_geti C0 hk_k hd_k (by decide) rfl wx_X2 (i := 5) (by decide) wf_X2_31 rfl dX2_add_53 ?_
  refine jr_iconst C0 dX2_add_56 ?_
  refine jr_iadd C0 dX2_add_57 ?_
  refine jr_puti C0 hk_k hd_k (by decide) rfl wx_X2 (i := 5) (by decide) wf_X2_31 rfl tyX2_ok nmX2 rfl rfl rfl dX2_add_58 ?_
  refine jr_sub [0] rfl ?_
  exact B61 (μ k 5) g1 _
theorem dX2_become_0 : decode cX2_become 0 = .ok (.iconst 0, 1) := by decide +kernel
theorem dX2_become_1 : decode cX2_become 1 = .ok (.istore_n 2, 1) := by decide +kernel
theorem dX2_become_2 : decode cX2_become 2 = .ok (.iload_n 2, 1) := by decide +kernel
theorem dX2_become_3 : decode cX2_become 3 = .ok (.bipush 8, 2) := by decide +kernel
theorem dX2_become_5 : decode cX2_become 5 = .ok (.if_icmp .ge 69, 3) := by decide +kernel
theorem dX2_become_8 : decode cX2_become 8 = .ok (.aload_n 0, 1) := by decide +kernel
theorem dX2_become_9 : decode cX2_become 9 = .ok (.getfield 9, 3) := by decide +kernel
theorem dX2_become_12 : decode cX2_become 12 = .ok (.iload_n 2, 1) := by decide +kernel
theorem dX2_become_13 : decode cX2_become 13 = .ok (.aload_n 1, 1) := by decide +kernel
theorem dX2_become_14 : decode cX2_become 14 = .ok (.getfield 9, 3) := by decide +kernel
theorem dX2_become_17 : decode cX2_become 17 = .ok (.iload_n 2, 1) := by decide +kernel
theorem dX2_become_18 : decode cX2_become 18 = .ok (.iaload, 1) := by decide +kernel
theorem dX2_become_19 : decode cX2_become 19 = .ok (.iastore, 1) := by decide +kernel
theorem dX2_become_20 : decode cX2_become 20 = .ok (.aload_n 0, 1) := by decide +kernel
theorem dX2_become_21 : decode cX2_become 21 = .ok (.getfield 15, 3) := by decide +kernel
theorem dX2_become_24 : decode cX2_become 24 = .ok (.iload_n 2, 1) := by decide +kernel
theorem dX2_become_25 : decode cX2_become 25 = .ok (.aload_n 1, 1) := by decide +kernel
theorem dX2_become_26 : decode cX2_become 26 = .ok (.getfield 15, 3) := by decide +kernel
theorem dX2_become_29 : decode cX2_become 29 = .ok (.iload_n 2, 1) := by decide +kernel
theorem dX2_become_30 : decode cX2_become 30 = .ok (.iaload, 1) := by decide +kernel
theorem dX2_become_31 : decode cX2_become 31 = .ok (.iastore, 1) := by decide +kernel
theorem dX2_become_32 : decode cX2_become 32 = .ok (.aload_n 0, 1) := by decide +kernel
theorem dX2_become_33 : decode cX2_become 33 = .ok (.getfield 18, 3) := by decide +kernel
theorem dX2_become_36 : decode cX2_become 36 = .ok (.iload_n 2, 1) := by decide +kernel
theorem dX2_become_37 : decode cX2_become 37 = .ok (.aload_n 1, 1) := by decide +kernel
theorem dX2_become_38 : decode cX2_become 38 = .ok (.getfield 18, 3) := by decide +kernel
theorem dX2_become_41 : decode cX2_become 41 = .ok (.iload_n 2, 1) := by decide +kernel
theorem dX2_become_42 : decode cX2_become 42 = .ok (.iaload, 1) := by decide +kernel
theorem dX2_become_43 : decode cX2_become 43 = .ok (.iastore, 1) := by decide +kernel
theorem dX2_become_44 : decode cX2_become 44 = .ok (.aload_n 0, 1) := by decide +kernel
theorem dX2_become_45 : decode cX2_become 45 = .ok (.getfield 21, 3) := by decide +kernel
theorem dX2_become_48 : decode cX2_become 48 = .ok (.iload_n 2, 1) := by decide +kernel
theorem dX2_become_49 : decode cX2_become 49 = .ok (.aload_n 1, 1) := by decide +kernel
theorem dX2_become_50 : decode cX2_become 50 = .ok (.getfield 21, 3) := by decide +kernel
theorem dX2_become_53 : decode cX2_become 53 = .ok (.iload_n 2, 1) := by decide +kernel
theorem dX2_become_54 : decode cX2_become 54 = .ok (.iaload, 1) := by decide +kernel
theorem dX2_become_55 : decode cX2_become 55 = .ok (.iastore, 1) := by decide +kernel
theorem dX2_become_56 : decode cX2_become 56 = .ok (.aload_n 0, 1) := by decide +kernel
theorem dX2_become_57 : decode cX2_become 57 = .ok (.getfield 24, 3) := by decide +kernel
theorem dX2_become_60 : decode cX2_become 60 = .ok (.iload_n 2, 1) := by decide +kernel
theorem dX2_become_61 : decode cX2_become 61 = .ok (.aload_n 1, 1) := by decide +kernel
theorem dX2_become_62 : decode cX2_become 62 = .ok (.getfield 24, 3) := by decide +kernel
theorem dX2_become_65 : decode cX2_become 65 = .ok (.iload_n 2, 1) := by decide +kernel
theorem dX2_become_66 : decode cX2_become 66 = .ok (.iaload, 1) := by decide +kernel
theorem dX2_become_67 : decode cX2_become 67 = .ok (.iastore, 1) := by decide +kernel
theorem dX2_become_68 : decode cX2_become 68 = .ok (.iinc 2 1, 3) := by decide +kernel
theorem dX2_become_71 : decode cX2_become 71 = .ok (.goto (-69), 3) := by decide +kernel
theorem dX2_become_74 : decode cX2_become 74 = .ok (.aload_n 0, 1) := by decide +kernel
theorem dX2_become_75 : decode cX2_become 75 = .ok (.aload_n 1, 1) := by decide +kernel
theorem dX2_become_76 : decode cX2_become 76 = .ok (.getfield 31, 3) := by decide +kernel
theorem dX2_become_79 : decode cX2_become 79 = .ok (.putfield 31, 3) := by decide +kernel
theorem dX2_become_82 : decode cX2_become 82 = .ok (.aload_n 0, 1) := by decide +kernel
theorem dX2_become_83 : decode cX2_become 83 = .ok (.aload_n 1, 1) := by decide +kernel
theorem dX2_become_84 : decode cX2_become 84 = .ok (.getfield 34, 3) := by decide +kernel
theorem dX2_become_87 : decode cX2_become 87 = .ok (.putfield 34, 3) := by decide +kernel
theorem dX2_become_90 : decode cX2_become 90 = .ok (.aload_n 0, 1) := by decide +kernel
theorem dX2_become_91 : decode cX2_become 91 = .ok (.aload_n 1, 1) := by decide +kernel
theorem dX2_become_92 : decode cX2_become 92 = .ok (.getfield 27, 3) := by decide +kernel
theorem dX2_become_95 : decode cX2_become 95 = .ok (.putfield 27, 3) := by decide +kernel
theorem dX2_become_98 : decode cX2_become 98 = .ok (.aload_n 0, 1) := by decide +kernel
theorem dX2_become_99 : decode cX2_become 99 = .ok (.aload_n 1, 1) := by decide +kernel
theorem dX2_become_100 : decode cX2_become 100 = .ok (.getfield 37, 3) := by decide +kernel
theorem dX2_become_103 : decode cX2_become 103 = .ok (.putfield 37, 3) := by decide +kernel
theorem dX2_become_106 : decode cX2_become 106 = .ok (.return_, 1) := by decide +kernel
def fX2_become_L2 (k : Nat) (k0 : Nat) : Nat → Int → vr_M → Option (Int × vr_M)
  | 0, _, _ => none
  | n + 1, x2, μ => if 8 ≤ x2 then vr_let (vr_u μ k 5 (μ k0 5)) (fun μ1 => vr_let (vr_u μ1 k 6 (μ1 k0 6)) (fun μ2 => vr_let (vr_u μ2 k 7 (μ2 k0 7)) (fun μ3 => some (0, vr_u μ3 k 8 (μ3 k0 8))))) else vr_gd (0 ≤ x2 ∧ x2 < 8) (vr_let (vr_u μ (k + 1) x2.toNat (μ (k0 + 1) x2.toNat)) (fun μ5 => vr_let (vr_u μ5 (k + 2) x2.toNat (μ5 (k0 + 2) x2.toNat)) (fun μ6 => vr_let (vr_u μ6 (k + 3) x2.toNat (μ6 (k0 + 3) x2.toNat)) (fun μ7 => vr_let (vr_u μ7 (k + 4) x2.toNat (μ7 (k0 + 4) x2.toNat)) (fun μ8 => vr_gd (vr_R (x2 + 1)) ((fX2_become_L2 k k0 n) (x2 + 1) (vr_u μ8 (k + 5) x2.toNat (μ8 (k0 + 5) x2.toNat))))))))
def fX2_become (k : Nat) (k0 : Nat) (μ : vr_M) : Option (Int × vr_M) :=
  fX2_become_L2 k k0 9000 0 μ
set_option maxRecDepth 100000 in
set_option maxHeartbeats 4000000 in
theorem ct_X2_become (l : Launch) (G : vr_G) {k : Nat} (hk_k : k < 78) (hd_k : vr_kd k = 2) {k0 : Nat} (hk_k0 : k0 < 78) (hd_k0 : vr_kd k0 = 2) (μ : vr_M) : vr_CV l yX2_become cX2_become 3 none ({ frames := 0, cells := 0, slots := 0, locals := 0 } : Room) G [.ref (vr_ad G k), .ref (vr_ad G k0)] μ (fX2_become k k0 μ) := by
  refine vr_start (own := RX2) (by decide) rfl (Nat.le_of_ble_eq_true rfl) (fun p e s m args below meth c C0 => ?_)
  obtain ⟨q_k, ⟨d_k_1, d_k_2, d_k_3, d_k_4, d_k_5⟩, n_k_1, n_k_2, n_k_3, n_k_4, n_k_5⟩ := vr_hill hk_k hd_k
  obtain ⟨q_k0, ⟨d_k0_1, d_k0_2, d_k0_3, d_k0_4, d_k0_5⟩, n_k0_1, n_k0_2, n_k0_3, n_k0_4, n_k0_5⟩ := vr_hill hk_k0 hd_k0
  show vr_J p l e _ s m args below meth c 3 0 0 G (vr_Z (vr_QV G) G args s below) 0 [(0, .ref (vr_ad G k)), (1, .ref (vr_ad G k0))] [] μ _
  have L2 : ∀ (n : Nat) (x2 : Int) (h_x2 : vr_R x2) (μ : vr_M), vr_J p l e ({ frames := 0, cells := 0, slots := 0, locals := 0 } : Room) s m args below meth c 3 0 0 G (vr_Z (vr_QV G) G args s below) 2 [(0, .ref (vr_ad G k)), (1, .ref (vr_ad G k0)), (2, .int (vr_I x2))] [] μ (fX2_become_L2 k k0 n x2 μ) := by
    intro n2
    induction n2 with
    | zero => intros; exact jr_none
    | succ n2 ih2 =>
      intro x2 h_x2 μ
      rw [fX2_become_L2.eq_2]
      refine jr_iload_n C0 2 dX2_become_2 rfl rfl ?_
      refine jr_bipush C0 dX2_become_3 rfl ?_
      refine jr_icmp_ge C0 h_x2 (⟨by decide, by decide⟩) dX2_become_5 (tgt := 74) (by decide) ?_ ?_
      · refine jr_aload_n C0 0 dX2_become_74 rfl rfl ?_
        refine jr_aload_n C0 1 dX2_become_75 rfl rfl ?_
        refine jr_geti C0 hk_k0 hd_k0 (by decide) rfl wx_X2 (i := 5) (by decide) wf_X2_31 rfl dX2_become_76 ?_
        refine jr_puti C0 hk_k hd_k (by decide) rfl wx_X2 (i := 5) (by decide) wf_X2_31 rfl tyX2_ok nmX2 rfl rfl rfl dX2_become_79 ?_
        refine jr_aload_n C0 0 dX2_become_82 rfl rfl ?_
        refine jr_aload_n C0 1 dX2_become_83 rfl rfl ?_
        refine jr_let (fun μ1 => ?_)
        refine jr_geti C0 hk_k0 hd_k0 (by decide) rfl wx_X2 (i := 6) (by decide) wf_X2_34 rfl dX2_become_84 ?_
        refine jr_puti C0 hk_k hd_k (by decide) rfl wx_X2 (i := 6) (by decide) wf_X2_34 rfl tyX2_ok nmX2 rfl rfl rfl dX2_become_87 ?_
        refine jr_aload_n C0 0 dX2_become_90 rfl rfl ?_
        refine jr_aload_n C0 1 dX2_become_91 rfl rfl ?_
        refine jr_let (fun μ2 => ?_)
        refine jr_geti C0 hk_k0 hd_k0 (by decide) rfl wx_X2 (i := 7) (by decide) wf_X2_27 rfl dX2_become_92 ?_
        refine jr_puti C0 hk_k hd_k (by decide) rfl wx_X2 (i := 7) (by decide) wf_X2_27 rfl tyX2_ok nmX2 rfl rfl rfl dX2_become_95 ?_
        refine jr_aload_n C0 0 dX2_become_98 rfl rfl ?_
        refine jr_aload_n C0 1 dX2_become_99 rfl rfl ?_
        refine jr_let (fun μ3 => ?_)
        refine jr_geti C0 hk_k0 hd_k0 (by decide) rfl wx_X2 (i := 8) (by decide) wf_X2_37 rfl dX2_become_100 ?_
        refine jr_puti C0 hk_k hd_k (by decide) rfl wx_X2 (i := 8) (by decide) wf_X2_37 rfl tyX2_ok nmX2 rfl rfl rfl dX2_become_103 ?_
        exact jr_vret C0 dX2_become_106
      refine jr_aload_n C0 0 dX2_become_8 rfl rfl ?_
      refine jr_getr C0 hk_k hd_k (by decide) rfl wx_X2 (i := 0) (by decide) wf_X2_9 (j := (k + 1)) rfl dX2_become_9 ?_
      refine jr_iload_n C0 2 dX2_become_12 rfl rfl ?_
      refine jr_aload_n C0 1 dX2_become_13 rfl rfl ?_
      refine jr_getr C0 hk_k0 hd_k0 (by decide) rfl wx_X2 (i := 0) (by decide) wf_X2_9 (j := (k0 + 1)) rfl dX2_become_14 ?_
      refine jr_iload_n C0 2 dX2_become_17 rfl rfl ?_
      refine jr_gd (fun g4 => ?_)
      refine jr_iald C0 (by omega) d_k0_1 n_k0_1 g4 (j := x2.toNat) rfl dX2_become_18 ?_
      refine jr_iast C0 (by omega) d_k_1 n_k_1 g4 (j := x2.toNat) rfl dX2_become_19 ?_
      refine jr_aload_n C0 0 dX2_become_20 rfl rfl ?_
      refine jr_getr C0 hk_k hd_k (by decide) rfl wx_X2 (i := 1) (by decide) wf_X2_15 (j := (k + 2)) rfl dX2_become_21 ?_
      refine jr_iload_n C0 2 dX2_become_24 rfl rfl ?_
      refine jr_aload_n C0 1 dX2_become_25 rfl rfl ?_
      refine jr_getr C0 hk_k0 hd_k0 (by decide) rfl wx_X2 (i := 1) (by decide) wf_X2_15 (j := (k0 + 2)) rfl dX2_become_26 ?_
      refine jr_iload_n C0 2 dX2_become_29 rfl rfl ?_
      refine jr_let (fun μ5 => ?_)
      refine jr_iald C0 (by omega) d_k0_2 n_k0_2 g4 (j := x2.toNat) rfl dX2_become_30 ?_
      refine jr_iast C0 (by omega) d_k_2 n_k_2 g4 (j := x2.toNat) rfl dX2_become_31 ?_
      refine jr_aload_n C0 0 dX2_become_32 rfl rfl ?_
      refine jr_getr C0 hk_k hd_k (by decide) rfl wx_X2 (i := 2) (by decide) wf_X2_18 (j := (k + 3)) rfl dX2_become_33 ?_
      refine jr_iload_n C0 2 dX2_become_36 rfl rfl ?_
      refine jr_aload_n C0 1 dX2_become_37 rfl rfl ?_
      refine jr_getr C0 hk_k0 hd_k0 (by decide) rfl wx_X2 (i := 2) (by decide) wf_X2_18 (j := (k0 + 3)) rfl dX2_become_38 ?_
      refine jr_iload_n C0 2 dX2_become_41 rfl rfl ?_
      refine jr_let (fun μ6 => ?_)
      refine jr_iald C0 (by omega) d_k0_3 n_k0_3 g4 (j := x2.toNat) rfl dX2_become_42 ?_
      refine jr_iast C0 (by omega) d_k_3 n_k_3 g4 (j := x2.toNat) rfl dX2_become_43 ?_
      refine jr_aload_n C0 0 dX2_become_44 rfl rfl ?_
      refine jr_getr C0 hk_k hd_k (by decide) rfl wx_X2 (i := 3) (by decide) wf_X2_21 (j := (k + 4)) rfl dX2_become_45 ?_
      refine jr_iload_n C0 2 dX2_become_48 rfl rfl ?_
      refine jr_aload_n C0 1 dX2_become_49 rfl rfl ?_
      refine jr_getr C0 hk_k0 hd_k0 (by decide) rfl wx_X2 (i := 3) (by decide) wf_X2_21 (j := (k0 + 4)) rfl dX2_become_50 ?_
      refine jr_iload_n C0 2 dX2_become_53 rfl rfl ?_
      refine jr_let (fun μ7 => ?_)
      refine jr_iald C0 (by omega) d_k0_4 n_k0_4 g4 (j := x2.toNat) rfl dX2_become_54 ?_
      refine jr_iast C0 (by omega) d_k_4 n_k_4 g4 (j := x2.toNat) rfl dX2_become_55 ?_
      refine jr_aload_n C0 0 dX2_become_56 rfl rfl ?_
      refine jr_getr C0 hk_k hd_k (by decide) rfl wx_X2 (i := 4) (by decide) wf_X2_24 (j := (k + 5)) rfl dX2_become_57 ?_
      refine jr_iload_n C0 2 dX2_become_60 rfl rfl ?_
      refine jr_aload_n C0 1 dX2_become_61 rfl rfl ?_
      refine jr_getr C0 hk_k0 hd_k0 (by decide) rfl wx_X2 (i := 4) (by decide) wf_X2_24 (j := (k0 + 5)) rfl dX2_become_62 ?_
      refine jr_iload_n C0 2 dX2_become_65 rfl rfl ?_
      refine jr_let (fun μ8 => ?_)
      refine jr_iald C0 (by omega) d_k0_5 n_k0_5 g4 (j := x2.toNat) rfl dX2_become_66 ?_
      refine jr_iast C0 (by omega) d_k_5 n_k_5 g4 (j := x2.toNat) rfl dX2_become_67 ?_
      refine jr_iinc C0 (q := 2) dX2_become_68 rfl (by decide) (lv' := [(2, .int (vr_I (x2 + 1))), (0, .ref (vr_ad G k)), (1, .ref (vr_ad G k0))]) rfl ?_
      refine jr_goto C0 dX2_become_71 (tgt := 2) (by decide) ?_
      refine jr_gd (fun g9 => ?_)
      refine jr_sub [1, 2, 0] rfl ?_
      exact ih2 (x2 + 1) g9 _
  unfold fX2_become
  refine jr_iconst C0 dX2_become_0 ?_
  refine jr_istore_n C0 dX2_become_1 rfl (by decide) (lv' := [(2, .int (vr_I 0)), (0, .ref (vr_ad G k)), (1, .ref (vr_ad G k0))]) rfl ?_
  refine jr_sub [1, 2, 0] rfl ?_
  exact L2 9000 0 (⟨by decide, by decide⟩) _
theorem dX2_isMoreWornThan_0 : decode cX2_isMoreWornThan 0 = .ok (.iconst 0, 1) := by decide +kernel
theorem dX2_isMoreWornThan_1 : decode cX2_isMoreWornThan 1 = .ok (.istore_n 2, 1) := by decide +kernel
theorem dX2_isMoreWornThan_2 : decode cX2_isMoreWornThan 2 = .ok (.iload_n 2, 1) := by decide +kernel
theorem dX2_isMoreWornThan_3 : decode cX2_isMoreWornThan 3 = .ok (.bipush 8, 2) := by decide +kernel
theorem dX2_isMoreWornThan_5 : decode cX2_isMoreWornThan 5 = .ok (.if_icmp .ge 34, 3) := by decide +kernel
theorem dX2_isMoreWornThan_8 : decode cX2_isMoreWornThan 8 = .ok (.iload_n 2, 1) := by decide +kernel
theorem dX2_isMoreWornThan_9 : decode cX2_isMoreWornThan 9 = .ok (.aload_n 0, 1) := by decide +kernel
theorem dX2_isMoreWornThan_10 : decode cX2_isMoreWornThan 10 = .ok (.getfield 31, 3) := by decide +kernel
theorem dX2_isMoreWornThan_13 : decode cX2_isMoreWornThan 13 = .ok (.if_icmp .ge 20, 3) := by decide +kernel
theorem dX2_isMoreWornThan_16 : decode cX2_isMoreWornThan 16 = .ok (.aload_n 0, 1) := by decide +kernel
theorem dX2_isMoreWornThan_17 : decode cX2_isMoreWornThan 17 = .ok (.getfield 24, 3) := by decide +kernel
theorem dX2_isMoreWornThan_20 : decode cX2_isMoreWornThan 20 = .ok (.iload_n 2, 1) := by decide +kernel
theorem dX2_isMoreWornThan_21 : decode cX2_isMoreWornThan 21 = .ok (.iaload, 1) := by decide +kernel
theorem dX2_isMoreWornThan_22 : decode cX2_isMoreWornThan 22 = .ok (.aload_n 1, 1) := by decide +kernel
theorem dX2_isMoreWornThan_23 : decode cX2_isMoreWornThan 23 = .ok (.getfield 24, 3) := by decide +kernel
theorem dX2_isMoreWornThan_26 : decode cX2_isMoreWornThan 26 = .ok (.iload_n 2, 1) := by decide +kernel
theorem dX2_isMoreWornThan_27 : decode cX2_isMoreWornThan 27 = .ok (.iaload, 1) := by decide +kernel
theorem dX2_isMoreWornThan_28 : decode cX2_isMoreWornThan 28 = .ok (.if_icmp .le 5, 3) := by decide +kernel
theorem dX2_isMoreWornThan_31 : decode cX2_isMoreWornThan 31 = .ok (.iconst 1, 1) := by decide +kernel
theorem dX2_isMoreWornThan_32 : decode cX2_isMoreWornThan 32 = .ok (.ireturn, 1) := by decide +kernel
theorem dX2_isMoreWornThan_33 : decode cX2_isMoreWornThan 33 = .ok (.iinc 2 1, 3) := by decide +kernel
theorem dX2_isMoreWornThan_36 : decode cX2_isMoreWornThan 36 = .ok (.goto (-34), 3) := by decide +kernel
theorem dX2_isMoreWornThan_39 : decode cX2_isMoreWornThan 39 = .ok (.iconst 0, 1) := by decide +kernel
theorem dX2_isMoreWornThan_40 : decode cX2_isMoreWornThan 40 = .ok (.ireturn, 1) := by decide +kernel
def fX2_isMoreWornThan_B33 (k : Nat) (k0 : Nat) (rc2 : Int → vr_M → Option (Int × vr_M)) (x2 : Int) (μ : vr_M) : Option (Int × vr_M) :=
  vr_gd (vr_R (x2 + 1)) (rc2 (x2 + 1) μ)
def fX2_isMoreWornThan_L2 (k : Nat) (k0 : Nat) : Nat → Int → vr_M → Option (Int × vr_M)
  | 0, _, _ => none
  | n + 1, x2, μ => if 8 ≤ x2 then some (0, μ) else vr_gd (vr_R (μ k 5)) (if (μ k 5) ≤ x2 then fX2_isMoreWornThan_B33 k k0 (fX2_isMoreWornThan_L2 k k0 n) x2 μ else vr_gd (0 ≤ x2 ∧ x2 < 8) (vr_gd (vr_R (μ (k + 5) x2.toNat)) (vr_gd (vr_R (μ (k0 + 5) x2.toNat)) (if (μ (k + 5) x2.toNat) ≤ (μ (k0 + 5) x2.toNat) then fX2_isMoreWornThan_B33 k k0 (fX2_isMoreWornThan_L2 k k0 n) x2 μ else some (1, μ)))))
def fX2_isMoreWornThan (k : Nat) (k0 : Nat) (μ : vr_M) : Option (Int × vr_M) :=
  fX2_isMoreWornThan_L2 k k0 9000 0 μ
set_option maxRecDepth 100000 in
set_option maxHeartbeats 4000000 in
theorem ct_X2_isMoreWornThan (l : Launch) (G : vr_G) {k : Nat} (hk_k : k < 78) (hd_k : vr_kd k = 2) {k0 : Nat} (hk_k0 : k0 < 78) (hd_k0 : vr_kd k0 = 2) (μ : vr_M) : vr_CI l yX2_isMoreWornThan cX2_isMoreWornThan 3 (some .boolean) ({ frames := 0, cells := 0, slots := 0, locals := 0 } : Room) G [.ref (vr_ad G k), .ref (vr_ad G k0)] μ (fX2_isMoreWornThan k k0 μ) := by
  refine vr_start (own := RX2) (by decide) rfl (Nat.le_of_ble_eq_true rfl) (fun p e s m args below meth c C0 => ?_)
  obtain ⟨q_k, ⟨d_k_1, d_k_2, d_k_3, d_k_4, d_k_5⟩, n_k_1, n_k_2, n_k_3, n_k_4, n_k_5⟩ := vr_hill hk_k hd_k
  obtain ⟨q_k0, ⟨d_k0_1, d_k0_2, d_k0_3, d_k0_4, d_k0_5⟩, n_k0_1, n_k0_2, n_k0_3, n_k0_4, n_k0_5⟩ := vr_hill hk_k0 hd_k0
  show vr_J p l e _ s m args below meth c 3 0 0 G (vr_Z (vr_QI G) G args s below) 0 [(0, .ref (vr_ad G k)), (1, .ref (vr_ad G k0))] [] μ _
  have L2 : ∀ (n : Nat) (x2 : Int) (h_x2 : vr_R x2) (μ : vr_M), vr_J p l e ({ frames := 0, cells := 0, slots := 0, locals := 0 } : Room) s m args below meth c 3 0 0 G (vr_Z (vr_QI G) G args s below) 2 [(0, .ref (vr_ad G k)), (1, .ref (vr_ad G k0)), (2, .int (vr_I x2))] [] μ (fX2_isMoreWornThan_L2 k k0 n x2 μ) := by
    intro n2
    induction n2 with
    | zero => intros; exact jr_none
    | succ n2 ih2 =>
      have B33 : ∀ (x2 : Int) (h_x2 : vr_R x2) (μ : vr_M), vr_J p l e ({ frames := 0, cells := 0, slots := 0, locals := 0 } : Room) s m args below meth c 3 0 0 G (vr_Z (vr_QI G) G args s below) 33 [(0, .ref (vr_ad G k)), (1, .ref (vr_ad G k0)), (2, .int (vr_I x2))] [] μ (fX2_isMoreWornThan_B33 k k0 (fX2_isMoreWornThan_L2 k k0 n2) x2 μ) := by
        intro x2 h_x2 μ
        unfold fX2_isMoreWornThan_B33
        refine jr_iinc C0 (q := 2) dX2_isMoreWornThan_33 rfl (by decide) (lv' := [(2, .int (vr_I (x2 + 1))), (0, .ref (vr_ad G k)), (1, .ref (vr_ad G k0))]) rfl ?_
        refine jr_goto C0 dX2_isMoreWornThan_36 (tgt := 2) (by decide) ?_
        refine jr_gd (fun g1 => ?_)
        refine jr_sub [1, 2, 0] rfl ?_
        exact ih2 (x2 + 1) g1 _
      intro x2 h_x2 μ
      rw [fX2_isMoreWornThan_L2.eq_2]
      refine jr_iload_n C0 2 dX2_isMoreWornThan_2 rfl rfl ?_
      refine jr_bipush C0 dX2_isMoreWornThan_3 rfl ?_
      refine jr_icmp_ge C0 h_x2 (⟨by decide, by decide⟩) dX2_isMoreWornThan_5 (tgt := 39) (by decide) ?_ ?_
      · refine jr_iconst C0 dX2_isMoreWornThan_39 ?_
        exact jr_zret C0 (⟨by decide, by decide⟩) (vr_nz (Or.inl rfl)) dX2_isMoreWornThan_40
      refine jr_iload_n C0 2 dX2_isMoreWornThan_8 rfl rfl ?_
      refine jr_aload_n C0 0 dX2_isMoreWornThan_9 rfl rfl ?_
      refine jr_geti C0 hk_k hd_k (by decide) rfl wx_X2 (i := 5) (by decide) wf_X2_31 rfl dX2_isMoreWornThan_10 ?_
      refine jr_gd (fun g2 => ?_)
      refine jr_icmp_ge C0 h_x2 g2 dX2_isMoreWornThan_13 (tgt := 33) (by decide) ?_ ?_
      · exact B33 x2 h_x2 _
      refine jr_aload_n C0 0 dX2_isMoreWornThan_16 rfl rfl ?_
      refine jr_getr C0 hk_k hd_k (by decide) rfl wx_X2 (i := 4) (by decide) wf_X2_24 (j := (k + 5)) rfl dX2_isMoreWornThan_17 ?_
      refine jr_iload_n C0 2 dX2_isMoreWornThan_20 rfl rfl ?_
      refine jr_gd (fun g3 => ?_)
      refine jr_iald C0 (by omega) d_k_5 n_k_5 g3 (j := x2.toNat) rfl dX2_isMoreWornThan_21 ?_
      refine jr_aload_n C0 1 dX2_isMoreWornThan_22 rfl rfl ?_
      refine jr_getr C0 hk_k0 hd_k0 (by decide) rfl wx_X2 (i := 4) (by decide) wf_X2_24 (j := (k0 + 5)) rfl dX2_isMoreWornThan_23 ?_
      refine jr_iload_n C0 2 dX2_isMoreWornThan_26 rfl rfl ?_
      refine jr_iald C0 (by omega) d_k0_5 n_k0_5 g3 (j := x2.toNat) rfl dX2_isMoreWornThan_27 ?_
      refine jr_gd (fun g4 => ?_)
      refine jr_gd (fun g5 => ?_)
      refine jr_icmp_le C0 g4 g5 dX2_isMoreWornThan_28 (tgt := 33) (by decide) ?_ ?_
      · exact B33 x2 h_x2 _
      refine jr_iconst C0 dX2_isMoreWornThan_31 ?_
      exact jr_zret C0 (⟨by decide, by decide⟩) (vr_nz (Or.inr rfl)) dX2_isMoreWornThan_32
  unfold fX2_isMoreWornThan
  refine jr_iconst C0 dX2_isMoreWornThan_0 ?_
  refine jr_istore_n C0 dX2_isMoreWornThan_1 rfl (by decide) (lv' := [(2, .int (vr_I 0)), (0, .ref (vr_ad G k)), (1, .ref (vr_ad G k0))]) rfl ?_
  refine jr_sub [1, 2, 0] rfl ?_
  exact L2 9000 0 (⟨by decide, by decide⟩) _
theorem dX3_clear_0 : decode cX3_clear 0 = .ok (.aload_n 0, 1) := by decide +kernel
theorem dX3_clear_1 : decode cX3_clear 1 = .ok (.iconst 0, 1) := by decide +kernel
theorem dX3_clear_2 : decode cX3_clear 2 = .ok (.putfield 27, 3) := by decide +kernel
theorem dX3_clear_5 : decode cX3_clear 5 = .ok (.aload_n 0, 1) := by decide +kernel
theorem dX3_clear_6 : decode cX3_clear 6 = .ok (.iconst 0, 1) := by decide +kernel
theorem dX3_clear_7 : decode cX3_clear 7 = .ok (.putfield 31, 3) := by decide +kernel
theorem dX3_clear_10 : decode cX3_clear 10 = .ok (.aload_n 0, 1) := by decide +kernel
theorem dX3_clear_11 : decode cX3_clear 11 = .ok (.bipush 99, 2) := by decide +kernel
theorem dX3_clear_13 : decode cX3_clear 13 = .ok (.putfield 34, 3) := by decide +kernel
theorem dX3_clear_16 : decode cX3_clear 16 = .ok (.aload_n 0, 1) := by decide +kernel
theorem dX3_clear_17 : decode cX3_clear 17 = .ok (.iconst 0, 1) := by decide +kernel
theorem dX3_clear_18 : decode cX3_clear 18 = .ok (.putfield 37, 3) := by decide +kernel
theorem dX3_clear_21 : decode cX3_clear 21 = .ok (.aload_n 0, 1) := by decide +kernel
theorem dX3_clear_22 : decode cX3_clear 22 = .ok (.iconst 0, 1) := by decide +kernel
theorem dX3_clear_23 : decode cX3_clear 23 = .ok (.putfield 40, 3) := by decide +kernel
theorem dX3_clear_26 : decode cX3_clear 26 = .ok (.aload_n 0, 1) := by decide +kernel
theorem dX3_clear_27 : decode cX3_clear 27 = .ok (.iconst 0, 1) := by decide +kernel
theorem dX3_clear_28 : decode cX3_clear 28 = .ok (.putfield 43, 3) := by decide +kernel
theorem dX3_clear_31 : decode cX3_clear 31 = .ok (.return_, 1) := by decide +kernel
def fX3_clear (k : Nat) (μ : vr_M) : Option (Int × vr_M) :=
  some (0, vr_u (vr_u (vr_u (vr_u (vr_u (vr_u μ k 3 0) k 4 0) k 5 99) k 6 0) k 7 0) k 8 0)
set_option maxRecDepth 100000 in
set_option maxHeartbeats 4000000 in
theorem ct_X3_clear (l : Launch) (G : vr_G) {k : Nat} (hk_k : k < 78) (hd_k : vr_kd k = 3) (μ : vr_M) : vr_CV l yX3_clear cX3_clear 1 none ({ frames := 0, cells := 0, slots := 0, locals := 0 } : Room) G [.ref (vr_ad G k)] μ (fX3_clear k μ) := by
  refine vr_start (own := RX3) (by decide) rfl (Nat.le_of_ble_eq_true rfl) (fun p e s m args below meth c C0 => ?_)
  obtain ⟨q_k, ⟨d_k_1, d_k_2, d_k_3, d_k_4⟩, n_k_1, n_k_2, n_k_3, n_k_4⟩ := vr_land hk_k hd_k
  show vr_J p l e _ s m args below meth c 1 0 0 G (vr_Z (vr_QV G) G args s below) 0 [(0, .ref (vr_ad G k))] [] μ _
  unfold fX3_clear
  refine jr_aload_n C0 0 dX3_clear_0 rfl rfl ?_
  refine jr_iconst C0 dX3_clear_1 ?_
  refine jr_puti C0 hk_k hd_k (by decide) rfl wx_X3 (i := 3) (by decide) wf_X3_27 rfl tyX3_ok nmX3 rfl rfl rfl dX3_clear_2 ?_
  refine jr_aload_n C0 0 dX3_clear_5 rfl rfl ?_
  refine jr_iconst C0 dX3_clear_6 ?_
  refine jr_puti C0 hk_k hd_k (by decide) rfl wx_X3 (i := 4) (by decide) wf_X3_31 rfl tyX3_ok nmX3 rfl rfl rfl dX3_clear_7 ?_
  refine jr_aload_n C0 0 dX3_clear_10 rfl rfl ?_
  refine jr_bipush C0 dX3_clear_11 rfl ?_
  refine jr_puti C0 hk_k hd_k (by decide) rfl wx_X3 (i := 5) (by decide) wf_X3_34 rfl tyX3_ok nmX3 rfl rfl rfl dX3_clear_13 ?_
  refine jr_aload_n C0 0 dX3_clear_16 rfl rfl ?_
  refine jr_iconst C0 dX3_clear_17 ?_
  refine jr_puti C0 hk_k hd_k (by decide) rfl wx_X3 (i := 6) (by decide) wf_X3_37 rfl tyX3_ok nmX3 rfl rfl rfl dX3_clear_18 ?_
  refine jr_aload_n C0 0 dX3_clear_21 rfl rfl ?_
  refine jr_iconst C0 dX3_clear_22 ?_
  refine jr_puti C0 hk_k hd_k (by decide) rfl wx_X3 (i := 7) (by decide) wf_X3_40 rfl tyX3_ok nmX3 rfl rfl rfl dX3_clear_23 ?_
  refine jr_aload_n C0 0 dX3_clear_26 rfl rfl ?_
  refine jr_iconst C0 dX3_clear_27 ?_
  refine jr_puti C0 hk_k hd_k (by decide) rfl wx_X3 (i := 8) (by decide) wf_X3_43 rfl tyX3_ok nmX3 rfl rfl rfl dX3_clear_28 ?_
  exact jr_vret C0 dX3_clear_31
theorem dX3_become_0 : decode cX3_become 0 = .ok (.iconst 0, 1) := by decide +kernel
theorem dX3_become_1 : decode cX3_become 1 = .ok (.istore_n 2, 1) := by decide +kernel
theorem dX3_become_2 : decode cX3_become 2 = .ok (.iload_n 2, 1) := by decide +kernel
theorem dX3_become_3 : decode cX3_become 3 = .ok (.bipush 10, 2) := by decide +kernel
theorem dX3_become_5 : decode cX3_become 5 = .ok (.if_icmp .ge 33, 3) := by decide +kernel
theorem dX3_become_8 : decode cX3_become 8 = .ok (.aload_n 0, 1) := by decide +kernel
theorem dX3_become_9 : decode cX3_become 9 = .ok (.getfield 9, 3) := by decide +kernel
theorem dX3_become_12 : decode cX3_become 12 = .ok (.iload_n 2, 1) := by decide +kernel
theorem dX3_become_13 : decode cX3_become 13 = .ok (.aload_n 1, 1) := by decide +kernel
theorem dX3_become_14 : decode cX3_become 14 = .ok (.getfield 9, 3) := by decide +kernel
theorem dX3_become_17 : decode cX3_become 17 = .ok (.iload_n 2, 1) := by decide +kernel
theorem dX3_become_18 : decode cX3_become 18 = .ok (.iaload, 1) := by decide +kernel
theorem dX3_become_19 : decode cX3_become 19 = .ok (.iastore, 1) := by decide +kernel
theorem dX3_become_20 : decode cX3_become 20 = .ok (.aload_n 0, 1) := by decide +kernel
theorem dX3_become_21 : decode cX3_become 21 = .ok (.getfield 15, 3) := by decide +kernel
theorem dX3_become_24 : decode cX3_become 24 = .ok (.iload_n 2, 1) := by decide +kernel
theorem dX3_become_25 : decode cX3_become 25 = .ok (.aload_n 1, 1) := by decide +kernel
theorem dX3_become_26 : decode cX3_become 26 = .ok (.getfield 15, 3) := by decide +kernel
theorem dX3_become_29 : decode cX3_become 29 = .ok (.iload_n 2, 1) := by decide +kernel
theorem dX3_become_30 : decode cX3_become 30 = .ok (.iaload, 1) := by decide +kernel
theorem dX3_become_31 : decode cX3_become 31 = .ok (.iastore, 1) := by decide +kernel
theorem dX3_become_32 : decode cX3_become 32 = .ok (.iinc 2 1, 3) := by decide +kernel
theorem dX3_become_35 : decode cX3_become 35 = .ok (.goto (-33), 3) := by decide +kernel
theorem dX3_become_38 : decode cX3_become 38 = .ok (.iconst 0, 1) := by decide +kernel
theorem dX3_become_39 : decode cX3_become 39 = .ok (.istore_n 2, 1) := by decide +kernel
theorem dX3_become_40 : decode cX3_become 40 = .ok (.iload_n 2, 1) := by decide +kernel
theorem dX3_become_41 : decode cX3_become 41 = .ok (.bipush 120, 2) := by decide +kernel
theorem dX3_become_43 : decode cX3_become 43 = .ok (.if_icmp .ge 21, 3) := by decide +kernel
theorem dX3_become_46 : decode cX3_become 46 = .ok (.aload_n 0, 1) := by decide +kernel
theorem dX3_become_47 : decode cX3_become 47 = .ok (.getfield 18, 3) := by decide +kernel
theorem dX3_become_50 : decode cX3_become 50 = .ok (.iload_n 2, 1) := by decide +kernel
theorem dX3_become_51 : decode cX3_become 51 = .ok (.aload_n 1, 1) := by decide +kernel
theorem dX3_become_52 : decode cX3_become 52 = .ok (.getfield 18, 3) := by decide +kernel
theorem dX3_become_55 : decode cX3_become 55 = .ok (.iload_n 2, 1) := by decide +kernel
theorem dX3_become_56 : decode cX3_become 56 = .ok (.iaload, 1) := by decide +kernel
theorem dX3_become_57 : decode cX3_become 57 = .ok (.iastore, 1) := by decide +kernel
theorem dX3_become_58 : decode cX3_become 58 = .ok (.iinc 2 1, 3) := by decide +kernel
theorem dX3_become_61 : decode cX3_become 61 = .ok (.goto (-21), 3) := by decide +kernel
theorem dX3_become_64 : decode cX3_become 64 = .ok (.aload_n 0, 1) := by decide +kernel
theorem dX3_become_65 : decode cX3_become 65 = .ok (.aload_n 1, 1) := by decide +kernel
theorem dX3_become_66 : decode cX3_become 66 = .ok (.getfield 27, 3) := by decide +kernel
theorem dX3_become_69 : decode cX3_become 69 = .ok (.putfield 27, 3) := by decide +kernel
theorem dX3_become_72 : decode cX3_become 72 = .ok (.aload_n 0, 1) := by decide +kernel
theorem dX3_become_73 : decode cX3_become 73 = .ok (.aload_n 1, 1) := by decide +kernel
theorem dX3_become_74 : decode cX3_become 74 = .ok (.getfield 31, 3) := by decide +kernel
theorem dX3_become_77 : decode cX3_become 77 = .ok (.putfield 31, 3) := by decide +kernel
theorem dX3_become_80 : decode cX3_become 80 = .ok (.aload_n 0, 1) := by decide +kernel
theorem dX3_become_81 : decode cX3_become 81 = .ok (.aload_n 1, 1) := by decide +kernel
theorem dX3_become_82 : decode cX3_become 82 = .ok (.getfield 34, 3) := by decide +kernel
theorem dX3_become_85 : decode cX3_become 85 = .ok (.putfield 34, 3) := by decide +kernel
theorem dX3_become_88 : decode cX3_become 88 = .ok (.aload_n 0, 1) := by decide +kernel
theorem dX3_become_89 : decode cX3_become 89 = .ok (.aload_n 1, 1) := by decide +kernel
theorem dX3_become_90 : decode cX3_become 90 = .ok (.getfield 37, 3) := by decide +kernel
theorem dX3_become_93 : decode cX3_become 93 = .ok (.putfield 37, 3) := by decide +kernel
theorem dX3_become_96 : decode cX3_become 96 = .ok (.aload_n 0, 1) := by decide +kernel
theorem dX3_become_97 : decode cX3_become 97 = .ok (.aload_n 1, 1) := by decide +kernel
theorem dX3_become_98 : decode cX3_become 98 = .ok (.getfield 40, 3) := by decide +kernel
theorem dX3_become_101 : decode cX3_become 101 = .ok (.putfield 40, 3) := by decide +kernel
theorem dX3_become_104 : decode cX3_become 104 = .ok (.aload_n 0, 1) := by decide +kernel
theorem dX3_become_105 : decode cX3_become 105 = .ok (.aload_n 1, 1) := by decide +kernel
theorem dX3_become_106 : decode cX3_become 106 = .ok (.getfield 43, 3) := by decide +kernel
theorem dX3_become_109 : decode cX3_become 109 = .ok (.putfield 43, 3) := by decide +kernel
theorem dX3_become_112 : decode cX3_become 112 = .ok (.return_, 1) := by decide +kernel
def fX3_become_L40 (k : Nat) (k0 : Nat) : Nat → Int → vr_M → Option (Int × vr_M)
  | 0, _, _ => none
  | n + 1, x2, μ => if 120 ≤ x2 then vr_let (vr_u μ k 3 (μ k0 3)) (fun μ1 => vr_let (vr_u μ1 k 4 (μ1 k0 4)) (fun μ2 => vr_let (vr_u μ2 k 5 (μ2 k0 5)) (fun μ3 => vr_let (vr_u μ3 k 6 (μ3 k0 6)) (fun μ4 => vr_let (vr_u μ4 k 7 (μ4 k0 7)) (fun μ5 => some (0, vr_u μ5 k 8 (μ5 k0 8))))))) else vr_gd (0 ≤ x2 ∧ x2 < 120) (vr_gd (vr_R (x2 + 1)) ((fX3_become_L40 k k0 n) (x2 + 1) (vr_u μ (k + 3) x2.toNat (μ (k0 + 3) x2.toNat))))
def fX3_become_L2 (k : Nat) (k0 : Nat) : Nat → Int → vr_M → Option (Int × vr_M)
  | 0, _, _ => none
  | n + 1, x2, μ => if 10 ≤ x2 then fX3_become_L40 k k0 9000 0 μ else vr_gd (0 ≤ x2 ∧ x2 < 10) (vr_let (vr_u μ (k + 1) x2.toNat (μ (k0 + 1) x2.toNat)) (fun μ9 => vr_gd (vr_R (x2 + 1)) ((fX3_become_L2 k k0 n) (x2 + 1) (vr_u μ9 (k + 2) x2.toNat (μ9 (k0 + 2) x2.toNat)))))
def fX3_become (k : Nat) (k0 : Nat) (μ : vr_M) : Option (Int × vr_M) :=
  fX3_become_L2 k k0 9000 0 μ
set_option maxRecDepth 100000 in
set_option maxHeartbeats 4000000 in
theorem ct_X3_become (l : Launch) (G : vr_G) {k : Nat} (hk_k : k < 78) (hd_k : vr_kd k = 3) {k0 : Nat} (hk_k0 : k0 < 78) (hd_k0 : vr_kd k0 = 3) (μ : vr_M) : vr_CV l yX3_become cX3_become 3 none ({ frames := 0, cells := 0, slots := 0, locals := 0 } : Room) G [.ref (vr_ad G k), .ref (vr_ad G k0)] μ (fX3_become k k0 μ) := by
  refine vr_start (own := RX3) (by decide) rfl (Nat.le_of_ble_eq_true rfl) (fun p e s m args below meth c C0 => ?_)
  obtain ⟨q_k, ⟨d_k_1, d_k_2, d_k_3, d_k_4⟩, n_k_1, n_k_2, n_k_3, n_k_4⟩ := vr_land hk_k hd_k
  obtain ⟨q_k0, ⟨d_k0_1, d_k0_2, d_k0_3, d_k0_4⟩, n_k0_1, n_k0_2, n_k0_3, n_k0_4⟩ := vr_land hk_k0 hd_k0
  show vr_J p l e _ s m args below meth c 3 0 0 G (vr_Z (vr_QV G) G args s below) 0 [(0, .ref (vr_ad G k)), (1, .ref (vr_ad G k0))] [] μ _
  have L40 : ∀ (n : Nat) (x2 : Int) (h_x2 : vr_R x2) (μ : vr_M), vr_J p l e ({ frames := 0, cells := 0, slots := 0, locals := 0 } : Room) s m args below meth c 3 0 0 G (vr_Z (vr_QV G) G args s below) 40 [(0, .ref (vr_ad G k)), (1, .ref (vr_ad G k0)), (2, .int (vr_I x2))] [] μ (fX3_become_L40 k k0 n x2 μ) := by
    intro n40
    induction n40 with
    | zero => intros; exact jr_none
    | succ n40 ih40 =>
      intro x2 h_x2 μ
      rw [fX3_become_L40.eq_2]
      refine jr_iload_n C0 2 dX3_become_40 rfl rfl ?_
      refine jr_bipush C0 dX3_become_41 rfl ?_
      refine jr_icmp_ge C0 h_x2 (⟨by decide, by decide⟩) dX3_become_43 (tgt := 64) (by decide) ?_ ?_
      · refine jr_aload_n C0 0 dX3_become_64 rfl rfl ?_
        refine jr_aload_n C0 1 dX3_become_65 rfl rfl ?_
        refine jr_geti C0 hk_k0 hd_k0 (by decide) rfl wx_X3 (i := 3) (by decide) wf_X3_27 rfl dX3_become_66 ?_
        refine jr_puti C0 hk_k hd_k (by decide) rfl wx_X3 (i := 3) (by decide) wf_X3_27 rfl tyX3_ok nmX3 rfl rfl rfl dX3_become_69 ?_
        refine jr_aload_n C0 0 dX3_become_72 rfl rfl ?_
        refine jr_aload_n C0 1 dX3_become_73 rfl rfl ?_
        refine jr_let (fun μ1 => ?_)
        refine jr_geti C0 hk_k0 hd_k0 (by decide) rfl wx_X3 (i := 4) (by decide) wf_X3_31 rfl dX3_become_74 ?_
        refine jr_puti C0 hk_k hd_k (by decide) rfl wx_X3 (i := 4) (by decide) wf_X3_31 rfl tyX3_ok nmX3 rfl rfl rfl dX3_become_77 ?_
        refine jr_aload_n C0 0 dX3_become_80 rfl rfl ?_
        refine jr_aload_n C0 1 dX3_become_81 rfl rfl ?_
        refine jr_let (fun μ2 => ?_)
        refine jr_geti C0 hk_k0 hd_k0 (by decide) rfl wx_X3 (i := 5) (by decide) wf_X3_34 rfl dX3_become_82 ?_
        refine jr_puti C0 hk_k hd_k (by decide) rfl wx_X3 (i := 5) (by decide) wf_X3_34 rfl tyX3_ok nmX3 rfl rfl rfl dX3_become_85 ?_
        refine jr_aload_n C0 0 dX3_become_88 rfl rfl ?_
        refine jr_aload_n C0 1 dX3_become_89 rfl rfl ?_
        refine jr_let (fun μ3 => ?_)
        refine jr_geti C0 hk_k0 hd_k0 (by decide) rfl wx_X3 (i := 6) (by decide) wf_X3_37 rfl dX3_become_90 ?_
        refine jr_puti C0 hk_k hd_k (by decide) rfl wx_X3 (i := 6) (by decide) wf_X3_37 rfl tyX3_ok nmX3 rfl rfl rfl dX3_become_93 ?_
        refine jr_aload_n C0 0 dX3_become_96 rfl rfl ?_
        refine jr_aload_n C0 1 dX3_become_97 rfl rfl ?_
        refine jr_let (fun μ4 => ?_)
        refine jr_geti C0 hk_k0 hd_k0 (by decide) rfl wx_X3 (i := 7) (by decide) wf_X3_40 rfl dX3_become_98 ?_
        refine jr_puti C0 hk_k hd_k (by decide) rfl wx_X3 (i := 7) (by decide) wf_X3_40 rfl tyX3_ok nmX3 rfl rfl rfl dX3_become_101 ?_
        refine jr_aload_n C0 0 dX3_become_104 rfl rfl ?_
        refine jr_aload_n C0 1 dX3_become_105 rfl rfl ?_
        refine jr_let (fun μ5 => ?_)
        refine jr_geti C0 hk_k0 hd_k0 (by decide) rfl wx_X3 (i := 8) (by decide) wf_X3_43 rfl dX3_become_106 ?_
        refine jr_puti C0 hk_k hd_k (by decide) rfl wx_X3 (i := 8) (by decide) wf_X3_43 rfl tyX3_ok nmX3 rfl rfl rfl dX3_become_109 ?_
        exact jr_vret C0 dX3_become_112
      refine jr_aload_n C0 0 dX3_become_46 rfl rfl ?_
      refine jr_getr C0 hk_k hd_k (by decide) rfl wx_X3 (i := 2) (by decide) wf_X3_18 (j := (k + 3)) rfl dX3_become_47 ?_
      refine jr_iload_n C0 2 dX3_become_50 rfl rfl ?_
      refine jr_aload_n C0 1 dX3_become_51 rfl rfl ?_
      refine jr_getr C0 hk_k0 hd_k0 (by decide) rfl wx_X3 (i := 2) (by decide) wf_X3_18 (j := (k0 + 3)) rfl dX3_become_52 ?_
      refine jr_iload_n C0 2 dX3_become_55 rfl rfl ?_
      refine jr_gd (fun g6 => ?_)
      refine jr_iald C0 (by omega) d_k0_3 n_k0_3 g6 (j := x2.toNat) rfl dX3_become_56 ?_
      refine jr_iast C0 (by omega) d_k_3 n_k_3 g6 (j := x2.toNat) rfl dX3_become_57 ?_
      refine jr_iinc C0 (q := 2) dX3_become_58 rfl (by decide) (lv' := [(2, .int (vr_I (x2 + 1))), (0, .ref (vr_ad G k)), (1, .ref (vr_ad G k0))]) rfl ?_
      refine jr_goto C0 dX3_become_61 (tgt := 40) (by decide) ?_
      refine jr_gd (fun g7 => ?_)
      refine jr_sub [1, 2, 0] rfl ?_
      exact ih40 (x2 + 1) g7 _
  have L2 : ∀ (n : Nat) (x2 : Int) (h_x2 : vr_R x2) (μ : vr_M), vr_J p l e ({ frames := 0, cells := 0, slots := 0, locals := 0 } : Room) s m args below meth c 3 0 0 G (vr_Z (vr_QV G) G args s below) 2 [(0, .ref (vr_ad G k)), (1, .ref (vr_ad G k0)), (2, .int (vr_I x2))] [] μ (fX3_become_L2 k k0 n x2 μ) := by
    intro n2
    induction n2 with
    | zero => intros; exact jr_none
    | succ n2 ih2 =>
      intro x2 h_x2 μ
      rw [fX3_become_L2.eq_2]
      refine jr_iload_n C0 2 dX3_become_2 rfl rfl ?_
      refine jr_bipush C0 dX3_become_3 rfl ?_
      refine jr_icmp_ge C0 h_x2 (⟨by decide, by decide⟩) dX3_become_5 (tgt := 38) (by decide) ?_ ?_
      · refine jr_iconst C0 dX3_become_38 ?_
        refine jr_istore_n C0 dX3_become_39 rfl (by decide) (lv' := [(2, .int (vr_I 0)), (0, .ref (vr_ad G k)), (1, .ref (vr_ad G k0))]) rfl ?_
        refine jr_sub [1, 2, 0] rfl ?_
        exact L40 9000 0 (⟨by decide, by decide⟩) _
      refine jr_aload_n C0 0 dX3_become_8 rfl rfl ?_
      refine jr_getr C0 hk_k hd_k (by decide) rfl wx_X3 (i := 0) (by decide) wf_X3_9 (j := (k + 1)) rfl dX3_become_9 ?_
      refine jr_iload_n C0 2 dX3_become_12 rfl rfl ?_
      refine jr_aload_n C0 1 dX3_become_13 rfl rfl ?_
      refine jr_getr C0 hk_k0 hd_k0 (by decide) rfl wx_X3 (i := 0) (by decide) wf_X3_9 (j := (k0 + 1)) rfl dX3_become_14 ?_
      refine jr_iload_n C0 2 dX3_become_17 rfl rfl ?_
      refine jr_gd (fun g8 => ?_)
      refine jr_iald C0 (by omega) d_k0_1 n_k0_1 g8 (j := x2.toNat) rfl dX3_become_18 ?_
      refine jr_iast C0 (by omega) d_k_1 n_k_1 g8 (j := x2.toNat) rfl dX3_become_19 ?_
      refine jr_aload_n C0 0 dX3_become_20 rfl rfl ?_
      refine jr_getr C0 hk_k hd_k (by decide) rfl wx_X3 (i := 1) (by decide) wf_X3_15 (j := (k + 2)) rfl dX3_become_21 ?_
      refine jr_iload_n C0 2 dX3_become_24 rfl rfl ?_
      refine jr_aload_n C0 1 dX3_become_25 rfl rfl ?_
      refine jr_getr C0 hk_k0 hd_k0 (by decide) rfl wx_X3 (i := 1) (by decide) wf_X3_15 (j := (k0 + 2)) rfl dX3_become_26 ?_
      refine jr_iload_n C0 2 dX3_become_29 rfl rfl ?_
      refine jr_let (fun μ9 => ?_)
      refine jr_iald C0 (by omega) d_k0_2 n_k0_2 g8 (j := x2.toNat) rfl dX3_become_30 ?_
      refine jr_iast C0 (by omega) d_k_2 n_k_2 g8 (j := x2.toNat) rfl dX3_become_31 ?_
      refine jr_iinc C0 (q := 2) dX3_become_32 rfl (by decide) (lv' := [(2, .int (vr_I (x2 + 1))), (0, .ref (vr_ad G k)), (1, .ref (vr_ad G k0))]) rfl ?_
      refine jr_goto C0 dX3_become_35 (tgt := 2) (by decide) ?_
      refine jr_gd (fun g10 => ?_)
      refine jr_sub [1, 2, 0] rfl ?_
      exact ih2 (x2 + 1) g10 _
  unfold fX3_become
  refine jr_iconst C0 dX3_become_0 ?_
  refine jr_istore_n C0 dX3_become_1 rfl (by decide) (lv' := [(2, .int (vr_I 0)), (0, .ref (vr_ad G k)), (1, .ref (vr_ad G k0))]) rfl ?_
  refine jr_sub [1, 2, 0] rfl ?_
  exact L2 9000 0 (⟨by decide, by decide⟩) _
theorem dX3_putStep_0 : decode cX3_putStep 0 = .ok (.aload_n 0, 1) := by decide +kernel
theorem dX3_putStep_1 : decode cX3_putStep 1 = .ok (.getfield 31, 3) := by decide +kernel
theorem dX3_putStep_4 : decode cX3_putStep 4 = .ok (.ifCond .lt 32, 3) := by decide +kernel
theorem dX3_putStep_7 : decode cX3_putStep 7 = .ok (.aload_n 0, 1) := by decide +kernel
theorem dX3_putStep_8 : decode cX3_putStep 8 = .ok (.getfield 31, 3) := by decide +kernel
theorem dX3_putStep_11 : decode cX3_putStep 11 = .ok (.bipush 120, 2) := by decide +kernel
theorem dX3_putStep_13 : decode cX3_putStep 13 = .ok (.if_icmp .ge 23, 3) := by decide +kernel
theorem dX3_putStep_16 : decode cX3_putStep 16 = .ok (.aload_n 0, 1) := by decide +kernel
theorem dX3_putStep_17 : decode cX3_putStep 17 = .ok (.getfield 18, 3) := by decide +kernel
theorem dX3_putStep_20 : decode cX3_putStep 20 = .ok (.aload_n 0, 1) := by decide +kernel
theorem dX3_putStep_21 : decode cX3_putStep 21 = .ok (.getfield 31, 3) := by decide +kernel
theorem dX3_putStep_24 : decode cX3_putStep 24 = .ok (.iload_n 1, 1) := by decide +kernel
theorem dX3_putStep_25 : decode cX3_putStep 25 = .ok (.iastore, 1) := by decide +kernel
theorem dX3_putStep_26 : decode cX3_putStep 26 = .ok (.aload_n 0, 1) := by decide +kernel
theorem dX3_putStep_27 : decode cX3_putStep 27 = .ok (.dup, 1) := by decide +kernel
theorem dX3_putStep_28 : decode cX3_putStep 28 = .ok (.getfield 31, 3) := by decide +kernel
theorem dX3_putStep_31 : decode cX3_putStep 31 = .ok (.iconst 1, 1) := by decide +kernel
theorem dX3_putStep_32 : decode cX3_putStep 32 = .ok (.iadd, 1) := by decide +kernel
theorem dX3_putStep_33 : decode cX3_putStep 33 = .ok (.putfield 31, 3) := by decide +kernel
theorem dX3_putStep_36 : decode cX3_putStep 36 = .ok (.return_, 1) := by decide +kernel
def fX3_putStep_B36 (k : Nat) (μ : vr_M) : Option (Int × vr_M) :=
  some (0, μ)
def fX3_putStep (k : Nat) (a0 : Int) (μ : vr_M) : Option (Int × vr_M) :=
  vr_gd (vr_R (μ k 4)) (if (μ k 4) < 0 then fX3_putStep_B36 k μ else if 120 ≤ (μ k 4) then fX3_putStep_B36 k μ else vr_gd (0 ≤ (μ k 4) ∧ (μ k 4) < 120) (vr_let (vr_u μ (k + 3) (μ k 4).toNat a0) (fun μ3 => fX3_putStep_B36 k (vr_u μ3 k 4 ((μ3 k 4) + 1)))))
set_option maxRecDepth 100000 in
set_option maxHeartbeats 4000000 in
theorem ct_X3_putStep (l : Launch) (G : vr_G) {k : Nat} (hk_k : k < 78) (hd_k : vr_kd k = 3) (a0 : Int) (h_a0 : vr_R a0) (μ : vr_M) : vr_CV l yX3_putStep cX3_putStep 2 none ({ frames := 0, cells := 0, slots := 0, locals := 0 } : Room) G [.ref (vr_ad G k), .int (vr_I a0)] μ (fX3_putStep k a0 μ) := by
  refine vr_start (own := RX3) (by decide) rfl (Nat.le_of_ble_eq_true rfl) (fun p e s m args below meth c C0 => ?_)
  obtain ⟨q_k, ⟨d_k_1, d_k_2, d_k_3, d_k_4⟩, n_k_1, n_k_2, n_k_3, n_k_4⟩ := vr_land hk_k hd_k
  show vr_J p l e _ s m args below meth c 2 0 0 G (vr_Z (vr_QV G) G args s below) 0 [(0, .ref (vr_ad G k)), (1, .int (vr_I a0))] [] μ _
  have B36 : ∀ (μ : vr_M), vr_J p l e ({ frames := 0, cells := 0, slots := 0, locals := 0 } : Room) s m args below meth c 2 0 0 G (vr_Z (vr_QV G) G args s below) 36 [] [] μ (fX3_putStep_B36 k μ) := by
    intro μ
    unfold fX3_putStep_B36
    exact jr_vret C0 dX3_putStep_36
  unfold fX3_putStep
  refine jr_aload_n C0 0 dX3_putStep_0 rfl rfl ?_
  refine jr_geti C0 hk_k hd_k (by decide) rfl wx_X3 (i := 4) (by decide) wf_X3_31 rfl dX3_putStep_1 ?_
  refine jr_gd (fun g1 => ?_)
  refine jr_if_lt C0 g1 dX3_putStep_4 (tgt := 36) (by decide) ?_ ?_
  · refine jr_sub [] rfl ?_
    exact B36 _
  refine jr_aload_n C0 0 dX3_putStep_7 rfl rfl ?_
  refine jr_geti C0 hk_k hd_k (by decide) rfl wx_X3 (i := 4) (by decide) wf_X3_31 rfl dX3_putStep_8 ?_
  refine jr_bipush C0 dX3_putStep_11 rfl ?_
  refine jr_icmp_ge C0 g1 (⟨by decide, by decide⟩) dX3_putStep_13 (tgt := 36) (by decide) ?_ ?_
  · refine jr_sub [] rfl ?_
    exact B36 _
  refine jr_aload_n C0 0 dX3_putStep_16 rfl rfl ?_
  refine jr_getr C0 hk_k hd_k (by decide) rfl wx_X3 (i := 2) (by decide) wf_X3_18 (j := (k + 3)) rfl dX3_putStep_17 ?_
  refine jr_aload_n C0 0 dX3_putStep_20 rfl rfl ?_
  refine jr_geti C0 hk_k hd_k (by decide) rfl wx_X3 (i := 4) (by decide) wf_X3_31 rfl dX3_putStep_21 ?_
  refine jr_iload_n C0 1 dX3_putStep_24 rfl rfl ?_
  refine jr_gd (fun g2 => ?_)
  refine jr_iast C0 (by omega) d_k_3 n_k_3 g2 (j := (μ k 4).toNat) rfl dX3_putStep_25 ?_
  refine jr_aload_n C0 0 dX3_putStep_26 rfl rfl ?_
  refine jr_dup C0 rfl dX3_putStep_27 ?_
  refine jr_let (fun μ3 => ?_)
  refine jr_geti C0 hk_k hd_k (by decide) rfl wx_X3 (i := 4) (by decide) wf_X3_31 rfl dX3_putStep_28 ?_
  refine jr_iconst C0 dX3_putStep_31 ?_
  refine jr_iadd C0 dX3_putStep_32 ?_
  refine jr_puti C0 hk_k hd_k (by decide) rfl wx_X3 (i := 4) (by decide) wf_X3_31 rfl tyX3_ok nmX3 rfl rfl rfl dX3_putStep_33 ?_
  refine jr_sub [] rfl ?_
  exact B36 _
theorem dX3_putGive_0 : decode cX3_putGive 0 = .ok (.aload_n 0, 1) := by decide +kernel
theorem dX3_putGive_1 : decode cX3_putGive 1 = .ok (.getfield 27, 3) := by decide +kernel
theorem dX3_putGive_4 : decode cX3_putGive 4 = .ok (.ifCond .lt 45, 3) := by decide +kernel
theorem dX3_putGive_7 : decode cX3_putGive 7 = .ok (.aload_n 0, 1) := by decide +kernel
theorem dX3_putGive_8 : decode cX3_putGive 8 = .ok (.getfield 27, 3) := by decide +kernel
theorem dX3_putGive_11 : decode cX3_putGive 11 = .ok (.bipush 10, 2) := by decide +kernel
theorem dX3_putGive_13 : decode cX3_putGive 13 = .ok (.if_icmp .ge 36, 3) := by decide +kernel
theorem dX3_putGive_16 : decode cX3_putGive 16 = .ok (.aload_n 0, 1) := by decide +kernel
theorem dX3_putGive_17 : decode cX3_putGive 17 = .ok (.getfield 9, 3) := by decide +kernel
theorem dX3_putGive_20 : decode cX3_putGive 20 = .ok (.aload_n 0, 1) := by decide +kernel
theorem dX3_putGive_21 : decode cX3_putGive 21 = .ok (.getfield 27, 3) := by decide +kernel
theorem dX3_putGive_24 : decode cX3_putGive 24 = .ok (.iload_n 1, 1) := by decide +kernel
theorem dX3_putGive_25 : decode cX3_putGive 25 = .ok (.iastore, 1) := by decide +kernel
theorem dX3_putGive_26 : decode cX3_putGive 26 = .ok (.aload_n 0, 1) := by decide +kernel
theorem dX3_putGive_27 : decode cX3_putGive 27 = .ok (.getfield 15, 3) := by decide +kernel
theorem dX3_putGive_30 : decode cX3_putGive 30 = .ok (.aload_n 0, 1) := by decide +kernel
theorem dX3_putGive_31 : decode cX3_putGive 31 = .ok (.getfield 27, 3) := by decide +kernel
theorem dX3_putGive_34 : decode cX3_putGive 34 = .ok (.aload_n 0, 1) := by decide +kernel
theorem dX3_putGive_35 : decode cX3_putGive 35 = .ok (.getfield 31, 3) := by decide +kernel
theorem dX3_putGive_38 : decode cX3_putGive 38 = .ok (.iastore, 1) := by decide +kernel
theorem dX3_putGive_39 : decode cX3_putGive 39 = .ok (.aload_n 0, 1) := by decide +kernel
theorem dX3_putGive_40 : decode cX3_putGive 40 = .ok (.dup, 1) := by decide +kernel
theorem dX3_putGive_41 : decode cX3_putGive 41 = .ok (.getfield 27, 3) := by decide +kernel
theorem dX3_putGive_44 : decode cX3_putGive 44 = .ok (.iconst 1, 1) := by decide +kernel
theorem dX3_putGive_45 : decode cX3_putGive 45 = .ok (.iadd, 1) := by decide +kernel
theorem dX3_putGive_46 : decode cX3_putGive 46 = .ok (.putfield 27, 3) := by decide +kernel
theorem dX3_putGive_49 : decode cX3_putGive 49 = .ok (.return_, 1) := by decide +kernel
def fX3_putGive_B49 (k : Nat) (μ : vr_M) : Option (Int × vr_M) :=
  some (0, μ)
def fX3_putGive (k : Nat) (a0 : Int) (μ : vr_M) : Option (Int × vr_M) :=
  vr_gd (vr_R (μ k 3)) (if (μ k 3) < 0 then fX3_putGive_B49 k μ else if 10 ≤ (μ k 3) then fX3_putGive_B49 k μ else vr_gd (0 ≤ (μ k 3) ∧ (μ k 3) < 10) (vr_let (vr_u μ (k + 1) (μ k 3).toNat a0) (fun μ3 => vr_gd (0 ≤ (μ3 k 3) ∧ (μ3 k 3) < 10) (vr_let (vr_u μ3 (k + 2) (μ3 k 3).toNat (μ3 k 4)) (fun μ5 => fX3_putGive_B49 k (vr_u μ5 k 3 ((μ5 k 3) + 1)))))))
set_option maxRecDepth 100000 in
set_option maxHeartbeats 4000000 in
theorem ct_X3_putGive (l : Launch) (G : vr_G) {k : Nat} (hk_k : k < 78) (hd_k : vr_kd k = 3) (a0 : Int) (h_a0 : vr_R a0) (μ : vr_M) : vr_CV l yX3_putGive cX3_putGive 2 none ({ frames := 0, cells := 0, slots := 0, locals := 0 } : Room) G [.ref (vr_ad G k), .int (vr_I a0)] μ (fX3_putGive k a0 μ) := by
  refine vr_start (own := RX3) (by decide) rfl (Nat.le_of_ble_eq_true rfl) (fun p e s m args below meth c C0 => ?_)
  obtain ⟨q_k, ⟨d_k_1, d_k_2, d_k_3, d_k_4⟩, n_k_1, n_k_2, n_k_3, n_k_4⟩ := vr_land hk_k hd_k
  show vr_J p l e _ s m args below meth c 2 0 0 G (vr_Z (vr_QV G) G args s below) 0 [(0, .ref (vr_ad G k)), (1, .int (vr_I a0))] [] μ _
  have B49 : ∀ (μ : vr_M), vr_J p l e ({ frames := 0, cells := 0, slots := 0, locals := 0 } : Room) s m args below meth c 2 0 0 G (vr_Z (vr_QV G) G args s below) 49 [] [] μ (fX3_putGive_B49 k μ) := by
    intro μ
    unfold fX3_putGive_B49
    exact jr_vret C0 dX3_putGive_49
  unfold fX3_putGive
  refine jr_aload_n C0 0 dX3_putGive_0 rfl rfl ?_
  refine jr_geti C0 hk_k hd_k (by decide) rfl wx_X3 (i := 3) (by decide) wf_X3_27 rfl dX3_putGive_1 ?_
  refine jr_gd (fun g1 => ?_)
  refine jr_if_lt C0 g1 dX3_putGive_4 (tgt := 49) (by decide) ?_ ?_
  · refine jr_sub [] rfl ?_
    exact B49 _
  refine jr_aload_n C0 0 dX3_putGive_7 rfl rfl ?_
  refine jr_geti C0 hk_k hd_k (by decide) rfl wx_X3 (i := 3) (by decide) wf_X3_27 rfl dX3_putGive_8 ?_
  refine jr_bipush C0 dX3_putGive_11 rfl ?_
  refine jr_icmp_ge C0 g1 (⟨by decide, by decide⟩) dX3_putGive_13 (tgt := 49) (by decide) ?_ ?_
  · refine jr_sub [] rfl ?_
    exact B49 _
  refine jr_aload_n C0 0 dX3_putGive_16 rfl rfl ?_
  refine jr_getr C0 hk_k hd_k (by decide) rfl wx_X3 (i := 0) (by decide) wf_X3_9 (j := (k + 1)) rfl dX3_putGive_17 ?_
  refine jr_aload_n C0 0 dX3_putGive_20 rfl rfl ?_
  refine jr_geti C0 hk_k hd_k (by decide) rfl wx_X3 (i := 3) (by decide) wf_X3_27 rfl dX3_putGive_21 ?_
  refine jr_iload_n C0 1 dX3_putGive_24 rfl rfl ?_
  refine jr_gd (fun g2 => ?_)
  refine jr_iast C0 (by omega) d_k_1 n_k_1 g2 (j := (μ k 3).toNat) rfl dX3_putGive_25 ?_
  refine jr_aload_n C0 0 dX3_putGive_26 rfl rfl ?_
  refine jr_getr C0 hk_k hd_k (by decide) rfl wx_X3 (i := 1) (by decide) wf_X3_15 (j := (k + 2)) rfl dX3_putGive_27 ?_
  refine jr_aload_n C0 0 dX3_putGive_30 rfl rfl ?_
  refine jr_let (fun μ3 => ?_)
  refine jr_geti C0 hk_k hd_k (by decide) rfl wx_X3 (i := 3) (by decide) wf_X3_27 rfl dX3_putGive_31 ?_
  refine jr_aload_n C0 0 dX3_putGive_34 rfl rfl ?_
  refine jr_geti C0 hk_k hd_k (by decide) rfl wx_X3 (i := 4) (by decide) wf_X3_31 rfl dX3_putGive_35 ?_
  refine jr_gd (fun g4 => ?_)
  refine jr_iast C0 (by omega) d_k_2 n_k_2 g4 (j := (μ3 k 3).toNat) rfl dX3_putGive_38 ?_
  refine jr_aload_n C0 0 dX3_putGive_39 rfl rfl ?_
  refine jr_dup C0 rfl dX3_putGive_40 ?_
  refine jr_let (fun μ5 => ?_)
  refine jr_geti C0 hk_k hd_k (by decide) rfl wx_X3 (i := 3) (by decide) wf_X3_27 rfl dX3_putGive_41 ?_
  refine jr_iconst C0 dX3_putGive_44 ?_
  refine jr_iadd C0 dX3_putGive_45 ?_
  refine jr_puti C0 hk_k hd_k (by decide) rfl wx_X3 (i := 3) (by decide) wf_X3_27 rfl tyX3_ok nmX3 rfl rfl rfl dX3_putGive_46 ?_
  refine jr_sub [] rfl ?_
  exact B49 _
theorem dX3_putWear_0 : decode cX3_putWear 0 = .ok (.aload_n 0, 1) := by decide +kernel
theorem dX3_putWear_1 : decode cX3_putWear 1 = .ok (.iconst (-1), 1) := by decide +kernel
theorem dX3_putWear_2 : decode cX3_putWear 2 = .ok (.invokevirtual 46, 3) := by decide +kernel
theorem dX3_putWear_5 : decode cX3_putWear 5 = .ok (.return_, 1) := by decide +kernel
def fX3_putWear (k : Nat) (μ : vr_M) : Option (Int × vr_M) :=
  (fX3_putGive k (-1) μ).bind (fun r1 => some (0, r1.2))
set_option maxRecDepth 100000 in
set_option maxHeartbeats 4000000 in
theorem ct_X3_putWear (l : Launch) (G : vr_G) {k : Nat} (hk_k : k < 78) (hd_k : vr_kd k = 3) (μ : vr_M) : vr_CV l yX3_putWear cX3_putWear 1 none ({ frames := 1, cells := 0, slots := 0, locals := 21 } : Room) G [.ref (vr_ad G k)] μ (fX3_putWear k μ) := by
  refine vr_start (own := RX3) (by decide) rfl (Nat.le_of_ble_eq_true rfl) (fun p e s m args below meth c C0 => ?_)
  obtain ⟨q_k, ⟨d_k_1, d_k_2, d_k_3, d_k_4⟩, n_k_1, n_k_2, n_k_3, n_k_4⟩ := vr_land hk_k hd_k
  show vr_J p l e _ s m args below meth c 1 0 0 G (vr_Z (vr_QV G) G args s below) 0 [(0, .ref (vr_ad G k))] [] μ _
  unfold fX3_putWear
  refine jr_aload_n C0 0 dX3_putWear_0 rfl rfl ?_
  refine jr_iconst C0 dX3_putWear_1 ?_
  refine jr_vV0 C0 hk_k hd_k (by decide) rfl (ct_X3_putGive l G hk_k hd_k (-1) (⟨by decide, by decide⟩) _) mi_X3_putGive wm_X3_46 ⟨Nat.le_of_ble_eq_true rfl, Nat.le_of_ble_eq_true rfl⟩ ⟨rfl, rfl⟩ (As := [.int (vr_I (-1))]) rfl (st := []) rfl (Nat.le_of_ble_eq_true rfl) dX3_putWear_2 (fun r1 => ?_)
  exact jr_vret C0 dX3_putWear_5
theorem dX3_putNumber_0 : decode cX3_putNumber 0 = .ok (.iload_n 1, 1) := by decide +kernel
theorem dX3_putNumber_1 : decode cX3_putNumber 1 = .ok (.tableswitch 68 2 5 #[31, 39, 47, 55], 31) := by decide +kernel
theorem dX3_putNumber_32 : decode cX3_putNumber 32 = .ok (.aload_n 0, 1) := by decide +kernel
theorem dX3_putNumber_33 : decode cX3_putNumber 33 = .ok (.iload_n 2, 1) := by decide +kernel
theorem dX3_putNumber_34 : decode cX3_putNumber 34 = .ok (.putfield 34, 3) := by decide +kernel
theorem dX3_putNumber_37 : decode cX3_putNumber 37 = .ok (.goto 32, 3) := by decide +kernel
theorem dX3_putNumber_40 : decode cX3_putNumber 40 = .ok (.aload_n 0, 1) := by decide +kernel
theorem dX3_putNumber_41 : decode cX3_putNumber 41 = .ok (.iload_n 2, 1) := by decide +kernel
theorem dX3_putNumber_42 : decode cX3_putNumber 42 = .ok (.putfield 37, 3) := by decide +kernel
theorem dX3_putNumber_45 : decode cX3_putNumber 45 = .ok (.goto 24, 3) := by decide +kernel
theorem dX3_putNumber_48 : decode cX3_putNumber 48 = .ok (.aload_n 0, 1) := by decide +kernel
theorem dX3_putNumber_49 : decode cX3_putNumber 49 = .ok (.iload_n 2, 1) := by decide +kernel
theorem dX3_putNumber_50 : decode cX3_putNumber 50 = .ok (.putfield 40, 3) := by decide +kernel
theorem dX3_putNumber_53 : decode cX3_putNumber 53 = .ok (.goto 16, 3) := by decide +kernel
theorem dX3_putNumber_56 : decode cX3_putNumber 56 = .ok (.aload_n 0, 1) := by decide +kernel
theorem dX3_putNumber_57 : decode cX3_putNumber 57 = .ok (.iload_n 2, 1) := by decide +kernel
theorem dX3_putNumber_58 : decode cX3_putNumber 58 = .ok (.bipush 10, 2) := by decide +kernel
theorem dX3_putNumber_60 : decode cX3_putNumber 60 = .ok (.invokestatic 50, 3) := by decide +kernel
theorem dX3_putNumber_63 : decode cX3_putNumber 63 = .ok (.putfield 43, 3) := by decide +kernel
theorem dX3_putNumber_66 : decode cX3_putNumber 66 = .ok (.goto 3, 3) := by decide +kernel
theorem dX3_putNumber_69 : decode cX3_putNumber 69 = .ok (.return_, 1) := by decide +kernel
def fX3_putNumber_B69 (k : Nat) (μ : vr_M) : Option (Int × vr_M) :=
  some (0, μ)
def fX3_putNumber (k : Nat) (a0 : Int) (a1 : Int) (μ : vr_M) : Option (Int × vr_M) :=
  vr_sw a0 2 [fX3_putNumber_B69 k (vr_u μ k 5 a1), fX3_putNumber_B69 k (vr_u μ k 6 a1), fX3_putNumber_B69 k (vr_u μ k 7 a1), fX3_putNumber_B69 k (vr_u μ k 8 (min a1 10))] (fX3_putNumber_B69 k μ)
set_option maxRecDepth 100000 in
set_option maxHeartbeats 4000000 in
theorem ct_X3_putNumber (l : Launch) (G : vr_G) {k : Nat} (hk_k : k < 78) (hd_k : vr_kd k = 3) (a0 : Int) (h_a0 : vr_R a0) (a1 : Int) (h_a1 : vr_R a1) (μ : vr_M) : vr_CV l yX3_putNumber cX3_putNumber 3 none ({ frames := 1, cells := 0, slots := 0, locals := 14 } : Room) G [.ref (vr_ad G k), .int (vr_I a0), .int (vr_I a1)] μ (fX3_putNumber k a0 a1 μ) := by
  refine vr_start (own := RX3) (by decide) rfl (Nat.le_of_ble_eq_true rfl) (fun p e s m args below meth c C0 => ?_)
  obtain ⟨q_k, ⟨d_k_1, d_k_2, d_k_3, d_k_4⟩, n_k_1, n_k_2, n_k_3, n_k_4⟩ := vr_land hk_k hd_k
  show vr_J p l e _ s m args below meth c 3 0 0 G (vr_Z (vr_QV G) G args s below) 0 [(0, .ref (vr_ad G k)), (1, .int (vr_I a0)), (2, .int (vr_I a1))] [] μ _
  have B69 : ∀ (μ : vr_M), vr_J p l e ({ frames := 1, cells := 0, slots := 0, locals := 14 } : Room) s m args below meth c 3 0 0 G (vr_Z (vr_QV G) G args s below) 69 [] [] μ (fX3_putNumber_B69 k μ) := by
    intro μ
    unfold fX3_putNumber_B69
    exact jr_vret C0 dX3_putNumber_69
  unfold fX3_putNumber
  refine jr_iload_n C0 1 dX3_putNumber_0 rfl rfl ?_
  refine jr_tsw C0 h_a0 dX3_putNumber_1 (by decide) (td := 69) (by decide) (vr_TS_cons (tgt := 32) (by decide) ?_ (vr_TS_cons (tgt := 40) (by decide) ?_ (vr_TS_cons (tgt := 48) (by decide) ?_ (vr_TS_cons (tgt := 56) (by decide) ?_ vr_TS_nil)))) ?_
  · show vr_J p l e _ s m args below meth c _ _ _ G _ 32 _ _ _ _
    refine jr_aload_n C0 0 dX3_putNumber_32 rfl rfl ?_
    refine jr_iload_n C0 2 dX3_putNumber_33 rfl rfl ?_
    refine jr_puti C0 hk_k hd_k (by decide) rfl wx_X3 (i := 5) (by decide) wf_X3_34 rfl tyX3_ok nmX3 rfl rfl rfl dX3_putNumber_34 ?_
    refine jr_goto C0 dX3_putNumber_37 (tgt := 69) (by decide) ?_
    refine jr_sub [] rfl ?_
    exact B69 _
  · show vr_J p l e _ s m args below meth c _ _ _ G _ 40 _ _ _ _
    refine jr_aload_n C0 0 dX3_putNumber_40 rfl rfl ?_
    refine jr_iload_n C0 2 dX3_putNumber_41 rfl rfl ?_
    refine jr_puti C0 hk_k hd_k (by decide) rfl wx_X3 (i := 6) (by decide) wf_X3_37 rfl tyX3_ok nmX3 rfl rfl rfl dX3_putNumber_42 ?_
    refine jr_goto C0 dX3_putNumber_45 (tgt := 69) (by decide) ?_
    refine jr_sub [] rfl ?_
    exact B69 _
  · show vr_J p l e _ s m args below meth c _ _ _ G _ 48 _ _ _ _
    refine jr_aload_n C0 0 dX3_putNumber_48 rfl rfl ?_
    refine jr_iload_n C0 2 dX3_putNumber_49 rfl rfl ?_
    refine jr_puti C0 hk_k hd_k (by decide) rfl wx_X3 (i := 7) (by decide) wf_X3_40 rfl tyX3_ok nmX3 rfl rfl rfl dX3_putNumber_50 ?_
    refine jr_goto C0 dX3_putNumber_53 (tgt := 69) (by decide) ?_
    refine jr_sub [] rfl ?_
    exact B69 _
  · show vr_J p l e _ s m args below meth c _ _ _ G _ 56 _ _ _ _
    refine jr_aload_n C0 0 dX3_putNumber_56 rfl rfl ?_
    refine jr_iload_n C0 2 dX3_putNumber_57 rfl rfl ?_
    refine jr_bipush C0 dX3_putNumber_58 rfl ?_
    refine jr_min C0 h_a1 (⟨by decide, by decide⟩) wm_X3_50 wt_yJ9_min_7cf53 wz_J9 wc_yJ9_min_7cf53 (Nat.le_of_ble_eq_true rfl) (Nat.le_of_ble_eq_true rfl) dX3_putNumber_60 ?_
    refine jr_puti C0 hk_k hd_k (by decide) rfl wx_X3 (i := 8) (by decide) wf_X3_43 rfl tyX3_ok nmX3 rfl rfl rfl dX3_putNumber_63 ?_
    refine jr_goto C0 dX3_putNumber_66 (tgt := 69) (by decide) ?_
    refine jr_sub [] rfl ?_
    exact B69 _
  refine jr_sub [] rfl ?_
  exact B69 _
theorem dX3_testStep_0 : decode cX3_testStep 0 = .ok (.iload_n 0, 1) := by decide +kernel
theorem dX3_testStep_1 : decode cX3_testStep 1 = .ok (.iconst 3, 1) := by decide +kernel
theorem dX3_testStep_2 : decode cX3_testStep 2 = .ok (.imul, 1) := by decide +kernel
theorem dX3_testStep_3 : decode cX3_testStep 3 = .ok (.iload_n 1, 1) := by decide +kernel
theorem dX3_testStep_4 : decode cX3_testStep 4 = .ok (.iadd, 1) := by decide +kernel
theorem dX3_testStep_5 : decode cX3_testStep 5 = .ok (.bipush 100, 2) := by decide +kernel
theorem dX3_testStep_7 : decode cX3_testStep 7 = .ok (.imul, 1) := by decide +kernel
theorem dX3_testStep_8 : decode cX3_testStep 8 = .ok (.iload_n 2, 1) := by decide +kernel
theorem dX3_testStep_9 : decode cX3_testStep 9 = .ok (.iadd, 1) := by decide +kernel
theorem dX3_testStep_10 : decode cX3_testStep 10 = .ok (.ireturn, 1) := by decide +kernel
def fX3_testStep (a0 : Int) (a1 : Int) (a2 : Int) (μ : vr_M) : Option (Int × vr_M) :=
  vr_gd (vr_R ((((a0 * 3) + a1) * 100) + a2)) (some ((((a0 * 3) + a1) * 100) + a2, μ))
set_option maxRecDepth 100000 in
set_option maxHeartbeats 4000000 in
theorem ct_X3_testStep (l : Launch) (G : vr_G) (a0 : Int) (h_a0 : vr_R a0) (a1 : Int) (h_a1 : vr_R a1) (a2 : Int) (h_a2 : vr_R a2) (μ : vr_M) : vr_CI l yX3_testStep cX3_testStep 3 (some .int) ({ frames := 0, cells := 0, slots := 0, locals := 0 } : Room) G [.int (vr_I a0), .int (vr_I a1), .int (vr_I a2)] μ (fX3_testStep a0 a1 a2 μ) := by
  refine vr_start (own := RX3) (by decide) rfl (Nat.le_of_ble_eq_true rfl) (fun p e s m args below meth c C0 => ?_)
  show vr_J p l e _ s m args below meth c 3 0 0 G (vr_Z (vr_QI G) G args s below) 0 [(0, .int (vr_I a0)), (1, .int (vr_I a1)), (2, .int (vr_I a2))] [] μ _
  unfold fX3_testStep
  refine jr_iload_n C0 0 dX3_testStep_0 rfl rfl ?_
  refine jr_iconst C0 dX3_testStep_1 ?_
  refine jr_imul C0 dX3_testStep_2 ?_
  refine jr_iload_n C0 1 dX3_testStep_3 rfl rfl ?_
  refine jr_iadd C0 dX3_testStep_4 ?_
  refine jr_bipush C0 dX3_testStep_5 rfl ?_
  refine jr_imul C0 dX3_testStep_7 ?_
  refine jr_iload_n C0 2 dX3_testStep_8 rfl rfl ?_
  refine jr_iadd C0 dX3_testStep_9 ?_
  refine jr_gd (fun g1 => ?_)
  exact jr_iret C0 g1 dX3_testStep_10
theorem dX4_at_0 : decode cX4_at 0 = .ok (.iload_n 1, 1) := by decide +kernel
theorem dX4_at_1 : decode cX4_at 1 = .ok (.ifCond .lt 29, 3) := by decide +kernel
theorem dX4_at_4 : decode cX4_at 4 = .ok (.iload_n 1, 1) := by decide +kernel
theorem dX4_at_5 : decode cX4_at 5 = .ok (.aload_n 0, 1) := by decide +kernel
theorem dX4_at_6 : decode cX4_at 6 = .ok (.getfield 19, 3) := by decide +kernel
theorem dX4_at_9 : decode cX4_at 9 = .ok (.if_icmp .ge 21, 3) := by decide +kernel
theorem dX4_at_12 : decode cX4_at 12 = .ok (.iload_n 1, 1) := by decide +kernel
theorem dX4_at_13 : decode cX4_at 13 = .ok (.aload_n 0, 1) := by decide +kernel
theorem dX4_at_14 : decode cX4_at 14 = .ok (.getfield 13, 3) := by decide +kernel
theorem dX4_at_17 : decode cX4_at 17 = .ok (.arraylength, 1) := by decide +kernel
theorem dX4_at_18 : decode cX4_at 18 = .ok (.if_icmp .ge 12, 3) := by decide +kernel
theorem dX4_at_21 : decode cX4_at 21 = .ok (.aload_n 0, 1) := by decide +kernel
theorem dX4_at_22 : decode cX4_at 22 = .ok (.getfield 13, 3) := by decide +kernel
theorem dX4_at_25 : decode cX4_at 25 = .ok (.iload_n 1, 1) := by decide +kernel
theorem dX4_at_26 : decode cX4_at 26 = .ok (.iaload, 1) := by decide +kernel
theorem dX4_at_27 : decode cX4_at 27 = .ok (.goto 4, 3) := by decide +kernel
theorem dX4_at_30 : decode cX4_at 30 = .ok (.iconst 0, 1) := by decide +kernel
theorem dX4_at_31 : decode cX4_at 31 = .ok (.ireturn, 1) := by decide +kernel
def fX4_at_B31 (k : Nat) (y0 : Int) (μ : vr_M) : Option (Int × vr_M) :=
  some (y0, μ)
def fX4_at_B30 (k : Nat) (μ : vr_M) : Option (Int × vr_M) :=
  fX4_at_B31 k 0 μ
def fX4_at (k : Nat) (a0 : Int) (μ : vr_M) : Option (Int × vr_M) :=
  if a0 < 0 then fX4_at_B30 k μ else vr_gd (vr_R (μ k 1)) (if (μ k 1) ≤ a0 then fX4_at_B30 k μ else if ((vr_ln (k + 1)) : Int) ≤ a0 then fX4_at_B30 k μ else vr_gd (0 ≤ a0 ∧ a0 < (vr_ln (k + 1))) (vr_gd (vr_R (μ (k + 1) a0.toNat)) (fX4_at_B31 k (μ (k + 1) a0.toNat) μ)))
set_option maxRecDepth 100000 in
set_option maxHeartbeats 4000000 in
theorem ct_X4_at (l : Launch) (G : vr_G) {k : Nat} (hk_k : k < 78) (hd_k : vr_kd k = 4) (a0 : Int) (h_a0 : vr_R a0) (μ : vr_M) : vr_CI l yX4_at cX4_at 2 (some .int) ({ frames := 0, cells := 0, slots := 0, locals := 0 } : Room) G [.ref (vr_ad G k), .int (vr_I a0)] μ (fX4_at k a0 μ) := by
  refine vr_start (own := RX4) (by decide) rfl (Nat.le_of_ble_eq_true rfl) (fun p e s m args below meth c C0 => ?_)
  obtain ⟨q_k, d_k_1⟩ := vr_nums hk_k hd_k
  show vr_J p l e _ s m args below meth c 2 0 0 G (vr_Z (vr_QI G) G args s below) 0 [(0, .ref (vr_ad G k)), (1, .int (vr_I a0))] [] μ _
  have B31 : ∀ (y0 : Int) (h_y0 : vr_R y0) (μ : vr_M), vr_J p l e ({ frames := 0, cells := 0, slots := 0, locals := 0 } : Room) s m args below meth c 2 0 0 G (vr_Z (vr_QI G) G args s below) 31 [] [.int (vr_I y0)] μ (fX4_at_B31 k y0 μ) := by
    intro y0 h_y0 μ
    unfold fX4_at_B31
    exact jr_iret C0 h_y0 dX4_at_31
  have B30 : ∀ (μ : vr_M), vr_J p l e ({ frames := 0, cells := 0, slots := 0, locals := 0 } : Room) s m args below meth c 2 0 0 G (vr_Z (vr_QI G) G args s below) 30 [] [] μ (fX4_at_B30 k μ) := by
    intro μ
    unfold fX4_at_B30
    refine jr_iconst C0 dX4_at_30 ?_
    exact B31 0 (⟨by decide, by decide⟩) _
  unfold fX4_at
  refine jr_iload_n C0 1 dX4_at_0 rfl rfl ?_
  refine jr_if_lt C0 h_a0 dX4_at_1 (tgt := 30) (by decide) ?_ ?_
  · refine jr_sub [] rfl ?_
    exact B30 _
  refine jr_iload_n C0 1 dX4_at_4 rfl rfl ?_
  refine jr_aload_n C0 0 dX4_at_5 rfl rfl ?_
  refine jr_geti C0 hk_k hd_k (by decide) rfl wx_X4 (i := 1) (by decide) wf_X4_19 rfl dX4_at_6 ?_
  refine jr_gd (fun g1 => ?_)
  refine jr_icmp_ge C0 h_a0 g1 dX4_at_9 (tgt := 30) (by decide) ?_ ?_
  · refine jr_sub [] rfl ?_
    exact B30 _
  refine jr_iload_n C0 1 dX4_at_12 rfl rfl ?_
  refine jr_aload_n C0 0 dX4_at_13 rfl rfl ?_
  refine jr_getr C0 hk_k hd_k (by decide) rfl wx_X4 (i := 0) (by decide) wf_X4_13 (j := (k + 1)) rfl dX4_at_14 ?_
  refine jr_alen C0 (by omega) d_k_1 rfl dX4_at_17 ?_
  refine jr_icmp_ge C0 h_a0 (vr_Rln _) dX4_at_18 (tgt := 30) (by decide) ?_ ?_
  · refine jr_sub [] rfl ?_
    exact B30 _
  refine jr_aload_n C0 0 dX4_at_21 rfl rfl ?_
  refine jr_getr C0 hk_k hd_k (by decide) rfl wx_X4 (i := 0) (by decide) wf_X4_13 (j := (k + 1)) rfl dX4_at_22 ?_
  refine jr_iload_n C0 1 dX4_at_25 rfl rfl ?_
  refine jr_gd (fun g2 => ?_)
  refine jr_iald C0 (by omega) d_k_1 rfl g2 (j := a0.toNat) rfl dX4_at_26 ?_
  refine jr_goto C0 dX4_at_27 (tgt := 31) (by decide) ?_
  refine jr_gd (fun g3 => ?_)
  refine jr_sub [] rfl ?_
  exact B31 (μ (k + 1) a0.toNat) g3 _
theorem dX4_put_0 : decode cX4_put 0 = .ok (.aload_n 0, 1) := by decide +kernel
theorem dX4_put_1 : decode cX4_put 1 = .ok (.getfield 19, 3) := by decide +kernel
theorem dX4_put_4 : decode cX4_put 4 = .ok (.ifCond .lt 35, 3) := by decide +kernel
theorem dX4_put_7 : decode cX4_put 7 = .ok (.aload_n 0, 1) := by decide +kernel
theorem dX4_put_8 : decode cX4_put 8 = .ok (.getfield 19, 3) := by decide +kernel
theorem dX4_put_11 : decode cX4_put 11 = .ok (.aload_n 0, 1) := by decide +kernel
theorem dX4_put_12 : decode cX4_put 12 = .ok (.getfield 13, 3) := by decide +kernel
theorem dX4_put_15 : decode cX4_put 15 = .ok (.arraylength, 1) := by decide +kernel
theorem dX4_put_16 : decode cX4_put 16 = .ok (.if_icmp .ge 23, 3) := by decide +kernel
theorem dX4_put_19 : decode cX4_put 19 = .ok (.aload_n 0, 1) := by decide +kernel
theorem dX4_put_20 : decode cX4_put 20 = .ok (.getfield 13, 3) := by decide +kernel
theorem dX4_put_23 : decode cX4_put 23 = .ok (.aload_n 0, 1) := by decide +kernel
theorem dX4_put_24 : decode cX4_put 24 = .ok (.getfield 19, 3) := by decide +kernel
theorem dX4_put_27 : decode cX4_put 27 = .ok (.iload_n 1, 1) := by decide +kernel
theorem dX4_put_28 : decode cX4_put 28 = .ok (.iastore, 1) := by decide +kernel
theorem dX4_put_29 : decode cX4_put 29 = .ok (.aload_n 0, 1) := by decide +kernel
theorem dX4_put_30 : decode cX4_put 30 = .ok (.dup, 1) := by decide +kernel
theorem dX4_put_31 : decode cX4_put 31 = .ok (.getfield 19, 3) := by decide +kernel
theorem dX4_put_34 : decode cX4_put 34 = .ok (.iconst 1, 1) := by decide +kernel
theorem dX4_put_35 : decode cX4_put 35 = .ok (.iadd, 1) := by decide +kernel
theorem dX4_put_36 : decode cX4_put 36 = .ok (.putfield 19, 3) := by decide +kernel
theorem dX4_put_39 : decode cX4_put 39 = .ok (.aload_n 0, 1) := by decide +kernel
theorem dX4_put_40 : decode cX4_put 40 = .ok (.getfield 19, 3) := by decide +kernel
theorem dX4_put_43 : decode cX4_put 43 = .ok (.ireturn, 1) := by decide +kernel
def fX4_put_B39 (k : Nat) (μ : vr_M) : Option (Int × vr_M) :=
  vr_gd (vr_R (μ k 1)) (some (μ k 1, μ))
def fX4_put (k : Nat) (a0 : Int) (μ : vr_M) : Option (Int × vr_M) :=
  vr_gd (vr_R (μ k 1)) (if (μ k 1) < 0 then fX4_put_B39 k μ else if ((vr_ln (k + 1)) : Int) ≤ (μ k 1) then fX4_put_B39 k μ else vr_gd (0 ≤ (μ k 1) ∧ (μ k 1) < (vr_ln (k + 1))) (vr_let (vr_u μ (k + 1) (μ k 1).toNat a0) (fun μ4 => fX4_put_B39 k (vr_u μ4 k 1 ((μ4 k 1) + 1)))))
set_option maxRecDepth 100000 in
set_option maxHeartbeats 4000000 in
theorem ct_X4_put (l : Launch) (G : vr_G) {k : Nat} (hk_k : k < 78) (hd_k : vr_kd k = 4) (a0 : Int) (h_a0 : vr_R a0) (μ : vr_M) : vr_CI l yX4_put cX4_put 2 (some .int) ({ frames := 0, cells := 0, slots := 0, locals := 0 } : Room) G [.ref (vr_ad G k), .int (vr_I a0)] μ (fX4_put k a0 μ) := by
  refine vr_start (own := RX4) (by decide) rfl (Nat.le_of_ble_eq_true rfl) (fun p e s m args below meth c C0 => ?_)
  obtain ⟨q_k, d_k_1⟩ := vr_nums hk_k hd_k
  show vr_J p l e _ s m args below meth c 2 0 0 G (vr_Z (vr_QI G) G args s below) 0 [(0, .ref (vr_ad G k)), (1, .int (vr_I a0))] [] μ _
  have B39 : ∀ (μ : vr_M), vr_J p l e ({ frames := 0, cells := 0, slots := 0, locals := 0 } : Room) s m args below meth c 2 0 0 G (vr_Z (vr_QI G) G args s below) 39 [(0, .ref (vr_ad G k))] [] μ (fX4_put_B39 k μ) := by
    intro μ
    unfold fX4_put_B39
    refine jr_aload_n C0 0 dX4_put_39 rfl rfl ?_
    refine jr_geti C0 hk_k hd_k (by decide) rfl wx_X4 (i := 1) (by decide) wf_X4_19 rfl dX4_put_40 ?_
    refine jr_gd (fun g1 => ?_)
    exact jr_iret C0 g1 dX4_put_43
  unfold fX4_put
  refine jr_aload_n C0 0 dX4_put_0 rfl rfl ?_
  refine jr_geti C0 hk_k hd_k (by decide) rfl wx_X4 (i := 1) (by decide) wf_X4_19 rfl dX4_put_1 ?_
  refine jr_gd (fun g2 => ?_)
  refine jr_if_lt C0 g2 dX4_put_4 (tgt := 39) (by decide) ?_ ?_
  · refine jr_sub [0] rfl ?_
    exact B39 _
  refine jr_aload_n C0 0 dX4_put_7 rfl rfl ?_
  refine jr_geti C0 hk_k hd_k (by decide) rfl wx_X4 (i := 1) (by decide) wf_X4_19 rfl dX4_put_8 ?_
  refine jr_aload_n C0 0 dX4_put_11 rfl rfl ?_
  refine jr_getr C0 hk_k hd_k (by decide) rfl wx_X4 (i := 0) (by decide) wf_X4_13 (j := (k + 1)) rfl dX4_put_12 ?_
  refine jr_alen C0 (by omega) d_k_1 rfl dX4_put_15 ?_
  refine jr_icmp_ge C0 g2 (vr_Rln _) dX4_put_16 (tgt := 39) (by decide) ?_ ?_
  · refine jr_sub [0] rfl ?_
    exact B39 _
  refine jr_aload_n C0 0 dX4_put_19 rfl rfl ?_
  refine jr_getr C0 hk_k hd_k (by decide) rfl wx_X4 (i := 0) (by decide) wf_X4_13 (j := (k + 1)) rfl dX4_put_20 ?_
  refine jr_aload_n C0 0 dX4_put_23 rfl rfl ?_
  refine jr_geti C0 hk_k hd_k (by decide) rfl wx_X4 (i := 1) (by decide) wf_X4_19 rfl dX4_put_24 ?_
  refine jr_iload_n C0 1 dX4_put_27 rfl rfl ?_
  refine jr_gd (fun g3 => ?_)
  refine jr_iast C0 (by omega) d_k_1 rfl g3 (j := (μ k 1).toNat) rfl dX4_put_28 ?_
  refine jr_aload_n C0 0 dX4_put_29 rfl rfl ?_
  refine jr_dup C0 rfl dX4_put_30 ?_
  refine jr_let (fun μ4 => ?_)
  refine jr_geti C0 hk_k hd_k (by decide) rfl wx_X4 (i := 1) (by decide) wf_X4_19 rfl dX4_put_31 ?_
  refine jr_iconst C0 dX4_put_34 ?_
  refine jr_iadd C0 dX4_put_35 ?_
  refine jr_puti C0 hk_k hd_k (by decide) rfl wx_X4 (i := 1) (by decide) wf_X4_19 rfl tyX4_ok nmX4 rfl rfl rfl dX4_put_36 ?_
  refine jr_sub [0] rfl ?_
  exact B39 _
theorem dX4_become_0 : decode cX4_become 0 = .ok (.aload_n 0, 1) := by decide +kernel
theorem dX4_become_1 : decode cX4_become 1 = .ok (.iconst 0, 1) := by decide +kernel
theorem dX4_become_2 : decode cX4_become 2 = .ok (.putfield 19, 3) := by decide +kernel
theorem dX4_become_5 : decode cX4_become 5 = .ok (.iconst 0, 1) := by decide +kernel
theorem dX4_become_6 : decode cX4_become 6 = .ok (.istore_n 2, 1) := by decide +kernel
theorem dX4_become_7 : decode cX4_become 7 = .ok (.iload_n 2, 1) := by decide +kernel
theorem dX4_become_8 : decode cX4_become 8 = .ok (.aload_n 1, 1) := by decide +kernel
theorem dX4_become_9 : decode cX4_become 9 = .ok (.getfield 19, 3) := by decide +kernel
theorem dX4_become_12 : decode cX4_become 12 = .ok (.if_icmp .ge 19, 3) := by decide +kernel
theorem dX4_become_15 : decode cX4_become 15 = .ok (.aload_n 0, 1) := by decide +kernel
theorem dX4_become_16 : decode cX4_become 16 = .ok (.aload_n 1, 1) := by decide +kernel
theorem dX4_become_17 : decode cX4_become 17 = .ok (.iload_n 2, 1) := by decide +kernel
theorem dX4_become_18 : decode cX4_become 18 = .ok (.invokevirtual 23, 3) := by decide +kernel
theorem dX4_become_21 : decode cX4_become 21 = .ok (.invokevirtual 27, 3) := by decide +kernel
theorem dX4_become_24 : decode cX4_become 24 = .ok (.pop, 1) := by decide +kernel
theorem dX4_become_25 : decode cX4_become 25 = .ok (.iinc 2 1, 3) := by decide +kernel
theorem dX4_become_28 : decode cX4_become 28 = .ok (.goto (-21), 3) := by decide +kernel
theorem dX4_become_31 : decode cX4_become 31 = .ok (.return_, 1) := by decide +kernel
def fX4_become_L7 (k : Nat) (k0 : Nat) : Nat → Int → vr_M → Option (Int × vr_M)
  | 0, _, _ => none
  | n + 1, x2, μ => vr_gd (vr_R (μ k0 1)) (if (μ k0 1) ≤ x2 then some (0, μ) else (fX4_at k0 x2 μ).bind (fun r2 => (fX4_put k r2.1 r2.2).bind (fun r3 => vr_gd (vr_R (x2 + 1)) ((fX4_become_L7 k k0 n) (x2 + 1) r3.2))))
def fX4_become (k : Nat) (k0 : Nat) (μ : vr_M) : Option (Int × vr_M) :=
  fX4_become_L7 k k0 9000 0 (vr_u μ k 1 0)
set_option maxRecDepth 100000 in
set_option maxHeartbeats 4000000 in
theorem ct_X4_become (l : Launch) (G : vr_G) {k : Nat} (hk_k : k < 78) (hd_k : vr_kd k = 4) {k0 : Nat} (hk_k0 : k0 < 78) (hd_k0 : vr_kd k0 = 4) (μ : vr_M) : vr_CV l yX4_become cX4_become 3 none ({ frames := 1, cells := 0, slots := 0, locals := 21 } : Room) G [.ref (vr_ad G k), .ref (vr_ad G k0)] μ (fX4_become k k0 μ) := by
  refine vr_start (own := RX4) (by decide) rfl (Nat.le_of_ble_eq_true rfl) (fun p e s m args below meth c C0 => ?_)
  obtain ⟨q_k, d_k_1⟩ := vr_nums hk_k hd_k
  obtain ⟨q_k0, d_k0_1⟩ := vr_nums hk_k0 hd_k0
  show vr_J p l e _ s m args below meth c 3 0 0 G (vr_Z (vr_QV G) G args s below) 0 [(0, .ref (vr_ad G k)), (1, .ref (vr_ad G k0))] [] μ _
  have L7 : ∀ (n : Nat) (x2 : Int) (h_x2 : vr_R x2) (μ : vr_M), vr_J p l e ({ frames := 1, cells := 0, slots := 0, locals := 21 } : Room) s m args below meth c 3 0 0 G (vr_Z (vr_QV G) G args s below) 7 [(0, .ref (vr_ad G k)), (1, .ref (vr_ad G k0)), (2, .int (vr_I x2))] [] μ (fX4_become_L7 k k0 n x2 μ) := by
    intro n7
    induction n7 with
    | zero => intros; exact jr_none
    | succ n7 ih7 =>
      intro x2 h_x2 μ
      rw [fX4_become_L7.eq_2]
      refine jr_iload_n C0 2 dX4_become_7 rfl rfl ?_
      refine jr_aload_n C0 1 dX4_become_8 rfl rfl ?_
      refine jr_geti C0 hk_k0 hd_k0 (by decide) rfl wx_X4 (i := 1) (by decide) wf_X4_19 rfl dX4_become_9 ?_
      refine jr_gd (fun g1 => ?_)
      refine jr_icmp_ge C0 h_x2 g1 dX4_become_12 (tgt := 31) (by decide) ?_ ?_
      · exact jr_vret C0 dX4_become_31
      refine jr_aload_n C0 0 dX4_become_15 rfl rfl ?_
      refine jr_aload_n C0 1 dX4_become_16 rfl rfl ?_
      refine jr_iload_n C0 2 dX4_become_17 rfl rfl ?_
      refine jr_vI C0 hk_k0 hd_k0 (by decide) rfl (ct_X4_at l G hk_k0 hd_k0 x2 h_x2 _) mi_X4_at wm_X4_23 ⟨Nat.le_of_ble_eq_true rfl, Nat.le_of_ble_eq_true rfl⟩ ⟨rfl, rfl⟩ (As := [.int (vr_I x2)]) rfl (st := [.ref (vr_ad G k)]) rfl (Nat.le_of_ble_eq_true rfl) dX4_become_18 (fun r2 hr2 => ?_)
      refine jr_vI C0 hk_k hd_k (by decide) rfl (ct_X4_put l G hk_k hd_k r2.1 hr2 _) mi_X4_put wm_X4_27 ⟨Nat.le_of_ble_eq_true rfl, Nat.le_of_ble_eq_true rfl⟩ ⟨rfl, rfl⟩ (As := [.int (vr_I r2.1)]) rfl (st := []) rfl (Nat.le_of_ble_eq_true rfl) dX4_become_21 (fun r3 hr3 => ?_)
      refine jr_pop C0 rfl dX4_become_24 ?_
      refine jr_iinc C0 (q := 2) dX4_become_25 rfl (by decide) (lv' := [(2, .int (vr_I (x2 + 1))), (0, .ref (vr_ad G k)), (1, .ref (vr_ad G k0))]) rfl ?_
      refine jr_goto C0 dX4_become_28 (tgt := 7) (by decide) ?_
      refine jr_gd (fun g4 => ?_)
      refine jr_sub [1, 2, 0] rfl ?_
      exact ih7 (x2 + 1) g4 _
  unfold fX4_become
  refine jr_aload_n C0 0 dX4_become_0 rfl rfl ?_
  refine jr_iconst C0 dX4_become_1 ?_
  refine jr_puti C0 hk_k hd_k (by decide) rfl wx_X4 (i := 1) (by decide) wf_X4_19 rfl tyX4_ok nmX4 rfl rfl rfl dX4_become_2 ?_
  refine jr_iconst C0 dX4_become_5 ?_
  refine jr_istore_n C0 dX4_become_6 rfl (by decide) (lv' := [(2, .int (vr_I 0)), (0, .ref (vr_ad G k)), (1, .ref (vr_ad G k0))]) rfl ?_
  refine jr_sub [1, 2, 0] rfl ?_
  exact L7 9000 0 (⟨by decide, by decide⟩) _
theorem dX5_call_0 : decode cX5_call 0 = .ok (.iload_n 1, 1) := by decide +kernel
theorem dX5_call_1 : decode cX5_call 1 = .ok (.istore 5, 2) := by decide +kernel
theorem dX5_call_3 : decode cX5_call 3 = .ok (.iconst 0, 1) := by decide +kernel
theorem dX5_call_4 : decode cX5_call 4 = .ok (.istore 6, 2) := by decide +kernel
theorem dX5_call_6 : decode cX5_call 6 = .ok (.iload 6, 2) := by decide +kernel
theorem dX5_call_8 : decode cX5_call 8 = .ok (.bipush 7, 2) := by decide +kernel
theorem dX5_call_10 : decode cX5_call 10 = .ok (.if_icmp .ge 85, 3) := by decide +kernel
theorem dX5_call_13 : decode cX5_call 13 = .ok (.iload 4, 2) := by decide +kernel
theorem dX5_call_15 : decode cX5_call 15 = .ok (.bipush 30, 2) := by decide +kernel
theorem dX5_call_17 : decode cX5_call 17 = .ok (.if_icmp .ge 78, 3) := by decide +kernel
theorem dX5_call_20 : decode cX5_call 20 = .ok (.iload 5, 2) := by decide +kernel
theorem dX5_call_22 : decode cX5_call 22 = .ok (.iconst 3, 1) := by decide +kernel
theorem dX5_call_23 : decode cX5_call 23 = .ok (.imul, 1) := by decide +kernel
theorem dX5_call_24 : decode cX5_call 24 = .ok (.iload_n 2, 1) := by decide +kernel
theorem dX5_call_25 : decode cX5_call 25 = .ok (.iadd, 1) := by decide +kernel
theorem dX5_call_26 : decode cX5_call 26 = .ok (.istore 7, 2) := by decide +kernel
theorem dX5_call_28 : decode cX5_call 28 = .ok (.iload 5, 2) := by decide +kernel
theorem dX5_call_30 : decode cX5_call 30 = .ok (.ifCond .lt 24, 3) := by decide +kernel
theorem dX5_call_33 : decode cX5_call 33 = .ok (.iload 5, 2) := by decide +kernel
theorem dX5_call_35 : decode cX5_call 35 = .ok (.bipush 7, 2) := by decide +kernel
theorem dX5_call_37 : decode cX5_call 37 = .ok (.if_icmp .ge 17, 3) := by decide +kernel
theorem dX5_call_40 : decode cX5_call 40 = .ok (.iload 7, 2) := by decide +kernel
theorem dX5_call_42 : decode cX5_call 42 = .ok (.ifCond .lt 12, 3) := by decide +kernel
theorem dX5_call_45 : decode cX5_call 45 = .ok (.iload 7, 2) := by decide +kernel
theorem dX5_call_47 : decode cX5_call 47 = .ok (.getstatic 29, 3) := by decide +kernel
theorem dX5_call_50 : decode cX5_call 50 = .ok (.arraylength, 1) := by decide +kernel
theorem dX5_call_51 : decode cX5_call 51 = .ok (.if_icmp .lt 5, 3) := by decide +kernel
theorem dX5_call_54 : decode cX5_call 54 = .ok (.iconst 0, 1) := by decide +kernel
theorem dX5_call_55 : decode cX5_call 55 = .ok (.ireturn, 1) := by decide +kernel
theorem dX5_call_56 : decode cX5_call 56 = .ok (.getstatic 29, 3) := by decide +kernel
theorem dX5_call_59 : decode cX5_call 59 = .ok (.iload 7, 2) := by decide +kernel
theorem dX5_call_61 : decode cX5_call 61 = .ok (.iaload, 1) := by decide +kernel
theorem dX5_call_62 : decode cX5_call 62 = .ok (.ifCond .eq 19, 3) := by decide +kernel
theorem dX5_call_65 : decode cX5_call 65 = .ok (.aload_n 0, 1) := by decide +kernel
theorem dX5_call_66 : decode cX5_call 66 = .ok (.getstatic 29, 3) := by decide +kernel
theorem dX5_call_69 : decode cX5_call 69 = .ok (.iload 7, 2) := by decide +kernel
theorem dX5_call_71 : decode cX5_call 71 = .ok (.iaload, 1) := by decide +kernel
theorem dX5_call_72 : decode cX5_call 72 = .ok (.iload_n 3, 1) := by decide +kernel
theorem dX5_call_73 : decode cX5_call 73 = .ok (.iload 4, 2) := by decide +kernel
theorem dX5_call_75 : decode cX5_call 75 = .ok (.iconst 1, 1) := by decide +kernel
theorem dX5_call_76 : decode cX5_call 76 = .ok (.iadd, 1) := by decide +kernel
theorem dX5_call_77 : decode cX5_call 77 = .ok (.invokevirtual 32, 3) := by decide +kernel
theorem dX5_call_80 : decode cX5_call 80 = .ok (.ireturn, 1) := by decide +kernel
theorem dX5_call_81 : decode cX5_call 81 = .ok (.getstatic 36, 3) := by decide +kernel
theorem dX5_call_84 : decode cX5_call 84 = .ok (.iload 5, 2) := by decide +kernel
theorem dX5_call_86 : decode cX5_call 86 = .ok (.iaload, 1) := by decide +kernel
theorem dX5_call_87 : decode cX5_call 87 = .ok (.istore 5, 2) := by decide +kernel
theorem dX5_call_89 : decode cX5_call 89 = .ok (.iinc 6 1, 3) := by decide +kernel
theorem dX5_call_92 : decode cX5_call 92 = .ok (.goto (-86), 3) := by decide +kernel
theorem dX5_call_95 : decode cX5_call 95 = .ok (.iconst 0, 1) := by decide +kernel
theorem dX5_call_96 : decode cX5_call 96 = .ok (.ireturn, 1) := by decide +kernel
def fX5_call_B54 (rc : Int → Int → Int → vr_M → Option (Int × vr_M)) (μ : vr_M) : Option (Int × vr_M) :=
  some (0, μ)
def fX5_call_B95 (rc : Int → Int → Int → vr_M → Option (Int × vr_M)) (μ : vr_M) : Option (Int × vr_M) :=
  some (0, μ)
def fX5_call_L6 (rc : Int → Int → Int → vr_M → Option (Int × vr_M)) : Nat → Int → Int → Int → Int → Int → vr_M → Option (Int × vr_M)
  | 0, _, _, _, _, _, _ => none
  | n + 1, x2, x3, x4, x5, x6, μ => if 7 ≤ x6 then fX5_call_B95 rc μ else if 30 ≤ x4 then fX5_call_B95 rc μ else if x5 < 0 then fX5_call_B54 rc μ else if 7 ≤ x5 then fX5_call_B54 rc μ else vr_gd (vr_R ((x5 * 3) + x2)) (if ((x5 * 3) + x2) < 0 then fX5_call_B54 rc μ else if ((x5 * 3) + x2) < 21 then vr_gd (0 ≤ ((x5 * 3) + x2) ∧ ((x5 * 3) + x2) < 21) (if (vr_BODIES.getD ((x5 * 3) + x2).toNat 0) = 0 then vr_gd (0 ≤ x5 ∧ x5 < 7) (vr_gd (vr_R (x6 + 1)) ((fX5_call_L6 rc n) x2 x3 x4 (vr_ABOVE.getD x5.toNat 0) (x6 + 1) μ)) else vr_gd (vr_R (x4 + 1)) ((rc (vr_BODIES.getD ((x5 * 3) + x2).toNat 0) x3 (x4 + 1) μ).bind (fun r6 => some (r6.1, r6.2)))) else fX5_call_B54 rc μ)
def fX5_call (rc : Int → Int → Int → vr_M → Option (Int × vr_M)) (a0 : Int) (a1 : Int) (a2 : Int) (a3 : Int) (μ : vr_M) : Option (Int × vr_M) :=
  fX5_call_L6 rc 9000 a1 a2 a3 a0 0 μ
set_option maxRecDepth 100000 in
set_option maxHeartbeats 4000000 in
theorem ct_X5_call (l : Launch) (G : vr_G) {d : Nat} {rc : Int → Int → Int → vr_M → Option (Int × vr_M)} (hrc : ∀ (a0 : Int) (_ : vr_R a0) (a1 : Int) (_ : vr_R a1) (a2 : Int) (_ : vr_R a2) (μ : vr_M), vr_CI l yX5_run cX5_run 4 (some .int) ({ frames := 4 * d + 6, cells := 0, slots := 0, locals := 140 * d + 200 } : Room) G [.ref (vr_ad G 66), .int (vr_I a0), .int (vr_I a1), .int (vr_I a2)] μ (rc a0 a1 a2 μ)) (a0 : Int) (h_a0 : vr_R a0) (a1 : Int) (h_a1 : vr_R a1) (a2 : Int) (h_a2 : vr_R a2) (a3 : Int) (h_a3 : vr_R a3) (μ : vr_M) : vr_CI l yX5_call cX5_call 8 (some .int) ({ frames := 4 * d + 7, cells := 0, slots := 0, locals := 140 * d + 235 } : Room) G [.ref (vr_ad G 66), .int (vr_I a0), .int (vr_I a1), .int (vr_I a2), .int (vr_I a3)] μ (fX5_call rc a0 a1 a2 a3 μ) := by
  refine vr_start (own := RX5) (by decide) rfl (Nat.le_of_ble_eq_true rfl) (fun p e s m args below meth c C0 => ?_)
  show vr_J p l e _ s m args below meth c 8 0 0 G (vr_Z (vr_QI G) G args s below) 0 [(0, .ref (vr_ad G 66)), (1, .int (vr_I a0)), (2, .int (vr_I a1)), (3, .int (vr_I a2)), (4, .int (vr_I a3))] [] μ _
  have B54 : ∀ (μ : vr_M), vr_J p l e ({ frames := 4 * d + 7, cells := 0, slots := 0, locals := 140 * d + 235 } : Room) s m args below meth c 8 0 0 G (vr_Z (vr_QI G) G args s below) 54 [] [] μ (fX5_call_B54 rc μ) := by
    intro μ
    unfold fX5_call_B54
    refine jr_iconst C0 dX5_call_54 ?_
    exact jr_iret C0 (⟨by decide, by decide⟩) dX5_call_55
  have B95 : ∀ (μ : vr_M), vr_J p l e ({ frames := 4 * d + 7, cells := 0, slots := 0, locals := 140 * d + 235 } : Room) s m args below meth c 8 0 0 G (vr_Z (vr_QI G) G args s below) 95 [] [] μ (fX5_call_B95 rc μ) := by
    intro μ
    unfold fX5_call_B95
    refine jr_iconst C0 dX5_call_95 ?_
    exact jr_iret C0 (⟨by decide, by decide⟩) dX5_call_96
  have L6 : ∀ (n : Nat) (x2 : Int) (h_x2 : vr_R x2) (x3 : Int) (h_x3 : vr_R x3) (x4 : Int) (h_x4 : vr_R x4) (x5 : Int) (h_x5 : vr_R x5) (x6 : Int) (h_x6 : vr_R x6) (μ : vr_M), vr_J p l e ({ frames := 4 * d + 7, cells := 0, slots := 0, locals := 140 * d + 235 } : Room) s m args below meth c 8 0 0 G (vr_Z (vr_QI G) G args s below) 6 [(0, .ref (vr_ad G 66)), (2, .int (vr_I x2)), (3, .int (vr_I x3)), (4, .int (vr_I x4)), (5, .int (vr_I x5)), (6, .int (vr_I x6))] [] μ (fX5_call_L6 rc n x2 x3 x4 x5 x6 μ) := by
    intro n6
    induction n6 with
    | zero => intros; exact jr_none
    | succ n6 ih6 =>
      intro x2 h_x2 x3 h_x3 x4 h_x4 x5 h_x5 x6 h_x6 μ
      rw [fX5_call_L6.eq_2]
      refine jr_iload C0 5 dX5_call_6 rfl ?_
      refine jr_bipush C0 dX5_call_8 rfl ?_
      refine jr_icmp_ge C0 h_x6 (⟨by decide, by decide⟩) dX5_call_10 (tgt := 95) (by decide) ?_ ?_
      · refine jr_sub [] rfl ?_
        exact B95 _
      refine jr_iload C0 3 dX5_call_13 rfl ?_
      refine jr_bipush C0 dX5_call_15 rfl ?_
      refine jr_icmp_ge C0 h_x4 (⟨by decide, by decide⟩) dX5_call_17 (tgt := 95) (by decide) ?_ ?_
      · refine jr_sub [] rfl ?_
        exact B95 _
      refine jr_iload C0 4 dX5_call_20 rfl ?_
      refine jr_iconst C0 dX5_call_22 ?_
      refine jr_imul C0 dX5_call_23 ?_
      refine jr_iload_n C0 1 dX5_call_24 rfl rfl ?_
      refine jr_iadd C0 dX5_call_25 ?_
      refine jr_istore C0 dX5_call_26 (by decide) (lv' := [(7, .int (vr_I ((x5 * 3) + x2))), (0, .ref (vr_ad G 66)), (2, .int (vr_I x2)), (3, .int (vr_I x3)), (4, .int (vr_I x4)), (5, .int (vr_I x5)), (6, .int (vr_I x6))]) rfl ?_
      refine jr_iload C0 5 dX5_call_28 rfl ?_
      refine jr_if_lt C0 h_x5 dX5_call_30 (tgt := 54) (by decide) ?_ ?_
      · refine jr_sub [] rfl ?_
        exact B54 _
      refine jr_iload C0 5 dX5_call_33 rfl ?_
      refine jr_bipush C0 dX5_call_35 rfl ?_
      refine jr_icmp_ge C0 h_x5 (⟨by decide, by decide⟩) dX5_call_37 (tgt := 54) (by decide) ?_ ?_
      · refine jr_sub [] rfl ?_
        exact B54 _
      refine jr_iload C0 0 dX5_call_40 rfl ?_
      refine jr_gd (fun g1 => ?_)
      refine jr_if_lt C0 g1 dX5_call_42 (tgt := 54) (by decide) ?_ ?_
      · refine jr_sub [] rfl ?_
        exact B54 _
      refine jr_iload C0 0 dX5_call_45 rfl ?_
      refine jr_gst1 C0 dX5_call_47 ?_
      refine jr_slen1 C0 dX5_call_50 ?_
      refine jr_icmp_lt C0 g1 (⟨by decide, by decide⟩) dX5_call_51 (tgt := 56) (by decide) ?_ ?_
      · refine jr_gst1 C0 dX5_call_56 ?_
        refine jr_iload C0 0 dX5_call_59 rfl ?_
        refine jr_gd (fun g2 => ?_)
        refine jr_sald1 C0 g2 dX5_call_61 ?_
        refine jr_if_eq C0 ((vr_RA _).2) dX5_call_62 (tgt := 81) (by decide) ?_ ?_
        · refine jr_gst0 C0 dX5_call_81 ?_
          refine jr_iload C0 5 dX5_call_84 rfl ?_
          refine jr_gd (fun g3 => ?_)
          refine jr_sald0 C0 g3 dX5_call_86 ?_
          refine jr_istore C0 dX5_call_87 (by decide) (lv' := [(5, .int (vr_I (vr_ABOVE.getD x5.toNat 0))), (7, .int (vr_I ((x5 * 3) + x2))), (0, .ref (vr_ad G 66)), (2, .int (vr_I x2)), (3, .int (vr_I x3)), (4, .int (vr_I x4)), (6, .int (vr_I x6))]) rfl ?_
          refine jr_iinc C0 (q := 6) dX5_call_89 rfl (by decide) (lv' := [(6, .int (vr_I (x6 + 1))), (5, .int (vr_I (vr_ABOVE.getD x5.toNat 0))), (7, .int (vr_I ((x5 * 3) + x2))), (0, .ref (vr_ad G 66)), (2, .int (vr_I x2)), (3, .int (vr_I x3)), (4, .int (vr_I x4))]) rfl ?_
          refine jr_goto C0 dX5_call_92 (tgt := 6) (by decide) ?_
          refine jr_gd (fun g4 => ?_)
          refine jr_sub [3, 4, 5, 6, 1, 0] rfl ?_
          exact ih6 x2 h_x2 x3 h_x3 x4 h_x4 (vr_ABOVE.getD x5.toNat 0) ((vr_RA _).1) (x6 + 1) g4 _
        refine jr_aload_n C0 1 dX5_call_65 rfl rfl ?_
        refine jr_gst1 C0 dX5_call_66 ?_
        refine jr_iload C0 0 dX5_call_69 rfl ?_
        refine jr_sald1 C0 g2 dX5_call_71 ?_
        refine jr_iload_n C0 3 dX5_call_72 rfl rfl ?_
        refine jr_iload C0 4 dX5_call_73 rfl ?_
        refine jr_iconst C0 dX5_call_75 ?_
        refine jr_iadd C0 dX5_call_76 ?_
        refine jr_gd (fun g5 => ?_)
        refine jr_vI C0 (by decide) kd_66 (by decide) rfl (hrc (vr_BODIES.getD ((x5 * 3) + x2).toNat 0) ((vr_RA _).2) x3 h_x3 (x4 + 1) g5 _) mi_X5_run wm_X5_32 ⟨by dsimp only; omega, by dsimp only; omega⟩ ⟨rfl, rfl⟩ (As := [.int (vr_I (vr_BODIES.getD ((x5 * 3) + x2).toNat 0)), .int (vr_I x3), .int (vr_I (x4 + 1))]) rfl (st := []) rfl (Nat.le_of_ble_eq_true rfl) dX5_call_77 (fun r6 hr6 => ?_)
        exact jr_iret C0 hr6 dX5_call_80
      refine jr_sub [] rfl ?_
      exact B54 _
  unfold fX5_call
  refine jr_iload_n C0 1 dX5_call_0 rfl rfl ?_
  refine jr_istore C0 dX5_call_1 (by decide) (lv' := [(5, .int (vr_I a0)), (0, .ref (vr_ad G 66)), (1, .int (vr_I a0)), (2, .int (vr_I a1)), (3, .int (vr_I a2)), (4, .int (vr_I a3))]) rfl ?_
  refine jr_iconst C0 dX5_call_3 ?_
  refine jr_istore C0 dX5_call_4 (by decide) (lv' := [(6, .int (vr_I 0)), (5, .int (vr_I a0)), (0, .ref (vr_ad G 66)), (1, .int (vr_I a0)), (2, .int (vr_I a1)), (3, .int (vr_I a2)), (4, .int (vr_I a3))]) rfl ?_
  refine jr_sub [2, 4, 5, 6, 1, 0] rfl ?_
  exact L6 9000 a1 h_a1 a2 h_a2 a3 h_a3 a0 h_a0 0 (⟨by decide, by decide⟩) _
theorem dX5_callAbove_0 : decode cX5_callAbove 0 = .ok (.iload_n 1, 1) := by decide +kernel
theorem dX5_callAbove_1 : decode cX5_callAbove 1 = .ok (.ifCond .lt 25, 3) := by decide +kernel
theorem dX5_callAbove_4 : decode cX5_callAbove 4 = .ok (.iload_n 1, 1) := by decide +kernel
theorem dX5_callAbove_5 : decode cX5_callAbove 5 = .ok (.bipush 7, 2) := by decide +kernel
theorem dX5_callAbove_7 : decode cX5_callAbove 7 = .ok (.if_icmp .ge 19, 3) := by decide +kernel
theorem dX5_callAbove_10 : decode cX5_callAbove 10 = .ok (.aload_n 0, 1) := by decide +kernel
theorem dX5_callAbove_11 : decode cX5_callAbove 11 = .ok (.getstatic 36, 3) := by decide +kernel
theorem dX5_callAbove_14 : decode cX5_callAbove 14 = .ok (.iload_n 1, 1) := by decide +kernel
theorem dX5_callAbove_15 : decode cX5_callAbove 15 = .ok (.iaload, 1) := by decide +kernel
theorem dX5_callAbove_16 : decode cX5_callAbove 16 = .ok (.iload_n 2, 1) := by decide +kernel
theorem dX5_callAbove_17 : decode cX5_callAbove 17 = .ok (.iload_n 3, 1) := by decide +kernel
theorem dX5_callAbove_18 : decode cX5_callAbove 18 = .ok (.iload 4, 2) := by decide +kernel
theorem dX5_callAbove_20 : decode cX5_callAbove 20 = .ok (.invokevirtual 25, 3) := by decide +kernel
theorem dX5_callAbove_23 : decode cX5_callAbove 23 = .ok (.goto 4, 3) := by decide +kernel
theorem dX5_callAbove_26 : decode cX5_callAbove 26 = .ok (.iconst 0, 1) := by decide +kernel
theorem dX5_callAbove_27 : decode cX5_callAbove 27 = .ok (.ireturn, 1) := by decide +kernel
def fX5_callAbove_B27 (rc : Int → Int → Int → vr_M → Option (Int × vr_M)) (y0 : Int) (μ : vr_M) : Option (Int × vr_M) :=
  some (y0, μ)
def fX5_callAbove_B26 (rc : Int → Int → Int → vr_M → Option (Int × vr_M)) (μ : vr_M) : Option (Int × vr_M) :=
  fX5_callAbove_B27 rc 0 μ
def fX5_callAbove (rc : Int → Int → Int → vr_M → Option (Int × vr_M)) (a0 : Int) (a1 : Int) (a2 : Int) (a3 : Int) (μ : vr_M) : Option (Int × vr_M) :=
  if a0 < 0 then fX5_callAbove_B26 rc μ else if 7 ≤ a0 then fX5_callAbove_B26 rc μ else vr_gd (0 ≤ a0 ∧ a0 < 7) ((fX5_call rc (vr_ABOVE.getD a0.toNat 0) a1 a2 a3 μ).bind (fun r2 => fX5_callAbove_B27 rc r2.1 r2.2))
set_option maxRecDepth 100000 in
set_option maxHeartbeats 4000000 in
theorem ct_X5_callAbove (l : Launch) (G : vr_G) {d : Nat} {rc : Int → Int → Int → vr_M → Option (Int × vr_M)} (hrc : ∀ (a0 : Int) (_ : vr_R a0) (a1 : Int) (_ : vr_R a1) (a2 : Int) (_ : vr_R a2) (μ : vr_M), vr_CI l yX5_run cX5_run 4 (some .int) ({ frames := 4 * d + 6, cells := 0, slots := 0, locals := 140 * d + 200 } : Room) G [.ref (vr_ad G 66), .int (vr_I a0), .int (vr_I a1), .int (vr_I a2)] μ (rc a0 a1 a2 μ)) (a0 : Int) (h_a0 : vr_R a0) (a1 : Int) (h_a1 : vr_R a1) (a2 : Int) (h_a2 : vr_R a2) (a3 : Int) (h_a3 : vr_R a3) (μ : vr_M) : vr_CI l yX5_callAbove cX5_callAbove 5 (some .int) ({ frames := 4 * d + 8, cells := 0, slots := 0, locals := 140 * d + 270 } : Room) G [.ref (vr_ad G 66), .int (vr_I a0), .int (vr_I a1), .int (vr_I a2), .int (vr_I a3)] μ (fX5_callAbove rc a0 a1 a2 a3 μ) := by
  refine vr_start (own := RX5) (by decide) rfl (Nat.le_of_ble_eq_true rfl) (fun p e s m args below meth c C0 => ?_)
  show vr_J p l e _ s m args below meth c 5 0 0 G (vr_Z (vr_QI G) G args s below) 0 [(0, .ref (vr_ad G 66)), (1, .int (vr_I a0)), (2, .int (vr_I a1)), (3, .int (vr_I a2)), (4, .int (vr_I a3))] [] μ _
  have B27 : ∀ (y0 : Int) (h_y0 : vr_R y0) (μ : vr_M), vr_J p l e ({ frames := 4 * d + 8, cells := 0, slots := 0, locals := 140 * d + 270 } : Room) s m args below meth c 5 0 0 G (vr_Z (vr_QI G) G args s below) 27 [] [.int (vr_I y0)] μ (fX5_callAbove_B27 rc y0 μ) := by
    intro y0 h_y0 μ
    unfold fX5_callAbove_B27
    exact jr_iret C0 h_y0 dX5_callAbove_27
  have B26 : ∀ (μ : vr_M), vr_J p l e ({ frames := 4 * d + 8, cells := 0, slots := 0, locals := 140 * d + 270 } : Room) s m args below meth c 5 0 0 G (vr_Z (vr_QI G) G args s below) 26 [] [] μ (fX5_callAbove_B26 rc μ) := by
    intro μ
    unfold fX5_callAbove_B26
    refine jr_iconst C0 dX5_callAbove_26 ?_
    exact B27 0 (⟨by decide, by decide⟩) _
  unfold fX5_callAbove
  refine jr_iload_n C0 1 dX5_callAbove_0 rfl rfl ?_
  refine jr_if_lt C0 h_a0 dX5_callAbove_1 (tgt := 26) (by decide) ?_ ?_
  · refine jr_sub [] rfl ?_
    exact B26 _
  refine jr_iload_n C0 1 dX5_callAbove_4 rfl rfl ?_
  refine jr_bipush C0 dX5_callAbove_5 rfl ?_
  refine jr_icmp_ge C0 h_a0 (⟨by decide, by decide⟩) dX5_callAbove_7 (tgt := 26) (by decide) ?_ ?_
  · refine jr_sub [] rfl ?_
    exact B26 _
  refine jr_aload_n C0 0 dX5_callAbove_10 rfl rfl ?_
  refine jr_gst0 C0 dX5_callAbove_11 ?_
  refine jr_iload_n C0 1 dX5_callAbove_14 rfl rfl ?_
  refine jr_gd (fun g1 => ?_)
  refine jr_sald0 C0 g1 dX5_callAbove_15 ?_
  refine jr_iload_n C0 2 dX5_callAbove_16 rfl rfl ?_
  refine jr_iload_n C0 3 dX5_callAbove_17 rfl rfl ?_
  refine jr_iload C0 4 dX5_callAbove_18 rfl ?_
  refine jr_vI C0 (by decide) kd_66 (by decide) rfl (ct_X5_call l G hrc (vr_ABOVE.getD a0.toNat 0) ((vr_RA _).1) a1 h_a1 a2 h_a2 a3 h_a3 _) mi_X5_call wm_X5_25 ⟨by dsimp only; omega, by dsimp only; omega⟩ ⟨rfl, rfl⟩ (As := [.int (vr_I (vr_ABOVE.getD a0.toNat 0)), .int (vr_I a1), .int (vr_I a2), .int (vr_I a3)]) rfl (st := []) rfl (Nat.le_of_ble_eq_true rfl) dX5_callAbove_20 (fun r2 hr2 => ?_)
  refine jr_goto C0 dX5_callAbove_23 (tgt := 27) (by decide) ?_
  refine jr_sub [] rfl ?_
  exact B27 r2.1 hr2 _
theorem dX5_run_0 : decode cX5_run 0 = .ok (.aload_n 0, 1) := by decide +kernel
theorem dX5_run_1 : decode cX5_run 1 = .ok (.getfield 39, 3) := by decide +kernel
theorem dX5_run_4 : decode cX5_run 4 = .ok (.ifCond .lt 22, 3) := by decide +kernel
theorem dX5_run_7 : decode cX5_run 7 = .ok (.aload_n 0, 1) := by decide +kernel
theorem dX5_run_8 : decode cX5_run 8 = .ok (.getfield 39, 3) := by decide +kernel
theorem dX5_run_11 : decode cX5_run 11 = .ok (.bipush 20, 2) := by decide +kernel
theorem dX5_run_13 : decode cX5_run 13 = .ok (.if_icmp .ge 13, 3) := by decide +kernel
theorem dX5_run_16 : decode cX5_run 16 = .ok (.aload_n 0, 1) := by decide +kernel
theorem dX5_run_17 : decode cX5_run 17 = .ok (.getfield 9, 3) := by decide +kernel
theorem dX5_run_20 : decode cX5_run 20 = .ok (.aload_n 0, 1) := by decide +kernel
theorem dX5_run_21 : decode cX5_run 21 = .ok (.getfield 39, 3) := by decide +kernel
theorem dX5_run_24 : decode cX5_run 24 = .ok (.iload_n 1, 1) := by decide +kernel
theorem dX5_run_25 : decode cX5_run 25 = .ok (.iastore, 1) := by decide +kernel
theorem dX5_run_26 : decode cX5_run 26 = .ok (.aload_n 0, 1) := by decide +kernel
theorem dX5_run_27 : decode cX5_run 27 = .ok (.dup, 1) := by decide +kernel
theorem dX5_run_28 : decode cX5_run 28 = .ok (.getfield 39, 3) := by decide +kernel
theorem dX5_run_31 : decode cX5_run 31 = .ok (.iconst 1, 1) := by decide +kernel
theorem dX5_run_32 : decode cX5_run 32 = .ok (.iadd, 1) := by decide +kernel
theorem dX5_run_33 : decode cX5_run 33 = .ok (.putfield 39, 3) := by decide +kernel
theorem dX5_run_36 : decode cX5_run 36 = .ok (.iload_n 1, 1) := by decide +kernel
theorem dX5_run_37 : decode cX5_run 37 = .ok (.lookupswitch 206 #[(1, 83), (2, 90), (3, 107), (11, 121), (21, 132), (31, 142), (41, 154), (51, 177), (61, 191)], 83) := by decide +kernel
theorem dX5_run_120 : decode cX5_run 120 = .ok (.iload_n 2, 1) := by decide +kernel
theorem dX5_run_121 : decode cX5_run 121 = .ok (.aload_n 0, 1) := by decide +kernel
theorem dX5_run_122 : decode cX5_run 122 = .ok (.getfield 22, 3) := by decide +kernel
theorem dX5_run_125 : decode cX5_run 125 = .ok (.iadd, 1) := by decide +kernel
theorem dX5_run_126 : decode cX5_run 126 = .ok (.ireturn, 1) := by decide +kernel
theorem dX5_run_127 : decode cX5_run 127 = .ok (.aload_n 0, 1) := by decide +kernel
theorem dX5_run_128 : decode cX5_run 128 = .ok (.aload_n 0, 1) := by decide +kernel
theorem dX5_run_129 : decode cX5_run 129 = .ok (.getfield 15, 3) := by decide +kernel
theorem dX5_run_132 : decode cX5_run 132 = .ok (.iconst 0, 1) := by decide +kernel
theorem dX5_run_133 : decode cX5_run 133 = .ok (.iload_n 2, 1) := by decide +kernel
theorem dX5_run_134 : decode cX5_run 134 = .ok (.iload_n 3, 1) := by decide +kernel
theorem dX5_run_135 : decode cX5_run 135 = .ok (.invokevirtual 25, 3) := by decide +kernel
theorem dX5_run_138 : decode cX5_run 138 = .ok (.aload_n 0, 1) := by decide +kernel
theorem dX5_run_139 : decode cX5_run 139 = .ok (.getfield 19, 3) := by decide +kernel
theorem dX5_run_142 : decode cX5_run 142 = .ok (.isub, 1) := by decide +kernel
theorem dX5_run_143 : decode cX5_run 143 = .ok (.ireturn, 1) := by decide +kernel
theorem dX5_run_144 : decode cX5_run 144 = .ok (.aload_n 0, 1) := by decide +kernel
theorem dX5_run_145 : decode cX5_run 145 = .ok (.aload_n 0, 1) := by decide +kernel
theorem dX5_run_146 : decode cX5_run 146 = .ok (.getfield 15, 3) := by decide +kernel
theorem dX5_run_149 : decode cX5_run 149 = .ok (.iconst 1, 1) := by decide +kernel
theorem dX5_run_150 : decode cX5_run 150 = .ok (.iload_n 2, 1) := by decide +kernel
theorem dX5_run_151 : decode cX5_run 151 = .ok (.iload_n 3, 1) := by decide +kernel
theorem dX5_run_152 : decode cX5_run 152 = .ok (.invokevirtual 25, 3) := by decide +kernel
theorem dX5_run_155 : decode cX5_run 155 = .ok (.iconst 2, 1) := by decide +kernel
theorem dX5_run_156 : decode cX5_run 156 = .ok (.imul, 1) := by decide +kernel
theorem dX5_run_157 : decode cX5_run 157 = .ok (.ireturn, 1) := by decide +kernel
theorem dX5_run_158 : decode cX5_run 158 = .ok (.aload_n 0, 1) := by decide +kernel
theorem dX5_run_159 : decode cX5_run 159 = .ok (.iconst 1, 1) := by decide +kernel
theorem dX5_run_160 : decode cX5_run 160 = .ok (.iconst 0, 1) := by decide +kernel
theorem dX5_run_161 : decode cX5_run 161 = .ok (.iload_n 2, 1) := by decide +kernel
theorem dX5_run_162 : decode cX5_run 162 = .ok (.iconst 3, 1) := by decide +kernel
theorem dX5_run_163 : decode cX5_run 163 = .ok (.imul, 1) := by decide +kernel
theorem dX5_run_164 : decode cX5_run 164 = .ok (.iload_n 3, 1) := by decide +kernel
theorem dX5_run_165 : decode cX5_run 165 = .ok (.invokevirtual 42, 3) := by decide +kernel
theorem dX5_run_168 : decode cX5_run 168 = .ok (.ireturn, 1) := by decide +kernel
theorem dX5_run_169 : decode cX5_run 169 = .ok (.aload_n 0, 1) := by decide +kernel
theorem dX5_run_170 : decode cX5_run 170 = .ok (.iconst 2, 1) := by decide +kernel
theorem dX5_run_171 : decode cX5_run 171 = .ok (.iconst 1, 1) := by decide +kernel
theorem dX5_run_172 : decode cX5_run 172 = .ok (.iload_n 2, 1) := by decide +kernel
theorem dX5_run_173 : decode cX5_run 173 = .ok (.iload_n 3, 1) := by decide +kernel
theorem dX5_run_174 : decode cX5_run 174 = .ok (.invokevirtual 42, 3) := by decide +kernel
theorem dX5_run_177 : decode cX5_run 177 = .ok (.ineg, 1) := by decide +kernel
theorem dX5_run_178 : decode cX5_run 178 = .ok (.ireturn, 1) := by decide +kernel
theorem dX5_run_179 : decode cX5_run 179 = .ok (.aload_n 0, 1) := by decide +kernel
theorem dX5_run_180 : decode cX5_run 180 = .ok (.iconst 3, 1) := by decide +kernel
theorem dX5_run_181 : decode cX5_run 181 = .ok (.iconst 2, 1) := by decide +kernel
theorem dX5_run_182 : decode cX5_run 182 = .ok (.iload_n 2, 1) := by decide +kernel
theorem dX5_run_183 : decode cX5_run 183 = .ok (.iload_n 3, 1) := by decide +kernel
theorem dX5_run_184 : decode cX5_run 184 = .ok (.invokevirtual 42, 3) := by decide +kernel
theorem dX5_run_187 : decode cX5_run 187 = .ok (.bipush 7, 2) := by decide +kernel
theorem dX5_run_189 : decode cX5_run 189 = .ok (.ixor, 1) := by decide +kernel
theorem dX5_run_190 : decode cX5_run 190 = .ok (.ireturn, 1) := by decide +kernel
theorem dX5_run_191 : decode cX5_run 191 = .ok (.aload_n 0, 1) := by decide +kernel
theorem dX5_run_192 : decode cX5_run 192 = .ok (.iconst 4, 1) := by decide +kernel
theorem dX5_run_193 : decode cX5_run 193 = .ok (.iconst 2, 1) := by decide +kernel
theorem dX5_run_194 : decode cX5_run 194 = .ok (.iload_n 2, 1) := by decide +kernel
theorem dX5_run_195 : decode cX5_run 195 = .ok (.iconst 1, 1) := by decide +kernel
theorem dX5_run_196 : decode cX5_run 196 = .ok (.isub, 1) := by decide +kernel
theorem dX5_run_197 : decode cX5_run 197 = .ok (.iload_n 3, 1) := by decide +kernel
theorem dX5_run_198 : decode cX5_run 198 = .ok (.invokevirtual 42, 3) := by decide +kernel
theorem dX5_run_201 : decode cX5_run 201 = .ok (.aload_n 0, 1) := by decide +kernel
theorem dX5_run_202 : decode cX5_run 202 = .ok (.aload_n 0, 1) := by decide +kernel
theorem dX5_run_203 : decode cX5_run 203 = .ok (.getfield 15, 3) := by decide +kernel
theorem dX5_run_206 : decode cX5_run 206 = .ok (.iconst 0, 1) := by decide +kernel
theorem dX5_run_207 : decode cX5_run 207 = .ok (.iconst 2, 1) := by decide +kernel
theorem dX5_run_208 : decode cX5_run 208 = .ok (.iload_n 3, 1) := by decide +kernel
theorem dX5_run_209 : decode cX5_run 209 = .ok (.invokevirtual 25, 3) := by decide +kernel
theorem dX5_run_212 : decode cX5_run 212 = .ok (.iadd, 1) := by decide +kernel
theorem dX5_run_213 : decode cX5_run 213 = .ok (.ireturn, 1) := by decide +kernel
theorem dX5_run_214 : decode cX5_run 214 = .ok (.aload_n 0, 1) := by decide +kernel
theorem dX5_run_215 : decode cX5_run 215 = .ok (.iconst 5, 1) := by decide +kernel
theorem dX5_run_216 : decode cX5_run 216 = .ok (.iconst 0, 1) := by decide +kernel
theorem dX5_run_217 : decode cX5_run 217 = .ok (.iload_n 2, 1) := by decide +kernel
theorem dX5_run_218 : decode cX5_run 218 = .ok (.iload_n 3, 1) := by decide +kernel
theorem dX5_run_219 : decode cX5_run 219 = .ok (.invokevirtual 42, 3) := by decide +kernel
theorem dX5_run_222 : decode cX5_run 222 = .ok (.aload_n 0, 1) := by decide +kernel
theorem dX5_run_223 : decode cX5_run 223 = .ok (.getfield 22, 3) := by decide +kernel
theorem dX5_run_226 : decode cX5_run 226 = .ok (.ixor, 1) := by decide +kernel
theorem dX5_run_227 : decode cX5_run 227 = .ok (.ireturn, 1) := by decide +kernel
theorem dX5_run_228 : decode cX5_run 228 = .ok (.aload_n 0, 1) := by decide +kernel
theorem dX5_run_229 : decode cX5_run 229 = .ok (.bipush 6, 2) := by decide +kernel
theorem dX5_run_231 : decode cX5_run 231 = .ok (.iconst 1, 1) := by decide +kernel
theorem dX5_run_232 : decode cX5_run 232 = .ok (.iload_n 2, 1) := by decide +kernel
theorem dX5_run_233 : decode cX5_run 233 = .ok (.iload_n 3, 1) := by decide +kernel
theorem dX5_run_234 : decode cX5_run 234 = .ok (.invokevirtual 42, 3) := by decide +kernel
theorem dX5_run_237 : decode cX5_run 237 = .ok (.aload_n 0, 1) := by decide +kernel
theorem dX5_run_238 : decode cX5_run 238 = .ok (.getfield 19, 3) := by decide +kernel
theorem dX5_run_241 : decode cX5_run 241 = .ok (.iadd, 1) := by decide +kernel
theorem dX5_run_242 : decode cX5_run 242 = .ok (.ireturn, 1) := by decide +kernel
theorem dX5_run_243 : decode cX5_run 243 = .ok (.iconst 0, 1) := by decide +kernel
theorem dX5_run_244 : decode cX5_run 244 = .ok (.ireturn, 1) := by decide +kernel
def fX5_run_B26 (rc : Int → Int → Int → vr_M → Option (Int × vr_M)) (x1 : Int) (x2 : Int) (x3 : Int) (μ : vr_M) : Option (Int × vr_M) :=
  vr_ls x1 [(1, vr_let (vr_u μ 66 1 ((μ 66 1) + 1)) (fun μ1 => vr_gd (vr_R (x2 + (μ1 66 4))) (some (x2 + (μ1 66 4), μ1)))), (2, vr_let (vr_u μ 66 1 ((μ 66 1) + 1)) (fun μ3 => vr_gd (vr_R (μ3 66 2)) ((fX5_call rc (μ3 66 2) 0 x2 x3 μ3).bind (fun r5 => vr_gd (vr_R (r5.1 - (r5.2 66 3))) (some (r5.1 - (r5.2 66 3), r5.2)))))), (3, vr_let (vr_u μ 66 1 ((μ 66 1) + 1)) (fun μ7 => vr_gd (vr_R (μ7 66 2)) ((fX5_call rc (μ7 66 2) 1 x2 x3 μ7).bind (fun r9 => vr_gd (vr_R (r9.1 * 2)) (some (r9.1 * 2, r9.2)))))), (11, vr_gd (vr_R (x2 * 3)) ((fX5_callAbove rc 1 0 (x2 * 3) x3 (vr_u μ 66 1 ((μ 66 1) + 1))).bind (fun r12 => some (r12.1, r12.2)))), (21, (fX5_callAbove rc 2 1 x2 x3 (vr_u μ 66 1 ((μ 66 1) + 1))).bind (fun r13 => vr_gd (vr_R (-r13.1)) (some (-r13.1, r13.2)))), (31, (fX5_callAbove rc 3 2 x2 x3 (vr_u μ 66 1 ((μ 66 1) + 1))).bind (fun r15 => some (vr_xor r15.1 7, r15.2))), (41, vr_gd (vr_R (x2 - 1)) ((fX5_callAbove rc 4 2 (x2 - 1) x3 (vr_u μ 66 1 ((μ 66 1) + 1))).bind (fun r17 => vr_gd (vr_R (r17.2 66 2)) ((fX5_call rc (r17.2 66 2) 0 2 x3 r17.2).bind (fun r19 => vr_gd (vr_R (r17.1 + r19.1)) (some (r17.1 + r19.1, r19.2))))))), (51, (fX5_callAbove rc 5 0 x2 x3 (vr_u μ 66 1 ((μ 66 1) + 1))).bind (fun r21 => some (vr_xor r21.1 (r21.2 66 4), r21.2))), (61, (fX5_callAbove rc 6 1 x2 x3 (vr_u μ 66 1 ((μ 66 1) + 1))).bind (fun r22 => vr_gd (vr_R (r22.1 + (r22.2 66 3))) (some (r22.1 + (r22.2 66 3), r22.2))))] (some (0, vr_u μ 66 1 ((μ 66 1) + 1)))
def fX5_run_1 (rc : Int → Int → Int → vr_M → Option (Int × vr_M)) (a0 : Int) (a1 : Int) (a2 : Int) (μ : vr_M) : Option (Int × vr_M) :=
  vr_gd (vr_R (μ 66 1)) (if (μ 66 1) < 0 then fX5_run_B26 rc a0 a1 a2 μ else if 20 ≤ (μ 66 1) then fX5_run_B26 rc a0 a1 a2 μ else vr_gd (0 ≤ (μ 66 1) ∧ (μ 66 1) < 20) (fX5_run_B26 rc a0 a1 a2 (vr_u μ 67 (μ 66 1).toNat a0)))
def fX5_run : Nat → Int → Int → Int → vr_M → Option (Int × vr_M)
  | 0, _, _, _, _ => none
  | d + 1, a0, a1, a2, μ => fX5_run_1 (fX5_run d) a0 a1 a2 μ
set_option maxRecDepth 100000 in
set_option maxHeartbeats 4000000 in
theorem ct_X5_run_1 (l : Launch) (G : vr_G) {d : Nat} {rc : Int → Int → Int → vr_M → Option (Int × vr_M)} (hrc : ∀ (a0 : Int) (_ : vr_R a0) (a1 : Int) (_ : vr_R a1) (a2 : Int) (_ : vr_R a2) (μ : vr_M), vr_CI l yX5_run cX5_run 4 (some .int) ({ frames := 4 * d + 6, cells := 0, slots := 0, locals := 140 * d + 200 } : Room) G [.ref (vr_ad G 66), .int (vr_I a0), .int (vr_I a1), .int (vr_I a2)] μ (rc a0 a1 a2 μ)) (a0 : Int) (h_a0 : vr_R a0) (a1 : Int) (h_a1 : vr_R a1) (a2 : Int) (h_a2 : vr_R a2) (μ : vr_M) : vr_CI l yX5_run cX5_run 4 (some .int) ({ frames := 4 * (d + 1) + 6, cells := 0, slots := 0, locals := 140 * (d + 1) + 200 } : Room) G [.ref (vr_ad G 66), .int (vr_I a0), .int (vr_I a1), .int (vr_I a2)] μ (fX5_run_1 rc a0 a1 a2 μ) := by
  refine vr_start (own := RX5) (by decide) rfl (Nat.le_of_ble_eq_true rfl) (fun p e s m args below meth c C0 => ?_)
  show vr_J p l e _ s m args below meth c 4 0 0 G (vr_Z (vr_QI G) G args s below) 0 [(0, .ref (vr_ad G 66)), (1, .int (vr_I a0)), (2, .int (vr_I a1)), (3, .int (vr_I a2))] [] μ _
  have B26 : ∀ (x1 : Int) (h_x1 : vr_R x1) (x2 : Int) (h_x2 : vr_R x2) (x3 : Int) (h_x3 : vr_R x3) (μ : vr_M), vr_J p l e ({ frames := 4 * (d + 1) + 6, cells := 0, slots := 0, locals := 140 * (d + 1) + 200 } : Room) s m args below meth c 4 0 0 G (vr_Z (vr_QI G) G args s below) 26 [(0, .ref (vr_ad G 66)), (1, .int (vr_I x1)), (2, .int (vr_I x2)), (3, .int (vr_I x3))] [] μ (fX5_run_B26 rc x1 x2 x3 μ) := by
    intro x1 h_x1 x2 h_x2 x3 h_x3 μ
    unfold fX5_run_B26
    refine jr_aload_n C0 0 dX5_run_26 rfl rfl ?_
    refine jr_dup C0 rfl dX5_run_27 ?_
    refine jr_geti C0 (by decide) kd_66 (by decide) rfl wx_X5 (i := 1) (by decide) wf_X5_39 rfl dX5_run_28 ?_
    refine jr_iconst C0 dX5_run_31 ?_
    refine jr_iadd C0 dX5_run_32 ?_
    refine jr_puti C0 (by decide) kd_66 (by decide) rfl wx_X5 (i := 1) (by decide) wf_X5_39 rfl tyX5_ok nmX5 rfl rfl rfl dX5_run_33 ?_
    refine jr_iload_n C0 1 dX5_run_36 rfl rfl ?_
    refine jr_lsw C0 h_x1 dX5_run_37 (by decide) (td := 243) (by decide) (vr_LS_cons (tgt := 120) (by decide) ?_ (vr_LS_cons (tgt := 127) (by decide) ?_ (vr_LS_cons (tgt := 144) (by decide) ?_ (vr_LS_cons (tgt := 158) (by decide) ?_ (vr_LS_cons (tgt := 169) (by decide) ?_ (vr_LS_cons (tgt := 179) (by decide) ?_ (vr_LS_cons (tgt := 191) (by decide) ?_ (vr_LS_cons (tgt := 214) (by decide) ?_ (vr_LS_cons (tgt := 228) (by decide) ?_ vr_LS_nil))))))))) ?_
    · show vr_J p l e _ s m args below meth c _ _ _ G _ 120 _ _ _ _
      refine jr_iload_n C0 2 dX5_run_120 rfl rfl ?_
      refine jr_aload_n C0 0 dX5_run_121 rfl rfl ?_
      refine jr_let (fun μ1 => ?_)
      refine jr_geti C0 (by decide) kd_66 (by decide) rfl wx_X5 (i := 4) (by decide) wf_X5_22 rfl dX5_run_122 ?_
      refine jr_iadd C0 dX5_run_125 ?_
      refine jr_gd (fun g2 => ?_)
      exact jr_iret C0 g2 dX5_run_126
    · show vr_J p l e _ s m args below meth c _ _ _ G _ 127 _ _ _ _
      refine jr_aload_n C0 0 dX5_run_127 rfl rfl ?_
      refine jr_aload_n C0 0 dX5_run_128 rfl rfl ?_
      refine jr_let (fun μ3 => ?_)
      refine jr_geti C0 (by decide) kd_66 (by decide) rfl wx_X5 (i := 2) (by decide) wf_X5_15 rfl dX5_run_129 ?_
      refine jr_iconst C0 dX5_run_132 ?_
      refine jr_iload_n C0 2 dX5_run_133 rfl rfl ?_
      refine jr_iload_n C0 3 dX5_run_134 rfl rfl ?_
      refine jr_gd (fun g4 => ?_)
      refine jr_vI C0 (by decide) kd_66 (by decide) rfl (ct_X5_call l G hrc (μ3 66 2) g4 0 (⟨by decide, by decide⟩) x2 h_x2 x3 h_x3 _) mi_X5_call wm_X5_25 ⟨by dsimp only; omega, by dsimp only; omega⟩ ⟨rfl, rfl⟩ (As := [.int (vr_I (μ3 66 2)), .int (vr_I 0), .int (vr_I x2), .int (vr_I x3)]) rfl (st := []) rfl (Nat.le_of_ble_eq_true rfl) dX5_run_135 (fun r5 hr5 => ?_)
      refine jr_aload_n C0 0 dX5_run_138 rfl rfl ?_
      refine jr_geti C0 (by decide) kd_66 (by decide) rfl wx_X5 (i := 3) (by decide) wf_X5_19 rfl dX5_run_139 ?_
      refine jr_isub C0 dX5_run_142 ?_
      refine jr_gd (fun g6 => ?_)
      exact jr_iret C0 g6 dX5_run_143
    · show vr_J p l e _ s m args below meth c _ _ _ G _ 144 _ _ _ _
      refine jr_aload_n C0 0 dX5_run_144 rfl rfl ?_
      refine jr_aload_n C0 0 dX5_run_145 rfl rfl ?_
      refine jr_let (fun μ7 => ?_)
      refine jr_geti C0 (by decide) kd_66 (by decide) rfl wx_X5 (i := 2) (by decide) wf_X5_15 rfl dX5_run_146 ?_
      refine jr_iconst C0 dX5_run_149 ?_
      refine jr_iload_n C0 2 dX5_run_150 rfl rfl ?_
      refine jr_iload_n C0 3 dX5_run_151 rfl rfl ?_
      refine jr_gd (fun g8 => ?_)
      refine jr_vI C0 (by decide) kd_66 (by decide) rfl (ct_X5_call l G hrc (μ7 66 2) g8 1 (⟨by decide, by decide⟩) x2 h_x2 x3 h_x3 _) mi_X5_call wm_X5_25 ⟨by dsimp only; omega, by dsimp only; omega⟩ ⟨rfl, rfl⟩ (As := [.int (vr_I (μ7 66 2)), .int (vr_I 1), .int (vr_I x2), .int (vr_I x3)]) rfl (st := []) rfl (Nat.le_of_ble_eq_true rfl) dX5_run_152 (fun r9 hr9 => ?_)
      refine jr_iconst C0 dX5_run_155 ?_
      refine jr_imul C0 dX5_run_156 ?_
      refine jr_gd (fun g10 => ?_)
      exact jr_iret C0 g10 dX5_run_157
    · show vr_J p l e _ s m args below meth c _ _ _ G _ 158 _ _ _ _
      refine jr_aload_n C0 0 dX5_run_158 rfl rfl ?_
      refine jr_iconst C0 dX5_run_159 ?_
      refine jr_iconst C0 dX5_run_160 ?_
      refine jr_iload_n C0 2 dX5_run_161 rfl rfl ?_
      refine jr_iconst C0 dX5_run_162 ?_
      refine jr_imul C0 dX5_run_163 ?_
      refine jr_iload_n C0 3 dX5_run_164 rfl rfl ?_
      refine jr_gd (fun g11 => ?_)
      refine jr_vI C0 (by decide) kd_66 (by decide) rfl (ct_X5_callAbove l G hrc 1 (⟨by decide, by decide⟩) 0 (⟨by decide, by decide⟩) (x2 * 3) g11 x3 h_x3 _) mi_X5_callAbove wm_X5_42 ⟨by dsimp only; omega, by dsimp only; omega⟩ ⟨rfl, rfl⟩ (As := [.int (vr_I 1), .int (vr_I 0), .int (vr_I (x2 * 3)), .int (vr_I x3)]) rfl (st := []) rfl (Nat.le_of_ble_eq_true rfl) dX5_run_165 (fun r12 hr12 => ?_)
      exact jr_iret C0 hr12 dX5_run_168
    · show vr_J p l e _ s m args below meth c _ _ _ G _ 169 _ _ _ _
      refine jr_aload_n C0 0 dX5_run_169 rfl rfl ?_
      refine jr_iconst C0 dX5_run_170 ?_
      refine jr_iconst C0 dX5_run_171 ?_
      refine jr_iload_n C0 2 dX5_run_172 rfl rfl ?_
      refine jr_iload_n C0 3 dX5_run_173 rfl rfl ?_
      refine jr_vI C0 (by decide) kd_66 (by decide) rfl (ct_X5_callAbove l G hrc 2 (⟨by decide, by decide⟩) 1 (⟨by decide, by decide⟩) x2 h_x2 x3 h_x3 _) mi_X5_callAbove wm_X5_42 ⟨by dsimp only; omega, by dsimp only; omega⟩ ⟨rfl, rfl⟩ (As := [.int (vr_I 2), .int (vr_I 1), .int (vr_I x2), .int (vr_I x3)]) rfl (st := []) rfl (Nat.le_of_ble_eq_true rfl) dX5_run_174 (fun r13 hr13 => ?_)
      refine jr_ineg C0 dX5_run_177 ?_
      refine jr_gd (fun g14 => ?_)
      exact jr_iret C0 g14 dX5_run_178
    · show vr_J p l e _ s m args below meth c _ _ _ G _ 179 _ _ _ _
      refine jr_aload_n C0 0 dX5_run_179 rfl rfl ?_
      refine jr_iconst C0 dX5_run_180 ?_
      refine jr_iconst C0 dX5_run_181 ?_
      refine jr_iload_n C0 2 dX5_run_182 rfl rfl ?_
      refine jr_iload_n C0 3 dX5_run_183 rfl rfl ?_
      refine jr_vI C0 (by decide) kd_66 (by decide) rfl (ct_X5_callAbove l G hrc 3 (⟨by decide, by decide⟩) 2 (⟨by decide, by decide⟩) x2 h_x2 x3 h_x3 _) mi_X5_callAbove wm_X5_42 ⟨by dsimp only; omega, by dsimp only; omega⟩ ⟨rfl, rfl⟩ (As := [.int (vr_I 3), .int (vr_I 2), .int (vr_I x2), .int (vr_I x3)]) rfl (st := []) rfl (Nat.le_of_ble_eq_true rfl) dX5_run_184 (fun r15 hr15 => ?_)
      refine jr_bipush C0 dX5_run_187 rfl ?_
      refine jr_ixor C0 dX5_run_189 ?_
      exact jr_iret C0 (vr_RT _) dX5_run_190
    · show vr_J p l e _ s m args below meth c _ _ _ G _ 191 _ _ _ _
      refine jr_aload_n C0 0 dX5_run_191 rfl rfl ?_
      refine jr_iconst C0 dX5_run_192 ?_
      refine jr_iconst C0 dX5_run_193 ?_
      refine jr_iload_n C0 2 dX5_run_194 rfl rfl ?_
      refine jr_iconst C0 dX5_run_195 ?_
      refine jr_isub C0 dX5_run_196 ?_
      refine jr_iload_n C0 3 dX5_run_197 rfl rfl ?_
      refine jr_gd (fun g16 => ?_)
      refine jr_vI C0 (by decide) kd_66 (by decide) rfl (ct_X5_callAbove l G hrc 4 (⟨by decide, by decide⟩) 2 (⟨by decide, by decide⟩) (x2 - 1) g16 x3 h_x3 _) mi_X5_callAbove wm_X5_42 ⟨by dsimp only; omega, by dsimp only; omega⟩ ⟨rfl, rfl⟩ (As := [.int (vr_I 4), .int (vr_I 2), .int (vr_I (x2 - 1)), .int (vr_I x3)]) rfl (st := []) rfl (Nat.le_of_ble_eq_true rfl) dX5_run_198 (fun r17 hr17 => ?_)
      refine jr_aload_n C0 0 dX5_run_201 rfl rfl ?_
      refine jr_aload_n C0 0 dX5_run_202 rfl rfl ?_
      refine jr_geti C0 (by decide) kd_66 (by decide) rfl wx_X5 (i := 2) (by decide) wf_X5_15 rfl dX5_run_203 ?_
      refine jr_iconst C0 dX5_run_206 ?_
      refine jr_iconst C0 dX5_run_207 ?_
      refine jr_iload_n C0 3 dX5_run_208 rfl rfl ?_
      refine jr_gd (fun g18 => ?_)
      refine jr_vI C0 (by decide) kd_66 (by decide) rfl (ct_X5_call l G hrc (r17.2 66 2) g18 0 (⟨by decide, by decide⟩) 2 (⟨by decide, by decide⟩) x3 h_x3 _) mi_X5_call wm_X5_25 ⟨by dsimp only; omega, by dsimp only; omega⟩ ⟨rfl, rfl⟩ (As := [.int (vr_I (r17.2 66 2)), .int (vr_I 0), .int (vr_I 2), .int (vr_I x3)]) rfl (st := [.int (vr_I r17.1)]) rfl (Nat.le_of_ble_eq_true rfl) dX5_run_209 (fun r19 hr19 => ?_)
      refine jr_iadd C0 dX5_run_212 ?_
      refine jr_gd (fun g20 => ?_)
      exact jr_iret C0 g20 dX5_run_213
    · show vr_J p l e _ s m args below meth c _ _ _ G _ 214 _ _ _ _
      refine jr_aload_n C0 0 dX5_run_214 rfl rfl ?_
      refine jr_iconst C0 dX5_run_215 ?_
      refine jr_iconst C0 dX5_run_216 ?_
      refine jr_iload_n C0 2 dX5_run_217 rfl rfl ?_
      refine jr_iload_n C0 3 dX5_run_218 rfl rfl ?_
      refine jr_vI C0 (by decide) kd_66 (by decide) rfl (ct_X5_callAbove l G hrc 5 (⟨by decide, by decide⟩) 0 (⟨by decide, by decide⟩) x2 h_x2 x3 h_x3 _) mi_X5_callAbove wm_X5_42 ⟨by dsimp only; omega, by dsimp only; omega⟩ ⟨rfl, rfl⟩ (As := [.int (vr_I 5), .int (vr_I 0), .int (vr_I x2), .int (vr_I x3)]) rfl (st := []) rfl (Nat.le_of_ble_eq_true rfl) dX5_run_219 (fun r21 hr21 => ?_)
      refine jr_aload_n C0 0 dX5_run_222 rfl rfl ?_
      refine jr_geti C0 (by decide) kd_66 (by decide) rfl wx_X5 (i := 4) (by decide) wf_X5_22 rfl dX5_run_223 ?_
      refine jr_ixor C0 dX5_run_226 ?_
      exact jr_iret C0 (vr_RT _) dX5_run_227
    · show vr_J p l e _ s m args below meth c _ _ _ G _ 228 _ _ _ _
      refine jr_aload_n C0 0 dX5_run_228 rfl rfl ?_
      refine jr_bipush C0 dX5_run_229 rfl ?_
      refine jr_iconst C0 dX5_run_231 ?_
      refine jr_iload_n C0 2 dX5_run_232 rfl rfl ?_
      refine jr_iload_n C0 3 dX5_run_233 rfl rfl ?_
      refine jr_vI C0 (by decide) kd_66 (by decide) rfl (ct_X5_callAbove l G hrc 6 (⟨by decide, by decide⟩) 1 (⟨by decide, by decide⟩) x2 h_x2 x3 h_x3 _) mi_X5_callAbove wm_X5_42 ⟨by dsimp only; omega, by dsimp only; omega⟩ ⟨rfl, rfl⟩ (As := [.int (vr_I 6), .int (vr_I 1), .int (vr_I x2), .int (vr_I x3)]) rfl (st := []) rfl (Nat.le_of_ble_eq_true rfl) dX5_run_234 (fun r22 hr22 => ?_)
      refine jr_aload_n C0 0 dX5_run_237 rfl rfl ?_
      refine jr_geti C0 (by decide) kd_66 (by decide) rfl wx_X5 (i := 3) (by decide) wf_X5_19 rfl dX5_run_238 ?_
      refine jr_iadd C0 dX5_run_241 ?_
      refine jr_gd (fun g23 => ?_)
      exact jr_iret C0 g23 dX5_run_242
    refine jr_iconst C0 dX5_run_243 ?_
    exact jr_iret C0 (⟨by decide, by decide⟩) dX5_run_244
  unfold fX5_run_1
  refine jr_aload_n C0 0 dX5_run_0 rfl rfl ?_
  refine jr_geti C0 (by decide) kd_66 (by decide) rfl wx_X5 (i := 1) (by decide) wf_X5_39 rfl dX5_run_1 ?_
  refine jr_gd (fun g24 => ?_)
  refine jr_if_lt C0 g24 dX5_run_4 (tgt := 26) (by decide) ?_ ?_
  · exact B26 a0 h_a0 a1 h_a1 a2 h_a2 _
  refine jr_aload_n C0 0 dX5_run_7 rfl rfl ?_
  refine jr_geti C0 (by decide) kd_66 (by decide) rfl wx_X5 (i := 1) (by decide) wf_X5_39 rfl dX5_run_8 ?_
  refine jr_bipush C0 dX5_run_11 rfl ?_
  refine jr_icmp_ge C0 g24 (⟨by decide, by decide⟩) dX5_run_13 (tgt := 26) (by decide) ?_ ?_
  · exact B26 a0 h_a0 a1 h_a1 a2 h_a2 _
  refine jr_aload_n C0 0 dX5_run_16 rfl rfl ?_
  refine jr_getr C0 (by decide) kd_66 (by decide) rfl wx_X5 (i := 0) (by decide) wf_X5_9 (j := 67) rfl dX5_run_17 ?_
  refine jr_aload_n C0 0 dX5_run_20 rfl rfl ?_
  refine jr_geti C0 (by decide) kd_66 (by decide) rfl wx_X5 (i := 1) (by decide) wf_X5_39 rfl dX5_run_21 ?_
  refine jr_iload_n C0 1 dX5_run_24 rfl rfl ?_
  refine jr_gd (fun g25 => ?_)
  refine jr_iast C0 (by decide) kd_67 kl_67 g25 (j := (μ 66 1).toNat) rfl dX5_run_25 ?_
  exact B26 a0 h_a0 a1 h_a1 a2 h_a2 _
theorem ct_X5_run (l : Launch) (G : vr_G) : ∀ (d : Nat), ∀ (a0 : Int) (_ : vr_R a0) (a1 : Int) (_ : vr_R a1) (a2 : Int) (_ : vr_R a2) (μ : vr_M), vr_CI l yX5_run cX5_run 4 (some .int) ({ frames := 4 * d + 6, cells := 0, slots := 0, locals := 140 * d + 200 } : Room) G [.ref (vr_ad G 66), .int (vr_I a0), .int (vr_I a1), .int (vr_I a2)] μ (fX5_run d a0 a1 a2 μ) := by
  intro d
  induction d with
  | zero => intros; intro r hr; cases hr
  | succ d ih => intro a0 h_a0 a1 h_a1 a2 h_a2 μ; exact ct_X5_run_1 l G ih a0 h_a0 a1 h_a1 a2 h_a2 μ
theorem hrc_X5_run (l : Launch) (G : vr_G) : ∀ (a0 : Int) (_ : vr_R a0) (a1 : Int) (_ : vr_R a1) (a2 : Int) (_ : vr_R a2) (μ : vr_M), vr_CI l yX5_run cX5_run 4 (some .int) ({ frames := 4 * 12 + 6, cells := 0, slots := 0, locals := 140 * 12 + 200 } : Room) G [.ref (vr_ad G 66), .int (vr_I a0), .int (vr_I a1), .int (vr_I a2)] μ (fX5_run 12 a0 a1 a2 μ) := ct_X5_run l G 12
theorem dX5_perform_0 : decode cX5_perform 0 = .ok (.aload_n 0, 1) := by decide +kernel
theorem dX5_perform_1 : decode cX5_perform 1 = .ok (.iload_n 1, 1) := by decide +kernel
theorem dX5_perform_2 : decode cX5_perform 2 = .ok (.putfield 15, 3) := by decide +kernel
theorem dX5_perform_5 : decode cX5_perform 5 = .ok (.aload_n 0, 1) := by decide +kernel
theorem dX5_perform_6 : decode cX5_perform 6 = .ok (.iload_n 2, 1) := by decide +kernel
theorem dX5_perform_7 : decode cX5_perform 7 = .ok (.putfield 19, 3) := by decide +kernel
theorem dX5_perform_10 : decode cX5_perform 10 = .ok (.aload_n 0, 1) := by decide +kernel
theorem dX5_perform_11 : decode cX5_perform 11 = .ok (.iload_n 3, 1) := by decide +kernel
theorem dX5_perform_12 : decode cX5_perform 12 = .ok (.putfield 22, 3) := by decide +kernel
theorem dX5_perform_15 : decode cX5_perform 15 = .ok (.aload_n 0, 1) := by decide +kernel
theorem dX5_perform_16 : decode cX5_perform 16 = .ok (.aload_n 0, 1) := by decide +kernel
theorem dX5_perform_17 : decode cX5_perform 17 = .ok (.getfield 15, 3) := by decide +kernel
theorem dX5_perform_20 : decode cX5_perform 20 = .ok (.iload 4, 2) := by decide +kernel
theorem dX5_perform_22 : decode cX5_perform 22 = .ok (.iload 5, 2) := by decide +kernel
theorem dX5_perform_24 : decode cX5_perform 24 = .ok (.iconst 0, 1) := by decide +kernel
theorem dX5_perform_25 : decode cX5_perform 25 = .ok (.invokevirtual 25, 3) := by decide +kernel
theorem dX5_perform_28 : decode cX5_perform 28 = .ok (.ireturn, 1) := by decide +kernel
def fX5_perform (a0 : Int) (a1 : Int) (a2 : Int) (a3 : Int) (a4 : Int) (μ : vr_M) : Option (Int × vr_M) :=
  vr_let (vr_u (vr_u (vr_u μ 66 2 a0) 66 3 a1) 66 4 a2) (fun μ1 => vr_gd (vr_R (μ1 66 2)) ((fX5_call (fX5_run 12) (μ1 66 2) a3 a4 0 μ1).bind (fun r3 => some (r3.1, r3.2))))
set_option maxRecDepth 100000 in
set_option maxHeartbeats 4000000 in
theorem ct_X5_perform (l : Launch) (G : vr_G) (a0 : Int) (h_a0 : vr_R a0) (a1 : Int) (h_a1 : vr_R a1) (a2 : Int) (h_a2 : vr_R a2) (a3 : Int) (h_a3 : vr_R a3) (a4 : Int) (h_a4 : vr_R a4) (μ : vr_M) : vr_CI l yX5_perform cX5_perform 6 (some .int) ({ frames := 56, cells := 0, slots := 0, locals := 1942 } : Room) G [.ref (vr_ad G 66), .int (vr_I a0), .int (vr_I a1), .int (vr_I a2), .int (vr_I a3), .int (vr_I a4)] μ (fX5_perform a0 a1 a2 a3 a4 μ) := by
  refine vr_start (own := RX5) (by decide) rfl (Nat.le_of_ble_eq_true rfl) (fun p e s m args below meth c C0 => ?_)
  show vr_J p l e _ s m args below meth c 6 0 0 G (vr_Z (vr_QI G) G args s below) 0 [(0, .ref (vr_ad G 66)), (1, .int (vr_I a0)), (2, .int (vr_I a1)), (3, .int (vr_I a2)), (4, .int (vr_I a3)), (5, .int (vr_I a4))] [] μ _
  unfold fX5_perform
  refine jr_aload_n C0 0 dX5_perform_0 rfl rfl ?_
  refine jr_iload_n C0 1 dX5_perform_1 rfl rfl ?_
  refine jr_puti C0 (by decide) kd_66 (by decide) rfl wx_X5 (i := 2) (by decide) wf_X5_15 rfl tyX5_ok nmX5 rfl rfl rfl dX5_perform_2 ?_
  refine jr_aload_n C0 0 dX5_perform_5 rfl rfl ?_
  refine jr_iload_n C0 2 dX5_perform_6 rfl rfl ?_
  refine jr_puti C0 (by decide) kd_66 (by decide) rfl wx_X5 (i := 3) (by decide) wf_X5_19 rfl tyX5_ok nmX5 rfl rfl rfl dX5_perform_7 ?_
  refine jr_aload_n C0 0 dX5_perform_10 rfl rfl ?_
  refine jr_iload_n C0 3 dX5_perform_11 rfl rfl ?_
  refine jr_puti C0 (by decide) kd_66 (by decide) rfl wx_X5 (i := 4) (by decide) wf_X5_22 rfl tyX5_ok nmX5 rfl rfl rfl dX5_perform_12 ?_
  refine jr_aload_n C0 0 dX5_perform_15 rfl rfl ?_
  refine jr_aload_n C0 0 dX5_perform_16 rfl rfl ?_
  refine jr_let (fun μ1 => ?_)
  refine jr_geti C0 (by decide) kd_66 (by decide) rfl wx_X5 (i := 2) (by decide) wf_X5_15 rfl dX5_perform_17 ?_
  refine jr_iload C0 4 dX5_perform_20 rfl ?_
  refine jr_iload C0 5 dX5_perform_22 rfl ?_
  refine jr_iconst C0 dX5_perform_24 ?_
  refine jr_gd (fun g2 => ?_)
  refine jr_vI C0 (by decide) kd_66 (by decide) rfl (ct_X5_call l G (hrc_X5_run l G) (μ1 66 2) g2 a3 h_a3 a4 h_a4 0 (⟨by decide, by decide⟩) _) mi_X5_call wm_X5_25 ⟨Nat.le_of_ble_eq_true rfl, Nat.le_of_ble_eq_true rfl⟩ ⟨rfl, rfl⟩ (As := [.int (vr_I (μ1 66 2)), .int (vr_I a3), .int (vr_I a4), .int (vr_I 0)]) rfl (st := []) rfl (Nat.le_of_ble_eq_true rfl) dX5_perform_25 (fun r3 hr3 => ?_)
  exact jr_iret C0 hr3 dX5_perform_28
theorem dX6_spelt_0 : decode cX6_spelt 0 = .ok (.iload_n 0, 1) := by decide +kernel
theorem dX6_spelt_1 : decode cX6_spelt 1 = .ok (.tableswitch 50 0 4 #[35, 38, 41, 44, 47], 35) := by decide +kernel
theorem dX6_spelt_36 : decode cX6_spelt 36 = .ok (.ldc 63, 2) := by decide +kernel
theorem dX6_spelt_38 : decode cX6_spelt 38 = .ok (.areturn, 1) := by decide +kernel
theorem dX6_spelt_39 : decode cX6_spelt 39 = .ok (.ldc 65, 2) := by decide +kernel
theorem dX6_spelt_41 : decode cX6_spelt 41 = .ok (.areturn, 1) := by decide +kernel
theorem dX6_spelt_42 : decode cX6_spelt 42 = .ok (.ldc 67, 2) := by decide +kernel
theorem dX6_spelt_44 : decode cX6_spelt 44 = .ok (.areturn, 1) := by decide +kernel
theorem dX6_spelt_45 : decode cX6_spelt 45 = .ok (.ldc 69, 2) := by decide +kernel
theorem dX6_spelt_47 : decode cX6_spelt 47 = .ok (.areturn, 1) := by decide +kernel
theorem dX6_spelt_48 : decode cX6_spelt 48 = .ok (.ldc 71, 2) := by decide +kernel
theorem dX6_spelt_50 : decode cX6_spelt 50 = .ok (.areturn, 1) := by decide +kernel
theorem dX6_spelt_51 : decode cX6_spelt 51 = .ok (.ldc 73, 2) := by decide +kernel
theorem dX6_spelt_53 : decode cX6_spelt 53 = .ok (.areturn, 1) := by decide +kernel
def fX6_spelt (a0 : Int) (μ : vr_M) : Option (Nat × vr_M) :=
  vr_sw a0 0 [some (0, μ), some (1, μ), some (2, μ), some (3, μ), some (4, μ)] (some (5, μ))
set_option maxRecDepth 100000 in
set_option maxHeartbeats 4000000 in
theorem ct_X6_spelt (l : Launch) (G : vr_G) (a0 : Int) (h_a0 : vr_R a0) (μ : vr_M) : vr_CS l yX6_spelt cX6_spelt 1 (some (.object "java/lang/String")) ({ frames := 0, cells := 0, slots := 0, locals := 0 } : Room) G [.int (vr_I a0)] μ (fX6_spelt a0 μ) := by
  refine vr_start (own := RX6) (by decide) rfl (Nat.le_of_ble_eq_true rfl) (fun p e s m args below meth c C0 => ?_)
  show vr_J p l e _ s m args below meth c 1 0 0 G (vr_Z (vr_QS G) G args s below) 0 [(0, .int (vr_I a0))] [] μ _
  unfold fX6_spelt
  refine jr_iload_n C0 0 dX6_spelt_0 rfl rfl ?_
  refine jr_tsw C0 h_a0 dX6_spelt_1 (by decide) (td := 51) (by decide) (vr_TS_cons (tgt := 36) (by decide) ?_ (vr_TS_cons (tgt := 39) (by decide) ?_ (vr_TS_cons (tgt := 42) (by decide) ?_ (vr_TS_cons (tgt := 45) (by decide) ?_ (vr_TS_cons (tgt := 48) (by decide) ?_ vr_TS_nil))))) ?_
  · show vr_J p l e _ s m args below meth c _ _ _ G _ 36 _ _ _ _
    refine jr_ldcS C0 (i := 0) (by decide) rfl rfl dX6_spelt_36 ?_
    exact jr_sret C0 dX6_spelt_38
  · show vr_J p l e _ s m args below meth c _ _ _ G _ 39 _ _ _ _
    refine jr_ldcS C0 (i := 1) (by decide) rfl rfl dX6_spelt_39 ?_
    exact jr_sret C0 dX6_spelt_41
  · show vr_J p l e _ s m args below meth c _ _ _ G _ 42 _ _ _ _
    refine jr_ldcS C0 (i := 2) (by decide) rfl rfl dX6_spelt_42 ?_
    exact jr_sret C0 dX6_spelt_44
  · show vr_J p l e _ s m args below meth c _ _ _ G _ 45 _ _ _ _
    refine jr_ldcS C0 (i := 3) (by decide) rfl rfl dX6_spelt_45 ?_
    exact jr_sret C0 dX6_spelt_47
  · show vr_J p l e _ s m args below meth c _ _ _ G _ 48 _ _ _ _
    refine jr_ldcS C0 (i := 4) (by decide) rfl rfl dX6_spelt_48 ?_
    exact jr_sret C0 dX6_spelt_50
  refine jr_ldcS C0 (i := 5) (by decide) rfl rfl dX6_spelt_51 ?_
  exact jr_sret C0 dX6_spelt_53
theorem dJ0_coder_7d493_0 : decode cJ0_coder_7d493 0 = .ok (.getstatic 38, 3) := by decide +kernel
theorem dJ0_coder_7d493_3 : decode cJ0_coder_7d493 3 = .ok (.ifCond .eq 10, 3) := by decide +kernel
theorem dJ0_coder_7d493_6 : decode cJ0_coder_7d493 6 = .ok (.aload_n 0, 1) := by decide +kernel
theorem dJ0_coder_7d493_7 : decode cJ0_coder_7d493 7 = .ok (.getfield 15, 3) := by decide +kernel
theorem dJ0_coder_7d493_10 : decode cJ0_coder_7d493 10 = .ok (.goto 4, 3) := by decide +kernel
theorem dJ0_coder_7d493_13 : decode cJ0_coder_7d493 13 = .ok (.iconst 1, 1) := by decide +kernel
theorem dJ0_coder_7d493_14 : decode cJ0_coder_7d493 14 = .ok (.ireturn, 1) := by decide +kernel
def fJ0_coder_7d493_B14 (s0 : Nat) (y0 : Int) (μ : vr_M) : Option (Int × vr_M) :=
  vr_gd (y0 = 0 ∨ y0 = 1) (some (y0, μ))
def fJ0_coder_7d493 (s0 : Nat) (μ : vr_M) : Option (Int × vr_M) :=
  if (1 : Int) = 0 then fJ0_coder_7d493_B14 s0 1 μ else fJ0_coder_7d493_B14 s0 0 μ
set_option maxRecDepth 100000 in
set_option maxHeartbeats 4000000 in
theorem ct_J0_coder_7d493 (l : Launch) (G : vr_G) {s0 : Nat} (hi_s0 : s0 < 17) (μ : vr_M) : vr_CI l yJ0_coder_7d493 cJ0_coder_7d493 1 (some .byte) ({ frames := 0, cells := 0, slots := 0, locals := 0 } : Room) G [.ref (vr_ak G s0)] μ (fJ0_coder_7d493 s0 μ) := by
  refine vr_start (own := RJ0) (by decide) rfl (Nat.le_of_ble_eq_true rfl) (fun p e s m args below meth c C0 => ?_)
  show vr_J p l e _ s m args below meth c 1 0 0 G (vr_Z (vr_QI G) G args s below) 0 [(0, .ref (vr_ak G s0))] [] μ _
  have B14 : ∀ (y0 : Int) (h_y0 : vr_R y0) (μ : vr_M), vr_J p l e ({ frames := 0, cells := 0, slots := 0, locals := 0 } : Room) s m args below meth c 1 0 0 G (vr_Z (vr_QI G) G args s below) 14 [] [.int (vr_I y0)] μ (fJ0_coder_7d493_B14 s0 y0 μ) := by
    intro y0 h_y0 μ
    unfold fJ0_coder_7d493_B14
    refine jr_gd (fun g1 => ?_)
    exact jr_zret C0 h_y0 (vr_nb2 g1) dJ0_coder_7d493_14
  unfold fJ0_coder_7d493
  refine jr_gcs C0 wf_J0_38 dJ0_coder_7d493_0 ?_
  refine jr_if_eq C0 (⟨by decide, by decide⟩) dJ0_coder_7d493_3 (tgt := 13) (by decide) ?_ ?_
  · refine jr_iconst C0 dJ0_coder_7d493_13 ?_
    refine jr_sub [] rfl ?_
    exact B14 1 (⟨by decide, by decide⟩) _
  refine jr_aload_n C0 0 dJ0_coder_7d493_6 rfl rfl ?_
  refine jr_scod C0 hi_s0 wf_J0_15 dJ0_coder_7d493_7 ?_
  refine jr_goto C0 dJ0_coder_7d493_10 (tgt := 14) (by decide) ?_
  refine jr_sub [] rfl ?_
  exact B14 0 (⟨by decide, by decide⟩) _
theorem dJ0_length_8abf5_0 : decode cJ0_length_8abf5 0 = .ok (.aload_n 0, 1) := by decide +kernel
theorem dJ0_length_8abf5_1 : decode cJ0_length_8abf5 1 = .ok (.getfield 9, 3) := by decide +kernel
theorem dJ0_length_8abf5_4 : decode cJ0_length_8abf5 4 = .ok (.arraylength, 1) := by decide +kernel
theorem dJ0_length_8abf5_5 : decode cJ0_length_8abf5 5 = .ok (.aload_n 0, 1) := by decide +kernel
theorem dJ0_length_8abf5_6 : decode cJ0_length_8abf5 6 = .ok (.invokevirtual 335, 3) := by decide +kernel
theorem dJ0_length_8abf5_9 : decode cJ0_length_8abf5 9 = .ok (.ishr, 1) := by decide +kernel
theorem dJ0_length_8abf5_10 : decode cJ0_length_8abf5 10 = .ok (.ireturn, 1) := by decide +kernel
def fJ0_length_8abf5 (s0 : Nat) (μ : vr_M) : Option (Int × vr_M) :=
  (fJ0_coder_7d493 s0 μ).bind (fun r1 => some (vr_shr ((vr_by s0).length : Int) r1.1, r1.2))
set_option maxRecDepth 100000 in
set_option maxHeartbeats 4000000 in
theorem ct_J0_length_8abf5 (l : Launch) (G : vr_G) {s0 : Nat} (hi_s0 : s0 < 17) (μ : vr_M) : vr_CI l yJ0_length_8abf5 cJ0_length_8abf5 1 (some .int) ({ frames := 1, cells := 0, slots := 0, locals := 20 } : Room) G [.ref (vr_ak G s0)] μ (fJ0_length_8abf5 s0 μ) := by
  refine vr_start (own := RJ0) (by decide) rfl (Nat.le_of_ble_eq_true rfl) (fun p e s m args below meth c C0 => ?_)
  show vr_J p l e _ s m args below meth c 1 0 0 G (vr_Z (vr_QI G) G args s below) 0 [(0, .ref (vr_ak G s0))] [] μ _
  unfold fJ0_length_8abf5
  refine jr_aload_n C0 0 dJ0_length_8abf5_0 rfl rfl ?_
  refine jr_sval C0 hi_s0 wf_J0_9 dJ0_length_8abf5_1 ?_
  refine jr_sbln C0 hi_s0 dJ0_length_8abf5_4 ?_
  refine jr_aload_n C0 0 dJ0_length_8abf5_5 rfl rfl ?_
  refine jr_strI C0 hi_s0 (ct_J0_coder_7d493 l G hi_s0 _) mi_J0_coder_7d493 wm_J0_335 ⟨Nat.le_of_ble_eq_true rfl, Nat.le_of_ble_eq_true rfl⟩ ⟨rfl, rfl⟩ (As := []) rfl (st := [.int (vr_I ((vr_by s0).length : Int))]) rfl (Nat.le_of_ble_eq_true rfl) dJ0_length_8abf5_6 (fun r1 hr1 => ?_)
  refine jr_ishr C0 dJ0_length_8abf5_9 ?_
  exact jr_iret C0 (vr_RT _) dJ0_length_8abf5_10
theorem dJ0_isLatin1_aae02_0 : decode cJ0_isLatin1_aae02 0 = .ok (.getstatic 38, 3) := by decide +kernel
theorem dJ0_isLatin1_aae02_3 : decode cJ0_isLatin1_aae02 3 = .ok (.ifCond .eq 14, 3) := by decide +kernel
theorem dJ0_isLatin1_aae02_6 : decode cJ0_isLatin1_aae02 6 = .ok (.aload_n 0, 1) := by decide +kernel
theorem dJ0_isLatin1_aae02_7 : decode cJ0_isLatin1_aae02 7 = .ok (.getfield 15, 3) := by decide +kernel
theorem dJ0_isLatin1_aae02_10 : decode cJ0_isLatin1_aae02 10 = .ok (.ifCond .ne 7, 3) := by decide +kernel
theorem dJ0_isLatin1_aae02_13 : decode cJ0_isLatin1_aae02 13 = .ok (.iconst 1, 1) := by decide +kernel
theorem dJ0_isLatin1_aae02_14 : decode cJ0_isLatin1_aae02 14 = .ok (.goto 4, 3) := by decide +kernel
theorem dJ0_isLatin1_aae02_17 : decode cJ0_isLatin1_aae02 17 = .ok (.iconst 0, 1) := by decide +kernel
theorem dJ0_isLatin1_aae02_18 : decode cJ0_isLatin1_aae02 18 = .ok (.ireturn, 1) := by decide +kernel
def fJ0_isLatin1_aae02_B18 (s0 : Nat) (y0 : Int) (μ : vr_M) : Option (Int × vr_M) :=
  vr_gd (y0 = 0 ∨ y0 = 1) (some (y0, μ))
def fJ0_isLatin1_aae02_B17 (s0 : Nat) (μ : vr_M) : Option (Int × vr_M) :=
  fJ0_isLatin1_aae02_B18 s0 0 μ
def fJ0_isLatin1_aae02 (s0 : Nat) (μ : vr_M) : Option (Int × vr_M) :=
  if (1 : Int) = 0 then fJ0_isLatin1_aae02_B17 s0 μ else if ¬ (0 : Int) = 0 then fJ0_isLatin1_aae02_B17 s0 μ else fJ0_isLatin1_aae02_B18 s0 1 μ
set_option maxRecDepth 100000 in
set_option maxHeartbeats 4000000 in
theorem ct_J0_isLatin1_aae02 (l : Launch) (G : vr_G) {s0 : Nat} (hi_s0 : s0 < 17) (μ : vr_M) : vr_CI l yJ0_isLatin1_aae02 cJ0_isLatin1_aae02 1 (some .boolean) ({ frames := 0, cells := 0, slots := 0, locals := 0 } : Room) G [.ref (vr_ak G s0)] μ (fJ0_isLatin1_aae02 s0 μ) := by
  refine vr_start (own := RJ0) (by decide) rfl (Nat.le_of_ble_eq_true rfl) (fun p e s m args below meth c C0 => ?_)
  show vr_J p l e _ s m args below meth c 1 0 0 G (vr_Z (vr_QI G) G args s below) 0 [(0, .ref (vr_ak G s0))] [] μ _
  have B18 : ∀ (y0 : Int) (h_y0 : vr_R y0) (μ : vr_M), vr_J p l e ({ frames := 0, cells := 0, slots := 0, locals := 0 } : Room) s m args below meth c 1 0 0 G (vr_Z (vr_QI G) G args s below) 18 [] [.int (vr_I y0)] μ (fJ0_isLatin1_aae02_B18 s0 y0 μ) := by
    intro y0 h_y0 μ
    unfold fJ0_isLatin1_aae02_B18
    refine jr_gd (fun g1 => ?_)
    exact jr_zret C0 h_y0 (vr_nz g1) dJ0_isLatin1_aae02_18
  have B17 : ∀ (μ : vr_M), vr_J p l e ({ frames := 0, cells := 0, slots := 0, locals := 0 } : Room) s m args below meth c 1 0 0 G (vr_Z (vr_QI G) G args s below) 17 [] [] μ (fJ0_isLatin1_aae02_B17 s0 μ) := by
    intro μ
    unfold fJ0_isLatin1_aae02_B17
    refine jr_iconst C0 dJ0_isLatin1_aae02_17 ?_
    exact B18 0 (⟨by decide, by decide⟩) _
  unfold fJ0_isLatin1_aae02
  refine jr_gcs C0 wf_J0_38 dJ0_isLatin1_aae02_0 ?_
  refine jr_if_eq C0 (⟨by decide, by decide⟩) dJ0_isLatin1_aae02_3 (tgt := 17) (by decide) ?_ ?_
  · refine jr_sub [] rfl ?_
    exact B17 _
  refine jr_aload_n C0 0 dJ0_isLatin1_aae02_6 rfl rfl ?_
  refine jr_scod C0 hi_s0 wf_J0_15 dJ0_isLatin1_aae02_7 ?_
  refine jr_if_ne C0 (⟨by decide, by decide⟩) dJ0_isLatin1_aae02_10 (tgt := 17) (by decide) ?_ ?_
  · refine jr_sub [] rfl ?_
    exact B17 _
  refine jr_iconst C0 dJ0_isLatin1_aae02_13 ?_
  refine jr_goto C0 dJ0_isLatin1_aae02_14 (tgt := 18) (by decide) ?_
  refine jr_sub [] rfl ?_
  exact B18 1 (⟨by decide, by decide⟩) _
theorem dJ3_checkIndex_8e157_0 : decode cJ3_checkIndex_8e157 0 = .ok (.iload_n 0, 1) := by decide +kernel
theorem dJ3_checkIndex_8e157_1 : decode cJ3_checkIndex_8e157 1 = .ok (.ifCond .lt 8, 3) := by decide +kernel
theorem dJ3_checkIndex_8e157_4 : decode cJ3_checkIndex_8e157 4 = .ok (.iload_n 0, 1) := by decide +kernel
theorem dJ3_checkIndex_8e157_5 : decode cJ3_checkIndex_8e157 5 = .ok (.iload_n 1, 1) := by decide +kernel
theorem dJ3_checkIndex_8e157_6 : decode cJ3_checkIndex_8e157 6 = .ok (.if_icmp .lt 10, 3) := by decide +kernel
theorem dJ3_checkIndex_8e157_9 : decode cJ3_checkIndex_8e157 9 = .ok (.aload_n 2, 1) := by decide +kernel
theorem dJ3_checkIndex_8e157_10 : decode cJ3_checkIndex_8e157 10 = .ok (.iload_n 0, 1) := by decide +kernel
theorem dJ3_checkIndex_8e157_11 : decode cJ3_checkIndex_8e157 11 = .ok (.iload_n 1, 1) := by decide +kernel
theorem dJ3_checkIndex_8e157_12 : decode cJ3_checkIndex_8e157 12 = .ok (.invokestatic 95, 3) := by decide +kernel
theorem dJ3_checkIndex_8e157_15 : decode cJ3_checkIndex_8e157 15 = .ok (.athrow, 1) := by decide +kernel
theorem dJ3_checkIndex_8e157_16 : decode cJ3_checkIndex_8e157 16 = .ok (.iload_n 0, 1) := by decide +kernel
theorem dJ3_checkIndex_8e157_17 : decode cJ3_checkIndex_8e157 17 = .ok (.ireturn, 1) := by decide +kernel
def fJ3_checkIndex_8e157_B9 (x0 : Int) (x1 : Int) (μ : vr_M) : Option (Int × vr_M) :=
  none
def fJ3_checkIndex_8e157 (a0 : Int) (a1 : Int) (μ : vr_M) : Option (Int × vr_M) :=
  if a0 < 0 then fJ3_checkIndex_8e157_B9 a0 a1 μ else if a0 < a1 then some (a0, μ) else fJ3_checkIndex_8e157_B9 a0 a1 μ
set_option maxRecDepth 100000 in
set_option maxHeartbeats 4000000 in
theorem ct_J3_checkIndex_8e157 (l : Launch) (G : vr_G) (a0 : Int) (h_a0 : vr_R a0) (a1 : Int) (h_a1 : vr_R a1) (v2 : Value) (hc_v2 : v2.category = 1) (μ : vr_M) : vr_CI l yJ3_checkIndex_8e157 cJ3_checkIndex_8e157 3 (some .int) ({ frames := 0, cells := 0, slots := 0, locals := 0 } : Room) G [.int (vr_I a0), .int (vr_I a1), v2] μ (fJ3_checkIndex_8e157 a0 a1 μ) := by
  refine vr_start (own := RJ3) (by decide) rfl (by unfold lg_sl; simp only [List.flatMap_cons, List.flatMap_nil, hc_v2]; exact Nat.le_of_ble_eq_true rfl) (fun p e s m args below meth c C0 => ?_)
  show vr_J p l e _ s m args below meth c 3 0 0 G (vr_Z (vr_QI G) G args s below) 0 [(0, .int (vr_I a0)), (1, .int (vr_I a1)), (2, v2)] [] μ _
  have B9 : ∀ (x0 : Int) (h_x0 : vr_R x0) (x1 : Int) (h_x1 : vr_R x1) (μ : vr_M), vr_J p l e ({ frames := 0, cells := 0, slots := 0, locals := 0 } : Room) s m args below meth c 3 0 0 G (vr_Z (vr_QI G) G args s below) 9 [(0, .int (vr_I x0)), (1, .int (vr_I x1)), (2, v2)] [] μ (fJ3_checkIndex_8e157_B9 x0 x1 μ) := by
    intro x0 h_x0 x1 h_x1 μ
    unfold fJ3_checkIndex_8e157_B9
    exact jr_none
  unfold fJ3_checkIndex_8e157
  refine jr_iload_n C0 0 dJ3_checkIndex_8e157_0 rfl rfl ?_
  refine jr_if_lt C0 h_a0 dJ3_checkIndex_8e157_1 (tgt := 9) (by decide) ?_ ?_
  · exact B9 a0 h_a0 a1 h_a1 _
  refine jr_iload_n C0 0 dJ3_checkIndex_8e157_4 rfl rfl ?_
  refine jr_iload_n C0 1 dJ3_checkIndex_8e157_5 rfl rfl ?_
  refine jr_icmp_lt C0 h_a0 h_a1 dJ3_checkIndex_8e157_6 (tgt := 16) (by decide) ?_ ?_
  · refine jr_iload_n C0 0 dJ3_checkIndex_8e157_16 rfl rfl ?_
    exact jr_iret C0 h_a0 dJ3_checkIndex_8e157_17
  exact B9 a0 h_a0 a1 h_a1 _
theorem dJ0_checkIndex_df160_0 : decode cJ0_checkIndex_df160 0 = .ok (.iload_n 0, 1) := by decide +kernel
theorem dJ0_checkIndex_df160_1 : decode cJ0_checkIndex_df160 1 = .ok (.iload_n 1, 1) := by decide +kernel
theorem dJ0_checkIndex_df160_2 : decode cJ0_checkIndex_df160 2 = .ok (.getstatic 1053, 3) := by decide +kernel
theorem dJ0_checkIndex_df160_5 : decode cJ0_checkIndex_df160 5 = .ok (.invokestatic 1059, 3) := by decide +kernel
theorem dJ0_checkIndex_df160_8 : decode cJ0_checkIndex_df160 8 = .ok (.pop, 1) := by decide +kernel
theorem dJ0_checkIndex_df160_9 : decode cJ0_checkIndex_df160 9 = .ok (.return_, 1) := by decide +kernel
def fJ0_checkIndex_df160 (a0 : Int) (a1 : Int) (μ : vr_M) : Option (Int × vr_M) :=
  (fJ3_checkIndex_8e157 a0 a1 μ).bind (fun r2 => some (0, r2.2))
set_option maxRecDepth 100000 in
set_option maxHeartbeats 4000000 in
theorem ct_J0_checkIndex_df160 (l : Launch) (G : vr_G) (a0 : Int) (h_a0 : vr_R a0) (a1 : Int) (h_a1 : vr_R a1) (μ : vr_M) : vr_CV l yJ0_checkIndex_df160 cJ0_checkIndex_df160 2 none ({ frames := 1, cells := 0, slots := 0, locals := 22 } : Room) G [.int (vr_I a0), .int (vr_I a1)] μ (fJ0_checkIndex_df160 a0 a1 μ) := by
  refine vr_start (own := RJ0) (by decide) rfl (Nat.le_of_ble_eq_true rfl) (fun p e s m args below meth c C0 => ?_)
  show vr_J p l e _ s m args below meth c 2 0 0 G (vr_Z (vr_QV G) G args s below) 0 [(0, .int (vr_I a0)), (1, .int (vr_I a1))] [] μ _
  unfold fJ0_checkIndex_df160
  refine jr_iload_n C0 0 dJ0_checkIndex_df160_0 rfl rfl ?_
  refine jr_iload_n C0 1 dJ0_checkIndex_df160_1 rfl rfl ?_
  refine jr_gsf C0 wf_J0_1053 dJ0_checkIndex_df160_2 (fun q1 hc_q1 => ?_)
  refine jr_sI C0 (ct_J3_checkIndex_8e157 l G a0 h_a0 a1 h_a1 q1 hc_q1 _) mi_J3_checkIndex_8e157 wm_J0_1059 ⟨Nat.le_of_ble_eq_true rfl, Nat.le_of_ble_eq_true rfl⟩ ⟨rfl, rfl⟩ (As := [.int (vr_I a0), .int (vr_I a1), q1]) rfl (st := []) rfl (Nat.le_of_ble_eq_true rfl) dJ0_checkIndex_df160_5 (fun r2 hr2 => ?_)
  refine jr_pop C0 rfl dJ0_checkIndex_df160_8 ?_
  exact jr_vret C0 dJ0_checkIndex_df160_9
theorem dJ1_charAt_3b067_0 : decode cJ1_charAt_3b067 0 = .ok (.iload_n 1, 1) := by decide +kernel
theorem dJ1_charAt_3b067_1 : decode cJ1_charAt_3b067 1 = .ok (.aload_n 0, 1) := by decide +kernel
theorem dJ1_charAt_3b067_2 : decode cJ1_charAt_3b067 2 = .ok (.arraylength, 1) := by decide +kernel
theorem dJ1_charAt_3b067_3 : decode cJ1_charAt_3b067 3 = .ok (.invokestatic 9, 3) := by decide +kernel
theorem dJ1_charAt_3b067_6 : decode cJ1_charAt_3b067 6 = .ok (.aload_n 0, 1) := by decide +kernel
theorem dJ1_charAt_3b067_7 : decode cJ1_charAt_3b067 7 = .ok (.iload_n 1, 1) := by decide +kernel
theorem dJ1_charAt_3b067_8 : decode cJ1_charAt_3b067 8 = .ok (.baload, 1) := by decide +kernel
theorem dJ1_charAt_3b067_9 : decode cJ1_charAt_3b067 9 = .ok (.sipush 255, 3) := by decide +kernel
theorem dJ1_charAt_3b067_12 : decode cJ1_charAt_3b067 12 = .ok (.iand, 1) := by decide +kernel
theorem dJ1_charAt_3b067_13 : decode cJ1_charAt_3b067 13 = .ok (.i2c, 1) := by decide +kernel
theorem dJ1_charAt_3b067_14 : decode cJ1_charAt_3b067 14 = .ok (.ireturn, 1) := by decide +kernel
def fJ1_charAt_3b067 (s1 : Nat) (a1 : Int) (μ : vr_M) : Option (Int × vr_M) :=
  (fJ0_checkIndex_df160 a1 ((vr_by s1).length : Int) μ).bind (fun r1 => vr_gd (0 ≤ a1 ∧ a1 < ((vr_by s1).length : Int)) (vr_gd (0 ≤ (vr_i2c (vr_and (((vr_by s1).getD a1.toNat 0).toInt) 255)) ∧ (vr_i2c (vr_and (((vr_by s1).getD a1.toNat 0).toInt) 255)) < 65536) (some (vr_i2c (vr_and (((vr_by s1).getD a1.toNat 0).toInt) 255), r1.2))))
set_option maxRecDepth 100000 in
set_option maxHeartbeats 4000000 in
theorem ct_J1_charAt_3b067 (l : Launch) (G : vr_G) {s1 : Nat} (hi_s1 : s1 < 17) (a1 : Int) (h_a1 : vr_R a1) (μ : vr_M) : vr_CI l yJ1_charAt_3b067 cJ1_charAt_3b067 2 (some .char) ({ frames := 2, cells := 0, slots := 0, locals := 43 } : Room) G [.ref (vr_av G s1), .int (vr_I a1)] μ (fJ1_charAt_3b067 s1 a1 μ) := by
  refine vr_start (own := RJ1) (by decide) rfl (Nat.le_of_ble_eq_true rfl) (fun p e s m args below meth c C0 => ?_)
  show vr_J p l e _ s m args below meth c 2 0 0 G (vr_Z (vr_QI G) G args s below) 0 [(0, .ref (vr_av G s1)), (1, .int (vr_I a1))] [] μ _
  unfold fJ1_charAt_3b067
  refine jr_iload_n C0 1 dJ1_charAt_3b067_0 rfl rfl ?_
  refine jr_aload_n C0 0 dJ1_charAt_3b067_1 rfl rfl ?_
  refine jr_sbln C0 hi_s1 dJ1_charAt_3b067_2 ?_
  refine jr_sV0 C0 (ct_J0_checkIndex_df160 l G a1 h_a1 ((vr_by s1).length : Int) (vr_Rby hi_s1) _) mi_J0_checkIndex_df160 wm_J1_9 ⟨Nat.le_of_ble_eq_true rfl, Nat.le_of_ble_eq_true rfl⟩ ⟨rfl, rfl⟩ (As := [.int (vr_I a1), .int (vr_I ((vr_by s1).length : Int))]) rfl (st := []) rfl (Nat.le_of_ble_eq_true rfl) dJ1_charAt_3b067_3 (fun r1 => ?_)
  refine jr_aload_n C0 0 dJ1_charAt_3b067_6 rfl rfl ?_
  refine jr_iload_n C0 1 dJ1_charAt_3b067_7 rfl rfl ?_
  refine jr_gd (fun g2 => ?_)
  refine jr_sbal C0 hi_s1 g2 dJ1_charAt_3b067_8 ?_
  refine jr_sipush C0 dJ1_charAt_3b067_9 rfl ?_
  refine jr_iand C0 dJ1_charAt_3b067_12 ?_
  refine jr_i2c C0 dJ1_charAt_3b067_13 ?_
  refine jr_gd (fun g3 => ?_)
  exact jr_zret C0 (vr_RT _) (vr_nch g3) dJ1_charAt_3b067_14

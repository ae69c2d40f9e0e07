theorem vk_c615 {p : Program} {l : Launch} {e : Env} {s : State} {m : MethodId} {below : List Frame} {meth : Method} {c : Code} {G : vr_G} {Z : Unit → State → Prop} {b L : Nat} {xs : Nat → Int32} (C0 : vr_Cx room_1 600000 7302250 p s m #[Value.ref b] meth c RL code 4 ret G) (hX : va_X b L xs s s.heap) (hbl : b < s.heap.size) (hbA : ¬ vr_A G b) (hL : L ≤ 2048) {x Y : Int} (hx : 0 ≤ x ∧ x + 3 < (L : Int)) (hY : Y ≤ 90000) {μ : vr_M} (hR : vz_R Y μ) (kk : ∀ μ2, vz_R (Y + 40) μ2 → vr_J p l e room_1 s m #[Value.ref b] below meth c 4 600000 7302250 G Z 955 (vk_L G b x) [] μ2 (some ())) : vr_J p l e room_1 s m #[Value.ref b] below meth c 4 600000 7302250 G Z 615 (vk_L G b x) [] μ (some ()) := by
  obtain ⟨r, μ1, μ2, e1, e2, hR2⟩ := vz_ever (vk_v xs (x + 1)) (vk_v xs (x + 2)) Y μ hY hR
  refine jr_aload_n C0 (k := 1) 1 (by decide +kernel) rfl rfl ?_
  refine jr_aload_n C0 (k := 0) 0 (by decide +kernel) rfl rfl ?_
  refine jr_iload_n C0 (k := 3) 3 (by decide +kernel) rfl rfl ?_
  refine jr_iconst C0 (n := 1) (by decide +kernel) ?_
  refine jr_iadd C0 (by decide +kernel) ?_
  refine jl_sld C0 hX hbl hbA hL (by omega) (by decide +kernel) ?_
  refine jr_aload_n C0 (k := 0) 0 (by decide +kernel) rfl rfl ?_
  refine jr_iload_n C0 (k := 3) 3 (by decide +kernel) rfl rfl ?_
  refine jr_iconst C0 (n := 2) (by decide +kernel) ?_
  refine jr_iadd C0 (by decide +kernel) ?_
  refine jl_sld C0 hX hbl hbA hL (by omega) (by decide +kernel) ?_
  refine jl_vI C0 (k := 0) (ci := 9) (As := [.int (vr_I (vk_v xs (x + 1))), .int (vr_I (vk_v xs (x + 2)))]) (by decide) rfl (by decide) rfl (ct_X9_ever l G (vk_v xs (x + 1)) (vk_R1 xs _) (vk_v xs (x + 2)) (vk_R1 xs _) μ) mi_X9_ever wm_L_80 ⟨(Nat.le_of_ble_eq_true rfl), (Nat.le_of_ble_eq_true rfl)⟩ ⟨rfl, rfl⟩ rfl rfl (Nat.le_of_ble_eq_true rfl) e1 (by decide +kernel) (fun h1 => ?_)
  refine jr_aload_n C0 (k := 2) 2 (by decide +kernel) rfl rfl ?_
  refine jr_aload_n C0 (k := 0) 0 (by decide +kernel) rfl rfl ?_
  refine jr_iload_n C0 (k := 3) 3 (by decide +kernel) rfl rfl ?_
  refine jr_iconst C0 (n := 1) (by decide +kernel) ?_
  refine jr_iadd C0 (by decide +kernel) ?_
  refine jl_sld C0 hX hbl hbA hL (by omega) (by decide +kernel) ?_
  refine jr_aload_n C0 (k := 0) 0 (by decide +kernel) rfl rfl ?_
  refine jr_iload_n C0 (k := 3) 3 (by decide +kernel) rfl rfl ?_
  refine jr_iconst C0 (n := 2) (by decide +kernel) ?_
  refine jr_iadd C0 (by decide +kernel) ?_
  refine jl_sld C0 hX hbl hbA hL (by omega) (by decide +kernel) ?_
  refine jl_vI C0 (k := 68) (ci := 10) (As := [.int (vr_I (vk_v xs (x + 1))), .int (vr_I (vk_v xs (x + 2)))]) (by decide) rfl (by decide) rfl (ct_X10_ever l G (vk_v xs (x + 1)) (vk_R1 xs _) (vk_v xs (x + 2)) (vk_R1 xs _) μ1) mi_X10_ever wm_L_83 ⟨(Nat.le_of_ble_eq_true rfl), (Nat.le_of_ble_eq_true rfl)⟩ ⟨rfl, rfl⟩ rfl rfl (Nat.le_of_ble_eq_true rfl) e2 (by decide +kernel) (fun h2 => ?_)
  refine jl_eq C0 (off := 312) (tgt := 955) h1 (by decide +kernel) (by decide) ?_
  exact kk μ2 hR2
theorem vk_c648 {p : Program} {l : Launch} {e : Env} {s : State} {m : MethodId} {below : List Frame} {meth : Method} {c : Code} {G : vr_G} {Z : Unit → State → Prop} {b L : Nat} {xs : Nat → Int32} (C0 : vr_Cx room_1 600000 7302250 p s m #[Value.ref b] meth c RL code 4 ret G) (hX : va_X b L xs s s.heap) (hbl : b < s.heap.size) (hbA : ¬ vr_A G b) (hL : L ≤ 2048) {x Y : Int} (hx : 0 ≤ x ∧ x + 3 < (L : Int)) (hY : Y ≤ 90000) {μ : vr_M} (hR : vz_R Y μ) (kk : ∀ μ2, vz_R (Y + 40) μ2 → vr_J p l e room_1 s m #[Value.ref b] below meth c 4 600000 7302250 G Z 955 (vk_L G b x) [] μ2 (some ())) : vr_J p l e room_1 s m #[Value.ref b] below meth c 4 600000 7302250 G Z 648 (vk_L G b x) [] μ (some ()) := by
  obtain ⟨r, μ1, μ2, e1, e2, hR2⟩ := vz_less (vk_v xs (x + 1)) Y μ hY hR
  refine jr_aload_n C0 (k := 1) 1 (by decide +kernel) rfl rfl ?_
  refine jr_aload_n C0 (k := 0) 0 (by decide +kernel) rfl rfl ?_
  refine jr_iload_n C0 (k := 3) 3 (by decide +kernel) rfl rfl ?_
  refine jr_iconst C0 (n := 1) (by decide +kernel) ?_
  refine jr_iadd C0 (by decide +kernel) ?_
  refine jl_sld C0 hX hbl hbA hL (by omega) (by decide +kernel) ?_
  refine jl_vI C0 (k := 0) (ci := 9) (As := [.int (vr_I (vk_v xs (x + 1)))]) (by decide) rfl (by decide) rfl (ct_X9_less l G (vk_v xs (x + 1)) (vk_R1 xs _) μ) mi_X9_less wm_L_84 ⟨(Nat.le_of_ble_eq_true rfl), (Nat.le_of_ble_eq_true rfl)⟩ ⟨rfl, rfl⟩ rfl rfl (Nat.le_of_ble_eq_true rfl) e1 (by decide +kernel) (fun h1 => ?_)
  refine jr_aload_n C0 (k := 2) 2 (by decide +kernel) rfl rfl ?_
  refine jr_aload_n C0 (k := 0) 0 (by decide +kernel) rfl rfl ?_
  refine jr_iload_n C0 (k := 3) 3 (by decide +kernel) rfl rfl ?_
  refine jr_iconst C0 (n := 1) (by decide +kernel) ?_
  refine jr_iadd C0 (by decide +kernel) ?_
  refine jl_sld C0 hX hbl hbA hL (by omega) (by decide +kernel) ?_
  refine jl_vI C0 (k := 68) (ci := 10) (As := [.int (vr_I (vk_v xs (x + 1)))]) (by decide) rfl (by decide) rfl (ct_X10_less l G (vk_v xs (x + 1)) (vk_R1 xs _) μ1) mi_X10_less wm_L_87 ⟨(Nat.le_of_ble_eq_true rfl), (Nat.le_of_ble_eq_true rfl)⟩ ⟨rfl, rfl⟩ rfl rfl (Nat.le_of_ble_eq_true rfl) e2 (by decide +kernel) (fun h2 => ?_)
  refine jl_eq C0 (off := 289) (tgt := 955) h1 (by decide +kernel) (by decide) ?_
  exact kk μ2 hR2
theorem vk_c671 {p : Program} {l : Launch} {e : Env} {s : State} {m : MethodId} {below : List Frame} {meth : Method} {c : Code} {G : vr_G} {Z : Unit → State → Prop} {b L : Nat} {xs : Nat → Int32} (C0 : vr_Cx room_1 600000 7302250 p s m #[Value.ref b] meth c RL code 4 ret G) (hX : va_X b L xs s s.heap) (hbl : b < s.heap.size) (hbA : ¬ vr_A G b) (hL : L ≤ 2048) {x Y : Int} (hx : 0 ≤ x ∧ x + 3 < (L : Int)) (hY : Y ≤ 90000) {μ : vr_M} (hR : vz_R Y μ) (kk : ∀ μ2, vz_R (Y + 40) μ2 → vr_J p l e room_1 s m #[Value.ref b] below meth c 4 600000 7302250 G Z 955 (vk_L G b x) [] μ2 (some ())) : vr_J p l e room_1 s m #[Value.ref b] below meth c 4 600000 7302250 G Z 671 (vk_L G b x) [] μ (some ()) := by
  obtain ⟨r, μ1, μ2, e1, e2, hR2⟩ := vz_safe (vk_v xs (x + 1)) (vk_v xs (x + 2)) (vk_v xs (x + 3)) Y μ hY hR
  refine jr_aload_n C0 (k := 1) 1 (by decide +kernel) rfl rfl ?_
  refine jr_aload_n C0 (k := 0) 0 (by decide +kernel) rfl rfl ?_
  refine jr_iload_n C0 (k := 3) 3 (by decide +kernel) rfl rfl ?_
  refine jr_iconst C0 (n := 1) (by decide +kernel) ?_
  refine jr_iadd C0 (by decide +kernel) ?_
  refine jl_sld C0 hX hbl hbA hL (by omega) (by decide +kernel) ?_
  refine jr_aload_n C0 (k := 0) 0 (by decide +kernel) rfl rfl ?_
  refine jr_iload_n C0 (k := 3) 3 (by decide +kernel) rfl rfl ?_
  refine jr_iconst C0 (n := 2) (by decide +kernel) ?_
  refine jr_iadd C0 (by decide +kernel) ?_
  refine jl_sld C0 hX hbl hbA hL (by omega) (by decide +kernel) ?_
  refine jr_aload_n C0 (k := 0) 0 (by decide +kernel) rfl rfl ?_
  refine jr_iload_n C0 (k := 3) 3 (by decide +kernel) rfl rfl ?_
  refine jr_iconst C0 (n := 3) (by decide +kernel) ?_
  refine jr_iadd C0 (by decide +kernel) ?_
  refine jl_sld C0 hX hbl hbA hL (by omega) (by decide +kernel) ?_
  refine jl_vL C0 (k := 0) (ci := 9) (As := [.int (vr_I (vk_v xs (x + 1))), .int (vr_I (vk_v xs (x + 2))), .int (vr_I (vk_v xs (x + 3)))]) (by decide) rfl (by decide) rfl (ct_X9_safe l G (vk_v xs (x + 1)) (vk_R1 xs _) (vk_v xs (x + 2)) (vk_R1 xs _) (vk_v xs (x + 3)) (vk_R1 xs _) μ) mi_X9_safe wm_L_88 ⟨(Nat.le_of_ble_eq_true rfl), (Nat.le_of_ble_eq_true rfl)⟩ ⟨rfl, rfl⟩ rfl rfl (Nat.le_of_ble_eq_true rfl) e1 (by decide +kernel) ?_
  refine jr_aload_n C0 (k := 2) 2 (by decide +kernel) rfl rfl ?_
  refine jr_aload_n C0 (k := 0) 0 (by decide +kernel) rfl rfl ?_
  refine jr_iload_n C0 (k := 3) 3 (by decide +kernel) rfl rfl ?_
  refine jr_iconst C0 (n := 1) (by decide +kernel) ?_
  refine jr_iadd C0 (by decide +kernel) ?_
  refine jl_sld C0 hX hbl hbA hL (by omega) (by decide +kernel) ?_
  refine jr_aload_n C0 (k := 0) 0 (by decide +kernel) rfl rfl ?_
  refine jr_iload_n C0 (k := 3) 3 (by decide +kernel) rfl rfl ?_
  refine jr_iconst C0 (n := 2) (by decide +kernel) ?_
  refine jr_iadd C0 (by decide +kernel) ?_
  refine jl_sld C0 hX hbl hbA hL (by omega) (by decide +kernel) ?_
  refine jr_aload_n C0 (k := 0) 0 (by decide +kernel) rfl rfl ?_
  refine jr_iload_n C0 (k := 3) 3 (by decide +kernel) rfl rfl ?_
  refine jr_iconst C0 (n := 3) (by decide +kernel) ?_
  refine jr_iadd C0 (by decide +kernel) ?_
  refine jl_sld C0 hX hbl hbA hL (by omega) (by decide +kernel) ?_
  refine jl_vL C0 (k := 68) (ci := 10) (As := [.int (vr_I (vk_v xs (x + 1))), .int (vr_I (vk_v xs (x + 2))), .int (vr_I (vk_v xs (x + 3)))]) (by decide) rfl (by decide) rfl (ct_X10_safe l G (vk_v xs (x + 1)) (vk_R1 xs _) (vk_v xs (x + 2)) (vk_R1 xs _) (vk_v xs (x + 3)) (vk_R1 xs _) μ1) mi_X10_safe wm_L_92 ⟨(Nat.le_of_ble_eq_true rfl), (Nat.le_of_ble_eq_true rfl)⟩ ⟨rfl, rfl⟩ rfl rfl (Nat.le_of_ble_eq_true rfl) e2 (by decide +kernel) ?_
  refine jl_eqL C0 (off := 245) (tgt := 955) (by decide +kernel) (by decide +kernel) (by decide) ?_
  exact kk μ2 hR2

theorem vk_d4 : decode code 4 = .ok (.invokespecial 9, 3) := by decide +kernel
theorem vk_d12 : decode code 12 = .ok (.invokespecial 12, 3) := by decide +kernel
/-- from the entry -/
theorem whole_start {p : Program} {e : Env} {s : State} {m : MethodId} {below : List Frame} {meth : Method} {c : Code} (l : Launch) (hflags : l.flags = flags0) {b L : Nat} {xs : Nat → Int32} (hL : L ≤ 2048) (C0 : lw_At p s m meth c b L xs) : W p l e room_1 s m #[Value.ref b] below meth c s.heap [] 0 0 (lw_Z below #[Value.ref b] s) (entryFrame m ([Value.ref b] : List Value).toArray 4) := by
  obtain ⟨hx, hb, hr, hml, hown0, hts, hX, hbl, hlocks, hgv⟩ := id C0
  have hown : s.vm.findClass RL = some m.cls := hown0
  have htT : ∀ w ∈ vr_T, w.before #[Value.ref b] s = true := fun w hw => hts w (List.mem_filter.mp hw).1
  have hA : ∀ q : Nat, s.heap.size ≤ q → (fun q : Nat => s.heap.size ≤ q) q := fun _ h => h
  have hAn : ∀ a : Nat, a < s.heap.size → ¬ (fun q : Nat => s.heap.size ≤ q) a := fun a h => Nat.not_le.mpr h
  obtain ⟨D, hK⟩ := vs_known htT
  obtain ⟨sa, sA1, sA2⟩ := vs_tabA hgv hts hAn
  obtain ⟨sb, sB1, sB2⟩ := vs_tabB hgv hts hAn
  have sJ := vs_jdk hgv hts hAn
  obtain ⟨ak, av, hS17⟩ := vs_str hgv hts hAn
  have hN : vbx_N s := ⟨va_Nw.of rfl (hts _ (by decide +kernel)), va_Nw.of rfl (hts _ (by decide +kernel)), va_Nw.of rfl (hts _ (by decide +kernel)), va_Nw.of rfl (hts _ (by decide +kernel))⟩
  have hB : vbx_B D (fun q : Nat => s.heap.size ≤ q) s := ⟨hK, hA, hN⟩
  have hl := lv_entry ([.ref b]) (n := 4) (Nat.le_of_ble_eq_true rfl)
  rw [lg_entry_eq]
  generalize (lg_sl ([.ref b]) ++ List.replicate (4 - (lg_sl ([.ref b])).length) Slot.unset).toArray = ls at hl ⊢
  have hl : lv_has ls 4 [(0, .ref b)] := hl
  have hP0 : va_P D.1 vwCl [] s.heap := fun k q h => by simp at h
  have hD0 : va_D (fun q : Nat => s.heap.size ≤ q) [] := ⟨fun i j p q h => by simp at h, fun k q h => by simp at h⟩
  refine va_new (ci := 9) (fs := [.null, .null, .int (vr_I 0), .null, .null, .null, .null, .null]) (C := RX9) (T := TX9) (N := 8) hx hb htT wx_X9 tyX9 tyX9_ok hown (htT _ wl_L_7) (htT _ wn_X9) (htT _ wz_X9) hK hP0 hD0 va_S.rf hA rfl (fun j hj => by rcases (show j = 0 ∨ j = 1 ∨ j = 2 ∨ j = 3 ∨ j = 4 ∨ j = 5 ∨ j = 6 ∨ j = 7 by omega) with rfl | rfl | rfl | rfl | rfl | rfl | rfl | rfl <;> rfl) (Nat.le_of_ble_eq_true rfl) (Nat.le_of_ble_eq_true rfl) (by decide +kernel) (fun h9 H1 hP1 hD1 hS1 => ?_)
  refine lv_dup hx hb (by decide +kernel) rfl ?_
  refine va_callv (A1 := fun q : Nat => s.heap.size ≤ q) (va_runI (As := []) (rest := [.ref h9]) ⟨hx, hb, hml, hown, htT⟩ (nc_X9 l D (fun q : Nat => s.heap.size ≤ q) [] h9) (cwI 0 htT (vr_GTT wc_yX9_init) rfl rfl rfl (htT _ wz_X9) (htT _ wm_L_9) (htT _ wi_yX9_init) rfl ⟨by decide, by decide, by decide +kernel⟩ ⟨Nat.le_of_ble_eq_true rfl, Nat.le_of_ble_eq_true rfl⟩) ⟨fun a U g mk q => ⟨q.1, q.2.1, q.2.2.1, vbx_B.same q.2.2.2 rfl rfl⟩, fun U hU hW => ⟨rfl, by rw [hU]; exact hP1, hD1, vbx_B.warm hB hW (by rw [hU]; exact hS1.1)⟩⟩ rfl rfl hl.1 rfl (lv_room (Nat.le_of_ble_eq_true rfl)) vk_d4 ⟨Nat.le_of_ble_eq_true rfl, Nat.le_of_ble_eq_true rfl⟩) hS1 (fun _ _ h => h) (fun _ h => h) (fun u t H2 locs2 ht hvm hw hBB hz hk1 hS2 => ?_)
  obtain ⟨f, hP2, hD2⟩ := hBB
  rw [ht] at hP2
  have hP2 : va_P D.1 vwCl (vk_w9 D h9 f) H2 := hP2
  have hD2 : va_D (fun q : Nat => s.heap.size ≤ q) (vk_w9 D h9 f) := hD2
  refine lv_astore_n (k := 1) (lv' := [(1, .ref h9), (0, .ref b)]) hx hb (by decide +kernel) rfl hl (by decide) rfl (fun ls hl => ?_)
  refine va_new (ci := 10) (fs := [.int (vr_I 0), .null, .null, .null, .int (vr_I 0), .int (vr_I 0), .int (vr_I 0), .int (vr_I 0), .int (vr_I 0), .int (vr_I 0), .null, .null, .int (vr_I 0), .int (vr_I 0), .null, .int (vr_I 0), .int (vr_I 0), .int (vr_I 0), .int (vr_I 0), .null, .null, .null, .int (vr_I 0), .int (vr_I 0), .int (vr_I 0), .int (vr_I 0)]) (C := RX10) (T := TX10) (N := 26) hx hb htT wx_X10 tyX10 tyX10_ok hown (htT _ wl_L_10) (htT _ wn_X10) (htT _ wz_X10) hK hP2 hD2 hS2 hA rfl (fun j hj => by rcases (show j = 0 ∨ j = 1 ∨ j = 2 ∨ j = 3 ∨ j = 4 ∨ j = 5 ∨ j = 6 ∨ j = 7 ∨ j = 8 ∨ j = 9 ∨ j = 10 ∨ j = 11 ∨ j = 12 ∨ j = 13 ∨ j = 14 ∨ j = 15 ∨ j = 16 ∨ j = 17 ∨ j = 18 ∨ j = 19 ∨ j = 20 ∨ j = 21 ∨ j = 22 ∨ j = 23 ∨ j = 24 ∨ j = 25 by omega) with rfl | rfl | rfl | rfl | rfl | rfl | rfl | rfl | rfl | rfl | rfl | rfl | rfl | rfl | rfl | rfl | rfl | rfl | rfl | rfl | rfl | rfl | rfl | rfl | rfl | rfl <;> rfl) (Nat.le_of_ble_eq_true rfl) (Nat.le_of_ble_eq_true rfl) (by decide +kernel) (fun h10 H3 hP3 hD3 hS3 => ?_)
  refine lv_dup hx hb (by decide +kernel) rfl ?_
  refine va_callv (A1 := fun q : Nat => s.heap.size ≤ q) (va_runI (As := []) (rest := [.ref h10]) ⟨hx, hb, hml, hown, htT⟩ (nc_X10 l D (fun q : Nat => s.heap.size ≤ q) (vk_w9 D h9 f) h10) (cwI 0 htT (vr_GTT wc_yX10_init) rfl rfl rfl (htT _ wz_X10) (htT _ wm_L_12) (htT _ wi_yX10_init) rfl ⟨by decide, by decide, by decide +kernel⟩ ⟨Nat.le_of_ble_eq_true rfl, Nat.le_of_ble_eq_true rfl⟩) ⟨fun a U g mk q => ⟨q.1, q.2.1, q.2.2.1, vbx_B.same q.2.2.2 rfl rfl⟩, fun U hU hW => ⟨rfl, by rw [hU]; exact hP3, hD3, vbx_B.warm hB hW (by rw [hU]; exact hS3.1)⟩⟩ rfl rfl hl.1 rfl (lv_room (Nat.le_of_ble_eq_true rfl)) vk_d12 ⟨Nat.le_of_ble_eq_true rfl, Nat.le_of_ble_eq_true rfl⟩) hS3 (fun _ _ h => h) (fun _ h => h) (fun u t H4 locs4 ht hvm hw hBB hz hk1 hS4 => ?_)
  obtain ⟨g, hP4, hD4⟩ := hBB
  rw [ht] at hP4
  have hP4 : va_P D.1 vwCl (vk_w9 D h9 f ++ vk_w10 D h10 g) H4 := hP4
  have hD4 : va_D (fun q : Nat => s.heap.size ≤ q) (vk_w9 D h9 f ++ vk_w10 D h10 g) := hD4
  refine lv_astore_n (k := 2) (lv' := [(2, .ref h10), (1, .ref h9), (0, .ref b)]) hx hb (by decide +kernel) rfl hl (by decide) rfl (fun ls hl => ?_)
  refine lv_iconst (v := vr_I 0) hx hb (n := 0) (by decide +kernel) rfl ?_
  refine lv_istore_n (k := 3) (lv' := [(3, .int (vr_I 0)), (2, .ref h10), (1, .ref h9), (0, .ref b)]) hx hb (by decide +kernel) rfl hl (by decide) rfl (fun ls hl => ?_)
  have hl := lv_sub (l' := [(0, .ref b), (1, .ref h9), (2, .ref h10), (3, .int (vr_I 0))]) hl [3, 2, 1, 0] rfl
  have hW := vk_W0 D (fun i => if i = 0 then sa else sb) ak av s.heap.size h9 h10 f g
  rw [hW] at hP4 hD4
  generalize hG : ((vk_ad h9 h10 f g, D.1, D.2, (fun i => if i = 0 then sa else sb), (ak, av), s.heap.size) : vr_G) = G at hP4 hD4
  have g0 : vr_ad G 0 = h9 := by rw [← hG]; rfl
  have g68 : vr_ad G 68 = h10 := by rw [← hG]; rfl
  have gD : vr_DD G = D.1 := by rw [← hG]
  have gI : vr_cI G = D.2.1 := by rw [← hG]
  have gZ : vr_cZ G = D.2.2 := by rw [← hG]
  have gs0 : vr_sa G 0 = sa := by rw [← hG]; rfl
  have gs1 : vr_sa G 1 = sb := by rw [← hG]; rfl
  have gk : vr_ak G = ak := by rw [← hG]
  have gv : vr_av G = av := by rw [← hG]
  have gx : vr_x0 G = s.heap.size := by rw [← hG]
  have gA : vr_A G = fun q : Nat => s.heap.size ≤ q := by unfold vr_A; rw [gx]
  have Ev : vr_Ev G s s.heap := by
    unfold vr_Ev vr_St
    rw [gD, gI, gZ, gs0, gs1, gk, gv, gx, gA]
    refine ⟨hK, ⟨fun i j hi hj hij => ?_, fun i hi => ?_⟩, ⟨va_Nw.of rfl (hts _ (by decide +kernel)), va_Nw.of rfl (hts _ (by decide +kernel))⟩, ⟨sA1, sA2⟩, ⟨sB1, sB2⟩, sJ, fun i hi => (hS17 i hi).1, fun i hi => (hS17 i hi).2⟩
    · exact hD4.1 i j _ _ (vr_ws_at hi) (vr_ws_at hj) hij
    · exact hD4.2 i _ (vr_ws_at hi)
  have C1 : vr_Cx room_1 600000 7302250 p s m #[Value.ref b] meth c RL code 4 ret G := ⟨hx, hb, hml, hown, htT, Ev, hr, hlocks, Nat.le_of_ble_eq_true rfl, Nat.le_of_ble_eq_true rfl⟩
  refine W.widen (k := 600000) (n := 7302250) (Nat.le_of_ble_eq_true rfl) (Nat.le_of_ble_eq_true rfl) ?_
  have K := vk_loop (l := l) (e := e) (below := below) C1 hX hbl gx hL 514 0 vk_M0 rfl (by omega) vk_R0 () rfl H4 locs4 ls (by rw [gD]; exact hP4) (by rw [gA]; exact hS4) (by unfold vk_L; rw [g0, g68]; exact hl)
  exact K

set_option maxHeartbeats 4000000 in
set_option maxRecDepth 100000 in
theorem kt_X_push (l : Launch) (hlt : l.stackTraces = false) (dC : Nat → ClassId) (dI : Nat → Nat → Nat) (cJ cI cZ cB : ClassId) (h0 qO qU qW qG qN qL : Nat) (sz : Nat) (a1 : Int64) (a3 : Int64) (a5 : Int32) (a6 : Int32) (fO : (Nat → Int64)) (fU : (Nat → Int64)) (fW : (Nat → Int32)) (fG : (Nat → Int32)) (fL : (Nat → Int32)) (len : Int32) (size : Int32) (post : Int32 → (Nat → Int64) → (Nat → Int64) → (Nat → Int32) → (Nat → Int32) → (Nat → Int32) → Int32 → Int32 → Prop) (px : String → (Nat → Int64) → (Nat → Int64) → (Nat → Int32) → (Nat → Int32) → (Nat → Int32) → Int32 → Int32 → Prop) (hw : wp_X_push post px a1 a3 a5 a6 fO fU fW fG fL len size) : vx_Met l yn_X_push ws_X_push rm_X_push (va_Pc [.ref h0, .long a1, .long a3, .int a5, .int a6] (pc_Z (dC, dI) (ty_4 cJ cI cZ cB) (wd_X h0 qO qU qW qG qN qL cJ cI cZ cB fO fU fW fG fL len size) sz)) (qi_X dC dI cJ cI cZ cB h0 qO qU qW qG qN qL post (va_A (wd_X h0 qO qU qW qG qN qL cJ cI cZ cB fO fU fW fG fL len size) sz)) (qx_X dC dI cJ cI cZ cB h0 qO qU qW qG qN qL px (va_A (wd_X h0 qO qU qW qG qN qL cJ cI cZ cB fO fU fW fG fL len size) sz)) 1 6 (va_A (wd_X h0 qO qU qW qG qN qL cJ cI cZ cB fO fU fW fG fL len size) sz) := by
  refine vx_ofW (cc := cd_X_push) (maxL := 7) (ret := (some .int)) (by decide) rfl ?_
  intro p e s m args below meth c s₁ B hml htab hv
  obtain ⟨rfl, ⟨hsz, hP, hK, hD0, hE⟩, hZ⟩ := hv
  have hx := B.exec
  have hb := B.bytes
  have hr := B.returns
  have hts := atoms_spec (ws := ws_X_push) B.pre
  have hq : ∀ {w : Cond}, w ∈ wg_all → w.before ([.ref h0, .long a1, .long a3, .int a5, .int a6] : List Value).toArray s = true := fun h => hts _ (List.mem_cons_of_mem _ h)
  have hu : ∀ L : List Cond, (∀ w ∈ L, w ∈ wg_all) → ∀ w ∈ L, w ∈ ws_X_push := fun L h w hw => List.mem_cons_of_mem _ (h w hw)
  have hown : s.vm.findClass "FourWords" = some m.cls := findClass_of_methodNamed B.named
  have hlocks := B.notSynchronized
  subst hsz
  have hD := hD0.self (sz := s.heap.size)
  generalize hAe : va_A (wd_X h0 qO qU qW qG qN qL cJ cI cZ cB fO fU fW fG fL len size) s.heap.size = A at hD hZ ⊢
  have hA : ∀ q : Nat, s.heap.size ≤ q → A q := fun q h => by rw [← hAe]; exact Or.inr h
  have hS : va_S A s.heap s.heap [] := va_S.rf
  have hl := lv_entry [.ref h0, .long a1, .long a3, .int a5, .int a6] (n := 7) (Nat.le_of_ble_eq_true rfl)
  rw [lg_entry_eq]
  generalize (lg_sl [.ref h0, .long a1, .long a3, .int a5, .int a6] ++ List.replicate (7 - (lg_sl [.ref h0, .long a1, .long a3, .int a5, .int a6]).length) Slot.unset).toArray = ls at hl ⊢
  have hl : lv_has ls 7 [(0, .ref h0), (1, .long a1), (3, .long a3), (5, .int a5), (6, .int a6)] := hl
  unfold wp_X_push at hw
  refine lv_iload hx hb dc_X_push_0 (lv_at hl 3 rfl) ?_
  refine lv_iconst (v := 1) hx hb dc_X_push_2 (by decide) ?_
  refine lv_bipush (v := 64) hx hb dc_X_push_3 (by decide) ?_
  rcases hw with hw | ⟨hw, hpx⟩
  · refine gc_v (S := Unit) (w1 := (fun u => ([] : va_W))) (wc := ([] : va_W)) (wr := ([(h0, .inr (1, [.ref qO, .ref qU, .ref qW, .ref qG, .ref qN, .int size])), (qO, .inl (cJ, 64, .inr (.inl fO))), (qU, .inl (cJ, 64, .inr (.inl fU))), (qW, .inl (cI, 64, .inl fW)), (qG, .inl (cZ, 64, .inl fG)), (qN, .inr (0, [.ref qL, .int len])), (qL, .inl (cB, 64, .inl fL))] : va_W)) (va_runS (As := [.int a5, .int (1 : Int32), .int (64 : Int32)]) (rest := []) ⟨hx, hb, hml, hown, hts⟩ (kt_X_demandRange_k l dC dI cJ cI cZ cB _ a5 (1 : Int32) (64 : Int32) _ hw) ⟨callB_of 3 hts (gw_in mw_t74) rfl rfl rfl (hq mw_t1) (hq mw_t72) (by decide +kernel) ⟨Nat.le_of_ble_eq_true rfl, Nat.le_of_ble_eq_true rfl⟩, hq mw_t73⟩ (ps_W (hP.sub (ws' := ([] : va_W)) [] rfl) hK (hD.sub (ws' := ([] : va_W)) [] (by decide) rfl) hE) rfl rfl hl.1 rfl (lv_room (Nat.le_of_ble_eq_true rfl)) dc_X_push_5 ⟨Nat.le_of_ble_eq_true rfl, Nat.le_of_ble_eq_true rfl⟩) hP hD hS hA [] [0, 1, 2, 3, 4, 5, 6] rfl rfl (by decide) (by decide) (fun u H locs hw hP hD hS => ?_)
    have hP : va_P (dC, dI) cs_3 (wd_X h0 qO qU qW qG qN qL cJ cI cZ cB fO fU fW fG fL len size) H := hP.sub (ws' := (wd_X h0 qO qU qW qG qN qL cJ cI cZ cB fO fU fW fG fL len size)) [0, 1, 2, 3, 4, 5, 6] rfl
    have hD : va_D A (wd_X h0 qO qU qW qG qN qL cJ cI cZ cB fO fU fW fG fL len size) := hD.sub (ws' := (wd_X h0 qO qU qW qG qN qL cJ cI cZ cB fO fU fW fG fL len size)) [0, 1, 2, 3, 4, 5, 6] (by decide) rfl
    try dsimp only at hw
    refine lv_aload_n hx hb dc_X_push_8 rfl (lv_at hl 0 rfl) ?_
    rcases hw with hw | ⟨hw, hpx⟩
    · refine gc_v (S := (Nat → Int64) × (Nat → Int64) × (Nat → Int32) × (Nat → Int32) × (Nat → Int32) × Int32 × Int32) (w1 := (fun u => (wd_X h0 qO qU qW qG qN qL cJ cI cZ cB u.1 u.2.1 u.2.2.1 u.2.2.2.1 u.2.2.2.2.1 u.2.2.2.2.2.1 u.2.2.2.2.2.2))) (wc := (wd_X h0 qO qU qW qG qN qL cJ cI cZ cB fO fU fW fG fL len size)) (wr := ([] : va_W)) (va_runV (As := []) (rest := []) ⟨hx, hb, hml, hown, hts⟩ (kt_X_demandRoom_k l dC dI cJ cI cZ cB h0 qO qU qW qG qN qL _ fO fU fW fG fL len size _ hw) ⟨callB_of 0 hts (gw_in mw_t145) rfl rfl rfl (hq mw_t1) (hq mw_t142) (by decide +kernel) ⟨Nat.le_of_ble_eq_true rfl, Nat.le_of_ble_eq_true rfl⟩, hq mw_t144, hq mw_s1⟩ (pv_W (va_recv (q0 := 0) (ci := 1) hK hP rfl rfl) (hP.sub (ws' := (wd_X h0 qO qU qW qG qN qL cJ cI cZ cB fO fU fW fG fL len size)) [0, 1, 2, 3, 4, 5, 6] rfl) hK (hD.sub (ws' := (wd_X h0 qO qU qW qG qN qL cJ cI cZ cB fO fU fW fG fL len size)) [0, 1, 2, 3, 4, 5, 6] (by decide) rfl) hE) rfl rfl hl.1 rfl (lv_room (Nat.le_of_ble_eq_true rfl)) dc_X_push_9 ⟨Nat.le_of_ble_eq_true rfl, Nat.le_of_ble_eq_true rfl⟩) hP hD hS hA [0, 1, 2, 3, 4, 5, 6] [] rfl rfl (by decide) (by decide) (fun u H locs hw hP hD hS => ?_)
      obtain ⟨fO9, fU9, fW9, fG9, fL9, len9, size9⟩ := u
      have hP : va_P (dC, dI) cs_3 (wd_X h0 qO qU qW qG qN qL cJ cI cZ cB fO9 fU9 fW9 fG9 fL9 len9 size9) H := hP.sub (ws' := (wd_X h0 qO qU qW qG qN qL cJ cI cZ cB fO9 fU9 fW9 fG9 fL9 len9 size9)) [0, 1, 2, 3, 4, 5, 6] rfl
      have hD : va_D A (wd_X h0 qO qU qW qG qN qL cJ cI cZ cB fO9 fU9 fW9 fG9 fL9 len9 size9) := hD.sub (ws' := (wd_X h0 qO qU qW qG qN qL cJ cI cZ cB fO9 fU9 fW9 fG9 fL9 len9 size9)) [0, 1, 2, 3, 4, 5, 6] (by decide) rfl
      try dsimp only at hw
      refine lv_aload_n hx hb dc_X_push_12 rfl (lv_at hl 0 rfl) ?_
      refine lv_aload_n hx hb dc_X_push_13 rfl (lv_at hl 0 rfl) ?_
      refine va_get (D := (dC, dI)) (ci := 1) (v := .int size9) (C := "FourWords") (T := tb_X) (N := 6) hx hb hts (hu _ um_X) hown hK hP 0 rfl rfl 5 (by decide) (hq mw_t45) (fun _ h9 => h9) rfl dc_X_push_14 ?_
      refine lv_lload_n hx hb dc_X_push_17 rfl (lv_at hl 1 rfl) ?_
      refine lv_lload_n hx hb dc_X_push_18 rfl (lv_at hl 2 rfl) ?_
      refine lv_iload hx hb dc_X_push_19 (lv_at hl 3 rfl) ?_
      refine lv_iload hx hb dc_X_push_21 (lv_at hl 4 rfl) ?_
      refine gc_v (S := (Nat → Int64) × (Nat → Int64) × (Nat → Int32) × (Nat → Int32) × (Nat → Int32) × Int32 × Int32) (w1 := (fun u => (wd_X h0 qO qU qW qG qN qL cJ cI cZ cB u.1 u.2.1 u.2.2.1 u.2.2.2.1 u.2.2.2.2.1 u.2.2.2.2.2.1 u.2.2.2.2.2.2))) (wc := (wd_X h0 qO qU qW qG qN qL cJ cI cZ cB fO9 fU9 fW9 fG9 fL9 len9 size9)) (wr := ([] : va_W)) (va_runV (As := [.int size9, .long a1, .long a3, .int a5, .int a6]) (rest := []) ⟨hx, hb, hml, hown, hts⟩ (kt_X_setValue l dC dI cJ cI cZ cB h0 qO qU qW qG qN qL _ size9 a1 a3 a5 a6 fO9 fU9 fW9 fG9 fL9 len9 size9 _ hw) ⟨callB_of 5 hts (gw_in mw_t165) rfl rfl rfl (hq mw_t1) (hq mw_t162) (by decide +kernel) ⟨Nat.le_of_ble_eq_true rfl, Nat.le_of_ble_eq_true rfl⟩, hq mw_t164, hq mw_s2⟩ (pv_W (va_recv (q0 := 0) (ci := 1) hK hP rfl rfl) (hP.sub (ws' := (wd_X h0 qO qU qW qG qN qL cJ cI cZ cB fO9 fU9 fW9 fG9 fL9 len9 size9)) [0, 1, 2, 3, 4, 5, 6] rfl) hK (hD.sub (ws' := (wd_X h0 qO qU qW qG qN qL cJ cI cZ cB fO9 fU9 fW9 fG9 fL9 len9 size9)) [0, 1, 2, 3, 4, 5, 6] (by decide) rfl) hE) rfl rfl hl.1 rfl (lv_room (Nat.le_of_ble_eq_true rfl)) dc_X_push_23 ⟨Nat.le_of_ble_eq_true rfl, Nat.le_of_ble_eq_true rfl⟩) hP hD hS hA [0, 1, 2, 3, 4, 5, 6] [] rfl rfl (by decide) (by decide) (fun u H locs hw hP hD hS => ?_)
      obtain ⟨fO23, fU23, fW23, fG23, fL23, len23, size23⟩ := u
      have hP : va_P (dC, dI) cs_3 (wd_X h0 qO qU qW qG qN qL cJ cI cZ cB fO23 fU23 fW23 fG23 fL23 len23 size23) H := hP.sub (ws' := (wd_X h0 qO qU qW qG qN qL cJ cI cZ cB fO23 fU23 fW23 fG23 fL23 len23 size23)) [0, 1, 2, 3, 4, 5, 6] rfl
      have hD : va_D A (wd_X h0 qO qU qW qG qN qL cJ cI cZ cB fO23 fU23 fW23 fG23 fL23 len23 size23) := hD.sub (ws' := (wd_X h0 qO qU qW qG qN qL cJ cI cZ cB fO23 fU23 fW23 fG23 fL23 len23 size23)) [0, 1, 2, 3, 4, 5, 6] (by decide) rfl
      try dsimp only at hw
      refine lv_aload_n hx hb dc_X_push_26 rfl (lv_at hl 0 rfl) ?_
      refine lv_dup hx hb dc_X_push_27 rfl ?_
      refine va_get (D := (dC, dI)) (ci := 1) (v := .int size23) (C := "FourWords") (T := tb_X) (N := 6) hx hb hts (hu _ um_X) hown hK hP 0 rfl rfl 5 (by decide) (hq mw_t45) (fun _ h9 => h9) rfl dc_X_push_28 ?_
      refine lv_iconst (v := 1) hx hb dc_X_push_31 (by decide) ?_
      refine lv_iadd hx hb dc_X_push_32 ?_
      refine va_put (D := (dC, dI)) (ci := 1) (v := .int (size23 + (1 : Int32))) (ty := .int) (C := "FourWords") (T := tb_X) (N := 6) hx hb hts (hu _ um_X) ft_X fk_X fn_X hown hK hP hD hS 0 rfl rfl 5 (by decide) (hq mw_t45) (fun _ h9 => h9) rfl (by decide +kernel) rfl rfl (Nat.le_of_ble_eq_true rfl) dc_X_push_33 (fun H locs hP hD hS => ?_)
      have hP : va_P (dC, dI) cs_3 (wd_X h0 qO qU qW qG qN qL cJ cI cZ cB fO23 fU23 fW23 fG23 fL23 len23 (size23 + (1 : Int32))) H := hP
      have hD : va_D A (wd_X h0 qO qU qW qG qN qL cJ cI cZ cB fO23 fU23 fW23 fG23 fL23 len23 (size23 + (1 : Int32))) := hD
      refine lv_aload_n hx hb dc_X_push_36 rfl (lv_at hl 0 rfl) ?_
      refine va_get (D := (dC, dI)) (ci := 1) (v := .int (size23 + (1 : Int32))) (C := "FourWords") (T := tb_X) (N := 6) hx hb hts (hu _ um_X) hown hK hP 0 rfl rfl 5 (by decide) (hq mw_t45) (fun _ h9 => h9) rfl dc_X_push_37 ?_
      refine W.widen (k := 1) (n := 6) (Nat.zero_le _) (Nat.zero_le _) ?_
      exact vx_ret (W.iret (v := size23 + (1 : Int32)) hx hb hr (fun t ht hW => ⟨⟨size23 + (1 : Int32), (fO23, fU23, fW23, fG23, fL23, len23, size23 + (1 : Int32)), rfl, hw, by rw [ht]; exact hP, va_K.moved hW.alike hK, hD⟩, hS.F ht⟩) hS.2.2 dc_X_push_40)
    · exact gx_T (E0 := "java/lang/IllegalStateException") (u := (fO, fU, fW, fG, fL, len, size)) (wc := (wd_X h0 qO qU qW qG qN qL cJ cI cZ cB fO fU fW fG fL len size)) (wr := ([] : va_W)) (vx_runV (As := []) (rest := []) ⟨hx, hb, hml, hown, hts⟩ (kt_X_demandRoom_t l hlt dC dI cJ cI cZ cB h0 qO qU qW qG qN qL _ fO fU fW fG fL len size hw) ⟨callB_of 0 hts (gw_in mw_t145) rfl rfl rfl (hq mw_t1) (hq mw_t142) (by decide +kernel) ⟨Nat.le_of_ble_eq_true rfl, Nat.le_of_ble_eq_true rfl⟩, hq mw_t144, hq mw_s1⟩ (pq_W (va_recv (q0 := 0) (ci := 1) hK hP rfl rfl) (hP.sub (ws' := (wd_X h0 qO qU qW qG qN qL cJ cI cZ cB fO fU fW fG fL len size)) [0, 1, 2, 3, 4, 5, 6] rfl) hK (hD.sub (ws' := (wd_X h0 qO qU qW qG qN qL cJ cI cZ cB fO fU fW fG fL len size)) [0, 1, 2, 3, 4, 5, 6] (by decide) rfl) hE (zz_W hZ hS (va_free (wc := (wd_X h0 qO qU qW qG qN qL cJ cI cZ cB fO fU fW fG fL len size)) hD hS hA [0, 1, 2, 3, 4, 5, 6] rfl))) rfl rfl hl.1 rfl (lv_room (Nat.le_of_ble_eq_true rfl)) dc_X_push_9 ⟨Nat.le_of_ble_eq_true rfl, Nat.le_of_ble_eq_true rfl⟩) hP hK hD hS hA [0, 1, 2, 3, 4, 5, 6] [] rfl rfl (by decide) (by decide) [0, 1, 2, 3, 4, 5, 6] rfl rfl (by decide) htab hlocks hpx rfl
  · exact gx_T (E0 := "java/lang/IllegalArgumentException") (u := (fO, fU, fW, fG, fL, len, size)) (wc := ([] : va_W)) (wr := ([(h0, .inr (1, [.ref qO, .ref qU, .ref qW, .ref qG, .ref qN, .int size])), (qO, .inl (cJ, 64, .inr (.inl fO))), (qU, .inl (cJ, 64, .inr (.inl fU))), (qW, .inl (cI, 64, .inl fW)), (qG, .inl (cZ, 64, .inl fG)), (qN, .inr (0, [.ref qL, .int len])), (qL, .inl (cB, 64, .inl fL))] : va_W)) (vx_runS (As := [.int a5, .int (1 : Int32), .int (64 : Int32)]) (rest := []) ⟨hx, hb, hml, hown, hts⟩ (kt_X_demandRange_t l hlt dC dI cJ cI cZ cB _ a5 (1 : Int32) (64 : Int32) hw) ⟨callB_of 3 hts (gw_in mw_t74) rfl rfl rfl (hq mw_t1) (hq mw_t72) (by decide +kernel) ⟨Nat.le_of_ble_eq_true rfl, Nat.le_of_ble_eq_true rfl⟩, hq mw_t73⟩ (pz_W (hP.sub (ws' := ([] : va_W)) [] rfl) hK (hD.sub (ws' := ([] : va_W)) [] (by decide) rfl) hE (zz_W hZ hS (va_free (wc := ([] : va_W)) hD hS hA [] rfl))) rfl rfl hl.1 rfl (lv_room (Nat.le_of_ble_eq_true rfl)) dc_X_push_5 ⟨Nat.le_of_ble_eq_true rfl, Nat.le_of_ble_eq_true rfl⟩) hP hK hD hS hA [] [0, 1, 2, 3, 4, 5, 6] rfl rfl (by decide) (by decide) [0, 1, 2, 3, 4, 5, 6] rfl rfl (by decide) htab hlocks hpx rfl
set_option maxHeartbeats 4000000 in
set_option maxRecDepth 100000 in
theorem kt_X_two (l : Launch) (hlt : l.stackTraces = false) (dC : Nat → ClassId) (dI : Nat → Nat → Nat) (cJ cI cZ cB : ClassId) (h0 qO qU qW qG qN qL : Nat) (sz : Nat) (a1 : Int32) (fO : (Nat → Int64)) (fU : (Nat → Int64)) (fW : (Nat → Int32)) (fG : (Nat → Int32)) (fL : (Nat → Int32)) (len : Int32) (size : Int32) (post : (Nat → Int64) → (Nat → Int64) → (Nat → Int32) → (Nat → Int32) → (Nat → Int32) → Int32 → Int32 → Prop) (px : String → (Nat → Int64) → (Nat → Int64) → (Nat → Int32) → (Nat → Int32) → (Nat → Int32) → Int32 → Int32 → Prop) (hw : wp_X_two post px a1 fO fU fW fG fL len size) : vx_Met l yn_X_two ws_X_two rm_X_two (va_Pc [.ref h0, .int a1] (pc_Z (dC, dI) (ty_4 cJ cI cZ cB) (wd_X h0 qO qU qW qG qN qL cJ cI cZ cB fO fU fW fG fL len size) sz)) (qv_X dC dI cJ cI cZ cB h0 qO qU qW qG qN qL post (va_A (wd_X h0 qO qU qW qG qN qL cJ cI cZ cB fO fU fW fG fL len size) sz)) (qx_X dC dI cJ cI cZ cB h0 qO qU qW qG qN qL px (va_A (wd_X h0 qO qU qW qG qN qL cJ cI cZ cB fO fU fW fG fL len size) sz)) 1 6 (va_A (wd_X h0 qO qU qW qG qN qL cJ cI cZ cB fO fU fW fG fL len size) sz) := by
  refine vx_ofW (cc := cd_X_two) (maxL := 4) (ret := none) (by decide) rfl ?_
  intro p e s m args below meth c s₁ B hml htab hv
  obtain ⟨rfl, ⟨hsz, hP, hK, hD0, hE⟩, hZ⟩ := hv
  have hx := B.exec
  have hb := B.bytes
  have hr := B.returns
  have hts := atoms_spec (ws := ws_X_two) B.pre
  have hq : ∀ {w : Cond}, w ∈ wg_all → w.before ([.ref h0, .int a1] : List Value).toArray s = true := fun h => hts _ (List.mem_cons_of_mem _ h)
  have hu : ∀ L : List Cond, (∀ w ∈ L, w ∈ wg_all) → ∀ w ∈ L, w ∈ ws_X_two := fun L h w hw => List.mem_cons_of_mem _ (h w hw)
  have hown : s.vm.findClass "FourWords" = some m.cls := findClass_of_methodNamed B.named
  have hlocks := B.notSynchronized
  subst hsz
  have hD := hD0.self (sz := s.heap.size)
  generalize hAe : va_A (wd_X h0 qO qU qW qG qN qL cJ cI cZ cB fO fU fW fG fL len size) s.heap.size = A at hD hZ ⊢
  have hA : ∀ q : Nat, s.heap.size ≤ q → A q := fun q h => by rw [← hAe]; exact Or.inr h
  have hS : va_S A s.heap s.heap [] := va_S.rf
  have hl := lv_entry [.ref h0, .int a1] (n := 4) (Nat.le_of_ble_eq_true rfl)
  rw [lg_entry_eq]
  generalize (lg_sl [.ref h0, .int a1] ++ List.replicate (4 - (lg_sl [.ref h0, .int a1]).length) Slot.unset).toArray = ls at hl ⊢
  have hl : lv_has ls 4 [(0, .ref h0), (1, .int a1)] := hl
  have B_75 : ∀ (H : Heap) (locs : List Loc) (ls : Array Slot) (fO : (Nat → Int64)) (fU : (Nat → Int64)) (fW : (Nat → Int32)) (fG : (Nat → Int32)) (fL : (Nat → Int32)) (len : Int32) (size : Int32), wp_X_two_75 post px fO fU fW fG fL len size → va_P (dC, dI) cs_3 (wd_X h0 qO qU qW qG qN qL cJ cI cZ cB fO fU fW fG fL len size) H → va_D A (wd_X h0 qO qU qW qG qN qL cJ cI cZ cB fO fU fW fG fL len size) → va_S A s.heap H locs → lv_has ls 4 [(0, .ref h0)] → W p l e (headSpec ws_X_two rm_X_two).room s m ([.ref h0, .int a1] : List Value).toArray below meth c H locs 0 0 (vx_MQ below (qv_X dC dI cJ cI cZ cB h0 qO qU qW qG qN qL post A) (qx_X dC dI cJ cI cZ cB h0 qO qU qW qG qN qL px A) ([.ref h0, .int a1] : List Value).toArray s 1 6 A) (F0 m 75 ls []) := by
    intro H locs ls fO fU fW fG fL len size hw hP hD hS hl
    unfold wp_X_two_75 at hw
    refine lv_aload_n hx hb dc_X_two_75 rfl (lv_at hl 0 rfl) ?_
    refine lv_dup hx hb dc_X_two_76 rfl ?_
    refine va_get (D := (dC, dI)) (ci := 1) (v := .int size) (C := "FourWords") (T := tb_X) (N := 6) hx hb hts (hu _ um_X) hown hK hP 0 rfl rfl 5 (by decide) (hq mw_t45) (fun _ h9 => h9) rfl dc_X_two_77 ?_
    refine lv_iconst (v := 1) hx hb dc_X_two_80 (by decide) ?_
    refine lv_isub hx hb dc_X_two_81 ?_
    refine va_put (D := (dC, dI)) (ci := 1) (v := .int (size - (1 : Int32))) (ty := .int) (C := "FourWords") (T := tb_X) (N := 6) hx hb hts (hu _ um_X) ft_X fk_X fn_X hown hK hP hD hS 0 rfl rfl 5 (by decide) (hq mw_t45) (fun _ h9 => h9) rfl (by decide +kernel) rfl rfl (Nat.le_of_ble_eq_true rfl) dc_X_two_82 (fun H locs hP hD hS => ?_)
    have hP : va_P (dC, dI) cs_3 (wd_X h0 qO qU qW qG qN qL cJ cI cZ cB fO fU fW fG fL len (size - (1 : Int32))) H := hP
    have hD : va_D A (wd_X h0 qO qU qW qG qN qL cJ cI cZ cB fO fU fW fG fL len (size - (1 : Int32))) := hD
    refine W.widen (k := 1) (n := 6) (Nat.zero_le _) (Nat.zero_le _) ?_
    exact vx_ret (W.vret hx hb hr (fun t ht hW => ⟨⟨(fO, fU, fW, fG, fL, len, size - (1 : Int32)), rfl, hw, by rw [ht]; exact hP, va_K.moved hW.alike hK, hD⟩, hS.F ht⟩) hS.2.2 dc_X_two_85)
  unfold wp_X_two at hw
  refine lv_iload_n hx hb dc_X_two_0 rfl (lv_at hl 1 rfl) ?_
  refine lv_iconst (v := 0) hx hb dc_X_two_1 (by decide) ?_
  refine lv_bipush (v := 18) hx hb dc_X_two_2 (by decide) ?_
  rcases hw with hw | ⟨hw, hpx⟩
  · refine gc_v (S := Unit) (w1 := (fun u => ([] : va_W))) (wc := ([] : va_W)) (wr := ([(h0, .inr (1, [.ref qO, .ref qU, .ref qW, .ref qG, .ref qN, .int size])), (qO, .inl (cJ, 64, .inr (.inl fO))), (qU, .inl (cJ, 64, .inr (.inl fU))), (qW, .inl (cI, 64, .inl fW)), (qG, .inl (cZ, 64, .inl fG)), (qN, .inr (0, [.ref qL, .int len])), (qL, .inl (cB, 64, .inl fL))] : va_W)) (va_runS (As := [.int a1, .int (0 : Int32), .int (18 : Int32)]) (rest := []) ⟨hx, hb, hml, hown, hts⟩ (kt_X_demandRange_k l dC dI cJ cI cZ cB _ a1 (0 : Int32) (18 : Int32) _ hw) ⟨callB_of 3 hts (gw_in mw_t74) rfl rfl rfl (hq mw_t1) (hq mw_t72) (by decide +kernel) ⟨Nat.le_of_ble_eq_true rfl, Nat.le_of_ble_eq_true rfl⟩, hq mw_t73⟩ (ps_W (hP.sub (ws' := ([] : va_W)) [] rfl) hK (hD.sub (ws' := ([] : va_W)) [] (by decide) rfl) hE) rfl rfl hl.1 rfl (lv_room (Nat.le_of_ble_eq_true rfl)) dc_X_two_4 ⟨Nat.le_of_ble_eq_true rfl, Nat.le_of_ble_eq_true rfl⟩) hP hD hS hA [] [0, 1, 2, 3, 4, 5, 6] rfl rfl (by decide) (by decide) (fun u H locs hw hP hD hS => ?_)
    have hP : va_P (dC, dI) cs_3 (wd_X h0 qO qU qW qG qN qL cJ cI cZ cB fO fU fW fG fL len size) H := hP.sub (ws' := (wd_X h0 qO qU qW qG qN qL cJ cI cZ cB fO fU fW fG fL len size)) [0, 1, 2, 3, 4, 5, 6] rfl
    have hD : va_D A (wd_X h0 qO qU qW qG qN qL cJ cI cZ cB fO fU fW fG fL len size) := hD.sub (ws' := (wd_X h0 qO qU qW qG qN qL cJ cI cZ cB fO fU fW fG fL len size)) [0, 1, 2, 3, 4, 5, 6] (by decide) rfl
    try dsimp only at hw
    refine lv_aload_n hx hb dc_X_two_7 rfl (lv_at hl 0 rfl) ?_
    refine lv_iconst (v := 2) hx hb dc_X_two_8 (by decide) ?_
    rcases hw with hw | ⟨hw, hpx⟩
    · refine gc_v (S := (Nat → Int64) × (Nat → Int64) × (Nat → Int32) × (Nat → Int32) × (Nat → Int32) × Int32 × Int32) (w1 := (fun u => (wd_X h0 qO qU qW qG qN qL cJ cI cZ cB u.1 u.2.1 u.2.2.1 u.2.2.2.1 u.2.2.2.2.1 u.2.2.2.2.2.1 u.2.2.2.2.2.2))) (wc := (wd_X h0 qO qU qW qG qN qL cJ cI cZ cB fO fU fW fG fL len size)) (wr := ([] : va_W)) (va_runV (As := [.int (2 : Int32)]) (rest := []) ⟨hx, hb, hml, hown, hts⟩ (kt_X_demandValues_k l dC dI cJ cI cZ cB h0 qO qU qW qG qN qL _ (2 : Int32) fO fU fW fG fL len size _ hw) ⟨callB_of 1 hts (gw_in mw_t184) rfl rfl rfl (hq mw_t1) (hq mw_t181) (by decide +kernel) ⟨Nat.le_of_ble_eq_true rfl, Nat.le_of_ble_eq_true rfl⟩, hq mw_t183, hq mw_s4⟩ (pv_W (va_recv (q0 := 0) (ci := 1) hK hP rfl rfl) (hP.sub (ws' := (wd_X h0 qO qU qW qG qN qL cJ cI cZ cB fO fU fW fG fL len size)) [0, 1, 2, 3, 4, 5, 6] rfl) hK (hD.sub (ws' := (wd_X h0 qO qU qW qG qN qL cJ cI cZ cB fO fU fW fG fL len size)) [0, 1, 2, 3, 4, 5, 6] (by decide) rfl) hE) rfl rfl hl.1 rfl (lv_room (Nat.le_of_ble_eq_true rfl)) dc_X_two_9 ⟨Nat.le_of_ble_eq_true rfl, Nat.le_of_ble_eq_true rfl⟩) hP hD hS hA [0, 1, 2, 3, 4, 5, 6] [] rfl rfl (by decide) (by decide) (fun u H locs hw hP hD hS => ?_)
      obtain ⟨fO9, fU9, fW9, fG9, fL9, len9, size9⟩ := u
      have hP : va_P (dC, dI) cs_3 (wd_X h0 qO qU qW qG qN qL cJ cI cZ cB fO9 fU9 fW9 fG9 fL9 len9 size9) H := hP.sub (ws' := (wd_X h0 qO qU qW qG qN qL cJ cI cZ cB fO9 fU9 fW9 fG9 fL9 len9 size9)) [0, 1, 2, 3, 4, 5, 6] rfl
      have hD : va_D A (wd_X h0 qO qU qW qG qN qL cJ cI cZ cB fO9 fU9 fW9 fG9 fL9 len9 size9) := hD.sub (ws' := (wd_X h0 qO qU qW qG qN qL cJ cI cZ cB fO9 fU9 fW9 fG9 fL9 len9 size9)) [0, 1, 2, 3, 4, 5, 6] (by decide) rfl
      try dsimp only at hw
      refine lv_aload_n hx hb dc_X_two_12 rfl (lv_at hl 0 rfl) ?_
      refine va_get (D := (dC, dI)) (ci := 1) (v := .int size9) (C := "FourWords") (T := tb_X) (N := 6) hx hb hts (hu _ um_X) hown hK hP 0 rfl rfl 5 (by decide) (hq mw_t45) (fun _ h9 => h9) rfl dc_X_two_13 ?_
      refine lv_iconst (v := 2) hx hb dc_X_two_16 (by decide) ?_
      refine lv_isub hx hb dc_X_two_17 ?_
      refine lv_topi (fun v18 e18 => ?_)
      have hw := hw v18 e18
      refine lv_istore_n (lv' := [(2, .int v18), (0, .ref h0), (1, .int a1)]) hx hb dc_X_two_18 rfl hl (Nat.le_of_ble_eq_true rfl) rfl (fun ls hl => ?_)
      refine lv_aload_n hx hb dc_X_two_19 rfl (lv_at hl 1 rfl) ?_
      refine va_get (D := (dC, dI)) (ci := 1) (v := .int size9) (C := "FourWords") (T := tb_X) (N := 6) hx hb hts (hu _ um_X) hown hK hP 0 rfl rfl 5 (by decide) (hq mw_t45) (fun _ h9 => h9) rfl dc_X_two_20 ?_
      refine lv_iconst (v := 1) hx hb dc_X_two_23 (by decide) ?_
      refine lv_isub hx hb dc_X_two_24 ?_
      refine lv_topi (fun v25 e25 => ?_)
      have hw := hw v25 e25
      refine lv_istore_n (lv' := [(3, .int v25), (2, .int v18), (0, .ref h0), (1, .int a1)]) hx hb dc_X_two_25 rfl hl (Nat.le_of_ble_eq_true rfl) rfl (fun ls hl => ?_)
      refine lv_aload_n hx hb dc_X_two_26 rfl (lv_at hl 2 rfl) ?_
      refine lv_iload_n hx hb dc_X_two_27 rfl (lv_at hl 1 rfl) ?_
      refine lv_iload_n hx hb dc_X_two_28 rfl (lv_at hl 0 rfl) ?_
      refine gc_v (S := (Nat → Int64) × (Nat → Int64) × (Nat → Int32) × (Nat → Int32) × (Nat → Int32) × Int32 × Int32) (w1 := (fun u => (wd_X h0 qO qU qW qG qN qL cJ cI cZ cB u.1 u.2.1 u.2.2.1 u.2.2.2.1 u.2.2.2.2.1 u.2.2.2.2.2.1 u.2.2.2.2.2.2))) (wc := (wd_X h0 qO qU qW qG qN qL cJ cI cZ cB fO9 fU9 fW9 fG9 fL9 len9 size9)) (wr := ([] : va_W)) (va_runV (As := [.int v18, .int v25]) (rest := []) ⟨hx, hb, hml, hown, hts⟩ (kt_X_bringTogether l dC dI cJ cI cZ cB h0 qO qU qW qG qN qL _ v18 v25 fO9 fU9 fW9 fG9 fL9 len9 size9 _ hw) ⟨callB_of 2 hts (gw_in mw_t189) rfl rfl rfl (hq mw_t1) (hq mw_t186) (by decide +kernel) ⟨Nat.le_of_ble_eq_true rfl, Nat.le_of_ble_eq_true rfl⟩, hq mw_t188, hq mw_s5⟩ (pv_W (va_recv (q0 := 0) (ci := 1) hK hP rfl rfl) (hP.sub (ws' := (wd_X h0 qO qU qW qG qN qL cJ cI cZ cB fO9 fU9 fW9 fG9 fL9 len9 size9)) [0, 1, 2, 3, 4, 5, 6] rfl) hK (hD.sub (ws' := (wd_X h0 qO qU qW qG qN qL cJ cI cZ cB fO9 fU9 fW9 fG9 fL9 len9 size9)) [0, 1, 2, 3, 4, 5, 6] (by decide) rfl) hE) rfl rfl hl.1 rfl (lv_room (Nat.le_of_ble_eq_true rfl)) dc_X_two_29 ⟨Nat.le_of_ble_eq_true rfl, Nat.le_of_ble_eq_true rfl⟩) hP hD hS hA [0, 1, 2, 3, 4, 5, 6] [] rfl rfl (by decide) (by decide) (fun u H locs hw hP hD hS => ?_)
      obtain ⟨fO29, fU29, fW29, fG29, fL29, len29, size29⟩ := u
      have hP : va_P (dC, dI) cs_3 (wd_X h0 qO qU qW qG qN qL cJ cI cZ cB fO29 fU29 fW29 fG29 fL29 len29 size29) H := hP.sub (ws' := (wd_X h0 qO qU qW qG qN qL cJ cI cZ cB fO29 fU29 fW29 fG29 fL29 len29 size29)) [0, 1, 2, 3, 4, 5, 6] rfl
      have hD : va_D A (wd_X h0 qO qU qW qG qN qL cJ cI cZ cB fO29 fU29 fW29 fG29 fL29 len29 size29) := hD.sub (ws' := (wd_X h0 qO qU qW qG qN qL cJ cI cZ cB fO29 fU29 fW29 fG29 fL29 len29 size29)) [0, 1, 2, 3, 4, 5, 6] (by decide) rfl
      try dsimp only at hw
      refine lv_iload_n hx hb dc_X_two_32 rfl (lv_at hl 3 rfl) ?_
      refine lv_iconst (v := 4) hx hb dc_X_two_33 (by decide) ?_
      obtain ⟨hw1, hw2⟩ := hw
      refine lv_icmp_gt (tgt := 47) hx hb dc_X_two_34 (by decide) (fun hc => ?_) (fun hc => ?_)
      · have hw := hw1 hc
        clear hw1 hw2
        refine lv_iload_n hx hb dc_X_two_47 rfl (lv_at hl 3 rfl) ?_
        refine lv_bipush (v := 8) hx hb dc_X_two_48 (by decide) ?_
        obtain ⟨hw1, hw2⟩ := hw
        refine lv_icmp_gt (tgt := 63) hx hb dc_X_two_50 (by decide) (fun hc => ?_) (fun hc => ?_)
        · have hw := hw1 hc
          clear hw1 hw2
          refine lv_aload_n hx hb dc_X_two_63 rfl (lv_at hl 2 rfl) ?_
          refine lv_iload_n hx hb dc_X_two_64 rfl (lv_at hl 1 rfl) ?_
          refine lv_aload_n hx hb dc_X_two_65 rfl (lv_at hl 2 rfl) ?_
          refine lv_iload_n hx hb dc_X_two_66 rfl (lv_at hl 3 rfl) ?_
          refine lv_iload_n hx hb dc_X_two_67 rfl (lv_at hl 1 rfl) ?_
          refine lv_iload_n hx hb dc_X_two_68 rfl (lv_at hl 0 rfl) ?_
          refine gc_i (S := (Nat → Int64) × (Nat → Int64) × (Nat → Int32) × (Nat → Int32) × (Nat → Int32) × Int32 × Int32) (w1 := (fun u => (wd_X h0 qO qU qW qG qN qL cJ cI cZ cB u.1 u.2.1 u.2.2.1 u.2.2.2.1 u.2.2.2.2.1 u.2.2.2.2.2.1 u.2.2.2.2.2.2))) (wc := (wd_X h0 qO qU qW qG qN qL cJ cI cZ cB fO29 fU29 fW29 fG29 fL29 len29 size29)) (wr := ([] : va_W)) (va_runV (As := [.int a1, .int v18, .int v25]) (rest := [.int v18, .ref h0]) ⟨hx, hb, hml, hown, hts⟩ (kt_X_compared l dC dI cJ cI cZ cB h0 qO qU qW qG qN qL _ a1 v18 v25 fO29 fU29 fW29 fG29 fL29 len29 size29 _ hw) ⟨callB_of 3 hts (gw_in mw_t239) rfl rfl rfl (hq mw_t1) (hq mw_t236) (by decide +kernel) ⟨Nat.le_of_ble_eq_true rfl, Nat.le_of_ble_eq_true rfl⟩, hq mw_t238, hq mw_s14⟩ (pv_W (va_recv (q0 := 0) (ci := 1) hK hP rfl rfl) (hP.sub (ws' := (wd_X h0 qO qU qW qG qN qL cJ cI cZ cB fO29 fU29 fW29 fG29 fL29 len29 size29)) [0, 1, 2, 3, 4, 5, 6] rfl) hK (hD.sub (ws' := (wd_X h0 qO qU qW qG qN qL cJ cI cZ cB fO29 fU29 fW29 fG29 fL29 len29 size29)) [0, 1, 2, 3, 4, 5, 6] (by decide) rfl) hE) rfl rfl hl.1 rfl (lv_room (Nat.le_of_ble_eq_true rfl)) dc_X_two_69 ⟨Nat.le_of_ble_eq_true rfl, Nat.le_of_ble_eq_true rfl⟩) hP hD hS hA [0, 1, 2, 3, 4, 5, 6] [] rfl rfl (by decide) (by decide) (fun r69 u H locs hw hP hD hS => ?_)
          obtain ⟨fO69, fU69, fW69, fG69, fL69, len69, size69⟩ := u
          have hP : va_P (dC, dI) cs_3 (wd_X h0 qO qU qW qG qN qL cJ cI cZ cB fO69 fU69 fW69 fG69 fL69 len69 size69) H := hP.sub (ws' := (wd_X h0 qO qU qW qG qN qL cJ cI cZ cB fO69 fU69 fW69 fG69 fL69 len69 size69)) [0, 1, 2, 3, 4, 5, 6] rfl
          have hD : va_D A (wd_X h0 qO qU qW qG qN qL cJ cI cZ cB fO69 fU69 fW69 fG69 fL69 len69 size69) := hD.sub (ws' := (wd_X h0 qO qU qW qG qN qL cJ cI cZ cB fO69 fU69 fW69 fG69 fL69 len69 size69)) [0, 1, 2, 3, 4, 5, 6] (by decide) rfl
          try dsimp only at hw
          refine gc_v (S := (Nat → Int64) × (Nat → Int64) × (Nat → Int32) × (Nat → Int32) × (Nat → Int32) × Int32 × Int32) (w1 := (fun u => (wd_X h0 qO qU qW qG qN qL cJ cI cZ cB u.1 u.2.1 u.2.2.1 u.2.2.2.1 u.2.2.2.2.1 u.2.2.2.2.2.1 u.2.2.2.2.2.2))) (wc := (wd_X h0 qO qU qW qG qN qL cJ cI cZ cB fO69 fU69 fW69 fG69 fL69 len69 size69)) (wr := ([] : va_W)) (va_runV (As := [.int v18, .int r69]) (rest := []) ⟨hx, hb, hml, hown, hts⟩ (kt_X_setTruth l dC dI cJ cI cZ cB h0 qO qU qW qG qN qL _ v18 r69 fO69 fU69 fW69 fG69 fL69 len69 size69 _ hw) ⟨callB_of 2 hts (gw_in mw_t266) rfl rfl rfl (hq mw_t1) (hq mw_t263) (by decide +kernel) ⟨Nat.le_of_ble_eq_true rfl, Nat.le_of_ble_eq_true rfl⟩, hq mw_t265, hq mw_s19⟩ (pv_W (va_recv (q0 := 0) (ci := 1) hK hP rfl rfl) (hP.sub (ws' := (wd_X h0 qO qU qW qG qN qL cJ cI cZ cB fO69 fU69 fW69 fG69 fL69 len69 size69)) [0, 1, 2, 3, 4, 5, 6] rfl) hK (hD.sub (ws' := (wd_X h0 qO qU qW qG qN qL cJ cI cZ cB fO69 fU69 fW69 fG69 fL69 len69 size69)) [0, 1, 2, 3, 4, 5, 6] (by decide) rfl) hE) rfl rfl hl.1 rfl (lv_room (Nat.le_of_ble_eq_true rfl)) dc_X_two_72 ⟨Nat.le_of_ble_eq_true rfl, Nat.le_of_ble_eq_true rfl⟩) hP hD hS hA [0, 1, 2, 3, 4, 5, 6] [] rfl rfl (by decide) (by decide) (fun u H locs hw hP hD hS => ?_)
          obtain ⟨fO72, fU72, fW72, fG72, fL72, len72, size72⟩ := u
          have hP : va_P (dC, dI) cs_3 (wd_X h0 qO qU qW qG qN qL cJ cI cZ cB fO72 fU72 fW72 fG72 fL72 len72 size72) H := hP.sub (ws' := (wd_X h0 qO qU qW qG qN qL cJ cI cZ cB fO72 fU72 fW72 fG72 fL72 len72 size72)) [0, 1, 2, 3, 4, 5, 6] rfl
          have hD : va_D A (wd_X h0 qO qU qW qG qN qL cJ cI cZ cB fO72 fU72 fW72 fG72 fL72 len72 size72) := hD.sub (ws' := (wd_X h0 qO qU qW qG qN qL cJ cI cZ cB fO72 fU72 fW72 fG72 fL72 len72 size72)) [0, 1, 2, 3, 4, 5, 6] (by decide) rfl
          try dsimp only at hw
          exact B_75 _ _ _ fO72 fU72 fW72 fG72 fL72 len72 size72 hw hP hD hS (lv_sub hl [2] rfl)
        · have hw := hw2 hc
          clear hw1 hw2
          refine lv_aload_n hx hb dc_X_two_53 rfl (lv_at hl 2 rfl) ?_
          refine lv_iload_n hx hb dc_X_two_54 rfl (lv_at hl 3 rfl) ?_
          refine lv_iload_n hx hb dc_X_two_55 rfl (lv_at hl 1 rfl) ?_
          refine lv_iload_n hx hb dc_X_two_56 rfl (lv_at hl 0 rfl) ?_
          refine gc_v (S := (Nat → Int64) × (Nat → Int64) × (Nat → Int32) × (Nat → Int32) × (Nat → Int32) × Int32 × Int32) (w1 := (fun u => (wd_X h0 qO qU qW qG qN qL cJ cI cZ cB u.1 u.2.1 u.2.2.1 u.2.2.2.1 u.2.2.2.2.1 u.2.2.2.2.2.1 u.2.2.2.2.2.2))) (wc := (wd_X h0 qO qU qW qG qN qL cJ cI cZ cB fO29 fU29 fW29 fG29 fL29 len29 size29)) (wr := ([] : va_W)) (va_runV (As := [.int a1, .int v18, .int v25]) (rest := []) ⟨hx, hb, hml, hown, hts⟩ (kt_X_combine l dC dI cJ cI cZ cB h0 qO qU qW qG qN qL _ a1 v18 v25 fO29 fU29 fW29 fG29 fL29 len29 size29 _ hw) ⟨callB_of 3 hts (gw_in mw_t223) rfl rfl rfl (hq mw_t1) (hq mw_t220) (by decide +kernel) ⟨Nat.le_of_ble_eq_true rfl, Nat.le_of_ble_eq_true rfl⟩, hq mw_t222, hq mw_s10⟩ (pv_W (va_recv (q0 := 0) (ci := 1) hK hP rfl rfl) (hP.sub (ws' := (wd_X h0 qO qU qW qG qN qL cJ cI cZ cB fO29 fU29 fW29 fG29 fL29 len29 size29)) [0, 1, 2, 3, 4, 5, 6] rfl) hK (hD.sub (ws' := (wd_X h0 qO qU qW qG qN qL cJ cI cZ cB fO29 fU29 fW29 fG29 fL29 len29 size29)) [0, 1, 2, 3, 4, 5, 6] (by decide) rfl) hE) rfl rfl hl.1 rfl (lv_room (Nat.le_of_ble_eq_true rfl)) dc_X_two_57 ⟨Nat.le_of_ble_eq_true rfl, Nat.le_of_ble_eq_true rfl⟩) hP hD hS hA [0, 1, 2, 3, 4, 5, 6] [] rfl rfl (by decide) (by decide) (fun u H locs hw hP hD hS => ?_)
          obtain ⟨fO57, fU57, fW57, fG57, fL57, len57, size57⟩ := u
          have hP : va_P (dC, dI) cs_3 (wd_X h0 qO qU qW qG qN qL cJ cI cZ cB fO57 fU57 fW57 fG57 fL57 len57 size57) H := hP.sub (ws' := (wd_X h0 qO qU qW qG qN qL cJ cI cZ cB fO57 fU57 fW57 fG57 fL57 len57 size57)) [0, 1, 2, 3, 4, 5, 6] rfl
          have hD : va_D A (wd_X h0 qO qU qW qG qN qL cJ cI cZ cB fO57 fU57 fW57 fG57 fL57 len57 size57) := hD.sub (ws' := (wd_X h0 qO qU qW qG qN qL cJ cI cZ cB fO57 fU57 fW57 fG57 fL57 len57 size57)) [0, 1, 2, 3, 4, 5, 6] (by decide) rfl
          try dsimp only at hw
          refine lv_goto (tgt := 75) hx hb dc_X_two_60 (by decide) ?_
          exact B_75 _ _ _ fO57 fU57 fW57 fG57 fL57 len57 size57 hw hP hD hS (lv_sub hl [2] rfl)
      · have hw := hw2 hc
        clear hw1 hw2
        refine lv_aload_n hx hb dc_X_two_37 rfl (lv_at hl 2 rfl) ?_
        refine lv_iload_n hx hb dc_X_two_38 rfl (lv_at hl 3 rfl) ?_
        refine lv_iload_n hx hb dc_X_two_39 rfl (lv_at hl 1 rfl) ?_
        refine lv_iload_n hx hb dc_X_two_40 rfl (lv_at hl 0 rfl) ?_
        refine gc_v (S := (Nat → Int64) × (Nat → Int64) × (Nat → Int32) × (Nat → Int32) × (Nat → Int32) × Int32 × Int32) (w1 := (fun u => (wd_X h0 qO qU qW qG qN qL cJ cI cZ cB u.1 u.2.1 u.2.2.1 u.2.2.2.1 u.2.2.2.2.1 u.2.2.2.2.2.1 u.2.2.2.2.2.2))) (wc := (wd_X h0 qO qU qW qG qN qL cJ cI cZ cB fO29 fU29 fW29 fG29 fL29 len29 size29)) (wr := ([] : va_W)) (va_runV (As := [.int a1, .int v18, .int v25]) (rest := []) ⟨hx, hb, hml, hown, hts⟩ (kt_X_reckon l dC dI cJ cI cZ cB h0 qO qU qW qG qN qL _ a1 v18 v25 fO29 fU29 fW29 fG29 fL29 len29 size29 _ hw) ⟨callB_of 3 hts (gw_in mw_t203) rfl rfl rfl (hq mw_t1) (hq mw_t200) (by decide +kernel) ⟨Nat.le_of_ble_eq_true rfl, Nat.le_of_ble_eq_true rfl⟩, hq mw_t202, hq mw_s7⟩ (pv_W (va_recv (q0 := 0) (ci := 1) hK hP rfl rfl) (hP.sub (ws' := (wd_X h0 qO qU qW qG qN qL cJ cI cZ cB fO29 fU29 fW29 fG29 fL29 len29 size29)) [0, 1, 2, 3, 4, 5, 6] rfl) hK (hD.sub (ws' := (wd_X h0 qO qU qW qG qN qL cJ cI cZ cB fO29 fU29 fW29 fG29 fL29 len29 size29)) [0, 1, 2, 3, 4, 5, 6] (by decide) rfl) hE) rfl rfl hl.1 rfl (lv_room (Nat.le_of_ble_eq_true rfl)) dc_X_two_41 ⟨Nat.le_of_ble_eq_true rfl, Nat.le_of_ble_eq_true rfl⟩) hP hD hS hA [0, 1, 2, 3, 4, 5, 6] [] rfl rfl (by decide) (by decide) (fun u H locs hw hP hD hS => ?_)
        obtain ⟨fO41, fU41, fW41, fG41, fL41, len41, size41⟩ := u
        have hP : va_P (dC, dI) cs_3 (wd_X h0 qO qU qW qG qN qL cJ cI cZ cB fO41 fU41 fW41 fG41 fL41 len41 size41) H := hP.sub (ws' := (wd_X h0 qO qU qW qG qN qL cJ cI cZ cB fO41 fU41 fW41 fG41 fL41 len41 size41)) [0, 1, 2, 3, 4, 5, 6] rfl
        have hD : va_D A (wd_X h0 qO qU qW qG qN qL cJ cI cZ cB fO41 fU41 fW41 fG41 fL41 len41 size41) := hD.sub (ws' := (wd_X h0 qO qU qW qG qN qL cJ cI cZ cB fO41 fU41 fW41 fG41 fL41 len41 size41)) [0, 1, 2, 3, 4, 5, 6] (by decide) rfl
        try dsimp only at hw
        refine lv_goto (tgt := 75) hx hb dc_X_two_44 (by decide) ?_
        exact B_75 _ _ _ fO41 fU41 fW41 fG41 fL41 len41 size41 hw hP hD hS (lv_sub hl [2] rfl)
    · exact gx_T (E0 := "java/lang/IllegalStateException") (u := (fO, fU, fW, fG, fL, len, size)) (wc := (wd_X h0 qO qU qW qG qN qL cJ cI cZ cB fO fU fW fG fL len size)) (wr := ([] : va_W)) (vx_runV (As := [.int (2 : Int32)]) (rest := []) ⟨hx, hb, hml, hown, hts⟩ (kt_X_demandValues_t l hlt dC dI cJ cI cZ cB h0 qO qU qW qG qN qL _ (2 : Int32) fO fU fW fG fL len size hw) ⟨callB_of 1 hts (gw_in mw_t184) rfl rfl rfl (hq mw_t1) (hq mw_t181) (by decide +kernel) ⟨Nat.le_of_ble_eq_true rfl, Nat.le_of_ble_eq_true rfl⟩, hq mw_t183, hq mw_s4⟩ (pq_W (va_recv (q0 := 0) (ci := 1) hK hP rfl rfl) (hP.sub (ws' := (wd_X h0 qO qU qW qG qN qL cJ cI cZ cB fO fU fW fG fL len size)) [0, 1, 2, 3, 4, 5, 6] rfl) hK (hD.sub (ws' := (wd_X h0 qO qU qW qG qN qL cJ cI cZ cB fO fU fW fG fL len size)) [0, 1, 2, 3, 4, 5, 6] (by decide) rfl) hE (zz_W hZ hS (va_free (wc := (wd_X h0 qO qU qW qG qN qL cJ cI cZ cB fO fU fW fG fL len size)) hD hS hA [0, 1, 2, 3, 4, 5, 6] rfl))) rfl rfl hl.1 rfl (lv_room (Nat.le_of_ble_eq_true rfl)) dc_X_two_9 ⟨Nat.le_of_ble_eq_true rfl, Nat.le_of_ble_eq_true rfl⟩) hP hK hD hS hA [0, 1, 2, 3, 4, 5, 6] [] rfl rfl (by decide) (by decide) [0, 1, 2, 3, 4, 5, 6] rfl rfl (by decide) htab hlocks hpx rfl
  · exact gx_T (E0 := "java/lang/IllegalArgumentException") (u := (fO, fU, fW, fG, fL, len, size)) (wc := ([] : va_W)) (wr := ([(h0, .inr (1, [.ref qO, .ref qU, .ref qW, .ref qG, .ref qN, .int size])), (qO, .inl (cJ, 64, .inr (.inl fO))), (qU, .inl (cJ, 64, .inr (.inl fU))), (qW, .inl (cI, 64, .inl fW)), (qG, .inl (cZ, 64, .inl fG)), (qN, .inr (0, [.ref qL, .int len])), (qL, .inl (cB, 64, .inl fL))] : va_W)) (vx_runS (As := [.int a1, .int (0 : Int32), .int (18 : Int32)]) (rest := []) ⟨hx, hb, hml, hown, hts⟩ (kt_X_demandRange_t l hlt dC dI cJ cI cZ cB _ a1 (0 : Int32) (18 : Int32) hw) ⟨callB_of 3 hts (gw_in mw_t74) rfl rfl rfl (hq mw_t1) (hq mw_t72) (by decide +kernel) ⟨Nat.le_of_ble_eq_true rfl, Nat.le_of_ble_eq_true rfl⟩, hq mw_t73⟩ (pz_W (hP.sub (ws' := ([] : va_W)) [] rfl) hK (hD.sub (ws' := ([] : va_W)) [] (by decide) rfl) hE (zz_W hZ hS (va_free (wc := ([] : va_W)) hD hS hA [] rfl))) rfl rfl hl.1 rfl (lv_room (Nat.le_of_ble_eq_true rfl)) dc_X_two_4 ⟨Nat.le_of_ble_eq_true rfl, Nat.le_of_ble_eq_true rfl⟩) hP hK hD hS hA [] [0, 1, 2, 3, 4, 5, 6] rfl rfl (by decide) (by decide) [0, 1, 2, 3, 4, 5, 6] rfl rfl (by decide) htab hlocks hpx rfl
set_option maxHeartbeats 4000000 in
set_option maxRecDepth 100000 in
theorem kt_X_shift (l : Launch) (hlt : l.stackTraces = false) (dC : Nat → ClassId) (dI : Nat → Nat → Nat) (cJ cI cZ cB : ClassId) (h0 qO qU qW qG qN qL : Nat) (sz : Nat) (a1 : Int32) (fO : (Nat → Int64)) (fU : (Nat → Int64)) (fW : (Nat → Int32)) (fG : (Nat → Int32)) (fL : (Nat → Int32)) (len : Int32) (size : Int32) (post : (Nat → Int64) → (Nat → Int64) → (Nat → Int32) → (Nat → Int32) → (Nat → Int32) → Int32 → Int32 → Prop) (px : String → (Nat → Int64) → (Nat → Int64) → (Nat → Int32) → (Nat → Int32) → (Nat → Int32) → Int32 → Int32 → Prop) (hw : wp_X_shift post px a1 fO fU fW fG fL len size) : vx_Met l yn_X_shift ws_X_shift rm_X_shift (va_Pc [.ref h0, .int a1] (pc_Z (dC, dI) (ty_4 cJ cI cZ cB) (wd_X h0 qO qU qW qG qN qL cJ cI cZ cB fO fU fW fG fL len size) sz)) (qv_X dC dI cJ cI cZ cB h0 qO qU qW qG qN qL post (va_A (wd_X h0 qO qU qW qG qN qL cJ cI cZ cB fO fU fW fG fL len size) sz)) (qx_X dC dI cJ cI cZ cB h0 qO qU qW qG qN qL px (va_A (wd_X h0 qO qU qW qG qN qL cJ cI cZ cB fO fU fW fG fL len size) sz)) 1 6 (va_A (wd_X h0 qO qU qW qG qN qL cJ cI cZ cB fO fU fW fG fL len size) sz) := by
  refine vx_ofW (cc := cd_X_shift) (maxL := 4) (ret := none) (by decide) rfl ?_
  intro p e s m args below meth c s₁ B hml htab hv
  obtain ⟨rfl, ⟨hsz, hP, hK, hD0, hE⟩, hZ⟩ := hv
  have hx := B.exec
  have hb := B.bytes
  have hr := B.returns
  have hts := atoms_spec (ws := ws_X_shift) B.pre
  have hq : ∀ {w : Cond}, w ∈ wg_all → w.before ([.ref h0, .int a1] : List Value).toArray s = true := fun h => hts _ (List.mem_cons_of_mem _ h)
  have hu : ∀ L : List Cond, (∀ w ∈ L, w ∈ wg_all) → ∀ w ∈ L, w ∈ ws_X_shift := fun L h w hw => List.mem_cons_of_mem _ (h w hw)
  have hown : s.vm.findClass "FourWords" = some m.cls := findClass_of_methodNamed B.named
  have hlocks := B.notSynchronized
  subst hsz
  have hD := hD0.self (sz := s.heap.size)
  generalize hAe : va_A (wd_X h0 qO qU qW qG qN qL cJ cI cZ cB fO fU fW fG fL len size) s.heap.size = A at hD hZ ⊢
  have hA : ∀ q : Nat, s.heap.size ≤ q → A q := fun q h => by rw [← hAe]; exact Or.inr h
  have hS : va_S A s.heap s.heap [] := va_S.rf
  have hl := lv_entry [.ref h0, .int a1] (n := 4) (Nat.le_of_ble_eq_true rfl)
  rw [lg_entry_eq]
  generalize (lg_sl [.ref h0, .int a1] ++ List.replicate (4 - (lg_sl [.ref h0, .int a1]).length) Slot.unset).toArray = ls at hl ⊢
  have hl : lv_has ls 4 [(0, .ref h0), (1, .int a1)] := hl
  have B_98 : ∀ (H : Heap) (locs : List Loc) (ls : Array Slot) (fO : (Nat → Int64)) (fU : (Nat → Int64)) (fW : (Nat → Int32)) (fG : (Nat → Int32)) (fL : (Nat → Int32)) (len : Int32) (size : Int32), wp_X_shift_98 post px fO fU fW fG fL len size → va_P (dC, dI) cs_3 (wd_X h0 qO qU qW qG qN qL cJ cI cZ cB fO fU fW fG fL len size) H → va_D A (wd_X h0 qO qU qW qG qN qL cJ cI cZ cB fO fU fW fG fL len size) → va_S A s.heap H locs → lv_has ls 4 [(0, .ref h0)] → W p l e (headSpec ws_X_shift rm_X_shift).room s m ([.ref h0, .int a1] : List Value).toArray below meth c H locs 0 0 (vx_MQ below (qv_X dC dI cJ cI cZ cB h0 qO qU qW qG qN qL post A) (qx_X dC dI cJ cI cZ cB h0 qO qU qW qG qN qL px A) ([.ref h0, .int a1] : List Value).toArray s 1 6 A) (F0 m 98 ls []) := by
    intro H locs ls fO fU fW fG fL len size hw hP hD hS hl
    unfold wp_X_shift_98 at hw
    refine lv_aload_n hx hb dc_X_shift_98 rfl (lv_at hl 0 rfl) ?_
    refine lv_dup hx hb dc_X_shift_99 rfl ?_
    refine va_get (D := (dC, dI)) (ci := 1) (v := .int size) (C := "FourWords") (T := tb_X) (N := 6) hx hb hts (hu _ um_X) hown hK hP 0 rfl rfl 5 (by decide) (hq mw_t45) (fun _ h9 => h9) rfl dc_X_shift_100 ?_
    refine lv_iconst (v := 1) hx hb dc_X_shift_103 (by decide) ?_
    refine lv_isub hx hb dc_X_shift_104 ?_
    refine va_put (D := (dC, dI)) (ci := 1) (v := .int (size - (1 : Int32))) (ty := .int) (C := "FourWords") (T := tb_X) (N := 6) hx hb hts (hu _ um_X) ft_X fk_X fn_X hown hK hP hD hS 0 rfl rfl 5 (by decide) (hq mw_t45) (fun _ h9 => h9) rfl (by decide +kernel) rfl rfl (Nat.le_of_ble_eq_true rfl) dc_X_shift_105 (fun H locs hP hD hS => ?_)
    have hP : va_P (dC, dI) cs_3 (wd_X h0 qO qU qW qG qN qL cJ cI cZ cB fO fU fW fG fL len (size - (1 : Int32))) H := hP
    have hD : va_D A (wd_X h0 qO qU qW qG qN qL cJ cI cZ cB fO fU fW fG fL len (size - (1 : Int32))) := hD
    refine W.widen (k := 1) (n := 6) (Nat.zero_le _) (Nat.zero_le _) ?_
    exact vx_ret (W.vret hx hb hr (fun t ht hW => ⟨⟨(fO, fU, fW, fG, fL, len, size - (1 : Int32)), rfl, hw, by rw [ht]; exact hP, va_K.moved hW.alike hK, hD⟩, hS.F ht⟩) hS.2.2 dc_X_shift_108)
  have B_81 : ∀ (H : Heap) (locs : List Loc) (ls : Array Slot) (t0 : Int32) (t1 : Int64) (t2 : Int32) (fO : (Nat → Int64)) (fU : (Nat → Int64)) (fW : (Nat → Int32)) (fG : (Nat → Int32)) (fL : (Nat → Int32)) (len : Int32) (size : Int32), wp_X_shift_81 post px t0 t1 t2 fO fU fW fG fL len size → va_P (dC, dI) cs_3 (wd_X h0 qO qU qW qG qN qL cJ cI cZ cB fO fU fW fG fL len size) H → va_D A (wd_X h0 qO qU qW qG qN qL cJ cI cZ cB fO fU fW fG fL len size) → va_S A s.heap H locs → lv_has ls 4 [(0, .ref h0)] → W p l e (headSpec ws_X_shift rm_X_shift).room s m ([.ref h0, .int a1] : List Value).toArray below meth c H locs 0 0 (vx_MQ below (qv_X dC dI cJ cI cZ cB h0 qO qU qW qG qN qL post A) (qx_X dC dI cJ cI cZ cB h0 qO qU qW qG qN qL px A) ([.ref h0, .int a1] : List Value).toArray s 1 6 A) (F0 m 81 ls [.int t0, .long t1, .int t2, .ref h0]) := by
    intro H locs ls t0 t1 t2 fO fU fW fG fL len size hw hP hD hS hl
    unfold wp_X_shift_81 at hw
    refine gc_v (S := (Nat → Int64) × (Nat → Int64) × (Nat → Int32) × (Nat → Int32) × (Nat → Int32) × Int32 × Int32) (w1 := (fun u => (wd_X h0 qO qU qW qG qN qL cJ cI cZ cB u.1 u.2.1 u.2.2.1 u.2.2.2.1 u.2.2.2.2.1 u.2.2.2.2.2.1 u.2.2.2.2.2.2))) (wc := (wd_X h0 qO qU qW qG qN qL cJ cI cZ cB fO fU fW fG fL len size)) (wr := ([] : va_W)) (va_runV (As := [.int t2, .long t1, .int t0]) (rest := []) ⟨hx, hb, hml, hown, hts⟩ (kt_X_moveRight l dC dI cJ cI cZ cB h0 qO qU qW qG qN qL _ t2 t1 t0 fO fU fW fG fL len size _ hw) ⟨callB_of 3 hts (gw_in mw_t277) rfl rfl rfl (hq mw_t1) (hq mw_t274) (by decide +kernel) ⟨Nat.le_of_ble_eq_true rfl, Nat.le_of_ble_eq_true rfl⟩, hq mw_t276, hq mw_s20⟩ (pv_W (va_recv (q0 := 0) (ci := 1) hK hP rfl rfl) (hP.sub (ws' := (wd_X h0 qO qU qW qG qN qL cJ cI cZ cB fO fU fW fG fL len size)) [0, 1, 2, 3, 4, 5, 6] rfl) hK (hD.sub (ws' := (wd_X h0 qO qU qW qG qN qL cJ cI cZ cB fO fU fW fG fL len size)) [0, 1, 2, 3, 4, 5, 6] (by decide) rfl) hE) rfl rfl hl.1 rfl (lv_room (Nat.le_of_ble_eq_true rfl)) dc_X_shift_81 ⟨Nat.le_of_ble_eq_true rfl, Nat.le_of_ble_eq_true rfl⟩) hP hD hS hA [0, 1, 2, 3, 4, 5, 6] [] rfl rfl (by decide) (by decide) (fun u H locs hw hP hD hS => ?_)
    obtain ⟨fO81, fU81, fW81, fG81, fL81, len81, size81⟩ := u
    have hP : va_P (dC, dI) cs_3 (wd_X h0 qO qU qW qG qN qL cJ cI cZ cB fO81 fU81 fW81 fG81 fL81 len81 size81) H := hP.sub (ws' := (wd_X h0 qO qU qW qG qN qL cJ cI cZ cB fO81 fU81 fW81 fG81 fL81 len81 size81)) [0, 1, 2, 3, 4, 5, 6] rfl
    have hD : va_D A (wd_X h0 qO qU qW qG qN qL cJ cI cZ cB fO81 fU81 fW81 fG81 fL81 len81 size81) := hD.sub (ws' := (wd_X h0 qO qU qW qG qN qL cJ cI cZ cB fO81 fU81 fW81 fG81 fL81 len81 size81)) [0, 1, 2, 3, 4, 5, 6] (by decide) rfl
    try dsimp only at hw
    refine lv_goto (tgt := 98) hx hb dc_X_shift_84 (by decide) ?_
    exact B_98 _ _ _ fO81 fU81 fW81 fG81 fL81 len81 size81 hw hP hD hS (lv_sub hl [0] rfl)
  have B_80 : ∀ (H : Heap) (locs : List Loc) (ls : Array Slot) (t0 : Int64) (t1 : Int32) (fO : (Nat → Int64)) (fU : (Nat → Int64)) (fW : (Nat → Int32)) (fG : (Nat → Int32)) (fL : (Nat → Int32)) (len : Int32) (size : Int32), wp_X_shift_80 post px t0 t1 fO fU fW fG fL len size → va_P (dC, dI) cs_3 (wd_X h0 qO qU qW qG qN qL cJ cI cZ cB fO fU fW fG fL len size) H → va_D A (wd_X h0 qO qU qW qG qN qL cJ cI cZ cB fO fU fW fG fL len size) → va_S A s.heap H locs → lv_has ls 4 [(0, .ref h0)] → W p l e (headSpec ws_X_shift rm_X_shift).room s m ([.ref h0, .int a1] : List Value).toArray below meth c H locs 0 0 (vx_MQ below (qv_X dC dI cJ cI cZ cB h0 qO qU qW qG qN qL post A) (qx_X dC dI cJ cI cZ cB h0 qO qU qW qG qN qL px A) ([.ref h0, .int a1] : List Value).toArray s 1 6 A) (F0 m 80 ls [.long t0, .int t1, .ref h0]) := by
    intro H locs ls t0 t1 fO fU fW fG fL len size hw hP hD hS hl
    unfold wp_X_shift_80 at hw
    refine lv_iconst (v := 0) hx hb dc_X_shift_80 (by decide) ?_
    exact B_81 _ _ _ (0 : Int32) t0 t1 fO fU fW fG fL len size hw hP hD hS (lv_sub hl [0] rfl)
  have B_54 : ∀ (H : Heap) (locs : List Loc) (ls : Array Slot) (x1 : Int32) (x2 : Int32) (x3 : Int32) (fO : (Nat → Int64)) (fU : (Nat → Int64)) (fW : (Nat → Int32)) (fG : (Nat → Int32)) (fL : (Nat → Int32)) (len : Int32) (size : Int32), wp_X_shift_54 post px x1 x2 x3 fO fU fW fG fL len size → va_P (dC, dI) cs_3 (wd_X h0 qO qU qW qG qN qL cJ cI cZ cB fO fU fW fG fL len size) H → va_D A (wd_X h0 qO qU qW qG qN qL cJ cI cZ cB fO fU fW fG fL len size) → va_S A s.heap H locs → lv_has ls 4 [(0, .ref h0), (1, .int x1), (2, .int x2), (3, .int x3)] → W p l e (headSpec ws_X_shift rm_X_shift).room s m ([.ref h0, .int a1] : List Value).toArray below meth c H locs 0 0 (vx_MQ below (qv_X dC dI cJ cI cZ cB h0 qO qU qW qG qN qL post A) (qx_X dC dI cJ cI cZ cB h0 qO qU qW qG qN qL px A) ([.ref h0, .int a1] : List Value).toArray s 1 6 A) (F0 m 54 ls []) := by
    intro H locs ls x1 x2 x3 fO fU fW fG fL len size hw hP hD hS hl
    unfold wp_X_shift_54 at hw
    refine lv_aload_n hx hb dc_X_shift_54 rfl (lv_at hl 0 rfl) ?_
    refine lv_iload_n hx hb dc_X_shift_55 rfl (lv_at hl 2 rfl) ?_
    refine lv_aload_n hx hb dc_X_shift_56 rfl (lv_at hl 0 rfl) ?_
    refine va_get (D := (dC, dI)) (ci := 1) (v := .ref qO) (C := "FourWords") (T := tb_X) (N := 6) hx hb hts (hu _ um_X) hown hK hP 0 rfl rfl 0 (by decide) (hq mw_t40) (fun _ h9 => h9) rfl dc_X_shift_57 ?_
    refine lv_iload_n hx hb dc_X_shift_60 rfl (lv_at hl 3 rfl) ?_
    obtain ⟨hin, hw⟩ := hw
    refine va_lald hx hb hK hP 1 0 rfl rfl hin dc_X_shift_61 ?_
    refine lv_iload_n hx hb dc_X_shift_62 rfl (lv_at hl 1 rfl) ?_
    refine lv_iconst (v := 3) hx hb dc_X_shift_63 (by decide) ?_
    obtain ⟨hw1, hw2⟩ := hw
    refine lv_icmp_ne (tgt := 80) hx hb dc_X_shift_64 (by decide) (fun hc => ?_) (fun hc => ?_)
    · have hw := hw1 hc
      clear hw1 hw2
      exact B_80 _ _ _ (fO x3.toNatClampNeg) x2 fO fU fW fG fL len size hw hP hD hS (lv_sub hl [0] rfl)
    · have hw := hw2 (fun h9 => h9 hc)
      clear hw1 hw2
      refine lv_aload_n hx hb dc_X_shift_67 rfl (lv_at hl 0 rfl) ?_
      refine va_get (D := (dC, dI)) (ci := 1) (v := .ref qG) (C := "FourWords") (T := tb_X) (N := 6) hx hb hts (hu _ um_X) hown hK hP 0 rfl rfl 3 (by decide) (hq mw_t43) (fun _ h9 => h9) rfl dc_X_shift_68 ?_
      refine lv_iload_n hx hb dc_X_shift_71 rfl (lv_at hl 2 rfl) ?_
      obtain ⟨hin, hw⟩ := hw
      refine va_zald hx hb hK hP 4 2 rfl rfl hin dc_X_shift_72 ?_
      obtain ⟨hw1, hw2⟩ := hw
      refine lv_if_eq (tgt := 80) hx hb dc_X_shift_73 (by decide) (fun hc => ?_) (fun hc => ?_)
      · have hw := hw1 hc
        clear hw1 hw2
        exact B_80 _ _ _ (fO x3.toNatClampNeg) x2 fO fU fW fG fL len size hw hP hD hS (lv_sub hl [0] rfl)
      · have hw := hw2 hc
        clear hw1 hw2
        refine lv_iconst (v := 1) hx hb dc_X_shift_76 (by decide) ?_
        refine lv_goto (tgt := 81) hx hb dc_X_shift_77 (by decide) ?_
        exact B_81 _ _ _ (1 : Int32) (fO x3.toNatClampNeg) x2 fO fU fW fG fL len size hw hP hD hS (lv_sub hl [0] rfl)
  unfold wp_X_shift at hw
  refine lv_iload_n hx hb dc_X_shift_0 rfl (lv_at hl 1 rfl) ?_
  refine lv_iconst (v := 0) hx hb dc_X_shift_1 (by decide) ?_
  refine lv_iconst (v := 3) hx hb dc_X_shift_2 (by decide) ?_
  rcases hw with hw | ⟨hw, hpx⟩
  · refine gc_v (S := Unit) (w1 := (fun u => ([] : va_W))) (wc := ([] : va_W)) (wr := ([(h0, .inr (1, [.ref qO, .ref qU, .ref qW, .ref qG, .ref qN, .int size])), (qO, .inl (cJ, 64, .inr (.inl fO))), (qU, .inl (cJ, 64, .inr (.inl fU))), (qW, .inl (cI, 64, .inl fW)), (qG, .inl (cZ, 64, .inl fG)), (qN, .inr (0, [.ref qL, .int len])), (qL, .inl (cB, 64, .inl fL))] : va_W)) (va_runS (As := [.int a1, .int (0 : Int32), .int (3 : Int32)]) (rest := []) ⟨hx, hb, hml, hown, hts⟩ (kt_X_demandRange_k l dC dI cJ cI cZ cB _ a1 (0 : Int32) (3 : Int32) _ hw) ⟨callB_of 3 hts (gw_in mw_t74) rfl rfl rfl (hq mw_t1) (hq mw_t72) (by decide +kernel) ⟨Nat.le_of_ble_eq_true rfl, Nat.le_of_ble_eq_true rfl⟩, hq mw_t73⟩ (ps_W (hP.sub (ws' := ([] : va_W)) [] rfl) hK (hD.sub (ws' := ([] : va_W)) [] (by decide) rfl) hE) rfl rfl hl.1 rfl (lv_room (Nat.le_of_ble_eq_true rfl)) dc_X_shift_3 ⟨Nat.le_of_ble_eq_true rfl, Nat.le_of_ble_eq_true rfl⟩) hP hD hS hA [] [0, 1, 2, 3, 4, 5, 6] rfl rfl (by decide) (by decide) (fun u H locs hw hP hD hS => ?_)
    have hP : va_P (dC, dI) cs_3 (wd_X h0 qO qU qW qG qN qL cJ cI cZ cB fO fU fW fG fL len size) H := hP.sub (ws' := (wd_X h0 qO qU qW qG qN qL cJ cI cZ cB fO fU fW fG fL len size)) [0, 1, 2, 3, 4, 5, 6] rfl
    have hD : va_D A (wd_X h0 qO qU qW qG qN qL cJ cI cZ cB fO fU fW fG fL len size) := hD.sub (ws' := (wd_X h0 qO qU qW qG qN qL cJ cI cZ cB fO fU fW fG fL len size)) [0, 1, 2, 3, 4, 5, 6] (by decide) rfl
    try dsimp only at hw
    refine lv_aload_n hx hb dc_X_shift_6 rfl (lv_at hl 0 rfl) ?_
    refine lv_iconst (v := 2) hx hb dc_X_shift_7 (by decide) ?_
    rcases hw with hw | ⟨hw, hpx⟩
    · refine gc_v (S := (Nat → Int64) × (Nat → Int64) × (Nat → Int32) × (Nat → Int32) × (Nat → Int32) × Int32 × Int32) (w1 := (fun u => (wd_X h0 qO qU qW qG qN qL cJ cI cZ cB u.1 u.2.1 u.2.2.1 u.2.2.2.1 u.2.2.2.2.1 u.2.2.2.2.2.1 u.2.2.2.2.2.2))) (wc := (wd_X h0 qO qU qW qG qN qL cJ cI cZ cB fO fU fW fG fL len size)) (wr := ([] : va_W)) (va_runV (As := [.int (2 : Int32)]) (rest := []) ⟨hx, hb, hml, hown, hts⟩ (kt_X_demandValues_k l dC dI cJ cI cZ cB h0 qO qU qW qG qN qL _ (2 : Int32) fO fU fW fG fL len size _ hw) ⟨callB_of 1 hts (gw_in mw_t184) rfl rfl rfl (hq mw_t1) (hq mw_t181) (by decide +kernel) ⟨Nat.le_of_ble_eq_true rfl, Nat.le_of_ble_eq_true rfl⟩, hq mw_t183, hq mw_s4⟩ (pv_W (va_recv (q0 := 0) (ci := 1) hK hP rfl rfl) (hP.sub (ws' := (wd_X h0 qO qU qW qG qN qL cJ cI cZ cB fO fU fW fG fL len size)) [0, 1, 2, 3, 4, 5, 6] rfl) hK (hD.sub (ws' := (wd_X h0 qO qU qW qG qN qL cJ cI cZ cB fO fU fW fG fL len size)) [0, 1, 2, 3, 4, 5, 6] (by decide) rfl) hE) rfl rfl hl.1 rfl (lv_room (Nat.le_of_ble_eq_true rfl)) dc_X_shift_8 ⟨Nat.le_of_ble_eq_true rfl, Nat.le_of_ble_eq_true rfl⟩) hP hD hS hA [0, 1, 2, 3, 4, 5, 6] [] rfl rfl (by decide) (by decide) (fun u H locs hw hP hD hS => ?_)
      obtain ⟨fO8, fU8, fW8, fG8, fL8, len8, size8⟩ := u
      have hP : va_P (dC, dI) cs_3 (wd_X h0 qO qU qW qG qN qL cJ cI cZ cB fO8 fU8 fW8 fG8 fL8 len8 size8) H := hP.sub (ws' := (wd_X h0 qO qU qW qG qN qL cJ cI cZ cB fO8 fU8 fW8 fG8 fL8 len8 size8)) [0, 1, 2, 3, 4, 5, 6] rfl
      have hD : va_D A (wd_X h0 qO qU qW qG qN qL cJ cI cZ cB fO8 fU8 fW8 fG8 fL8 len8 size8) := hD.sub (ws' := (wd_X h0 qO qU qW qG qN qL cJ cI cZ cB fO8 fU8 fW8 fG8 fL8 len8 size8)) [0, 1, 2, 3, 4, 5, 6] (by decide) rfl
      try dsimp only at hw
      refine lv_aload_n hx hb dc_X_shift_11 rfl (lv_at hl 0 rfl) ?_
      refine va_get (D := (dC, dI)) (ci := 1) (v := .int size8) (C := "FourWords") (T := tb_X) (N := 6) hx hb hts (hu _ um_X) hown hK hP 0 rfl rfl 5 (by decide) (hq mw_t45) (fun _ h9 => h9) rfl dc_X_shift_12 ?_
      refine lv_iconst (v := 2) hx hb dc_X_shift_15 (by decide) ?_
      refine lv_isub hx hb dc_X_shift_16 ?_
      refine lv_topi (fun v17 e17 => ?_)
      have hw := hw v17 e17
      refine lv_istore_n (lv' := [(2, .int v17), (0, .ref h0), (1, .int a1)]) hx hb dc_X_shift_17 rfl hl (Nat.le_of_ble_eq_true rfl) rfl (fun ls hl => ?_)
      refine lv_aload_n hx hb dc_X_shift_18 rfl (lv_at hl 1 rfl) ?_
      refine va_get (D := (dC, dI)) (ci := 1) (v := .int size8) (C := "FourWords") (T := tb_X) (N := 6) hx hb hts (hu _ um_X) hown hK hP 0 rfl rfl 5 (by decide) (hq mw_t45) (fun _ h9 => h9) rfl dc_X_shift_19 ?_
      refine lv_iconst (v := 1) hx hb dc_X_shift_22 (by decide) ?_
      refine lv_isub hx hb dc_X_shift_23 ?_
      refine lv_topi (fun v24 e24 => ?_)
      have hw := hw v24 e24
      refine lv_istore_n (lv' := [(3, .int v24), (2, .int v17), (0, .ref h0), (1, .int a1)]) hx hb dc_X_shift_24 rfl hl (Nat.le_of_ble_eq_true rfl) rfl (fun ls hl => ?_)
      refine lv_aload_n hx hb dc_X_shift_25 rfl (lv_at hl 2 rfl) ?_
      refine va_get (D := (dC, dI)) (ci := 1) (v := .ref qU) (C := "FourWords") (T := tb_X) (N := 6) hx hb hts (hu _ um_X) hown hK hP 0 rfl rfl 1 (by decide) (hq mw_t41) (fun _ h9 => h9) rfl dc_X_shift_26 ?_
      refine lv_iload_n hx hb dc_X_shift_29 rfl (lv_at hl 0 rfl) ?_
      obtain ⟨hin, hw⟩ := hw
      refine va_lald hx hb hK hP 2 0 rfl rfl hin dc_X_shift_30 ?_
      refine lv_lconst (v := 0) hx hb dc_X_shift_31 (by decide) ?_
      refine W.lcmp hx hb dc_X_shift_32 ?_
      obtain ⟨hw1, hw2⟩ := hw
      refine lv_if_eq (tgt := 44) hx hb dc_X_shift_33 (by decide) (fun hc => ?_) (fun hc => ?_)
      · have hw := hw1 hc
        clear hw1 hw2
        refine lv_iload_n hx hb dc_X_shift_44 rfl (lv_at hl 3 rfl) ?_
        refine lv_iconst (v := 1) hx hb dc_X_shift_45 (by decide) ?_
        obtain ⟨hw1, hw2⟩ := hw
        refine lv_icmp_eq (tgt := 54) hx hb dc_X_shift_46 (by decide) (fun hc => ?_) (fun hc => ?_)
        · have hw := hw1 hc
          clear hw1 hw2
          exact B_54 _ _ _ a1 v17 v24 fO8 fU8 fW8 fG8 fL8 len8 size8 hw hP hD hS (lv_sub hl [2, 3, 1, 0] rfl)
        · have hw := hw2 hc
          clear hw1 hw2
          refine lv_iload_n hx hb dc_X_shift_49 rfl (lv_at hl 3 rfl) ?_
          refine lv_iconst (v := 3) hx hb dc_X_shift_50 (by decide) ?_
          obtain ⟨hw1, hw2⟩ := hw
          refine lv_icmp_ne (tgt := 87) hx hb dc_X_shift_51 (by decide) (fun hc => ?_) (fun hc => ?_)
          · have hw := hw1 hc
            clear hw1 hw2
            refine lv_aload_n hx hb dc_X_shift_87 rfl (lv_at hl 2 rfl) ?_
            refine lv_iload_n hx hb dc_X_shift_88 rfl (lv_at hl 1 rfl) ?_
            refine lv_aload_n hx hb dc_X_shift_89 rfl (lv_at hl 2 rfl) ?_
            refine va_get (D := (dC, dI)) (ci := 1) (v := .ref qO) (C := "FourWords") (T := tb_X) (N := 6) hx hb hts (hu _ um_X) hown hK hP 0 rfl rfl 0 (by decide) (hq mw_t40) (fun _ h9 => h9) rfl dc_X_shift_90 ?_
            refine lv_iload_n hx hb dc_X_shift_93 rfl (lv_at hl 0 rfl) ?_
            obtain ⟨hin, hw⟩ := hw
            refine va_lald hx hb hK hP 1 0 rfl rfl hin dc_X_shift_94 ?_
            refine gc_v (S := (Nat → Int64) × (Nat → Int64) × (Nat → Int32) × (Nat → Int32) × (Nat → Int32) × Int32 × Int32) (w1 := (fun u => (wd_X h0 qO qU qW qG qN qL cJ cI cZ cB u.1 u.2.1 u.2.2.1 u.2.2.2.1 u.2.2.2.2.1 u.2.2.2.2.2.1 u.2.2.2.2.2.2))) (wc := (wd_X h0 qO qU qW qG qN qL cJ cI cZ cB fO8 fU8 fW8 fG8 fL8 len8 size8)) (wr := ([] : va_W)) (va_runV (As := [.int v17, .long (fO8 v24.toNatClampNeg)]) (rest := []) ⟨hx, hb, hml, hown, hts⟩ (kt_X_moveLeft l dC dI cJ cI cZ cB h0 qO qU qW qG qN qL _ v17 (fO8 v24.toNatClampNeg) fO8 fU8 fW8 fG8 fL8 len8 size8 _ hw) ⟨callB_of 2 hts (gw_in mw_t282) rfl rfl rfl (hq mw_t1) (hq mw_t279) (by decide +kernel) ⟨Nat.le_of_ble_eq_true rfl, Nat.le_of_ble_eq_true rfl⟩, hq mw_t281, hq mw_s21⟩ (pv_W (va_recv (q0 := 0) (ci := 1) hK hP rfl rfl) (hP.sub (ws' := (wd_X h0 qO qU qW qG qN qL cJ cI cZ cB fO8 fU8 fW8 fG8 fL8 len8 size8)) [0, 1, 2, 3, 4, 5, 6] rfl) hK (hD.sub (ws' := (wd_X h0 qO qU qW qG qN qL cJ cI cZ cB fO8 fU8 fW8 fG8 fL8 len8 size8)) [0, 1, 2, 3, 4, 5, 6] (by decide) rfl) hE) rfl rfl hl.1 rfl (lv_room (Nat.le_of_ble_eq_true rfl)) dc_X_shift_95 ⟨Nat.le_of_ble_eq_true rfl, Nat.le_of_ble_eq_true rfl⟩) hP hD hS hA [0, 1, 2, 3, 4, 5, 6] [] rfl rfl (by decide) (by decide) (fun u H locs hw hP hD hS => ?_)
            obtain ⟨fO95, fU95, fW95, fG95, fL95, len95, size95⟩ := u
            have hP : va_P (dC, dI) cs_3 (wd_X h0 qO qU qW qG qN qL cJ cI cZ cB fO95 fU95 fW95 fG95 fL95 len95 size95) H := hP.sub (ws' := (wd_X h0 qO qU qW qG qN qL cJ cI cZ cB fO95 fU95 fW95 fG95 fL95 len95 size95)) [0, 1, 2, 3, 4, 5, 6] rfl
            have hD : va_D A (wd_X h0 qO qU qW qG qN qL cJ cI cZ cB fO95 fU95 fW95 fG95 fL95 len95 size95) := hD.sub (ws' := (wd_X h0 qO qU qW qG qN qL cJ cI cZ cB fO95 fU95 fW95 fG95 fL95 len95 size95)) [0, 1, 2, 3, 4, 5, 6] (by decide) rfl
            try dsimp only at hw
            exact B_98 _ _ _ fO95 fU95 fW95 fG95 fL95 len95 size95 hw hP hD hS (lv_sub hl [2] rfl)
          · have hw := hw2 (fun h9 => h9 hc)
            clear hw1 hw2
            exact B_54 _ _ _ a1 v17 v24 fO8 fU8 fW8 fG8 fL8 len8 size8 hw hP hD hS (lv_sub hl [2, 3, 1, 0] rfl)
      · have hw := hw2 hc
        clear hw1 hw2
        refine lv_aload_n hx hb dc_X_shift_36 rfl (lv_at hl 2 rfl) ?_
        refine lv_iload_n hx hb dc_X_shift_37 rfl (lv_at hl 1 rfl) ?_
        refine gc_v (S := (Nat → Int64) × (Nat → Int64) × (Nat → Int32) × (Nat → Int32) × (Nat → Int32) × Int32 × Int32) (w1 := (fun u => (wd_X h0 qO qU qW qG qN qL cJ cI cZ cB u.1 u.2.1 u.2.2.1 u.2.2.2.1 u.2.2.2.2.1 u.2.2.2.2.2.1 u.2.2.2.2.2.2))) (wc := (wd_X h0 qO qU qW qG qN qL cJ cI cZ cB fO8 fU8 fW8 fG8 fL8 len8 size8)) (wr := ([] : va_W)) (va_runV (As := [.int v17]) (rest := []) ⟨hx, hb, hml, hown, hts⟩ (kt_X_fillWithX l dC dI cJ cI cZ cB h0 qO qU qW qG qN qL _ v17 fO8 fU8 fW8 fG8 fL8 len8 size8 _ hw) ⟨callB_of 1 hts (gw_in mw_t211) rfl rfl rfl (hq mw_t1) (hq mw_t208) (by decide +kernel) ⟨Nat.le_of_ble_eq_true rfl, Nat.le_of_ble_eq_true rfl⟩, hq mw_t210, hq mw_s9⟩ (pv_W (va_recv (q0 := 0) (ci := 1) hK hP rfl rfl) (hP.sub (ws' := (wd_X h0 qO qU qW qG qN qL cJ cI cZ cB fO8 fU8 fW8 fG8 fL8 len8 size8)) [0, 1, 2, 3, 4, 5, 6] rfl) hK (hD.sub (ws' := (wd_X h0 qO qU qW qG qN qL cJ cI cZ cB fO8 fU8 fW8 fG8 fL8 len8 size8)) [0, 1, 2, 3, 4, 5, 6] (by decide) rfl) hE) rfl rfl hl.1 rfl (lv_room (Nat.le_of_ble_eq_true rfl)) dc_X_shift_38 ⟨Nat.le_of_ble_eq_true rfl, Nat.le_of_ble_eq_true rfl⟩) hP hD hS hA [0, 1, 2, 3, 4, 5, 6] [] rfl rfl (by decide) (by decide) (fun u H locs hw hP hD hS => ?_)
        obtain ⟨fO38, fU38, fW38, fG38, fL38, len38, size38⟩ := u
        have hP : va_P (dC, dI) cs_3 (wd_X h0 qO qU qW qG qN qL cJ cI cZ cB fO38 fU38 fW38 fG38 fL38 len38 size38) H := hP.sub (ws' := (wd_X h0 qO qU qW qG qN qL cJ cI cZ cB fO38 fU38 fW38 fG38 fL38 len38 size38)) [0, 1, 2, 3, 4, 5, 6] rfl
        have hD : va_D A (wd_X h0 qO qU qW qG qN qL cJ cI cZ cB fO38 fU38 fW38 fG38 fL38 len38 size38) := hD.sub (ws' := (wd_X h0 qO qU qW qG qN qL cJ cI cZ cB fO38 fU38 fW38 fG38 fL38 len38 size38)) [0, 1, 2, 3, 4, 5, 6] (by decide) rfl
        try dsimp only at hw
        refine lv_goto (tgt := 98) hx hb dc_X_shift_41 (by decide) ?_
        exact B_98 _ _ _ fO38 fU38 fW38 fG38 fL38 len38 size38 hw hP hD hS (lv_sub hl [2] rfl)
    · exact gx_T (E0 := "java/lang/IllegalStateException") (u := (fO, fU, fW, fG, fL, len, size)) (wc := (wd_X h0 qO qU qW qG qN qL cJ cI cZ cB fO fU fW fG fL len size)) (wr := ([] : va_W)) (vx_runV (As := [.int (2 : Int32)]) (rest := []) ⟨hx, hb, hml, hown, hts⟩ (kt_X_demandValues_t l hlt dC dI cJ cI cZ cB h0 qO qU qW qG qN qL _ (2 : Int32) fO fU fW fG fL len size hw) ⟨callB_of 1 hts (gw_in mw_t184) rfl rfl rfl (hq mw_t1) (hq mw_t181) (by decide +kernel) ⟨Nat.le_of_ble_eq_true rfl, Nat.le_of_ble_eq_true rfl⟩, hq mw_t183, hq mw_s4⟩ (pq_W (va_recv (q0 := 0) (ci := 1) hK hP rfl rfl) (hP.sub (ws' := (wd_X h0 qO qU qW qG qN qL cJ cI cZ cB fO fU fW fG fL len size)) [0, 1, 2, 3, 4, 5, 6] rfl) hK (hD.sub (ws' := (wd_X h0 qO qU qW qG qN qL cJ cI cZ cB fO fU fW fG fL len size)) [0, 1, 2, 3, 4, 5, 6] (by decide) rfl) hE (zz_W hZ hS (va_free (wc := (wd_X h0 qO qU qW qG qN qL cJ cI cZ cB fO fU fW fG fL len size)) hD hS hA [0, 1, 2, 3, 4, 5, 6] rfl))) rfl rfl hl.1 rfl (lv_room (Nat.le_of_ble_eq_true rfl)) dc_X_shift_8 ⟨Nat.le_of_ble_eq_true rfl, Nat.le_of_ble_eq_true rfl⟩) hP hK hD hS hA [0, 1, 2, 3, 4, 5, 6] [] rfl rfl (by decide) (by decide) [0, 1, 2, 3, 4, 5, 6] rfl rfl (by decide) htab hlocks hpx rfl
  · exact gx_T (E0 := "java/lang/IllegalArgumentException") (u := (fO, fU, fW, fG, fL, len, size)) (wc := ([] : va_W)) (wr := ([(h0, .inr (1, [.ref qO, .ref qU, .ref qW, .ref qG, .ref qN, .int size])), (qO, .inl (cJ, 64, .inr (.inl fO))), (qU, .inl (cJ, 64, .inr (.inl fU))), (qW, .inl (cI, 64, .inl fW)), (qG, .inl (cZ, 64, .inl fG)), (qN, .inr (0, [.ref qL, .int len])), (qL, .inl (cB, 64, .inl fL))] : va_W)) (vx_runS (As := [.int a1, .int (0 : Int32), .int (3 : Int32)]) (rest := []) ⟨hx, hb, hml, hown, hts⟩ (kt_X_demandRange_t l hlt dC dI cJ cI cZ cB _ a1 (0 : Int32) (3 : Int32) hw) ⟨callB_of 3 hts (gw_in mw_t74) rfl rfl rfl (hq mw_t1) (hq mw_t72) (by decide +kernel) ⟨Nat.le_of_ble_eq_true rfl, Nat.le_of_ble_eq_true rfl⟩, hq mw_t73⟩ (pz_W (hP.sub (ws' := ([] : va_W)) [] rfl) hK (hD.sub (ws' := ([] : va_W)) [] (by decide) rfl) hE (zz_W hZ hS (va_free (wc := ([] : va_W)) hD hS hA [] rfl))) rfl rfl hl.1 rfl (lv_room (Nat.le_of_ble_eq_true rfl)) dc_X_shift_3 ⟨Nat.le_of_ble_eq_true rfl, Nat.le_of_ble_eq_true rfl⟩) hP hK hD hS hA [] [0, 1, 2, 3, 4, 5, 6] rfl rfl (by decide) (by decide) [0, 1, 2, 3, 4, 5, 6] rfl rfl (by decide) htab hlocks hpx rfl
set_option maxHeartbeats 4000000 in
set_option maxRecDepth 100000 in
theorem kt_X_one (l : Launch) (hlt : l.stackTraces = false) (dC : Nat → ClassId) (dI : Nat → Nat → Nat) (cJ cI cZ cB : ClassId) (h0 qO qU qW qG qN qL : Nat) (sz : Nat) (a1 : Int32) (fO : (Nat → Int64)) (fU : (Nat → Int64)) (fW : (Nat → Int32)) (fG : (Nat → Int32)) (fL : (Nat → Int32)) (len : Int32) (size : Int32) (post : (Nat → Int64) → (Nat → Int64) → (Nat → Int32) → (Nat → Int32) → (Nat → Int32) → Int32 → Int32 → Prop) (px : String → (Nat → Int64) → (Nat → Int64) → (Nat → Int32) → (Nat → Int32) → (Nat → Int32) → Int32 → Int32 → Prop) (hw : wp_X_one post px a1 fO fU fW fG fL len size) : vx_Met l yn_X_one ws_X_one rm_X_one (va_Pc [.ref h0, .int a1] (pc_Z (dC, dI) (ty_4 cJ cI cZ cB) (wd_X h0 qO qU qW qG qN qL cJ cI cZ cB fO fU fW fG fL len size) sz)) (qv_X dC dI cJ cI cZ cB h0 qO qU qW qG qN qL post (va_A (wd_X h0 qO qU qW qG qN qL cJ cI cZ cB fO fU fW fG fL len size) sz)) (qx_X dC dI cJ cI cZ cB h0 qO qU qW qG qN qL px (va_A (wd_X h0 qO qU qW qG qN qL cJ cI cZ cB fO fU fW fG fL len size) sz)) 1 6 (va_A (wd_X h0 qO qU qW qG qN qL cJ cI cZ cB fO fU fW fG fL len size) sz) := by
  refine vx_ofW (cc := cd_X_one) (maxL := 3) (ret := none) (by decide) rfl ?_
  intro p e s m args below meth c s₁ B hml htab hv
  obtain ⟨rfl, ⟨hsz, hP, hK, hD0, hE⟩, hZ⟩ := hv
  have hx := B.exec
  have hb := B.bytes
  have hr := B.returns
  have hts := atoms_spec (ws := ws_X_one) B.pre
  have hq : ∀ {w : Cond}, w ∈ wg_all → w.before ([.ref h0, .int a1] : List Value).toArray s = true := fun h => hts _ (List.mem_cons_of_mem _ h)
  have hu : ∀ L : List Cond, (∀ w ∈ L, w ∈ wg_all) → ∀ w ∈ L, w ∈ ws_X_one := fun L h w hw => List.mem_cons_of_mem _ (h w hw)
  have hown : s.vm.findClass "FourWords" = some m.cls := findClass_of_methodNamed B.named
  have hlocks := B.notSynchronized
  subst hsz
  have hD := hD0.self (sz := s.heap.size)
  generalize hAe : va_A (wd_X h0 qO qU qW qG qN qL cJ cI cZ cB fO fU fW fG fL len size) s.heap.size = A at hD hZ ⊢
  have hA : ∀ q : Nat, s.heap.size ≤ q → A q := fun q h => by rw [← hAe]; exact Or.inr h
  have hS : va_S A s.heap s.heap [] := va_S.rf
  have hl := lv_entry [.ref h0, .int a1] (n := 3) (Nat.le_of_ble_eq_true rfl)
  rw [lg_entry_eq]
  generalize (lg_sl [.ref h0, .int a1] ++ List.replicate (3 - (lg_sl [.ref h0, .int a1]).length) Slot.unset).toArray = ls at hl ⊢
  have hl : lv_has ls 3 [(0, .ref h0), (1, .int a1)] := hl
  have B_65 : ∀ (H : Heap) (locs : List Loc) (ls : Array Slot) (fO : (Nat → Int64)) (fU : (Nat → Int64)) (fW : (Nat → Int32)) (fG : (Nat → Int32)) (fL : (Nat → Int32)) (len : Int32) (size : Int32), wp_X_one_65 post px fO fU fW fG fL len size → va_P (dC, dI) cs_3 (wd_X h0 qO qU qW qG qN qL cJ cI cZ cB fO fU fW fG fL len size) H → va_D A (wd_X h0 qO qU qW qG qN qL cJ cI cZ cB fO fU fW fG fL len size) → va_S A s.heap H locs → lv_has ls 3 [] → W p l e (headSpec ws_X_one rm_X_one).room s m ([.ref h0, .int a1] : List Value).toArray below meth c H locs 0 0 (vx_MQ below (qv_X dC dI cJ cI cZ cB h0 qO qU qW qG qN qL post A) (qx_X dC dI cJ cI cZ cB h0 qO qU qW qG qN qL px A) ([.ref h0, .int a1] : List Value).toArray s 1 6 A) (F0 m 65 ls []) := by
    intro H locs ls fO fU fW fG fL len size hw hP hD hS hl
    unfold wp_X_one_65 at hw
    refine W.widen (k := 1) (n := 6) (Nat.zero_le _) (Nat.zero_le _) ?_
    exact vx_ret (W.vret hx hb hr (fun t ht hW => ⟨⟨(fO, fU, fW, fG, fL, len, size), rfl, hw, by rw [ht]; exact hP, va_K.moved hW.alike hK, hD⟩, hS.F ht⟩) hS.2.2 dc_X_one_65)
  unfold wp_X_one at hw
  refine lv_iload_n hx hb dc_X_one_0 rfl (lv_at hl 1 rfl) ?_
  refine lv_iconst (v := 0) hx hb dc_X_one_1 (by decide) ?_
  refine lv_bipush (v := 8) hx hb dc_X_one_2 (by decide) ?_
  rcases hw with hw | ⟨hw, hpx⟩
  · refine gc_v (S := Unit) (w1 := (fun u => ([] : va_W))) (wc := ([] : va_W)) (wr := ([(h0, .inr (1, [.ref qO, .ref qU, .ref qW, .ref qG, .ref qN, .int size])), (qO, .inl (cJ, 64, .inr (.inl fO))), (qU, .inl (cJ, 64, .inr (.inl fU))), (qW, .inl (cI, 64, .inl fW)), (qG, .inl (cZ, 64, .inl fG)), (qN, .inr (0, [.ref qL, .int len])), (qL, .inl (cB, 64, .inl fL))] : va_W)) (va_runS (As := [.int a1, .int (0 : Int32), .int (8 : Int32)]) (rest := []) ⟨hx, hb, hml, hown, hts⟩ (kt_X_demandRange_k l dC dI cJ cI cZ cB _ a1 (0 : Int32) (8 : Int32) _ hw) ⟨callB_of 3 hts (gw_in mw_t74) rfl rfl rfl (hq mw_t1) (hq mw_t72) (by decide +kernel) ⟨Nat.le_of_ble_eq_true rfl, Nat.le_of_ble_eq_true rfl⟩, hq mw_t73⟩ (ps_W (hP.sub (ws' := ([] : va_W)) [] rfl) hK (hD.sub (ws' := ([] : va_W)) [] (by decide) rfl) hE) rfl rfl hl.1 rfl (lv_room (Nat.le_of_ble_eq_true rfl)) dc_X_one_4 ⟨Nat.le_of_ble_eq_true rfl, Nat.le_of_ble_eq_true rfl⟩) hP hD hS hA [] [0, 1, 2, 3, 4, 5, 6] rfl rfl (by decide) (by decide) (fun u H locs hw hP hD hS => ?_)
    have hP : va_P (dC, dI) cs_3 (wd_X h0 qO qU qW qG qN qL cJ cI cZ cB fO fU fW fG fL len size) H := hP.sub (ws' := (wd_X h0 qO qU qW qG qN qL cJ cI cZ cB fO fU fW fG fL len size)) [0, 1, 2, 3, 4, 5, 6] rfl
    have hD : va_D A (wd_X h0 qO qU qW qG qN qL cJ cI cZ cB fO fU fW fG fL len size) := hD.sub (ws' := (wd_X h0 qO qU qW qG qN qL cJ cI cZ cB fO fU fW fG fL len size)) [0, 1, 2, 3, 4, 5, 6] (by decide) rfl
    try dsimp only at hw
    refine lv_aload_n hx hb dc_X_one_7 rfl (lv_at hl 0 rfl) ?_
    refine lv_iconst (v := 1) hx hb dc_X_one_8 (by decide) ?_
    rcases hw with hw | ⟨hw, hpx⟩
    · refine gc_v (S := (Nat → Int64) × (Nat → Int64) × (Nat → Int32) × (Nat → Int32) × (Nat → Int32) × Int32 × Int32) (w1 := (fun u => (wd_X h0 qO qU qW qG qN qL cJ cI cZ cB u.1 u.2.1 u.2.2.1 u.2.2.2.1 u.2.2.2.2.1 u.2.2.2.2.2.1 u.2.2.2.2.2.2))) (wc := (wd_X h0 qO qU qW qG qN qL cJ cI cZ cB fO fU fW fG fL len size)) (wr := ([] : va_W)) (va_runV (As := [.int (1 : Int32)]) (rest := []) ⟨hx, hb, hml, hown, hts⟩ (kt_X_demandValues_k l dC dI cJ cI cZ cB h0 qO qU qW qG qN qL _ (1 : Int32) fO fU fW fG fL len size _ hw) ⟨callB_of 1 hts (gw_in mw_t184) rfl rfl rfl (hq mw_t1) (hq mw_t181) (by decide +kernel) ⟨Nat.le_of_ble_eq_true rfl, Nat.le_of_ble_eq_true rfl⟩, hq mw_t183, hq mw_s4⟩ (pv_W (va_recv (q0 := 0) (ci := 1) hK hP rfl rfl) (hP.sub (ws' := (wd_X h0 qO qU qW qG qN qL cJ cI cZ cB fO fU fW fG fL len size)) [0, 1, 2, 3, 4, 5, 6] rfl) hK (hD.sub (ws' := (wd_X h0 qO qU qW qG qN qL cJ cI cZ cB fO fU fW fG fL len size)) [0, 1, 2, 3, 4, 5, 6] (by decide) rfl) hE) rfl rfl hl.1 rfl (lv_room (Nat.le_of_ble_eq_true rfl)) dc_X_one_9 ⟨Nat.le_of_ble_eq_true rfl, Nat.le_of_ble_eq_true rfl⟩) hP hD hS hA [0, 1, 2, 3, 4, 5, 6] [] rfl rfl (by decide) (by decide) (fun u H locs hw hP hD hS => ?_)
      obtain ⟨fO9, fU9, fW9, fG9, fL9, len9, size9⟩ := u
      have hP : va_P (dC, dI) cs_3 (wd_X h0 qO qU qW qG qN qL cJ cI cZ cB fO9 fU9 fW9 fG9 fL9 len9 size9) H := hP.sub (ws' := (wd_X h0 qO qU qW qG qN qL cJ cI cZ cB fO9 fU9 fW9 fG9 fL9 len9 size9)) [0, 1, 2, 3, 4, 5, 6] rfl
      have hD : va_D A (wd_X h0 qO qU qW qG qN qL cJ cI cZ cB fO9 fU9 fW9 fG9 fL9 len9 size9) := hD.sub (ws' := (wd_X h0 qO qU qW qG qN qL cJ cI cZ cB fO9 fU9 fW9 fG9 fL9 len9 size9)) [0, 1, 2, 3, 4, 5, 6] (by decide) rfl
      try dsimp only at hw
      refine lv_aload_n hx hb dc_X_one_12 rfl (lv_at hl 0 rfl) ?_
      refine va_get (D := (dC, dI)) (ci := 1) (v := .int size9) (C := "FourWords") (T := tb_X) (N := 6) hx hb hts (hu _ um_X) hown hK hP 0 rfl rfl 5 (by decide) (hq mw_t45) (fun _ h9 => h9) rfl dc_X_one_13 ?_
      refine lv_iconst (v := 1) hx hb dc_X_one_16 (by decide) ?_
      refine lv_isub hx hb dc_X_one_17 ?_
      refine lv_topi (fun v18 e18 => ?_)
      have hw := hw v18 e18
      refine lv_istore_n (lv' := [(2, .int v18), (0, .ref h0), (1, .int a1)]) hx hb dc_X_one_18 rfl hl (Nat.le_of_ble_eq_true rfl) rfl (fun ls hl => ?_)
      refine lv_iload_n hx hb dc_X_one_19 rfl (lv_at hl 2 rfl) ?_
      obtain ⟨hw1, hw2⟩ := hw
      refine lv_if_ne (tgt := 31) hx hb dc_X_one_20 (by decide) (fun hc => ?_) (fun hc => ?_)
      · have hw := hw1 hc
        clear hw1 hw2
        refine lv_iload_n hx hb dc_X_one_31 rfl (lv_at hl 2 rfl) ?_
        refine lv_iconst (v := 1) hx hb dc_X_one_32 (by decide) ?_
        obtain ⟨hw1, hw2⟩ := hw
        refine lv_icmp_ne (tgt := 54) hx hb dc_X_one_33 (by decide) (fun hc => ?_) (fun hc => ?_)
        · have hw := hw1 hc
          clear hw1 hw2
          refine lv_aload_n hx hb dc_X_one_54 rfl (lv_at hl 1 rfl) ?_
          refine lv_iload_n hx hb dc_X_one_55 rfl (lv_at hl 0 rfl) ?_
          refine lv_aload_n hx hb dc_X_one_56 rfl (lv_at hl 1 rfl) ?_
          refine lv_iload_n hx hb dc_X_one_57 rfl (lv_at hl 2 rfl) ?_
          refine lv_iload_n hx hb dc_X_one_58 rfl (lv_at hl 0 rfl) ?_
          refine gc_i (S := (Nat → Int64) × (Nat → Int64) × (Nat → Int32) × (Nat → Int32) × (Nat → Int32) × Int32 × Int32) (w1 := (fun u => (wd_X h0 qO qU qW qG qN qL cJ cI cZ cB u.1 u.2.1 u.2.2.1 u.2.2.2.1 u.2.2.2.2.1 u.2.2.2.2.2.1 u.2.2.2.2.2.2))) (wc := (wd_X h0 qO qU qW qG qN qL cJ cI cZ cB fO9 fU9 fW9 fG9 fL9 len9 size9)) (wr := ([] : va_W)) (va_runV (As := [.int a1, .int v18]) (rest := [.int v18, .ref h0]) ⟨hx, hb, hml, hown, hts⟩ (kt_X_reduced l dC dI cJ cI cZ cB h0 qO qU qW qG qN qL _ a1 v18 fO9 fU9 fW9 fG9 fL9 len9 size9 _ hw) ⟨callB_of 2 hts (gw_in mw_t297) rfl rfl rfl (hq mw_t1) (hq mw_t294) (by decide +kernel) ⟨Nat.le_of_ble_eq_true rfl, Nat.le_of_ble_eq_true rfl⟩, hq mw_t296, hq mw_s23⟩ (pv_W (va_recv (q0 := 0) (ci := 1) hK hP rfl rfl) (hP.sub (ws' := (wd_X h0 qO qU qW qG qN qL cJ cI cZ cB fO9 fU9 fW9 fG9 fL9 len9 size9)) [0, 1, 2, 3, 4, 5, 6] rfl) hK (hD.sub (ws' := (wd_X h0 qO qU qW qG qN qL cJ cI cZ cB fO9 fU9 fW9 fG9 fL9 len9 size9)) [0, 1, 2, 3, 4, 5, 6] (by decide) rfl) hE) rfl rfl hl.1 rfl (lv_room (Nat.le_of_ble_eq_true rfl)) dc_X_one_59 ⟨Nat.le_of_ble_eq_true rfl, Nat.le_of_ble_eq_true rfl⟩) hP hD hS hA [0, 1, 2, 3, 4, 5, 6] [] rfl rfl (by decide) (by decide) (fun r59 u H locs hw hP hD hS => ?_)
          obtain ⟨fO59, fU59, fW59, fG59, fL59, len59, size59⟩ := u
          have hP : va_P (dC, dI) cs_3 (wd_X h0 qO qU qW qG qN qL cJ cI cZ cB fO59 fU59 fW59 fG59 fL59 len59 size59) H := hP.sub (ws' := (wd_X h0 qO qU qW qG qN qL cJ cI cZ cB fO59 fU59 fW59 fG59 fL59 len59 size59)) [0, 1, 2, 3, 4, 5, 6] rfl
          have hD : va_D A (wd_X h0 qO qU qW qG qN qL cJ cI cZ cB fO59 fU59 fW59 fG59 fL59 len59 size59) := hD.sub (ws' := (wd_X h0 qO qU qW qG qN qL cJ cI cZ cB fO59 fU59 fW59 fG59 fL59 len59 size59)) [0, 1, 2, 3, 4, 5, 6] (by decide) rfl
          try dsimp only at hw
          refine gc_v (S := (Nat → Int64) × (Nat → Int64) × (Nat → Int32) × (Nat → Int32) × (Nat → Int32) × Int32 × Int32) (w1 := (fun u => (wd_X h0 qO qU qW qG qN qL cJ cI cZ cB u.1 u.2.1 u.2.2.1 u.2.2.2.1 u.2.2.2.2.1 u.2.2.2.2.2.1 u.2.2.2.2.2.2))) (wc := (wd_X h0 qO qU qW qG qN qL cJ cI cZ cB fO59 fU59 fW59 fG59 fL59 len59 size59)) (wr := ([] : va_W)) (va_runV (As := [.int v18, .int r59]) (rest := []) ⟨hx, hb, hml, hown, hts⟩ (kt_X_setTruth l dC dI cJ cI cZ cB h0 qO qU qW qG qN qL _ v18 r59 fO59 fU59 fW59 fG59 fL59 len59 size59 _ hw) ⟨callB_of 2 hts (gw_in mw_t266) rfl rfl rfl (hq mw_t1) (hq mw_t263) (by decide +kernel) ⟨Nat.le_of_ble_eq_true rfl, Nat.le_of_ble_eq_true rfl⟩, hq mw_t265, hq mw_s19⟩ (pv_W (va_recv (q0 := 0) (ci := 1) hK hP rfl rfl) (hP.sub (ws' := (wd_X h0 qO qU qW qG qN qL cJ cI cZ cB fO59 fU59 fW59 fG59 fL59 len59 size59)) [0, 1, 2, 3, 4, 5, 6] rfl) hK (hD.sub (ws' := (wd_X h0 qO qU qW qG qN qL cJ cI cZ cB fO59 fU59 fW59 fG59 fL59 len59 size59)) [0, 1, 2, 3, 4, 5, 6] (by decide) rfl) hE) rfl rfl hl.1 rfl (lv_room (Nat.le_of_ble_eq_true rfl)) dc_X_one_62 ⟨Nat.le_of_ble_eq_true rfl, Nat.le_of_ble_eq_true rfl⟩) hP hD hS hA [0, 1, 2, 3, 4, 5, 6] [] rfl rfl (by decide) (by decide) (fun u H locs hw hP hD hS => ?_)
          obtain ⟨fO62, fU62, fW62, fG62, fL62, len62, size62⟩ := u
          have hP : va_P (dC, dI) cs_3 (wd_X h0 qO qU qW qG qN qL cJ cI cZ cB fO62 fU62 fW62 fG62 fL62 len62 size62) H := hP.sub (ws' := (wd_X h0 qO qU qW qG qN qL cJ cI cZ cB fO62 fU62 fW62 fG62 fL62 len62 size62)) [0, 1, 2, 3, 4, 5, 6] rfl
          have hD : va_D A (wd_X h0 qO qU qW qG qN qL cJ cI cZ cB fO62 fU62 fW62 fG62 fL62 len62 size62) := hD.sub (ws' := (wd_X h0 qO qU qW qG qN qL cJ cI cZ cB fO62 fU62 fW62 fG62 fL62 len62 size62)) [0, 1, 2, 3, 4, 5, 6] (by decide) rfl
          try dsimp only at hw
          exact B_65 _ _ _ fO62 fU62 fW62 fG62 fL62 len62 size62 hw hP hD hS (lv_sub hl [] rfl)
        · have hw := hw2 (fun h9 => h9 hc)
          clear hw1 hw2
          refine lv_aload_n hx hb dc_X_one_36 rfl (lv_at hl 1 rfl) ?_
          refine lv_iload_n hx hb dc_X_one_37 rfl (lv_at hl 0 rfl) ?_
          refine lv_aload_n hx hb dc_X_one_38 rfl (lv_at hl 1 rfl) ?_
          refine lv_iload_n hx hb dc_X_one_39 rfl (lv_at hl 0 rfl) ?_
          refine gc_l (S := (Nat → Int64) × (Nat → Int64) × (Nat → Int32) × (Nat → Int32) × (Nat → Int32) × Int32 × Int32) (w1 := (fun u => (wd_X h0 qO qU qW qG qN qL cJ cI cZ cB u.1 u.2.1 u.2.2.1 u.2.2.2.1 u.2.2.2.2.1 u.2.2.2.2.2.1 u.2.2.2.2.2.2))) (wc := (wd_X h0 qO qU qW qG qN qL cJ cI cZ cB fO9 fU9 fW9 fG9 fL9 len9 size9)) (wr := ([] : va_W)) (va_runV (As := [.int v18]) (rest := [.int v18, .ref h0]) ⟨hx, hb, hml, hown, hts⟩ (kt_X_sureZeros l dC dI cJ cI cZ cB h0 qO qU qW qG qN qL _ v18 fO9 fU9 fW9 fG9 fL9 len9 size9 _ hw) ⟨callB_of 1 hts (gw_in mw_t231) rfl rfl rfl (hq mw_t1) (hq mw_t228) (by decide +kernel) ⟨Nat.le_of_ble_eq_true rfl, Nat.le_of_ble_eq_true rfl⟩, hq mw_t230, hq mw_s12⟩ (pv_W (va_recv (q0 := 0) (ci := 1) hK hP rfl rfl) (hP.sub (ws' := (wd_X h0 qO qU qW qG qN qL cJ cI cZ cB fO9 fU9 fW9 fG9 fL9 len9 size9)) [0, 1, 2, 3, 4, 5, 6] rfl) hK (hD.sub (ws' := (wd_X h0 qO qU qW qG qN qL cJ cI cZ cB fO9 fU9 fW9 fG9 fL9 len9 size9)) [0, 1, 2, 3, 4, 5, 6] (by decide) rfl) hE) rfl rfl hl.1 rfl (lv_room (Nat.le_of_ble_eq_true rfl)) dc_X_one_40 ⟨Nat.le_of_ble_eq_true rfl, Nat.le_of_ble_eq_true rfl⟩) hP hD hS hA [0, 1, 2, 3, 4, 5, 6] [] rfl rfl (by decide) (by decide) (fun r40 u H locs hw hP hD hS => ?_)
          obtain ⟨fO40, fU40, fW40, fG40, fL40, len40, size40⟩ := u
          have hP : va_P (dC, dI) cs_3 (wd_X h0 qO qU qW qG qN qL cJ cI cZ cB fO40 fU40 fW40 fG40 fL40 len40 size40) H := hP.sub (ws' := (wd_X h0 qO qU qW qG qN qL cJ cI cZ cB fO40 fU40 fW40 fG40 fL40 len40 size40)) [0, 1, 2, 3, 4, 5, 6] rfl
          have hD : va_D A (wd_X h0 qO qU qW qG qN qL cJ cI cZ cB fO40 fU40 fW40 fG40 fL40 len40 size40) := hD.sub (ws' := (wd_X h0 qO qU qW qG qN qL cJ cI cZ cB fO40 fU40 fW40 fG40 fL40 len40 size40)) [0, 1, 2, 3, 4, 5, 6] (by decide) rfl
          try dsimp only at hw
          refine lv_aload_n hx hb dc_X_one_43 rfl (lv_at hl 1 rfl) ?_
          refine lv_iload_n hx hb dc_X_one_44 rfl (lv_at hl 0 rfl) ?_
          refine gc_l (S := (Nat → Int64) × (Nat → Int64) × (Nat → Int32) × (Nat → Int32) × (Nat → Int32) × Int32 × Int32) (w1 := (fun u => (wd_X h0 qO qU qW qG qN qL cJ cI cZ cB u.1 u.2.1 u.2.2.1 u.2.2.2.1 u.2.2.2.2.1 u.2.2.2.2.2.1 u.2.2.2.2.2.2))) (wc := (wd_X h0 qO qU qW qG qN qL cJ cI cZ cB fO40 fU40 fW40 fG40 fL40 len40 size40)) (wr := ([] : va_W)) (va_runV (As := [.int v18]) (rest := [.long r40, .int v18, .ref h0]) ⟨hx, hb, hml, hown, hts⟩ (kt_X_sureOnes l dC dI cJ cI cZ cB h0 qO qU qW qG qN qL _ v18 fO40 fU40 fW40 fG40 fL40 len40 size40 _ hw) ⟨callB_of 1 hts (gw_in mw_t227) rfl rfl rfl (hq mw_t1) (hq mw_t224) (by decide +kernel) ⟨Nat.le_of_ble_eq_true rfl, Nat.le_of_ble_eq_true rfl⟩, hq mw_t226, hq mw_s11⟩ (pv_W (va_recv (q0 := 0) (ci := 1) hK hP rfl rfl) (hP.sub (ws' := (wd_X h0 qO qU qW qG qN qL cJ cI cZ cB fO40 fU40 fW40 fG40 fL40 len40 size40)) [0, 1, 2, 3, 4, 5, 6] rfl) hK (hD.sub (ws' := (wd_X h0 qO qU qW qG qN qL cJ cI cZ cB fO40 fU40 fW40 fG40 fL40 len40 size40)) [0, 1, 2, 3, 4, 5, 6] (by decide) rfl) hE) rfl rfl hl.1 rfl (lv_room (Nat.le_of_ble_eq_true rfl)) dc_X_one_45 ⟨Nat.le_of_ble_eq_true rfl, Nat.le_of_ble_eq_true rfl⟩) hP hD hS hA [0, 1, 2, 3, 4, 5, 6] [] rfl rfl (by decide) (by decide) (fun r45 u H locs hw hP hD hS => ?_)
          obtain ⟨fO45, fU45, fW45, fG45, fL45, len45, size45⟩ := u
          have hP : va_P (dC, dI) cs_3 (wd_X h0 qO qU qW qG qN qL cJ cI cZ cB fO45 fU45 fW45 fG45 fL45 len45 size45) H := hP.sub (ws' := (wd_X h0 qO qU qW qG qN qL cJ cI cZ cB fO45 fU45 fW45 fG45 fL45 len45 size45)) [0, 1, 2, 3, 4, 5, 6] rfl
          have hD : va_D A (wd_X h0 qO qU qW qG qN qL cJ cI cZ cB fO45 fU45 fW45 fG45 fL45 len45 size45) := hD.sub (ws' := (wd_X h0 qO qU qW qG qN qL cJ cI cZ cB fO45 fU45 fW45 fG45 fL45 len45 size45)) [0, 1, 2, 3, 4, 5, 6] (by decide) rfl
          try dsimp only at hw
          refine gc_v (S := (Nat → Int64) × (Nat → Int64) × (Nat → Int32) × (Nat → Int32) × (Nat → Int32) × Int32 × Int32) (w1 := (fun u => (wd_X h0 qO qU qW qG qN qL cJ cI cZ cB u.1 u.2.1 u.2.2.1 u.2.2.2.1 u.2.2.2.2.1 u.2.2.2.2.2.1 u.2.2.2.2.2.2))) (wc := (wd_X h0 qO qU qW qG qN qL cJ cI cZ cB fO45 fU45 fW45 fG45 fL45 len45 size45)) (wr := ([] : va_W)) (va_runV (As := [.int v18, .long r40, .long r45]) (rest := []) ⟨hx, hb, hml, hown, hts⟩ (kt_X_setSure l dC dI cJ cI cZ cB h0 qO qU qW qG qN qL _ v18 r40 r45 fO45 fU45 fW45 fG45 fL45 len45 size45 _ hw) ⟨callB_of 3 hts (gw_in mw_t235) rfl rfl rfl (hq mw_t1) (hq mw_t232) (by decide +kernel) ⟨Nat.le_of_ble_eq_true rfl, Nat.le_of_ble_eq_true rfl⟩, hq mw_t234, hq mw_s13⟩ (pv_W (va_recv (q0 := 0) (ci := 1) hK hP rfl rfl) (hP.sub (ws' := (wd_X h0 qO qU qW qG qN qL cJ cI cZ cB fO45 fU45 fW45 fG45 fL45 len45 size45)) [0, 1, 2, 3, 4, 5, 6] rfl) hK (hD.sub (ws' := (wd_X h0 qO qU qW qG qN qL cJ cI cZ cB fO45 fU45 fW45 fG45 fL45 len45 size45)) [0, 1, 2, 3, 4, 5, 6] (by decide) rfl) hE) rfl rfl hl.1 rfl (lv_room (Nat.le_of_ble_eq_true rfl)) dc_X_one_48 ⟨Nat.le_of_ble_eq_true rfl, Nat.le_of_ble_eq_true rfl⟩) hP hD hS hA [0, 1, 2, 3, 4, 5, 6] [] rfl rfl (by decide) (by decide) (fun u H locs hw hP hD hS => ?_)
          obtain ⟨fO48, fU48, fW48, fG48, fL48, len48, size48⟩ := u
          have hP : va_P (dC, dI) cs_3 (wd_X h0 qO qU qW qG qN qL cJ cI cZ cB fO48 fU48 fW48 fG48 fL48 len48 size48) H := hP.sub (ws' := (wd_X h0 qO qU qW qG qN qL cJ cI cZ cB fO48 fU48 fW48 fG48 fL48 len48 size48)) [0, 1, 2, 3, 4, 5, 6] rfl
          have hD : va_D A (wd_X h0 qO qU qW qG qN qL cJ cI cZ cB fO48 fU48 fW48 fG48 fL48 len48 size48) := hD.sub (ws' := (wd_X h0 qO qU qW qG qN qL cJ cI cZ cB fO48 fU48 fW48 fG48 fL48 len48 size48)) [0, 1, 2, 3, 4, 5, 6] (by decide) rfl
          try dsimp only at hw
          refine lv_goto (tgt := 65) hx hb dc_X_one_51 (by decide) ?_
          exact B_65 _ _ _ fO48 fU48 fW48 fG48 fL48 len48 size48 hw hP hD hS (lv_sub hl [] rfl)
      · have hw := hw2 (fun h9 => h9 hc)
        clear hw1 hw2
        refine lv_aload_n hx hb dc_X_one_23 rfl (lv_at hl 1 rfl) ?_
        refine lv_iload_n hx hb dc_X_one_24 rfl (lv_at hl 0 rfl) ?_
        refine gc_v (S := (Nat → Int64) × (Nat → Int64) × (Nat → Int32) × (Nat → Int32) × (Nat → Int32) × Int32 × Int32) (w1 := (fun u => (wd_X h0 qO qU qW qG qN qL cJ cI cZ cB u.1 u.2.1 u.2.2.1 u.2.2.2.1 u.2.2.2.2.1 u.2.2.2.2.2.1 u.2.2.2.2.2.2))) (wc := (wd_X h0 qO qU qW qG qN qL cJ cI cZ cB fO9 fU9 fW9 fG9 fL9 len9 size9)) (wr := ([] : va_W)) (va_runV (As := [.int v18]) (rest := []) ⟨hx, hb, hml, hown, hts⟩ (kt_X_negate l dC dI cJ cI cZ cB h0 qO qU qW qG qN qL _ v18 fO9 fU9 fW9 fG9 fL9 len9 size9 _ hw) ⟨callB_of 1 hts (gw_in mw_t293) rfl rfl rfl (hq mw_t1) (hq mw_t290) (by decide +kernel) ⟨Nat.le_of_ble_eq_true rfl, Nat.le_of_ble_eq_true rfl⟩, hq mw_t292, hq mw_s22⟩ (pv_W (va_recv (q0 := 0) (ci := 1) hK hP rfl rfl) (hP.sub (ws' := (wd_X h0 qO qU qW qG qN qL cJ cI cZ cB fO9 fU9 fW9 fG9 fL9 len9 size9)) [0, 1, 2, 3, 4, 5, 6] rfl) hK (hD.sub (ws' := (wd_X h0 qO qU qW qG qN qL cJ cI cZ cB fO9 fU9 fW9 fG9 fL9 len9 size9)) [0, 1, 2, 3, 4, 5, 6] (by decide) rfl) hE) rfl rfl hl.1 rfl (lv_room (Nat.le_of_ble_eq_true rfl)) dc_X_one_25 ⟨Nat.le_of_ble_eq_true rfl, Nat.le_of_ble_eq_true rfl⟩) hP hD hS hA [0, 1, 2, 3, 4, 5, 6] [] rfl rfl (by decide) (by decide) (fun u H locs hw hP hD hS => ?_)
        obtain ⟨fO25, fU25, fW25, fG25, fL25, len25, size25⟩ := u
        have hP : va_P (dC, dI) cs_3 (wd_X h0 qO qU qW qG qN qL cJ cI cZ cB fO25 fU25 fW25 fG25 fL25 len25 size25) H := hP.sub (ws' := (wd_X h0 qO qU qW qG qN qL cJ cI cZ cB fO25 fU25 fW25 fG25 fL25 len25 size25)) [0, 1, 2, 3, 4, 5, 6] rfl
        have hD : va_D A (wd_X h0 qO qU qW qG qN qL cJ cI cZ cB fO25 fU25 fW25 fG25 fL25 len25 size25) := hD.sub (ws' := (wd_X h0 qO qU qW qG qN qL cJ cI cZ cB fO25 fU25 fW25 fG25 fL25 len25 size25)) [0, 1, 2, 3, 4, 5, 6] (by decide) rfl
        try dsimp only at hw
        refine lv_goto (tgt := 65) hx hb dc_X_one_28 (by decide) ?_
        exact B_65 _ _ _ fO25 fU25 fW25 fG25 fL25 len25 size25 hw hP hD hS (lv_sub hl [] rfl)
    · exact gx_T (E0 := "java/lang/IllegalStateException") (u := (fO, fU, fW, fG, fL, len, size)) (wc := (wd_X h0 qO qU qW qG qN qL cJ cI cZ cB fO fU fW fG fL len size)) (wr := ([] : va_W)) (vx_runV (As := [.int (1 : Int32)]) (rest := []) ⟨hx, hb, hml, hown, hts⟩ (kt_X_demandValues_t l hlt dC dI cJ cI cZ cB h0 qO qU qW qG qN qL _ (1 : Int32) fO fU fW fG fL len size hw) ⟨callB_of 1 hts (gw_in mw_t184) rfl rfl rfl (hq mw_t1) (hq mw_t181) (by decide +kernel) ⟨Nat.le_of_ble_eq_true rfl, Nat.le_of_ble_eq_true rfl⟩, hq mw_t183, hq mw_s4⟩ (pq_W (va_recv (q0 := 0) (ci := 1) hK hP rfl rfl) (hP.sub (ws' := (wd_X h0 qO qU qW qG qN qL cJ cI cZ cB fO fU fW fG fL len size)) [0, 1, 2, 3, 4, 5, 6] rfl) hK (hD.sub (ws' := (wd_X h0 qO qU qW qG qN qL cJ cI cZ cB fO fU fW fG fL len size)) [0, 1, 2, 3, 4, 5, 6] (by decide) rfl) hE (zz_W hZ hS (va_free (wc := (wd_X h0 qO qU qW qG qN qL cJ cI cZ cB fO fU fW fG fL len size)) hD hS hA [0, 1, 2, 3, 4, 5, 6] rfl))) rfl rfl hl.1 rfl (lv_room (Nat.le_of_ble_eq_true rfl)) dc_X_one_9 ⟨Nat.le_of_ble_eq_true rfl, Nat.le_of_ble_eq_true rfl⟩) hP hK hD hS hA [0, 1, 2, 3, 4, 5, 6] [] rfl rfl (by decide) (by decide) [0, 1, 2, 3, 4, 5, 6] rfl rfl (by decide) htab hlocks hpx rfl
  · exact gx_T (E0 := "java/lang/IllegalArgumentException") (u := (fO, fU, fW, fG, fL, len, size)) (wc := ([] : va_W)) (wr := ([(h0, .inr (1, [.ref qO, .ref qU, .ref qW, .ref qG, .ref qN, .int size])), (qO, .inl (cJ, 64, .inr (.inl fO))), (qU, .inl (cJ, 64, .inr (.inl fU))), (qW, .inl (cI, 64, .inl fW)), (qG, .inl (cZ, 64, .inl fG)), (qN, .inr (0, [.ref qL, .int len])), (qL, .inl (cB, 64, .inl fL))] : va_W)) (vx_runS (As := [.int a1, .int (0 : Int32), .int (8 : Int32)]) (rest := []) ⟨hx, hb, hml, hown, hts⟩ (kt_X_demandRange_t l hlt dC dI cJ cI cZ cB _ a1 (0 : Int32) (8 : Int32) hw) ⟨callB_of 3 hts (gw_in mw_t74) rfl rfl rfl (hq mw_t1) (hq mw_t72) (by decide +kernel) ⟨Nat.le_of_ble_eq_true rfl, Nat.le_of_ble_eq_true rfl⟩, hq mw_t73⟩ (pz_W (hP.sub (ws' := ([] : va_W)) [] rfl) hK (hD.sub (ws' := ([] : va_W)) [] (by decide) rfl) hE (zz_W hZ hS (va_free (wc := ([] : va_W)) hD hS hA [] rfl))) rfl rfl hl.1 rfl (lv_room (Nat.le_of_ble_eq_true rfl)) dc_X_one_4 ⟨Nat.le_of_ble_eq_true rfl, Nat.le_of_ble_eq_true rfl⟩) hP hK hD hS hA [] [0, 1, 2, 3, 4, 5, 6] rfl rfl (by decide) (by decide) [0, 1, 2, 3, 4, 5, 6] rfl rfl (by decide) htab hlocks hpx rfl

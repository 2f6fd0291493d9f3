set_option maxHeartbeats 4000000 in
set_option maxRecDepth 100000 in
theorem kt_X_told (l : Launch) (hlt : l.stackTraces = false) (dC : Nat → ClassId) (dI : Nat → Nat → Nat) (cJ cI cZ cB : ClassId) (h0 qO qU qW qG qN qL : Nat) (sz : Nat) (a1 : Int32) (a2 : Int32) (fO : (Nat → Int64)) (fU : (Nat → Int64)) (fW : (Nat → Int32)) (fG : (Nat → Int32)) (fL : (Nat → Int32)) (len : Int32) (size : Int32) (post : Int64 → (Nat → Int64) → (Nat → Int64) → (Nat → Int32) → (Nat → Int32) → (Nat → Int32) → Int32 → Int32 → Prop) (px : String → (Nat → Int64) → (Nat → Int64) → (Nat → Int32) → (Nat → Int32) → (Nat → Int32) → Int32 → Int32 → Prop) (hw : wp_X_told post px a1 a2 fO fU fW fG fL len size) : vx_Met l yn_X_told ws_X_told rm_X_told (va_Pc [.ref h0, .int a1, .int a2] (pc_Z (dC, dI) (ty_4 cJ cI cZ cB) (wd_X h0 qO qU qW qG qN qL cJ cI cZ cB fO fU fW fG fL len size) sz)) (ql_X dC dI cJ cI cZ cB h0 qO qU qW qG qN qL post (va_A (wd_X h0 qO qU qW qG qN qL cJ cI cZ cB fO fU fW fG fL len size) sz)) (qx_X dC dI cJ cI cZ cB h0 qO qU qW qG qN qL px (va_A (wd_X h0 qO qU qW qG qN qL cJ cI cZ cB fO fU fW fG fL len size) sz)) 1 6 (va_A (wd_X h0 qO qU qW qG qN qL cJ cI cZ cB fO fU fW fG fL len size) sz) := by
  refine vx_ofW (cc := cd_X_told) (maxL := 4) (ret := (some .long)) (by decide) rfl ?_
  intro p e s m args below meth c s₁ B hml htab hv
  obtain ⟨rfl, ⟨hsz, hP, hK, hD0, hE⟩, hZ⟩ := hv
  have hx := B.exec
  have hb := B.bytes
  have hr := B.returns
  have hts := atoms_spec (ws := ws_X_told) B.pre
  have hq : ∀ {w : Cond}, w ∈ wg_all → w.before ([.ref h0, .int a1, .int a2] : List Value).toArray s = true := fun h => hts _ (List.mem_cons_of_mem _ h)
  have hu : ∀ L : List Cond, (∀ w ∈ L, w ∈ wg_all) → ∀ w ∈ L, w ∈ ws_X_told := fun L h w hw => List.mem_cons_of_mem _ (h w hw)
  have hown : s.vm.findClass "FourWords" = some m.cls := findClass_of_methodNamed B.named
  have hlocks := B.notSynchronized
  subst hsz
  have hD := hD0.self (sz := s.heap.size)
  generalize hAe : va_A (wd_X h0 qO qU qW qG qN qL cJ cI cZ cB fO fU fW fG fL len size) s.heap.size = A at hD hZ ⊢
  have hA : ∀ q : Nat, s.heap.size ≤ q → A q := fun q h => by rw [← hAe]; exact Or.inr h
  have hS : va_S A s.heap s.heap [] := va_S.rf
  have hl := lv_entry [.ref h0, .int a1, .int a2] (n := 4) (Nat.le_of_ble_eq_true rfl)
  rw [lg_entry_eq]
  generalize (lg_sl [.ref h0, .int a1, .int a2] ++ List.replicate (4 - (lg_sl [.ref h0, .int a1, .int a2]).length) Slot.unset).toArray = ls at hl ⊢
  have hl : lv_has ls 4 [(0, .ref h0), (1, .int a1), (2, .int a2)] := hl
  have B_88 : ∀ (H : Heap) (locs : List Loc) (ls : Array Slot) (t0 : Int64) (fO : (Nat → Int64)) (fU : (Nat → Int64)) (fW : (Nat → Int32)) (fG : (Nat → Int32)) (fL : (Nat → Int32)) (len : Int32) (size : Int32), wp_X_told_88 post px t0 fO fU fW fG fL len size → va_P (dC, dI) cs_3 (wd_X h0 qO qU qW qG qN qL cJ cI cZ cB fO fU fW fG fL len size) H → va_D A (wd_X h0 qO qU qW qG qN qL cJ cI cZ cB fO fU fW fG fL len size) → va_S A s.heap H locs → lv_has ls 4 [] → W p l e (headSpec ws_X_told rm_X_told).room s m ([.ref h0, .int a1, .int a2] : List Value).toArray below meth c H locs 0 0 (vx_MQ below (ql_X dC dI cJ cI cZ cB h0 qO qU qW qG qN qL post A) (qx_X dC dI cJ cI cZ cB h0 qO qU qW qG qN qL px A) ([.ref h0, .int a1, .int a2] : List Value).toArray s 1 6 A) (F0 m 88 ls [.long t0]) := by
    intro H locs ls t0 fO fU fW fG fL len size hw hP hD hS hl
    unfold wp_X_told_88 at hw
    refine W.widen (k := 1) (n := 6) (Nat.zero_le _) (Nat.zero_le _) ?_
    exact vx_ret (W.lret (v := t0) hx hb hr (fun t ht hW => ⟨⟨t0, (fO, fU, fW, fG, fL, len, size), rfl, hw, by rw [ht]; exact hP, va_K.moved hW.alike hK, hD⟩, hS.F ht⟩) hS.2.2 dc_X_told_88)
  unfold wp_X_told at hw
  refine lv_iload_n hx hb dc_X_told_0 rfl (lv_at hl 2 rfl) ?_
  refine lv_iconst (v := 0) hx hb dc_X_told_1 (by decide) ?_
  refine lv_iconst (v := 4) hx hb dc_X_told_2 (by decide) ?_
  rcases hw with hw | ⟨hw, hpx⟩
  · refine gc_v (S := Unit) (w1 := (fun u => ([] : va_W))) (wc := ([] : va_W)) (wr := ([(h0, .inr (1, [.ref qO, .ref qU, .ref qW, .ref qG, .ref qN, .int size])), (qO, .inl (cJ, 64, .inr (.inl fO))), (qU, .inl (cJ, 64, .inr (.inl fU))), (qW, .inl (cI, 64, .inl fW)), (qG, .inl (cZ, 64, .inl fG)), (qN, .inr (0, [.ref qL, .int len])), (qL, .inl (cB, 64, .inl fL))] : va_W)) (va_runS (As := [.int a2, .int (0 : Int32), .int (4 : Int32)]) (rest := []) ⟨hx, hb, hml, hown, hts⟩ (kt_X_demandRange_k l dC dI cJ cI cZ cB _ a2 (0 : Int32) (4 : Int32) _ hw) ⟨callB_of 3 hts (gw_in mw_t74) rfl rfl rfl (hq mw_t1) (hq mw_t72) (by decide +kernel) ⟨Nat.le_of_ble_eq_true rfl, Nat.le_of_ble_eq_true rfl⟩, hq mw_t73⟩ (ps_W (hP.sub (ws' := ([] : va_W)) [] rfl) hK (hD.sub (ws' := ([] : va_W)) [] (by decide) rfl) hE) rfl rfl hl.1 rfl (lv_room (Nat.le_of_ble_eq_true rfl)) dc_X_told_3 ⟨Nat.le_of_ble_eq_true rfl, Nat.le_of_ble_eq_true rfl⟩) hP hD hS hA [] [0, 1, 2, 3, 4, 5, 6] rfl rfl (by decide) (by decide) (fun u H locs hw hP hD hS => ?_)
    have hP : va_P (dC, dI) cs_3 (wd_X h0 qO qU qW qG qN qL cJ cI cZ cB fO fU fW fG fL len size) H := hP.sub (ws' := (wd_X h0 qO qU qW qG qN qL cJ cI cZ cB fO fU fW fG fL len size)) [0, 1, 2, 3, 4, 5, 6] rfl
    have hD : va_D A (wd_X h0 qO qU qW qG qN qL cJ cI cZ cB fO fU fW fG fL len size) := hD.sub (ws' := (wd_X h0 qO qU qW qG qN qL cJ cI cZ cB fO fU fW fG fL len size)) [0, 1, 2, 3, 4, 5, 6] (by decide) rfl
    try dsimp only at hw
    refine lv_aload_n hx hb dc_X_told_6 rfl (lv_at hl 0 rfl) ?_
    refine lv_iload_n hx hb dc_X_told_7 rfl (lv_at hl 1 rfl) ?_
    rcases hw with hw | ⟨hw, hpx⟩
    · refine gc_v (S := (Nat → Int64) × (Nat → Int64) × (Nat → Int32) × (Nat → Int32) × (Nat → Int32) × Int32 × Int32) (w1 := (fun u => (wd_X h0 qO qU qW qG qN qL cJ cI cZ cB u.1 u.2.1 u.2.2.1 u.2.2.2.1 u.2.2.2.2.1 u.2.2.2.2.2.1 u.2.2.2.2.2.2))) (wc := (wd_X h0 qO qU qW qG qN qL cJ cI cZ cB fO fU fW fG fL len size)) (wr := ([] : va_W)) (va_runV (As := [.int a1]) (rest := []) ⟨hx, hb, hml, hown, hts⟩ (kt_X_demandPlace_k l dC dI cJ cI cZ cB h0 qO qU qW qG qN qL _ a1 fO fU fW fG fL len size _ hw) ⟨callB_of 1 hts (gw_in mw_t369) rfl rfl rfl (hq mw_t1) (hq mw_t366) (by decide +kernel) ⟨Nat.le_of_ble_eq_true rfl, Nat.le_of_ble_eq_true rfl⟩, hq mw_t368, hq mw_s27⟩ (pv_W (va_recv (q0 := 0) (ci := 1) hK hP rfl rfl) (hP.sub (ws' := (wd_X h0 qO qU qW qG qN qL cJ cI cZ cB fO fU fW fG fL len size)) [0, 1, 2, 3, 4, 5, 6] rfl) hK (hD.sub (ws' := (wd_X h0 qO qU qW qG qN qL cJ cI cZ cB fO fU fW fG fL len size)) [0, 1, 2, 3, 4, 5, 6] (by decide) rfl) hE) rfl rfl hl.1 rfl (lv_room (Nat.le_of_ble_eq_true rfl)) dc_X_told_8 ⟨Nat.le_of_ble_eq_true rfl, Nat.le_of_ble_eq_true rfl⟩) hP hD hS hA [0, 1, 2, 3, 4, 5, 6] [] rfl rfl (by decide) (by decide) (fun u H locs hw hP hD hS => ?_)
      obtain ⟨fO8, fU8, fW8, fG8, fL8, len8, size8⟩ := u
      have hP : va_P (dC, dI) cs_3 (wd_X h0 qO qU qW qG qN qL cJ cI cZ cB fO8 fU8 fW8 fG8 fL8 len8 size8) H := hP.sub (ws' := (wd_X h0 qO qU qW qG qN qL cJ cI cZ cB fO8 fU8 fW8 fG8 fL8 len8 size8)) [0, 1, 2, 3, 4, 5, 6] rfl
      have hD : va_D A (wd_X h0 qO qU qW qG qN qL cJ cI cZ cB fO8 fU8 fW8 fG8 fL8 len8 size8) := hD.sub (ws' := (wd_X h0 qO qU qW qG qN qL cJ cI cZ cB fO8 fU8 fW8 fG8 fL8 len8 size8)) [0, 1, 2, 3, 4, 5, 6] (by decide) rfl
      try dsimp only at hw
      refine lv_aload_n hx hb dc_X_told_11 rfl (lv_at hl 0 rfl) ?_
      refine va_get (D := (dC, dI)) (ci := 1) (v := .int size8) (C := "FourWords") (T := tb_X) (N := 6) hx hb hts (hu _ um_X) hown hK hP 0 rfl rfl 5 (by decide) (hq mw_t45) (fun _ h9 => h9) rfl dc_X_told_12 ?_
      refine lv_iconst (v := 1) hx hb dc_X_told_15 (by decide) ?_
      refine lv_isub hx hb dc_X_told_16 ?_
      refine lv_iload_n hx hb dc_X_told_17 rfl (lv_at hl 1 rfl) ?_
      refine lv_isub hx hb dc_X_told_18 ?_
      refine lv_topi (fun v19 e19 => ?_)
      have hw := hw v19 e19
      refine lv_istore_n (lv' := [(3, .int v19), (0, .ref h0), (1, .int a1), (2, .int a2)]) hx hb dc_X_told_19 rfl hl (Nat.le_of_ble_eq_true rfl) rfl (fun ls hl => ?_)
      refine lv_iload_n hx hb dc_X_told_20 rfl (lv_at hl 3 rfl) ?_
      obtain ⟨hs0, hs1, hs2, hs3, hs4⟩ := hw
      by_cases hc : a2.toInt < 0 ∨ 3 < a2.toInt
      · have hw := hs0 hc
        refine lv_tableOut (tgt := 89) hx hb dc_X_told_21 hc (by decide) ?_
        refine lv_aload_n hx hb dc_X_told_89 rfl (lv_at hl 1 rfl) ?_
        refine lv_iload_n hx hb dc_X_told_90 rfl (lv_at hl 0 rfl) ?_
        refine gc_i (S := (Nat → Int64) × (Nat → Int64) × (Nat → Int32) × (Nat → Int32) × (Nat → Int32) × Int32 × Int32) (w1 := (fun u => (wd_X h0 qO qU qW qG qN qL cJ cI cZ cB u.1 u.2.1 u.2.2.1 u.2.2.2.1 u.2.2.2.2.1 u.2.2.2.2.2.1 u.2.2.2.2.2.2))) (wc := (wd_X h0 qO qU qW qG qN qL cJ cI cZ cB fO8 fU8 fW8 fG8 fL8 len8 size8)) (wr := ([] : va_W)) (va_runV (As := [.int v19]) (rest := []) ⟨hx, hb, hml, hown, hts⟩ (kt_X_anyOne l dC dI cJ cI cZ cB h0 qO qU qW qG qN qL _ v19 fO8 fU8 fW8 fG8 fL8 len8 size8 _ hw) ⟨callB_of 1 hts (gw_in mw_t259) rfl rfl rfl (hq mw_t1) (hq mw_t256) (by decide +kernel) ⟨Nat.le_of_ble_eq_true rfl, Nat.le_of_ble_eq_true rfl⟩, hq mw_t258, hq mw_s18⟩ (pv_W (va_recv (q0 := 0) (ci := 1) hK hP rfl rfl) (hP.sub (ws' := (wd_X h0 qO qU qW qG qN qL cJ cI cZ cB fO8 fU8 fW8 fG8 fL8 len8 size8)) [0, 1, 2, 3, 4, 5, 6] rfl) hK (hD.sub (ws' := (wd_X h0 qO qU qW qG qN qL cJ cI cZ cB fO8 fU8 fW8 fG8 fL8 len8 size8)) [0, 1, 2, 3, 4, 5, 6] (by decide) rfl) hE) rfl rfl hl.1 rfl (lv_room (Nat.le_of_ble_eq_true rfl)) dc_X_told_91 ⟨Nat.le_of_ble_eq_true rfl, Nat.le_of_ble_eq_true rfl⟩) hP hD hS hA [0, 1, 2, 3, 4, 5, 6] [] rfl rfl (by decide) (by decide) (fun r91 u H locs hw hP hD hS => ?_)
        obtain ⟨fO91, fU91, fW91, fG91, fL91, len91, size91⟩ := u
        have hP : va_P (dC, dI) cs_3 (wd_X h0 qO qU qW qG qN qL cJ cI cZ cB fO91 fU91 fW91 fG91 fL91 len91 size91) H := hP.sub (ws' := (wd_X h0 qO qU qW qG qN qL cJ cI cZ cB fO91 fU91 fW91 fG91 fL91 len91 size91)) [0, 1, 2, 3, 4, 5, 6] rfl
        have hD : va_D A (wd_X h0 qO qU qW qG qN qL cJ cI cZ cB fO91 fU91 fW91 fG91 fL91 len91 size91) := hD.sub (ws' := (wd_X h0 qO qU qW qG qN qL cJ cI cZ cB fO91 fU91 fW91 fG91 fL91 len91 size91)) [0, 1, 2, 3, 4, 5, 6] (by decide) rfl
        try dsimp only at hw
        refine lv_i2l hx hb dc_X_told_94 rfl ?_
        refine W.widen (k := 1) (n := 6) (Nat.zero_le _) (Nat.zero_le _) ?_
        exact vx_ret (W.lret (v := r91.toInt64) hx hb hr (fun t ht hW => ⟨⟨r91.toInt64, (fO91, fU91, fW91, fG91, fL91, len91, size91), rfl, hw, by rw [ht]; exact hP, va_K.moved hW.alike hK, hD⟩, hS.F ht⟩) hS.2.2 dc_X_told_95)
      by_cases hk0 : a2.toInt = 0
      · have hw := hs1 hk0
        refine lv_tableIn (tgt := 52) (off := 31) hx hb dc_X_told_21 (by rw [hk0]; decide) (by rw [hk0]; decide) (by rw [hk0]; rfl) (by decide) ?_
        refine lv_aload_n hx hb dc_X_told_52 rfl (lv_at hl 1 rfl) ?_
        refine va_get (D := (dC, dI)) (ci := 1) (v := .ref qO) (C := "FourWords") (T := tb_X) (N := 6) hx hb hts (hu _ um_X) hown hK hP 0 rfl rfl 0 (by decide) (hq mw_t40) (fun _ h9 => h9) rfl dc_X_told_53 ?_
        refine lv_iload_n hx hb dc_X_told_56 rfl (lv_at hl 0 rfl) ?_
        obtain ⟨hin, hw⟩ := hw
        refine va_lald hx hb hK hP 1 0 rfl rfl hin dc_X_told_57 ?_
        refine W.widen (k := 1) (n := 6) (Nat.zero_le _) (Nat.zero_le _) ?_
        exact vx_ret (W.lret (v := fO8 v19.toNatClampNeg) hx hb hr (fun t ht hW => ⟨⟨fO8 v19.toNatClampNeg, (fO8, fU8, fW8, fG8, fL8, len8, size8), rfl, hw, by rw [ht]; exact hP, va_K.moved hW.alike hK, hD⟩, hS.F ht⟩) hS.2.2 dc_X_told_58)
      by_cases hk1 : a2.toInt = 1
      · have hw := hs2 hk1
        refine lv_tableIn (tgt := 59) (off := 38) hx hb dc_X_told_21 (by rw [hk1]; decide) (by rw [hk1]; decide) (by rw [hk1]; rfl) (by decide) ?_
        refine lv_aload_n hx hb dc_X_told_59 rfl (lv_at hl 1 rfl) ?_
        refine va_get (D := (dC, dI)) (ci := 1) (v := .ref qU) (C := "FourWords") (T := tb_X) (N := 6) hx hb hts (hu _ um_X) hown hK hP 0 rfl rfl 1 (by decide) (hq mw_t41) (fun _ h9 => h9) rfl dc_X_told_60 ?_
        refine lv_iload_n hx hb dc_X_told_63 rfl (lv_at hl 0 rfl) ?_
        obtain ⟨hin, hw⟩ := hw
        refine va_lald hx hb hK hP 2 0 rfl rfl hin dc_X_told_64 ?_
        refine W.widen (k := 1) (n := 6) (Nat.zero_le _) (Nat.zero_le _) ?_
        exact vx_ret (W.lret (v := fU8 v19.toNatClampNeg) hx hb hr (fun t ht hW => ⟨⟨fU8 v19.toNatClampNeg, (fO8, fU8, fW8, fG8, fL8, len8, size8), rfl, hw, by rw [ht]; exact hP, va_K.moved hW.alike hK, hD⟩, hS.F ht⟩) hS.2.2 dc_X_told_65)
      by_cases hk2 : a2.toInt = 2
      · have hw := hs3 hk2
        refine lv_tableIn (tgt := 66) (off := 45) hx hb dc_X_told_21 (by rw [hk2]; decide) (by rw [hk2]; decide) (by rw [hk2]; rfl) (by decide) ?_
        refine lv_aload_n hx hb dc_X_told_66 rfl (lv_at hl 1 rfl) ?_
        refine va_get (D := (dC, dI)) (ci := 1) (v := .ref qW) (C := "FourWords") (T := tb_X) (N := 6) hx hb hts (hu _ um_X) hown hK hP 0 rfl rfl 2 (by decide) (hq mw_t42) (fun _ h9 => h9) rfl dc_X_told_67 ?_
        refine lv_iload_n hx hb dc_X_told_70 rfl (lv_at hl 0 rfl) ?_
        obtain ⟨hin, hw⟩ := hw
        refine va_iald hx hb hK hP 3 1 rfl rfl hin dc_X_told_71 ?_
        refine lv_i2l hx hb dc_X_told_72 rfl ?_
        refine W.widen (k := 1) (n := 6) (Nat.zero_le _) (Nat.zero_le _) ?_
        exact vx_ret (W.lret (v := (fW8 v19.toNatClampNeg).toInt64) hx hb hr (fun t ht hW => ⟨⟨(fW8 v19.toNatClampNeg).toInt64, (fO8, fU8, fW8, fG8, fL8, len8, size8), rfl, hw, by rw [ht]; exact hP, va_K.moved hW.alike hK, hD⟩, hS.F ht⟩) hS.2.2 dc_X_told_73)
      have hk3 : a2.toInt = 3 := by omega
      have hw := hs4 hk3
      refine lv_tableIn (tgt := 74) (off := 53) hx hb dc_X_told_21 (by rw [hk3]; decide) (by rw [hk3]; decide) (by rw [hk3]; rfl) (by decide) ?_
      refine lv_aload_n hx hb dc_X_told_74 rfl (lv_at hl 1 rfl) ?_
      refine va_get (D := (dC, dI)) (ci := 1) (v := .ref qG) (C := "FourWords") (T := tb_X) (N := 6) hx hb hts (hu _ um_X) hown hK hP 0 rfl rfl 3 (by decide) (hq mw_t43) (fun _ h9 => h9) rfl dc_X_told_75 ?_
      refine lv_iload_n hx hb dc_X_told_78 rfl (lv_at hl 0 rfl) ?_
      obtain ⟨hin, hw⟩ := hw
      refine va_zald hx hb hK hP 4 2 rfl rfl hin dc_X_told_79 ?_
      obtain ⟨hw1, hw2⟩ := hw
      refine lv_if_eq (tgt := 87) hx hb dc_X_told_80 (by decide) (fun hc => ?_) (fun hc => ?_)
      · have hw := hw1 hc
        clear hw1 hw2
        refine lv_lconst (v := 0) hx hb dc_X_told_87 (by decide) ?_
        exact B_88 _ _ _ (0 : Int64) fO8 fU8 fW8 fG8 fL8 len8 size8 hw hP hD hS (lv_sub hl [] rfl)
      · have hw := hw2 hc
        clear hw1 hw2
        refine lv_lconst (v := 1) hx hb dc_X_told_83 (by decide) ?_
        refine lv_goto (tgt := 88) hx hb dc_X_told_84 (by decide) ?_
        exact B_88 _ _ _ (1 : Int64) fO8 fU8 fW8 fG8 fL8 len8 size8 hw hP hD hS (lv_sub hl [] rfl)
    · exact gx_T (E0 := "java/lang/IllegalStateException") (u := (fO, fU, fW, fG, fL, len, size)) (wc := (wd_X h0 qO qU qW qG qN qL cJ cI cZ cB fO fU fW fG fL len size)) (wr := ([] : va_W)) (vx_runV (As := [.int a1]) (rest := []) ⟨hx, hb, hml, hown, hts⟩ (kt_X_demandPlace_t l hlt dC dI cJ cI cZ cB h0 qO qU qW qG qN qL _ a1 fO fU fW fG fL len size hw) ⟨callB_of 1 hts (gw_in mw_t369) rfl rfl rfl (hq mw_t1) (hq mw_t366) (by decide +kernel) ⟨Nat.le_of_ble_eq_true rfl, Nat.le_of_ble_eq_true rfl⟩, hq mw_t368, hq mw_s27⟩ (pq_W (va_recv (q0 := 0) (ci := 1) hK hP rfl rfl) (hP.sub (ws' := (wd_X h0 qO qU qW qG qN qL cJ cI cZ cB fO fU fW fG fL len size)) [0, 1, 2, 3, 4, 5, 6] rfl) hK (hD.sub (ws' := (wd_X h0 qO qU qW qG qN qL cJ cI cZ cB fO fU fW fG fL len size)) [0, 1, 2, 3, 4, 5, 6] (by decide) rfl) hE (zz_W hZ hS (va_free (wc := (wd_X h0 qO qU qW qG qN qL cJ cI cZ cB fO fU fW fG fL len size)) hD hS hA [0, 1, 2, 3, 4, 5, 6] rfl))) rfl rfl hl.1 rfl (lv_room (Nat.le_of_ble_eq_true rfl)) dc_X_told_8 ⟨Nat.le_of_ble_eq_true rfl, Nat.le_of_ble_eq_true rfl⟩) hP hK hD hS hA [0, 1, 2, 3, 4, 5, 6] [] rfl rfl (by decide) (by decide) [0, 1, 2, 3, 4, 5, 6] rfl rfl (by decide) htab hlocks hpx rfl
  · exact gx_T (E0 := "java/lang/IllegalArgumentException") (u := (fO, fU, fW, fG, fL, len, size)) (wc := ([] : va_W)) (wr := ([(h0, .inr (1, [.ref qO, .ref qU, .ref qW, .ref qG, .ref qN, .int size])), (qO, .inl (cJ, 64, .inr (.inl fO))), (qU, .inl (cJ, 64, .inr (.inl fU))), (qW, .inl (cI, 64, .inl fW)), (qG, .inl (cZ, 64, .inl fG)), (qN, .inr (0, [.ref qL, .int len])), (qL, .inl (cB, 64, .inl fL))] : va_W)) (vx_runS (As := [.int a2, .int (0 : Int32), .int (4 : Int32)]) (rest := []) ⟨hx, hb, hml, hown, hts⟩ (kt_X_demandRange_t l hlt dC dI cJ cI cZ cB _ a2 (0 : Int32) (4 : Int32) hw) ⟨callB_of 3 hts (gw_in mw_t74) rfl rfl rfl (hq mw_t1) (hq mw_t72) (by decide +kernel) ⟨Nat.le_of_ble_eq_true rfl, Nat.le_of_ble_eq_true rfl⟩, hq mw_t73⟩ (pz_W (hP.sub (ws' := ([] : va_W)) [] rfl) hK (hD.sub (ws' := ([] : va_W)) [] (by decide) rfl) hE (zz_W hZ hS (va_free (wc := ([] : va_W)) hD hS hA [] rfl))) rfl rfl hl.1 rfl (lv_room (Nat.le_of_ble_eq_true rfl)) dc_X_told_3 ⟨Nat.le_of_ble_eq_true rfl, Nat.le_of_ble_eq_true rfl⟩) hP hK hD hS hA [] [0, 1, 2, 3, 4, 5, 6] rfl rfl (by decide) (by decide) [0, 1, 2, 3, 4, 5, 6] rfl rfl (by decide) htab hlocks hpx rfl
set_option maxHeartbeats 4000000 in
set_option maxRecDepth 100000 in
theorem kt_X_count (l : Launch) (dC : Nat → ClassId) (dI : Nat → Nat → Nat) (cJ cI cZ cB : ClassId) (h0 qO qU qW qG qN qL : Nat) (sz : Nat) (a1 : Int32) (fO : (Nat → Int64)) (fU : (Nat → Int64)) (fW : (Nat → Int32)) (fG : (Nat → Int32)) (fL : (Nat → Int32)) (len : Int32) (size : Int32) (post : Int32 → (Nat → Int64) → (Nat → Int64) → (Nat → Int32) → (Nat → Int32) → (Nat → Int32) → Int32 → Int32 → Prop) (hw : wp_X_count post a1 fO fU fW fG fL len size) : Met l yn_X_count ws_X_count rm_X_count (va_Pc [.ref h0, .int a1] (pc_W (dC, dI) (ty_4 cJ cI cZ cB) (wd_X h0 qO qU qW qG qN qL cJ cI cZ cB fO fU fW fG fL len size) sz)) (qi_X dC dI cJ cI cZ cB h0 qO qU qW qG qN qL post (va_A (wd_X h0 qO qU qW qG qN qL cJ cI cZ cB fO fU fW fG fL len size) sz)) 0 0 (va_A (wd_X h0 qO qU qW qG qN qL cJ cI cZ cB fO fU fW fG fL len size) sz) := by
  refine Met.ofW (cc := cd_X_count) (maxL := 2) (ret := (some .int)) (by decide) rfl ?_
  intro p e s m args below meth c s₁ B hml hv
  obtain ⟨rfl, hsz, hP, hK, hD0, hE⟩ := hv
  have hx := B.exec
  have hb := B.bytes
  have hr := B.returns
  have hts := atoms_spec (ws := ws_X_count) B.pre
  have hq : ∀ {w : Cond}, w ∈ wg_all → w.before ([.ref h0, .int a1] : List Value).toArray s = true := fun h => hts _ (List.mem_cons_of_mem _ h)
  have hu : ∀ L : List Cond, (∀ w ∈ L, w ∈ wg_all) → ∀ w ∈ L, w ∈ ws_X_count := fun L h w hw => List.mem_cons_of_mem _ (h w hw)
  have hown : s.vm.findClass "FourWords" = some m.cls := findClass_of_methodNamed B.named
  have hlocks := B.notSynchronized
  subst hsz
  have hD := hD0.self (sz := s.heap.size)
  generalize hAe : va_A (wd_X h0 qO qU qW qG qN qL cJ cI cZ cB fO fU fW fG fL len size) s.heap.size = A at hD ⊢
  have hA : ∀ q : Nat, s.heap.size ≤ q → A q := fun q h => by rw [← hAe]; exact Or.inr h
  have hS : va_S A s.heap s.heap [] := va_S.rf
  have hl := lv_entry [.ref h0, .int a1] (n := 2) (Nat.le_of_ble_eq_true rfl)
  rw [lg_entry_eq]
  generalize (lg_sl [.ref h0, .int a1] ++ List.replicate (2 - (lg_sl [.ref h0, .int a1]).length) Slot.unset).toArray = ls at hl ⊢
  have hl : lv_has ls 2 [(0, .ref h0), (1, .int a1)] := hl
  have B_25 : ∀ (H : Heap) (locs : List Loc) (ls : Array Slot) (t0 : Int32) (fO : (Nat → Int64)) (fU : (Nat → Int64)) (fW : (Nat → Int32)) (fG : (Nat → Int32)) (fL : (Nat → Int32)) (len : Int32) (size : Int32), wp_X_count_25 post t0 fO fU fW fG fL len size → va_P (dC, dI) cs_3 (wd_X h0 qO qU qW qG qN qL cJ cI cZ cB fO fU fW fG fL len size) H → va_D A (wd_X h0 qO qU qW qG qN qL cJ cI cZ cB fO fU fW fG fL len size) → va_S A s.heap H locs → lv_has ls 2 [] → W p l e (headSpec ws_X_count rm_X_count).room s m ([.ref h0, .int a1] : List Value).toArray below meth c H locs 0 0 (MQ below (qi_X dC dI cJ cI cZ cB h0 qO qU qW qG qN qL post A) ([.ref h0, .int a1] : List Value).toArray s 0 0 A) (F0 m 25 ls [.int t0]) := by
    intro H locs ls t0 fO fU fW fG fL len size hw hP hD hS hl
    unfold wp_X_count_25 at hw
    exact W.iret (v := t0) hx hb hr (fun t ht hW => ⟨⟨t0, (fO, fU, fW, fG, fL, len, size), rfl, hw, by rw [ht]; exact hP, va_K.moved hW.alike hK, hD⟩, hS.F ht⟩) hS.2.2 dc_X_count_25
  unfold wp_X_count at hw
  refine lv_iload_n hx hb dc_X_count_0 rfl (lv_at hl 1 rfl) ?_
  obtain ⟨hw1, hw2⟩ := hw
  refine lv_if_ne (tgt := 9) hx hb dc_X_count_1 (by decide) (fun hc => ?_) (fun hc => ?_)
  · have hw := hw1 hc
    clear hw1 hw2
    refine lv_iload_n hx hb dc_X_count_9 rfl (lv_at hl 1 rfl) ?_
    refine lv_iconst (v := 1) hx hb dc_X_count_10 (by decide) ?_
    obtain ⟨hw1, hw2⟩ := hw
    refine lv_icmp_ne (tgt := 24) hx hb dc_X_count_11 (by decide) (fun hc => ?_) (fun hc => ?_)
    · have hw := hw1 hc
      clear hw1 hw2
      refine lv_iconst (v := (-1)) hx hb dc_X_count_24 (by decide) ?_
      exact B_25 _ _ _ (-1 : Int32) fO fU fW fG fL len size hw hP hD hS (lv_sub hl [] rfl)
    · have hw := hw2 (fun h9 => h9 hc)
      clear hw1 hw2
      refine lv_aload_n hx hb dc_X_count_14 rfl (lv_at hl 0 rfl) ?_
      refine va_get (D := (dC, dI)) (ci := 1) (v := .ref qN) (C := "FourWords") (T := tb_X) (N := 6) hx hb hts (hu _ um_X) hown hK hP 0 rfl rfl 4 (by decide) (hq mw_t44) (fun _ h9 => h9) rfl dc_X_count_15 ?_
      refine va_getN (D := (dC, dI)) (ci := 0) (v := .int len) (C := "FourWords$Line") (T := tb_N) (N := 2) hx hb hts (hu _ um_N) hown hK hP 5 rfl rfl 1 (by decide) (va_Nw.use rfl (en_X126 hE)) (fun _ h9 => h9) rfl dc_X_count_18 ?_
      refine lv_goto (tgt := 25) hx hb dc_X_count_21 (by decide) ?_
      exact B_25 _ _ _ len fO fU fW fG fL len size hw hP hD hS (lv_sub hl [] rfl)
  · have hw := hw2 (fun h9 => h9 hc)
    clear hw1 hw2
    refine lv_aload_n hx hb dc_X_count_4 rfl (lv_at hl 0 rfl) ?_
    refine va_get (D := (dC, dI)) (ci := 1) (v := .int size) (C := "FourWords") (T := tb_X) (N := 6) hx hb hts (hu _ um_X) hown hK hP 0 rfl rfl 5 (by decide) (hq mw_t45) (fun _ h9 => h9) rfl dc_X_count_5 ?_
    exact W.iret (v := size) hx hb hr (fun t ht hW => ⟨⟨size, (fO, fU, fW, fG, fL, len, size), rfl, hw, by rw [ht]; exact hP, va_K.moved hW.alike hK, hD⟩, hS.F ht⟩) hS.2.2 dc_X_count_8

set_option maxHeartbeats 4000000 in
set_option maxRecDepth 100000 in
theorem kt_X_setWidth (l : Launch) (dC : Nat → ClassId) (dI : Nat → Nat → Nat) (cJ cI cZ cB : ClassId) (h0 qO qU qW qG qN qL : Nat) (sz : Nat) (a1 : Int32) (a2 : Int32) (a3 : Int32) (fO : (Nat → Int64)) (fU : (Nat → Int64)) (fW : (Nat → Int32)) (fG : (Nat → Int32)) (fL : (Nat → Int32)) (len : Int32) (size : Int32) (post : (Nat → Int64) → (Nat → Int64) → (Nat → Int32) → (Nat → Int32) → (Nat → Int32) → Int32 → Int32 → Prop) (hw : wp_X_setWidth post a1 a2 a3 fO fU fW fG fL len size) : Met l yn_X_setWidth ws_X_setWidth rm_X_setWidth (va_Pc [.ref h0, .int a1, .int a2, .int a3] (pc_W (dC, dI) (ty_4 cJ cI cZ cB) (wd_X h0 qO qU qW qG qN qL cJ cI cZ cB fO fU fW fG fL len size) sz)) (qv_X dC dI cJ cI cZ cB h0 qO qU qW qG qN qL post (va_A (wd_X h0 qO qU qW qG qN qL cJ cI cZ cB fO fU fW fG fL len size) sz)) 0 0 (va_A (wd_X h0 qO qU qW qG qN qL cJ cI cZ cB fO fU fW fG fL len size) sz) := by
  refine Met.ofW (cc := cd_X_setWidth) (maxL := 8) (ret := none) (by decide) rfl ?_
  intro p e s m args below meth c s₁ B hml hv
  obtain ⟨rfl, hsz, hP, hK, hD0, hE⟩ := hv
  have hx := B.exec
  have hb := B.bytes
  have hr := B.returns
  have hts := atoms_spec (ws := ws_X_setWidth) B.pre
  have hq : ∀ {w : Cond}, w ∈ wg_all → w.before ([.ref h0, .int a1, .int a2, .int a3] : List Value).toArray s = true := fun h => hts _ (List.mem_cons_of_mem _ h)
  have hu : ∀ L : List Cond, (∀ w ∈ L, w ∈ wg_all) → ∀ w ∈ L, w ∈ ws_X_setWidth := fun L h w hw => List.mem_cons_of_mem _ (h w hw)
  have hown : s.vm.findClass "FourWords" = some m.cls := findClass_of_methodNamed B.named
  have hlocks := B.notSynchronized
  subst hsz
  have hD := hD0.self (sz := s.heap.size)
  generalize hAe : va_A (wd_X h0 qO qU qW qG qN qL cJ cI cZ cB fO fU fW fG fL len size) s.heap.size = A at hD ⊢
  have hA : ∀ q : Nat, s.heap.size ≤ q → A q := fun q h => by rw [← hAe]; exact Or.inr h
  have hS : va_S A s.heap s.heap [] := va_S.rf
  have hl := lv_entry [.ref h0, .int a1, .int a2, .int a3] (n := 8) (Nat.le_of_ble_eq_true rfl)
  rw [lg_entry_eq]
  generalize (lg_sl [.ref h0, .int a1, .int a2, .int a3] ++ List.replicate (8 - (lg_sl [.ref h0, .int a1, .int a2, .int a3]).length) Slot.unset).toArray = ls at hl ⊢
  have hl : lv_has ls 8 [(0, .ref h0), (1, .int a1), (2, .int a2), (3, .int a3)] := hl
  have B_46 : ∀ (H : Heap) (locs : List Loc) (ls : Array Slot) (x1 : Int32) (x2 : Int32) (x4 : Int64) (x6 : Int64) (fO : (Nat → Int64)) (fU : (Nat → Int64)) (fW : (Nat → Int32)) (fG : (Nat → Int32)) (fL : (Nat → Int32)) (len : Int32) (size : Int32), wp_X_setWidth_46 post x1 x2 x4 x6 fO fU fW fG fL len size → va_P (dC, dI) cs_3 (wd_X h0 qO qU qW qG qN qL cJ cI cZ cB fO fU fW fG fL len size) H → va_D A (wd_X h0 qO qU qW qG qN qL cJ cI cZ cB fO fU fW fG fL len size) → va_S A s.heap H locs → lv_has ls 8 [(0, .ref h0), (1, .int x1), (2, .int x2), (4, .long x4), (6, .long x6)] → W p l e (headSpec ws_X_setWidth rm_X_setWidth).room s m ([.ref h0, .int a1, .int a2, .int a3] : List Value).toArray below meth c H locs 0 0 (MQ below (qv_X dC dI cJ cI cZ cB h0 qO qU qW qG qN qL post A) ([.ref h0, .int a1, .int a2, .int a3] : List Value).toArray s 0 0 A) (F0 m 46 ls []) := by
    intro H locs ls x1 x2 x4 x6 fO fU fW fG fL len size hw hP hD hS hl
    unfold wp_X_setWidth_46 at hw
    refine lv_aload_n hx hb dc_X_setWidth_46 rfl (lv_at hl 0 rfl) ?_
    refine va_get (D := (dC, dI)) (ci := 1) (v := .ref qW) (C := "FourWords") (T := tb_X) (N := 6) hx hb hts (hu _ um_X) hown hK hP 0 rfl rfl 2 (by decide) (hq mw_t42) (fun _ h9 => h9) rfl dc_X_setWidth_47 ?_
    refine lv_iload_n hx hb dc_X_setWidth_50 rfl (lv_at hl 1 rfl) ?_
    refine lv_iload_n hx hb dc_X_setWidth_51 rfl (lv_at hl 2 rfl) ?_
    obtain ⟨hin, hw⟩ := hw
    refine va_iast hx hb hK hP hD hS 3 1 rfl rfl hin dc_X_setWidth_52 (fun H locs hP hD hS => ?_)
    have hP : va_P (dC, dI) cs_3 (wd_X h0 qO qU qW qG qN qL cJ cI cZ cB fO fU (upd fW x1.toNatClampNeg x2) fG fL len size) H := hP
    have hD : va_D A (wd_X h0 qO qU qW qG qN qL cJ cI cZ cB fO fU (upd fW x1.toNatClampNeg x2) fG fL len size) := hD
    refine lv_aload_n hx hb dc_X_setWidth_53 rfl (lv_at hl 0 rfl) ?_
    refine lv_iload_n hx hb dc_X_setWidth_54 rfl (lv_at hl 1 rfl) ?_
    refine lv_lload hx hb dc_X_setWidth_55 (lv_at hl 3 rfl) ?_
    refine lv_lload hx hb dc_X_setWidth_57 (lv_at hl 4 rfl) ?_
    refine gc_v (S := (Nat → Int64) × (Nat → Int64) × (Nat → Int32) × (Nat → Int32) × (Nat → Int32) × Int32 × Int32) (w1 := (fun u => (wd_X h0 qO qU qW qG qN qL cJ cI cZ cB u.1 u.2.1 u.2.2.1 u.2.2.2.1 u.2.2.2.2.1 u.2.2.2.2.2.1 u.2.2.2.2.2.2))) (wc := (wd_X h0 qO qU qW qG qN qL cJ cI cZ cB fO fU (upd fW x1.toNatClampNeg x2) fG fL len size)) (wr := ([] : va_W)) (va_runV (As := [.int x1, .long x4, .long x6]) (rest := []) ⟨hx, hb, hml, hown, hts⟩ (kt_X_setBits l dC dI cJ cI cZ cB h0 qO qU qW qG qN qL _ x1 x4 x6 fO fU (upd fW x1.toNatClampNeg x2) fG fL len size _ hw) ⟨callB_of 3 hts (gw_in mw_t169) rfl rfl rfl (hq mw_t1) (hq mw_t166) (by decide +kernel) ⟨Nat.le_of_ble_eq_true rfl, Nat.le_of_ble_eq_true rfl⟩, hq mw_t168, hq mw_s3⟩ (pv_W (va_recv (q0 := 0) (ci := 1) hK hP rfl rfl) (hP.sub (ws' := (wd_X h0 qO qU qW qG qN qL cJ cI cZ cB fO fU (upd fW x1.toNatClampNeg x2) fG fL len size)) [0, 1, 2, 3, 4, 5, 6] rfl) hK (hD.sub (ws' := (wd_X h0 qO qU qW qG qN qL cJ cI cZ cB fO fU (upd fW x1.toNatClampNeg x2) fG fL len size)) [0, 1, 2, 3, 4, 5, 6] (by decide) rfl) hE) rfl rfl hl.1 rfl (lv_room (Nat.le_of_ble_eq_true rfl)) dc_X_setWidth_59 ⟨Nat.le_of_ble_eq_true rfl, Nat.le_of_ble_eq_true rfl⟩) hP hD hS hA [0, 1, 2, 3, 4, 5, 6] [] rfl rfl (by decide) (by decide) (fun u H locs hw hP hD hS => ?_)
    obtain ⟨fO59, fU59, fW59, fG59, fL59, len59, size59⟩ := u
    have hP : va_P (dC, dI) cs_3 (wd_X h0 qO qU qW qG qN qL cJ cI cZ cB fO59 fU59 fW59 fG59 fL59 len59 size59) H := hP.sub (ws' := (wd_X h0 qO qU qW qG qN qL cJ cI cZ cB fO59 fU59 fW59 fG59 fL59 len59 size59)) [0, 1, 2, 3, 4, 5, 6] rfl
    have hD : va_D A (wd_X h0 qO qU qW qG qN qL cJ cI cZ cB fO59 fU59 fW59 fG59 fL59 len59 size59) := hD.sub (ws' := (wd_X h0 qO qU qW qG qN qL cJ cI cZ cB fO59 fU59 fW59 fG59 fL59 len59 size59)) [0, 1, 2, 3, 4, 5, 6] (by decide) rfl
    try dsimp only at hw
    exact W.vret hx hb hr (fun t ht hW => ⟨⟨(fO59, fU59, fW59, fG59, fL59, len59, size59), rfl, hw, by rw [ht]; exact hP, va_K.moved hW.alike hK, hD⟩, hS.F ht⟩) hS.2.2 dc_X_setWidth_62
  unfold wp_X_setWidth at hw
  refine lv_aload_n hx hb dc_X_setWidth_0 rfl (lv_at hl 0 rfl) ?_
  refine va_get (D := (dC, dI)) (ci := 1) (v := .ref qO) (C := "FourWords") (T := tb_X) (N := 6) hx hb hts (hu _ um_X) hown hK hP 0 rfl rfl 0 (by decide) (hq mw_t40) (fun _ h9 => h9) rfl dc_X_setWidth_1 ?_
  refine lv_iload_n hx hb dc_X_setWidth_4 rfl (lv_at hl 1 rfl) ?_
  obtain ⟨hin, hw⟩ := hw
  refine va_lald hx hb hK hP 1 0 rfl rfl hin dc_X_setWidth_5 ?_
  refine lv_topl (fun v6 e6 => ?_)
  have hw := hw v6 e6
  refine lv_lstore (lv' := [(4, .long v6), (0, .ref h0), (1, .int a1), (2, .int a2), (3, .int a3)]) hx hb dc_X_setWidth_6 hl (Nat.le_of_ble_eq_true rfl) rfl (fun ls hl => ?_)
  refine lv_aload_n hx hb dc_X_setWidth_8 rfl (lv_at hl 1 rfl) ?_
  refine va_get (D := (dC, dI)) (ci := 1) (v := .ref qU) (C := "FourWords") (T := tb_X) (N := 6) hx hb hts (hu _ um_X) hown hK hP 0 rfl rfl 1 (by decide) (hq mw_t41) (fun _ h9 => h9) rfl dc_X_setWidth_9 ?_
  refine lv_iload_n hx hb dc_X_setWidth_12 rfl (lv_at hl 2 rfl) ?_
  obtain ⟨hin, hw⟩ := hw
  refine va_lald hx hb hK hP 2 0 rfl rfl hin dc_X_setWidth_13 ?_
  refine lv_topl (fun v14 e14 => ?_)
  have hw := hw v14 e14
  refine lv_lstore (lv' := [(6, .long v14), (4, .long v6), (0, .ref h0), (1, .int a1), (2, .int a2), (3, .int a3)]) hx hb dc_X_setWidth_14 hl (Nat.le_of_ble_eq_true rfl) rfl (fun ls hl => ?_)
  refine lv_iload_n hx hb dc_X_setWidth_16 rfl (lv_at hl 5 rfl) ?_
  obtain ⟨hw1, hw2⟩ := hw
  refine lv_if_eq (tgt := 46) hx hb dc_X_setWidth_17 (by decide) (fun hc => ?_) (fun hc => ?_)
  · have hw := hw1 hc
    clear hw1 hw2
    exact B_46 _ _ _ a1 a2 v6 v14 fO fU fW fG fL len size hw hP hD hS (lv_sub hl [2, 3, 4, 1, 0] rfl)
  · have hw := hw2 hc
    clear hw1 hw2
    refine lv_lload hx hb dc_X_setWidth_20 (lv_at hl 1 rfl) ?_
    refine lv_aload_n hx hb dc_X_setWidth_22 rfl (lv_at hl 2 rfl) ?_
    refine va_get (D := (dC, dI)) (ci := 1) (v := .ref qW) (C := "FourWords") (T := tb_X) (N := 6) hx hb hts (hu _ um_X) hown hK hP 0 rfl rfl 2 (by decide) (hq mw_t42) (fun _ h9 => h9) rfl dc_X_setWidth_23 ?_
    refine lv_iload_n hx hb dc_X_setWidth_26 rfl (lv_at hl 3 rfl) ?_
    obtain ⟨hin, hw⟩ := hw
    refine va_iald hx hb hK hP 3 1 rfl rfl hin dc_X_setWidth_27 ?_
    refine gc_l (S := Unit) (w1 := (fun u => ([] : va_W))) (wc := ([] : va_W)) (wr := ([(h0, .inr (1, [.ref qO, .ref qU, .ref qW, .ref qG, .ref qN, .int size])), (qO, .inl (cJ, 64, .inr (.inl fO))), (qU, .inl (cJ, 64, .inr (.inl fU))), (qW, .inl (cI, 64, .inl fW)), (qG, .inl (cZ, 64, .inl fG)), (qN, .inr (0, [.ref qL, .int len])), (qL, .inl (cB, 64, .inl fL))] : va_W)) (va_runSN (As := [.long v6, .int (fW a1.toNatClampNeg)]) (rest := []) ⟨hx, hb, hml, hown, hts⟩ (kt_B_withHighestInFront l dC dI cJ cI cZ cB _ v6 (fW a1.toNatClampNeg) _ hw) ⟨va_cnB 2 hts (gw_in mw_t199) rfl rfl rfl (en_X164 hE) (hq mw_t9) (by decide +kernel) ⟨Nat.le_of_ble_eq_true rfl, Nat.le_of_ble_eq_true rfl⟩, hq mw_t198, trivial⟩ (ps_W (hP.sub (ws' := ([] : va_W)) [] rfl) hK (hD.sub (ws' := ([] : va_W)) [] (by decide) rfl) hE) rfl rfl hl.1 rfl (lv_room (Nat.le_of_ble_eq_true rfl)) dc_X_setWidth_28 ⟨Nat.le_of_ble_eq_true rfl, Nat.le_of_ble_eq_true rfl⟩) hP hD hS hA [] [0, 1, 2, 3, 4, 5, 6] rfl rfl (by decide) (by decide) (fun r28 u H locs hw hP hD hS => ?_)
    have hP : va_P (dC, dI) cs_3 (wd_X h0 qO qU qW qG qN qL cJ cI cZ cB fO fU fW fG fL len size) H := hP.sub (ws' := (wd_X h0 qO qU qW qG qN qL cJ cI cZ cB fO fU fW fG fL len size)) [0, 1, 2, 3, 4, 5, 6] rfl
    have hD : va_D A (wd_X h0 qO qU qW qG qN qL cJ cI cZ cB fO fU fW fG fL len size) := hD.sub (ws' := (wd_X h0 qO qU qW qG qN qL cJ cI cZ cB fO fU fW fG fL len size)) [0, 1, 2, 3, 4, 5, 6] (by decide) rfl
    try dsimp only at hw
    refine lv_lstore (lv' := [(4, .long r28), (6, .long v14), (0, .ref h0), (1, .int a1), (2, .int a2), (3, .int a3)]) hx hb dc_X_setWidth_31 hl (Nat.le_of_ble_eq_true rfl) rfl (fun ls hl => ?_)
    refine lv_lload hx hb dc_X_setWidth_33 (lv_at hl 1 rfl) ?_
    refine lv_aload_n hx hb dc_X_setWidth_35 rfl (lv_at hl 2 rfl) ?_
    refine va_get (D := (dC, dI)) (ci := 1) (v := .ref qW) (C := "FourWords") (T := tb_X) (N := 6) hx hb hts (hu _ um_X) hown hK hP 0 rfl rfl 2 (by decide) (hq mw_t42) (fun _ h9 => h9) rfl dc_X_setWidth_36 ?_
    refine lv_iload_n hx hb dc_X_setWidth_39 rfl (lv_at hl 3 rfl) ?_
    obtain ⟨hin, hw⟩ := hw
    refine va_iald hx hb hK hP 3 1 rfl rfl hin dc_X_setWidth_40 ?_
    refine gc_l (S := Unit) (w1 := (fun u => ([] : va_W))) (wc := ([] : va_W)) (wr := ([(h0, .inr (1, [.ref qO, .ref qU, .ref qW, .ref qG, .ref qN, .int size])), (qO, .inl (cJ, 64, .inr (.inl fO))), (qU, .inl (cJ, 64, .inr (.inl fU))), (qW, .inl (cI, 64, .inl fW)), (qG, .inl (cZ, 64, .inl fG)), (qN, .inr (0, [.ref qL, .int len])), (qL, .inl (cB, 64, .inl fL))] : va_W)) (va_runSN (As := [.long v14, .int (fW a1.toNatClampNeg)]) (rest := []) ⟨hx, hb, hml, hown, hts⟩ (kt_B_withHighestInFront l dC dI cJ cI cZ cB _ v14 (fW a1.toNatClampNeg) _ hw) ⟨va_cnB 2 hts (gw_in mw_t199) rfl rfl rfl (en_X164 hE) (hq mw_t9) (by decide +kernel) ⟨Nat.le_of_ble_eq_true rfl, Nat.le_of_ble_eq_true rfl⟩, hq mw_t198, trivial⟩ (ps_W (hP.sub (ws' := ([] : va_W)) [] rfl) hK (hD.sub (ws' := ([] : va_W)) [] (by decide) rfl) hE) rfl rfl hl.1 rfl (lv_room (Nat.le_of_ble_eq_true rfl)) dc_X_setWidth_41 ⟨Nat.le_of_ble_eq_true rfl, Nat.le_of_ble_eq_true rfl⟩) hP hD hS hA [] [0, 1, 2, 3, 4, 5, 6] rfl rfl (by decide) (by decide) (fun r41 u H locs hw hP hD hS => ?_)
    have hP : va_P (dC, dI) cs_3 (wd_X h0 qO qU qW qG qN qL cJ cI cZ cB fO fU fW fG fL len size) H := hP.sub (ws' := (wd_X h0 qO qU qW qG qN qL cJ cI cZ cB fO fU fW fG fL len size)) [0, 1, 2, 3, 4, 5, 6] rfl
    have hD : va_D A (wd_X h0 qO qU qW qG qN qL cJ cI cZ cB fO fU fW fG fL len size) := hD.sub (ws' := (wd_X h0 qO qU qW qG qN qL cJ cI cZ cB fO fU fW fG fL len size)) [0, 1, 2, 3, 4, 5, 6] (by decide) rfl
    try dsimp only at hw
    refine lv_lstore (lv' := [(6, .long r41), (4, .long r28), (0, .ref h0), (1, .int a1), (2, .int a2), (3, .int a3)]) hx hb dc_X_setWidth_44 hl (Nat.le_of_ble_eq_true rfl) rfl (fun ls hl => ?_)
    exact B_46 _ _ _ a1 a2 r28 r41 fO fU fW fG fL len size hw hP hD hS (lv_sub hl [2, 3, 4, 1, 0] rfl)
set_option maxHeartbeats 4000000 in
set_option maxRecDepth 100000 in
theorem kt_X_bringTogether (l : Launch) (dC : Nat → ClassId) (dI : Nat → Nat → Nat) (cJ cI cZ cB : ClassId) (h0 qO qU qW qG qN qL : Nat) (sz : Nat) (a1 : Int32) (a2 : Int32) (fO : (Nat → Int64)) (fU : (Nat → Int64)) (fW : (Nat → Int32)) (fG : (Nat → Int32)) (fL : (Nat → Int32)) (len : Int32) (size : Int32) (post : (Nat → Int64) → (Nat → Int64) → (Nat → Int32) → (Nat → Int32) → (Nat → Int32) → Int32 → Int32 → Prop) (hw : wp_X_bringTogether post a1 a2 fO fU fW fG fL len size) : Met l yn_X_bringTogether ws_X_bringTogether rm_X_bringTogether (va_Pc [.ref h0, .int a1, .int a2] (pc_W (dC, dI) (ty_4 cJ cI cZ cB) (wd_X h0 qO qU qW qG qN qL cJ cI cZ cB fO fU fW fG fL len size) sz)) (qv_X dC dI cJ cI cZ cB h0 qO qU qW qG qN qL post (va_A (wd_X h0 qO qU qW qG qN qL cJ cI cZ cB fO fU fW fG fL len size) sz)) 0 0 (va_A (wd_X h0 qO qU qW qG qN qL cJ cI cZ cB fO fU fW fG fL len size) sz) := by
  refine Met.ofW (cc := cd_X_bringTogether) (maxL := 5) (ret := none) (by decide) rfl ?_
  intro p e s m args below meth c s₁ B hml hv
  obtain ⟨rfl, hsz, hP, hK, hD0, hE⟩ := hv
  have hx := B.exec
  have hb := B.bytes
  have hr := B.returns
  have hts := atoms_spec (ws := ws_X_bringTogether) B.pre
  have hq : ∀ {w : Cond}, w ∈ wg_all → w.before ([.ref h0, .int a1, .int a2] : List Value).toArray s = true := fun h => hts _ (List.mem_cons_of_mem _ h)
  have hu : ∀ L : List Cond, (∀ w ∈ L, w ∈ wg_all) → ∀ w ∈ L, w ∈ ws_X_bringTogether := fun L h w hw => List.mem_cons_of_mem _ (h w hw)
  have hown : s.vm.findClass "FourWords" = some m.cls := findClass_of_methodNamed B.named
  have hlocks := B.notSynchronized
  subst hsz
  have hD := hD0.self (sz := s.heap.size)
  generalize hAe : va_A (wd_X h0 qO qU qW qG qN qL cJ cI cZ cB fO fU fW fG fL len size) s.heap.size = A at hD ⊢
  have hA : ∀ q : Nat, s.heap.size ≤ q → A q := fun q h => by rw [← hAe]; exact Or.inr h
  have hS : va_S A s.heap s.heap [] := va_S.rf
  have hl := lv_entry [.ref h0, .int a1, .int a2] (n := 5) (Nat.le_of_ble_eq_true rfl)
  rw [lg_entry_eq]
  generalize (lg_sl [.ref h0, .int a1, .int a2] ++ List.replicate (5 - (lg_sl [.ref h0, .int a1, .int a2]).length) Slot.unset).toArray = ls at hl ⊢
  have hl : lv_has ls 5 [(0, .ref h0), (1, .int a1), (2, .int a2)] := hl
  have B_23 : ∀ (H : Heap) (locs : List Loc) (ls : Array Slot) (x1 : Int32) (x2 : Int32) (t0 : Int32) (fO : (Nat → Int64)) (fU : (Nat → Int64)) (fW : (Nat → Int32)) (fG : (Nat → Int32)) (fL : (Nat → Int32)) (len : Int32) (size : Int32), wp_X_bringTogether_23 post x1 x2 t0 fO fU fW fG fL len size → va_P (dC, dI) cs_3 (wd_X h0 qO qU qW qG qN qL cJ cI cZ cB fO fU fW fG fL len size) H → va_D A (wd_X h0 qO qU qW qG qN qL cJ cI cZ cB fO fU fW fG fL len size) → va_S A s.heap H locs → lv_has ls 5 [(0, .ref h0), (1, .int x1), (2, .int x2)] → W p l e (headSpec ws_X_bringTogether rm_X_bringTogether).room s m ([.ref h0, .int a1, .int a2] : List Value).toArray below meth c H locs 0 0 (MQ below (qv_X dC dI cJ cI cZ cB h0 qO qU qW qG qN qL post A) ([.ref h0, .int a1, .int a2] : List Value).toArray s 0 0 A) (F0 m 23 ls [.int t0]) := by
    intro H locs ls x1 x2 t0 fO fU fW fG fL len size hw hP hD hS hl
    unfold wp_X_bringTogether_23 at hw
    refine lv_istore_n (lv' := [(3, .int t0), (0, .ref h0), (1, .int x1), (2, .int x2)]) hx hb dc_X_bringTogether_23 rfl hl (Nat.le_of_ble_eq_true rfl) rfl (fun ls hl => ?_)
    refine lv_aload_n hx hb dc_X_bringTogether_24 rfl (lv_at hl 1 rfl) ?_
    refine va_get (D := (dC, dI)) (ci := 1) (v := .ref qW) (C := "FourWords") (T := tb_X) (N := 6) hx hb hts (hu _ um_X) hown hK hP 0 rfl rfl 2 (by decide) (hq mw_t42) (fun _ h9 => h9) rfl dc_X_bringTogether_25 ?_
    refine lv_iload_n hx hb dc_X_bringTogether_28 rfl (lv_at hl 2 rfl) ?_
    obtain ⟨hin, hw⟩ := hw
    refine va_iald hx hb hK hP 3 1 rfl rfl hin dc_X_bringTogether_29 ?_
    refine lv_aload_n hx hb dc_X_bringTogether_30 rfl (lv_at hl 1 rfl) ?_
    refine va_get (D := (dC, dI)) (ci := 1) (v := .ref qW) (C := "FourWords") (T := tb_X) (N := 6) hx hb hts (hu _ um_X) hown hK hP 0 rfl rfl 2 (by decide) (hq mw_t42) (fun _ h9 => h9) rfl dc_X_bringTogether_31 ?_
    refine lv_iload_n hx hb dc_X_bringTogether_34 rfl (lv_at hl 3 rfl) ?_
    obtain ⟨hin, hw⟩ := hw
    refine va_iald hx hb hK hP 3 1 rfl rfl hin dc_X_bringTogether_35 ?_
    refine va_mmax hx hb (hml.trans hl.1.symm) hown (hq mw_t190) (hq mw_t191) (hq mw_t10) (hq mw_t192) (Nat.le_of_ble_eq_true rfl) (Nat.le_of_ble_eq_true rfl) (Nat.zero_le _) (Nat.zero_le _) dc_X_bringTogether_36 ?_
    refine lv_topi (fun v39 e39 => ?_)
    have hw := hw v39 e39
    refine lv_istore (lv' := [(4, .int v39), (3, .int t0), (0, .ref h0), (1, .int x1), (2, .int x2)]) hx hb dc_X_bringTogether_39 hl (Nat.le_of_ble_eq_true rfl) rfl (fun ls hl => ?_)
    refine lv_aload_n hx hb dc_X_bringTogether_41 rfl (lv_at hl 2 rfl) ?_
    refine lv_iload_n hx hb dc_X_bringTogether_42 rfl (lv_at hl 3 rfl) ?_
    refine lv_iload hx hb dc_X_bringTogether_43 (lv_at hl 0 rfl) ?_
    refine lv_iload_n hx hb dc_X_bringTogether_45 rfl (lv_at hl 1 rfl) ?_
    refine gc_v (S := (Nat → Int64) × (Nat → Int64) × (Nat → Int32) × (Nat → Int32) × (Nat → Int32) × Int32 × Int32) (w1 := (fun u => (wd_X h0 qO qU qW qG qN qL cJ cI cZ cB u.1 u.2.1 u.2.2.1 u.2.2.2.1 u.2.2.2.2.1 u.2.2.2.2.2.1 u.2.2.2.2.2.2))) (wc := (wd_X h0 qO qU qW qG qN qL cJ cI cZ cB fO fU fW fG fL len size)) (wr := ([] : va_W)) (va_runV (As := [.int x1, .int v39, .int t0]) (rest := []) ⟨hx, hb, hml, hown, hts⟩ (kt_X_setWidth l dC dI cJ cI cZ cB h0 qO qU qW qG qN qL _ x1 v39 t0 fO fU fW fG fL len size _ hw) ⟨callB_of 3 hts (gw_in mw_t196) rfl rfl rfl (hq mw_t1) (hq mw_t193) (by decide +kernel) ⟨Nat.le_of_ble_eq_true rfl, Nat.le_of_ble_eq_true rfl⟩, hq mw_t195, hq mw_s6⟩ (pv_W (va_recv (q0 := 0) (ci := 1) hK hP rfl rfl) (hP.sub (ws' := (wd_X h0 qO qU qW qG qN qL cJ cI cZ cB fO fU fW fG fL len size)) [0, 1, 2, 3, 4, 5, 6] rfl) hK (hD.sub (ws' := (wd_X h0 qO qU qW qG qN qL cJ cI cZ cB fO fU fW fG fL len size)) [0, 1, 2, 3, 4, 5, 6] (by decide) rfl) hE) rfl rfl hl.1 rfl (lv_room (Nat.le_of_ble_eq_true rfl)) dc_X_bringTogether_46 ⟨Nat.le_of_ble_eq_true rfl, Nat.le_of_ble_eq_true rfl⟩) hP hD hS hA [0, 1, 2, 3, 4, 5, 6] [] rfl rfl (by decide) (by decide) (fun u H locs hw hP hD hS => ?_)
    obtain ⟨fO46, fU46, fW46, fG46, fL46, len46, size46⟩ := u
    have hP : va_P (dC, dI) cs_3 (wd_X h0 qO qU qW qG qN qL cJ cI cZ cB fO46 fU46 fW46 fG46 fL46 len46 size46) H := hP.sub (ws' := (wd_X h0 qO qU qW qG qN qL cJ cI cZ cB fO46 fU46 fW46 fG46 fL46 len46 size46)) [0, 1, 2, 3, 4, 5, 6] rfl
    have hD : va_D A (wd_X h0 qO qU qW qG qN qL cJ cI cZ cB fO46 fU46 fW46 fG46 fL46 len46 size46) := hD.sub (ws' := (wd_X h0 qO qU qW qG qN qL cJ cI cZ cB fO46 fU46 fW46 fG46 fL46 len46 size46)) [0, 1, 2, 3, 4, 5, 6] (by decide) rfl
    try dsimp only at hw
    refine lv_aload_n hx hb dc_X_bringTogether_49 rfl (lv_at hl 2 rfl) ?_
    refine lv_iload_n hx hb dc_X_bringTogether_50 rfl (lv_at hl 4 rfl) ?_
    refine lv_iload hx hb dc_X_bringTogether_51 (lv_at hl 0 rfl) ?_
    refine lv_iload_n hx hb dc_X_bringTogether_53 rfl (lv_at hl 1 rfl) ?_
    refine gc_v (S := (Nat → Int64) × (Nat → Int64) × (Nat → Int32) × (Nat → Int32) × (Nat → Int32) × Int32 × Int32) (w1 := (fun u => (wd_X h0 qO qU qW qG qN qL cJ cI cZ cB u.1 u.2.1 u.2.2.1 u.2.2.2.1 u.2.2.2.2.1 u.2.2.2.2.2.1 u.2.2.2.2.2.2))) (wc := (wd_X h0 qO qU qW qG qN qL cJ cI cZ cB fO46 fU46 fW46 fG46 fL46 len46 size46)) (wr := ([] : va_W)) (va_runV (As := [.int x2, .int v39, .int t0]) (rest := []) ⟨hx, hb, hml, hown, hts⟩ (kt_X_setWidth l dC dI cJ cI cZ cB h0 qO qU qW qG qN qL _ x2 v39 t0 fO46 fU46 fW46 fG46 fL46 len46 size46 _ hw) ⟨callB_of 3 hts (gw_in mw_t196) rfl rfl rfl (hq mw_t1) (hq mw_t193) (by decide +kernel) ⟨Nat.le_of_ble_eq_true rfl, Nat.le_of_ble_eq_true rfl⟩, hq mw_t195, hq mw_s6⟩ (pv_W (va_recv (q0 := 0) (ci := 1) hK hP rfl rfl) (hP.sub (ws' := (wd_X h0 qO qU qW qG qN qL cJ cI cZ cB fO46 fU46 fW46 fG46 fL46 len46 size46)) [0, 1, 2, 3, 4, 5, 6] rfl) hK (hD.sub (ws' := (wd_X h0 qO qU qW qG qN qL cJ cI cZ cB fO46 fU46 fW46 fG46 fL46 len46 size46)) [0, 1, 2, 3, 4, 5, 6] (by decide) rfl) hE) rfl rfl hl.1 rfl (lv_room (Nat.le_of_ble_eq_true rfl)) dc_X_bringTogether_54 ⟨Nat.le_of_ble_eq_true rfl, Nat.le_of_ble_eq_true rfl⟩) hP hD hS hA [0, 1, 2, 3, 4, 5, 6] [] rfl rfl (by decide) (by decide) (fun u H locs hw hP hD hS => ?_)
    obtain ⟨fO54, fU54, fW54, fG54, fL54, len54, size54⟩ := u
    have hP : va_P (dC, dI) cs_3 (wd_X h0 qO qU qW qG qN qL cJ cI cZ cB fO54 fU54 fW54 fG54 fL54 len54 size54) H := hP.sub (ws' := (wd_X h0 qO qU qW qG qN qL cJ cI cZ cB fO54 fU54 fW54 fG54 fL54 len54 size54)) [0, 1, 2, 3, 4, 5, 6] rfl
    have hD : va_D A (wd_X h0 qO qU qW qG qN qL cJ cI cZ cB fO54 fU54 fW54 fG54 fL54 len54 size54) := hD.sub (ws' := (wd_X h0 qO qU qW qG qN qL cJ cI cZ cB fO54 fU54 fW54 fG54 fL54 len54 size54)) [0, 1, 2, 3, 4, 5, 6] (by decide) rfl
    try dsimp only at hw
    refine lv_aload_n hx hb dc_X_bringTogether_57 rfl (lv_at hl 2 rfl) ?_
    refine va_get (D := (dC, dI)) (ci := 1) (v := .ref qG) (C := "FourWords") (T := tb_X) (N := 6) hx hb hts (hu _ um_X) hown hK hP 0 rfl rfl 3 (by decide) (hq mw_t43) (fun _ h9 => h9) rfl dc_X_bringTogether_58 ?_
    refine lv_iload_n hx hb dc_X_bringTogether_61 rfl (lv_at hl 3 rfl) ?_
    refine lv_iload_n hx hb dc_X_bringTogether_62 rfl (lv_at hl 1 rfl) ?_
    obtain ⟨hin, hw⟩ := hw
    refine va_zast hx hb hK hP hD hS 4 2 rfl rfl hin dc_X_bringTogether_63 (fun H locs hP hD hS => ?_)
    have hP : va_P (dC, dI) cs_3 (wd_X h0 qO qU qW qG qN qL cJ cI cZ cB fO54 fU54 fW54 (upd fG54 x1.toNatClampNeg (vp_nar .boolean t0)) fL54 len54 size54) H := hP
    have hD : va_D A (wd_X h0 qO qU qW qG qN qL cJ cI cZ cB fO54 fU54 fW54 (upd fG54 x1.toNatClampNeg (vp_nar .boolean t0)) fL54 len54 size54) := hD
    refine lv_aload_n hx hb dc_X_bringTogether_64 rfl (lv_at hl 2 rfl) ?_
    refine va_get (D := (dC, dI)) (ci := 1) (v := .ref qG) (C := "FourWords") (T := tb_X) (N := 6) hx hb hts (hu _ um_X) hown hK hP 0 rfl rfl 3 (by decide) (hq mw_t43) (fun _ h9 => h9) rfl dc_X_bringTogether_65 ?_
    refine lv_iload_n hx hb dc_X_bringTogether_68 rfl (lv_at hl 4 rfl) ?_
    refine lv_iload_n hx hb dc_X_bringTogether_69 rfl (lv_at hl 1 rfl) ?_
    obtain ⟨hin, hw⟩ := hw
    refine va_zast hx hb hK hP hD hS 4 2 rfl rfl hin dc_X_bringTogether_70 (fun H locs hP hD hS => ?_)
    have hP : va_P (dC, dI) cs_3 (wd_X h0 qO qU qW qG qN qL cJ cI cZ cB fO54 fU54 fW54 (upd (upd fG54 x1.toNatClampNeg (vp_nar .boolean t0)) x2.toNatClampNeg (vp_nar .boolean t0)) fL54 len54 size54) H := hP
    have hD : va_D A (wd_X h0 qO qU qW qG qN qL cJ cI cZ cB fO54 fU54 fW54 (upd (upd fG54 x1.toNatClampNeg (vp_nar .boolean t0)) x2.toNatClampNeg (vp_nar .boolean t0)) fL54 len54 size54) := hD
    exact W.vret hx hb hr (fun t ht hW => ⟨⟨(fO54, fU54, fW54, upd (upd fG54 x1.toNatClampNeg (vp_nar .boolean t0)) x2.toNatClampNeg (vp_nar .boolean t0), fL54, len54, size54), rfl, hw, by rw [ht]; exact hP, va_K.moved hW.alike hK, hD⟩, hS.F ht⟩) hS.2.2 dc_X_bringTogether_71
  have B_22 : ∀ (H : Heap) (locs : List Loc) (ls : Array Slot) (x1 : Int32) (x2 : Int32) (fO : (Nat → Int64)) (fU : (Nat → Int64)) (fW : (Nat → Int32)) (fG : (Nat → Int32)) (fL : (Nat → Int32)) (len : Int32) (size : Int32), wp_X_bringTogether_22 post x1 x2 fO fU fW fG fL len size → va_P (dC, dI) cs_3 (wd_X h0 qO qU qW qG qN qL cJ cI cZ cB fO fU fW fG fL len size) H → va_D A (wd_X h0 qO qU qW qG qN qL cJ cI cZ cB fO fU fW fG fL len size) → va_S A s.heap H locs → lv_has ls 5 [(0, .ref h0), (1, .int x1), (2, .int x2)] → W p l e (headSpec ws_X_bringTogether rm_X_bringTogether).room s m ([.ref h0, .int a1, .int a2] : List Value).toArray below meth c H locs 0 0 (MQ below (qv_X dC dI cJ cI cZ cB h0 qO qU qW qG qN qL post A) ([.ref h0, .int a1, .int a2] : List Value).toArray s 0 0 A) (F0 m 22 ls []) := by
    intro H locs ls x1 x2 fO fU fW fG fL len size hw hP hD hS hl
    unfold wp_X_bringTogether_22 at hw
    refine lv_iconst (v := 0) hx hb dc_X_bringTogether_22 (by decide) ?_
    exact B_23 _ _ _ x1 x2 (0 : Int32) fO fU fW fG fL len size hw hP hD hS (lv_sub hl [0, 1, 2] rfl)
  unfold wp_X_bringTogether at hw
  refine lv_aload_n hx hb dc_X_bringTogether_0 rfl (lv_at hl 0 rfl) ?_
  refine va_get (D := (dC, dI)) (ci := 1) (v := .ref qG) (C := "FourWords") (T := tb_X) (N := 6) hx hb hts (hu _ um_X) hown hK hP 0 rfl rfl 3 (by decide) (hq mw_t43) (fun _ h9 => h9) rfl dc_X_bringTogether_1 ?_
  refine lv_iload_n hx hb dc_X_bringTogether_4 rfl (lv_at hl 1 rfl) ?_
  obtain ⟨hin, hw⟩ := hw
  refine va_zald hx hb hK hP 4 2 rfl rfl hin dc_X_bringTogether_5 ?_
  obtain ⟨hw1, hw2⟩ := hw
  refine lv_if_eq (tgt := 22) hx hb dc_X_bringTogether_6 (by decide) (fun hc => ?_) (fun hc => ?_)
  · have hw := hw1 hc
    clear hw1 hw2
    exact B_22 _ _ _ a1 a2 fO fU fW fG fL len size hw hP hD hS (lv_sub hl [0, 1, 2] rfl)
  · have hw := hw2 hc
    clear hw1 hw2
    refine lv_aload_n hx hb dc_X_bringTogether_9 rfl (lv_at hl 0 rfl) ?_
    refine va_get (D := (dC, dI)) (ci := 1) (v := .ref qG) (C := "FourWords") (T := tb_X) (N := 6) hx hb hts (hu _ um_X) hown hK hP 0 rfl rfl 3 (by decide) (hq mw_t43) (fun _ h9 => h9) rfl dc_X_bringTogether_10 ?_
    refine lv_iload_n hx hb dc_X_bringTogether_13 rfl (lv_at hl 2 rfl) ?_
    obtain ⟨hin, hw⟩ := hw
    refine va_zald hx hb hK hP 4 2 rfl rfl hin dc_X_bringTogether_14 ?_
    obtain ⟨hw1, hw2⟩ := hw
    refine lv_if_eq (tgt := 22) hx hb dc_X_bringTogether_15 (by decide) (fun hc => ?_) (fun hc => ?_)
    · have hw := hw1 hc
      clear hw1 hw2
      exact B_22 _ _ _ a1 a2 fO fU fW fG fL len size hw hP hD hS (lv_sub hl [0, 1, 2] rfl)
    · have hw := hw2 hc
      clear hw1 hw2
      refine lv_iconst (v := 1) hx hb dc_X_bringTogether_18 (by decide) ?_
      refine lv_goto (tgt := 23) hx hb dc_X_bringTogether_19 (by decide) ?_
      exact B_23 _ _ _ a1 a2 (1 : Int32) fO fU fW fG fL len size hw hP hD hS (lv_sub hl [0, 1, 2] rfl)
set_option maxHeartbeats 4000000 in
set_option maxRecDepth 100000 in
theorem kt_X_sureOnes (l : Launch) (dC : Nat → ClassId) (dI : Nat → Nat → Nat) (cJ cI cZ cB : ClassId) (h0 qO qU qW qG qN qL : Nat) (sz : Nat) (a1 : Int32) (fO : (Nat → Int64)) (fU : (Nat → Int64)) (fW : (Nat → Int32)) (fG : (Nat → Int32)) (fL : (Nat → Int32)) (len : Int32) (size : Int32) (post : Int64 → (Nat → Int64) → (Nat → Int64) → (Nat → Int32) → (Nat → Int32) → (Nat → Int32) → Int32 → Int32 → Prop) (hw : wp_X_sureOnes post a1 fO fU fW fG fL len size) : Met l yn_X_sureOnes ws_X_sureOnes rm_X_sureOnes (va_Pc [.ref h0, .int a1] (pc_W (dC, dI) (ty_4 cJ cI cZ cB) (wd_X h0 qO qU qW qG qN qL cJ cI cZ cB fO fU fW fG fL len size) sz)) (ql_X dC dI cJ cI cZ cB h0 qO qU qW qG qN qL post (va_A (wd_X h0 qO qU qW qG qN qL cJ cI cZ cB fO fU fW fG fL len size) sz)) 0 0 (va_A (wd_X h0 qO qU qW qG qN qL cJ cI cZ cB fO fU fW fG fL len size) sz) := by
  refine Met.ofW (cc := cd_X_sureOnes) (maxL := 2) (ret := (some .long)) (by decide) rfl ?_
  intro p e s m args below meth c s₁ B hml hv
  obtain ⟨rfl, hsz, hP, hK, hD0, hE⟩ := hv
  have hx := B.exec
  have hb := B.bytes
  have hr := B.returns
  have hts := atoms_spec (ws := ws_X_sureOnes) B.pre
  have hq : ∀ {w : Cond}, w ∈ wg_all → w.before ([.ref h0, .int a1] : List Value).toArray s = true := fun h => hts _ (List.mem_cons_of_mem _ h)
  have hu : ∀ L : List Cond, (∀ w ∈ L, w ∈ wg_all) → ∀ w ∈ L, w ∈ ws_X_sureOnes := fun L h w hw => List.mem_cons_of_mem _ (h w hw)
  have hown : s.vm.findClass "FourWords" = some m.cls := findClass_of_methodNamed B.named
  have hlocks := B.notSynchronized
  subst hsz
  have hD := hD0.self (sz := s.heap.size)
  generalize hAe : va_A (wd_X h0 qO qU qW qG qN qL cJ cI cZ cB fO fU fW fG fL len size) s.heap.size = A at hD ⊢
  have hA : ∀ q : Nat, s.heap.size ≤ q → A q := fun q h => by rw [← hAe]; exact Or.inr h
  have hS : va_S A s.heap s.heap [] := va_S.rf
  have hl := lv_entry [.ref h0, .int a1] (n := 2) (Nat.le_of_ble_eq_true rfl)
  rw [lg_entry_eq]
  generalize (lg_sl [.ref h0, .int a1] ++ List.replicate (2 - (lg_sl [.ref h0, .int a1]).length) Slot.unset).toArray = ls at hl ⊢
  have hl : lv_has ls 2 [(0, .ref h0), (1, .int a1)] := hl
  unfold wp_X_sureOnes at hw
  refine lv_aload_n hx hb dc_X_sureOnes_0 rfl (lv_at hl 0 rfl) ?_
  refine va_get (D := (dC, dI)) (ci := 1) (v := .ref qO) (C := "FourWords") (T := tb_X) (N := 6) hx hb hts (hu _ um_X) hown hK hP 0 rfl rfl 0 (by decide) (hq mw_t40) (fun _ h9 => h9) rfl dc_X_sureOnes_1 ?_
  refine lv_iload_n hx hb dc_X_sureOnes_4 rfl (lv_at hl 1 rfl) ?_
  obtain ⟨hin, hw⟩ := hw
  refine va_lald hx hb hK hP 1 0 rfl rfl hin dc_X_sureOnes_5 ?_
  refine lv_aload_n hx hb dc_X_sureOnes_6 rfl (lv_at hl 0 rfl) ?_
  refine va_get (D := (dC, dI)) (ci := 1) (v := .ref qU) (C := "FourWords") (T := tb_X) (N := 6) hx hb hts (hu _ um_X) hown hK hP 0 rfl rfl 1 (by decide) (hq mw_t41) (fun _ h9 => h9) rfl dc_X_sureOnes_7 ?_
  refine lv_iload_n hx hb dc_X_sureOnes_10 rfl (lv_at hl 1 rfl) ?_
  obtain ⟨hin, hw⟩ := hw
  refine va_lald hx hb hK hP 2 0 rfl rfl hin dc_X_sureOnes_11 ?_
  refine lv_ldc2 (v := (-1)) hx hb hown (hq mw_t212) dc_X_sureOnes_12 ?_
  refine lv_lxor hx hb dc_X_sureOnes_15 ?_
  refine lv_land hx hb dc_X_sureOnes_16 ?_
  exact W.lret (v := (fO a1.toNatClampNeg) &&& ((fU a1.toNatClampNeg) ^^^ (-1 : Int64))) hx hb hr (fun t ht hW => ⟨⟨(fO a1.toNatClampNeg) &&& ((fU a1.toNatClampNeg) ^^^ (-1 : Int64)), (fO, fU, fW, fG, fL, len, size), rfl, hw, by rw [ht]; exact hP, va_K.moved hW.alike hK, hD⟩, hS.F ht⟩) hS.2.2 dc_X_sureOnes_17
set_option maxHeartbeats 4000000 in
set_option maxRecDepth 100000 in
theorem kt_X_sureZeros (l : Launch) (dC : Nat → ClassId) (dI : Nat → Nat → Nat) (cJ cI cZ cB : ClassId) (h0 qO qU qW qG qN qL : Nat) (sz : Nat) (a1 : Int32) (fO : (Nat → Int64)) (fU : (Nat → Int64)) (fW : (Nat → Int32)) (fG : (Nat → Int32)) (fL : (Nat → Int32)) (len : Int32) (size : Int32) (post : Int64 → (Nat → Int64) → (Nat → Int64) → (Nat → Int32) → (Nat → Int32) → (Nat → Int32) → Int32 → Int32 → Prop) (hw : wp_X_sureZeros post a1 fO fU fW fG fL len size) : Met l yn_X_sureZeros ws_X_sureZeros rm_X_sureZeros (va_Pc [.ref h0, .int a1] (pc_W (dC, dI) (ty_4 cJ cI cZ cB) (wd_X h0 qO qU qW qG qN qL cJ cI cZ cB fO fU fW fG fL len size) sz)) (ql_X dC dI cJ cI cZ cB h0 qO qU qW qG qN qL post (va_A (wd_X h0 qO qU qW qG qN qL cJ cI cZ cB fO fU fW fG fL len size) sz)) 0 0 (va_A (wd_X h0 qO qU qW qG qN qL cJ cI cZ cB fO fU fW fG fL len size) sz) := by
  refine Met.ofW (cc := cd_X_sureZeros) (maxL := 2) (ret := (some .long)) (by decide) rfl ?_
  intro p e s m args below meth c s₁ B hml hv
  obtain ⟨rfl, hsz, hP, hK, hD0, hE⟩ := hv
  have hx := B.exec
  have hb := B.bytes
  have hr := B.returns
  have hts := atoms_spec (ws := ws_X_sureZeros) B.pre
  have hq : ∀ {w : Cond}, w ∈ wg_all → w.before ([.ref h0, .int a1] : List Value).toArray s = true := fun h => hts _ (List.mem_cons_of_mem _ h)
  have hu : ∀ L : List Cond, (∀ w ∈ L, w ∈ wg_all) → ∀ w ∈ L, w ∈ ws_X_sureZeros := fun L h w hw => List.mem_cons_of_mem _ (h w hw)
  have hown : s.vm.findClass "FourWords" = some m.cls := findClass_of_methodNamed B.named
  have hlocks := B.notSynchronized
  subst hsz
  have hD := hD0.self (sz := s.heap.size)
  generalize hAe : va_A (wd_X h0 qO qU qW qG qN qL cJ cI cZ cB fO fU fW fG fL len size) s.heap.size = A at hD ⊢
  have hA : ∀ q : Nat, s.heap.size ≤ q → A q := fun q h => by rw [← hAe]; exact Or.inr h
  have hS : va_S A s.heap s.heap [] := va_S.rf
  have hl := lv_entry [.ref h0, .int a1] (n := 2) (Nat.le_of_ble_eq_true rfl)
  rw [lg_entry_eq]
  generalize (lg_sl [.ref h0, .int a1] ++ List.replicate (2 - (lg_sl [.ref h0, .int a1]).length) Slot.unset).toArray = ls at hl ⊢
  have hl : lv_has ls 2 [(0, .ref h0), (1, .int a1)] := hl
  unfold wp_X_sureZeros at hw
  refine lv_aload_n hx hb dc_X_sureZeros_0 rfl (lv_at hl 0 rfl) ?_
  refine va_get (D := (dC, dI)) (ci := 1) (v := .ref qO) (C := "FourWords") (T := tb_X) (N := 6) hx hb hts (hu _ um_X) hown hK hP 0 rfl rfl 0 (by decide) (hq mw_t40) (fun _ h9 => h9) rfl dc_X_sureZeros_1 ?_
  refine lv_iload_n hx hb dc_X_sureZeros_4 rfl (lv_at hl 1 rfl) ?_
  obtain ⟨hin, hw⟩ := hw
  refine va_lald hx hb hK hP 1 0 rfl rfl hin dc_X_sureZeros_5 ?_
  refine lv_aload_n hx hb dc_X_sureZeros_6 rfl (lv_at hl 0 rfl) ?_
  refine va_get (D := (dC, dI)) (ci := 1) (v := .ref qU) (C := "FourWords") (T := tb_X) (N := 6) hx hb hts (hu _ um_X) hown hK hP 0 rfl rfl 1 (by decide) (hq mw_t41) (fun _ h9 => h9) rfl dc_X_sureZeros_7 ?_
  refine lv_iload_n hx hb dc_X_sureZeros_10 rfl (lv_at hl 1 rfl) ?_
  obtain ⟨hin, hw⟩ := hw
  refine va_lald hx hb hK hP 2 0 rfl rfl hin dc_X_sureZeros_11 ?_
  refine lv_lor hx hb dc_X_sureZeros_12 ?_
  refine lv_ldc2 (v := (-1)) hx hb hown (hq mw_t212) dc_X_sureZeros_13 ?_
  refine lv_lxor hx hb dc_X_sureZeros_16 ?_
  refine lv_aload_n hx hb dc_X_sureZeros_17 rfl (lv_at hl 0 rfl) ?_
  refine va_get (D := (dC, dI)) (ci := 1) (v := .ref qW) (C := "FourWords") (T := tb_X) (N := 6) hx hb hts (hu _ um_X) hown hK hP 0 rfl rfl 2 (by decide) (hq mw_t42) (fun _ h9 => h9) rfl dc_X_sureZeros_18 ?_
  refine lv_iload_n hx hb dc_X_sureZeros_21 rfl (lv_at hl 1 rfl) ?_
  obtain ⟨hin, hw⟩ := hw
  refine va_iald hx hb hK hP 3 1 rfl rfl hin dc_X_sureZeros_22 ?_
  refine gc_l (S := Unit) (w1 := (fun u => ([] : va_W))) (wc := ([] : va_W)) (wr := ([(h0, .inr (1, [.ref qO, .ref qU, .ref qW, .ref qG, .ref qN, .int size])), (qO, .inl (cJ, 64, .inr (.inl fO))), (qU, .inl (cJ, 64, .inr (.inl fU))), (qW, .inl (cI, 64, .inl fW)), (qG, .inl (cZ, 64, .inl fG)), (qN, .inr (0, [.ref qL, .int len])), (qL, .inl (cB, 64, .inl fL))] : va_W)) (va_runSN (As := [.int (fW a1.toNatClampNeg)]) (rest := [.long (((fO a1.toNatClampNeg) ||| (fU a1.toNatClampNeg)) ^^^ (-1 : Int64))]) ⟨hx, hb, hml, hown, hts⟩ (kt_B_lowest l dC dI cJ cI cZ cB _ (fW a1.toNatClampNeg) _ hw) ⟨va_cnB 1 hts (gw_in mw_t172) rfl rfl rfl (en_X157 hE) (hq mw_t9) (by decide +kernel) ⟨Nat.le_of_ble_eq_true rfl, Nat.le_of_ble_eq_true rfl⟩, hq mw_t171, trivial⟩ (ps_W (hP.sub (ws' := ([] : va_W)) [] rfl) hK (hD.sub (ws' := ([] : va_W)) [] (by decide) rfl) hE) rfl rfl hl.1 rfl (lv_room (Nat.le_of_ble_eq_true rfl)) dc_X_sureZeros_23 ⟨Nat.le_of_ble_eq_true rfl, Nat.le_of_ble_eq_true rfl⟩) hP hD hS hA [] [0, 1, 2, 3, 4, 5, 6] rfl rfl (by decide) (by decide) (fun r23 u H locs hw hP hD hS => ?_)
  have hP : va_P (dC, dI) cs_3 (wd_X h0 qO qU qW qG qN qL cJ cI cZ cB fO fU fW fG fL len size) H := hP.sub (ws' := (wd_X h0 qO qU qW qG qN qL cJ cI cZ cB fO fU fW fG fL len size)) [0, 1, 2, 3, 4, 5, 6] rfl
  have hD : va_D A (wd_X h0 qO qU qW qG qN qL cJ cI cZ cB fO fU fW fG fL len size) := hD.sub (ws' := (wd_X h0 qO qU qW qG qN qL cJ cI cZ cB fO fU fW fG fL len size)) [0, 1, 2, 3, 4, 5, 6] (by decide) rfl
  try dsimp only at hw
  refine lv_land hx hb dc_X_sureZeros_26 ?_
  exact W.lret (v := (((fO a1.toNatClampNeg) ||| (fU a1.toNatClampNeg)) ^^^ (-1 : Int64)) &&& r23) hx hb hr (fun t ht hW => ⟨⟨(((fO a1.toNatClampNeg) ||| (fU a1.toNatClampNeg)) ^^^ (-1 : Int64)) &&& r23, (fO, fU, fW, fG, fL, len, size), rfl, hw, by rw [ht]; exact hP, va_K.moved hW.alike hK, hD⟩, hS.F ht⟩) hS.2.2 dc_X_sureZeros_27
set_option maxHeartbeats 4000000 in
set_option maxRecDepth 100000 in
theorem kt_X_number (l : Launch) (dC : Nat → ClassId) (dI : Nat → Nat → Nat) (cJ cI cZ cB : ClassId) (h0 qO qU qW qG qN qL : Nat) (sz : Nat) (a1 : Int32) (fO : (Nat → Int64)) (fU : (Nat → Int64)) (fW : (Nat → Int32)) (fG : (Nat → Int32)) (fL : (Nat → Int32)) (len : Int32) (size : Int32) (post : Int64 → (Nat → Int64) → (Nat → Int64) → (Nat → Int32) → (Nat → Int32) → (Nat → Int32) → Int32 → Int32 → Prop) (hw : wp_X_number post a1 fO fU fW fG fL len size) : Met l yn_X_number ws_X_number rm_X_number (va_Pc [.ref h0, .int a1] (pc_W (dC, dI) (ty_4 cJ cI cZ cB) (wd_X h0 qO qU qW qG qN qL cJ cI cZ cB fO fU fW fG fL len size) sz)) (ql_X dC dI cJ cI cZ cB h0 qO qU qW qG qN qL post (va_A (wd_X h0 qO qU qW qG qN qL cJ cI cZ cB fO fU fW fG fL len size) sz)) 0 0 (va_A (wd_X h0 qO qU qW qG qN qL cJ cI cZ cB fO fU fW fG fL len size) sz) := by
  refine Met.ofW (cc := cd_X_number) (maxL := 2) (ret := (some .long)) (by decide) rfl ?_
  intro p e s m args below meth c s₁ B hml hv
  obtain ⟨rfl, hsz, hP, hK, hD0, hE⟩ := hv
  have hx := B.exec
  have hb := B.bytes
  have hr := B.returns
  have hts := atoms_spec (ws := ws_X_number) B.pre
  have hq : ∀ {w : Cond}, w ∈ wg_all → w.before ([.ref h0, .int a1] : List Value).toArray s = true := fun h => hts _ (List.mem_cons_of_mem _ h)
  have hu : ∀ L : List Cond, (∀ w ∈ L, w ∈ wg_all) → ∀ w ∈ L, w ∈ ws_X_number := fun L h w hw => List.mem_cons_of_mem _ (h w hw)
  have hown : s.vm.findClass "FourWords" = some m.cls := findClass_of_methodNamed B.named
  have hlocks := B.notSynchronized
  subst hsz
  have hD := hD0.self (sz := s.heap.size)
  generalize hAe : va_A (wd_X h0 qO qU qW qG qN qL cJ cI cZ cB fO fU fW fG fL len size) s.heap.size = A at hD ⊢
  have hA : ∀ q : Nat, s.heap.size ≤ q → A q := fun q h => by rw [← hAe]; exact Or.inr h
  have hS : va_S A s.heap s.heap [] := va_S.rf
  have hl := lv_entry [.ref h0, .int a1] (n := 2) (Nat.le_of_ble_eq_true rfl)
  rw [lg_entry_eq]
  generalize (lg_sl [.ref h0, .int a1] ++ List.replicate (2 - (lg_sl [.ref h0, .int a1]).length) Slot.unset).toArray = ls at hl ⊢
  have hl : lv_has ls 2 [(0, .ref h0), (1, .int a1)] := hl
  have B_33 : ∀ (H : Heap) (locs : List Loc) (ls : Array Slot) (t0 : Int64) (fO : (Nat → Int64)) (fU : (Nat → Int64)) (fW : (Nat → Int32)) (fG : (Nat → Int32)) (fL : (Nat → Int32)) (len : Int32) (size : Int32), wp_X_number_33 post t0 fO fU fW fG fL len size → va_P (dC, dI) cs_3 (wd_X h0 qO qU qW qG qN qL cJ cI cZ cB fO fU fW fG fL len size) H → va_D A (wd_X h0 qO qU qW qG qN qL cJ cI cZ cB fO fU fW fG fL len size) → va_S A s.heap H locs → lv_has ls 2 [] → W p l e (headSpec ws_X_number rm_X_number).room s m ([.ref h0, .int a1] : List Value).toArray below meth c H locs 0 0 (MQ below (ql_X dC dI cJ cI cZ cB h0 qO qU qW qG qN qL post A) ([.ref h0, .int a1] : List Value).toArray s 0 0 A) (F0 m 33 ls [.long t0]) := by
    intro H locs ls t0 fO fU fW fG fL len size hw hP hD hS hl
    unfold wp_X_number_33 at hw
    exact W.lret (v := t0) hx hb hr (fun t ht hW => ⟨⟨t0, (fO, fU, fW, fG, fL, len, size), rfl, hw, by rw [ht]; exact hP, va_K.moved hW.alike hK, hD⟩, hS.F ht⟩) hS.2.2 dc_X_number_33
  unfold wp_X_number at hw
  refine lv_aload_n hx hb dc_X_number_0 rfl (lv_at hl 0 rfl) ?_
  refine va_get (D := (dC, dI)) (ci := 1) (v := .ref qG) (C := "FourWords") (T := tb_X) (N := 6) hx hb hts (hu _ um_X) hown hK hP 0 rfl rfl 3 (by decide) (hq mw_t43) (fun _ h9 => h9) rfl dc_X_number_1 ?_
  refine lv_iload_n hx hb dc_X_number_4 rfl (lv_at hl 1 rfl) ?_
  obtain ⟨hin, hw⟩ := hw
  refine va_zald hx hb hK hP 4 2 rfl rfl hin dc_X_number_5 ?_
  obtain ⟨hw1, hw2⟩ := hw
  refine lv_if_eq (tgt := 27) hx hb dc_X_number_6 (by decide) (fun hc => ?_) (fun hc => ?_)
  · have hw := hw1 hc
    clear hw1 hw2
    refine lv_aload_n hx hb dc_X_number_27 rfl (lv_at hl 0 rfl) ?_
    refine va_get (D := (dC, dI)) (ci := 1) (v := .ref qO) (C := "FourWords") (T := tb_X) (N := 6) hx hb hts (hu _ um_X) hown hK hP 0 rfl rfl 0 (by decide) (hq mw_t40) (fun _ h9 => h9) rfl dc_X_number_28 ?_
    refine lv_iload_n hx hb dc_X_number_31 rfl (lv_at hl 1 rfl) ?_
    obtain ⟨hin, hw⟩ := hw
    refine va_lald hx hb hK hP 1 0 rfl rfl hin dc_X_number_32 ?_
    exact B_33 _ _ _ (fO a1.toNatClampNeg) fO fU fW fG fL len size hw hP hD hS (lv_sub hl [] rfl)
  · have hw := hw2 hc
    clear hw1 hw2
    refine lv_aload_n hx hb dc_X_number_9 rfl (lv_at hl 0 rfl) ?_
    refine va_get (D := (dC, dI)) (ci := 1) (v := .ref qO) (C := "FourWords") (T := tb_X) (N := 6) hx hb hts (hu _ um_X) hown hK hP 0 rfl rfl 0 (by decide) (hq mw_t40) (fun _ h9 => h9) rfl dc_X_number_10 ?_
    refine lv_iload_n hx hb dc_X_number_13 rfl (lv_at hl 1 rfl) ?_
    obtain ⟨hin, hw⟩ := hw
    refine va_lald hx hb hK hP 1 0 rfl rfl hin dc_X_number_14 ?_
    refine lv_aload_n hx hb dc_X_number_15 rfl (lv_at hl 0 rfl) ?_
    refine va_get (D := (dC, dI)) (ci := 1) (v := .ref qW) (C := "FourWords") (T := tb_X) (N := 6) hx hb hts (hu _ um_X) hown hK hP 0 rfl rfl 2 (by decide) (hq mw_t42) (fun _ h9 => h9) rfl dc_X_number_16 ?_
    refine lv_iload_n hx hb dc_X_number_19 rfl (lv_at hl 1 rfl) ?_
    obtain ⟨hin, hw⟩ := hw
    refine va_iald hx hb hK hP 3 1 rfl rfl hin dc_X_number_20 ?_
    refine gc_l (S := Unit) (w1 := (fun u => ([] : va_W))) (wc := ([] : va_W)) (wr := ([(h0, .inr (1, [.ref qO, .ref qU, .ref qW, .ref qG, .ref qN, .int size])), (qO, .inl (cJ, 64, .inr (.inl fO))), (qU, .inl (cJ, 64, .inr (.inl fU))), (qW, .inl (cI, 64, .inl fW)), (qG, .inl (cZ, 64, .inl fG)), (qN, .inr (0, [.ref qL, .int len])), (qL, .inl (cB, 64, .inl fL))] : va_W)) (va_runSN (As := [.long (fO a1.toNatClampNeg), .int (fW a1.toNatClampNeg)]) (rest := []) ⟨hx, hb, hml, hown, hts⟩ (kt_B_withHighestInFront l dC dI cJ cI cZ cB _ (fO a1.toNatClampNeg) (fW a1.toNatClampNeg) _ hw) ⟨va_cnB 2 hts (gw_in mw_t199) rfl rfl rfl (en_X164 hE) (hq mw_t9) (by decide +kernel) ⟨Nat.le_of_ble_eq_true rfl, Nat.le_of_ble_eq_true rfl⟩, hq mw_t198, trivial⟩ (ps_W (hP.sub (ws' := ([] : va_W)) [] rfl) hK (hD.sub (ws' := ([] : va_W)) [] (by decide) rfl) hE) rfl rfl hl.1 rfl (lv_room (Nat.le_of_ble_eq_true rfl)) dc_X_number_21 ⟨Nat.le_of_ble_eq_true rfl, Nat.le_of_ble_eq_true rfl⟩) hP hD hS hA [] [0, 1, 2, 3, 4, 5, 6] rfl rfl (by decide) (by decide) (fun r21 u H locs hw hP hD hS => ?_)
    have hP : va_P (dC, dI) cs_3 (wd_X h0 qO qU qW qG qN qL cJ cI cZ cB fO fU fW fG fL len size) H := hP.sub (ws' := (wd_X h0 qO qU qW qG qN qL cJ cI cZ cB fO fU fW fG fL len size)) [0, 1, 2, 3, 4, 5, 6] rfl
    have hD : va_D A (wd_X h0 qO qU qW qG qN qL cJ cI cZ cB fO fU fW fG fL len size) := hD.sub (ws' := (wd_X h0 qO qU qW qG qN qL cJ cI cZ cB fO fU fW fG fL len size)) [0, 1, 2, 3, 4, 5, 6] (by decide) rfl
    try dsimp only at hw
    refine lv_goto (tgt := 33) hx hb dc_X_number_24 (by decide) ?_
    exact B_33 _ _ _ r21 fO fU fW fG fL len size hw hP hD hS (lv_sub hl [] rfl)
set_option maxHeartbeats 4000000 in
set_option maxRecDepth 100000 in
theorem kt_X_reckon (l : Launch) (dC : Nat → ClassId) (dI : Nat → Nat → Nat) (cJ cI cZ cB : ClassId) (h0 qO qU qW qG qN qL : Nat) (sz : Nat) (a1 : Int32) (a2 : Int32) (a3 : Int32) (fO : (Nat → Int64)) (fU : (Nat → Int64)) (fW : (Nat → Int32)) (fG : (Nat → Int32)) (fL : (Nat → Int32)) (len : Int32) (size : Int32) (post : (Nat → Int64) → (Nat → Int64) → (Nat → Int32) → (Nat → Int32) → (Nat → Int32) → Int32 → Int32 → Prop) (hw : wp_X_reckon post a1 a2 a3 fO fU fW fG fL len size) : Met l yn_X_reckon ws_X_reckon rm_X_reckon (va_Pc [.ref h0, .int a1, .int a2, .int a3] (pc_W (dC, dI) (ty_4 cJ cI cZ cB) (wd_X h0 qO qU qW qG qN qL cJ cI cZ cB fO fU fW fG fL len size) sz)) (qv_X dC dI cJ cI cZ cB h0 qO qU qW qG qN qL post (va_A (wd_X h0 qO qU qW qG qN qL cJ cI cZ cB fO fU fW fG fL len size) sz)) 0 0 (va_A (wd_X h0 qO qU qW qG qN qL cJ cI cZ cB fO fU fW fG fL len size) sz) := by
  refine Met.ofW (cc := cd_X_reckon) (maxL := 11) (ret := none) (by decide) rfl ?_
  intro p e s m args below meth c s₁ B hml hv
  obtain ⟨rfl, hsz, hP, hK, hD0, hE⟩ := hv
  have hx := B.exec
  have hb := B.bytes
  have hr := B.returns
  have hts := atoms_spec (ws := ws_X_reckon) B.pre
  have hq : ∀ {w : Cond}, w ∈ wg_all → w.before ([.ref h0, .int a1, .int a2, .int a3] : List Value).toArray s = true := fun h => hts _ (List.mem_cons_of_mem _ h)
  have hu : ∀ L : List Cond, (∀ w ∈ L, w ∈ wg_all) → ∀ w ∈ L, w ∈ ws_X_reckon := fun L h w hw => List.mem_cons_of_mem _ (h w hw)
  have hown : s.vm.findClass "FourWords" = some m.cls := findClass_of_methodNamed B.named
  have hlocks := B.notSynchronized
  subst hsz
  have hD := hD0.self (sz := s.heap.size)
  generalize hAe : va_A (wd_X h0 qO qU qW qG qN qL cJ cI cZ cB fO fU fW fG fL len size) s.heap.size = A at hD ⊢
  have hA : ∀ q : Nat, s.heap.size ≤ q → A q := fun q h => by rw [← hAe]; exact Or.inr h
  have hS : va_S A s.heap s.heap [] := va_S.rf
  have hl := lv_entry [.ref h0, .int a1, .int a2, .int a3] (n := 11) (Nat.le_of_ble_eq_true rfl)
  rw [lg_entry_eq]
  generalize (lg_sl [.ref h0, .int a1, .int a2, .int a3] ++ List.replicate (11 - (lg_sl [.ref h0, .int a1, .int a2, .int a3]).length) Slot.unset).toArray = ls at hl ⊢
  have hl : lv_has ls 11 [(0, .ref h0), (1, .int a1), (2, .int a2), (3, .int a3)] := hl
  have B_188 : ∀ (H : Heap) (locs : List Loc) (ls : Array Slot) (fO : (Nat → Int64)) (fU : (Nat → Int64)) (fW : (Nat → Int32)) (fG : (Nat → Int32)) (fL : (Nat → Int32)) (len : Int32) (size : Int32), wp_X_reckon_188 post fO fU fW fG fL len size → va_P (dC, dI) cs_3 (wd_X h0 qO qU qW qG qN qL cJ cI cZ cB fO fU fW fG fL len size) H → va_D A (wd_X h0 qO qU qW qG qN qL cJ cI cZ cB fO fU fW fG fL len size) → va_S A s.heap H locs → lv_has ls 11 [] → W p l e (headSpec ws_X_reckon rm_X_reckon).room s m ([.ref h0, .int a1, .int a2, .int a3] : List Value).toArray below meth c H locs 0 0 (MQ below (qv_X dC dI cJ cI cZ cB h0 qO qU qW qG qN qL post A) ([.ref h0, .int a1, .int a2, .int a3] : List Value).toArray s 0 0 A) (F0 m 188 ls []) := by
    intro H locs ls fO fU fW fG fL len size hw hP hD hS hl
    unfold wp_X_reckon_188 at hw
    exact W.vret hx hb hr (fun t ht hW => ⟨⟨(fO, fU, fW, fG, fL, len, size), rfl, hw, by rw [ht]; exact hP, va_K.moved hW.alike hK, hD⟩, hS.F ht⟩) hS.2.2 dc_X_reckon_188
  have B_184 : ∀ (H : Heap) (locs : List Loc) (ls : Array Slot) (t0 : Int64) (t1 : Int32) (fO : (Nat → Int64)) (fU : (Nat → Int64)) (fW : (Nat → Int32)) (fG : (Nat → Int32)) (fL : (Nat → Int32)) (len : Int32) (size : Int32), wp_X_reckon_184 post t0 t1 fO fU fW fG fL len size → va_P (dC, dI) cs_3 (wd_X h0 qO qU qW qG qN qL cJ cI cZ cB fO fU fW fG fL len size) H → va_D A (wd_X h0 qO qU qW qG qN qL cJ cI cZ cB fO fU fW fG fL len size) → va_S A s.heap H locs → lv_has ls 11 [] → W p l e (headSpec ws_X_reckon rm_X_reckon).room s m ([.ref h0, .int a1, .int a2, .int a3] : List Value).toArray below meth c H locs 0 0 (MQ below (qv_X dC dI cJ cI cZ cB h0 qO qU qW qG qN qL post A) ([.ref h0, .int a1, .int a2, .int a3] : List Value).toArray s 0 0 A) (F0 m 184 ls [.long t0, .int t1, .ref h0]) := by
    intro H locs ls t0 t1 fO fU fW fG fL len size hw hP hD hS hl
    unfold wp_X_reckon_184 at hw
    refine lv_lconst (v := 0) hx hb dc_X_reckon_184 (by decide) ?_
    refine gc_v (S := (Nat → Int64) × (Nat → Int64) × (Nat → Int32) × (Nat → Int32) × (Nat → Int32) × Int32 × Int32) (w1 := (fun u => (wd_X h0 qO qU qW qG qN qL cJ cI cZ cB u.1 u.2.1 u.2.2.1 u.2.2.2.1 u.2.2.2.2.1 u.2.2.2.2.2.1 u.2.2.2.2.2.2))) (wc := (wd_X h0 qO qU qW qG qN qL cJ cI cZ cB fO fU fW fG fL len size)) (wr := ([] : va_W)) (va_runV (As := [.int t1, .long t0, .long (0 : Int64)]) (rest := []) ⟨hx, hb, hml, hown, hts⟩ (kt_X_setBits l dC dI cJ cI cZ cB h0 qO qU qW qG qN qL _ t1 t0 (0 : Int64) fO fU fW fG fL len size _ hw) ⟨callB_of 3 hts (gw_in mw_t169) rfl rfl rfl (hq mw_t1) (hq mw_t166) (by decide +kernel) ⟨Nat.le_of_ble_eq_true rfl, Nat.le_of_ble_eq_true rfl⟩, hq mw_t168, hq mw_s3⟩ (pv_W (va_recv (q0 := 0) (ci := 1) hK hP rfl rfl) (hP.sub (ws' := (wd_X h0 qO qU qW qG qN qL cJ cI cZ cB fO fU fW fG fL len size)) [0, 1, 2, 3, 4, 5, 6] rfl) hK (hD.sub (ws' := (wd_X h0 qO qU qW qG qN qL cJ cI cZ cB fO fU fW fG fL len size)) [0, 1, 2, 3, 4, 5, 6] (by decide) rfl) hE) rfl rfl hl.1 rfl (lv_room (Nat.le_of_ble_eq_true rfl)) dc_X_reckon_185 ⟨Nat.le_of_ble_eq_true rfl, Nat.le_of_ble_eq_true rfl⟩) hP hD hS hA [0, 1, 2, 3, 4, 5, 6] [] rfl rfl (by decide) (by decide) (fun u H locs hw hP hD hS => ?_)
    obtain ⟨fO185, fU185, fW185, fG185, fL185, len185, size185⟩ := u
    have hP : va_P (dC, dI) cs_3 (wd_X h0 qO qU qW qG qN qL cJ cI cZ cB fO185 fU185 fW185 fG185 fL185 len185 size185) H := hP.sub (ws' := (wd_X h0 qO qU qW qG qN qL cJ cI cZ cB fO185 fU185 fW185 fG185 fL185 len185 size185)) [0, 1, 2, 3, 4, 5, 6] rfl
    have hD : va_D A (wd_X h0 qO qU qW qG qN qL cJ cI cZ cB fO185 fU185 fW185 fG185 fL185 len185 size185) := hD.sub (ws' := (wd_X h0 qO qU qW qG qN qL cJ cI cZ cB fO185 fU185 fW185 fG185 fL185 len185 size185)) [0, 1, 2, 3, 4, 5, 6] (by decide) rfl
    try dsimp only at hw
    exact B_188 _ _ _ fO185 fU185 fW185 fG185 fL185 len185 size185 hw hP hD hS (lv_sub hl [] rfl)
  have B_162 : ∀ (H : Heap) (locs : List Loc) (ls : Array Slot) (x1 : Int32) (x2 : Int32) (x4 : Int64) (x6 : Int64) (t0 : Int64) (fO : (Nat → Int64)) (fU : (Nat → Int64)) (fW : (Nat → Int32)) (fG : (Nat → Int32)) (fL : (Nat → Int32)) (len : Int32) (size : Int32), wp_X_reckon_162 post x1 x2 x4 x6 t0 fO fU fW fG fL len size → va_P (dC, dI) cs_3 (wd_X h0 qO qU qW qG qN qL cJ cI cZ cB fO fU fW fG fL len size) H → va_D A (wd_X h0 qO qU qW qG qN qL cJ cI cZ cB fO fU fW fG fL len size) → va_S A s.heap H locs → lv_has ls 11 [(0, .ref h0), (1, .int x1), (2, .int x2), (4, .long x4), (6, .long x6)] → W p l e (headSpec ws_X_reckon rm_X_reckon).room s m ([.ref h0, .int a1, .int a2, .int a3] : List Value).toArray below meth c H locs 0 0 (MQ below (qv_X dC dI cJ cI cZ cB h0 qO qU qW qG qN qL post A) ([.ref h0, .int a1, .int a2, .int a3] : List Value).toArray s 0 0 A) (F0 m 162 ls [.long t0]) := by
    intro H locs ls x1 x2 x4 x6 t0 fO fU fW fG fL len size hw hP hD hS hl
    unfold wp_X_reckon_162 at hw
    refine lv_lstore (lv' := [(9, .long t0), (0, .ref h0), (1, .int x1), (2, .int x2), (4, .long x4), (6, .long x6)]) hx hb dc_X_reckon_162 hl (Nat.le_of_ble_eq_true rfl) rfl (fun ls hl => ?_)
    refine lv_aload_n hx hb dc_X_reckon_164 rfl (lv_at hl 1 rfl) ?_
    refine lv_iload_n hx hb dc_X_reckon_165 rfl (lv_at hl 3 rfl) ?_
    refine lv_iload_n hx hb dc_X_reckon_166 rfl (lv_at hl 2 rfl) ?_
    refine lv_iconst (v := 3) hx hb dc_X_reckon_167 (by decide) ?_
    obtain ⟨hw1, hw2⟩ := hw
    refine lv_icmp_ne (tgt := 176) hx hb dc_X_reckon_168 (by decide) (fun hc => ?_) (fun hc => ?_)
    · have hw := hw1 hc
      clear hw1 hw2
      refine lv_lload hx hb dc_X_reckon_176 (lv_at hl 4 rfl) ?_
      refine lv_lload hx hb dc_X_reckon_178 (lv_at hl 0 rfl) ?_
      refine lv_lload hx hb dc_X_reckon_180 (lv_at hl 5 rfl) ?_
      refine lv_lmul hx hb dc_X_reckon_182 ?_
      refine lv_lsub hx hb dc_X_reckon_183 ?_
      exact B_184 _ _ _ (x4 - (t0 * x6)) x2 fO fU fW fG fL len size hw hP hD hS (lv_sub hl [] rfl)
    · have hw := hw2 (fun h9 => h9 hc)
      clear hw1 hw2
      refine lv_lload hx hb dc_X_reckon_171 (lv_at hl 0 rfl) ?_
      refine lv_goto (tgt := 184) hx hb dc_X_reckon_173 (by decide) ?_
      exact B_184 _ _ _ t0 x2 fO fU fW fG fL len size hw hP hD hS (lv_sub hl [] rfl)
  have B_67 : ∀ (H : Heap) (locs : List Loc) (ls : Array Slot) (x1 : Int32) (x2 : Int32) (x4 : Int64) (x6 : Int64) (fO : (Nat → Int64)) (fU : (Nat → Int64)) (fW : (Nat → Int32)) (fG : (Nat → Int32)) (fL : (Nat → Int32)) (len : Int32) (size : Int32), wp_X_reckon_67 post x1 x2 x4 x6 fO fU fW fG fL len size → va_P (dC, dI) cs_3 (wd_X h0 qO qU qW qG qN qL cJ cI cZ cB fO fU fW fG fL len size) H → va_D A (wd_X h0 qO qU qW qG qN qL cJ cI cZ cB fO fU fW fG fL len size) → va_S A s.heap H locs → lv_has ls 11 [(0, .ref h0), (1, .int x1), (2, .int x2), (4, .long x4), (6, .long x6)] → W p l e (headSpec ws_X_reckon rm_X_reckon).room s m ([.ref h0, .int a1, .int a2, .int a3] : List Value).toArray below meth c H locs 0 0 (MQ below (qv_X dC dI cJ cI cZ cB h0 qO qU qW qG qN qL post A) ([.ref h0, .int a1, .int a2, .int a3] : List Value).toArray s 0 0 A) (F0 m 67 ls []) := by
    intro H locs ls x1 x2 x4 x6 fO fU fW fG fL len size hw hP hD hS hl
    unfold wp_X_reckon_67 at hw
    refine lv_iload_n hx hb dc_X_reckon_67 rfl (lv_at hl 1 rfl) ?_
    obtain ⟨hs0, hs1, hs2, hs3⟩ := hw
    by_cases hc : x1.toInt < 0 ∨ 2 < x1.toInt
    · have hw := hs0 hc
      refine lv_tableOut (tgt := 138) hx hb dc_X_reckon_68 hc (by decide) ?_
      refine lv_aload_n hx hb dc_X_reckon_138 rfl (lv_at hl 0 rfl) ?_
      refine va_get (D := (dC, dI)) (ci := 1) (v := .ref qG) (C := "FourWords") (T := tb_X) (N := 6) hx hb hts (hu _ um_X) hown hK hP 0 rfl rfl 3 (by decide) (hq mw_t43) (fun _ h9 => h9) rfl dc_X_reckon_139 ?_
      refine lv_iload_n hx hb dc_X_reckon_142 rfl (lv_at hl 2 rfl) ?_
      obtain ⟨hin, hw⟩ := hw
      refine va_zald hx hb hK hP 4 2 rfl rfl hin dc_X_reckon_143 ?_
      obtain ⟨hw1, hw2⟩ := hw
      refine lv_if_eq (tgt := 155) hx hb dc_X_reckon_144 (by decide) (fun hc => ?_) (fun hc => ?_)
      · have hw := hw1 hc
        clear hw1 hw2
        refine lv_lload hx hb dc_X_reckon_155 (lv_at hl 3 rfl) ?_
        refine lv_lload hx hb dc_X_reckon_157 (lv_at hl 4 rfl) ?_
        refine gc_l (S := Unit) (w1 := (fun u => ([] : va_W))) (wc := ([] : va_W)) (wr := ([(h0, .inr (1, [.ref qO, .ref qU, .ref qW, .ref qG, .ref qN, .int size])), (qO, .inl (cJ, 64, .inr (.inl fO))), (qU, .inl (cJ, 64, .inr (.inl fU))), (qW, .inl (cI, 64, .inl fW)), (qG, .inl (cZ, 64, .inl fG)), (qN, .inr (0, [.ref qL, .int len])), (qL, .inl (cB, 64, .inl fL))] : va_W)) (va_runSN (As := [.long x4, .long x6]) (rest := []) ⟨hx, hb, hml, hown, hts⟩ (kt_B_quotient l dC dI cJ cI cZ cB _ x4 x6 _ hw) ⟨va_cnB 2 hts (gw_in mw_t215) rfl rfl rfl (en_X173 hE) (hq mw_t9) (by decide +kernel) ⟨Nat.le_of_ble_eq_true rfl, Nat.le_of_ble_eq_true rfl⟩, hq mw_t214, trivial⟩ (ps_W (hP.sub (ws' := ([] : va_W)) [] rfl) hK (hD.sub (ws' := ([] : va_W)) [] (by decide) rfl) hE) rfl rfl hl.1 rfl (lv_room (Nat.le_of_ble_eq_true rfl)) dc_X_reckon_159 ⟨Nat.le_of_ble_eq_true rfl, Nat.le_of_ble_eq_true rfl⟩) hP hD hS hA [] [0, 1, 2, 3, 4, 5, 6] rfl rfl (by decide) (by decide) (fun r159 u H locs hw hP hD hS => ?_)
        have hP : va_P (dC, dI) cs_3 (wd_X h0 qO qU qW qG qN qL cJ cI cZ cB fO fU fW fG fL len size) H := hP.sub (ws' := (wd_X h0 qO qU qW qG qN qL cJ cI cZ cB fO fU fW fG fL len size)) [0, 1, 2, 3, 4, 5, 6] rfl
        have hD : va_D A (wd_X h0 qO qU qW qG qN qL cJ cI cZ cB fO fU fW fG fL len size) := hD.sub (ws' := (wd_X h0 qO qU qW qG qN qL cJ cI cZ cB fO fU fW fG fL len size)) [0, 1, 2, 3, 4, 5, 6] (by decide) rfl
        try dsimp only at hw
        exact B_162 _ _ _ x1 x2 x4 x6 r159 fO fU fW fG fL len size hw hP hD hS (lv_sub hl [0, 1, 2, 3, 4] rfl)
      · have hw := hw2 hc
        clear hw1 hw2
        refine lv_lload hx hb dc_X_reckon_147 (lv_at hl 3 rfl) ?_
        refine lv_lload hx hb dc_X_reckon_149 (lv_at hl 4 rfl) ?_
        obtain ⟨hne, hw⟩ := hw
        refine lv_ldiv hx hb dc_X_reckon_151 hne ?_
        refine lv_goto (tgt := 162) hx hb dc_X_reckon_152 (by decide) ?_
        exact B_162 _ _ _ x1 x2 x4 x6 (x4 / x6) fO fU fW fG fL len size hw hP hD hS (lv_sub hl [0, 1, 2, 3, 4] rfl)
    by_cases hk0 : x1.toInt = 0
    · have hw := hs1 hk0
      refine lv_tableIn (tgt := 96) (off := 28) hx hb dc_X_reckon_68 (by rw [hk0]; decide) (by rw [hk0]; decide) (by rw [hk0]; rfl) (by decide) ?_
      refine lv_aload_n hx hb dc_X_reckon_96 rfl (lv_at hl 0 rfl) ?_
      refine lv_iload_n hx hb dc_X_reckon_97 rfl (lv_at hl 2 rfl) ?_
      refine lv_lload hx hb dc_X_reckon_98 (lv_at hl 3 rfl) ?_
      refine lv_lload hx hb dc_X_reckon_100 (lv_at hl 4 rfl) ?_
      refine lv_ladd hx hb dc_X_reckon_102 ?_
      refine lv_lconst (v := 0) hx hb dc_X_reckon_103 (by decide) ?_
      refine gc_v (S := (Nat → Int64) × (Nat → Int64) × (Nat → Int32) × (Nat → Int32) × (Nat → Int32) × Int32 × Int32) (w1 := (fun u => (wd_X h0 qO qU qW qG qN qL cJ cI cZ cB u.1 u.2.1 u.2.2.1 u.2.2.2.1 u.2.2.2.2.1 u.2.2.2.2.2.1 u.2.2.2.2.2.2))) (wc := (wd_X h0 qO qU qW qG qN qL cJ cI cZ cB fO fU fW fG fL len size)) (wr := ([] : va_W)) (va_runV (As := [.int x2, .long (x4 + x6), .long (0 : Int64)]) (rest := []) ⟨hx, hb, hml, hown, hts⟩ (kt_X_setBits l dC dI cJ cI cZ cB h0 qO qU qW qG qN qL _ x2 (x4 + x6) (0 : Int64) fO fU fW fG fL len size _ hw) ⟨callB_of 3 hts (gw_in mw_t169) rfl rfl rfl (hq mw_t1) (hq mw_t166) (by decide +kernel) ⟨Nat.le_of_ble_eq_true rfl, Nat.le_of_ble_eq_true rfl⟩, hq mw_t168, hq mw_s3⟩ (pv_W (va_recv (q0 := 0) (ci := 1) hK hP rfl rfl) (hP.sub (ws' := (wd_X h0 qO qU qW qG qN qL cJ cI cZ cB fO fU fW fG fL len size)) [0, 1, 2, 3, 4, 5, 6] rfl) hK (hD.sub (ws' := (wd_X h0 qO qU qW qG qN qL cJ cI cZ cB fO fU fW fG fL len size)) [0, 1, 2, 3, 4, 5, 6] (by decide) rfl) hE) rfl rfl hl.1 rfl (lv_room (Nat.le_of_ble_eq_true rfl)) dc_X_reckon_104 ⟨Nat.le_of_ble_eq_true rfl, Nat.le_of_ble_eq_true rfl⟩) hP hD hS hA [0, 1, 2, 3, 4, 5, 6] [] rfl rfl (by decide) (by decide) (fun u H locs hw hP hD hS => ?_)
      obtain ⟨fO104, fU104, fW104, fG104, fL104, len104, size104⟩ := u
      have hP : va_P (dC, dI) cs_3 (wd_X h0 qO qU qW qG qN qL cJ cI cZ cB fO104 fU104 fW104 fG104 fL104 len104 size104) H := hP.sub (ws' := (wd_X h0 qO qU qW qG qN qL cJ cI cZ cB fO104 fU104 fW104 fG104 fL104 len104 size104)) [0, 1, 2, 3, 4, 5, 6] rfl
      have hD : va_D A (wd_X h0 qO qU qW qG qN qL cJ cI cZ cB fO104 fU104 fW104 fG104 fL104 len104 size104) := hD.sub (ws' := (wd_X h0 qO qU qW qG qN qL cJ cI cZ cB fO104 fU104 fW104 fG104 fL104 len104 size104)) [0, 1, 2, 3, 4, 5, 6] (by decide) rfl
      try dsimp only at hw
      refine lv_goto (tgt := 188) hx hb dc_X_reckon_107 (by decide) ?_
      exact B_188 _ _ _ fO104 fU104 fW104 fG104 fL104 len104 size104 hw hP hD hS (lv_sub hl [] rfl)
    by_cases hk1 : x1.toInt = 1
    · have hw := hs2 hk1
      refine lv_tableIn (tgt := 110) (off := 42) hx hb dc_X_reckon_68 (by rw [hk1]; decide) (by rw [hk1]; decide) (by rw [hk1]; rfl) (by decide) ?_
      refine lv_aload_n hx hb dc_X_reckon_110 rfl (lv_at hl 0 rfl) ?_
      refine lv_iload_n hx hb dc_X_reckon_111 rfl (lv_at hl 2 rfl) ?_
      refine lv_lload hx hb dc_X_reckon_112 (lv_at hl 3 rfl) ?_
      refine lv_lload hx hb dc_X_reckon_114 (lv_at hl 4 rfl) ?_
      refine lv_lsub hx hb dc_X_reckon_116 ?_
      refine lv_lconst (v := 0) hx hb dc_X_reckon_117 (by decide) ?_
      refine gc_v (S := (Nat → Int64) × (Nat → Int64) × (Nat → Int32) × (Nat → Int32) × (Nat → Int32) × Int32 × Int32) (w1 := (fun u => (wd_X h0 qO qU qW qG qN qL cJ cI cZ cB u.1 u.2.1 u.2.2.1 u.2.2.2.1 u.2.2.2.2.1 u.2.2.2.2.2.1 u.2.2.2.2.2.2))) (wc := (wd_X h0 qO qU qW qG qN qL cJ cI cZ cB fO fU fW fG fL len size)) (wr := ([] : va_W)) (va_runV (As := [.int x2, .long (x4 - x6), .long (0 : Int64)]) (rest := []) ⟨hx, hb, hml, hown, hts⟩ (kt_X_setBits l dC dI cJ cI cZ cB h0 qO qU qW qG qN qL _ x2 (x4 - x6) (0 : Int64) fO fU fW fG fL len size _ hw) ⟨callB_of 3 hts (gw_in mw_t169) rfl rfl rfl (hq mw_t1) (hq mw_t166) (by decide +kernel) ⟨Nat.le_of_ble_eq_true rfl, Nat.le_of_ble_eq_true rfl⟩, hq mw_t168, hq mw_s3⟩ (pv_W (va_recv (q0 := 0) (ci := 1) hK hP rfl rfl) (hP.sub (ws' := (wd_X h0 qO qU qW qG qN qL cJ cI cZ cB fO fU fW fG fL len size)) [0, 1, 2, 3, 4, 5, 6] rfl) hK (hD.sub (ws' := (wd_X h0 qO qU qW qG qN qL cJ cI cZ cB fO fU fW fG fL len size)) [0, 1, 2, 3, 4, 5, 6] (by decide) rfl) hE) rfl rfl hl.1 rfl (lv_room (Nat.le_of_ble_eq_true rfl)) dc_X_reckon_118 ⟨Nat.le_of_ble_eq_true rfl, Nat.le_of_ble_eq_true rfl⟩) hP hD hS hA [0, 1, 2, 3, 4, 5, 6] [] rfl rfl (by decide) (by decide) (fun u H locs hw hP hD hS => ?_)
      obtain ⟨fO118, fU118, fW118, fG118, fL118, len118, size118⟩ := u
      have hP : va_P (dC, dI) cs_3 (wd_X h0 qO qU qW qG qN qL cJ cI cZ cB fO118 fU118 fW118 fG118 fL118 len118 size118) H := hP.sub (ws' := (wd_X h0 qO qU qW qG qN qL cJ cI cZ cB fO118 fU118 fW118 fG118 fL118 len118 size118)) [0, 1, 2, 3, 4, 5, 6] rfl
      have hD : va_D A (wd_X h0 qO qU qW qG qN qL cJ cI cZ cB fO118 fU118 fW118 fG118 fL118 len118 size118) := hD.sub (ws' := (wd_X h0 qO qU qW qG qN qL cJ cI cZ cB fO118 fU118 fW118 fG118 fL118 len118 size118)) [0, 1, 2, 3, 4, 5, 6] (by decide) rfl
      try dsimp only at hw
      refine lv_goto (tgt := 188) hx hb dc_X_reckon_121 (by decide) ?_
      exact B_188 _ _ _ fO118 fU118 fW118 fG118 fL118 len118 size118 hw hP hD hS (lv_sub hl [] rfl)
    have hk2 : x1.toInt = 2 := by omega
    have hw := hs3 hk2
    refine lv_tableIn (tgt := 124) (off := 56) hx hb dc_X_reckon_68 (by rw [hk2]; decide) (by rw [hk2]; decide) (by rw [hk2]; rfl) (by decide) ?_
    refine lv_aload_n hx hb dc_X_reckon_124 rfl (lv_at hl 0 rfl) ?_
    refine lv_iload_n hx hb dc_X_reckon_125 rfl (lv_at hl 2 rfl) ?_
    refine lv_lload hx hb dc_X_reckon_126 (lv_at hl 3 rfl) ?_
    refine lv_lload hx hb dc_X_reckon_128 (lv_at hl 4 rfl) ?_
    refine lv_lmul hx hb dc_X_reckon_130 ?_
    refine lv_lconst (v := 0) hx hb dc_X_reckon_131 (by decide) ?_
    refine gc_v (S := (Nat → Int64) × (Nat → Int64) × (Nat → Int32) × (Nat → Int32) × (Nat → Int32) × Int32 × Int32) (w1 := (fun u => (wd_X h0 qO qU qW qG qN qL cJ cI cZ cB u.1 u.2.1 u.2.2.1 u.2.2.2.1 u.2.2.2.2.1 u.2.2.2.2.2.1 u.2.2.2.2.2.2))) (wc := (wd_X h0 qO qU qW qG qN qL cJ cI cZ cB fO fU fW fG fL len size)) (wr := ([] : va_W)) (va_runV (As := [.int x2, .long (x4 * x6), .long (0 : Int64)]) (rest := []) ⟨hx, hb, hml, hown, hts⟩ (kt_X_setBits l dC dI cJ cI cZ cB h0 qO qU qW qG qN qL _ x2 (x4 * x6) (0 : Int64) fO fU fW fG fL len size _ hw) ⟨callB_of 3 hts (gw_in mw_t169) rfl rfl rfl (hq mw_t1) (hq mw_t166) (by decide +kernel) ⟨Nat.le_of_ble_eq_true rfl, Nat.le_of_ble_eq_true rfl⟩, hq mw_t168, hq mw_s3⟩ (pv_W (va_recv (q0 := 0) (ci := 1) hK hP rfl rfl) (hP.sub (ws' := (wd_X h0 qO qU qW qG qN qL cJ cI cZ cB fO fU fW fG fL len size)) [0, 1, 2, 3, 4, 5, 6] rfl) hK (hD.sub (ws' := (wd_X h0 qO qU qW qG qN qL cJ cI cZ cB fO fU fW fG fL len size)) [0, 1, 2, 3, 4, 5, 6] (by decide) rfl) hE) rfl rfl hl.1 rfl (lv_room (Nat.le_of_ble_eq_true rfl)) dc_X_reckon_132 ⟨Nat.le_of_ble_eq_true rfl, Nat.le_of_ble_eq_true rfl⟩) hP hD hS hA [0, 1, 2, 3, 4, 5, 6] [] rfl rfl (by decide) (by decide) (fun u H locs hw hP hD hS => ?_)
    obtain ⟨fO132, fU132, fW132, fG132, fL132, len132, size132⟩ := u
    have hP : va_P (dC, dI) cs_3 (wd_X h0 qO qU qW qG qN qL cJ cI cZ cB fO132 fU132 fW132 fG132 fL132 len132 size132) H := hP.sub (ws' := (wd_X h0 qO qU qW qG qN qL cJ cI cZ cB fO132 fU132 fW132 fG132 fL132 len132 size132)) [0, 1, 2, 3, 4, 5, 6] rfl
    have hD : va_D A (wd_X h0 qO qU qW qG qN qL cJ cI cZ cB fO132 fU132 fW132 fG132 fL132 len132 size132) := hD.sub (ws' := (wd_X h0 qO qU qW qG qN qL cJ cI cZ cB fO132 fU132 fW132 fG132 fL132 len132 size132)) [0, 1, 2, 3, 4, 5, 6] (by decide) rfl
    try dsimp only at hw
    refine lv_goto (tgt := 188) hx hb dc_X_reckon_135 (by decide) ?_
    exact B_188 _ _ _ fO132 fU132 fW132 fG132 fL132 len132 size132 hw hP hD hS (lv_sub hl [] rfl)
  have B_61 : ∀ (H : Heap) (locs : List Loc) (ls : Array Slot) (x2 : Int32) (fO : (Nat → Int64)) (fU : (Nat → Int64)) (fW : (Nat → Int32)) (fG : (Nat → Int32)) (fL : (Nat → Int32)) (len : Int32) (size : Int32), wp_X_reckon_61 post x2 fO fU fW fG fL len size → va_P (dC, dI) cs_3 (wd_X h0 qO qU qW qG qN qL cJ cI cZ cB fO fU fW fG fL len size) H → va_D A (wd_X h0 qO qU qW qG qN qL cJ cI cZ cB fO fU fW fG fL len size) → va_S A s.heap H locs → lv_has ls 11 [(0, .ref h0), (2, .int x2)] → W p l e (headSpec ws_X_reckon rm_X_reckon).room s m ([.ref h0, .int a1, .int a2, .int a3] : List Value).toArray below meth c H locs 0 0 (MQ below (qv_X dC dI cJ cI cZ cB h0 qO qU qW qG qN qL post A) ([.ref h0, .int a1, .int a2, .int a3] : List Value).toArray s 0 0 A) (F0 m 61 ls []) := by
    intro H locs ls x2 fO fU fW fG fL len size hw hP hD hS hl
    unfold wp_X_reckon_61 at hw
    refine lv_aload_n hx hb dc_X_reckon_61 rfl (lv_at hl 0 rfl) ?_
    refine lv_iload_n hx hb dc_X_reckon_62 rfl (lv_at hl 1 rfl) ?_
    refine gc_v (S := (Nat → Int64) × (Nat → Int64) × (Nat → Int32) × (Nat → Int32) × (Nat → Int32) × Int32 × Int32) (w1 := (fun u => (wd_X h0 qO qU qW qG qN qL cJ cI cZ cB u.1 u.2.1 u.2.2.1 u.2.2.2.1 u.2.2.2.2.1 u.2.2.2.2.2.1 u.2.2.2.2.2.2))) (wc := (wd_X h0 qO qU qW qG qN qL cJ cI cZ cB fO fU fW fG fL len size)) (wr := ([] : va_W)) (va_runV (As := [.int x2]) (rest := []) ⟨hx, hb, hml, hown, hts⟩ (kt_X_fillWithX l dC dI cJ cI cZ cB h0 qO qU qW qG qN qL _ x2 fO fU fW fG fL len size _ hw) ⟨callB_of 1 hts (gw_in mw_t211) rfl rfl rfl (hq mw_t1) (hq mw_t208) (by decide +kernel) ⟨Nat.le_of_ble_eq_true rfl, Nat.le_of_ble_eq_true rfl⟩, hq mw_t210, hq mw_s9⟩ (pv_W (va_recv (q0 := 0) (ci := 1) hK hP rfl rfl) (hP.sub (ws' := (wd_X h0 qO qU qW qG qN qL cJ cI cZ cB fO fU fW fG fL len size)) [0, 1, 2, 3, 4, 5, 6] rfl) hK (hD.sub (ws' := (wd_X h0 qO qU qW qG qN qL cJ cI cZ cB fO fU fW fG fL len size)) [0, 1, 2, 3, 4, 5, 6] (by decide) rfl) hE) rfl rfl hl.1 rfl (lv_room (Nat.le_of_ble_eq_true rfl)) dc_X_reckon_63 ⟨Nat.le_of_ble_eq_true rfl, Nat.le_of_ble_eq_true rfl⟩) hP hD hS hA [0, 1, 2, 3, 4, 5, 6] [] rfl rfl (by decide) (by decide) (fun u H locs hw hP hD hS => ?_)
    obtain ⟨fO63, fU63, fW63, fG63, fL63, len63, size63⟩ := u
    have hP : va_P (dC, dI) cs_3 (wd_X h0 qO qU qW qG qN qL cJ cI cZ cB fO63 fU63 fW63 fG63 fL63 len63 size63) H := hP.sub (ws' := (wd_X h0 qO qU qW qG qN qL cJ cI cZ cB fO63 fU63 fW63 fG63 fL63 len63 size63)) [0, 1, 2, 3, 4, 5, 6] rfl
    have hD : va_D A (wd_X h0 qO qU qW qG qN qL cJ cI cZ cB fO63 fU63 fW63 fG63 fL63 len63 size63) := hD.sub (ws' := (wd_X h0 qO qU qW qG qN qL cJ cI cZ cB fO63 fU63 fW63 fG63 fL63 len63 size63)) [0, 1, 2, 3, 4, 5, 6] (by decide) rfl
    try dsimp only at hw
    exact W.vret hx hb hr (fun t ht hW => ⟨⟨(fO63, fU63, fW63, fG63, fL63, len63, size63), rfl, hw, by rw [ht]; exact hP, va_K.moved hW.alike hK, hD⟩, hS.F ht⟩) hS.2.2 dc_X_reckon_66
  have B_29 : ∀ (H : Heap) (locs : List Loc) (ls : Array Slot) (x1 : Int32) (x2 : Int32) (x3 : Int32) (x4 : Int64) (x6 : Int64) (t0 : Int32) (fO : (Nat → Int64)) (fU : (Nat → Int64)) (fW : (Nat → Int32)) (fG : (Nat → Int32)) (fL : (Nat → Int32)) (len : Int32) (size : Int32), wp_X_reckon_29 post x1 x2 x3 x4 x6 t0 fO fU fW fG fL len size → va_P (dC, dI) cs_3 (wd_X h0 qO qU qW qG qN qL cJ cI cZ cB fO fU fW fG fL len size) H → va_D A (wd_X h0 qO qU qW qG qN qL cJ cI cZ cB fO fU fW fG fL len size) → va_S A s.heap H locs → lv_has ls 11 [(0, .ref h0), (1, .int x1), (2, .int x2), (3, .int x3), (4, .long x4), (6, .long x6)] → W p l e (headSpec ws_X_reckon rm_X_reckon).room s m ([.ref h0, .int a1, .int a2, .int a3] : List Value).toArray below meth c H locs 0 0 (MQ below (qv_X dC dI cJ cI cZ cB h0 qO qU qW qG qN qL post A) ([.ref h0, .int a1, .int a2, .int a3] : List Value).toArray s 0 0 A) (F0 m 29 ls [.int t0]) := by
    intro H locs ls x1 x2 x3 x4 x6 t0 fO fU fW fG fL len size hw hP hD hS hl
    unfold wp_X_reckon_29 at hw
    refine lv_istore (lv' := [(8, .int t0), (0, .ref h0), (1, .int x1), (2, .int x2), (3, .int x3), (4, .long x4), (6, .long x6)]) hx hb dc_X_reckon_29 hl (Nat.le_of_ble_eq_true rfl) rfl (fun ls hl => ?_)
    refine lv_aload_n hx hb dc_X_reckon_31 rfl (lv_at hl 1 rfl) ?_
    refine va_get (D := (dC, dI)) (ci := 1) (v := .ref qU) (C := "FourWords") (T := tb_X) (N := 6) hx hb hts (hu _ um_X) hown hK hP 0 rfl rfl 1 (by decide) (hq mw_t41) (fun _ h9 => h9) rfl dc_X_reckon_32 ?_
    refine lv_iload_n hx hb dc_X_reckon_35 rfl (lv_at hl 3 rfl) ?_
    obtain ⟨hin, hw⟩ := hw
    refine va_lald hx hb hK hP 2 0 rfl rfl hin dc_X_reckon_36 ?_
    refine lv_aload_n hx hb dc_X_reckon_37 rfl (lv_at hl 1 rfl) ?_
    refine va_get (D := (dC, dI)) (ci := 1) (v := .ref qU) (C := "FourWords") (T := tb_X) (N := 6) hx hb hts (hu _ um_X) hown hK hP 0 rfl rfl 1 (by decide) (hq mw_t41) (fun _ h9 => h9) rfl dc_X_reckon_38 ?_
    refine lv_iload_n hx hb dc_X_reckon_41 rfl (lv_at hl 4 rfl) ?_
    obtain ⟨hin, hw⟩ := hw
    refine va_lald hx hb hK hP 2 0 rfl rfl hin dc_X_reckon_42 ?_
    refine lv_lor hx hb dc_X_reckon_43 ?_
    refine lv_lconst (v := 0) hx hb dc_X_reckon_44 (by decide) ?_
    refine W.lcmp hx hb dc_X_reckon_45 ?_
    obtain ⟨hw1, hw2⟩ := hw
    refine lv_if_ne (tgt := 61) hx hb dc_X_reckon_46 (by decide) (fun hc => ?_) (fun hc => ?_)
    · have hw := hw1 hc
      clear hw1 hw2
      exact B_61 _ _ _ x2 fO fU fW fG fL len size hw hP hD hS (lv_sub hl [1, 3] rfl)
    · have hw := hw2 (fun h9 => h9 hc)
      clear hw1 hw2
      refine lv_iload hx hb dc_X_reckon_49 (lv_at hl 0 rfl) ?_
      obtain ⟨hw1, hw2⟩ := hw
      refine lv_if_eq (tgt := 67) hx hb dc_X_reckon_51 (by decide) (fun hc => ?_) (fun hc => ?_)
      · have hw := hw1 hc
        clear hw1 hw2
        exact B_67 _ _ _ x1 x2 x4 x6 fO fU fW fG fL len size hw hP hD hS (lv_sub hl [1, 2, 3, 5, 6] rfl)
      · have hw := hw2 hc
        clear hw1 hw2
        refine lv_lload hx hb dc_X_reckon_54 (lv_at hl 6 rfl) ?_
        refine lv_lconst (v := 0) hx hb dc_X_reckon_56 (by decide) ?_
        refine W.lcmp hx hb dc_X_reckon_57 ?_
        obtain ⟨hw1, hw2⟩ := hw
        refine lv_if_ne (tgt := 67) hx hb dc_X_reckon_58 (by decide) (fun hc => ?_) (fun hc => ?_)
        · have hw := hw1 hc
          clear hw1 hw2
          exact B_67 _ _ _ x1 x2 x4 x6 fO fU fW fG fL len size hw hP hD hS (lv_sub hl [1, 2, 3, 5, 6] rfl)
        · have hw := hw2 (fun h9 => h9 hc)
          clear hw1 hw2
          exact B_61 _ _ _ x2 fO fU fW fG fL len size hw hP hD hS (lv_sub hl [1, 3] rfl)
  have B_24 : ∀ (H : Heap) (locs : List Loc) (ls : Array Slot) (x1 : Int32) (x2 : Int32) (x3 : Int32) (x4 : Int64) (x6 : Int64) (fO : (Nat → Int64)) (fU : (Nat → Int64)) (fW : (Nat → Int32)) (fG : (Nat → Int32)) (fL : (Nat → Int32)) (len : Int32) (size : Int32), wp_X_reckon_24 post x1 x2 x3 x4 x6 fO fU fW fG fL len size → va_P (dC, dI) cs_3 (wd_X h0 qO qU qW qG qN qL cJ cI cZ cB fO fU fW fG fL len size) H → va_D A (wd_X h0 qO qU qW qG qN qL cJ cI cZ cB fO fU fW fG fL len size) → va_S A s.heap H locs → lv_has ls 11 [(0, .ref h0), (1, .int x1), (2, .int x2), (3, .int x3), (4, .long x4), (6, .long x6)] → W p l e (headSpec ws_X_reckon rm_X_reckon).room s m ([.ref h0, .int a1, .int a2, .int a3] : List Value).toArray below meth c H locs 0 0 (MQ below (qv_X dC dI cJ cI cZ cB h0 qO qU qW qG qN qL post A) ([.ref h0, .int a1, .int a2, .int a3] : List Value).toArray s 0 0 A) (F0 m 24 ls []) := by
    intro H locs ls x1 x2 x3 x4 x6 fO fU fW fG fL len size hw hP hD hS hl
    unfold wp_X_reckon_24 at hw
    refine lv_iconst (v := 1) hx hb dc_X_reckon_24 (by decide) ?_
    refine lv_goto (tgt := 29) hx hb dc_X_reckon_25 (by decide) ?_
    exact B_29 _ _ _ x1 x2 x3 x4 x6 (1 : Int32) fO fU fW fG fL len size hw hP hD hS (lv_sub hl [0, 1, 2, 3, 4, 5] rfl)
  unfold wp_X_reckon at hw
  refine lv_aload_n hx hb dc_X_reckon_0 rfl (lv_at hl 0 rfl) ?_
  refine lv_iload_n hx hb dc_X_reckon_1 rfl (lv_at hl 2 rfl) ?_
  refine gc_l (S := (Nat → Int64) × (Nat → Int64) × (Nat → Int32) × (Nat → Int32) × (Nat → Int32) × Int32 × Int32) (w1 := (fun u => (wd_X h0 qO qU qW qG qN qL cJ cI cZ cB u.1 u.2.1 u.2.2.1 u.2.2.2.1 u.2.2.2.2.1 u.2.2.2.2.2.1 u.2.2.2.2.2.2))) (wc := (wd_X h0 qO qU qW qG qN qL cJ cI cZ cB fO fU fW fG fL len size)) (wr := ([] : va_W)) (va_runV (As := [.int a2]) (rest := []) ⟨hx, hb, hml, hown, hts⟩ (kt_X_number l dC dI cJ cI cZ cB h0 qO qU qW qG qN qL _ a2 fO fU fW fG fL len size _ hw) ⟨callB_of 1 hts (gw_in mw_t207) rfl rfl rfl (hq mw_t1) (hq mw_t204) (by decide +kernel) ⟨Nat.le_of_ble_eq_true rfl, Nat.le_of_ble_eq_true rfl⟩, hq mw_t206, hq mw_s8⟩ (pv_W (va_recv (q0 := 0) (ci := 1) hK hP rfl rfl) (hP.sub (ws' := (wd_X h0 qO qU qW qG qN qL cJ cI cZ cB fO fU fW fG fL len size)) [0, 1, 2, 3, 4, 5, 6] rfl) hK (hD.sub (ws' := (wd_X h0 qO qU qW qG qN qL cJ cI cZ cB fO fU fW fG fL len size)) [0, 1, 2, 3, 4, 5, 6] (by decide) rfl) hE) rfl rfl hl.1 rfl (lv_room (Nat.le_of_ble_eq_true rfl)) dc_X_reckon_2 ⟨Nat.le_of_ble_eq_true rfl, Nat.le_of_ble_eq_true rfl⟩) hP hD hS hA [0, 1, 2, 3, 4, 5, 6] [] rfl rfl (by decide) (by decide) (fun r2 u H locs hw hP hD hS => ?_)
  obtain ⟨fO2, fU2, fW2, fG2, fL2, len2, size2⟩ := u
  have hP : va_P (dC, dI) cs_3 (wd_X h0 qO qU qW qG qN qL cJ cI cZ cB fO2 fU2 fW2 fG2 fL2 len2 size2) H := hP.sub (ws' := (wd_X h0 qO qU qW qG qN qL cJ cI cZ cB fO2 fU2 fW2 fG2 fL2 len2 size2)) [0, 1, 2, 3, 4, 5, 6] rfl
  have hD : va_D A (wd_X h0 qO qU qW qG qN qL cJ cI cZ cB fO2 fU2 fW2 fG2 fL2 len2 size2) := hD.sub (ws' := (wd_X h0 qO qU qW qG qN qL cJ cI cZ cB fO2 fU2 fW2 fG2 fL2 len2 size2)) [0, 1, 2, 3, 4, 5, 6] (by decide) rfl
  try dsimp only at hw
  refine lv_lstore (lv' := [(4, .long r2), (0, .ref h0), (1, .int a1), (2, .int a2), (3, .int a3)]) hx hb dc_X_reckon_5 hl (Nat.le_of_ble_eq_true rfl) rfl (fun ls hl => ?_)
  refine lv_aload_n hx hb dc_X_reckon_7 rfl (lv_at hl 1 rfl) ?_
  refine lv_iload_n hx hb dc_X_reckon_8 rfl (lv_at hl 4 rfl) ?_
  refine gc_l (S := (Nat → Int64) × (Nat → Int64) × (Nat → Int32) × (Nat → Int32) × (Nat → Int32) × Int32 × Int32) (w1 := (fun u => (wd_X h0 qO qU qW qG qN qL cJ cI cZ cB u.1 u.2.1 u.2.2.1 u.2.2.2.1 u.2.2.2.2.1 u.2.2.2.2.2.1 u.2.2.2.2.2.2))) (wc := (wd_X h0 qO qU qW qG qN qL cJ cI cZ cB fO2 fU2 fW2 fG2 fL2 len2 size2)) (wr := ([] : va_W)) (va_runV (As := [.int a3]) (rest := []) ⟨hx, hb, hml, hown, hts⟩ (kt_X_number l dC dI cJ cI cZ cB h0 qO qU qW qG qN qL _ a3 fO2 fU2 fW2 fG2 fL2 len2 size2 _ hw) ⟨callB_of 1 hts (gw_in mw_t207) rfl rfl rfl (hq mw_t1) (hq mw_t204) (by decide +kernel) ⟨Nat.le_of_ble_eq_true rfl, Nat.le_of_ble_eq_true rfl⟩, hq mw_t206, hq mw_s8⟩ (pv_W (va_recv (q0 := 0) (ci := 1) hK hP rfl rfl) (hP.sub (ws' := (wd_X h0 qO qU qW qG qN qL cJ cI cZ cB fO2 fU2 fW2 fG2 fL2 len2 size2)) [0, 1, 2, 3, 4, 5, 6] rfl) hK (hD.sub (ws' := (wd_X h0 qO qU qW qG qN qL cJ cI cZ cB fO2 fU2 fW2 fG2 fL2 len2 size2)) [0, 1, 2, 3, 4, 5, 6] (by decide) rfl) hE) rfl rfl hl.1 rfl (lv_room (Nat.le_of_ble_eq_true rfl)) dc_X_reckon_9 ⟨Nat.le_of_ble_eq_true rfl, Nat.le_of_ble_eq_true rfl⟩) hP hD hS hA [0, 1, 2, 3, 4, 5, 6] [] rfl rfl (by decide) (by decide) (fun r9 u H locs hw hP hD hS => ?_)
  obtain ⟨fO9, fU9, fW9, fG9, fL9, len9, size9⟩ := u
  have hP : va_P (dC, dI) cs_3 (wd_X h0 qO qU qW qG qN qL cJ cI cZ cB fO9 fU9 fW9 fG9 fL9 len9 size9) H := hP.sub (ws' := (wd_X h0 qO qU qW qG qN qL cJ cI cZ cB fO9 fU9 fW9 fG9 fL9 len9 size9)) [0, 1, 2, 3, 4, 5, 6] rfl
  have hD : va_D A (wd_X h0 qO qU qW qG qN qL cJ cI cZ cB fO9 fU9 fW9 fG9 fL9 len9 size9) := hD.sub (ws' := (wd_X h0 qO qU qW qG qN qL cJ cI cZ cB fO9 fU9 fW9 fG9 fL9 len9 size9)) [0, 1, 2, 3, 4, 5, 6] (by decide) rfl
  try dsimp only at hw
  refine lv_lstore (lv' := [(6, .long r9), (4, .long r2), (0, .ref h0), (1, .int a1), (2, .int a2), (3, .int a3)]) hx hb dc_X_reckon_12 hl (Nat.le_of_ble_eq_true rfl) rfl (fun ls hl => ?_)
  refine lv_iload_n hx hb dc_X_reckon_14 rfl (lv_at hl 3 rfl) ?_
  refine lv_iconst (v := 3) hx hb dc_X_reckon_15 (by decide) ?_
  obtain ⟨hw1, hw2⟩ := hw
  refine lv_icmp_eq (tgt := 24) hx hb dc_X_reckon_16 (by decide) (fun hc => ?_) (fun hc => ?_)
  · have hw := hw1 hc
    clear hw1 hw2
    exact B_24 _ _ _ a1 a2 a3 r2 r9 fO9 fU9 fW9 fG9 fL9 len9 size9 hw hP hD hS (lv_sub hl [2, 3, 4, 5, 1, 0] rfl)
  · have hw := hw2 hc
    clear hw1 hw2
    refine lv_iload_n hx hb dc_X_reckon_19 rfl (lv_at hl 3 rfl) ?_
    refine lv_iconst (v := 4) hx hb dc_X_reckon_20 (by decide) ?_
    obtain ⟨hw1, hw2⟩ := hw
    refine lv_icmp_ne (tgt := 28) hx hb dc_X_reckon_21 (by decide) (fun hc => ?_) (fun hc => ?_)
    · have hw := hw1 hc
      clear hw1 hw2
      refine lv_iconst (v := 0) hx hb dc_X_reckon_28 (by decide) ?_
      exact B_29 _ _ _ a1 a2 a3 r2 r9 (0 : Int32) fO9 fU9 fW9 fG9 fL9 len9 size9 hw hP hD hS (lv_sub hl [2, 3, 4, 5, 1, 0] rfl)
    · have hw := hw2 (fun h9 => h9 hc)
      clear hw1 hw2
      exact B_24 _ _ _ a1 a2 a3 r2 r9 fO9 fU9 fW9 fG9 fL9 len9 size9 hw hP hD hS (lv_sub hl [2, 3, 4, 5, 1, 0] rfl)

set_option maxHeartbeats 4000000 in
set_option maxRecDepth 100000 in
theorem kt_X_moveRight (l : Launch) (dC : Nat → ClassId) (dI : Nat → Nat → Nat) (cJ cI cZ cB : ClassId) (h0 qO qU qW qG qN qL : Nat) (sz : Nat) (a1 : Int32) (a2 : Int64) (a4 : Int32) (fO : (Nat → Int64)) (fU : (Nat → Int64)) (fW : (Nat → Int32)) (fG : (Nat → Int32)) (fL : (Nat → Int32)) (len : Int32) (size : Int32) (post : (Nat → Int64) → (Nat → Int64) → (Nat → Int32) → (Nat → Int32) → (Nat → Int32) → Int32 → Int32 → Prop) (hw : wp_X_moveRight post a1 a2 a4 fO fU fW fG fL len size) : Met l yn_X_moveRight ws_X_moveRight rm_X_moveRight (va_Pc [.ref h0, .int a1, .long a2, .int a4] (pc_W (dC, dI) (ty_4 cJ cI cZ cB) (wd_X h0 qO qU qW qG qN qL cJ cI cZ cB fO fU fW fG fL len size) sz)) (qv_X dC dI cJ cI cZ cB h0 qO qU qW qG qN qL post (va_A (wd_X h0 qO qU qW qG qN qL cJ cI cZ cB fO fU fW fG fL len size) sz)) 0 0 (va_A (wd_X h0 qO qU qW qG qN qL cJ cI cZ cB fO fU fW fG fL len size) sz) := by
  refine Met.ofW (cc := cd_X_moveRight) (maxL := 7) (ret := none) (by decide) rfl ?_
  intro p e s m args below meth c s₁ B hml hv
  obtain ⟨rfl, hsz, hP, hK, hD0, hE⟩ := hv
  have hx := B.exec
  have hb := B.bytes
  have hr := B.returns
  have hts := atoms_spec (ws := ws_X_moveRight) B.pre
  have hq : ∀ {w : Cond}, w ∈ wg_all → w.before ([.ref h0, .int a1, .long a2, .int a4] : List Value).toArray s = true := fun h => hts _ (List.mem_cons_of_mem _ h)
  have hu : ∀ L : List Cond, (∀ w ∈ L, w ∈ wg_all) → ∀ w ∈ L, w ∈ ws_X_moveRight := fun L h w hw => List.mem_cons_of_mem _ (h w hw)
  have hown : s.vm.findClass "FourWords" = some m.cls := findClass_of_methodNamed B.named
  have hlocks := B.notSynchronized
  subst hsz
  have hD := hD0.self (sz := s.heap.size)
  generalize hAe : va_A (wd_X h0 qO qU qW qG qN qL cJ cI cZ cB fO fU fW fG fL len size) s.heap.size = A at hD ⊢
  have hA : ∀ q : Nat, s.heap.size ≤ q → A q := fun q h => by rw [← hAe]; exact Or.inr h
  have hS : va_S A s.heap s.heap [] := va_S.rf
  have hl := lv_entry [.ref h0, .int a1, .long a2, .int a4] (n := 7) (Nat.le_of_ble_eq_true rfl)
  rw [lg_entry_eq]
  generalize (lg_sl [.ref h0, .int a1, .long a2, .int a4] ++ List.replicate (7 - (lg_sl [.ref h0, .int a1, .long a2, .int a4]).length) Slot.unset).toArray = ls at hl ⊢
  have hl : lv_has ls 7 [(0, .ref h0), (1, .int a1), (2, .long a2), (4, .int a4)] := hl
  have B_111 : ∀ (H : Heap) (locs : List Loc) (ls : Array Slot) (fO : (Nat → Int64)) (fU : (Nat → Int64)) (fW : (Nat → Int32)) (fG : (Nat → Int32)) (fL : (Nat → Int32)) (len : Int32) (size : Int32), wp_X_moveRight_111 post fO fU fW fG fL len size → va_P (dC, dI) cs_3 (wd_X h0 qO qU qW qG qN qL cJ cI cZ cB fO fU fW fG fL len size) H → va_D A (wd_X h0 qO qU qW qG qN qL cJ cI cZ cB fO fU fW fG fL len size) → va_S A s.heap H locs → lv_has ls 7 [] → W p l e (headSpec ws_X_moveRight rm_X_moveRight).room s m ([.ref h0, .int a1, .long a2, .int a4] : List Value).toArray below meth c H locs 0 0 (MQ below (qv_X dC dI cJ cI cZ cB h0 qO qU qW qG qN qL post A) ([.ref h0, .int a1, .long a2, .int a4] : List Value).toArray s 0 0 A) (F0 m 111 ls []) := by
    intro H locs ls fO fU fW fG fL len size hw hP hD hS hl
    unfold wp_X_moveRight_111 at hw
    exact W.vret hx hb hr (fun t ht hW => ⟨⟨(fO, fU, fW, fG, fL, len, size), rfl, hw, by rw [ht]; exact hP, va_K.moved hW.alike hK, hD⟩, hS.F ht⟩) hS.2.2 dc_X_moveRight_111
  have B_22 : ∀ (H : Heap) (locs : List Loc) (ls : Array Slot) (x1 : Int32) (t0 : Int32) (fO : (Nat → Int64)) (fU : (Nat → Int64)) (fW : (Nat → Int32)) (fG : (Nat → Int32)) (fL : (Nat → Int32)) (len : Int32) (size : Int32), wp_X_moveRight_22 post x1 t0 fO fU fW fG fL len size → va_P (dC, dI) cs_3 (wd_X h0 qO qU qW qG qN qL cJ cI cZ cB fO fU fW fG fL len size) H → va_D A (wd_X h0 qO qU qW qG qN qL cJ cI cZ cB fO fU fW fG fL len size) → va_S A s.heap H locs → lv_has ls 7 [(0, .ref h0), (1, .int x1)] → W p l e (headSpec ws_X_moveRight rm_X_moveRight).room s m ([.ref h0, .int a1, .long a2, .int a4] : List Value).toArray below meth c H locs 0 0 (MQ below (qv_X dC dI cJ cI cZ cB h0 qO qU qW qG qN qL post A) ([.ref h0, .int a1, .long a2, .int a4] : List Value).toArray s 0 0 A) (F0 m 22 ls [.int t0]) := by
    intro H locs ls x1 t0 fO fU fW fG fL len size hw hP hD hS hl
    unfold wp_X_moveRight_22 at hw
    refine lv_istore (lv' := [(5, .int t0), (0, .ref h0), (1, .int x1)]) hx hb dc_X_moveRight_22 hl (Nat.le_of_ble_eq_true rfl) rfl (fun ls hl => ?_)
    refine lv_aload_n hx hb dc_X_moveRight_24 rfl (lv_at hl 1 rfl) ?_
    refine va_get (D := (dC, dI)) (ci := 1) (v := .ref qW) (C := "FourWords") (T := tb_X) (N := 6) hx hb hts (hu _ um_X) hown hK hP 0 rfl rfl 2 (by decide) (hq mw_t42) (fun _ h9 => h9) rfl dc_X_moveRight_25 ?_
    refine lv_iload_n hx hb dc_X_moveRight_28 rfl (lv_at hl 2 rfl) ?_
    obtain ⟨hin, hw⟩ := hw
    refine va_iald hx hb hK hP 3 1 rfl rfl hin dc_X_moveRight_29 ?_
    refine lv_topi (fun v30 e30 => ?_)
    have hw := hw v30 e30
    refine lv_istore (lv' := [(6, .int v30), (5, .int t0), (0, .ref h0), (1, .int x1)]) hx hb dc_X_moveRight_30 hl (Nat.le_of_ble_eq_true rfl) rfl (fun ls hl => ?_)
    refine lv_aload_n hx hb dc_X_moveRight_32 rfl (lv_at hl 2 rfl) ?_
    refine lv_iload_n hx hb dc_X_moveRight_33 rfl (lv_at hl 3 rfl) ?_
    refine lv_aload_n hx hb dc_X_moveRight_34 rfl (lv_at hl 2 rfl) ?_
    refine va_get (D := (dC, dI)) (ci := 1) (v := .ref qO) (C := "FourWords") (T := tb_X) (N := 6) hx hb hts (hu _ um_X) hown hK hP 0 rfl rfl 0 (by decide) (hq mw_t40) (fun _ h9 => h9) rfl dc_X_moveRight_35 ?_
    refine lv_iload_n hx hb dc_X_moveRight_38 rfl (lv_at hl 3 rfl) ?_
    obtain ⟨hin, hw⟩ := hw
    refine va_lald hx hb hK hP 1 0 rfl rfl hin dc_X_moveRight_39 ?_
    refine lv_iload hx hb dc_X_moveRight_40 (lv_at hl 0 rfl) ?_
    refine gc_l (S := Unit) (w1 := (fun u => ([] : va_W))) (wc := ([] : va_W)) (wr := ([(h0, .inr (1, [.ref qO, .ref qU, .ref qW, .ref qG, .ref qN, .int size])), (qO, .inl (cJ, 64, .inr (.inl fO))), (qU, .inl (cJ, 64, .inr (.inl fU))), (qW, .inl (cI, 64, .inl fW)), (qG, .inl (cZ, 64, .inl fG)), (qN, .inr (0, [.ref qL, .int len])), (qL, .inl (cB, 64, .inl fL))] : va_W)) (va_runSN (As := [.long (fO x1.toNatClampNeg), .int v30]) (rest := [.int x1, .ref h0]) ⟨hx, hb, hml, hown, hts⟩ (kt_B_withHighestInFront l dC dI cJ cI cZ cB _ (fO x1.toNatClampNeg) v30 _ hw) ⟨va_cnB 2 hts (gw_in mw_t199) rfl rfl rfl (en_X164 hE) (hq mw_t9) (by decide +kernel) ⟨Nat.le_of_ble_eq_true rfl, Nat.le_of_ble_eq_true rfl⟩, hq mw_t198, trivial⟩ (ps_W (hP.sub (ws' := ([] : va_W)) [] rfl) hK (hD.sub (ws' := ([] : va_W)) [] (by decide) rfl) hE) rfl rfl hl.1 rfl (lv_room (Nat.le_of_ble_eq_true rfl)) dc_X_moveRight_42 ⟨Nat.le_of_ble_eq_true rfl, Nat.le_of_ble_eq_true rfl⟩) hP hD hS hA [] [0, 1, 2, 3, 4, 5, 6] rfl rfl (by decide) (by decide) (fun r42 u H locs hw hP hD hS => ?_)
    have hP : va_P (dC, dI) cs_3 (wd_X h0 qO qU qW qG qN qL cJ cI cZ cB fO fU fW fG fL len size) H := hP.sub (ws' := (wd_X h0 qO qU qW qG qN qL cJ cI cZ cB fO fU fW fG fL len size)) [0, 1, 2, 3, 4, 5, 6] rfl
    have hD : va_D A (wd_X h0 qO qU qW qG qN qL cJ cI cZ cB fO fU fW fG fL len size) := hD.sub (ws' := (wd_X h0 qO qU qW qG qN qL cJ cI cZ cB fO fU fW fG fL len size)) [0, 1, 2, 3, 4, 5, 6] (by decide) rfl
    try dsimp only at hw
    refine lv_iload hx hb dc_X_moveRight_45 (lv_at hl 1 rfl) ?_
    refine lv_lshr hx hb dc_X_moveRight_47 rfl ?_
    refine lv_aload_n hx hb dc_X_moveRight_48 rfl (lv_at hl 2 rfl) ?_
    refine va_get (D := (dC, dI)) (ci := 1) (v := .ref qU) (C := "FourWords") (T := tb_X) (N := 6) hx hb hts (hu _ um_X) hown hK hP 0 rfl rfl 1 (by decide) (hq mw_t41) (fun _ h9 => h9) rfl dc_X_moveRight_49 ?_
    refine lv_iload_n hx hb dc_X_moveRight_52 rfl (lv_at hl 3 rfl) ?_
    obtain ⟨hin, hw⟩ := hw
    refine va_lald hx hb hK hP 2 0 rfl rfl hin dc_X_moveRight_53 ?_
    refine lv_iload hx hb dc_X_moveRight_54 (lv_at hl 0 rfl) ?_
    refine gc_l (S := Unit) (w1 := (fun u => ([] : va_W))) (wc := ([] : va_W)) (wr := ([(h0, .inr (1, [.ref qO, .ref qU, .ref qW, .ref qG, .ref qN, .int size])), (qO, .inl (cJ, 64, .inr (.inl fO))), (qU, .inl (cJ, 64, .inr (.inl fU))), (qW, .inl (cI, 64, .inl fW)), (qG, .inl (cZ, 64, .inl fG)), (qN, .inr (0, [.ref qL, .int len])), (qL, .inl (cB, 64, .inl fL))] : va_W)) (va_runSN (As := [.long (fU x1.toNatClampNeg), .int v30]) (rest := [.long (r42 >>> (t0.toInt64 &&& 63)), .int x1, .ref h0]) ⟨hx, hb, hml, hown, hts⟩ (kt_B_withHighestInFront l dC dI cJ cI cZ cB _ (fU x1.toNatClampNeg) v30 _ hw) ⟨va_cnB 2 hts (gw_in mw_t199) rfl rfl rfl (en_X164 hE) (hq mw_t9) (by decide +kernel) ⟨Nat.le_of_ble_eq_true rfl, Nat.le_of_ble_eq_true rfl⟩, hq mw_t198, trivial⟩ (ps_W (hP.sub (ws' := ([] : va_W)) [] rfl) hK (hD.sub (ws' := ([] : va_W)) [] (by decide) rfl) hE) rfl rfl hl.1 rfl (lv_room (Nat.le_of_ble_eq_true rfl)) dc_X_moveRight_56 ⟨Nat.le_of_ble_eq_true rfl, Nat.le_of_ble_eq_true rfl⟩) hP hD hS hA [] [0, 1, 2, 3, 4, 5, 6] rfl rfl (by decide) (by decide) (fun r56 u H locs hw hP hD hS => ?_)
    have hP : va_P (dC, dI) cs_3 (wd_X h0 qO qU qW qG qN qL cJ cI cZ cB fO fU fW fG fL len size) H := hP.sub (ws' := (wd_X h0 qO qU qW qG qN qL cJ cI cZ cB fO fU fW fG fL len size)) [0, 1, 2, 3, 4, 5, 6] rfl
    have hD : va_D A (wd_X h0 qO qU qW qG qN qL cJ cI cZ cB fO fU fW fG fL len size) := hD.sub (ws' := (wd_X h0 qO qU qW qG qN qL cJ cI cZ cB fO fU fW fG fL len size)) [0, 1, 2, 3, 4, 5, 6] (by decide) rfl
    try dsimp only at hw
    refine lv_iload hx hb dc_X_moveRight_59 (lv_at hl 1 rfl) ?_
    refine lv_lshr hx hb dc_X_moveRight_61 rfl ?_
    refine gc_v (S := (Nat → Int64) × (Nat → Int64) × (Nat → Int32) × (Nat → Int32) × (Nat → Int32) × Int32 × Int32) (w1 := (fun u => (wd_X h0 qO qU qW qG qN qL cJ cI cZ cB u.1 u.2.1 u.2.2.1 u.2.2.2.1 u.2.2.2.2.1 u.2.2.2.2.2.1 u.2.2.2.2.2.2))) (wc := (wd_X h0 qO qU qW qG qN qL cJ cI cZ cB fO fU fW fG fL len size)) (wr := ([] : va_W)) (va_runV (As := [.int x1, .long (r42 >>> (t0.toInt64 &&& 63)), .long (r56 >>> (t0.toInt64 &&& 63))]) (rest := []) ⟨hx, hb, hml, hown, hts⟩ (kt_X_setBits l dC dI cJ cI cZ cB h0 qO qU qW qG qN qL _ x1 (r42 >>> (t0.toInt64 &&& 63)) (r56 >>> (t0.toInt64 &&& 63)) fO fU fW fG fL len size _ hw) ⟨callB_of 3 hts (gw_in mw_t169) rfl rfl rfl (hq mw_t1) (hq mw_t166) (by decide +kernel) ⟨Nat.le_of_ble_eq_true rfl, Nat.le_of_ble_eq_true rfl⟩, hq mw_t168, hq mw_s3⟩ (pv_W (va_recv (q0 := 0) (ci := 1) hK hP rfl rfl) (hP.sub (ws' := (wd_X h0 qO qU qW qG qN qL cJ cI cZ cB fO fU fW fG fL len size)) [0, 1, 2, 3, 4, 5, 6] rfl) hK (hD.sub (ws' := (wd_X h0 qO qU qW qG qN qL cJ cI cZ cB fO fU fW fG fL len size)) [0, 1, 2, 3, 4, 5, 6] (by decide) rfl) hE) rfl rfl hl.1 rfl (lv_room (Nat.le_of_ble_eq_true rfl)) dc_X_moveRight_62 ⟨Nat.le_of_ble_eq_true rfl, Nat.le_of_ble_eq_true rfl⟩) hP hD hS hA [0, 1, 2, 3, 4, 5, 6] [] rfl rfl (by decide) (by decide) (fun u H locs hw hP hD hS => ?_)
    obtain ⟨fO62, fU62, fW62, fG62, fL62, len62, size62⟩ := u
    have hP : va_P (dC, dI) cs_3 (wd_X h0 qO qU qW qG qN qL cJ cI cZ cB fO62 fU62 fW62 fG62 fL62 len62 size62) H := hP.sub (ws' := (wd_X h0 qO qU qW qG qN qL cJ cI cZ cB fO62 fU62 fW62 fG62 fL62 len62 size62)) [0, 1, 2, 3, 4, 5, 6] rfl
    have hD : va_D A (wd_X h0 qO qU qW qG qN qL cJ cI cZ cB fO62 fU62 fW62 fG62 fL62 len62 size62) := hD.sub (ws' := (wd_X h0 qO qU qW qG qN qL cJ cI cZ cB fO62 fU62 fW62 fG62 fL62 len62 size62)) [0, 1, 2, 3, 4, 5, 6] (by decide) rfl
    try dsimp only at hw
    refine lv_goto (tgt := 111) hx hb dc_X_moveRight_65 (by decide) ?_
    exact B_111 _ _ _ fO62 fU62 fW62 fG62 fL62 len62 size62 hw hP hD hS (lv_sub hl [] rfl)
  unfold wp_X_moveRight at hw
  refine lv_iload hx hb dc_X_moveRight_0 (lv_at hl 3 rfl) ?_
  obtain ⟨hw1, hw2⟩ := hw
  refine lv_if_eq (tgt := 68) hx hb dc_X_moveRight_2 (by decide) (fun hc => ?_) (fun hc => ?_)
  · have hw := hw1 hc
    clear hw1 hw2
    refine lv_lload_n hx hb dc_X_moveRight_68 rfl (lv_at hl 2 rfl) ?_
    refine lv_ldc2 (v := 64) hx hb hown (hq mw_t278) dc_X_moveRight_69 ?_
    refine gc_i (S := Unit) (w1 := (fun u => ([] : va_W))) (wc := ([] : va_W)) (wr := ([(h0, .inr (1, [.ref qO, .ref qU, .ref qW, .ref qG, .ref qN, .int size])), (qO, .inl (cJ, 64, .inr (.inl fO))), (qU, .inl (cJ, 64, .inr (.inl fU))), (qW, .inl (cI, 64, .inl fW)), (qG, .inl (cZ, 64, .inl fG)), (qN, .inr (0, [.ref qL, .int len])), (qL, .inl (cB, 64, .inl fL))] : va_W)) (va_runSN (As := [.long a2, .long (64 : Int64)]) (rest := []) ⟨hx, hb, hml, hown, hts⟩ (kt_B_below l dC dI cJ cI cZ cB _ a2 (64 : Int64) _ hw) ⟨va_cnB 2 hts (gw_in mw_t218) rfl rfl rfl (en_X192 hE) (hq mw_t9) (by decide +kernel) ⟨Nat.le_of_ble_eq_true rfl, Nat.le_of_ble_eq_true rfl⟩, hq mw_t217, trivial⟩ (ps_W (hP.sub (ws' := ([] : va_W)) [] rfl) hK (hD.sub (ws' := ([] : va_W)) [] (by decide) rfl) hE) rfl rfl hl.1 rfl (lv_room (Nat.le_of_ble_eq_true rfl)) dc_X_moveRight_72 ⟨Nat.le_of_ble_eq_true rfl, Nat.le_of_ble_eq_true rfl⟩) hP hD hS hA [] [0, 1, 2, 3, 4, 5, 6] rfl rfl (by decide) (by decide) (fun r72 u H locs hw hP hD hS => ?_)
    have hP : va_P (dC, dI) cs_3 (wd_X h0 qO qU qW qG qN qL cJ cI cZ cB fO fU fW fG fL len size) H := hP.sub (ws' := (wd_X h0 qO qU qW qG qN qL cJ cI cZ cB fO fU fW fG fL len size)) [0, 1, 2, 3, 4, 5, 6] rfl
    have hD : va_D A (wd_X h0 qO qU qW qG qN qL cJ cI cZ cB fO fU fW fG fL len size) := hD.sub (ws' := (wd_X h0 qO qU qW qG qN qL cJ cI cZ cB fO fU fW fG fL len size)) [0, 1, 2, 3, 4, 5, 6] (by decide) rfl
    try dsimp only at hw
    obtain ⟨hw1, hw2⟩ := hw
    refine lv_if_ne (tgt := 88) hx hb dc_X_moveRight_75 (by decide) (fun hc => ?_) (fun hc => ?_)
    · have hw := hw1 hc
      clear hw1 hw2
      refine lv_aload_n hx hb dc_X_moveRight_88 rfl (lv_at hl 0 rfl) ?_
      refine lv_iload_n hx hb dc_X_moveRight_89 rfl (lv_at hl 1 rfl) ?_
      refine lv_aload_n hx hb dc_X_moveRight_90 rfl (lv_at hl 0 rfl) ?_
      refine va_get (D := (dC, dI)) (ci := 1) (v := .ref qO) (C := "FourWords") (T := tb_X) (N := 6) hx hb hts (hu _ um_X) hown hK hP 0 rfl rfl 0 (by decide) (hq mw_t40) (fun _ h9 => h9) rfl dc_X_moveRight_91 ?_
      refine lv_iload_n hx hb dc_X_moveRight_94 rfl (lv_at hl 1 rfl) ?_
      obtain ⟨hin, hw⟩ := hw
      refine va_lald hx hb hK hP 1 0 rfl rfl hin dc_X_moveRight_95 ?_
      refine lv_lload_n hx hb dc_X_moveRight_96 rfl (lv_at hl 2 rfl) ?_
      refine lv_l2i hx hb dc_X_moveRight_97 rfl ?_
      refine lv_lushr hx hb dc_X_moveRight_98 rfl ?_
      refine lv_aload_n hx hb dc_X_moveRight_99 rfl (lv_at hl 0 rfl) ?_
      refine va_get (D := (dC, dI)) (ci := 1) (v := .ref qU) (C := "FourWords") (T := tb_X) (N := 6) hx hb hts (hu _ um_X) hown hK hP 0 rfl rfl 1 (by decide) (hq mw_t41) (fun _ h9 => h9) rfl dc_X_moveRight_100 ?_
      refine lv_iload_n hx hb dc_X_moveRight_103 rfl (lv_at hl 1 rfl) ?_
      obtain ⟨hin, hw⟩ := hw
      refine va_lald hx hb hK hP 2 0 rfl rfl hin dc_X_moveRight_104 ?_
      refine lv_lload_n hx hb dc_X_moveRight_105 rfl (lv_at hl 2 rfl) ?_
      refine lv_l2i hx hb dc_X_moveRight_106 rfl ?_
      refine lv_lushr hx hb dc_X_moveRight_107 rfl ?_
      refine gc_v (S := (Nat → Int64) × (Nat → Int64) × (Nat → Int32) × (Nat → Int32) × (Nat → Int32) × Int32 × Int32) (w1 := (fun u => (wd_X h0 qO qU qW qG qN qL cJ cI cZ cB u.1 u.2.1 u.2.2.1 u.2.2.2.1 u.2.2.2.2.1 u.2.2.2.2.2.1 u.2.2.2.2.2.2))) (wc := (wd_X h0 qO qU qW qG qN qL cJ cI cZ cB fO fU fW fG fL len size)) (wr := ([] : va_W)) (va_runV (As := [.int a1, .long (((fO a1.toNatClampNeg).toUInt64 >>> (a2.toInt32.toInt64.toUInt64 &&& Int64.toUInt64 63)).toInt64), .long (((fU a1.toNatClampNeg).toUInt64 >>> (a2.toInt32.toInt64.toUInt64 &&& Int64.toUInt64 63)).toInt64)]) (rest := []) ⟨hx, hb, hml, hown, hts⟩ (kt_X_setBits l dC dI cJ cI cZ cB h0 qO qU qW qG qN qL _ a1 (((fO a1.toNatClampNeg).toUInt64 >>> (a2.toInt32.toInt64.toUInt64 &&& Int64.toUInt64 63)).toInt64) (((fU a1.toNatClampNeg).toUInt64 >>> (a2.toInt32.toInt64.toUInt64 &&& Int64.toUInt64 63)).toInt64) fO fU fW fG fL len size _ hw) ⟨callB_of 3 hts (gw_in mw_t169) rfl rfl rfl (hq mw_t1) (hq mw_t166) (by decide +kernel) ⟨Nat.le_of_ble_eq_true rfl, Nat.le_of_ble_eq_true rfl⟩, hq mw_t168, hq mw_s3⟩ (pv_W (va_recv (q0 := 0) (ci := 1) hK hP rfl rfl) (hP.sub (ws' := (wd_X h0 qO qU qW qG qN qL cJ cI cZ cB fO fU fW fG fL len size)) [0, 1, 2, 3, 4, 5, 6] rfl) hK (hD.sub (ws' := (wd_X h0 qO qU qW qG qN qL cJ cI cZ cB fO fU fW fG fL len size)) [0, 1, 2, 3, 4, 5, 6] (by decide) rfl) hE) rfl rfl hl.1 rfl (lv_room (Nat.le_of_ble_eq_true rfl)) dc_X_moveRight_108 ⟨Nat.le_of_ble_eq_true rfl, Nat.le_of_ble_eq_true rfl⟩) hP hD hS hA [0, 1, 2, 3, 4, 5, 6] [] rfl rfl (by decide) (by decide) (fun u H locs hw hP hD hS => ?_)
      obtain ⟨fO108, fU108, fW108, fG108, fL108, len108, size108⟩ := u
      have hP : va_P (dC, dI) cs_3 (wd_X h0 qO qU qW qG qN qL cJ cI cZ cB fO108 fU108 fW108 fG108 fL108 len108 size108) H := hP.sub (ws' := (wd_X h0 qO qU qW qG qN qL cJ cI cZ cB fO108 fU108 fW108 fG108 fL108 len108 size108)) [0, 1, 2, 3, 4, 5, 6] rfl
      have hD : va_D A (wd_X h0 qO qU qW qG qN qL cJ cI cZ cB fO108 fU108 fW108 fG108 fL108 len108 size108) := hD.sub (ws' := (wd_X h0 qO qU qW qG qN qL cJ cI cZ cB fO108 fU108 fW108 fG108 fL108 len108 size108)) [0, 1, 2, 3, 4, 5, 6] (by decide) rfl
      try dsimp only at hw
      exact B_111 _ _ _ fO108 fU108 fW108 fG108 fL108 len108 size108 hw hP hD hS (lv_sub hl [] rfl)
    · have hw := hw2 (fun h9 => h9 hc)
      clear hw1 hw2
      refine lv_aload_n hx hb dc_X_moveRight_78 rfl (lv_at hl 0 rfl) ?_
      refine lv_iload_n hx hb dc_X_moveRight_79 rfl (lv_at hl 1 rfl) ?_
      refine lv_lconst (v := 0) hx hb dc_X_moveRight_80 (by decide) ?_
      refine lv_lconst (v := 0) hx hb dc_X_moveRight_81 (by decide) ?_
      refine gc_v (S := (Nat → Int64) × (Nat → Int64) × (Nat → Int32) × (Nat → Int32) × (Nat → Int32) × Int32 × Int32) (w1 := (fun u => (wd_X h0 qO qU qW qG qN qL cJ cI cZ cB u.1 u.2.1 u.2.2.1 u.2.2.2.1 u.2.2.2.2.1 u.2.2.2.2.2.1 u.2.2.2.2.2.2))) (wc := (wd_X h0 qO qU qW qG qN qL cJ cI cZ cB fO fU fW fG fL len size)) (wr := ([] : va_W)) (va_runV (As := [.int a1, .long (0 : Int64), .long (0 : Int64)]) (rest := []) ⟨hx, hb, hml, hown, hts⟩ (kt_X_setBits l dC dI cJ cI cZ cB h0 qO qU qW qG qN qL _ a1 (0 : Int64) (0 : Int64) fO fU fW fG fL len size _ hw) ⟨callB_of 3 hts (gw_in mw_t169) rfl rfl rfl (hq mw_t1) (hq mw_t166) (by decide +kernel) ⟨Nat.le_of_ble_eq_true rfl, Nat.le_of_ble_eq_true rfl⟩, hq mw_t168, hq mw_s3⟩ (pv_W (va_recv (q0 := 0) (ci := 1) hK hP rfl rfl) (hP.sub (ws' := (wd_X h0 qO qU qW qG qN qL cJ cI cZ cB fO fU fW fG fL len size)) [0, 1, 2, 3, 4, 5, 6] rfl) hK (hD.sub (ws' := (wd_X h0 qO qU qW qG qN qL cJ cI cZ cB fO fU fW fG fL len size)) [0, 1, 2, 3, 4, 5, 6] (by decide) rfl) hE) rfl rfl hl.1 rfl (lv_room (Nat.le_of_ble_eq_true rfl)) dc_X_moveRight_82 ⟨Nat.le_of_ble_eq_true rfl, Nat.le_of_ble_eq_true rfl⟩) hP hD hS hA [0, 1, 2, 3, 4, 5, 6] [] rfl rfl (by decide) (by decide) (fun u H locs hw hP hD hS => ?_)
      obtain ⟨fO82, fU82, fW82, fG82, fL82, len82, size82⟩ := u
      have hP : va_P (dC, dI) cs_3 (wd_X h0 qO qU qW qG qN qL cJ cI cZ cB fO82 fU82 fW82 fG82 fL82 len82 size82) H := hP.sub (ws' := (wd_X h0 qO qU qW qG qN qL cJ cI cZ cB fO82 fU82 fW82 fG82 fL82 len82 size82)) [0, 1, 2, 3, 4, 5, 6] rfl
      have hD : va_D A (wd_X h0 qO qU qW qG qN qL cJ cI cZ cB fO82 fU82 fW82 fG82 fL82 len82 size82) := hD.sub (ws' := (wd_X h0 qO qU qW qG qN qL cJ cI cZ cB fO82 fU82 fW82 fG82 fL82 len82 size82)) [0, 1, 2, 3, 4, 5, 6] (by decide) rfl
      try dsimp only at hw
      refine lv_goto (tgt := 111) hx hb dc_X_moveRight_85 (by decide) ?_
      exact B_111 _ _ _ fO82 fU82 fW82 fG82 fL82 len82 size82 hw hP hD hS (lv_sub hl [] rfl)
  · have hw := hw2 hc
    clear hw1 hw2
    refine lv_lload_n hx hb dc_X_moveRight_5 rfl (lv_at hl 2 rfl) ?_
    refine lv_ldc2 (v := 64) hx hb hown (hq mw_t278) dc_X_moveRight_6 ?_
    refine gc_i (S := Unit) (w1 := (fun u => ([] : va_W))) (wc := ([] : va_W)) (wr := ([(h0, .inr (1, [.ref qO, .ref qU, .ref qW, .ref qG, .ref qN, .int size])), (qO, .inl (cJ, 64, .inr (.inl fO))), (qU, .inl (cJ, 64, .inr (.inl fU))), (qW, .inl (cI, 64, .inl fW)), (qG, .inl (cZ, 64, .inl fG)), (qN, .inr (0, [.ref qL, .int len])), (qL, .inl (cB, 64, .inl fL))] : va_W)) (va_runSN (As := [.long a2, .long (64 : Int64)]) (rest := []) ⟨hx, hb, hml, hown, hts⟩ (kt_B_below l dC dI cJ cI cZ cB _ a2 (64 : Int64) _ hw) ⟨va_cnB 2 hts (gw_in mw_t218) rfl rfl rfl (en_X192 hE) (hq mw_t9) (by decide +kernel) ⟨Nat.le_of_ble_eq_true rfl, Nat.le_of_ble_eq_true rfl⟩, hq mw_t217, trivial⟩ (ps_W (hP.sub (ws' := ([] : va_W)) [] rfl) hK (hD.sub (ws' := ([] : va_W)) [] (by decide) rfl) hE) rfl rfl hl.1 rfl (lv_room (Nat.le_of_ble_eq_true rfl)) dc_X_moveRight_9 ⟨Nat.le_of_ble_eq_true rfl, Nat.le_of_ble_eq_true rfl⟩) hP hD hS hA [] [0, 1, 2, 3, 4, 5, 6] rfl rfl (by decide) (by decide) (fun r9 u H locs hw hP hD hS => ?_)
    have hP : va_P (dC, dI) cs_3 (wd_X h0 qO qU qW qG qN qL cJ cI cZ cB fO fU fW fG fL len size) H := hP.sub (ws' := (wd_X h0 qO qU qW qG qN qL cJ cI cZ cB fO fU fW fG fL len size)) [0, 1, 2, 3, 4, 5, 6] rfl
    have hD : va_D A (wd_X h0 qO qU qW qG qN qL cJ cI cZ cB fO fU fW fG fL len size) := hD.sub (ws' := (wd_X h0 qO qU qW qG qN qL cJ cI cZ cB fO fU fW fG fL len size)) [0, 1, 2, 3, 4, 5, 6] (by decide) rfl
    try dsimp only at hw
    obtain ⟨hw1, hw2⟩ := hw
    refine lv_if_eq (tgt := 20) hx hb dc_X_moveRight_12 (by decide) (fun hc => ?_) (fun hc => ?_)
    · have hw := hw1 hc
      clear hw1 hw2
      refine lv_bipush (v := 63) hx hb dc_X_moveRight_20 (by decide) ?_
      exact B_22 _ _ _ a1 (63 : Int32) fO fU fW fG fL len size hw hP hD hS (lv_sub hl [0, 1] rfl)
    · have hw := hw2 hc
      clear hw1 hw2
      refine lv_lload_n hx hb dc_X_moveRight_15 rfl (lv_at hl 2 rfl) ?_
      refine lv_l2i hx hb dc_X_moveRight_16 rfl ?_
      refine lv_goto (tgt := 22) hx hb dc_X_moveRight_17 (by decide) ?_
      exact B_22 _ _ _ a1 a2.toInt32 fO fU fW fG fL len size hw hP hD hS (lv_sub hl [0, 1] rfl)
set_option maxHeartbeats 4000000 in
set_option maxRecDepth 100000 in
theorem kt_X_writeGroups (l : Launch) (dC : Nat → ClassId) (dI : Nat → Nat → Nat) (cJ cI cZ cB : ClassId) (h0 qO qU qW qG qN qL : Nat) (sz : Nat) (a1 : Int32) (a2 : Int32) (a3 : Int32) (fO : (Nat → Int64)) (fU : (Nat → Int64)) (fW : (Nat → Int32)) (fG : (Nat → Int32)) (fL : (Nat → Int32)) (len : Int32) (size : Int32) (post : (Nat → Int64) → (Nat → Int64) → (Nat → Int32) → (Nat → Int32) → (Nat → Int32) → Int32 → Int32 → Prop) (hw : wp_X_writeGroups post a1 a2 a3 fO fU fW fG fL len size) : Met l yn_X_writeGroups ws_X_writeGroups rm_X_writeGroups (va_Pc [.ref h0, .int a1, .int a2, .int a3] (pc_W (dC, dI) (ty_4 cJ cI cZ cB) (wd_X h0 qO qU qW qG qN qL cJ cI cZ cB fO fU fW fG fL len size) sz)) (qv_X dC dI cJ cI cZ cB h0 qO qU qW qG qN qL post (va_A (wd_X h0 qO qU qW qG qN qL cJ cI cZ cB fO fU fW fG fL len size) sz)) 0 0 (va_A (wd_X h0 qO qU qW qG qN qL cJ cI cZ cB fO fU fW fG fL len size) sz) := by
  refine Met.ofW (cc := cd_X_writeGroups) (maxL := 11) (ret := none) (by decide) rfl ?_
  intro p e s m args below meth c s₁ B hml hv
  obtain ⟨rfl, hsz, hP, hK, hD0, hE⟩ := hv
  have hx := B.exec
  have hb := B.bytes
  have hr := B.returns
  have hts := atoms_spec (ws := ws_X_writeGroups) B.pre
  have hq : ∀ {w : Cond}, w ∈ wg_all → w.before ([.ref h0, .int a1, .int a2, .int a3] : List Value).toArray s = true := fun h => hts _ (List.mem_cons_of_mem _ h)
  have hu : ∀ L : List Cond, (∀ w ∈ L, w ∈ wg_all) → ∀ w ∈ L, w ∈ ws_X_writeGroups := fun L h w hw => List.mem_cons_of_mem _ (h w hw)
  have hown : s.vm.findClass "FourWords" = some m.cls := findClass_of_methodNamed B.named
  have hlocks := B.notSynchronized
  subst hsz
  have hD := hD0.self (sz := s.heap.size)
  generalize hAe : va_A (wd_X h0 qO qU qW qG qN qL cJ cI cZ cB fO fU fW fG fL len size) s.heap.size = A at hD ⊢
  have hA : ∀ q : Nat, s.heap.size ≤ q → A q := fun q h => by rw [← hAe]; exact Or.inr h
  have hS : va_S A s.heap s.heap [] := va_S.rf
  have hl := lv_entry [.ref h0, .int a1, .int a2, .int a3] (n := 11) (Nat.le_of_ble_eq_true rfl)
  rw [lg_entry_eq]
  generalize (lg_sl [.ref h0, .int a1, .int a2, .int a3] ++ List.replicate (11 - (lg_sl [.ref h0, .int a1, .int a2, .int a3]).length) Slot.unset).toArray = ls at hl ⊢
  have hl : lv_has ls 11 [(0, .ref h0), (1, .int a1), (2, .int a2), (3, .int a3)] := hl
  have B_121 : ∀ (K16 : Int32 → Int32 → Int32 → Int32 → Int32 → (Nat → Int64) → (Nat → Int64) → (Nat → Int32) → (Nat → Int32) → (Nat → Int32) → Int32 → Int32 → Prop) (hK16 : ∀ (H : Heap) (locs : List Loc) (ls : Array Slot) (x1 : Int32) (x2 : Int32) (x3 : Int32) (x4 : Int32) (x5 : Int32) (fO : (Nat → Int64)) (fU : (Nat → Int64)) (fW : (Nat → Int32)) (fG : (Nat → Int32)) (fL : (Nat → Int32)) (len : Int32) (size : Int32), K16 x1 x2 x3 x4 x5 fO fU fW fG fL len size → va_P (dC, dI) cs_3 (wd_X h0 qO qU qW qG qN qL cJ cI cZ cB fO fU fW fG fL len size) H → va_D A (wd_X h0 qO qU qW qG qN qL cJ cI cZ cB fO fU fW fG fL len size) → va_S A s.heap H locs → lv_has ls 11 [(0, .ref h0), (1, .int x1), (2, .int x2), (3, .int x3), (4, .int x4), (5, .int x5)] → W p l e (headSpec ws_X_writeGroups rm_X_writeGroups).room s m ([.ref h0, .int a1, .int a2, .int a3] : List Value).toArray below meth c H locs 0 0 (MQ below (qv_X dC dI cJ cI cZ cB h0 qO qU qW qG qN qL post A) ([.ref h0, .int a1, .int a2, .int a3] : List Value).toArray s 0 0 A) (F0 m 16 ls [])) (H : Heap) (locs : List Loc) (ls : Array Slot) (x1 : Int32) (x2 : Int32) (x3 : Int32) (x4 : Int32) (x5 : Int32) (fO : (Nat → Int64)) (fU : (Nat → Int64)) (fW : (Nat → Int32)) (fG : (Nat → Int32)) (fL : (Nat → Int32)) (len : Int32) (size : Int32), wp_X_writeGroups_121 K16 post x1 x2 x3 x4 x5 fO fU fW fG fL len size → va_P (dC, dI) cs_3 (wd_X h0 qO qU qW qG qN qL cJ cI cZ cB fO fU fW fG fL len size) H → va_D A (wd_X h0 qO qU qW qG qN qL cJ cI cZ cB fO fU fW fG fL len size) → va_S A s.heap H locs → lv_has ls 11 [(0, .ref h0), (1, .int x1), (2, .int x2), (3, .int x3), (4, .int x4), (5, .int x5)] → W p l e (headSpec ws_X_writeGroups rm_X_writeGroups).room s m ([.ref h0, .int a1, .int a2, .int a3] : List Value).toArray below meth c H locs 0 0 (MQ below (qv_X dC dI cJ cI cZ cB h0 qO qU qW qG qN qL post A) ([.ref h0, .int a1, .int a2, .int a3] : List Value).toArray s 0 0 A) (F0 m 121 ls []) := by
    intro K16 hK16 H locs ls x1 x2 x3 x4 x5 fO fU fW fG fL len size hw hP hD hS hl
    unfold wp_X_writeGroups_121 at hw
    refine lv_iinc (lv' := [(5, .int (x5 + (-1))), (0, .ref h0), (1, .int x1), (2, .int x2), (3, .int x3), (4, .int x4)]) hx hb dc_X_writeGroups_121 hl (k := 5) rfl (ic_m1 _) (Nat.le_of_ble_eq_true rfl) rfl (fun ls hl => ?_)
    refine lv_goto (tgt := 16) hx hb dc_X_writeGroups_124 (by decide) ?_
    exact hK16 _ _ _ x1 x2 x3 x4 (x5 + (-1)) fO fU fW fG fL len size hw hP hD hS (lv_sub hl [1, 2, 3, 4, 5, 0] rfl)
  have B_112 : ∀ (K16 : Int32 → Int32 → Int32 → Int32 → Int32 → (Nat → Int64) → (Nat → Int64) → (Nat → Int32) → (Nat → Int32) → (Nat → Int32) → Int32 → Int32 → Prop) (hK16 : ∀ (H : Heap) (locs : List Loc) (ls : Array Slot) (x1 : Int32) (x2 : Int32) (x3 : Int32) (x4 : Int32) (x5 : Int32) (fO : (Nat → Int64)) (fU : (Nat → Int64)) (fW : (Nat → Int32)) (fG : (Nat → Int32)) (fL : (Nat → Int32)) (len : Int32) (size : Int32), K16 x1 x2 x3 x4 x5 fO fU fW fG fL len size → va_P (dC, dI) cs_3 (wd_X h0 qO qU qW qG qN qL cJ cI cZ cB fO fU fW fG fL len size) H → va_D A (wd_X h0 qO qU qW qG qN qL cJ cI cZ cB fO fU fW fG fL len size) → va_S A s.heap H locs → lv_has ls 11 [(0, .ref h0), (1, .int x1), (2, .int x2), (3, .int x3), (4, .int x4), (5, .int x5)] → W p l e (headSpec ws_X_writeGroups rm_X_writeGroups).room s m ([.ref h0, .int a1, .int a2, .int a3] : List Value).toArray below meth c H locs 0 0 (MQ below (qv_X dC dI cJ cI cZ cB h0 qO qU qW qG qN qL post A) ([.ref h0, .int a1, .int a2, .int a3] : List Value).toArray s 0 0 A) (F0 m 16 ls [])) (H : Heap) (locs : List Loc) (ls : Array Slot) (x1 : Int32) (x2 : Int32) (x3 : Int32) (x4 : Int32) (x5 : Int32) (x9 : Int32) (fO : (Nat → Int64)) (fU : (Nat → Int64)) (fW : (Nat → Int32)) (fG : (Nat → Int32)) (fL : (Nat → Int32)) (len : Int32) (size : Int32), wp_X_writeGroups_112 K16 post x1 x2 x3 x4 x5 x9 fO fU fW fG fL len size → va_P (dC, dI) cs_3 (wd_X h0 qO qU qW qG qN qL cJ cI cZ cB fO fU fW fG fL len size) H → va_D A (wd_X h0 qO qU qW qG qN qL cJ cI cZ cB fO fU fW fG fL len size) → va_S A s.heap H locs → lv_has ls 11 [(0, .ref h0), (1, .int x1), (2, .int x2), (3, .int x3), (4, .int x4), (5, .int x5), (9, .int x9)] → W p l e (headSpec ws_X_writeGroups rm_X_writeGroups).room s m ([.ref h0, .int a1, .int a2, .int a3] : List Value).toArray below meth c H locs 0 0 (MQ below (qv_X dC dI cJ cI cZ cB h0 qO qU qW qG qN qL post A) ([.ref h0, .int a1, .int a2, .int a3] : List Value).toArray s 0 0 A) (F0 m 112 ls []) := by
    intro K16 hK16 H locs ls x1 x2 x3 x4 x5 x9 fO fU fW fG fL len size hw hP hD hS hl
    unfold wp_X_writeGroups_112 at hw
    refine lv_aload_n hx hb dc_X_writeGroups_112 rfl (lv_at hl 0 rfl) ?_
    refine va_get (D := (dC, dI)) (ci := 1) (v := .ref qN) (C := "FourWords") (T := tb_X) (N := 6) hx hb hts (hu _ um_X) hown hK hP 0 rfl rfl 4 (by decide) (hq mw_t44) (fun _ h9 => h9) rfl dc_X_writeGroups_113 ?_
    refine lv_iload hx hb dc_X_writeGroups_116 (lv_at hl 6 rfl) ?_
    refine gc_v (S := (Nat → Int32) × Int32) (w1 := (fun u => (wd_N qN qL cJ cI cZ cB u.1 u.2))) (wc := (wd_N qN qL cJ cI cZ cB fL len)) (wr := ([(h0, .inr (1, [.ref qO, .ref qU, .ref qW, .ref qG, .ref qN, .int size])), (qO, .inl (cJ, 64, .inr (.inl fO))), (qU, .inl (cJ, 64, .inr (.inl fU))), (qW, .inl (cI, 64, .inl fW)), (qG, .inl (cZ, 64, .inl fG))] : va_W)) (va_runVN (As := [.int x9]) (rest := []) ⟨hx, hb, hml, hown, hts⟩ (kt_N_write l dC dI cJ cI cZ cB qN qL _ x9 fL len _ hw) ⟨va_cnB 1 hts (gw_in mw_t398) rfl rfl rfl (en_X217 hE) (hq mw_t2) (by decide +kernel) ⟨Nat.le_of_ble_eq_true rfl, Nat.le_of_ble_eq_true rfl⟩, hq mw_t397, hq mw_s31⟩ (pv_W (va_recv (q0 := 5) (ci := 0) hK hP rfl rfl) (hP.sub (ws' := (wd_N qN qL cJ cI cZ cB fL len)) [5, 6] rfl) hK (hD.sub (ws' := (wd_N qN qL cJ cI cZ cB fL len)) [5, 6] (by decide) rfl) hE) rfl rfl hl.1 rfl (lv_room (Nat.le_of_ble_eq_true rfl)) dc_X_writeGroups_118 ⟨Nat.le_of_ble_eq_true rfl, Nat.le_of_ble_eq_true rfl⟩) hP hD hS hA [5, 6] [0, 1, 2, 3, 4] rfl rfl (by decide) (by decide) (fun u H locs hw hP hD hS => ?_)
    obtain ⟨fL118, len118⟩ := u
    have hP : va_P (dC, dI) cs_3 (wd_X h0 qO qU qW qG qN qL cJ cI cZ cB fO fU fW fG fL118 len118 size) H := hP.sub (ws' := (wd_X h0 qO qU qW qG qN qL cJ cI cZ cB fO fU fW fG fL118 len118 size)) [0, 1, 2, 3, 4, 5, 6] rfl
    have hD : va_D A (wd_X h0 qO qU qW qG qN qL cJ cI cZ cB fO fU fW fG fL118 len118 size) := hD.sub (ws' := (wd_X h0 qO qU qW qG qN qL cJ cI cZ cB fO fU fW fG fL118 len118 size)) [0, 1, 2, 3, 4, 5, 6] (by decide) rfl
    try dsimp only at hw
    exact B_121 K16 hK16 _ _ _ x1 x2 x3 x4 x5 fO fU fW fG fL118 len118 size hw hP hD hS (lv_sub hl [0, 1, 2, 3, 4, 5] rfl)
  have B_101 : ∀ (K16 : Int32 → Int32 → Int32 → Int32 → Int32 → (Nat → Int64) → (Nat → Int64) → (Nat → Int32) → (Nat → Int32) → (Nat → Int32) → Int32 → Int32 → Prop) (hK16 : ∀ (H : Heap) (locs : List Loc) (ls : Array Slot) (x1 : Int32) (x2 : Int32) (x3 : Int32) (x4 : Int32) (x5 : Int32) (fO : (Nat → Int64)) (fU : (Nat → Int64)) (fW : (Nat → Int32)) (fG : (Nat → Int32)) (fL : (Nat → Int32)) (len : Int32) (size : Int32), K16 x1 x2 x3 x4 x5 fO fU fW fG fL len size → va_P (dC, dI) cs_3 (wd_X h0 qO qU qW qG qN qL cJ cI cZ cB fO fU fW fG fL len size) H → va_D A (wd_X h0 qO qU qW qG qN qL cJ cI cZ cB fO fU fW fG fL len size) → va_S A s.heap H locs → lv_has ls 11 [(0, .ref h0), (1, .int x1), (2, .int x2), (3, .int x3), (4, .int x4), (5, .int x5)] → W p l e (headSpec ws_X_writeGroups rm_X_writeGroups).room s m ([.ref h0, .int a1, .int a2, .int a3] : List Value).toArray below meth c H locs 0 0 (MQ below (qv_X dC dI cJ cI cZ cB h0 qO qU qW qG qN qL post A) ([.ref h0, .int a1, .int a2, .int a3] : List Value).toArray s 0 0 A) (F0 m 16 ls [])) (H : Heap) (locs : List Loc) (ls : Array Slot) (x1 : Int32) (x2 : Int32) (x3 : Int32) (x4 : Int32) (x5 : Int32) (x9 : Int32) (t0 : Int32) (fO : (Nat → Int64)) (fU : (Nat → Int64)) (fW : (Nat → Int32)) (fG : (Nat → Int32)) (fL : (Nat → Int32)) (len : Int32) (size : Int32), wp_X_writeGroups_101 K16 post x1 x2 x3 x4 x5 x9 t0 fO fU fW fG fL len size → va_P (dC, dI) cs_3 (wd_X h0 qO qU qW qG qN qL cJ cI cZ cB fO fU fW fG fL len size) H → va_D A (wd_X h0 qO qU qW qG qN qL cJ cI cZ cB fO fU fW fG fL len size) → va_S A s.heap H locs → lv_has ls 11 [(0, .ref h0), (1, .int x1), (2, .int x2), (3, .int x3), (4, .int x4), (5, .int x5), (9, .int x9)] → W p l e (headSpec ws_X_writeGroups rm_X_writeGroups).room s m ([.ref h0, .int a1, .int a2, .int a3] : List Value).toArray below meth c H locs 0 0 (MQ below (qv_X dC dI cJ cI cZ cB h0 qO qU qW qG qN qL post A) ([.ref h0, .int a1, .int a2, .int a3] : List Value).toArray s 0 0 A) (F0 m 101 ls [.int t0]) := by
    intro K16 hK16 H locs ls x1 x2 x3 x4 x5 x9 t0 fO fU fW fG fL len size hw hP hD hS hl
    unfold wp_X_writeGroups_101 at hw
    refine lv_istore (lv' := [(10, .int t0), (0, .ref h0), (1, .int x1), (2, .int x2), (3, .int x3), (4, .int x4), (5, .int x5), (9, .int x9)]) hx hb dc_X_writeGroups_101 hl (Nat.le_of_ble_eq_true rfl) rfl (fun ls hl => ?_)
    refine lv_iload_n hx hb dc_X_writeGroups_103 rfl (lv_at hl 4 rfl) ?_
    obtain ⟨hw1, hw2⟩ := hw
    refine lv_if_eq (tgt := 112) hx hb dc_X_writeGroups_104 (by decide) (fun hc => ?_) (fun hc => ?_)
    · have hw := hw1 hc
      clear hw1 hw2
      exact B_112 K16 hK16 _ _ _ x1 x2 x3 x4 x5 x9 fO fU fW fG fL len size hw hP hD hS (lv_sub hl [1, 2, 3, 4, 5, 6, 7] rfl)
    · have hw := hw2 hc
      clear hw1 hw2
      refine lv_iload hx hb dc_X_writeGroups_107 (lv_at hl 0 rfl) ?_
      obtain ⟨hw1, hw2⟩ := hw
      refine lv_if_ne (tgt := 121) hx hb dc_X_writeGroups_109 (by decide) (fun hc => ?_) (fun hc => ?_)
      · have hw := hw1 hc
        clear hw1 hw2
        exact B_121 K16 hK16 _ _ _ x1 x2 x3 x4 x5 fO fU fW fG fL len size hw hP hD hS (lv_sub hl [1, 2, 3, 4, 5, 6] rfl)
      · have hw := hw2 (fun h9 => h9 hc)
        clear hw1 hw2
        exact B_112 K16 hK16 _ _ _ x1 x2 x3 x4 x5 x9 fO fU fW fG fL len size hw hP hD hS (lv_sub hl [1, 2, 3, 4, 5, 6, 7] rfl)
  have B_100 : ∀ (K16 : Int32 → Int32 → Int32 → Int32 → Int32 → (Nat → Int64) → (Nat → Int64) → (Nat → Int32) → (Nat → Int32) → (Nat → Int32) → Int32 → Int32 → Prop) (hK16 : ∀ (H : Heap) (locs : List Loc) (ls : Array Slot) (x1 : Int32) (x2 : Int32) (x3 : Int32) (x4 : Int32) (x5 : Int32) (fO : (Nat → Int64)) (fU : (Nat → Int64)) (fW : (Nat → Int32)) (fG : (Nat → Int32)) (fL : (Nat → Int32)) (len : Int32) (size : Int32), K16 x1 x2 x3 x4 x5 fO fU fW fG fL len size → va_P (dC, dI) cs_3 (wd_X h0 qO qU qW qG qN qL cJ cI cZ cB fO fU fW fG fL len size) H → va_D A (wd_X h0 qO qU qW qG qN qL cJ cI cZ cB fO fU fW fG fL len size) → va_S A s.heap H locs → lv_has ls 11 [(0, .ref h0), (1, .int x1), (2, .int x2), (3, .int x3), (4, .int x4), (5, .int x5)] → W p l e (headSpec ws_X_writeGroups rm_X_writeGroups).room s m ([.ref h0, .int a1, .int a2, .int a3] : List Value).toArray below meth c H locs 0 0 (MQ below (qv_X dC dI cJ cI cZ cB h0 qO qU qW qG qN qL post A) ([.ref h0, .int a1, .int a2, .int a3] : List Value).toArray s 0 0 A) (F0 m 16 ls [])) (H : Heap) (locs : List Loc) (ls : Array Slot) (x1 : Int32) (x2 : Int32) (x3 : Int32) (x4 : Int32) (x5 : Int32) (x9 : Int32) (fO : (Nat → Int64)) (fU : (Nat → Int64)) (fW : (Nat → Int32)) (fG : (Nat → Int32)) (fL : (Nat → Int32)) (len : Int32) (size : Int32), wp_X_writeGroups_100 K16 post x1 x2 x3 x4 x5 x9 fO fU fW fG fL len size → va_P (dC, dI) cs_3 (wd_X h0 qO qU qW qG qN qL cJ cI cZ cB fO fU fW fG fL len size) H → va_D A (wd_X h0 qO qU qW qG qN qL cJ cI cZ cB fO fU fW fG fL len size) → va_S A s.heap H locs → lv_has ls 11 [(0, .ref h0), (1, .int x1), (2, .int x2), (3, .int x3), (4, .int x4), (5, .int x5), (9, .int x9)] → W p l e (headSpec ws_X_writeGroups rm_X_writeGroups).room s m ([.ref h0, .int a1, .int a2, .int a3] : List Value).toArray below meth c H locs 0 0 (MQ below (qv_X dC dI cJ cI cZ cB h0 qO qU qW qG qN qL post A) ([.ref h0, .int a1, .int a2, .int a3] : List Value).toArray s 0 0 A) (F0 m 100 ls []) := by
    intro K16 hK16 H locs ls x1 x2 x3 x4 x5 x9 fO fU fW fG fL len size hw hP hD hS hl
    unfold wp_X_writeGroups_100 at hw
    refine lv_iconst (v := 0) hx hb dc_X_writeGroups_100 (by decide) ?_
    exact B_101 K16 hK16 _ _ _ x1 x2 x3 x4 x5 x9 (0 : Int32) fO fU fW fG fL len size hw hP hD hS (lv_sub hl [0, 1, 2, 3, 4, 5, 6] rfl)
  have B_16 : ∀ (n16 : Nat) (H : Heap) (locs : List Loc) (ls : Array Slot) (x1 : Int32) (x2 : Int32) (x3 : Int32) (x4 : Int32) (x5 : Int32) (fO : (Nat → Int64)) (fU : (Nat → Int64)) (fW : (Nat → Int32)) (fG : (Nat → Int32)) (fL : (Nat → Int32)) (len : Int32) (size : Int32), wp_X_writeGroups_16 post n16 x1 x2 x3 x4 x5 fO fU fW fG fL len size → va_P (dC, dI) cs_3 (wd_X h0 qO qU qW qG qN qL cJ cI cZ cB fO fU fW fG fL len size) H → va_D A (wd_X h0 qO qU qW qG qN qL cJ cI cZ cB fO fU fW fG fL len size) → va_S A s.heap H locs → lv_has ls 11 [(0, .ref h0), (1, .int x1), (2, .int x2), (3, .int x3), (4, .int x4), (5, .int x5)] → W p l e (headSpec ws_X_writeGroups rm_X_writeGroups).room s m ([.ref h0, .int a1, .int a2, .int a3] : List Value).toArray below meth c H locs 0 0 (MQ below (qv_X dC dI cJ cI cZ cB h0 qO qU qW qG qN qL post A) ([.ref h0, .int a1, .int a2, .int a3] : List Value).toArray s 0 0 A) (F0 m 16 ls []) := by
    intro n16
    induction n16 with
    | zero => intro H locs ls x1 x2 x3 x4 x5 fO fU fW fG fL len size hw; exact False.elim hw
    | succ n16 ih =>
      intro H locs ls x1 x2 x3 x4 x5 fO fU fW fG fL len size hw hP hD hS hl
      unfold wp_X_writeGroups_16 at hw
      refine lv_iload hx hb dc_X_writeGroups_16 (lv_at hl 5 rfl) ?_
      obtain ⟨hw1, hw2⟩ := hw
      refine lv_if_lt (tgt := 127) hx hb dc_X_writeGroups_18 (by decide) (fun hc => ?_) (fun hc => ?_)
      · have hw := hw1 hc
        clear hw1 hw2
        exact W.vret hx hb hr (fun t ht hW => ⟨⟨(fO, fU, fW, fG, fL, len, size), rfl, hw, by rw [ht]; exact hP, va_K.moved hW.alike hK, hD⟩, hS.F ht⟩) hS.2.2 dc_X_writeGroups_127
      · have hw := hw2 hc
        clear hw1 hw2
        refine lv_iload hx hb dc_X_writeGroups_21 (lv_at hl 5 rfl) ?_
        refine lv_iload_n hx hb dc_X_writeGroups_23 rfl (lv_at hl 2 rfl) ?_
        refine lv_ishl hx hb dc_X_writeGroups_24 ?_
        refine lv_topi (fun v25 e25 => ?_)
        have hw := hw v25 e25
        refine lv_istore (lv' := [(6, .int v25), (0, .ref h0), (1, .int x1), (2, .int x2), (3, .int x3), (4, .int x4), (5, .int x5)]) hx hb dc_X_writeGroups_25 hl (Nat.le_of_ble_eq_true rfl) rfl (fun ls hl => ?_)
        refine lv_iconst (v := 1) hx hb dc_X_writeGroups_27 (by decide) ?_
        refine lv_iload_n hx hb dc_X_writeGroups_28 rfl (lv_at hl 3 rfl) ?_
        refine lv_ishl hx hb dc_X_writeGroups_29 ?_
        refine lv_iload hx hb dc_X_writeGroups_30 (lv_at hl 5 rfl) ?_
        refine lv_iload hx hb dc_X_writeGroups_32 (lv_at hl 0 rfl) ?_
        refine lv_isub hx hb dc_X_writeGroups_34 ?_
        refine va_mmin hx hb (hml.trans hl.1.symm) hown (hq mw_t414) (hq mw_t415) (hq mw_t10) (hq mw_t416) (Nat.le_of_ble_eq_true rfl) (Nat.le_of_ble_eq_true rfl) (Nat.zero_le _) (Nat.zero_le _) dc_X_writeGroups_35 ?_
        refine gc_l (S := Unit) (w1 := (fun u => ([] : va_W))) (wc := ([] : va_W)) (wr := ([(h0, .inr (1, [.ref qO, .ref qU, .ref qW, .ref qG, .ref qN, .int size])), (qO, .inl (cJ, 64, .inr (.inl fO))), (qU, .inl (cJ, 64, .inr (.inl fU))), (qW, .inl (cI, 64, .inl fW)), (qG, .inl (cZ, 64, .inl fG)), (qN, .inr (0, [.ref qL, .int len])), (qL, .inl (cB, 64, .inl fL))] : va_W)) (va_runSN (As := [.int (if (x4 - v25) < ((1 : Int32) <<< (x2 &&& 31)) then (x4 - v25) else ((1 : Int32) <<< (x2 &&& 31)))]) (rest := []) ⟨hx, hb, hml, hown, hts⟩ (kt_B_lowest l dC dI cJ cI cZ cB _ (if (x4 - v25) < ((1 : Int32) <<< (x2 &&& 31)) then (x4 - v25) else ((1 : Int32) <<< (x2 &&& 31))) _ hw) ⟨va_cnB 1 hts (gw_in mw_t172) rfl rfl rfl (en_X157 hE) (hq mw_t9) (by decide +kernel) ⟨Nat.le_of_ble_eq_true rfl, Nat.le_of_ble_eq_true rfl⟩, hq mw_t171, trivial⟩ (ps_W (hP.sub (ws' := ([] : va_W)) [] rfl) hK (hD.sub (ws' := ([] : va_W)) [] (by decide) rfl) hE) rfl rfl hl.1 rfl (lv_room (Nat.le_of_ble_eq_true rfl)) dc_X_writeGroups_38 ⟨Nat.le_of_ble_eq_true rfl, Nat.le_of_ble_eq_true rfl⟩) hP hD hS hA [] [0, 1, 2, 3, 4, 5, 6] rfl rfl (by decide) (by decide) (fun r38 u H locs hw hP hD hS => ?_)
        have hP : va_P (dC, dI) cs_3 (wd_X h0 qO qU qW qG qN qL cJ cI cZ cB fO fU fW fG fL len size) H := hP.sub (ws' := (wd_X h0 qO qU qW qG qN qL cJ cI cZ cB fO fU fW fG fL len size)) [0, 1, 2, 3, 4, 5, 6] rfl
        have hD : va_D A (wd_X h0 qO qU qW qG qN qL cJ cI cZ cB fO fU fW fG fL len size) := hD.sub (ws' := (wd_X h0 qO qU qW qG qN qL cJ cI cZ cB fO fU fW fG fL len size)) [0, 1, 2, 3, 4, 5, 6] (by decide) rfl
        try dsimp only at hw
        refine lv_lstore (lv' := [(7, .long r38), (6, .int v25), (0, .ref h0), (1, .int x1), (2, .int x2), (3, .int x3), (4, .int x4), (5, .int x5)]) hx hb dc_X_writeGroups_41 hl (Nat.le_of_ble_eq_true rfl) rfl (fun ls hl => ?_)
        refine lv_aload_n hx hb dc_X_writeGroups_43 rfl (lv_at hl 2 rfl) ?_
        refine va_get (D := (dC, dI)) (ci := 1) (v := .ref qO) (C := "FourWords") (T := tb_X) (N := 6) hx hb hts (hu _ um_X) hown hK hP 0 rfl rfl 0 (by decide) (hq mw_t40) (fun _ h9 => h9) rfl dc_X_writeGroups_44 ?_
        refine lv_iload_n hx hb dc_X_writeGroups_47 rfl (lv_at hl 3 rfl) ?_
        obtain ⟨hin, hw⟩ := hw
        refine va_lald hx hb hK hP 1 0 rfl rfl hin dc_X_writeGroups_48 ?_
        refine lv_iload hx hb dc_X_writeGroups_49 (lv_at hl 1 rfl) ?_
        refine lv_lushr hx hb dc_X_writeGroups_51 rfl ?_
        refine lv_lload hx hb dc_X_writeGroups_52 (lv_at hl 0 rfl) ?_
        refine lv_land hx hb dc_X_writeGroups_54 ?_
        refine lv_aload_n hx hb dc_X_writeGroups_55 rfl (lv_at hl 2 rfl) ?_
        refine va_get (D := (dC, dI)) (ci := 1) (v := .ref qU) (C := "FourWords") (T := tb_X) (N := 6) hx hb hts (hu _ um_X) hown hK hP 0 rfl rfl 1 (by decide) (hq mw_t41) (fun _ h9 => h9) rfl dc_X_writeGroups_56 ?_
        refine lv_iload_n hx hb dc_X_writeGroups_59 rfl (lv_at hl 3 rfl) ?_
        obtain ⟨hin, hw⟩ := hw
        refine va_lald hx hb hK hP 2 0 rfl rfl hin dc_X_writeGroups_60 ?_
        refine lv_iload hx hb dc_X_writeGroups_61 (lv_at hl 1 rfl) ?_
        refine lv_lushr hx hb dc_X_writeGroups_63 rfl ?_
        refine lv_lload hx hb dc_X_writeGroups_64 (lv_at hl 0 rfl) ?_
        refine lv_land hx hb dc_X_writeGroups_66 ?_
        refine lv_lload hx hb dc_X_writeGroups_67 (lv_at hl 0 rfl) ?_
        refine gc_i (S := Unit) (w1 := (fun u => ([] : va_W))) (wc := ([] : va_W)) (wr := ([(h0, .inr (1, [.ref qO, .ref qU, .ref qW, .ref qG, .ref qN, .int size])), (qO, .inl (cJ, 64, .inr (.inl fO))), (qU, .inl (cJ, 64, .inr (.inl fU))), (qW, .inl (cI, 64, .inl fW)), (qG, .inl (cZ, 64, .inl fG)), (qN, .inr (0, [.ref qL, .int len])), (qL, .inl (cB, 64, .inl fL))] : va_W)) (va_runS (As := [.long ((((fO x1.toNatClampNeg).toUInt64 >>> (v25.toInt64.toUInt64 &&& Int64.toUInt64 63)).toInt64) &&& r38), .long ((((fU x1.toNatClampNeg).toUInt64 >>> (v25.toInt64.toUInt64 &&& Int64.toUInt64 63)).toInt64) &&& r38), .long r38]) (rest := []) ⟨hx, hb, hml, hown, hts⟩ (kt_X_groupLetter l dC dI cJ cI cZ cB _ ((((fO x1.toNatClampNeg).toUInt64 >>> (v25.toInt64.toUInt64 &&& Int64.toUInt64 63)).toInt64) &&& r38) ((((fU x1.toNatClampNeg).toUInt64 >>> (v25.toInt64.toUInt64 &&& Int64.toUInt64 63)).toInt64) &&& r38) r38 _ hw) ⟨callB_of 3 hts (gw_in mw_t419) rfl rfl rfl (hq mw_t1) (hq mw_t417) (by decide +kernel) ⟨Nat.le_of_ble_eq_true rfl, Nat.le_of_ble_eq_true rfl⟩, hq mw_t418⟩ (ps_W (hP.sub (ws' := ([] : va_W)) [] rfl) hK (hD.sub (ws' := ([] : va_W)) [] (by decide) rfl) hE) rfl rfl hl.1 rfl (lv_room (Nat.le_of_ble_eq_true rfl)) dc_X_writeGroups_69 ⟨Nat.le_of_ble_eq_true rfl, Nat.le_of_ble_eq_true rfl⟩) hP hD hS hA [] [0, 1, 2, 3, 4, 5, 6] rfl rfl (by decide) (by decide) (fun r69 u H locs hw hP hD hS => ?_)
        have hP : va_P (dC, dI) cs_3 (wd_X h0 qO qU qW qG qN qL cJ cI cZ cB fO fU fW fG fL len size) H := hP.sub (ws' := (wd_X h0 qO qU qW qG qN qL cJ cI cZ cB fO fU fW fG fL len size)) [0, 1, 2, 3, 4, 5, 6] rfl
        have hD : va_D A (wd_X h0 qO qU qW qG qN qL cJ cI cZ cB fO fU fW fG fL len size) := hD.sub (ws' := (wd_X h0 qO qU qW qG qN qL cJ cI cZ cB fO fU fW fG fL len size)) [0, 1, 2, 3, 4, 5, 6] (by decide) rfl
        try dsimp only at hw
        refine lv_istore (lv' := [(9, .int r69), (7, .long r38), (6, .int v25), (0, .ref h0), (1, .int x1), (2, .int x2), (3, .int x3), (4, .int x4), (5, .int x5)]) hx hb dc_X_writeGroups_72 hl (Nat.le_of_ble_eq_true rfl) rfl (fun ls hl => ?_)
        refine lv_iload hx hb dc_X_writeGroups_74 (lv_at hl 0 rfl) ?_
        refine lv_bipush (v := 48) hx hb dc_X_writeGroups_76 (by decide) ?_
        obtain ⟨hw1, hw2⟩ := hw
        refine lv_icmp_ne (tgt := 100) hx hb dc_X_writeGroups_78 (by decide) (fun hc => ?_) (fun hc => ?_)
        · have hw := hw1 hc
          clear hw1 hw2
          exact B_100 (wp_X_writeGroups_16 post n16) ih _ _ _ x1 x2 x3 x4 x5 r69 fO fU fW fG fL len size hw hP hD hS (lv_sub hl [3, 4, 5, 6, 7, 8, 0] rfl)
        · have hw := hw2 (fun h9 => h9 hc)
          clear hw1 hw2
          refine lv_aload_n hx hb dc_X_writeGroups_81 rfl (lv_at hl 3 rfl) ?_
          refine va_get (D := (dC, dI)) (ci := 1) (v := .ref qN) (C := "FourWords") (T := tb_X) (N := 6) hx hb hts (hu _ um_X) hown hK hP 0 rfl rfl 4 (by decide) (hq mw_t44) (fun _ h9 => h9) rfl dc_X_writeGroups_82 ?_
          refine va_getN (D := (dC, dI)) (ci := 0) (v := .int len) (C := "FourWords$Line") (T := tb_N) (N := 2) hx hb hts (hu _ um_N) hown hK hP 5 rfl rfl 1 (by decide) (va_Nw.use rfl (en_X126 hE)) (fun _ h9 => h9) rfl dc_X_writeGroups_85 ?_
          obtain ⟨hw1, hw2⟩ := hw
          refine lv_if_ne (tgt := 100) hx hb dc_X_writeGroups_88 (by decide) (fun hc => ?_) (fun hc => ?_)
          · have hw := hw1 hc
            clear hw1 hw2
            exact B_100 (wp_X_writeGroups_16 post n16) ih _ _ _ x1 x2 x3 x4 x5 r69 fO fU fW fG fL len size hw hP hD hS (lv_sub hl [3, 4, 5, 6, 7, 8, 0] rfl)
          · have hw := hw2 (fun h9 => h9 hc)
            clear hw1 hw2
            refine lv_iload hx hb dc_X_writeGroups_91 (lv_at hl 8 rfl) ?_
            obtain ⟨hw1, hw2⟩ := hw
            refine lv_if_le (tgt := 100) hx hb dc_X_writeGroups_93 (by decide) (fun hc => ?_) (fun hc => ?_)
            · have hw := hw1 hc
              clear hw1 hw2
              exact B_100 (wp_X_writeGroups_16 post n16) ih _ _ _ x1 x2 x3 x4 x5 r69 fO fU fW fG fL len size hw hP hD hS (lv_sub hl [3, 4, 5, 6, 7, 8, 0] rfl)
            · have hw := hw2 hc
              clear hw1 hw2
              refine lv_iconst (v := 1) hx hb dc_X_writeGroups_96 (by decide) ?_
              refine lv_goto (tgt := 101) hx hb dc_X_writeGroups_97 (by decide) ?_
              exact B_101 (wp_X_writeGroups_16 post n16) ih _ _ _ x1 x2 x3 x4 x5 r69 (1 : Int32) fO fU fW fG fL len size hw hP hD hS (lv_sub hl [3, 4, 5, 6, 7, 8, 0] rfl)
  unfold wp_X_writeGroups at hw
  refine lv_aload_n hx hb dc_X_writeGroups_0 rfl (lv_at hl 0 rfl) ?_
  refine va_get (D := (dC, dI)) (ci := 1) (v := .ref qW) (C := "FourWords") (T := tb_X) (N := 6) hx hb hts (hu _ um_X) hown hK hP 0 rfl rfl 2 (by decide) (hq mw_t42) (fun _ h9 => h9) rfl dc_X_writeGroups_1 ?_
  refine lv_iload_n hx hb dc_X_writeGroups_4 rfl (lv_at hl 1 rfl) ?_
  obtain ⟨hin, hw⟩ := hw
  refine va_iald hx hb hK hP 3 1 rfl rfl hin dc_X_writeGroups_5 ?_
  refine lv_topi (fun v6 e6 => ?_)
  have hw := hw v6 e6
  refine lv_istore (lv' := [(4, .int v6), (0, .ref h0), (1, .int a1), (2, .int a2), (3, .int a3)]) hx hb dc_X_writeGroups_6 hl (Nat.le_of_ble_eq_true rfl) rfl (fun ls hl => ?_)
  refine lv_iload hx hb dc_X_writeGroups_8 (lv_at hl 0 rfl) ?_
  refine lv_iconst (v := 1) hx hb dc_X_writeGroups_10 (by decide) ?_
  refine lv_isub hx hb dc_X_writeGroups_11 ?_
  refine lv_iload_n hx hb dc_X_writeGroups_12 rfl (lv_at hl 3 rfl) ?_
  refine lv_ishr hx hb dc_X_writeGroups_13 ?_
  refine lv_topi (fun v14 e14 => ?_)
  have hw := hw v14 e14
  refine lv_istore (lv' := [(5, .int v14), (4, .int v6), (0, .ref h0), (1, .int a1), (2, .int a2), (3, .int a3)]) hx hb dc_X_writeGroups_14 hl (Nat.le_of_ble_eq_true rfl) rfl (fun ls hl => ?_)
  obtain ⟨n16, hw⟩ := hw
  exact B_16 n16 _ _ _ a1 a2 a3 v6 v14 fO fU fW fG fL len size hw hP hD hS (lv_sub hl [2, 3, 4, 5, 1, 0] rfl)
set_option maxHeartbeats 4000000 in
set_option maxRecDepth 100000 in
theorem kt_X_writeNumber (l : Launch) (dC : Nat → ClassId) (dI : Nat → Nat → Nat) (cJ cI cZ cB : ClassId) (h0 qO qU qW qG qN qL : Nat) (sz : Nat) (a1 : Int32) (a2 : Int32) (fO : (Nat → Int64)) (fU : (Nat → Int64)) (fW : (Nat → Int32)) (fG : (Nat → Int32)) (fL : (Nat → Int32)) (len : Int32) (size : Int32) (post : (Nat → Int64) → (Nat → Int64) → (Nat → Int32) → (Nat → Int32) → (Nat → Int32) → Int32 → Int32 → Prop) (hw : wp_X_writeNumber post a1 a2 fO fU fW fG fL len size) : Met l yn_X_writeNumber ws_X_writeNumber rm_X_writeNumber (va_Pc [.ref h0, .int a1, .int a2] (pc_W (dC, dI) (ty_4 cJ cI cZ cB) (wd_X h0 qO qU qW qG qN qL cJ cI cZ cB fO fU fW fG fL len size) sz)) (qv_X dC dI cJ cI cZ cB h0 qO qU qW qG qN qL post (va_A (wd_X h0 qO qU qW qG qN qL cJ cI cZ cB fO fU fW fG fL len size) sz)) 0 0 (va_A (wd_X h0 qO qU qW qG qN qL cJ cI cZ cB fO fU fW fG fL len size) sz) := by
  refine Met.ofW (cc := cd_X_writeNumber) (maxL := 13) (ret := none) (by decide) rfl ?_
  intro p e s m args below meth c s₁ B hml hv
  obtain ⟨rfl, hsz, hP, hK, hD0, hE⟩ := hv
  have hx := B.exec
  have hb := B.bytes
  have hr := B.returns
  have hts := atoms_spec (ws := ws_X_writeNumber) B.pre
  have hq : ∀ {w : Cond}, w ∈ wg_all → w.before ([.ref h0, .int a1, .int a2] : List Value).toArray s = true := fun h => hts _ (List.mem_cons_of_mem _ h)
  have hu : ∀ L : List Cond, (∀ w ∈ L, w ∈ wg_all) → ∀ w ∈ L, w ∈ ws_X_writeNumber := fun L h w hw => List.mem_cons_of_mem _ (h w hw)
  have hown : s.vm.findClass "FourWords" = some m.cls := findClass_of_methodNamed B.named
  have hlocks := B.notSynchronized
  subst hsz
  have hD := hD0.self (sz := s.heap.size)
  generalize hAe : va_A (wd_X h0 qO qU qW qG qN qL cJ cI cZ cB fO fU fW fG fL len size) s.heap.size = A at hD ⊢
  have hA : ∀ q : Nat, s.heap.size ≤ q → A q := fun q h => by rw [← hAe]; exact Or.inr h
  have hS : va_S A s.heap s.heap [] := va_S.rf
  have hl := lv_entry [.ref h0, .int a1, .int a2] (n := 13) (Nat.le_of_ble_eq_true rfl)
  rw [lg_entry_eq]
  generalize (lg_sl [.ref h0, .int a1, .int a2] ++ List.replicate (13 - (lg_sl [.ref h0, .int a1, .int a2]).length) Slot.unset).toArray = ls at hl ⊢
  have hl : lv_has ls 13 [(0, .ref h0), (1, .int a1), (2, .int a2)] := hl
  have B_178 : ∀ (H : Heap) (locs : List Loc) (ls : Array Slot) (x10 : Int64) (x12 : Int32) (fO : (Nat → Int64)) (fU : (Nat → Int64)) (fW : (Nat → Int32)) (fG : (Nat → Int32)) (fL : (Nat → Int32)) (len : Int32) (size : Int32), wp_X_writeNumber_178 post x10 x12 fO fU fW fG fL len size → va_P (dC, dI) cs_3 (wd_X h0 qO qU qW qG qN qL cJ cI cZ cB fO fU fW fG fL len size) H → va_D A (wd_X h0 qO qU qW qG qN qL cJ cI cZ cB fO fU fW fG fL len size) → va_S A s.heap H locs → lv_has ls 13 [(0, .ref h0), (10, .long x10), (12, .int x12)] → W p l e (headSpec ws_X_writeNumber rm_X_writeNumber).room s m ([.ref h0, .int a1, .int a2] : List Value).toArray below meth c H locs 0 0 (MQ below (qv_X dC dI cJ cI cZ cB h0 qO qU qW qG qN qL post A) ([.ref h0, .int a1, .int a2] : List Value).toArray s 0 0 A) (F0 m 178 ls []) := by
    intro H locs ls x10 x12 fO fU fW fG fL len size hw hP hD hS hl
    unfold wp_X_writeNumber_178 at hw
    refine lv_aload_n hx hb dc_X_writeNumber_178 rfl (lv_at hl 0 rfl) ?_
    refine va_get (D := (dC, dI)) (ci := 1) (v := .ref qN) (C := "FourWords") (T := tb_X) (N := 6) hx hb hts (hu _ um_X) hown hK hP 0 rfl rfl 4 (by decide) (hq mw_t44) (fun _ h9 => h9) rfl dc_X_writeNumber_179 ?_
    refine lv_lload hx hb dc_X_writeNumber_182 (lv_at hl 1 rfl) ?_
    refine lv_iload hx hb dc_X_writeNumber_184 (lv_at hl 2 rfl) ?_
    refine gc_v (S := (Nat → Int32) × Int32) (w1 := (fun u => (wd_N qN qL cJ cI cZ cB u.1 u.2))) (wc := (wd_N qN qL cJ cI cZ cB fL len)) (wr := ([(h0, .inr (1, [.ref qO, .ref qU, .ref qW, .ref qG, .ref qN, .int size])), (qO, .inl (cJ, 64, .inr (.inl fO))), (qU, .inl (cJ, 64, .inr (.inl fU))), (qW, .inl (cI, 64, .inl fW)), (qG, .inl (cZ, 64, .inl fG))] : va_W)) (va_runVN (As := [.long x10, .int x12]) (rest := []) ⟨hx, hb, hml, hown, hts⟩ (kt_N_writeDigits l dC dI cJ cI cZ cB qN qL _ x10 x12 fL len _ hw) ⟨va_cnB 2 hts (gw_in mw_t406) rfl rfl rfl (en_X236 hE) (hq mw_t2) (by decide +kernel) ⟨Nat.le_of_ble_eq_true rfl, Nat.le_of_ble_eq_true rfl⟩, hq mw_t405, hq mw_s32⟩ (pv_W (va_recv (q0 := 5) (ci := 0) hK hP rfl rfl) (hP.sub (ws' := (wd_N qN qL cJ cI cZ cB fL len)) [5, 6] rfl) hK (hD.sub (ws' := (wd_N qN qL cJ cI cZ cB fL len)) [5, 6] (by decide) rfl) hE) rfl rfl hl.1 rfl (lv_room (Nat.le_of_ble_eq_true rfl)) dc_X_writeNumber_186 ⟨Nat.le_of_ble_eq_true rfl, Nat.le_of_ble_eq_true rfl⟩) hP hD hS hA [5, 6] [0, 1, 2, 3, 4] rfl rfl (by decide) (by decide) (fun u H locs hw hP hD hS => ?_)
    obtain ⟨fL186, len186⟩ := u
    have hP : va_P (dC, dI) cs_3 (wd_X h0 qO qU qW qG qN qL cJ cI cZ cB fO fU fW fG fL186 len186 size) H := hP.sub (ws' := (wd_X h0 qO qU qW qG qN qL cJ cI cZ cB fO fU fW fG fL186 len186 size)) [0, 1, 2, 3, 4, 5, 6] rfl
    have hD : va_D A (wd_X h0 qO qU qW qG qN qL cJ cI cZ cB fO fU fW fG fL186 len186 size) := hD.sub (ws' := (wd_X h0 qO qU qW qG qN qL cJ cI cZ cB fO fU fW fG fL186 len186 size)) [0, 1, 2, 3, 4, 5, 6] (by decide) rfl
    try dsimp only at hw
    exact W.vret hx hb hr (fun t ht hW => ⟨⟨(fO, fU, fW, fG, fL186, len186, size), rfl, hw, by rw [ht]; exact hP, va_K.moved hW.alike hK, hD⟩, hS.F ht⟩) hS.2.2 dc_X_writeNumber_189
  have B_160 : ∀ (H : Heap) (locs : List Loc) (ls : Array Slot) (x9 : Int32) (x10 : Int64) (x12 : Int32) (t0 : Int32) (t1 : Int32) (fO : (Nat → Int64)) (fU : (Nat → Int64)) (fW : (Nat → Int32)) (fG : (Nat → Int32)) (fL : (Nat → Int32)) (len : Int32) (size : Int32), wp_X_writeNumber_160 post x9 x10 x12 t0 t1 fO fU fW fG fL len size → va_P (dC, dI) cs_3 (wd_X h0 qO qU qW qG qN qL cJ cI cZ cB fO fU fW fG fL len size) H → va_D A (wd_X h0 qO qU qW qG qN qL cJ cI cZ cB fO fU fW fG fL len size) → va_S A s.heap H locs → lv_has ls 13 [(0, .ref h0), (9, .int x9), (10, .long x10), (12, .int x12)] → W p l e (headSpec ws_X_writeNumber rm_X_writeNumber).room s m ([.ref h0, .int a1, .int a2] : List Value).toArray below meth c H locs 0 0 (MQ below (qv_X dC dI cJ cI cZ cB h0 qO qU qW qG qN qL post A) ([.ref h0, .int a1, .int a2] : List Value).toArray s 0 0 A) (F0 m 160 ls [.int t0, .int t1, .ref qN]) := by
    intro H locs ls x9 x10 x12 t0 t1 fO fU fW fG fL len size hw hP hD hS hl
    unfold wp_X_writeNumber_160 at hw
    refine lv_isub hx hb dc_X_writeNumber_160 ?_
    refine gc_v (S := (Nat → Int32) × Int32) (w1 := (fun u => (wd_N qN qL cJ cI cZ cB u.1 u.2))) (wc := (wd_N qN qL cJ cI cZ cB fL len)) (wr := ([(h0, .inr (1, [.ref qO, .ref qU, .ref qW, .ref qG, .ref qN, .int size])), (qO, .inl (cJ, 64, .inr (.inl fO))), (qU, .inl (cJ, 64, .inr (.inl fU))), (qW, .inl (cI, 64, .inl fW)), (qG, .inl (cZ, 64, .inl fG))] : va_W)) (va_runVN (As := [.int (t1 - t0)]) (rest := []) ⟨hx, hb, hml, hown, hts⟩ (kt_N_writeSpaces l dC dI cJ cI cZ cB qN qL _ (t1 - t0) fL len _ hw) ⟨va_cnB 1 hts (gw_in mw_t394) rfl rfl rfl (en_X233 hE) (hq mw_t2) (by decide +kernel) ⟨Nat.le_of_ble_eq_true rfl, Nat.le_of_ble_eq_true rfl⟩, hq mw_t393, hq mw_s30⟩ (pv_W (va_recv (q0 := 5) (ci := 0) hK hP rfl rfl) (hP.sub (ws' := (wd_N qN qL cJ cI cZ cB fL len)) [5, 6] rfl) hK (hD.sub (ws' := (wd_N qN qL cJ cI cZ cB fL len)) [5, 6] (by decide) rfl) hE) rfl rfl hl.1 rfl (lv_room (Nat.le_of_ble_eq_true rfl)) dc_X_writeNumber_161 ⟨Nat.le_of_ble_eq_true rfl, Nat.le_of_ble_eq_true rfl⟩) hP hD hS hA [5, 6] [0, 1, 2, 3, 4] rfl rfl (by decide) (by decide) (fun u H locs hw hP hD hS => ?_)
    obtain ⟨fL161, len161⟩ := u
    have hP : va_P (dC, dI) cs_3 (wd_X h0 qO qU qW qG qN qL cJ cI cZ cB fO fU fW fG fL161 len161 size) H := hP.sub (ws' := (wd_X h0 qO qU qW qG qN qL cJ cI cZ cB fO fU fW fG fL161 len161 size)) [0, 1, 2, 3, 4, 5, 6] rfl
    have hD : va_D A (wd_X h0 qO qU qW qG qN qL cJ cI cZ cB fO fU fW fG fL161 len161 size) := hD.sub (ws' := (wd_X h0 qO qU qW qG qN qL cJ cI cZ cB fO fU fW fG fL161 len161 size)) [0, 1, 2, 3, 4, 5, 6] (by decide) rfl
    try dsimp only at hw
    refine lv_iload hx hb dc_X_writeNumber_164 (lv_at hl 1 rfl) ?_
    obtain ⟨hw1, hw2⟩ := hw
    refine lv_if_eq (tgt := 178) hx hb dc_X_writeNumber_166 (by decide) (fun hc => ?_) (fun hc => ?_)
    · have hw := hw1 hc
      clear hw1 hw2
      exact B_178 _ _ _ x10 x12 fO fU fW fG fL161 len161 size hw hP hD hS (lv_sub hl [0, 2, 3] rfl)
    · have hw := hw2 hc
      clear hw1 hw2
      refine lv_aload_n hx hb dc_X_writeNumber_169 rfl (lv_at hl 0 rfl) ?_
      refine va_get (D := (dC, dI)) (ci := 1) (v := .ref qN) (C := "FourWords") (T := tb_X) (N := 6) hx hb hts (hu _ um_X) hown hK hP 0 rfl rfl 4 (by decide) (hq mw_t44) (fun _ h9 => h9) rfl dc_X_writeNumber_170 ?_
      refine lv_bipush (v := 45) hx hb dc_X_writeNumber_173 (by decide) ?_
      refine gc_v (S := (Nat → Int32) × Int32) (w1 := (fun u => (wd_N qN qL cJ cI cZ cB u.1 u.2))) (wc := (wd_N qN qL cJ cI cZ cB fL161 len161)) (wr := ([(h0, .inr (1, [.ref qO, .ref qU, .ref qW, .ref qG, .ref qN, .int size])), (qO, .inl (cJ, 64, .inr (.inl fO))), (qU, .inl (cJ, 64, .inr (.inl fU))), (qW, .inl (cI, 64, .inl fW)), (qG, .inl (cZ, 64, .inl fG))] : va_W)) (va_runVN (As := [.int (45 : Int32)]) (rest := []) ⟨hx, hb, hml, hown, hts⟩ (kt_N_write l dC dI cJ cI cZ cB qN qL _ (45 : Int32) fL161 len161 _ hw) ⟨va_cnB 1 hts (gw_in mw_t398) rfl rfl rfl (en_X217 hE) (hq mw_t2) (by decide +kernel) ⟨Nat.le_of_ble_eq_true rfl, Nat.le_of_ble_eq_true rfl⟩, hq mw_t397, hq mw_s31⟩ (pv_W (va_recv (q0 := 5) (ci := 0) hK hP rfl rfl) (hP.sub (ws' := (wd_N qN qL cJ cI cZ cB fL161 len161)) [5, 6] rfl) hK (hD.sub (ws' := (wd_N qN qL cJ cI cZ cB fL161 len161)) [5, 6] (by decide) rfl) hE) rfl rfl hl.1 rfl (lv_room (Nat.le_of_ble_eq_true rfl)) dc_X_writeNumber_175 ⟨Nat.le_of_ble_eq_true rfl, Nat.le_of_ble_eq_true rfl⟩) hP hD hS hA [5, 6] [0, 1, 2, 3, 4] rfl rfl (by decide) (by decide) (fun u H locs hw hP hD hS => ?_)
      obtain ⟨fL175, len175⟩ := u
      have hP : va_P (dC, dI) cs_3 (wd_X h0 qO qU qW qG qN qL cJ cI cZ cB fO fU fW fG fL175 len175 size) H := hP.sub (ws' := (wd_X h0 qO qU qW qG qN qL cJ cI cZ cB fO fU fW fG fL175 len175 size)) [0, 1, 2, 3, 4, 5, 6] rfl
      have hD : va_D A (wd_X h0 qO qU qW qG qN qL cJ cI cZ cB fO fU fW fG fL175 len175 size) := hD.sub (ws' := (wd_X h0 qO qU qW qG qN qL cJ cI cZ cB fO fU fW fG fL175 len175 size)) [0, 1, 2, 3, 4, 5, 6] (by decide) rfl
      try dsimp only at hw
      exact B_178 _ _ _ x10 x12 fO fU fW fG fL175 len175 size hw hP hD hS (lv_sub hl [0, 2, 3] rfl)
  have B_132 : ∀ (H : Heap) (locs : List Loc) (ls : Array Slot) (x6 : Int32) (x9 : Int32) (t0 : Int64) (fO : (Nat → Int64)) (fU : (Nat → Int64)) (fW : (Nat → Int32)) (fG : (Nat → Int32)) (fL : (Nat → Int32)) (len : Int32) (size : Int32), wp_X_writeNumber_132 post x6 x9 t0 fO fU fW fG fL len size → va_P (dC, dI) cs_3 (wd_X h0 qO qU qW qG qN qL cJ cI cZ cB fO fU fW fG fL len size) H → va_D A (wd_X h0 qO qU qW qG qN qL cJ cI cZ cB fO fU fW fG fL len size) → va_S A s.heap H locs → lv_has ls 13 [(0, .ref h0), (6, .int x6), (9, .int x9)] → W p l e (headSpec ws_X_writeNumber rm_X_writeNumber).room s m ([.ref h0, .int a1, .int a2] : List Value).toArray below meth c H locs 0 0 (MQ below (qv_X dC dI cJ cI cZ cB h0 qO qU qW qG qN qL post A) ([.ref h0, .int a1, .int a2] : List Value).toArray s 0 0 A) (F0 m 132 ls [.long t0]) := by
    intro H locs ls x6 x9 t0 fO fU fW fG fL len size hw hP hD hS hl
    unfold wp_X_writeNumber_132 at hw
    refine lv_lstore (lv' := [(10, .long t0), (0, .ref h0), (6, .int x6), (9, .int x9)]) hx hb dc_X_writeNumber_132 hl (Nat.le_of_ble_eq_true rfl) rfl (fun ls hl => ?_)
    refine lv_lload hx hb dc_X_writeNumber_134 (lv_at hl 0 rfl) ?_
    refine gc_i (S := Unit) (w1 := (fun u => ([] : va_W))) (wc := ([] : va_W)) (wr := ([(h0, .inr (1, [.ref qO, .ref qU, .ref qW, .ref qG, .ref qN, .int size])), (qO, .inl (cJ, 64, .inr (.inl fO))), (qU, .inl (cJ, 64, .inr (.inl fU))), (qW, .inl (cI, 64, .inl fW)), (qG, .inl (cZ, 64, .inl fG)), (qN, .inr (0, [.ref qL, .int len])), (qL, .inl (cB, 64, .inl fL))] : va_W)) (va_runSN (As := [.long t0]) (rest := []) ⟨hx, hb, hml, hown, hts⟩ (kt_B_digits l dC dI cJ cI cZ cB _ t0 _ hw) ⟨va_cnB 1 hts (gw_in mw_t388) rfl rfl rfl (en_X230 hE) (hq mw_t9) (by decide +kernel) ⟨Nat.le_of_ble_eq_true rfl, Nat.le_of_ble_eq_true rfl⟩, hq mw_t387, trivial⟩ (ps_W (hP.sub (ws' := ([] : va_W)) [] rfl) hK (hD.sub (ws' := ([] : va_W)) [] (by decide) rfl) hE) rfl rfl hl.1 rfl (lv_room (Nat.le_of_ble_eq_true rfl)) dc_X_writeNumber_136 ⟨Nat.le_of_ble_eq_true rfl, Nat.le_of_ble_eq_true rfl⟩) hP hD hS hA [] [0, 1, 2, 3, 4, 5, 6] rfl rfl (by decide) (by decide) (fun r136 u H locs hw hP hD hS => ?_)
    have hP : va_P (dC, dI) cs_3 (wd_X h0 qO qU qW qG qN qL cJ cI cZ cB fO fU fW fG fL len size) H := hP.sub (ws' := (wd_X h0 qO qU qW qG qN qL cJ cI cZ cB fO fU fW fG fL len size)) [0, 1, 2, 3, 4, 5, 6] rfl
    have hD : va_D A (wd_X h0 qO qU qW qG qN qL cJ cI cZ cB fO fU fW fG fL len size) := hD.sub (ws' := (wd_X h0 qO qU qW qG qN qL cJ cI cZ cB fO fU fW fG fL len size)) [0, 1, 2, 3, 4, 5, 6] (by decide) rfl
    try dsimp only at hw
    refine lv_istore (lv' := [(12, .int r136), (10, .long t0), (0, .ref h0), (6, .int x6), (9, .int x9)]) hx hb dc_X_writeNumber_139 hl (Nat.le_of_ble_eq_true rfl) rfl (fun ls hl => ?_)
    refine lv_aload_n hx hb dc_X_writeNumber_141 rfl (lv_at hl 2 rfl) ?_
    refine va_get (D := (dC, dI)) (ci := 1) (v := .ref qN) (C := "FourWords") (T := tb_X) (N := 6) hx hb hts (hu _ um_X) hown hK hP 0 rfl rfl 4 (by decide) (hq mw_t44) (fun _ h9 => h9) rfl dc_X_writeNumber_142 ?_
    refine lv_iload hx hb dc_X_writeNumber_145 (lv_at hl 3 rfl) ?_
    refine lv_iload hx hb dc_X_writeNumber_147 (lv_at hl 0 rfl) ?_
    refine lv_isub hx hb dc_X_writeNumber_149 ?_
    refine lv_iload hx hb dc_X_writeNumber_150 (lv_at hl 4 rfl) ?_
    obtain ⟨hw1, hw2⟩ := hw
    refine lv_if_eq (tgt := 159) hx hb dc_X_writeNumber_152 (by decide) (fun hc => ?_) (fun hc => ?_)
    · have hw := hw1 hc
      clear hw1 hw2
      refine lv_iconst (v := 0) hx hb dc_X_writeNumber_159 (by decide) ?_
      exact B_160 _ _ _ x9 t0 r136 (0 : Int32) (x6 - r136) fO fU fW fG fL len size hw hP hD hS (lv_sub hl [2, 4, 1, 0] rfl)
    · have hw := hw2 hc
      clear hw1 hw2
      refine lv_iconst (v := 1) hx hb dc_X_writeNumber_155 (by decide) ?_
      refine lv_goto (tgt := 160) hx hb dc_X_writeNumber_156 (by decide) ?_
      exact B_160 _ _ _ x9 t0 r136 (1 : Int32) (x6 - r136) fO fU fW fG fL len size hw hP hD hS (lv_sub hl [2, 4, 1, 0] rfl)
  have B_117 : ∀ (H : Heap) (locs : List Loc) (ls : Array Slot) (x6 : Int32) (x7 : Int64) (t0 : Int32) (fO : (Nat → Int64)) (fU : (Nat → Int64)) (fW : (Nat → Int32)) (fG : (Nat → Int32)) (fL : (Nat → Int32)) (len : Int32) (size : Int32), wp_X_writeNumber_117 post x6 x7 t0 fO fU fW fG fL len size → va_P (dC, dI) cs_3 (wd_X h0 qO qU qW qG qN qL cJ cI cZ cB fO fU fW fG fL len size) H → va_D A (wd_X h0 qO qU qW qG qN qL cJ cI cZ cB fO fU fW fG fL len size) → va_S A s.heap H locs → lv_has ls 13 [(0, .ref h0), (6, .int x6), (7, .long x7)] → W p l e (headSpec ws_X_writeNumber rm_X_writeNumber).room s m ([.ref h0, .int a1, .int a2] : List Value).toArray below meth c H locs 0 0 (MQ below (qv_X dC dI cJ cI cZ cB h0 qO qU qW qG qN qL post A) ([.ref h0, .int a1, .int a2] : List Value).toArray s 0 0 A) (F0 m 117 ls [.int t0]) := by
    intro H locs ls x6 x7 t0 fO fU fW fG fL len size hw hP hD hS hl
    unfold wp_X_writeNumber_117 at hw
    refine lv_istore (lv' := [(9, .int t0), (0, .ref h0), (6, .int x6), (7, .long x7)]) hx hb dc_X_writeNumber_117 hl (Nat.le_of_ble_eq_true rfl) rfl (fun ls hl => ?_)
    refine lv_iload hx hb dc_X_writeNumber_119 (lv_at hl 0 rfl) ?_
    obtain ⟨hw1, hw2⟩ := hw
    refine lv_if_eq (tgt := 130) hx hb dc_X_writeNumber_121 (by decide) (fun hc => ?_) (fun hc => ?_)
    · have hw := hw1 hc
      clear hw1 hw2
      refine lv_lload hx hb dc_X_writeNumber_130 (lv_at hl 3 rfl) ?_
      exact B_132 _ _ _ x6 t0 x7 fO fU fW fG fL len size hw hP hD hS (lv_sub hl [1, 2, 0] rfl)
    · have hw := hw2 hc
      clear hw1 hw2
      refine lv_lload hx hb dc_X_writeNumber_124 (lv_at hl 3 rfl) ?_
      refine lv_lneg hx hb dc_X_writeNumber_126 ?_
      refine lv_goto (tgt := 132) hx hb dc_X_writeNumber_127 (by decide) ?_
      exact B_132 _ _ _ x6 t0 (-x7) fO fU fW fG fL len size hw hP hD hS (lv_sub hl [1, 2, 0] rfl)
  have B_116 : ∀ (H : Heap) (locs : List Loc) (ls : Array Slot) (x6 : Int32) (x7 : Int64) (fO : (Nat → Int64)) (fU : (Nat → Int64)) (fW : (Nat → Int32)) (fG : (Nat → Int32)) (fL : (Nat → Int32)) (len : Int32) (size : Int32), wp_X_writeNumber_116 post x6 x7 fO fU fW fG fL len size → va_P (dC, dI) cs_3 (wd_X h0 qO qU qW qG qN qL cJ cI cZ cB fO fU fW fG fL len size) H → va_D A (wd_X h0 qO qU qW qG qN qL cJ cI cZ cB fO fU fW fG fL len size) → va_S A s.heap H locs → lv_has ls 13 [(0, .ref h0), (6, .int x6), (7, .long x7)] → W p l e (headSpec ws_X_writeNumber rm_X_writeNumber).room s m ([.ref h0, .int a1, .int a2] : List Value).toArray below meth c H locs 0 0 (MQ below (qv_X dC dI cJ cI cZ cB h0 qO qU qW qG qN qL post A) ([.ref h0, .int a1, .int a2] : List Value).toArray s 0 0 A) (F0 m 116 ls []) := by
    intro H locs ls x6 x7 fO fU fW fG fL len size hw hP hD hS hl
    unfold wp_X_writeNumber_116 at hw
    refine lv_iconst (v := 0) hx hb dc_X_writeNumber_116 (by decide) ?_
    exact B_117 _ _ _ x6 x7 (0 : Int32) fO fU fW fG fL len size hw hP hD hS (lv_sub hl [0, 1, 2] rfl)
  have B_47 : ∀ (H : Heap) (locs : List Loc) (ls : Array Slot) (x1 : Int32) (x3 : Int64) (x5 : Int32) (x6 : Int32) (fO : (Nat → Int64)) (fU : (Nat → Int64)) (fW : (Nat → Int32)) (fG : (Nat → Int32)) (fL : (Nat → Int32)) (len : Int32) (size : Int32), wp_X_writeNumber_47 post x1 x3 x5 x6 fO fU fW fG fL len size → va_P (dC, dI) cs_3 (wd_X h0 qO qU qW qG qN qL cJ cI cZ cB fO fU fW fG fL len size) H → va_D A (wd_X h0 qO qU qW qG qN qL cJ cI cZ cB fO fU fW fG fL len size) → va_S A s.heap H locs → lv_has ls 13 [(0, .ref h0), (1, .int x1), (3, .long x3), (5, .int x5), (6, .int x6)] → W p l e (headSpec ws_X_writeNumber rm_X_writeNumber).room s m ([.ref h0, .int a1, .int a2] : List Value).toArray below meth c H locs 0 0 (MQ below (qv_X dC dI cJ cI cZ cB h0 qO qU qW qG qN qL post A) ([.ref h0, .int a1, .int a2] : List Value).toArray s 0 0 A) (F0 m 47 ls []) := by
    intro H locs ls x1 x3 x5 x6 fO fU fW fG fL len size hw hP hD hS hl
    unfold wp_X_writeNumber_47 at hw
    refine lv_aload_n hx hb dc_X_writeNumber_47 rfl (lv_at hl 0 rfl) ?_
    refine va_get (D := (dC, dI)) (ci := 1) (v := .ref qU) (C := "FourWords") (T := tb_X) (N := 6) hx hb hts (hu _ um_X) hown hK hP 0 rfl rfl 1 (by decide) (hq mw_t41) (fun _ h9 => h9) rfl dc_X_writeNumber_48 ?_
    refine lv_iload_n hx hb dc_X_writeNumber_51 rfl (lv_at hl 1 rfl) ?_
    obtain ⟨hin, hw⟩ := hw
    refine va_lald hx hb hK hP 2 0 rfl rfl hin dc_X_writeNumber_52 ?_
    refine lv_lconst (v := 0) hx hb dc_X_writeNumber_53 (by decide) ?_
    refine W.lcmp hx hb dc_X_writeNumber_54 ?_
    obtain ⟨hw1, hw2⟩ := hw
    refine lv_if_eq (tgt := 93) hx hb dc_X_writeNumber_55 (by decide) (fun hc => ?_) (fun hc => ?_)
    · have hw := hw1 hc
      clear hw1 hw2
      refine lv_aload_n hx hb dc_X_writeNumber_93 rfl (lv_at hl 0 rfl) ?_
      refine lv_iload_n hx hb dc_X_writeNumber_94 rfl (lv_at hl 1 rfl) ?_
      refine gc_l (S := (Nat → Int64) × (Nat → Int64) × (Nat → Int32) × (Nat → Int32) × (Nat → Int32) × Int32 × Int32) (w1 := (fun u => (wd_X h0 qO qU qW qG qN qL cJ cI cZ cB u.1 u.2.1 u.2.2.1 u.2.2.2.1 u.2.2.2.2.1 u.2.2.2.2.2.1 u.2.2.2.2.2.2))) (wc := (wd_X h0 qO qU qW qG qN qL cJ cI cZ cB fO fU fW fG fL len size)) (wr := ([] : va_W)) (va_runV (As := [.int x1]) (rest := []) ⟨hx, hb, hml, hown, hts⟩ (kt_X_number l dC dI cJ cI cZ cB h0 qO qU qW qG qN qL _ x1 fO fU fW fG fL len size _ hw) ⟨callB_of 1 hts (gw_in mw_t207) rfl rfl rfl (hq mw_t1) (hq mw_t204) (by decide +kernel) ⟨Nat.le_of_ble_eq_true rfl, Nat.le_of_ble_eq_true rfl⟩, hq mw_t206, hq mw_s8⟩ (pv_W (va_recv (q0 := 0) (ci := 1) hK hP rfl rfl) (hP.sub (ws' := (wd_X h0 qO qU qW qG qN qL cJ cI cZ cB fO fU fW fG fL len size)) [0, 1, 2, 3, 4, 5, 6] rfl) hK (hD.sub (ws' := (wd_X h0 qO qU qW qG qN qL cJ cI cZ cB fO fU fW fG fL len size)) [0, 1, 2, 3, 4, 5, 6] (by decide) rfl) hE) rfl rfl hl.1 rfl (lv_room (Nat.le_of_ble_eq_true rfl)) dc_X_writeNumber_95 ⟨Nat.le_of_ble_eq_true rfl, Nat.le_of_ble_eq_true rfl⟩) hP hD hS hA [0, 1, 2, 3, 4, 5, 6] [] rfl rfl (by decide) (by decide) (fun r95 u H locs hw hP hD hS => ?_)
      obtain ⟨fO95, fU95, fW95, fG95, fL95, len95, size95⟩ := u
      have hP : va_P (dC, dI) cs_3 (wd_X h0 qO qU qW qG qN qL cJ cI cZ cB fO95 fU95 fW95 fG95 fL95 len95 size95) H := hP.sub (ws' := (wd_X h0 qO qU qW qG qN qL cJ cI cZ cB fO95 fU95 fW95 fG95 fL95 len95 size95)) [0, 1, 2, 3, 4, 5, 6] rfl
      have hD : va_D A (wd_X h0 qO qU qW qG qN qL cJ cI cZ cB fO95 fU95 fW95 fG95 fL95 len95 size95) := hD.sub (ws' := (wd_X h0 qO qU qW qG qN qL cJ cI cZ cB fO95 fU95 fW95 fG95 fL95 len95 size95)) [0, 1, 2, 3, 4, 5, 6] (by decide) rfl
      try dsimp only at hw
      refine lv_lstore (lv' := [(7, .long r95), (0, .ref h0), (1, .int x1), (3, .long x3), (5, .int x5), (6, .int x6)]) hx hb dc_X_writeNumber_98 hl (Nat.le_of_ble_eq_true rfl) rfl (fun ls hl => ?_)
      refine lv_iload hx hb dc_X_writeNumber_100 (lv_at hl 4 rfl) ?_
      obtain ⟨hw1, hw2⟩ := hw
      refine lv_if_eq (tgt := 116) hx hb dc_X_writeNumber_102 (by decide) (fun hc => ?_) (fun hc => ?_)
      · have hw := hw1 hc
        clear hw1 hw2
        exact B_116 _ _ _ x6 r95 fO95 fU95 fW95 fG95 fL95 len95 size95 hw hP hD hS (lv_sub hl [1, 5, 0] rfl)
      · have hw := hw2 hc
        clear hw1 hw2
        refine lv_lload hx hb dc_X_writeNumber_105 (lv_at hl 0 rfl) ?_
        refine lv_lconst (v := 0) hx hb dc_X_writeNumber_107 (by decide) ?_
        refine W.lcmp hx hb dc_X_writeNumber_108 ?_
        obtain ⟨hw1, hw2⟩ := hw
        refine lv_if_ge (tgt := 116) hx hb dc_X_writeNumber_109 (by decide) (fun hc => ?_) (fun hc => ?_)
        · have hw := hw1 hc
          clear hw1 hw2
          exact B_116 _ _ _ x6 r95 fO95 fU95 fW95 fG95 fL95 len95 size95 hw hP hD hS (lv_sub hl [1, 5, 0] rfl)
        · have hw := hw2 hc
          clear hw1 hw2
          refine lv_iconst (v := 1) hx hb dc_X_writeNumber_112 (by decide) ?_
          refine lv_goto (tgt := 117) hx hb dc_X_writeNumber_113 (by decide) ?_
          exact B_117 _ _ _ x6 r95 (1 : Int32) fO95 fU95 fW95 fG95 fL95 len95 size95 hw hP hD hS (lv_sub hl [1, 5, 0] rfl)
    · have hw := hw2 hc
      clear hw1 hw2
      refine lv_aload_n hx hb dc_X_writeNumber_58 rfl (lv_at hl 0 rfl) ?_
      refine va_get (D := (dC, dI)) (ci := 1) (v := .ref qN) (C := "FourWords") (T := tb_X) (N := 6) hx hb hts (hu _ um_X) hown hK hP 0 rfl rfl 4 (by decide) (hq mw_t44) (fun _ h9 => h9) rfl dc_X_writeNumber_59 ?_
      refine lv_iload hx hb dc_X_writeNumber_62 (lv_at hl 4 rfl) ?_
      refine lv_iconst (v := 1) hx hb dc_X_writeNumber_64 (by decide) ?_
      refine lv_isub hx hb dc_X_writeNumber_65 ?_
      refine gc_v (S := (Nat → Int32) × Int32) (w1 := (fun u => (wd_N qN qL cJ cI cZ cB u.1 u.2))) (wc := (wd_N qN qL cJ cI cZ cB fL len)) (wr := ([(h0, .inr (1, [.ref qO, .ref qU, .ref qW, .ref qG, .ref qN, .int size])), (qO, .inl (cJ, 64, .inr (.inl fO))), (qU, .inl (cJ, 64, .inr (.inl fU))), (qW, .inl (cI, 64, .inl fW)), (qG, .inl (cZ, 64, .inl fG))] : va_W)) (va_runVN (As := [.int (x6 - (1 : Int32))]) (rest := []) ⟨hx, hb, hml, hown, hts⟩ (kt_N_writeSpaces l dC dI cJ cI cZ cB qN qL _ (x6 - (1 : Int32)) fL len _ hw) ⟨va_cnB 1 hts (gw_in mw_t394) rfl rfl rfl (en_X233 hE) (hq mw_t2) (by decide +kernel) ⟨Nat.le_of_ble_eq_true rfl, Nat.le_of_ble_eq_true rfl⟩, hq mw_t393, hq mw_s30⟩ (pv_W (va_recv (q0 := 5) (ci := 0) hK hP rfl rfl) (hP.sub (ws' := (wd_N qN qL cJ cI cZ cB fL len)) [5, 6] rfl) hK (hD.sub (ws' := (wd_N qN qL cJ cI cZ cB fL len)) [5, 6] (by decide) rfl) hE) rfl rfl hl.1 rfl (lv_room (Nat.le_of_ble_eq_true rfl)) dc_X_writeNumber_66 ⟨Nat.le_of_ble_eq_true rfl, Nat.le_of_ble_eq_true rfl⟩) hP hD hS hA [5, 6] [0, 1, 2, 3, 4] rfl rfl (by decide) (by decide) (fun u H locs hw hP hD hS => ?_)
      obtain ⟨fL66, len66⟩ := u
      have hP : va_P (dC, dI) cs_3 (wd_X h0 qO qU qW qG qN qL cJ cI cZ cB fO fU fW fG fL66 len66 size) H := hP.sub (ws' := (wd_X h0 qO qU qW qG qN qL cJ cI cZ cB fO fU fW fG fL66 len66 size)) [0, 1, 2, 3, 4, 5, 6] rfl
      have hD : va_D A (wd_X h0 qO qU qW qG qN qL cJ cI cZ cB fO fU fW fG fL66 len66 size) := hD.sub (ws' := (wd_X h0 qO qU qW qG qN qL cJ cI cZ cB fO fU fW fG fL66 len66 size)) [0, 1, 2, 3, 4, 5, 6] (by decide) rfl
      try dsimp only at hw
      refine lv_aload_n hx hb dc_X_writeNumber_69 rfl (lv_at hl 0 rfl) ?_
      refine va_get (D := (dC, dI)) (ci := 1) (v := .ref qN) (C := "FourWords") (T := tb_X) (N := 6) hx hb hts (hu _ um_X) hown hK hP 0 rfl rfl 4 (by decide) (hq mw_t44) (fun _ h9 => h9) rfl dc_X_writeNumber_70 ?_
      refine lv_aload_n hx hb dc_X_writeNumber_73 rfl (lv_at hl 0 rfl) ?_
      refine va_get (D := (dC, dI)) (ci := 1) (v := .ref qO) (C := "FourWords") (T := tb_X) (N := 6) hx hb hts (hu _ um_X) hown hK hP 0 rfl rfl 0 (by decide) (hq mw_t40) (fun _ h9 => h9) rfl dc_X_writeNumber_74 ?_
      refine lv_iload_n hx hb dc_X_writeNumber_77 rfl (lv_at hl 1 rfl) ?_
      obtain ⟨hin, hw⟩ := hw
      refine va_lald hx hb hK hP 1 0 rfl rfl hin dc_X_writeNumber_78 ?_
      refine lv_aload_n hx hb dc_X_writeNumber_79 rfl (lv_at hl 0 rfl) ?_
      refine va_get (D := (dC, dI)) (ci := 1) (v := .ref qU) (C := "FourWords") (T := tb_X) (N := 6) hx hb hts (hu _ um_X) hown hK hP 0 rfl rfl 1 (by decide) (hq mw_t41) (fun _ h9 => h9) rfl dc_X_writeNumber_80 ?_
      refine lv_iload_n hx hb dc_X_writeNumber_83 rfl (lv_at hl 1 rfl) ?_
      obtain ⟨hin, hw⟩ := hw
      refine va_lald hx hb hK hP 2 0 rfl rfl hin dc_X_writeNumber_84 ?_
      refine lv_lload_n hx hb dc_X_writeNumber_85 rfl (lv_at hl 2 rfl) ?_
      refine gc_i (S := Unit) (w1 := (fun u => ([] : va_W))) (wc := ([] : va_W)) (wr := ([(h0, .inr (1, [.ref qO, .ref qU, .ref qW, .ref qG, .ref qN, .int size])), (qO, .inl (cJ, 64, .inr (.inl fO))), (qU, .inl (cJ, 64, .inr (.inl fU))), (qW, .inl (cI, 64, .inl fW)), (qG, .inl (cZ, 64, .inl fG)), (qN, .inr (0, [.ref qL, .int len66])), (qL, .inl (cB, 64, .inl fL66))] : va_W)) (va_runS (As := [.long (fO x1.toNatClampNeg), .long (fU x1.toNatClampNeg), .long x3]) (rest := [.ref qN]) ⟨hx, hb, hml, hown, hts⟩ (kt_X_unknownLetter l dC dI cJ cI cZ cB _ (fO x1.toNatClampNeg) (fU x1.toNatClampNeg) x3 _ hw) ⟨callB_of 3 hts (gw_in mw_t401) rfl rfl rfl (hq mw_t1) (hq mw_t399) (by decide +kernel) ⟨Nat.le_of_ble_eq_true rfl, Nat.le_of_ble_eq_true rfl⟩, hq mw_t400⟩ (ps_W (hP.sub (ws' := ([] : va_W)) [] rfl) hK (hD.sub (ws' := ([] : va_W)) [] (by decide) rfl) hE) rfl rfl hl.1 rfl (lv_room (Nat.le_of_ble_eq_true rfl)) dc_X_writeNumber_86 ⟨Nat.le_of_ble_eq_true rfl, Nat.le_of_ble_eq_true rfl⟩) hP hD hS hA [] [0, 1, 2, 3, 4, 5, 6] rfl rfl (by decide) (by decide) (fun r86 u H locs hw hP hD hS => ?_)
      have hP : va_P (dC, dI) cs_3 (wd_X h0 qO qU qW qG qN qL cJ cI cZ cB fO fU fW fG fL66 len66 size) H := hP.sub (ws' := (wd_X h0 qO qU qW qG qN qL cJ cI cZ cB fO fU fW fG fL66 len66 size)) [0, 1, 2, 3, 4, 5, 6] rfl
      have hD : va_D A (wd_X h0 qO qU qW qG qN qL cJ cI cZ cB fO fU fW fG fL66 len66 size) := hD.sub (ws' := (wd_X h0 qO qU qW qG qN qL cJ cI cZ cB fO fU fW fG fL66 len66 size)) [0, 1, 2, 3, 4, 5, 6] (by decide) rfl
      try dsimp only at hw
      refine gc_v (S := (Nat → Int32) × Int32) (w1 := (fun u => (wd_N qN qL cJ cI cZ cB u.1 u.2))) (wc := (wd_N qN qL cJ cI cZ cB fL66 len66)) (wr := ([(h0, .inr (1, [.ref qO, .ref qU, .ref qW, .ref qG, .ref qN, .int size])), (qO, .inl (cJ, 64, .inr (.inl fO))), (qU, .inl (cJ, 64, .inr (.inl fU))), (qW, .inl (cI, 64, .inl fW)), (qG, .inl (cZ, 64, .inl fG))] : va_W)) (va_runVN (As := [.int r86]) (rest := []) ⟨hx, hb, hml, hown, hts⟩ (kt_N_write l dC dI cJ cI cZ cB qN qL _ r86 fL66 len66 _ hw) ⟨va_cnB 1 hts (gw_in mw_t398) rfl rfl rfl (en_X217 hE) (hq mw_t2) (by decide +kernel) ⟨Nat.le_of_ble_eq_true rfl, Nat.le_of_ble_eq_true rfl⟩, hq mw_t397, hq mw_s31⟩ (pv_W (va_recv (q0 := 5) (ci := 0) hK hP rfl rfl) (hP.sub (ws' := (wd_N qN qL cJ cI cZ cB fL66 len66)) [5, 6] rfl) hK (hD.sub (ws' := (wd_N qN qL cJ cI cZ cB fL66 len66)) [5, 6] (by decide) rfl) hE) rfl rfl hl.1 rfl (lv_room (Nat.le_of_ble_eq_true rfl)) dc_X_writeNumber_89 ⟨Nat.le_of_ble_eq_true rfl, Nat.le_of_ble_eq_true rfl⟩) hP hD hS hA [5, 6] [0, 1, 2, 3, 4] rfl rfl (by decide) (by decide) (fun u H locs hw hP hD hS => ?_)
      obtain ⟨fL89, len89⟩ := u
      have hP : va_P (dC, dI) cs_3 (wd_X h0 qO qU qW qG qN qL cJ cI cZ cB fO fU fW fG fL89 len89 size) H := hP.sub (ws' := (wd_X h0 qO qU qW qG qN qL cJ cI cZ cB fO fU fW fG fL89 len89 size)) [0, 1, 2, 3, 4, 5, 6] rfl
      have hD : va_D A (wd_X h0 qO qU qW qG qN qL cJ cI cZ cB fO fU fW fG fL89 len89 size) := hD.sub (ws' := (wd_X h0 qO qU qW qG qN qL cJ cI cZ cB fO fU fW fG fL89 len89 size)) [0, 1, 2, 3, 4, 5, 6] (by decide) rfl
      try dsimp only at hw
      exact W.vret hx hb hr (fun t ht hW => ⟨⟨(fO, fU, fW, fG, fL89, len89, size), rfl, hw, by rw [ht]; exact hP, va_K.moved hW.alike hK, hD⟩, hS.F ht⟩) hS.2.2 dc_X_writeNumber_92
  have B_45 : ∀ (H : Heap) (locs : List Loc) (ls : Array Slot) (x1 : Int32) (x3 : Int64) (x5 : Int32) (t0 : Int32) (fO : (Nat → Int64)) (fU : (Nat → Int64)) (fW : (Nat → Int32)) (fG : (Nat → Int32)) (fL : (Nat → Int32)) (len : Int32) (size : Int32), wp_X_writeNumber_45 post x1 x3 x5 t0 fO fU fW fG fL len size → va_P (dC, dI) cs_3 (wd_X h0 qO qU qW qG qN qL cJ cI cZ cB fO fU fW fG fL len size) H → va_D A (wd_X h0 qO qU qW qG qN qL cJ cI cZ cB fO fU fW fG fL len size) → va_S A s.heap H locs → lv_has ls 13 [(0, .ref h0), (1, .int x1), (3, .long x3), (5, .int x5)] → W p l e (headSpec ws_X_writeNumber rm_X_writeNumber).room s m ([.ref h0, .int a1, .int a2] : List Value).toArray below meth c H locs 0 0 (MQ below (qv_X dC dI cJ cI cZ cB h0 qO qU qW qG qN qL post A) ([.ref h0, .int a1, .int a2] : List Value).toArray s 0 0 A) (F0 m 45 ls [.int t0]) := by
    intro H locs ls x1 x3 x5 t0 fO fU fW fG fL len size hw hP hD hS hl
    unfold wp_X_writeNumber_45 at hw
    refine lv_istore (lv' := [(6, .int t0), (0, .ref h0), (1, .int x1), (3, .long x3), (5, .int x5)]) hx hb dc_X_writeNumber_45 hl (Nat.le_of_ble_eq_true rfl) rfl (fun ls hl => ?_)
    exact B_47 _ _ _ x1 x3 x5 t0 fO fU fW fG fL len size hw hP hD hS (lv_sub hl [1, 2, 3, 4, 0] rfl)
  unfold wp_X_writeNumber at hw
  refine lv_aload_n hx hb dc_X_writeNumber_0 rfl (lv_at hl 0 rfl) ?_
  refine va_get (D := (dC, dI)) (ci := 1) (v := .ref qW) (C := "FourWords") (T := tb_X) (N := 6) hx hb hts (hu _ um_X) hown hK hP 0 rfl rfl 2 (by decide) (hq mw_t42) (fun _ h9 => h9) rfl dc_X_writeNumber_1 ?_
  refine lv_iload_n hx hb dc_X_writeNumber_4 rfl (lv_at hl 1 rfl) ?_
  obtain ⟨hin, hw⟩ := hw
  refine va_iald hx hb hK hP 3 1 rfl rfl hin dc_X_writeNumber_5 ?_
  refine gc_l (S := Unit) (w1 := (fun u => ([] : va_W))) (wc := ([] : va_W)) (wr := ([(h0, .inr (1, [.ref qO, .ref qU, .ref qW, .ref qG, .ref qN, .int size])), (qO, .inl (cJ, 64, .inr (.inl fO))), (qU, .inl (cJ, 64, .inr (.inl fU))), (qW, .inl (cI, 64, .inl fW)), (qG, .inl (cZ, 64, .inl fG)), (qN, .inr (0, [.ref qL, .int len])), (qL, .inl (cB, 64, .inl fL))] : va_W)) (va_runSN (As := [.int (fW a1.toNatClampNeg)]) (rest := []) ⟨hx, hb, hml, hown, hts⟩ (kt_B_lowest l dC dI cJ cI cZ cB _ (fW a1.toNatClampNeg) _ hw) ⟨va_cnB 1 hts (gw_in mw_t172) rfl rfl rfl (en_X157 hE) (hq mw_t9) (by decide +kernel) ⟨Nat.le_of_ble_eq_true rfl, Nat.le_of_ble_eq_true rfl⟩, hq mw_t171, trivial⟩ (ps_W (hP.sub (ws' := ([] : va_W)) [] rfl) hK (hD.sub (ws' := ([] : va_W)) [] (by decide) rfl) hE) rfl rfl hl.1 rfl (lv_room (Nat.le_of_ble_eq_true rfl)) dc_X_writeNumber_6 ⟨Nat.le_of_ble_eq_true rfl, Nat.le_of_ble_eq_true rfl⟩) hP hD hS hA [] [0, 1, 2, 3, 4, 5, 6] rfl rfl (by decide) (by decide) (fun r6 u H locs hw hP hD hS => ?_)
  have hP : va_P (dC, dI) cs_3 (wd_X h0 qO qU qW qG qN qL cJ cI cZ cB fO fU fW fG fL len size) H := hP.sub (ws' := (wd_X h0 qO qU qW qG qN qL cJ cI cZ cB fO fU fW fG fL len size)) [0, 1, 2, 3, 4, 5, 6] rfl
  have hD : va_D A (wd_X h0 qO qU qW qG qN qL cJ cI cZ cB fO fU fW fG fL len size) := hD.sub (ws' := (wd_X h0 qO qU qW qG qN qL cJ cI cZ cB fO fU fW fG fL len size)) [0, 1, 2, 3, 4, 5, 6] (by decide) rfl
  try dsimp only at hw
  refine lv_lstore_n (lv' := [(3, .long r6), (0, .ref h0), (1, .int a1), (2, .int a2)]) hx hb dc_X_writeNumber_9 rfl hl (Nat.le_of_ble_eq_true rfl) rfl (fun ls hl => ?_)
  refine lv_aload_n hx hb dc_X_writeNumber_10 rfl (lv_at hl 1 rfl) ?_
  refine va_get (D := (dC, dI)) (ci := 1) (v := .ref qG) (C := "FourWords") (T := tb_X) (N := 6) hx hb hts (hu _ um_X) hown hK hP 0 rfl rfl 3 (by decide) (hq mw_t43) (fun _ h9 => h9) rfl dc_X_writeNumber_11 ?_
  refine lv_iload_n hx hb dc_X_writeNumber_14 rfl (lv_at hl 2 rfl) ?_
  obtain ⟨hin, hw⟩ := hw
  refine va_zald hx hb hK hP 4 2 rfl rfl hin dc_X_writeNumber_15 ?_
  refine lv_topi (fun v16 e16 => ?_)
  have hw := hw v16 e16
  refine lv_istore (lv' := [(5, .int v16), (3, .long r6), (0, .ref h0), (1, .int a1), (2, .int a2)]) hx hb dc_X_writeNumber_16 hl (Nat.le_of_ble_eq_true rfl) rfl (fun ls hl => ?_)
  refine lv_iconst (v := 0) hx hb dc_X_writeNumber_18 (by decide) ?_
  refine lv_istore (lv' := [(6, .int (0 : Int32)), (5, .int v16), (3, .long r6), (0, .ref h0), (1, .int a1), (2, .int a2)]) hx hb dc_X_writeNumber_19 hl (Nat.le_of_ble_eq_true rfl) rfl (fun ls hl => ?_)
  refine lv_iload_n hx hb dc_X_writeNumber_21 rfl (lv_at hl 5 rfl) ?_
  obtain ⟨hw1, hw2⟩ := hw
  refine lv_if_ne (tgt := 47) hx hb dc_X_writeNumber_22 (by decide) (fun hc => ?_) (fun hc => ?_)
  · have hw := hw1 hc
    clear hw1 hw2
    exact B_47 _ _ _ a1 r6 v16 (0 : Int32) fO fU fW fG fL len size hw hP hD hS (lv_sub hl [3, 4, 2, 1, 0] rfl)
  · have hw := hw2 (fun h9 => h9 hc)
    clear hw1 hw2
    refine lv_iload hx hb dc_X_writeNumber_25 (lv_at hl 1 rfl) ?_
    obtain ⟨hw1, hw2⟩ := hw
    refine lv_if_eq (tgt := 41) hx hb dc_X_writeNumber_27 (by decide) (fun hc => ?_) (fun hc => ?_)
    · have hw := hw1 hc
      clear hw1 hw2
      refine lv_lload_n hx hb dc_X_writeNumber_41 rfl (lv_at hl 2 rfl) ?_
      refine gc_i (S := Unit) (w1 := (fun u => ([] : va_W))) (wc := ([] : va_W)) (wr := ([(h0, .inr (1, [.ref qO, .ref qU, .ref qW, .ref qG, .ref qN, .int size])), (qO, .inl (cJ, 64, .inr (.inl fO))), (qU, .inl (cJ, 64, .inr (.inl fU))), (qW, .inl (cI, 64, .inl fW)), (qG, .inl (cZ, 64, .inl fG)), (qN, .inr (0, [.ref qL, .int len])), (qL, .inl (cB, 64, .inl fL))] : va_W)) (va_runSN (As := [.long r6]) (rest := []) ⟨hx, hb, hml, hown, hts⟩ (kt_B_digits l dC dI cJ cI cZ cB _ r6 _ hw) ⟨va_cnB 1 hts (gw_in mw_t388) rfl rfl rfl (en_X230 hE) (hq mw_t9) (by decide +kernel) ⟨Nat.le_of_ble_eq_true rfl, Nat.le_of_ble_eq_true rfl⟩, hq mw_t387, trivial⟩ (ps_W (hP.sub (ws' := ([] : va_W)) [] rfl) hK (hD.sub (ws' := ([] : va_W)) [] (by decide) rfl) hE) rfl rfl hl.1 rfl (lv_room (Nat.le_of_ble_eq_true rfl)) dc_X_writeNumber_42 ⟨Nat.le_of_ble_eq_true rfl, Nat.le_of_ble_eq_true rfl⟩) hP hD hS hA [] [0, 1, 2, 3, 4, 5, 6] rfl rfl (by decide) (by decide) (fun r42 u H locs hw hP hD hS => ?_)
      have hP : va_P (dC, dI) cs_3 (wd_X h0 qO qU qW qG qN qL cJ cI cZ cB fO fU fW fG fL len size) H := hP.sub (ws' := (wd_X h0 qO qU qW qG qN qL cJ cI cZ cB fO fU fW fG fL len size)) [0, 1, 2, 3, 4, 5, 6] rfl
      have hD : va_D A (wd_X h0 qO qU qW qG qN qL cJ cI cZ cB fO fU fW fG fL len size) := hD.sub (ws' := (wd_X h0 qO qU qW qG qN qL cJ cI cZ cB fO fU fW fG fL len size)) [0, 1, 2, 3, 4, 5, 6] (by decide) rfl
      try dsimp only at hw
      exact B_45 _ _ _ a1 r6 v16 r42 fO fU fW fG fL len size hw hP hD hS (lv_sub hl [3, 4, 2, 1] rfl)
    · have hw := hw2 hc
      clear hw1 hw2
      refine lv_lload_n hx hb dc_X_writeNumber_30 rfl (lv_at hl 2 rfl) ?_
      refine lv_iconst (v := 1) hx hb dc_X_writeNumber_31 (by decide) ?_
      refine lv_lushr hx hb dc_X_writeNumber_32 rfl ?_
      refine gc_i (S := Unit) (w1 := (fun u => ([] : va_W))) (wc := ([] : va_W)) (wr := ([(h0, .inr (1, [.ref qO, .ref qU, .ref qW, .ref qG, .ref qN, .int size])), (qO, .inl (cJ, 64, .inr (.inl fO))), (qU, .inl (cJ, 64, .inr (.inl fU))), (qW, .inl (cI, 64, .inl fW)), (qG, .inl (cZ, 64, .inl fG)), (qN, .inr (0, [.ref qL, .int len])), (qL, .inl (cB, 64, .inl fL))] : va_W)) (va_runSN (As := [.long ((r6.toUInt64 >>> ((1 : Int32).toInt64.toUInt64 &&& Int64.toUInt64 63)).toInt64)]) (rest := []) ⟨hx, hb, hml, hown, hts⟩ (kt_B_digits l dC dI cJ cI cZ cB _ ((r6.toUInt64 >>> ((1 : Int32).toInt64.toUInt64 &&& Int64.toUInt64 63)).toInt64) _ hw) ⟨va_cnB 1 hts (gw_in mw_t388) rfl rfl rfl (en_X230 hE) (hq mw_t9) (by decide +kernel) ⟨Nat.le_of_ble_eq_true rfl, Nat.le_of_ble_eq_true rfl⟩, hq mw_t387, trivial⟩ (ps_W (hP.sub (ws' := ([] : va_W)) [] rfl) hK (hD.sub (ws' := ([] : va_W)) [] (by decide) rfl) hE) rfl rfl hl.1 rfl (lv_room (Nat.le_of_ble_eq_true rfl)) dc_X_writeNumber_33 ⟨Nat.le_of_ble_eq_true rfl, Nat.le_of_ble_eq_true rfl⟩) hP hD hS hA [] [0, 1, 2, 3, 4, 5, 6] rfl rfl (by decide) (by decide) (fun r33 u H locs hw hP hD hS => ?_)
      have hP : va_P (dC, dI) cs_3 (wd_X h0 qO qU qW qG qN qL cJ cI cZ cB fO fU fW fG fL len size) H := hP.sub (ws' := (wd_X h0 qO qU qW qG qN qL cJ cI cZ cB fO fU fW fG fL len size)) [0, 1, 2, 3, 4, 5, 6] rfl
      have hD : va_D A (wd_X h0 qO qU qW qG qN qL cJ cI cZ cB fO fU fW fG fL len size) := hD.sub (ws' := (wd_X h0 qO qU qW qG qN qL cJ cI cZ cB fO fU fW fG fL len size)) [0, 1, 2, 3, 4, 5, 6] (by decide) rfl
      try dsimp only at hw
      refine lv_iconst (v := 1) hx hb dc_X_writeNumber_36 (by decide) ?_
      refine lv_iadd hx hb dc_X_writeNumber_37 ?_
      refine lv_goto (tgt := 45) hx hb dc_X_writeNumber_38 (by decide) ?_
      exact B_45 _ _ _ a1 r6 v16 (r33 + (1 : Int32)) fO fU fW fG fL len size hw hP hD hS (lv_sub hl [3, 4, 2, 1] rfl)

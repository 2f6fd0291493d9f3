set_option maxHeartbeats 4000000 in
set_option maxRecDepth 100000 in
theorem kt_X_bit (l : Launch) (hlt : l.stackTraces = false) (dC : Nat → ClassId) (dI : Nat → Nat → Nat) (cJ cI cZ cB : ClassId) (h0 qO qU qW qG qN qL : Nat) (sz : Nat) (fO : (Nat → Int64)) (fU : (Nat → Int64)) (fW : (Nat → Int32)) (fG : (Nat → Int32)) (fL : (Nat → Int32)) (len : Int32) (size : Int32) (post : (Nat → Int64) → (Nat → Int64) → (Nat → Int32) → (Nat → Int32) → (Nat → Int32) → Int32 → Int32 → Prop) (px : String → (Nat → Int64) → (Nat → Int64) → (Nat → Int32) → (Nat → Int32) → (Nat → Int32) → Int32 → Int32 → Prop) (hw : wp_X_bit post px fO fU fW fG fL len size) : vx_Met l yn_X_bit ws_X_bit rm_X_bit (va_Pc [.ref h0] (pc_Z (dC, dI) (ty_4 cJ cI cZ cB) (wd_X h0 qO qU qW qG qN qL cJ cI cZ cB fO fU fW fG fL len size) sz)) (qv_X dC dI cJ cI cZ cB h0 qO qU qW qG qN qL post (va_A (wd_X h0 qO qU qW qG qN qL cJ cI cZ cB fO fU fW fG fL len size) sz)) (qx_X dC dI cJ cI cZ cB h0 qO qU qW qG qN qL px (va_A (wd_X h0 qO qU qW qG qN qL cJ cI cZ cB fO fU fW fG fL len size) sz)) 1 6 (va_A (wd_X h0 qO qU qW qG qN qL cJ cI cZ cB fO fU fW fG fL len size) sz) := by
  refine vx_ofW (cc := cd_X_bit) (maxL := 5) (ret := none) (by decide) rfl ?_
  intro p e s m args below meth c s₁ B hml htab hv
  obtain ⟨rfl, ⟨hsz, hP, hK, hD0, hE⟩, hZ⟩ := hv
  have hx := B.exec
  have hb := B.bytes
  have hr := B.returns
  have hts := atoms_spec (ws := ws_X_bit) B.pre
  have hq : ∀ {w : Cond}, w ∈ wg_all → w.before ([.ref h0] : List Value).toArray s = true := fun h => hts _ (List.mem_cons_of_mem _ h)
  have hu : ∀ L : List Cond, (∀ w ∈ L, w ∈ wg_all) → ∀ w ∈ L, w ∈ ws_X_bit := fun L h w hw => List.mem_cons_of_mem _ (h w hw)
  have hown : s.vm.findClass "FourWords" = some m.cls := findClass_of_methodNamed B.named
  have hlocks := B.notSynchronized
  subst hsz
  have hD := hD0.self (sz := s.heap.size)
  generalize hAe : va_A (wd_X h0 qO qU qW qG qN qL cJ cI cZ cB fO fU fW fG fL len size) s.heap.size = A at hD hZ ⊢
  have hA : ∀ q : Nat, s.heap.size ≤ q → A q := fun q h => by rw [← hAe]; exact Or.inr h
  have hS : va_S A s.heap s.heap [] := va_S.rf
  have hl := lv_entry [.ref h0] (n := 5) (Nat.le_of_ble_eq_true rfl)
  rw [lg_entry_eq]
  generalize (lg_sl [.ref h0] ++ List.replicate (5 - (lg_sl [.ref h0]).length) Slot.unset).toArray = ls at hl ⊢
  have hl : lv_has ls 5 [(0, .ref h0)] := hl
  have B_88 : ∀ (H : Heap) (locs : List Loc) (ls : Array Slot) (fO : (Nat → Int64)) (fU : (Nat → Int64)) (fW : (Nat → Int32)) (fG : (Nat → Int32)) (fL : (Nat → Int32)) (len : Int32) (size : Int32), wp_X_bit_88 post px fO fU fW fG fL len size → va_P (dC, dI) cs_3 (wd_X h0 qO qU qW qG qN qL cJ cI cZ cB fO fU fW fG fL len size) H → va_D A (wd_X h0 qO qU qW qG qN qL cJ cI cZ cB fO fU fW fG fL len size) → va_S A s.heap H locs → lv_has ls 5 [(0, .ref h0)] → W p l e (headSpec ws_X_bit rm_X_bit).room s m ([.ref h0] : List Value).toArray below meth c H locs 0 0 (vx_MQ below (qv_X dC dI cJ cI cZ cB h0 qO qU qW qG qN qL post A) (qx_X dC dI cJ cI cZ cB h0 qO qU qW qG qN qL px A) ([.ref h0] : List Value).toArray s 1 6 A) (F0 m 88 ls []) := by
    intro H locs ls fO fU fW fG fL len size hw hP hD hS hl
    unfold wp_X_bit_88 at hw
    refine lv_aload_n hx hb dc_X_bit_88 rfl (lv_at hl 0 rfl) ?_
    refine lv_dup hx hb dc_X_bit_89 rfl ?_
    refine va_get (D := (dC, dI)) (ci := 1) (v := .int size) (C := "FourWords") (T := tb_X) (N := 6) hx hb hts (hu _ um_X) hown hK hP 0 rfl rfl 5 (by decide) (hq mw_t45) (fun _ h9 => h9) rfl dc_X_bit_90 ?_
    refine lv_iconst (v := 1) hx hb dc_X_bit_93 (by decide) ?_
    refine lv_isub hx hb dc_X_bit_94 ?_
    refine va_put (D := (dC, dI)) (ci := 1) (v := .int (size - (1 : Int32))) (ty := .int) (C := "FourWords") (T := tb_X) (N := 6) hx hb hts (hu _ um_X) ft_X fk_X fn_X hown hK hP hD hS 0 rfl rfl 5 (by decide) (hq mw_t45) (fun _ h9 => h9) rfl (by decide +kernel) rfl rfl (Nat.le_of_ble_eq_true rfl) dc_X_bit_95 (fun H locs hP hD hS => ?_)
    have hP : va_P (dC, dI) cs_3 (wd_X h0 qO qU qW qG qN qL cJ cI cZ cB fO fU fW fG fL len (size - (1 : Int32))) H := hP
    have hD : va_D A (wd_X h0 qO qU qW qG qN qL cJ cI cZ cB fO fU fW fG fL len (size - (1 : Int32))) := hD
    refine W.widen (k := 1) (n := 6) (Nat.zero_le _) (Nat.zero_le _) ?_
    exact vx_ret (W.vret hx hb hr (fun t ht hW => ⟨⟨(fO, fU, fW, fG, fL, len, size - (1 : Int32)), rfl, hw, by rw [ht]; exact hP, va_K.moved hW.alike hK, hD⟩, hS.F ht⟩) hS.2.2 dc_X_bit_98)
  have B_54 : ∀ (H : Heap) (locs : List Loc) (ls : Array Slot) (x1 : Int32) (fO : (Nat → Int64)) (fU : (Nat → Int64)) (fW : (Nat → Int32)) (fG : (Nat → Int32)) (fL : (Nat → Int32)) (len : Int32) (size : Int32), wp_X_bit_54 post px x1 fO fU fW fG fL len size → va_P (dC, dI) cs_3 (wd_X h0 qO qU qW qG qN qL cJ cI cZ cB fO fU fW fG fL len size) H → va_D A (wd_X h0 qO qU qW qG qN qL cJ cI cZ cB fO fU fW fG fL len size) → va_S A s.heap H locs → lv_has ls 5 [(0, .ref h0), (1, .int x1)] → W p l e (headSpec ws_X_bit rm_X_bit).room s m ([.ref h0] : List Value).toArray below meth c H locs 0 0 (vx_MQ below (qv_X dC dI cJ cI cZ cB h0 qO qU qW qG qN qL post A) (qx_X dC dI cJ cI cZ cB h0 qO qU qW qG qN qL px A) ([.ref h0] : List Value).toArray s 1 6 A) (F0 m 54 ls []) := by
    intro H locs ls x1 fO fU fW fG fL len size hw hP hD hS hl
    unfold wp_X_bit_54 at hw
    refine lv_aload_n hx hb dc_X_bit_54 rfl (lv_at hl 0 rfl) ?_
    refine lv_iload_n hx hb dc_X_bit_55 rfl (lv_at hl 1 rfl) ?_
    refine lv_iconst (v := 2) hx hb dc_X_bit_56 (by decide) ?_
    refine gc_v (S := (Nat → Int64) × (Nat → Int64) × (Nat → Int32) × (Nat → Int32) × (Nat → Int32) × Int32 × Int32) (w1 := (fun u => (wd_X h0 qO qU qW qG qN qL cJ cI cZ cB u.1 u.2.1 u.2.2.1 u.2.2.2.1 u.2.2.2.2.1 u.2.2.2.2.2.1 u.2.2.2.2.2.2))) (wc := (wd_X h0 qO qU qW qG qN qL cJ cI cZ cB fO fU fW fG fL len size)) (wr := ([] : va_W)) (va_runV (As := [.int x1, .int (2 : Int32)]) (rest := []) ⟨hx, hb, hml, hown, hts⟩ (kt_X_setTruth l dC dI cJ cI cZ cB h0 qO qU qW qG qN qL _ x1 (2 : Int32) fO fU fW fG fL len size _ hw) ⟨callB_of 2 hts (gw_in mw_t266) rfl rfl rfl (hq mw_t1) (hq mw_t263) (by decide +kernel) ⟨Nat.le_of_ble_eq_true rfl, Nat.le_of_ble_eq_true rfl⟩, hq mw_t265, hq mw_s19⟩ (pv_W (va_recv (q0 := 0) (ci := 1) hK hP rfl rfl) (hP.sub (ws' := (wd_X h0 qO qU qW qG qN qL cJ cI cZ cB fO fU fW fG fL len size)) [0, 1, 2, 3, 4, 5, 6] rfl) hK (hD.sub (ws' := (wd_X h0 qO qU qW qG qN qL cJ cI cZ cB fO fU fW fG fL len size)) [0, 1, 2, 3, 4, 5, 6] (by decide) rfl) hE) rfl rfl hl.1 rfl (lv_room (Nat.le_of_ble_eq_true rfl)) dc_X_bit_57 ⟨Nat.le_of_ble_eq_true rfl, Nat.le_of_ble_eq_true rfl⟩) hP hD hS hA [0, 1, 2, 3, 4, 5, 6] [] rfl rfl (by decide) (by decide) (fun u H locs hw hP hD hS => ?_)
    obtain ⟨fO57, fU57, fW57, fG57, fL57, len57, size57⟩ := u
    have hP : va_P (dC, dI) cs_3 (wd_X h0 qO qU qW qG qN qL cJ cI cZ cB fO57 fU57 fW57 fG57 fL57 len57 size57) H := hP.sub (ws' := (wd_X h0 qO qU qW qG qN qL cJ cI cZ cB fO57 fU57 fW57 fG57 fL57 len57 size57)) [0, 1, 2, 3, 4, 5, 6] rfl
    have hD : va_D A (wd_X h0 qO qU qW qG qN qL cJ cI cZ cB fO57 fU57 fW57 fG57 fL57 len57 size57) := hD.sub (ws' := (wd_X h0 qO qU qW qG qN qL cJ cI cZ cB fO57 fU57 fW57 fG57 fL57 len57 size57)) [0, 1, 2, 3, 4, 5, 6] (by decide) rfl
    try dsimp only at hw
    refine lv_goto (tgt := 88) hx hb dc_X_bit_60 (by decide) ?_
    exact B_88 _ _ _ fO57 fU57 fW57 fG57 fL57 len57 size57 hw hP hD hS (lv_sub hl [0] rfl)
  unfold wp_X_bit at hw
  refine lv_aload_n hx hb dc_X_bit_0 rfl (lv_at hl 0 rfl) ?_
  refine lv_iconst (v := 2) hx hb dc_X_bit_1 (by decide) ?_
  rcases hw with hw | ⟨hw, hpx⟩
  · refine gc_v (S := (Nat → Int64) × (Nat → Int64) × (Nat → Int32) × (Nat → Int32) × (Nat → Int32) × Int32 × Int32) (w1 := (fun u => (wd_X h0 qO qU qW qG qN qL cJ cI cZ cB u.1 u.2.1 u.2.2.1 u.2.2.2.1 u.2.2.2.2.1 u.2.2.2.2.2.1 u.2.2.2.2.2.2))) (wc := (wd_X h0 qO qU qW qG qN qL cJ cI cZ cB fO fU fW fG fL len size)) (wr := ([] : va_W)) (va_runV (As := [.int (2 : Int32)]) (rest := []) ⟨hx, hb, hml, hown, hts⟩ (kt_X_demandValues_k l dC dI cJ cI cZ cB h0 qO qU qW qG qN qL _ (2 : Int32) fO fU fW fG fL len size _ hw) ⟨callB_of 1 hts (gw_in mw_t184) rfl rfl rfl (hq mw_t1) (hq mw_t181) (by decide +kernel) ⟨Nat.le_of_ble_eq_true rfl, Nat.le_of_ble_eq_true rfl⟩, hq mw_t183, hq mw_s4⟩ (pv_W (va_recv (q0 := 0) (ci := 1) hK hP rfl rfl) (hP.sub (ws' := (wd_X h0 qO qU qW qG qN qL cJ cI cZ cB fO fU fW fG fL len size)) [0, 1, 2, 3, 4, 5, 6] rfl) hK (hD.sub (ws' := (wd_X h0 qO qU qW qG qN qL cJ cI cZ cB fO fU fW fG fL len size)) [0, 1, 2, 3, 4, 5, 6] (by decide) rfl) hE) rfl rfl hl.1 rfl (lv_room (Nat.le_of_ble_eq_true rfl)) dc_X_bit_2 ⟨Nat.le_of_ble_eq_true rfl, Nat.le_of_ble_eq_true rfl⟩) hP hD hS hA [0, 1, 2, 3, 4, 5, 6] [] rfl rfl (by decide) (by decide) (fun u H locs hw hP hD hS => ?_)
    obtain ⟨fO2, fU2, fW2, fG2, fL2, len2, size2⟩ := u
    have hP : va_P (dC, dI) cs_3 (wd_X h0 qO qU qW qG qN qL cJ cI cZ cB fO2 fU2 fW2 fG2 fL2 len2 size2) H := hP.sub (ws' := (wd_X h0 qO qU qW qG qN qL cJ cI cZ cB fO2 fU2 fW2 fG2 fL2 len2 size2)) [0, 1, 2, 3, 4, 5, 6] rfl
    have hD : va_D A (wd_X h0 qO qU qW qG qN qL cJ cI cZ cB fO2 fU2 fW2 fG2 fL2 len2 size2) := hD.sub (ws' := (wd_X h0 qO qU qW qG qN qL cJ cI cZ cB fO2 fU2 fW2 fG2 fL2 len2 size2)) [0, 1, 2, 3, 4, 5, 6] (by decide) rfl
    try dsimp only at hw
    refine lv_aload_n hx hb dc_X_bit_5 rfl (lv_at hl 0 rfl) ?_
    refine va_get (D := (dC, dI)) (ci := 1) (v := .int size2) (C := "FourWords") (T := tb_X) (N := 6) hx hb hts (hu _ um_X) hown hK hP 0 rfl rfl 5 (by decide) (hq mw_t45) (fun _ h9 => h9) rfl dc_X_bit_6 ?_
    refine lv_iconst (v := 2) hx hb dc_X_bit_9 (by decide) ?_
    refine lv_isub hx hb dc_X_bit_10 ?_
    refine lv_topi (fun v11 e11 => ?_)
    have hw := hw v11 e11
    refine lv_istore_n (lv' := [(1, .int v11), (0, .ref h0)]) hx hb dc_X_bit_11 rfl hl (Nat.le_of_ble_eq_true rfl) rfl (fun ls hl => ?_)
    refine lv_aload_n hx hb dc_X_bit_12 rfl (lv_at hl 1 rfl) ?_
    refine va_get (D := (dC, dI)) (ci := 1) (v := .int size2) (C := "FourWords") (T := tb_X) (N := 6) hx hb hts (hu _ um_X) hown hK hP 0 rfl rfl 5 (by decide) (hq mw_t45) (fun _ h9 => h9) rfl dc_X_bit_13 ?_
    refine lv_iconst (v := 1) hx hb dc_X_bit_16 (by decide) ?_
    refine lv_isub hx hb dc_X_bit_17 ?_
    refine lv_topi (fun v18 e18 => ?_)
    have hw := hw v18 e18
    refine lv_istore_n (lv' := [(2, .int v18), (1, .int v11), (0, .ref h0)]) hx hb dc_X_bit_18 rfl hl (Nat.le_of_ble_eq_true rfl) rfl (fun ls hl => ?_)
    refine lv_aload_n hx hb dc_X_bit_19 rfl (lv_at hl 2 rfl) ?_
    refine lv_iload_n hx hb dc_X_bit_20 rfl (lv_at hl 0 rfl) ?_
    refine gc_l (S := (Nat → Int64) × (Nat → Int64) × (Nat → Int32) × (Nat → Int32) × (Nat → Int32) × Int32 × Int32) (w1 := (fun u => (wd_X h0 qO qU qW qG qN qL cJ cI cZ cB u.1 u.2.1 u.2.2.1 u.2.2.2.1 u.2.2.2.2.1 u.2.2.2.2.2.1 u.2.2.2.2.2.2))) (wc := (wd_X h0 qO qU qW qG qN qL cJ cI cZ cB fO2 fU2 fW2 fG2 fL2 len2 size2)) (wr := ([] : va_W)) (va_runV (As := [.int v18]) (rest := []) ⟨hx, hb, hml, hown, hts⟩ (kt_X_number l dC dI cJ cI cZ cB h0 qO qU qW qG qN qL _ v18 fO2 fU2 fW2 fG2 fL2 len2 size2 _ hw) ⟨callB_of 1 hts (gw_in mw_t207) rfl rfl rfl (hq mw_t1) (hq mw_t204) (by decide +kernel) ⟨Nat.le_of_ble_eq_true rfl, Nat.le_of_ble_eq_true rfl⟩, hq mw_t206, hq mw_s8⟩ (pv_W (va_recv (q0 := 0) (ci := 1) hK hP rfl rfl) (hP.sub (ws' := (wd_X h0 qO qU qW qG qN qL cJ cI cZ cB fO2 fU2 fW2 fG2 fL2 len2 size2)) [0, 1, 2, 3, 4, 5, 6] rfl) hK (hD.sub (ws' := (wd_X h0 qO qU qW qG qN qL cJ cI cZ cB fO2 fU2 fW2 fG2 fL2 len2 size2)) [0, 1, 2, 3, 4, 5, 6] (by decide) rfl) hE) rfl rfl hl.1 rfl (lv_room (Nat.le_of_ble_eq_true rfl)) dc_X_bit_21 ⟨Nat.le_of_ble_eq_true rfl, Nat.le_of_ble_eq_true rfl⟩) hP hD hS hA [0, 1, 2, 3, 4, 5, 6] [] rfl rfl (by decide) (by decide) (fun r21 u H locs hw hP hD hS => ?_)
    obtain ⟨fO21, fU21, fW21, fG21, fL21, len21, size21⟩ := u
    have hP : va_P (dC, dI) cs_3 (wd_X h0 qO qU qW qG qN qL cJ cI cZ cB fO21 fU21 fW21 fG21 fL21 len21 size21) H := hP.sub (ws' := (wd_X h0 qO qU qW qG qN qL cJ cI cZ cB fO21 fU21 fW21 fG21 fL21 len21 size21)) [0, 1, 2, 3, 4, 5, 6] rfl
    have hD : va_D A (wd_X h0 qO qU qW qG qN qL cJ cI cZ cB fO21 fU21 fW21 fG21 fL21 len21 size21) := hD.sub (ws' := (wd_X h0 qO qU qW qG qN qL cJ cI cZ cB fO21 fU21 fW21 fG21 fL21 len21 size21)) [0, 1, 2, 3, 4, 5, 6] (by decide) rfl
    try dsimp only at hw
    refine lv_lstore_n (lv' := [(3, .long r21), (2, .int v18), (1, .int v11), (0, .ref h0)]) hx hb dc_X_bit_24 rfl hl (Nat.le_of_ble_eq_true rfl) rfl (fun ls hl => ?_)
    refine lv_aload_n hx hb dc_X_bit_25 rfl (lv_at hl 3 rfl) ?_
    refine va_get (D := (dC, dI)) (ci := 1) (v := .ref qU) (C := "FourWords") (T := tb_X) (N := 6) hx hb hts (hu _ um_X) hown hK hP 0 rfl rfl 1 (by decide) (hq mw_t41) (fun _ h9 => h9) rfl dc_X_bit_26 ?_
    refine lv_iload_n hx hb dc_X_bit_29 rfl (lv_at hl 1 rfl) ?_
    obtain ⟨hin, hw⟩ := hw
    refine va_lald hx hb hK hP 2 0 rfl rfl hin dc_X_bit_30 ?_
    refine lv_lconst (v := 0) hx hb dc_X_bit_31 (by decide) ?_
    refine W.lcmp hx hb dc_X_bit_32 ?_
    obtain ⟨hw1, hw2⟩ := hw
    refine lv_if_ne (tgt := 54) hx hb dc_X_bit_33 (by decide) (fun hc => ?_) (fun hc => ?_)
    · have hw := hw1 hc
      clear hw1 hw2
      exact B_54 _ _ _ v11 fO21 fU21 fW21 fG21 fL21 len21 size21 hw hP hD hS (lv_sub hl [3, 2] rfl)
    · have hw := hw2 (fun h9 => h9 hc)
      clear hw1 hw2
      refine lv_lload_n hx hb dc_X_bit_36 rfl (lv_at hl 0 rfl) ?_
      refine lv_lconst (v := 0) hx hb dc_X_bit_37 (by decide) ?_
      refine W.lcmp hx hb dc_X_bit_38 ?_
      obtain ⟨hw1, hw2⟩ := hw
      refine lv_if_lt (tgt := 54) hx hb dc_X_bit_39 (by decide) (fun hc => ?_) (fun hc => ?_)
      · have hw := hw1 hc
        clear hw1 hw2
        exact B_54 _ _ _ v11 fO21 fU21 fW21 fG21 fL21 len21 size21 hw hP hD hS (lv_sub hl [3, 2] rfl)
      · have hw := hw2 hc
        clear hw1 hw2
        refine lv_lload_n hx hb dc_X_bit_42 rfl (lv_at hl 0 rfl) ?_
        refine lv_aload_n hx hb dc_X_bit_43 rfl (lv_at hl 3 rfl) ?_
        refine va_get (D := (dC, dI)) (ci := 1) (v := .ref qW) (C := "FourWords") (T := tb_X) (N := 6) hx hb hts (hu _ um_X) hown hK hP 0 rfl rfl 2 (by decide) (hq mw_t42) (fun _ h9 => h9) rfl dc_X_bit_44 ?_
        refine lv_iload_n hx hb dc_X_bit_47 rfl (lv_at hl 2 rfl) ?_
        obtain ⟨hin, hw⟩ := hw
        refine va_iald hx hb hK hP 3 1 rfl rfl hin dc_X_bit_48 ?_
        refine lv_i2l hx hb dc_X_bit_49 rfl ?_
        refine W.lcmp hx hb dc_X_bit_50 ?_
        obtain ⟨hw1, hw2⟩ := hw
        refine lv_if_lt (tgt := 63) hx hb dc_X_bit_51 (by decide) (fun hc => ?_) (fun hc => ?_)
        · have hw := hw1 hc
          clear hw1 hw2
          refine lv_aload_n hx hb dc_X_bit_63 rfl (lv_at hl 3 rfl) ?_
          refine lv_iload_n hx hb dc_X_bit_64 rfl (lv_at hl 2 rfl) ?_
          refine lv_aload_n hx hb dc_X_bit_65 rfl (lv_at hl 3 rfl) ?_
          refine va_get (D := (dC, dI)) (ci := 1) (v := .ref qO) (C := "FourWords") (T := tb_X) (N := 6) hx hb hts (hu _ um_X) hown hK hP 0 rfl rfl 0 (by decide) (hq mw_t40) (fun _ h9 => h9) rfl dc_X_bit_66 ?_
          refine lv_iload_n hx hb dc_X_bit_69 rfl (lv_at hl 2 rfl) ?_
          obtain ⟨hin, hw⟩ := hw
          refine va_lald hx hb hK hP 1 0 rfl rfl hin dc_X_bit_70 ?_
          refine lv_lload_n hx hb dc_X_bit_71 rfl (lv_at hl 0 rfl) ?_
          refine lv_l2i hx hb dc_X_bit_72 rfl ?_
          refine lv_lushr hx hb dc_X_bit_73 rfl ?_
          refine lv_aload_n hx hb dc_X_bit_74 rfl (lv_at hl 3 rfl) ?_
          refine va_get (D := (dC, dI)) (ci := 1) (v := .ref qU) (C := "FourWords") (T := tb_X) (N := 6) hx hb hts (hu _ um_X) hown hK hP 0 rfl rfl 1 (by decide) (hq mw_t41) (fun _ h9 => h9) rfl dc_X_bit_75 ?_
          refine lv_iload_n hx hb dc_X_bit_78 rfl (lv_at hl 2 rfl) ?_
          obtain ⟨hin, hw⟩ := hw
          refine va_lald hx hb hK hP 2 0 rfl rfl hin dc_X_bit_79 ?_
          refine lv_lload_n hx hb dc_X_bit_80 rfl (lv_at hl 0 rfl) ?_
          refine lv_l2i hx hb dc_X_bit_81 rfl ?_
          refine lv_lushr hx hb dc_X_bit_82 rfl ?_
          refine lv_iconst (v := 1) hx hb dc_X_bit_83 (by decide) ?_
          refine lv_iconst (v := 0) hx hb dc_X_bit_84 (by decide) ?_
          refine gc_v (S := (Nat → Int64) × (Nat → Int64) × (Nat → Int32) × (Nat → Int32) × (Nat → Int32) × Int32 × Int32) (w1 := (fun u => (wd_X h0 qO qU qW qG qN qL cJ cI cZ cB u.1 u.2.1 u.2.2.1 u.2.2.2.1 u.2.2.2.2.1 u.2.2.2.2.2.1 u.2.2.2.2.2.2))) (wc := (wd_X h0 qO qU qW qG qN qL cJ cI cZ cB fO21 fU21 fW21 fG21 fL21 len21 size21)) (wr := ([] : va_W)) (va_runV (As := [.int v11, .long (((fO21 v11.toNatClampNeg).toUInt64 >>> (r21.toInt32.toInt64.toUInt64 &&& Int64.toUInt64 63)).toInt64), .long (((fU21 v11.toNatClampNeg).toUInt64 >>> (r21.toInt32.toInt64.toUInt64 &&& Int64.toUInt64 63)).toInt64), .int (1 : Int32), .int (0 : Int32)]) (rest := []) ⟨hx, hb, hml, hown, hts⟩ (kt_X_setValue l dC dI cJ cI cZ cB h0 qO qU qW qG qN qL _ v11 (((fO21 v11.toNatClampNeg).toUInt64 >>> (r21.toInt32.toInt64.toUInt64 &&& Int64.toUInt64 63)).toInt64) (((fU21 v11.toNatClampNeg).toUInt64 >>> (r21.toInt32.toInt64.toUInt64 &&& Int64.toUInt64 63)).toInt64) (1 : Int32) (0 : Int32) fO21 fU21 fW21 fG21 fL21 len21 size21 _ hw) ⟨callB_of 5 hts (gw_in mw_t165) rfl rfl rfl (hq mw_t1) (hq mw_t162) (by decide +kernel) ⟨Nat.le_of_ble_eq_true rfl, Nat.le_of_ble_eq_true rfl⟩, hq mw_t164, hq mw_s2⟩ (pv_W (va_recv (q0 := 0) (ci := 1) hK hP rfl rfl) (hP.sub (ws' := (wd_X h0 qO qU qW qG qN qL cJ cI cZ cB fO21 fU21 fW21 fG21 fL21 len21 size21)) [0, 1, 2, 3, 4, 5, 6] rfl) hK (hD.sub (ws' := (wd_X h0 qO qU qW qG qN qL cJ cI cZ cB fO21 fU21 fW21 fG21 fL21 len21 size21)) [0, 1, 2, 3, 4, 5, 6] (by decide) rfl) hE) rfl rfl hl.1 rfl (lv_room (Nat.le_of_ble_eq_true rfl)) dc_X_bit_85 ⟨Nat.le_of_ble_eq_true rfl, Nat.le_of_ble_eq_true rfl⟩) hP hD hS hA [0, 1, 2, 3, 4, 5, 6] [] rfl rfl (by decide) (by decide) (fun u H locs hw hP hD hS => ?_)
          obtain ⟨fO85, fU85, fW85, fG85, fL85, len85, size85⟩ := u
          have hP : va_P (dC, dI) cs_3 (wd_X h0 qO qU qW qG qN qL cJ cI cZ cB fO85 fU85 fW85 fG85 fL85 len85 size85) H := hP.sub (ws' := (wd_X h0 qO qU qW qG qN qL cJ cI cZ cB fO85 fU85 fW85 fG85 fL85 len85 size85)) [0, 1, 2, 3, 4, 5, 6] rfl
          have hD : va_D A (wd_X h0 qO qU qW qG qN qL cJ cI cZ cB fO85 fU85 fW85 fG85 fL85 len85 size85) := hD.sub (ws' := (wd_X h0 qO qU qW qG qN qL cJ cI cZ cB fO85 fU85 fW85 fG85 fL85 len85 size85)) [0, 1, 2, 3, 4, 5, 6] (by decide) rfl
          try dsimp only at hw
          exact B_88 _ _ _ fO85 fU85 fW85 fG85 fL85 len85 size85 hw hP hD hS (lv_sub hl [3] rfl)
        · have hw := hw2 hc
          clear hw1 hw2
          exact B_54 _ _ _ v11 fO21 fU21 fW21 fG21 fL21 len21 size21 hw hP hD hS (lv_sub hl [3, 2] rfl)
  · exact gx_T (E0 := "java/lang/IllegalStateException") (u := (fO, fU, fW, fG, fL, len, size)) (wc := (wd_X h0 qO qU qW qG qN qL cJ cI cZ cB fO fU fW fG fL len size)) (wr := ([] : va_W)) (vx_runV (As := [.int (2 : Int32)]) (rest := []) ⟨hx, hb, hml, hown, hts⟩ (kt_X_demandValues_t l hlt dC dI cJ cI cZ cB h0 qO qU qW qG qN qL _ (2 : Int32) fO fU fW fG fL len size hw) ⟨callB_of 1 hts (gw_in mw_t184) rfl rfl rfl (hq mw_t1) (hq mw_t181) (by decide +kernel) ⟨Nat.le_of_ble_eq_true rfl, Nat.le_of_ble_eq_true rfl⟩, hq mw_t183, hq mw_s4⟩ (pq_W (va_recv (q0 := 0) (ci := 1) hK hP rfl rfl) (hP.sub (ws' := (wd_X h0 qO qU qW qG qN qL cJ cI cZ cB fO fU fW fG fL len size)) [0, 1, 2, 3, 4, 5, 6] rfl) hK (hD.sub (ws' := (wd_X h0 qO qU qW qG qN qL cJ cI cZ cB fO fU fW fG fL len size)) [0, 1, 2, 3, 4, 5, 6] (by decide) rfl) hE (zz_W hZ hS (va_free (wc := (wd_X h0 qO qU qW qG qN qL cJ cI cZ cB fO fU fW fG fL len size)) hD hS hA [0, 1, 2, 3, 4, 5, 6] rfl))) rfl rfl hl.1 rfl (lv_room (Nat.le_of_ble_eq_true rfl)) dc_X_bit_2 ⟨Nat.le_of_ble_eq_true rfl, Nat.le_of_ble_eq_true rfl⟩) hP hK hD hS hA [0, 1, 2, 3, 4, 5, 6] [] rfl rfl (by decide) (by decide) [0, 1, 2, 3, 4, 5, 6] rfl rfl (by decide) htab hlocks hpx rfl
set_option maxHeartbeats 4000000 in
set_option maxRecDepth 100000 in
theorem kt_X_as (l : Launch) (hlt : l.stackTraces = false) (dC : Nat → ClassId) (dI : Nat → Nat → Nat) (cJ cI cZ cB : ClassId) (h0 qO qU qW qG qN qL : Nat) (sz : Nat) (a1 : Int32) (a2 : Int32) (fO : (Nat → Int64)) (fU : (Nat → Int64)) (fW : (Nat → Int32)) (fG : (Nat → Int32)) (fL : (Nat → Int32)) (len : Int32) (size : Int32) (post : (Nat → Int64) → (Nat → Int64) → (Nat → Int32) → (Nat → Int32) → (Nat → Int32) → Int32 → Int32 → Prop) (px : String → (Nat → Int64) → (Nat → Int64) → (Nat → Int32) → (Nat → Int32) → (Nat → Int32) → Int32 → Int32 → Prop) (hw : wp_X_as post px a1 a2 fO fU fW fG fL len size) : vx_Met l yn_X_as ws_X_as rm_X_as (va_Pc [.ref h0, .int a1, .int a2] (pc_Z (dC, dI) (ty_4 cJ cI cZ cB) (wd_X h0 qO qU qW qG qN qL cJ cI cZ cB fO fU fW fG fL len size) sz)) (qv_X dC dI cJ cI cZ cB h0 qO qU qW qG qN qL post (va_A (wd_X h0 qO qU qW qG qN qL cJ cI cZ cB fO fU fW fG fL len size) sz)) (qx_X dC dI cJ cI cZ cB h0 qO qU qW qG qN qL px (va_A (wd_X h0 qO qU qW qG qN qL cJ cI cZ cB fO fU fW fG fL len size) sz)) 1 6 (va_A (wd_X h0 qO qU qW qG qN qL cJ cI cZ cB fO fU fW fG fL len size) sz) := by
  refine vx_ofW (cc := cd_X_as) (maxL := 4) (ret := none) (by decide) rfl ?_
  intro p e s m args below meth c s₁ B hml htab hv
  obtain ⟨rfl, ⟨hsz, hP, hK, hD0, hE⟩, hZ⟩ := hv
  have hx := B.exec
  have hb := B.bytes
  have hr := B.returns
  have hts := atoms_spec (ws := ws_X_as) B.pre
  have hq : ∀ {w : Cond}, w ∈ wg_all → w.before ([.ref h0, .int a1, .int a2] : List Value).toArray s = true := fun h => hts _ (List.mem_cons_of_mem _ h)
  have hu : ∀ L : List Cond, (∀ w ∈ L, w ∈ wg_all) → ∀ w ∈ L, w ∈ ws_X_as := fun L h w hw => List.mem_cons_of_mem _ (h w hw)
  have hown : s.vm.findClass "FourWords" = some m.cls := findClass_of_methodNamed B.named
  have hlocks := B.notSynchronized
  subst hsz
  have hD := hD0.self (sz := s.heap.size)
  generalize hAe : va_A (wd_X h0 qO qU qW qG qN qL cJ cI cZ cB fO fU fW fG fL len size) s.heap.size = A at hD hZ ⊢
  have hA : ∀ q : Nat, s.heap.size ≤ q → A q := fun q h => by rw [← hAe]; exact Or.inr h
  have hS : va_S A s.heap s.heap [] := va_S.rf
  have hl := lv_entry [.ref h0, .int a1, .int a2] (n := 4) (Nat.le_of_ble_eq_true rfl)
  rw [lg_entry_eq]
  generalize (lg_sl [.ref h0, .int a1, .int a2] ++ List.replicate (4 - (lg_sl [.ref h0, .int a1, .int a2]).length) Slot.unset).toArray = ls at hl ⊢
  have hl : lv_has ls 4 [(0, .ref h0), (1, .int a1), (2, .int a2)] := hl
  unfold wp_X_as at hw
  refine lv_iload_n hx hb dc_X_as_0 rfl (lv_at hl 1 rfl) ?_
  refine lv_iconst (v := 1) hx hb dc_X_as_1 (by decide) ?_
  refine lv_bipush (v := 64) hx hb dc_X_as_2 (by decide) ?_
  rcases hw with hw | ⟨hw, hpx⟩
  · refine gc_v (S := Unit) (w1 := (fun u => ([] : va_W))) (wc := ([] : va_W)) (wr := ([(h0, .inr (1, [.ref qO, .ref qU, .ref qW, .ref qG, .ref qN, .int size])), (qO, .inl (cJ, 64, .inr (.inl fO))), (qU, .inl (cJ, 64, .inr (.inl fU))), (qW, .inl (cI, 64, .inl fW)), (qG, .inl (cZ, 64, .inl fG)), (qN, .inr (0, [.ref qL, .int len])), (qL, .inl (cB, 64, .inl fL))] : va_W)) (va_runS (As := [.int a1, .int (1 : Int32), .int (64 : Int32)]) (rest := []) ⟨hx, hb, hml, hown, hts⟩ (kt_X_demandRange_k l dC dI cJ cI cZ cB _ a1 (1 : Int32) (64 : Int32) _ hw) ⟨callB_of 3 hts (gw_in mw_t74) rfl rfl rfl (hq mw_t1) (hq mw_t72) (by decide +kernel) ⟨Nat.le_of_ble_eq_true rfl, Nat.le_of_ble_eq_true rfl⟩, hq mw_t73⟩ (ps_W (hP.sub (ws' := ([] : va_W)) [] rfl) hK (hD.sub (ws' := ([] : va_W)) [] (by decide) rfl) hE) rfl rfl hl.1 rfl (lv_room (Nat.le_of_ble_eq_true rfl)) dc_X_as_4 ⟨Nat.le_of_ble_eq_true rfl, Nat.le_of_ble_eq_true rfl⟩) hP hD hS hA [] [0, 1, 2, 3, 4, 5, 6] rfl rfl (by decide) (by decide) (fun u H locs hw hP hD hS => ?_)
    have hP : va_P (dC, dI) cs_3 (wd_X h0 qO qU qW qG qN qL cJ cI cZ cB fO fU fW fG fL len size) H := hP.sub (ws' := (wd_X h0 qO qU qW qG qN qL cJ cI cZ cB fO fU fW fG fL len size)) [0, 1, 2, 3, 4, 5, 6] rfl
    have hD : va_D A (wd_X h0 qO qU qW qG qN qL cJ cI cZ cB fO fU fW fG fL len size) := hD.sub (ws' := (wd_X h0 qO qU qW qG qN qL cJ cI cZ cB fO fU fW fG fL len size)) [0, 1, 2, 3, 4, 5, 6] (by decide) rfl
    try dsimp only at hw
    refine lv_aload_n hx hb dc_X_as_7 rfl (lv_at hl 0 rfl) ?_
    refine lv_iconst (v := 1) hx hb dc_X_as_8 (by decide) ?_
    rcases hw with hw | ⟨hw, hpx⟩
    · refine gc_v (S := (Nat → Int64) × (Nat → Int64) × (Nat → Int32) × (Nat → Int32) × (Nat → Int32) × Int32 × Int32) (w1 := (fun u => (wd_X h0 qO qU qW qG qN qL cJ cI cZ cB u.1 u.2.1 u.2.2.1 u.2.2.2.1 u.2.2.2.2.1 u.2.2.2.2.2.1 u.2.2.2.2.2.2))) (wc := (wd_X h0 qO qU qW qG qN qL cJ cI cZ cB fO fU fW fG fL len size)) (wr := ([] : va_W)) (va_runV (As := [.int (1 : Int32)]) (rest := []) ⟨hx, hb, hml, hown, hts⟩ (kt_X_demandValues_k l dC dI cJ cI cZ cB h0 qO qU qW qG qN qL _ (1 : Int32) fO fU fW fG fL len size _ hw) ⟨callB_of 1 hts (gw_in mw_t184) rfl rfl rfl (hq mw_t1) (hq mw_t181) (by decide +kernel) ⟨Nat.le_of_ble_eq_true rfl, Nat.le_of_ble_eq_true rfl⟩, hq mw_t183, hq mw_s4⟩ (pv_W (va_recv (q0 := 0) (ci := 1) hK hP rfl rfl) (hP.sub (ws' := (wd_X h0 qO qU qW qG qN qL cJ cI cZ cB fO fU fW fG fL len size)) [0, 1, 2, 3, 4, 5, 6] rfl) hK (hD.sub (ws' := (wd_X h0 qO qU qW qG qN qL cJ cI cZ cB fO fU fW fG fL len size)) [0, 1, 2, 3, 4, 5, 6] (by decide) rfl) hE) rfl rfl hl.1 rfl (lv_room (Nat.le_of_ble_eq_true rfl)) dc_X_as_9 ⟨Nat.le_of_ble_eq_true rfl, Nat.le_of_ble_eq_true rfl⟩) hP hD hS hA [0, 1, 2, 3, 4, 5, 6] [] rfl rfl (by decide) (by decide) (fun u H locs hw hP hD hS => ?_)
      obtain ⟨fO9, fU9, fW9, fG9, fL9, len9, size9⟩ := u
      have hP : va_P (dC, dI) cs_3 (wd_X h0 qO qU qW qG qN qL cJ cI cZ cB fO9 fU9 fW9 fG9 fL9 len9 size9) H := hP.sub (ws' := (wd_X h0 qO qU qW qG qN qL cJ cI cZ cB fO9 fU9 fW9 fG9 fL9 len9 size9)) [0, 1, 2, 3, 4, 5, 6] rfl
      have hD : va_D A (wd_X h0 qO qU qW qG qN qL cJ cI cZ cB fO9 fU9 fW9 fG9 fL9 len9 size9) := hD.sub (ws' := (wd_X h0 qO qU qW qG qN qL cJ cI cZ cB fO9 fU9 fW9 fG9 fL9 len9 size9)) [0, 1, 2, 3, 4, 5, 6] (by decide) rfl
      try dsimp only at hw
      refine lv_aload_n hx hb dc_X_as_12 rfl (lv_at hl 0 rfl) ?_
      refine va_get (D := (dC, dI)) (ci := 1) (v := .int size9) (C := "FourWords") (T := tb_X) (N := 6) hx hb hts (hu _ um_X) hown hK hP 0 rfl rfl 5 (by decide) (hq mw_t45) (fun _ h9 => h9) rfl dc_X_as_13 ?_
      refine lv_iconst (v := 1) hx hb dc_X_as_16 (by decide) ?_
      refine lv_isub hx hb dc_X_as_17 ?_
      refine lv_topi (fun v18 e18 => ?_)
      have hw := hw v18 e18
      refine lv_istore_n (lv' := [(3, .int v18), (0, .ref h0), (1, .int a1), (2, .int a2)]) hx hb dc_X_as_18 rfl hl (Nat.le_of_ble_eq_true rfl) rfl (fun ls hl => ?_)
      refine lv_aload_n hx hb dc_X_as_19 rfl (lv_at hl 1 rfl) ?_
      refine lv_iload_n hx hb dc_X_as_20 rfl (lv_at hl 0 rfl) ?_
      refine lv_iload_n hx hb dc_X_as_21 rfl (lv_at hl 2 rfl) ?_
      refine lv_aload_n hx hb dc_X_as_22 rfl (lv_at hl 1 rfl) ?_
      refine va_get (D := (dC, dI)) (ci := 1) (v := .ref qG) (C := "FourWords") (T := tb_X) (N := 6) hx hb hts (hu _ um_X) hown hK hP 0 rfl rfl 3 (by decide) (hq mw_t43) (fun _ h9 => h9) rfl dc_X_as_23 ?_
      refine lv_iload_n hx hb dc_X_as_26 rfl (lv_at hl 0 rfl) ?_
      obtain ⟨hin, hw⟩ := hw
      refine va_zald hx hb hK hP 4 2 rfl rfl hin dc_X_as_27 ?_
      refine gc_v (S := (Nat → Int64) × (Nat → Int64) × (Nat → Int32) × (Nat → Int32) × (Nat → Int32) × Int32 × Int32) (w1 := (fun u => (wd_X h0 qO qU qW qG qN qL cJ cI cZ cB u.1 u.2.1 u.2.2.1 u.2.2.2.1 u.2.2.2.2.1 u.2.2.2.2.2.1 u.2.2.2.2.2.2))) (wc := (wd_X h0 qO qU qW qG qN qL cJ cI cZ cB fO9 fU9 fW9 fG9 fL9 len9 size9)) (wr := ([] : va_W)) (va_runV (As := [.int v18, .int a1, .int (fG9 v18.toNatClampNeg)]) (rest := []) ⟨hx, hb, hml, hown, hts⟩ (kt_X_setWidth l dC dI cJ cI cZ cB h0 qO qU qW qG qN qL _ v18 a1 (fG9 v18.toNatClampNeg) fO9 fU9 fW9 fG9 fL9 len9 size9 _ hw) ⟨callB_of 3 hts (gw_in mw_t196) rfl rfl rfl (hq mw_t1) (hq mw_t193) (by decide +kernel) ⟨Nat.le_of_ble_eq_true rfl, Nat.le_of_ble_eq_true rfl⟩, hq mw_t195, hq mw_s6⟩ (pv_W (va_recv (q0 := 0) (ci := 1) hK hP rfl rfl) (hP.sub (ws' := (wd_X h0 qO qU qW qG qN qL cJ cI cZ cB fO9 fU9 fW9 fG9 fL9 len9 size9)) [0, 1, 2, 3, 4, 5, 6] rfl) hK (hD.sub (ws' := (wd_X h0 qO qU qW qG qN qL cJ cI cZ cB fO9 fU9 fW9 fG9 fL9 len9 size9)) [0, 1, 2, 3, 4, 5, 6] (by decide) rfl) hE) rfl rfl hl.1 rfl (lv_room (Nat.le_of_ble_eq_true rfl)) dc_X_as_28 ⟨Nat.le_of_ble_eq_true rfl, Nat.le_of_ble_eq_true rfl⟩) hP hD hS hA [0, 1, 2, 3, 4, 5, 6] [] rfl rfl (by decide) (by decide) (fun u H locs hw hP hD hS => ?_)
      obtain ⟨fO28, fU28, fW28, fG28, fL28, len28, size28⟩ := u
      have hP : va_P (dC, dI) cs_3 (wd_X h0 qO qU qW qG qN qL cJ cI cZ cB fO28 fU28 fW28 fG28 fL28 len28 size28) H := hP.sub (ws' := (wd_X h0 qO qU qW qG qN qL cJ cI cZ cB fO28 fU28 fW28 fG28 fL28 len28 size28)) [0, 1, 2, 3, 4, 5, 6] rfl
      have hD : va_D A (wd_X h0 qO qU qW qG qN qL cJ cI cZ cB fO28 fU28 fW28 fG28 fL28 len28 size28) := hD.sub (ws' := (wd_X h0 qO qU qW qG qN qL cJ cI cZ cB fO28 fU28 fW28 fG28 fL28 len28 size28)) [0, 1, 2, 3, 4, 5, 6] (by decide) rfl
      try dsimp only at hw
      refine lv_aload_n hx hb dc_X_as_31 rfl (lv_at hl 1 rfl) ?_
      refine va_get (D := (dC, dI)) (ci := 1) (v := .ref qG) (C := "FourWords") (T := tb_X) (N := 6) hx hb hts (hu _ um_X) hown hK hP 0 rfl rfl 3 (by decide) (hq mw_t43) (fun _ h9 => h9) rfl dc_X_as_32 ?_
      refine lv_iload_n hx hb dc_X_as_35 rfl (lv_at hl 0 rfl) ?_
      refine lv_iload_n hx hb dc_X_as_36 rfl (lv_at hl 3 rfl) ?_
      obtain ⟨hin, hw⟩ := hw
      refine va_zast hx hb hK hP hD hS 4 2 rfl rfl hin dc_X_as_37 (fun H locs hP hD hS => ?_)
      have hP : va_P (dC, dI) cs_3 (wd_X h0 qO qU qW qG qN qL cJ cI cZ cB fO28 fU28 fW28 (upd fG28 v18.toNatClampNeg (vp_nar .boolean a2)) fL28 len28 size28) H := hP
      have hD : va_D A (wd_X h0 qO qU qW qG qN qL cJ cI cZ cB fO28 fU28 fW28 (upd fG28 v18.toNatClampNeg (vp_nar .boolean a2)) fL28 len28 size28) := hD
      refine W.widen (k := 1) (n := 6) (Nat.zero_le _) (Nat.zero_le _) ?_
      exact vx_ret (W.vret hx hb hr (fun t ht hW => ⟨⟨(fO28, fU28, fW28, upd fG28 v18.toNatClampNeg (vp_nar .boolean a2), fL28, len28, size28), rfl, hw, by rw [ht]; exact hP, va_K.moved hW.alike hK, hD⟩, hS.F ht⟩) hS.2.2 dc_X_as_38)
    · exact gx_T (E0 := "java/lang/IllegalStateException") (u := (fO, fU, fW, fG, fL, len, size)) (wc := (wd_X h0 qO qU qW qG qN qL cJ cI cZ cB fO fU fW fG fL len size)) (wr := ([] : va_W)) (vx_runV (As := [.int (1 : Int32)]) (rest := []) ⟨hx, hb, hml, hown, hts⟩ (kt_X_demandValues_t l hlt dC dI cJ cI cZ cB h0 qO qU qW qG qN qL _ (1 : Int32) fO fU fW fG fL len size hw) ⟨callB_of 1 hts (gw_in mw_t184) rfl rfl rfl (hq mw_t1) (hq mw_t181) (by decide +kernel) ⟨Nat.le_of_ble_eq_true rfl, Nat.le_of_ble_eq_true rfl⟩, hq mw_t183, hq mw_s4⟩ (pq_W (va_recv (q0 := 0) (ci := 1) hK hP rfl rfl) (hP.sub (ws' := (wd_X h0 qO qU qW qG qN qL cJ cI cZ cB fO fU fW fG fL len size)) [0, 1, 2, 3, 4, 5, 6] rfl) hK (hD.sub (ws' := (wd_X h0 qO qU qW qG qN qL cJ cI cZ cB fO fU fW fG fL len size)) [0, 1, 2, 3, 4, 5, 6] (by decide) rfl) hE (zz_W hZ hS (va_free (wc := (wd_X h0 qO qU qW qG qN qL cJ cI cZ cB fO fU fW fG fL len size)) hD hS hA [0, 1, 2, 3, 4, 5, 6] rfl))) rfl rfl hl.1 rfl (lv_room (Nat.le_of_ble_eq_true rfl)) dc_X_as_9 ⟨Nat.le_of_ble_eq_true rfl, Nat.le_of_ble_eq_true rfl⟩) hP hK hD hS hA [0, 1, 2, 3, 4, 5, 6] [] rfl rfl (by decide) (by decide) [0, 1, 2, 3, 4, 5, 6] rfl rfl (by decide) htab hlocks hpx rfl
  · exact gx_T (E0 := "java/lang/IllegalArgumentException") (u := (fO, fU, fW, fG, fL, len, size)) (wc := ([] : va_W)) (wr := ([(h0, .inr (1, [.ref qO, .ref qU, .ref qW, .ref qG, .ref qN, .int size])), (qO, .inl (cJ, 64, .inr (.inl fO))), (qU, .inl (cJ, 64, .inr (.inl fU))), (qW, .inl (cI, 64, .inl fW)), (qG, .inl (cZ, 64, .inl fG)), (qN, .inr (0, [.ref qL, .int len])), (qL, .inl (cB, 64, .inl fL))] : va_W)) (vx_runS (As := [.int a1, .int (1 : Int32), .int (64 : Int32)]) (rest := []) ⟨hx, hb, hml, hown, hts⟩ (kt_X_demandRange_t l hlt dC dI cJ cI cZ cB _ a1 (1 : Int32) (64 : Int32) hw) ⟨callB_of 3 hts (gw_in mw_t74) rfl rfl rfl (hq mw_t1) (hq mw_t72) (by decide +kernel) ⟨Nat.le_of_ble_eq_true rfl, Nat.le_of_ble_eq_true rfl⟩, hq mw_t73⟩ (pz_W (hP.sub (ws' := ([] : va_W)) [] rfl) hK (hD.sub (ws' := ([] : va_W)) [] (by decide) rfl) hE (zz_W hZ hS (va_free (wc := ([] : va_W)) hD hS hA [] rfl))) rfl rfl hl.1 rfl (lv_room (Nat.le_of_ble_eq_true rfl)) dc_X_as_4 ⟨Nat.le_of_ble_eq_true rfl, Nat.le_of_ble_eq_true rfl⟩) hP hK hD hS hA [] [0, 1, 2, 3, 4, 5, 6] rfl rfl (by decide) (by decide) [0, 1, 2, 3, 4, 5, 6] rfl rfl (by decide) htab hlocks hpx rfl
set_option maxHeartbeats 4000000 in
set_option maxRecDepth 100000 in
theorem kt_X_again (l : Launch) (hlt : l.stackTraces = false) (dC : Nat → ClassId) (dI : Nat → Nat → Nat) (cJ cI cZ cB : ClassId) (h0 qO qU qW qG qN qL : Nat) (sz : Nat) (a1 : Int32) (fO : (Nat → Int64)) (fU : (Nat → Int64)) (fW : (Nat → Int32)) (fG : (Nat → Int32)) (fL : (Nat → Int32)) (len : Int32) (size : Int32) (post : (Nat → Int64) → (Nat → Int64) → (Nat → Int32) → (Nat → Int32) → (Nat → Int32) → Int32 → Int32 → Prop) (px : String → (Nat → Int64) → (Nat → Int64) → (Nat → Int32) → (Nat → Int32) → (Nat → Int32) → Int32 → Int32 → Prop) (hw : wp_X_again post px a1 fO fU fW fG fL len size) : vx_Met l yn_X_again ws_X_again rm_X_again (va_Pc [.ref h0, .int a1] (pc_Z (dC, dI) (ty_4 cJ cI cZ cB) (wd_X h0 qO qU qW qG qN qL cJ cI cZ cB fO fU fW fG fL len size) sz)) (qv_X dC dI cJ cI cZ cB h0 qO qU qW qG qN qL post (va_A (wd_X h0 qO qU qW qG qN qL cJ cI cZ cB fO fU fW fG fL len size) sz)) (qx_X dC dI cJ cI cZ cB h0 qO qU qW qG qN qL px (va_A (wd_X h0 qO qU qW qG qN qL cJ cI cZ cB fO fU fW fG fL len size) sz)) 1 6 (va_A (wd_X h0 qO qU qW qG qN qL cJ cI cZ cB fO fU fW fG fL len size) sz) := by
  refine vx_ofW (cc := cd_X_again) (maxL := 2) (ret := none) (by decide) rfl ?_
  intro p e s m args below meth c s₁ B hml htab hv
  obtain ⟨rfl, ⟨hsz, hP, hK, hD0, hE⟩, hZ⟩ := hv
  have hx := B.exec
  have hb := B.bytes
  have hr := B.returns
  have hts := atoms_spec (ws := ws_X_again) B.pre
  have hq : ∀ {w : Cond}, w ∈ wg_all → w.before ([.ref h0, .int a1] : List Value).toArray s = true := fun h => hts _ (List.mem_cons_of_mem _ h)
  have hu : ∀ L : List Cond, (∀ w ∈ L, w ∈ wg_all) → ∀ w ∈ L, w ∈ ws_X_again := fun L h w hw => List.mem_cons_of_mem _ (h w hw)
  have hown : s.vm.findClass "FourWords" = some m.cls := findClass_of_methodNamed B.named
  have hlocks := B.notSynchronized
  subst hsz
  have hD := hD0.self (sz := s.heap.size)
  generalize hAe : va_A (wd_X h0 qO qU qW qG qN qL cJ cI cZ cB fO fU fW fG fL len size) s.heap.size = A at hD hZ ⊢
  have hA : ∀ q : Nat, s.heap.size ≤ q → A q := fun q h => by rw [← hAe]; exact Or.inr h
  have hS : va_S A s.heap s.heap [] := va_S.rf
  have hl := lv_entry [.ref h0, .int a1] (n := 2) (Nat.le_of_ble_eq_true rfl)
  rw [lg_entry_eq]
  generalize (lg_sl [.ref h0, .int a1] ++ List.replicate (2 - (lg_sl [.ref h0, .int a1]).length) Slot.unset).toArray = ls at hl ⊢
  have hl : lv_has ls 2 [(0, .ref h0), (1, .int a1)] := hl
  unfold wp_X_again at hw
  refine lv_iload_n hx hb dc_X_again_0 rfl (lv_at hl 1 rfl) ?_
  refine lv_iconst (v := 0) hx hb dc_X_again_1 (by decide) ?_
  refine lv_ldc (v := 2147483647) hx hb hown (hq mw_t337) dc_X_again_2 ?_
  rcases hw with hw | ⟨hw, hpx⟩
  · refine gc_v (S := Unit) (w1 := (fun u => ([] : va_W))) (wc := ([] : va_W)) (wr := ([(h0, .inr (1, [.ref qO, .ref qU, .ref qW, .ref qG, .ref qN, .int size])), (qO, .inl (cJ, 64, .inr (.inl fO))), (qU, .inl (cJ, 64, .inr (.inl fU))), (qW, .inl (cI, 64, .inl fW)), (qG, .inl (cZ, 64, .inl fG)), (qN, .inr (0, [.ref qL, .int len])), (qL, .inl (cB, 64, .inl fL))] : va_W)) (va_runS (As := [.int a1, .int (0 : Int32), .int (2147483647 : Int32)]) (rest := []) ⟨hx, hb, hml, hown, hts⟩ (kt_X_demandRange_k l dC dI cJ cI cZ cB _ a1 (0 : Int32) (2147483647 : Int32) _ hw) ⟨callB_of 3 hts (gw_in mw_t74) rfl rfl rfl (hq mw_t1) (hq mw_t72) (by decide +kernel) ⟨Nat.le_of_ble_eq_true rfl, Nat.le_of_ble_eq_true rfl⟩, hq mw_t73⟩ (ps_W (hP.sub (ws' := ([] : va_W)) [] rfl) hK (hD.sub (ws' := ([] : va_W)) [] (by decide) rfl) hE) rfl rfl hl.1 rfl (lv_room (Nat.le_of_ble_eq_true rfl)) dc_X_again_4 ⟨Nat.le_of_ble_eq_true rfl, Nat.le_of_ble_eq_true rfl⟩) hP hD hS hA [] [0, 1, 2, 3, 4, 5, 6] rfl rfl (by decide) (by decide) (fun u H locs hw hP hD hS => ?_)
    have hP : va_P (dC, dI) cs_3 (wd_X h0 qO qU qW qG qN qL cJ cI cZ cB fO fU fW fG fL len size) H := hP.sub (ws' := (wd_X h0 qO qU qW qG qN qL cJ cI cZ cB fO fU fW fG fL len size)) [0, 1, 2, 3, 4, 5, 6] rfl
    have hD : va_D A (wd_X h0 qO qU qW qG qN qL cJ cI cZ cB fO fU fW fG fL len size) := hD.sub (ws' := (wd_X h0 qO qU qW qG qN qL cJ cI cZ cB fO fU fW fG fL len size)) [0, 1, 2, 3, 4, 5, 6] (by decide) rfl
    try dsimp only at hw
    refine lv_aload_n hx hb dc_X_again_7 rfl (lv_at hl 0 rfl) ?_
    refine lv_iload_n hx hb dc_X_again_8 rfl (lv_at hl 1 rfl) ?_
    rcases hw with hw | ⟨hw, hpx⟩
    · refine gc_v (S := (Nat → Int64) × (Nat → Int64) × (Nat → Int32) × (Nat → Int32) × (Nat → Int32) × Int32 × Int32) (w1 := (fun u => (wd_X h0 qO qU qW qG qN qL cJ cI cZ cB u.1 u.2.1 u.2.2.1 u.2.2.2.1 u.2.2.2.2.1 u.2.2.2.2.2.1 u.2.2.2.2.2.2))) (wc := (wd_X h0 qO qU qW qG qN qL cJ cI cZ cB fO fU fW fG fL len size)) (wr := ([] : va_W)) (va_runV (As := [.int a1]) (rest := []) ⟨hx, hb, hml, hown, hts⟩ (kt_X_demandPlace_k l dC dI cJ cI cZ cB h0 qO qU qW qG qN qL _ a1 fO fU fW fG fL len size _ hw) ⟨callB_of 1 hts (gw_in mw_t369) rfl rfl rfl (hq mw_t1) (hq mw_t366) (by decide +kernel) ⟨Nat.le_of_ble_eq_true rfl, Nat.le_of_ble_eq_true rfl⟩, hq mw_t368, hq mw_s27⟩ (pv_W (va_recv (q0 := 0) (ci := 1) hK hP rfl rfl) (hP.sub (ws' := (wd_X h0 qO qU qW qG qN qL cJ cI cZ cB fO fU fW fG fL len size)) [0, 1, 2, 3, 4, 5, 6] rfl) hK (hD.sub (ws' := (wd_X h0 qO qU qW qG qN qL cJ cI cZ cB fO fU fW fG fL len size)) [0, 1, 2, 3, 4, 5, 6] (by decide) rfl) hE) rfl rfl hl.1 rfl (lv_room (Nat.le_of_ble_eq_true rfl)) dc_X_again_9 ⟨Nat.le_of_ble_eq_true rfl, Nat.le_of_ble_eq_true rfl⟩) hP hD hS hA [0, 1, 2, 3, 4, 5, 6] [] rfl rfl (by decide) (by decide) (fun u H locs hw hP hD hS => ?_)
      obtain ⟨fO9, fU9, fW9, fG9, fL9, len9, size9⟩ := u
      have hP : va_P (dC, dI) cs_3 (wd_X h0 qO qU qW qG qN qL cJ cI cZ cB fO9 fU9 fW9 fG9 fL9 len9 size9) H := hP.sub (ws' := (wd_X h0 qO qU qW qG qN qL cJ cI cZ cB fO9 fU9 fW9 fG9 fL9 len9 size9)) [0, 1, 2, 3, 4, 5, 6] rfl
      have hD : va_D A (wd_X h0 qO qU qW qG qN qL cJ cI cZ cB fO9 fU9 fW9 fG9 fL9 len9 size9) := hD.sub (ws' := (wd_X h0 qO qU qW qG qN qL cJ cI cZ cB fO9 fU9 fW9 fG9 fL9 len9 size9)) [0, 1, 2, 3, 4, 5, 6] (by decide) rfl
      try dsimp only at hw
      refine lv_aload_n hx hb dc_X_again_12 rfl (lv_at hl 0 rfl) ?_
      rcases hw with hw | ⟨hw, hpx⟩
      · refine gc_v (S := (Nat → Int64) × (Nat → Int64) × (Nat → Int32) × (Nat → Int32) × (Nat → Int32) × Int32 × Int32) (w1 := (fun u => (wd_X h0 qO qU qW qG qN qL cJ cI cZ cB u.1 u.2.1 u.2.2.1 u.2.2.2.1 u.2.2.2.2.1 u.2.2.2.2.2.1 u.2.2.2.2.2.2))) (wc := (wd_X h0 qO qU qW qG qN qL cJ cI cZ cB fO9 fU9 fW9 fG9 fL9 len9 size9)) (wr := ([] : va_W)) (va_runV (As := []) (rest := []) ⟨hx, hb, hml, hown, hts⟩ (kt_X_demandRoom_k l dC dI cJ cI cZ cB h0 qO qU qW qG qN qL _ fO9 fU9 fW9 fG9 fL9 len9 size9 _ hw) ⟨callB_of 0 hts (gw_in mw_t145) rfl rfl rfl (hq mw_t1) (hq mw_t142) (by decide +kernel) ⟨Nat.le_of_ble_eq_true rfl, Nat.le_of_ble_eq_true rfl⟩, hq mw_t144, hq mw_s1⟩ (pv_W (va_recv (q0 := 0) (ci := 1) hK hP rfl rfl) (hP.sub (ws' := (wd_X h0 qO qU qW qG qN qL cJ cI cZ cB fO9 fU9 fW9 fG9 fL9 len9 size9)) [0, 1, 2, 3, 4, 5, 6] rfl) hK (hD.sub (ws' := (wd_X h0 qO qU qW qG qN qL cJ cI cZ cB fO9 fU9 fW9 fG9 fL9 len9 size9)) [0, 1, 2, 3, 4, 5, 6] (by decide) rfl) hE) rfl rfl hl.1 rfl (lv_room (Nat.le_of_ble_eq_true rfl)) dc_X_again_13 ⟨Nat.le_of_ble_eq_true rfl, Nat.le_of_ble_eq_true rfl⟩) hP hD hS hA [0, 1, 2, 3, 4, 5, 6] [] rfl rfl (by decide) (by decide) (fun u H locs hw hP hD hS => ?_)
        obtain ⟨fO13, fU13, fW13, fG13, fL13, len13, size13⟩ := u
        have hP : va_P (dC, dI) cs_3 (wd_X h0 qO qU qW qG qN qL cJ cI cZ cB fO13 fU13 fW13 fG13 fL13 len13 size13) H := hP.sub (ws' := (wd_X h0 qO qU qW qG qN qL cJ cI cZ cB fO13 fU13 fW13 fG13 fL13 len13 size13)) [0, 1, 2, 3, 4, 5, 6] rfl
        have hD : va_D A (wd_X h0 qO qU qW qG qN qL cJ cI cZ cB fO13 fU13 fW13 fG13 fL13 len13 size13) := hD.sub (ws' := (wd_X h0 qO qU qW qG qN qL cJ cI cZ cB fO13 fU13 fW13 fG13 fL13 len13 size13)) [0, 1, 2, 3, 4, 5, 6] (by decide) rfl
        try dsimp only at hw
        refine lv_aload_n hx hb dc_X_again_16 rfl (lv_at hl 0 rfl) ?_
        refine lv_aload_n hx hb dc_X_again_17 rfl (lv_at hl 0 rfl) ?_
        refine va_get (D := (dC, dI)) (ci := 1) (v := .int size13) (C := "FourWords") (T := tb_X) (N := 6) hx hb hts (hu _ um_X) hown hK hP 0 rfl rfl 5 (by decide) (hq mw_t45) (fun _ h9 => h9) rfl dc_X_again_18 ?_
        refine lv_iconst (v := 1) hx hb dc_X_again_21 (by decide) ?_
        refine lv_isub hx hb dc_X_again_22 ?_
        refine lv_iload_n hx hb dc_X_again_23 rfl (lv_at hl 1 rfl) ?_
        refine lv_isub hx hb dc_X_again_24 ?_
        refine lv_aload_n hx hb dc_X_again_25 rfl (lv_at hl 0 rfl) ?_
        refine va_get (D := (dC, dI)) (ci := 1) (v := .int size13) (C := "FourWords") (T := tb_X) (N := 6) hx hb hts (hu _ um_X) hown hK hP 0 rfl rfl 5 (by decide) (hq mw_t45) (fun _ h9 => h9) rfl dc_X_again_26 ?_
        refine gc_v (S := (Nat → Int64) × (Nat → Int64) × (Nat → Int32) × (Nat → Int32) × (Nat → Int32) × Int32 × Int32) (w1 := (fun u => (wd_X h0 qO qU qW qG qN qL cJ cI cZ cB u.1 u.2.1 u.2.2.1 u.2.2.2.1 u.2.2.2.2.1 u.2.2.2.2.2.1 u.2.2.2.2.2.2))) (wc := (wd_X h0 qO qU qW qG qN qL cJ cI cZ cB fO13 fU13 fW13 fG13 fL13 len13 size13)) (wr := ([] : va_W)) (va_runV (As := [.int ((size13 - (1 : Int32)) - a1), .int size13]) (rest := []) ⟨hx, hb, hml, hown, hts⟩ (kt_X_copyValue l dC dI cJ cI cZ cB h0 qO qU qW qG qN qL _ ((size13 - (1 : Int32)) - a1) size13 fO13 fU13 fW13 fG13 fL13 len13 size13 _ hw) ⟨callB_of 2 hts (gw_in mw_t322) rfl rfl rfl (hq mw_t1) (hq mw_t319) (by decide +kernel) ⟨Nat.le_of_ble_eq_true rfl, Nat.le_of_ble_eq_true rfl⟩, hq mw_t321, hq mw_s26⟩ (pv_W (va_recv (q0 := 0) (ci := 1) hK hP rfl rfl) (hP.sub (ws' := (wd_X h0 qO qU qW qG qN qL cJ cI cZ cB fO13 fU13 fW13 fG13 fL13 len13 size13)) [0, 1, 2, 3, 4, 5, 6] rfl) hK (hD.sub (ws' := (wd_X h0 qO qU qW qG qN qL cJ cI cZ cB fO13 fU13 fW13 fG13 fL13 len13 size13)) [0, 1, 2, 3, 4, 5, 6] (by decide) rfl) hE) rfl rfl hl.1 rfl (lv_room (Nat.le_of_ble_eq_true rfl)) dc_X_again_29 ⟨Nat.le_of_ble_eq_true rfl, Nat.le_of_ble_eq_true rfl⟩) hP hD hS hA [0, 1, 2, 3, 4, 5, 6] [] rfl rfl (by decide) (by decide) (fun u H locs hw hP hD hS => ?_)
        obtain ⟨fO29, fU29, fW29, fG29, fL29, len29, size29⟩ := u
        have hP : va_P (dC, dI) cs_3 (wd_X h0 qO qU qW qG qN qL cJ cI cZ cB fO29 fU29 fW29 fG29 fL29 len29 size29) H := hP.sub (ws' := (wd_X h0 qO qU qW qG qN qL cJ cI cZ cB fO29 fU29 fW29 fG29 fL29 len29 size29)) [0, 1, 2, 3, 4, 5, 6] rfl
        have hD : va_D A (wd_X h0 qO qU qW qG qN qL cJ cI cZ cB fO29 fU29 fW29 fG29 fL29 len29 size29) := hD.sub (ws' := (wd_X h0 qO qU qW qG qN qL cJ cI cZ cB fO29 fU29 fW29 fG29 fL29 len29 size29)) [0, 1, 2, 3, 4, 5, 6] (by decide) rfl
        try dsimp only at hw
        refine lv_aload_n hx hb dc_X_again_32 rfl (lv_at hl 0 rfl) ?_
        refine lv_dup hx hb dc_X_again_33 rfl ?_
        refine va_get (D := (dC, dI)) (ci := 1) (v := .int size29) (C := "FourWords") (T := tb_X) (N := 6) hx hb hts (hu _ um_X) hown hK hP 0 rfl rfl 5 (by decide) (hq mw_t45) (fun _ h9 => h9) rfl dc_X_again_34 ?_
        refine lv_iconst (v := 1) hx hb dc_X_again_37 (by decide) ?_
        refine lv_iadd hx hb dc_X_again_38 ?_
        refine va_put (D := (dC, dI)) (ci := 1) (v := .int (size29 + (1 : Int32))) (ty := .int) (C := "FourWords") (T := tb_X) (N := 6) hx hb hts (hu _ um_X) ft_X fk_X fn_X hown hK hP hD hS 0 rfl rfl 5 (by decide) (hq mw_t45) (fun _ h9 => h9) rfl (by decide +kernel) rfl rfl (Nat.le_of_ble_eq_true rfl) dc_X_again_39 (fun H locs hP hD hS => ?_)
        have hP : va_P (dC, dI) cs_3 (wd_X h0 qO qU qW qG qN qL cJ cI cZ cB fO29 fU29 fW29 fG29 fL29 len29 (size29 + (1 : Int32))) H := hP
        have hD : va_D A (wd_X h0 qO qU qW qG qN qL cJ cI cZ cB fO29 fU29 fW29 fG29 fL29 len29 (size29 + (1 : Int32))) := hD
        refine W.widen (k := 1) (n := 6) (Nat.zero_le _) (Nat.zero_le _) ?_
        exact vx_ret (W.vret hx hb hr (fun t ht hW => ⟨⟨(fO29, fU29, fW29, fG29, fL29, len29, size29 + (1 : Int32)), rfl, hw, by rw [ht]; exact hP, va_K.moved hW.alike hK, hD⟩, hS.F ht⟩) hS.2.2 dc_X_again_42)
      · exact gx_T (E0 := "java/lang/IllegalStateException") (u := (fO9, fU9, fW9, fG9, fL9, len9, size9)) (wc := (wd_X h0 qO qU qW qG qN qL cJ cI cZ cB fO9 fU9 fW9 fG9 fL9 len9 size9)) (wr := ([] : va_W)) (vx_runV (As := []) (rest := []) ⟨hx, hb, hml, hown, hts⟩ (kt_X_demandRoom_t l hlt dC dI cJ cI cZ cB h0 qO qU qW qG qN qL _ fO9 fU9 fW9 fG9 fL9 len9 size9 hw) ⟨callB_of 0 hts (gw_in mw_t145) rfl rfl rfl (hq mw_t1) (hq mw_t142) (by decide +kernel) ⟨Nat.le_of_ble_eq_true rfl, Nat.le_of_ble_eq_true rfl⟩, hq mw_t144, hq mw_s1⟩ (pq_W (va_recv (q0 := 0) (ci := 1) hK hP rfl rfl) (hP.sub (ws' := (wd_X h0 qO qU qW qG qN qL cJ cI cZ cB fO9 fU9 fW9 fG9 fL9 len9 size9)) [0, 1, 2, 3, 4, 5, 6] rfl) hK (hD.sub (ws' := (wd_X h0 qO qU qW qG qN qL cJ cI cZ cB fO9 fU9 fW9 fG9 fL9 len9 size9)) [0, 1, 2, 3, 4, 5, 6] (by decide) rfl) hE (zz_W hZ hS (va_free (wc := (wd_X h0 qO qU qW qG qN qL cJ cI cZ cB fO9 fU9 fW9 fG9 fL9 len9 size9)) hD hS hA [0, 1, 2, 3, 4, 5, 6] rfl))) rfl rfl hl.1 rfl (lv_room (Nat.le_of_ble_eq_true rfl)) dc_X_again_13 ⟨Nat.le_of_ble_eq_true rfl, Nat.le_of_ble_eq_true rfl⟩) hP hK hD hS hA [0, 1, 2, 3, 4, 5, 6] [] rfl rfl (by decide) (by decide) [0, 1, 2, 3, 4, 5, 6] rfl rfl (by decide) htab hlocks hpx rfl
    · exact gx_T (E0 := "java/lang/IllegalStateException") (u := (fO, fU, fW, fG, fL, len, size)) (wc := (wd_X h0 qO qU qW qG qN qL cJ cI cZ cB fO fU fW fG fL len size)) (wr := ([] : va_W)) (vx_runV (As := [.int a1]) (rest := []) ⟨hx, hb, hml, hown, hts⟩ (kt_X_demandPlace_t l hlt dC dI cJ cI cZ cB h0 qO qU qW qG qN qL _ a1 fO fU fW fG fL len size hw) ⟨callB_of 1 hts (gw_in mw_t369) rfl rfl rfl (hq mw_t1) (hq mw_t366) (by decide +kernel) ⟨Nat.le_of_ble_eq_true rfl, Nat.le_of_ble_eq_true rfl⟩, hq mw_t368, hq mw_s27⟩ (pq_W (va_recv (q0 := 0) (ci := 1) hK hP rfl rfl) (hP.sub (ws' := (wd_X h0 qO qU qW qG qN qL cJ cI cZ cB fO fU fW fG fL len size)) [0, 1, 2, 3, 4, 5, 6] rfl) hK (hD.sub (ws' := (wd_X h0 qO qU qW qG qN qL cJ cI cZ cB fO fU fW fG fL len size)) [0, 1, 2, 3, 4, 5, 6] (by decide) rfl) hE (zz_W hZ hS (va_free (wc := (wd_X h0 qO qU qW qG qN qL cJ cI cZ cB fO fU fW fG fL len size)) hD hS hA [0, 1, 2, 3, 4, 5, 6] rfl))) rfl rfl hl.1 rfl (lv_room (Nat.le_of_ble_eq_true rfl)) dc_X_again_9 ⟨Nat.le_of_ble_eq_true rfl, Nat.le_of_ble_eq_true rfl⟩) hP hK hD hS hA [0, 1, 2, 3, 4, 5, 6] [] rfl rfl (by decide) (by decide) [0, 1, 2, 3, 4, 5, 6] rfl rfl (by decide) htab hlocks hpx rfl
  · exact gx_T (E0 := "java/lang/IllegalArgumentException") (u := (fO, fU, fW, fG, fL, len, size)) (wc := ([] : va_W)) (wr := ([(h0, .inr (1, [.ref qO, .ref qU, .ref qW, .ref qG, .ref qN, .int size])), (qO, .inl (cJ, 64, .inr (.inl fO))), (qU, .inl (cJ, 64, .inr (.inl fU))), (qW, .inl (cI, 64, .inl fW)), (qG, .inl (cZ, 64, .inl fG)), (qN, .inr (0, [.ref qL, .int len])), (qL, .inl (cB, 64, .inl fL))] : va_W)) (vx_runS (As := [.int a1, .int (0 : Int32), .int (2147483647 : Int32)]) (rest := []) ⟨hx, hb, hml, hown, hts⟩ (kt_X_demandRange_t l hlt dC dI cJ cI cZ cB _ a1 (0 : Int32) (2147483647 : Int32) hw) ⟨callB_of 3 hts (gw_in mw_t74) rfl rfl rfl (hq mw_t1) (hq mw_t72) (by decide +kernel) ⟨Nat.le_of_ble_eq_true rfl, Nat.le_of_ble_eq_true rfl⟩, hq mw_t73⟩ (pz_W (hP.sub (ws' := ([] : va_W)) [] rfl) hK (hD.sub (ws' := ([] : va_W)) [] (by decide) rfl) hE (zz_W hZ hS (va_free (wc := ([] : va_W)) hD hS hA [] rfl))) rfl rfl hl.1 rfl (lv_room (Nat.le_of_ble_eq_true rfl)) dc_X_again_4 ⟨Nat.le_of_ble_eq_true rfl, Nat.le_of_ble_eq_true rfl⟩) hP hK hD hS hA [] [0, 1, 2, 3, 4, 5, 6] rfl rfl (by decide) (by decide) [0, 1, 2, 3, 4, 5, 6] rfl rfl (by decide) htab hlocks hpx rfl
set_option maxHeartbeats 4000000 in
set_option maxRecDepth 100000 in
theorem kt_X_text (l : Launch) (hlt : l.stackTraces = false) (dC : Nat → ClassId) (dI : Nat → Nat → Nat) (cJ cI cZ cB : ClassId) (h0 qO qU qW qG qN qL : Nat) (sz : Nat) (a1 : Int32) (a2 : Int32) (fO : (Nat → Int64)) (fU : (Nat → Int64)) (fW : (Nat → Int32)) (fG : (Nat → Int32)) (fL : (Nat → Int32)) (len : Int32) (size : Int32) (post : Int32 → (Nat → Int64) → (Nat → Int64) → (Nat → Int32) → (Nat → Int32) → (Nat → Int32) → Int32 → Int32 → Prop) (px : String → (Nat → Int64) → (Nat → Int64) → (Nat → Int32) → (Nat → Int32) → (Nat → Int32) → Int32 → Int32 → Prop) (hw : wp_X_text post px a1 a2 fO fU fW fG fL len size) : vx_Met l yn_X_text ws_X_text rm_X_text (va_Pc [.ref h0, .int a1, .int a2] (pc_Z (dC, dI) (ty_4 cJ cI cZ cB) (wd_X h0 qO qU qW qG qN qL cJ cI cZ cB fO fU fW fG fL len size) sz)) (qi_X dC dI cJ cI cZ cB h0 qO qU qW qG qN qL post (va_A (wd_X h0 qO qU qW qG qN qL cJ cI cZ cB fO fU fW fG fL len size) sz)) (qx_X dC dI cJ cI cZ cB h0 qO qU qW qG qN qL px (va_A (wd_X h0 qO qU qW qG qN qL cJ cI cZ cB fO fU fW fG fL len size) sz)) 1 6 (va_A (wd_X h0 qO qU qW qG qN qL cJ cI cZ cB fO fU fW fG fL len size) sz) := by
  refine vx_ofW (cc := cd_X_text) (maxL := 4) (ret := (some .int)) (by decide) rfl ?_
  intro p e s m args below meth c s₁ B hml htab hv
  obtain ⟨rfl, ⟨hsz, hP, hK, hD0, hE⟩, hZ⟩ := hv
  have hx := B.exec
  have hb := B.bytes
  have hr := B.returns
  have hts := atoms_spec (ws := ws_X_text) B.pre
  have hq : ∀ {w : Cond}, w ∈ wg_all → w.before ([.ref h0, .int a1, .int a2] : List Value).toArray s = true := fun h => hts _ (List.mem_cons_of_mem _ h)
  have hu : ∀ L : List Cond, (∀ w ∈ L, w ∈ wg_all) → ∀ w ∈ L, w ∈ ws_X_text := fun L h w hw => List.mem_cons_of_mem _ (h w hw)
  have hown : s.vm.findClass "FourWords" = some m.cls := findClass_of_methodNamed B.named
  have hlocks := B.notSynchronized
  subst hsz
  have hD := hD0.self (sz := s.heap.size)
  generalize hAe : va_A (wd_X h0 qO qU qW qG qN qL cJ cI cZ cB fO fU fW fG fL len size) s.heap.size = A at hD hZ ⊢
  have hA : ∀ q : Nat, s.heap.size ≤ q → A q := fun q h => by rw [← hAe]; exact Or.inr h
  have hS : va_S A s.heap s.heap [] := va_S.rf
  have hl := lv_entry [.ref h0, .int a1, .int a2] (n := 4) (Nat.le_of_ble_eq_true rfl)
  rw [lg_entry_eq]
  generalize (lg_sl [.ref h0, .int a1, .int a2] ++ List.replicate (4 - (lg_sl [.ref h0, .int a1, .int a2]).length) Slot.unset).toArray = ls at hl ⊢
  have hl : lv_has ls 4 [(0, .ref h0), (1, .int a1), (2, .int a2)] := hl
  have B_54 : ∀ (H : Heap) (locs : List Loc) (ls : Array Slot) (fO : (Nat → Int64)) (fU : (Nat → Int64)) (fW : (Nat → Int32)) (fG : (Nat → Int32)) (fL : (Nat → Int32)) (len : Int32) (size : Int32), wp_X_text_54 post px fO fU fW fG fL len size → va_P (dC, dI) cs_3 (wd_X h0 qO qU qW qG qN qL cJ cI cZ cB fO fU fW fG fL len size) H → va_D A (wd_X h0 qO qU qW qG qN qL cJ cI cZ cB fO fU fW fG fL len size) → va_S A s.heap H locs → lv_has ls 4 [(0, .ref h0)] → W p l e (headSpec ws_X_text rm_X_text).room s m ([.ref h0, .int a1, .int a2] : List Value).toArray below meth c H locs 0 0 (vx_MQ below (qi_X dC dI cJ cI cZ cB h0 qO qU qW qG qN qL post A) (qx_X dC dI cJ cI cZ cB h0 qO qU qW qG qN qL px A) ([.ref h0, .int a1, .int a2] : List Value).toArray s 1 6 A) (F0 m 54 ls []) := by
    intro H locs ls fO fU fW fG fL len size hw hP hD hS hl
    unfold wp_X_text_54 at hw
    refine lv_aload_n hx hb dc_X_text_54 rfl (lv_at hl 0 rfl) ?_
    refine lv_dup hx hb dc_X_text_55 rfl ?_
    refine va_get (D := (dC, dI)) (ci := 1) (v := .int size) (C := "FourWords") (T := tb_X) (N := 6) hx hb hts (hu _ um_X) hown hK hP 0 rfl rfl 5 (by decide) (hq mw_t45) (fun _ h9 => h9) rfl dc_X_text_56 ?_
    refine lv_iconst (v := 1) hx hb dc_X_text_59 (by decide) ?_
    refine lv_isub hx hb dc_X_text_60 ?_
    refine va_put (D := (dC, dI)) (ci := 1) (v := .int (size - (1 : Int32))) (ty := .int) (C := "FourWords") (T := tb_X) (N := 6) hx hb hts (hu _ um_X) ft_X fk_X fn_X hown hK hP hD hS 0 rfl rfl 5 (by decide) (hq mw_t45) (fun _ h9 => h9) rfl (by decide +kernel) rfl rfl (Nat.le_of_ble_eq_true rfl) dc_X_text_61 (fun H locs hP hD hS => ?_)
    have hP : va_P (dC, dI) cs_3 (wd_X h0 qO qU qW qG qN qL cJ cI cZ cB fO fU fW fG fL len (size - (1 : Int32))) H := hP
    have hD : va_D A (wd_X h0 qO qU qW qG qN qL cJ cI cZ cB fO fU fW fG fL len (size - (1 : Int32))) := hD
    refine lv_aload_n hx hb dc_X_text_64 rfl (lv_at hl 0 rfl) ?_
    refine va_get (D := (dC, dI)) (ci := 1) (v := .ref qN) (C := "FourWords") (T := tb_X) (N := 6) hx hb hts (hu _ um_X) hown hK hP 0 rfl rfl 4 (by decide) (hq mw_t44) (fun _ h9 => h9) rfl dc_X_text_65 ?_
    refine va_getN (D := (dC, dI)) (ci := 0) (v := .int len) (C := "FourWords$Line") (T := tb_N) (N := 2) hx hb hts (hu _ um_N) hown hK hP 5 rfl rfl 1 (by decide) (va_Nw.use rfl (en_X126 hE)) (fun _ h9 => h9) rfl dc_X_text_68 ?_
    refine W.widen (k := 1) (n := 6) (Nat.zero_le _) (Nat.zero_le _) ?_
    exact vx_ret (W.iret (v := len) hx hb hr (fun t ht hW => ⟨⟨len, (fO, fU, fW, fG, fL, len, size - (1 : Int32)), rfl, hw, by rw [ht]; exact hP, va_K.moved hW.alike hK, hD⟩, hS.F ht⟩) hS.2.2 dc_X_text_71)
  have B_50 : ∀ (H : Heap) (locs : List Loc) (ls : Array Slot) (x2 : Int32) (t0 : Int32) (t1 : Int32) (fO : (Nat → Int64)) (fU : (Nat → Int64)) (fW : (Nat → Int32)) (fG : (Nat → Int32)) (fL : (Nat → Int32)) (len : Int32) (size : Int32), wp_X_text_50 post px x2 t0 t1 fO fU fW fG fL len size → va_P (dC, dI) cs_3 (wd_X h0 qO qU qW qG qN qL cJ cI cZ cB fO fU fW fG fL len size) H → va_D A (wd_X h0 qO qU qW qG qN qL cJ cI cZ cB fO fU fW fG fL len size) → va_S A s.heap H locs → lv_has ls 4 [(0, .ref h0), (2, .int x2)] → W p l e (headSpec ws_X_text rm_X_text).room s m ([.ref h0, .int a1, .int a2] : List Value).toArray below meth c H locs 0 0 (vx_MQ below (qi_X dC dI cJ cI cZ cB h0 qO qU qW qG qN qL post A) (qx_X dC dI cJ cI cZ cB h0 qO qU qW qG qN qL px A) ([.ref h0, .int a1, .int a2] : List Value).toArray s 1 6 A) (F0 m 50 ls [.int t0, .int t1, .ref h0]) := by
    intro H locs ls x2 t0 t1 fO fU fW fG fL len size hw hP hD hS hl
    unfold wp_X_text_50 at hw
    refine lv_iload_n hx hb dc_X_text_50 rfl (lv_at hl 1 rfl) ?_
    refine gc_v (S := (Nat → Int64) × (Nat → Int64) × (Nat → Int32) × (Nat → Int32) × (Nat → Int32) × Int32 × Int32) (w1 := (fun u => (wd_X h0 qO qU qW qG qN qL cJ cI cZ cB u.1 u.2.1 u.2.2.1 u.2.2.2.1 u.2.2.2.2.1 u.2.2.2.2.2.1 u.2.2.2.2.2.2))) (wc := (wd_X h0 qO qU qW qG qN qL cJ cI cZ cB fO fU fW fG fL len size)) (wr := ([] : va_W)) (va_runV (As := [.int t1, .int t0, .int x2]) (rest := []) ⟨hx, hb, hml, hown, hts⟩ (kt_X_writeGroups l dC dI cJ cI cZ cB h0 qO qU qW qG qN qL _ t1 t0 x2 fO fU fW fG fL len size _ hw) ⟨callB_of 3 hts (gw_in mw_t413) rfl rfl rfl (hq mw_t1) (hq mw_t410) (by decide +kernel) ⟨Nat.le_of_ble_eq_true rfl, Nat.le_of_ble_eq_true rfl⟩, hq mw_t412, hq mw_s33⟩ (pv_W (va_recv (q0 := 0) (ci := 1) hK hP rfl rfl) (hP.sub (ws' := (wd_X h0 qO qU qW qG qN qL cJ cI cZ cB fO fU fW fG fL len size)) [0, 1, 2, 3, 4, 5, 6] rfl) hK (hD.sub (ws' := (wd_X h0 qO qU qW qG qN qL cJ cI cZ cB fO fU fW fG fL len size)) [0, 1, 2, 3, 4, 5, 6] (by decide) rfl) hE) rfl rfl hl.1 rfl (lv_room (Nat.le_of_ble_eq_true rfl)) dc_X_text_51 ⟨Nat.le_of_ble_eq_true rfl, Nat.le_of_ble_eq_true rfl⟩) hP hD hS hA [0, 1, 2, 3, 4, 5, 6] [] rfl rfl (by decide) (by decide) (fun u H locs hw hP hD hS => ?_)
    obtain ⟨fO51, fU51, fW51, fG51, fL51, len51, size51⟩ := u
    have hP : va_P (dC, dI) cs_3 (wd_X h0 qO qU qW qG qN qL cJ cI cZ cB fO51 fU51 fW51 fG51 fL51 len51 size51) H := hP.sub (ws' := (wd_X h0 qO qU qW qG qN qL cJ cI cZ cB fO51 fU51 fW51 fG51 fL51 len51 size51)) [0, 1, 2, 3, 4, 5, 6] rfl
    have hD : va_D A (wd_X h0 qO qU qW qG qN qL cJ cI cZ cB fO51 fU51 fW51 fG51 fL51 len51 size51) := hD.sub (ws' := (wd_X h0 qO qU qW qG qN qL cJ cI cZ cB fO51 fU51 fW51 fG51 fL51 len51 size51)) [0, 1, 2, 3, 4, 5, 6] (by decide) rfl
    try dsimp only at hw
    exact B_54 _ _ _ fO51 fU51 fW51 fG51 fL51 len51 size51 hw hP hD hS (lv_sub hl [0] rfl)
  unfold wp_X_text at hw
  refine lv_iload_n hx hb dc_X_text_0 rfl (lv_at hl 1 rfl) ?_
  refine lv_iconst (v := 0) hx hb dc_X_text_1 (by decide) ?_
  refine lv_iconst (v := 2) hx hb dc_X_text_2 (by decide) ?_
  rcases hw with hw | ⟨hw, hpx⟩
  · refine gc_v (S := Unit) (w1 := (fun u => ([] : va_W))) (wc := ([] : va_W)) (wr := ([(h0, .inr (1, [.ref qO, .ref qU, .ref qW, .ref qG, .ref qN, .int size])), (qO, .inl (cJ, 64, .inr (.inl fO))), (qU, .inl (cJ, 64, .inr (.inl fU))), (qW, .inl (cI, 64, .inl fW)), (qG, .inl (cZ, 64, .inl fG)), (qN, .inr (0, [.ref qL, .int len])), (qL, .inl (cB, 64, .inl fL))] : va_W)) (va_runS (As := [.int a1, .int (0 : Int32), .int (2 : Int32)]) (rest := []) ⟨hx, hb, hml, hown, hts⟩ (kt_X_demandRange_k l dC dI cJ cI cZ cB _ a1 (0 : Int32) (2 : Int32) _ hw) ⟨callB_of 3 hts (gw_in mw_t74) rfl rfl rfl (hq mw_t1) (hq mw_t72) (by decide +kernel) ⟨Nat.le_of_ble_eq_true rfl, Nat.le_of_ble_eq_true rfl⟩, hq mw_t73⟩ (ps_W (hP.sub (ws' := ([] : va_W)) [] rfl) hK (hD.sub (ws' := ([] : va_W)) [] (by decide) rfl) hE) rfl rfl hl.1 rfl (lv_room (Nat.le_of_ble_eq_true rfl)) dc_X_text_3 ⟨Nat.le_of_ble_eq_true rfl, Nat.le_of_ble_eq_true rfl⟩) hP hD hS hA [] [0, 1, 2, 3, 4, 5, 6] rfl rfl (by decide) (by decide) (fun u H locs hw hP hD hS => ?_)
    have hP : va_P (dC, dI) cs_3 (wd_X h0 qO qU qW qG qN qL cJ cI cZ cB fO fU fW fG fL len size) H := hP.sub (ws' := (wd_X h0 qO qU qW qG qN qL cJ cI cZ cB fO fU fW fG fL len size)) [0, 1, 2, 3, 4, 5, 6] rfl
    have hD : va_D A (wd_X h0 qO qU qW qG qN qL cJ cI cZ cB fO fU fW fG fL len size) := hD.sub (ws' := (wd_X h0 qO qU qW qG qN qL cJ cI cZ cB fO fU fW fG fL len size)) [0, 1, 2, 3, 4, 5, 6] (by decide) rfl
    try dsimp only at hw
    refine lv_aload_n hx hb dc_X_text_6 rfl (lv_at hl 0 rfl) ?_
    refine lv_iconst (v := 1) hx hb dc_X_text_7 (by decide) ?_
    rcases hw with hw | ⟨hw, hpx⟩
    · refine gc_v (S := (Nat → Int64) × (Nat → Int64) × (Nat → Int32) × (Nat → Int32) × (Nat → Int32) × Int32 × Int32) (w1 := (fun u => (wd_X h0 qO qU qW qG qN qL cJ cI cZ cB u.1 u.2.1 u.2.2.1 u.2.2.2.1 u.2.2.2.2.1 u.2.2.2.2.2.1 u.2.2.2.2.2.2))) (wc := (wd_X h0 qO qU qW qG qN qL cJ cI cZ cB fO fU fW fG fL len size)) (wr := ([] : va_W)) (va_runV (As := [.int (1 : Int32)]) (rest := []) ⟨hx, hb, hml, hown, hts⟩ (kt_X_demandValues_k l dC dI cJ cI cZ cB h0 qO qU qW qG qN qL _ (1 : Int32) fO fU fW fG fL len size _ hw) ⟨callB_of 1 hts (gw_in mw_t184) rfl rfl rfl (hq mw_t1) (hq mw_t181) (by decide +kernel) ⟨Nat.le_of_ble_eq_true rfl, Nat.le_of_ble_eq_true rfl⟩, hq mw_t183, hq mw_s4⟩ (pv_W (va_recv (q0 := 0) (ci := 1) hK hP rfl rfl) (hP.sub (ws' := (wd_X h0 qO qU qW qG qN qL cJ cI cZ cB fO fU fW fG fL len size)) [0, 1, 2, 3, 4, 5, 6] rfl) hK (hD.sub (ws' := (wd_X h0 qO qU qW qG qN qL cJ cI cZ cB fO fU fW fG fL len size)) [0, 1, 2, 3, 4, 5, 6] (by decide) rfl) hE) rfl rfl hl.1 rfl (lv_room (Nat.le_of_ble_eq_true rfl)) dc_X_text_8 ⟨Nat.le_of_ble_eq_true rfl, Nat.le_of_ble_eq_true rfl⟩) hP hD hS hA [0, 1, 2, 3, 4, 5, 6] [] rfl rfl (by decide) (by decide) (fun u H locs hw hP hD hS => ?_)
      obtain ⟨fO8, fU8, fW8, fG8, fL8, len8, size8⟩ := u
      have hP : va_P (dC, dI) cs_3 (wd_X h0 qO qU qW qG qN qL cJ cI cZ cB fO8 fU8 fW8 fG8 fL8 len8 size8) H := hP.sub (ws' := (wd_X h0 qO qU qW qG qN qL cJ cI cZ cB fO8 fU8 fW8 fG8 fL8 len8 size8)) [0, 1, 2, 3, 4, 5, 6] rfl
      have hD : va_D A (wd_X h0 qO qU qW qG qN qL cJ cI cZ cB fO8 fU8 fW8 fG8 fL8 len8 size8) := hD.sub (ws' := (wd_X h0 qO qU qW qG qN qL cJ cI cZ cB fO8 fU8 fW8 fG8 fL8 len8 size8)) [0, 1, 2, 3, 4, 5, 6] (by decide) rfl
      try dsimp only at hw
      refine lv_aload_n hx hb dc_X_text_11 rfl (lv_at hl 0 rfl) ?_
      refine va_get (D := (dC, dI)) (ci := 1) (v := .int size8) (C := "FourWords") (T := tb_X) (N := 6) hx hb hts (hu _ um_X) hown hK hP 0 rfl rfl 5 (by decide) (hq mw_t45) (fun _ h9 => h9) rfl dc_X_text_12 ?_
      refine lv_iconst (v := 1) hx hb dc_X_text_15 (by decide) ?_
      refine lv_isub hx hb dc_X_text_16 ?_
      refine lv_topi (fun v17 e17 => ?_)
      have hw := hw v17 e17
      refine lv_istore_n (lv' := [(3, .int v17), (0, .ref h0), (1, .int a1), (2, .int a2)]) hx hb dc_X_text_17 rfl hl (Nat.le_of_ble_eq_true rfl) rfl (fun ls hl => ?_)
      refine lv_aload_n hx hb dc_X_text_18 rfl (lv_at hl 1 rfl) ?_
      refine va_get (D := (dC, dI)) (ci := 1) (v := .ref qN) (C := "FourWords") (T := tb_X) (N := 6) hx hb hts (hu _ um_X) hown hK hP 0 rfl rfl 4 (by decide) (hq mw_t44) (fun _ h9 => h9) rfl dc_X_text_19 ?_
      refine gc_v (S := (Nat → Int32) × Int32) (w1 := (fun u => (wd_N qN qL cJ cI cZ cB u.1 u.2))) (wc := (wd_N qN qL cJ cI cZ cB fL8 len8)) (wr := ([(h0, .inr (1, [.ref qO, .ref qU, .ref qW, .ref qG, .ref qN, .int size8])), (qO, .inl (cJ, 64, .inr (.inl fO8))), (qU, .inl (cJ, 64, .inr (.inl fU8))), (qW, .inl (cI, 64, .inl fW8)), (qG, .inl (cZ, 64, .inl fG8))] : va_W)) (va_runVN (As := []) (rest := []) ⟨hx, hb, hml, hown, hts⟩ (kt_N_clear l dC dI cJ cI cZ cB qN qL _ fL8 len8 _ hw) ⟨va_cnB 0 hts (gw_in mw_t381) rfl rfl rfl (en_X116 hE) (hq mw_t2) (by decide +kernel) ⟨Nat.le_of_ble_eq_true rfl, Nat.le_of_ble_eq_true rfl⟩, hq mw_t380, hq mw_s28⟩ (pv_W (va_recv (q0 := 5) (ci := 0) hK hP rfl rfl) (hP.sub (ws' := (wd_N qN qL cJ cI cZ cB fL8 len8)) [5, 6] rfl) hK (hD.sub (ws' := (wd_N qN qL cJ cI cZ cB fL8 len8)) [5, 6] (by decide) rfl) hE) rfl rfl hl.1 rfl (lv_room (Nat.le_of_ble_eq_true rfl)) dc_X_text_22 ⟨Nat.le_of_ble_eq_true rfl, Nat.le_of_ble_eq_true rfl⟩) hP hD hS hA [5, 6] [0, 1, 2, 3, 4] rfl rfl (by decide) (by decide) (fun u H locs hw hP hD hS => ?_)
      obtain ⟨fL22, len22⟩ := u
      have hP : va_P (dC, dI) cs_3 (wd_X h0 qO qU qW qG qN qL cJ cI cZ cB fO8 fU8 fW8 fG8 fL22 len22 size8) H := hP.sub (ws' := (wd_X h0 qO qU qW qG qN qL cJ cI cZ cB fO8 fU8 fW8 fG8 fL22 len22 size8)) [0, 1, 2, 3, 4, 5, 6] rfl
      have hD : va_D A (wd_X h0 qO qU qW qG qN qL cJ cI cZ cB fO8 fU8 fW8 fG8 fL22 len22 size8) := hD.sub (ws' := (wd_X h0 qO qU qW qG qN qL cJ cI cZ cB fO8 fU8 fW8 fG8 fL22 len22 size8)) [0, 1, 2, 3, 4, 5, 6] (by decide) rfl
      try dsimp only at hw
      refine lv_iload_n hx hb dc_X_text_25 rfl (lv_at hl 2 rfl) ?_
      refine lv_iconst (v := 2) hx hb dc_X_text_26 (by decide) ?_
      obtain ⟨hw1, hw2⟩ := hw
      refine lv_icmp_ne (tgt := 39) hx hb dc_X_text_27 (by decide) (fun hc => ?_) (fun hc => ?_)
      · have hw := hw1 hc
        clear hw1 hw2
        refine lv_aload_n hx hb dc_X_text_39 rfl (lv_at hl 1 rfl) ?_
        refine lv_iload_n hx hb dc_X_text_40 rfl (lv_at hl 0 rfl) ?_
        refine lv_iload_n hx hb dc_X_text_41 rfl (lv_at hl 2 rfl) ?_
        obtain ⟨hw1, hw2⟩ := hw
        refine lv_if_ne (tgt := 49) hx hb dc_X_text_42 (by decide) (fun hc => ?_) (fun hc => ?_)
        · have hw := hw1 hc
          clear hw1 hw2
          refine lv_iconst (v := 2) hx hb dc_X_text_49 (by decide) ?_
          exact B_50 _ _ _ a2 (2 : Int32) v17 fO8 fU8 fW8 fG8 fL22 len22 size8 hw hP hD hS (lv_sub hl [1, 3] rfl)
        · have hw := hw2 (fun h9 => h9 hc)
          clear hw1 hw2
          refine lv_iconst (v := 0) hx hb dc_X_text_45 (by decide) ?_
          refine lv_goto (tgt := 50) hx hb dc_X_text_46 (by decide) ?_
          exact B_50 _ _ _ a2 (0 : Int32) v17 fO8 fU8 fW8 fG8 fL22 len22 size8 hw hP hD hS (lv_sub hl [1, 3] rfl)
      · have hw := hw2 (fun h9 => h9 hc)
        clear hw1 hw2
        refine lv_aload_n hx hb dc_X_text_30 rfl (lv_at hl 1 rfl) ?_
        refine lv_iload_n hx hb dc_X_text_31 rfl (lv_at hl 0 rfl) ?_
        refine lv_iload_n hx hb dc_X_text_32 rfl (lv_at hl 3 rfl) ?_
        refine gc_v (S := (Nat → Int64) × (Nat → Int64) × (Nat → Int32) × (Nat → Int32) × (Nat → Int32) × Int32 × Int32) (w1 := (fun u => (wd_X h0 qO qU qW qG qN qL cJ cI cZ cB u.1 u.2.1 u.2.2.1 u.2.2.2.1 u.2.2.2.2.1 u.2.2.2.2.2.1 u.2.2.2.2.2.2))) (wc := (wd_X h0 qO qU qW qG qN qL cJ cI cZ cB fO8 fU8 fW8 fG8 fL22 len22 size8)) (wr := ([] : va_W)) (va_runV (As := [.int v17, .int a2]) (rest := []) ⟨hx, hb, hml, hown, hts⟩ (kt_X_writeNumber l dC dI cJ cI cZ cB h0 qO qU qW qG qN qL _ v17 a2 fO8 fU8 fW8 fG8 fL22 len22 size8 _ hw) ⟨callB_of 2 hts (gw_in mw_t385) rfl rfl rfl (hq mw_t1) (hq mw_t382) (by decide +kernel) ⟨Nat.le_of_ble_eq_true rfl, Nat.le_of_ble_eq_true rfl⟩, hq mw_t384, hq mw_s29⟩ (pv_W (va_recv (q0 := 0) (ci := 1) hK hP rfl rfl) (hP.sub (ws' := (wd_X h0 qO qU qW qG qN qL cJ cI cZ cB fO8 fU8 fW8 fG8 fL22 len22 size8)) [0, 1, 2, 3, 4, 5, 6] rfl) hK (hD.sub (ws' := (wd_X h0 qO qU qW qG qN qL cJ cI cZ cB fO8 fU8 fW8 fG8 fL22 len22 size8)) [0, 1, 2, 3, 4, 5, 6] (by decide) rfl) hE) rfl rfl hl.1 rfl (lv_room (Nat.le_of_ble_eq_true rfl)) dc_X_text_33 ⟨Nat.le_of_ble_eq_true rfl, Nat.le_of_ble_eq_true rfl⟩) hP hD hS hA [0, 1, 2, 3, 4, 5, 6] [] rfl rfl (by decide) (by decide) (fun u H locs hw hP hD hS => ?_)
        obtain ⟨fO33, fU33, fW33, fG33, fL33, len33, size33⟩ := u
        have hP : va_P (dC, dI) cs_3 (wd_X h0 qO qU qW qG qN qL cJ cI cZ cB fO33 fU33 fW33 fG33 fL33 len33 size33) H := hP.sub (ws' := (wd_X h0 qO qU qW qG qN qL cJ cI cZ cB fO33 fU33 fW33 fG33 fL33 len33 size33)) [0, 1, 2, 3, 4, 5, 6] rfl
        have hD : va_D A (wd_X h0 qO qU qW qG qN qL cJ cI cZ cB fO33 fU33 fW33 fG33 fL33 len33 size33) := hD.sub (ws' := (wd_X h0 qO qU qW qG qN qL cJ cI cZ cB fO33 fU33 fW33 fG33 fL33 len33 size33)) [0, 1, 2, 3, 4, 5, 6] (by decide) rfl
        try dsimp only at hw
        refine lv_goto (tgt := 54) hx hb dc_X_text_36 (by decide) ?_
        exact B_54 _ _ _ fO33 fU33 fW33 fG33 fL33 len33 size33 hw hP hD hS (lv_sub hl [1] rfl)
    · exact gx_T (E0 := "java/lang/IllegalStateException") (u := (fO, fU, fW, fG, fL, len, size)) (wc := (wd_X h0 qO qU qW qG qN qL cJ cI cZ cB fO fU fW fG fL len size)) (wr := ([] : va_W)) (vx_runV (As := [.int (1 : Int32)]) (rest := []) ⟨hx, hb, hml, hown, hts⟩ (kt_X_demandValues_t l hlt dC dI cJ cI cZ cB h0 qO qU qW qG qN qL _ (1 : Int32) fO fU fW fG fL len size hw) ⟨callB_of 1 hts (gw_in mw_t184) rfl rfl rfl (hq mw_t1) (hq mw_t181) (by decide +kernel) ⟨Nat.le_of_ble_eq_true rfl, Nat.le_of_ble_eq_true rfl⟩, hq mw_t183, hq mw_s4⟩ (pq_W (va_recv (q0 := 0) (ci := 1) hK hP rfl rfl) (hP.sub (ws' := (wd_X h0 qO qU qW qG qN qL cJ cI cZ cB fO fU fW fG fL len size)) [0, 1, 2, 3, 4, 5, 6] rfl) hK (hD.sub (ws' := (wd_X h0 qO qU qW qG qN qL cJ cI cZ cB fO fU fW fG fL len size)) [0, 1, 2, 3, 4, 5, 6] (by decide) rfl) hE (zz_W hZ hS (va_free (wc := (wd_X h0 qO qU qW qG qN qL cJ cI cZ cB fO fU fW fG fL len size)) hD hS hA [0, 1, 2, 3, 4, 5, 6] rfl))) rfl rfl hl.1 rfl (lv_room (Nat.le_of_ble_eq_true rfl)) dc_X_text_8 ⟨Nat.le_of_ble_eq_true rfl, Nat.le_of_ble_eq_true rfl⟩) hP hK hD hS hA [0, 1, 2, 3, 4, 5, 6] [] rfl rfl (by decide) (by decide) [0, 1, 2, 3, 4, 5, 6] rfl rfl (by decide) htab hlocks hpx rfl
  · exact gx_T (E0 := "java/lang/IllegalArgumentException") (u := (fO, fU, fW, fG, fL, len, size)) (wc := ([] : va_W)) (wr := ([(h0, .inr (1, [.ref qO, .ref qU, .ref qW, .ref qG, .ref qN, .int size])), (qO, .inl (cJ, 64, .inr (.inl fO))), (qU, .inl (cJ, 64, .inr (.inl fU))), (qW, .inl (cI, 64, .inl fW)), (qG, .inl (cZ, 64, .inl fG)), (qN, .inr (0, [.ref qL, .int len])), (qL, .inl (cB, 64, .inl fL))] : va_W)) (vx_runS (As := [.int a1, .int (0 : Int32), .int (2 : Int32)]) (rest := []) ⟨hx, hb, hml, hown, hts⟩ (kt_X_demandRange_t l hlt dC dI cJ cI cZ cB _ a1 (0 : Int32) (2 : Int32) hw) ⟨callB_of 3 hts (gw_in mw_t74) rfl rfl rfl (hq mw_t1) (hq mw_t72) (by decide +kernel) ⟨Nat.le_of_ble_eq_true rfl, Nat.le_of_ble_eq_true rfl⟩, hq mw_t73⟩ (pz_W (hP.sub (ws' := ([] : va_W)) [] rfl) hK (hD.sub (ws' := ([] : va_W)) [] (by decide) rfl) hE (zz_W hZ hS (va_free (wc := ([] : va_W)) hD hS hA [] rfl))) rfl rfl hl.1 rfl (lv_room (Nat.le_of_ble_eq_true rfl)) dc_X_text_3 ⟨Nat.le_of_ble_eq_true rfl, Nat.le_of_ble_eq_true rfl⟩) hP hK hD hS hA [] [0, 1, 2, 3, 4, 5, 6] rfl rfl (by decide) (by decide) [0, 1, 2, 3, 4, 5, 6] rfl rfl (by decide) htab hlocks hpx rfl
set_option maxHeartbeats 4000000 in
set_option maxRecDepth 100000 in
theorem kt_X_letter (l : Launch) (hlt : l.stackTraces = false) (dC : Nat → ClassId) (dI : Nat → Nat → Nat) (cJ cI cZ cB : ClassId) (h0 qO qU qW qG qN qL : Nat) (sz : Nat) (a1 : Int32) (fO : (Nat → Int64)) (fU : (Nat → Int64)) (fW : (Nat → Int32)) (fG : (Nat → Int32)) (fL : (Nat → Int32)) (len : Int32) (size : Int32) (post : Int32 → (Nat → Int64) → (Nat → Int64) → (Nat → Int32) → (Nat → Int32) → (Nat → Int32) → Int32 → Int32 → Prop) (px : String → (Nat → Int64) → (Nat → Int64) → (Nat → Int32) → (Nat → Int32) → (Nat → Int32) → Int32 → Int32 → Prop) (hw : wp_X_letter post px a1 fO fU fW fG fL len size) : vx_Met l yn_X_letter ws_X_letter rm_X_letter (va_Pc [.ref h0, .int a1] (pc_Z (dC, dI) (ty_4 cJ cI cZ cB) (wd_X h0 qO qU qW qG qN qL cJ cI cZ cB fO fU fW fG fL len size) sz)) (qi_X dC dI cJ cI cZ cB h0 qO qU qW qG qN qL post (va_A (wd_X h0 qO qU qW qG qN qL cJ cI cZ cB fO fU fW fG fL len size) sz)) (qx_X dC dI cJ cI cZ cB h0 qO qU qW qG qN qL px (va_A (wd_X h0 qO qU qW qG qN qL cJ cI cZ cB fO fU fW fG fL len size) sz)) 1 6 (va_A (wd_X h0 qO qU qW qG qN qL cJ cI cZ cB fO fU fW fG fL len size) sz) := by
  refine vx_ofW (cc := cd_X_letter) (maxL := 2) (ret := (some .int)) (by decide) rfl ?_
  intro p e s m args below meth c s₁ B hml htab hv
  obtain ⟨rfl, ⟨hsz, hP, hK, hD0, hE⟩, hZ⟩ := hv
  have hx := B.exec
  have hb := B.bytes
  have hr := B.returns
  have hts := atoms_spec (ws := ws_X_letter) B.pre
  have hq : ∀ {w : Cond}, w ∈ wg_all → w.before ([.ref h0, .int a1] : List Value).toArray s = true := fun h => hts _ (List.mem_cons_of_mem _ h)
  have hu : ∀ L : List Cond, (∀ w ∈ L, w ∈ wg_all) → ∀ w ∈ L, w ∈ ws_X_letter := fun L h w hw => List.mem_cons_of_mem _ (h w hw)
  have hown : s.vm.findClass "FourWords" = some m.cls := findClass_of_methodNamed B.named
  have hlocks := B.notSynchronized
  subst hsz
  have hD := hD0.self (sz := s.heap.size)
  generalize hAe : va_A (wd_X h0 qO qU qW qG qN qL cJ cI cZ cB fO fU fW fG fL len size) s.heap.size = A at hD hZ ⊢
  have hA : ∀ q : Nat, s.heap.size ≤ q → A q := fun q h => by rw [← hAe]; exact Or.inr h
  have hS : va_S A s.heap s.heap [] := va_S.rf
  have hl := lv_entry [.ref h0, .int a1] (n := 2) (Nat.le_of_ble_eq_true rfl)
  rw [lg_entry_eq]
  generalize (lg_sl [.ref h0, .int a1] ++ List.replicate (2 - (lg_sl [.ref h0, .int a1]).length) Slot.unset).toArray = ls at hl ⊢
  have hl : lv_has ls 2 [(0, .ref h0), (1, .int a1)] := hl
  have B_15 : ∀ (H : Heap) (locs : List Loc) (ls : Array Slot) (fO : (Nat → Int64)) (fU : (Nat → Int64)) (fW : (Nat → Int32)) (fG : (Nat → Int32)) (fL : (Nat → Int32)) (len : Int32) (size : Int32), wp_X_letter_15 post px fO fU fW fG fL len size → va_P (dC, dI) cs_3 (wd_X h0 qO qU qW qG qN qL cJ cI cZ cB fO fU fW fG fL len size) H → va_D A (wd_X h0 qO qU qW qG qN qL cJ cI cZ cB fO fU fW fG fL len size) → va_S A s.heap H locs → lv_has ls 2 [] → W p l e (headSpec ws_X_letter rm_X_letter).room s m ([.ref h0, .int a1] : List Value).toArray below meth c H locs 0 0 (vx_MQ below (qi_X dC dI cJ cI cZ cB h0 qO qU qW qG qN qL post A) (qx_X dC dI cJ cI cZ cB h0 qO qU qW qG qN qL px A) ([.ref h0, .int a1] : List Value).toArray s 1 6 A) (F0 m 15 ls []) := by
    intro H locs ls fO fU fW fG fL len size hw hP hD hS hl
    unfold wp_X_letter_15 at hw
    exact gt_S hx hb hlt hown (E := "java/lang/IndexOutOfBoundsException") (hq mw_t431) (hq mw_t12) (en_S131 hE) (oa_133 hq hE) (og_133) hZ.1 hZ.2 hS (hl.1.trans hml.symm) dc_X_letter_15 dc_X_letter_18 dc_X_letter_19 dc_X_letter_21 dc_X_letter_24 htab (Nat.le_of_ble_eq_true rfl) (Nat.le_of_ble_eq_true rfl) (Nat.le_of_ble_eq_true rfl) (Nat.le_of_ble_eq_true rfl) hlocks (xc_p (u := ("java/lang/IndexOutOfBoundsException", (fO, fU, fW, fG, fL, len, size))) rfl hw hP hK hD hS) hS.2.2
  unfold wp_X_letter at hw
  refine lv_iload_n hx hb dc_X_letter_0 rfl (lv_at hl 1 rfl) ?_
  obtain ⟨hw1, hw2⟩ := hw
  refine lv_if_lt (tgt := 15) hx hb dc_X_letter_1 (by decide) (fun hc => ?_) (fun hc => ?_)
  · have hw := hw1 hc
    clear hw1 hw2
    exact B_15 _ _ _ fO fU fW fG fL len size hw hP hD hS (lv_sub hl [] rfl)
  · have hw := hw2 hc
    clear hw1 hw2
    refine lv_iload_n hx hb dc_X_letter_4 rfl (lv_at hl 1 rfl) ?_
    refine lv_aload_n hx hb dc_X_letter_5 rfl (lv_at hl 0 rfl) ?_
    refine va_get (D := (dC, dI)) (ci := 1) (v := .ref qN) (C := "FourWords") (T := tb_X) (N := 6) hx hb hts (hu _ um_X) hown hK hP 0 rfl rfl 4 (by decide) (hq mw_t44) (fun _ h9 => h9) rfl dc_X_letter_6 ?_
    refine va_getN (D := (dC, dI)) (ci := 0) (v := .int len) (C := "FourWords$Line") (T := tb_N) (N := 2) hx hb hts (hu _ um_N) hown hK hP 5 rfl rfl 1 (by decide) (va_Nw.use rfl (en_X126 hE)) (fun _ h9 => h9) rfl dc_X_letter_9 ?_
    obtain ⟨hw1, hw2⟩ := hw
    refine lv_icmp_lt (tgt := 25) hx hb dc_X_letter_12 (by decide) (fun hc => ?_) (fun hc => ?_)
    · have hw := hw1 hc
      clear hw1 hw2
      refine lv_aload_n hx hb dc_X_letter_25 rfl (lv_at hl 0 rfl) ?_
      refine va_get (D := (dC, dI)) (ci := 1) (v := .ref qN) (C := "FourWords") (T := tb_X) (N := 6) hx hb hts (hu _ um_X) hown hK hP 0 rfl rfl 4 (by decide) (hq mw_t44) (fun _ h9 => h9) rfl dc_X_letter_26 ?_
      refine va_getN (D := (dC, dI)) (ci := 0) (v := .ref qL) (C := "FourWords$Line") (T := tb_N) (N := 2) hx hb hts (hu _ um_N) hown hK hP 5 rfl rfl 0 (by decide) (va_Nw.use rfl (en_X136 hE)) (fun _ h9 => h9) rfl dc_X_letter_29 ?_
      refine lv_iload_n hx hb dc_X_letter_32 rfl (lv_at hl 1 rfl) ?_
      obtain ⟨hin, hw⟩ := hw
      refine va_bald hx hb hK hP 6 3 rfl rfl hin dc_X_letter_33 ?_
      refine W.widen (k := 1) (n := 6) (Nat.zero_le _) (Nat.zero_le _) ?_
      exact vx_ret (W.iret (v := fL a1.toNatClampNeg) hx hb hr (fun t ht hW => ⟨⟨fL a1.toNatClampNeg, (fO, fU, fW, fG, fL, len, size), rfl, hw, by rw [ht]; exact hP, va_K.moved hW.alike hK, hD⟩, hS.F ht⟩) hS.2.2 dc_X_letter_34)
    · have hw := hw2 hc
      clear hw1 hw2
      exact B_15 _ _ _ fO fU fW fG fL len size hw hP hD hS (lv_sub hl [] rfl)

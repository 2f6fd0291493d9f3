set_option maxHeartbeats 4000000 in
set_option maxRecDepth 100000 in
theorem kt_X_choose (l : Launch) (hlt : l.stackTraces = false) (dC : Nat → ClassId) (dI : Nat → Nat → Nat) (cJ cI cZ cB : ClassId) (h0 qO qU qW qG qN qL : Nat) (sz : Nat) (fO : (Nat → Int64)) (fU : (Nat → Int64)) (fW : (Nat → Int32)) (fG : (Nat → Int32)) (fL : (Nat → Int32)) (len : Int32) (size : Int32) (post : (Nat → Int64) → (Nat → Int64) → (Nat → Int32) → (Nat → Int32) → (Nat → Int32) → Int32 → Int32 → Prop) (px : String → (Nat → Int64) → (Nat → Int64) → (Nat → Int32) → (Nat → Int32) → (Nat → Int32) → Int32 → Int32 → Prop) (hw : wp_X_choose post px fO fU fW fG fL len size) : vx_Met l yn_X_choose ws_X_choose rm_X_choose (va_Pc [.ref h0] (pc_Z (dC, dI) (ty_4 cJ cI cZ cB) (wd_X h0 qO qU qW qG qN qL cJ cI cZ cB fO fU fW fG fL len size) sz)) (qv_X dC dI cJ cI cZ cB h0 qO qU qW qG qN qL post (va_A (wd_X h0 qO qU qW qG qN qL cJ cI cZ cB fO fU fW fG fL len size) sz)) (qx_X dC dI cJ cI cZ cB h0 qO qU qW qG qN qL px (va_A (wd_X h0 qO qU qW qG qN qL cJ cI cZ cB fO fU fW fG fL len size) sz)) 1 6 (va_A (wd_X h0 qO qU qW qG qN qL cJ cI cZ cB fO fU fW fG fL len size) sz) := by
  refine vx_ofW (cc := cd_X_choose) (maxL := 5) (ret := none) (by decide) rfl ?_
  intro p e s m args below meth c s₁ B hml htab hv
  obtain ⟨rfl, ⟨hsz, hP, hK, hD0, hE⟩, hZ⟩ := hv
  have hx := B.exec
  have hb := B.bytes
  have hr := B.returns
  have hts := atoms_spec (ws := ws_X_choose) B.pre
  have hq : ∀ {w : Cond}, w ∈ wg_all → w.before ([.ref h0] : List Value).toArray s = true := fun h => hts _ (List.mem_cons_of_mem _ h)
  have hu : ∀ L : List Cond, (∀ w ∈ L, w ∈ wg_all) → ∀ w ∈ L, w ∈ ws_X_choose := fun L h w hw => List.mem_cons_of_mem _ (h w hw)
  have hown : s.vm.findClass "FourWords" = some m.cls := findClass_of_methodNamed B.named
  have hlocks := B.notSynchronized
  subst hsz
  have hD := hD0.self (sz := s.heap.size)
  generalize hAe : va_A (wd_X h0 qO qU qW qG qN qL cJ cI cZ cB fO fU fW fG fL len size) s.heap.size = A at hD hZ ⊢
  have hA : ∀ q : Nat, s.heap.size ≤ q → A q := fun q h => by rw [← hAe]; exact Or.inr h
  have hS : va_S A s.heap s.heap [] := va_S.rf
  have hl := lv_entry [.ref h0] (n := 5) (Nat.le_of_ble_eq_true rfl)
  rw [lg_entry_eq]
  generalize (lg_sl [.ref h0] ++ List.replicate (5 - (lg_sl [.ref h0]).length) Slot.unset).toArray = ls at hl ⊢
  have hl : lv_has ls 5 [(0, .ref h0)] := hl
  have B_83 : ∀ (H : Heap) (locs : List Loc) (ls : Array Slot) (x1 : Int32) (t0 : Int32) (fO : (Nat → Int64)) (fU : (Nat → Int64)) (fW : (Nat → Int32)) (fG : (Nat → Int32)) (fL : (Nat → Int32)) (len : Int32) (size : Int32), wp_X_choose_83 post px x1 t0 fO fU fW fG fL len size → va_P (dC, dI) cs_3 (wd_X h0 qO qU qW qG qN qL cJ cI cZ cB fO fU fW fG fL len size) H → va_D A (wd_X h0 qO qU qW qG qN qL cJ cI cZ cB fO fU fW fG fL len size) → va_S A s.heap H locs → lv_has ls 5 [(0, .ref h0), (1, .int x1)] → W p l e (headSpec ws_X_choose rm_X_choose).room s m ([.ref h0] : List Value).toArray below meth c H locs 0 0 (vx_MQ below (qv_X dC dI cJ cI cZ cB h0 qO qU qW qG qN qL post A) (qx_X dC dI cJ cI cZ cB h0 qO qU qW qG qN qL px A) ([.ref h0] : List Value).toArray s 1 6 A) (F0 m 83 ls [.int t0, .ref h0]) := by
    intro H locs ls x1 t0 fO fU fW fG fL len size hw hP hD hS hl
    unfold wp_X_choose_83 at hw
    refine lv_iload_n hx hb dc_X_choose_83 rfl (lv_at hl 1 rfl) ?_
    refine gc_v (S := (Nat → Int64) × (Nat → Int64) × (Nat → Int32) × (Nat → Int32) × (Nat → Int32) × Int32 × Int32) (w1 := (fun u => (wd_X h0 qO qU qW qG qN qL cJ cI cZ cB u.1 u.2.1 u.2.2.1 u.2.2.2.1 u.2.2.2.2.1 u.2.2.2.2.2.1 u.2.2.2.2.2.2))) (wc := (wd_X h0 qO qU qW qG qN qL cJ cI cZ cB fO fU fW fG fL len size)) (wr := ([] : va_W)) (va_runV (As := [.int t0, .int x1]) (rest := []) ⟨hx, hb, hml, hown, hts⟩ (kt_X_copyValue l dC dI cJ cI cZ cB h0 qO qU qW qG qN qL _ t0 x1 fO fU fW fG fL len size _ hw) ⟨callB_of 2 hts (gw_in mw_t322) rfl rfl rfl (hq mw_t1) (hq mw_t319) (by decide +kernel) ⟨Nat.le_of_ble_eq_true rfl, Nat.le_of_ble_eq_true rfl⟩, hq mw_t321, hq mw_s26⟩ (pv_W (va_recv (q0 := 0) (ci := 1) hK hP rfl rfl) (hP.sub (ws' := (wd_X h0 qO qU qW qG qN qL cJ cI cZ cB fO fU fW fG fL len size)) [0, 1, 2, 3, 4, 5, 6] rfl) hK (hD.sub (ws' := (wd_X h0 qO qU qW qG qN qL cJ cI cZ cB fO fU fW fG fL len size)) [0, 1, 2, 3, 4, 5, 6] (by decide) rfl) hE) rfl rfl hl.1 rfl (lv_room (Nat.le_of_ble_eq_true rfl)) dc_X_choose_84 ⟨Nat.le_of_ble_eq_true rfl, Nat.le_of_ble_eq_true rfl⟩) hP hD hS hA [0, 1, 2, 3, 4, 5, 6] [] rfl rfl (by decide) (by decide) (fun u H locs hw hP hD hS => ?_)
    obtain ⟨fO84, fU84, fW84, fG84, fL84, len84, size84⟩ := u
    have hP : va_P (dC, dI) cs_3 (wd_X h0 qO qU qW qG qN qL cJ cI cZ cB fO84 fU84 fW84 fG84 fL84 len84 size84) H := hP.sub (ws' := (wd_X h0 qO qU qW qG qN qL cJ cI cZ cB fO84 fU84 fW84 fG84 fL84 len84 size84)) [0, 1, 2, 3, 4, 5, 6] rfl
    have hD : va_D A (wd_X h0 qO qU qW qG qN qL cJ cI cZ cB fO84 fU84 fW84 fG84 fL84 len84 size84) := hD.sub (ws' := (wd_X h0 qO qU qW qG qN qL cJ cI cZ cB fO84 fU84 fW84 fG84 fL84 len84 size84)) [0, 1, 2, 3, 4, 5, 6] (by decide) rfl
    try dsimp only at hw
    refine lv_aload_n hx hb dc_X_choose_87 rfl (lv_at hl 0 rfl) ?_
    refine lv_dup hx hb dc_X_choose_88 rfl ?_
    refine va_get (D := (dC, dI)) (ci := 1) (v := .int size84) (C := "FourWords") (T := tb_X) (N := 6) hx hb hts (hu _ um_X) hown hK hP 0 rfl rfl 5 (by decide) (hq mw_t45) (fun _ h9 => h9) rfl dc_X_choose_89 ?_
    refine lv_iconst (v := 2) hx hb dc_X_choose_92 (by decide) ?_
    refine lv_isub hx hb dc_X_choose_93 ?_
    refine va_put (D := (dC, dI)) (ci := 1) (v := .int (size84 - (2 : Int32))) (ty := .int) (C := "FourWords") (T := tb_X) (N := 6) hx hb hts (hu _ um_X) ft_X fk_X fn_X hown hK hP hD hS 0 rfl rfl 5 (by decide) (hq mw_t45) (fun _ h9 => h9) rfl (by decide +kernel) rfl rfl (Nat.le_of_ble_eq_true rfl) dc_X_choose_94 (fun H locs hP hD hS => ?_)
    have hP : va_P (dC, dI) cs_3 (wd_X h0 qO qU qW qG qN qL cJ cI cZ cB fO84 fU84 fW84 fG84 fL84 len84 (size84 - (2 : Int32))) H := hP
    have hD : va_D A (wd_X h0 qO qU qW qG qN qL cJ cI cZ cB fO84 fU84 fW84 fG84 fL84 len84 (size84 - (2 : Int32))) := hD
    refine W.widen (k := 1) (n := 6) (Nat.zero_le _) (Nat.zero_le _) ?_
    exact vx_ret (W.vret hx hb hr (fun t ht hW => ⟨⟨(fO84, fU84, fW84, fG84, fL84, len84, size84 - (2 : Int32)), rfl, hw, by rw [ht]; exact hP, va_K.moved hW.alike hK, hD⟩, hS.F ht⟩) hS.2.2 dc_X_choose_97)
  have B_72 : ∀ (H : Heap) (locs : List Loc) (ls : Array Slot) (x1 : Int32) (x2 : Int32) (x3 : Int32) (x4 : Int32) (fO : (Nat → Int64)) (fU : (Nat → Int64)) (fW : (Nat → Int32)) (fG : (Nat → Int32)) (fL : (Nat → Int32)) (len : Int32) (size : Int32), wp_X_choose_72 post px x1 x2 x3 x4 fO fU fW fG fL len size → va_P (dC, dI) cs_3 (wd_X h0 qO qU qW qG qN qL cJ cI cZ cB fO fU fW fG fL len size) H → va_D A (wd_X h0 qO qU qW qG qN qL cJ cI cZ cB fO fU fW fG fL len size) → va_S A s.heap H locs → lv_has ls 5 [(0, .ref h0), (1, .int x1), (2, .int x2), (3, .int x3), (4, .int x4)] → W p l e (headSpec ws_X_choose rm_X_choose).room s m ([.ref h0] : List Value).toArray below meth c H locs 0 0 (vx_MQ below (qv_X dC dI cJ cI cZ cB h0 qO qU qW qG qN qL post A) (qx_X dC dI cJ cI cZ cB h0 qO qU qW qG qN qL px A) ([.ref h0] : List Value).toArray s 1 6 A) (F0 m 72 ls []) := by
    intro H locs ls x1 x2 x3 x4 fO fU fW fG fL len size hw hP hD hS hl
    unfold wp_X_choose_72 at hw
    refine lv_aload_n hx hb dc_X_choose_72 rfl (lv_at hl 0 rfl) ?_
    refine lv_iload hx hb dc_X_choose_73 (lv_at hl 4 rfl) ?_
    obtain ⟨hw1, hw2⟩ := hw
    refine lv_if_ne (tgt := 82) hx hb dc_X_choose_75 (by decide) (fun hc => ?_) (fun hc => ?_)
    · have hw := hw1 hc
      clear hw1 hw2
      refine lv_iload_n hx hb dc_X_choose_82 rfl (lv_at hl 2 rfl) ?_
      exact B_83 _ _ _ x1 x2 fO fU fW fG fL len size hw hP hD hS (lv_sub hl [0, 1] rfl)
    · have hw := hw2 (fun h9 => h9 hc)
      clear hw1 hw2
      refine lv_iload_n hx hb dc_X_choose_78 rfl (lv_at hl 3 rfl) ?_
      refine lv_goto (tgt := 83) hx hb dc_X_choose_79 (by decide) ?_
      exact B_83 _ _ _ x1 x3 fO fU fW fG fL len size hw hP hD hS (lv_sub hl [0, 1] rfl)
  unfold wp_X_choose at hw
  refine lv_aload_n hx hb dc_X_choose_0 rfl (lv_at hl 0 rfl) ?_
  refine lv_iconst (v := 3) hx hb dc_X_choose_1 (by decide) ?_
  rcases hw with hw | ⟨hw, hpx⟩
  · refine gc_v (S := (Nat → Int64) × (Nat → Int64) × (Nat → Int32) × (Nat → Int32) × (Nat → Int32) × Int32 × Int32) (w1 := (fun u => (wd_X h0 qO qU qW qG qN qL cJ cI cZ cB u.1 u.2.1 u.2.2.1 u.2.2.2.1 u.2.2.2.2.1 u.2.2.2.2.2.1 u.2.2.2.2.2.2))) (wc := (wd_X h0 qO qU qW qG qN qL cJ cI cZ cB fO fU fW fG fL len size)) (wr := ([] : va_W)) (va_runV (As := [.int (3 : Int32)]) (rest := []) ⟨hx, hb, hml, hown, hts⟩ (kt_X_demandValues_k l dC dI cJ cI cZ cB h0 qO qU qW qG qN qL _ (3 : Int32) fO fU fW fG fL len size _ hw) ⟨callB_of 1 hts (gw_in mw_t184) rfl rfl rfl (hq mw_t1) (hq mw_t181) (by decide +kernel) ⟨Nat.le_of_ble_eq_true rfl, Nat.le_of_ble_eq_true rfl⟩, hq mw_t183, hq mw_s4⟩ (pv_W (va_recv (q0 := 0) (ci := 1) hK hP rfl rfl) (hP.sub (ws' := (wd_X h0 qO qU qW qG qN qL cJ cI cZ cB fO fU fW fG fL len size)) [0, 1, 2, 3, 4, 5, 6] rfl) hK (hD.sub (ws' := (wd_X h0 qO qU qW qG qN qL cJ cI cZ cB fO fU fW fG fL len size)) [0, 1, 2, 3, 4, 5, 6] (by decide) rfl) hE) rfl rfl hl.1 rfl (lv_room (Nat.le_of_ble_eq_true rfl)) dc_X_choose_2 ⟨Nat.le_of_ble_eq_true rfl, Nat.le_of_ble_eq_true rfl⟩) hP hD hS hA [0, 1, 2, 3, 4, 5, 6] [] rfl rfl (by decide) (by decide) (fun u H locs hw hP hD hS => ?_)
    obtain ⟨fO2, fU2, fW2, fG2, fL2, len2, size2⟩ := u
    have hP : va_P (dC, dI) cs_3 (wd_X h0 qO qU qW qG qN qL cJ cI cZ cB fO2 fU2 fW2 fG2 fL2 len2 size2) H := hP.sub (ws' := (wd_X h0 qO qU qW qG qN qL cJ cI cZ cB fO2 fU2 fW2 fG2 fL2 len2 size2)) [0, 1, 2, 3, 4, 5, 6] rfl
    have hD : va_D A (wd_X h0 qO qU qW qG qN qL cJ cI cZ cB fO2 fU2 fW2 fG2 fL2 len2 size2) := hD.sub (ws' := (wd_X h0 qO qU qW qG qN qL cJ cI cZ cB fO2 fU2 fW2 fG2 fL2 len2 size2)) [0, 1, 2, 3, 4, 5, 6] (by decide) rfl
    try dsimp only at hw
    refine lv_aload_n hx hb dc_X_choose_5 rfl (lv_at hl 0 rfl) ?_
    refine va_get (D := (dC, dI)) (ci := 1) (v := .int size2) (C := "FourWords") (T := tb_X) (N := 6) hx hb hts (hu _ um_X) hown hK hP 0 rfl rfl 5 (by decide) (hq mw_t45) (fun _ h9 => h9) rfl dc_X_choose_6 ?_
    refine lv_iconst (v := 3) hx hb dc_X_choose_9 (by decide) ?_
    refine lv_isub hx hb dc_X_choose_10 ?_
    refine lv_topi (fun v11 e11 => ?_)
    have hw := hw v11 e11
    refine lv_istore_n (lv' := [(1, .int v11), (0, .ref h0)]) hx hb dc_X_choose_11 rfl hl (Nat.le_of_ble_eq_true rfl) rfl (fun ls hl => ?_)
    refine lv_aload_n hx hb dc_X_choose_12 rfl (lv_at hl 1 rfl) ?_
    refine va_get (D := (dC, dI)) (ci := 1) (v := .int size2) (C := "FourWords") (T := tb_X) (N := 6) hx hb hts (hu _ um_X) hown hK hP 0 rfl rfl 5 (by decide) (hq mw_t45) (fun _ h9 => h9) rfl dc_X_choose_13 ?_
    refine lv_iconst (v := 2) hx hb dc_X_choose_16 (by decide) ?_
    refine lv_isub hx hb dc_X_choose_17 ?_
    refine lv_topi (fun v18 e18 => ?_)
    have hw := hw v18 e18
    refine lv_istore_n (lv' := [(2, .int v18), (1, .int v11), (0, .ref h0)]) hx hb dc_X_choose_18 rfl hl (Nat.le_of_ble_eq_true rfl) rfl (fun ls hl => ?_)
    refine lv_aload_n hx hb dc_X_choose_19 rfl (lv_at hl 2 rfl) ?_
    refine va_get (D := (dC, dI)) (ci := 1) (v := .int size2) (C := "FourWords") (T := tb_X) (N := 6) hx hb hts (hu _ um_X) hown hK hP 0 rfl rfl 5 (by decide) (hq mw_t45) (fun _ h9 => h9) rfl dc_X_choose_20 ?_
    refine lv_iconst (v := 1) hx hb dc_X_choose_23 (by decide) ?_
    refine lv_isub hx hb dc_X_choose_24 ?_
    refine lv_topi (fun v25 e25 => ?_)
    have hw := hw v25 e25
    refine lv_istore_n (lv' := [(3, .int v25), (2, .int v18), (1, .int v11), (0, .ref h0)]) hx hb dc_X_choose_25 rfl hl (Nat.le_of_ble_eq_true rfl) rfl (fun ls hl => ?_)
    refine lv_aload_n hx hb dc_X_choose_26 rfl (lv_at hl 3 rfl) ?_
    refine lv_iload_n hx hb dc_X_choose_27 rfl (lv_at hl 1 rfl) ?_
    refine lv_iload_n hx hb dc_X_choose_28 rfl (lv_at hl 0 rfl) ?_
    refine gc_v (S := (Nat → Int64) × (Nat → Int64) × (Nat → Int32) × (Nat → Int32) × (Nat → Int32) × Int32 × Int32) (w1 := (fun u => (wd_X h0 qO qU qW qG qN qL cJ cI cZ cB u.1 u.2.1 u.2.2.1 u.2.2.2.1 u.2.2.2.2.1 u.2.2.2.2.2.1 u.2.2.2.2.2.2))) (wc := (wd_X h0 qO qU qW qG qN qL cJ cI cZ cB fO2 fU2 fW2 fG2 fL2 len2 size2)) (wr := ([] : va_W)) (va_runV (As := [.int v18, .int v25]) (rest := []) ⟨hx, hb, hml, hown, hts⟩ (kt_X_bringTogether l dC dI cJ cI cZ cB h0 qO qU qW qG qN qL _ v18 v25 fO2 fU2 fW2 fG2 fL2 len2 size2 _ hw) ⟨callB_of 2 hts (gw_in mw_t189) rfl rfl rfl (hq mw_t1) (hq mw_t186) (by decide +kernel) ⟨Nat.le_of_ble_eq_true rfl, Nat.le_of_ble_eq_true rfl⟩, hq mw_t188, hq mw_s5⟩ (pv_W (va_recv (q0 := 0) (ci := 1) hK hP rfl rfl) (hP.sub (ws' := (wd_X h0 qO qU qW qG qN qL cJ cI cZ cB fO2 fU2 fW2 fG2 fL2 len2 size2)) [0, 1, 2, 3, 4, 5, 6] rfl) hK (hD.sub (ws' := (wd_X h0 qO qU qW qG qN qL cJ cI cZ cB fO2 fU2 fW2 fG2 fL2 len2 size2)) [0, 1, 2, 3, 4, 5, 6] (by decide) rfl) hE) rfl rfl hl.1 rfl (lv_room (Nat.le_of_ble_eq_true rfl)) dc_X_choose_29 ⟨Nat.le_of_ble_eq_true rfl, Nat.le_of_ble_eq_true rfl⟩) hP hD hS hA [0, 1, 2, 3, 4, 5, 6] [] rfl rfl (by decide) (by decide) (fun u H locs hw hP hD hS => ?_)
    obtain ⟨fO29, fU29, fW29, fG29, fL29, len29, size29⟩ := u
    have hP : va_P (dC, dI) cs_3 (wd_X h0 qO qU qW qG qN qL cJ cI cZ cB fO29 fU29 fW29 fG29 fL29 len29 size29) H := hP.sub (ws' := (wd_X h0 qO qU qW qG qN qL cJ cI cZ cB fO29 fU29 fW29 fG29 fL29 len29 size29)) [0, 1, 2, 3, 4, 5, 6] rfl
    have hD : va_D A (wd_X h0 qO qU qW qG qN qL cJ cI cZ cB fO29 fU29 fW29 fG29 fL29 len29 size29) := hD.sub (ws' := (wd_X h0 qO qU qW qG qN qL cJ cI cZ cB fO29 fU29 fW29 fG29 fL29 len29 size29)) [0, 1, 2, 3, 4, 5, 6] (by decide) rfl
    try dsimp only at hw
    refine lv_aload_n hx hb dc_X_choose_32 rfl (lv_at hl 3 rfl) ?_
    refine lv_iload_n hx hb dc_X_choose_33 rfl (lv_at hl 2 rfl) ?_
    refine gc_i (S := (Nat → Int64) × (Nat → Int64) × (Nat → Int32) × (Nat → Int32) × (Nat → Int32) × Int32 × Int32) (w1 := (fun u => (wd_X h0 qO qU qW qG qN qL cJ cI cZ cB u.1 u.2.1 u.2.2.1 u.2.2.2.1 u.2.2.2.2.1 u.2.2.2.2.2.1 u.2.2.2.2.2.2))) (wc := (wd_X h0 qO qU qW qG qN qL cJ cI cZ cB fO29 fU29 fW29 fG29 fL29 len29 size29)) (wr := ([] : va_W)) (va_runV (As := [.int v11]) (rest := []) ⟨hx, hb, hml, hown, hts⟩ (kt_X_anyOne l dC dI cJ cI cZ cB h0 qO qU qW qG qN qL _ v11 fO29 fU29 fW29 fG29 fL29 len29 size29 _ hw) ⟨callB_of 1 hts (gw_in mw_t259) rfl rfl rfl (hq mw_t1) (hq mw_t256) (by decide +kernel) ⟨Nat.le_of_ble_eq_true rfl, Nat.le_of_ble_eq_true rfl⟩, hq mw_t258, hq mw_s18⟩ (pv_W (va_recv (q0 := 0) (ci := 1) hK hP rfl rfl) (hP.sub (ws' := (wd_X h0 qO qU qW qG qN qL cJ cI cZ cB fO29 fU29 fW29 fG29 fL29 len29 size29)) [0, 1, 2, 3, 4, 5, 6] rfl) hK (hD.sub (ws' := (wd_X h0 qO qU qW qG qN qL cJ cI cZ cB fO29 fU29 fW29 fG29 fL29 len29 size29)) [0, 1, 2, 3, 4, 5, 6] (by decide) rfl) hE) rfl rfl hl.1 rfl (lv_room (Nat.le_of_ble_eq_true rfl)) dc_X_choose_34 ⟨Nat.le_of_ble_eq_true rfl, Nat.le_of_ble_eq_true rfl⟩) hP hD hS hA [0, 1, 2, 3, 4, 5, 6] [] rfl rfl (by decide) (by decide) (fun r34 u H locs hw hP hD hS => ?_)
    obtain ⟨fO34, fU34, fW34, fG34, fL34, len34, size34⟩ := u
    have hP : va_P (dC, dI) cs_3 (wd_X h0 qO qU qW qG qN qL cJ cI cZ cB fO34 fU34 fW34 fG34 fL34 len34 size34) H := hP.sub (ws' := (wd_X h0 qO qU qW qG qN qL cJ cI cZ cB fO34 fU34 fW34 fG34 fL34 len34 size34)) [0, 1, 2, 3, 4, 5, 6] rfl
    have hD : va_D A (wd_X h0 qO qU qW qG qN qL cJ cI cZ cB fO34 fU34 fW34 fG34 fL34 len34 size34) := hD.sub (ws' := (wd_X h0 qO qU qW qG qN qL cJ cI cZ cB fO34 fU34 fW34 fG34 fL34 len34 size34)) [0, 1, 2, 3, 4, 5, 6] (by decide) rfl
    try dsimp only at hw
    refine lv_istore (lv' := [(4, .int r34), (3, .int v25), (2, .int v18), (1, .int v11), (0, .ref h0)]) hx hb dc_X_choose_37 hl (Nat.le_of_ble_eq_true rfl) rfl (fun ls hl => ?_)
    refine lv_iload hx hb dc_X_choose_39 (lv_at hl 0 rfl) ?_
    refine lv_iconst (v := 2) hx hb dc_X_choose_41 (by decide) ?_
    obtain ⟨hw1, hw2⟩ := hw
    refine lv_icmp_ne (tgt := 72) hx hb dc_X_choose_42 (by decide) (fun hc => ?_) (fun hc => ?_)
    · have hw := hw1 hc
      clear hw1 hw2
      exact B_72 _ _ _ v11 v18 v25 r34 fO34 fU34 fW34 fG34 fL34 len34 size34 hw hP hD hS (lv_sub hl [4, 3, 2, 1, 0] rfl)
    · have hw := hw2 (fun h9 => h9 hc)
      clear hw1 hw2
      refine lv_aload_n hx hb dc_X_choose_45 rfl (lv_at hl 4 rfl) ?_
      refine lv_iload_n hx hb dc_X_choose_46 rfl (lv_at hl 2 rfl) ?_
      refine lv_aload_n hx hb dc_X_choose_47 rfl (lv_at hl 4 rfl) ?_
      refine lv_iload_n hx hb dc_X_choose_48 rfl (lv_at hl 2 rfl) ?_
      refine gc_l (S := (Nat → Int64) × (Nat → Int64) × (Nat → Int32) × (Nat → Int32) × (Nat → Int32) × Int32 × Int32) (w1 := (fun u => (wd_X h0 qO qU qW qG qN qL cJ cI cZ cB u.1 u.2.1 u.2.2.1 u.2.2.2.1 u.2.2.2.2.1 u.2.2.2.2.2.1 u.2.2.2.2.2.2))) (wc := (wd_X h0 qO qU qW qG qN qL cJ cI cZ cB fO34 fU34 fW34 fG34 fL34 len34 size34)) (wr := ([] : va_W)) (va_runV (As := [.int v18]) (rest := [.int v18, .ref h0]) ⟨hx, hb, hml, hown, hts⟩ (kt_X_sureOnes l dC dI cJ cI cZ cB h0 qO qU qW qG qN qL _ v18 fO34 fU34 fW34 fG34 fL34 len34 size34 _ hw) ⟨callB_of 1 hts (gw_in mw_t227) rfl rfl rfl (hq mw_t1) (hq mw_t224) (by decide +kernel) ⟨Nat.le_of_ble_eq_true rfl, Nat.le_of_ble_eq_true rfl⟩, hq mw_t226, hq mw_s11⟩ (pv_W (va_recv (q0 := 0) (ci := 1) hK hP rfl rfl) (hP.sub (ws' := (wd_X h0 qO qU qW qG qN qL cJ cI cZ cB fO34 fU34 fW34 fG34 fL34 len34 size34)) [0, 1, 2, 3, 4, 5, 6] rfl) hK (hD.sub (ws' := (wd_X h0 qO qU qW qG qN qL cJ cI cZ cB fO34 fU34 fW34 fG34 fL34 len34 size34)) [0, 1, 2, 3, 4, 5, 6] (by decide) rfl) hE) rfl rfl hl.1 rfl (lv_room (Nat.le_of_ble_eq_true rfl)) dc_X_choose_49 ⟨Nat.le_of_ble_eq_true rfl, Nat.le_of_ble_eq_true rfl⟩) hP hD hS hA [0, 1, 2, 3, 4, 5, 6] [] rfl rfl (by decide) (by decide) (fun r49 u H locs hw hP hD hS => ?_)
      obtain ⟨fO49, fU49, fW49, fG49, fL49, len49, size49⟩ := u
      have hP : va_P (dC, dI) cs_3 (wd_X h0 qO qU qW qG qN qL cJ cI cZ cB fO49 fU49 fW49 fG49 fL49 len49 size49) H := hP.sub (ws' := (wd_X h0 qO qU qW qG qN qL cJ cI cZ cB fO49 fU49 fW49 fG49 fL49 len49 size49)) [0, 1, 2, 3, 4, 5, 6] rfl
      have hD : va_D A (wd_X h0 qO qU qW qG qN qL cJ cI cZ cB fO49 fU49 fW49 fG49 fL49 len49 size49) := hD.sub (ws' := (wd_X h0 qO qU qW qG qN qL cJ cI cZ cB fO49 fU49 fW49 fG49 fL49 len49 size49)) [0, 1, 2, 3, 4, 5, 6] (by decide) rfl
      try dsimp only at hw
      refine lv_aload_n hx hb dc_X_choose_52 rfl (lv_at hl 4 rfl) ?_
      refine lv_iload_n hx hb dc_X_choose_53 rfl (lv_at hl 1 rfl) ?_
      refine gc_l (S := (Nat → Int64) × (Nat → Int64) × (Nat → Int32) × (Nat → Int32) × (Nat → Int32) × Int32 × Int32) (w1 := (fun u => (wd_X h0 qO qU qW qG qN qL cJ cI cZ cB u.1 u.2.1 u.2.2.1 u.2.2.2.1 u.2.2.2.2.1 u.2.2.2.2.2.1 u.2.2.2.2.2.2))) (wc := (wd_X h0 qO qU qW qG qN qL cJ cI cZ cB fO49 fU49 fW49 fG49 fL49 len49 size49)) (wr := ([] : va_W)) (va_runV (As := [.int v25]) (rest := [.long r49, .int v18, .ref h0]) ⟨hx, hb, hml, hown, hts⟩ (kt_X_sureOnes l dC dI cJ cI cZ cB h0 qO qU qW qG qN qL _ v25 fO49 fU49 fW49 fG49 fL49 len49 size49 _ hw) ⟨callB_of 1 hts (gw_in mw_t227) rfl rfl rfl (hq mw_t1) (hq mw_t224) (by decide +kernel) ⟨Nat.le_of_ble_eq_true rfl, Nat.le_of_ble_eq_true rfl⟩, hq mw_t226, hq mw_s11⟩ (pv_W (va_recv (q0 := 0) (ci := 1) hK hP rfl rfl) (hP.sub (ws' := (wd_X h0 qO qU qW qG qN qL cJ cI cZ cB fO49 fU49 fW49 fG49 fL49 len49 size49)) [0, 1, 2, 3, 4, 5, 6] rfl) hK (hD.sub (ws' := (wd_X h0 qO qU qW qG qN qL cJ cI cZ cB fO49 fU49 fW49 fG49 fL49 len49 size49)) [0, 1, 2, 3, 4, 5, 6] (by decide) rfl) hE) rfl rfl hl.1 rfl (lv_room (Nat.le_of_ble_eq_true rfl)) dc_X_choose_54 ⟨Nat.le_of_ble_eq_true rfl, Nat.le_of_ble_eq_true rfl⟩) hP hD hS hA [0, 1, 2, 3, 4, 5, 6] [] rfl rfl (by decide) (by decide) (fun r54 u H locs hw hP hD hS => ?_)
      obtain ⟨fO54, fU54, fW54, fG54, fL54, len54, size54⟩ := u
      have hP : va_P (dC, dI) cs_3 (wd_X h0 qO qU qW qG qN qL cJ cI cZ cB fO54 fU54 fW54 fG54 fL54 len54 size54) H := hP.sub (ws' := (wd_X h0 qO qU qW qG qN qL cJ cI cZ cB fO54 fU54 fW54 fG54 fL54 len54 size54)) [0, 1, 2, 3, 4, 5, 6] rfl
      have hD : va_D A (wd_X h0 qO qU qW qG qN qL cJ cI cZ cB fO54 fU54 fW54 fG54 fL54 len54 size54) := hD.sub (ws' := (wd_X h0 qO qU qW qG qN qL cJ cI cZ cB fO54 fU54 fW54 fG54 fL54 len54 size54)) [0, 1, 2, 3, 4, 5, 6] (by decide) rfl
      try dsimp only at hw
      refine lv_land hx hb dc_X_choose_57 ?_
      refine lv_aload_n hx hb dc_X_choose_58 rfl (lv_at hl 4 rfl) ?_
      refine lv_iload_n hx hb dc_X_choose_59 rfl (lv_at hl 2 rfl) ?_
      refine gc_l (S := (Nat → Int64) × (Nat → Int64) × (Nat → Int32) × (Nat → Int32) × (Nat → Int32) × Int32 × Int32) (w1 := (fun u => (wd_X h0 qO qU qW qG qN qL cJ cI cZ cB u.1 u.2.1 u.2.2.1 u.2.2.2.1 u.2.2.2.2.1 u.2.2.2.2.2.1 u.2.2.2.2.2.2))) (wc := (wd_X h0 qO qU qW qG qN qL cJ cI cZ cB fO54 fU54 fW54 fG54 fL54 len54 size54)) (wr := ([] : va_W)) (va_runV (As := [.int v18]) (rest := [.long (r49 &&& r54), .int v18, .ref h0]) ⟨hx, hb, hml, hown, hts⟩ (kt_X_sureZeros l dC dI cJ cI cZ cB h0 qO qU qW qG qN qL _ v18 fO54 fU54 fW54 fG54 fL54 len54 size54 _ hw) ⟨callB_of 1 hts (gw_in mw_t231) rfl rfl rfl (hq mw_t1) (hq mw_t228) (by decide +kernel) ⟨Nat.le_of_ble_eq_true rfl, Nat.le_of_ble_eq_true rfl⟩, hq mw_t230, hq mw_s12⟩ (pv_W (va_recv (q0 := 0) (ci := 1) hK hP rfl rfl) (hP.sub (ws' := (wd_X h0 qO qU qW qG qN qL cJ cI cZ cB fO54 fU54 fW54 fG54 fL54 len54 size54)) [0, 1, 2, 3, 4, 5, 6] rfl) hK (hD.sub (ws' := (wd_X h0 qO qU qW qG qN qL cJ cI cZ cB fO54 fU54 fW54 fG54 fL54 len54 size54)) [0, 1, 2, 3, 4, 5, 6] (by decide) rfl) hE) rfl rfl hl.1 rfl (lv_room (Nat.le_of_ble_eq_true rfl)) dc_X_choose_60 ⟨Nat.le_of_ble_eq_true rfl, Nat.le_of_ble_eq_true rfl⟩) hP hD hS hA [0, 1, 2, 3, 4, 5, 6] [] rfl rfl (by decide) (by decide) (fun r60 u H locs hw hP hD hS => ?_)
      obtain ⟨fO60, fU60, fW60, fG60, fL60, len60, size60⟩ := u
      have hP : va_P (dC, dI) cs_3 (wd_X h0 qO qU qW qG qN qL cJ cI cZ cB fO60 fU60 fW60 fG60 fL60 len60 size60) H := hP.sub (ws' := (wd_X h0 qO qU qW qG qN qL cJ cI cZ cB fO60 fU60 fW60 fG60 fL60 len60 size60)) [0, 1, 2, 3, 4, 5, 6] rfl
      have hD : va_D A (wd_X h0 qO qU qW qG qN qL cJ cI cZ cB fO60 fU60 fW60 fG60 fL60 len60 size60) := hD.sub (ws' := (wd_X h0 qO qU qW qG qN qL cJ cI cZ cB fO60 fU60 fW60 fG60 fL60 len60 size60)) [0, 1, 2, 3, 4, 5, 6] (by decide) rfl
      try dsimp only at hw
      refine lv_aload_n hx hb dc_X_choose_63 rfl (lv_at hl 4 rfl) ?_
      refine lv_iload_n hx hb dc_X_choose_64 rfl (lv_at hl 1 rfl) ?_
      refine gc_l (S := (Nat → Int64) × (Nat → Int64) × (Nat → Int32) × (Nat → Int32) × (Nat → Int32) × Int32 × Int32) (w1 := (fun u => (wd_X h0 qO qU qW qG qN qL cJ cI cZ cB u.1 u.2.1 u.2.2.1 u.2.2.2.1 u.2.2.2.2.1 u.2.2.2.2.2.1 u.2.2.2.2.2.2))) (wc := (wd_X h0 qO qU qW qG qN qL cJ cI cZ cB fO60 fU60 fW60 fG60 fL60 len60 size60)) (wr := ([] : va_W)) (va_runV (As := [.int v25]) (rest := [.long r60, .long (r49 &&& r54), .int v18, .ref h0]) ⟨hx, hb, hml, hown, hts⟩ (kt_X_sureZeros l dC dI cJ cI cZ cB h0 qO qU qW qG qN qL _ v25 fO60 fU60 fW60 fG60 fL60 len60 size60 _ hw) ⟨callB_of 1 hts (gw_in mw_t231) rfl rfl rfl (hq mw_t1) (hq mw_t228) (by decide +kernel) ⟨Nat.le_of_ble_eq_true rfl, Nat.le_of_ble_eq_true rfl⟩, hq mw_t230, hq mw_s12⟩ (pv_W (va_recv (q0 := 0) (ci := 1) hK hP rfl rfl) (hP.sub (ws' := (wd_X h0 qO qU qW qG qN qL cJ cI cZ cB fO60 fU60 fW60 fG60 fL60 len60 size60)) [0, 1, 2, 3, 4, 5, 6] rfl) hK (hD.sub (ws' := (wd_X h0 qO qU qW qG qN qL cJ cI cZ cB fO60 fU60 fW60 fG60 fL60 len60 size60)) [0, 1, 2, 3, 4, 5, 6] (by decide) rfl) hE) rfl rfl hl.1 rfl (lv_room (Nat.le_of_ble_eq_true rfl)) dc_X_choose_65 ⟨Nat.le_of_ble_eq_true rfl, Nat.le_of_ble_eq_true rfl⟩) hP hD hS hA [0, 1, 2, 3, 4, 5, 6] [] rfl rfl (by decide) (by decide) (fun r65 u H locs hw hP hD hS => ?_)
      obtain ⟨fO65, fU65, fW65, fG65, fL65, len65, size65⟩ := u
      have hP : va_P (dC, dI) cs_3 (wd_X h0 qO qU qW qG qN qL cJ cI cZ cB fO65 fU65 fW65 fG65 fL65 len65 size65) H := hP.sub (ws' := (wd_X h0 qO qU qW qG qN qL cJ cI cZ cB fO65 fU65 fW65 fG65 fL65 len65 size65)) [0, 1, 2, 3, 4, 5, 6] rfl
      have hD : va_D A (wd_X h0 qO qU qW qG qN qL cJ cI cZ cB fO65 fU65 fW65 fG65 fL65 len65 size65) := hD.sub (ws' := (wd_X h0 qO qU qW qG qN qL cJ cI cZ cB fO65 fU65 fW65 fG65 fL65 len65 size65)) [0, 1, 2, 3, 4, 5, 6] (by decide) rfl
      try dsimp only at hw
      refine lv_land hx hb dc_X_choose_68 ?_
      refine gc_v (S := (Nat → Int64) × (Nat → Int64) × (Nat → Int32) × (Nat → Int32) × (Nat → Int32) × Int32 × Int32) (w1 := (fun u => (wd_X h0 qO qU qW qG qN qL cJ cI cZ cB u.1 u.2.1 u.2.2.1 u.2.2.2.1 u.2.2.2.2.1 u.2.2.2.2.2.1 u.2.2.2.2.2.2))) (wc := (wd_X h0 qO qU qW qG qN qL cJ cI cZ cB fO65 fU65 fW65 fG65 fL65 len65 size65)) (wr := ([] : va_W)) (va_runV (As := [.int v18, .long (r49 &&& r54), .long (r60 &&& r65)]) (rest := []) ⟨hx, hb, hml, hown, hts⟩ (kt_X_setSure l dC dI cJ cI cZ cB h0 qO qU qW qG qN qL _ v18 (r49 &&& r54) (r60 &&& r65) fO65 fU65 fW65 fG65 fL65 len65 size65 _ hw) ⟨callB_of 3 hts (gw_in mw_t235) rfl rfl rfl (hq mw_t1) (hq mw_t232) (by decide +kernel) ⟨Nat.le_of_ble_eq_true rfl, Nat.le_of_ble_eq_true rfl⟩, hq mw_t234, hq mw_s13⟩ (pv_W (va_recv (q0 := 0) (ci := 1) hK hP rfl rfl) (hP.sub (ws' := (wd_X h0 qO qU qW qG qN qL cJ cI cZ cB fO65 fU65 fW65 fG65 fL65 len65 size65)) [0, 1, 2, 3, 4, 5, 6] rfl) hK (hD.sub (ws' := (wd_X h0 qO qU qW qG qN qL cJ cI cZ cB fO65 fU65 fW65 fG65 fL65 len65 size65)) [0, 1, 2, 3, 4, 5, 6] (by decide) rfl) hE) rfl rfl hl.1 rfl (lv_room (Nat.le_of_ble_eq_true rfl)) dc_X_choose_69 ⟨Nat.le_of_ble_eq_true rfl, Nat.le_of_ble_eq_true rfl⟩) hP hD hS hA [0, 1, 2, 3, 4, 5, 6] [] rfl rfl (by decide) (by decide) (fun u H locs hw hP hD hS => ?_)
      obtain ⟨fO69, fU69, fW69, fG69, fL69, len69, size69⟩ := u
      have hP : va_P (dC, dI) cs_3 (wd_X h0 qO qU qW qG qN qL cJ cI cZ cB fO69 fU69 fW69 fG69 fL69 len69 size69) H := hP.sub (ws' := (wd_X h0 qO qU qW qG qN qL cJ cI cZ cB fO69 fU69 fW69 fG69 fL69 len69 size69)) [0, 1, 2, 3, 4, 5, 6] rfl
      have hD : va_D A (wd_X h0 qO qU qW qG qN qL cJ cI cZ cB fO69 fU69 fW69 fG69 fL69 len69 size69) := hD.sub (ws' := (wd_X h0 qO qU qW qG qN qL cJ cI cZ cB fO69 fU69 fW69 fG69 fL69 len69 size69)) [0, 1, 2, 3, 4, 5, 6] (by decide) rfl
      try dsimp only at hw
      exact B_72 _ _ _ v11 v18 v25 r34 fO69 fU69 fW69 fG69 fL69 len69 size69 hw hP hD hS (lv_sub hl [4, 3, 2, 1, 0] rfl)
  · exact gx_T (E0 := "java/lang/IllegalStateException") (u := (fO, fU, fW, fG, fL, len, size)) (wc := (wd_X h0 qO qU qW qG qN qL cJ cI cZ cB fO fU fW fG fL len size)) (wr := ([] : va_W)) (vx_runV (As := [.int (3 : Int32)]) (rest := []) ⟨hx, hb, hml, hown, hts⟩ (kt_X_demandValues_t l hlt dC dI cJ cI cZ cB h0 qO qU qW qG qN qL _ (3 : Int32) fO fU fW fG fL len size hw) ⟨callB_of 1 hts (gw_in mw_t184) rfl rfl rfl (hq mw_t1) (hq mw_t181) (by decide +kernel) ⟨Nat.le_of_ble_eq_true rfl, Nat.le_of_ble_eq_true rfl⟩, hq mw_t183, hq mw_s4⟩ (pq_W (va_recv (q0 := 0) (ci := 1) hK hP rfl rfl) (hP.sub (ws' := (wd_X h0 qO qU qW qG qN qL cJ cI cZ cB fO fU fW fG fL len size)) [0, 1, 2, 3, 4, 5, 6] rfl) hK (hD.sub (ws' := (wd_X h0 qO qU qW qG qN qL cJ cI cZ cB fO fU fW fG fL len size)) [0, 1, 2, 3, 4, 5, 6] (by decide) rfl) hE (zz_W hZ hS (va_free (wc := (wd_X h0 qO qU qW qG qN qL cJ cI cZ cB fO fU fW fG fL len size)) hD hS hA [0, 1, 2, 3, 4, 5, 6] rfl))) rfl rfl hl.1 rfl (lv_room (Nat.le_of_ble_eq_true rfl)) dc_X_choose_2 ⟨Nat.le_of_ble_eq_true rfl, Nat.le_of_ble_eq_true rfl⟩) hP hK hD hS hA [0, 1, 2, 3, 4, 5, 6] [] rfl rfl (by decide) (by decide) [0, 1, 2, 3, 4, 5, 6] rfl rfl (by decide) htab hlocks hpx rfl
set_option maxHeartbeats 4000000 in
set_option maxRecDepth 100000 in
theorem kt_X_join (l : Launch) (hlt : l.stackTraces = false) (dC : Nat → ClassId) (dI : Nat → Nat → Nat) (cJ cI cZ cB : ClassId) (h0 qO qU qW qG qN qL : Nat) (sz : Nat) (fO : (Nat → Int64)) (fU : (Nat → Int64)) (fW : (Nat → Int32)) (fG : (Nat → Int32)) (fL : (Nat → Int32)) (len : Int32) (size : Int32) (post : (Nat → Int64) → (Nat → Int64) → (Nat → Int32) → (Nat → Int32) → (Nat → Int32) → Int32 → Int32 → Prop) (px : String → (Nat → Int64) → (Nat → Int64) → (Nat → Int32) → (Nat → Int32) → (Nat → Int32) → Int32 → Int32 → Prop) (hw : wp_X_join post px fO fU fW fG fL len size) : vx_Met l yn_X_join ws_X_join rm_X_join (va_Pc [.ref h0] (pc_Z (dC, dI) (ty_4 cJ cI cZ cB) (wd_X h0 qO qU qW qG qN qL cJ cI cZ cB fO fU fW fG fL len size) sz)) (qv_X dC dI cJ cI cZ cB h0 qO qU qW qG qN qL post (va_A (wd_X h0 qO qU qW qG qN qL cJ cI cZ cB fO fU fW fG fL len size) sz)) (qx_X dC dI cJ cI cZ cB h0 qO qU qW qG qN qL px (va_A (wd_X h0 qO qU qW qG qN qL cJ cI cZ cB fO fU fW fG fL len size) sz)) 1 6 (va_A (wd_X h0 qO qU qW qG qN qL cJ cI cZ cB fO fU fW fG fL len size) sz) := by
  refine vx_ofW (cc := cd_X_join) (maxL := 5) (ret := none) (by decide) rfl ?_
  intro p e s m args below meth c s₁ B hml htab hv
  obtain ⟨rfl, ⟨hsz, hP, hK, hD0, hE⟩, hZ⟩ := hv
  have hx := B.exec
  have hb := B.bytes
  have hr := B.returns
  have hts := atoms_spec (ws := ws_X_join) B.pre
  have hq : ∀ {w : Cond}, w ∈ wg_all → w.before ([.ref h0] : List Value).toArray s = true := fun h => hts _ (List.mem_cons_of_mem _ h)
  have hu : ∀ L : List Cond, (∀ w ∈ L, w ∈ wg_all) → ∀ w ∈ L, w ∈ ws_X_join := fun L h w hw => List.mem_cons_of_mem _ (h w hw)
  have hown : s.vm.findClass "FourWords" = some m.cls := findClass_of_methodNamed B.named
  have hlocks := B.notSynchronized
  subst hsz
  have hD := hD0.self (sz := s.heap.size)
  generalize hAe : va_A (wd_X h0 qO qU qW qG qN qL cJ cI cZ cB fO fU fW fG fL len size) s.heap.size = A at hD hZ ⊢
  have hA : ∀ q : Nat, s.heap.size ≤ q → A q := fun q h => by rw [← hAe]; exact Or.inr h
  have hS : va_S A s.heap s.heap [] := va_S.rf
  have hl := lv_entry [.ref h0] (n := 5) (Nat.le_of_ble_eq_true rfl)
  rw [lg_entry_eq]
  generalize (lg_sl [.ref h0] ++ List.replicate (5 - (lg_sl [.ref h0]).length) Slot.unset).toArray = ls at hl ⊢
  have hl : lv_has ls 5 [(0, .ref h0)] := hl
  unfold wp_X_join at hw
  refine lv_aload_n hx hb dc_X_join_0 rfl (lv_at hl 0 rfl) ?_
  refine lv_iconst (v := 2) hx hb dc_X_join_1 (by decide) ?_
  rcases hw with hw | ⟨hw, hpx⟩
  · refine gc_v (S := (Nat → Int64) × (Nat → Int64) × (Nat → Int32) × (Nat → Int32) × (Nat → Int32) × Int32 × Int32) (w1 := (fun u => (wd_X h0 qO qU qW qG qN qL cJ cI cZ cB u.1 u.2.1 u.2.2.1 u.2.2.2.1 u.2.2.2.2.1 u.2.2.2.2.2.1 u.2.2.2.2.2.2))) (wc := (wd_X h0 qO qU qW qG qN qL cJ cI cZ cB fO fU fW fG fL len size)) (wr := ([] : va_W)) (va_runV (As := [.int (2 : Int32)]) (rest := []) ⟨hx, hb, hml, hown, hts⟩ (kt_X_demandValues_k l dC dI cJ cI cZ cB h0 qO qU qW qG qN qL _ (2 : Int32) fO fU fW fG fL len size _ hw) ⟨callB_of 1 hts (gw_in mw_t184) rfl rfl rfl (hq mw_t1) (hq mw_t181) (by decide +kernel) ⟨Nat.le_of_ble_eq_true rfl, Nat.le_of_ble_eq_true rfl⟩, hq mw_t183, hq mw_s4⟩ (pv_W (va_recv (q0 := 0) (ci := 1) hK hP rfl rfl) (hP.sub (ws' := (wd_X h0 qO qU qW qG qN qL cJ cI cZ cB fO fU fW fG fL len size)) [0, 1, 2, 3, 4, 5, 6] rfl) hK (hD.sub (ws' := (wd_X h0 qO qU qW qG qN qL cJ cI cZ cB fO fU fW fG fL len size)) [0, 1, 2, 3, 4, 5, 6] (by decide) rfl) hE) rfl rfl hl.1 rfl (lv_room (Nat.le_of_ble_eq_true rfl)) dc_X_join_2 ⟨Nat.le_of_ble_eq_true rfl, Nat.le_of_ble_eq_true rfl⟩) hP hD hS hA [0, 1, 2, 3, 4, 5, 6] [] rfl rfl (by decide) (by decide) (fun u H locs hw hP hD hS => ?_)
    obtain ⟨fO2, fU2, fW2, fG2, fL2, len2, size2⟩ := u
    have hP : va_P (dC, dI) cs_3 (wd_X h0 qO qU qW qG qN qL cJ cI cZ cB fO2 fU2 fW2 fG2 fL2 len2 size2) H := hP.sub (ws' := (wd_X h0 qO qU qW qG qN qL cJ cI cZ cB fO2 fU2 fW2 fG2 fL2 len2 size2)) [0, 1, 2, 3, 4, 5, 6] rfl
    have hD : va_D A (wd_X h0 qO qU qW qG qN qL cJ cI cZ cB fO2 fU2 fW2 fG2 fL2 len2 size2) := hD.sub (ws' := (wd_X h0 qO qU qW qG qN qL cJ cI cZ cB fO2 fU2 fW2 fG2 fL2 len2 size2)) [0, 1, 2, 3, 4, 5, 6] (by decide) rfl
    try dsimp only at hw
    refine lv_aload_n hx hb dc_X_join_5 rfl (lv_at hl 0 rfl) ?_
    refine va_get (D := (dC, dI)) (ci := 1) (v := .int size2) (C := "FourWords") (T := tb_X) (N := 6) hx hb hts (hu _ um_X) hown hK hP 0 rfl rfl 5 (by decide) (hq mw_t45) (fun _ h9 => h9) rfl dc_X_join_6 ?_
    refine lv_iconst (v := 2) hx hb dc_X_join_9 (by decide) ?_
    refine lv_isub hx hb dc_X_join_10 ?_
    refine lv_topi (fun v11 e11 => ?_)
    have hw := hw v11 e11
    refine lv_istore_n (lv' := [(1, .int v11), (0, .ref h0)]) hx hb dc_X_join_11 rfl hl (Nat.le_of_ble_eq_true rfl) rfl (fun ls hl => ?_)
    refine lv_aload_n hx hb dc_X_join_12 rfl (lv_at hl 1 rfl) ?_
    refine va_get (D := (dC, dI)) (ci := 1) (v := .int size2) (C := "FourWords") (T := tb_X) (N := 6) hx hb hts (hu _ um_X) hown hK hP 0 rfl rfl 5 (by decide) (hq mw_t45) (fun _ h9 => h9) rfl dc_X_join_13 ?_
    refine lv_iconst (v := 1) hx hb dc_X_join_16 (by decide) ?_
    refine lv_isub hx hb dc_X_join_17 ?_
    refine lv_topi (fun v18 e18 => ?_)
    have hw := hw v18 e18
    refine lv_istore_n (lv' := [(2, .int v18), (1, .int v11), (0, .ref h0)]) hx hb dc_X_join_18 rfl hl (Nat.le_of_ble_eq_true rfl) rfl (fun ls hl => ?_)
    refine lv_aload_n hx hb dc_X_join_19 rfl (lv_at hl 2 rfl) ?_
    refine va_get (D := (dC, dI)) (ci := 1) (v := .ref qW) (C := "FourWords") (T := tb_X) (N := 6) hx hb hts (hu _ um_X) hown hK hP 0 rfl rfl 2 (by decide) (hq mw_t42) (fun _ h9 => h9) rfl dc_X_join_20 ?_
    refine lv_iload_n hx hb dc_X_join_23 rfl (lv_at hl 0 rfl) ?_
    obtain ⟨hin, hw⟩ := hw
    refine va_iald hx hb hK hP 3 1 rfl rfl hin dc_X_join_24 ?_
    refine lv_topi (fun v25 e25 => ?_)
    have hw := hw v25 e25
    refine lv_istore_n (lv' := [(3, .int v25), (2, .int v18), (1, .int v11), (0, .ref h0)]) hx hb dc_X_join_25 rfl hl (Nat.le_of_ble_eq_true rfl) rfl (fun ls hl => ?_)
    refine lv_aload_n hx hb dc_X_join_26 rfl (lv_at hl 3 rfl) ?_
    refine va_get (D := (dC, dI)) (ci := 1) (v := .ref qW) (C := "FourWords") (T := tb_X) (N := 6) hx hb hts (hu _ um_X) hown hK hP 0 rfl rfl 2 (by decide) (hq mw_t42) (fun _ h9 => h9) rfl dc_X_join_27 ?_
    refine lv_iload_n hx hb dc_X_join_30 rfl (lv_at hl 2 rfl) ?_
    obtain ⟨hin, hw⟩ := hw
    refine va_iald hx hb hK hP 3 1 rfl rfl hin dc_X_join_31 ?_
    refine lv_iload_n hx hb dc_X_join_32 rfl (lv_at hl 0 rfl) ?_
    refine lv_iadd hx hb dc_X_join_33 ?_
    refine lv_topi (fun v34 e34 => ?_)
    have hw := hw v34 e34
    refine lv_istore (lv' := [(4, .int v34), (3, .int v25), (2, .int v18), (1, .int v11), (0, .ref h0)]) hx hb dc_X_join_34 hl (Nat.le_of_ble_eq_true rfl) rfl (fun ls hl => ?_)
    refine lv_iload hx hb dc_X_join_36 (lv_at hl 0 rfl) ?_
    refine lv_iconst (v := 1) hx hb dc_X_join_38 (by decide) ?_
    refine lv_bipush (v := 64) hx hb dc_X_join_39 (by decide) ?_
    rcases hw with hw | ⟨hw, hpx⟩
    · refine gc_v (S := Unit) (w1 := (fun u => ([] : va_W))) (wc := ([] : va_W)) (wr := ([(h0, .inr (1, [.ref qO, .ref qU, .ref qW, .ref qG, .ref qN, .int size2])), (qO, .inl (cJ, 64, .inr (.inl fO2))), (qU, .inl (cJ, 64, .inr (.inl fU2))), (qW, .inl (cI, 64, .inl fW2)), (qG, .inl (cZ, 64, .inl fG2)), (qN, .inr (0, [.ref qL, .int len2])), (qL, .inl (cB, 64, .inl fL2))] : va_W)) (va_runS (As := [.int v34, .int (1 : Int32), .int (64 : Int32)]) (rest := []) ⟨hx, hb, hml, hown, hts⟩ (kt_X_demandRange_k l dC dI cJ cI cZ cB _ v34 (1 : Int32) (64 : Int32) _ hw) ⟨callB_of 3 hts (gw_in mw_t74) rfl rfl rfl (hq mw_t1) (hq mw_t72) (by decide +kernel) ⟨Nat.le_of_ble_eq_true rfl, Nat.le_of_ble_eq_true rfl⟩, hq mw_t73⟩ (ps_W (hP.sub (ws' := ([] : va_W)) [] rfl) hK (hD.sub (ws' := ([] : va_W)) [] (by decide) rfl) hE) rfl rfl hl.1 rfl (lv_room (Nat.le_of_ble_eq_true rfl)) dc_X_join_41 ⟨Nat.le_of_ble_eq_true rfl, Nat.le_of_ble_eq_true rfl⟩) hP hD hS hA [] [0, 1, 2, 3, 4, 5, 6] rfl rfl (by decide) (by decide) (fun u H locs hw hP hD hS => ?_)
      have hP : va_P (dC, dI) cs_3 (wd_X h0 qO qU qW qG qN qL cJ cI cZ cB fO2 fU2 fW2 fG2 fL2 len2 size2) H := hP.sub (ws' := (wd_X h0 qO qU qW qG qN qL cJ cI cZ cB fO2 fU2 fW2 fG2 fL2 len2 size2)) [0, 1, 2, 3, 4, 5, 6] rfl
      have hD : va_D A (wd_X h0 qO qU qW qG qN qL cJ cI cZ cB fO2 fU2 fW2 fG2 fL2 len2 size2) := hD.sub (ws' := (wd_X h0 qO qU qW qG qN qL cJ cI cZ cB fO2 fU2 fW2 fG2 fL2 len2 size2)) [0, 1, 2, 3, 4, 5, 6] (by decide) rfl
      try dsimp only at hw
      refine lv_aload_n hx hb dc_X_join_44 rfl (lv_at hl 4 rfl) ?_
      refine lv_iload_n hx hb dc_X_join_45 rfl (lv_at hl 3 rfl) ?_
      refine lv_aload_n hx hb dc_X_join_46 rfl (lv_at hl 4 rfl) ?_
      refine va_get (D := (dC, dI)) (ci := 1) (v := .ref qO) (C := "FourWords") (T := tb_X) (N := 6) hx hb hts (hu _ um_X) hown hK hP 0 rfl rfl 0 (by decide) (hq mw_t40) (fun _ h9 => h9) rfl dc_X_join_47 ?_
      refine lv_iload_n hx hb dc_X_join_50 rfl (lv_at hl 3 rfl) ?_
      obtain ⟨hin, hw⟩ := hw
      refine va_lald hx hb hK hP 1 0 rfl rfl hin dc_X_join_51 ?_
      refine lv_iload_n hx hb dc_X_join_52 rfl (lv_at hl 1 rfl) ?_
      refine lv_lshl hx hb dc_X_join_53 rfl ?_
      refine lv_aload_n hx hb dc_X_join_54 rfl (lv_at hl 4 rfl) ?_
      refine va_get (D := (dC, dI)) (ci := 1) (v := .ref qO) (C := "FourWords") (T := tb_X) (N := 6) hx hb hts (hu _ um_X) hown hK hP 0 rfl rfl 0 (by decide) (hq mw_t40) (fun _ h9 => h9) rfl dc_X_join_55 ?_
      refine lv_iload_n hx hb dc_X_join_58 rfl (lv_at hl 2 rfl) ?_
      obtain ⟨hin, hw⟩ := hw
      refine va_lald hx hb hK hP 1 0 rfl rfl hin dc_X_join_59 ?_
      refine lv_lor hx hb dc_X_join_60 ?_
      refine lv_aload_n hx hb dc_X_join_61 rfl (lv_at hl 4 rfl) ?_
      refine va_get (D := (dC, dI)) (ci := 1) (v := .ref qU) (C := "FourWords") (T := tb_X) (N := 6) hx hb hts (hu _ um_X) hown hK hP 0 rfl rfl 1 (by decide) (hq mw_t41) (fun _ h9 => h9) rfl dc_X_join_62 ?_
      refine lv_iload_n hx hb dc_X_join_65 rfl (lv_at hl 3 rfl) ?_
      obtain ⟨hin, hw⟩ := hw
      refine va_lald hx hb hK hP 2 0 rfl rfl hin dc_X_join_66 ?_
      refine lv_iload_n hx hb dc_X_join_67 rfl (lv_at hl 1 rfl) ?_
      refine lv_lshl hx hb dc_X_join_68 rfl ?_
      refine lv_aload_n hx hb dc_X_join_69 rfl (lv_at hl 4 rfl) ?_
      refine va_get (D := (dC, dI)) (ci := 1) (v := .ref qU) (C := "FourWords") (T := tb_X) (N := 6) hx hb hts (hu _ um_X) hown hK hP 0 rfl rfl 1 (by decide) (hq mw_t41) (fun _ h9 => h9) rfl dc_X_join_70 ?_
      refine lv_iload_n hx hb dc_X_join_73 rfl (lv_at hl 2 rfl) ?_
      obtain ⟨hin, hw⟩ := hw
      refine va_lald hx hb hK hP 2 0 rfl rfl hin dc_X_join_74 ?_
      refine lv_lor hx hb dc_X_join_75 ?_
      refine lv_iload hx hb dc_X_join_76 (lv_at hl 0 rfl) ?_
      refine lv_iconst (v := 0) hx hb dc_X_join_78 (by decide) ?_
      refine gc_v (S := (Nat → Int64) × (Nat → Int64) × (Nat → Int32) × (Nat → Int32) × (Nat → Int32) × Int32 × Int32) (w1 := (fun u => (wd_X h0 qO qU qW qG qN qL cJ cI cZ cB u.1 u.2.1 u.2.2.1 u.2.2.2.1 u.2.2.2.2.1 u.2.2.2.2.2.1 u.2.2.2.2.2.2))) (wc := (wd_X h0 qO qU qW qG qN qL cJ cI cZ cB fO2 fU2 fW2 fG2 fL2 len2 size2)) (wr := ([] : va_W)) (va_runV (As := [.int v11, .long (((fO2 v11.toNatClampNeg) <<< (v25.toInt64 &&& 63)) ||| (fO2 v18.toNatClampNeg)), .long (((fU2 v11.toNatClampNeg) <<< (v25.toInt64 &&& 63)) ||| (fU2 v18.toNatClampNeg)), .int v34, .int (0 : Int32)]) (rest := []) ⟨hx, hb, hml, hown, hts⟩ (kt_X_setValue l dC dI cJ cI cZ cB h0 qO qU qW qG qN qL _ v11 (((fO2 v11.toNatClampNeg) <<< (v25.toInt64 &&& 63)) ||| (fO2 v18.toNatClampNeg)) (((fU2 v11.toNatClampNeg) <<< (v25.toInt64 &&& 63)) ||| (fU2 v18.toNatClampNeg)) v34 (0 : Int32) fO2 fU2 fW2 fG2 fL2 len2 size2 _ hw) ⟨callB_of 5 hts (gw_in mw_t165) rfl rfl rfl (hq mw_t1) (hq mw_t162) (by decide +kernel) ⟨Nat.le_of_ble_eq_true rfl, Nat.le_of_ble_eq_true rfl⟩, hq mw_t164, hq mw_s2⟩ (pv_W (va_recv (q0 := 0) (ci := 1) hK hP rfl rfl) (hP.sub (ws' := (wd_X h0 qO qU qW qG qN qL cJ cI cZ cB fO2 fU2 fW2 fG2 fL2 len2 size2)) [0, 1, 2, 3, 4, 5, 6] rfl) hK (hD.sub (ws' := (wd_X h0 qO qU qW qG qN qL cJ cI cZ cB fO2 fU2 fW2 fG2 fL2 len2 size2)) [0, 1, 2, 3, 4, 5, 6] (by decide) rfl) hE) rfl rfl hl.1 rfl (lv_room (Nat.le_of_ble_eq_true rfl)) dc_X_join_79 ⟨Nat.le_of_ble_eq_true rfl, Nat.le_of_ble_eq_true rfl⟩) hP hD hS hA [0, 1, 2, 3, 4, 5, 6] [] rfl rfl (by decide) (by decide) (fun u H locs hw hP hD hS => ?_)
      obtain ⟨fO79, fU79, fW79, fG79, fL79, len79, size79⟩ := u
      have hP : va_P (dC, dI) cs_3 (wd_X h0 qO qU qW qG qN qL cJ cI cZ cB fO79 fU79 fW79 fG79 fL79 len79 size79) H := hP.sub (ws' := (wd_X h0 qO qU qW qG qN qL cJ cI cZ cB fO79 fU79 fW79 fG79 fL79 len79 size79)) [0, 1, 2, 3, 4, 5, 6] rfl
      have hD : va_D A (wd_X h0 qO qU qW qG qN qL cJ cI cZ cB fO79 fU79 fW79 fG79 fL79 len79 size79) := hD.sub (ws' := (wd_X h0 qO qU qW qG qN qL cJ cI cZ cB fO79 fU79 fW79 fG79 fL79 len79 size79)) [0, 1, 2, 3, 4, 5, 6] (by decide) rfl
      try dsimp only at hw
      refine lv_aload_n hx hb dc_X_join_82 rfl (lv_at hl 4 rfl) ?_
      refine lv_dup hx hb dc_X_join_83 rfl ?_
      refine va_get (D := (dC, dI)) (ci := 1) (v := .int size79) (C := "FourWords") (T := tb_X) (N := 6) hx hb hts (hu _ um_X) hown hK hP 0 rfl rfl 5 (by decide) (hq mw_t45) (fun _ h9 => h9) rfl dc_X_join_84 ?_
      refine lv_iconst (v := 1) hx hb dc_X_join_87 (by decide) ?_
      refine lv_isub hx hb dc_X_join_88 ?_
      refine va_put (D := (dC, dI)) (ci := 1) (v := .int (size79 - (1 : Int32))) (ty := .int) (C := "FourWords") (T := tb_X) (N := 6) hx hb hts (hu _ um_X) ft_X fk_X fn_X hown hK hP hD hS 0 rfl rfl 5 (by decide) (hq mw_t45) (fun _ h9 => h9) rfl (by decide +kernel) rfl rfl (Nat.le_of_ble_eq_true rfl) dc_X_join_89 (fun H locs hP hD hS => ?_)
      have hP : va_P (dC, dI) cs_3 (wd_X h0 qO qU qW qG qN qL cJ cI cZ cB fO79 fU79 fW79 fG79 fL79 len79 (size79 - (1 : Int32))) H := hP
      have hD : va_D A (wd_X h0 qO qU qW qG qN qL cJ cI cZ cB fO79 fU79 fW79 fG79 fL79 len79 (size79 - (1 : Int32))) := hD
      refine W.widen (k := 1) (n := 6) (Nat.zero_le _) (Nat.zero_le _) ?_
      exact vx_ret (W.vret hx hb hr (fun t ht hW => ⟨⟨(fO79, fU79, fW79, fG79, fL79, len79, size79 - (1 : Int32)), rfl, hw, by rw [ht]; exact hP, va_K.moved hW.alike hK, hD⟩, hS.F ht⟩) hS.2.2 dc_X_join_92)
    · exact gx_T (E0 := "java/lang/IllegalArgumentException") (u := (fO2, fU2, fW2, fG2, fL2, len2, size2)) (wc := ([] : va_W)) (wr := ([(h0, .inr (1, [.ref qO, .ref qU, .ref qW, .ref qG, .ref qN, .int size2])), (qO, .inl (cJ, 64, .inr (.inl fO2))), (qU, .inl (cJ, 64, .inr (.inl fU2))), (qW, .inl (cI, 64, .inl fW2)), (qG, .inl (cZ, 64, .inl fG2)), (qN, .inr (0, [.ref qL, .int len2])), (qL, .inl (cB, 64, .inl fL2))] : va_W)) (vx_runS (As := [.int v34, .int (1 : Int32), .int (64 : Int32)]) (rest := []) ⟨hx, hb, hml, hown, hts⟩ (kt_X_demandRange_t l hlt dC dI cJ cI cZ cB _ v34 (1 : Int32) (64 : Int32) hw) ⟨callB_of 3 hts (gw_in mw_t74) rfl rfl rfl (hq mw_t1) (hq mw_t72) (by decide +kernel) ⟨Nat.le_of_ble_eq_true rfl, Nat.le_of_ble_eq_true rfl⟩, hq mw_t73⟩ (pz_W (hP.sub (ws' := ([] : va_W)) [] rfl) hK (hD.sub (ws' := ([] : va_W)) [] (by decide) rfl) hE (zz_W hZ hS (va_free (wc := ([] : va_W)) hD hS hA [] rfl))) rfl rfl hl.1 rfl (lv_room (Nat.le_of_ble_eq_true rfl)) dc_X_join_41 ⟨Nat.le_of_ble_eq_true rfl, Nat.le_of_ble_eq_true rfl⟩) hP hK hD hS hA [] [0, 1, 2, 3, 4, 5, 6] rfl rfl (by decide) (by decide) [0, 1, 2, 3, 4, 5, 6] rfl rfl (by decide) htab hlocks hpx rfl
  · exact gx_T (E0 := "java/lang/IllegalStateException") (u := (fO, fU, fW, fG, fL, len, size)) (wc := (wd_X h0 qO qU qW qG qN qL cJ cI cZ cB fO fU fW fG fL len size)) (wr := ([] : va_W)) (vx_runV (As := [.int (2 : Int32)]) (rest := []) ⟨hx, hb, hml, hown, hts⟩ (kt_X_demandValues_t l hlt dC dI cJ cI cZ cB h0 qO qU qW qG qN qL _ (2 : Int32) fO fU fW fG fL len size hw) ⟨callB_of 1 hts (gw_in mw_t184) rfl rfl rfl (hq mw_t1) (hq mw_t181) (by decide +kernel) ⟨Nat.le_of_ble_eq_true rfl, Nat.le_of_ble_eq_true rfl⟩, hq mw_t183, hq mw_s4⟩ (pq_W (va_recv (q0 := 0) (ci := 1) hK hP rfl rfl) (hP.sub (ws' := (wd_X h0 qO qU qW qG qN qL cJ cI cZ cB fO fU fW fG fL len size)) [0, 1, 2, 3, 4, 5, 6] rfl) hK (hD.sub (ws' := (wd_X h0 qO qU qW qG qN qL cJ cI cZ cB fO fU fW fG fL len size)) [0, 1, 2, 3, 4, 5, 6] (by decide) rfl) hE (zz_W hZ hS (va_free (wc := (wd_X h0 qO qU qW qG qN qL cJ cI cZ cB fO fU fW fG fL len size)) hD hS hA [0, 1, 2, 3, 4, 5, 6] rfl))) rfl rfl hl.1 rfl (lv_room (Nat.le_of_ble_eq_true rfl)) dc_X_join_2 ⟨Nat.le_of_ble_eq_true rfl, Nat.le_of_ble_eq_true rfl⟩) hP hK hD hS hA [0, 1, 2, 3, 4, 5, 6] [] rfl rfl (by decide) (by decide) [0, 1, 2, 3, 4, 5, 6] rfl rfl (by decide) htab hlocks hpx rfl
set_option maxHeartbeats 4000000 in
set_option maxRecDepth 100000 in
theorem kt_X_copies (l : Launch) (hlt : l.stackTraces = false) (dC : Nat → ClassId) (dI : Nat → Nat → Nat) (cJ cI cZ cB : ClassId) (h0 qO qU qW qG qN qL : Nat) (sz : Nat) (a1 : Int32) (fO : (Nat → Int64)) (fU : (Nat → Int64)) (fW : (Nat → Int32)) (fG : (Nat → Int32)) (fL : (Nat → Int32)) (len : Int32) (size : Int32) (post : (Nat → Int64) → (Nat → Int64) → (Nat → Int32) → (Nat → Int32) → (Nat → Int32) → Int32 → Int32 → Prop) (px : String → (Nat → Int64) → (Nat → Int64) → (Nat → Int32) → (Nat → Int32) → (Nat → Int32) → Int32 → Int32 → Prop) (hw : wp_X_copies post px a1 fO fU fW fG fL len size) : vx_Met l yn_X_copies ws_X_copies rm_X_copies (va_Pc [.ref h0, .int a1] (pc_Z (dC, dI) (ty_4 cJ cI cZ cB) (wd_X h0 qO qU qW qG qN qL cJ cI cZ cB fO fU fW fG fL len size) sz)) (qv_X dC dI cJ cI cZ cB h0 qO qU qW qG qN qL post (va_A (wd_X h0 qO qU qW qG qN qL cJ cI cZ cB fO fU fW fG fL len size) sz)) (qx_X dC dI cJ cI cZ cB h0 qO qU qW qG qN qL px (va_A (wd_X h0 qO qU qW qG qN qL cJ cI cZ cB fO fU fW fG fL len size) sz)) 1 6 (va_A (wd_X h0 qO qU qW qG qN qL cJ cI cZ cB fO fU fW fG fL len size) sz) := by
  refine vx_ofW (cc := cd_X_copies) (maxL := 9) (ret := none) (by decide) rfl ?_
  intro p e s m args below meth c s₁ B hml htab hv
  obtain ⟨rfl, ⟨hsz, hP, hK, hD0, hE⟩, hZ⟩ := hv
  have hx := B.exec
  have hb := B.bytes
  have hr := B.returns
  have hts := atoms_spec (ws := ws_X_copies) B.pre
  have hq : ∀ {w : Cond}, w ∈ wg_all → w.before ([.ref h0, .int a1] : List Value).toArray s = true := fun h => hts _ (List.mem_cons_of_mem _ h)
  have hu : ∀ L : List Cond, (∀ w ∈ L, w ∈ wg_all) → ∀ w ∈ L, w ∈ ws_X_copies := fun L h w hw => List.mem_cons_of_mem _ (h w hw)
  have hown : s.vm.findClass "FourWords" = some m.cls := findClass_of_methodNamed B.named
  have hlocks := B.notSynchronized
  subst hsz
  have hD := hD0.self (sz := s.heap.size)
  generalize hAe : va_A (wd_X h0 qO qU qW qG qN qL cJ cI cZ cB fO fU fW fG fL len size) s.heap.size = A at hD hZ ⊢
  have hA : ∀ q : Nat, s.heap.size ≤ q → A q := fun q h => by rw [← hAe]; exact Or.inr h
  have hS : va_S A s.heap s.heap [] := va_S.rf
  have hl := lv_entry [.ref h0, .int a1] (n := 9) (Nat.le_of_ble_eq_true rfl)
  rw [lg_entry_eq]
  generalize (lg_sl [.ref h0, .int a1] ++ List.replicate (9 - (lg_sl [.ref h0, .int a1]).length) Slot.unset).toArray = ls at hl ⊢
  have hl : lv_has ls 9 [(0, .ref h0), (1, .int a1)] := hl
  have B_61 : ∀ (n61 : Nat) (H : Heap) (locs : List Loc) (ls : Array Slot) (x1 : Int32) (x2 : Int32) (x3 : Int32) (x4 : Int64) (x6 : Int64) (x8 : Int32) (fO : (Nat → Int64)) (fU : (Nat → Int64)) (fW : (Nat → Int32)) (fG : (Nat → Int32)) (fL : (Nat → Int32)) (len : Int32) (size : Int32), wp_X_copies_61 post px n61 x1 x2 x3 x4 x6 x8 fO fU fW fG fL len size → va_P (dC, dI) cs_3 (wd_X h0 qO qU qW qG qN qL cJ cI cZ cB fO fU fW fG fL len size) H → va_D A (wd_X h0 qO qU qW qG qN qL cJ cI cZ cB fO fU fW fG fL len size) → va_S A s.heap H locs → lv_has ls 9 [(0, .ref h0), (1, .int x1), (2, .int x2), (3, .int x3), (4, .long x4), (6, .long x6), (8, .int x8)] → W p l e (headSpec ws_X_copies rm_X_copies).room s m ([.ref h0, .int a1] : List Value).toArray below meth c H locs 0 0 (vx_MQ below (qv_X dC dI cJ cI cZ cB h0 qO qU qW qG qN qL post A) (qx_X dC dI cJ cI cZ cB h0 qO qU qW qG qN qL px A) ([.ref h0, .int a1] : List Value).toArray s 1 6 A) (F0 m 61 ls []) := by
    intro n61
    induction n61 with
    | zero => intro H locs ls x1 x2 x3 x4 x6 x8 fO fU fW fG fL len size hw; exact False.elim hw
    | succ n61 ih =>
      intro H locs ls x1 x2 x3 x4 x6 x8 fO fU fW fG fL len size hw hP hD hS hl
      unfold wp_X_copies_61 at hw
      refine lv_iload hx hb dc_X_copies_61 (lv_at hl 6 rfl) ?_
      refine lv_iload_n hx hb dc_X_copies_63 rfl (lv_at hl 1 rfl) ?_
      obtain ⟨hw1, hw2⟩ := hw
      refine lv_icmp_ge (tgt := 99) hx hb dc_X_copies_64 (by decide) (fun hc => ?_) (fun hc => ?_)
      · have hw := hw1 hc
        clear hw1 hw2
        refine lv_aload_n hx hb dc_X_copies_99 rfl (lv_at hl 0 rfl) ?_
        refine lv_iload_n hx hb dc_X_copies_100 rfl (lv_at hl 2 rfl) ?_
        refine lv_lload hx hb dc_X_copies_101 (lv_at hl 4 rfl) ?_
        refine lv_lload hx hb dc_X_copies_103 (lv_at hl 5 rfl) ?_
        refine lv_iload_n hx hb dc_X_copies_105 rfl (lv_at hl 1 rfl) ?_
        refine lv_iload_n hx hb dc_X_copies_106 rfl (lv_at hl 3 rfl) ?_
        refine lv_imul hx hb dc_X_copies_107 ?_
        refine lv_iconst (v := 0) hx hb dc_X_copies_108 (by decide) ?_
        refine gc_v (S := (Nat → Int64) × (Nat → Int64) × (Nat → Int32) × (Nat → Int32) × (Nat → Int32) × Int32 × Int32) (w1 := (fun u => (wd_X h0 qO qU qW qG qN qL cJ cI cZ cB u.1 u.2.1 u.2.2.1 u.2.2.2.1 u.2.2.2.2.1 u.2.2.2.2.2.1 u.2.2.2.2.2.2))) (wc := (wd_X h0 qO qU qW qG qN qL cJ cI cZ cB fO fU fW fG fL len size)) (wr := ([] : va_W)) (va_runV (As := [.int x2, .long x4, .long x6, .int (x1 * x3), .int (0 : Int32)]) (rest := []) ⟨hx, hb, hml, hown, hts⟩ (kt_X_setValue l dC dI cJ cI cZ cB h0 qO qU qW qG qN qL _ x2 x4 x6 (x1 * x3) (0 : Int32) fO fU fW fG fL len size _ hw) ⟨callB_of 5 hts (gw_in mw_t165) rfl rfl rfl (hq mw_t1) (hq mw_t162) (by decide +kernel) ⟨Nat.le_of_ble_eq_true rfl, Nat.le_of_ble_eq_true rfl⟩, hq mw_t164, hq mw_s2⟩ (pv_W (va_recv (q0 := 0) (ci := 1) hK hP rfl rfl) (hP.sub (ws' := (wd_X h0 qO qU qW qG qN qL cJ cI cZ cB fO fU fW fG fL len size)) [0, 1, 2, 3, 4, 5, 6] rfl) hK (hD.sub (ws' := (wd_X h0 qO qU qW qG qN qL cJ cI cZ cB fO fU fW fG fL len size)) [0, 1, 2, 3, 4, 5, 6] (by decide) rfl) hE) rfl rfl hl.1 rfl (lv_room (Nat.le_of_ble_eq_true rfl)) dc_X_copies_109 ⟨Nat.le_of_ble_eq_true rfl, Nat.le_of_ble_eq_true rfl⟩) hP hD hS hA [0, 1, 2, 3, 4, 5, 6] [] rfl rfl (by decide) (by decide) (fun u H locs hw hP hD hS => ?_)
        obtain ⟨fO109, fU109, fW109, fG109, fL109, len109, size109⟩ := u
        have hP : va_P (dC, dI) cs_3 (wd_X h0 qO qU qW qG qN qL cJ cI cZ cB fO109 fU109 fW109 fG109 fL109 len109 size109) H := hP.sub (ws' := (wd_X h0 qO qU qW qG qN qL cJ cI cZ cB fO109 fU109 fW109 fG109 fL109 len109 size109)) [0, 1, 2, 3, 4, 5, 6] rfl
        have hD : va_D A (wd_X h0 qO qU qW qG qN qL cJ cI cZ cB fO109 fU109 fW109 fG109 fL109 len109 size109) := hD.sub (ws' := (wd_X h0 qO qU qW qG qN qL cJ cI cZ cB fO109 fU109 fW109 fG109 fL109 len109 size109)) [0, 1, 2, 3, 4, 5, 6] (by decide) rfl
        try dsimp only at hw
        refine W.widen (k := 1) (n := 6) (Nat.zero_le _) (Nat.zero_le _) ?_
        exact vx_ret (W.vret hx hb hr (fun t ht hW => ⟨⟨(fO109, fU109, fW109, fG109, fL109, len109, size109), rfl, hw, by rw [ht]; exact hP, va_K.moved hW.alike hK, hD⟩, hS.F ht⟩) hS.2.2 dc_X_copies_112)
      · have hw := hw2 hc
        clear hw1 hw2
        refine lv_lload hx hb dc_X_copies_67 (lv_at hl 4 rfl) ?_
        refine lv_iload_n hx hb dc_X_copies_69 rfl (lv_at hl 3 rfl) ?_
        refine lv_lshl hx hb dc_X_copies_70 rfl ?_
        refine lv_aload_n hx hb dc_X_copies_71 rfl (lv_at hl 0 rfl) ?_
        refine va_get (D := (dC, dI)) (ci := 1) (v := .ref qO) (C := "FourWords") (T := tb_X) (N := 6) hx hb hts (hu _ um_X) hown hK hP 0 rfl rfl 0 (by decide) (hq mw_t40) (fun _ h9 => h9) rfl dc_X_copies_72 ?_
        refine lv_iload_n hx hb dc_X_copies_75 rfl (lv_at hl 2 rfl) ?_
        obtain ⟨hin, hw⟩ := hw
        refine va_lald hx hb hK hP 1 0 rfl rfl hin dc_X_copies_76 ?_
        refine lv_lor hx hb dc_X_copies_77 ?_
        refine lv_topl (fun v78 e78 => ?_)
        have hw := hw v78 e78
        refine lv_lstore (lv' := [(4, .long v78), (0, .ref h0), (1, .int x1), (2, .int x2), (3, .int x3), (6, .long x6), (8, .int x8)]) hx hb dc_X_copies_78 hl (Nat.le_of_ble_eq_true rfl) rfl (fun ls hl => ?_)
        refine lv_lload hx hb dc_X_copies_80 (lv_at hl 5 rfl) ?_
        refine lv_iload_n hx hb dc_X_copies_82 rfl (lv_at hl 4 rfl) ?_
        refine lv_lshl hx hb dc_X_copies_83 rfl ?_
        refine lv_aload_n hx hb dc_X_copies_84 rfl (lv_at hl 1 rfl) ?_
        refine va_get (D := (dC, dI)) (ci := 1) (v := .ref qU) (C := "FourWords") (T := tb_X) (N := 6) hx hb hts (hu _ um_X) hown hK hP 0 rfl rfl 1 (by decide) (hq mw_t41) (fun _ h9 => h9) rfl dc_X_copies_85 ?_
        refine lv_iload_n hx hb dc_X_copies_88 rfl (lv_at hl 3 rfl) ?_
        obtain ⟨hin, hw⟩ := hw
        refine va_lald hx hb hK hP 2 0 rfl rfl hin dc_X_copies_89 ?_
        refine lv_lor hx hb dc_X_copies_90 ?_
        refine lv_topl (fun v91 e91 => ?_)
        have hw := hw v91 e91
        refine lv_lstore (lv' := [(6, .long v91), (4, .long v78), (0, .ref h0), (1, .int x1), (2, .int x2), (3, .int x3), (8, .int x8)]) hx hb dc_X_copies_91 hl (Nat.le_of_ble_eq_true rfl) rfl (fun ls hl => ?_)
        refine lv_iinc (lv' := [(8, .int (x8 + 1)), (6, .long v91), (4, .long v78), (0, .ref h0), (1, .int x1), (2, .int x2), (3, .int x3)]) hx hb dc_X_copies_93 hl (k := 6) rfl (ic_p1 _) (Nat.le_of_ble_eq_true rfl) rfl (fun ls hl => ?_)
        refine lv_goto (tgt := 61) hx hb dc_X_copies_96 (by decide) ?_
        exact ih _ _ _ x1 x2 x3 v78 v91 (x8 + 1) fO fU fW fG fL len size hw hP hD hS (lv_sub hl [3, 4, 5, 6, 2, 1, 0] rfl)
  unfold wp_X_copies at hw
  refine lv_iload_n hx hb dc_X_copies_0 rfl (lv_at hl 1 rfl) ?_
  refine lv_iconst (v := 1) hx hb dc_X_copies_1 (by decide) ?_
  refine lv_ldc (v := 2147483647) hx hb hown (hq mw_t337) dc_X_copies_2 ?_
  rcases hw with hw | ⟨hw, hpx⟩
  · refine gc_v (S := Unit) (w1 := (fun u => ([] : va_W))) (wc := ([] : va_W)) (wr := ([(h0, .inr (1, [.ref qO, .ref qU, .ref qW, .ref qG, .ref qN, .int size])), (qO, .inl (cJ, 64, .inr (.inl fO))), (qU, .inl (cJ, 64, .inr (.inl fU))), (qW, .inl (cI, 64, .inl fW)), (qG, .inl (cZ, 64, .inl fG)), (qN, .inr (0, [.ref qL, .int len])), (qL, .inl (cB, 64, .inl fL))] : va_W)) (va_runS (As := [.int a1, .int (1 : Int32), .int (2147483647 : Int32)]) (rest := []) ⟨hx, hb, hml, hown, hts⟩ (kt_X_demandRange_k l dC dI cJ cI cZ cB _ a1 (1 : Int32) (2147483647 : Int32) _ hw) ⟨callB_of 3 hts (gw_in mw_t74) rfl rfl rfl (hq mw_t1) (hq mw_t72) (by decide +kernel) ⟨Nat.le_of_ble_eq_true rfl, Nat.le_of_ble_eq_true rfl⟩, hq mw_t73⟩ (ps_W (hP.sub (ws' := ([] : va_W)) [] rfl) hK (hD.sub (ws' := ([] : va_W)) [] (by decide) rfl) hE) rfl rfl hl.1 rfl (lv_room (Nat.le_of_ble_eq_true rfl)) dc_X_copies_4 ⟨Nat.le_of_ble_eq_true rfl, Nat.le_of_ble_eq_true rfl⟩) hP hD hS hA [] [0, 1, 2, 3, 4, 5, 6] rfl rfl (by decide) (by decide) (fun u H locs hw hP hD hS => ?_)
    have hP : va_P (dC, dI) cs_3 (wd_X h0 qO qU qW qG qN qL cJ cI cZ cB fO fU fW fG fL len size) H := hP.sub (ws' := (wd_X h0 qO qU qW qG qN qL cJ cI cZ cB fO fU fW fG fL len size)) [0, 1, 2, 3, 4, 5, 6] rfl
    have hD : va_D A (wd_X h0 qO qU qW qG qN qL cJ cI cZ cB fO fU fW fG fL len size) := hD.sub (ws' := (wd_X h0 qO qU qW qG qN qL cJ cI cZ cB fO fU fW fG fL len size)) [0, 1, 2, 3, 4, 5, 6] (by decide) rfl
    try dsimp only at hw
    refine lv_aload_n hx hb dc_X_copies_7 rfl (lv_at hl 0 rfl) ?_
    refine lv_iconst (v := 1) hx hb dc_X_copies_8 (by decide) ?_
    rcases hw with hw | ⟨hw, hpx⟩
    · refine gc_v (S := (Nat → Int64) × (Nat → Int64) × (Nat → Int32) × (Nat → Int32) × (Nat → Int32) × Int32 × Int32) (w1 := (fun u => (wd_X h0 qO qU qW qG qN qL cJ cI cZ cB u.1 u.2.1 u.2.2.1 u.2.2.2.1 u.2.2.2.2.1 u.2.2.2.2.2.1 u.2.2.2.2.2.2))) (wc := (wd_X h0 qO qU qW qG qN qL cJ cI cZ cB fO fU fW fG fL len size)) (wr := ([] : va_W)) (va_runV (As := [.int (1 : Int32)]) (rest := []) ⟨hx, hb, hml, hown, hts⟩ (kt_X_demandValues_k l dC dI cJ cI cZ cB h0 qO qU qW qG qN qL _ (1 : Int32) fO fU fW fG fL len size _ hw) ⟨callB_of 1 hts (gw_in mw_t184) rfl rfl rfl (hq mw_t1) (hq mw_t181) (by decide +kernel) ⟨Nat.le_of_ble_eq_true rfl, Nat.le_of_ble_eq_true rfl⟩, hq mw_t183, hq mw_s4⟩ (pv_W (va_recv (q0 := 0) (ci := 1) hK hP rfl rfl) (hP.sub (ws' := (wd_X h0 qO qU qW qG qN qL cJ cI cZ cB fO fU fW fG fL len size)) [0, 1, 2, 3, 4, 5, 6] rfl) hK (hD.sub (ws' := (wd_X h0 qO qU qW qG qN qL cJ cI cZ cB fO fU fW fG fL len size)) [0, 1, 2, 3, 4, 5, 6] (by decide) rfl) hE) rfl rfl hl.1 rfl (lv_room (Nat.le_of_ble_eq_true rfl)) dc_X_copies_9 ⟨Nat.le_of_ble_eq_true rfl, Nat.le_of_ble_eq_true rfl⟩) hP hD hS hA [0, 1, 2, 3, 4, 5, 6] [] rfl rfl (by decide) (by decide) (fun u H locs hw hP hD hS => ?_)
      obtain ⟨fO9, fU9, fW9, fG9, fL9, len9, size9⟩ := u
      have hP : va_P (dC, dI) cs_3 (wd_X h0 qO qU qW qG qN qL cJ cI cZ cB fO9 fU9 fW9 fG9 fL9 len9 size9) H := hP.sub (ws' := (wd_X h0 qO qU qW qG qN qL cJ cI cZ cB fO9 fU9 fW9 fG9 fL9 len9 size9)) [0, 1, 2, 3, 4, 5, 6] rfl
      have hD : va_D A (wd_X h0 qO qU qW qG qN qL cJ cI cZ cB fO9 fU9 fW9 fG9 fL9 len9 size9) := hD.sub (ws' := (wd_X h0 qO qU qW qG qN qL cJ cI cZ cB fO9 fU9 fW9 fG9 fL9 len9 size9)) [0, 1, 2, 3, 4, 5, 6] (by decide) rfl
      try dsimp only at hw
      refine lv_aload_n hx hb dc_X_copies_12 rfl (lv_at hl 0 rfl) ?_
      refine va_get (D := (dC, dI)) (ci := 1) (v := .int size9) (C := "FourWords") (T := tb_X) (N := 6) hx hb hts (hu _ um_X) hown hK hP 0 rfl rfl 5 (by decide) (hq mw_t45) (fun _ h9 => h9) rfl dc_X_copies_13 ?_
      refine lv_iconst (v := 1) hx hb dc_X_copies_16 (by decide) ?_
      refine lv_isub hx hb dc_X_copies_17 ?_
      refine lv_topi (fun v18 e18 => ?_)
      have hw := hw v18 e18
      refine lv_istore_n (lv' := [(2, .int v18), (0, .ref h0), (1, .int a1)]) hx hb dc_X_copies_18 rfl hl (Nat.le_of_ble_eq_true rfl) rfl (fun ls hl => ?_)
      refine lv_aload_n hx hb dc_X_copies_19 rfl (lv_at hl 1 rfl) ?_
      refine va_get (D := (dC, dI)) (ci := 1) (v := .ref qW) (C := "FourWords") (T := tb_X) (N := 6) hx hb hts (hu _ um_X) hown hK hP 0 rfl rfl 2 (by decide) (hq mw_t42) (fun _ h9 => h9) rfl dc_X_copies_20 ?_
      refine lv_iload_n hx hb dc_X_copies_23 rfl (lv_at hl 0 rfl) ?_
      obtain ⟨hin, hw⟩ := hw
      refine va_iald hx hb hK hP 3 1 rfl rfl hin dc_X_copies_24 ?_
      refine lv_topi (fun v25 e25 => ?_)
      have hw := hw v25 e25
      refine lv_istore_n (lv' := [(3, .int v25), (2, .int v18), (0, .ref h0), (1, .int a1)]) hx hb dc_X_copies_25 rfl hl (Nat.le_of_ble_eq_true rfl) rfl (fun ls hl => ?_)
      refine lv_iload_n hx hb dc_X_copies_26 rfl (lv_at hl 3 rfl) ?_
      refine lv_iconst (v := 1) hx hb dc_X_copies_27 (by decide) ?_
      refine lv_bipush (v := 64) hx hb dc_X_copies_28 (by decide) ?_
      rcases hw with hw | ⟨hw, hpx⟩
      · refine gc_v (S := Unit) (w1 := (fun u => ([] : va_W))) (wc := ([] : va_W)) (wr := ([(h0, .inr (1, [.ref qO, .ref qU, .ref qW, .ref qG, .ref qN, .int size9])), (qO, .inl (cJ, 64, .inr (.inl fO9))), (qU, .inl (cJ, 64, .inr (.inl fU9))), (qW, .inl (cI, 64, .inl fW9)), (qG, .inl (cZ, 64, .inl fG9)), (qN, .inr (0, [.ref qL, .int len9])), (qL, .inl (cB, 64, .inl fL9))] : va_W)) (va_runS (As := [.int a1, .int (1 : Int32), .int (64 : Int32)]) (rest := []) ⟨hx, hb, hml, hown, hts⟩ (kt_X_demandRange_k l dC dI cJ cI cZ cB _ a1 (1 : Int32) (64 : Int32) _ hw) ⟨callB_of 3 hts (gw_in mw_t74) rfl rfl rfl (hq mw_t1) (hq mw_t72) (by decide +kernel) ⟨Nat.le_of_ble_eq_true rfl, Nat.le_of_ble_eq_true rfl⟩, hq mw_t73⟩ (ps_W (hP.sub (ws' := ([] : va_W)) [] rfl) hK (hD.sub (ws' := ([] : va_W)) [] (by decide) rfl) hE) rfl rfl hl.1 rfl (lv_room (Nat.le_of_ble_eq_true rfl)) dc_X_copies_30 ⟨Nat.le_of_ble_eq_true rfl, Nat.le_of_ble_eq_true rfl⟩) hP hD hS hA [] [0, 1, 2, 3, 4, 5, 6] rfl rfl (by decide) (by decide) (fun u H locs hw hP hD hS => ?_)
        have hP : va_P (dC, dI) cs_3 (wd_X h0 qO qU qW qG qN qL cJ cI cZ cB fO9 fU9 fW9 fG9 fL9 len9 size9) H := hP.sub (ws' := (wd_X h0 qO qU qW qG qN qL cJ cI cZ cB fO9 fU9 fW9 fG9 fL9 len9 size9)) [0, 1, 2, 3, 4, 5, 6] rfl
        have hD : va_D A (wd_X h0 qO qU qW qG qN qL cJ cI cZ cB fO9 fU9 fW9 fG9 fL9 len9 size9) := hD.sub (ws' := (wd_X h0 qO qU qW qG qN qL cJ cI cZ cB fO9 fU9 fW9 fG9 fL9 len9 size9)) [0, 1, 2, 3, 4, 5, 6] (by decide) rfl
        try dsimp only at hw
        refine lv_iload_n hx hb dc_X_copies_33 rfl (lv_at hl 3 rfl) ?_
        refine lv_iload_n hx hb dc_X_copies_34 rfl (lv_at hl 0 rfl) ?_
        refine lv_imul hx hb dc_X_copies_35 ?_
        refine lv_iconst (v := 1) hx hb dc_X_copies_36 (by decide) ?_
        refine lv_bipush (v := 64) hx hb dc_X_copies_37 (by decide) ?_
        rcases hw with hw | ⟨hw, hpx⟩
        · refine gc_v (S := Unit) (w1 := (fun u => ([] : va_W))) (wc := ([] : va_W)) (wr := ([(h0, .inr (1, [.ref qO, .ref qU, .ref qW, .ref qG, .ref qN, .int size9])), (qO, .inl (cJ, 64, .inr (.inl fO9))), (qU, .inl (cJ, 64, .inr (.inl fU9))), (qW, .inl (cI, 64, .inl fW9)), (qG, .inl (cZ, 64, .inl fG9)), (qN, .inr (0, [.ref qL, .int len9])), (qL, .inl (cB, 64, .inl fL9))] : va_W)) (va_runS (As := [.int (a1 * v25), .int (1 : Int32), .int (64 : Int32)]) (rest := []) ⟨hx, hb, hml, hown, hts⟩ (kt_X_demandRange_k l dC dI cJ cI cZ cB _ (a1 * v25) (1 : Int32) (64 : Int32) _ hw) ⟨callB_of 3 hts (gw_in mw_t74) rfl rfl rfl (hq mw_t1) (hq mw_t72) (by decide +kernel) ⟨Nat.le_of_ble_eq_true rfl, Nat.le_of_ble_eq_true rfl⟩, hq mw_t73⟩ (ps_W (hP.sub (ws' := ([] : va_W)) [] rfl) hK (hD.sub (ws' := ([] : va_W)) [] (by decide) rfl) hE) rfl rfl hl.1 rfl (lv_room (Nat.le_of_ble_eq_true rfl)) dc_X_copies_39 ⟨Nat.le_of_ble_eq_true rfl, Nat.le_of_ble_eq_true rfl⟩) hP hD hS hA [] [0, 1, 2, 3, 4, 5, 6] rfl rfl (by decide) (by decide) (fun u H locs hw hP hD hS => ?_)
          have hP : va_P (dC, dI) cs_3 (wd_X h0 qO qU qW qG qN qL cJ cI cZ cB fO9 fU9 fW9 fG9 fL9 len9 size9) H := hP.sub (ws' := (wd_X h0 qO qU qW qG qN qL cJ cI cZ cB fO9 fU9 fW9 fG9 fL9 len9 size9)) [0, 1, 2, 3, 4, 5, 6] rfl
          have hD : va_D A (wd_X h0 qO qU qW qG qN qL cJ cI cZ cB fO9 fU9 fW9 fG9 fL9 len9 size9) := hD.sub (ws' := (wd_X h0 qO qU qW qG qN qL cJ cI cZ cB fO9 fU9 fW9 fG9 fL9 len9 size9)) [0, 1, 2, 3, 4, 5, 6] (by decide) rfl
          try dsimp only at hw
          refine lv_aload_n hx hb dc_X_copies_42 rfl (lv_at hl 2 rfl) ?_
          refine va_get (D := (dC, dI)) (ci := 1) (v := .ref qO) (C := "FourWords") (T := tb_X) (N := 6) hx hb hts (hu _ um_X) hown hK hP 0 rfl rfl 0 (by decide) (hq mw_t40) (fun _ h9 => h9) rfl dc_X_copies_43 ?_
          refine lv_iload_n hx hb dc_X_copies_46 rfl (lv_at hl 1 rfl) ?_
          obtain ⟨hin, hw⟩ := hw
          refine va_lald hx hb hK hP 1 0 rfl rfl hin dc_X_copies_47 ?_
          refine lv_topl (fun v48 e48 => ?_)
          have hw := hw v48 e48
          refine lv_lstore (lv' := [(4, .long v48), (3, .int v25), (2, .int v18), (0, .ref h0), (1, .int a1)]) hx hb dc_X_copies_48 hl (Nat.le_of_ble_eq_true rfl) rfl (fun ls hl => ?_)
          refine lv_aload_n hx hb dc_X_copies_50 rfl (lv_at hl 3 rfl) ?_
          refine va_get (D := (dC, dI)) (ci := 1) (v := .ref qU) (C := "FourWords") (T := tb_X) (N := 6) hx hb hts (hu _ um_X) hown hK hP 0 rfl rfl 1 (by decide) (hq mw_t41) (fun _ h9 => h9) rfl dc_X_copies_51 ?_
          refine lv_iload_n hx hb dc_X_copies_54 rfl (lv_at hl 2 rfl) ?_
          obtain ⟨hin, hw⟩ := hw
          refine va_lald hx hb hK hP 2 0 rfl rfl hin dc_X_copies_55 ?_
          refine lv_topl (fun v56 e56 => ?_)
          have hw := hw v56 e56
          refine lv_lstore (lv' := [(6, .long v56), (4, .long v48), (3, .int v25), (2, .int v18), (0, .ref h0), (1, .int a1)]) hx hb dc_X_copies_56 hl (Nat.le_of_ble_eq_true rfl) rfl (fun ls hl => ?_)
          refine lv_iconst (v := 1) hx hb dc_X_copies_58 (by decide) ?_
          refine lv_istore (lv' := [(8, .int (1 : Int32)), (6, .long v56), (4, .long v48), (3, .int v25), (2, .int v18), (0, .ref h0), (1, .int a1)]) hx hb dc_X_copies_59 hl (Nat.le_of_ble_eq_true rfl) rfl (fun ls hl => ?_)
          obtain ⟨n61, hw⟩ := hw
          exact B_61 n61 _ _ _ a1 v18 v25 v48 v56 (1 : Int32) fO9 fU9 fW9 fG9 fL9 len9 size9 hw hP hD hS (lv_sub hl [5, 6, 4, 3, 2, 1, 0] rfl)
        · exact gx_T (E0 := "java/lang/IllegalArgumentException") (u := (fO9, fU9, fW9, fG9, fL9, len9, size9)) (wc := ([] : va_W)) (wr := ([(h0, .inr (1, [.ref qO, .ref qU, .ref qW, .ref qG, .ref qN, .int size9])), (qO, .inl (cJ, 64, .inr (.inl fO9))), (qU, .inl (cJ, 64, .inr (.inl fU9))), (qW, .inl (cI, 64, .inl fW9)), (qG, .inl (cZ, 64, .inl fG9)), (qN, .inr (0, [.ref qL, .int len9])), (qL, .inl (cB, 64, .inl fL9))] : va_W)) (vx_runS (As := [.int (a1 * v25), .int (1 : Int32), .int (64 : Int32)]) (rest := []) ⟨hx, hb, hml, hown, hts⟩ (kt_X_demandRange_t l hlt dC dI cJ cI cZ cB _ (a1 * v25) (1 : Int32) (64 : Int32) hw) ⟨callB_of 3 hts (gw_in mw_t74) rfl rfl rfl (hq mw_t1) (hq mw_t72) (by decide +kernel) ⟨Nat.le_of_ble_eq_true rfl, Nat.le_of_ble_eq_true rfl⟩, hq mw_t73⟩ (pz_W (hP.sub (ws' := ([] : va_W)) [] rfl) hK (hD.sub (ws' := ([] : va_W)) [] (by decide) rfl) hE (zz_W hZ hS (va_free (wc := ([] : va_W)) hD hS hA [] rfl))) rfl rfl hl.1 rfl (lv_room (Nat.le_of_ble_eq_true rfl)) dc_X_copies_39 ⟨Nat.le_of_ble_eq_true rfl, Nat.le_of_ble_eq_true rfl⟩) hP hK hD hS hA [] [0, 1, 2, 3, 4, 5, 6] rfl rfl (by decide) (by decide) [0, 1, 2, 3, 4, 5, 6] rfl rfl (by decide) htab hlocks hpx rfl
      · exact gx_T (E0 := "java/lang/IllegalArgumentException") (u := (fO9, fU9, fW9, fG9, fL9, len9, size9)) (wc := ([] : va_W)) (wr := ([(h0, .inr (1, [.ref qO, .ref qU, .ref qW, .ref qG, .ref qN, .int size9])), (qO, .inl (cJ, 64, .inr (.inl fO9))), (qU, .inl (cJ, 64, .inr (.inl fU9))), (qW, .inl (cI, 64, .inl fW9)), (qG, .inl (cZ, 64, .inl fG9)), (qN, .inr (0, [.ref qL, .int len9])), (qL, .inl (cB, 64, .inl fL9))] : va_W)) (vx_runS (As := [.int a1, .int (1 : Int32), .int (64 : Int32)]) (rest := []) ⟨hx, hb, hml, hown, hts⟩ (kt_X_demandRange_t l hlt dC dI cJ cI cZ cB _ a1 (1 : Int32) (64 : Int32) hw) ⟨callB_of 3 hts (gw_in mw_t74) rfl rfl rfl (hq mw_t1) (hq mw_t72) (by decide +kernel) ⟨Nat.le_of_ble_eq_true rfl, Nat.le_of_ble_eq_true rfl⟩, hq mw_t73⟩ (pz_W (hP.sub (ws' := ([] : va_W)) [] rfl) hK (hD.sub (ws' := ([] : va_W)) [] (by decide) rfl) hE (zz_W hZ hS (va_free (wc := ([] : va_W)) hD hS hA [] rfl))) rfl rfl hl.1 rfl (lv_room (Nat.le_of_ble_eq_true rfl)) dc_X_copies_30 ⟨Nat.le_of_ble_eq_true rfl, Nat.le_of_ble_eq_true rfl⟩) hP hK hD hS hA [] [0, 1, 2, 3, 4, 5, 6] rfl rfl (by decide) (by decide) [0, 1, 2, 3, 4, 5, 6] rfl rfl (by decide) htab hlocks hpx rfl
    · exact gx_T (E0 := "java/lang/IllegalStateException") (u := (fO, fU, fW, fG, fL, len, size)) (wc := (wd_X h0 qO qU qW qG qN qL cJ cI cZ cB fO fU fW fG fL len size)) (wr := ([] : va_W)) (vx_runV (As := [.int (1 : Int32)]) (rest := []) ⟨hx, hb, hml, hown, hts⟩ (kt_X_demandValues_t l hlt dC dI cJ cI cZ cB h0 qO qU qW qG qN qL _ (1 : Int32) fO fU fW fG fL len size hw) ⟨callB_of 1 hts (gw_in mw_t184) rfl rfl rfl (hq mw_t1) (hq mw_t181) (by decide +kernel) ⟨Nat.le_of_ble_eq_true rfl, Nat.le_of_ble_eq_true rfl⟩, hq mw_t183, hq mw_s4⟩ (pq_W (va_recv (q0 := 0) (ci := 1) hK hP rfl rfl) (hP.sub (ws' := (wd_X h0 qO qU qW qG qN qL cJ cI cZ cB fO fU fW fG fL len size)) [0, 1, 2, 3, 4, 5, 6] rfl) hK (hD.sub (ws' := (wd_X h0 qO qU qW qG qN qL cJ cI cZ cB fO fU fW fG fL len size)) [0, 1, 2, 3, 4, 5, 6] (by decide) rfl) hE (zz_W hZ hS (va_free (wc := (wd_X h0 qO qU qW qG qN qL cJ cI cZ cB fO fU fW fG fL len size)) hD hS hA [0, 1, 2, 3, 4, 5, 6] rfl))) rfl rfl hl.1 rfl (lv_room (Nat.le_of_ble_eq_true rfl)) dc_X_copies_9 ⟨Nat.le_of_ble_eq_true rfl, Nat.le_of_ble_eq_true rfl⟩) hP hK hD hS hA [0, 1, 2, 3, 4, 5, 6] [] rfl rfl (by decide) (by decide) [0, 1, 2, 3, 4, 5, 6] rfl rfl (by decide) htab hlocks hpx rfl
  · exact gx_T (E0 := "java/lang/IllegalArgumentException") (u := (fO, fU, fW, fG, fL, len, size)) (wc := ([] : va_W)) (wr := ([(h0, .inr (1, [.ref qO, .ref qU, .ref qW, .ref qG, .ref qN, .int size])), (qO, .inl (cJ, 64, .inr (.inl fO))), (qU, .inl (cJ, 64, .inr (.inl fU))), (qW, .inl (cI, 64, .inl fW)), (qG, .inl (cZ, 64, .inl fG)), (qN, .inr (0, [.ref qL, .int len])), (qL, .inl (cB, 64, .inl fL))] : va_W)) (vx_runS (As := [.int a1, .int (1 : Int32), .int (2147483647 : Int32)]) (rest := []) ⟨hx, hb, hml, hown, hts⟩ (kt_X_demandRange_t l hlt dC dI cJ cI cZ cB _ a1 (1 : Int32) (2147483647 : Int32) hw) ⟨callB_of 3 hts (gw_in mw_t74) rfl rfl rfl (hq mw_t1) (hq mw_t72) (by decide +kernel) ⟨Nat.le_of_ble_eq_true rfl, Nat.le_of_ble_eq_true rfl⟩, hq mw_t73⟩ (pz_W (hP.sub (ws' := ([] : va_W)) [] rfl) hK (hD.sub (ws' := ([] : va_W)) [] (by decide) rfl) hE (zz_W hZ hS (va_free (wc := ([] : va_W)) hD hS hA [] rfl))) rfl rfl hl.1 rfl (lv_room (Nat.le_of_ble_eq_true rfl)) dc_X_copies_4 ⟨Nat.le_of_ble_eq_true rfl, Nat.le_of_ble_eq_true rfl⟩) hP hK hD hS hA [] [0, 1, 2, 3, 4, 5, 6] rfl rfl (by decide) (by decide) [0, 1, 2, 3, 4, 5, 6] rfl rfl (by decide) htab hlocks hpx rfl
set_option maxHeartbeats 4000000 in
set_option maxRecDepth 100000 in
theorem kt_X_part (l : Launch) (hlt : l.stackTraces = false) (dC : Nat → ClassId) (dI : Nat → Nat → Nat) (cJ cI cZ cB : ClassId) (h0 qO qU qW qG qN qL : Nat) (sz : Nat) (a1 : Int32) (a2 : Int32) (fO : (Nat → Int64)) (fU : (Nat → Int64)) (fW : (Nat → Int32)) (fG : (Nat → Int32)) (fL : (Nat → Int32)) (len : Int32) (size : Int32) (post : (Nat → Int64) → (Nat → Int64) → (Nat → Int32) → (Nat → Int32) → (Nat → Int32) → Int32 → Int32 → Prop) (px : String → (Nat → Int64) → (Nat → Int64) → (Nat → Int32) → (Nat → Int32) → (Nat → Int32) → Int32 → Int32 → Prop) (hw : wp_X_part post px a1 a2 fO fU fW fG fL len size) : vx_Met l yn_X_part ws_X_part rm_X_part (va_Pc [.ref h0, .int a1, .int a2] (pc_Z (dC, dI) (ty_4 cJ cI cZ cB) (wd_X h0 qO qU qW qG qN qL cJ cI cZ cB fO fU fW fG fL len size) sz)) (qv_X dC dI cJ cI cZ cB h0 qO qU qW qG qN qL post (va_A (wd_X h0 qO qU qW qG qN qL cJ cI cZ cB fO fU fW fG fL len size) sz)) (qx_X dC dI cJ cI cZ cB h0 qO qU qW qG qN qL px (va_A (wd_X h0 qO qU qW qG qN qL cJ cI cZ cB fO fU fW fG fL len size) sz)) 1 6 (va_A (wd_X h0 qO qU qW qG qN qL cJ cI cZ cB fO fU fW fG fL len size) sz) := by
  refine vx_ofW (cc := cd_X_part) (maxL := 4) (ret := none) (by decide) rfl ?_
  intro p e s m args below meth c s₁ B hml htab hv
  obtain ⟨rfl, ⟨hsz, hP, hK, hD0, hE⟩, hZ⟩ := hv
  have hx := B.exec
  have hb := B.bytes
  have hr := B.returns
  have hts := atoms_spec (ws := ws_X_part) B.pre
  have hq : ∀ {w : Cond}, w ∈ wg_all → w.before ([.ref h0, .int a1, .int a2] : List Value).toArray s = true := fun h => hts _ (List.mem_cons_of_mem _ h)
  have hu : ∀ L : List Cond, (∀ w ∈ L, w ∈ wg_all) → ∀ w ∈ L, w ∈ ws_X_part := fun L h w hw => List.mem_cons_of_mem _ (h w hw)
  have hown : s.vm.findClass "FourWords" = some m.cls := findClass_of_methodNamed B.named
  have hlocks := B.notSynchronized
  subst hsz
  have hD := hD0.self (sz := s.heap.size)
  generalize hAe : va_A (wd_X h0 qO qU qW qG qN qL cJ cI cZ cB fO fU fW fG fL len size) s.heap.size = A at hD hZ ⊢
  have hA : ∀ q : Nat, s.heap.size ≤ q → A q := fun q h => by rw [← hAe]; exact Or.inr h
  have hS : va_S A s.heap s.heap [] := va_S.rf
  have hl := lv_entry [.ref h0, .int a1, .int a2] (n := 4) (Nat.le_of_ble_eq_true rfl)
  rw [lg_entry_eq]
  generalize (lg_sl [.ref h0, .int a1, .int a2] ++ List.replicate (4 - (lg_sl [.ref h0, .int a1, .int a2]).length) Slot.unset).toArray = ls at hl ⊢
  have hl : lv_has ls 4 [(0, .ref h0), (1, .int a1), (2, .int a2)] := hl
  unfold wp_X_part at hw
  refine lv_iload_n hx hb dc_X_part_0 rfl (lv_at hl 2 rfl) ?_
  refine lv_iconst (v := 0) hx hb dc_X_part_1 (by decide) ?_
  refine lv_iload_n hx hb dc_X_part_2 rfl (lv_at hl 1 rfl) ?_
  rcases hw with hw | ⟨hw, hpx⟩
  · refine gc_v (S := Unit) (w1 := (fun u => ([] : va_W))) (wc := ([] : va_W)) (wr := ([(h0, .inr (1, [.ref qO, .ref qU, .ref qW, .ref qG, .ref qN, .int size])), (qO, .inl (cJ, 64, .inr (.inl fO))), (qU, .inl (cJ, 64, .inr (.inl fU))), (qW, .inl (cI, 64, .inl fW)), (qG, .inl (cZ, 64, .inl fG)), (qN, .inr (0, [.ref qL, .int len])), (qL, .inl (cB, 64, .inl fL))] : va_W)) (va_runS (As := [.int a2, .int (0 : Int32), .int a1]) (rest := []) ⟨hx, hb, hml, hown, hts⟩ (kt_X_demandRange_k l dC dI cJ cI cZ cB _ a2 (0 : Int32) a1 _ hw) ⟨callB_of 3 hts (gw_in mw_t74) rfl rfl rfl (hq mw_t1) (hq mw_t72) (by decide +kernel) ⟨Nat.le_of_ble_eq_true rfl, Nat.le_of_ble_eq_true rfl⟩, hq mw_t73⟩ (ps_W (hP.sub (ws' := ([] : va_W)) [] rfl) hK (hD.sub (ws' := ([] : va_W)) [] (by decide) rfl) hE) rfl rfl hl.1 rfl (lv_room (Nat.le_of_ble_eq_true rfl)) dc_X_part_3 ⟨Nat.le_of_ble_eq_true rfl, Nat.le_of_ble_eq_true rfl⟩) hP hD hS hA [] [0, 1, 2, 3, 4, 5, 6] rfl rfl (by decide) (by decide) (fun u H locs hw hP hD hS => ?_)
    have hP : va_P (dC, dI) cs_3 (wd_X h0 qO qU qW qG qN qL cJ cI cZ cB fO fU fW fG fL len size) H := hP.sub (ws' := (wd_X h0 qO qU qW qG qN qL cJ cI cZ cB fO fU fW fG fL len size)) [0, 1, 2, 3, 4, 5, 6] rfl
    have hD : va_D A (wd_X h0 qO qU qW qG qN qL cJ cI cZ cB fO fU fW fG fL len size) := hD.sub (ws' := (wd_X h0 qO qU qW qG qN qL cJ cI cZ cB fO fU fW fG fL len size)) [0, 1, 2, 3, 4, 5, 6] (by decide) rfl
    try dsimp only at hw
    refine lv_aload_n hx hb dc_X_part_6 rfl (lv_at hl 0 rfl) ?_
    refine lv_iconst (v := 1) hx hb dc_X_part_7 (by decide) ?_
    rcases hw with hw | ⟨hw, hpx⟩
    · refine gc_v (S := (Nat → Int64) × (Nat → Int64) × (Nat → Int32) × (Nat → Int32) × (Nat → Int32) × Int32 × Int32) (w1 := (fun u => (wd_X h0 qO qU qW qG qN qL cJ cI cZ cB u.1 u.2.1 u.2.2.1 u.2.2.2.1 u.2.2.2.2.1 u.2.2.2.2.2.1 u.2.2.2.2.2.2))) (wc := (wd_X h0 qO qU qW qG qN qL cJ cI cZ cB fO fU fW fG fL len size)) (wr := ([] : va_W)) (va_runV (As := [.int (1 : Int32)]) (rest := []) ⟨hx, hb, hml, hown, hts⟩ (kt_X_demandValues_k l dC dI cJ cI cZ cB h0 qO qU qW qG qN qL _ (1 : Int32) fO fU fW fG fL len size _ hw) ⟨callB_of 1 hts (gw_in mw_t184) rfl rfl rfl (hq mw_t1) (hq mw_t181) (by decide +kernel) ⟨Nat.le_of_ble_eq_true rfl, Nat.le_of_ble_eq_true rfl⟩, hq mw_t183, hq mw_s4⟩ (pv_W (va_recv (q0 := 0) (ci := 1) hK hP rfl rfl) (hP.sub (ws' := (wd_X h0 qO qU qW qG qN qL cJ cI cZ cB fO fU fW fG fL len size)) [0, 1, 2, 3, 4, 5, 6] rfl) hK (hD.sub (ws' := (wd_X h0 qO qU qW qG qN qL cJ cI cZ cB fO fU fW fG fL len size)) [0, 1, 2, 3, 4, 5, 6] (by decide) rfl) hE) rfl rfl hl.1 rfl (lv_room (Nat.le_of_ble_eq_true rfl)) dc_X_part_8 ⟨Nat.le_of_ble_eq_true rfl, Nat.le_of_ble_eq_true rfl⟩) hP hD hS hA [0, 1, 2, 3, 4, 5, 6] [] rfl rfl (by decide) (by decide) (fun u H locs hw hP hD hS => ?_)
      obtain ⟨fO8, fU8, fW8, fG8, fL8, len8, size8⟩ := u
      have hP : va_P (dC, dI) cs_3 (wd_X h0 qO qU qW qG qN qL cJ cI cZ cB fO8 fU8 fW8 fG8 fL8 len8 size8) H := hP.sub (ws' := (wd_X h0 qO qU qW qG qN qL cJ cI cZ cB fO8 fU8 fW8 fG8 fL8 len8 size8)) [0, 1, 2, 3, 4, 5, 6] rfl
      have hD : va_D A (wd_X h0 qO qU qW qG qN qL cJ cI cZ cB fO8 fU8 fW8 fG8 fL8 len8 size8) := hD.sub (ws' := (wd_X h0 qO qU qW qG qN qL cJ cI cZ cB fO8 fU8 fW8 fG8 fL8 len8 size8)) [0, 1, 2, 3, 4, 5, 6] (by decide) rfl
      try dsimp only at hw
      refine lv_aload_n hx hb dc_X_part_11 rfl (lv_at hl 0 rfl) ?_
      refine va_get (D := (dC, dI)) (ci := 1) (v := .int size8) (C := "FourWords") (T := tb_X) (N := 6) hx hb hts (hu _ um_X) hown hK hP 0 rfl rfl 5 (by decide) (hq mw_t45) (fun _ h9 => h9) rfl dc_X_part_12 ?_
      refine lv_iconst (v := 1) hx hb dc_X_part_15 (by decide) ?_
      refine lv_isub hx hb dc_X_part_16 ?_
      refine lv_topi (fun v17 e17 => ?_)
      have hw := hw v17 e17
      refine lv_istore_n (lv' := [(3, .int v17), (0, .ref h0), (1, .int a1), (2, .int a2)]) hx hb dc_X_part_17 rfl hl (Nat.le_of_ble_eq_true rfl) rfl (fun ls hl => ?_)
      refine lv_iload_n hx hb dc_X_part_18 rfl (lv_at hl 2 rfl) ?_
      refine lv_iconst (v := 0) hx hb dc_X_part_19 (by decide) ?_
      refine lv_aload_n hx hb dc_X_part_20 rfl (lv_at hl 1 rfl) ?_
      refine va_get (D := (dC, dI)) (ci := 1) (v := .ref qW) (C := "FourWords") (T := tb_X) (N := 6) hx hb hts (hu _ um_X) hown hK hP 0 rfl rfl 2 (by decide) (hq mw_t42) (fun _ h9 => h9) rfl dc_X_part_21 ?_
      refine lv_iload_n hx hb dc_X_part_24 rfl (lv_at hl 0 rfl) ?_
      obtain ⟨hin, hw⟩ := hw
      refine va_iald hx hb hK hP 3 1 rfl rfl hin dc_X_part_25 ?_
      refine lv_iconst (v := 1) hx hb dc_X_part_26 (by decide) ?_
      refine lv_isub hx hb dc_X_part_27 ?_
      rcases hw with hw | ⟨hw, hpx⟩
      · refine gc_v (S := Unit) (w1 := (fun u => ([] : va_W))) (wc := ([] : va_W)) (wr := ([(h0, .inr (1, [.ref qO, .ref qU, .ref qW, .ref qG, .ref qN, .int size8])), (qO, .inl (cJ, 64, .inr (.inl fO8))), (qU, .inl (cJ, 64, .inr (.inl fU8))), (qW, .inl (cI, 64, .inl fW8)), (qG, .inl (cZ, 64, .inl fG8)), (qN, .inr (0, [.ref qL, .int len8])), (qL, .inl (cB, 64, .inl fL8))] : va_W)) (va_runS (As := [.int a1, .int (0 : Int32), .int ((fW8 v17.toNatClampNeg) - (1 : Int32))]) (rest := []) ⟨hx, hb, hml, hown, hts⟩ (kt_X_demandRange_k l dC dI cJ cI cZ cB _ a1 (0 : Int32) ((fW8 v17.toNatClampNeg) - (1 : Int32)) _ hw) ⟨callB_of 3 hts (gw_in mw_t74) rfl rfl rfl (hq mw_t1) (hq mw_t72) (by decide +kernel) ⟨Nat.le_of_ble_eq_true rfl, Nat.le_of_ble_eq_true rfl⟩, hq mw_t73⟩ (ps_W (hP.sub (ws' := ([] : va_W)) [] rfl) hK (hD.sub (ws' := ([] : va_W)) [] (by decide) rfl) hE) rfl rfl hl.1 rfl (lv_room (Nat.le_of_ble_eq_true rfl)) dc_X_part_28 ⟨Nat.le_of_ble_eq_true rfl, Nat.le_of_ble_eq_true rfl⟩) hP hD hS hA [] [0, 1, 2, 3, 4, 5, 6] rfl rfl (by decide) (by decide) (fun u H locs hw hP hD hS => ?_)
        have hP : va_P (dC, dI) cs_3 (wd_X h0 qO qU qW qG qN qL cJ cI cZ cB fO8 fU8 fW8 fG8 fL8 len8 size8) H := hP.sub (ws' := (wd_X h0 qO qU qW qG qN qL cJ cI cZ cB fO8 fU8 fW8 fG8 fL8 len8 size8)) [0, 1, 2, 3, 4, 5, 6] rfl
        have hD : va_D A (wd_X h0 qO qU qW qG qN qL cJ cI cZ cB fO8 fU8 fW8 fG8 fL8 len8 size8) := hD.sub (ws' := (wd_X h0 qO qU qW qG qN qL cJ cI cZ cB fO8 fU8 fW8 fG8 fL8 len8 size8)) [0, 1, 2, 3, 4, 5, 6] (by decide) rfl
        try dsimp only at hw
        refine lv_aload_n hx hb dc_X_part_31 rfl (lv_at hl 1 rfl) ?_
        refine lv_iload_n hx hb dc_X_part_32 rfl (lv_at hl 0 rfl) ?_
        refine lv_aload_n hx hb dc_X_part_33 rfl (lv_at hl 1 rfl) ?_
        refine va_get (D := (dC, dI)) (ci := 1) (v := .ref qO) (C := "FourWords") (T := tb_X) (N := 6) hx hb hts (hu _ um_X) hown hK hP 0 rfl rfl 0 (by decide) (hq mw_t40) (fun _ h9 => h9) rfl dc_X_part_34 ?_
        refine lv_iload_n hx hb dc_X_part_37 rfl (lv_at hl 0 rfl) ?_
        obtain ⟨hin, hw⟩ := hw
        refine va_lald hx hb hK hP 1 0 rfl rfl hin dc_X_part_38 ?_
        refine lv_iload_n hx hb dc_X_part_39 rfl (lv_at hl 3 rfl) ?_
        refine lv_lushr hx hb dc_X_part_40 rfl ?_
        refine lv_aload_n hx hb dc_X_part_41 rfl (lv_at hl 1 rfl) ?_
        refine va_get (D := (dC, dI)) (ci := 1) (v := .ref qU) (C := "FourWords") (T := tb_X) (N := 6) hx hb hts (hu _ um_X) hown hK hP 0 rfl rfl 1 (by decide) (hq mw_t41) (fun _ h9 => h9) rfl dc_X_part_42 ?_
        refine lv_iload_n hx hb dc_X_part_45 rfl (lv_at hl 0 rfl) ?_
        obtain ⟨hin, hw⟩ := hw
        refine va_lald hx hb hK hP 2 0 rfl rfl hin dc_X_part_46 ?_
        refine lv_iload_n hx hb dc_X_part_47 rfl (lv_at hl 3 rfl) ?_
        refine lv_lushr hx hb dc_X_part_48 rfl ?_
        refine lv_iload_n hx hb dc_X_part_49 rfl (lv_at hl 2 rfl) ?_
        refine lv_iload_n hx hb dc_X_part_50 rfl (lv_at hl 3 rfl) ?_
        refine lv_isub hx hb dc_X_part_51 ?_
        refine lv_iconst (v := 1) hx hb dc_X_part_52 (by decide) ?_
        refine lv_iadd hx hb dc_X_part_53 ?_
        refine lv_iconst (v := 0) hx hb dc_X_part_54 (by decide) ?_
        refine gc_v (S := (Nat → Int64) × (Nat → Int64) × (Nat → Int32) × (Nat → Int32) × (Nat → Int32) × Int32 × Int32) (w1 := (fun u => (wd_X h0 qO qU qW qG qN qL cJ cI cZ cB u.1 u.2.1 u.2.2.1 u.2.2.2.1 u.2.2.2.2.1 u.2.2.2.2.2.1 u.2.2.2.2.2.2))) (wc := (wd_X h0 qO qU qW qG qN qL cJ cI cZ cB fO8 fU8 fW8 fG8 fL8 len8 size8)) (wr := ([] : va_W)) (va_runV (As := [.int v17, .long (((fO8 v17.toNatClampNeg).toUInt64 >>> (a2.toInt64.toUInt64 &&& Int64.toUInt64 63)).toInt64), .long (((fU8 v17.toNatClampNeg).toUInt64 >>> (a2.toInt64.toUInt64 &&& Int64.toUInt64 63)).toInt64), .int ((a1 - a2) + (1 : Int32)), .int (0 : Int32)]) (rest := []) ⟨hx, hb, hml, hown, hts⟩ (kt_X_setValue l dC dI cJ cI cZ cB h0 qO qU qW qG qN qL _ v17 (((fO8 v17.toNatClampNeg).toUInt64 >>> (a2.toInt64.toUInt64 &&& Int64.toUInt64 63)).toInt64) (((fU8 v17.toNatClampNeg).toUInt64 >>> (a2.toInt64.toUInt64 &&& Int64.toUInt64 63)).toInt64) ((a1 - a2) + (1 : Int32)) (0 : Int32) fO8 fU8 fW8 fG8 fL8 len8 size8 _ hw) ⟨callB_of 5 hts (gw_in mw_t165) rfl rfl rfl (hq mw_t1) (hq mw_t162) (by decide +kernel) ⟨Nat.le_of_ble_eq_true rfl, Nat.le_of_ble_eq_true rfl⟩, hq mw_t164, hq mw_s2⟩ (pv_W (va_recv (q0 := 0) (ci := 1) hK hP rfl rfl) (hP.sub (ws' := (wd_X h0 qO qU qW qG qN qL cJ cI cZ cB fO8 fU8 fW8 fG8 fL8 len8 size8)) [0, 1, 2, 3, 4, 5, 6] rfl) hK (hD.sub (ws' := (wd_X h0 qO qU qW qG qN qL cJ cI cZ cB fO8 fU8 fW8 fG8 fL8 len8 size8)) [0, 1, 2, 3, 4, 5, 6] (by decide) rfl) hE) rfl rfl hl.1 rfl (lv_room (Nat.le_of_ble_eq_true rfl)) dc_X_part_55 ⟨Nat.le_of_ble_eq_true rfl, Nat.le_of_ble_eq_true rfl⟩) hP hD hS hA [0, 1, 2, 3, 4, 5, 6] [] rfl rfl (by decide) (by decide) (fun u H locs hw hP hD hS => ?_)
        obtain ⟨fO55, fU55, fW55, fG55, fL55, len55, size55⟩ := u
        have hP : va_P (dC, dI) cs_3 (wd_X h0 qO qU qW qG qN qL cJ cI cZ cB fO55 fU55 fW55 fG55 fL55 len55 size55) H := hP.sub (ws' := (wd_X h0 qO qU qW qG qN qL cJ cI cZ cB fO55 fU55 fW55 fG55 fL55 len55 size55)) [0, 1, 2, 3, 4, 5, 6] rfl
        have hD : va_D A (wd_X h0 qO qU qW qG qN qL cJ cI cZ cB fO55 fU55 fW55 fG55 fL55 len55 size55) := hD.sub (ws' := (wd_X h0 qO qU qW qG qN qL cJ cI cZ cB fO55 fU55 fW55 fG55 fL55 len55 size55)) [0, 1, 2, 3, 4, 5, 6] (by decide) rfl
        try dsimp only at hw
        refine W.widen (k := 1) (n := 6) (Nat.zero_le _) (Nat.zero_le _) ?_
        exact vx_ret (W.vret hx hb hr (fun t ht hW => ⟨⟨(fO55, fU55, fW55, fG55, fL55, len55, size55), rfl, hw, by rw [ht]; exact hP, va_K.moved hW.alike hK, hD⟩, hS.F ht⟩) hS.2.2 dc_X_part_58)
      · exact gx_T (E0 := "java/lang/IllegalArgumentException") (u := (fO8, fU8, fW8, fG8, fL8, len8, size8)) (wc := ([] : va_W)) (wr := ([(h0, .inr (1, [.ref qO, .ref qU, .ref qW, .ref qG, .ref qN, .int size8])), (qO, .inl (cJ, 64, .inr (.inl fO8))), (qU, .inl (cJ, 64, .inr (.inl fU8))), (qW, .inl (cI, 64, .inl fW8)), (qG, .inl (cZ, 64, .inl fG8)), (qN, .inr (0, [.ref qL, .int len8])), (qL, .inl (cB, 64, .inl fL8))] : va_W)) (vx_runS (As := [.int a1, .int (0 : Int32), .int ((fW8 v17.toNatClampNeg) - (1 : Int32))]) (rest := []) ⟨hx, hb, hml, hown, hts⟩ (kt_X_demandRange_t l hlt dC dI cJ cI cZ cB _ a1 (0 : Int32) ((fW8 v17.toNatClampNeg) - (1 : Int32)) hw) ⟨callB_of 3 hts (gw_in mw_t74) rfl rfl rfl (hq mw_t1) (hq mw_t72) (by decide +kernel) ⟨Nat.le_of_ble_eq_true rfl, Nat.le_of_ble_eq_true rfl⟩, hq mw_t73⟩ (pz_W (hP.sub (ws' := ([] : va_W)) [] rfl) hK (hD.sub (ws' := ([] : va_W)) [] (by decide) rfl) hE (zz_W hZ hS (va_free (wc := ([] : va_W)) hD hS hA [] rfl))) rfl rfl hl.1 rfl (lv_room (Nat.le_of_ble_eq_true rfl)) dc_X_part_28 ⟨Nat.le_of_ble_eq_true rfl, Nat.le_of_ble_eq_true rfl⟩) hP hK hD hS hA [] [0, 1, 2, 3, 4, 5, 6] rfl rfl (by decide) (by decide) [0, 1, 2, 3, 4, 5, 6] rfl rfl (by decide) htab hlocks hpx rfl
    · exact gx_T (E0 := "java/lang/IllegalStateException") (u := (fO, fU, fW, fG, fL, len, size)) (wc := (wd_X h0 qO qU qW qG qN qL cJ cI cZ cB fO fU fW fG fL len size)) (wr := ([] : va_W)) (vx_runV (As := [.int (1 : Int32)]) (rest := []) ⟨hx, hb, hml, hown, hts⟩ (kt_X_demandValues_t l hlt dC dI cJ cI cZ cB h0 qO qU qW qG qN qL _ (1 : Int32) fO fU fW fG fL len size hw) ⟨callB_of 1 hts (gw_in mw_t184) rfl rfl rfl (hq mw_t1) (hq mw_t181) (by decide +kernel) ⟨Nat.le_of_ble_eq_true rfl, Nat.le_of_ble_eq_true rfl⟩, hq mw_t183, hq mw_s4⟩ (pq_W (va_recv (q0 := 0) (ci := 1) hK hP rfl rfl) (hP.sub (ws' := (wd_X h0 qO qU qW qG qN qL cJ cI cZ cB fO fU fW fG fL len size)) [0, 1, 2, 3, 4, 5, 6] rfl) hK (hD.sub (ws' := (wd_X h0 qO qU qW qG qN qL cJ cI cZ cB fO fU fW fG fL len size)) [0, 1, 2, 3, 4, 5, 6] (by decide) rfl) hE (zz_W hZ hS (va_free (wc := (wd_X h0 qO qU qW qG qN qL cJ cI cZ cB fO fU fW fG fL len size)) hD hS hA [0, 1, 2, 3, 4, 5, 6] rfl))) rfl rfl hl.1 rfl (lv_room (Nat.le_of_ble_eq_true rfl)) dc_X_part_8 ⟨Nat.le_of_ble_eq_true rfl, Nat.le_of_ble_eq_true rfl⟩) hP hK hD hS hA [0, 1, 2, 3, 4, 5, 6] [] rfl rfl (by decide) (by decide) [0, 1, 2, 3, 4, 5, 6] rfl rfl (by decide) htab hlocks hpx rfl
  · exact gx_T (E0 := "java/lang/IllegalArgumentException") (u := (fO, fU, fW, fG, fL, len, size)) (wc := ([] : va_W)) (wr := ([(h0, .inr (1, [.ref qO, .ref qU, .ref qW, .ref qG, .ref qN, .int size])), (qO, .inl (cJ, 64, .inr (.inl fO))), (qU, .inl (cJ, 64, .inr (.inl fU))), (qW, .inl (cI, 64, .inl fW)), (qG, .inl (cZ, 64, .inl fG)), (qN, .inr (0, [.ref qL, .int len])), (qL, .inl (cB, 64, .inl fL))] : va_W)) (vx_runS (As := [.int a2, .int (0 : Int32), .int a1]) (rest := []) ⟨hx, hb, hml, hown, hts⟩ (kt_X_demandRange_t l hlt dC dI cJ cI cZ cB _ a2 (0 : Int32) a1 hw) ⟨callB_of 3 hts (gw_in mw_t74) rfl rfl rfl (hq mw_t1) (hq mw_t72) (by decide +kernel) ⟨Nat.le_of_ble_eq_true rfl, Nat.le_of_ble_eq_true rfl⟩, hq mw_t73⟩ (pz_W (hP.sub (ws' := ([] : va_W)) [] rfl) hK (hD.sub (ws' := ([] : va_W)) [] (by decide) rfl) hE (zz_W hZ hS (va_free (wc := ([] : va_W)) hD hS hA [] rfl))) rfl rfl hl.1 rfl (lv_room (Nat.le_of_ble_eq_true rfl)) dc_X_part_3 ⟨Nat.le_of_ble_eq_true rfl, Nat.le_of_ble_eq_true rfl⟩) hP hK hD hS hA [] [0, 1, 2, 3, 4, 5, 6] rfl rfl (by decide) (by decide) [0, 1, 2, 3, 4, 5, 6] rfl rfl (by decide) htab hlocks hpx rfl

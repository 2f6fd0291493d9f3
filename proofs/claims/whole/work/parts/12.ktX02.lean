set_option maxHeartbeats 4000000 in
set_option maxRecDepth 100000 in
theorem kt_X_combine (l : Launch) (dC : Nat → ClassId) (dI : Nat → Nat → Nat) (cJ cI cZ cB : ClassId) (h0 qO qU qW qG qN qL : Nat) (sz : Nat) (a1 : Int32) (a2 : Int32) (a3 : Int32) (fO : (Nat → Int64)) (fU : (Nat → Int64)) (fW : (Nat → Int32)) (fG : (Nat → Int32)) (fL : (Nat → Int32)) (len : Int32) (size : Int32) (post : (Nat → Int64) → (Nat → Int64) → (Nat → Int32) → (Nat → Int32) → (Nat → Int32) → Int32 → Int32 → Prop) (hw : wp_X_combine post a1 a2 a3 fO fU fW fG fL len size) : Met l yn_X_combine ws_X_combine rm_X_combine (va_Pc [.ref h0, .int a1, .int a2, .int a3] (pc_W (dC, dI) (ty_4 cJ cI cZ cB) (wd_X h0 qO qU qW qG qN qL cJ cI cZ cB fO fU fW fG fL len size) sz)) (qv_X dC dI cJ cI cZ cB h0 qO qU qW qG qN qL post (va_A (wd_X h0 qO qU qW qG qN qL cJ cI cZ cB fO fU fW fG fL len size) sz)) 0 0 (va_A (wd_X h0 qO qU qW qG qN qL cJ cI cZ cB fO fU fW fG fL len size) sz) := by
  refine Met.ofW (cc := cd_X_combine) (maxL := 16) (ret := none) (by decide) rfl ?_
  intro p e s m args below meth c s₁ B hml hv
  obtain ⟨rfl, hsz, hP, hK, hD0, hE⟩ := hv
  have hx := B.exec
  have hb := B.bytes
  have hr := B.returns
  have hts := atoms_spec (ws := ws_X_combine) B.pre
  have hq : ∀ {w : Cond}, w ∈ wg_all → w.before ([.ref h0, .int a1, .int a2, .int a3] : List Value).toArray s = true := fun h => hts _ (List.mem_cons_of_mem _ h)
  have hu : ∀ L : List Cond, (∀ w ∈ L, w ∈ wg_all) → ∀ w ∈ L, w ∈ ws_X_combine := fun L h w hw => List.mem_cons_of_mem _ (h w hw)
  have hown : s.vm.findClass "FourWords" = some m.cls := findClass_of_methodNamed B.named
  have hlocks := B.notSynchronized
  subst hsz
  have hD := hD0.self (sz := s.heap.size)
  generalize hAe : va_A (wd_X h0 qO qU qW qG qN qL cJ cI cZ cB fO fU fW fG fL len size) s.heap.size = A at hD ⊢
  have hA : ∀ q : Nat, s.heap.size ≤ q → A q := fun q h => by rw [← hAe]; exact Or.inr h
  have hS : va_S A s.heap s.heap [] := va_S.rf
  have hl := lv_entry [.ref h0, .int a1, .int a2, .int a3] (n := 16) (Nat.le_of_ble_eq_true rfl)
  rw [lg_entry_eq]
  generalize (lg_sl [.ref h0, .int a1, .int a2, .int a3] ++ List.replicate (16 - (lg_sl [.ref h0, .int a1, .int a2, .int a3]).length) Slot.unset).toArray = ls at hl ⊢
  have hl : lv_has ls 16 [(0, .ref h0), (1, .int a1), (2, .int a2), (3, .int a3)] := hl
  have B_137 : ∀ (H : Heap) (locs : List Loc) (ls : Array Slot) (fO : (Nat → Int64)) (fU : (Nat → Int64)) (fW : (Nat → Int32)) (fG : (Nat → Int32)) (fL : (Nat → Int32)) (len : Int32) (size : Int32), wp_X_combine_137 post fO fU fW fG fL len size → va_P (dC, dI) cs_3 (wd_X h0 qO qU qW qG qN qL cJ cI cZ cB fO fU fW fG fL len size) H → va_D A (wd_X h0 qO qU qW qG qN qL cJ cI cZ cB fO fU fW fG fL len size) → va_S A s.heap H locs → lv_has ls 16 [] → W p l e (headSpec ws_X_combine rm_X_combine).room s m ([.ref h0, .int a1, .int a2, .int a3] : List Value).toArray below meth c H locs 0 0 (MQ below (qv_X dC dI cJ cI cZ cB h0 qO qU qW qG qN qL post A) ([.ref h0, .int a1, .int a2, .int a3] : List Value).toArray s 0 0 A) (F0 m 137 ls []) := by
    intro H locs ls fO fU fW fG fL len size hw hP hD hS hl
    unfold wp_X_combine_137 at hw
    exact W.vret hx hb hr (fun t ht hW => ⟨⟨(fO, fU, fW, fG, fL, len, size), rfl, hw, by rw [ht]; exact hP, va_K.moved hW.alike hK, hD⟩, hS.F ht⟩) hS.2.2 dc_X_combine_137
  unfold wp_X_combine at hw
  refine lv_aload_n hx hb dc_X_combine_0 rfl (lv_at hl 0 rfl) ?_
  refine lv_iload_n hx hb dc_X_combine_1 rfl (lv_at hl 2 rfl) ?_
  refine gc_l (S := (Nat → Int64) × (Nat → Int64) × (Nat → Int32) × (Nat → Int32) × (Nat → Int32) × Int32 × Int32) (w1 := (fun u => (wd_X h0 qO qU qW qG qN qL cJ cI cZ cB u.1 u.2.1 u.2.2.1 u.2.2.2.1 u.2.2.2.2.1 u.2.2.2.2.2.1 u.2.2.2.2.2.2))) (wc := (wd_X h0 qO qU qW qG qN qL cJ cI cZ cB fO fU fW fG fL len size)) (wr := ([] : va_W)) (va_runV (As := [.int a2]) (rest := []) ⟨hx, hb, hml, hown, hts⟩ (kt_X_sureOnes l dC dI cJ cI cZ cB h0 qO qU qW qG qN qL _ a2 fO fU fW fG fL len size _ hw) ⟨callB_of 1 hts (gw_in mw_t227) rfl rfl rfl (hq mw_t1) (hq mw_t224) (by decide +kernel) ⟨Nat.le_of_ble_eq_true rfl, Nat.le_of_ble_eq_true rfl⟩, hq mw_t226, hq mw_s11⟩ (pv_W (va_recv (q0 := 0) (ci := 1) hK hP rfl rfl) (hP.sub (ws' := (wd_X h0 qO qU qW qG qN qL cJ cI cZ cB fO fU fW fG fL len size)) [0, 1, 2, 3, 4, 5, 6] rfl) hK (hD.sub (ws' := (wd_X h0 qO qU qW qG qN qL cJ cI cZ cB fO fU fW fG fL len size)) [0, 1, 2, 3, 4, 5, 6] (by decide) rfl) hE) rfl rfl hl.1 rfl (lv_room (Nat.le_of_ble_eq_true rfl)) dc_X_combine_2 ⟨Nat.le_of_ble_eq_true rfl, Nat.le_of_ble_eq_true rfl⟩) hP hD hS hA [0, 1, 2, 3, 4, 5, 6] [] rfl rfl (by decide) (by decide) (fun r2 u H locs hw hP hD hS => ?_)
  obtain ⟨fO2, fU2, fW2, fG2, fL2, len2, size2⟩ := u
  have hP : va_P (dC, dI) cs_3 (wd_X h0 qO qU qW qG qN qL cJ cI cZ cB fO2 fU2 fW2 fG2 fL2 len2 size2) H := hP.sub (ws' := (wd_X h0 qO qU qW qG qN qL cJ cI cZ cB fO2 fU2 fW2 fG2 fL2 len2 size2)) [0, 1, 2, 3, 4, 5, 6] rfl
  have hD : va_D A (wd_X h0 qO qU qW qG qN qL cJ cI cZ cB fO2 fU2 fW2 fG2 fL2 len2 size2) := hD.sub (ws' := (wd_X h0 qO qU qW qG qN qL cJ cI cZ cB fO2 fU2 fW2 fG2 fL2 len2 size2)) [0, 1, 2, 3, 4, 5, 6] (by decide) rfl
  try dsimp only at hw
  refine lv_lstore (lv' := [(4, .long r2), (0, .ref h0), (1, .int a1), (2, .int a2), (3, .int a3)]) hx hb dc_X_combine_5 hl (Nat.le_of_ble_eq_true rfl) rfl (fun ls hl => ?_)
  refine lv_aload_n hx hb dc_X_combine_7 rfl (lv_at hl 1 rfl) ?_
  refine lv_iload_n hx hb dc_X_combine_8 rfl (lv_at hl 4 rfl) ?_
  refine gc_l (S := (Nat → Int64) × (Nat → Int64) × (Nat → Int32) × (Nat → Int32) × (Nat → Int32) × Int32 × Int32) (w1 := (fun u => (wd_X h0 qO qU qW qG qN qL cJ cI cZ cB u.1 u.2.1 u.2.2.1 u.2.2.2.1 u.2.2.2.2.1 u.2.2.2.2.2.1 u.2.2.2.2.2.2))) (wc := (wd_X h0 qO qU qW qG qN qL cJ cI cZ cB fO2 fU2 fW2 fG2 fL2 len2 size2)) (wr := ([] : va_W)) (va_runV (As := [.int a3]) (rest := []) ⟨hx, hb, hml, hown, hts⟩ (kt_X_sureOnes l dC dI cJ cI cZ cB h0 qO qU qW qG qN qL _ a3 fO2 fU2 fW2 fG2 fL2 len2 size2 _ hw) ⟨callB_of 1 hts (gw_in mw_t227) rfl rfl rfl (hq mw_t1) (hq mw_t224) (by decide +kernel) ⟨Nat.le_of_ble_eq_true rfl, Nat.le_of_ble_eq_true rfl⟩, hq mw_t226, hq mw_s11⟩ (pv_W (va_recv (q0 := 0) (ci := 1) hK hP rfl rfl) (hP.sub (ws' := (wd_X h0 qO qU qW qG qN qL cJ cI cZ cB fO2 fU2 fW2 fG2 fL2 len2 size2)) [0, 1, 2, 3, 4, 5, 6] rfl) hK (hD.sub (ws' := (wd_X h0 qO qU qW qG qN qL cJ cI cZ cB fO2 fU2 fW2 fG2 fL2 len2 size2)) [0, 1, 2, 3, 4, 5, 6] (by decide) rfl) hE) rfl rfl hl.1 rfl (lv_room (Nat.le_of_ble_eq_true rfl)) dc_X_combine_9 ⟨Nat.le_of_ble_eq_true rfl, Nat.le_of_ble_eq_true rfl⟩) hP hD hS hA [0, 1, 2, 3, 4, 5, 6] [] rfl rfl (by decide) (by decide) (fun r9 u H locs hw hP hD hS => ?_)
  obtain ⟨fO9, fU9, fW9, fG9, fL9, len9, size9⟩ := u
  have hP : va_P (dC, dI) cs_3 (wd_X h0 qO qU qW qG qN qL cJ cI cZ cB fO9 fU9 fW9 fG9 fL9 len9 size9) H := hP.sub (ws' := (wd_X h0 qO qU qW qG qN qL cJ cI cZ cB fO9 fU9 fW9 fG9 fL9 len9 size9)) [0, 1, 2, 3, 4, 5, 6] rfl
  have hD : va_D A (wd_X h0 qO qU qW qG qN qL cJ cI cZ cB fO9 fU9 fW9 fG9 fL9 len9 size9) := hD.sub (ws' := (wd_X h0 qO qU qW qG qN qL cJ cI cZ cB fO9 fU9 fW9 fG9 fL9 len9 size9)) [0, 1, 2, 3, 4, 5, 6] (by decide) rfl
  try dsimp only at hw
  refine lv_lstore (lv' := [(6, .long r9), (4, .long r2), (0, .ref h0), (1, .int a1), (2, .int a2), (3, .int a3)]) hx hb dc_X_combine_12 hl (Nat.le_of_ble_eq_true rfl) rfl (fun ls hl => ?_)
  refine lv_aload_n hx hb dc_X_combine_14 rfl (lv_at hl 2 rfl) ?_
  refine lv_iload_n hx hb dc_X_combine_15 rfl (lv_at hl 4 rfl) ?_
  refine gc_l (S := (Nat → Int64) × (Nat → Int64) × (Nat → Int32) × (Nat → Int32) × (Nat → Int32) × Int32 × Int32) (w1 := (fun u => (wd_X h0 qO qU qW qG qN qL cJ cI cZ cB u.1 u.2.1 u.2.2.1 u.2.2.2.1 u.2.2.2.2.1 u.2.2.2.2.2.1 u.2.2.2.2.2.2))) (wc := (wd_X h0 qO qU qW qG qN qL cJ cI cZ cB fO9 fU9 fW9 fG9 fL9 len9 size9)) (wr := ([] : va_W)) (va_runV (As := [.int a2]) (rest := []) ⟨hx, hb, hml, hown, hts⟩ (kt_X_sureZeros l dC dI cJ cI cZ cB h0 qO qU qW qG qN qL _ a2 fO9 fU9 fW9 fG9 fL9 len9 size9 _ hw) ⟨callB_of 1 hts (gw_in mw_t231) rfl rfl rfl (hq mw_t1) (hq mw_t228) (by decide +kernel) ⟨Nat.le_of_ble_eq_true rfl, Nat.le_of_ble_eq_true rfl⟩, hq mw_t230, hq mw_s12⟩ (pv_W (va_recv (q0 := 0) (ci := 1) hK hP rfl rfl) (hP.sub (ws' := (wd_X h0 qO qU qW qG qN qL cJ cI cZ cB fO9 fU9 fW9 fG9 fL9 len9 size9)) [0, 1, 2, 3, 4, 5, 6] rfl) hK (hD.sub (ws' := (wd_X h0 qO qU qW qG qN qL cJ cI cZ cB fO9 fU9 fW9 fG9 fL9 len9 size9)) [0, 1, 2, 3, 4, 5, 6] (by decide) rfl) hE) rfl rfl hl.1 rfl (lv_room (Nat.le_of_ble_eq_true rfl)) dc_X_combine_16 ⟨Nat.le_of_ble_eq_true rfl, Nat.le_of_ble_eq_true rfl⟩) hP hD hS hA [0, 1, 2, 3, 4, 5, 6] [] rfl rfl (by decide) (by decide) (fun r16 u H locs hw hP hD hS => ?_)
  obtain ⟨fO16, fU16, fW16, fG16, fL16, len16, size16⟩ := u
  have hP : va_P (dC, dI) cs_3 (wd_X h0 qO qU qW qG qN qL cJ cI cZ cB fO16 fU16 fW16 fG16 fL16 len16 size16) H := hP.sub (ws' := (wd_X h0 qO qU qW qG qN qL cJ cI cZ cB fO16 fU16 fW16 fG16 fL16 len16 size16)) [0, 1, 2, 3, 4, 5, 6] rfl
  have hD : va_D A (wd_X h0 qO qU qW qG qN qL cJ cI cZ cB fO16 fU16 fW16 fG16 fL16 len16 size16) := hD.sub (ws' := (wd_X h0 qO qU qW qG qN qL cJ cI cZ cB fO16 fU16 fW16 fG16 fL16 len16 size16)) [0, 1, 2, 3, 4, 5, 6] (by decide) rfl
  try dsimp only at hw
  refine lv_lstore (lv' := [(8, .long r16), (6, .long r9), (4, .long r2), (0, .ref h0), (1, .int a1), (2, .int a2), (3, .int a3)]) hx hb dc_X_combine_19 hl (Nat.le_of_ble_eq_true rfl) rfl (fun ls hl => ?_)
  refine lv_aload_n hx hb dc_X_combine_21 rfl (lv_at hl 3 rfl) ?_
  refine lv_iload_n hx hb dc_X_combine_22 rfl (lv_at hl 6 rfl) ?_
  refine gc_l (S := (Nat → Int64) × (Nat → Int64) × (Nat → Int32) × (Nat → Int32) × (Nat → Int32) × Int32 × Int32) (w1 := (fun u => (wd_X h0 qO qU qW qG qN qL cJ cI cZ cB u.1 u.2.1 u.2.2.1 u.2.2.2.1 u.2.2.2.2.1 u.2.2.2.2.2.1 u.2.2.2.2.2.2))) (wc := (wd_X h0 qO qU qW qG qN qL cJ cI cZ cB fO16 fU16 fW16 fG16 fL16 len16 size16)) (wr := ([] : va_W)) (va_runV (As := [.int a3]) (rest := []) ⟨hx, hb, hml, hown, hts⟩ (kt_X_sureZeros l dC dI cJ cI cZ cB h0 qO qU qW qG qN qL _ a3 fO16 fU16 fW16 fG16 fL16 len16 size16 _ hw) ⟨callB_of 1 hts (gw_in mw_t231) rfl rfl rfl (hq mw_t1) (hq mw_t228) (by decide +kernel) ⟨Nat.le_of_ble_eq_true rfl, Nat.le_of_ble_eq_true rfl⟩, hq mw_t230, hq mw_s12⟩ (pv_W (va_recv (q0 := 0) (ci := 1) hK hP rfl rfl) (hP.sub (ws' := (wd_X h0 qO qU qW qG qN qL cJ cI cZ cB fO16 fU16 fW16 fG16 fL16 len16 size16)) [0, 1, 2, 3, 4, 5, 6] rfl) hK (hD.sub (ws' := (wd_X h0 qO qU qW qG qN qL cJ cI cZ cB fO16 fU16 fW16 fG16 fL16 len16 size16)) [0, 1, 2, 3, 4, 5, 6] (by decide) rfl) hE) rfl rfl hl.1 rfl (lv_room (Nat.le_of_ble_eq_true rfl)) dc_X_combine_23 ⟨Nat.le_of_ble_eq_true rfl, Nat.le_of_ble_eq_true rfl⟩) hP hD hS hA [0, 1, 2, 3, 4, 5, 6] [] rfl rfl (by decide) (by decide) (fun r23 u H locs hw hP hD hS => ?_)
  obtain ⟨fO23, fU23, fW23, fG23, fL23, len23, size23⟩ := u
  have hP : va_P (dC, dI) cs_3 (wd_X h0 qO qU qW qG qN qL cJ cI cZ cB fO23 fU23 fW23 fG23 fL23 len23 size23) H := hP.sub (ws' := (wd_X h0 qO qU qW qG qN qL cJ cI cZ cB fO23 fU23 fW23 fG23 fL23 len23 size23)) [0, 1, 2, 3, 4, 5, 6] rfl
  have hD : va_D A (wd_X h0 qO qU qW qG qN qL cJ cI cZ cB fO23 fU23 fW23 fG23 fL23 len23 size23) := hD.sub (ws' := (wd_X h0 qO qU qW qG qN qL cJ cI cZ cB fO23 fU23 fW23 fG23 fL23 len23 size23)) [0, 1, 2, 3, 4, 5, 6] (by decide) rfl
  try dsimp only at hw
  refine lv_lstore (lv' := [(10, .long r23), (8, .long r16), (6, .long r9), (4, .long r2), (0, .ref h0), (1, .int a1), (2, .int a2), (3, .int a3)]) hx hb dc_X_combine_26 hl (Nat.le_of_ble_eq_true rfl) rfl (fun ls hl => ?_)
  refine lv_lload hx hb dc_X_combine_28 (lv_at hl 3 rfl) ?_
  refine lv_lload hx hb dc_X_combine_30 (lv_at hl 0 rfl) ?_
  refine lv_land hx hb dc_X_combine_32 ?_
  refine lv_lload hx hb dc_X_combine_33 (lv_at hl 1 rfl) ?_
  refine lv_lload hx hb dc_X_combine_35 (lv_at hl 2 rfl) ?_
  refine lv_land hx hb dc_X_combine_37 ?_
  refine lv_lor hx hb dc_X_combine_38 ?_
  refine lv_topl (fun v39 e39 => ?_)
  have hw := hw v39 e39
  refine lv_lstore (lv' := [(12, .long v39), (10, .long r23), (8, .long r16), (6, .long r9), (4, .long r2), (0, .ref h0), (1, .int a1), (2, .int a2), (3, .int a3)]) hx hb dc_X_combine_39 hl (Nat.le_of_ble_eq_true rfl) rfl (fun ls hl => ?_)
  refine lv_lload hx hb dc_X_combine_41 (lv_at hl 4 rfl) ?_
  refine lv_lload hx hb dc_X_combine_43 (lv_at hl 3 rfl) ?_
  refine lv_land hx hb dc_X_combine_45 ?_
  refine lv_lload hx hb dc_X_combine_46 (lv_at hl 2 rfl) ?_
  refine lv_lload hx hb dc_X_combine_48 (lv_at hl 1 rfl) ?_
  refine lv_land hx hb dc_X_combine_50 ?_
  refine lv_lor hx hb dc_X_combine_51 ?_
  refine lv_topl (fun v52 e52 => ?_)
  have hw := hw v52 e52
  refine lv_lstore (lv' := [(14, .long v52), (12, .long v39), (10, .long r23), (8, .long r16), (6, .long r9), (4, .long r2), (0, .ref h0), (1, .int a1), (2, .int a2), (3, .int a3)]) hx hb dc_X_combine_52 hl (Nat.le_of_ble_eq_true rfl) rfl (fun ls hl => ?_)
  refine lv_iload_n hx hb dc_X_combine_54 rfl (lv_at hl 7 rfl) ?_
  obtain ⟨hs0, hs1, hs2, hs3⟩ := hw
  by_cases hc : a1.toInt < 5 ∨ 7 < a1.toInt
  · have hw := hs0 hc
    refine lv_tableOut (tgt := 128) hx hb dc_X_combine_55 hc (by decide) ?_
    refine lv_aload_n hx hb dc_X_combine_128 rfl (lv_at hl 6 rfl) ?_
    refine lv_iload_n hx hb dc_X_combine_129 rfl (lv_at hl 8 rfl) ?_
    refine lv_lload hx hb dc_X_combine_130 (lv_at hl 0 rfl) ?_
    refine lv_lload hx hb dc_X_combine_132 (lv_at hl 1 rfl) ?_
    refine gc_v (S := (Nat → Int64) × (Nat → Int64) × (Nat → Int32) × (Nat → Int32) × (Nat → Int32) × Int32 × Int32) (w1 := (fun u => (wd_X h0 qO qU qW qG qN qL cJ cI cZ cB u.1 u.2.1 u.2.2.1 u.2.2.2.1 u.2.2.2.2.1 u.2.2.2.2.2.1 u.2.2.2.2.2.2))) (wc := (wd_X h0 qO qU qW qG qN qL cJ cI cZ cB fO23 fU23 fW23 fG23 fL23 len23 size23)) (wr := ([] : va_W)) (va_runV (As := [.int a2, .long v52, .long v39]) (rest := []) ⟨hx, hb, hml, hown, hts⟩ (kt_X_setSure l dC dI cJ cI cZ cB h0 qO qU qW qG qN qL _ a2 v52 v39 fO23 fU23 fW23 fG23 fL23 len23 size23 _ hw) ⟨callB_of 3 hts (gw_in mw_t235) rfl rfl rfl (hq mw_t1) (hq mw_t232) (by decide +kernel) ⟨Nat.le_of_ble_eq_true rfl, Nat.le_of_ble_eq_true rfl⟩, hq mw_t234, hq mw_s13⟩ (pv_W (va_recv (q0 := 0) (ci := 1) hK hP rfl rfl) (hP.sub (ws' := (wd_X h0 qO qU qW qG qN qL cJ cI cZ cB fO23 fU23 fW23 fG23 fL23 len23 size23)) [0, 1, 2, 3, 4, 5, 6] rfl) hK (hD.sub (ws' := (wd_X h0 qO qU qW qG qN qL cJ cI cZ cB fO23 fU23 fW23 fG23 fL23 len23 size23)) [0, 1, 2, 3, 4, 5, 6] (by decide) rfl) hE) rfl rfl hl.1 rfl (lv_room (Nat.le_of_ble_eq_true rfl)) dc_X_combine_134 ⟨Nat.le_of_ble_eq_true rfl, Nat.le_of_ble_eq_true rfl⟩) hP hD hS hA [0, 1, 2, 3, 4, 5, 6] [] rfl rfl (by decide) (by decide) (fun u H locs hw hP hD hS => ?_)
    obtain ⟨fO134, fU134, fW134, fG134, fL134, len134, size134⟩ := u
    have hP : va_P (dC, dI) cs_3 (wd_X h0 qO qU qW qG qN qL cJ cI cZ cB fO134 fU134 fW134 fG134 fL134 len134 size134) H := hP.sub (ws' := (wd_X h0 qO qU qW qG qN qL cJ cI cZ cB fO134 fU134 fW134 fG134 fL134 len134 size134)) [0, 1, 2, 3, 4, 5, 6] rfl
    have hD : va_D A (wd_X h0 qO qU qW qG qN qL cJ cI cZ cB fO134 fU134 fW134 fG134 fL134 len134 size134) := hD.sub (ws' := (wd_X h0 qO qU qW qG qN qL cJ cI cZ cB fO134 fU134 fW134 fG134 fL134 len134 size134)) [0, 1, 2, 3, 4, 5, 6] (by decide) rfl
    try dsimp only at hw
    exact B_137 _ _ _ fO134 fU134 fW134 fG134 fL134 len134 size134 hw hP hD hS (lv_sub hl [] rfl)
  by_cases hk5 : a1.toInt = 5
  · have hw := hs1 hk5
    refine lv_tableIn (tgt := 80) (off := 25) hx hb dc_X_combine_55 (by rw [hk5]; decide) (by rw [hk5]; decide) (by rw [hk5]; rfl) (by decide) ?_
    refine lv_aload_n hx hb dc_X_combine_80 rfl (lv_at hl 6 rfl) ?_
    refine lv_iload_n hx hb dc_X_combine_81 rfl (lv_at hl 8 rfl) ?_
    refine lv_lload hx hb dc_X_combine_82 (lv_at hl 5 rfl) ?_
    refine lv_lload hx hb dc_X_combine_84 (lv_at hl 4 rfl) ?_
    refine lv_land hx hb dc_X_combine_86 ?_
    refine lv_lload hx hb dc_X_combine_87 (lv_at hl 3 rfl) ?_
    refine lv_lload hx hb dc_X_combine_89 (lv_at hl 2 rfl) ?_
    refine lv_lor hx hb dc_X_combine_91 ?_
    refine gc_v (S := (Nat → Int64) × (Nat → Int64) × (Nat → Int32) × (Nat → Int32) × (Nat → Int32) × Int32 × Int32) (w1 := (fun u => (wd_X h0 qO qU qW qG qN qL cJ cI cZ cB u.1 u.2.1 u.2.2.1 u.2.2.2.1 u.2.2.2.2.1 u.2.2.2.2.2.1 u.2.2.2.2.2.2))) (wc := (wd_X h0 qO qU qW qG qN qL cJ cI cZ cB fO23 fU23 fW23 fG23 fL23 len23 size23)) (wr := ([] : va_W)) (va_runV (As := [.int a2, .long (r2 &&& r9), .long (r16 ||| r23)]) (rest := []) ⟨hx, hb, hml, hown, hts⟩ (kt_X_setSure l dC dI cJ cI cZ cB h0 qO qU qW qG qN qL _ a2 (r2 &&& r9) (r16 ||| r23) fO23 fU23 fW23 fG23 fL23 len23 size23 _ hw) ⟨callB_of 3 hts (gw_in mw_t235) rfl rfl rfl (hq mw_t1) (hq mw_t232) (by decide +kernel) ⟨Nat.le_of_ble_eq_true rfl, Nat.le_of_ble_eq_true rfl⟩, hq mw_t234, hq mw_s13⟩ (pv_W (va_recv (q0 := 0) (ci := 1) hK hP rfl rfl) (hP.sub (ws' := (wd_X h0 qO qU qW qG qN qL cJ cI cZ cB fO23 fU23 fW23 fG23 fL23 len23 size23)) [0, 1, 2, 3, 4, 5, 6] rfl) hK (hD.sub (ws' := (wd_X h0 qO qU qW qG qN qL cJ cI cZ cB fO23 fU23 fW23 fG23 fL23 len23 size23)) [0, 1, 2, 3, 4, 5, 6] (by decide) rfl) hE) rfl rfl hl.1 rfl (lv_room (Nat.le_of_ble_eq_true rfl)) dc_X_combine_92 ⟨Nat.le_of_ble_eq_true rfl, Nat.le_of_ble_eq_true rfl⟩) hP hD hS hA [0, 1, 2, 3, 4, 5, 6] [] rfl rfl (by decide) (by decide) (fun u H locs hw hP hD hS => ?_)
    obtain ⟨fO92, fU92, fW92, fG92, fL92, len92, size92⟩ := u
    have hP : va_P (dC, dI) cs_3 (wd_X h0 qO qU qW qG qN qL cJ cI cZ cB fO92 fU92 fW92 fG92 fL92 len92 size92) H := hP.sub (ws' := (wd_X h0 qO qU qW qG qN qL cJ cI cZ cB fO92 fU92 fW92 fG92 fL92 len92 size92)) [0, 1, 2, 3, 4, 5, 6] rfl
    have hD : va_D A (wd_X h0 qO qU qW qG qN qL cJ cI cZ cB fO92 fU92 fW92 fG92 fL92 len92 size92) := hD.sub (ws' := (wd_X h0 qO qU qW qG qN qL cJ cI cZ cB fO92 fU92 fW92 fG92 fL92 len92 size92)) [0, 1, 2, 3, 4, 5, 6] (by decide) rfl
    try dsimp only at hw
    refine lv_goto (tgt := 137) hx hb dc_X_combine_95 (by decide) ?_
    exact B_137 _ _ _ fO92 fU92 fW92 fG92 fL92 len92 size92 hw hP hD hS (lv_sub hl [] rfl)
  by_cases hk6 : a1.toInt = 6
  · have hw := hs2 hk6
    refine lv_tableIn (tgt := 98) (off := 43) hx hb dc_X_combine_55 (by rw [hk6]; decide) (by rw [hk6]; decide) (by rw [hk6]; rfl) (by decide) ?_
    refine lv_aload_n hx hb dc_X_combine_98 rfl (lv_at hl 6 rfl) ?_
    refine lv_iload_n hx hb dc_X_combine_99 rfl (lv_at hl 8 rfl) ?_
    refine lv_lload hx hb dc_X_combine_100 (lv_at hl 5 rfl) ?_
    refine lv_lload hx hb dc_X_combine_102 (lv_at hl 4 rfl) ?_
    refine lv_lor hx hb dc_X_combine_104 ?_
    refine lv_lload hx hb dc_X_combine_105 (lv_at hl 3 rfl) ?_
    refine lv_lload hx hb dc_X_combine_107 (lv_at hl 2 rfl) ?_
    refine lv_land hx hb dc_X_combine_109 ?_
    refine gc_v (S := (Nat → Int64) × (Nat → Int64) × (Nat → Int32) × (Nat → Int32) × (Nat → Int32) × Int32 × Int32) (w1 := (fun u => (wd_X h0 qO qU qW qG qN qL cJ cI cZ cB u.1 u.2.1 u.2.2.1 u.2.2.2.1 u.2.2.2.2.1 u.2.2.2.2.2.1 u.2.2.2.2.2.2))) (wc := (wd_X h0 qO qU qW qG qN qL cJ cI cZ cB fO23 fU23 fW23 fG23 fL23 len23 size23)) (wr := ([] : va_W)) (va_runV (As := [.int a2, .long (r2 ||| r9), .long (r16 &&& r23)]) (rest := []) ⟨hx, hb, hml, hown, hts⟩ (kt_X_setSure l dC dI cJ cI cZ cB h0 qO qU qW qG qN qL _ a2 (r2 ||| r9) (r16 &&& r23) fO23 fU23 fW23 fG23 fL23 len23 size23 _ hw) ⟨callB_of 3 hts (gw_in mw_t235) rfl rfl rfl (hq mw_t1) (hq mw_t232) (by decide +kernel) ⟨Nat.le_of_ble_eq_true rfl, Nat.le_of_ble_eq_true rfl⟩, hq mw_t234, hq mw_s13⟩ (pv_W (va_recv (q0 := 0) (ci := 1) hK hP rfl rfl) (hP.sub (ws' := (wd_X h0 qO qU qW qG qN qL cJ cI cZ cB fO23 fU23 fW23 fG23 fL23 len23 size23)) [0, 1, 2, 3, 4, 5, 6] rfl) hK (hD.sub (ws' := (wd_X h0 qO qU qW qG qN qL cJ cI cZ cB fO23 fU23 fW23 fG23 fL23 len23 size23)) [0, 1, 2, 3, 4, 5, 6] (by decide) rfl) hE) rfl rfl hl.1 rfl (lv_room (Nat.le_of_ble_eq_true rfl)) dc_X_combine_110 ⟨Nat.le_of_ble_eq_true rfl, Nat.le_of_ble_eq_true rfl⟩) hP hD hS hA [0, 1, 2, 3, 4, 5, 6] [] rfl rfl (by decide) (by decide) (fun u H locs hw hP hD hS => ?_)
    obtain ⟨fO110, fU110, fW110, fG110, fL110, len110, size110⟩ := u
    have hP : va_P (dC, dI) cs_3 (wd_X h0 qO qU qW qG qN qL cJ cI cZ cB fO110 fU110 fW110 fG110 fL110 len110 size110) H := hP.sub (ws' := (wd_X h0 qO qU qW qG qN qL cJ cI cZ cB fO110 fU110 fW110 fG110 fL110 len110 size110)) [0, 1, 2, 3, 4, 5, 6] rfl
    have hD : va_D A (wd_X h0 qO qU qW qG qN qL cJ cI cZ cB fO110 fU110 fW110 fG110 fL110 len110 size110) := hD.sub (ws' := (wd_X h0 qO qU qW qG qN qL cJ cI cZ cB fO110 fU110 fW110 fG110 fL110 len110 size110)) [0, 1, 2, 3, 4, 5, 6] (by decide) rfl
    try dsimp only at hw
    refine lv_goto (tgt := 137) hx hb dc_X_combine_113 (by decide) ?_
    exact B_137 _ _ _ fO110 fU110 fW110 fG110 fL110 len110 size110 hw hP hD hS (lv_sub hl [] rfl)
  have hk7 : a1.toInt = 7 := by omega
  have hw := hs3 hk7
  refine lv_tableIn (tgt := 116) (off := 61) hx hb dc_X_combine_55 (by rw [hk7]; decide) (by rw [hk7]; decide) (by rw [hk7]; rfl) (by decide) ?_
  refine lv_aload_n hx hb dc_X_combine_116 rfl (lv_at hl 6 rfl) ?_
  refine lv_iload_n hx hb dc_X_combine_117 rfl (lv_at hl 8 rfl) ?_
  refine lv_lload hx hb dc_X_combine_118 (lv_at hl 1 rfl) ?_
  refine lv_lload hx hb dc_X_combine_120 (lv_at hl 0 rfl) ?_
  refine gc_v (S := (Nat → Int64) × (Nat → Int64) × (Nat → Int32) × (Nat → Int32) × (Nat → Int32) × Int32 × Int32) (w1 := (fun u => (wd_X h0 qO qU qW qG qN qL cJ cI cZ cB u.1 u.2.1 u.2.2.1 u.2.2.2.1 u.2.2.2.2.1 u.2.2.2.2.2.1 u.2.2.2.2.2.2))) (wc := (wd_X h0 qO qU qW qG qN qL cJ cI cZ cB fO23 fU23 fW23 fG23 fL23 len23 size23)) (wr := ([] : va_W)) (va_runV (As := [.int a2, .long v39, .long v52]) (rest := []) ⟨hx, hb, hml, hown, hts⟩ (kt_X_setSure l dC dI cJ cI cZ cB h0 qO qU qW qG qN qL _ a2 v39 v52 fO23 fU23 fW23 fG23 fL23 len23 size23 _ hw) ⟨callB_of 3 hts (gw_in mw_t235) rfl rfl rfl (hq mw_t1) (hq mw_t232) (by decide +kernel) ⟨Nat.le_of_ble_eq_true rfl, Nat.le_of_ble_eq_true rfl⟩, hq mw_t234, hq mw_s13⟩ (pv_W (va_recv (q0 := 0) (ci := 1) hK hP rfl rfl) (hP.sub (ws' := (wd_X h0 qO qU qW qG qN qL cJ cI cZ cB fO23 fU23 fW23 fG23 fL23 len23 size23)) [0, 1, 2, 3, 4, 5, 6] rfl) hK (hD.sub (ws' := (wd_X h0 qO qU qW qG qN qL cJ cI cZ cB fO23 fU23 fW23 fG23 fL23 len23 size23)) [0, 1, 2, 3, 4, 5, 6] (by decide) rfl) hE) rfl rfl hl.1 rfl (lv_room (Nat.le_of_ble_eq_true rfl)) dc_X_combine_122 ⟨Nat.le_of_ble_eq_true rfl, Nat.le_of_ble_eq_true rfl⟩) hP hD hS hA [0, 1, 2, 3, 4, 5, 6] [] rfl rfl (by decide) (by decide) (fun u H locs hw hP hD hS => ?_)
  obtain ⟨fO122, fU122, fW122, fG122, fL122, len122, size122⟩ := u
  have hP : va_P (dC, dI) cs_3 (wd_X h0 qO qU qW qG qN qL cJ cI cZ cB fO122 fU122 fW122 fG122 fL122 len122 size122) H := hP.sub (ws' := (wd_X h0 qO qU qW qG qN qL cJ cI cZ cB fO122 fU122 fW122 fG122 fL122 len122 size122)) [0, 1, 2, 3, 4, 5, 6] rfl
  have hD : va_D A (wd_X h0 qO qU qW qG qN qL cJ cI cZ cB fO122 fU122 fW122 fG122 fL122 len122 size122) := hD.sub (ws' := (wd_X h0 qO qU qW qG qN qL cJ cI cZ cB fO122 fU122 fW122 fG122 fL122 len122 size122)) [0, 1, 2, 3, 4, 5, 6] (by decide) rfl
  try dsimp only at hw
  refine lv_goto (tgt := 137) hx hb dc_X_combine_125 (by decide) ?_
  exact B_137 _ _ _ fO122 fU122 fW122 fG122 fL122 len122 size122 hw hP hD hS (lv_sub hl [] rfl)
set_option maxHeartbeats 4000000 in
set_option maxRecDepth 100000 in
theorem kt_X_equal (l : Launch) (dC : Nat → ClassId) (dI : Nat → Nat → Nat) (cJ cI cZ cB : ClassId) (h0 qO qU qW qG qN qL : Nat) (sz : Nat) (a1 : Int32) (a2 : Int32) (fO : (Nat → Int64)) (fU : (Nat → Int64)) (fW : (Nat → Int32)) (fG : (Nat → Int32)) (fL : (Nat → Int32)) (len : Int32) (size : Int32) (post : Int32 → (Nat → Int64) → (Nat → Int64) → (Nat → Int32) → (Nat → Int32) → (Nat → Int32) → Int32 → Int32 → Prop) (hw : wp_X_equal post a1 a2 fO fU fW fG fL len size) : Met l yn_X_equal ws_X_equal rm_X_equal (va_Pc [.ref h0, .int a1, .int a2] (pc_W (dC, dI) (ty_4 cJ cI cZ cB) (wd_X h0 qO qU qW qG qN qL cJ cI cZ cB fO fU fW fG fL len size) sz)) (qi_X dC dI cJ cI cZ cB h0 qO qU qW qG qN qL post (va_A (wd_X h0 qO qU qW qG qN qL cJ cI cZ cB fO fU fW fG fL len size) sz)) 0 0 (va_A (wd_X h0 qO qU qW qG qN qL cJ cI cZ cB fO fU fW fG fL len size) sz) := by
  refine Met.ofW (cc := cd_X_equal) (maxL := 3) (ret := (some .int)) (by decide) rfl ?_
  intro p e s m args below meth c s₁ B hml hv
  obtain ⟨rfl, hsz, hP, hK, hD0, hE⟩ := hv
  have hx := B.exec
  have hb := B.bytes
  have hr := B.returns
  have hts := atoms_spec (ws := ws_X_equal) B.pre
  have hq : ∀ {w : Cond}, w ∈ wg_all → w.before ([.ref h0, .int a1, .int a2] : List Value).toArray s = true := fun h => hts _ (List.mem_cons_of_mem _ h)
  have hu : ∀ L : List Cond, (∀ w ∈ L, w ∈ wg_all) → ∀ w ∈ L, w ∈ ws_X_equal := fun L h w hw => List.mem_cons_of_mem _ (h w hw)
  have hown : s.vm.findClass "FourWords" = some m.cls := findClass_of_methodNamed B.named
  have hlocks := B.notSynchronized
  subst hsz
  have hD := hD0.self (sz := s.heap.size)
  generalize hAe : va_A (wd_X h0 qO qU qW qG qN qL cJ cI cZ cB fO fU fW fG fL len size) s.heap.size = A at hD ⊢
  have hA : ∀ q : Nat, s.heap.size ≤ q → A q := fun q h => by rw [← hAe]; exact Or.inr h
  have hS : va_S A s.heap s.heap [] := va_S.rf
  have hl := lv_entry [.ref h0, .int a1, .int a2] (n := 3) (Nat.le_of_ble_eq_true rfl)
  rw [lg_entry_eq]
  generalize (lg_sl [.ref h0, .int a1, .int a2] ++ List.replicate (3 - (lg_sl [.ref h0, .int a1, .int a2]).length) Slot.unset).toArray = ls at hl ⊢
  have hl : lv_has ls 3 [(0, .ref h0), (1, .int a1), (2, .int a2)] := hl
  have B_53 : ∀ (H : Heap) (locs : List Loc) (ls : Array Slot) (t0 : Int32) (fO : (Nat → Int64)) (fU : (Nat → Int64)) (fW : (Nat → Int32)) (fG : (Nat → Int32)) (fL : (Nat → Int32)) (len : Int32) (size : Int32), wp_X_equal_53 post t0 fO fU fW fG fL len size → va_P (dC, dI) cs_3 (wd_X h0 qO qU qW qG qN qL cJ cI cZ cB fO fU fW fG fL len size) H → va_D A (wd_X h0 qO qU qW qG qN qL cJ cI cZ cB fO fU fW fG fL len size) → va_S A s.heap H locs → lv_has ls 3 [] → W p l e (headSpec ws_X_equal rm_X_equal).room s m ([.ref h0, .int a1, .int a2] : List Value).toArray below meth c H locs 0 0 (MQ below (qi_X dC dI cJ cI cZ cB h0 qO qU qW qG qN qL post A) ([.ref h0, .int a1, .int a2] : List Value).toArray s 0 0 A) (F0 m 53 ls [.int t0]) := by
    intro H locs ls t0 fO fU fW fG fL len size hw hP hD hS hl
    unfold wp_X_equal_53 at hw
    exact W.iret (v := t0) hx hb hr (fun t ht hW => ⟨⟨t0, (fO, fU, fW, fG, fL, len, size), rfl, hw, by rw [ht]; exact hP, va_K.moved hW.alike hK, hD⟩, hS.F ht⟩) hS.2.2 dc_X_equal_53
  unfold wp_X_equal at hw
  refine lv_aload_n hx hb dc_X_equal_0 rfl (lv_at hl 0 rfl) ?_
  refine lv_iload_n hx hb dc_X_equal_1 rfl (lv_at hl 1 rfl) ?_
  refine gc_l (S := (Nat → Int64) × (Nat → Int64) × (Nat → Int32) × (Nat → Int32) × (Nat → Int32) × Int32 × Int32) (w1 := (fun u => (wd_X h0 qO qU qW qG qN qL cJ cI cZ cB u.1 u.2.1 u.2.2.1 u.2.2.2.1 u.2.2.2.2.1 u.2.2.2.2.2.1 u.2.2.2.2.2.2))) (wc := (wd_X h0 qO qU qW qG qN qL cJ cI cZ cB fO fU fW fG fL len size)) (wr := ([] : va_W)) (va_runV (As := [.int a1]) (rest := []) ⟨hx, hb, hml, hown, hts⟩ (kt_X_sureOnes l dC dI cJ cI cZ cB h0 qO qU qW qG qN qL _ a1 fO fU fW fG fL len size _ hw) ⟨callB_of 1 hts (gw_in mw_t227) rfl rfl rfl (hq mw_t1) (hq mw_t224) (by decide +kernel) ⟨Nat.le_of_ble_eq_true rfl, Nat.le_of_ble_eq_true rfl⟩, hq mw_t226, hq mw_s11⟩ (pv_W (va_recv (q0 := 0) (ci := 1) hK hP rfl rfl) (hP.sub (ws' := (wd_X h0 qO qU qW qG qN qL cJ cI cZ cB fO fU fW fG fL len size)) [0, 1, 2, 3, 4, 5, 6] rfl) hK (hD.sub (ws' := (wd_X h0 qO qU qW qG qN qL cJ cI cZ cB fO fU fW fG fL len size)) [0, 1, 2, 3, 4, 5, 6] (by decide) rfl) hE) rfl rfl hl.1 rfl (lv_room (Nat.le_of_ble_eq_true rfl)) dc_X_equal_2 ⟨Nat.le_of_ble_eq_true rfl, Nat.le_of_ble_eq_true rfl⟩) hP hD hS hA [0, 1, 2, 3, 4, 5, 6] [] rfl rfl (by decide) (by decide) (fun r2 u H locs hw hP hD hS => ?_)
  obtain ⟨fO2, fU2, fW2, fG2, fL2, len2, size2⟩ := u
  have hP : va_P (dC, dI) cs_3 (wd_X h0 qO qU qW qG qN qL cJ cI cZ cB fO2 fU2 fW2 fG2 fL2 len2 size2) H := hP.sub (ws' := (wd_X h0 qO qU qW qG qN qL cJ cI cZ cB fO2 fU2 fW2 fG2 fL2 len2 size2)) [0, 1, 2, 3, 4, 5, 6] rfl
  have hD : va_D A (wd_X h0 qO qU qW qG qN qL cJ cI cZ cB fO2 fU2 fW2 fG2 fL2 len2 size2) := hD.sub (ws' := (wd_X h0 qO qU qW qG qN qL cJ cI cZ cB fO2 fU2 fW2 fG2 fL2 len2 size2)) [0, 1, 2, 3, 4, 5, 6] (by decide) rfl
  try dsimp only at hw
  refine lv_aload_n hx hb dc_X_equal_5 rfl (lv_at hl 0 rfl) ?_
  refine lv_iload_n hx hb dc_X_equal_6 rfl (lv_at hl 2 rfl) ?_
  refine gc_l (S := (Nat → Int64) × (Nat → Int64) × (Nat → Int32) × (Nat → Int32) × (Nat → Int32) × Int32 × Int32) (w1 := (fun u => (wd_X h0 qO qU qW qG qN qL cJ cI cZ cB u.1 u.2.1 u.2.2.1 u.2.2.2.1 u.2.2.2.2.1 u.2.2.2.2.2.1 u.2.2.2.2.2.2))) (wc := (wd_X h0 qO qU qW qG qN qL cJ cI cZ cB fO2 fU2 fW2 fG2 fL2 len2 size2)) (wr := ([] : va_W)) (va_runV (As := [.int a2]) (rest := [.long r2]) ⟨hx, hb, hml, hown, hts⟩ (kt_X_sureZeros l dC dI cJ cI cZ cB h0 qO qU qW qG qN qL _ a2 fO2 fU2 fW2 fG2 fL2 len2 size2 _ hw) ⟨callB_of 1 hts (gw_in mw_t231) rfl rfl rfl (hq mw_t1) (hq mw_t228) (by decide +kernel) ⟨Nat.le_of_ble_eq_true rfl, Nat.le_of_ble_eq_true rfl⟩, hq mw_t230, hq mw_s12⟩ (pv_W (va_recv (q0 := 0) (ci := 1) hK hP rfl rfl) (hP.sub (ws' := (wd_X h0 qO qU qW qG qN qL cJ cI cZ cB fO2 fU2 fW2 fG2 fL2 len2 size2)) [0, 1, 2, 3, 4, 5, 6] rfl) hK (hD.sub (ws' := (wd_X h0 qO qU qW qG qN qL cJ cI cZ cB fO2 fU2 fW2 fG2 fL2 len2 size2)) [0, 1, 2, 3, 4, 5, 6] (by decide) rfl) hE) rfl rfl hl.1 rfl (lv_room (Nat.le_of_ble_eq_true rfl)) dc_X_equal_7 ⟨Nat.le_of_ble_eq_true rfl, Nat.le_of_ble_eq_true rfl⟩) hP hD hS hA [0, 1, 2, 3, 4, 5, 6] [] rfl rfl (by decide) (by decide) (fun r7 u H locs hw hP hD hS => ?_)
  obtain ⟨fO7, fU7, fW7, fG7, fL7, len7, size7⟩ := u
  have hP : va_P (dC, dI) cs_3 (wd_X h0 qO qU qW qG qN qL cJ cI cZ cB fO7 fU7 fW7 fG7 fL7 len7 size7) H := hP.sub (ws' := (wd_X h0 qO qU qW qG qN qL cJ cI cZ cB fO7 fU7 fW7 fG7 fL7 len7 size7)) [0, 1, 2, 3, 4, 5, 6] rfl
  have hD : va_D A (wd_X h0 qO qU qW qG qN qL cJ cI cZ cB fO7 fU7 fW7 fG7 fL7 len7 size7) := hD.sub (ws' := (wd_X h0 qO qU qW qG qN qL cJ cI cZ cB fO7 fU7 fW7 fG7 fL7 len7 size7)) [0, 1, 2, 3, 4, 5, 6] (by decide) rfl
  try dsimp only at hw
  refine lv_land hx hb dc_X_equal_10 ?_
  refine lv_aload_n hx hb dc_X_equal_11 rfl (lv_at hl 0 rfl) ?_
  refine lv_iload_n hx hb dc_X_equal_12 rfl (lv_at hl 1 rfl) ?_
  refine gc_l (S := (Nat → Int64) × (Nat → Int64) × (Nat → Int32) × (Nat → Int32) × (Nat → Int32) × Int32 × Int32) (w1 := (fun u => (wd_X h0 qO qU qW qG qN qL cJ cI cZ cB u.1 u.2.1 u.2.2.1 u.2.2.2.1 u.2.2.2.2.1 u.2.2.2.2.2.1 u.2.2.2.2.2.2))) (wc := (wd_X h0 qO qU qW qG qN qL cJ cI cZ cB fO7 fU7 fW7 fG7 fL7 len7 size7)) (wr := ([] : va_W)) (va_runV (As := [.int a1]) (rest := [.long (r2 &&& r7)]) ⟨hx, hb, hml, hown, hts⟩ (kt_X_sureZeros l dC dI cJ cI cZ cB h0 qO qU qW qG qN qL _ a1 fO7 fU7 fW7 fG7 fL7 len7 size7 _ hw) ⟨callB_of 1 hts (gw_in mw_t231) rfl rfl rfl (hq mw_t1) (hq mw_t228) (by decide +kernel) ⟨Nat.le_of_ble_eq_true rfl, Nat.le_of_ble_eq_true rfl⟩, hq mw_t230, hq mw_s12⟩ (pv_W (va_recv (q0 := 0) (ci := 1) hK hP rfl rfl) (hP.sub (ws' := (wd_X h0 qO qU qW qG qN qL cJ cI cZ cB fO7 fU7 fW7 fG7 fL7 len7 size7)) [0, 1, 2, 3, 4, 5, 6] rfl) hK (hD.sub (ws' := (wd_X h0 qO qU qW qG qN qL cJ cI cZ cB fO7 fU7 fW7 fG7 fL7 len7 size7)) [0, 1, 2, 3, 4, 5, 6] (by decide) rfl) hE) rfl rfl hl.1 rfl (lv_room (Nat.le_of_ble_eq_true rfl)) dc_X_equal_13 ⟨Nat.le_of_ble_eq_true rfl, Nat.le_of_ble_eq_true rfl⟩) hP hD hS hA [0, 1, 2, 3, 4, 5, 6] [] rfl rfl (by decide) (by decide) (fun r13 u H locs hw hP hD hS => ?_)
  obtain ⟨fO13, fU13, fW13, fG13, fL13, len13, size13⟩ := u
  have hP : va_P (dC, dI) cs_3 (wd_X h0 qO qU qW qG qN qL cJ cI cZ cB fO13 fU13 fW13 fG13 fL13 len13 size13) H := hP.sub (ws' := (wd_X h0 qO qU qW qG qN qL cJ cI cZ cB fO13 fU13 fW13 fG13 fL13 len13 size13)) [0, 1, 2, 3, 4, 5, 6] rfl
  have hD : va_D A (wd_X h0 qO qU qW qG qN qL cJ cI cZ cB fO13 fU13 fW13 fG13 fL13 len13 size13) := hD.sub (ws' := (wd_X h0 qO qU qW qG qN qL cJ cI cZ cB fO13 fU13 fW13 fG13 fL13 len13 size13)) [0, 1, 2, 3, 4, 5, 6] (by decide) rfl
  try dsimp only at hw
  refine lv_aload_n hx hb dc_X_equal_16 rfl (lv_at hl 0 rfl) ?_
  refine lv_iload_n hx hb dc_X_equal_17 rfl (lv_at hl 2 rfl) ?_
  refine gc_l (S := (Nat → Int64) × (Nat → Int64) × (Nat → Int32) × (Nat → Int32) × (Nat → Int32) × Int32 × Int32) (w1 := (fun u => (wd_X h0 qO qU qW qG qN qL cJ cI cZ cB u.1 u.2.1 u.2.2.1 u.2.2.2.1 u.2.2.2.2.1 u.2.2.2.2.2.1 u.2.2.2.2.2.2))) (wc := (wd_X h0 qO qU qW qG qN qL cJ cI cZ cB fO13 fU13 fW13 fG13 fL13 len13 size13)) (wr := ([] : va_W)) (va_runV (As := [.int a2]) (rest := [.long r13, .long (r2 &&& r7)]) ⟨hx, hb, hml, hown, hts⟩ (kt_X_sureOnes l dC dI cJ cI cZ cB h0 qO qU qW qG qN qL _ a2 fO13 fU13 fW13 fG13 fL13 len13 size13 _ hw) ⟨callB_of 1 hts (gw_in mw_t227) rfl rfl rfl (hq mw_t1) (hq mw_t224) (by decide +kernel) ⟨Nat.le_of_ble_eq_true rfl, Nat.le_of_ble_eq_true rfl⟩, hq mw_t226, hq mw_s11⟩ (pv_W (va_recv (q0 := 0) (ci := 1) hK hP rfl rfl) (hP.sub (ws' := (wd_X h0 qO qU qW qG qN qL cJ cI cZ cB fO13 fU13 fW13 fG13 fL13 len13 size13)) [0, 1, 2, 3, 4, 5, 6] rfl) hK (hD.sub (ws' := (wd_X h0 qO qU qW qG qN qL cJ cI cZ cB fO13 fU13 fW13 fG13 fL13 len13 size13)) [0, 1, 2, 3, 4, 5, 6] (by decide) rfl) hE) rfl rfl hl.1 rfl (lv_room (Nat.le_of_ble_eq_true rfl)) dc_X_equal_18 ⟨Nat.le_of_ble_eq_true rfl, Nat.le_of_ble_eq_true rfl⟩) hP hD hS hA [0, 1, 2, 3, 4, 5, 6] [] rfl rfl (by decide) (by decide) (fun r18 u H locs hw hP hD hS => ?_)
  obtain ⟨fO18, fU18, fW18, fG18, fL18, len18, size18⟩ := u
  have hP : va_P (dC, dI) cs_3 (wd_X h0 qO qU qW qG qN qL cJ cI cZ cB fO18 fU18 fW18 fG18 fL18 len18 size18) H := hP.sub (ws' := (wd_X h0 qO qU qW qG qN qL cJ cI cZ cB fO18 fU18 fW18 fG18 fL18 len18 size18)) [0, 1, 2, 3, 4, 5, 6] rfl
  have hD : va_D A (wd_X h0 qO qU qW qG qN qL cJ cI cZ cB fO18 fU18 fW18 fG18 fL18 len18 size18) := hD.sub (ws' := (wd_X h0 qO qU qW qG qN qL cJ cI cZ cB fO18 fU18 fW18 fG18 fL18 len18 size18)) [0, 1, 2, 3, 4, 5, 6] (by decide) rfl
  try dsimp only at hw
  refine lv_land hx hb dc_X_equal_21 ?_
  refine lv_lor hx hb dc_X_equal_22 ?_
  refine lv_lconst (v := 0) hx hb dc_X_equal_23 (by decide) ?_
  refine W.lcmp hx hb dc_X_equal_24 ?_
  obtain ⟨hw1, hw2⟩ := hw
  refine lv_if_eq (tgt := 30) hx hb dc_X_equal_25 (by decide) (fun hc => ?_) (fun hc => ?_)
  · have hw := hw1 hc
    clear hw1 hw2
    refine lv_aload_n hx hb dc_X_equal_30 rfl (lv_at hl 0 rfl) ?_
    refine va_get (D := (dC, dI)) (ci := 1) (v := .ref qU) (C := "FourWords") (T := tb_X) (N := 6) hx hb hts (hu _ um_X) hown hK hP 0 rfl rfl 1 (by decide) (hq mw_t41) (fun _ h9 => h9) rfl dc_X_equal_31 ?_
    refine lv_iload_n hx hb dc_X_equal_34 rfl (lv_at hl 1 rfl) ?_
    obtain ⟨hin, hw⟩ := hw
    refine va_lald hx hb hK hP 2 0 rfl rfl hin dc_X_equal_35 ?_
    refine lv_aload_n hx hb dc_X_equal_36 rfl (lv_at hl 0 rfl) ?_
    refine va_get (D := (dC, dI)) (ci := 1) (v := .ref qU) (C := "FourWords") (T := tb_X) (N := 6) hx hb hts (hu _ um_X) hown hK hP 0 rfl rfl 1 (by decide) (hq mw_t41) (fun _ h9 => h9) rfl dc_X_equal_37 ?_
    refine lv_iload_n hx hb dc_X_equal_40 rfl (lv_at hl 2 rfl) ?_
    obtain ⟨hin, hw⟩ := hw
    refine va_lald hx hb hK hP 2 0 rfl rfl hin dc_X_equal_41 ?_
    refine lv_lor hx hb dc_X_equal_42 ?_
    refine lv_lconst (v := 0) hx hb dc_X_equal_43 (by decide) ?_
    refine W.lcmp hx hb dc_X_equal_44 ?_
    obtain ⟨hw1, hw2⟩ := hw
    refine lv_if_eq (tgt := 52) hx hb dc_X_equal_45 (by decide) (fun hc => ?_) (fun hc => ?_)
    · have hw := hw1 hc
      clear hw1 hw2
      refine lv_iconst (v := 1) hx hb dc_X_equal_52 (by decide) ?_
      exact B_53 _ _ _ (1 : Int32) fO18 fU18 fW18 fG18 fL18 len18 size18 hw hP hD hS (lv_sub hl [] rfl)
    · have hw := hw2 hc
      clear hw1 hw2
      refine lv_iconst (v := 2) hx hb dc_X_equal_48 (by decide) ?_
      refine lv_goto (tgt := 53) hx hb dc_X_equal_49 (by decide) ?_
      exact B_53 _ _ _ (2 : Int32) fO18 fU18 fW18 fG18 fL18 len18 size18 hw hP hD hS (lv_sub hl [] rfl)
  · have hw := hw2 hc
    clear hw1 hw2
    refine lv_iconst (v := 0) hx hb dc_X_equal_28 (by decide) ?_
    exact W.iret (v := (0 : Int32)) hx hb hr (fun t ht hW => ⟨⟨(0 : Int32), (fO18, fU18, fW18, fG18, fL18, len18, size18), rfl, hw, by rw [ht]; exact hP, va_K.moved hW.alike hK, hD⟩, hS.F ht⟩) hS.2.2 dc_X_equal_29
set_option maxHeartbeats 4000000 in
set_option maxRecDepth 100000 in
theorem kt_X_identical (l : Launch) (dC : Nat → ClassId) (dI : Nat → Nat → Nat) (cJ cI cZ cB : ClassId) (h0 qO qU qW qG qN qL : Nat) (sz : Nat) (a1 : Int32) (a2 : Int32) (fO : (Nat → Int64)) (fU : (Nat → Int64)) (fW : (Nat → Int32)) (fG : (Nat → Int32)) (fL : (Nat → Int32)) (len : Int32) (size : Int32) (post : Int32 → (Nat → Int64) → (Nat → Int64) → (Nat → Int32) → (Nat → Int32) → (Nat → Int32) → Int32 → Int32 → Prop) (hw : wp_X_identical post a1 a2 fO fU fW fG fL len size) : Met l yn_X_identical ws_X_identical rm_X_identical (va_Pc [.ref h0, .int a1, .int a2] (pc_W (dC, dI) (ty_4 cJ cI cZ cB) (wd_X h0 qO qU qW qG qN qL cJ cI cZ cB fO fU fW fG fL len size) sz)) (qi_X dC dI cJ cI cZ cB h0 qO qU qW qG qN qL post (va_A (wd_X h0 qO qU qW qG qN qL cJ cI cZ cB fO fU fW fG fL len size) sz)) 0 0 (va_A (wd_X h0 qO qU qW qG qN qL cJ cI cZ cB fO fU fW fG fL len size) sz) := by
  refine Met.ofW (cc := cd_X_identical) (maxL := 3) (ret := (some .int)) (by decide) rfl ?_
  intro p e s m args below meth c s₁ B hml hv
  obtain ⟨rfl, hsz, hP, hK, hD0, hE⟩ := hv
  have hx := B.exec
  have hb := B.bytes
  have hr := B.returns
  have hts := atoms_spec (ws := ws_X_identical) B.pre
  have hq : ∀ {w : Cond}, w ∈ wg_all → w.before ([.ref h0, .int a1, .int a2] : List Value).toArray s = true := fun h => hts _ (List.mem_cons_of_mem _ h)
  have hu : ∀ L : List Cond, (∀ w ∈ L, w ∈ wg_all) → ∀ w ∈ L, w ∈ ws_X_identical := fun L h w hw => List.mem_cons_of_mem _ (h w hw)
  have hown : s.vm.findClass "FourWords" = some m.cls := findClass_of_methodNamed B.named
  have hlocks := B.notSynchronized
  subst hsz
  have hD := hD0.self (sz := s.heap.size)
  generalize hAe : va_A (wd_X h0 qO qU qW qG qN qL cJ cI cZ cB fO fU fW fG fL len size) s.heap.size = A at hD ⊢
  have hA : ∀ q : Nat, s.heap.size ≤ q → A q := fun q h => by rw [← hAe]; exact Or.inr h
  have hS : va_S A s.heap s.heap [] := va_S.rf
  have hl := lv_entry [.ref h0, .int a1, .int a2] (n := 3) (Nat.le_of_ble_eq_true rfl)
  rw [lg_entry_eq]
  generalize (lg_sl [.ref h0, .int a1, .int a2] ++ List.replicate (3 - (lg_sl [.ref h0, .int a1, .int a2]).length) Slot.unset).toArray = ls at hl ⊢
  have hl : lv_has ls 3 [(0, .ref h0), (1, .int a1), (2, .int a2)] := hl
  have B_37 : ∀ (H : Heap) (locs : List Loc) (ls : Array Slot) (t0 : Int32) (fO : (Nat → Int64)) (fU : (Nat → Int64)) (fW : (Nat → Int32)) (fG : (Nat → Int32)) (fL : (Nat → Int32)) (len : Int32) (size : Int32), wp_X_identical_37 post t0 fO fU fW fG fL len size → va_P (dC, dI) cs_3 (wd_X h0 qO qU qW qG qN qL cJ cI cZ cB fO fU fW fG fL len size) H → va_D A (wd_X h0 qO qU qW qG qN qL cJ cI cZ cB fO fU fW fG fL len size) → va_S A s.heap H locs → lv_has ls 3 [] → W p l e (headSpec ws_X_identical rm_X_identical).room s m ([.ref h0, .int a1, .int a2] : List Value).toArray below meth c H locs 0 0 (MQ below (qi_X dC dI cJ cI cZ cB h0 qO qU qW qG qN qL post A) ([.ref h0, .int a1, .int a2] : List Value).toArray s 0 0 A) (F0 m 37 ls [.int t0]) := by
    intro H locs ls t0 fO fU fW fG fL len size hw hP hD hS hl
    unfold wp_X_identical_37 at hw
    exact W.iret (v := t0) hx hb hr (fun t ht hW => ⟨⟨t0, (fO, fU, fW, fG, fL, len, size), rfl, hw, by rw [ht]; exact hP, va_K.moved hW.alike hK, hD⟩, hS.F ht⟩) hS.2.2 dc_X_identical_37
  have B_36 : ∀ (H : Heap) (locs : List Loc) (ls : Array Slot) (fO : (Nat → Int64)) (fU : (Nat → Int64)) (fW : (Nat → Int32)) (fG : (Nat → Int32)) (fL : (Nat → Int32)) (len : Int32) (size : Int32), wp_X_identical_36 post fO fU fW fG fL len size → va_P (dC, dI) cs_3 (wd_X h0 qO qU qW qG qN qL cJ cI cZ cB fO fU fW fG fL len size) H → va_D A (wd_X h0 qO qU qW qG qN qL cJ cI cZ cB fO fU fW fG fL len size) → va_S A s.heap H locs → lv_has ls 3 [] → W p l e (headSpec ws_X_identical rm_X_identical).room s m ([.ref h0, .int a1, .int a2] : List Value).toArray below meth c H locs 0 0 (MQ below (qi_X dC dI cJ cI cZ cB h0 qO qU qW qG qN qL post A) ([.ref h0, .int a1, .int a2] : List Value).toArray s 0 0 A) (F0 m 36 ls []) := by
    intro H locs ls fO fU fW fG fL len size hw hP hD hS hl
    unfold wp_X_identical_36 at hw
    refine lv_iconst (v := 0) hx hb dc_X_identical_36 (by decide) ?_
    exact B_37 _ _ _ (0 : Int32) fO fU fW fG fL len size hw hP hD hS (lv_sub hl [] rfl)
  unfold wp_X_identical at hw
  refine lv_aload_n hx hb dc_X_identical_0 rfl (lv_at hl 0 rfl) ?_
  refine va_get (D := (dC, dI)) (ci := 1) (v := .ref qO) (C := "FourWords") (T := tb_X) (N := 6) hx hb hts (hu _ um_X) hown hK hP 0 rfl rfl 0 (by decide) (hq mw_t40) (fun _ h9 => h9) rfl dc_X_identical_1 ?_
  refine lv_iload_n hx hb dc_X_identical_4 rfl (lv_at hl 1 rfl) ?_
  obtain ⟨hin, hw⟩ := hw
  refine va_lald hx hb hK hP 1 0 rfl rfl hin dc_X_identical_5 ?_
  refine lv_aload_n hx hb dc_X_identical_6 rfl (lv_at hl 0 rfl) ?_
  refine va_get (D := (dC, dI)) (ci := 1) (v := .ref qO) (C := "FourWords") (T := tb_X) (N := 6) hx hb hts (hu _ um_X) hown hK hP 0 rfl rfl 0 (by decide) (hq mw_t40) (fun _ h9 => h9) rfl dc_X_identical_7 ?_
  refine lv_iload_n hx hb dc_X_identical_10 rfl (lv_at hl 2 rfl) ?_
  obtain ⟨hin, hw⟩ := hw
  refine va_lald hx hb hK hP 1 0 rfl rfl hin dc_X_identical_11 ?_
  refine W.lcmp hx hb dc_X_identical_12 ?_
  obtain ⟨hw1, hw2⟩ := hw
  refine lv_if_ne (tgt := 36) hx hb dc_X_identical_13 (by decide) (fun hc => ?_) (fun hc => ?_)
  · have hw := hw1 hc
    clear hw1 hw2
    exact B_36 _ _ _ fO fU fW fG fL len size hw hP hD hS (lv_sub hl [] rfl)
  · have hw := hw2 (fun h9 => h9 hc)
    clear hw1 hw2
    refine lv_aload_n hx hb dc_X_identical_16 rfl (lv_at hl 0 rfl) ?_
    refine va_get (D := (dC, dI)) (ci := 1) (v := .ref qU) (C := "FourWords") (T := tb_X) (N := 6) hx hb hts (hu _ um_X) hown hK hP 0 rfl rfl 1 (by decide) (hq mw_t41) (fun _ h9 => h9) rfl dc_X_identical_17 ?_
    refine lv_iload_n hx hb dc_X_identical_20 rfl (lv_at hl 1 rfl) ?_
    obtain ⟨hin, hw⟩ := hw
    refine va_lald hx hb hK hP 2 0 rfl rfl hin dc_X_identical_21 ?_
    refine lv_aload_n hx hb dc_X_identical_22 rfl (lv_at hl 0 rfl) ?_
    refine va_get (D := (dC, dI)) (ci := 1) (v := .ref qU) (C := "FourWords") (T := tb_X) (N := 6) hx hb hts (hu _ um_X) hown hK hP 0 rfl rfl 1 (by decide) (hq mw_t41) (fun _ h9 => h9) rfl dc_X_identical_23 ?_
    refine lv_iload_n hx hb dc_X_identical_26 rfl (lv_at hl 2 rfl) ?_
    obtain ⟨hin, hw⟩ := hw
    refine va_lald hx hb hK hP 2 0 rfl rfl hin dc_X_identical_27 ?_
    refine W.lcmp hx hb dc_X_identical_28 ?_
    obtain ⟨hw1, hw2⟩ := hw
    refine lv_if_ne (tgt := 36) hx hb dc_X_identical_29 (by decide) (fun hc => ?_) (fun hc => ?_)
    · have hw := hw1 hc
      clear hw1 hw2
      exact B_36 _ _ _ fO fU fW fG fL len size hw hP hD hS (lv_sub hl [] rfl)
    · have hw := hw2 (fun h9 => h9 hc)
      clear hw1 hw2
      refine lv_iconst (v := 1) hx hb dc_X_identical_32 (by decide) ?_
      refine lv_goto (tgt := 37) hx hb dc_X_identical_33 (by decide) ?_
      exact B_37 _ _ _ (1 : Int32) fO fU fW fG fL len size hw hP hD hS (lv_sub hl [] rfl)
set_option maxHeartbeats 4000000 in
set_option maxRecDepth 100000 in
theorem kt_X_less (l : Launch) (dC : Nat → ClassId) (dI : Nat → Nat → Nat) (cJ cI cZ cB : ClassId) (h0 qO qU qW qG qN qL : Nat) (sz : Nat) (a1 : Int32) (a2 : Int32) (fO : (Nat → Int64)) (fU : (Nat → Int64)) (fW : (Nat → Int32)) (fG : (Nat → Int32)) (fL : (Nat → Int32)) (len : Int32) (size : Int32) (post : Int32 → (Nat → Int64) → (Nat → Int64) → (Nat → Int32) → (Nat → Int32) → (Nat → Int32) → Int32 → Int32 → Prop) (hw : wp_X_less post a1 a2 fO fU fW fG fL len size) : Met l yn_X_less ws_X_less rm_X_less (va_Pc [.ref h0, .int a1, .int a2] (pc_W (dC, dI) (ty_4 cJ cI cZ cB) (wd_X h0 qO qU qW qG qN qL cJ cI cZ cB fO fU fW fG fL len size) sz)) (qi_X dC dI cJ cI cZ cB h0 qO qU qW qG qN qL post (va_A (wd_X h0 qO qU qW qG qN qL cJ cI cZ cB fO fU fW fG fL len size) sz)) 0 0 (va_A (wd_X h0 qO qU qW qG qN qL cJ cI cZ cB fO fU fW fG fL len size) sz) := by
  refine Met.ofW (cc := cd_X_less) (maxL := 4) (ret := (some .int)) (by decide) rfl ?_
  intro p e s m args below meth c s₁ B hml hv
  obtain ⟨rfl, hsz, hP, hK, hD0, hE⟩ := hv
  have hx := B.exec
  have hb := B.bytes
  have hr := B.returns
  have hts := atoms_spec (ws := ws_X_less) B.pre
  have hq : ∀ {w : Cond}, w ∈ wg_all → w.before ([.ref h0, .int a1, .int a2] : List Value).toArray s = true := fun h => hts _ (List.mem_cons_of_mem _ h)
  have hu : ∀ L : List Cond, (∀ w ∈ L, w ∈ wg_all) → ∀ w ∈ L, w ∈ ws_X_less := fun L h w hw => List.mem_cons_of_mem _ (h w hw)
  have hown : s.vm.findClass "FourWords" = some m.cls := findClass_of_methodNamed B.named
  have hlocks := B.notSynchronized
  subst hsz
  have hD := hD0.self (sz := s.heap.size)
  generalize hAe : va_A (wd_X h0 qO qU qW qG qN qL cJ cI cZ cB fO fU fW fG fL len size) s.heap.size = A at hD ⊢
  have hA : ∀ q : Nat, s.heap.size ≤ q → A q := fun q h => by rw [← hAe]; exact Or.inr h
  have hS : va_S A s.heap s.heap [] := va_S.rf
  have hl := lv_entry [.ref h0, .int a1, .int a2] (n := 4) (Nat.le_of_ble_eq_true rfl)
  rw [lg_entry_eq]
  generalize (lg_sl [.ref h0, .int a1, .int a2] ++ List.replicate (4 - (lg_sl [.ref h0, .int a1, .int a2]).length) Slot.unset).toArray = ls at hl ⊢
  have hl : lv_has ls 4 [(0, .ref h0), (1, .int a1), (2, .int a2)] := hl
  have B_76 : ∀ (H : Heap) (locs : List Loc) (ls : Array Slot) (t0 : Int32) (fO : (Nat → Int64)) (fU : (Nat → Int64)) (fW : (Nat → Int32)) (fG : (Nat → Int32)) (fL : (Nat → Int32)) (len : Int32) (size : Int32), wp_X_less_76 post t0 fO fU fW fG fL len size → va_P (dC, dI) cs_3 (wd_X h0 qO qU qW qG qN qL cJ cI cZ cB fO fU fW fG fL len size) H → va_D A (wd_X h0 qO qU qW qG qN qL cJ cI cZ cB fO fU fW fG fL len size) → va_S A s.heap H locs → lv_has ls 4 [] → W p l e (headSpec ws_X_less rm_X_less).room s m ([.ref h0, .int a1, .int a2] : List Value).toArray below meth c H locs 0 0 (MQ below (qi_X dC dI cJ cI cZ cB h0 qO qU qW qG qN qL post A) ([.ref h0, .int a1, .int a2] : List Value).toArray s 0 0 A) (F0 m 76 ls [.int t0]) := by
    intro H locs ls t0 fO fU fW fG fL len size hw hP hD hS hl
    unfold wp_X_less_76 at hw
    exact W.iret (v := t0) hx hb hr (fun t ht hW => ⟨⟨t0, (fO, fU, fW, fG, fL, len, size), rfl, hw, by rw [ht]; exact hP, va_K.moved hW.alike hK, hD⟩, hS.F ht⟩) hS.2.2 dc_X_less_76
  have B_66 : ∀ (H : Heap) (locs : List Loc) (ls : Array Slot) (t0 : Int32) (fO : (Nat → Int64)) (fU : (Nat → Int64)) (fW : (Nat → Int32)) (fG : (Nat → Int32)) (fL : (Nat → Int32)) (len : Int32) (size : Int32), wp_X_less_66 post t0 fO fU fW fG fL len size → va_P (dC, dI) cs_3 (wd_X h0 qO qU qW qG qN qL cJ cI cZ cB fO fU fW fG fL len size) H → va_D A (wd_X h0 qO qU qW qG qN qL cJ cI cZ cB fO fU fW fG fL len size) → va_S A s.heap H locs → lv_has ls 4 [] → W p l e (headSpec ws_X_less rm_X_less).room s m ([.ref h0, .int a1, .int a2] : List Value).toArray below meth c H locs 0 0 (MQ below (qi_X dC dI cJ cI cZ cB h0 qO qU qW qG qN qL post A) ([.ref h0, .int a1, .int a2] : List Value).toArray s 0 0 A) (F0 m 66 ls [.int t0]) := by
    intro H locs ls t0 fO fU fW fG fL len size hw hP hD hS hl
    unfold wp_X_less_66 at hw
    refine lv_istore_n (lv' := [(3, .int t0)]) hx hb dc_X_less_66 rfl hl (Nat.le_of_ble_eq_true rfl) rfl (fun ls hl => ?_)
    refine lv_iload_n hx hb dc_X_less_67 rfl (lv_at hl 0 rfl) ?_
    obtain ⟨hw1, hw2⟩ := hw
    refine lv_if_eq (tgt := 75) hx hb dc_X_less_68 (by decide) (fun hc => ?_) (fun hc => ?_)
    · have hw := hw1 hc
      clear hw1 hw2
      refine lv_iconst (v := 0) hx hb dc_X_less_75 (by decide) ?_
      exact B_76 _ _ _ (0 : Int32) fO fU fW fG fL len size hw hP hD hS (lv_sub hl [] rfl)
    · have hw := hw2 hc
      clear hw1 hw2
      refine lv_iconst (v := 1) hx hb dc_X_less_71 (by decide) ?_
      refine lv_goto (tgt := 76) hx hb dc_X_less_72 (by decide) ?_
      exact B_76 _ _ _ (1 : Int32) fO fU fW fG fL len size hw hP hD hS (lv_sub hl [] rfl)
  unfold wp_X_less at hw
  refine lv_aload_n hx hb dc_X_less_0 rfl (lv_at hl 0 rfl) ?_
  refine va_get (D := (dC, dI)) (ci := 1) (v := .ref qU) (C := "FourWords") (T := tb_X) (N := 6) hx hb hts (hu _ um_X) hown hK hP 0 rfl rfl 1 (by decide) (hq mw_t41) (fun _ h9 => h9) rfl dc_X_less_1 ?_
  refine lv_iload_n hx hb dc_X_less_4 rfl (lv_at hl 1 rfl) ?_
  obtain ⟨hin, hw⟩ := hw
  refine va_lald hx hb hK hP 2 0 rfl rfl hin dc_X_less_5 ?_
  refine lv_aload_n hx hb dc_X_less_6 rfl (lv_at hl 0 rfl) ?_
  refine va_get (D := (dC, dI)) (ci := 1) (v := .ref qU) (C := "FourWords") (T := tb_X) (N := 6) hx hb hts (hu _ um_X) hown hK hP 0 rfl rfl 1 (by decide) (hq mw_t41) (fun _ h9 => h9) rfl dc_X_less_7 ?_
  refine lv_iload_n hx hb dc_X_less_10 rfl (lv_at hl 2 rfl) ?_
  obtain ⟨hin, hw⟩ := hw
  refine va_lald hx hb hK hP 2 0 rfl rfl hin dc_X_less_11 ?_
  refine lv_lor hx hb dc_X_less_12 ?_
  refine lv_lconst (v := 0) hx hb dc_X_less_13 (by decide) ?_
  refine W.lcmp hx hb dc_X_less_14 ?_
  obtain ⟨hw1, hw2⟩ := hw
  refine lv_if_eq (tgt := 20) hx hb dc_X_less_15 (by decide) (fun hc => ?_) (fun hc => ?_)
  · have hw := hw1 hc
    clear hw1 hw2
    refine lv_aload_n hx hb dc_X_less_20 rfl (lv_at hl 0 rfl) ?_
    refine va_get (D := (dC, dI)) (ci := 1) (v := .ref qG) (C := "FourWords") (T := tb_X) (N := 6) hx hb hts (hu _ um_X) hown hK hP 0 rfl rfl 3 (by decide) (hq mw_t43) (fun _ h9 => h9) rfl dc_X_less_21 ?_
    refine lv_iload_n hx hb dc_X_less_24 rfl (lv_at hl 1 rfl) ?_
    obtain ⟨hin, hw⟩ := hw
    refine va_zald hx hb hK hP 4 2 rfl rfl hin dc_X_less_25 ?_
    obtain ⟨hw1, hw2⟩ := hw
    refine lv_if_eq (tgt := 51) hx hb dc_X_less_26 (by decide) (fun hc => ?_) (fun hc => ?_)
    · have hw := hw1 hc
      clear hw1 hw2
      refine lv_aload_n hx hb dc_X_less_51 rfl (lv_at hl 0 rfl) ?_
      refine va_get (D := (dC, dI)) (ci := 1) (v := .ref qO) (C := "FourWords") (T := tb_X) (N := 6) hx hb hts (hu _ um_X) hown hK hP 0 rfl rfl 0 (by decide) (hq mw_t40) (fun _ h9 => h9) rfl dc_X_less_52 ?_
      refine lv_iload_n hx hb dc_X_less_55 rfl (lv_at hl 1 rfl) ?_
      obtain ⟨hin, hw⟩ := hw
      refine va_lald hx hb hK hP 1 0 rfl rfl hin dc_X_less_56 ?_
      refine lv_aload_n hx hb dc_X_less_57 rfl (lv_at hl 0 rfl) ?_
      refine va_get (D := (dC, dI)) (ci := 1) (v := .ref qO) (C := "FourWords") (T := tb_X) (N := 6) hx hb hts (hu _ um_X) hown hK hP 0 rfl rfl 0 (by decide) (hq mw_t40) (fun _ h9 => h9) rfl dc_X_less_58 ?_
      refine lv_iload_n hx hb dc_X_less_61 rfl (lv_at hl 2 rfl) ?_
      obtain ⟨hin, hw⟩ := hw
      refine va_lald hx hb hK hP 1 0 rfl rfl hin dc_X_less_62 ?_
      refine gc_i (S := Unit) (w1 := (fun u => ([] : va_W))) (wc := ([] : va_W)) (wr := ([(h0, .inr (1, [.ref qO, .ref qU, .ref qW, .ref qG, .ref qN, .int size])), (qO, .inl (cJ, 64, .inr (.inl fO))), (qU, .inl (cJ, 64, .inr (.inl fU))), (qW, .inl (cI, 64, .inl fW)), (qG, .inl (cZ, 64, .inl fG)), (qN, .inr (0, [.ref qL, .int len])), (qL, .inl (cB, 64, .inl fL))] : va_W)) (va_runSN (As := [.long (fO a1.toNatClampNeg), .long (fO a2.toNatClampNeg)]) (rest := []) ⟨hx, hb, hml, hown, hts⟩ (kt_B_below l dC dI cJ cI cZ cB _ (fO a1.toNatClampNeg) (fO a2.toNatClampNeg) _ hw) ⟨va_cnB 2 hts (gw_in mw_t218) rfl rfl rfl (en_X192 hE) (hq mw_t9) (by decide +kernel) ⟨Nat.le_of_ble_eq_true rfl, Nat.le_of_ble_eq_true rfl⟩, hq mw_t217, trivial⟩ (ps_W (hP.sub (ws' := ([] : va_W)) [] rfl) hK (hD.sub (ws' := ([] : va_W)) [] (by decide) rfl) hE) rfl rfl hl.1 rfl (lv_room (Nat.le_of_ble_eq_true rfl)) dc_X_less_63 ⟨Nat.le_of_ble_eq_true rfl, Nat.le_of_ble_eq_true rfl⟩) hP hD hS hA [] [0, 1, 2, 3, 4, 5, 6] rfl rfl (by decide) (by decide) (fun r63 u H locs hw hP hD hS => ?_)
      have hP : va_P (dC, dI) cs_3 (wd_X h0 qO qU qW qG qN qL cJ cI cZ cB fO fU fW fG fL len size) H := hP.sub (ws' := (wd_X h0 qO qU qW qG qN qL cJ cI cZ cB fO fU fW fG fL len size)) [0, 1, 2, 3, 4, 5, 6] rfl
      have hD : va_D A (wd_X h0 qO qU qW qG qN qL cJ cI cZ cB fO fU fW fG fL len size) := hD.sub (ws' := (wd_X h0 qO qU qW qG qN qL cJ cI cZ cB fO fU fW fG fL len size)) [0, 1, 2, 3, 4, 5, 6] (by decide) rfl
      try dsimp only at hw
      exact B_66 _ _ _ r63 fO fU fW fG fL len size hw hP hD hS (lv_sub hl [] rfl)
    · have hw := hw2 hc
      clear hw1 hw2
      refine lv_aload_n hx hb dc_X_less_29 rfl (lv_at hl 0 rfl) ?_
      refine lv_iload_n hx hb dc_X_less_30 rfl (lv_at hl 1 rfl) ?_
      refine gc_l (S := (Nat → Int64) × (Nat → Int64) × (Nat → Int32) × (Nat → Int32) × (Nat → Int32) × Int32 × Int32) (w1 := (fun u => (wd_X h0 qO qU qW qG qN qL cJ cI cZ cB u.1 u.2.1 u.2.2.1 u.2.2.2.1 u.2.2.2.2.1 u.2.2.2.2.2.1 u.2.2.2.2.2.2))) (wc := (wd_X h0 qO qU qW qG qN qL cJ cI cZ cB fO fU fW fG fL len size)) (wr := ([] : va_W)) (va_runV (As := [.int a1]) (rest := []) ⟨hx, hb, hml, hown, hts⟩ (kt_X_number l dC dI cJ cI cZ cB h0 qO qU qW qG qN qL _ a1 fO fU fW fG fL len size _ hw) ⟨callB_of 1 hts (gw_in mw_t207) rfl rfl rfl (hq mw_t1) (hq mw_t204) (by decide +kernel) ⟨Nat.le_of_ble_eq_true rfl, Nat.le_of_ble_eq_true rfl⟩, hq mw_t206, hq mw_s8⟩ (pv_W (va_recv (q0 := 0) (ci := 1) hK hP rfl rfl) (hP.sub (ws' := (wd_X h0 qO qU qW qG qN qL cJ cI cZ cB fO fU fW fG fL len size)) [0, 1, 2, 3, 4, 5, 6] rfl) hK (hD.sub (ws' := (wd_X h0 qO qU qW qG qN qL cJ cI cZ cB fO fU fW fG fL len size)) [0, 1, 2, 3, 4, 5, 6] (by decide) rfl) hE) rfl rfl hl.1 rfl (lv_room (Nat.le_of_ble_eq_true rfl)) dc_X_less_31 ⟨Nat.le_of_ble_eq_true rfl, Nat.le_of_ble_eq_true rfl⟩) hP hD hS hA [0, 1, 2, 3, 4, 5, 6] [] rfl rfl (by decide) (by decide) (fun r31 u H locs hw hP hD hS => ?_)
      obtain ⟨fO31, fU31, fW31, fG31, fL31, len31, size31⟩ := u
      have hP : va_P (dC, dI) cs_3 (wd_X h0 qO qU qW qG qN qL cJ cI cZ cB fO31 fU31 fW31 fG31 fL31 len31 size31) H := hP.sub (ws' := (wd_X h0 qO qU qW qG qN qL cJ cI cZ cB fO31 fU31 fW31 fG31 fL31 len31 size31)) [0, 1, 2, 3, 4, 5, 6] rfl
      have hD : va_D A (wd_X h0 qO qU qW qG qN qL cJ cI cZ cB fO31 fU31 fW31 fG31 fL31 len31 size31) := hD.sub (ws' := (wd_X h0 qO qU qW qG qN qL cJ cI cZ cB fO31 fU31 fW31 fG31 fL31 len31 size31)) [0, 1, 2, 3, 4, 5, 6] (by decide) rfl
      try dsimp only at hw
      refine lv_aload_n hx hb dc_X_less_34 rfl (lv_at hl 0 rfl) ?_
      refine lv_iload_n hx hb dc_X_less_35 rfl (lv_at hl 2 rfl) ?_
      refine gc_l (S := (Nat → Int64) × (Nat → Int64) × (Nat → Int32) × (Nat → Int32) × (Nat → Int32) × Int32 × Int32) (w1 := (fun u => (wd_X h0 qO qU qW qG qN qL cJ cI cZ cB u.1 u.2.1 u.2.2.1 u.2.2.2.1 u.2.2.2.2.1 u.2.2.2.2.2.1 u.2.2.2.2.2.2))) (wc := (wd_X h0 qO qU qW qG qN qL cJ cI cZ cB fO31 fU31 fW31 fG31 fL31 len31 size31)) (wr := ([] : va_W)) (va_runV (As := [.int a2]) (rest := [.long r31]) ⟨hx, hb, hml, hown, hts⟩ (kt_X_number l dC dI cJ cI cZ cB h0 qO qU qW qG qN qL _ a2 fO31 fU31 fW31 fG31 fL31 len31 size31 _ hw) ⟨callB_of 1 hts (gw_in mw_t207) rfl rfl rfl (hq mw_t1) (hq mw_t204) (by decide +kernel) ⟨Nat.le_of_ble_eq_true rfl, Nat.le_of_ble_eq_true rfl⟩, hq mw_t206, hq mw_s8⟩ (pv_W (va_recv (q0 := 0) (ci := 1) hK hP rfl rfl) (hP.sub (ws' := (wd_X h0 qO qU qW qG qN qL cJ cI cZ cB fO31 fU31 fW31 fG31 fL31 len31 size31)) [0, 1, 2, 3, 4, 5, 6] rfl) hK (hD.sub (ws' := (wd_X h0 qO qU qW qG qN qL cJ cI cZ cB fO31 fU31 fW31 fG31 fL31 len31 size31)) [0, 1, 2, 3, 4, 5, 6] (by decide) rfl) hE) rfl rfl hl.1 rfl (lv_room (Nat.le_of_ble_eq_true rfl)) dc_X_less_36 ⟨Nat.le_of_ble_eq_true rfl, Nat.le_of_ble_eq_true rfl⟩) hP hD hS hA [0, 1, 2, 3, 4, 5, 6] [] rfl rfl (by decide) (by decide) (fun r36 u H locs hw hP hD hS => ?_)
      obtain ⟨fO36, fU36, fW36, fG36, fL36, len36, size36⟩ := u
      have hP : va_P (dC, dI) cs_3 (wd_X h0 qO qU qW qG qN qL cJ cI cZ cB fO36 fU36 fW36 fG36 fL36 len36 size36) H := hP.sub (ws' := (wd_X h0 qO qU qW qG qN qL cJ cI cZ cB fO36 fU36 fW36 fG36 fL36 len36 size36)) [0, 1, 2, 3, 4, 5, 6] rfl
      have hD : va_D A (wd_X h0 qO qU qW qG qN qL cJ cI cZ cB fO36 fU36 fW36 fG36 fL36 len36 size36) := hD.sub (ws' := (wd_X h0 qO qU qW qG qN qL cJ cI cZ cB fO36 fU36 fW36 fG36 fL36 len36 size36)) [0, 1, 2, 3, 4, 5, 6] (by decide) rfl
      try dsimp only at hw
      refine W.lcmp hx hb dc_X_less_39 ?_
      obtain ⟨hw1, hw2⟩ := hw
      refine lv_if_ge (tgt := 47) hx hb dc_X_less_40 (by decide) (fun hc => ?_) (fun hc => ?_)
      · have hw := hw1 hc
        clear hw1 hw2
        refine lv_iconst (v := 0) hx hb dc_X_less_47 (by decide) ?_
        refine lv_goto (tgt := 66) hx hb dc_X_less_48 (by decide) ?_
        exact B_66 _ _ _ (0 : Int32) fO36 fU36 fW36 fG36 fL36 len36 size36 hw hP hD hS (lv_sub hl [] rfl)
      · have hw := hw2 hc
        clear hw1 hw2
        refine lv_iconst (v := 1) hx hb dc_X_less_43 (by decide) ?_
        refine lv_goto (tgt := 66) hx hb dc_X_less_44 (by decide) ?_
        exact B_66 _ _ _ (1 : Int32) fO36 fU36 fW36 fG36 fL36 len36 size36 hw hP hD hS (lv_sub hl [] rfl)
  · have hw := hw2 hc
    clear hw1 hw2
    refine lv_iconst (v := 2) hx hb dc_X_less_18 (by decide) ?_
    exact W.iret (v := (2 : Int32)) hx hb hr (fun t ht hW => ⟨⟨(2 : Int32), (fO, fU, fW, fG, fL, len, size), rfl, hw, by rw [ht]; exact hP, va_K.moved hW.alike hK, hD⟩, hS.F ht⟩) hS.2.2 dc_X_less_19
set_option maxHeartbeats 4000000 in
set_option maxRecDepth 100000 in
theorem kt_X_allOnes (l : Launch) (dC : Nat → ClassId) (dI : Nat → Nat → Nat) (cJ cI cZ cB : ClassId) (h0 qO qU qW qG qN qL : Nat) (sz : Nat) (a1 : Int32) (fO : (Nat → Int64)) (fU : (Nat → Int64)) (fW : (Nat → Int32)) (fG : (Nat → Int32)) (fL : (Nat → Int32)) (len : Int32) (size : Int32) (post : Int32 → (Nat → Int64) → (Nat → Int64) → (Nat → Int32) → (Nat → Int32) → (Nat → Int32) → Int32 → Int32 → Prop) (hw : wp_X_allOnes post a1 fO fU fW fG fL len size) : Met l yn_X_allOnes ws_X_allOnes rm_X_allOnes (va_Pc [.ref h0, .int a1] (pc_W (dC, dI) (ty_4 cJ cI cZ cB) (wd_X h0 qO qU qW qG qN qL cJ cI cZ cB fO fU fW fG fL len size) sz)) (qi_X dC dI cJ cI cZ cB h0 qO qU qW qG qN qL post (va_A (wd_X h0 qO qU qW qG qN qL cJ cI cZ cB fO fU fW fG fL len size) sz)) 0 0 (va_A (wd_X h0 qO qU qW qG qN qL cJ cI cZ cB fO fU fW fG fL len size) sz) := by
  refine Met.ofW (cc := cd_X_allOnes) (maxL := 2) (ret := (some .int)) (by decide) rfl ?_
  intro p e s m args below meth c s₁ B hml hv
  obtain ⟨rfl, hsz, hP, hK, hD0, hE⟩ := hv
  have hx := B.exec
  have hb := B.bytes
  have hr := B.returns
  have hts := atoms_spec (ws := ws_X_allOnes) B.pre
  have hq : ∀ {w : Cond}, w ∈ wg_all → w.before ([.ref h0, .int a1] : List Value).toArray s = true := fun h => hts _ (List.mem_cons_of_mem _ h)
  have hu : ∀ L : List Cond, (∀ w ∈ L, w ∈ wg_all) → ∀ w ∈ L, w ∈ ws_X_allOnes := fun L h w hw => List.mem_cons_of_mem _ (h w hw)
  have hown : s.vm.findClass "FourWords" = some m.cls := findClass_of_methodNamed B.named
  have hlocks := B.notSynchronized
  subst hsz
  have hD := hD0.self (sz := s.heap.size)
  generalize hAe : va_A (wd_X h0 qO qU qW qG qN qL cJ cI cZ cB fO fU fW fG fL len size) s.heap.size = A at hD ⊢
  have hA : ∀ q : Nat, s.heap.size ≤ q → A q := fun q h => by rw [← hAe]; exact Or.inr h
  have hS : va_S A s.heap s.heap [] := va_S.rf
  have hl := lv_entry [.ref h0, .int a1] (n := 2) (Nat.le_of_ble_eq_true rfl)
  rw [lg_entry_eq]
  generalize (lg_sl [.ref h0, .int a1] ++ List.replicate (2 - (lg_sl [.ref h0, .int a1]).length) Slot.unset).toArray = ls at hl ⊢
  have hl : lv_has ls 2 [(0, .ref h0), (1, .int a1)] := hl
  have B_28 : ∀ (H : Heap) (locs : List Loc) (ls : Array Slot) (t0 : Int32) (fO : (Nat → Int64)) (fU : (Nat → Int64)) (fW : (Nat → Int32)) (fG : (Nat → Int32)) (fL : (Nat → Int32)) (len : Int32) (size : Int32), wp_X_allOnes_28 post t0 fO fU fW fG fL len size → va_P (dC, dI) cs_3 (wd_X h0 qO qU qW qG qN qL cJ cI cZ cB fO fU fW fG fL len size) H → va_D A (wd_X h0 qO qU qW qG qN qL cJ cI cZ cB fO fU fW fG fL len size) → va_S A s.heap H locs → lv_has ls 2 [] → W p l e (headSpec ws_X_allOnes rm_X_allOnes).room s m ([.ref h0, .int a1] : List Value).toArray below meth c H locs 0 0 (MQ below (qi_X dC dI cJ cI cZ cB h0 qO qU qW qG qN qL post A) ([.ref h0, .int a1] : List Value).toArray s 0 0 A) (F0 m 28 ls [.int t0]) := by
    intro H locs ls t0 fO fU fW fG fL len size hw hP hD hS hl
    unfold wp_X_allOnes_28 at hw
    exact W.iret (v := t0) hx hb hr (fun t ht hW => ⟨⟨t0, (fO, fU, fW, fG, fL, len, size), rfl, hw, by rw [ht]; exact hP, va_K.moved hW.alike hK, hD⟩, hS.F ht⟩) hS.2.2 dc_X_allOnes_28
  unfold wp_X_allOnes at hw
  refine lv_aload_n hx hb dc_X_allOnes_0 rfl (lv_at hl 0 rfl) ?_
  refine lv_iload_n hx hb dc_X_allOnes_1 rfl (lv_at hl 1 rfl) ?_
  refine gc_l (S := (Nat → Int64) × (Nat → Int64) × (Nat → Int32) × (Nat → Int32) × (Nat → Int32) × Int32 × Int32) (w1 := (fun u => (wd_X h0 qO qU qW qG qN qL cJ cI cZ cB u.1 u.2.1 u.2.2.1 u.2.2.2.1 u.2.2.2.2.1 u.2.2.2.2.2.1 u.2.2.2.2.2.2))) (wc := (wd_X h0 qO qU qW qG qN qL cJ cI cZ cB fO fU fW fG fL len size)) (wr := ([] : va_W)) (va_runV (As := [.int a1]) (rest := []) ⟨hx, hb, hml, hown, hts⟩ (kt_X_sureZeros l dC dI cJ cI cZ cB h0 qO qU qW qG qN qL _ a1 fO fU fW fG fL len size _ hw) ⟨callB_of 1 hts (gw_in mw_t231) rfl rfl rfl (hq mw_t1) (hq mw_t228) (by decide +kernel) ⟨Nat.le_of_ble_eq_true rfl, Nat.le_of_ble_eq_true rfl⟩, hq mw_t230, hq mw_s12⟩ (pv_W (va_recv (q0 := 0) (ci := 1) hK hP rfl rfl) (hP.sub (ws' := (wd_X h0 qO qU qW qG qN qL cJ cI cZ cB fO fU fW fG fL len size)) [0, 1, 2, 3, 4, 5, 6] rfl) hK (hD.sub (ws' := (wd_X h0 qO qU qW qG qN qL cJ cI cZ cB fO fU fW fG fL len size)) [0, 1, 2, 3, 4, 5, 6] (by decide) rfl) hE) rfl rfl hl.1 rfl (lv_room (Nat.le_of_ble_eq_true rfl)) dc_X_allOnes_2 ⟨Nat.le_of_ble_eq_true rfl, Nat.le_of_ble_eq_true rfl⟩) hP hD hS hA [0, 1, 2, 3, 4, 5, 6] [] rfl rfl (by decide) (by decide) (fun r2 u H locs hw hP hD hS => ?_)
  obtain ⟨fO2, fU2, fW2, fG2, fL2, len2, size2⟩ := u
  have hP : va_P (dC, dI) cs_3 (wd_X h0 qO qU qW qG qN qL cJ cI cZ cB fO2 fU2 fW2 fG2 fL2 len2 size2) H := hP.sub (ws' := (wd_X h0 qO qU qW qG qN qL cJ cI cZ cB fO2 fU2 fW2 fG2 fL2 len2 size2)) [0, 1, 2, 3, 4, 5, 6] rfl
  have hD : va_D A (wd_X h0 qO qU qW qG qN qL cJ cI cZ cB fO2 fU2 fW2 fG2 fL2 len2 size2) := hD.sub (ws' := (wd_X h0 qO qU qW qG qN qL cJ cI cZ cB fO2 fU2 fW2 fG2 fL2 len2 size2)) [0, 1, 2, 3, 4, 5, 6] (by decide) rfl
  try dsimp only at hw
  refine lv_lconst (v := 0) hx hb dc_X_allOnes_5 (by decide) ?_
  refine W.lcmp hx hb dc_X_allOnes_6 ?_
  obtain ⟨hw1, hw2⟩ := hw
  refine lv_if_eq (tgt := 12) hx hb dc_X_allOnes_7 (by decide) (fun hc => ?_) (fun hc => ?_)
  · have hw := hw1 hc
    clear hw1 hw2
    refine lv_aload_n hx hb dc_X_allOnes_12 rfl (lv_at hl 0 rfl) ?_
    refine va_get (D := (dC, dI)) (ci := 1) (v := .ref qU) (C := "FourWords") (T := tb_X) (N := 6) hx hb hts (hu _ um_X) hown hK hP 0 rfl rfl 1 (by decide) (hq mw_t41) (fun _ h9 => h9) rfl dc_X_allOnes_13 ?_
    refine lv_iload_n hx hb dc_X_allOnes_16 rfl (lv_at hl 1 rfl) ?_
    obtain ⟨hin, hw⟩ := hw
    refine va_lald hx hb hK hP 2 0 rfl rfl hin dc_X_allOnes_17 ?_
    refine lv_lconst (v := 0) hx hb dc_X_allOnes_18 (by decide) ?_
    refine W.lcmp hx hb dc_X_allOnes_19 ?_
    obtain ⟨hw1, hw2⟩ := hw
    refine lv_if_eq (tgt := 27) hx hb dc_X_allOnes_20 (by decide) (fun hc => ?_) (fun hc => ?_)
    · have hw := hw1 hc
      clear hw1 hw2
      refine lv_iconst (v := 1) hx hb dc_X_allOnes_27 (by decide) ?_
      exact B_28 _ _ _ (1 : Int32) fO2 fU2 fW2 fG2 fL2 len2 size2 hw hP hD hS (lv_sub hl [] rfl)
    · have hw := hw2 hc
      clear hw1 hw2
      refine lv_iconst (v := 2) hx hb dc_X_allOnes_23 (by decide) ?_
      refine lv_goto (tgt := 28) hx hb dc_X_allOnes_24 (by decide) ?_
      exact B_28 _ _ _ (2 : Int32) fO2 fU2 fW2 fG2 fL2 len2 size2 hw hP hD hS (lv_sub hl [] rfl)
  · have hw := hw2 hc
    clear hw1 hw2
    refine lv_iconst (v := 0) hx hb dc_X_allOnes_10 (by decide) ?_
    exact W.iret (v := (0 : Int32)) hx hb hr (fun t ht hW => ⟨⟨(0 : Int32), (fO2, fU2, fW2, fG2, fL2, len2, size2), rfl, hw, by rw [ht]; exact hP, va_K.moved hW.alike hK, hD⟩, hS.F ht⟩) hS.2.2 dc_X_allOnes_11
set_option maxHeartbeats 4000000 in
set_option maxRecDepth 100000 in
theorem kt_X_anyOne (l : Launch) (dC : Nat → ClassId) (dI : Nat → Nat → Nat) (cJ cI cZ cB : ClassId) (h0 qO qU qW qG qN qL : Nat) (sz : Nat) (a1 : Int32) (fO : (Nat → Int64)) (fU : (Nat → Int64)) (fW : (Nat → Int32)) (fG : (Nat → Int32)) (fL : (Nat → Int32)) (len : Int32) (size : Int32) (post : Int32 → (Nat → Int64) → (Nat → Int64) → (Nat → Int32) → (Nat → Int32) → (Nat → Int32) → Int32 → Int32 → Prop) (hw : wp_X_anyOne post a1 fO fU fW fG fL len size) : Met l yn_X_anyOne ws_X_anyOne rm_X_anyOne (va_Pc [.ref h0, .int a1] (pc_W (dC, dI) (ty_4 cJ cI cZ cB) (wd_X h0 qO qU qW qG qN qL cJ cI cZ cB fO fU fW fG fL len size) sz)) (qi_X dC dI cJ cI cZ cB h0 qO qU qW qG qN qL post (va_A (wd_X h0 qO qU qW qG qN qL cJ cI cZ cB fO fU fW fG fL len size) sz)) 0 0 (va_A (wd_X h0 qO qU qW qG qN qL cJ cI cZ cB fO fU fW fG fL len size) sz) := by
  refine Met.ofW (cc := cd_X_anyOne) (maxL := 2) (ret := (some .int)) (by decide) rfl ?_
  intro p e s m args below meth c s₁ B hml hv
  obtain ⟨rfl, hsz, hP, hK, hD0, hE⟩ := hv
  have hx := B.exec
  have hb := B.bytes
  have hr := B.returns
  have hts := atoms_spec (ws := ws_X_anyOne) B.pre
  have hq : ∀ {w : Cond}, w ∈ wg_all → w.before ([.ref h0, .int a1] : List Value).toArray s = true := fun h => hts _ (List.mem_cons_of_mem _ h)
  have hu : ∀ L : List Cond, (∀ w ∈ L, w ∈ wg_all) → ∀ w ∈ L, w ∈ ws_X_anyOne := fun L h w hw => List.mem_cons_of_mem _ (h w hw)
  have hown : s.vm.findClass "FourWords" = some m.cls := findClass_of_methodNamed B.named
  have hlocks := B.notSynchronized
  subst hsz
  have hD := hD0.self (sz := s.heap.size)
  generalize hAe : va_A (wd_X h0 qO qU qW qG qN qL cJ cI cZ cB fO fU fW fG fL len size) s.heap.size = A at hD ⊢
  have hA : ∀ q : Nat, s.heap.size ≤ q → A q := fun q h => by rw [← hAe]; exact Or.inr h
  have hS : va_S A s.heap s.heap [] := va_S.rf
  have hl := lv_entry [.ref h0, .int a1] (n := 2) (Nat.le_of_ble_eq_true rfl)
  rw [lg_entry_eq]
  generalize (lg_sl [.ref h0, .int a1] ++ List.replicate (2 - (lg_sl [.ref h0, .int a1]).length) Slot.unset).toArray = ls at hl ⊢
  have hl : lv_has ls 2 [(0, .ref h0), (1, .int a1)] := hl
  have B_28 : ∀ (H : Heap) (locs : List Loc) (ls : Array Slot) (t0 : Int32) (fO : (Nat → Int64)) (fU : (Nat → Int64)) (fW : (Nat → Int32)) (fG : (Nat → Int32)) (fL : (Nat → Int32)) (len : Int32) (size : Int32), wp_X_anyOne_28 post t0 fO fU fW fG fL len size → va_P (dC, dI) cs_3 (wd_X h0 qO qU qW qG qN qL cJ cI cZ cB fO fU fW fG fL len size) H → va_D A (wd_X h0 qO qU qW qG qN qL cJ cI cZ cB fO fU fW fG fL len size) → va_S A s.heap H locs → lv_has ls 2 [] → W p l e (headSpec ws_X_anyOne rm_X_anyOne).room s m ([.ref h0, .int a1] : List Value).toArray below meth c H locs 0 0 (MQ below (qi_X dC dI cJ cI cZ cB h0 qO qU qW qG qN qL post A) ([.ref h0, .int a1] : List Value).toArray s 0 0 A) (F0 m 28 ls [.int t0]) := by
    intro H locs ls t0 fO fU fW fG fL len size hw hP hD hS hl
    unfold wp_X_anyOne_28 at hw
    exact W.iret (v := t0) hx hb hr (fun t ht hW => ⟨⟨t0, (fO, fU, fW, fG, fL, len, size), rfl, hw, by rw [ht]; exact hP, va_K.moved hW.alike hK, hD⟩, hS.F ht⟩) hS.2.2 dc_X_anyOne_28
  unfold wp_X_anyOne at hw
  refine lv_aload_n hx hb dc_X_anyOne_0 rfl (lv_at hl 0 rfl) ?_
  refine lv_iload_n hx hb dc_X_anyOne_1 rfl (lv_at hl 1 rfl) ?_
  refine gc_l (S := (Nat → Int64) × (Nat → Int64) × (Nat → Int32) × (Nat → Int32) × (Nat → Int32) × Int32 × Int32) (w1 := (fun u => (wd_X h0 qO qU qW qG qN qL cJ cI cZ cB u.1 u.2.1 u.2.2.1 u.2.2.2.1 u.2.2.2.2.1 u.2.2.2.2.2.1 u.2.2.2.2.2.2))) (wc := (wd_X h0 qO qU qW qG qN qL cJ cI cZ cB fO fU fW fG fL len size)) (wr := ([] : va_W)) (va_runV (As := [.int a1]) (rest := []) ⟨hx, hb, hml, hown, hts⟩ (kt_X_sureOnes l dC dI cJ cI cZ cB h0 qO qU qW qG qN qL _ a1 fO fU fW fG fL len size _ hw) ⟨callB_of 1 hts (gw_in mw_t227) rfl rfl rfl (hq mw_t1) (hq mw_t224) (by decide +kernel) ⟨Nat.le_of_ble_eq_true rfl, Nat.le_of_ble_eq_true rfl⟩, hq mw_t226, hq mw_s11⟩ (pv_W (va_recv (q0 := 0) (ci := 1) hK hP rfl rfl) (hP.sub (ws' := (wd_X h0 qO qU qW qG qN qL cJ cI cZ cB fO fU fW fG fL len size)) [0, 1, 2, 3, 4, 5, 6] rfl) hK (hD.sub (ws' := (wd_X h0 qO qU qW qG qN qL cJ cI cZ cB fO fU fW fG fL len size)) [0, 1, 2, 3, 4, 5, 6] (by decide) rfl) hE) rfl rfl hl.1 rfl (lv_room (Nat.le_of_ble_eq_true rfl)) dc_X_anyOne_2 ⟨Nat.le_of_ble_eq_true rfl, Nat.le_of_ble_eq_true rfl⟩) hP hD hS hA [0, 1, 2, 3, 4, 5, 6] [] rfl rfl (by decide) (by decide) (fun r2 u H locs hw hP hD hS => ?_)
  obtain ⟨fO2, fU2, fW2, fG2, fL2, len2, size2⟩ := u
  have hP : va_P (dC, dI) cs_3 (wd_X h0 qO qU qW qG qN qL cJ cI cZ cB fO2 fU2 fW2 fG2 fL2 len2 size2) H := hP.sub (ws' := (wd_X h0 qO qU qW qG qN qL cJ cI cZ cB fO2 fU2 fW2 fG2 fL2 len2 size2)) [0, 1, 2, 3, 4, 5, 6] rfl
  have hD : va_D A (wd_X h0 qO qU qW qG qN qL cJ cI cZ cB fO2 fU2 fW2 fG2 fL2 len2 size2) := hD.sub (ws' := (wd_X h0 qO qU qW qG qN qL cJ cI cZ cB fO2 fU2 fW2 fG2 fL2 len2 size2)) [0, 1, 2, 3, 4, 5, 6] (by decide) rfl
  try dsimp only at hw
  refine lv_lconst (v := 0) hx hb dc_X_anyOne_5 (by decide) ?_
  refine W.lcmp hx hb dc_X_anyOne_6 ?_
  obtain ⟨hw1, hw2⟩ := hw
  refine lv_if_eq (tgt := 12) hx hb dc_X_anyOne_7 (by decide) (fun hc => ?_) (fun hc => ?_)
  · have hw := hw1 hc
    clear hw1 hw2
    refine lv_aload_n hx hb dc_X_anyOne_12 rfl (lv_at hl 0 rfl) ?_
    refine va_get (D := (dC, dI)) (ci := 1) (v := .ref qU) (C := "FourWords") (T := tb_X) (N := 6) hx hb hts (hu _ um_X) hown hK hP 0 rfl rfl 1 (by decide) (hq mw_t41) (fun _ h9 => h9) rfl dc_X_anyOne_13 ?_
    refine lv_iload_n hx hb dc_X_anyOne_16 rfl (lv_at hl 1 rfl) ?_
    obtain ⟨hin, hw⟩ := hw
    refine va_lald hx hb hK hP 2 0 rfl rfl hin dc_X_anyOne_17 ?_
    refine lv_lconst (v := 0) hx hb dc_X_anyOne_18 (by decide) ?_
    refine W.lcmp hx hb dc_X_anyOne_19 ?_
    obtain ⟨hw1, hw2⟩ := hw
    refine lv_if_eq (tgt := 27) hx hb dc_X_anyOne_20 (by decide) (fun hc => ?_) (fun hc => ?_)
    · have hw := hw1 hc
      clear hw1 hw2
      refine lv_iconst (v := 0) hx hb dc_X_anyOne_27 (by decide) ?_
      exact B_28 _ _ _ (0 : Int32) fO2 fU2 fW2 fG2 fL2 len2 size2 hw hP hD hS (lv_sub hl [] rfl)
    · have hw := hw2 hc
      clear hw1 hw2
      refine lv_iconst (v := 2) hx hb dc_X_anyOne_23 (by decide) ?_
      refine lv_goto (tgt := 28) hx hb dc_X_anyOne_24 (by decide) ?_
      exact B_28 _ _ _ (2 : Int32) fO2 fU2 fW2 fG2 fL2 len2 size2 hw hP hD hS (lv_sub hl [] rfl)
  · have hw := hw2 hc
    clear hw1 hw2
    refine lv_iconst (v := 1) hx hb dc_X_anyOne_10 (by decide) ?_
    exact W.iret (v := (1 : Int32)) hx hb hr (fun t ht hW => ⟨⟨(1 : Int32), (fO2, fU2, fW2, fG2, fL2, len2, size2), rfl, hw, by rw [ht]; exact hP, va_K.moved hW.alike hK, hD⟩, hS.F ht⟩) hS.2.2 dc_X_anyOne_11
set_option maxHeartbeats 4000000 in
set_option maxRecDepth 100000 in
theorem kt_X_oddOnes (l : Launch) (dC : Nat → ClassId) (dI : Nat → Nat → Nat) (cJ cI cZ cB : ClassId) (h0 qO qU qW qG qN qL : Nat) (sz : Nat) (a1 : Int32) (fO : (Nat → Int64)) (fU : (Nat → Int64)) (fW : (Nat → Int32)) (fG : (Nat → Int32)) (fL : (Nat → Int32)) (len : Int32) (size : Int32) (post : Int32 → (Nat → Int64) → (Nat → Int64) → (Nat → Int32) → (Nat → Int32) → (Nat → Int32) → Int32 → Int32 → Prop) (hw : wp_X_oddOnes post a1 fO fU fW fG fL len size) : Met l yn_X_oddOnes ws_X_oddOnes rm_X_oddOnes (va_Pc [.ref h0, .int a1] (pc_W (dC, dI) (ty_4 cJ cI cZ cB) (wd_X h0 qO qU qW qG qN qL cJ cI cZ cB fO fU fW fG fL len size) sz)) (qi_X dC dI cJ cI cZ cB h0 qO qU qW qG qN qL post (va_A (wd_X h0 qO qU qW qG qN qL cJ cI cZ cB fO fU fW fG fL len size) sz)) 0 0 (va_A (wd_X h0 qO qU qW qG qN qL cJ cI cZ cB fO fU fW fG fL len size) sz) := by
  refine Met.ofW (cc := cd_X_oddOnes) (maxL := 2) (ret := (some .int)) (by decide) rfl ?_
  intro p e s m args below meth c s₁ B hml hv
  obtain ⟨rfl, hsz, hP, hK, hD0, hE⟩ := hv
  have hx := B.exec
  have hb := B.bytes
  have hr := B.returns
  have hts := atoms_spec (ws := ws_X_oddOnes) B.pre
  have hq : ∀ {w : Cond}, w ∈ wg_all → w.before ([.ref h0, .int a1] : List Value).toArray s = true := fun h => hts _ (List.mem_cons_of_mem _ h)
  have hu : ∀ L : List Cond, (∀ w ∈ L, w ∈ wg_all) → ∀ w ∈ L, w ∈ ws_X_oddOnes := fun L h w hw => List.mem_cons_of_mem _ (h w hw)
  have hown : s.vm.findClass "FourWords" = some m.cls := findClass_of_methodNamed B.named
  have hlocks := B.notSynchronized
  subst hsz
  have hD := hD0.self (sz := s.heap.size)
  generalize hAe : va_A (wd_X h0 qO qU qW qG qN qL cJ cI cZ cB fO fU fW fG fL len size) s.heap.size = A at hD ⊢
  have hA : ∀ q : Nat, s.heap.size ≤ q → A q := fun q h => by rw [← hAe]; exact Or.inr h
  have hS : va_S A s.heap s.heap [] := va_S.rf
  have hl := lv_entry [.ref h0, .int a1] (n := 2) (Nat.le_of_ble_eq_true rfl)
  rw [lg_entry_eq]
  generalize (lg_sl [.ref h0, .int a1] ++ List.replicate (2 - (lg_sl [.ref h0, .int a1]).length) Slot.unset).toArray = ls at hl ⊢
  have hl : lv_has ls 2 [(0, .ref h0), (1, .int a1)] := hl
  have B_33 : ∀ (H : Heap) (locs : List Loc) (ls : Array Slot) (t0 : Int32) (fO : (Nat → Int64)) (fU : (Nat → Int64)) (fW : (Nat → Int32)) (fG : (Nat → Int32)) (fL : (Nat → Int32)) (len : Int32) (size : Int32), wp_X_oddOnes_33 post t0 fO fU fW fG fL len size → va_P (dC, dI) cs_3 (wd_X h0 qO qU qW qG qN qL cJ cI cZ cB fO fU fW fG fL len size) H → va_D A (wd_X h0 qO qU qW qG qN qL cJ cI cZ cB fO fU fW fG fL len size) → va_S A s.heap H locs → lv_has ls 2 [] → W p l e (headSpec ws_X_oddOnes rm_X_oddOnes).room s m ([.ref h0, .int a1] : List Value).toArray below meth c H locs 0 0 (MQ below (qi_X dC dI cJ cI cZ cB h0 qO qU qW qG qN qL post A) ([.ref h0, .int a1] : List Value).toArray s 0 0 A) (F0 m 33 ls [.int t0]) := by
    intro H locs ls t0 fO fU fW fG fL len size hw hP hD hS hl
    unfold wp_X_oddOnes_33 at hw
    exact W.iret (v := t0) hx hb hr (fun t ht hW => ⟨⟨t0, (fO, fU, fW, fG, fL, len, size), rfl, hw, by rw [ht]; exact hP, va_K.moved hW.alike hK, hD⟩, hS.F ht⟩) hS.2.2 dc_X_oddOnes_33
  unfold wp_X_oddOnes at hw
  refine lv_aload_n hx hb dc_X_oddOnes_0 rfl (lv_at hl 0 rfl) ?_
  refine va_get (D := (dC, dI)) (ci := 1) (v := .ref qU) (C := "FourWords") (T := tb_X) (N := 6) hx hb hts (hu _ um_X) hown hK hP 0 rfl rfl 1 (by decide) (hq mw_t41) (fun _ h9 => h9) rfl dc_X_oddOnes_1 ?_
  refine lv_iload_n hx hb dc_X_oddOnes_4 rfl (lv_at hl 1 rfl) ?_
  obtain ⟨hin, hw⟩ := hw
  refine va_lald hx hb hK hP 2 0 rfl rfl hin dc_X_oddOnes_5 ?_
  refine lv_lconst (v := 0) hx hb dc_X_oddOnes_6 (by decide) ?_
  refine W.lcmp hx hb dc_X_oddOnes_7 ?_
  obtain ⟨hw1, hw2⟩ := hw
  refine lv_if_eq (tgt := 13) hx hb dc_X_oddOnes_8 (by decide) (fun hc => ?_) (fun hc => ?_)
  · have hw := hw1 hc
    clear hw1 hw2
    refine lv_aload_n hx hb dc_X_oddOnes_13 rfl (lv_at hl 0 rfl) ?_
    refine va_get (D := (dC, dI)) (ci := 1) (v := .ref qO) (C := "FourWords") (T := tb_X) (N := 6) hx hb hts (hu _ um_X) hown hK hP 0 rfl rfl 0 (by decide) (hq mw_t40) (fun _ h9 => h9) rfl dc_X_oddOnes_14 ?_
    refine lv_iload_n hx hb dc_X_oddOnes_17 rfl (lv_at hl 1 rfl) ?_
    obtain ⟨hin, hw⟩ := hw
    refine va_lald hx hb hK hP 1 0 rfl rfl hin dc_X_oddOnes_18 ?_
    refine gc_i (S := Unit) (w1 := (fun u => ([] : va_W))) (wc := ([] : va_W)) (wr := ([(h0, .inr (1, [.ref qO, .ref qU, .ref qW, .ref qG, .ref qN, .int size])), (qO, .inl (cJ, 64, .inr (.inl fO))), (qU, .inl (cJ, 64, .inr (.inl fU))), (qW, .inl (cI, 64, .inl fW)), (qG, .inl (cZ, 64, .inl fG)), (qN, .inr (0, [.ref qL, .int len])), (qL, .inl (cB, 64, .inl fL))] : va_W)) (va_runS (As := [.long (fO a1.toNatClampNeg)]) (rest := []) ⟨hx, hb, hml, hown, hts⟩ (kt_J_bitCount l dC dI cJ cI cZ cB _ (fO a1.toNatClampNeg) _ hw) ⟨callB_of 1 hts (gw_in mw_t308) rfl rfl rfl (hq mw_t11) (hq mw_t306) (by decide +kernel) ⟨Nat.le_of_ble_eq_true rfl, Nat.le_of_ble_eq_true rfl⟩, hq mw_t307⟩ (ps_W (hP.sub (ws' := ([] : va_W)) [] rfl) hK (hD.sub (ws' := ([] : va_W)) [] (by decide) rfl) hE) rfl rfl hl.1 rfl (lv_room (Nat.le_of_ble_eq_true rfl)) dc_X_oddOnes_19 ⟨Nat.le_of_ble_eq_true rfl, Nat.le_of_ble_eq_true rfl⟩) hP hD hS hA [] [0, 1, 2, 3, 4, 5, 6] rfl rfl (by decide) (by decide) (fun r19 u H locs hw hP hD hS => ?_)
    have hP : va_P (dC, dI) cs_3 (wd_X h0 qO qU qW qG qN qL cJ cI cZ cB fO fU fW fG fL len size) H := hP.sub (ws' := (wd_X h0 qO qU qW qG qN qL cJ cI cZ cB fO fU fW fG fL len size)) [0, 1, 2, 3, 4, 5, 6] rfl
    have hD : va_D A (wd_X h0 qO qU qW qG qN qL cJ cI cZ cB fO fU fW fG fL len size) := hD.sub (ws' := (wd_X h0 qO qU qW qG qN qL cJ cI cZ cB fO fU fW fG fL len size)) [0, 1, 2, 3, 4, 5, 6] (by decide) rfl
    try dsimp only at hw
    refine lv_iconst (v := 2) hx hb dc_X_oddOnes_22 (by decide) ?_
    obtain ⟨hne, hw⟩ := hw
    refine lv_irem hx hb dc_X_oddOnes_23 hne ?_
    refine lv_iconst (v := 1) hx hb dc_X_oddOnes_24 (by decide) ?_
    obtain ⟨hw1, hw2⟩ := hw
    refine lv_icmp_ne (tgt := 32) hx hb dc_X_oddOnes_25 (by decide) (fun hc => ?_) (fun hc => ?_)
    · have hw := hw1 hc
      clear hw1 hw2
      refine lv_iconst (v := 0) hx hb dc_X_oddOnes_32 (by decide) ?_
      exact B_33 _ _ _ (0 : Int32) fO fU fW fG fL len size hw hP hD hS (lv_sub hl [] rfl)
    · have hw := hw2 (fun h9 => h9 hc)
      clear hw1 hw2
      refine lv_iconst (v := 1) hx hb dc_X_oddOnes_28 (by decide) ?_
      refine lv_goto (tgt := 33) hx hb dc_X_oddOnes_29 (by decide) ?_
      exact B_33 _ _ _ (1 : Int32) fO fU fW fG fL len size hw hP hD hS (lv_sub hl [] rfl)
  · have hw := hw2 hc
    clear hw1 hw2
    refine lv_iconst (v := 2) hx hb dc_X_oddOnes_11 (by decide) ?_
    exact W.iret (v := (2 : Int32)) hx hb hr (fun t ht hW => ⟨⟨(2 : Int32), (fO, fU, fW, fG, fL, len, size), rfl, hw, by rw [ht]; exact hP, va_K.moved hW.alike hK, hD⟩, hS.F ht⟩) hS.2.2 dc_X_oddOnes_12

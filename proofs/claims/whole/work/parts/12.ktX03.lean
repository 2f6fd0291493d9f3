set_option maxHeartbeats 4000000 in
set_option maxRecDepth 100000 in
theorem kt_X_compared (l : Launch) (dC : Nat → ClassId) (dI : Nat → Nat → Nat) (cJ cI cZ cB : ClassId) (h0 qO qU qW qG qN qL : Nat) (sz : Nat) (a1 : Int32) (a2 : Int32) (a3 : Int32) (fO : (Nat → Int64)) (fU : (Nat → Int64)) (fW : (Nat → Int32)) (fG : (Nat → Int32)) (fL : (Nat → Int32)) (len : Int32) (size : Int32) (post : Int32 → (Nat → Int64) → (Nat → Int64) → (Nat → Int32) → (Nat → Int32) → (Nat → Int32) → Int32 → Int32 → Prop) (hw : wp_X_compared post a1 a2 a3 fO fU fW fG fL len size) : Met l yn_X_compared ws_X_compared rm_X_compared (va_Pc [.ref h0, .int a1, .int a2, .int a3] (pc_W (dC, dI) (ty_4 cJ cI cZ cB) (wd_X h0 qO qU qW qG qN qL cJ cI cZ cB fO fU fW fG fL len size) sz)) (qi_X dC dI cJ cI cZ cB h0 qO qU qW qG qN qL post (va_A (wd_X h0 qO qU qW qG qN qL cJ cI cZ cB fO fU fW fG fL len size) sz)) 0 0 (va_A (wd_X h0 qO qU qW qG qN qL cJ cI cZ cB fO fU fW fG fL len size) sz) := by
  refine Met.ofW (cc := cd_X_compared) (maxL := 4) (ret := (some .int)) (by decide) rfl ?_
  intro p e s m args below meth c s₁ B hml hv
  obtain ⟨rfl, hsz, hP, hK, hD0, hE⟩ := hv
  have hx := B.exec
  have hb := B.bytes
  have hr := B.returns
  have hts := atoms_spec (ws := ws_X_compared) B.pre
  have hq : ∀ {w : Cond}, w ∈ wg_all → w.before ([.ref h0, .int a1, .int a2, .int a3] : List Value).toArray s = true := fun h => hts _ (List.mem_cons_of_mem _ h)
  have hu : ∀ L : List Cond, (∀ w ∈ L, w ∈ wg_all) → ∀ w ∈ L, w ∈ ws_X_compared := fun L h w hw => List.mem_cons_of_mem _ (h w hw)
  have hown : s.vm.findClass "FourWords" = some m.cls := findClass_of_methodNamed B.named
  have hlocks := B.notSynchronized
  subst hsz
  have hD := hD0.self (sz := s.heap.size)
  generalize hAe : va_A (wd_X h0 qO qU qW qG qN qL cJ cI cZ cB fO fU fW fG fL len size) s.heap.size = A at hD ⊢
  have hA : ∀ q : Nat, s.heap.size ≤ q → A q := fun q h => by rw [← hAe]; exact Or.inr h
  have hS : va_S A s.heap s.heap [] := va_S.rf
  have hl := lv_entry [.ref h0, .int a1, .int a2, .int a3] (n := 4) (Nat.le_of_ble_eq_true rfl)
  rw [lg_entry_eq]
  generalize (lg_sl [.ref h0, .int a1, .int a2, .int a3] ++ List.replicate (4 - (lg_sl [.ref h0, .int a1, .int a2, .int a3]).length) Slot.unset).toArray = ls at hl ⊢
  have hl : lv_has ls 4 [(0, .ref h0), (1, .int a1), (2, .int a2), (3, .int a3)] := hl
  unfold wp_X_compared at hw
  refine lv_iload_n hx hb dc_X_compared_0 rfl (lv_at hl 1 rfl) ?_
  obtain ⟨hs0, hs1, hs2, hs3, hs4, hs5, hs6, hs7, hs8, hs9⟩ := hw
  by_cases hc : a1.toInt < 9 ∨ 17 < a1.toInt
  · have hw := hs0 hc
    refine lv_tableOut (tgt := 134) hx hb dc_X_compared_1 hc (by decide) ?_
    refine lv_aload_n hx hb dc_X_compared_134 rfl (lv_at hl 0 rfl) ?_
    refine lv_iload_n hx hb dc_X_compared_135 rfl (lv_at hl 2 rfl) ?_
    refine gc_i (S := (Nat → Int64) × (Nat → Int64) × (Nat → Int32) × (Nat → Int32) × (Nat → Int32) × Int32 × Int32) (w1 := (fun u => (wd_X h0 qO qU qW qG qN qL cJ cI cZ cB u.1 u.2.1 u.2.2.1 u.2.2.2.1 u.2.2.2.2.1 u.2.2.2.2.2.1 u.2.2.2.2.2.2))) (wc := (wd_X h0 qO qU qW qG qN qL cJ cI cZ cB fO fU fW fG fL len size)) (wr := ([] : va_W)) (va_runV (As := [.int a2]) (rest := []) ⟨hx, hb, hml, hown, hts⟩ (kt_X_anyOne l dC dI cJ cI cZ cB h0 qO qU qW qG qN qL _ a2 fO fU fW fG fL len size _ hw) ⟨callB_of 1 hts (gw_in mw_t259) rfl rfl rfl (hq mw_t1) (hq mw_t256) (by decide +kernel) ⟨Nat.le_of_ble_eq_true rfl, Nat.le_of_ble_eq_true rfl⟩, hq mw_t258, hq mw_s18⟩ (pv_W (va_recv (q0 := 0) (ci := 1) hK hP rfl rfl) (hP.sub (ws' := (wd_X h0 qO qU qW qG qN qL cJ cI cZ cB fO fU fW fG fL len size)) [0, 1, 2, 3, 4, 5, 6] rfl) hK (hD.sub (ws' := (wd_X h0 qO qU qW qG qN qL cJ cI cZ cB fO fU fW fG fL len size)) [0, 1, 2, 3, 4, 5, 6] (by decide) rfl) hE) rfl rfl hl.1 rfl (lv_room (Nat.le_of_ble_eq_true rfl)) dc_X_compared_136 ⟨Nat.le_of_ble_eq_true rfl, Nat.le_of_ble_eq_true rfl⟩) hP hD hS hA [0, 1, 2, 3, 4, 5, 6] [] rfl rfl (by decide) (by decide) (fun r136 u H locs hw hP hD hS => ?_)
    obtain ⟨fO136, fU136, fW136, fG136, fL136, len136, size136⟩ := u
    have hP : va_P (dC, dI) cs_3 (wd_X h0 qO qU qW qG qN qL cJ cI cZ cB fO136 fU136 fW136 fG136 fL136 len136 size136) H := hP.sub (ws' := (wd_X h0 qO qU qW qG qN qL cJ cI cZ cB fO136 fU136 fW136 fG136 fL136 len136 size136)) [0, 1, 2, 3, 4, 5, 6] rfl
    have hD : va_D A (wd_X h0 qO qU qW qG qN qL cJ cI cZ cB fO136 fU136 fW136 fG136 fL136 len136 size136) := hD.sub (ws' := (wd_X h0 qO qU qW qG qN qL cJ cI cZ cB fO136 fU136 fW136 fG136 fL136 len136 size136)) [0, 1, 2, 3, 4, 5, 6] (by decide) rfl
    try dsimp only at hw
    refine gc_i (S := Unit) (w1 := (fun u => ([] : va_W))) (wc := ([] : va_W)) (wr := ([(h0, .inr (1, [.ref qO, .ref qU, .ref qW, .ref qG, .ref qN, .int size136])), (qO, .inl (cJ, 64, .inr (.inl fO136))), (qU, .inl (cJ, 64, .inr (.inl fU136))), (qW, .inl (cI, 64, .inl fW136)), (qG, .inl (cZ, 64, .inl fG136)), (qN, .inr (0, [.ref qL, .int len136])), (qL, .inl (cB, 64, .inl fL136))] : va_W)) (va_runS (As := [.int r136]) (rest := []) ⟨hx, hb, hml, hown, hts⟩ (kt_X_opposite l dC dI cJ cI cZ cB _ r136 _ hw) ⟨callB_of 1 hts (gw_in mw_t246) rfl rfl rfl (hq mw_t1) (hq mw_t244) (by decide +kernel) ⟨Nat.le_of_ble_eq_true rfl, Nat.le_of_ble_eq_true rfl⟩, hq mw_t245⟩ (ps_W (hP.sub (ws' := ([] : va_W)) [] rfl) hK (hD.sub (ws' := ([] : va_W)) [] (by decide) rfl) hE) rfl rfl hl.1 rfl (lv_room (Nat.le_of_ble_eq_true rfl)) dc_X_compared_139 ⟨Nat.le_of_ble_eq_true rfl, Nat.le_of_ble_eq_true rfl⟩) hP hD hS hA [] [0, 1, 2, 3, 4, 5, 6] rfl rfl (by decide) (by decide) (fun r139 u H locs hw hP hD hS => ?_)
    have hP : va_P (dC, dI) cs_3 (wd_X h0 qO qU qW qG qN qL cJ cI cZ cB fO136 fU136 fW136 fG136 fL136 len136 size136) H := hP.sub (ws' := (wd_X h0 qO qU qW qG qN qL cJ cI cZ cB fO136 fU136 fW136 fG136 fL136 len136 size136)) [0, 1, 2, 3, 4, 5, 6] rfl
    have hD : va_D A (wd_X h0 qO qU qW qG qN qL cJ cI cZ cB fO136 fU136 fW136 fG136 fL136 len136 size136) := hD.sub (ws' := (wd_X h0 qO qU qW qG qN qL cJ cI cZ cB fO136 fU136 fW136 fG136 fL136 len136 size136)) [0, 1, 2, 3, 4, 5, 6] (by decide) rfl
    try dsimp only at hw
    refine lv_aload_n hx hb dc_X_compared_142 rfl (lv_at hl 0 rfl) ?_
    refine lv_iload_n hx hb dc_X_compared_143 rfl (lv_at hl 3 rfl) ?_
    refine gc_i (S := (Nat → Int64) × (Nat → Int64) × (Nat → Int32) × (Nat → Int32) × (Nat → Int32) × Int32 × Int32) (w1 := (fun u => (wd_X h0 qO qU qW qG qN qL cJ cI cZ cB u.1 u.2.1 u.2.2.1 u.2.2.2.1 u.2.2.2.2.1 u.2.2.2.2.2.1 u.2.2.2.2.2.2))) (wc := (wd_X h0 qO qU qW qG qN qL cJ cI cZ cB fO136 fU136 fW136 fG136 fL136 len136 size136)) (wr := ([] : va_W)) (va_runV (As := [.int a3]) (rest := [.int r139]) ⟨hx, hb, hml, hown, hts⟩ (kt_X_anyOne l dC dI cJ cI cZ cB h0 qO qU qW qG qN qL _ a3 fO136 fU136 fW136 fG136 fL136 len136 size136 _ hw) ⟨callB_of 1 hts (gw_in mw_t259) rfl rfl rfl (hq mw_t1) (hq mw_t256) (by decide +kernel) ⟨Nat.le_of_ble_eq_true rfl, Nat.le_of_ble_eq_true rfl⟩, hq mw_t258, hq mw_s18⟩ (pv_W (va_recv (q0 := 0) (ci := 1) hK hP rfl rfl) (hP.sub (ws' := (wd_X h0 qO qU qW qG qN qL cJ cI cZ cB fO136 fU136 fW136 fG136 fL136 len136 size136)) [0, 1, 2, 3, 4, 5, 6] rfl) hK (hD.sub (ws' := (wd_X h0 qO qU qW qG qN qL cJ cI cZ cB fO136 fU136 fW136 fG136 fL136 len136 size136)) [0, 1, 2, 3, 4, 5, 6] (by decide) rfl) hE) rfl rfl hl.1 rfl (lv_room (Nat.le_of_ble_eq_true rfl)) dc_X_compared_144 ⟨Nat.le_of_ble_eq_true rfl, Nat.le_of_ble_eq_true rfl⟩) hP hD hS hA [0, 1, 2, 3, 4, 5, 6] [] rfl rfl (by decide) (by decide) (fun r144 u H locs hw hP hD hS => ?_)
    obtain ⟨fO144, fU144, fW144, fG144, fL144, len144, size144⟩ := u
    have hP : va_P (dC, dI) cs_3 (wd_X h0 qO qU qW qG qN qL cJ cI cZ cB fO144 fU144 fW144 fG144 fL144 len144 size144) H := hP.sub (ws' := (wd_X h0 qO qU qW qG qN qL cJ cI cZ cB fO144 fU144 fW144 fG144 fL144 len144 size144)) [0, 1, 2, 3, 4, 5, 6] rfl
    have hD : va_D A (wd_X h0 qO qU qW qG qN qL cJ cI cZ cB fO144 fU144 fW144 fG144 fL144 len144 size144) := hD.sub (ws' := (wd_X h0 qO qU qW qG qN qL cJ cI cZ cB fO144 fU144 fW144 fG144 fL144 len144 size144)) [0, 1, 2, 3, 4, 5, 6] (by decide) rfl
    try dsimp only at hw
    refine gc_i (S := Unit) (w1 := (fun u => ([] : va_W))) (wc := ([] : va_W)) (wr := ([(h0, .inr (1, [.ref qO, .ref qU, .ref qW, .ref qG, .ref qN, .int size144])), (qO, .inl (cJ, 64, .inr (.inl fO144))), (qU, .inl (cJ, 64, .inr (.inl fU144))), (qW, .inl (cI, 64, .inl fW144)), (qG, .inl (cZ, 64, .inl fG144)), (qN, .inr (0, [.ref qL, .int len144])), (qL, .inl (cB, 64, .inl fL144))] : va_W)) (va_runS (As := [.int r144]) (rest := [.int r139]) ⟨hx, hb, hml, hown, hts⟩ (kt_X_opposite l dC dI cJ cI cZ cB _ r144 _ hw) ⟨callB_of 1 hts (gw_in mw_t246) rfl rfl rfl (hq mw_t1) (hq mw_t244) (by decide +kernel) ⟨Nat.le_of_ble_eq_true rfl, Nat.le_of_ble_eq_true rfl⟩, hq mw_t245⟩ (ps_W (hP.sub (ws' := ([] : va_W)) [] rfl) hK (hD.sub (ws' := ([] : va_W)) [] (by decide) rfl) hE) rfl rfl hl.1 rfl (lv_room (Nat.le_of_ble_eq_true rfl)) dc_X_compared_147 ⟨Nat.le_of_ble_eq_true rfl, Nat.le_of_ble_eq_true rfl⟩) hP hD hS hA [] [0, 1, 2, 3, 4, 5, 6] rfl rfl (by decide) (by decide) (fun r147 u H locs hw hP hD hS => ?_)
    have hP : va_P (dC, dI) cs_3 (wd_X h0 qO qU qW qG qN qL cJ cI cZ cB fO144 fU144 fW144 fG144 fL144 len144 size144) H := hP.sub (ws' := (wd_X h0 qO qU qW qG qN qL cJ cI cZ cB fO144 fU144 fW144 fG144 fL144 len144 size144)) [0, 1, 2, 3, 4, 5, 6] rfl
    have hD : va_D A (wd_X h0 qO qU qW qG qN qL cJ cI cZ cB fO144 fU144 fW144 fG144 fL144 len144 size144) := hD.sub (ws' := (wd_X h0 qO qU qW qG qN qL cJ cI cZ cB fO144 fU144 fW144 fG144 fL144 len144 size144)) [0, 1, 2, 3, 4, 5, 6] (by decide) rfl
    try dsimp only at hw
    refine gc_i (S := Unit) (w1 := (fun u => ([] : va_W))) (wc := ([] : va_W)) (wr := ([(h0, .inr (1, [.ref qO, .ref qU, .ref qW, .ref qG, .ref qN, .int size144])), (qO, .inl (cJ, 64, .inr (.inl fO144))), (qU, .inl (cJ, 64, .inr (.inl fU144))), (qW, .inl (cI, 64, .inl fW144)), (qG, .inl (cZ, 64, .inl fG144)), (qN, .inr (0, [.ref qL, .int len144])), (qL, .inl (cB, 64, .inl fL144))] : va_W)) (va_runS (As := [.int r139, .int r147]) (rest := []) ⟨hx, hb, hml, hown, hts⟩ (kt_X_bothTrue l dC dI cJ cI cZ cB _ r139 r147 _ hw) ⟨callB_of 2 hts (gw_in mw_t262) rfl rfl rfl (hq mw_t1) (hq mw_t260) (by decide +kernel) ⟨Nat.le_of_ble_eq_true rfl, Nat.le_of_ble_eq_true rfl⟩, hq mw_t261⟩ (ps_W (hP.sub (ws' := ([] : va_W)) [] rfl) hK (hD.sub (ws' := ([] : va_W)) [] (by decide) rfl) hE) rfl rfl hl.1 rfl (lv_room (Nat.le_of_ble_eq_true rfl)) dc_X_compared_150 ⟨Nat.le_of_ble_eq_true rfl, Nat.le_of_ble_eq_true rfl⟩) hP hD hS hA [] [0, 1, 2, 3, 4, 5, 6] rfl rfl (by decide) (by decide) (fun r150 u H locs hw hP hD hS => ?_)
    have hP : va_P (dC, dI) cs_3 (wd_X h0 qO qU qW qG qN qL cJ cI cZ cB fO144 fU144 fW144 fG144 fL144 len144 size144) H := hP.sub (ws' := (wd_X h0 qO qU qW qG qN qL cJ cI cZ cB fO144 fU144 fW144 fG144 fL144 len144 size144)) [0, 1, 2, 3, 4, 5, 6] rfl
    have hD : va_D A (wd_X h0 qO qU qW qG qN qL cJ cI cZ cB fO144 fU144 fW144 fG144 fL144 len144 size144) := hD.sub (ws' := (wd_X h0 qO qU qW qG qN qL cJ cI cZ cB fO144 fU144 fW144 fG144 fL144 len144 size144)) [0, 1, 2, 3, 4, 5, 6] (by decide) rfl
    try dsimp only at hw
    refine gc_i (S := Unit) (w1 := (fun u => ([] : va_W))) (wc := ([] : va_W)) (wr := ([(h0, .inr (1, [.ref qO, .ref qU, .ref qW, .ref qG, .ref qN, .int size144])), (qO, .inl (cJ, 64, .inr (.inl fO144))), (qU, .inl (cJ, 64, .inr (.inl fU144))), (qW, .inl (cI, 64, .inl fW144)), (qG, .inl (cZ, 64, .inl fG144)), (qN, .inr (0, [.ref qL, .int len144])), (qL, .inl (cB, 64, .inl fL144))] : va_W)) (va_runS (As := [.int r150]) (rest := []) ⟨hx, hb, hml, hown, hts⟩ (kt_X_opposite l dC dI cJ cI cZ cB _ r150 _ hw) ⟨callB_of 1 hts (gw_in mw_t246) rfl rfl rfl (hq mw_t1) (hq mw_t244) (by decide +kernel) ⟨Nat.le_of_ble_eq_true rfl, Nat.le_of_ble_eq_true rfl⟩, hq mw_t245⟩ (ps_W (hP.sub (ws' := ([] : va_W)) [] rfl) hK (hD.sub (ws' := ([] : va_W)) [] (by decide) rfl) hE) rfl rfl hl.1 rfl (lv_room (Nat.le_of_ble_eq_true rfl)) dc_X_compared_153 ⟨Nat.le_of_ble_eq_true rfl, Nat.le_of_ble_eq_true rfl⟩) hP hD hS hA [] [0, 1, 2, 3, 4, 5, 6] rfl rfl (by decide) (by decide) (fun r153 u H locs hw hP hD hS => ?_)
    have hP : va_P (dC, dI) cs_3 (wd_X h0 qO qU qW qG qN qL cJ cI cZ cB fO144 fU144 fW144 fG144 fL144 len144 size144) H := hP.sub (ws' := (wd_X h0 qO qU qW qG qN qL cJ cI cZ cB fO144 fU144 fW144 fG144 fL144 len144 size144)) [0, 1, 2, 3, 4, 5, 6] rfl
    have hD : va_D A (wd_X h0 qO qU qW qG qN qL cJ cI cZ cB fO144 fU144 fW144 fG144 fL144 len144 size144) := hD.sub (ws' := (wd_X h0 qO qU qW qG qN qL cJ cI cZ cB fO144 fU144 fW144 fG144 fL144 len144 size144)) [0, 1, 2, 3, 4, 5, 6] (by decide) rfl
    try dsimp only at hw
    exact W.iret (v := r153) hx hb hr (fun t ht hW => ⟨⟨r153, (fO144, fU144, fW144, fG144, fL144, len144, size144), rfl, hw, by rw [ht]; exact hP, va_K.moved hW.alike hK, hD⟩, hS.F ht⟩) hS.2.2 dc_X_compared_156
  by_cases hk9 : a1.toInt = 9
  · have hw := hs1 hk9
    refine lv_tableIn (tgt := 52) (off := 51) hx hb dc_X_compared_1 (by rw [hk9]; decide) (by rw [hk9]; decide) (by rw [hk9]; rfl) (by decide) ?_
    refine lv_aload_n hx hb dc_X_compared_52 rfl (lv_at hl 0 rfl) ?_
    refine lv_iload_n hx hb dc_X_compared_53 rfl (lv_at hl 2 rfl) ?_
    refine lv_iload_n hx hb dc_X_compared_54 rfl (lv_at hl 3 rfl) ?_
    refine gc_i (S := (Nat → Int64) × (Nat → Int64) × (Nat → Int32) × (Nat → Int32) × (Nat → Int32) × Int32 × Int32) (w1 := (fun u => (wd_X h0 qO qU qW qG qN qL cJ cI cZ cB u.1 u.2.1 u.2.2.1 u.2.2.2.1 u.2.2.2.2.1 u.2.2.2.2.2.1 u.2.2.2.2.2.2))) (wc := (wd_X h0 qO qU qW qG qN qL cJ cI cZ cB fO fU fW fG fL len size)) (wr := ([] : va_W)) (va_runV (As := [.int a2, .int a3]) (rest := []) ⟨hx, hb, hml, hown, hts⟩ (kt_X_equal l dC dI cJ cI cZ cB h0 qO qU qW qG qN qL _ a2 a3 fO fU fW fG fL len size _ hw) ⟨callB_of 2 hts (gw_in mw_t243) rfl rfl rfl (hq mw_t1) (hq mw_t240) (by decide +kernel) ⟨Nat.le_of_ble_eq_true rfl, Nat.le_of_ble_eq_true rfl⟩, hq mw_t242, hq mw_s15⟩ (pv_W (va_recv (q0 := 0) (ci := 1) hK hP rfl rfl) (hP.sub (ws' := (wd_X h0 qO qU qW qG qN qL cJ cI cZ cB fO fU fW fG fL len size)) [0, 1, 2, 3, 4, 5, 6] rfl) hK (hD.sub (ws' := (wd_X h0 qO qU qW qG qN qL cJ cI cZ cB fO fU fW fG fL len size)) [0, 1, 2, 3, 4, 5, 6] (by decide) rfl) hE) rfl rfl hl.1 rfl (lv_room (Nat.le_of_ble_eq_true rfl)) dc_X_compared_55 ⟨Nat.le_of_ble_eq_true rfl, Nat.le_of_ble_eq_true rfl⟩) hP hD hS hA [0, 1, 2, 3, 4, 5, 6] [] rfl rfl (by decide) (by decide) (fun r55 u H locs hw hP hD hS => ?_)
    obtain ⟨fO55, fU55, fW55, fG55, fL55, len55, size55⟩ := u
    have hP : va_P (dC, dI) cs_3 (wd_X h0 qO qU qW qG qN qL cJ cI cZ cB fO55 fU55 fW55 fG55 fL55 len55 size55) H := hP.sub (ws' := (wd_X h0 qO qU qW qG qN qL cJ cI cZ cB fO55 fU55 fW55 fG55 fL55 len55 size55)) [0, 1, 2, 3, 4, 5, 6] rfl
    have hD : va_D A (wd_X h0 qO qU qW qG qN qL cJ cI cZ cB fO55 fU55 fW55 fG55 fL55 len55 size55) := hD.sub (ws' := (wd_X h0 qO qU qW qG qN qL cJ cI cZ cB fO55 fU55 fW55 fG55 fL55 len55 size55)) [0, 1, 2, 3, 4, 5, 6] (by decide) rfl
    try dsimp only at hw
    exact W.iret (v := r55) hx hb hr (fun t ht hW => ⟨⟨r55, (fO55, fU55, fW55, fG55, fL55, len55, size55), rfl, hw, by rw [ht]; exact hP, va_K.moved hW.alike hK, hD⟩, hS.F ht⟩) hS.2.2 dc_X_compared_58
  by_cases hk10 : a1.toInt = 10
  · have hw := hs2 hk10
    refine lv_tableIn (tgt := 59) (off := 58) hx hb dc_X_compared_1 (by rw [hk10]; decide) (by rw [hk10]; decide) (by rw [hk10]; rfl) (by decide) ?_
    refine lv_aload_n hx hb dc_X_compared_59 rfl (lv_at hl 0 rfl) ?_
    refine lv_iload_n hx hb dc_X_compared_60 rfl (lv_at hl 2 rfl) ?_
    refine lv_iload_n hx hb dc_X_compared_61 rfl (lv_at hl 3 rfl) ?_
    refine gc_i (S := (Nat → Int64) × (Nat → Int64) × (Nat → Int32) × (Nat → Int32) × (Nat → Int32) × Int32 × Int32) (w1 := (fun u => (wd_X h0 qO qU qW qG qN qL cJ cI cZ cB u.1 u.2.1 u.2.2.1 u.2.2.2.1 u.2.2.2.2.1 u.2.2.2.2.2.1 u.2.2.2.2.2.2))) (wc := (wd_X h0 qO qU qW qG qN qL cJ cI cZ cB fO fU fW fG fL len size)) (wr := ([] : va_W)) (va_runV (As := [.int a2, .int a3]) (rest := []) ⟨hx, hb, hml, hown, hts⟩ (kt_X_equal l dC dI cJ cI cZ cB h0 qO qU qW qG qN qL _ a2 a3 fO fU fW fG fL len size _ hw) ⟨callB_of 2 hts (gw_in mw_t243) rfl rfl rfl (hq mw_t1) (hq mw_t240) (by decide +kernel) ⟨Nat.le_of_ble_eq_true rfl, Nat.le_of_ble_eq_true rfl⟩, hq mw_t242, hq mw_s15⟩ (pv_W (va_recv (q0 := 0) (ci := 1) hK hP rfl rfl) (hP.sub (ws' := (wd_X h0 qO qU qW qG qN qL cJ cI cZ cB fO fU fW fG fL len size)) [0, 1, 2, 3, 4, 5, 6] rfl) hK (hD.sub (ws' := (wd_X h0 qO qU qW qG qN qL cJ cI cZ cB fO fU fW fG fL len size)) [0, 1, 2, 3, 4, 5, 6] (by decide) rfl) hE) rfl rfl hl.1 rfl (lv_room (Nat.le_of_ble_eq_true rfl)) dc_X_compared_62 ⟨Nat.le_of_ble_eq_true rfl, Nat.le_of_ble_eq_true rfl⟩) hP hD hS hA [0, 1, 2, 3, 4, 5, 6] [] rfl rfl (by decide) (by decide) (fun r62 u H locs hw hP hD hS => ?_)
    obtain ⟨fO62, fU62, fW62, fG62, fL62, len62, size62⟩ := u
    have hP : va_P (dC, dI) cs_3 (wd_X h0 qO qU qW qG qN qL cJ cI cZ cB fO62 fU62 fW62 fG62 fL62 len62 size62) H := hP.sub (ws' := (wd_X h0 qO qU qW qG qN qL cJ cI cZ cB fO62 fU62 fW62 fG62 fL62 len62 size62)) [0, 1, 2, 3, 4, 5, 6] rfl
    have hD : va_D A (wd_X h0 qO qU qW qG qN qL cJ cI cZ cB fO62 fU62 fW62 fG62 fL62 len62 size62) := hD.sub (ws' := (wd_X h0 qO qU qW qG qN qL cJ cI cZ cB fO62 fU62 fW62 fG62 fL62 len62 size62)) [0, 1, 2, 3, 4, 5, 6] (by decide) rfl
    try dsimp only at hw
    refine gc_i (S := Unit) (w1 := (fun u => ([] : va_W))) (wc := ([] : va_W)) (wr := ([(h0, .inr (1, [.ref qO, .ref qU, .ref qW, .ref qG, .ref qN, .int size62])), (qO, .inl (cJ, 64, .inr (.inl fO62))), (qU, .inl (cJ, 64, .inr (.inl fU62))), (qW, .inl (cI, 64, .inl fW62)), (qG, .inl (cZ, 64, .inl fG62)), (qN, .inr (0, [.ref qL, .int len62])), (qL, .inl (cB, 64, .inl fL62))] : va_W)) (va_runS (As := [.int r62]) (rest := []) ⟨hx, hb, hml, hown, hts⟩ (kt_X_opposite l dC dI cJ cI cZ cB _ r62 _ hw) ⟨callB_of 1 hts (gw_in mw_t246) rfl rfl rfl (hq mw_t1) (hq mw_t244) (by decide +kernel) ⟨Nat.le_of_ble_eq_true rfl, Nat.le_of_ble_eq_true rfl⟩, hq mw_t245⟩ (ps_W (hP.sub (ws' := ([] : va_W)) [] rfl) hK (hD.sub (ws' := ([] : va_W)) [] (by decide) rfl) hE) rfl rfl hl.1 rfl (lv_room (Nat.le_of_ble_eq_true rfl)) dc_X_compared_65 ⟨Nat.le_of_ble_eq_true rfl, Nat.le_of_ble_eq_true rfl⟩) hP hD hS hA [] [0, 1, 2, 3, 4, 5, 6] rfl rfl (by decide) (by decide) (fun r65 u H locs hw hP hD hS => ?_)
    have hP : va_P (dC, dI) cs_3 (wd_X h0 qO qU qW qG qN qL cJ cI cZ cB fO62 fU62 fW62 fG62 fL62 len62 size62) H := hP.sub (ws' := (wd_X h0 qO qU qW qG qN qL cJ cI cZ cB fO62 fU62 fW62 fG62 fL62 len62 size62)) [0, 1, 2, 3, 4, 5, 6] rfl
    have hD : va_D A (wd_X h0 qO qU qW qG qN qL cJ cI cZ cB fO62 fU62 fW62 fG62 fL62 len62 size62) := hD.sub (ws' := (wd_X h0 qO qU qW qG qN qL cJ cI cZ cB fO62 fU62 fW62 fG62 fL62 len62 size62)) [0, 1, 2, 3, 4, 5, 6] (by decide) rfl
    try dsimp only at hw
    exact W.iret (v := r65) hx hb hr (fun t ht hW => ⟨⟨r65, (fO62, fU62, fW62, fG62, fL62, len62, size62), rfl, hw, by rw [ht]; exact hP, va_K.moved hW.alike hK, hD⟩, hS.F ht⟩) hS.2.2 dc_X_compared_68
  by_cases hk11 : a1.toInt = 11
  · have hw := hs3 hk11
    refine lv_tableIn (tgt := 69) (off := 68) hx hb dc_X_compared_1 (by rw [hk11]; decide) (by rw [hk11]; decide) (by rw [hk11]; rfl) (by decide) ?_
    refine lv_aload_n hx hb dc_X_compared_69 rfl (lv_at hl 0 rfl) ?_
    refine lv_iload_n hx hb dc_X_compared_70 rfl (lv_at hl 2 rfl) ?_
    refine lv_iload_n hx hb dc_X_compared_71 rfl (lv_at hl 3 rfl) ?_
    refine gc_i (S := (Nat → Int64) × (Nat → Int64) × (Nat → Int32) × (Nat → Int32) × (Nat → Int32) × Int32 × Int32) (w1 := (fun u => (wd_X h0 qO qU qW qG qN qL cJ cI cZ cB u.1 u.2.1 u.2.2.1 u.2.2.2.1 u.2.2.2.2.1 u.2.2.2.2.2.1 u.2.2.2.2.2.2))) (wc := (wd_X h0 qO qU qW qG qN qL cJ cI cZ cB fO fU fW fG fL len size)) (wr := ([] : va_W)) (va_runV (As := [.int a2, .int a3]) (rest := []) ⟨hx, hb, hml, hown, hts⟩ (kt_X_identical l dC dI cJ cI cZ cB h0 qO qU qW qG qN qL _ a2 a3 fO fU fW fG fL len size _ hw) ⟨callB_of 2 hts (gw_in mw_t250) rfl rfl rfl (hq mw_t1) (hq mw_t247) (by decide +kernel) ⟨Nat.le_of_ble_eq_true rfl, Nat.le_of_ble_eq_true rfl⟩, hq mw_t249, hq mw_s16⟩ (pv_W (va_recv (q0 := 0) (ci := 1) hK hP rfl rfl) (hP.sub (ws' := (wd_X h0 qO qU qW qG qN qL cJ cI cZ cB fO fU fW fG fL len size)) [0, 1, 2, 3, 4, 5, 6] rfl) hK (hD.sub (ws' := (wd_X h0 qO qU qW qG qN qL cJ cI cZ cB fO fU fW fG fL len size)) [0, 1, 2, 3, 4, 5, 6] (by decide) rfl) hE) rfl rfl hl.1 rfl (lv_room (Nat.le_of_ble_eq_true rfl)) dc_X_compared_72 ⟨Nat.le_of_ble_eq_true rfl, Nat.le_of_ble_eq_true rfl⟩) hP hD hS hA [0, 1, 2, 3, 4, 5, 6] [] rfl rfl (by decide) (by decide) (fun r72 u H locs hw hP hD hS => ?_)
    obtain ⟨fO72, fU72, fW72, fG72, fL72, len72, size72⟩ := u
    have hP : va_P (dC, dI) cs_3 (wd_X h0 qO qU qW qG qN qL cJ cI cZ cB fO72 fU72 fW72 fG72 fL72 len72 size72) H := hP.sub (ws' := (wd_X h0 qO qU qW qG qN qL cJ cI cZ cB fO72 fU72 fW72 fG72 fL72 len72 size72)) [0, 1, 2, 3, 4, 5, 6] rfl
    have hD : va_D A (wd_X h0 qO qU qW qG qN qL cJ cI cZ cB fO72 fU72 fW72 fG72 fL72 len72 size72) := hD.sub (ws' := (wd_X h0 qO qU qW qG qN qL cJ cI cZ cB fO72 fU72 fW72 fG72 fL72 len72 size72)) [0, 1, 2, 3, 4, 5, 6] (by decide) rfl
    try dsimp only at hw
    exact W.iret (v := r72) hx hb hr (fun t ht hW => ⟨⟨r72, (fO72, fU72, fW72, fG72, fL72, len72, size72), rfl, hw, by rw [ht]; exact hP, va_K.moved hW.alike hK, hD⟩, hS.F ht⟩) hS.2.2 dc_X_compared_75
  by_cases hk12 : a1.toInt = 12
  · have hw := hs4 hk12
    refine lv_tableIn (tgt := 76) (off := 75) hx hb dc_X_compared_1 (by rw [hk12]; decide) (by rw [hk12]; decide) (by rw [hk12]; rfl) (by decide) ?_
    refine lv_aload_n hx hb dc_X_compared_76 rfl (lv_at hl 0 rfl) ?_
    refine lv_iload_n hx hb dc_X_compared_77 rfl (lv_at hl 2 rfl) ?_
    refine lv_iload_n hx hb dc_X_compared_78 rfl (lv_at hl 3 rfl) ?_
    refine gc_i (S := (Nat → Int64) × (Nat → Int64) × (Nat → Int32) × (Nat → Int32) × (Nat → Int32) × Int32 × Int32) (w1 := (fun u => (wd_X h0 qO qU qW qG qN qL cJ cI cZ cB u.1 u.2.1 u.2.2.1 u.2.2.2.1 u.2.2.2.2.1 u.2.2.2.2.2.1 u.2.2.2.2.2.2))) (wc := (wd_X h0 qO qU qW qG qN qL cJ cI cZ cB fO fU fW fG fL len size)) (wr := ([] : va_W)) (va_runV (As := [.int a2, .int a3]) (rest := []) ⟨hx, hb, hml, hown, hts⟩ (kt_X_identical l dC dI cJ cI cZ cB h0 qO qU qW qG qN qL _ a2 a3 fO fU fW fG fL len size _ hw) ⟨callB_of 2 hts (gw_in mw_t250) rfl rfl rfl (hq mw_t1) (hq mw_t247) (by decide +kernel) ⟨Nat.le_of_ble_eq_true rfl, Nat.le_of_ble_eq_true rfl⟩, hq mw_t249, hq mw_s16⟩ (pv_W (va_recv (q0 := 0) (ci := 1) hK hP rfl rfl) (hP.sub (ws' := (wd_X h0 qO qU qW qG qN qL cJ cI cZ cB fO fU fW fG fL len size)) [0, 1, 2, 3, 4, 5, 6] rfl) hK (hD.sub (ws' := (wd_X h0 qO qU qW qG qN qL cJ cI cZ cB fO fU fW fG fL len size)) [0, 1, 2, 3, 4, 5, 6] (by decide) rfl) hE) rfl rfl hl.1 rfl (lv_room (Nat.le_of_ble_eq_true rfl)) dc_X_compared_79 ⟨Nat.le_of_ble_eq_true rfl, Nat.le_of_ble_eq_true rfl⟩) hP hD hS hA [0, 1, 2, 3, 4, 5, 6] [] rfl rfl (by decide) (by decide) (fun r79 u H locs hw hP hD hS => ?_)
    obtain ⟨fO79, fU79, fW79, fG79, fL79, len79, size79⟩ := u
    have hP : va_P (dC, dI) cs_3 (wd_X h0 qO qU qW qG qN qL cJ cI cZ cB fO79 fU79 fW79 fG79 fL79 len79 size79) H := hP.sub (ws' := (wd_X h0 qO qU qW qG qN qL cJ cI cZ cB fO79 fU79 fW79 fG79 fL79 len79 size79)) [0, 1, 2, 3, 4, 5, 6] rfl
    have hD : va_D A (wd_X h0 qO qU qW qG qN qL cJ cI cZ cB fO79 fU79 fW79 fG79 fL79 len79 size79) := hD.sub (ws' := (wd_X h0 qO qU qW qG qN qL cJ cI cZ cB fO79 fU79 fW79 fG79 fL79 len79 size79)) [0, 1, 2, 3, 4, 5, 6] (by decide) rfl
    try dsimp only at hw
    refine gc_i (S := Unit) (w1 := (fun u => ([] : va_W))) (wc := ([] : va_W)) (wr := ([(h0, .inr (1, [.ref qO, .ref qU, .ref qW, .ref qG, .ref qN, .int size79])), (qO, .inl (cJ, 64, .inr (.inl fO79))), (qU, .inl (cJ, 64, .inr (.inl fU79))), (qW, .inl (cI, 64, .inl fW79)), (qG, .inl (cZ, 64, .inl fG79)), (qN, .inr (0, [.ref qL, .int len79])), (qL, .inl (cB, 64, .inl fL79))] : va_W)) (va_runS (As := [.int r79]) (rest := []) ⟨hx, hb, hml, hown, hts⟩ (kt_X_opposite l dC dI cJ cI cZ cB _ r79 _ hw) ⟨callB_of 1 hts (gw_in mw_t246) rfl rfl rfl (hq mw_t1) (hq mw_t244) (by decide +kernel) ⟨Nat.le_of_ble_eq_true rfl, Nat.le_of_ble_eq_true rfl⟩, hq mw_t245⟩ (ps_W (hP.sub (ws' := ([] : va_W)) [] rfl) hK (hD.sub (ws' := ([] : va_W)) [] (by decide) rfl) hE) rfl rfl hl.1 rfl (lv_room (Nat.le_of_ble_eq_true rfl)) dc_X_compared_82 ⟨Nat.le_of_ble_eq_true rfl, Nat.le_of_ble_eq_true rfl⟩) hP hD hS hA [] [0, 1, 2, 3, 4, 5, 6] rfl rfl (by decide) (by decide) (fun r82 u H locs hw hP hD hS => ?_)
    have hP : va_P (dC, dI) cs_3 (wd_X h0 qO qU qW qG qN qL cJ cI cZ cB fO79 fU79 fW79 fG79 fL79 len79 size79) H := hP.sub (ws' := (wd_X h0 qO qU qW qG qN qL cJ cI cZ cB fO79 fU79 fW79 fG79 fL79 len79 size79)) [0, 1, 2, 3, 4, 5, 6] rfl
    have hD : va_D A (wd_X h0 qO qU qW qG qN qL cJ cI cZ cB fO79 fU79 fW79 fG79 fL79 len79 size79) := hD.sub (ws' := (wd_X h0 qO qU qW qG qN qL cJ cI cZ cB fO79 fU79 fW79 fG79 fL79 len79 size79)) [0, 1, 2, 3, 4, 5, 6] (by decide) rfl
    try dsimp only at hw
    exact W.iret (v := r82) hx hb hr (fun t ht hW => ⟨⟨r82, (fO79, fU79, fW79, fG79, fL79, len79, size79), rfl, hw, by rw [ht]; exact hP, va_K.moved hW.alike hK, hD⟩, hS.F ht⟩) hS.2.2 dc_X_compared_85
  by_cases hk13 : a1.toInt = 13
  · have hw := hs5 hk13
    refine lv_tableIn (tgt := 86) (off := 85) hx hb dc_X_compared_1 (by rw [hk13]; decide) (by rw [hk13]; decide) (by rw [hk13]; rfl) (by decide) ?_
    refine lv_aload_n hx hb dc_X_compared_86 rfl (lv_at hl 0 rfl) ?_
    refine lv_iload_n hx hb dc_X_compared_87 rfl (lv_at hl 2 rfl) ?_
    refine lv_iload_n hx hb dc_X_compared_88 rfl (lv_at hl 3 rfl) ?_
    refine gc_i (S := (Nat → Int64) × (Nat → Int64) × (Nat → Int32) × (Nat → Int32) × (Nat → Int32) × Int32 × Int32) (w1 := (fun u => (wd_X h0 qO qU qW qG qN qL cJ cI cZ cB u.1 u.2.1 u.2.2.1 u.2.2.2.1 u.2.2.2.2.1 u.2.2.2.2.2.1 u.2.2.2.2.2.2))) (wc := (wd_X h0 qO qU qW qG qN qL cJ cI cZ cB fO fU fW fG fL len size)) (wr := ([] : va_W)) (va_runV (As := [.int a2, .int a3]) (rest := []) ⟨hx, hb, hml, hown, hts⟩ (kt_X_less l dC dI cJ cI cZ cB h0 qO qU qW qG qN qL _ a2 a3 fO fU fW fG fL len size _ hw) ⟨callB_of 2 hts (gw_in mw_t254) rfl rfl rfl (hq mw_t1) (hq mw_t251) (by decide +kernel) ⟨Nat.le_of_ble_eq_true rfl, Nat.le_of_ble_eq_true rfl⟩, hq mw_t253, hq mw_s17⟩ (pv_W (va_recv (q0 := 0) (ci := 1) hK hP rfl rfl) (hP.sub (ws' := (wd_X h0 qO qU qW qG qN qL cJ cI cZ cB fO fU fW fG fL len size)) [0, 1, 2, 3, 4, 5, 6] rfl) hK (hD.sub (ws' := (wd_X h0 qO qU qW qG qN qL cJ cI cZ cB fO fU fW fG fL len size)) [0, 1, 2, 3, 4, 5, 6] (by decide) rfl) hE) rfl rfl hl.1 rfl (lv_room (Nat.le_of_ble_eq_true rfl)) dc_X_compared_89 ⟨Nat.le_of_ble_eq_true rfl, Nat.le_of_ble_eq_true rfl⟩) hP hD hS hA [0, 1, 2, 3, 4, 5, 6] [] rfl rfl (by decide) (by decide) (fun r89 u H locs hw hP hD hS => ?_)
    obtain ⟨fO89, fU89, fW89, fG89, fL89, len89, size89⟩ := u
    have hP : va_P (dC, dI) cs_3 (wd_X h0 qO qU qW qG qN qL cJ cI cZ cB fO89 fU89 fW89 fG89 fL89 len89 size89) H := hP.sub (ws' := (wd_X h0 qO qU qW qG qN qL cJ cI cZ cB fO89 fU89 fW89 fG89 fL89 len89 size89)) [0, 1, 2, 3, 4, 5, 6] rfl
    have hD : va_D A (wd_X h0 qO qU qW qG qN qL cJ cI cZ cB fO89 fU89 fW89 fG89 fL89 len89 size89) := hD.sub (ws' := (wd_X h0 qO qU qW qG qN qL cJ cI cZ cB fO89 fU89 fW89 fG89 fL89 len89 size89)) [0, 1, 2, 3, 4, 5, 6] (by decide) rfl
    try dsimp only at hw
    exact W.iret (v := r89) hx hb hr (fun t ht hW => ⟨⟨r89, (fO89, fU89, fW89, fG89, fL89, len89, size89), rfl, hw, by rw [ht]; exact hP, va_K.moved hW.alike hK, hD⟩, hS.F ht⟩) hS.2.2 dc_X_compared_92
  by_cases hk14 : a1.toInt = 14
  · have hw := hs6 hk14
    refine lv_tableIn (tgt := 93) (off := 92) hx hb dc_X_compared_1 (by rw [hk14]; decide) (by rw [hk14]; decide) (by rw [hk14]; rfl) (by decide) ?_
    refine lv_aload_n hx hb dc_X_compared_93 rfl (lv_at hl 0 rfl) ?_
    refine lv_iload_n hx hb dc_X_compared_94 rfl (lv_at hl 3 rfl) ?_
    refine lv_iload_n hx hb dc_X_compared_95 rfl (lv_at hl 2 rfl) ?_
    refine gc_i (S := (Nat → Int64) × (Nat → Int64) × (Nat → Int32) × (Nat → Int32) × (Nat → Int32) × Int32 × Int32) (w1 := (fun u => (wd_X h0 qO qU qW qG qN qL cJ cI cZ cB u.1 u.2.1 u.2.2.1 u.2.2.2.1 u.2.2.2.2.1 u.2.2.2.2.2.1 u.2.2.2.2.2.2))) (wc := (wd_X h0 qO qU qW qG qN qL cJ cI cZ cB fO fU fW fG fL len size)) (wr := ([] : va_W)) (va_runV (As := [.int a3, .int a2]) (rest := []) ⟨hx, hb, hml, hown, hts⟩ (kt_X_less l dC dI cJ cI cZ cB h0 qO qU qW qG qN qL _ a3 a2 fO fU fW fG fL len size _ hw) ⟨callB_of 2 hts (gw_in mw_t254) rfl rfl rfl (hq mw_t1) (hq mw_t251) (by decide +kernel) ⟨Nat.le_of_ble_eq_true rfl, Nat.le_of_ble_eq_true rfl⟩, hq mw_t253, hq mw_s17⟩ (pv_W (va_recv (q0 := 0) (ci := 1) hK hP rfl rfl) (hP.sub (ws' := (wd_X h0 qO qU qW qG qN qL cJ cI cZ cB fO fU fW fG fL len size)) [0, 1, 2, 3, 4, 5, 6] rfl) hK (hD.sub (ws' := (wd_X h0 qO qU qW qG qN qL cJ cI cZ cB fO fU fW fG fL len size)) [0, 1, 2, 3, 4, 5, 6] (by decide) rfl) hE) rfl rfl hl.1 rfl (lv_room (Nat.le_of_ble_eq_true rfl)) dc_X_compared_96 ⟨Nat.le_of_ble_eq_true rfl, Nat.le_of_ble_eq_true rfl⟩) hP hD hS hA [0, 1, 2, 3, 4, 5, 6] [] rfl rfl (by decide) (by decide) (fun r96 u H locs hw hP hD hS => ?_)
    obtain ⟨fO96, fU96, fW96, fG96, fL96, len96, size96⟩ := u
    have hP : va_P (dC, dI) cs_3 (wd_X h0 qO qU qW qG qN qL cJ cI cZ cB fO96 fU96 fW96 fG96 fL96 len96 size96) H := hP.sub (ws' := (wd_X h0 qO qU qW qG qN qL cJ cI cZ cB fO96 fU96 fW96 fG96 fL96 len96 size96)) [0, 1, 2, 3, 4, 5, 6] rfl
    have hD : va_D A (wd_X h0 qO qU qW qG qN qL cJ cI cZ cB fO96 fU96 fW96 fG96 fL96 len96 size96) := hD.sub (ws' := (wd_X h0 qO qU qW qG qN qL cJ cI cZ cB fO96 fU96 fW96 fG96 fL96 len96 size96)) [0, 1, 2, 3, 4, 5, 6] (by decide) rfl
    try dsimp only at hw
    refine gc_i (S := Unit) (w1 := (fun u => ([] : va_W))) (wc := ([] : va_W)) (wr := ([(h0, .inr (1, [.ref qO, .ref qU, .ref qW, .ref qG, .ref qN, .int size96])), (qO, .inl (cJ, 64, .inr (.inl fO96))), (qU, .inl (cJ, 64, .inr (.inl fU96))), (qW, .inl (cI, 64, .inl fW96)), (qG, .inl (cZ, 64, .inl fG96)), (qN, .inr (0, [.ref qL, .int len96])), (qL, .inl (cB, 64, .inl fL96))] : va_W)) (va_runS (As := [.int r96]) (rest := []) ⟨hx, hb, hml, hown, hts⟩ (kt_X_opposite l dC dI cJ cI cZ cB _ r96 _ hw) ⟨callB_of 1 hts (gw_in mw_t246) rfl rfl rfl (hq mw_t1) (hq mw_t244) (by decide +kernel) ⟨Nat.le_of_ble_eq_true rfl, Nat.le_of_ble_eq_true rfl⟩, hq mw_t245⟩ (ps_W (hP.sub (ws' := ([] : va_W)) [] rfl) hK (hD.sub (ws' := ([] : va_W)) [] (by decide) rfl) hE) rfl rfl hl.1 rfl (lv_room (Nat.le_of_ble_eq_true rfl)) dc_X_compared_99 ⟨Nat.le_of_ble_eq_true rfl, Nat.le_of_ble_eq_true rfl⟩) hP hD hS hA [] [0, 1, 2, 3, 4, 5, 6] rfl rfl (by decide) (by decide) (fun r99 u H locs hw hP hD hS => ?_)
    have hP : va_P (dC, dI) cs_3 (wd_X h0 qO qU qW qG qN qL cJ cI cZ cB fO96 fU96 fW96 fG96 fL96 len96 size96) H := hP.sub (ws' := (wd_X h0 qO qU qW qG qN qL cJ cI cZ cB fO96 fU96 fW96 fG96 fL96 len96 size96)) [0, 1, 2, 3, 4, 5, 6] rfl
    have hD : va_D A (wd_X h0 qO qU qW qG qN qL cJ cI cZ cB fO96 fU96 fW96 fG96 fL96 len96 size96) := hD.sub (ws' := (wd_X h0 qO qU qW qG qN qL cJ cI cZ cB fO96 fU96 fW96 fG96 fL96 len96 size96)) [0, 1, 2, 3, 4, 5, 6] (by decide) rfl
    try dsimp only at hw
    exact W.iret (v := r99) hx hb hr (fun t ht hW => ⟨⟨r99, (fO96, fU96, fW96, fG96, fL96, len96, size96), rfl, hw, by rw [ht]; exact hP, va_K.moved hW.alike hK, hD⟩, hS.F ht⟩) hS.2.2 dc_X_compared_102
  by_cases hk15 : a1.toInt = 15
  · have hw := hs7 hk15
    refine lv_tableIn (tgt := 103) (off := 102) hx hb dc_X_compared_1 (by rw [hk15]; decide) (by rw [hk15]; decide) (by rw [hk15]; rfl) (by decide) ?_
    refine lv_aload_n hx hb dc_X_compared_103 rfl (lv_at hl 0 rfl) ?_
    refine lv_iload_n hx hb dc_X_compared_104 rfl (lv_at hl 3 rfl) ?_
    refine lv_iload_n hx hb dc_X_compared_105 rfl (lv_at hl 2 rfl) ?_
    refine gc_i (S := (Nat → Int64) × (Nat → Int64) × (Nat → Int32) × (Nat → Int32) × (Nat → Int32) × Int32 × Int32) (w1 := (fun u => (wd_X h0 qO qU qW qG qN qL cJ cI cZ cB u.1 u.2.1 u.2.2.1 u.2.2.2.1 u.2.2.2.2.1 u.2.2.2.2.2.1 u.2.2.2.2.2.2))) (wc := (wd_X h0 qO qU qW qG qN qL cJ cI cZ cB fO fU fW fG fL len size)) (wr := ([] : va_W)) (va_runV (As := [.int a3, .int a2]) (rest := []) ⟨hx, hb, hml, hown, hts⟩ (kt_X_less l dC dI cJ cI cZ cB h0 qO qU qW qG qN qL _ a3 a2 fO fU fW fG fL len size _ hw) ⟨callB_of 2 hts (gw_in mw_t254) rfl rfl rfl (hq mw_t1) (hq mw_t251) (by decide +kernel) ⟨Nat.le_of_ble_eq_true rfl, Nat.le_of_ble_eq_true rfl⟩, hq mw_t253, hq mw_s17⟩ (pv_W (va_recv (q0 := 0) (ci := 1) hK hP rfl rfl) (hP.sub (ws' := (wd_X h0 qO qU qW qG qN qL cJ cI cZ cB fO fU fW fG fL len size)) [0, 1, 2, 3, 4, 5, 6] rfl) hK (hD.sub (ws' := (wd_X h0 qO qU qW qG qN qL cJ cI cZ cB fO fU fW fG fL len size)) [0, 1, 2, 3, 4, 5, 6] (by decide) rfl) hE) rfl rfl hl.1 rfl (lv_room (Nat.le_of_ble_eq_true rfl)) dc_X_compared_106 ⟨Nat.le_of_ble_eq_true rfl, Nat.le_of_ble_eq_true rfl⟩) hP hD hS hA [0, 1, 2, 3, 4, 5, 6] [] rfl rfl (by decide) (by decide) (fun r106 u H locs hw hP hD hS => ?_)
    obtain ⟨fO106, fU106, fW106, fG106, fL106, len106, size106⟩ := u
    have hP : va_P (dC, dI) cs_3 (wd_X h0 qO qU qW qG qN qL cJ cI cZ cB fO106 fU106 fW106 fG106 fL106 len106 size106) H := hP.sub (ws' := (wd_X h0 qO qU qW qG qN qL cJ cI cZ cB fO106 fU106 fW106 fG106 fL106 len106 size106)) [0, 1, 2, 3, 4, 5, 6] rfl
    have hD : va_D A (wd_X h0 qO qU qW qG qN qL cJ cI cZ cB fO106 fU106 fW106 fG106 fL106 len106 size106) := hD.sub (ws' := (wd_X h0 qO qU qW qG qN qL cJ cI cZ cB fO106 fU106 fW106 fG106 fL106 len106 size106)) [0, 1, 2, 3, 4, 5, 6] (by decide) rfl
    try dsimp only at hw
    exact W.iret (v := r106) hx hb hr (fun t ht hW => ⟨⟨r106, (fO106, fU106, fW106, fG106, fL106, len106, size106), rfl, hw, by rw [ht]; exact hP, va_K.moved hW.alike hK, hD⟩, hS.F ht⟩) hS.2.2 dc_X_compared_109
  by_cases hk16 : a1.toInt = 16
  · have hw := hs8 hk16
    refine lv_tableIn (tgt := 110) (off := 109) hx hb dc_X_compared_1 (by rw [hk16]; decide) (by rw [hk16]; decide) (by rw [hk16]; rfl) (by decide) ?_
    refine lv_aload_n hx hb dc_X_compared_110 rfl (lv_at hl 0 rfl) ?_
    refine lv_iload_n hx hb dc_X_compared_111 rfl (lv_at hl 2 rfl) ?_
    refine lv_iload_n hx hb dc_X_compared_112 rfl (lv_at hl 3 rfl) ?_
    refine gc_i (S := (Nat → Int64) × (Nat → Int64) × (Nat → Int32) × (Nat → Int32) × (Nat → Int32) × Int32 × Int32) (w1 := (fun u => (wd_X h0 qO qU qW qG qN qL cJ cI cZ cB u.1 u.2.1 u.2.2.1 u.2.2.2.1 u.2.2.2.2.1 u.2.2.2.2.2.1 u.2.2.2.2.2.2))) (wc := (wd_X h0 qO qU qW qG qN qL cJ cI cZ cB fO fU fW fG fL len size)) (wr := ([] : va_W)) (va_runV (As := [.int a2, .int a3]) (rest := []) ⟨hx, hb, hml, hown, hts⟩ (kt_X_less l dC dI cJ cI cZ cB h0 qO qU qW qG qN qL _ a2 a3 fO fU fW fG fL len size _ hw) ⟨callB_of 2 hts (gw_in mw_t254) rfl rfl rfl (hq mw_t1) (hq mw_t251) (by decide +kernel) ⟨Nat.le_of_ble_eq_true rfl, Nat.le_of_ble_eq_true rfl⟩, hq mw_t253, hq mw_s17⟩ (pv_W (va_recv (q0 := 0) (ci := 1) hK hP rfl rfl) (hP.sub (ws' := (wd_X h0 qO qU qW qG qN qL cJ cI cZ cB fO fU fW fG fL len size)) [0, 1, 2, 3, 4, 5, 6] rfl) hK (hD.sub (ws' := (wd_X h0 qO qU qW qG qN qL cJ cI cZ cB fO fU fW fG fL len size)) [0, 1, 2, 3, 4, 5, 6] (by decide) rfl) hE) rfl rfl hl.1 rfl (lv_room (Nat.le_of_ble_eq_true rfl)) dc_X_compared_113 ⟨Nat.le_of_ble_eq_true rfl, Nat.le_of_ble_eq_true rfl⟩) hP hD hS hA [0, 1, 2, 3, 4, 5, 6] [] rfl rfl (by decide) (by decide) (fun r113 u H locs hw hP hD hS => ?_)
    obtain ⟨fO113, fU113, fW113, fG113, fL113, len113, size113⟩ := u
    have hP : va_P (dC, dI) cs_3 (wd_X h0 qO qU qW qG qN qL cJ cI cZ cB fO113 fU113 fW113 fG113 fL113 len113 size113) H := hP.sub (ws' := (wd_X h0 qO qU qW qG qN qL cJ cI cZ cB fO113 fU113 fW113 fG113 fL113 len113 size113)) [0, 1, 2, 3, 4, 5, 6] rfl
    have hD : va_D A (wd_X h0 qO qU qW qG qN qL cJ cI cZ cB fO113 fU113 fW113 fG113 fL113 len113 size113) := hD.sub (ws' := (wd_X h0 qO qU qW qG qN qL cJ cI cZ cB fO113 fU113 fW113 fG113 fL113 len113 size113)) [0, 1, 2, 3, 4, 5, 6] (by decide) rfl
    try dsimp only at hw
    refine gc_i (S := Unit) (w1 := (fun u => ([] : va_W))) (wc := ([] : va_W)) (wr := ([(h0, .inr (1, [.ref qO, .ref qU, .ref qW, .ref qG, .ref qN, .int size113])), (qO, .inl (cJ, 64, .inr (.inl fO113))), (qU, .inl (cJ, 64, .inr (.inl fU113))), (qW, .inl (cI, 64, .inl fW113)), (qG, .inl (cZ, 64, .inl fG113)), (qN, .inr (0, [.ref qL, .int len113])), (qL, .inl (cB, 64, .inl fL113))] : va_W)) (va_runS (As := [.int r113]) (rest := []) ⟨hx, hb, hml, hown, hts⟩ (kt_X_opposite l dC dI cJ cI cZ cB _ r113 _ hw) ⟨callB_of 1 hts (gw_in mw_t246) rfl rfl rfl (hq mw_t1) (hq mw_t244) (by decide +kernel) ⟨Nat.le_of_ble_eq_true rfl, Nat.le_of_ble_eq_true rfl⟩, hq mw_t245⟩ (ps_W (hP.sub (ws' := ([] : va_W)) [] rfl) hK (hD.sub (ws' := ([] : va_W)) [] (by decide) rfl) hE) rfl rfl hl.1 rfl (lv_room (Nat.le_of_ble_eq_true rfl)) dc_X_compared_116 ⟨Nat.le_of_ble_eq_true rfl, Nat.le_of_ble_eq_true rfl⟩) hP hD hS hA [] [0, 1, 2, 3, 4, 5, 6] rfl rfl (by decide) (by decide) (fun r116 u H locs hw hP hD hS => ?_)
    have hP : va_P (dC, dI) cs_3 (wd_X h0 qO qU qW qG qN qL cJ cI cZ cB fO113 fU113 fW113 fG113 fL113 len113 size113) H := hP.sub (ws' := (wd_X h0 qO qU qW qG qN qL cJ cI cZ cB fO113 fU113 fW113 fG113 fL113 len113 size113)) [0, 1, 2, 3, 4, 5, 6] rfl
    have hD : va_D A (wd_X h0 qO qU qW qG qN qL cJ cI cZ cB fO113 fU113 fW113 fG113 fL113 len113 size113) := hD.sub (ws' := (wd_X h0 qO qU qW qG qN qL cJ cI cZ cB fO113 fU113 fW113 fG113 fL113 len113 size113)) [0, 1, 2, 3, 4, 5, 6] (by decide) rfl
    try dsimp only at hw
    exact W.iret (v := r116) hx hb hr (fun t ht hW => ⟨⟨r116, (fO113, fU113, fW113, fG113, fL113, len113, size113), rfl, hw, by rw [ht]; exact hP, va_K.moved hW.alike hK, hD⟩, hS.F ht⟩) hS.2.2 dc_X_compared_119
  have hk17 : a1.toInt = 17 := by omega
  have hw := hs9 hk17
  refine lv_tableIn (tgt := 120) (off := 119) hx hb dc_X_compared_1 (by rw [hk17]; decide) (by rw [hk17]; decide) (by rw [hk17]; rfl) (by decide) ?_
  refine lv_aload_n hx hb dc_X_compared_120 rfl (lv_at hl 0 rfl) ?_
  refine lv_iload_n hx hb dc_X_compared_121 rfl (lv_at hl 2 rfl) ?_
  refine gc_i (S := (Nat → Int64) × (Nat → Int64) × (Nat → Int32) × (Nat → Int32) × (Nat → Int32) × Int32 × Int32) (w1 := (fun u => (wd_X h0 qO qU qW qG qN qL cJ cI cZ cB u.1 u.2.1 u.2.2.1 u.2.2.2.1 u.2.2.2.2.1 u.2.2.2.2.2.1 u.2.2.2.2.2.2))) (wc := (wd_X h0 qO qU qW qG qN qL cJ cI cZ cB fO fU fW fG fL len size)) (wr := ([] : va_W)) (va_runV (As := [.int a2]) (rest := []) ⟨hx, hb, hml, hown, hts⟩ (kt_X_anyOne l dC dI cJ cI cZ cB h0 qO qU qW qG qN qL _ a2 fO fU fW fG fL len size _ hw) ⟨callB_of 1 hts (gw_in mw_t259) rfl rfl rfl (hq mw_t1) (hq mw_t256) (by decide +kernel) ⟨Nat.le_of_ble_eq_true rfl, Nat.le_of_ble_eq_true rfl⟩, hq mw_t258, hq mw_s18⟩ (pv_W (va_recv (q0 := 0) (ci := 1) hK hP rfl rfl) (hP.sub (ws' := (wd_X h0 qO qU qW qG qN qL cJ cI cZ cB fO fU fW fG fL len size)) [0, 1, 2, 3, 4, 5, 6] rfl) hK (hD.sub (ws' := (wd_X h0 qO qU qW qG qN qL cJ cI cZ cB fO fU fW fG fL len size)) [0, 1, 2, 3, 4, 5, 6] (by decide) rfl) hE) rfl rfl hl.1 rfl (lv_room (Nat.le_of_ble_eq_true rfl)) dc_X_compared_122 ⟨Nat.le_of_ble_eq_true rfl, Nat.le_of_ble_eq_true rfl⟩) hP hD hS hA [0, 1, 2, 3, 4, 5, 6] [] rfl rfl (by decide) (by decide) (fun r122 u H locs hw hP hD hS => ?_)
  obtain ⟨fO122, fU122, fW122, fG122, fL122, len122, size122⟩ := u
  have hP : va_P (dC, dI) cs_3 (wd_X h0 qO qU qW qG qN qL cJ cI cZ cB fO122 fU122 fW122 fG122 fL122 len122 size122) H := hP.sub (ws' := (wd_X h0 qO qU qW qG qN qL cJ cI cZ cB fO122 fU122 fW122 fG122 fL122 len122 size122)) [0, 1, 2, 3, 4, 5, 6] rfl
  have hD : va_D A (wd_X h0 qO qU qW qG qN qL cJ cI cZ cB fO122 fU122 fW122 fG122 fL122 len122 size122) := hD.sub (ws' := (wd_X h0 qO qU qW qG qN qL cJ cI cZ cB fO122 fU122 fW122 fG122 fL122 len122 size122)) [0, 1, 2, 3, 4, 5, 6] (by decide) rfl
  try dsimp only at hw
  refine lv_aload_n hx hb dc_X_compared_125 rfl (lv_at hl 0 rfl) ?_
  refine lv_iload_n hx hb dc_X_compared_126 rfl (lv_at hl 3 rfl) ?_
  refine gc_i (S := (Nat → Int64) × (Nat → Int64) × (Nat → Int32) × (Nat → Int32) × (Nat → Int32) × Int32 × Int32) (w1 := (fun u => (wd_X h0 qO qU qW qG qN qL cJ cI cZ cB u.1 u.2.1 u.2.2.1 u.2.2.2.1 u.2.2.2.2.1 u.2.2.2.2.2.1 u.2.2.2.2.2.2))) (wc := (wd_X h0 qO qU qW qG qN qL cJ cI cZ cB fO122 fU122 fW122 fG122 fL122 len122 size122)) (wr := ([] : va_W)) (va_runV (As := [.int a3]) (rest := [.int r122]) ⟨hx, hb, hml, hown, hts⟩ (kt_X_anyOne l dC dI cJ cI cZ cB h0 qO qU qW qG qN qL _ a3 fO122 fU122 fW122 fG122 fL122 len122 size122 _ hw) ⟨callB_of 1 hts (gw_in mw_t259) rfl rfl rfl (hq mw_t1) (hq mw_t256) (by decide +kernel) ⟨Nat.le_of_ble_eq_true rfl, Nat.le_of_ble_eq_true rfl⟩, hq mw_t258, hq mw_s18⟩ (pv_W (va_recv (q0 := 0) (ci := 1) hK hP rfl rfl) (hP.sub (ws' := (wd_X h0 qO qU qW qG qN qL cJ cI cZ cB fO122 fU122 fW122 fG122 fL122 len122 size122)) [0, 1, 2, 3, 4, 5, 6] rfl) hK (hD.sub (ws' := (wd_X h0 qO qU qW qG qN qL cJ cI cZ cB fO122 fU122 fW122 fG122 fL122 len122 size122)) [0, 1, 2, 3, 4, 5, 6] (by decide) rfl) hE) rfl rfl hl.1 rfl (lv_room (Nat.le_of_ble_eq_true rfl)) dc_X_compared_127 ⟨Nat.le_of_ble_eq_true rfl, Nat.le_of_ble_eq_true rfl⟩) hP hD hS hA [0, 1, 2, 3, 4, 5, 6] [] rfl rfl (by decide) (by decide) (fun r127 u H locs hw hP hD hS => ?_)
  obtain ⟨fO127, fU127, fW127, fG127, fL127, len127, size127⟩ := u
  have hP : va_P (dC, dI) cs_3 (wd_X h0 qO qU qW qG qN qL cJ cI cZ cB fO127 fU127 fW127 fG127 fL127 len127 size127) H := hP.sub (ws' := (wd_X h0 qO qU qW qG qN qL cJ cI cZ cB fO127 fU127 fW127 fG127 fL127 len127 size127)) [0, 1, 2, 3, 4, 5, 6] rfl
  have hD : va_D A (wd_X h0 qO qU qW qG qN qL cJ cI cZ cB fO127 fU127 fW127 fG127 fL127 len127 size127) := hD.sub (ws' := (wd_X h0 qO qU qW qG qN qL cJ cI cZ cB fO127 fU127 fW127 fG127 fL127 len127 size127)) [0, 1, 2, 3, 4, 5, 6] (by decide) rfl
  try dsimp only at hw
  refine gc_i (S := Unit) (w1 := (fun u => ([] : va_W))) (wc := ([] : va_W)) (wr := ([(h0, .inr (1, [.ref qO, .ref qU, .ref qW, .ref qG, .ref qN, .int size127])), (qO, .inl (cJ, 64, .inr (.inl fO127))), (qU, .inl (cJ, 64, .inr (.inl fU127))), (qW, .inl (cI, 64, .inl fW127)), (qG, .inl (cZ, 64, .inl fG127)), (qN, .inr (0, [.ref qL, .int len127])), (qL, .inl (cB, 64, .inl fL127))] : va_W)) (va_runS (As := [.int r122, .int r127]) (rest := []) ⟨hx, hb, hml, hown, hts⟩ (kt_X_bothTrue l dC dI cJ cI cZ cB _ r122 r127 _ hw) ⟨callB_of 2 hts (gw_in mw_t262) rfl rfl rfl (hq mw_t1) (hq mw_t260) (by decide +kernel) ⟨Nat.le_of_ble_eq_true rfl, Nat.le_of_ble_eq_true rfl⟩, hq mw_t261⟩ (ps_W (hP.sub (ws' := ([] : va_W)) [] rfl) hK (hD.sub (ws' := ([] : va_W)) [] (by decide) rfl) hE) rfl rfl hl.1 rfl (lv_room (Nat.le_of_ble_eq_true rfl)) dc_X_compared_130 ⟨Nat.le_of_ble_eq_true rfl, Nat.le_of_ble_eq_true rfl⟩) hP hD hS hA [] [0, 1, 2, 3, 4, 5, 6] rfl rfl (by decide) (by decide) (fun r130 u H locs hw hP hD hS => ?_)
  have hP : va_P (dC, dI) cs_3 (wd_X h0 qO qU qW qG qN qL cJ cI cZ cB fO127 fU127 fW127 fG127 fL127 len127 size127) H := hP.sub (ws' := (wd_X h0 qO qU qW qG qN qL cJ cI cZ cB fO127 fU127 fW127 fG127 fL127 len127 size127)) [0, 1, 2, 3, 4, 5, 6] rfl
  have hD : va_D A (wd_X h0 qO qU qW qG qN qL cJ cI cZ cB fO127 fU127 fW127 fG127 fL127 len127 size127) := hD.sub (ws' := (wd_X h0 qO qU qW qG qN qL cJ cI cZ cB fO127 fU127 fW127 fG127 fL127 len127 size127)) [0, 1, 2, 3, 4, 5, 6] (by decide) rfl
  try dsimp only at hw
  exact W.iret (v := r130) hx hb hr (fun t ht hW => ⟨⟨r130, (fO127, fU127, fW127, fG127, fL127, len127, size127), rfl, hw, by rw [ht]; exact hP, va_K.moved hW.alike hK, hD⟩, hS.F ht⟩) hS.2.2 dc_X_compared_133
set_option maxHeartbeats 4000000 in
set_option maxRecDepth 100000 in
theorem kt_X_reduced (l : Launch) (dC : Nat → ClassId) (dI : Nat → Nat → Nat) (cJ cI cZ cB : ClassId) (h0 qO qU qW qG qN qL : Nat) (sz : Nat) (a1 : Int32) (a2 : Int32) (fO : (Nat → Int64)) (fU : (Nat → Int64)) (fW : (Nat → Int32)) (fG : (Nat → Int32)) (fL : (Nat → Int32)) (len : Int32) (size : Int32) (post : Int32 → (Nat → Int64) → (Nat → Int64) → (Nat → Int32) → (Nat → Int32) → (Nat → Int32) → Int32 → Int32 → Prop) (hw : wp_X_reduced post a1 a2 fO fU fW fG fL len size) : Met l yn_X_reduced ws_X_reduced rm_X_reduced (va_Pc [.ref h0, .int a1, .int a2] (pc_W (dC, dI) (ty_4 cJ cI cZ cB) (wd_X h0 qO qU qW qG qN qL cJ cI cZ cB fO fU fW fG fL len size) sz)) (qi_X dC dI cJ cI cZ cB h0 qO qU qW qG qN qL post (va_A (wd_X h0 qO qU qW qG qN qL cJ cI cZ cB fO fU fW fG fL len size) sz)) 0 0 (va_A (wd_X h0 qO qU qW qG qN qL cJ cI cZ cB fO fU fW fG fL len size) sz) := by
  refine Met.ofW (cc := cd_X_reduced) (maxL := 3) (ret := (some .int)) (by decide) rfl ?_
  intro p e s m args below meth c s₁ B hml hv
  obtain ⟨rfl, hsz, hP, hK, hD0, hE⟩ := hv
  have hx := B.exec
  have hb := B.bytes
  have hr := B.returns
  have hts := atoms_spec (ws := ws_X_reduced) B.pre
  have hq : ∀ {w : Cond}, w ∈ wg_all → w.before ([.ref h0, .int a1, .int a2] : List Value).toArray s = true := fun h => hts _ (List.mem_cons_of_mem _ h)
  have hu : ∀ L : List Cond, (∀ w ∈ L, w ∈ wg_all) → ∀ w ∈ L, w ∈ ws_X_reduced := fun L h w hw => List.mem_cons_of_mem _ (h w hw)
  have hown : s.vm.findClass "FourWords" = some m.cls := findClass_of_methodNamed B.named
  have hlocks := B.notSynchronized
  subst hsz
  have hD := hD0.self (sz := s.heap.size)
  generalize hAe : va_A (wd_X h0 qO qU qW qG qN qL cJ cI cZ cB fO fU fW fG fL len size) s.heap.size = A at hD ⊢
  have hA : ∀ q : Nat, s.heap.size ≤ q → A q := fun q h => by rw [← hAe]; exact Or.inr h
  have hS : va_S A s.heap s.heap [] := va_S.rf
  have hl := lv_entry [.ref h0, .int a1, .int a2] (n := 3) (Nat.le_of_ble_eq_true rfl)
  rw [lg_entry_eq]
  generalize (lg_sl [.ref h0, .int a1, .int a2] ++ List.replicate (3 - (lg_sl [.ref h0, .int a1, .int a2]).length) Slot.unset).toArray = ls at hl ⊢
  have hl : lv_has ls 3 [(0, .ref h0), (1, .int a1), (2, .int a2)] := hl
  have B_61 : ∀ (H : Heap) (locs : List Loc) (ls : Array Slot) (x2 : Int32) (fO : (Nat → Int64)) (fU : (Nat → Int64)) (fW : (Nat → Int32)) (fG : (Nat → Int32)) (fL : (Nat → Int32)) (len : Int32) (size : Int32), wp_X_reduced_61 post x2 fO fU fW fG fL len size → va_P (dC, dI) cs_3 (wd_X h0 qO qU qW qG qN qL cJ cI cZ cB fO fU fW fG fL len size) H → va_D A (wd_X h0 qO qU qW qG qN qL cJ cI cZ cB fO fU fW fG fL len size) → va_S A s.heap H locs → lv_has ls 3 [(0, .ref h0), (2, .int x2)] → W p l e (headSpec ws_X_reduced rm_X_reduced).room s m ([.ref h0, .int a1, .int a2] : List Value).toArray below meth c H locs 0 0 (MQ below (qi_X dC dI cJ cI cZ cB h0 qO qU qW qG qN qL post A) ([.ref h0, .int a1, .int a2] : List Value).toArray s 0 0 A) (F0 m 61 ls []) := by
    intro H locs ls x2 fO fU fW fG fL len size hw hP hD hS hl
    unfold wp_X_reduced_61 at hw
    refine lv_aload_n hx hb dc_X_reduced_61 rfl (lv_at hl 0 rfl) ?_
    refine lv_iload_n hx hb dc_X_reduced_62 rfl (lv_at hl 1 rfl) ?_
    refine gc_i (S := (Nat → Int64) × (Nat → Int64) × (Nat → Int32) × (Nat → Int32) × (Nat → Int32) × Int32 × Int32) (w1 := (fun u => (wd_X h0 qO qU qW qG qN qL cJ cI cZ cB u.1 u.2.1 u.2.2.1 u.2.2.2.1 u.2.2.2.2.1 u.2.2.2.2.2.1 u.2.2.2.2.2.2))) (wc := (wd_X h0 qO qU qW qG qN qL cJ cI cZ cB fO fU fW fG fL len size)) (wr := ([] : va_W)) (va_runV (As := [.int x2]) (rest := []) ⟨hx, hb, hml, hown, hts⟩ (kt_X_anyOne l dC dI cJ cI cZ cB h0 qO qU qW qG qN qL _ x2 fO fU fW fG fL len size _ hw) ⟨callB_of 1 hts (gw_in mw_t259) rfl rfl rfl (hq mw_t1) (hq mw_t256) (by decide +kernel) ⟨Nat.le_of_ble_eq_true rfl, Nat.le_of_ble_eq_true rfl⟩, hq mw_t258, hq mw_s18⟩ (pv_W (va_recv (q0 := 0) (ci := 1) hK hP rfl rfl) (hP.sub (ws' := (wd_X h0 qO qU qW qG qN qL cJ cI cZ cB fO fU fW fG fL len size)) [0, 1, 2, 3, 4, 5, 6] rfl) hK (hD.sub (ws' := (wd_X h0 qO qU qW qG qN qL cJ cI cZ cB fO fU fW fG fL len size)) [0, 1, 2, 3, 4, 5, 6] (by decide) rfl) hE) rfl rfl hl.1 rfl (lv_room (Nat.le_of_ble_eq_true rfl)) dc_X_reduced_63 ⟨Nat.le_of_ble_eq_true rfl, Nat.le_of_ble_eq_true rfl⟩) hP hD hS hA [0, 1, 2, 3, 4, 5, 6] [] rfl rfl (by decide) (by decide) (fun r63 u H locs hw hP hD hS => ?_)
    obtain ⟨fO63, fU63, fW63, fG63, fL63, len63, size63⟩ := u
    have hP : va_P (dC, dI) cs_3 (wd_X h0 qO qU qW qG qN qL cJ cI cZ cB fO63 fU63 fW63 fG63 fL63 len63 size63) H := hP.sub (ws' := (wd_X h0 qO qU qW qG qN qL cJ cI cZ cB fO63 fU63 fW63 fG63 fL63 len63 size63)) [0, 1, 2, 3, 4, 5, 6] rfl
    have hD : va_D A (wd_X h0 qO qU qW qG qN qL cJ cI cZ cB fO63 fU63 fW63 fG63 fL63 len63 size63) := hD.sub (ws' := (wd_X h0 qO qU qW qG qN qL cJ cI cZ cB fO63 fU63 fW63 fG63 fL63 len63 size63)) [0, 1, 2, 3, 4, 5, 6] (by decide) rfl
    try dsimp only at hw
    refine gc_i (S := Unit) (w1 := (fun u => ([] : va_W))) (wc := ([] : va_W)) (wr := ([(h0, .inr (1, [.ref qO, .ref qU, .ref qW, .ref qG, .ref qN, .int size63])), (qO, .inl (cJ, 64, .inr (.inl fO63))), (qU, .inl (cJ, 64, .inr (.inl fU63))), (qW, .inl (cI, 64, .inl fW63)), (qG, .inl (cZ, 64, .inl fG63)), (qN, .inr (0, [.ref qL, .int len63])), (qL, .inl (cB, 64, .inl fL63))] : va_W)) (va_runS (As := [.int r63]) (rest := []) ⟨hx, hb, hml, hown, hts⟩ (kt_X_opposite l dC dI cJ cI cZ cB _ r63 _ hw) ⟨callB_of 1 hts (gw_in mw_t246) rfl rfl rfl (hq mw_t1) (hq mw_t244) (by decide +kernel) ⟨Nat.le_of_ble_eq_true rfl, Nat.le_of_ble_eq_true rfl⟩, hq mw_t245⟩ (ps_W (hP.sub (ws' := ([] : va_W)) [] rfl) hK (hD.sub (ws' := ([] : va_W)) [] (by decide) rfl) hE) rfl rfl hl.1 rfl (lv_room (Nat.le_of_ble_eq_true rfl)) dc_X_reduced_66 ⟨Nat.le_of_ble_eq_true rfl, Nat.le_of_ble_eq_true rfl⟩) hP hD hS hA [] [0, 1, 2, 3, 4, 5, 6] rfl rfl (by decide) (by decide) (fun r66 u H locs hw hP hD hS => ?_)
    have hP : va_P (dC, dI) cs_3 (wd_X h0 qO qU qW qG qN qL cJ cI cZ cB fO63 fU63 fW63 fG63 fL63 len63 size63) H := hP.sub (ws' := (wd_X h0 qO qU qW qG qN qL cJ cI cZ cB fO63 fU63 fW63 fG63 fL63 len63 size63)) [0, 1, 2, 3, 4, 5, 6] rfl
    have hD : va_D A (wd_X h0 qO qU qW qG qN qL cJ cI cZ cB fO63 fU63 fW63 fG63 fL63 len63 size63) := hD.sub (ws' := (wd_X h0 qO qU qW qG qN qL cJ cI cZ cB fO63 fU63 fW63 fG63 fL63 len63 size63)) [0, 1, 2, 3, 4, 5, 6] (by decide) rfl
    try dsimp only at hw
    exact W.iret (v := r66) hx hb hr (fun t ht hW => ⟨⟨r66, (fO63, fU63, fW63, fG63, fL63, len63, size63), rfl, hw, by rw [ht]; exact hP, va_K.moved hW.alike hK, hD⟩, hS.F ht⟩) hS.2.2 dc_X_reduced_69
  unfold wp_X_reduced at hw
  refine lv_iload_n hx hb dc_X_reduced_0 rfl (lv_at hl 1 rfl) ?_
  obtain ⟨hs0, hs1, hs2, hs3, hs4, hs5, hs6⟩ := hw
  by_cases hc : a1.toInt < 2 ∨ 7 < a1.toInt
  · have hw := hs0 hc
    refine lv_tableOut (tgt := 76) hx hb dc_X_reduced_1 hc (by decide) ?_
    refine lv_aload_n hx hb dc_X_reduced_76 rfl (lv_at hl 0 rfl) ?_
    refine lv_iload_n hx hb dc_X_reduced_77 rfl (lv_at hl 2 rfl) ?_
    refine gc_i (S := (Nat → Int64) × (Nat → Int64) × (Nat → Int32) × (Nat → Int32) × (Nat → Int32) × Int32 × Int32) (w1 := (fun u => (wd_X h0 qO qU qW qG qN qL cJ cI cZ cB u.1 u.2.1 u.2.2.1 u.2.2.2.1 u.2.2.2.2.1 u.2.2.2.2.2.1 u.2.2.2.2.2.2))) (wc := (wd_X h0 qO qU qW qG qN qL cJ cI cZ cB fO fU fW fG fL len size)) (wr := ([] : va_W)) (va_runV (As := [.int a2]) (rest := []) ⟨hx, hb, hml, hown, hts⟩ (kt_X_oddOnes l dC dI cJ cI cZ cB h0 qO qU qW qG qN qL _ a2 fO fU fW fG fL len size _ hw) ⟨callB_of 1 hts (gw_in mw_t305) rfl rfl rfl (hq mw_t1) (hq mw_t302) (by decide +kernel) ⟨Nat.le_of_ble_eq_true rfl, Nat.le_of_ble_eq_true rfl⟩, hq mw_t304, hq mw_s25⟩ (pv_W (va_recv (q0 := 0) (ci := 1) hK hP rfl rfl) (hP.sub (ws' := (wd_X h0 qO qU qW qG qN qL cJ cI cZ cB fO fU fW fG fL len size)) [0, 1, 2, 3, 4, 5, 6] rfl) hK (hD.sub (ws' := (wd_X h0 qO qU qW qG qN qL cJ cI cZ cB fO fU fW fG fL len size)) [0, 1, 2, 3, 4, 5, 6] (by decide) rfl) hE) rfl rfl hl.1 rfl (lv_room (Nat.le_of_ble_eq_true rfl)) dc_X_reduced_78 ⟨Nat.le_of_ble_eq_true rfl, Nat.le_of_ble_eq_true rfl⟩) hP hD hS hA [0, 1, 2, 3, 4, 5, 6] [] rfl rfl (by decide) (by decide) (fun r78 u H locs hw hP hD hS => ?_)
    obtain ⟨fO78, fU78, fW78, fG78, fL78, len78, size78⟩ := u
    have hP : va_P (dC, dI) cs_3 (wd_X h0 qO qU qW qG qN qL cJ cI cZ cB fO78 fU78 fW78 fG78 fL78 len78 size78) H := hP.sub (ws' := (wd_X h0 qO qU qW qG qN qL cJ cI cZ cB fO78 fU78 fW78 fG78 fL78 len78 size78)) [0, 1, 2, 3, 4, 5, 6] rfl
    have hD : va_D A (wd_X h0 qO qU qW qG qN qL cJ cI cZ cB fO78 fU78 fW78 fG78 fL78 len78 size78) := hD.sub (ws' := (wd_X h0 qO qU qW qG qN qL cJ cI cZ cB fO78 fU78 fW78 fG78 fL78 len78 size78)) [0, 1, 2, 3, 4, 5, 6] (by decide) rfl
    try dsimp only at hw
    refine gc_i (S := Unit) (w1 := (fun u => ([] : va_W))) (wc := ([] : va_W)) (wr := ([(h0, .inr (1, [.ref qO, .ref qU, .ref qW, .ref qG, .ref qN, .int size78])), (qO, .inl (cJ, 64, .inr (.inl fO78))), (qU, .inl (cJ, 64, .inr (.inl fU78))), (qW, .inl (cI, 64, .inl fW78)), (qG, .inl (cZ, 64, .inl fG78)), (qN, .inr (0, [.ref qL, .int len78])), (qL, .inl (cB, 64, .inl fL78))] : va_W)) (va_runS (As := [.int r78]) (rest := []) ⟨hx, hb, hml, hown, hts⟩ (kt_X_opposite l dC dI cJ cI cZ cB _ r78 _ hw) ⟨callB_of 1 hts (gw_in mw_t246) rfl rfl rfl (hq mw_t1) (hq mw_t244) (by decide +kernel) ⟨Nat.le_of_ble_eq_true rfl, Nat.le_of_ble_eq_true rfl⟩, hq mw_t245⟩ (ps_W (hP.sub (ws' := ([] : va_W)) [] rfl) hK (hD.sub (ws' := ([] : va_W)) [] (by decide) rfl) hE) rfl rfl hl.1 rfl (lv_room (Nat.le_of_ble_eq_true rfl)) dc_X_reduced_81 ⟨Nat.le_of_ble_eq_true rfl, Nat.le_of_ble_eq_true rfl⟩) hP hD hS hA [] [0, 1, 2, 3, 4, 5, 6] rfl rfl (by decide) (by decide) (fun r81 u H locs hw hP hD hS => ?_)
    have hP : va_P (dC, dI) cs_3 (wd_X h0 qO qU qW qG qN qL cJ cI cZ cB fO78 fU78 fW78 fG78 fL78 len78 size78) H := hP.sub (ws' := (wd_X h0 qO qU qW qG qN qL cJ cI cZ cB fO78 fU78 fW78 fG78 fL78 len78 size78)) [0, 1, 2, 3, 4, 5, 6] rfl
    have hD : va_D A (wd_X h0 qO qU qW qG qN qL cJ cI cZ cB fO78 fU78 fW78 fG78 fL78 len78 size78) := hD.sub (ws' := (wd_X h0 qO qU qW qG qN qL cJ cI cZ cB fO78 fU78 fW78 fG78 fL78 len78 size78)) [0, 1, 2, 3, 4, 5, 6] (by decide) rfl
    try dsimp only at hw
    exact W.iret (v := r81) hx hb hr (fun t ht hW => ⟨⟨r81, (fO78, fU78, fW78, fG78, fL78, len78, size78), rfl, hw, by rw [ht]; exact hP, va_K.moved hW.alike hK, hD⟩, hS.F ht⟩) hS.2.2 dc_X_reduced_84
  by_cases hk2 : a1.toInt = 2
  · have hw := hs1 hk2
    refine lv_tableIn (tgt := 61) (off := 60) hx hb dc_X_reduced_1 (by rw [hk2]; decide) (by rw [hk2]; decide) (by rw [hk2]; rfl) (by decide) ?_
    exact B_61 _ _ _ a2 fO fU fW fG fL len size hw hP hD hS (lv_sub hl [0, 2] rfl)
  by_cases hk3 : a1.toInt = 3
  · have hw := hs2 hk3
    refine lv_tableIn (tgt := 40) (off := 39) hx hb dc_X_reduced_1 (by rw [hk3]; decide) (by rw [hk3]; decide) (by rw [hk3]; rfl) (by decide) ?_
    refine lv_aload_n hx hb dc_X_reduced_40 rfl (lv_at hl 0 rfl) ?_
    refine lv_iload_n hx hb dc_X_reduced_41 rfl (lv_at hl 2 rfl) ?_
    refine gc_i (S := (Nat → Int64) × (Nat → Int64) × (Nat → Int32) × (Nat → Int32) × (Nat → Int32) × Int32 × Int32) (w1 := (fun u => (wd_X h0 qO qU qW qG qN qL cJ cI cZ cB u.1 u.2.1 u.2.2.1 u.2.2.2.1 u.2.2.2.2.1 u.2.2.2.2.2.1 u.2.2.2.2.2.2))) (wc := (wd_X h0 qO qU qW qG qN qL cJ cI cZ cB fO fU fW fG fL len size)) (wr := ([] : va_W)) (va_runV (As := [.int a2]) (rest := []) ⟨hx, hb, hml, hown, hts⟩ (kt_X_allOnes l dC dI cJ cI cZ cB h0 qO qU qW qG qN qL _ a2 fO fU fW fG fL len size _ hw) ⟨callB_of 1 hts (gw_in mw_t301) rfl rfl rfl (hq mw_t1) (hq mw_t298) (by decide +kernel) ⟨Nat.le_of_ble_eq_true rfl, Nat.le_of_ble_eq_true rfl⟩, hq mw_t300, hq mw_s24⟩ (pv_W (va_recv (q0 := 0) (ci := 1) hK hP rfl rfl) (hP.sub (ws' := (wd_X h0 qO qU qW qG qN qL cJ cI cZ cB fO fU fW fG fL len size)) [0, 1, 2, 3, 4, 5, 6] rfl) hK (hD.sub (ws' := (wd_X h0 qO qU qW qG qN qL cJ cI cZ cB fO fU fW fG fL len size)) [0, 1, 2, 3, 4, 5, 6] (by decide) rfl) hE) rfl rfl hl.1 rfl (lv_room (Nat.le_of_ble_eq_true rfl)) dc_X_reduced_42 ⟨Nat.le_of_ble_eq_true rfl, Nat.le_of_ble_eq_true rfl⟩) hP hD hS hA [0, 1, 2, 3, 4, 5, 6] [] rfl rfl (by decide) (by decide) (fun r42 u H locs hw hP hD hS => ?_)
    obtain ⟨fO42, fU42, fW42, fG42, fL42, len42, size42⟩ := u
    have hP : va_P (dC, dI) cs_3 (wd_X h0 qO qU qW qG qN qL cJ cI cZ cB fO42 fU42 fW42 fG42 fL42 len42 size42) H := hP.sub (ws' := (wd_X h0 qO qU qW qG qN qL cJ cI cZ cB fO42 fU42 fW42 fG42 fL42 len42 size42)) [0, 1, 2, 3, 4, 5, 6] rfl
    have hD : va_D A (wd_X h0 qO qU qW qG qN qL cJ cI cZ cB fO42 fU42 fW42 fG42 fL42 len42 size42) := hD.sub (ws' := (wd_X h0 qO qU qW qG qN qL cJ cI cZ cB fO42 fU42 fW42 fG42 fL42 len42 size42)) [0, 1, 2, 3, 4, 5, 6] (by decide) rfl
    try dsimp only at hw
    exact W.iret (v := r42) hx hb hr (fun t ht hW => ⟨⟨r42, (fO42, fU42, fW42, fG42, fL42, len42, size42), rfl, hw, by rw [ht]; exact hP, va_K.moved hW.alike hK, hD⟩, hS.F ht⟩) hS.2.2 dc_X_reduced_45
  by_cases hk4 : a1.toInt = 4
  · have hw := hs3 hk4
    refine lv_tableIn (tgt := 46) (off := 45) hx hb dc_X_reduced_1 (by rw [hk4]; decide) (by rw [hk4]; decide) (by rw [hk4]; rfl) (by decide) ?_
    refine lv_aload_n hx hb dc_X_reduced_46 rfl (lv_at hl 0 rfl) ?_
    refine lv_iload_n hx hb dc_X_reduced_47 rfl (lv_at hl 2 rfl) ?_
    refine gc_i (S := (Nat → Int64) × (Nat → Int64) × (Nat → Int32) × (Nat → Int32) × (Nat → Int32) × Int32 × Int32) (w1 := (fun u => (wd_X h0 qO qU qW qG qN qL cJ cI cZ cB u.1 u.2.1 u.2.2.1 u.2.2.2.1 u.2.2.2.2.1 u.2.2.2.2.2.1 u.2.2.2.2.2.2))) (wc := (wd_X h0 qO qU qW qG qN qL cJ cI cZ cB fO fU fW fG fL len size)) (wr := ([] : va_W)) (va_runV (As := [.int a2]) (rest := []) ⟨hx, hb, hml, hown, hts⟩ (kt_X_allOnes l dC dI cJ cI cZ cB h0 qO qU qW qG qN qL _ a2 fO fU fW fG fL len size _ hw) ⟨callB_of 1 hts (gw_in mw_t301) rfl rfl rfl (hq mw_t1) (hq mw_t298) (by decide +kernel) ⟨Nat.le_of_ble_eq_true rfl, Nat.le_of_ble_eq_true rfl⟩, hq mw_t300, hq mw_s24⟩ (pv_W (va_recv (q0 := 0) (ci := 1) hK hP rfl rfl) (hP.sub (ws' := (wd_X h0 qO qU qW qG qN qL cJ cI cZ cB fO fU fW fG fL len size)) [0, 1, 2, 3, 4, 5, 6] rfl) hK (hD.sub (ws' := (wd_X h0 qO qU qW qG qN qL cJ cI cZ cB fO fU fW fG fL len size)) [0, 1, 2, 3, 4, 5, 6] (by decide) rfl) hE) rfl rfl hl.1 rfl (lv_room (Nat.le_of_ble_eq_true rfl)) dc_X_reduced_48 ⟨Nat.le_of_ble_eq_true rfl, Nat.le_of_ble_eq_true rfl⟩) hP hD hS hA [0, 1, 2, 3, 4, 5, 6] [] rfl rfl (by decide) (by decide) (fun r48 u H locs hw hP hD hS => ?_)
    obtain ⟨fO48, fU48, fW48, fG48, fL48, len48, size48⟩ := u
    have hP : va_P (dC, dI) cs_3 (wd_X h0 qO qU qW qG qN qL cJ cI cZ cB fO48 fU48 fW48 fG48 fL48 len48 size48) H := hP.sub (ws' := (wd_X h0 qO qU qW qG qN qL cJ cI cZ cB fO48 fU48 fW48 fG48 fL48 len48 size48)) [0, 1, 2, 3, 4, 5, 6] rfl
    have hD : va_D A (wd_X h0 qO qU qW qG qN qL cJ cI cZ cB fO48 fU48 fW48 fG48 fL48 len48 size48) := hD.sub (ws' := (wd_X h0 qO qU qW qG qN qL cJ cI cZ cB fO48 fU48 fW48 fG48 fL48 len48 size48)) [0, 1, 2, 3, 4, 5, 6] (by decide) rfl
    try dsimp only at hw
    refine gc_i (S := Unit) (w1 := (fun u => ([] : va_W))) (wc := ([] : va_W)) (wr := ([(h0, .inr (1, [.ref qO, .ref qU, .ref qW, .ref qG, .ref qN, .int size48])), (qO, .inl (cJ, 64, .inr (.inl fO48))), (qU, .inl (cJ, 64, .inr (.inl fU48))), (qW, .inl (cI, 64, .inl fW48)), (qG, .inl (cZ, 64, .inl fG48)), (qN, .inr (0, [.ref qL, .int len48])), (qL, .inl (cB, 64, .inl fL48))] : va_W)) (va_runS (As := [.int r48]) (rest := []) ⟨hx, hb, hml, hown, hts⟩ (kt_X_opposite l dC dI cJ cI cZ cB _ r48 _ hw) ⟨callB_of 1 hts (gw_in mw_t246) rfl rfl rfl (hq mw_t1) (hq mw_t244) (by decide +kernel) ⟨Nat.le_of_ble_eq_true rfl, Nat.le_of_ble_eq_true rfl⟩, hq mw_t245⟩ (ps_W (hP.sub (ws' := ([] : va_W)) [] rfl) hK (hD.sub (ws' := ([] : va_W)) [] (by decide) rfl) hE) rfl rfl hl.1 rfl (lv_room (Nat.le_of_ble_eq_true rfl)) dc_X_reduced_51 ⟨Nat.le_of_ble_eq_true rfl, Nat.le_of_ble_eq_true rfl⟩) hP hD hS hA [] [0, 1, 2, 3, 4, 5, 6] rfl rfl (by decide) (by decide) (fun r51 u H locs hw hP hD hS => ?_)
    have hP : va_P (dC, dI) cs_3 (wd_X h0 qO qU qW qG qN qL cJ cI cZ cB fO48 fU48 fW48 fG48 fL48 len48 size48) H := hP.sub (ws' := (wd_X h0 qO qU qW qG qN qL cJ cI cZ cB fO48 fU48 fW48 fG48 fL48 len48 size48)) [0, 1, 2, 3, 4, 5, 6] rfl
    have hD : va_D A (wd_X h0 qO qU qW qG qN qL cJ cI cZ cB fO48 fU48 fW48 fG48 fL48 len48 size48) := hD.sub (ws' := (wd_X h0 qO qU qW qG qN qL cJ cI cZ cB fO48 fU48 fW48 fG48 fL48 len48 size48)) [0, 1, 2, 3, 4, 5, 6] (by decide) rfl
    try dsimp only at hw
    exact W.iret (v := r51) hx hb hr (fun t ht hW => ⟨⟨r51, (fO48, fU48, fW48, fG48, fL48, len48, size48), rfl, hw, by rw [ht]; exact hP, va_K.moved hW.alike hK, hD⟩, hS.F ht⟩) hS.2.2 dc_X_reduced_54
  by_cases hk5 : a1.toInt = 5
  · have hw := hs4 hk5
    refine lv_tableIn (tgt := 55) (off := 54) hx hb dc_X_reduced_1 (by rw [hk5]; decide) (by rw [hk5]; decide) (by rw [hk5]; rfl) (by decide) ?_
    refine lv_aload_n hx hb dc_X_reduced_55 rfl (lv_at hl 0 rfl) ?_
    refine lv_iload_n hx hb dc_X_reduced_56 rfl (lv_at hl 2 rfl) ?_
    refine gc_i (S := (Nat → Int64) × (Nat → Int64) × (Nat → Int32) × (Nat → Int32) × (Nat → Int32) × Int32 × Int32) (w1 := (fun u => (wd_X h0 qO qU qW qG qN qL cJ cI cZ cB u.1 u.2.1 u.2.2.1 u.2.2.2.1 u.2.2.2.2.1 u.2.2.2.2.2.1 u.2.2.2.2.2.2))) (wc := (wd_X h0 qO qU qW qG qN qL cJ cI cZ cB fO fU fW fG fL len size)) (wr := ([] : va_W)) (va_runV (As := [.int a2]) (rest := []) ⟨hx, hb, hml, hown, hts⟩ (kt_X_anyOne l dC dI cJ cI cZ cB h0 qO qU qW qG qN qL _ a2 fO fU fW fG fL len size _ hw) ⟨callB_of 1 hts (gw_in mw_t259) rfl rfl rfl (hq mw_t1) (hq mw_t256) (by decide +kernel) ⟨Nat.le_of_ble_eq_true rfl, Nat.le_of_ble_eq_true rfl⟩, hq mw_t258, hq mw_s18⟩ (pv_W (va_recv (q0 := 0) (ci := 1) hK hP rfl rfl) (hP.sub (ws' := (wd_X h0 qO qU qW qG qN qL cJ cI cZ cB fO fU fW fG fL len size)) [0, 1, 2, 3, 4, 5, 6] rfl) hK (hD.sub (ws' := (wd_X h0 qO qU qW qG qN qL cJ cI cZ cB fO fU fW fG fL len size)) [0, 1, 2, 3, 4, 5, 6] (by decide) rfl) hE) rfl rfl hl.1 rfl (lv_room (Nat.le_of_ble_eq_true rfl)) dc_X_reduced_57 ⟨Nat.le_of_ble_eq_true rfl, Nat.le_of_ble_eq_true rfl⟩) hP hD hS hA [0, 1, 2, 3, 4, 5, 6] [] rfl rfl (by decide) (by decide) (fun r57 u H locs hw hP hD hS => ?_)
    obtain ⟨fO57, fU57, fW57, fG57, fL57, len57, size57⟩ := u
    have hP : va_P (dC, dI) cs_3 (wd_X h0 qO qU qW qG qN qL cJ cI cZ cB fO57 fU57 fW57 fG57 fL57 len57 size57) H := hP.sub (ws' := (wd_X h0 qO qU qW qG qN qL cJ cI cZ cB fO57 fU57 fW57 fG57 fL57 len57 size57)) [0, 1, 2, 3, 4, 5, 6] rfl
    have hD : va_D A (wd_X h0 qO qU qW qG qN qL cJ cI cZ cB fO57 fU57 fW57 fG57 fL57 len57 size57) := hD.sub (ws' := (wd_X h0 qO qU qW qG qN qL cJ cI cZ cB fO57 fU57 fW57 fG57 fL57 len57 size57)) [0, 1, 2, 3, 4, 5, 6] (by decide) rfl
    try dsimp only at hw
    exact W.iret (v := r57) hx hb hr (fun t ht hW => ⟨⟨r57, (fO57, fU57, fW57, fG57, fL57, len57, size57), rfl, hw, by rw [ht]; exact hP, va_K.moved hW.alike hK, hD⟩, hS.F ht⟩) hS.2.2 dc_X_reduced_60
  by_cases hk6 : a1.toInt = 6
  · have hw := hs5 hk6
    refine lv_tableIn (tgt := 61) (off := 60) hx hb dc_X_reduced_1 (by rw [hk6]; decide) (by rw [hk6]; decide) (by rw [hk6]; rfl) (by decide) ?_
    exact B_61 _ _ _ a2 fO fU fW fG fL len size hw hP hD hS (lv_sub hl [0, 2] rfl)
  have hk7 : a1.toInt = 7 := by omega
  have hw := hs6 hk7
  refine lv_tableIn (tgt := 70) (off := 69) hx hb dc_X_reduced_1 (by rw [hk7]; decide) (by rw [hk7]; decide) (by rw [hk7]; rfl) (by decide) ?_
  refine lv_aload_n hx hb dc_X_reduced_70 rfl (lv_at hl 0 rfl) ?_
  refine lv_iload_n hx hb dc_X_reduced_71 rfl (lv_at hl 2 rfl) ?_
  refine gc_i (S := (Nat → Int64) × (Nat → Int64) × (Nat → Int32) × (Nat → Int32) × (Nat → Int32) × Int32 × Int32) (w1 := (fun u => (wd_X h0 qO qU qW qG qN qL cJ cI cZ cB u.1 u.2.1 u.2.2.1 u.2.2.2.1 u.2.2.2.2.1 u.2.2.2.2.2.1 u.2.2.2.2.2.2))) (wc := (wd_X h0 qO qU qW qG qN qL cJ cI cZ cB fO fU fW fG fL len size)) (wr := ([] : va_W)) (va_runV (As := [.int a2]) (rest := []) ⟨hx, hb, hml, hown, hts⟩ (kt_X_oddOnes l dC dI cJ cI cZ cB h0 qO qU qW qG qN qL _ a2 fO fU fW fG fL len size _ hw) ⟨callB_of 1 hts (gw_in mw_t305) rfl rfl rfl (hq mw_t1) (hq mw_t302) (by decide +kernel) ⟨Nat.le_of_ble_eq_true rfl, Nat.le_of_ble_eq_true rfl⟩, hq mw_t304, hq mw_s25⟩ (pv_W (va_recv (q0 := 0) (ci := 1) hK hP rfl rfl) (hP.sub (ws' := (wd_X h0 qO qU qW qG qN qL cJ cI cZ cB fO fU fW fG fL len size)) [0, 1, 2, 3, 4, 5, 6] rfl) hK (hD.sub (ws' := (wd_X h0 qO qU qW qG qN qL cJ cI cZ cB fO fU fW fG fL len size)) [0, 1, 2, 3, 4, 5, 6] (by decide) rfl) hE) rfl rfl hl.1 rfl (lv_room (Nat.le_of_ble_eq_true rfl)) dc_X_reduced_72 ⟨Nat.le_of_ble_eq_true rfl, Nat.le_of_ble_eq_true rfl⟩) hP hD hS hA [0, 1, 2, 3, 4, 5, 6] [] rfl rfl (by decide) (by decide) (fun r72 u H locs hw hP hD hS => ?_)
  obtain ⟨fO72, fU72, fW72, fG72, fL72, len72, size72⟩ := u
  have hP : va_P (dC, dI) cs_3 (wd_X h0 qO qU qW qG qN qL cJ cI cZ cB fO72 fU72 fW72 fG72 fL72 len72 size72) H := hP.sub (ws' := (wd_X h0 qO qU qW qG qN qL cJ cI cZ cB fO72 fU72 fW72 fG72 fL72 len72 size72)) [0, 1, 2, 3, 4, 5, 6] rfl
  have hD : va_D A (wd_X h0 qO qU qW qG qN qL cJ cI cZ cB fO72 fU72 fW72 fG72 fL72 len72 size72) := hD.sub (ws' := (wd_X h0 qO qU qW qG qN qL cJ cI cZ cB fO72 fU72 fW72 fG72 fL72 len72 size72)) [0, 1, 2, 3, 4, 5, 6] (by decide) rfl
  try dsimp only at hw
  exact W.iret (v := r72) hx hb hr (fun t ht hW => ⟨⟨r72, (fO72, fU72, fW72, fG72, fL72, len72, size72), rfl, hw, by rw [ht]; exact hP, va_K.moved hW.alike hK, hD⟩, hS.F ht⟩) hS.2.2 dc_X_reduced_75
set_option maxHeartbeats 4000000 in
set_option maxRecDepth 100000 in
theorem kt_X_negate (l : Launch) (dC : Nat → ClassId) (dI : Nat → Nat → Nat) (cJ cI cZ cB : ClassId) (h0 qO qU qW qG qN qL : Nat) (sz : Nat) (a1 : Int32) (fO : (Nat → Int64)) (fU : (Nat → Int64)) (fW : (Nat → Int32)) (fG : (Nat → Int32)) (fL : (Nat → Int32)) (len : Int32) (size : Int32) (post : (Nat → Int64) → (Nat → Int64) → (Nat → Int32) → (Nat → Int32) → (Nat → Int32) → Int32 → Int32 → Prop) (hw : wp_X_negate post a1 fO fU fW fG fL len size) : Met l yn_X_negate ws_X_negate rm_X_negate (va_Pc [.ref h0, .int a1] (pc_W (dC, dI) (ty_4 cJ cI cZ cB) (wd_X h0 qO qU qW qG qN qL cJ cI cZ cB fO fU fW fG fL len size) sz)) (qv_X dC dI cJ cI cZ cB h0 qO qU qW qG qN qL post (va_A (wd_X h0 qO qU qW qG qN qL cJ cI cZ cB fO fU fW fG fL len size) sz)) 0 0 (va_A (wd_X h0 qO qU qW qG qN qL cJ cI cZ cB fO fU fW fG fL len size) sz) := by
  refine Met.ofW (cc := cd_X_negate) (maxL := 2) (ret := none) (by decide) rfl ?_
  intro p e s m args below meth c s₁ B hml hv
  obtain ⟨rfl, hsz, hP, hK, hD0, hE⟩ := hv
  have hx := B.exec
  have hb := B.bytes
  have hr := B.returns
  have hts := atoms_spec (ws := ws_X_negate) B.pre
  have hq : ∀ {w : Cond}, w ∈ wg_all → w.before ([.ref h0, .int a1] : List Value).toArray s = true := fun h => hts _ (List.mem_cons_of_mem _ h)
  have hu : ∀ L : List Cond, (∀ w ∈ L, w ∈ wg_all) → ∀ w ∈ L, w ∈ ws_X_negate := fun L h w hw => List.mem_cons_of_mem _ (h w hw)
  have hown : s.vm.findClass "FourWords" = some m.cls := findClass_of_methodNamed B.named
  have hlocks := B.notSynchronized
  subst hsz
  have hD := hD0.self (sz := s.heap.size)
  generalize hAe : va_A (wd_X h0 qO qU qW qG qN qL cJ cI cZ cB fO fU fW fG fL len size) s.heap.size = A at hD ⊢
  have hA : ∀ q : Nat, s.heap.size ≤ q → A q := fun q h => by rw [← hAe]; exact Or.inr h
  have hS : va_S A s.heap s.heap [] := va_S.rf
  have hl := lv_entry [.ref h0, .int a1] (n := 2) (Nat.le_of_ble_eq_true rfl)
  rw [lg_entry_eq]
  generalize (lg_sl [.ref h0, .int a1] ++ List.replicate (2 - (lg_sl [.ref h0, .int a1]).length) Slot.unset).toArray = ls at hl ⊢
  have hl : lv_has ls 2 [(0, .ref h0), (1, .int a1)] := hl
  have B_32 : ∀ (H : Heap) (locs : List Loc) (ls : Array Slot) (fO : (Nat → Int64)) (fU : (Nat → Int64)) (fW : (Nat → Int32)) (fG : (Nat → Int32)) (fL : (Nat → Int32)) (len : Int32) (size : Int32), wp_X_negate_32 post fO fU fW fG fL len size → va_P (dC, dI) cs_3 (wd_X h0 qO qU qW qG qN qL cJ cI cZ cB fO fU fW fG fL len size) H → va_D A (wd_X h0 qO qU qW qG qN qL cJ cI cZ cB fO fU fW fG fL len size) → va_S A s.heap H locs → lv_has ls 2 [] → W p l e (headSpec ws_X_negate rm_X_negate).room s m ([.ref h0, .int a1] : List Value).toArray below meth c H locs 0 0 (MQ below (qv_X dC dI cJ cI cZ cB h0 qO qU qW qG qN qL post A) ([.ref h0, .int a1] : List Value).toArray s 0 0 A) (F0 m 32 ls []) := by
    intro H locs ls fO fU fW fG fL len size hw hP hD hS hl
    unfold wp_X_negate_32 at hw
    exact W.vret hx hb hr (fun t ht hW => ⟨⟨(fO, fU, fW, fG, fL, len, size), rfl, hw, by rw [ht]; exact hP, va_K.moved hW.alike hK, hD⟩, hS.F ht⟩) hS.2.2 dc_X_negate_32
  unfold wp_X_negate at hw
  refine lv_aload_n hx hb dc_X_negate_0 rfl (lv_at hl 0 rfl) ?_
  refine va_get (D := (dC, dI)) (ci := 1) (v := .ref qU) (C := "FourWords") (T := tb_X) (N := 6) hx hb hts (hu _ um_X) hown hK hP 0 rfl rfl 1 (by decide) (hq mw_t41) (fun _ h9 => h9) rfl dc_X_negate_1 ?_
  refine lv_iload_n hx hb dc_X_negate_4 rfl (lv_at hl 1 rfl) ?_
  obtain ⟨hin, hw⟩ := hw
  refine va_lald hx hb hK hP 2 0 rfl rfl hin dc_X_negate_5 ?_
  refine lv_lconst (v := 0) hx hb dc_X_negate_6 (by decide) ?_
  refine W.lcmp hx hb dc_X_negate_7 ?_
  obtain ⟨hw1, hw2⟩ := hw
  refine lv_if_eq (tgt := 19) hx hb dc_X_negate_8 (by decide) (fun hc => ?_) (fun hc => ?_)
  · have hw := hw1 hc
    clear hw1 hw2
    refine lv_aload_n hx hb dc_X_negate_19 rfl (lv_at hl 0 rfl) ?_
    refine lv_iload_n hx hb dc_X_negate_20 rfl (lv_at hl 1 rfl) ?_
    refine lv_aload_n hx hb dc_X_negate_21 rfl (lv_at hl 0 rfl) ?_
    refine va_get (D := (dC, dI)) (ci := 1) (v := .ref qO) (C := "FourWords") (T := tb_X) (N := 6) hx hb hts (hu _ um_X) hown hK hP 0 rfl rfl 0 (by decide) (hq mw_t40) (fun _ h9 => h9) rfl dc_X_negate_22 ?_
    refine lv_iload_n hx hb dc_X_negate_25 rfl (lv_at hl 1 rfl) ?_
    obtain ⟨hin, hw⟩ := hw
    refine va_lald hx hb hK hP 1 0 rfl rfl hin dc_X_negate_26 ?_
    refine lv_lneg hx hb dc_X_negate_27 ?_
    refine lv_lconst (v := 0) hx hb dc_X_negate_28 (by decide) ?_
    refine gc_v (S := (Nat → Int64) × (Nat → Int64) × (Nat → Int32) × (Nat → Int32) × (Nat → Int32) × Int32 × Int32) (w1 := (fun u => (wd_X h0 qO qU qW qG qN qL cJ cI cZ cB u.1 u.2.1 u.2.2.1 u.2.2.2.1 u.2.2.2.2.1 u.2.2.2.2.2.1 u.2.2.2.2.2.2))) (wc := (wd_X h0 qO qU qW qG qN qL cJ cI cZ cB fO fU fW fG fL len size)) (wr := ([] : va_W)) (va_runV (As := [.int a1, .long (-(fO a1.toNatClampNeg)), .long (0 : Int64)]) (rest := []) ⟨hx, hb, hml, hown, hts⟩ (kt_X_setBits l dC dI cJ cI cZ cB h0 qO qU qW qG qN qL _ a1 (-(fO a1.toNatClampNeg)) (0 : Int64) fO fU fW fG fL len size _ hw) ⟨callB_of 3 hts (gw_in mw_t169) rfl rfl rfl (hq mw_t1) (hq mw_t166) (by decide +kernel) ⟨Nat.le_of_ble_eq_true rfl, Nat.le_of_ble_eq_true rfl⟩, hq mw_t168, hq mw_s3⟩ (pv_W (va_recv (q0 := 0) (ci := 1) hK hP rfl rfl) (hP.sub (ws' := (wd_X h0 qO qU qW qG qN qL cJ cI cZ cB fO fU fW fG fL len size)) [0, 1, 2, 3, 4, 5, 6] rfl) hK (hD.sub (ws' := (wd_X h0 qO qU qW qG qN qL cJ cI cZ cB fO fU fW fG fL len size)) [0, 1, 2, 3, 4, 5, 6] (by decide) rfl) hE) rfl rfl hl.1 rfl (lv_room (Nat.le_of_ble_eq_true rfl)) dc_X_negate_29 ⟨Nat.le_of_ble_eq_true rfl, Nat.le_of_ble_eq_true rfl⟩) hP hD hS hA [0, 1, 2, 3, 4, 5, 6] [] rfl rfl (by decide) (by decide) (fun u H locs hw hP hD hS => ?_)
    obtain ⟨fO29, fU29, fW29, fG29, fL29, len29, size29⟩ := u
    have hP : va_P (dC, dI) cs_3 (wd_X h0 qO qU qW qG qN qL cJ cI cZ cB fO29 fU29 fW29 fG29 fL29 len29 size29) H := hP.sub (ws' := (wd_X h0 qO qU qW qG qN qL cJ cI cZ cB fO29 fU29 fW29 fG29 fL29 len29 size29)) [0, 1, 2, 3, 4, 5, 6] rfl
    have hD : va_D A (wd_X h0 qO qU qW qG qN qL cJ cI cZ cB fO29 fU29 fW29 fG29 fL29 len29 size29) := hD.sub (ws' := (wd_X h0 qO qU qW qG qN qL cJ cI cZ cB fO29 fU29 fW29 fG29 fL29 len29 size29)) [0, 1, 2, 3, 4, 5, 6] (by decide) rfl
    try dsimp only at hw
    exact B_32 _ _ _ fO29 fU29 fW29 fG29 fL29 len29 size29 hw hP hD hS (lv_sub hl [] rfl)
  · have hw := hw2 hc
    clear hw1 hw2
    refine lv_aload_n hx hb dc_X_negate_11 rfl (lv_at hl 0 rfl) ?_
    refine lv_iload_n hx hb dc_X_negate_12 rfl (lv_at hl 1 rfl) ?_
    refine gc_v (S := (Nat → Int64) × (Nat → Int64) × (Nat → Int32) × (Nat → Int32) × (Nat → Int32) × Int32 × Int32) (w1 := (fun u => (wd_X h0 qO qU qW qG qN qL cJ cI cZ cB u.1 u.2.1 u.2.2.1 u.2.2.2.1 u.2.2.2.2.1 u.2.2.2.2.2.1 u.2.2.2.2.2.2))) (wc := (wd_X h0 qO qU qW qG qN qL cJ cI cZ cB fO fU fW fG fL len size)) (wr := ([] : va_W)) (va_runV (As := [.int a1]) (rest := []) ⟨hx, hb, hml, hown, hts⟩ (kt_X_fillWithX l dC dI cJ cI cZ cB h0 qO qU qW qG qN qL _ a1 fO fU fW fG fL len size _ hw) ⟨callB_of 1 hts (gw_in mw_t211) rfl rfl rfl (hq mw_t1) (hq mw_t208) (by decide +kernel) ⟨Nat.le_of_ble_eq_true rfl, Nat.le_of_ble_eq_true rfl⟩, hq mw_t210, hq mw_s9⟩ (pv_W (va_recv (q0 := 0) (ci := 1) hK hP rfl rfl) (hP.sub (ws' := (wd_X h0 qO qU qW qG qN qL cJ cI cZ cB fO fU fW fG fL len size)) [0, 1, 2, 3, 4, 5, 6] rfl) hK (hD.sub (ws' := (wd_X h0 qO qU qW qG qN qL cJ cI cZ cB fO fU fW fG fL len size)) [0, 1, 2, 3, 4, 5, 6] (by decide) rfl) hE) rfl rfl hl.1 rfl (lv_room (Nat.le_of_ble_eq_true rfl)) dc_X_negate_13 ⟨Nat.le_of_ble_eq_true rfl, Nat.le_of_ble_eq_true rfl⟩) hP hD hS hA [0, 1, 2, 3, 4, 5, 6] [] rfl rfl (by decide) (by decide) (fun u H locs hw hP hD hS => ?_)
    obtain ⟨fO13, fU13, fW13, fG13, fL13, len13, size13⟩ := u
    have hP : va_P (dC, dI) cs_3 (wd_X h0 qO qU qW qG qN qL cJ cI cZ cB fO13 fU13 fW13 fG13 fL13 len13 size13) H := hP.sub (ws' := (wd_X h0 qO qU qW qG qN qL cJ cI cZ cB fO13 fU13 fW13 fG13 fL13 len13 size13)) [0, 1, 2, 3, 4, 5, 6] rfl
    have hD : va_D A (wd_X h0 qO qU qW qG qN qL cJ cI cZ cB fO13 fU13 fW13 fG13 fL13 len13 size13) := hD.sub (ws' := (wd_X h0 qO qU qW qG qN qL cJ cI cZ cB fO13 fU13 fW13 fG13 fL13 len13 size13)) [0, 1, 2, 3, 4, 5, 6] (by decide) rfl
    try dsimp only at hw
    refine lv_goto (tgt := 32) hx hb dc_X_negate_16 (by decide) ?_
    exact B_32 _ _ _ fO13 fU13 fW13 fG13 fL13 len13 size13 hw hP hD hS (lv_sub hl [] rfl)
set_option maxHeartbeats 4000000 in
set_option maxRecDepth 100000 in
theorem kt_X_moveLeft (l : Launch) (dC : Nat → ClassId) (dI : Nat → Nat → Nat) (cJ cI cZ cB : ClassId) (h0 qO qU qW qG qN qL : Nat) (sz : Nat) (a1 : Int32) (a2 : Int64) (fO : (Nat → Int64)) (fU : (Nat → Int64)) (fW : (Nat → Int32)) (fG : (Nat → Int32)) (fL : (Nat → Int32)) (len : Int32) (size : Int32) (post : (Nat → Int64) → (Nat → Int64) → (Nat → Int32) → (Nat → Int32) → (Nat → Int32) → Int32 → Int32 → Prop) (hw : wp_X_moveLeft post a1 a2 fO fU fW fG fL len size) : Met l yn_X_moveLeft ws_X_moveLeft rm_X_moveLeft (va_Pc [.ref h0, .int a1, .long a2] (pc_W (dC, dI) (ty_4 cJ cI cZ cB) (wd_X h0 qO qU qW qG qN qL cJ cI cZ cB fO fU fW fG fL len size) sz)) (qv_X dC dI cJ cI cZ cB h0 qO qU qW qG qN qL post (va_A (wd_X h0 qO qU qW qG qN qL cJ cI cZ cB fO fU fW fG fL len size) sz)) 0 0 (va_A (wd_X h0 qO qU qW qG qN qL cJ cI cZ cB fO fU fW fG fL len size) sz) := by
  refine Met.ofW (cc := cd_X_moveLeft) (maxL := 4) (ret := none) (by decide) rfl ?_
  intro p e s m args below meth c s₁ B hml hv
  obtain ⟨rfl, hsz, hP, hK, hD0, hE⟩ := hv
  have hx := B.exec
  have hb := B.bytes
  have hr := B.returns
  have hts := atoms_spec (ws := ws_X_moveLeft) B.pre
  have hq : ∀ {w : Cond}, w ∈ wg_all → w.before ([.ref h0, .int a1, .long a2] : List Value).toArray s = true := fun h => hts _ (List.mem_cons_of_mem _ h)
  have hu : ∀ L : List Cond, (∀ w ∈ L, w ∈ wg_all) → ∀ w ∈ L, w ∈ ws_X_moveLeft := fun L h w hw => List.mem_cons_of_mem _ (h w hw)
  have hown : s.vm.findClass "FourWords" = some m.cls := findClass_of_methodNamed B.named
  have hlocks := B.notSynchronized
  subst hsz
  have hD := hD0.self (sz := s.heap.size)
  generalize hAe : va_A (wd_X h0 qO qU qW qG qN qL cJ cI cZ cB fO fU fW fG fL len size) s.heap.size = A at hD ⊢
  have hA : ∀ q : Nat, s.heap.size ≤ q → A q := fun q h => by rw [← hAe]; exact Or.inr h
  have hS : va_S A s.heap s.heap [] := va_S.rf
  have hl := lv_entry [.ref h0, .int a1, .long a2] (n := 4) (Nat.le_of_ble_eq_true rfl)
  rw [lg_entry_eq]
  generalize (lg_sl [.ref h0, .int a1, .long a2] ++ List.replicate (4 - (lg_sl [.ref h0, .int a1, .long a2]).length) Slot.unset).toArray = ls at hl ⊢
  have hl : lv_has ls 4 [(0, .ref h0), (1, .int a1), (2, .long a2)] := hl
  have B_43 : ∀ (H : Heap) (locs : List Loc) (ls : Array Slot) (fO : (Nat → Int64)) (fU : (Nat → Int64)) (fW : (Nat → Int32)) (fG : (Nat → Int32)) (fL : (Nat → Int32)) (len : Int32) (size : Int32), wp_X_moveLeft_43 post fO fU fW fG fL len size → va_P (dC, dI) cs_3 (wd_X h0 qO qU qW qG qN qL cJ cI cZ cB fO fU fW fG fL len size) H → va_D A (wd_X h0 qO qU qW qG qN qL cJ cI cZ cB fO fU fW fG fL len size) → va_S A s.heap H locs → lv_has ls 4 [] → W p l e (headSpec ws_X_moveLeft rm_X_moveLeft).room s m ([.ref h0, .int a1, .long a2] : List Value).toArray below meth c H locs 0 0 (MQ below (qv_X dC dI cJ cI cZ cB h0 qO qU qW qG qN qL post A) ([.ref h0, .int a1, .long a2] : List Value).toArray s 0 0 A) (F0 m 43 ls []) := by
    intro H locs ls fO fU fW fG fL len size hw hP hD hS hl
    unfold wp_X_moveLeft_43 at hw
    exact W.vret hx hb hr (fun t ht hW => ⟨⟨(fO, fU, fW, fG, fL, len, size), rfl, hw, by rw [ht]; exact hP, va_K.moved hW.alike hK, hD⟩, hS.F ht⟩) hS.2.2 dc_X_moveLeft_43
  unfold wp_X_moveLeft at hw
  refine lv_lload_n hx hb dc_X_moveLeft_0 rfl (lv_at hl 2 rfl) ?_
  refine lv_ldc2 (v := 64) hx hb hown (hq mw_t278) dc_X_moveLeft_1 ?_
  refine gc_i (S := Unit) (w1 := (fun u => ([] : va_W))) (wc := ([] : va_W)) (wr := ([(h0, .inr (1, [.ref qO, .ref qU, .ref qW, .ref qG, .ref qN, .int size])), (qO, .inl (cJ, 64, .inr (.inl fO))), (qU, .inl (cJ, 64, .inr (.inl fU))), (qW, .inl (cI, 64, .inl fW)), (qG, .inl (cZ, 64, .inl fG)), (qN, .inr (0, [.ref qL, .int len])), (qL, .inl (cB, 64, .inl fL))] : va_W)) (va_runSN (As := [.long a2, .long (64 : Int64)]) (rest := []) ⟨hx, hb, hml, hown, hts⟩ (kt_B_below l dC dI cJ cI cZ cB _ a2 (64 : Int64) _ hw) ⟨va_cnB 2 hts (gw_in mw_t218) rfl rfl rfl (en_X192 hE) (hq mw_t9) (by decide +kernel) ⟨Nat.le_of_ble_eq_true rfl, Nat.le_of_ble_eq_true rfl⟩, hq mw_t217, trivial⟩ (ps_W (hP.sub (ws' := ([] : va_W)) [] rfl) hK (hD.sub (ws' := ([] : va_W)) [] (by decide) rfl) hE) rfl rfl hl.1 rfl (lv_room (Nat.le_of_ble_eq_true rfl)) dc_X_moveLeft_4 ⟨Nat.le_of_ble_eq_true rfl, Nat.le_of_ble_eq_true rfl⟩) hP hD hS hA [] [0, 1, 2, 3, 4, 5, 6] rfl rfl (by decide) (by decide) (fun r4 u H locs hw hP hD hS => ?_)
  have hP : va_P (dC, dI) cs_3 (wd_X h0 qO qU qW qG qN qL cJ cI cZ cB fO fU fW fG fL len size) H := hP.sub (ws' := (wd_X h0 qO qU qW qG qN qL cJ cI cZ cB fO fU fW fG fL len size)) [0, 1, 2, 3, 4, 5, 6] rfl
  have hD : va_D A (wd_X h0 qO qU qW qG qN qL cJ cI cZ cB fO fU fW fG fL len size) := hD.sub (ws' := (wd_X h0 qO qU qW qG qN qL cJ cI cZ cB fO fU fW fG fL len size)) [0, 1, 2, 3, 4, 5, 6] (by decide) rfl
  try dsimp only at hw
  obtain ⟨hw1, hw2⟩ := hw
  refine lv_if_ne (tgt := 20) hx hb dc_X_moveLeft_7 (by decide) (fun hc => ?_) (fun hc => ?_)
  · have hw := hw1 hc
    clear hw1 hw2
    refine lv_aload_n hx hb dc_X_moveLeft_20 rfl (lv_at hl 0 rfl) ?_
    refine lv_iload_n hx hb dc_X_moveLeft_21 rfl (lv_at hl 1 rfl) ?_
    refine lv_aload_n hx hb dc_X_moveLeft_22 rfl (lv_at hl 0 rfl) ?_
    refine va_get (D := (dC, dI)) (ci := 1) (v := .ref qO) (C := "FourWords") (T := tb_X) (N := 6) hx hb hts (hu _ um_X) hown hK hP 0 rfl rfl 0 (by decide) (hq mw_t40) (fun _ h9 => h9) rfl dc_X_moveLeft_23 ?_
    refine lv_iload_n hx hb dc_X_moveLeft_26 rfl (lv_at hl 1 rfl) ?_
    obtain ⟨hin, hw⟩ := hw
    refine va_lald hx hb hK hP 1 0 rfl rfl hin dc_X_moveLeft_27 ?_
    refine lv_lload_n hx hb dc_X_moveLeft_28 rfl (lv_at hl 2 rfl) ?_
    refine lv_l2i hx hb dc_X_moveLeft_29 rfl ?_
    refine lv_lshl hx hb dc_X_moveLeft_30 rfl ?_
    refine lv_aload_n hx hb dc_X_moveLeft_31 rfl (lv_at hl 0 rfl) ?_
    refine va_get (D := (dC, dI)) (ci := 1) (v := .ref qU) (C := "FourWords") (T := tb_X) (N := 6) hx hb hts (hu _ um_X) hown hK hP 0 rfl rfl 1 (by decide) (hq mw_t41) (fun _ h9 => h9) rfl dc_X_moveLeft_32 ?_
    refine lv_iload_n hx hb dc_X_moveLeft_35 rfl (lv_at hl 1 rfl) ?_
    obtain ⟨hin, hw⟩ := hw
    refine va_lald hx hb hK hP 2 0 rfl rfl hin dc_X_moveLeft_36 ?_
    refine lv_lload_n hx hb dc_X_moveLeft_37 rfl (lv_at hl 2 rfl) ?_
    refine lv_l2i hx hb dc_X_moveLeft_38 rfl ?_
    refine lv_lshl hx hb dc_X_moveLeft_39 rfl ?_
    refine gc_v (S := (Nat → Int64) × (Nat → Int64) × (Nat → Int32) × (Nat → Int32) × (Nat → Int32) × Int32 × Int32) (w1 := (fun u => (wd_X h0 qO qU qW qG qN qL cJ cI cZ cB u.1 u.2.1 u.2.2.1 u.2.2.2.1 u.2.2.2.2.1 u.2.2.2.2.2.1 u.2.2.2.2.2.2))) (wc := (wd_X h0 qO qU qW qG qN qL cJ cI cZ cB fO fU fW fG fL len size)) (wr := ([] : va_W)) (va_runV (As := [.int a1, .long ((fO a1.toNatClampNeg) <<< (a2.toInt32.toInt64 &&& 63)), .long ((fU a1.toNatClampNeg) <<< (a2.toInt32.toInt64 &&& 63))]) (rest := []) ⟨hx, hb, hml, hown, hts⟩ (kt_X_setBits l dC dI cJ cI cZ cB h0 qO qU qW qG qN qL _ a1 ((fO a1.toNatClampNeg) <<< (a2.toInt32.toInt64 &&& 63)) ((fU a1.toNatClampNeg) <<< (a2.toInt32.toInt64 &&& 63)) fO fU fW fG fL len size _ hw) ⟨callB_of 3 hts (gw_in mw_t169) rfl rfl rfl (hq mw_t1) (hq mw_t166) (by decide +kernel) ⟨Nat.le_of_ble_eq_true rfl, Nat.le_of_ble_eq_true rfl⟩, hq mw_t168, hq mw_s3⟩ (pv_W (va_recv (q0 := 0) (ci := 1) hK hP rfl rfl) (hP.sub (ws' := (wd_X h0 qO qU qW qG qN qL cJ cI cZ cB fO fU fW fG fL len size)) [0, 1, 2, 3, 4, 5, 6] rfl) hK (hD.sub (ws' := (wd_X h0 qO qU qW qG qN qL cJ cI cZ cB fO fU fW fG fL len size)) [0, 1, 2, 3, 4, 5, 6] (by decide) rfl) hE) rfl rfl hl.1 rfl (lv_room (Nat.le_of_ble_eq_true rfl)) dc_X_moveLeft_40 ⟨Nat.le_of_ble_eq_true rfl, Nat.le_of_ble_eq_true rfl⟩) hP hD hS hA [0, 1, 2, 3, 4, 5, 6] [] rfl rfl (by decide) (by decide) (fun u H locs hw hP hD hS => ?_)
    obtain ⟨fO40, fU40, fW40, fG40, fL40, len40, size40⟩ := u
    have hP : va_P (dC, dI) cs_3 (wd_X h0 qO qU qW qG qN qL cJ cI cZ cB fO40 fU40 fW40 fG40 fL40 len40 size40) H := hP.sub (ws' := (wd_X h0 qO qU qW qG qN qL cJ cI cZ cB fO40 fU40 fW40 fG40 fL40 len40 size40)) [0, 1, 2, 3, 4, 5, 6] rfl
    have hD : va_D A (wd_X h0 qO qU qW qG qN qL cJ cI cZ cB fO40 fU40 fW40 fG40 fL40 len40 size40) := hD.sub (ws' := (wd_X h0 qO qU qW qG qN qL cJ cI cZ cB fO40 fU40 fW40 fG40 fL40 len40 size40)) [0, 1, 2, 3, 4, 5, 6] (by decide) rfl
    try dsimp only at hw
    exact B_43 _ _ _ fO40 fU40 fW40 fG40 fL40 len40 size40 hw hP hD hS (lv_sub hl [] rfl)
  · have hw := hw2 (fun h9 => h9 hc)
    clear hw1 hw2
    refine lv_aload_n hx hb dc_X_moveLeft_10 rfl (lv_at hl 0 rfl) ?_
    refine lv_iload_n hx hb dc_X_moveLeft_11 rfl (lv_at hl 1 rfl) ?_
    refine lv_lconst (v := 0) hx hb dc_X_moveLeft_12 (by decide) ?_
    refine lv_lconst (v := 0) hx hb dc_X_moveLeft_13 (by decide) ?_
    refine gc_v (S := (Nat → Int64) × (Nat → Int64) × (Nat → Int32) × (Nat → Int32) × (Nat → Int32) × Int32 × Int32) (w1 := (fun u => (wd_X h0 qO qU qW qG qN qL cJ cI cZ cB u.1 u.2.1 u.2.2.1 u.2.2.2.1 u.2.2.2.2.1 u.2.2.2.2.2.1 u.2.2.2.2.2.2))) (wc := (wd_X h0 qO qU qW qG qN qL cJ cI cZ cB fO fU fW fG fL len size)) (wr := ([] : va_W)) (va_runV (As := [.int a1, .long (0 : Int64), .long (0 : Int64)]) (rest := []) ⟨hx, hb, hml, hown, hts⟩ (kt_X_setBits l dC dI cJ cI cZ cB h0 qO qU qW qG qN qL _ a1 (0 : Int64) (0 : Int64) fO fU fW fG fL len size _ hw) ⟨callB_of 3 hts (gw_in mw_t169) rfl rfl rfl (hq mw_t1) (hq mw_t166) (by decide +kernel) ⟨Nat.le_of_ble_eq_true rfl, Nat.le_of_ble_eq_true rfl⟩, hq mw_t168, hq mw_s3⟩ (pv_W (va_recv (q0 := 0) (ci := 1) hK hP rfl rfl) (hP.sub (ws' := (wd_X h0 qO qU qW qG qN qL cJ cI cZ cB fO fU fW fG fL len size)) [0, 1, 2, 3, 4, 5, 6] rfl) hK (hD.sub (ws' := (wd_X h0 qO qU qW qG qN qL cJ cI cZ cB fO fU fW fG fL len size)) [0, 1, 2, 3, 4, 5, 6] (by decide) rfl) hE) rfl rfl hl.1 rfl (lv_room (Nat.le_of_ble_eq_true rfl)) dc_X_moveLeft_14 ⟨Nat.le_of_ble_eq_true rfl, Nat.le_of_ble_eq_true rfl⟩) hP hD hS hA [0, 1, 2, 3, 4, 5, 6] [] rfl rfl (by decide) (by decide) (fun u H locs hw hP hD hS => ?_)
    obtain ⟨fO14, fU14, fW14, fG14, fL14, len14, size14⟩ := u
    have hP : va_P (dC, dI) cs_3 (wd_X h0 qO qU qW qG qN qL cJ cI cZ cB fO14 fU14 fW14 fG14 fL14 len14 size14) H := hP.sub (ws' := (wd_X h0 qO qU qW qG qN qL cJ cI cZ cB fO14 fU14 fW14 fG14 fL14 len14 size14)) [0, 1, 2, 3, 4, 5, 6] rfl
    have hD : va_D A (wd_X h0 qO qU qW qG qN qL cJ cI cZ cB fO14 fU14 fW14 fG14 fL14 len14 size14) := hD.sub (ws' := (wd_X h0 qO qU qW qG qN qL cJ cI cZ cB fO14 fU14 fW14 fG14 fL14 len14 size14)) [0, 1, 2, 3, 4, 5, 6] (by decide) rfl
    try dsimp only at hw
    refine lv_goto (tgt := 43) hx hb dc_X_moveLeft_17 (by decide) ?_
    exact B_43 _ _ _ fO14 fU14 fW14 fG14 fL14 len14 size14 hw hP hD hS (lv_sub hl [] rfl)

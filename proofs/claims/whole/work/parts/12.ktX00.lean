set_option maxHeartbeats 4000000 in
set_option maxRecDepth 100000 in
theorem kt_X_demandRange_k (l : Launch) (dC : Nat → ClassId) (dI : Nat → Nat → Nat) (cJ cI cZ cB : ClassId) (sz : Nat) (a0 : Int32) (a1 : Int32) (a2 : Int32) (post : Prop) (hw : wp_X_demandRange_k post a0 a1 a2) : Met l yn_X_demandRange ws_X_demandRange rm_X_demandRange_k (va_Pc [.int a0, .int a1, .int a2] (pc_W (dC, dI) (ty_4 cJ cI cZ cB) ([] : va_W) sz)) (qv_0 dC dI cJ cI cZ cB post (va_A ([] : va_W) sz)) 0 0 (va_A ([] : va_W) sz) := by
  refine Met.ofW (cc := cd_X_demandRange) (maxL := 3) (ret := none) (by decide) rfl ?_
  intro p e s m args below meth c s₁ B hml hv
  obtain ⟨rfl, hsz, hP, hK, hD0, hE⟩ := hv
  have hx := B.exec
  have hb := B.bytes
  have hr := B.returns
  have hts := atoms_spec (ws := ws_X_demandRange) B.pre
  have hq : ∀ {w : Cond}, w ∈ wg_all → w.before ([.int a0, .int a1, .int a2] : List Value).toArray s = true := fun h => hts _ (List.mem_cons_of_mem _ h)
  have hu : ∀ L : List Cond, (∀ w ∈ L, w ∈ wg_all) → ∀ w ∈ L, w ∈ ws_X_demandRange := fun L h w hw => List.mem_cons_of_mem _ (h w hw)
  have hown : s.vm.findClass "FourWords" = some m.cls := findClass_of_methodNamed B.named
  have hlocks := B.notSynchronized
  subst hsz
  have hD := hD0.self (sz := s.heap.size)
  generalize hAe : va_A ([] : va_W) s.heap.size = A at hD ⊢
  have hA : ∀ q : Nat, s.heap.size ≤ q → A q := fun q h => by rw [← hAe]; exact Or.inr h
  have hS : va_S A s.heap s.heap [] := va_S.rf
  have hl := lv_entry [.int a0, .int a1, .int a2] (n := 3) (Nat.le_of_ble_eq_true rfl)
  rw [lg_entry_eq]
  generalize (lg_sl [.int a0, .int a1, .int a2] ++ List.replicate (3 - (lg_sl [.int a0, .int a1, .int a2]).length) Slot.unset).toArray = ls at hl ⊢
  have hl : lv_has ls 3 [(0, .int a0), (1, .int a1), (2, .int a2)] := hl
  have B_10 : ∀ (H : Heap) (locs : List Loc) (ls : Array Slot), wp_X_demandRange_k_10 post  → va_P (dC, dI) cs_3 ([] : va_W) H → va_D A ([] : va_W) → va_S A s.heap H locs → lv_has ls 3 [] → W p l e (headSpec ws_X_demandRange rm_X_demandRange_k).room s m ([.int a0, .int a1, .int a2] : List Value).toArray below meth c H locs 0 0 (MQ below (qv_0 dC dI cJ cI cZ cB post A) ([.int a0, .int a1, .int a2] : List Value).toArray s 0 0 A) (F0 m 10 ls []) := by
    intro H locs ls  hw hP hD hS hl
    unfold wp_X_demandRange_k_10 at hw
    exact hw.elim
  unfold wp_X_demandRange_k at hw
  refine lv_iload_n hx hb dc_X_demandRange_0 rfl (lv_at hl 0 rfl) ?_
  refine lv_iload_n hx hb dc_X_demandRange_1 rfl (lv_at hl 1 rfl) ?_
  obtain ⟨hw1, hw2⟩ := hw
  refine lv_icmp_lt (tgt := 10) hx hb dc_X_demandRange_2 (by decide) (fun hc => ?_) (fun hc => ?_)
  · have hw := hw1 hc
    clear hw1 hw2
    exact B_10 _ _ _  hw hP hD hS (lv_sub hl [] rfl)
  · have hw := hw2 hc
    clear hw1 hw2
    refine lv_iload_n hx hb dc_X_demandRange_5 rfl (lv_at hl 0 rfl) ?_
    refine lv_iload_n hx hb dc_X_demandRange_6 rfl (lv_at hl 2 rfl) ?_
    obtain ⟨hw1, hw2⟩ := hw
    refine lv_icmp_le (tgt := 20) hx hb dc_X_demandRange_7 (by decide) (fun hc => ?_) (fun hc => ?_)
    · have hw := hw1 hc
      clear hw1 hw2
      exact W.vret hx hb hr (fun t ht hW => ⟨⟨(), rfl, hw, by rw [ht]; exact hP, va_K.moved hW.alike hK, hD⟩, hS.F ht⟩) hS.2.2 dc_X_demandRange_20
    · have hw := hw2 hc
      clear hw1 hw2
      exact B_10 _ _ _  hw hP hD hS (lv_sub hl [] rfl)
set_option maxHeartbeats 4000000 in
set_option maxRecDepth 100000 in
theorem kt_X_demandRange_t (l : Launch) (hlt : l.stackTraces = false) (dC : Nat → ClassId) (dI : Nat → Nat → Nat) (cJ cI cZ cB : ClassId) (sz : Nat) (a0 : Int32) (a1 : Int32) (a2 : Int32) (hw : wp_X_demandRange_t a0 a1 a2) : vx_Met l yn_X_demandRange ws_X_demandRange rm_X_demandRange_t (va_Pc [.int a0, .int a1, .int a2] (pc_Z (dC, dI) (ty_4 cJ cI cZ cB) ([] : va_W) sz)) (qf_W (va_A ([] : va_W) sz)) (qt_W (dC, dI) (ty_4 cJ cI cZ cB) "java/lang/IllegalArgumentException" ([] : va_W) (va_A ([] : va_W) sz)) 1 6 (va_A ([] : va_W) sz) := by
  refine vx_ofW (cc := cd_X_demandRange) (maxL := 3) (ret := none) (by decide) rfl ?_
  intro p e s m args below meth c s₁ B hml htab hv
  obtain ⟨rfl, ⟨hsz, hP, hK, hD0, hE⟩, hZ⟩ := hv
  have hx := B.exec
  have hb := B.bytes
  have hr := B.returns
  have hts := atoms_spec (ws := ws_X_demandRange) B.pre
  have hq : ∀ {w : Cond}, w ∈ wg_all → w.before ([.int a0, .int a1, .int a2] : List Value).toArray s = true := fun h => hts _ (List.mem_cons_of_mem _ h)
  have hu : ∀ L : List Cond, (∀ w ∈ L, w ∈ wg_all) → ∀ w ∈ L, w ∈ ws_X_demandRange := fun L h w hw => List.mem_cons_of_mem _ (h w hw)
  have hown : s.vm.findClass "FourWords" = some m.cls := findClass_of_methodNamed B.named
  have hlocks := B.notSynchronized
  subst hsz
  have hD := hD0.self (sz := s.heap.size)
  generalize hAe : va_A ([] : va_W) s.heap.size = A at hD hZ ⊢
  have hA : ∀ q : Nat, s.heap.size ≤ q → A q := fun q h => by rw [← hAe]; exact Or.inr h
  have hS : va_S A s.heap s.heap [] := va_S.rf
  have hl := lv_entry [.int a0, .int a1, .int a2] (n := 3) (Nat.le_of_ble_eq_true rfl)
  rw [lg_entry_eq]
  generalize (lg_sl [.int a0, .int a1, .int a2] ++ List.replicate (3 - (lg_sl [.int a0, .int a1, .int a2]).length) Slot.unset).toArray = ls at hl ⊢
  have hl : lv_has ls 3 [(0, .int a0), (1, .int a1), (2, .int a2)] := hl
  have B_10 : ∀ (H : Heap) (locs : List Loc) (ls : Array Slot), wp_X_demandRange_t_10  → va_P (dC, dI) cs_3 ([] : va_W) H → va_D A ([] : va_W) → va_S A s.heap H locs → lv_has ls 3 [] → W p l e (headSpec ws_X_demandRange rm_X_demandRange_t).room s m ([.int a0, .int a1, .int a2] : List Value).toArray below meth c H locs 0 0 (vx_MQ below (qf_W A) (qt_W (dC, dI) (ty_4 cJ cI cZ cB) "java/lang/IllegalArgumentException" ([] : va_W) A) ([.int a0, .int a1, .int a2] : List Value).toArray s 1 6 A) (F0 m 10 ls []) := by
    intro H locs ls  hw hP hD hS hl
    unfold wp_X_demandRange_t_10 at hw
    exact gt_S hx hb hlt hown (E := "java/lang/IllegalArgumentException") (hq mw_t75) (hq mw_t7) (en_S142 hE) (oa_144 hq hE) (og_144) hZ.1 hZ.2 hS (hl.1.trans hml.symm) dc_X_demandRange_10 dc_X_demandRange_13 dc_X_demandRange_14 dc_X_demandRange_16 dc_X_demandRange_19 htab (Nat.le_of_ble_eq_true rfl) (Nat.le_of_ble_eq_true rfl) (Nat.le_of_ble_eq_true rfl) (Nat.le_of_ble_eq_true rfl) hlocks (xc_t hP hK hD hS) hS.2.2
  unfold wp_X_demandRange_t at hw
  refine lv_iload_n hx hb dc_X_demandRange_0 rfl (lv_at hl 0 rfl) ?_
  refine lv_iload_n hx hb dc_X_demandRange_1 rfl (lv_at hl 1 rfl) ?_
  obtain ⟨hw1, hw2⟩ := hw
  refine lv_icmp_lt (tgt := 10) hx hb dc_X_demandRange_2 (by decide) (fun hc => ?_) (fun hc => ?_)
  · have hw := hw1 hc
    clear hw1 hw2
    exact B_10 _ _ _  hw hP hD hS (lv_sub hl [] rfl)
  · have hw := hw2 hc
    clear hw1 hw2
    refine lv_iload_n hx hb dc_X_demandRange_5 rfl (lv_at hl 0 rfl) ?_
    refine lv_iload_n hx hb dc_X_demandRange_6 rfl (lv_at hl 2 rfl) ?_
    obtain ⟨hw1, hw2⟩ := hw
    refine lv_icmp_le (tgt := 20) hx hb dc_X_demandRange_7 (by decide) (fun hc => ?_) (fun hc => ?_)
    · have hw := hw1 hc
      clear hw1 hw2
      exact hw.elim
    · have hw := hw2 hc
      clear hw1 hw2
      exact B_10 _ _ _  hw hP hD hS (lv_sub hl [] rfl)
set_option maxHeartbeats 4000000 in
set_option maxRecDepth 100000 in
theorem kt_X_demandValues_k (l : Launch) (dC : Nat → ClassId) (dI : Nat → Nat → Nat) (cJ cI cZ cB : ClassId) (h0 qO qU qW qG qN qL : Nat) (sz : Nat) (a1 : Int32) (fO : (Nat → Int64)) (fU : (Nat → Int64)) (fW : (Nat → Int32)) (fG : (Nat → Int32)) (fL : (Nat → Int32)) (len : Int32) (size : Int32) (post : (Nat → Int64) → (Nat → Int64) → (Nat → Int32) → (Nat → Int32) → (Nat → Int32) → Int32 → Int32 → Prop) (hw : wp_X_demandValues_k post a1 fO fU fW fG fL len size) : Met l yn_X_demandValues ws_X_demandValues rm_X_demandValues_k (va_Pc [.ref h0, .int a1] (pc_W (dC, dI) (ty_4 cJ cI cZ cB) (wd_X h0 qO qU qW qG qN qL cJ cI cZ cB fO fU fW fG fL len size) sz)) (qv_X dC dI cJ cI cZ cB h0 qO qU qW qG qN qL post (va_A (wd_X h0 qO qU qW qG qN qL cJ cI cZ cB fO fU fW fG fL len size) sz)) 0 0 (va_A (wd_X h0 qO qU qW qG qN qL cJ cI cZ cB fO fU fW fG fL len size) sz) := by
  refine Met.ofW (cc := cd_X_demandValues) (maxL := 2) (ret := none) (by decide) rfl ?_
  intro p e s m args below meth c s₁ B hml hv
  obtain ⟨rfl, hsz, hP, hK, hD0, hE⟩ := hv
  have hx := B.exec
  have hb := B.bytes
  have hr := B.returns
  have hts := atoms_spec (ws := ws_X_demandValues) B.pre
  have hq : ∀ {w : Cond}, w ∈ wg_all → w.before ([.ref h0, .int a1] : List Value).toArray s = true := fun h => hts _ (List.mem_cons_of_mem _ h)
  have hu : ∀ L : List Cond, (∀ w ∈ L, w ∈ wg_all) → ∀ w ∈ L, w ∈ ws_X_demandValues := fun L h w hw => List.mem_cons_of_mem _ (h w hw)
  have hown : s.vm.findClass "FourWords" = some m.cls := findClass_of_methodNamed B.named
  have hlocks := B.notSynchronized
  subst hsz
  have hD := hD0.self (sz := s.heap.size)
  generalize hAe : va_A (wd_X h0 qO qU qW qG qN qL cJ cI cZ cB fO fU fW fG fL len size) s.heap.size = A at hD ⊢
  have hA : ∀ q : Nat, s.heap.size ≤ q → A q := fun q h => by rw [← hAe]; exact Or.inr h
  have hS : va_S A s.heap s.heap [] := va_S.rf
  have hl := lv_entry [.ref h0, .int a1] (n := 2) (Nat.le_of_ble_eq_true rfl)
  rw [lg_entry_eq]
  generalize (lg_sl [.ref h0, .int a1] ++ List.replicate (2 - (lg_sl [.ref h0, .int a1]).length) Slot.unset).toArray = ls at hl ⊢
  have hl : lv_has ls 2 [(0, .ref h0), (1, .int a1)] := hl
  unfold wp_X_demandValues_k at hw
  refine lv_aload_n hx hb dc_X_demandValues_0 rfl (lv_at hl 0 rfl) ?_
  refine va_get (D := (dC, dI)) (ci := 1) (v := .int size) (C := "FourWords") (T := tb_X) (N := 6) hx hb hts (hu _ um_X) hown hK hP 0 rfl rfl 5 (by decide) (hq mw_t45) (fun _ h9 => h9) rfl dc_X_demandValues_1 ?_
  refine lv_iload_n hx hb dc_X_demandValues_4 rfl (lv_at hl 1 rfl) ?_
  obtain ⟨hw1, hw2⟩ := hw
  refine lv_icmp_ge (tgt := 18) hx hb dc_X_demandValues_5 (by decide) (fun hc => ?_) (fun hc => ?_)
  · have hw := hw1 hc
    clear hw1 hw2
    exact W.vret hx hb hr (fun t ht hW => ⟨⟨(fO, fU, fW, fG, fL, len, size), rfl, hw, by rw [ht]; exact hP, va_K.moved hW.alike hK, hD⟩, hS.F ht⟩) hS.2.2 dc_X_demandValues_18
  · have hw := hw2 hc
    clear hw1 hw2
    exact hw.elim
set_option maxHeartbeats 4000000 in
set_option maxRecDepth 100000 in
theorem kt_X_demandValues_t (l : Launch) (hlt : l.stackTraces = false) (dC : Nat → ClassId) (dI : Nat → Nat → Nat) (cJ cI cZ cB : ClassId) (h0 qO qU qW qG qN qL : Nat) (sz : Nat) (a1 : Int32) (fO : (Nat → Int64)) (fU : (Nat → Int64)) (fW : (Nat → Int32)) (fG : (Nat → Int32)) (fL : (Nat → Int32)) (len : Int32) (size : Int32) (hw : wp_X_demandValues_t a1 fO fU fW fG fL len size) : vx_Met l yn_X_demandValues ws_X_demandValues rm_X_demandValues_t (va_Pc [.ref h0, .int a1] (pc_Z (dC, dI) (ty_4 cJ cI cZ cB) (wd_X h0 qO qU qW qG qN qL cJ cI cZ cB fO fU fW fG fL len size) sz)) (qf_W (va_A (wd_X h0 qO qU qW qG qN qL cJ cI cZ cB fO fU fW fG fL len size) sz)) (qt_W (dC, dI) (ty_4 cJ cI cZ cB) "java/lang/IllegalStateException" (wd_X h0 qO qU qW qG qN qL cJ cI cZ cB fO fU fW fG fL len size) (va_A (wd_X h0 qO qU qW qG qN qL cJ cI cZ cB fO fU fW fG fL len size) sz)) 1 6 (va_A (wd_X h0 qO qU qW qG qN qL cJ cI cZ cB fO fU fW fG fL len size) sz) := by
  refine vx_ofW (cc := cd_X_demandValues) (maxL := 2) (ret := none) (by decide) rfl ?_
  intro p e s m args below meth c s₁ B hml htab hv
  obtain ⟨rfl, ⟨hsz, hP, hK, hD0, hE⟩, hZ⟩ := hv
  have hx := B.exec
  have hb := B.bytes
  have hr := B.returns
  have hts := atoms_spec (ws := ws_X_demandValues) B.pre
  have hq : ∀ {w : Cond}, w ∈ wg_all → w.before ([.ref h0, .int a1] : List Value).toArray s = true := fun h => hts _ (List.mem_cons_of_mem _ h)
  have hu : ∀ L : List Cond, (∀ w ∈ L, w ∈ wg_all) → ∀ w ∈ L, w ∈ ws_X_demandValues := fun L h w hw => List.mem_cons_of_mem _ (h w hw)
  have hown : s.vm.findClass "FourWords" = some m.cls := findClass_of_methodNamed B.named
  have hlocks := B.notSynchronized
  subst hsz
  have hD := hD0.self (sz := s.heap.size)
  generalize hAe : va_A (wd_X h0 qO qU qW qG qN qL cJ cI cZ cB fO fU fW fG fL len size) s.heap.size = A at hD hZ ⊢
  have hA : ∀ q : Nat, s.heap.size ≤ q → A q := fun q h => by rw [← hAe]; exact Or.inr h
  have hS : va_S A s.heap s.heap [] := va_S.rf
  have hl := lv_entry [.ref h0, .int a1] (n := 2) (Nat.le_of_ble_eq_true rfl)
  rw [lg_entry_eq]
  generalize (lg_sl [.ref h0, .int a1] ++ List.replicate (2 - (lg_sl [.ref h0, .int a1]).length) Slot.unset).toArray = ls at hl ⊢
  have hl : lv_has ls 2 [(0, .ref h0), (1, .int a1)] := hl
  unfold wp_X_demandValues_t at hw
  refine lv_aload_n hx hb dc_X_demandValues_0 rfl (lv_at hl 0 rfl) ?_
  refine va_get (D := (dC, dI)) (ci := 1) (v := .int size) (C := "FourWords") (T := tb_X) (N := 6) hx hb hts (hu _ um_X) hown hK hP 0 rfl rfl 5 (by decide) (hq mw_t45) (fun _ h9 => h9) rfl dc_X_demandValues_1 ?_
  refine lv_iload_n hx hb dc_X_demandValues_4 rfl (lv_at hl 1 rfl) ?_
  obtain ⟨hw1, hw2⟩ := hw
  refine lv_icmp_ge (tgt := 18) hx hb dc_X_demandValues_5 (by decide) (fun hc => ?_) (fun hc => ?_)
  · have hw := hw1 hc
    clear hw1 hw2
    exact hw.elim
  · have hw := hw2 hc
    clear hw1 hw2
    exact gt_S hx hb hlt hown (E := "java/lang/IllegalStateException") (hq mw_t146) (hq mw_t8) (en_S147 hE) (oa_149 hq hE) (og_149) hZ.1 hZ.2 hS (hl.1.trans hml.symm) dc_X_demandValues_8 dc_X_demandValues_11 dc_X_demandValues_12 dc_X_demandValues_14 dc_X_demandValues_17 htab (Nat.le_of_ble_eq_true rfl) (Nat.le_of_ble_eq_true rfl) (Nat.le_of_ble_eq_true rfl) (Nat.le_of_ble_eq_true rfl) hlocks (xc_t hP hK hD hS) hS.2.2
set_option maxHeartbeats 4000000 in
set_option maxRecDepth 100000 in
theorem kt_X_demandPlace_k (l : Launch) (dC : Nat → ClassId) (dI : Nat → Nat → Nat) (cJ cI cZ cB : ClassId) (h0 qO qU qW qG qN qL : Nat) (sz : Nat) (a1 : Int32) (fO : (Nat → Int64)) (fU : (Nat → Int64)) (fW : (Nat → Int32)) (fG : (Nat → Int32)) (fL : (Nat → Int32)) (len : Int32) (size : Int32) (post : (Nat → Int64) → (Nat → Int64) → (Nat → Int32) → (Nat → Int32) → (Nat → Int32) → Int32 → Int32 → Prop) (hw : wp_X_demandPlace_k post a1 fO fU fW fG fL len size) : Met l yn_X_demandPlace ws_X_demandPlace rm_X_demandPlace_k (va_Pc [.ref h0, .int a1] (pc_W (dC, dI) (ty_4 cJ cI cZ cB) (wd_X h0 qO qU qW qG qN qL cJ cI cZ cB fO fU fW fG fL len size) sz)) (qv_X dC dI cJ cI cZ cB h0 qO qU qW qG qN qL post (va_A (wd_X h0 qO qU qW qG qN qL cJ cI cZ cB fO fU fW fG fL len size) sz)) 0 0 (va_A (wd_X h0 qO qU qW qG qN qL cJ cI cZ cB fO fU fW fG fL len size) sz) := by
  refine Met.ofW (cc := cd_X_demandPlace) (maxL := 2) (ret := none) (by decide) rfl ?_
  intro p e s m args below meth c s₁ B hml hv
  obtain ⟨rfl, hsz, hP, hK, hD0, hE⟩ := hv
  have hx := B.exec
  have hb := B.bytes
  have hr := B.returns
  have hts := atoms_spec (ws := ws_X_demandPlace) B.pre
  have hq : ∀ {w : Cond}, w ∈ wg_all → w.before ([.ref h0, .int a1] : List Value).toArray s = true := fun h => hts _ (List.mem_cons_of_mem _ h)
  have hu : ∀ L : List Cond, (∀ w ∈ L, w ∈ wg_all) → ∀ w ∈ L, w ∈ ws_X_demandPlace := fun L h w hw => List.mem_cons_of_mem _ (h w hw)
  have hown : s.vm.findClass "FourWords" = some m.cls := findClass_of_methodNamed B.named
  have hlocks := B.notSynchronized
  subst hsz
  have hD := hD0.self (sz := s.heap.size)
  generalize hAe : va_A (wd_X h0 qO qU qW qG qN qL cJ cI cZ cB fO fU fW fG fL len size) s.heap.size = A at hD ⊢
  have hA : ∀ q : Nat, s.heap.size ≤ q → A q := fun q h => by rw [← hAe]; exact Or.inr h
  have hS : va_S A s.heap s.heap [] := va_S.rf
  have hl := lv_entry [.ref h0, .int a1] (n := 2) (Nat.le_of_ble_eq_true rfl)
  rw [lg_entry_eq]
  generalize (lg_sl [.ref h0, .int a1] ++ List.replicate (2 - (lg_sl [.ref h0, .int a1]).length) Slot.unset).toArray = ls at hl ⊢
  have hl : lv_has ls 2 [(0, .ref h0), (1, .int a1)] := hl
  have B_12 : ∀ (H : Heap) (locs : List Loc) (ls : Array Slot) (fO : (Nat → Int64)) (fU : (Nat → Int64)) (fW : (Nat → Int32)) (fG : (Nat → Int32)) (fL : (Nat → Int32)) (len : Int32) (size : Int32), wp_X_demandPlace_k_12 post fO fU fW fG fL len size → va_P (dC, dI) cs_3 (wd_X h0 qO qU qW qG qN qL cJ cI cZ cB fO fU fW fG fL len size) H → va_D A (wd_X h0 qO qU qW qG qN qL cJ cI cZ cB fO fU fW fG fL len size) → va_S A s.heap H locs → lv_has ls 2 [] → W p l e (headSpec ws_X_demandPlace rm_X_demandPlace_k).room s m ([.ref h0, .int a1] : List Value).toArray below meth c H locs 0 0 (MQ below (qv_X dC dI cJ cI cZ cB h0 qO qU qW qG qN qL post A) ([.ref h0, .int a1] : List Value).toArray s 0 0 A) (F0 m 12 ls []) := by
    intro H locs ls fO fU fW fG fL len size hw hP hD hS hl
    unfold wp_X_demandPlace_k_12 at hw
    exact hw.elim
  unfold wp_X_demandPlace_k at hw
  refine lv_iload_n hx hb dc_X_demandPlace_0 rfl (lv_at hl 1 rfl) ?_
  obtain ⟨hw1, hw2⟩ := hw
  refine lv_if_lt (tgt := 12) hx hb dc_X_demandPlace_1 (by decide) (fun hc => ?_) (fun hc => ?_)
  · have hw := hw1 hc
    clear hw1 hw2
    exact B_12 _ _ _ fO fU fW fG fL len size hw hP hD hS (lv_sub hl [] rfl)
  · have hw := hw2 hc
    clear hw1 hw2
    refine lv_iload_n hx hb dc_X_demandPlace_4 rfl (lv_at hl 1 rfl) ?_
    refine lv_aload_n hx hb dc_X_demandPlace_5 rfl (lv_at hl 0 rfl) ?_
    refine va_get (D := (dC, dI)) (ci := 1) (v := .int size) (C := "FourWords") (T := tb_X) (N := 6) hx hb hts (hu _ um_X) hown hK hP 0 rfl rfl 5 (by decide) (hq mw_t45) (fun _ h9 => h9) rfl dc_X_demandPlace_6 ?_
    obtain ⟨hw1, hw2⟩ := hw
    refine lv_icmp_lt (tgt := 22) hx hb dc_X_demandPlace_9 (by decide) (fun hc => ?_) (fun hc => ?_)
    · have hw := hw1 hc
      clear hw1 hw2
      exact W.vret hx hb hr (fun t ht hW => ⟨⟨(fO, fU, fW, fG, fL, len, size), rfl, hw, by rw [ht]; exact hP, va_K.moved hW.alike hK, hD⟩, hS.F ht⟩) hS.2.2 dc_X_demandPlace_22
    · have hw := hw2 hc
      clear hw1 hw2
      exact B_12 _ _ _ fO fU fW fG fL len size hw hP hD hS (lv_sub hl [] rfl)
set_option maxHeartbeats 4000000 in
set_option maxRecDepth 100000 in
theorem kt_X_demandPlace_t (l : Launch) (hlt : l.stackTraces = false) (dC : Nat → ClassId) (dI : Nat → Nat → Nat) (cJ cI cZ cB : ClassId) (h0 qO qU qW qG qN qL : Nat) (sz : Nat) (a1 : Int32) (fO : (Nat → Int64)) (fU : (Nat → Int64)) (fW : (Nat → Int32)) (fG : (Nat → Int32)) (fL : (Nat → Int32)) (len : Int32) (size : Int32) (hw : wp_X_demandPlace_t a1 fO fU fW fG fL len size) : vx_Met l yn_X_demandPlace ws_X_demandPlace rm_X_demandPlace_t (va_Pc [.ref h0, .int a1] (pc_Z (dC, dI) (ty_4 cJ cI cZ cB) (wd_X h0 qO qU qW qG qN qL cJ cI cZ cB fO fU fW fG fL len size) sz)) (qf_W (va_A (wd_X h0 qO qU qW qG qN qL cJ cI cZ cB fO fU fW fG fL len size) sz)) (qt_W (dC, dI) (ty_4 cJ cI cZ cB) "java/lang/IllegalStateException" (wd_X h0 qO qU qW qG qN qL cJ cI cZ cB fO fU fW fG fL len size) (va_A (wd_X h0 qO qU qW qG qN qL cJ cI cZ cB fO fU fW fG fL len size) sz)) 1 6 (va_A (wd_X h0 qO qU qW qG qN qL cJ cI cZ cB fO fU fW fG fL len size) sz) := by
  refine vx_ofW (cc := cd_X_demandPlace) (maxL := 2) (ret := none) (by decide) rfl ?_
  intro p e s m args below meth c s₁ B hml htab hv
  obtain ⟨rfl, ⟨hsz, hP, hK, hD0, hE⟩, hZ⟩ := hv
  have hx := B.exec
  have hb := B.bytes
  have hr := B.returns
  have hts := atoms_spec (ws := ws_X_demandPlace) B.pre
  have hq : ∀ {w : Cond}, w ∈ wg_all → w.before ([.ref h0, .int a1] : List Value).toArray s = true := fun h => hts _ (List.mem_cons_of_mem _ h)
  have hu : ∀ L : List Cond, (∀ w ∈ L, w ∈ wg_all) → ∀ w ∈ L, w ∈ ws_X_demandPlace := fun L h w hw => List.mem_cons_of_mem _ (h w hw)
  have hown : s.vm.findClass "FourWords" = some m.cls := findClass_of_methodNamed B.named
  have hlocks := B.notSynchronized
  subst hsz
  have hD := hD0.self (sz := s.heap.size)
  generalize hAe : va_A (wd_X h0 qO qU qW qG qN qL cJ cI cZ cB fO fU fW fG fL len size) s.heap.size = A at hD hZ ⊢
  have hA : ∀ q : Nat, s.heap.size ≤ q → A q := fun q h => by rw [← hAe]; exact Or.inr h
  have hS : va_S A s.heap s.heap [] := va_S.rf
  have hl := lv_entry [.ref h0, .int a1] (n := 2) (Nat.le_of_ble_eq_true rfl)
  rw [lg_entry_eq]
  generalize (lg_sl [.ref h0, .int a1] ++ List.replicate (2 - (lg_sl [.ref h0, .int a1]).length) Slot.unset).toArray = ls at hl ⊢
  have hl : lv_has ls 2 [(0, .ref h0), (1, .int a1)] := hl
  have B_12 : ∀ (H : Heap) (locs : List Loc) (ls : Array Slot) (fO : (Nat → Int64)) (fU : (Nat → Int64)) (fW : (Nat → Int32)) (fG : (Nat → Int32)) (fL : (Nat → Int32)) (len : Int32) (size : Int32), wp_X_demandPlace_t_12 fO fU fW fG fL len size → va_P (dC, dI) cs_3 (wd_X h0 qO qU qW qG qN qL cJ cI cZ cB fO fU fW fG fL len size) H → va_D A (wd_X h0 qO qU qW qG qN qL cJ cI cZ cB fO fU fW fG fL len size) → va_S A s.heap H locs → lv_has ls 2 [] → W p l e (headSpec ws_X_demandPlace rm_X_demandPlace_t).room s m ([.ref h0, .int a1] : List Value).toArray below meth c H locs 0 0 (vx_MQ below (qf_W A) (qt_W (dC, dI) (ty_4 cJ cI cZ cB) "java/lang/IllegalStateException" (wd_X h0 qO qU qW qG qN qL cJ cI cZ cB fO fU fW fG fL len size) A) ([.ref h0, .int a1] : List Value).toArray s 1 6 A) (F0 m 12 ls []) := by
    intro H locs ls fO fU fW fG fL len size hw hP hD hS hl
    unfold wp_X_demandPlace_t_12 at hw
    exact gt_S hx hb hlt hown (E := "java/lang/IllegalStateException") (hq mw_t146) (hq mw_t8) (en_S150 hE) (oa_149 hq hE) (og_149) hZ.1 hZ.2 hS (hl.1.trans hml.symm) dc_X_demandPlace_12 dc_X_demandPlace_15 dc_X_demandPlace_16 dc_X_demandPlace_18 dc_X_demandPlace_21 htab (Nat.le_of_ble_eq_true rfl) (Nat.le_of_ble_eq_true rfl) (Nat.le_of_ble_eq_true rfl) (Nat.le_of_ble_eq_true rfl) hlocks (xc_t hP hK hD hS) hS.2.2
  unfold wp_X_demandPlace_t at hw
  refine lv_iload_n hx hb dc_X_demandPlace_0 rfl (lv_at hl 1 rfl) ?_
  obtain ⟨hw1, hw2⟩ := hw
  refine lv_if_lt (tgt := 12) hx hb dc_X_demandPlace_1 (by decide) (fun hc => ?_) (fun hc => ?_)
  · have hw := hw1 hc
    clear hw1 hw2
    exact B_12 _ _ _ fO fU fW fG fL len size hw hP hD hS (lv_sub hl [] rfl)
  · have hw := hw2 hc
    clear hw1 hw2
    refine lv_iload_n hx hb dc_X_demandPlace_4 rfl (lv_at hl 1 rfl) ?_
    refine lv_aload_n hx hb dc_X_demandPlace_5 rfl (lv_at hl 0 rfl) ?_
    refine va_get (D := (dC, dI)) (ci := 1) (v := .int size) (C := "FourWords") (T := tb_X) (N := 6) hx hb hts (hu _ um_X) hown hK hP 0 rfl rfl 5 (by decide) (hq mw_t45) (fun _ h9 => h9) rfl dc_X_demandPlace_6 ?_
    obtain ⟨hw1, hw2⟩ := hw
    refine lv_icmp_lt (tgt := 22) hx hb dc_X_demandPlace_9 (by decide) (fun hc => ?_) (fun hc => ?_)
    · have hw := hw1 hc
      clear hw1 hw2
      exact hw.elim
    · have hw := hw2 hc
      clear hw1 hw2
      exact B_12 _ _ _ fO fU fW fG fL len size hw hP hD hS (lv_sub hl [] rfl)
set_option maxHeartbeats 4000000 in
set_option maxRecDepth 100000 in
theorem kt_X_demandRoom_k (l : Launch) (dC : Nat → ClassId) (dI : Nat → Nat → Nat) (cJ cI cZ cB : ClassId) (h0 qO qU qW qG qN qL : Nat) (sz : Nat) (fO : (Nat → Int64)) (fU : (Nat → Int64)) (fW : (Nat → Int32)) (fG : (Nat → Int32)) (fL : (Nat → Int32)) (len : Int32) (size : Int32) (post : (Nat → Int64) → (Nat → Int64) → (Nat → Int32) → (Nat → Int32) → (Nat → Int32) → Int32 → Int32 → Prop) (hw : wp_X_demandRoom_k post fO fU fW fG fL len size) : Met l yn_X_demandRoom ws_X_demandRoom rm_X_demandRoom_k (va_Pc [.ref h0] (pc_W (dC, dI) (ty_4 cJ cI cZ cB) (wd_X h0 qO qU qW qG qN qL cJ cI cZ cB fO fU fW fG fL len size) sz)) (qv_X dC dI cJ cI cZ cB h0 qO qU qW qG qN qL post (va_A (wd_X h0 qO qU qW qG qN qL cJ cI cZ cB fO fU fW fG fL len size) sz)) 0 0 (va_A (wd_X h0 qO qU qW qG qN qL cJ cI cZ cB fO fU fW fG fL len size) sz) := by
  refine Met.ofW (cc := cd_X_demandRoom) (maxL := 1) (ret := none) (by decide) rfl ?_
  intro p e s m args below meth c s₁ B hml hv
  obtain ⟨rfl, hsz, hP, hK, hD0, hE⟩ := hv
  have hx := B.exec
  have hb := B.bytes
  have hr := B.returns
  have hts := atoms_spec (ws := ws_X_demandRoom) B.pre
  have hq : ∀ {w : Cond}, w ∈ wg_all → w.before ([.ref h0] : List Value).toArray s = true := fun h => hts _ (List.mem_cons_of_mem _ h)
  have hu : ∀ L : List Cond, (∀ w ∈ L, w ∈ wg_all) → ∀ w ∈ L, w ∈ ws_X_demandRoom := fun L h w hw => List.mem_cons_of_mem _ (h w hw)
  have hown : s.vm.findClass "FourWords" = some m.cls := findClass_of_methodNamed B.named
  have hlocks := B.notSynchronized
  subst hsz
  have hD := hD0.self (sz := s.heap.size)
  generalize hAe : va_A (wd_X h0 qO qU qW qG qN qL cJ cI cZ cB fO fU fW fG fL len size) s.heap.size = A at hD ⊢
  have hA : ∀ q : Nat, s.heap.size ≤ q → A q := fun q h => by rw [← hAe]; exact Or.inr h
  have hS : va_S A s.heap s.heap [] := va_S.rf
  have hl := lv_entry [.ref h0] (n := 1) (Nat.le_of_ble_eq_true rfl)
  rw [lg_entry_eq]
  generalize (lg_sl [.ref h0] ++ List.replicate (1 - (lg_sl [.ref h0]).length) Slot.unset).toArray = ls at hl ⊢
  have hl : lv_has ls 1 [(0, .ref h0)] := hl
  unfold wp_X_demandRoom_k at hw
  refine lv_aload_n hx hb dc_X_demandRoom_0 rfl (lv_at hl 0 rfl) ?_
  refine va_get (D := (dC, dI)) (ci := 1) (v := .int size) (C := "FourWords") (T := tb_X) (N := 6) hx hb hts (hu _ um_X) hown hK hP 0 rfl rfl 5 (by decide) (hq mw_t45) (fun _ h9 => h9) rfl dc_X_demandRoom_1 ?_
  refine lv_bipush (v := 64) hx hb dc_X_demandRoom_4 (by decide) ?_
  obtain ⟨hw1, hw2⟩ := hw
  refine lv_icmp_lt (tgt := 19) hx hb dc_X_demandRoom_6 (by decide) (fun hc => ?_) (fun hc => ?_)
  · have hw := hw1 hc
    clear hw1 hw2
    exact W.vret hx hb hr (fun t ht hW => ⟨⟨(fO, fU, fW, fG, fL, len, size), rfl, hw, by rw [ht]; exact hP, va_K.moved hW.alike hK, hD⟩, hS.F ht⟩) hS.2.2 dc_X_demandRoom_19
  · have hw := hw2 hc
    clear hw1 hw2
    exact hw.elim
set_option maxHeartbeats 4000000 in
set_option maxRecDepth 100000 in
theorem kt_X_demandRoom_t (l : Launch) (hlt : l.stackTraces = false) (dC : Nat → ClassId) (dI : Nat → Nat → Nat) (cJ cI cZ cB : ClassId) (h0 qO qU qW qG qN qL : Nat) (sz : Nat) (fO : (Nat → Int64)) (fU : (Nat → Int64)) (fW : (Nat → Int32)) (fG : (Nat → Int32)) (fL : (Nat → Int32)) (len : Int32) (size : Int32) (hw : wp_X_demandRoom_t fO fU fW fG fL len size) : vx_Met l yn_X_demandRoom ws_X_demandRoom rm_X_demandRoom_t (va_Pc [.ref h0] (pc_Z (dC, dI) (ty_4 cJ cI cZ cB) (wd_X h0 qO qU qW qG qN qL cJ cI cZ cB fO fU fW fG fL len size) sz)) (qf_W (va_A (wd_X h0 qO qU qW qG qN qL cJ cI cZ cB fO fU fW fG fL len size) sz)) (qt_W (dC, dI) (ty_4 cJ cI cZ cB) "java/lang/IllegalStateException" (wd_X h0 qO qU qW qG qN qL cJ cI cZ cB fO fU fW fG fL len size) (va_A (wd_X h0 qO qU qW qG qN qL cJ cI cZ cB fO fU fW fG fL len size) sz)) 1 6 (va_A (wd_X h0 qO qU qW qG qN qL cJ cI cZ cB fO fU fW fG fL len size) sz) := by
  refine vx_ofW (cc := cd_X_demandRoom) (maxL := 1) (ret := none) (by decide) rfl ?_
  intro p e s m args below meth c s₁ B hml htab hv
  obtain ⟨rfl, ⟨hsz, hP, hK, hD0, hE⟩, hZ⟩ := hv
  have hx := B.exec
  have hb := B.bytes
  have hr := B.returns
  have hts := atoms_spec (ws := ws_X_demandRoom) B.pre
  have hq : ∀ {w : Cond}, w ∈ wg_all → w.before ([.ref h0] : List Value).toArray s = true := fun h => hts _ (List.mem_cons_of_mem _ h)
  have hu : ∀ L : List Cond, (∀ w ∈ L, w ∈ wg_all) → ∀ w ∈ L, w ∈ ws_X_demandRoom := fun L h w hw => List.mem_cons_of_mem _ (h w hw)
  have hown : s.vm.findClass "FourWords" = some m.cls := findClass_of_methodNamed B.named
  have hlocks := B.notSynchronized
  subst hsz
  have hD := hD0.self (sz := s.heap.size)
  generalize hAe : va_A (wd_X h0 qO qU qW qG qN qL cJ cI cZ cB fO fU fW fG fL len size) s.heap.size = A at hD hZ ⊢
  have hA : ∀ q : Nat, s.heap.size ≤ q → A q := fun q h => by rw [← hAe]; exact Or.inr h
  have hS : va_S A s.heap s.heap [] := va_S.rf
  have hl := lv_entry [.ref h0] (n := 1) (Nat.le_of_ble_eq_true rfl)
  rw [lg_entry_eq]
  generalize (lg_sl [.ref h0] ++ List.replicate (1 - (lg_sl [.ref h0]).length) Slot.unset).toArray = ls at hl ⊢
  have hl : lv_has ls 1 [(0, .ref h0)] := hl
  unfold wp_X_demandRoom_t at hw
  refine lv_aload_n hx hb dc_X_demandRoom_0 rfl (lv_at hl 0 rfl) ?_
  refine va_get (D := (dC, dI)) (ci := 1) (v := .int size) (C := "FourWords") (T := tb_X) (N := 6) hx hb hts (hu _ um_X) hown hK hP 0 rfl rfl 5 (by decide) (hq mw_t45) (fun _ h9 => h9) rfl dc_X_demandRoom_1 ?_
  refine lv_bipush (v := 64) hx hb dc_X_demandRoom_4 (by decide) ?_
  obtain ⟨hw1, hw2⟩ := hw
  refine lv_icmp_lt (tgt := 19) hx hb dc_X_demandRoom_6 (by decide) (fun hc => ?_) (fun hc => ?_)
  · have hw := hw1 hc
    clear hw1 hw2
    exact hw.elim
  · have hw := hw2 hc
    clear hw1 hw2
    exact gt_S hx hb hlt hown (E := "java/lang/IllegalStateException") (hq mw_t146) (hq mw_t8) (en_S152 hE) (oa_149 hq hE) (og_149) hZ.1 hZ.2 hS (hl.1.trans hml.symm) dc_X_demandRoom_9 dc_X_demandRoom_12 dc_X_demandRoom_13 dc_X_demandRoom_15 dc_X_demandRoom_18 htab (Nat.le_of_ble_eq_true rfl) (Nat.le_of_ble_eq_true rfl) (Nat.le_of_ble_eq_true rfl) (Nat.le_of_ble_eq_true rfl) hlocks (xc_t hP hK hD hS) hS.2.2
set_option maxHeartbeats 4000000 in
set_option maxRecDepth 100000 in
theorem kt_X_bothTrue (l : Launch) (dC : Nat → ClassId) (dI : Nat → Nat → Nat) (cJ cI cZ cB : ClassId) (sz : Nat) (a0 : Int32) (a1 : Int32) (post : Int32 → Prop) (hw : wp_X_bothTrue post a0 a1) : Met l yn_X_bothTrue ws_X_bothTrue rm_X_bothTrue (va_Pc [.int a0, .int a1] (pc_W (dC, dI) (ty_4 cJ cI cZ cB) ([] : va_W) sz)) (qi_0 dC dI cJ cI cZ cB post (va_A ([] : va_W) sz)) 0 0 (va_A ([] : va_W) sz) := by
  refine Met.ofW (cc := cd_X_bothTrue) (maxL := 2) (ret := (some .int)) (by decide) rfl ?_
  intro p e s m args below meth c s₁ B hml hv
  obtain ⟨rfl, hsz, hP, hK, hD0, hE⟩ := hv
  have hx := B.exec
  have hb := B.bytes
  have hr := B.returns
  have hts := atoms_spec (ws := ws_X_bothTrue) B.pre
  have hq : ∀ {w : Cond}, w ∈ wg_all → w.before ([.int a0, .int a1] : List Value).toArray s = true := fun h => hts _ (List.mem_cons_of_mem _ h)
  have hu : ∀ L : List Cond, (∀ w ∈ L, w ∈ wg_all) → ∀ w ∈ L, w ∈ ws_X_bothTrue := fun L h w hw => List.mem_cons_of_mem _ (h w hw)
  have hown : s.vm.findClass "FourWords" = some m.cls := findClass_of_methodNamed B.named
  have hlocks := B.notSynchronized
  subst hsz
  have hD := hD0.self (sz := s.heap.size)
  generalize hAe : va_A ([] : va_W) s.heap.size = A at hD ⊢
  have hA : ∀ q : Nat, s.heap.size ≤ q → A q := fun q h => by rw [← hAe]; exact Or.inr h
  have hS : va_S A s.heap s.heap [] := va_S.rf
  have hl := lv_entry [.int a0, .int a1] (n := 2) (Nat.le_of_ble_eq_true rfl)
  rw [lg_entry_eq]
  generalize (lg_sl [.int a0, .int a1] ++ List.replicate (2 - (lg_sl [.int a0, .int a1]).length) Slot.unset).toArray = ls at hl ⊢
  have hl : lv_has ls 2 [(0, .int a0), (1, .int a1)] := hl
  have B_25 : ∀ (H : Heap) (locs : List Loc) (ls : Array Slot) (t0 : Int32), wp_X_bothTrue_25 post t0 → va_P (dC, dI) cs_3 ([] : va_W) H → va_D A ([] : va_W) → va_S A s.heap H locs → lv_has ls 2 [] → W p l e (headSpec ws_X_bothTrue rm_X_bothTrue).room s m ([.int a0, .int a1] : List Value).toArray below meth c H locs 0 0 (MQ below (qi_0 dC dI cJ cI cZ cB post A) ([.int a0, .int a1] : List Value).toArray s 0 0 A) (F0 m 25 ls [.int t0]) := by
    intro H locs ls t0 hw hP hD hS hl
    unfold wp_X_bothTrue_25 at hw
    exact W.iret (v := t0) hx hb hr (fun t ht hW => ⟨⟨t0, (), rfl, hw, by rw [ht]; exact hP, va_K.moved hW.alike hK, hD⟩, hS.F ht⟩) hS.2.2 dc_X_bothTrue_25
  have B_24 : ∀ (H : Heap) (locs : List Loc) (ls : Array Slot), wp_X_bothTrue_24 post  → va_P (dC, dI) cs_3 ([] : va_W) H → va_D A ([] : va_W) → va_S A s.heap H locs → lv_has ls 2 [] → W p l e (headSpec ws_X_bothTrue rm_X_bothTrue).room s m ([.int a0, .int a1] : List Value).toArray below meth c H locs 0 0 (MQ below (qi_0 dC dI cJ cI cZ cB post A) ([.int a0, .int a1] : List Value).toArray s 0 0 A) (F0 m 24 ls []) := by
    intro H locs ls  hw hP hD hS hl
    unfold wp_X_bothTrue_24 at hw
    refine lv_iconst (v := 2) hx hb dc_X_bothTrue_24 (by decide) ?_
    exact B_25 _ _ _ (2 : Int32) hw hP hD hS (lv_sub hl [] rfl)
  have B_8 : ∀ (H : Heap) (locs : List Loc) (ls : Array Slot), wp_X_bothTrue_8 post  → va_P (dC, dI) cs_3 ([] : va_W) H → va_D A ([] : va_W) → va_S A s.heap H locs → lv_has ls 2 [] → W p l e (headSpec ws_X_bothTrue rm_X_bothTrue).room s m ([.int a0, .int a1] : List Value).toArray below meth c H locs 0 0 (MQ below (qi_0 dC dI cJ cI cZ cB post A) ([.int a0, .int a1] : List Value).toArray s 0 0 A) (F0 m 8 ls []) := by
    intro H locs ls  hw hP hD hS hl
    unfold wp_X_bothTrue_8 at hw
    refine lv_iconst (v := 0) hx hb dc_X_bothTrue_8 (by decide) ?_
    exact W.iret (v := (0 : Int32)) hx hb hr (fun t ht hW => ⟨⟨(0 : Int32), (), rfl, hw, by rw [ht]; exact hP, va_K.moved hW.alike hK, hD⟩, hS.F ht⟩) hS.2.2 dc_X_bothTrue_9
  unfold wp_X_bothTrue at hw
  refine lv_iload_n hx hb dc_X_bothTrue_0 rfl (lv_at hl 0 rfl) ?_
  obtain ⟨hw1, hw2⟩ := hw
  refine lv_if_eq (tgt := 8) hx hb dc_X_bothTrue_1 (by decide) (fun hc => ?_) (fun hc => ?_)
  · have hw := hw1 hc
    clear hw1 hw2
    exact B_8 _ _ _  hw hP hD hS (lv_sub hl [] rfl)
  · have hw := hw2 hc
    clear hw1 hw2
    refine lv_iload_n hx hb dc_X_bothTrue_4 rfl (lv_at hl 1 rfl) ?_
    obtain ⟨hw1, hw2⟩ := hw
    refine lv_if_ne (tgt := 10) hx hb dc_X_bothTrue_5 (by decide) (fun hc => ?_) (fun hc => ?_)
    · have hw := hw1 hc
      clear hw1 hw2
      refine lv_iload_n hx hb dc_X_bothTrue_10 rfl (lv_at hl 0 rfl) ?_
      refine lv_iconst (v := 1) hx hb dc_X_bothTrue_11 (by decide) ?_
      obtain ⟨hw1, hw2⟩ := hw
      refine lv_icmp_ne (tgt := 24) hx hb dc_X_bothTrue_12 (by decide) (fun hc => ?_) (fun hc => ?_)
      · have hw := hw1 hc
        clear hw1 hw2
        exact B_24 _ _ _  hw hP hD hS (lv_sub hl [] rfl)
      · have hw := hw2 (fun h9 => h9 hc)
        clear hw1 hw2
        refine lv_iload_n hx hb dc_X_bothTrue_15 rfl (lv_at hl 1 rfl) ?_
        refine lv_iconst (v := 1) hx hb dc_X_bothTrue_16 (by decide) ?_
        obtain ⟨hw1, hw2⟩ := hw
        refine lv_icmp_ne (tgt := 24) hx hb dc_X_bothTrue_17 (by decide) (fun hc => ?_) (fun hc => ?_)
        · have hw := hw1 hc
          clear hw1 hw2
          exact B_24 _ _ _  hw hP hD hS (lv_sub hl [] rfl)
        · have hw := hw2 (fun h9 => h9 hc)
          clear hw1 hw2
          refine lv_iconst (v := 1) hx hb dc_X_bothTrue_20 (by decide) ?_
          refine lv_goto (tgt := 25) hx hb dc_X_bothTrue_21 (by decide) ?_
          exact B_25 _ _ _ (1 : Int32) hw hP hD hS (lv_sub hl [] rfl)
    · have hw := hw2 (fun h9 => h9 hc)
      clear hw1 hw2
      exact B_8 _ _ _  hw hP hD hS (lv_sub hl [] rfl)
set_option maxHeartbeats 4000000 in
set_option maxRecDepth 100000 in
theorem kt_X_opposite (l : Launch) (dC : Nat → ClassId) (dI : Nat → Nat → Nat) (cJ cI cZ cB : ClassId) (sz : Nat) (a0 : Int32) (post : Int32 → Prop) (hw : wp_X_opposite post a0) : Met l yn_X_opposite ws_X_opposite rm_X_opposite (va_Pc [.int a0] (pc_W (dC, dI) (ty_4 cJ cI cZ cB) ([] : va_W) sz)) (qi_0 dC dI cJ cI cZ cB post (va_A ([] : va_W) sz)) 0 0 (va_A ([] : va_W) sz) := by
  refine Met.ofW (cc := cd_X_opposite) (maxL := 1) (ret := (some .int)) (by decide) rfl ?_
  intro p e s m args below meth c s₁ B hml hv
  obtain ⟨rfl, hsz, hP, hK, hD0, hE⟩ := hv
  have hx := B.exec
  have hb := B.bytes
  have hr := B.returns
  have hts := atoms_spec (ws := ws_X_opposite) B.pre
  have hq : ∀ {w : Cond}, w ∈ wg_all → w.before ([.int a0] : List Value).toArray s = true := fun h => hts _ (List.mem_cons_of_mem _ h)
  have hu : ∀ L : List Cond, (∀ w ∈ L, w ∈ wg_all) → ∀ w ∈ L, w ∈ ws_X_opposite := fun L h w hw => List.mem_cons_of_mem _ (h w hw)
  have hown : s.vm.findClass "FourWords" = some m.cls := findClass_of_methodNamed B.named
  have hlocks := B.notSynchronized
  subst hsz
  have hD := hD0.self (sz := s.heap.size)
  generalize hAe : va_A ([] : va_W) s.heap.size = A at hD ⊢
  have hA : ∀ q : Nat, s.heap.size ≤ q → A q := fun q h => by rw [← hAe]; exact Or.inr h
  have hS : va_S A s.heap s.heap [] := va_S.rf
  have hl := lv_entry [.int a0] (n := 1) (Nat.le_of_ble_eq_true rfl)
  rw [lg_entry_eq]
  generalize (lg_sl [.int a0] ++ List.replicate (1 - (lg_sl [.int a0]).length) Slot.unset).toArray = ls at hl ⊢
  have hl : lv_has ls 1 [(0, .int a0)] := hl
  have B_17 : ∀ (H : Heap) (locs : List Loc) (ls : Array Slot) (t0 : Int32), wp_X_opposite_17 post t0 → va_P (dC, dI) cs_3 ([] : va_W) H → va_D A ([] : va_W) → va_S A s.heap H locs → lv_has ls 1 [] → W p l e (headSpec ws_X_opposite rm_X_opposite).room s m ([.int a0] : List Value).toArray below meth c H locs 0 0 (MQ below (qi_0 dC dI cJ cI cZ cB post A) ([.int a0] : List Value).toArray s 0 0 A) (F0 m 17 ls [.int t0]) := by
    intro H locs ls t0 hw hP hD hS hl
    unfold wp_X_opposite_17 at hw
    exact W.iret (v := t0) hx hb hr (fun t ht hW => ⟨⟨t0, (), rfl, hw, by rw [ht]; exact hP, va_K.moved hW.alike hK, hD⟩, hS.F ht⟩) hS.2.2 dc_X_opposite_17
  unfold wp_X_opposite at hw
  refine lv_iload_n hx hb dc_X_opposite_0 rfl (lv_at hl 0 rfl) ?_
  refine lv_iconst (v := 2) hx hb dc_X_opposite_1 (by decide) ?_
  obtain ⟨hw1, hw2⟩ := hw
  refine lv_icmp_ne (tgt := 7) hx hb dc_X_opposite_2 (by decide) (fun hc => ?_) (fun hc => ?_)
  · have hw := hw1 hc
    clear hw1 hw2
    refine lv_iload_n hx hb dc_X_opposite_7 rfl (lv_at hl 0 rfl) ?_
    refine lv_iconst (v := 1) hx hb dc_X_opposite_8 (by decide) ?_
    obtain ⟨hw1, hw2⟩ := hw
    refine lv_icmp_ne (tgt := 16) hx hb dc_X_opposite_9 (by decide) (fun hc => ?_) (fun hc => ?_)
    · have hw := hw1 hc
      clear hw1 hw2
      refine lv_iconst (v := 1) hx hb dc_X_opposite_16 (by decide) ?_
      exact B_17 _ _ _ (1 : Int32) hw hP hD hS (lv_sub hl [] rfl)
    · have hw := hw2 (fun h9 => h9 hc)
      clear hw1 hw2
      refine lv_iconst (v := 0) hx hb dc_X_opposite_12 (by decide) ?_
      refine lv_goto (tgt := 17) hx hb dc_X_opposite_13 (by decide) ?_
      exact B_17 _ _ _ (0 : Int32) hw hP hD hS (lv_sub hl [] rfl)
  · have hw := hw2 (fun h9 => h9 hc)
    clear hw1 hw2
    refine lv_iconst (v := 2) hx hb dc_X_opposite_5 (by decide) ?_
    exact W.iret (v := (2 : Int32)) hx hb hr (fun t ht hW => ⟨⟨(2 : Int32), (), rfl, hw, by rw [ht]; exact hP, va_K.moved hW.alike hK, hD⟩, hS.F ht⟩) hS.2.2 dc_X_opposite_6
set_option maxHeartbeats 4000000 in
set_option maxRecDepth 100000 in
theorem kt_X_unknownLetter (l : Launch) (dC : Nat → ClassId) (dI : Nat → Nat → Nat) (cJ cI cZ cB : ClassId) (sz : Nat) (a0 : Int64) (a2 : Int64) (a4 : Int64) (post : Int32 → Prop) (hw : wp_X_unknownLetter post a0 a2 a4) : Met l yn_X_unknownLetter ws_X_unknownLetter rm_X_unknownLetter (va_Pc [.long a0, .long a2, .long a4] (pc_W (dC, dI) (ty_4 cJ cI cZ cB) ([] : va_W) sz)) (qi_0 dC dI cJ cI cZ cB post (va_A ([] : va_W) sz)) 0 0 (va_A ([] : va_W) sz) := by
  refine Met.ofW (cc := cd_X_unknownLetter) (maxL := 6) (ret := (some .char)) (by decide) rfl ?_
  intro p e s m args below meth c s₁ B hml hv
  obtain ⟨rfl, hsz, hP, hK, hD0, hE⟩ := hv
  have hx := B.exec
  have hb := B.bytes
  have hr := B.returns
  have hts := atoms_spec (ws := ws_X_unknownLetter) B.pre
  have hq : ∀ {w : Cond}, w ∈ wg_all → w.before ([.long a0, .long a2, .long a4] : List Value).toArray s = true := fun h => hts _ (List.mem_cons_of_mem _ h)
  have hu : ∀ L : List Cond, (∀ w ∈ L, w ∈ wg_all) → ∀ w ∈ L, w ∈ ws_X_unknownLetter := fun L h w hw => List.mem_cons_of_mem _ (h w hw)
  have hown : s.vm.findClass "FourWords" = some m.cls := findClass_of_methodNamed B.named
  have hlocks := B.notSynchronized
  subst hsz
  have hD := hD0.self (sz := s.heap.size)
  generalize hAe : va_A ([] : va_W) s.heap.size = A at hD ⊢
  have hA : ∀ q : Nat, s.heap.size ≤ q → A q := fun q h => by rw [← hAe]; exact Or.inr h
  have hS : va_S A s.heap s.heap [] := va_S.rf
  have hl := lv_entry [.long a0, .long a2, .long a4] (n := 6) (Nat.le_of_ble_eq_true rfl)
  rw [lg_entry_eq]
  generalize (lg_sl [.long a0, .long a2, .long a4] ++ List.replicate (6 - (lg_sl [.long a0, .long a2, .long a4]).length) Slot.unset).toArray = ls at hl ⊢
  have hl : lv_has ls 6 [(0, .long a0), (2, .long a2), (4, .long a4)] := hl
  have B_48 : ∀ (H : Heap) (locs : List Loc) (ls : Array Slot) (t0 : Int32), wp_X_unknownLetter_48 post t0 → va_P (dC, dI) cs_3 ([] : va_W) H → va_D A ([] : va_W) → va_S A s.heap H locs → lv_has ls 6 [] → W p l e (headSpec ws_X_unknownLetter rm_X_unknownLetter).room s m ([.long a0, .long a2, .long a4] : List Value).toArray below meth c H locs 0 0 (MQ below (qi_0 dC dI cJ cI cZ cB post A) ([.long a0, .long a2, .long a4] : List Value).toArray s 0 0 A) (F0 m 48 ls [.int t0]) := by
    intro H locs ls t0 hw hP hD hS hl
    unfold wp_X_unknownLetter_48 at hw
    obtain ⟨hnw, hw⟩ := hw
    exact W.zret (v := t0) hx hb hr hnw (fun t ht hW => ⟨⟨t0, (), rfl, hw, by rw [ht]; exact hP, va_K.moved hW.alike hK, hD⟩, hS.F ht⟩) hS.2.2 dc_X_unknownLetter_48
  have B_33 : ∀ (H : Heap) (locs : List Loc) (ls : Array Slot) (x0 : Int64) (x2 : Int64), wp_X_unknownLetter_33 post x0 x2 → va_P (dC, dI) cs_3 ([] : va_W) H → va_D A ([] : va_W) → va_S A s.heap H locs → lv_has ls 6 [(0, .long x0), (2, .long x2)] → W p l e (headSpec ws_X_unknownLetter rm_X_unknownLetter).room s m ([.long a0, .long a2, .long a4] : List Value).toArray below meth c H locs 0 0 (MQ below (qi_0 dC dI cJ cI cZ cB post A) ([.long a0, .long a2, .long a4] : List Value).toArray s 0 0 A) (F0 m 33 ls []) := by
    intro H locs ls x0 x2 hw hP hD hS hl
    unfold wp_X_unknownLetter_33 at hw
    refine lv_lload_n hx hb dc_X_unknownLetter_33 rfl (lv_at hl 0 rfl) ?_
    refine lv_lload_n hx hb dc_X_unknownLetter_34 rfl (lv_at hl 1 rfl) ?_
    refine lv_land hx hb dc_X_unknownLetter_35 ?_
    refine lv_lconst (v := 0) hx hb dc_X_unknownLetter_36 (by decide) ?_
    refine W.lcmp hx hb dc_X_unknownLetter_37 ?_
    obtain ⟨hw1, hw2⟩ := hw
    refine lv_if_eq (tgt := 46) hx hb dc_X_unknownLetter_38 (by decide) (fun hc => ?_) (fun hc => ?_)
    · have hw := hw1 hc
      clear hw1 hw2
      refine lv_bipush (v := 90) hx hb dc_X_unknownLetter_46 (by decide) ?_
      exact B_48 _ _ _ (90 : Int32) hw hP hD hS (lv_sub hl [] rfl)
    · have hw := hw2 hc
      clear hw1 hw2
      refine lv_bipush (v := 88) hx hb dc_X_unknownLetter_41 (by decide) ?_
      refine lv_goto (tgt := 48) hx hb dc_X_unknownLetter_43 (by decide) ?_
      exact B_48 _ _ _ (88 : Int32) hw hP hD hS (lv_sub hl [] rfl)
  have B_17 : ∀ (H : Heap) (locs : List Loc) (ls : Array Slot) (x0 : Int64) (x2 : Int64) (x4 : Int64), wp_X_unknownLetter_17 post x0 x2 x4 → va_P (dC, dI) cs_3 ([] : va_W) H → va_D A ([] : va_W) → va_S A s.heap H locs → lv_has ls 6 [(0, .long x0), (2, .long x2), (4, .long x4)] → W p l e (headSpec ws_X_unknownLetter rm_X_unknownLetter).room s m ([.long a0, .long a2, .long a4] : List Value).toArray below meth c H locs 0 0 (MQ below (qi_0 dC dI cJ cI cZ cB post A) ([.long a0, .long a2, .long a4] : List Value).toArray s 0 0 A) (F0 m 17 ls []) := by
    intro H locs ls x0 x2 x4 hw hP hD hS hl
    unfold wp_X_unknownLetter_17 at hw
    refine lv_lload_n hx hb dc_X_unknownLetter_17 rfl (lv_at hl 1 rfl) ?_
    refine lv_lload hx hb dc_X_unknownLetter_18 (lv_at hl 2 rfl) ?_
    refine W.lcmp hx hb dc_X_unknownLetter_20 ?_
    obtain ⟨hw1, hw2⟩ := hw
    refine lv_if_ne (tgt := 33) hx hb dc_X_unknownLetter_21 (by decide) (fun hc => ?_) (fun hc => ?_)
    · have hw := hw1 hc
      clear hw1 hw2
      exact B_33 _ _ _ x0 x2 hw hP hD hS (lv_sub hl [0, 1] rfl)
    · have hw := hw2 (fun h9 => h9 hc)
      clear hw1 hw2
      refine lv_lload_n hx hb dc_X_unknownLetter_24 rfl (lv_at hl 0 rfl) ?_
      refine lv_lconst (v := 0) hx hb dc_X_unknownLetter_25 (by decide) ?_
      refine W.lcmp hx hb dc_X_unknownLetter_26 ?_
      obtain ⟨hw1, hw2⟩ := hw
      refine lv_if_ne (tgt := 33) hx hb dc_X_unknownLetter_27 (by decide) (fun hc => ?_) (fun hc => ?_)
      · have hw := hw1 hc
        clear hw1 hw2
        exact B_33 _ _ _ x0 x2 hw hP hD hS (lv_sub hl [0, 1] rfl)
      · have hw := hw2 (fun h9 => h9 hc)
        clear hw1 hw2
        refine lv_bipush (v := 122) hx hb dc_X_unknownLetter_30 (by decide) ?_
        obtain ⟨hnw, hw⟩ := hw
        exact W.zret (v := (122 : Int32)) hx hb hr hnw (fun t ht hW => ⟨⟨(122 : Int32), (), rfl, hw, by rw [ht]; exact hP, va_K.moved hW.alike hK, hD⟩, hS.F ht⟩) hS.2.2 dc_X_unknownLetter_32
  unfold wp_X_unknownLetter at hw
  refine lv_lload_n hx hb dc_X_unknownLetter_0 rfl (lv_at hl 1 rfl) ?_
  refine lv_lload hx hb dc_X_unknownLetter_1 (lv_at hl 2 rfl) ?_
  refine W.lcmp hx hb dc_X_unknownLetter_3 ?_
  obtain ⟨hw1, hw2⟩ := hw
  refine lv_if_ne (tgt := 17) hx hb dc_X_unknownLetter_4 (by decide) (fun hc => ?_) (fun hc => ?_)
  · have hw := hw1 hc
    clear hw1 hw2
    exact B_17 _ _ _ a0 a2 a4 hw hP hD hS (lv_sub hl [0, 1, 2] rfl)
  · have hw := hw2 (fun h9 => h9 hc)
    clear hw1 hw2
    refine lv_lload_n hx hb dc_X_unknownLetter_7 rfl (lv_at hl 0 rfl) ?_
    refine lv_lload hx hb dc_X_unknownLetter_8 (lv_at hl 2 rfl) ?_
    refine W.lcmp hx hb dc_X_unknownLetter_10 ?_
    obtain ⟨hw1, hw2⟩ := hw
    refine lv_if_ne (tgt := 17) hx hb dc_X_unknownLetter_11 (by decide) (fun hc => ?_) (fun hc => ?_)
    · have hw := hw1 hc
      clear hw1 hw2
      exact B_17 _ _ _ a0 a2 a4 hw hP hD hS (lv_sub hl [0, 1, 2] rfl)
    · have hw := hw2 (fun h9 => h9 hc)
      clear hw1 hw2
      refine lv_bipush (v := 120) hx hb dc_X_unknownLetter_14 (by decide) ?_
      obtain ⟨hnw, hw⟩ := hw
      exact W.zret (v := (120 : Int32)) hx hb hr hnw (fun t ht hW => ⟨⟨(120 : Int32), (), rfl, hw, by rw [ht]; exact hP, va_K.moved hW.alike hK, hD⟩, hS.F ht⟩) hS.2.2 dc_X_unknownLetter_16
set_option maxHeartbeats 4000000 in
set_option maxRecDepth 100000 in
theorem kt_X_groupLetter (l : Launch) (dC : Nat → ClassId) (dI : Nat → Nat → Nat) (cJ cI cZ cB : ClassId) (sz : Nat) (a0 : Int64) (a2 : Int64) (a4 : Int64) (post : Int32 → Prop) (hw : wp_X_groupLetter post a0 a2 a4) : Met l yn_X_groupLetter ws_X_groupLetter rm_X_groupLetter (va_Pc [.long a0, .long a2, .long a4] (pc_W (dC, dI) (ty_4 cJ cI cZ cB) ([] : va_W) sz)) (qi_0 dC dI cJ cI cZ cB post (va_A ([] : va_W) sz)) 0 0 (va_A ([] : va_W) sz) := by
  refine Met.ofW (cc := cd_X_groupLetter) (maxL := 6) (ret := (some .char)) (by decide) rfl ?_
  intro p e s m args below meth c s₁ B hml hv
  obtain ⟨rfl, hsz, hP, hK, hD0, hE⟩ := hv
  have hx := B.exec
  have hb := B.bytes
  have hr := B.returns
  have hts := atoms_spec (ws := ws_X_groupLetter) B.pre
  have hq : ∀ {w : Cond}, w ∈ wg_all → w.before ([.long a0, .long a2, .long a4] : List Value).toArray s = true := fun h => hts _ (List.mem_cons_of_mem _ h)
  have hu : ∀ L : List Cond, (∀ w ∈ L, w ∈ wg_all) → ∀ w ∈ L, w ∈ ws_X_groupLetter := fun L h w hw => List.mem_cons_of_mem _ (h w hw)
  have hown : s.vm.findClass "FourWords" = some m.cls := findClass_of_methodNamed B.named
  have hlocks := B.notSynchronized
  subst hsz
  have hD := hD0.self (sz := s.heap.size)
  generalize hAe : va_A ([] : va_W) s.heap.size = A at hD ⊢
  have hA : ∀ q : Nat, s.heap.size ≤ q → A q := fun q h => by rw [← hAe]; exact Or.inr h
  have hS : va_S A s.heap s.heap [] := va_S.rf
  have hl := lv_entry [.long a0, .long a2, .long a4] (n := 6) (Nat.le_of_ble_eq_true rfl)
  rw [lg_entry_eq]
  generalize (lg_sl [.long a0, .long a2, .long a4] ++ List.replicate (6 - (lg_sl [.long a0, .long a2, .long a4]).length) Slot.unset).toArray = ls at hl ⊢
  have hl : lv_has ls 6 [(0, .long a0), (2, .long a2), (4, .long a4)] := hl
  have B_39 : ∀ (H : Heap) (locs : List Loc) (ls : Array Slot) (t0 : Int64), wp_X_groupLetter_39 post t0 → va_P (dC, dI) cs_3 ([] : va_W) H → va_D A ([] : va_W) → va_S A s.heap H locs → lv_has ls 6 [] → W p l e (headSpec ws_X_groupLetter rm_X_groupLetter).room s m ([.long a0, .long a2, .long a4] : List Value).toArray below meth c H locs 0 0 (MQ below (qi_0 dC dI cJ cI cZ cB post A) ([.long a0, .long a2, .long a4] : List Value).toArray s 0 0 A) (F0 m 39 ls [.long t0]) := by
    intro H locs ls t0 hw hP hD hS hl
    unfold wp_X_groupLetter_39 at hw
    refine lv_l2i hx hb dc_X_groupLetter_39 rfl ?_
    refine lv_i2c hx hb dc_X_groupLetter_40 rfl ?_
    obtain ⟨hnw, hw⟩ := hw
    exact W.zret (v := (t0.toInt32.toUInt32 % 65536).toInt32) hx hb hr hnw (fun t ht hW => ⟨⟨(t0.toInt32.toUInt32 % 65536).toInt32, (), rfl, hw, by rw [ht]; exact hP, va_K.moved hW.alike hK, hD⟩, hS.F ht⟩) hS.2.2 dc_X_groupLetter_41
  unfold wp_X_groupLetter at hw
  refine lv_lload_n hx hb dc_X_groupLetter_0 rfl (lv_at hl 1 rfl) ?_
  refine lv_lconst (v := 0) hx hb dc_X_groupLetter_1 (by decide) ?_
  refine W.lcmp hx hb dc_X_groupLetter_2 ?_
  obtain ⟨hw1, hw2⟩ := hw
  refine lv_if_eq (tgt := 14) hx hb dc_X_groupLetter_3 (by decide) (fun hc => ?_) (fun hc => ?_)
  · have hw := hw1 hc
    clear hw1 hw2
    refine lv_lload_n hx hb dc_X_groupLetter_14 rfl (lv_at hl 0 rfl) ?_
    refine lv_ldc2 (v := 10) hx hb hown (hq mw_t420) dc_X_groupLetter_15 ?_
    refine W.lcmp hx hb dc_X_groupLetter_18 ?_
    obtain ⟨hw1, hw2⟩ := hw
    refine lv_if_ge (tgt := 30) hx hb dc_X_groupLetter_19 (by decide) (fun hc => ?_) (fun hc => ?_)
    · have hw := hw1 hc
      clear hw1 hw2
      refine lv_ldc2 (v := 97) hx hb hown (hq mw_t422) dc_X_groupLetter_30 ?_
      refine lv_lload_n hx hb dc_X_groupLetter_33 rfl (lv_at hl 0 rfl) ?_
      refine lv_ladd hx hb dc_X_groupLetter_34 ?_
      refine lv_ldc2 (v := 10) hx hb hown (hq mw_t420) dc_X_groupLetter_35 ?_
      refine lv_lsub hx hb dc_X_groupLetter_38 ?_
      exact B_39 _ _ _ (((97 : Int64) + a0) - (10 : Int64)) hw hP hD hS (lv_sub hl [] rfl)
    · have hw := hw2 hc
      clear hw1 hw2
      refine lv_ldc2 (v := 48) hx hb hown (hq mw_t421) dc_X_groupLetter_22 ?_
      refine lv_lload_n hx hb dc_X_groupLetter_25 rfl (lv_at hl 0 rfl) ?_
      refine lv_ladd hx hb dc_X_groupLetter_26 ?_
      refine lv_goto (tgt := 39) hx hb dc_X_groupLetter_27 (by decide) ?_
      exact B_39 _ _ _ ((48 : Int64) + a0) hw hP hD hS (lv_sub hl [] rfl)
  · have hw := hw2 hc
    clear hw1 hw2
    refine lv_lload_n hx hb dc_X_groupLetter_6 rfl (lv_at hl 0 rfl) ?_
    refine lv_lload_n hx hb dc_X_groupLetter_7 rfl (lv_at hl 1 rfl) ?_
    refine lv_lload hx hb dc_X_groupLetter_8 (lv_at hl 2 rfl) ?_
    refine gc_i (S := Unit) (w1 := (fun u => ([] : va_W))) (wc := ([] : va_W)) (wr := ([] : va_W)) (va_runS (As := [.long a0, .long a2, .long a4]) (rest := []) ⟨hx, hb, hml, hown, hts⟩ (kt_X_unknownLetter l dC dI cJ cI cZ cB _ a0 a2 a4 _ hw) ⟨callB_of 3 hts (gw_in mw_t401) rfl rfl rfl (hq mw_t1) (hq mw_t399) (by decide +kernel) ⟨Nat.le_of_ble_eq_true rfl, Nat.le_of_ble_eq_true rfl⟩, hq mw_t400⟩ (ps_W (hP.sub (ws' := ([] : va_W)) [] rfl) hK (hD.sub (ws' := ([] : va_W)) [] (by decide) rfl) hE) rfl rfl hl.1 rfl (lv_room (Nat.le_of_ble_eq_true rfl)) dc_X_groupLetter_10 ⟨Nat.le_of_ble_eq_true rfl, Nat.le_of_ble_eq_true rfl⟩) hP hD hS hA [] [] rfl rfl (by decide) (by decide) (fun r10 u H locs hw hP hD hS => ?_)
    try dsimp only at hw
    obtain ⟨hnw, hw⟩ := hw
    exact W.zret (v := r10) hx hb hr hnw (fun t ht hW => ⟨⟨r10, (), rfl, hw, by rw [ht]; exact hP, va_K.moved hW.alike hK, hD⟩, hS.F ht⟩) hS.2.2 dc_X_groupLetter_13
set_option maxHeartbeats 4000000 in
set_option maxRecDepth 100000 in
theorem kt_X_setBits (l : Launch) (dC : Nat → ClassId) (dI : Nat → Nat → Nat) (cJ cI cZ cB : ClassId) (h0 qO qU qW qG qN qL : Nat) (sz : Nat) (a1 : Int32) (a2 : Int64) (a4 : Int64) (fO : (Nat → Int64)) (fU : (Nat → Int64)) (fW : (Nat → Int32)) (fG : (Nat → Int32)) (fL : (Nat → Int32)) (len : Int32) (size : Int32) (post : (Nat → Int64) → (Nat → Int64) → (Nat → Int32) → (Nat → Int32) → (Nat → Int32) → Int32 → Int32 → Prop) (hw : wp_X_setBits post a1 a2 a4 fO fU fW fG fL len size) : Met l yn_X_setBits ws_X_setBits rm_X_setBits (va_Pc [.ref h0, .int a1, .long a2, .long a4] (pc_W (dC, dI) (ty_4 cJ cI cZ cB) (wd_X h0 qO qU qW qG qN qL cJ cI cZ cB fO fU fW fG fL len size) sz)) (qv_X dC dI cJ cI cZ cB h0 qO qU qW qG qN qL post (va_A (wd_X h0 qO qU qW qG qN qL cJ cI cZ cB fO fU fW fG fL len size) sz)) 0 0 (va_A (wd_X h0 qO qU qW qG qN qL cJ cI cZ cB fO fU fW fG fL len size) sz) := by
  refine Met.ofW (cc := cd_X_setBits) (maxL := 8) (ret := none) (by decide) rfl ?_
  intro p e s m args below meth c s₁ B hml hv
  obtain ⟨rfl, hsz, hP, hK, hD0, hE⟩ := hv
  have hx := B.exec
  have hb := B.bytes
  have hr := B.returns
  have hts := atoms_spec (ws := ws_X_setBits) B.pre
  have hq : ∀ {w : Cond}, w ∈ wg_all → w.before ([.ref h0, .int a1, .long a2, .long a4] : List Value).toArray s = true := fun h => hts _ (List.mem_cons_of_mem _ h)
  have hu : ∀ L : List Cond, (∀ w ∈ L, w ∈ wg_all) → ∀ w ∈ L, w ∈ ws_X_setBits := fun L h w hw => List.mem_cons_of_mem _ (h w hw)
  have hown : s.vm.findClass "FourWords" = some m.cls := findClass_of_methodNamed B.named
  have hlocks := B.notSynchronized
  subst hsz
  have hD := hD0.self (sz := s.heap.size)
  generalize hAe : va_A (wd_X h0 qO qU qW qG qN qL cJ cI cZ cB fO fU fW fG fL len size) s.heap.size = A at hD ⊢
  have hA : ∀ q : Nat, s.heap.size ≤ q → A q := fun q h => by rw [← hAe]; exact Or.inr h
  have hS : va_S A s.heap s.heap [] := va_S.rf
  have hl := lv_entry [.ref h0, .int a1, .long a2, .long a4] (n := 8) (Nat.le_of_ble_eq_true rfl)
  rw [lg_entry_eq]
  generalize (lg_sl [.ref h0, .int a1, .long a2, .long a4] ++ List.replicate (8 - (lg_sl [.ref h0, .int a1, .long a2, .long a4]).length) Slot.unset).toArray = ls at hl ⊢
  have hl : lv_has ls 8 [(0, .ref h0), (1, .int a1), (2, .long a2), (4, .long a4)] := hl
  unfold wp_X_setBits at hw
  refine lv_aload_n hx hb dc_X_setBits_0 rfl (lv_at hl 0 rfl) ?_
  refine va_get (D := (dC, dI)) (ci := 1) (v := .ref qW) (C := "FourWords") (T := tb_X) (N := 6) hx hb hts (hu _ um_X) hown hK hP 0 rfl rfl 2 (by decide) (hq mw_t42) (fun _ h9 => h9) rfl dc_X_setBits_1 ?_
  refine lv_iload_n hx hb dc_X_setBits_4 rfl (lv_at hl 1 rfl) ?_
  obtain ⟨hin, hw⟩ := hw
  refine va_iald hx hb hK hP 3 1 rfl rfl hin dc_X_setBits_5 ?_
  refine gc_l (S := Unit) (w1 := (fun u => ([] : va_W))) (wc := ([] : va_W)) (wr := ([(h0, .inr (1, [.ref qO, .ref qU, .ref qW, .ref qG, .ref qN, .int size])), (qO, .inl (cJ, 64, .inr (.inl fO))), (qU, .inl (cJ, 64, .inr (.inl fU))), (qW, .inl (cI, 64, .inl fW)), (qG, .inl (cZ, 64, .inl fG)), (qN, .inr (0, [.ref qL, .int len])), (qL, .inl (cB, 64, .inl fL))] : va_W)) (va_runSN (As := [.int (fW a1.toNatClampNeg)]) (rest := []) ⟨hx, hb, hml, hown, hts⟩ (kt_B_lowest l dC dI cJ cI cZ cB _ (fW a1.toNatClampNeg) _ hw) ⟨va_cnB 1 hts (gw_in mw_t172) rfl rfl rfl (en_X157 hE) (hq mw_t9) (by decide +kernel) ⟨Nat.le_of_ble_eq_true rfl, Nat.le_of_ble_eq_true rfl⟩, hq mw_t171, trivial⟩ (ps_W (hP.sub (ws' := ([] : va_W)) [] rfl) hK (hD.sub (ws' := ([] : va_W)) [] (by decide) rfl) hE) rfl rfl hl.1 rfl (lv_room (Nat.le_of_ble_eq_true rfl)) dc_X_setBits_6 ⟨Nat.le_of_ble_eq_true rfl, Nat.le_of_ble_eq_true rfl⟩) hP hD hS hA [] [0, 1, 2, 3, 4, 5, 6] rfl rfl (by decide) (by decide) (fun r6 u H locs hw hP hD hS => ?_)
  have hP : va_P (dC, dI) cs_3 (wd_X h0 qO qU qW qG qN qL cJ cI cZ cB fO fU fW fG fL len size) H := hP.sub (ws' := (wd_X h0 qO qU qW qG qN qL cJ cI cZ cB fO fU fW fG fL len size)) [0, 1, 2, 3, 4, 5, 6] rfl
  have hD : va_D A (wd_X h0 qO qU qW qG qN qL cJ cI cZ cB fO fU fW fG fL len size) := hD.sub (ws' := (wd_X h0 qO qU qW qG qN qL cJ cI cZ cB fO fU fW fG fL len size)) [0, 1, 2, 3, 4, 5, 6] (by decide) rfl
  try dsimp only at hw
  refine lv_lstore (lv' := [(6, .long r6), (0, .ref h0), (1, .int a1), (2, .long a2), (4, .long a4)]) hx hb dc_X_setBits_9 hl (Nat.le_of_ble_eq_true rfl) rfl (fun ls hl => ?_)
  refine lv_aload_n hx hb dc_X_setBits_11 rfl (lv_at hl 1 rfl) ?_
  refine va_get (D := (dC, dI)) (ci := 1) (v := .ref qO) (C := "FourWords") (T := tb_X) (N := 6) hx hb hts (hu _ um_X) hown hK hP 0 rfl rfl 0 (by decide) (hq mw_t40) (fun _ h9 => h9) rfl dc_X_setBits_12 ?_
  refine lv_iload_n hx hb dc_X_setBits_15 rfl (lv_at hl 2 rfl) ?_
  refine lv_lload_n hx hb dc_X_setBits_16 rfl (lv_at hl 3 rfl) ?_
  refine lv_lload hx hb dc_X_setBits_17 (lv_at hl 0 rfl) ?_
  refine lv_land hx hb dc_X_setBits_19 ?_
  obtain ⟨hin, hw⟩ := hw
  refine va_last hx hb hK hP hD hS 1 0 rfl rfl hin dc_X_setBits_20 (fun H locs hP hD hS => ?_)
  have hP : va_P (dC, dI) cs_3 (wd_X h0 qO qU qW qG qN qL cJ cI cZ cB (vp_updL fO a1.toNatClampNeg (a2 &&& r6)) fU fW fG fL len size) H := hP
  have hD : va_D A (wd_X h0 qO qU qW qG qN qL cJ cI cZ cB (vp_updL fO a1.toNatClampNeg (a2 &&& r6)) fU fW fG fL len size) := hD
  refine lv_aload_n hx hb dc_X_setBits_21 rfl (lv_at hl 1 rfl) ?_
  refine va_get (D := (dC, dI)) (ci := 1) (v := .ref qU) (C := "FourWords") (T := tb_X) (N := 6) hx hb hts (hu _ um_X) hown hK hP 0 rfl rfl 1 (by decide) (hq mw_t41) (fun _ h9 => h9) rfl dc_X_setBits_22 ?_
  refine lv_iload_n hx hb dc_X_setBits_25 rfl (lv_at hl 2 rfl) ?_
  refine lv_lload hx hb dc_X_setBits_26 (lv_at hl 4 rfl) ?_
  refine lv_lload hx hb dc_X_setBits_28 (lv_at hl 0 rfl) ?_
  refine lv_land hx hb dc_X_setBits_30 ?_
  obtain ⟨hin, hw⟩ := hw
  refine va_last hx hb hK hP hD hS 2 0 rfl rfl hin dc_X_setBits_31 (fun H locs hP hD hS => ?_)
  have hP : va_P (dC, dI) cs_3 (wd_X h0 qO qU qW qG qN qL cJ cI cZ cB (vp_updL fO a1.toNatClampNeg (a2 &&& r6)) (vp_updL fU a1.toNatClampNeg (a4 &&& r6)) fW fG fL len size) H := hP
  have hD : va_D A (wd_X h0 qO qU qW qG qN qL cJ cI cZ cB (vp_updL fO a1.toNatClampNeg (a2 &&& r6)) (vp_updL fU a1.toNatClampNeg (a4 &&& r6)) fW fG fL len size) := hD
  exact W.vret hx hb hr (fun t ht hW => ⟨⟨(vp_updL fO a1.toNatClampNeg (a2 &&& r6), vp_updL fU a1.toNatClampNeg (a4 &&& r6), fW, fG, fL, len, size), rfl, hw, by rw [ht]; exact hP, va_K.moved hW.alike hK, hD⟩, hS.F ht⟩) hS.2.2 dc_X_setBits_32
set_option maxHeartbeats 4000000 in
set_option maxRecDepth 100000 in
theorem kt_X_setValue (l : Launch) (dC : Nat → ClassId) (dI : Nat → Nat → Nat) (cJ cI cZ cB : ClassId) (h0 qO qU qW qG qN qL : Nat) (sz : Nat) (a1 : Int32) (a2 : Int64) (a4 : Int64) (a6 : Int32) (a7 : Int32) (fO : (Nat → Int64)) (fU : (Nat → Int64)) (fW : (Nat → Int32)) (fG : (Nat → Int32)) (fL : (Nat → Int32)) (len : Int32) (size : Int32) (post : (Nat → Int64) → (Nat → Int64) → (Nat → Int32) → (Nat → Int32) → (Nat → Int32) → Int32 → Int32 → Prop) (hw : wp_X_setValue post a1 a2 a4 a6 a7 fO fU fW fG fL len size) : Met l yn_X_setValue ws_X_setValue rm_X_setValue (va_Pc [.ref h0, .int a1, .long a2, .long a4, .int a6, .int a7] (pc_W (dC, dI) (ty_4 cJ cI cZ cB) (wd_X h0 qO qU qW qG qN qL cJ cI cZ cB fO fU fW fG fL len size) sz)) (qv_X dC dI cJ cI cZ cB h0 qO qU qW qG qN qL post (va_A (wd_X h0 qO qU qW qG qN qL cJ cI cZ cB fO fU fW fG fL len size) sz)) 0 0 (va_A (wd_X h0 qO qU qW qG qN qL cJ cI cZ cB fO fU fW fG fL len size) sz) := by
  refine Met.ofW (cc := cd_X_setValue) (maxL := 8) (ret := none) (by decide) rfl ?_
  intro p e s m args below meth c s₁ B hml hv
  obtain ⟨rfl, hsz, hP, hK, hD0, hE⟩ := hv
  have hx := B.exec
  have hb := B.bytes
  have hr := B.returns
  have hts := atoms_spec (ws := ws_X_setValue) B.pre
  have hq : ∀ {w : Cond}, w ∈ wg_all → w.before ([.ref h0, .int a1, .long a2, .long a4, .int a6, .int a7] : List Value).toArray s = true := fun h => hts _ (List.mem_cons_of_mem _ h)
  have hu : ∀ L : List Cond, (∀ w ∈ L, w ∈ wg_all) → ∀ w ∈ L, w ∈ ws_X_setValue := fun L h w hw => List.mem_cons_of_mem _ (h w hw)
  have hown : s.vm.findClass "FourWords" = some m.cls := findClass_of_methodNamed B.named
  have hlocks := B.notSynchronized
  subst hsz
  have hD := hD0.self (sz := s.heap.size)
  generalize hAe : va_A (wd_X h0 qO qU qW qG qN qL cJ cI cZ cB fO fU fW fG fL len size) s.heap.size = A at hD ⊢
  have hA : ∀ q : Nat, s.heap.size ≤ q → A q := fun q h => by rw [← hAe]; exact Or.inr h
  have hS : va_S A s.heap s.heap [] := va_S.rf
  have hl := lv_entry [.ref h0, .int a1, .long a2, .long a4, .int a6, .int a7] (n := 8) (Nat.le_of_ble_eq_true rfl)
  rw [lg_entry_eq]
  generalize (lg_sl [.ref h0, .int a1, .long a2, .long a4, .int a6, .int a7] ++ List.replicate (8 - (lg_sl [.ref h0, .int a1, .long a2, .long a4, .int a6, .int a7]).length) Slot.unset).toArray = ls at hl ⊢
  have hl : lv_has ls 8 [(0, .ref h0), (1, .int a1), (2, .long a2), (4, .long a4), (6, .int a6), (7, .int a7)] := hl
  unfold wp_X_setValue at hw
  refine lv_aload_n hx hb dc_X_setValue_0 rfl (lv_at hl 0 rfl) ?_
  refine va_get (D := (dC, dI)) (ci := 1) (v := .ref qW) (C := "FourWords") (T := tb_X) (N := 6) hx hb hts (hu _ um_X) hown hK hP 0 rfl rfl 2 (by decide) (hq mw_t42) (fun _ h9 => h9) rfl dc_X_setValue_1 ?_
  refine lv_iload_n hx hb dc_X_setValue_4 rfl (lv_at hl 1 rfl) ?_
  refine lv_iload hx hb dc_X_setValue_5 (lv_at hl 4 rfl) ?_
  obtain ⟨hin, hw⟩ := hw
  refine va_iast hx hb hK hP hD hS 3 1 rfl rfl hin dc_X_setValue_7 (fun H locs hP hD hS => ?_)
  have hP : va_P (dC, dI) cs_3 (wd_X h0 qO qU qW qG qN qL cJ cI cZ cB fO fU (upd fW a1.toNatClampNeg a6) fG fL len size) H := hP
  have hD : va_D A (wd_X h0 qO qU qW qG qN qL cJ cI cZ cB fO fU (upd fW a1.toNatClampNeg a6) fG fL len size) := hD
  refine lv_aload_n hx hb dc_X_setValue_8 rfl (lv_at hl 0 rfl) ?_
  refine va_get (D := (dC, dI)) (ci := 1) (v := .ref qG) (C := "FourWords") (T := tb_X) (N := 6) hx hb hts (hu _ um_X) hown hK hP 0 rfl rfl 3 (by decide) (hq mw_t43) (fun _ h9 => h9) rfl dc_X_setValue_9 ?_
  refine lv_iload_n hx hb dc_X_setValue_12 rfl (lv_at hl 1 rfl) ?_
  refine lv_iload hx hb dc_X_setValue_13 (lv_at hl 5 rfl) ?_
  obtain ⟨hin, hw⟩ := hw
  refine va_zast hx hb hK hP hD hS 4 2 rfl rfl hin dc_X_setValue_15 (fun H locs hP hD hS => ?_)
  have hP : va_P (dC, dI) cs_3 (wd_X h0 qO qU qW qG qN qL cJ cI cZ cB fO fU (upd fW a1.toNatClampNeg a6) (upd fG a1.toNatClampNeg (vp_nar .boolean a7)) fL len size) H := hP
  have hD : va_D A (wd_X h0 qO qU qW qG qN qL cJ cI cZ cB fO fU (upd fW a1.toNatClampNeg a6) (upd fG a1.toNatClampNeg (vp_nar .boolean a7)) fL len size) := hD
  refine lv_aload_n hx hb dc_X_setValue_16 rfl (lv_at hl 0 rfl) ?_
  refine lv_iload_n hx hb dc_X_setValue_17 rfl (lv_at hl 1 rfl) ?_
  refine lv_lload_n hx hb dc_X_setValue_18 rfl (lv_at hl 2 rfl) ?_
  refine lv_lload hx hb dc_X_setValue_19 (lv_at hl 3 rfl) ?_
  refine gc_v (S := (Nat → Int64) × (Nat → Int64) × (Nat → Int32) × (Nat → Int32) × (Nat → Int32) × Int32 × Int32) (w1 := (fun u => (wd_X h0 qO qU qW qG qN qL cJ cI cZ cB u.1 u.2.1 u.2.2.1 u.2.2.2.1 u.2.2.2.2.1 u.2.2.2.2.2.1 u.2.2.2.2.2.2))) (wc := (wd_X h0 qO qU qW qG qN qL cJ cI cZ cB fO fU (upd fW a1.toNatClampNeg a6) (upd fG a1.toNatClampNeg (vp_nar .boolean a7)) fL len size)) (wr := ([] : va_W)) (va_runV (As := [.int a1, .long a2, .long a4]) (rest := []) ⟨hx, hb, hml, hown, hts⟩ (kt_X_setBits l dC dI cJ cI cZ cB h0 qO qU qW qG qN qL _ a1 a2 a4 fO fU (upd fW a1.toNatClampNeg a6) (upd fG a1.toNatClampNeg (vp_nar .boolean a7)) fL len size _ hw) ⟨callB_of 3 hts (gw_in mw_t169) rfl rfl rfl (hq mw_t1) (hq mw_t166) (by decide +kernel) ⟨Nat.le_of_ble_eq_true rfl, Nat.le_of_ble_eq_true rfl⟩, hq mw_t168, hq mw_s3⟩ (pv_W (va_recv (q0 := 0) (ci := 1) hK hP rfl rfl) (hP.sub (ws' := (wd_X h0 qO qU qW qG qN qL cJ cI cZ cB fO fU (upd fW a1.toNatClampNeg a6) (upd fG a1.toNatClampNeg (vp_nar .boolean a7)) fL len size)) [0, 1, 2, 3, 4, 5, 6] rfl) hK (hD.sub (ws' := (wd_X h0 qO qU qW qG qN qL cJ cI cZ cB fO fU (upd fW a1.toNatClampNeg a6) (upd fG a1.toNatClampNeg (vp_nar .boolean a7)) fL len size)) [0, 1, 2, 3, 4, 5, 6] (by decide) rfl) hE) rfl rfl hl.1 rfl (lv_room (Nat.le_of_ble_eq_true rfl)) dc_X_setValue_21 ⟨Nat.le_of_ble_eq_true rfl, Nat.le_of_ble_eq_true rfl⟩) hP hD hS hA [0, 1, 2, 3, 4, 5, 6] [] rfl rfl (by decide) (by decide) (fun u H locs hw hP hD hS => ?_)
  obtain ⟨fO21, fU21, fW21, fG21, fL21, len21, size21⟩ := u
  have hP : va_P (dC, dI) cs_3 (wd_X h0 qO qU qW qG qN qL cJ cI cZ cB fO21 fU21 fW21 fG21 fL21 len21 size21) H := hP.sub (ws' := (wd_X h0 qO qU qW qG qN qL cJ cI cZ cB fO21 fU21 fW21 fG21 fL21 len21 size21)) [0, 1, 2, 3, 4, 5, 6] rfl
  have hD : va_D A (wd_X h0 qO qU qW qG qN qL cJ cI cZ cB fO21 fU21 fW21 fG21 fL21 len21 size21) := hD.sub (ws' := (wd_X h0 qO qU qW qG qN qL cJ cI cZ cB fO21 fU21 fW21 fG21 fL21 len21 size21)) [0, 1, 2, 3, 4, 5, 6] (by decide) rfl
  try dsimp only at hw
  exact W.vret hx hb hr (fun t ht hW => ⟨⟨(fO21, fU21, fW21, fG21, fL21, len21, size21), rfl, hw, by rw [ht]; exact hP, va_K.moved hW.alike hK, hD⟩, hS.F ht⟩) hS.2.2 dc_X_setValue_24
set_option maxHeartbeats 4000000 in
set_option maxRecDepth 100000 in
theorem kt_X_setSure (l : Launch) (dC : Nat → ClassId) (dI : Nat → Nat → Nat) (cJ cI cZ cB : ClassId) (h0 qO qU qW qG qN qL : Nat) (sz : Nat) (a1 : Int32) (a2 : Int64) (a4 : Int64) (fO : (Nat → Int64)) (fU : (Nat → Int64)) (fW : (Nat → Int32)) (fG : (Nat → Int32)) (fL : (Nat → Int32)) (len : Int32) (size : Int32) (post : (Nat → Int64) → (Nat → Int64) → (Nat → Int32) → (Nat → Int32) → (Nat → Int32) → Int32 → Int32 → Prop) (hw : wp_X_setSure post a1 a2 a4 fO fU fW fG fL len size) : Met l yn_X_setSure ws_X_setSure rm_X_setSure (va_Pc [.ref h0, .int a1, .long a2, .long a4] (pc_W (dC, dI) (ty_4 cJ cI cZ cB) (wd_X h0 qO qU qW qG qN qL cJ cI cZ cB fO fU fW fG fL len size) sz)) (qv_X dC dI cJ cI cZ cB h0 qO qU qW qG qN qL post (va_A (wd_X h0 qO qU qW qG qN qL cJ cI cZ cB fO fU fW fG fL len size) sz)) 0 0 (va_A (wd_X h0 qO qU qW qG qN qL cJ cI cZ cB fO fU fW fG fL len size) sz) := by
  refine Met.ofW (cc := cd_X_setSure) (maxL := 6) (ret := none) (by decide) rfl ?_
  intro p e s m args below meth c s₁ B hml hv
  obtain ⟨rfl, hsz, hP, hK, hD0, hE⟩ := hv
  have hx := B.exec
  have hb := B.bytes
  have hr := B.returns
  have hts := atoms_spec (ws := ws_X_setSure) B.pre
  have hq : ∀ {w : Cond}, w ∈ wg_all → w.before ([.ref h0, .int a1, .long a2, .long a4] : List Value).toArray s = true := fun h => hts _ (List.mem_cons_of_mem _ h)
  have hu : ∀ L : List Cond, (∀ w ∈ L, w ∈ wg_all) → ∀ w ∈ L, w ∈ ws_X_setSure := fun L h w hw => List.mem_cons_of_mem _ (h w hw)
  have hown : s.vm.findClass "FourWords" = some m.cls := findClass_of_methodNamed B.named
  have hlocks := B.notSynchronized
  subst hsz
  have hD := hD0.self (sz := s.heap.size)
  generalize hAe : va_A (wd_X h0 qO qU qW qG qN qL cJ cI cZ cB fO fU fW fG fL len size) s.heap.size = A at hD ⊢
  have hA : ∀ q : Nat, s.heap.size ≤ q → A q := fun q h => by rw [← hAe]; exact Or.inr h
  have hS : va_S A s.heap s.heap [] := va_S.rf
  have hl := lv_entry [.ref h0, .int a1, .long a2, .long a4] (n := 6) (Nat.le_of_ble_eq_true rfl)
  rw [lg_entry_eq]
  generalize (lg_sl [.ref h0, .int a1, .long a2, .long a4] ++ List.replicate (6 - (lg_sl [.ref h0, .int a1, .long a2, .long a4]).length) Slot.unset).toArray = ls at hl ⊢
  have hl : lv_has ls 6 [(0, .ref h0), (1, .int a1), (2, .long a2), (4, .long a4)] := hl
  unfold wp_X_setSure at hw
  refine lv_aload_n hx hb dc_X_setSure_0 rfl (lv_at hl 0 rfl) ?_
  refine lv_iload_n hx hb dc_X_setSure_1 rfl (lv_at hl 1 rfl) ?_
  refine lv_lload hx hb dc_X_setSure_2 (lv_at hl 3 rfl) ?_
  refine lv_ldc2 (v := (-1)) hx hb hown (hq mw_t212) dc_X_setSure_4 ?_
  refine lv_lxor hx hb dc_X_setSure_7 ?_
  refine lv_lload_n hx hb dc_X_setSure_8 rfl (lv_at hl 2 rfl) ?_
  refine lv_lload hx hb dc_X_setSure_9 (lv_at hl 3 rfl) ?_
  refine lv_lor hx hb dc_X_setSure_11 ?_
  refine lv_ldc2 (v := (-1)) hx hb hown (hq mw_t212) dc_X_setSure_12 ?_
  refine lv_lxor hx hb dc_X_setSure_15 ?_
  refine gc_v (S := (Nat → Int64) × (Nat → Int64) × (Nat → Int32) × (Nat → Int32) × (Nat → Int32) × Int32 × Int32) (w1 := (fun u => (wd_X h0 qO qU qW qG qN qL cJ cI cZ cB u.1 u.2.1 u.2.2.1 u.2.2.2.1 u.2.2.2.2.1 u.2.2.2.2.2.1 u.2.2.2.2.2.2))) (wc := (wd_X h0 qO qU qW qG qN qL cJ cI cZ cB fO fU fW fG fL len size)) (wr := ([] : va_W)) (va_runV (As := [.int a1, .long (a4 ^^^ (-1 : Int64)), .long ((a2 ||| a4) ^^^ (-1 : Int64))]) (rest := []) ⟨hx, hb, hml, hown, hts⟩ (kt_X_setBits l dC dI cJ cI cZ cB h0 qO qU qW qG qN qL _ a1 (a4 ^^^ (-1 : Int64)) ((a2 ||| a4) ^^^ (-1 : Int64)) fO fU fW fG fL len size _ hw) ⟨callB_of 3 hts (gw_in mw_t169) rfl rfl rfl (hq mw_t1) (hq mw_t166) (by decide +kernel) ⟨Nat.le_of_ble_eq_true rfl, Nat.le_of_ble_eq_true rfl⟩, hq mw_t168, hq mw_s3⟩ (pv_W (va_recv (q0 := 0) (ci := 1) hK hP rfl rfl) (hP.sub (ws' := (wd_X h0 qO qU qW qG qN qL cJ cI cZ cB fO fU fW fG fL len size)) [0, 1, 2, 3, 4, 5, 6] rfl) hK (hD.sub (ws' := (wd_X h0 qO qU qW qG qN qL cJ cI cZ cB fO fU fW fG fL len size)) [0, 1, 2, 3, 4, 5, 6] (by decide) rfl) hE) rfl rfl hl.1 rfl (lv_room (Nat.le_of_ble_eq_true rfl)) dc_X_setSure_16 ⟨Nat.le_of_ble_eq_true rfl, Nat.le_of_ble_eq_true rfl⟩) hP hD hS hA [0, 1, 2, 3, 4, 5, 6] [] rfl rfl (by decide) (by decide) (fun u H locs hw hP hD hS => ?_)
  obtain ⟨fO16, fU16, fW16, fG16, fL16, len16, size16⟩ := u
  have hP : va_P (dC, dI) cs_3 (wd_X h0 qO qU qW qG qN qL cJ cI cZ cB fO16 fU16 fW16 fG16 fL16 len16 size16) H := hP.sub (ws' := (wd_X h0 qO qU qW qG qN qL cJ cI cZ cB fO16 fU16 fW16 fG16 fL16 len16 size16)) [0, 1, 2, 3, 4, 5, 6] rfl
  have hD : va_D A (wd_X h0 qO qU qW qG qN qL cJ cI cZ cB fO16 fU16 fW16 fG16 fL16 len16 size16) := hD.sub (ws' := (wd_X h0 qO qU qW qG qN qL cJ cI cZ cB fO16 fU16 fW16 fG16 fL16 len16 size16)) [0, 1, 2, 3, 4, 5, 6] (by decide) rfl
  try dsimp only at hw
  exact W.vret hx hb hr (fun t ht hW => ⟨⟨(fO16, fU16, fW16, fG16, fL16, len16, size16), rfl, hw, by rw [ht]; exact hP, va_K.moved hW.alike hK, hD⟩, hS.F ht⟩) hS.2.2 dc_X_setSure_19
set_option maxHeartbeats 4000000 in
set_option maxRecDepth 100000 in
theorem kt_X_setTruth (l : Launch) (dC : Nat → ClassId) (dI : Nat → Nat → Nat) (cJ cI cZ cB : ClassId) (h0 qO qU qW qG qN qL : Nat) (sz : Nat) (a1 : Int32) (a2 : Int32) (fO : (Nat → Int64)) (fU : (Nat → Int64)) (fW : (Nat → Int32)) (fG : (Nat → Int32)) (fL : (Nat → Int32)) (len : Int32) (size : Int32) (post : (Nat → Int64) → (Nat → Int64) → (Nat → Int32) → (Nat → Int32) → (Nat → Int32) → Int32 → Int32 → Prop) (hw : wp_X_setTruth post a1 a2 fO fU fW fG fL len size) : Met l yn_X_setTruth ws_X_setTruth rm_X_setTruth (va_Pc [.ref h0, .int a1, .int a2] (pc_W (dC, dI) (ty_4 cJ cI cZ cB) (wd_X h0 qO qU qW qG qN qL cJ cI cZ cB fO fU fW fG fL len size) sz)) (qv_X dC dI cJ cI cZ cB h0 qO qU qW qG qN qL post (va_A (wd_X h0 qO qU qW qG qN qL cJ cI cZ cB fO fU fW fG fL len size) sz)) 0 0 (va_A (wd_X h0 qO qU qW qG qN qL cJ cI cZ cB fO fU fW fG fL len size) sz) := by
  refine Met.ofW (cc := cd_X_setTruth) (maxL := 3) (ret := none) (by decide) rfl ?_
  intro p e s m args below meth c s₁ B hml hv
  obtain ⟨rfl, hsz, hP, hK, hD0, hE⟩ := hv
  have hx := B.exec
  have hb := B.bytes
  have hr := B.returns
  have hts := atoms_spec (ws := ws_X_setTruth) B.pre
  have hq : ∀ {w : Cond}, w ∈ wg_all → w.before ([.ref h0, .int a1, .int a2] : List Value).toArray s = true := fun h => hts _ (List.mem_cons_of_mem _ h)
  have hu : ∀ L : List Cond, (∀ w ∈ L, w ∈ wg_all) → ∀ w ∈ L, w ∈ ws_X_setTruth := fun L h w hw => List.mem_cons_of_mem _ (h w hw)
  have hown : s.vm.findClass "FourWords" = some m.cls := findClass_of_methodNamed B.named
  have hlocks := B.notSynchronized
  subst hsz
  have hD := hD0.self (sz := s.heap.size)
  generalize hAe : va_A (wd_X h0 qO qU qW qG qN qL cJ cI cZ cB fO fU fW fG fL len size) s.heap.size = A at hD ⊢
  have hA : ∀ q : Nat, s.heap.size ≤ q → A q := fun q h => by rw [← hAe]; exact Or.inr h
  have hS : va_S A s.heap s.heap [] := va_S.rf
  have hl := lv_entry [.ref h0, .int a1, .int a2] (n := 3) (Nat.le_of_ble_eq_true rfl)
  rw [lg_entry_eq]
  generalize (lg_sl [.ref h0, .int a1, .int a2] ++ List.replicate (3 - (lg_sl [.ref h0, .int a1, .int a2]).length) Slot.unset).toArray = ls at hl ⊢
  have hl : lv_has ls 3 [(0, .ref h0), (1, .int a1), (2, .int a2)] := hl
  have B_21 : ∀ (H : Heap) (locs : List Loc) (ls : Array Slot) (t0 : Int64) (t1 : Int64) (t2 : Int32) (fO : (Nat → Int64)) (fU : (Nat → Int64)) (fW : (Nat → Int32)) (fG : (Nat → Int32)) (fL : (Nat → Int32)) (len : Int32) (size : Int32), wp_X_setTruth_21 post t0 t1 t2 fO fU fW fG fL len size → va_P (dC, dI) cs_3 (wd_X h0 qO qU qW qG qN qL cJ cI cZ cB fO fU fW fG fL len size) H → va_D A (wd_X h0 qO qU qW qG qN qL cJ cI cZ cB fO fU fW fG fL len size) → va_S A s.heap H locs → lv_has ls 3 [] → W p l e (headSpec ws_X_setTruth rm_X_setTruth).room s m ([.ref h0, .int a1, .int a2] : List Value).toArray below meth c H locs 0 0 (MQ below (qv_X dC dI cJ cI cZ cB h0 qO qU qW qG qN qL post A) ([.ref h0, .int a1, .int a2] : List Value).toArray s 0 0 A) (F0 m 21 ls [.long t0, .long t1, .int t2, .ref h0]) := by
    intro H locs ls t0 t1 t2 fO fU fW fG fL len size hw hP hD hS hl
    unfold wp_X_setTruth_21 at hw
    refine lv_iconst (v := 1) hx hb dc_X_setTruth_21 (by decide) ?_
    refine lv_iconst (v := 0) hx hb dc_X_setTruth_22 (by decide) ?_
    refine gc_v (S := (Nat → Int64) × (Nat → Int64) × (Nat → Int32) × (Nat → Int32) × (Nat → Int32) × Int32 × Int32) (w1 := (fun u => (wd_X h0 qO qU qW qG qN qL cJ cI cZ cB u.1 u.2.1 u.2.2.1 u.2.2.2.1 u.2.2.2.2.1 u.2.2.2.2.2.1 u.2.2.2.2.2.2))) (wc := (wd_X h0 qO qU qW qG qN qL cJ cI cZ cB fO fU fW fG fL len size)) (wr := ([] : va_W)) (va_runV (As := [.int t2, .long t1, .long t0, .int (1 : Int32), .int (0 : Int32)]) (rest := []) ⟨hx, hb, hml, hown, hts⟩ (kt_X_setValue l dC dI cJ cI cZ cB h0 qO qU qW qG qN qL _ t2 t1 t0 (1 : Int32) (0 : Int32) fO fU fW fG fL len size _ hw) ⟨callB_of 5 hts (gw_in mw_t165) rfl rfl rfl (hq mw_t1) (hq mw_t162) (by decide +kernel) ⟨Nat.le_of_ble_eq_true rfl, Nat.le_of_ble_eq_true rfl⟩, hq mw_t164, hq mw_s2⟩ (pv_W (va_recv (q0 := 0) (ci := 1) hK hP rfl rfl) (hP.sub (ws' := (wd_X h0 qO qU qW qG qN qL cJ cI cZ cB fO fU fW fG fL len size)) [0, 1, 2, 3, 4, 5, 6] rfl) hK (hD.sub (ws' := (wd_X h0 qO qU qW qG qN qL cJ cI cZ cB fO fU fW fG fL len size)) [0, 1, 2, 3, 4, 5, 6] (by decide) rfl) hE) rfl rfl hl.1 rfl (lv_room (Nat.le_of_ble_eq_true rfl)) dc_X_setTruth_23 ⟨Nat.le_of_ble_eq_true rfl, Nat.le_of_ble_eq_true rfl⟩) hP hD hS hA [0, 1, 2, 3, 4, 5, 6] [] rfl rfl (by decide) (by decide) (fun u H locs hw hP hD hS => ?_)
    obtain ⟨fO23, fU23, fW23, fG23, fL23, len23, size23⟩ := u
    have hP : va_P (dC, dI) cs_3 (wd_X h0 qO qU qW qG qN qL cJ cI cZ cB fO23 fU23 fW23 fG23 fL23 len23 size23) H := hP.sub (ws' := (wd_X h0 qO qU qW qG qN qL cJ cI cZ cB fO23 fU23 fW23 fG23 fL23 len23 size23)) [0, 1, 2, 3, 4, 5, 6] rfl
    have hD : va_D A (wd_X h0 qO qU qW qG qN qL cJ cI cZ cB fO23 fU23 fW23 fG23 fL23 len23 size23) := hD.sub (ws' := (wd_X h0 qO qU qW qG qN qL cJ cI cZ cB fO23 fU23 fW23 fG23 fL23 len23 size23)) [0, 1, 2, 3, 4, 5, 6] (by decide) rfl
    try dsimp only at hw
    exact W.vret hx hb hr (fun t ht hW => ⟨⟨(fO23, fU23, fW23, fG23, fL23, len23, size23), rfl, hw, by rw [ht]; exact hP, va_K.moved hW.alike hK, hD⟩, hS.F ht⟩) hS.2.2 dc_X_setTruth_26
  have B_11 : ∀ (H : Heap) (locs : List Loc) (ls : Array Slot) (x2 : Int32) (t0 : Int64) (t1 : Int32) (fO : (Nat → Int64)) (fU : (Nat → Int64)) (fW : (Nat → Int32)) (fG : (Nat → Int32)) (fL : (Nat → Int32)) (len : Int32) (size : Int32), wp_X_setTruth_11 post x2 t0 t1 fO fU fW fG fL len size → va_P (dC, dI) cs_3 (wd_X h0 qO qU qW qG qN qL cJ cI cZ cB fO fU fW fG fL len size) H → va_D A (wd_X h0 qO qU qW qG qN qL cJ cI cZ cB fO fU fW fG fL len size) → va_S A s.heap H locs → lv_has ls 3 [(2, .int x2)] → W p l e (headSpec ws_X_setTruth rm_X_setTruth).room s m ([.ref h0, .int a1, .int a2] : List Value).toArray below meth c H locs 0 0 (MQ below (qv_X dC dI cJ cI cZ cB h0 qO qU qW qG qN qL post A) ([.ref h0, .int a1, .int a2] : List Value).toArray s 0 0 A) (F0 m 11 ls [.long t0, .int t1, .ref h0]) := by
    intro H locs ls x2 t0 t1 fO fU fW fG fL len size hw hP hD hS hl
    unfold wp_X_setTruth_11 at hw
    refine lv_iload_n hx hb dc_X_setTruth_11 rfl (lv_at hl 0 rfl) ?_
    refine lv_iconst (v := 2) hx hb dc_X_setTruth_12 (by decide) ?_
    obtain ⟨hw1, hw2⟩ := hw
    refine lv_icmp_ne (tgt := 20) hx hb dc_X_setTruth_13 (by decide) (fun hc => ?_) (fun hc => ?_)
    · have hw := hw1 hc
      clear hw1 hw2
      refine lv_lconst (v := 0) hx hb dc_X_setTruth_20 (by decide) ?_
      exact B_21 _ _ _ (0 : Int64) t0 t1 fO fU fW fG fL len size hw hP hD hS (lv_sub hl [] rfl)
    · have hw := hw2 (fun h9 => h9 hc)
      clear hw1 hw2
      refine lv_lconst (v := 1) hx hb dc_X_setTruth_16 (by decide) ?_
      refine lv_goto (tgt := 21) hx hb dc_X_setTruth_17 (by decide) ?_
      exact B_21 _ _ _ (1 : Int64) t0 t1 fO fU fW fG fL len size hw hP hD hS (lv_sub hl [] rfl)
  unfold wp_X_setTruth at hw
  refine lv_aload_n hx hb dc_X_setTruth_0 rfl (lv_at hl 0 rfl) ?_
  refine lv_iload_n hx hb dc_X_setTruth_1 rfl (lv_at hl 1 rfl) ?_
  refine lv_iload_n hx hb dc_X_setTruth_2 rfl (lv_at hl 2 rfl) ?_
  obtain ⟨hw1, hw2⟩ := hw
  refine lv_if_ne (tgt := 10) hx hb dc_X_setTruth_3 (by decide) (fun hc => ?_) (fun hc => ?_)
  · have hw := hw1 hc
    clear hw1 hw2
    refine lv_lconst (v := 1) hx hb dc_X_setTruth_10 (by decide) ?_
    exact B_11 _ _ _ a2 (1 : Int64) a1 fO fU fW fG fL len size hw hP hD hS (lv_sub hl [2] rfl)
  · have hw := hw2 (fun h9 => h9 hc)
    clear hw1 hw2
    refine lv_lconst (v := 0) hx hb dc_X_setTruth_6 (by decide) ?_
    refine lv_goto (tgt := 11) hx hb dc_X_setTruth_7 (by decide) ?_
    exact B_11 _ _ _ a2 (0 : Int64) a1 fO fU fW fG fL len size hw hP hD hS (lv_sub hl [2] rfl)
set_option maxHeartbeats 4000000 in
set_option maxRecDepth 100000 in
theorem kt_X_fillWithX (l : Launch) (dC : Nat → ClassId) (dI : Nat → Nat → Nat) (cJ cI cZ cB : ClassId) (h0 qO qU qW qG qN qL : Nat) (sz : Nat) (a1 : Int32) (fO : (Nat → Int64)) (fU : (Nat → Int64)) (fW : (Nat → Int32)) (fG : (Nat → Int32)) (fL : (Nat → Int32)) (len : Int32) (size : Int32) (post : (Nat → Int64) → (Nat → Int64) → (Nat → Int32) → (Nat → Int32) → (Nat → Int32) → Int32 → Int32 → Prop) (hw : wp_X_fillWithX post a1 fO fU fW fG fL len size) : Met l yn_X_fillWithX ws_X_fillWithX rm_X_fillWithX (va_Pc [.ref h0, .int a1] (pc_W (dC, dI) (ty_4 cJ cI cZ cB) (wd_X h0 qO qU qW qG qN qL cJ cI cZ cB fO fU fW fG fL len size) sz)) (qv_X dC dI cJ cI cZ cB h0 qO qU qW qG qN qL post (va_A (wd_X h0 qO qU qW qG qN qL cJ cI cZ cB fO fU fW fG fL len size) sz)) 0 0 (va_A (wd_X h0 qO qU qW qG qN qL cJ cI cZ cB fO fU fW fG fL len size) sz) := by
  refine Met.ofW (cc := cd_X_fillWithX) (maxL := 2) (ret := none) (by decide) rfl ?_
  intro p e s m args below meth c s₁ B hml hv
  obtain ⟨rfl, hsz, hP, hK, hD0, hE⟩ := hv
  have hx := B.exec
  have hb := B.bytes
  have hr := B.returns
  have hts := atoms_spec (ws := ws_X_fillWithX) B.pre
  have hq : ∀ {w : Cond}, w ∈ wg_all → w.before ([.ref h0, .int a1] : List Value).toArray s = true := fun h => hts _ (List.mem_cons_of_mem _ h)
  have hu : ∀ L : List Cond, (∀ w ∈ L, w ∈ wg_all) → ∀ w ∈ L, w ∈ ws_X_fillWithX := fun L h w hw => List.mem_cons_of_mem _ (h w hw)
  have hown : s.vm.findClass "FourWords" = some m.cls := findClass_of_methodNamed B.named
  have hlocks := B.notSynchronized
  subst hsz
  have hD := hD0.self (sz := s.heap.size)
  generalize hAe : va_A (wd_X h0 qO qU qW qG qN qL cJ cI cZ cB fO fU fW fG fL len size) s.heap.size = A at hD ⊢
  have hA : ∀ q : Nat, s.heap.size ≤ q → A q := fun q h => by rw [← hAe]; exact Or.inr h
  have hS : va_S A s.heap s.heap [] := va_S.rf
  have hl := lv_entry [.ref h0, .int a1] (n := 2) (Nat.le_of_ble_eq_true rfl)
  rw [lg_entry_eq]
  generalize (lg_sl [.ref h0, .int a1] ++ List.replicate (2 - (lg_sl [.ref h0, .int a1]).length) Slot.unset).toArray = ls at hl ⊢
  have hl : lv_has ls 2 [(0, .ref h0), (1, .int a1)] := hl
  unfold wp_X_fillWithX at hw
  refine lv_aload_n hx hb dc_X_fillWithX_0 rfl (lv_at hl 0 rfl) ?_
  refine lv_iload_n hx hb dc_X_fillWithX_1 rfl (lv_at hl 1 rfl) ?_
  refine lv_ldc2 (v := (-1)) hx hb hown (hq mw_t212) dc_X_fillWithX_2 ?_
  refine lv_ldc2 (v := (-1)) hx hb hown (hq mw_t212) dc_X_fillWithX_5 ?_
  refine gc_v (S := (Nat → Int64) × (Nat → Int64) × (Nat → Int32) × (Nat → Int32) × (Nat → Int32) × Int32 × Int32) (w1 := (fun u => (wd_X h0 qO qU qW qG qN qL cJ cI cZ cB u.1 u.2.1 u.2.2.1 u.2.2.2.1 u.2.2.2.2.1 u.2.2.2.2.2.1 u.2.2.2.2.2.2))) (wc := (wd_X h0 qO qU qW qG qN qL cJ cI cZ cB fO fU fW fG fL len size)) (wr := ([] : va_W)) (va_runV (As := [.int a1, .long (-1 : Int64), .long (-1 : Int64)]) (rest := []) ⟨hx, hb, hml, hown, hts⟩ (kt_X_setBits l dC dI cJ cI cZ cB h0 qO qU qW qG qN qL _ a1 (-1 : Int64) (-1 : Int64) fO fU fW fG fL len size _ hw) ⟨callB_of 3 hts (gw_in mw_t169) rfl rfl rfl (hq mw_t1) (hq mw_t166) (by decide +kernel) ⟨Nat.le_of_ble_eq_true rfl, Nat.le_of_ble_eq_true rfl⟩, hq mw_t168, hq mw_s3⟩ (pv_W (va_recv (q0 := 0) (ci := 1) hK hP rfl rfl) (hP.sub (ws' := (wd_X h0 qO qU qW qG qN qL cJ cI cZ cB fO fU fW fG fL len size)) [0, 1, 2, 3, 4, 5, 6] rfl) hK (hD.sub (ws' := (wd_X h0 qO qU qW qG qN qL cJ cI cZ cB fO fU fW fG fL len size)) [0, 1, 2, 3, 4, 5, 6] (by decide) rfl) hE) rfl rfl hl.1 rfl (lv_room (Nat.le_of_ble_eq_true rfl)) dc_X_fillWithX_8 ⟨Nat.le_of_ble_eq_true rfl, Nat.le_of_ble_eq_true rfl⟩) hP hD hS hA [0, 1, 2, 3, 4, 5, 6] [] rfl rfl (by decide) (by decide) (fun u H locs hw hP hD hS => ?_)
  obtain ⟨fO8, fU8, fW8, fG8, fL8, len8, size8⟩ := u
  have hP : va_P (dC, dI) cs_3 (wd_X h0 qO qU qW qG qN qL cJ cI cZ cB fO8 fU8 fW8 fG8 fL8 len8 size8) H := hP.sub (ws' := (wd_X h0 qO qU qW qG qN qL cJ cI cZ cB fO8 fU8 fW8 fG8 fL8 len8 size8)) [0, 1, 2, 3, 4, 5, 6] rfl
  have hD : va_D A (wd_X h0 qO qU qW qG qN qL cJ cI cZ cB fO8 fU8 fW8 fG8 fL8 len8 size8) := hD.sub (ws' := (wd_X h0 qO qU qW qG qN qL cJ cI cZ cB fO8 fU8 fW8 fG8 fL8 len8 size8)) [0, 1, 2, 3, 4, 5, 6] (by decide) rfl
  try dsimp only at hw
  exact W.vret hx hb hr (fun t ht hW => ⟨⟨(fO8, fU8, fW8, fG8, fL8, len8, size8), rfl, hw, by rw [ht]; exact hP, va_K.moved hW.alike hK, hD⟩, hS.F ht⟩) hS.2.2 dc_X_fillWithX_11
set_option maxHeartbeats 4000000 in
set_option maxRecDepth 100000 in
theorem kt_X_copyValue (l : Launch) (dC : Nat → ClassId) (dI : Nat → Nat → Nat) (cJ cI cZ cB : ClassId) (h0 qO qU qW qG qN qL : Nat) (sz : Nat) (a1 : Int32) (a2 : Int32) (fO : (Nat → Int64)) (fU : (Nat → Int64)) (fW : (Nat → Int32)) (fG : (Nat → Int32)) (fL : (Nat → Int32)) (len : Int32) (size : Int32) (post : (Nat → Int64) → (Nat → Int64) → (Nat → Int32) → (Nat → Int32) → (Nat → Int32) → Int32 → Int32 → Prop) (hw : wp_X_copyValue post a1 a2 fO fU fW fG fL len size) : Met l yn_X_copyValue ws_X_copyValue rm_X_copyValue (va_Pc [.ref h0, .int a1, .int a2] (pc_W (dC, dI) (ty_4 cJ cI cZ cB) (wd_X h0 qO qU qW qG qN qL cJ cI cZ cB fO fU fW fG fL len size) sz)) (qv_X dC dI cJ cI cZ cB h0 qO qU qW qG qN qL post (va_A (wd_X h0 qO qU qW qG qN qL cJ cI cZ cB fO fU fW fG fL len size) sz)) 0 0 (va_A (wd_X h0 qO qU qW qG qN qL cJ cI cZ cB fO fU fW fG fL len size) sz) := by
  refine Met.ofW (cc := cd_X_copyValue) (maxL := 3) (ret := none) (by decide) rfl ?_
  intro p e s m args below meth c s₁ B hml hv
  obtain ⟨rfl, hsz, hP, hK, hD0, hE⟩ := hv
  have hx := B.exec
  have hb := B.bytes
  have hr := B.returns
  have hts := atoms_spec (ws := ws_X_copyValue) B.pre
  have hq : ∀ {w : Cond}, w ∈ wg_all → w.before ([.ref h0, .int a1, .int a2] : List Value).toArray s = true := fun h => hts _ (List.mem_cons_of_mem _ h)
  have hu : ∀ L : List Cond, (∀ w ∈ L, w ∈ wg_all) → ∀ w ∈ L, w ∈ ws_X_copyValue := fun L h w hw => List.mem_cons_of_mem _ (h w hw)
  have hown : s.vm.findClass "FourWords" = some m.cls := findClass_of_methodNamed B.named
  have hlocks := B.notSynchronized
  subst hsz
  have hD := hD0.self (sz := s.heap.size)
  generalize hAe : va_A (wd_X h0 qO qU qW qG qN qL cJ cI cZ cB fO fU fW fG fL len size) s.heap.size = A at hD ⊢
  have hA : ∀ q : Nat, s.heap.size ≤ q → A q := fun q h => by rw [← hAe]; exact Or.inr h
  have hS : va_S A s.heap s.heap [] := va_S.rf
  have hl := lv_entry [.ref h0, .int a1, .int a2] (n := 3) (Nat.le_of_ble_eq_true rfl)
  rw [lg_entry_eq]
  generalize (lg_sl [.ref h0, .int a1, .int a2] ++ List.replicate (3 - (lg_sl [.ref h0, .int a1, .int a2]).length) Slot.unset).toArray = ls at hl ⊢
  have hl : lv_has ls 3 [(0, .ref h0), (1, .int a1), (2, .int a2)] := hl
  unfold wp_X_copyValue at hw
  refine lv_aload_n hx hb dc_X_copyValue_0 rfl (lv_at hl 0 rfl) ?_
  refine lv_iload_n hx hb dc_X_copyValue_1 rfl (lv_at hl 2 rfl) ?_
  refine lv_aload_n hx hb dc_X_copyValue_2 rfl (lv_at hl 0 rfl) ?_
  refine va_get (D := (dC, dI)) (ci := 1) (v := .ref qO) (C := "FourWords") (T := tb_X) (N := 6) hx hb hts (hu _ um_X) hown hK hP 0 rfl rfl 0 (by decide) (hq mw_t40) (fun _ h9 => h9) rfl dc_X_copyValue_3 ?_
  refine lv_iload_n hx hb dc_X_copyValue_6 rfl (lv_at hl 1 rfl) ?_
  obtain ⟨hin, hw⟩ := hw
  refine va_lald hx hb hK hP 1 0 rfl rfl hin dc_X_copyValue_7 ?_
  refine lv_aload_n hx hb dc_X_copyValue_8 rfl (lv_at hl 0 rfl) ?_
  refine va_get (D := (dC, dI)) (ci := 1) (v := .ref qU) (C := "FourWords") (T := tb_X) (N := 6) hx hb hts (hu _ um_X) hown hK hP 0 rfl rfl 1 (by decide) (hq mw_t41) (fun _ h9 => h9) rfl dc_X_copyValue_9 ?_
  refine lv_iload_n hx hb dc_X_copyValue_12 rfl (lv_at hl 1 rfl) ?_
  obtain ⟨hin, hw⟩ := hw
  refine va_lald hx hb hK hP 2 0 rfl rfl hin dc_X_copyValue_13 ?_
  refine lv_aload_n hx hb dc_X_copyValue_14 rfl (lv_at hl 0 rfl) ?_
  refine va_get (D := (dC, dI)) (ci := 1) (v := .ref qW) (C := "FourWords") (T := tb_X) (N := 6) hx hb hts (hu _ um_X) hown hK hP 0 rfl rfl 2 (by decide) (hq mw_t42) (fun _ h9 => h9) rfl dc_X_copyValue_15 ?_
  refine lv_iload_n hx hb dc_X_copyValue_18 rfl (lv_at hl 1 rfl) ?_
  obtain ⟨hin, hw⟩ := hw
  refine va_iald hx hb hK hP 3 1 rfl rfl hin dc_X_copyValue_19 ?_
  refine lv_aload_n hx hb dc_X_copyValue_20 rfl (lv_at hl 0 rfl) ?_
  refine va_get (D := (dC, dI)) (ci := 1) (v := .ref qG) (C := "FourWords") (T := tb_X) (N := 6) hx hb hts (hu _ um_X) hown hK hP 0 rfl rfl 3 (by decide) (hq mw_t43) (fun _ h9 => h9) rfl dc_X_copyValue_21 ?_
  refine lv_iload_n hx hb dc_X_copyValue_24 rfl (lv_at hl 1 rfl) ?_
  obtain ⟨hin, hw⟩ := hw
  refine va_zald hx hb hK hP 4 2 rfl rfl hin dc_X_copyValue_25 ?_
  refine gc_v (S := (Nat → Int64) × (Nat → Int64) × (Nat → Int32) × (Nat → Int32) × (Nat → Int32) × Int32 × Int32) (w1 := (fun u => (wd_X h0 qO qU qW qG qN qL cJ cI cZ cB u.1 u.2.1 u.2.2.1 u.2.2.2.1 u.2.2.2.2.1 u.2.2.2.2.2.1 u.2.2.2.2.2.2))) (wc := (wd_X h0 qO qU qW qG qN qL cJ cI cZ cB fO fU fW fG fL len size)) (wr := ([] : va_W)) (va_runV (As := [.int a2, .long (fO a1.toNatClampNeg), .long (fU a1.toNatClampNeg), .int (fW a1.toNatClampNeg), .int (fG a1.toNatClampNeg)]) (rest := []) ⟨hx, hb, hml, hown, hts⟩ (kt_X_setValue l dC dI cJ cI cZ cB h0 qO qU qW qG qN qL _ a2 (fO a1.toNatClampNeg) (fU a1.toNatClampNeg) (fW a1.toNatClampNeg) (fG a1.toNatClampNeg) fO fU fW fG fL len size _ hw) ⟨callB_of 5 hts (gw_in mw_t165) rfl rfl rfl (hq mw_t1) (hq mw_t162) (by decide +kernel) ⟨Nat.le_of_ble_eq_true rfl, Nat.le_of_ble_eq_true rfl⟩, hq mw_t164, hq mw_s2⟩ (pv_W (va_recv (q0 := 0) (ci := 1) hK hP rfl rfl) (hP.sub (ws' := (wd_X h0 qO qU qW qG qN qL cJ cI cZ cB fO fU fW fG fL len size)) [0, 1, 2, 3, 4, 5, 6] rfl) hK (hD.sub (ws' := (wd_X h0 qO qU qW qG qN qL cJ cI cZ cB fO fU fW fG fL len size)) [0, 1, 2, 3, 4, 5, 6] (by decide) rfl) hE) rfl rfl hl.1 rfl (lv_room (Nat.le_of_ble_eq_true rfl)) dc_X_copyValue_26 ⟨Nat.le_of_ble_eq_true rfl, Nat.le_of_ble_eq_true rfl⟩) hP hD hS hA [0, 1, 2, 3, 4, 5, 6] [] rfl rfl (by decide) (by decide) (fun u H locs hw hP hD hS => ?_)
  obtain ⟨fO26, fU26, fW26, fG26, fL26, len26, size26⟩ := u
  have hP : va_P (dC, dI) cs_3 (wd_X h0 qO qU qW qG qN qL cJ cI cZ cB fO26 fU26 fW26 fG26 fL26 len26 size26) H := hP.sub (ws' := (wd_X h0 qO qU qW qG qN qL cJ cI cZ cB fO26 fU26 fW26 fG26 fL26 len26 size26)) [0, 1, 2, 3, 4, 5, 6] rfl
  have hD : va_D A (wd_X h0 qO qU qW qG qN qL cJ cI cZ cB fO26 fU26 fW26 fG26 fL26 len26 size26) := hD.sub (ws' := (wd_X h0 qO qU qW qG qN qL cJ cI cZ cB fO26 fU26 fW26 fG26 fL26 len26 size26)) [0, 1, 2, 3, 4, 5, 6] (by decide) rfl
  try dsimp only at hw
  exact W.vret hx hb hr (fun t ht hW => ⟨⟨(fO26, fU26, fW26, fG26, fL26, len26, size26), rfl, hw, by rw [ht]; exact hP, va_K.moved hW.alike hK, hD⟩, hS.F ht⟩) hS.2.2 dc_X_copyValue_29

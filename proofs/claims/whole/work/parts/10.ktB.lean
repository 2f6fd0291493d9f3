set_option maxHeartbeats 4000000 in
set_option maxRecDepth 100000 in
theorem kt_B_lowest (l : Launch) (dC : Nat → ClassId) (dI : Nat → Nat → Nat) (cJ cI cZ cB : ClassId) (sz : Nat) (a0 : Int32) (post : Int64 → Prop) (hw : wp_B_lowest post a0) : Met l yn_B_lowest ws_B_lowest rm_B_lowest (va_Pc [.int a0] (pc_W (dC, dI) (ty_4 cJ cI cZ cB) ([] : va_W) sz)) (ql_0 dC dI cJ cI cZ cB post (va_A ([] : va_W) sz)) 0 0 (va_A ([] : va_W) sz) := by
  refine Met.ofW (cc := cd_B_lowest) (maxL := 1) (ret := (some .long)) (by decide) rfl ?_
  intro p e s m args below meth c s₁ B hml hv
  obtain ⟨rfl, hsz, hP, hK, hD0, hE⟩ := hv
  have hx := B.exec
  have hb := B.bytes
  have hr := B.returns
  have hts := atoms_spec (ws := ws_B_lowest) B.pre
  have hq : ∀ {w : Cond}, w ∈ wg_all → w.before ([.int a0] : List Value).toArray s = true := fun h => hts _ (List.mem_cons_of_mem _ h)
  have hu : ∀ L : List Cond, (∀ w ∈ L, w ∈ wg_all) → ∀ w ∈ L, w ∈ ws_B_lowest := fun L h w hw => List.mem_cons_of_mem _ (h w hw)
  have hown : s.vm.findClass "FourWords$Bits" = some m.cls := findClass_of_methodNamed B.named
  have hlocks := B.notSynchronized
  subst hsz
  have hD := hD0.self (sz := s.heap.size)
  generalize hAe : va_A ([] : va_W) s.heap.size = A at hD ⊢
  have hA : ∀ q : Nat, s.heap.size ≤ q → A q := fun q h => by rw [← hAe]; exact Or.inr h
  have hS : va_S A s.heap s.heap [] := va_S.rf
  have hl := lv_entry [.int a0] (n := 1) (Nat.le_of_ble_eq_true rfl)
  rw [lg_entry_eq]
  generalize (lg_sl [.int a0] ++ List.replicate (1 - (lg_sl [.int a0]).length) Slot.unset).toArray = ls at hl ⊢
  have hl : lv_has ls 1 [(0, .int a0)] := hl
  unfold wp_B_lowest at hw
  refine lv_ldc2 (v := (-1)) hx hb hown (hq mw_t173) dc_B_lowest_0 ?_
  refine lv_bipush (v := 64) hx hb dc_B_lowest_3 (by decide) ?_
  refine lv_iload_n hx hb dc_B_lowest_5 rfl (lv_at hl 0 rfl) ?_
  refine lv_isub hx hb dc_B_lowest_6 ?_
  refine lv_lushr hx hb dc_B_lowest_7 rfl ?_
  exact W.lret (v := ((-1 : Int64).toUInt64 >>> (((64 : Int32) - a0).toInt64.toUInt64 &&& Int64.toUInt64 63)).toInt64) hx hb hr (fun t ht hW => ⟨⟨((-1 : Int64).toUInt64 >>> (((64 : Int32) - a0).toInt64.toUInt64 &&& Int64.toUInt64 63)).toInt64, (), rfl, hw, by rw [ht]; exact hP, va_K.moved hW.alike hK, hD⟩, hS.F ht⟩) hS.2.2 dc_B_lowest_8
set_option maxHeartbeats 4000000 in
set_option maxRecDepth 100000 in
theorem kt_B_withHighestInFront (l : Launch) (dC : Nat → ClassId) (dI : Nat → Nat → Nat) (cJ cI cZ cB : ClassId) (sz : Nat) (a0 : Int64) (a2 : Int32) (post : Int64 → Prop) (hw : wp_B_withHighestInFront post a0 a2) : Met l yn_B_withHighestInFront ws_B_withHighestInFront rm_B_withHighestInFront (va_Pc [.long a0, .int a2] (pc_W (dC, dI) (ty_4 cJ cI cZ cB) ([] : va_W) sz)) (ql_0 dC dI cJ cI cZ cB post (va_A ([] : va_W) sz)) 0 0 (va_A ([] : va_W) sz) := by
  refine Met.ofW (cc := cd_B_withHighestInFront) (maxL := 3) (ret := (some .long)) (by decide) rfl ?_
  intro p e s m args below meth c s₁ B hml hv
  obtain ⟨rfl, hsz, hP, hK, hD0, hE⟩ := hv
  have hx := B.exec
  have hb := B.bytes
  have hr := B.returns
  have hts := atoms_spec (ws := ws_B_withHighestInFront) B.pre
  have hq : ∀ {w : Cond}, w ∈ wg_all → w.before ([.long a0, .int a2] : List Value).toArray s = true := fun h => hts _ (List.mem_cons_of_mem _ h)
  have hu : ∀ L : List Cond, (∀ w ∈ L, w ∈ wg_all) → ∀ w ∈ L, w ∈ ws_B_withHighestInFront := fun L h w hw => List.mem_cons_of_mem _ (h w hw)
  have hown : s.vm.findClass "FourWords$Bits" = some m.cls := findClass_of_methodNamed B.named
  have hlocks := B.notSynchronized
  subst hsz
  have hD := hD0.self (sz := s.heap.size)
  generalize hAe : va_A ([] : va_W) s.heap.size = A at hD ⊢
  have hA : ∀ q : Nat, s.heap.size ≤ q → A q := fun q h => by rw [← hAe]; exact Or.inr h
  have hS : va_S A s.heap s.heap [] := va_S.rf
  have hl := lv_entry [.long a0, .int a2] (n := 3) (Nat.le_of_ble_eq_true rfl)
  rw [lg_entry_eq]
  generalize (lg_sl [.long a0, .int a2] ++ List.replicate (3 - (lg_sl [.long a0, .int a2]).length) Slot.unset).toArray = ls at hl ⊢
  have hl : lv_has ls 3 [(0, .long a0), (2, .int a2)] := hl
  unfold wp_B_withHighestInFront at hw
  refine lv_lload_n hx hb dc_B_withHighestInFront_0 rfl (lv_at hl 0 rfl) ?_
  refine lv_bipush (v := 64) hx hb dc_B_withHighestInFront_1 (by decide) ?_
  refine lv_iload_n hx hb dc_B_withHighestInFront_3 rfl (lv_at hl 1 rfl) ?_
  refine lv_isub hx hb dc_B_withHighestInFront_4 ?_
  refine lv_lshl hx hb dc_B_withHighestInFront_5 rfl ?_
  refine lv_bipush (v := 64) hx hb dc_B_withHighestInFront_6 (by decide) ?_
  refine lv_iload_n hx hb dc_B_withHighestInFront_8 rfl (lv_at hl 1 rfl) ?_
  refine lv_isub hx hb dc_B_withHighestInFront_9 ?_
  refine lv_lshr hx hb dc_B_withHighestInFront_10 rfl ?_
  exact W.lret (v := (a0 <<< (((64 : Int32) - a2).toInt64 &&& 63)) >>> (((64 : Int32) - a2).toInt64 &&& 63)) hx hb hr (fun t ht hW => ⟨⟨(a0 <<< (((64 : Int32) - a2).toInt64 &&& 63)) >>> (((64 : Int32) - a2).toInt64 &&& 63), (), rfl, hw, by rw [ht]; exact hP, va_K.moved hW.alike hK, hD⟩, hS.F ht⟩) hS.2.2 dc_B_withHighestInFront_11
set_option maxHeartbeats 4000000 in
set_option maxRecDepth 100000 in
theorem kt_B_below (l : Launch) (dC : Nat → ClassId) (dI : Nat → Nat → Nat) (cJ cI cZ cB : ClassId) (sz : Nat) (a0 : Int64) (a2 : Int64) (post : Int32 → Prop) (hw : wp_B_below post a0 a2) : Met l yn_B_below ws_B_below rm_B_below (va_Pc [.long a0, .long a2] (pc_W (dC, dI) (ty_4 cJ cI cZ cB) ([] : va_W) sz)) (qi_0 dC dI cJ cI cZ cB post (va_A ([] : va_W) sz)) 0 0 (va_A ([] : va_W) sz) := by
  refine Met.ofW (cc := cd_B_below) (maxL := 4) (ret := (some .boolean)) (by decide) rfl ?_
  intro p e s m args below meth c s₁ B hml hv
  obtain ⟨rfl, hsz, hP, hK, hD0, hE⟩ := hv
  have hx := B.exec
  have hb := B.bytes
  have hr := B.returns
  have hts := atoms_spec (ws := ws_B_below) B.pre
  have hq : ∀ {w : Cond}, w ∈ wg_all → w.before ([.long a0, .long a2] : List Value).toArray s = true := fun h => hts _ (List.mem_cons_of_mem _ h)
  have hu : ∀ L : List Cond, (∀ w ∈ L, w ∈ wg_all) → ∀ w ∈ L, w ∈ ws_B_below := fun L h w hw => List.mem_cons_of_mem _ (h w hw)
  have hown : s.vm.findClass "FourWords$Bits" = some m.cls := findClass_of_methodNamed B.named
  have hlocks := B.notSynchronized
  subst hsz
  have hD := hD0.self (sz := s.heap.size)
  generalize hAe : va_A ([] : va_W) s.heap.size = A at hD ⊢
  have hA : ∀ q : Nat, s.heap.size ≤ q → A q := fun q h => by rw [← hAe]; exact Or.inr h
  have hS : va_S A s.heap s.heap [] := va_S.rf
  have hl := lv_entry [.long a0, .long a2] (n := 4) (Nat.le_of_ble_eq_true rfl)
  rw [lg_entry_eq]
  generalize (lg_sl [.long a0, .long a2] ++ List.replicate (4 - (lg_sl [.long a0, .long a2]).length) Slot.unset).toArray = ls at hl ⊢
  have hl : lv_has ls 4 [(0, .long a0), (2, .long a2)] := hl
  have B_19 : ∀ (H : Heap) (locs : List Loc) (ls : Array Slot) (t0 : Int32), wp_B_below_19 post t0 → va_P (dC, dI) cs_3 ([] : va_W) H → va_D A ([] : va_W) → va_S A s.heap H locs → lv_has ls 4 [] → W p l e (headSpec ws_B_below rm_B_below).room s m ([.long a0, .long a2] : List Value).toArray below meth c H locs 0 0 (MQ below (qi_0 dC dI cJ cI cZ cB post A) ([.long a0, .long a2] : List Value).toArray s 0 0 A) (F0 m 19 ls [.int t0]) := by
    intro H locs ls t0 hw hP hD hS hl
    unfold wp_B_below_19 at hw
    obtain ⟨hnw, hw⟩ := hw
    exact W.zret (v := t0) hx hb hr hnw (fun t ht hW => ⟨⟨t0, (), rfl, hw, by rw [ht]; exact hP, va_K.moved hW.alike hK, hD⟩, hS.F ht⟩) hS.2.2 dc_B_below_19
  unfold wp_B_below at hw
  refine lv_lload_n hx hb dc_B_below_0 rfl (lv_at hl 0 rfl) ?_
  refine lv_ldc2 (v := (-9223372036854775808)) hx hb hown (hq mw_t219) dc_B_below_1 ?_
  refine lv_ladd hx hb dc_B_below_4 ?_
  refine lv_lload_n hx hb dc_B_below_5 rfl (lv_at hl 1 rfl) ?_
  refine lv_ldc2 (v := (-9223372036854775808)) hx hb hown (hq mw_t219) dc_B_below_6 ?_
  refine lv_ladd hx hb dc_B_below_9 ?_
  refine W.lcmp hx hb dc_B_below_10 ?_
  obtain ⟨hw1, hw2⟩ := hw
  refine lv_if_ge (tgt := 18) hx hb dc_B_below_11 (by decide) (fun hc => ?_) (fun hc => ?_)
  · have hw := hw1 hc
    clear hw1 hw2
    refine lv_iconst (v := 0) hx hb dc_B_below_18 (by decide) ?_
    exact B_19 _ _ _ (0 : Int32) hw hP hD hS (lv_sub hl [] rfl)
  · have hw := hw2 hc
    clear hw1 hw2
    refine lv_iconst (v := 1) hx hb dc_B_below_14 (by decide) ?_
    refine lv_goto (tgt := 19) hx hb dc_B_below_15 (by decide) ?_
    exact B_19 _ _ _ (1 : Int32) hw hP hD hS (lv_sub hl [] rfl)
set_option maxHeartbeats 4000000 in
set_option maxRecDepth 100000 in
theorem kt_B_quotient (l : Launch) (dC : Nat → ClassId) (dI : Nat → Nat → Nat) (cJ cI cZ cB : ClassId) (sz : Nat) (a0 : Int64) (a2 : Int64) (post : Int64 → Prop) (hw : wp_B_quotient post a0 a2) : Met l yn_B_quotient ws_B_quotient rm_B_quotient (va_Pc [.long a0, .long a2] (pc_W (dC, dI) (ty_4 cJ cI cZ cB) ([] : va_W) sz)) (ql_0 dC dI cJ cI cZ cB post (va_A ([] : va_W) sz)) 0 0 (va_A ([] : va_W) sz) := by
  refine Met.ofW (cc := cd_B_quotient) (maxL := 6) (ret := (some .long)) (by decide) rfl ?_
  intro p e s m args below meth c s₁ B hml hv
  obtain ⟨rfl, hsz, hP, hK, hD0, hE⟩ := hv
  have hx := B.exec
  have hb := B.bytes
  have hr := B.returns
  have hts := atoms_spec (ws := ws_B_quotient) B.pre
  have hq : ∀ {w : Cond}, w ∈ wg_all → w.before ([.long a0, .long a2] : List Value).toArray s = true := fun h => hts _ (List.mem_cons_of_mem _ h)
  have hu : ∀ L : List Cond, (∀ w ∈ L, w ∈ wg_all) → ∀ w ∈ L, w ∈ ws_B_quotient := fun L h w hw => List.mem_cons_of_mem _ (h w hw)
  have hown : s.vm.findClass "FourWords$Bits" = some m.cls := findClass_of_methodNamed B.named
  have hlocks := B.notSynchronized
  subst hsz
  have hD := hD0.self (sz := s.heap.size)
  generalize hAe : va_A ([] : va_W) s.heap.size = A at hD ⊢
  have hA : ∀ q : Nat, s.heap.size ≤ q → A q := fun q h => by rw [← hAe]; exact Or.inr h
  have hS : va_S A s.heap s.heap [] := va_S.rf
  have hl := lv_entry [.long a0, .long a2] (n := 6) (Nat.le_of_ble_eq_true rfl)
  rw [lg_entry_eq]
  generalize (lg_sl [.long a0, .long a2] ++ List.replicate (6 - (lg_sl [.long a0, .long a2]).length) Slot.unset).toArray = ls at hl ⊢
  have hl : lv_has ls 6 [(0, .long a0), (2, .long a2)] := hl
  have B_51 : ∀ (H : Heap) (locs : List Loc) (ls : Array Slot) (t0 : Int64), wp_B_quotient_51 post t0 → va_P (dC, dI) cs_3 ([] : va_W) H → va_D A ([] : va_W) → va_S A s.heap H locs → lv_has ls 6 [] → W p l e (headSpec ws_B_quotient rm_B_quotient).room s m ([.long a0, .long a2] : List Value).toArray below meth c H locs 0 0 (MQ below (ql_0 dC dI cJ cI cZ cB post A) ([.long a0, .long a2] : List Value).toArray s 0 0 A) (F0 m 51 ls [.long t0]) := by
    intro H locs ls t0 hw hP hD hS hl
    unfold wp_B_quotient_51 at hw
    exact W.lret (v := t0) hx hb hr (fun t ht hW => ⟨⟨t0, (), rfl, hw, by rw [ht]; exact hP, va_K.moved hW.alike hK, hD⟩, hS.F ht⟩) hS.2.2 dc_B_quotient_51
  have B_19 : ∀ (H : Heap) (locs : List Loc) (ls : Array Slot) (t0 : Int64), wp_B_quotient_19 post t0 → va_P (dC, dI) cs_3 ([] : va_W) H → va_D A ([] : va_W) → va_S A s.heap H locs → lv_has ls 6 [] → W p l e (headSpec ws_B_quotient rm_B_quotient).room s m ([.long a0, .long a2] : List Value).toArray below meth c H locs 0 0 (MQ below (ql_0 dC dI cJ cI cZ cB post A) ([.long a0, .long a2] : List Value).toArray s 0 0 A) (F0 m 19 ls [.long t0]) := by
    intro H locs ls t0 hw hP hD hS hl
    unfold wp_B_quotient_19 at hw
    exact W.lret (v := t0) hx hb hr (fun t ht hW => ⟨⟨t0, (), rfl, hw, by rw [ht]; exact hP, va_K.moved hW.alike hK, hD⟩, hS.F ht⟩) hS.2.2 dc_B_quotient_19
  unfold wp_B_quotient at hw
  refine lv_lload_n hx hb dc_B_quotient_0 rfl (lv_at hl 1 rfl) ?_
  refine lv_lconst (v := 0) hx hb dc_B_quotient_1 (by decide) ?_
  refine W.lcmp hx hb dc_B_quotient_2 ?_
  obtain ⟨hw1, hw2⟩ := hw
  refine lv_if_gt (tgt := 20) hx hb dc_B_quotient_3 (by decide) (fun hc => ?_) (fun hc => ?_)
  · have hw := hw1 hc
    clear hw1 hw2
    refine lv_lload_n hx hb dc_B_quotient_20 rfl (lv_at hl 0 rfl) ?_
    refine lv_iconst (v := 1) hx hb dc_B_quotient_21 (by decide) ?_
    refine lv_lushr hx hb dc_B_quotient_22 rfl ?_
    refine lv_lload_n hx hb dc_B_quotient_23 rfl (lv_at hl 1 rfl) ?_
    obtain ⟨hne, hw⟩ := hw
    refine lv_ldiv hx hb dc_B_quotient_24 hne ?_
    refine lv_iconst (v := 1) hx hb dc_B_quotient_25 (by decide) ?_
    refine lv_lshl hx hb dc_B_quotient_26 rfl ?_
    refine lv_topl (fun v27 e27 => ?_)
    have hw := hw v27 e27
    refine lv_lstore (lv' := [(4, .long v27), (0, .long a0), (2, .long a2)]) hx hb dc_B_quotient_27 hl (Nat.le_of_ble_eq_true rfl) rfl (fun ls hl => ?_)
    refine lv_lload_n hx hb dc_B_quotient_29 rfl (lv_at hl 1 rfl) ?_
    refine lv_lload hx hb dc_B_quotient_30 (lv_at hl 0 rfl) ?_
    refine lv_lload_n hx hb dc_B_quotient_32 rfl (lv_at hl 2 rfl) ?_
    refine lv_lmul hx hb dc_B_quotient_33 ?_
    refine lv_lsub hx hb dc_B_quotient_34 ?_
    refine lv_lload_n hx hb dc_B_quotient_35 rfl (lv_at hl 2 rfl) ?_
    refine gc_i (S := Unit) (w1 := (fun u => ([] : va_W))) (wc := ([] : va_W)) (wr := ([] : va_W)) (va_runS (As := [.long (a0 - (v27 * a2)), .long a2]) (rest := []) ⟨hx, hb, hml, hown, hts⟩ (kt_B_below l dC dI cJ cI cZ cB _ (a0 - (v27 * a2)) a2 _ hw) ⟨callB_of 2 hts (gw_in mw_t218) rfl rfl rfl (hq mw_t9) (hq mw_t216) (by decide +kernel) ⟨Nat.le_of_ble_eq_true rfl, Nat.le_of_ble_eq_true rfl⟩, hq mw_t217⟩ (ps_W (hP.sub (ws' := ([] : va_W)) [] rfl) hK (hD.sub (ws' := ([] : va_W)) [] (by decide) rfl) hE) rfl rfl hl.1 rfl (lv_room (Nat.le_of_ble_eq_true rfl)) dc_B_quotient_36 ⟨Nat.le_of_ble_eq_true rfl, Nat.le_of_ble_eq_true rfl⟩) hP hD hS hA [] [] rfl rfl (by decide) (by decide) (fun r36 u H locs hw hP hD hS => ?_)
    try dsimp only at hw
    obtain ⟨hw1, hw2⟩ := hw
    refine lv_if_eq (tgt := 47) hx hb dc_B_quotient_39 (by decide) (fun hc => ?_) (fun hc => ?_)
    · have hw := hw1 hc
      clear hw1 hw2
      refine lv_lload hx hb dc_B_quotient_47 (lv_at hl 0 rfl) ?_
      refine lv_lconst (v := 1) hx hb dc_B_quotient_49 (by decide) ?_
      refine lv_ladd hx hb dc_B_quotient_50 ?_
      exact B_51 _ _ _ (v27 + (1 : Int64)) hw hP hD hS (lv_sub hl [] rfl)
    · have hw := hw2 hc
      clear hw1 hw2
      refine lv_lload hx hb dc_B_quotient_42 (lv_at hl 0 rfl) ?_
      refine lv_goto (tgt := 51) hx hb dc_B_quotient_44 (by decide) ?_
      exact B_51 _ _ _ v27 hw hP hD hS (lv_sub hl [] rfl)
  · have hw := hw2 hc
    clear hw1 hw2
    refine lv_lload_n hx hb dc_B_quotient_6 rfl (lv_at hl 0 rfl) ?_
    refine lv_lload_n hx hb dc_B_quotient_7 rfl (lv_at hl 1 rfl) ?_
    refine gc_i (S := Unit) (w1 := (fun u => ([] : va_W))) (wc := ([] : va_W)) (wr := ([] : va_W)) (va_runS (As := [.long a0, .long a2]) (rest := []) ⟨hx, hb, hml, hown, hts⟩ (kt_B_below l dC dI cJ cI cZ cB _ a0 a2 _ hw) ⟨callB_of 2 hts (gw_in mw_t218) rfl rfl rfl (hq mw_t9) (hq mw_t216) (by decide +kernel) ⟨Nat.le_of_ble_eq_true rfl, Nat.le_of_ble_eq_true rfl⟩, hq mw_t217⟩ (ps_W (hP.sub (ws' := ([] : va_W)) [] rfl) hK (hD.sub (ws' := ([] : va_W)) [] (by decide) rfl) hE) rfl rfl hl.1 rfl (lv_room (Nat.le_of_ble_eq_true rfl)) dc_B_quotient_8 ⟨Nat.le_of_ble_eq_true rfl, Nat.le_of_ble_eq_true rfl⟩) hP hD hS hA [] [] rfl rfl (by decide) (by decide) (fun r8 u H locs hw hP hD hS => ?_)
    try dsimp only at hw
    obtain ⟨hw1, hw2⟩ := hw
    refine lv_if_eq (tgt := 18) hx hb dc_B_quotient_11 (by decide) (fun hc => ?_) (fun hc => ?_)
    · have hw := hw1 hc
      clear hw1 hw2
      refine lv_lconst (v := 1) hx hb dc_B_quotient_18 (by decide) ?_
      exact B_19 _ _ _ (1 : Int64) hw hP hD hS (lv_sub hl [] rfl)
    · have hw := hw2 hc
      clear hw1 hw2
      refine lv_lconst (v := 0) hx hb dc_B_quotient_14 (by decide) ?_
      refine lv_goto (tgt := 19) hx hb dc_B_quotient_15 (by decide) ?_
      exact B_19 _ _ _ (0 : Int64) hw hP hD hS (lv_sub hl [] rfl)
set_option maxHeartbeats 4000000 in
set_option maxRecDepth 100000 in
theorem kt_B_digits (l : Launch) (dC : Nat → ClassId) (dI : Nat → Nat → Nat) (cJ cI cZ cB : ClassId) (sz : Nat) (a0 : Int64) (post : Int32 → Prop) (hw : wp_B_digits post a0) : Met l yn_B_digits ws_B_digits rm_B_digits (va_Pc [.long a0] (pc_W (dC, dI) (ty_4 cJ cI cZ cB) ([] : va_W) sz)) (qi_0 dC dI cJ cI cZ cB post (va_A ([] : va_W) sz)) 0 0 (va_A ([] : va_W) sz) := by
  refine Met.ofW (cc := cd_B_digits) (maxL := 5) (ret := (some .int)) (by decide) rfl ?_
  intro p e s m args below meth c s₁ B hml hv
  obtain ⟨rfl, hsz, hP, hK, hD0, hE⟩ := hv
  have hx := B.exec
  have hb := B.bytes
  have hr := B.returns
  have hts := atoms_spec (ws := ws_B_digits) B.pre
  have hq : ∀ {w : Cond}, w ∈ wg_all → w.before ([.long a0] : List Value).toArray s = true := fun h => hts _ (List.mem_cons_of_mem _ h)
  have hu : ∀ L : List Cond, (∀ w ∈ L, w ∈ wg_all) → ∀ w ∈ L, w ∈ ws_B_digits := fun L h w hw => List.mem_cons_of_mem _ (h w hw)
  have hown : s.vm.findClass "FourWords$Bits" = some m.cls := findClass_of_methodNamed B.named
  have hlocks := B.notSynchronized
  subst hsz
  have hD := hD0.self (sz := s.heap.size)
  generalize hAe : va_A ([] : va_W) s.heap.size = A at hD ⊢
  have hA : ∀ q : Nat, s.heap.size ≤ q → A q := fun q h => by rw [← hAe]; exact Or.inr h
  have hS : va_S A s.heap s.heap [] := va_S.rf
  have hl := lv_entry [.long a0] (n := 5) (Nat.le_of_ble_eq_true rfl)
  rw [lg_entry_eq]
  generalize (lg_sl [.long a0] ++ List.replicate (5 - (lg_sl [.long a0]).length) Slot.unset).toArray = ls at hl ⊢
  have hl : lv_has ls 5 [(0, .long a0)] := hl
  have B_5 : ∀ (n5 : Nat) (H : Heap) (locs : List Loc) (ls : Array Slot) (x2 : Int64) (x4 : Int32), wp_B_digits_5 post n5 x2 x4 → va_P (dC, dI) cs_3 ([] : va_W) H → va_D A ([] : va_W) → va_S A s.heap H locs → lv_has ls 5 [(2, .long x2), (4, .int x4)] → W p l e (headSpec ws_B_digits rm_B_digits).room s m ([.long a0] : List Value).toArray below meth c H locs 0 0 (MQ below (qi_0 dC dI cJ cI cZ cB post A) ([.long a0] : List Value).toArray s 0 0 A) (F0 m 5 ls []) := by
    intro n5
    induction n5 with
    | zero => intro H locs ls x2 x4 hw; exact False.elim hw
    | succ n5 ih =>
      intro H locs ls x2 x4 hw hP hD hS hl
      unfold wp_B_digits_5 at hw
      refine lv_iload hx hb dc_B_digits_5 (lv_at hl 1 rfl) ?_
      refine lv_bipush (v := 20) hx hb dc_B_digits_7 (by decide) ?_
      obtain ⟨hw1, hw2⟩ := hw
      refine lv_icmp_ge (tgt := 35) hx hb dc_B_digits_9 (by decide) (fun hc => ?_) (fun hc => ?_)
      · have hw := hw1 hc
        clear hw1 hw2
        refine lv_bipush (v := 20) hx hb dc_B_digits_35 (by decide) ?_
        exact W.iret (v := (20 : Int32)) hx hb hr (fun t ht hW => ⟨⟨(20 : Int32), (), rfl, hw, by rw [ht]; exact hP, va_K.moved hW.alike hK, hD⟩, hS.F ht⟩) hS.2.2 dc_B_digits_37
      · have hw := hw2 hc
        clear hw1 hw2
        refine lv_lload_n hx hb dc_B_digits_12 rfl (lv_at hl 0 rfl) ?_
        refine lv_ldc2 (v := 10) hx hb hown (hq mw_t389) dc_B_digits_13 ?_
        refine gc_l (S := Unit) (w1 := (fun u => ([] : va_W))) (wc := ([] : va_W)) (wr := ([] : va_W)) (va_runS (As := [.long x2, .long (10 : Int64)]) (rest := []) ⟨hx, hb, hml, hown, hts⟩ (kt_B_quotient l dC dI cJ cI cZ cB _ x2 (10 : Int64) _ hw) ⟨callB_of 2 hts (gw_in mw_t215) rfl rfl rfl (hq mw_t9) (hq mw_t390) (by decide +kernel) ⟨Nat.le_of_ble_eq_true rfl, Nat.le_of_ble_eq_true rfl⟩, hq mw_t214⟩ (ps_W (hP.sub (ws' := ([] : va_W)) [] rfl) hK (hD.sub (ws' := ([] : va_W)) [] (by decide) rfl) hE) rfl rfl hl.1 rfl (lv_room (Nat.le_of_ble_eq_true rfl)) dc_B_digits_16 ⟨Nat.le_of_ble_eq_true rfl, Nat.le_of_ble_eq_true rfl⟩) hP hD hS hA [] [] rfl rfl (by decide) (by decide) (fun r16 u H locs hw hP hD hS => ?_)
        try dsimp only at hw
        refine lv_lstore_n (lv' := [(2, .long r16), (4, .int x4)]) hx hb dc_B_digits_19 rfl hl (Nat.le_of_ble_eq_true rfl) rfl (fun ls hl => ?_)
        refine lv_lload_n hx hb dc_B_digits_20 rfl (lv_at hl 0 rfl) ?_
        refine lv_lconst (v := 0) hx hb dc_B_digits_21 (by decide) ?_
        refine W.lcmp hx hb dc_B_digits_22 ?_
        obtain ⟨hw1, hw2⟩ := hw
        refine lv_if_ne (tgt := 29) hx hb dc_B_digits_23 (by decide) (fun hc => ?_) (fun hc => ?_)
        · have hw := hw1 hc
          clear hw1 hw2
          refine lv_iinc (lv' := [(4, .int (x4 + 1)), (2, .long r16)]) hx hb dc_B_digits_29 hl (k := 1) rfl (ic_p1 _) (Nat.le_of_ble_eq_true rfl) rfl (fun ls hl => ?_)
          refine lv_goto (tgt := 5) hx hb dc_B_digits_32 (by decide) ?_
          exact ih _ _ _ r16 (x4 + 1) hw hP hD hS (lv_sub hl [1, 0] rfl)
        · have hw := hw2 (fun h9 => h9 hc)
          clear hw1 hw2
          refine lv_iload hx hb dc_B_digits_26 (lv_at hl 1 rfl) ?_
          exact W.iret (v := x4) hx hb hr (fun t ht hW => ⟨⟨x4, (), rfl, hw, by rw [ht]; exact hP, va_K.moved hW.alike hK, hD⟩, hS.F ht⟩) hS.2.2 dc_B_digits_28
  unfold wp_B_digits at hw
  refine lv_lload_n hx hb dc_B_digits_0 rfl (lv_at hl 0 rfl) ?_
  refine lv_lstore_n (lv' := [(2, .long a0), (0, .long a0)]) hx hb dc_B_digits_1 rfl hl (Nat.le_of_ble_eq_true rfl) rfl (fun ls hl => ?_)
  refine lv_iconst (v := 1) hx hb dc_B_digits_2 (by decide) ?_
  refine lv_istore (lv' := [(4, .int (1 : Int32)), (2, .long a0), (0, .long a0)]) hx hb dc_B_digits_3 hl (Nat.le_of_ble_eq_true rfl) rfl (fun ls hl => ?_)
  obtain ⟨n5, hw⟩ := hw
  exact B_5 n5 _ _ _ a0 (1 : Int32) hw hP hD hS (lv_sub hl [1, 0] rfl)
set_option maxHeartbeats 4000000 in
set_option maxRecDepth 100000 in
theorem kt_J_bitCount (l : Launch) (dC : Nat → ClassId) (dI : Nat → Nat → Nat) (cJ cI cZ cB : ClassId) (sz : Nat) (a0 : Int64) (post : Int32 → Prop) (hw : wp_J_bitCount post a0) : Met l yn_J_bitCount ws_J_bitCount rm_J_bitCount (va_Pc [.long a0] (pc_W (dC, dI) (ty_4 cJ cI cZ cB) ([] : va_W) sz)) (qi_0 dC dI cJ cI cZ cB post (va_A ([] : va_W) sz)) 0 0 (va_A ([] : va_W) sz) := by
  refine va_MetF (cc := cd_J_bitCount) (maxL := 2) (ret := (some .int)) (by decide) rfl ?_
  intro p e s m args below meth c s₁ B hml hv
  obtain ⟨rfl, hsz, hP, hK, hD0, hE⟩ := hv
  have hx := B.exec
  have hb := B.bytes
  have hr := B.returns
  have hts := atoms_spec (ws := ws_J_bitCount) B.pre
  have hq : ∀ {w : Cond}, w ∈ wg_all → w.before ([.long a0] : List Value).toArray s = true := fun h => hts _ (List.mem_cons_of_mem _ h)
  have hu : ∀ L : List Cond, (∀ w ∈ L, w ∈ wg_all) → ∀ w ∈ L, w ∈ ws_J_bitCount := fun L h w hw => List.mem_cons_of_mem _ (h w hw)
  have hown : s.vm.findClass "java/lang/Long" = some m.cls := findClass_of_methodNamed B.named
  have hlocks := B.notSynchronized
  subst hsz
  have hD := hD0.self (sz := s.heap.size)
  generalize hAe : va_A ([] : va_W) s.heap.size = A at hD ⊢
  have hA : ∀ q : Nat, s.heap.size ≤ q → A q := fun q h => by rw [← hAe]; exact Or.inr h
  have hS : va_S A s.heap s.heap [] := va_S.rf
  have hl := lv_entry [.long a0] (n := 2) (Nat.le_of_ble_eq_true rfl)
  rw [lg_entry_eq]
  generalize (lg_sl [.long a0] ++ List.replicate (2 - (lg_sl [.long a0]).length) Slot.unset).toArray = ls at hl ⊢
  have hl : lv_has ls 2 [(0, .long a0)] := hl
  unfold wp_J_bitCount at hw
  refine lv_lload_n hx hb dc_J_bitCount_0 rfl (lv_at hl 0 rfl) ?_
  refine lv_lload_n hx hb dc_J_bitCount_1 rfl (lv_at hl 0 rfl) ?_
  refine lv_iconst (v := 1) hx hb dc_J_bitCount_2 (by decide) ?_
  refine lv_lushr hx hb dc_J_bitCount_3 rfl ?_
  refine lv_ldc2 (v := 6148914691236517205) hx hb hown (hq mw_t309) dc_J_bitCount_4 ?_
  refine lv_land hx hb dc_J_bitCount_7 ?_
  refine lv_lsub hx hb dc_J_bitCount_8 ?_
  refine lv_topl (fun v9 e9 => ?_)
  have hw := hw v9 e9
  refine lv_lstore_n (lv' := [(0, .long v9)]) hx hb dc_J_bitCount_9 rfl hl (Nat.le_of_ble_eq_true rfl) rfl (fun ls hl => ?_)
  refine lv_lload_n hx hb dc_J_bitCount_10 rfl (lv_at hl 0 rfl) ?_
  refine lv_ldc2 (v := 3689348814741910323) hx hb hown (hq mw_t310) dc_J_bitCount_11 ?_
  refine lv_land hx hb dc_J_bitCount_14 ?_
  refine lv_lload_n hx hb dc_J_bitCount_15 rfl (lv_at hl 0 rfl) ?_
  refine lv_iconst (v := 2) hx hb dc_J_bitCount_16 (by decide) ?_
  refine lv_lushr hx hb dc_J_bitCount_17 rfl ?_
  refine lv_ldc2 (v := 3689348814741910323) hx hb hown (hq mw_t310) dc_J_bitCount_18 ?_
  refine lv_land hx hb dc_J_bitCount_21 ?_
  refine lv_ladd hx hb dc_J_bitCount_22 ?_
  refine lv_topl (fun v23 e23 => ?_)
  have hw := hw v23 e23
  refine lv_lstore_n (lv' := [(0, .long v23)]) hx hb dc_J_bitCount_23 rfl hl (Nat.le_of_ble_eq_true rfl) rfl (fun ls hl => ?_)
  refine lv_lload_n hx hb dc_J_bitCount_24 rfl (lv_at hl 0 rfl) ?_
  refine lv_lload_n hx hb dc_J_bitCount_25 rfl (lv_at hl 0 rfl) ?_
  refine lv_iconst (v := 4) hx hb dc_J_bitCount_26 (by decide) ?_
  refine lv_lushr hx hb dc_J_bitCount_27 rfl ?_
  refine lv_ladd hx hb dc_J_bitCount_28 ?_
  refine lv_ldc2 (v := 1085102592571150095) hx hb hown (hq mw_t311) dc_J_bitCount_29 ?_
  refine lv_land hx hb dc_J_bitCount_32 ?_
  refine lv_topl (fun v33 e33 => ?_)
  have hw := hw v33 e33
  refine lv_lstore_n (lv' := [(0, .long v33)]) hx hb dc_J_bitCount_33 rfl hl (Nat.le_of_ble_eq_true rfl) rfl (fun ls hl => ?_)
  refine lv_lload_n hx hb dc_J_bitCount_34 rfl (lv_at hl 0 rfl) ?_
  refine lv_lload_n hx hb dc_J_bitCount_35 rfl (lv_at hl 0 rfl) ?_
  refine lv_bipush (v := 8) hx hb dc_J_bitCount_36 (by decide) ?_
  refine lv_lushr hx hb dc_J_bitCount_38 rfl ?_
  refine lv_ladd hx hb dc_J_bitCount_39 ?_
  refine lv_topl (fun v40 e40 => ?_)
  have hw := hw v40 e40
  refine lv_lstore_n (lv' := [(0, .long v40)]) hx hb dc_J_bitCount_40 rfl hl (Nat.le_of_ble_eq_true rfl) rfl (fun ls hl => ?_)
  refine lv_lload_n hx hb dc_J_bitCount_41 rfl (lv_at hl 0 rfl) ?_
  refine lv_lload_n hx hb dc_J_bitCount_42 rfl (lv_at hl 0 rfl) ?_
  refine lv_bipush (v := 16) hx hb dc_J_bitCount_43 (by decide) ?_
  refine lv_lushr hx hb dc_J_bitCount_45 rfl ?_
  refine lv_ladd hx hb dc_J_bitCount_46 ?_
  refine lv_topl (fun v47 e47 => ?_)
  have hw := hw v47 e47
  refine lv_lstore_n (lv' := [(0, .long v47)]) hx hb dc_J_bitCount_47 rfl hl (Nat.le_of_ble_eq_true rfl) rfl (fun ls hl => ?_)
  refine lv_lload_n hx hb dc_J_bitCount_48 rfl (lv_at hl 0 rfl) ?_
  refine lv_lload_n hx hb dc_J_bitCount_49 rfl (lv_at hl 0 rfl) ?_
  refine lv_bipush (v := 32) hx hb dc_J_bitCount_50 (by decide) ?_
  refine lv_lushr hx hb dc_J_bitCount_52 rfl ?_
  refine lv_ladd hx hb dc_J_bitCount_53 ?_
  refine lv_topl (fun v54 e54 => ?_)
  have hw := hw v54 e54
  refine lv_lstore_n (lv' := [(0, .long v54)]) hx hb dc_J_bitCount_54 rfl hl (Nat.le_of_ble_eq_true rfl) rfl (fun ls hl => ?_)
  refine lv_lload_n hx hb dc_J_bitCount_55 rfl (lv_at hl 0 rfl) ?_
  refine lv_l2i hx hb dc_J_bitCount_56 rfl ?_
  refine lv_bipush (v := 127) hx hb dc_J_bitCount_57 (by decide) ?_
  refine lv_iand hx hb dc_J_bitCount_59 ?_
  exact W.iret (v := v54.toInt32 &&& (127 : Int32)) hx hb hr (fun t ht hW => ⟨⟨v54.toInt32 &&& (127 : Int32), (), rfl, hw, by rw [ht]; exact hP, va_K.moved hW.alike hK, hD⟩, hS.F ht⟩) hS.2.2 dc_J_bitCount_60

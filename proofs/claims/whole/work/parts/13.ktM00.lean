set_option maxHeartbeats 4000000 in
set_option maxRecDepth 100000 in
theorem kt_M_dark (l : Launch) (dC : Nat → ClassId) (dI : Nat → Nat → Nat) (cJ cI cZ cB : ClassId) (qx : Nat) (sz : Nat) (a1 : Int32) (fx : (Nat → Int32)) (post : Int32 → (Nat → Int32) → Prop) (hw : wp_M_dark post a1 fx) : Met l yn_M_dark ws_M_dark rm_M_dark (va_Pc [.ref qx, .int a1] (pc_W (dC, dI) (ty_4 cJ cI cZ cB) (wd_A qx cJ cI cZ cB fx) sz)) (qi_A dC dI cJ cI cZ cB qx post (va_A (wd_A qx cJ cI cZ cB fx) sz)) 0 0 (va_A (wd_A qx cJ cI cZ cB fx) sz) := by
  refine Met.ofW (cc := cd_M_dark) (maxL := 3) (ret := (some .boolean)) (by decide) rfl ?_
  intro p e s m args below meth c s₁ B hml hv
  obtain ⟨rfl, hsz, hP, hK, hD0, hE⟩ := hv
  have hx := B.exec
  have hb := B.bytes
  have hr := B.returns
  have hts := atoms_spec (ws := ws_M_dark) B.pre
  have hq : ∀ {w : Cond}, w ∈ wg_all → w.before ([.ref qx, .int a1] : List Value).toArray s = true := fun h => hts _ (List.mem_cons_of_mem _ h)
  have hu : ∀ L : List Cond, (∀ w ∈ L, w ∈ wg_all) → ∀ w ∈ L, w ∈ ws_M_dark := fun L h w hw => List.mem_cons_of_mem _ (h w hw)
  have hown : s.vm.findClass "FourWordsModel" = some m.cls := findClass_of_methodNamed B.named
  have hlocks := B.notSynchronized
  subst hsz
  have hD := hD0.self (sz := s.heap.size)
  generalize hAe : va_A (wd_A qx cJ cI cZ cB fx) s.heap.size = A at hD ⊢
  have hA : ∀ q : Nat, s.heap.size ≤ q → A q := fun q h => by rw [← hAe]; exact Or.inr h
  have hS : va_S A s.heap s.heap [] := va_S.rf
  have hl := lv_entry [.ref qx, .int a1] (n := 3) (Nat.le_of_ble_eq_true rfl)
  rw [lg_entry_eq]
  generalize (lg_sl [.ref qx, .int a1] ++ List.replicate (3 - (lg_sl [.ref qx, .int a1]).length) Slot.unset).toArray = ls at hl ⊢
  have hl : lv_has ls 3 [(0, .ref qx), (1, .int a1)] := hl
  have B_2 : ∀ (n2 : Nat) (H : Heap) (locs : List Loc) (ls : Array Slot) (x1 : Int32) (x2 : Int32) (fx : (Nat → Int32)), wp_M_dark_2 post n2 x1 x2 fx → va_P (dC, dI) cs_3 (wd_A qx cJ cI cZ cB fx) H → va_D A (wd_A qx cJ cI cZ cB fx) → va_S A s.heap H locs → lv_has ls 3 [(0, .ref qx), (1, .int x1), (2, .int x2)] → W p l e (headSpec ws_M_dark rm_M_dark).room s m ([.ref qx, .int a1] : List Value).toArray below meth c H locs 0 0 (MQ below (qi_A dC dI cJ cI cZ cB qx post A) ([.ref qx, .int a1] : List Value).toArray s 0 0 A) (F0 m 2 ls []) := by
    intro n2
    induction n2 with
    | zero => intro H locs ls x1 x2 fx hw; exact False.elim hw
    | succ n2 ih =>
      intro H locs ls x1 x2 fx hw hP hD hS hl
      unfold wp_M_dark_2 at hw
      refine lv_iload_n hx hb dc_M_dark_2 rfl (lv_at hl 2 rfl) ?_
      refine lv_iload_n hx hb dc_M_dark_3 rfl (lv_at hl 1 rfl) ?_
      obtain ⟨hw1, hw2⟩ := hw
      refine lv_icmp_ge (tgt := 22) hx hb dc_M_dark_4 (by decide) (fun hc => ?_) (fun hc => ?_)
      · have hw := hw1 hc
        clear hw1 hw2
        refine lv_iconst (v := 0) hx hb dc_M_dark_22 (by decide) ?_
        obtain ⟨hnw, hw⟩ := hw
        exact W.zret (v := (0 : Int32)) hx hb hr hnw (fun t ht hW => ⟨⟨(0 : Int32), (fx), rfl, hw, by rw [ht]; exact hP, va_K.moved hW.alike hK, hD⟩, hS.F ht⟩) hS.2.2 dc_M_dark_23
      · have hw := hw2 hc
        clear hw1 hw2
        refine lv_aload_n hx hb dc_M_dark_7 rfl (lv_at hl 0 rfl) ?_
        refine lv_iload_n hx hb dc_M_dark_8 rfl (lv_at hl 2 rfl) ?_
        obtain ⟨hin, hw⟩ := hw
        refine va_bald hx hb hK hP 0 3 rfl rfl hin dc_M_dark_9 ?_
        refine lv_iconst (v := 1) hx hb dc_M_dark_10 (by decide) ?_
        obtain ⟨hw1, hw2⟩ := hw
        refine lv_icmp_le (tgt := 16) hx hb dc_M_dark_11 (by decide) (fun hc => ?_) (fun hc => ?_)
        · have hw := hw1 hc
          clear hw1 hw2
          refine lv_iinc (lv' := [(2, .int (x2 + 1)), (0, .ref qx), (1, .int x1)]) hx hb dc_M_dark_16 hl (k := 2) rfl (ic_p1 _) (Nat.le_of_ble_eq_true rfl) rfl (fun ls hl => ?_)
          refine lv_goto (tgt := 2) hx hb dc_M_dark_19 (by decide) ?_
          exact ih _ _ _ x1 (x2 + 1) fx hw hP hD hS (lv_sub hl [1, 2, 0] rfl)
        · have hw := hw2 hc
          clear hw1 hw2
          refine lv_iconst (v := 1) hx hb dc_M_dark_14 (by decide) ?_
          obtain ⟨hnw, hw⟩ := hw
          exact W.zret (v := (1 : Int32)) hx hb hr hnw (fun t ht hW => ⟨⟨(1 : Int32), (fx), rfl, hw, by rw [ht]; exact hP, va_K.moved hW.alike hK, hD⟩, hS.F ht⟩) hS.2.2 dc_M_dark_15
  unfold wp_M_dark at hw
  refine lv_iconst (v := 0) hx hb dc_M_dark_0 (by decide) ?_
  refine lv_istore_n (lv' := [(2, .int (0 : Int32)), (0, .ref qx), (1, .int a1)]) hx hb dc_M_dark_1 rfl hl (Nat.le_of_ble_eq_true rfl) rfl (fun ls hl => ?_)
  obtain ⟨n2, hw⟩ := hw
  exact B_2 n2 _ _ _ a1 (0 : Int32) fx hw hP hD hS (lv_sub hl [1, 2, 0] rfl)
set_option maxHeartbeats 4000000 in
set_option maxRecDepth 100000 in
theorem kt_M_fill (l : Launch) (dC : Nat → ClassId) (dI : Nat → Nat → Nat) (cJ cI cZ cB : ClassId) (qx : Nat) (sz : Nat) (a1 : Int32) (a2 : Int32) (fx : (Nat → Int32)) (post : (Nat → Int32) → Prop) (hw : wp_M_fill post a1 a2 fx) : Met l yn_M_fill ws_M_fill rm_M_fill (va_Pc [.ref qx, .int a1, .int a2] (pc_W (dC, dI) (ty_4 cJ cI cZ cB) (wd_A qx cJ cI cZ cB fx) sz)) (qv_A dC dI cJ cI cZ cB qx post (va_A (wd_A qx cJ cI cZ cB fx) sz)) 0 0 (va_A (wd_A qx cJ cI cZ cB fx) sz) := by
  refine Met.ofW (cc := cd_M_fill) (maxL := 4) (ret := none) (by decide) rfl ?_
  intro p e s m args below meth c s₁ B hml hv
  obtain ⟨rfl, hsz, hP, hK, hD0, hE⟩ := hv
  have hx := B.exec
  have hb := B.bytes
  have hr := B.returns
  have hts := atoms_spec (ws := ws_M_fill) B.pre
  have hq : ∀ {w : Cond}, w ∈ wg_all → w.before ([.ref qx, .int a1, .int a2] : List Value).toArray s = true := fun h => hts _ (List.mem_cons_of_mem _ h)
  have hu : ∀ L : List Cond, (∀ w ∈ L, w ∈ wg_all) → ∀ w ∈ L, w ∈ ws_M_fill := fun L h w hw => List.mem_cons_of_mem _ (h w hw)
  have hown : s.vm.findClass "FourWordsModel" = some m.cls := findClass_of_methodNamed B.named
  have hlocks := B.notSynchronized
  subst hsz
  have hD := hD0.self (sz := s.heap.size)
  generalize hAe : va_A (wd_A qx cJ cI cZ cB fx) s.heap.size = A at hD ⊢
  have hA : ∀ q : Nat, s.heap.size ≤ q → A q := fun q h => by rw [← hAe]; exact Or.inr h
  have hS : va_S A s.heap s.heap [] := va_S.rf
  have hl := lv_entry [.ref qx, .int a1, .int a2] (n := 4) (Nat.le_of_ble_eq_true rfl)
  rw [lg_entry_eq]
  generalize (lg_sl [.ref qx, .int a1, .int a2] ++ List.replicate (4 - (lg_sl [.ref qx, .int a1, .int a2]).length) Slot.unset).toArray = ls at hl ⊢
  have hl : lv_has ls 4 [(0, .ref qx), (1, .int a1), (2, .int a2)] := hl
  have B_2 : ∀ (n2 : Nat) (H : Heap) (locs : List Loc) (ls : Array Slot) (x1 : Int32) (x2 : Int32) (x3 : Int32) (fx : (Nat → Int32)), wp_M_fill_2 post n2 x1 x2 x3 fx → va_P (dC, dI) cs_3 (wd_A qx cJ cI cZ cB fx) H → va_D A (wd_A qx cJ cI cZ cB fx) → va_S A s.heap H locs → lv_has ls 4 [(0, .ref qx), (1, .int x1), (2, .int x2), (3, .int x3)] → W p l e (headSpec ws_M_fill rm_M_fill).room s m ([.ref qx, .int a1, .int a2] : List Value).toArray below meth c H locs 0 0 (MQ below (qv_A dC dI cJ cI cZ cB qx post A) ([.ref qx, .int a1, .int a2] : List Value).toArray s 0 0 A) (F0 m 2 ls []) := by
    intro n2
    induction n2 with
    | zero => intro H locs ls x1 x2 x3 fx hw; exact False.elim hw
    | succ n2 ih =>
      intro H locs ls x1 x2 x3 fx hw hP hD hS hl
      unfold wp_M_fill_2 at hw
      refine lv_iload_n hx hb dc_M_fill_2 rfl (lv_at hl 3 rfl) ?_
      refine lv_iload_n hx hb dc_M_fill_3 rfl (lv_at hl 1 rfl) ?_
      obtain ⟨hw1, hw2⟩ := hw
      refine lv_icmp_ge (tgt := 18) hx hb dc_M_fill_4 (by decide) (fun hc => ?_) (fun hc => ?_)
      · have hw := hw1 hc
        clear hw1 hw2
        exact W.vret hx hb hr (fun t ht hW => ⟨⟨(fx), rfl, hw, by rw [ht]; exact hP, va_K.moved hW.alike hK, hD⟩, hS.F ht⟩) hS.2.2 dc_M_fill_18
      · have hw := hw2 hc
        clear hw1 hw2
        refine lv_aload_n hx hb dc_M_fill_7 rfl (lv_at hl 0 rfl) ?_
        refine lv_iload_n hx hb dc_M_fill_8 rfl (lv_at hl 3 rfl) ?_
        refine lv_iload_n hx hb dc_M_fill_9 rfl (lv_at hl 2 rfl) ?_
        refine lv_i2b hx hb dc_M_fill_10 rfl ?_
        obtain ⟨hin, hw⟩ := hw
        refine va_bast hx hb hK hP hD hS 0 3 rfl rfl hin dc_M_fill_11 (fun H locs hP hD hS => ?_)
        have hP : va_P (dC, dI) cs_3 (wd_A qx cJ cI cZ cB (upd fx x3.toNatClampNeg (vp_nar .byte x2.toInt8.toInt32))) H := hP
        have hD : va_D A (wd_A qx cJ cI cZ cB (upd fx x3.toNatClampNeg (vp_nar .byte x2.toInt8.toInt32))) := hD
        refine lv_iinc (lv' := [(3, .int (x3 + 1)), (0, .ref qx), (1, .int x1), (2, .int x2)]) hx hb dc_M_fill_12 hl (k := 3) rfl (ic_p1 _) (Nat.le_of_ble_eq_true rfl) rfl (fun ls hl => ?_)
        refine lv_goto (tgt := 2) hx hb dc_M_fill_15 (by decide) ?_
        exact ih _ _ _ x1 x2 (x3 + 1) (upd fx x3.toNatClampNeg (vp_nar .byte x2.toInt8.toInt32)) hw hP hD hS (lv_sub hl [1, 2, 3, 0] rfl)
  unfold wp_M_fill at hw
  refine lv_iconst (v := 0) hx hb dc_M_fill_0 (by decide) ?_
  refine lv_istore_n (lv' := [(3, .int (0 : Int32)), (0, .ref qx), (1, .int a1), (2, .int a2)]) hx hb dc_M_fill_1 rfl hl (Nat.le_of_ble_eq_true rfl) rfl (fun ls hl => ?_)
  obtain ⟨n2, hw⟩ := hw
  exact B_2 n2 _ _ _ a1 a2 (0 : Int32) fx hw hP hD hS (lv_sub hl [1, 2, 3, 0] rfl)
set_option maxHeartbeats 4000000 in
set_option maxRecDepth 100000 in
theorem kt_M_truth (l : Launch) (dC : Nat → ClassId) (dI : Nat → Nat → Nat) (cJ cI cZ cB : ClassId) (qx : Nat) (sz : Nat) (a1 : Int32) (fx : (Nat → Int32)) (post : Int32 → (Nat → Int32) → Prop) (hw : wp_M_truth post a1 fx) : Met l yn_M_truth ws_M_truth rm_M_truth (va_Pc [.ref qx, .int a1] (pc_W (dC, dI) (ty_4 cJ cI cZ cB) (wd_A qx cJ cI cZ cB fx) sz)) (qi_A dC dI cJ cI cZ cB qx post (va_A (wd_A qx cJ cI cZ cB fx) sz)) 0 0 (va_A (wd_A qx cJ cI cZ cB fx) sz) := by
  refine Met.ofW (cc := cd_M_truth) (maxL := 3) (ret := (some .int)) (by decide) rfl ?_
  intro p e s m args below meth c s₁ B hml hv
  obtain ⟨rfl, hsz, hP, hK, hD0, hE⟩ := hv
  have hx := B.exec
  have hb := B.bytes
  have hr := B.returns
  have hts := atoms_spec (ws := ws_M_truth) B.pre
  have hq : ∀ {w : Cond}, w ∈ wg_all → w.before ([.ref qx, .int a1] : List Value).toArray s = true := fun h => hts _ (List.mem_cons_of_mem _ h)
  have hu : ∀ L : List Cond, (∀ w ∈ L, w ∈ wg_all) → ∀ w ∈ L, w ∈ ws_M_truth := fun L h w hw => List.mem_cons_of_mem _ (h w hw)
  have hown : s.vm.findClass "FourWordsModel" = some m.cls := findClass_of_methodNamed B.named
  have hlocks := B.notSynchronized
  subst hsz
  have hD := hD0.self (sz := s.heap.size)
  generalize hAe : va_A (wd_A qx cJ cI cZ cB fx) s.heap.size = A at hD ⊢
  have hA : ∀ q : Nat, s.heap.size ≤ q → A q := fun q h => by rw [← hAe]; exact Or.inr h
  have hS : va_S A s.heap s.heap [] := va_S.rf
  have hl := lv_entry [.ref qx, .int a1] (n := 3) (Nat.le_of_ble_eq_true rfl)
  rw [lg_entry_eq]
  generalize (lg_sl [.ref qx, .int a1] ++ List.replicate (3 - (lg_sl [.ref qx, .int a1]).length) Slot.unset).toArray = ls at hl ⊢
  have hl : lv_has ls 3 [(0, .ref qx), (1, .int a1)] := hl
  have B_35 : ∀ (H : Heap) (locs : List Loc) (ls : Array Slot) (t0 : Int32) (fx : (Nat → Int32)), wp_M_truth_35 post t0 fx → va_P (dC, dI) cs_3 (wd_A qx cJ cI cZ cB fx) H → va_D A (wd_A qx cJ cI cZ cB fx) → va_S A s.heap H locs → lv_has ls 3 [] → W p l e (headSpec ws_M_truth rm_M_truth).room s m ([.ref qx, .int a1] : List Value).toArray below meth c H locs 0 0 (MQ below (qi_A dC dI cJ cI cZ cB qx post A) ([.ref qx, .int a1] : List Value).toArray s 0 0 A) (F0 m 35 ls [.int t0]) := by
    intro H locs ls t0 fx hw hP hD hS hl
    unfold wp_M_truth_35 at hw
    exact W.iret (v := t0) hx hb hr (fun t ht hW => ⟨⟨t0, (fx), rfl, hw, by rw [ht]; exact hP, va_K.moved hW.alike hK, hD⟩, hS.F ht⟩) hS.2.2 dc_M_truth_35
  have B_2 : ∀ (n2 : Nat) (H : Heap) (locs : List Loc) (ls : Array Slot) (x1 : Int32) (x2 : Int32) (fx : (Nat → Int32)), wp_M_truth_2 post n2 x1 x2 fx → va_P (dC, dI) cs_3 (wd_A qx cJ cI cZ cB fx) H → va_D A (wd_A qx cJ cI cZ cB fx) → va_S A s.heap H locs → lv_has ls 3 [(0, .ref qx), (1, .int x1), (2, .int x2)] → W p l e (headSpec ws_M_truth rm_M_truth).room s m ([.ref qx, .int a1] : List Value).toArray below meth c H locs 0 0 (MQ below (qi_A dC dI cJ cI cZ cB qx post A) ([.ref qx, .int a1] : List Value).toArray s 0 0 A) (F0 m 2 ls []) := by
    intro n2
    induction n2 with
    | zero => intro H locs ls x1 x2 fx hw; exact False.elim hw
    | succ n2 ih =>
      intro H locs ls x1 x2 fx hw hP hD hS hl
      unfold wp_M_truth_2 at hw
      refine lv_iload_n hx hb dc_M_truth_2 rfl (lv_at hl 2 rfl) ?_
      refine lv_iload_n hx hb dc_M_truth_3 rfl (lv_at hl 1 rfl) ?_
      obtain ⟨hw1, hw2⟩ := hw
      refine lv_icmp_ge (tgt := 22) hx hb dc_M_truth_4 (by decide) (fun hc => ?_) (fun hc => ?_)
      · have hw := hw1 hc
        clear hw1 hw2
        refine lv_aload_n hx hb dc_M_truth_22 rfl (lv_at hl 0 rfl) ?_
        refine lv_iload_n hx hb dc_M_truth_23 rfl (lv_at hl 1 rfl) ?_
        refine gc_i (S := (Nat → Int32)) (w1 := (fun u => (wd_A qx cJ cI cZ cB u))) (wc := (wd_A qx cJ cI cZ cB fx)) (wr := ([] : va_W)) (va_runS (As := [.ref qx, .int x1]) (rest := []) ⟨hx, hb, hml, hown, hts⟩ (kt_M_dark l dC dI cJ cI cZ cB qx _ x1 fx _ hw) ⟨callB_of 2 hts (gw_in mw_t532) rfl rfl rfl (hq mw_t3) (hq mw_t530) (by decide +kernel) ⟨Nat.le_of_ble_eq_true rfl, Nat.le_of_ble_eq_true rfl⟩, hq mw_t531⟩ (ps_W (hP.sub (ws' := (wd_A qx cJ cI cZ cB fx)) [0] rfl) hK (hD.sub (ws' := (wd_A qx cJ cI cZ cB fx)) [0] (by decide) rfl) hE) rfl rfl hl.1 rfl (lv_room (Nat.le_of_ble_eq_true rfl)) dc_M_truth_24 ⟨Nat.le_of_ble_eq_true rfl, Nat.le_of_ble_eq_true rfl⟩) hP hD hS hA [0] [] rfl rfl (by decide) (by decide) (fun r24 u H locs hw hP hD hS => ?_)
        obtain ⟨fx24, rfl⟩ : ∃ z, z = u := ⟨_, rfl⟩
        have hP : va_P (dC, dI) cs_3 (wd_A qx cJ cI cZ cB fx24) H := hP.sub (ws' := (wd_A qx cJ cI cZ cB fx24)) [0] rfl
        have hD : va_D A (wd_A qx cJ cI cZ cB fx24) := hD.sub (ws' := (wd_A qx cJ cI cZ cB fx24)) [0] (by decide) rfl
        try dsimp only at hw
        obtain ⟨hw1, hw2⟩ := hw
        refine lv_if_eq (tgt := 34) hx hb dc_M_truth_27 (by decide) (fun hc => ?_) (fun hc => ?_)
        · have hw := hw1 hc
          clear hw1 hw2
          refine lv_iconst (v := 0) hx hb dc_M_truth_34 (by decide) ?_
          exact B_35 _ _ _ (0 : Int32) fx24 hw hP hD hS (lv_sub hl [] rfl)
        · have hw := hw2 hc
          clear hw1 hw2
          refine lv_iconst (v := 3) hx hb dc_M_truth_30 (by decide) ?_
          refine lv_goto (tgt := 35) hx hb dc_M_truth_31 (by decide) ?_
          exact B_35 _ _ _ (3 : Int32) fx24 hw hP hD hS (lv_sub hl [] rfl)
      · have hw := hw2 hc
        clear hw1 hw2
        refine lv_aload_n hx hb dc_M_truth_7 rfl (lv_at hl 0 rfl) ?_
        refine lv_iload_n hx hb dc_M_truth_8 rfl (lv_at hl 2 rfl) ?_
        obtain ⟨hin, hw⟩ := hw
        refine va_bald hx hb hK hP 0 3 rfl rfl hin dc_M_truth_9 ?_
        refine lv_iconst (v := 1) hx hb dc_M_truth_10 (by decide) ?_
        obtain ⟨hw1, hw2⟩ := hw
        refine lv_icmp_ne (tgt := 16) hx hb dc_M_truth_11 (by decide) (fun hc => ?_) (fun hc => ?_)
        · have hw := hw1 hc
          clear hw1 hw2
          refine lv_iinc (lv' := [(2, .int (x2 + 1)), (0, .ref qx), (1, .int x1)]) hx hb dc_M_truth_16 hl (k := 2) rfl (ic_p1 _) (Nat.le_of_ble_eq_true rfl) rfl (fun ls hl => ?_)
          refine lv_goto (tgt := 2) hx hb dc_M_truth_19 (by decide) ?_
          exact ih _ _ _ x1 (x2 + 1) fx hw hP hD hS (lv_sub hl [1, 2, 0] rfl)
        · have hw := hw2 (fun h9 => h9 hc)
          clear hw1 hw2
          refine lv_iconst (v := 1) hx hb dc_M_truth_14 (by decide) ?_
          exact W.iret (v := (1 : Int32)) hx hb hr (fun t ht hW => ⟨⟨(1 : Int32), (fx), rfl, hw, by rw [ht]; exact hP, va_K.moved hW.alike hK, hD⟩, hS.F ht⟩) hS.2.2 dc_M_truth_15
  unfold wp_M_truth at hw
  refine lv_iconst (v := 0) hx hb dc_M_truth_0 (by decide) ?_
  refine lv_istore_n (lv' := [(2, .int (0 : Int32)), (0, .ref qx), (1, .int a1)]) hx hb dc_M_truth_1 rfl hl (Nat.le_of_ble_eq_true rfl) rfl (fun ls hl => ?_)
  obtain ⟨n2, hw⟩ := hw
  exact B_2 n2 _ _ _ a1 (0 : Int32) fx hw hP hD hS (lv_sub hl [1, 2, 0] rfl)
set_option maxHeartbeats 4000000 in
set_option maxRecDepth 100000 in
theorem kt_M_negate (l : Launch) (dC : Nat → ClassId) (dI : Nat → Nat → Nat) (cJ cI cZ cB : ClassId) (qx : Nat) (sz : Nat) (a1 : Int32) (fx : (Nat → Int32)) (post : (Nat → Int32) → Prop) (hw : wp_M_negate post a1 fx) : Met l yn_M_negate ws_M_negate rm_M_negate (va_Pc [.ref qx, .int a1] (pc_W (dC, dI) (ty_4 cJ cI cZ cB) (wd_A qx cJ cI cZ cB fx) sz)) (qv_A dC dI cJ cI cZ cB qx post (va_A (wd_A qx cJ cI cZ cB fx) sz)) 0 0 (va_A (wd_A qx cJ cI cZ cB fx) sz) := by
  refine Met.ofW (cc := cd_M_negate) (maxL := 5) (ret := none) (by decide) rfl ?_
  intro p e s m args below meth c s₁ B hml hv
  obtain ⟨rfl, hsz, hP, hK, hD0, hE⟩ := hv
  have hx := B.exec
  have hb := B.bytes
  have hr := B.returns
  have hts := atoms_spec (ws := ws_M_negate) B.pre
  have hq : ∀ {w : Cond}, w ∈ wg_all → w.before ([.ref qx, .int a1] : List Value).toArray s = true := fun h => hts _ (List.mem_cons_of_mem _ h)
  have hu : ∀ L : List Cond, (∀ w ∈ L, w ∈ wg_all) → ∀ w ∈ L, w ∈ ws_M_negate := fun L h w hw => List.mem_cons_of_mem _ (h w hw)
  have hown : s.vm.findClass "FourWordsModel" = some m.cls := findClass_of_methodNamed B.named
  have hlocks := B.notSynchronized
  subst hsz
  have hD := hD0.self (sz := s.heap.size)
  generalize hAe : va_A (wd_A qx cJ cI cZ cB fx) s.heap.size = A at hD ⊢
  have hA : ∀ q : Nat, s.heap.size ≤ q → A q := fun q h => by rw [← hAe]; exact Or.inr h
  have hS : va_S A s.heap s.heap [] := va_S.rf
  have hl := lv_entry [.ref qx, .int a1] (n := 5) (Nat.le_of_ble_eq_true rfl)
  rw [lg_entry_eq]
  generalize (lg_sl [.ref qx, .int a1] ++ List.replicate (5 - (lg_sl [.ref qx, .int a1]).length) Slot.unset).toArray = ls at hl ⊢
  have hl : lv_has ls 5 [(0, .ref qx), (1, .int a1)] := hl
  have B_4 : ∀ (n4 : Nat) (H : Heap) (locs : List Loc) (ls : Array Slot) (x1 : Int32) (x2 : Int32) (x3 : Int32) (fx : (Nat → Int32)), wp_M_negate_4 post n4 x1 x2 x3 fx → va_P (dC, dI) cs_3 (wd_A qx cJ cI cZ cB fx) H → va_D A (wd_A qx cJ cI cZ cB fx) → va_S A s.heap H locs → lv_has ls 5 [(0, .ref qx), (1, .int x1), (2, .int x2), (3, .int x3)] → W p l e (headSpec ws_M_negate rm_M_negate).room s m ([.ref qx, .int a1] : List Value).toArray below meth c H locs 0 0 (MQ below (qv_A dC dI cJ cI cZ cB qx post A) ([.ref qx, .int a1] : List Value).toArray s 0 0 A) (F0 m 4 ls []) := by
    intro n4
    induction n4 with
    | zero => intro H locs ls x1 x2 x3 fx hw; exact False.elim hw
    | succ n4 ih =>
      intro H locs ls x1 x2 x3 fx hw hP hD hS hl
      unfold wp_M_negate_4 at hw
      refine lv_iload_n hx hb dc_M_negate_4 rfl (lv_at hl 3 rfl) ?_
      refine lv_iload_n hx hb dc_M_negate_5 rfl (lv_at hl 1 rfl) ?_
      obtain ⟨hw1, hw2⟩ := hw
      refine lv_icmp_ge (tgt := 37) hx hb dc_M_negate_6 (by decide) (fun hc => ?_) (fun hc => ?_)
      · have hw := hw1 hc
        clear hw1 hw2
        exact W.vret hx hb hr (fun t ht hW => ⟨⟨(fx), rfl, hw, by rw [ht]; exact hP, va_K.moved hW.alike hK, hD⟩, hS.F ht⟩) hS.2.2 dc_M_negate_37
      · have hw := hw2 hc
        clear hw1 hw2
        refine lv_iconst (v := 1) hx hb dc_M_negate_9 (by decide) ?_
        refine lv_aload_n hx hb dc_M_negate_10 rfl (lv_at hl 0 rfl) ?_
        refine lv_iload_n hx hb dc_M_negate_11 rfl (lv_at hl 3 rfl) ?_
        obtain ⟨hin, hw⟩ := hw
        refine va_bald hx hb hK hP 0 3 rfl rfl hin dc_M_negate_12 ?_
        refine lv_isub hx hb dc_M_negate_13 ?_
        refine lv_iload_n hx hb dc_M_negate_14 rfl (lv_at hl 2 rfl) ?_
        refine lv_iadd hx hb dc_M_negate_15 ?_
        refine lv_topi (fun v16 e16 => ?_)
        have hw := hw v16 e16
        refine lv_istore (lv' := [(4, .int v16), (0, .ref qx), (1, .int x1), (2, .int x2), (3, .int x3)]) hx hb dc_M_negate_16 hl (Nat.le_of_ble_eq_true rfl) rfl (fun ls hl => ?_)
        refine lv_aload_n hx hb dc_M_negate_18 rfl (lv_at hl 1 rfl) ?_
        refine lv_iload_n hx hb dc_M_negate_19 rfl (lv_at hl 4 rfl) ?_
        refine lv_iload hx hb dc_M_negate_20 (lv_at hl 0 rfl) ?_
        refine lv_iconst (v := 1) hx hb dc_M_negate_22 (by decide) ?_
        refine lv_iand hx hb dc_M_negate_23 ?_
        refine lv_i2b hx hb dc_M_negate_24 rfl ?_
        obtain ⟨hin, hw⟩ := hw
        refine va_bast hx hb hK hP hD hS 0 3 rfl rfl hin dc_M_negate_25 (fun H locs hP hD hS => ?_)
        have hP : va_P (dC, dI) cs_3 (wd_A qx cJ cI cZ cB (upd fx x3.toNatClampNeg (vp_nar .byte ((v16 &&& (1 : Int32)).toInt8.toInt32)))) H := hP
        have hD : va_D A (wd_A qx cJ cI cZ cB (upd fx x3.toNatClampNeg (vp_nar .byte ((v16 &&& (1 : Int32)).toInt8.toInt32)))) := hD
        refine lv_iload hx hb dc_M_negate_26 (lv_at hl 0 rfl) ?_
        refine lv_iconst (v := 1) hx hb dc_M_negate_28 (by decide) ?_
        refine lv_ishr hx hb dc_M_negate_29 ?_
        refine lv_topi (fun v30 e30 => ?_)
        have hw := hw v30 e30
        refine lv_istore_n (lv' := [(2, .int v30), (4, .int v16), (0, .ref qx), (1, .int x1), (3, .int x3)]) hx hb dc_M_negate_30 rfl hl (Nat.le_of_ble_eq_true rfl) rfl (fun ls hl => ?_)
        refine lv_iinc (lv' := [(3, .int (x3 + 1)), (2, .int v30), (4, .int v16), (0, .ref qx), (1, .int x1)]) hx hb dc_M_negate_31 hl (k := 4) rfl (ic_p1 _) (Nat.le_of_ble_eq_true rfl) rfl (fun ls hl => ?_)
        refine lv_goto (tgt := 4) hx hb dc_M_negate_34 (by decide) ?_
        exact ih _ _ _ x1 v30 (x3 + 1) (upd fx x3.toNatClampNeg (vp_nar .byte ((v16 &&& (1 : Int32)).toInt8.toInt32))) hw hP hD hS (lv_sub hl [3, 4, 1, 0] rfl)
  unfold wp_M_negate at hw
  refine lv_iconst (v := 1) hx hb dc_M_negate_0 (by decide) ?_
  refine lv_istore_n (lv' := [(2, .int (1 : Int32)), (0, .ref qx), (1, .int a1)]) hx hb dc_M_negate_1 rfl hl (Nat.le_of_ble_eq_true rfl) rfl (fun ls hl => ?_)
  refine lv_iconst (v := 0) hx hb dc_M_negate_2 (by decide) ?_
  refine lv_istore_n (lv' := [(3, .int (0 : Int32)), (2, .int (1 : Int32)), (0, .ref qx), (1, .int a1)]) hx hb dc_M_negate_3 rfl hl (Nat.le_of_ble_eq_true rfl) rfl (fun ls hl => ?_)
  obtain ⟨n4, hw⟩ := hw
  exact B_4 n4 _ _ _ a1 (1 : Int32) (0 : Int32) fx hw hP hD hS (lv_sub hl [2, 3, 1, 0] rfl)
set_option maxHeartbeats 4000000 in
set_option maxRecDepth 100000 in
theorem kt_M_isZero (l : Launch) (dC : Nat → ClassId) (dI : Nat → Nat → Nat) (cJ cI cZ cB : ClassId) (qx : Nat) (sz : Nat) (a1 : Int32) (fx : (Nat → Int32)) (post : Int32 → (Nat → Int32) → Prop) (hw : wp_M_isZero post a1 fx) : Met l yn_M_isZero ws_M_isZero rm_M_isZero (va_Pc [.ref qx, .int a1] (pc_W (dC, dI) (ty_4 cJ cI cZ cB) (wd_A qx cJ cI cZ cB fx) sz)) (qi_A dC dI cJ cI cZ cB qx post (va_A (wd_A qx cJ cI cZ cB fx) sz)) 0 0 (va_A (wd_A qx cJ cI cZ cB fx) sz) := by
  refine Met.ofW (cc := cd_M_isZero) (maxL := 3) (ret := (some .boolean)) (by decide) rfl ?_
  intro p e s m args below meth c s₁ B hml hv
  obtain ⟨rfl, hsz, hP, hK, hD0, hE⟩ := hv
  have hx := B.exec
  have hb := B.bytes
  have hr := B.returns
  have hts := atoms_spec (ws := ws_M_isZero) B.pre
  have hq : ∀ {w : Cond}, w ∈ wg_all → w.before ([.ref qx, .int a1] : List Value).toArray s = true := fun h => hts _ (List.mem_cons_of_mem _ h)
  have hu : ∀ L : List Cond, (∀ w ∈ L, w ∈ wg_all) → ∀ w ∈ L, w ∈ ws_M_isZero := fun L h w hw => List.mem_cons_of_mem _ (h w hw)
  have hown : s.vm.findClass "FourWordsModel" = some m.cls := findClass_of_methodNamed B.named
  have hlocks := B.notSynchronized
  subst hsz
  have hD := hD0.self (sz := s.heap.size)
  generalize hAe : va_A (wd_A qx cJ cI cZ cB fx) s.heap.size = A at hD ⊢
  have hA : ∀ q : Nat, s.heap.size ≤ q → A q := fun q h => by rw [← hAe]; exact Or.inr h
  have hS : va_S A s.heap s.heap [] := va_S.rf
  have hl := lv_entry [.ref qx, .int a1] (n := 3) (Nat.le_of_ble_eq_true rfl)
  rw [lg_entry_eq]
  generalize (lg_sl [.ref qx, .int a1] ++ List.replicate (3 - (lg_sl [.ref qx, .int a1]).length) Slot.unset).toArray = ls at hl ⊢
  have hl : lv_has ls 3 [(0, .ref qx), (1, .int a1)] := hl
  have B_2 : ∀ (n2 : Nat) (H : Heap) (locs : List Loc) (ls : Array Slot) (x1 : Int32) (x2 : Int32) (fx : (Nat → Int32)), wp_M_isZero_2 post n2 x1 x2 fx → va_P (dC, dI) cs_3 (wd_A qx cJ cI cZ cB fx) H → va_D A (wd_A qx cJ cI cZ cB fx) → va_S A s.heap H locs → lv_has ls 3 [(0, .ref qx), (1, .int x1), (2, .int x2)] → W p l e (headSpec ws_M_isZero rm_M_isZero).room s m ([.ref qx, .int a1] : List Value).toArray below meth c H locs 0 0 (MQ below (qi_A dC dI cJ cI cZ cB qx post A) ([.ref qx, .int a1] : List Value).toArray s 0 0 A) (F0 m 2 ls []) := by
    intro n2
    induction n2 with
    | zero => intro H locs ls x1 x2 fx hw; exact False.elim hw
    | succ n2 ih =>
      intro H locs ls x1 x2 fx hw hP hD hS hl
      unfold wp_M_isZero_2 at hw
      refine lv_iload_n hx hb dc_M_isZero_2 rfl (lv_at hl 2 rfl) ?_
      refine lv_iload_n hx hb dc_M_isZero_3 rfl (lv_at hl 1 rfl) ?_
      obtain ⟨hw1, hw2⟩ := hw
      refine lv_icmp_ge (tgt := 21) hx hb dc_M_isZero_4 (by decide) (fun hc => ?_) (fun hc => ?_)
      · have hw := hw1 hc
        clear hw1 hw2
        refine lv_iconst (v := 1) hx hb dc_M_isZero_21 (by decide) ?_
        obtain ⟨hnw, hw⟩ := hw
        exact W.zret (v := (1 : Int32)) hx hb hr hnw (fun t ht hW => ⟨⟨(1 : Int32), (fx), rfl, hw, by rw [ht]; exact hP, va_K.moved hW.alike hK, hD⟩, hS.F ht⟩) hS.2.2 dc_M_isZero_22
      · have hw := hw2 hc
        clear hw1 hw2
        refine lv_aload_n hx hb dc_M_isZero_7 rfl (lv_at hl 0 rfl) ?_
        refine lv_iload_n hx hb dc_M_isZero_8 rfl (lv_at hl 2 rfl) ?_
        obtain ⟨hin, hw⟩ := hw
        refine va_bald hx hb hK hP 0 3 rfl rfl hin dc_M_isZero_9 ?_
        obtain ⟨hw1, hw2⟩ := hw
        refine lv_if_eq (tgt := 15) hx hb dc_M_isZero_10 (by decide) (fun hc => ?_) (fun hc => ?_)
        · have hw := hw1 hc
          clear hw1 hw2
          refine lv_iinc (lv' := [(2, .int (x2 + 1)), (0, .ref qx), (1, .int x1)]) hx hb dc_M_isZero_15 hl (k := 2) rfl (ic_p1 _) (Nat.le_of_ble_eq_true rfl) rfl (fun ls hl => ?_)
          refine lv_goto (tgt := 2) hx hb dc_M_isZero_18 (by decide) ?_
          exact ih _ _ _ x1 (x2 + 1) fx hw hP hD hS (lv_sub hl [1, 2, 0] rfl)
        · have hw := hw2 hc
          clear hw1 hw2
          refine lv_iconst (v := 0) hx hb dc_M_isZero_13 (by decide) ?_
          obtain ⟨hnw, hw⟩ := hw
          exact W.zret (v := (0 : Int32)) hx hb hr hnw (fun t ht hW => ⟨⟨(0 : Int32), (fx), rfl, hw, by rw [ht]; exact hP, va_K.moved hW.alike hK, hD⟩, hS.F ht⟩) hS.2.2 dc_M_isZero_14
  unfold wp_M_isZero at hw
  refine lv_iconst (v := 0) hx hb dc_M_isZero_0 (by decide) ?_
  refine lv_istore_n (lv' := [(2, .int (0 : Int32)), (0, .ref qx), (1, .int a1)]) hx hb dc_M_isZero_1 rfl hl (Nat.le_of_ble_eq_true rfl) rfl (fun ls hl => ?_)
  obtain ⟨n2, hw⟩ := hw
  exact B_2 n2 _ _ _ a1 (0 : Int32) fx hw hP hD hS (lv_sub hl [1, 2, 0] rfl)
set_option maxHeartbeats 4000000 in
set_option maxRecDepth 100000 in
theorem kt_M_add (l : Launch) (dC : Nat → ClassId) (dI : Nat → Nat → Nat) (cJ cI cZ cB : ClassId) (qx qy qz : Nat) (sz : Nat) (a3 : Int32) (a4 : Int32) (fx : (Nat → Int32)) (fy : (Nat → Int32)) (fz : (Nat → Int32)) (post : (Nat → Int32) → (Nat → Int32) → (Nat → Int32) → Prop) (hw : wp_M_add post a3 a4 fx fy fz) : Met l yn_M_add ws_M_add rm_M_add (va_Pc [.ref qx, .ref qy, .ref qz, .int a3, .int a4] (pc_W (dC, dI) (ty_4 cJ cI cZ cB) (wd_T qx qy qz cJ cI cZ cB fx fy fz) sz)) (qv_T dC dI cJ cI cZ cB qx qy qz post (va_A (wd_T qx qy qz cJ cI cZ cB fx fy fz) sz)) 0 0 (va_A (wd_T qx qy qz cJ cI cZ cB fx fy fz) sz) := by
  refine Met.ofW (cc := cd_M_add) (maxL := 8) (ret := none) (by decide) rfl ?_
  intro p e s m args below meth c s₁ B hml hv
  obtain ⟨rfl, hsz, hP, hK, hD0, hE⟩ := hv
  have hx := B.exec
  have hb := B.bytes
  have hr := B.returns
  have hts := atoms_spec (ws := ws_M_add) B.pre
  have hq : ∀ {w : Cond}, w ∈ wg_all → w.before ([.ref qx, .ref qy, .ref qz, .int a3, .int a4] : List Value).toArray s = true := fun h => hts _ (List.mem_cons_of_mem _ h)
  have hu : ∀ L : List Cond, (∀ w ∈ L, w ∈ wg_all) → ∀ w ∈ L, w ∈ ws_M_add := fun L h w hw => List.mem_cons_of_mem _ (h w hw)
  have hown : s.vm.findClass "FourWordsModel" = some m.cls := findClass_of_methodNamed B.named
  have hlocks := B.notSynchronized
  subst hsz
  have hD := hD0.self (sz := s.heap.size)
  generalize hAe : va_A (wd_T qx qy qz cJ cI cZ cB fx fy fz) s.heap.size = A at hD ⊢
  have hA : ∀ q : Nat, s.heap.size ≤ q → A q := fun q h => by rw [← hAe]; exact Or.inr h
  have hS : va_S A s.heap s.heap [] := va_S.rf
  have hl := lv_entry [.ref qx, .ref qy, .ref qz, .int a3, .int a4] (n := 8) (Nat.le_of_ble_eq_true rfl)
  rw [lg_entry_eq]
  generalize (lg_sl [.ref qx, .ref qy, .ref qz, .int a3, .int a4] ++ List.replicate (8 - (lg_sl [.ref qx, .ref qy, .ref qz, .int a3, .int a4]).length) Slot.unset).toArray = ls at hl ⊢
  have hl : lv_has ls 8 [(0, .ref qx), (1, .ref qy), (2, .ref qz), (3, .int a3), (4, .int a4)] := hl
  have B_7 : ∀ (n7 : Nat) (H : Heap) (locs : List Loc) (ls : Array Slot) (x3 : Int32) (x5 : Int32) (x6 : Int32) (fx : (Nat → Int32)) (fy : (Nat → Int32)) (fz : (Nat → Int32)), wp_M_add_7 post n7 x3 x5 x6 fx fy fz → va_P (dC, dI) cs_3 (wd_T qx qy qz cJ cI cZ cB fx fy fz) H → va_D A (wd_T qx qy qz cJ cI cZ cB fx fy fz) → va_S A s.heap H locs → lv_has ls 8 [(0, .ref qx), (1, .ref qy), (2, .ref qz), (3, .int x3), (5, .int x5), (6, .int x6)] → W p l e (headSpec ws_M_add rm_M_add).room s m ([.ref qx, .ref qy, .ref qz, .int a3, .int a4] : List Value).toArray below meth c H locs 0 0 (MQ below (qv_T dC dI cJ cI cZ cB qx qy qz post A) ([.ref qx, .ref qy, .ref qz, .int a3, .int a4] : List Value).toArray s 0 0 A) (F0 m 7 ls []) := by
    intro n7
    induction n7 with
    | zero => intro H locs ls x3 x5 x6 fx fy fz hw; exact False.elim hw
    | succ n7 ih =>
      intro H locs ls x3 x5 x6 fx fy fz hw hP hD hS hl
      unfold wp_M_add_7 at hw
      refine lv_iload hx hb dc_M_add_7 (lv_at hl 5 rfl) ?_
      refine lv_iload_n hx hb dc_M_add_9 rfl (lv_at hl 3 rfl) ?_
      obtain ⟨hw1, hw2⟩ := hw
      refine lv_icmp_ge (tgt := 48) hx hb dc_M_add_10 (by decide) (fun hc => ?_) (fun hc => ?_)
      · have hw := hw1 hc
        clear hw1 hw2
        exact W.vret hx hb hr (fun t ht hW => ⟨⟨(fx, fy, fz), rfl, hw, by rw [ht]; exact hP, va_K.moved hW.alike hK, hD⟩, hS.F ht⟩) hS.2.2 dc_M_add_48
      · have hw := hw2 hc
        clear hw1 hw2
        refine lv_aload_n hx hb dc_M_add_13 rfl (lv_at hl 0 rfl) ?_
        refine lv_iload hx hb dc_M_add_14 (lv_at hl 5 rfl) ?_
        obtain ⟨hin, hw⟩ := hw
        refine va_bald hx hb hK hP 0 3 rfl rfl hin dc_M_add_16 ?_
        refine lv_aload_n hx hb dc_M_add_17 rfl (lv_at hl 1 rfl) ?_
        refine lv_iload hx hb dc_M_add_18 (lv_at hl 5 rfl) ?_
        obtain ⟨hin, hw⟩ := hw
        refine va_bald hx hb hK hP 1 3 rfl rfl hin dc_M_add_20 ?_
        refine lv_iadd hx hb dc_M_add_21 ?_
        refine lv_iload hx hb dc_M_add_22 (lv_at hl 4 rfl) ?_
        refine lv_iadd hx hb dc_M_add_24 ?_
        refine lv_topi (fun v25 e25 => ?_)
        have hw := hw v25 e25
        refine lv_istore (lv' := [(7, .int v25), (0, .ref qx), (1, .ref qy), (2, .ref qz), (3, .int x3), (5, .int x5), (6, .int x6)]) hx hb dc_M_add_25 hl (Nat.le_of_ble_eq_true rfl) rfl (fun ls hl => ?_)
        refine lv_aload_n hx hb dc_M_add_27 rfl (lv_at hl 3 rfl) ?_
        refine lv_iload hx hb dc_M_add_28 (lv_at hl 6 rfl) ?_
        refine lv_iload hx hb dc_M_add_30 (lv_at hl 0 rfl) ?_
        refine lv_iconst (v := 1) hx hb dc_M_add_32 (by decide) ?_
        refine lv_iand hx hb dc_M_add_33 ?_
        refine lv_i2b hx hb dc_M_add_34 rfl ?_
        obtain ⟨hin, hw⟩ := hw
        refine va_bast hx hb hK hP hD hS 2 3 rfl rfl hin dc_M_add_35 (fun H locs hP hD hS => ?_)
        have hP : va_P (dC, dI) cs_3 (wd_T qx qy qz cJ cI cZ cB fx fy (upd fz x6.toNatClampNeg (vp_nar .byte ((v25 &&& (1 : Int32)).toInt8.toInt32)))) H := hP
        have hD : va_D A (wd_T qx qy qz cJ cI cZ cB fx fy (upd fz x6.toNatClampNeg (vp_nar .byte ((v25 &&& (1 : Int32)).toInt8.toInt32)))) := hD
        refine lv_iload hx hb dc_M_add_36 (lv_at hl 0 rfl) ?_
        refine lv_iconst (v := 1) hx hb dc_M_add_38 (by decide) ?_
        refine lv_ishr hx hb dc_M_add_39 ?_
        refine lv_topi (fun v40 e40 => ?_)
        have hw := hw v40 e40
        refine lv_istore (lv' := [(5, .int v40), (7, .int v25), (0, .ref qx), (1, .ref qy), (2, .ref qz), (3, .int x3), (6, .int x6)]) hx hb dc_M_add_40 hl (Nat.le_of_ble_eq_true rfl) rfl (fun ls hl => ?_)
        refine lv_iinc (lv' := [(6, .int (x6 + 1)), (5, .int v40), (7, .int v25), (0, .ref qx), (1, .ref qy), (2, .ref qz), (3, .int x3)]) hx hb dc_M_add_42 hl (k := 6) rfl (ic_p1 _) (Nat.le_of_ble_eq_true rfl) rfl (fun ls hl => ?_)
        refine lv_goto (tgt := 7) hx hb dc_M_add_45 (by decide) ?_
        exact ih _ _ _ x3 v40 (x6 + 1) fx fy (upd fz x6.toNatClampNeg (vp_nar .byte ((v25 &&& (1 : Int32)).toInt8.toInt32))) hw hP hD hS (lv_sub hl [3, 4, 5, 6, 1, 0] rfl)
  unfold wp_M_add at hw
  refine lv_iload hx hb dc_M_add_0 (lv_at hl 4 rfl) ?_
  refine lv_istore (lv' := [(5, .int a4), (0, .ref qx), (1, .ref qy), (2, .ref qz), (3, .int a3), (4, .int a4)]) hx hb dc_M_add_2 hl (Nat.le_of_ble_eq_true rfl) rfl (fun ls hl => ?_)
  refine lv_iconst (v := 0) hx hb dc_M_add_4 (by decide) ?_
  refine lv_istore (lv' := [(6, .int (0 : Int32)), (5, .int a4), (0, .ref qx), (1, .ref qy), (2, .ref qz), (3, .int a3), (4, .int a4)]) hx hb dc_M_add_5 hl (Nat.le_of_ble_eq_true rfl) rfl (fun ls hl => ?_)
  obtain ⟨n7, hw⟩ := hw
  exact B_7 n7 _ _ _ a3 a4 (0 : Int32) fx fy fz hw hP hD hS (lv_sub hl [2, 3, 4, 5, 1, 0] rfl)
set_option maxHeartbeats 4000000 in
set_option maxRecDepth 100000 in
theorem kt_M_opposite (l : Launch) (dC : Nat → ClassId) (dI : Nat → Nat → Nat) (cJ cI cZ cB : ClassId) (sz : Nat) (a0 : Int32) (post : Int32 → Prop) (hw : wp_M_opposite post a0) : Met l yn_M_opposite ws_M_opposite rm_M_opposite (va_Pc [.int a0] (pc_W (dC, dI) (ty_4 cJ cI cZ cB) ([] : va_W) sz)) (qi_0 dC dI cJ cI cZ cB post (va_A ([] : va_W) sz)) 0 0 (va_A ([] : va_W) sz) := by
  refine Met.ofW (cc := cd_M_opposite) (maxL := 1) (ret := (some .int)) (by decide) rfl ?_
  intro p e s m args below meth c s₁ B hml hv
  obtain ⟨rfl, hsz, hP, hK, hD0, hE⟩ := hv
  have hx := B.exec
  have hb := B.bytes
  have hr := B.returns
  have hts := atoms_spec (ws := ws_M_opposite) B.pre
  have hq : ∀ {w : Cond}, w ∈ wg_all → w.before ([.int a0] : List Value).toArray s = true := fun h => hts _ (List.mem_cons_of_mem _ h)
  have hu : ∀ L : List Cond, (∀ w ∈ L, w ∈ wg_all) → ∀ w ∈ L, w ∈ ws_M_opposite := fun L h w hw => List.mem_cons_of_mem _ (h w hw)
  have hown : s.vm.findClass "FourWordsModel" = some m.cls := findClass_of_methodNamed B.named
  have hlocks := B.notSynchronized
  subst hsz
  have hD := hD0.self (sz := s.heap.size)
  generalize hAe : va_A ([] : va_W) s.heap.size = A at hD ⊢
  have hA : ∀ q : Nat, s.heap.size ≤ q → A q := fun q h => by rw [← hAe]; exact Or.inr h
  have hS : va_S A s.heap s.heap [] := va_S.rf
  have hl := lv_entry [.int a0] (n := 1) (Nat.le_of_ble_eq_true rfl)
  rw [lg_entry_eq]
  generalize (lg_sl [.int a0] ++ List.replicate (1 - (lg_sl [.int a0]).length) Slot.unset).toArray = ls at hl ⊢
  have hl : lv_has ls 1 [(0, .int a0)] := hl
  have B_12 : ∀ (H : Heap) (locs : List Loc) (ls : Array Slot) (t0 : Int32), wp_M_opposite_12 post t0 → va_P (dC, dI) cs_3 ([] : va_W) H → va_D A ([] : va_W) → va_S A s.heap H locs → lv_has ls 1 [] → W p l e (headSpec ws_M_opposite rm_M_opposite).room s m ([.int a0] : List Value).toArray below meth c H locs 0 0 (MQ below (qi_0 dC dI cJ cI cZ cB post A) ([.int a0] : List Value).toArray s 0 0 A) (F0 m 12 ls [.int t0]) := by
    intro H locs ls t0 hw hP hD hS hl
    unfold wp_M_opposite_12 at hw
    exact W.iret (v := t0) hx hb hr (fun t ht hW => ⟨⟨t0, (), rfl, hw, by rw [ht]; exact hP, va_K.moved hW.alike hK, hD⟩, hS.F ht⟩) hS.2.2 dc_M_opposite_12
  unfold wp_M_opposite at hw
  refine lv_iload_n hx hb dc_M_opposite_0 rfl (lv_at hl 0 rfl) ?_
  refine lv_iconst (v := 1) hx hb dc_M_opposite_1 (by decide) ?_
  obtain ⟨hw1, hw2⟩ := hw
  refine lv_icmp_le (tgt := 9) hx hb dc_M_opposite_2 (by decide) (fun hc => ?_) (fun hc => ?_)
  · have hw := hw1 hc
    clear hw1 hw2
    refine lv_iconst (v := 1) hx hb dc_M_opposite_9 (by decide) ?_
    refine lv_iload_n hx hb dc_M_opposite_10 rfl (lv_at hl 0 rfl) ?_
    refine lv_isub hx hb dc_M_opposite_11 ?_
    exact B_12 _ _ _ ((1 : Int32) - a0) hw hP hD hS (lv_sub hl [] rfl)
  · have hw := hw2 hc
    clear hw1 hw2
    refine lv_iconst (v := 3) hx hb dc_M_opposite_5 (by decide) ?_
    refine lv_goto (tgt := 12) hx hb dc_M_opposite_6 (by decide) ?_
    exact B_12 _ _ _ (3 : Int32) hw hP hD hS (lv_sub hl [] rfl)
set_option maxHeartbeats 4000000 in
set_option maxRecDepth 100000 in
theorem kt_M_logic (l : Launch) (dC : Nat → ClassId) (dI : Nat → Nat → Nat) (cJ cI cZ cB : ClassId) (sz : Nat) (a0 : Int32) (a1 : Int32) (a2 : Int32) (post : Int32 → Prop) (hw : wp_M_logic post a0 a1 a2) : Met l yn_M_logic ws_M_logic rm_M_logic (va_Pc [.int a0, .int a1, .int a2] (pc_W (dC, dI) (ty_4 cJ cI cZ cB) ([] : va_W) sz)) (qi_0 dC dI cJ cI cZ cB post (va_A ([] : va_W) sz)) 0 0 (va_A ([] : va_W) sz) := by
  refine Met.ofW (cc := cd_M_logic) (maxL := 4) (ret := (some .int)) (by decide) rfl ?_
  intro p e s m args below meth c s₁ B hml hv
  obtain ⟨rfl, hsz, hP, hK, hD0, hE⟩ := hv
  have hx := B.exec
  have hb := B.bytes
  have hr := B.returns
  have hts := atoms_spec (ws := ws_M_logic) B.pre
  have hq : ∀ {w : Cond}, w ∈ wg_all → w.before ([.int a0, .int a1, .int a2] : List Value).toArray s = true := fun h => hts _ (List.mem_cons_of_mem _ h)
  have hu : ∀ L : List Cond, (∀ w ∈ L, w ∈ wg_all) → ∀ w ∈ L, w ∈ ws_M_logic := fun L h w hw => List.mem_cons_of_mem _ (h w hw)
  have hown : s.vm.findClass "FourWordsModel" = some m.cls := findClass_of_methodNamed B.named
  have hlocks := B.notSynchronized
  subst hsz
  have hD := hD0.self (sz := s.heap.size)
  generalize hAe : va_A ([] : va_W) s.heap.size = A at hD ⊢
  have hA : ∀ q : Nat, s.heap.size ≤ q → A q := fun q h => by rw [← hAe]; exact Or.inr h
  have hS : va_S A s.heap s.heap [] := va_S.rf
  have hl := lv_entry [.int a0, .int a1, .int a2] (n := 4) (Nat.le_of_ble_eq_true rfl)
  rw [lg_entry_eq]
  generalize (lg_sl [.int a0, .int a1, .int a2] ++ List.replicate (4 - (lg_sl [.int a0, .int a1, .int a2]).length) Slot.unset).toArray = ls at hl ⊢
  have hl : lv_has ls 4 [(0, .int a0), (1, .int a1), (2, .int a2)] := hl
  have B_98 : ∀ (H : Heap) (locs : List Loc) (ls : Array Slot) (t0 : Int32), wp_M_logic_98 post t0 → va_P (dC, dI) cs_3 ([] : va_W) H → va_D A ([] : va_W) → va_S A s.heap H locs → lv_has ls 4 [] → W p l e (headSpec ws_M_logic rm_M_logic).room s m ([.int a0, .int a1, .int a2] : List Value).toArray below meth c H locs 0 0 (MQ below (qi_0 dC dI cJ cI cZ cB post A) ([.int a0, .int a1, .int a2] : List Value).toArray s 0 0 A) (F0 m 98 ls [.int t0]) := by
    intro H locs ls t0 hw hP hD hS hl
    unfold wp_M_logic_98 at hw
    exact W.iret (v := t0) hx hb hr (fun t ht hW => ⟨⟨t0, (), rfl, hw, by rw [ht]; exact hP, va_K.moved hW.alike hK, hD⟩, hS.F ht⟩) hS.2.2 dc_M_logic_98
  have B_72 : ∀ (H : Heap) (locs : List Loc) (ls : Array Slot) (t0 : Int32), wp_M_logic_72 post t0 → va_P (dC, dI) cs_3 ([] : va_W) H → va_D A ([] : va_W) → va_S A s.heap H locs → lv_has ls 4 [] → W p l e (headSpec ws_M_logic rm_M_logic).room s m ([.int a0, .int a1, .int a2] : List Value).toArray below meth c H locs 0 0 (MQ below (qi_0 dC dI cJ cI cZ cB post A) ([.int a0, .int a1, .int a2] : List Value).toArray s 0 0 A) (F0 m 72 ls [.int t0]) := by
    intro H locs ls t0 hw hP hD hS hl
    unfold wp_M_logic_72 at hw
    exact W.iret (v := t0) hx hb hr (fun t ht hW => ⟨⟨t0, (), rfl, hw, by rw [ht]; exact hP, va_K.moved hW.alike hK, hD⟩, hS.F ht⟩) hS.2.2 dc_M_logic_72
  have B_59 : ∀ (H : Heap) (locs : List Loc) (ls : Array Slot), wp_M_logic_59 post  → va_P (dC, dI) cs_3 ([] : va_W) H → va_D A ([] : va_W) → va_S A s.heap H locs → lv_has ls 4 [] → W p l e (headSpec ws_M_logic rm_M_logic).room s m ([.int a0, .int a1, .int a2] : List Value).toArray below meth c H locs 0 0 (MQ below (qi_0 dC dI cJ cI cZ cB post A) ([.int a0, .int a1, .int a2] : List Value).toArray s 0 0 A) (F0 m 59 ls []) := by
    intro H locs ls  hw hP hD hS hl
    unfold wp_M_logic_59 at hw
    refine lv_iconst (v := 1) hx hb dc_M_logic_59 (by decide) ?_
    refine lv_goto (tgt := 72) hx hb dc_M_logic_60 (by decide) ?_
    exact B_72 _ _ _ (1 : Int32) hw hP hD hS (lv_sub hl [] rfl)
  have B_42 : ∀ (H : Heap) (locs : List Loc) (ls : Array Slot) (t0 : Int32), wp_M_logic_42 post t0 → va_P (dC, dI) cs_3 ([] : va_W) H → va_D A ([] : va_W) → va_S A s.heap H locs → lv_has ls 4 [] → W p l e (headSpec ws_M_logic rm_M_logic).room s m ([.int a0, .int a1, .int a2] : List Value).toArray below meth c H locs 0 0 (MQ below (qi_0 dC dI cJ cI cZ cB post A) ([.int a0, .int a1, .int a2] : List Value).toArray s 0 0 A) (F0 m 42 ls [.int t0]) := by
    intro H locs ls t0 hw hP hD hS hl
    unfold wp_M_logic_42 at hw
    exact W.iret (v := t0) hx hb hr (fun t ht hW => ⟨⟨t0, (), rfl, hw, by rw [ht]; exact hP, va_K.moved hW.alike hK, hD⟩, hS.F ht⟩) hS.2.2 dc_M_logic_42
  have B_29 : ∀ (H : Heap) (locs : List Loc) (ls : Array Slot), wp_M_logic_29 post  → va_P (dC, dI) cs_3 ([] : va_W) H → va_D A ([] : va_W) → va_S A s.heap H locs → lv_has ls 4 [] → W p l e (headSpec ws_M_logic rm_M_logic).room s m ([.int a0, .int a1, .int a2] : List Value).toArray below meth c H locs 0 0 (MQ below (qi_0 dC dI cJ cI cZ cB post A) ([.int a0, .int a1, .int a2] : List Value).toArray s 0 0 A) (F0 m 29 ls []) := by
    intro H locs ls  hw hP hD hS hl
    unfold wp_M_logic_29 at hw
    refine lv_iconst (v := 0) hx hb dc_M_logic_29 (by decide) ?_
    refine lv_goto (tgt := 42) hx hb dc_M_logic_30 (by decide) ?_
    exact B_42 _ _ _ (0 : Int32) hw hP hD hS (lv_sub hl [] rfl)
  have B_15 : ∀ (H : Heap) (locs : List Loc) (ls : Array Slot) (x0 : Int32) (x1 : Int32) (x2 : Int32) (t0 : Int32), wp_M_logic_15 post x0 x1 x2 t0 → va_P (dC, dI) cs_3 ([] : va_W) H → va_D A ([] : va_W) → va_S A s.heap H locs → lv_has ls 4 [(0, .int x0), (1, .int x1), (2, .int x2)] → W p l e (headSpec ws_M_logic rm_M_logic).room s m ([.int a0, .int a1, .int a2] : List Value).toArray below meth c H locs 0 0 (MQ below (qi_0 dC dI cJ cI cZ cB post A) ([.int a0, .int a1, .int a2] : List Value).toArray s 0 0 A) (F0 m 15 ls [.int t0]) := by
    intro H locs ls x0 x1 x2 t0 hw hP hD hS hl
    unfold wp_M_logic_15 at hw
    refine lv_istore_n (lv' := [(3, .int t0), (0, .int x0), (1, .int x1), (2, .int x2)]) hx hb dc_M_logic_15 rfl hl (Nat.le_of_ble_eq_true rfl) rfl (fun ls hl => ?_)
    refine lv_iload_n hx hb dc_M_logic_16 rfl (lv_at hl 1 rfl) ?_
    refine lv_iconst (v := 5) hx hb dc_M_logic_17 (by decide) ?_
    obtain ⟨hw1, hw2⟩ := hw
    refine lv_icmp_ne (tgt := 43) hx hb dc_M_logic_18 (by decide) (fun hc => ?_) (fun hc => ?_)
    · have hw := hw1 hc
      clear hw1 hw2
      refine lv_iload_n hx hb dc_M_logic_43 rfl (lv_at hl 1 rfl) ?_
      refine lv_bipush (v := 6) hx hb dc_M_logic_44 (by decide) ?_
      obtain ⟨hw1, hw2⟩ := hw
      refine lv_icmp_ne (tgt := 73) hx hb dc_M_logic_46 (by decide) (fun hc => ?_) (fun hc => ?_)
      · have hw := hw1 hc
        clear hw1 hw2
        refine lv_iload_n hx hb dc_M_logic_73 rfl (lv_at hl 0 rfl) ?_
        obtain ⟨hw1, hw2⟩ := hw
        refine lv_if_eq (tgt := 81) hx hb dc_M_logic_74 (by decide) (fun hc => ?_) (fun hc => ?_)
        · have hw := hw1 hc
          clear hw1 hw2
          refine lv_iload_n hx hb dc_M_logic_81 rfl (lv_at hl 1 rfl) ?_
          refine lv_bipush (v := 7) hx hb dc_M_logic_82 (by decide) ?_
          obtain ⟨hw1, hw2⟩ := hw
          refine lv_icmp_ne (tgt := 93) hx hb dc_M_logic_84 (by decide) (fun hc => ?_) (fun hc => ?_)
          · have hw := hw1 hc
            clear hw1 hw2
            refine lv_iconst (v := 1) hx hb dc_M_logic_93 (by decide) ?_
            refine lv_iload_n hx hb dc_M_logic_94 rfl (lv_at hl 2 rfl) ?_
            refine lv_iload_n hx hb dc_M_logic_95 rfl (lv_at hl 3 rfl) ?_
            refine lv_ixor hx hb dc_M_logic_96 ?_
            refine lv_isub hx hb dc_M_logic_97 ?_
            exact B_98 _ _ _ ((1 : Int32) - (x1 ^^^ x2)) hw hP hD hS (lv_sub hl [] rfl)
          · have hw := hw2 (fun h9 => h9 hc)
            clear hw1 hw2
            refine lv_iload_n hx hb dc_M_logic_87 rfl (lv_at hl 2 rfl) ?_
            refine lv_iload_n hx hb dc_M_logic_88 rfl (lv_at hl 3 rfl) ?_
            refine lv_ixor hx hb dc_M_logic_89 ?_
            refine lv_goto (tgt := 98) hx hb dc_M_logic_90 (by decide) ?_
            exact B_98 _ _ _ (x1 ^^^ x2) hw hP hD hS (lv_sub hl [] rfl)
        · have hw := hw2 hc
          clear hw1 hw2
          refine lv_iconst (v := 3) hx hb dc_M_logic_77 (by decide) ?_
          refine lv_goto (tgt := 98) hx hb dc_M_logic_78 (by decide) ?_
          exact B_98 _ _ _ (3 : Int32) hw hP hD hS (lv_sub hl [] rfl)
      · have hw := hw2 (fun h9 => h9 hc)
        clear hw1 hw2
        refine lv_iload_n hx hb dc_M_logic_49 rfl (lv_at hl 2 rfl) ?_
        refine lv_iconst (v := 1) hx hb dc_M_logic_50 (by decide) ?_
        obtain ⟨hw1, hw2⟩ := hw
        refine lv_icmp_eq (tgt := 59) hx hb dc_M_logic_51 (by decide) (fun hc => ?_) (fun hc => ?_)
        · have hw := hw1 hc
          clear hw1 hw2
          exact B_59 _ _ _  hw hP hD hS (lv_sub hl [] rfl)
        · have hw := hw2 hc
          clear hw1 hw2
          refine lv_iload_n hx hb dc_M_logic_54 rfl (lv_at hl 3 rfl) ?_
          refine lv_iconst (v := 1) hx hb dc_M_logic_55 (by decide) ?_
          obtain ⟨hw1, hw2⟩ := hw
          refine lv_icmp_ne (tgt := 63) hx hb dc_M_logic_56 (by decide) (fun hc => ?_) (fun hc => ?_)
          · have hw := hw1 hc
            clear hw1 hw2
            refine lv_iload_n hx hb dc_M_logic_63 rfl (lv_at hl 0 rfl) ?_
            obtain ⟨hw1, hw2⟩ := hw
            refine lv_if_eq (tgt := 71) hx hb dc_M_logic_64 (by decide) (fun hc => ?_) (fun hc => ?_)
            · have hw := hw1 hc
              clear hw1 hw2
              refine lv_iconst (v := 0) hx hb dc_M_logic_71 (by decide) ?_
              exact B_72 _ _ _ (0 : Int32) hw hP hD hS (lv_sub hl [] rfl)
            · have hw := hw2 hc
              clear hw1 hw2
              refine lv_iconst (v := 3) hx hb dc_M_logic_67 (by decide) ?_
              refine lv_goto (tgt := 72) hx hb dc_M_logic_68 (by decide) ?_
              exact B_72 _ _ _ (3 : Int32) hw hP hD hS (lv_sub hl [] rfl)
          · have hw := hw2 (fun h9 => h9 hc)
            clear hw1 hw2
            exact B_59 _ _ _  hw hP hD hS (lv_sub hl [] rfl)
    · have hw := hw2 (fun h9 => h9 hc)
      clear hw1 hw2
      refine lv_iload_n hx hb dc_M_logic_21 rfl (lv_at hl 2 rfl) ?_
      obtain ⟨hw1, hw2⟩ := hw
      refine lv_if_eq (tgt := 29) hx hb dc_M_logic_22 (by decide) (fun hc => ?_) (fun hc => ?_)
      · have hw := hw1 hc
        clear hw1 hw2
        exact B_29 _ _ _  hw hP hD hS (lv_sub hl [] rfl)
      · have hw := hw2 hc
        clear hw1 hw2
        refine lv_iload_n hx hb dc_M_logic_25 rfl (lv_at hl 3 rfl) ?_
        obtain ⟨hw1, hw2⟩ := hw
        refine lv_if_ne (tgt := 33) hx hb dc_M_logic_26 (by decide) (fun hc => ?_) (fun hc => ?_)
        · have hw := hw1 hc
          clear hw1 hw2
          refine lv_iload_n hx hb dc_M_logic_33 rfl (lv_at hl 0 rfl) ?_
          obtain ⟨hw1, hw2⟩ := hw
          refine lv_if_eq (tgt := 41) hx hb dc_M_logic_34 (by decide) (fun hc => ?_) (fun hc => ?_)
          · have hw := hw1 hc
            clear hw1 hw2
            refine lv_iconst (v := 1) hx hb dc_M_logic_41 (by decide) ?_
            exact B_42 _ _ _ (1 : Int32) hw hP hD hS (lv_sub hl [] rfl)
          · have hw := hw2 hc
            clear hw1 hw2
            refine lv_iconst (v := 3) hx hb dc_M_logic_37 (by decide) ?_
            refine lv_goto (tgt := 42) hx hb dc_M_logic_38 (by decide) ?_
            exact B_42 _ _ _ (3 : Int32) hw hP hD hS (lv_sub hl [] rfl)
        · have hw := hw2 (fun h9 => h9 hc)
          clear hw1 hw2
          exact B_29 _ _ _  hw hP hD hS (lv_sub hl [] rfl)
  have B_10 : ∀ (H : Heap) (locs : List Loc) (ls : Array Slot) (x0 : Int32) (x1 : Int32) (x2 : Int32), wp_M_logic_10 post x0 x1 x2 → va_P (dC, dI) cs_3 ([] : va_W) H → va_D A ([] : va_W) → va_S A s.heap H locs → lv_has ls 4 [(0, .int x0), (1, .int x1), (2, .int x2)] → W p l e (headSpec ws_M_logic rm_M_logic).room s m ([.int a0, .int a1, .int a2] : List Value).toArray below meth c H locs 0 0 (MQ below (qi_0 dC dI cJ cI cZ cB post A) ([.int a0, .int a1, .int a2] : List Value).toArray s 0 0 A) (F0 m 10 ls []) := by
    intro H locs ls x0 x1 x2 hw hP hD hS hl
    unfold wp_M_logic_10 at hw
    refine lv_iconst (v := 1) hx hb dc_M_logic_10 (by decide) ?_
    refine lv_goto (tgt := 15) hx hb dc_M_logic_11 (by decide) ?_
    exact B_15 _ _ _ x0 x1 x2 (1 : Int32) hw hP hD hS (lv_sub hl [0, 1, 2] rfl)
  unfold wp_M_logic at hw
  refine lv_iload_n hx hb dc_M_logic_0 rfl (lv_at hl 1 rfl) ?_
  refine lv_iconst (v := 1) hx hb dc_M_logic_1 (by decide) ?_
  obtain ⟨hw1, hw2⟩ := hw
  refine lv_icmp_gt (tgt := 10) hx hb dc_M_logic_2 (by decide) (fun hc => ?_) (fun hc => ?_)
  · have hw := hw1 hc
    clear hw1 hw2
    exact B_10 _ _ _ a0 a1 a2 hw hP hD hS (lv_sub hl [0, 1, 2] rfl)
  · have hw := hw2 hc
    clear hw1 hw2
    refine lv_iload_n hx hb dc_M_logic_5 rfl (lv_at hl 2 rfl) ?_
    refine lv_iconst (v := 1) hx hb dc_M_logic_6 (by decide) ?_
    obtain ⟨hw1, hw2⟩ := hw
    refine lv_icmp_le (tgt := 14) hx hb dc_M_logic_7 (by decide) (fun hc => ?_) (fun hc => ?_)
    · have hw := hw1 hc
      clear hw1 hw2
      refine lv_iconst (v := 0) hx hb dc_M_logic_14 (by decide) ?_
      exact B_15 _ _ _ a0 a1 a2 (0 : Int32) hw hP hD hS (lv_sub hl [0, 1, 2] rfl)
    · have hw := hw2 hc
      clear hw1 hw2
      exact B_10 _ _ _ a0 a1 a2 hw hP hD hS (lv_sub hl [0, 1, 2] rfl)
set_option maxHeartbeats 4000000 in
set_option maxRecDepth 100000 in
theorem kt_M_decimal (l : Launch) (dC : Nat → ClassId) (dI : Nat → Nat → Nat) (cJ cI cZ cB : ClassId) (h1 qx qy : Nat) (sz : Nat) (a2 : Int32) (fx : (Nat → Int32)) (fy : (Nat → Int32)) (post : Int32 → (Nat → Int32) → (Nat → Int32) → Prop) (hw : wp_M_decimal post a2 fx fy) : Met l yn_M_decimal ws_M_decimal rm_M_decimal (va_Pc [.ref h1, .ref qx, .int a2, .ref qy] (pc_W (dC, dI) (ty_4 cJ cI cZ cB) (wd_D h1 qx qy cJ cI cZ cB fx fy) sz)) (qi_D dC dI cJ cI cZ cB h1 qx qy post (va_A (wd_D h1 qx qy cJ cI cZ cB fx fy) sz)) 0 0 (va_A (wd_D h1 qx qy cJ cI cZ cB fx fy) sz) := by
  refine Met.ofW (cc := cd_M_decimal) (maxL := 9) (ret := (some .int)) (by decide) rfl ?_
  intro p e s m args below meth c s₁ B hml hv
  obtain ⟨rfl, hsz, hP, hK, hD0, hE⟩ := hv
  have hx := B.exec
  have hb := B.bytes
  have hr := B.returns
  have hts := atoms_spec (ws := ws_M_decimal) B.pre
  have hq : ∀ {w : Cond}, w ∈ wg_all → w.before ([.ref h1, .ref qx, .int a2, .ref qy] : List Value).toArray s = true := fun h => hts _ (List.mem_cons_of_mem _ h)
  have hu : ∀ L : List Cond, (∀ w ∈ L, w ∈ wg_all) → ∀ w ∈ L, w ∈ ws_M_decimal := fun L h w hw => List.mem_cons_of_mem _ (h w hw)
  have hown : s.vm.findClass "FourWordsModel" = some m.cls := findClass_of_methodNamed B.named
  have hlocks := B.notSynchronized
  subst hsz
  have hD := hD0.self (sz := s.heap.size)
  generalize hAe : va_A (wd_D h1 qx qy cJ cI cZ cB fx fy) s.heap.size = A at hD ⊢
  have hA : ∀ q : Nat, s.heap.size ≤ q → A q := fun q h => by rw [← hAe]; exact Or.inr h
  have hS : va_S A s.heap s.heap [] := va_S.rf
  have hl := lv_entry [.ref h1, .ref qx, .int a2, .ref qy] (n := 9) (Nat.le_of_ble_eq_true rfl)
  rw [lg_entry_eq]
  generalize (lg_sl [.ref h1, .ref qx, .int a2, .ref qy] ++ List.replicate (9 - (lg_sl [.ref h1, .ref qx, .int a2, .ref qy]).length) Slot.unset).toArray = ls at hl ⊢
  have hl : lv_has ls 9 [(0, .ref h1), (1, .ref qx), (2, .int a2), (3, .ref qy)] := hl
  have B_113 : ∀ (K93 : Int32 → Int32 → (Nat → Int32) → (Nat → Int32) → Prop) (hK93 : ∀ (H : Heap) (locs : List Loc) (ls : Array Slot) (x4 : Int32) (x5 : Int32) (fx : (Nat → Int32)) (fy : (Nat → Int32)), K93 x4 x5 fx fy → va_P (dC, dI) cs_3 (wd_D h1 qx qy cJ cI cZ cB fx fy) H → va_D A (wd_D h1 qx qy cJ cI cZ cB fx fy) → va_S A s.heap H locs → lv_has ls 9 [(3, .ref qy), (4, .int x4), (5, .int x5)] → W p l e (headSpec ws_M_decimal rm_M_decimal).room s m ([.ref h1, .ref qx, .int a2, .ref qy] : List Value).toArray below meth c H locs 0 0 (MQ below (qi_D dC dI cJ cI cZ cB h1 qx qy post A) ([.ref h1, .ref qx, .int a2, .ref qy] : List Value).toArray s 0 0 A) (F0 m 93 ls [])) (H : Heap) (locs : List Loc) (ls : Array Slot) (x4 : Int32) (x5 : Int32) (fx : (Nat → Int32)) (fy : (Nat → Int32)), wp_M_decimal_113 K93 post x4 x5 fx fy → va_P (dC, dI) cs_3 (wd_D h1 qx qy cJ cI cZ cB fx fy) H → va_D A (wd_D h1 qx qy cJ cI cZ cB fx fy) → va_S A s.heap H locs → lv_has ls 9 [(3, .ref qy), (4, .int x4), (5, .int x5)] → W p l e (headSpec ws_M_decimal rm_M_decimal).room s m ([.ref h1, .ref qx, .int a2, .ref qy] : List Value).toArray below meth c H locs 0 0 (MQ below (qi_D dC dI cJ cI cZ cB h1 qx qy post A) ([.ref h1, .ref qx, .int a2, .ref qy] : List Value).toArray s 0 0 A) (F0 m 113 ls []) := by
    intro K93 hK93 H locs ls x4 x5 fx fy hw hP hD hS hl
    unfold wp_M_decimal_113 at hw
    refine lv_iinc (lv' := [(5, .int (x5 + 1)), (3, .ref qy), (4, .int x4)]) hx hb dc_M_decimal_113 hl (k := 2) rfl (ic_p1 _) (Nat.le_of_ble_eq_true rfl) rfl (fun ls hl => ?_)
    refine lv_goto (tgt := 93) hx hb dc_M_decimal_116 (by decide) ?_
    exact hK93 _ _ _ x4 (x5 + 1) fx fy hw hP hD hS (lv_sub hl [1, 2, 0] rfl)
  have B_93 : ∀ (n93 : Nat) (H : Heap) (locs : List Loc) (ls : Array Slot) (x4 : Int32) (x5 : Int32) (fx : (Nat → Int32)) (fy : (Nat → Int32)), wp_M_decimal_93 post n93 x4 x5 fx fy → va_P (dC, dI) cs_3 (wd_D h1 qx qy cJ cI cZ cB fx fy) H → va_D A (wd_D h1 qx qy cJ cI cZ cB fx fy) → va_S A s.heap H locs → lv_has ls 9 [(3, .ref qy), (4, .int x4), (5, .int x5)] → W p l e (headSpec ws_M_decimal rm_M_decimal).room s m ([.ref h1, .ref qx, .int a2, .ref qy] : List Value).toArray below meth c H locs 0 0 (MQ below (qi_D dC dI cJ cI cZ cB h1 qx qy post A) ([.ref h1, .ref qx, .int a2, .ref qy] : List Value).toArray s 0 0 A) (F0 m 93 ls []) := by
    intro n93
    induction n93 with
    | zero => intro H locs ls x4 x5 fx fy hw; exact False.elim hw
    | succ n93 ih =>
      intro H locs ls x4 x5 fx fy hw hP hD hS hl
      unfold wp_M_decimal_93 at hw
      refine lv_iload hx hb dc_M_decimal_93 (lv_at hl 2 rfl) ?_
      refine lv_bipush (v := 24) hx hb dc_M_decimal_95 (by decide) ?_
      obtain ⟨hw1, hw2⟩ := hw
      refine lv_icmp_ge (tgt := 119) hx hb dc_M_decimal_97 (by decide) (fun hc => ?_) (fun hc => ?_)
      · have hw := hw1 hc
        clear hw1 hw2
        refine lv_iload hx hb dc_M_decimal_119 (lv_at hl 1 rfl) ?_
        exact W.iret (v := x4) hx hb hr (fun t ht hW => ⟨⟨x4, (fx, fy), rfl, hw, by rw [ht]; exact hP, va_K.moved hW.alike hK, hD⟩, hS.F ht⟩) hS.2.2 dc_M_decimal_121
      · have hw := hw2 hc
        clear hw1 hw2
        refine lv_aload_n hx hb dc_M_decimal_100 rfl (lv_at hl 0 rfl) ?_
        refine lv_iload hx hb dc_M_decimal_101 (lv_at hl 2 rfl) ?_
        obtain ⟨hin, hw⟩ := hw
        refine va_bald hx hb hK hP 1 3 rfl rfl hin dc_M_decimal_103 ?_
        obtain ⟨hw1, hw2⟩ := hw
        refine lv_if_eq (tgt := 113) hx hb dc_M_decimal_104 (by decide) (fun hc => ?_) (fun hc => ?_)
        · have hw := hw1 hc
          clear hw1 hw2
          exact B_113 (wp_M_decimal_93 post n93) ih _ _ _ x4 x5 fx fy hw hP hD hS (lv_sub hl [0, 1, 2] rfl)
        · have hw := hw2 hc
          clear hw1 hw2
          refine lv_iload hx hb dc_M_decimal_107 (lv_at hl 2 rfl) ?_
          refine lv_iconst (v := 1) hx hb dc_M_decimal_109 (by decide) ?_
          refine lv_iadd hx hb dc_M_decimal_110 ?_
          refine lv_topi (fun v111 e111 => ?_)
          have hw := hw v111 e111
          refine lv_istore (lv' := [(4, .int v111), (3, .ref qy), (5, .int x5)]) hx hb dc_M_decimal_111 hl (Nat.le_of_ble_eq_true rfl) rfl (fun ls hl => ?_)
          exact B_113 (wp_M_decimal_93 post n93) ih _ _ _ v111 x5 fx fy hw hP hD hS (lv_sub hl [1, 0, 2] rfl)
  have B_43 : ∀ (K29 : Int32 → Int32 → (Nat → Int32) → (Nat → Int32) → Prop) (hK29 : ∀ (H : Heap) (locs : List Loc) (ls : Array Slot) (x4 : Int32) (x5 : Int32) (fx : (Nat → Int32)) (fy : (Nat → Int32)), K29 x4 x5 fx fy → va_P (dC, dI) cs_3 (wd_D h1 qx qy cJ cI cZ cB fx fy) H → va_D A (wd_D h1 qx qy cJ cI cZ cB fx fy) → va_S A s.heap H locs → lv_has ls 9 [(1, .ref qx), (3, .ref qy), (4, .int x4), (5, .int x5)] → W p l e (headSpec ws_M_decimal rm_M_decimal).room s m ([.ref h1, .ref qx, .int a2, .ref qy] : List Value).toArray below meth c H locs 0 0 (MQ below (qi_D dC dI cJ cI cZ cB h1 qx qy post A) ([.ref h1, .ref qx, .int a2, .ref qy] : List Value).toArray s 0 0 A) (F0 m 29 ls [])) (n43 : Nat) (H : Heap) (locs : List Loc) (ls : Array Slot) (x4 : Int32) (x5 : Int32) (x6 : Int32) (x7 : Int32) (fx : (Nat → Int32)) (fy : (Nat → Int32)), wp_M_decimal_43 K29 post n43 x4 x5 x6 x7 fx fy → va_P (dC, dI) cs_3 (wd_D h1 qx qy cJ cI cZ cB fx fy) H → va_D A (wd_D h1 qx qy cJ cI cZ cB fx fy) → va_S A s.heap H locs → lv_has ls 9 [(1, .ref qx), (3, .ref qy), (4, .int x4), (5, .int x5), (6, .int x6), (7, .int x7)] → W p l e (headSpec ws_M_decimal rm_M_decimal).room s m ([.ref h1, .ref qx, .int a2, .ref qy] : List Value).toArray below meth c H locs 0 0 (MQ below (qi_D dC dI cJ cI cZ cB h1 qx qy post A) ([.ref h1, .ref qx, .int a2, .ref qy] : List Value).toArray s 0 0 A) (F0 m 43 ls []) := by
    intro K29 hK29 n43
    induction n43 with
    | zero => intro H locs ls x4 x5 x6 x7 fx fy hw; exact False.elim hw
    | succ n43 ih =>
      intro H locs ls x4 x5 x6 x7 fx fy hw hP hD hS hl
      unfold wp_M_decimal_43 at hw
      refine lv_iload hx hb dc_M_decimal_43 (lv_at hl 5 rfl) ?_
      refine lv_bipush (v := 24) hx hb dc_M_decimal_45 (by decide) ?_
      obtain ⟨hw1, hw2⟩ := hw
      refine lv_icmp_ge (tgt := 84) hx hb dc_M_decimal_47 (by decide) (fun hc => ?_) (fun hc => ?_)
      · have hw := hw1 hc
        clear hw1 hw2
        refine lv_iinc (lv' := [(5, .int (x5 + (-1))), (1, .ref qx), (3, .ref qy), (4, .int x4), (6, .int x6), (7, .int x7)]) hx hb dc_M_decimal_84 hl (k := 3) rfl (ic_m1 _) (Nat.le_of_ble_eq_true rfl) rfl (fun ls hl => ?_)
        refine lv_goto (tgt := 29) hx hb dc_M_decimal_87 (by decide) ?_
        exact hK29 _ _ _ x4 (x5 + (-1)) fx fy hw hP hD hS (lv_sub hl [1, 2, 3, 0] rfl)
      · have hw := hw2 hc
        clear hw1 hw2
        refine lv_iconst (v := 2) hx hb dc_M_decimal_50 (by decide) ?_
        refine lv_aload_n hx hb dc_M_decimal_51 rfl (lv_at hl 1 rfl) ?_
        refine lv_iload hx hb dc_M_decimal_52 (lv_at hl 5 rfl) ?_
        obtain ⟨hin, hw⟩ := hw
        refine va_bald hx hb hK hP 1 3 rfl rfl hin dc_M_decimal_54 ?_
        refine lv_imul hx hb dc_M_decimal_55 ?_
        refine lv_iload hx hb dc_M_decimal_56 (lv_at hl 4 rfl) ?_
        refine lv_iadd hx hb dc_M_decimal_58 ?_
        refine lv_topi (fun v59 e59 => ?_)
        have hw := hw v59 e59
        refine lv_istore (lv' := [(8, .int v59), (1, .ref qx), (3, .ref qy), (4, .int x4), (5, .int x5), (6, .int x6), (7, .int x7)]) hx hb dc_M_decimal_59 hl (Nat.le_of_ble_eq_true rfl) rfl (fun ls hl => ?_)
        refine lv_aload_n hx hb dc_M_decimal_61 rfl (lv_at hl 2 rfl) ?_
        refine lv_iload hx hb dc_M_decimal_62 (lv_at hl 6 rfl) ?_
        refine lv_iload hx hb dc_M_decimal_64 (lv_at hl 0 rfl) ?_
        refine lv_bipush (v := 10) hx hb dc_M_decimal_66 (by decide) ?_
        obtain ⟨hne, hw⟩ := hw
        refine lv_irem hx hb dc_M_decimal_68 hne ?_
        refine lv_i2b hx hb dc_M_decimal_69 rfl ?_
        obtain ⟨hin, hw⟩ := hw
        refine va_bast hx hb hK hP hD hS 1 3 rfl rfl hin dc_M_decimal_70 (fun H locs hP hD hS => ?_)
        have hP : va_P (dC, dI) cs_3 (wd_D h1 qx qy cJ cI cZ cB fx (upd fy x7.toNatClampNeg (vp_nar .byte ((v59 - v59 / (10 : Int32) * (10 : Int32)).toInt8.toInt32)))) H := hP
        have hD : va_D A (wd_D h1 qx qy cJ cI cZ cB fx (upd fy x7.toNatClampNeg (vp_nar .byte ((v59 - v59 / (10 : Int32) * (10 : Int32)).toInt8.toInt32)))) := hD
        refine lv_iload hx hb dc_M_decimal_71 (lv_at hl 0 rfl) ?_
        refine lv_bipush (v := 10) hx hb dc_M_decimal_73 (by decide) ?_
        obtain ⟨hne, hw⟩ := hw
        refine lv_idiv hx hb dc_M_decimal_75 hne ?_
        refine lv_topi (fun v76 e76 => ?_)
        have hw := hw v76 e76
        refine lv_istore (lv' := [(6, .int v76), (8, .int v59), (1, .ref qx), (3, .ref qy), (4, .int x4), (5, .int x5), (7, .int x7)]) hx hb dc_M_decimal_76 hl (Nat.le_of_ble_eq_true rfl) rfl (fun ls hl => ?_)
        refine lv_iinc (lv' := [(7, .int (x7 + 1)), (6, .int v76), (8, .int v59), (1, .ref qx), (3, .ref qy), (4, .int x4), (5, .int x5)]) hx hb dc_M_decimal_78 hl (k := 6) rfl (ic_p1 _) (Nat.le_of_ble_eq_true rfl) rfl (fun ls hl => ?_)
        refine lv_goto (tgt := 43) hx hb dc_M_decimal_81 (by decide) ?_
        exact ih _ _ _ x4 x5 v76 (x7 + 1) fx (upd fy x7.toNatClampNeg (vp_nar .byte ((v59 - v59 / (10 : Int32) * (10 : Int32)).toInt8.toInt32))) hw hP hD hS (lv_sub hl [3, 4, 5, 6, 1, 0] rfl)
  have B_29 : ∀ (n29 : Nat) (H : Heap) (locs : List Loc) (ls : Array Slot) (x4 : Int32) (x5 : Int32) (fx : (Nat → Int32)) (fy : (Nat → Int32)), wp_M_decimal_29 post n29 x4 x5 fx fy → va_P (dC, dI) cs_3 (wd_D h1 qx qy cJ cI cZ cB fx fy) H → va_D A (wd_D h1 qx qy cJ cI cZ cB fx fy) → va_S A s.heap H locs → lv_has ls 9 [(1, .ref qx), (3, .ref qy), (4, .int x4), (5, .int x5)] → W p l e (headSpec ws_M_decimal rm_M_decimal).room s m ([.ref h1, .ref qx, .int a2, .ref qy] : List Value).toArray below meth c H locs 0 0 (MQ below (qi_D dC dI cJ cI cZ cB h1 qx qy post A) ([.ref h1, .ref qx, .int a2, .ref qy] : List Value).toArray s 0 0 A) (F0 m 29 ls []) := by
    intro n29
    induction n29 with
    | zero => intro H locs ls x4 x5 fx fy hw; exact False.elim hw
    | succ n29 ih =>
      intro H locs ls x4 x5 fx fy hw hP hD hS hl
      unfold wp_M_decimal_29 at hw
      refine lv_iload hx hb dc_M_decimal_29 (lv_at hl 3 rfl) ?_
      obtain ⟨hw1, hw2⟩ := hw
      refine lv_if_lt (tgt := 90) hx hb dc_M_decimal_31 (by decide) (fun hc => ?_) (fun hc => ?_)
      · have hw := hw1 hc
        clear hw1 hw2
        refine lv_iconst (v := 0) hx hb dc_M_decimal_90 (by decide) ?_
        refine lv_istore (lv' := [(5, .int (0 : Int32)), (1, .ref qx), (3, .ref qy), (4, .int x4)]) hx hb dc_M_decimal_91 hl (Nat.le_of_ble_eq_true rfl) rfl (fun ls hl => ?_)
        obtain ⟨n93, hw⟩ := hw
        exact B_93 n93 _ _ _ x4 (0 : Int32) fx fy hw hP hD hS (lv_sub hl [2, 3, 0] rfl)
      · have hw := hw2 hc
        clear hw1 hw2
        refine lv_aload_n hx hb dc_M_decimal_34 rfl (lv_at hl 0 rfl) ?_
        refine lv_iload hx hb dc_M_decimal_35 (lv_at hl 3 rfl) ?_
        obtain ⟨hin, hw⟩ := hw
        refine va_bald hx hb hK hP 0 3 rfl rfl hin dc_M_decimal_37 ?_
        refine lv_topi (fun v38 e38 => ?_)
        have hw := hw v38 e38
        refine lv_istore (lv' := [(6, .int v38), (1, .ref qx), (3, .ref qy), (4, .int x4), (5, .int x5)]) hx hb dc_M_decimal_38 hl (Nat.le_of_ble_eq_true rfl) rfl (fun ls hl => ?_)
        refine lv_iconst (v := 0) hx hb dc_M_decimal_40 (by decide) ?_
        refine lv_istore (lv' := [(7, .int (0 : Int32)), (6, .int v38), (1, .ref qx), (3, .ref qy), (4, .int x4), (5, .int x5)]) hx hb dc_M_decimal_41 hl (Nat.le_of_ble_eq_true rfl) rfl (fun ls hl => ?_)
        obtain ⟨n43, hw⟩ := hw
        exact B_43 (wp_M_decimal_29 post n29) ih n43 _ _ _ x4 x5 v38 (0 : Int32) fx fy hw hP hD hS (lv_sub hl [2, 3, 4, 5, 1, 0] rfl)
  have B_6 : ∀ (n6 : Nat) (H : Heap) (locs : List Loc) (ls : Array Slot) (x2 : Int32) (x4 : Int32) (x5 : Int32) (fx : (Nat → Int32)) (fy : (Nat → Int32)), wp_M_decimal_6 post n6 x2 x4 x5 fx fy → va_P (dC, dI) cs_3 (wd_D h1 qx qy cJ cI cZ cB fx fy) H → va_D A (wd_D h1 qx qy cJ cI cZ cB fx fy) → va_S A s.heap H locs → lv_has ls 9 [(1, .ref qx), (2, .int x2), (3, .ref qy), (4, .int x4), (5, .int x5)] → W p l e (headSpec ws_M_decimal rm_M_decimal).room s m ([.ref h1, .ref qx, .int a2, .ref qy] : List Value).toArray below meth c H locs 0 0 (MQ below (qi_D dC dI cJ cI cZ cB h1 qx qy post A) ([.ref h1, .ref qx, .int a2, .ref qy] : List Value).toArray s 0 0 A) (F0 m 6 ls []) := by
    intro n6
    induction n6 with
    | zero => intro H locs ls x2 x4 x5 fx fy hw; exact False.elim hw
    | succ n6 ih =>
      intro H locs ls x2 x4 x5 fx fy hw hP hD hS hl
      unfold wp_M_decimal_6 at hw
      refine lv_iload hx hb dc_M_decimal_6 (lv_at hl 4 rfl) ?_
      refine lv_bipush (v := 24) hx hb dc_M_decimal_8 (by decide) ?_
      obtain ⟨hw1, hw2⟩ := hw
      refine lv_icmp_ge (tgt := 24) hx hb dc_M_decimal_10 (by decide) (fun hc => ?_) (fun hc => ?_)
      · have hw := hw1 hc
        clear hw1 hw2
        refine lv_iload_n hx hb dc_M_decimal_24 rfl (lv_at hl 1 rfl) ?_
        refine lv_iconst (v := 1) hx hb dc_M_decimal_25 (by decide) ?_
        refine lv_isub hx hb dc_M_decimal_26 ?_
        refine lv_topi (fun v27 e27 => ?_)
        have hw := hw v27 e27
        refine lv_istore (lv' := [(5, .int v27), (1, .ref qx), (2, .int x2), (3, .ref qy), (4, .int x4)]) hx hb dc_M_decimal_27 hl (Nat.le_of_ble_eq_true rfl) rfl (fun ls hl => ?_)
        obtain ⟨n29, hw⟩ := hw
        exact B_29 n29 _ _ _ x4 v27 fx fy hw hP hD hS (lv_sub hl [1, 3, 4, 0] rfl)
      · have hw := hw2 hc
        clear hw1 hw2
        refine lv_aload_n hx hb dc_M_decimal_13 rfl (lv_at hl 2 rfl) ?_
        refine lv_iload hx hb dc_M_decimal_14 (lv_at hl 4 rfl) ?_
        refine lv_iconst (v := 0) hx hb dc_M_decimal_16 (by decide) ?_
        obtain ⟨hin, hw⟩ := hw
        refine va_bast hx hb hK hP hD hS 1 3 rfl rfl hin dc_M_decimal_17 (fun H locs hP hD hS => ?_)
        have hP : va_P (dC, dI) cs_3 (wd_D h1 qx qy cJ cI cZ cB fx (upd fy x5.toNatClampNeg (vp_nar .byte (0 : Int32)))) H := hP
        have hD : va_D A (wd_D h1 qx qy cJ cI cZ cB fx (upd fy x5.toNatClampNeg (vp_nar .byte (0 : Int32)))) := hD
        refine lv_iinc (lv' := [(5, .int (x5 + 1)), (1, .ref qx), (2, .int x2), (3, .ref qy), (4, .int x4)]) hx hb dc_M_decimal_18 hl (k := 4) rfl (ic_p1 _) (Nat.le_of_ble_eq_true rfl) rfl (fun ls hl => ?_)
        refine lv_goto (tgt := 6) hx hb dc_M_decimal_21 (by decide) ?_
        exact ih _ _ _ x2 x4 (x5 + 1) fx (upd fy x5.toNatClampNeg (vp_nar .byte (0 : Int32))) hw hP hD hS (lv_sub hl [1, 2, 3, 4, 0] rfl)
  unfold wp_M_decimal at hw
  refine lv_iconst (v := 1) hx hb dc_M_decimal_0 (by decide) ?_
  refine lv_istore (lv' := [(4, .int (1 : Int32)), (0, .ref h1), (1, .ref qx), (2, .int a2), (3, .ref qy)]) hx hb dc_M_decimal_1 hl (Nat.le_of_ble_eq_true rfl) rfl (fun ls hl => ?_)
  refine lv_iconst (v := 0) hx hb dc_M_decimal_3 (by decide) ?_
  refine lv_istore (lv' := [(5, .int (0 : Int32)), (4, .int (1 : Int32)), (0, .ref h1), (1, .ref qx), (2, .int a2), (3, .ref qy)]) hx hb dc_M_decimal_4 hl (Nat.le_of_ble_eq_true rfl) rfl (fun ls hl => ?_)
  obtain ⟨n6, hw⟩ := hw
  exact B_6 n6 _ _ _ a2 (1 : Int32) (0 : Int32) fx fy hw hP hD hS (lv_sub hl [3, 4, 5, 1, 0] rfl)
set_option maxHeartbeats 4000000 in
set_option maxRecDepth 100000 in
theorem kt_M_thrown (l : Launch) (dC : Nat → ClassId) (dI : Nat → Nat → Nat) (cJ cI cZ cB : ClassId) (h1 pB pW pS pA pQ pC pR pT pD : Nat) (sz : Nat) (kb : (Nat → Int32)) (kw : (Nat → Int32)) (ks : (Nat → Int32)) (ka : (Nat → Int32)) (kq : (Nat → Int32)) (kc : (Nat → Int32)) (kr : (Nat → Int32)) (kt : (Nat → Int32)) (kd : (Nat → Int32)) (many : Int32) (tsz : Int32) (thr : Int32) (post : Int32 → (Nat → Int32) → (Nat → Int32) → (Nat → Int32) → (Nat → Int32) → (Nat → Int32) → (Nat → Int32) → (Nat → Int32) → (Nat → Int32) → (Nat → Int32) → Int32 → Int32 → Int32 → Prop) (hw : wp_M_thrown post kb kw ks ka kq kc kr kt kd many tsz thr) : Met l yn_M_thrown ws_M_thrown rm_M_thrown (va_Pc [.ref h1] (pc_W (dC, dI) (ty_4 cJ cI cZ cB) (wd_M h1 pB pW pS pA pQ pC pR pT pD cJ cI cZ cB kb kw ks ka kq kc kr kt kd many tsz thr) sz)) (qi_M dC dI cJ cI cZ cB h1 pB pW pS pA pQ pC pR pT pD post (va_A (wd_M h1 pB pW pS pA pQ pC pR pT pD cJ cI cZ cB kb kw ks ka kq kc kr kt kd many tsz thr) sz)) 0 0 (va_A (wd_M h1 pB pW pS pA pQ pC pR pT pD cJ cI cZ cB kb kw ks ka kq kc kr kt kd many tsz thr) sz) := by
  refine Met.ofW (cc := cd_M_thrown) (maxL := 1) (ret := (some .int)) (by decide) rfl ?_
  intro p e s m args below meth c s₁ B hml hv
  obtain ⟨rfl, hsz, hP, hK, hD0, hE⟩ := hv
  have hx := B.exec
  have hb := B.bytes
  have hr := B.returns
  have hts := atoms_spec (ws := ws_M_thrown) B.pre
  have hq : ∀ {w : Cond}, w ∈ wg_all → w.before ([.ref h1] : List Value).toArray s = true := fun h => hts _ (List.mem_cons_of_mem _ h)
  have hu : ∀ L : List Cond, (∀ w ∈ L, w ∈ wg_all) → ∀ w ∈ L, w ∈ ws_M_thrown := fun L h w hw => List.mem_cons_of_mem _ (h w hw)
  have hown : s.vm.findClass "FourWordsModel" = some m.cls := findClass_of_methodNamed B.named
  have hlocks := B.notSynchronized
  subst hsz
  have hD := hD0.self (sz := s.heap.size)
  generalize hAe : va_A (wd_M h1 pB pW pS pA pQ pC pR pT pD cJ cI cZ cB kb kw ks ka kq kc kr kt kd many tsz thr) s.heap.size = A at hD ⊢
  have hA : ∀ q : Nat, s.heap.size ≤ q → A q := fun q h => by rw [← hAe]; exact Or.inr h
  have hS : va_S A s.heap s.heap [] := va_S.rf
  have hl := lv_entry [.ref h1] (n := 1) (Nat.le_of_ble_eq_true rfl)
  rw [lg_entry_eq]
  generalize (lg_sl [.ref h1] ++ List.replicate (1 - (lg_sl [.ref h1]).length) Slot.unset).toArray = ls at hl ⊢
  have hl : lv_has ls 1 [(0, .ref h1)] := hl
  unfold wp_M_thrown at hw
  refine lv_aload_n hx hb dc_M_thrown_0 rfl (lv_at hl 0 rfl) ?_
  refine va_get (D := (dC, dI)) (ci := 2) (v := .int thr) (C := "FourWordsModel") (T := tb_M) (N := 12) hx hb hts (hu _ um_M) hown hK hP 0 rfl rfl 10 (by decide) (hq mw_t470) (fun _ h9 => h9) rfl dc_M_thrown_1 ?_
  exact W.iret (v := thr) hx hb hr (fun t ht hW => ⟨⟨thr, (kb, kw, ks, ka, kq, kc, kr, kt, kd, many, tsz, thr), rfl, hw, by rw [ht]; exact hP, va_K.moved hW.alike hK, hD⟩, hS.F ht⟩) hS.2.2 dc_M_thrown_4
set_option maxHeartbeats 4000000 in
set_option maxRecDepth 100000 in
theorem kt_M_refuse (l : Launch) (dC : Nat → ClassId) (dI : Nat → Nat → Nat) (cJ cI cZ cB : ClassId) (h1 pB pW pS pA pQ pC pR pT pD : Nat) (sz : Nat) (a1 : Int32) (a2 : Int32) (a3 : Int32) (kb : (Nat → Int32)) (kw : (Nat → Int32)) (ks : (Nat → Int32)) (ka : (Nat → Int32)) (kq : (Nat → Int32)) (kc : (Nat → Int32)) (kr : (Nat → Int32)) (kt : (Nat → Int32)) (kd : (Nat → Int32)) (many : Int32) (tsz : Int32) (thr : Int32) (post : Int32 → (Nat → Int32) → (Nat → Int32) → (Nat → Int32) → (Nat → Int32) → (Nat → Int32) → (Nat → Int32) → (Nat → Int32) → (Nat → Int32) → (Nat → Int32) → Int32 → Int32 → Int32 → Prop) (hw : wp_M_refuse post a1 a2 a3 kb kw ks ka kq kc kr kt kd many tsz thr) : Met l yn_M_refuse ws_M_refuse rm_M_refuse (va_Pc [.ref h1, .int a1, .int a2, .int a3] (pc_W (dC, dI) (ty_4 cJ cI cZ cB) (wd_M h1 pB pW pS pA pQ pC pR pT pD cJ cI cZ cB kb kw ks ka kq kc kr kt kd many tsz thr) sz)) (qi_M dC dI cJ cI cZ cB h1 pB pW pS pA pQ pC pR pT pD post (va_A (wd_M h1 pB pW pS pA pQ pC pR pT pD cJ cI cZ cB kb kw ks ka kq kc kr kt kd many tsz thr) sz)) 0 0 (va_A (wd_M h1 pB pW pS pA pQ pC pR pT pD cJ cI cZ cB kb kw ks ka kq kc kr kt kd many tsz thr) sz) := by
  refine Met.ofW (cc := cd_M_refuse) (maxL := 4) (ret := (some .boolean)) (by decide) rfl ?_
  intro p e s m args below meth c s₁ B hml hv
  obtain ⟨rfl, hsz, hP, hK, hD0, hE⟩ := hv
  have hx := B.exec
  have hb := B.bytes
  have hr := B.returns
  have hts := atoms_spec (ws := ws_M_refuse) B.pre
  have hq : ∀ {w : Cond}, w ∈ wg_all → w.before ([.ref h1, .int a1, .int a2, .int a3] : List Value).toArray s = true := fun h => hts _ (List.mem_cons_of_mem _ h)
  have hu : ∀ L : List Cond, (∀ w ∈ L, w ∈ wg_all) → ∀ w ∈ L, w ∈ ws_M_refuse := fun L h w hw => List.mem_cons_of_mem _ (h w hw)
  have hown : s.vm.findClass "FourWordsModel" = some m.cls := findClass_of_methodNamed B.named
  have hlocks := B.notSynchronized
  subst hsz
  have hD := hD0.self (sz := s.heap.size)
  generalize hAe : va_A (wd_M h1 pB pW pS pA pQ pC pR pT pD cJ cI cZ cB kb kw ks ka kq kc kr kt kd many tsz thr) s.heap.size = A at hD ⊢
  have hA : ∀ q : Nat, s.heap.size ≤ q → A q := fun q h => by rw [← hAe]; exact Or.inr h
  have hS : va_S A s.heap s.heap [] := va_S.rf
  have hl := lv_entry [.ref h1, .int a1, .int a2, .int a3] (n := 4) (Nat.le_of_ble_eq_true rfl)
  rw [lg_entry_eq]
  generalize (lg_sl [.ref h1, .int a1, .int a2, .int a3] ++ List.replicate (4 - (lg_sl [.ref h1, .int a1, .int a2, .int a3]).length) Slot.unset).toArray = ls at hl ⊢
  have hl : lv_has ls 4 [(0, .ref h1), (1, .int a1), (2, .int a2), (3, .int a3)] := hl
  have B_50 : ∀ (H : Heap) (locs : List Loc) (ls : Array Slot) (t0 : Int32) (kb : (Nat → Int32)) (kw : (Nat → Int32)) (ks : (Nat → Int32)) (ka : (Nat → Int32)) (kq : (Nat → Int32)) (kc : (Nat → Int32)) (kr : (Nat → Int32)) (kt : (Nat → Int32)) (kd : (Nat → Int32)) (many : Int32) (tsz : Int32) (thr : Int32), wp_M_refuse_50 post t0 kb kw ks ka kq kc kr kt kd many tsz thr → va_P (dC, dI) cs_3 (wd_M h1 pB pW pS pA pQ pC pR pT pD cJ cI cZ cB kb kw ks ka kq kc kr kt kd many tsz thr) H → va_D A (wd_M h1 pB pW pS pA pQ pC pR pT pD cJ cI cZ cB kb kw ks ka kq kc kr kt kd many tsz thr) → va_S A s.heap H locs → lv_has ls 4 [] → W p l e (headSpec ws_M_refuse rm_M_refuse).room s m ([.ref h1, .int a1, .int a2, .int a3] : List Value).toArray below meth c H locs 0 0 (MQ below (qi_M dC dI cJ cI cZ cB h1 pB pW pS pA pQ pC pR pT pD post A) ([.ref h1, .int a1, .int a2, .int a3] : List Value).toArray s 0 0 A) (F0 m 50 ls [.int t0]) := by
    intro H locs ls t0 kb kw ks ka kq kc kr kt kd many tsz thr hw hP hD hS hl
    unfold wp_M_refuse_50 at hw
    obtain ⟨hnw, hw⟩ := hw
    exact W.zret (v := t0) hx hb hr hnw (fun t ht hW => ⟨⟨t0, (kb, kw, ks, ka, kq, kc, kr, kt, kd, many, tsz, thr), rfl, hw, by rw [ht]; exact hP, va_K.moved hW.alike hK, hD⟩, hS.F ht⟩) hS.2.2 dc_M_refuse_50
  have B_35 : ∀ (H : Heap) (locs : List Loc) (ls : Array Slot) (t0 : Int32) (kb : (Nat → Int32)) (kw : (Nat → Int32)) (ks : (Nat → Int32)) (ka : (Nat → Int32)) (kq : (Nat → Int32)) (kc : (Nat → Int32)) (kr : (Nat → Int32)) (kt : (Nat → Int32)) (kd : (Nat → Int32)) (many : Int32) (tsz : Int32) (thr : Int32), wp_M_refuse_35 post t0 kb kw ks ka kq kc kr kt kd many tsz thr → va_P (dC, dI) cs_3 (wd_M h1 pB pW pS pA pQ pC pR pT pD cJ cI cZ cB kb kw ks ka kq kc kr kt kd many tsz thr) H → va_D A (wd_M h1 pB pW pS pA pQ pC pR pT pD cJ cI cZ cB kb kw ks ka kq kc kr kt kd many tsz thr) → va_S A s.heap H locs → lv_has ls 4 [(0, .ref h1)] → W p l e (headSpec ws_M_refuse rm_M_refuse).room s m ([.ref h1, .int a1, .int a2, .int a3] : List Value).toArray below meth c H locs 0 0 (MQ below (qi_M dC dI cJ cI cZ cB h1 pB pW pS pA pQ pC pR pT pD post A) ([.ref h1, .int a1, .int a2, .int a3] : List Value).toArray s 0 0 A) (F0 m 35 ls [.int t0, .ref h1]) := by
    intro H locs ls t0 kb kw ks ka kq kc kr kt kd many tsz thr hw hP hD hS hl
    unfold wp_M_refuse_35 at hw
    refine va_put (D := (dC, dI)) (ci := 2) (v := .int t0) (ty := .int) (C := "FourWordsModel") (T := tb_M) (N := 12) hx hb hts (hu _ um_M) ft_M fk_M fn_M hown hK hP hD hS 0 rfl rfl 10 (by decide) (hq mw_t470) (fun _ h9 => h9) rfl (by decide +kernel) rfl rfl (Nat.le_of_ble_eq_true rfl) dc_M_refuse_35 (fun H locs hP hD hS => ?_)
    have hP : va_P (dC, dI) cs_3 (wd_M h1 pB pW pS pA pQ pC pR pT pD cJ cI cZ cB kb kw ks ka kq kc kr kt kd many tsz t0) H := hP
    have hD : va_D A (wd_M h1 pB pW pS pA pQ pC pR pT pD cJ cI cZ cB kb kw ks ka kq kc kr kt kd many tsz t0) := hD
    refine lv_aload_n hx hb dc_M_refuse_38 rfl (lv_at hl 0 rfl) ?_
    refine va_get (D := (dC, dI)) (ci := 2) (v := .int t0) (C := "FourWordsModel") (T := tb_M) (N := 12) hx hb hts (hu _ um_M) hown hK hP 0 rfl rfl 10 (by decide) (hq mw_t470) (fun _ h9 => h9) rfl dc_M_refuse_39 ?_
    obtain ⟨hw1, hw2⟩ := hw
    refine lv_if_le (tgt := 49) hx hb dc_M_refuse_42 (by decide) (fun hc => ?_) (fun hc => ?_)
    · have hw := hw1 hc
      clear hw1 hw2
      refine lv_iconst (v := 0) hx hb dc_M_refuse_49 (by decide) ?_
      exact B_50 _ _ _ (0 : Int32) kb kw ks ka kq kc kr kt kd many tsz t0 hw hP hD hS (lv_sub hl [] rfl)
    · have hw := hw2 hc
      clear hw1 hw2
      refine lv_iconst (v := 1) hx hb dc_M_refuse_45 (by decide) ?_
      refine lv_goto (tgt := 50) hx hb dc_M_refuse_46 (by decide) ?_
      exact B_50 _ _ _ (1 : Int32) kb kw ks ka kq kc kr kt kd many tsz t0 hw hP hD hS (lv_sub hl [] rfl)
  have B_30 : ∀ (H : Heap) (locs : List Loc) (ls : Array Slot) (kb : (Nat → Int32)) (kw : (Nat → Int32)) (ks : (Nat → Int32)) (ka : (Nat → Int32)) (kq : (Nat → Int32)) (kc : (Nat → Int32)) (kr : (Nat → Int32)) (kt : (Nat → Int32)) (kd : (Nat → Int32)) (many : Int32) (tsz : Int32) (thr : Int32), wp_M_refuse_30 post kb kw ks ka kq kc kr kt kd many tsz thr → va_P (dC, dI) cs_3 (wd_M h1 pB pW pS pA pQ pC pR pT pD cJ cI cZ cB kb kw ks ka kq kc kr kt kd many tsz thr) H → va_D A (wd_M h1 pB pW pS pA pQ pC pR pT pD cJ cI cZ cB kb kw ks ka kq kc kr kt kd many tsz thr) → va_S A s.heap H locs → lv_has ls 4 [(0, .ref h1)] → W p l e (headSpec ws_M_refuse rm_M_refuse).room s m ([.ref h1, .int a1, .int a2, .int a3] : List Value).toArray below meth c H locs 0 0 (MQ below (qi_M dC dI cJ cI cZ cB h1 pB pW pS pA pQ pC pR pT pD post A) ([.ref h1, .int a1, .int a2, .int a3] : List Value).toArray s 0 0 A) (F0 m 30 ls [.ref h1]) := by
    intro H locs ls kb kw ks ka kq kc kr kt kd many tsz thr hw hP hD hS hl
    unfold wp_M_refuse_30 at hw
    refine lv_iconst (v := 2) hx hb dc_M_refuse_30 (by decide) ?_
    refine lv_goto (tgt := 35) hx hb dc_M_refuse_31 (by decide) ?_
    exact B_35 _ _ _ (2 : Int32) kb kw ks ka kq kc kr kt kd many tsz thr hw hP hD hS (lv_sub hl [0] rfl)
  unfold wp_M_refuse at hw
  refine lv_aload_n hx hb dc_M_refuse_0 rfl (lv_at hl 0 rfl) ?_
  refine lv_iload_n hx hb dc_M_refuse_1 rfl (lv_at hl 1 rfl) ?_
  obtain ⟨hw1, hw2⟩ := hw
  refine lv_if_eq (tgt := 9) hx hb dc_M_refuse_2 (by decide) (fun hc => ?_) (fun hc => ?_)
  · have hw := hw1 hc
    clear hw1 hw2
    refine lv_aload_n hx hb dc_M_refuse_9 rfl (lv_at hl 0 rfl) ?_
    refine va_get (D := (dC, dI)) (ci := 2) (v := .int many) (C := "FourWordsModel") (T := tb_M) (N := 12) hx hb hts (hu _ um_M) hown hK hP 0 rfl rfl 8 (by decide) (hq mw_t468) (fun _ h9 => h9) rfl dc_M_refuse_10 ?_
    refine lv_iload_n hx hb dc_M_refuse_13 rfl (lv_at hl 2 rfl) ?_
    obtain ⟨hw1, hw2⟩ := hw
    refine lv_icmp_lt (tgt := 30) hx hb dc_M_refuse_14 (by decide) (fun hc => ?_) (fun hc => ?_)
    · have hw := hw1 hc
      clear hw1 hw2
      exact B_30 _ _ _ kb kw ks ka kq kc kr kt kd many tsz thr hw hP hD hS (lv_sub hl [0] rfl)
    · have hw := hw2 hc
      clear hw1 hw2
      refine lv_aload_n hx hb dc_M_refuse_17 rfl (lv_at hl 0 rfl) ?_
      refine va_get (D := (dC, dI)) (ci := 2) (v := .int many) (C := "FourWordsModel") (T := tb_M) (N := 12) hx hb hts (hu _ um_M) hown hK hP 0 rfl rfl 8 (by decide) (hq mw_t468) (fun _ h9 => h9) rfl dc_M_refuse_18 ?_
      refine lv_iload_n hx hb dc_M_refuse_21 rfl (lv_at hl 2 rfl) ?_
      refine lv_isub hx hb dc_M_refuse_22 ?_
      refine lv_iload_n hx hb dc_M_refuse_23 rfl (lv_at hl 3 rfl) ?_
      refine lv_iadd hx hb dc_M_refuse_24 ?_
      refine lv_bipush (v := 64) hx hb dc_M_refuse_25 (by decide) ?_
      obtain ⟨hw1, hw2⟩ := hw
      refine lv_icmp_le (tgt := 34) hx hb dc_M_refuse_27 (by decide) (fun hc => ?_) (fun hc => ?_)
      · have hw := hw1 hc
        clear hw1 hw2
        refine lv_iconst (v := 0) hx hb dc_M_refuse_34 (by decide) ?_
        exact B_35 _ _ _ (0 : Int32) kb kw ks ka kq kc kr kt kd many tsz thr hw hP hD hS (lv_sub hl [0] rfl)
      · have hw := hw2 hc
        clear hw1 hw2
        exact B_30 _ _ _ kb kw ks ka kq kc kr kt kd many tsz thr hw hP hD hS (lv_sub hl [0] rfl)
  · have hw := hw2 hc
    clear hw1 hw2
    refine lv_iconst (v := 1) hx hb dc_M_refuse_5 (by decide) ?_
    refine lv_goto (tgt := 35) hx hb dc_M_refuse_6 (by decide) ?_
    exact B_35 _ _ _ (1 : Int32) kb kw ks ka kq kc kr kt kd many tsz thr hw hP hD hS (lv_sub hl [0] rfl)
set_option maxHeartbeats 4000000 in
set_option maxRecDepth 100000 in
theorem kt_M_wider (l : Launch) (dC : Nat → ClassId) (dI : Nat → Nat → Nat) (cJ cI cZ cB : ClassId) (h1 pB pW pS pA pQ pC pR pT pD : Nat) (sz : Nat) (kb : (Nat → Int32)) (kw : (Nat → Int32)) (ks : (Nat → Int32)) (ka : (Nat → Int32)) (kq : (Nat → Int32)) (kc : (Nat → Int32)) (kr : (Nat → Int32)) (kt : (Nat → Int32)) (kd : (Nat → Int32)) (many : Int32) (tsz : Int32) (thr : Int32) (post : Int32 → (Nat → Int32) → (Nat → Int32) → (Nat → Int32) → (Nat → Int32) → (Nat → Int32) → (Nat → Int32) → (Nat → Int32) → (Nat → Int32) → (Nat → Int32) → Int32 → Int32 → Int32 → Prop) (hw : wp_M_wider post kb kw ks ka kq kc kr kt kd many tsz thr) : Met l yn_M_wider ws_M_wider rm_M_wider (va_Pc [.ref h1] (pc_W (dC, dI) (ty_4 cJ cI cZ cB) (wd_M h1 pB pW pS pA pQ pC pR pT pD cJ cI cZ cB kb kw ks ka kq kc kr kt kd many tsz thr) sz)) (qi_M dC dI cJ cI cZ cB h1 pB pW pS pA pQ pC pR pT pD post (va_A (wd_M h1 pB pW pS pA pQ pC pR pT pD cJ cI cZ cB kb kw ks ka kq kc kr kt kd many tsz thr) sz)) 0 0 (va_A (wd_M h1 pB pW pS pA pQ pC pR pT pD cJ cI cZ cB kb kw ks ka kq kc kr kt kd many tsz thr) sz) := by
  refine Met.ofW (cc := cd_M_wider) (maxL := 1) (ret := (some .int)) (by decide) rfl ?_
  intro p e s m args below meth c s₁ B hml hv
  obtain ⟨rfl, hsz, hP, hK, hD0, hE⟩ := hv
  have hx := B.exec
  have hb := B.bytes
  have hr := B.returns
  have hts := atoms_spec (ws := ws_M_wider) B.pre
  have hq : ∀ {w : Cond}, w ∈ wg_all → w.before ([.ref h1] : List Value).toArray s = true := fun h => hts _ (List.mem_cons_of_mem _ h)
  have hu : ∀ L : List Cond, (∀ w ∈ L, w ∈ wg_all) → ∀ w ∈ L, w ∈ ws_M_wider := fun L h w hw => List.mem_cons_of_mem _ (h w hw)
  have hown : s.vm.findClass "FourWordsModel" = some m.cls := findClass_of_methodNamed B.named
  have hlocks := B.notSynchronized
  subst hsz
  have hD := hD0.self (sz := s.heap.size)
  generalize hAe : va_A (wd_M h1 pB pW pS pA pQ pC pR pT pD cJ cI cZ cB kb kw ks ka kq kc kr kt kd many tsz thr) s.heap.size = A at hD ⊢
  have hA : ∀ q : Nat, s.heap.size ≤ q → A q := fun q h => by rw [← hAe]; exact Or.inr h
  have hS : va_S A s.heap s.heap [] := va_S.rf
  have hl := lv_entry [.ref h1] (n := 1) (Nat.le_of_ble_eq_true rfl)
  rw [lg_entry_eq]
  generalize (lg_sl [.ref h1] ++ List.replicate (1 - (lg_sl [.ref h1]).length) Slot.unset).toArray = ls at hl ⊢
  have hl : lv_has ls 1 [(0, .ref h1)] := hl
  have B_50 : ∀ (H : Heap) (locs : List Loc) (ls : Array Slot) (t0 : Int32) (kb : (Nat → Int32)) (kw : (Nat → Int32)) (ks : (Nat → Int32)) (ka : (Nat → Int32)) (kq : (Nat → Int32)) (kc : (Nat → Int32)) (kr : (Nat → Int32)) (kt : (Nat → Int32)) (kd : (Nat → Int32)) (many : Int32) (tsz : Int32) (thr : Int32), wp_M_wider_50 post t0 kb kw ks ka kq kc kr kt kd many tsz thr → va_P (dC, dI) cs_3 (wd_M h1 pB pW pS pA pQ pC pR pT pD cJ cI cZ cB kb kw ks ka kq kc kr kt kd many tsz thr) H → va_D A (wd_M h1 pB pW pS pA pQ pC pR pT pD cJ cI cZ cB kb kw ks ka kq kc kr kt kd many tsz thr) → va_S A s.heap H locs → lv_has ls 1 [] → W p l e (headSpec ws_M_wider rm_M_wider).room s m ([.ref h1] : List Value).toArray below meth c H locs 0 0 (MQ below (qi_M dC dI cJ cI cZ cB h1 pB pW pS pA pQ pC pR pT pD post A) ([.ref h1] : List Value).toArray s 0 0 A) (F0 m 50 ls [.int t0]) := by
    intro H locs ls t0 kb kw ks ka kq kc kr kt kd many tsz thr hw hP hD hS hl
    unfold wp_M_wider_50 at hw
    exact W.iret (v := t0) hx hb hr (fun t ht hW => ⟨⟨t0, (kb, kw, ks, ka, kq, kc, kr, kt, kd, many, tsz, thr), rfl, hw, by rw [ht]; exact hP, va_K.moved hW.alike hK, hD⟩, hS.F ht⟩) hS.2.2 dc_M_wider_50
  unfold wp_M_wider at hw
  refine lv_aload_n hx hb dc_M_wider_0 rfl (lv_at hl 0 rfl) ?_
  refine va_get (D := (dC, dI)) (ci := 2) (v := .ref pW) (C := "FourWordsModel") (T := tb_M) (N := 12) hx hb hts (hu _ um_M) hown hK hP 0 rfl rfl 1 (by decide) (hq mw_t461) (fun _ h9 => h9) rfl dc_M_wider_1 ?_
  refine lv_aload_n hx hb dc_M_wider_4 rfl (lv_at hl 0 rfl) ?_
  refine va_get (D := (dC, dI)) (ci := 2) (v := .int many) (C := "FourWordsModel") (T := tb_M) (N := 12) hx hb hts (hu _ um_M) hown hK hP 0 rfl rfl 8 (by decide) (hq mw_t468) (fun _ h9 => h9) rfl dc_M_wider_5 ?_
  refine lv_iconst (v := 1) hx hb dc_M_wider_8 (by decide) ?_
  refine lv_isub hx hb dc_M_wider_9 ?_
  obtain ⟨hin, hw⟩ := hw
  refine va_iald hx hb hK hP 2 1 rfl rfl hin dc_M_wider_10 ?_
  refine lv_aload_n hx hb dc_M_wider_11 rfl (lv_at hl 0 rfl) ?_
  refine va_get (D := (dC, dI)) (ci := 2) (v := .ref pW) (C := "FourWordsModel") (T := tb_M) (N := 12) hx hb hts (hu _ um_M) hown hK hP 0 rfl rfl 1 (by decide) (hq mw_t461) (fun _ h9 => h9) rfl dc_M_wider_12 ?_
  refine lv_aload_n hx hb dc_M_wider_15 rfl (lv_at hl 0 rfl) ?_
  refine va_get (D := (dC, dI)) (ci := 2) (v := .int many) (C := "FourWordsModel") (T := tb_M) (N := 12) hx hb hts (hu _ um_M) hown hK hP 0 rfl rfl 8 (by decide) (hq mw_t468) (fun _ h9 => h9) rfl dc_M_wider_16 ?_
  refine lv_iconst (v := 2) hx hb dc_M_wider_19 (by decide) ?_
  refine lv_isub hx hb dc_M_wider_20 ?_
  obtain ⟨hin, hw⟩ := hw
  refine va_iald hx hb hK hP 2 1 rfl rfl hin dc_M_wider_21 ?_
  obtain ⟨hw1, hw2⟩ := hw
  refine lv_icmp_le (tgt := 39) hx hb dc_M_wider_22 (by decide) (fun hc => ?_) (fun hc => ?_)
  · have hw := hw1 hc
    clear hw1 hw2
    refine lv_aload_n hx hb dc_M_wider_39 rfl (lv_at hl 0 rfl) ?_
    refine va_get (D := (dC, dI)) (ci := 2) (v := .ref pW) (C := "FourWordsModel") (T := tb_M) (N := 12) hx hb hts (hu _ um_M) hown hK hP 0 rfl rfl 1 (by decide) (hq mw_t461) (fun _ h9 => h9) rfl dc_M_wider_40 ?_
    refine lv_aload_n hx hb dc_M_wider_43 rfl (lv_at hl 0 rfl) ?_
    refine va_get (D := (dC, dI)) (ci := 2) (v := .int many) (C := "FourWordsModel") (T := tb_M) (N := 12) hx hb hts (hu _ um_M) hown hK hP 0 rfl rfl 8 (by decide) (hq mw_t468) (fun _ h9 => h9) rfl dc_M_wider_44 ?_
    refine lv_iconst (v := 2) hx hb dc_M_wider_47 (by decide) ?_
    refine lv_isub hx hb dc_M_wider_48 ?_
    obtain ⟨hin, hw⟩ := hw
    refine va_iald hx hb hK hP 2 1 rfl rfl hin dc_M_wider_49 ?_
    exact B_50 _ _ _ (kw (many - (2 : Int32)).toNatClampNeg) kb kw ks ka kq kc kr kt kd many tsz thr hw hP hD hS (lv_sub hl [] rfl)
  · have hw := hw2 hc
    clear hw1 hw2
    refine lv_aload_n hx hb dc_M_wider_25 rfl (lv_at hl 0 rfl) ?_
    refine va_get (D := (dC, dI)) (ci := 2) (v := .ref pW) (C := "FourWordsModel") (T := tb_M) (N := 12) hx hb hts (hu _ um_M) hown hK hP 0 rfl rfl 1 (by decide) (hq mw_t461) (fun _ h9 => h9) rfl dc_M_wider_26 ?_
    refine lv_aload_n hx hb dc_M_wider_29 rfl (lv_at hl 0 rfl) ?_
    refine va_get (D := (dC, dI)) (ci := 2) (v := .int many) (C := "FourWordsModel") (T := tb_M) (N := 12) hx hb hts (hu _ um_M) hown hK hP 0 rfl rfl 8 (by decide) (hq mw_t468) (fun _ h9 => h9) rfl dc_M_wider_30 ?_
    refine lv_iconst (v := 1) hx hb dc_M_wider_33 (by decide) ?_
    refine lv_isub hx hb dc_M_wider_34 ?_
    obtain ⟨hin, hw⟩ := hw
    refine va_iald hx hb hK hP 2 1 rfl rfl hin dc_M_wider_35 ?_
    refine lv_goto (tgt := 50) hx hb dc_M_wider_36 (by decide) ?_
    exact B_50 _ _ _ (kw (many - (1 : Int32)).toNatClampNeg) kb kw ks ka kq kc kr kt kd many tsz thr hw hP hD hS (lv_sub hl [] rfl)

set_option maxHeartbeats 4000000 in
set_option maxRecDepth 100000 in
theorem kt_N_clear (l : Launch) (dC : Nat → ClassId) (dI : Nat → Nat → Nat) (cJ cI cZ cB : ClassId) (qN qL : Nat) (sz : Nat) (fL : (Nat → Int32)) (len : Int32) (post : (Nat → Int32) → Int32 → Prop) (hw : wp_N_clear post fL len) : Met l yn_N_clear ws_N_clear rm_N_clear (va_Pc [.ref qN] (pc_W (dC, dI) (ty_4 cJ cI cZ cB) (wd_N qN qL cJ cI cZ cB fL len) sz)) (qv_N dC dI cJ cI cZ cB qN qL post (va_A (wd_N qN qL cJ cI cZ cB fL len) sz)) 0 0 (va_A (wd_N qN qL cJ cI cZ cB fL len) sz) := by
  refine Met.ofW (cc := cd_N_clear) (maxL := 1) (ret := none) (by decide) rfl ?_
  intro p e s m args below meth c s₁ B hml hv
  obtain ⟨rfl, hsz, hP, hK, hD0, hE⟩ := hv
  have hx := B.exec
  have hb := B.bytes
  have hr := B.returns
  have hts := atoms_spec (ws := ws_N_clear) B.pre
  have hq : ∀ {w : Cond}, w ∈ wg_all → w.before ([.ref qN] : List Value).toArray s = true := fun h => hts _ (List.mem_cons_of_mem _ h)
  have hu : ∀ L : List Cond, (∀ w ∈ L, w ∈ wg_all) → ∀ w ∈ L, w ∈ ws_N_clear := fun L h w hw => List.mem_cons_of_mem _ (h w hw)
  have hown : s.vm.findClass "FourWords$Line" = some m.cls := findClass_of_methodNamed B.named
  have hlocks := B.notSynchronized
  subst hsz
  have hD := hD0.self (sz := s.heap.size)
  generalize hAe : va_A (wd_N qN qL cJ cI cZ cB fL len) s.heap.size = A at hD ⊢
  have hA : ∀ q : Nat, s.heap.size ≤ q → A q := fun q h => by rw [← hAe]; exact Or.inr h
  have hS : va_S A s.heap s.heap [] := va_S.rf
  have hl := lv_entry [.ref qN] (n := 1) (Nat.le_of_ble_eq_true rfl)
  rw [lg_entry_eq]
  generalize (lg_sl [.ref qN] ++ List.replicate (1 - (lg_sl [.ref qN]).length) Slot.unset).toArray = ls at hl ⊢
  have hl : lv_has ls 1 [(0, .ref qN)] := hl
  unfold wp_N_clear at hw
  refine lv_aload_n hx hb dc_N_clear_0 rfl (lv_at hl 0 rfl) ?_
  refine lv_iconst (v := 0) hx hb dc_N_clear_1 (by decide) ?_
  refine va_put (D := (dC, dI)) (ci := 0) (v := .int (0 : Int32)) (ty := .int) (C := "FourWords$Line") (T := tb_N) (N := 2) hx hb hts (hu _ um_N) ft_N fk_N fn_N hown hK hP hD hS 0 rfl rfl 1 (by decide) (hq mw_t29) (fun _ h9 => h9) rfl (by decide +kernel) rfl rfl (Nat.le_of_ble_eq_true rfl) dc_N_clear_2 (fun H locs hP hD hS => ?_)
  have hP : va_P (dC, dI) cs_3 (wd_N qN qL cJ cI cZ cB fL (0 : Int32)) H := hP
  have hD : va_D A (wd_N qN qL cJ cI cZ cB fL (0 : Int32)) := hD
  exact W.vret hx hb hr (fun t ht hW => ⟨⟨(fL, (0 : Int32)), rfl, hw, by rw [ht]; exact hP, va_K.moved hW.alike hK, hD⟩, hS.F ht⟩) hS.2.2 dc_N_clear_5
set_option maxHeartbeats 4000000 in
set_option maxRecDepth 100000 in
theorem kt_N_write (l : Launch) (dC : Nat → ClassId) (dI : Nat → Nat → Nat) (cJ cI cZ cB : ClassId) (qN qL : Nat) (sz : Nat) (a1 : Int32) (fL : (Nat → Int32)) (len : Int32) (post : (Nat → Int32) → Int32 → Prop) (hw : wp_N_write post a1 fL len) : Met l yn_N_write ws_N_write rm_N_write (va_Pc [.ref qN, .int a1] (pc_W (dC, dI) (ty_4 cJ cI cZ cB) (wd_N qN qL cJ cI cZ cB fL len) sz)) (qv_N dC dI cJ cI cZ cB qN qL post (va_A (wd_N qN qL cJ cI cZ cB fL len) sz)) 0 0 (va_A (wd_N qN qL cJ cI cZ cB fL len) sz) := by
  refine Met.ofW (cc := cd_N_write) (maxL := 2) (ret := none) (by decide) rfl ?_
  intro p e s m args below meth c s₁ B hml hv
  obtain ⟨rfl, hsz, hP, hK, hD0, hE⟩ := hv
  have hx := B.exec
  have hb := B.bytes
  have hr := B.returns
  have hts := atoms_spec (ws := ws_N_write) B.pre
  have hq : ∀ {w : Cond}, w ∈ wg_all → w.before ([.ref qN, .int a1] : List Value).toArray s = true := fun h => hts _ (List.mem_cons_of_mem _ h)
  have hu : ∀ L : List Cond, (∀ w ∈ L, w ∈ wg_all) → ∀ w ∈ L, w ∈ ws_N_write := fun L h w hw => List.mem_cons_of_mem _ (h w hw)
  have hown : s.vm.findClass "FourWords$Line" = some m.cls := findClass_of_methodNamed B.named
  have hlocks := B.notSynchronized
  subst hsz
  have hD := hD0.self (sz := s.heap.size)
  generalize hAe : va_A (wd_N qN qL cJ cI cZ cB fL len) s.heap.size = A at hD ⊢
  have hA : ∀ q : Nat, s.heap.size ≤ q → A q := fun q h => by rw [← hAe]; exact Or.inr h
  have hS : va_S A s.heap s.heap [] := va_S.rf
  have hl := lv_entry [.ref qN, .int a1] (n := 2) (Nat.le_of_ble_eq_true rfl)
  rw [lg_entry_eq]
  generalize (lg_sl [.ref qN, .int a1] ++ List.replicate (2 - (lg_sl [.ref qN, .int a1]).length) Slot.unset).toArray = ls at hl ⊢
  have hl : lv_has ls 2 [(0, .ref qN), (1, .int a1)] := hl
  unfold wp_N_write at hw
  refine lv_aload_n hx hb dc_N_write_0 rfl (lv_at hl 0 rfl) ?_
  refine va_get (D := (dC, dI)) (ci := 0) (v := .ref qL) (C := "FourWords$Line") (T := tb_N) (N := 2) hx hb hts (hu _ um_N) hown hK hP 0 rfl rfl 0 (by decide) (hq mw_t27) (fun _ h9 => h9) rfl dc_N_write_1 ?_
  refine lv_aload_n hx hb dc_N_write_4 rfl (lv_at hl 0 rfl) ?_
  refine va_get (D := (dC, dI)) (ci := 0) (v := .int len) (C := "FourWords$Line") (T := tb_N) (N := 2) hx hb hts (hu _ um_N) hown hK hP 0 rfl rfl 1 (by decide) (hq mw_t29) (fun _ h9 => h9) rfl dc_N_write_5 ?_
  refine lv_iload_n hx hb dc_N_write_8 rfl (lv_at hl 1 rfl) ?_
  refine lv_i2b hx hb dc_N_write_9 rfl ?_
  obtain ⟨hin, hw⟩ := hw
  refine va_bast hx hb hK hP hD hS 1 3 rfl rfl hin dc_N_write_10 (fun H locs hP hD hS => ?_)
  have hP : va_P (dC, dI) cs_3 (wd_N qN qL cJ cI cZ cB (upd fL len.toNatClampNeg (vp_nar .byte a1.toInt8.toInt32)) len) H := hP
  have hD : va_D A (wd_N qN qL cJ cI cZ cB (upd fL len.toNatClampNeg (vp_nar .byte a1.toInt8.toInt32)) len) := hD
  refine lv_aload_n hx hb dc_N_write_11 rfl (lv_at hl 0 rfl) ?_
  refine lv_dup hx hb dc_N_write_12 rfl ?_
  refine va_get (D := (dC, dI)) (ci := 0) (v := .int len) (C := "FourWords$Line") (T := tb_N) (N := 2) hx hb hts (hu _ um_N) hown hK hP 0 rfl rfl 1 (by decide) (hq mw_t29) (fun _ h9 => h9) rfl dc_N_write_13 ?_
  refine lv_iconst (v := 1) hx hb dc_N_write_16 (by decide) ?_
  refine lv_iadd hx hb dc_N_write_17 ?_
  refine va_put (D := (dC, dI)) (ci := 0) (v := .int (len + (1 : Int32))) (ty := .int) (C := "FourWords$Line") (T := tb_N) (N := 2) hx hb hts (hu _ um_N) ft_N fk_N fn_N hown hK hP hD hS 0 rfl rfl 1 (by decide) (hq mw_t29) (fun _ h9 => h9) rfl (by decide +kernel) rfl rfl (Nat.le_of_ble_eq_true rfl) dc_N_write_18 (fun H locs hP hD hS => ?_)
  have hP : va_P (dC, dI) cs_3 (wd_N qN qL cJ cI cZ cB (upd fL len.toNatClampNeg (vp_nar .byte a1.toInt8.toInt32)) (len + (1 : Int32))) H := hP
  have hD : va_D A (wd_N qN qL cJ cI cZ cB (upd fL len.toNatClampNeg (vp_nar .byte a1.toInt8.toInt32)) (len + (1 : Int32))) := hD
  exact W.vret hx hb hr (fun t ht hW => ⟨⟨(upd fL len.toNatClampNeg (vp_nar .byte a1.toInt8.toInt32), len + (1 : Int32)), rfl, hw, by rw [ht]; exact hP, va_K.moved hW.alike hK, hD⟩, hS.F ht⟩) hS.2.2 dc_N_write_21
set_option maxHeartbeats 4000000 in
set_option maxRecDepth 100000 in
theorem kt_N_writeSpaces (l : Launch) (dC : Nat → ClassId) (dI : Nat → Nat → Nat) (cJ cI cZ cB : ClassId) (qN qL : Nat) (sz : Nat) (a1 : Int32) (fL : (Nat → Int32)) (len : Int32) (post : (Nat → Int32) → Int32 → Prop) (hw : wp_N_writeSpaces post a1 fL len) : Met l yn_N_writeSpaces ws_N_writeSpaces rm_N_writeSpaces (va_Pc [.ref qN, .int a1] (pc_W (dC, dI) (ty_4 cJ cI cZ cB) (wd_N qN qL cJ cI cZ cB fL len) sz)) (qv_N dC dI cJ cI cZ cB qN qL post (va_A (wd_N qN qL cJ cI cZ cB fL len) sz)) 0 0 (va_A (wd_N qN qL cJ cI cZ cB fL len) sz) := by
  refine Met.ofW (cc := cd_N_writeSpaces) (maxL := 3) (ret := none) (by decide) rfl ?_
  intro p e s m args below meth c s₁ B hml hv
  obtain ⟨rfl, hsz, hP, hK, hD0, hE⟩ := hv
  have hx := B.exec
  have hb := B.bytes
  have hr := B.returns
  have hts := atoms_spec (ws := ws_N_writeSpaces) B.pre
  have hq : ∀ {w : Cond}, w ∈ wg_all → w.before ([.ref qN, .int a1] : List Value).toArray s = true := fun h => hts _ (List.mem_cons_of_mem _ h)
  have hu : ∀ L : List Cond, (∀ w ∈ L, w ∈ wg_all) → ∀ w ∈ L, w ∈ ws_N_writeSpaces := fun L h w hw => List.mem_cons_of_mem _ (h w hw)
  have hown : s.vm.findClass "FourWords$Line" = some m.cls := findClass_of_methodNamed B.named
  have hlocks := B.notSynchronized
  subst hsz
  have hD := hD0.self (sz := s.heap.size)
  generalize hAe : va_A (wd_N qN qL cJ cI cZ cB fL len) s.heap.size = A at hD ⊢
  have hA : ∀ q : Nat, s.heap.size ≤ q → A q := fun q h => by rw [← hAe]; exact Or.inr h
  have hS : va_S A s.heap s.heap [] := va_S.rf
  have hl := lv_entry [.ref qN, .int a1] (n := 3) (Nat.le_of_ble_eq_true rfl)
  rw [lg_entry_eq]
  generalize (lg_sl [.ref qN, .int a1] ++ List.replicate (3 - (lg_sl [.ref qN, .int a1]).length) Slot.unset).toArray = ls at hl ⊢
  have hl : lv_has ls 3 [(0, .ref qN), (1, .int a1)] := hl
  have B_2 : ∀ (n2 : Nat) (H : Heap) (locs : List Loc) (ls : Array Slot) (x1 : Int32) (x2 : Int32) (fL : (Nat → Int32)) (len : Int32), wp_N_writeSpaces_2 post n2 x1 x2 fL len → va_P (dC, dI) cs_3 (wd_N qN qL cJ cI cZ cB fL len) H → va_D A (wd_N qN qL cJ cI cZ cB fL len) → va_S A s.heap H locs → lv_has ls 3 [(0, .ref qN), (1, .int x1), (2, .int x2)] → W p l e (headSpec ws_N_writeSpaces rm_N_writeSpaces).room s m ([.ref qN, .int a1] : List Value).toArray below meth c H locs 0 0 (MQ below (qv_N dC dI cJ cI cZ cB qN qL post A) ([.ref qN, .int a1] : List Value).toArray s 0 0 A) (F0 m 2 ls []) := by
    intro n2
    induction n2 with
    | zero => intro H locs ls x1 x2 fL len hw; exact False.elim hw
    | succ n2 ih =>
      intro H locs ls x1 x2 fL len hw hP hD hS hl
      unfold wp_N_writeSpaces_2 at hw
      refine lv_iload_n hx hb dc_N_writeSpaces_2 rfl (lv_at hl 2 rfl) ?_
      refine lv_iload_n hx hb dc_N_writeSpaces_3 rfl (lv_at hl 1 rfl) ?_
      obtain ⟨hw1, hw2⟩ := hw
      refine lv_icmp_ge (tgt := 19) hx hb dc_N_writeSpaces_4 (by decide) (fun hc => ?_) (fun hc => ?_)
      · have hw := hw1 hc
        clear hw1 hw2
        exact W.vret hx hb hr (fun t ht hW => ⟨⟨(fL, len), rfl, hw, by rw [ht]; exact hP, va_K.moved hW.alike hK, hD⟩, hS.F ht⟩) hS.2.2 dc_N_writeSpaces_19
      · have hw := hw2 hc
        clear hw1 hw2
        refine lv_aload_n hx hb dc_N_writeSpaces_7 rfl (lv_at hl 0 rfl) ?_
        refine lv_bipush (v := 32) hx hb dc_N_writeSpaces_8 (by decide) ?_
        refine gc_v (S := (Nat → Int32) × Int32) (w1 := (fun u => (wd_N qN qL cJ cI cZ cB u.1 u.2))) (wc := (wd_N qN qL cJ cI cZ cB fL len)) (wr := ([] : va_W)) (va_runV (As := [.int (32 : Int32)]) (rest := []) ⟨hx, hb, hml, hown, hts⟩ (kt_N_write l dC dI cJ cI cZ cB qN qL _ (32 : Int32) fL len _ hw) ⟨callB_of 1 hts (gw_in mw_t398) rfl rfl rfl (hq mw_t2) (hq mw_t395) (by decide +kernel) ⟨Nat.le_of_ble_eq_true rfl, Nat.le_of_ble_eq_true rfl⟩, hq mw_t397, hq mw_s31⟩ (pv_W (va_recv (q0 := 0) (ci := 0) hK hP rfl rfl) (hP.sub (ws' := (wd_N qN qL cJ cI cZ cB fL len)) [0, 1] rfl) hK (hD.sub (ws' := (wd_N qN qL cJ cI cZ cB fL len)) [0, 1] (by decide) rfl) hE) rfl rfl hl.1 rfl (lv_room (Nat.le_of_ble_eq_true rfl)) dc_N_writeSpaces_10 ⟨Nat.le_of_ble_eq_true rfl, Nat.le_of_ble_eq_true rfl⟩) hP hD hS hA [0, 1] [] rfl rfl (by decide) (by decide) (fun u H locs hw hP hD hS => ?_)
        obtain ⟨fL10, len10⟩ := u
        have hP : va_P (dC, dI) cs_3 (wd_N qN qL cJ cI cZ cB fL10 len10) H := hP.sub (ws' := (wd_N qN qL cJ cI cZ cB fL10 len10)) [0, 1] rfl
        have hD : va_D A (wd_N qN qL cJ cI cZ cB fL10 len10) := hD.sub (ws' := (wd_N qN qL cJ cI cZ cB fL10 len10)) [0, 1] (by decide) rfl
        try dsimp only at hw
        refine lv_iinc (lv' := [(2, .int (x2 + 1)), (0, .ref qN), (1, .int x1)]) hx hb dc_N_writeSpaces_13 hl (k := 2) rfl (ic_p1 _) (Nat.le_of_ble_eq_true rfl) rfl (fun ls hl => ?_)
        refine lv_goto (tgt := 2) hx hb dc_N_writeSpaces_16 (by decide) ?_
        exact ih _ _ _ x1 (x2 + 1) fL10 len10 hw hP hD hS (lv_sub hl [1, 2, 0] rfl)
  unfold wp_N_writeSpaces at hw
  refine lv_iconst (v := 0) hx hb dc_N_writeSpaces_0 (by decide) ?_
  refine lv_istore_n (lv' := [(2, .int (0 : Int32)), (0, .ref qN), (1, .int a1)]) hx hb dc_N_writeSpaces_1 rfl hl (Nat.le_of_ble_eq_true rfl) rfl (fun ls hl => ?_)
  obtain ⟨n2, hw⟩ := hw
  exact B_2 n2 _ _ _ a1 (0 : Int32) fL len hw hP hD hS (lv_sub hl [1, 2, 0] rfl)
set_option maxHeartbeats 4000000 in
set_option maxRecDepth 100000 in
theorem kt_N_writeDigits (l : Launch) (dC : Nat → ClassId) (dI : Nat → Nat → Nat) (cJ cI cZ cB : ClassId) (qN qL : Nat) (sz : Nat) (a1 : Int64) (a3 : Int32) (fL : (Nat → Int32)) (len : Int32) (post : (Nat → Int32) → Int32 → Prop) (hw : wp_N_writeDigits post a1 a3 fL len) : Met l yn_N_writeDigits ws_N_writeDigits rm_N_writeDigits (va_Pc [.ref qN, .long a1, .int a3] (pc_W (dC, dI) (ty_4 cJ cI cZ cB) (wd_N qN qL cJ cI cZ cB fL len) sz)) (qv_N dC dI cJ cI cZ cB qN qL post (va_A (wd_N qN qL cJ cI cZ cB fL len) sz)) 0 0 (va_A (wd_N qN qL cJ cI cZ cB fL len) sz) := by
  refine Met.ofW (cc := cd_N_writeDigits) (maxL := 9) (ret := none) (by decide) rfl ?_
  intro p e s m args below meth c s₁ B hml hv
  obtain ⟨rfl, hsz, hP, hK, hD0, hE⟩ := hv
  have hx := B.exec
  have hb := B.bytes
  have hr := B.returns
  have hts := atoms_spec (ws := ws_N_writeDigits) B.pre
  have hq : ∀ {w : Cond}, w ∈ wg_all → w.before ([.ref qN, .long a1, .int a3] : List Value).toArray s = true := fun h => hts _ (List.mem_cons_of_mem _ h)
  have hu : ∀ L : List Cond, (∀ w ∈ L, w ∈ wg_all) → ∀ w ∈ L, w ∈ ws_N_writeDigits := fun L h w hw => List.mem_cons_of_mem _ (h w hw)
  have hown : s.vm.findClass "FourWords$Line" = some m.cls := findClass_of_methodNamed B.named
  have hlocks := B.notSynchronized
  subst hsz
  have hD := hD0.self (sz := s.heap.size)
  generalize hAe : va_A (wd_N qN qL cJ cI cZ cB fL len) s.heap.size = A at hD ⊢
  have hA : ∀ q : Nat, s.heap.size ≤ q → A q := fun q h => by rw [← hAe]; exact Or.inr h
  have hS : va_S A s.heap s.heap [] := va_S.rf
  have hl := lv_entry [.ref qN, .long a1, .int a3] (n := 9) (Nat.le_of_ble_eq_true rfl)
  rw [lg_entry_eq]
  generalize (lg_sl [.ref qN, .long a1, .int a3] ++ List.replicate (9 - (lg_sl [.ref qN, .long a1, .int a3]).length) Slot.unset).toArray = ls at hl ⊢
  have hl : lv_has ls 9 [(0, .ref qN), (1, .long a1), (3, .int a3)] := hl
  have B_13 : ∀ (n13 : Nat) (H : Heap) (locs : List Loc) (ls : Array Slot) (x3 : Int32) (x4 : Int64) (x6 : Int32) (fL : (Nat → Int32)) (len : Int32), wp_N_writeDigits_13 post n13 x3 x4 x6 fL len → va_P (dC, dI) cs_3 (wd_N qN qL cJ cI cZ cB fL len) H → va_D A (wd_N qN qL cJ cI cZ cB fL len) → va_S A s.heap H locs → lv_has ls 9 [(0, .ref qN), (3, .int x3), (4, .long x4), (6, .int x6)] → W p l e (headSpec ws_N_writeDigits rm_N_writeDigits).room s m ([.ref qN, .long a1, .int a3] : List Value).toArray below meth c H locs 0 0 (MQ below (qv_N dC dI cJ cI cZ cB qN qL post A) ([.ref qN, .long a1, .int a3] : List Value).toArray s 0 0 A) (F0 m 13 ls []) := by
    intro n13
    induction n13 with
    | zero => intro H locs ls x3 x4 x6 fL len hw; exact False.elim hw
    | succ n13 ih =>
      intro H locs ls x3 x4 x6 fL len hw hP hD hS hl
      unfold wp_N_writeDigits_13 at hw
      refine lv_iload hx hb dc_N_writeDigits_13 (lv_at hl 3 rfl) ?_
      refine lv_aload_n hx hb dc_N_writeDigits_15 rfl (lv_at hl 0 rfl) ?_
      refine va_get (D := (dC, dI)) (ci := 0) (v := .int len) (C := "FourWords$Line") (T := tb_N) (N := 2) hx hb hts (hu _ um_N) hown hK hP 0 rfl rfl 1 (by decide) (hq mw_t29) (fun _ h9 => h9) rfl dc_N_writeDigits_16 ?_
      obtain ⟨hw1, hw2⟩ := hw
      refine lv_icmp_lt (tgt := 64) hx hb dc_N_writeDigits_19 (by decide) (fun hc => ?_) (fun hc => ?_)
      · have hw := hw1 hc
        clear hw1 hw2
        refine lv_aload_n hx hb dc_N_writeDigits_64 rfl (lv_at hl 0 rfl) ?_
        refine lv_dup hx hb dc_N_writeDigits_65 rfl ?_
        refine va_get (D := (dC, dI)) (ci := 0) (v := .int len) (C := "FourWords$Line") (T := tb_N) (N := 2) hx hb hts (hu _ um_N) hown hK hP 0 rfl rfl 1 (by decide) (hq mw_t29) (fun _ h9 => h9) rfl dc_N_writeDigits_66 ?_
        refine lv_iload_n hx hb dc_N_writeDigits_69 rfl (lv_at hl 1 rfl) ?_
        refine lv_iadd hx hb dc_N_writeDigits_70 ?_
        refine va_put (D := (dC, dI)) (ci := 0) (v := .int (len + x3)) (ty := .int) (C := "FourWords$Line") (T := tb_N) (N := 2) hx hb hts (hu _ um_N) ft_N fk_N fn_N hown hK hP hD hS 0 rfl rfl 1 (by decide) (hq mw_t29) (fun _ h9 => h9) rfl (by decide +kernel) rfl rfl (Nat.le_of_ble_eq_true rfl) dc_N_writeDigits_71 (fun H locs hP hD hS => ?_)
        have hP : va_P (dC, dI) cs_3 (wd_N qN qL cJ cI cZ cB fL (len + x3)) H := hP
        have hD : va_D A (wd_N qN qL cJ cI cZ cB fL (len + x3)) := hD
        exact W.vret hx hb hr (fun t ht hW => ⟨⟨(fL, len + x3), rfl, hw, by rw [ht]; exact hP, va_K.moved hW.alike hK, hD⟩, hS.F ht⟩) hS.2.2 dc_N_writeDigits_74
      · have hw := hw2 hc
        clear hw1 hw2
        refine lv_lload hx hb dc_N_writeDigits_22 (lv_at hl 2 rfl) ?_
        refine lv_ldc2 (v := 10) hx hb hown (hq mw_t407) dc_N_writeDigits_24 ?_
        refine gc_l (S := Unit) (w1 := (fun u => ([] : va_W))) (wc := ([] : va_W)) (wr := ([(qN, .inr (0, [.ref qL, .int len])), (qL, .inl (cB, 64, .inl fL))] : va_W)) (va_runSN (As := [.long x4, .long (10 : Int64)]) (rest := []) ⟨hx, hb, hml, hown, hts⟩ (kt_B_quotient l dC dI cJ cI cZ cB _ x4 (10 : Int64) _ hw) ⟨va_cnB 2 hts (gw_in mw_t215) rfl rfl rfl (en_N25 hE) (hq mw_t9) (by decide +kernel) ⟨Nat.le_of_ble_eq_true rfl, Nat.le_of_ble_eq_true rfl⟩, hq mw_t214, trivial⟩ (ps_W (hP.sub (ws' := ([] : va_W)) [] rfl) hK (hD.sub (ws' := ([] : va_W)) [] (by decide) rfl) hE) rfl rfl hl.1 rfl (lv_room (Nat.le_of_ble_eq_true rfl)) dc_N_writeDigits_27 ⟨Nat.le_of_ble_eq_true rfl, Nat.le_of_ble_eq_true rfl⟩) hP hD hS hA [] [0, 1] rfl rfl (by decide) (by decide) (fun r27 u H locs hw hP hD hS => ?_)
        have hP : va_P (dC, dI) cs_3 (wd_N qN qL cJ cI cZ cB fL len) H := hP.sub (ws' := (wd_N qN qL cJ cI cZ cB fL len)) [0, 1] rfl
        have hD : va_D A (wd_N qN qL cJ cI cZ cB fL len) := hD.sub (ws' := (wd_N qN qL cJ cI cZ cB fL len)) [0, 1] (by decide) rfl
        try dsimp only at hw
        refine lv_lstore (lv' := [(7, .long r27), (0, .ref qN), (3, .int x3), (4, .long x4), (6, .int x6)]) hx hb dc_N_writeDigits_30 hl (Nat.le_of_ble_eq_true rfl) rfl (fun ls hl => ?_)
        refine lv_aload_n hx hb dc_N_writeDigits_32 rfl (lv_at hl 1 rfl) ?_
        refine va_get (D := (dC, dI)) (ci := 0) (v := .ref qL) (C := "FourWords$Line") (T := tb_N) (N := 2) hx hb hts (hu _ um_N) hown hK hP 0 rfl rfl 0 (by decide) (hq mw_t27) (fun _ h9 => h9) rfl dc_N_writeDigits_33 ?_
        refine lv_iload hx hb dc_N_writeDigits_36 (lv_at hl 4 rfl) ?_
        refine lv_ldc2 (v := 48) hx hb hown (hq mw_t409) dc_N_writeDigits_38 ?_
        refine lv_lload hx hb dc_N_writeDigits_41 (lv_at hl 3 rfl) ?_
        refine lv_ladd hx hb dc_N_writeDigits_43 ?_
        refine lv_lload hx hb dc_N_writeDigits_44 (lv_at hl 0 rfl) ?_
        refine lv_ldc2 (v := 10) hx hb hown (hq mw_t407) dc_N_writeDigits_46 ?_
        refine lv_lmul hx hb dc_N_writeDigits_49 ?_
        refine lv_lsub hx hb dc_N_writeDigits_50 ?_
        refine lv_l2i hx hb dc_N_writeDigits_51 rfl ?_
        refine lv_i2b hx hb dc_N_writeDigits_52 rfl ?_
        obtain ⟨hin, hw⟩ := hw
        refine va_bast hx hb hK hP hD hS 1 3 rfl rfl hin dc_N_writeDigits_53 (fun H locs hP hD hS => ?_)
        have hP : va_P (dC, dI) cs_3 (wd_N qN qL cJ cI cZ cB (upd fL x6.toNatClampNeg (vp_nar .byte (((((48 : Int64) + x4) - (r27 * (10 : Int64))).toInt32).toInt8.toInt32))) len) H := hP
        have hD : va_D A (wd_N qN qL cJ cI cZ cB (upd fL x6.toNatClampNeg (vp_nar .byte (((((48 : Int64) + x4) - (r27 * (10 : Int64))).toInt32).toInt8.toInt32))) len) := hD
        refine lv_lload hx hb dc_N_writeDigits_54 (lv_at hl 0 rfl) ?_
        refine lv_lstore (lv' := [(4, .long r27), (7, .long r27), (0, .ref qN), (3, .int x3), (6, .int x6)]) hx hb dc_N_writeDigits_56 hl (Nat.le_of_ble_eq_true rfl) rfl (fun ls hl => ?_)
        refine lv_iinc (lv' := [(6, .int (x6 + (-1))), (4, .long r27), (7, .long r27), (0, .ref qN), (3, .int x3)]) hx hb dc_N_writeDigits_58 hl (k := 4) rfl (ic_m1 _) (Nat.le_of_ble_eq_true rfl) rfl (fun ls hl => ?_)
        refine lv_goto (tgt := 13) hx hb dc_N_writeDigits_61 (by decide) ?_
        exact ih _ _ _ x3 r27 (x6 + (-1)) (upd fL x6.toNatClampNeg (vp_nar .byte (((((48 : Int64) + x4) - (r27 * (10 : Int64))).toInt32).toInt8.toInt32))) len hw hP hD hS (lv_sub hl [3, 4, 1, 0] rfl)
  unfold wp_N_writeDigits at hw
  refine lv_lload_n hx hb dc_N_writeDigits_0 rfl (lv_at hl 1 rfl) ?_
  refine lv_lstore (lv' := [(4, .long a1), (0, .ref qN), (1, .long a1), (3, .int a3)]) hx hb dc_N_writeDigits_1 hl (Nat.le_of_ble_eq_true rfl) rfl (fun ls hl => ?_)
  refine lv_aload_n hx hb dc_N_writeDigits_3 rfl (lv_at hl 1 rfl) ?_
  refine va_get (D := (dC, dI)) (ci := 0) (v := .int len) (C := "FourWords$Line") (T := tb_N) (N := 2) hx hb hts (hu _ um_N) hown hK hP 0 rfl rfl 1 (by decide) (hq mw_t29) (fun _ h9 => h9) rfl dc_N_writeDigits_4 ?_
  refine lv_iload_n hx hb dc_N_writeDigits_7 rfl (lv_at hl 3 rfl) ?_
  refine lv_iadd hx hb dc_N_writeDigits_8 ?_
  refine lv_iconst (v := 1) hx hb dc_N_writeDigits_9 (by decide) ?_
  refine lv_isub hx hb dc_N_writeDigits_10 ?_
  refine lv_topi (fun v11 e11 => ?_)
  have hw := hw v11 e11
  refine lv_istore (lv' := [(6, .int v11), (4, .long a1), (0, .ref qN), (1, .long a1), (3, .int a3)]) hx hb dc_N_writeDigits_11 hl (Nat.le_of_ble_eq_true rfl) rfl (fun ls hl => ?_)
  obtain ⟨n13, hw⟩ := hw
  exact B_13 n13 _ _ _ a3 a1 v11 fL len hw hP hD hS (lv_sub hl [2, 4, 1, 0] rfl)

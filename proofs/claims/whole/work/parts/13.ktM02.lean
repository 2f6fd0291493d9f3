set_option maxHeartbeats 4000000 in
set_option maxRecDepth 100000 in
theorem kt_M_reaches (l : Launch) (dC : Nat → ClassId) (dI : Nat → Nat → Nat) (cJ cI cZ cB : ClassId) (h1 pB pW pS pA pQ pC pR pT pD : Nat) (sz : Nat) (a1 : Int32) (kb : (Nat → Int32)) (kw : (Nat → Int32)) (ks : (Nat → Int32)) (ka : (Nat → Int32)) (kq : (Nat → Int32)) (kc : (Nat → Int32)) (kr : (Nat → Int32)) (kt : (Nat → Int32)) (kd : (Nat → Int32)) (many : Int32) (tsz : Int32) (thr : Int32) (post : Int32 → (Nat → Int32) → (Nat → Int32) → (Nat → Int32) → (Nat → Int32) → (Nat → Int32) → (Nat → Int32) → (Nat → Int32) → (Nat → Int32) → (Nat → Int32) → Int32 → Int32 → Int32 → Prop) (hw : wp_M_reaches post a1 kb kw ks ka kq kc kr kt kd many tsz thr) : Met l yn_M_reaches ws_M_reaches rm_M_reaches (va_Pc [.ref h1, .int a1] (pc_W (dC, dI) (ty_4 cJ cI cZ cB) (wd_M h1 pB pW pS pA pQ pC pR pT pD cJ cI cZ cB kb kw ks ka kq kc kr kt kd many tsz thr) sz)) (qi_M dC dI cJ cI cZ cB h1 pB pW pS pA pQ pC pR pT pD post (va_A (wd_M h1 pB pW pS pA pQ pC pR pT pD cJ cI cZ cB kb kw ks ka kq kc kr kt kd many tsz thr) sz)) 0 0 (va_A (wd_M h1 pB pW pS pA pQ pC pR pT pD cJ cI cZ cB kb kw ks ka kq kc kr kt kd many tsz thr) sz) := by
  refine Met.ofW (cc := cd_M_reaches) (maxL := 3) (ret := (some .boolean)) (by decide) rfl ?_
  intro p e s m args below meth c s₁ B hml hv
  obtain ⟨rfl, hsz, hP, hK, hD0, hE⟩ := hv
  have hx := B.exec
  have hb := B.bytes
  have hr := B.returns
  have hts := atoms_spec (ws := ws_M_reaches) B.pre
  have hq : ∀ {w : Cond}, w ∈ wg_all → w.before ([.ref h1, .int a1] : List Value).toArray s = true := fun h => hts _ (List.mem_cons_of_mem _ h)
  have hu : ∀ L : List Cond, (∀ w ∈ L, w ∈ wg_all) → ∀ w ∈ L, w ∈ ws_M_reaches := fun L h w hw => List.mem_cons_of_mem _ (h w hw)
  have hown : s.vm.findClass "FourWordsModel" = some m.cls := findClass_of_methodNamed B.named
  have hlocks := B.notSynchronized
  subst hsz
  have hD := hD0.self (sz := s.heap.size)
  generalize hAe : va_A (wd_M h1 pB pW pS pA pQ pC pR pT pD cJ cI cZ cB kb kw ks ka kq kc kr kt kd many tsz thr) s.heap.size = A at hD ⊢
  have hA : ∀ q : Nat, s.heap.size ≤ q → A q := fun q h => by rw [← hAe]; exact Or.inr h
  have hS : va_S A s.heap s.heap [] := va_S.rf
  have hl := lv_entry [.ref h1, .int a1] (n := 3) (Nat.le_of_ble_eq_true rfl)
  rw [lg_entry_eq]
  generalize (lg_sl [.ref h1, .int a1] ++ List.replicate (3 - (lg_sl [.ref h1, .int a1]).length) Slot.unset).toArray = ls at hl ⊢
  have hl : lv_has ls 3 [(0, .ref h1), (1, .int a1)] := hl
  have B_55 : ∀ (H : Heap) (locs : List Loc) (ls : Array Slot) (t0 : Int32) (kb : (Nat → Int32)) (kw : (Nat → Int32)) (ks : (Nat → Int32)) (ka : (Nat → Int32)) (kq : (Nat → Int32)) (kc : (Nat → Int32)) (kr : (Nat → Int32)) (kt : (Nat → Int32)) (kd : (Nat → Int32)) (many : Int32) (tsz : Int32) (thr : Int32), wp_M_reaches_55 post t0 kb kw ks ka kq kc kr kt kd many tsz thr → va_P (dC, dI) cs_3 (wd_M h1 pB pW pS pA pQ pC pR pT pD cJ cI cZ cB kb kw ks ka kq kc kr kt kd many tsz thr) H → va_D A (wd_M h1 pB pW pS pA pQ pC pR pT pD cJ cI cZ cB kb kw ks ka kq kc kr kt kd many tsz thr) → va_S A s.heap H locs → lv_has ls 3 [] → W p l e (headSpec ws_M_reaches rm_M_reaches).room s m ([.ref h1, .int a1] : List Value).toArray below meth c H locs 0 0 (MQ below (qi_M dC dI cJ cI cZ cB h1 pB pW pS pA pQ pC pR pT pD post A) ([.ref h1, .int a1] : List Value).toArray s 0 0 A) (F0 m 55 ls [.int t0]) := by
    intro H locs ls t0 kb kw ks ka kq kc kr kt kd many tsz thr hw hP hD hS hl
    unfold wp_M_reaches_55 at hw
    obtain ⟨hnw, hw⟩ := hw
    exact W.zret (v := t0) hx hb hr hnw (fun t ht hW => ⟨⟨t0, (kb, kw, ks, ka, kq, kc, kr, kt, kd, many, tsz, thr), rfl, hw, by rw [ht]; exact hP, va_K.moved hW.alike hK, hD⟩, hS.F ht⟩) hS.2.2 dc_M_reaches_55
  have B_16 : ∀ (n16 : Nat) (H : Heap) (locs : List Loc) (ls : Array Slot) (x2 : Int32) (kb : (Nat → Int32)) (kw : (Nat → Int32)) (ks : (Nat → Int32)) (ka : (Nat → Int32)) (kq : (Nat → Int32)) (kc : (Nat → Int32)) (kr : (Nat → Int32)) (kt : (Nat → Int32)) (kd : (Nat → Int32)) (many : Int32) (tsz : Int32) (thr : Int32), wp_M_reaches_16 post n16 x2 kb kw ks ka kq kc kr kt kd many tsz thr → va_P (dC, dI) cs_3 (wd_M h1 pB pW pS pA pQ pC pR pT pD cJ cI cZ cB kb kw ks ka kq kc kr kt kd many tsz thr) H → va_D A (wd_M h1 pB pW pS pA pQ pC pR pT pD cJ cI cZ cB kb kw ks ka kq kc kr kt kd many tsz thr) → va_S A s.heap H locs → lv_has ls 3 [(0, .ref h1), (2, .int x2)] → W p l e (headSpec ws_M_reaches rm_M_reaches).room s m ([.ref h1, .int a1] : List Value).toArray below meth c H locs 0 0 (MQ below (qi_M dC dI cJ cI cZ cB h1 pB pW pS pA pQ pC pR pT pD post A) ([.ref h1, .int a1] : List Value).toArray s 0 0 A) (F0 m 16 ls []) := by
    intro n16
    induction n16 with
    | zero => intro H locs ls x2 kb kw ks ka kq kc kr kt kd many tsz thr hw; exact False.elim hw
    | succ n16 ih =>
      intro H locs ls x2 kb kw ks ka kq kc kr kt kd many tsz thr hw hP hD hS hl
      unfold wp_M_reaches_16 at hw
      refine lv_iload_n hx hb dc_M_reaches_16 rfl (lv_at hl 1 rfl) ?_
      obtain ⟨hw1, hw2⟩ := hw
      refine lv_if_lt (tgt := 62) hx hb dc_M_reaches_17 (by decide) (fun hc => ?_) (fun hc => ?_)
      · have hw := hw1 hc
        clear hw1 hw2
        refine lv_iconst (v := 1) hx hb dc_M_reaches_62 (by decide) ?_
        obtain ⟨hnw, hw⟩ := hw
        exact W.zret (v := (1 : Int32)) hx hb hr hnw (fun t ht hW => ⟨⟨(1 : Int32), (kb, kw, ks, ka, kq, kc, kr, kt, kd, many, tsz, thr), rfl, hw, by rw [ht]; exact hP, va_K.moved hW.alike hK, hD⟩, hS.F ht⟩) hS.2.2 dc_M_reaches_63
      · have hw := hw2 hc
        clear hw1 hw2
        refine lv_aload_n hx hb dc_M_reaches_20 rfl (lv_at hl 0 rfl) ?_
        refine va_get (D := (dC, dI)) (ci := 2) (v := .ref pR) (C := "FourWordsModel") (T := tb_M) (N := 12) hx hb hts (hu _ um_M) hown hK hP 0 rfl rfl 6 (by decide) (hq mw_t466) (fun _ h9 => h9) rfl dc_M_reaches_21 ?_
        refine lv_iload_n hx hb dc_M_reaches_24 rfl (lv_at hl 1 rfl) ?_
        obtain ⟨hin, hw⟩ := hw
        refine va_bald hx hb hK hP 7 3 rfl rfl hin dc_M_reaches_25 ?_
        refine lv_aload_n hx hb dc_M_reaches_26 rfl (lv_at hl 0 rfl) ?_
        refine va_get (D := (dC, dI)) (ci := 2) (v := .ref pQ) (C := "FourWordsModel") (T := tb_M) (N := 12) hx hb hts (hu _ um_M) hown hK hP 0 rfl rfl 4 (by decide) (hq mw_t464) (fun _ h9 => h9) rfl dc_M_reaches_27 ?_
        refine lv_iload_n hx hb dc_M_reaches_30 rfl (lv_at hl 1 rfl) ?_
        obtain ⟨hin, hw⟩ := hw
        refine va_bald hx hb hK hP 5 3 rfl rfl hin dc_M_reaches_31 ?_
        obtain ⟨hw1, hw2⟩ := hw
        refine lv_icmp_eq (tgt := 56) hx hb dc_M_reaches_32 (by decide) (fun hc => ?_) (fun hc => ?_)
        · have hw := hw1 hc
          clear hw1 hw2
          refine lv_iinc (lv' := [(2, .int (x2 + (-1))), (0, .ref h1)]) hx hb dc_M_reaches_56 hl (k := 1) rfl (ic_m1 _) (Nat.le_of_ble_eq_true rfl) rfl (fun ls hl => ?_)
          refine lv_goto (tgt := 16) hx hb dc_M_reaches_59 (by decide) ?_
          exact ih _ _ _ (x2 + (-1)) kb kw ks ka kq kc kr kt kd many tsz thr hw hP hD hS (lv_sub hl [1, 0] rfl)
        · have hw := hw2 hc
          clear hw1 hw2
          refine lv_aload_n hx hb dc_M_reaches_35 rfl (lv_at hl 0 rfl) ?_
          refine va_get (D := (dC, dI)) (ci := 2) (v := .ref pR) (C := "FourWordsModel") (T := tb_M) (N := 12) hx hb hts (hu _ um_M) hown hK hP 0 rfl rfl 6 (by decide) (hq mw_t466) (fun _ h9 => h9) rfl dc_M_reaches_36 ?_
          refine lv_iload_n hx hb dc_M_reaches_39 rfl (lv_at hl 1 rfl) ?_
          obtain ⟨hin, hw⟩ := hw
          refine va_bald hx hb hK hP 7 3 rfl rfl hin dc_M_reaches_40 ?_
          refine lv_aload_n hx hb dc_M_reaches_41 rfl (lv_at hl 0 rfl) ?_
          refine va_get (D := (dC, dI)) (ci := 2) (v := .ref pQ) (C := "FourWordsModel") (T := tb_M) (N := 12) hx hb hts (hu _ um_M) hown hK hP 0 rfl rfl 4 (by decide) (hq mw_t464) (fun _ h9 => h9) rfl dc_M_reaches_42 ?_
          refine lv_iload_n hx hb dc_M_reaches_45 rfl (lv_at hl 1 rfl) ?_
          obtain ⟨hin, hw⟩ := hw
          refine va_bald hx hb hK hP 5 3 rfl rfl hin dc_M_reaches_46 ?_
          obtain ⟨hw1, hw2⟩ := hw
          refine lv_icmp_le (tgt := 54) hx hb dc_M_reaches_47 (by decide) (fun hc => ?_) (fun hc => ?_)
          · have hw := hw1 hc
            clear hw1 hw2
            refine lv_iconst (v := 0) hx hb dc_M_reaches_54 (by decide) ?_
            exact B_55 _ _ _ (0 : Int32) kb kw ks ka kq kc kr kt kd many tsz thr hw hP hD hS (lv_sub hl [] rfl)
          · have hw := hw2 hc
            clear hw1 hw2
            refine lv_iconst (v := 1) hx hb dc_M_reaches_50 (by decide) ?_
            refine lv_goto (tgt := 55) hx hb dc_M_reaches_51 (by decide) ?_
            exact B_55 _ _ _ (1 : Int32) kb kw ks ka kq kc kr kt kd many tsz thr hw hP hD hS (lv_sub hl [] rfl)
  unfold wp_M_reaches at hw
  refine lv_aload_n hx hb dc_M_reaches_0 rfl (lv_at hl 0 rfl) ?_
  refine va_get (D := (dC, dI)) (ci := 2) (v := .ref pR) (C := "FourWordsModel") (T := tb_M) (N := 12) hx hb hts (hu _ um_M) hown hK hP 0 rfl rfl 6 (by decide) (hq mw_t466) (fun _ h9 => h9) rfl dc_M_reaches_1 ?_
  refine lv_iload_n hx hb dc_M_reaches_4 rfl (lv_at hl 1 rfl) ?_
  obtain ⟨hin, hw⟩ := hw
  refine va_bald hx hb hK hP 7 3 rfl rfl hin dc_M_reaches_5 ?_
  refine lv_iconst (v := 1) hx hb dc_M_reaches_6 (by decide) ?_
  obtain ⟨hw1, hw2⟩ := hw
  refine lv_icmp_ne (tgt := 12) hx hb dc_M_reaches_7 (by decide) (fun hc => ?_) (fun hc => ?_)
  · have hw := hw1 hc
    clear hw1 hw2
    refine lv_iload_n hx hb dc_M_reaches_12 rfl (lv_at hl 1 rfl) ?_
    refine lv_iconst (v := 1) hx hb dc_M_reaches_13 (by decide) ?_
    refine lv_isub hx hb dc_M_reaches_14 ?_
    refine lv_topi (fun v15 e15 => ?_)
    have hw := hw v15 e15
    refine lv_istore_n (lv' := [(2, .int v15), (0, .ref h1), (1, .int a1)]) hx hb dc_M_reaches_15 rfl hl (Nat.le_of_ble_eq_true rfl) rfl (fun ls hl => ?_)
    obtain ⟨n16, hw⟩ := hw
    exact B_16 n16 _ _ _ v15 kb kw ks ka kq kc kr kt kd many tsz thr hw hP hD hS (lv_sub hl [1, 0] rfl)
  · have hw := hw2 (fun h9 => h9 hc)
    clear hw1 hw2
    refine lv_iconst (v := 1) hx hb dc_M_reaches_10 (by decide) ?_
    obtain ⟨hnw, hw⟩ := hw
    exact W.zret (v := (1 : Int32)) hx hb hr hnw (fun t ht hW => ⟨⟨(1 : Int32), (kb, kw, ks, ka, kq, kc, kr, kt, kd, many, tsz, thr), rfl, hw, by rw [ht]; exact hP, va_K.moved hW.alike hK, hD⟩, hS.F ht⟩) hS.2.2 dc_M_reaches_11
set_option maxHeartbeats 4000000 in
set_option maxRecDepth 100000 in
theorem kt_M_divide (l : Launch) (dC : Nat → ClassId) (dI : Nat → Nat → Nat) (cJ cI cZ cB : ClassId) (h1 pB pW pS pA pQ pC pR pT pD : Nat) (sz : Nat) (a1 : Int32) (kb : (Nat → Int32)) (kw : (Nat → Int32)) (ks : (Nat → Int32)) (ka : (Nat → Int32)) (kq : (Nat → Int32)) (kc : (Nat → Int32)) (kr : (Nat → Int32)) (kt : (Nat → Int32)) (kd : (Nat → Int32)) (many : Int32) (tsz : Int32) (thr : Int32) (post : (Nat → Int32) → (Nat → Int32) → (Nat → Int32) → (Nat → Int32) → (Nat → Int32) → (Nat → Int32) → (Nat → Int32) → (Nat → Int32) → (Nat → Int32) → Int32 → Int32 → Int32 → Prop) (hw : wp_M_divide post a1 kb kw ks ka kq kc kr kt kd many tsz thr) : Met l yn_M_divide ws_M_divide rm_M_divide (va_Pc [.ref h1, .int a1] (pc_W (dC, dI) (ty_4 cJ cI cZ cB) (wd_M h1 pB pW pS pA pQ pC pR pT pD cJ cI cZ cB kb kw ks ka kq kc kr kt kd many tsz thr) sz)) (qv_M dC dI cJ cI cZ cB h1 pB pW pS pA pQ pC pR pT pD post (va_A (wd_M h1 pB pW pS pA pQ pC pR pT pD cJ cI cZ cB kb kw ks ka kq kc kr kt kd many tsz thr) sz)) 0 0 (va_A (wd_M h1 pB pW pS pA pQ pC pR pT pD cJ cI cZ cB kb kw ks ka kq kc kr kt kd many tsz thr) sz) := by
  refine Met.ofW (cc := cd_M_divide) (maxL := 6) (ret := none) (by decide) rfl ?_
  intro p e s m args below meth c s₁ B hml hv
  obtain ⟨rfl, hsz, hP, hK, hD0, hE⟩ := hv
  have hx := B.exec
  have hb := B.bytes
  have hr := B.returns
  have hts := atoms_spec (ws := ws_M_divide) B.pre
  have hq : ∀ {w : Cond}, w ∈ wg_all → w.before ([.ref h1, .int a1] : List Value).toArray s = true := fun h => hts _ (List.mem_cons_of_mem _ h)
  have hu : ∀ L : List Cond, (∀ w ∈ L, w ∈ wg_all) → ∀ w ∈ L, w ∈ ws_M_divide := fun L h w hw => List.mem_cons_of_mem _ (h w hw)
  have hown : s.vm.findClass "FourWordsModel" = some m.cls := findClass_of_methodNamed B.named
  have hlocks := B.notSynchronized
  subst hsz
  have hD := hD0.self (sz := s.heap.size)
  generalize hAe : va_A (wd_M h1 pB pW pS pA pQ pC pR pT pD cJ cI cZ cB kb kw ks ka kq kc kr kt kd many tsz thr) s.heap.size = A at hD ⊢
  have hA : ∀ q : Nat, s.heap.size ≤ q → A q := fun q h => by rw [← hAe]; exact Or.inr h
  have hS : va_S A s.heap s.heap [] := va_S.rf
  have hl := lv_entry [.ref h1, .int a1] (n := 6) (Nat.le_of_ble_eq_true rfl)
  rw [lg_entry_eq]
  generalize (lg_sl [.ref h1, .int a1] ++ List.replicate (6 - (lg_sl [.ref h1, .int a1]).length) Slot.unset).toArray = ls at hl ⊢
  have hl : lv_has ls 6 [(0, .ref h1), (1, .int a1)] := hl
  have B_162 : ∀ (K33 : Int32 → Int32 → (Nat → Int32) → (Nat → Int32) → (Nat → Int32) → (Nat → Int32) → (Nat → Int32) → (Nat → Int32) → (Nat → Int32) → (Nat → Int32) → (Nat → Int32) → Int32 → Int32 → Int32 → Prop) (hK33 : ∀ (H : Heap) (locs : List Loc) (ls : Array Slot) (x1 : Int32) (x2 : Int32) (kb : (Nat → Int32)) (kw : (Nat → Int32)) (ks : (Nat → Int32)) (ka : (Nat → Int32)) (kq : (Nat → Int32)) (kc : (Nat → Int32)) (kr : (Nat → Int32)) (kt : (Nat → Int32)) (kd : (Nat → Int32)) (many : Int32) (tsz : Int32) (thr : Int32), K33 x1 x2 kb kw ks ka kq kc kr kt kd many tsz thr → va_P (dC, dI) cs_3 (wd_M h1 pB pW pS pA pQ pC pR pT pD cJ cI cZ cB kb kw ks ka kq kc kr kt kd many tsz thr) H → va_D A (wd_M h1 pB pW pS pA pQ pC pR pT pD cJ cI cZ cB kb kw ks ka kq kc kr kt kd many tsz thr) → va_S A s.heap H locs → lv_has ls 6 [(0, .ref h1), (1, .int x1), (2, .int x2)] → W p l e (headSpec ws_M_divide rm_M_divide).room s m ([.ref h1, .int a1] : List Value).toArray below meth c H locs 0 0 (MQ below (qv_M dC dI cJ cI cZ cB h1 pB pW pS pA pQ pC pR pT pD post A) ([.ref h1, .int a1] : List Value).toArray s 0 0 A) (F0 m 33 ls [])) (H : Heap) (locs : List Loc) (ls : Array Slot) (x1 : Int32) (x2 : Int32) (kb : (Nat → Int32)) (kw : (Nat → Int32)) (ks : (Nat → Int32)) (ka : (Nat → Int32)) (kq : (Nat → Int32)) (kc : (Nat → Int32)) (kr : (Nat → Int32)) (kt : (Nat → Int32)) (kd : (Nat → Int32)) (many : Int32) (tsz : Int32) (thr : Int32), wp_M_divide_162 K33 post x1 x2 kb kw ks ka kq kc kr kt kd many tsz thr → va_P (dC, dI) cs_3 (wd_M h1 pB pW pS pA pQ pC pR pT pD cJ cI cZ cB kb kw ks ka kq kc kr kt kd many tsz thr) H → va_D A (wd_M h1 pB pW pS pA pQ pC pR pT pD cJ cI cZ cB kb kw ks ka kq kc kr kt kd many tsz thr) → va_S A s.heap H locs → lv_has ls 6 [(0, .ref h1), (1, .int x1), (2, .int x2)] → W p l e (headSpec ws_M_divide rm_M_divide).room s m ([.ref h1, .int a1] : List Value).toArray below meth c H locs 0 0 (MQ below (qv_M dC dI cJ cI cZ cB h1 pB pW pS pA pQ pC pR pT pD post A) ([.ref h1, .int a1] : List Value).toArray s 0 0 A) (F0 m 162 ls []) := by
    intro K33 hK33 H locs ls x1 x2 kb kw ks ka kq kc kr kt kd many tsz thr hw hP hD hS hl
    unfold wp_M_divide_162 at hw
    refine lv_iinc (lv' := [(2, .int (x2 + (-1))), (0, .ref h1), (1, .int x1)]) hx hb dc_M_divide_162 hl (k := 2) rfl (ic_m1 _) (Nat.le_of_ble_eq_true rfl) rfl (fun ls hl => ?_)
    refine lv_goto (tgt := 33) hx hb dc_M_divide_165 (by decide) ?_
    exact hK33 _ _ _ x1 (x2 + (-1)) kb kw ks ka kq kc kr kt kd many tsz thr hw hP hD hS (lv_sub hl [1, 2, 0] rfl)
  have B_136 : ∀ (K33 : Int32 → Int32 → (Nat → Int32) → (Nat → Int32) → (Nat → Int32) → (Nat → Int32) → (Nat → Int32) → (Nat → Int32) → (Nat → Int32) → (Nat → Int32) → (Nat → Int32) → Int32 → Int32 → Int32 → Prop) (hK33 : ∀ (H : Heap) (locs : List Loc) (ls : Array Slot) (x1 : Int32) (x2 : Int32) (kb : (Nat → Int32)) (kw : (Nat → Int32)) (ks : (Nat → Int32)) (ka : (Nat → Int32)) (kq : (Nat → Int32)) (kc : (Nat → Int32)) (kr : (Nat → Int32)) (kt : (Nat → Int32)) (kd : (Nat → Int32)) (many : Int32) (tsz : Int32) (thr : Int32), K33 x1 x2 kb kw ks ka kq kc kr kt kd many tsz thr → va_P (dC, dI) cs_3 (wd_M h1 pB pW pS pA pQ pC pR pT pD cJ cI cZ cB kb kw ks ka kq kc kr kt kd many tsz thr) H → va_D A (wd_M h1 pB pW pS pA pQ pC pR pT pD cJ cI cZ cB kb kw ks ka kq kc kr kt kd many tsz thr) → va_S A s.heap H locs → lv_has ls 6 [(0, .ref h1), (1, .int x1), (2, .int x2)] → W p l e (headSpec ws_M_divide rm_M_divide).room s m ([.ref h1, .int a1] : List Value).toArray below meth c H locs 0 0 (MQ below (qv_M dC dI cJ cI cZ cB h1 pB pW pS pA pQ pC pR pT pD post A) ([.ref h1, .int a1] : List Value).toArray s 0 0 A) (F0 m 33 ls [])) (K91 : Int32 → Int32 → Int32 → Int32 → (Nat → Int32) → (Nat → Int32) → (Nat → Int32) → (Nat → Int32) → (Nat → Int32) → (Nat → Int32) → (Nat → Int32) → (Nat → Int32) → (Nat → Int32) → Int32 → Int32 → Int32 → Prop) (hK91 : ∀ (H : Heap) (locs : List Loc) (ls : Array Slot) (x1 : Int32) (x2 : Int32) (x3 : Int32) (x4 : Int32) (kb : (Nat → Int32)) (kw : (Nat → Int32)) (ks : (Nat → Int32)) (ka : (Nat → Int32)) (kq : (Nat → Int32)) (kc : (Nat → Int32)) (kr : (Nat → Int32)) (kt : (Nat → Int32)) (kd : (Nat → Int32)) (many : Int32) (tsz : Int32) (thr : Int32), K91 x1 x2 x3 x4 kb kw ks ka kq kc kr kt kd many tsz thr → va_P (dC, dI) cs_3 (wd_M h1 pB pW pS pA pQ pC pR pT pD cJ cI cZ cB kb kw ks ka kq kc kr kt kd many tsz thr) H → va_D A (wd_M h1 pB pW pS pA pQ pC pR pT pD cJ cI cZ cB kb kw ks ka kq kc kr kt kd many tsz thr) → va_S A s.heap H locs → lv_has ls 6 [(0, .ref h1), (1, .int x1), (2, .int x2), (3, .int x3), (4, .int x4)] → W p l e (headSpec ws_M_divide rm_M_divide).room s m ([.ref h1, .int a1] : List Value).toArray below meth c H locs 0 0 (MQ below (qv_M dC dI cJ cI cZ cB h1 pB pW pS pA pQ pC pR pT pD post A) ([.ref h1, .int a1] : List Value).toArray s 0 0 A) (F0 m 91 ls [])) (H : Heap) (locs : List Loc) (ls : Array Slot) (x1 : Int32) (x2 : Int32) (x4 : Int32) (x5 : Int32) (t0 : Int32) (kb : (Nat → Int32)) (kw : (Nat → Int32)) (ks : (Nat → Int32)) (ka : (Nat → Int32)) (kq : (Nat → Int32)) (kc : (Nat → Int32)) (kr : (Nat → Int32)) (kt : (Nat → Int32)) (kd : (Nat → Int32)) (many : Int32) (tsz : Int32) (thr : Int32), wp_M_divide_136 K33 K91 post x1 x2 x4 x5 t0 kb kw ks ka kq kc kr kt kd many tsz thr → va_P (dC, dI) cs_3 (wd_M h1 pB pW pS pA pQ pC pR pT pD cJ cI cZ cB kb kw ks ka kq kc kr kt kd many tsz thr) H → va_D A (wd_M h1 pB pW pS pA pQ pC pR pT pD cJ cI cZ cB kb kw ks ka kq kc kr kt kd many tsz thr) → va_S A s.heap H locs → lv_has ls 6 [(0, .ref h1), (1, .int x1), (2, .int x2), (4, .int x4), (5, .int x5)] → W p l e (headSpec ws_M_divide rm_M_divide).room s m ([.ref h1, .int a1] : List Value).toArray below meth c H locs 0 0 (MQ below (qv_M dC dI cJ cI cZ cB h1 pB pW pS pA pQ pC pR pT pD post A) ([.ref h1, .int a1] : List Value).toArray s 0 0 A) (F0 m 136 ls [.int t0]) := by
    intro K33 hK33 K91 hK91 H locs ls x1 x2 x4 x5 t0 kb kw ks ka kq kc kr kt kd many tsz thr hw hP hD hS hl
    unfold wp_M_divide_136 at hw
    refine lv_istore_n (lv' := [(3, .int t0), (0, .ref h1), (1, .int x1), (2, .int x2), (4, .int x4), (5, .int x5)]) hx hb dc_M_divide_136 rfl hl (Nat.le_of_ble_eq_true rfl) rfl (fun ls hl => ?_)
    refine lv_aload_n hx hb dc_M_divide_137 rfl (lv_at hl 1 rfl) ?_
    refine va_get (D := (dC, dI)) (ci := 2) (v := .ref pR) (C := "FourWordsModel") (T := tb_M) (N := 12) hx hb hts (hu _ um_M) hown hK hP 0 rfl rfl 6 (by decide) (hq mw_t466) (fun _ h9 => h9) rfl dc_M_divide_138 ?_
    refine lv_iload hx hb dc_M_divide_141 (lv_at hl 4 rfl) ?_
    refine lv_iload hx hb dc_M_divide_143 (lv_at hl 5 rfl) ?_
    refine lv_iconst (v := 1) hx hb dc_M_divide_145 (by decide) ?_
    refine lv_iand hx hb dc_M_divide_146 ?_
    refine lv_i2b hx hb dc_M_divide_147 rfl ?_
    obtain ⟨hin, hw⟩ := hw
    refine va_bast hx hb hK hP hD hS 7 3 rfl rfl hin dc_M_divide_148 (fun H locs hP hD hS => ?_)
    have hP : va_P (dC, dI) cs_3 (wd_M h1 pB pW pS pA pQ pC pR pT pD cJ cI cZ cB kb kw ks ka kq kc (upd kr x4.toNatClampNeg (vp_nar .byte ((x5 &&& (1 : Int32)).toInt8.toInt32))) kt kd many tsz thr) H := hP
    have hD : va_D A (wd_M h1 pB pW pS pA pQ pC pR pT pD cJ cI cZ cB kb kw ks ka kq kc (upd kr x4.toNatClampNeg (vp_nar .byte ((x5 &&& (1 : Int32)).toInt8.toInt32))) kt kd many tsz thr) := hD
    refine lv_iinc (lv' := [(4, .int (x4 + 1)), (3, .int t0), (0, .ref h1), (1, .int x1), (2, .int x2), (5, .int x5)]) hx hb dc_M_divide_149 hl (k := 4) rfl (ic_p1 _) (Nat.le_of_ble_eq_true rfl) rfl (fun ls hl => ?_)
    refine lv_goto (tgt := 91) hx hb dc_M_divide_152 (by decide) ?_
    exact hK91 _ _ _ x1 x2 t0 (x4 + 1) kb kw ks ka kq kc (upd kr x4.toNatClampNeg (vp_nar .byte ((x5 &&& (1 : Int32)).toInt8.toInt32))) kt kd many tsz thr hw hP hD hS (lv_sub hl [2, 3, 4, 1, 0] rfl)
  have B_121 : ∀ (K33 : Int32 → Int32 → (Nat → Int32) → (Nat → Int32) → (Nat → Int32) → (Nat → Int32) → (Nat → Int32) → (Nat → Int32) → (Nat → Int32) → (Nat → Int32) → (Nat → Int32) → Int32 → Int32 → Int32 → Prop) (hK33 : ∀ (H : Heap) (locs : List Loc) (ls : Array Slot) (x1 : Int32) (x2 : Int32) (kb : (Nat → Int32)) (kw : (Nat → Int32)) (ks : (Nat → Int32)) (ka : (Nat → Int32)) (kq : (Nat → Int32)) (kc : (Nat → Int32)) (kr : (Nat → Int32)) (kt : (Nat → Int32)) (kd : (Nat → Int32)) (many : Int32) (tsz : Int32) (thr : Int32), K33 x1 x2 kb kw ks ka kq kc kr kt kd many tsz thr → va_P (dC, dI) cs_3 (wd_M h1 pB pW pS pA pQ pC pR pT pD cJ cI cZ cB kb kw ks ka kq kc kr kt kd many tsz thr) H → va_D A (wd_M h1 pB pW pS pA pQ pC pR pT pD cJ cI cZ cB kb kw ks ka kq kc kr kt kd many tsz thr) → va_S A s.heap H locs → lv_has ls 6 [(0, .ref h1), (1, .int x1), (2, .int x2)] → W p l e (headSpec ws_M_divide rm_M_divide).room s m ([.ref h1, .int a1] : List Value).toArray below meth c H locs 0 0 (MQ below (qv_M dC dI cJ cI cZ cB h1 pB pW pS pA pQ pC pR pT pD post A) ([.ref h1, .int a1] : List Value).toArray s 0 0 A) (F0 m 33 ls [])) (K91 : Int32 → Int32 → Int32 → Int32 → (Nat → Int32) → (Nat → Int32) → (Nat → Int32) → (Nat → Int32) → (Nat → Int32) → (Nat → Int32) → (Nat → Int32) → (Nat → Int32) → (Nat → Int32) → Int32 → Int32 → Int32 → Prop) (hK91 : ∀ (H : Heap) (locs : List Loc) (ls : Array Slot) (x1 : Int32) (x2 : Int32) (x3 : Int32) (x4 : Int32) (kb : (Nat → Int32)) (kw : (Nat → Int32)) (ks : (Nat → Int32)) (ka : (Nat → Int32)) (kq : (Nat → Int32)) (kc : (Nat → Int32)) (kr : (Nat → Int32)) (kt : (Nat → Int32)) (kd : (Nat → Int32)) (many : Int32) (tsz : Int32) (thr : Int32), K91 x1 x2 x3 x4 kb kw ks ka kq kc kr kt kd many tsz thr → va_P (dC, dI) cs_3 (wd_M h1 pB pW pS pA pQ pC pR pT pD cJ cI cZ cB kb kw ks ka kq kc kr kt kd many tsz thr) H → va_D A (wd_M h1 pB pW pS pA pQ pC pR pT pD cJ cI cZ cB kb kw ks ka kq kc kr kt kd many tsz thr) → va_S A s.heap H locs → lv_has ls 6 [(0, .ref h1), (1, .int x1), (2, .int x2), (3, .int x3), (4, .int x4)] → W p l e (headSpec ws_M_divide rm_M_divide).room s m ([.ref h1, .int a1] : List Value).toArray below meth c H locs 0 0 (MQ below (qv_M dC dI cJ cI cZ cB h1 pB pW pS pA pQ pC pR pT pD post A) ([.ref h1, .int a1] : List Value).toArray s 0 0 A) (F0 m 91 ls [])) (H : Heap) (locs : List Loc) (ls : Array Slot) (x1 : Int32) (x2 : Int32) (x3 : Int32) (x4 : Int32) (t0 : Int32) (t1 : Int32) (kb : (Nat → Int32)) (kw : (Nat → Int32)) (ks : (Nat → Int32)) (ka : (Nat → Int32)) (kq : (Nat → Int32)) (kc : (Nat → Int32)) (kr : (Nat → Int32)) (kt : (Nat → Int32)) (kd : (Nat → Int32)) (many : Int32) (tsz : Int32) (thr : Int32), wp_M_divide_121 K33 K91 post x1 x2 x3 x4 t0 t1 kb kw ks ka kq kc kr kt kd many tsz thr → va_P (dC, dI) cs_3 (wd_M h1 pB pW pS pA pQ pC pR pT pD cJ cI cZ cB kb kw ks ka kq kc kr kt kd many tsz thr) H → va_D A (wd_M h1 pB pW pS pA pQ pC pR pT pD cJ cI cZ cB kb kw ks ka kq kc kr kt kd many tsz thr) → va_S A s.heap H locs → lv_has ls 6 [(0, .ref h1), (1, .int x1), (2, .int x2), (3, .int x3), (4, .int x4)] → W p l e (headSpec ws_M_divide rm_M_divide).room s m ([.ref h1, .int a1] : List Value).toArray below meth c H locs 0 0 (MQ below (qv_M dC dI cJ cI cZ cB h1 pB pW pS pA pQ pC pR pT pD post A) ([.ref h1, .int a1] : List Value).toArray s 0 0 A) (F0 m 121 ls [.int t0, .int t1]) := by
    intro K33 hK33 K91 hK91 H locs ls x1 x2 x3 x4 t0 t1 kb kw ks ka kq kc kr kt kd many tsz thr hw hP hD hS hl
    unfold wp_M_divide_121 at hw
    refine lv_isub hx hb dc_M_divide_121 ?_
    refine lv_iload_n hx hb dc_M_divide_122 rfl (lv_at hl 3 rfl) ?_
    refine lv_isub hx hb dc_M_divide_123 ?_
    refine lv_topi (fun v124 e124 => ?_)
    have hw := hw v124 e124
    refine lv_istore (lv' := [(5, .int v124), (0, .ref h1), (1, .int x1), (2, .int x2), (3, .int x3), (4, .int x4)]) hx hb dc_M_divide_124 hl (Nat.le_of_ble_eq_true rfl) rfl (fun ls hl => ?_)
    refine lv_iload hx hb dc_M_divide_126 (lv_at hl 0 rfl) ?_
    obtain ⟨hw1, hw2⟩ := hw
    refine lv_if_ge (tgt := 135) hx hb dc_M_divide_128 (by decide) (fun hc => ?_) (fun hc => ?_)
    · have hw := hw1 hc
      clear hw1 hw2
      refine lv_iconst (v := 0) hx hb dc_M_divide_135 (by decide) ?_
      exact B_136 K33 hK33 K91 hK91 _ _ _ x1 x2 x4 v124 (0 : Int32) kb kw ks ka kq kc kr kt kd many tsz thr hw hP hD hS (lv_sub hl [1, 2, 3, 5, 0] rfl)
    · have hw := hw2 hc
      clear hw1 hw2
      refine lv_iconst (v := 1) hx hb dc_M_divide_131 (by decide) ?_
      refine lv_goto (tgt := 136) hx hb dc_M_divide_132 (by decide) ?_
      exact B_136 K33 hK33 K91 hK91 _ _ _ x1 x2 x4 v124 (1 : Int32) kb kw ks ka kq kc kr kt kd many tsz thr hw hP hD hS (lv_sub hl [1, 2, 3, 5, 0] rfl)
  have B_91 : ∀ (K33 : Int32 → Int32 → (Nat → Int32) → (Nat → Int32) → (Nat → Int32) → (Nat → Int32) → (Nat → Int32) → (Nat → Int32) → (Nat → Int32) → (Nat → Int32) → (Nat → Int32) → Int32 → Int32 → Int32 → Prop) (hK33 : ∀ (H : Heap) (locs : List Loc) (ls : Array Slot) (x1 : Int32) (x2 : Int32) (kb : (Nat → Int32)) (kw : (Nat → Int32)) (ks : (Nat → Int32)) (ka : (Nat → Int32)) (kq : (Nat → Int32)) (kc : (Nat → Int32)) (kr : (Nat → Int32)) (kt : (Nat → Int32)) (kd : (Nat → Int32)) (many : Int32) (tsz : Int32) (thr : Int32), K33 x1 x2 kb kw ks ka kq kc kr kt kd many tsz thr → va_P (dC, dI) cs_3 (wd_M h1 pB pW pS pA pQ pC pR pT pD cJ cI cZ cB kb kw ks ka kq kc kr kt kd many tsz thr) H → va_D A (wd_M h1 pB pW pS pA pQ pC pR pT pD cJ cI cZ cB kb kw ks ka kq kc kr kt kd many tsz thr) → va_S A s.heap H locs → lv_has ls 6 [(0, .ref h1), (1, .int x1), (2, .int x2)] → W p l e (headSpec ws_M_divide rm_M_divide).room s m ([.ref h1, .int a1] : List Value).toArray below meth c H locs 0 0 (MQ below (qv_M dC dI cJ cI cZ cB h1 pB pW pS pA pQ pC pR pT pD post A) ([.ref h1, .int a1] : List Value).toArray s 0 0 A) (F0 m 33 ls [])) (n91 : Nat) (H : Heap) (locs : List Loc) (ls : Array Slot) (x1 : Int32) (x2 : Int32) (x3 : Int32) (x4 : Int32) (kb : (Nat → Int32)) (kw : (Nat → Int32)) (ks : (Nat → Int32)) (ka : (Nat → Int32)) (kq : (Nat → Int32)) (kc : (Nat → Int32)) (kr : (Nat → Int32)) (kt : (Nat → Int32)) (kd : (Nat → Int32)) (many : Int32) (tsz : Int32) (thr : Int32), wp_M_divide_91 K33 post n91 x1 x2 x3 x4 kb kw ks ka kq kc kr kt kd many tsz thr → va_P (dC, dI) cs_3 (wd_M h1 pB pW pS pA pQ pC pR pT pD cJ cI cZ cB kb kw ks ka kq kc kr kt kd many tsz thr) H → va_D A (wd_M h1 pB pW pS pA pQ pC pR pT pD cJ cI cZ cB kb kw ks ka kq kc kr kt kd many tsz thr) → va_S A s.heap H locs → lv_has ls 6 [(0, .ref h1), (1, .int x1), (2, .int x2), (3, .int x3), (4, .int x4)] → W p l e (headSpec ws_M_divide rm_M_divide).room s m ([.ref h1, .int a1] : List Value).toArray below meth c H locs 0 0 (MQ below (qv_M dC dI cJ cI cZ cB h1 pB pW pS pA pQ pC pR pT pD post A) ([.ref h1, .int a1] : List Value).toArray s 0 0 A) (F0 m 91 ls []) := by
    intro K33 hK33 n91
    induction n91 with
    | zero => intro H locs ls x1 x2 x3 x4 kb kw ks ka kq kc kr kt kd many tsz thr hw; exact False.elim hw
    | succ n91 ih =>
      intro H locs ls x1 x2 x3 x4 kb kw ks ka kq kc kr kt kd many tsz thr hw hP hD hS hl
      unfold wp_M_divide_91 at hw
      refine lv_iload hx hb dc_M_divide_91 (lv_at hl 4 rfl) ?_
      refine lv_iload_n hx hb dc_M_divide_93 rfl (lv_at hl 1 rfl) ?_
      obtain ⟨hw1, hw2⟩ := hw
      refine lv_icmp_gt (tgt := 155) hx hb dc_M_divide_94 (by decide) (fun hc => ?_) (fun hc => ?_)
      · have hw := hw1 hc
        clear hw1 hw2
        refine lv_aload_n hx hb dc_M_divide_155 rfl (lv_at hl 0 rfl) ?_
        refine va_get (D := (dC, dI)) (ci := 2) (v := .ref pC) (C := "FourWordsModel") (T := tb_M) (N := 12) hx hb hts (hu _ um_M) hown hK hP 0 rfl rfl 5 (by decide) (hq mw_t465) (fun _ h9 => h9) rfl dc_M_divide_156 ?_
        refine lv_iload_n hx hb dc_M_divide_159 rfl (lv_at hl 2 rfl) ?_
        refine lv_iconst (v := 1) hx hb dc_M_divide_160 (by decide) ?_
        obtain ⟨hin, hw⟩ := hw
        refine va_bast hx hb hK hP hD hS 6 3 rfl rfl hin dc_M_divide_161 (fun H locs hP hD hS => ?_)
        have hP : va_P (dC, dI) cs_3 (wd_M h1 pB pW pS pA pQ pC pR pT pD cJ cI cZ cB kb kw ks ka kq (upd kc x2.toNatClampNeg (vp_nar .byte (1 : Int32))) kr kt kd many tsz thr) H := hP
        have hD : va_D A (wd_M h1 pB pW pS pA pQ pC pR pT pD cJ cI cZ cB kb kw ks ka kq (upd kc x2.toNatClampNeg (vp_nar .byte (1 : Int32))) kr kt kd many tsz thr) := hD
        exact B_162 K33 hK33 _ _ _ x1 x2 kb kw ks ka kq (upd kc x2.toNatClampNeg (vp_nar .byte (1 : Int32))) kr kt kd many tsz thr hw hP hD hS (lv_sub hl [0, 1, 2] rfl)
      · have hw := hw2 hc
        clear hw1 hw2
        refine lv_aload_n hx hb dc_M_divide_97 rfl (lv_at hl 0 rfl) ?_
        refine va_get (D := (dC, dI)) (ci := 2) (v := .ref pR) (C := "FourWordsModel") (T := tb_M) (N := 12) hx hb hts (hu _ um_M) hown hK hP 0 rfl rfl 6 (by decide) (hq mw_t466) (fun _ h9 => h9) rfl dc_M_divide_98 ?_
        refine lv_iload hx hb dc_M_divide_101 (lv_at hl 4 rfl) ?_
        obtain ⟨hin, hw⟩ := hw
        refine va_bald hx hb hK hP 7 3 rfl rfl hin dc_M_divide_103 ?_
        refine lv_iload hx hb dc_M_divide_104 (lv_at hl 4 rfl) ?_
        refine lv_iload_n hx hb dc_M_divide_106 rfl (lv_at hl 1 rfl) ?_
        obtain ⟨hw1, hw2⟩ := hw
        refine lv_icmp_ge (tgt := 120) hx hb dc_M_divide_107 (by decide) (fun hc => ?_) (fun hc => ?_)
        · have hw := hw1 hc
          clear hw1 hw2
          refine lv_iconst (v := 0) hx hb dc_M_divide_120 (by decide) ?_
          exact B_121 K33 hK33 (wp_M_divide_91 K33 post n91) ih _ _ _ x1 x2 x3 x4 (0 : Int32) (kr x4.toNatClampNeg) kb kw ks ka kq kc kr kt kd many tsz thr hw hP hD hS (lv_sub hl [0, 1, 2, 3, 4] rfl)
        · have hw := hw2 hc
          clear hw1 hw2
          refine lv_aload_n hx hb dc_M_divide_110 rfl (lv_at hl 0 rfl) ?_
          refine va_get (D := (dC, dI)) (ci := 2) (v := .ref pQ) (C := "FourWordsModel") (T := tb_M) (N := 12) hx hb hts (hu _ um_M) hown hK hP 0 rfl rfl 4 (by decide) (hq mw_t464) (fun _ h9 => h9) rfl dc_M_divide_111 ?_
          refine lv_iload hx hb dc_M_divide_114 (lv_at hl 4 rfl) ?_
          obtain ⟨hin, hw⟩ := hw
          refine va_bald hx hb hK hP 5 3 rfl rfl hin dc_M_divide_116 ?_
          refine lv_goto (tgt := 121) hx hb dc_M_divide_117 (by decide) ?_
          exact B_121 K33 hK33 (wp_M_divide_91 K33 post n91) ih _ _ _ x1 x2 x3 x4 (kq x4.toNatClampNeg) (kr x4.toNatClampNeg) kb kw ks ka kq kc kr kt kd many tsz thr hw hP hD hS (lv_sub hl [0, 1, 2, 3, 4] rfl)
  have B_39 : ∀ (K33 : Int32 → Int32 → (Nat → Int32) → (Nat → Int32) → (Nat → Int32) → (Nat → Int32) → (Nat → Int32) → (Nat → Int32) → (Nat → Int32) → (Nat → Int32) → (Nat → Int32) → Int32 → Int32 → Int32 → Prop) (hK33 : ∀ (H : Heap) (locs : List Loc) (ls : Array Slot) (x1 : Int32) (x2 : Int32) (kb : (Nat → Int32)) (kw : (Nat → Int32)) (ks : (Nat → Int32)) (ka : (Nat → Int32)) (kq : (Nat → Int32)) (kc : (Nat → Int32)) (kr : (Nat → Int32)) (kt : (Nat → Int32)) (kd : (Nat → Int32)) (many : Int32) (tsz : Int32) (thr : Int32), K33 x1 x2 kb kw ks ka kq kc kr kt kd many tsz thr → va_P (dC, dI) cs_3 (wd_M h1 pB pW pS pA pQ pC pR pT pD cJ cI cZ cB kb kw ks ka kq kc kr kt kd many tsz thr) H → va_D A (wd_M h1 pB pW pS pA pQ pC pR pT pD cJ cI cZ cB kb kw ks ka kq kc kr kt kd many tsz thr) → va_S A s.heap H locs → lv_has ls 6 [(0, .ref h1), (1, .int x1), (2, .int x2)] → W p l e (headSpec ws_M_divide rm_M_divide).room s m ([.ref h1, .int a1] : List Value).toArray below meth c H locs 0 0 (MQ below (qv_M dC dI cJ cI cZ cB h1 pB pW pS pA pQ pC pR pT pD post A) ([.ref h1, .int a1] : List Value).toArray s 0 0 A) (F0 m 33 ls [])) (n39 : Nat) (H : Heap) (locs : List Loc) (ls : Array Slot) (x1 : Int32) (x2 : Int32) (x3 : Int32) (kb : (Nat → Int32)) (kw : (Nat → Int32)) (ks : (Nat → Int32)) (ka : (Nat → Int32)) (kq : (Nat → Int32)) (kc : (Nat → Int32)) (kr : (Nat → Int32)) (kt : (Nat → Int32)) (kd : (Nat → Int32)) (many : Int32) (tsz : Int32) (thr : Int32), wp_M_divide_39 K33 post n39 x1 x2 x3 kb kw ks ka kq kc kr kt kd many tsz thr → va_P (dC, dI) cs_3 (wd_M h1 pB pW pS pA pQ pC pR pT pD cJ cI cZ cB kb kw ks ka kq kc kr kt kd many tsz thr) H → va_D A (wd_M h1 pB pW pS pA pQ pC pR pT pD cJ cI cZ cB kb kw ks ka kq kc kr kt kd many tsz thr) → va_S A s.heap H locs → lv_has ls 6 [(0, .ref h1), (1, .int x1), (2, .int x2), (3, .int x3)] → W p l e (headSpec ws_M_divide rm_M_divide).room s m ([.ref h1, .int a1] : List Value).toArray below meth c H locs 0 0 (MQ below (qv_M dC dI cJ cI cZ cB h1 pB pW pS pA pQ pC pR pT pD post A) ([.ref h1, .int a1] : List Value).toArray s 0 0 A) (F0 m 39 ls []) := by
    intro K33 hK33 n39
    induction n39 with
    | zero => intro H locs ls x1 x2 x3 kb kw ks ka kq kc kr kt kd many tsz thr hw; exact False.elim hw
    | succ n39 ih =>
      intro H locs ls x1 x2 x3 kb kw ks ka kq kc kr kt kd many tsz thr hw hP hD hS hl
      unfold wp_M_divide_39 at hw
      refine lv_iload_n hx hb dc_M_divide_39 rfl (lv_at hl 3 rfl) ?_
      obtain ⟨hw1, hw2⟩ := hw
      refine lv_if_le (tgt := 63) hx hb dc_M_divide_40 (by decide) (fun hc => ?_) (fun hc => ?_)
      · have hw := hw1 hc
        clear hw1 hw2
        refine lv_aload_n hx hb dc_M_divide_63 rfl (lv_at hl 0 rfl) ?_
        refine va_get (D := (dC, dI)) (ci := 2) (v := .ref pR) (C := "FourWordsModel") (T := tb_M) (N := 12) hx hb hts (hu _ um_M) hown hK hP 0 rfl rfl 6 (by decide) (hq mw_t466) (fun _ h9 => h9) rfl dc_M_divide_64 ?_
        refine lv_iconst (v := 0) hx hb dc_M_divide_67 (by decide) ?_
        refine lv_aload_n hx hb dc_M_divide_68 rfl (lv_at hl 0 rfl) ?_
        refine va_get (D := (dC, dI)) (ci := 2) (v := .ref pA) (C := "FourWordsModel") (T := tb_M) (N := 12) hx hb hts (hu _ um_M) hown hK hP 0 rfl rfl 3 (by decide) (hq mw_t463) (fun _ h9 => h9) rfl dc_M_divide_69 ?_
        refine lv_iload_n hx hb dc_M_divide_72 rfl (lv_at hl 2 rfl) ?_
        obtain ⟨hin, hw⟩ := hw
        refine va_bald hx hb hK hP 4 3 rfl rfl hin dc_M_divide_73 ?_
        obtain ⟨hin, hw⟩ := hw
        refine va_bast hx hb hK hP hD hS 7 3 rfl rfl hin dc_M_divide_74 (fun H locs hP hD hS => ?_)
        have hP : va_P (dC, dI) cs_3 (wd_M h1 pB pW pS pA pQ pC pR pT pD cJ cI cZ cB kb kw ks ka kq kc (upd kr (0 : Int32).toNatClampNeg (vp_nar .byte (ka x2.toNatClampNeg))) kt kd many tsz thr) H := hP
        have hD : va_D A (wd_M h1 pB pW pS pA pQ pC pR pT pD cJ cI cZ cB kb kw ks ka kq kc (upd kr (0 : Int32).toNatClampNeg (vp_nar .byte (ka x2.toNatClampNeg))) kt kd many tsz thr) := hD
        refine lv_aload_n hx hb dc_M_divide_75 rfl (lv_at hl 0 rfl) ?_
        refine lv_iload_n hx hb dc_M_divide_76 rfl (lv_at hl 1 rfl) ?_
        refine gc_i (S := (Nat → Int32) × (Nat → Int32) × (Nat → Int32) × (Nat → Int32) × (Nat → Int32) × (Nat → Int32) × (Nat → Int32) × (Nat → Int32) × (Nat → Int32) × Int32 × Int32 × Int32) (w1 := (fun u => (wd_M h1 pB pW pS pA pQ pC pR pT pD cJ cI cZ cB u.1 u.2.1 u.2.2.1 u.2.2.2.1 u.2.2.2.2.1 u.2.2.2.2.2.1 u.2.2.2.2.2.2.1 u.2.2.2.2.2.2.2.1 u.2.2.2.2.2.2.2.2.1 u.2.2.2.2.2.2.2.2.2.1 u.2.2.2.2.2.2.2.2.2.2.1 u.2.2.2.2.2.2.2.2.2.2.2))) (wc := (wd_M h1 pB pW pS pA pQ pC pR pT pD cJ cI cZ cB kb kw ks ka kq kc (upd kr (0 : Int32).toNatClampNeg (vp_nar .byte (ka x2.toNatClampNeg))) kt kd many tsz thr)) (wr := ([] : va_W)) (va_runV (As := [.int x1]) (rest := []) ⟨hx, hb, hml, hown, hts⟩ (kt_M_reaches l dC dI cJ cI cZ cB h1 pB pW pS pA pQ pC pR pT pD _ x1 kb kw ks ka kq kc (upd kr (0 : Int32).toNatClampNeg (vp_nar .byte (ka x2.toNatClampNeg))) kt kd many tsz thr _ hw) ⟨callB_of 1 hts (gw_in mw_t560) rfl rfl rfl (hq mw_t3) (hq mw_t557) (by decide +kernel) ⟨Nat.le_of_ble_eq_true rfl, Nat.le_of_ble_eq_true rfl⟩, hq mw_t559, hq mw_s42⟩ (pv_W (va_recv (q0 := 0) (ci := 2) hK hP rfl rfl) (hP.sub (ws' := (wd_M h1 pB pW pS pA pQ pC pR pT pD cJ cI cZ cB kb kw ks ka kq kc (upd kr (0 : Int32).toNatClampNeg (vp_nar .byte (ka x2.toNatClampNeg))) kt kd many tsz thr)) [0, 1, 2, 3, 4, 5, 6, 7, 8, 9] rfl) hK (hD.sub (ws' := (wd_M h1 pB pW pS pA pQ pC pR pT pD cJ cI cZ cB kb kw ks ka kq kc (upd kr (0 : Int32).toNatClampNeg (vp_nar .byte (ka x2.toNatClampNeg))) kt kd many tsz thr)) [0, 1, 2, 3, 4, 5, 6, 7, 8, 9] (by decide) rfl) hE) rfl rfl hl.1 rfl (lv_room (Nat.le_of_ble_eq_true rfl)) dc_M_divide_77 ⟨Nat.le_of_ble_eq_true rfl, Nat.le_of_ble_eq_true rfl⟩) hP hD hS hA [0, 1, 2, 3, 4, 5, 6, 7, 8, 9] [] rfl rfl (by decide) (by decide) (fun r77 u H locs hw hP hD hS => ?_)
        obtain ⟨kb77, kw77, ks77, ka77, kq77, kc77, kr77, kt77, kd77, many77, tsz77, thr77⟩ := u
        have hP : va_P (dC, dI) cs_3 (wd_M h1 pB pW pS pA pQ pC pR pT pD cJ cI cZ cB kb77 kw77 ks77 ka77 kq77 kc77 kr77 kt77 kd77 many77 tsz77 thr77) H := hP.sub (ws' := (wd_M h1 pB pW pS pA pQ pC pR pT pD cJ cI cZ cB kb77 kw77 ks77 ka77 kq77 kc77 kr77 kt77 kd77 many77 tsz77 thr77)) [0, 1, 2, 3, 4, 5, 6, 7, 8, 9] rfl
        have hD : va_D A (wd_M h1 pB pW pS pA pQ pC pR pT pD cJ cI cZ cB kb77 kw77 ks77 ka77 kq77 kc77 kr77 kt77 kd77 many77 tsz77 thr77) := hD.sub (ws' := (wd_M h1 pB pW pS pA pQ pC pR pT pD cJ cI cZ cB kb77 kw77 ks77 ka77 kq77 kc77 kr77 kt77 kd77 many77 tsz77 thr77)) [0, 1, 2, 3, 4, 5, 6, 7, 8, 9] (by decide) rfl
        try dsimp only at hw
        obtain ⟨hw1, hw2⟩ := hw
        refine lv_if_ne (tgt := 86) hx hb dc_M_divide_80 (by decide) (fun hc => ?_) (fun hc => ?_)
        · have hw := hw1 hc
          clear hw1 hw2
          refine lv_iconst (v := 0) hx hb dc_M_divide_86 (by decide) ?_
          refine lv_istore_n (lv' := [(3, .int (0 : Int32)), (0, .ref h1), (1, .int x1), (2, .int x2)]) hx hb dc_M_divide_87 rfl hl (Nat.le_of_ble_eq_true rfl) rfl (fun ls hl => ?_)
          refine lv_iconst (v := 0) hx hb dc_M_divide_88 (by decide) ?_
          refine lv_istore (lv' := [(4, .int (0 : Int32)), (3, .int (0 : Int32)), (0, .ref h1), (1, .int x1), (2, .int x2)]) hx hb dc_M_divide_89 hl (Nat.le_of_ble_eq_true rfl) rfl (fun ls hl => ?_)
          obtain ⟨n91, hw⟩ := hw
          exact B_91 K33 hK33 n91 _ _ _ x1 x2 (0 : Int32) (0 : Int32) kb77 kw77 ks77 ka77 kq77 kc77 kr77 kt77 kd77 many77 tsz77 thr77 hw hP hD hS (lv_sub hl [2, 3, 4, 1, 0] rfl)
        · have hw := hw2 (fun h9 => h9 hc)
          clear hw1 hw2
          refine lv_goto (tgt := 162) hx hb dc_M_divide_83 (by decide) ?_
          exact B_162 K33 hK33 _ _ _ x1 x2 kb77 kw77 ks77 ka77 kq77 kc77 kr77 kt77 kd77 many77 tsz77 thr77 hw hP hD hS (lv_sub hl [0, 1, 2] rfl)
      · have hw := hw2 hc
        clear hw1 hw2
        refine lv_aload_n hx hb dc_M_divide_43 rfl (lv_at hl 0 rfl) ?_
        refine va_get (D := (dC, dI)) (ci := 2) (v := .ref pR) (C := "FourWordsModel") (T := tb_M) (N := 12) hx hb hts (hu _ um_M) hown hK hP 0 rfl rfl 6 (by decide) (hq mw_t466) (fun _ h9 => h9) rfl dc_M_divide_44 ?_
        refine lv_iload_n hx hb dc_M_divide_47 rfl (lv_at hl 3 rfl) ?_
        refine lv_aload_n hx hb dc_M_divide_48 rfl (lv_at hl 0 rfl) ?_
        refine va_get (D := (dC, dI)) (ci := 2) (v := .ref pR) (C := "FourWordsModel") (T := tb_M) (N := 12) hx hb hts (hu _ um_M) hown hK hP 0 rfl rfl 6 (by decide) (hq mw_t466) (fun _ h9 => h9) rfl dc_M_divide_49 ?_
        refine lv_iload_n hx hb dc_M_divide_52 rfl (lv_at hl 3 rfl) ?_
        refine lv_iconst (v := 1) hx hb dc_M_divide_53 (by decide) ?_
        refine lv_isub hx hb dc_M_divide_54 ?_
        obtain ⟨hin, hw⟩ := hw
        refine va_bald hx hb hK hP 7 3 rfl rfl hin dc_M_divide_55 ?_
        obtain ⟨hin, hw⟩ := hw
        refine va_bast hx hb hK hP hD hS 7 3 rfl rfl hin dc_M_divide_56 (fun H locs hP hD hS => ?_)
        have hP : va_P (dC, dI) cs_3 (wd_M h1 pB pW pS pA pQ pC pR pT pD cJ cI cZ cB kb kw ks ka kq kc (upd kr x3.toNatClampNeg (vp_nar .byte (kr (x3 - (1 : Int32)).toNatClampNeg))) kt kd many tsz thr) H := hP
        have hD : va_D A (wd_M h1 pB pW pS pA pQ pC pR pT pD cJ cI cZ cB kb kw ks ka kq kc (upd kr x3.toNatClampNeg (vp_nar .byte (kr (x3 - (1 : Int32)).toNatClampNeg))) kt kd many tsz thr) := hD
        refine lv_iinc (lv' := [(3, .int (x3 + (-1))), (0, .ref h1), (1, .int x1), (2, .int x2)]) hx hb dc_M_divide_57 hl (k := 3) rfl (ic_m1 _) (Nat.le_of_ble_eq_true rfl) rfl (fun ls hl => ?_)
        refine lv_goto (tgt := 39) hx hb dc_M_divide_60 (by decide) ?_
        exact ih _ _ _ x1 x2 (x3 + (-1)) kb kw ks ka kq kc (upd kr x3.toNatClampNeg (vp_nar .byte (kr (x3 - (1 : Int32)).toNatClampNeg))) kt kd many tsz thr hw hP hD hS (lv_sub hl [1, 2, 3, 0] rfl)
  have B_33 : ∀ (n33 : Nat) (H : Heap) (locs : List Loc) (ls : Array Slot) (x1 : Int32) (x2 : Int32) (kb : (Nat → Int32)) (kw : (Nat → Int32)) (ks : (Nat → Int32)) (ka : (Nat → Int32)) (kq : (Nat → Int32)) (kc : (Nat → Int32)) (kr : (Nat → Int32)) (kt : (Nat → Int32)) (kd : (Nat → Int32)) (many : Int32) (tsz : Int32) (thr : Int32), wp_M_divide_33 post n33 x1 x2 kb kw ks ka kq kc kr kt kd many tsz thr → va_P (dC, dI) cs_3 (wd_M h1 pB pW pS pA pQ pC pR pT pD cJ cI cZ cB kb kw ks ka kq kc kr kt kd many tsz thr) H → va_D A (wd_M h1 pB pW pS pA pQ pC pR pT pD cJ cI cZ cB kb kw ks ka kq kc kr kt kd many tsz thr) → va_S A s.heap H locs → lv_has ls 6 [(0, .ref h1), (1, .int x1), (2, .int x2)] → W p l e (headSpec ws_M_divide rm_M_divide).room s m ([.ref h1, .int a1] : List Value).toArray below meth c H locs 0 0 (MQ below (qv_M dC dI cJ cI cZ cB h1 pB pW pS pA pQ pC pR pT pD post A) ([.ref h1, .int a1] : List Value).toArray s 0 0 A) (F0 m 33 ls []) := by
    intro n33
    induction n33 with
    | zero => intro H locs ls x1 x2 kb kw ks ka kq kc kr kt kd many tsz thr hw; exact False.elim hw
    | succ n33 ih =>
      intro H locs ls x1 x2 kb kw ks ka kq kc kr kt kd many tsz thr hw hP hD hS hl
      unfold wp_M_divide_33 at hw
      refine lv_iload_n hx hb dc_M_divide_33 rfl (lv_at hl 2 rfl) ?_
      obtain ⟨hw1, hw2⟩ := hw
      refine lv_if_lt (tgt := 168) hx hb dc_M_divide_34 (by decide) (fun hc => ?_) (fun hc => ?_)
      · have hw := hw1 hc
        clear hw1 hw2
        exact W.vret hx hb hr (fun t ht hW => ⟨⟨(kb, kw, ks, ka, kq, kc, kr, kt, kd, many, tsz, thr), rfl, hw, by rw [ht]; exact hP, va_K.moved hW.alike hK, hD⟩, hS.F ht⟩) hS.2.2 dc_M_divide_168
      · have hw := hw2 hc
        clear hw1 hw2
        refine lv_iload_n hx hb dc_M_divide_37 rfl (lv_at hl 1 rfl) ?_
        refine lv_istore_n (lv' := [(3, .int x1), (0, .ref h1), (1, .int x1), (2, .int x2)]) hx hb dc_M_divide_38 rfl hl (Nat.le_of_ble_eq_true rfl) rfl (fun ls hl => ?_)
        obtain ⟨n39, hw⟩ := hw
        exact B_39 (wp_M_divide_33 post n33) ih n39 _ _ _ x1 x2 x1 kb kw ks ka kq kc kr kt kd many tsz thr hw hP hD hS (lv_sub hl [1, 2, 3, 0] rfl)
  have B_11 : ∀ (n11 : Nat) (H : Heap) (locs : List Loc) (ls : Array Slot) (x1 : Int32) (x2 : Int32) (kb : (Nat → Int32)) (kw : (Nat → Int32)) (ks : (Nat → Int32)) (ka : (Nat → Int32)) (kq : (Nat → Int32)) (kc : (Nat → Int32)) (kr : (Nat → Int32)) (kt : (Nat → Int32)) (kd : (Nat → Int32)) (many : Int32) (tsz : Int32) (thr : Int32), wp_M_divide_11 post n11 x1 x2 kb kw ks ka kq kc kr kt kd many tsz thr → va_P (dC, dI) cs_3 (wd_M h1 pB pW pS pA pQ pC pR pT pD cJ cI cZ cB kb kw ks ka kq kc kr kt kd many tsz thr) H → va_D A (wd_M h1 pB pW pS pA pQ pC pR pT pD cJ cI cZ cB kb kw ks ka kq kc kr kt kd many tsz thr) → va_S A s.heap H locs → lv_has ls 6 [(0, .ref h1), (1, .int x1), (2, .int x2)] → W p l e (headSpec ws_M_divide rm_M_divide).room s m ([.ref h1, .int a1] : List Value).toArray below meth c H locs 0 0 (MQ below (qv_M dC dI cJ cI cZ cB h1 pB pW pS pA pQ pC pR pT pD post A) ([.ref h1, .int a1] : List Value).toArray s 0 0 A) (F0 m 11 ls []) := by
    intro n11
    induction n11 with
    | zero => intro H locs ls x1 x2 kb kw ks ka kq kc kr kt kd many tsz thr hw; exact False.elim hw
    | succ n11 ih =>
      intro H locs ls x1 x2 kb kw ks ka kq kc kr kt kd many tsz thr hw hP hD hS hl
      unfold wp_M_divide_11 at hw
      refine lv_iload_n hx hb dc_M_divide_11 rfl (lv_at hl 2 rfl) ?_
      refine lv_iload_n hx hb dc_M_divide_12 rfl (lv_at hl 1 rfl) ?_
      obtain ⟨hw1, hw2⟩ := hw
      refine lv_icmp_gt (tgt := 29) hx hb dc_M_divide_13 (by decide) (fun hc => ?_) (fun hc => ?_)
      · have hw := hw1 hc
        clear hw1 hw2
        refine lv_iload_n hx hb dc_M_divide_29 rfl (lv_at hl 1 rfl) ?_
        refine lv_iconst (v := 1) hx hb dc_M_divide_30 (by decide) ?_
        refine lv_isub hx hb dc_M_divide_31 ?_
        refine lv_topi (fun v32 e32 => ?_)
        have hw := hw v32 e32
        refine lv_istore_n (lv' := [(2, .int v32), (0, .ref h1), (1, .int x1)]) hx hb dc_M_divide_32 rfl hl (Nat.le_of_ble_eq_true rfl) rfl (fun ls hl => ?_)
        obtain ⟨n33, hw⟩ := hw
        exact B_33 n33 _ _ _ x1 v32 kb kw ks ka kq kc kr kt kd many tsz thr hw hP hD hS (lv_sub hl [1, 2, 0] rfl)
      · have hw := hw2 hc
        clear hw1 hw2
        refine lv_aload_n hx hb dc_M_divide_16 rfl (lv_at hl 0 rfl) ?_
        refine va_get (D := (dC, dI)) (ci := 2) (v := .ref pR) (C := "FourWordsModel") (T := tb_M) (N := 12) hx hb hts (hu _ um_M) hown hK hP 0 rfl rfl 6 (by decide) (hq mw_t466) (fun _ h9 => h9) rfl dc_M_divide_17 ?_
        refine lv_iload_n hx hb dc_M_divide_20 rfl (lv_at hl 2 rfl) ?_
        refine lv_iconst (v := 0) hx hb dc_M_divide_21 (by decide) ?_
        obtain ⟨hin, hw⟩ := hw
        refine va_bast hx hb hK hP hD hS 7 3 rfl rfl hin dc_M_divide_22 (fun H locs hP hD hS => ?_)
        have hP : va_P (dC, dI) cs_3 (wd_M h1 pB pW pS pA pQ pC pR pT pD cJ cI cZ cB kb kw ks ka kq kc (upd kr x2.toNatClampNeg (vp_nar .byte (0 : Int32))) kt kd many tsz thr) H := hP
        have hD : va_D A (wd_M h1 pB pW pS pA pQ pC pR pT pD cJ cI cZ cB kb kw ks ka kq kc (upd kr x2.toNatClampNeg (vp_nar .byte (0 : Int32))) kt kd many tsz thr) := hD
        refine lv_iinc (lv' := [(2, .int (x2 + 1)), (0, .ref h1), (1, .int x1)]) hx hb dc_M_divide_23 hl (k := 2) rfl (ic_p1 _) (Nat.le_of_ble_eq_true rfl) rfl (fun ls hl => ?_)
        refine lv_goto (tgt := 11) hx hb dc_M_divide_26 (by decide) ?_
        exact ih _ _ _ x1 (x2 + 1) kb kw ks ka kq kc (upd kr x2.toNatClampNeg (vp_nar .byte (0 : Int32))) kt kd many tsz thr hw hP hD hS (lv_sub hl [1, 2, 0] rfl)
  unfold wp_M_divide at hw
  refine lv_aload_n hx hb dc_M_divide_0 rfl (lv_at hl 0 rfl) ?_
  refine va_get (D := (dC, dI)) (ci := 2) (v := .ref pC) (C := "FourWordsModel") (T := tb_M) (N := 12) hx hb hts (hu _ um_M) hown hK hP 0 rfl rfl 5 (by decide) (hq mw_t465) (fun _ h9 => h9) rfl dc_M_divide_1 ?_
  refine lv_iload_n hx hb dc_M_divide_4 rfl (lv_at hl 1 rfl) ?_
  refine lv_iconst (v := 0) hx hb dc_M_divide_5 (by decide) ?_
  refine gc_v (S := (Nat → Int32)) (w1 := (fun u => (wd_A pC cJ cI cZ cB u))) (wc := (wd_A pC cJ cI cZ cB kc)) (wr := ([(h1, .inr (2, [.ref pB, .ref pW, .ref pS, .ref pA, .ref pQ, .ref pC, .ref pR, .ref pT, .int many, .int tsz, .int thr, .ref pD])), (pB, .inl (cB, 4096, .inl kb)), (pW, .inl (cI, 64, .inl kw)), (pS, .inl (cZ, 64, .inl ks)), (pA, .inl (cB, 64, .inl ka)), (pQ, .inl (cB, 64, .inl kq)), (pR, .inl (cB, 65, .inl kr)), (pT, .inl (cB, 80, .inl kt)), (pD, .inl (cB, 24, .inl kd))] : va_W)) (va_runS (As := [.ref pC, .int a1, .int (0 : Int32)]) (rest := []) ⟨hx, hb, hml, hown, hts⟩ (kt_M_fill l dC dI cJ cI cZ cB pC _ a1 (0 : Int32) kc _ hw) ⟨callB_of 3 hts (gw_in mw_t538) rfl rfl rfl (hq mw_t3) (hq mw_t536) (by decide +kernel) ⟨Nat.le_of_ble_eq_true rfl, Nat.le_of_ble_eq_true rfl⟩, hq mw_t537⟩ (ps_W (hP.sub (ws' := (wd_A pC cJ cI cZ cB kc)) [6] rfl) hK (hD.sub (ws' := (wd_A pC cJ cI cZ cB kc)) [6] (by decide) rfl) hE) rfl rfl hl.1 rfl (lv_room (Nat.le_of_ble_eq_true rfl)) dc_M_divide_6 ⟨Nat.le_of_ble_eq_true rfl, Nat.le_of_ble_eq_true rfl⟩) hP hD hS hA [6] [0, 1, 2, 3, 4, 5, 7, 8, 9] rfl rfl (by decide) (by decide) (fun u H locs hw hP hD hS => ?_)
  obtain ⟨kc6, rfl⟩ : ∃ z, z = u := ⟨_, rfl⟩
  have hP : va_P (dC, dI) cs_3 (wd_M h1 pB pW pS pA pQ pC pR pT pD cJ cI cZ cB kb kw ks ka kq kc6 kr kt kd many tsz thr) H := hP.sub (ws' := (wd_M h1 pB pW pS pA pQ pC pR pT pD cJ cI cZ cB kb kw ks ka kq kc6 kr kt kd many tsz thr)) [0, 1, 2, 3, 4, 5, 9, 6, 7, 8] rfl
  have hD : va_D A (wd_M h1 pB pW pS pA pQ pC pR pT pD cJ cI cZ cB kb kw ks ka kq kc6 kr kt kd many tsz thr) := hD.sub (ws' := (wd_M h1 pB pW pS pA pQ pC pR pT pD cJ cI cZ cB kb kw ks ka kq kc6 kr kt kd many tsz thr)) [0, 1, 2, 3, 4, 5, 9, 6, 7, 8] (by decide) rfl
  try dsimp only at hw
  refine lv_iconst (v := 0) hx hb dc_M_divide_9 (by decide) ?_
  refine lv_istore_n (lv' := [(2, .int (0 : Int32)), (0, .ref h1), (1, .int a1)]) hx hb dc_M_divide_10 rfl hl (Nat.le_of_ble_eq_true rfl) rfl (fun ls hl => ?_)
  obtain ⟨n11, hw⟩ := hw
  exact B_11 n11 _ _ _ a1 (0 : Int32) kb kw ks ka kq kc6 kr kt kd many tsz thr hw hP hD hS (lv_sub hl [1, 2, 0] rfl)
set_option maxHeartbeats 4000000 in
set_option maxRecDepth 100000 in
theorem kt_M_quotient (l : Launch) (dC : Nat → ClassId) (dI : Nat → Nat → Nat) (cJ cI cZ cB : ClassId) (h1 pB pW pS pA pQ pC pR pT pD : Nat) (sz : Nat) (a1 : Int32) (a2 : Int32) (a3 : Int32) (kb : (Nat → Int32)) (kw : (Nat → Int32)) (ks : (Nat → Int32)) (ka : (Nat → Int32)) (kq : (Nat → Int32)) (kc : (Nat → Int32)) (kr : (Nat → Int32)) (kt : (Nat → Int32)) (kd : (Nat → Int32)) (many : Int32) (tsz : Int32) (thr : Int32) (post : (Nat → Int32) → (Nat → Int32) → (Nat → Int32) → (Nat → Int32) → (Nat → Int32) → (Nat → Int32) → (Nat → Int32) → (Nat → Int32) → (Nat → Int32) → Int32 → Int32 → Int32 → Prop) (hw : wp_M_quotient post a1 a2 a3 kb kw ks ka kq kc kr kt kd many tsz thr) : Met l yn_M_quotient ws_M_quotient rm_M_quotient (va_Pc [.ref h1, .int a1, .int a2, .int a3] (pc_W (dC, dI) (ty_4 cJ cI cZ cB) (wd_M h1 pB pW pS pA pQ pC pR pT pD cJ cI cZ cB kb kw ks ka kq kc kr kt kd many tsz thr) sz)) (qv_M dC dI cJ cI cZ cB h1 pB pW pS pA pQ pC pR pT pD post (va_A (wd_M h1 pB pW pS pA pQ pC pR pT pD cJ cI cZ cB kb kw ks ka kq kc kr kt kd many tsz thr) sz)) 0 0 (va_A (wd_M h1 pB pW pS pA pQ pC pR pT pD cJ cI cZ cB kb kw ks ka kq kc kr kt kd many tsz thr) sz) := by
  refine Met.ofW (cc := cd_M_quotient) (maxL := 7) (ret := none) (by decide) rfl ?_
  intro p e s m args below meth c s₁ B hml hv
  obtain ⟨rfl, hsz, hP, hK, hD0, hE⟩ := hv
  have hx := B.exec
  have hb := B.bytes
  have hr := B.returns
  have hts := atoms_spec (ws := ws_M_quotient) B.pre
  have hq : ∀ {w : Cond}, w ∈ wg_all → w.before ([.ref h1, .int a1, .int a2, .int a3] : List Value).toArray s = true := fun h => hts _ (List.mem_cons_of_mem _ h)
  have hu : ∀ L : List Cond, (∀ w ∈ L, w ∈ wg_all) → ∀ w ∈ L, w ∈ ws_M_quotient := fun L h w hw => List.mem_cons_of_mem _ (h w hw)
  have hown : s.vm.findClass "FourWordsModel" = some m.cls := findClass_of_methodNamed B.named
  have hlocks := B.notSynchronized
  subst hsz
  have hD := hD0.self (sz := s.heap.size)
  generalize hAe : va_A (wd_M h1 pB pW pS pA pQ pC pR pT pD cJ cI cZ cB kb kw ks ka kq kc kr kt kd many tsz thr) s.heap.size = A at hD ⊢
  have hA : ∀ q : Nat, s.heap.size ≤ q → A q := fun q h => by rw [← hAe]; exact Or.inr h
  have hS : va_S A s.heap s.heap [] := va_S.rf
  have hl := lv_entry [.ref h1, .int a1, .int a2, .int a3] (n := 7) (Nat.le_of_ble_eq_true rfl)
  rw [lg_entry_eq]
  generalize (lg_sl [.ref h1, .int a1, .int a2, .int a3] ++ List.replicate (7 - (lg_sl [.ref h1, .int a1, .int a2, .int a3]).length) Slot.unset).toArray = ls at hl ⊢
  have hl : lv_has ls 7 [(0, .ref h1), (1, .int a1), (2, .int a2), (3, .int a3)] := hl
  have B_139 : ∀ (H : Heap) (locs : List Loc) (ls : Array Slot) (kb : (Nat → Int32)) (kw : (Nat → Int32)) (ks : (Nat → Int32)) (ka : (Nat → Int32)) (kq : (Nat → Int32)) (kc : (Nat → Int32)) (kr : (Nat → Int32)) (kt : (Nat → Int32)) (kd : (Nat → Int32)) (many : Int32) (tsz : Int32) (thr : Int32), wp_M_quotient_139 post kb kw ks ka kq kc kr kt kd many tsz thr → va_P (dC, dI) cs_3 (wd_M h1 pB pW pS pA pQ pC pR pT pD cJ cI cZ cB kb kw ks ka kq kc kr kt kd many tsz thr) H → va_D A (wd_M h1 pB pW pS pA pQ pC pR pT pD cJ cI cZ cB kb kw ks ka kq kc kr kt kd many tsz thr) → va_S A s.heap H locs → lv_has ls 7 [] → W p l e (headSpec ws_M_quotient rm_M_quotient).room s m ([.ref h1, .int a1, .int a2, .int a3] : List Value).toArray below meth c H locs 0 0 (MQ below (qv_M dC dI cJ cI cZ cB h1 pB pW pS pA pQ pC pR pT pD post A) ([.ref h1, .int a1, .int a2, .int a3] : List Value).toArray s 0 0 A) (F0 m 139 ls []) := by
    intro H locs ls kb kw ks ka kq kc kr kt kd many tsz thr hw hP hD hS hl
    unfold wp_M_quotient_139 at hw
    exact W.vret hx hb hr (fun t ht hW => ⟨⟨(kb, kw, ks, ka, kq, kc, kr, kt, kd, many, tsz, thr), rfl, hw, by rw [ht]; exact hP, va_K.moved hW.alike hK, hD⟩, hS.F ht⟩) hS.2.2 dc_M_quotient_139
  have B_131 : ∀ (H : Heap) (locs : List Loc) (ls : Array Slot) (x3 : Int32) (kb : (Nat → Int32)) (kw : (Nat → Int32)) (ks : (Nat → Int32)) (ka : (Nat → Int32)) (kq : (Nat → Int32)) (kc : (Nat → Int32)) (kr : (Nat → Int32)) (kt : (Nat → Int32)) (kd : (Nat → Int32)) (many : Int32) (tsz : Int32) (thr : Int32), wp_M_quotient_131 post x3 kb kw ks ka kq kc kr kt kd many tsz thr → va_P (dC, dI) cs_3 (wd_M h1 pB pW pS pA pQ pC pR pT pD cJ cI cZ cB kb kw ks ka kq kc kr kt kd many tsz thr) H → va_D A (wd_M h1 pB pW pS pA pQ pC pR pT pD cJ cI cZ cB kb kw ks ka kq kc kr kt kd many tsz thr) → va_S A s.heap H locs → lv_has ls 7 [(0, .ref h1), (3, .int x3)] → W p l e (headSpec ws_M_quotient rm_M_quotient).room s m ([.ref h1, .int a1, .int a2, .int a3] : List Value).toArray below meth c H locs 0 0 (MQ below (qv_M dC dI cJ cI cZ cB h1 pB pW pS pA pQ pC pR pT pD post A) ([.ref h1, .int a1, .int a2, .int a3] : List Value).toArray s 0 0 A) (F0 m 131 ls []) := by
    intro H locs ls x3 kb kw ks ka kq kc kr kt kd many tsz thr hw hP hD hS hl
    unfold wp_M_quotient_131 at hw
    refine lv_aload_n hx hb dc_M_quotient_131 rfl (lv_at hl 0 rfl) ?_
    refine va_get (D := (dC, dI)) (ci := 2) (v := .ref pC) (C := "FourWordsModel") (T := tb_M) (N := 12) hx hb hts (hu _ um_M) hown hK hP 0 rfl rfl 5 (by decide) (hq mw_t465) (fun _ h9 => h9) rfl dc_M_quotient_132 ?_
    refine lv_iload_n hx hb dc_M_quotient_135 rfl (lv_at hl 1 rfl) ?_
    refine gc_v (S := (Nat → Int32)) (w1 := (fun u => (wd_A pC cJ cI cZ cB u))) (wc := (wd_A pC cJ cI cZ cB kc)) (wr := ([(h1, .inr (2, [.ref pB, .ref pW, .ref pS, .ref pA, .ref pQ, .ref pC, .ref pR, .ref pT, .int many, .int tsz, .int thr, .ref pD])), (pB, .inl (cB, 4096, .inl kb)), (pW, .inl (cI, 64, .inl kw)), (pS, .inl (cZ, 64, .inl ks)), (pA, .inl (cB, 64, .inl ka)), (pQ, .inl (cB, 64, .inl kq)), (pR, .inl (cB, 65, .inl kr)), (pT, .inl (cB, 80, .inl kt)), (pD, .inl (cB, 24, .inl kd))] : va_W)) (va_runS (As := [.ref pC, .int x3]) (rest := []) ⟨hx, hb, hml, hown, hts⟩ (kt_M_negate l dC dI cJ cI cZ cB pC _ x3 kc _ hw) ⟨callB_of 2 hts (gw_in mw_t552) rfl rfl rfl (hq mw_t3) (hq mw_t550) (by decide +kernel) ⟨Nat.le_of_ble_eq_true rfl, Nat.le_of_ble_eq_true rfl⟩, hq mw_t551⟩ (ps_W (hP.sub (ws' := (wd_A pC cJ cI cZ cB kc)) [6] rfl) hK (hD.sub (ws' := (wd_A pC cJ cI cZ cB kc)) [6] (by decide) rfl) hE) rfl rfl hl.1 rfl (lv_room (Nat.le_of_ble_eq_true rfl)) dc_M_quotient_136 ⟨Nat.le_of_ble_eq_true rfl, Nat.le_of_ble_eq_true rfl⟩) hP hD hS hA [6] [0, 1, 2, 3, 4, 5, 7, 8, 9] rfl rfl (by decide) (by decide) (fun u H locs hw hP hD hS => ?_)
    obtain ⟨kc136, rfl⟩ : ∃ z, z = u := ⟨_, rfl⟩
    have hP : va_P (dC, dI) cs_3 (wd_M h1 pB pW pS pA pQ pC pR pT pD cJ cI cZ cB kb kw ks ka kq kc136 kr kt kd many tsz thr) H := hP.sub (ws' := (wd_M h1 pB pW pS pA pQ pC pR pT pD cJ cI cZ cB kb kw ks ka kq kc136 kr kt kd many tsz thr)) [0, 1, 2, 3, 4, 5, 9, 6, 7, 8] rfl
    have hD : va_D A (wd_M h1 pB pW pS pA pQ pC pR pT pD cJ cI cZ cB kb kw ks ka kq kc136 kr kt kd many tsz thr) := hD.sub (ws' := (wd_M h1 pB pW pS pA pQ pC pR pT pD cJ cI cZ cB kb kw ks ka kq kc136 kr kt kd many tsz thr)) [0, 1, 2, 3, 4, 5, 9, 6, 7, 8] (by decide) rfl
    try dsimp only at hw
    exact B_139 _ _ _ kb kw ks ka kq kc136 kr kt kd many tsz thr hw hP hD hS (lv_sub hl [] rfl)
  have B_111 : ∀ (H : Heap) (locs : List Loc) (ls : Array Slot) (x1 : Int32) (x3 : Int32) (x4 : Int32) (x5 : Int32) (kb : (Nat → Int32)) (kw : (Nat → Int32)) (ks : (Nat → Int32)) (ka : (Nat → Int32)) (kq : (Nat → Int32)) (kc : (Nat → Int32)) (kr : (Nat → Int32)) (kt : (Nat → Int32)) (kd : (Nat → Int32)) (many : Int32) (tsz : Int32) (thr : Int32), wp_M_quotient_111 post x1 x3 x4 x5 kb kw ks ka kq kc kr kt kd many tsz thr → va_P (dC, dI) cs_3 (wd_M h1 pB pW pS pA pQ pC pR pT pD cJ cI cZ cB kb kw ks ka kq kc kr kt kd many tsz thr) H → va_D A (wd_M h1 pB pW pS pA pQ pC pR pT pD cJ cI cZ cB kb kw ks ka kq kc kr kt kd many tsz thr) → va_S A s.heap H locs → lv_has ls 7 [(0, .ref h1), (1, .int x1), (3, .int x3), (4, .int x4), (5, .int x5)] → W p l e (headSpec ws_M_quotient rm_M_quotient).room s m ([.ref h1, .int a1, .int a2, .int a3] : List Value).toArray below meth c H locs 0 0 (MQ below (qv_M dC dI cJ cI cZ cB h1 pB pW pS pA pQ pC pR pT pD post A) ([.ref h1, .int a1, .int a2, .int a3] : List Value).toArray s 0 0 A) (F0 m 111 ls []) := by
    intro H locs ls x1 x3 x4 x5 kb kw ks ka kq kc kr kt kd many tsz thr hw hP hD hS hl
    unfold wp_M_quotient_111 at hw
    refine lv_iload_n hx hb dc_M_quotient_111 rfl (lv_at hl 1 rfl) ?_
    refine lv_iconst (v := 3) hx hb dc_M_quotient_112 (by decide) ?_
    obtain ⟨hw1, hw2⟩ := hw
    refine lv_icmp_ne (tgt := 126) hx hb dc_M_quotient_113 (by decide) (fun hc => ?_) (fun hc => ?_)
    · have hw := hw1 hc
      clear hw1 hw2
      refine lv_iload hx hb dc_M_quotient_126 (lv_at hl 3 rfl) ?_
      obtain ⟨hw1, hw2⟩ := hw
      refine lv_if_eq (tgt := 139) hx hb dc_M_quotient_128 (by decide) (fun hc => ?_) (fun hc => ?_)
      · have hw := hw1 hc
        clear hw1 hw2
        exact B_139 _ _ _ kb kw ks ka kq kc kr kt kd many tsz thr hw hP hD hS (lv_sub hl [] rfl)
      · have hw := hw2 hc
        clear hw1 hw2
        exact B_131 _ _ _ x3 kb kw ks ka kq kc kr kt kd many tsz thr hw hP hD hS (lv_sub hl [0, 2] rfl)
    · have hw := hw2 (fun h9 => h9 hc)
      clear hw1 hw2
      refine lv_iload hx hb dc_M_quotient_116 (lv_at hl 3 rfl) ?_
      refine lv_iload hx hb dc_M_quotient_118 (lv_at hl 4 rfl) ?_
      obtain ⟨hw1, hw2⟩ := hw
      refine lv_icmp_eq (tgt := 139) hx hb dc_M_quotient_120 (by decide) (fun hc => ?_) (fun hc => ?_)
      · have hw := hw1 hc
        clear hw1 hw2
        exact B_139 _ _ _ kb kw ks ka kq kc kr kt kd many tsz thr hw hP hD hS (lv_sub hl [] rfl)
      · have hw := hw2 hc
        clear hw1 hw2
        refine lv_goto (tgt := 131) hx hb dc_M_quotient_123 (by decide) ?_
        exact B_131 _ _ _ x3 kb kw ks ka kq kc kr kt kd many tsz thr hw hP hD hS (lv_sub hl [0, 2] rfl)
  have B_85 : ∀ (n85 : Nat) (H : Heap) (locs : List Loc) (ls : Array Slot) (x1 : Int32) (x3 : Int32) (x4 : Int32) (x5 : Int32) (x6 : Int32) (kb : (Nat → Int32)) (kw : (Nat → Int32)) (ks : (Nat → Int32)) (ka : (Nat → Int32)) (kq : (Nat → Int32)) (kc : (Nat → Int32)) (kr : (Nat → Int32)) (kt : (Nat → Int32)) (kd : (Nat → Int32)) (many : Int32) (tsz : Int32) (thr : Int32), wp_M_quotient_85 post n85 x1 x3 x4 x5 x6 kb kw ks ka kq kc kr kt kd many tsz thr → va_P (dC, dI) cs_3 (wd_M h1 pB pW pS pA pQ pC pR pT pD cJ cI cZ cB kb kw ks ka kq kc kr kt kd many tsz thr) H → va_D A (wd_M h1 pB pW pS pA pQ pC pR pT pD cJ cI cZ cB kb kw ks ka kq kc kr kt kd many tsz thr) → va_S A s.heap H locs → lv_has ls 7 [(0, .ref h1), (1, .int x1), (3, .int x3), (4, .int x4), (5, .int x5), (6, .int x6)] → W p l e (headSpec ws_M_quotient rm_M_quotient).room s m ([.ref h1, .int a1, .int a2, .int a3] : List Value).toArray below meth c H locs 0 0 (MQ below (qv_M dC dI cJ cI cZ cB h1 pB pW pS pA pQ pC pR pT pD post A) ([.ref h1, .int a1, .int a2, .int a3] : List Value).toArray s 0 0 A) (F0 m 85 ls []) := by
    intro n85
    induction n85 with
    | zero => intro H locs ls x1 x3 x4 x5 x6 kb kw ks ka kq kc kr kt kd many tsz thr hw; exact False.elim hw
    | succ n85 ih =>
      intro H locs ls x1 x3 x4 x5 x6 kb kw ks ka kq kc kr kt kd many tsz thr hw hP hD hS hl
      unfold wp_M_quotient_85 at hw
      refine lv_iload hx hb dc_M_quotient_85 (lv_at hl 5 rfl) ?_
      refine lv_iload_n hx hb dc_M_quotient_87 rfl (lv_at hl 2 rfl) ?_
      obtain ⟨hw1, hw2⟩ := hw
      refine lv_icmp_ge (tgt := 111) hx hb dc_M_quotient_88 (by decide) (fun hc => ?_) (fun hc => ?_)
      · have hw := hw1 hc
        clear hw1 hw2
        exact B_111 _ _ _ x1 x3 x4 x5 kb kw ks ka kq kc kr kt kd many tsz thr hw hP hD hS (lv_sub hl [0, 1, 2, 3, 4] rfl)
      · have hw := hw2 hc
        clear hw1 hw2
        refine lv_aload_n hx hb dc_M_quotient_91 rfl (lv_at hl 0 rfl) ?_
        refine va_get (D := (dC, dI)) (ci := 2) (v := .ref pC) (C := "FourWordsModel") (T := tb_M) (N := 12) hx hb hts (hu _ um_M) hown hK hP 0 rfl rfl 5 (by decide) (hq mw_t465) (fun _ h9 => h9) rfl dc_M_quotient_92 ?_
        refine lv_iload hx hb dc_M_quotient_95 (lv_at hl 5 rfl) ?_
        refine lv_aload_n hx hb dc_M_quotient_97 rfl (lv_at hl 0 rfl) ?_
        refine va_get (D := (dC, dI)) (ci := 2) (v := .ref pR) (C := "FourWordsModel") (T := tb_M) (N := 12) hx hb hts (hu _ um_M) hown hK hP 0 rfl rfl 6 (by decide) (hq mw_t466) (fun _ h9 => h9) rfl dc_M_quotient_98 ?_
        refine lv_iload hx hb dc_M_quotient_101 (lv_at hl 5 rfl) ?_
        obtain ⟨hin, hw⟩ := hw
        refine va_bald hx hb hK hP 7 3 rfl rfl hin dc_M_quotient_103 ?_
        obtain ⟨hin, hw⟩ := hw
        refine va_bast hx hb hK hP hD hS 6 3 rfl rfl hin dc_M_quotient_104 (fun H locs hP hD hS => ?_)
        have hP : va_P (dC, dI) cs_3 (wd_M h1 pB pW pS pA pQ pC pR pT pD cJ cI cZ cB kb kw ks ka kq (upd kc x6.toNatClampNeg (vp_nar .byte (kr x6.toNatClampNeg))) kr kt kd many tsz thr) H := hP
        have hD : va_D A (wd_M h1 pB pW pS pA pQ pC pR pT pD cJ cI cZ cB kb kw ks ka kq (upd kc x6.toNatClampNeg (vp_nar .byte (kr x6.toNatClampNeg))) kr kt kd many tsz thr) := hD
        refine lv_iinc (lv' := [(6, .int (x6 + 1)), (0, .ref h1), (1, .int x1), (3, .int x3), (4, .int x4), (5, .int x5)]) hx hb dc_M_quotient_105 hl (k := 5) rfl (ic_p1 _) (Nat.le_of_ble_eq_true rfl) rfl (fun ls hl => ?_)
        refine lv_goto (tgt := 85) hx hb dc_M_quotient_108 (by decide) ?_
        exact ih _ _ _ x1 x3 x4 x5 (x6 + 1) kb kw ks ka kq (upd kc x6.toNatClampNeg (vp_nar .byte (kr x6.toNatClampNeg))) kr kt kd many tsz thr hw hP hD hS (lv_sub hl [1, 2, 3, 4, 5, 0] rfl)
  have B_72 : ∀ (H : Heap) (locs : List Loc) (ls : Array Slot) (x1 : Int32) (x3 : Int32) (x4 : Int32) (x5 : Int32) (kb : (Nat → Int32)) (kw : (Nat → Int32)) (ks : (Nat → Int32)) (ka : (Nat → Int32)) (kq : (Nat → Int32)) (kc : (Nat → Int32)) (kr : (Nat → Int32)) (kt : (Nat → Int32)) (kd : (Nat → Int32)) (many : Int32) (tsz : Int32) (thr : Int32), wp_M_quotient_72 post x1 x3 x4 x5 kb kw ks ka kq kc kr kt kd many tsz thr → va_P (dC, dI) cs_3 (wd_M h1 pB pW pS pA pQ pC pR pT pD cJ cI cZ cB kb kw ks ka kq kc kr kt kd many tsz thr) H → va_D A (wd_M h1 pB pW pS pA pQ pC pR pT pD cJ cI cZ cB kb kw ks ka kq kc kr kt kd many tsz thr) → va_S A s.heap H locs → lv_has ls 7 [(0, .ref h1), (1, .int x1), (3, .int x3), (4, .int x4), (5, .int x5)] → W p l e (headSpec ws_M_quotient rm_M_quotient).room s m ([.ref h1, .int a1, .int a2, .int a3] : List Value).toArray below meth c H locs 0 0 (MQ below (qv_M dC dI cJ cI cZ cB h1 pB pW pS pA pQ pC pR pT pD post A) ([.ref h1, .int a1, .int a2, .int a3] : List Value).toArray s 0 0 A) (F0 m 72 ls []) := by
    intro H locs ls x1 x3 x4 x5 kb kw ks ka kq kc kr kt kd many tsz thr hw hP hD hS hl
    unfold wp_M_quotient_72 at hw
    refine lv_aload_n hx hb dc_M_quotient_72 rfl (lv_at hl 0 rfl) ?_
    refine lv_iload_n hx hb dc_M_quotient_73 rfl (lv_at hl 2 rfl) ?_
    refine gc_v (S := (Nat → Int32) × (Nat → Int32) × (Nat → Int32) × (Nat → Int32) × (Nat → Int32) × (Nat → Int32) × (Nat → Int32) × (Nat → Int32) × (Nat → Int32) × Int32 × Int32 × Int32) (w1 := (fun u => (wd_M h1 pB pW pS pA pQ pC pR pT pD cJ cI cZ cB u.1 u.2.1 u.2.2.1 u.2.2.2.1 u.2.2.2.2.1 u.2.2.2.2.2.1 u.2.2.2.2.2.2.1 u.2.2.2.2.2.2.2.1 u.2.2.2.2.2.2.2.2.1 u.2.2.2.2.2.2.2.2.2.1 u.2.2.2.2.2.2.2.2.2.2.1 u.2.2.2.2.2.2.2.2.2.2.2))) (wc := (wd_M h1 pB pW pS pA pQ pC pR pT pD cJ cI cZ cB kb kw ks ka kq kc kr kt kd many tsz thr)) (wr := ([] : va_W)) (va_runV (As := [.int x3]) (rest := []) ⟨hx, hb, hml, hown, hts⟩ (kt_M_divide l dC dI cJ cI cZ cB h1 pB pW pS pA pQ pC pR pT pD _ x3 kb kw ks ka kq kc kr kt kd many tsz thr _ hw) ⟨callB_of 1 hts (gw_in mw_t556) rfl rfl rfl (hq mw_t3) (hq mw_t553) (by decide +kernel) ⟨Nat.le_of_ble_eq_true rfl, Nat.le_of_ble_eq_true rfl⟩, hq mw_t555, hq mw_s41⟩ (pv_W (va_recv (q0 := 0) (ci := 2) hK hP rfl rfl) (hP.sub (ws' := (wd_M h1 pB pW pS pA pQ pC pR pT pD cJ cI cZ cB kb kw ks ka kq kc kr kt kd many tsz thr)) [0, 1, 2, 3, 4, 5, 6, 7, 8, 9] rfl) hK (hD.sub (ws' := (wd_M h1 pB pW pS pA pQ pC pR pT pD cJ cI cZ cB kb kw ks ka kq kc kr kt kd many tsz thr)) [0, 1, 2, 3, 4, 5, 6, 7, 8, 9] (by decide) rfl) hE) rfl rfl hl.1 rfl (lv_room (Nat.le_of_ble_eq_true rfl)) dc_M_quotient_74 ⟨Nat.le_of_ble_eq_true rfl, Nat.le_of_ble_eq_true rfl⟩) hP hD hS hA [0, 1, 2, 3, 4, 5, 6, 7, 8, 9] [] rfl rfl (by decide) (by decide) (fun u H locs hw hP hD hS => ?_)
    obtain ⟨kb74, kw74, ks74, ka74, kq74, kc74, kr74, kt74, kd74, many74, tsz74, thr74⟩ := u
    have hP : va_P (dC, dI) cs_3 (wd_M h1 pB pW pS pA pQ pC pR pT pD cJ cI cZ cB kb74 kw74 ks74 ka74 kq74 kc74 kr74 kt74 kd74 many74 tsz74 thr74) H := hP.sub (ws' := (wd_M h1 pB pW pS pA pQ pC pR pT pD cJ cI cZ cB kb74 kw74 ks74 ka74 kq74 kc74 kr74 kt74 kd74 many74 tsz74 thr74)) [0, 1, 2, 3, 4, 5, 6, 7, 8, 9] rfl
    have hD : va_D A (wd_M h1 pB pW pS pA pQ pC pR pT pD cJ cI cZ cB kb74 kw74 ks74 ka74 kq74 kc74 kr74 kt74 kd74 many74 tsz74 thr74) := hD.sub (ws' := (wd_M h1 pB pW pS pA pQ pC pR pT pD cJ cI cZ cB kb74 kw74 ks74 ka74 kq74 kc74 kr74 kt74 kd74 many74 tsz74 thr74)) [0, 1, 2, 3, 4, 5, 6, 7, 8, 9] (by decide) rfl
    try dsimp only at hw
    refine lv_iload_n hx hb dc_M_quotient_77 rfl (lv_at hl 1 rfl) ?_
    refine lv_iconst (v := 4) hx hb dc_M_quotient_78 (by decide) ?_
    obtain ⟨hw1, hw2⟩ := hw
    refine lv_icmp_ne (tgt := 111) hx hb dc_M_quotient_79 (by decide) (fun hc => ?_) (fun hc => ?_)
    · have hw := hw1 hc
      clear hw1 hw2
      exact B_111 _ _ _ x1 x3 x4 x5 kb74 kw74 ks74 ka74 kq74 kc74 kr74 kt74 kd74 many74 tsz74 thr74 hw hP hD hS (lv_sub hl [0, 1, 2, 3, 4] rfl)
    · have hw := hw2 (fun h9 => h9 hc)
      clear hw1 hw2
      refine lv_iconst (v := 0) hx hb dc_M_quotient_82 (by decide) ?_
      refine lv_istore (lv' := [(6, .int (0 : Int32)), (0, .ref h1), (1, .int x1), (3, .int x3), (4, .int x4), (5, .int x5)]) hx hb dc_M_quotient_83 hl (Nat.le_of_ble_eq_true rfl) rfl (fun ls hl => ?_)
      obtain ⟨n85, hw⟩ := hw
      exact B_85 n85 _ _ _ x1 x3 x4 x5 (0 : Int32) kb74 kw74 ks74 ka74 kq74 kc74 kr74 kt74 kd74 many74 tsz74 thr74 hw hP hD hS (lv_sub hl [1, 2, 3, 4, 5, 0] rfl)
  have B_59 : ∀ (H : Heap) (locs : List Loc) (ls : Array Slot) (x1 : Int32) (x3 : Int32) (x4 : Int32) (x5 : Int32) (kb : (Nat → Int32)) (kw : (Nat → Int32)) (ks : (Nat → Int32)) (ka : (Nat → Int32)) (kq : (Nat → Int32)) (kc : (Nat → Int32)) (kr : (Nat → Int32)) (kt : (Nat → Int32)) (kd : (Nat → Int32)) (many : Int32) (tsz : Int32) (thr : Int32), wp_M_quotient_59 post x1 x3 x4 x5 kb kw ks ka kq kc kr kt kd many tsz thr → va_P (dC, dI) cs_3 (wd_M h1 pB pW pS pA pQ pC pR pT pD cJ cI cZ cB kb kw ks ka kq kc kr kt kd many tsz thr) H → va_D A (wd_M h1 pB pW pS pA pQ pC pR pT pD cJ cI cZ cB kb kw ks ka kq kc kr kt kd many tsz thr) → va_S A s.heap H locs → lv_has ls 7 [(0, .ref h1), (1, .int x1), (3, .int x3), (4, .int x4), (5, .int x5)] → W p l e (headSpec ws_M_quotient rm_M_quotient).room s m ([.ref h1, .int a1, .int a2, .int a3] : List Value).toArray below meth c H locs 0 0 (MQ below (qv_M dC dI cJ cI cZ cB h1 pB pW pS pA pQ pC pR pT pD post A) ([.ref h1, .int a1, .int a2, .int a3] : List Value).toArray s 0 0 A) (F0 m 59 ls []) := by
    intro H locs ls x1 x3 x4 x5 kb kw ks ka kq kc kr kt kd many tsz thr hw hP hD hS hl
    unfold wp_M_quotient_59 at hw
    refine lv_iload hx hb dc_M_quotient_59 (lv_at hl 4 rfl) ?_
    obtain ⟨hw1, hw2⟩ := hw
    refine lv_if_eq (tgt := 72) hx hb dc_M_quotient_61 (by decide) (fun hc => ?_) (fun hc => ?_)
    · have hw := hw1 hc
      clear hw1 hw2
      exact B_72 _ _ _ x1 x3 x4 x5 kb kw ks ka kq kc kr kt kd many tsz thr hw hP hD hS (lv_sub hl [0, 1, 2, 3, 4] rfl)
    · have hw := hw2 hc
      clear hw1 hw2
      refine lv_aload_n hx hb dc_M_quotient_64 rfl (lv_at hl 0 rfl) ?_
      refine va_get (D := (dC, dI)) (ci := 2) (v := .ref pQ) (C := "FourWordsModel") (T := tb_M) (N := 12) hx hb hts (hu _ um_M) hown hK hP 0 rfl rfl 4 (by decide) (hq mw_t464) (fun _ h9 => h9) rfl dc_M_quotient_65 ?_
      refine lv_iload_n hx hb dc_M_quotient_68 rfl (lv_at hl 2 rfl) ?_
      refine gc_v (S := (Nat → Int32)) (w1 := (fun u => (wd_A pQ cJ cI cZ cB u))) (wc := (wd_A pQ cJ cI cZ cB kq)) (wr := ([(h1, .inr (2, [.ref pB, .ref pW, .ref pS, .ref pA, .ref pQ, .ref pC, .ref pR, .ref pT, .int many, .int tsz, .int thr, .ref pD])), (pB, .inl (cB, 4096, .inl kb)), (pW, .inl (cI, 64, .inl kw)), (pS, .inl (cZ, 64, .inl ks)), (pA, .inl (cB, 64, .inl ka)), (pC, .inl (cB, 64, .inl kc)), (pR, .inl (cB, 65, .inl kr)), (pT, .inl (cB, 80, .inl kt)), (pD, .inl (cB, 24, .inl kd))] : va_W)) (va_runS (As := [.ref pQ, .int x3]) (rest := []) ⟨hx, hb, hml, hown, hts⟩ (kt_M_negate l dC dI cJ cI cZ cB pQ _ x3 kq _ hw) ⟨callB_of 2 hts (gw_in mw_t552) rfl rfl rfl (hq mw_t3) (hq mw_t550) (by decide +kernel) ⟨Nat.le_of_ble_eq_true rfl, Nat.le_of_ble_eq_true rfl⟩, hq mw_t551⟩ (ps_W (hP.sub (ws' := (wd_A pQ cJ cI cZ cB kq)) [5] rfl) hK (hD.sub (ws' := (wd_A pQ cJ cI cZ cB kq)) [5] (by decide) rfl) hE) rfl rfl hl.1 rfl (lv_room (Nat.le_of_ble_eq_true rfl)) dc_M_quotient_69 ⟨Nat.le_of_ble_eq_true rfl, Nat.le_of_ble_eq_true rfl⟩) hP hD hS hA [5] [0, 1, 2, 3, 4, 6, 7, 8, 9] rfl rfl (by decide) (by decide) (fun u H locs hw hP hD hS => ?_)
      obtain ⟨kq69, rfl⟩ : ∃ z, z = u := ⟨_, rfl⟩
      have hP : va_P (dC, dI) cs_3 (wd_M h1 pB pW pS pA pQ pC pR pT pD cJ cI cZ cB kb kw ks ka kq69 kc kr kt kd many tsz thr) H := hP.sub (ws' := (wd_M h1 pB pW pS pA pQ pC pR pT pD cJ cI cZ cB kb kw ks ka kq69 kc kr kt kd many tsz thr)) [0, 1, 2, 3, 4, 9, 5, 6, 7, 8] rfl
      have hD : va_D A (wd_M h1 pB pW pS pA pQ pC pR pT pD cJ cI cZ cB kb kw ks ka kq69 kc kr kt kd many tsz thr) := hD.sub (ws' := (wd_M h1 pB pW pS pA pQ pC pR pT pD cJ cI cZ cB kb kw ks ka kq69 kc kr kt kd many tsz thr)) [0, 1, 2, 3, 4, 9, 5, 6, 7, 8] (by decide) rfl
      try dsimp only at hw
      exact B_72 _ _ _ x1 x3 x4 x5 kb kw ks ka kq69 kc kr kt kd many tsz thr hw hP hD hS (lv_sub hl [0, 1, 2, 3, 4] rfl)
  have B_44 : ∀ (H : Heap) (locs : List Loc) (ls : Array Slot) (x1 : Int32) (x3 : Int32) (x4 : Int32) (t0 : Int32) (kb : (Nat → Int32)) (kw : (Nat → Int32)) (ks : (Nat → Int32)) (ka : (Nat → Int32)) (kq : (Nat → Int32)) (kc : (Nat → Int32)) (kr : (Nat → Int32)) (kt : (Nat → Int32)) (kd : (Nat → Int32)) (many : Int32) (tsz : Int32) (thr : Int32), wp_M_quotient_44 post x1 x3 x4 t0 kb kw ks ka kq kc kr kt kd many tsz thr → va_P (dC, dI) cs_3 (wd_M h1 pB pW pS pA pQ pC pR pT pD cJ cI cZ cB kb kw ks ka kq kc kr kt kd many tsz thr) H → va_D A (wd_M h1 pB pW pS pA pQ pC pR pT pD cJ cI cZ cB kb kw ks ka kq kc kr kt kd many tsz thr) → va_S A s.heap H locs → lv_has ls 7 [(0, .ref h1), (1, .int x1), (3, .int x3), (4, .int x4)] → W p l e (headSpec ws_M_quotient rm_M_quotient).room s m ([.ref h1, .int a1, .int a2, .int a3] : List Value).toArray below meth c H locs 0 0 (MQ below (qv_M dC dI cJ cI cZ cB h1 pB pW pS pA pQ pC pR pT pD post A) ([.ref h1, .int a1, .int a2, .int a3] : List Value).toArray s 0 0 A) (F0 m 44 ls [.int t0]) := by
    intro H locs ls x1 x3 x4 t0 kb kw ks ka kq kc kr kt kd many tsz thr hw hP hD hS hl
    unfold wp_M_quotient_44 at hw
    refine lv_istore (lv' := [(5, .int t0), (0, .ref h1), (1, .int x1), (3, .int x3), (4, .int x4)]) hx hb dc_M_quotient_44 hl (Nat.le_of_ble_eq_true rfl) rfl (fun ls hl => ?_)
    refine lv_iload hx hb dc_M_quotient_46 (lv_at hl 4 rfl) ?_
    obtain ⟨hw1, hw2⟩ := hw
    refine lv_if_eq (tgt := 59) hx hb dc_M_quotient_48 (by decide) (fun hc => ?_) (fun hc => ?_)
    · have hw := hw1 hc
      clear hw1 hw2
      exact B_59 _ _ _ x1 x3 x4 t0 kb kw ks ka kq kc kr kt kd many tsz thr hw hP hD hS (lv_sub hl [1, 2, 3, 4, 0] rfl)
    · have hw := hw2 hc
      clear hw1 hw2
      refine lv_aload_n hx hb dc_M_quotient_51 rfl (lv_at hl 1 rfl) ?_
      refine va_get (D := (dC, dI)) (ci := 2) (v := .ref pA) (C := "FourWordsModel") (T := tb_M) (N := 12) hx hb hts (hu _ um_M) hown hK hP 0 rfl rfl 3 (by decide) (hq mw_t463) (fun _ h9 => h9) rfl dc_M_quotient_52 ?_
      refine lv_iload_n hx hb dc_M_quotient_55 rfl (lv_at hl 3 rfl) ?_
      refine gc_v (S := (Nat → Int32)) (w1 := (fun u => (wd_A pA cJ cI cZ cB u))) (wc := (wd_A pA cJ cI cZ cB ka)) (wr := ([(h1, .inr (2, [.ref pB, .ref pW, .ref pS, .ref pA, .ref pQ, .ref pC, .ref pR, .ref pT, .int many, .int tsz, .int thr, .ref pD])), (pB, .inl (cB, 4096, .inl kb)), (pW, .inl (cI, 64, .inl kw)), (pS, .inl (cZ, 64, .inl ks)), (pQ, .inl (cB, 64, .inl kq)), (pC, .inl (cB, 64, .inl kc)), (pR, .inl (cB, 65, .inl kr)), (pT, .inl (cB, 80, .inl kt)), (pD, .inl (cB, 24, .inl kd))] : va_W)) (va_runS (As := [.ref pA, .int x3]) (rest := []) ⟨hx, hb, hml, hown, hts⟩ (kt_M_negate l dC dI cJ cI cZ cB pA _ x3 ka _ hw) ⟨callB_of 2 hts (gw_in mw_t552) rfl rfl rfl (hq mw_t3) (hq mw_t550) (by decide +kernel) ⟨Nat.le_of_ble_eq_true rfl, Nat.le_of_ble_eq_true rfl⟩, hq mw_t551⟩ (ps_W (hP.sub (ws' := (wd_A pA cJ cI cZ cB ka)) [4] rfl) hK (hD.sub (ws' := (wd_A pA cJ cI cZ cB ka)) [4] (by decide) rfl) hE) rfl rfl hl.1 rfl (lv_room (Nat.le_of_ble_eq_true rfl)) dc_M_quotient_56 ⟨Nat.le_of_ble_eq_true rfl, Nat.le_of_ble_eq_true rfl⟩) hP hD hS hA [4] [0, 1, 2, 3, 5, 6, 7, 8, 9] rfl rfl (by decide) (by decide) (fun u H locs hw hP hD hS => ?_)
      obtain ⟨ka56, rfl⟩ : ∃ z, z = u := ⟨_, rfl⟩
      have hP : va_P (dC, dI) cs_3 (wd_M h1 pB pW pS pA pQ pC pR pT pD cJ cI cZ cB kb kw ks ka56 kq kc kr kt kd many tsz thr) H := hP.sub (ws' := (wd_M h1 pB pW pS pA pQ pC pR pT pD cJ cI cZ cB kb kw ks ka56 kq kc kr kt kd many tsz thr)) [0, 1, 2, 3, 9, 4, 5, 6, 7, 8] rfl
      have hD : va_D A (wd_M h1 pB pW pS pA pQ pC pR pT pD cJ cI cZ cB kb kw ks ka56 kq kc kr kt kd many tsz thr) := hD.sub (ws' := (wd_M h1 pB pW pS pA pQ pC pR pT pD cJ cI cZ cB kb kw ks ka56 kq kc kr kt kd many tsz thr)) [0, 1, 2, 3, 9, 4, 5, 6, 7, 8] (by decide) rfl
      try dsimp only at hw
      exact B_59 _ _ _ x1 x3 x4 t0 kb kw ks ka56 kq kc kr kt kd many tsz thr hw hP hD hS (lv_sub hl [1, 2, 3, 4, 0] rfl)
  have B_43 : ∀ (H : Heap) (locs : List Loc) (ls : Array Slot) (x1 : Int32) (x3 : Int32) (x4 : Int32) (kb : (Nat → Int32)) (kw : (Nat → Int32)) (ks : (Nat → Int32)) (ka : (Nat → Int32)) (kq : (Nat → Int32)) (kc : (Nat → Int32)) (kr : (Nat → Int32)) (kt : (Nat → Int32)) (kd : (Nat → Int32)) (many : Int32) (tsz : Int32) (thr : Int32), wp_M_quotient_43 post x1 x3 x4 kb kw ks ka kq kc kr kt kd many tsz thr → va_P (dC, dI) cs_3 (wd_M h1 pB pW pS pA pQ pC pR pT pD cJ cI cZ cB kb kw ks ka kq kc kr kt kd many tsz thr) H → va_D A (wd_M h1 pB pW pS pA pQ pC pR pT pD cJ cI cZ cB kb kw ks ka kq kc kr kt kd many tsz thr) → va_S A s.heap H locs → lv_has ls 7 [(0, .ref h1), (1, .int x1), (3, .int x3), (4, .int x4)] → W p l e (headSpec ws_M_quotient rm_M_quotient).room s m ([.ref h1, .int a1, .int a2, .int a3] : List Value).toArray below meth c H locs 0 0 (MQ below (qv_M dC dI cJ cI cZ cB h1 pB pW pS pA pQ pC pR pT pD post A) ([.ref h1, .int a1, .int a2, .int a3] : List Value).toArray s 0 0 A) (F0 m 43 ls []) := by
    intro H locs ls x1 x3 x4 kb kw ks ka kq kc kr kt kd many tsz thr hw hP hD hS hl
    unfold wp_M_quotient_43 at hw
    refine lv_iconst (v := 0) hx hb dc_M_quotient_43 (by decide) ?_
    exact B_44 _ _ _ x1 x3 x4 (0 : Int32) kb kw ks ka kq kc kr kt kd many tsz thr hw hP hD hS (lv_sub hl [0, 1, 2, 3] rfl)
  have B_21 : ∀ (H : Heap) (locs : List Loc) (ls : Array Slot) (x1 : Int32) (x2 : Int32) (x3 : Int32) (t0 : Int32) (kb : (Nat → Int32)) (kw : (Nat → Int32)) (ks : (Nat → Int32)) (ka : (Nat → Int32)) (kq : (Nat → Int32)) (kc : (Nat → Int32)) (kr : (Nat → Int32)) (kt : (Nat → Int32)) (kd : (Nat → Int32)) (many : Int32) (tsz : Int32) (thr : Int32), wp_M_quotient_21 post x1 x2 x3 t0 kb kw ks ka kq kc kr kt kd many tsz thr → va_P (dC, dI) cs_3 (wd_M h1 pB pW pS pA pQ pC pR pT pD cJ cI cZ cB kb kw ks ka kq kc kr kt kd many tsz thr) H → va_D A (wd_M h1 pB pW pS pA pQ pC pR pT pD cJ cI cZ cB kb kw ks ka kq kc kr kt kd many tsz thr) → va_S A s.heap H locs → lv_has ls 7 [(0, .ref h1), (1, .int x1), (2, .int x2), (3, .int x3)] → W p l e (headSpec ws_M_quotient rm_M_quotient).room s m ([.ref h1, .int a1, .int a2, .int a3] : List Value).toArray below meth c H locs 0 0 (MQ below (qv_M dC dI cJ cI cZ cB h1 pB pW pS pA pQ pC pR pT pD post A) ([.ref h1, .int a1, .int a2, .int a3] : List Value).toArray s 0 0 A) (F0 m 21 ls [.int t0]) := by
    intro H locs ls x1 x2 x3 t0 kb kw ks ka kq kc kr kt kd many tsz thr hw hP hD hS hl
    unfold wp_M_quotient_21 at hw
    refine lv_istore (lv' := [(4, .int t0), (0, .ref h1), (1, .int x1), (2, .int x2), (3, .int x3)]) hx hb dc_M_quotient_21 hl (Nat.le_of_ble_eq_true rfl) rfl (fun ls hl => ?_)
    refine lv_iload_n hx hb dc_M_quotient_23 rfl (lv_at hl 3 rfl) ?_
    obtain ⟨hw1, hw2⟩ := hw
    refine lv_if_eq (tgt := 43) hx hb dc_M_quotient_24 (by decide) (fun hc => ?_) (fun hc => ?_)
    · have hw := hw1 hc
      clear hw1 hw2
      exact B_43 _ _ _ x1 x3 t0 kb kw ks ka kq kc kr kt kd many tsz thr hw hP hD hS (lv_sub hl [1, 2, 4, 0] rfl)
    · have hw := hw2 hc
      clear hw1 hw2
      refine lv_aload_n hx hb dc_M_quotient_27 rfl (lv_at hl 1 rfl) ?_
      refine va_get (D := (dC, dI)) (ci := 2) (v := .ref pQ) (C := "FourWordsModel") (T := tb_M) (N := 12) hx hb hts (hu _ um_M) hown hK hP 0 rfl rfl 4 (by decide) (hq mw_t464) (fun _ h9 => h9) rfl dc_M_quotient_28 ?_
      refine lv_iload_n hx hb dc_M_quotient_31 rfl (lv_at hl 4 rfl) ?_
      refine lv_iconst (v := 1) hx hb dc_M_quotient_32 (by decide) ?_
      refine lv_isub hx hb dc_M_quotient_33 ?_
      obtain ⟨hin, hw⟩ := hw
      refine va_bald hx hb hK hP 5 3 rfl rfl hin dc_M_quotient_34 ?_
      refine lv_iconst (v := 1) hx hb dc_M_quotient_35 (by decide) ?_
      obtain ⟨hw1, hw2⟩ := hw
      refine lv_icmp_ne (tgt := 43) hx hb dc_M_quotient_36 (by decide) (fun hc => ?_) (fun hc => ?_)
      · have hw := hw1 hc
        clear hw1 hw2
        exact B_43 _ _ _ x1 x3 t0 kb kw ks ka kq kc kr kt kd many tsz thr hw hP hD hS (lv_sub hl [1, 2, 4, 0] rfl)
      · have hw := hw2 (fun h9 => h9 hc)
        clear hw1 hw2
        refine lv_iconst (v := 1) hx hb dc_M_quotient_39 (by decide) ?_
        refine lv_goto (tgt := 44) hx hb dc_M_quotient_40 (by decide) ?_
        exact B_44 _ _ _ x1 x3 t0 (1 : Int32) kb kw ks ka kq kc kr kt kd many tsz thr hw hP hD hS (lv_sub hl [1, 2, 4, 0] rfl)
  have B_20 : ∀ (H : Heap) (locs : List Loc) (ls : Array Slot) (x1 : Int32) (x2 : Int32) (x3 : Int32) (kb : (Nat → Int32)) (kw : (Nat → Int32)) (ks : (Nat → Int32)) (ka : (Nat → Int32)) (kq : (Nat → Int32)) (kc : (Nat → Int32)) (kr : (Nat → Int32)) (kt : (Nat → Int32)) (kd : (Nat → Int32)) (many : Int32) (tsz : Int32) (thr : Int32), wp_M_quotient_20 post x1 x2 x3 kb kw ks ka kq kc kr kt kd many tsz thr → va_P (dC, dI) cs_3 (wd_M h1 pB pW pS pA pQ pC pR pT pD cJ cI cZ cB kb kw ks ka kq kc kr kt kd many tsz thr) H → va_D A (wd_M h1 pB pW pS pA pQ pC pR pT pD cJ cI cZ cB kb kw ks ka kq kc kr kt kd many tsz thr) → va_S A s.heap H locs → lv_has ls 7 [(0, .ref h1), (1, .int x1), (2, .int x2), (3, .int x3)] → W p l e (headSpec ws_M_quotient rm_M_quotient).room s m ([.ref h1, .int a1, .int a2, .int a3] : List Value).toArray below meth c H locs 0 0 (MQ below (qv_M dC dI cJ cI cZ cB h1 pB pW pS pA pQ pC pR pT pD post A) ([.ref h1, .int a1, .int a2, .int a3] : List Value).toArray s 0 0 A) (F0 m 20 ls []) := by
    intro H locs ls x1 x2 x3 kb kw ks ka kq kc kr kt kd many tsz thr hw hP hD hS hl
    unfold wp_M_quotient_20 at hw
    refine lv_iconst (v := 0) hx hb dc_M_quotient_20 (by decide) ?_
    exact B_21 _ _ _ x1 x2 x3 (0 : Int32) kb kw ks ka kq kc kr kt kd many tsz thr hw hP hD hS (lv_sub hl [0, 1, 2, 3] rfl)
  unfold wp_M_quotient at hw
  refine lv_iload_n hx hb dc_M_quotient_0 rfl (lv_at hl 2 rfl) ?_
  obtain ⟨hw1, hw2⟩ := hw
  refine lv_if_eq (tgt := 20) hx hb dc_M_quotient_1 (by decide) (fun hc => ?_) (fun hc => ?_)
  · have hw := hw1 hc
    clear hw1 hw2
    exact B_20 _ _ _ a1 a2 a3 kb kw ks ka kq kc kr kt kd many tsz thr hw hP hD hS (lv_sub hl [0, 1, 2, 3] rfl)
  · have hw := hw2 hc
    clear hw1 hw2
    refine lv_aload_n hx hb dc_M_quotient_4 rfl (lv_at hl 0 rfl) ?_
    refine va_get (D := (dC, dI)) (ci := 2) (v := .ref pA) (C := "FourWordsModel") (T := tb_M) (N := 12) hx hb hts (hu _ um_M) hown hK hP 0 rfl rfl 3 (by decide) (hq mw_t463) (fun _ h9 => h9) rfl dc_M_quotient_5 ?_
    refine lv_iload_n hx hb dc_M_quotient_8 rfl (lv_at hl 3 rfl) ?_
    refine lv_iconst (v := 1) hx hb dc_M_quotient_9 (by decide) ?_
    refine lv_isub hx hb dc_M_quotient_10 ?_
    obtain ⟨hin, hw⟩ := hw
    refine va_bald hx hb hK hP 4 3 rfl rfl hin dc_M_quotient_11 ?_
    refine lv_iconst (v := 1) hx hb dc_M_quotient_12 (by decide) ?_
    obtain ⟨hw1, hw2⟩ := hw
    refine lv_icmp_ne (tgt := 20) hx hb dc_M_quotient_13 (by decide) (fun hc => ?_) (fun hc => ?_)
    · have hw := hw1 hc
      clear hw1 hw2
      exact B_20 _ _ _ a1 a2 a3 kb kw ks ka kq kc kr kt kd many tsz thr hw hP hD hS (lv_sub hl [0, 1, 2, 3] rfl)
    · have hw := hw2 (fun h9 => h9 hc)
      clear hw1 hw2
      refine lv_iconst (v := 1) hx hb dc_M_quotient_16 (by decide) ?_
      refine lv_goto (tgt := 21) hx hb dc_M_quotient_17 (by decide) ?_
      exact B_21 _ _ _ a1 a2 a3 (1 : Int32) kb kw ks ka kq kc kr kt kd many tsz thr hw hP hD hS (lv_sub hl [0, 1, 2, 3] rfl)

set_option maxHeartbeats 4000000 in
set_option maxRecDepth 100000 in
theorem kt_M_give_a (l : Launch) (dC : Nat → ClassId) (dI : Nat → Nat → Nat) (cJ cI cZ cB : ClassId) (h1 pB pW pS pA pQ pC pR pT pD : Nat) (sz : Nat) (a2 : Int32) (a3 : Int32) (kb : (Nat → Int32)) (kw : (Nat → Int32)) (ks : (Nat → Int32)) (ka : (Nat → Int32)) (kq : (Nat → Int32)) (kc : (Nat → Int32)) (kr : (Nat → Int32)) (kt : (Nat → Int32)) (kd : (Nat → Int32)) (many : Int32) (tsz : Int32) (thr : Int32) (post : (Nat → Int32) → (Nat → Int32) → (Nat → Int32) → (Nat → Int32) → (Nat → Int32) → (Nat → Int32) → (Nat → Int32) → (Nat → Int32) → (Nat → Int32) → Int32 → Int32 → Int32 → Prop) (hw : wp_M_give_a post a2 a3 kb kw ks ka kq kc kr kt kd many tsz thr) : Met l yn_M_give ws_M_give rm_M_give_a (va_Pc [.ref h1, .ref pA, .int a2, .int a3] (pc_W (dC, dI) (ty_4 cJ cI cZ cB) (wd_M h1 pB pW pS pA pQ pC pR pT pD cJ cI cZ cB kb kw ks ka kq kc kr kt kd many tsz thr) sz)) (qv_M dC dI cJ cI cZ cB h1 pB pW pS pA pQ pC pR pT pD post (va_A (wd_M h1 pB pW pS pA pQ pC pR pT pD cJ cI cZ cB kb kw ks ka kq kc kr kt kd many tsz thr) sz)) 0 0 (va_A (wd_M h1 pB pW pS pA pQ pC pR pT pD cJ cI cZ cB kb kw ks ka kq kc kr kt kd many tsz thr) sz) := by
  refine Met.ofW (cc := cd_M_give) (maxL := 5) (ret := none) (by decide) rfl ?_
  intro p e s m args below meth c s₁ B hml hv
  obtain ⟨rfl, hsz, hP, hK, hD0, hE⟩ := hv
  have hx := B.exec
  have hb := B.bytes
  have hr := B.returns
  have hts := atoms_spec (ws := ws_M_give) B.pre
  have hq : ∀ {w : Cond}, w ∈ wg_all → w.before ([.ref h1, .ref pA, .int a2, .int a3] : List Value).toArray s = true := fun h => hts _ (List.mem_cons_of_mem _ h)
  have hu : ∀ L : List Cond, (∀ w ∈ L, w ∈ wg_all) → ∀ w ∈ L, w ∈ ws_M_give := fun L h w hw => List.mem_cons_of_mem _ (h w hw)
  have hown : s.vm.findClass "FourWordsModel" = some m.cls := findClass_of_methodNamed B.named
  have hlocks := B.notSynchronized
  subst hsz
  have hD := hD0.self (sz := s.heap.size)
  generalize hAe : va_A (wd_M h1 pB pW pS pA pQ pC pR pT pD cJ cI cZ cB kb kw ks ka kq kc kr kt kd many tsz thr) s.heap.size = A at hD ⊢
  have hA : ∀ q : Nat, s.heap.size ≤ q → A q := fun q h => by rw [← hAe]; exact Or.inr h
  have hS : va_S A s.heap s.heap [] := va_S.rf
  have hl := lv_entry [.ref h1, .ref pA, .int a2, .int a3] (n := 5) (Nat.le_of_ble_eq_true rfl)
  rw [lg_entry_eq]
  generalize (lg_sl [.ref h1, .ref pA, .int a2, .int a3] ++ List.replicate (5 - (lg_sl [.ref h1, .ref pA, .int a2, .int a3]).length) Slot.unset).toArray = ls at hl ⊢
  have hl : lv_has ls 5 [(0, .ref h1), (1, .ref pA), (2, .int a2), (3, .int a3)] := hl
  have B_3 : ∀ (n3 : Nat) (H : Heap) (locs : List Loc) (ls : Array Slot) (x2 : Int32) (x3 : Int32) (x4 : Int32) (kb : (Nat → Int32)) (kw : (Nat → Int32)) (ks : (Nat → Int32)) (ka : (Nat → Int32)) (kq : (Nat → Int32)) (kc : (Nat → Int32)) (kr : (Nat → Int32)) (kt : (Nat → Int32)) (kd : (Nat → Int32)) (many : Int32) (tsz : Int32) (thr : Int32), wp_M_give_a_3 post n3 x2 x3 x4 kb kw ks ka kq kc kr kt kd many tsz thr → va_P (dC, dI) cs_3 (wd_M h1 pB pW pS pA pQ pC pR pT pD cJ cI cZ cB kb kw ks ka kq kc kr kt kd many tsz thr) H → va_D A (wd_M h1 pB pW pS pA pQ pC pR pT pD cJ cI cZ cB kb kw ks ka kq kc kr kt kd many tsz thr) → va_S A s.heap H locs → lv_has ls 5 [(0, .ref h1), (1, .ref pA), (2, .int x2), (3, .int x3), (4, .int x4)] → W p l e (headSpec ws_M_give rm_M_give_a).room s m ([.ref h1, .ref pA, .int a2, .int a3] : List Value).toArray below meth c H locs 0 0 (MQ below (qv_M dC dI cJ cI cZ cB h1 pB pW pS pA pQ pC pR pT pD post A) ([.ref h1, .ref pA, .int a2, .int a3] : List Value).toArray s 0 0 A) (F0 m 3 ls []) := by
    intro n3
    induction n3 with
    | zero => intro H locs ls x2 x3 x4 kb kw ks ka kq kc kr kt kd many tsz thr hw; exact False.elim hw
    | succ n3 ih =>
      intro H locs ls x2 x3 x4 kb kw ks ka kq kc kr kt kd many tsz thr hw hP hD hS hl
      unfold wp_M_give_a_3 at hw
      refine lv_iload hx hb dc_M_give_3 (lv_at hl 4 rfl) ?_
      refine lv_iload_n hx hb dc_M_give_5 rfl (lv_at hl 2 rfl) ?_
      obtain ⟨hw1, hw2⟩ := hw
      refine lv_icmp_ge (tgt := 34) hx hb dc_M_give_6 (by decide) (fun hc => ?_) (fun hc => ?_)
      · have hw := hw1 hc
        clear hw1 hw2
        refine lv_aload_n hx hb dc_M_give_34 rfl (lv_at hl 0 rfl) ?_
        refine va_get (D := (dC, dI)) (ci := 2) (v := .ref pW) (C := "FourWordsModel") (T := tb_M) (N := 12) hx hb hts (hu _ um_M) hown hK hP 0 rfl rfl 1 (by decide) (hq mw_t461) (fun _ h9 => h9) rfl dc_M_give_35 ?_
        refine lv_aload_n hx hb dc_M_give_38 rfl (lv_at hl 0 rfl) ?_
        refine va_get (D := (dC, dI)) (ci := 2) (v := .int many) (C := "FourWordsModel") (T := tb_M) (N := 12) hx hb hts (hu _ um_M) hown hK hP 0 rfl rfl 8 (by decide) (hq mw_t468) (fun _ h9 => h9) rfl dc_M_give_39 ?_
        refine lv_iload_n hx hb dc_M_give_42 rfl (lv_at hl 2 rfl) ?_
        obtain ⟨hin, hw⟩ := hw
        refine va_iast hx hb hK hP hD hS 2 1 rfl rfl hin dc_M_give_43 (fun H locs hP hD hS => ?_)
        have hP : va_P (dC, dI) cs_3 (wd_M h1 pB pW pS pA pQ pC pR pT pD cJ cI cZ cB kb (upd kw many.toNatClampNeg x2) ks ka kq kc kr kt kd many tsz thr) H := hP
        have hD : va_D A (wd_M h1 pB pW pS pA pQ pC pR pT pD cJ cI cZ cB kb (upd kw many.toNatClampNeg x2) ks ka kq kc kr kt kd many tsz thr) := hD
        refine lv_aload_n hx hb dc_M_give_44 rfl (lv_at hl 0 rfl) ?_
        refine va_get (D := (dC, dI)) (ci := 2) (v := .ref pS) (C := "FourWordsModel") (T := tb_M) (N := 12) hx hb hts (hu _ um_M) hown hK hP 0 rfl rfl 2 (by decide) (hq mw_t462) (fun _ h9 => h9) rfl dc_M_give_45 ?_
        refine lv_aload_n hx hb dc_M_give_48 rfl (lv_at hl 0 rfl) ?_
        refine va_get (D := (dC, dI)) (ci := 2) (v := .int many) (C := "FourWordsModel") (T := tb_M) (N := 12) hx hb hts (hu _ um_M) hown hK hP 0 rfl rfl 8 (by decide) (hq mw_t468) (fun _ h9 => h9) rfl dc_M_give_49 ?_
        refine lv_iload_n hx hb dc_M_give_52 rfl (lv_at hl 3 rfl) ?_
        obtain ⟨hin, hw⟩ := hw
        refine va_zast hx hb hK hP hD hS 3 2 rfl rfl hin dc_M_give_53 (fun H locs hP hD hS => ?_)
        have hP : va_P (dC, dI) cs_3 (wd_M h1 pB pW pS pA pQ pC pR pT pD cJ cI cZ cB kb (upd kw many.toNatClampNeg x2) (upd ks many.toNatClampNeg (vp_nar .boolean x3)) ka kq kc kr kt kd many tsz thr) H := hP
        have hD : va_D A (wd_M h1 pB pW pS pA pQ pC pR pT pD cJ cI cZ cB kb (upd kw many.toNatClampNeg x2) (upd ks many.toNatClampNeg (vp_nar .boolean x3)) ka kq kc kr kt kd many tsz thr) := hD
        refine lv_aload_n hx hb dc_M_give_54 rfl (lv_at hl 0 rfl) ?_
        refine lv_dup hx hb dc_M_give_55 rfl ?_
        refine va_get (D := (dC, dI)) (ci := 2) (v := .int many) (C := "FourWordsModel") (T := tb_M) (N := 12) hx hb hts (hu _ um_M) hown hK hP 0 rfl rfl 8 (by decide) (hq mw_t468) (fun _ h9 => h9) rfl dc_M_give_56 ?_
        refine lv_iconst (v := 1) hx hb dc_M_give_59 (by decide) ?_
        refine lv_iadd hx hb dc_M_give_60 ?_
        refine va_put (D := (dC, dI)) (ci := 2) (v := .int (many + (1 : Int32))) (ty := .int) (C := "FourWordsModel") (T := tb_M) (N := 12) hx hb hts (hu _ um_M) ft_M fk_M fn_M hown hK hP hD hS 0 rfl rfl 8 (by decide) (hq mw_t468) (fun _ h9 => h9) rfl (by decide +kernel) rfl rfl (Nat.le_of_ble_eq_true rfl) dc_M_give_61 (fun H locs hP hD hS => ?_)
        have hP : va_P (dC, dI) cs_3 (wd_M h1 pB pW pS pA pQ pC pR pT pD cJ cI cZ cB kb (upd kw many.toNatClampNeg x2) (upd ks many.toNatClampNeg (vp_nar .boolean x3)) ka kq kc kr kt kd (many + (1 : Int32)) tsz thr) H := hP
        have hD : va_D A (wd_M h1 pB pW pS pA pQ pC pR pT pD cJ cI cZ cB kb (upd kw many.toNatClampNeg x2) (upd ks many.toNatClampNeg (vp_nar .boolean x3)) ka kq kc kr kt kd (many + (1 : Int32)) tsz thr) := hD
        exact W.vret hx hb hr (fun t ht hW => ⟨⟨(kb, upd kw many.toNatClampNeg x2, upd ks many.toNatClampNeg (vp_nar .boolean x3), ka, kq, kc, kr, kt, kd, many + (1 : Int32), tsz, thr), rfl, hw, by rw [ht]; exact hP, va_K.moved hW.alike hK, hD⟩, hS.F ht⟩) hS.2.2 dc_M_give_64
      · have hw := hw2 hc
        clear hw1 hw2
        refine lv_aload_n hx hb dc_M_give_9 rfl (lv_at hl 0 rfl) ?_
        refine va_get (D := (dC, dI)) (ci := 2) (v := .ref pB) (C := "FourWordsModel") (T := tb_M) (N := 12) hx hb hts (hu _ um_M) hown hK hP 0 rfl rfl 0 (by decide) (hq mw_t460) (fun _ h9 => h9) rfl dc_M_give_10 ?_
        refine lv_bipush (v := 64) hx hb dc_M_give_13 (by decide) ?_
        refine lv_aload_n hx hb dc_M_give_15 rfl (lv_at hl 0 rfl) ?_
        refine va_get (D := (dC, dI)) (ci := 2) (v := .int many) (C := "FourWordsModel") (T := tb_M) (N := 12) hx hb hts (hu _ um_M) hown hK hP 0 rfl rfl 8 (by decide) (hq mw_t468) (fun _ h9 => h9) rfl dc_M_give_16 ?_
        refine lv_imul hx hb dc_M_give_19 ?_
        refine lv_iload hx hb dc_M_give_20 (lv_at hl 4 rfl) ?_
        refine lv_iadd hx hb dc_M_give_22 ?_
        refine lv_aload_n hx hb dc_M_give_23 rfl (lv_at hl 1 rfl) ?_
        refine lv_iload hx hb dc_M_give_24 (lv_at hl 4 rfl) ?_
        obtain ⟨hin, hw⟩ := hw
        refine va_bald hx hb hK hP 4 3 rfl rfl hin dc_M_give_26 ?_
        obtain ⟨hin, hw⟩ := hw
        refine va_bast hx hb hK hP hD hS 1 3 rfl rfl hin dc_M_give_27 (fun H locs hP hD hS => ?_)
        have hP : va_P (dC, dI) cs_3 (wd_M h1 pB pW pS pA pQ pC pR pT pD cJ cI cZ cB (upd kb (((64 : Int32) * many) + x4).toNatClampNeg (vp_nar .byte (ka x4.toNatClampNeg))) kw ks ka kq kc kr kt kd many tsz thr) H := hP
        have hD : va_D A (wd_M h1 pB pW pS pA pQ pC pR pT pD cJ cI cZ cB (upd kb (((64 : Int32) * many) + x4).toNatClampNeg (vp_nar .byte (ka x4.toNatClampNeg))) kw ks ka kq kc kr kt kd many tsz thr) := hD
        refine lv_iinc (lv' := [(4, .int (x4 + 1)), (0, .ref h1), (1, .ref pA), (2, .int x2), (3, .int x3)]) hx hb dc_M_give_28 hl (k := 4) rfl (ic_p1 _) (Nat.le_of_ble_eq_true rfl) rfl (fun ls hl => ?_)
        refine lv_goto (tgt := 3) hx hb dc_M_give_31 (by decide) ?_
        exact ih _ _ _ x2 x3 (x4 + 1) (upd kb (((64 : Int32) * many) + x4).toNatClampNeg (vp_nar .byte (ka x4.toNatClampNeg))) kw ks ka kq kc kr kt kd many tsz thr hw hP hD hS (lv_sub hl [1, 2, 3, 4, 0] rfl)
  unfold wp_M_give_a at hw
  refine lv_iconst (v := 0) hx hb dc_M_give_0 (by decide) ?_
  refine lv_istore (lv' := [(4, .int (0 : Int32)), (0, .ref h1), (1, .ref pA), (2, .int a2), (3, .int a3)]) hx hb dc_M_give_1 hl (Nat.le_of_ble_eq_true rfl) rfl (fun ls hl => ?_)
  obtain ⟨n3, hw⟩ := hw
  exact B_3 n3 _ _ _ a2 a3 (0 : Int32) kb kw ks ka kq kc kr kt kd many tsz thr hw hP hD hS (lv_sub hl [1, 2, 3, 4, 0] rfl)
set_option maxHeartbeats 4000000 in
set_option maxRecDepth 100000 in
theorem kt_M_give_c (l : Launch) (dC : Nat → ClassId) (dI : Nat → Nat → Nat) (cJ cI cZ cB : ClassId) (h1 pB pW pS pA pQ pC pR pT pD : Nat) (sz : Nat) (a2 : Int32) (a3 : Int32) (kb : (Nat → Int32)) (kw : (Nat → Int32)) (ks : (Nat → Int32)) (ka : (Nat → Int32)) (kq : (Nat → Int32)) (kc : (Nat → Int32)) (kr : (Nat → Int32)) (kt : (Nat → Int32)) (kd : (Nat → Int32)) (many : Int32) (tsz : Int32) (thr : Int32) (post : (Nat → Int32) → (Nat → Int32) → (Nat → Int32) → (Nat → Int32) → (Nat → Int32) → (Nat → Int32) → (Nat → Int32) → (Nat → Int32) → (Nat → Int32) → Int32 → Int32 → Int32 → Prop) (hw : wp_M_give_c post a2 a3 kb kw ks ka kq kc kr kt kd many tsz thr) : Met l yn_M_give ws_M_give rm_M_give_c (va_Pc [.ref h1, .ref pC, .int a2, .int a3] (pc_W (dC, dI) (ty_4 cJ cI cZ cB) (wd_M h1 pB pW pS pA pQ pC pR pT pD cJ cI cZ cB kb kw ks ka kq kc kr kt kd many tsz thr) sz)) (qv_M dC dI cJ cI cZ cB h1 pB pW pS pA pQ pC pR pT pD post (va_A (wd_M h1 pB pW pS pA pQ pC pR pT pD cJ cI cZ cB kb kw ks ka kq kc kr kt kd many tsz thr) sz)) 0 0 (va_A (wd_M h1 pB pW pS pA pQ pC pR pT pD cJ cI cZ cB kb kw ks ka kq kc kr kt kd many tsz thr) sz) := by
  refine Met.ofW (cc := cd_M_give) (maxL := 5) (ret := none) (by decide) rfl ?_
  intro p e s m args below meth c s₁ B hml hv
  obtain ⟨rfl, hsz, hP, hK, hD0, hE⟩ := hv
  have hx := B.exec
  have hb := B.bytes
  have hr := B.returns
  have hts := atoms_spec (ws := ws_M_give) B.pre
  have hq : ∀ {w : Cond}, w ∈ wg_all → w.before ([.ref h1, .ref pC, .int a2, .int a3] : List Value).toArray s = true := fun h => hts _ (List.mem_cons_of_mem _ h)
  have hu : ∀ L : List Cond, (∀ w ∈ L, w ∈ wg_all) → ∀ w ∈ L, w ∈ ws_M_give := fun L h w hw => List.mem_cons_of_mem _ (h w hw)
  have hown : s.vm.findClass "FourWordsModel" = some m.cls := findClass_of_methodNamed B.named
  have hlocks := B.notSynchronized
  subst hsz
  have hD := hD0.self (sz := s.heap.size)
  generalize hAe : va_A (wd_M h1 pB pW pS pA pQ pC pR pT pD cJ cI cZ cB kb kw ks ka kq kc kr kt kd many tsz thr) s.heap.size = A at hD ⊢
  have hA : ∀ q : Nat, s.heap.size ≤ q → A q := fun q h => by rw [← hAe]; exact Or.inr h
  have hS : va_S A s.heap s.heap [] := va_S.rf
  have hl := lv_entry [.ref h1, .ref pC, .int a2, .int a3] (n := 5) (Nat.le_of_ble_eq_true rfl)
  rw [lg_entry_eq]
  generalize (lg_sl [.ref h1, .ref pC, .int a2, .int a3] ++ List.replicate (5 - (lg_sl [.ref h1, .ref pC, .int a2, .int a3]).length) Slot.unset).toArray = ls at hl ⊢
  have hl : lv_has ls 5 [(0, .ref h1), (1, .ref pC), (2, .int a2), (3, .int a3)] := hl
  have B_3 : ∀ (n3 : Nat) (H : Heap) (locs : List Loc) (ls : Array Slot) (x2 : Int32) (x3 : Int32) (x4 : Int32) (kb : (Nat → Int32)) (kw : (Nat → Int32)) (ks : (Nat → Int32)) (ka : (Nat → Int32)) (kq : (Nat → Int32)) (kc : (Nat → Int32)) (kr : (Nat → Int32)) (kt : (Nat → Int32)) (kd : (Nat → Int32)) (many : Int32) (tsz : Int32) (thr : Int32), wp_M_give_c_3 post n3 x2 x3 x4 kb kw ks ka kq kc kr kt kd many tsz thr → va_P (dC, dI) cs_3 (wd_M h1 pB pW pS pA pQ pC pR pT pD cJ cI cZ cB kb kw ks ka kq kc kr kt kd many tsz thr) H → va_D A (wd_M h1 pB pW pS pA pQ pC pR pT pD cJ cI cZ cB kb kw ks ka kq kc kr kt kd many tsz thr) → va_S A s.heap H locs → lv_has ls 5 [(0, .ref h1), (1, .ref pC), (2, .int x2), (3, .int x3), (4, .int x4)] → W p l e (headSpec ws_M_give rm_M_give_c).room s m ([.ref h1, .ref pC, .int a2, .int a3] : List Value).toArray below meth c H locs 0 0 (MQ below (qv_M dC dI cJ cI cZ cB h1 pB pW pS pA pQ pC pR pT pD post A) ([.ref h1, .ref pC, .int a2, .int a3] : List Value).toArray s 0 0 A) (F0 m 3 ls []) := by
    intro n3
    induction n3 with
    | zero => intro H locs ls x2 x3 x4 kb kw ks ka kq kc kr kt kd many tsz thr hw; exact False.elim hw
    | succ n3 ih =>
      intro H locs ls x2 x3 x4 kb kw ks ka kq kc kr kt kd many tsz thr hw hP hD hS hl
      unfold wp_M_give_c_3 at hw
      refine lv_iload hx hb dc_M_give_3 (lv_at hl 4 rfl) ?_
      refine lv_iload_n hx hb dc_M_give_5 rfl (lv_at hl 2 rfl) ?_
      obtain ⟨hw1, hw2⟩ := hw
      refine lv_icmp_ge (tgt := 34) hx hb dc_M_give_6 (by decide) (fun hc => ?_) (fun hc => ?_)
      · have hw := hw1 hc
        clear hw1 hw2
        refine lv_aload_n hx hb dc_M_give_34 rfl (lv_at hl 0 rfl) ?_
        refine va_get (D := (dC, dI)) (ci := 2) (v := .ref pW) (C := "FourWordsModel") (T := tb_M) (N := 12) hx hb hts (hu _ um_M) hown hK hP 0 rfl rfl 1 (by decide) (hq mw_t461) (fun _ h9 => h9) rfl dc_M_give_35 ?_
        refine lv_aload_n hx hb dc_M_give_38 rfl (lv_at hl 0 rfl) ?_
        refine va_get (D := (dC, dI)) (ci := 2) (v := .int many) (C := "FourWordsModel") (T := tb_M) (N := 12) hx hb hts (hu _ um_M) hown hK hP 0 rfl rfl 8 (by decide) (hq mw_t468) (fun _ h9 => h9) rfl dc_M_give_39 ?_
        refine lv_iload_n hx hb dc_M_give_42 rfl (lv_at hl 2 rfl) ?_
        obtain ⟨hin, hw⟩ := hw
        refine va_iast hx hb hK hP hD hS 2 1 rfl rfl hin dc_M_give_43 (fun H locs hP hD hS => ?_)
        have hP : va_P (dC, dI) cs_3 (wd_M h1 pB pW pS pA pQ pC pR pT pD cJ cI cZ cB kb (upd kw many.toNatClampNeg x2) ks ka kq kc kr kt kd many tsz thr) H := hP
        have hD : va_D A (wd_M h1 pB pW pS pA pQ pC pR pT pD cJ cI cZ cB kb (upd kw many.toNatClampNeg x2) ks ka kq kc kr kt kd many tsz thr) := hD
        refine lv_aload_n hx hb dc_M_give_44 rfl (lv_at hl 0 rfl) ?_
        refine va_get (D := (dC, dI)) (ci := 2) (v := .ref pS) (C := "FourWordsModel") (T := tb_M) (N := 12) hx hb hts (hu _ um_M) hown hK hP 0 rfl rfl 2 (by decide) (hq mw_t462) (fun _ h9 => h9) rfl dc_M_give_45 ?_
        refine lv_aload_n hx hb dc_M_give_48 rfl (lv_at hl 0 rfl) ?_
        refine va_get (D := (dC, dI)) (ci := 2) (v := .int many) (C := "FourWordsModel") (T := tb_M) (N := 12) hx hb hts (hu _ um_M) hown hK hP 0 rfl rfl 8 (by decide) (hq mw_t468) (fun _ h9 => h9) rfl dc_M_give_49 ?_
        refine lv_iload_n hx hb dc_M_give_52 rfl (lv_at hl 3 rfl) ?_
        obtain ⟨hin, hw⟩ := hw
        refine va_zast hx hb hK hP hD hS 3 2 rfl rfl hin dc_M_give_53 (fun H locs hP hD hS => ?_)
        have hP : va_P (dC, dI) cs_3 (wd_M h1 pB pW pS pA pQ pC pR pT pD cJ cI cZ cB kb (upd kw many.toNatClampNeg x2) (upd ks many.toNatClampNeg (vp_nar .boolean x3)) ka kq kc kr kt kd many tsz thr) H := hP
        have hD : va_D A (wd_M h1 pB pW pS pA pQ pC pR pT pD cJ cI cZ cB kb (upd kw many.toNatClampNeg x2) (upd ks many.toNatClampNeg (vp_nar .boolean x3)) ka kq kc kr kt kd many tsz thr) := hD
        refine lv_aload_n hx hb dc_M_give_54 rfl (lv_at hl 0 rfl) ?_
        refine lv_dup hx hb dc_M_give_55 rfl ?_
        refine va_get (D := (dC, dI)) (ci := 2) (v := .int many) (C := "FourWordsModel") (T := tb_M) (N := 12) hx hb hts (hu _ um_M) hown hK hP 0 rfl rfl 8 (by decide) (hq mw_t468) (fun _ h9 => h9) rfl dc_M_give_56 ?_
        refine lv_iconst (v := 1) hx hb dc_M_give_59 (by decide) ?_
        refine lv_iadd hx hb dc_M_give_60 ?_
        refine va_put (D := (dC, dI)) (ci := 2) (v := .int (many + (1 : Int32))) (ty := .int) (C := "FourWordsModel") (T := tb_M) (N := 12) hx hb hts (hu _ um_M) ft_M fk_M fn_M hown hK hP hD hS 0 rfl rfl 8 (by decide) (hq mw_t468) (fun _ h9 => h9) rfl (by decide +kernel) rfl rfl (Nat.le_of_ble_eq_true rfl) dc_M_give_61 (fun H locs hP hD hS => ?_)
        have hP : va_P (dC, dI) cs_3 (wd_M h1 pB pW pS pA pQ pC pR pT pD cJ cI cZ cB kb (upd kw many.toNatClampNeg x2) (upd ks many.toNatClampNeg (vp_nar .boolean x3)) ka kq kc kr kt kd (many + (1 : Int32)) tsz thr) H := hP
        have hD : va_D A (wd_M h1 pB pW pS pA pQ pC pR pT pD cJ cI cZ cB kb (upd kw many.toNatClampNeg x2) (upd ks many.toNatClampNeg (vp_nar .boolean x3)) ka kq kc kr kt kd (many + (1 : Int32)) tsz thr) := hD
        exact W.vret hx hb hr (fun t ht hW => ⟨⟨(kb, upd kw many.toNatClampNeg x2, upd ks many.toNatClampNeg (vp_nar .boolean x3), ka, kq, kc, kr, kt, kd, many + (1 : Int32), tsz, thr), rfl, hw, by rw [ht]; exact hP, va_K.moved hW.alike hK, hD⟩, hS.F ht⟩) hS.2.2 dc_M_give_64
      · have hw := hw2 hc
        clear hw1 hw2
        refine lv_aload_n hx hb dc_M_give_9 rfl (lv_at hl 0 rfl) ?_
        refine va_get (D := (dC, dI)) (ci := 2) (v := .ref pB) (C := "FourWordsModel") (T := tb_M) (N := 12) hx hb hts (hu _ um_M) hown hK hP 0 rfl rfl 0 (by decide) (hq mw_t460) (fun _ h9 => h9) rfl dc_M_give_10 ?_
        refine lv_bipush (v := 64) hx hb dc_M_give_13 (by decide) ?_
        refine lv_aload_n hx hb dc_M_give_15 rfl (lv_at hl 0 rfl) ?_
        refine va_get (D := (dC, dI)) (ci := 2) (v := .int many) (C := "FourWordsModel") (T := tb_M) (N := 12) hx hb hts (hu _ um_M) hown hK hP 0 rfl rfl 8 (by decide) (hq mw_t468) (fun _ h9 => h9) rfl dc_M_give_16 ?_
        refine lv_imul hx hb dc_M_give_19 ?_
        refine lv_iload hx hb dc_M_give_20 (lv_at hl 4 rfl) ?_
        refine lv_iadd hx hb dc_M_give_22 ?_
        refine lv_aload_n hx hb dc_M_give_23 rfl (lv_at hl 1 rfl) ?_
        refine lv_iload hx hb dc_M_give_24 (lv_at hl 4 rfl) ?_
        obtain ⟨hin, hw⟩ := hw
        refine va_bald hx hb hK hP 6 3 rfl rfl hin dc_M_give_26 ?_
        obtain ⟨hin, hw⟩ := hw
        refine va_bast hx hb hK hP hD hS 1 3 rfl rfl hin dc_M_give_27 (fun H locs hP hD hS => ?_)
        have hP : va_P (dC, dI) cs_3 (wd_M h1 pB pW pS pA pQ pC pR pT pD cJ cI cZ cB (upd kb (((64 : Int32) * many) + x4).toNatClampNeg (vp_nar .byte (kc x4.toNatClampNeg))) kw ks ka kq kc kr kt kd many tsz thr) H := hP
        have hD : va_D A (wd_M h1 pB pW pS pA pQ pC pR pT pD cJ cI cZ cB (upd kb (((64 : Int32) * many) + x4).toNatClampNeg (vp_nar .byte (kc x4.toNatClampNeg))) kw ks ka kq kc kr kt kd many tsz thr) := hD
        refine lv_iinc (lv' := [(4, .int (x4 + 1)), (0, .ref h1), (1, .ref pC), (2, .int x2), (3, .int x3)]) hx hb dc_M_give_28 hl (k := 4) rfl (ic_p1 _) (Nat.le_of_ble_eq_true rfl) rfl (fun ls hl => ?_)
        refine lv_goto (tgt := 3) hx hb dc_M_give_31 (by decide) ?_
        exact ih _ _ _ x2 x3 (x4 + 1) (upd kb (((64 : Int32) * many) + x4).toNatClampNeg (vp_nar .byte (kc x4.toNatClampNeg))) kw ks ka kq kc kr kt kd many tsz thr hw hP hD hS (lv_sub hl [1, 2, 3, 4, 0] rfl)
  unfold wp_M_give_c at hw
  refine lv_iconst (v := 0) hx hb dc_M_give_0 (by decide) ?_
  refine lv_istore (lv' := [(4, .int (0 : Int32)), (0, .ref h1), (1, .ref pC), (2, .int a2), (3, .int a3)]) hx hb dc_M_give_1 hl (Nat.le_of_ble_eq_true rfl) rfl (fun ls hl => ?_)
  obtain ⟨n3, hw⟩ := hw
  exact B_3 n3 _ _ _ a2 a3 (0 : Int32) kb kw ks ka kq kc kr kt kd many tsz thr hw hP hD hS (lv_sub hl [1, 2, 3, 4, 0] rfl)
set_option maxHeartbeats 4000000 in
set_option maxRecDepth 100000 in
theorem kt_M_take_a (l : Launch) (dC : Nat → ClassId) (dI : Nat → Nat → Nat) (cJ cI cZ cB : ClassId) (h1 pB pW pS pA pQ pC pR pT pD : Nat) (sz : Nat) (a1 : Int32) (a3 : Int32) (a4 : Int32) (kb : (Nat → Int32)) (kw : (Nat → Int32)) (ks : (Nat → Int32)) (ka : (Nat → Int32)) (kq : (Nat → Int32)) (kc : (Nat → Int32)) (kr : (Nat → Int32)) (kt : (Nat → Int32)) (kd : (Nat → Int32)) (many : Int32) (tsz : Int32) (thr : Int32) (post : (Nat → Int32) → (Nat → Int32) → (Nat → Int32) → (Nat → Int32) → (Nat → Int32) → (Nat → Int32) → (Nat → Int32) → (Nat → Int32) → (Nat → Int32) → Int32 → Int32 → Int32 → Prop) (hw : wp_M_take_a post a1 a3 a4 kb kw ks ka kq kc kr kt kd many tsz thr) : Met l yn_M_take ws_M_take rm_M_take_a (va_Pc [.ref h1, .int a1, .ref pA, .int a3, .int a4] (pc_W (dC, dI) (ty_4 cJ cI cZ cB) (wd_M h1 pB pW pS pA pQ pC pR pT pD cJ cI cZ cB kb kw ks ka kq kc kr kt kd many tsz thr) sz)) (qv_M dC dI cJ cI cZ cB h1 pB pW pS pA pQ pC pR pT pD post (va_A (wd_M h1 pB pW pS pA pQ pC pR pT pD cJ cI cZ cB kb kw ks ka kq kc kr kt kd many tsz thr) sz)) 0 0 (va_A (wd_M h1 pB pW pS pA pQ pC pR pT pD cJ cI cZ cB kb kw ks ka kq kc kr kt kd many tsz thr) sz) := by
  refine Met.ofW (cc := cd_M_take) (maxL := 6) (ret := none) (by decide) rfl ?_
  intro p e s m args below meth c s₁ B hml hv
  obtain ⟨rfl, hsz, hP, hK, hD0, hE⟩ := hv
  have hx := B.exec
  have hb := B.bytes
  have hr := B.returns
  have hts := atoms_spec (ws := ws_M_take) B.pre
  have hq : ∀ {w : Cond}, w ∈ wg_all → w.before ([.ref h1, .int a1, .ref pA, .int a3, .int a4] : List Value).toArray s = true := fun h => hts _ (List.mem_cons_of_mem _ h)
  have hu : ∀ L : List Cond, (∀ w ∈ L, w ∈ wg_all) → ∀ w ∈ L, w ∈ ws_M_take := fun L h w hw => List.mem_cons_of_mem _ (h w hw)
  have hown : s.vm.findClass "FourWordsModel" = some m.cls := findClass_of_methodNamed B.named
  have hlocks := B.notSynchronized
  subst hsz
  have hD := hD0.self (sz := s.heap.size)
  generalize hAe : va_A (wd_M h1 pB pW pS pA pQ pC pR pT pD cJ cI cZ cB kb kw ks ka kq kc kr kt kd many tsz thr) s.heap.size = A at hD ⊢
  have hA : ∀ q : Nat, s.heap.size ≤ q → A q := fun q h => by rw [← hAe]; exact Or.inr h
  have hS : va_S A s.heap s.heap [] := va_S.rf
  have hl := lv_entry [.ref h1, .int a1, .ref pA, .int a3, .int a4] (n := 6) (Nat.le_of_ble_eq_true rfl)
  rw [lg_entry_eq]
  generalize (lg_sl [.ref h1, .int a1, .ref pA, .int a3, .int a4] ++ List.replicate (6 - (lg_sl [.ref h1, .int a1, .ref pA, .int a3, .int a4]).length) Slot.unset).toArray = ls at hl ⊢
  have hl : lv_has ls 6 [(0, .ref h1), (1, .int a1), (2, .ref pA), (3, .int a3), (4, .int a4)] := hl
  have B_65 : ∀ (K3 : Int32 → Int32 → Int32 → Int32 → (Nat → Int32) → (Nat → Int32) → (Nat → Int32) → (Nat → Int32) → (Nat → Int32) → (Nat → Int32) → (Nat → Int32) → (Nat → Int32) → (Nat → Int32) → Int32 → Int32 → Int32 → Prop) (hK3 : ∀ (H : Heap) (locs : List Loc) (ls : Array Slot) (x1 : Int32) (x3 : Int32) (x4 : Int32) (x5 : Int32) (kb : (Nat → Int32)) (kw : (Nat → Int32)) (ks : (Nat → Int32)) (ka : (Nat → Int32)) (kq : (Nat → Int32)) (kc : (Nat → Int32)) (kr : (Nat → Int32)) (kt : (Nat → Int32)) (kd : (Nat → Int32)) (many : Int32) (tsz : Int32) (thr : Int32), K3 x1 x3 x4 x5 kb kw ks ka kq kc kr kt kd many tsz thr → va_P (dC, dI) cs_3 (wd_M h1 pB pW pS pA pQ pC pR pT pD cJ cI cZ cB kb kw ks ka kq kc kr kt kd many tsz thr) H → va_D A (wd_M h1 pB pW pS pA pQ pC pR pT pD cJ cI cZ cB kb kw ks ka kq kc kr kt kd many tsz thr) → va_S A s.heap H locs → lv_has ls 6 [(0, .ref h1), (1, .int x1), (2, .ref pA), (3, .int x3), (4, .int x4), (5, .int x5)] → W p l e (headSpec ws_M_take rm_M_take_a).room s m ([.ref h1, .int a1, .ref pA, .int a3, .int a4] : List Value).toArray below meth c H locs 0 0 (MQ below (qv_M dC dI cJ cI cZ cB h1 pB pW pS pA pQ pC pR pT pD post A) ([.ref h1, .int a1, .ref pA, .int a3, .int a4] : List Value).toArray s 0 0 A) (F0 m 3 ls [])) (H : Heap) (locs : List Loc) (ls : Array Slot) (x1 : Int32) (x3 : Int32) (x4 : Int32) (x5 : Int32) (t0 : Int32) (t1 : Int32) (kb : (Nat → Int32)) (kw : (Nat → Int32)) (ks : (Nat → Int32)) (ka : (Nat → Int32)) (kq : (Nat → Int32)) (kc : (Nat → Int32)) (kr : (Nat → Int32)) (kt : (Nat → Int32)) (kd : (Nat → Int32)) (many : Int32) (tsz : Int32) (thr : Int32), wp_M_take_a_65 K3 post x1 x3 x4 x5 t0 t1 kb kw ks ka kq kc kr kt kd many tsz thr → va_P (dC, dI) cs_3 (wd_M h1 pB pW pS pA pQ pC pR pT pD cJ cI cZ cB kb kw ks ka kq kc kr kt kd many tsz thr) H → va_D A (wd_M h1 pB pW pS pA pQ pC pR pT pD cJ cI cZ cB kb kw ks ka kq kc kr kt kd many tsz thr) → va_S A s.heap H locs → lv_has ls 6 [(0, .ref h1), (1, .int x1), (2, .ref pA), (3, .int x3), (4, .int x4), (5, .int x5)] → W p l e (headSpec ws_M_take rm_M_take_a).room s m ([.ref h1, .int a1, .ref pA, .int a3, .int a4] : List Value).toArray below meth c H locs 0 0 (MQ below (qv_M dC dI cJ cI cZ cB h1 pB pW pS pA pQ pC pR pT pD post A) ([.ref h1, .int a1, .ref pA, .int a3, .int a4] : List Value).toArray s 0 0 A) (F0 m 65 ls [.int t0, .int t1, .ref pA]) := by
    intro K3 hK3 H locs ls x1 x3 x4 x5 t0 t1 kb kw ks ka kq kc kr kt kd many tsz thr hw hP hD hS hl
    unfold wp_M_take_a_65 at hw
    obtain ⟨hin, hw⟩ := hw
    refine va_bast hx hb hK hP hD hS 4 3 rfl rfl hin dc_M_take_65 (fun H locs hP hD hS => ?_)
    have hP : va_P (dC, dI) cs_3 (wd_M h1 pB pW pS pA pQ pC pR pT pD cJ cI cZ cB kb kw ks (upd ka t1.toNatClampNeg (vp_nar .byte t0)) kq kc kr kt kd many tsz thr) H := hP
    have hD : va_D A (wd_M h1 pB pW pS pA pQ pC pR pT pD cJ cI cZ cB kb kw ks (upd ka t1.toNatClampNeg (vp_nar .byte t0)) kq kc kr kt kd many tsz thr) := hD
    refine lv_iinc (lv' := [(5, .int (x5 + 1)), (0, .ref h1), (1, .int x1), (2, .ref pA), (3, .int x3), (4, .int x4)]) hx hb dc_M_take_66 hl (k := 5) rfl (ic_p1 _) (Nat.le_of_ble_eq_true rfl) rfl (fun ls hl => ?_)
    refine lv_goto (tgt := 3) hx hb dc_M_take_69 (by decide) ?_
    exact hK3 _ _ _ x1 x3 x4 (x5 + 1) kb kw ks (upd ka t1.toNatClampNeg (vp_nar .byte t0)) kq kc kr kt kd many tsz thr hw hP hD hS (lv_sub hl [1, 2, 3, 4, 5, 0] rfl)
  have B_3 : ∀ (n3 : Nat) (H : Heap) (locs : List Loc) (ls : Array Slot) (x1 : Int32) (x3 : Int32) (x4 : Int32) (x5 : Int32) (kb : (Nat → Int32)) (kw : (Nat → Int32)) (ks : (Nat → Int32)) (ka : (Nat → Int32)) (kq : (Nat → Int32)) (kc : (Nat → Int32)) (kr : (Nat → Int32)) (kt : (Nat → Int32)) (kd : (Nat → Int32)) (many : Int32) (tsz : Int32) (thr : Int32), wp_M_take_a_3 post n3 x1 x3 x4 x5 kb kw ks ka kq kc kr kt kd many tsz thr → va_P (dC, dI) cs_3 (wd_M h1 pB pW pS pA pQ pC pR pT pD cJ cI cZ cB kb kw ks ka kq kc kr kt kd many tsz thr) H → va_D A (wd_M h1 pB pW pS pA pQ pC pR pT pD cJ cI cZ cB kb kw ks ka kq kc kr kt kd many tsz thr) → va_S A s.heap H locs → lv_has ls 6 [(0, .ref h1), (1, .int x1), (2, .ref pA), (3, .int x3), (4, .int x4), (5, .int x5)] → W p l e (headSpec ws_M_take rm_M_take_a).room s m ([.ref h1, .int a1, .ref pA, .int a3, .int a4] : List Value).toArray below meth c H locs 0 0 (MQ below (qv_M dC dI cJ cI cZ cB h1 pB pW pS pA pQ pC pR pT pD post A) ([.ref h1, .int a1, .ref pA, .int a3, .int a4] : List Value).toArray s 0 0 A) (F0 m 3 ls []) := by
    intro n3
    induction n3 with
    | zero => intro H locs ls x1 x3 x4 x5 kb kw ks ka kq kc kr kt kd many tsz thr hw; exact False.elim hw
    | succ n3 ih =>
      intro H locs ls x1 x3 x4 x5 kb kw ks ka kq kc kr kt kd many tsz thr hw hP hD hS hl
      unfold wp_M_take_a_3 at hw
      refine lv_iload hx hb dc_M_take_3 (lv_at hl 5 rfl) ?_
      refine lv_iload_n hx hb dc_M_take_5 rfl (lv_at hl 3 rfl) ?_
      obtain ⟨hw1, hw2⟩ := hw
      refine lv_icmp_ge (tgt := 72) hx hb dc_M_take_6 (by decide) (fun hc => ?_) (fun hc => ?_)
      · have hw := hw1 hc
        clear hw1 hw2
        exact W.vret hx hb hr (fun t ht hW => ⟨⟨(kb, kw, ks, ka, kq, kc, kr, kt, kd, many, tsz, thr), rfl, hw, by rw [ht]; exact hP, va_K.moved hW.alike hK, hD⟩, hS.F ht⟩) hS.2.2 dc_M_take_72
      · have hw := hw2 hc
        clear hw1 hw2
        refine lv_aload_n hx hb dc_M_take_9 rfl (lv_at hl 2 rfl) ?_
        refine lv_iload hx hb dc_M_take_10 (lv_at hl 5 rfl) ?_
        refine lv_iload hx hb dc_M_take_12 (lv_at hl 5 rfl) ?_
        refine lv_aload_n hx hb dc_M_take_14 rfl (lv_at hl 0 rfl) ?_
        refine va_get (D := (dC, dI)) (ci := 2) (v := .ref pW) (C := "FourWordsModel") (T := tb_M) (N := 12) hx hb hts (hu _ um_M) hown hK hP 0 rfl rfl 1 (by decide) (hq mw_t461) (fun _ h9 => h9) rfl dc_M_take_15 ?_
        refine lv_iload_n hx hb dc_M_take_18 rfl (lv_at hl 1 rfl) ?_
        obtain ⟨hin, hw⟩ := hw
        refine va_iald hx hb hK hP 2 1 rfl rfl hin dc_M_take_19 ?_
        obtain ⟨hw1, hw2⟩ := hw
        refine lv_icmp_ge (tgt := 38) hx hb dc_M_take_20 (by decide) (fun hc => ?_) (fun hc => ?_)
        · have hw := hw1 hc
          clear hw1 hw2
          refine lv_iload hx hb dc_M_take_38 (lv_at hl 4 rfl) ?_
          obtain ⟨hw1, hw2⟩ := hw
          refine lv_if_eq (tgt := 64) hx hb dc_M_take_40 (by decide) (fun hc => ?_) (fun hc => ?_)
          · have hw := hw1 hc
            clear hw1 hw2
            refine lv_iconst (v := 0) hx hb dc_M_take_64 (by decide) ?_
            exact B_65 (wp_M_take_a_3 post n3) ih _ _ _ x1 x3 x4 x5 (0 : Int32) x5 kb kw ks ka kq kc kr kt kd many tsz thr hw hP hD hS (lv_sub hl [0, 1, 2, 3, 4, 5] rfl)
          · have hw := hw2 hc
            clear hw1 hw2
            refine lv_aload_n hx hb dc_M_take_43 rfl (lv_at hl 0 rfl) ?_
            refine va_get (D := (dC, dI)) (ci := 2) (v := .ref pB) (C := "FourWordsModel") (T := tb_M) (N := 12) hx hb hts (hu _ um_M) hown hK hP 0 rfl rfl 0 (by decide) (hq mw_t460) (fun _ h9 => h9) rfl dc_M_take_44 ?_
            refine lv_bipush (v := 64) hx hb dc_M_take_47 (by decide) ?_
            refine lv_iload_n hx hb dc_M_take_49 rfl (lv_at hl 1 rfl) ?_
            refine lv_imul hx hb dc_M_take_50 ?_
            refine lv_aload_n hx hb dc_M_take_51 rfl (lv_at hl 0 rfl) ?_
            refine va_get (D := (dC, dI)) (ci := 2) (v := .ref pW) (C := "FourWordsModel") (T := tb_M) (N := 12) hx hb hts (hu _ um_M) hown hK hP 0 rfl rfl 1 (by decide) (hq mw_t461) (fun _ h9 => h9) rfl dc_M_take_52 ?_
            refine lv_iload_n hx hb dc_M_take_55 rfl (lv_at hl 1 rfl) ?_
            obtain ⟨hin, hw⟩ := hw
            refine va_iald hx hb hK hP 2 1 rfl rfl hin dc_M_take_56 ?_
            refine lv_iadd hx hb dc_M_take_57 ?_
            refine lv_iconst (v := 1) hx hb dc_M_take_58 (by decide) ?_
            refine lv_isub hx hb dc_M_take_59 ?_
            obtain ⟨hin, hw⟩ := hw
            refine va_bald hx hb hK hP 1 3 rfl rfl hin dc_M_take_60 ?_
            refine lv_goto (tgt := 65) hx hb dc_M_take_61 (by decide) ?_
            exact B_65 (wp_M_take_a_3 post n3) ih _ _ _ x1 x3 x4 x5 (kb ((((64 : Int32) * x1) + (kw x1.toNatClampNeg)) - (1 : Int32)).toNatClampNeg) x5 kb kw ks ka kq kc kr kt kd many tsz thr hw hP hD hS (lv_sub hl [0, 1, 2, 3, 4, 5] rfl)
        · have hw := hw2 hc
          clear hw1 hw2
          refine lv_aload_n hx hb dc_M_take_23 rfl (lv_at hl 0 rfl) ?_
          refine va_get (D := (dC, dI)) (ci := 2) (v := .ref pB) (C := "FourWordsModel") (T := tb_M) (N := 12) hx hb hts (hu _ um_M) hown hK hP 0 rfl rfl 0 (by decide) (hq mw_t460) (fun _ h9 => h9) rfl dc_M_take_24 ?_
          refine lv_bipush (v := 64) hx hb dc_M_take_27 (by decide) ?_
          refine lv_iload_n hx hb dc_M_take_29 rfl (lv_at hl 1 rfl) ?_
          refine lv_imul hx hb dc_M_take_30 ?_
          refine lv_iload hx hb dc_M_take_31 (lv_at hl 5 rfl) ?_
          refine lv_iadd hx hb dc_M_take_33 ?_
          obtain ⟨hin, hw⟩ := hw
          refine va_bald hx hb hK hP 1 3 rfl rfl hin dc_M_take_34 ?_
          refine lv_goto (tgt := 65) hx hb dc_M_take_35 (by decide) ?_
          exact B_65 (wp_M_take_a_3 post n3) ih _ _ _ x1 x3 x4 x5 (kb (((64 : Int32) * x1) + x5).toNatClampNeg) x5 kb kw ks ka kq kc kr kt kd many tsz thr hw hP hD hS (lv_sub hl [0, 1, 2, 3, 4, 5] rfl)
  unfold wp_M_take_a at hw
  refine lv_iconst (v := 0) hx hb dc_M_take_0 (by decide) ?_
  refine lv_istore (lv' := [(5, .int (0 : Int32)), (0, .ref h1), (1, .int a1), (2, .ref pA), (3, .int a3), (4, .int a4)]) hx hb dc_M_take_1 hl (Nat.le_of_ble_eq_true rfl) rfl (fun ls hl => ?_)
  obtain ⟨n3, hw⟩ := hw
  exact B_3 n3 _ _ _ a1 a3 a4 (0 : Int32) kb kw ks ka kq kc kr kt kd many tsz thr hw hP hD hS (lv_sub hl [1, 2, 3, 4, 5, 0] rfl)
set_option maxHeartbeats 4000000 in
set_option maxRecDepth 100000 in
theorem kt_M_take_b (l : Launch) (dC : Nat → ClassId) (dI : Nat → Nat → Nat) (cJ cI cZ cB : ClassId) (h1 pB pW pS pA pQ pC pR pT pD : Nat) (sz : Nat) (a1 : Int32) (a3 : Int32) (a4 : Int32) (kb : (Nat → Int32)) (kw : (Nat → Int32)) (ks : (Nat → Int32)) (ka : (Nat → Int32)) (kq : (Nat → Int32)) (kc : (Nat → Int32)) (kr : (Nat → Int32)) (kt : (Nat → Int32)) (kd : (Nat → Int32)) (many : Int32) (tsz : Int32) (thr : Int32) (post : (Nat → Int32) → (Nat → Int32) → (Nat → Int32) → (Nat → Int32) → (Nat → Int32) → (Nat → Int32) → (Nat → Int32) → (Nat → Int32) → (Nat → Int32) → Int32 → Int32 → Int32 → Prop) (hw : wp_M_take_b post a1 a3 a4 kb kw ks ka kq kc kr kt kd many tsz thr) : Met l yn_M_take ws_M_take rm_M_take_b (va_Pc [.ref h1, .int a1, .ref pQ, .int a3, .int a4] (pc_W (dC, dI) (ty_4 cJ cI cZ cB) (wd_M h1 pB pW pS pA pQ pC pR pT pD cJ cI cZ cB kb kw ks ka kq kc kr kt kd many tsz thr) sz)) (qv_M dC dI cJ cI cZ cB h1 pB pW pS pA pQ pC pR pT pD post (va_A (wd_M h1 pB pW pS pA pQ pC pR pT pD cJ cI cZ cB kb kw ks ka kq kc kr kt kd many tsz thr) sz)) 0 0 (va_A (wd_M h1 pB pW pS pA pQ pC pR pT pD cJ cI cZ cB kb kw ks ka kq kc kr kt kd many tsz thr) sz) := by
  refine Met.ofW (cc := cd_M_take) (maxL := 6) (ret := none) (by decide) rfl ?_
  intro p e s m args below meth c s₁ B hml hv
  obtain ⟨rfl, hsz, hP, hK, hD0, hE⟩ := hv
  have hx := B.exec
  have hb := B.bytes
  have hr := B.returns
  have hts := atoms_spec (ws := ws_M_take) B.pre
  have hq : ∀ {w : Cond}, w ∈ wg_all → w.before ([.ref h1, .int a1, .ref pQ, .int a3, .int a4] : List Value).toArray s = true := fun h => hts _ (List.mem_cons_of_mem _ h)
  have hu : ∀ L : List Cond, (∀ w ∈ L, w ∈ wg_all) → ∀ w ∈ L, w ∈ ws_M_take := fun L h w hw => List.mem_cons_of_mem _ (h w hw)
  have hown : s.vm.findClass "FourWordsModel" = some m.cls := findClass_of_methodNamed B.named
  have hlocks := B.notSynchronized
  subst hsz
  have hD := hD0.self (sz := s.heap.size)
  generalize hAe : va_A (wd_M h1 pB pW pS pA pQ pC pR pT pD cJ cI cZ cB kb kw ks ka kq kc kr kt kd many tsz thr) s.heap.size = A at hD ⊢
  have hA : ∀ q : Nat, s.heap.size ≤ q → A q := fun q h => by rw [← hAe]; exact Or.inr h
  have hS : va_S A s.heap s.heap [] := va_S.rf
  have hl := lv_entry [.ref h1, .int a1, .ref pQ, .int a3, .int a4] (n := 6) (Nat.le_of_ble_eq_true rfl)
  rw [lg_entry_eq]
  generalize (lg_sl [.ref h1, .int a1, .ref pQ, .int a3, .int a4] ++ List.replicate (6 - (lg_sl [.ref h1, .int a1, .ref pQ, .int a3, .int a4]).length) Slot.unset).toArray = ls at hl ⊢
  have hl : lv_has ls 6 [(0, .ref h1), (1, .int a1), (2, .ref pQ), (3, .int a3), (4, .int a4)] := hl
  have B_65 : ∀ (K3 : Int32 → Int32 → Int32 → Int32 → (Nat → Int32) → (Nat → Int32) → (Nat → Int32) → (Nat → Int32) → (Nat → Int32) → (Nat → Int32) → (Nat → Int32) → (Nat → Int32) → (Nat → Int32) → Int32 → Int32 → Int32 → Prop) (hK3 : ∀ (H : Heap) (locs : List Loc) (ls : Array Slot) (x1 : Int32) (x3 : Int32) (x4 : Int32) (x5 : Int32) (kb : (Nat → Int32)) (kw : (Nat → Int32)) (ks : (Nat → Int32)) (ka : (Nat → Int32)) (kq : (Nat → Int32)) (kc : (Nat → Int32)) (kr : (Nat → Int32)) (kt : (Nat → Int32)) (kd : (Nat → Int32)) (many : Int32) (tsz : Int32) (thr : Int32), K3 x1 x3 x4 x5 kb kw ks ka kq kc kr kt kd many tsz thr → va_P (dC, dI) cs_3 (wd_M h1 pB pW pS pA pQ pC pR pT pD cJ cI cZ cB kb kw ks ka kq kc kr kt kd many tsz thr) H → va_D A (wd_M h1 pB pW pS pA pQ pC pR pT pD cJ cI cZ cB kb kw ks ka kq kc kr kt kd many tsz thr) → va_S A s.heap H locs → lv_has ls 6 [(0, .ref h1), (1, .int x1), (2, .ref pQ), (3, .int x3), (4, .int x4), (5, .int x5)] → W p l e (headSpec ws_M_take rm_M_take_b).room s m ([.ref h1, .int a1, .ref pQ, .int a3, .int a4] : List Value).toArray below meth c H locs 0 0 (MQ below (qv_M dC dI cJ cI cZ cB h1 pB pW pS pA pQ pC pR pT pD post A) ([.ref h1, .int a1, .ref pQ, .int a3, .int a4] : List Value).toArray s 0 0 A) (F0 m 3 ls [])) (H : Heap) (locs : List Loc) (ls : Array Slot) (x1 : Int32) (x3 : Int32) (x4 : Int32) (x5 : Int32) (t0 : Int32) (t1 : Int32) (kb : (Nat → Int32)) (kw : (Nat → Int32)) (ks : (Nat → Int32)) (ka : (Nat → Int32)) (kq : (Nat → Int32)) (kc : (Nat → Int32)) (kr : (Nat → Int32)) (kt : (Nat → Int32)) (kd : (Nat → Int32)) (many : Int32) (tsz : Int32) (thr : Int32), wp_M_take_b_65 K3 post x1 x3 x4 x5 t0 t1 kb kw ks ka kq kc kr kt kd many tsz thr → va_P (dC, dI) cs_3 (wd_M h1 pB pW pS pA pQ pC pR pT pD cJ cI cZ cB kb kw ks ka kq kc kr kt kd many tsz thr) H → va_D A (wd_M h1 pB pW pS pA pQ pC pR pT pD cJ cI cZ cB kb kw ks ka kq kc kr kt kd many tsz thr) → va_S A s.heap H locs → lv_has ls 6 [(0, .ref h1), (1, .int x1), (2, .ref pQ), (3, .int x3), (4, .int x4), (5, .int x5)] → W p l e (headSpec ws_M_take rm_M_take_b).room s m ([.ref h1, .int a1, .ref pQ, .int a3, .int a4] : List Value).toArray below meth c H locs 0 0 (MQ below (qv_M dC dI cJ cI cZ cB h1 pB pW pS pA pQ pC pR pT pD post A) ([.ref h1, .int a1, .ref pQ, .int a3, .int a4] : List Value).toArray s 0 0 A) (F0 m 65 ls [.int t0, .int t1, .ref pQ]) := by
    intro K3 hK3 H locs ls x1 x3 x4 x5 t0 t1 kb kw ks ka kq kc kr kt kd many tsz thr hw hP hD hS hl
    unfold wp_M_take_b_65 at hw
    obtain ⟨hin, hw⟩ := hw
    refine va_bast hx hb hK hP hD hS 5 3 rfl rfl hin dc_M_take_65 (fun H locs hP hD hS => ?_)
    have hP : va_P (dC, dI) cs_3 (wd_M h1 pB pW pS pA pQ pC pR pT pD cJ cI cZ cB kb kw ks ka (upd kq t1.toNatClampNeg (vp_nar .byte t0)) kc kr kt kd many tsz thr) H := hP
    have hD : va_D A (wd_M h1 pB pW pS pA pQ pC pR pT pD cJ cI cZ cB kb kw ks ka (upd kq t1.toNatClampNeg (vp_nar .byte t0)) kc kr kt kd many tsz thr) := hD
    refine lv_iinc (lv' := [(5, .int (x5 + 1)), (0, .ref h1), (1, .int x1), (2, .ref pQ), (3, .int x3), (4, .int x4)]) hx hb dc_M_take_66 hl (k := 5) rfl (ic_p1 _) (Nat.le_of_ble_eq_true rfl) rfl (fun ls hl => ?_)
    refine lv_goto (tgt := 3) hx hb dc_M_take_69 (by decide) ?_
    exact hK3 _ _ _ x1 x3 x4 (x5 + 1) kb kw ks ka (upd kq t1.toNatClampNeg (vp_nar .byte t0)) kc kr kt kd many tsz thr hw hP hD hS (lv_sub hl [1, 2, 3, 4, 5, 0] rfl)
  have B_3 : ∀ (n3 : Nat) (H : Heap) (locs : List Loc) (ls : Array Slot) (x1 : Int32) (x3 : Int32) (x4 : Int32) (x5 : Int32) (kb : (Nat → Int32)) (kw : (Nat → Int32)) (ks : (Nat → Int32)) (ka : (Nat → Int32)) (kq : (Nat → Int32)) (kc : (Nat → Int32)) (kr : (Nat → Int32)) (kt : (Nat → Int32)) (kd : (Nat → Int32)) (many : Int32) (tsz : Int32) (thr : Int32), wp_M_take_b_3 post n3 x1 x3 x4 x5 kb kw ks ka kq kc kr kt kd many tsz thr → va_P (dC, dI) cs_3 (wd_M h1 pB pW pS pA pQ pC pR pT pD cJ cI cZ cB kb kw ks ka kq kc kr kt kd many tsz thr) H → va_D A (wd_M h1 pB pW pS pA pQ pC pR pT pD cJ cI cZ cB kb kw ks ka kq kc kr kt kd many tsz thr) → va_S A s.heap H locs → lv_has ls 6 [(0, .ref h1), (1, .int x1), (2, .ref pQ), (3, .int x3), (4, .int x4), (5, .int x5)] → W p l e (headSpec ws_M_take rm_M_take_b).room s m ([.ref h1, .int a1, .ref pQ, .int a3, .int a4] : List Value).toArray below meth c H locs 0 0 (MQ below (qv_M dC dI cJ cI cZ cB h1 pB pW pS pA pQ pC pR pT pD post A) ([.ref h1, .int a1, .ref pQ, .int a3, .int a4] : List Value).toArray s 0 0 A) (F0 m 3 ls []) := by
    intro n3
    induction n3 with
    | zero => intro H locs ls x1 x3 x4 x5 kb kw ks ka kq kc kr kt kd many tsz thr hw; exact False.elim hw
    | succ n3 ih =>
      intro H locs ls x1 x3 x4 x5 kb kw ks ka kq kc kr kt kd many tsz thr hw hP hD hS hl
      unfold wp_M_take_b_3 at hw
      refine lv_iload hx hb dc_M_take_3 (lv_at hl 5 rfl) ?_
      refine lv_iload_n hx hb dc_M_take_5 rfl (lv_at hl 3 rfl) ?_
      obtain ⟨hw1, hw2⟩ := hw
      refine lv_icmp_ge (tgt := 72) hx hb dc_M_take_6 (by decide) (fun hc => ?_) (fun hc => ?_)
      · have hw := hw1 hc
        clear hw1 hw2
        exact W.vret hx hb hr (fun t ht hW => ⟨⟨(kb, kw, ks, ka, kq, kc, kr, kt, kd, many, tsz, thr), rfl, hw, by rw [ht]; exact hP, va_K.moved hW.alike hK, hD⟩, hS.F ht⟩) hS.2.2 dc_M_take_72
      · have hw := hw2 hc
        clear hw1 hw2
        refine lv_aload_n hx hb dc_M_take_9 rfl (lv_at hl 2 rfl) ?_
        refine lv_iload hx hb dc_M_take_10 (lv_at hl 5 rfl) ?_
        refine lv_iload hx hb dc_M_take_12 (lv_at hl 5 rfl) ?_
        refine lv_aload_n hx hb dc_M_take_14 rfl (lv_at hl 0 rfl) ?_
        refine va_get (D := (dC, dI)) (ci := 2) (v := .ref pW) (C := "FourWordsModel") (T := tb_M) (N := 12) hx hb hts (hu _ um_M) hown hK hP 0 rfl rfl 1 (by decide) (hq mw_t461) (fun _ h9 => h9) rfl dc_M_take_15 ?_
        refine lv_iload_n hx hb dc_M_take_18 rfl (lv_at hl 1 rfl) ?_
        obtain ⟨hin, hw⟩ := hw
        refine va_iald hx hb hK hP 2 1 rfl rfl hin dc_M_take_19 ?_
        obtain ⟨hw1, hw2⟩ := hw
        refine lv_icmp_ge (tgt := 38) hx hb dc_M_take_20 (by decide) (fun hc => ?_) (fun hc => ?_)
        · have hw := hw1 hc
          clear hw1 hw2
          refine lv_iload hx hb dc_M_take_38 (lv_at hl 4 rfl) ?_
          obtain ⟨hw1, hw2⟩ := hw
          refine lv_if_eq (tgt := 64) hx hb dc_M_take_40 (by decide) (fun hc => ?_) (fun hc => ?_)
          · have hw := hw1 hc
            clear hw1 hw2
            refine lv_iconst (v := 0) hx hb dc_M_take_64 (by decide) ?_
            exact B_65 (wp_M_take_b_3 post n3) ih _ _ _ x1 x3 x4 x5 (0 : Int32) x5 kb kw ks ka kq kc kr kt kd many tsz thr hw hP hD hS (lv_sub hl [0, 1, 2, 3, 4, 5] rfl)
          · have hw := hw2 hc
            clear hw1 hw2
            refine lv_aload_n hx hb dc_M_take_43 rfl (lv_at hl 0 rfl) ?_
            refine va_get (D := (dC, dI)) (ci := 2) (v := .ref pB) (C := "FourWordsModel") (T := tb_M) (N := 12) hx hb hts (hu _ um_M) hown hK hP 0 rfl rfl 0 (by decide) (hq mw_t460) (fun _ h9 => h9) rfl dc_M_take_44 ?_
            refine lv_bipush (v := 64) hx hb dc_M_take_47 (by decide) ?_
            refine lv_iload_n hx hb dc_M_take_49 rfl (lv_at hl 1 rfl) ?_
            refine lv_imul hx hb dc_M_take_50 ?_
            refine lv_aload_n hx hb dc_M_take_51 rfl (lv_at hl 0 rfl) ?_
            refine va_get (D := (dC, dI)) (ci := 2) (v := .ref pW) (C := "FourWordsModel") (T := tb_M) (N := 12) hx hb hts (hu _ um_M) hown hK hP 0 rfl rfl 1 (by decide) (hq mw_t461) (fun _ h9 => h9) rfl dc_M_take_52 ?_
            refine lv_iload_n hx hb dc_M_take_55 rfl (lv_at hl 1 rfl) ?_
            obtain ⟨hin, hw⟩ := hw
            refine va_iald hx hb hK hP 2 1 rfl rfl hin dc_M_take_56 ?_
            refine lv_iadd hx hb dc_M_take_57 ?_
            refine lv_iconst (v := 1) hx hb dc_M_take_58 (by decide) ?_
            refine lv_isub hx hb dc_M_take_59 ?_
            obtain ⟨hin, hw⟩ := hw
            refine va_bald hx hb hK hP 1 3 rfl rfl hin dc_M_take_60 ?_
            refine lv_goto (tgt := 65) hx hb dc_M_take_61 (by decide) ?_
            exact B_65 (wp_M_take_b_3 post n3) ih _ _ _ x1 x3 x4 x5 (kb ((((64 : Int32) * x1) + (kw x1.toNatClampNeg)) - (1 : Int32)).toNatClampNeg) x5 kb kw ks ka kq kc kr kt kd many tsz thr hw hP hD hS (lv_sub hl [0, 1, 2, 3, 4, 5] rfl)
        · have hw := hw2 hc
          clear hw1 hw2
          refine lv_aload_n hx hb dc_M_take_23 rfl (lv_at hl 0 rfl) ?_
          refine va_get (D := (dC, dI)) (ci := 2) (v := .ref pB) (C := "FourWordsModel") (T := tb_M) (N := 12) hx hb hts (hu _ um_M) hown hK hP 0 rfl rfl 0 (by decide) (hq mw_t460) (fun _ h9 => h9) rfl dc_M_take_24 ?_
          refine lv_bipush (v := 64) hx hb dc_M_take_27 (by decide) ?_
          refine lv_iload_n hx hb dc_M_take_29 rfl (lv_at hl 1 rfl) ?_
          refine lv_imul hx hb dc_M_take_30 ?_
          refine lv_iload hx hb dc_M_take_31 (lv_at hl 5 rfl) ?_
          refine lv_iadd hx hb dc_M_take_33 ?_
          obtain ⟨hin, hw⟩ := hw
          refine va_bald hx hb hK hP 1 3 rfl rfl hin dc_M_take_34 ?_
          refine lv_goto (tgt := 65) hx hb dc_M_take_35 (by decide) ?_
          exact B_65 (wp_M_take_b_3 post n3) ih _ _ _ x1 x3 x4 x5 (kb (((64 : Int32) * x1) + x5).toNatClampNeg) x5 kb kw ks ka kq kc kr kt kd many tsz thr hw hP hD hS (lv_sub hl [0, 1, 2, 3, 4, 5] rfl)
  unfold wp_M_take_b at hw
  refine lv_iconst (v := 0) hx hb dc_M_take_0 (by decide) ?_
  refine lv_istore (lv' := [(5, .int (0 : Int32)), (0, .ref h1), (1, .int a1), (2, .ref pQ), (3, .int a3), (4, .int a4)]) hx hb dc_M_take_1 hl (Nat.le_of_ble_eq_true rfl) rfl (fun ls hl => ?_)
  obtain ⟨n3, hw⟩ := hw
  exact B_3 n3 _ _ _ a1 a3 a4 (0 : Int32) kb kw ks ka kq kc kr kt kd many tsz thr hw hP hD hS (lv_sub hl [1, 2, 3, 4, 5, 0] rfl)
set_option maxHeartbeats 4000000 in
set_option maxRecDepth 100000 in
theorem kt_M_take_c (l : Launch) (dC : Nat → ClassId) (dI : Nat → Nat → Nat) (cJ cI cZ cB : ClassId) (h1 pB pW pS pA pQ pC pR pT pD : Nat) (sz : Nat) (a1 : Int32) (a3 : Int32) (a4 : Int32) (kb : (Nat → Int32)) (kw : (Nat → Int32)) (ks : (Nat → Int32)) (ka : (Nat → Int32)) (kq : (Nat → Int32)) (kc : (Nat → Int32)) (kr : (Nat → Int32)) (kt : (Nat → Int32)) (kd : (Nat → Int32)) (many : Int32) (tsz : Int32) (thr : Int32) (post : (Nat → Int32) → (Nat → Int32) → (Nat → Int32) → (Nat → Int32) → (Nat → Int32) → (Nat → Int32) → (Nat → Int32) → (Nat → Int32) → (Nat → Int32) → Int32 → Int32 → Int32 → Prop) (hw : wp_M_take_c post a1 a3 a4 kb kw ks ka kq kc kr kt kd many tsz thr) : Met l yn_M_take ws_M_take rm_M_take_c (va_Pc [.ref h1, .int a1, .ref pC, .int a3, .int a4] (pc_W (dC, dI) (ty_4 cJ cI cZ cB) (wd_M h1 pB pW pS pA pQ pC pR pT pD cJ cI cZ cB kb kw ks ka kq kc kr kt kd many tsz thr) sz)) (qv_M dC dI cJ cI cZ cB h1 pB pW pS pA pQ pC pR pT pD post (va_A (wd_M h1 pB pW pS pA pQ pC pR pT pD cJ cI cZ cB kb kw ks ka kq kc kr kt kd many tsz thr) sz)) 0 0 (va_A (wd_M h1 pB pW pS pA pQ pC pR pT pD cJ cI cZ cB kb kw ks ka kq kc kr kt kd many tsz thr) sz) := by
  refine Met.ofW (cc := cd_M_take) (maxL := 6) (ret := none) (by decide) rfl ?_
  intro p e s m args below meth c s₁ B hml hv
  obtain ⟨rfl, hsz, hP, hK, hD0, hE⟩ := hv
  have hx := B.exec
  have hb := B.bytes
  have hr := B.returns
  have hts := atoms_spec (ws := ws_M_take) B.pre
  have hq : ∀ {w : Cond}, w ∈ wg_all → w.before ([.ref h1, .int a1, .ref pC, .int a3, .int a4] : List Value).toArray s = true := fun h => hts _ (List.mem_cons_of_mem _ h)
  have hu : ∀ L : List Cond, (∀ w ∈ L, w ∈ wg_all) → ∀ w ∈ L, w ∈ ws_M_take := fun L h w hw => List.mem_cons_of_mem _ (h w hw)
  have hown : s.vm.findClass "FourWordsModel" = some m.cls := findClass_of_methodNamed B.named
  have hlocks := B.notSynchronized
  subst hsz
  have hD := hD0.self (sz := s.heap.size)
  generalize hAe : va_A (wd_M h1 pB pW pS pA pQ pC pR pT pD cJ cI cZ cB kb kw ks ka kq kc kr kt kd many tsz thr) s.heap.size = A at hD ⊢
  have hA : ∀ q : Nat, s.heap.size ≤ q → A q := fun q h => by rw [← hAe]; exact Or.inr h
  have hS : va_S A s.heap s.heap [] := va_S.rf
  have hl := lv_entry [.ref h1, .int a1, .ref pC, .int a3, .int a4] (n := 6) (Nat.le_of_ble_eq_true rfl)
  rw [lg_entry_eq]
  generalize (lg_sl [.ref h1, .int a1, .ref pC, .int a3, .int a4] ++ List.replicate (6 - (lg_sl [.ref h1, .int a1, .ref pC, .int a3, .int a4]).length) Slot.unset).toArray = ls at hl ⊢
  have hl : lv_has ls 6 [(0, .ref h1), (1, .int a1), (2, .ref pC), (3, .int a3), (4, .int a4)] := hl
  have B_65 : ∀ (K3 : Int32 → Int32 → Int32 → Int32 → (Nat → Int32) → (Nat → Int32) → (Nat → Int32) → (Nat → Int32) → (Nat → Int32) → (Nat → Int32) → (Nat → Int32) → (Nat → Int32) → (Nat → Int32) → Int32 → Int32 → Int32 → Prop) (hK3 : ∀ (H : Heap) (locs : List Loc) (ls : Array Slot) (x1 : Int32) (x3 : Int32) (x4 : Int32) (x5 : Int32) (kb : (Nat → Int32)) (kw : (Nat → Int32)) (ks : (Nat → Int32)) (ka : (Nat → Int32)) (kq : (Nat → Int32)) (kc : (Nat → Int32)) (kr : (Nat → Int32)) (kt : (Nat → Int32)) (kd : (Nat → Int32)) (many : Int32) (tsz : Int32) (thr : Int32), K3 x1 x3 x4 x5 kb kw ks ka kq kc kr kt kd many tsz thr → va_P (dC, dI) cs_3 (wd_M h1 pB pW pS pA pQ pC pR pT pD cJ cI cZ cB kb kw ks ka kq kc kr kt kd many tsz thr) H → va_D A (wd_M h1 pB pW pS pA pQ pC pR pT pD cJ cI cZ cB kb kw ks ka kq kc kr kt kd many tsz thr) → va_S A s.heap H locs → lv_has ls 6 [(0, .ref h1), (1, .int x1), (2, .ref pC), (3, .int x3), (4, .int x4), (5, .int x5)] → W p l e (headSpec ws_M_take rm_M_take_c).room s m ([.ref h1, .int a1, .ref pC, .int a3, .int a4] : List Value).toArray below meth c H locs 0 0 (MQ below (qv_M dC dI cJ cI cZ cB h1 pB pW pS pA pQ pC pR pT pD post A) ([.ref h1, .int a1, .ref pC, .int a3, .int a4] : List Value).toArray s 0 0 A) (F0 m 3 ls [])) (H : Heap) (locs : List Loc) (ls : Array Slot) (x1 : Int32) (x3 : Int32) (x4 : Int32) (x5 : Int32) (t0 : Int32) (t1 : Int32) (kb : (Nat → Int32)) (kw : (Nat → Int32)) (ks : (Nat → Int32)) (ka : (Nat → Int32)) (kq : (Nat → Int32)) (kc : (Nat → Int32)) (kr : (Nat → Int32)) (kt : (Nat → Int32)) (kd : (Nat → Int32)) (many : Int32) (tsz : Int32) (thr : Int32), wp_M_take_c_65 K3 post x1 x3 x4 x5 t0 t1 kb kw ks ka kq kc kr kt kd many tsz thr → va_P (dC, dI) cs_3 (wd_M h1 pB pW pS pA pQ pC pR pT pD cJ cI cZ cB kb kw ks ka kq kc kr kt kd many tsz thr) H → va_D A (wd_M h1 pB pW pS pA pQ pC pR pT pD cJ cI cZ cB kb kw ks ka kq kc kr kt kd many tsz thr) → va_S A s.heap H locs → lv_has ls 6 [(0, .ref h1), (1, .int x1), (2, .ref pC), (3, .int x3), (4, .int x4), (5, .int x5)] → W p l e (headSpec ws_M_take rm_M_take_c).room s m ([.ref h1, .int a1, .ref pC, .int a3, .int a4] : List Value).toArray below meth c H locs 0 0 (MQ below (qv_M dC dI cJ cI cZ cB h1 pB pW pS pA pQ pC pR pT pD post A) ([.ref h1, .int a1, .ref pC, .int a3, .int a4] : List Value).toArray s 0 0 A) (F0 m 65 ls [.int t0, .int t1, .ref pC]) := by
    intro K3 hK3 H locs ls x1 x3 x4 x5 t0 t1 kb kw ks ka kq kc kr kt kd many tsz thr hw hP hD hS hl
    unfold wp_M_take_c_65 at hw
    obtain ⟨hin, hw⟩ := hw
    refine va_bast hx hb hK hP hD hS 6 3 rfl rfl hin dc_M_take_65 (fun H locs hP hD hS => ?_)
    have hP : va_P (dC, dI) cs_3 (wd_M h1 pB pW pS pA pQ pC pR pT pD cJ cI cZ cB kb kw ks ka kq (upd kc t1.toNatClampNeg (vp_nar .byte t0)) kr kt kd many tsz thr) H := hP
    have hD : va_D A (wd_M h1 pB pW pS pA pQ pC pR pT pD cJ cI cZ cB kb kw ks ka kq (upd kc t1.toNatClampNeg (vp_nar .byte t0)) kr kt kd many tsz thr) := hD
    refine lv_iinc (lv' := [(5, .int (x5 + 1)), (0, .ref h1), (1, .int x1), (2, .ref pC), (3, .int x3), (4, .int x4)]) hx hb dc_M_take_66 hl (k := 5) rfl (ic_p1 _) (Nat.le_of_ble_eq_true rfl) rfl (fun ls hl => ?_)
    refine lv_goto (tgt := 3) hx hb dc_M_take_69 (by decide) ?_
    exact hK3 _ _ _ x1 x3 x4 (x5 + 1) kb kw ks ka kq (upd kc t1.toNatClampNeg (vp_nar .byte t0)) kr kt kd many tsz thr hw hP hD hS (lv_sub hl [1, 2, 3, 4, 5, 0] rfl)
  have B_3 : ∀ (n3 : Nat) (H : Heap) (locs : List Loc) (ls : Array Slot) (x1 : Int32) (x3 : Int32) (x4 : Int32) (x5 : Int32) (kb : (Nat → Int32)) (kw : (Nat → Int32)) (ks : (Nat → Int32)) (ka : (Nat → Int32)) (kq : (Nat → Int32)) (kc : (Nat → Int32)) (kr : (Nat → Int32)) (kt : (Nat → Int32)) (kd : (Nat → Int32)) (many : Int32) (tsz : Int32) (thr : Int32), wp_M_take_c_3 post n3 x1 x3 x4 x5 kb kw ks ka kq kc kr kt kd many tsz thr → va_P (dC, dI) cs_3 (wd_M h1 pB pW pS pA pQ pC pR pT pD cJ cI cZ cB kb kw ks ka kq kc kr kt kd many tsz thr) H → va_D A (wd_M h1 pB pW pS pA pQ pC pR pT pD cJ cI cZ cB kb kw ks ka kq kc kr kt kd many tsz thr) → va_S A s.heap H locs → lv_has ls 6 [(0, .ref h1), (1, .int x1), (2, .ref pC), (3, .int x3), (4, .int x4), (5, .int x5)] → W p l e (headSpec ws_M_take rm_M_take_c).room s m ([.ref h1, .int a1, .ref pC, .int a3, .int a4] : List Value).toArray below meth c H locs 0 0 (MQ below (qv_M dC dI cJ cI cZ cB h1 pB pW pS pA pQ pC pR pT pD post A) ([.ref h1, .int a1, .ref pC, .int a3, .int a4] : List Value).toArray s 0 0 A) (F0 m 3 ls []) := by
    intro n3
    induction n3 with
    | zero => intro H locs ls x1 x3 x4 x5 kb kw ks ka kq kc kr kt kd many tsz thr hw; exact False.elim hw
    | succ n3 ih =>
      intro H locs ls x1 x3 x4 x5 kb kw ks ka kq kc kr kt kd many tsz thr hw hP hD hS hl
      unfold wp_M_take_c_3 at hw
      refine lv_iload hx hb dc_M_take_3 (lv_at hl 5 rfl) ?_
      refine lv_iload_n hx hb dc_M_take_5 rfl (lv_at hl 3 rfl) ?_
      obtain ⟨hw1, hw2⟩ := hw
      refine lv_icmp_ge (tgt := 72) hx hb dc_M_take_6 (by decide) (fun hc => ?_) (fun hc => ?_)
      · have hw := hw1 hc
        clear hw1 hw2
        exact W.vret hx hb hr (fun t ht hW => ⟨⟨(kb, kw, ks, ka, kq, kc, kr, kt, kd, many, tsz, thr), rfl, hw, by rw [ht]; exact hP, va_K.moved hW.alike hK, hD⟩, hS.F ht⟩) hS.2.2 dc_M_take_72
      · have hw := hw2 hc
        clear hw1 hw2
        refine lv_aload_n hx hb dc_M_take_9 rfl (lv_at hl 2 rfl) ?_
        refine lv_iload hx hb dc_M_take_10 (lv_at hl 5 rfl) ?_
        refine lv_iload hx hb dc_M_take_12 (lv_at hl 5 rfl) ?_
        refine lv_aload_n hx hb dc_M_take_14 rfl (lv_at hl 0 rfl) ?_
        refine va_get (D := (dC, dI)) (ci := 2) (v := .ref pW) (C := "FourWordsModel") (T := tb_M) (N := 12) hx hb hts (hu _ um_M) hown hK hP 0 rfl rfl 1 (by decide) (hq mw_t461) (fun _ h9 => h9) rfl dc_M_take_15 ?_
        refine lv_iload_n hx hb dc_M_take_18 rfl (lv_at hl 1 rfl) ?_
        obtain ⟨hin, hw⟩ := hw
        refine va_iald hx hb hK hP 2 1 rfl rfl hin dc_M_take_19 ?_
        obtain ⟨hw1, hw2⟩ := hw
        refine lv_icmp_ge (tgt := 38) hx hb dc_M_take_20 (by decide) (fun hc => ?_) (fun hc => ?_)
        · have hw := hw1 hc
          clear hw1 hw2
          refine lv_iload hx hb dc_M_take_38 (lv_at hl 4 rfl) ?_
          obtain ⟨hw1, hw2⟩ := hw
          refine lv_if_eq (tgt := 64) hx hb dc_M_take_40 (by decide) (fun hc => ?_) (fun hc => ?_)
          · have hw := hw1 hc
            clear hw1 hw2
            refine lv_iconst (v := 0) hx hb dc_M_take_64 (by decide) ?_
            exact B_65 (wp_M_take_c_3 post n3) ih _ _ _ x1 x3 x4 x5 (0 : Int32) x5 kb kw ks ka kq kc kr kt kd many tsz thr hw hP hD hS (lv_sub hl [0, 1, 2, 3, 4, 5] rfl)
          · have hw := hw2 hc
            clear hw1 hw2
            refine lv_aload_n hx hb dc_M_take_43 rfl (lv_at hl 0 rfl) ?_
            refine va_get (D := (dC, dI)) (ci := 2) (v := .ref pB) (C := "FourWordsModel") (T := tb_M) (N := 12) hx hb hts (hu _ um_M) hown hK hP 0 rfl rfl 0 (by decide) (hq mw_t460) (fun _ h9 => h9) rfl dc_M_take_44 ?_
            refine lv_bipush (v := 64) hx hb dc_M_take_47 (by decide) ?_
            refine lv_iload_n hx hb dc_M_take_49 rfl (lv_at hl 1 rfl) ?_
            refine lv_imul hx hb dc_M_take_50 ?_
            refine lv_aload_n hx hb dc_M_take_51 rfl (lv_at hl 0 rfl) ?_
            refine va_get (D := (dC, dI)) (ci := 2) (v := .ref pW) (C := "FourWordsModel") (T := tb_M) (N := 12) hx hb hts (hu _ um_M) hown hK hP 0 rfl rfl 1 (by decide) (hq mw_t461) (fun _ h9 => h9) rfl dc_M_take_52 ?_
            refine lv_iload_n hx hb dc_M_take_55 rfl (lv_at hl 1 rfl) ?_
            obtain ⟨hin, hw⟩ := hw
            refine va_iald hx hb hK hP 2 1 rfl rfl hin dc_M_take_56 ?_
            refine lv_iadd hx hb dc_M_take_57 ?_
            refine lv_iconst (v := 1) hx hb dc_M_take_58 (by decide) ?_
            refine lv_isub hx hb dc_M_take_59 ?_
            obtain ⟨hin, hw⟩ := hw
            refine va_bald hx hb hK hP 1 3 rfl rfl hin dc_M_take_60 ?_
            refine lv_goto (tgt := 65) hx hb dc_M_take_61 (by decide) ?_
            exact B_65 (wp_M_take_c_3 post n3) ih _ _ _ x1 x3 x4 x5 (kb ((((64 : Int32) * x1) + (kw x1.toNatClampNeg)) - (1 : Int32)).toNatClampNeg) x5 kb kw ks ka kq kc kr kt kd many tsz thr hw hP hD hS (lv_sub hl [0, 1, 2, 3, 4, 5] rfl)
        · have hw := hw2 hc
          clear hw1 hw2
          refine lv_aload_n hx hb dc_M_take_23 rfl (lv_at hl 0 rfl) ?_
          refine va_get (D := (dC, dI)) (ci := 2) (v := .ref pB) (C := "FourWordsModel") (T := tb_M) (N := 12) hx hb hts (hu _ um_M) hown hK hP 0 rfl rfl 0 (by decide) (hq mw_t460) (fun _ h9 => h9) rfl dc_M_take_24 ?_
          refine lv_bipush (v := 64) hx hb dc_M_take_27 (by decide) ?_
          refine lv_iload_n hx hb dc_M_take_29 rfl (lv_at hl 1 rfl) ?_
          refine lv_imul hx hb dc_M_take_30 ?_
          refine lv_iload hx hb dc_M_take_31 (lv_at hl 5 rfl) ?_
          refine lv_iadd hx hb dc_M_take_33 ?_
          obtain ⟨hin, hw⟩ := hw
          refine va_bald hx hb hK hP 1 3 rfl rfl hin dc_M_take_34 ?_
          refine lv_goto (tgt := 65) hx hb dc_M_take_35 (by decide) ?_
          exact B_65 (wp_M_take_c_3 post n3) ih _ _ _ x1 x3 x4 x5 (kb (((64 : Int32) * x1) + x5).toNatClampNeg) x5 kb kw ks ka kq kc kr kt kd many tsz thr hw hP hD hS (lv_sub hl [0, 1, 2, 3, 4, 5] rfl)
  unfold wp_M_take_c at hw
  refine lv_iconst (v := 0) hx hb dc_M_take_0 (by decide) ?_
  refine lv_istore (lv' := [(5, .int (0 : Int32)), (0, .ref h1), (1, .int a1), (2, .ref pC), (3, .int a3), (4, .int a4)]) hx hb dc_M_take_1 hl (Nat.le_of_ble_eq_true rfl) rfl (fun ls hl => ?_)
  obtain ⟨n3, hw⟩ := hw
  exact B_3 n3 _ _ _ a1 a3 a4 (0 : Int32) kb kw ks ka kq kc kr kt kd many tsz thr hw hP hD hS (lv_sub hl [1, 2, 3, 4, 5, 0] rfl)
set_option maxHeartbeats 4000000 in
set_option maxRecDepth 100000 in
theorem kt_M_bring (l : Launch) (dC : Nat → ClassId) (dI : Nat → Nat → Nat) (cJ cI cZ cB : ClassId) (h1 pB pW pS pA pQ pC pR pT pD : Nat) (sz : Nat) (a1 : Int32) (a2 : Int32) (kb : (Nat → Int32)) (kw : (Nat → Int32)) (ks : (Nat → Int32)) (ka : (Nat → Int32)) (kq : (Nat → Int32)) (kc : (Nat → Int32)) (kr : (Nat → Int32)) (kt : (Nat → Int32)) (kd : (Nat → Int32)) (many : Int32) (tsz : Int32) (thr : Int32) (post : (Nat → Int32) → (Nat → Int32) → (Nat → Int32) → (Nat → Int32) → (Nat → Int32) → (Nat → Int32) → (Nat → Int32) → (Nat → Int32) → (Nat → Int32) → Int32 → Int32 → Int32 → Prop) (hw : wp_M_bring post a1 a2 kb kw ks ka kq kc kr kt kd many tsz thr) : Met l yn_M_bring ws_M_bring rm_M_bring (va_Pc [.ref h1, .int a1, .int a2] (pc_W (dC, dI) (ty_4 cJ cI cZ cB) (wd_M h1 pB pW pS pA pQ pC pR pT pD cJ cI cZ cB kb kw ks ka kq kc kr kt kd many tsz thr) sz)) (qv_M dC dI cJ cI cZ cB h1 pB pW pS pA pQ pC pR pT pD post (va_A (wd_M h1 pB pW pS pA pQ pC pR pT pD cJ cI cZ cB kb kw ks ka kq kc kr kt kd many tsz thr) sz)) 0 0 (va_A (wd_M h1 pB pW pS pA pQ pC pR pT pD cJ cI cZ cB kb kw ks ka kq kc kr kt kd many tsz thr) sz) := by
  refine Met.ofW (cc := cd_M_bring) (maxL := 3) (ret := none) (by decide) rfl ?_
  intro p e s m args below meth c s₁ B hml hv
  obtain ⟨rfl, hsz, hP, hK, hD0, hE⟩ := hv
  have hx := B.exec
  have hb := B.bytes
  have hr := B.returns
  have hts := atoms_spec (ws := ws_M_bring) B.pre
  have hq : ∀ {w : Cond}, w ∈ wg_all → w.before ([.ref h1, .int a1, .int a2] : List Value).toArray s = true := fun h => hts _ (List.mem_cons_of_mem _ h)
  have hu : ∀ L : List Cond, (∀ w ∈ L, w ∈ wg_all) → ∀ w ∈ L, w ∈ ws_M_bring := fun L h w hw => List.mem_cons_of_mem _ (h w hw)
  have hown : s.vm.findClass "FourWordsModel" = some m.cls := findClass_of_methodNamed B.named
  have hlocks := B.notSynchronized
  subst hsz
  have hD := hD0.self (sz := s.heap.size)
  generalize hAe : va_A (wd_M h1 pB pW pS pA pQ pC pR pT pD cJ cI cZ cB kb kw ks ka kq kc kr kt kd many tsz thr) s.heap.size = A at hD ⊢
  have hA : ∀ q : Nat, s.heap.size ≤ q → A q := fun q h => by rw [← hAe]; exact Or.inr h
  have hS : va_S A s.heap s.heap [] := va_S.rf
  have hl := lv_entry [.ref h1, .int a1, .int a2] (n := 3) (Nat.le_of_ble_eq_true rfl)
  rw [lg_entry_eq]
  generalize (lg_sl [.ref h1, .int a1, .int a2] ++ List.replicate (3 - (lg_sl [.ref h1, .int a1, .int a2]).length) Slot.unset).toArray = ls at hl ⊢
  have hl : lv_has ls 3 [(0, .ref h1), (1, .int a1), (2, .int a2)] := hl
  unfold wp_M_bring at hw
  refine lv_aload_n hx hb dc_M_bring_0 rfl (lv_at hl 0 rfl) ?_
  refine lv_aload_n hx hb dc_M_bring_1 rfl (lv_at hl 0 rfl) ?_
  refine va_get (D := (dC, dI)) (ci := 2) (v := .int many) (C := "FourWordsModel") (T := tb_M) (N := 12) hx hb hts (hu _ um_M) hown hK hP 0 rfl rfl 8 (by decide) (hq mw_t468) (fun _ h9 => h9) rfl dc_M_bring_2 ?_
  refine lv_iconst (v := 2) hx hb dc_M_bring_5 (by decide) ?_
  refine lv_isub hx hb dc_M_bring_6 ?_
  refine lv_aload_n hx hb dc_M_bring_7 rfl (lv_at hl 0 rfl) ?_
  refine va_get (D := (dC, dI)) (ci := 2) (v := .ref pA) (C := "FourWordsModel") (T := tb_M) (N := 12) hx hb hts (hu _ um_M) hown hK hP 0 rfl rfl 3 (by decide) (hq mw_t463) (fun _ h9 => h9) rfl dc_M_bring_8 ?_
  refine lv_iload_n hx hb dc_M_bring_11 rfl (lv_at hl 2 rfl) ?_
  refine lv_iload_n hx hb dc_M_bring_12 rfl (lv_at hl 1 rfl) ?_
  refine gc_v (S := (Nat → Int32) × (Nat → Int32) × (Nat → Int32) × (Nat → Int32) × (Nat → Int32) × (Nat → Int32) × (Nat → Int32) × (Nat → Int32) × (Nat → Int32) × Int32 × Int32 × Int32) (w1 := (fun u => (wd_M h1 pB pW pS pA pQ pC pR pT pD cJ cI cZ cB u.1 u.2.1 u.2.2.1 u.2.2.2.1 u.2.2.2.2.1 u.2.2.2.2.2.1 u.2.2.2.2.2.2.1 u.2.2.2.2.2.2.2.1 u.2.2.2.2.2.2.2.2.1 u.2.2.2.2.2.2.2.2.2.1 u.2.2.2.2.2.2.2.2.2.2.1 u.2.2.2.2.2.2.2.2.2.2.2))) (wc := (wd_M h1 pB pW pS pA pQ pC pR pT pD cJ cI cZ cB kb kw ks ka kq kc kr kt kd many tsz thr)) (wr := ([] : va_W)) (va_runV (As := [.int (many - (2 : Int32)), .ref pA, .int a2, .int a1]) (rest := []) ⟨hx, hb, hml, hown, hts⟩ (kt_M_take_a l dC dI cJ cI cZ cB h1 pB pW pS pA pQ pC pR pT pD _ (many - (2 : Int32)) a2 a1 kb kw ks ka kq kc kr kt kd many tsz thr _ hw) ⟨callB_of 4 hts (gw_in mw_t525) rfl rfl rfl (hq mw_t3) (hq mw_t522) (by decide +kernel) ⟨Nat.le_of_ble_eq_true rfl, Nat.le_of_ble_eq_true rfl⟩, hq mw_t524, hq mw_s37⟩ (pv_W (va_recv (q0 := 0) (ci := 2) hK hP rfl rfl) (hP.sub (ws' := (wd_M h1 pB pW pS pA pQ pC pR pT pD cJ cI cZ cB kb kw ks ka kq kc kr kt kd many tsz thr)) [0, 1, 2, 3, 4, 5, 6, 7, 8, 9] rfl) hK (hD.sub (ws' := (wd_M h1 pB pW pS pA pQ pC pR pT pD cJ cI cZ cB kb kw ks ka kq kc kr kt kd many tsz thr)) [0, 1, 2, 3, 4, 5, 6, 7, 8, 9] (by decide) rfl) hE) rfl rfl hl.1 rfl (lv_room (Nat.le_of_ble_eq_true rfl)) dc_M_bring_13 ⟨Nat.le_of_ble_eq_true rfl, Nat.le_of_ble_eq_true rfl⟩) hP hD hS hA [0, 1, 2, 3, 4, 5, 6, 7, 8, 9] [] rfl rfl (by decide) (by decide) (fun u H locs hw hP hD hS => ?_)
  obtain ⟨kb13, kw13, ks13, ka13, kq13, kc13, kr13, kt13, kd13, many13, tsz13, thr13⟩ := u
  have hP : va_P (dC, dI) cs_3 (wd_M h1 pB pW pS pA pQ pC pR pT pD cJ cI cZ cB kb13 kw13 ks13 ka13 kq13 kc13 kr13 kt13 kd13 many13 tsz13 thr13) H := hP.sub (ws' := (wd_M h1 pB pW pS pA pQ pC pR pT pD cJ cI cZ cB kb13 kw13 ks13 ka13 kq13 kc13 kr13 kt13 kd13 many13 tsz13 thr13)) [0, 1, 2, 3, 4, 5, 6, 7, 8, 9] rfl
  have hD : va_D A (wd_M h1 pB pW pS pA pQ pC pR pT pD cJ cI cZ cB kb13 kw13 ks13 ka13 kq13 kc13 kr13 kt13 kd13 many13 tsz13 thr13) := hD.sub (ws' := (wd_M h1 pB pW pS pA pQ pC pR pT pD cJ cI cZ cB kb13 kw13 ks13 ka13 kq13 kc13 kr13 kt13 kd13 many13 tsz13 thr13)) [0, 1, 2, 3, 4, 5, 6, 7, 8, 9] (by decide) rfl
  try dsimp only at hw
  refine lv_aload_n hx hb dc_M_bring_16 rfl (lv_at hl 0 rfl) ?_
  refine lv_aload_n hx hb dc_M_bring_17 rfl (lv_at hl 0 rfl) ?_
  refine va_get (D := (dC, dI)) (ci := 2) (v := .int many13) (C := "FourWordsModel") (T := tb_M) (N := 12) hx hb hts (hu _ um_M) hown hK hP 0 rfl rfl 8 (by decide) (hq mw_t468) (fun _ h9 => h9) rfl dc_M_bring_18 ?_
  refine lv_iconst (v := 1) hx hb dc_M_bring_21 (by decide) ?_
  refine lv_isub hx hb dc_M_bring_22 ?_
  refine lv_aload_n hx hb dc_M_bring_23 rfl (lv_at hl 0 rfl) ?_
  refine va_get (D := (dC, dI)) (ci := 2) (v := .ref pQ) (C := "FourWordsModel") (T := tb_M) (N := 12) hx hb hts (hu _ um_M) hown hK hP 0 rfl rfl 4 (by decide) (hq mw_t464) (fun _ h9 => h9) rfl dc_M_bring_24 ?_
  refine lv_iload_n hx hb dc_M_bring_27 rfl (lv_at hl 2 rfl) ?_
  refine lv_iload_n hx hb dc_M_bring_28 rfl (lv_at hl 1 rfl) ?_
  refine gc_v (S := (Nat → Int32) × (Nat → Int32) × (Nat → Int32) × (Nat → Int32) × (Nat → Int32) × (Nat → Int32) × (Nat → Int32) × (Nat → Int32) × (Nat → Int32) × Int32 × Int32 × Int32) (w1 := (fun u => (wd_M h1 pB pW pS pA pQ pC pR pT pD cJ cI cZ cB u.1 u.2.1 u.2.2.1 u.2.2.2.1 u.2.2.2.2.1 u.2.2.2.2.2.1 u.2.2.2.2.2.2.1 u.2.2.2.2.2.2.2.1 u.2.2.2.2.2.2.2.2.1 u.2.2.2.2.2.2.2.2.2.1 u.2.2.2.2.2.2.2.2.2.2.1 u.2.2.2.2.2.2.2.2.2.2.2))) (wc := (wd_M h1 pB pW pS pA pQ pC pR pT pD cJ cI cZ cB kb13 kw13 ks13 ka13 kq13 kc13 kr13 kt13 kd13 many13 tsz13 thr13)) (wr := ([] : va_W)) (va_runV (As := [.int (many13 - (1 : Int32)), .ref pQ, .int a2, .int a1]) (rest := []) ⟨hx, hb, hml, hown, hts⟩ (kt_M_take_b l dC dI cJ cI cZ cB h1 pB pW pS pA pQ pC pR pT pD _ (many13 - (1 : Int32)) a2 a1 kb13 kw13 ks13 ka13 kq13 kc13 kr13 kt13 kd13 many13 tsz13 thr13 _ hw) ⟨callB_of 4 hts (gw_in mw_t525) rfl rfl rfl (hq mw_t3) (hq mw_t522) (by decide +kernel) ⟨Nat.le_of_ble_eq_true rfl, Nat.le_of_ble_eq_true rfl⟩, hq mw_t524, hq mw_s37⟩ (pv_W (va_recv (q0 := 0) (ci := 2) hK hP rfl rfl) (hP.sub (ws' := (wd_M h1 pB pW pS pA pQ pC pR pT pD cJ cI cZ cB kb13 kw13 ks13 ka13 kq13 kc13 kr13 kt13 kd13 many13 tsz13 thr13)) [0, 1, 2, 3, 4, 5, 6, 7, 8, 9] rfl) hK (hD.sub (ws' := (wd_M h1 pB pW pS pA pQ pC pR pT pD cJ cI cZ cB kb13 kw13 ks13 ka13 kq13 kc13 kr13 kt13 kd13 many13 tsz13 thr13)) [0, 1, 2, 3, 4, 5, 6, 7, 8, 9] (by decide) rfl) hE) rfl rfl hl.1 rfl (lv_room (Nat.le_of_ble_eq_true rfl)) dc_M_bring_29 ⟨Nat.le_of_ble_eq_true rfl, Nat.le_of_ble_eq_true rfl⟩) hP hD hS hA [0, 1, 2, 3, 4, 5, 6, 7, 8, 9] [] rfl rfl (by decide) (by decide) (fun u H locs hw hP hD hS => ?_)
  obtain ⟨kb29, kw29, ks29, ka29, kq29, kc29, kr29, kt29, kd29, many29, tsz29, thr29⟩ := u
  have hP : va_P (dC, dI) cs_3 (wd_M h1 pB pW pS pA pQ pC pR pT pD cJ cI cZ cB kb29 kw29 ks29 ka29 kq29 kc29 kr29 kt29 kd29 many29 tsz29 thr29) H := hP.sub (ws' := (wd_M h1 pB pW pS pA pQ pC pR pT pD cJ cI cZ cB kb29 kw29 ks29 ka29 kq29 kc29 kr29 kt29 kd29 many29 tsz29 thr29)) [0, 1, 2, 3, 4, 5, 6, 7, 8, 9] rfl
  have hD : va_D A (wd_M h1 pB pW pS pA pQ pC pR pT pD cJ cI cZ cB kb29 kw29 ks29 ka29 kq29 kc29 kr29 kt29 kd29 many29 tsz29 thr29) := hD.sub (ws' := (wd_M h1 pB pW pS pA pQ pC pR pT pD cJ cI cZ cB kb29 kw29 ks29 ka29 kq29 kc29 kr29 kt29 kd29 many29 tsz29 thr29)) [0, 1, 2, 3, 4, 5, 6, 7, 8, 9] (by decide) rfl
  try dsimp only at hw
  exact W.vret hx hb hr (fun t ht hW => ⟨⟨(kb29, kw29, ks29, ka29, kq29, kc29, kr29, kt29, kd29, many29, tsz29, thr29), rfl, hw, by rw [ht]; exact hP, va_K.moved hW.alike hK, hD⟩, hS.F ht⟩) hS.2.2 dc_M_bring_32
set_option maxHeartbeats 4000000 in
set_option maxRecDepth 100000 in
theorem kt_M_multiply (l : Launch) (dC : Nat → ClassId) (dI : Nat → Nat → Nat) (cJ cI cZ cB : ClassId) (h1 pB pW pS pA pQ pC pR pT pD : Nat) (sz : Nat) (a1 : Int32) (kb : (Nat → Int32)) (kw : (Nat → Int32)) (ks : (Nat → Int32)) (ka : (Nat → Int32)) (kq : (Nat → Int32)) (kc : (Nat → Int32)) (kr : (Nat → Int32)) (kt : (Nat → Int32)) (kd : (Nat → Int32)) (many : Int32) (tsz : Int32) (thr : Int32) (post : (Nat → Int32) → (Nat → Int32) → (Nat → Int32) → (Nat → Int32) → (Nat → Int32) → (Nat → Int32) → (Nat → Int32) → (Nat → Int32) → (Nat → Int32) → Int32 → Int32 → Int32 → Prop) (hw : wp_M_multiply post a1 kb kw ks ka kq kc kr kt kd many tsz thr) : Met l yn_M_multiply ws_M_multiply rm_M_multiply (va_Pc [.ref h1, .int a1] (pc_W (dC, dI) (ty_4 cJ cI cZ cB) (wd_M h1 pB pW pS pA pQ pC pR pT pD cJ cI cZ cB kb kw ks ka kq kc kr kt kd many tsz thr) sz)) (qv_M dC dI cJ cI cZ cB h1 pB pW pS pA pQ pC pR pT pD post (va_A (wd_M h1 pB pW pS pA pQ pC pR pT pD cJ cI cZ cB kb kw ks ka kq kc kr kt kd many tsz thr) sz)) 0 0 (va_A (wd_M h1 pB pW pS pA pQ pC pR pT pD cJ cI cZ cB kb kw ks ka kq kc kr kt kd many tsz thr) sz) := by
  refine Met.ofW (cc := cd_M_multiply) (maxL := 6) (ret := none) (by decide) rfl ?_
  intro p e s m args below meth c s₁ B hml hv
  obtain ⟨rfl, hsz, hP, hK, hD0, hE⟩ := hv
  have hx := B.exec
  have hb := B.bytes
  have hr := B.returns
  have hts := atoms_spec (ws := ws_M_multiply) B.pre
  have hq : ∀ {w : Cond}, w ∈ wg_all → w.before ([.ref h1, .int a1] : List Value).toArray s = true := fun h => hts _ (List.mem_cons_of_mem _ h)
  have hu : ∀ L : List Cond, (∀ w ∈ L, w ∈ wg_all) → ∀ w ∈ L, w ∈ ws_M_multiply := fun L h w hw => List.mem_cons_of_mem _ (h w hw)
  have hown : s.vm.findClass "FourWordsModel" = some m.cls := findClass_of_methodNamed B.named
  have hlocks := B.notSynchronized
  subst hsz
  have hD := hD0.self (sz := s.heap.size)
  generalize hAe : va_A (wd_M h1 pB pW pS pA pQ pC pR pT pD cJ cI cZ cB kb kw ks ka kq kc kr kt kd many tsz thr) s.heap.size = A at hD ⊢
  have hA : ∀ q : Nat, s.heap.size ≤ q → A q := fun q h => by rw [← hAe]; exact Or.inr h
  have hS : va_S A s.heap s.heap [] := va_S.rf
  have hl := lv_entry [.ref h1, .int a1] (n := 6) (Nat.le_of_ble_eq_true rfl)
  rw [lg_entry_eq]
  generalize (lg_sl [.ref h1, .int a1] ++ List.replicate (6 - (lg_sl [.ref h1, .int a1]).length) Slot.unset).toArray = ls at hl ⊢
  have hl : lv_has ls 6 [(0, .ref h1), (1, .int a1)] := hl
  have B_83 : ∀ (K11 : Int32 → Int32 → (Nat → Int32) → (Nat → Int32) → (Nat → Int32) → (Nat → Int32) → (Nat → Int32) → (Nat → Int32) → (Nat → Int32) → (Nat → Int32) → (Nat → Int32) → Int32 → Int32 → Int32 → Prop) (hK11 : ∀ (H : Heap) (locs : List Loc) (ls : Array Slot) (x1 : Int32) (x2 : Int32) (kb : (Nat → Int32)) (kw : (Nat → Int32)) (ks : (Nat → Int32)) (ka : (Nat → Int32)) (kq : (Nat → Int32)) (kc : (Nat → Int32)) (kr : (Nat → Int32)) (kt : (Nat → Int32)) (kd : (Nat → Int32)) (many : Int32) (tsz : Int32) (thr : Int32), K11 x1 x2 kb kw ks ka kq kc kr kt kd many tsz thr → va_P (dC, dI) cs_3 (wd_M h1 pB pW pS pA pQ pC pR pT pD cJ cI cZ cB kb kw ks ka kq kc kr kt kd many tsz thr) H → va_D A (wd_M h1 pB pW pS pA pQ pC pR pT pD cJ cI cZ cB kb kw ks ka kq kc kr kt kd many tsz thr) → va_S A s.heap H locs → lv_has ls 6 [(0, .ref h1), (1, .int x1), (2, .int x2)] → W p l e (headSpec ws_M_multiply rm_M_multiply).room s m ([.ref h1, .int a1] : List Value).toArray below meth c H locs 0 0 (MQ below (qv_M dC dI cJ cI cZ cB h1 pB pW pS pA pQ pC pR pT pD post A) ([.ref h1, .int a1] : List Value).toArray s 0 0 A) (F0 m 11 ls [])) (H : Heap) (locs : List Loc) (ls : Array Slot) (x1 : Int32) (x2 : Int32) (kb : (Nat → Int32)) (kw : (Nat → Int32)) (ks : (Nat → Int32)) (ka : (Nat → Int32)) (kq : (Nat → Int32)) (kc : (Nat → Int32)) (kr : (Nat → Int32)) (kt : (Nat → Int32)) (kd : (Nat → Int32)) (many : Int32) (tsz : Int32) (thr : Int32), wp_M_multiply_83 K11 post x1 x2 kb kw ks ka kq kc kr kt kd many tsz thr → va_P (dC, dI) cs_3 (wd_M h1 pB pW pS pA pQ pC pR pT pD cJ cI cZ cB kb kw ks ka kq kc kr kt kd many tsz thr) H → va_D A (wd_M h1 pB pW pS pA pQ pC pR pT pD cJ cI cZ cB kb kw ks ka kq kc kr kt kd many tsz thr) → va_S A s.heap H locs → lv_has ls 6 [(0, .ref h1), (1, .int x1), (2, .int x2)] → W p l e (headSpec ws_M_multiply rm_M_multiply).room s m ([.ref h1, .int a1] : List Value).toArray below meth c H locs 0 0 (MQ below (qv_M dC dI cJ cI cZ cB h1 pB pW pS pA pQ pC pR pT pD post A) ([.ref h1, .int a1] : List Value).toArray s 0 0 A) (F0 m 83 ls []) := by
    intro K11 hK11 H locs ls x1 x2 kb kw ks ka kq kc kr kt kd many tsz thr hw hP hD hS hl
    unfold wp_M_multiply_83 at hw
    refine lv_iinc (lv' := [(2, .int (x2 + 1)), (0, .ref h1), (1, .int x1)]) hx hb dc_M_multiply_83 hl (k := 2) rfl (ic_p1 _) (Nat.le_of_ble_eq_true rfl) rfl (fun ls hl => ?_)
    refine lv_goto (tgt := 11) hx hb dc_M_multiply_86 (by decide) ?_
    exact hK11 _ _ _ x1 (x2 + 1) kb kw ks ka kq kc kr kt kd many tsz thr hw hP hD hS (lv_sub hl [1, 2, 0] rfl)
  have B_33 : ∀ (K11 : Int32 → Int32 → (Nat → Int32) → (Nat → Int32) → (Nat → Int32) → (Nat → Int32) → (Nat → Int32) → (Nat → Int32) → (Nat → Int32) → (Nat → Int32) → (Nat → Int32) → Int32 → Int32 → Int32 → Prop) (hK11 : ∀ (H : Heap) (locs : List Loc) (ls : Array Slot) (x1 : Int32) (x2 : Int32) (kb : (Nat → Int32)) (kw : (Nat → Int32)) (ks : (Nat → Int32)) (ka : (Nat → Int32)) (kq : (Nat → Int32)) (kc : (Nat → Int32)) (kr : (Nat → Int32)) (kt : (Nat → Int32)) (kd : (Nat → Int32)) (many : Int32) (tsz : Int32) (thr : Int32), K11 x1 x2 kb kw ks ka kq kc kr kt kd many tsz thr → va_P (dC, dI) cs_3 (wd_M h1 pB pW pS pA pQ pC pR pT pD cJ cI cZ cB kb kw ks ka kq kc kr kt kd many tsz thr) H → va_D A (wd_M h1 pB pW pS pA pQ pC pR pT pD cJ cI cZ cB kb kw ks ka kq kc kr kt kd many tsz thr) → va_S A s.heap H locs → lv_has ls 6 [(0, .ref h1), (1, .int x1), (2, .int x2)] → W p l e (headSpec ws_M_multiply rm_M_multiply).room s m ([.ref h1, .int a1] : List Value).toArray below meth c H locs 0 0 (MQ below (qv_M dC dI cJ cI cZ cB h1 pB pW pS pA pQ pC pR pT pD post A) ([.ref h1, .int a1] : List Value).toArray s 0 0 A) (F0 m 11 ls [])) (n33 : Nat) (H : Heap) (locs : List Loc) (ls : Array Slot) (x1 : Int32) (x2 : Int32) (x3 : Int32) (x4 : Int32) (kb : (Nat → Int32)) (kw : (Nat → Int32)) (ks : (Nat → Int32)) (ka : (Nat → Int32)) (kq : (Nat → Int32)) (kc : (Nat → Int32)) (kr : (Nat → Int32)) (kt : (Nat → Int32)) (kd : (Nat → Int32)) (many : Int32) (tsz : Int32) (thr : Int32), wp_M_multiply_33 K11 post n33 x1 x2 x3 x4 kb kw ks ka kq kc kr kt kd many tsz thr → va_P (dC, dI) cs_3 (wd_M h1 pB pW pS pA pQ pC pR pT pD cJ cI cZ cB kb kw ks ka kq kc kr kt kd many tsz thr) H → va_D A (wd_M h1 pB pW pS pA pQ pC pR pT pD cJ cI cZ cB kb kw ks ka kq kc kr kt kd many tsz thr) → va_S A s.heap H locs → lv_has ls 6 [(0, .ref h1), (1, .int x1), (2, .int x2), (3, .int x3), (4, .int x4)] → W p l e (headSpec ws_M_multiply rm_M_multiply).room s m ([.ref h1, .int a1] : List Value).toArray below meth c H locs 0 0 (MQ below (qv_M dC dI cJ cI cZ cB h1 pB pW pS pA pQ pC pR pT pD post A) ([.ref h1, .int a1] : List Value).toArray s 0 0 A) (F0 m 33 ls []) := by
    intro K11 hK11 n33
    induction n33 with
    | zero => intro H locs ls x1 x2 x3 x4 kb kw ks ka kq kc kr kt kd many tsz thr hw; exact False.elim hw
    | succ n33 ih =>
      intro H locs ls x1 x2 x3 x4 kb kw ks ka kq kc kr kt kd many tsz thr hw hP hD hS hl
      unfold wp_M_multiply_33 at hw
      refine lv_iload hx hb dc_M_multiply_33 (lv_at hl 4 rfl) ?_
      refine lv_iload_n hx hb dc_M_multiply_35 rfl (lv_at hl 1 rfl) ?_
      obtain ⟨hw1, hw2⟩ := hw
      refine lv_icmp_ge (tgt := 83) hx hb dc_M_multiply_36 (by decide) (fun hc => ?_) (fun hc => ?_)
      · have hw := hw1 hc
        clear hw1 hw2
        exact B_83 K11 hK11 _ _ _ x1 x2 kb kw ks ka kq kc kr kt kd many tsz thr hw hP hD hS (lv_sub hl [0, 1, 2] rfl)
      · have hw := hw2 hc
        clear hw1 hw2
        refine lv_aload_n hx hb dc_M_multiply_39 rfl (lv_at hl 0 rfl) ?_
        refine va_get (D := (dC, dI)) (ci := 2) (v := .ref pC) (C := "FourWordsModel") (T := tb_M) (N := 12) hx hb hts (hu _ um_M) hown hK hP 0 rfl rfl 5 (by decide) (hq mw_t465) (fun _ h9 => h9) rfl dc_M_multiply_40 ?_
        refine lv_iload hx hb dc_M_multiply_43 (lv_at hl 4 rfl) ?_
        obtain ⟨hin, hw⟩ := hw
        refine va_bald hx hb hK hP 6 3 rfl rfl hin dc_M_multiply_45 ?_
        refine lv_aload_n hx hb dc_M_multiply_46 rfl (lv_at hl 0 rfl) ?_
        refine va_get (D := (dC, dI)) (ci := 2) (v := .ref pA) (C := "FourWordsModel") (T := tb_M) (N := 12) hx hb hts (hu _ um_M) hown hK hP 0 rfl rfl 3 (by decide) (hq mw_t463) (fun _ h9 => h9) rfl dc_M_multiply_47 ?_
        refine lv_iload hx hb dc_M_multiply_50 (lv_at hl 4 rfl) ?_
        refine lv_iload_n hx hb dc_M_multiply_52 rfl (lv_at hl 2 rfl) ?_
        refine lv_isub hx hb dc_M_multiply_53 ?_
        obtain ⟨hin, hw⟩ := hw
        refine va_bald hx hb hK hP 4 3 rfl rfl hin dc_M_multiply_54 ?_
        refine lv_iadd hx hb dc_M_multiply_55 ?_
        refine lv_iload_n hx hb dc_M_multiply_56 rfl (lv_at hl 3 rfl) ?_
        refine lv_iadd hx hb dc_M_multiply_57 ?_
        refine lv_topi (fun v58 e58 => ?_)
        have hw := hw v58 e58
        refine lv_istore (lv' := [(5, .int v58), (0, .ref h1), (1, .int x1), (2, .int x2), (3, .int x3), (4, .int x4)]) hx hb dc_M_multiply_58 hl (Nat.le_of_ble_eq_true rfl) rfl (fun ls hl => ?_)
        refine lv_aload_n hx hb dc_M_multiply_60 rfl (lv_at hl 1 rfl) ?_
        refine va_get (D := (dC, dI)) (ci := 2) (v := .ref pC) (C := "FourWordsModel") (T := tb_M) (N := 12) hx hb hts (hu _ um_M) hown hK hP 0 rfl rfl 5 (by decide) (hq mw_t465) (fun _ h9 => h9) rfl dc_M_multiply_61 ?_
        refine lv_iload hx hb dc_M_multiply_64 (lv_at hl 5 rfl) ?_
        refine lv_iload hx hb dc_M_multiply_66 (lv_at hl 0 rfl) ?_
        refine lv_iconst (v := 1) hx hb dc_M_multiply_68 (by decide) ?_
        refine lv_iand hx hb dc_M_multiply_69 ?_
        refine lv_i2b hx hb dc_M_multiply_70 rfl ?_
        obtain ⟨hin, hw⟩ := hw
        refine va_bast hx hb hK hP hD hS 6 3 rfl rfl hin dc_M_multiply_71 (fun H locs hP hD hS => ?_)
        have hP : va_P (dC, dI) cs_3 (wd_M h1 pB pW pS pA pQ pC pR pT pD cJ cI cZ cB kb kw ks ka kq (upd kc x4.toNatClampNeg (vp_nar .byte ((v58 &&& (1 : Int32)).toInt8.toInt32))) kr kt kd many tsz thr) H := hP
        have hD : va_D A (wd_M h1 pB pW pS pA pQ pC pR pT pD cJ cI cZ cB kb kw ks ka kq (upd kc x4.toNatClampNeg (vp_nar .byte ((v58 &&& (1 : Int32)).toInt8.toInt32))) kr kt kd many tsz thr) := hD
        refine lv_iload hx hb dc_M_multiply_72 (lv_at hl 0 rfl) ?_
        refine lv_iconst (v := 1) hx hb dc_M_multiply_74 (by decide) ?_
        refine lv_ishr hx hb dc_M_multiply_75 ?_
        refine lv_topi (fun v76 e76 => ?_)
        have hw := hw v76 e76
        refine lv_istore_n (lv' := [(3, .int v76), (5, .int v58), (0, .ref h1), (1, .int x1), (2, .int x2), (4, .int x4)]) hx hb dc_M_multiply_76 rfl hl (Nat.le_of_ble_eq_true rfl) rfl (fun ls hl => ?_)
        refine lv_iinc (lv' := [(4, .int (x4 + 1)), (3, .int v76), (5, .int v58), (0, .ref h1), (1, .int x1), (2, .int x2)]) hx hb dc_M_multiply_77 hl (k := 5) rfl (ic_p1 _) (Nat.le_of_ble_eq_true rfl) rfl (fun ls hl => ?_)
        refine lv_goto (tgt := 33) hx hb dc_M_multiply_80 (by decide) ?_
        exact ih _ _ _ x1 x2 v76 (x4 + 1) kb kw ks ka kq (upd kc x4.toNatClampNeg (vp_nar .byte ((v58 &&& (1 : Int32)).toInt8.toInt32))) kr kt kd many tsz thr hw hP hD hS (lv_sub hl [3, 4, 5, 1, 0] rfl)
  have B_11 : ∀ (n11 : Nat) (H : Heap) (locs : List Loc) (ls : Array Slot) (x1 : Int32) (x2 : Int32) (kb : (Nat → Int32)) (kw : (Nat → Int32)) (ks : (Nat → Int32)) (ka : (Nat → Int32)) (kq : (Nat → Int32)) (kc : (Nat → Int32)) (kr : (Nat → Int32)) (kt : (Nat → Int32)) (kd : (Nat → Int32)) (many : Int32) (tsz : Int32) (thr : Int32), wp_M_multiply_11 post n11 x1 x2 kb kw ks ka kq kc kr kt kd many tsz thr → va_P (dC, dI) cs_3 (wd_M h1 pB pW pS pA pQ pC pR pT pD cJ cI cZ cB kb kw ks ka kq kc kr kt kd many tsz thr) H → va_D A (wd_M h1 pB pW pS pA pQ pC pR pT pD cJ cI cZ cB kb kw ks ka kq kc kr kt kd many tsz thr) → va_S A s.heap H locs → lv_has ls 6 [(0, .ref h1), (1, .int x1), (2, .int x2)] → W p l e (headSpec ws_M_multiply rm_M_multiply).room s m ([.ref h1, .int a1] : List Value).toArray below meth c H locs 0 0 (MQ below (qv_M dC dI cJ cI cZ cB h1 pB pW pS pA pQ pC pR pT pD post A) ([.ref h1, .int a1] : List Value).toArray s 0 0 A) (F0 m 11 ls []) := by
    intro n11
    induction n11 with
    | zero => intro H locs ls x1 x2 kb kw ks ka kq kc kr kt kd many tsz thr hw; exact False.elim hw
    | succ n11 ih =>
      intro H locs ls x1 x2 kb kw ks ka kq kc kr kt kd many tsz thr hw hP hD hS hl
      unfold wp_M_multiply_11 at hw
      refine lv_iload_n hx hb dc_M_multiply_11 rfl (lv_at hl 2 rfl) ?_
      refine lv_iload_n hx hb dc_M_multiply_12 rfl (lv_at hl 1 rfl) ?_
      obtain ⟨hw1, hw2⟩ := hw
      refine lv_icmp_ge (tgt := 89) hx hb dc_M_multiply_13 (by decide) (fun hc => ?_) (fun hc => ?_)
      · have hw := hw1 hc
        clear hw1 hw2
        exact W.vret hx hb hr (fun t ht hW => ⟨⟨(kb, kw, ks, ka, kq, kc, kr, kt, kd, many, tsz, thr), rfl, hw, by rw [ht]; exact hP, va_K.moved hW.alike hK, hD⟩, hS.F ht⟩) hS.2.2 dc_M_multiply_89
      · have hw := hw2 hc
        clear hw1 hw2
        refine lv_aload_n hx hb dc_M_multiply_16 rfl (lv_at hl 0 rfl) ?_
        refine va_get (D := (dC, dI)) (ci := 2) (v := .ref pQ) (C := "FourWordsModel") (T := tb_M) (N := 12) hx hb hts (hu _ um_M) hown hK hP 0 rfl rfl 4 (by decide) (hq mw_t464) (fun _ h9 => h9) rfl dc_M_multiply_17 ?_
        refine lv_iload_n hx hb dc_M_multiply_20 rfl (lv_at hl 2 rfl) ?_
        obtain ⟨hin, hw⟩ := hw
        refine va_bald hx hb hK hP 5 3 rfl rfl hin dc_M_multiply_21 ?_
        obtain ⟨hw1, hw2⟩ := hw
        refine lv_if_ne (tgt := 28) hx hb dc_M_multiply_22 (by decide) (fun hc => ?_) (fun hc => ?_)
        · have hw := hw1 hc
          clear hw1 hw2
          refine lv_iconst (v := 0) hx hb dc_M_multiply_28 (by decide) ?_
          refine lv_istore_n (lv' := [(3, .int (0 : Int32)), (0, .ref h1), (1, .int x1), (2, .int x2)]) hx hb dc_M_multiply_29 rfl hl (Nat.le_of_ble_eq_true rfl) rfl (fun ls hl => ?_)
          refine lv_iload_n hx hb dc_M_multiply_30 rfl (lv_at hl 3 rfl) ?_
          refine lv_istore (lv' := [(4, .int x2), (3, .int (0 : Int32)), (0, .ref h1), (1, .int x1), (2, .int x2)]) hx hb dc_M_multiply_31 hl (Nat.le_of_ble_eq_true rfl) rfl (fun ls hl => ?_)
          obtain ⟨n33, hw⟩ := hw
          exact B_33 (wp_M_multiply_11 post n11) ih n33 _ _ _ x1 x2 (0 : Int32) x2 kb kw ks ka kq kc kr kt kd many tsz thr hw hP hD hS (lv_sub hl [2, 3, 4, 1, 0] rfl)
        · have hw := hw2 (fun h9 => h9 hc)
          clear hw1 hw2
          refine lv_goto (tgt := 83) hx hb dc_M_multiply_25 (by decide) ?_
          exact B_83 (wp_M_multiply_11 post n11) ih _ _ _ x1 x2 kb kw ks ka kq kc kr kt kd many tsz thr hw hP hD hS (lv_sub hl [0, 1, 2] rfl)
  unfold wp_M_multiply at hw
  refine lv_aload_n hx hb dc_M_multiply_0 rfl (lv_at hl 0 rfl) ?_
  refine va_get (D := (dC, dI)) (ci := 2) (v := .ref pC) (C := "FourWordsModel") (T := tb_M) (N := 12) hx hb hts (hu _ um_M) hown hK hP 0 rfl rfl 5 (by decide) (hq mw_t465) (fun _ h9 => h9) rfl dc_M_multiply_1 ?_
  refine lv_iload_n hx hb dc_M_multiply_4 rfl (lv_at hl 1 rfl) ?_
  refine lv_iconst (v := 0) hx hb dc_M_multiply_5 (by decide) ?_
  refine gc_v (S := (Nat → Int32)) (w1 := (fun u => (wd_A pC cJ cI cZ cB u))) (wc := (wd_A pC cJ cI cZ cB kc)) (wr := ([(h1, .inr (2, [.ref pB, .ref pW, .ref pS, .ref pA, .ref pQ, .ref pC, .ref pR, .ref pT, .int many, .int tsz, .int thr, .ref pD])), (pB, .inl (cB, 4096, .inl kb)), (pW, .inl (cI, 64, .inl kw)), (pS, .inl (cZ, 64, .inl ks)), (pA, .inl (cB, 64, .inl ka)), (pQ, .inl (cB, 64, .inl kq)), (pR, .inl (cB, 65, .inl kr)), (pT, .inl (cB, 80, .inl kt)), (pD, .inl (cB, 24, .inl kd))] : va_W)) (va_runS (As := [.ref pC, .int a1, .int (0 : Int32)]) (rest := []) ⟨hx, hb, hml, hown, hts⟩ (kt_M_fill l dC dI cJ cI cZ cB pC _ a1 (0 : Int32) kc _ hw) ⟨callB_of 3 hts (gw_in mw_t538) rfl rfl rfl (hq mw_t3) (hq mw_t536) (by decide +kernel) ⟨Nat.le_of_ble_eq_true rfl, Nat.le_of_ble_eq_true rfl⟩, hq mw_t537⟩ (ps_W (hP.sub (ws' := (wd_A pC cJ cI cZ cB kc)) [6] rfl) hK (hD.sub (ws' := (wd_A pC cJ cI cZ cB kc)) [6] (by decide) rfl) hE) rfl rfl hl.1 rfl (lv_room (Nat.le_of_ble_eq_true rfl)) dc_M_multiply_6 ⟨Nat.le_of_ble_eq_true rfl, Nat.le_of_ble_eq_true rfl⟩) hP hD hS hA [6] [0, 1, 2, 3, 4, 5, 7, 8, 9] rfl rfl (by decide) (by decide) (fun u H locs hw hP hD hS => ?_)
  obtain ⟨kc6, rfl⟩ : ∃ z, z = u := ⟨_, rfl⟩
  have hP : va_P (dC, dI) cs_3 (wd_M h1 pB pW pS pA pQ pC pR pT pD cJ cI cZ cB kb kw ks ka kq kc6 kr kt kd many tsz thr) H := hP.sub (ws' := (wd_M h1 pB pW pS pA pQ pC pR pT pD cJ cI cZ cB kb kw ks ka kq kc6 kr kt kd many tsz thr)) [0, 1, 2, 3, 4, 5, 9, 6, 7, 8] rfl
  have hD : va_D A (wd_M h1 pB pW pS pA pQ pC pR pT pD cJ cI cZ cB kb kw ks ka kq kc6 kr kt kd many tsz thr) := hD.sub (ws' := (wd_M h1 pB pW pS pA pQ pC pR pT pD cJ cI cZ cB kb kw ks ka kq kc6 kr kt kd many tsz thr)) [0, 1, 2, 3, 4, 5, 9, 6, 7, 8] (by decide) rfl
  try dsimp only at hw
  refine lv_iconst (v := 0) hx hb dc_M_multiply_9 (by decide) ?_
  refine lv_istore_n (lv' := [(2, .int (0 : Int32)), (0, .ref h1), (1, .int a1)]) hx hb dc_M_multiply_10 rfl hl (Nat.le_of_ble_eq_true rfl) rfl (fun ls hl => ?_)
  obtain ⟨n11, hw⟩ := hw
  exact B_11 n11 _ _ _ a1 (0 : Int32) kb kw ks ka kq kc6 kr kt kd many tsz thr hw hP hD hS (lv_sub hl [1, 2, 0] rfl)

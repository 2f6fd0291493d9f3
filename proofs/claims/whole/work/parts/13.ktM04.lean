set_option maxHeartbeats 4000000 in
set_option maxRecDepth 100000 in
theorem kt_M_asked (l : Launch) (dC : Nat → ClassId) (dI : Nat → Nat → Nat) (cJ cI cZ cB : ClassId) (h1 pB pW pS pA pQ pC pR pT pD : Nat) (sz : Nat) (a1 : Int32) (a2 : Int32) (a3 : Int32) (kb : (Nat → Int32)) (kw : (Nat → Int32)) (ks : (Nat → Int32)) (ka : (Nat → Int32)) (kq : (Nat → Int32)) (kc : (Nat → Int32)) (kr : (Nat → Int32)) (kt : (Nat → Int32)) (kd : (Nat → Int32)) (many : Int32) (tsz : Int32) (thr : Int32) (post : Int32 → (Nat → Int32) → (Nat → Int32) → (Nat → Int32) → (Nat → Int32) → (Nat → Int32) → (Nat → Int32) → (Nat → Int32) → (Nat → Int32) → (Nat → Int32) → Int32 → Int32 → Int32 → Prop) (hw : wp_M_asked post a1 a2 a3 kb kw ks ka kq kc kr kt kd many tsz thr) : Met l yn_M_asked ws_M_asked rm_M_asked (va_Pc [.ref h1, .int a1, .int a2, .int a3] (pc_W (dC, dI) (ty_4 cJ cI cZ cB) (wd_M h1 pB pW pS pA pQ pC pR pT pD cJ cI cZ cB kb kw ks ka kq kc kr kt kd many tsz thr) sz)) (qi_M dC dI cJ cI cZ cB h1 pB pW pS pA pQ pC pR pT pD post (va_A (wd_M h1 pB pW pS pA pQ pC pR pT pD cJ cI cZ cB kb kw ks ka kq kc kr kt kd many tsz thr) sz)) 0 0 (va_A (wd_M h1 pB pW pS pA pQ pC pR pT pD cJ cI cZ cB kb kw ks ka kq kc kr kt kd many tsz thr) sz) := by
  refine Met.ofW (cc := cd_M_asked) (maxL := 5) (ret := (some .int)) (by decide) rfl ?_
  intro p e s m args below meth c s₁ B hml hv
  obtain ⟨rfl, hsz, hP, hK, hD0, hE⟩ := hv
  have hx := B.exec
  have hb := B.bytes
  have hr := B.returns
  have hts := atoms_spec (ws := ws_M_asked) B.pre
  have hq : ∀ {w : Cond}, w ∈ wg_all → w.before ([.ref h1, .int a1, .int a2, .int a3] : List Value).toArray s = true := fun h => hts _ (List.mem_cons_of_mem _ h)
  have hu : ∀ L : List Cond, (∀ w ∈ L, w ∈ wg_all) → ∀ w ∈ L, w ∈ ws_M_asked := fun L h w hw => List.mem_cons_of_mem _ (h w hw)
  have hown : s.vm.findClass "FourWordsModel" = some m.cls := findClass_of_methodNamed B.named
  have hlocks := B.notSynchronized
  subst hsz
  have hD := hD0.self (sz := s.heap.size)
  generalize hAe : va_A (wd_M h1 pB pW pS pA pQ pC pR pT pD cJ cI cZ cB kb kw ks ka kq kc kr kt kd many tsz thr) s.heap.size = A at hD ⊢
  have hA : ∀ q : Nat, s.heap.size ≤ q → A q := fun q h => by rw [← hAe]; exact Or.inr h
  have hS : va_S A s.heap s.heap [] := va_S.rf
  have hl := lv_entry [.ref h1, .int a1, .int a2, .int a3] (n := 5) (Nat.le_of_ble_eq_true rfl)
  rw [lg_entry_eq]
  generalize (lg_sl [.ref h1, .int a1, .int a2, .int a3] ++ List.replicate (5 - (lg_sl [.ref h1, .int a1, .int a2, .int a3]).length) Slot.unset).toArray = ls at hl ⊢
  have hl : lv_has ls 5 [(0, .ref h1), (1, .int a1), (2, .int a2), (3, .int a3)] := hl
  have B_197 : ∀ (H : Heap) (locs : List Loc) (ls : Array Slot) (t0 : Int32) (kb : (Nat → Int32)) (kw : (Nat → Int32)) (ks : (Nat → Int32)) (ka : (Nat → Int32)) (kq : (Nat → Int32)) (kc : (Nat → Int32)) (kr : (Nat → Int32)) (kt : (Nat → Int32)) (kd : (Nat → Int32)) (many : Int32) (tsz : Int32) (thr : Int32), wp_M_asked_197 post t0 kb kw ks ka kq kc kr kt kd many tsz thr → va_P (dC, dI) cs_3 (wd_M h1 pB pW pS pA pQ pC pR pT pD cJ cI cZ cB kb kw ks ka kq kc kr kt kd many tsz thr) H → va_D A (wd_M h1 pB pW pS pA pQ pC pR pT pD cJ cI cZ cB kb kw ks ka kq kc kr kt kd many tsz thr) → va_S A s.heap H locs → lv_has ls 5 [] → W p l e (headSpec ws_M_asked rm_M_asked).room s m ([.ref h1, .int a1, .int a2, .int a3] : List Value).toArray below meth c H locs 0 0 (MQ below (qi_M dC dI cJ cI cZ cB h1 pB pW pS pA pQ pC pR pT pD post A) ([.ref h1, .int a1, .int a2, .int a3] : List Value).toArray s 0 0 A) (F0 m 197 ls [.int t0]) := by
    intro H locs ls t0 kb kw ks ka kq kc kr kt kd many tsz thr hw hP hD hS hl
    unfold wp_M_asked_197 at hw
    exact W.iret (v := t0) hx hb hr (fun t ht hW => ⟨⟨t0, (kb, kw, ks, ka, kq, kc, kr, kt, kd, many, tsz, thr), rfl, hw, by rw [ht]; exact hP, va_K.moved hW.alike hK, hD⟩, hS.F ht⟩) hS.2.2 dc_M_asked_197
  have B_196 : ∀ (H : Heap) (locs : List Loc) (ls : Array Slot) (kb : (Nat → Int32)) (kw : (Nat → Int32)) (ks : (Nat → Int32)) (ka : (Nat → Int32)) (kq : (Nat → Int32)) (kc : (Nat → Int32)) (kr : (Nat → Int32)) (kt : (Nat → Int32)) (kd : (Nat → Int32)) (many : Int32) (tsz : Int32) (thr : Int32), wp_M_asked_196 post kb kw ks ka kq kc kr kt kd many tsz thr → va_P (dC, dI) cs_3 (wd_M h1 pB pW pS pA pQ pC pR pT pD cJ cI cZ cB kb kw ks ka kq kc kr kt kd many tsz thr) H → va_D A (wd_M h1 pB pW pS pA pQ pC pR pT pD cJ cI cZ cB kb kw ks ka kq kc kr kt kd many tsz thr) → va_S A s.heap H locs → lv_has ls 5 [] → W p l e (headSpec ws_M_asked rm_M_asked).room s m ([.ref h1, .int a1, .int a2, .int a3] : List Value).toArray below meth c H locs 0 0 (MQ below (qi_M dC dI cJ cI cZ cB h1 pB pW pS pA pQ pC pR pT pD post A) ([.ref h1, .int a1, .int a2, .int a3] : List Value).toArray s 0 0 A) (F0 m 196 ls []) := by
    intro H locs ls kb kw ks ka kq kc kr kt kd many tsz thr hw hP hD hS hl
    unfold wp_M_asked_196 at hw
    refine lv_iconst (v := 0) hx hb dc_M_asked_196 (by decide) ?_
    exact B_197 _ _ _ (0 : Int32) kb kw ks ka kq kc kr kt kd many tsz thr hw hP hD hS (lv_sub hl [] rfl)
  have B_192 : ∀ (H : Heap) (locs : List Loc) (ls : Array Slot) (kb : (Nat → Int32)) (kw : (Nat → Int32)) (ks : (Nat → Int32)) (ka : (Nat → Int32)) (kq : (Nat → Int32)) (kc : (Nat → Int32)) (kr : (Nat → Int32)) (kt : (Nat → Int32)) (kd : (Nat → Int32)) (many : Int32) (tsz : Int32) (thr : Int32), wp_M_asked_192 post kb kw ks ka kq kc kr kt kd many tsz thr → va_P (dC, dI) cs_3 (wd_M h1 pB pW pS pA pQ pC pR pT pD cJ cI cZ cB kb kw ks ka kq kc kr kt kd many tsz thr) H → va_D A (wd_M h1 pB pW pS pA pQ pC pR pT pD cJ cI cZ cB kb kw ks ka kq kc kr kt kd many tsz thr) → va_S A s.heap H locs → lv_has ls 5 [] → W p l e (headSpec ws_M_asked rm_M_asked).room s m ([.ref h1, .int a1, .int a2, .int a3] : List Value).toArray below meth c H locs 0 0 (MQ below (qi_M dC dI cJ cI cZ cB h1 pB pW pS pA pQ pC pR pT pD post A) ([.ref h1, .int a1, .int a2, .int a3] : List Value).toArray s 0 0 A) (F0 m 192 ls []) := by
    intro H locs ls kb kw ks ka kq kc kr kt kd many tsz thr hw hP hD hS hl
    unfold wp_M_asked_192 at hw
    refine lv_iconst (v := 1) hx hb dc_M_asked_192 (by decide) ?_
    refine lv_goto (tgt := 197) hx hb dc_M_asked_193 (by decide) ?_
    exact B_197 _ _ _ (1 : Int32) kb kw ks ka kq kc kr kt kd many tsz thr hw hP hD hS (lv_sub hl [] rfl)
  have B_135 : ∀ (H : Heap) (locs : List Loc) (ls : Array Slot) (kb : (Nat → Int32)) (kw : (Nat → Int32)) (ks : (Nat → Int32)) (ka : (Nat → Int32)) (kq : (Nat → Int32)) (kc : (Nat → Int32)) (kr : (Nat → Int32)) (kt : (Nat → Int32)) (kd : (Nat → Int32)) (many : Int32) (tsz : Int32) (thr : Int32), wp_M_asked_135 post kb kw ks ka kq kc kr kt kd many tsz thr → va_P (dC, dI) cs_3 (wd_M h1 pB pW pS pA pQ pC pR pT pD cJ cI cZ cB kb kw ks ka kq kc kr kt kd many tsz thr) H → va_D A (wd_M h1 pB pW pS pA pQ pC pR pT pD cJ cI cZ cB kb kw ks ka kq kc kr kt kd many tsz thr) → va_S A s.heap H locs → lv_has ls 5 [] → W p l e (headSpec ws_M_asked rm_M_asked).room s m ([.ref h1, .int a1, .int a2, .int a3] : List Value).toArray below meth c H locs 0 0 (MQ below (qi_M dC dI cJ cI cZ cB h1 pB pW pS pA pQ pC pR pT pD post A) ([.ref h1, .int a1, .int a2, .int a3] : List Value).toArray s 0 0 A) (F0 m 135 ls []) := by
    intro H locs ls kb kw ks ka kq kc kr kt kd many tsz thr hw hP hD hS hl
    unfold wp_M_asked_135 at hw
    refine lv_iconst (v := 3) hx hb dc_M_asked_135 (by decide) ?_
    exact W.iret (v := (3 : Int32)) hx hb hr (fun t ht hW => ⟨⟨(3 : Int32), (kb, kw, ks, ka, kq, kc, kr, kt, kd, many, tsz, thr), rfl, hw, by rw [ht]; exact hP, va_K.moved hW.alike hK, hD⟩, hS.F ht⟩) hS.2.2 dc_M_asked_136
  have B_93 : ∀ (H : Heap) (locs : List Loc) (ls : Array Slot) (x3 : Int32) (t0 : Int32) (kb : (Nat → Int32)) (kw : (Nat → Int32)) (ks : (Nat → Int32)) (ka : (Nat → Int32)) (kq : (Nat → Int32)) (kc : (Nat → Int32)) (kr : (Nat → Int32)) (kt : (Nat → Int32)) (kd : (Nat → Int32)) (many : Int32) (tsz : Int32) (thr : Int32), wp_M_asked_93 post x3 t0 kb kw ks ka kq kc kr kt kd many tsz thr → va_P (dC, dI) cs_3 (wd_M h1 pB pW pS pA pQ pC pR pT pD cJ cI cZ cB kb kw ks ka kq kc kr kt kd many tsz thr) H → va_D A (wd_M h1 pB pW pS pA pQ pC pR pT pD cJ cI cZ cB kb kw ks ka kq kc kr kt kd many tsz thr) → va_S A s.heap H locs → lv_has ls 5 [(0, .ref h1), (3, .int x3)] → W p l e (headSpec ws_M_asked rm_M_asked).room s m ([.ref h1, .int a1, .int a2, .int a3] : List Value).toArray below meth c H locs 0 0 (MQ below (qi_M dC dI cJ cI cZ cB h1 pB pW pS pA pQ pC pR pT pD post A) ([.ref h1, .int a1, .int a2, .int a3] : List Value).toArray s 0 0 A) (F0 m 93 ls [.int t0]) := by
    intro H locs ls x3 t0 kb kw ks ka kq kc kr kt kd many tsz thr hw hP hD hS hl
    unfold wp_M_asked_93 at hw
    refine lv_aload_n hx hb dc_M_asked_93 rfl (lv_at hl 0 rfl) ?_
    refine va_get (D := (dC, dI)) (ci := 2) (v := .ref pA) (C := "FourWordsModel") (T := tb_M) (N := 12) hx hb hts (hu _ um_M) hown hK hP 0 rfl rfl 3 (by decide) (hq mw_t463) (fun _ h9 => h9) rfl dc_M_asked_94 ?_
    refine lv_iload_n hx hb dc_M_asked_97 rfl (lv_at hl 1 rfl) ?_
    refine gc_i (S := (Nat → Int32)) (w1 := (fun u => (wd_A pA cJ cI cZ cB u))) (wc := (wd_A pA cJ cI cZ cB ka)) (wr := ([(h1, .inr (2, [.ref pB, .ref pW, .ref pS, .ref pA, .ref pQ, .ref pC, .ref pR, .ref pT, .int many, .int tsz, .int thr, .ref pD])), (pB, .inl (cB, 4096, .inl kb)), (pW, .inl (cI, 64, .inl kw)), (pS, .inl (cZ, 64, .inl ks)), (pQ, .inl (cB, 64, .inl kq)), (pC, .inl (cB, 64, .inl kc)), (pR, .inl (cB, 65, .inl kr)), (pT, .inl (cB, 80, .inl kt)), (pD, .inl (cB, 24, .inl kd))] : va_W)) (va_runS (As := [.ref pA, .int x3]) (rest := [.int t0]) ⟨hx, hb, hml, hown, hts⟩ (kt_M_truth l dC dI cJ cI cZ cB pA _ x3 ka _ hw) ⟨callB_of 2 hts (gw_in mw_t581) rfl rfl rfl (hq mw_t3) (hq mw_t579) (by decide +kernel) ⟨Nat.le_of_ble_eq_true rfl, Nat.le_of_ble_eq_true rfl⟩, hq mw_t580⟩ (ps_W (hP.sub (ws' := (wd_A pA cJ cI cZ cB ka)) [4] rfl) hK (hD.sub (ws' := (wd_A pA cJ cI cZ cB ka)) [4] (by decide) rfl) hE) rfl rfl hl.1 rfl (lv_room (Nat.le_of_ble_eq_true rfl)) dc_M_asked_98 ⟨Nat.le_of_ble_eq_true rfl, Nat.le_of_ble_eq_true rfl⟩) hP hD hS hA [4] [0, 1, 2, 3, 5, 6, 7, 8, 9] rfl rfl (by decide) (by decide) (fun r98 u H locs hw hP hD hS => ?_)
    obtain ⟨ka98, rfl⟩ : ∃ z, z = u := ⟨_, rfl⟩
    have hP : va_P (dC, dI) cs_3 (wd_M h1 pB pW pS pA pQ pC pR pT pD cJ cI cZ cB kb kw ks ka98 kq kc kr kt kd many tsz thr) H := hP.sub (ws' := (wd_M h1 pB pW pS pA pQ pC pR pT pD cJ cI cZ cB kb kw ks ka98 kq kc kr kt kd many tsz thr)) [0, 1, 2, 3, 9, 4, 5, 6, 7, 8] rfl
    have hD : va_D A (wd_M h1 pB pW pS pA pQ pC pR pT pD cJ cI cZ cB kb kw ks ka98 kq kc kr kt kd many tsz thr) := hD.sub (ws' := (wd_M h1 pB pW pS pA pQ pC pR pT pD cJ cI cZ cB kb kw ks ka98 kq kc kr kt kd many tsz thr)) [0, 1, 2, 3, 9, 4, 5, 6, 7, 8] (by decide) rfl
    try dsimp only at hw
    refine lv_aload_n hx hb dc_M_asked_101 rfl (lv_at hl 0 rfl) ?_
    refine va_get (D := (dC, dI)) (ci := 2) (v := .ref pQ) (C := "FourWordsModel") (T := tb_M) (N := 12) hx hb hts (hu _ um_M) hown hK hP 0 rfl rfl 4 (by decide) (hq mw_t464) (fun _ h9 => h9) rfl dc_M_asked_102 ?_
    refine lv_iload_n hx hb dc_M_asked_105 rfl (lv_at hl 1 rfl) ?_
    refine gc_i (S := (Nat → Int32)) (w1 := (fun u => (wd_A pQ cJ cI cZ cB u))) (wc := (wd_A pQ cJ cI cZ cB kq)) (wr := ([(h1, .inr (2, [.ref pB, .ref pW, .ref pS, .ref pA, .ref pQ, .ref pC, .ref pR, .ref pT, .int many, .int tsz, .int thr, .ref pD])), (pB, .inl (cB, 4096, .inl kb)), (pW, .inl (cI, 64, .inl kw)), (pS, .inl (cZ, 64, .inl ks)), (pA, .inl (cB, 64, .inl ka98)), (pC, .inl (cB, 64, .inl kc)), (pR, .inl (cB, 65, .inl kr)), (pT, .inl (cB, 80, .inl kt)), (pD, .inl (cB, 24, .inl kd))] : va_W)) (va_runS (As := [.ref pQ, .int x3]) (rest := [.int r98, .int t0]) ⟨hx, hb, hml, hown, hts⟩ (kt_M_truth l dC dI cJ cI cZ cB pQ _ x3 kq _ hw) ⟨callB_of 2 hts (gw_in mw_t581) rfl rfl rfl (hq mw_t3) (hq mw_t579) (by decide +kernel) ⟨Nat.le_of_ble_eq_true rfl, Nat.le_of_ble_eq_true rfl⟩, hq mw_t580⟩ (ps_W (hP.sub (ws' := (wd_A pQ cJ cI cZ cB kq)) [5] rfl) hK (hD.sub (ws' := (wd_A pQ cJ cI cZ cB kq)) [5] (by decide) rfl) hE) rfl rfl hl.1 rfl (lv_room (Nat.le_of_ble_eq_true rfl)) dc_M_asked_106 ⟨Nat.le_of_ble_eq_true rfl, Nat.le_of_ble_eq_true rfl⟩) hP hD hS hA [5] [0, 1, 2, 3, 4, 6, 7, 8, 9] rfl rfl (by decide) (by decide) (fun r106 u H locs hw hP hD hS => ?_)
    obtain ⟨kq106, rfl⟩ : ∃ z, z = u := ⟨_, rfl⟩
    have hP : va_P (dC, dI) cs_3 (wd_M h1 pB pW pS pA pQ pC pR pT pD cJ cI cZ cB kb kw ks ka98 kq106 kc kr kt kd many tsz thr) H := hP.sub (ws' := (wd_M h1 pB pW pS pA pQ pC pR pT pD cJ cI cZ cB kb kw ks ka98 kq106 kc kr kt kd many tsz thr)) [0, 1, 2, 3, 4, 9, 5, 6, 7, 8] rfl
    have hD : va_D A (wd_M h1 pB pW pS pA pQ pC pR pT pD cJ cI cZ cB kb kw ks ka98 kq106 kc kr kt kd many tsz thr) := hD.sub (ws' := (wd_M h1 pB pW pS pA pQ pC pR pT pD cJ cI cZ cB kb kw ks ka98 kq106 kc kr kt kd many tsz thr)) [0, 1, 2, 3, 4, 9, 5, 6, 7, 8] (by decide) rfl
    try dsimp only at hw
    refine gc_i (S := Unit) (w1 := (fun u => ([] : va_W))) (wc := ([] : va_W)) (wr := ([(h1, .inr (2, [.ref pB, .ref pW, .ref pS, .ref pA, .ref pQ, .ref pC, .ref pR, .ref pT, .int many, .int tsz, .int thr, .ref pD])), (pB, .inl (cB, 4096, .inl kb)), (pW, .inl (cI, 64, .inl kw)), (pS, .inl (cZ, 64, .inl ks)), (pA, .inl (cB, 64, .inl ka98)), (pQ, .inl (cB, 64, .inl kq106)), (pC, .inl (cB, 64, .inl kc)), (pR, .inl (cB, 65, .inl kr)), (pT, .inl (cB, 80, .inl kt)), (pD, .inl (cB, 24, .inl kd))] : va_W)) (va_runS (As := [.int t0, .int r98, .int r106]) (rest := []) ⟨hx, hb, hml, hown, hts⟩ (kt_M_logic l dC dI cJ cI cZ cB _ t0 r98 r106 _ hw) ⟨callB_of 3 hts (gw_in mw_t563) rfl rfl rfl (hq mw_t3) (hq mw_t561) (by decide +kernel) ⟨Nat.le_of_ble_eq_true rfl, Nat.le_of_ble_eq_true rfl⟩, hq mw_t562⟩ (ps_W (hP.sub (ws' := ([] : va_W)) [] rfl) hK (hD.sub (ws' := ([] : va_W)) [] (by decide) rfl) hE) rfl rfl hl.1 rfl (lv_room (Nat.le_of_ble_eq_true rfl)) dc_M_asked_109 ⟨Nat.le_of_ble_eq_true rfl, Nat.le_of_ble_eq_true rfl⟩) hP hD hS hA [] [0, 1, 2, 3, 4, 5, 6, 7, 8, 9] rfl rfl (by decide) (by decide) (fun r109 u H locs hw hP hD hS => ?_)
    have hP : va_P (dC, dI) cs_3 (wd_M h1 pB pW pS pA pQ pC pR pT pD cJ cI cZ cB kb kw ks ka98 kq106 kc kr kt kd many tsz thr) H := hP.sub (ws' := (wd_M h1 pB pW pS pA pQ pC pR pT pD cJ cI cZ cB kb kw ks ka98 kq106 kc kr kt kd many tsz thr)) [0, 1, 2, 3, 4, 5, 6, 7, 8, 9] rfl
    have hD : va_D A (wd_M h1 pB pW pS pA pQ pC pR pT pD cJ cI cZ cB kb kw ks ka98 kq106 kc kr kt kd many tsz thr) := hD.sub (ws' := (wd_M h1 pB pW pS pA pQ pC pR pT pD cJ cI cZ cB kb kw ks ka98 kq106 kc kr kt kd many tsz thr)) [0, 1, 2, 3, 4, 5, 6, 7, 8, 9] (by decide) rfl
    try dsimp only at hw
    exact W.iret (v := r109) hx hb hr (fun t ht hW => ⟨⟨r109, (kb, kw, ks, ka98, kq106, kc, kr, kt, kd, many, tsz, thr), rfl, hw, by rw [ht]; exact hP, va_K.moved hW.alike hK, hD⟩, hS.F ht⟩) hS.2.2 dc_M_asked_112
  have B_74 : ∀ (H : Heap) (locs : List Loc) (ls : Array Slot) (t0 : Int32) (kb : (Nat → Int32)) (kw : (Nat → Int32)) (ks : (Nat → Int32)) (ka : (Nat → Int32)) (kq : (Nat → Int32)) (kc : (Nat → Int32)) (kr : (Nat → Int32)) (kt : (Nat → Int32)) (kd : (Nat → Int32)) (many : Int32) (tsz : Int32) (thr : Int32), wp_M_asked_74 post t0 kb kw ks ka kq kc kr kt kd many tsz thr → va_P (dC, dI) cs_3 (wd_M h1 pB pW pS pA pQ pC pR pT pD cJ cI cZ cB kb kw ks ka kq kc kr kt kd many tsz thr) H → va_D A (wd_M h1 pB pW pS pA pQ pC pR pT pD cJ cI cZ cB kb kw ks ka kq kc kr kt kd many tsz thr) → va_S A s.heap H locs → lv_has ls 5 [] → W p l e (headSpec ws_M_asked rm_M_asked).room s m ([.ref h1, .int a1, .int a2, .int a3] : List Value).toArray below meth c H locs 0 0 (MQ below (qi_M dC dI cJ cI cZ cB h1 pB pW pS pA pQ pC pR pT pD post A) ([.ref h1, .int a1, .int a2, .int a3] : List Value).toArray s 0 0 A) (F0 m 74 ls [.int t0]) := by
    intro H locs ls t0 kb kw ks ka kq kc kr kt kd many tsz thr hw hP hD hS hl
    unfold wp_M_asked_74 at hw
    exact W.iret (v := t0) hx hb hr (fun t ht hW => ⟨⟨t0, (kb, kw, ks, ka, kq, kc, kr, kt, kd, many, tsz, thr), rfl, hw, by rw [ht]; exact hP, va_K.moved hW.alike hK, hD⟩, hS.F ht⟩) hS.2.2 dc_M_asked_74
  have B_60 : ∀ (H : Heap) (locs : List Loc) (ls : Array Slot) (t0 : Int32) (kb : (Nat → Int32)) (kw : (Nat → Int32)) (ks : (Nat → Int32)) (ka : (Nat → Int32)) (kq : (Nat → Int32)) (kc : (Nat → Int32)) (kr : (Nat → Int32)) (kt : (Nat → Int32)) (kd : (Nat → Int32)) (many : Int32) (tsz : Int32) (thr : Int32), wp_M_asked_60 post t0 kb kw ks ka kq kc kr kt kd many tsz thr → va_P (dC, dI) cs_3 (wd_M h1 pB pW pS pA pQ pC pR pT pD cJ cI cZ cB kb kw ks ka kq kc kr kt kd many tsz thr) H → va_D A (wd_M h1 pB pW pS pA pQ pC pR pT pD cJ cI cZ cB kb kw ks ka kq kc kr kt kd many tsz thr) → va_S A s.heap H locs → lv_has ls 5 [] → W p l e (headSpec ws_M_asked rm_M_asked).room s m ([.ref h1, .int a1, .int a2, .int a3] : List Value).toArray below meth c H locs 0 0 (MQ below (qi_M dC dI cJ cI cZ cB h1 pB pW pS pA pQ pC pR pT pD post A) ([.ref h1, .int a1, .int a2, .int a3] : List Value).toArray s 0 0 A) (F0 m 60 ls [.int t0]) := by
    intro H locs ls t0 kb kw ks ka kq kc kr kt kd many tsz thr hw hP hD hS hl
    unfold wp_M_asked_60 at hw
    exact W.iret (v := t0) hx hb hr (fun t ht hW => ⟨⟨t0, (kb, kw, ks, ka, kq, kc, kr, kt, kd, many, tsz, thr), rfl, hw, by rw [ht]; exact hP, va_K.moved hW.alike hK, hD⟩, hS.F ht⟩) hS.2.2 dc_M_asked_60
  unfold wp_M_asked at hw
  refine lv_iload_n hx hb dc_M_asked_0 rfl (lv_at hl 1 rfl) ?_
  obtain ⟨hs0, hs1, hs2, hs3, hs4⟩ := hw
  by_cases hc : a1.toInt < 9 ∨ 12 < a1.toInt
  · have hw := hs0 hc
    refine lv_tableOut (tgt := 75) hx hb dc_M_asked_1 hc (by decide) ?_
    refine lv_iload_n hx hb dc_M_asked_75 rfl (lv_at hl 1 rfl) ?_
    refine lv_bipush (v := 16) hx hb dc_M_asked_76 (by decide) ?_
    obtain ⟨hw1, hw2⟩ := hw
    refine lv_icmp_le (tgt := 113) hx hb dc_M_asked_78 (by decide) (fun hc => ?_) (fun hc => ?_)
    · have hw := hw1 hc
      clear hw1 hw2
      refine lv_aload_n hx hb dc_M_asked_113 rfl (lv_at hl 0 rfl) ?_
      refine va_get (D := (dC, dI)) (ci := 2) (v := .ref pA) (C := "FourWordsModel") (T := tb_M) (N := 12) hx hb hts (hu _ um_M) hown hK hP 0 rfl rfl 3 (by decide) (hq mw_t463) (fun _ h9 => h9) rfl dc_M_asked_114 ?_
      refine lv_iload_n hx hb dc_M_asked_117 rfl (lv_at hl 3 rfl) ?_
      refine gc_i (S := (Nat → Int32)) (w1 := (fun u => (wd_A pA cJ cI cZ cB u))) (wc := (wd_A pA cJ cI cZ cB ka)) (wr := ([(h1, .inr (2, [.ref pB, .ref pW, .ref pS, .ref pA, .ref pQ, .ref pC, .ref pR, .ref pT, .int many, .int tsz, .int thr, .ref pD])), (pB, .inl (cB, 4096, .inl kb)), (pW, .inl (cI, 64, .inl kw)), (pS, .inl (cZ, 64, .inl ks)), (pQ, .inl (cB, 64, .inl kq)), (pC, .inl (cB, 64, .inl kc)), (pR, .inl (cB, 65, .inl kr)), (pT, .inl (cB, 80, .inl kt)), (pD, .inl (cB, 24, .inl kd))] : va_W)) (va_runS (As := [.ref pA, .int a3]) (rest := []) ⟨hx, hb, hml, hown, hts⟩ (kt_M_dark l dC dI cJ cI cZ cB pA _ a3 ka _ hw) ⟨callB_of 2 hts (gw_in mw_t532) rfl rfl rfl (hq mw_t3) (hq mw_t530) (by decide +kernel) ⟨Nat.le_of_ble_eq_true rfl, Nat.le_of_ble_eq_true rfl⟩, hq mw_t531⟩ (ps_W (hP.sub (ws' := (wd_A pA cJ cI cZ cB ka)) [4] rfl) hK (hD.sub (ws' := (wd_A pA cJ cI cZ cB ka)) [4] (by decide) rfl) hE) rfl rfl hl.1 rfl (lv_room (Nat.le_of_ble_eq_true rfl)) dc_M_asked_118 ⟨Nat.le_of_ble_eq_true rfl, Nat.le_of_ble_eq_true rfl⟩) hP hD hS hA [4] [0, 1, 2, 3, 5, 6, 7, 8, 9] rfl rfl (by decide) (by decide) (fun r118 u H locs hw hP hD hS => ?_)
      obtain ⟨ka118, rfl⟩ : ∃ z, z = u := ⟨_, rfl⟩
      have hP : va_P (dC, dI) cs_3 (wd_M h1 pB pW pS pA pQ pC pR pT pD cJ cI cZ cB kb kw ks ka118 kq kc kr kt kd many tsz thr) H := hP.sub (ws' := (wd_M h1 pB pW pS pA pQ pC pR pT pD cJ cI cZ cB kb kw ks ka118 kq kc kr kt kd many tsz thr)) [0, 1, 2, 3, 9, 4, 5, 6, 7, 8] rfl
      have hD : va_D A (wd_M h1 pB pW pS pA pQ pC pR pT pD cJ cI cZ cB kb kw ks ka118 kq kc kr kt kd many tsz thr) := hD.sub (ws' := (wd_M h1 pB pW pS pA pQ pC pR pT pD cJ cI cZ cB kb kw ks ka118 kq kc kr kt kd many tsz thr)) [0, 1, 2, 3, 9, 4, 5, 6, 7, 8] (by decide) rfl
      try dsimp only at hw
      obtain ⟨hw1, hw2⟩ := hw
      refine lv_if_ne (tgt := 135) hx hb dc_M_asked_121 (by decide) (fun hc => ?_) (fun hc => ?_)
      · have hw := hw1 hc
        clear hw1 hw2
        exact B_135 _ _ _ kb kw ks ka118 kq kc kr kt kd many tsz thr hw hP hD hS (lv_sub hl [] rfl)
      · have hw := hw2 (fun h9 => h9 hc)
        clear hw1 hw2
        refine lv_aload_n hx hb dc_M_asked_124 rfl (lv_at hl 0 rfl) ?_
        refine va_get (D := (dC, dI)) (ci := 2) (v := .ref pQ) (C := "FourWordsModel") (T := tb_M) (N := 12) hx hb hts (hu _ um_M) hown hK hP 0 rfl rfl 4 (by decide) (hq mw_t464) (fun _ h9 => h9) rfl dc_M_asked_125 ?_
        refine lv_iload_n hx hb dc_M_asked_128 rfl (lv_at hl 3 rfl) ?_
        refine gc_i (S := (Nat → Int32)) (w1 := (fun u => (wd_A pQ cJ cI cZ cB u))) (wc := (wd_A pQ cJ cI cZ cB kq)) (wr := ([(h1, .inr (2, [.ref pB, .ref pW, .ref pS, .ref pA, .ref pQ, .ref pC, .ref pR, .ref pT, .int many, .int tsz, .int thr, .ref pD])), (pB, .inl (cB, 4096, .inl kb)), (pW, .inl (cI, 64, .inl kw)), (pS, .inl (cZ, 64, .inl ks)), (pA, .inl (cB, 64, .inl ka118)), (pC, .inl (cB, 64, .inl kc)), (pR, .inl (cB, 65, .inl kr)), (pT, .inl (cB, 80, .inl kt)), (pD, .inl (cB, 24, .inl kd))] : va_W)) (va_runS (As := [.ref pQ, .int a3]) (rest := []) ⟨hx, hb, hml, hown, hts⟩ (kt_M_dark l dC dI cJ cI cZ cB pQ _ a3 kq _ hw) ⟨callB_of 2 hts (gw_in mw_t532) rfl rfl rfl (hq mw_t3) (hq mw_t530) (by decide +kernel) ⟨Nat.le_of_ble_eq_true rfl, Nat.le_of_ble_eq_true rfl⟩, hq mw_t531⟩ (ps_W (hP.sub (ws' := (wd_A pQ cJ cI cZ cB kq)) [5] rfl) hK (hD.sub (ws' := (wd_A pQ cJ cI cZ cB kq)) [5] (by decide) rfl) hE) rfl rfl hl.1 rfl (lv_room (Nat.le_of_ble_eq_true rfl)) dc_M_asked_129 ⟨Nat.le_of_ble_eq_true rfl, Nat.le_of_ble_eq_true rfl⟩) hP hD hS hA [5] [0, 1, 2, 3, 4, 6, 7, 8, 9] rfl rfl (by decide) (by decide) (fun r129 u H locs hw hP hD hS => ?_)
        obtain ⟨kq129, rfl⟩ : ∃ z, z = u := ⟨_, rfl⟩
        have hP : va_P (dC, dI) cs_3 (wd_M h1 pB pW pS pA pQ pC pR pT pD cJ cI cZ cB kb kw ks ka118 kq129 kc kr kt kd many tsz thr) H := hP.sub (ws' := (wd_M h1 pB pW pS pA pQ pC pR pT pD cJ cI cZ cB kb kw ks ka118 kq129 kc kr kt kd many tsz thr)) [0, 1, 2, 3, 4, 9, 5, 6, 7, 8] rfl
        have hD : va_D A (wd_M h1 pB pW pS pA pQ pC pR pT pD cJ cI cZ cB kb kw ks ka118 kq129 kc kr kt kd many tsz thr) := hD.sub (ws' := (wd_M h1 pB pW pS pA pQ pC pR pT pD cJ cI cZ cB kb kw ks ka118 kq129 kc kr kt kd many tsz thr)) [0, 1, 2, 3, 4, 9, 5, 6, 7, 8] (by decide) rfl
        try dsimp only at hw
        obtain ⟨hw1, hw2⟩ := hw
        refine lv_if_eq (tgt := 137) hx hb dc_M_asked_132 (by decide) (fun hc => ?_) (fun hc => ?_)
        · have hw := hw1 hc
          clear hw1 hw2
          refine lv_aload_n hx hb dc_M_asked_137 rfl (lv_at hl 0 rfl) ?_
          refine lv_iload_n hx hb dc_M_asked_138 rfl (lv_at hl 2 rfl) ?_
          refine lv_iload_n hx hb dc_M_asked_139 rfl (lv_at hl 3 rfl) ?_
          refine gc_i (S := (Nat → Int32) × (Nat → Int32) × (Nat → Int32) × (Nat → Int32) × (Nat → Int32) × (Nat → Int32) × (Nat → Int32) × (Nat → Int32) × (Nat → Int32) × Int32 × Int32 × Int32) (w1 := (fun u => (wd_M h1 pB pW pS pA pQ pC pR pT pD cJ cI cZ cB u.1 u.2.1 u.2.2.1 u.2.2.2.1 u.2.2.2.2.1 u.2.2.2.2.2.1 u.2.2.2.2.2.2.1 u.2.2.2.2.2.2.2.1 u.2.2.2.2.2.2.2.2.1 u.2.2.2.2.2.2.2.2.2.1 u.2.2.2.2.2.2.2.2.2.2.1 u.2.2.2.2.2.2.2.2.2.2.2))) (wc := (wd_M h1 pB pW pS pA pQ pC pR pT pD cJ cI cZ cB kb kw ks ka118 kq129 kc kr kt kd many tsz thr)) (wr := ([] : va_W)) (va_runV (As := [.int a2, .int a3]) (rest := []) ⟨hx, hb, hml, hown, hts⟩ (kt_M_order l dC dI cJ cI cZ cB h1 pB pW pS pA pQ pC pR pT pD _ a2 a3 kb kw ks ka118 kq129 kc kr kt kd many tsz thr _ hw) ⟨callB_of 2 hts (gw_in mw_t585) rfl rfl rfl (hq mw_t3) (hq mw_t582) (by decide +kernel) ⟨Nat.le_of_ble_eq_true rfl, Nat.le_of_ble_eq_true rfl⟩, hq mw_t584, hq mw_s46⟩ (pv_W (va_recv (q0 := 0) (ci := 2) hK hP rfl rfl) (hP.sub (ws' := (wd_M h1 pB pW pS pA pQ pC pR pT pD cJ cI cZ cB kb kw ks ka118 kq129 kc kr kt kd many tsz thr)) [0, 1, 2, 3, 4, 5, 6, 7, 8, 9] rfl) hK (hD.sub (ws' := (wd_M h1 pB pW pS pA pQ pC pR pT pD cJ cI cZ cB kb kw ks ka118 kq129 kc kr kt kd many tsz thr)) [0, 1, 2, 3, 4, 5, 6, 7, 8, 9] (by decide) rfl) hE) rfl rfl hl.1 rfl (lv_room (Nat.le_of_ble_eq_true rfl)) dc_M_asked_140 ⟨Nat.le_of_ble_eq_true rfl, Nat.le_of_ble_eq_true rfl⟩) hP hD hS hA [0, 1, 2, 3, 4, 5, 6, 7, 8, 9] [] rfl rfl (by decide) (by decide) (fun r140 u H locs hw hP hD hS => ?_)
          obtain ⟨kb140, kw140, ks140, ka140, kq140, kc140, kr140, kt140, kd140, many140, tsz140, thr140⟩ := u
          have hP : va_P (dC, dI) cs_3 (wd_M h1 pB pW pS pA pQ pC pR pT pD cJ cI cZ cB kb140 kw140 ks140 ka140 kq140 kc140 kr140 kt140 kd140 many140 tsz140 thr140) H := hP.sub (ws' := (wd_M h1 pB pW pS pA pQ pC pR pT pD cJ cI cZ cB kb140 kw140 ks140 ka140 kq140 kc140 kr140 kt140 kd140 many140 tsz140 thr140)) [0, 1, 2, 3, 4, 5, 6, 7, 8, 9] rfl
          have hD : va_D A (wd_M h1 pB pW pS pA pQ pC pR pT pD cJ cI cZ cB kb140 kw140 ks140 ka140 kq140 kc140 kr140 kt140 kd140 many140 tsz140 thr140) := hD.sub (ws' := (wd_M h1 pB pW pS pA pQ pC pR pT pD cJ cI cZ cB kb140 kw140 ks140 ka140 kq140 kc140 kr140 kt140 kd140 many140 tsz140 thr140)) [0, 1, 2, 3, 4, 5, 6, 7, 8, 9] (by decide) rfl
          try dsimp only at hw
          refine lv_istore (lv' := [(4, .int r140), (0, .ref h1), (1, .int a1), (2, .int a2), (3, .int a3)]) hx hb dc_M_asked_143 hl (Nat.le_of_ble_eq_true rfl) rfl (fun ls hl => ?_)
          refine lv_iload_n hx hb dc_M_asked_145 rfl (lv_at hl 2 rfl) ?_
          refine lv_bipush (v := 13) hx hb dc_M_asked_146 (by decide) ?_
          obtain ⟨hw1, hw2⟩ := hw
          refine lv_icmp_ne (tgt := 159) hx hb dc_M_asked_148 (by decide) (fun hc => ?_) (fun hc => ?_)
          · have hw := hw1 hc
            clear hw1 hw2
            refine lv_iload_n hx hb dc_M_asked_159 rfl (lv_at hl 2 rfl) ?_
            refine lv_bipush (v := 14) hx hb dc_M_asked_160 (by decide) ?_
            obtain ⟨hw1, hw2⟩ := hw
            refine lv_icmp_ne (tgt := 173) hx hb dc_M_asked_162 (by decide) (fun hc => ?_) (fun hc => ?_)
            · have hw := hw1 hc
              clear hw1 hw2
              refine lv_iload_n hx hb dc_M_asked_173 rfl (lv_at hl 2 rfl) ?_
              refine lv_bipush (v := 15) hx hb dc_M_asked_174 (by decide) ?_
              obtain ⟨hw1, hw2⟩ := hw
              refine lv_icmp_ne (tgt := 187) hx hb dc_M_asked_176 (by decide) (fun hc => ?_) (fun hc => ?_)
              · have hw := hw1 hc
                clear hw1 hw2
                refine lv_iload hx hb dc_M_asked_187 (lv_at hl 0 rfl) ?_
                obtain ⟨hw1, hw2⟩ := hw
                refine lv_if_lt (tgt := 196) hx hb dc_M_asked_189 (by decide) (fun hc => ?_) (fun hc => ?_)
                · have hw := hw1 hc
                  clear hw1 hw2
                  exact B_196 _ _ _ kb140 kw140 ks140 ka140 kq140 kc140 kr140 kt140 kd140 many140 tsz140 thr140 hw hP hD hS (lv_sub hl [] rfl)
                · have hw := hw2 hc
                  clear hw1 hw2
                  exact B_192 _ _ _ kb140 kw140 ks140 ka140 kq140 kc140 kr140 kt140 kd140 many140 tsz140 thr140 hw hP hD hS (lv_sub hl [] rfl)
              · have hw := hw2 (fun h9 => h9 hc)
                clear hw1 hw2
                refine lv_iload hx hb dc_M_asked_179 (lv_at hl 0 rfl) ?_
                obtain ⟨hw1, hw2⟩ := hw
                refine lv_if_le (tgt := 196) hx hb dc_M_asked_181 (by decide) (fun hc => ?_) (fun hc => ?_)
                · have hw := hw1 hc
                  clear hw1 hw2
                  exact B_196 _ _ _ kb140 kw140 ks140 ka140 kq140 kc140 kr140 kt140 kd140 many140 tsz140 thr140 hw hP hD hS (lv_sub hl [] rfl)
                · have hw := hw2 hc
                  clear hw1 hw2
                  refine lv_goto (tgt := 192) hx hb dc_M_asked_184 (by decide) ?_
                  exact B_192 _ _ _ kb140 kw140 ks140 ka140 kq140 kc140 kr140 kt140 kd140 many140 tsz140 thr140 hw hP hD hS (lv_sub hl [] rfl)
            · have hw := hw2 (fun h9 => h9 hc)
              clear hw1 hw2
              refine lv_iload hx hb dc_M_asked_165 (lv_at hl 0 rfl) ?_
              obtain ⟨hw1, hw2⟩ := hw
              refine lv_if_gt (tgt := 196) hx hb dc_M_asked_167 (by decide) (fun hc => ?_) (fun hc => ?_)
              · have hw := hw1 hc
                clear hw1 hw2
                exact B_196 _ _ _ kb140 kw140 ks140 ka140 kq140 kc140 kr140 kt140 kd140 many140 tsz140 thr140 hw hP hD hS (lv_sub hl [] rfl)
              · have hw := hw2 hc
                clear hw1 hw2
                refine lv_goto (tgt := 192) hx hb dc_M_asked_170 (by decide) ?_
                exact B_192 _ _ _ kb140 kw140 ks140 ka140 kq140 kc140 kr140 kt140 kd140 many140 tsz140 thr140 hw hP hD hS (lv_sub hl [] rfl)
          · have hw := hw2 (fun h9 => h9 hc)
            clear hw1 hw2
            refine lv_iload hx hb dc_M_asked_151 (lv_at hl 0 rfl) ?_
            obtain ⟨hw1, hw2⟩ := hw
            refine lv_if_ge (tgt := 196) hx hb dc_M_asked_153 (by decide) (fun hc => ?_) (fun hc => ?_)
            · have hw := hw1 hc
              clear hw1 hw2
              exact B_196 _ _ _ kb140 kw140 ks140 ka140 kq140 kc140 kr140 kt140 kd140 many140 tsz140 thr140 hw hP hD hS (lv_sub hl [] rfl)
            · have hw := hw2 hc
              clear hw1 hw2
              refine lv_goto (tgt := 192) hx hb dc_M_asked_156 (by decide) ?_
              exact B_192 _ _ _ kb140 kw140 ks140 ka140 kq140 kc140 kr140 kt140 kd140 many140 tsz140 thr140 hw hP hD hS (lv_sub hl [] rfl)
        · have hw := hw2 hc
          clear hw1 hw2
          exact B_135 _ _ _ kb kw ks ka118 kq129 kc kr kt kd many tsz thr hw hP hD hS (lv_sub hl [] rfl)
    · have hw := hw2 hc
      clear hw1 hw2
      refine lv_iload_n hx hb dc_M_asked_81 rfl (lv_at hl 1 rfl) ?_
      refine lv_bipush (v := 17) hx hb dc_M_asked_82 (by decide) ?_
      obtain ⟨hw1, hw2⟩ := hw
      refine lv_icmp_ne (tgt := 91) hx hb dc_M_asked_84 (by decide) (fun hc => ?_) (fun hc => ?_)
      · have hw := hw1 hc
        clear hw1 hw2
        refine lv_bipush (v := 6) hx hb dc_M_asked_91 (by decide) ?_
        exact B_93 _ _ _ a3 (6 : Int32) kb kw ks ka kq kc kr kt kd many tsz thr hw hP hD hS (lv_sub hl [0, 3] rfl)
      · have hw := hw2 (fun h9 => h9 hc)
        clear hw1 hw2
        refine lv_iconst (v := 5) hx hb dc_M_asked_87 (by decide) ?_
        refine lv_goto (tgt := 93) hx hb dc_M_asked_88 (by decide) ?_
        exact B_93 _ _ _ a3 (5 : Int32) kb kw ks ka kq kc kr kt kd many tsz thr hw hP hD hS (lv_sub hl [0, 3] rfl)
  by_cases hk9 : a1.toInt = 9
  · have hw := hs1 hk9
    refine lv_tableIn (tgt := 32) (off := 31) hx hb dc_M_asked_1 (by rw [hk9]; decide) (by rw [hk9]; decide) (by rw [hk9]; rfl) (by decide) ?_
    refine lv_aload_n hx hb dc_M_asked_32 rfl (lv_at hl 0 rfl) ?_
    refine lv_iload_n hx hb dc_M_asked_33 rfl (lv_at hl 3 rfl) ?_
    refine gc_i (S := (Nat → Int32) × (Nat → Int32) × (Nat → Int32) × (Nat → Int32) × (Nat → Int32) × (Nat → Int32) × (Nat → Int32) × (Nat → Int32) × (Nat → Int32) × Int32 × Int32 × Int32) (w1 := (fun u => (wd_M h1 pB pW pS pA pQ pC pR pT pD cJ cI cZ cB u.1 u.2.1 u.2.2.1 u.2.2.2.1 u.2.2.2.2.1 u.2.2.2.2.2.1 u.2.2.2.2.2.2.1 u.2.2.2.2.2.2.2.1 u.2.2.2.2.2.2.2.2.1 u.2.2.2.2.2.2.2.2.2.1 u.2.2.2.2.2.2.2.2.2.2.1 u.2.2.2.2.2.2.2.2.2.2.2))) (wc := (wd_M h1 pB pW pS pA pQ pC pR pT pD cJ cI cZ cB kb kw ks ka kq kc kr kt kd many tsz thr)) (wr := ([] : va_W)) (va_runV (As := [.int a3]) (rest := []) ⟨hx, hb, hml, hown, hts⟩ (kt_M_equal l dC dI cJ cI cZ cB h1 pB pW pS pA pQ pC pR pT pD _ a3 kb kw ks ka kq kc kr kt kd many tsz thr _ hw) ⟨callB_of 1 hts (gw_in mw_t571) rfl rfl rfl (hq mw_t3) (hq mw_t568) (by decide +kernel) ⟨Nat.le_of_ble_eq_true rfl, Nat.le_of_ble_eq_true rfl⟩, hq mw_t570, hq mw_s44⟩ (pv_W (va_recv (q0 := 0) (ci := 2) hK hP rfl rfl) (hP.sub (ws' := (wd_M h1 pB pW pS pA pQ pC pR pT pD cJ cI cZ cB kb kw ks ka kq kc kr kt kd many tsz thr)) [0, 1, 2, 3, 4, 5, 6, 7, 8, 9] rfl) hK (hD.sub (ws' := (wd_M h1 pB pW pS pA pQ pC pR pT pD cJ cI cZ cB kb kw ks ka kq kc kr kt kd many tsz thr)) [0, 1, 2, 3, 4, 5, 6, 7, 8, 9] (by decide) rfl) hE) rfl rfl hl.1 rfl (lv_room (Nat.le_of_ble_eq_true rfl)) dc_M_asked_34 ⟨Nat.le_of_ble_eq_true rfl, Nat.le_of_ble_eq_true rfl⟩) hP hD hS hA [0, 1, 2, 3, 4, 5, 6, 7, 8, 9] [] rfl rfl (by decide) (by decide) (fun r34 u H locs hw hP hD hS => ?_)
    obtain ⟨kb34, kw34, ks34, ka34, kq34, kc34, kr34, kt34, kd34, many34, tsz34, thr34⟩ := u
    have hP : va_P (dC, dI) cs_3 (wd_M h1 pB pW pS pA pQ pC pR pT pD cJ cI cZ cB kb34 kw34 ks34 ka34 kq34 kc34 kr34 kt34 kd34 many34 tsz34 thr34) H := hP.sub (ws' := (wd_M h1 pB pW pS pA pQ pC pR pT pD cJ cI cZ cB kb34 kw34 ks34 ka34 kq34 kc34 kr34 kt34 kd34 many34 tsz34 thr34)) [0, 1, 2, 3, 4, 5, 6, 7, 8, 9] rfl
    have hD : va_D A (wd_M h1 pB pW pS pA pQ pC pR pT pD cJ cI cZ cB kb34 kw34 ks34 ka34 kq34 kc34 kr34 kt34 kd34 many34 tsz34 thr34) := hD.sub (ws' := (wd_M h1 pB pW pS pA pQ pC pR pT pD cJ cI cZ cB kb34 kw34 ks34 ka34 kq34 kc34 kr34 kt34 kd34 many34 tsz34 thr34)) [0, 1, 2, 3, 4, 5, 6, 7, 8, 9] (by decide) rfl
    try dsimp only at hw
    exact W.iret (v := r34) hx hb hr (fun t ht hW => ⟨⟨r34, (kb34, kw34, ks34, ka34, kq34, kc34, kr34, kt34, kd34, many34, tsz34, thr34), rfl, hw, by rw [ht]; exact hP, va_K.moved hW.alike hK, hD⟩, hS.F ht⟩) hS.2.2 dc_M_asked_37
  by_cases hk10 : a1.toInt = 10
  · have hw := hs2 hk10
    refine lv_tableIn (tgt := 38) (off := 37) hx hb dc_M_asked_1 (by rw [hk10]; decide) (by rw [hk10]; decide) (by rw [hk10]; rfl) (by decide) ?_
    refine lv_aload_n hx hb dc_M_asked_38 rfl (lv_at hl 0 rfl) ?_
    refine lv_iload_n hx hb dc_M_asked_39 rfl (lv_at hl 3 rfl) ?_
    refine gc_i (S := (Nat → Int32) × (Nat → Int32) × (Nat → Int32) × (Nat → Int32) × (Nat → Int32) × (Nat → Int32) × (Nat → Int32) × (Nat → Int32) × (Nat → Int32) × Int32 × Int32 × Int32) (w1 := (fun u => (wd_M h1 pB pW pS pA pQ pC pR pT pD cJ cI cZ cB u.1 u.2.1 u.2.2.1 u.2.2.2.1 u.2.2.2.2.1 u.2.2.2.2.2.1 u.2.2.2.2.2.2.1 u.2.2.2.2.2.2.2.1 u.2.2.2.2.2.2.2.2.1 u.2.2.2.2.2.2.2.2.2.1 u.2.2.2.2.2.2.2.2.2.2.1 u.2.2.2.2.2.2.2.2.2.2.2))) (wc := (wd_M h1 pB pW pS pA pQ pC pR pT pD cJ cI cZ cB kb kw ks ka kq kc kr kt kd many tsz thr)) (wr := ([] : va_W)) (va_runV (As := [.int a3]) (rest := []) ⟨hx, hb, hml, hown, hts⟩ (kt_M_equal l dC dI cJ cI cZ cB h1 pB pW pS pA pQ pC pR pT pD _ a3 kb kw ks ka kq kc kr kt kd many tsz thr _ hw) ⟨callB_of 1 hts (gw_in mw_t571) rfl rfl rfl (hq mw_t3) (hq mw_t568) (by decide +kernel) ⟨Nat.le_of_ble_eq_true rfl, Nat.le_of_ble_eq_true rfl⟩, hq mw_t570, hq mw_s44⟩ (pv_W (va_recv (q0 := 0) (ci := 2) hK hP rfl rfl) (hP.sub (ws' := (wd_M h1 pB pW pS pA pQ pC pR pT pD cJ cI cZ cB kb kw ks ka kq kc kr kt kd many tsz thr)) [0, 1, 2, 3, 4, 5, 6, 7, 8, 9] rfl) hK (hD.sub (ws' := (wd_M h1 pB pW pS pA pQ pC pR pT pD cJ cI cZ cB kb kw ks ka kq kc kr kt kd many tsz thr)) [0, 1, 2, 3, 4, 5, 6, 7, 8, 9] (by decide) rfl) hE) rfl rfl hl.1 rfl (lv_room (Nat.le_of_ble_eq_true rfl)) dc_M_asked_40 ⟨Nat.le_of_ble_eq_true rfl, Nat.le_of_ble_eq_true rfl⟩) hP hD hS hA [0, 1, 2, 3, 4, 5, 6, 7, 8, 9] [] rfl rfl (by decide) (by decide) (fun r40 u H locs hw hP hD hS => ?_)
    obtain ⟨kb40, kw40, ks40, ka40, kq40, kc40, kr40, kt40, kd40, many40, tsz40, thr40⟩ := u
    have hP : va_P (dC, dI) cs_3 (wd_M h1 pB pW pS pA pQ pC pR pT pD cJ cI cZ cB kb40 kw40 ks40 ka40 kq40 kc40 kr40 kt40 kd40 many40 tsz40 thr40) H := hP.sub (ws' := (wd_M h1 pB pW pS pA pQ pC pR pT pD cJ cI cZ cB kb40 kw40 ks40 ka40 kq40 kc40 kr40 kt40 kd40 many40 tsz40 thr40)) [0, 1, 2, 3, 4, 5, 6, 7, 8, 9] rfl
    have hD : va_D A (wd_M h1 pB pW pS pA pQ pC pR pT pD cJ cI cZ cB kb40 kw40 ks40 ka40 kq40 kc40 kr40 kt40 kd40 many40 tsz40 thr40) := hD.sub (ws' := (wd_M h1 pB pW pS pA pQ pC pR pT pD cJ cI cZ cB kb40 kw40 ks40 ka40 kq40 kc40 kr40 kt40 kd40 many40 tsz40 thr40)) [0, 1, 2, 3, 4, 5, 6, 7, 8, 9] (by decide) rfl
    try dsimp only at hw
    refine gc_i (S := Unit) (w1 := (fun u => ([] : va_W))) (wc := ([] : va_W)) (wr := ([(h1, .inr (2, [.ref pB, .ref pW, .ref pS, .ref pA, .ref pQ, .ref pC, .ref pR, .ref pT, .int many40, .int tsz40, .int thr40, .ref pD])), (pB, .inl (cB, 4096, .inl kb40)), (pW, .inl (cI, 64, .inl kw40)), (pS, .inl (cZ, 64, .inl ks40)), (pA, .inl (cB, 64, .inl ka40)), (pQ, .inl (cB, 64, .inl kq40)), (pC, .inl (cB, 64, .inl kc40)), (pR, .inl (cB, 65, .inl kr40)), (pT, .inl (cB, 80, .inl kt40)), (pD, .inl (cB, 24, .inl kd40))] : va_W)) (va_runS (As := [.int r40]) (rest := []) ⟨hx, hb, hml, hown, hts⟩ (kt_M_opposite l dC dI cJ cI cZ cB _ r40 _ hw) ⟨callB_of 1 hts (gw_in mw_t574) rfl rfl rfl (hq mw_t3) (hq mw_t572) (by decide +kernel) ⟨Nat.le_of_ble_eq_true rfl, Nat.le_of_ble_eq_true rfl⟩, hq mw_t573⟩ (ps_W (hP.sub (ws' := ([] : va_W)) [] rfl) hK (hD.sub (ws' := ([] : va_W)) [] (by decide) rfl) hE) rfl rfl hl.1 rfl (lv_room (Nat.le_of_ble_eq_true rfl)) dc_M_asked_43 ⟨Nat.le_of_ble_eq_true rfl, Nat.le_of_ble_eq_true rfl⟩) hP hD hS hA [] [0, 1, 2, 3, 4, 5, 6, 7, 8, 9] rfl rfl (by decide) (by decide) (fun r43 u H locs hw hP hD hS => ?_)
    have hP : va_P (dC, dI) cs_3 (wd_M h1 pB pW pS pA pQ pC pR pT pD cJ cI cZ cB kb40 kw40 ks40 ka40 kq40 kc40 kr40 kt40 kd40 many40 tsz40 thr40) H := hP.sub (ws' := (wd_M h1 pB pW pS pA pQ pC pR pT pD cJ cI cZ cB kb40 kw40 ks40 ka40 kq40 kc40 kr40 kt40 kd40 many40 tsz40 thr40)) [0, 1, 2, 3, 4, 5, 6, 7, 8, 9] rfl
    have hD : va_D A (wd_M h1 pB pW pS pA pQ pC pR pT pD cJ cI cZ cB kb40 kw40 ks40 ka40 kq40 kc40 kr40 kt40 kd40 many40 tsz40 thr40) := hD.sub (ws' := (wd_M h1 pB pW pS pA pQ pC pR pT pD cJ cI cZ cB kb40 kw40 ks40 ka40 kq40 kc40 kr40 kt40 kd40 many40 tsz40 thr40)) [0, 1, 2, 3, 4, 5, 6, 7, 8, 9] (by decide) rfl
    try dsimp only at hw
    exact W.iret (v := r43) hx hb hr (fun t ht hW => ⟨⟨r43, (kb40, kw40, ks40, ka40, kq40, kc40, kr40, kt40, kd40, many40, tsz40, thr40), rfl, hw, by rw [ht]; exact hP, va_K.moved hW.alike hK, hD⟩, hS.F ht⟩) hS.2.2 dc_M_asked_46
  by_cases hk11 : a1.toInt = 11
  · have hw := hs3 hk11
    refine lv_tableIn (tgt := 47) (off := 46) hx hb dc_M_asked_1 (by rw [hk11]; decide) (by rw [hk11]; decide) (by rw [hk11]; rfl) (by decide) ?_
    refine lv_aload_n hx hb dc_M_asked_47 rfl (lv_at hl 0 rfl) ?_
    refine lv_iload_n hx hb dc_M_asked_48 rfl (lv_at hl 3 rfl) ?_
    refine gc_i (S := (Nat → Int32) × (Nat → Int32) × (Nat → Int32) × (Nat → Int32) × (Nat → Int32) × (Nat → Int32) × (Nat → Int32) × (Nat → Int32) × (Nat → Int32) × Int32 × Int32 × Int32) (w1 := (fun u => (wd_M h1 pB pW pS pA pQ pC pR pT pD cJ cI cZ cB u.1 u.2.1 u.2.2.1 u.2.2.2.1 u.2.2.2.2.1 u.2.2.2.2.2.1 u.2.2.2.2.2.2.1 u.2.2.2.2.2.2.2.1 u.2.2.2.2.2.2.2.2.1 u.2.2.2.2.2.2.2.2.2.1 u.2.2.2.2.2.2.2.2.2.2.1 u.2.2.2.2.2.2.2.2.2.2.2))) (wc := (wd_M h1 pB pW pS pA pQ pC pR pT pD cJ cI cZ cB kb kw ks ka kq kc kr kt kd many tsz thr)) (wr := ([] : va_W)) (va_runV (As := [.int a3]) (rest := []) ⟨hx, hb, hml, hown, hts⟩ (kt_M_same l dC dI cJ cI cZ cB h1 pB pW pS pA pQ pC pR pT pD _ a3 kb kw ks ka kq kc kr kt kd many tsz thr _ hw) ⟨callB_of 1 hts (gw_in mw_t578) rfl rfl rfl (hq mw_t3) (hq mw_t575) (by decide +kernel) ⟨Nat.le_of_ble_eq_true rfl, Nat.le_of_ble_eq_true rfl⟩, hq mw_t577, hq mw_s45⟩ (pv_W (va_recv (q0 := 0) (ci := 2) hK hP rfl rfl) (hP.sub (ws' := (wd_M h1 pB pW pS pA pQ pC pR pT pD cJ cI cZ cB kb kw ks ka kq kc kr kt kd many tsz thr)) [0, 1, 2, 3, 4, 5, 6, 7, 8, 9] rfl) hK (hD.sub (ws' := (wd_M h1 pB pW pS pA pQ pC pR pT pD cJ cI cZ cB kb kw ks ka kq kc kr kt kd many tsz thr)) [0, 1, 2, 3, 4, 5, 6, 7, 8, 9] (by decide) rfl) hE) rfl rfl hl.1 rfl (lv_room (Nat.le_of_ble_eq_true rfl)) dc_M_asked_49 ⟨Nat.le_of_ble_eq_true rfl, Nat.le_of_ble_eq_true rfl⟩) hP hD hS hA [0, 1, 2, 3, 4, 5, 6, 7, 8, 9] [] rfl rfl (by decide) (by decide) (fun r49 u H locs hw hP hD hS => ?_)
    obtain ⟨kb49, kw49, ks49, ka49, kq49, kc49, kr49, kt49, kd49, many49, tsz49, thr49⟩ := u
    have hP : va_P (dC, dI) cs_3 (wd_M h1 pB pW pS pA pQ pC pR pT pD cJ cI cZ cB kb49 kw49 ks49 ka49 kq49 kc49 kr49 kt49 kd49 many49 tsz49 thr49) H := hP.sub (ws' := (wd_M h1 pB pW pS pA pQ pC pR pT pD cJ cI cZ cB kb49 kw49 ks49 ka49 kq49 kc49 kr49 kt49 kd49 many49 tsz49 thr49)) [0, 1, 2, 3, 4, 5, 6, 7, 8, 9] rfl
    have hD : va_D A (wd_M h1 pB pW pS pA pQ pC pR pT pD cJ cI cZ cB kb49 kw49 ks49 ka49 kq49 kc49 kr49 kt49 kd49 many49 tsz49 thr49) := hD.sub (ws' := (wd_M h1 pB pW pS pA pQ pC pR pT pD cJ cI cZ cB kb49 kw49 ks49 ka49 kq49 kc49 kr49 kt49 kd49 many49 tsz49 thr49)) [0, 1, 2, 3, 4, 5, 6, 7, 8, 9] (by decide) rfl
    try dsimp only at hw
    obtain ⟨hw1, hw2⟩ := hw
    refine lv_if_eq (tgt := 59) hx hb dc_M_asked_52 (by decide) (fun hc => ?_) (fun hc => ?_)
    · have hw := hw1 hc
      clear hw1 hw2
      refine lv_iconst (v := 0) hx hb dc_M_asked_59 (by decide) ?_
      exact B_60 _ _ _ (0 : Int32) kb49 kw49 ks49 ka49 kq49 kc49 kr49 kt49 kd49 many49 tsz49 thr49 hw hP hD hS (lv_sub hl [] rfl)
    · have hw := hw2 hc
      clear hw1 hw2
      refine lv_iconst (v := 1) hx hb dc_M_asked_55 (by decide) ?_
      refine lv_goto (tgt := 60) hx hb dc_M_asked_56 (by decide) ?_
      exact B_60 _ _ _ (1 : Int32) kb49 kw49 ks49 ka49 kq49 kc49 kr49 kt49 kd49 many49 tsz49 thr49 hw hP hD hS (lv_sub hl [] rfl)
  have hk12 : a1.toInt = 12 := by omega
  have hw := hs4 hk12
  refine lv_tableIn (tgt := 61) (off := 60) hx hb dc_M_asked_1 (by rw [hk12]; decide) (by rw [hk12]; decide) (by rw [hk12]; rfl) (by decide) ?_
  refine lv_aload_n hx hb dc_M_asked_61 rfl (lv_at hl 0 rfl) ?_
  refine lv_iload_n hx hb dc_M_asked_62 rfl (lv_at hl 3 rfl) ?_
  refine gc_i (S := (Nat → Int32) × (Nat → Int32) × (Nat → Int32) × (Nat → Int32) × (Nat → Int32) × (Nat → Int32) × (Nat → Int32) × (Nat → Int32) × (Nat → Int32) × Int32 × Int32 × Int32) (w1 := (fun u => (wd_M h1 pB pW pS pA pQ pC pR pT pD cJ cI cZ cB u.1 u.2.1 u.2.2.1 u.2.2.2.1 u.2.2.2.2.1 u.2.2.2.2.2.1 u.2.2.2.2.2.2.1 u.2.2.2.2.2.2.2.1 u.2.2.2.2.2.2.2.2.1 u.2.2.2.2.2.2.2.2.2.1 u.2.2.2.2.2.2.2.2.2.2.1 u.2.2.2.2.2.2.2.2.2.2.2))) (wc := (wd_M h1 pB pW pS pA pQ pC pR pT pD cJ cI cZ cB kb kw ks ka kq kc kr kt kd many tsz thr)) (wr := ([] : va_W)) (va_runV (As := [.int a3]) (rest := []) ⟨hx, hb, hml, hown, hts⟩ (kt_M_same l dC dI cJ cI cZ cB h1 pB pW pS pA pQ pC pR pT pD _ a3 kb kw ks ka kq kc kr kt kd many tsz thr _ hw) ⟨callB_of 1 hts (gw_in mw_t578) rfl rfl rfl (hq mw_t3) (hq mw_t575) (by decide +kernel) ⟨Nat.le_of_ble_eq_true rfl, Nat.le_of_ble_eq_true rfl⟩, hq mw_t577, hq mw_s45⟩ (pv_W (va_recv (q0 := 0) (ci := 2) hK hP rfl rfl) (hP.sub (ws' := (wd_M h1 pB pW pS pA pQ pC pR pT pD cJ cI cZ cB kb kw ks ka kq kc kr kt kd many tsz thr)) [0, 1, 2, 3, 4, 5, 6, 7, 8, 9] rfl) hK (hD.sub (ws' := (wd_M h1 pB pW pS pA pQ pC pR pT pD cJ cI cZ cB kb kw ks ka kq kc kr kt kd many tsz thr)) [0, 1, 2, 3, 4, 5, 6, 7, 8, 9] (by decide) rfl) hE) rfl rfl hl.1 rfl (lv_room (Nat.le_of_ble_eq_true rfl)) dc_M_asked_63 ⟨Nat.le_of_ble_eq_true rfl, Nat.le_of_ble_eq_true rfl⟩) hP hD hS hA [0, 1, 2, 3, 4, 5, 6, 7, 8, 9] [] rfl rfl (by decide) (by decide) (fun r63 u H locs hw hP hD hS => ?_)
  obtain ⟨kb63, kw63, ks63, ka63, kq63, kc63, kr63, kt63, kd63, many63, tsz63, thr63⟩ := u
  have hP : va_P (dC, dI) cs_3 (wd_M h1 pB pW pS pA pQ pC pR pT pD cJ cI cZ cB kb63 kw63 ks63 ka63 kq63 kc63 kr63 kt63 kd63 many63 tsz63 thr63) H := hP.sub (ws' := (wd_M h1 pB pW pS pA pQ pC pR pT pD cJ cI cZ cB kb63 kw63 ks63 ka63 kq63 kc63 kr63 kt63 kd63 many63 tsz63 thr63)) [0, 1, 2, 3, 4, 5, 6, 7, 8, 9] rfl
  have hD : va_D A (wd_M h1 pB pW pS pA pQ pC pR pT pD cJ cI cZ cB kb63 kw63 ks63 ka63 kq63 kc63 kr63 kt63 kd63 many63 tsz63 thr63) := hD.sub (ws' := (wd_M h1 pB pW pS pA pQ pC pR pT pD cJ cI cZ cB kb63 kw63 ks63 ka63 kq63 kc63 kr63 kt63 kd63 many63 tsz63 thr63)) [0, 1, 2, 3, 4, 5, 6, 7, 8, 9] (by decide) rfl
  try dsimp only at hw
  obtain ⟨hw1, hw2⟩ := hw
  refine lv_if_eq (tgt := 73) hx hb dc_M_asked_66 (by decide) (fun hc => ?_) (fun hc => ?_)
  · have hw := hw1 hc
    clear hw1 hw2
    refine lv_iconst (v := 1) hx hb dc_M_asked_73 (by decide) ?_
    exact B_74 _ _ _ (1 : Int32) kb63 kw63 ks63 ka63 kq63 kc63 kr63 kt63 kd63 many63 tsz63 thr63 hw hP hD hS (lv_sub hl [] rfl)
  · have hw := hw2 hc
    clear hw1 hw2
    refine lv_iconst (v := 0) hx hb dc_M_asked_69 (by decide) ?_
    refine lv_goto (tgt := 74) hx hb dc_M_asked_70 (by decide) ?_
    exact B_74 _ _ _ (0 : Int32) kb63 kw63 ks63 ka63 kq63 kc63 kr63 kt63 kd63 many63 tsz63 thr63 hw hP hD hS (lv_sub hl [] rfl)
set_option maxHeartbeats 4000000 in
set_option maxRecDepth 100000 in
theorem kt_M_amount (l : Launch) (dC : Nat → ClassId) (dI : Nat → Nat → Nat) (cJ cI cZ cB : ClassId) (h1 pB pW pS pA pQ pC pR pT pD : Nat) (sz : Nat) (a1 : Int32) (a2 : Int32) (kb : (Nat → Int32)) (kw : (Nat → Int32)) (ks : (Nat → Int32)) (ka : (Nat → Int32)) (kq : (Nat → Int32)) (kc : (Nat → Int32)) (kr : (Nat → Int32)) (kt : (Nat → Int32)) (kd : (Nat → Int32)) (many : Int32) (tsz : Int32) (thr : Int32) (post : Int32 → (Nat → Int32) → (Nat → Int32) → (Nat → Int32) → (Nat → Int32) → (Nat → Int32) → (Nat → Int32) → (Nat → Int32) → (Nat → Int32) → (Nat → Int32) → Int32 → Int32 → Int32 → Prop) (hw : wp_M_amount post a1 a2 kb kw ks ka kq kc kr kt kd many tsz thr) : Met l yn_M_amount ws_M_amount rm_M_amount (va_Pc [.ref h1, .int a1, .int a2] (pc_W (dC, dI) (ty_4 cJ cI cZ cB) (wd_M h1 pB pW pS pA pQ pC pR pT pD cJ cI cZ cB kb kw ks ka kq kc kr kt kd many tsz thr) sz)) (qi_M dC dI cJ cI cZ cB h1 pB pW pS pA pQ pC pR pT pD post (va_A (wd_M h1 pB pW pS pA pQ pC pR pT pD cJ cI cZ cB kb kw ks ka kq kc kr kt kd many tsz thr) sz)) 0 0 (va_A (wd_M h1 pB pW pS pA pQ pC pR pT pD cJ cI cZ cB kb kw ks ka kq kc kr kt kd many tsz thr) sz) := by
  refine Met.ofW (cc := cd_M_amount) (maxL := 5) (ret := (some .int)) (by decide) rfl ?_
  intro p e s m args below meth c s₁ B hml hv
  obtain ⟨rfl, hsz, hP, hK, hD0, hE⟩ := hv
  have hx := B.exec
  have hb := B.bytes
  have hr := B.returns
  have hts := atoms_spec (ws := ws_M_amount) B.pre
  have hq : ∀ {w : Cond}, w ∈ wg_all → w.before ([.ref h1, .int a1, .int a2] : List Value).toArray s = true := fun h => hts _ (List.mem_cons_of_mem _ h)
  have hu : ∀ L : List Cond, (∀ w ∈ L, w ∈ wg_all) → ∀ w ∈ L, w ∈ ws_M_amount := fun L h w hw => List.mem_cons_of_mem _ (h w hw)
  have hown : s.vm.findClass "FourWordsModel" = some m.cls := findClass_of_methodNamed B.named
  have hlocks := B.notSynchronized
  subst hsz
  have hD := hD0.self (sz := s.heap.size)
  generalize hAe : va_A (wd_M h1 pB pW pS pA pQ pC pR pT pD cJ cI cZ cB kb kw ks ka kq kc kr kt kd many tsz thr) s.heap.size = A at hD ⊢
  have hA : ∀ q : Nat, s.heap.size ≤ q → A q := fun q h => by rw [← hAe]; exact Or.inr h
  have hS : va_S A s.heap s.heap [] := va_S.rf
  have hl := lv_entry [.ref h1, .int a1, .int a2] (n := 5) (Nat.le_of_ble_eq_true rfl)
  rw [lg_entry_eq]
  generalize (lg_sl [.ref h1, .int a1, .int a2] ++ List.replicate (5 - (lg_sl [.ref h1, .int a1, .int a2]).length) Slot.unset).toArray = ls at hl ⊢
  have hl : lv_has ls 5 [(0, .ref h1), (1, .int a1), (2, .int a2)] := hl
  have B_12 : ∀ (n12 : Nat) (H : Heap) (locs : List Loc) (ls : Array Slot) (x1 : Int32) (x2 : Int32) (x3 : Int32) (x4 : Int32) (kb : (Nat → Int32)) (kw : (Nat → Int32)) (ks : (Nat → Int32)) (ka : (Nat → Int32)) (kq : (Nat → Int32)) (kc : (Nat → Int32)) (kr : (Nat → Int32)) (kt : (Nat → Int32)) (kd : (Nat → Int32)) (many : Int32) (tsz : Int32) (thr : Int32), wp_M_amount_12 post n12 x1 x2 x3 x4 kb kw ks ka kq kc kr kt kd many tsz thr → va_P (dC, dI) cs_3 (wd_M h1 pB pW pS pA pQ pC pR pT pD cJ cI cZ cB kb kw ks ka kq kc kr kt kd many tsz thr) H → va_D A (wd_M h1 pB pW pS pA pQ pC pR pT pD cJ cI cZ cB kb kw ks ka kq kc kr kt kd many tsz thr) → va_S A s.heap H locs → lv_has ls 5 [(0, .ref h1), (1, .int x1), (2, .int x2), (3, .int x3), (4, .int x4)] → W p l e (headSpec ws_M_amount rm_M_amount).room s m ([.ref h1, .int a1, .int a2] : List Value).toArray below meth c H locs 0 0 (MQ below (qi_M dC dI cJ cI cZ cB h1 pB pW pS pA pQ pC pR pT pD post A) ([.ref h1, .int a1, .int a2] : List Value).toArray s 0 0 A) (F0 m 12 ls []) := by
    intro n12
    induction n12 with
    | zero => intro H locs ls x1 x2 x3 x4 kb kw ks ka kq kc kr kt kd many tsz thr hw; exact False.elim hw
    | succ n12 ih =>
      intro H locs ls x1 x2 x3 x4 kb kw ks ka kq kc kr kt kd many tsz thr hw hP hD hS hl
      unfold wp_M_amount_12 at hw
      refine lv_iload hx hb dc_M_amount_12 (lv_at hl 4 rfl) ?_
      obtain ⟨hw1, hw2⟩ := hw
      refine lv_if_lt (tgt := 47) hx hb dc_M_amount_14 (by decide) (fun hc => ?_) (fun hc => ?_)
      · have hw := hw1 hc
        clear hw1 hw2
        refine lv_iload_n hx hb dc_M_amount_47 rfl (lv_at hl 3 rfl) ?_
        exact W.iret (v := x3) hx hb hr (fun t ht hW => ⟨⟨x3, (kb, kw, ks, ka, kq, kc, kr, kt, kd, many, tsz, thr), rfl, hw, by rw [ht]; exact hP, va_K.moved hW.alike hK, hD⟩, hS.F ht⟩) hS.2.2 dc_M_amount_48
      · have hw := hw2 hc
        clear hw1 hw2
        refine lv_iconst (v := 2) hx hb dc_M_amount_17 (by decide) ?_
        refine lv_iload_n hx hb dc_M_amount_18 rfl (lv_at hl 3 rfl) ?_
        refine lv_imul hx hb dc_M_amount_19 ?_
        refine lv_aload_n hx hb dc_M_amount_20 rfl (lv_at hl 0 rfl) ?_
        refine va_get (D := (dC, dI)) (ci := 2) (v := .ref pB) (C := "FourWordsModel") (T := tb_M) (N := 12) hx hb hts (hu _ um_M) hown hK hP 0 rfl rfl 0 (by decide) (hq mw_t460) (fun _ h9 => h9) rfl dc_M_amount_21 ?_
        refine lv_bipush (v := 64) hx hb dc_M_amount_24 (by decide) ?_
        refine lv_iload_n hx hb dc_M_amount_26 rfl (lv_at hl 1 rfl) ?_
        refine lv_imul hx hb dc_M_amount_27 ?_
        refine lv_iload hx hb dc_M_amount_28 (lv_at hl 4 rfl) ?_
        refine lv_iadd hx hb dc_M_amount_30 ?_
        obtain ⟨hin, hw⟩ := hw
        refine va_bald hx hb hK hP 1 3 rfl rfl hin dc_M_amount_31 ?_
        refine lv_iadd hx hb dc_M_amount_32 ?_
        refine lv_topi (fun v33 e33 => ?_)
        have hw := hw v33 e33
        refine lv_istore_n (lv' := [(3, .int v33), (0, .ref h1), (1, .int x1), (2, .int x2), (4, .int x4)]) hx hb dc_M_amount_33 rfl hl (Nat.le_of_ble_eq_true rfl) rfl (fun ls hl => ?_)
        refine lv_iload_n hx hb dc_M_amount_34 rfl (lv_at hl 0 rfl) ?_
        refine lv_iload_n hx hb dc_M_amount_35 rfl (lv_at hl 3 rfl) ?_
        obtain ⟨hw1, hw2⟩ := hw
        refine lv_icmp_lt (tgt := 41) hx hb dc_M_amount_36 (by decide) (fun hc => ?_) (fun hc => ?_)
        · have hw := hw1 hc
          clear hw1 hw2
          refine lv_iinc (lv' := [(4, .int (x4 + (-1))), (3, .int v33), (0, .ref h1), (1, .int x1), (2, .int x2)]) hx hb dc_M_amount_41 hl (k := 4) rfl (ic_m1 _) (Nat.le_of_ble_eq_true rfl) rfl (fun ls hl => ?_)
          refine lv_goto (tgt := 12) hx hb dc_M_amount_44 (by decide) ?_
          exact ih _ _ _ x1 x2 v33 (x4 + (-1)) kb kw ks ka kq kc kr kt kd many tsz thr hw hP hD hS (lv_sub hl [2, 3, 4, 1, 0] rfl)
        · have hw := hw2 hc
          clear hw1 hw2
          refine lv_iload_n hx hb dc_M_amount_39 rfl (lv_at hl 3 rfl) ?_
          exact W.iret (v := x2) hx hb hr (fun t ht hW => ⟨⟨x2, (kb, kw, ks, ka, kq, kc, kr, kt, kd, many, tsz, thr), rfl, hw, by rw [ht]; exact hP, va_K.moved hW.alike hK, hD⟩, hS.F ht⟩) hS.2.2 dc_M_amount_40
  unfold wp_M_amount at hw
  refine lv_iconst (v := 0) hx hb dc_M_amount_0 (by decide) ?_
  refine lv_istore_n (lv' := [(3, .int (0 : Int32)), (0, .ref h1), (1, .int a1), (2, .int a2)]) hx hb dc_M_amount_1 rfl hl (Nat.le_of_ble_eq_true rfl) rfl (fun ls hl => ?_)
  refine lv_aload_n hx hb dc_M_amount_2 rfl (lv_at hl 1 rfl) ?_
  refine va_get (D := (dC, dI)) (ci := 2) (v := .ref pW) (C := "FourWordsModel") (T := tb_M) (N := 12) hx hb hts (hu _ um_M) hown hK hP 0 rfl rfl 1 (by decide) (hq mw_t461) (fun _ h9 => h9) rfl dc_M_amount_3 ?_
  refine lv_iload_n hx hb dc_M_amount_6 rfl (lv_at hl 2 rfl) ?_
  obtain ⟨hin, hw⟩ := hw
  refine va_iald hx hb hK hP 2 1 rfl rfl hin dc_M_amount_7 ?_
  refine lv_iconst (v := 1) hx hb dc_M_amount_8 (by decide) ?_
  refine lv_isub hx hb dc_M_amount_9 ?_
  refine lv_topi (fun v10 e10 => ?_)
  have hw := hw v10 e10
  refine lv_istore (lv' := [(4, .int v10), (3, .int (0 : Int32)), (0, .ref h1), (1, .int a1), (2, .int a2)]) hx hb dc_M_amount_10 hl (Nat.le_of_ble_eq_true rfl) rfl (fun ls hl => ?_)
  obtain ⟨n12, hw⟩ := hw
  exact B_12 n12 _ _ _ a1 a2 (0 : Int32) v10 kb kw ks ka kq kc kr kt kd many tsz thr hw hP hD hS (lv_sub hl [2, 3, 4, 1, 0] rfl)
set_option maxHeartbeats 4000000 in
set_option maxRecDepth 100000 in
theorem kt_M_put (l : Launch) (dC : Nat → ClassId) (dI : Nat → Nat → Nat) (cJ cI cZ cB : ClassId) (h1 pB pW pS pA pQ pC pR pT pD : Nat) (sz : Nat) (a1 : Int32) (kb : (Nat → Int32)) (kw : (Nat → Int32)) (ks : (Nat → Int32)) (ka : (Nat → Int32)) (kq : (Nat → Int32)) (kc : (Nat → Int32)) (kr : (Nat → Int32)) (kt : (Nat → Int32)) (kd : (Nat → Int32)) (many : Int32) (tsz : Int32) (thr : Int32) (post : (Nat → Int32) → (Nat → Int32) → (Nat → Int32) → (Nat → Int32) → (Nat → Int32) → (Nat → Int32) → (Nat → Int32) → (Nat → Int32) → (Nat → Int32) → Int32 → Int32 → Int32 → Prop) (hw : wp_M_put post a1 kb kw ks ka kq kc kr kt kd many tsz thr) : Met l yn_M_put ws_M_put rm_M_put (va_Pc [.ref h1, .int a1] (pc_W (dC, dI) (ty_4 cJ cI cZ cB) (wd_M h1 pB pW pS pA pQ pC pR pT pD cJ cI cZ cB kb kw ks ka kq kc kr kt kd many tsz thr) sz)) (qv_M dC dI cJ cI cZ cB h1 pB pW pS pA pQ pC pR pT pD post (va_A (wd_M h1 pB pW pS pA pQ pC pR pT pD cJ cI cZ cB kb kw ks ka kq kc kr kt kd many tsz thr) sz)) 0 0 (va_A (wd_M h1 pB pW pS pA pQ pC pR pT pD cJ cI cZ cB kb kw ks ka kq kc kr kt kd many tsz thr) sz) := by
  refine Met.ofW (cc := cd_M_put) (maxL := 2) (ret := none) (by decide) rfl ?_
  intro p e s m args below meth c s₁ B hml hv
  obtain ⟨rfl, hsz, hP, hK, hD0, hE⟩ := hv
  have hx := B.exec
  have hb := B.bytes
  have hr := B.returns
  have hts := atoms_spec (ws := ws_M_put) B.pre
  have hq : ∀ {w : Cond}, w ∈ wg_all → w.before ([.ref h1, .int a1] : List Value).toArray s = true := fun h => hts _ (List.mem_cons_of_mem _ h)
  have hu : ∀ L : List Cond, (∀ w ∈ L, w ∈ wg_all) → ∀ w ∈ L, w ∈ ws_M_put := fun L h w hw => List.mem_cons_of_mem _ (h w hw)
  have hown : s.vm.findClass "FourWordsModel" = some m.cls := findClass_of_methodNamed B.named
  have hlocks := B.notSynchronized
  subst hsz
  have hD := hD0.self (sz := s.heap.size)
  generalize hAe : va_A (wd_M h1 pB pW pS pA pQ pC pR pT pD cJ cI cZ cB kb kw ks ka kq kc kr kt kd many tsz thr) s.heap.size = A at hD ⊢
  have hA : ∀ q : Nat, s.heap.size ≤ q → A q := fun q h => by rw [← hAe]; exact Or.inr h
  have hS : va_S A s.heap s.heap [] := va_S.rf
  have hl := lv_entry [.ref h1, .int a1] (n := 2) (Nat.le_of_ble_eq_true rfl)
  rw [lg_entry_eq]
  generalize (lg_sl [.ref h1, .int a1] ++ List.replicate (2 - (lg_sl [.ref h1, .int a1]).length) Slot.unset).toArray = ls at hl ⊢
  have hl : lv_has ls 2 [(0, .ref h1), (1, .int a1)] := hl
  unfold wp_M_put at hw
  refine lv_aload_n hx hb dc_M_put_0 rfl (lv_at hl 0 rfl) ?_
  refine va_get (D := (dC, dI)) (ci := 2) (v := .ref pT) (C := "FourWordsModel") (T := tb_M) (N := 12) hx hb hts (hu _ um_M) hown hK hP 0 rfl rfl 7 (by decide) (hq mw_t467) (fun _ h9 => h9) rfl dc_M_put_1 ?_
  refine lv_aload_n hx hb dc_M_put_4 rfl (lv_at hl 0 rfl) ?_
  refine va_get (D := (dC, dI)) (ci := 2) (v := .int tsz) (C := "FourWordsModel") (T := tb_M) (N := 12) hx hb hts (hu _ um_M) hown hK hP 0 rfl rfl 9 (by decide) (hq mw_t469) (fun _ h9 => h9) rfl dc_M_put_5 ?_
  refine lv_iload_n hx hb dc_M_put_8 rfl (lv_at hl 1 rfl) ?_
  refine lv_i2b hx hb dc_M_put_9 rfl ?_
  obtain ⟨hin, hw⟩ := hw
  refine va_bast hx hb hK hP hD hS 8 3 rfl rfl hin dc_M_put_10 (fun H locs hP hD hS => ?_)
  have hP : va_P (dC, dI) cs_3 (wd_M h1 pB pW pS pA pQ pC pR pT pD cJ cI cZ cB kb kw ks ka kq kc kr (upd kt tsz.toNatClampNeg (vp_nar .byte a1.toInt8.toInt32)) kd many tsz thr) H := hP
  have hD : va_D A (wd_M h1 pB pW pS pA pQ pC pR pT pD cJ cI cZ cB kb kw ks ka kq kc kr (upd kt tsz.toNatClampNeg (vp_nar .byte a1.toInt8.toInt32)) kd many tsz thr) := hD
  refine lv_aload_n hx hb dc_M_put_11 rfl (lv_at hl 0 rfl) ?_
  refine lv_dup hx hb dc_M_put_12 rfl ?_
  refine va_get (D := (dC, dI)) (ci := 2) (v := .int tsz) (C := "FourWordsModel") (T := tb_M) (N := 12) hx hb hts (hu _ um_M) hown hK hP 0 rfl rfl 9 (by decide) (hq mw_t469) (fun _ h9 => h9) rfl dc_M_put_13 ?_
  refine lv_iconst (v := 1) hx hb dc_M_put_16 (by decide) ?_
  refine lv_iadd hx hb dc_M_put_17 ?_
  refine va_put (D := (dC, dI)) (ci := 2) (v := .int (tsz + (1 : Int32))) (ty := .int) (C := "FourWordsModel") (T := tb_M) (N := 12) hx hb hts (hu _ um_M) ft_M fk_M fn_M hown hK hP hD hS 0 rfl rfl 9 (by decide) (hq mw_t469) (fun _ h9 => h9) rfl (by decide +kernel) rfl rfl (Nat.le_of_ble_eq_true rfl) dc_M_put_18 (fun H locs hP hD hS => ?_)
  have hP : va_P (dC, dI) cs_3 (wd_M h1 pB pW pS pA pQ pC pR pT pD cJ cI cZ cB kb kw ks ka kq kc kr (upd kt tsz.toNatClampNeg (vp_nar .byte a1.toInt8.toInt32)) kd many (tsz + (1 : Int32)) thr) H := hP
  have hD : va_D A (wd_M h1 pB pW pS pA pQ pC pR pT pD cJ cI cZ cB kb kw ks ka kq kc kr (upd kt tsz.toNatClampNeg (vp_nar .byte a1.toInt8.toInt32)) kd many (tsz + (1 : Int32)) thr) := hD
  exact W.vret hx hb hr (fun t ht hW => ⟨⟨(kb, kw, ks, ka, kq, kc, kr, upd kt tsz.toNatClampNeg (vp_nar .byte a1.toInt8.toInt32), kd, many, tsz + (1 : Int32), thr), rfl, hw, by rw [ht]; exact hP, va_K.moved hW.alike hK, hD⟩, hS.F ht⟩) hS.2.2 dc_M_put_21
set_option maxHeartbeats 4000000 in
set_option maxRecDepth 100000 in
theorem kt_M_sort (l : Launch) (dC : Nat → ClassId) (dI : Nat → Nat → Nat) (cJ cI cZ cB : ClassId) (h1 pB pW pS pA pQ pC pR pT pD : Nat) (sz : Nat) (a1 : Int32) (a2 : Int32) (kb : (Nat → Int32)) (kw : (Nat → Int32)) (ks : (Nat → Int32)) (ka : (Nat → Int32)) (kq : (Nat → Int32)) (kc : (Nat → Int32)) (kr : (Nat → Int32)) (kt : (Nat → Int32)) (kd : (Nat → Int32)) (many : Int32) (tsz : Int32) (thr : Int32) (post : Int32 → (Nat → Int32) → (Nat → Int32) → (Nat → Int32) → (Nat → Int32) → (Nat → Int32) → (Nat → Int32) → (Nat → Int32) → (Nat → Int32) → (Nat → Int32) → Int32 → Int32 → Int32 → Prop) (hw : wp_M_sort post a1 a2 kb kw ks ka kq kc kr kt kd many tsz thr) : Met l yn_M_sort ws_M_sort rm_M_sort (va_Pc [.ref h1, .int a1, .int a2] (pc_W (dC, dI) (ty_4 cJ cI cZ cB) (wd_M h1 pB pW pS pA pQ pC pR pT pD cJ cI cZ cB kb kw ks ka kq kc kr kt kd many tsz thr) sz)) (qi_M dC dI cJ cI cZ cB h1 pB pW pS pA pQ pC pR pT pD post (va_A (wd_M h1 pB pW pS pA pQ pC pR pT pD cJ cI cZ cB kb kw ks ka kq kc kr kt kd many tsz thr) sz)) 0 0 (va_A (wd_M h1 pB pW pS pA pQ pC pR pT pD cJ cI cZ cB kb kw ks ka kq kc kr kt kd many tsz thr) sz) := by
  refine Met.ofW (cc := cd_M_sort) (maxL := 6) (ret := (some .int)) (by decide) rfl ?_
  intro p e s m args below meth c s₁ B hml hv
  obtain ⟨rfl, hsz, hP, hK, hD0, hE⟩ := hv
  have hx := B.exec
  have hb := B.bytes
  have hr := B.returns
  have hts := atoms_spec (ws := ws_M_sort) B.pre
  have hq : ∀ {w : Cond}, w ∈ wg_all → w.before ([.ref h1, .int a1, .int a2] : List Value).toArray s = true := fun h => hts _ (List.mem_cons_of_mem _ h)
  have hu : ∀ L : List Cond, (∀ w ∈ L, w ∈ wg_all) → ∀ w ∈ L, w ∈ ws_M_sort := fun L h w hw => List.mem_cons_of_mem _ (h w hw)
  have hown : s.vm.findClass "FourWordsModel" = some m.cls := findClass_of_methodNamed B.named
  have hlocks := B.notSynchronized
  subst hsz
  have hD := hD0.self (sz := s.heap.size)
  generalize hAe : va_A (wd_M h1 pB pW pS pA pQ pC pR pT pD cJ cI cZ cB kb kw ks ka kq kc kr kt kd many tsz thr) s.heap.size = A at hD ⊢
  have hA : ∀ q : Nat, s.heap.size ≤ q → A q := fun q h => by rw [← hAe]; exact Or.inr h
  have hS : va_S A s.heap s.heap [] := va_S.rf
  have hl := lv_entry [.ref h1, .int a1, .int a2] (n := 6) (Nat.le_of_ble_eq_true rfl)
  rw [lg_entry_eq]
  generalize (lg_sl [.ref h1, .int a1, .int a2] ++ List.replicate (6 - (lg_sl [.ref h1, .int a1, .int a2]).length) Slot.unset).toArray = ls at hl ⊢
  have hl : lv_has ls 6 [(0, .ref h1), (1, .int a1), (2, .int a2)] := hl
  have B_93 : ∀ (H : Heap) (locs : List Loc) (ls : Array Slot) (t0 : Int32) (kb : (Nat → Int32)) (kw : (Nat → Int32)) (ks : (Nat → Int32)) (ka : (Nat → Int32)) (kq : (Nat → Int32)) (kc : (Nat → Int32)) (kr : (Nat → Int32)) (kt : (Nat → Int32)) (kd : (Nat → Int32)) (many : Int32) (tsz : Int32) (thr : Int32), wp_M_sort_93 post t0 kb kw ks ka kq kc kr kt kd many tsz thr → va_P (dC, dI) cs_3 (wd_M h1 pB pW pS pA pQ pC pR pT pD cJ cI cZ cB kb kw ks ka kq kc kr kt kd many tsz thr) H → va_D A (wd_M h1 pB pW pS pA pQ pC pR pT pD cJ cI cZ cB kb kw ks ka kq kc kr kt kd many tsz thr) → va_S A s.heap H locs → lv_has ls 6 [] → W p l e (headSpec ws_M_sort rm_M_sort).room s m ([.ref h1, .int a1, .int a2] : List Value).toArray below meth c H locs 0 0 (MQ below (qi_M dC dI cJ cI cZ cB h1 pB pW pS pA pQ pC pR pT pD post A) ([.ref h1, .int a1, .int a2] : List Value).toArray s 0 0 A) (F0 m 93 ls [.int t0]) := by
    intro H locs ls t0 kb kw ks ka kq kc kr kt kd many tsz thr hw hP hD hS hl
    unfold wp_M_sort_93 at hw
    exact W.iret (v := t0) hx hb hr (fun t ht hW => ⟨⟨t0, (kb, kw, ks, ka, kq, kc, kr, kt, kd, many, tsz, thr), rfl, hw, by rw [ht]; exact hP, va_K.moved hW.alike hK, hD⟩, hS.F ht⟩) hS.2.2 dc_M_sort_93
  have B_42 : ∀ (K8 : Int32 → Int32 → Int32 → Int32 → Int32 → (Nat → Int32) → (Nat → Int32) → (Nat → Int32) → (Nat → Int32) → (Nat → Int32) → (Nat → Int32) → (Nat → Int32) → (Nat → Int32) → (Nat → Int32) → Int32 → Int32 → Int32 → Prop) (hK8 : ∀ (H : Heap) (locs : List Loc) (ls : Array Slot) (x1 : Int32) (x2 : Int32) (x3 : Int32) (x4 : Int32) (x5 : Int32) (kb : (Nat → Int32)) (kw : (Nat → Int32)) (ks : (Nat → Int32)) (ka : (Nat → Int32)) (kq : (Nat → Int32)) (kc : (Nat → Int32)) (kr : (Nat → Int32)) (kt : (Nat → Int32)) (kd : (Nat → Int32)) (many : Int32) (tsz : Int32) (thr : Int32), K8 x1 x2 x3 x4 x5 kb kw ks ka kq kc kr kt kd many tsz thr → va_P (dC, dI) cs_3 (wd_M h1 pB pW pS pA pQ pC pR pT pD cJ cI cZ cB kb kw ks ka kq kc kr kt kd many tsz thr) H → va_D A (wd_M h1 pB pW pS pA pQ pC pR pT pD cJ cI cZ cB kb kw ks ka kq kc kr kt kd many tsz thr) → va_S A s.heap H locs → lv_has ls 6 [(0, .ref h1), (1, .int x1), (2, .int x2), (3, .int x3), (4, .int x4), (5, .int x5)] → W p l e (headSpec ws_M_sort rm_M_sort).room s m ([.ref h1, .int a1, .int a2] : List Value).toArray below meth c H locs 0 0 (MQ below (qi_M dC dI cJ cI cZ cB h1 pB pW pS pA pQ pC pR pT pD post A) ([.ref h1, .int a1, .int a2] : List Value).toArray s 0 0 A) (F0 m 8 ls [])) (H : Heap) (locs : List Loc) (ls : Array Slot) (x1 : Int32) (x2 : Int32) (x3 : Int32) (x4 : Int32) (x5 : Int32) (kb : (Nat → Int32)) (kw : (Nat → Int32)) (ks : (Nat → Int32)) (ka : (Nat → Int32)) (kq : (Nat → Int32)) (kc : (Nat → Int32)) (kr : (Nat → Int32)) (kt : (Nat → Int32)) (kd : (Nat → Int32)) (many : Int32) (tsz : Int32) (thr : Int32), wp_M_sort_42 K8 post x1 x2 x3 x4 x5 kb kw ks ka kq kc kr kt kd many tsz thr → va_P (dC, dI) cs_3 (wd_M h1 pB pW pS pA pQ pC pR pT pD cJ cI cZ cB kb kw ks ka kq kc kr kt kd many tsz thr) H → va_D A (wd_M h1 pB pW pS pA pQ pC pR pT pD cJ cI cZ cB kb kw ks ka kq kc kr kt kd many tsz thr) → va_S A s.heap H locs → lv_has ls 6 [(0, .ref h1), (1, .int x1), (2, .int x2), (3, .int x3), (4, .int x4), (5, .int x5)] → W p l e (headSpec ws_M_sort rm_M_sort).room s m ([.ref h1, .int a1, .int a2] : List Value).toArray below meth c H locs 0 0 (MQ below (qi_M dC dI cJ cI cZ cB h1 pB pW pS pA pQ pC pR pT pD post A) ([.ref h1, .int a1, .int a2] : List Value).toArray s 0 0 A) (F0 m 42 ls []) := by
    intro K8 hK8 H locs ls x1 x2 x3 x4 x5 kb kw ks ka kq kc kr kt kd many tsz thr hw hP hD hS hl
    unfold wp_M_sort_42 at hw
    refine lv_iinc (lv' := [(5, .int (x5 + 1)), (0, .ref h1), (1, .int x1), (2, .int x2), (3, .int x3), (4, .int x4)]) hx hb dc_M_sort_42 hl (k := 5) rfl (ic_p1 _) (Nat.le_of_ble_eq_true rfl) rfl (fun ls hl => ?_)
    refine lv_goto (tgt := 8) hx hb dc_M_sort_45 (by decide) ?_
    exact hK8 _ _ _ x1 x2 x3 x4 (x5 + 1) kb kw ks ka kq kc kr kt kd many tsz thr hw hP hD hS (lv_sub hl [1, 2, 3, 4, 5, 0] rfl)
  have B_28 : ∀ (K8 : Int32 → Int32 → Int32 → Int32 → Int32 → (Nat → Int32) → (Nat → Int32) → (Nat → Int32) → (Nat → Int32) → (Nat → Int32) → (Nat → Int32) → (Nat → Int32) → (Nat → Int32) → (Nat → Int32) → Int32 → Int32 → Int32 → Prop) (hK8 : ∀ (H : Heap) (locs : List Loc) (ls : Array Slot) (x1 : Int32) (x2 : Int32) (x3 : Int32) (x4 : Int32) (x5 : Int32) (kb : (Nat → Int32)) (kw : (Nat → Int32)) (ks : (Nat → Int32)) (ka : (Nat → Int32)) (kq : (Nat → Int32)) (kc : (Nat → Int32)) (kr : (Nat → Int32)) (kt : (Nat → Int32)) (kd : (Nat → Int32)) (many : Int32) (tsz : Int32) (thr : Int32), K8 x1 x2 x3 x4 x5 kb kw ks ka kq kc kr kt kd many tsz thr → va_P (dC, dI) cs_3 (wd_M h1 pB pW pS pA pQ pC pR pT pD cJ cI cZ cB kb kw ks ka kq kc kr kt kd many tsz thr) H → va_D A (wd_M h1 pB pW pS pA pQ pC pR pT pD cJ cI cZ cB kb kw ks ka kq kc kr kt kd many tsz thr) → va_S A s.heap H locs → lv_has ls 6 [(0, .ref h1), (1, .int x1), (2, .int x2), (3, .int x3), (4, .int x4), (5, .int x5)] → W p l e (headSpec ws_M_sort rm_M_sort).room s m ([.ref h1, .int a1, .int a2] : List Value).toArray below meth c H locs 0 0 (MQ below (qi_M dC dI cJ cI cZ cB h1 pB pW pS pA pQ pC pR pT pD post A) ([.ref h1, .int a1, .int a2] : List Value).toArray s 0 0 A) (F0 m 8 ls [])) (H : Heap) (locs : List Loc) (ls : Array Slot) (x1 : Int32) (x2 : Int32) (x3 : Int32) (x4 : Int32) (x5 : Int32) (kb : (Nat → Int32)) (kw : (Nat → Int32)) (ks : (Nat → Int32)) (ka : (Nat → Int32)) (kq : (Nat → Int32)) (kc : (Nat → Int32)) (kr : (Nat → Int32)) (kt : (Nat → Int32)) (kd : (Nat → Int32)) (many : Int32) (tsz : Int32) (thr : Int32), wp_M_sort_28 K8 post x1 x2 x3 x4 x5 kb kw ks ka kq kc kr kt kd many tsz thr → va_P (dC, dI) cs_3 (wd_M h1 pB pW pS pA pQ pC pR pT pD cJ cI cZ cB kb kw ks ka kq kc kr kt kd many tsz thr) H → va_D A (wd_M h1 pB pW pS pA pQ pC pR pT pD cJ cI cZ cB kb kw ks ka kq kc kr kt kd many tsz thr) → va_S A s.heap H locs → lv_has ls 6 [(0, .ref h1), (1, .int x1), (2, .int x2), (3, .int x3), (4, .int x4), (5, .int x5)] → W p l e (headSpec ws_M_sort rm_M_sort).room s m ([.ref h1, .int a1, .int a2] : List Value).toArray below meth c H locs 0 0 (MQ below (qi_M dC dI cJ cI cZ cB h1 pB pW pS pA pQ pC pR pT pD post A) ([.ref h1, .int a1, .int a2] : List Value).toArray s 0 0 A) (F0 m 28 ls []) := by
    intro K8 hK8 H locs ls x1 x2 x3 x4 x5 kb kw ks ka kq kc kr kt kd many tsz thr hw hP hD hS hl
    unfold wp_M_sort_28 at hw
    refine lv_aload_n hx hb dc_M_sort_28 rfl (lv_at hl 0 rfl) ?_
    refine va_get (D := (dC, dI)) (ci := 2) (v := .ref pA) (C := "FourWordsModel") (T := tb_M) (N := 12) hx hb hts (hu _ um_M) hown hK hP 0 rfl rfl 3 (by decide) (hq mw_t463) (fun _ h9 => h9) rfl dc_M_sort_29 ?_
    refine lv_iload hx hb dc_M_sort_32 (lv_at hl 5 rfl) ?_
    obtain ⟨hin, hw⟩ := hw
    refine va_bald hx hb hK hP 4 3 rfl rfl hin dc_M_sort_34 ?_
    refine lv_iconst (v := 2) hx hb dc_M_sort_35 (by decide) ?_
    obtain ⟨hw1, hw2⟩ := hw
    refine lv_icmp_ne (tgt := 42) hx hb dc_M_sort_36 (by decide) (fun hc => ?_) (fun hc => ?_)
    · have hw := hw1 hc
      clear hw1 hw2
      exact B_42 K8 hK8 _ _ _ x1 x2 x3 x4 x5 kb kw ks ka kq kc kr kt kd many tsz thr hw hP hD hS (lv_sub hl [0, 1, 2, 3, 4, 5] rfl)
    · have hw := hw2 (fun h9 => h9 hc)
      clear hw1 hw2
      refine lv_iinc (lv' := [(4, .int (x4 + 1)), (0, .ref h1), (1, .int x1), (2, .int x2), (3, .int x3), (5, .int x5)]) hx hb dc_M_sort_39 hl (k := 4) rfl (ic_p1 _) (Nat.le_of_ble_eq_true rfl) rfl (fun ls hl => ?_)
      exact B_42 K8 hK8 _ _ _ x1 x2 x3 (x4 + 1) x5 kb kw ks ka kq kc kr kt kd many tsz thr hw hP hD hS (lv_sub hl [1, 2, 3, 4, 0, 5] rfl)
  have B_8 : ∀ (n8 : Nat) (H : Heap) (locs : List Loc) (ls : Array Slot) (x1 : Int32) (x2 : Int32) (x3 : Int32) (x4 : Int32) (x5 : Int32) (kb : (Nat → Int32)) (kw : (Nat → Int32)) (ks : (Nat → Int32)) (ka : (Nat → Int32)) (kq : (Nat → Int32)) (kc : (Nat → Int32)) (kr : (Nat → Int32)) (kt : (Nat → Int32)) (kd : (Nat → Int32)) (many : Int32) (tsz : Int32) (thr : Int32), wp_M_sort_8 post n8 x1 x2 x3 x4 x5 kb kw ks ka kq kc kr kt kd many tsz thr → va_P (dC, dI) cs_3 (wd_M h1 pB pW pS pA pQ pC pR pT pD cJ cI cZ cB kb kw ks ka kq kc kr kt kd many tsz thr) H → va_D A (wd_M h1 pB pW pS pA pQ pC pR pT pD cJ cI cZ cB kb kw ks ka kq kc kr kt kd many tsz thr) → va_S A s.heap H locs → lv_has ls 6 [(0, .ref h1), (1, .int x1), (2, .int x2), (3, .int x3), (4, .int x4), (5, .int x5)] → W p l e (headSpec ws_M_sort rm_M_sort).room s m ([.ref h1, .int a1, .int a2] : List Value).toArray below meth c H locs 0 0 (MQ below (qi_M dC dI cJ cI cZ cB h1 pB pW pS pA pQ pC pR pT pD post A) ([.ref h1, .int a1, .int a2] : List Value).toArray s 0 0 A) (F0 m 8 ls []) := by
    intro n8
    induction n8 with
    | zero => intro H locs ls x1 x2 x3 x4 x5 kb kw ks ka kq kc kr kt kd many tsz thr hw; exact False.elim hw
    | succ n8 ih =>
      intro H locs ls x1 x2 x3 x4 x5 kb kw ks ka kq kc kr kt kd many tsz thr hw hP hD hS hl
      unfold wp_M_sort_8 at hw
      refine lv_iload hx hb dc_M_sort_8 (lv_at hl 5 rfl) ?_
      refine lv_iload_n hx hb dc_M_sort_10 rfl (lv_at hl 2 rfl) ?_
      obtain ⟨hw1, hw2⟩ := hw
      refine lv_icmp_ge (tgt := 48) hx hb dc_M_sort_11 (by decide) (fun hc => ?_) (fun hc => ?_)
      · have hw := hw1 hc
        clear hw1 hw2
        refine lv_iload_n hx hb dc_M_sort_48 rfl (lv_at hl 3 rfl) ?_
        refine lv_iload_n hx hb dc_M_sort_49 rfl (lv_at hl 2 rfl) ?_
        refine lv_iload_n hx hb dc_M_sort_50 rfl (lv_at hl 1 rfl) ?_
        refine lv_isub hx hb dc_M_sort_51 ?_
        obtain ⟨hw1, hw2⟩ := hw
        refine lv_icmp_ne (tgt := 60) hx hb dc_M_sort_52 (by decide) (fun hc => ?_) (fun hc => ?_)
        · have hw := hw1 hc
          clear hw1 hw2
          refine lv_iload hx hb dc_M_sort_60 (lv_at hl 4 rfl) ?_
          refine lv_iload_n hx hb dc_M_sort_62 rfl (lv_at hl 2 rfl) ?_
          refine lv_iload_n hx hb dc_M_sort_63 rfl (lv_at hl 1 rfl) ?_
          refine lv_isub hx hb dc_M_sort_64 ?_
          obtain ⟨hw1, hw2⟩ := hw
          refine lv_icmp_ne (tgt := 73) hx hb dc_M_sort_65 (by decide) (fun hc => ?_) (fun hc => ?_)
          · have hw := hw1 hc
            clear hw1 hw2
            refine lv_iload_n hx hb dc_M_sort_73 rfl (lv_at hl 3 rfl) ?_
            obtain ⟨hw1, hw2⟩ := hw
            refine lv_if_le (tgt := 82) hx hb dc_M_sort_74 (by decide) (fun hc => ?_) (fun hc => ?_)
            · have hw := hw1 hc
              clear hw1 hw2
              refine lv_iload hx hb dc_M_sort_82 (lv_at hl 4 rfl) ?_
              obtain ⟨hw1, hw2⟩ := hw
              refine lv_if_le (tgt := 92) hx hb dc_M_sort_84 (by decide) (fun hc => ?_) (fun hc => ?_)
              · have hw := hw1 hc
                clear hw1 hw2
                refine lv_iconst (v := 0) hx hb dc_M_sort_92 (by decide) ?_
                exact B_93 _ _ _ (0 : Int32) kb kw ks ka kq kc kr kt kd many tsz thr hw hP hD hS (lv_sub hl [] rfl)
              · have hw := hw2 hc
                clear hw1 hw2
                refine lv_bipush (v := 90) hx hb dc_M_sort_87 (by decide) ?_
                refine lv_goto (tgt := 93) hx hb dc_M_sort_89 (by decide) ?_
                exact B_93 _ _ _ (90 : Int32) kb kw ks ka kq kc kr kt kd many tsz thr hw hP hD hS (lv_sub hl [] rfl)
            · have hw := hw2 hc
              clear hw1 hw2
              refine lv_bipush (v := 88) hx hb dc_M_sort_77 (by decide) ?_
              refine lv_goto (tgt := 93) hx hb dc_M_sort_79 (by decide) ?_
              exact B_93 _ _ _ (88 : Int32) kb kw ks ka kq kc kr kt kd many tsz thr hw hP hD hS (lv_sub hl [] rfl)
          · have hw := hw2 (fun h9 => h9 hc)
            clear hw1 hw2
            refine lv_bipush (v := 122) hx hb dc_M_sort_68 (by decide) ?_
            refine lv_goto (tgt := 93) hx hb dc_M_sort_70 (by decide) ?_
            exact B_93 _ _ _ (122 : Int32) kb kw ks ka kq kc kr kt kd many tsz thr hw hP hD hS (lv_sub hl [] rfl)
        · have hw := hw2 (fun h9 => h9 hc)
          clear hw1 hw2
          refine lv_bipush (v := 120) hx hb dc_M_sort_55 (by decide) ?_
          refine lv_goto (tgt := 93) hx hb dc_M_sort_57 (by decide) ?_
          exact B_93 _ _ _ (120 : Int32) kb kw ks ka kq kc kr kt kd many tsz thr hw hP hD hS (lv_sub hl [] rfl)
      · have hw := hw2 hc
        clear hw1 hw2
        refine lv_aload_n hx hb dc_M_sort_14 rfl (lv_at hl 0 rfl) ?_
        refine va_get (D := (dC, dI)) (ci := 2) (v := .ref pA) (C := "FourWordsModel") (T := tb_M) (N := 12) hx hb hts (hu _ um_M) hown hK hP 0 rfl rfl 3 (by decide) (hq mw_t463) (fun _ h9 => h9) rfl dc_M_sort_15 ?_
        refine lv_iload hx hb dc_M_sort_18 (lv_at hl 5 rfl) ?_
        obtain ⟨hin, hw⟩ := hw
        refine va_bald hx hb hK hP 4 3 rfl rfl hin dc_M_sort_20 ?_
        refine lv_iconst (v := 3) hx hb dc_M_sort_21 (by decide) ?_
        obtain ⟨hw1, hw2⟩ := hw
        refine lv_icmp_ne (tgt := 28) hx hb dc_M_sort_22 (by decide) (fun hc => ?_) (fun hc => ?_)
        · have hw := hw1 hc
          clear hw1 hw2
          exact B_28 (wp_M_sort_8 post n8) ih _ _ _ x1 x2 x3 x4 x5 kb kw ks ka kq kc kr kt kd many tsz thr hw hP hD hS (lv_sub hl [0, 1, 2, 3, 4, 5] rfl)
        · have hw := hw2 (fun h9 => h9 hc)
          clear hw1 hw2
          refine lv_iinc (lv' := [(3, .int (x3 + 1)), (0, .ref h1), (1, .int x1), (2, .int x2), (4, .int x4), (5, .int x5)]) hx hb dc_M_sort_25 hl (k := 3) rfl (ic_p1 _) (Nat.le_of_ble_eq_true rfl) rfl (fun ls hl => ?_)
          exact B_28 (wp_M_sort_8 post n8) ih _ _ _ x1 x2 (x3 + 1) x4 x5 kb kw ks ka kq kc kr kt kd many tsz thr hw hP hD hS (lv_sub hl [1, 2, 3, 0, 4, 5] rfl)
  unfold wp_M_sort at hw
  refine lv_iconst (v := 0) hx hb dc_M_sort_0 (by decide) ?_
  refine lv_istore_n (lv' := [(3, .int (0 : Int32)), (0, .ref h1), (1, .int a1), (2, .int a2)]) hx hb dc_M_sort_1 rfl hl (Nat.le_of_ble_eq_true rfl) rfl (fun ls hl => ?_)
  refine lv_iconst (v := 0) hx hb dc_M_sort_2 (by decide) ?_
  refine lv_istore (lv' := [(4, .int (0 : Int32)), (3, .int (0 : Int32)), (0, .ref h1), (1, .int a1), (2, .int a2)]) hx hb dc_M_sort_3 hl (Nat.le_of_ble_eq_true rfl) rfl (fun ls hl => ?_)
  refine lv_iload_n hx hb dc_M_sort_5 rfl (lv_at hl 3 rfl) ?_
  refine lv_istore (lv' := [(5, .int a1), (4, .int (0 : Int32)), (3, .int (0 : Int32)), (0, .ref h1), (1, .int a1), (2, .int a2)]) hx hb dc_M_sort_6 hl (Nat.le_of_ble_eq_true rfl) rfl (fun ls hl => ?_)
  obtain ⟨n8, hw⟩ := hw
  exact B_8 n8 _ _ _ a1 a2 (0 : Int32) (0 : Int32) a1 kb kw ks ka kq kc kr kt kd many tsz thr hw hP hD hS (lv_sub hl [3, 4, 5, 2, 1, 0] rfl)

set_option maxHeartbeats 4000000 in
set_option maxRecDepth 100000 in
theorem kt_M_text (l : Launch) (dC : Nat → ClassId) (dI : Nat → Nat → Nat) (cJ cI cZ cB : ClassId) (h1 pB pW pS pA pQ pC pR pT pD : Nat) (sz : Nat) (a1 : Int32) (a2 : Int32) (kb : (Nat → Int32)) (kw : (Nat → Int32)) (ks : (Nat → Int32)) (ka : (Nat → Int32)) (kq : (Nat → Int32)) (kc : (Nat → Int32)) (kr : (Nat → Int32)) (kt : (Nat → Int32)) (kd : (Nat → Int32)) (many : Int32) (tsz : Int32) (thr : Int32) (post : Int32 → (Nat → Int32) → (Nat → Int32) → (Nat → Int32) → (Nat → Int32) → (Nat → Int32) → (Nat → Int32) → (Nat → Int32) → (Nat → Int32) → (Nat → Int32) → Int32 → Int32 → Int32 → Prop) (hw : wp_M_text post a1 a2 kb kw ks ka kq kc kr kt kd many tsz thr) : Met l yn_M_text ws_M_text rm_M_text (va_Pc [.ref h1, .int a1, .int a2] (pc_W (dC, dI) (ty_4 cJ cI cZ cB) (wd_M h1 pB pW pS pA pQ pC pR pT pD cJ cI cZ cB kb kw ks ka kq kc kr kt kd many tsz thr) sz)) (qi_M dC dI cJ cI cZ cB h1 pB pW pS pA pQ pC pR pT pD post (va_A (wd_M h1 pB pW pS pA pQ pC pR pT pD cJ cI cZ cB kb kw ks ka kq kc kr kt kd many tsz thr) sz)) 0 0 (va_A (wd_M h1 pB pW pS pA pQ pC pR pT pD cJ cI cZ cB kb kw ks ka kq kc kr kt kd many tsz thr) sz) := by
  refine Met.ofW (cc := cd_M_text) (maxL := 5) (ret := (some .int)) (by decide) rfl ?_
  intro p e s m args below meth c s₁ B hml hv
  obtain ⟨rfl, hsz, hP, hK, hD0, hE⟩ := hv
  have hx := B.exec
  have hb := B.bytes
  have hr := B.returns
  have hts := atoms_spec (ws := ws_M_text) B.pre
  have hq : ∀ {w : Cond}, w ∈ wg_all → w.before ([.ref h1, .int a1, .int a2] : List Value).toArray s = true := fun h => hts _ (List.mem_cons_of_mem _ h)
  have hu : ∀ L : List Cond, (∀ w ∈ L, w ∈ wg_all) → ∀ w ∈ L, w ∈ ws_M_text := fun L h w hw => List.mem_cons_of_mem _ (h w hw)
  have hown : s.vm.findClass "FourWordsModel" = some m.cls := findClass_of_methodNamed B.named
  have hlocks := B.notSynchronized
  subst hsz
  have hD := hD0.self (sz := s.heap.size)
  generalize hAe : va_A (wd_M h1 pB pW pS pA pQ pC pR pT pD cJ cI cZ cB kb kw ks ka kq kc kr kt kd many tsz thr) s.heap.size = A at hD ⊢
  have hA : ∀ q : Nat, s.heap.size ≤ q → A q := fun q h => by rw [← hAe]; exact Or.inr h
  have hS : va_S A s.heap s.heap [] := va_S.rf
  have hl := lv_entry [.ref h1, .int a1, .int a2] (n := 5) (Nat.le_of_ble_eq_true rfl)
  rw [lg_entry_eq]
  generalize (lg_sl [.ref h1, .int a1, .int a2] ++ List.replicate (5 - (lg_sl [.ref h1, .int a1, .int a2]).length) Slot.unset).toArray = ls at hl ⊢
  have hl : lv_has ls 5 [(0, .ref h1), (1, .int a1), (2, .int a2)] := hl
  have B_104 : ∀ (H : Heap) (locs : List Loc) (ls : Array Slot) (kb : (Nat → Int32)) (kw : (Nat → Int32)) (ks : (Nat → Int32)) (ka : (Nat → Int32)) (kq : (Nat → Int32)) (kc : (Nat → Int32)) (kr : (Nat → Int32)) (kt : (Nat → Int32)) (kd : (Nat → Int32)) (many : Int32) (tsz : Int32) (thr : Int32), wp_M_text_104 post kb kw ks ka kq kc kr kt kd many tsz thr → va_P (dC, dI) cs_3 (wd_M h1 pB pW pS pA pQ pC pR pT pD cJ cI cZ cB kb kw ks ka kq kc kr kt kd many tsz thr) H → va_D A (wd_M h1 pB pW pS pA pQ pC pR pT pD cJ cI cZ cB kb kw ks ka kq kc kr kt kd many tsz thr) → va_S A s.heap H locs → lv_has ls 5 [(0, .ref h1)] → W p l e (headSpec ws_M_text rm_M_text).room s m ([.ref h1, .int a1, .int a2] : List Value).toArray below meth c H locs 0 0 (MQ below (qi_M dC dI cJ cI cZ cB h1 pB pW pS pA pQ pC pR pT pD post A) ([.ref h1, .int a1, .int a2] : List Value).toArray s 0 0 A) (F0 m 104 ls []) := by
    intro H locs ls kb kw ks ka kq kc kr kt kd many tsz thr hw hP hD hS hl
    unfold wp_M_text_104 at hw
    refine lv_aload_n hx hb dc_M_text_104 rfl (lv_at hl 0 rfl) ?_
    refine va_get (D := (dC, dI)) (ci := 2) (v := .int tsz) (C := "FourWordsModel") (T := tb_M) (N := 12) hx hb hts (hu _ um_M) hown hK hP 0 rfl rfl 9 (by decide) (hq mw_t469) (fun _ h9 => h9) rfl dc_M_text_105 ?_
    exact W.iret (v := tsz) hx hb hr (fun t ht hW => ⟨⟨tsz, (kb, kw, ks, ka, kq, kc, kr, kt, kd, many, tsz, thr), rfl, hw, by rw [ht]; exact hP, va_K.moved hW.alike hK, hD⟩, hS.F ht⟩) hS.2.2 dc_M_text_108
  have B_98 : ∀ (H : Heap) (locs : List Loc) (ls : Array Slot) (x2 : Int32) (x4 : Int32) (t0 : Int32) (kb : (Nat → Int32)) (kw : (Nat → Int32)) (ks : (Nat → Int32)) (ka : (Nat → Int32)) (kq : (Nat → Int32)) (kc : (Nat → Int32)) (kr : (Nat → Int32)) (kt : (Nat → Int32)) (kd : (Nat → Int32)) (many : Int32) (tsz : Int32) (thr : Int32), wp_M_text_98 post x2 x4 t0 kb kw ks ka kq kc kr kt kd many tsz thr → va_P (dC, dI) cs_3 (wd_M h1 pB pW pS pA pQ pC pR pT pD cJ cI cZ cB kb kw ks ka kq kc kr kt kd many tsz thr) H → va_D A (wd_M h1 pB pW pS pA pQ pC pR pT pD cJ cI cZ cB kb kw ks ka kq kc kr kt kd many tsz thr) → va_S A s.heap H locs → lv_has ls 5 [(0, .ref h1), (2, .int x2), (4, .int x4)] → W p l e (headSpec ws_M_text rm_M_text).room s m ([.ref h1, .int a1, .int a2] : List Value).toArray below meth c H locs 0 0 (MQ below (qi_M dC dI cJ cI cZ cB h1 pB pW pS pA pQ pC pR pT pD post A) ([.ref h1, .int a1, .int a2] : List Value).toArray s 0 0 A) (F0 m 98 ls [.int t0, .ref h1]) := by
    intro H locs ls x2 x4 t0 kb kw ks ka kq kc kr kt kd many tsz thr hw hP hD hS hl
    unfold wp_M_text_98 at hw
    refine lv_iload hx hb dc_M_text_98 (lv_at hl 2 rfl) ?_
    refine lv_iload_n hx hb dc_M_text_100 rfl (lv_at hl 1 rfl) ?_
    refine gc_v (S := (Nat → Int32) × (Nat → Int32) × (Nat → Int32) × (Nat → Int32) × (Nat → Int32) × (Nat → Int32) × (Nat → Int32) × (Nat → Int32) × (Nat → Int32) × Int32 × Int32 × Int32) (w1 := (fun u => (wd_M h1 pB pW pS pA pQ pC pR pT pD cJ cI cZ cB u.1 u.2.1 u.2.2.1 u.2.2.2.1 u.2.2.2.2.1 u.2.2.2.2.2.1 u.2.2.2.2.2.2.1 u.2.2.2.2.2.2.2.1 u.2.2.2.2.2.2.2.2.1 u.2.2.2.2.2.2.2.2.2.1 u.2.2.2.2.2.2.2.2.2.2.1 u.2.2.2.2.2.2.2.2.2.2.2))) (wc := (wd_M h1 pB pW pS pA pQ pC pR pT pD cJ cI cZ cB kb kw ks ka kq kc kr kt kd many tsz thr)) (wr := ([] : va_W)) (va_runV (As := [.int t0, .int x4, .int x2]) (rest := []) ⟨hx, hb, hml, hown, hts⟩ (kt_M_groups l dC dI cJ cI cZ cB h1 pB pW pS pA pQ pC pR pT pD _ t0 x4 x2 kb kw ks ka kq kc kr kt kd many tsz thr _ hw) ⟨callB_of 3 hts (gw_in mw_t654) rfl rfl rfl (hq mw_t3) (hq mw_t651) (by decide +kernel) ⟨Nat.le_of_ble_eq_true rfl, Nat.le_of_ble_eq_true rfl⟩, hq mw_t653, hq mw_s53⟩ (pv_W (va_recv (q0 := 0) (ci := 2) hK hP rfl rfl) (hP.sub (ws' := (wd_M h1 pB pW pS pA pQ pC pR pT pD cJ cI cZ cB kb kw ks ka kq kc kr kt kd many tsz thr)) [0, 1, 2, 3, 4, 5, 6, 7, 8, 9] rfl) hK (hD.sub (ws' := (wd_M h1 pB pW pS pA pQ pC pR pT pD cJ cI cZ cB kb kw ks ka kq kc kr kt kd many tsz thr)) [0, 1, 2, 3, 4, 5, 6, 7, 8, 9] (by decide) rfl) hE) rfl rfl hl.1 rfl (lv_room (Nat.le_of_ble_eq_true rfl)) dc_M_text_101 ⟨Nat.le_of_ble_eq_true rfl, Nat.le_of_ble_eq_true rfl⟩) hP hD hS hA [0, 1, 2, 3, 4, 5, 6, 7, 8, 9] [] rfl rfl (by decide) (by decide) (fun u H locs hw hP hD hS => ?_)
    obtain ⟨kb101, kw101, ks101, ka101, kq101, kc101, kr101, kt101, kd101, many101, tsz101, thr101⟩ := u
    have hP : va_P (dC, dI) cs_3 (wd_M h1 pB pW pS pA pQ pC pR pT pD cJ cI cZ cB kb101 kw101 ks101 ka101 kq101 kc101 kr101 kt101 kd101 many101 tsz101 thr101) H := hP.sub (ws' := (wd_M h1 pB pW pS pA pQ pC pR pT pD cJ cI cZ cB kb101 kw101 ks101 ka101 kq101 kc101 kr101 kt101 kd101 many101 tsz101 thr101)) [0, 1, 2, 3, 4, 5, 6, 7, 8, 9] rfl
    have hD : va_D A (wd_M h1 pB pW pS pA pQ pC pR pT pD cJ cI cZ cB kb101 kw101 ks101 ka101 kq101 kc101 kr101 kt101 kd101 many101 tsz101 thr101) := hD.sub (ws' := (wd_M h1 pB pW pS pA pQ pC pR pT pD cJ cI cZ cB kb101 kw101 ks101 ka101 kq101 kc101 kr101 kt101 kd101 many101 tsz101 thr101)) [0, 1, 2, 3, 4, 5, 6, 7, 8, 9] (by decide) rfl
    try dsimp only at hw
    exact B_104 _ _ _ kb101 kw101 ks101 ka101 kq101 kc101 kr101 kt101 kd101 many101 tsz101 thr101 hw hP hD hS (lv_sub hl [0] rfl)
  have B_15 : ∀ (H : Heap) (locs : List Loc) (ls : Array Slot) (x1 : Int32) (x2 : Int32) (t0 : Int32) (kb : (Nat → Int32)) (kw : (Nat → Int32)) (ks : (Nat → Int32)) (ka : (Nat → Int32)) (kq : (Nat → Int32)) (kc : (Nat → Int32)) (kr : (Nat → Int32)) (kt : (Nat → Int32)) (kd : (Nat → Int32)) (many : Int32) (tsz : Int32) (thr : Int32), wp_M_text_15 post x1 x2 t0 kb kw ks ka kq kc kr kt kd many tsz thr → va_P (dC, dI) cs_3 (wd_M h1 pB pW pS pA pQ pC pR pT pD cJ cI cZ cB kb kw ks ka kq kc kr kt kd many tsz thr) H → va_D A (wd_M h1 pB pW pS pA pQ pC pR pT pD cJ cI cZ cB kb kw ks ka kq kc kr kt kd many tsz thr) → va_S A s.heap H locs → lv_has ls 5 [(0, .ref h1), (1, .int x1), (2, .int x2)] → W p l e (headSpec ws_M_text rm_M_text).room s m ([.ref h1, .int a1, .int a2] : List Value).toArray below meth c H locs 0 0 (MQ below (qi_M dC dI cJ cI cZ cB h1 pB pW pS pA pQ pC pR pT pD post A) ([.ref h1, .int a1, .int a2] : List Value).toArray s 0 0 A) (F0 m 15 ls [.int t0, .ref h1]) := by
    intro H locs ls x1 x2 t0 kb kw ks ka kq kc kr kt kd many tsz thr hw hP hD hS hl
    unfold wp_M_text_15 at hw
    refine lv_iconst (v := 1) hx hb dc_M_text_15 (by decide) ?_
    refine lv_iconst (v := 1) hx hb dc_M_text_16 (by decide) ?_
    refine gc_i (S := (Nat → Int32) × (Nat → Int32) × (Nat → Int32) × (Nat → Int32) × (Nat → Int32) × (Nat → Int32) × (Nat → Int32) × (Nat → Int32) × (Nat → Int32) × Int32 × Int32 × Int32) (w1 := (fun u => (wd_M h1 pB pW pS pA pQ pC pR pT pD cJ cI cZ cB u.1 u.2.1 u.2.2.1 u.2.2.2.1 u.2.2.2.2.1 u.2.2.2.2.2.1 u.2.2.2.2.2.2.1 u.2.2.2.2.2.2.2.1 u.2.2.2.2.2.2.2.2.1 u.2.2.2.2.2.2.2.2.2.1 u.2.2.2.2.2.2.2.2.2.2.1 u.2.2.2.2.2.2.2.2.2.2.2))) (wc := (wd_M h1 pB pW pS pA pQ pC pR pT pD cJ cI cZ cB kb kw ks ka kq kc kr kt kd many tsz thr)) (wr := ([] : va_W)) (va_runV (As := [.int t0, .int (1 : Int32), .int (1 : Int32)]) (rest := []) ⟨hx, hb, hml, hown, hts⟩ (kt_M_refuse l dC dI cJ cI cZ cB h1 pB pW pS pA pQ pC pR pT pD _ t0 (1 : Int32) (1 : Int32) kb kw ks ka kq kc kr kt kd many tsz thr _ hw) ⟨callB_of 3 hts (gw_in mw_t508) rfl rfl rfl (hq mw_t3) (hq mw_t505) (by decide +kernel) ⟨Nat.le_of_ble_eq_true rfl, Nat.le_of_ble_eq_true rfl⟩, hq mw_t507, hq mw_s34⟩ (pv_W (va_recv (q0 := 0) (ci := 2) hK hP rfl rfl) (hP.sub (ws' := (wd_M h1 pB pW pS pA pQ pC pR pT pD cJ cI cZ cB kb kw ks ka kq kc kr kt kd many tsz thr)) [0, 1, 2, 3, 4, 5, 6, 7, 8, 9] rfl) hK (hD.sub (ws' := (wd_M h1 pB pW pS pA pQ pC pR pT pD cJ cI cZ cB kb kw ks ka kq kc kr kt kd many tsz thr)) [0, 1, 2, 3, 4, 5, 6, 7, 8, 9] (by decide) rfl) hE) rfl rfl hl.1 rfl (lv_room (Nat.le_of_ble_eq_true rfl)) dc_M_text_17 ⟨Nat.le_of_ble_eq_true rfl, Nat.le_of_ble_eq_true rfl⟩) hP hD hS hA [0, 1, 2, 3, 4, 5, 6, 7, 8, 9] [] rfl rfl (by decide) (by decide) (fun r17 u H locs hw hP hD hS => ?_)
    obtain ⟨kb17, kw17, ks17, ka17, kq17, kc17, kr17, kt17, kd17, many17, tsz17, thr17⟩ := u
    have hP : va_P (dC, dI) cs_3 (wd_M h1 pB pW pS pA pQ pC pR pT pD cJ cI cZ cB kb17 kw17 ks17 ka17 kq17 kc17 kr17 kt17 kd17 many17 tsz17 thr17) H := hP.sub (ws' := (wd_M h1 pB pW pS pA pQ pC pR pT pD cJ cI cZ cB kb17 kw17 ks17 ka17 kq17 kc17 kr17 kt17 kd17 many17 tsz17 thr17)) [0, 1, 2, 3, 4, 5, 6, 7, 8, 9] rfl
    have hD : va_D A (wd_M h1 pB pW pS pA pQ pC pR pT pD cJ cI cZ cB kb17 kw17 ks17 ka17 kq17 kc17 kr17 kt17 kd17 many17 tsz17 thr17) := hD.sub (ws' := (wd_M h1 pB pW pS pA pQ pC pR pT pD cJ cI cZ cB kb17 kw17 ks17 ka17 kq17 kc17 kr17 kt17 kd17 many17 tsz17 thr17)) [0, 1, 2, 3, 4, 5, 6, 7, 8, 9] (by decide) rfl
    try dsimp only at hw
    obtain ⟨hw1, hw2⟩ := hw
    refine lv_if_eq (tgt := 25) hx hb dc_M_text_20 (by decide) (fun hc => ?_) (fun hc => ?_)
    · have hw := hw1 hc
      clear hw1 hw2
      refine lv_aload_n hx hb dc_M_text_25 rfl (lv_at hl 0 rfl) ?_
      refine va_get (D := (dC, dI)) (ci := 2) (v := .int many17) (C := "FourWordsModel") (T := tb_M) (N := 12) hx hb hts (hu _ um_M) hown hK hP 0 rfl rfl 8 (by decide) (hq mw_t468) (fun _ h9 => h9) rfl dc_M_text_26 ?_
      refine lv_iconst (v := 1) hx hb dc_M_text_29 (by decide) ?_
      refine lv_isub hx hb dc_M_text_30 ?_
      refine lv_topi (fun v31 e31 => ?_)
      have hw := hw v31 e31
      refine lv_istore_n (lv' := [(3, .int v31), (0, .ref h1), (1, .int x1), (2, .int x2)]) hx hb dc_M_text_31 rfl hl (Nat.le_of_ble_eq_true rfl) rfl (fun ls hl => ?_)
      refine lv_aload_n hx hb dc_M_text_32 rfl (lv_at hl 1 rfl) ?_
      refine va_get (D := (dC, dI)) (ci := 2) (v := .ref pW) (C := "FourWordsModel") (T := tb_M) (N := 12) hx hb hts (hu _ um_M) hown hK hP 0 rfl rfl 1 (by decide) (hq mw_t461) (fun _ h9 => h9) rfl dc_M_text_33 ?_
      refine lv_iload_n hx hb dc_M_text_36 rfl (lv_at hl 0 rfl) ?_
      obtain ⟨hin, hw⟩ := hw
      refine va_iald hx hb hK hP 2 1 rfl rfl hin dc_M_text_37 ?_
      refine lv_topi (fun v38 e38 => ?_)
      have hw := hw v38 e38
      refine lv_istore (lv' := [(4, .int v38), (3, .int v31), (0, .ref h1), (1, .int x1), (2, .int x2)]) hx hb dc_M_text_38 hl (Nat.le_of_ble_eq_true rfl) rfl (fun ls hl => ?_)
      refine lv_aload_n hx hb dc_M_text_40 rfl (lv_at hl 2 rfl) ?_
      refine lv_iload_n hx hb dc_M_text_41 rfl (lv_at hl 1 rfl) ?_
      refine lv_aload_n hx hb dc_M_text_42 rfl (lv_at hl 2 rfl) ?_
      refine va_get (D := (dC, dI)) (ci := 2) (v := .ref pA) (C := "FourWordsModel") (T := tb_M) (N := 12) hx hb hts (hu _ um_M) hown hK hP 0 rfl rfl 3 (by decide) (hq mw_t463) (fun _ h9 => h9) rfl dc_M_text_43 ?_
      refine lv_iload hx hb dc_M_text_46 (lv_at hl 0 rfl) ?_
      refine lv_iconst (v := 0) hx hb dc_M_text_48 (by decide) ?_
      refine gc_v (S := (Nat → Int32) × (Nat → Int32) × (Nat → Int32) × (Nat → Int32) × (Nat → Int32) × (Nat → Int32) × (Nat → Int32) × (Nat → Int32) × (Nat → Int32) × Int32 × Int32 × Int32) (w1 := (fun u => (wd_M h1 pB pW pS pA pQ pC pR pT pD cJ cI cZ cB u.1 u.2.1 u.2.2.1 u.2.2.2.1 u.2.2.2.2.1 u.2.2.2.2.2.1 u.2.2.2.2.2.2.1 u.2.2.2.2.2.2.2.1 u.2.2.2.2.2.2.2.2.1 u.2.2.2.2.2.2.2.2.2.1 u.2.2.2.2.2.2.2.2.2.2.1 u.2.2.2.2.2.2.2.2.2.2.2))) (wc := (wd_M h1 pB pW pS pA pQ pC pR pT pD cJ cI cZ cB kb17 kw17 ks17 ka17 kq17 kc17 kr17 kt17 kd17 many17 tsz17 thr17)) (wr := ([] : va_W)) (va_runV (As := [.int v31, .ref pA, .int v38, .int (0 : Int32)]) (rest := []) ⟨hx, hb, hml, hown, hts⟩ (kt_M_take_a l dC dI cJ cI cZ cB h1 pB pW pS pA pQ pC pR pT pD _ v31 v38 (0 : Int32) kb17 kw17 ks17 ka17 kq17 kc17 kr17 kt17 kd17 many17 tsz17 thr17 _ hw) ⟨callB_of 4 hts (gw_in mw_t525) rfl rfl rfl (hq mw_t3) (hq mw_t522) (by decide +kernel) ⟨Nat.le_of_ble_eq_true rfl, Nat.le_of_ble_eq_true rfl⟩, hq mw_t524, hq mw_s37⟩ (pv_W (va_recv (q0 := 0) (ci := 2) hK hP rfl rfl) (hP.sub (ws' := (wd_M h1 pB pW pS pA pQ pC pR pT pD cJ cI cZ cB kb17 kw17 ks17 ka17 kq17 kc17 kr17 kt17 kd17 many17 tsz17 thr17)) [0, 1, 2, 3, 4, 5, 6, 7, 8, 9] rfl) hK (hD.sub (ws' := (wd_M h1 pB pW pS pA pQ pC pR pT pD cJ cI cZ cB kb17 kw17 ks17 ka17 kq17 kc17 kr17 kt17 kd17 many17 tsz17 thr17)) [0, 1, 2, 3, 4, 5, 6, 7, 8, 9] (by decide) rfl) hE) rfl rfl hl.1 rfl (lv_room (Nat.le_of_ble_eq_true rfl)) dc_M_text_49 ⟨Nat.le_of_ble_eq_true rfl, Nat.le_of_ble_eq_true rfl⟩) hP hD hS hA [0, 1, 2, 3, 4, 5, 6, 7, 8, 9] [] rfl rfl (by decide) (by decide) (fun u H locs hw hP hD hS => ?_)
      obtain ⟨kb49, kw49, ks49, ka49, kq49, kc49, kr49, kt49, kd49, many49, tsz49, thr49⟩ := u
      have hP : va_P (dC, dI) cs_3 (wd_M h1 pB pW pS pA pQ pC pR pT pD cJ cI cZ cB kb49 kw49 ks49 ka49 kq49 kc49 kr49 kt49 kd49 many49 tsz49 thr49) H := hP.sub (ws' := (wd_M h1 pB pW pS pA pQ pC pR pT pD cJ cI cZ cB kb49 kw49 ks49 ka49 kq49 kc49 kr49 kt49 kd49 many49 tsz49 thr49)) [0, 1, 2, 3, 4, 5, 6, 7, 8, 9] rfl
      have hD : va_D A (wd_M h1 pB pW pS pA pQ pC pR pT pD cJ cI cZ cB kb49 kw49 ks49 ka49 kq49 kc49 kr49 kt49 kd49 many49 tsz49 thr49) := hD.sub (ws' := (wd_M h1 pB pW pS pA pQ pC pR pT pD cJ cI cZ cB kb49 kw49 ks49 ka49 kq49 kc49 kr49 kt49 kd49 many49 tsz49 thr49)) [0, 1, 2, 3, 4, 5, 6, 7, 8, 9] (by decide) rfl
      try dsimp only at hw
      refine lv_aload_n hx hb dc_M_text_52 rfl (lv_at hl 2 rfl) ?_
      refine lv_iconst (v := 0) hx hb dc_M_text_53 (by decide) ?_
      refine va_put (D := (dC, dI)) (ci := 2) (v := .int (0 : Int32)) (ty := .int) (C := "FourWordsModel") (T := tb_M) (N := 12) hx hb hts (hu _ um_M) ft_M fk_M fn_M hown hK hP hD hS 0 rfl rfl 9 (by decide) (hq mw_t469) (fun _ h9 => h9) rfl (by decide +kernel) rfl rfl (Nat.le_of_ble_eq_true rfl) dc_M_text_54 (fun H locs hP hD hS => ?_)
      have hP : va_P (dC, dI) cs_3 (wd_M h1 pB pW pS pA pQ pC pR pT pD cJ cI cZ cB kb49 kw49 ks49 ka49 kq49 kc49 kr49 kt49 kd49 many49 (0 : Int32) thr49) H := hP
      have hD : va_D A (wd_M h1 pB pW pS pA pQ pC pR pT pD cJ cI cZ cB kb49 kw49 ks49 ka49 kq49 kc49 kr49 kt49 kd49 many49 (0 : Int32) thr49) := hD
      refine lv_aload_n hx hb dc_M_text_57 rfl (lv_at hl 2 rfl) ?_
      refine lv_dup hx hb dc_M_text_58 rfl ?_
      refine va_get (D := (dC, dI)) (ci := 2) (v := .int many49) (C := "FourWordsModel") (T := tb_M) (N := 12) hx hb hts (hu _ um_M) hown hK hP 0 rfl rfl 8 (by decide) (hq mw_t468) (fun _ h9 => h9) rfl dc_M_text_59 ?_
      refine lv_iconst (v := 1) hx hb dc_M_text_62 (by decide) ?_
      refine lv_isub hx hb dc_M_text_63 ?_
      refine va_put (D := (dC, dI)) (ci := 2) (v := .int (many49 - (1 : Int32))) (ty := .int) (C := "FourWordsModel") (T := tb_M) (N := 12) hx hb hts (hu _ um_M) ft_M fk_M fn_M hown hK hP hD hS 0 rfl rfl 8 (by decide) (hq mw_t468) (fun _ h9 => h9) rfl (by decide +kernel) rfl rfl (Nat.le_of_ble_eq_true rfl) dc_M_text_64 (fun H locs hP hD hS => ?_)
      have hP : va_P (dC, dI) cs_3 (wd_M h1 pB pW pS pA pQ pC pR pT pD cJ cI cZ cB kb49 kw49 ks49 ka49 kq49 kc49 kr49 kt49 kd49 (many49 - (1 : Int32)) (0 : Int32) thr49) H := hP
      have hD : va_D A (wd_M h1 pB pW pS pA pQ pC pR pT pD cJ cI cZ cB kb49 kw49 ks49 ka49 kq49 kc49 kr49 kt49 kd49 (many49 - (1 : Int32)) (0 : Int32) thr49) := hD
      refine lv_iload_n hx hb dc_M_text_67 rfl (lv_at hl 3 rfl) ?_
      refine lv_iconst (v := 2) hx hb dc_M_text_68 (by decide) ?_
      obtain ⟨hw1, hw2⟩ := hw
      refine lv_icmp_ne (tgt := 88) hx hb dc_M_text_69 (by decide) (fun hc => ?_) (fun hc => ?_)
      · have hw := hw1 hc
        clear hw1 hw2
        refine lv_aload_n hx hb dc_M_text_88 rfl (lv_at hl 2 rfl) ?_
        refine lv_iload_n hx hb dc_M_text_89 rfl (lv_at hl 3 rfl) ?_
        obtain ⟨hw1, hw2⟩ := hw
        refine lv_if_ne (tgt := 97) hx hb dc_M_text_90 (by decide) (fun hc => ?_) (fun hc => ?_)
        · have hw := hw1 hc
          clear hw1 hw2
          refine lv_iconst (v := 4) hx hb dc_M_text_97 (by decide) ?_
          exact B_98 _ _ _ x2 v38 (4 : Int32) kb49 kw49 ks49 ka49 kq49 kc49 kr49 kt49 kd49 (many49 - (1 : Int32)) (0 : Int32) thr49 hw hP hD hS (lv_sub hl [2, 4, 0] rfl)
        · have hw := hw2 (fun h9 => h9 hc)
          clear hw1 hw2
          refine lv_iconst (v := 1) hx hb dc_M_text_93 (by decide) ?_
          refine lv_goto (tgt := 98) hx hb dc_M_text_94 (by decide) ?_
          exact B_98 _ _ _ x2 v38 (1 : Int32) kb49 kw49 ks49 ka49 kq49 kc49 kr49 kt49 kd49 (many49 - (1 : Int32)) (0 : Int32) thr49 hw hP hD hS (lv_sub hl [2, 4, 0] rfl)
      · have hw := hw2 (fun h9 => h9 hc)
        clear hw1 hw2
        refine lv_aload_n hx hb dc_M_text_72 rfl (lv_at hl 2 rfl) ?_
        refine lv_iload hx hb dc_M_text_73 (lv_at hl 0 rfl) ?_
        refine lv_aload_n hx hb dc_M_text_75 rfl (lv_at hl 2 rfl) ?_
        refine va_get (D := (dC, dI)) (ci := 2) (v := .ref pS) (C := "FourWordsModel") (T := tb_M) (N := 12) hx hb hts (hu _ um_M) hown hK hP 0 rfl rfl 2 (by decide) (hq mw_t462) (fun _ h9 => h9) rfl dc_M_text_76 ?_
        refine lv_iload_n hx hb dc_M_text_79 rfl (lv_at hl 1 rfl) ?_
        obtain ⟨hin, hw⟩ := hw
        refine va_zald hx hb hK hP 3 2 rfl rfl hin dc_M_text_80 ?_
        refine lv_iload_n hx hb dc_M_text_81 rfl (lv_at hl 4 rfl) ?_
        refine gc_v (S := (Nat → Int32) × (Nat → Int32) × (Nat → Int32) × (Nat → Int32) × (Nat → Int32) × (Nat → Int32) × (Nat → Int32) × (Nat → Int32) × (Nat → Int32) × Int32 × Int32 × Int32) (w1 := (fun u => (wd_M h1 pB pW pS pA pQ pC pR pT pD cJ cI cZ cB u.1 u.2.1 u.2.2.1 u.2.2.2.1 u.2.2.2.2.1 u.2.2.2.2.2.1 u.2.2.2.2.2.2.1 u.2.2.2.2.2.2.2.1 u.2.2.2.2.2.2.2.2.1 u.2.2.2.2.2.2.2.2.2.1 u.2.2.2.2.2.2.2.2.2.2.1 u.2.2.2.2.2.2.2.2.2.2.2))) (wc := (wd_M h1 pB pW pS pA pQ pC pR pT pD cJ cI cZ cB kb49 kw49 ks49 ka49 kq49 kc49 kr49 kt49 kd49 (many49 - (1 : Int32)) (0 : Int32) thr49)) (wr := ([] : va_W)) (va_runV (As := [.int v38, .int (ks49 v31.toNatClampNeg), .int x2]) (rest := []) ⟨hx, hb, hml, hown, hts⟩ (kt_M_number l dC dI cJ cI cZ cB h1 pB pW pS pA pQ pC pR pT pD _ v38 (ks49 v31.toNatClampNeg) x2 kb49 kw49 ks49 ka49 kq49 kc49 kr49 kt49 kd49 (many49 - (1 : Int32)) (0 : Int32) thr49 _ hw) ⟨callB_of 3 hts (gw_in mw_t638) rfl rfl rfl (hq mw_t3) (hq mw_t635) (by decide +kernel) ⟨Nat.le_of_ble_eq_true rfl, Nat.le_of_ble_eq_true rfl⟩, hq mw_t637, hq mw_s49⟩ (pv_W (va_recv (q0 := 0) (ci := 2) hK hP rfl rfl) (hP.sub (ws' := (wd_M h1 pB pW pS pA pQ pC pR pT pD cJ cI cZ cB kb49 kw49 ks49 ka49 kq49 kc49 kr49 kt49 kd49 (many49 - (1 : Int32)) (0 : Int32) thr49)) [0, 1, 2, 3, 4, 5, 6, 7, 8, 9] rfl) hK (hD.sub (ws' := (wd_M h1 pB pW pS pA pQ pC pR pT pD cJ cI cZ cB kb49 kw49 ks49 ka49 kq49 kc49 kr49 kt49 kd49 (many49 - (1 : Int32)) (0 : Int32) thr49)) [0, 1, 2, 3, 4, 5, 6, 7, 8, 9] (by decide) rfl) hE) rfl rfl hl.1 rfl (lv_room (Nat.le_of_ble_eq_true rfl)) dc_M_text_82 ⟨Nat.le_of_ble_eq_true rfl, Nat.le_of_ble_eq_true rfl⟩) hP hD hS hA [0, 1, 2, 3, 4, 5, 6, 7, 8, 9] [] rfl rfl (by decide) (by decide) (fun u H locs hw hP hD hS => ?_)
        obtain ⟨kb82, kw82, ks82, ka82, kq82, kc82, kr82, kt82, kd82, many82, tsz82, thr82⟩ := u
        have hP : va_P (dC, dI) cs_3 (wd_M h1 pB pW pS pA pQ pC pR pT pD cJ cI cZ cB kb82 kw82 ks82 ka82 kq82 kc82 kr82 kt82 kd82 many82 tsz82 thr82) H := hP.sub (ws' := (wd_M h1 pB pW pS pA pQ pC pR pT pD cJ cI cZ cB kb82 kw82 ks82 ka82 kq82 kc82 kr82 kt82 kd82 many82 tsz82 thr82)) [0, 1, 2, 3, 4, 5, 6, 7, 8, 9] rfl
        have hD : va_D A (wd_M h1 pB pW pS pA pQ pC pR pT pD cJ cI cZ cB kb82 kw82 ks82 ka82 kq82 kc82 kr82 kt82 kd82 many82 tsz82 thr82) := hD.sub (ws' := (wd_M h1 pB pW pS pA pQ pC pR pT pD cJ cI cZ cB kb82 kw82 ks82 ka82 kq82 kc82 kr82 kt82 kd82 many82 tsz82 thr82)) [0, 1, 2, 3, 4, 5, 6, 7, 8, 9] (by decide) rfl
        try dsimp only at hw
        refine lv_goto (tgt := 104) hx hb dc_M_text_85 (by decide) ?_
        exact B_104 _ _ _ kb82 kw82 ks82 ka82 kq82 kc82 kr82 kt82 kd82 many82 tsz82 thr82 hw hP hD hS (lv_sub hl [2] rfl)
    · have hw := hw2 hc
      clear hw1 hw2
      refine lv_iconst (v := 0) hx hb dc_M_text_23 (by decide) ?_
      exact W.iret (v := (0 : Int32)) hx hb hr (fun t ht hW => ⟨⟨(0 : Int32), (kb17, kw17, ks17, ka17, kq17, kc17, kr17, kt17, kd17, many17, tsz17, thr17), rfl, hw, by rw [ht]; exact hP, va_K.moved hW.alike hK, hD⟩, hS.F ht⟩) hS.2.2 dc_M_text_24
  have B_10 : ∀ (H : Heap) (locs : List Loc) (ls : Array Slot) (x1 : Int32) (x2 : Int32) (kb : (Nat → Int32)) (kw : (Nat → Int32)) (ks : (Nat → Int32)) (ka : (Nat → Int32)) (kq : (Nat → Int32)) (kc : (Nat → Int32)) (kr : (Nat → Int32)) (kt : (Nat → Int32)) (kd : (Nat → Int32)) (many : Int32) (tsz : Int32) (thr : Int32), wp_M_text_10 post x1 x2 kb kw ks ka kq kc kr kt kd many tsz thr → va_P (dC, dI) cs_3 (wd_M h1 pB pW pS pA pQ pC pR pT pD cJ cI cZ cB kb kw ks ka kq kc kr kt kd many tsz thr) H → va_D A (wd_M h1 pB pW pS pA pQ pC pR pT pD cJ cI cZ cB kb kw ks ka kq kc kr kt kd many tsz thr) → va_S A s.heap H locs → lv_has ls 5 [(0, .ref h1), (1, .int x1), (2, .int x2)] → W p l e (headSpec ws_M_text rm_M_text).room s m ([.ref h1, .int a1, .int a2] : List Value).toArray below meth c H locs 0 0 (MQ below (qi_M dC dI cJ cI cZ cB h1 pB pW pS pA pQ pC pR pT pD post A) ([.ref h1, .int a1, .int a2] : List Value).toArray s 0 0 A) (F0 m 10 ls [.ref h1]) := by
    intro H locs ls x1 x2 kb kw ks ka kq kc kr kt kd many tsz thr hw hP hD hS hl
    unfold wp_M_text_10 at hw
    refine lv_iconst (v := 1) hx hb dc_M_text_10 (by decide) ?_
    refine lv_goto (tgt := 15) hx hb dc_M_text_11 (by decide) ?_
    exact B_15 _ _ _ x1 x2 (1 : Int32) kb kw ks ka kq kc kr kt kd many tsz thr hw hP hD hS (lv_sub hl [0, 1, 2] rfl)
  unfold wp_M_text at hw
  refine lv_aload_n hx hb dc_M_text_0 rfl (lv_at hl 0 rfl) ?_
  refine lv_iload_n hx hb dc_M_text_1 rfl (lv_at hl 1 rfl) ?_
  obtain ⟨hw1, hw2⟩ := hw
  refine lv_if_lt (tgt := 10) hx hb dc_M_text_2 (by decide) (fun hc => ?_) (fun hc => ?_)
  · have hw := hw1 hc
    clear hw1 hw2
    exact B_10 _ _ _ a1 a2 kb kw ks ka kq kc kr kt kd many tsz thr hw hP hD hS (lv_sub hl [0, 1, 2] rfl)
  · have hw := hw2 hc
    clear hw1 hw2
    refine lv_iload_n hx hb dc_M_text_5 rfl (lv_at hl 1 rfl) ?_
    refine lv_iconst (v := 2) hx hb dc_M_text_6 (by decide) ?_
    obtain ⟨hw1, hw2⟩ := hw
    refine lv_icmp_le (tgt := 14) hx hb dc_M_text_7 (by decide) (fun hc => ?_) (fun hc => ?_)
    · have hw := hw1 hc
      clear hw1 hw2
      refine lv_iconst (v := 0) hx hb dc_M_text_14 (by decide) ?_
      exact B_15 _ _ _ a1 a2 (0 : Int32) kb kw ks ka kq kc kr kt kd many tsz thr hw hP hD hS (lv_sub hl [0, 1, 2] rfl)
    · have hw := hw2 hc
      clear hw1 hw2
      exact B_10 _ _ _ a1 a2 kb kw ks ka kq kc kr kt kd many tsz thr hw hP hD hS (lv_sub hl [0, 1, 2] rfl)
set_option maxHeartbeats 4000000 in
set_option maxRecDepth 100000 in
theorem kt_M_letter (l : Launch) (dC : Nat → ClassId) (dI : Nat → Nat → Nat) (cJ cI cZ cB : ClassId) (h1 pB pW pS pA pQ pC pR pT pD : Nat) (sz : Nat) (a1 : Int32) (kb : (Nat → Int32)) (kw : (Nat → Int32)) (ks : (Nat → Int32)) (ka : (Nat → Int32)) (kq : (Nat → Int32)) (kc : (Nat → Int32)) (kr : (Nat → Int32)) (kt : (Nat → Int32)) (kd : (Nat → Int32)) (many : Int32) (tsz : Int32) (thr : Int32) (post : Int32 → (Nat → Int32) → (Nat → Int32) → (Nat → Int32) → (Nat → Int32) → (Nat → Int32) → (Nat → Int32) → (Nat → Int32) → (Nat → Int32) → (Nat → Int32) → Int32 → Int32 → Int32 → Prop) (hw : wp_M_letter post a1 kb kw ks ka kq kc kr kt kd many tsz thr) : Met l yn_M_letter ws_M_letter rm_M_letter (va_Pc [.ref h1, .int a1] (pc_W (dC, dI) (ty_4 cJ cI cZ cB) (wd_M h1 pB pW pS pA pQ pC pR pT pD cJ cI cZ cB kb kw ks ka kq kc kr kt kd many tsz thr) sz)) (qi_M dC dI cJ cI cZ cB h1 pB pW pS pA pQ pC pR pT pD post (va_A (wd_M h1 pB pW pS pA pQ pC pR pT pD cJ cI cZ cB kb kw ks ka kq kc kr kt kd many tsz thr) sz)) 0 0 (va_A (wd_M h1 pB pW pS pA pQ pC pR pT pD cJ cI cZ cB kb kw ks ka kq kc kr kt kd many tsz thr) sz) := by
  refine Met.ofW (cc := cd_M_letter) (maxL := 2) (ret := (some .int)) (by decide) rfl ?_
  intro p e s m args below meth c s₁ B hml hv
  obtain ⟨rfl, hsz, hP, hK, hD0, hE⟩ := hv
  have hx := B.exec
  have hb := B.bytes
  have hr := B.returns
  have hts := atoms_spec (ws := ws_M_letter) B.pre
  have hq : ∀ {w : Cond}, w ∈ wg_all → w.before ([.ref h1, .int a1] : List Value).toArray s = true := fun h => hts _ (List.mem_cons_of_mem _ h)
  have hu : ∀ L : List Cond, (∀ w ∈ L, w ∈ wg_all) → ∀ w ∈ L, w ∈ ws_M_letter := fun L h w hw => List.mem_cons_of_mem _ (h w hw)
  have hown : s.vm.findClass "FourWordsModel" = some m.cls := findClass_of_methodNamed B.named
  have hlocks := B.notSynchronized
  subst hsz
  have hD := hD0.self (sz := s.heap.size)
  generalize hAe : va_A (wd_M h1 pB pW pS pA pQ pC pR pT pD cJ cI cZ cB kb kw ks ka kq kc kr kt kd many tsz thr) s.heap.size = A at hD ⊢
  have hA : ∀ q : Nat, s.heap.size ≤ q → A q := fun q h => by rw [← hAe]; exact Or.inr h
  have hS : va_S A s.heap s.heap [] := va_S.rf
  have hl := lv_entry [.ref h1, .int a1] (n := 2) (Nat.le_of_ble_eq_true rfl)
  rw [lg_entry_eq]
  generalize (lg_sl [.ref h1, .int a1] ++ List.replicate (2 - (lg_sl [.ref h1, .int a1]).length) Slot.unset).toArray = ls at hl ⊢
  have hl : lv_has ls 2 [(0, .ref h1), (1, .int a1)] := hl
  have B_42 : ∀ (H : Heap) (locs : List Loc) (ls : Array Slot) (t0 : Int32) (kb : (Nat → Int32)) (kw : (Nat → Int32)) (ks : (Nat → Int32)) (ka : (Nat → Int32)) (kq : (Nat → Int32)) (kc : (Nat → Int32)) (kr : (Nat → Int32)) (kt : (Nat → Int32)) (kd : (Nat → Int32)) (many : Int32) (tsz : Int32) (thr : Int32), wp_M_letter_42 post t0 kb kw ks ka kq kc kr kt kd many tsz thr → va_P (dC, dI) cs_3 (wd_M h1 pB pW pS pA pQ pC pR pT pD cJ cI cZ cB kb kw ks ka kq kc kr kt kd many tsz thr) H → va_D A (wd_M h1 pB pW pS pA pQ pC pR pT pD cJ cI cZ cB kb kw ks ka kq kc kr kt kd many tsz thr) → va_S A s.heap H locs → lv_has ls 2 [] → W p l e (headSpec ws_M_letter rm_M_letter).room s m ([.ref h1, .int a1] : List Value).toArray below meth c H locs 0 0 (MQ below (qi_M dC dI cJ cI cZ cB h1 pB pW pS pA pQ pC pR pT pD post A) ([.ref h1, .int a1] : List Value).toArray s 0 0 A) (F0 m 42 ls [.int t0]) := by
    intro H locs ls t0 kb kw ks ka kq kc kr kt kd many tsz thr hw hP hD hS hl
    unfold wp_M_letter_42 at hw
    exact W.iret (v := t0) hx hb hr (fun t ht hW => ⟨⟨t0, (kb, kw, ks, ka, kq, kc, kr, kt, kd, many, tsz, thr), rfl, hw, by rw [ht]; exact hP, va_K.moved hW.alike hK, hD⟩, hS.F ht⟩) hS.2.2 dc_M_letter_42
  have B_18 : ∀ (H : Heap) (locs : List Loc) (ls : Array Slot) (x1 : Int32) (t0 : Int32) (kb : (Nat → Int32)) (kw : (Nat → Int32)) (ks : (Nat → Int32)) (ka : (Nat → Int32)) (kq : (Nat → Int32)) (kc : (Nat → Int32)) (kr : (Nat → Int32)) (kt : (Nat → Int32)) (kd : (Nat → Int32)) (many : Int32) (tsz : Int32) (thr : Int32), wp_M_letter_18 post x1 t0 kb kw ks ka kq kc kr kt kd many tsz thr → va_P (dC, dI) cs_3 (wd_M h1 pB pW pS pA pQ pC pR pT pD cJ cI cZ cB kb kw ks ka kq kc kr kt kd many tsz thr) H → va_D A (wd_M h1 pB pW pS pA pQ pC pR pT pD cJ cI cZ cB kb kw ks ka kq kc kr kt kd many tsz thr) → va_S A s.heap H locs → lv_has ls 2 [(0, .ref h1), (1, .int x1)] → W p l e (headSpec ws_M_letter rm_M_letter).room s m ([.ref h1, .int a1] : List Value).toArray below meth c H locs 0 0 (MQ below (qi_M dC dI cJ cI cZ cB h1 pB pW pS pA pQ pC pR pT pD post A) ([.ref h1, .int a1] : List Value).toArray s 0 0 A) (F0 m 18 ls [.int t0, .ref h1]) := by
    intro H locs ls x1 t0 kb kw ks ka kq kc kr kt kd many tsz thr hw hP hD hS hl
    unfold wp_M_letter_18 at hw
    refine va_put (D := (dC, dI)) (ci := 2) (v := .int t0) (ty := .int) (C := "FourWordsModel") (T := tb_M) (N := 12) hx hb hts (hu _ um_M) ft_M fk_M fn_M hown hK hP hD hS 0 rfl rfl 10 (by decide) (hq mw_t470) (fun _ h9 => h9) rfl (by decide +kernel) rfl rfl (Nat.le_of_ble_eq_true rfl) dc_M_letter_18 (fun H locs hP hD hS => ?_)
    have hP : va_P (dC, dI) cs_3 (wd_M h1 pB pW pS pA pQ pC pR pT pD cJ cI cZ cB kb kw ks ka kq kc kr kt kd many tsz t0) H := hP
    have hD : va_D A (wd_M h1 pB pW pS pA pQ pC pR pT pD cJ cI cZ cB kb kw ks ka kq kc kr kt kd many tsz t0) := hD
    refine lv_aload_n hx hb dc_M_letter_21 rfl (lv_at hl 0 rfl) ?_
    refine va_get (D := (dC, dI)) (ci := 2) (v := .int t0) (C := "FourWordsModel") (T := tb_M) (N := 12) hx hb hts (hu _ um_M) hown hK hP 0 rfl rfl 10 (by decide) (hq mw_t470) (fun _ h9 => h9) rfl dc_M_letter_22 ?_
    obtain ⟨hw1, hw2⟩ := hw
    refine lv_if_le (tgt := 32) hx hb dc_M_letter_25 (by decide) (fun hc => ?_) (fun hc => ?_)
    · have hw := hw1 hc
      clear hw1 hw2
      refine lv_aload_n hx hb dc_M_letter_32 rfl (lv_at hl 0 rfl) ?_
      refine va_get (D := (dC, dI)) (ci := 2) (v := .ref pT) (C := "FourWordsModel") (T := tb_M) (N := 12) hx hb hts (hu _ um_M) hown hK hP 0 rfl rfl 7 (by decide) (hq mw_t467) (fun _ h9 => h9) rfl dc_M_letter_33 ?_
      refine lv_iload_n hx hb dc_M_letter_36 rfl (lv_at hl 1 rfl) ?_
      obtain ⟨hin, hw⟩ := hw
      refine va_bald hx hb hK hP 8 3 rfl rfl hin dc_M_letter_37 ?_
      refine lv_sipush (v := 255) hx hb dc_M_letter_38 (by decide) ?_
      refine lv_iand hx hb dc_M_letter_41 ?_
      exact B_42 _ _ _ ((kt x1.toNatClampNeg) &&& (255 : Int32)) kb kw ks ka kq kc kr kt kd many tsz t0 hw hP hD hS (lv_sub hl [] rfl)
    · have hw := hw2 hc
      clear hw1 hw2
      refine lv_iconst (v := 0) hx hb dc_M_letter_28 (by decide) ?_
      refine lv_goto (tgt := 42) hx hb dc_M_letter_29 (by decide) ?_
      exact B_42 _ _ _ (0 : Int32) kb kw ks ka kq kc kr kt kd many tsz t0 hw hP hD hS (lv_sub hl [] rfl)
  have B_13 : ∀ (H : Heap) (locs : List Loc) (ls : Array Slot) (x1 : Int32) (kb : (Nat → Int32)) (kw : (Nat → Int32)) (ks : (Nat → Int32)) (ka : (Nat → Int32)) (kq : (Nat → Int32)) (kc : (Nat → Int32)) (kr : (Nat → Int32)) (kt : (Nat → Int32)) (kd : (Nat → Int32)) (many : Int32) (tsz : Int32) (thr : Int32), wp_M_letter_13 post x1 kb kw ks ka kq kc kr kt kd many tsz thr → va_P (dC, dI) cs_3 (wd_M h1 pB pW pS pA pQ pC pR pT pD cJ cI cZ cB kb kw ks ka kq kc kr kt kd many tsz thr) H → va_D A (wd_M h1 pB pW pS pA pQ pC pR pT pD cJ cI cZ cB kb kw ks ka kq kc kr kt kd many tsz thr) → va_S A s.heap H locs → lv_has ls 2 [(0, .ref h1), (1, .int x1)] → W p l e (headSpec ws_M_letter rm_M_letter).room s m ([.ref h1, .int a1] : List Value).toArray below meth c H locs 0 0 (MQ below (qi_M dC dI cJ cI cZ cB h1 pB pW pS pA pQ pC pR pT pD post A) ([.ref h1, .int a1] : List Value).toArray s 0 0 A) (F0 m 13 ls [.ref h1]) := by
    intro H locs ls x1 kb kw ks ka kq kc kr kt kd many tsz thr hw hP hD hS hl
    unfold wp_M_letter_13 at hw
    refine lv_iconst (v := 1) hx hb dc_M_letter_13 (by decide) ?_
    refine lv_goto (tgt := 18) hx hb dc_M_letter_14 (by decide) ?_
    exact B_18 _ _ _ x1 (1 : Int32) kb kw ks ka kq kc kr kt kd many tsz thr hw hP hD hS (lv_sub hl [0, 1] rfl)
  unfold wp_M_letter at hw
  refine lv_aload_n hx hb dc_M_letter_0 rfl (lv_at hl 0 rfl) ?_
  refine lv_iload_n hx hb dc_M_letter_1 rfl (lv_at hl 1 rfl) ?_
  obtain ⟨hw1, hw2⟩ := hw
  refine lv_if_lt (tgt := 13) hx hb dc_M_letter_2 (by decide) (fun hc => ?_) (fun hc => ?_)
  · have hw := hw1 hc
    clear hw1 hw2
    exact B_13 _ _ _ a1 kb kw ks ka kq kc kr kt kd many tsz thr hw hP hD hS (lv_sub hl [0, 1] rfl)
  · have hw := hw2 hc
    clear hw1 hw2
    refine lv_iload_n hx hb dc_M_letter_5 rfl (lv_at hl 1 rfl) ?_
    refine lv_aload_n hx hb dc_M_letter_6 rfl (lv_at hl 0 rfl) ?_
    refine va_get (D := (dC, dI)) (ci := 2) (v := .int tsz) (C := "FourWordsModel") (T := tb_M) (N := 12) hx hb hts (hu _ um_M) hown hK hP 0 rfl rfl 9 (by decide) (hq mw_t469) (fun _ h9 => h9) rfl dc_M_letter_7 ?_
    obtain ⟨hw1, hw2⟩ := hw
    refine lv_icmp_lt (tgt := 17) hx hb dc_M_letter_10 (by decide) (fun hc => ?_) (fun hc => ?_)
    · have hw := hw1 hc
      clear hw1 hw2
      refine lv_iconst (v := 0) hx hb dc_M_letter_17 (by decide) ?_
      exact B_18 _ _ _ a1 (0 : Int32) kb kw ks ka kq kc kr kt kd many tsz thr hw hP hD hS (lv_sub hl [0, 1] rfl)
    · have hw := hw2 hc
      clear hw1 hw2
      exact B_13 _ _ _ a1 kb kw ks ka kq kc kr kt kd many tsz thr hw hP hD hS (lv_sub hl [0, 1] rfl)
set_option maxHeartbeats 4000000 in
set_option maxRecDepth 100000 in
theorem kt_M_told (l : Launch) (dC : Nat → ClassId) (dI : Nat → Nat → Nat) (cJ cI cZ cB : ClassId) (h1 pB pW pS pA pQ pC pR pT pD : Nat) (sz : Nat) (a1 : Int32) (a2 : Int32) (kb : (Nat → Int32)) (kw : (Nat → Int32)) (ks : (Nat → Int32)) (ka : (Nat → Int32)) (kq : (Nat → Int32)) (kc : (Nat → Int32)) (kr : (Nat → Int32)) (kt : (Nat → Int32)) (kd : (Nat → Int32)) (many : Int32) (tsz : Int32) (thr : Int32) (post : Int64 → (Nat → Int32) → (Nat → Int32) → (Nat → Int32) → (Nat → Int32) → (Nat → Int32) → (Nat → Int32) → (Nat → Int32) → (Nat → Int32) → (Nat → Int32) → Int32 → Int32 → Int32 → Prop) (hw : wp_M_told post a1 a2 kb kw ks ka kq kc kr kt kd many tsz thr) : Met l yn_M_told ws_M_told rm_M_told (va_Pc [.ref h1, .int a1, .int a2] (pc_W (dC, dI) (ty_4 cJ cI cZ cB) (wd_M h1 pB pW pS pA pQ pC pR pT pD cJ cI cZ cB kb kw ks ka kq kc kr kt kd many tsz thr) sz)) (ql_M dC dI cJ cI cZ cB h1 pB pW pS pA pQ pC pR pT pD post (va_A (wd_M h1 pB pW pS pA pQ pC pR pT pD cJ cI cZ cB kb kw ks ka kq kc kr kt kd many tsz thr) sz)) 0 0 (va_A (wd_M h1 pB pW pS pA pQ pC pR pT pD cJ cI cZ cB kb kw ks ka kq kc kr kt kd many tsz thr) sz) := by
  refine Met.ofW (cc := cd_M_told) (maxL := 7) (ret := (some .long)) (by decide) rfl ?_
  intro p e s m args below meth c s₁ B hml hv
  obtain ⟨rfl, hsz, hP, hK, hD0, hE⟩ := hv
  have hx := B.exec
  have hb := B.bytes
  have hr := B.returns
  have hts := atoms_spec (ws := ws_M_told) B.pre
  have hq : ∀ {w : Cond}, w ∈ wg_all → w.before ([.ref h1, .int a1, .int a2] : List Value).toArray s = true := fun h => hts _ (List.mem_cons_of_mem _ h)
  have hu : ∀ L : List Cond, (∀ w ∈ L, w ∈ wg_all) → ∀ w ∈ L, w ∈ ws_M_told := fun L h w hw => List.mem_cons_of_mem _ (h w hw)
  have hown : s.vm.findClass "FourWordsModel" = some m.cls := findClass_of_methodNamed B.named
  have hlocks := B.notSynchronized
  subst hsz
  have hD := hD0.self (sz := s.heap.size)
  generalize hAe : va_A (wd_M h1 pB pW pS pA pQ pC pR pT pD cJ cI cZ cB kb kw ks ka kq kc kr kt kd many tsz thr) s.heap.size = A at hD ⊢
  have hA : ∀ q : Nat, s.heap.size ≤ q → A q := fun q h => by rw [← hAe]; exact Or.inr h
  have hS : va_S A s.heap s.heap [] := va_S.rf
  have hl := lv_entry [.ref h1, .int a1, .int a2] (n := 7) (Nat.le_of_ble_eq_true rfl)
  rw [lg_entry_eq]
  generalize (lg_sl [.ref h1, .int a1, .int a2] ++ List.replicate (7 - (lg_sl [.ref h1, .int a1, .int a2]).length) Slot.unset).toArray = ls at hl ⊢
  have hl : lv_has ls 7 [(0, .ref h1), (1, .int a1), (2, .int a2)] := hl
  have B_184 : ∀ (K150 : Int32 → Int64 → Int32 → (Nat → Int32) → (Nat → Int32) → (Nat → Int32) → (Nat → Int32) → (Nat → Int32) → (Nat → Int32) → (Nat → Int32) → (Nat → Int32) → (Nat → Int32) → Int32 → Int32 → Int32 → Prop) (hK150 : ∀ (H : Heap) (locs : List Loc) (ls : Array Slot) (x2 : Int32) (x4 : Int64) (x6 : Int32) (kb : (Nat → Int32)) (kw : (Nat → Int32)) (ks : (Nat → Int32)) (ka : (Nat → Int32)) (kq : (Nat → Int32)) (kc : (Nat → Int32)) (kr : (Nat → Int32)) (kt : (Nat → Int32)) (kd : (Nat → Int32)) (many : Int32) (tsz : Int32) (thr : Int32), K150 x2 x4 x6 kb kw ks ka kq kc kr kt kd many tsz thr → va_P (dC, dI) cs_3 (wd_M h1 pB pW pS pA pQ pC pR pT pD cJ cI cZ cB kb kw ks ka kq kc kr kt kd many tsz thr) H → va_D A (wd_M h1 pB pW pS pA pQ pC pR pT pD cJ cI cZ cB kb kw ks ka kq kc kr kt kd many tsz thr) → va_S A s.heap H locs → lv_has ls 7 [(0, .ref h1), (2, .int x2), (4, .long x4), (6, .int x6)] → W p l e (headSpec ws_M_told rm_M_told).room s m ([.ref h1, .int a1, .int a2] : List Value).toArray below meth c H locs 0 0 (MQ below (ql_M dC dI cJ cI cZ cB h1 pB pW pS pA pQ pC pR pT pD post A) ([.ref h1, .int a1, .int a2] : List Value).toArray s 0 0 A) (F0 m 150 ls [])) (H : Heap) (locs : List Loc) (ls : Array Slot) (x2 : Int32) (x6 : Int32) (t0 : Int32) (t1 : Int64) (kb : (Nat → Int32)) (kw : (Nat → Int32)) (ks : (Nat → Int32)) (ka : (Nat → Int32)) (kq : (Nat → Int32)) (kc : (Nat → Int32)) (kr : (Nat → Int32)) (kt : (Nat → Int32)) (kd : (Nat → Int32)) (many : Int32) (tsz : Int32) (thr : Int32), wp_M_told_184 K150 post x2 x6 t0 t1 kb kw ks ka kq kc kr kt kd many tsz thr → va_P (dC, dI) cs_3 (wd_M h1 pB pW pS pA pQ pC pR pT pD cJ cI cZ cB kb kw ks ka kq kc kr kt kd many tsz thr) H → va_D A (wd_M h1 pB pW pS pA pQ pC pR pT pD cJ cI cZ cB kb kw ks ka kq kc kr kt kd many tsz thr) → va_S A s.heap H locs → lv_has ls 7 [(0, .ref h1), (2, .int x2), (6, .int x6)] → W p l e (headSpec ws_M_told rm_M_told).room s m ([.ref h1, .int a1, .int a2] : List Value).toArray below meth c H locs 0 0 (MQ below (ql_M dC dI cJ cI cZ cB h1 pB pW pS pA pQ pC pR pT pD post A) ([.ref h1, .int a1, .int a2] : List Value).toArray s 0 0 A) (F0 m 184 ls [.int t0, .long t1]) := by
    intro K150 hK150 H locs ls x2 x6 t0 t1 kb kw ks ka kq kc kr kt kd many tsz thr hw hP hD hS hl
    unfold wp_M_told_184 at hw
    refine lv_i2l hx hb dc_M_told_184 rfl ?_
    refine lv_lor hx hb dc_M_told_185 ?_
    refine lv_topl (fun v186 e186 => ?_)
    have hw := hw v186 e186
    refine lv_lstore (lv' := [(4, .long v186), (0, .ref h1), (2, .int x2), (6, .int x6)]) hx hb dc_M_told_186 hl (Nat.le_of_ble_eq_true rfl) rfl (fun ls hl => ?_)
    refine lv_iinc (lv' := [(6, .int (x6 + (-1))), (4, .long v186), (0, .ref h1), (2, .int x2)]) hx hb dc_M_told_188 hl (k := 3) rfl (ic_m1 _) (Nat.le_of_ble_eq_true rfl) rfl (fun ls hl => ?_)
    refine lv_goto (tgt := 150) hx hb dc_M_told_191 (by decide) ?_
    exact hK150 _ _ _ x2 v186 (x6 + (-1)) kb kw ks ka kq kc kr kt kd many tsz thr hw hP hD hS (lv_sub hl [2, 3, 1, 0] rfl)
  have B_150 : ∀ (n150 : Nat) (H : Heap) (locs : List Loc) (ls : Array Slot) (x2 : Int32) (x4 : Int64) (x6 : Int32) (kb : (Nat → Int32)) (kw : (Nat → Int32)) (ks : (Nat → Int32)) (ka : (Nat → Int32)) (kq : (Nat → Int32)) (kc : (Nat → Int32)) (kr : (Nat → Int32)) (kt : (Nat → Int32)) (kd : (Nat → Int32)) (many : Int32) (tsz : Int32) (thr : Int32), wp_M_told_150 post n150 x2 x4 x6 kb kw ks ka kq kc kr kt kd many tsz thr → va_P (dC, dI) cs_3 (wd_M h1 pB pW pS pA pQ pC pR pT pD cJ cI cZ cB kb kw ks ka kq kc kr kt kd many tsz thr) H → va_D A (wd_M h1 pB pW pS pA pQ pC pR pT pD cJ cI cZ cB kb kw ks ka kq kc kr kt kd many tsz thr) → va_S A s.heap H locs → lv_has ls 7 [(0, .ref h1), (2, .int x2), (4, .long x4), (6, .int x6)] → W p l e (headSpec ws_M_told rm_M_told).room s m ([.ref h1, .int a1, .int a2] : List Value).toArray below meth c H locs 0 0 (MQ below (ql_M dC dI cJ cI cZ cB h1 pB pW pS pA pQ pC pR pT pD post A) ([.ref h1, .int a1, .int a2] : List Value).toArray s 0 0 A) (F0 m 150 ls []) := by
    intro n150
    induction n150 with
    | zero => intro H locs ls x2 x4 x6 kb kw ks ka kq kc kr kt kd many tsz thr hw; exact False.elim hw
    | succ n150 ih =>
      intro H locs ls x2 x4 x6 kb kw ks ka kq kc kr kt kd many tsz thr hw hP hD hS hl
      unfold wp_M_told_150 at hw
      refine lv_iload hx hb dc_M_told_150 (lv_at hl 3 rfl) ?_
      obtain ⟨hw1, hw2⟩ := hw
      refine lv_if_lt (tgt := 194) hx hb dc_M_told_152 (by decide) (fun hc => ?_) (fun hc => ?_)
      · have hw := hw1 hc
        clear hw1 hw2
        refine lv_lload hx hb dc_M_told_194 (lv_at hl 2 rfl) ?_
        exact W.lret (v := x4) hx hb hr (fun t ht hW => ⟨⟨x4, (kb, kw, ks, ka, kq, kc, kr, kt, kd, many, tsz, thr), rfl, hw, by rw [ht]; exact hP, va_K.moved hW.alike hK, hD⟩, hS.F ht⟩) hS.2.2 dc_M_told_196
      · have hw := hw2 hc
        clear hw1 hw2
        refine lv_lload hx hb dc_M_told_155 (lv_at hl 2 rfl) ?_
        refine lv_iconst (v := 1) hx hb dc_M_told_157 (by decide) ?_
        refine lv_lshl hx hb dc_M_told_158 rfl ?_
        refine lv_iload_n hx hb dc_M_told_159 rfl (lv_at hl 1 rfl) ?_
        obtain ⟨hw1, hw2⟩ := hw
        refine lv_if_ne (tgt := 175) hx hb dc_M_told_160 (by decide) (fun hc => ?_) (fun hc => ?_)
        · have hw := hw1 hc
          clear hw1 hw2
          refine lv_aload_n hx hb dc_M_told_175 rfl (lv_at hl 0 rfl) ?_
          refine va_get (D := (dC, dI)) (ci := 2) (v := .ref pA) (C := "FourWordsModel") (T := tb_M) (N := 12) hx hb hts (hu _ um_M) hown hK hP 0 rfl rfl 3 (by decide) (hq mw_t463) (fun _ h9 => h9) rfl dc_M_told_176 ?_
          refine lv_iload hx hb dc_M_told_179 (lv_at hl 3 rfl) ?_
          obtain ⟨hin, hw⟩ := hw
          refine va_bald hx hb hK hP 4 3 rfl rfl hin dc_M_told_181 ?_
          refine lv_iconst (v := 1) hx hb dc_M_told_182 (by decide) ?_
          refine lv_ishr hx hb dc_M_told_183 ?_
          exact B_184 (wp_M_told_150 post n150) ih _ _ _ x2 x6 ((ka x6.toNatClampNeg) >>> ((1 : Int32) &&& 31)) (x4 <<< ((1 : Int32).toInt64 &&& 63)) kb kw ks ka kq kc kr kt kd many tsz thr hw hP hD hS (lv_sub hl [0, 1, 3] rfl)
        · have hw := hw2 (fun h9 => h9 hc)
          clear hw1 hw2
          refine lv_aload_n hx hb dc_M_told_163 rfl (lv_at hl 0 rfl) ?_
          refine va_get (D := (dC, dI)) (ci := 2) (v := .ref pA) (C := "FourWordsModel") (T := tb_M) (N := 12) hx hb hts (hu _ um_M) hown hK hP 0 rfl rfl 3 (by decide) (hq mw_t463) (fun _ h9 => h9) rfl dc_M_told_164 ?_
          refine lv_iload hx hb dc_M_told_167 (lv_at hl 3 rfl) ?_
          obtain ⟨hin, hw⟩ := hw
          refine va_bald hx hb hK hP 4 3 rfl rfl hin dc_M_told_169 ?_
          refine lv_iconst (v := 1) hx hb dc_M_told_170 (by decide) ?_
          refine lv_iand hx hb dc_M_told_171 ?_
          refine lv_goto (tgt := 184) hx hb dc_M_told_172 (by decide) ?_
          exact B_184 (wp_M_told_150 post n150) ih _ _ _ x2 x6 ((ka x6.toNatClampNeg) &&& (1 : Int32)) (x4 <<< ((1 : Int32).toInt64 &&& 63)) kb kw ks ka kq kc kr kt kd many tsz thr hw hP hD hS (lv_sub hl [0, 1, 3] rfl)
  have B_139 : ∀ (H : Heap) (locs : List Loc) (ls : Array Slot) (t0 : Int64) (kb : (Nat → Int32)) (kw : (Nat → Int32)) (ks : (Nat → Int32)) (ka : (Nat → Int32)) (kq : (Nat → Int32)) (kc : (Nat → Int32)) (kr : (Nat → Int32)) (kt : (Nat → Int32)) (kd : (Nat → Int32)) (many : Int32) (tsz : Int32) (thr : Int32), wp_M_told_139 post t0 kb kw ks ka kq kc kr kt kd many tsz thr → va_P (dC, dI) cs_3 (wd_M h1 pB pW pS pA pQ pC pR pT pD cJ cI cZ cB kb kw ks ka kq kc kr kt kd many tsz thr) H → va_D A (wd_M h1 pB pW pS pA pQ pC pR pT pD cJ cI cZ cB kb kw ks ka kq kc kr kt kd many tsz thr) → va_S A s.heap H locs → lv_has ls 7 [] → W p l e (headSpec ws_M_told rm_M_told).room s m ([.ref h1, .int a1, .int a2] : List Value).toArray below meth c H locs 0 0 (MQ below (ql_M dC dI cJ cI cZ cB h1 pB pW pS pA pQ pC pR pT pD post A) ([.ref h1, .int a1, .int a2] : List Value).toArray s 0 0 A) (F0 m 139 ls [.long t0]) := by
    intro H locs ls t0 kb kw ks ka kq kc kr kt kd many tsz thr hw hP hD hS hl
    unfold wp_M_told_139 at hw
    exact W.lret (v := t0) hx hb hr (fun t ht hW => ⟨⟨t0, (kb, kw, ks, ka, kq, kc, kr, kt, kd, many, tsz, thr), rfl, hw, by rw [ht]; exact hP, va_K.moved hW.alike hK, hD⟩, hS.F ht⟩) hS.2.2 dc_M_told_139
  have B_87 : ∀ (H : Heap) (locs : List Loc) (ls : Array Slot) (t0 : Int64) (kb : (Nat → Int32)) (kw : (Nat → Int32)) (ks : (Nat → Int32)) (ka : (Nat → Int32)) (kq : (Nat → Int32)) (kc : (Nat → Int32)) (kr : (Nat → Int32)) (kt : (Nat → Int32)) (kd : (Nat → Int32)) (many : Int32) (tsz : Int32) (thr : Int32), wp_M_told_87 post t0 kb kw ks ka kq kc kr kt kd many tsz thr → va_P (dC, dI) cs_3 (wd_M h1 pB pW pS pA pQ pC pR pT pD cJ cI cZ cB kb kw ks ka kq kc kr kt kd many tsz thr) H → va_D A (wd_M h1 pB pW pS pA pQ pC pR pT pD cJ cI cZ cB kb kw ks ka kq kc kr kt kd many tsz thr) → va_S A s.heap H locs → lv_has ls 7 [] → W p l e (headSpec ws_M_told rm_M_told).room s m ([.ref h1, .int a1, .int a2] : List Value).toArray below meth c H locs 0 0 (MQ below (ql_M dC dI cJ cI cZ cB h1 pB pW pS pA pQ pC pR pT pD post A) ([.ref h1, .int a1, .int a2] : List Value).toArray s 0 0 A) (F0 m 87 ls [.long t0]) := by
    intro H locs ls t0 kb kw ks ka kq kc kr kt kd many tsz thr hw hP hD hS hl
    unfold wp_M_told_87 at hw
    exact W.lret (v := t0) hx hb hr (fun t ht hW => ⟨⟨t0, (kb, kw, ks, ka, kq, kc, kr, kt, kd, many, tsz, thr), rfl, hw, by rw [ht]; exact hP, va_K.moved hW.alike hK, hD⟩, hS.F ht⟩) hS.2.2 dc_M_told_87
  have B_31 : ∀ (H : Heap) (locs : List Loc) (ls : Array Slot) (x1 : Int32) (x2 : Int32) (t0 : Int32) (kb : (Nat → Int32)) (kw : (Nat → Int32)) (ks : (Nat → Int32)) (ka : (Nat → Int32)) (kq : (Nat → Int32)) (kc : (Nat → Int32)) (kr : (Nat → Int32)) (kt : (Nat → Int32)) (kd : (Nat → Int32)) (many : Int32) (tsz : Int32) (thr : Int32), wp_M_told_31 post x1 x2 t0 kb kw ks ka kq kc kr kt kd many tsz thr → va_P (dC, dI) cs_3 (wd_M h1 pB pW pS pA pQ pC pR pT pD cJ cI cZ cB kb kw ks ka kq kc kr kt kd many tsz thr) H → va_D A (wd_M h1 pB pW pS pA pQ pC pR pT pD cJ cI cZ cB kb kw ks ka kq kc kr kt kd many tsz thr) → va_S A s.heap H locs → lv_has ls 7 [(0, .ref h1), (1, .int x1), (2, .int x2)] → W p l e (headSpec ws_M_told rm_M_told).room s m ([.ref h1, .int a1, .int a2] : List Value).toArray below meth c H locs 0 0 (MQ below (ql_M dC dI cJ cI cZ cB h1 pB pW pS pA pQ pC pR pT pD post A) ([.ref h1, .int a1, .int a2] : List Value).toArray s 0 0 A) (F0 m 31 ls [.int t0, .ref h1]) := by
    intro H locs ls x1 x2 t0 kb kw ks ka kq kc kr kt kd many tsz thr hw hP hD hS hl
    unfold wp_M_told_31 at hw
    refine va_put (D := (dC, dI)) (ci := 2) (v := .int t0) (ty := .int) (C := "FourWordsModel") (T := tb_M) (N := 12) hx hb hts (hu _ um_M) ft_M fk_M fn_M hown hK hP hD hS 0 rfl rfl 10 (by decide) (hq mw_t470) (fun _ h9 => h9) rfl (by decide +kernel) rfl rfl (Nat.le_of_ble_eq_true rfl) dc_M_told_31 (fun H locs hP hD hS => ?_)
    have hP : va_P (dC, dI) cs_3 (wd_M h1 pB pW pS pA pQ pC pR pT pD cJ cI cZ cB kb kw ks ka kq kc kr kt kd many tsz t0) H := hP
    have hD : va_D A (wd_M h1 pB pW pS pA pQ pC pR pT pD cJ cI cZ cB kb kw ks ka kq kc kr kt kd many tsz t0) := hD
    refine lv_aload_n hx hb dc_M_told_34 rfl (lv_at hl 0 rfl) ?_
    refine va_get (D := (dC, dI)) (ci := 2) (v := .int t0) (C := "FourWordsModel") (T := tb_M) (N := 12) hx hb hts (hu _ um_M) hown hK hP 0 rfl rfl 10 (by decide) (hq mw_t470) (fun _ h9 => h9) rfl dc_M_told_35 ?_
    obtain ⟨hw1, hw2⟩ := hw
    refine lv_if_le (tgt := 43) hx hb dc_M_told_38 (by decide) (fun hc => ?_) (fun hc => ?_)
    · have hw := hw1 hc
      clear hw1 hw2
      refine lv_aload_n hx hb dc_M_told_43 rfl (lv_at hl 0 rfl) ?_
      refine va_get (D := (dC, dI)) (ci := 2) (v := .int many) (C := "FourWordsModel") (T := tb_M) (N := 12) hx hb hts (hu _ um_M) hown hK hP 0 rfl rfl 8 (by decide) (hq mw_t468) (fun _ h9 => h9) rfl dc_M_told_44 ?_
      refine lv_iconst (v := 1) hx hb dc_M_told_47 (by decide) ?_
      refine lv_isub hx hb dc_M_told_48 ?_
      refine lv_iload_n hx hb dc_M_told_49 rfl (lv_at hl 1 rfl) ?_
      refine lv_isub hx hb dc_M_told_50 ?_
      refine lv_topi (fun v51 e51 => ?_)
      have hw := hw v51 e51
      refine lv_istore_n (lv' := [(3, .int v51), (0, .ref h1), (1, .int x1), (2, .int x2)]) hx hb dc_M_told_51 rfl hl (Nat.le_of_ble_eq_true rfl) rfl (fun ls hl => ?_)
      refine lv_lconst (v := 0) hx hb dc_M_told_52 (by decide) ?_
      refine lv_lstore (lv' := [(4, .long (0 : Int64)), (3, .int v51), (0, .ref h1), (1, .int x1), (2, .int x2)]) hx hb dc_M_told_53 hl (Nat.le_of_ble_eq_true rfl) rfl (fun ls hl => ?_)
      refine lv_iload_n hx hb dc_M_told_55 rfl (lv_at hl 4 rfl) ?_
      refine lv_iconst (v := 2) hx hb dc_M_told_56 (by decide) ?_
      obtain ⟨hw1, hw2⟩ := hw
      refine lv_icmp_ne (tgt := 68) hx hb dc_M_told_57 (by decide) (fun hc => ?_) (fun hc => ?_)
      · have hw := hw1 hc
        clear hw1 hw2
        refine lv_iload_n hx hb dc_M_told_68 rfl (lv_at hl 4 rfl) ?_
        refine lv_iconst (v := 3) hx hb dc_M_told_69 (by decide) ?_
        obtain ⟨hw1, hw2⟩ := hw
        refine lv_icmp_ne (tgt := 88) hx hb dc_M_told_70 (by decide) (fun hc => ?_) (fun hc => ?_)
        · have hw := hw1 hc
          clear hw1 hw2
          refine lv_aload_n hx hb dc_M_told_88 rfl (lv_at hl 2 rfl) ?_
          refine lv_iload_n hx hb dc_M_told_89 rfl (lv_at hl 1 rfl) ?_
          refine lv_aload_n hx hb dc_M_told_90 rfl (lv_at hl 2 rfl) ?_
          refine va_get (D := (dC, dI)) (ci := 2) (v := .ref pA) (C := "FourWordsModel") (T := tb_M) (N := 12) hx hb hts (hu _ um_M) hown hK hP 0 rfl rfl 3 (by decide) (hq mw_t463) (fun _ h9 => h9) rfl dc_M_told_91 ?_
          refine lv_aload_n hx hb dc_M_told_94 rfl (lv_at hl 2 rfl) ?_
          refine va_get (D := (dC, dI)) (ci := 2) (v := .ref pW) (C := "FourWordsModel") (T := tb_M) (N := 12) hx hb hts (hu _ um_M) hown hK hP 0 rfl rfl 1 (by decide) (hq mw_t461) (fun _ h9 => h9) rfl dc_M_told_95 ?_
          refine lv_iload_n hx hb dc_M_told_98 rfl (lv_at hl 1 rfl) ?_
          obtain ⟨hin, hw⟩ := hw
          refine va_iald hx hb hK hP 2 1 rfl rfl hin dc_M_told_99 ?_
          refine lv_iconst (v := 0) hx hb dc_M_told_100 (by decide) ?_
          refine gc_v (S := (Nat → Int32) × (Nat → Int32) × (Nat → Int32) × (Nat → Int32) × (Nat → Int32) × (Nat → Int32) × (Nat → Int32) × (Nat → Int32) × (Nat → Int32) × Int32 × Int32 × Int32) (w1 := (fun u => (wd_M h1 pB pW pS pA pQ pC pR pT pD cJ cI cZ cB u.1 u.2.1 u.2.2.1 u.2.2.2.1 u.2.2.2.2.1 u.2.2.2.2.2.1 u.2.2.2.2.2.2.1 u.2.2.2.2.2.2.2.1 u.2.2.2.2.2.2.2.2.1 u.2.2.2.2.2.2.2.2.2.1 u.2.2.2.2.2.2.2.2.2.2.1 u.2.2.2.2.2.2.2.2.2.2.2))) (wc := (wd_M h1 pB pW pS pA pQ pC pR pT pD cJ cI cZ cB kb kw ks ka kq kc kr kt kd many tsz t0)) (wr := ([] : va_W)) (va_runV (As := [.int v51, .ref pA, .int (kw v51.toNatClampNeg), .int (0 : Int32)]) (rest := []) ⟨hx, hb, hml, hown, hts⟩ (kt_M_take_a l dC dI cJ cI cZ cB h1 pB pW pS pA pQ pC pR pT pD _ v51 (kw v51.toNatClampNeg) (0 : Int32) kb kw ks ka kq kc kr kt kd many tsz t0 _ hw) ⟨callB_of 4 hts (gw_in mw_t525) rfl rfl rfl (hq mw_t3) (hq mw_t522) (by decide +kernel) ⟨Nat.le_of_ble_eq_true rfl, Nat.le_of_ble_eq_true rfl⟩, hq mw_t524, hq mw_s37⟩ (pv_W (va_recv (q0 := 0) (ci := 2) hK hP rfl rfl) (hP.sub (ws' := (wd_M h1 pB pW pS pA pQ pC pR pT pD cJ cI cZ cB kb kw ks ka kq kc kr kt kd many tsz t0)) [0, 1, 2, 3, 4, 5, 6, 7, 8, 9] rfl) hK (hD.sub (ws' := (wd_M h1 pB pW pS pA pQ pC pR pT pD cJ cI cZ cB kb kw ks ka kq kc kr kt kd many tsz t0)) [0, 1, 2, 3, 4, 5, 6, 7, 8, 9] (by decide) rfl) hE) rfl rfl hl.1 rfl (lv_room (Nat.le_of_ble_eq_true rfl)) dc_M_told_101 ⟨Nat.le_of_ble_eq_true rfl, Nat.le_of_ble_eq_true rfl⟩) hP hD hS hA [0, 1, 2, 3, 4, 5, 6, 7, 8, 9] [] rfl rfl (by decide) (by decide) (fun u H locs hw hP hD hS => ?_)
          obtain ⟨kb101, kw101, ks101, ka101, kq101, kc101, kr101, kt101, kd101, many101, tsz101, thr101⟩ := u
          have hP : va_P (dC, dI) cs_3 (wd_M h1 pB pW pS pA pQ pC pR pT pD cJ cI cZ cB kb101 kw101 ks101 ka101 kq101 kc101 kr101 kt101 kd101 many101 tsz101 thr101) H := hP.sub (ws' := (wd_M h1 pB pW pS pA pQ pC pR pT pD cJ cI cZ cB kb101 kw101 ks101 ka101 kq101 kc101 kr101 kt101 kd101 many101 tsz101 thr101)) [0, 1, 2, 3, 4, 5, 6, 7, 8, 9] rfl
          have hD : va_D A (wd_M h1 pB pW pS pA pQ pC pR pT pD cJ cI cZ cB kb101 kw101 ks101 ka101 kq101 kc101 kr101 kt101 kd101 many101 tsz101 thr101) := hD.sub (ws' := (wd_M h1 pB pW pS pA pQ pC pR pT pD cJ cI cZ cB kb101 kw101 ks101 ka101 kq101 kc101 kr101 kt101 kd101 many101 tsz101 thr101)) [0, 1, 2, 3, 4, 5, 6, 7, 8, 9] (by decide) rfl
          try dsimp only at hw
          refine lv_iload_n hx hb dc_M_told_104 rfl (lv_at hl 4 rfl) ?_
          refine lv_iconst (v := 4) hx hb dc_M_told_105 (by decide) ?_
          obtain ⟨hw1, hw2⟩ := hw
          refine lv_icmp_ne (tgt := 140) hx hb dc_M_told_106 (by decide) (fun hc => ?_) (fun hc => ?_)
          · have hw := hw1 hc
            clear hw1 hw2
            refine lv_aload_n hx hb dc_M_told_140 rfl (lv_at hl 2 rfl) ?_
            refine va_get (D := (dC, dI)) (ci := 2) (v := .ref pW) (C := "FourWordsModel") (T := tb_M) (N := 12) hx hb hts (hu _ um_M) hown hK hP 0 rfl rfl 1 (by decide) (hq mw_t461) (fun _ h9 => h9) rfl dc_M_told_141 ?_
            refine lv_iload_n hx hb dc_M_told_144 rfl (lv_at hl 1 rfl) ?_
            obtain ⟨hin, hw⟩ := hw
            refine va_iald hx hb hK hP 2 1 rfl rfl hin dc_M_told_145 ?_
            refine lv_iconst (v := 1) hx hb dc_M_told_146 (by decide) ?_
            refine lv_isub hx hb dc_M_told_147 ?_
            refine lv_topi (fun v148 e148 => ?_)
            have hw := hw v148 e148
            refine lv_istore (lv' := [(6, .int v148), (4, .long (0 : Int64)), (3, .int v51), (0, .ref h1), (1, .int x1), (2, .int x2)]) hx hb dc_M_told_148 hl (Nat.le_of_ble_eq_true rfl) rfl (fun ls hl => ?_)
            obtain ⟨n150, hw⟩ := hw
            exact B_150 n150 _ _ _ x2 (0 : Int64) v148 kb101 kw101 ks101 ka101 kq101 kc101 kr101 kt101 kd101 many101 tsz101 thr101 hw hP hD hS (lv_sub hl [3, 5, 1, 0] rfl)
          · have hw := hw2 (fun h9 => h9 hc)
            clear hw1 hw2
            refine lv_aload_n hx hb dc_M_told_109 rfl (lv_at hl 2 rfl) ?_
            refine va_get (D := (dC, dI)) (ci := 2) (v := .ref pA) (C := "FourWordsModel") (T := tb_M) (N := 12) hx hb hts (hu _ um_M) hown hK hP 0 rfl rfl 3 (by decide) (hq mw_t463) (fun _ h9 => h9) rfl dc_M_told_110 ?_
            refine lv_aload_n hx hb dc_M_told_113 rfl (lv_at hl 2 rfl) ?_
            refine va_get (D := (dC, dI)) (ci := 2) (v := .ref pW) (C := "FourWordsModel") (T := tb_M) (N := 12) hx hb hts (hu _ um_M) hown hK hP 0 rfl rfl 1 (by decide) (hq mw_t461) (fun _ h9 => h9) rfl dc_M_told_114 ?_
            refine lv_iload_n hx hb dc_M_told_117 rfl (lv_at hl 1 rfl) ?_
            obtain ⟨hin, hw⟩ := hw
            refine va_iald hx hb hK hP 2 1 rfl rfl hin dc_M_told_118 ?_
            refine gc_i (S := (Nat → Int32)) (w1 := (fun u => (wd_A pA cJ cI cZ cB u))) (wc := (wd_A pA cJ cI cZ cB ka101)) (wr := ([(h1, .inr (2, [.ref pB, .ref pW, .ref pS, .ref pA, .ref pQ, .ref pC, .ref pR, .ref pT, .int many101, .int tsz101, .int thr101, .ref pD])), (pB, .inl (cB, 4096, .inl kb101)), (pW, .inl (cI, 64, .inl kw101)), (pS, .inl (cZ, 64, .inl ks101)), (pQ, .inl (cB, 64, .inl kq101)), (pC, .inl (cB, 64, .inl kc101)), (pR, .inl (cB, 65, .inl kr101)), (pT, .inl (cB, 80, .inl kt101)), (pD, .inl (cB, 24, .inl kd101))] : va_W)) (va_runS (As := [.ref pA, .int (kw101 v51.toNatClampNeg)]) (rest := []) ⟨hx, hb, hml, hown, hts⟩ (kt_M_truth l dC dI cJ cI cZ cB pA _ (kw101 v51.toNatClampNeg) ka101 _ hw) ⟨callB_of 2 hts (gw_in mw_t581) rfl rfl rfl (hq mw_t3) (hq mw_t579) (by decide +kernel) ⟨Nat.le_of_ble_eq_true rfl, Nat.le_of_ble_eq_true rfl⟩, hq mw_t580⟩ (ps_W (hP.sub (ws' := (wd_A pA cJ cI cZ cB ka101)) [4] rfl) hK (hD.sub (ws' := (wd_A pA cJ cI cZ cB ka101)) [4] (by decide) rfl) hE) rfl rfl hl.1 rfl (lv_room (Nat.le_of_ble_eq_true rfl)) dc_M_told_119 ⟨Nat.le_of_ble_eq_true rfl, Nat.le_of_ble_eq_true rfl⟩) hP hD hS hA [4] [0, 1, 2, 3, 5, 6, 7, 8, 9] rfl rfl (by decide) (by decide) (fun r119 u H locs hw hP hD hS => ?_)
            obtain ⟨ka119, rfl⟩ : ∃ z, z = u := ⟨_, rfl⟩
            have hP : va_P (dC, dI) cs_3 (wd_M h1 pB pW pS pA pQ pC pR pT pD cJ cI cZ cB kb101 kw101 ks101 ka119 kq101 kc101 kr101 kt101 kd101 many101 tsz101 thr101) H := hP.sub (ws' := (wd_M h1 pB pW pS pA pQ pC pR pT pD cJ cI cZ cB kb101 kw101 ks101 ka119 kq101 kc101 kr101 kt101 kd101 many101 tsz101 thr101)) [0, 1, 2, 3, 9, 4, 5, 6, 7, 8] rfl
            have hD : va_D A (wd_M h1 pB pW pS pA pQ pC pR pT pD cJ cI cZ cB kb101 kw101 ks101 ka119 kq101 kc101 kr101 kt101 kd101 many101 tsz101 thr101) := hD.sub (ws' := (wd_M h1 pB pW pS pA pQ pC pR pT pD cJ cI cZ cB kb101 kw101 ks101 ka119 kq101 kc101 kr101 kt101 kd101 many101 tsz101 thr101)) [0, 1, 2, 3, 9, 4, 5, 6, 7, 8] (by decide) rfl
            try dsimp only at hw
            refine lv_istore (lv' := [(6, .int r119), (4, .long (0 : Int64)), (3, .int v51), (0, .ref h1), (1, .int x1), (2, .int x2)]) hx hb dc_M_told_122 hl (Nat.le_of_ble_eq_true rfl) rfl (fun ls hl => ?_)
            refine lv_iload hx hb dc_M_told_124 (lv_at hl 0 rfl) ?_
            refine lv_iconst (v := 3) hx hb dc_M_told_126 (by decide) ?_
            obtain ⟨hw1, hw2⟩ := hw
            refine lv_icmp_ne (tgt := 136) hx hb dc_M_told_127 (by decide) (fun hc => ?_) (fun hc => ?_)
            · have hw := hw1 hc
              clear hw1 hw2
              refine lv_iload hx hb dc_M_told_136 (lv_at hl 0 rfl) ?_
              refine lv_i2l hx hb dc_M_told_138 rfl ?_
              exact B_139 _ _ _ r119.toInt64 kb101 kw101 ks101 ka119 kq101 kc101 kr101 kt101 kd101 many101 tsz101 thr101 hw hP hD hS (lv_sub hl [] rfl)
            · have hw := hw2 (fun h9 => h9 hc)
              clear hw1 hw2
              refine lv_ldc2 (v := 2) hx hb hown (hq mw_t509) dc_M_told_130 ?_
              refine lv_goto (tgt := 139) hx hb dc_M_told_133 (by decide) ?_
              exact B_139 _ _ _ (2 : Int64) kb101 kw101 ks101 ka119 kq101 kc101 kr101 kt101 kd101 many101 tsz101 thr101 hw hP hD hS (lv_sub hl [] rfl)
        · have hw := hw2 (fun h9 => h9 hc)
          clear hw1 hw2
          refine lv_aload_n hx hb dc_M_told_73 rfl (lv_at hl 2 rfl) ?_
          refine va_get (D := (dC, dI)) (ci := 2) (v := .ref pS) (C := "FourWordsModel") (T := tb_M) (N := 12) hx hb hts (hu _ um_M) hown hK hP 0 rfl rfl 2 (by decide) (hq mw_t462) (fun _ h9 => h9) rfl dc_M_told_74 ?_
          refine lv_iload_n hx hb dc_M_told_77 rfl (lv_at hl 1 rfl) ?_
          obtain ⟨hin, hw⟩ := hw
          refine va_zald hx hb hK hP 3 2 rfl rfl hin dc_M_told_78 ?_
          obtain ⟨hw1, hw2⟩ := hw
          refine lv_if_eq (tgt := 86) hx hb dc_M_told_79 (by decide) (fun hc => ?_) (fun hc => ?_)
          · have hw := hw1 hc
            clear hw1 hw2
            refine lv_lconst (v := 0) hx hb dc_M_told_86 (by decide) ?_
            exact B_87 _ _ _ (0 : Int64) kb kw ks ka kq kc kr kt kd many tsz t0 hw hP hD hS (lv_sub hl [] rfl)
          · have hw := hw2 hc
            clear hw1 hw2
            refine lv_lconst (v := 1) hx hb dc_M_told_82 (by decide) ?_
            refine lv_goto (tgt := 87) hx hb dc_M_told_83 (by decide) ?_
            exact B_87 _ _ _ (1 : Int64) kb kw ks ka kq kc kr kt kd many tsz t0 hw hP hD hS (lv_sub hl [] rfl)
      · have hw := hw2 (fun h9 => h9 hc)
        clear hw1 hw2
        refine lv_aload_n hx hb dc_M_told_60 rfl (lv_at hl 2 rfl) ?_
        refine va_get (D := (dC, dI)) (ci := 2) (v := .ref pW) (C := "FourWordsModel") (T := tb_M) (N := 12) hx hb hts (hu _ um_M) hown hK hP 0 rfl rfl 1 (by decide) (hq mw_t461) (fun _ h9 => h9) rfl dc_M_told_61 ?_
        refine lv_iload_n hx hb dc_M_told_64 rfl (lv_at hl 1 rfl) ?_
        obtain ⟨hin, hw⟩ := hw
        refine va_iald hx hb hK hP 2 1 rfl rfl hin dc_M_told_65 ?_
        refine lv_i2l hx hb dc_M_told_66 rfl ?_
        exact W.lret (v := (kw v51.toNatClampNeg).toInt64) hx hb hr (fun t ht hW => ⟨⟨(kw v51.toNatClampNeg).toInt64, (kb, kw, ks, ka, kq, kc, kr, kt, kd, many, tsz, t0), rfl, hw, by rw [ht]; exact hP, va_K.moved hW.alike hK, hD⟩, hS.F ht⟩) hS.2.2 dc_M_told_67
    · have hw := hw2 hc
      clear hw1 hw2
      refine lv_lconst (v := 0) hx hb dc_M_told_41 (by decide) ?_
      exact W.lret (v := (0 : Int64)) hx hb hr (fun t ht hW => ⟨⟨(0 : Int64), (kb, kw, ks, ka, kq, kc, kr, kt, kd, many, tsz, t0), rfl, hw, by rw [ht]; exact hP, va_K.moved hW.alike hK, hD⟩, hS.F ht⟩) hS.2.2 dc_M_told_42
  have B_26 : ∀ (H : Heap) (locs : List Loc) (ls : Array Slot) (x1 : Int32) (x2 : Int32) (kb : (Nat → Int32)) (kw : (Nat → Int32)) (ks : (Nat → Int32)) (ka : (Nat → Int32)) (kq : (Nat → Int32)) (kc : (Nat → Int32)) (kr : (Nat → Int32)) (kt : (Nat → Int32)) (kd : (Nat → Int32)) (many : Int32) (tsz : Int32) (thr : Int32), wp_M_told_26 post x1 x2 kb kw ks ka kq kc kr kt kd many tsz thr → va_P (dC, dI) cs_3 (wd_M h1 pB pW pS pA pQ pC pR pT pD cJ cI cZ cB kb kw ks ka kq kc kr kt kd many tsz thr) H → va_D A (wd_M h1 pB pW pS pA pQ pC pR pT pD cJ cI cZ cB kb kw ks ka kq kc kr kt kd many tsz thr) → va_S A s.heap H locs → lv_has ls 7 [(0, .ref h1), (1, .int x1), (2, .int x2)] → W p l e (headSpec ws_M_told rm_M_told).room s m ([.ref h1, .int a1, .int a2] : List Value).toArray below meth c H locs 0 0 (MQ below (ql_M dC dI cJ cI cZ cB h1 pB pW pS pA pQ pC pR pT pD post A) ([.ref h1, .int a1, .int a2] : List Value).toArray s 0 0 A) (F0 m 26 ls [.ref h1]) := by
    intro H locs ls x1 x2 kb kw ks ka kq kc kr kt kd many tsz thr hw hP hD hS hl
    unfold wp_M_told_26 at hw
    refine lv_iconst (v := 2) hx hb dc_M_told_26 (by decide) ?_
    refine lv_goto (tgt := 31) hx hb dc_M_told_27 (by decide) ?_
    exact B_31 _ _ _ x1 x2 (2 : Int32) kb kw ks ka kq kc kr kt kd many tsz thr hw hP hD hS (lv_sub hl [0, 1, 2] rfl)
  have B_10 : ∀ (H : Heap) (locs : List Loc) (ls : Array Slot) (x1 : Int32) (x2 : Int32) (kb : (Nat → Int32)) (kw : (Nat → Int32)) (ks : (Nat → Int32)) (ka : (Nat → Int32)) (kq : (Nat → Int32)) (kc : (Nat → Int32)) (kr : (Nat → Int32)) (kt : (Nat → Int32)) (kd : (Nat → Int32)) (many : Int32) (tsz : Int32) (thr : Int32), wp_M_told_10 post x1 x2 kb kw ks ka kq kc kr kt kd many tsz thr → va_P (dC, dI) cs_3 (wd_M h1 pB pW pS pA pQ pC pR pT pD cJ cI cZ cB kb kw ks ka kq kc kr kt kd many tsz thr) H → va_D A (wd_M h1 pB pW pS pA pQ pC pR pT pD cJ cI cZ cB kb kw ks ka kq kc kr kt kd many tsz thr) → va_S A s.heap H locs → lv_has ls 7 [(0, .ref h1), (1, .int x1), (2, .int x2)] → W p l e (headSpec ws_M_told rm_M_told).room s m ([.ref h1, .int a1, .int a2] : List Value).toArray below meth c H locs 0 0 (MQ below (ql_M dC dI cJ cI cZ cB h1 pB pW pS pA pQ pC pR pT pD post A) ([.ref h1, .int a1, .int a2] : List Value).toArray s 0 0 A) (F0 m 10 ls [.ref h1]) := by
    intro H locs ls x1 x2 kb kw ks ka kq kc kr kt kd many tsz thr hw hP hD hS hl
    unfold wp_M_told_10 at hw
    refine lv_iconst (v := 1) hx hb dc_M_told_10 (by decide) ?_
    refine lv_goto (tgt := 31) hx hb dc_M_told_11 (by decide) ?_
    exact B_31 _ _ _ x1 x2 (1 : Int32) kb kw ks ka kq kc kr kt kd many tsz thr hw hP hD hS (lv_sub hl [0, 1, 2] rfl)
  unfold wp_M_told at hw
  refine lv_aload_n hx hb dc_M_told_0 rfl (lv_at hl 0 rfl) ?_
  refine lv_iload_n hx hb dc_M_told_1 rfl (lv_at hl 2 rfl) ?_
  obtain ⟨hw1, hw2⟩ := hw
  refine lv_if_lt (tgt := 10) hx hb dc_M_told_2 (by decide) (fun hc => ?_) (fun hc => ?_)
  · have hw := hw1 hc
    clear hw1 hw2
    exact B_10 _ _ _ a1 a2 kb kw ks ka kq kc kr kt kd many tsz thr hw hP hD hS (lv_sub hl [0, 1, 2] rfl)
  · have hw := hw2 hc
    clear hw1 hw2
    refine lv_iload_n hx hb dc_M_told_5 rfl (lv_at hl 2 rfl) ?_
    refine lv_iconst (v := 4) hx hb dc_M_told_6 (by decide) ?_
    obtain ⟨hw1, hw2⟩ := hw
    refine lv_icmp_le (tgt := 14) hx hb dc_M_told_7 (by decide) (fun hc => ?_) (fun hc => ?_)
    · have hw := hw1 hc
      clear hw1 hw2
      refine lv_iload_n hx hb dc_M_told_14 rfl (lv_at hl 1 rfl) ?_
      obtain ⟨hw1, hw2⟩ := hw
      refine lv_if_lt (tgt := 26) hx hb dc_M_told_15 (by decide) (fun hc => ?_) (fun hc => ?_)
      · have hw := hw1 hc
        clear hw1 hw2
        exact B_26 _ _ _ a1 a2 kb kw ks ka kq kc kr kt kd many tsz thr hw hP hD hS (lv_sub hl [0, 1, 2] rfl)
      · have hw := hw2 hc
        clear hw1 hw2
        refine lv_iload_n hx hb dc_M_told_18 rfl (lv_at hl 1 rfl) ?_
        refine lv_aload_n hx hb dc_M_told_19 rfl (lv_at hl 0 rfl) ?_
        refine va_get (D := (dC, dI)) (ci := 2) (v := .int many) (C := "FourWordsModel") (T := tb_M) (N := 12) hx hb hts (hu _ um_M) hown hK hP 0 rfl rfl 8 (by decide) (hq mw_t468) (fun _ h9 => h9) rfl dc_M_told_20 ?_
        obtain ⟨hw1, hw2⟩ := hw
        refine lv_icmp_lt (tgt := 30) hx hb dc_M_told_23 (by decide) (fun hc => ?_) (fun hc => ?_)
        · have hw := hw1 hc
          clear hw1 hw2
          refine lv_iconst (v := 0) hx hb dc_M_told_30 (by decide) ?_
          exact B_31 _ _ _ a1 a2 (0 : Int32) kb kw ks ka kq kc kr kt kd many tsz thr hw hP hD hS (lv_sub hl [0, 1, 2] rfl)
        · have hw := hw2 hc
          clear hw1 hw2
          exact B_26 _ _ _ a1 a2 kb kw ks ka kq kc kr kt kd many tsz thr hw hP hD hS (lv_sub hl [0, 1, 2] rfl)
    · have hw := hw2 hc
      clear hw1 hw2
      exact B_10 _ _ _ a1 a2 kb kw ks ka kq kc kr kt kd many tsz thr hw hP hD hS (lv_sub hl [0, 1, 2] rfl)
set_option maxHeartbeats 4000000 in
set_option maxRecDepth 100000 in
theorem kt_M_count (l : Launch) (dC : Nat → ClassId) (dI : Nat → Nat → Nat) (cJ cI cZ cB : ClassId) (h1 pB pW pS pA pQ pC pR pT pD : Nat) (sz : Nat) (a1 : Int32) (kb : (Nat → Int32)) (kw : (Nat → Int32)) (ks : (Nat → Int32)) (ka : (Nat → Int32)) (kq : (Nat → Int32)) (kc : (Nat → Int32)) (kr : (Nat → Int32)) (kt : (Nat → Int32)) (kd : (Nat → Int32)) (many : Int32) (tsz : Int32) (thr : Int32) (post : Int32 → (Nat → Int32) → (Nat → Int32) → (Nat → Int32) → (Nat → Int32) → (Nat → Int32) → (Nat → Int32) → (Nat → Int32) → (Nat → Int32) → (Nat → Int32) → Int32 → Int32 → Int32 → Prop) (hw : wp_M_count post a1 kb kw ks ka kq kc kr kt kd many tsz thr) : Met l yn_M_count ws_M_count rm_M_count (va_Pc [.ref h1, .int a1] (pc_W (dC, dI) (ty_4 cJ cI cZ cB) (wd_M h1 pB pW pS pA pQ pC pR pT pD cJ cI cZ cB kb kw ks ka kq kc kr kt kd many tsz thr) sz)) (qi_M dC dI cJ cI cZ cB h1 pB pW pS pA pQ pC pR pT pD post (va_A (wd_M h1 pB pW pS pA pQ pC pR pT pD cJ cI cZ cB kb kw ks ka kq kc kr kt kd many tsz thr) sz)) 0 0 (va_A (wd_M h1 pB pW pS pA pQ pC pR pT pD cJ cI cZ cB kb kw ks ka kq kc kr kt kd many tsz thr) sz) := by
  refine Met.ofW (cc := cd_M_count) (maxL := 2) (ret := (some .int)) (by decide) rfl ?_
  intro p e s m args below meth c s₁ B hml hv
  obtain ⟨rfl, hsz, hP, hK, hD0, hE⟩ := hv
  have hx := B.exec
  have hb := B.bytes
  have hr := B.returns
  have hts := atoms_spec (ws := ws_M_count) B.pre
  have hq : ∀ {w : Cond}, w ∈ wg_all → w.before ([.ref h1, .int a1] : List Value).toArray s = true := fun h => hts _ (List.mem_cons_of_mem _ h)
  have hu : ∀ L : List Cond, (∀ w ∈ L, w ∈ wg_all) → ∀ w ∈ L, w ∈ ws_M_count := fun L h w hw => List.mem_cons_of_mem _ (h w hw)
  have hown : s.vm.findClass "FourWordsModel" = some m.cls := findClass_of_methodNamed B.named
  have hlocks := B.notSynchronized
  subst hsz
  have hD := hD0.self (sz := s.heap.size)
  generalize hAe : va_A (wd_M h1 pB pW pS pA pQ pC pR pT pD cJ cI cZ cB kb kw ks ka kq kc kr kt kd many tsz thr) s.heap.size = A at hD ⊢
  have hA : ∀ q : Nat, s.heap.size ≤ q → A q := fun q h => by rw [← hAe]; exact Or.inr h
  have hS : va_S A s.heap s.heap [] := va_S.rf
  have hl := lv_entry [.ref h1, .int a1] (n := 2) (Nat.le_of_ble_eq_true rfl)
  rw [lg_entry_eq]
  generalize (lg_sl [.ref h1, .int a1] ++ List.replicate (2 - (lg_sl [.ref h1, .int a1]).length) Slot.unset).toArray = ls at hl ⊢
  have hl : lv_has ls 2 [(0, .ref h1), (1, .int a1)] := hl
  have B_29 : ∀ (H : Heap) (locs : List Loc) (ls : Array Slot) (t0 : Int32) (kb : (Nat → Int32)) (kw : (Nat → Int32)) (ks : (Nat → Int32)) (ka : (Nat → Int32)) (kq : (Nat → Int32)) (kc : (Nat → Int32)) (kr : (Nat → Int32)) (kt : (Nat → Int32)) (kd : (Nat → Int32)) (many : Int32) (tsz : Int32) (thr : Int32), wp_M_count_29 post t0 kb kw ks ka kq kc kr kt kd many tsz thr → va_P (dC, dI) cs_3 (wd_M h1 pB pW pS pA pQ pC pR pT pD cJ cI cZ cB kb kw ks ka kq kc kr kt kd many tsz thr) H → va_D A (wd_M h1 pB pW pS pA pQ pC pR pT pD cJ cI cZ cB kb kw ks ka kq kc kr kt kd many tsz thr) → va_S A s.heap H locs → lv_has ls 2 [] → W p l e (headSpec ws_M_count rm_M_count).room s m ([.ref h1, .int a1] : List Value).toArray below meth c H locs 0 0 (MQ below (qi_M dC dI cJ cI cZ cB h1 pB pW pS pA pQ pC pR pT pD post A) ([.ref h1, .int a1] : List Value).toArray s 0 0 A) (F0 m 29 ls [.int t0]) := by
    intro H locs ls t0 kb kw ks ka kq kc kr kt kd many tsz thr hw hP hD hS hl
    unfold wp_M_count_29 at hw
    exact W.iret (v := t0) hx hb hr (fun t ht hW => ⟨⟨t0, (kb, kw, ks, ka, kq, kc, kr, kt, kd, many, tsz, thr), rfl, hw, by rw [ht]; exact hP, va_K.moved hW.alike hK, hD⟩, hS.F ht⟩) hS.2.2 dc_M_count_29
  unfold wp_M_count at hw
  refine lv_aload_n hx hb dc_M_count_0 rfl (lv_at hl 0 rfl) ?_
  refine lv_iconst (v := 0) hx hb dc_M_count_1 (by decide) ?_
  refine va_put (D := (dC, dI)) (ci := 2) (v := .int (0 : Int32)) (ty := .int) (C := "FourWordsModel") (T := tb_M) (N := 12) hx hb hts (hu _ um_M) ft_M fk_M fn_M hown hK hP hD hS 0 rfl rfl 10 (by decide) (hq mw_t470) (fun _ h9 => h9) rfl (by decide +kernel) rfl rfl (Nat.le_of_ble_eq_true rfl) dc_M_count_2 (fun H locs hP hD hS => ?_)
  have hP : va_P (dC, dI) cs_3 (wd_M h1 pB pW pS pA pQ pC pR pT pD cJ cI cZ cB kb kw ks ka kq kc kr kt kd many tsz (0 : Int32)) H := hP
  have hD : va_D A (wd_M h1 pB pW pS pA pQ pC pR pT pD cJ cI cZ cB kb kw ks ka kq kc kr kt kd many tsz (0 : Int32)) := hD
  refine lv_iload_n hx hb dc_M_count_5 rfl (lv_at hl 1 rfl) ?_
  obtain ⟨hw1, hw2⟩ := hw
  refine lv_if_ne (tgt := 16) hx hb dc_M_count_6 (by decide) (fun hc => ?_) (fun hc => ?_)
  · have hw := hw1 hc
    clear hw1 hw2
    refine lv_iload_n hx hb dc_M_count_16 rfl (lv_at hl 1 rfl) ?_
    refine lv_iconst (v := 1) hx hb dc_M_count_17 (by decide) ?_
    obtain ⟨hw1, hw2⟩ := hw
    refine lv_icmp_ne (tgt := 28) hx hb dc_M_count_18 (by decide) (fun hc => ?_) (fun hc => ?_)
    · have hw := hw1 hc
      clear hw1 hw2
      refine lv_iconst (v := (-1)) hx hb dc_M_count_28 (by decide) ?_
      exact B_29 _ _ _ (-1 : Int32) kb kw ks ka kq kc kr kt kd many tsz (0 : Int32) hw hP hD hS (lv_sub hl [] rfl)
    · have hw := hw2 (fun h9 => h9 hc)
      clear hw1 hw2
      refine lv_aload_n hx hb dc_M_count_21 rfl (lv_at hl 0 rfl) ?_
      refine va_get (D := (dC, dI)) (ci := 2) (v := .int tsz) (C := "FourWordsModel") (T := tb_M) (N := 12) hx hb hts (hu _ um_M) hown hK hP 0 rfl rfl 9 (by decide) (hq mw_t469) (fun _ h9 => h9) rfl dc_M_count_22 ?_
      refine lv_goto (tgt := 29) hx hb dc_M_count_25 (by decide) ?_
      exact B_29 _ _ _ tsz kb kw ks ka kq kc kr kt kd many tsz (0 : Int32) hw hP hD hS (lv_sub hl [] rfl)
  · have hw := hw2 (fun h9 => h9 hc)
    clear hw1 hw2
    refine lv_aload_n hx hb dc_M_count_9 rfl (lv_at hl 0 rfl) ?_
    refine va_get (D := (dC, dI)) (ci := 2) (v := .int many) (C := "FourWordsModel") (T := tb_M) (N := 12) hx hb hts (hu _ um_M) hown hK hP 0 rfl rfl 8 (by decide) (hq mw_t468) (fun _ h9 => h9) rfl dc_M_count_10 ?_
    refine lv_goto (tgt := 29) hx hb dc_M_count_13 (by decide) ?_
    exact B_29 _ _ _ many kb kw ks ka kq kc kr kt kd many tsz (0 : Int32) hw hP hD hS (lv_sub hl [] rfl)

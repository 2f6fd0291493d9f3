set_option maxHeartbeats 4000000 in
set_option maxRecDepth 100000 in
theorem kt_M_one (l : Launch) (dC : Nat → ClassId) (dI : Nat → Nat → Nat) (cJ cI cZ cB : ClassId) (h1 pB pW pS pA pQ pC pR pT pD : Nat) (sz : Nat) (a1 : Int32) (kb : (Nat → Int32)) (kw : (Nat → Int32)) (ks : (Nat → Int32)) (ka : (Nat → Int32)) (kq : (Nat → Int32)) (kc : (Nat → Int32)) (kr : (Nat → Int32)) (kt : (Nat → Int32)) (kd : (Nat → Int32)) (many : Int32) (tsz : Int32) (thr : Int32) (post : (Nat → Int32) → (Nat → Int32) → (Nat → Int32) → (Nat → Int32) → (Nat → Int32) → (Nat → Int32) → (Nat → Int32) → (Nat → Int32) → (Nat → Int32) → Int32 → Int32 → Int32 → Prop) (hw : wp_M_one post a1 kb kw ks ka kq kc kr kt kd many tsz thr) : Met l yn_M_one ws_M_one rm_M_one (va_Pc [.ref h1, .int a1] (pc_W (dC, dI) (ty_4 cJ cI cZ cB) (wd_M h1 pB pW pS pA pQ pC pR pT pD cJ cI cZ cB kb kw ks ka kq kc kr kt kd many tsz thr) sz)) (qv_M dC dI cJ cI cZ cB h1 pB pW pS pA pQ pC pR pT pD post (va_A (wd_M h1 pB pW pS pA pQ pC pR pT pD cJ cI cZ cB kb kw ks ka kq kc kr kt kd many tsz thr) sz)) 0 0 (va_A (wd_M h1 pB pW pS pA pQ pC pR pT pD cJ cI cZ cB kb kw ks ka kq kc kr kt kd many tsz thr) sz) := by
  refine Met.ofW (cc := cd_M_one) (maxL := 7) (ret := none) (by decide) rfl ?_
  intro p e s m args below meth c s₁ B hml hv
  obtain ⟨rfl, hsz, hP, hK, hD0, hE⟩ := hv
  have hx := B.exec
  have hb := B.bytes
  have hr := B.returns
  have hts := atoms_spec (ws := ws_M_one) B.pre
  have hq : ∀ {w : Cond}, w ∈ wg_all → w.before ([.ref h1, .int a1] : List Value).toArray s = true := fun h => hts _ (List.mem_cons_of_mem _ h)
  have hu : ∀ L : List Cond, (∀ w ∈ L, w ∈ wg_all) → ∀ w ∈ L, w ∈ ws_M_one := fun L h w hw => List.mem_cons_of_mem _ (h w hw)
  have hown : s.vm.findClass "FourWordsModel" = some m.cls := findClass_of_methodNamed B.named
  have hlocks := B.notSynchronized
  subst hsz
  have hD := hD0.self (sz := s.heap.size)
  generalize hAe : va_A (wd_M h1 pB pW pS pA pQ pC pR pT pD cJ cI cZ cB kb kw ks ka kq kc kr kt kd many tsz thr) s.heap.size = A at hD ⊢
  have hA : ∀ q : Nat, s.heap.size ≤ q → A q := fun q h => by rw [← hAe]; exact Or.inr h
  have hS : va_S A s.heap s.heap [] := va_S.rf
  have hl := lv_entry [.ref h1, .int a1] (n := 7) (Nat.le_of_ble_eq_true rfl)
  rw [lg_entry_eq]
  generalize (lg_sl [.ref h1, .int a1] ++ List.replicate (7 - (lg_sl [.ref h1, .int a1]).length) Slot.unset).toArray = ls at hl ⊢
  have hl : lv_has ls 7 [(0, .ref h1), (1, .int a1)] := hl
  have B_281 : ∀ (H : Heap) (locs : List Loc) (ls : Array Slot) (x5 : Int32) (kb : (Nat → Int32)) (kw : (Nat → Int32)) (ks : (Nat → Int32)) (ka : (Nat → Int32)) (kq : (Nat → Int32)) (kc : (Nat → Int32)) (kr : (Nat → Int32)) (kt : (Nat → Int32)) (kd : (Nat → Int32)) (many : Int32) (tsz : Int32) (thr : Int32), wp_M_one_281 post x5 kb kw ks ka kq kc kr kt kd many tsz thr → va_P (dC, dI) cs_3 (wd_M h1 pB pW pS pA pQ pC pR pT pD cJ cI cZ cB kb kw ks ka kq kc kr kt kd many tsz thr) H → va_D A (wd_M h1 pB pW pS pA pQ pC pR pT pD cJ cI cZ cB kb kw ks ka kq kc kr kt kd many tsz thr) → va_S A s.heap H locs → lv_has ls 7 [(0, .ref h1), (5, .int x5)] → W p l e (headSpec ws_M_one rm_M_one).room s m ([.ref h1, .int a1] : List Value).toArray below meth c H locs 0 0 (MQ below (qv_M dC dI cJ cI cZ cB h1 pB pW pS pA pQ pC pR pT pD post A) ([.ref h1, .int a1] : List Value).toArray s 0 0 A) (F0 m 281 ls []) := by
    intro H locs ls x5 kb kw ks ka kq kc kr kt kd many tsz thr hw hP hD hS hl
    unfold wp_M_one_281 at hw
    refine lv_aload_n hx hb dc_M_one_281 rfl (lv_at hl 0 rfl) ?_
    refine va_get (D := (dC, dI)) (ci := 2) (v := .ref pC) (C := "FourWordsModel") (T := tb_M) (N := 12) hx hb hts (hu _ um_M) hown hK hP 0 rfl rfl 5 (by decide) (hq mw_t465) (fun _ h9 => h9) rfl dc_M_one_282 ?_
    refine lv_iconst (v := 0) hx hb dc_M_one_285 (by decide) ?_
    refine lv_iload hx hb dc_M_one_286 (lv_at hl 1 rfl) ?_
    refine lv_i2b hx hb dc_M_one_288 rfl ?_
    obtain ⟨hin, hw⟩ := hw
    refine va_bast hx hb hK hP hD hS 6 3 rfl rfl hin dc_M_one_289 (fun H locs hP hD hS => ?_)
    have hP : va_P (dC, dI) cs_3 (wd_M h1 pB pW pS pA pQ pC pR pT pD cJ cI cZ cB kb kw ks ka kq (upd kc (0 : Int32).toNatClampNeg (vp_nar .byte x5.toInt8.toInt32)) kr kt kd many tsz thr) H := hP
    have hD : va_D A (wd_M h1 pB pW pS pA pQ pC pR pT pD cJ cI cZ cB kb kw ks ka kq (upd kc (0 : Int32).toNatClampNeg (vp_nar .byte x5.toInt8.toInt32)) kr kt kd many tsz thr) := hD
    refine lv_aload_n hx hb dc_M_one_290 rfl (lv_at hl 0 rfl) ?_
    refine lv_aload_n hx hb dc_M_one_291 rfl (lv_at hl 0 rfl) ?_
    refine va_get (D := (dC, dI)) (ci := 2) (v := .ref pC) (C := "FourWordsModel") (T := tb_M) (N := 12) hx hb hts (hu _ um_M) hown hK hP 0 rfl rfl 5 (by decide) (hq mw_t465) (fun _ h9 => h9) rfl dc_M_one_292 ?_
    refine lv_iconst (v := 1) hx hb dc_M_one_295 (by decide) ?_
    refine lv_iconst (v := 0) hx hb dc_M_one_296 (by decide) ?_
    refine gc_v (S := (Nat → Int32) × (Nat → Int32) × (Nat → Int32) × (Nat → Int32) × (Nat → Int32) × (Nat → Int32) × (Nat → Int32) × (Nat → Int32) × (Nat → Int32) × Int32 × Int32 × Int32) (w1 := (fun u => (wd_M h1 pB pW pS pA pQ pC pR pT pD cJ cI cZ cB u.1 u.2.1 u.2.2.1 u.2.2.2.1 u.2.2.2.2.1 u.2.2.2.2.2.1 u.2.2.2.2.2.2.1 u.2.2.2.2.2.2.2.1 u.2.2.2.2.2.2.2.2.1 u.2.2.2.2.2.2.2.2.2.1 u.2.2.2.2.2.2.2.2.2.2.1 u.2.2.2.2.2.2.2.2.2.2.2))) (wc := (wd_M h1 pB pW pS pA pQ pC pR pT pD cJ cI cZ cB kb kw ks ka kq (upd kc (0 : Int32).toNatClampNeg (vp_nar .byte x5.toInt8.toInt32)) kr kt kd many tsz thr)) (wr := ([] : va_W)) (va_runV (As := [.ref pC, .int (1 : Int32), .int (0 : Int32)]) (rest := []) ⟨hx, hb, hml, hown, hts⟩ (kt_M_give_c l dC dI cJ cI cZ cB h1 pB pW pS pA pQ pC pR pT pD _ (1 : Int32) (0 : Int32) kb kw ks ka kq (upd kc (0 : Int32).toNatClampNeg (vp_nar .byte x5.toInt8.toInt32)) kr kt kd many tsz thr _ hw) ⟨callB_of 3 hts (gw_in mw_t513) rfl rfl rfl (hq mw_t3) (hq mw_t510) (by decide +kernel) ⟨Nat.le_of_ble_eq_true rfl, Nat.le_of_ble_eq_true rfl⟩, hq mw_t512, hq mw_s35⟩ (pv_W (va_recv (q0 := 0) (ci := 2) hK hP rfl rfl) (hP.sub (ws' := (wd_M h1 pB pW pS pA pQ pC pR pT pD cJ cI cZ cB kb kw ks ka kq (upd kc (0 : Int32).toNatClampNeg (vp_nar .byte x5.toInt8.toInt32)) kr kt kd many tsz thr)) [0, 1, 2, 3, 4, 5, 6, 7, 8, 9] rfl) hK (hD.sub (ws' := (wd_M h1 pB pW pS pA pQ pC pR pT pD cJ cI cZ cB kb kw ks ka kq (upd kc (0 : Int32).toNatClampNeg (vp_nar .byte x5.toInt8.toInt32)) kr kt kd many tsz thr)) [0, 1, 2, 3, 4, 5, 6, 7, 8, 9] (by decide) rfl) hE) rfl rfl hl.1 rfl (lv_room (Nat.le_of_ble_eq_true rfl)) dc_M_one_297 ⟨Nat.le_of_ble_eq_true rfl, Nat.le_of_ble_eq_true rfl⟩) hP hD hS hA [0, 1, 2, 3, 4, 5, 6, 7, 8, 9] [] rfl rfl (by decide) (by decide) (fun u H locs hw hP hD hS => ?_)
    obtain ⟨kb297, kw297, ks297, ka297, kq297, kc297, kr297, kt297, kd297, many297, tsz297, thr297⟩ := u
    have hP : va_P (dC, dI) cs_3 (wd_M h1 pB pW pS pA pQ pC pR pT pD cJ cI cZ cB kb297 kw297 ks297 ka297 kq297 kc297 kr297 kt297 kd297 many297 tsz297 thr297) H := hP.sub (ws' := (wd_M h1 pB pW pS pA pQ pC pR pT pD cJ cI cZ cB kb297 kw297 ks297 ka297 kq297 kc297 kr297 kt297 kd297 many297 tsz297 thr297)) [0, 1, 2, 3, 4, 5, 6, 7, 8, 9] rfl
    have hD : va_D A (wd_M h1 pB pW pS pA pQ pC pR pT pD cJ cI cZ cB kb297 kw297 ks297 ka297 kq297 kc297 kr297 kt297 kd297 many297 tsz297 thr297) := hD.sub (ws' := (wd_M h1 pB pW pS pA pQ pC pR pT pD cJ cI cZ cB kb297 kw297 ks297 ka297 kq297 kc297 kr297 kt297 kd297 many297 tsz297 thr297)) [0, 1, 2, 3, 4, 5, 6, 7, 8, 9] (by decide) rfl
    try dsimp only at hw
    exact W.vret hx hb hr (fun t ht hW => ⟨⟨(kb297, kw297, ks297, ka297, kq297, kc297, kr297, kt297, kd297, many297, tsz297, thr297), rfl, hw, by rw [ht]; exact hP, va_K.moved hW.alike hK, hD⟩, hS.F ht⟩) hS.2.2 dc_M_one_300
  have B_274 : ∀ (H : Heap) (locs : List Loc) (ls : Array Slot) (x5 : Int32) (kb : (Nat → Int32)) (kw : (Nat → Int32)) (ks : (Nat → Int32)) (ka : (Nat → Int32)) (kq : (Nat → Int32)) (kc : (Nat → Int32)) (kr : (Nat → Int32)) (kt : (Nat → Int32)) (kd : (Nat → Int32)) (many : Int32) (tsz : Int32) (thr : Int32), wp_M_one_274 post x5 kb kw ks ka kq kc kr kt kd many tsz thr → va_P (dC, dI) cs_3 (wd_M h1 pB pW pS pA pQ pC pR pT pD cJ cI cZ cB kb kw ks ka kq kc kr kt kd many tsz thr) H → va_D A (wd_M h1 pB pW pS pA pQ pC pR pT pD cJ cI cZ cB kb kw ks ka kq kc kr kt kd many tsz thr) → va_S A s.heap H locs → lv_has ls 7 [(0, .ref h1), (5, .int x5)] → W p l e (headSpec ws_M_one rm_M_one).room s m ([.ref h1, .int a1] : List Value).toArray below meth c H locs 0 0 (MQ below (qv_M dC dI cJ cI cZ cB h1 pB pW pS pA pQ pC pR pT pD post A) ([.ref h1, .int a1] : List Value).toArray s 0 0 A) (F0 m 274 ls []) := by
    intro H locs ls x5 kb kw ks ka kq kc kr kt kd many tsz thr hw hP hD hS hl
    unfold wp_M_one_274 at hw
    refine lv_iload hx hb dc_M_one_274 (lv_at hl 1 rfl) ?_
    refine gc_i (S := Unit) (w1 := (fun u => ([] : va_W))) (wc := ([] : va_W)) (wr := ([(h1, .inr (2, [.ref pB, .ref pW, .ref pS, .ref pA, .ref pQ, .ref pC, .ref pR, .ref pT, .int many, .int tsz, .int thr, .ref pD])), (pB, .inl (cB, 4096, .inl kb)), (pW, .inl (cI, 64, .inl kw)), (pS, .inl (cZ, 64, .inl ks)), (pA, .inl (cB, 64, .inl ka)), (pQ, .inl (cB, 64, .inl kq)), (pC, .inl (cB, 64, .inl kc)), (pR, .inl (cB, 65, .inl kr)), (pT, .inl (cB, 80, .inl kt)), (pD, .inl (cB, 24, .inl kd))] : va_W)) (va_runS (As := [.int x5]) (rest := []) ⟨hx, hb, hml, hown, hts⟩ (kt_M_opposite l dC dI cJ cI cZ cB _ x5 _ hw) ⟨callB_of 1 hts (gw_in mw_t574) rfl rfl rfl (hq mw_t3) (hq mw_t572) (by decide +kernel) ⟨Nat.le_of_ble_eq_true rfl, Nat.le_of_ble_eq_true rfl⟩, hq mw_t573⟩ (ps_W (hP.sub (ws' := ([] : va_W)) [] rfl) hK (hD.sub (ws' := ([] : va_W)) [] (by decide) rfl) hE) rfl rfl hl.1 rfl (lv_room (Nat.le_of_ble_eq_true rfl)) dc_M_one_276 ⟨Nat.le_of_ble_eq_true rfl, Nat.le_of_ble_eq_true rfl⟩) hP hD hS hA [] [0, 1, 2, 3, 4, 5, 6, 7, 8, 9] rfl rfl (by decide) (by decide) (fun r276 u H locs hw hP hD hS => ?_)
    have hP : va_P (dC, dI) cs_3 (wd_M h1 pB pW pS pA pQ pC pR pT pD cJ cI cZ cB kb kw ks ka kq kc kr kt kd many tsz thr) H := hP.sub (ws' := (wd_M h1 pB pW pS pA pQ pC pR pT pD cJ cI cZ cB kb kw ks ka kq kc kr kt kd many tsz thr)) [0, 1, 2, 3, 4, 5, 6, 7, 8, 9] rfl
    have hD : va_D A (wd_M h1 pB pW pS pA pQ pC pR pT pD cJ cI cZ cB kb kw ks ka kq kc kr kt kd many tsz thr) := hD.sub (ws' := (wd_M h1 pB pW pS pA pQ pC pR pT pD cJ cI cZ cB kb kw ks ka kq kc kr kt kd many tsz thr)) [0, 1, 2, 3, 4, 5, 6, 7, 8, 9] (by decide) rfl
    try dsimp only at hw
    refine lv_istore (lv' := [(5, .int r276), (0, .ref h1)]) hx hb dc_M_one_279 hl (Nat.le_of_ble_eq_true rfl) rfl (fun ls hl => ?_)
    exact B_281 _ _ _ r276 kb kw ks ka kq kc kr kt kd many tsz thr hw hP hD hS (lv_sub hl [1, 0] rfl)
  have B_257 : ∀ (H : Heap) (locs : List Loc) (ls : Array Slot) (x1 : Int32) (x5 : Int32) (kb : (Nat → Int32)) (kw : (Nat → Int32)) (ks : (Nat → Int32)) (ka : (Nat → Int32)) (kq : (Nat → Int32)) (kc : (Nat → Int32)) (kr : (Nat → Int32)) (kt : (Nat → Int32)) (kd : (Nat → Int32)) (many : Int32) (tsz : Int32) (thr : Int32), wp_M_one_257 post x1 x5 kb kw ks ka kq kc kr kt kd many tsz thr → va_P (dC, dI) cs_3 (wd_M h1 pB pW pS pA pQ pC pR pT pD cJ cI cZ cB kb kw ks ka kq kc kr kt kd many tsz thr) H → va_D A (wd_M h1 pB pW pS pA pQ pC pR pT pD cJ cI cZ cB kb kw ks ka kq kc kr kt kd many tsz thr) → va_S A s.heap H locs → lv_has ls 7 [(0, .ref h1), (1, .int x1), (5, .int x5)] → W p l e (headSpec ws_M_one rm_M_one).room s m ([.ref h1, .int a1] : List Value).toArray below meth c H locs 0 0 (MQ below (qv_M dC dI cJ cI cZ cB h1 pB pW pS pA pQ pC pR pT pD post A) ([.ref h1, .int a1] : List Value).toArray s 0 0 A) (F0 m 257 ls []) := by
    intro H locs ls x1 x5 kb kw ks ka kq kc kr kt kd many tsz thr hw hP hD hS hl
    unfold wp_M_one_257 at hw
    refine lv_iload_n hx hb dc_M_one_257 rfl (lv_at hl 1 rfl) ?_
    refine lv_iconst (v := 4) hx hb dc_M_one_258 (by decide) ?_
    obtain ⟨hw1, hw2⟩ := hw
    refine lv_icmp_eq (tgt := 274) hx hb dc_M_one_259 (by decide) (fun hc => ?_) (fun hc => ?_)
    · have hw := hw1 hc
      clear hw1 hw2
      exact B_274 _ _ _ x5 kb kw ks ka kq kc kr kt kd many tsz thr hw hP hD hS (lv_sub hl [0, 2] rfl)
    · have hw := hw2 hc
      clear hw1 hw2
      refine lv_iload_n hx hb dc_M_one_262 rfl (lv_at hl 1 rfl) ?_
      refine lv_bipush (v := 6) hx hb dc_M_one_263 (by decide) ?_
      obtain ⟨hw1, hw2⟩ := hw
      refine lv_icmp_eq (tgt := 274) hx hb dc_M_one_265 (by decide) (fun hc => ?_) (fun hc => ?_)
      · have hw := hw1 hc
        clear hw1 hw2
        exact B_274 _ _ _ x5 kb kw ks ka kq kc kr kt kd many tsz thr hw hP hD hS (lv_sub hl [0, 2] rfl)
      · have hw := hw2 hc
        clear hw1 hw2
        refine lv_iload_n hx hb dc_M_one_268 rfl (lv_at hl 1 rfl) ?_
        refine lv_bipush (v := 8) hx hb dc_M_one_269 (by decide) ?_
        obtain ⟨hw1, hw2⟩ := hw
        refine lv_icmp_ne (tgt := 281) hx hb dc_M_one_271 (by decide) (fun hc => ?_) (fun hc => ?_)
        · have hw := hw1 hc
          clear hw1 hw2
          exact B_281 _ _ _ x5 kb kw ks ka kq kc kr kt kd many tsz thr hw hP hD hS (lv_sub hl [0, 2] rfl)
        · have hw := hw2 (fun h9 => h9 hc)
          clear hw1 hw2
          exact B_274 _ _ _ x5 kb kw ks ka kq kc kr kt kd many tsz thr hw hP hD hS (lv_sub hl [0, 2] rfl)
  have B_248 : ∀ (H : Heap) (locs : List Loc) (ls : Array Slot) (x1 : Int32) (x5 : Int32) (kb : (Nat → Int32)) (kw : (Nat → Int32)) (ks : (Nat → Int32)) (ka : (Nat → Int32)) (kq : (Nat → Int32)) (kc : (Nat → Int32)) (kr : (Nat → Int32)) (kt : (Nat → Int32)) (kd : (Nat → Int32)) (many : Int32) (tsz : Int32) (thr : Int32), wp_M_one_248 post x1 x5 kb kw ks ka kq kc kr kt kd many tsz thr → va_P (dC, dI) cs_3 (wd_M h1 pB pW pS pA pQ pC pR pT pD cJ cI cZ cB kb kw ks ka kq kc kr kt kd many tsz thr) H → va_D A (wd_M h1 pB pW pS pA pQ pC pR pT pD cJ cI cZ cB kb kw ks ka kq kc kr kt kd many tsz thr) → va_S A s.heap H locs → lv_has ls 7 [(0, .ref h1), (1, .int x1), (5, .int x5)] → W p l e (headSpec ws_M_one rm_M_one).room s m ([.ref h1, .int a1] : List Value).toArray below meth c H locs 0 0 (MQ below (qv_M dC dI cJ cI cZ cB h1 pB pW pS pA pQ pC pR pT pD post A) ([.ref h1, .int a1] : List Value).toArray s 0 0 A) (F0 m 248 ls []) := by
    intro H locs ls x1 x5 kb kw ks ka kq kc kr kt kd many tsz thr hw hP hD hS hl
    unfold wp_M_one_248 at hw
    refine lv_iload hx hb dc_M_one_248 (lv_at hl 2 rfl) ?_
    refine lv_iconst (v := 2) hx hb dc_M_one_250 (by decide) ?_
    obtain ⟨hw1, hw2⟩ := hw
    refine lv_icmp_ne (tgt := 257) hx hb dc_M_one_251 (by decide) (fun hc => ?_) (fun hc => ?_)
    · have hw := hw1 hc
      clear hw1 hw2
      exact B_257 _ _ _ x1 x5 kb kw ks ka kq kc kr kt kd many tsz thr hw hP hD hS (lv_sub hl [0, 1, 2] rfl)
    · have hw := hw2 (fun h9 => h9 hc)
      clear hw1 hw2
      refine lv_iconst (v := 3) hx hb dc_M_one_254 (by decide) ?_
      refine lv_istore (lv' := [(5, .int (3 : Int32)), (0, .ref h1), (1, .int x1)]) hx hb dc_M_one_255 hl (Nat.le_of_ble_eq_true rfl) rfl (fun ls hl => ?_)
      exact B_257 _ _ _ x1 (3 : Int32) kb kw ks ka kq kc kr kt kd many tsz thr hw hP hD hS (lv_sub hl [1, 2, 0] rfl)
  have B_228 : ∀ (K195 : Int32 → Int32 → Int32 → Int32 → (Nat → Int32) → (Nat → Int32) → (Nat → Int32) → (Nat → Int32) → (Nat → Int32) → (Nat → Int32) → (Nat → Int32) → (Nat → Int32) → (Nat → Int32) → Int32 → Int32 → Int32 → Prop) (hK195 : ∀ (H : Heap) (locs : List Loc) (ls : Array Slot) (x1 : Int32) (x3 : Int32) (x5 : Int32) (x6 : Int32) (kb : (Nat → Int32)) (kw : (Nat → Int32)) (ks : (Nat → Int32)) (ka : (Nat → Int32)) (kq : (Nat → Int32)) (kc : (Nat → Int32)) (kr : (Nat → Int32)) (kt : (Nat → Int32)) (kd : (Nat → Int32)) (many : Int32) (tsz : Int32) (thr : Int32), K195 x1 x3 x5 x6 kb kw ks ka kq kc kr kt kd many tsz thr → va_P (dC, dI) cs_3 (wd_M h1 pB pW pS pA pQ pC pR pT pD cJ cI cZ cB kb kw ks ka kq kc kr kt kd many tsz thr) H → va_D A (wd_M h1 pB pW pS pA pQ pC pR pT pD cJ cI cZ cB kb kw ks ka kq kc kr kt kd many tsz thr) → va_S A s.heap H locs → lv_has ls 7 [(0, .ref h1), (1, .int x1), (3, .int x3), (5, .int x5), (6, .int x6)] → W p l e (headSpec ws_M_one rm_M_one).room s m ([.ref h1, .int a1] : List Value).toArray below meth c H locs 0 0 (MQ below (qv_M dC dI cJ cI cZ cB h1 pB pW pS pA pQ pC pR pT pD post A) ([.ref h1, .int a1] : List Value).toArray s 0 0 A) (F0 m 195 ls [])) (H : Heap) (locs : List Loc) (ls : Array Slot) (x1 : Int32) (x3 : Int32) (x5 : Int32) (x6 : Int32) (t0 : Int32) (kb : (Nat → Int32)) (kw : (Nat → Int32)) (ks : (Nat → Int32)) (ka : (Nat → Int32)) (kq : (Nat → Int32)) (kc : (Nat → Int32)) (kr : (Nat → Int32)) (kt : (Nat → Int32)) (kd : (Nat → Int32)) (many : Int32) (tsz : Int32) (thr : Int32), wp_M_one_228 K195 post x1 x3 x5 x6 t0 kb kw ks ka kq kc kr kt kd many tsz thr → va_P (dC, dI) cs_3 (wd_M h1 pB pW pS pA pQ pC pR pT pD cJ cI cZ cB kb kw ks ka kq kc kr kt kd many tsz thr) H → va_D A (wd_M h1 pB pW pS pA pQ pC pR pT pD cJ cI cZ cB kb kw ks ka kq kc kr kt kd many tsz thr) → va_S A s.heap H locs → lv_has ls 7 [(0, .ref h1), (1, .int x1), (3, .int x3), (5, .int x5), (6, .int x6)] → W p l e (headSpec ws_M_one rm_M_one).room s m ([.ref h1, .int a1] : List Value).toArray below meth c H locs 0 0 (MQ below (qv_M dC dI cJ cI cZ cB h1 pB pW pS pA pQ pC pR pT pD post A) ([.ref h1, .int a1] : List Value).toArray s 0 0 A) (F0 m 228 ls [.int t0]) := by
    intro K195 hK195 H locs ls x1 x3 x5 x6 t0 kb kw ks ka kq kc kr kt kd many tsz thr hw hP hD hS hl
    unfold wp_M_one_228 at hw
    refine lv_iload hx hb dc_M_one_228 (lv_at hl 3 rfl) ?_
    refine lv_aload_n hx hb dc_M_one_230 rfl (lv_at hl 0 rfl) ?_
    refine va_get (D := (dC, dI)) (ci := 2) (v := .ref pA) (C := "FourWordsModel") (T := tb_M) (N := 12) hx hb hts (hu _ um_M) hown hK hP 0 rfl rfl 3 (by decide) (hq mw_t463) (fun _ h9 => h9) rfl dc_M_one_231 ?_
    refine lv_iload hx hb dc_M_one_234 (lv_at hl 4 rfl) ?_
    obtain ⟨hin, hw⟩ := hw
    refine va_bald hx hb hK hP 4 3 rfl rfl hin dc_M_one_236 ?_
    refine gc_i (S := Unit) (w1 := (fun u => ([] : va_W))) (wc := ([] : va_W)) (wr := ([(h1, .inr (2, [.ref pB, .ref pW, .ref pS, .ref pA, .ref pQ, .ref pC, .ref pR, .ref pT, .int many, .int tsz, .int thr, .ref pD])), (pB, .inl (cB, 4096, .inl kb)), (pW, .inl (cI, 64, .inl kw)), (pS, .inl (cZ, 64, .inl ks)), (pA, .inl (cB, 64, .inl ka)), (pQ, .inl (cB, 64, .inl kq)), (pC, .inl (cB, 64, .inl kc)), (pR, .inl (cB, 65, .inl kr)), (pT, .inl (cB, 80, .inl kt)), (pD, .inl (cB, 24, .inl kd))] : va_W)) (va_runS (As := [.int t0, .int x5, .int (ka x6.toNatClampNeg)]) (rest := []) ⟨hx, hb, hml, hown, hts⟩ (kt_M_logic l dC dI cJ cI cZ cB _ t0 x5 (ka x6.toNatClampNeg) _ hw) ⟨callB_of 3 hts (gw_in mw_t563) rfl rfl rfl (hq mw_t3) (hq mw_t561) (by decide +kernel) ⟨Nat.le_of_ble_eq_true rfl, Nat.le_of_ble_eq_true rfl⟩, hq mw_t562⟩ (ps_W (hP.sub (ws' := ([] : va_W)) [] rfl) hK (hD.sub (ws' := ([] : va_W)) [] (by decide) rfl) hE) rfl rfl hl.1 rfl (lv_room (Nat.le_of_ble_eq_true rfl)) dc_M_one_237 ⟨Nat.le_of_ble_eq_true rfl, Nat.le_of_ble_eq_true rfl⟩) hP hD hS hA [] [0, 1, 2, 3, 4, 5, 6, 7, 8, 9] rfl rfl (by decide) (by decide) (fun r237 u H locs hw hP hD hS => ?_)
    have hP : va_P (dC, dI) cs_3 (wd_M h1 pB pW pS pA pQ pC pR pT pD cJ cI cZ cB kb kw ks ka kq kc kr kt kd many tsz thr) H := hP.sub (ws' := (wd_M h1 pB pW pS pA pQ pC pR pT pD cJ cI cZ cB kb kw ks ka kq kc kr kt kd many tsz thr)) [0, 1, 2, 3, 4, 5, 6, 7, 8, 9] rfl
    have hD : va_D A (wd_M h1 pB pW pS pA pQ pC pR pT pD cJ cI cZ cB kb kw ks ka kq kc kr kt kd many tsz thr) := hD.sub (ws' := (wd_M h1 pB pW pS pA pQ pC pR pT pD cJ cI cZ cB kb kw ks ka kq kc kr kt kd many tsz thr)) [0, 1, 2, 3, 4, 5, 6, 7, 8, 9] (by decide) rfl
    try dsimp only at hw
    refine lv_istore (lv' := [(5, .int r237), (0, .ref h1), (1, .int x1), (3, .int x3), (6, .int x6)]) hx hb dc_M_one_240 hl (Nat.le_of_ble_eq_true rfl) rfl (fun ls hl => ?_)
    refine lv_iinc (lv' := [(6, .int (x6 + 1)), (5, .int r237), (0, .ref h1), (1, .int x1), (3, .int x3)]) hx hb dc_M_one_242 hl (k := 4) rfl (ic_p1 _) (Nat.le_of_ble_eq_true rfl) rfl (fun ls hl => ?_)
    refine lv_goto (tgt := 195) hx hb dc_M_one_245 (by decide) ?_
    exact hK195 _ _ _ x1 x3 r237 (x6 + 1) kb kw ks ka kq kc kr kt kd many tsz thr hw hP hD hS (lv_sub hl [2, 3, 4, 1, 0] rfl)
  have B_195 : ∀ (n195 : Nat) (H : Heap) (locs : List Loc) (ls : Array Slot) (x1 : Int32) (x3 : Int32) (x5 : Int32) (x6 : Int32) (kb : (Nat → Int32)) (kw : (Nat → Int32)) (ks : (Nat → Int32)) (ka : (Nat → Int32)) (kq : (Nat → Int32)) (kc : (Nat → Int32)) (kr : (Nat → Int32)) (kt : (Nat → Int32)) (kd : (Nat → Int32)) (many : Int32) (tsz : Int32) (thr : Int32), wp_M_one_195 post n195 x1 x3 x5 x6 kb kw ks ka kq kc kr kt kd many tsz thr → va_P (dC, dI) cs_3 (wd_M h1 pB pW pS pA pQ pC pR pT pD cJ cI cZ cB kb kw ks ka kq kc kr kt kd many tsz thr) H → va_D A (wd_M h1 pB pW pS pA pQ pC pR pT pD cJ cI cZ cB kb kw ks ka kq kc kr kt kd many tsz thr) → va_S A s.heap H locs → lv_has ls 7 [(0, .ref h1), (1, .int x1), (3, .int x3), (5, .int x5), (6, .int x6)] → W p l e (headSpec ws_M_one rm_M_one).room s m ([.ref h1, .int a1] : List Value).toArray below meth c H locs 0 0 (MQ below (qv_M dC dI cJ cI cZ cB h1 pB pW pS pA pQ pC pR pT pD post A) ([.ref h1, .int a1] : List Value).toArray s 0 0 A) (F0 m 195 ls []) := by
    intro n195
    induction n195 with
    | zero => intro H locs ls x1 x3 x5 x6 kb kw ks ka kq kc kr kt kd many tsz thr hw; exact False.elim hw
    | succ n195 ih =>
      intro H locs ls x1 x3 x5 x6 kb kw ks ka kq kc kr kt kd many tsz thr hw hP hD hS hl
      unfold wp_M_one_195 at hw
      refine lv_iload hx hb dc_M_one_195 (lv_at hl 4 rfl) ?_
      refine lv_iload_n hx hb dc_M_one_197 rfl (lv_at hl 2 rfl) ?_
      obtain ⟨hw1, hw2⟩ := hw
      refine lv_icmp_ge (tgt := 248) hx hb dc_M_one_198 (by decide) (fun hc => ?_) (fun hc => ?_)
      · have hw := hw1 hc
        clear hw1 hw2
        exact B_248 _ _ _ x1 x5 kb kw ks ka kq kc kr kt kd many tsz thr hw hP hD hS (lv_sub hl [0, 1, 3] rfl)
      · have hw := hw2 hc
        clear hw1 hw2
        refine lv_iload_n hx hb dc_M_one_201 rfl (lv_at hl 1 rfl) ?_
        refine lv_iconst (v := 2) hx hb dc_M_one_202 (by decide) ?_
        obtain ⟨hw1, hw2⟩ := hw
        refine lv_icmp_le (tgt := 248) hx hb dc_M_one_203 (by decide) (fun hc => ?_) (fun hc => ?_)
        · have hw := hw1 hc
          clear hw1 hw2
          exact B_248 _ _ _ x1 x5 kb kw ks ka kq kc kr kt kd many tsz thr hw hP hD hS (lv_sub hl [0, 1, 3] rfl)
        · have hw := hw2 hc
          clear hw1 hw2
          refine lv_iload_n hx hb dc_M_one_206 rfl (lv_at hl 1 rfl) ?_
          refine lv_iconst (v := 5) hx hb dc_M_one_207 (by decide) ?_
          obtain ⟨hw1, hw2⟩ := hw
          refine lv_icmp_ge (tgt := 215) hx hb dc_M_one_208 (by decide) (fun hc => ?_) (fun hc => ?_)
          · have hw := hw1 hc
            clear hw1 hw2
            refine lv_iload_n hx hb dc_M_one_215 rfl (lv_at hl 1 rfl) ?_
            refine lv_bipush (v := 7) hx hb dc_M_one_216 (by decide) ?_
            obtain ⟨hw1, hw2⟩ := hw
            refine lv_icmp_ge (tgt := 226) hx hb dc_M_one_218 (by decide) (fun hc => ?_) (fun hc => ?_)
            · have hw := hw1 hc
              clear hw1 hw2
              refine lv_bipush (v := 7) hx hb dc_M_one_226 (by decide) ?_
              exact B_228 (wp_M_one_195 post n195) ih _ _ _ x1 x3 x5 x6 (7 : Int32) kb kw ks ka kq kc kr kt kd many tsz thr hw hP hD hS (lv_sub hl [0, 1, 2, 3, 4] rfl)
            · have hw := hw2 hc
              clear hw1 hw2
              refine lv_bipush (v := 6) hx hb dc_M_one_221 (by decide) ?_
              refine lv_goto (tgt := 228) hx hb dc_M_one_223 (by decide) ?_
              exact B_228 (wp_M_one_195 post n195) ih _ _ _ x1 x3 x5 x6 (6 : Int32) kb kw ks ka kq kc kr kt kd many tsz thr hw hP hD hS (lv_sub hl [0, 1, 2, 3, 4] rfl)
          · have hw := hw2 hc
            clear hw1 hw2
            refine lv_iconst (v := 5) hx hb dc_M_one_211 (by decide) ?_
            refine lv_goto (tgt := 228) hx hb dc_M_one_212 (by decide) ?_
            exact B_228 (wp_M_one_195 post n195) ih _ _ _ x1 x3 x5 x6 (5 : Int32) kb kw ks ka kq kc kr kt kd many tsz thr hw hP hD hS (lv_sub hl [0, 1, 2, 3, 4] rfl)
  have B_190 : ∀ (H : Heap) (locs : List Loc) (ls : Array Slot) (x1 : Int32) (x3 : Int32) (t0 : Int32) (kb : (Nat → Int32)) (kw : (Nat → Int32)) (ks : (Nat → Int32)) (ka : (Nat → Int32)) (kq : (Nat → Int32)) (kc : (Nat → Int32)) (kr : (Nat → Int32)) (kt : (Nat → Int32)) (kd : (Nat → Int32)) (many : Int32) (tsz : Int32) (thr : Int32), wp_M_one_190 post x1 x3 t0 kb kw ks ka kq kc kr kt kd many tsz thr → va_P (dC, dI) cs_3 (wd_M h1 pB pW pS pA pQ pC pR pT pD cJ cI cZ cB kb kw ks ka kq kc kr kt kd many tsz thr) H → va_D A (wd_M h1 pB pW pS pA pQ pC pR pT pD cJ cI cZ cB kb kw ks ka kq kc kr kt kd many tsz thr) → va_S A s.heap H locs → lv_has ls 7 [(0, .ref h1), (1, .int x1), (3, .int x3)] → W p l e (headSpec ws_M_one rm_M_one).room s m ([.ref h1, .int a1] : List Value).toArray below meth c H locs 0 0 (MQ below (qv_M dC dI cJ cI cZ cB h1 pB pW pS pA pQ pC pR pT pD post A) ([.ref h1, .int a1] : List Value).toArray s 0 0 A) (F0 m 190 ls [.int t0]) := by
    intro H locs ls x1 x3 t0 kb kw ks ka kq kc kr kt kd many tsz thr hw hP hD hS hl
    unfold wp_M_one_190 at hw
    refine lv_istore (lv' := [(5, .int t0), (0, .ref h1), (1, .int x1), (3, .int x3)]) hx hb dc_M_one_190 hl (Nat.le_of_ble_eq_true rfl) rfl (fun ls hl => ?_)
    refine lv_iconst (v := 1) hx hb dc_M_one_192 (by decide) ?_
    refine lv_istore (lv' := [(6, .int (1 : Int32)), (5, .int t0), (0, .ref h1), (1, .int x1), (3, .int x3)]) hx hb dc_M_one_193 hl (Nat.le_of_ble_eq_true rfl) rfl (fun ls hl => ?_)
    obtain ⟨n195, hw⟩ := hw
    exact B_195 n195 _ _ _ x1 x3 t0 (1 : Int32) kb kw ks ka kq kc kr kt kd many tsz thr hw hP hD hS (lv_sub hl [2, 3, 4, 1, 0] rfl)
  have B_123 : ∀ (n123 : Nat) (H : Heap) (locs : List Loc) (ls : Array Slot) (x3 : Int32) (x4 : Int32) (x5 : Int32) (kb : (Nat → Int32)) (kw : (Nat → Int32)) (ks : (Nat → Int32)) (ka : (Nat → Int32)) (kq : (Nat → Int32)) (kc : (Nat → Int32)) (kr : (Nat → Int32)) (kt : (Nat → Int32)) (kd : (Nat → Int32)) (many : Int32) (tsz : Int32) (thr : Int32), wp_M_one_123 post n123 x3 x4 x5 kb kw ks ka kq kc kr kt kd many tsz thr → va_P (dC, dI) cs_3 (wd_M h1 pB pW pS pA pQ pC pR pT pD cJ cI cZ cB kb kw ks ka kq kc kr kt kd many tsz thr) H → va_D A (wd_M h1 pB pW pS pA pQ pC pR pT pD cJ cI cZ cB kb kw ks ka kq kc kr kt kd many tsz thr) → va_S A s.heap H locs → lv_has ls 7 [(0, .ref h1), (3, .int x3), (4, .int x4), (5, .int x5)] → W p l e (headSpec ws_M_one rm_M_one).room s m ([.ref h1, .int a1] : List Value).toArray below meth c H locs 0 0 (MQ below (qv_M dC dI cJ cI cZ cB h1 pB pW pS pA pQ pC pR pT pD post A) ([.ref h1, .int a1] : List Value).toArray s 0 0 A) (F0 m 123 ls []) := by
    intro n123
    induction n123 with
    | zero => intro H locs ls x3 x4 x5 kb kw ks ka kq kc kr kt kd many tsz thr hw; exact False.elim hw
    | succ n123 ih =>
      intro H locs ls x3 x4 x5 kb kw ks ka kq kc kr kt kd many tsz thr hw hP hD hS hl
      unfold wp_M_one_123 at hw
      refine lv_iload hx hb dc_M_one_123 (lv_at hl 3 rfl) ?_
      refine lv_iload_n hx hb dc_M_one_125 rfl (lv_at hl 1 rfl) ?_
      obtain ⟨hw1, hw2⟩ := hw
      refine lv_icmp_ge (tgt := 153) hx hb dc_M_one_126 (by decide) (fun hc => ?_) (fun hc => ?_)
      · have hw := hw1 hc
        clear hw1 hw2
        refine lv_aload_n hx hb dc_M_one_153 rfl (lv_at hl 0 rfl) ?_
        refine lv_aload_n hx hb dc_M_one_154 rfl (lv_at hl 0 rfl) ?_
        refine va_get (D := (dC, dI)) (ci := 2) (v := .ref pA) (C := "FourWordsModel") (T := tb_M) (N := 12) hx hb hts (hu _ um_M) hown hK hP 0 rfl rfl 3 (by decide) (hq mw_t463) (fun _ h9 => h9) rfl dc_M_one_155 ?_
        refine lv_iload_n hx hb dc_M_one_158 rfl (lv_at hl 1 rfl) ?_
        refine lv_iload hx hb dc_M_one_159 (lv_at hl 2 rfl) ?_
        refine gc_v (S := (Nat → Int32) × (Nat → Int32) × (Nat → Int32) × (Nat → Int32) × (Nat → Int32) × (Nat → Int32) × (Nat → Int32) × (Nat → Int32) × (Nat → Int32) × Int32 × Int32 × Int32) (w1 := (fun u => (wd_M h1 pB pW pS pA pQ pC pR pT pD cJ cI cZ cB u.1 u.2.1 u.2.2.1 u.2.2.2.1 u.2.2.2.2.1 u.2.2.2.2.2.1 u.2.2.2.2.2.2.1 u.2.2.2.2.2.2.2.1 u.2.2.2.2.2.2.2.2.1 u.2.2.2.2.2.2.2.2.2.1 u.2.2.2.2.2.2.2.2.2.2.1 u.2.2.2.2.2.2.2.2.2.2.2))) (wc := (wd_M h1 pB pW pS pA pQ pC pR pT pD cJ cI cZ cB kb kw ks ka kq kc kr kt kd many tsz thr)) (wr := ([] : va_W)) (va_runV (As := [.ref pA, .int x3, .int x4]) (rest := []) ⟨hx, hb, hml, hown, hts⟩ (kt_M_give_a l dC dI cJ cI cZ cB h1 pB pW pS pA pQ pC pR pT pD _ x3 x4 kb kw ks ka kq kc kr kt kd many tsz thr _ hw) ⟨callB_of 3 hts (gw_in mw_t513) rfl rfl rfl (hq mw_t3) (hq mw_t510) (by decide +kernel) ⟨Nat.le_of_ble_eq_true rfl, Nat.le_of_ble_eq_true rfl⟩, hq mw_t512, hq mw_s35⟩ (pv_W (va_recv (q0 := 0) (ci := 2) hK hP rfl rfl) (hP.sub (ws' := (wd_M h1 pB pW pS pA pQ pC pR pT pD cJ cI cZ cB kb kw ks ka kq kc kr kt kd many tsz thr)) [0, 1, 2, 3, 4, 5, 6, 7, 8, 9] rfl) hK (hD.sub (ws' := (wd_M h1 pB pW pS pA pQ pC pR pT pD cJ cI cZ cB kb kw ks ka kq kc kr kt kd many tsz thr)) [0, 1, 2, 3, 4, 5, 6, 7, 8, 9] (by decide) rfl) hE) rfl rfl hl.1 rfl (lv_room (Nat.le_of_ble_eq_true rfl)) dc_M_one_161 ⟨Nat.le_of_ble_eq_true rfl, Nat.le_of_ble_eq_true rfl⟩) hP hD hS hA [0, 1, 2, 3, 4, 5, 6, 7, 8, 9] [] rfl rfl (by decide) (by decide) (fun u H locs hw hP hD hS => ?_)
        obtain ⟨kb161, kw161, ks161, ka161, kq161, kc161, kr161, kt161, kd161, many161, tsz161, thr161⟩ := u
        have hP : va_P (dC, dI) cs_3 (wd_M h1 pB pW pS pA pQ pC pR pT pD cJ cI cZ cB kb161 kw161 ks161 ka161 kq161 kc161 kr161 kt161 kd161 many161 tsz161 thr161) H := hP.sub (ws' := (wd_M h1 pB pW pS pA pQ pC pR pT pD cJ cI cZ cB kb161 kw161 ks161 ka161 kq161 kc161 kr161 kt161 kd161 many161 tsz161 thr161)) [0, 1, 2, 3, 4, 5, 6, 7, 8, 9] rfl
        have hD : va_D A (wd_M h1 pB pW pS pA pQ pC pR pT pD cJ cI cZ cB kb161 kw161 ks161 ka161 kq161 kc161 kr161 kt161 kd161 many161 tsz161 thr161) := hD.sub (ws' := (wd_M h1 pB pW pS pA pQ pC pR pT pD cJ cI cZ cB kb161 kw161 ks161 ka161 kq161 kc161 kr161 kt161 kd161 many161 tsz161 thr161)) [0, 1, 2, 3, 4, 5, 6, 7, 8, 9] (by decide) rfl
        try dsimp only at hw
        exact W.vret hx hb hr (fun t ht hW => ⟨⟨(kb161, kw161, ks161, ka161, kq161, kc161, kr161, kt161, kd161, many161, tsz161, thr161), rfl, hw, by rw [ht]; exact hP, va_K.moved hW.alike hK, hD⟩, hS.F ht⟩) hS.2.2 dc_M_one_164
      · have hw := hw2 hc
        clear hw1 hw2
        refine lv_aload_n hx hb dc_M_one_129 rfl (lv_at hl 0 rfl) ?_
        refine va_get (D := (dC, dI)) (ci := 2) (v := .ref pA) (C := "FourWordsModel") (T := tb_M) (N := 12) hx hb hts (hu _ um_M) hown hK hP 0 rfl rfl 3 (by decide) (hq mw_t463) (fun _ h9 => h9) rfl dc_M_one_130 ?_
        refine lv_iload hx hb dc_M_one_133 (lv_at hl 3 rfl) ?_
        refine lv_aload_n hx hb dc_M_one_135 rfl (lv_at hl 0 rfl) ?_
        refine va_get (D := (dC, dI)) (ci := 2) (v := .ref pA) (C := "FourWordsModel") (T := tb_M) (N := 12) hx hb hts (hu _ um_M) hown hK hP 0 rfl rfl 3 (by decide) (hq mw_t463) (fun _ h9 => h9) rfl dc_M_one_136 ?_
        refine lv_iload hx hb dc_M_one_139 (lv_at hl 3 rfl) ?_
        obtain ⟨hin, hw⟩ := hw
        refine va_bald hx hb hK hP 4 3 rfl rfl hin dc_M_one_141 ?_
        refine gc_i (S := Unit) (w1 := (fun u => ([] : va_W))) (wc := ([] : va_W)) (wr := ([(h1, .inr (2, [.ref pB, .ref pW, .ref pS, .ref pA, .ref pQ, .ref pC, .ref pR, .ref pT, .int many, .int tsz, .int thr, .ref pD])), (pB, .inl (cB, 4096, .inl kb)), (pW, .inl (cI, 64, .inl kw)), (pS, .inl (cZ, 64, .inl ks)), (pA, .inl (cB, 64, .inl ka)), (pQ, .inl (cB, 64, .inl kq)), (pC, .inl (cB, 64, .inl kc)), (pR, .inl (cB, 65, .inl kr)), (pT, .inl (cB, 80, .inl kt)), (pD, .inl (cB, 24, .inl kd))] : va_W)) (va_runS (As := [.int (ka x5.toNatClampNeg)]) (rest := [.int x5, .ref pA]) ⟨hx, hb, hml, hown, hts⟩ (kt_M_opposite l dC dI cJ cI cZ cB _ (ka x5.toNatClampNeg) _ hw) ⟨callB_of 1 hts (gw_in mw_t574) rfl rfl rfl (hq mw_t3) (hq mw_t572) (by decide +kernel) ⟨Nat.le_of_ble_eq_true rfl, Nat.le_of_ble_eq_true rfl⟩, hq mw_t573⟩ (ps_W (hP.sub (ws' := ([] : va_W)) [] rfl) hK (hD.sub (ws' := ([] : va_W)) [] (by decide) rfl) hE) rfl rfl hl.1 rfl (lv_room (Nat.le_of_ble_eq_true rfl)) dc_M_one_142 ⟨Nat.le_of_ble_eq_true rfl, Nat.le_of_ble_eq_true rfl⟩) hP hD hS hA [] [0, 1, 2, 3, 4, 5, 6, 7, 8, 9] rfl rfl (by decide) (by decide) (fun r142 u H locs hw hP hD hS => ?_)
        have hP : va_P (dC, dI) cs_3 (wd_M h1 pB pW pS pA pQ pC pR pT pD cJ cI cZ cB kb kw ks ka kq kc kr kt kd many tsz thr) H := hP.sub (ws' := (wd_M h1 pB pW pS pA pQ pC pR pT pD cJ cI cZ cB kb kw ks ka kq kc kr kt kd many tsz thr)) [0, 1, 2, 3, 4, 5, 6, 7, 8, 9] rfl
        have hD : va_D A (wd_M h1 pB pW pS pA pQ pC pR pT pD cJ cI cZ cB kb kw ks ka kq kc kr kt kd many tsz thr) := hD.sub (ws' := (wd_M h1 pB pW pS pA pQ pC pR pT pD cJ cI cZ cB kb kw ks ka kq kc kr kt kd many tsz thr)) [0, 1, 2, 3, 4, 5, 6, 7, 8, 9] (by decide) rfl
        try dsimp only at hw
        refine lv_i2b hx hb dc_M_one_145 rfl ?_
        obtain ⟨hin, hw⟩ := hw
        refine va_bast hx hb hK hP hD hS 4 3 rfl rfl hin dc_M_one_146 (fun H locs hP hD hS => ?_)
        have hP : va_P (dC, dI) cs_3 (wd_M h1 pB pW pS pA pQ pC pR pT pD cJ cI cZ cB kb kw ks (upd ka x5.toNatClampNeg (vp_nar .byte r142.toInt8.toInt32)) kq kc kr kt kd many tsz thr) H := hP
        have hD : va_D A (wd_M h1 pB pW pS pA pQ pC pR pT pD cJ cI cZ cB kb kw ks (upd ka x5.toNatClampNeg (vp_nar .byte r142.toInt8.toInt32)) kq kc kr kt kd many tsz thr) := hD
        refine lv_iinc (lv' := [(5, .int (x5 + 1)), (0, .ref h1), (3, .int x3), (4, .int x4)]) hx hb dc_M_one_147 hl (k := 3) rfl (ic_p1 _) (Nat.le_of_ble_eq_true rfl) rfl (fun ls hl => ?_)
        refine lv_goto (tgt := 123) hx hb dc_M_one_150 (by decide) ?_
        exact ih _ _ _ x3 x4 (x5 + 1) kb kw ks (upd ka x5.toNatClampNeg (vp_nar .byte r142.toInt8.toInt32)) kq kc kr kt kd many tsz thr hw hP hD hS (lv_sub hl [1, 2, 3, 0] rfl)
  have B_103 : ∀ (H : Heap) (locs : List Loc) (ls : Array Slot) (x3 : Int32) (x4 : Int32) (kb : (Nat → Int32)) (kw : (Nat → Int32)) (ks : (Nat → Int32)) (ka : (Nat → Int32)) (kq : (Nat → Int32)) (kc : (Nat → Int32)) (kr : (Nat → Int32)) (kt : (Nat → Int32)) (kd : (Nat → Int32)) (many : Int32) (tsz : Int32) (thr : Int32), wp_M_one_103 post x3 x4 kb kw ks ka kq kc kr kt kd many tsz thr → va_P (dC, dI) cs_3 (wd_M h1 pB pW pS pA pQ pC pR pT pD cJ cI cZ cB kb kw ks ka kq kc kr kt kd many tsz thr) H → va_D A (wd_M h1 pB pW pS pA pQ pC pR pT pD cJ cI cZ cB kb kw ks ka kq kc kr kt kd many tsz thr) → va_S A s.heap H locs → lv_has ls 7 [(0, .ref h1), (3, .int x3), (4, .int x4)] → W p l e (headSpec ws_M_one rm_M_one).room s m ([.ref h1, .int a1] : List Value).toArray below meth c H locs 0 0 (MQ below (qv_M dC dI cJ cI cZ cB h1 pB pW pS pA pQ pC pR pT pD post A) ([.ref h1, .int a1] : List Value).toArray s 0 0 A) (F0 m 103 ls []) := by
    intro H locs ls x3 x4 kb kw ks ka kq kc kr kt kd many tsz thr hw hP hD hS hl
    unfold wp_M_one_103 at hw
    refine lv_aload_n hx hb dc_M_one_103 rfl (lv_at hl 0 rfl) ?_
    refine lv_aload_n hx hb dc_M_one_104 rfl (lv_at hl 0 rfl) ?_
    refine va_get (D := (dC, dI)) (ci := 2) (v := .ref pA) (C := "FourWordsModel") (T := tb_M) (N := 12) hx hb hts (hu _ um_M) hown hK hP 0 rfl rfl 3 (by decide) (hq mw_t463) (fun _ h9 => h9) rfl dc_M_one_105 ?_
    refine lv_iload_n hx hb dc_M_one_108 rfl (lv_at hl 1 rfl) ?_
    refine lv_iload hx hb dc_M_one_109 (lv_at hl 2 rfl) ?_
    refine gc_v (S := (Nat → Int32) × (Nat → Int32) × (Nat → Int32) × (Nat → Int32) × (Nat → Int32) × (Nat → Int32) × (Nat → Int32) × (Nat → Int32) × (Nat → Int32) × Int32 × Int32 × Int32) (w1 := (fun u => (wd_M h1 pB pW pS pA pQ pC pR pT pD cJ cI cZ cB u.1 u.2.1 u.2.2.1 u.2.2.2.1 u.2.2.2.2.1 u.2.2.2.2.2.1 u.2.2.2.2.2.2.1 u.2.2.2.2.2.2.2.1 u.2.2.2.2.2.2.2.2.1 u.2.2.2.2.2.2.2.2.2.1 u.2.2.2.2.2.2.2.2.2.2.1 u.2.2.2.2.2.2.2.2.2.2.2))) (wc := (wd_M h1 pB pW pS pA pQ pC pR pT pD cJ cI cZ cB kb kw ks ka kq kc kr kt kd many tsz thr)) (wr := ([] : va_W)) (va_runV (As := [.ref pA, .int x3, .int x4]) (rest := []) ⟨hx, hb, hml, hown, hts⟩ (kt_M_give_a l dC dI cJ cI cZ cB h1 pB pW pS pA pQ pC pR pT pD _ x3 x4 kb kw ks ka kq kc kr kt kd many tsz thr _ hw) ⟨callB_of 3 hts (gw_in mw_t513) rfl rfl rfl (hq mw_t3) (hq mw_t510) (by decide +kernel) ⟨Nat.le_of_ble_eq_true rfl, Nat.le_of_ble_eq_true rfl⟩, hq mw_t512, hq mw_s35⟩ (pv_W (va_recv (q0 := 0) (ci := 2) hK hP rfl rfl) (hP.sub (ws' := (wd_M h1 pB pW pS pA pQ pC pR pT pD cJ cI cZ cB kb kw ks ka kq kc kr kt kd many tsz thr)) [0, 1, 2, 3, 4, 5, 6, 7, 8, 9] rfl) hK (hD.sub (ws' := (wd_M h1 pB pW pS pA pQ pC pR pT pD cJ cI cZ cB kb kw ks ka kq kc kr kt kd many tsz thr)) [0, 1, 2, 3, 4, 5, 6, 7, 8, 9] (by decide) rfl) hE) rfl rfl hl.1 rfl (lv_room (Nat.le_of_ble_eq_true rfl)) dc_M_one_111 ⟨Nat.le_of_ble_eq_true rfl, Nat.le_of_ble_eq_true rfl⟩) hP hD hS hA [0, 1, 2, 3, 4, 5, 6, 7, 8, 9] [] rfl rfl (by decide) (by decide) (fun u H locs hw hP hD hS => ?_)
    obtain ⟨kb111, kw111, ks111, ka111, kq111, kc111, kr111, kt111, kd111, many111, tsz111, thr111⟩ := u
    have hP : va_P (dC, dI) cs_3 (wd_M h1 pB pW pS pA pQ pC pR pT pD cJ cI cZ cB kb111 kw111 ks111 ka111 kq111 kc111 kr111 kt111 kd111 many111 tsz111 thr111) H := hP.sub (ws' := (wd_M h1 pB pW pS pA pQ pC pR pT pD cJ cI cZ cB kb111 kw111 ks111 ka111 kq111 kc111 kr111 kt111 kd111 many111 tsz111 thr111)) [0, 1, 2, 3, 4, 5, 6, 7, 8, 9] rfl
    have hD : va_D A (wd_M h1 pB pW pS pA pQ pC pR pT pD cJ cI cZ cB kb111 kw111 ks111 ka111 kq111 kc111 kr111 kt111 kd111 many111 tsz111 thr111) := hD.sub (ws' := (wd_M h1 pB pW pS pA pQ pC pR pT pD cJ cI cZ cB kb111 kw111 ks111 ka111 kq111 kc111 kr111 kt111 kd111 many111 tsz111 thr111)) [0, 1, 2, 3, 4, 5, 6, 7, 8, 9] (by decide) rfl
    try dsimp only at hw
    exact W.vret hx hb hr (fun t ht hW => ⟨⟨(kb111, kw111, ks111, ka111, kq111, kc111, kr111, kt111, kd111, many111, tsz111, thr111), rfl, hw, by rw [ht]; exact hP, va_K.moved hW.alike hK, hD⟩, hS.F ht⟩) hS.2.2 dc_M_one_114
  have B_16 : ∀ (H : Heap) (locs : List Loc) (ls : Array Slot) (x1 : Int32) (t0 : Int32) (kb : (Nat → Int32)) (kw : (Nat → Int32)) (ks : (Nat → Int32)) (ka : (Nat → Int32)) (kq : (Nat → Int32)) (kc : (Nat → Int32)) (kr : (Nat → Int32)) (kt : (Nat → Int32)) (kd : (Nat → Int32)) (many : Int32) (tsz : Int32) (thr : Int32), wp_M_one_16 post x1 t0 kb kw ks ka kq kc kr kt kd many tsz thr → va_P (dC, dI) cs_3 (wd_M h1 pB pW pS pA pQ pC pR pT pD cJ cI cZ cB kb kw ks ka kq kc kr kt kd many tsz thr) H → va_D A (wd_M h1 pB pW pS pA pQ pC pR pT pD cJ cI cZ cB kb kw ks ka kq kc kr kt kd many tsz thr) → va_S A s.heap H locs → lv_has ls 7 [(0, .ref h1), (1, .int x1)] → W p l e (headSpec ws_M_one rm_M_one).room s m ([.ref h1, .int a1] : List Value).toArray below meth c H locs 0 0 (MQ below (qv_M dC dI cJ cI cZ cB h1 pB pW pS pA pQ pC pR pT pD post A) ([.ref h1, .int a1] : List Value).toArray s 0 0 A) (F0 m 16 ls [.int t0, .ref h1]) := by
    intro H locs ls x1 t0 kb kw ks ka kq kc kr kt kd many tsz thr hw hP hD hS hl
    unfold wp_M_one_16 at hw
    refine lv_iconst (v := 1) hx hb dc_M_one_16 (by decide) ?_
    refine lv_iconst (v := 1) hx hb dc_M_one_17 (by decide) ?_
    refine gc_i (S := (Nat → Int32) × (Nat → Int32) × (Nat → Int32) × (Nat → Int32) × (Nat → Int32) × (Nat → Int32) × (Nat → Int32) × (Nat → Int32) × (Nat → Int32) × Int32 × Int32 × Int32) (w1 := (fun u => (wd_M h1 pB pW pS pA pQ pC pR pT pD cJ cI cZ cB u.1 u.2.1 u.2.2.1 u.2.2.2.1 u.2.2.2.2.1 u.2.2.2.2.2.1 u.2.2.2.2.2.2.1 u.2.2.2.2.2.2.2.1 u.2.2.2.2.2.2.2.2.1 u.2.2.2.2.2.2.2.2.2.1 u.2.2.2.2.2.2.2.2.2.2.1 u.2.2.2.2.2.2.2.2.2.2.2))) (wc := (wd_M h1 pB pW pS pA pQ pC pR pT pD cJ cI cZ cB kb kw ks ka kq kc kr kt kd many tsz thr)) (wr := ([] : va_W)) (va_runV (As := [.int t0, .int (1 : Int32), .int (1 : Int32)]) (rest := []) ⟨hx, hb, hml, hown, hts⟩ (kt_M_refuse l dC dI cJ cI cZ cB h1 pB pW pS pA pQ pC pR pT pD _ t0 (1 : Int32) (1 : Int32) kb kw ks ka kq kc kr kt kd many tsz thr _ hw) ⟨callB_of 3 hts (gw_in mw_t508) rfl rfl rfl (hq mw_t3) (hq mw_t505) (by decide +kernel) ⟨Nat.le_of_ble_eq_true rfl, Nat.le_of_ble_eq_true rfl⟩, hq mw_t507, hq mw_s34⟩ (pv_W (va_recv (q0 := 0) (ci := 2) hK hP rfl rfl) (hP.sub (ws' := (wd_M h1 pB pW pS pA pQ pC pR pT pD cJ cI cZ cB kb kw ks ka kq kc kr kt kd many tsz thr)) [0, 1, 2, 3, 4, 5, 6, 7, 8, 9] rfl) hK (hD.sub (ws' := (wd_M h1 pB pW pS pA pQ pC pR pT pD cJ cI cZ cB kb kw ks ka kq kc kr kt kd many tsz thr)) [0, 1, 2, 3, 4, 5, 6, 7, 8, 9] (by decide) rfl) hE) rfl rfl hl.1 rfl (lv_room (Nat.le_of_ble_eq_true rfl)) dc_M_one_18 ⟨Nat.le_of_ble_eq_true rfl, Nat.le_of_ble_eq_true rfl⟩) hP hD hS hA [0, 1, 2, 3, 4, 5, 6, 7, 8, 9] [] rfl rfl (by decide) (by decide) (fun r18 u H locs hw hP hD hS => ?_)
    obtain ⟨kb18, kw18, ks18, ka18, kq18, kc18, kr18, kt18, kd18, many18, tsz18, thr18⟩ := u
    have hP : va_P (dC, dI) cs_3 (wd_M h1 pB pW pS pA pQ pC pR pT pD cJ cI cZ cB kb18 kw18 ks18 ka18 kq18 kc18 kr18 kt18 kd18 many18 tsz18 thr18) H := hP.sub (ws' := (wd_M h1 pB pW pS pA pQ pC pR pT pD cJ cI cZ cB kb18 kw18 ks18 ka18 kq18 kc18 kr18 kt18 kd18 many18 tsz18 thr18)) [0, 1, 2, 3, 4, 5, 6, 7, 8, 9] rfl
    have hD : va_D A (wd_M h1 pB pW pS pA pQ pC pR pT pD cJ cI cZ cB kb18 kw18 ks18 ka18 kq18 kc18 kr18 kt18 kd18 many18 tsz18 thr18) := hD.sub (ws' := (wd_M h1 pB pW pS pA pQ pC pR pT pD cJ cI cZ cB kb18 kw18 ks18 ka18 kq18 kc18 kr18 kt18 kd18 many18 tsz18 thr18)) [0, 1, 2, 3, 4, 5, 6, 7, 8, 9] (by decide) rfl
    try dsimp only at hw
    obtain ⟨hw1, hw2⟩ := hw
    refine lv_if_eq (tgt := 25) hx hb dc_M_one_21 (by decide) (fun hc => ?_) (fun hc => ?_)
    · have hw := hw1 hc
      clear hw1 hw2
      refine lv_aload_n hx hb dc_M_one_25 rfl (lv_at hl 0 rfl) ?_
      refine va_get (D := (dC, dI)) (ci := 2) (v := .int many18) (C := "FourWordsModel") (T := tb_M) (N := 12) hx hb hts (hu _ um_M) hown hK hP 0 rfl rfl 8 (by decide) (hq mw_t468) (fun _ h9 => h9) rfl dc_M_one_26 ?_
      refine lv_iconst (v := 1) hx hb dc_M_one_29 (by decide) ?_
      refine lv_isub hx hb dc_M_one_30 ?_
      refine lv_topi (fun v31 e31 => ?_)
      have hw := hw v31 e31
      refine lv_istore_n (lv' := [(2, .int v31), (0, .ref h1), (1, .int x1)]) hx hb dc_M_one_31 rfl hl (Nat.le_of_ble_eq_true rfl) rfl (fun ls hl => ?_)
      refine lv_aload_n hx hb dc_M_one_32 rfl (lv_at hl 1 rfl) ?_
      refine va_get (D := (dC, dI)) (ci := 2) (v := .ref pW) (C := "FourWordsModel") (T := tb_M) (N := 12) hx hb hts (hu _ um_M) hown hK hP 0 rfl rfl 1 (by decide) (hq mw_t461) (fun _ h9 => h9) rfl dc_M_one_33 ?_
      refine lv_iload_n hx hb dc_M_one_36 rfl (lv_at hl 0 rfl) ?_
      obtain ⟨hin, hw⟩ := hw
      refine va_iald hx hb hK hP 2 1 rfl rfl hin dc_M_one_37 ?_
      refine lv_topi (fun v38 e38 => ?_)
      have hw := hw v38 e38
      refine lv_istore_n (lv' := [(3, .int v38), (2, .int v31), (0, .ref h1), (1, .int x1)]) hx hb dc_M_one_38 rfl hl (Nat.le_of_ble_eq_true rfl) rfl (fun ls hl => ?_)
      refine lv_aload_n hx hb dc_M_one_39 rfl (lv_at hl 2 rfl) ?_
      refine va_get (D := (dC, dI)) (ci := 2) (v := .ref pS) (C := "FourWordsModel") (T := tb_M) (N := 12) hx hb hts (hu _ um_M) hown hK hP 0 rfl rfl 2 (by decide) (hq mw_t462) (fun _ h9 => h9) rfl dc_M_one_40 ?_
      refine lv_iload_n hx hb dc_M_one_43 rfl (lv_at hl 1 rfl) ?_
      obtain ⟨hin, hw⟩ := hw
      refine va_zald hx hb hK hP 3 2 rfl rfl hin dc_M_one_44 ?_
      refine lv_topi (fun v45 e45 => ?_)
      have hw := hw v45 e45
      refine lv_istore (lv' := [(4, .int v45), (3, .int v38), (2, .int v31), (0, .ref h1), (1, .int x1)]) hx hb dc_M_one_45 hl (Nat.le_of_ble_eq_true rfl) rfl (fun ls hl => ?_)
      refine lv_aload_n hx hb dc_M_one_47 rfl (lv_at hl 3 rfl) ?_
      refine lv_iload_n hx hb dc_M_one_48 rfl (lv_at hl 2 rfl) ?_
      refine lv_aload_n hx hb dc_M_one_49 rfl (lv_at hl 3 rfl) ?_
      refine va_get (D := (dC, dI)) (ci := 2) (v := .ref pA) (C := "FourWordsModel") (T := tb_M) (N := 12) hx hb hts (hu _ um_M) hown hK hP 0 rfl rfl 3 (by decide) (hq mw_t463) (fun _ h9 => h9) rfl dc_M_one_50 ?_
      refine lv_iload_n hx hb dc_M_one_53 rfl (lv_at hl 1 rfl) ?_
      refine lv_iconst (v := 0) hx hb dc_M_one_54 (by decide) ?_
      refine gc_v (S := (Nat → Int32) × (Nat → Int32) × (Nat → Int32) × (Nat → Int32) × (Nat → Int32) × (Nat → Int32) × (Nat → Int32) × (Nat → Int32) × (Nat → Int32) × Int32 × Int32 × Int32) (w1 := (fun u => (wd_M h1 pB pW pS pA pQ pC pR pT pD cJ cI cZ cB u.1 u.2.1 u.2.2.1 u.2.2.2.1 u.2.2.2.2.1 u.2.2.2.2.2.1 u.2.2.2.2.2.2.1 u.2.2.2.2.2.2.2.1 u.2.2.2.2.2.2.2.2.1 u.2.2.2.2.2.2.2.2.2.1 u.2.2.2.2.2.2.2.2.2.2.1 u.2.2.2.2.2.2.2.2.2.2.2))) (wc := (wd_M h1 pB pW pS pA pQ pC pR pT pD cJ cI cZ cB kb18 kw18 ks18 ka18 kq18 kc18 kr18 kt18 kd18 many18 tsz18 thr18)) (wr := ([] : va_W)) (va_runV (As := [.int v31, .ref pA, .int v38, .int (0 : Int32)]) (rest := []) ⟨hx, hb, hml, hown, hts⟩ (kt_M_take_a l dC dI cJ cI cZ cB h1 pB pW pS pA pQ pC pR pT pD _ v31 v38 (0 : Int32) kb18 kw18 ks18 ka18 kq18 kc18 kr18 kt18 kd18 many18 tsz18 thr18 _ hw) ⟨callB_of 4 hts (gw_in mw_t525) rfl rfl rfl (hq mw_t3) (hq mw_t522) (by decide +kernel) ⟨Nat.le_of_ble_eq_true rfl, Nat.le_of_ble_eq_true rfl⟩, hq mw_t524, hq mw_s37⟩ (pv_W (va_recv (q0 := 0) (ci := 2) hK hP rfl rfl) (hP.sub (ws' := (wd_M h1 pB pW pS pA pQ pC pR pT pD cJ cI cZ cB kb18 kw18 ks18 ka18 kq18 kc18 kr18 kt18 kd18 many18 tsz18 thr18)) [0, 1, 2, 3, 4, 5, 6, 7, 8, 9] rfl) hK (hD.sub (ws' := (wd_M h1 pB pW pS pA pQ pC pR pT pD cJ cI cZ cB kb18 kw18 ks18 ka18 kq18 kc18 kr18 kt18 kd18 many18 tsz18 thr18)) [0, 1, 2, 3, 4, 5, 6, 7, 8, 9] (by decide) rfl) hE) rfl rfl hl.1 rfl (lv_room (Nat.le_of_ble_eq_true rfl)) dc_M_one_55 ⟨Nat.le_of_ble_eq_true rfl, Nat.le_of_ble_eq_true rfl⟩) hP hD hS hA [0, 1, 2, 3, 4, 5, 6, 7, 8, 9] [] rfl rfl (by decide) (by decide) (fun u H locs hw hP hD hS => ?_)
      obtain ⟨kb55, kw55, ks55, ka55, kq55, kc55, kr55, kt55, kd55, many55, tsz55, thr55⟩ := u
      have hP : va_P (dC, dI) cs_3 (wd_M h1 pB pW pS pA pQ pC pR pT pD cJ cI cZ cB kb55 kw55 ks55 ka55 kq55 kc55 kr55 kt55 kd55 many55 tsz55 thr55) H := hP.sub (ws' := (wd_M h1 pB pW pS pA pQ pC pR pT pD cJ cI cZ cB kb55 kw55 ks55 ka55 kq55 kc55 kr55 kt55 kd55 many55 tsz55 thr55)) [0, 1, 2, 3, 4, 5, 6, 7, 8, 9] rfl
      have hD : va_D A (wd_M h1 pB pW pS pA pQ pC pR pT pD cJ cI cZ cB kb55 kw55 ks55 ka55 kq55 kc55 kr55 kt55 kd55 many55 tsz55 thr55) := hD.sub (ws' := (wd_M h1 pB pW pS pA pQ pC pR pT pD cJ cI cZ cB kb55 kw55 ks55 ka55 kq55 kc55 kr55 kt55 kd55 many55 tsz55 thr55)) [0, 1, 2, 3, 4, 5, 6, 7, 8, 9] (by decide) rfl
      try dsimp only at hw
      refine lv_aload_n hx hb dc_M_one_58 rfl (lv_at hl 3 rfl) ?_
      refine lv_dup hx hb dc_M_one_59 rfl ?_
      refine va_get (D := (dC, dI)) (ci := 2) (v := .int many55) (C := "FourWordsModel") (T := tb_M) (N := 12) hx hb hts (hu _ um_M) hown hK hP 0 rfl rfl 8 (by decide) (hq mw_t468) (fun _ h9 => h9) rfl dc_M_one_60 ?_
      refine lv_iconst (v := 1) hx hb dc_M_one_63 (by decide) ?_
      refine lv_isub hx hb dc_M_one_64 ?_
      refine va_put (D := (dC, dI)) (ci := 2) (v := .int (many55 - (1 : Int32))) (ty := .int) (C := "FourWordsModel") (T := tb_M) (N := 12) hx hb hts (hu _ um_M) ft_M fk_M fn_M hown hK hP hD hS 0 rfl rfl 8 (by decide) (hq mw_t468) (fun _ h9 => h9) rfl (by decide +kernel) rfl rfl (Nat.le_of_ble_eq_true rfl) dc_M_one_65 (fun H locs hP hD hS => ?_)
      have hP : va_P (dC, dI) cs_3 (wd_M h1 pB pW pS pA pQ pC pR pT pD cJ cI cZ cB kb55 kw55 ks55 ka55 kq55 kc55 kr55 kt55 kd55 (many55 - (1 : Int32)) tsz55 thr55) H := hP
      have hD : va_D A (wd_M h1 pB pW pS pA pQ pC pR pT pD cJ cI cZ cB kb55 kw55 ks55 ka55 kq55 kc55 kr55 kt55 kd55 (many55 - (1 : Int32)) tsz55 thr55) := hD
      refine lv_iload_n hx hb dc_M_one_68 rfl (lv_at hl 4 rfl) ?_
      obtain ⟨hw1, hw2⟩ := hw
      refine lv_if_ne (tgt := 115) hx hb dc_M_one_69 (by decide) (fun hc => ?_) (fun hc => ?_)
      · have hw := hw1 hc
        clear hw1 hw2
        refine lv_iload_n hx hb dc_M_one_115 rfl (lv_at hl 4 rfl) ?_
        refine lv_iconst (v := 1) hx hb dc_M_one_116 (by decide) ?_
        obtain ⟨hw1, hw2⟩ := hw
        refine lv_icmp_ne (tgt := 165) hx hb dc_M_one_117 (by decide) (fun hc => ?_) (fun hc => ?_)
        · have hw := hw1 hc
          clear hw1 hw2
          refine lv_iload_n hx hb dc_M_one_165 rfl (lv_at hl 4 rfl) ?_
          refine lv_iconst (v := 2) hx hb dc_M_one_166 (by decide) ?_
          obtain ⟨hw1, hw2⟩ := hw
          refine lv_icmp_ne (tgt := 184) hx hb dc_M_one_167 (by decide) (fun hc => ?_) (fun hc => ?_)
          · have hw := hw1 hc
            clear hw1 hw2
            refine lv_aload_n hx hb dc_M_one_184 rfl (lv_at hl 3 rfl) ?_
            refine va_get (D := (dC, dI)) (ci := 2) (v := .ref pA) (C := "FourWordsModel") (T := tb_M) (N := 12) hx hb hts (hu _ um_M) hown hK hP 0 rfl rfl 3 (by decide) (hq mw_t463) (fun _ h9 => h9) rfl dc_M_one_185 ?_
            refine lv_iconst (v := 0) hx hb dc_M_one_188 (by decide) ?_
            obtain ⟨hin, hw⟩ := hw
            refine va_bald hx hb hK hP 4 3 rfl rfl hin dc_M_one_189 ?_
            exact B_190 _ _ _ x1 v38 (ka55 (0 : Int32).toNatClampNeg) kb55 kw55 ks55 ka55 kq55 kc55 kr55 kt55 kd55 (many55 - (1 : Int32)) tsz55 thr55 hw hP hD hS (lv_sub hl [3, 4, 1] rfl)
          · have hw := hw2 (fun h9 => h9 hc)
            clear hw1 hw2
            refine lv_aload_n hx hb dc_M_one_170 rfl (lv_at hl 3 rfl) ?_
            refine va_get (D := (dC, dI)) (ci := 2) (v := .ref pA) (C := "FourWordsModel") (T := tb_M) (N := 12) hx hb hts (hu _ um_M) hown hK hP 0 rfl rfl 3 (by decide) (hq mw_t463) (fun _ h9 => h9) rfl dc_M_one_171 ?_
            refine lv_iload_n hx hb dc_M_one_174 rfl (lv_at hl 1 rfl) ?_
            refine gc_i (S := (Nat → Int32)) (w1 := (fun u => (wd_A pA cJ cI cZ cB u))) (wc := (wd_A pA cJ cI cZ cB ka55)) (wr := ([(h1, .inr (2, [.ref pB, .ref pW, .ref pS, .ref pA, .ref pQ, .ref pC, .ref pR, .ref pT, .int (many55 - (1 : Int32)), .int tsz55, .int thr55, .ref pD])), (pB, .inl (cB, 4096, .inl kb55)), (pW, .inl (cI, 64, .inl kw55)), (pS, .inl (cZ, 64, .inl ks55)), (pQ, .inl (cB, 64, .inl kq55)), (pC, .inl (cB, 64, .inl kc55)), (pR, .inl (cB, 65, .inl kr55)), (pT, .inl (cB, 80, .inl kt55)), (pD, .inl (cB, 24, .inl kd55))] : va_W)) (va_runS (As := [.ref pA, .int v38]) (rest := []) ⟨hx, hb, hml, hown, hts⟩ (kt_M_truth l dC dI cJ cI cZ cB pA _ v38 ka55 _ hw) ⟨callB_of 2 hts (gw_in mw_t581) rfl rfl rfl (hq mw_t3) (hq mw_t579) (by decide +kernel) ⟨Nat.le_of_ble_eq_true rfl, Nat.le_of_ble_eq_true rfl⟩, hq mw_t580⟩ (ps_W (hP.sub (ws' := (wd_A pA cJ cI cZ cB ka55)) [4] rfl) hK (hD.sub (ws' := (wd_A pA cJ cI cZ cB ka55)) [4] (by decide) rfl) hE) rfl rfl hl.1 rfl (lv_room (Nat.le_of_ble_eq_true rfl)) dc_M_one_175 ⟨Nat.le_of_ble_eq_true rfl, Nat.le_of_ble_eq_true rfl⟩) hP hD hS hA [4] [0, 1, 2, 3, 5, 6, 7, 8, 9] rfl rfl (by decide) (by decide) (fun r175 u H locs hw hP hD hS => ?_)
            obtain ⟨ka175, rfl⟩ : ∃ z, z = u := ⟨_, rfl⟩
            have hP : va_P (dC, dI) cs_3 (wd_M h1 pB pW pS pA pQ pC pR pT pD cJ cI cZ cB kb55 kw55 ks55 ka175 kq55 kc55 kr55 kt55 kd55 (many55 - (1 : Int32)) tsz55 thr55) H := hP.sub (ws' := (wd_M h1 pB pW pS pA pQ pC pR pT pD cJ cI cZ cB kb55 kw55 ks55 ka175 kq55 kc55 kr55 kt55 kd55 (many55 - (1 : Int32)) tsz55 thr55)) [0, 1, 2, 3, 9, 4, 5, 6, 7, 8] rfl
            have hD : va_D A (wd_M h1 pB pW pS pA pQ pC pR pT pD cJ cI cZ cB kb55 kw55 ks55 ka175 kq55 kc55 kr55 kt55 kd55 (many55 - (1 : Int32)) tsz55 thr55) := hD.sub (ws' := (wd_M h1 pB pW pS pA pQ pC pR pT pD cJ cI cZ cB kb55 kw55 ks55 ka175 kq55 kc55 kr55 kt55 kd55 (many55 - (1 : Int32)) tsz55 thr55)) [0, 1, 2, 3, 9, 4, 5, 6, 7, 8] (by decide) rfl
            try dsimp only at hw
            refine gc_i (S := Unit) (w1 := (fun u => ([] : va_W))) (wc := ([] : va_W)) (wr := ([(h1, .inr (2, [.ref pB, .ref pW, .ref pS, .ref pA, .ref pQ, .ref pC, .ref pR, .ref pT, .int (many55 - (1 : Int32)), .int tsz55, .int thr55, .ref pD])), (pB, .inl (cB, 4096, .inl kb55)), (pW, .inl (cI, 64, .inl kw55)), (pS, .inl (cZ, 64, .inl ks55)), (pA, .inl (cB, 64, .inl ka175)), (pQ, .inl (cB, 64, .inl kq55)), (pC, .inl (cB, 64, .inl kc55)), (pR, .inl (cB, 65, .inl kr55)), (pT, .inl (cB, 80, .inl kt55)), (pD, .inl (cB, 24, .inl kd55))] : va_W)) (va_runS (As := [.int r175]) (rest := []) ⟨hx, hb, hml, hown, hts⟩ (kt_M_opposite l dC dI cJ cI cZ cB _ r175 _ hw) ⟨callB_of 1 hts (gw_in mw_t574) rfl rfl rfl (hq mw_t3) (hq mw_t572) (by decide +kernel) ⟨Nat.le_of_ble_eq_true rfl, Nat.le_of_ble_eq_true rfl⟩, hq mw_t573⟩ (ps_W (hP.sub (ws' := ([] : va_W)) [] rfl) hK (hD.sub (ws' := ([] : va_W)) [] (by decide) rfl) hE) rfl rfl hl.1 rfl (lv_room (Nat.le_of_ble_eq_true rfl)) dc_M_one_178 ⟨Nat.le_of_ble_eq_true rfl, Nat.le_of_ble_eq_true rfl⟩) hP hD hS hA [] [0, 1, 2, 3, 4, 5, 6, 7, 8, 9] rfl rfl (by decide) (by decide) (fun r178 u H locs hw hP hD hS => ?_)
            have hP : va_P (dC, dI) cs_3 (wd_M h1 pB pW pS pA pQ pC pR pT pD cJ cI cZ cB kb55 kw55 ks55 ka175 kq55 kc55 kr55 kt55 kd55 (many55 - (1 : Int32)) tsz55 thr55) H := hP.sub (ws' := (wd_M h1 pB pW pS pA pQ pC pR pT pD cJ cI cZ cB kb55 kw55 ks55 ka175 kq55 kc55 kr55 kt55 kd55 (many55 - (1 : Int32)) tsz55 thr55)) [0, 1, 2, 3, 4, 5, 6, 7, 8, 9] rfl
            have hD : va_D A (wd_M h1 pB pW pS pA pQ pC pR pT pD cJ cI cZ cB kb55 kw55 ks55 ka175 kq55 kc55 kr55 kt55 kd55 (many55 - (1 : Int32)) tsz55 thr55) := hD.sub (ws' := (wd_M h1 pB pW pS pA pQ pC pR pT pD cJ cI cZ cB kb55 kw55 ks55 ka175 kq55 kc55 kr55 kt55 kd55 (many55 - (1 : Int32)) tsz55 thr55)) [0, 1, 2, 3, 4, 5, 6, 7, 8, 9] (by decide) rfl
            try dsimp only at hw
            refine lv_goto (tgt := 190) hx hb dc_M_one_181 (by decide) ?_
            exact B_190 _ _ _ x1 v38 r178 kb55 kw55 ks55 ka175 kq55 kc55 kr55 kt55 kd55 (many55 - (1 : Int32)) tsz55 thr55 hw hP hD hS (lv_sub hl [3, 4, 1] rfl)
        · have hw := hw2 (fun h9 => h9 hc)
          clear hw1 hw2
          refine lv_iconst (v := 0) hx hb dc_M_one_120 (by decide) ?_
          refine lv_istore (lv' := [(5, .int (0 : Int32)), (4, .int v45), (3, .int v38), (2, .int v31), (0, .ref h1), (1, .int x1)]) hx hb dc_M_one_121 hl (Nat.le_of_ble_eq_true rfl) rfl (fun ls hl => ?_)
          obtain ⟨n123, hw⟩ := hw
          exact B_123 n123 _ _ _ v38 v45 (0 : Int32) kb55 kw55 ks55 ka55 kq55 kc55 kr55 kt55 kd55 (many55 - (1 : Int32)) tsz55 thr55 hw hP hD hS (lv_sub hl [4, 2, 1, 0] rfl)
      · have hw := hw2 (fun h9 => h9 hc)
        clear hw1 hw2
        refine lv_aload_n hx hb dc_M_one_72 rfl (lv_at hl 3 rfl) ?_
        refine va_get (D := (dC, dI)) (ci := 2) (v := .ref pA) (C := "FourWordsModel") (T := tb_M) (N := 12) hx hb hts (hu _ um_M) hown hK hP 0 rfl rfl 3 (by decide) (hq mw_t463) (fun _ h9 => h9) rfl dc_M_one_73 ?_
        refine lv_iload_n hx hb dc_M_one_76 rfl (lv_at hl 1 rfl) ?_
        refine gc_i (S := (Nat → Int32)) (w1 := (fun u => (wd_A pA cJ cI cZ cB u))) (wc := (wd_A pA cJ cI cZ cB ka55)) (wr := ([(h1, .inr (2, [.ref pB, .ref pW, .ref pS, .ref pA, .ref pQ, .ref pC, .ref pR, .ref pT, .int (many55 - (1 : Int32)), .int tsz55, .int thr55, .ref pD])), (pB, .inl (cB, 4096, .inl kb55)), (pW, .inl (cI, 64, .inl kw55)), (pS, .inl (cZ, 64, .inl ks55)), (pQ, .inl (cB, 64, .inl kq55)), (pC, .inl (cB, 64, .inl kc55)), (pR, .inl (cB, 65, .inl kr55)), (pT, .inl (cB, 80, .inl kt55)), (pD, .inl (cB, 24, .inl kd55))] : va_W)) (va_runS (As := [.ref pA, .int v38]) (rest := []) ⟨hx, hb, hml, hown, hts⟩ (kt_M_dark l dC dI cJ cI cZ cB pA _ v38 ka55 _ hw) ⟨callB_of 2 hts (gw_in mw_t532) rfl rfl rfl (hq mw_t3) (hq mw_t530) (by decide +kernel) ⟨Nat.le_of_ble_eq_true rfl, Nat.le_of_ble_eq_true rfl⟩, hq mw_t531⟩ (ps_W (hP.sub (ws' := (wd_A pA cJ cI cZ cB ka55)) [4] rfl) hK (hD.sub (ws' := (wd_A pA cJ cI cZ cB ka55)) [4] (by decide) rfl) hE) rfl rfl hl.1 rfl (lv_room (Nat.le_of_ble_eq_true rfl)) dc_M_one_77 ⟨Nat.le_of_ble_eq_true rfl, Nat.le_of_ble_eq_true rfl⟩) hP hD hS hA [4] [0, 1, 2, 3, 5, 6, 7, 8, 9] rfl rfl (by decide) (by decide) (fun r77 u H locs hw hP hD hS => ?_)
        obtain ⟨ka77, rfl⟩ : ∃ z, z = u := ⟨_, rfl⟩
        have hP : va_P (dC, dI) cs_3 (wd_M h1 pB pW pS pA pQ pC pR pT pD cJ cI cZ cB kb55 kw55 ks55 ka77 kq55 kc55 kr55 kt55 kd55 (many55 - (1 : Int32)) tsz55 thr55) H := hP.sub (ws' := (wd_M h1 pB pW pS pA pQ pC pR pT pD cJ cI cZ cB kb55 kw55 ks55 ka77 kq55 kc55 kr55 kt55 kd55 (many55 - (1 : Int32)) tsz55 thr55)) [0, 1, 2, 3, 9, 4, 5, 6, 7, 8] rfl
        have hD : va_D A (wd_M h1 pB pW pS pA pQ pC pR pT pD cJ cI cZ cB kb55 kw55 ks55 ka77 kq55 kc55 kr55 kt55 kd55 (many55 - (1 : Int32)) tsz55 thr55) := hD.sub (ws' := (wd_M h1 pB pW pS pA pQ pC pR pT pD cJ cI cZ cB kb55 kw55 ks55 ka77 kq55 kc55 kr55 kt55 kd55 (many55 - (1 : Int32)) tsz55 thr55)) [0, 1, 2, 3, 9, 4, 5, 6, 7, 8] (by decide) rfl
        try dsimp only at hw
        obtain ⟨hw1, hw2⟩ := hw
        refine lv_if_eq (tgt := 95) hx hb dc_M_one_80 (by decide) (fun hc => ?_) (fun hc => ?_)
        · have hw := hw1 hc
          clear hw1 hw2
          refine lv_aload_n hx hb dc_M_one_95 rfl (lv_at hl 3 rfl) ?_
          refine va_get (D := (dC, dI)) (ci := 2) (v := .ref pA) (C := "FourWordsModel") (T := tb_M) (N := 12) hx hb hts (hu _ um_M) hown hK hP 0 rfl rfl 3 (by decide) (hq mw_t463) (fun _ h9 => h9) rfl dc_M_one_96 ?_
          refine lv_iload_n hx hb dc_M_one_99 rfl (lv_at hl 1 rfl) ?_
          refine gc_v (S := (Nat → Int32)) (w1 := (fun u => (wd_A pA cJ cI cZ cB u))) (wc := (wd_A pA cJ cI cZ cB ka77)) (wr := ([(h1, .inr (2, [.ref pB, .ref pW, .ref pS, .ref pA, .ref pQ, .ref pC, .ref pR, .ref pT, .int (many55 - (1 : Int32)), .int tsz55, .int thr55, .ref pD])), (pB, .inl (cB, 4096, .inl kb55)), (pW, .inl (cI, 64, .inl kw55)), (pS, .inl (cZ, 64, .inl ks55)), (pQ, .inl (cB, 64, .inl kq55)), (pC, .inl (cB, 64, .inl kc55)), (pR, .inl (cB, 65, .inl kr55)), (pT, .inl (cB, 80, .inl kt55)), (pD, .inl (cB, 24, .inl kd55))] : va_W)) (va_runS (As := [.ref pA, .int v38]) (rest := []) ⟨hx, hb, hml, hown, hts⟩ (kt_M_negate l dC dI cJ cI cZ cB pA _ v38 ka77 _ hw) ⟨callB_of 2 hts (gw_in mw_t552) rfl rfl rfl (hq mw_t3) (hq mw_t550) (by decide +kernel) ⟨Nat.le_of_ble_eq_true rfl, Nat.le_of_ble_eq_true rfl⟩, hq mw_t551⟩ (ps_W (hP.sub (ws' := (wd_A pA cJ cI cZ cB ka77)) [4] rfl) hK (hD.sub (ws' := (wd_A pA cJ cI cZ cB ka77)) [4] (by decide) rfl) hE) rfl rfl hl.1 rfl (lv_room (Nat.le_of_ble_eq_true rfl)) dc_M_one_100 ⟨Nat.le_of_ble_eq_true rfl, Nat.le_of_ble_eq_true rfl⟩) hP hD hS hA [4] [0, 1, 2, 3, 5, 6, 7, 8, 9] rfl rfl (by decide) (by decide) (fun u H locs hw hP hD hS => ?_)
          obtain ⟨ka100, rfl⟩ : ∃ z, z = u := ⟨_, rfl⟩
          have hP : va_P (dC, dI) cs_3 (wd_M h1 pB pW pS pA pQ pC pR pT pD cJ cI cZ cB kb55 kw55 ks55 ka100 kq55 kc55 kr55 kt55 kd55 (many55 - (1 : Int32)) tsz55 thr55) H := hP.sub (ws' := (wd_M h1 pB pW pS pA pQ pC pR pT pD cJ cI cZ cB kb55 kw55 ks55 ka100 kq55 kc55 kr55 kt55 kd55 (many55 - (1 : Int32)) tsz55 thr55)) [0, 1, 2, 3, 9, 4, 5, 6, 7, 8] rfl
          have hD : va_D A (wd_M h1 pB pW pS pA pQ pC pR pT pD cJ cI cZ cB kb55 kw55 ks55 ka100 kq55 kc55 kr55 kt55 kd55 (many55 - (1 : Int32)) tsz55 thr55) := hD.sub (ws' := (wd_M h1 pB pW pS pA pQ pC pR pT pD cJ cI cZ cB kb55 kw55 ks55 ka100 kq55 kc55 kr55 kt55 kd55 (many55 - (1 : Int32)) tsz55 thr55)) [0, 1, 2, 3, 9, 4, 5, 6, 7, 8] (by decide) rfl
          try dsimp only at hw
          exact B_103 _ _ _ v38 v45 kb55 kw55 ks55 ka100 kq55 kc55 kr55 kt55 kd55 (many55 - (1 : Int32)) tsz55 thr55 hw hP hD hS (lv_sub hl [3, 1, 0] rfl)
        · have hw := hw2 hc
          clear hw1 hw2
          refine lv_aload_n hx hb dc_M_one_83 rfl (lv_at hl 3 rfl) ?_
          refine va_get (D := (dC, dI)) (ci := 2) (v := .ref pA) (C := "FourWordsModel") (T := tb_M) (N := 12) hx hb hts (hu _ um_M) hown hK hP 0 rfl rfl 3 (by decide) (hq mw_t463) (fun _ h9 => h9) rfl dc_M_one_84 ?_
          refine lv_iload_n hx hb dc_M_one_87 rfl (lv_at hl 1 rfl) ?_
          refine lv_iconst (v := 3) hx hb dc_M_one_88 (by decide) ?_
          refine gc_v (S := (Nat → Int32)) (w1 := (fun u => (wd_A pA cJ cI cZ cB u))) (wc := (wd_A pA cJ cI cZ cB ka77)) (wr := ([(h1, .inr (2, [.ref pB, .ref pW, .ref pS, .ref pA, .ref pQ, .ref pC, .ref pR, .ref pT, .int (many55 - (1 : Int32)), .int tsz55, .int thr55, .ref pD])), (pB, .inl (cB, 4096, .inl kb55)), (pW, .inl (cI, 64, .inl kw55)), (pS, .inl (cZ, 64, .inl ks55)), (pQ, .inl (cB, 64, .inl kq55)), (pC, .inl (cB, 64, .inl kc55)), (pR, .inl (cB, 65, .inl kr55)), (pT, .inl (cB, 80, .inl kt55)), (pD, .inl (cB, 24, .inl kd55))] : va_W)) (va_runS (As := [.ref pA, .int v38, .int (3 : Int32)]) (rest := []) ⟨hx, hb, hml, hown, hts⟩ (kt_M_fill l dC dI cJ cI cZ cB pA _ v38 (3 : Int32) ka77 _ hw) ⟨callB_of 3 hts (gw_in mw_t538) rfl rfl rfl (hq mw_t3) (hq mw_t536) (by decide +kernel) ⟨Nat.le_of_ble_eq_true rfl, Nat.le_of_ble_eq_true rfl⟩, hq mw_t537⟩ (ps_W (hP.sub (ws' := (wd_A pA cJ cI cZ cB ka77)) [4] rfl) hK (hD.sub (ws' := (wd_A pA cJ cI cZ cB ka77)) [4] (by decide) rfl) hE) rfl rfl hl.1 rfl (lv_room (Nat.le_of_ble_eq_true rfl)) dc_M_one_89 ⟨Nat.le_of_ble_eq_true rfl, Nat.le_of_ble_eq_true rfl⟩) hP hD hS hA [4] [0, 1, 2, 3, 5, 6, 7, 8, 9] rfl rfl (by decide) (by decide) (fun u H locs hw hP hD hS => ?_)
          obtain ⟨ka89, rfl⟩ : ∃ z, z = u := ⟨_, rfl⟩
          have hP : va_P (dC, dI) cs_3 (wd_M h1 pB pW pS pA pQ pC pR pT pD cJ cI cZ cB kb55 kw55 ks55 ka89 kq55 kc55 kr55 kt55 kd55 (many55 - (1 : Int32)) tsz55 thr55) H := hP.sub (ws' := (wd_M h1 pB pW pS pA pQ pC pR pT pD cJ cI cZ cB kb55 kw55 ks55 ka89 kq55 kc55 kr55 kt55 kd55 (many55 - (1 : Int32)) tsz55 thr55)) [0, 1, 2, 3, 9, 4, 5, 6, 7, 8] rfl
          have hD : va_D A (wd_M h1 pB pW pS pA pQ pC pR pT pD cJ cI cZ cB kb55 kw55 ks55 ka89 kq55 kc55 kr55 kt55 kd55 (many55 - (1 : Int32)) tsz55 thr55) := hD.sub (ws' := (wd_M h1 pB pW pS pA pQ pC pR pT pD cJ cI cZ cB kb55 kw55 ks55 ka89 kq55 kc55 kr55 kt55 kd55 (many55 - (1 : Int32)) tsz55 thr55)) [0, 1, 2, 3, 9, 4, 5, 6, 7, 8] (by decide) rfl
          try dsimp only at hw
          refine lv_goto (tgt := 103) hx hb dc_M_one_92 (by decide) ?_
          exact B_103 _ _ _ v38 v45 kb55 kw55 ks55 ka89 kq55 kc55 kr55 kt55 kd55 (many55 - (1 : Int32)) tsz55 thr55 hw hP hD hS (lv_sub hl [3, 1, 0] rfl)
    · have hw := hw2 hc
      clear hw1 hw2
      exact W.vret hx hb hr (fun t ht hW => ⟨⟨(kb18, kw18, ks18, ka18, kq18, kc18, kr18, kt18, kd18, many18, tsz18, thr18), rfl, hw, by rw [ht]; exact hP, va_K.moved hW.alike hK, hD⟩, hS.F ht⟩) hS.2.2 dc_M_one_24
  have B_11 : ∀ (H : Heap) (locs : List Loc) (ls : Array Slot) (x1 : Int32) (kb : (Nat → Int32)) (kw : (Nat → Int32)) (ks : (Nat → Int32)) (ka : (Nat → Int32)) (kq : (Nat → Int32)) (kc : (Nat → Int32)) (kr : (Nat → Int32)) (kt : (Nat → Int32)) (kd : (Nat → Int32)) (many : Int32) (tsz : Int32) (thr : Int32), wp_M_one_11 post x1 kb kw ks ka kq kc kr kt kd many tsz thr → va_P (dC, dI) cs_3 (wd_M h1 pB pW pS pA pQ pC pR pT pD cJ cI cZ cB kb kw ks ka kq kc kr kt kd many tsz thr) H → va_D A (wd_M h1 pB pW pS pA pQ pC pR pT pD cJ cI cZ cB kb kw ks ka kq kc kr kt kd many tsz thr) → va_S A s.heap H locs → lv_has ls 7 [(0, .ref h1), (1, .int x1)] → W p l e (headSpec ws_M_one rm_M_one).room s m ([.ref h1, .int a1] : List Value).toArray below meth c H locs 0 0 (MQ below (qv_M dC dI cJ cI cZ cB h1 pB pW pS pA pQ pC pR pT pD post A) ([.ref h1, .int a1] : List Value).toArray s 0 0 A) (F0 m 11 ls [.ref h1]) := by
    intro H locs ls x1 kb kw ks ka kq kc kr kt kd many tsz thr hw hP hD hS hl
    unfold wp_M_one_11 at hw
    refine lv_iconst (v := 1) hx hb dc_M_one_11 (by decide) ?_
    refine lv_goto (tgt := 16) hx hb dc_M_one_12 (by decide) ?_
    exact B_16 _ _ _ x1 (1 : Int32) kb kw ks ka kq kc kr kt kd many tsz thr hw hP hD hS (lv_sub hl [0, 1] rfl)
  unfold wp_M_one at hw
  refine lv_aload_n hx hb dc_M_one_0 rfl (lv_at hl 0 rfl) ?_
  refine lv_iload_n hx hb dc_M_one_1 rfl (lv_at hl 1 rfl) ?_
  obtain ⟨hw1, hw2⟩ := hw
  refine lv_if_lt (tgt := 11) hx hb dc_M_one_2 (by decide) (fun hc => ?_) (fun hc => ?_)
  · have hw := hw1 hc
    clear hw1 hw2
    exact B_11 _ _ _ a1 kb kw ks ka kq kc kr kt kd many tsz thr hw hP hD hS (lv_sub hl [0, 1] rfl)
  · have hw := hw2 hc
    clear hw1 hw2
    refine lv_iload_n hx hb dc_M_one_5 rfl (lv_at hl 1 rfl) ?_
    refine lv_bipush (v := 8) hx hb dc_M_one_6 (by decide) ?_
    obtain ⟨hw1, hw2⟩ := hw
    refine lv_icmp_le (tgt := 15) hx hb dc_M_one_8 (by decide) (fun hc => ?_) (fun hc => ?_)
    · have hw := hw1 hc
      clear hw1 hw2
      refine lv_iconst (v := 0) hx hb dc_M_one_15 (by decide) ?_
      exact B_16 _ _ _ a1 (0 : Int32) kb kw ks ka kq kc kr kt kd many tsz thr hw hP hD hS (lv_sub hl [0, 1] rfl)
    · have hw := hw2 hc
      clear hw1 hw2
      exact B_11 _ _ _ a1 kb kw ks ka kq kc kr kt kd many tsz thr hw hP hD hS (lv_sub hl [0, 1] rfl)

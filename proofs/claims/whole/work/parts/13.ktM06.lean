set_option maxHeartbeats 4000000 in
set_option maxRecDepth 100000 in
theorem kt_M_push (l : Launch) (dC : Nat → ClassId) (dI : Nat → Nat → Nat) (cJ cI cZ cB : ClassId) (h1 pB pW pS pA pQ pC pR pT pD : Nat) (sz : Nat) (a1 : Int64) (a3 : Int64) (a5 : Int32) (a6 : Int32) (kb : (Nat → Int32)) (kw : (Nat → Int32)) (ks : (Nat → Int32)) (ka : (Nat → Int32)) (kq : (Nat → Int32)) (kc : (Nat → Int32)) (kr : (Nat → Int32)) (kt : (Nat → Int32)) (kd : (Nat → Int32)) (many : Int32) (tsz : Int32) (thr : Int32) (post : Int32 → (Nat → Int32) → (Nat → Int32) → (Nat → Int32) → (Nat → Int32) → (Nat → Int32) → (Nat → Int32) → (Nat → Int32) → (Nat → Int32) → (Nat → Int32) → Int32 → Int32 → Int32 → Prop) (hw : wp_M_push post a1 a3 a5 a6 kb kw ks ka kq kc kr kt kd many tsz thr) : Met l yn_M_push ws_M_push rm_M_push (va_Pc [.ref h1, .long a1, .long a3, .int a5, .int a6] (pc_W (dC, dI) (ty_4 cJ cI cZ cB) (wd_M h1 pB pW pS pA pQ pC pR pT pD cJ cI cZ cB kb kw ks ka kq kc kr kt kd many tsz thr) sz)) (qi_M dC dI cJ cI cZ cB h1 pB pW pS pA pQ pC pR pT pD post (va_A (wd_M h1 pB pW pS pA pQ pC pR pT pD cJ cI cZ cB kb kw ks ka kq kc kr kt kd many tsz thr) sz)) 0 0 (va_A (wd_M h1 pB pW pS pA pQ pC pR pT pD cJ cI cZ cB kb kw ks ka kq kc kr kt kd many tsz thr) sz) := by
  refine Met.ofW (cc := cd_M_push) (maxL := 8) (ret := (some .int)) (by decide) rfl ?_
  intro p e s m args below meth c s₁ B hml hv
  obtain ⟨rfl, hsz, hP, hK, hD0, hE⟩ := hv
  have hx := B.exec
  have hb := B.bytes
  have hr := B.returns
  have hts := atoms_spec (ws := ws_M_push) B.pre
  have hq : ∀ {w : Cond}, w ∈ wg_all → w.before ([.ref h1, .long a1, .long a3, .int a5, .int a6] : List Value).toArray s = true := fun h => hts _ (List.mem_cons_of_mem _ h)
  have hu : ∀ L : List Cond, (∀ w ∈ L, w ∈ wg_all) → ∀ w ∈ L, w ∈ ws_M_push := fun L h w hw => List.mem_cons_of_mem _ (h w hw)
  have hown : s.vm.findClass "FourWordsModel" = some m.cls := findClass_of_methodNamed B.named
  have hlocks := B.notSynchronized
  subst hsz
  have hD := hD0.self (sz := s.heap.size)
  generalize hAe : va_A (wd_M h1 pB pW pS pA pQ pC pR pT pD cJ cI cZ cB kb kw ks ka kq kc kr kt kd many tsz thr) s.heap.size = A at hD ⊢
  have hA : ∀ q : Nat, s.heap.size ≤ q → A q := fun q h => by rw [← hAe]; exact Or.inr h
  have hS : va_S A s.heap s.heap [] := va_S.rf
  have hl := lv_entry [.ref h1, .long a1, .long a3, .int a5, .int a6] (n := 8) (Nat.le_of_ble_eq_true rfl)
  rw [lg_entry_eq]
  generalize (lg_sl [.ref h1, .long a1, .long a3, .int a5, .int a6] ++ List.replicate (8 - (lg_sl [.ref h1, .long a1, .long a3, .int a5, .int a6]).length) Slot.unset).toArray = ls at hl ⊢
  have hl : lv_has ls 8 [(0, .ref h1), (1, .long a1), (3, .long a3), (5, .int a5), (6, .int a6)] := hl
  have B_32 : ∀ (n32 : Nat) (H : Heap) (locs : List Loc) (ls : Array Slot) (x1 : Int64) (x3 : Int64) (x5 : Int32) (x6 : Int32) (x7 : Int32) (kb : (Nat → Int32)) (kw : (Nat → Int32)) (ks : (Nat → Int32)) (ka : (Nat → Int32)) (kq : (Nat → Int32)) (kc : (Nat → Int32)) (kr : (Nat → Int32)) (kt : (Nat → Int32)) (kd : (Nat → Int32)) (many : Int32) (tsz : Int32) (thr : Int32), wp_M_push_32 post n32 x1 x3 x5 x6 x7 kb kw ks ka kq kc kr kt kd many tsz thr → va_P (dC, dI) cs_3 (wd_M h1 pB pW pS pA pQ pC pR pT pD cJ cI cZ cB kb kw ks ka kq kc kr kt kd many tsz thr) H → va_D A (wd_M h1 pB pW pS pA pQ pC pR pT pD cJ cI cZ cB kb kw ks ka kq kc kr kt kd many tsz thr) → va_S A s.heap H locs → lv_has ls 8 [(0, .ref h1), (1, .long x1), (3, .long x3), (5, .int x5), (6, .int x6), (7, .int x7)] → W p l e (headSpec ws_M_push rm_M_push).room s m ([.ref h1, .long a1, .long a3, .int a5, .int a6] : List Value).toArray below meth c H locs 0 0 (MQ below (qi_M dC dI cJ cI cZ cB h1 pB pW pS pA pQ pC pR pT pD post A) ([.ref h1, .long a1, .long a3, .int a5, .int a6] : List Value).toArray s 0 0 A) (F0 m 32 ls []) := by
    intro n32
    induction n32 with
    | zero => intro H locs ls x1 x3 x5 x6 x7 kb kw ks ka kq kc kr kt kd many tsz thr hw; exact False.elim hw
    | succ n32 ih =>
      intro H locs ls x1 x3 x5 x6 x7 kb kw ks ka kq kc kr kt kd many tsz thr hw hP hD hS hl
      unfold wp_M_push_32 at hw
      refine lv_iload hx hb dc_M_push_32 (lv_at hl 5 rfl) ?_
      refine lv_iload hx hb dc_M_push_34 (lv_at hl 3 rfl) ?_
      obtain ⟨hw1, hw2⟩ := hw
      refine lv_icmp_ge (tgt := 71) hx hb dc_M_push_36 (by decide) (fun hc => ?_) (fun hc => ?_)
      · have hw := hw1 hc
        clear hw1 hw2
        refine lv_aload_n hx hb dc_M_push_71 rfl (lv_at hl 0 rfl) ?_
        refine lv_aload_n hx hb dc_M_push_72 rfl (lv_at hl 0 rfl) ?_
        refine va_get (D := (dC, dI)) (ci := 2) (v := .ref pA) (C := "FourWordsModel") (T := tb_M) (N := 12) hx hb hts (hu _ um_M) hown hK hP 0 rfl rfl 3 (by decide) (hq mw_t463) (fun _ h9 => h9) rfl dc_M_push_73 ?_
        refine lv_iload hx hb dc_M_push_76 (lv_at hl 3 rfl) ?_
        refine lv_iload hx hb dc_M_push_78 (lv_at hl 4 rfl) ?_
        refine gc_v (S := (Nat → Int32) × (Nat → Int32) × (Nat → Int32) × (Nat → Int32) × (Nat → Int32) × (Nat → Int32) × (Nat → Int32) × (Nat → Int32) × (Nat → Int32) × Int32 × Int32 × Int32) (w1 := (fun u => (wd_M h1 pB pW pS pA pQ pC pR pT pD cJ cI cZ cB u.1 u.2.1 u.2.2.1 u.2.2.2.1 u.2.2.2.2.1 u.2.2.2.2.2.1 u.2.2.2.2.2.2.1 u.2.2.2.2.2.2.2.1 u.2.2.2.2.2.2.2.2.1 u.2.2.2.2.2.2.2.2.2.1 u.2.2.2.2.2.2.2.2.2.2.1 u.2.2.2.2.2.2.2.2.2.2.2))) (wc := (wd_M h1 pB pW pS pA pQ pC pR pT pD cJ cI cZ cB kb kw ks ka kq kc kr kt kd many tsz thr)) (wr := ([] : va_W)) (va_runV (As := [.ref pA, .int x5, .int x6]) (rest := []) ⟨hx, hb, hml, hown, hts⟩ (kt_M_give_a l dC dI cJ cI cZ cB h1 pB pW pS pA pQ pC pR pT pD _ x5 x6 kb kw ks ka kq kc kr kt kd many tsz thr _ hw) ⟨callB_of 3 hts (gw_in mw_t513) rfl rfl rfl (hq mw_t3) (hq mw_t510) (by decide +kernel) ⟨Nat.le_of_ble_eq_true rfl, Nat.le_of_ble_eq_true rfl⟩, hq mw_t512, hq mw_s35⟩ (pv_W (va_recv (q0 := 0) (ci := 2) hK hP rfl rfl) (hP.sub (ws' := (wd_M h1 pB pW pS pA pQ pC pR pT pD cJ cI cZ cB kb kw ks ka kq kc kr kt kd many tsz thr)) [0, 1, 2, 3, 4, 5, 6, 7, 8, 9] rfl) hK (hD.sub (ws' := (wd_M h1 pB pW pS pA pQ pC pR pT pD cJ cI cZ cB kb kw ks ka kq kc kr kt kd many tsz thr)) [0, 1, 2, 3, 4, 5, 6, 7, 8, 9] (by decide) rfl) hE) rfl rfl hl.1 rfl (lv_room (Nat.le_of_ble_eq_true rfl)) dc_M_push_80 ⟨Nat.le_of_ble_eq_true rfl, Nat.le_of_ble_eq_true rfl⟩) hP hD hS hA [0, 1, 2, 3, 4, 5, 6, 7, 8, 9] [] rfl rfl (by decide) (by decide) (fun u H locs hw hP hD hS => ?_)
        obtain ⟨kb80, kw80, ks80, ka80, kq80, kc80, kr80, kt80, kd80, many80, tsz80, thr80⟩ := u
        have hP : va_P (dC, dI) cs_3 (wd_M h1 pB pW pS pA pQ pC pR pT pD cJ cI cZ cB kb80 kw80 ks80 ka80 kq80 kc80 kr80 kt80 kd80 many80 tsz80 thr80) H := hP.sub (ws' := (wd_M h1 pB pW pS pA pQ pC pR pT pD cJ cI cZ cB kb80 kw80 ks80 ka80 kq80 kc80 kr80 kt80 kd80 many80 tsz80 thr80)) [0, 1, 2, 3, 4, 5, 6, 7, 8, 9] rfl
        have hD : va_D A (wd_M h1 pB pW pS pA pQ pC pR pT pD cJ cI cZ cB kb80 kw80 ks80 ka80 kq80 kc80 kr80 kt80 kd80 many80 tsz80 thr80) := hD.sub (ws' := (wd_M h1 pB pW pS pA pQ pC pR pT pD cJ cI cZ cB kb80 kw80 ks80 ka80 kq80 kc80 kr80 kt80 kd80 many80 tsz80 thr80)) [0, 1, 2, 3, 4, 5, 6, 7, 8, 9] (by decide) rfl
        try dsimp only at hw
        refine lv_aload_n hx hb dc_M_push_83 rfl (lv_at hl 0 rfl) ?_
        refine va_get (D := (dC, dI)) (ci := 2) (v := .int many80) (C := "FourWordsModel") (T := tb_M) (N := 12) hx hb hts (hu _ um_M) hown hK hP 0 rfl rfl 8 (by decide) (hq mw_t468) (fun _ h9 => h9) rfl dc_M_push_84 ?_
        exact W.iret (v := many80) hx hb hr (fun t ht hW => ⟨⟨many80, (kb80, kw80, ks80, ka80, kq80, kc80, kr80, kt80, kd80, many80, tsz80, thr80), rfl, hw, by rw [ht]; exact hP, va_K.moved hW.alike hK, hD⟩, hS.F ht⟩) hS.2.2 dc_M_push_87
      · have hw := hw2 hc
        clear hw1 hw2
        refine lv_aload_n hx hb dc_M_push_39 rfl (lv_at hl 0 rfl) ?_
        refine va_get (D := (dC, dI)) (ci := 2) (v := .ref pA) (C := "FourWordsModel") (T := tb_M) (N := 12) hx hb hts (hu _ um_M) hown hK hP 0 rfl rfl 3 (by decide) (hq mw_t463) (fun _ h9 => h9) rfl dc_M_push_40 ?_
        refine lv_iload hx hb dc_M_push_43 (lv_at hl 5 rfl) ?_
        refine lv_lload_n hx hb dc_M_push_45 rfl (lv_at hl 1 rfl) ?_
        refine lv_iload hx hb dc_M_push_46 (lv_at hl 5 rfl) ?_
        refine lv_lushr hx hb dc_M_push_48 rfl ?_
        refine lv_lconst (v := 1) hx hb dc_M_push_49 (by decide) ?_
        refine lv_land hx hb dc_M_push_50 ?_
        refine lv_ldc2 (v := 2) hx hb hown (hq mw_t509) dc_M_push_51 ?_
        refine lv_lload_n hx hb dc_M_push_54 rfl (lv_at hl 2 rfl) ?_
        refine lv_iload hx hb dc_M_push_55 (lv_at hl 5 rfl) ?_
        refine lv_lushr hx hb dc_M_push_57 rfl ?_
        refine lv_lconst (v := 1) hx hb dc_M_push_58 (by decide) ?_
        refine lv_land hx hb dc_M_push_59 ?_
        refine lv_lmul hx hb dc_M_push_60 ?_
        refine lv_ladd hx hb dc_M_push_61 ?_
        refine lv_l2i hx hb dc_M_push_62 rfl ?_
        refine lv_i2b hx hb dc_M_push_63 rfl ?_
        obtain ⟨hin, hw⟩ := hw
        refine va_bast hx hb hK hP hD hS 4 3 rfl rfl hin dc_M_push_64 (fun H locs hP hD hS => ?_)
        have hP : va_P (dC, dI) cs_3 (wd_M h1 pB pW pS pA pQ pC pR pT pD cJ cI cZ cB kb kw ks (upd ka x7.toNatClampNeg (vp_nar .byte ((((((x1.toUInt64 >>> (x7.toInt64.toUInt64 &&& Int64.toUInt64 63)).toInt64) &&& (1 : Int64)) + ((2 : Int64) * (((x3.toUInt64 >>> (x7.toInt64.toUInt64 &&& Int64.toUInt64 63)).toInt64) &&& (1 : Int64)))).toInt32).toInt8.toInt32))) kq kc kr kt kd many tsz thr) H := hP
        have hD : va_D A (wd_M h1 pB pW pS pA pQ pC pR pT pD cJ cI cZ cB kb kw ks (upd ka x7.toNatClampNeg (vp_nar .byte ((((((x1.toUInt64 >>> (x7.toInt64.toUInt64 &&& Int64.toUInt64 63)).toInt64) &&& (1 : Int64)) + ((2 : Int64) * (((x3.toUInt64 >>> (x7.toInt64.toUInt64 &&& Int64.toUInt64 63)).toInt64) &&& (1 : Int64)))).toInt32).toInt8.toInt32))) kq kc kr kt kd many tsz thr) := hD
        refine lv_iinc (lv' := [(7, .int (x7 + 1)), (0, .ref h1), (1, .long x1), (3, .long x3), (5, .int x5), (6, .int x6)]) hx hb dc_M_push_65 hl (k := 5) rfl (ic_p1 _) (Nat.le_of_ble_eq_true rfl) rfl (fun ls hl => ?_)
        refine lv_goto (tgt := 32) hx hb dc_M_push_68 (by decide) ?_
        exact ih _ _ _ x1 x3 x5 x6 (x7 + 1) kb kw ks (upd ka x7.toNatClampNeg (vp_nar .byte ((((((x1.toUInt64 >>> (x7.toInt64.toUInt64 &&& Int64.toUInt64 63)).toInt64) &&& (1 : Int64)) + ((2 : Int64) * (((x3.toUInt64 >>> (x7.toInt64.toUInt64 &&& Int64.toUInt64 63)).toInt64) &&& (1 : Int64)))).toInt32).toInt8.toInt32))) kq kc kr kt kd many tsz thr hw hP hD hS (lv_sub hl [1, 2, 3, 4, 5, 0] rfl)
  have B_19 : ∀ (H : Heap) (locs : List Loc) (ls : Array Slot) (x1 : Int64) (x3 : Int64) (x5 : Int32) (x6 : Int32) (t0 : Int32) (kb : (Nat → Int32)) (kw : (Nat → Int32)) (ks : (Nat → Int32)) (ka : (Nat → Int32)) (kq : (Nat → Int32)) (kc : (Nat → Int32)) (kr : (Nat → Int32)) (kt : (Nat → Int32)) (kd : (Nat → Int32)) (many : Int32) (tsz : Int32) (thr : Int32), wp_M_push_19 post x1 x3 x5 x6 t0 kb kw ks ka kq kc kr kt kd many tsz thr → va_P (dC, dI) cs_3 (wd_M h1 pB pW pS pA pQ pC pR pT pD cJ cI cZ cB kb kw ks ka kq kc kr kt kd many tsz thr) H → va_D A (wd_M h1 pB pW pS pA pQ pC pR pT pD cJ cI cZ cB kb kw ks ka kq kc kr kt kd many tsz thr) → va_S A s.heap H locs → lv_has ls 8 [(0, .ref h1), (1, .long x1), (3, .long x3), (5, .int x5), (6, .int x6)] → W p l e (headSpec ws_M_push rm_M_push).room s m ([.ref h1, .long a1, .long a3, .int a5, .int a6] : List Value).toArray below meth c H locs 0 0 (MQ below (qi_M dC dI cJ cI cZ cB h1 pB pW pS pA pQ pC pR pT pD post A) ([.ref h1, .long a1, .long a3, .int a5, .int a6] : List Value).toArray s 0 0 A) (F0 m 19 ls [.int t0, .ref h1]) := by
    intro H locs ls x1 x3 x5 x6 t0 kb kw ks ka kq kc kr kt kd many tsz thr hw hP hD hS hl
    unfold wp_M_push_19 at hw
    refine lv_iconst (v := 0) hx hb dc_M_push_19 (by decide) ?_
    refine lv_iconst (v := 1) hx hb dc_M_push_20 (by decide) ?_
    refine gc_i (S := (Nat → Int32) × (Nat → Int32) × (Nat → Int32) × (Nat → Int32) × (Nat → Int32) × (Nat → Int32) × (Nat → Int32) × (Nat → Int32) × (Nat → Int32) × Int32 × Int32 × Int32) (w1 := (fun u => (wd_M h1 pB pW pS pA pQ pC pR pT pD cJ cI cZ cB u.1 u.2.1 u.2.2.1 u.2.2.2.1 u.2.2.2.2.1 u.2.2.2.2.2.1 u.2.2.2.2.2.2.1 u.2.2.2.2.2.2.2.1 u.2.2.2.2.2.2.2.2.1 u.2.2.2.2.2.2.2.2.2.1 u.2.2.2.2.2.2.2.2.2.2.1 u.2.2.2.2.2.2.2.2.2.2.2))) (wc := (wd_M h1 pB pW pS pA pQ pC pR pT pD cJ cI cZ cB kb kw ks ka kq kc kr kt kd many tsz thr)) (wr := ([] : va_W)) (va_runV (As := [.int t0, .int (0 : Int32), .int (1 : Int32)]) (rest := []) ⟨hx, hb, hml, hown, hts⟩ (kt_M_refuse l dC dI cJ cI cZ cB h1 pB pW pS pA pQ pC pR pT pD _ t0 (0 : Int32) (1 : Int32) kb kw ks ka kq kc kr kt kd many tsz thr _ hw) ⟨callB_of 3 hts (gw_in mw_t508) rfl rfl rfl (hq mw_t3) (hq mw_t505) (by decide +kernel) ⟨Nat.le_of_ble_eq_true rfl, Nat.le_of_ble_eq_true rfl⟩, hq mw_t507, hq mw_s34⟩ (pv_W (va_recv (q0 := 0) (ci := 2) hK hP rfl rfl) (hP.sub (ws' := (wd_M h1 pB pW pS pA pQ pC pR pT pD cJ cI cZ cB kb kw ks ka kq kc kr kt kd many tsz thr)) [0, 1, 2, 3, 4, 5, 6, 7, 8, 9] rfl) hK (hD.sub (ws' := (wd_M h1 pB pW pS pA pQ pC pR pT pD cJ cI cZ cB kb kw ks ka kq kc kr kt kd many tsz thr)) [0, 1, 2, 3, 4, 5, 6, 7, 8, 9] (by decide) rfl) hE) rfl rfl hl.1 rfl (lv_room (Nat.le_of_ble_eq_true rfl)) dc_M_push_21 ⟨Nat.le_of_ble_eq_true rfl, Nat.le_of_ble_eq_true rfl⟩) hP hD hS hA [0, 1, 2, 3, 4, 5, 6, 7, 8, 9] [] rfl rfl (by decide) (by decide) (fun r21 u H locs hw hP hD hS => ?_)
    obtain ⟨kb21, kw21, ks21, ka21, kq21, kc21, kr21, kt21, kd21, many21, tsz21, thr21⟩ := u
    have hP : va_P (dC, dI) cs_3 (wd_M h1 pB pW pS pA pQ pC pR pT pD cJ cI cZ cB kb21 kw21 ks21 ka21 kq21 kc21 kr21 kt21 kd21 many21 tsz21 thr21) H := hP.sub (ws' := (wd_M h1 pB pW pS pA pQ pC pR pT pD cJ cI cZ cB kb21 kw21 ks21 ka21 kq21 kc21 kr21 kt21 kd21 many21 tsz21 thr21)) [0, 1, 2, 3, 4, 5, 6, 7, 8, 9] rfl
    have hD : va_D A (wd_M h1 pB pW pS pA pQ pC pR pT pD cJ cI cZ cB kb21 kw21 ks21 ka21 kq21 kc21 kr21 kt21 kd21 many21 tsz21 thr21) := hD.sub (ws' := (wd_M h1 pB pW pS pA pQ pC pR pT pD cJ cI cZ cB kb21 kw21 ks21 ka21 kq21 kc21 kr21 kt21 kd21 many21 tsz21 thr21)) [0, 1, 2, 3, 4, 5, 6, 7, 8, 9] (by decide) rfl
    try dsimp only at hw
    obtain ⟨hw1, hw2⟩ := hw
    refine lv_if_eq (tgt := 29) hx hb dc_M_push_24 (by decide) (fun hc => ?_) (fun hc => ?_)
    · have hw := hw1 hc
      clear hw1 hw2
      refine lv_iconst (v := 0) hx hb dc_M_push_29 (by decide) ?_
      refine lv_istore (lv' := [(7, .int (0 : Int32)), (0, .ref h1), (1, .long x1), (3, .long x3), (5, .int x5), (6, .int x6)]) hx hb dc_M_push_30 hl (Nat.le_of_ble_eq_true rfl) rfl (fun ls hl => ?_)
      obtain ⟨n32, hw⟩ := hw
      exact B_32 n32 _ _ _ x1 x3 x5 x6 (0 : Int32) kb21 kw21 ks21 ka21 kq21 kc21 kr21 kt21 kd21 many21 tsz21 thr21 hw hP hD hS (lv_sub hl [1, 2, 3, 4, 5, 0] rfl)
    · have hw := hw2 hc
      clear hw1 hw2
      refine lv_iconst (v := 0) hx hb dc_M_push_27 (by decide) ?_
      exact W.iret (v := (0 : Int32)) hx hb hr (fun t ht hW => ⟨⟨(0 : Int32), (kb21, kw21, ks21, ka21, kq21, kc21, kr21, kt21, kd21, many21, tsz21, thr21), rfl, hw, by rw [ht]; exact hP, va_K.moved hW.alike hK, hD⟩, hS.F ht⟩) hS.2.2 dc_M_push_28
  have B_14 : ∀ (H : Heap) (locs : List Loc) (ls : Array Slot) (x1 : Int64) (x3 : Int64) (x5 : Int32) (x6 : Int32) (kb : (Nat → Int32)) (kw : (Nat → Int32)) (ks : (Nat → Int32)) (ka : (Nat → Int32)) (kq : (Nat → Int32)) (kc : (Nat → Int32)) (kr : (Nat → Int32)) (kt : (Nat → Int32)) (kd : (Nat → Int32)) (many : Int32) (tsz : Int32) (thr : Int32), wp_M_push_14 post x1 x3 x5 x6 kb kw ks ka kq kc kr kt kd many tsz thr → va_P (dC, dI) cs_3 (wd_M h1 pB pW pS pA pQ pC pR pT pD cJ cI cZ cB kb kw ks ka kq kc kr kt kd many tsz thr) H → va_D A (wd_M h1 pB pW pS pA pQ pC pR pT pD cJ cI cZ cB kb kw ks ka kq kc kr kt kd many tsz thr) → va_S A s.heap H locs → lv_has ls 8 [(0, .ref h1), (1, .long x1), (3, .long x3), (5, .int x5), (6, .int x6)] → W p l e (headSpec ws_M_push rm_M_push).room s m ([.ref h1, .long a1, .long a3, .int a5, .int a6] : List Value).toArray below meth c H locs 0 0 (MQ below (qi_M dC dI cJ cI cZ cB h1 pB pW pS pA pQ pC pR pT pD post A) ([.ref h1, .long a1, .long a3, .int a5, .int a6] : List Value).toArray s 0 0 A) (F0 m 14 ls [.ref h1]) := by
    intro H locs ls x1 x3 x5 x6 kb kw ks ka kq kc kr kt kd many tsz thr hw hP hD hS hl
    unfold wp_M_push_14 at hw
    refine lv_iconst (v := 1) hx hb dc_M_push_14 (by decide) ?_
    refine lv_goto (tgt := 19) hx hb dc_M_push_15 (by decide) ?_
    exact B_19 _ _ _ x1 x3 x5 x6 (1 : Int32) kb kw ks ka kq kc kr kt kd many tsz thr hw hP hD hS (lv_sub hl [0, 1, 2, 3, 4] rfl)
  unfold wp_M_push at hw
  refine lv_aload_n hx hb dc_M_push_0 rfl (lv_at hl 0 rfl) ?_
  refine lv_iload hx hb dc_M_push_1 (lv_at hl 3 rfl) ?_
  refine lv_iconst (v := 1) hx hb dc_M_push_3 (by decide) ?_
  obtain ⟨hw1, hw2⟩ := hw
  refine lv_icmp_lt (tgt := 14) hx hb dc_M_push_4 (by decide) (fun hc => ?_) (fun hc => ?_)
  · have hw := hw1 hc
    clear hw1 hw2
    exact B_14 _ _ _ a1 a3 a5 a6 kb kw ks ka kq kc kr kt kd many tsz thr hw hP hD hS (lv_sub hl [0, 1, 2, 3, 4] rfl)
  · have hw := hw2 hc
    clear hw1 hw2
    refine lv_iload hx hb dc_M_push_7 (lv_at hl 3 rfl) ?_
    refine lv_bipush (v := 64) hx hb dc_M_push_9 (by decide) ?_
    obtain ⟨hw1, hw2⟩ := hw
    refine lv_icmp_le (tgt := 18) hx hb dc_M_push_11 (by decide) (fun hc => ?_) (fun hc => ?_)
    · have hw := hw1 hc
      clear hw1 hw2
      refine lv_iconst (v := 0) hx hb dc_M_push_18 (by decide) ?_
      exact B_19 _ _ _ a1 a3 a5 a6 (0 : Int32) kb kw ks ka kq kc kr kt kd many tsz thr hw hP hD hS (lv_sub hl [0, 1, 2, 3, 4] rfl)
    · have hw := hw2 hc
      clear hw1 hw2
      exact B_14 _ _ _ a1 a3 a5 a6 kb kw ks ka kq kc kr kt kd many tsz thr hw hP hD hS (lv_sub hl [0, 1, 2, 3, 4] rfl)
set_option maxHeartbeats 4000000 in
set_option maxRecDepth 100000 in
theorem kt_M_two (l : Launch) (dC : Nat → ClassId) (dI : Nat → Nat → Nat) (cJ cI cZ cB : ClassId) (h1 pB pW pS pA pQ pC pR pT pD : Nat) (sz : Nat) (a1 : Int32) (kb : (Nat → Int32)) (kw : (Nat → Int32)) (ks : (Nat → Int32)) (ka : (Nat → Int32)) (kq : (Nat → Int32)) (kc : (Nat → Int32)) (kr : (Nat → Int32)) (kt : (Nat → Int32)) (kd : (Nat → Int32)) (many : Int32) (tsz : Int32) (thr : Int32) (post : (Nat → Int32) → (Nat → Int32) → (Nat → Int32) → (Nat → Int32) → (Nat → Int32) → (Nat → Int32) → (Nat → Int32) → (Nat → Int32) → (Nat → Int32) → Int32 → Int32 → Int32 → Prop) (hw : wp_M_two post a1 kb kw ks ka kq kc kr kt kd many tsz thr) : Met l yn_M_two ws_M_two rm_M_two (va_Pc [.ref h1, .int a1] (pc_W (dC, dI) (ty_4 cJ cI cZ cB) (wd_M h1 pB pW pS pA pQ pC pR pT pD cJ cI cZ cB kb kw ks ka kq kc kr kt kd many tsz thr) sz)) (qv_M dC dI cJ cI cZ cB h1 pB pW pS pA pQ pC pR pT pD post (va_A (wd_M h1 pB pW pS pA pQ pC pR pT pD cJ cI cZ cB kb kw ks ka kq kc kr kt kd many tsz thr) sz)) 0 0 (va_A (wd_M h1 pB pW pS pA pQ pC pR pT pD cJ cI cZ cB kb kw ks ka kq kc kr kt kd many tsz thr) sz) := by
  refine Met.ofW (cc := cd_M_two) (maxL := 6) (ret := none) (by decide) rfl ?_
  intro p e s m args below meth c s₁ B hml hv
  obtain ⟨rfl, hsz, hP, hK, hD0, hE⟩ := hv
  have hx := B.exec
  have hb := B.bytes
  have hr := B.returns
  have hts := atoms_spec (ws := ws_M_two) B.pre
  have hq : ∀ {w : Cond}, w ∈ wg_all → w.before ([.ref h1, .int a1] : List Value).toArray s = true := fun h => hts _ (List.mem_cons_of_mem _ h)
  have hu : ∀ L : List Cond, (∀ w ∈ L, w ∈ wg_all) → ∀ w ∈ L, w ∈ ws_M_two := fun L h w hw => List.mem_cons_of_mem _ (h w hw)
  have hown : s.vm.findClass "FourWordsModel" = some m.cls := findClass_of_methodNamed B.named
  have hlocks := B.notSynchronized
  subst hsz
  have hD := hD0.self (sz := s.heap.size)
  generalize hAe : va_A (wd_M h1 pB pW pS pA pQ pC pR pT pD cJ cI cZ cB kb kw ks ka kq kc kr kt kd many tsz thr) s.heap.size = A at hD ⊢
  have hA : ∀ q : Nat, s.heap.size ≤ q → A q := fun q h => by rw [← hAe]; exact Or.inr h
  have hS : va_S A s.heap s.heap [] := va_S.rf
  have hl := lv_entry [.ref h1, .int a1] (n := 6) (Nat.le_of_ble_eq_true rfl)
  rw [lg_entry_eq]
  generalize (lg_sl [.ref h1, .int a1] ++ List.replicate (6 - (lg_sl [.ref h1, .int a1]).length) Slot.unset).toArray = ls at hl ⊢
  have hl : lv_has ls 6 [(0, .ref h1), (1, .int a1)] := hl
  have B_266 : ∀ (H : Heap) (locs : List Loc) (ls : Array Slot) (t0 : Int32) (t1 : Int32) (kb : (Nat → Int32)) (kw : (Nat → Int32)) (ks : (Nat → Int32)) (ka : (Nat → Int32)) (kq : (Nat → Int32)) (kc : (Nat → Int32)) (kr : (Nat → Int32)) (kt : (Nat → Int32)) (kd : (Nat → Int32)) (many : Int32) (tsz : Int32) (thr : Int32), wp_M_two_266 post t0 t1 kb kw ks ka kq kc kr kt kd many tsz thr → va_P (dC, dI) cs_3 (wd_M h1 pB pW pS pA pQ pC pR pT pD cJ cI cZ cB kb kw ks ka kq kc kr kt kd many tsz thr) H → va_D A (wd_M h1 pB pW pS pA pQ pC pR pT pD cJ cI cZ cB kb kw ks ka kq kc kr kt kd many tsz thr) → va_S A s.heap H locs → lv_has ls 6 [] → W p l e (headSpec ws_M_two rm_M_two).room s m ([.ref h1, .int a1] : List Value).toArray below meth c H locs 0 0 (MQ below (qv_M dC dI cJ cI cZ cB h1 pB pW pS pA pQ pC pR pT pD post A) ([.ref h1, .int a1] : List Value).toArray s 0 0 A) (F0 m 266 ls [.int t0, .int t1, .ref pC, .ref h1]) := by
    intro H locs ls t0 t1 kb kw ks ka kq kc kr kt kd many tsz thr hw hP hD hS hl
    unfold wp_M_two_266 at hw
    refine gc_v (S := (Nat → Int32) × (Nat → Int32) × (Nat → Int32) × (Nat → Int32) × (Nat → Int32) × (Nat → Int32) × (Nat → Int32) × (Nat → Int32) × (Nat → Int32) × Int32 × Int32 × Int32) (w1 := (fun u => (wd_M h1 pB pW pS pA pQ pC pR pT pD cJ cI cZ cB u.1 u.2.1 u.2.2.1 u.2.2.2.1 u.2.2.2.2.1 u.2.2.2.2.2.1 u.2.2.2.2.2.2.1 u.2.2.2.2.2.2.2.1 u.2.2.2.2.2.2.2.2.1 u.2.2.2.2.2.2.2.2.2.1 u.2.2.2.2.2.2.2.2.2.2.1 u.2.2.2.2.2.2.2.2.2.2.2))) (wc := (wd_M h1 pB pW pS pA pQ pC pR pT pD cJ cI cZ cB kb kw ks ka kq kc kr kt kd many tsz thr)) (wr := ([] : va_W)) (va_runV (As := [.ref pC, .int t1, .int t0]) (rest := []) ⟨hx, hb, hml, hown, hts⟩ (kt_M_give_c l dC dI cJ cI cZ cB h1 pB pW pS pA pQ pC pR pT pD _ t1 t0 kb kw ks ka kq kc kr kt kd many tsz thr _ hw) ⟨callB_of 3 hts (gw_in mw_t513) rfl rfl rfl (hq mw_t3) (hq mw_t510) (by decide +kernel) ⟨Nat.le_of_ble_eq_true rfl, Nat.le_of_ble_eq_true rfl⟩, hq mw_t512, hq mw_s35⟩ (pv_W (va_recv (q0 := 0) (ci := 2) hK hP rfl rfl) (hP.sub (ws' := (wd_M h1 pB pW pS pA pQ pC pR pT pD cJ cI cZ cB kb kw ks ka kq kc kr kt kd many tsz thr)) [0, 1, 2, 3, 4, 5, 6, 7, 8, 9] rfl) hK (hD.sub (ws' := (wd_M h1 pB pW pS pA pQ pC pR pT pD cJ cI cZ cB kb kw ks ka kq kc kr kt kd many tsz thr)) [0, 1, 2, 3, 4, 5, 6, 7, 8, 9] (by decide) rfl) hE) rfl rfl hl.1 rfl (lv_room (Nat.le_of_ble_eq_true rfl)) dc_M_two_266 ⟨Nat.le_of_ble_eq_true rfl, Nat.le_of_ble_eq_true rfl⟩) hP hD hS hA [0, 1, 2, 3, 4, 5, 6, 7, 8, 9] [] rfl rfl (by decide) (by decide) (fun u H locs hw hP hD hS => ?_)
    obtain ⟨kb266, kw266, ks266, ka266, kq266, kc266, kr266, kt266, kd266, many266, tsz266, thr266⟩ := u
    have hP : va_P (dC, dI) cs_3 (wd_M h1 pB pW pS pA pQ pC pR pT pD cJ cI cZ cB kb266 kw266 ks266 ka266 kq266 kc266 kr266 kt266 kd266 many266 tsz266 thr266) H := hP.sub (ws' := (wd_M h1 pB pW pS pA pQ pC pR pT pD cJ cI cZ cB kb266 kw266 ks266 ka266 kq266 kc266 kr266 kt266 kd266 many266 tsz266 thr266)) [0, 1, 2, 3, 4, 5, 6, 7, 8, 9] rfl
    have hD : va_D A (wd_M h1 pB pW pS pA pQ pC pR pT pD cJ cI cZ cB kb266 kw266 ks266 ka266 kq266 kc266 kr266 kt266 kd266 many266 tsz266 thr266) := hD.sub (ws' := (wd_M h1 pB pW pS pA pQ pC pR pT pD cJ cI cZ cB kb266 kw266 ks266 ka266 kq266 kc266 kr266 kt266 kd266 many266 tsz266 thr266)) [0, 1, 2, 3, 4, 5, 6, 7, 8, 9] (by decide) rfl
    try dsimp only at hw
    exact W.vret hx hb hr (fun t ht hW => ⟨⟨(kb266, kw266, ks266, ka266, kq266, kc266, kr266, kt266, kd266, many266, tsz266, thr266), rfl, hw, by rw [ht]; exact hP, va_K.moved hW.alike hK, hD⟩, hS.F ht⟩) hS.2.2 dc_M_two_269
  have B_265 : ∀ (H : Heap) (locs : List Loc) (ls : Array Slot) (t0 : Int32) (kb : (Nat → Int32)) (kw : (Nat → Int32)) (ks : (Nat → Int32)) (ka : (Nat → Int32)) (kq : (Nat → Int32)) (kc : (Nat → Int32)) (kr : (Nat → Int32)) (kt : (Nat → Int32)) (kd : (Nat → Int32)) (many : Int32) (tsz : Int32) (thr : Int32), wp_M_two_265 post t0 kb kw ks ka kq kc kr kt kd many tsz thr → va_P (dC, dI) cs_3 (wd_M h1 pB pW pS pA pQ pC pR pT pD cJ cI cZ cB kb kw ks ka kq kc kr kt kd many tsz thr) H → va_D A (wd_M h1 pB pW pS pA pQ pC pR pT pD cJ cI cZ cB kb kw ks ka kq kc kr kt kd many tsz thr) → va_S A s.heap H locs → lv_has ls 6 [] → W p l e (headSpec ws_M_two rm_M_two).room s m ([.ref h1, .int a1] : List Value).toArray below meth c H locs 0 0 (MQ below (qv_M dC dI cJ cI cZ cB h1 pB pW pS pA pQ pC pR pT pD post A) ([.ref h1, .int a1] : List Value).toArray s 0 0 A) (F0 m 265 ls [.int t0, .ref pC, .ref h1]) := by
    intro H locs ls t0 kb kw ks ka kq kc kr kt kd many tsz thr hw hP hD hS hl
    unfold wp_M_two_265 at hw
    refine lv_iconst (v := 0) hx hb dc_M_two_265 (by decide) ?_
    exact B_266 _ _ _ (0 : Int32) t0 kb kw ks ka kq kc kr kt kd many tsz thr hw hP hD hS (lv_sub hl [] rfl)
  have B_251 : ∀ (H : Heap) (locs : List Loc) (ls : Array Slot) (x1 : Int32) (x3 : Int32) (t0 : Int32) (kb : (Nat → Int32)) (kw : (Nat → Int32)) (ks : (Nat → Int32)) (ka : (Nat → Int32)) (kq : (Nat → Int32)) (kc : (Nat → Int32)) (kr : (Nat → Int32)) (kt : (Nat → Int32)) (kd : (Nat → Int32)) (many : Int32) (tsz : Int32) (thr : Int32), wp_M_two_251 post x1 x3 t0 kb kw ks ka kq kc kr kt kd many tsz thr → va_P (dC, dI) cs_3 (wd_M h1 pB pW pS pA pQ pC pR pT pD cJ cI cZ cB kb kw ks ka kq kc kr kt kd many tsz thr) H → va_D A (wd_M h1 pB pW pS pA pQ pC pR pT pD cJ cI cZ cB kb kw ks ka kq kc kr kt kd many tsz thr) → va_S A s.heap H locs → lv_has ls 6 [(1, .int x1), (3, .int x3)] → W p l e (headSpec ws_M_two rm_M_two).room s m ([.ref h1, .int a1] : List Value).toArray below meth c H locs 0 0 (MQ below (qv_M dC dI cJ cI cZ cB h1 pB pW pS pA pQ pC pR pT pD post A) ([.ref h1, .int a1] : List Value).toArray s 0 0 A) (F0 m 251 ls [.int t0, .ref pC, .ref h1]) := by
    intro H locs ls x1 x3 t0 kb kw ks ka kq kc kr kt kd many tsz thr hw hP hD hS hl
    unfold wp_M_two_251 at hw
    refine lv_iload_n hx hb dc_M_two_251 rfl (lv_at hl 0 rfl) ?_
    refine lv_bipush (v := 9) hx hb dc_M_two_252 (by decide) ?_
    obtain ⟨hw1, hw2⟩ := hw
    refine lv_icmp_ge (tgt := 265) hx hb dc_M_two_254 (by decide) (fun hc => ?_) (fun hc => ?_)
    · have hw := hw1 hc
      clear hw1 hw2
      exact B_265 _ _ _ t0 kb kw ks ka kq kc kr kt kd many tsz thr hw hP hD hS (lv_sub hl [] rfl)
    · have hw := hw2 hc
      clear hw1 hw2
      refine lv_iload_n hx hb dc_M_two_257 rfl (lv_at hl 1 rfl) ?_
      obtain ⟨hw1, hw2⟩ := hw
      refine lv_if_eq (tgt := 265) hx hb dc_M_two_258 (by decide) (fun hc => ?_) (fun hc => ?_)
      · have hw := hw1 hc
        clear hw1 hw2
        exact B_265 _ _ _ t0 kb kw ks ka kq kc kr kt kd many tsz thr hw hP hD hS (lv_sub hl [] rfl)
      · have hw := hw2 hc
        clear hw1 hw2
        refine lv_iconst (v := 1) hx hb dc_M_two_261 (by decide) ?_
        refine lv_goto (tgt := 266) hx hb dc_M_two_262 (by decide) ?_
        exact B_266 _ _ _ (1 : Int32) t0 kb kw ks ka kq kc kr kt kd many tsz thr hw hP hD hS (lv_sub hl [] rfl)
  have B_225 : ∀ (H : Heap) (locs : List Loc) (ls : Array Slot) (x1 : Int32) (x2 : Int32) (x3 : Int32) (kb : (Nat → Int32)) (kw : (Nat → Int32)) (ks : (Nat → Int32)) (ka : (Nat → Int32)) (kq : (Nat → Int32)) (kc : (Nat → Int32)) (kr : (Nat → Int32)) (kt : (Nat → Int32)) (kd : (Nat → Int32)) (many : Int32) (tsz : Int32) (thr : Int32), wp_M_two_225 post x1 x2 x3 kb kw ks ka kq kc kr kt kd many tsz thr → va_P (dC, dI) cs_3 (wd_M h1 pB pW pS pA pQ pC pR pT pD cJ cI cZ cB kb kw ks ka kq kc kr kt kd many tsz thr) H → va_D A (wd_M h1 pB pW pS pA pQ pC pR pT pD cJ cI cZ cB kb kw ks ka kq kc kr kt kd many tsz thr) → va_S A s.heap H locs → lv_has ls 6 [(0, .ref h1), (1, .int x1), (2, .int x2), (3, .int x3)] → W p l e (headSpec ws_M_two rm_M_two).room s m ([.ref h1, .int a1] : List Value).toArray below meth c H locs 0 0 (MQ below (qv_M dC dI cJ cI cZ cB h1 pB pW pS pA pQ pC pR pT pD post A) ([.ref h1, .int a1] : List Value).toArray s 0 0 A) (F0 m 225 ls []) := by
    intro H locs ls x1 x2 x3 kb kw ks ka kq kc kr kt kd many tsz thr hw hP hD hS hl
    unfold wp_M_two_225 at hw
    refine lv_aload_n hx hb dc_M_two_225 rfl (lv_at hl 0 rfl) ?_
    refine lv_dup hx hb dc_M_two_226 rfl ?_
    refine va_get (D := (dC, dI)) (ci := 2) (v := .int many) (C := "FourWordsModel") (T := tb_M) (N := 12) hx hb hts (hu _ um_M) hown hK hP 0 rfl rfl 8 (by decide) (hq mw_t468) (fun _ h9 => h9) rfl dc_M_two_227 ?_
    refine lv_iconst (v := 2) hx hb dc_M_two_230 (by decide) ?_
    refine lv_isub hx hb dc_M_two_231 ?_
    refine va_put (D := (dC, dI)) (ci := 2) (v := .int (many - (2 : Int32))) (ty := .int) (C := "FourWordsModel") (T := tb_M) (N := 12) hx hb hts (hu _ um_M) ft_M fk_M fn_M hown hK hP hD hS 0 rfl rfl 8 (by decide) (hq mw_t468) (fun _ h9 => h9) rfl (by decide +kernel) rfl rfl (Nat.le_of_ble_eq_true rfl) dc_M_two_232 (fun H locs hP hD hS => ?_)
    have hP : va_P (dC, dI) cs_3 (wd_M h1 pB pW pS pA pQ pC pR pT pD cJ cI cZ cB kb kw ks ka kq kc kr kt kd (many - (2 : Int32)) tsz thr) H := hP
    have hD : va_D A (wd_M h1 pB pW pS pA pQ pC pR pT pD cJ cI cZ cB kb kw ks ka kq kc kr kt kd (many - (2 : Int32)) tsz thr) := hD
    refine lv_aload_n hx hb dc_M_two_235 rfl (lv_at hl 0 rfl) ?_
    refine lv_aload_n hx hb dc_M_two_236 rfl (lv_at hl 0 rfl) ?_
    refine va_get (D := (dC, dI)) (ci := 2) (v := .ref pC) (C := "FourWordsModel") (T := tb_M) (N := 12) hx hb hts (hu _ um_M) hown hK hP 0 rfl rfl 5 (by decide) (hq mw_t465) (fun _ h9 => h9) rfl dc_M_two_237 ?_
    refine lv_iload_n hx hb dc_M_two_240 rfl (lv_at hl 1 rfl) ?_
    refine lv_bipush (v := 9) hx hb dc_M_two_241 (by decide) ?_
    obtain ⟨hw1, hw2⟩ := hw
    refine lv_icmp_ge (tgt := 250) hx hb dc_M_two_243 (by decide) (fun hc => ?_) (fun hc => ?_)
    · have hw := hw1 hc
      clear hw1 hw2
      refine lv_iconst (v := 1) hx hb dc_M_two_250 (by decide) ?_
      exact B_251 _ _ _ x1 x3 (1 : Int32) kb kw ks ka kq kc kr kt kd (many - (2 : Int32)) tsz thr hw hP hD hS (lv_sub hl [1, 3] rfl)
    · have hw := hw2 hc
      clear hw1 hw2
      refine lv_iload_n hx hb dc_M_two_246 rfl (lv_at hl 2 rfl) ?_
      refine lv_goto (tgt := 251) hx hb dc_M_two_247 (by decide) ?_
      exact B_251 _ _ _ x1 x3 x2 kb kw ks ka kq kc kr kt kd (many - (2 : Int32)) tsz thr hw hP hD hS (lv_sub hl [1, 3] rfl)
  have B_170 : ∀ (n170 : Nat) (H : Heap) (locs : List Loc) (ls : Array Slot) (x1 : Int32) (x2 : Int32) (x3 : Int32) (x5 : Int32) (kb : (Nat → Int32)) (kw : (Nat → Int32)) (ks : (Nat → Int32)) (ka : (Nat → Int32)) (kq : (Nat → Int32)) (kc : (Nat → Int32)) (kr : (Nat → Int32)) (kt : (Nat → Int32)) (kd : (Nat → Int32)) (many : Int32) (tsz : Int32) (thr : Int32), wp_M_two_170 post n170 x1 x2 x3 x5 kb kw ks ka kq kc kr kt kd many tsz thr → va_P (dC, dI) cs_3 (wd_M h1 pB pW pS pA pQ pC pR pT pD cJ cI cZ cB kb kw ks ka kq kc kr kt kd many tsz thr) H → va_D A (wd_M h1 pB pW pS pA pQ pC pR pT pD cJ cI cZ cB kb kw ks ka kq kc kr kt kd many tsz thr) → va_S A s.heap H locs → lv_has ls 6 [(0, .ref h1), (1, .int x1), (2, .int x2), (3, .int x3), (5, .int x5)] → W p l e (headSpec ws_M_two rm_M_two).room s m ([.ref h1, .int a1] : List Value).toArray below meth c H locs 0 0 (MQ below (qv_M dC dI cJ cI cZ cB h1 pB pW pS pA pQ pC pR pT pD post A) ([.ref h1, .int a1] : List Value).toArray s 0 0 A) (F0 m 170 ls []) := by
    intro n170
    induction n170 with
    | zero => intro H locs ls x1 x2 x3 x5 kb kw ks ka kq kc kr kt kd many tsz thr hw; exact False.elim hw
    | succ n170 ih =>
      intro H locs ls x1 x2 x3 x5 kb kw ks ka kq kc kr kt kd many tsz thr hw hP hD hS hl
      unfold wp_M_two_170 at hw
      refine lv_iload hx hb dc_M_two_170 (lv_at hl 4 rfl) ?_
      refine lv_iload_n hx hb dc_M_two_172 rfl (lv_at hl 2 rfl) ?_
      obtain ⟨hw1, hw2⟩ := hw
      refine lv_icmp_ge (tgt := 208) hx hb dc_M_two_173 (by decide) (fun hc => ?_) (fun hc => ?_)
      · have hw := hw1 hc
        clear hw1 hw2
        refine lv_goto (tgt := 225) hx hb dc_M_two_208 (by decide) ?_
        exact B_225 _ _ _ x1 x2 x3 kb kw ks ka kq kc kr kt kd many tsz thr hw hP hD hS (lv_sub hl [0, 1, 2, 3] rfl)
      · have hw := hw2 hc
        clear hw1 hw2
        refine lv_aload_n hx hb dc_M_two_176 rfl (lv_at hl 0 rfl) ?_
        refine va_get (D := (dC, dI)) (ci := 2) (v := .ref pC) (C := "FourWordsModel") (T := tb_M) (N := 12) hx hb hts (hu _ um_M) hown hK hP 0 rfl rfl 5 (by decide) (hq mw_t465) (fun _ h9 => h9) rfl dc_M_two_177 ?_
        refine lv_iload hx hb dc_M_two_180 (lv_at hl 4 rfl) ?_
        refine lv_iload_n hx hb dc_M_two_182 rfl (lv_at hl 1 rfl) ?_
        refine lv_aload_n hx hb dc_M_two_183 rfl (lv_at hl 0 rfl) ?_
        refine va_get (D := (dC, dI)) (ci := 2) (v := .ref pA) (C := "FourWordsModel") (T := tb_M) (N := 12) hx hb hts (hu _ um_M) hown hK hP 0 rfl rfl 3 (by decide) (hq mw_t463) (fun _ h9 => h9) rfl dc_M_two_184 ?_
        refine lv_iload hx hb dc_M_two_187 (lv_at hl 4 rfl) ?_
        obtain ⟨hin, hw⟩ := hw
        refine va_bald hx hb hK hP 4 3 rfl rfl hin dc_M_two_189 ?_
        refine lv_aload_n hx hb dc_M_two_190 rfl (lv_at hl 0 rfl) ?_
        refine va_get (D := (dC, dI)) (ci := 2) (v := .ref pQ) (C := "FourWordsModel") (T := tb_M) (N := 12) hx hb hts (hu _ um_M) hown hK hP 0 rfl rfl 4 (by decide) (hq mw_t464) (fun _ h9 => h9) rfl dc_M_two_191 ?_
        refine lv_iload hx hb dc_M_two_194 (lv_at hl 4 rfl) ?_
        obtain ⟨hin, hw⟩ := hw
        refine va_bald hx hb hK hP 5 3 rfl rfl hin dc_M_two_196 ?_
        refine gc_i (S := Unit) (w1 := (fun u => ([] : va_W))) (wc := ([] : va_W)) (wr := ([(h1, .inr (2, [.ref pB, .ref pW, .ref pS, .ref pA, .ref pQ, .ref pC, .ref pR, .ref pT, .int many, .int tsz, .int thr, .ref pD])), (pB, .inl (cB, 4096, .inl kb)), (pW, .inl (cI, 64, .inl kw)), (pS, .inl (cZ, 64, .inl ks)), (pA, .inl (cB, 64, .inl ka)), (pQ, .inl (cB, 64, .inl kq)), (pC, .inl (cB, 64, .inl kc)), (pR, .inl (cB, 65, .inl kr)), (pT, .inl (cB, 80, .inl kt)), (pD, .inl (cB, 24, .inl kd))] : va_W)) (va_runS (As := [.int x1, .int (ka x5.toNatClampNeg), .int (kq x5.toNatClampNeg)]) (rest := [.int x5, .ref pC]) ⟨hx, hb, hml, hown, hts⟩ (kt_M_logic l dC dI cJ cI cZ cB _ x1 (ka x5.toNatClampNeg) (kq x5.toNatClampNeg) _ hw) ⟨callB_of 3 hts (gw_in mw_t563) rfl rfl rfl (hq mw_t3) (hq mw_t561) (by decide +kernel) ⟨Nat.le_of_ble_eq_true rfl, Nat.le_of_ble_eq_true rfl⟩, hq mw_t562⟩ (ps_W (hP.sub (ws' := ([] : va_W)) [] rfl) hK (hD.sub (ws' := ([] : va_W)) [] (by decide) rfl) hE) rfl rfl hl.1 rfl (lv_room (Nat.le_of_ble_eq_true rfl)) dc_M_two_197 ⟨Nat.le_of_ble_eq_true rfl, Nat.le_of_ble_eq_true rfl⟩) hP hD hS hA [] [0, 1, 2, 3, 4, 5, 6, 7, 8, 9] rfl rfl (by decide) (by decide) (fun r197 u H locs hw hP hD hS => ?_)
        have hP : va_P (dC, dI) cs_3 (wd_M h1 pB pW pS pA pQ pC pR pT pD cJ cI cZ cB kb kw ks ka kq kc kr kt kd many tsz thr) H := hP.sub (ws' := (wd_M h1 pB pW pS pA pQ pC pR pT pD cJ cI cZ cB kb kw ks ka kq kc kr kt kd many tsz thr)) [0, 1, 2, 3, 4, 5, 6, 7, 8, 9] rfl
        have hD : va_D A (wd_M h1 pB pW pS pA pQ pC pR pT pD cJ cI cZ cB kb kw ks ka kq kc kr kt kd many tsz thr) := hD.sub (ws' := (wd_M h1 pB pW pS pA pQ pC pR pT pD cJ cI cZ cB kb kw ks ka kq kc kr kt kd many tsz thr)) [0, 1, 2, 3, 4, 5, 6, 7, 8, 9] (by decide) rfl
        try dsimp only at hw
        refine lv_i2b hx hb dc_M_two_200 rfl ?_
        obtain ⟨hin, hw⟩ := hw
        refine va_bast hx hb hK hP hD hS 6 3 rfl rfl hin dc_M_two_201 (fun H locs hP hD hS => ?_)
        have hP : va_P (dC, dI) cs_3 (wd_M h1 pB pW pS pA pQ pC pR pT pD cJ cI cZ cB kb kw ks ka kq (upd kc x5.toNatClampNeg (vp_nar .byte r197.toInt8.toInt32)) kr kt kd many tsz thr) H := hP
        have hD : va_D A (wd_M h1 pB pW pS pA pQ pC pR pT pD cJ cI cZ cB kb kw ks ka kq (upd kc x5.toNatClampNeg (vp_nar .byte r197.toInt8.toInt32)) kr kt kd many tsz thr) := hD
        refine lv_iinc (lv' := [(5, .int (x5 + 1)), (0, .ref h1), (1, .int x1), (2, .int x2), (3, .int x3)]) hx hb dc_M_two_202 hl (k := 4) rfl (ic_p1 _) (Nat.le_of_ble_eq_true rfl) rfl (fun ls hl => ?_)
        refine lv_goto (tgt := 170) hx hb dc_M_two_205 (by decide) ?_
        exact ih _ _ _ x1 x2 x3 (x5 + 1) kb kw ks ka kq (upd kc x5.toNatClampNeg (vp_nar .byte r197.toInt8.toInt32)) kr kt kd many tsz thr hw hP hD hS (lv_sub hl [1, 2, 3, 4, 0] rfl)
  have B_146 : ∀ (H : Heap) (locs : List Loc) (ls : Array Slot) (x1 : Int32) (x2 : Int32) (x3 : Int32) (kb : (Nat → Int32)) (kw : (Nat → Int32)) (ks : (Nat → Int32)) (ka : (Nat → Int32)) (kq : (Nat → Int32)) (kc : (Nat → Int32)) (kr : (Nat → Int32)) (kt : (Nat → Int32)) (kd : (Nat → Int32)) (many : Int32) (tsz : Int32) (thr : Int32), wp_M_two_146 post x1 x2 x3 kb kw ks ka kq kc kr kt kd many tsz thr → va_P (dC, dI) cs_3 (wd_M h1 pB pW pS pA pQ pC pR pT pD cJ cI cZ cB kb kw ks ka kq kc kr kt kd many tsz thr) H → va_D A (wd_M h1 pB pW pS pA pQ pC pR pT pD cJ cI cZ cB kb kw ks ka kq kc kr kt kd many tsz thr) → va_S A s.heap H locs → lv_has ls 6 [(0, .ref h1), (1, .int x1), (2, .int x2), (3, .int x3)] → W p l e (headSpec ws_M_two rm_M_two).room s m ([.ref h1, .int a1] : List Value).toArray below meth c H locs 0 0 (MQ below (qv_M dC dI cJ cI cZ cB h1 pB pW pS pA pQ pC pR pT pD post A) ([.ref h1, .int a1] : List Value).toArray s 0 0 A) (F0 m 146 ls []) := by
    intro H locs ls x1 x2 x3 kb kw ks ka kq kc kr kt kd many tsz thr hw hP hD hS hl
    unfold wp_M_two_146 at hw
    refine lv_iload_n hx hb dc_M_two_146 rfl (lv_at hl 1 rfl) ?_
    refine lv_iconst (v := 5) hx hb dc_M_two_147 (by decide) ?_
    obtain ⟨hw1, hw2⟩ := hw
    refine lv_icmp_ge (tgt := 161) hx hb dc_M_two_148 (by decide) (fun hc => ?_) (fun hc => ?_)
    · have hw := hw1 hc
      clear hw1 hw2
      refine lv_iload_n hx hb dc_M_two_161 rfl (lv_at hl 1 rfl) ?_
      refine lv_bipush (v := 9) hx hb dc_M_two_162 (by decide) ?_
      obtain ⟨hw1, hw2⟩ := hw
      refine lv_icmp_ge (tgt := 211) hx hb dc_M_two_164 (by decide) (fun hc => ?_) (fun hc => ?_)
      · have hw := hw1 hc
        clear hw1 hw2
        refine lv_aload_n hx hb dc_M_two_211 rfl (lv_at hl 0 rfl) ?_
        refine va_get (D := (dC, dI)) (ci := 2) (v := .ref pC) (C := "FourWordsModel") (T := tb_M) (N := 12) hx hb hts (hu _ um_M) hown hK hP 0 rfl rfl 5 (by decide) (hq mw_t465) (fun _ h9 => h9) rfl dc_M_two_212 ?_
        refine lv_iconst (v := 0) hx hb dc_M_two_215 (by decide) ?_
        refine lv_aload_n hx hb dc_M_two_216 rfl (lv_at hl 0 rfl) ?_
        refine lv_iload_n hx hb dc_M_two_217 rfl (lv_at hl 1 rfl) ?_
        refine lv_iload_n hx hb dc_M_two_218 rfl (lv_at hl 3 rfl) ?_
        refine lv_iload_n hx hb dc_M_two_219 rfl (lv_at hl 2 rfl) ?_
        refine gc_i (S := (Nat → Int32) × (Nat → Int32) × (Nat → Int32) × (Nat → Int32) × (Nat → Int32) × (Nat → Int32) × (Nat → Int32) × (Nat → Int32) × (Nat → Int32) × Int32 × Int32 × Int32) (w1 := (fun u => (wd_M h1 pB pW pS pA pQ pC pR pT pD cJ cI cZ cB u.1 u.2.1 u.2.2.1 u.2.2.2.1 u.2.2.2.2.1 u.2.2.2.2.2.1 u.2.2.2.2.2.2.1 u.2.2.2.2.2.2.2.1 u.2.2.2.2.2.2.2.2.1 u.2.2.2.2.2.2.2.2.2.1 u.2.2.2.2.2.2.2.2.2.2.1 u.2.2.2.2.2.2.2.2.2.2.2))) (wc := (wd_M h1 pB pW pS pA pQ pC pR pT pD cJ cI cZ cB kb kw ks ka kq kc kr kt kd many tsz thr)) (wr := ([] : va_W)) (va_runV (As := [.int x1, .int x3, .int x2]) (rest := [.int (0 : Int32), .ref pC]) ⟨hx, hb, hml, hown, hts⟩ (kt_M_asked l dC dI cJ cI cZ cB h1 pB pW pS pA pQ pC pR pT pD _ x1 x3 x2 kb kw ks ka kq kc kr kt kd many tsz thr _ hw) ⟨callB_of 3 hts (gw_in mw_t567) rfl rfl rfl (hq mw_t3) (hq mw_t564) (by decide +kernel) ⟨Nat.le_of_ble_eq_true rfl, Nat.le_of_ble_eq_true rfl⟩, hq mw_t566, hq mw_s43⟩ (pv_W (va_recv (q0 := 0) (ci := 2) hK hP rfl rfl) (hP.sub (ws' := (wd_M h1 pB pW pS pA pQ pC pR pT pD cJ cI cZ cB kb kw ks ka kq kc kr kt kd many tsz thr)) [0, 1, 2, 3, 4, 5, 6, 7, 8, 9] rfl) hK (hD.sub (ws' := (wd_M h1 pB pW pS pA pQ pC pR pT pD cJ cI cZ cB kb kw ks ka kq kc kr kt kd many tsz thr)) [0, 1, 2, 3, 4, 5, 6, 7, 8, 9] (by decide) rfl) hE) rfl rfl hl.1 rfl (lv_room (Nat.le_of_ble_eq_true rfl)) dc_M_two_220 ⟨Nat.le_of_ble_eq_true rfl, Nat.le_of_ble_eq_true rfl⟩) hP hD hS hA [0, 1, 2, 3, 4, 5, 6, 7, 8, 9] [] rfl rfl (by decide) (by decide) (fun r220 u H locs hw hP hD hS => ?_)
        obtain ⟨kb220, kw220, ks220, ka220, kq220, kc220, kr220, kt220, kd220, many220, tsz220, thr220⟩ := u
        have hP : va_P (dC, dI) cs_3 (wd_M h1 pB pW pS pA pQ pC pR pT pD cJ cI cZ cB kb220 kw220 ks220 ka220 kq220 kc220 kr220 kt220 kd220 many220 tsz220 thr220) H := hP.sub (ws' := (wd_M h1 pB pW pS pA pQ pC pR pT pD cJ cI cZ cB kb220 kw220 ks220 ka220 kq220 kc220 kr220 kt220 kd220 many220 tsz220 thr220)) [0, 1, 2, 3, 4, 5, 6, 7, 8, 9] rfl
        have hD : va_D A (wd_M h1 pB pW pS pA pQ pC pR pT pD cJ cI cZ cB kb220 kw220 ks220 ka220 kq220 kc220 kr220 kt220 kd220 many220 tsz220 thr220) := hD.sub (ws' := (wd_M h1 pB pW pS pA pQ pC pR pT pD cJ cI cZ cB kb220 kw220 ks220 ka220 kq220 kc220 kr220 kt220 kd220 many220 tsz220 thr220)) [0, 1, 2, 3, 4, 5, 6, 7, 8, 9] (by decide) rfl
        try dsimp only at hw
        refine lv_i2b hx hb dc_M_two_223 rfl ?_
        obtain ⟨hin, hw⟩ := hw
        refine va_bast hx hb hK hP hD hS 6 3 rfl rfl hin dc_M_two_224 (fun H locs hP hD hS => ?_)
        have hP : va_P (dC, dI) cs_3 (wd_M h1 pB pW pS pA pQ pC pR pT pD cJ cI cZ cB kb220 kw220 ks220 ka220 kq220 (upd kc220 (0 : Int32).toNatClampNeg (vp_nar .byte r220.toInt8.toInt32)) kr220 kt220 kd220 many220 tsz220 thr220) H := hP
        have hD : va_D A (wd_M h1 pB pW pS pA pQ pC pR pT pD cJ cI cZ cB kb220 kw220 ks220 ka220 kq220 (upd kc220 (0 : Int32).toNatClampNeg (vp_nar .byte r220.toInt8.toInt32)) kr220 kt220 kd220 many220 tsz220 thr220) := hD
        exact B_225 _ _ _ x1 x2 x3 kb220 kw220 ks220 ka220 kq220 (upd kc220 (0 : Int32).toNatClampNeg (vp_nar .byte r220.toInt8.toInt32)) kr220 kt220 kd220 many220 tsz220 thr220 hw hP hD hS (lv_sub hl [0, 1, 2, 3] rfl)
      · have hw := hw2 hc
        clear hw1 hw2
        refine lv_iconst (v := 0) hx hb dc_M_two_167 (by decide) ?_
        refine lv_istore (lv' := [(5, .int (0 : Int32)), (0, .ref h1), (1, .int x1), (2, .int x2), (3, .int x3)]) hx hb dc_M_two_168 hl (Nat.le_of_ble_eq_true rfl) rfl (fun ls hl => ?_)
        obtain ⟨n170, hw⟩ := hw
        exact B_170 n170 _ _ _ x1 x2 x3 (0 : Int32) kb kw ks ka kq kc kr kt kd many tsz thr hw hP hD hS (lv_sub hl [1, 2, 3, 4, 0] rfl)
    · have hw := hw2 hc
      clear hw1 hw2
      refine lv_aload_n hx hb dc_M_two_151 rfl (lv_at hl 0 rfl) ?_
      refine lv_iload_n hx hb dc_M_two_152 rfl (lv_at hl 1 rfl) ?_
      refine lv_iload_n hx hb dc_M_two_153 rfl (lv_at hl 3 rfl) ?_
      refine lv_iload_n hx hb dc_M_two_154 rfl (lv_at hl 2 rfl) ?_
      refine gc_v (S := (Nat → Int32) × (Nat → Int32) × (Nat → Int32) × (Nat → Int32) × (Nat → Int32) × (Nat → Int32) × (Nat → Int32) × (Nat → Int32) × (Nat → Int32) × Int32 × Int32 × Int32) (w1 := (fun u => (wd_M h1 pB pW pS pA pQ pC pR pT pD cJ cI cZ cB u.1 u.2.1 u.2.2.1 u.2.2.2.1 u.2.2.2.2.1 u.2.2.2.2.2.1 u.2.2.2.2.2.2.1 u.2.2.2.2.2.2.2.1 u.2.2.2.2.2.2.2.2.1 u.2.2.2.2.2.2.2.2.2.1 u.2.2.2.2.2.2.2.2.2.2.1 u.2.2.2.2.2.2.2.2.2.2.2))) (wc := (wd_M h1 pB pW pS pA pQ pC pR pT pD cJ cI cZ cB kb kw ks ka kq kc kr kt kd many tsz thr)) (wr := ([] : va_W)) (va_runV (As := [.int x1, .int x3, .int x2]) (rest := []) ⟨hx, hb, hml, hown, hts⟩ (kt_M_reckon l dC dI cJ cI cZ cB h1 pB pW pS pA pQ pC pR pT pD _ x1 x3 x2 kb kw ks ka kq kc kr kt kd many tsz thr _ hw) ⟨callB_of 3 hts (gw_in mw_t529) rfl rfl rfl (hq mw_t3) (hq mw_t526) (by decide +kernel) ⟨Nat.le_of_ble_eq_true rfl, Nat.le_of_ble_eq_true rfl⟩, hq mw_t528, hq mw_s38⟩ (pv_W (va_recv (q0 := 0) (ci := 2) hK hP rfl rfl) (hP.sub (ws' := (wd_M h1 pB pW pS pA pQ pC pR pT pD cJ cI cZ cB kb kw ks ka kq kc kr kt kd many tsz thr)) [0, 1, 2, 3, 4, 5, 6, 7, 8, 9] rfl) hK (hD.sub (ws' := (wd_M h1 pB pW pS pA pQ pC pR pT pD cJ cI cZ cB kb kw ks ka kq kc kr kt kd many tsz thr)) [0, 1, 2, 3, 4, 5, 6, 7, 8, 9] (by decide) rfl) hE) rfl rfl hl.1 rfl (lv_room (Nat.le_of_ble_eq_true rfl)) dc_M_two_155 ⟨Nat.le_of_ble_eq_true rfl, Nat.le_of_ble_eq_true rfl⟩) hP hD hS hA [0, 1, 2, 3, 4, 5, 6, 7, 8, 9] [] rfl rfl (by decide) (by decide) (fun u H locs hw hP hD hS => ?_)
      obtain ⟨kb155, kw155, ks155, ka155, kq155, kc155, kr155, kt155, kd155, many155, tsz155, thr155⟩ := u
      have hP : va_P (dC, dI) cs_3 (wd_M h1 pB pW pS pA pQ pC pR pT pD cJ cI cZ cB kb155 kw155 ks155 ka155 kq155 kc155 kr155 kt155 kd155 many155 tsz155 thr155) H := hP.sub (ws' := (wd_M h1 pB pW pS pA pQ pC pR pT pD cJ cI cZ cB kb155 kw155 ks155 ka155 kq155 kc155 kr155 kt155 kd155 many155 tsz155 thr155)) [0, 1, 2, 3, 4, 5, 6, 7, 8, 9] rfl
      have hD : va_D A (wd_M h1 pB pW pS pA pQ pC pR pT pD cJ cI cZ cB kb155 kw155 ks155 ka155 kq155 kc155 kr155 kt155 kd155 many155 tsz155 thr155) := hD.sub (ws' := (wd_M h1 pB pW pS pA pQ pC pR pT pD cJ cI cZ cB kb155 kw155 ks155 ka155 kq155 kc155 kr155 kt155 kd155 many155 tsz155 thr155)) [0, 1, 2, 3, 4, 5, 6, 7, 8, 9] (by decide) rfl
      try dsimp only at hw
      refine lv_goto (tgt := 225) hx hb dc_M_two_158 (by decide) ?_
      exact B_225 _ _ _ x1 x2 x3 kb155 kw155 ks155 ka155 kq155 kc155 kr155 kt155 kd155 many155 tsz155 thr155 hw hP hD hS (lv_sub hl [0, 1, 2, 3] rfl)
  have B_75 : ∀ (H : Heap) (locs : List Loc) (ls : Array Slot) (x1 : Int32) (x2 : Int32) (x3 : Int32) (t0 : Int32) (kb : (Nat → Int32)) (kw : (Nat → Int32)) (ks : (Nat → Int32)) (ka : (Nat → Int32)) (kq : (Nat → Int32)) (kc : (Nat → Int32)) (kr : (Nat → Int32)) (kt : (Nat → Int32)) (kd : (Nat → Int32)) (many : Int32) (tsz : Int32) (thr : Int32), wp_M_two_75 post x1 x2 x3 t0 kb kw ks ka kq kc kr kt kd many tsz thr → va_P (dC, dI) cs_3 (wd_M h1 pB pW pS pA pQ pC pR pT pD cJ cI cZ cB kb kw ks ka kq kc kr kt kd many tsz thr) H → va_D A (wd_M h1 pB pW pS pA pQ pC pR pT pD cJ cI cZ cB kb kw ks ka kq kc kr kt kd many tsz thr) → va_S A s.heap H locs → lv_has ls 6 [(0, .ref h1), (1, .int x1), (2, .int x2), (3, .int x3)] → W p l e (headSpec ws_M_two rm_M_two).room s m ([.ref h1, .int a1] : List Value).toArray below meth c H locs 0 0 (MQ below (qv_M dC dI cJ cI cZ cB h1 pB pW pS pA pQ pC pR pT pD post A) ([.ref h1, .int a1] : List Value).toArray s 0 0 A) (F0 m 75 ls [.int t0]) := by
    intro H locs ls x1 x2 x3 t0 kb kw ks ka kq kc kr kt kd many tsz thr hw hP hD hS hl
    unfold wp_M_two_75 at hw
    refine lv_istore (lv' := [(4, .int t0), (0, .ref h1), (1, .int x1), (2, .int x2), (3, .int x3)]) hx hb dc_M_two_75 hl (Nat.le_of_ble_eq_true rfl) rfl (fun ls hl => ?_)
    refine lv_aload_n hx hb dc_M_two_77 rfl (lv_at hl 1 rfl) ?_
    refine lv_aload_n hx hb dc_M_two_78 rfl (lv_at hl 1 rfl) ?_
    refine va_get (D := (dC, dI)) (ci := 2) (v := .int many) (C := "FourWordsModel") (T := tb_M) (N := 12) hx hb hts (hu _ um_M) hown hK hP 0 rfl rfl 8 (by decide) (hq mw_t468) (fun _ h9 => h9) rfl dc_M_two_79 ?_
    refine lv_iconst (v := 2) hx hb dc_M_two_82 (by decide) ?_
    refine lv_isub hx hb dc_M_two_83 ?_
    refine lv_aload_n hx hb dc_M_two_84 rfl (lv_at hl 1 rfl) ?_
    refine va_get (D := (dC, dI)) (ci := 2) (v := .ref pA) (C := "FourWordsModel") (T := tb_M) (N := 12) hx hb hts (hu _ um_M) hown hK hP 0 rfl rfl 3 (by decide) (hq mw_t463) (fun _ h9 => h9) rfl dc_M_two_85 ?_
    refine lv_iload_n hx hb dc_M_two_88 rfl (lv_at hl 3 rfl) ?_
    refine lv_iload_n hx hb dc_M_two_89 rfl (lv_at hl 4 rfl) ?_
    refine gc_v (S := (Nat → Int32) × (Nat → Int32) × (Nat → Int32) × (Nat → Int32) × (Nat → Int32) × (Nat → Int32) × (Nat → Int32) × (Nat → Int32) × (Nat → Int32) × Int32 × Int32 × Int32) (w1 := (fun u => (wd_M h1 pB pW pS pA pQ pC pR pT pD cJ cI cZ cB u.1 u.2.1 u.2.2.1 u.2.2.2.1 u.2.2.2.2.1 u.2.2.2.2.2.1 u.2.2.2.2.2.2.1 u.2.2.2.2.2.2.2.1 u.2.2.2.2.2.2.2.2.1 u.2.2.2.2.2.2.2.2.2.1 u.2.2.2.2.2.2.2.2.2.2.1 u.2.2.2.2.2.2.2.2.2.2.2))) (wc := (wd_M h1 pB pW pS pA pQ pC pR pT pD cJ cI cZ cB kb kw ks ka kq kc kr kt kd many tsz thr)) (wr := ([] : va_W)) (va_runV (As := [.int (many - (2 : Int32)), .ref pA, .int x2, .int x3]) (rest := []) ⟨hx, hb, hml, hown, hts⟩ (kt_M_take_a l dC dI cJ cI cZ cB h1 pB pW pS pA pQ pC pR pT pD _ (many - (2 : Int32)) x2 x3 kb kw ks ka kq kc kr kt kd many tsz thr _ hw) ⟨callB_of 4 hts (gw_in mw_t525) rfl rfl rfl (hq mw_t3) (hq mw_t522) (by decide +kernel) ⟨Nat.le_of_ble_eq_true rfl, Nat.le_of_ble_eq_true rfl⟩, hq mw_t524, hq mw_s37⟩ (pv_W (va_recv (q0 := 0) (ci := 2) hK hP rfl rfl) (hP.sub (ws' := (wd_M h1 pB pW pS pA pQ pC pR pT pD cJ cI cZ cB kb kw ks ka kq kc kr kt kd many tsz thr)) [0, 1, 2, 3, 4, 5, 6, 7, 8, 9] rfl) hK (hD.sub (ws' := (wd_M h1 pB pW pS pA pQ pC pR pT pD cJ cI cZ cB kb kw ks ka kq kc kr kt kd many tsz thr)) [0, 1, 2, 3, 4, 5, 6, 7, 8, 9] (by decide) rfl) hE) rfl rfl hl.1 rfl (lv_room (Nat.le_of_ble_eq_true rfl)) dc_M_two_90 ⟨Nat.le_of_ble_eq_true rfl, Nat.le_of_ble_eq_true rfl⟩) hP hD hS hA [0, 1, 2, 3, 4, 5, 6, 7, 8, 9] [] rfl rfl (by decide) (by decide) (fun u H locs hw hP hD hS => ?_)
    obtain ⟨kb90, kw90, ks90, ka90, kq90, kc90, kr90, kt90, kd90, many90, tsz90, thr90⟩ := u
    have hP : va_P (dC, dI) cs_3 (wd_M h1 pB pW pS pA pQ pC pR pT pD cJ cI cZ cB kb90 kw90 ks90 ka90 kq90 kc90 kr90 kt90 kd90 many90 tsz90 thr90) H := hP.sub (ws' := (wd_M h1 pB pW pS pA pQ pC pR pT pD cJ cI cZ cB kb90 kw90 ks90 ka90 kq90 kc90 kr90 kt90 kd90 many90 tsz90 thr90)) [0, 1, 2, 3, 4, 5, 6, 7, 8, 9] rfl
    have hD : va_D A (wd_M h1 pB pW pS pA pQ pC pR pT pD cJ cI cZ cB kb90 kw90 ks90 ka90 kq90 kc90 kr90 kt90 kd90 many90 tsz90 thr90) := hD.sub (ws' := (wd_M h1 pB pW pS pA pQ pC pR pT pD cJ cI cZ cB kb90 kw90 ks90 ka90 kq90 kc90 kr90 kt90 kd90 many90 tsz90 thr90)) [0, 1, 2, 3, 4, 5, 6, 7, 8, 9] (by decide) rfl
    try dsimp only at hw
    refine lv_aload_n hx hb dc_M_two_93 rfl (lv_at hl 1 rfl) ?_
    refine lv_aload_n hx hb dc_M_two_94 rfl (lv_at hl 1 rfl) ?_
    refine va_get (D := (dC, dI)) (ci := 2) (v := .int many90) (C := "FourWordsModel") (T := tb_M) (N := 12) hx hb hts (hu _ um_M) hown hK hP 0 rfl rfl 8 (by decide) (hq mw_t468) (fun _ h9 => h9) rfl dc_M_two_95 ?_
    refine lv_iconst (v := 1) hx hb dc_M_two_98 (by decide) ?_
    refine lv_isub hx hb dc_M_two_99 ?_
    refine lv_aload_n hx hb dc_M_two_100 rfl (lv_at hl 1 rfl) ?_
    refine va_get (D := (dC, dI)) (ci := 2) (v := .ref pQ) (C := "FourWordsModel") (T := tb_M) (N := 12) hx hb hts (hu _ um_M) hown hK hP 0 rfl rfl 4 (by decide) (hq mw_t464) (fun _ h9 => h9) rfl dc_M_two_101 ?_
    refine lv_iload_n hx hb dc_M_two_104 rfl (lv_at hl 3 rfl) ?_
    refine lv_iload_n hx hb dc_M_two_105 rfl (lv_at hl 4 rfl) ?_
    refine gc_v (S := (Nat → Int32) × (Nat → Int32) × (Nat → Int32) × (Nat → Int32) × (Nat → Int32) × (Nat → Int32) × (Nat → Int32) × (Nat → Int32) × (Nat → Int32) × Int32 × Int32 × Int32) (w1 := (fun u => (wd_M h1 pB pW pS pA pQ pC pR pT pD cJ cI cZ cB u.1 u.2.1 u.2.2.1 u.2.2.2.1 u.2.2.2.2.1 u.2.2.2.2.2.1 u.2.2.2.2.2.2.1 u.2.2.2.2.2.2.2.1 u.2.2.2.2.2.2.2.2.1 u.2.2.2.2.2.2.2.2.2.1 u.2.2.2.2.2.2.2.2.2.2.1 u.2.2.2.2.2.2.2.2.2.2.2))) (wc := (wd_M h1 pB pW pS pA pQ pC pR pT pD cJ cI cZ cB kb90 kw90 ks90 ka90 kq90 kc90 kr90 kt90 kd90 many90 tsz90 thr90)) (wr := ([] : va_W)) (va_runV (As := [.int (many90 - (1 : Int32)), .ref pQ, .int x2, .int x3]) (rest := []) ⟨hx, hb, hml, hown, hts⟩ (kt_M_take_b l dC dI cJ cI cZ cB h1 pB pW pS pA pQ pC pR pT pD _ (many90 - (1 : Int32)) x2 x3 kb90 kw90 ks90 ka90 kq90 kc90 kr90 kt90 kd90 many90 tsz90 thr90 _ hw) ⟨callB_of 4 hts (gw_in mw_t525) rfl rfl rfl (hq mw_t3) (hq mw_t522) (by decide +kernel) ⟨Nat.le_of_ble_eq_true rfl, Nat.le_of_ble_eq_true rfl⟩, hq mw_t524, hq mw_s37⟩ (pv_W (va_recv (q0 := 0) (ci := 2) hK hP rfl rfl) (hP.sub (ws' := (wd_M h1 pB pW pS pA pQ pC pR pT pD cJ cI cZ cB kb90 kw90 ks90 ka90 kq90 kc90 kr90 kt90 kd90 many90 tsz90 thr90)) [0, 1, 2, 3, 4, 5, 6, 7, 8, 9] rfl) hK (hD.sub (ws' := (wd_M h1 pB pW pS pA pQ pC pR pT pD cJ cI cZ cB kb90 kw90 ks90 ka90 kq90 kc90 kr90 kt90 kd90 many90 tsz90 thr90)) [0, 1, 2, 3, 4, 5, 6, 7, 8, 9] (by decide) rfl) hE) rfl rfl hl.1 rfl (lv_room (Nat.le_of_ble_eq_true rfl)) dc_M_two_106 ⟨Nat.le_of_ble_eq_true rfl, Nat.le_of_ble_eq_true rfl⟩) hP hD hS hA [0, 1, 2, 3, 4, 5, 6, 7, 8, 9] [] rfl rfl (by decide) (by decide) (fun u H locs hw hP hD hS => ?_)
    obtain ⟨kb106, kw106, ks106, ka106, kq106, kc106, kr106, kt106, kd106, many106, tsz106, thr106⟩ := u
    have hP : va_P (dC, dI) cs_3 (wd_M h1 pB pW pS pA pQ pC pR pT pD cJ cI cZ cB kb106 kw106 ks106 ka106 kq106 kc106 kr106 kt106 kd106 many106 tsz106 thr106) H := hP.sub (ws' := (wd_M h1 pB pW pS pA pQ pC pR pT pD cJ cI cZ cB kb106 kw106 ks106 ka106 kq106 kc106 kr106 kt106 kd106 many106 tsz106 thr106)) [0, 1, 2, 3, 4, 5, 6, 7, 8, 9] rfl
    have hD : va_D A (wd_M h1 pB pW pS pA pQ pC pR pT pD cJ cI cZ cB kb106 kw106 ks106 ka106 kq106 kc106 kr106 kt106 kd106 many106 tsz106 thr106) := hD.sub (ws' := (wd_M h1 pB pW pS pA pQ pC pR pT pD cJ cI cZ cB kb106 kw106 ks106 ka106 kq106 kc106 kr106 kt106 kd106 many106 tsz106 thr106)) [0, 1, 2, 3, 4, 5, 6, 7, 8, 9] (by decide) rfl
    try dsimp only at hw
    refine lv_iload hx hb dc_M_two_109 (lv_at hl 0 rfl) ?_
    obtain ⟨hw1, hw2⟩ := hw
    refine lv_if_eq (tgt := 146) hx hb dc_M_two_111 (by decide) (fun hc => ?_) (fun hc => ?_)
    · have hw := hw1 hc
      clear hw1 hw2
      exact B_146 _ _ _ x1 x2 x3 kb106 kw106 ks106 ka106 kq106 kc106 kr106 kt106 kd106 many106 tsz106 thr106 hw hP hD hS (lv_sub hl [1, 2, 3, 4] rfl)
    · have hw := hw2 hc
      clear hw1 hw2
      refine lv_aload_n hx hb dc_M_two_114 rfl (lv_at hl 1 rfl) ?_
      refine lv_aload_n hx hb dc_M_two_115 rfl (lv_at hl 1 rfl) ?_
      refine va_get (D := (dC, dI)) (ci := 2) (v := .int many106) (C := "FourWordsModel") (T := tb_M) (N := 12) hx hb hts (hu _ um_M) hown hK hP 0 rfl rfl 8 (by decide) (hq mw_t468) (fun _ h9 => h9) rfl dc_M_two_116 ?_
      refine lv_iconst (v := 2) hx hb dc_M_two_119 (by decide) ?_
      refine lv_isub hx hb dc_M_two_120 ?_
      refine lv_aload_n hx hb dc_M_two_121 rfl (lv_at hl 1 rfl) ?_
      refine va_get (D := (dC, dI)) (ci := 2) (v := .ref pA) (C := "FourWordsModel") (T := tb_M) (N := 12) hx hb hts (hu _ um_M) hown hK hP 0 rfl rfl 3 (by decide) (hq mw_t463) (fun _ h9 => h9) rfl dc_M_two_122 ?_
      refine lv_iload_n hx hb dc_M_two_125 rfl (lv_at hl 3 rfl) ?_
      refine lv_iconst (v := 0) hx hb dc_M_two_126 (by decide) ?_
      refine gc_v (S := (Nat → Int32) × (Nat → Int32) × (Nat → Int32) × (Nat → Int32) × (Nat → Int32) × (Nat → Int32) × (Nat → Int32) × (Nat → Int32) × (Nat → Int32) × Int32 × Int32 × Int32) (w1 := (fun u => (wd_M h1 pB pW pS pA pQ pC pR pT pD cJ cI cZ cB u.1 u.2.1 u.2.2.1 u.2.2.2.1 u.2.2.2.2.1 u.2.2.2.2.2.1 u.2.2.2.2.2.2.1 u.2.2.2.2.2.2.2.1 u.2.2.2.2.2.2.2.2.1 u.2.2.2.2.2.2.2.2.2.1 u.2.2.2.2.2.2.2.2.2.2.1 u.2.2.2.2.2.2.2.2.2.2.2))) (wc := (wd_M h1 pB pW pS pA pQ pC pR pT pD cJ cI cZ cB kb106 kw106 ks106 ka106 kq106 kc106 kr106 kt106 kd106 many106 tsz106 thr106)) (wr := ([] : va_W)) (va_runV (As := [.int (many106 - (2 : Int32)), .ref pA, .int x2, .int (0 : Int32)]) (rest := []) ⟨hx, hb, hml, hown, hts⟩ (kt_M_take_a l dC dI cJ cI cZ cB h1 pB pW pS pA pQ pC pR pT pD _ (many106 - (2 : Int32)) x2 (0 : Int32) kb106 kw106 ks106 ka106 kq106 kc106 kr106 kt106 kd106 many106 tsz106 thr106 _ hw) ⟨callB_of 4 hts (gw_in mw_t525) rfl rfl rfl (hq mw_t3) (hq mw_t522) (by decide +kernel) ⟨Nat.le_of_ble_eq_true rfl, Nat.le_of_ble_eq_true rfl⟩, hq mw_t524, hq mw_s37⟩ (pv_W (va_recv (q0 := 0) (ci := 2) hK hP rfl rfl) (hP.sub (ws' := (wd_M h1 pB pW pS pA pQ pC pR pT pD cJ cI cZ cB kb106 kw106 ks106 ka106 kq106 kc106 kr106 kt106 kd106 many106 tsz106 thr106)) [0, 1, 2, 3, 4, 5, 6, 7, 8, 9] rfl) hK (hD.sub (ws' := (wd_M h1 pB pW pS pA pQ pC pR pT pD cJ cI cZ cB kb106 kw106 ks106 ka106 kq106 kc106 kr106 kt106 kd106 many106 tsz106 thr106)) [0, 1, 2, 3, 4, 5, 6, 7, 8, 9] (by decide) rfl) hE) rfl rfl hl.1 rfl (lv_room (Nat.le_of_ble_eq_true rfl)) dc_M_two_127 ⟨Nat.le_of_ble_eq_true rfl, Nat.le_of_ble_eq_true rfl⟩) hP hD hS hA [0, 1, 2, 3, 4, 5, 6, 7, 8, 9] [] rfl rfl (by decide) (by decide) (fun u H locs hw hP hD hS => ?_)
      obtain ⟨kb127, kw127, ks127, ka127, kq127, kc127, kr127, kt127, kd127, many127, tsz127, thr127⟩ := u
      have hP : va_P (dC, dI) cs_3 (wd_M h1 pB pW pS pA pQ pC pR pT pD cJ cI cZ cB kb127 kw127 ks127 ka127 kq127 kc127 kr127 kt127 kd127 many127 tsz127 thr127) H := hP.sub (ws' := (wd_M h1 pB pW pS pA pQ pC pR pT pD cJ cI cZ cB kb127 kw127 ks127 ka127 kq127 kc127 kr127 kt127 kd127 many127 tsz127 thr127)) [0, 1, 2, 3, 4, 5, 6, 7, 8, 9] rfl
      have hD : va_D A (wd_M h1 pB pW pS pA pQ pC pR pT pD cJ cI cZ cB kb127 kw127 ks127 ka127 kq127 kc127 kr127 kt127 kd127 many127 tsz127 thr127) := hD.sub (ws' := (wd_M h1 pB pW pS pA pQ pC pR pT pD cJ cI cZ cB kb127 kw127 ks127 ka127 kq127 kc127 kr127 kt127 kd127 many127 tsz127 thr127)) [0, 1, 2, 3, 4, 5, 6, 7, 8, 9] (by decide) rfl
      try dsimp only at hw
      refine lv_aload_n hx hb dc_M_two_130 rfl (lv_at hl 1 rfl) ?_
      refine lv_aload_n hx hb dc_M_two_131 rfl (lv_at hl 1 rfl) ?_
      refine va_get (D := (dC, dI)) (ci := 2) (v := .int many127) (C := "FourWordsModel") (T := tb_M) (N := 12) hx hb hts (hu _ um_M) hown hK hP 0 rfl rfl 8 (by decide) (hq mw_t468) (fun _ h9 => h9) rfl dc_M_two_132 ?_
      refine lv_iconst (v := 1) hx hb dc_M_two_135 (by decide) ?_
      refine lv_isub hx hb dc_M_two_136 ?_
      refine lv_aload_n hx hb dc_M_two_137 rfl (lv_at hl 1 rfl) ?_
      refine va_get (D := (dC, dI)) (ci := 2) (v := .ref pQ) (C := "FourWordsModel") (T := tb_M) (N := 12) hx hb hts (hu _ um_M) hown hK hP 0 rfl rfl 4 (by decide) (hq mw_t464) (fun _ h9 => h9) rfl dc_M_two_138 ?_
      refine lv_iload_n hx hb dc_M_two_141 rfl (lv_at hl 3 rfl) ?_
      refine lv_iconst (v := 0) hx hb dc_M_two_142 (by decide) ?_
      refine gc_v (S := (Nat → Int32) × (Nat → Int32) × (Nat → Int32) × (Nat → Int32) × (Nat → Int32) × (Nat → Int32) × (Nat → Int32) × (Nat → Int32) × (Nat → Int32) × Int32 × Int32 × Int32) (w1 := (fun u => (wd_M h1 pB pW pS pA pQ pC pR pT pD cJ cI cZ cB u.1 u.2.1 u.2.2.1 u.2.2.2.1 u.2.2.2.2.1 u.2.2.2.2.2.1 u.2.2.2.2.2.2.1 u.2.2.2.2.2.2.2.1 u.2.2.2.2.2.2.2.2.1 u.2.2.2.2.2.2.2.2.2.1 u.2.2.2.2.2.2.2.2.2.2.1 u.2.2.2.2.2.2.2.2.2.2.2))) (wc := (wd_M h1 pB pW pS pA pQ pC pR pT pD cJ cI cZ cB kb127 kw127 ks127 ka127 kq127 kc127 kr127 kt127 kd127 many127 tsz127 thr127)) (wr := ([] : va_W)) (va_runV (As := [.int (many127 - (1 : Int32)), .ref pQ, .int x2, .int (0 : Int32)]) (rest := []) ⟨hx, hb, hml, hown, hts⟩ (kt_M_take_b l dC dI cJ cI cZ cB h1 pB pW pS pA pQ pC pR pT pD _ (many127 - (1 : Int32)) x2 (0 : Int32) kb127 kw127 ks127 ka127 kq127 kc127 kr127 kt127 kd127 many127 tsz127 thr127 _ hw) ⟨callB_of 4 hts (gw_in mw_t525) rfl rfl rfl (hq mw_t3) (hq mw_t522) (by decide +kernel) ⟨Nat.le_of_ble_eq_true rfl, Nat.le_of_ble_eq_true rfl⟩, hq mw_t524, hq mw_s37⟩ (pv_W (va_recv (q0 := 0) (ci := 2) hK hP rfl rfl) (hP.sub (ws' := (wd_M h1 pB pW pS pA pQ pC pR pT pD cJ cI cZ cB kb127 kw127 ks127 ka127 kq127 kc127 kr127 kt127 kd127 many127 tsz127 thr127)) [0, 1, 2, 3, 4, 5, 6, 7, 8, 9] rfl) hK (hD.sub (ws' := (wd_M h1 pB pW pS pA pQ pC pR pT pD cJ cI cZ cB kb127 kw127 ks127 ka127 kq127 kc127 kr127 kt127 kd127 many127 tsz127 thr127)) [0, 1, 2, 3, 4, 5, 6, 7, 8, 9] (by decide) rfl) hE) rfl rfl hl.1 rfl (lv_room (Nat.le_of_ble_eq_true rfl)) dc_M_two_143 ⟨Nat.le_of_ble_eq_true rfl, Nat.le_of_ble_eq_true rfl⟩) hP hD hS hA [0, 1, 2, 3, 4, 5, 6, 7, 8, 9] [] rfl rfl (by decide) (by decide) (fun u H locs hw hP hD hS => ?_)
      obtain ⟨kb143, kw143, ks143, ka143, kq143, kc143, kr143, kt143, kd143, many143, tsz143, thr143⟩ := u
      have hP : va_P (dC, dI) cs_3 (wd_M h1 pB pW pS pA pQ pC pR pT pD cJ cI cZ cB kb143 kw143 ks143 ka143 kq143 kc143 kr143 kt143 kd143 many143 tsz143 thr143) H := hP.sub (ws' := (wd_M h1 pB pW pS pA pQ pC pR pT pD cJ cI cZ cB kb143 kw143 ks143 ka143 kq143 kc143 kr143 kt143 kd143 many143 tsz143 thr143)) [0, 1, 2, 3, 4, 5, 6, 7, 8, 9] rfl
      have hD : va_D A (wd_M h1 pB pW pS pA pQ pC pR pT pD cJ cI cZ cB kb143 kw143 ks143 ka143 kq143 kc143 kr143 kt143 kd143 many143 tsz143 thr143) := hD.sub (ws' := (wd_M h1 pB pW pS pA pQ pC pR pT pD cJ cI cZ cB kb143 kw143 ks143 ka143 kq143 kc143 kr143 kt143 kd143 many143 tsz143 thr143)) [0, 1, 2, 3, 4, 5, 6, 7, 8, 9] (by decide) rfl
      try dsimp only at hw
      exact B_146 _ _ _ x1 x2 x3 kb143 kw143 ks143 ka143 kq143 kc143 kr143 kt143 kd143 many143 tsz143 thr143 hw hP hD hS (lv_sub hl [1, 2, 3, 4] rfl)
  have B_63 : ∀ (H : Heap) (locs : List Loc) (ls : Array Slot) (x1 : Int32) (x2 : Int32) (t0 : Int32) (kb : (Nat → Int32)) (kw : (Nat → Int32)) (ks : (Nat → Int32)) (ka : (Nat → Int32)) (kq : (Nat → Int32)) (kc : (Nat → Int32)) (kr : (Nat → Int32)) (kt : (Nat → Int32)) (kd : (Nat → Int32)) (many : Int32) (tsz : Int32) (thr : Int32), wp_M_two_63 post x1 x2 t0 kb kw ks ka kq kc kr kt kd many tsz thr → va_P (dC, dI) cs_3 (wd_M h1 pB pW pS pA pQ pC pR pT pD cJ cI cZ cB kb kw ks ka kq kc kr kt kd many tsz thr) H → va_D A (wd_M h1 pB pW pS pA pQ pC pR pT pD cJ cI cZ cB kb kw ks ka kq kc kr kt kd many tsz thr) → va_S A s.heap H locs → lv_has ls 6 [(0, .ref h1), (1, .int x1), (2, .int x2)] → W p l e (headSpec ws_M_two rm_M_two).room s m ([.ref h1, .int a1] : List Value).toArray below meth c H locs 0 0 (MQ below (qv_M dC dI cJ cI cZ cB h1 pB pW pS pA pQ pC pR pT pD post A) ([.ref h1, .int a1] : List Value).toArray s 0 0 A) (F0 m 63 ls [.int t0]) := by
    intro H locs ls x1 x2 t0 kb kw ks ka kq kc kr kt kd many tsz thr hw hP hD hS hl
    unfold wp_M_two_63 at hw
    refine lv_istore_n (lv' := [(3, .int t0), (0, .ref h1), (1, .int x1), (2, .int x2)]) hx hb dc_M_two_63 rfl hl (Nat.le_of_ble_eq_true rfl) rfl (fun ls hl => ?_)
    refine lv_iload_n hx hb dc_M_two_64 rfl (lv_at hl 2 rfl) ?_
    refine lv_bipush (v := 16) hx hb dc_M_two_65 (by decide) ?_
    obtain ⟨hw1, hw2⟩ := hw
    refine lv_icmp_le (tgt := 74) hx hb dc_M_two_67 (by decide) (fun hc => ?_) (fun hc => ?_)
    · have hw := hw1 hc
      clear hw1 hw2
      refine lv_iconst (v := 0) hx hb dc_M_two_74 (by decide) ?_
      exact B_75 _ _ _ x1 x2 t0 (0 : Int32) kb kw ks ka kq kc kr kt kd many tsz thr hw hP hD hS (lv_sub hl [1, 2, 3, 0] rfl)
    · have hw := hw2 hc
      clear hw1 hw2
      refine lv_iconst (v := 1) hx hb dc_M_two_70 (by decide) ?_
      refine lv_goto (tgt := 75) hx hb dc_M_two_71 (by decide) ?_
      exact B_75 _ _ _ x1 x2 t0 (1 : Int32) kb kw ks ka kq kc kr kt kd many tsz thr hw hP hD hS (lv_sub hl [1, 2, 3, 0] rfl)
  have B_62 : ∀ (H : Heap) (locs : List Loc) (ls : Array Slot) (x1 : Int32) (x2 : Int32) (kb : (Nat → Int32)) (kw : (Nat → Int32)) (ks : (Nat → Int32)) (ka : (Nat → Int32)) (kq : (Nat → Int32)) (kc : (Nat → Int32)) (kr : (Nat → Int32)) (kt : (Nat → Int32)) (kd : (Nat → Int32)) (many : Int32) (tsz : Int32) (thr : Int32), wp_M_two_62 post x1 x2 kb kw ks ka kq kc kr kt kd many tsz thr → va_P (dC, dI) cs_3 (wd_M h1 pB pW pS pA pQ pC pR pT pD cJ cI cZ cB kb kw ks ka kq kc kr kt kd many tsz thr) H → va_D A (wd_M h1 pB pW pS pA pQ pC pR pT pD cJ cI cZ cB kb kw ks ka kq kc kr kt kd many tsz thr) → va_S A s.heap H locs → lv_has ls 6 [(0, .ref h1), (1, .int x1), (2, .int x2)] → W p l e (headSpec ws_M_two rm_M_two).room s m ([.ref h1, .int a1] : List Value).toArray below meth c H locs 0 0 (MQ below (qv_M dC dI cJ cI cZ cB h1 pB pW pS pA pQ pC pR pT pD post A) ([.ref h1, .int a1] : List Value).toArray s 0 0 A) (F0 m 62 ls []) := by
    intro H locs ls x1 x2 kb kw ks ka kq kc kr kt kd many tsz thr hw hP hD hS hl
    unfold wp_M_two_62 at hw
    refine lv_iconst (v := 0) hx hb dc_M_two_62 (by decide) ?_
    exact B_63 _ _ _ x1 x2 (0 : Int32) kb kw ks ka kq kc kr kt kd many tsz thr hw hP hD hS (lv_sub hl [0, 1, 2] rfl)
  have B_16 : ∀ (H : Heap) (locs : List Loc) (ls : Array Slot) (x1 : Int32) (t0 : Int32) (kb : (Nat → Int32)) (kw : (Nat → Int32)) (ks : (Nat → Int32)) (ka : (Nat → Int32)) (kq : (Nat → Int32)) (kc : (Nat → Int32)) (kr : (Nat → Int32)) (kt : (Nat → Int32)) (kd : (Nat → Int32)) (many : Int32) (tsz : Int32) (thr : Int32), wp_M_two_16 post x1 t0 kb kw ks ka kq kc kr kt kd many tsz thr → va_P (dC, dI) cs_3 (wd_M h1 pB pW pS pA pQ pC pR pT pD cJ cI cZ cB kb kw ks ka kq kc kr kt kd many tsz thr) H → va_D A (wd_M h1 pB pW pS pA pQ pC pR pT pD cJ cI cZ cB kb kw ks ka kq kc kr kt kd many tsz thr) → va_S A s.heap H locs → lv_has ls 6 [(0, .ref h1), (1, .int x1)] → W p l e (headSpec ws_M_two rm_M_two).room s m ([.ref h1, .int a1] : List Value).toArray below meth c H locs 0 0 (MQ below (qv_M dC dI cJ cI cZ cB h1 pB pW pS pA pQ pC pR pT pD post A) ([.ref h1, .int a1] : List Value).toArray s 0 0 A) (F0 m 16 ls [.int t0, .ref h1]) := by
    intro H locs ls x1 t0 kb kw ks ka kq kc kr kt kd many tsz thr hw hP hD hS hl
    unfold wp_M_two_16 at hw
    refine lv_iconst (v := 2) hx hb dc_M_two_16 (by decide) ?_
    refine lv_iconst (v := 1) hx hb dc_M_two_17 (by decide) ?_
    refine gc_i (S := (Nat → Int32) × (Nat → Int32) × (Nat → Int32) × (Nat → Int32) × (Nat → Int32) × (Nat → Int32) × (Nat → Int32) × (Nat → Int32) × (Nat → Int32) × Int32 × Int32 × Int32) (w1 := (fun u => (wd_M h1 pB pW pS pA pQ pC pR pT pD cJ cI cZ cB u.1 u.2.1 u.2.2.1 u.2.2.2.1 u.2.2.2.2.1 u.2.2.2.2.2.1 u.2.2.2.2.2.2.1 u.2.2.2.2.2.2.2.1 u.2.2.2.2.2.2.2.2.1 u.2.2.2.2.2.2.2.2.2.1 u.2.2.2.2.2.2.2.2.2.2.1 u.2.2.2.2.2.2.2.2.2.2.2))) (wc := (wd_M h1 pB pW pS pA pQ pC pR pT pD cJ cI cZ cB kb kw ks ka kq kc kr kt kd many tsz thr)) (wr := ([] : va_W)) (va_runV (As := [.int t0, .int (2 : Int32), .int (1 : Int32)]) (rest := []) ⟨hx, hb, hml, hown, hts⟩ (kt_M_refuse l dC dI cJ cI cZ cB h1 pB pW pS pA pQ pC pR pT pD _ t0 (2 : Int32) (1 : Int32) kb kw ks ka kq kc kr kt kd many tsz thr _ hw) ⟨callB_of 3 hts (gw_in mw_t508) rfl rfl rfl (hq mw_t3) (hq mw_t505) (by decide +kernel) ⟨Nat.le_of_ble_eq_true rfl, Nat.le_of_ble_eq_true rfl⟩, hq mw_t507, hq mw_s34⟩ (pv_W (va_recv (q0 := 0) (ci := 2) hK hP rfl rfl) (hP.sub (ws' := (wd_M h1 pB pW pS pA pQ pC pR pT pD cJ cI cZ cB kb kw ks ka kq kc kr kt kd many tsz thr)) [0, 1, 2, 3, 4, 5, 6, 7, 8, 9] rfl) hK (hD.sub (ws' := (wd_M h1 pB pW pS pA pQ pC pR pT pD cJ cI cZ cB kb kw ks ka kq kc kr kt kd many tsz thr)) [0, 1, 2, 3, 4, 5, 6, 7, 8, 9] (by decide) rfl) hE) rfl rfl hl.1 rfl (lv_room (Nat.le_of_ble_eq_true rfl)) dc_M_two_18 ⟨Nat.le_of_ble_eq_true rfl, Nat.le_of_ble_eq_true rfl⟩) hP hD hS hA [0, 1, 2, 3, 4, 5, 6, 7, 8, 9] [] rfl rfl (by decide) (by decide) (fun r18 u H locs hw hP hD hS => ?_)
    obtain ⟨kb18, kw18, ks18, ka18, kq18, kc18, kr18, kt18, kd18, many18, tsz18, thr18⟩ := u
    have hP : va_P (dC, dI) cs_3 (wd_M h1 pB pW pS pA pQ pC pR pT pD cJ cI cZ cB kb18 kw18 ks18 ka18 kq18 kc18 kr18 kt18 kd18 many18 tsz18 thr18) H := hP.sub (ws' := (wd_M h1 pB pW pS pA pQ pC pR pT pD cJ cI cZ cB kb18 kw18 ks18 ka18 kq18 kc18 kr18 kt18 kd18 many18 tsz18 thr18)) [0, 1, 2, 3, 4, 5, 6, 7, 8, 9] rfl
    have hD : va_D A (wd_M h1 pB pW pS pA pQ pC pR pT pD cJ cI cZ cB kb18 kw18 ks18 ka18 kq18 kc18 kr18 kt18 kd18 many18 tsz18 thr18) := hD.sub (ws' := (wd_M h1 pB pW pS pA pQ pC pR pT pD cJ cI cZ cB kb18 kw18 ks18 ka18 kq18 kc18 kr18 kt18 kd18 many18 tsz18 thr18)) [0, 1, 2, 3, 4, 5, 6, 7, 8, 9] (by decide) rfl
    try dsimp only at hw
    obtain ⟨hw1, hw2⟩ := hw
    refine lv_if_eq (tgt := 25) hx hb dc_M_two_21 (by decide) (fun hc => ?_) (fun hc => ?_)
    · have hw := hw1 hc
      clear hw1 hw2
      refine lv_aload_n hx hb dc_M_two_25 rfl (lv_at hl 0 rfl) ?_
      refine gc_i (S := (Nat → Int32) × (Nat → Int32) × (Nat → Int32) × (Nat → Int32) × (Nat → Int32) × (Nat → Int32) × (Nat → Int32) × (Nat → Int32) × (Nat → Int32) × Int32 × Int32 × Int32) (w1 := (fun u => (wd_M h1 pB pW pS pA pQ pC pR pT pD cJ cI cZ cB u.1 u.2.1 u.2.2.1 u.2.2.2.1 u.2.2.2.2.1 u.2.2.2.2.2.1 u.2.2.2.2.2.2.1 u.2.2.2.2.2.2.2.1 u.2.2.2.2.2.2.2.2.1 u.2.2.2.2.2.2.2.2.2.1 u.2.2.2.2.2.2.2.2.2.2.1 u.2.2.2.2.2.2.2.2.2.2.2))) (wc := (wd_M h1 pB pW pS pA pQ pC pR pT pD cJ cI cZ cB kb18 kw18 ks18 ka18 kq18 kc18 kr18 kt18 kd18 many18 tsz18 thr18)) (wr := ([] : va_W)) (va_runV (As := []) (rest := []) ⟨hx, hb, hml, hown, hts⟩ (kt_M_wider l dC dI cJ cI cZ cB h1 pB pW pS pA pQ pC pR pT pD _ kb18 kw18 ks18 ka18 kq18 kc18 kr18 kt18 kd18 many18 tsz18 thr18 _ hw) ⟨callB_of 0 hts (gw_in mw_t521) rfl rfl rfl (hq mw_t3) (hq mw_t518) (by decide +kernel) ⟨Nat.le_of_ble_eq_true rfl, Nat.le_of_ble_eq_true rfl⟩, hq mw_t520, hq mw_s36⟩ (pv_W (va_recv (q0 := 0) (ci := 2) hK hP rfl rfl) (hP.sub (ws' := (wd_M h1 pB pW pS pA pQ pC pR pT pD cJ cI cZ cB kb18 kw18 ks18 ka18 kq18 kc18 kr18 kt18 kd18 many18 tsz18 thr18)) [0, 1, 2, 3, 4, 5, 6, 7, 8, 9] rfl) hK (hD.sub (ws' := (wd_M h1 pB pW pS pA pQ pC pR pT pD cJ cI cZ cB kb18 kw18 ks18 ka18 kq18 kc18 kr18 kt18 kd18 many18 tsz18 thr18)) [0, 1, 2, 3, 4, 5, 6, 7, 8, 9] (by decide) rfl) hE) rfl rfl hl.1 rfl (lv_room (Nat.le_of_ble_eq_true rfl)) dc_M_two_26 ⟨Nat.le_of_ble_eq_true rfl, Nat.le_of_ble_eq_true rfl⟩) hP hD hS hA [0, 1, 2, 3, 4, 5, 6, 7, 8, 9] [] rfl rfl (by decide) (by decide) (fun r26 u H locs hw hP hD hS => ?_)
      obtain ⟨kb26, kw26, ks26, ka26, kq26, kc26, kr26, kt26, kd26, many26, tsz26, thr26⟩ := u
      have hP : va_P (dC, dI) cs_3 (wd_M h1 pB pW pS pA pQ pC pR pT pD cJ cI cZ cB kb26 kw26 ks26 ka26 kq26 kc26 kr26 kt26 kd26 many26 tsz26 thr26) H := hP.sub (ws' := (wd_M h1 pB pW pS pA pQ pC pR pT pD cJ cI cZ cB kb26 kw26 ks26 ka26 kq26 kc26 kr26 kt26 kd26 many26 tsz26 thr26)) [0, 1, 2, 3, 4, 5, 6, 7, 8, 9] rfl
      have hD : va_D A (wd_M h1 pB pW pS pA pQ pC pR pT pD cJ cI cZ cB kb26 kw26 ks26 ka26 kq26 kc26 kr26 kt26 kd26 many26 tsz26 thr26) := hD.sub (ws' := (wd_M h1 pB pW pS pA pQ pC pR pT pD cJ cI cZ cB kb26 kw26 ks26 ka26 kq26 kc26 kr26 kt26 kd26 many26 tsz26 thr26)) [0, 1, 2, 3, 4, 5, 6, 7, 8, 9] (by decide) rfl
      try dsimp only at hw
      refine lv_istore_n (lv' := [(2, .int r26), (0, .ref h1), (1, .int x1)]) hx hb dc_M_two_29 rfl hl (Nat.le_of_ble_eq_true rfl) rfl (fun ls hl => ?_)
      refine lv_aload_n hx hb dc_M_two_30 rfl (lv_at hl 1 rfl) ?_
      refine va_get (D := (dC, dI)) (ci := 2) (v := .ref pS) (C := "FourWordsModel") (T := tb_M) (N := 12) hx hb hts (hu _ um_M) hown hK hP 0 rfl rfl 2 (by decide) (hq mw_t462) (fun _ h9 => h9) rfl dc_M_two_31 ?_
      refine lv_aload_n hx hb dc_M_two_34 rfl (lv_at hl 1 rfl) ?_
      refine va_get (D := (dC, dI)) (ci := 2) (v := .int many26) (C := "FourWordsModel") (T := tb_M) (N := 12) hx hb hts (hu _ um_M) hown hK hP 0 rfl rfl 8 (by decide) (hq mw_t468) (fun _ h9 => h9) rfl dc_M_two_35 ?_
      refine lv_iconst (v := 1) hx hb dc_M_two_38 (by decide) ?_
      refine lv_isub hx hb dc_M_two_39 ?_
      obtain ⟨hin, hw⟩ := hw
      refine va_zald hx hb hK hP 3 2 rfl rfl hin dc_M_two_40 ?_
      obtain ⟨hw1, hw2⟩ := hw
      refine lv_if_eq (tgt := 62) hx hb dc_M_two_41 (by decide) (fun hc => ?_) (fun hc => ?_)
      · have hw := hw1 hc
        clear hw1 hw2
        exact B_62 _ _ _ x1 r26 kb26 kw26 ks26 ka26 kq26 kc26 kr26 kt26 kd26 many26 tsz26 thr26 hw hP hD hS (lv_sub hl [1, 2, 0] rfl)
      · have hw := hw2 hc
        clear hw1 hw2
        refine lv_aload_n hx hb dc_M_two_44 rfl (lv_at hl 1 rfl) ?_
        refine va_get (D := (dC, dI)) (ci := 2) (v := .ref pS) (C := "FourWordsModel") (T := tb_M) (N := 12) hx hb hts (hu _ um_M) hown hK hP 0 rfl rfl 2 (by decide) (hq mw_t462) (fun _ h9 => h9) rfl dc_M_two_45 ?_
        refine lv_aload_n hx hb dc_M_two_48 rfl (lv_at hl 1 rfl) ?_
        refine va_get (D := (dC, dI)) (ci := 2) (v := .int many26) (C := "FourWordsModel") (T := tb_M) (N := 12) hx hb hts (hu _ um_M) hown hK hP 0 rfl rfl 8 (by decide) (hq mw_t468) (fun _ h9 => h9) rfl dc_M_two_49 ?_
        refine lv_iconst (v := 2) hx hb dc_M_two_52 (by decide) ?_
        refine lv_isub hx hb dc_M_two_53 ?_
        obtain ⟨hin, hw⟩ := hw
        refine va_zald hx hb hK hP 3 2 rfl rfl hin dc_M_two_54 ?_
        obtain ⟨hw1, hw2⟩ := hw
        refine lv_if_eq (tgt := 62) hx hb dc_M_two_55 (by decide) (fun hc => ?_) (fun hc => ?_)
        · have hw := hw1 hc
          clear hw1 hw2
          exact B_62 _ _ _ x1 r26 kb26 kw26 ks26 ka26 kq26 kc26 kr26 kt26 kd26 many26 tsz26 thr26 hw hP hD hS (lv_sub hl [1, 2, 0] rfl)
        · have hw := hw2 hc
          clear hw1 hw2
          refine lv_iconst (v := 1) hx hb dc_M_two_58 (by decide) ?_
          refine lv_goto (tgt := 63) hx hb dc_M_two_59 (by decide) ?_
          exact B_63 _ _ _ x1 r26 (1 : Int32) kb26 kw26 ks26 ka26 kq26 kc26 kr26 kt26 kd26 many26 tsz26 thr26 hw hP hD hS (lv_sub hl [1, 2, 0] rfl)
    · have hw := hw2 hc
      clear hw1 hw2
      exact W.vret hx hb hr (fun t ht hW => ⟨⟨(kb18, kw18, ks18, ka18, kq18, kc18, kr18, kt18, kd18, many18, tsz18, thr18), rfl, hw, by rw [ht]; exact hP, va_K.moved hW.alike hK, hD⟩, hS.F ht⟩) hS.2.2 dc_M_two_24
  have B_11 : ∀ (H : Heap) (locs : List Loc) (ls : Array Slot) (x1 : Int32) (kb : (Nat → Int32)) (kw : (Nat → Int32)) (ks : (Nat → Int32)) (ka : (Nat → Int32)) (kq : (Nat → Int32)) (kc : (Nat → Int32)) (kr : (Nat → Int32)) (kt : (Nat → Int32)) (kd : (Nat → Int32)) (many : Int32) (tsz : Int32) (thr : Int32), wp_M_two_11 post x1 kb kw ks ka kq kc kr kt kd many tsz thr → va_P (dC, dI) cs_3 (wd_M h1 pB pW pS pA pQ pC pR pT pD cJ cI cZ cB kb kw ks ka kq kc kr kt kd many tsz thr) H → va_D A (wd_M h1 pB pW pS pA pQ pC pR pT pD cJ cI cZ cB kb kw ks ka kq kc kr kt kd many tsz thr) → va_S A s.heap H locs → lv_has ls 6 [(0, .ref h1), (1, .int x1)] → W p l e (headSpec ws_M_two rm_M_two).room s m ([.ref h1, .int a1] : List Value).toArray below meth c H locs 0 0 (MQ below (qv_M dC dI cJ cI cZ cB h1 pB pW pS pA pQ pC pR pT pD post A) ([.ref h1, .int a1] : List Value).toArray s 0 0 A) (F0 m 11 ls [.ref h1]) := by
    intro H locs ls x1 kb kw ks ka kq kc kr kt kd many tsz thr hw hP hD hS hl
    unfold wp_M_two_11 at hw
    refine lv_iconst (v := 1) hx hb dc_M_two_11 (by decide) ?_
    refine lv_goto (tgt := 16) hx hb dc_M_two_12 (by decide) ?_
    exact B_16 _ _ _ x1 (1 : Int32) kb kw ks ka kq kc kr kt kd many tsz thr hw hP hD hS (lv_sub hl [0, 1] rfl)
  unfold wp_M_two at hw
  refine lv_aload_n hx hb dc_M_two_0 rfl (lv_at hl 0 rfl) ?_
  refine lv_iload_n hx hb dc_M_two_1 rfl (lv_at hl 1 rfl) ?_
  obtain ⟨hw1, hw2⟩ := hw
  refine lv_if_lt (tgt := 11) hx hb dc_M_two_2 (by decide) (fun hc => ?_) (fun hc => ?_)
  · have hw := hw1 hc
    clear hw1 hw2
    exact B_11 _ _ _ a1 kb kw ks ka kq kc kr kt kd many tsz thr hw hP hD hS (lv_sub hl [0, 1] rfl)
  · have hw := hw2 hc
    clear hw1 hw2
    refine lv_iload_n hx hb dc_M_two_5 rfl (lv_at hl 1 rfl) ?_
    refine lv_bipush (v := 18) hx hb dc_M_two_6 (by decide) ?_
    obtain ⟨hw1, hw2⟩ := hw
    refine lv_icmp_le (tgt := 15) hx hb dc_M_two_8 (by decide) (fun hc => ?_) (fun hc => ?_)
    · have hw := hw1 hc
      clear hw1 hw2
      refine lv_iconst (v := 0) hx hb dc_M_two_15 (by decide) ?_
      exact B_16 _ _ _ a1 (0 : Int32) kb kw ks ka kq kc kr kt kd many tsz thr hw hP hD hS (lv_sub hl [0, 1] rfl)
    · have hw := hw2 hc
      clear hw1 hw2
      exact B_11 _ _ _ a1 kb kw ks ka kq kc kr kt kd many tsz thr hw hP hD hS (lv_sub hl [0, 1] rfl)

set_option maxHeartbeats 4000000 in
set_option maxRecDepth 100000 in
theorem kt_M_part (l : Launch) (dC : Nat → ClassId) (dI : Nat → Nat → Nat) (cJ cI cZ cB : ClassId) (h1 pB pW pS pA pQ pC pR pT pD : Nat) (sz : Nat) (a1 : Int32) (a2 : Int32) (kb : (Nat → Int32)) (kw : (Nat → Int32)) (ks : (Nat → Int32)) (ka : (Nat → Int32)) (kq : (Nat → Int32)) (kc : (Nat → Int32)) (kr : (Nat → Int32)) (kt : (Nat → Int32)) (kd : (Nat → Int32)) (many : Int32) (tsz : Int32) (thr : Int32) (post : (Nat → Int32) → (Nat → Int32) → (Nat → Int32) → (Nat → Int32) → (Nat → Int32) → (Nat → Int32) → (Nat → Int32) → (Nat → Int32) → (Nat → Int32) → Int32 → Int32 → Int32 → Prop) (hw : wp_M_part post a1 a2 kb kw ks ka kq kc kr kt kd many tsz thr) : Met l yn_M_part ws_M_part rm_M_part (va_Pc [.ref h1, .int a1, .int a2] (pc_W (dC, dI) (ty_4 cJ cI cZ cB) (wd_M h1 pB pW pS pA pQ pC pR pT pD cJ cI cZ cB kb kw ks ka kq kc kr kt kd many tsz thr) sz)) (qv_M dC dI cJ cI cZ cB h1 pB pW pS pA pQ pC pR pT pD post (va_A (wd_M h1 pB pW pS pA pQ pC pR pT pD cJ cI cZ cB kb kw ks ka kq kc kr kt kd many tsz thr) sz)) 0 0 (va_A (wd_M h1 pB pW pS pA pQ pC pR pT pD cJ cI cZ cB kb kw ks ka kq kc kr kt kd many tsz thr) sz) := by
  refine Met.ofW (cc := cd_M_part) (maxL := 5) (ret := none) (by decide) rfl ?_
  intro p e s m args below meth c s₁ B hml hv
  obtain ⟨rfl, hsz, hP, hK, hD0, hE⟩ := hv
  have hx := B.exec
  have hb := B.bytes
  have hr := B.returns
  have hts := atoms_spec (ws := ws_M_part) B.pre
  have hq : ∀ {w : Cond}, w ∈ wg_all → w.before ([.ref h1, .int a1, .int a2] : List Value).toArray s = true := fun h => hts _ (List.mem_cons_of_mem _ h)
  have hu : ∀ L : List Cond, (∀ w ∈ L, w ∈ wg_all) → ∀ w ∈ L, w ∈ ws_M_part := fun L h w hw => List.mem_cons_of_mem _ (h w hw)
  have hown : s.vm.findClass "FourWordsModel" = some m.cls := findClass_of_methodNamed B.named
  have hlocks := B.notSynchronized
  subst hsz
  have hD := hD0.self (sz := s.heap.size)
  generalize hAe : va_A (wd_M h1 pB pW pS pA pQ pC pR pT pD cJ cI cZ cB kb kw ks ka kq kc kr kt kd many tsz thr) s.heap.size = A at hD ⊢
  have hA : ∀ q : Nat, s.heap.size ≤ q → A q := fun q h => by rw [← hAe]; exact Or.inr h
  have hS : va_S A s.heap s.heap [] := va_S.rf
  have hl := lv_entry [.ref h1, .int a1, .int a2] (n := 5) (Nat.le_of_ble_eq_true rfl)
  rw [lg_entry_eq]
  generalize (lg_sl [.ref h1, .int a1, .int a2] ++ List.replicate (5 - (lg_sl [.ref h1, .int a1, .int a2]).length) Slot.unset).toArray = ls at hl ⊢
  have hl : lv_has ls 5 [(0, .ref h1), (1, .int a1), (2, .int a2)] := hl
  have B_50 : ∀ (n50 : Nat) (H : Heap) (locs : List Loc) (ls : Array Slot) (x1 : Int32) (x2 : Int32) (x3 : Int32) (x4 : Int32) (kb : (Nat → Int32)) (kw : (Nat → Int32)) (ks : (Nat → Int32)) (ka : (Nat → Int32)) (kq : (Nat → Int32)) (kc : (Nat → Int32)) (kr : (Nat → Int32)) (kt : (Nat → Int32)) (kd : (Nat → Int32)) (many : Int32) (tsz : Int32) (thr : Int32), wp_M_part_50 post n50 x1 x2 x3 x4 kb kw ks ka kq kc kr kt kd many tsz thr → va_P (dC, dI) cs_3 (wd_M h1 pB pW pS pA pQ pC pR pT pD cJ cI cZ cB kb kw ks ka kq kc kr kt kd many tsz thr) H → va_D A (wd_M h1 pB pW pS pA pQ pC pR pT pD cJ cI cZ cB kb kw ks ka kq kc kr kt kd many tsz thr) → va_S A s.heap H locs → lv_has ls 5 [(0, .ref h1), (1, .int x1), (2, .int x2), (3, .int x3), (4, .int x4)] → W p l e (headSpec ws_M_part rm_M_part).room s m ([.ref h1, .int a1, .int a2] : List Value).toArray below meth c H locs 0 0 (MQ below (qv_M dC dI cJ cI cZ cB h1 pB pW pS pA pQ pC pR pT pD post A) ([.ref h1, .int a1, .int a2] : List Value).toArray s 0 0 A) (F0 m 50 ls []) := by
    intro n50
    induction n50 with
    | zero => intro H locs ls x1 x2 x3 x4 kb kw ks ka kq kc kr kt kd many tsz thr hw; exact False.elim hw
    | succ n50 ih =>
      intro H locs ls x1 x2 x3 x4 kb kw ks ka kq kc kr kt kd many tsz thr hw hP hD hS hl
      unfold wp_M_part_50 at hw
      refine lv_iload hx hb dc_M_part_50 (lv_at hl 4 rfl) ?_
      refine lv_iload_n hx hb dc_M_part_52 rfl (lv_at hl 1 rfl) ?_
      obtain ⟨hw1, hw2⟩ := hw
      refine lv_icmp_gt (tgt := 83) hx hb dc_M_part_53 (by decide) (fun hc => ?_) (fun hc => ?_)
      · have hw := hw1 hc
        clear hw1 hw2
        refine lv_aload_n hx hb dc_M_part_83 rfl (lv_at hl 0 rfl) ?_
        refine lv_dup hx hb dc_M_part_84 rfl ?_
        refine va_get (D := (dC, dI)) (ci := 2) (v := .int many) (C := "FourWordsModel") (T := tb_M) (N := 12) hx hb hts (hu _ um_M) hown hK hP 0 rfl rfl 8 (by decide) (hq mw_t468) (fun _ h9 => h9) rfl dc_M_part_85 ?_
        refine lv_iconst (v := 1) hx hb dc_M_part_88 (by decide) ?_
        refine lv_isub hx hb dc_M_part_89 ?_
        refine va_put (D := (dC, dI)) (ci := 2) (v := .int (many - (1 : Int32))) (ty := .int) (C := "FourWordsModel") (T := tb_M) (N := 12) hx hb hts (hu _ um_M) ft_M fk_M fn_M hown hK hP hD hS 0 rfl rfl 8 (by decide) (hq mw_t468) (fun _ h9 => h9) rfl (by decide +kernel) rfl rfl (Nat.le_of_ble_eq_true rfl) dc_M_part_90 (fun H locs hP hD hS => ?_)
        have hP : va_P (dC, dI) cs_3 (wd_M h1 pB pW pS pA pQ pC pR pT pD cJ cI cZ cB kb kw ks ka kq kc kr kt kd (many - (1 : Int32)) tsz thr) H := hP
        have hD : va_D A (wd_M h1 pB pW pS pA pQ pC pR pT pD cJ cI cZ cB kb kw ks ka kq kc kr kt kd (many - (1 : Int32)) tsz thr) := hD
        refine lv_aload_n hx hb dc_M_part_93 rfl (lv_at hl 0 rfl) ?_
        refine lv_aload_n hx hb dc_M_part_94 rfl (lv_at hl 0 rfl) ?_
        refine va_get (D := (dC, dI)) (ci := 2) (v := .ref pC) (C := "FourWordsModel") (T := tb_M) (N := 12) hx hb hts (hu _ um_M) hown hK hP 0 rfl rfl 5 (by decide) (hq mw_t465) (fun _ h9 => h9) rfl dc_M_part_95 ?_
        refine lv_iload_n hx hb dc_M_part_98 rfl (lv_at hl 1 rfl) ?_
        refine lv_iload_n hx hb dc_M_part_99 rfl (lv_at hl 2 rfl) ?_
        refine lv_isub hx hb dc_M_part_100 ?_
        refine lv_iconst (v := 1) hx hb dc_M_part_101 (by decide) ?_
        refine lv_iadd hx hb dc_M_part_102 ?_
        refine lv_iconst (v := 0) hx hb dc_M_part_103 (by decide) ?_
        refine gc_v (S := (Nat → Int32) × (Nat → Int32) × (Nat → Int32) × (Nat → Int32) × (Nat → Int32) × (Nat → Int32) × (Nat → Int32) × (Nat → Int32) × (Nat → Int32) × Int32 × Int32 × Int32) (w1 := (fun u => (wd_M h1 pB pW pS pA pQ pC pR pT pD cJ cI cZ cB u.1 u.2.1 u.2.2.1 u.2.2.2.1 u.2.2.2.2.1 u.2.2.2.2.2.1 u.2.2.2.2.2.2.1 u.2.2.2.2.2.2.2.1 u.2.2.2.2.2.2.2.2.1 u.2.2.2.2.2.2.2.2.2.1 u.2.2.2.2.2.2.2.2.2.2.1 u.2.2.2.2.2.2.2.2.2.2.2))) (wc := (wd_M h1 pB pW pS pA pQ pC pR pT pD cJ cI cZ cB kb kw ks ka kq kc kr kt kd (many - (1 : Int32)) tsz thr)) (wr := ([] : va_W)) (va_runV (As := [.ref pC, .int ((x1 - x2) + (1 : Int32)), .int (0 : Int32)]) (rest := []) ⟨hx, hb, hml, hown, hts⟩ (kt_M_give_c l dC dI cJ cI cZ cB h1 pB pW pS pA pQ pC pR pT pD _ ((x1 - x2) + (1 : Int32)) (0 : Int32) kb kw ks ka kq kc kr kt kd (many - (1 : Int32)) tsz thr _ hw) ⟨callB_of 3 hts (gw_in mw_t513) rfl rfl rfl (hq mw_t3) (hq mw_t510) (by decide +kernel) ⟨Nat.le_of_ble_eq_true rfl, Nat.le_of_ble_eq_true rfl⟩, hq mw_t512, hq mw_s35⟩ (pv_W (va_recv (q0 := 0) (ci := 2) hK hP rfl rfl) (hP.sub (ws' := (wd_M h1 pB pW pS pA pQ pC pR pT pD cJ cI cZ cB kb kw ks ka kq kc kr kt kd (many - (1 : Int32)) tsz thr)) [0, 1, 2, 3, 4, 5, 6, 7, 8, 9] rfl) hK (hD.sub (ws' := (wd_M h1 pB pW pS pA pQ pC pR pT pD cJ cI cZ cB kb kw ks ka kq kc kr kt kd (many - (1 : Int32)) tsz thr)) [0, 1, 2, 3, 4, 5, 6, 7, 8, 9] (by decide) rfl) hE) rfl rfl hl.1 rfl (lv_room (Nat.le_of_ble_eq_true rfl)) dc_M_part_104 ⟨Nat.le_of_ble_eq_true rfl, Nat.le_of_ble_eq_true rfl⟩) hP hD hS hA [0, 1, 2, 3, 4, 5, 6, 7, 8, 9] [] rfl rfl (by decide) (by decide) (fun u H locs hw hP hD hS => ?_)
        obtain ⟨kb104, kw104, ks104, ka104, kq104, kc104, kr104, kt104, kd104, many104, tsz104, thr104⟩ := u
        have hP : va_P (dC, dI) cs_3 (wd_M h1 pB pW pS pA pQ pC pR pT pD cJ cI cZ cB kb104 kw104 ks104 ka104 kq104 kc104 kr104 kt104 kd104 many104 tsz104 thr104) H := hP.sub (ws' := (wd_M h1 pB pW pS pA pQ pC pR pT pD cJ cI cZ cB kb104 kw104 ks104 ka104 kq104 kc104 kr104 kt104 kd104 many104 tsz104 thr104)) [0, 1, 2, 3, 4, 5, 6, 7, 8, 9] rfl
        have hD : va_D A (wd_M h1 pB pW pS pA pQ pC pR pT pD cJ cI cZ cB kb104 kw104 ks104 ka104 kq104 kc104 kr104 kt104 kd104 many104 tsz104 thr104) := hD.sub (ws' := (wd_M h1 pB pW pS pA pQ pC pR pT pD cJ cI cZ cB kb104 kw104 ks104 ka104 kq104 kc104 kr104 kt104 kd104 many104 tsz104 thr104)) [0, 1, 2, 3, 4, 5, 6, 7, 8, 9] (by decide) rfl
        try dsimp only at hw
        exact W.vret hx hb hr (fun t ht hW => ⟨⟨(kb104, kw104, ks104, ka104, kq104, kc104, kr104, kt104, kd104, many104, tsz104, thr104), rfl, hw, by rw [ht]; exact hP, va_K.moved hW.alike hK, hD⟩, hS.F ht⟩) hS.2.2 dc_M_part_107
      · have hw := hw2 hc
        clear hw1 hw2
        refine lv_aload_n hx hb dc_M_part_56 rfl (lv_at hl 0 rfl) ?_
        refine va_get (D := (dC, dI)) (ci := 2) (v := .ref pC) (C := "FourWordsModel") (T := tb_M) (N := 12) hx hb hts (hu _ um_M) hown hK hP 0 rfl rfl 5 (by decide) (hq mw_t465) (fun _ h9 => h9) rfl dc_M_part_57 ?_
        refine lv_iload hx hb dc_M_part_60 (lv_at hl 4 rfl) ?_
        refine lv_iload_n hx hb dc_M_part_62 rfl (lv_at hl 2 rfl) ?_
        refine lv_isub hx hb dc_M_part_63 ?_
        refine lv_aload_n hx hb dc_M_part_64 rfl (lv_at hl 0 rfl) ?_
        refine va_get (D := (dC, dI)) (ci := 2) (v := .ref pB) (C := "FourWordsModel") (T := tb_M) (N := 12) hx hb hts (hu _ um_M) hown hK hP 0 rfl rfl 0 (by decide) (hq mw_t460) (fun _ h9 => h9) rfl dc_M_part_65 ?_
        refine lv_bipush (v := 64) hx hb dc_M_part_68 (by decide) ?_
        refine lv_iload_n hx hb dc_M_part_70 rfl (lv_at hl 3 rfl) ?_
        refine lv_imul hx hb dc_M_part_71 ?_
        refine lv_iload hx hb dc_M_part_72 (lv_at hl 4 rfl) ?_
        refine lv_iadd hx hb dc_M_part_74 ?_
        obtain ⟨hin, hw⟩ := hw
        refine va_bald hx hb hK hP 1 3 rfl rfl hin dc_M_part_75 ?_
        obtain ⟨hin, hw⟩ := hw
        refine va_bast hx hb hK hP hD hS 6 3 rfl rfl hin dc_M_part_76 (fun H locs hP hD hS => ?_)
        have hP : va_P (dC, dI) cs_3 (wd_M h1 pB pW pS pA pQ pC pR pT pD cJ cI cZ cB kb kw ks ka kq (upd kc (x4 - x2).toNatClampNeg (vp_nar .byte (kb (((64 : Int32) * x3) + x4).toNatClampNeg))) kr kt kd many tsz thr) H := hP
        have hD : va_D A (wd_M h1 pB pW pS pA pQ pC pR pT pD cJ cI cZ cB kb kw ks ka kq (upd kc (x4 - x2).toNatClampNeg (vp_nar .byte (kb (((64 : Int32) * x3) + x4).toNatClampNeg))) kr kt kd many tsz thr) := hD
        refine lv_iinc (lv' := [(4, .int (x4 + 1)), (0, .ref h1), (1, .int x1), (2, .int x2), (3, .int x3)]) hx hb dc_M_part_77 hl (k := 4) rfl (ic_p1 _) (Nat.le_of_ble_eq_true rfl) rfl (fun ls hl => ?_)
        refine lv_goto (tgt := 50) hx hb dc_M_part_80 (by decide) ?_
        exact ih _ _ _ x1 x2 x3 (x4 + 1) kb kw ks ka kq (upd kc (x4 - x2).toNatClampNeg (vp_nar .byte (kb (((64 : Int32) * x3) + x4).toNatClampNeg))) kr kt kd many tsz thr hw hP hD hS (lv_sub hl [1, 2, 3, 4, 0] rfl)
  have B_15 : ∀ (H : Heap) (locs : List Loc) (ls : Array Slot) (x1 : Int32) (x2 : Int32) (t0 : Int32) (kb : (Nat → Int32)) (kw : (Nat → Int32)) (ks : (Nat → Int32)) (ka : (Nat → Int32)) (kq : (Nat → Int32)) (kc : (Nat → Int32)) (kr : (Nat → Int32)) (kt : (Nat → Int32)) (kd : (Nat → Int32)) (many : Int32) (tsz : Int32) (thr : Int32), wp_M_part_15 post x1 x2 t0 kb kw ks ka kq kc kr kt kd many tsz thr → va_P (dC, dI) cs_3 (wd_M h1 pB pW pS pA pQ pC pR pT pD cJ cI cZ cB kb kw ks ka kq kc kr kt kd many tsz thr) H → va_D A (wd_M h1 pB pW pS pA pQ pC pR pT pD cJ cI cZ cB kb kw ks ka kq kc kr kt kd many tsz thr) → va_S A s.heap H locs → lv_has ls 5 [(0, .ref h1), (1, .int x1), (2, .int x2)] → W p l e (headSpec ws_M_part rm_M_part).room s m ([.ref h1, .int a1, .int a2] : List Value).toArray below meth c H locs 0 0 (MQ below (qv_M dC dI cJ cI cZ cB h1 pB pW pS pA pQ pC pR pT pD post A) ([.ref h1, .int a1, .int a2] : List Value).toArray s 0 0 A) (F0 m 15 ls [.int t0, .ref h1]) := by
    intro H locs ls x1 x2 t0 kb kw ks ka kq kc kr kt kd many tsz thr hw hP hD hS hl
    unfold wp_M_part_15 at hw
    refine lv_iconst (v := 1) hx hb dc_M_part_15 (by decide) ?_
    refine lv_iconst (v := 1) hx hb dc_M_part_16 (by decide) ?_
    refine gc_i (S := (Nat → Int32) × (Nat → Int32) × (Nat → Int32) × (Nat → Int32) × (Nat → Int32) × (Nat → Int32) × (Nat → Int32) × (Nat → Int32) × (Nat → Int32) × Int32 × Int32 × Int32) (w1 := (fun u => (wd_M h1 pB pW pS pA pQ pC pR pT pD cJ cI cZ cB u.1 u.2.1 u.2.2.1 u.2.2.2.1 u.2.2.2.2.1 u.2.2.2.2.2.1 u.2.2.2.2.2.2.1 u.2.2.2.2.2.2.2.1 u.2.2.2.2.2.2.2.2.1 u.2.2.2.2.2.2.2.2.2.1 u.2.2.2.2.2.2.2.2.2.2.1 u.2.2.2.2.2.2.2.2.2.2.2))) (wc := (wd_M h1 pB pW pS pA pQ pC pR pT pD cJ cI cZ cB kb kw ks ka kq kc kr kt kd many tsz thr)) (wr := ([] : va_W)) (va_runV (As := [.int t0, .int (1 : Int32), .int (1 : Int32)]) (rest := []) ⟨hx, hb, hml, hown, hts⟩ (kt_M_refuse l dC dI cJ cI cZ cB h1 pB pW pS pA pQ pC pR pT pD _ t0 (1 : Int32) (1 : Int32) kb kw ks ka kq kc kr kt kd many tsz thr _ hw) ⟨callB_of 3 hts (gw_in mw_t508) rfl rfl rfl (hq mw_t3) (hq mw_t505) (by decide +kernel) ⟨Nat.le_of_ble_eq_true rfl, Nat.le_of_ble_eq_true rfl⟩, hq mw_t507, hq mw_s34⟩ (pv_W (va_recv (q0 := 0) (ci := 2) hK hP rfl rfl) (hP.sub (ws' := (wd_M h1 pB pW pS pA pQ pC pR pT pD cJ cI cZ cB kb kw ks ka kq kc kr kt kd many tsz thr)) [0, 1, 2, 3, 4, 5, 6, 7, 8, 9] rfl) hK (hD.sub (ws' := (wd_M h1 pB pW pS pA pQ pC pR pT pD cJ cI cZ cB kb kw ks ka kq kc kr kt kd many tsz thr)) [0, 1, 2, 3, 4, 5, 6, 7, 8, 9] (by decide) rfl) hE) rfl rfl hl.1 rfl (lv_room (Nat.le_of_ble_eq_true rfl)) dc_M_part_17 ⟨Nat.le_of_ble_eq_true rfl, Nat.le_of_ble_eq_true rfl⟩) hP hD hS hA [0, 1, 2, 3, 4, 5, 6, 7, 8, 9] [] rfl rfl (by decide) (by decide) (fun r17 u H locs hw hP hD hS => ?_)
    obtain ⟨kb17, kw17, ks17, ka17, kq17, kc17, kr17, kt17, kd17, many17, tsz17, thr17⟩ := u
    have hP : va_P (dC, dI) cs_3 (wd_M h1 pB pW pS pA pQ pC pR pT pD cJ cI cZ cB kb17 kw17 ks17 ka17 kq17 kc17 kr17 kt17 kd17 many17 tsz17 thr17) H := hP.sub (ws' := (wd_M h1 pB pW pS pA pQ pC pR pT pD cJ cI cZ cB kb17 kw17 ks17 ka17 kq17 kc17 kr17 kt17 kd17 many17 tsz17 thr17)) [0, 1, 2, 3, 4, 5, 6, 7, 8, 9] rfl
    have hD : va_D A (wd_M h1 pB pW pS pA pQ pC pR pT pD cJ cI cZ cB kb17 kw17 ks17 ka17 kq17 kc17 kr17 kt17 kd17 many17 tsz17 thr17) := hD.sub (ws' := (wd_M h1 pB pW pS pA pQ pC pR pT pD cJ cI cZ cB kb17 kw17 ks17 ka17 kq17 kc17 kr17 kt17 kd17 many17 tsz17 thr17)) [0, 1, 2, 3, 4, 5, 6, 7, 8, 9] (by decide) rfl
    try dsimp only at hw
    obtain ⟨hw1, hw2⟩ := hw
    refine lv_if_eq (tgt := 24) hx hb dc_M_part_20 (by decide) (fun hc => ?_) (fun hc => ?_)
    · have hw := hw1 hc
      clear hw1 hw2
      refine lv_aload_n hx hb dc_M_part_24 rfl (lv_at hl 0 rfl) ?_
      refine va_get (D := (dC, dI)) (ci := 2) (v := .int many17) (C := "FourWordsModel") (T := tb_M) (N := 12) hx hb hts (hu _ um_M) hown hK hP 0 rfl rfl 8 (by decide) (hq mw_t468) (fun _ h9 => h9) rfl dc_M_part_25 ?_
      refine lv_iconst (v := 1) hx hb dc_M_part_28 (by decide) ?_
      refine lv_isub hx hb dc_M_part_29 ?_
      refine lv_topi (fun v30 e30 => ?_)
      have hw := hw v30 e30
      refine lv_istore_n (lv' := [(3, .int v30), (0, .ref h1), (1, .int x1), (2, .int x2)]) hx hb dc_M_part_30 rfl hl (Nat.le_of_ble_eq_true rfl) rfl (fun ls hl => ?_)
      refine lv_iload_n hx hb dc_M_part_31 rfl (lv_at hl 2 rfl) ?_
      refine lv_aload_n hx hb dc_M_part_32 rfl (lv_at hl 1 rfl) ?_
      refine va_get (D := (dC, dI)) (ci := 2) (v := .ref pW) (C := "FourWordsModel") (T := tb_M) (N := 12) hx hb hts (hu _ um_M) hown hK hP 0 rfl rfl 1 (by decide) (hq mw_t461) (fun _ h9 => h9) rfl dc_M_part_33 ?_
      refine lv_iload_n hx hb dc_M_part_36 rfl (lv_at hl 0 rfl) ?_
      obtain ⟨hin, hw⟩ := hw
      refine va_iald hx hb hK hP 2 1 rfl rfl hin dc_M_part_37 ?_
      obtain ⟨hw1, hw2⟩ := hw
      refine lv_icmp_lt (tgt := 47) hx hb dc_M_part_38 (by decide) (fun hc => ?_) (fun hc => ?_)
      · have hw := hw1 hc
        clear hw1 hw2
        refine lv_iload_n hx hb dc_M_part_47 rfl (lv_at hl 3 rfl) ?_
        refine lv_istore (lv' := [(4, .int x2), (3, .int v30), (0, .ref h1), (1, .int x1), (2, .int x2)]) hx hb dc_M_part_48 hl (Nat.le_of_ble_eq_true rfl) rfl (fun ls hl => ?_)
        obtain ⟨n50, hw⟩ := hw
        exact B_50 n50 _ _ _ x1 x2 v30 x2 kb17 kw17 ks17 ka17 kq17 kc17 kr17 kt17 kd17 many17 tsz17 thr17 hw hP hD hS (lv_sub hl [2, 3, 4, 1, 0] rfl)
      · have hw := hw2 hc
        clear hw1 hw2
        refine lv_aload_n hx hb dc_M_part_41 rfl (lv_at hl 1 rfl) ?_
        refine lv_iconst (v := 1) hx hb dc_M_part_42 (by decide) ?_
        refine va_put (D := (dC, dI)) (ci := 2) (v := .int (1 : Int32)) (ty := .int) (C := "FourWordsModel") (T := tb_M) (N := 12) hx hb hts (hu _ um_M) ft_M fk_M fn_M hown hK hP hD hS 0 rfl rfl 10 (by decide) (hq mw_t470) (fun _ h9 => h9) rfl (by decide +kernel) rfl rfl (Nat.le_of_ble_eq_true rfl) dc_M_part_43 (fun H locs hP hD hS => ?_)
        have hP : va_P (dC, dI) cs_3 (wd_M h1 pB pW pS pA pQ pC pR pT pD cJ cI cZ cB kb17 kw17 ks17 ka17 kq17 kc17 kr17 kt17 kd17 many17 tsz17 (1 : Int32)) H := hP
        have hD : va_D A (wd_M h1 pB pW pS pA pQ pC pR pT pD cJ cI cZ cB kb17 kw17 ks17 ka17 kq17 kc17 kr17 kt17 kd17 many17 tsz17 (1 : Int32)) := hD
        exact W.vret hx hb hr (fun t ht hW => ⟨⟨(kb17, kw17, ks17, ka17, kq17, kc17, kr17, kt17, kd17, many17, tsz17, (1 : Int32)), rfl, hw, by rw [ht]; exact hP, va_K.moved hW.alike hK, hD⟩, hS.F ht⟩) hS.2.2 dc_M_part_46
    · have hw := hw2 hc
      clear hw1 hw2
      exact W.vret hx hb hr (fun t ht hW => ⟨⟨(kb17, kw17, ks17, ka17, kq17, kc17, kr17, kt17, kd17, many17, tsz17, thr17), rfl, hw, by rw [ht]; exact hP, va_K.moved hW.alike hK, hD⟩, hS.F ht⟩) hS.2.2 dc_M_part_23
  have B_10 : ∀ (H : Heap) (locs : List Loc) (ls : Array Slot) (x1 : Int32) (x2 : Int32) (kb : (Nat → Int32)) (kw : (Nat → Int32)) (ks : (Nat → Int32)) (ka : (Nat → Int32)) (kq : (Nat → Int32)) (kc : (Nat → Int32)) (kr : (Nat → Int32)) (kt : (Nat → Int32)) (kd : (Nat → Int32)) (many : Int32) (tsz : Int32) (thr : Int32), wp_M_part_10 post x1 x2 kb kw ks ka kq kc kr kt kd many tsz thr → va_P (dC, dI) cs_3 (wd_M h1 pB pW pS pA pQ pC pR pT pD cJ cI cZ cB kb kw ks ka kq kc kr kt kd many tsz thr) H → va_D A (wd_M h1 pB pW pS pA pQ pC pR pT pD cJ cI cZ cB kb kw ks ka kq kc kr kt kd many tsz thr) → va_S A s.heap H locs → lv_has ls 5 [(0, .ref h1), (1, .int x1), (2, .int x2)] → W p l e (headSpec ws_M_part rm_M_part).room s m ([.ref h1, .int a1, .int a2] : List Value).toArray below meth c H locs 0 0 (MQ below (qv_M dC dI cJ cI cZ cB h1 pB pW pS pA pQ pC pR pT pD post A) ([.ref h1, .int a1, .int a2] : List Value).toArray s 0 0 A) (F0 m 10 ls [.ref h1]) := by
    intro H locs ls x1 x2 kb kw ks ka kq kc kr kt kd many tsz thr hw hP hD hS hl
    unfold wp_M_part_10 at hw
    refine lv_iconst (v := 1) hx hb dc_M_part_10 (by decide) ?_
    refine lv_goto (tgt := 15) hx hb dc_M_part_11 (by decide) ?_
    exact B_15 _ _ _ x1 x2 (1 : Int32) kb kw ks ka kq kc kr kt kd many tsz thr hw hP hD hS (lv_sub hl [0, 1, 2] rfl)
  unfold wp_M_part at hw
  refine lv_aload_n hx hb dc_M_part_0 rfl (lv_at hl 0 rfl) ?_
  refine lv_iload_n hx hb dc_M_part_1 rfl (lv_at hl 2 rfl) ?_
  obtain ⟨hw1, hw2⟩ := hw
  refine lv_if_lt (tgt := 10) hx hb dc_M_part_2 (by decide) (fun hc => ?_) (fun hc => ?_)
  · have hw := hw1 hc
    clear hw1 hw2
    exact B_10 _ _ _ a1 a2 kb kw ks ka kq kc kr kt kd many tsz thr hw hP hD hS (lv_sub hl [0, 1, 2] rfl)
  · have hw := hw2 hc
    clear hw1 hw2
    refine lv_iload_n hx hb dc_M_part_5 rfl (lv_at hl 1 rfl) ?_
    refine lv_iload_n hx hb dc_M_part_6 rfl (lv_at hl 2 rfl) ?_
    obtain ⟨hw1, hw2⟩ := hw
    refine lv_icmp_ge (tgt := 14) hx hb dc_M_part_7 (by decide) (fun hc => ?_) (fun hc => ?_)
    · have hw := hw1 hc
      clear hw1 hw2
      refine lv_iconst (v := 0) hx hb dc_M_part_14 (by decide) ?_
      exact B_15 _ _ _ a1 a2 (0 : Int32) kb kw ks ka kq kc kr kt kd many tsz thr hw hP hD hS (lv_sub hl [0, 1, 2] rfl)
    · have hw := hw2 hc
      clear hw1 hw2
      exact B_10 _ _ _ a1 a2 kb kw ks ka kq kc kr kt kd many tsz thr hw hP hD hS (lv_sub hl [0, 1, 2] rfl)
set_option maxHeartbeats 4000000 in
set_option maxRecDepth 100000 in
theorem kt_M_bit (l : Launch) (dC : Nat → ClassId) (dI : Nat → Nat → Nat) (cJ cI cZ cB : ClassId) (h1 pB pW pS pA pQ pC pR pT pD : Nat) (sz : Nat) (kb : (Nat → Int32)) (kw : (Nat → Int32)) (ks : (Nat → Int32)) (ka : (Nat → Int32)) (kq : (Nat → Int32)) (kc : (Nat → Int32)) (kr : (Nat → Int32)) (kt : (Nat → Int32)) (kd : (Nat → Int32)) (many : Int32) (tsz : Int32) (thr : Int32) (post : (Nat → Int32) → (Nat → Int32) → (Nat → Int32) → (Nat → Int32) → (Nat → Int32) → (Nat → Int32) → (Nat → Int32) → (Nat → Int32) → (Nat → Int32) → Int32 → Int32 → Int32 → Prop) (hw : wp_M_bit post kb kw ks ka kq kc kr kt kd many tsz thr) : Met l yn_M_bit ws_M_bit rm_M_bit (va_Pc [.ref h1] (pc_W (dC, dI) (ty_4 cJ cI cZ cB) (wd_M h1 pB pW pS pA pQ pC pR pT pD cJ cI cZ cB kb kw ks ka kq kc kr kt kd many tsz thr) sz)) (qv_M dC dI cJ cI cZ cB h1 pB pW pS pA pQ pC pR pT pD post (va_A (wd_M h1 pB pW pS pA pQ pC pR pT pD cJ cI cZ cB kb kw ks ka kq kc kr kt kd many tsz thr) sz)) 0 0 (va_A (wd_M h1 pB pW pS pA pQ pC pR pT pD cJ cI cZ cB kb kw ks ka kq kc kr kt kd many tsz thr) sz) := by
  refine Met.ofW (cc := cd_M_bit) (maxL := 5) (ret := none) (by decide) rfl ?_
  intro p e s m args below meth c s₁ B hml hv
  obtain ⟨rfl, hsz, hP, hK, hD0, hE⟩ := hv
  have hx := B.exec
  have hb := B.bytes
  have hr := B.returns
  have hts := atoms_spec (ws := ws_M_bit) B.pre
  have hq : ∀ {w : Cond}, w ∈ wg_all → w.before ([.ref h1] : List Value).toArray s = true := fun h => hts _ (List.mem_cons_of_mem _ h)
  have hu : ∀ L : List Cond, (∀ w ∈ L, w ∈ wg_all) → ∀ w ∈ L, w ∈ ws_M_bit := fun L h w hw => List.mem_cons_of_mem _ (h w hw)
  have hown : s.vm.findClass "FourWordsModel" = some m.cls := findClass_of_methodNamed B.named
  have hlocks := B.notSynchronized
  subst hsz
  have hD := hD0.self (sz := s.heap.size)
  generalize hAe : va_A (wd_M h1 pB pW pS pA pQ pC pR pT pD cJ cI cZ cB kb kw ks ka kq kc kr kt kd many tsz thr) s.heap.size = A at hD ⊢
  have hA : ∀ q : Nat, s.heap.size ≤ q → A q := fun q h => by rw [← hAe]; exact Or.inr h
  have hS : va_S A s.heap s.heap [] := va_S.rf
  have hl := lv_entry [.ref h1] (n := 5) (Nat.le_of_ble_eq_true rfl)
  rw [lg_entry_eq]
  generalize (lg_sl [.ref h1] ++ List.replicate (5 - (lg_sl [.ref h1]).length) Slot.unset).toArray = ls at hl ⊢
  have hl : lv_has ls 5 [(0, .ref h1)] := hl
  have B_126 : ∀ (H : Heap) (locs : List Loc) (ls : Array Slot) (t0 : Int32) (t1 : Int32) (kb : (Nat → Int32)) (kw : (Nat → Int32)) (ks : (Nat → Int32)) (ka : (Nat → Int32)) (kq : (Nat → Int32)) (kc : (Nat → Int32)) (kr : (Nat → Int32)) (kt : (Nat → Int32)) (kd : (Nat → Int32)) (many : Int32) (tsz : Int32) (thr : Int32), wp_M_bit_126 post t0 t1 kb kw ks ka kq kc kr kt kd many tsz thr → va_P (dC, dI) cs_3 (wd_M h1 pB pW pS pA pQ pC pR pT pD cJ cI cZ cB kb kw ks ka kq kc kr kt kd many tsz thr) H → va_D A (wd_M h1 pB pW pS pA pQ pC pR pT pD cJ cI cZ cB kb kw ks ka kq kc kr kt kd many tsz thr) → va_S A s.heap H locs → lv_has ls 5 [(0, .ref h1)] → W p l e (headSpec ws_M_bit rm_M_bit).room s m ([.ref h1] : List Value).toArray below meth c H locs 0 0 (MQ below (qv_M dC dI cJ cI cZ cB h1 pB pW pS pA pQ pC pR pT pD post A) ([.ref h1] : List Value).toArray s 0 0 A) (F0 m 126 ls [.int t0, .int t1, .ref pC]) := by
    intro H locs ls t0 t1 kb kw ks ka kq kc kr kt kd many tsz thr hw hP hD hS hl
    unfold wp_M_bit_126 at hw
    obtain ⟨hin, hw⟩ := hw
    refine va_bast hx hb hK hP hD hS 6 3 rfl rfl hin dc_M_bit_126 (fun H locs hP hD hS => ?_)
    have hP : va_P (dC, dI) cs_3 (wd_M h1 pB pW pS pA pQ pC pR pT pD cJ cI cZ cB kb kw ks ka kq (upd kc t1.toNatClampNeg (vp_nar .byte t0)) kr kt kd many tsz thr) H := hP
    have hD : va_D A (wd_M h1 pB pW pS pA pQ pC pR pT pD cJ cI cZ cB kb kw ks ka kq (upd kc t1.toNatClampNeg (vp_nar .byte t0)) kr kt kd many tsz thr) := hD
    refine lv_aload_n hx hb dc_M_bit_127 rfl (lv_at hl 0 rfl) ?_
    refine lv_dup hx hb dc_M_bit_128 rfl ?_
    refine va_get (D := (dC, dI)) (ci := 2) (v := .int many) (C := "FourWordsModel") (T := tb_M) (N := 12) hx hb hts (hu _ um_M) hown hK hP 0 rfl rfl 8 (by decide) (hq mw_t468) (fun _ h9 => h9) rfl dc_M_bit_129 ?_
    refine lv_iconst (v := 2) hx hb dc_M_bit_132 (by decide) ?_
    refine lv_isub hx hb dc_M_bit_133 ?_
    refine va_put (D := (dC, dI)) (ci := 2) (v := .int (many - (2 : Int32))) (ty := .int) (C := "FourWordsModel") (T := tb_M) (N := 12) hx hb hts (hu _ um_M) ft_M fk_M fn_M hown hK hP hD hS 0 rfl rfl 8 (by decide) (hq mw_t468) (fun _ h9 => h9) rfl (by decide +kernel) rfl rfl (Nat.le_of_ble_eq_true rfl) dc_M_bit_134 (fun H locs hP hD hS => ?_)
    have hP : va_P (dC, dI) cs_3 (wd_M h1 pB pW pS pA pQ pC pR pT pD cJ cI cZ cB kb kw ks ka kq (upd kc t1.toNatClampNeg (vp_nar .byte t0)) kr kt kd (many - (2 : Int32)) tsz thr) H := hP
    have hD : va_D A (wd_M h1 pB pW pS pA pQ pC pR pT pD cJ cI cZ cB kb kw ks ka kq (upd kc t1.toNatClampNeg (vp_nar .byte t0)) kr kt kd (many - (2 : Int32)) tsz thr) := hD
    refine lv_aload_n hx hb dc_M_bit_137 rfl (lv_at hl 0 rfl) ?_
    refine lv_aload_n hx hb dc_M_bit_138 rfl (lv_at hl 0 rfl) ?_
    refine va_get (D := (dC, dI)) (ci := 2) (v := .ref pC) (C := "FourWordsModel") (T := tb_M) (N := 12) hx hb hts (hu _ um_M) hown hK hP 0 rfl rfl 5 (by decide) (hq mw_t465) (fun _ h9 => h9) rfl dc_M_bit_139 ?_
    refine lv_iconst (v := 1) hx hb dc_M_bit_142 (by decide) ?_
    refine lv_iconst (v := 0) hx hb dc_M_bit_143 (by decide) ?_
    refine gc_v (S := (Nat → Int32) × (Nat → Int32) × (Nat → Int32) × (Nat → Int32) × (Nat → Int32) × (Nat → Int32) × (Nat → Int32) × (Nat → Int32) × (Nat → Int32) × Int32 × Int32 × Int32) (w1 := (fun u => (wd_M h1 pB pW pS pA pQ pC pR pT pD cJ cI cZ cB u.1 u.2.1 u.2.2.1 u.2.2.2.1 u.2.2.2.2.1 u.2.2.2.2.2.1 u.2.2.2.2.2.2.1 u.2.2.2.2.2.2.2.1 u.2.2.2.2.2.2.2.2.1 u.2.2.2.2.2.2.2.2.2.1 u.2.2.2.2.2.2.2.2.2.2.1 u.2.2.2.2.2.2.2.2.2.2.2))) (wc := (wd_M h1 pB pW pS pA pQ pC pR pT pD cJ cI cZ cB kb kw ks ka kq (upd kc t1.toNatClampNeg (vp_nar .byte t0)) kr kt kd (many - (2 : Int32)) tsz thr)) (wr := ([] : va_W)) (va_runV (As := [.ref pC, .int (1 : Int32), .int (0 : Int32)]) (rest := []) ⟨hx, hb, hml, hown, hts⟩ (kt_M_give_c l dC dI cJ cI cZ cB h1 pB pW pS pA pQ pC pR pT pD _ (1 : Int32) (0 : Int32) kb kw ks ka kq (upd kc t1.toNatClampNeg (vp_nar .byte t0)) kr kt kd (many - (2 : Int32)) tsz thr _ hw) ⟨callB_of 3 hts (gw_in mw_t513) rfl rfl rfl (hq mw_t3) (hq mw_t510) (by decide +kernel) ⟨Nat.le_of_ble_eq_true rfl, Nat.le_of_ble_eq_true rfl⟩, hq mw_t512, hq mw_s35⟩ (pv_W (va_recv (q0 := 0) (ci := 2) hK hP rfl rfl) (hP.sub (ws' := (wd_M h1 pB pW pS pA pQ pC pR pT pD cJ cI cZ cB kb kw ks ka kq (upd kc t1.toNatClampNeg (vp_nar .byte t0)) kr kt kd (many - (2 : Int32)) tsz thr)) [0, 1, 2, 3, 4, 5, 6, 7, 8, 9] rfl) hK (hD.sub (ws' := (wd_M h1 pB pW pS pA pQ pC pR pT pD cJ cI cZ cB kb kw ks ka kq (upd kc t1.toNatClampNeg (vp_nar .byte t0)) kr kt kd (many - (2 : Int32)) tsz thr)) [0, 1, 2, 3, 4, 5, 6, 7, 8, 9] (by decide) rfl) hE) rfl rfl hl.1 rfl (lv_room (Nat.le_of_ble_eq_true rfl)) dc_M_bit_144 ⟨Nat.le_of_ble_eq_true rfl, Nat.le_of_ble_eq_true rfl⟩) hP hD hS hA [0, 1, 2, 3, 4, 5, 6, 7, 8, 9] [] rfl rfl (by decide) (by decide) (fun u H locs hw hP hD hS => ?_)
    obtain ⟨kb144, kw144, ks144, ka144, kq144, kc144, kr144, kt144, kd144, many144, tsz144, thr144⟩ := u
    have hP : va_P (dC, dI) cs_3 (wd_M h1 pB pW pS pA pQ pC pR pT pD cJ cI cZ cB kb144 kw144 ks144 ka144 kq144 kc144 kr144 kt144 kd144 many144 tsz144 thr144) H := hP.sub (ws' := (wd_M h1 pB pW pS pA pQ pC pR pT pD cJ cI cZ cB kb144 kw144 ks144 ka144 kq144 kc144 kr144 kt144 kd144 many144 tsz144 thr144)) [0, 1, 2, 3, 4, 5, 6, 7, 8, 9] rfl
    have hD : va_D A (wd_M h1 pB pW pS pA pQ pC pR pT pD cJ cI cZ cB kb144 kw144 ks144 ka144 kq144 kc144 kr144 kt144 kd144 many144 tsz144 thr144) := hD.sub (ws' := (wd_M h1 pB pW pS pA pQ pC pR pT pD cJ cI cZ cB kb144 kw144 ks144 ka144 kq144 kc144 kr144 kt144 kd144 many144 tsz144 thr144)) [0, 1, 2, 3, 4, 5, 6, 7, 8, 9] (by decide) rfl
    try dsimp only at hw
    exact W.vret hx hb hr (fun t ht hW => ⟨⟨(kb144, kw144, ks144, ka144, kq144, kc144, kr144, kt144, kd144, many144, tsz144, thr144), rfl, hw, by rw [ht]; exact hP, va_K.moved hW.alike hK, hD⟩, hS.F ht⟩) hS.2.2 dc_M_bit_147
  have B_92 : ∀ (H : Heap) (locs : List Loc) (ls : Array Slot) (x2 : Int32) (t0 : Int32) (kb : (Nat → Int32)) (kw : (Nat → Int32)) (ks : (Nat → Int32)) (ka : (Nat → Int32)) (kq : (Nat → Int32)) (kc : (Nat → Int32)) (kr : (Nat → Int32)) (kt : (Nat → Int32)) (kd : (Nat → Int32)) (many : Int32) (tsz : Int32) (thr : Int32), wp_M_bit_92 post x2 t0 kb kw ks ka kq kc kr kt kd many tsz thr → va_P (dC, dI) cs_3 (wd_M h1 pB pW pS pA pQ pC pR pT pD cJ cI cZ cB kb kw ks ka kq kc kr kt kd many tsz thr) H → va_D A (wd_M h1 pB pW pS pA pQ pC pR pT pD cJ cI cZ cB kb kw ks ka kq kc kr kt kd many tsz thr) → va_S A s.heap H locs → lv_has ls 5 [(0, .ref h1), (2, .int x2)] → W p l e (headSpec ws_M_bit rm_M_bit).room s m ([.ref h1] : List Value).toArray below meth c H locs 0 0 (MQ below (qv_M dC dI cJ cI cZ cB h1 pB pW pS pA pQ pC pR pT pD post A) ([.ref h1] : List Value).toArray s 0 0 A) (F0 m 92 ls [.int t0]) := by
    intro H locs ls x2 t0 kb kw ks ka kq kc kr kt kd many tsz thr hw hP hD hS hl
    unfold wp_M_bit_92 at hw
    refine lv_istore (lv' := [(4, .int t0), (0, .ref h1), (2, .int x2)]) hx hb dc_M_bit_92 hl (Nat.le_of_ble_eq_true rfl) rfl (fun ls hl => ?_)
    refine lv_aload_n hx hb dc_M_bit_94 rfl (lv_at hl 1 rfl) ?_
    refine va_get (D := (dC, dI)) (ci := 2) (v := .ref pC) (C := "FourWordsModel") (T := tb_M) (N := 12) hx hb hts (hu _ um_M) hown hK hP 0 rfl rfl 5 (by decide) (hq mw_t465) (fun _ h9 => h9) rfl dc_M_bit_95 ?_
    refine lv_iconst (v := 0) hx hb dc_M_bit_98 (by decide) ?_
    refine lv_iload hx hb dc_M_bit_99 (lv_at hl 0 rfl) ?_
    refine lv_aload_n hx hb dc_M_bit_101 rfl (lv_at hl 1 rfl) ?_
    refine va_get (D := (dC, dI)) (ci := 2) (v := .ref pW) (C := "FourWordsModel") (T := tb_M) (N := 12) hx hb hts (hu _ um_M) hown hK hP 0 rfl rfl 1 (by decide) (hq mw_t461) (fun _ h9 => h9) rfl dc_M_bit_102 ?_
    refine lv_iload_n hx hb dc_M_bit_105 rfl (lv_at hl 2 rfl) ?_
    obtain ⟨hin, hw⟩ := hw
    refine va_iald hx hb hK hP 2 1 rfl rfl hin dc_M_bit_106 ?_
    obtain ⟨hw1, hw2⟩ := hw
    refine lv_icmp_ge (tgt := 125) hx hb dc_M_bit_107 (by decide) (fun hc => ?_) (fun hc => ?_)
    · have hw := hw1 hc
      clear hw1 hw2
      refine lv_iconst (v := 3) hx hb dc_M_bit_125 (by decide) ?_
      exact B_126 _ _ _ (3 : Int32) (0 : Int32) kb kw ks ka kq kc kr kt kd many tsz thr hw hP hD hS (lv_sub hl [1] rfl)
    · have hw := hw2 hc
      clear hw1 hw2
      refine lv_aload_n hx hb dc_M_bit_110 rfl (lv_at hl 1 rfl) ?_
      refine va_get (D := (dC, dI)) (ci := 2) (v := .ref pB) (C := "FourWordsModel") (T := tb_M) (N := 12) hx hb hts (hu _ um_M) hown hK hP 0 rfl rfl 0 (by decide) (hq mw_t460) (fun _ h9 => h9) rfl dc_M_bit_111 ?_
      refine lv_bipush (v := 64) hx hb dc_M_bit_114 (by decide) ?_
      refine lv_iload_n hx hb dc_M_bit_116 rfl (lv_at hl 2 rfl) ?_
      refine lv_imul hx hb dc_M_bit_117 ?_
      refine lv_iload hx hb dc_M_bit_118 (lv_at hl 0 rfl) ?_
      refine lv_iadd hx hb dc_M_bit_120 ?_
      obtain ⟨hin, hw⟩ := hw
      refine va_bald hx hb hK hP 1 3 rfl rfl hin dc_M_bit_121 ?_
      refine lv_goto (tgt := 126) hx hb dc_M_bit_122 (by decide) ?_
      exact B_126 _ _ _ (kb (((64 : Int32) * x2) + t0).toNatClampNeg) (0 : Int32) kb kw ks ka kq kc kr kt kd many tsz thr hw hP hD hS (lv_sub hl [1] rfl)
  have B_85 : ∀ (H : Heap) (locs : List Loc) (ls : Array Slot) (x1 : Int32) (x2 : Int32) (kb : (Nat → Int32)) (kw : (Nat → Int32)) (ks : (Nat → Int32)) (ka : (Nat → Int32)) (kq : (Nat → Int32)) (kc : (Nat → Int32)) (kr : (Nat → Int32)) (kt : (Nat → Int32)) (kd : (Nat → Int32)) (many : Int32) (tsz : Int32) (thr : Int32), wp_M_bit_85 post x1 x2 kb kw ks ka kq kc kr kt kd many tsz thr → va_P (dC, dI) cs_3 (wd_M h1 pB pW pS pA pQ pC pR pT pD cJ cI cZ cB kb kw ks ka kq kc kr kt kd many tsz thr) H → va_D A (wd_M h1 pB pW pS pA pQ pC pR pT pD cJ cI cZ cB kb kw ks ka kq kc kr kt kd many tsz thr) → va_S A s.heap H locs → lv_has ls 5 [(0, .ref h1), (1, .int x1), (2, .int x2)] → W p l e (headSpec ws_M_bit rm_M_bit).room s m ([.ref h1] : List Value).toArray below meth c H locs 0 0 (MQ below (qv_M dC dI cJ cI cZ cB h1 pB pW pS pA pQ pC pR pT pD post A) ([.ref h1] : List Value).toArray s 0 0 A) (F0 m 85 ls []) := by
    intro H locs ls x1 x2 kb kw ks ka kq kc kr kt kd many tsz thr hw hP hD hS hl
    unfold wp_M_bit_85 at hw
    refine lv_aload_n hx hb dc_M_bit_85 rfl (lv_at hl 0 rfl) ?_
    refine lv_iload_n hx hb dc_M_bit_86 rfl (lv_at hl 1 rfl) ?_
    refine lv_bipush (v := 64) hx hb dc_M_bit_87 (by decide) ?_
    refine gc_i (S := (Nat → Int32) × (Nat → Int32) × (Nat → Int32) × (Nat → Int32) × (Nat → Int32) × (Nat → Int32) × (Nat → Int32) × (Nat → Int32) × (Nat → Int32) × Int32 × Int32 × Int32) (w1 := (fun u => (wd_M h1 pB pW pS pA pQ pC pR pT pD cJ cI cZ cB u.1 u.2.1 u.2.2.1 u.2.2.2.1 u.2.2.2.2.1 u.2.2.2.2.2.1 u.2.2.2.2.2.2.1 u.2.2.2.2.2.2.2.1 u.2.2.2.2.2.2.2.2.1 u.2.2.2.2.2.2.2.2.2.1 u.2.2.2.2.2.2.2.2.2.2.1 u.2.2.2.2.2.2.2.2.2.2.2))) (wc := (wd_M h1 pB pW pS pA pQ pC pR pT pD cJ cI cZ cB kb kw ks ka kq kc kr kt kd many tsz thr)) (wr := ([] : va_W)) (va_runV (As := [.int x1, .int (64 : Int32)]) (rest := []) ⟨hx, hb, hml, hown, hts⟩ (kt_M_amount l dC dI cJ cI cZ cB h1 pB pW pS pA pQ pC pR pT pD _ x1 (64 : Int32) kb kw ks ka kq kc kr kt kd many tsz thr _ hw) ⟨callB_of 2 hts (gw_in mw_t593) rfl rfl rfl (hq mw_t3) (hq mw_t590) (by decide +kernel) ⟨Nat.le_of_ble_eq_true rfl, Nat.le_of_ble_eq_true rfl⟩, hq mw_t592, hq mw_s47⟩ (pv_W (va_recv (q0 := 0) (ci := 2) hK hP rfl rfl) (hP.sub (ws' := (wd_M h1 pB pW pS pA pQ pC pR pT pD cJ cI cZ cB kb kw ks ka kq kc kr kt kd many tsz thr)) [0, 1, 2, 3, 4, 5, 6, 7, 8, 9] rfl) hK (hD.sub (ws' := (wd_M h1 pB pW pS pA pQ pC pR pT pD cJ cI cZ cB kb kw ks ka kq kc kr kt kd many tsz thr)) [0, 1, 2, 3, 4, 5, 6, 7, 8, 9] (by decide) rfl) hE) rfl rfl hl.1 rfl (lv_room (Nat.le_of_ble_eq_true rfl)) dc_M_bit_89 ⟨Nat.le_of_ble_eq_true rfl, Nat.le_of_ble_eq_true rfl⟩) hP hD hS hA [0, 1, 2, 3, 4, 5, 6, 7, 8, 9] [] rfl rfl (by decide) (by decide) (fun r89 u H locs hw hP hD hS => ?_)
    obtain ⟨kb89, kw89, ks89, ka89, kq89, kc89, kr89, kt89, kd89, many89, tsz89, thr89⟩ := u
    have hP : va_P (dC, dI) cs_3 (wd_M h1 pB pW pS pA pQ pC pR pT pD cJ cI cZ cB kb89 kw89 ks89 ka89 kq89 kc89 kr89 kt89 kd89 many89 tsz89 thr89) H := hP.sub (ws' := (wd_M h1 pB pW pS pA pQ pC pR pT pD cJ cI cZ cB kb89 kw89 ks89 ka89 kq89 kc89 kr89 kt89 kd89 many89 tsz89 thr89)) [0, 1, 2, 3, 4, 5, 6, 7, 8, 9] rfl
    have hD : va_D A (wd_M h1 pB pW pS pA pQ pC pR pT pD cJ cI cZ cB kb89 kw89 ks89 ka89 kq89 kc89 kr89 kt89 kd89 many89 tsz89 thr89) := hD.sub (ws' := (wd_M h1 pB pW pS pA pQ pC pR pT pD cJ cI cZ cB kb89 kw89 ks89 ka89 kq89 kc89 kr89 kt89 kd89 many89 tsz89 thr89)) [0, 1, 2, 3, 4, 5, 6, 7, 8, 9] (by decide) rfl
    try dsimp only at hw
    exact B_92 _ _ _ x2 r89 kb89 kw89 ks89 ka89 kq89 kc89 kr89 kt89 kd89 many89 tsz89 thr89 hw hP hD hS (lv_sub hl [0, 2] rfl)
  have B_80 : ∀ (H : Heap) (locs : List Loc) (ls : Array Slot) (x2 : Int32) (kb : (Nat → Int32)) (kw : (Nat → Int32)) (ks : (Nat → Int32)) (ka : (Nat → Int32)) (kq : (Nat → Int32)) (kc : (Nat → Int32)) (kr : (Nat → Int32)) (kt : (Nat → Int32)) (kd : (Nat → Int32)) (many : Int32) (tsz : Int32) (thr : Int32), wp_M_bit_80 post x2 kb kw ks ka kq kc kr kt kd many tsz thr → va_P (dC, dI) cs_3 (wd_M h1 pB pW pS pA pQ pC pR pT pD cJ cI cZ cB kb kw ks ka kq kc kr kt kd many tsz thr) H → va_D A (wd_M h1 pB pW pS pA pQ pC pR pT pD cJ cI cZ cB kb kw ks ka kq kc kr kt kd many tsz thr) → va_S A s.heap H locs → lv_has ls 5 [(0, .ref h1), (2, .int x2)] → W p l e (headSpec ws_M_bit rm_M_bit).room s m ([.ref h1] : List Value).toArray below meth c H locs 0 0 (MQ below (qv_M dC dI cJ cI cZ cB h1 pB pW pS pA pQ pC pR pT pD post A) ([.ref h1] : List Value).toArray s 0 0 A) (F0 m 80 ls []) := by
    intro H locs ls x2 kb kw ks ka kq kc kr kt kd many tsz thr hw hP hD hS hl
    unfold wp_M_bit_80 at hw
    refine lv_bipush (v := 64) hx hb dc_M_bit_80 (by decide) ?_
    refine lv_goto (tgt := 92) hx hb dc_M_bit_82 (by decide) ?_
    exact B_92 _ _ _ x2 (64 : Int32) kb kw ks ka kq kc kr kt kd many tsz thr hw hP hD hS (lv_sub hl [0, 1] rfl)
  unfold wp_M_bit at hw
  refine lv_aload_n hx hb dc_M_bit_0 rfl (lv_at hl 0 rfl) ?_
  refine lv_iconst (v := 0) hx hb dc_M_bit_1 (by decide) ?_
  refine lv_iconst (v := 2) hx hb dc_M_bit_2 (by decide) ?_
  refine lv_iconst (v := 1) hx hb dc_M_bit_3 (by decide) ?_
  refine gc_i (S := (Nat → Int32) × (Nat → Int32) × (Nat → Int32) × (Nat → Int32) × (Nat → Int32) × (Nat → Int32) × (Nat → Int32) × (Nat → Int32) × (Nat → Int32) × Int32 × Int32 × Int32) (w1 := (fun u => (wd_M h1 pB pW pS pA pQ pC pR pT pD cJ cI cZ cB u.1 u.2.1 u.2.2.1 u.2.2.2.1 u.2.2.2.2.1 u.2.2.2.2.2.1 u.2.2.2.2.2.2.1 u.2.2.2.2.2.2.2.1 u.2.2.2.2.2.2.2.2.1 u.2.2.2.2.2.2.2.2.2.1 u.2.2.2.2.2.2.2.2.2.2.1 u.2.2.2.2.2.2.2.2.2.2.2))) (wc := (wd_M h1 pB pW pS pA pQ pC pR pT pD cJ cI cZ cB kb kw ks ka kq kc kr kt kd many tsz thr)) (wr := ([] : va_W)) (va_runV (As := [.int (0 : Int32), .int (2 : Int32), .int (1 : Int32)]) (rest := []) ⟨hx, hb, hml, hown, hts⟩ (kt_M_refuse l dC dI cJ cI cZ cB h1 pB pW pS pA pQ pC pR pT pD _ (0 : Int32) (2 : Int32) (1 : Int32) kb kw ks ka kq kc kr kt kd many tsz thr _ hw) ⟨callB_of 3 hts (gw_in mw_t508) rfl rfl rfl (hq mw_t3) (hq mw_t505) (by decide +kernel) ⟨Nat.le_of_ble_eq_true rfl, Nat.le_of_ble_eq_true rfl⟩, hq mw_t507, hq mw_s34⟩ (pv_W (va_recv (q0 := 0) (ci := 2) hK hP rfl rfl) (hP.sub (ws' := (wd_M h1 pB pW pS pA pQ pC pR pT pD cJ cI cZ cB kb kw ks ka kq kc kr kt kd many tsz thr)) [0, 1, 2, 3, 4, 5, 6, 7, 8, 9] rfl) hK (hD.sub (ws' := (wd_M h1 pB pW pS pA pQ pC pR pT pD cJ cI cZ cB kb kw ks ka kq kc kr kt kd many tsz thr)) [0, 1, 2, 3, 4, 5, 6, 7, 8, 9] (by decide) rfl) hE) rfl rfl hl.1 rfl (lv_room (Nat.le_of_ble_eq_true rfl)) dc_M_bit_4 ⟨Nat.le_of_ble_eq_true rfl, Nat.le_of_ble_eq_true rfl⟩) hP hD hS hA [0, 1, 2, 3, 4, 5, 6, 7, 8, 9] [] rfl rfl (by decide) (by decide) (fun r4 u H locs hw hP hD hS => ?_)
  obtain ⟨kb4, kw4, ks4, ka4, kq4, kc4, kr4, kt4, kd4, many4, tsz4, thr4⟩ := u
  have hP : va_P (dC, dI) cs_3 (wd_M h1 pB pW pS pA pQ pC pR pT pD cJ cI cZ cB kb4 kw4 ks4 ka4 kq4 kc4 kr4 kt4 kd4 many4 tsz4 thr4) H := hP.sub (ws' := (wd_M h1 pB pW pS pA pQ pC pR pT pD cJ cI cZ cB kb4 kw4 ks4 ka4 kq4 kc4 kr4 kt4 kd4 many4 tsz4 thr4)) [0, 1, 2, 3, 4, 5, 6, 7, 8, 9] rfl
  have hD : va_D A (wd_M h1 pB pW pS pA pQ pC pR pT pD cJ cI cZ cB kb4 kw4 ks4 ka4 kq4 kc4 kr4 kt4 kd4 many4 tsz4 thr4) := hD.sub (ws' := (wd_M h1 pB pW pS pA pQ pC pR pT pD cJ cI cZ cB kb4 kw4 ks4 ka4 kq4 kc4 kr4 kt4 kd4 many4 tsz4 thr4)) [0, 1, 2, 3, 4, 5, 6, 7, 8, 9] (by decide) rfl
  try dsimp only at hw
  obtain ⟨hw1, hw2⟩ := hw
  refine lv_if_eq (tgt := 16) hx hb dc_M_bit_7 (by decide) (fun hc => ?_) (fun hc => ?_)
  · have hw := hw1 hc
    clear hw1 hw2
    refine lv_aload_n hx hb dc_M_bit_16 rfl (lv_at hl 0 rfl) ?_
    refine va_get (D := (dC, dI)) (ci := 2) (v := .int many4) (C := "FourWordsModel") (T := tb_M) (N := 12) hx hb hts (hu _ um_M) hown hK hP 0 rfl rfl 8 (by decide) (hq mw_t468) (fun _ h9 => h9) rfl dc_M_bit_17 ?_
    refine lv_iconst (v := 1) hx hb dc_M_bit_20 (by decide) ?_
    refine lv_isub hx hb dc_M_bit_21 ?_
    refine lv_topi (fun v22 e22 => ?_)
    have hw := hw v22 e22
    refine lv_istore_n (lv' := [(1, .int v22), (0, .ref h1)]) hx hb dc_M_bit_22 rfl hl (Nat.le_of_ble_eq_true rfl) rfl (fun ls hl => ?_)
    refine lv_aload_n hx hb dc_M_bit_23 rfl (lv_at hl 1 rfl) ?_
    refine va_get (D := (dC, dI)) (ci := 2) (v := .int many4) (C := "FourWordsModel") (T := tb_M) (N := 12) hx hb hts (hu _ um_M) hown hK hP 0 rfl rfl 8 (by decide) (hq mw_t468) (fun _ h9 => h9) rfl dc_M_bit_24 ?_
    refine lv_iconst (v := 2) hx hb dc_M_bit_27 (by decide) ?_
    refine lv_isub hx hb dc_M_bit_28 ?_
    refine lv_topi (fun v29 e29 => ?_)
    have hw := hw v29 e29
    refine lv_istore_n (lv' := [(2, .int v29), (1, .int v22), (0, .ref h1)]) hx hb dc_M_bit_29 rfl hl (Nat.le_of_ble_eq_true rfl) rfl (fun ls hl => ?_)
    refine lv_aload_n hx hb dc_M_bit_30 rfl (lv_at hl 2 rfl) ?_
    refine va_get (D := (dC, dI)) (ci := 2) (v := .ref pW) (C := "FourWordsModel") (T := tb_M) (N := 12) hx hb hts (hu _ um_M) hown hK hP 0 rfl rfl 1 (by decide) (hq mw_t461) (fun _ h9 => h9) rfl dc_M_bit_31 ?_
    refine lv_iload_n hx hb dc_M_bit_34 rfl (lv_at hl 1 rfl) ?_
    obtain ⟨hin, hw⟩ := hw
    refine va_iald hx hb hK hP 2 1 rfl rfl hin dc_M_bit_35 ?_
    refine lv_topi (fun v36 e36 => ?_)
    have hw := hw v36 e36
    refine lv_istore_n (lv' := [(3, .int v36), (2, .int v29), (1, .int v22), (0, .ref h1)]) hx hb dc_M_bit_36 rfl hl (Nat.le_of_ble_eq_true rfl) rfl (fun ls hl => ?_)
    refine lv_aload_n hx hb dc_M_bit_37 rfl (lv_at hl 3 rfl) ?_
    refine lv_iload_n hx hb dc_M_bit_38 rfl (lv_at hl 2 rfl) ?_
    refine lv_aload_n hx hb dc_M_bit_39 rfl (lv_at hl 3 rfl) ?_
    refine va_get (D := (dC, dI)) (ci := 2) (v := .ref pQ) (C := "FourWordsModel") (T := tb_M) (N := 12) hx hb hts (hu _ um_M) hown hK hP 0 rfl rfl 4 (by decide) (hq mw_t464) (fun _ h9 => h9) rfl dc_M_bit_40 ?_
    refine lv_iload_n hx hb dc_M_bit_43 rfl (lv_at hl 0 rfl) ?_
    refine lv_iconst (v := 0) hx hb dc_M_bit_44 (by decide) ?_
    refine gc_v (S := (Nat → Int32) × (Nat → Int32) × (Nat → Int32) × (Nat → Int32) × (Nat → Int32) × (Nat → Int32) × (Nat → Int32) × (Nat → Int32) × (Nat → Int32) × Int32 × Int32 × Int32) (w1 := (fun u => (wd_M h1 pB pW pS pA pQ pC pR pT pD cJ cI cZ cB u.1 u.2.1 u.2.2.1 u.2.2.2.1 u.2.2.2.2.1 u.2.2.2.2.2.1 u.2.2.2.2.2.2.1 u.2.2.2.2.2.2.2.1 u.2.2.2.2.2.2.2.2.1 u.2.2.2.2.2.2.2.2.2.1 u.2.2.2.2.2.2.2.2.2.2.1 u.2.2.2.2.2.2.2.2.2.2.2))) (wc := (wd_M h1 pB pW pS pA pQ pC pR pT pD cJ cI cZ cB kb4 kw4 ks4 ka4 kq4 kc4 kr4 kt4 kd4 many4 tsz4 thr4)) (wr := ([] : va_W)) (va_runV (As := [.int v22, .ref pQ, .int v36, .int (0 : Int32)]) (rest := []) ⟨hx, hb, hml, hown, hts⟩ (kt_M_take_b l dC dI cJ cI cZ cB h1 pB pW pS pA pQ pC pR pT pD _ v22 v36 (0 : Int32) kb4 kw4 ks4 ka4 kq4 kc4 kr4 kt4 kd4 many4 tsz4 thr4 _ hw) ⟨callB_of 4 hts (gw_in mw_t525) rfl rfl rfl (hq mw_t3) (hq mw_t522) (by decide +kernel) ⟨Nat.le_of_ble_eq_true rfl, Nat.le_of_ble_eq_true rfl⟩, hq mw_t524, hq mw_s37⟩ (pv_W (va_recv (q0 := 0) (ci := 2) hK hP rfl rfl) (hP.sub (ws' := (wd_M h1 pB pW pS pA pQ pC pR pT pD cJ cI cZ cB kb4 kw4 ks4 ka4 kq4 kc4 kr4 kt4 kd4 many4 tsz4 thr4)) [0, 1, 2, 3, 4, 5, 6, 7, 8, 9] rfl) hK (hD.sub (ws' := (wd_M h1 pB pW pS pA pQ pC pR pT pD cJ cI cZ cB kb4 kw4 ks4 ka4 kq4 kc4 kr4 kt4 kd4 many4 tsz4 thr4)) [0, 1, 2, 3, 4, 5, 6, 7, 8, 9] (by decide) rfl) hE) rfl rfl hl.1 rfl (lv_room (Nat.le_of_ble_eq_true rfl)) dc_M_bit_45 ⟨Nat.le_of_ble_eq_true rfl, Nat.le_of_ble_eq_true rfl⟩) hP hD hS hA [0, 1, 2, 3, 4, 5, 6, 7, 8, 9] [] rfl rfl (by decide) (by decide) (fun u H locs hw hP hD hS => ?_)
    obtain ⟨kb45, kw45, ks45, ka45, kq45, kc45, kr45, kt45, kd45, many45, tsz45, thr45⟩ := u
    have hP : va_P (dC, dI) cs_3 (wd_M h1 pB pW pS pA pQ pC pR pT pD cJ cI cZ cB kb45 kw45 ks45 ka45 kq45 kc45 kr45 kt45 kd45 many45 tsz45 thr45) H := hP.sub (ws' := (wd_M h1 pB pW pS pA pQ pC pR pT pD cJ cI cZ cB kb45 kw45 ks45 ka45 kq45 kc45 kr45 kt45 kd45 many45 tsz45 thr45)) [0, 1, 2, 3, 4, 5, 6, 7, 8, 9] rfl
    have hD : va_D A (wd_M h1 pB pW pS pA pQ pC pR pT pD cJ cI cZ cB kb45 kw45 ks45 ka45 kq45 kc45 kr45 kt45 kd45 many45 tsz45 thr45) := hD.sub (ws' := (wd_M h1 pB pW pS pA pQ pC pR pT pD cJ cI cZ cB kb45 kw45 ks45 ka45 kq45 kc45 kr45 kt45 kd45 many45 tsz45 thr45)) [0, 1, 2, 3, 4, 5, 6, 7, 8, 9] (by decide) rfl
    try dsimp only at hw
    refine lv_aload_n hx hb dc_M_bit_48 rfl (lv_at hl 3 rfl) ?_
    refine va_get (D := (dC, dI)) (ci := 2) (v := .ref pQ) (C := "FourWordsModel") (T := tb_M) (N := 12) hx hb hts (hu _ um_M) hown hK hP 0 rfl rfl 4 (by decide) (hq mw_t464) (fun _ h9 => h9) rfl dc_M_bit_49 ?_
    refine lv_iload_n hx hb dc_M_bit_52 rfl (lv_at hl 0 rfl) ?_
    refine gc_i (S := (Nat → Int32)) (w1 := (fun u => (wd_A pQ cJ cI cZ cB u))) (wc := (wd_A pQ cJ cI cZ cB kq45)) (wr := ([(h1, .inr (2, [.ref pB, .ref pW, .ref pS, .ref pA, .ref pQ, .ref pC, .ref pR, .ref pT, .int many45, .int tsz45, .int thr45, .ref pD])), (pB, .inl (cB, 4096, .inl kb45)), (pW, .inl (cI, 64, .inl kw45)), (pS, .inl (cZ, 64, .inl ks45)), (pA, .inl (cB, 64, .inl ka45)), (pC, .inl (cB, 64, .inl kc45)), (pR, .inl (cB, 65, .inl kr45)), (pT, .inl (cB, 80, .inl kt45)), (pD, .inl (cB, 24, .inl kd45))] : va_W)) (va_runS (As := [.ref pQ, .int v36]) (rest := []) ⟨hx, hb, hml, hown, hts⟩ (kt_M_dark l dC dI cJ cI cZ cB pQ _ v36 kq45 _ hw) ⟨callB_of 2 hts (gw_in mw_t532) rfl rfl rfl (hq mw_t3) (hq mw_t530) (by decide +kernel) ⟨Nat.le_of_ble_eq_true rfl, Nat.le_of_ble_eq_true rfl⟩, hq mw_t531⟩ (ps_W (hP.sub (ws' := (wd_A pQ cJ cI cZ cB kq45)) [5] rfl) hK (hD.sub (ws' := (wd_A pQ cJ cI cZ cB kq45)) [5] (by decide) rfl) hE) rfl rfl hl.1 rfl (lv_room (Nat.le_of_ble_eq_true rfl)) dc_M_bit_53 ⟨Nat.le_of_ble_eq_true rfl, Nat.le_of_ble_eq_true rfl⟩) hP hD hS hA [5] [0, 1, 2, 3, 4, 6, 7, 8, 9] rfl rfl (by decide) (by decide) (fun r53 u H locs hw hP hD hS => ?_)
    obtain ⟨kq53, rfl⟩ : ∃ z, z = u := ⟨_, rfl⟩
    have hP : va_P (dC, dI) cs_3 (wd_M h1 pB pW pS pA pQ pC pR pT pD cJ cI cZ cB kb45 kw45 ks45 ka45 kq53 kc45 kr45 kt45 kd45 many45 tsz45 thr45) H := hP.sub (ws' := (wd_M h1 pB pW pS pA pQ pC pR pT pD cJ cI cZ cB kb45 kw45 ks45 ka45 kq53 kc45 kr45 kt45 kd45 many45 tsz45 thr45)) [0, 1, 2, 3, 4, 9, 5, 6, 7, 8] rfl
    have hD : va_D A (wd_M h1 pB pW pS pA pQ pC pR pT pD cJ cI cZ cB kb45 kw45 ks45 ka45 kq53 kc45 kr45 kt45 kd45 many45 tsz45 thr45) := hD.sub (ws' := (wd_M h1 pB pW pS pA pQ pC pR pT pD cJ cI cZ cB kb45 kw45 ks45 ka45 kq53 kc45 kr45 kt45 kd45 many45 tsz45 thr45)) [0, 1, 2, 3, 4, 9, 5, 6, 7, 8] (by decide) rfl
    try dsimp only at hw
    obtain ⟨hw1, hw2⟩ := hw
    refine lv_if_ne (tgt := 80) hx hb dc_M_bit_56 (by decide) (fun hc => ?_) (fun hc => ?_)
    · have hw := hw1 hc
      clear hw1 hw2
      exact B_80 _ _ _ v29 kb45 kw45 ks45 ka45 kq53 kc45 kr45 kt45 kd45 many45 tsz45 thr45 hw hP hD hS (lv_sub hl [3, 1] rfl)
    · have hw := hw2 (fun h9 => h9 hc)
      clear hw1 hw2
      refine lv_aload_n hx hb dc_M_bit_59 rfl (lv_at hl 3 rfl) ?_
      refine va_get (D := (dC, dI)) (ci := 2) (v := .ref pS) (C := "FourWordsModel") (T := tb_M) (N := 12) hx hb hts (hu _ um_M) hown hK hP 0 rfl rfl 2 (by decide) (hq mw_t462) (fun _ h9 => h9) rfl dc_M_bit_60 ?_
      refine lv_iload_n hx hb dc_M_bit_63 rfl (lv_at hl 2 rfl) ?_
      obtain ⟨hin, hw⟩ := hw
      refine va_zald hx hb hK hP 3 2 rfl rfl hin dc_M_bit_64 ?_
      obtain ⟨hw1, hw2⟩ := hw
      refine lv_if_eq (tgt := 85) hx hb dc_M_bit_65 (by decide) (fun hc => ?_) (fun hc => ?_)
      · have hw := hw1 hc
        clear hw1 hw2
        exact B_85 _ _ _ v22 v29 kb45 kw45 ks45 ka45 kq53 kc45 kr45 kt45 kd45 many45 tsz45 thr45 hw hP hD hS (lv_sub hl [3, 2, 1] rfl)
      · have hw := hw2 hc
        clear hw1 hw2
        refine lv_aload_n hx hb dc_M_bit_68 rfl (lv_at hl 3 rfl) ?_
        refine va_get (D := (dC, dI)) (ci := 2) (v := .ref pQ) (C := "FourWordsModel") (T := tb_M) (N := 12) hx hb hts (hu _ um_M) hown hK hP 0 rfl rfl 4 (by decide) (hq mw_t464) (fun _ h9 => h9) rfl dc_M_bit_69 ?_
        refine lv_iload_n hx hb dc_M_bit_72 rfl (lv_at hl 0 rfl) ?_
        refine lv_iconst (v := 1) hx hb dc_M_bit_73 (by decide) ?_
        refine lv_isub hx hb dc_M_bit_74 ?_
        obtain ⟨hin, hw⟩ := hw
        refine va_bald hx hb hK hP 5 3 rfl rfl hin dc_M_bit_75 ?_
        refine lv_iconst (v := 1) hx hb dc_M_bit_76 (by decide) ?_
        obtain ⟨hw1, hw2⟩ := hw
        refine lv_icmp_ne (tgt := 85) hx hb dc_M_bit_77 (by decide) (fun hc => ?_) (fun hc => ?_)
        · have hw := hw1 hc
          clear hw1 hw2
          exact B_85 _ _ _ v22 v29 kb45 kw45 ks45 ka45 kq53 kc45 kr45 kt45 kd45 many45 tsz45 thr45 hw hP hD hS (lv_sub hl [3, 2, 1] rfl)
        · have hw := hw2 (fun h9 => h9 hc)
          clear hw1 hw2
          exact B_80 _ _ _ v29 kb45 kw45 ks45 ka45 kq53 kc45 kr45 kt45 kd45 many45 tsz45 thr45 hw hP hD hS (lv_sub hl [3, 1] rfl)
  · have hw := hw2 hc
    clear hw1 hw2
    refine lv_aload_n hx hb dc_M_bit_10 rfl (lv_at hl 0 rfl) ?_
    refine lv_iconst (v := 1) hx hb dc_M_bit_11 (by decide) ?_
    refine va_put (D := (dC, dI)) (ci := 2) (v := .int (1 : Int32)) (ty := .int) (C := "FourWordsModel") (T := tb_M) (N := 12) hx hb hts (hu _ um_M) ft_M fk_M fn_M hown hK hP hD hS 0 rfl rfl 10 (by decide) (hq mw_t470) (fun _ h9 => h9) rfl (by decide +kernel) rfl rfl (Nat.le_of_ble_eq_true rfl) dc_M_bit_12 (fun H locs hP hD hS => ?_)
    have hP : va_P (dC, dI) cs_3 (wd_M h1 pB pW pS pA pQ pC pR pT pD cJ cI cZ cB kb4 kw4 ks4 ka4 kq4 kc4 kr4 kt4 kd4 many4 tsz4 (1 : Int32)) H := hP
    have hD : va_D A (wd_M h1 pB pW pS pA pQ pC pR pT pD cJ cI cZ cB kb4 kw4 ks4 ka4 kq4 kc4 kr4 kt4 kd4 many4 tsz4 (1 : Int32)) := hD
    exact W.vret hx hb hr (fun t ht hW => ⟨⟨(kb4, kw4, ks4, ka4, kq4, kc4, kr4, kt4, kd4, many4, tsz4, (1 : Int32)), rfl, hw, by rw [ht]; exact hP, va_K.moved hW.alike hK, hD⟩, hS.F ht⟩) hS.2.2 dc_M_bit_15
set_option maxHeartbeats 4000000 in
set_option maxRecDepth 100000 in
theorem kt_M_as (l : Launch) (dC : Nat → ClassId) (dI : Nat → Nat → Nat) (cJ cI cZ cB : ClassId) (h1 pB pW pS pA pQ pC pR pT pD : Nat) (sz : Nat) (a1 : Int32) (a2 : Int32) (kb : (Nat → Int32)) (kw : (Nat → Int32)) (ks : (Nat → Int32)) (ka : (Nat → Int32)) (kq : (Nat → Int32)) (kc : (Nat → Int32)) (kr : (Nat → Int32)) (kt : (Nat → Int32)) (kd : (Nat → Int32)) (many : Int32) (tsz : Int32) (thr : Int32) (post : (Nat → Int32) → (Nat → Int32) → (Nat → Int32) → (Nat → Int32) → (Nat → Int32) → (Nat → Int32) → (Nat → Int32) → (Nat → Int32) → (Nat → Int32) → Int32 → Int32 → Int32 → Prop) (hw : wp_M_as post a1 a2 kb kw ks ka kq kc kr kt kd many tsz thr) : Met l yn_M_as ws_M_as rm_M_as (va_Pc [.ref h1, .int a1, .int a2] (pc_W (dC, dI) (ty_4 cJ cI cZ cB) (wd_M h1 pB pW pS pA pQ pC pR pT pD cJ cI cZ cB kb kw ks ka kq kc kr kt kd many tsz thr) sz)) (qv_M dC dI cJ cI cZ cB h1 pB pW pS pA pQ pC pR pT pD post (va_A (wd_M h1 pB pW pS pA pQ pC pR pT pD cJ cI cZ cB kb kw ks ka kq kc kr kt kd many tsz thr) sz)) 0 0 (va_A (wd_M h1 pB pW pS pA pQ pC pR pT pD cJ cI cZ cB kb kw ks ka kq kc kr kt kd many tsz thr) sz) := by
  refine Met.ofW (cc := cd_M_as) (maxL := 3) (ret := none) (by decide) rfl ?_
  intro p e s m args below meth c s₁ B hml hv
  obtain ⟨rfl, hsz, hP, hK, hD0, hE⟩ := hv
  have hx := B.exec
  have hb := B.bytes
  have hr := B.returns
  have hts := atoms_spec (ws := ws_M_as) B.pre
  have hq : ∀ {w : Cond}, w ∈ wg_all → w.before ([.ref h1, .int a1, .int a2] : List Value).toArray s = true := fun h => hts _ (List.mem_cons_of_mem _ h)
  have hu : ∀ L : List Cond, (∀ w ∈ L, w ∈ wg_all) → ∀ w ∈ L, w ∈ ws_M_as := fun L h w hw => List.mem_cons_of_mem _ (h w hw)
  have hown : s.vm.findClass "FourWordsModel" = some m.cls := findClass_of_methodNamed B.named
  have hlocks := B.notSynchronized
  subst hsz
  have hD := hD0.self (sz := s.heap.size)
  generalize hAe : va_A (wd_M h1 pB pW pS pA pQ pC pR pT pD cJ cI cZ cB kb kw ks ka kq kc kr kt kd many tsz thr) s.heap.size = A at hD ⊢
  have hA : ∀ q : Nat, s.heap.size ≤ q → A q := fun q h => by rw [← hAe]; exact Or.inr h
  have hS : va_S A s.heap s.heap [] := va_S.rf
  have hl := lv_entry [.ref h1, .int a1, .int a2] (n := 3) (Nat.le_of_ble_eq_true rfl)
  rw [lg_entry_eq]
  generalize (lg_sl [.ref h1, .int a1, .int a2] ++ List.replicate (3 - (lg_sl [.ref h1, .int a1, .int a2]).length) Slot.unset).toArray = ls at hl ⊢
  have hl : lv_has ls 3 [(0, .ref h1), (1, .int a1), (2, .int a2)] := hl
  have B_17 : ∀ (H : Heap) (locs : List Loc) (ls : Array Slot) (x1 : Int32) (x2 : Int32) (t0 : Int32) (kb : (Nat → Int32)) (kw : (Nat → Int32)) (ks : (Nat → Int32)) (ka : (Nat → Int32)) (kq : (Nat → Int32)) (kc : (Nat → Int32)) (kr : (Nat → Int32)) (kt : (Nat → Int32)) (kd : (Nat → Int32)) (many : Int32) (tsz : Int32) (thr : Int32), wp_M_as_17 post x1 x2 t0 kb kw ks ka kq kc kr kt kd many tsz thr → va_P (dC, dI) cs_3 (wd_M h1 pB pW pS pA pQ pC pR pT pD cJ cI cZ cB kb kw ks ka kq kc kr kt kd many tsz thr) H → va_D A (wd_M h1 pB pW pS pA pQ pC pR pT pD cJ cI cZ cB kb kw ks ka kq kc kr kt kd many tsz thr) → va_S A s.heap H locs → lv_has ls 3 [(0, .ref h1), (1, .int x1), (2, .int x2)] → W p l e (headSpec ws_M_as rm_M_as).room s m ([.ref h1, .int a1, .int a2] : List Value).toArray below meth c H locs 0 0 (MQ below (qv_M dC dI cJ cI cZ cB h1 pB pW pS pA pQ pC pR pT pD post A) ([.ref h1, .int a1, .int a2] : List Value).toArray s 0 0 A) (F0 m 17 ls [.int t0, .ref h1]) := by
    intro H locs ls x1 x2 t0 kb kw ks ka kq kc kr kt kd many tsz thr hw hP hD hS hl
    unfold wp_M_as_17 at hw
    refine lv_iconst (v := 1) hx hb dc_M_as_17 (by decide) ?_
    refine lv_iconst (v := 1) hx hb dc_M_as_18 (by decide) ?_
    refine gc_i (S := (Nat → Int32) × (Nat → Int32) × (Nat → Int32) × (Nat → Int32) × (Nat → Int32) × (Nat → Int32) × (Nat → Int32) × (Nat → Int32) × (Nat → Int32) × Int32 × Int32 × Int32) (w1 := (fun u => (wd_M h1 pB pW pS pA pQ pC pR pT pD cJ cI cZ cB u.1 u.2.1 u.2.2.1 u.2.2.2.1 u.2.2.2.2.1 u.2.2.2.2.2.1 u.2.2.2.2.2.2.1 u.2.2.2.2.2.2.2.1 u.2.2.2.2.2.2.2.2.1 u.2.2.2.2.2.2.2.2.2.1 u.2.2.2.2.2.2.2.2.2.2.1 u.2.2.2.2.2.2.2.2.2.2.2))) (wc := (wd_M h1 pB pW pS pA pQ pC pR pT pD cJ cI cZ cB kb kw ks ka kq kc kr kt kd many tsz thr)) (wr := ([] : va_W)) (va_runV (As := [.int t0, .int (1 : Int32), .int (1 : Int32)]) (rest := []) ⟨hx, hb, hml, hown, hts⟩ (kt_M_refuse l dC dI cJ cI cZ cB h1 pB pW pS pA pQ pC pR pT pD _ t0 (1 : Int32) (1 : Int32) kb kw ks ka kq kc kr kt kd many tsz thr _ hw) ⟨callB_of 3 hts (gw_in mw_t508) rfl rfl rfl (hq mw_t3) (hq mw_t505) (by decide +kernel) ⟨Nat.le_of_ble_eq_true rfl, Nat.le_of_ble_eq_true rfl⟩, hq mw_t507, hq mw_s34⟩ (pv_W (va_recv (q0 := 0) (ci := 2) hK hP rfl rfl) (hP.sub (ws' := (wd_M h1 pB pW pS pA pQ pC pR pT pD cJ cI cZ cB kb kw ks ka kq kc kr kt kd many tsz thr)) [0, 1, 2, 3, 4, 5, 6, 7, 8, 9] rfl) hK (hD.sub (ws' := (wd_M h1 pB pW pS pA pQ pC pR pT pD cJ cI cZ cB kb kw ks ka kq kc kr kt kd many tsz thr)) [0, 1, 2, 3, 4, 5, 6, 7, 8, 9] (by decide) rfl) hE) rfl rfl hl.1 rfl (lv_room (Nat.le_of_ble_eq_true rfl)) dc_M_as_19 ⟨Nat.le_of_ble_eq_true rfl, Nat.le_of_ble_eq_true rfl⟩) hP hD hS hA [0, 1, 2, 3, 4, 5, 6, 7, 8, 9] [] rfl rfl (by decide) (by decide) (fun r19 u H locs hw hP hD hS => ?_)
    obtain ⟨kb19, kw19, ks19, ka19, kq19, kc19, kr19, kt19, kd19, many19, tsz19, thr19⟩ := u
    have hP : va_P (dC, dI) cs_3 (wd_M h1 pB pW pS pA pQ pC pR pT pD cJ cI cZ cB kb19 kw19 ks19 ka19 kq19 kc19 kr19 kt19 kd19 many19 tsz19 thr19) H := hP.sub (ws' := (wd_M h1 pB pW pS pA pQ pC pR pT pD cJ cI cZ cB kb19 kw19 ks19 ka19 kq19 kc19 kr19 kt19 kd19 many19 tsz19 thr19)) [0, 1, 2, 3, 4, 5, 6, 7, 8, 9] rfl
    have hD : va_D A (wd_M h1 pB pW pS pA pQ pC pR pT pD cJ cI cZ cB kb19 kw19 ks19 ka19 kq19 kc19 kr19 kt19 kd19 many19 tsz19 thr19) := hD.sub (ws' := (wd_M h1 pB pW pS pA pQ pC pR pT pD cJ cI cZ cB kb19 kw19 ks19 ka19 kq19 kc19 kr19 kt19 kd19 many19 tsz19 thr19)) [0, 1, 2, 3, 4, 5, 6, 7, 8, 9] (by decide) rfl
    try dsimp only at hw
    obtain ⟨hw1, hw2⟩ := hw
    refine lv_if_eq (tgt := 26) hx hb dc_M_as_22 (by decide) (fun hc => ?_) (fun hc => ?_)
    · have hw := hw1 hc
      clear hw1 hw2
      refine lv_aload_n hx hb dc_M_as_26 rfl (lv_at hl 0 rfl) ?_
      refine lv_aload_n hx hb dc_M_as_27 rfl (lv_at hl 0 rfl) ?_
      refine va_get (D := (dC, dI)) (ci := 2) (v := .int many19) (C := "FourWordsModel") (T := tb_M) (N := 12) hx hb hts (hu _ um_M) hown hK hP 0 rfl rfl 8 (by decide) (hq mw_t468) (fun _ h9 => h9) rfl dc_M_as_28 ?_
      refine lv_iconst (v := 1) hx hb dc_M_as_31 (by decide) ?_
      refine lv_isub hx hb dc_M_as_32 ?_
      refine lv_aload_n hx hb dc_M_as_33 rfl (lv_at hl 0 rfl) ?_
      refine va_get (D := (dC, dI)) (ci := 2) (v := .ref pA) (C := "FourWordsModel") (T := tb_M) (N := 12) hx hb hts (hu _ um_M) hown hK hP 0 rfl rfl 3 (by decide) (hq mw_t463) (fun _ h9 => h9) rfl dc_M_as_34 ?_
      refine lv_iload_n hx hb dc_M_as_37 rfl (lv_at hl 1 rfl) ?_
      refine lv_aload_n hx hb dc_M_as_38 rfl (lv_at hl 0 rfl) ?_
      refine va_get (D := (dC, dI)) (ci := 2) (v := .ref pS) (C := "FourWordsModel") (T := tb_M) (N := 12) hx hb hts (hu _ um_M) hown hK hP 0 rfl rfl 2 (by decide) (hq mw_t462) (fun _ h9 => h9) rfl dc_M_as_39 ?_
      refine lv_aload_n hx hb dc_M_as_42 rfl (lv_at hl 0 rfl) ?_
      refine va_get (D := (dC, dI)) (ci := 2) (v := .int many19) (C := "FourWordsModel") (T := tb_M) (N := 12) hx hb hts (hu _ um_M) hown hK hP 0 rfl rfl 8 (by decide) (hq mw_t468) (fun _ h9 => h9) rfl dc_M_as_43 ?_
      refine lv_iconst (v := 1) hx hb dc_M_as_46 (by decide) ?_
      refine lv_isub hx hb dc_M_as_47 ?_
      obtain ⟨hin, hw⟩ := hw
      refine va_zald hx hb hK hP 3 2 rfl rfl hin dc_M_as_48 ?_
      refine gc_v (S := (Nat → Int32) × (Nat → Int32) × (Nat → Int32) × (Nat → Int32) × (Nat → Int32) × (Nat → Int32) × (Nat → Int32) × (Nat → Int32) × (Nat → Int32) × Int32 × Int32 × Int32) (w1 := (fun u => (wd_M h1 pB pW pS pA pQ pC pR pT pD cJ cI cZ cB u.1 u.2.1 u.2.2.1 u.2.2.2.1 u.2.2.2.2.1 u.2.2.2.2.2.1 u.2.2.2.2.2.2.1 u.2.2.2.2.2.2.2.1 u.2.2.2.2.2.2.2.2.1 u.2.2.2.2.2.2.2.2.2.1 u.2.2.2.2.2.2.2.2.2.2.1 u.2.2.2.2.2.2.2.2.2.2.2))) (wc := (wd_M h1 pB pW pS pA pQ pC pR pT pD cJ cI cZ cB kb19 kw19 ks19 ka19 kq19 kc19 kr19 kt19 kd19 many19 tsz19 thr19)) (wr := ([] : va_W)) (va_runV (As := [.int (many19 - (1 : Int32)), .ref pA, .int x1, .int (ks19 (many19 - (1 : Int32)).toNatClampNeg)]) (rest := []) ⟨hx, hb, hml, hown, hts⟩ (kt_M_take_a l dC dI cJ cI cZ cB h1 pB pW pS pA pQ pC pR pT pD _ (many19 - (1 : Int32)) x1 (ks19 (many19 - (1 : Int32)).toNatClampNeg) kb19 kw19 ks19 ka19 kq19 kc19 kr19 kt19 kd19 many19 tsz19 thr19 _ hw) ⟨callB_of 4 hts (gw_in mw_t525) rfl rfl rfl (hq mw_t3) (hq mw_t522) (by decide +kernel) ⟨Nat.le_of_ble_eq_true rfl, Nat.le_of_ble_eq_true rfl⟩, hq mw_t524, hq mw_s37⟩ (pv_W (va_recv (q0 := 0) (ci := 2) hK hP rfl rfl) (hP.sub (ws' := (wd_M h1 pB pW pS pA pQ pC pR pT pD cJ cI cZ cB kb19 kw19 ks19 ka19 kq19 kc19 kr19 kt19 kd19 many19 tsz19 thr19)) [0, 1, 2, 3, 4, 5, 6, 7, 8, 9] rfl) hK (hD.sub (ws' := (wd_M h1 pB pW pS pA pQ pC pR pT pD cJ cI cZ cB kb19 kw19 ks19 ka19 kq19 kc19 kr19 kt19 kd19 many19 tsz19 thr19)) [0, 1, 2, 3, 4, 5, 6, 7, 8, 9] (by decide) rfl) hE) rfl rfl hl.1 rfl (lv_room (Nat.le_of_ble_eq_true rfl)) dc_M_as_49 ⟨Nat.le_of_ble_eq_true rfl, Nat.le_of_ble_eq_true rfl⟩) hP hD hS hA [0, 1, 2, 3, 4, 5, 6, 7, 8, 9] [] rfl rfl (by decide) (by decide) (fun u H locs hw hP hD hS => ?_)
      obtain ⟨kb49, kw49, ks49, ka49, kq49, kc49, kr49, kt49, kd49, many49, tsz49, thr49⟩ := u
      have hP : va_P (dC, dI) cs_3 (wd_M h1 pB pW pS pA pQ pC pR pT pD cJ cI cZ cB kb49 kw49 ks49 ka49 kq49 kc49 kr49 kt49 kd49 many49 tsz49 thr49) H := hP.sub (ws' := (wd_M h1 pB pW pS pA pQ pC pR pT pD cJ cI cZ cB kb49 kw49 ks49 ka49 kq49 kc49 kr49 kt49 kd49 many49 tsz49 thr49)) [0, 1, 2, 3, 4, 5, 6, 7, 8, 9] rfl
      have hD : va_D A (wd_M h1 pB pW pS pA pQ pC pR pT pD cJ cI cZ cB kb49 kw49 ks49 ka49 kq49 kc49 kr49 kt49 kd49 many49 tsz49 thr49) := hD.sub (ws' := (wd_M h1 pB pW pS pA pQ pC pR pT pD cJ cI cZ cB kb49 kw49 ks49 ka49 kq49 kc49 kr49 kt49 kd49 many49 tsz49 thr49)) [0, 1, 2, 3, 4, 5, 6, 7, 8, 9] (by decide) rfl
      try dsimp only at hw
      refine lv_aload_n hx hb dc_M_as_52 rfl (lv_at hl 0 rfl) ?_
      refine lv_dup hx hb dc_M_as_53 rfl ?_
      refine va_get (D := (dC, dI)) (ci := 2) (v := .int many49) (C := "FourWordsModel") (T := tb_M) (N := 12) hx hb hts (hu _ um_M) hown hK hP 0 rfl rfl 8 (by decide) (hq mw_t468) (fun _ h9 => h9) rfl dc_M_as_54 ?_
      refine lv_iconst (v := 1) hx hb dc_M_as_57 (by decide) ?_
      refine lv_isub hx hb dc_M_as_58 ?_
      refine va_put (D := (dC, dI)) (ci := 2) (v := .int (many49 - (1 : Int32))) (ty := .int) (C := "FourWordsModel") (T := tb_M) (N := 12) hx hb hts (hu _ um_M) ft_M fk_M fn_M hown hK hP hD hS 0 rfl rfl 8 (by decide) (hq mw_t468) (fun _ h9 => h9) rfl (by decide +kernel) rfl rfl (Nat.le_of_ble_eq_true rfl) dc_M_as_59 (fun H locs hP hD hS => ?_)
      have hP : va_P (dC, dI) cs_3 (wd_M h1 pB pW pS pA pQ pC pR pT pD cJ cI cZ cB kb49 kw49 ks49 ka49 kq49 kc49 kr49 kt49 kd49 (many49 - (1 : Int32)) tsz49 thr49) H := hP
      have hD : va_D A (wd_M h1 pB pW pS pA pQ pC pR pT pD cJ cI cZ cB kb49 kw49 ks49 ka49 kq49 kc49 kr49 kt49 kd49 (many49 - (1 : Int32)) tsz49 thr49) := hD
      refine lv_aload_n hx hb dc_M_as_62 rfl (lv_at hl 0 rfl) ?_
      refine lv_aload_n hx hb dc_M_as_63 rfl (lv_at hl 0 rfl) ?_
      refine va_get (D := (dC, dI)) (ci := 2) (v := .ref pA) (C := "FourWordsModel") (T := tb_M) (N := 12) hx hb hts (hu _ um_M) hown hK hP 0 rfl rfl 3 (by decide) (hq mw_t463) (fun _ h9 => h9) rfl dc_M_as_64 ?_
      refine lv_iload_n hx hb dc_M_as_67 rfl (lv_at hl 1 rfl) ?_
      refine lv_iload_n hx hb dc_M_as_68 rfl (lv_at hl 2 rfl) ?_
      refine gc_v (S := (Nat → Int32) × (Nat → Int32) × (Nat → Int32) × (Nat → Int32) × (Nat → Int32) × (Nat → Int32) × (Nat → Int32) × (Nat → Int32) × (Nat → Int32) × Int32 × Int32 × Int32) (w1 := (fun u => (wd_M h1 pB pW pS pA pQ pC pR pT pD cJ cI cZ cB u.1 u.2.1 u.2.2.1 u.2.2.2.1 u.2.2.2.2.1 u.2.2.2.2.2.1 u.2.2.2.2.2.2.1 u.2.2.2.2.2.2.2.1 u.2.2.2.2.2.2.2.2.1 u.2.2.2.2.2.2.2.2.2.1 u.2.2.2.2.2.2.2.2.2.2.1 u.2.2.2.2.2.2.2.2.2.2.2))) (wc := (wd_M h1 pB pW pS pA pQ pC pR pT pD cJ cI cZ cB kb49 kw49 ks49 ka49 kq49 kc49 kr49 kt49 kd49 (many49 - (1 : Int32)) tsz49 thr49)) (wr := ([] : va_W)) (va_runV (As := [.ref pA, .int x1, .int x2]) (rest := []) ⟨hx, hb, hml, hown, hts⟩ (kt_M_give_a l dC dI cJ cI cZ cB h1 pB pW pS pA pQ pC pR pT pD _ x1 x2 kb49 kw49 ks49 ka49 kq49 kc49 kr49 kt49 kd49 (many49 - (1 : Int32)) tsz49 thr49 _ hw) ⟨callB_of 3 hts (gw_in mw_t513) rfl rfl rfl (hq mw_t3) (hq mw_t510) (by decide +kernel) ⟨Nat.le_of_ble_eq_true rfl, Nat.le_of_ble_eq_true rfl⟩, hq mw_t512, hq mw_s35⟩ (pv_W (va_recv (q0 := 0) (ci := 2) hK hP rfl rfl) (hP.sub (ws' := (wd_M h1 pB pW pS pA pQ pC pR pT pD cJ cI cZ cB kb49 kw49 ks49 ka49 kq49 kc49 kr49 kt49 kd49 (many49 - (1 : Int32)) tsz49 thr49)) [0, 1, 2, 3, 4, 5, 6, 7, 8, 9] rfl) hK (hD.sub (ws' := (wd_M h1 pB pW pS pA pQ pC pR pT pD cJ cI cZ cB kb49 kw49 ks49 ka49 kq49 kc49 kr49 kt49 kd49 (many49 - (1 : Int32)) tsz49 thr49)) [0, 1, 2, 3, 4, 5, 6, 7, 8, 9] (by decide) rfl) hE) rfl rfl hl.1 rfl (lv_room (Nat.le_of_ble_eq_true rfl)) dc_M_as_69 ⟨Nat.le_of_ble_eq_true rfl, Nat.le_of_ble_eq_true rfl⟩) hP hD hS hA [0, 1, 2, 3, 4, 5, 6, 7, 8, 9] [] rfl rfl (by decide) (by decide) (fun u H locs hw hP hD hS => ?_)
      obtain ⟨kb69, kw69, ks69, ka69, kq69, kc69, kr69, kt69, kd69, many69, tsz69, thr69⟩ := u
      have hP : va_P (dC, dI) cs_3 (wd_M h1 pB pW pS pA pQ pC pR pT pD cJ cI cZ cB kb69 kw69 ks69 ka69 kq69 kc69 kr69 kt69 kd69 many69 tsz69 thr69) H := hP.sub (ws' := (wd_M h1 pB pW pS pA pQ pC pR pT pD cJ cI cZ cB kb69 kw69 ks69 ka69 kq69 kc69 kr69 kt69 kd69 many69 tsz69 thr69)) [0, 1, 2, 3, 4, 5, 6, 7, 8, 9] rfl
      have hD : va_D A (wd_M h1 pB pW pS pA pQ pC pR pT pD cJ cI cZ cB kb69 kw69 ks69 ka69 kq69 kc69 kr69 kt69 kd69 many69 tsz69 thr69) := hD.sub (ws' := (wd_M h1 pB pW pS pA pQ pC pR pT pD cJ cI cZ cB kb69 kw69 ks69 ka69 kq69 kc69 kr69 kt69 kd69 many69 tsz69 thr69)) [0, 1, 2, 3, 4, 5, 6, 7, 8, 9] (by decide) rfl
      try dsimp only at hw
      exact W.vret hx hb hr (fun t ht hW => ⟨⟨(kb69, kw69, ks69, ka69, kq69, kc69, kr69, kt69, kd69, many69, tsz69, thr69), rfl, hw, by rw [ht]; exact hP, va_K.moved hW.alike hK, hD⟩, hS.F ht⟩) hS.2.2 dc_M_as_72
    · have hw := hw2 hc
      clear hw1 hw2
      exact W.vret hx hb hr (fun t ht hW => ⟨⟨(kb19, kw19, ks19, ka19, kq19, kc19, kr19, kt19, kd19, many19, tsz19, thr19), rfl, hw, by rw [ht]; exact hP, va_K.moved hW.alike hK, hD⟩, hS.F ht⟩) hS.2.2 dc_M_as_25
  have B_12 : ∀ (H : Heap) (locs : List Loc) (ls : Array Slot) (x1 : Int32) (x2 : Int32) (kb : (Nat → Int32)) (kw : (Nat → Int32)) (ks : (Nat → Int32)) (ka : (Nat → Int32)) (kq : (Nat → Int32)) (kc : (Nat → Int32)) (kr : (Nat → Int32)) (kt : (Nat → Int32)) (kd : (Nat → Int32)) (many : Int32) (tsz : Int32) (thr : Int32), wp_M_as_12 post x1 x2 kb kw ks ka kq kc kr kt kd many tsz thr → va_P (dC, dI) cs_3 (wd_M h1 pB pW pS pA pQ pC pR pT pD cJ cI cZ cB kb kw ks ka kq kc kr kt kd many tsz thr) H → va_D A (wd_M h1 pB pW pS pA pQ pC pR pT pD cJ cI cZ cB kb kw ks ka kq kc kr kt kd many tsz thr) → va_S A s.heap H locs → lv_has ls 3 [(0, .ref h1), (1, .int x1), (2, .int x2)] → W p l e (headSpec ws_M_as rm_M_as).room s m ([.ref h1, .int a1, .int a2] : List Value).toArray below meth c H locs 0 0 (MQ below (qv_M dC dI cJ cI cZ cB h1 pB pW pS pA pQ pC pR pT pD post A) ([.ref h1, .int a1, .int a2] : List Value).toArray s 0 0 A) (F0 m 12 ls [.ref h1]) := by
    intro H locs ls x1 x2 kb kw ks ka kq kc kr kt kd many tsz thr hw hP hD hS hl
    unfold wp_M_as_12 at hw
    refine lv_iconst (v := 1) hx hb dc_M_as_12 (by decide) ?_
    refine lv_goto (tgt := 17) hx hb dc_M_as_13 (by decide) ?_
    exact B_17 _ _ _ x1 x2 (1 : Int32) kb kw ks ka kq kc kr kt kd many tsz thr hw hP hD hS (lv_sub hl [0, 1, 2] rfl)
  unfold wp_M_as at hw
  refine lv_aload_n hx hb dc_M_as_0 rfl (lv_at hl 0 rfl) ?_
  refine lv_iload_n hx hb dc_M_as_1 rfl (lv_at hl 1 rfl) ?_
  refine lv_iconst (v := 1) hx hb dc_M_as_2 (by decide) ?_
  obtain ⟨hw1, hw2⟩ := hw
  refine lv_icmp_lt (tgt := 12) hx hb dc_M_as_3 (by decide) (fun hc => ?_) (fun hc => ?_)
  · have hw := hw1 hc
    clear hw1 hw2
    exact B_12 _ _ _ a1 a2 kb kw ks ka kq kc kr kt kd many tsz thr hw hP hD hS (lv_sub hl [0, 1, 2] rfl)
  · have hw := hw2 hc
    clear hw1 hw2
    refine lv_iload_n hx hb dc_M_as_6 rfl (lv_at hl 1 rfl) ?_
    refine lv_bipush (v := 64) hx hb dc_M_as_7 (by decide) ?_
    obtain ⟨hw1, hw2⟩ := hw
    refine lv_icmp_le (tgt := 16) hx hb dc_M_as_9 (by decide) (fun hc => ?_) (fun hc => ?_)
    · have hw := hw1 hc
      clear hw1 hw2
      refine lv_iconst (v := 0) hx hb dc_M_as_16 (by decide) ?_
      exact B_17 _ _ _ a1 a2 (0 : Int32) kb kw ks ka kq kc kr kt kd many tsz thr hw hP hD hS (lv_sub hl [0, 1, 2] rfl)
    · have hw := hw2 hc
      clear hw1 hw2
      exact B_12 _ _ _ a1 a2 kb kw ks ka kq kc kr kt kd many tsz thr hw hP hD hS (lv_sub hl [0, 1, 2] rfl)
set_option maxHeartbeats 4000000 in
set_option maxRecDepth 100000 in
theorem kt_M_again (l : Launch) (dC : Nat → ClassId) (dI : Nat → Nat → Nat) (cJ cI cZ cB : ClassId) (h1 pB pW pS pA pQ pC pR pT pD : Nat) (sz : Nat) (a1 : Int32) (kb : (Nat → Int32)) (kw : (Nat → Int32)) (ks : (Nat → Int32)) (ka : (Nat → Int32)) (kq : (Nat → Int32)) (kc : (Nat → Int32)) (kr : (Nat → Int32)) (kt : (Nat → Int32)) (kd : (Nat → Int32)) (many : Int32) (tsz : Int32) (thr : Int32) (post : (Nat → Int32) → (Nat → Int32) → (Nat → Int32) → (Nat → Int32) → (Nat → Int32) → (Nat → Int32) → (Nat → Int32) → (Nat → Int32) → (Nat → Int32) → Int32 → Int32 → Int32 → Prop) (hw : wp_M_again post a1 kb kw ks ka kq kc kr kt kd many tsz thr) : Met l yn_M_again ws_M_again rm_M_again (va_Pc [.ref h1, .int a1] (pc_W (dC, dI) (ty_4 cJ cI cZ cB) (wd_M h1 pB pW pS pA pQ pC pR pT pD cJ cI cZ cB kb kw ks ka kq kc kr kt kd many tsz thr) sz)) (qv_M dC dI cJ cI cZ cB h1 pB pW pS pA pQ pC pR pT pD post (va_A (wd_M h1 pB pW pS pA pQ pC pR pT pD cJ cI cZ cB kb kw ks ka kq kc kr kt kd many tsz thr) sz)) 0 0 (va_A (wd_M h1 pB pW pS pA pQ pC pR pT pD cJ cI cZ cB kb kw ks ka kq kc kr kt kd many tsz thr) sz) := by
  refine Met.ofW (cc := cd_M_again) (maxL := 3) (ret := none) (by decide) rfl ?_
  intro p e s m args below meth c s₁ B hml hv
  obtain ⟨rfl, hsz, hP, hK, hD0, hE⟩ := hv
  have hx := B.exec
  have hb := B.bytes
  have hr := B.returns
  have hts := atoms_spec (ws := ws_M_again) B.pre
  have hq : ∀ {w : Cond}, w ∈ wg_all → w.before ([.ref h1, .int a1] : List Value).toArray s = true := fun h => hts _ (List.mem_cons_of_mem _ h)
  have hu : ∀ L : List Cond, (∀ w ∈ L, w ∈ wg_all) → ∀ w ∈ L, w ∈ ws_M_again := fun L h w hw => List.mem_cons_of_mem _ (h w hw)
  have hown : s.vm.findClass "FourWordsModel" = some m.cls := findClass_of_methodNamed B.named
  have hlocks := B.notSynchronized
  subst hsz
  have hD := hD0.self (sz := s.heap.size)
  generalize hAe : va_A (wd_M h1 pB pW pS pA pQ pC pR pT pD cJ cI cZ cB kb kw ks ka kq kc kr kt kd many tsz thr) s.heap.size = A at hD ⊢
  have hA : ∀ q : Nat, s.heap.size ≤ q → A q := fun q h => by rw [← hAe]; exact Or.inr h
  have hS : va_S A s.heap s.heap [] := va_S.rf
  have hl := lv_entry [.ref h1, .int a1] (n := 3) (Nat.le_of_ble_eq_true rfl)
  rw [lg_entry_eq]
  generalize (lg_sl [.ref h1, .int a1] ++ List.replicate (3 - (lg_sl [.ref h1, .int a1]).length) Slot.unset).toArray = ls at hl ⊢
  have hl : lv_has ls 3 [(0, .ref h1), (1, .int a1)] := hl
  have B_10 : ∀ (H : Heap) (locs : List Loc) (ls : Array Slot) (x1 : Int32) (t0 : Int32) (kb : (Nat → Int32)) (kw : (Nat → Int32)) (ks : (Nat → Int32)) (ka : (Nat → Int32)) (kq : (Nat → Int32)) (kc : (Nat → Int32)) (kr : (Nat → Int32)) (kt : (Nat → Int32)) (kd : (Nat → Int32)) (many : Int32) (tsz : Int32) (thr : Int32), wp_M_again_10 post x1 t0 kb kw ks ka kq kc kr kt kd many tsz thr → va_P (dC, dI) cs_3 (wd_M h1 pB pW pS pA pQ pC pR pT pD cJ cI cZ cB kb kw ks ka kq kc kr kt kd many tsz thr) H → va_D A (wd_M h1 pB pW pS pA pQ pC pR pT pD cJ cI cZ cB kb kw ks ka kq kc kr kt kd many tsz thr) → va_S A s.heap H locs → lv_has ls 3 [(0, .ref h1), (1, .int x1)] → W p l e (headSpec ws_M_again rm_M_again).room s m ([.ref h1, .int a1] : List Value).toArray below meth c H locs 0 0 (MQ below (qv_M dC dI cJ cI cZ cB h1 pB pW pS pA pQ pC pR pT pD post A) ([.ref h1, .int a1] : List Value).toArray s 0 0 A) (F0 m 10 ls [.int t0, .ref h1]) := by
    intro H locs ls x1 t0 kb kw ks ka kq kc kr kt kd many tsz thr hw hP hD hS hl
    unfold wp_M_again_10 at hw
    refine lv_iconst (v := 0) hx hb dc_M_again_10 (by decide) ?_
    refine lv_iconst (v := 1) hx hb dc_M_again_11 (by decide) ?_
    refine gc_i (S := (Nat → Int32) × (Nat → Int32) × (Nat → Int32) × (Nat → Int32) × (Nat → Int32) × (Nat → Int32) × (Nat → Int32) × (Nat → Int32) × (Nat → Int32) × Int32 × Int32 × Int32) (w1 := (fun u => (wd_M h1 pB pW pS pA pQ pC pR pT pD cJ cI cZ cB u.1 u.2.1 u.2.2.1 u.2.2.2.1 u.2.2.2.2.1 u.2.2.2.2.2.1 u.2.2.2.2.2.2.1 u.2.2.2.2.2.2.2.1 u.2.2.2.2.2.2.2.2.1 u.2.2.2.2.2.2.2.2.2.1 u.2.2.2.2.2.2.2.2.2.2.1 u.2.2.2.2.2.2.2.2.2.2.2))) (wc := (wd_M h1 pB pW pS pA pQ pC pR pT pD cJ cI cZ cB kb kw ks ka kq kc kr kt kd many tsz thr)) (wr := ([] : va_W)) (va_runV (As := [.int t0, .int (0 : Int32), .int (1 : Int32)]) (rest := []) ⟨hx, hb, hml, hown, hts⟩ (kt_M_refuse l dC dI cJ cI cZ cB h1 pB pW pS pA pQ pC pR pT pD _ t0 (0 : Int32) (1 : Int32) kb kw ks ka kq kc kr kt kd many tsz thr _ hw) ⟨callB_of 3 hts (gw_in mw_t508) rfl rfl rfl (hq mw_t3) (hq mw_t505) (by decide +kernel) ⟨Nat.le_of_ble_eq_true rfl, Nat.le_of_ble_eq_true rfl⟩, hq mw_t507, hq mw_s34⟩ (pv_W (va_recv (q0 := 0) (ci := 2) hK hP rfl rfl) (hP.sub (ws' := (wd_M h1 pB pW pS pA pQ pC pR pT pD cJ cI cZ cB kb kw ks ka kq kc kr kt kd many tsz thr)) [0, 1, 2, 3, 4, 5, 6, 7, 8, 9] rfl) hK (hD.sub (ws' := (wd_M h1 pB pW pS pA pQ pC pR pT pD cJ cI cZ cB kb kw ks ka kq kc kr kt kd many tsz thr)) [0, 1, 2, 3, 4, 5, 6, 7, 8, 9] (by decide) rfl) hE) rfl rfl hl.1 rfl (lv_room (Nat.le_of_ble_eq_true rfl)) dc_M_again_12 ⟨Nat.le_of_ble_eq_true rfl, Nat.le_of_ble_eq_true rfl⟩) hP hD hS hA [0, 1, 2, 3, 4, 5, 6, 7, 8, 9] [] rfl rfl (by decide) (by decide) (fun r12 u H locs hw hP hD hS => ?_)
    obtain ⟨kb12, kw12, ks12, ka12, kq12, kc12, kr12, kt12, kd12, many12, tsz12, thr12⟩ := u
    have hP : va_P (dC, dI) cs_3 (wd_M h1 pB pW pS pA pQ pC pR pT pD cJ cI cZ cB kb12 kw12 ks12 ka12 kq12 kc12 kr12 kt12 kd12 many12 tsz12 thr12) H := hP.sub (ws' := (wd_M h1 pB pW pS pA pQ pC pR pT pD cJ cI cZ cB kb12 kw12 ks12 ka12 kq12 kc12 kr12 kt12 kd12 many12 tsz12 thr12)) [0, 1, 2, 3, 4, 5, 6, 7, 8, 9] rfl
    have hD : va_D A (wd_M h1 pB pW pS pA pQ pC pR pT pD cJ cI cZ cB kb12 kw12 ks12 ka12 kq12 kc12 kr12 kt12 kd12 many12 tsz12 thr12) := hD.sub (ws' := (wd_M h1 pB pW pS pA pQ pC pR pT pD cJ cI cZ cB kb12 kw12 ks12 ka12 kq12 kc12 kr12 kt12 kd12 many12 tsz12 thr12)) [0, 1, 2, 3, 4, 5, 6, 7, 8, 9] (by decide) rfl
    try dsimp only at hw
    obtain ⟨hw1, hw2⟩ := hw
    refine lv_if_eq (tgt := 19) hx hb dc_M_again_15 (by decide) (fun hc => ?_) (fun hc => ?_)
    · have hw := hw1 hc
      clear hw1 hw2
      refine lv_iload_n hx hb dc_M_again_19 rfl (lv_at hl 1 rfl) ?_
      refine lv_aload_n hx hb dc_M_again_20 rfl (lv_at hl 0 rfl) ?_
      refine va_get (D := (dC, dI)) (ci := 2) (v := .int many12) (C := "FourWordsModel") (T := tb_M) (N := 12) hx hb hts (hu _ um_M) hown hK hP 0 rfl rfl 8 (by decide) (hq mw_t468) (fun _ h9 => h9) rfl dc_M_again_21 ?_
      obtain ⟨hw1, hw2⟩ := hw
      refine lv_icmp_lt (tgt := 33) hx hb dc_M_again_24 (by decide) (fun hc => ?_) (fun hc => ?_)
      · have hw := hw1 hc
        clear hw1 hw2
        refine lv_aload_n hx hb dc_M_again_33 rfl (lv_at hl 0 rfl) ?_
        refine va_get (D := (dC, dI)) (ci := 2) (v := .int many12) (C := "FourWordsModel") (T := tb_M) (N := 12) hx hb hts (hu _ um_M) hown hK hP 0 rfl rfl 8 (by decide) (hq mw_t468) (fun _ h9 => h9) rfl dc_M_again_34 ?_
        refine lv_iconst (v := 1) hx hb dc_M_again_37 (by decide) ?_
        refine lv_isub hx hb dc_M_again_38 ?_
        refine lv_iload_n hx hb dc_M_again_39 rfl (lv_at hl 1 rfl) ?_
        refine lv_isub hx hb dc_M_again_40 ?_
        refine lv_topi (fun v41 e41 => ?_)
        have hw := hw v41 e41
        refine lv_istore_n (lv' := [(2, .int v41), (0, .ref h1), (1, .int x1)]) hx hb dc_M_again_41 rfl hl (Nat.le_of_ble_eq_true rfl) rfl (fun ls hl => ?_)
        refine lv_aload_n hx hb dc_M_again_42 rfl (lv_at hl 1 rfl) ?_
        refine lv_iload_n hx hb dc_M_again_43 rfl (lv_at hl 0 rfl) ?_
        refine lv_aload_n hx hb dc_M_again_44 rfl (lv_at hl 1 rfl) ?_
        refine va_get (D := (dC, dI)) (ci := 2) (v := .ref pA) (C := "FourWordsModel") (T := tb_M) (N := 12) hx hb hts (hu _ um_M) hown hK hP 0 rfl rfl 3 (by decide) (hq mw_t463) (fun _ h9 => h9) rfl dc_M_again_45 ?_
        refine lv_aload_n hx hb dc_M_again_48 rfl (lv_at hl 1 rfl) ?_
        refine va_get (D := (dC, dI)) (ci := 2) (v := .ref pW) (C := "FourWordsModel") (T := tb_M) (N := 12) hx hb hts (hu _ um_M) hown hK hP 0 rfl rfl 1 (by decide) (hq mw_t461) (fun _ h9 => h9) rfl dc_M_again_49 ?_
        refine lv_iload_n hx hb dc_M_again_52 rfl (lv_at hl 0 rfl) ?_
        obtain ⟨hin, hw⟩ := hw
        refine va_iald hx hb hK hP 2 1 rfl rfl hin dc_M_again_53 ?_
        refine lv_iconst (v := 0) hx hb dc_M_again_54 (by decide) ?_
        refine gc_v (S := (Nat → Int32) × (Nat → Int32) × (Nat → Int32) × (Nat → Int32) × (Nat → Int32) × (Nat → Int32) × (Nat → Int32) × (Nat → Int32) × (Nat → Int32) × Int32 × Int32 × Int32) (w1 := (fun u => (wd_M h1 pB pW pS pA pQ pC pR pT pD cJ cI cZ cB u.1 u.2.1 u.2.2.1 u.2.2.2.1 u.2.2.2.2.1 u.2.2.2.2.2.1 u.2.2.2.2.2.2.1 u.2.2.2.2.2.2.2.1 u.2.2.2.2.2.2.2.2.1 u.2.2.2.2.2.2.2.2.2.1 u.2.2.2.2.2.2.2.2.2.2.1 u.2.2.2.2.2.2.2.2.2.2.2))) (wc := (wd_M h1 pB pW pS pA pQ pC pR pT pD cJ cI cZ cB kb12 kw12 ks12 ka12 kq12 kc12 kr12 kt12 kd12 many12 tsz12 thr12)) (wr := ([] : va_W)) (va_runV (As := [.int v41, .ref pA, .int (kw12 v41.toNatClampNeg), .int (0 : Int32)]) (rest := []) ⟨hx, hb, hml, hown, hts⟩ (kt_M_take_a l dC dI cJ cI cZ cB h1 pB pW pS pA pQ pC pR pT pD _ v41 (kw12 v41.toNatClampNeg) (0 : Int32) kb12 kw12 ks12 ka12 kq12 kc12 kr12 kt12 kd12 many12 tsz12 thr12 _ hw) ⟨callB_of 4 hts (gw_in mw_t525) rfl rfl rfl (hq mw_t3) (hq mw_t522) (by decide +kernel) ⟨Nat.le_of_ble_eq_true rfl, Nat.le_of_ble_eq_true rfl⟩, hq mw_t524, hq mw_s37⟩ (pv_W (va_recv (q0 := 0) (ci := 2) hK hP rfl rfl) (hP.sub (ws' := (wd_M h1 pB pW pS pA pQ pC pR pT pD cJ cI cZ cB kb12 kw12 ks12 ka12 kq12 kc12 kr12 kt12 kd12 many12 tsz12 thr12)) [0, 1, 2, 3, 4, 5, 6, 7, 8, 9] rfl) hK (hD.sub (ws' := (wd_M h1 pB pW pS pA pQ pC pR pT pD cJ cI cZ cB kb12 kw12 ks12 ka12 kq12 kc12 kr12 kt12 kd12 many12 tsz12 thr12)) [0, 1, 2, 3, 4, 5, 6, 7, 8, 9] (by decide) rfl) hE) rfl rfl hl.1 rfl (lv_room (Nat.le_of_ble_eq_true rfl)) dc_M_again_55 ⟨Nat.le_of_ble_eq_true rfl, Nat.le_of_ble_eq_true rfl⟩) hP hD hS hA [0, 1, 2, 3, 4, 5, 6, 7, 8, 9] [] rfl rfl (by decide) (by decide) (fun u H locs hw hP hD hS => ?_)
        obtain ⟨kb55, kw55, ks55, ka55, kq55, kc55, kr55, kt55, kd55, many55, tsz55, thr55⟩ := u
        have hP : va_P (dC, dI) cs_3 (wd_M h1 pB pW pS pA pQ pC pR pT pD cJ cI cZ cB kb55 kw55 ks55 ka55 kq55 kc55 kr55 kt55 kd55 many55 tsz55 thr55) H := hP.sub (ws' := (wd_M h1 pB pW pS pA pQ pC pR pT pD cJ cI cZ cB kb55 kw55 ks55 ka55 kq55 kc55 kr55 kt55 kd55 many55 tsz55 thr55)) [0, 1, 2, 3, 4, 5, 6, 7, 8, 9] rfl
        have hD : va_D A (wd_M h1 pB pW pS pA pQ pC pR pT pD cJ cI cZ cB kb55 kw55 ks55 ka55 kq55 kc55 kr55 kt55 kd55 many55 tsz55 thr55) := hD.sub (ws' := (wd_M h1 pB pW pS pA pQ pC pR pT pD cJ cI cZ cB kb55 kw55 ks55 ka55 kq55 kc55 kr55 kt55 kd55 many55 tsz55 thr55)) [0, 1, 2, 3, 4, 5, 6, 7, 8, 9] (by decide) rfl
        try dsimp only at hw
        refine lv_aload_n hx hb dc_M_again_58 rfl (lv_at hl 1 rfl) ?_
        refine lv_aload_n hx hb dc_M_again_59 rfl (lv_at hl 1 rfl) ?_
        refine va_get (D := (dC, dI)) (ci := 2) (v := .ref pA) (C := "FourWordsModel") (T := tb_M) (N := 12) hx hb hts (hu _ um_M) hown hK hP 0 rfl rfl 3 (by decide) (hq mw_t463) (fun _ h9 => h9) rfl dc_M_again_60 ?_
        refine lv_aload_n hx hb dc_M_again_63 rfl (lv_at hl 1 rfl) ?_
        refine va_get (D := (dC, dI)) (ci := 2) (v := .ref pW) (C := "FourWordsModel") (T := tb_M) (N := 12) hx hb hts (hu _ um_M) hown hK hP 0 rfl rfl 1 (by decide) (hq mw_t461) (fun _ h9 => h9) rfl dc_M_again_64 ?_
        refine lv_iload_n hx hb dc_M_again_67 rfl (lv_at hl 0 rfl) ?_
        obtain ⟨hin, hw⟩ := hw
        refine va_iald hx hb hK hP 2 1 rfl rfl hin dc_M_again_68 ?_
        refine lv_aload_n hx hb dc_M_again_69 rfl (lv_at hl 1 rfl) ?_
        refine va_get (D := (dC, dI)) (ci := 2) (v := .ref pS) (C := "FourWordsModel") (T := tb_M) (N := 12) hx hb hts (hu _ um_M) hown hK hP 0 rfl rfl 2 (by decide) (hq mw_t462) (fun _ h9 => h9) rfl dc_M_again_70 ?_
        refine lv_iload_n hx hb dc_M_again_73 rfl (lv_at hl 0 rfl) ?_
        obtain ⟨hin, hw⟩ := hw
        refine va_zald hx hb hK hP 3 2 rfl rfl hin dc_M_again_74 ?_
        refine gc_v (S := (Nat → Int32) × (Nat → Int32) × (Nat → Int32) × (Nat → Int32) × (Nat → Int32) × (Nat → Int32) × (Nat → Int32) × (Nat → Int32) × (Nat → Int32) × Int32 × Int32 × Int32) (w1 := (fun u => (wd_M h1 pB pW pS pA pQ pC pR pT pD cJ cI cZ cB u.1 u.2.1 u.2.2.1 u.2.2.2.1 u.2.2.2.2.1 u.2.2.2.2.2.1 u.2.2.2.2.2.2.1 u.2.2.2.2.2.2.2.1 u.2.2.2.2.2.2.2.2.1 u.2.2.2.2.2.2.2.2.2.1 u.2.2.2.2.2.2.2.2.2.2.1 u.2.2.2.2.2.2.2.2.2.2.2))) (wc := (wd_M h1 pB pW pS pA pQ pC pR pT pD cJ cI cZ cB kb55 kw55 ks55 ka55 kq55 kc55 kr55 kt55 kd55 many55 tsz55 thr55)) (wr := ([] : va_W)) (va_runV (As := [.ref pA, .int (kw55 v41.toNatClampNeg), .int (ks55 v41.toNatClampNeg)]) (rest := []) ⟨hx, hb, hml, hown, hts⟩ (kt_M_give_a l dC dI cJ cI cZ cB h1 pB pW pS pA pQ pC pR pT pD _ (kw55 v41.toNatClampNeg) (ks55 v41.toNatClampNeg) kb55 kw55 ks55 ka55 kq55 kc55 kr55 kt55 kd55 many55 tsz55 thr55 _ hw) ⟨callB_of 3 hts (gw_in mw_t513) rfl rfl rfl (hq mw_t3) (hq mw_t510) (by decide +kernel) ⟨Nat.le_of_ble_eq_true rfl, Nat.le_of_ble_eq_true rfl⟩, hq mw_t512, hq mw_s35⟩ (pv_W (va_recv (q0 := 0) (ci := 2) hK hP rfl rfl) (hP.sub (ws' := (wd_M h1 pB pW pS pA pQ pC pR pT pD cJ cI cZ cB kb55 kw55 ks55 ka55 kq55 kc55 kr55 kt55 kd55 many55 tsz55 thr55)) [0, 1, 2, 3, 4, 5, 6, 7, 8, 9] rfl) hK (hD.sub (ws' := (wd_M h1 pB pW pS pA pQ pC pR pT pD cJ cI cZ cB kb55 kw55 ks55 ka55 kq55 kc55 kr55 kt55 kd55 many55 tsz55 thr55)) [0, 1, 2, 3, 4, 5, 6, 7, 8, 9] (by decide) rfl) hE) rfl rfl hl.1 rfl (lv_room (Nat.le_of_ble_eq_true rfl)) dc_M_again_75 ⟨Nat.le_of_ble_eq_true rfl, Nat.le_of_ble_eq_true rfl⟩) hP hD hS hA [0, 1, 2, 3, 4, 5, 6, 7, 8, 9] [] rfl rfl (by decide) (by decide) (fun u H locs hw hP hD hS => ?_)
        obtain ⟨kb75, kw75, ks75, ka75, kq75, kc75, kr75, kt75, kd75, many75, tsz75, thr75⟩ := u
        have hP : va_P (dC, dI) cs_3 (wd_M h1 pB pW pS pA pQ pC pR pT pD cJ cI cZ cB kb75 kw75 ks75 ka75 kq75 kc75 kr75 kt75 kd75 many75 tsz75 thr75) H := hP.sub (ws' := (wd_M h1 pB pW pS pA pQ pC pR pT pD cJ cI cZ cB kb75 kw75 ks75 ka75 kq75 kc75 kr75 kt75 kd75 many75 tsz75 thr75)) [0, 1, 2, 3, 4, 5, 6, 7, 8, 9] rfl
        have hD : va_D A (wd_M h1 pB pW pS pA pQ pC pR pT pD cJ cI cZ cB kb75 kw75 ks75 ka75 kq75 kc75 kr75 kt75 kd75 many75 tsz75 thr75) := hD.sub (ws' := (wd_M h1 pB pW pS pA pQ pC pR pT pD cJ cI cZ cB kb75 kw75 ks75 ka75 kq75 kc75 kr75 kt75 kd75 many75 tsz75 thr75)) [0, 1, 2, 3, 4, 5, 6, 7, 8, 9] (by decide) rfl
        try dsimp only at hw
        exact W.vret hx hb hr (fun t ht hW => ⟨⟨(kb75, kw75, ks75, ka75, kq75, kc75, kr75, kt75, kd75, many75, tsz75, thr75), rfl, hw, by rw [ht]; exact hP, va_K.moved hW.alike hK, hD⟩, hS.F ht⟩) hS.2.2 dc_M_again_78
      · have hw := hw2 hc
        clear hw1 hw2
        refine lv_aload_n hx hb dc_M_again_27 rfl (lv_at hl 0 rfl) ?_
        refine lv_iconst (v := 2) hx hb dc_M_again_28 (by decide) ?_
        refine va_put (D := (dC, dI)) (ci := 2) (v := .int (2 : Int32)) (ty := .int) (C := "FourWordsModel") (T := tb_M) (N := 12) hx hb hts (hu _ um_M) ft_M fk_M fn_M hown hK hP hD hS 0 rfl rfl 10 (by decide) (hq mw_t470) (fun _ h9 => h9) rfl (by decide +kernel) rfl rfl (Nat.le_of_ble_eq_true rfl) dc_M_again_29 (fun H locs hP hD hS => ?_)
        have hP : va_P (dC, dI) cs_3 (wd_M h1 pB pW pS pA pQ pC pR pT pD cJ cI cZ cB kb12 kw12 ks12 ka12 kq12 kc12 kr12 kt12 kd12 many12 tsz12 (2 : Int32)) H := hP
        have hD : va_D A (wd_M h1 pB pW pS pA pQ pC pR pT pD cJ cI cZ cB kb12 kw12 ks12 ka12 kq12 kc12 kr12 kt12 kd12 many12 tsz12 (2 : Int32)) := hD
        exact W.vret hx hb hr (fun t ht hW => ⟨⟨(kb12, kw12, ks12, ka12, kq12, kc12, kr12, kt12, kd12, many12, tsz12, (2 : Int32)), rfl, hw, by rw [ht]; exact hP, va_K.moved hW.alike hK, hD⟩, hS.F ht⟩) hS.2.2 dc_M_again_32
    · have hw := hw2 hc
      clear hw1 hw2
      exact W.vret hx hb hr (fun t ht hW => ⟨⟨(kb12, kw12, ks12, ka12, kq12, kc12, kr12, kt12, kd12, many12, tsz12, thr12), rfl, hw, by rw [ht]; exact hP, va_K.moved hW.alike hK, hD⟩, hS.F ht⟩) hS.2.2 dc_M_again_18
  unfold wp_M_again at hw
  refine lv_aload_n hx hb dc_M_again_0 rfl (lv_at hl 0 rfl) ?_
  refine lv_iload_n hx hb dc_M_again_1 rfl (lv_at hl 1 rfl) ?_
  obtain ⟨hw1, hw2⟩ := hw
  refine lv_if_ge (tgt := 9) hx hb dc_M_again_2 (by decide) (fun hc => ?_) (fun hc => ?_)
  · have hw := hw1 hc
    clear hw1 hw2
    refine lv_iconst (v := 0) hx hb dc_M_again_9 (by decide) ?_
    exact B_10 _ _ _ a1 (0 : Int32) kb kw ks ka kq kc kr kt kd many tsz thr hw hP hD hS (lv_sub hl [0, 1] rfl)
  · have hw := hw2 hc
    clear hw1 hw2
    refine lv_iconst (v := 1) hx hb dc_M_again_5 (by decide) ?_
    refine lv_goto (tgt := 10) hx hb dc_M_again_6 (by decide) ?_
    exact B_10 _ _ _ a1 (1 : Int32) kb kw ks ka kq kc kr kt kd many tsz thr hw hP hD hS (lv_sub hl [0, 1] rfl)
